/-! the reference reads the text -/
section PARSE
variable {T : Nat → Nat} {L : Nat}
def Rg (T : Nat → Nat) (L i : Nat) (s : sT) (acc : List oT) : rT := goA T L (L - i) i s acc
theorem Rg_L {s : sT} {acc : List oT} : Rg T L L s acc = if (s.isNone && !acc.isEmpty) = true then .inr acc else .inl L := by
  unfold Rg
  rw [Nat.sub_self]
  rfl
theorem Rg_n {i : Nat} {s : sT} {acc : List oT} (hi : i < L) (h : stp s (T i) = none) : Rg T L i s acc = .inl i := by
  unfold Rg
  rw [show L - i = L - (i + 1) + 1 by omega]
  simp only [goA, h]
theorem Rg_s {i : Nat} {s s2 : sT} {em : Option oT} {acc : List oT} (hi : i < L) (h : stp s (T i) = some (s2, em)) : Rg T L i s acc = Rg T L (i + 1) s2 (acc ++ em.toList) := by
  unfold Rg
  rw [show L - i = L - (i + 1) + 1 by omega]
  simp only [goA, h]
abbrev cl (l e : Nat) (nm : Nat → Int32) : sT := some (l, e, 0, 0, false, nm)
abbrev dig (c : Nat) : Prop := 48 ≤ c ∧ c ≤ 57
theorem Rg_i {l e v f : Nat} {g : Bool} {nm : Nat → Int32} {acc : List oT} : Rg T L L (some (l, e, v, f, g, nm)) acc = .inl L := by
  rw [Rg_L]; simp
theorem stp_sp {l e : Nat} {nm : Nat → Int32} : stp (cl l e nm) 32 = some (cl l e nm, none) := by
  simp [stp, enE, enN]
theorem Rg_sp0 {i : Nat} {acc : List oT} (hi : i < L) (h : T i = 32) : Rg T L i none acc = Rg T L (i + 1) none acc := by
  rw [Rg_s (em := none) (s2 := none) hi (by rw [h]; simp [stp])]; simp
theorem Rg_sp1 {i l e : Nat} {nm : Nat → Int32} {acc : List oT} (hi : i < L) (h : T i = 32) : Rg T L i (cl l e nm) acc = Rg T L (i + 1) (cl l e nm) acc := by
  rw [Rg_s (em := none) (s2 := cl l e nm) hi (by rw [h]; exact stp_sp)]; simp
theorem Rg_pn {i l e v f : Nat} {g : Bool} {nm : Nat → Int32} {acc : List oT} (hi : i ≤ L) (hf : f ≠ 0) (hd : i < L → ¬ dig (T i)) : Rg T L i (some (l, e, v, f, g, nm)) acc = Rg T L i (cl l (e + 1) (upI nm e (sgI g v))) acc := by
  by_cases h : i < L
  · have hnd := hd h
    have e1 : stp (some (l, e, v, f, g, nm)) (T i) = stp (cl l (e + 1) (upI nm e (sgI g v))) (T i) := by
      simp only [stp]
      rw [if_neg hnd, if_neg hnd, if_neg (show ¬ (g = true ∧ f = 0) from fun h => hf h.2)]
      simp only [enE, enN, if_neg hf, if_true]
      rw [if_neg (show ¬ (false = true ∧ True) from fun h => absurd h.1 (by decide))]
    unfold Rg
    rw [show L - i = L - (i + 1) + 1 by omega]
    simp only [goA, e1]
  · obtain rfl : i = L := by omega
    rw [Rg_i, Rg_i]
theorem Rg_dg {i l e v f : Nat} {g : Bool} {nm : Nat → Int32} {acc : List oT} (hi : i < L) (hd : dig (T i)) (he : e < nw l) (hf : f < 5) : Rg T L i (some (l, e, v, f, g, nm)) acc = Rg T L (i + 1) (some (l, e, 10 * v + (T i - 48), f + 1, g, nm)) acc := by
  rw [Rg_s (em := none) (s2 := some (l, e, 10 * v + (T i - 48), f + 1, g, nm)) hi (by simp only [stp]; rw [if_pos hd, if_neg (by omega)])]; simp
theorem Rg_d5 {i l e v f : Nat} {g : Bool} {nm : Nat → Int32} {acc : List oT} (hi : i < L) (hd : dig (T i)) (hf : nw l ≤ e ∨ 5 ≤ f) : Rg T L i (some (l, e, v, f, g, nm)) acc = .inl i :=
  Rg_n hi (by simp only [stp]; rw [if_pos hd, if_pos hf])
/-- no figure where a number must begin -/
theorem Rg_b0 {i l e : Nat} {nm : Nat → Int32} {acc : List oT} (hi : i ≤ L) (he : e < nw l) (hs : i < L → T i ≠ 32) (hd : i < L → ¬ dig (T i)) (hm : i < L → ¬ (T i = 45 ∧ (l = 115 ∧ 0 < e))) : Rg T L i (cl l e nm) acc = .inl i := by
  by_cases h : i < L
  · have h1 := hs h
    have h2 := hd h
    have h3 := hm h
    refine Rg_n h ?_
    simp only [stp]
    rw [if_neg h2, if_neg (fun h => absurd h.1 (by decide))]
    simp only [enE, if_true]
    by_cases c1 : T i = 45
    · rw [if_pos c1, if_neg (fun hh => h3 ⟨c1, hh.1, by omega⟩)]
    · rw [if_neg c1]
      by_cases c2 : T i = 59
      · rw [if_pos c2, if_neg (by omega)]
      · rw [if_neg c2, if_neg h1]
  · obtain rfl : i = L := by omega
    exact Rg_i
theorem Rg_mn {i l e : Nat} {nm : Nat → Int32} {acc : List oT} (hi : i < L) (h : T i = 45) (hl : l = 115) (he0 : 0 < e) (he : e < nw l) : Rg T L i (cl l e nm) acc = Rg T L (i + 1) (some (l, e, 0, 0, true, nm)) acc := by
  have : nw 115 = 3 := by decide
  rw [hl, this] at he
  rw [Rg_s (em := none) (s2 := some (l, e, 0, 0, true, nm)) hi (by
    simp only [stp, h]
    rw [if_neg (by omega), if_neg (fun h => absurd h.1 (by decide)), if_pos trivial]
    simp only [enE, enN, if_true]
    rw [if_pos ⟨hl, by omega⟩])]; simp
theorem Rg_m0 {i l e : Nat} {nm : Nat → Int32} {acc : List oT} (hi : i ≤ L) (hd : i < L → ¬ dig (T i)) : Rg T L i (some (l, e, 0, 0, true, nm)) acc = .inl i := by
  by_cases h : i < L
  · refine Rg_n h ?_
    simp only [stp]
    rw [if_neg (hd h), if_pos ⟨trivial, trivial⟩]
  · obtain rfl : i = L := by omega
    exact Rg_i
/-- the end of an order -/
theorem Rg_e0 {i l : Nat} {nm : Nat → Int32} {acc : List oT} (hi : i ≤ L) (hs : i < L → T i ≠ 32) (he : i < L → T i ≠ 59) : Rg T L i (cl l (nw l) nm) acc = .inl i := by
  by_cases h : i < L
  · have h1 := hs h
    have h2 := he h
    refine Rg_n h ?_
    simp only [stp]
    by_cases hd : 48 ≤ T i ∧ T i ≤ 57
    · rw [if_pos hd, if_pos (Or.inl (Nat.le_refl _))]
    · rw [if_neg hd, if_neg (fun h => absurd h.1 (by decide))]
      simp only [enE, if_true]
      by_cases c1 : T i = 45
      · rw [if_pos c1, if_neg (fun hh => by
          have : nw 115 = 3 := by decide
          rw [hh.1, this] at hh
          omega)]
      · rw [if_neg c1, if_neg h2, if_neg h1]
  · obtain rfl : i = L := by omega
    exact Rg_i
theorem Rg_e1 {i l : Nat} {nm : Nat → Int32} {acc : List oT} (hi : i < L) (h : T i = 59) : Rg T L i (cl l (nw l) nm) acc = Rg T L (i + 1) none (acc ++ [(l, nm)]) := by
  rw [Rg_s (em := some (l, nm)) (s2 := none) hi (by
    simp only [stp, h]
    rw [if_neg (by omega), if_neg (fun h => absurd h.1 (by decide)), if_neg (by omega), if_pos trivial]
    simp only [enE, enN, if_true])]
  rfl
theorem Rg_l0 {i : Nat} {acc : List oT} (hi : i < L) (h1 : T i ≠ 32) (h2 : ¬ isLt (T i)) : Rg T L i none acc = .inl i :=
  Rg_n hi (by simp only [stp]; rw [if_neg h1, if_neg h2])
theorem Rg_l1 {i : Nat} {acc : List oT} (hi : i < L) (h2 : isLt (T i)) : Rg T L i none acc = Rg T L (i + 1) (cl (T i) 0 (fun _ => 0)) acc := by
  have h1 : T i ≠ 32 := by rcases h2 with h | h | h | h | h <;> omega
  rw [Rg_s (em := none) (s2 := cl (T i) 0 (fun _ => 0)) hi (by simp only [stp]; rw [if_neg h1, if_pos h2])]; simp
end PARSE
def TM (μ : xM) (L : Nat) (T : Nat → Nat) : Prop := μ.1 104 17 = nI L ∧ (∀ i, i < L → μ.1 117 i = nI (T i)) ∧ L ≤ 150 ∧ ∀ i, i < L → T i < 128
def FP (μ ν : xM) : Prop := fr (fun q => q = 104 ∨ q = 118 ∨ q = 119) μ ν ∧ ∀ j, j ≠ 18 → j ≠ 19 → j ≠ 20 → ν.1 104 j = μ.1 104 j
theorem FP_rf {μ : xM} : FP μ μ := ⟨fr_rf, fun _ _ _ _ => rfl⟩
theorem FP_tr {μ ν κ : xM} (h1 : FP μ ν) (h2 : FP ν κ) : FP μ κ := ⟨fr_tr h1.1 h2.1, fun j a b c => (h2.2 j a b c).trans (h1.2 j a b c)⟩
theorem FP_TM {μ ν : xM} {L : Nat} {T : Nat → Nat} (h : FP μ ν) (ht : TM μ L T) : TM ν L T := by
  unfold TM
  rw [h.2 17 (by decide) (by decide) (by decide), (h.1 117 (by decide)).1]
  exact ht
/-- only the place changes -/
def F8 (μ ν : xM) : Prop := fr (fun q => q = 104) μ ν ∧ ∀ j, j ≠ 18 → ν.1 104 j = μ.1 104 j
theorem F8_rf {μ : xM} : F8 μ μ := ⟨fr_rf, fun _ _ => rfl⟩
theorem F8_tr {μ ν κ : xM} (h1 : F8 μ ν) (h2 : F8 ν κ) : F8 μ κ := ⟨fr_tr h1.1 h2.1, fun j a => (h2.2 j a).trans (h1.2 j a)⟩
theorem F8_xi {μ : xM} {v : Int32} : F8 μ (xi μ 104 18 v) := ⟨fr_xi rfl, fun j hj => x_d hj⟩
theorem F8_FP {μ ν : xM} (h : F8 μ ν) : FP μ ν := ⟨fr_mono h.1 (fun q e => Or.inl e), fun j a _ _ => h.2 j a⟩
/-- only place and fault change -/
def F9 (μ ν : xM) : Prop := fr (fun q => q = 104) μ ν ∧ ∀ j, j ≠ 18 → j ≠ 19 → ν.1 104 j = μ.1 104 j
theorem F9_rf {μ : xM} : F9 μ μ := ⟨fr_rf, fun _ _ _ => rfl⟩
theorem F9_tr {μ ν κ : xM} (h1 : F9 μ ν) (h2 : F9 ν κ) : F9 μ κ := ⟨fr_tr h1.1 h2.1, fun j a b => (h2.2 j a b).trans (h1.2 j a b)⟩
theorem F9_8 {μ ν : xM} (h : F8 μ ν) : F9 μ ν := ⟨h.1, fun j a _ => h.2 j a⟩
theorem F9_xi {μ : xM} {v : Int32} : F9 μ (xi μ 104 19 v) := ⟨fr_xi rfl, fun j _ hj => x_d hj⟩
theorem F9_FP {μ ν : xM} (h : F9 μ ν) : FP μ ν := ⟨fr_mono h.1 (fun q e => Or.inl e), fun j a b _ => h.2 j a b⟩
theorem v150 {k : Nat} (h : k < 150) : vp_in (nI k) 150 := vp_in_nI h (by decide)
theorem l_here {μ : xM} {L : Nat} {T : Nat → Nat} (ht : TM μ L T) {i0 : Nat} {K : xM → Prop} (hK : ∀ k κ, i0 ≤ k → k ≤ L → (k < L → T k ≠ 32) → (∀ x, i0 ≤ x → x < k → T x = 32) → F8 μ κ → κ.1 104 18 = nI k → K κ) : ∀ f i ν, i + f = L → i0 ≤ i → (∀ x, i0 ≤ x → x < i → T x = 32) → F8 μ ν → ν.1 104 18 = nI i → L_X12_here_0 104 (f + 1) ν K
  | 0, i, ν, hi, h1, h2, F, e8 => by
    obtain rfl : i = L := by omega
    have ht2 := FP_TM (F8_FP F) ht
    unfold L_X12_here_0 B_X12_here_0
    rw [ht2.1, e8]
    exact ⟨fun _ => hK i ν h1 (Nat.le_refl _) (fun h => absurd h (Nat.lt_irrefl _)) h2 F e8, fun h => absurd (nI_le (Nat.le_refl _) (by have := ht.2.2.1; omega)) h⟩
  | f + 1, i, ν, hi, h1, h2, F, e8 => by
    have ht2 := FP_TM (F8_FP F) ht
    have hL := ht.2.2.1
    have hc := ht.2.2.2 i (by omega)
    unfold L_X12_here_0 B_X12_here_0
    simp only [shm, ht2.1, e8, nI_clamp (show i < 2 ^ 31 by omega), ht2.2.1 i (by omega), forall_eq, nI_1]
    refine ⟨fun h => absurd h (nI_ge (by omega) (by omega)), fun _ => ⟨v150 (by omega), ?_⟩⟩
    rw [show (32 : Int32) = nI 32 from rfl, nI_eq (by omega) (by decide)]
    refine ⟨fun e => hK i ν h1 (by omega) (fun _ => e) h2 F e8, fun e => ?_⟩
    refine l_here ht hK f (i + 1) _ (by omega) (by omega) (fun x a b => ?_) (F8_tr F F8_xi) x_s
    by_cases ex : x = i
    · rw [ex]; exact e
    · exact h2 x a (by omega)
theorem e_here {μ : xM} {L : Nat} {T : Nat → Nat} (ht : TM μ L T) {i : Nat} (hi : i ≤ L) (e8 : μ.1 104 18 = nI i) {Q : Int32 → xM → Prop} (hQ : ∀ k κ, i ≤ k → k ≤ L → (k < L → T k ≠ 32) → (∀ x, i ≤ x → x < k → T x = 32) → F8 μ κ → κ.1 104 18 = nI k → Q (if k < L then nI (T k) else -1) κ) : p_X12_here 104 μ Q := by
  unfold p_X12_here
  refine ⟨L - i + 1, l_here ht (i0 := i) (fun k κ a b c d F e => ?_) (L - i) i μ (by omega) (Nat.le_refl _) (fun x a b => by omega) F8_rf e8⟩
  have ht2 := FP_TM (F8_FP F) ht
  have hL := ht.2.2.1
  have hq := hQ k κ a b c d F e
  simp only [shm, ht2.1, e, nI_clamp (show k < 2 ^ 31 by omega)]
  rw [nI_leI (by omega) (by omega)]
  refine ⟨fun h => ?_, fun h => ⟨v150 (by omega), ?_⟩⟩
  · rw [if_neg (by omega)] at hq; exact hq
  · rw [if_pos (by omega)] at hq
    rw [ht2.2.1 k (by omega)]; exact hq
theorem Rg_h0 {T : Nat → Nat} {L : Nat} {acc : List oT} : ∀ d i k, i + d = k → k ≤ L → (∀ x, i ≤ x → x < k → T x = 32) → Rg T L i none acc = Rg T L k none acc
  | 0, i, k, h, _, _ => by rw [show i = k by omega]
  | d + 1, i, k, h, hk, hx => by rw [Rg_sp0 (by omega) (hx i (by omega) (by omega)), Rg_h0 d (i + 1) k (by omega) hk (fun x a b => hx x (by omega) b)]
theorem Rg_h1 {T : Nat → Nat} {L l e : Nat} {nm : Nat → Int32} {acc : List oT} : ∀ d i k, i + d = k → k ≤ L → (∀ x, i ≤ x → x < k → T x = 32) → Rg T L i (cl l e nm) acc = Rg T L k (cl l e nm) acc
  | 0, i, k, h, _, _ => by rw [show i = k by omega]
  | d + 1, i, k, h, hk, hx => by rw [Rg_sp1 (by omega) (hx i (by omega) (by omega)), Rg_h1 d (i + 1) k (by omega) hk (fun x a b => hx x (by omega) b)]
theorem e_fig {μ : xM} {L i : Nat} {T : Nat → Nat} (ht : TM μ L T) (hi : i ≤ L) (e8 : μ.1 104 18 = nI i) {Q : Int32 → xM → Prop} : p_X12_isFigure 104 μ Q ↔ Q (if i < L ∧ dig (T i) then 1 else 0) μ := by
  have hL := ht.2.2.1
  unfold p_X12_isFigure
  simp only [shm, ht.1, e8, nI_clamp (show i < 2 ^ 31 by omega), e_in, y_b0]
  rw [nI_leI (by omega) (by omega)]
  by_cases h : i < L
  · have hc := ht.2.2.2 i h
    rw [ht.2.1 i h, show (48 : Int32) = nI 48 from rfl, show (57 : Int32) = nI 57 from rfl]
    have e1 : (nI 48 ≤ nI (T i) ∧ nI (T i) ≤ nI 57) ↔ dig (T i) := by rw [nI_leI (by decide) (by omega), nI_leI (by omega) (by decide)]
    by_cases hd : dig (T i)
    · rw [if_pos ⟨h, hd⟩]
      constructor
      · intro x; exact ((x.2 (by omega)).2).2 (fun h => h (e1.mpr hd))
      · intro x; exact ⟨fun h' => by omega, fun _ => ⟨v150 (by omega), fun h' => absurd (e1.mpr hd) h', fun _ => x⟩⟩
    · rw [if_neg (fun h' => hd h'.2)]
      constructor
      · intro x; exact ((x.2 (by omega)).2).1 (fun h => hd (e1.mp h))
      · intro x; exact ⟨fun h' => by omega, fun _ => ⟨v150 (by omega), fun _ => x, fun h' => absurd (fun h => hd (e1.mp h)) h'⟩⟩
  · rw [if_neg (fun h' => h h'.1)]
    constructor
    · intro x; exact x.1 (by omega)
    · intro x; exact ⟨fun _ => x, fun h' => absurd (by omega) h'⟩
theorem e_must1 {μ : xM} {b : Int32} (hb : ¬ b = 0) {Q : xM → Prop} (hQ : Q μ) : p_X12_must 104 b μ Q := by
  unfold p_X12_must
  exact ⟨fun _ => hQ, fun _ => ⟨fun _ => hQ, fun h => absurd h hb⟩⟩
theorem e_must0 {μ : xM} (h9 : μ.1 104 19 = -1) {Q : xM → Prop} (hQ : Q (xi μ 104 19 (μ.1 104 18))) : p_X12_must 104 0 μ Q := by
  unfold p_X12_must
  exact ⟨fun h => absurd h9 h, fun _ => ⟨fun h => absurd rfl h, fun _ μ3 e => by rw [e]; exact hQ⟩⟩
