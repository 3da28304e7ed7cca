/-! the reference goes on from order to order -/
def OR (μ : xM) (n : Nat) (a : Nat → Nat) : Prop := ∀ i, i < n → μ.1 111 i = nI (a i)
theorem v6 {k : Nat} (h : k < 6) : vp_in (nI k) 6 := vp_in_nI h (by decide)
theorem OR_ext {μ ν : xM} {n : Nat} {a b : Nat → Nat} (h : ∀ i, i < n → ν.1 111 i = μ.1 111 i) (hab : ∀ i, i < n → a i = b i) (ho : OR μ n a) : OR ν n b := fun i hi => by rw [h i hi, ho i hi, hab i hi]
theorem e_exch {μ : xM} {n i j : Nat} {a : Nat → Nat} (hn : n ≤ 6) (ho : OR μ n a) (hi : i < n) (hj : j < n) {Q : xM → Prop} (hQ : ∀ ν, fr (fun q => q = 111) μ ν → OR ν n (sw a i j) → Q ν) : p_X12_exchange 104 (nI i) (nI j) μ Q := by
  unfold p_X12_exchange
  simp only [shm, forall_eq]
  rw [nI_clamp (by omega), nI_clamp (by omega)]
  refine ⟨v6 (by omega), v6 (by omega), v6 (by omega), v6 (by omega), ?_⟩
  refine hQ _ (fr_tr (fr_xi rfl) (fr_xi rfl)) ?_
  intro x hx
  unfold sw
  rw [y_xi, y_xi, ho i hi, ho j hj]
  by_cases e1 : x = j
  · rw [if_pos ⟨rfl, e1⟩, e1, up1_s]
  · rw [if_neg (fun h => e1 h.2), up1_n e1]
    by_cases e2 : x = i
    · rw [if_pos ⟨rfl, e2⟩, e2, up1_s]
    · rw [if_neg (fun h => e2 h.2), up1_n e2, ho x hx]
theorem fI_le (a : Nat → Nat) : ∀ m, fI a m ≤ m
  | 0 => Nat.le_refl _
  | m + 1 => by
    have := fI_le a m
    simp only [fI]
    split <;> omega
theorem fI_ok (a : Nat → Nat) : ∀ m, fI a m ≠ 0 → a (fI a m - 1) ≤ a (fI a m)
  | 0, h => absurd rfl h
  | m + 1, h => by
    simp only [fI] at h ⊢
    by_cases hb : Nat.ble (a m) (a (m + 1)) = true
    · rw [if_pos hb]; exact Nat.le_of_ble_eq_true hb
    · rw [if_neg hb] at h ⊢; exact fI_ok a m h
theorem fJ_le (a : Nat → Nat) (v : Nat) : ∀ m, fJ a v m ≤ m
  | 0 => Nat.le_refl _
  | m + 1 => by
    have := fJ_le a v m
    simp only [fJ]
    split <;> omega
theorem ble_f {a b : Nat} (h : ¬ Nat.ble a b = true) : ¬ a ≤ b := fun e => h (Nat.ble_eq_true_of_le e)
theorem l_g9 {μ : xM} {n : Nat} {a : Nat → Nat} (hn : n ≤ 6) (ho : OR μ n a) (hb : ∀ i, i < n → a i < n) {K : Int32 → xM → Prop} : ∀ m, m < n → K (nI (fI a m) - 1) μ → L_X12_goesOn_9 104 (m + 1) (nI m - 1) μ K
  | 0, hm, hK => by
    unfold L_X12_goesOn_9 B_X12_goesOn_9
    exact ⟨fun _ => hK, fun h => absurd (by decide) h⟩
  | m + 1, hm, hK => by
    unfold L_X12_goesOn_9 B_X12_goesOn_9
    simp only [nI_pred, nI_1, shm, forall_eq]
    refine ⟨fun h => absurd h (nI_pos (by omega)), fun _ => ⟨v6 (by omega), v6 (by omega), ?_⟩⟩
    have b1 := hb m (by omega)
    have b2 := hb (m + 1) (by omega)
    rw [nI_clamp (by omega), nI_clamp (by omega), ho m (by omega), ho (m + 1) hm, nI_leI (by omega) (by omega), show nI m + -1 = nI m - 1 by grind]
    simp only [fI] at hK
    refine ⟨fun h => ?_, fun h => ?_⟩
    · rw [if_pos (Nat.ble_eq_true_of_le h), nI_pred] at hK; exact hK
    · rw [if_neg (fun e => h (Nat.le_of_ble_eq_true e))] at hK
      exact l_g9 hn ho hb m (by omega) hK
theorem l_g51 {μ : xM} {n i : Nat} {a : Nat → Nat} (hn : n ≤ 6) (ho : OR μ n a) (hb : ∀ i, i < n → a i < n) (hi : i + 1 < n) (hle : a i ≤ a (i + 1)) {K : Int32 → xM → Prop} : ∀ j, j < n → i + 1 ≤ j → K (nI (fJ a (a i) j)) μ → L_X12_goesOn_51 104 (nI i) (j + 1) (nI j) μ K
  | 0, hj, h1, hK => by omega
  | j + 1, hj, h1, hK => by
    unfold L_X12_goesOn_51 B_X12_goesOn_51
    simp only [shm, forall_eq]
    have b1 := hb i (by omega)
    have b2 := hb (j + 1) (by omega)
    rw [nI_clamp (by omega), nI_clamp (by omega), ho i (by omega), ho (j + 1) hj, nI_leI (by omega) (by omega)]
    refine ⟨v6 (by omega), v6 (by omega), ?_⟩
    simp only [fJ] at hK
    refine ⟨fun h => ?_, fun h => ?_⟩
    · rw [if_pos (Nat.ble_eq_true_of_le h)] at hK; exact hK
    · rw [if_neg (fun e => h (Nat.le_of_ble_eq_true e))] at hK
      rw [show nI (j + 1) + -1 = nI (j + 1) - 1 by grind, nI_pred]
      have : j ≠ i := fun e => h (by rw [e]; exact hle)
      exact l_g51 hn ho hb hi hle j (by omega) (by omega) hK
theorem l_g92 {μ : xM} {n : Nat} (hn : n ≤ 6) {K : xM → Prop} : ∀ f lo hi a ν, hi < n → lo ≤ n → hi ≤ lo + f → fr (fun q => q = 111) μ ν → OR ν n a → (∀ κ, fr (fun q => q = 111) μ κ → OR κ n (rv f a lo hi) → K κ) → L_X12_goesOn_92 104 (f + 1) (nI lo) (nI hi) ν K
  | 0, lo, hi, a, ν, h1, h3, h2, hf, ho, hK => by
    unfold L_X12_goesOn_92 B_X12_goesOn_92
    exact ⟨fun _ => hK ν hf ho, fun h => absurd (nI_le (by omega) (by omega)) h⟩
  | f + 1, lo, hi, a, ν, h1, h3, h2, hf, ho, hK => by
    unfold L_X12_goesOn_92 B_X12_goesOn_92
    rw [nI_leI (by omega) (by omega)]
    refine ⟨fun h => hK ν hf ?_, fun h => ?_⟩
    · simp only [rv]
      rw [if_pos (Nat.ble_eq_true_of_le h)]
      exact ho
    · refine e_exch hn ho (by omega) h1 (fun κ F oK => ?_)
      simp only [forall_eq, nI_1]
      obtain ⟨g, rfl⟩ : ∃ g, hi = g + 1 := ⟨hi - 1, by omega⟩
      rw [show nI (g + 1) + -1 = nI (g + 1) - 1 by grind, nI_pred]
      refine l_g92 hn f (lo + 1) g (sw a lo (g + 1)) κ (by omega) (by omega) (by omega) (fr_tr hf F) oK (fun κ2 F2 o2 => hK κ2 F2 ?_)
      simp only [rv]
      rw [if_neg (fun e => h (Nat.le_of_ble_eq_true e))]
      exact o2
theorem e_goes {μ : xM} {n : Nat} {a : Nat → Nat} (hn : n ≤ 6) (h0 : μ.1 105 0 = nI n) (ho : OR μ n a) (hb : ∀ i, i < n → a i < n) {Q : Int32 → xM → Prop} (hF : nxB n a = false → Q 0 μ) (hT : nxB n a = true → ∀ ν, fr (fun q => q = 111) μ ν → OR ν n (nxO n a) → Q 1 ν) : p_X12_goesOn 104 μ Q := by
  unfold p_X12_goesOn
  simp only [shm, clamp0, h0, forall_eq]
  refine ⟨v131 (k := 0) (by decide), ?_⟩
  cases n with
  | zero =>
    refine ⟨1, ?_⟩
    unfold L_X12_goesOn_9 B_X12_goesOn_9
    refine ⟨fun _ => ?_, fun h => absurd (by decide) h⟩
    unfold J_X12_goesOn_36
    exact ⟨fun h => absurd h (by decide), fun _ => hF (by simp [nxB, fI])⟩
  | succ m =>
    refine ⟨m + 1, ?_⟩
    rw [show nI (m + 1) - (2 : Int32) = nI m - 1 by rw [← nI_1]; grind]
    refine l_g9 hn ho hb m (by omega) ?_
    unfold J_X12_goesOn_36
    unfold nxB at hF hT
    rw [show m + 1 - 1 = m by omega] at hF hT
    by_cases hz : fI a m = 0
    · rw [hz]
      exact ⟨fun h => absurd h (by decide), fun _ => hF (by rw [hz]; decide)⟩
    · have l1 := fI_le a m
      have l2 := fI_ok a m hz
      have hT' := hT (by
        cases hc : Nat.beq (fI a m) 0
        · rfl
        · exact absurd (Nat.eq_of_beq_eq_true hc) hz)
      unfold nxO at hT'
      rw [show m + 1 - 1 = m by omega] at hT'
      obtain ⟨i, hi⟩ : ∃ i, fI a m = i + 1 := ⟨fI a m - 1, by omega⟩
      rw [hi] at hT' l1 l2 ⊢
      rw [show i + 1 - 1 = i by omega] at hT' l2
      rw [nI_pred]
      refine ⟨fun _ => ?_, fun h => absurd (nI_pos' (by omega)) h⟩
      simp only [shm, clamp0, h0, forall_eq, nI_pred]
      refine ⟨v131 (k := 0) (by decide), m + 1, ?_⟩
      refine l_g51 hn ho hb (by omega) l2 m (by omega) l1 ?_
      have l3 := fJ_le a (a i) m
      refine e_exch hn ho (by omega) (by omega) (fun ν F oN => ?_)
      rw [(F 105 (by decide)).1, h0, nI_pred, nI_1]
      refine ⟨v131 (k := 0) (by decide), 7, ?_⟩
      exact l_g92 hn 6 (i + 1) m _ ν (by omega) (by omega) (by omega) F oN (fun κ F2 o2 => hT' κ F2 o2)
def PC (μ : xM) (ρ : Nat → Nat) : Prop := ∀ k, k < ρ 0 → μ.1 113 k = nI (plc ρ k)
theorem l_begin {μ : xM} {ρ : Nat → Nat} {σ : Int32} (hM : MR (μ.1 105) ρ σ) (hW : WF ρ) {K : xM → Prop} (hK : ∀ ν, fr (fun q => q = 111 ∨ q = 113) μ ν → (∀ i, i < 6 → ν.1 111 i = nI i) → PC ν ρ → K ν) : ∀ d i ν, i + d = 6 → fr (fun q => q = 111 ∨ q = 113) μ ν → (∀ j, j < i → ν.1 111 j = nI j) → (∀ j, j < i → j < ρ 0 → ν.1 113 j = nI (plc ρ j)) → L_X12_begin_2 104 (d + 1) (nI i) ν K
  | 0, i, ν, hi, hf, h1, h2 => by
    obtain rfl : i = 6 := by omega
    unfold L_X12_begin_2 B_X12_begin_2
    have := hW.1
    exact ⟨fun _ => hK ν hf h1 (fun k hk => h2 k (by omega) hk), fun h => absurd (by decide) h⟩
  | d + 1, i, ν, hi, hf, h1, h2 => by
    unfold L_X12_begin_2 B_X12_begin_2
    refine ⟨fun h => absurd h (nI_ge (b := 6) (by omega) (by decide)), fun _ => ?_⟩
    simp only [shm, forall_eq, clamp0, nI_1]
    rw [nI_clamp (by omega)]
    have k105 : (xi ν 111 i (nI i)).1 105 = μ.1 105 := by rw [y_xin (by decide), (hf 105 (by decide)).1]
    have hM2 : MR ((xi ν 111 i (nI i)).1 105) ρ σ := by rw [k105]; exact hM
    have h6 := hW.1
    refine ⟨v6 (by omega), v131 (k := 0) (by decide), ?_⟩
    rw [MR_0 hM2, nI_leI (by omega) (by omega)]
    have st : ∀ v, (i < ρ 0 → v = nI (plc ρ i)) → L_X12_begin_2 104 (d + 1) (nI (i + 1)) (xi (xi ν 111 i (nI i)) 113 i v) K := by
      intro v hv
      refine l_begin hM hW hK d (i + 1) _ (by omega) (fr_tr hf (fr_tr (fr_xi (Or.inl rfl)) (fr_xi (Or.inr rfl)))) ?_ ?_
      · intro j hj
        rw [y_xin (by decide), y_xi]
        by_cases e : j = i
        · rw [if_pos ⟨rfl, e⟩, e]
        · rw [if_neg (fun h => e h.2), h1 j (by omega)]
      · intro j hj hj2
        rw [y_xi]
        by_cases e : j = i
        · rw [if_pos ⟨rfl, e⟩, e]; exact hv (by omega)
        · rw [if_neg (fun h => e h.2), y_xin (by decide), h2 j (by omega) hj2]
    refine ⟨fun h => ⟨v6 (by omega), st 0 (fun h' => by omega)⟩, fun h => ?_⟩
    refine e_plcM hM2 (by omega) (hW.2.1 i (by omega)) ?_
    exact ⟨v6 (by omega), st _ (fun _ => rfl)⟩
theorem e_begin {μ : xM} {ρ : Nat → Nat} {σ : Int32} (hM : MR (μ.1 105) ρ σ) (hW : WF ρ) {Q : xM → Prop} (hQ : ∀ ν, fr (fun q => q = 111 ∨ q = 113) μ ν → (∀ i, i < 6 → ν.1 111 i = nI i) → PC ν ρ → Q ν) : p_X12_begin 104 μ Q := by
  unfold p_X12_begin
  exact ⟨7, l_begin hM hW hQ 6 0 μ rfl fr_rf (fun j hj => absurd hj (Nat.not_lt_zero j)) (fun j hj => absurd hj (Nat.not_lt_zero j))⟩
theorem l_isL {μ : xM} {ρ : Nat → Nat} {σ : Int32} {a : Nat → Nat} (hM : MR (μ.1 105) ρ σ) (hW : WF ρ) (ho : OR μ (ρ 0) a) (hb : ∀ i, i < ρ 0 → a i < ρ 0) {K : Int32 → xM → Prop} (hK : K (if lwf ρ a (ρ 0) = true then 1 else 0) μ) : ∀ d i, i + d = ρ 0 → L_X12_isLawful_6 104 (d + 1) (nI i) (if lwf ρ a i = true then 1 else 0) (nI (usd a i)) μ K
  | 0, i, h => by
    obtain rfl : i = ρ 0 := by omega
    unfold L_X12_isLawful_6 B_X12_isLawful_6
    have h6 := hW.1
    simp only [shm, clamp0, MR_0 hM]
    exact ⟨v131 (k := 0) (by decide), fun _ => hK, fun h => absurd (nI_le (Nat.le_refl _) (by omega)) h⟩
  | d + 1, i, h => by
    have ih := l_isL hM hW ho hb hK d (i + 1) (by omega)
    unfold L_X12_isLawful_6 B_X12_isLawful_6
    have h6 := hW.1
    have hi6 : i < 6 := by omega
    have hin : i < ρ 0 := by omega
    have hbi := hb i hin
    have b7 : ρ (7 + 7 * a i) < 64 := (hW.2.1 _ hbi).2.2.2.2.2.2
    simp only [shm, clamp0, MR_0 hM, nI_clamp (show i < 2 ^ 31 by omega), ho i hin, forall_eq, nI_1]
    refine ⟨v131 (k := 0) (by decide), fun h => absurd h (nI_ge hin (by omega)), fun _ => ?_⟩
    have eu : nI (usd a i) ||| ((1 : Int32) <<< (nI (a i) &&& 31)) = nI (usd a (i + 1)) := by
      rw [show (1 : Int32) = nI 1 from rfl, y_shl (by omega), y_or, Nat.one_mul]
      rfl
    rw [eu]
    simp only [lwf] at ih
    by_cases hl : lwf ρ a i = true
    · simp only [hl, Bool.true_and] at ih ⊢
      simp only [if_true]
      refine ⟨fun h => absurd h (by decide), fun _ => ⟨v6 hi6, ?_⟩⟩
      rw [show (6 : Int32) = nI 6 from rfl, e_ofB (by omega) (by decide), show 1 + 6 + 7 * a i = 7 + 7 * a i by omega, (MR_k hM (show a i < 6 by omega)).2.2.2.2.2.2, y_andn]
      have hlt : ndf (ρ (7 + 7 * a i)) (usd a i) < 2 ^ 6 := ndf_lt (n := 6) b7
      rw [show (0 : Int32) = nI 0 from rfl, nI_eq (by omega) (by decide)]
      unfold okL at ih
      simp only [decide_eq_true_eq] at ih
      refine ⟨fun h => ⟨v6 hi6, ?_⟩, fun h => ⟨v6 hi6, ?_⟩⟩
      · rw [if_neg h] at ih; rw [ho i hin, eu]; exact ih
      · rw [if_pos h] at ih; rw [ho i hin, eu]; exact ih
    · have hl' : lwf ρ a i = false := by simpa using hl
      simp only [hl', Bool.false_and, Bool.false_eq_true, if_false] at ih ⊢
      exact ⟨fun _ => ⟨v6 hi6, ih⟩, fun h => absurd trivial h⟩
theorem e_isL {μ : xM} {ρ : Nat → Nat} {σ : Int32} {a : Nat → Nat} (hM : MR (μ.1 105) ρ σ) (hW : WF ρ) (ho : OR μ (ρ 0) a) (hb : ∀ i, i < ρ 0 → a i < ρ 0) {Q : Int32 → xM → Prop} (hQ : Q (if lwf ρ a (ρ 0) = true then 1 else 0) μ) : p_X12_isLawful 104 μ Q := by
  unfold p_X12_isLawful
  refine ⟨ρ 0 + 1, ?_⟩
  exact l_isL hM hW ho hb ⟨nar_b, hQ⟩ (ρ 0) 0 (by omega)
