/-! what an order gives: its smear, its sheet -/
def wtv (ρ : Nat → Nat) (g a m : Nat) : Int32 := nI (ρ (3 + 7 * a)) - nI (m * g)
def wtk (ρ : Nat → Nat) (g a k m : Nat) : Int32 := if wtv ρ g a m ≤ 0 then 0 else wtv ρ g a m * nI (pcN (plc ρ k &&& plc ρ a))
def rowK (ρ : Nat → Nat) (g : Nat) (o : Nat → Nat) (k d : Nat) : Nat → Int32
  | 0 => 0
  | j + 1 => rowK ρ g o k d j + wtk ρ g (o j) k (d - j)
def smrS (ρ : Nat → Nat) (g : Nat) (o : Nat → Nat) : Nat → Int32
  | 0 => 0
  | d + 1 => smrS ρ g o d + rowK ρ g o (o d) d d
theorem rowK_ext {ρ o p : Nat → Nat} {g k d : Nat} : ∀ j, (∀ i, i < j → p i = o i) → rowK ρ g p k d j = rowK ρ g o k d j
  | 0, _ => rfl
  | j + 1, h => by simp only [rowK]; rw [rowK_ext j (fun i hi => h i (by omega)), h j (by omega)]
theorem smrS_ext {ρ o p : Nat → Nat} {g : Nat} : ∀ d, (∀ i, i < d → p i = o i) → smrS ρ g p d = smrS ρ g o d
  | 0, _ => rfl
  | d + 1, h => by simp only [smrS]; rw [smrS_ext d (fun i hi => h i (by omega)), h d (by omega), rowK_ext d (fun i hi => h i (by omega))]
theorem smrS_up {ρ o : Nat → Nat} {g d k : Nat} : smrS ρ g (up1 o d k) (d + 1) = smrS ρ g o d + rowK ρ g o k d d := by
  simp only [smrS]
  rw [smrS_ext (o := o) d (fun i hi => up1_n (by omega)), up1_s, rowK_ext (o := o) d (fun i hi => up1_n (by omega))]
def stC (ρ : Nat → Nat) (o : Nat → Nat) : Nat → (Nat → Nat) × (Nat → Nat) × Nat
  | 0 => (fun _ => 0, fun _ => 0, 0)
  | d + 1 => (prC (ρ (1 + 7 * o d)) (ρ (2 + 7 * o d)) (plc ρ (o d)) (stC ρ o d).2.2 (stC ρ o d).1, prS (ρ (1 + 7 * o d)) (plc ρ (o d)) (stC ρ o d).2.2 (stC ρ o d).2.1, prL (ρ (1 + 7 * o d)) (plc ρ (o d)) (stC ρ o d).2.2)
theorem stC_ext {ρ o p : Nat → Nat} : ∀ d, (∀ i, i < d → p i = o i) → stC ρ p d = stC ρ o d
  | 0, _ => rfl
  | d + 1, h => by simp only [stC]; rw [stC_ext d (fun i hi => h i (by omega)), h d (by omega)]
theorem stC_up {ρ o : Nat → Nat} {d k : Nat} : stC ρ (up1 o d k) (d + 1) = (prC (ρ (1 + 7 * k)) (ρ (2 + 7 * k)) (plc ρ k) (stC ρ o d).2.2 (stC ρ o d).1, prS (ρ (1 + 7 * k)) (plc ρ k) (stC ρ o d).2.2 (stC ρ o d).2.1, prL (ρ (1 + 7 * k)) (plc ρ k) (stC ρ o d).2.2) := by
  simp only [stC]
  rw [stC_ext (o := o) d (fun i hi => up1_n (by omega)), up1_s]
theorem stC_ok {ρ o : Nat → Nat} (hW : WF ρ) : ∀ d, (∀ i, i < d → o i < ρ 0) → (∀ i, i < 16 → (stC ρ o d).1 i < 8) ∧ (∀ i, i < 16 → (stC ρ o d).2.1 i < 10) ∧ (stC ρ o d).2.2 < 65536
  | 0, _ => ⟨fun _ _ => by simp [stC], fun _ _ => by simp [stC], by simp [stC]⟩
  | d + 1, h => by
    obtain ⟨h1, h2, h3⟩ := stC_ok hW d (fun i hi => h i (by omega))
    have hb := hW.2.1 _ (h d (by omega))
    exact ⟨fun i hi => prC_lt hb.2.1.2 (h1 i hi), fun i hi => prS_lt (h2 i hi), prL_lt (plc_lt ρ _) h3⟩
/-! the class's smear -/
theorem l_srX {μ : xM} {ρ o : Nat → Nat} {g k n : Nat} (hB : RB μ 1 ρ) (hW : WF ρ) (hg : μ.1 93 5 = nI g) (hg9 : g ≤ 9) (hk : k < ρ 0) (hn : n ≤ 6) (ho : ∀ i, i < n → o i < ρ 0) (ho2 : ∀ i, i < 16 → o i < 16) {K : Int32 → xM → Prop} (hK : K (rowK ρ g o k n n) μ) : ∀ d j, j + d = n → L_X6_smearOf_16 (nI (plc ρ k)) 93 (nI n) (lN (nb o 16)) (d + 1) (nI j) (rowK ρ g o k n j) μ K
  | 0, j, h => by
    obtain rfl : j = n := by omega
    unfold L_X6_smearOf_16 B_X6_smearOf_16
    exact ⟨fun _ => hK, fun h => absurd (nI_le (Nat.le_refl _) (by omega)) h⟩
  | d + 1, j, h => by
    have ih := l_srX hB hW hg hg9 hk hn ho ho2 hK d (j + 1) (by omega)
    have h6 := hW.1
    have hj := ho j (by omega)
    have hd : μ.1 5 (o j) = nI (ρ (3 + 7 * o j)) := (hB.2 _ hj).2.2.1
    unfold L_X6_smearOf_16 B_X6_smearOf_16 p_X0_smearBy
    simp only [shp, hg]
    refine ⟨fun h => absurd h (nI_ge (by omega) (by omega)), fun _ => ?_⟩
    rw [e_nibd ho2 (by omega), e_plB hB h6 hj, e_at (by simp only [shl]; omega) (by decide +kernel), hd, y_and]
    have hlt : plc ρ k &&& plc ρ (o j) < 65536 := Nat.lt_of_le_of_lt Nat.and_le_left (plc_lt ρ k)
    rw [hg, pk_sub (by omega), pk_mul]
    intro v3 e3
    have e3' : v3 = wtv ρ g (o j) (n - j) := e3
    rw [e3', nI_1, e_bc hlt]
    simp only [forall_eq]
    simp only [rowK, wtk] at ih
    refine ⟨fun h => ?_, fun h => ?_⟩
    · rw [if_pos h] at ih; exact ih
    · rw [if_neg h] at ih; exact ih
theorem e_srX {μ : xM} {ρ o : Nat → Nat} {g k n : Nat} (hB : RB μ 1 ρ) (hW : WF ρ) (hg : μ.1 93 5 = nI g) (hg9 : g ≤ 9) (hk : k < ρ 0) (hn : n ≤ 6) (ho : ∀ i, i < n → o i < ρ 0) (ho2 : ∀ i, i < 16 → o i < 16) {Q : Int32 → xM → Prop} (hQ : Q (rowK ρ g o k n n) μ) : p_X6_smearOf 93 (nI k) (nI n) (lN (nb o 16)) μ Q := by
  unfold p_X6_smearOf
  simp only [shp]
  rw [e_plB hB hW.1 hk]
  exact ⟨n + 1, l_srX hB hW hg hg9 hk hn ho ho2 hQ n 0 (by omega)⟩
/-! the reference's smear and sheet -/
theorem l_sb17 {μ : xM} {ρ : Nat → Nat} {σ : Int32} {a : Nat → Nat} {g k : Nat} (hM : MR (μ.1 105) ρ σ) (hW : WF ρ) (ho : OR μ (ρ 0) a) (hb : ∀ i, i < ρ 0 → a i < ρ 0) (hP : PC μ ρ) (hk : k < ρ 0) (s : Int32) {K : Int32 → xM → Prop} (hK : K (s + rowK ρ g a (a k) k k) μ) : ∀ d j, j + d = k → L_X12_smearBy_17 104 (nI g) (nI k) (d + 1) (nI j) (s + rowK ρ g a (a k) k j) μ K
  | 0, j, h => by
    obtain rfl : j = k := by omega
    unfold L_X12_smearBy_17 B_X12_smearBy_17
    have h6 := hW.1
    exact ⟨fun _ => hK, fun h => absurd (nI_le (Nat.le_refl _) (by omega)) h⟩
  | d + 1, j, h => by
    have ih := l_sb17 hM hW ho hb hP hk s hK d (j + 1) (by omega)
    have h6 := hW.1
    have hj := hb j (by omega)
    have hkk := hb k hk
    unfold L_X12_smearBy_17 B_X12_smearBy_17
    simp only [shm, nI_clamp (show j < 2 ^ 31 by omega), nI_clamp (show k < 2 ^ 31 by omega), ho j (show j < ρ 0 by omega), nI_1]
    refine ⟨fun h => absurd h (nI_ge (by omega) (by omega)), fun _ => ⟨v6 (by omega), ?_⟩⟩
    rw [show (2 : Int32) = nI 2 from rfl, e_ofB (by omega) (by decide), show 1 + 2 + 7 * a j = 3 + 7 * a j by omega, (MR_k hM (show a j < 6 by omega)).2.2.1, pk_sub (by omega), pk_mul]
    intro v28 e28
    have e28' : v28 = wtv ρ g (a j) (k - j) := by rw [e28, Nat.mul_comm g]; rfl
    rw [e28', ho j (by omega), ho k hk, nI_clamp (show a j < 2 ^ 31 by omega), nI_clamp (show a k < 2 ^ 31 by omega), hP _ hj, hP _ hkk, y_and]
    have hlt : plc ρ (a k) &&& plc ρ (a j) < 65536 := Nat.lt_of_le_of_lt Nat.and_le_left (plc_lt ρ _)
    simp only [forall_eq]
    simp only [rowK, wtk] at ih
    refine ⟨fun h => ?_, fun h => ⟨v6 (by omega), v6 (by omega), v6 (by omega), v6 (by omega), e_bits hlt ?_⟩⟩
    · rw [if_pos h] at ih
      rw [show s + rowK ρ g a (a k) k j + 0 = s + (rowK ρ g a (a k) k j + 0) by grind]
      exact ih
    · rw [if_neg h] at ih
      rw [Int32.add_assoc]
      exact ih
theorem l_sb4 {μ : xM} {ρ : Nat → Nat} {σ : Int32} {a : Nat → Nat} {g : Nat} (hM : MR (μ.1 105) ρ σ) (hW : WF ρ) (ho : OR μ (ρ 0) a) (hb : ∀ i, i < ρ 0 → a i < ρ 0) (hP : PC μ ρ) {K : Int32 → xM → Prop} (hK : K (smrS ρ g a (ρ 0)) μ) : ∀ d k, k + d = ρ 0 → L_X12_smearBy_4 104 (nI g) (d + 1) (nI k) (smrS ρ g a k) μ K
  | 0, k, h => by
    obtain rfl : k = ρ 0 := by omega
    unfold L_X12_smearBy_4 B_X12_smearBy_4
    have h6 := hW.1
    simp only [shm, clamp0, MR_0 hM]
    exact ⟨v131 (k := 0) (by decide), fun _ => hK, fun h => absurd (nI_le (Nat.le_refl _) (by omega)) h⟩
  | d + 1, k, h => by
    have ih := l_sb4 hM hW ho hb hP hK d (k + 1) (by omega)
    have h6 := hW.1
    unfold L_X12_smearBy_4 B_X12_smearBy_4
    simp only [shm, clamp0, MR_0 hM, nI_1, forall_eq]
    refine ⟨v131 (k := 0) (by decide), fun h => absurd h (nI_ge (by omega) (by omega)), fun _ => ⟨k + 1, ?_⟩⟩
    have z := l_sb17 (g := g) hM hW ho hb hP (show k < ρ 0 by omega) (smrS ρ g a k) (K := fun a36 μ37 => L_X12_smearBy_4 104 (nI g) (d + 1) (nI (k + 1)) a36 μ37 K) ih k 0 (by omega)
    rw [show smrS ρ g a k + rowK ρ g a (a k) k 0 = smrS ρ g a k by simp only [rowK]; grind] at z
    exact z
theorem e_sbM {μ : xM} {ρ : Nat → Nat} {σ : Int32} {a : Nat → Nat} {g : Nat} (hM : MR (μ.1 105) ρ σ) (hW : WF ρ) (ho : OR μ (ρ 0) a) (hb : ∀ i, i < ρ 0 → a i < ρ 0) (hP : PC μ ρ) {Q : Int32 → xM → Prop} (hQ : Q (smrS ρ g a (ρ 0)) μ) : p_X12_smearBy 104 (nI g) μ Q := by
  unfold p_X12_smearBy
  exact ⟨ρ 0 + 1, l_sb4 hM hW ho hb hP hQ (ρ 0) 0 (by omega)⟩
def prF (μ ν : xM) : Prop := fr prP μ ν ∧ ∀ j, j ≠ 7 → ν.1 104 j = μ.1 104 j
theorem prF_rf {μ : xM} : prF μ μ := ⟨fr_rf, fun _ _ => rfl⟩
theorem prF_tr {μ ν κ : xM} (h1 : prF μ ν) (h2 : prF ν κ) : prF μ κ := ⟨fr_tr h1.1 h2.1, fun j hj => (h2.2 j hj).trans (h1.2 j hj)⟩
theorem prF_n {μ ν : xM} (h : prF μ ν) {q : Nat} (h1 : q ≠ 104) (h2 : q ≠ 109) (h3 : q ≠ 110) : ν.1 q = μ.1 q ∧ ν.2 q = μ.2 q := h.1 q (by unfold prP; omega)
theorem l_paM {μ : xM} {ρ : Nat → Nat} {σ : Int32} {a : Nat → Nat} (hM : MR (μ.1 105) ρ σ) (hW : WF ρ) (ho : OR μ (ρ 0) a) (hb : ∀ i, i < ρ 0 → a i < ρ 0) (hP : PC μ ρ) {K : xM → Prop} (hK : ∀ ν, prF μ ν → MS ν (stC ρ a (ρ 0)).1 (stC ρ a (ρ 0)).2.1 (stC ρ a (ρ 0)).2.2 → K ν) : ∀ d k ν, k + d = ρ 0 → prF μ ν → MS ν (stC ρ a k).1 (stC ρ a k).2.1 (stC ρ a k).2.2 → L_X12_printAll_6 104 (d + 1) (nI k) ν K
  | 0, k, ν, h, F, hs => by
    obtain rfl : k = ρ 0 := by omega
    unfold L_X12_printAll_6 B_X12_printAll_6
    have h6 := hW.1
    have hM2 : MR (ν.1 105) ρ σ := by rw [(prF_n F (by decide) (by decide) (by decide)).1]; exact hM
    simp only [shm, clamp0, MR_0 hM2]
    exact ⟨v131 (k := 0) (by decide), fun _ => hK ν F hs, fun h => absurd (nI_le (Nat.le_refl _) (by omega)) h⟩
  | d + 1, k, ν, h, F, hs => by
    unfold L_X12_printAll_6 B_X12_printAll_6
    have h6 := hW.1
    have hk : k < ρ 0 := by omega
    have hbk := hb k hk
    have hM2 : MR (ν.1 105) ρ σ := by rw [(prF_n F (by decide) (by decide) (by decide)).1]; exact hM
    have ho2 : ν.1 111 k = nI (a k) := by rw [(prF_n F (by decide) (by decide) (by decide)).1]; exact ho k hk
    have hp2 : ν.1 113 (a k) = nI (plc ρ (a k)) := by rw [(prF_n F (by decide) (by decide) (by decide)).1]; exact hP _ hbk
    simp only [shm, clamp0, MR_0 hM2, nI_1, forall_eq, nI_clamp (show k < 2 ^ 31 by omega), ho2, nI_clamp (show a k < 2 ^ 31 by omega), hp2]
    refine ⟨v131 (k := 0) (by decide), fun h => absurd h (nI_ge (by omega) (by omega)), fun _ => ⟨v6 (by omega), v6 (by omega), v6 (by omega), ?_⟩⟩
    obtain ⟨g1, g2, g3⟩ := stC_ok hW (o := a) k (fun i hi => hb i (by omega))
    exact e_prM hM2 (by omega) (hW.2.1 _ hbk) hs g1 g2 (plc_lt ρ _) g3 (fun κ F2 J2 M2 => l_paM hM hW ho hb hP hK d (k + 1) κ (by omega) (prF_tr F ⟨F2, J2⟩) M2)
theorem e_paM {μ : xM} {ρ : Nat → Nat} {σ : Int32} {a : Nat → Nat} (hM : MR (μ.1 105) ρ σ) (hW : WF ρ) (ho : OR μ (ρ 0) a) (hb : ∀ i, i < ρ 0 → a i < ρ 0) (hP : PC μ ρ) {Q : xM → Prop} (hQ : ∀ ν, prF μ ν → MS ν (stC ρ a (ρ 0)).1 (stC ρ a (ρ 0)).2.1 (stC ρ a (ρ 0)).2.2 → Q ν) : p_X12_printAll 104 μ Q := by
  unfold p_X12_printAll
  exact e_clrM (fun ν F J M => ⟨ρ 0 + 1, l_paM hM hW ho hb hP hQ (ρ 0) 0 ν (by omega) ⟨F, J⟩ M⟩)
