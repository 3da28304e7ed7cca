/-! what a state is: ρ, the reference's row as naturals (shifts with 3 each), σ its ALL SMEAR -/
abbrev isSh (i : Nat) : Prop := 1 ≤ i ∧ i < 43 ∧ ((i - 1) % 7 = 4 ∨ (i - 1) % 7 = 5)
def enc (ρ : Nat → Nat) (i : Nat) : Int32 := if isSh i then nI (ρ i) - 3 else nI (ρ i)
def MR (row : Nat → Int32) (ρ : Nat → Nat) (σ : Int32) : Prop := row 94 = σ ∧ ∀ i, i < 131 → i ≠ 94 → row i = enc ρ i
def WB (ρ : Nat → Nat) (k : Nat) : Prop := ρ (1 + 7 * k) < 4 ∧ (1 ≤ ρ (2 + 7 * k) ∧ ρ (2 + 7 * k) < 8) ∧ ρ (3 + 7 * k) ≤ 9 ∧ (1 ≤ ρ (4 + 7 * k) ∧ ρ (4 + 7 * k) < 65536) ∧ ρ (5 + 7 * k) ≤ 6 ∧ ρ (6 + 7 * k) ≤ 6 ∧ ρ (7 + 7 * k) < 64
def WF (ρ : Nat → Nat) : Prop := ρ 0 ≤ 6 ∧ (∀ k, k < ρ 0 → WB ρ k) ∧ (∀ c, c < 16 → ρ (43 + c) < 8 ∧ ρ (59 + c) < 8 ∧ ρ (75 + c) < 10) ∧ ρ 91 < 65536 ∧ ρ 93 ≤ 12 ∧ ρ 92 ≤ 9 * ρ 93 ∧ (∀ i, i < ρ 93 → ρ (95 + 3 * i) < ρ 0 ∧ ρ (96 + 3 * i) ≤ ρ 92 ∧ ρ (97 + 3 * i) < 65536)
def plc (ρ : Nat → Nat) (k : Nat) : Nat := mvN (ρ (4 + 7 * k)) (ρ (5 + 7 * k)) (ρ (6 + 7 * k))
def RBk (μ : xM) (b : Nat) (ρ : Nat → Nat) (k : Nat) : Prop := μ.1 (b + 2) k = nI (ρ (1 + 7 * k)) ∧ μ.1 (b + 3) k = nI (ρ (2 + 7 * k)) ∧ μ.1 (b + 4) k = nI (ρ (3 + 7 * k)) ∧ μ.1 (b + 5) k = nI (ρ (4 + 7 * k)) ∧ μ.1 (b + 6) k = nI (ρ (5 + 7 * k)) - 3 ∧ μ.1 (b + 7) k = nI (ρ (6 + 7 * k)) - 3 ∧ μ.1 (b + 8) k = nI (plc ρ k) ∧ μ.1 (b + 9) k = nI (ρ (7 + 7 * k))
def RB (μ : xM) (b : Nat) (ρ : Nat → Nat) : Prop := μ.1 (b + 1) 0 = nI (ρ 0) ∧ ∀ k, k < ρ 0 → RBk μ b ρ k
def RPi (μ : xM) (b : Nat) (ρ : Nat → Nat) (i : Nat) : Prop := μ.1 (b + 12) i = nI (ρ (95 + 3 * i)) ∧ μ.1 (b + 13) i = nI (ρ (96 + 3 * i)) ∧ μ.1 (b + 14) i = nI (ρ (97 + 3 * i))
def RH (μ : xM) (b : Nat) (ρ : Nat → Nat) (σ : Int32) : Prop := SH μ (b + 11) (fun c => ρ (59 + c)) (fun c => ρ (75 + c)) (ρ 91) ∧ μ.1 (b + 10) 1 = nI (ρ 92) ∧ μ.1 (b + 10) 2 = nI (ρ 93) ∧ μ.1 (b + 10) 3 = σ ∧ ∀ i, i < ρ 93 → RPi μ b ρ i
def Rep (μ : xM) (b : Nat) (ρ : Nat → Nat) (σ : Int32) : Prop := RB μ b ρ ∧ RH μ b ρ σ ∧ μ.2 b 2 = lN (nb (fun c => ρ (43 + c)) 16)
theorem Rep_fr {μ ν : xM} {b : Nat} {ρ : Nat → Nat} {σ : Int32} (h : ∀ q, b ≤ q → q < b + 15 → ν.1 q = μ.1 q ∧ ν.2 q = μ.2 q) (hR : Rep μ b ρ σ) : Rep ν b ρ σ := by
  have e : ∀ j, j < 15 → ν.1 (b + j) = μ.1 (b + j) ∧ ν.2 (b + j) = μ.2 (b + j) := fun j hj => h _ (by omega) (by omega)
  obtain ⟨⟨h1, h2⟩, ⟨⟨h3, h4, h5⟩, h6, h7, h8, h9⟩, h10⟩ := hR
  have e0 := e 0 (by decide)
  rw [Nat.add_zero] at e0
  refine ⟨⟨by rw [(e 1 (by decide)).1]; exact h1, fun k hk => ?_⟩, ⟨⟨by rw [(e 11 (by decide)).2]; exact h3, by rw [(e 11 (by decide)).2]; exact h4, by rw [(e 11 (by decide)).1]; exact h5⟩, by rw [(e 10 (by decide)).1]; exact h6, by rw [(e 10 (by decide)).1]; exact h7, by rw [(e 10 (by decide)).1]; exact h8, fun i hi => ?_⟩, by rw [e0.2]; exact h10⟩
  · have := h2 k hk
    unfold RBk at this ⊢
    rw [(e 2 (by decide)).1, (e 3 (by decide)).1, (e 4 (by decide)).1, (e 5 (by decide)).1, (e 6 (by decide)).1, (e 7 (by decide)).1, (e 8 (by decide)).1, (e 9 (by decide)).1]
    exact this
  · have := h9 i hi
    unfold RPi at this ⊢
    rw [(e 12 (by decide)).1, (e 13 (by decide)).1, (e 14 (by decide)).1]
    exact this
/-! copies -/
theorem l_copy {q1 q2 n : Nat} (hq : q1 ≠ q2) (h1 : ln q1 = n) (h2 : ln q2 = n) (hn : n < 2 ^ 31) {μ : xM} {K : xM → Prop} (hK : ∀ ν, fr (fun x => x = q2) μ ν → ν.2 = μ.2 → (∀ k, k < n → ν.1 q2 k = μ.1 q1 k) → K ν) : ∀ d i ν, i + d = n → fr (fun x => x = q2) μ ν → ν.2 = μ.2 → (∀ k, k < i → ν.1 q2 k = μ.1 q1 k) → L_X5_copy_2 q1 q2 (d + 1) (nI i) ν K
  | 0, i, ν, hi, hf, hl, hv => by
    obtain rfl : i = n := by omega
    unfold L_X5_copy_2 B_X5_copy_2
    rw [h1]
    exact ⟨fun _ => hK ν hf hl hv, fun h => absurd (nI_le (Nat.le_refl _) hn) h⟩
  | d + 1, i, ν, hi, hf, hl, hv => by
    unfold L_X5_copy_2 B_X5_copy_2
    rw [h1, h2]
    have hlt : i < n := by omega
    refine ⟨fun h => absurd h (nI_ge hlt hn), fun _ => ⟨fun h => absurd h (nI_ge hlt hn), fun _ => ⟨vp_in_nI hlt hn, vp_in_nI hlt hn, ?_⟩⟩⟩
    intro μ1 e1 v1 ev
    rw [nI_clamp (by omega)] at e1
    rw [ev, nI_1]
    refine l_copy hq h1 h2 hn hK d (i + 1) μ1 (by omega) ?_ ?_ ?_
    · rw [e1]; exact fr_tr hf (fr_xi rfl)
    · rw [e1, y_xi2]; exact hl
    · intro k hk
      rw [e1, y_xi]
      by_cases hki : k = i
      · rw [if_pos ⟨rfl, hki⟩, (hf q1 hq).1, hki]
      · rw [if_neg (fun h => hki h.2)]
        exact hv k (by omega)
theorem e_copy {q1 q2 : Nat} (n : Nat) (hq : q1 ≠ q2) (h1 : ln q1 = n) (h2 : ln q2 = n) (hn : n < 2 ^ 31) {μ : xM} {Q : xM → Prop} (hQ : ∀ ν, fr (fun x => x = q2) μ ν → ν.2 = μ.2 → (∀ k, k < n → ν.1 q2 k = μ.1 q1 k) → Q ν) : p_X5_copy q1 q2 μ Q := by
  unfold p_X5_copy
  exact ⟨n + 1, l_copy hq h1 h2 hn hQ n 0 μ (by omega) fr_rf rfl (fun k hk => absurd hk (Nat.not_lt_zero k))⟩
/-- the shape of a state whose first cell is b -/
def s7 (b : Nat) : Prop := rt b 0 = b + 1 ∧ rt b 1 = b + 10 ∧ rt (b + 1) 1 = b + 2 ∧ rt (b + 1) 2 = b + 3 ∧ rt (b + 1) 3 = b + 4 ∧ rt (b + 1) 4 = b + 5 ∧ rt (b + 1) 5 = b + 6 ∧ rt (b + 1) 6 = b + 7 ∧ rt (b + 1) 7 = b + 8 ∧ rt (b + 1) 8 = b + 9 ∧ rt (b + 10) 0 = b + 11 ∧ rt (b + 10) 4 = b + 12 ∧ rt (b + 10) 5 = b + 13 ∧ rt (b + 10) 6 = b + 14
def l7 (b : Nat) : Prop := ln (b + 2) = 6 ∧ ln (b + 3) = 6 ∧ ln (b + 4) = 6 ∧ ln (b + 5) = 6 ∧ ln (b + 6) = 6 ∧ ln (b + 7) = 6 ∧ ln (b + 8) = 6 ∧ ln (b + 9) = 6 ∧ ln (b + 12) = 12 ∧ ln (b + 13) = 12 ∧ ln (b + 14) = 12
theorem s7_1 : s7 1 ∧ l7 1 := by unfold s7 l7; decide +kernel
theorem s7_h : ∀ j, j < 5 → s7 (18 + 15 * j) ∧ l7 (18 + 15 * j) := by
  intro j hj
  rcases (show j = 0 ∨ j = 1 ∨ j = 2 ∨ j = 3 ∨ j = 4 by omega) with rfl | rfl | rfl | rfl | rfl <;> (unfold s7 l7; decide +kernel)
def ag (μ ν : xM) (d b : Nat) (P : Nat → Nat → Prop) : Prop := ∀ j k, j < 15 → P j k → ν.1 (d + j) k = μ.1 (b + j) k
def agl (μ ν : xM) (d b : Nat) (P : Nat → Nat → Prop) : Prop := ∀ j k, j < 15 → P j k → ν.2 (d + j) k = μ.2 (b + j) k
def cpS (μ ν : xM) (d b : Nat) (P PL : Nat → Nat → Prop) : Prop := fr (fun x => d ≤ x ∧ x < d + 15) μ ν ∧ ag μ ν d b P ∧ agl μ ν d b PL
def apt (d b : Nat) : Prop := ∀ i j, i < 15 → j < 15 → b + i ≠ d + j
theorem apt_r {d b j : Nat} (h : apt d b) (hj : j < 15) : ¬ (d ≤ b + j ∧ b + j < d + 15) := fun e => h j (b + j - d) hj (by omega) (by omega)
theorem cp_row {μ ν : xM} {d b : Nat} {P PL : Nat → Nat → Prop} (n j : Nat) (hj : j < 15) (ha : apt d b) (l1 : ln (b + j) = n) (l2 : ln (d + j) = n) (hn : n < 2 ^ 31) (hS : cpS μ ν d b P PL) (hP : ∀ k, ¬ P j k) {Q : xM → Prop} (hQ : ∀ κ, cpS μ κ d b (fun j2 k => P j2 k ∨ (j2 = j ∧ k < n)) PL → Q κ) : p_X5_copy (b + j) (d + j) ν Q := by
  obtain ⟨hF, hA, hL⟩ := hS
  refine e_copy n (ha j j hj hj) l1 l2 hn (fun κ F l v => hQ κ ⟨?_, ?_, ?_⟩)
  · exact fr_tr hF (fr_mono F (fun q e => by subst e; omega))
  · intro j2 k h2 hp
    by_cases e : j2 = j
    · subst e
      rcases hp with hp | hp
      · exact absurd hp (hP k)
      · rw [v k hp.2, (hF _ (apt_r ha hj)).1]
    · have hp2 : P j2 k := by
        rcases hp with hp | hp
        · exact hp
        · exact absurd hp.1 e
      rw [(F (d + j2) (by omega)).1]
      exact hA j2 k h2 hp2
  · intro j2 k h2 hp
    rw [l]
    exact hL j2 k h2 hp
theorem cp_put {μ ν : xM} {d b : Nat} {P PL : Nat → Nat → Prop} (j k : Nat) (hj : j < 15) {v : Int32} (hS : cpS μ ν d b P PL) (hv : v = μ.1 (b + j) k) : cpS μ (xi ν (d + j) k v) d b (fun j2 k2 => P j2 k2 ∨ (j2 = j ∧ k2 = k)) PL := by
  obtain ⟨hF, hA, hL⟩ := hS
  refine ⟨fr_tr hF (fr_xi (by omega)), ?_, ?_⟩
  · intro j2 k2 h2 hp
    rw [y_xi]
    by_cases e : d + j2 = d + j ∧ k2 = k
    · obtain ⟨e1, e2⟩ := e
      obtain rfl : j2 = j := by omega
      rw [if_pos ⟨rfl, e2⟩, hv, e2]
    · rw [if_neg e]
      rcases hp with hp | hp
      · exact hA j2 k2 h2 hp
      · exact absurd ⟨by rw [hp.1], hp.2⟩ e
  · intro j2 k2 h2 hp
    rw [y_xi2]
    exact hL j2 k2 h2 hp
theorem cp_putl {μ ν : xM} {d b : Nat} {P PL : Nat → Nat → Prop} (j k : Nat) (hj : j < 15) {v : Int64} (hS : cpS μ ν d b P PL) (hv : v = μ.2 (b + j) k) : cpS μ (xl ν (d + j) k v) d b P (fun j2 k2 => PL j2 k2 ∨ (j2 = j ∧ k2 = k)) := by
  obtain ⟨hF, hA, hL⟩ := hS
  refine ⟨fr_tr hF (fr_xl (by omega)), ?_, ?_⟩
  · intro j2 k2 h2 hp
    rw [y_xl1]
    exact hA j2 k2 h2 hp
  · intro j2 k2 h2 hp
    rw [y_xl]
    by_cases e : d + j2 = d + j ∧ k2 = k
    · obtain ⟨e1, e2⟩ := e
      obtain rfl : j2 = j := by omega
      rw [if_pos ⟨rfl, e2⟩, hv, e2]
    · rw [if_neg e]
      rcases hp with hp | hp
      · exact hL j2 k2 h2 hp
      · exact absurd ⟨by rw [hp.1], hp.2⟩ e
theorem e_copyB {d b : Nat} (hd : s7 d ∧ l7 d) (hb : s7 b ∧ l7 b) (ha : apt d b) {μ ν : xM} {P PL : Nat → Nat → Prop} (hS : cpS μ ν d b P PL) (hP : ∀ j k, 1 ≤ j → j ≤ 9 → ¬ P j k) {Q : xM → Prop} (hQ : ∀ κ, cpS μ κ d b (fun j k => P j k ∨ (j = 1 ∧ k = 0) ∨ (2 ≤ j ∧ j ≤ 9 ∧ k < 6)) PL → Q κ) : p_X0_copyFrom (d + 1) (b + 1) ν Q := by
  unfold p_X0_copyFrom
  rw [hd.1.2.2.1, hd.1.2.2.2.1, hd.1.2.2.2.2.1, hd.1.2.2.2.2.2.1, hd.1.2.2.2.2.2.2.1, hd.1.2.2.2.2.2.2.2.1, hd.1.2.2.2.2.2.2.2.2.1, hd.1.2.2.2.2.2.2.2.2.2.1, hb.1.2.2.1, hb.1.2.2.2.1, hb.1.2.2.2.2.1, hb.1.2.2.2.2.2.1, hb.1.2.2.2.2.2.2.1, hb.1.2.2.2.2.2.2.2.1, hb.1.2.2.2.2.2.2.2.2.1, hb.1.2.2.2.2.2.2.2.2.2.1]
  intro μ1 e1
  have S1 := cp_put 1 0 (by decide) hS ((hS.1 (b + 1) (apt_r ha (by decide))).1 ▸ rfl : ν.1 (b + 1) 0 = μ.1 (b + 1) 0)
  rw [← e1] at S1
  refine cp_row 6 2 (by decide) ha hb.2.1 hd.2.1 (by decide) S1 (fun k => by have := hP 2 k; simp_all) (fun μ2 S2 => ?_)
  refine cp_row 6 3 (by decide) ha hb.2.2.1 hd.2.2.1 (by decide) S2 (fun k => by have := hP 3 k; simp_all) (fun μ3 S3 => ?_)
  refine cp_row 6 4 (by decide) ha hb.2.2.2.1 hd.2.2.2.1 (by decide) S3 (fun k => by have := hP 4 k; simp_all) (fun μ4 S4 => ?_)
  refine cp_row 6 5 (by decide) ha hb.2.2.2.2.1 hd.2.2.2.2.1 (by decide) S4 (fun k => by have := hP 5 k; simp_all) (fun μ5 S5 => ?_)
  refine cp_row 6 6 (by decide) ha hb.2.2.2.2.2.1 hd.2.2.2.2.2.1 (by decide) S5 (fun k => by have := hP 6 k; simp_all) (fun μ6 S6 => ?_)
  refine cp_row 6 7 (by decide) ha hb.2.2.2.2.2.2.1 hd.2.2.2.2.2.2.1 (by decide) S6 (fun k => by have := hP 7 k; simp_all) (fun μ7 S7 => ?_)
  refine cp_row 6 8 (by decide) ha hb.2.2.2.2.2.2.2.1 hd.2.2.2.2.2.2.2.1 (by decide) S7 (fun k => by have := hP 8 k; simp_all) (fun μ8 S8 => ?_)
  refine cp_row 6 9 (by decide) ha hb.2.2.2.2.2.2.2.2.1 hd.2.2.2.2.2.2.2.2.1 (by decide) S8 (fun k => by have := hP 9 k; simp_all) (fun μ9 S9 => ?_)
  refine hQ μ9 ⟨S9.1, fun j k hj h => S9.2.1 j k hj ?_, S9.2.2⟩
  rcases h with h | h | h
  · exact Or.inl (Or.inl (Or.inl (Or.inl (Or.inl (Or.inl (Or.inl (Or.inl (Or.inl h))))))))
  · exact Or.inl (Or.inl (Or.inl (Or.inl (Or.inl (Or.inl (Or.inl (Or.inl (Or.inr h))))))))
  · have : j = 2 ∨ j = 3 ∨ j = 4 ∨ j = 5 ∨ j = 6 ∨ j = 7 ∨ j = 8 ∨ j = 9 := by omega
    rcases this with e | e | e | e | e | e | e | e <;> simp [e, h.2.2]
theorem e_copyH {d b : Nat} (hd : s7 d ∧ l7 d) (hb : s7 b ∧ l7 b) (ha : apt d b) {μ ν : xM} {P PL : Nat → Nat → Prop} (hS : cpS μ ν d b P PL) (hP : ∀ j k, 10 ≤ j → ¬ P j k) {Q : xM → Prop} (hQ : ∀ κ, cpS μ κ d b (fun j k => P j k ∨ (j = 10 ∧ 1 ≤ k ∧ k ≤ 3) ∨ (j = 11 ∧ k = 2) ∨ (12 ≤ j ∧ j ≤ 14 ∧ k < 12)) (fun j k => PL j k ∨ (j = 11 ∧ k < 2)) → Q κ) : p_X2_copyFrom (d + 10) (b + 10) ν Q := by
  unfold p_X2_copyFrom p_X7_copyFrom p_X7_lay
  rw [hd.1.2.2.2.2.2.2.2.2.2.2.1, hd.1.2.2.2.2.2.2.2.2.2.2.2.1, hd.1.2.2.2.2.2.2.2.2.2.2.2.2.1, hd.1.2.2.2.2.2.2.2.2.2.2.2.2.2, hb.1.2.2.2.2.2.2.2.2.2.2.1, hb.1.2.2.2.2.2.2.2.2.2.2.2.1, hb.1.2.2.2.2.2.2.2.2.2.2.2.2.1, hb.1.2.2.2.2.2.2.2.2.2.2.2.2.2]
  have g : ∀ {κ : xM} {P PL : Nat → Nat → Prop}, cpS μ κ d b P PL → ∀ j, j < 15 → κ.1 (b + j) = μ.1 (b + j) ∧ κ.2 (b + j) = μ.2 (b + j) := fun h j hj => h.1 _ (apt_r ha hj)
  intro x1 ex1 x2 ex2 x3 ex3 x4 ex4 x5 ex5 x6 ex6
  have S1 := cp_putl 11 0 (by decide) hS (show ν.2 (b + 11) 0 = μ.2 (b + 11) 0 by rw [(g hS 11 (by decide)).2])
  rw [← ex1] at S1
  have S2 := cp_putl 11 1 (by decide) S1 (show ν.2 (b + 11) 1 = μ.2 (b + 11) 1 by rw [(g hS 11 (by decide)).2])
  rw [← ex2] at S2
  have S3 := cp_put 11 2 (by decide) S2 (show ν.1 (b + 11) 2 = μ.1 (b + 11) 2 by rw [(g hS 11 (by decide)).1])
  rw [← ex3] at S3
  have S4 := cp_put 10 1 (by decide) S3 (show x3.1 (b + 10) 1 = μ.1 (b + 10) 1 by rw [(g S3 10 (by decide)).1])
  rw [← ex4] at S4
  have S5 := cp_put 10 2 (by decide) S4 (show x4.1 (b + 10) 2 = μ.1 (b + 10) 2 by rw [(g S4 10 (by decide)).1])
  rw [← ex5] at S5
  have S6 := cp_put 10 3 (by decide) S5 (show x5.1 (b + 10) 3 = μ.1 (b + 10) 3 by rw [(g S5 10 (by decide)).1])
  rw [← ex6] at S6
  refine cp_row 12 12 (by decide) ha hb.2.2.2.2.2.2.2.2.2.1 hd.2.2.2.2.2.2.2.2.2.1 (by decide) S6 (fun k => by have := hP 12 k; simp_all) (fun y1 T1 => ?_)
  refine cp_row 12 13 (by decide) ha hb.2.2.2.2.2.2.2.2.2.2.1 hd.2.2.2.2.2.2.2.2.2.2.1 (by decide) T1 (fun k => by have := hP 13 k; simp_all) (fun y2 T2 => ?_)
  refine cp_row 12 14 (by decide) ha hb.2.2.2.2.2.2.2.2.2.2.2 hd.2.2.2.2.2.2.2.2.2.2.2 (by decide) T2 (fun k => by have := hP 14 k; simp_all) (fun y3 T3 => ?_)
  refine hQ y3 ⟨T3.1, fun j k hj h => T3.2.1 j k hj ?_, fun j k hj h => T3.2.2 j k hj ?_⟩
  · rcases h with h | h | h | h
    · simp [h]
    · have : k = 1 ∨ k = 2 ∨ k = 3 := by omega
      rcases this with e | e | e <;> simp [h.1, e]
    · simp [h]
    · have : j = 12 ∨ j = 13 ∨ j = 14 := by omega
      rcases this with e | e | e <;> simp [e, h.2.2]
  · rcases h with h | h
    · simp [h]
    · have : k = 0 ∨ k = 1 := by omega
      rcases this with e | e <;> simp [h.1, e]
theorem e_copyS {d b : Nat} (hd : s7 d ∧ l7 d) (hb : s7 b ∧ l7 b) (ha : apt d b) {μ : xM} {Q : xM → Prop} (hQ : ∀ ν, fr (fun x => d ≤ x ∧ x < d + 15) μ ν → (∀ ρ σ, ρ 0 ≤ 6 → ρ 93 ≤ 12 → Rep μ b ρ σ → Rep ν d ρ σ) → Q ν) : p_X9_copyFrom d b μ Q := by
  unfold p_X9_copyFrom
  rw [hd.1.1, hd.1.2.1, hb.1.1, hb.1.2.1]
  have S0 : cpS μ μ d b (fun _ _ => False) (fun _ _ => False) := ⟨fr_rf, fun _ _ _ h => h.elim, fun _ _ _ h => h.elim⟩
  refine e_copyB hd hb ha S0 (fun _ _ _ _ h => h) (fun μ1 S1 => ?_)
  refine e_copyH hd hb ha S1 (fun j k hj h => by rcases h with h | h | h; exact h; omega; omega) (fun μ2 S2 => ?_)
  intro μ3 e3
  have S3 := cp_putl 0 2 (by decide) S2 (show μ2.2 (b + 0) 2 = μ.2 (b + 0) 2 by rw [(S2.1 (b + 0) (apt_r ha (by decide))).2])
  rw [Nat.add_zero, Nat.add_zero, ← e3] at S3
  obtain ⟨F, A, L⟩ := S3
  refine hQ μ3 F (fun ρ σ r0 r93 hR => ?_)
  obtain ⟨⟨h1, h2⟩, ⟨⟨h3, h4, h5⟩, h6, h7, h8, h9⟩, h10⟩ := hR
  refine ⟨⟨?_, fun k hk => ?_⟩, ⟨⟨?_, ?_, ?_⟩, ?_, ?_, ?_, fun i hi => ?_⟩, ?_⟩
  · rw [A 1 0 (by decide) (by simp)]; exact h1
  · have := h2 k hk
    unfold RBk at this ⊢
    have hk6 : k < 6 := by omega
    rw [A 2 k (by decide) (by simp [hk6]), A 3 k (by decide) (by simp [hk6]), A 4 k (by decide) (by simp [hk6]), A 5 k (by decide) (by simp [hk6]), A 6 k (by decide) (by simp [hk6]), A 7 k (by decide) (by simp [hk6]), A 8 k (by decide) (by simp [hk6]), A 9 k (by decide) (by simp [hk6])]
    exact this
  · rw [L 11 0 (by decide) (by simp)]; exact h3
  · rw [L 11 1 (by decide) (by simp)]; exact h4
  · rw [A 11 2 (by decide) (by simp)]; exact h5
  · rw [A 10 1 (by decide) (by simp)]; exact h6
  · rw [A 10 2 (by decide) (by simp)]; exact h7
  · rw [A 10 3 (by decide) (by simp)]; exact h8
  · have := h9 i hi
    unfold RPi at this ⊢
    have hi12 : i < 12 := by omega
    rw [A 12 i (by decide) (by simp [hi12]), A 13 i (by decide) (by simp [hi12]), A 14 i (by decide) (by simp [hi12])]
    exact this
  · have := L 0 2 (by decide) (by simp)
    rw [Nat.add_zero, Nat.add_zero] at this
    rw [this]; exact h10
/-! the class's history -/
def hpu {α : Type} (h : Nat) (H : Nat → α) (x : α) : Nat → α := if h = 5 then (fun i => if i = 4 then x else H (i + 1)) else (fun i => if i = h then x else H i)
def hct (h : Nat) : Nat := if h = 5 then 5 else h + 1
def CHn (μ : xM) (nx h : Nat) (Hρ : Nat → Nat → Nat) (Hσ : Nat → Int32) : Prop := nx < 5 ∧ h ≤ 5 ∧ μ.1 16 1 = nI nx ∧ μ.1 16 2 = nI h ∧ ∀ i, i < h → ((Hρ i) 0 ≤ 6 ∧ (Hρ i) 93 ≤ 12) ∧ Rep μ (18 + 15 * ((nx + 5 - h + i) % 5)) (Hρ i) (Hσ i)
def CH (μ : xM) (h : Nat) (Hρ : Nat → Nat → Nat) (Hσ : Nat → Int32) : Prop := ∃ nx, CHn μ nx h Hρ Hσ
theorem rt17 : ∀ j, j < 5 → rt 17 j = 18 + 15 * j := by decide +kernel
theorem kd17 : ∀ j, j < 5 → kd (18 + 15 * j) = 7 := by decide +kernel
theorem apt_1h {j : Nat} (h : j < 5) : apt (18 + 15 * j) 1 := by intro a b ha hb; omega
theorem apt_h1 {j : Nat} (h : j < 5) : apt 1 (18 + 15 * j) := by intro a b ha hb; omega
theorem e_kept {j : Nat} (hj : j < 5) {μ : xM} {Q : Option Nat → xM → Prop} : p_X3_keptAt 16 (nI j) μ Q ↔ Q (some (18 + 15 * j)) μ := by
  unfold p_X3_keptAt
  have e : rt 16 0 = 17 := by decide +kernel
  have l : ln 17 = 5 := by decide +kernel
  rw [e, l]
  have h1 : ¬ nI j < 0 := nI_pos (by omega)
  have h2 : ¬ Int32.ofNat 5 ≤ nI j := nI_ge hj (by decide)
  simp only [h1, h2, nI_clamp (show j < 2 ^ 31 by omega), vp_in_nI hj (show 5 < 2 ^ 31 by decide), rt17 j hj, false_implies, not_false_eq_true, true_implies, true_and]
theorem mod5 {a : Nat} (h : a < 100) : nI a - nI a / 5 * 5 = nI (a % 5) := pk_rem (d := 5) (by omega) (by decide) (by decide)
theorem e_keep {μ : xM} {ρ : Nat → Nat} {σ : Int32} {h : Nat} {Hρ : Nat → Nat → Nat} {Hσ : Nat → Int32} (r0 : ρ 0 ≤ 6) (r93 : ρ 93 ≤ 12) (hR : Rep μ 1 ρ σ) (hH : CH μ h Hρ Hσ) {Q : xM → Prop} (hQ : ∀ ν, fr (fun x => 16 ≤ x ∧ x < 93) μ ν → CH ν (hct h) (hpu h Hρ ρ) (hpu h Hσ σ) → Q ν) : p_X3_keep 16 1 μ Q := by
  obtain ⟨nx, h1, h2, h3, h4, h5⟩ := hH
  unfold p_X3_keep
  rw [h3, e_kept h1]
  refine ⟨fun e => by simp at e, fun q e => ?_⟩
  cases e
  refine ⟨kd17 nx h1, ?_⟩
  refine e_copyS (s7_h nx h1) s7_1 (apt_1h h1) (fun μ4 F4 R4 => ?_)
  intro μ5 e5 μ6 e6
  have k16 : μ4.1 16 = μ.1 16 := (F4 16 (by omega)).1
  rw [k16, h3, nI_1, mod5 (by omega)] at e5
  have k5 : μ5.1 16 2 = nI h := by rw [e5, y_xi, if_neg (by decide), k16, h4]
  have e6' : μ6 = xi μ5 16 2 (nI (hct h)) := by
    rw [e6, k5, nI_1]
    congr 1
    unfold hct
    rcases (show h = 0 ∨ h = 1 ∨ h = 2 ∨ h = 3 ∨ h = 4 ∨ h = 5 by omega) with rfl | rfl | rfl | rfl | rfl | rfl <;> decide
  have F5 : fr (fun x => x = 16) μ4 μ6 := by rw [e6', e5]; exact fr_tr (fr_xi rfl) (fr_xi rfl)
  refine hQ μ6 (fr_tr (fr_mono F4 (fun q hq => by omega)) (fr_mono F5 (fun q hq => by subst hq; decide))) ⟨(nx + 1) % 5, Nat.mod_lt _ (by decide), ?_, ?_, ?_, ?_⟩
  · unfold hct; split <;> omega
  · rw [e6', y_xi, if_neg (by decide), e5, y_xi, if_pos ⟨rfl, rfl⟩]
  · rw [e6', y_xi, if_pos ⟨rfl, rfl⟩]
  · intro i hi
    have keepR : ∀ j ρ' σ', j < 5 → j ≠ nx → Rep μ (18 + 15 * j) ρ' σ' → Rep μ6 (18 + 15 * j) ρ' σ' := by
      intro j ρ' σ' hj hne hr
      refine Rep_fr (fun q q1 q2 => ?_) hr
      have a1 := F4 q (by omega)
      have a2 := F5 q (by omega)
      exact ⟨a2.1.trans a1.1, a2.2.trans a1.2⟩
    have newR : Rep μ6 (18 + 15 * nx) ρ σ := by
      refine Rep_fr (fun q q1 q2 => ?_) (R4 ρ σ r0 r93 hR)
      exact F5 q (by omega)
    unfold hct at hi
    unfold hpu hct
    by_cases h55 : h = 5
    · simp only [h55, if_true] at hi ⊢
      by_cases i4 : i = 4
      · simp only [i4, if_true]
        refine ⟨⟨r0, r93⟩, ?_⟩
        rw [show ((nx + 1) % 5 + 5 - 5 + 4) % 5 = nx by omega]
        exact newR
      · simp only [if_neg i4]
        have := h5 (i + 1) (by omega)
        refine ⟨this.1, ?_⟩
        have e : ((nx + 1) % 5 + 5 - 5 + i) % 5 = (nx + 5 - h + (i + 1)) % 5 := by omega
        rw [e]
        exact keepR _ _ _ (Nat.mod_lt _ (by decide)) (by omega) this.2
    · simp only [if_neg h55] at hi ⊢
      by_cases ih : i = h
      · simp only [ih, if_true]
        refine ⟨⟨r0, r93⟩, ?_⟩
        rw [show ((nx + 1) % 5 + 5 - (h + 1) + h) % 5 = nx by omega]
        exact newR
      · simp only [if_neg ih]
        have := h5 i (by omega)
        refine ⟨this.1, ?_⟩
        have e : ((nx + 1) % 5 + 5 - (h + 1) + i) % 5 = (nx + 5 - h + i) % 5 := by omega
        rw [e]
        exact keepR _ _ _ (Nat.mod_lt _ (by decide)) (by omega) this.2
theorem e_restore {μ : xM} {h : Nat} {Hρ : Nat → Nat → Nat} {Hσ : Nat → Int32} (hH : CH μ (h + 1) Hρ Hσ) {Q : xM → Prop} (hQ : ∀ ν, fr (fun x => 1 ≤ x ∧ x < 17) μ ν → CH ν h Hρ Hσ → Rep ν 1 (Hρ h) (Hσ h) → Q ν) : p_X3_restore 16 1 μ Q := by
  obtain ⟨nx, h1, h2, h3, h4, h5⟩ := hH
  unfold p_X3_restore
  intro v1 ev1
  rw [h3, show (5 : Int32) = nI 5 from rfl, nI_add, show (1 : Int32) = nI 1 from rfl, pk_sub (by omega), pk_rem (by omega) (by decide) (by decide)] at ev1
  have hl : (nx + 5 - 1) % 5 < 5 := Nat.mod_lt _ (by decide)
  rw [ev1, e_kept hl]
  refine ⟨fun e => by simp at e, fun q e => ?_⟩
  cases e
  refine ⟨kd17 _ hl, fun e => ?_, fun _ => ?_⟩
  · rw [h4] at e
    exact absurd e (nI_ne0 (by omega) (by omega))
  have hlast := h5 h (by omega)
  rw [show (nx + 5 - (h + 1) + h) % 5 = (nx + 5 - 1) % 5 by omega] at hlast
  refine e_copyS s7_1 (s7_h _ hl) (apt_h1 hl) (fun μ4 F4 R4 => ?_)
  intro μ5 e5 μ6 e6
  have k16 : μ4.1 16 = μ.1 16 := (F4 16 (by omega)).1
  have k5 : μ5.1 16 2 = nI (h + 1) := by rw [e5, y_xi, if_neg (by decide), k16, h4]
  rw [k5, nI_pred] at e6
  have F5 : fr (fun x => x = 16) μ4 μ6 := by rw [e6, e5]; exact fr_tr (fr_xi rfl) (fr_xi rfl)
  refine hQ μ6 (fr_tr (fr_mono F4 (fun q hq => by omega)) (fr_mono F5 (fun q hq => by subst hq; decide))) ⟨(nx + 5 - 1) % 5, hl, by omega, ?_, ?_, fun i hi => ?_⟩ ?_
  · rw [e6, y_xi, if_neg (by decide), e5, y_xi, if_pos ⟨rfl, rfl⟩]
  · rw [e6, y_xi, if_pos ⟨rfl, rfl⟩]
  · have := h5 i (by omega)
    refine ⟨this.1, ?_⟩
    have e : ((nx + 5 - 1) % 5 + 5 - h + i) % 5 = (nx + 5 - (h + 1) + i) % 5 := by omega
    rw [e]
    refine Rep_fr (fun q q1 q2 => ?_) this.2
    have a1 := F4 q (by omega)
    have a2 := F5 q (by omega)
    exact ⟨a2.1.trans a1.1, a2.2.trans a1.2⟩
  · refine Rep_fr (fun q q1 q2 => ?_) (R4 _ _ hlast.1.1 hlast.1.2 hlast.2)
    exact F5 q (by omega)
