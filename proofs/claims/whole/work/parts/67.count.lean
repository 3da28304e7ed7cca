/-! counting lawful orders by sets, and one by one -/
def okS (ρ : Nat → Nat) (k U : Nat) : Bool := decide (ndf (ρ (7 + 7 * k)) U = 0)
theorem okL_S {ρ o : Nat → Nat} {d k : Nat} : okL ρ (up1 o d k) d = okS ρ k (usd o d) := by
  unfold okL okS
  rw [usd_ext (o := o) d (fun i hi => up1_n (by omega)), up1_s]
def FW (ρ : Nat → Nat) (n : Nat) : Nat → Nat → Nat
  | 0, _ => 1
  | f + 1, U => sm (fun k => if (!U.testBit k && okS ρ k U) = true then FW ρ n f (U ||| 2 ^ k) else 0) n
theorem len_fm {α : Type} (g : Nat → List α) : ∀ n, ((List.range n).flatMap g).length = sm (fun k => (g k).length) n
  | 0 => rfl
  | n + 1 => by
    rw [List.range_succ, List.flatMap_append, List.length_append, len_fm g n]
    simp [sm]
theorem len_lv (ρ : Nat → Nat) (n : Nat) : ∀ f d o, (lvG n (okL ρ) f d o).length = FW ρ n f (usd o d)
  | 0, d, o => rfl
  | f + 1, d, o => by
    simp only [lvG, FW]
    rw [len_fm]
    apply sm_ext
    intro k _
    rw [okL_S, usd_bit, Bool.not_not]
    by_cases h : (fre o d k && okS ρ k (usd o d)) = true
    · rw [if_pos h, if_pos h, len_lv ρ n f (d + 1) (up1 o d k)]
      simp only [usd]
      rw [up1_s, usd_ext (o := o) d (fun i hi => up1_n (by omega))]
    · rw [if_neg h, if_neg h]; rfl
def wsm (ρ : Nat → Nat) (n : Nat) (w : Nat → Nat) (s : Nat) : Nat := sm (fun k => if (s.testBit k && okS ρ k (ndf s (2 ^ k))) = true then w (ndf s (2 ^ k)) else 0) n
theorem sm_0 : ∀ n, sm (fun _ => 0) n = 0
  | 0 => rfl
  | n + 1 => by simp only [sm]; rw [sm_0 n]
theorem sm_add (f g : Nat → Nat) : ∀ n, sm (fun i => f i + g i) n = sm f n + sm g n
  | 0 => rfl
  | n + 1 => by simp only [sm]; rw [sm_add f g n]; omega
theorem sm_swap (f : Nat → Nat → Nat) (m : Nat) : ∀ n, sm (fun i => sm (fun j => f i j) m) n = sm (fun j => sm (fun i => f i j) n) m
  | 0 => by simp only [sm]; rw [sm_0]
  | n + 1 => by simp only [sm]; rw [sm_swap f m n, sm_add]
theorem sm_mulr (f : Nat → Nat) (c : Nat) : ∀ n, sm f n * c = sm (fun i => f i * c) n
  | 0 => by simp [sm]
  | n + 1 => by simp only [sm]; rw [Nat.add_mul, sm_mulr f c n]
theorem sm_mull (f : Nat → Nat) (c : Nat) : ∀ n, c * sm f n = sm (fun i => c * f i) n
  | 0 => by simp [sm]
  | n + 1 => by simp only [sm]; rw [Nat.mul_add, sm_mull f c n]
def sml (h : Nat × Nat → Nat) : List (Nat × Nat) → Nat
  | [] => 0
  | x :: l => h x + sml h l
theorem sml_app (h : Nat × Nat → Nat) : ∀ a b, sml h (a ++ b) = sml h a + sml h b
  | [], b => by simp [sml]
  | x :: a, b => by simp only [List.cons_append, sml]; rw [sml_app h a b]; omega
theorem sm_sml (h : Nat × Nat → Nat) (p : Nat → Bool) (e : Nat → Nat × Nat) : ∀ n, sm (fun i => if p i = true then h (e i) else 0) n = sml h (((List.range n).filter p).map e)
  | 0 => rfl
  | n + 1 => by
    rw [List.range_succ, List.filter_append, List.map_append, sml_app, ← sm_sml h p e n]
    simp only [sm, List.filter_cons, List.filter_nil]
    by_cases hp : p n = true
    · rw [if_pos hp, if_pos hp]; simp [sml]
    · rw [if_neg hp, if_neg hp]; simp [sml]
theorem bij_ck : ∀ n, n < 7 → ∀ k, k < n → ((List.range (2 ^ n)).filter (fun V => V.testBit k)).map (fun V => (ndf V (2 ^ k), V)) = ((List.range (2 ^ n)).filter (fun U => !U.testBit k)).map (fun U => (U, U ||| 2 ^ k)) := by decide +kernel
theorem bij {n k : Nat} (hn : n ≤ 6) (hk : k < n) (h : Nat × Nat → Nat) : sm (fun V => if V.testBit k = true then h (ndf V (2 ^ k), V) else 0) (2 ^ n) = sm (fun U => if (!U.testBit k) = true then h (U, U ||| 2 ^ k) else 0) (2 ^ n) := by
  rw [sm_sml h (fun V => V.testBit k) (fun V => (ndf V (2 ^ k), V)), sm_sml h (fun U => !U.testBit k) (fun U => (U, U ||| 2 ^ k)), bij_ck n (by omega) k hk]
theorem adj {ρ : Nat → Nat} {n : Nat} (hn : n ≤ 6) (v g : Nat → Nat) : sm (fun V => wsm ρ n v V * g V) (2 ^ n) = sm (fun U => v U * sm (fun k => if (!U.testBit k && okS ρ k U) = true then g (U ||| 2 ^ k) else 0) n) (2 ^ n) := by
  unfold wsm
  have e1 : (fun V => sm (fun k => if (V.testBit k && okS ρ k (ndf V (2 ^ k))) = true then v (ndf V (2 ^ k)) else 0) n * g V) = fun V => sm (fun k => if V.testBit k = true then (fun x : Nat × Nat => if okS ρ k x.1 = true then v x.1 * g x.2 else 0) (ndf V (2 ^ k), V) else 0) n := by
    funext V
    rw [sm_mulr]
    apply sm_ext
    intro k _
    by_cases h1 : V.testBit k = true
    · rw [h1, Bool.true_and, if_pos rfl]
      by_cases h2 : okS ρ k (ndf V (2 ^ k)) = true
      · simp only [h2, if_true]
      · simp only [h2, if_false, Nat.zero_mul, Bool.false_eq_true]
    · have h1' : V.testBit k = false := by simpa using h1
      simp only [h1', Bool.false_and, Bool.false_eq_true, if_false, Nat.zero_mul]
  have e2 : (fun U => v U * sm (fun k => if (!U.testBit k && okS ρ k U) = true then g (U ||| 2 ^ k) else 0) n) = fun U => sm (fun k => if (!U.testBit k) = true then (fun x : Nat × Nat => if okS ρ k x.1 = true then v x.1 * g x.2 else 0) (U, U ||| 2 ^ k) else 0) n := by
    funext U
    rw [sm_mull]
    apply sm_ext
    intro k _
    by_cases h1 : U.testBit k = true
    · simp only [h1, Bool.not_true, Bool.false_and, Bool.false_eq_true, if_false, Nat.mul_zero]
    · have h1' : U.testBit k = false := by simpa using h1
      simp only [h1', Bool.not_false, Bool.true_and, if_true]
      by_cases h2 : okS ρ k U = true
      · simp only [h2, if_true]
      · simp only [h2, if_false, Nat.mul_zero, Bool.false_eq_true]
  rw [e1, e2, sm_swap, sm_swap (f := fun U k => if (!U.testBit k) = true then (fun x : Nat × Nat => if okS ρ k x.1 = true then v x.1 * g x.2 else 0) (U, U ||| 2 ^ k) else 0)]
  apply sm_ext
  intro k hk
  exact bij hn hk (fun x : Nat × Nat => if okS ρ k x.1 = true then v x.1 * g x.2 else 0)
def v0w (U : Nat) : Nat := if U = 0 then 1 else 0
def Itw (ρ : Nat → Nat) (n : Nat) : Nat → Nat → Nat
  | 0 => v0w
  | d + 1 => wsm ρ n (Itw ρ n d)
theorem it_adj {ρ : Nat → Nat} {n : Nat} (hn : n ≤ 6) : ∀ d f, sm (fun V => Itw ρ n d V * FW ρ n f V) (2 ^ n) = sm (fun U => v0w U * FW ρ n (f + d) U) (2 ^ n)
  | 0, f => rfl
  | d + 1, f => by
    simp only [Itw]
    rw [adj hn]
    have := it_adj (ρ := ρ) hn d (f + 1)
    rw [show f + 1 + d = f + (d + 1) by omega] at this
    rw [← this]
    rfl
theorem card_ck : ∀ V, V < 64 → ∀ k, k < 6 → V.testBit k = true → pcS (ndf V (2 ^ k)) 6 + 1 = pcS V 6 := by decide +kernel
theorem full_ck : ∀ n, n < 7 → ∀ V, V < 2 ^ n → (pcS V 6 = n ↔ V = 2 ^ n - 1) := by decide +kernel
theorem zero_ck : ∀ V, V < 64 → (pcS V 6 = 0 ↔ V = 0) := by decide +kernel
theorem sm_one (x : Nat → Nat) (s : Nat) : ∀ n, s < n → sm (fun V => if V = s then x V else 0) n = x s
  | 0, h => by omega
  | n + 1, h => by
    simp only [sm]
    by_cases e : n = s
    · subst e
      rw [if_pos rfl, sm_ext (b := fun _ => 0) n (fun i hi => by rw [if_neg (by omega)]), sm_0, Nat.zero_add]
    · rw [if_neg e, sm_one x s n (by omega), Nat.add_zero]
theorem ndf_le (a b : Nat) : ndf a b ≤ a := by
  have : ndf a b = a &&& ndf a b := by
    apply Nat.eq_of_testBit_eq
    intro i
    rw [Nat.testBit_and, ndf_bit]
    cases a.testBit i <;> simp
  rw [this]
  exact Nat.and_le_left
theorem it_card {ρ : Nat → Nat} {n : Nat} (hn : n ≤ 6) {w : Nat → Nat} (w0 : w 0 = 1) (hw : ∀ s, 0 < s → s < 2 ^ n → w s = wsm ρ n w s) : ∀ d V, V < 2 ^ n → Itw ρ n d V = if pcS V 6 = d then w V else 0
  | 0, V, hV => by
    have h64 : V < 64 := Nat.lt_of_lt_of_le hV (Nat.pow_le_pow_right (by decide) hn : 2 ^ n ≤ 2 ^ 6)
    simp only [Itw, v0w]
    by_cases e : V = 0
    · subst e; rw [if_pos rfl, if_pos ((zero_ck 0 (by decide)).mpr rfl), w0]
    · rw [if_neg e, if_neg (fun h => e ((zero_ck V h64).mp h))]
  | d + 1, V, hV => by
    have h64 : V < 64 := Nat.lt_of_lt_of_le hV (Nat.pow_le_pow_right (by decide) hn : 2 ^ n ≤ 2 ^ 6)
    simp only [Itw]
    by_cases e : V = 0
    · subst e
      rw [if_neg (by rw [(zero_ck 0 (by decide)).mpr rfl]; omega)]
      unfold wsm
      rw [sm_ext (b := fun _ => 0) n (fun i hi => by simp), sm_0]
    · by_cases hc : pcS V 6 = d + 1
      · rw [if_pos hc, hw V (by omega) hV]
        unfold wsm
        apply sm_ext
        intro k hk
        by_cases h1 : V.testBit k = true
        · rw [h1, Bool.true_and]
          by_cases h2 : okS ρ k (ndf V (2 ^ k)) = true
          · rw [if_pos h2, if_pos h2, it_card hn w0 hw d _ (Nat.lt_of_le_of_lt (ndf_le _ _) hV), if_pos (by have := card_ck V h64 k (by omega) h1; omega)]
          · rw [if_neg h2, if_neg h2]
        · have h1' : V.testBit k = false := by simpa using h1
          simp [h1']
      · rw [if_neg hc]
        unfold wsm
        rw [sm_ext (b := fun _ => 0) n ?_, sm_0]
        intro k hk
        by_cases h1 : V.testBit k = true
        · rw [h1, Bool.true_and]
          by_cases h2 : okS ρ k (ndf V (2 ^ k)) = true
          · rw [if_pos h2, it_card hn w0 hw d _ (Nat.lt_of_le_of_lt (ndf_le _ _) hV), if_neg (by have := card_ck V h64 k (by omega) h1; omega)]
          · rw [if_neg h2]
        · have h1' : V.testBit k = false := by simpa using h1
          simp [h1']
theorem ways_FW {ρ : Nat → Nat} {n : Nat} (hn : n ≤ 6) {w : Nat → Nat} (w0 : w 0 = 1) (hw : ∀ s, 0 < s → s < 2 ^ n → w s = wsm ρ n w s) : w (2 ^ n - 1) = FW ρ n n 0 := by
  have h := it_adj (ρ := ρ) hn n 0
  have hp : 0 < 2 ^ n := Nat.two_pow_pos n
  rw [sm_ext (b := fun V => if V = 2 ^ n - 1 then w V else 0) (2 ^ n) ?_, sm_one w (2 ^ n - 1) (2 ^ n) (by omega)] at h
  · rw [h, sm_ext (b := fun V => if V = 0 then FW ρ n n V else 0) (2 ^ n) ?_, sm_one (FW ρ n n) 0 (2 ^ n) hp]
    intro U _
    unfold v0w
    rw [Nat.zero_add]
    split <;> simp
  · intro V hV
    rw [it_card hn w0 hw n V hV]
    simp only [FW, Nat.mul_one]
    by_cases e : V = 2 ^ n - 1
    · rw [if_pos e, if_pos ((full_ck n (by omega) V hV).mpr e)]
    · rw [if_neg e, if_neg (fun h => e ((full_ck n (by omega) V hV).mp h))]
theorem ways_LV {ρ : Nat → Nat} {n : Nat} (hn : n ≤ 6) {w : Nat → Nat} (w0 : w 0 = 1) (hw : ∀ s, 0 < s → s < 2 ^ n → w s = wsm ρ n w s) : w (2 ^ n - 1) = (LV ρ n).length := by
  unfold LV
  rw [len_lv, ways_FW hn w0 hw]
  rfl
