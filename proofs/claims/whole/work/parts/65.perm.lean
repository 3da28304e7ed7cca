/-! orders: all of them, by lexicographic order -/
def fre (o : Nat → Nat) : Nat → Nat → Bool
  | 0, _ => true
  | d + 1, k => fre o d k && !(Nat.beq (o d) k)
def usd (o : Nat → Nat) : Nat → Nat
  | 0 => 0
  | d + 1 => usd o d ||| 2 ^ (o d)
theorem usd_bit (o : Nat → Nat) (k : Nat) : ∀ d, (usd o d).testBit k = !fre o d k
  | 0 => by simp [usd, fre]
  | d + 1 => by
    simp only [usd, fre]
    rw [Nat.testBit_or, usd_bit o k d, Nat.testBit_two_pow]
    by_cases h : o d = k
    · simp [h]
    · have : Nat.beq (o d) k = false := by
        cases hb : Nat.beq (o d) k
        · rfl
        · exact absurd (Nat.eq_of_beq_eq_true hb) h
      simp [h, this]
theorem usd_ext {o p : Nat → Nat} : ∀ d, (∀ i, i < d → p i = o i) → usd p d = usd o d
  | 0, _ => rfl
  | d + 1, h => by simp only [usd]; rw [usd_ext d (fun i hi => h i (by omega)), h d (by omega)]
theorem usd_lt {o : Nat → Nat} {n : Nat} : ∀ d, (∀ i, i < d → o i < n) → usd o d < 2 ^ n
  | 0, _ => by simp only [usd]; exact Nat.two_pow_pos n
  | d + 1, h => by
    simp only [usd]
    exact Nat.or_lt_two_pow (usd_lt d (fun i hi => h i (by omega))) (Nat.pow_lt_pow_right (by decide) (h d (by omega)))
def lvG (n : Nat) (ok : (Nat → Nat) → Nat → Bool) : Nat → Nat → (Nat → Nat) → List (Nat → Nat)
  | 0, _, o => [o]
  | f + 1, d, o => (List.range n).flatMap (fun k => if (fre o d k && ok (up1 o d k) d) = true then lvG n ok f (d + 1) (up1 o d k) else [])
def topk : (Nat → Nat) → Nat → Bool := fun _ _ => true
def PL (n : Nat) : List (Nat → Nat) := lvG n topk n 0 (fun _ => 0)
def okL (ρ : Nat → Nat) (o : Nat → Nat) (d : Nat) : Bool := decide (ndf (ρ (7 + 7 * o d)) (usd o d) = 0)
def lwf (ρ : Nat → Nat) (o : Nat → Nat) : Nat → Bool
  | 0 => true
  | d + 1 => lwf ρ o d && okL ρ o d
def lwR (ρ : Nat → Nat) (o : Nat → Nat) : Nat → Nat → Bool
  | _, 0 => true
  | d, f + 1 => okL ρ o d && lwR ρ o (d + 1) f
theorem lwR_f (ρ : Nat → Nat) (o : Nat → Nat) : ∀ f d, (lwf ρ o d && lwR ρ o d f) = lwf ρ o (d + f)
  | 0, d => by simp [lwR]
  | f + 1, d => by
    have ih := lwR_f ρ o f (d + 1)
    simp only [lwR]
    rw [← Bool.and_assoc, show d + (f + 1) = d + 1 + f by omega, ← ih]
    rfl
theorem okL_ext {ρ o p : Nat → Nat} {d : Nat} (h : ∀ i, i ≤ d → p i = o i) : okL ρ p d = okL ρ o d := by
  unfold okL
  rw [usd_ext d (fun i hi => h i (by omega)), h d (Nat.le_refl d)]
theorem lvG_pre {n : Nat} {ok : (Nat → Nat) → Nat → Bool} : ∀ f d o p, p ∈ lvG n ok f d o → ∀ i, i < d → p i = o i
  | 0, d, o, p, h, i, hi => by simp only [lvG, List.mem_singleton] at h; rw [h]
  | f + 1, d, o, p, h, i, hi => by
    simp only [lvG, List.mem_flatMap] at h
    obtain ⟨k, -, h2⟩ := h
    split at h2
    · rw [lvG_pre f (d + 1) _ p h2 i (by omega), up1_n (by omega)]
    · exact absurd h2 List.not_mem_nil
theorem flatMap_ext {α β : Type} {f g : α → List β} : ∀ (l : List α), (∀ a, a ∈ l → f a = g a) → l.flatMap f = l.flatMap g
  | [], _ => rfl
  | a :: l, h => by simp only [List.flatMap_cons]; rw [h a List.mem_cons_self, flatMap_ext l (fun b hb => h b (List.mem_cons_of_mem _ hb))]
theorem filter_fm {α β : Type} {f : α → List β} {p : β → Bool} : ∀ (l : List α), (l.flatMap f).filter p = l.flatMap (fun a => (f a).filter p)
  | [] => rfl
  | a :: l => by simp only [List.flatMap_cons, List.filter_append]; rw [filter_fm l]
theorem filter_ext {α : Type} {p q : α → Bool} : ∀ (l : List α), (∀ a, a ∈ l → p a = q a) → l.filter p = l.filter q
  | [], _ => rfl
  | a :: l, h => by simp only [List.filter_cons]; rw [h a List.mem_cons_self, filter_ext l (fun b hb => h b (List.mem_cons_of_mem _ hb))]
theorem filter_no {α : Type} {p : α → Bool} : ∀ (l : List α), (∀ a, a ∈ l → p a = false) → l.filter p = []
  | [], _ => rfl
  | a :: l, h => by simp only [List.filter_cons]; rw [h a List.mem_cons_self, filter_no l (fun b hb => h b (List.mem_cons_of_mem _ hb))]; rfl
theorem lvG_fil (n : Nat) (ρ : Nat → Nat) : ∀ f d o, lvG n (okL ρ) f d o = (lvG n topk f d o).filter (fun p => lwR ρ p d f)
  | 0, d, o => by simp [lvG, lwR]
  | f + 1, d, o => by
    simp only [lvG]
    rw [filter_fm]
    apply flatMap_ext
    intro k _
    simp only [topk, Bool.and_true]
    by_cases h1 : fre o d k = true
    · rw [h1, if_pos rfl]
      simp only [Bool.true_and]
      have hx : ∀ p, p ∈ lvG n topk f (d + 1) (up1 o d k) → okL ρ p d = okL ρ (up1 o d k) d := fun p hp => okL_ext (fun i hi => lvG_pre f (d + 1) _ p hp i (by omega))
      by_cases h2 : okL ρ (up1 o d k) d = true
      · rw [if_pos h2, lvG_fil n ρ f (d + 1) (up1 o d k)]
        apply filter_ext
        intro p hp
        simp only [lwR]
        rw [hx p hp, h2, Bool.true_and]
      · rw [if_neg h2]
        symm
        apply filter_no
        intro p hp
        simp only [lwR]
        rw [hx p hp]
        simp [h2]
    · have h1' : fre o d k = false := by simpa using h1
      simp [h1']
def LV (ρ : Nat → Nat) (n : Nat) : List (Nat → Nat) := lvG n (okL ρ) n 0 (fun _ => 0)
theorem LV_fil (ρ : Nat → Nat) (n : Nat) : LV ρ n = (PL n).filter (fun p => lwf ρ p n) := by
  unfold LV PL
  rw [lvG_fil]
  apply filter_ext
  intro p _
  have := lwR_f ρ p n 0
  rw [Nat.zero_add] at this
  rw [← this]
  simp [lwf]
/-! the next order, as the reference goes on -/
def fI (a : Nat → Nat) : Nat → Nat
  | 0 => 0
  | i + 1 => if Nat.ble (a i) (a (i + 1)) = true then i + 1 else fI a i
def fJ (a : Nat → Nat) (v : Nat) : Nat → Nat
  | 0 => 0
  | j + 1 => if Nat.ble v (a (j + 1)) = true then j + 1 else fJ a v j
def sw (a : Nat → Nat) (i j : Nat) : Nat → Nat := up1 (up1 a i (a j)) j (a i)
def rv : Nat → (Nat → Nat) → Nat → Nat → (Nat → Nat)
  | 0, a, _, _ => a
  | f + 1, a, lo, hi => if Nat.ble hi lo = true then a else rv f (sw a lo hi) (lo + 1) (hi - 1)
def nxB (n : Nat) (a : Nat → Nat) : Bool := !(Nat.beq (fI a (n - 1)) 0)
def nxO (n : Nat) (a : Nat → Nat) : Nat → Nat := rv 6 (sw a (fI a (n - 1) - 1) (fJ a (a (fI a (n - 1) - 1)) (n - 1))) (fI a (n - 1)) (n - 1)
def agr (f b : Nat → Nat) : Nat → Nat → Bool
  | 0, _ => true
  | d + 1, n => Nat.beq (f d) (b d) && Nat.blt (b d) n && agr f b d n
theorem agr_ok {f b : Nat → Nat} {n : Nat} : ∀ d, agr f b d n = true → ∀ i, i < d → f i = b i ∧ b i < n
  | 0, _, i, hi => by omega
  | d + 1, h, i, hi => by
    simp only [agr, Bool.and_eq_true] at h
    by_cases e : i = d
    · subst e
      exact ⟨Nat.eq_of_beq_eq_true h.1.1, by have := h.1.2; simpa [Nat.blt_eq] using this⟩
    · exact agr_ok d h.2 i (by omega)
def ckh (n : Nat) : List (Nat → Nat) → (Nat → Nat) → Bool
  | [], a => !(nxB n a)
  | b :: l, a => nxB n a && agr (nxO n a) b n n && ckh n l b
def ckP (n : Nat) : List (Nat → Nat) → Bool
  | [] => false
  | a :: l => agr (fun i => i) a n n && ckh n l a && Nat.beq ((a :: l).length) ([1, 1, 2, 6, 24, 120, 720].getD n 0)
theorem ck_0 : ckP 0 (PL 0) = true := by decide +kernel
theorem ck_1 : ckP 1 (PL 1) = true := by decide +kernel
theorem ck_2 : ckP 2 (PL 2) = true := by decide +kernel
theorem ck_3 : ckP 3 (PL 3) = true := by decide +kernel
theorem ck_4 : ckP 4 (PL 4) = true := by decide +kernel
theorem ck_5 : ckP 5 (PL 5) = true := by decide +kernel
theorem ck_6 : ckP 6 (PL 6) = true := by decide +kernel
theorem ck_n {n : Nat} (h : n ≤ 6) : ∃ a l, PL n = a :: l ∧ (∀ i, i < n → a i = i) ∧ ckh n l a = true ∧ (a :: l).length ≤ 720 := by
  have hc : ckP n (PL n) = true := by
    rcases (show n = 0 ∨ n = 1 ∨ n = 2 ∨ n = 3 ∨ n = 4 ∨ n = 5 ∨ n = 6 by omega) with rfl | rfl | rfl | rfl | rfl | rfl | rfl
    · exact ck_0
    · exact ck_1
    · exact ck_2
    · exact ck_3
    · exact ck_4
    · exact ck_5
    · exact ck_6
  cases hp : PL n with
  | nil => rw [hp] at hc; exact absurd hc (by simp [ckP])
  | cons a l =>
    rw [hp] at hc
    simp only [ckP, Bool.and_eq_true] at hc
    refine ⟨a, l, rfl, fun i hi => ((agr_ok n hc.1.1 i hi).1).symm, hc.1.2, ?_⟩
    rw [Nat.eq_of_beq_eq_true hc.2]
    rcases (show n = 0 ∨ n = 1 ∨ n = 2 ∨ n = 3 ∨ n = 4 ∨ n = 5 ∨ n = 6 by omega) with rfl | rfl | rfl | rfl | rfl | rfl | rfl <;> decide
