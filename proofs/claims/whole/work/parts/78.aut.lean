/-! the text: an automaton -/
def nw (l : Nat) : Nat := if l = 97 then 2 else if l = 98 then 4 else if l = 112 then 2 else if l = 115 then 3 else 0
abbrev isLt (l : Nat) : Prop := l = 97 ∨ l = 98 ∨ l = 110 ∨ l = 112 ∨ l = 115
theorem nw_le (l : Nat) : nw l ≤ 4 := by
  unfold nw
  repeat' (first | omega | split)
abbrev iT : Type := Nat × Nat × Nat × Nat × Bool × (Nat → Int32)
abbrev sT : Type := Option iT
abbrev oT : Type := Nat × (Nat → Int32)
def upI (nm : Nat → Int32) (e : Nat) (x : Int32) : Nat → Int32 := fun i => if i = e then x else nm i
def sgI (g : Bool) (v : Nat) : Int32 := if g = true then -(nI v) else nI v
def enE (e f : Nat) : Nat := if f = 0 then e else e + 1
def enN (e v f : Nat) (g : Bool) (nm : Nat → Int32) : Nat → Int32 := if f = 0 then nm else upI nm e (sgI g v)
def stp (s : sT) (c : Nat) : Option (sT × Option oT) := match s with
  | none => if c = 32 then some (none, none) else if isLt c then some (some (c, 0, 0, 0, false, fun _ => 0), none) else none
  | some (l, e, v, f, g, nm) => if 48 ≤ c ∧ c ≤ 57 then (if nw l ≤ e ∨ 5 ≤ f then none else some (some (l, e, 10 * v + (c - 48), f + 1, g, nm), none))
    else if g = true ∧ f = 0 then none
    else if c = 45 then (if l = 115 ∧ (enE e f = 1 ∨ enE e f = 2) then some (some (l, enE e f, 0, 0, true, enN e v f g nm), none) else none)
    else if c = 59 then (if enE e f = nw l then some (none, some (l, enN e v f g nm)) else none)
    else if c = 32 then some (some (l, enE e f, 0, 0, false, enN e v f g nm), none) else none
def okA (s : sT) : Prop := match s with
  | none => True
  | some (l, e, v, f, g, _) => isLt l ∧ e ≤ nw l ∧ f ≤ 5 ∧ ((f ≠ 0 ∨ g = true) → e < nw l) ∧ (f = 0 → v = 0)
theorem okA_stp {s s2 : sT} {c : Nat} {em : Option oT} (h : okA s) (hs : stp s c = some (s2, em)) : okA s2 := by
  cases s with
  | none =>
    simp only [stp] at hs
    split at hs
    · injection hs with hs; injection hs with h1 h2; rw [← h1]; trivial
    · split at hs
      · rename_i _ hl
        injection hs with hs; injection hs with h1 h2; rw [← h1]
        exact ⟨hl, by omega, by omega, fun h => by rcases h with h | h; exact absurd rfl h; exact absurd h (by decide), fun _ => rfl⟩
      · exact absurd hs (by simp)
  | some x =>
    obtain ⟨l, e, v, f, g, nm⟩ := x
    obtain ⟨h1, h2, h3, h4, h5⟩ : isLt l ∧ e ≤ nw l ∧ f ≤ 5 ∧ ((f ≠ 0 ∨ g = true) → e < nw l) ∧ (f = 0 → v = 0) := h
    have he : enE e f ≤ nw l := by
      unfold enE
      split
      · exact h2
      · rename_i hf; exact h4 (Or.inl hf)
    simp only [stp] at hs
    split at hs
    · split at hs
      · exact absurd hs (by simp)
      · rename_i hn
        injection hs with hs; injection hs with a1 a2; rw [← a1]
        exact ⟨h1, h2, by omega, fun _ => by omega, fun h => by omega⟩
    · split at hs
      · exact absurd hs (by simp)
      · split at hs
        · split at hs
          · rename_i hm
            injection hs with hs; injection hs with a1 a2; rw [← a1]
            refine ⟨h1, he, by omega, fun _ => ?_, fun _ => rfl⟩
            rw [hm.1]
            have : nw 115 = 3 := by decide
            rcases hm.2 with h | h <;> rw [h, this] <;> decide
          · exact absurd hs (by simp)
        · split at hs
          · split at hs
            · injection hs with hs; injection hs with a1 a2; rw [← a1]; trivial
            · exact absurd hs (by simp)
          · split at hs
            · injection hs with hs; injection hs with a1 a2; rw [← a1]
              exact ⟨h1, he, by omega, fun h => by rcases h with h | h; exact absurd rfl h; exact absurd h (by decide), fun _ => rfl⟩
            · exact absurd hs (by simp)
/-! the class's reader -/
def bI (b : Bool) : Int32 := if b = true then 1 else 0
theorem bI0 (b : Bool) : bI b = 0 ↔ b = false := by cases b <;> decide
def AI (ν : xM) (s : sT) : Prop := match s with
  | none => ν.1 102 3 = 0
  | some (l, e, v, f, g, nm) => ν.1 102 3 = 1 ∧ ν.1 102 0 = nI l ∧ ν.1 102 5 = nI (nw l) ∧ ν.1 102 6 = nI e ∧ ν.1 102 7 = nI v ∧ ν.1 102 8 = nI f ∧ ν.1 102 9 = bI g ∧ ∀ k, k < e → ν.1 103 k = nm k
def AX (ν : xM) (a : Bool) (s : sT) : Prop := ν.1 102 4 = bI a ∧ AI ν s
def emO (em : Option oT) : Bool := em.isSome
def AE (ν : xM) (em : Option oT) : Prop := ν.1 102 2 = bI (emO em) ∧ ∀ l nm, em = some (l, nm) → ν.1 102 0 = nI l ∧ ∀ k, k < nw l → ν.1 103 k = nm k
def rdP : Nat → Prop := fun q => q = 102 ∨ q = 103
theorem e_nbX {c : Nat} (hc : c < 128) {μ : xM} {Q : Int32 → xM → Prop} : p_X4_numbersBehind (nI c) μ Q ↔ Q (if isLt c then nI (nw c) else -1) μ := by
  unfold p_X4_numbersBehind
  rw [show (97 : Int32) = nI 97 from rfl, show (98 : Int32) = nI 98 from rfl, show (110 : Int32) = nI 110 from rfl, show (112 : Int32) = nI 112 from rfl, show (115 : Int32) = nI 115 from rfl, nI_eq (by omega) (by decide), nI_eq (by omega) (by decide), nI_eq (by omega) (by decide), nI_eq (by omega) (by decide), nI_eq (by omega) (by decide)]
  by_cases h1 : c = 97
  · subst h1; simp [nw]; rfl
  by_cases h2 : c = 98
  · subst h2; simp [nw]; rfl
  by_cases h3 : c = 110
  · subst h3; simp [nw]; rfl
  by_cases h4 : c = 112
  · subst h4; simp [nw]; rfl
  by_cases h5 : c = 115
  · subst h5; simp [nw]; rfl
  · simp [h1, h2, h3, h4, h5, isLt]
theorem x_s {μ : xM} {q j : Nat} {v : Int32} : (xi μ q j v).1 q j = v := by rw [y_xi, if_pos ⟨rfl, rfl⟩]
theorem x_d {μ : xM} {q j j2 : Nat} {v : Int32} (h : j2 ≠ j) : (xi μ q j v).1 q j2 = μ.1 q j2 := by rw [y_xi, if_neg (fun e => h e.2)]
theorem e_tkN {ν : xM} {a : Bool} {c : Nat} (hc : c < 128) (hA : AX ν a none) {Q : Int32 → xM → Prop} (h0 : stp none c = none → ∀ κ, fr rdP ν κ → Q 0 κ) (h1 : ∀ s2 em, stp none c = some (s2, em) → ∀ κ, fr rdP ν κ → AX κ (a || emO em) s2 → AE κ em → Q 1 κ) : p_X4_takes 102 (nI c) ν Q := by
  unfold p_X4_takes p_X4_begins p_X4_startNumber
  simp only [forall_eq, e_nbX hc]
  have a3 : (xi ν 102 2 0).1 102 3 = 0 := by rw [x_d (by decide)]; exact hA.2
  have F0 : fr rdP ν (xi ν 102 2 0) := fr_xi (Or.inl rfl)
  rw [a3]
  refine ⟨fun h => absurd rfl h, fun _ => ?_⟩
  rw [show (32 : Int32) = nI 32 from rfl, nI_eq (by omega) (by decide)]
  simp only [stp] at h0 h1
  refine ⟨fun e => ?_, fun e => ?_⟩
  · rw [if_pos e] at h1
    refine h1 none none rfl _ F0 ⟨?_, a3⟩ ⟨x_s, fun l nm h => absurd h (by simp)⟩
    rw [x_d (by decide), hA.1]; simp [emO]
  · rw [if_neg e] at h0 h1
    by_cases hl : isLt c
    · simp only [if_pos hl] at h0 h1 ⊢
      have hnw := nw_le c
      refine ⟨fun _ => ?_, fun h => ?_⟩
      · refine ⟨fun h => absurd h (by decide), fun _ => ?_⟩
        refine h1 _ none rfl _ ?_ ⟨?_, ?_⟩ ⟨?_, fun l nm h => absurd h (by simp)⟩
        · exact fr_tr (fr_tr (fr_tr (fr_tr (fr_tr (fr_tr (fr_tr F0 (fr_xi (Or.inl rfl))) (fr_xi (Or.inl rfl))) (fr_xi (Or.inl rfl))) (fr_xi (Or.inl rfl))) (fr_xi (Or.inl rfl))) (fr_xi (Or.inl rfl))) (fr_xi (Or.inl rfl))
        · rw [x_d (by decide), x_d (by decide), x_d (by decide), x_d (by decide), x_d (by decide), x_d (by decide), x_d (by decide), x_d (by decide), hA.1]; simp [emO]
        · refine ⟨?_, ?_, ?_, ?_, ?_, ?_, ?_, fun k hk => absurd hk (Nat.not_lt_zero k)⟩
          · rw [x_d (by decide), x_d (by decide), x_d (by decide), x_d (by decide), x_s]
          · rw [x_d (by decide), x_d (by decide), x_d (by decide), x_d (by decide), x_d (by decide), x_s]
          · rw [x_d (by decide), x_d (by decide), x_d (by decide), x_d (by decide), x_d (by decide), x_d (by decide), x_s]
          · rw [x_d (by decide), x_d (by decide), x_d (by decide), x_s]; rfl
          · rw [x_d (by decide), x_d (by decide), x_s]; rfl
          · rw [x_d (by decide), x_s]; rfl
          · rw [x_s]; rfl
        · rw [x_d (by decide), x_d (by decide), x_d (by decide), x_d (by decide), x_d (by decide), x_d (by decide), x_d (by decide), x_s]; rfl
      · rw [x_s] at h
        exact absurd (show nI (nw c) < 0 by rw [h]; decide) (nI_pos (by omega))
    · simp only [if_neg hl] at h0 h1 ⊢
      refine ⟨fun h => absurd x_s h, fun _ => ?_⟩
      exact ⟨fun _ => h0 trivial _ (fr_tr F0 (fr_xi (Or.inl rfl))), fun h => absurd trivial h⟩
