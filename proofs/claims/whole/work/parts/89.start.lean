/-! the start: what the constructors leave is one memory, and both objects hold the empty state in it -/
def μ00 : xM := (fun q => if q = 93 then (fun j => if j = 5 then 1 else 0) else fun _ => 0, fun _ _ => 0)
def ρ00 : Nat → Nat := fun i => if isSh i then 3 else 0
theorem ρ00_n {i : Nat} (h : ¬ isSh i) : ρ00 i = 0 := by unfold ρ00; rw [if_neg h]
theorem ρ00_0 : ρ00 0 = 0 := by decide
theorem μ00_i {q j : Nat} (h : q ≠ 93) : μ00.1 q j = 0 := by unfold μ00; simp [h]
theorem WF00 : WF ρ00 := by
  have h93 : ρ00 93 = 0 := by decide
  refine ⟨by decide, fun k hk => absurd hk (by rw [ρ00_0]; omega), fun c hc => ?_, by decide, by decide, by decide, fun i hi => absurd hi (by omega)⟩
  rw [ρ00_n (by unfold isSh; omega), ρ00_n (by unfold isSh; omega), ρ00_n (by unfold isSh; omega)]
  exact ⟨by decide, by decide, by decide⟩
theorem Rep00 : Rep μ00 1 ρ00 0 := by
  have h93 : ρ00 93 = 0 := by decide
  refine ⟨⟨?_, fun k hk => absurd hk (by rw [ρ00_0]; omega)⟩, ⟨⟨?_, ?_, ?_⟩, ?_, ?_, ?_, fun i hi => absurd hi (by omega)⟩, ?_⟩ <;> decide +kernel
theorem MR00 : MR (μ00.1 105) ρ00 0 := by
  refine ⟨μ00_i (by decide), fun i hi hne => ?_⟩
  rw [μ00_i (by decide)]
  unfold enc ρ00
  by_cases h : isSh i
  · rw [if_pos h, if_pos h]; decide
  · rw [if_neg h, if_neg h]; decide
theorem inv0 : Inv 0 μ00 := by
  refine ⟨ρ00, 0, 0, fun _ => ρ00, fun _ => 0, fun _ => 0, 0, fun _ => 0, ⟨WF00, fun i hi => absurd hi (Nat.not_lt_zero i), by omega, fun i hi => absurd hi (Nat.not_lt_zero i)⟩, ⟨Rep00, ⟨0, by omega, by omega, by decide, by decide, fun i hi => absurd hi (Nat.not_lt_zero i)⟩, fun j hj => μ00_i (by decide), ⟨by decide, fun i hi => absurd hi (Nat.not_lt_zero i)⟩, 0, by omega, by decide, fun s hs => ⟨0, by omega, μ00_i (by decide)⟩⟩, ⟨MR00, ⟨by omega, by decide, fun i hi => absurd hi (Nat.not_lt_zero i)⟩, fun j hj => μ00_i (by decide), by decide, fun i hi => absurd hi (Nat.not_lt_zero i)⟩⟩
def adL (h : Nat) (t : tWp) (k : Nat) (u : Nat → Nat) : List Nat := [h, t.1, t.2.1.1, t.2.1.2.1 1, t.2.1.2.1 2, t.2.1.2.1 3, t.2.1.2.1 4, t.2.1.2.1 5, t.2.1.2.1 6, t.2.1.2.1 7, t.2.1.2.1 8, t.2.1.2.2.1, t.2.1.2.2.2 1, t.2.1.2.2.2 2, t.2.1.2.2.2 3, t.2.1.2.2.2 4, t.2.2.1, t.2.2.2.1.1, t.2.2.2.1.2.1 0, (t.2.2.2.1.2.2 0).1, (t.2.2.2.1.2.2 0).2.1 1, (t.2.2.2.1.2.2 0).2.1 2, (t.2.2.2.1.2.2 0).2.1 3, (t.2.2.2.1.2.2 0).2.1 4, (t.2.2.2.1.2.2 0).2.1 5, (t.2.2.2.1.2.2 0).2.1 6, (t.2.2.2.1.2.2 0).2.1 7, (t.2.2.2.1.2.2 0).2.1 8, (t.2.2.2.1.2.2 0).2.2.1, (t.2.2.2.1.2.2 0).2.2.2 1, (t.2.2.2.1.2.2 0).2.2.2 2, (t.2.2.2.1.2.2 0).2.2.2 3, (t.2.2.2.1.2.2 0).2.2.2 4, t.2.2.2.1.2.1 1, (t.2.2.2.1.2.2 1).1, (t.2.2.2.1.2.2 1).2.1 1, (t.2.2.2.1.2.2 1).2.1 2, (t.2.2.2.1.2.2 1).2.1 3, (t.2.2.2.1.2.2 1).2.1 4, (t.2.2.2.1.2.2 1).2.1 5, (t.2.2.2.1.2.2 1).2.1 6, (t.2.2.2.1.2.2 1).2.1 7, (t.2.2.2.1.2.2 1).2.1 8, (t.2.2.2.1.2.2 1).2.2.1, (t.2.2.2.1.2.2 1).2.2.2 1, (t.2.2.2.1.2.2 1).2.2.2 2, (t.2.2.2.1.2.2 1).2.2.2 3, (t.2.2.2.1.2.2 1).2.2.2 4, t.2.2.2.1.2.1 2, (t.2.2.2.1.2.2 2).1, (t.2.2.2.1.2.2 2).2.1 1, (t.2.2.2.1.2.2 2).2.1 2, (t.2.2.2.1.2.2 2).2.1 3, (t.2.2.2.1.2.2 2).2.1 4, (t.2.2.2.1.2.2 2).2.1 5, (t.2.2.2.1.2.2 2).2.1 6, (t.2.2.2.1.2.2 2).2.1 7, (t.2.2.2.1.2.2 2).2.1 8, (t.2.2.2.1.2.2 2).2.2.1, (t.2.2.2.1.2.2 2).2.2.2 1, (t.2.2.2.1.2.2 2).2.2.2 2, (t.2.2.2.1.2.2 2).2.2.2 3, (t.2.2.2.1.2.2 2).2.2.2 4, t.2.2.2.1.2.1 3, (t.2.2.2.1.2.2 3).1, (t.2.2.2.1.2.2 3).2.1 1, (t.2.2.2.1.2.2 3).2.1 2, (t.2.2.2.1.2.2 3).2.1 3, (t.2.2.2.1.2.2 3).2.1 4, (t.2.2.2.1.2.2 3).2.1 5, (t.2.2.2.1.2.2 3).2.1 6, (t.2.2.2.1.2.2 3).2.1 7, (t.2.2.2.1.2.2 3).2.1 8, (t.2.2.2.1.2.2 3).2.2.1, (t.2.2.2.1.2.2 3).2.2.2 1, (t.2.2.2.1.2.2 3).2.2.2 2, (t.2.2.2.1.2.2 3).2.2.2 3, (t.2.2.2.1.2.2 3).2.2.2 4, t.2.2.2.1.2.1 4, (t.2.2.2.1.2.2 4).1, (t.2.2.2.1.2.2 4).2.1 1, (t.2.2.2.1.2.2 4).2.1 2, (t.2.2.2.1.2.2 4).2.1 3, (t.2.2.2.1.2.2 4).2.1 4, (t.2.2.2.1.2.2 4).2.1 5, (t.2.2.2.1.2.2 4).2.1 6, (t.2.2.2.1.2.2 4).2.1 7, (t.2.2.2.1.2.2 4).2.1 8, (t.2.2.2.1.2.2 4).2.2.1, (t.2.2.2.1.2.2 4).2.2.2 1, (t.2.2.2.1.2.2 4).2.2.2 2, (t.2.2.2.1.2.2 4).2.2.2 3, (t.2.2.2.1.2.2 4).2.2.2 4, t.2.2.2.2.1, t.2.2.2.2.2.1.1, t.2.2.2.2.2.1.2.1, t.2.2.2.2.2.1.2.2.1 1, t.2.2.2.2.2.1.2.2.1 2, t.2.2.2.2.2.1.2.2.1 3, t.2.2.2.2.2.1.2.2.2, t.2.2.2.2.2.2.1, t.2.2.2.2.2.2.2.1, t.2.2.2.2.2.2.2.2.1, t.2.2.2.2.2.2.2.2.2, k, u 1, u 2, u 3, u 4, u 5, u 6, u 7, u 8, u 9, u 10, u 11, u 12, u 13, u 14, u 15]
def adO (h : Nat) (t : tWp) (k : Nat) (u : Nat → Nat) (q : Nat) : Nat := (adL h t k u).getD q 0
theorem z_swapAt {E : xE} {A : Nat → Prop} {H0 H : Heap} {locs : List Loc} {ws : va_W} {a n : Nat} {cA : ClassId} {f g : Nat → Option Nat} (i0 : Nat) (hi0 : ws[i0]? = some (a, .inl (cA, n, .inr (.inr (.inr (.inr f)))))) (hf : ∀ j, j < n → f j = g j) (hH : zH E A H0 ws H locs) : zH E A H0 (ws.set i0 (a, .inl (cA, n, .inr (.inr (.inr (.inr g)))))) H locs := by
  have hc : vp_cell cA (n, .inr (.inr (.inr (.inr f)))) = vp_cell cA (n, .inr (.inr (.inr (.inr g)))) := by
    rw [vp_cell_q, vp_cell_q]
    unfold arrV
    congr 1
    congr 1
    funext j
    show va_rf (f j.val) = va_rf (g j.val)
    rw [hf j.val j.isLt]
  obtain ⟨hP, hD, hS⟩ := hH
  have hlt : i0 < ws.length := (List.getElem?_eq_some_iff.mp hi0).1
  have tr : ∀ (i : Nat) (p : Nat × va_E), (ws.set i0 (a, .inl (cA, n, .inr (.inr (.inr (.inr g))))))[i]? = some p → ∃ p2 : Nat × va_E, ws[i]? = some p2 ∧ p2.1 = p.1 := by
    intro i p hi
    rw [List.getElem?_set] at hi
    by_cases e : i0 = i
    · rw [if_pos e, if_pos (e ▸ hlt)] at hi
      cases hi
      exact ⟨(a, .inl (cA, n, .inr (.inr (.inr (.inr f))))), e ▸ hi0, rfl⟩
    · rw [if_neg e] at hi
      exact ⟨p, hi, rfl⟩
  refine ⟨fun k q hk => ?_, ⟨fun i j p r hi hj e => ?_, fun k q hk => ?_⟩, hS⟩
  · rw [List.getElem?_set] at hk
    by_cases e : i0 = k
    · rw [if_pos e, if_pos (e ▸ hlt)] at hk
      cases hk
      have h1 : H[a]? = some (vp_cell cA (n, .inr (.inr (.inr (.inr f))))) := hP i0 _ hi0
      show H[a]? = some (vp_cell cA (n, .inr (.inr (.inr (.inr g)))))
      rw [h1, hc]
    · rw [if_neg e] at hk
      exact hP k q hk
  · obtain ⟨p2, h1, e1⟩ := tr i p hi
    obtain ⟨r2, h2, e2⟩ := tr j r hj
    exact hD.1 i j p2 r2 h1 h2 (by rw [e1, e2, e])
  · obtain ⟨p2, h1, e1⟩ := tr k q hk
    exact e1 ▸ hD.2 k p2 h1
set_option maxRecDepth 100000 in
set_option maxHeartbeats 4000000 in
theorem xw0 (E : xE) (h : Nat) (t : tWp) (k : Nat) (u : Nat → Nat) : (([] ++ sWp E h t) ++ sMo E k u).set 17 (adO h t k u 17, .inl (E.2.2.2, 5, .inr (.inr (.inr (.inr (fun j => some (adO h t k u (rt 17 j)))))))) = xw E (adO h t k u) μ00 := by
  rfl
set_option maxRecDepth 100000 in
set_option maxHeartbeats 4000000 in
theorem xw1 {E : xE} {A : Nat → Prop} {H0 H : Heap} {locs : List Loc} {h : Nat} {t : tWp} {k : Nat} {u : Nat → Nat} (hH : zH E A H0 (([] ++ sWp E h t) ++ sMo E k u) H locs) : xH E (adO h t k u) A H0 μ00 H locs := by
  have z := z_swapAt (g := fun j => some (adO h t k u (rt 17 j))) (f := fun j => some (t.2.2.2.1.2.1 j)) (a := t.2.2.2.1.1) (n := 5) (cA := E.2.2.2) 17 rfl (fun j hj => by rcases (show j = 0 ∨ j = 1 ∨ j = 2 ∨ j = 3 ∨ j = 4 by omega) with rfl | rfl | rfl | rfl | rfl <;> rfl) hH
  have e : (([] ++ sWp E h t) ++ sMo E k u).set 17 (t.2.2.2.1.1, .inl (E.2.2.2, 5, .inr (.inr (.inr (.inr (fun j => some (adO h t k u (rt 17 j)))))))) = xw E (adO h t k u) μ00 := xw0 E h t k u
  rw [e] at z
  exact z
