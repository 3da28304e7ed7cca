/-! the best order -/
abbrev bS : Type := Option (Int32 × Int32 × (Nat → Nat))
def bsH (ρ : Nat → Nat) (by' : Bool) (o : Nat → Nat) : Int32 := if by' = true then nI (hitF (stC ρ o (ρ 0)).1 (fun c => ρ (43 + c)) 16) else 0
def bsT (ρ : Nat → Nat) (g : Nat) (by' : Bool) (s : bS) (o : Nat → Nat) : bS := match s with
  | none => some (bsH ρ by' o, smrS ρ g o (ρ 0), o)
  | some x => if x.1 < bsH ρ by' o ∨ (bsH ρ by' o = x.1 ∧ ¬ x.2.1 ≤ smrS ρ g o (ρ 0)) then some (bsH ρ by' o, smrS ρ g o (ρ 0), o) else some x
def bsF (ρ : Nat → Nat) (g : Nat) (by' : Bool) (l : List (Nat → Nat)) : bS := l.foldl (bsT ρ g by') none
theorem bsF_s {ρ : Nat → Nat} {g : Nat} {by' : Bool} {l : List (Nat → Nat)} {o : Nat → Nat} : bsF ρ g by' (l ++ [o]) = bsT ρ g by' (bsF ρ g by' l) o := by
  unfold bsF
  rw [List.foldl_append]
  rfl
def BX (ν : xM) (s : bS) : Prop := match s with
  | none => ν.1 93 7 = 0
  | some x => ν.1 93 7 = 1 ∧ ν.1 93 8 = x.1 ∧ ν.1 93 9 = x.2.1 ∧ ν.2 93 10 = lN (nb x.2.2 16)
def goalI (by' : Bool) : Int32 := if by' = true then 1 else 0
def JB (μ : xM) (ρ : Nat → Nat) (g : Nat) (by' : Bool) (l : List (Nat → Nat)) (ν : xM) : Prop := fr (fun q => q = 93 ∨ q = 94) μ ν ∧ ν.1 93 4 = goalI by' ∧ ν.1 93 5 = nI g ∧ ν.2 93 6 = lN (nb (fun c => ρ (43 + c)) 16) ∧ BX ν (bsF ρ g by' l)
theorem JB_st {μ ν : xM} {ρ : Nat → Nat} {g : Nat} {by' : Bool} {l : List (Nat → Nat)} {o : Nat → Nat} (hJ : JB μ ρ g by' l ν) (hs : bsF ρ g by' (l ++ [o]) = some (bsH ρ by' o, smrS ρ g o (ρ 0), o)) : JB μ ρ g by' (l ++ [o]) (xl (xi (xi (xi ν 93 7 1) 93 8 (bsH ρ by' o)) 93 9 (smrS ρ g o (ρ 0))) 93 10 (lN (nb o 16))) := by
  obtain ⟨h1, h2, h3, h4, h5⟩ := hJ
  refine ⟨fr_tr h1 (fr_tr (fr_tr (fr_tr (fr_xi (Or.inl rfl)) (fr_xi (Or.inl rfl))) (fr_xi (Or.inl rfl))) (fr_xl (Or.inl rfl))), ?_, ?_, ?_, ?_⟩
  · rw [y_xl1, y_xi, if_neg (by omega), y_xi, if_neg (by omega), y_xi, if_neg (by omega)]; exact h2
  · rw [y_xl1, y_xi, if_neg (by omega), y_xi, if_neg (by omega), y_xi, if_neg (by omega)]; exact h3
  · rw [y_xl, if_neg (by omega)]; exact h4
  · rw [hs]
    refine ⟨?_, ?_, ?_, ?_⟩
    · rw [y_xl1, y_xi, if_neg (by omega), y_xi, if_neg (by omega), y_xi, if_pos ⟨rfl, rfl⟩]
    · rw [y_xl1, y_xi, if_neg (by omega), y_xi, if_pos ⟨rfl, rfl⟩]
    · rw [y_xl1, y_xi, if_pos ⟨rfl, rfl⟩]
    · rw [y_xl, if_pos ⟨rfl, rfl⟩]
theorem e_jB {μ ν : xM} {ρ : Nat → Nat} {g : Nat} {by' : Bool} {l : List (Nat → Nat)} {o : Nat → Nat} (hJ : JB μ ρ g by' l ν) {Q : xM → Prop} (hQ : ∀ κ, JB μ ρ g by' (l ++ [o]) κ → Q κ) : J_X6_judge_43 93 (lN (nb o 16)) (smrS ρ g o (ρ 0)) (bsH ρ by' o) ν Q := by
  unfold J_X6_judge_43 J_X6_judge_71 J_X6_judge_75 J_X6_judge_76
  simp only [forall_eq]
  have h5 := hJ.2.2.2.2
  have hs := bsF_s (ρ := ρ) (g := g) (by' := by') (l := l) (o := o)
  cases hb : bsF ρ g by' l with
  | none =>
    rw [hb] at h5 hs
    have h7 : ν.1 93 7 = 0 := h5
    have z := hQ _ (JB_st hJ hs)
    rw [h7]
    refine ⟨fun _ => ⟨fun _ => z, fun h => absurd rfl h⟩, fun _ => ⟨fun _ => ⟨fun _ => z, fun h => absurd rfl h⟩, fun _ => ⟨fun _ => ⟨fun _ => z, fun h => absurd rfl h⟩, fun _ => ⟨fun _ => z, fun h => absurd rfl h⟩⟩⟩⟩
  | some x =>
    rw [hb] at h5 hs
    obtain ⟨h7, h8, h9, h10⟩ : ν.1 93 7 = 1 ∧ ν.1 93 8 = x.1 ∧ ν.1 93 9 = x.2.1 ∧ ν.2 93 10 = lN (nb x.2.2 16) := h5
    simp only [bsT] at hs
    have hkeep : ¬ (x.1 < bsH ρ by' o ∨ (bsH ρ by' o = x.1 ∧ ¬ x.2.1 ≤ smrS ρ g o (ρ 0))) → Q ν := by
      intro hn
      rw [if_neg hn] at hs
      refine hQ ν ⟨hJ.1, hJ.2.1, hJ.2.2.1, hJ.2.2.2.1, ?_⟩
      rw [hs]
      exact ⟨h7, h8, h9, h10⟩
    have hput : (x.1 < bsH ρ by' o ∨ (bsH ρ by' o = x.1 ∧ ¬ x.2.1 ≤ smrS ρ g o (ρ 0))) → Q (xl (xi (xi (xi ν 93 7 1) 93 8 (bsH ρ by' o)) 93 9 (smrS ρ g o (ρ 0))) 93 10 (lN (nb o 16))) := by
      intro hn
      rw [if_pos hn] at hs
      exact hQ _ (JB_st hJ hs)
    rw [h7, h8, h9]
    have n10 : ¬ (1 : Int32) = 0 := by decide
    refine ⟨fun h => ⟨fun h => absurd h n10, fun _ => ⟨fun _ => hput (Or.inl h), fun h => absurd h n10⟩⟩, fun h => ⟨fun h2 => ⟨fun h => absurd h n10, fun _ => ⟨fun h => absurd trivial h, fun _ => hkeep (fun hh => ?_)⟩⟩, fun h2 => ⟨fun h3 => ⟨fun h => absurd h n10, fun _ => ⟨fun h => absurd trivial h, fun _ => hkeep (fun hh => ?_)⟩⟩, fun h3 => ⟨fun h => absurd h n10, fun _ => ⟨fun _ => hput (Or.inr ⟨h2, h3⟩), fun h => absurd h n10⟩⟩⟩⟩⟩
    · rcases hh with hh | hh
      · exact h hh
      · exact h2 hh.1
    · rcases hh with hh | hh
      · exact h hh
      · exact hh.2 h3
theorem LV_len {ρ : Nat → Nat} {n : Nat} (hn : n ≤ 6) : (LV ρ n).length ≤ 720 := by
  obtain ⟨a, l, e1, -, -, e4⟩ := ck_n hn
  rw [LV_fil, e1]
  exact Nat.le_trans (List.length_filter_le _ _) e4
theorem CX_run {μ ν : xM} {t u : Nat} {ρ : Nat → Nat} {σ : Int32} {h : Nat} {Hρ : Nat → Nat → Nat} {Hσ : Nat → Int32} {c : Nat → Int32} {L : Nat} {T : Nat → Nat} (hf : fr (fun q => 93 ≤ q ∧ q ≤ 99) μ ν) (hi : iSet ν u) (hx : CX μ t ρ σ h Hρ Hσ c L T) : CX ν u ρ σ h Hρ Hσ c L T := by
  obtain ⟨h1, h2, h3, h4, h5⟩ := hx
  refine ⟨Rep_fr (fun q q1 q2 => hf q (by omega)) h1, CH_fr (fun q q1 q2 => hf q (by omega)) h2, ?_, ?_, hi⟩
  · rw [(hf 0 (by decide)).1]; exact h3
  · rw [(hf 100 (by decide)).1, (hf 101 (by decide)).1]; exact h4
theorem Rep_s {μ : xM} {ρ : Nat → Nat} {σ : Int32} (h : Rep μ 1 ρ σ) : Rep μ 1 ρ (μ.1 11 3) := by
  have : μ.1 11 3 = σ := h.2.1.2.2.2.1
  rw [this]; exact h
theorem e_run {μ : xM} {ρ : Nat → Nat} {g : Nat} {goal : Int32} {pl : Int64} (hW : WF ρ) (hg9 : g ≤ 9) {Q : xM → Prop} (hJ : ∀ ν, fr (fun q => q = 93 ∨ q = 94 ∨ q = 95) μ ν → ν.1 93 4 = goal → ν.1 93 5 = nI g → ν.2 93 6 = pl → ν.1 93 7 = 0 → ν.1 95 3 = μ.1 95 3 + 1 → ν.1 95 4 = 0 →
    ∃ J : List (Nat → Nat) → xM → Prop, (∀ l ν, J l ν → Rep ν 1 ρ (ν.1 11 3) ∧ ν.1 93 5 = nI g) ∧ (∀ l ν κ, J l ν → fr (fun q => q = 94) ν κ → J l κ) ∧
      (∀ l ν o Q, J l ν → l.length < 720 → (∀ i, i < ρ 0 → o i < ρ 0) → (∀ i, ρ 0 ≤ i → o i = 0) → SH ν 94 (stC ρ o (ρ 0)).1 (stC ρ o (ρ 0)).2.1 (stC ρ o (ρ 0)).2.2 → (∀ κ, J (l ++ [o]) κ → Q κ) → p_X6_judge 93 (lN (nb o 16)) (smrS ρ g o (ρ 0)) ν Q) ∧ J [] ν ∧ (∀ κ, J (LV ρ (ρ 0)) κ → Q κ)) : p_X6_run 93 goal (nI g) pl μ Q := by
  unfold p_X6_run p_X8_empty p_X7_wipe p_X7_lay p_X6_extend
  simp only [forall_eq, shp]
  generalize hν : xi (xl (xl (xi (xi (xi (xl (xi (xi μ 93 4 goal) 93 5 (nI g)) 93 6 pl) 93 7 0) 95 3 ((xi (xl (xi (xi μ 93 4 goal) 93 5 (nI g)) 93 6 pl) 93 7 0).1 95 3 + 1)) 95 4 0) 94 0 0) 94 1 0) 94 2 0 = ν
  have n94 : ν.1 93 = (xi (xl (xi (xi μ 93 4 goal) 93 5 (nI g)) 93 6 pl) 93 7 0).1 93 := by
    rw [← hν, y_xin (by decide), y_xl1, y_xl1, y_xin (by decide), y_xin (by decide)]
  have n942 : ν.2 93 = (xi (xl (xi (xi μ 93 4 goal) 93 5 (nI g)) 93 6 pl) 93 7 0).2 93 := by
    rw [← hν, y_xi2, y_xln (by decide), y_xln (by decide)]; rfl
  obtain ⟨J, j1, j2, j3, j4, j5⟩ := hJ ν (by
      rw [← hν]
      exact fr_tr (fr_tr (fr_tr (fr_tr (fr_tr (fr_tr (fr_tr (fr_tr (fr_xi (Or.inl rfl)) (fr_xi (Or.inl rfl))) (fr_xl (Or.inl rfl))) (fr_xi (Or.inl rfl))) (fr_xi (Or.inr (Or.inr rfl)))) (fr_xi (Or.inr (Or.inr rfl)))) (fr_xl (Or.inr (Or.inl rfl)))) (fr_xl (Or.inr (Or.inl rfl)))) (fr_xi (Or.inr (Or.inl rfl))))
    (by rw [n94, y_xi, if_neg (by omega), y_xl1, y_xi, if_neg (by omega), y_xi, if_pos ⟨rfl, rfl⟩])
    (by rw [n94, y_xi, if_neg (by omega), y_xl1, y_xi, if_pos ⟨rfl, rfl⟩])
    (by rw [n942, y_xi2, y_xl, if_pos ⟨rfl, rfl⟩])
    (by rw [n94, y_xi, if_pos ⟨rfl, rfl⟩])
    (by rw [← hν, y_xin (by decide), y_xl1, y_xl1, y_xi, if_neg (by omega), y_xi, if_pos ⟨rfl, rfl⟩, y_xin (by decide), y_xl1, y_xin (by decide), y_xin (by decide)])
    (by rw [← hν, y_xin (by decide), y_xl1, y_xl1, y_xi, if_pos ⟨rfl, rfl⟩])
  have h6 := hW.1
  have z := e_ext hW hg9 j1 j2 j3 (7 - ρ 0) (ρ 0) 0 (fun _ => 0) [] ν Q (by omega) (fun i hi => absurd hi (Nat.not_lt_zero i)) (fun _ _ => rfl) j4 (by
      rw [List.length_nil, Nat.zero_add]; exact LV_len h6) ⟨?_, ?_, ?_⟩ (fun κ hκ => j5 κ (by rw [List.nil_append] at hκ; exact hκ))
  · rw [show 7 - ρ 0 + ρ 0 + 1 = 8 by omega, nb_00] at z
    exact z
  · rw [← hν, y_xi2, y_xl, if_neg (by omega), y_xl, if_pos ⟨rfl, rfl⟩]
    show _ = lN (nb (fun _ => 0) 16)
    rw [nb_00]; rfl
  · rw [← hν, y_xi2, y_xl, if_pos ⟨rfl, rfl⟩]
    show _ = lN (nb (fun _ => 0) 16)
    rw [nb_00]; rfl
  · rw [← hν, y_xi, if_pos ⟨rfl, rfl⟩]; rfl
theorem e_runB {μ : xM} {t : Nat} {ρ : Nat → Nat} {σ : Int32} {h : Nat} {Hρ : Nat → Nat → Nat} {Hσ : Nat → Int32} {c : Nat → Int32} {L : Nat} {T : Nat → Nat} {g : Nat} (by' : Bool) (hW : WF ρ) (hg9 : g ≤ 9) (hx : CX μ t ρ σ h Hρ Hσ c L T) {Q : xM → Prop} (hQ : ∀ ν, fr (fun q => 93 ≤ q ∧ q ≤ 99) μ ν → CX ν (t + 1) ρ σ h Hρ Hσ c L T → BX ν (bsF ρ g by' (LV ρ (ρ 0))) → Q ν) : p_X6_run 93 (goalI by') (nI g) (lN (nb (fun c => ρ (43 + c)) 16)) μ Q := by
  refine e_run hW hg9 (fun ν F f4 f5 f6 f7 f8 f9 => ?_)
  have hR : Rep ν 1 ρ σ := Rep_fr (fun q q1 q2 => F q (by omega)) hx.1
  refine ⟨JB ν ρ g by', ?_, ?_, ?_, ⟨fr_rf, f4, f5, f6, f7⟩, ?_⟩
  · intro l κ hJ
    exact ⟨Rep_s (Rep_fr (fun q q1 q2 => hJ.1 q (by omega)) hR), hJ.2.2.1⟩
  · intro l κ τ hJ f
    obtain ⟨h1, h2, h3, h4, h5⟩ := hJ
    refine ⟨fr_tr h1 (fr_mono f (fun q e => Or.inr e)), ?_, ?_, ?_, ?_⟩
    · rw [(f 93 (by decide)).1]; exact h2
    · rw [(f 93 (by decide)).1]; exact h3
    · rw [(f 93 (by decide)).2]; exact h4
    · unfold BX at h5 ⊢
      rw [(f 93 (by decide)).1, (f 93 (by decide)).2]
      exact h5
  · intro l κ o Q2 hJ hl o1 o2 hs hQ2
    obtain ⟨h1, h2, h3, h4, h5⟩ := id hJ
    unfold p_X6_judge
    rw [h2, h4]
    obtain ⟨g1, g2, g3⟩ := stC_ok hW (o := o) (ρ 0) o1
    cases by' with
    | false =>
      refine ⟨fun _ => ⟨fun _ => ?_, fun h => absurd h (by decide)⟩, fun h => absurd h (by decide)⟩
      have z := e_jB (o := o) hJ hQ2
      exact z
    | true =>
      refine ⟨fun _ => ⟨fun h => absurd rfl h, fun _ => ?_⟩, fun h => absurd h (by decide)⟩
      simp only [shp]
      refine e_hitsX hs (fun i hi => Nat.lt_trans (g1 i hi) (by decide)) (fun i hi => Nat.lt_trans (hW.2.2.1 i hi).1 (by decide)) ?_
      have z := e_jB (o := o) hJ hQ2
      exact z
  · intro κ hJ
    have F2 : fr (fun q => 93 ≤ q ∧ q ≤ 99) μ κ := fr_tr (fr_mono F (fun q e => by omega)) (fr_mono hJ.1 (fun q e => by omega))
    refine hQ κ F2 (CX_run F2 ?_ hx) hJ.2.2.2.2
    obtain ⟨r, r1, r2, r3⟩ := hx.2.2.2.2
    refine ⟨r + 1, by omega, ?_, fun s hs => ?_⟩
    · rw [(hJ.1 95 (by decide)).1, f8, r2, nI_1]
    · obtain ⟨e, e1, e2⟩ := r3 s hs
      exact ⟨e, by omega, by rw [(hJ.1 98 (by decide)).1, (F 98 (by decide)).1, e2]⟩
