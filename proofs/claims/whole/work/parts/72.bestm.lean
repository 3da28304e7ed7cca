/-! the best order, the reference's way -/
def BM (ν : xM) (n : Nat) (fd : Int32) (s : bS) : Prop := match s with
  | none => fd = 0
  | some x => fd = 1 ∧ ν.1 104 11 = x.1 ∧ ν.1 104 10 = x.2.1 ∧ ∀ i, i < n → ν.1 112 i = nI (x.2.2 i)
def FM (μ ν : xM) : Prop := scr μ ν ∧ ν.1 113 = μ.1 113
theorem FM_rf {μ : xM} : FM μ μ := ⟨scr_rf, rfl⟩
theorem FM_tr {μ ν κ : xM} (h1 : FM μ ν) (h2 : FM ν κ) : FM μ κ := ⟨scr_tr h1.1 h2.1, h2.2.trans h1.2⟩
theorem FM_MR {μ ν : xM} {ρ : Nat → Nat} {σ : Int32} (h : FM μ ν) (hM : MR (μ.1 105) ρ σ) : MR (ν.1 105) ρ σ := by rw [(h.1.1 105 (by decide)).1]; exact hM
theorem FM_PC {μ ν : xM} {ρ : Nat → Nat} (h : FM μ ν) (hP : PC μ ρ) : PC ν ρ := by unfold PC; rw [h.2]; exact hP
theorem FM_111 {μ ν : xM} (h : fr (fun q => q = 111) μ ν) : FM μ ν := ⟨scr_of (fun q e => by omega) h, (h 113 (by decide)).1⟩
theorem FM_prF {μ ν : xM} (h : prF μ ν) : FM μ ν := ⟨⟨fr_mono h.1 (fun q e => by unfold prP at e; omega), h.2 3 (by decide), h.2 17 (by decide)⟩, (prF_n h (by decide) (by decide) (by decide)).1⟩
theorem BM_111 {μ ν : xM} {n : Nat} {fd : Int32} {s : bS} (h : fr (fun q => q = 111) μ ν) (hb : BM μ n fd s) : BM ν n fd s := by
  cases s with
  | none => exact hb
  | some x =>
    obtain ⟨h1, h2, h3, h4⟩ : fd = 1 ∧ μ.1 104 11 = x.1 ∧ μ.1 104 10 = x.2.1 ∧ ∀ i, i < n → μ.1 112 i = nI (x.2.2 i) := hb
    refine ⟨h1, ?_, ?_, ?_⟩
    · rw [(h 104 (by decide)).1]; exact h2
    · rw [(h 104 (by decide)).1]; exact h3
    · rw [(h 112 (by decide)).1]; exact h4
theorem BM_prF {μ ν : xM} {n : Nat} {fd : Int32} {s : bS} (h : prF μ ν) (hb : BM μ n fd s) : BM ν n fd s := by
  cases s with
  | none => exact hb
  | some x =>
    obtain ⟨h1, h2, h3, h4⟩ : fd = 1 ∧ μ.1 104 11 = x.1 ∧ μ.1 104 10 = x.2.1 ∧ ∀ i, i < n → μ.1 112 i = nI (x.2.2 i) := hb
    refine ⟨h1, ?_, ?_, ?_⟩
    · rw [h.2 11 (by decide)]; exact h2
    · rw [h.2 10 (by decide)]; exact h3
    · rw [(prF_n h (by decide) (by decide) (by decide)).1]; exact h4
theorem l_f93 {μ : xM} (x y z : Int32) {K : xM → Prop} (hK : ∀ ν, fr (fun q => q = 112) μ ν → (∀ i, i < 6 → ν.1 112 i = μ.1 111 i) → K ν) : ∀ d i ν, i + d = 6 → fr (fun q => q = 112) μ ν → (∀ j, j < i → ν.1 112 j = μ.1 111 j) → L_X12_isFound_93 x 104 y z (d + 1) (nI i) ν K
  | 0, i, ν, h, F, hv => by
    obtain rfl : i = 6 := by omega
    unfold L_X12_isFound_93 B_X12_isFound_93
    exact ⟨fun _ => hK ν F hv, fun h => absurd (by decide) h⟩
  | d + 1, i, ν, h, F, hv => by
    unfold L_X12_isFound_93 B_X12_isFound_93
    refine ⟨fun h => absurd h (nI_ge (b := 6) (by omega) (by decide)), fun _ => ?_⟩
    simp only [shm, forall_eq, nI_1]
    rw [nI_clamp (by omega)]
    refine ⟨v6 (by omega), v6 (by omega), ?_⟩
    refine l_f93 x y z hK d (i + 1) _ (by omega) (fr_tr F (fr_xi rfl)) ?_
    intro j hj
    rw [y_xi]
    by_cases e : j = i
    · rw [if_pos ⟨rfl, e⟩, e, (F 111 (by decide)).1]
    · rw [if_neg (fun h => e h.2)]; exact hv j (by omega)
theorem e_jM {μ : xM} {ρ : Nat → Nat} {g : Nat} {by' : Bool} {s : bS} {fd : Int32} {a : Nat → Nat} {x y : Int32} (h6 : ρ 0 ≤ 6) (ho : OR μ (ρ 0) a) (hB : BM μ (ρ 0) fd s) {K9 : Int32 → xM → Prop} {K9b : Int32 → Int32 → xM → Prop}
    (hg : ∀ ν fd2, FM μ ν → OR ν (ρ 0) a → BM ν (ρ 0) fd2 (bsT ρ g by' s a) → p_X12_goesOn 104 ν (fun r κ => K9b r fd2 κ)) : J_X12_isFound_45 104 x y (bsH ρ by' a) (smrS ρ g a (ρ 0)) fd μ K9 K9b := by
  have put : (bsT ρ g by' s a = some (bsH ρ by' a, smrS ρ g a (ρ 0), a)) → J_X12_isFound_76 104 x y (bsH ρ by' a) (smrS ρ g a (ρ 0)) μ K9 K9b := by
    intro hs
    unfold J_X12_isFound_76
    simp only [forall_eq]
    generalize hν : xi (xi μ 104 11 (bsH ρ by' a)) 104 10 (smrS ρ g a (ρ 0)) = ν
    have v11 : ν.1 104 11 = bsH ρ by' a := by rw [← hν, y_xi, if_neg (by omega), y_xi, if_pos ⟨rfl, rfl⟩]
    have v10 : ν.1 104 10 = smrS ρ g a (ρ 0) := by rw [← hν, y_xi, if_pos ⟨rfl, rfl⟩]
    have F0 : fr (fun q => q = 104) μ ν := by rw [← hν]; exact fr_tr (fr_xi rfl) (fr_xi rfl)
    have F1 : FM μ ν := by
      refine ⟨⟨fr_mono F0 (fun q e => Or.inl e), ?_, ?_⟩, (F0 113 (by decide)).1⟩
      · rw [← hν, y_xi, if_neg (by omega), y_xi, if_neg (by omega)]
      · rw [← hν, y_xi, if_neg (by omega), y_xi, if_neg (by omega)]
    have o1 : OR ν (ρ 0) a := fun i hi => by rw [(F0 111 (by decide)).1]; exact ho i hi
    refine ⟨7, l_f93 1 x y ?_ 6 0 ν rfl fr_rf (fun j hj => absurd hj (Nat.not_lt_zero j))⟩
    intro κ F2 hv
    refine hg κ 1 (FM_tr F1 ⟨scr_of (fun q e => by omega) F2, (F2 113 (by decide)).1⟩) (fun i hi => by rw [(F2 111 (by decide)).1]; exact o1 i hi) ?_
    rw [hs]
    refine ⟨rfl, ?_, ?_, fun i hi => ?_⟩
    · rw [(F2 104 (by decide)).1]; exact v11
    · rw [(F2 104 (by decide)).1]; exact v10
    · rw [hv i (by omega)]; exact o1 i hi
  unfold J_X12_isFound_45
  cases s with
  | none =>
    have h1 : fd = 0 := hB
    exact ⟨fun _ => put rfl, fun h => absurd h1 h⟩
  | some x2 =>
    obtain ⟨h1, h2, h3, h4⟩ : fd = 1 ∧ μ.1 104 11 = x2.1 ∧ μ.1 104 10 = x2.2.1 ∧ ∀ i, i < ρ 0 → μ.1 112 i = nI (x2.2.2 i) := hB
    have hB2 : BM μ (ρ 0) fd (some x2) := ⟨h1, h2, h3, h4⟩
    rw [h2, h3]
    refine ⟨fun h => absurd (h1.symm.trans h) (by decide), fun _ => ?_⟩
    simp only [bsT] at put hg
    refine ⟨fun e => put (if_pos (Or.inl e)), fun e => ⟨fun e2 => ?_, fun e2 => ⟨fun e3 => ?_, fun e3 => put (if_pos (Or.inr ⟨e2, e3⟩))⟩⟩⟩
    · rw [if_neg (fun hh => by rcases hh with hh | hh; exact e hh; exact e2 hh.1)] at hg
      exact hg μ fd FM_rf ho hB2
    · rw [if_neg (fun hh => by rcases hh with hh | hh; exact e hh; exact hh.2 e3)] at hg
      exact hg μ fd FM_rf ho hB2
def byI (by' : Bool) : Int32 := if by' = true then 1 else 0
/-- one order: judged if lawful -/
theorem e_stM {μ : xM} {ρ : Nat → Nat} {σ : Int32} {g : Nat} {by' : Bool} {s : bS} {fd : Int32} {a : Nat → Nat} (hM : MR (μ.1 105) ρ σ) (hW : WF ρ) (hP : PC μ ρ) (ho : OR μ (ρ 0) a) (hb : ∀ i, i < ρ 0 → a i < ρ 0) (hB : BM μ (ρ 0) fd s) {K9 : Int32 → xM → Prop} {K9b : Int32 → Int32 → xM → Prop}
    (hg : ∀ ν fd2, FM μ ν → OR ν (ρ 0) a → BM ν (ρ 0) fd2 (if lwf ρ a (ρ 0) = true then bsT ρ g by' s a else s) → p_X12_goesOn 104 ν (fun r κ => K9b r fd2 κ)) : B_X12_isFound_9 104 (nI g) (byI by') 1 fd μ K9 K9b := by
  unfold B_X12_isFound_9
  refine ⟨fun h => absurd h (by decide), fun _ => e_isL hM hW ho hb ?_⟩
  rw [y_b0]
  by_cases gl : lwf ρ a (ρ 0) = true
  · rw [pr1 gl]
    rw [if_pos gl] at hg
    refine e_sbM hM hW ho hb hP ?_
    cases by' with
    | false =>
      refine ⟨fun _ => ?_, fun h => absurd rfl h⟩
      have z := e_jM (g := g) (by' := false) (x := nI g) (y := byI false) (K9 := K9) hW.1 ho hB hg
      exact z
    | true =>
      refine ⟨fun h => absurd h (by decide), fun _ => ?_⟩
      refine e_paM hM hW ho hb hP (fun ν F ms => ?_)
      obtain ⟨g1, g2, g3⟩ := stC_ok hW (o := a) (ρ 0) hb
      refine e_hitsM (FM_MR (FM_prF F) hM) hW (fun c hc => (ms.1 c hc).1) (fun i hi => Nat.lt_trans (g1 i hi) (by decide)) ?_
      have o2 : OR ν (ρ 0) a := fun i hi => by rw [(prF_n F (by decide) (by decide) (by decide)).1]; exact ho i hi
      have z := e_jM (g := g) (by' := true) (x := nI g) (y := byI true) (K9 := K9) hW.1 o2 (BM_prF F hB) (fun κ fd2 F2 o3 b3 => hg κ fd2 (FM_tr (FM_prF F) F2) o3 b3)
      exact z
  · rw [pr0 gl]
    rw [if_neg gl] at hg
    exact hg μ fd FM_rf ho hB
theorem bsF_c {ρ : Nat → Nat} {g : Nat} {by' : Bool} {s : bS} {a : Nat → Nat} {l : List (Nat → Nat)} : ((a :: l).filter (fun p => lwf ρ p (ρ 0))).foldl (bsT ρ g by') s = (l.filter (fun p => lwf ρ p (ρ 0))).foldl (bsT ρ g by') (if lwf ρ a (ρ 0) = true then bsT ρ g by' s a else s) := by
  rw [List.filter_cons]
  by_cases h : lwf ρ a (ρ 0) = true
  · rw [if_pos h, if_pos h, List.foldl_cons]
  · rw [if_neg h, if_neg h]
theorem l_isF {μ : xM} {ρ : Nat → Nat} {σ : Int32} {g : Nat} {by' : Bool} (hM : MR (μ.1 105) ρ σ) (hW : WF ρ) (hP : PC μ ρ) {K : Int32 → xM → Prop} : ∀ l a s fd ν, FM μ ν → OR ν (ρ 0) a → (∀ i, i < ρ 0 → a i < ρ 0) → BM ν (ρ 0) fd s → ckh (ρ 0) l a = true → (∀ κ fd2, FM μ κ → BM κ (ρ 0) fd2 (((a :: l).filter (fun p => lwf ρ p (ρ 0))).foldl (bsT ρ g by') s) → K fd2 κ) → L_X12_isFound_9 104 (nI g) (byI by') (l.length + 2) 1 fd ν K := by
  intro l
  induction l with
  | nil =>
    intro a s fd ν F ho hb hB hc hK
    have hM2 := FM_MR F hM
    have hc' : nxB (ρ 0) a = false := by simpa [ckh] using hc
    unfold L_X12_isFound_9
    refine e_stM (g := g) (by' := by') hM2 hW (FM_PC F hP) ho hb hB (fun κ fd2 F2 o2 b2 => ?_)
    refine e_goes hW.1 (MR_0 (FM_MR F2 hM2)) o2 hb (fun _ => ?_) (fun h => absurd h (by rw [hc']; decide))
    unfold L_X12_isFound_9 B_X12_isFound_9
    refine ⟨fun _ => hK κ fd2 (FM_tr F F2) ?_, fun h => absurd rfl h⟩
    rw [bsF_c]
    exact b2
  | cons b l ih =>
    intro a s fd ν F ho hb hB hc hK
    have hM2 := FM_MR F hM
    simp only [ckh, Bool.and_eq_true] at hc
    have hag := agr_ok _ hc.1.2
    rw [show (b :: l).length + 2 = (l.length + 2) + 1 from rfl]
    unfold L_X12_isFound_9
    refine e_stM (g := g) (by' := by') hM2 hW (FM_PC F hP) ho hb hB (fun κ fd2 F2 o2 b2 => ?_)
    refine e_goes hW.1 (MR_0 (FM_MR F2 hM2)) o2 hb (fun h => absurd hc.1.1 (by rw [h]; decide)) (fun _ τ F3 o3 => ?_)
    refine ih b _ fd2 τ (FM_tr (FM_tr F F2) (FM_111 F3)) (fun i hi => by rw [o3 i hi, (hag i hi).1]) (fun i hi => (hag i hi).2) (BM_111 F3 b2) hc.2 (fun κ2 fd3 F4 b4 => hK κ2 fd3 F4 ?_)
    rw [bsF_c]
    exact b4
def fdI (s : bS) : Int32 := match s with
  | none => 0
  | some _ => 1
theorem BM_fd {ν : xM} {n : Nat} {fd : Int32} {s : bS} (h : BM ν n fd s) : fd = fdI s := by
  cases s with
  | none => exact h
  | some x => exact h.1
theorem e_isF {μ : xM} {ρ : Nat → Nat} {σ : Int32} {g : Nat} {by' : Bool} (hM : MR (μ.1 105) ρ σ) (hW : WF ρ) {Q : Int32 → xM → Prop} (hQ : ∀ ν, scr μ ν → BM ν (ρ 0) (fdI (bsF ρ g by' (LV ρ (ρ 0)))) (bsF ρ g by' (LV ρ (ρ 0))) → Q (fdI (bsF ρ g by' (LV ρ (ρ 0)))) ν) : p_X12_isFound 104 (nI g) (byI by') μ Q := by
  unfold p_X12_isFound
  refine e_begin hM hW (fun ν F o P => ?_)
  obtain ⟨a, l, e1, e2, e3, e4⟩ := ck_n hW.1
  refine ⟨l.length + 2, ?_⟩
  have hM2 : MR (ν.1 105) ρ σ := by rw [(F 105 (by decide)).1]; exact hM
  refine l_isF (g := g) (by' := by') hM2 hW P l a none 0 ν FM_rf (fun i hi => by rw [o i (by have := hW.1; omega), e2 i hi]) (fun i hi => by rw [e2 i hi]; exact hi) rfl e3 (fun κ fd F2 b2 => ?_)
  rw [← e1, ← LV_fil] at b2
  have hfd := BM_fd b2
  have b3 : BM κ (ρ 0) fd (bsF ρ g by' (LV ρ (ρ 0))) := b2
  have hfd' : fd = fdI (bsF ρ g by' (LV ρ (ρ 0))) := hfd
  rw [hfd'] at b3 ⊢
  refine ⟨?_, hQ κ (scr_tr (scr_of (fun q e => by omega) F) F2.1) b3⟩
  cases bsF ρ g by' (LV ρ (ρ 0)) with
  | none => have z := nar_b (c := False); rw [if_neg (fun h => h)] at z; exact z
  | some _ => have z := nar_b (c := True); rw [if_pos trivial] at z; exact z
