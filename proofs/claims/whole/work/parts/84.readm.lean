/-! the reference reads the whole text -/
theorem e_nbM {c : Nat} (hc : c < 128) {μ : xM} {Q : Int32 → xM → Prop} : p_X12_numbersOf (nI c) μ Q ↔ Q (if isLt c then nI (nw c) else -1) μ := by
  unfold p_X12_numbersOf
  rw [show (97 : Int32) = nI 97 from rfl, show (98 : Int32) = nI 98 from rfl, show (110 : Int32) = nI 110 from rfl, show (112 : Int32) = nI 112 from rfl, show (115 : Int32) = nI 115 from rfl, nI_eq (by omega) (by decide), nI_eq (by omega) (by decide), nI_eq (by omega) (by decide), nI_eq (by omega) (by decide), nI_eq (by omega) (by decide)]
  by_cases h1 : c = 97
  · subst h1; simp [nw]; rfl
  by_cases h2 : c = 98
  · subst h2; simp [nw]; rfl
  by_cases h3 : c = 110
  · subst h3; simp [nw]; rfl
  by_cases h4 : c = 112
  · subst h4; simp [nw]; rfl
  by_cases h5 : c = 115
  · subst h5; simp [nw]; rfl
  · simp [h1, h2, h3, h4, h5, isLt]
theorem nI_m1 {j : Nat} (hj : j < 2 ^ 31) : ¬ nI j = -1 := fun h => absurd (show nI j < 0 by rw [h]; decide) (nI_pos hj)
/-- numbers of one order are being written -/
def FN (n : Nat) (μ ν : xM) : Prop := fr (fun q => q = 104 ∨ q = 119) μ ν ∧ (∀ j, j ≠ 18 → j ≠ 19 → ν.1 104 j = μ.1 104 j) ∧ ∀ x, x < 4 * n → ν.1 119 x = μ.1 119 x
theorem FN_rf {n : Nat} {μ : xM} : FN n μ μ := ⟨fr_rf, fun _ _ _ => rfl, fun _ _ => rfl⟩
theorem FN_tr {n : Nat} {μ ν κ : xM} (h1 : FN n μ ν) (h2 : FN n ν κ) : FN n μ κ := ⟨fr_tr h1.1 h2.1, fun j a b => (h2.2.1 j a b).trans (h1.2.1 j a b), fun x hx => (h2.2.2 x hx).trans (h1.2.2 x hx)⟩
theorem FN_9 {n : Nat} {μ ν : xM} (h : F9 μ ν) : FN n μ ν := ⟨fr_mono h.1 (fun q e => Or.inl e), h.2, fun x _ => by rw [(h.1 119 (by decide)).1]⟩
theorem FN_FP {n : Nat} {μ ν : xM} (h : FN n μ ν) : FP μ ν := ⟨fr_mono h.1 (fun q e => by omega), fun j a b _ => h.2.1 j a b⟩
theorem FN_xi {n j : Nat} {μ : xM} {v : Int32} (h : 4 * n ≤ j) : FN n μ (xi μ 119 j v) := ⟨fr_xi (Or.inr rfl), fun j _ _ => by rw [y_xin (by decide)], fun x hx => x_d (by omega)⟩
theorem l_roF {a14 a15 a17 : Int32} {ν : xM} {n j : Nat} (hj : j < 2 ^ 31) (h9 : ν.1 104 19 = nI j) {K : xM → Prop} (hK : K ν) : L_X12_readOrder_36 a14 a15 104 (n + 1) a17 ν K := by
  unfold L_X12_readOrder_36 B_X12_readOrder_36
  refine ⟨fun _ => hK, fun _ => ⟨fun _ => hK, fun h => ?_⟩⟩
  rw [h9] at h
  exact absurd h (nI_m1 hj)
theorem l_ro {μ : xM} {L n l : Nat} {T : Nat → Nat} (ht : TM μ L T) (hn : n < 75) (hl : l < 128) {i0 : Nat} {acc : List oT} {r : rT} (e20 : μ.1 104 20 = nI n) {K : xM → Prop}
    (hF : ∀ κ j, j ≤ L → r = .inl j → FN n μ κ → κ.1 104 19 = nI j → K κ)
    (hS : ∀ κ j nm, i0 ≤ j → j ≤ L → r = Rg T L j (cl l (nw l) nm) acc → FN n μ κ → κ.1 104 18 = nI j → κ.1 104 19 = -1 → (∀ x, x < nw l → κ.1 119 (4 * n + x) = nm x) → K κ) :
    ∀ f k nm j ν, k + f = nw l → i0 ≤ j → j ≤ L → r = Rg T L j (cl l k nm) acc → FN n μ ν → ν.1 104 18 = nI j → ν.1 104 19 = -1 → (∀ x, x < k → ν.1 119 (4 * n + x) = nm x) → L_X12_readOrder_36 (nI (nw l)) (nI l) 104 (f + 1) (nI k) ν K
  | 0, k, nm, j, ν, hk, hi0, hj, hr, F, e8, e9, hx => by
    obtain rfl : k = nw l := by omega
    have hnw := nw_le l
    unfold L_X12_readOrder_36 B_X12_readOrder_36
    exact ⟨fun _ => hS ν j nm hi0 hj hr F e8 e9 hx, fun h => absurd (nI_le (Nat.le_refl _) (by omega)) h⟩
  | f + 1, k, nm, j, ν, hk, hi0, hj, hr, F, e8, e9, hx => by
    have ht2 := FP_TM (FN_FP F) ht
    have hL := ht.2.2.1
    have hnw := nw_le l
    have f20 : ν.1 104 20 = nI n := by rw [F.2.1 20 (by decide) (by decide)]; exact e20
    have go : ∀ sg : Int32, (¬ sg = 0 ↔ (l = 115 ∧ 0 < k)) → p_X12_number 104 sg ν (fun r27 μ26 => (vp_in (((4 : Int32) * (ν.1 104 20)) + nI k) (ln (rt 104 22)) ∧ ∀ μ28 : xM, μ28 = xi μ26 (rt 104 22) (((4 : Int32) * (ν.1 104 20)) + nI k).toNatClampNeg r27 → (∀ v29 : Int32, v29 = (nI k + (1 : Int32)) → L_X12_readOrder_36 (nI (nw l)) (nI l) 104 (f + 1) v29 μ28 K))) := by
      intro sg hs
      have e4 : (4 : Int32) * (ν.1 104 20) + nI k = nI (4 * n + k) := by rw [f20, show (4 : Int32) = nI 4 from rfl, pk_mul, nI_add]
      rw [e4, nI_clamp (by omega)]
      simp only [shm, forall_eq, nI_1]
      refine e_num ht2 hj e8 e9 (l := l) (e := k) (nm := nm) (acc := acc) (by omega) hs (fun j2 κ r2 j2L hr2 F2 k9 => ⟨vp_in_nI (by omega) (by decide), ?_⟩) (fun j2 κ r2 j2i j2L hr2 F2 k8 k9 => ⟨vp_in_nI (by omega) (by decide), ?_⟩)
      · have F3 : FN n μ (xi κ 119 (4 * n + k) r2) := FN_tr (FN_tr F (FN_9 F2)) (FN_xi (by omega))
        have g9 : (xi κ 119 (4 * n + k) r2).1 104 19 = nI j2 := by rw [y_xin (by decide)]; exact k9
        exact l_roF (j := j2) (by omega) g9 (hF _ j2 j2L (hr.trans hr2) F3 g9)
      · have F3 : FN n μ (xi κ 119 (4 * n + k) r2) := FN_tr (FN_tr F (FN_9 F2)) (FN_xi (by omega))
        refine l_ro ht hn hl e20 hF hS f (k + 1) (upI nm k r2) j2 _ (by omega) (by omega) j2L (hr.trans hr2) F3 (by rw [y_xin (by decide)]; exact k8) (by rw [y_xin (by decide)]; exact k9) (fun x hx2 => ?_)
        by_cases ex : x = k
        · rw [ex, x_s]; simp [upI]
        · rw [x_d (by omega), (F2.1 119 (by decide)).1, hx x (by omega)]; simp [upI, ex]
    unfold L_X12_readOrder_36 B_X12_readOrder_36
    refine ⟨fun h => absurd h (nI_ge (by omega) (by omega)), fun _ => ⟨fun h => absurd e9 h, fun _ => ?_⟩⟩
    rw [show (115 : Int32) = nI 115 from rfl, nI_eq (by omega) (by decide), show (0 : Int32) = nI 0 from rfl, nI_leI (by omega) (by decide)]
    refine ⟨fun h => go _ ⟨fun h2 => absurd rfl h2, fun h2 => absurd h2.1 h⟩, fun h => ⟨fun h0 => go _ ⟨fun h2 => absurd rfl h2, fun h2 => by omega⟩, fun h0 => go _ ⟨fun _ => ⟨h, by omega⟩, fun _ => by decide⟩⟩⟩
def OD (μ : xM) (acc : List oT) : Prop := μ.1 104 20 = nI acc.length ∧ ∀ k o, acc[k]? = some o → isLt o.1 ∧ μ.1 118 k = nI o.1 ∧ ∀ i, i < nw o.1 → μ.1 119 (4 * k + i) = o.2 i
theorem e_ro {μ : xM} {L i : Nat} {T : Nat → Nat} (ht : TM μ L T) (hi : i < L) (h32 : T i ≠ 32) (e8 : μ.1 104 18 = nI i) (e9 : μ.1 104 19 = -1) {acc : List oT} (hO : OD μ acc) (hlen : 2 * acc.length ≤ i) {Q : xM → Prop}
    (hF : ∀ κ j, j ≤ L → Rg T L i none acc = .inl j → FP μ κ → κ.1 104 19 = nI j → Q κ)
    (hS : ∀ κ j acc2, i < j → j ≤ L → Rg T L i none acc = Rg T L j none acc2 → FP μ κ → κ.1 104 18 = nI j → κ.1 104 19 = -1 → OD κ acc2 → 2 * acc2.length ≤ j → acc2 ≠ [] → Q κ) : p_X12_readOrder 104 μ Q := by
  have hL := ht.2.2.1
  have hc := ht.2.2.2 i hi
  generalize hr : Rg T L i none acc = r at hF hS
  unfold p_X12_readOrder
  refine e_here ht (by omega) e8 (fun k κ k1 k2 k3 k4 F ek => ?_)
  obtain rfl : k = i := by
    by_cases e : k = i
    · exact e
    · exact absurd (k4 i (Nat.le_refl _) (by omega)) h32
  rw [if_pos hi, e_nbM hc]
  have ht2 := FP_TM (F8_FP F) ht
  have f9 : κ.1 104 19 = -1 := by rw [F.2 19 (by decide)]; exact e9
  have f20 : κ.1 104 20 = nI acc.length := by rw [F.2 20 (by decide)]; exact hO.1
  /- the end of an order -/
  have tail : ∀ (b : Int32) (τ : xM), FP μ τ → τ.1 104 20 = nI acc.length → (∀ τ2, FP μ τ2 → (b = 0 → τ.1 104 19 = -1 → τ2.1 104 19 = τ.1 104 18) → ((¬ b = 0 ∨ ¬ τ.1 104 19 = -1) → τ2.1 104 19 = τ.1 104 19) → τ2.1 104 18 = τ.1 104 18 + 1 → τ2.1 104 20 = nI (acc.length + 1) → τ2.1 119 = τ.1 119 → (τ2.1 118 acc.length = nI (T k)) → (∀ x, x ≠ acc.length → τ2.1 118 x = τ.1 118 x) → Q τ2) → J_X12_readOrder_117 (nI (T k)) 104 b 104 τ Q := by
    intro b τ Fτ t20 hQ
    unfold J_X12_readOrder_117
    have fin : ∀ τ1 : xM, FP μ τ1 → τ1.1 104 20 = nI acc.length → τ1.1 104 18 = τ.1 104 18 → τ1.1 119 = τ.1 119 → τ1.1 118 = τ.1 118 → (b = 0 → τ.1 104 19 = -1 → τ1.1 104 19 = τ.1 104 18) → ((¬ b = 0 ∨ ¬ τ.1 104 19 = -1) → τ1.1 104 19 = τ.1 104 19) → (vp_in (τ1.1 104 20) (ln (rt 104 21)) ∧ ∀ μ55 : xM, μ55 = xi τ1 (rt 104 21) (τ1.1 104 20).toNatClampNeg (nI (T k)) → (∀ μ56 : xM, μ56 = xi μ55 104 18 ((μ55.1 104 18) + (1 : Int32)) → (∀ μ57 : xM, μ57 = xi μ56 104 20 ((μ56.1 104 20) + (1 : Int32)) → Q μ57))) := by
      intro τ1 F1 g20 g18 g119 g118 ga gb
      rw [g20, nI_clamp (by omega)]
      simp only [shm, forall_eq]
      refine ⟨vp_in_nI (by omega) (by decide), ?_⟩
      have q18 : (xi τ1 118 acc.length (nI (T k))).1 104 18 = τ.1 104 18 := by rw [y_xin (by decide)]; exact g18
      rw [q18]
      have q20 : (xi (xi τ1 118 acc.length (nI (T k))) 104 18 (τ.1 104 18 + 1)).1 104 20 = nI acc.length := by rw [x_d (by decide), y_xin (by decide)]; exact g20
      rw [q20, nI_1]
      refine hQ _ ?_ ?_ ?_ ?_ x_s ?_ ?_ ?_
      · refine FP_tr F1 ⟨fr_tr (fr_tr (fr_xi (Or.inr (Or.inl rfl))) (fr_xi (Or.inl rfl))) (fr_xi (Or.inl rfl)), fun j a1 a2 a3 => ?_⟩
        rw [x_d a3, x_d a1, y_xin (by decide)]
      · intro a1 a2
        rw [x_d (by decide), x_d (by decide), y_xin (by decide)]; exact ga a1 a2
      · intro a1
        rw [x_d (by decide), x_d (by decide), y_xin (by decide)]; exact gb a1
      · rw [x_d (by decide), x_s]
      · rw [y_xin (by decide), y_xin (by decide), y_xin (by decide)]; exact g119
      · rw [y_xin (by decide), y_xin (by decide), x_s]
      · intro x hx
        rw [y_xin (by decide), y_xin (by decide), x_d hx, g118]
    by_cases hb : b = 0
    · by_cases h9 : τ.1 104 19 = -1
      · subst hb
        refine e_must0 h9 (fin _ (FP_tr Fτ (F9_FP F9_xi)) (by rw [x_d (by decide)]; exact t20) (by rw [x_d (by decide)]) (y_xin (by decide)) (y_xin (by decide)) (fun _ _ => x_s) (fun h => ?_))
        rcases h with h | h
        · exact absurd rfl h
        · exact absurd h9 h
      · unfold p_X12_must
        exact ⟨fun _ => fin τ Fτ t20 rfl rfl rfl (fun _ h => absurd h h9) (fun _ => rfl), fun h => absurd h h9⟩
    · exact e_must1 hb (fin τ Fτ t20 rfl rfl rfl (fun h => absurd h hb) (fun _ => rfl))
  /- behind a fault -/
  have flt : ∀ (τ : xM) (j : Nat), FP μ τ → τ.1 104 20 = nI acc.length → j ≤ L → r = .inl j → τ.1 104 19 = nI j → J_X12_readOrder_87 (nI (T k)) 104 τ Q := by
    intro τ j Fτ t20 hj hrj t9
    have h9 : ¬ τ.1 104 19 = -1 := by rw [t9]; exact nI_m1 (by omega)
    unfold J_X12_readOrder_87 J_X12_readOrder_104
    refine ⟨fun _ => ⟨fun h => absurd rfl h, fun _ => tail 1 τ Fτ t20 (fun τ2 F2 _ g9 _ _ _ _ _ => hF τ2 j hj hrj F2 (by rw [g9 (Or.inr h9)]; exact t9))⟩, fun h => absurd h h9⟩
  by_cases hlt : isLt (T k)
  · rw [if_pos hlt]
    have hnw := nw_le (T k)
    refine ⟨fun h => absurd h (nI_m1 (by omega)), fun _ => ?_⟩
    unfold J_X12_readOrder_21
    refine e_must1 (by decide) ?_
    simp only [forall_eq, ek, nI_1]
    have F1 : F8 μ (xi κ 104 18 (nI (k + 1))) := F8_tr F F8_xi
    have ht3 := FP_TM (F8_FP F1) ht
    generalize hμ : xi κ 104 18 (nI (k + 1)) = μ1 at F1 ht3 ⊢
    have u8 : μ1.1 104 18 = nI (k + 1) := by rw [← hμ, x_s]
    have u9 : μ1.1 104 19 = -1 := by rw [F1.2 19 (by decide)]; exact e9
    have u20 : μ1.1 104 20 = nI acc.length := by rw [F1.2 20 (by decide)]; exact hO.1
    have hr1 : r = Rg T L (k + 1) (cl (T k) 0 (fun _ => 0)) acc := by rw [← hr]; exact Rg_l1 hi hlt
    refine ⟨nw (T k) + 1, l_ro ht3 (n := acc.length) (l := T k) (by omega) hc (i0 := k + 1) (acc := acc) (r := r) u20 ?_ ?_ (nw (T k)) 0 (fun _ => 0) (k + 1) μ1 (by omega) (Nat.le_refl _) (by omega) hr1 FN_rf u8 u9 (fun x hx => absurd hx (Nat.not_lt_zero x))⟩
    · intro τ j hj hrj Fn t9
      exact flt τ j (FP_tr (F8_FP F1) (FN_FP Fn)) (by rw [Fn.2.1 20 (by decide) (by decide)]; exact u20) hj hrj t9
    · intro τ j nm hi0 hj hrj Fn t8 t9 tx
      have t20 : τ.1 104 20 = nI acc.length := by rw [Fn.2.1 20 (by decide) (by decide)]; exact u20
      have Fτ : FP μ τ := FP_tr (F8_FP F1) (FN_FP Fn)
      have ht4 := FP_TM Fτ ht
      unfold J_X12_readOrder_87
      refine ⟨fun h => absurd t9 h, fun _ => ?_⟩
      refine e_here ht4 hj t8 (fun m τ1 m1 m2 m3 m4 F2 em => ?_)
      have Fτ1 : FP μ τ1 := FP_tr Fτ (F8_FP F2)
      have v20 : τ1.1 104 20 = nI acc.length := by rw [F2.2 20 (by decide)]; exact t20
      have v9 : τ1.1 104 19 = -1 := by rw [F2.2 19 (by decide)]; exact t9
      have hrm : r = Rg T L m (cl (T k) (nw (T k)) nm) acc := hrj.trans (Rg_h1 (m - j) j m (by omega) m2 m4)
      have bad : (m < L → T m ≠ 59) → J_X12_readOrder_117 (nI (T k)) 104 0 104 τ1 Q := by
        intro hne
        refine tail 0 τ1 Fτ1 v20 (fun τ2 G g9 _ _ _ _ _ _ => hF τ2 m m2 (hrm.trans (Rg_e0 m2 m3 hne)) G (by rw [g9 rfl v9, em]))
      unfold J_X12_readOrder_104
      by_cases hm : m < L
      · have hcm := ht.2.2.2 m hm
        rw [if_pos hm, show (59 : Int32) = nI 59 from rfl, nI_eq (by omega) (by decide)]
        refine ⟨fun h => bad (fun _ => h), fun h => ?_⟩
        refine tail 1 τ1 Fτ1 v20 (fun τ2 G _ g9 g18 g20 g119 g118 g118x => ?_)
        refine hS τ2 (m + 1) (acc ++ [(T k, nm)]) ?_ (by omega) (hrm.trans (Rg_e1 hm h)) G (by rw [g18, em, nI_1]) (by rw [g9 (Or.inl (by decide))]; exact v9) ⟨by rw [g20, List.length_append]; rfl, fun x o hx => ?_⟩ (by rw [List.length_append]; simp; omega) (by simp)
        · omega
        · have e118 : ∀ y, τ1.1 118 y = μ.1 118 y := fun y => by rw [(F2.1 118 (by decide)).1, (Fn.1 118 (by decide)).1, (F1.1 118 (by decide)).1]
          have e119 : ∀ y, τ2.1 119 y = τ.1 119 y := fun y => by rw [g119, (F2.1 119 (by decide)).1]
          by_cases hxl : x < acc.length
          · rw [List.getElem?_append_left hxl] at hx
            obtain ⟨o1, o2, o3⟩ := hO.2 x o hx
            have ho := nw_le o.1
            refine ⟨o1, by rw [g118x x (by omega), e118]; exact o2, fun y hy => ?_⟩
            rw [e119, Fn.2.2 _ (by omega), (F1.1 119 (by decide)).1]
            exact o3 y hy
          · rw [List.getElem?_append_right (by omega)] at hx
            obtain ⟨y, hy⟩ : ∃ y, x - acc.length = y := ⟨_, rfl⟩
            rw [hy] at hx
            cases y with
            | zero =>
              simp at hx
              obtain rfl : x = acc.length := by omega
              rw [← hx]
              refine ⟨hlt, g118, fun y hy => ?_⟩
              rw [e119]
              exact tx y hy
            | succ y => simp at hx
      · rw [if_neg hm]
        exact ⟨fun _ => bad (fun h => absurd h hm), fun h => absurd h (by decide)⟩
  · rw [if_neg hlt]
    refine ⟨fun _ => ?_, fun h => absurd rfl h⟩
    unfold J_X12_readOrder_21
    refine e_must0 f9 ?_
    simp only [forall_eq]
    have hri : r = .inl k := by rw [← hr]; exact Rg_l0 hi h32 hlt
    generalize hμ : xi (xi κ 104 19 (κ.1 104 18)) 104 18 ((xi κ 104 19 (κ.1 104 18)).1 104 18 + 1) = μ1
    have F1 : FP μ μ1 := by rw [← hμ]; exact FP_tr (F8_FP F) (FP_tr (F9_FP F9_xi) (F8_FP F8_xi))
    have u9 : μ1.1 104 19 = nI k := by rw [← hμ, x_d (by decide), x_s, ek]
    have u20 : μ1.1 104 20 = nI acc.length := by rw [← hμ, x_d (by decide), x_d (by decide)]; exact f20
    exact ⟨1, l_roF (j := k) (by omega) u9 (flt μ1 k F1 u20 (by omega) hri u9)⟩
theorem l_rs {μ : xM} {L : Nat} {T : Nat → Nat} (ht : TM μ L T) {r : rT} {K : xM → Prop}
    (hF : ∀ κ j, j ≤ L → r = .inl j → FP μ κ → κ.1 104 19 = nI j → K κ)
    (hS : ∀ κ acc, r = .inr acc → FP μ κ → κ.1 104 19 = -1 → OD κ acc → 2 * acc.length ≤ L → K κ) :
    ∀ f i acc ν, L ≤ i + f → i ≤ L → r = Rg T L i none acc → (acc = [] → i < L ∧ T i ≠ 32) → FP μ ν → ν.1 104 18 = nI i → ν.1 104 19 = -1 → OD ν acc → 2 * acc.length ≤ i → L_X12_reads_32 104 (f + 1) ν K
  | f, i, acc, ν, hf, hi, hr, h0, F, e8, e9, hO, hlen => by
    have ht2 := FP_TM F ht
    have hL := ht.2.2.1
    unfold L_X12_reads_32 B_X12_reads_32
    refine ⟨fun h => absurd e9 h, fun _ => ?_⟩
    refine e_here ht2 hi e8 (fun k κ k1 k2 k3 k4 F2 ek => ?_)
    have Fk : FP μ κ := FP_tr F (F8_FP F2)
    have f9 : κ.1 104 19 = -1 := by rw [F2.2 19 (by decide)]; exact e9
    have hOk : OD κ acc := by
      unfold OD
      rw [F2.2 20 (by decide), (F2.1 118 (by decide)).1, (F2.1 119 (by decide)).1]
      exact hO
    have hrk : r = Rg T L k none acc := hr.trans (Rg_h0 (k - i) i k (by omega) k2 k4)
    by_cases hk : k < L
    · have hck := ht.2.2.2 k hk
      rw [if_pos hk]
      refine ⟨fun h => absurd h (nI_m1 (by omega)), fun _ => ?_⟩
      cases f with
      | zero => omega
      | succ f =>
        refine e_ro (FP_TM Fk ht) hk (k3 hk) ek f9 hOk (by omega) (fun τ j hj hrj G t9 => ?_) (fun τ j acc2 j1 j2 hrj G t8 t9 hO2 hl2 hne => ?_)
        · unfold L_X12_reads_32 B_X12_reads_32
          refine ⟨fun _ => hF τ j hj (hrk.trans hrj) (FP_tr Fk G) t9, fun h => ?_⟩
          rw [t9] at h
          exact absurd h (nI_m1 (by omega))
        · exact l_rs ht hF hS f j acc2 τ (by omega) j2 (hrk.trans hrj) (fun h => absurd h hne) (FP_tr Fk G) t8 t9 hO2 hl2
    · obtain rfl : k = L := by omega
      rw [if_neg hk]
      refine ⟨fun _ => ?_, fun h => absurd rfl h⟩
      have hne : acc ≠ [] := by
        intro e
        have := h0 e
        exact absurd (k4 i (Nat.le_refl _) (by omega)) this.2
      refine hS κ acc ?_ Fk f9 hOk (by omega)
      rw [hrk, Rg_L, if_pos (by cases acc; exact absurd rfl hne; rfl)]
