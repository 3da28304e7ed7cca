/-! sheets, the reference's way -/
def rvP (C : Nat → Nat) : Nat → Nat
  | 0 => 0
  | c + 1 => rvP C c * 16 + C c
theorem rvP_lt {C : Nat → Nat} : ∀ c, (∀ i, i < c → C i < 16) → rvP C c < 16 ^ c
  | 0, _ => by simp [rvP]
  | c + 1, h => by
    have ih := rvP_lt c (fun i hi => h i (by omega))
    have hc := h c (by omega)
    simp only [rvP]
    rw [Nat.pow_succ]
    omega
theorem rvP_inj {C D : Nat → Nat} : ∀ c, (∀ i, i < c → C i < 16) → (∀ i, i < c → D i < 16) → rvP C c = rvP D c → ∀ i, i < c → C i = D i
  | 0, _, _, _, i, hi => by omega
  | c + 1, h1, h2, h, i, hi => by
    have a1 := h1 c (by omega)
    have a2 := h2 c (by omega)
    simp only [rvP] at h
    by_cases e : i = c
    · rw [e]; omega
    · exact rvP_inj c (fun j hj => h1 j (by omega)) (fun j hj => h2 j (by omega)) (by omega) i (by omega)
theorem rvP_ext {C D : Nat → Nat} : ∀ c, (∀ i, i < c → C i = D i) → rvP C c = rvP D c
  | 0, _ => rfl
  | c + 1, h => by simp only [rvP]; rw [rvP_ext c (fun i hi => h i (by omega)), h c (by omega)]
def rvk (x : Nat) : Nat := rvP (fun i => x / 16 ^ i % 16) 16
theorem rvk_lt (x : Nat) : rvk x < 16 ^ 16 := rvP_lt 16 (fun i _ => Nat.mod_lt _ (by decide))
theorem rvk_inj {x y : Nat} (hx : x < 16 ^ 16) (hy : y < 16 ^ 16) (h : rvk x = rvk y) : x = y := by
  have := rvP_inj 16 (fun i _ => Nat.mod_lt _ (by decide)) (fun i _ => Nat.mod_lt _ (by decide)) h
  rw [nb_of x 16 hx, nb_of y 16 hy]
  exact nb_ext 16 this
theorem rvk_nb {C : Nat → Nat} (h : ∀ i, i < 16 → C i < 16) : rvk (nb C 16) = rvP C 16 := rvP_ext 16 (fun i hi => nb_dig h hi)
theorem or16 {x c : Nat} (h : c < 16) : x * 16 ||| c = x * 16 + c := by
  have := Nat.two_pow_add_eq_or_of_lt (i := 4) (b := c) h x
  rw [Nat.mul_comm x 16]
  exact this.symm
theorem l_pk {μ : xM} {C S : Nat → Nat} {cl : Nat} (m : Int32) (ms : MS μ C S cl) (hC : ∀ i, i < 16 → C i < 16) (hS : ∀ i, i < 16 → S i < 16) {K : Int64 → Int64 → xM → Prop} (hK : K (lN (rvP C 16)) (lN (rvP S 16)) μ) : ∀ d c, c + d = 16 → L_X12_isNew_8 104 m (d + 1) (nI c) (lN (rvP S c)) (lN (rvP C c)) μ K
  | 0, c, h => by
    obtain rfl : c = 16 := by omega
    unfold L_X12_isNew_8 B_X12_isNew_8
    exact ⟨fun _ => hK, fun h => absurd (by decide) h⟩
  | d + 1, c, h => by
    have ih := l_pk m ms hC hS hK d (c + 1) (by omega)
    have c1 := hC c (by omega)
    have s1 := hS c (by omega)
    unfold L_X12_isNew_8 B_X12_isNew_8
    simp only [shm, nI_clamp (show c < 2 ^ 31 by omega), (ms.1 c (by omega)).1, (ms.1 c (by omega)).2, forall_eq, nI_1]
    refine ⟨fun h2 => absurd h2 (nI_ge (b := 16) (by omega) (by decide)), fun _ => ⟨vp_in_nI (by omega) (by decide), vp_in_nI (by omega) (by decide), ?_⟩⟩
    rw [show (4 : Int32) = nI 4 from rfl, yl_L (by decide), yl_L (by decide), yl_l (by omega), yl_l (by omega), yl_or, yl_or, show (2 : Nat) ^ 4 = 16 from rfl, or16 c1, or16 s1]
    exact ih
def SM (μ : xM) (l : List kT) : Prop := ∀ j k, l[j]? = some k → vk k ∧ μ.2 114 j = lN (rvk k.1) ∧ μ.2 115 j = lN (rvk k.2.1) ∧ μ.1 116 j = nI k.2.2
theorem v720 {k : Nat} (h : k < 720) : vp_in (nI k) 720 := vp_in_nI h (by decide)
theorem l_cmp {μ : xM} {l : List kT} {k : kT} (hM : SM μ l) (hl : l.length ≤ 720) (hk : vk k) (h7 : μ.1 104 7 = nI k.2.2) {K : Int32 → xM → Prop} (h1 : k ∉ l → K 1 μ) (h0 : k ∈ l → K 0 μ) : ∀ d j, j + d = l.length → (∀ i, i < j → l[i]? ≠ some k) → L_X12_isNew_55 104 (nI l.length) (lN (rvk k.1)) (lN (rvk k.2.1)) (d + 2) (nI j) 1 μ K
  | 0, j, h, hn => by
    unfold L_X12_isNew_55 B_X12_isNew_55
    refine ⟨fun _ => h1 (fun hin => ?_), fun h => absurd (nI_le (by omega) (by omega)) h⟩
    obtain ⟨i, hi⟩ := List.getElem?_of_mem hin
    by_cases hij : i < j
    · exact hn i hij hi
    · rw [List.getElem?_eq_none (by omega)] at hi
      exact absurd hi (by simp)
  | d + 1, j, h, hn => by
    have hj : j < l.length := by omega
    obtain ⟨m, hm⟩ : ∃ m, l[j]? = some m := ⟨l[j], List.getElem?_eq_getElem hj⟩
    obtain ⟨vm, m1, m2, m3⟩ := hM j m hm
    unfold L_X12_isNew_55 B_X12_isNew_55
    simp only [shm, nI_clamp (show j < 2 ^ 31 by omega), m1, m2, m3, h7, forall_eq, nI_1, lg_cmp_eq]
    rw [lN_ij (rvk_lt _) (rvk_lt _), lN_ij (rvk_lt _) (rvk_lt _), nI_eq (by have := vm.2.2.2; omega) (by have := hk.2.2.2; omega)]
    refine ⟨fun h => absurd h (nI_ge hj (by omega)), fun _ => ⟨fun h => absurd h (by decide), fun _ => ⟨v720 (by omega), ?_⟩⟩⟩
    have next : m ≠ k → L_X12_isNew_55 104 (nI l.length) (lN (rvk k.1)) (lN (rvk k.2.1)) (d + 2) (nI (j + 1)) 1 μ K := by
      intro hne
      refine l_cmp hM hl hk h7 h1 h0 d (j + 1) (by omega) (fun i hi e => ?_)
      by_cases e2 : i = j
      · rw [e2, hm] at e; injection e with e; exact hne e
      · exact hn i (by omega) e
    refine ⟨fun e => next (fun h => e (by rw [h])), fun e1 => ⟨v720 (by omega), fun e => next (fun h => e (by rw [h])), fun e2 => ⟨v720 (by omega), fun e3 => ?_, fun e => next (fun h => e (by rw [h]))⟩⟩⟩
    have hmk : m = k := Prod.ext (rvk_inj vm.1 hk.1 e1) (Prod.ext (rvk_inj vm.2.2.1 hk.2.2.1 e2) e3)
    have hin : k ∈ l := by rw [← hmk]; exact List.mem_of_getElem? hm
    unfold L_X12_isNew_55 B_X12_isNew_55
    exact ⟨fun _ => h0 hin, fun _ => ⟨fun _ => h0 hin, fun h => absurd rfl h⟩⟩
theorem e_isN {μ : xM} {l : List kT} {C S : Nat → Nat} {cl : Nat} (hM : SM μ l) (hl : l.length < 720) (ms : MS μ C S cl) (hv : (∀ i, i < 16 → C i < 8) ∧ (∀ i, i < 16 → S i < 10) ∧ cl < 65536) {Q : Int32 → xM → Prop} (h0 : kyS (C, S, cl) ∈ l → Q 0 μ) (h1 : kyS (C, S, cl) ∉ l → ∀ ν, fr (fun q => 114 ≤ q ∧ q ≤ 116) μ ν → SM ν (l ++ [kyS (C, S, cl)]) → Q 1 ν) : p_X12_isNew 104 (nI l.length) μ Q := by
  unfold p_X12_isNew
  have hk : vk (kyS (C, S, cl)) := vkSh (x := (C, S, cl)) hv
  refine ⟨17, l_pk _ ms (lt8_16 hv.1) (lt10_16 hv.2.1) ?_ 16 0 rfl⟩
  have e1 : rvP C 16 = rvk (kyS (C, S, cl)).1 := (rvk_nb (lt8_16 hv.1)).symm
  have e2 : rvP S 16 = rvk (kyS (C, S, cl)).2.1 := (rvk_nb (lt10_16 hv.2.1)).symm
  have e3 : μ.1 104 7 = nI (kyS (C, S, cl)).2.2 := ms.2
  rw [e1, e2]
  generalize kyS (C, S, cl) = k at *
  refine ⟨l.length + 2, l_cmp hM (by omega) hk e3 ?_ ?_ l.length 0 (by omega) (fun i hi => absurd hi (Nat.not_lt_zero i))⟩
  · intro hn
    unfold J_X12_isNew_118
    simp only [shm, nI_clamp (show l.length < 2 ^ 31 by omega), forall_eq]
    refine ⟨fun h => absurd h (by decide), fun _ => ⟨v720 hl, v720 hl, v720 hl, ?_, ?_⟩⟩
    · have z := nar_b (c := True); rw [if_pos trivial] at z; exact z
    · rw [y_xl1, y_xl1, e3]
      refine h1 hn _ (fr_tr (fr_tr (fr_xl ⟨by decide, by decide⟩) (fr_xl ⟨by decide, by decide⟩)) (fr_xi ⟨by decide, by decide⟩)) ?_
      intro j m hm
      rw [y_xi2, y_xi]
      by_cases hj : j < l.length
      · rw [List.getElem?_append_left hj] at hm
        obtain ⟨a, b, c, d⟩ := hM j m hm
        refine ⟨a, ?_, ?_, ?_⟩
        · rw [y_xln (by decide), y_xl, if_neg (by omega)]; exact b
        · rw [y_xl, if_neg (by omega), y_xln (by decide)]; exact c
        · rw [if_neg (by omega)]; exact d
      · have hjl : j = l.length := by
          by_cases e : j < (l ++ [k]).length
          · rw [List.length_append] at e; simp only [List.length_cons, List.length_nil] at e; omega
          · rw [List.getElem?_eq_none (by omega)] at hm; exact absurd hm (by simp)
        subst hjl
        rw [List.getElem?_append_right (Nat.le_refl _), Nat.sub_self] at hm
        have hmk : k = m := by simpa using hm
        rw [← hmk]
        refine ⟨hk, ?_, ?_, ?_⟩
        · rw [y_xln (by decide), y_xl, if_pos ⟨rfl, rfl⟩]
        · rw [y_xl, if_pos ⟨rfl, rfl⟩]
        · rw [if_pos ⟨rfl, rfl⟩]
  · intro hin
    unfold J_X12_isNew_118
    refine ⟨fun _ => ⟨?_, h0 hin⟩, fun h => absurd rfl h⟩
    have z := nar_b (c := False); rw [if_neg (fun h => h)] at z; exact z
theorem SM_fr {μ ν : xM} {l : List kT} (h1 : ν.2 114 = μ.2 114) (h2 : ν.2 115 = μ.2 115) (h3 : ν.1 116 = μ.1 116) (h : SM μ l) : SM ν l := by
  unfold SM at *
  rw [h1, h2, h3]
  exact h
/-- one order: its sheet put down if lawful and new -/
theorem e_stS {μ : xM} {ρ : Nat → Nat} {σ : Int32} {l : List kT} {a : Nat → Nat} (hM : MR (μ.1 105) ρ σ) (hW : WF ρ) (hP : PC μ ρ) (ho : OR μ (ρ 0) a) (hb : ∀ i, i < ρ 0 → a i < ρ 0) (hS : SM μ l) (hl : l.length < 720) {K8 : Int32 → xM → Prop} {K8b : Int32 → Int32 → xM → Prop}
    (hg : ∀ ν, FM μ ν → OR ν (ρ 0) a → SM ν (if lwf ρ a (ρ 0) = true then dsT l (kyS (stC ρ a (ρ 0))) else l) → p_X12_goesOn 104 ν (fun r κ => K8b r (nI (if lwf ρ a (ρ 0) = true then dsT l (kyS (stC ρ a (ρ 0))) else l).length) κ)) : B_X12_sheets_8 104 1 (nI l.length) μ K8 K8b := by
  unfold B_X12_sheets_8
  refine ⟨fun h => absurd h (by decide), fun _ => e_isL hM hW ho hb ?_⟩
  rw [y_b0]
  by_cases gl : lwf ρ a (ρ 0) = true
  · rw [pr1 gl]
    simp only [if_pos gl] at hg
    refine e_paM hM hW ho hb hP (fun ν F ms => ?_)
    have o2 : OR ν (ρ 0) a := fun i hi => by rw [(prF_n F (by decide) (by decide) (by decide)).1]; exact ho i hi
    have s2 : SM ν l := SM_fr (prF_n F (by decide) (by decide) (by decide)).2 (prF_n F (by decide) (by decide) (by decide)).2 (prF_n F (by decide) (by decide) (by decide)).1 hS
    refine e_isN s2 hl ms (stC_ok hW (ρ 0) hb) (fun hin => ?_) (fun hin κ F2 s3 => ?_)
    · have hin' : kyS (stC ρ a (ρ 0)) ∈ l := hin
      unfold dsT at hg
      simp only [if_pos hin'] at hg
      exact ⟨fun _ => hg ν (FM_prF F) o2 s2, fun h => absurd rfl h⟩
    · have hin' : kyS (stC ρ a (ρ 0)) ∉ l := hin
      unfold dsT at hg
      simp only [if_neg hin'] at hg
      refine ⟨fun h => absurd h (by decide), fun _ => ?_⟩
      simp only [forall_eq, nI_1]
      have z := hg κ (FM_tr (FM_prF F) ⟨scr_of (fun q e => by omega) F2, (F2 113 (by decide)).1⟩) (fun i hi => by rw [(F2 111 (by decide)).1]; exact o2 i hi) s3
      rw [List.length_append] at z
      exact z
  · rw [pr0 gl]
    simp only [if_neg gl] at hg
    exact hg μ FM_rf ho hS
theorem dsF_c {ρ : Nat → Nat} {s : List kT} {a : Nat → Nat} {l : List (Nat → Nat)} : ((a :: l).filter (fun p => lwf ρ p (ρ 0))).foldl (fun x o => dsT x (kyS (stC ρ o (ρ 0)))) s = (l.filter (fun p => lwf ρ p (ρ 0))).foldl (fun x o => dsT x (kyS (stC ρ o (ρ 0)))) (if lwf ρ a (ρ 0) = true then dsT s (kyS (stC ρ a (ρ 0))) else s) := by
  rw [List.filter_cons]
  by_cases h : lwf ρ a (ρ 0) = true
  · rw [if_pos h, if_pos h, List.foldl_cons]
  · rw [if_neg h, if_neg h]
theorem st_len {ρ : Nat → Nat} {l : List kT} {a : Nat → Nat} : (if lwf ρ a (ρ 0) = true then dsT l (kyS (stC ρ a (ρ 0))) else l).length ≤ l.length + 1 := by
  split
  · exact dsT_len _ _
  · omega
theorem l_shM {μ : xM} {ρ : Nat → Nat} {σ : Int32} (hM : MR (μ.1 105) ρ σ) (hW : WF ρ) (hP : PC μ ρ) {K : Int32 → xM → Prop} : ∀ l a s ν, FM μ ν → OR ν (ρ 0) a → (∀ i, i < ρ 0 → a i < ρ 0) → SM ν s → s.length + (l.length + 1) ≤ 720 → ckh (ρ 0) l a = true → (∀ κ, FM μ κ → K (nI (((a :: l).filter (fun p => lwf ρ p (ρ 0))).foldl (fun x o => dsT x (kyS (stC ρ o (ρ 0)))) s).length) κ) → L_X12_sheets_8 104 (l.length + 2) 1 (nI s.length) ν K := by
  intro l
  induction l with
  | nil =>
    intro a s ν F ho hb hS hl hc hK
    have hM2 := FM_MR F hM
    have hc' : nxB (ρ 0) a = false := by simpa [ckh] using hc
    unfold L_X12_sheets_8
    refine e_stS hM2 hW (FM_PC F hP) ho hb hS (by omega) (fun κ F2 o2 b2 => ?_)
    refine e_goes hW.1 (MR_0 (FM_MR F2 hM2)) o2 hb (fun _ => ?_) (fun h => absurd h (by rw [hc']; decide))
    unfold L_X12_sheets_8 B_X12_sheets_8
    refine ⟨fun _ => ?_, fun h => absurd rfl h⟩
    have z := hK κ (FM_tr F F2)
    rw [dsF_c] at z
    exact z
  | cons b l ih =>
    intro a s ν F ho hb hS hl hc hK
    have hM2 := FM_MR F hM
    simp only [ckh, Bool.and_eq_true] at hc
    have hag := agr_ok _ hc.1.2
    rw [show (b :: l).length + 2 = (l.length + 2) + 1 from rfl]
    have hl' : s.length + (l.length + 1 + 1) ≤ 720 := hl
    unfold L_X12_sheets_8
    refine e_stS hM2 hW (FM_PC F hP) ho hb hS (by omega) (fun κ F2 o2 b2 => ?_)
    refine e_goes hW.1 (MR_0 (FM_MR F2 hM2)) o2 hb (fun h => absurd hc.1.1 (by rw [h]; decide)) (fun _ τ F3 o3 => ?_)
    have hsl := st_len (ρ := ρ) (l := s) (a := a)
    refine ih b _ τ (FM_tr (FM_tr F F2) (FM_111 F3)) (fun i hi => by rw [o3 i hi, (hag i hi).1]) (fun i hi => (hag i hi).2) (SM_fr (F3 114 (by decide)).2 (F3 115 (by decide)).2 (F3 116 (by decide)).1 b2) (by omega) hc.2 (fun κ2 F4 => ?_)
    have z := hK κ2 F4
    rw [dsF_c] at z
    exact z
theorem e_shM {μ : xM} {ρ : Nat → Nat} {σ : Int32} (hM : MR (μ.1 105) ρ σ) (hW : WF ρ) {Q : Int32 → xM → Prop} (hQ : ∀ ν, scr μ ν → Q (nI (dsF ρ (LV ρ (ρ 0))).length) ν) : p_X12_sheets 104 μ Q := by
  unfold p_X12_sheets
  refine e_begin hM hW (fun ν F o P => ?_)
  obtain ⟨a, l, e1, e2, e3, e4⟩ := ck_n hW.1
  refine ⟨l.length + 2, ?_⟩
  have hM2 : MR (ν.1 105) ρ σ := by rw [(F 105 (by decide)).1]; exact hM
  refine l_shM hM2 hW P l a [] ν FM_rf (fun i hi => by rw [o i (by have := hW.1; omega), e2 i hi]) (fun i hi => by rw [e2 i hi]; exact hi) (fun j k h => absurd h (by simp)) (by simp only [List.length_nil, Nat.zero_add]; exact e4) e3 (fun κ F2 => ?_)
  rw [← e1, ← LV_fil]
  exact hQ κ (scr_tr (scr_of (fun q e => by omega) F) F2.1)
theorem op_sheets {μ : xM} {t : Nat} (ht : t < 2 ^ 30) (hI : Inv t μ) : p_X11_sheets 0 μ (fun r1 μ1 => p_X12_sheets 104 μ1 (fun r2 μ2 => r1 = r2 ∧ Inv (t + 1) μ2)) := by
  obtain ⟨ρ, σ, h, Hρ, Hσ, cc, L, T, hw, hx, hm⟩ := hI
  unfold p_X11_sheets
  simp only [shp]
  refine e_runS ht hw.1 hx _ (fun ν F hx2 h4 => ?_)
  have hm2 := CM_fr (fr_lo (fun q h => by omega) F) hm
  refine e_shM hm2.1 hw.1 (fun κ s2 => ⟨h4, ?_⟩)
  exact ⟨ρ, σ, h, Hρ, Hσ, cc, L, T, hw, CX_scr s2 hx2, CM_scr s2 hm2⟩
