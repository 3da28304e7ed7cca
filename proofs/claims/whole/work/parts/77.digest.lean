/-! digest -/
def mxv (x : Int64) (v : Int32) : Int64 := 31 * x + v.toInt64
def dgF (f : Nat → Int32) (x : Int64) : Nat → Int64
  | 0 => x
  | n + 1 => mxv (dgF f x n) (f n)
def vTold (c : Nat → Int32) (L n h w : Nat) : Int32 := if w < 3 then c w else if w = 3 then nI L else if w = 4 then nI n else nI h
theorem dgF_app (f : Nat → Int32) (x : Int64) (m : Nat) : ∀ n, dgF (fun i => f (m + i)) (dgF f x m) n = dgF f x (m + n)
  | 0 => rfl
  | n + 1 => by
    rw [show m + (n + 1) = m + n + 1 by omega]
    simp only [dgF]
    rw [dgF_app f x m n]
section DG
variable {μ : xM} {t h L : Nat} {ρ : Nat → Nat} {σ : Int32} {Hρ : Nat → Nat → Nat} {Hσ : Nat → Int32} {c : Nat → Int32} {T : Nat → Nat}
theorem e_tdX (hx : CX μ t ρ σ h Hρ Hσ c L T) {w : Nat} (hw : w < 6) {Q : Int32 → xM → Prop} (hQ : Q (vTold c L (ρ 0) h w) μ) : p_X11_told 0 (nI w) μ Q := by
  unfold p_X11_told
  have x0 : μ.1 0 5 = c 0 := hx.2.2.1 0 (by decide)
  have x1 : μ.1 0 6 = c 1 := hx.2.2.1 1 (by decide)
  have x2 : μ.1 0 7 = c 2 := hx.2.2.1 2 (by decide)
  have x3 : μ.1 100 1 = nI L := hx.2.2.2.1.1
  have x4 : μ.1 2 0 = nI (ρ 0) := hx.1.1.1
  have x5 : μ.1 16 2 = nI h := by obtain ⟨nx, q⟩ := hx.2.1; exact q.2.2.2.1
  simp only [shp, x0, x1, x2, x3, x4, x5]
  unfold vTold at hQ
  rcases (show w = 0 ∨ w = 1 ∨ w = 2 ∨ w = 3 ∨ w = 4 ∨ w = 5 by omega) with rfl | rfl | rfl | rfl | rfl | rfl
  · exact ⟨fun _ => hQ, fun h => absurd rfl h⟩
  · exact ⟨fun h => absurd h (by decide), fun _ => ⟨fun _ => hQ, fun h => absurd rfl h⟩⟩
  · exact ⟨fun h => absurd h (by decide), fun _ => ⟨fun h => absurd h (by decide), fun _ => ⟨fun _ => hQ, fun h => absurd rfl h⟩⟩⟩
  · exact ⟨fun h => absurd h (by decide), fun _ => ⟨fun h => absurd h (by decide), fun _ => ⟨fun h => absurd h (by decide), fun _ => ⟨fun _ => hQ, fun h => absurd rfl h⟩⟩⟩⟩
  · exact ⟨fun h => absurd h (by decide), fun _ => ⟨fun h => absurd h (by decide), fun _ => ⟨fun h => absurd h (by decide), fun _ => ⟨fun h => absurd h (by decide), fun _ => ⟨fun _ => hQ, fun h => absurd rfl h⟩⟩⟩⟩⟩
  · exact ⟨fun h => absurd h (by decide), fun _ => ⟨fun h => absurd h (by decide), fun _ => ⟨fun h => absurd h (by decide), fun _ => ⟨fun h => absurd h (by decide), fun _ => ⟨fun h => absurd h (by decide), fun _ => ⟨fun _ => hQ, fun h => absurd rfl h⟩⟩⟩⟩⟩⟩
theorem e_tdM (hm : CM μ ρ σ h Hρ Hσ c L T) {w : Nat} (hw : w < 6) {Q : Int32 → xM → Prop} (hQ : Q (vTold c L (ρ 0) h w) μ) : p_X12_toldOf 104 (nI w) μ Q := by
  unfold p_X12_toldOf
  simp only [shm, clamp0, MR_0 hm.1, hm.2.2.2.1, hm.2.1.2.1, nI_clamp (show w < 2 ^ 31 by omega)]
  unfold vTold at hQ
  have v0 : ∀ k, k < 3 → vp_in (nI k) 3 := fun k hk => vp_in_nI hk (by decide)
  rcases (show w = 0 ∨ w = 1 ∨ w = 2 ∨ w = 3 ∨ w = 4 ∨ w = 5 by omega) with rfl | rfl | rfl | rfl | rfl | rfl
  · exact ⟨fun h => absurd h (by decide), fun _ => ⟨v0 0 (by decide), by rw [hm.2.2.1 0 (by decide)]; exact hQ⟩⟩
  · exact ⟨fun h => absurd h (by decide), fun _ => ⟨v0 1 (by decide), by rw [hm.2.2.1 1 (by decide)]; exact hQ⟩⟩
  · exact ⟨fun h => absurd h (by decide), fun _ => ⟨v0 2 (by decide), by rw [hm.2.2.1 2 (by decide)]; exact hQ⟩⟩
  · exact ⟨fun _ => ⟨fun h => absurd rfl h, fun _ => hQ⟩, fun h => absurd (by decide) h⟩
  · exact ⟨fun _ => ⟨fun _ => ⟨fun h => absurd rfl h, fun _ => ⟨v131 (k := 0) (by decide), hQ⟩⟩, fun h => absurd h (by decide)⟩, fun h => absurd (by decide) h⟩
  · exact ⟨fun _ => ⟨fun _ => ⟨fun _ => hQ, fun h => absurd h (by decide)⟩, fun h => absurd h (by decide)⟩, fun h => absurd (by decide) h⟩
theorem l_d6 (hx : CX μ t ρ σ h Hρ Hσ c L T) (x : Int64) {K : Int64 → xM → Prop} (hK : K (dgF (vTold c L (ρ 0) h) x 6) μ) : ∀ d w, w + d = 6 → L_X11_digest_6 0 (d + 1) (nI w) (dgF (vTold c L (ρ 0) h) x w) μ K
  | 0, w, e => by
    obtain rfl : w = 6 := by omega
    unfold L_X11_digest_6 B_X11_digest_6
    exact ⟨fun _ => hK, fun h => absurd (by decide) h⟩
  | d + 1, w, e => by
    have ih := l_d6 hx x hK d (w + 1) (by omega)
    unfold L_X11_digest_6 B_X11_digest_6
    refine ⟨fun h => absurd h (nI_nlt (a := 5) (b := w) (by omega) (by decide)), fun _ => e_tdX hx (by omega) ?_⟩
    simp only [forall_eq, nI_1]
    exact ih
theorem l_d49 (hx : CX μ t ρ σ h Hρ Hσ c L T) (hW : WF ρ) {k : Nat} (hk : k < ρ 0) (x : Int64) {K : Int64 → xM → Prop} (hK : K (dgF (fun j => vOf ρ (j / 8) (j % 8)) x (8 * k + 8)) μ) : ∀ d w, w + d = 8 → L_X11_digest_49 0 (nI k) (d + 1) (nI w) (dgF (fun j => vOf ρ (j / 8) (j % 8)) x (8 * k + w)) μ K
  | 0, w, e => by
    obtain rfl : w = 8 := by omega
    unfold L_X11_digest_49 B_X11_digest_49
    exact ⟨fun _ => hK, fun h => absurd (by decide) h⟩
  | d + 1, w, e => by
    have ih := l_d49 hx hW hk x hK d (w + 1) (by omega)
    unfold L_X11_digest_49 B_X11_digest_49
    refine ⟨fun h => absurd h (nI_nlt (a := 7) (b := w) (by omega) (by decide)), fun _ => e_ofX hx.1 hW.1 hk (by omega) ?_⟩
    simp only [forall_eq, nI_1]
    rw [show 8 * k + (w + 1) = 8 * k + w + 1 by omega] at ih
    simp only [dgF] at ih
    rw [show (8 * k + w) / 8 = k by omega, show (8 * k + w) % 8 = w by omega] at ih
    exact ih
theorem l_d32 (hx : CX μ t ρ σ h Hρ Hσ c L T) (hW : WF ρ) (x : Int64) {K : Int64 → xM → Prop} (hK : K (dgF (fun j => vOf ρ (j / 8) (j % 8)) x (8 * ρ 0)) μ) : ∀ d k, k + d = ρ 0 → L_X11_digest_32 0 (d + 1) (nI k) (dgF (fun j => vOf ρ (j / 8) (j % 8)) x (8 * k)) μ K
  | 0, k, e => by
    obtain rfl : k = ρ 0 := by omega
    unfold L_X11_digest_32 B_X11_digest_32
    have h6 := hW.1
    have h0 : μ.1 2 0 = nI (ρ 0) := hx.1.1.1
    simp only [shp, h0]
    exact ⟨fun _ => hK, fun h => absurd (nI_le (Nat.le_refl _) (by omega)) h⟩
  | d + 1, k, e => by
    have ih := l_d32 hx hW x hK d (k + 1) (by omega)
    have h6 := hW.1
    have h0 : μ.1 2 0 = nI (ρ 0) := hx.1.1.1
    unfold L_X11_digest_32 B_X11_digest_32
    simp only [shp, h0]
    refine ⟨fun h => absurd h (nI_ge (by omega) (by omega)), fun _ => ⟨9, l_d49 hx hW (by omega) x ?_ 8 0 rfl⟩⟩
    simp only [forall_eq, nI_1]
    exact ih
theorem l_d85 (hx : CX μ t ρ σ h Hρ Hσ c L T) (hW : WF ρ) (x : Int64) {K : Int64 → xM → Prop} (hK : K (dgF (fun i => nI (ρ (43 + i))) x 16) μ) : ∀ d w, w + d = 16 → L_X11_digest_85 0 (d + 1) (nI w) (dgF (fun i => nI (ρ (43 + i))) x w) μ K
  | 0, w, e => by
    obtain rfl : w = 16 := by omega
    unfold L_X11_digest_85 B_X11_digest_85
    exact ⟨fun _ => hK, fun h => absurd (by decide) h⟩
  | d + 1, w, e => by
    have ih := l_d85 hx hW x hK d (w + 1) (by omega)
    unfold L_X11_digest_85 B_X11_digest_85
    have hpl : μ.2 1 2 = lN (nb (fun c => ρ (43 + c)) 16) := hx.1.2.2
    simp only [shp, hpl]
    refine ⟨fun h => absurd h (nI_ge (b := 16) (by omega) (by decide)), fun _ => ?_⟩
    rw [e_nibd (fun i hi => Nat.lt_trans (hW.2.2.1 i hi).1 (by decide)) (by omega)]
    simp only [forall_eq, nI_1]
    exact ih
theorem l_d130 (hx : CX μ t ρ σ h Hρ Hσ c L T) (hW : WF ρ) (x : Int64) {K : Int64 → xM → Prop} (hK : K (dgF (vHand ρ σ) x 7) μ) : ∀ d w, w + d = 7 → L_X11_digest_130 0 (d + 1) (nI w) (dgF (vHand ρ σ) x w) μ K
  | 0, w, e => by
    obtain rfl : w = 7 := by omega
    unfold L_X11_digest_130 B_X11_digest_130
    exact ⟨fun _ => hK, fun h => absurd (by decide) h⟩
  | d + 1, w, e => by
    have ih := l_d130 hx hW x hK d (w + 1) (by omega)
    unfold L_X11_digest_130 B_X11_digest_130
    refine ⟨fun h => absurd h (nI_nlt (a := 6) (b := w) (by omega) (by decide)), fun _ => e_handX hx.1 hW (by omega) ?_⟩
    simp only [forall_eq, nI_1]
    exact ih
theorem l_d166 (hx : CX μ t ρ σ h Hρ Hσ c L T) (hW : WF ρ) {k : Nat} (hk : k < 16) (x : Int64) {K : Int64 → xM → Prop} (hK : K (dgF (fun j => vCell ρ (j / 4) (j % 4)) x (4 * k + 4)) μ) : ∀ d w, w + d = 4 → L_X11_digest_166 0 (nI k) (d + 1) (nI w) (dgF (fun j => vCell ρ (j / 4) (j % 4)) x (4 * k + w)) μ K
  | 0, w, e => by
    obtain rfl : w = 4 := by omega
    unfold L_X11_digest_166 B_X11_digest_166
    exact ⟨fun _ => hK, fun h => absurd (by decide) h⟩
  | d + 1, w, e => by
    have ih := l_d166 hx hW hk x hK d (w + 1) (by omega)
    unfold L_X11_digest_166 B_X11_digest_166
    refine ⟨fun h => absurd h (nI_nlt (a := 3) (b := w) (by omega) (by decide)), fun _ => e_cellX hx.1 hW hk (by omega) ?_⟩
    simp only [forall_eq, nI_1]
    rw [show 4 * k + (w + 1) = 4 * k + w + 1 by omega] at ih
    simp only [dgF] at ih
    rw [show (4 * k + w) / 4 = k by omega, show (4 * k + w) % 4 = w by omega] at ih
    exact ih
theorem l_d157 (hx : CX μ t ρ σ h Hρ Hσ c L T) (hW : WF ρ) (x : Int64) {K : Int64 → xM → Prop} (hK : K (dgF (fun j => vCell ρ (j / 4) (j % 4)) x 64) μ) : ∀ d k, k + d = 16 → L_X11_digest_157 0 (d + 1) (nI k) (dgF (fun j => vCell ρ (j / 4) (j % 4)) x (4 * k)) μ K
  | 0, k, e => by
    obtain rfl : k = 16 := by omega
    unfold L_X11_digest_157 B_X11_digest_157
    exact ⟨fun _ => hK, fun h => absurd (by decide) h⟩
  | d + 1, k, e => by
    have ih := l_d157 hx hW x hK d (k + 1) (by omega)
    unfold L_X11_digest_157 B_X11_digest_157
    refine ⟨fun h => absurd h (nI_ge (b := 16) (by omega) (by decide)), fun _ => ⟨5, l_d166 hx hW (by omega) x ?_ 4 0 rfl⟩⟩
    simp only [forall_eq, nI_1]
    exact ih
theorem l_d218 (hx : CX μ t ρ σ h Hρ Hσ c L T) (hW : WF ρ) {k : Nat} (hk : k < ρ 93) (x : Int64) {K : Int64 → xM → Prop} (hK : K (dgF (fun j => nI (ρ (95 + j))) x (3 * k + 3)) μ) : ∀ d w, w + d = 3 → L_X11_digest_218 0 (nI k) (d + 1) (nI w) (dgF (fun j => nI (ρ (95 + j))) x (3 * k + w)) μ K
  | 0, w, e => by
    obtain rfl : w = 3 := by omega
    unfold L_X11_digest_218 B_X11_digest_218
    exact ⟨fun _ => hK, fun h => absurd (by decide) h⟩
  | d + 1, w, e => by
    have ih := l_d218 hx hW hk x hK d (w + 1) (by omega)
    unfold L_X11_digest_218 B_X11_digest_218
    refine ⟨fun h => absurd h (nI_nlt (a := 2) (b := w) (by omega) (by decide)), fun _ => e_prX hx.1 hW hk (by omega) ?_⟩
    simp only [forall_eq, nI_1]
    rw [show 3 * k + (w + 1) = 3 * k + w + 1 by omega] at ih
    simp only [dgF] at ih
    rw [show 95 + (3 * k + w) = 95 + 3 * k + w by omega] at ih
    exact ih
theorem l_d201 (hx : CX μ t ρ σ h Hρ Hσ c L T) (hW : WF ρ) (x : Int64) {K : Int64 → xM → Prop} (hK : K (dgF (fun j => nI (ρ (95 + j))) x (3 * ρ 93)) μ) : ∀ d k, k + d = ρ 93 → L_X11_digest_201 0 (d + 1) (nI k) (dgF (fun j => nI (ρ (95 + j))) x (3 * k)) μ K
  | 0, k, e => by
    obtain rfl : k = ρ 93 := by omega
    unfold L_X11_digest_201 B_X11_digest_201
    have h12 := hW.2.2.2.2.1
    have h0 : μ.1 11 2 = nI (ρ 93) := hx.1.2.1.2.2.1
    simp only [shp, h0]
    exact ⟨fun _ => hK, fun h => absurd (nI_le (Nat.le_refl _) (by omega)) h⟩
  | d + 1, k, e => by
    have ih := l_d201 hx hW x hK d (k + 1) (by omega)
    have h12 := hW.2.2.2.2.1
    have h0 : μ.1 11 2 = nI (ρ 93) := hx.1.2.1.2.2.1
    unfold L_X11_digest_201 B_X11_digest_201
    simp only [shp, h0]
    refine ⟨fun h => absurd h (nI_ge (by omega) (by omega)), fun _ => ⟨4, l_d218 hx hW (by omega) x ?_ 3 0 rfl⟩⟩
    simp only [forall_eq, nI_1]
    exact ih
def dgA (c : Nat → Int32) (L h : Nat) (ρ : Nat → Nat) : Int64 := dgF (fun i => nI (ρ (43 + i))) (dgF (fun j => vOf ρ (j / 8) (j % 8)) (dgF (vTold c L (ρ 0) h) 2393 6) (8 * ρ 0)) 16
def dgB (c : Nat → Int32) (L h : Nat) (ρ : Nat → Nat) (σ : Int32) : Int64 := dgF (fun j => nI (ρ (95 + j))) (dgF (fun j => vCell ρ (j / 4) (j % 4)) (dgF (vHand ρ σ) (mxv (dgA c L h ρ) (nI (LV ρ (ρ 0)).length)) 7) 64) (3 * ρ 93)
theorem e_dgX (hw : CW ρ h Hρ L T) (hx : CX μ t ρ σ h Hρ Hσ c L T) {Q : Int64 → xM → Prop} (hQ : ∀ ν, fr (fun q => q = 99) μ ν → CX ν t ρ σ h Hρ Hσ c L T → Q (dgB c L h ρ σ) ν) : p_X11_digest 0 μ Q := by
  unfold p_X11_digest p_X11_lawful
  refine ⟨7, l_d6 hx 2393 ⟨ρ 0 + 1, l_d32 hx hw.1 _ ⟨17, l_d85 hx hw.1 _ ?_ 16 0 rfl⟩ (ρ 0) 0 (by omega)⟩ 6 0 rfl⟩
  simp only [shp]
  refine e_cntX hx.1 hw.1 (fun ν F => ?_)
  have hx2 := CX_99 (fr_mono F (fun q h => by omega)) hx
  simp only [forall_eq]
  refine ⟨8, l_d130 hx2 hw.1 _ ⟨17, l_d157 hx2 hw.1 _ ⟨ρ 93 + 1, l_d201 hx2 hw.1 _ ?_ (ρ 93) 0 (by omega)⟩ 16 0 rfl⟩ 7 0 rfl⟩
  exact hQ ν F hx2
end DG
section DGM
variable {μ : xM} {h L : Nat} {ρ : Nat → Nat} {σ : Int32} {Hρ : Nat → Nat → Nat} {Hσ : Nat → Int32} {c : Nat → Int32} {T : Nat → Nat}
/-- as far as here: the state is held, the number stands in its field -/
def DM (μ ν : xM) (x : Int64) : Prop := scr μ ν ∧ ν.2 104 23 = x
theorem DM_mix {ν : xM} {x : Int64} (hd : DM μ ν x) (v : Int32) {Q : xM → Prop} (hQ : ∀ κ, DM μ κ (mxv x v) → Q κ) : p_X12_mix 104 v ν Q := by
  unfold p_X12_mix
  simp only [forall_eq]
  refine hQ _ ⟨scr_tr hd.1 ⟨fr_xl (Or.inl rfl), rfl, rfl⟩, ?_⟩
  rw [y_xl, if_pos ⟨rfl, rfl⟩, hd.2]
  rfl
theorem l_m9 (hm : CM μ ρ σ h Hρ Hσ c L T) (x : Int64) {K : xM → Prop} (hK : ∀ ν, DM μ ν (dgF (vTold c L (ρ 0) h) x 6) → K ν) : ∀ d w ν, w + d = 6 → DM μ ν (dgF (vTold c L (ρ 0) h) x w) → L_X12_digest_9 104 (d + 1) (nI w) ν K
  | 0, w, ν, e, hd => by
    obtain rfl : w = 6 := by omega
    unfold L_X12_digest_9 B_X12_digest_9
    exact ⟨fun _ => hK ν hd, fun h => absurd (by decide) h⟩
  | d + 1, w, ν, e, hd => by
    unfold L_X12_digest_9 B_X12_digest_9
    refine ⟨fun h => absurd h (nI_ge (b := 6) (by omega) (by decide)), fun _ => e_tdM (CM_scr hd.1 hm) (by omega) (DM_mix hd _ (fun κ hκ => ?_))⟩
    simp only [forall_eq, nI_1]
    exact l_m9 hm x hK d (w + 1) κ (by omega) hκ
theorem l_m32 (hm : CM μ ρ σ h Hρ Hσ c L T) (hW : WF ρ) (x : Int64) {K : xM → Prop} (hK : ∀ ν, DM μ ν (dgF (fun j => vOf ρ (j / 8) (j % 8)) x (8 * ρ 0)) → K ν) : ∀ d w ν, w + d = 8 * ρ 0 → DM μ ν (dgF (fun j => vOf ρ (j / 8) (j % 8)) x w) → L_X12_digest_32 104 (d + 1) (nI w) ν K
  | 0, w, ν, e, hd => by
    obtain rfl : w = 8 * ρ 0 := by omega
    have h6 := hW.1
    have hm2 := CM_scr hd.1 hm
    unfold L_X12_digest_32 B_X12_digest_32
    simp only [shm, clamp0, MR_0 hm2.1]
    rw [show (8 : Int32) = nI 8 from rfl, pk_mul]
    exact ⟨v131 (k := 0) (by decide), fun _ => hK ν hd, fun h => absurd (nI_le (Nat.le_refl _) (by omega)) h⟩
  | d + 1, w, ν, e, hd => by
    have h6 := hW.1
    have hm2 := CM_scr hd.1 hm
    unfold L_X12_digest_32 B_X12_digest_32
    simp only [shm, clamp0, MR_0 hm2.1]
    rw [show (8 : Int32) = nI 8 from rfl, pk_mul, pk_rem (by omega) (by decide) (by decide), pk_div (by omega) (by decide) (by decide)]
    refine ⟨v131 (k := 0) (by decide), fun h => absurd h (nI_ge (by omega) (by omega)), fun _ => e_ofM hm2.1 hW (by omega) (by omega) (DM_mix hd _ (fun κ hκ => ?_))⟩
    simp only [forall_eq, nI_1]
    exact l_m32 hm hW x hK d (w + 1) κ (by omega) hκ
theorem l_m69 (hm : CM μ ρ σ h Hρ Hσ c L T) (x : Int64) {K : xM → Prop} (hK : ∀ ν, DM μ ν (dgF (fun i => nI (ρ (43 + i))) x 16) → K ν) : ∀ d w ν, w + d = 16 → DM μ ν (dgF (fun i => nI (ρ (43 + i))) x w) → L_X12_digest_69 104 (d + 1) (nI w) ν K
  | 0, w, ν, e, hd => by
    obtain rfl : w = 16 := by omega
    unfold L_X12_digest_69 B_X12_digest_69
    exact ⟨fun _ => hK ν hd, fun h => absurd (by decide) h⟩
  | d + 1, w, ν, e, hd => by
    have hm2 := CM_scr hd.1 hm
    unfold L_X12_digest_69 B_X12_digest_69
    simp only [shm]
    rw [show (43 : Int32) = nI 43 from rfl, nI_add, nI_clamp (by omega), MR_p hm2.1 (by omega) (by omega) (by omega)]
    refine ⟨fun h => absurd h (nI_ge (b := 16) (by omega) (by decide)), fun _ => ⟨v131 (by omega), DM_mix hd _ (fun κ hκ => ?_)⟩⟩
    simp only [forall_eq, nI_1]
    exact l_m69 hm x hK d (w + 1) κ (by omega) hκ
theorem l_m104 (hm : CM μ ρ σ h Hρ Hσ c L T) (hW : WF ρ) (x : Int64) {K : xM → Prop} (hK : ∀ ν, DM μ ν (dgF (vHand ρ σ) x 7) → K ν) : ∀ d w ν, w + d = 7 → DM μ ν (dgF (vHand ρ σ) x w) → L_X12_digest_104 104 (d + 1) (nI w) ν K
  | 0, w, ν, e, hd => by
    obtain rfl : w = 7 := by omega
    unfold L_X12_digest_104 B_X12_digest_104
    exact ⟨fun _ => hK ν hd, fun h => absurd (by decide) h⟩
  | d + 1, w, ν, e, hd => by
    have hm2 := CM_scr hd.1 hm
    unfold L_X12_digest_104 B_X12_digest_104
    refine ⟨fun h => absurd h (nI_ge (b := 7) (by omega) (by decide)), fun _ => e_handM hm2.1 hW (by omega) (fun τ s2 g2 => ?_)⟩
    have hd2 : DM μ τ (dgF (vHand ρ σ) x w) := ⟨scr_tr hd.1 s2, by rw [g2]; exact hd.2⟩
    refine DM_mix hd2 _ (fun κ hκ => ?_)
    simp only [forall_eq, nI_1]
    exact l_m104 hm hW x hK d (w + 1) κ (by omega) hκ
theorem l_m127 (hm : CM μ ρ σ h Hρ Hσ c L T) (hW : WF ρ) (x : Int64) {K : xM → Prop} (hK : ∀ ν, DM μ ν (dgF (fun j => vCell ρ (j / 4) (j % 4)) x 64) → K ν) : ∀ d w ν, w + d = 64 → DM μ ν (dgF (fun j => vCell ρ (j / 4) (j % 4)) x w) → L_X12_digest_127 104 (d + 1) (nI w) ν K
  | 0, w, ν, e, hd => by
    obtain rfl : w = 64 := by omega
    unfold L_X12_digest_127 B_X12_digest_127
    exact ⟨fun _ => hK ν hd, fun h => absurd (by decide) h⟩
  | d + 1, w, ν, e, hd => by
    have hm2 := CM_scr hd.1 hm
    unfold L_X12_digest_127 B_X12_digest_127
    rw [show (4 : Int32) = nI 4 from rfl, pk_rem (by omega) (by decide) (by decide), pk_div (by omega) (by decide) (by decide)]
    refine ⟨fun h => absurd h (nI_ge (b := 64) (by omega) (by decide)), fun _ => e_cellM hm2.1 hW (by omega) (by omega) (DM_mix hd _ (fun κ hκ => ?_))⟩
    simp only [forall_eq, nI_1]
    exact l_m127 hm hW x hK d (w + 1) κ (by omega) hκ
theorem l_m155 (hm : CM μ ρ σ h Hρ Hσ c L T) (hW : WF ρ) (x : Int64) {K : xM → Prop} (hK : ∀ ν, DM μ ν (dgF (fun j => nI (ρ (95 + j))) x (3 * ρ 93)) → K ν) : ∀ d w ν, w + d = 3 * ρ 93 → DM μ ν (dgF (fun j => nI (ρ (95 + j))) x w) → L_X12_digest_155 104 (d + 1) (nI w) ν K
  | 0, w, ν, e, hd => by
    obtain rfl : w = 3 * ρ 93 := by omega
    have h12 := hW.2.2.2.2.1
    have hm2 := CM_scr hd.1 hm
    have c93 : (93 : Int32).toNatClampNeg = 93 := by decide
    unfold L_X12_digest_155 B_X12_digest_155
    simp only [shm, c93, MR_p hm2.1 (show 43 ≤ 93 by decide) (by decide) (by decide)]
    rw [show (3 : Int32) = nI 3 from rfl, pk_mul]
    exact ⟨v131 (k := 93) (by decide), fun _ => hK ν hd, fun h => absurd (nI_le (Nat.le_refl _) (by omega)) h⟩
  | d + 1, w, ν, e, hd => by
    have h12 := hW.2.2.2.2.1
    have hm2 := CM_scr hd.1 hm
    have c93 : (93 : Int32).toNatClampNeg = 93 := by decide
    unfold L_X12_digest_155 B_X12_digest_155
    simp only [shm, c93, MR_p hm2.1 (show 43 ≤ 93 by decide) (by decide) (by decide)]
    rw [show (3 : Int32) = nI 3 from rfl, pk_mul, show (95 : Int32) = nI 95 from rfl, nI_add, nI_clamp (by omega), MR_p hm2.1 (by omega) (by omega) (by omega)]
    refine ⟨v131 (k := 93) (by decide), fun h => absurd h (nI_ge (by omega) (by omega)), fun _ => ⟨v131 (by omega), DM_mix hd _ (fun κ hκ => ?_)⟩⟩
    simp only [forall_eq, nI_1]
    exact l_m155 hm hW x hK d (w + 1) κ (by omega) hκ
theorem e_dgM (hW : WF ρ) (hm : CM μ ρ σ h Hρ Hσ c L T) {Q : Int64 → xM → Prop} (hQ : ∀ ν, scr μ ν → Q (dgB c L h ρ σ) ν) : p_X12_digest 104 μ Q := by
  unfold p_X12_digest
  simp only [forall_eq]
  have d0 : DM μ (xl μ 104 23 2393) 2393 := ⟨⟨fr_xl (Or.inl rfl), rfl, rfl⟩, by rw [y_xl, if_pos ⟨rfl, rfl⟩]⟩
  refine ⟨7, l_m9 hm 2393 (fun ν1 d1 => ⟨8 * ρ 0 + 1, l_m32 hm hW _ (fun ν2 d2 => ⟨17, l_m69 hm _ (fun ν3 d3 => ?_) 16 0 ν2 rfl d2⟩) (8 * ρ 0) 0 ν1 (by omega) d1⟩) 6 0 _ rfl d0⟩
  refine e_lawM (CM_scr d3.1 hm).1 hW (fun ν4 F4 => ?_)
  have d4 : DM μ ν4 (dgA c L h ρ) := ⟨scr_tr d3.1 (scr_of (fun q e => by omega) F4), by rw [(F4 104 (by decide)).2]; exact d3.2⟩
  refine DM_mix d4 _ (fun ν5 d5 => ?_)
  refine ⟨8, l_m104 hm hW _ (fun ν6 d6 => ⟨65, l_m127 hm hW _ (fun ν7 d7 => ⟨3 * ρ 93 + 1, l_m155 hm hW _ (fun ν8 d8 => ?_) (3 * ρ 93) 0 ν7 (by omega) d7⟩) 64 0 ν6 rfl d6⟩) 7 0 ν5 rfl d5⟩
  rw [d8.2]
  exact hQ ν8 d8.1
end DGM
theorem op_digest {μ : xM} {t : Nat} (hI : Inv t μ) : p_X11_digest 0 μ (fun r1 μ1 => p_X12_digest 104 μ1 (fun r2 μ2 => r1 = r2 ∧ Inv (t + 1) μ2)) := by
  obtain ⟨ρ, σ, h, Hρ, Hσ, cc, L, T, hw, hx, hm⟩ := hI
  refine e_dgX hw hx (fun ν F hx2 => ?_)
  have hm2 := CM_fr (fr_lo (fun q h => by omega) F) hm
  refine e_dgM hw.1 hm2 (fun κ s2 => ⟨rfl, ?_⟩)
  exact inv_id hw (CX_scr s2 hx2) (CM_scr s2 hm2)
