/-! the class's set of sheets -/
def dsT (l : List kT) (k : kT) : List kT := if k ∈ l then l else l ++ [k]
def dsF (ρ : Nat → Nat) (l : List (Nat → Nat)) : List kT := l.foldl (fun a o => dsT a (kyS (stC ρ o (ρ 0)))) []
theorem dsF_s {ρ : Nat → Nat} {l : List (Nat → Nat)} {o : Nat → Nat} : dsF ρ (l ++ [o]) = dsT (dsF ρ l) (kyS (stC ρ o (ρ 0))) := by
  unfold dsF
  rw [List.foldl_append]
  rfl
theorem dsT_len (l : List kT) (k : kT) : (dsT l k).length ≤ l.length + 1 := by
  unfold dsT
  split
  · omega
  · rw [List.length_append]; exact Nat.le_refl _
theorem SI_ins {μ : xM} {r : Nat} {l : List kT} {k : kT} {t : Nat} (hr : r < 2 ^ 31) (hS : SI μ r l) (hk : vk k) (ht : t < 1024) (hn : ¬ tkn μ r ((stK k + t) % 1024)) (hp : ∀ u, u < t → tkn μ r ((stK k + u) % 1024)) : SI (xi (xl (xl (xi μ 98 ((stK k + t) % 1024) (nI r)) 96 ((stK k + t) % 1024) (lN (fcN k))) 97 ((stK k + t) % 1024) (lN k.2.1)) 95 4 (nI (l.length + 1))) r (l ++ [k]) := by
  have hlt : (stK k + t) % 1024 < 1024 := Nat.mod_lt _ (by decide)
  generalize hs : (stK k + t) % 1024 = s at *
  generalize hν : xi (xl (xl (xi μ 98 s (nI r)) 96 s (lN (fcN k))) 97 s (lN k.2.1)) 95 4 (nI (l.length + 1)) = ν
  have a98 : ∀ x, ν.1 98 x = if x = s then nI r else μ.1 98 x := by
    intro x
    rw [← hν, y_xin (by decide), y_xl1, y_xl1, y_xi]
    by_cases e : x = s
    · rw [if_pos ⟨rfl, e⟩, if_pos e]
    · rw [if_neg (fun h => e h.2), if_neg e]
  have a96 : ∀ x, ν.2 96 x = if x = s then lN (fcN k) else μ.2 96 x := by
    intro x
    rw [← hν, y_xi2, y_xln (by decide), y_xl, y_xi2]
    by_cases e : x = s
    · rw [if_pos ⟨rfl, e⟩, if_pos e]
    · rw [if_neg (fun h => e h.2), if_neg e]
  have a97 : ∀ x, ν.2 97 x = if x = s then lN k.2.1 else μ.2 97 x := by
    intro x
    rw [← hν, y_xi2, y_xl, y_xln (by decide), y_xi2]
    by_cases e : x = s
    · rw [if_pos ⟨rfl, e⟩, if_pos e]
    · rw [if_neg (fun h => e h.2), if_neg e]
  have a3 : ν.1 95 3 = μ.1 95 3 := by rw [← hν, y_xi, if_neg (by omega), y_xl1, y_xl1, y_xin (by decide)]
  have a4 : ν.1 95 4 = nI (l.length + 1) := by rw [← hν, y_xi, if_pos ⟨rfl, rfl⟩]
  have ts : tkn ν r s := by show ν.1 98 s = nI r; rw [a98, if_pos rfl]
  have tm : ∀ x, tkn μ r x → tkn ν r x := by
    intro x hx
    show ν.1 98 x = nI r
    rw [a98]
    split
    · rfl
    · exact hx
  have tn : ∀ x, x ≠ s → (tkn ν r x ↔ tkn μ r x) := by
    intro x hx
    show ν.1 98 x = nI r ↔ _
    rw [a98, if_neg hx]
  have ho : ∀ x m, tkn μ r x → hld μ x m → hld ν x m := by
    intro x m hx hm
    have hxs : x ≠ s := fun e => hn (by rw [← e]; exact hx)
    unfold hld
    rw [a96, a97, if_neg hxs, if_neg hxs]
    exact hm
  have hks : hld ν s k := by
    unfold hld
    rw [a96, a97, if_pos rfl, if_pos rfl]
    exact ⟨rfl, rfl⟩
  refine ⟨⟨by rw [a3]; exact hS.1.1, by rw [a4, List.length_append]; rfl⟩, ?_, ?_, ?_, ?_⟩
  · intro x hx htx
    by_cases e : x = s
    · exact ⟨k, List.mem_append_right _ List.mem_cons_self, by rw [e]; exact hks⟩
    · obtain ⟨m, hm, hh⟩ := hS.2.1 x hx ((tn x e).mp htx)
      exact ⟨m, List.mem_append_left _ hm, ho x m ((tn x e).mp htx) hh⟩
  · intro m hm
    rcases List.mem_append.mp hm with hm | hm
    · obtain ⟨v, t0, h1, h2, h3, h4⟩ := hS.2.2.1 m hm
      exact ⟨v, t0, h1, tm _ h2, ho _ _ h2 h3, fun u hu => tm _ (h4 u hu)⟩
    · have e := List.mem_singleton.mp hm
      rw [e]
      exact ⟨hk, t, ht, by rw [hs]; exact ts, by rw [hs]; exact hks, fun u hu => tm _ (hp u hu)⟩
  · rw [List.length_append, sm_up (p := fun s => if tkn μ r s then 1 else 0) (q := fun s => if tkn ν r s then 1 else 0) (s := s) (if_neg hn) (if_pos ts) (fun i hi => by
      by_cases h : tkn μ r i
      · rw [if_pos h, if_pos ((tn i hi).mpr h)]
      · rw [if_neg h, if_neg (fun h2 => h ((tn i hi).mp h2))]) 1024 hlt, hS.2.2.2.1]
    rfl
  · intro x hx
    rw [a98]
    by_cases e : x = s
    · rw [if_pos e]; exact ⟨r, Nat.le_refl _, rfl⟩
    · rw [if_neg e]; exact hS.2.2.2.2 x hx
theorem e_addS {μ : xM} {r : Nat} {l : List kT} {C S : Nat → Nat} {cl : Nat} (hr : r < 2 ^ 31) (hS : SI μ r l) (hl : l.length < 1024) (hs : SH μ 94 C S cl) (hv : (∀ i, i < 16 → C i < 8) ∧ (∀ i, i < 16 → S i < 10) ∧ cl < 65536) {Q : xM → Prop} (hQ : ∀ ν, fr (fun q => 95 ≤ q ∧ q ≤ 98) μ ν → SI ν r (dsT l (kyS (C, S, cl))) → Q ν) : p_X8_add 95 94 μ Q := by
  unfold p_X8_add
  have hk : vk (kyS (C, S, cl)) := vkSh (x := (C, S, cl)) hv
  refine e_cc hs hv.2.2 ?_
  rw [hs.2.1]
  generalize hkk : kyS (C, S, cl) = k at *
  have e2 : lN (nb S 16) = lN k.2.1 := by rw [← hkk]; rfl
  rw [e2]
  simp only [forall_eq]
  have e3 : (lU (lN (fcN k) * (-7046029254386353131 : Int64) + lN k.2.1 * (-4417276706812531889 : Int64)) 54).toInt32 = nI (stK k) := st_i k
  rw [e3]
  refine ⟨1025, ?_⟩
  refine l_add hS hl hk ?_ ?_ 1024 0 rfl (fun u hu => absurd hu (Nat.not_lt_zero u))
  · intro t ht hin hn hp
    have hlt : (stK k + t) % 1024 < 1024 := Nat.mod_lt _ (by decide)
    simp only [shs, nI_clamp (show (stK k + t) % 1024 < 2 ^ 31 by omega), hS.1.1]
    have l6 : ln 96 = 1024 ∧ ln 97 = 1024 ∧ ln 98 = 1024 := ⟨shl.2.2.2.2.2.2.2.2.2.2.2.2.1, shl.2.2.2.2.2.2.2.2.2.2.2.2.2.1, shl.2.2.2.2.2.2.2.2.2.2.2.2.2.2.1⟩
    rw [l6.1, l6.2.1, l6.2.2]
    refine ⟨v1024 hlt, v1024 hlt, v1024 hlt, ?_⟩
    rw [y_xl1, y_xl1, y_xin (by decide), hS.1.2, nI_1]
    refine hQ _ (fr_tr (fr_tr (fr_tr (fr_xi ⟨by decide, by decide⟩) (fr_xl ⟨by decide, by decide⟩)) (fr_xl ⟨by decide, by decide⟩)) (fr_xi ⟨by decide, by decide⟩)) ?_
    unfold dsT
    rw [if_neg hin]
    exact SI_ins hr hS hk ht hn hp
  · intro hin
    refine hQ μ fr_rf ?_
    unfold dsT
    rw [if_pos hin]
    exact hS
theorem SI_fr {μ ν : xM} {r : Nat} {l : List kT} (h1 : ν.1 95 = μ.1 95) (h2 : ν.1 98 = μ.1 98) (h3 : ν.2 96 = μ.2 96) (h4 : ν.2 97 = μ.2 97) (hS : SI μ r l) : SI ν r l := by
  unfold SI hld tkn at *
  rw [h1, h2, h3, h4]
  exact hS
def JS (μ : xM) (ρ : Nat → Nat) (r : Nat) (l : List (Nat → Nat)) (ν : xM) : Prop := fr (fun q => 93 ≤ q ∧ q ≤ 98) μ ν ∧ ν.1 93 4 = 2 ∧ ν.1 93 5 = nI 1 ∧ SI ν r (dsF ρ l) ∧ (dsF ρ l).length ≤ l.length
theorem e_runS {μ : xM} {t : Nat} {ρ : Nat → Nat} {σ : Int32} {h : Nat} {Hρ : Nat → Nat → Nat} {Hσ : Nat → Int32} {c : Nat → Int32} {L : Nat} {T : Nat → Nat} (ht : t < 2 ^ 30) (hW : WF ρ) (hx : CX μ t ρ σ h Hρ Hσ c L T) (pl : Int64) {Q : xM → Prop} (hQ : ∀ ν, fr (fun q => 93 ≤ q ∧ q ≤ 99) μ ν → CX ν (t + 1) ρ σ h Hρ Hσ c L T → ν.1 95 4 = nI (dsF ρ (LV ρ (ρ 0))).length → Q ν) : p_X6_run 93 2 1 pl μ Q := by
  refine e_run (g := 1) hW (by decide) (fun ν F f4 f5 f6 f7 f8 f9 => ?_)
  have hR : Rep ν 1 ρ σ := Rep_fr (fun q q1 q2 => F q (by omega)) hx.1
  obtain ⟨r, r1, r2, r3⟩ := hx.2.2.2.2
  have h98 : ν.1 98 = μ.1 98 := (F 98 (by decide)).1
  have nt : ∀ s, s < 1024 → ¬ tkn ν (r + 1) s := by
    intro s hs e
    obtain ⟨e1, e2, e3⟩ := r3 s hs
    have e' : μ.1 98 s = nI (r + 1) := by rw [← h98]; exact e
    rw [e3, nI_eq (by omega) (by omega)] at e'
    omega
  refine ⟨JS ν ρ (r + 1), ?_, ?_, ?_, ⟨fr_rf, f4, f5, ⟨⟨by rw [f8, r2, nI_1], by rw [f9]; rfl⟩, fun s hs e => absurd e (nt s hs), fun k hk => absurd hk List.not_mem_nil, ?_, fun s hs => ?_⟩, Nat.le_refl _⟩, ?_⟩
  · intro l κ hJ
    exact ⟨Rep_s (Rep_fr (fun q q1 q2 => hJ.1 q (by omega)) hR), hJ.2.2.1⟩
  · intro l κ τ hJ f
    obtain ⟨h1, h2, h3, h4, h5⟩ := hJ
    refine ⟨fr_tr h1 (fr_mono f (fun q e => by omega)), ?_, ?_, SI_fr (f 95 (by decide)).1 (f 98 (by decide)).1 (f 96 (by decide)).2 (f 97 (by decide)).2 h4, h5⟩
    · rw [(f 93 (by decide)).1]; exact h2
    · rw [(f 93 (by decide)).1]; exact h3
  · intro l κ o Q2 hJ hl o1 o2 hs hQ2
    obtain ⟨h1, h2, h3, h4, h5⟩ := hJ
    unfold p_X6_judge
    rw [h2]
    refine ⟨fun e => absurd rfl e, fun _ => ?_⟩
    simp only [shp]
    obtain ⟨g1, g2, g3⟩ := stC_ok hW (o := o) (ρ 0) o1
    refine e_addS (by omega) h4 (by omega) hs ⟨g1, g2, g3⟩ (fun τ F2 S2 => hQ2 τ ?_)
    have e2 : dsF ρ (l ++ [o]) = dsT (dsF ρ l) (kyS ((stC ρ o (ρ 0)).1, (stC ρ o (ρ 0)).2.1, (stC ρ o (ρ 0)).2.2)) := dsF_s
    refine ⟨fr_tr h1 (fr_mono F2 (fun q e => by omega)), ?_, ?_, ?_, ?_⟩
    · rw [(F2 93 (by decide)).1]; exact h2
    · rw [(F2 93 (by decide)).1]; exact h3
    · rw [e2]; exact S2
    · rw [e2, List.length_append]
      have := dsT_len (dsF ρ l) (kyS ((stC ρ o (ρ 0)).1, (stC ρ o (ρ 0)).2.1, (stC ρ o (ρ 0)).2.2))
      simp only [List.length_cons, List.length_nil]
      omega
  · rw [sm_ext (b := fun _ => 0) 1024 (fun i hi => if_neg (nt i hi)), sm_0]
    rfl
  · obtain ⟨e1, e2, e3⟩ := r3 s hs
    exact ⟨e1, by omega, by rw [h98]; exact e3⟩
  · intro κ hJ
    have F2 : fr (fun q => 93 ≤ q ∧ q ≤ 99) μ κ := fr_tr (fr_mono F (fun q e => by omega)) (fr_mono hJ.1 (fun q e => by omega))
    refine hQ κ F2 (CX_run F2 ?_ hx) hJ.2.2.2.1.1.2
    exact ⟨r + 1, by omega, hJ.2.2.2.1.1.1, hJ.2.2.2.1.2.2.2.2⟩
