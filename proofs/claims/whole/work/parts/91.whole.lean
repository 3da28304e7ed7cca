/-! from the entry -/
theorem lawE {args : Array Value} {s : State} (hts : ∀ w ∈ wsL_law, w.before args s = true) (hao : (Cond.arrayOver (.object "WetPrints$State")).before args s = true) : ∃ E : xE, va_K E.1 vwCl (xty E) s := by
  obtain ⟨c0, i0, h0⟩ := u_known (C := RX0) (T := TX0) (N := 9) (n := 9) hts inlX0 (hts _ (wm_2 _ (List.mem_of_getElem? (i := 16) rfl)))
  obtain ⟨c1, i1, h1⟩ := u_known (C := RX2) (T := TX2) (N := 7) (n := 7) hts inlX2 (hts _ (wm_2 _ (List.mem_of_getElem? (i := 20) rfl)))
  obtain ⟨c2, i2, h2⟩ := u_known (C := RX3) (T := TX3) (N := 3) (n := 3) hts inlX3 (hts _ (wm_1 _ (List.mem_of_getElem? (i := 17) rfl)))
  obtain ⟨c3, i3, h3⟩ := u_known (C := RX4) (T := TX4) (N := 10) (n := 10) hts inlX4 (hts _ (wm_2 _ (List.mem_of_getElem? (i := 6) rfl)))
  obtain ⟨c4, i4, h4⟩ := u_known (C := RX6) (T := TX6) (N := 11) (n := 11) hts inlX6 (hts _ (wm_1 _ (List.mem_of_getElem? (i := 21) rfl)))
  obtain ⟨c5, i5, h5⟩ := u_known (C := RX7) (T := TX7) (N := 3) (n := 3) hts inlX7 (hts _ (wm_3 _ (List.mem_of_getElem? (i := 17) rfl)))
  obtain ⟨c6, i6, h6⟩ := u_known (C := RX8) (T := TX8) (N := 5) (n := 5) hts inlX8 (hts _ (wm_4 _ (List.mem_of_getElem? (i := 23) rfl)))
  obtain ⟨c7, i7, h7⟩ := u_known (C := RX9) (T := TX9) (N := 3) (n := 3) hts inlX9 (hts _ (wm_1 _ (List.mem_of_getElem? (i := 13) rfl)))
  obtain ⟨c8, i8, h8⟩ := u_known (C := RX10) (T := TX10) (N := 2) (n := 2) hts inlX10 (hts _ (wm_2 _ (List.mem_of_getElem? (i := 2) rfl)))
  obtain ⟨c9, i9, h9⟩ := u_known (C := RX11) (T := TX11) (N := 8) (n := 8) hts inlX11 (hts _ (wm_1 _ (List.mem_of_getElem? (i := 1) rfl)))
  obtain ⟨c10, i10, h10⟩ := u_known (C := RX12) (T := TX12) (N := 24) (n := 24) hts inlX12 (hts _ (wm_1 _ (List.mem_of_getElem? (i := 4) rfl)))
  obtain ⟨cI, kI, oI, f1, f2, f3⟩ := Cond.arrayClass_spec (hts _ (wm_3 _ (List.mem_of_getElem? (i := 4) rfl)))
  obtain ⟨cL, kL, oL, g1, g2, g3⟩ := Cond.arrayClass_spec (hts _ (wm_5 _ (List.mem_of_getElem? (i := 14) rfl)))
  obtain ⟨oQ, cQ, kQ, e1, e2, e3, e4, e5⟩ := Cond.arrayOver_spec hao
  refine ⟨((fun k => [c0, c1, c2, c3, c4, c5, c6, c7, c8, c9, c10].getD k c0, fun k => [i0, i1, i2, i3, i4, i5, i6, i7, i8, i9, i10].getD k i0), cI, cL, cQ), fun k q hq => ?_, fun k q hq => ?_⟩
  · match k, hq with
    | 0, hq => cases hq; exact h0
    | 1, hq => cases hq; exact h1
    | 2, hq => cases hq; exact h2
    | 3, hq => cases hq; exact h3
    | 4, hq => cases hq; exact h4
    | 5, hq => cases hq; exact h5
    | 6, hq => cases hq; exact h6
    | 7, hq => cases hq; exact h7
    | 8, hq => cases hq; exact h8
    | 9, hq => cases hq; exact h9
    | 10, hq => cases hq; exact h10
    | k + 11, hq => simp [vwCl] at hq
  · match k, hq with
    | 0, hq => cases hq; exact ⟨fun n z => ⟨fun k h => (by cases h), kI, f2, oI, f3⟩, f1⟩
    | 1, hq => cases hq; exact ⟨fun n z => ⟨fun k h => (by cases h), kL, g2, oL, g3⟩, g1⟩
    | 2, hq => cases hq; exact ⟨fun n z => ⟨fun k h => (by cases h), kQ, e3, oQ, e4⟩, kQ, oQ, e3, e4, e1, e5⟩
    | k + 3, hq => simp [xty] at hq
set_option maxRecDepth 20000 in
theorem tz : ∀ w ∈ zNl ++ [.methodLinkNest RX1 28 yX11_within "WetPrints"], w ∈ lw_tbl := tin [90, 96, 141, 147, 218, 237, 240, 302, 317, 448] (by decide +kernel)
set_option maxRecDepth 20000 in
theorem tao : Cond.arrayOver (.object "WetPrints$State") ∈ lw_tbl := List.mem_of_getElem? (i := 217) (by decide +kernel)
set_option maxRecDepth 100000 in
set_option maxHeartbeats 4000000 in
theorem whole_start {p : Program} {e : Env} {s : State} {m : MethodId} {below : List Frame} {meth : Method} {c : Code} (l : Launch) (hflags : l.flags = flags0) {b L : Nat} {xs : Nat → Int32} (hL : L ≤ 2560) (C0 : lw_At p s m meth c b L xs) : W p l e room_1 s m #[Value.ref b] below meth c s.heap [] 0 0 (lw_Z below #[Value.ref b] s) (entryFrame m ([Value.ref b] : List Value).toArray 4) := by
  obtain ⟨hx, hb, hr, hml, hown, hts0, hX, hbl, hlocks, hgv⟩ := id C0
  have hts : ∀ w ∈ wsL_law, w.before #[Value.ref b] s = true := fun w h => hts0 w (wsT w h)
  have hao := hts0 _ tao
  obtain ⟨E, hK⟩ := lawE hts hao
  have hN : zN s := ⟨fun w hw => by
    obtain ⟨a, i, x, h, rfl⟩ := zNl_f w hw
    exact va_Nw.of rfl (hts0 _ (tz _ (List.mem_append_left _ hw))), va_AO.of hao⟩
  have hxN : xN s := va_Nw.of rfl (hts0 _ (tz _ (List.mem_append_right _ List.mem_cons_self)))
  have hA : ∀ q, s.heap.size ≤ q → lA s q := fun _ h => h
  have G0 : zG E p s m #[Value.ref b] meth c cL_law 4 RL := ⟨hx, hb, hml, hown, hts, hK, hN, hlocks, fun h => absurd rfl h⟩
  have hl := lv_entry ([.ref b]) (n := 4) (Nat.le_of_ble_eq_true rfl)
  rw [lg_entry_eq]
  generalize (lg_sl ([.ref b]) ++ List.replicate (4 - (lg_sl ([.ref b])).length) Slot.unset).toArray = ls at hl ⊢
  have hl : lv_has ls 4 [(0, .ref b)] := hl
  have hH : zH E (lA s) s.heap [] s.heap [] := ⟨fun k q h => by simp at h, ⟨fun i j p q h => by simp at h, fun k q h => by simp at h⟩, va_S.rf⟩
  refine z_new (ci := 9) (fs := [.null, .null, .null, .null, .null, .int 0, .int 0, .int 0]) (C := RX11) (T := TX11) (N := 8) G0 hH hA inlX11 tyX11 tyX11_ok (wm_1 _ (List.mem_of_getElem? (i := 0) rfl)) (wm_1 _ (List.mem_of_getElem? (i := 1) rfl)) mn_RX11 rfl fs_X11 (Nat.le_of_ble_eq_true rfl) (Nat.le_of_ble_eq_true rfl) dL_law_0 (fun q1 H hH => ?_)
  refine lv_dup hx hb dL_law_3 rfl ?_
  refine z_cI (W1 := sWp E q1) (As := []) (rest := [.ref q1]) (rm := ({ frames := 5, cells := 103, slots := 3965, locals := 200 } : Room)) (mc := 103) (ms := 3965) (n := 0) G0 hH hA (c_X11_init l E q1) rfl rfl (wm_1 _ (List.mem_of_getElem? (i := 6) rfl)) zi_X11_init mn_RX11 zc_X11_init rfl zd_X11_init ⟨(Nat.le_of_ble_eq_true rfl), (Nat.le_of_ble_eq_true rfl)⟩ rfl hl.1 rfl (Nat.le_of_ble_eq_true rfl) dL_law_4 ⟨(Nat.le_of_ble_eq_true rfl), (Nat.le_of_ble_eq_true rfl)⟩ (fun t1 H locs hH => ?_)
  refine lv_astore_n (lv' := [(1, .ref q1), (0, .ref b)]) hx hb dL_law_7 rfl hl (by decide) rfl (fun ls hl => ?_)
  refine z_new (ci := 10) (fs := [.null, .null, .null, .int 0, .null, .null, .null, .int 0, .null, .null, .int 0, .int 0, .null, .null, .null, .null, .null, .int 0, .int 0, .int 0, .int 0, .null, .null, .long 0]) (C := RX12) (T := TX12) (N := 24) G0 hH hA inlX12 tyX12 tyX12_ok (wm_1 _ (List.mem_of_getElem? (i := 3) rfl)) (wm_1 _ (List.mem_of_getElem? (i := 4) rfl)) mn_RX12 rfl fs_X12 (Nat.le_of_ble_eq_true rfl) (Nat.le_of_ble_eq_true rfl) dL_law_8 (fun q2 H hH => ?_)
  refine lv_dup hx hb dL_law_11 rfl ?_
  refine z_cI (W1 := sMo E q2) (As := []) (rest := [.ref q2]) (rm := ({ frames := 1, cells := 15, slots := 3680, locals := 40 } : Room)) (mc := 15) (ms := 3680) (n := 0) G0 hH hA (c_X12_init l E q2) rfl rfl (wm_6 _ (List.mem_of_getElem? (i := 14) rfl)) zi_X12_init mn_RX12 zc_X12_init rfl zd_X12_init ⟨(Nat.le_of_ble_eq_true rfl), (Nat.le_of_ble_eq_true rfl)⟩ rfl hl.1 rfl (Nat.le_of_ble_eq_true rfl) dL_law_12 ⟨(Nat.le_of_ble_eq_true rfl), (Nat.le_of_ble_eq_true rfl)⟩ (fun u2 H locs hH => ?_)
  refine lv_astore_n (lv' := [(2, .ref q2), (1, .ref q1), (0, .ref b)]) hx hb dL_law_15 rfl hl (by decide) rfl (fun ls hl => ?_)
  refine lv_iconst (v := 0) hx hb dL_law_16 (by decide) ?_
  refine lv_istore_n (lv' := [(3, .int 0), (2, .ref q2), (1, .ref q1), (0, .ref b)]) hx hb dL_law_17 rfl hl (by decide) rfl (fun ls hl => ?_)
  refine W.widen (k := 600000) (n := 7302249) (Nat.le_of_ble_eq_true rfl) (Nat.le_of_ble_eq_true rfl) ?_
  have hH2 := xw1 hH
  have hl2 : lv_has ls 4 (lvL (adO q1 t1 q2 u2) b (5 * 0)) := lv_sub hl [3, 2, 1, 0] rfl
  exact l_loop (xs := xs) (L := L) ⟨hx, hb, hml, hown, hts, hK, hxN, hlocks⟩ hr hX hbl hL (L + 1) 0 μ00 (by omega) (by omega) inv0 H locs ls hH2 hl2
