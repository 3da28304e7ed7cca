abbrev tX11_doText : List Cond := Cond.code yX11_doText cX11_doText 3 (some .int) :: wsL_law
theorem mi_X11_doText : Cond.instanceMethod yX11_doText ∈ wsL_law := (wm_34 _ (List.mem_of_getElem? (i := 3) rfl))
theorem ms_X11_doText : Cond.selects RX11 yX11_doText yX11_doText ∈ wsL_law := (wm_34 _ (List.mem_of_getElem? (i := 4) rfl))
theorem mc_X11_doText : Cond.code yX11_doText cX11_doText 3 (some .int) ∈ wsL_law := (wm_34 _ (List.mem_of_getElem? (i := 5) rfl))
theorem md_X11_doText : yX11_doText.cls ≠ "java/lang/invoke/MethodHandle" ∧ yX11_doText.cls ≠ "java/lang/invoke/VarHandle" ∧ (parseMethodDescriptor yX11_doText.desc).map (fun d => d.parameters.length) = some 0 := by decide +kernel
set_option maxRecDepth 100000 in
set_option maxHeartbeats 4000000 in
theorem wb_X11_doText_11 {E : xE} {ad : Nat → Nat} {p : Program} {l : Launch} {e : Env} {s : State} {m : MethodId} {args : Array Value} {below : List Frame} {meth : Method} {c : Code} {Q : State → Prop} (G : xG E p s m args meth c cX11_doText 3 RX11) (hA : ∀ a, s.heap.size ≤ a → xA ad s.heap.size a) (q2 : Nat) (hk_q2 : kd q2 = 9) (a3 : Int32) (a4 : Int32) (μ6 : xM) (K110 : Int32 → xM → Prop) (K111 : Int32 → xM → Prop) (K11b : Int32 → Int32 → xM → Prop) (hq : B_X11_doText_11 q2 a3 a4 μ6 K110 K111 K11b) {H : Heap} {locs : List Loc} {ls : Array Slot} (hH : xH E ad (xA ad s.heap.size) s.heap μ6 H locs) (hl : lv_has ls 3 [(0, .ref (ad q2)), (2, .int a3), (1, .int a4)]) (kK110 : ∀ (a7 : Int32) (μ8 : xM), K110 a7 μ8 → ∀ (H : Heap) (locs : List Loc) (ls : Array Slot), xH E ad (xA ad s.heap.size) s.heap μ8 H locs → lv_has ls 3 [(1, .int a7)] → W p l e (headSpec tX11_doText ({ frames := 7, cells := 0, slots := 0, locals := 280 } : Room)).room s m args below meth c H locs 0 0 Q (F0 m 71 ls [])) (kK111 : ∀ (a9 : Int32) (μ10 : xM), K111 a9 μ10 → ∀ (H : Heap) (locs : List Loc) (ls : Array Slot), xH E ad (xA ad s.heap.size) s.heap μ10 H locs → lv_has ls 3 [(1, .int a9)] → W p l e (headSpec tX11_doText ({ frames := 7, cells := 0, slots := 0, locals := 280 } : Room)).room s m args below meth c H locs 0 0 Q (F0 m 43 ls [])) (kK11b : ∀ (a11 : Int32) (a12 : Int32) (μ13 : xM), K11b a11 a12 μ13 → ∀ (H : Heap) (locs : List Loc) (ls : Array Slot), xH E ad (xA ad s.heap.size) s.heap μ13 H locs → lv_has ls 3 [(0, .ref (ad q2)), (2, .int a11), (1, .int a12)] → W p l e (headSpec tX11_doText ({ frames := 7, cells := 0, slots := 0, locals := 280 } : Room)).room s m args below meth c H locs 0 0 Q (F0 m 11 ls [])) : W p l e (headSpec tX11_doText ({ frames := 7, cells := 0, slots := 0, locals := 280 } : Room)).room s m args below meth c H locs 0 0 Q (F0 m 11 ls []) := by
  obtain ⟨hx, hb, hml, hown, hts, hKn, hN, hlk⟩ := id G
  unfold B_X11_doText_11 at hq
  refine lv_iload_n hx hb dX11_doText_11 rfl (lv_at hl 1 rfl) ?_
  refine lv_aload_n hx hb dX11_doText_12 rfl (lv_at hl 0 rfl) ?_
  refine x_get (j := 3) (C := RX11) (T := TX11) (N := 8) (v := .ref (ad (rt q2 3))) G hH hk_q2 (by decide) rfl inlX11 (by decide) (wm_2 _ (List.mem_of_getElem? (i := 4) rfl)) rfl dX11_doText_13 ?_
  refine x_get (j := 1) (C := RX10) (T := TX10) (N := 2) (v := .int (μ6.1 (rt q2 3) 1)) G hH (kt_9_3 _ hk_q2) (by decide) rfl inlX10 (by decide) (wm_31 _ (List.mem_of_getElem? (i := 6) rfl)) rfl dX11_doText_16 ?_
  refine lv_icmp_ge (tgt := 71) hx hb dX11_doText_19 (by decide) (fun c14 => ?_) (fun c14 => ?_)
  · have hq := hq.1 c14
    exact kK110 a4 μ6 hq _ _ _ hH (lv_sub hl [2] rfl)
  · have hq := hq.2 c14
    refine lv_aload_n hx hb dX11_doText_22 rfl (lv_at hl 0 rfl) ?_
    refine x_get (j := 4) (C := RX11) (T := TX11) (N := 8) (v := .ref (ad (rt q2 4))) G hH hk_q2 (by decide) rfl inlX11 (by decide) (wm_2 _ (List.mem_of_getElem? (i := 8) rfl)) rfl dX11_doText_23 ?_
    refine lv_aload_n hx hb dX11_doText_26 rfl (lv_at hl 0 rfl) ?_
    refine x_get (j := 3) (C := RX11) (T := TX11) (N := 8) (v := .ref (ad (rt q2 3))) G hH hk_q2 (by decide) rfl inlX11 (by decide) (wm_2 _ (List.mem_of_getElem? (i := 4) rfl)) rfl dX11_doText_27 ?_
    refine x_get (j := 0) (C := RX10) (T := TX10) (N := 2) (v := .ref (ad (rt (rt q2 3) 0))) G hH (kt_9_3 _ hk_q2) (by decide) rfl inlX10 (by decide) (wm_32 _ (List.mem_of_getElem? (i := 9) rfl)) rfl dX11_doText_30 ?_
    refine lv_iload_n hx hb dX11_doText_33 rfl (lv_at hl 1 rfl) ?_
    refine x_cSi (As := [.ref (ad (rt (rt q2 3) 0)), .int a3]) (rest := [.ref (ad (rt q2 4))]) G hH hA (c_X5_at l E ad μ6 (rt (rt q2 3) 0) a3 (kt_8_0 _ (kt_9_3 _ hk_q2)) _ hq) (wm_16 _ (List.mem_of_getElem? (i := 0) rfl)) mt_X5_at mn_RX5 mc_X5_at md_X5_at ⟨rfl, rfl, Nat.le_of_ble_eq_true rfl, Nat.le_of_ble_eq_true rfl⟩ rfl hl.1 rfl (Nat.le_of_ble_eq_true rfl) dX11_doText_34 ⟨Nat.zero_le _, Nat.zero_le _⟩ (fun r16 μ15 hq H locs hH => ?_)
    refine x_cVi (C := RX4) (T := TX4) (N := 10) (As := [.int r16]) (rest := []) G hH hA (c_X4_takes l E ad μ15 (rt q2 4) r16 (kt_9_4 _ hk_q2) _ hq) (wm_32 _ (List.mem_of_getElem? (i := 14) rfl)) mi_X4_takes ms_X4_takes mn_RX4 mc_X4_takes rfl md_X4_takes ⟨rfl, rfl, Nat.le_of_ble_eq_true rfl, Nat.le_of_ble_eq_true rfl⟩ (kt_9_4 _ hk_q2) (by decide) rfl rfl hl.1 rfl (Nat.le_of_ble_eq_true rfl) dX11_doText_37 ⟨Nat.zero_le _, Nat.zero_le _⟩ (fun r18 μ17 hq H locs hH => ?_)
    refine lv_if_ne (tgt := 45) hx hb dX11_doText_40 (by decide) (fun c19 => ?_) (fun c19 => ?_)
    · have hq := hq.1 c19
      refine lv_aload_n hx hb dX11_doText_45 rfl (lv_at hl 0 rfl) ?_
      refine x_get (j := 4) (C := RX11) (T := TX11) (N := 8) (v := .ref (ad (rt q2 4))) G hH hk_q2 (by decide) rfl inlX11 (by decide) (wm_2 _ (List.mem_of_getElem? (i := 8) rfl)) rfl dX11_doText_46 ?_
      refine x_get (j := 2) (C := RX4) (T := TX4) (N := 10) (v := .int (μ17.1 (rt q2 4) 2)) G hH (kt_9_4 _ hk_q2) (by decide) rfl inlX4 (by decide) (wm_34 _ (List.mem_of_getElem? (i := 6) rfl)) rfl dX11_doText_49 ?_
      refine lv_if_eq (tgt := 65) hx hb dX11_doText_52 (by decide) (fun c20 => ?_) (fun c20 => ?_)
      · have hq := hq.1 c20
        obtain ⟨v21, e_v21⟩ : ∃ y : Int32, y = (a3 + (1 : Int32)) := ⟨_, rfl⟩
        have hq := hq v21 e_v21
        refine lv_iinc (v := v21) (lv' := [(2, .int v21), (0, .ref (ad q2)), (1, .int a4)]) hx hb dX11_doText_65 hl (k := 1) rfl (by rw [e_v21]; rfl) (by decide) rfl (fun ls hl => ?_)
        refine lv_goto (tgt := 11) hx hb dX11_doText_68 (by decide) ?_
        exact kK11b v21 a4 μ17 hq _ _ _ hH (lv_sub hl [1, 0, 2] rfl)
      · have hq := hq.2 c20
        refine lv_aload_n hx hb dX11_doText_55 rfl (lv_at hl 0 rfl) ?_
        refine x_cVi (C := RX11) (T := TX11) (N := 8) (As := []) (rest := []) G hH hA (c_X11_doOrder l E ad μ17 q2 hk_q2 _ hq) (wm_34 _ (List.mem_of_getElem? (i := 7) rfl)) mi_X11_doOrder ms_X11_doOrder mn_RX11 mc_X11_doOrder rfl md_X11_doOrder ⟨rfl, rfl, Nat.le_of_ble_eq_true rfl, Nat.le_of_ble_eq_true rfl⟩ hk_q2 (by decide) rfl rfl hl.1 rfl (Nat.le_of_ble_eq_true rfl) dX11_doText_56 ⟨Nat.zero_le _, Nat.zero_le _⟩ (fun r23 μ22 hq H locs hH => ?_)
        refine lv_if_eq (tgt := 65) hx hb dX11_doText_59 (by decide) (fun c24 => ?_) (fun c24 => ?_)
        · have hq := hq.1 c24
          obtain ⟨v25, e_v25⟩ : ∃ y : Int32, y = (a3 + (1 : Int32)) := ⟨_, rfl⟩
          have hq := hq v25 e_v25
          refine lv_iinc (v := v25) (lv' := [(2, .int v25), (0, .ref (ad q2)), (1, .int a4)]) hx hb dX11_doText_65 hl (k := 1) rfl (by rw [e_v25]; rfl) (by decide) rfl (fun ls hl => ?_)
          refine lv_goto (tgt := 11) hx hb dX11_doText_68 (by decide) ?_
          exact kK11b v25 a4 μ22 hq _ _ _ hH (lv_sub hl [1, 0, 2] rfl)
        · have hq := hq.2 c24
          obtain ⟨v26, e_v26⟩ : ∃ y : Int32, y = (a4 + (1 : Int32)) := ⟨_, rfl⟩
          have hq := hq v26 e_v26
          refine lv_iinc (v := v26) (lv' := [(1, .int v26), (0, .ref (ad q2)), (2, .int a3)]) hx hb dX11_doText_62 hl (k := 2) rfl (by rw [e_v26]; rfl) (by decide) rfl (fun ls hl => ?_)
          obtain ⟨v27, e_v27⟩ : ∃ y : Int32, y = (a3 + (1 : Int32)) := ⟨_, rfl⟩
          have hq := hq v27 e_v27
          refine lv_iinc (v := v27) (lv' := [(2, .int v27), (1, .int v26), (0, .ref (ad q2))]) hx hb dX11_doText_65 hl (k := 2) rfl (by rw [e_v27]; rfl) (by decide) rfl (fun ls hl => ?_)
          refine lv_goto (tgt := 11) hx hb dX11_doText_68 (by decide) ?_
          exact kK11b v27 v26 μ22 hq _ _ _ hH (lv_sub hl [2, 0, 1] rfl)
    · have hq := hq.2 c19
      exact kK111 a4 μ17 hq _ _ _ hH (lv_sub hl [2] rfl)
set_option maxRecDepth 100000 in
set_option maxHeartbeats 4000000 in
theorem w_X11_doText_11 {E : xE} {ad : Nat → Nat} {p : Program} {l : Launch} {e : Env} {s : State} {m : MethodId} {args : Array Value} {below : List Frame} {meth : Method} {c : Code} {Q : State → Prop} (G : xG E p s m args meth c cX11_doText 3 RX11) (hA : ∀ a, s.heap.size ≤ a → xA ad s.heap.size a) (q2 : Nat) (hk_q2 : kd q2 = 9) : ∀ (n : Nat) (a3 : Int32) (a4 : Int32) (μ6 : xM) (K110 : Int32 → xM → Prop) (K111 : Int32 → xM → Prop) (hq : L_X11_doText_11 q2 n a3 a4 μ6 K110 K111) (H : Heap) (locs : List Loc) (ls : Array Slot) (hH : xH E ad (xA ad s.heap.size) s.heap μ6 H locs) (hl : lv_has ls 3 [(0, .ref (ad q2)), (2, .int a3), (1, .int a4)]) (kK110 : ∀ (a7 : Int32) (μ8 : xM), K110 a7 μ8 → ∀ (H : Heap) (locs : List Loc) (ls : Array Slot), xH E ad (xA ad s.heap.size) s.heap μ8 H locs → lv_has ls 3 [(1, .int a7)] → W p l e (headSpec tX11_doText ({ frames := 7, cells := 0, slots := 0, locals := 280 } : Room)).room s m args below meth c H locs 0 0 Q (F0 m 71 ls [])) (kK111 : ∀ (a9 : Int32) (μ10 : xM), K111 a9 μ10 → ∀ (H : Heap) (locs : List Loc) (ls : Array Slot), xH E ad (xA ad s.heap.size) s.heap μ10 H locs → lv_has ls 3 [(1, .int a9)] → W p l e (headSpec tX11_doText ({ frames := 7, cells := 0, slots := 0, locals := 280 } : Room)).room s m args below meth c H locs 0 0 Q (F0 m 43 ls [])) , W p l e (headSpec tX11_doText ({ frames := 7, cells := 0, slots := 0, locals := 280 } : Room)).room s m args below meth c H locs 0 0 Q (F0 m 11 ls [])
  | 0, _, _, _, _, _, hq, _, _, _, _, _, _, _ => hq.elim
  | n + 1, a3, a4, μ6, K110, K111, hq, H, locs, ls, hH, hl, kK110, kK111 => wb_X11_doText_11 G hA q2 hk_q2 a3 a4 μ6 K110 K111 _ hq hH hl kK110 kK111 (fun x0 x1 y hq H locs ls hH hl => w_X11_doText_11 G hA q2 hk_q2 n x0 x1 y K110 K111 hq H locs ls hH hl kK110 kK111)
set_option maxRecDepth 100000 in
set_option maxHeartbeats 4000000 in
theorem c_X11_doText (l : Launch) (E : xE) (ad : Nat → Nat) (μ : xM) (q0 : Nat) (hk_q0 : kd q0 = 9) (Qm : Int32 → xM → Prop) (hq : p_X11_doText q0 μ Qm) : xMi l yX11_doText tX11_doText ({ frames := 7, cells := 0, slots := 0, locals := 280 } : Room) E ad μ [.ref (ad q0)] Qm := by
  refine x_sti (cc := cX11_doText) (maxL := 3) (ret := (some .int)) (own := RX11) rfl (by decide) rfl (Nat.le_of_ble_eq_true rfl) ?_
  intro p e s m args below meth c ls G hr hA hH hl
  obtain ⟨hx, hb, hml, hown, hts, hKn, hN, hlk⟩ := id G
  have hl : lv_has ls 3 [(0, .ref (ad q0))] := hl
  have hH : xH E ad (xA ad s.heap.size) s.heap μ s.heap [] := hH
  unfold p_X11_doText at hq
  refine lv_iconst (v := (0 : Int32)) hx hb dX11_doText_0 (by decide) ?_
  refine lv_istore_n (lv' := [(1, .int (0 : Int32)), (0, .ref (ad q0))]) hx hb dX11_doText_1 rfl hl (by decide) rfl (fun ls hl => ?_)
  refine lv_aload_n hx hb dX11_doText_2 rfl (lv_at hl 1 rfl) ?_
  refine x_get (j := 4) (C := RX11) (T := TX11) (N := 8) (v := .ref (ad (rt q0 4))) G hH hk_q0 (by decide) rfl inlX11 (by decide) (wm_2 _ (List.mem_of_getElem? (i := 8) rfl)) rfl dX11_doText_3 ?_
  refine x_cVv (C := RX4) (T := TX4) (N := 10) (As := []) (rest := []) G hH hA (c_X4_restart l E ad μ (rt q0 4) (kt_9_4 _ hk_q0) _ hq) (wm_32 _ (List.mem_of_getElem? (i := 10) rfl)) mi_X4_restart ms_X4_restart mn_RX4 mc_X4_restart rfl md_X4_restart ⟨rfl, rfl, Nat.le_of_ble_eq_true rfl, Nat.le_of_ble_eq_true rfl⟩ (kt_9_4 _ hk_q0) (by decide) rfl rfl hl.1 rfl (Nat.le_of_ble_eq_true rfl) dX11_doText_6 ⟨Nat.zero_le _, Nat.zero_le _⟩ (fun μ1 hq H locs hH => ?_)
  refine lv_iconst (v := (0 : Int32)) hx hb dX11_doText_9 (by decide) ?_
  refine lv_istore_n (lv' := [(2, .int (0 : Int32)), (1, .int (0 : Int32)), (0, .ref (ad q0))]) hx hb dX11_doText_10 rfl hl (by decide) rfl (fun ls hl => ?_)
  obtain ⟨n5, hq⟩ := hq
  refine w_X11_doText_11 G hA q0 hk_q0 n5 (0 : Int32) (0 : Int32) μ1 _ _ hq _ _ _ hH (lv_sub hl [2, 0, 1] rfl) (fun a28 μ29 hq H locs ls hH hl => ?_) (fun a30 μ31 hq H locs ls hH hl => ?_)
  · refine lv_iload_n hx hb dX11_doText_71 rfl (lv_at hl 0 rfl) ?_
    exact x_iret G hr hH hq dX11_doText_72
  · refine lv_iload_n hx hb dX11_doText_43 rfl (lv_at hl 0 rfl) ?_
    exact x_iret G hr hH hq dX11_doText_44
abbrev tX4_mayEnd : List Cond := Cond.code yX4_mayEnd cX4_mayEnd 1 (some .boolean) :: wsL_law
theorem mi_X4_mayEnd : Cond.instanceMethod yX4_mayEnd ∈ wsL_law := (wm_33 _ (List.mem_of_getElem? (i := 23) rfl))
theorem ms_X4_mayEnd : Cond.selects RX4 yX4_mayEnd yX4_mayEnd ∈ wsL_law := (wm_34 _ (List.mem_of_getElem? (i := 0) rfl))
theorem mc_X4_mayEnd : Cond.code yX4_mayEnd cX4_mayEnd 1 (some .boolean) ∈ wsL_law := (wm_34 _ (List.mem_of_getElem? (i := 1) rfl))
theorem md_X4_mayEnd : yX4_mayEnd.cls ≠ "java/lang/invoke/MethodHandle" ∧ yX4_mayEnd.cls ≠ "java/lang/invoke/VarHandle" ∧ (parseMethodDescriptor yX4_mayEnd.desc).map (fun d => d.parameters.length) = some 0 := by decide +kernel
set_option maxRecDepth 100000 in
set_option maxHeartbeats 4000000 in
theorem c_X4_mayEnd (l : Launch) (E : xE) (ad : Nat → Nat) (μ : xM) (q0 : Nat) (hk_q0 : kd q0 = 3) (Qm : Int32 → xM → Prop) (hq : p_X4_mayEnd q0 μ Qm) : xMi l yX4_mayEnd tX4_mayEnd ({ frames := 1, cells := 0, slots := 0, locals := 40 } : Room) E ad μ [.ref (ad q0)] Qm := by
  refine x_sti (cc := cX4_mayEnd) (maxL := 1) (ret := (some .boolean)) (own := RX4) rfl (by decide) rfl (Nat.le_of_ble_eq_true rfl) ?_
  intro p e s m args below meth c ls G hr hA hH hl
  obtain ⟨hx, hb, hml, hown, hts, hKn, hN, hlk⟩ := id G
  have hl : lv_has ls 1 [(0, .ref (ad q0))] := hl
  have hH : xH E ad (xA ad s.heap.size) s.heap μ s.heap [] := hH
  unfold p_X4_mayEnd at hq
  refine lv_aload_n hx hb dX4_mayEnd_0 rfl (lv_at hl 0 rfl) ?_
  refine x_get (j := 4) (C := RX4) (T := TX4) (N := 10) (v := .int (μ.1 q0 4)) G hH hk_q0 (by decide) rfl inlX4 (by decide) (wm_6 _ (List.mem_of_getElem? (i := 8) rfl)) rfl dX4_mayEnd_1 ?_
  refine lv_if_eq (tgt := 18) hx hb dX4_mayEnd_4 (by decide) (fun c1 => ?_) (fun c1 => ?_)
  · have hq := hq.1 c1
    refine lv_iconst (v := (0 : Int32)) hx hb dX4_mayEnd_18 (by decide) ?_
    exact x_zret G hr hH xz_0 hq dX4_mayEnd_19
  · have hq := hq.2 c1
    refine lv_aload_n hx hb dX4_mayEnd_7 rfl (lv_at hl 0 rfl) ?_
    refine x_get (j := 3) (C := RX4) (T := TX4) (N := 10) (v := .int (μ.1 q0 3)) G hH hk_q0 (by decide) rfl inlX4 (by decide) (wm_6 _ (List.mem_of_getElem? (i := 7) rfl)) rfl dX4_mayEnd_8 ?_
    refine lv_if_ne (tgt := 18) hx hb dX4_mayEnd_11 (by decide) (fun c2 => ?_) (fun c2 => ?_)
    · have hq := hq.1 c2
      refine lv_iconst (v := (0 : Int32)) hx hb dX4_mayEnd_18 (by decide) ?_
      exact x_zret G hr hH xz_0 hq dX4_mayEnd_19
    · have hq := hq.2 c2
      refine lv_iconst (v := (1 : Int32)) hx hb dX4_mayEnd_14 (by decide) ?_
      refine lv_goto (tgt := 19) hx hb dX4_mayEnd_15 (by decide) ?_
      exact x_zret G hr hH xz_1 hq dX4_mayEnd_19
abbrev tX11_faultOfText : List Cond := Cond.code yX11_faultOfText cX11_faultOfText 2 (some .int) :: wsL_law
theorem mi_X11_faultOfText : Cond.instanceMethod yX11_faultOfText ∈ wsL_law := (wm_32 _ (List.mem_of_getElem? (i := 6) rfl))
theorem ms_X11_faultOfText : Cond.selects RX11 yX11_faultOfText yX11_faultOfText ∈ wsL_law := (wm_32 _ (List.mem_of_getElem? (i := 7) rfl))
theorem mc_X11_faultOfText : Cond.code yX11_faultOfText cX11_faultOfText 2 (some .int) ∈ wsL_law := (wm_32 _ (List.mem_of_getElem? (i := 8) rfl))
theorem md_X11_faultOfText : yX11_faultOfText.cls ≠ "java/lang/invoke/MethodHandle" ∧ yX11_faultOfText.cls ≠ "java/lang/invoke/VarHandle" ∧ (parseMethodDescriptor yX11_faultOfText.desc).map (fun d => d.parameters.length) = some 0 := by decide +kernel
set_option maxRecDepth 100000 in
set_option maxHeartbeats 4000000 in
theorem wb_X11_faultOfText_9 {E : xE} {ad : Nat → Nat} {p : Program} {l : Launch} {e : Env} {s : State} {m : MethodId} {args : Array Value} {below : List Frame} {meth : Method} {c : Code} {Q : State → Prop} (G : xG E p s m args meth c cX11_faultOfText 2 RX11) (hA : ∀ a, s.heap.size ≤ a → xA ad s.heap.size a) (q2 : Nat) (hk_q2 : kd q2 = 9) (a3 : Int32) (μ5 : xM) (K90 : xM → Prop) (K91 : Int32 → xM → Prop) (K9b : Int32 → xM → Prop) (hq : B_X11_faultOfText_9 q2 a3 μ5 K90 K91 K9b) {H : Heap} {locs : List Loc} {ls : Array Slot} (hH : xH E ad (xA ad s.heap.size) s.heap μ5 H locs) (hl : lv_has ls 2 [(0, .ref (ad q2)), (1, .int a3)]) (kK90 : ∀ (μ6 : xM), K90  μ6 → ∀ (H : Heap) (locs : List Loc) (ls : Array Slot), xH E ad (xA ad s.heap.size) s.heap μ6 H locs → lv_has ls 2 [(0, .ref (ad q2))] → W p l e (headSpec tX11_faultOfText ({ frames := 4, cells := 0, slots := 0, locals := 160 } : Room)).room s m args below meth c H locs 0 0 Q (F0 m 49 ls [])) (kK91 : ∀ (a7 : Int32) (μ8 : xM), K91 a7 μ8 → ∀ (H : Heap) (locs : List Loc) (ls : Array Slot), xH E ad (xA ad s.heap.size) s.heap μ8 H locs → lv_has ls 2 [(1, .int a7)] → W p l e (headSpec tX11_faultOfText ({ frames := 4, cells := 0, slots := 0, locals := 160 } : Room)).room s m args below meth c H locs 0 0 Q (F0 m 41 ls [])) (kK9b : ∀ (a9 : Int32) (μ10 : xM), K9b a9 μ10 → ∀ (H : Heap) (locs : List Loc) (ls : Array Slot), xH E ad (xA ad s.heap.size) s.heap μ10 H locs → lv_has ls 2 [(0, .ref (ad q2)), (1, .int a9)] → W p l e (headSpec tX11_faultOfText ({ frames := 4, cells := 0, slots := 0, locals := 160 } : Room)).room s m args below meth c H locs 0 0 Q (F0 m 9 ls [])) : W p l e (headSpec tX11_faultOfText ({ frames := 4, cells := 0, slots := 0, locals := 160 } : Room)).room s m args below meth c H locs 0 0 Q (F0 m 9 ls []) := by
  obtain ⟨hx, hb, hml, hown, hts, hKn, hN, hlk⟩ := id G
  unfold B_X11_faultOfText_9 at hq
  refine lv_iload_n hx hb dX11_faultOfText_9 rfl (lv_at hl 1 rfl) ?_
  refine lv_aload_n hx hb dX11_faultOfText_10 rfl (lv_at hl 0 rfl) ?_
  refine x_get (j := 3) (C := RX11) (T := TX11) (N := 8) (v := .ref (ad (rt q2 3))) G hH hk_q2 (by decide) rfl inlX11 (by decide) (wm_2 _ (List.mem_of_getElem? (i := 4) rfl)) rfl dX11_faultOfText_11 ?_
  refine x_get (j := 1) (C := RX10) (T := TX10) (N := 2) (v := .int (μ5.1 (rt q2 3) 1)) G hH (kt_9_3 _ hk_q2) (by decide) rfl inlX10 (by decide) (wm_31 _ (List.mem_of_getElem? (i := 6) rfl)) rfl dX11_faultOfText_14 ?_
  refine lv_icmp_ge (tgt := 49) hx hb dX11_faultOfText_17 (by decide) (fun c11 => ?_) (fun c11 => ?_)
  · have hq := hq.1 c11
    exact kK90  μ5 hq _ _ _ hH (lv_sub hl [0] rfl)
  · have hq := hq.2 c11
    refine lv_aload_n hx hb dX11_faultOfText_20 rfl (lv_at hl 0 rfl) ?_
    refine x_get (j := 4) (C := RX11) (T := TX11) (N := 8) (v := .ref (ad (rt q2 4))) G hH hk_q2 (by decide) rfl inlX11 (by decide) (wm_2 _ (List.mem_of_getElem? (i := 8) rfl)) rfl dX11_faultOfText_21 ?_
    refine lv_aload_n hx hb dX11_faultOfText_24 rfl (lv_at hl 0 rfl) ?_
    refine x_get (j := 3) (C := RX11) (T := TX11) (N := 8) (v := .ref (ad (rt q2 3))) G hH hk_q2 (by decide) rfl inlX11 (by decide) (wm_2 _ (List.mem_of_getElem? (i := 4) rfl)) rfl dX11_faultOfText_25 ?_
    refine x_get (j := 0) (C := RX10) (T := TX10) (N := 2) (v := .ref (ad (rt (rt q2 3) 0))) G hH (kt_9_3 _ hk_q2) (by decide) rfl inlX10 (by decide) (wm_32 _ (List.mem_of_getElem? (i := 9) rfl)) rfl dX11_faultOfText_28 ?_
    refine lv_iload_n hx hb dX11_faultOfText_31 rfl (lv_at hl 1 rfl) ?_
    refine x_cSi (As := [.ref (ad (rt (rt q2 3) 0)), .int a3]) (rest := [.ref (ad (rt q2 4))]) G hH hA (c_X5_at l E ad μ5 (rt (rt q2 3) 0) a3 (kt_8_0 _ (kt_9_3 _ hk_q2)) _ hq) (wm_16 _ (List.mem_of_getElem? (i := 0) rfl)) mt_X5_at mn_RX5 mc_X5_at md_X5_at ⟨rfl, rfl, Nat.le_of_ble_eq_true rfl, Nat.le_of_ble_eq_true rfl⟩ rfl hl.1 rfl (Nat.le_of_ble_eq_true rfl) dX11_faultOfText_32 ⟨Nat.zero_le _, Nat.zero_le _⟩ (fun r13 μ12 hq H locs hH => ?_)
    refine x_cVi (C := RX4) (T := TX4) (N := 10) (As := [.int r13]) (rest := []) G hH hA (c_X4_takes l E ad μ12 (rt q2 4) r13 (kt_9_4 _ hk_q2) _ hq) (wm_32 _ (List.mem_of_getElem? (i := 14) rfl)) mi_X4_takes ms_X4_takes mn_RX4 mc_X4_takes rfl md_X4_takes ⟨rfl, rfl, Nat.le_of_ble_eq_true rfl, Nat.le_of_ble_eq_true rfl⟩ (kt_9_4 _ hk_q2) (by decide) rfl rfl hl.1 rfl (Nat.le_of_ble_eq_true rfl) dX11_faultOfText_35 ⟨Nat.zero_le _, Nat.zero_le _⟩ (fun r15 μ14 hq H locs hH => ?_)
    refine lv_if_ne (tgt := 43) hx hb dX11_faultOfText_38 (by decide) (fun c16 => ?_) (fun c16 => ?_)
    · have hq := hq.1 c16
      obtain ⟨v17, e_v17⟩ : ∃ y : Int32, y = (a3 + (1 : Int32)) := ⟨_, rfl⟩
      have hq := hq v17 e_v17
      refine lv_iinc (v := v17) (lv' := [(1, .int v17), (0, .ref (ad q2))]) hx hb dX11_faultOfText_43 hl (k := 1) rfl (by rw [e_v17]; rfl) (by decide) rfl (fun ls hl => ?_)
      refine lv_goto (tgt := 9) hx hb dX11_faultOfText_46 (by decide) ?_
      exact kK9b v17 μ14 hq _ _ _ hH (lv_sub hl [1, 0] rfl)
    · have hq := hq.2 c16
      exact kK91 a3 μ14 hq _ _ _ hH (lv_sub hl [1] rfl)
set_option maxRecDepth 100000 in
set_option maxHeartbeats 4000000 in
theorem w_X11_faultOfText_9 {E : xE} {ad : Nat → Nat} {p : Program} {l : Launch} {e : Env} {s : State} {m : MethodId} {args : Array Value} {below : List Frame} {meth : Method} {c : Code} {Q : State → Prop} (G : xG E p s m args meth c cX11_faultOfText 2 RX11) (hA : ∀ a, s.heap.size ≤ a → xA ad s.heap.size a) (q2 : Nat) (hk_q2 : kd q2 = 9) : ∀ (n : Nat) (a3 : Int32) (μ5 : xM) (K90 : xM → Prop) (K91 : Int32 → xM → Prop) (hq : L_X11_faultOfText_9 q2 n a3 μ5 K90 K91) (H : Heap) (locs : List Loc) (ls : Array Slot) (hH : xH E ad (xA ad s.heap.size) s.heap μ5 H locs) (hl : lv_has ls 2 [(0, .ref (ad q2)), (1, .int a3)]) (kK90 : ∀ (μ6 : xM), K90  μ6 → ∀ (H : Heap) (locs : List Loc) (ls : Array Slot), xH E ad (xA ad s.heap.size) s.heap μ6 H locs → lv_has ls 2 [(0, .ref (ad q2))] → W p l e (headSpec tX11_faultOfText ({ frames := 4, cells := 0, slots := 0, locals := 160 } : Room)).room s m args below meth c H locs 0 0 Q (F0 m 49 ls [])) (kK91 : ∀ (a7 : Int32) (μ8 : xM), K91 a7 μ8 → ∀ (H : Heap) (locs : List Loc) (ls : Array Slot), xH E ad (xA ad s.heap.size) s.heap μ8 H locs → lv_has ls 2 [(1, .int a7)] → W p l e (headSpec tX11_faultOfText ({ frames := 4, cells := 0, slots := 0, locals := 160 } : Room)).room s m args below meth c H locs 0 0 Q (F0 m 41 ls [])) , W p l e (headSpec tX11_faultOfText ({ frames := 4, cells := 0, slots := 0, locals := 160 } : Room)).room s m args below meth c H locs 0 0 Q (F0 m 9 ls [])
  | 0, _, _, _, _, hq, _, _, _, _, _, _, _ => hq.elim
  | n + 1, a3, μ5, K90, K91, hq, H, locs, ls, hH, hl, kK90, kK91 => wb_X11_faultOfText_9 G hA q2 hk_q2 a3 μ5 K90 K91 _ hq hH hl kK90 kK91 (fun x0 y hq H locs ls hH hl => w_X11_faultOfText_9 G hA q2 hk_q2 n x0 y K90 K91 hq H locs ls hH hl kK90 kK91)
set_option maxRecDepth 100000 in
set_option maxHeartbeats 4000000 in
theorem c_X11_faultOfText (l : Launch) (E : xE) (ad : Nat → Nat) (μ : xM) (q0 : Nat) (hk_q0 : kd q0 = 9) (Qm : Int32 → xM → Prop) (hq : p_X11_faultOfText q0 μ Qm) : xMi l yX11_faultOfText tX11_faultOfText ({ frames := 4, cells := 0, slots := 0, locals := 160 } : Room) E ad μ [.ref (ad q0)] Qm := by
  refine x_sti (cc := cX11_faultOfText) (maxL := 2) (ret := (some .int)) (own := RX11) rfl (by decide) rfl (Nat.le_of_ble_eq_true rfl) ?_
  intro p e s m args below meth c ls G hr hA hH hl
  obtain ⟨hx, hb, hml, hown, hts, hKn, hN, hlk⟩ := id G
  have hl : lv_has ls 2 [(0, .ref (ad q0))] := hl
  have hH : xH E ad (xA ad s.heap.size) s.heap μ s.heap [] := hH
  unfold p_X11_faultOfText at hq
  refine lv_aload_n hx hb dX11_faultOfText_0 rfl (lv_at hl 0 rfl) ?_
  refine x_get (j := 4) (C := RX11) (T := TX11) (N := 8) (v := .ref (ad (rt q0 4))) G hH hk_q0 (by decide) rfl inlX11 (by decide) (wm_2 _ (List.mem_of_getElem? (i := 8) rfl)) rfl dX11_faultOfText_1 ?_
  refine x_cVv (C := RX4) (T := TX4) (N := 10) (As := []) (rest := []) G hH hA (c_X4_restart l E ad μ (rt q0 4) (kt_9_4 _ hk_q0) _ hq) (wm_32 _ (List.mem_of_getElem? (i := 10) rfl)) mi_X4_restart ms_X4_restart mn_RX4 mc_X4_restart rfl md_X4_restart ⟨rfl, rfl, Nat.le_of_ble_eq_true rfl, Nat.le_of_ble_eq_true rfl⟩ (kt_9_4 _ hk_q0) (by decide) rfl rfl hl.1 rfl (Nat.le_of_ble_eq_true rfl) dX11_faultOfText_4 ⟨Nat.zero_le _, Nat.zero_le _⟩ (fun μ1 hq H locs hH => ?_)
  refine lv_iconst (v := (0 : Int32)) hx hb dX11_faultOfText_7 (by decide) ?_
  refine lv_istore_n (lv' := [(1, .int (0 : Int32)), (0, .ref (ad q0))]) hx hb dX11_faultOfText_8 rfl hl (by decide) rfl (fun ls hl => ?_)
  obtain ⟨n4, hq⟩ := hq
  refine w_X11_faultOfText_9 G hA q0 hk_q0 n4 (0 : Int32) μ1 _ _ hq _ _ _ hH (lv_sub hl [1, 0] rfl) (fun  μ18 hq H locs ls hH hl => ?_) (fun a22 μ23 hq H locs ls hH hl => ?_)
  · refine lv_aload_n hx hb dX11_faultOfText_49 rfl (lv_at hl 0 rfl) ?_
    refine x_get (j := 4) (C := RX11) (T := TX11) (N := 8) (v := .ref (ad (rt q0 4))) G hH hk_q0 (by decide) rfl inlX11 (by decide) (wm_2 _ (List.mem_of_getElem? (i := 8) rfl)) rfl dX11_faultOfText_50 ?_
    refine x_cVi (C := RX4) (T := TX4) (N := 10) (As := []) (rest := []) G hH hA (c_X4_mayEnd l E ad μ18 (rt q0 4) (kt_9_4 _ hk_q0) _ hq) (wm_33 _ (List.mem_of_getElem? (i := 22) rfl)) mi_X4_mayEnd ms_X4_mayEnd mn_RX4 mc_X4_mayEnd rfl md_X4_mayEnd ⟨rfl, rfl, Nat.le_of_ble_eq_true rfl, Nat.le_of_ble_eq_true rfl⟩ (kt_9_4 _ hk_q0) (by decide) rfl rfl hl.1 rfl (Nat.le_of_ble_eq_true rfl) dX11_faultOfText_53 ⟨Nat.zero_le _, Nat.zero_le _⟩ (fun r20 μ19 hq H locs hH => ?_)
    refine lv_if_eq (tgt := 63) hx hb dX11_faultOfText_56 (by decide) (fun c21 => ?_) (fun c21 => ?_)
    · have hq := hq.1 c21
      refine lv_aload_n hx hb dX11_faultOfText_63 rfl (lv_at hl 0 rfl) ?_
      refine x_get (j := 3) (C := RX11) (T := TX11) (N := 8) (v := .ref (ad (rt q0 3))) G hH hk_q0 (by decide) rfl inlX11 (by decide) (wm_2 _ (List.mem_of_getElem? (i := 4) rfl)) rfl dX11_faultOfText_64 ?_
      refine x_get (j := 1) (C := RX10) (T := TX10) (N := 2) (v := .int (μ19.1 (rt q0 3) 1)) G hH (kt_9_3 _ hk_q0) (by decide) rfl inlX10 (by decide) (wm_31 _ (List.mem_of_getElem? (i := 6) rfl)) rfl dX11_faultOfText_67 ?_
      exact x_iret G hr hH hq dX11_faultOfText_70
    · have hq := hq.2 c21
      refine lv_iconst (v := (-1 : Int32)) hx hb dX11_faultOfText_59 (by decide) ?_
      refine lv_goto (tgt := 70) hx hb dX11_faultOfText_60 (by decide) ?_
      exact x_iret G hr hH hq dX11_faultOfText_70
  · refine lv_iload_n hx hb dX11_faultOfText_41 rfl (lv_at hl 0 rfl) ?_
    exact x_iret G hr hH hq dX11_faultOfText_42
abbrev tX1_alike : List Cond := Cond.code yX1_alike cX1_alike 5 (some .int) :: wsL_law
theorem mt_X1_alike : Cond.static yX1_alike ∈ wsL_law := (wm_16 _ (List.mem_of_getElem? (i := 22) rfl))
theorem mc_X1_alike : Cond.code yX1_alike cX1_alike 5 (some .int) ∈ wsL_law := (wm_16 _ (List.mem_of_getElem? (i := 23) rfl))
theorem md_X1_alike : yX1_alike.cls ≠ "java/lang/invoke/MethodHandle" ∧ yX1_alike.cls ≠ "java/lang/invoke/VarHandle" ∧ (parseMethodDescriptor yX1_alike.desc).map (fun d => d.parameters.length) = some 2 := by decide +kernel
set_option maxRecDepth 100000 in
set_option maxHeartbeats 4000000 in
theorem wb_X1_alike_5 {E : xE} {ad : Nat → Nat} {p : Program} {l : Launch} {e : Env} {s : State} {m : MethodId} {args : Array Value} {below : List Frame} {meth : Method} {c : Code} {Q : State → Prop} (G : xG E p s m args meth c cX1_alike 5 RX1) (hA : ∀ a, s.heap.size ≤ a → xA ad s.heap.size a) (b1 : Int64) (a2 : Int32) (a3 : Int32) (a4 : Int32) (μ6 : xM) (K50 : Int32 → xM → Prop) (K5b : Int32 → Int32 → xM → Prop) (hq : B_X1_alike_5 b1 a2 a3 a4 μ6 K50 K5b) {H : Heap} {locs : List Loc} {ls : Array Slot} (hH : xH E ad (xA ad s.heap.size) s.heap μ6 H locs) (hl : lv_has ls 5 [(0, .long b1), (2, .int a2), (4, .int a3), (3, .int a4)]) (kK50 : ∀ (a7 : Int32) (μ8 : xM), K50 a7 μ8 → ∀ (H : Heap) (locs : List Loc) (ls : Array Slot), xH E ad (xA ad s.heap.size) s.heap μ8 H locs → lv_has ls 5 [(3, .int a7)] → W p l e (headSpec tX1_alike ({ frames := 2, cells := 0, slots := 0, locals := 80 } : Room)).room s m args below meth c H locs 0 0 Q (F0 m 35 ls [])) (kK5b : ∀ (a9 : Int32) (a10 : Int32) (μ11 : xM), K5b a9 a10 μ11 → ∀ (H : Heap) (locs : List Loc) (ls : Array Slot), xH E ad (xA ad s.heap.size) s.heap μ11 H locs → lv_has ls 5 [(0, .long b1), (2, .int a2), (4, .int a9), (3, .int a10)] → W p l e (headSpec tX1_alike ({ frames := 2, cells := 0, slots := 0, locals := 80 } : Room)).room s m args below meth c H locs 0 0 Q (F0 m 5 ls [])) : W p l e (headSpec tX1_alike ({ frames := 2, cells := 0, slots := 0, locals := 80 } : Room)).room s m args below meth c H locs 0 0 Q (F0 m 5 ls []) := by
  obtain ⟨hx, hb, hml, hown, hts, hKn, hN, hlk⟩ := id G
  unfold B_X1_alike_5 at hq
  refine lv_iload hx hb dX1_alike_5 (lv_at hl 2 rfl) ?_
  refine lv_bipush (v := (16 : Int32)) hx hb dX1_alike_7 (by decide) ?_
  refine lv_icmp_ge (tgt := 35) hx hb dX1_alike_9 (by decide) (fun c12 => ?_) (fun c12 => ?_)
  · have hq := hq.1 c12
    exact kK50 a4 μ6 hq _ _ _ hH (lv_sub hl [3] rfl)
  · have hq := hq.2 c12
    refine lv_lload_n hx hb dX1_alike_12 rfl (lv_at hl 0 rfl) ?_
    refine lv_iload hx hb dX1_alike_13 (lv_at hl 2 rfl) ?_
    refine x_cSi (As := [.long b1, .int a3]) (rest := []) G hH hA (c_X1_nibble l E ad μ6 b1 a3  _ hq) (wm_17 _ (List.mem_of_getElem? (i := 0) rfl)) mt_X1_nibble mn_RX1 mc_X1_nibble md_X1_nibble ⟨rfl, rfl, Nat.le_of_ble_eq_true rfl, Nat.le_of_ble_eq_true rfl⟩ rfl hl.1 rfl (Nat.le_of_ble_eq_true rfl) dX1_alike_15 ⟨Nat.zero_le _, Nat.zero_le _⟩ (fun r14 μ13 hq H locs hH => ?_)
    refine lv_iload_n hx hb dX1_alike_18 rfl (lv_at hl 1 rfl) ?_
    refine lv_icmp_ne (tgt := 29) hx hb dX1_alike_19 (by decide) (fun c15 => ?_) (fun c15 => ?_)
    · have hq := hq.1 c15
      obtain ⟨v16, e_v16⟩ : ∃ y : Int32, y = (a3 + (1 : Int32)) := ⟨_, rfl⟩
      have hq := hq v16 e_v16
      refine lv_iinc (v := v16) (lv' := [(4, .int v16), (0, .long b1), (2, .int a2), (3, .int a4)]) hx hb dX1_alike_29 hl (k := 2) rfl (by rw [e_v16]; rfl) (by decide) rfl (fun ls hl => ?_)
      refine lv_goto (tgt := 5) hx hb dX1_alike_32 (by decide) ?_
      exact kK5b v16 a4 μ13 hq _ _ _ hH (lv_sub hl [1, 2, 0, 3] rfl)
    · have hq := hq.2 c15
      refine lv_iload_n hx hb dX1_alike_22 rfl (lv_at hl 3 rfl) ?_
      refine lv_iconst (v := (1 : Int32)) hx hb dX1_alike_23 (by decide) ?_
      refine lv_iload hx hb dX1_alike_24 (lv_at hl 2 rfl) ?_
      refine lv_ishl hx hb dX1_alike_26 ?_
      refine lv_ior hx hb dX1_alike_27 ?_
      refine lv_topi (fun v17 e_v17 => ?_)
      have hq := hq v17 e_v17
      refine lv_istore_n (lv' := [(3, .int v17), (0, .long b1), (2, .int a2), (4, .int a3)]) hx hb dX1_alike_28 rfl hl (by decide) rfl (fun ls hl => ?_)
      obtain ⟨v18, e_v18⟩ : ∃ y : Int32, y = (a3 + (1 : Int32)) := ⟨_, rfl⟩
      have hq := hq v18 e_v18
      refine lv_iinc (v := v18) (lv' := [(4, .int v18), (3, .int v17), (0, .long b1), (2, .int a2)]) hx hb dX1_alike_29 hl (k := 3) rfl (by rw [e_v18]; rfl) (by decide) rfl (fun ls hl => ?_)
      refine lv_goto (tgt := 5) hx hb dX1_alike_32 (by decide) ?_
      exact kK5b v18 v17 μ13 hq _ _ _ hH (lv_sub hl [2, 3, 0, 1] rfl)
set_option maxRecDepth 100000 in
set_option maxHeartbeats 4000000 in
theorem w_X1_alike_5 {E : xE} {ad : Nat → Nat} {p : Program} {l : Launch} {e : Env} {s : State} {m : MethodId} {args : Array Value} {below : List Frame} {meth : Method} {c : Code} {Q : State → Prop} (G : xG E p s m args meth c cX1_alike 5 RX1) (hA : ∀ a, s.heap.size ≤ a → xA ad s.heap.size a) (b1 : Int64) (a2 : Int32) : ∀ (n : Nat) (a3 : Int32) (a4 : Int32) (μ6 : xM) (K50 : Int32 → xM → Prop) (hq : L_X1_alike_5 b1 a2 n a3 a4 μ6 K50) (H : Heap) (locs : List Loc) (ls : Array Slot) (hH : xH E ad (xA ad s.heap.size) s.heap μ6 H locs) (hl : lv_has ls 5 [(0, .long b1), (2, .int a2), (4, .int a3), (3, .int a4)]) (kK50 : ∀ (a7 : Int32) (μ8 : xM), K50 a7 μ8 → ∀ (H : Heap) (locs : List Loc) (ls : Array Slot), xH E ad (xA ad s.heap.size) s.heap μ8 H locs → lv_has ls 5 [(3, .int a7)] → W p l e (headSpec tX1_alike ({ frames := 2, cells := 0, slots := 0, locals := 80 } : Room)).room s m args below meth c H locs 0 0 Q (F0 m 35 ls [])) , W p l e (headSpec tX1_alike ({ frames := 2, cells := 0, slots := 0, locals := 80 } : Room)).room s m args below meth c H locs 0 0 Q (F0 m 5 ls [])
  | 0, _, _, _, _, hq, _, _, _, _, _, _ => hq.elim
  | n + 1, a3, a4, μ6, K50, hq, H, locs, ls, hH, hl, kK50 => wb_X1_alike_5 G hA b1 a2  a3 a4 μ6 K50 _ hq hH hl kK50 (fun x0 x1 y hq H locs ls hH hl => w_X1_alike_5 G hA b1 a2  n x0 x1 y K50 hq H locs ls hH hl kK50)
set_option maxRecDepth 100000 in
set_option maxHeartbeats 4000000 in
theorem c_X1_alike (l : Launch) (E : xE) (ad : Nat → Nat) (μ : xM) (p1 : Int64) (p2 : Int32) (Qm : Int32 → xM → Prop) (hq : p_X1_alike p1 p2 μ Qm) : xMi l yX1_alike tX1_alike ({ frames := 2, cells := 0, slots := 0, locals := 80 } : Room) E ad μ [.long p1, .int p2] Qm := by
  refine x_sti (cc := cX1_alike) (maxL := 5) (ret := (some .int)) (own := RX1) rfl (by decide) rfl (Nat.le_of_ble_eq_true rfl) ?_
  intro p e s m args below meth c ls G hr hA hH hl
  obtain ⟨hx, hb, hml, hown, hts, hKn, hN, hlk⟩ := id G
  have hl : lv_has ls 5 [(0, .long p1), (2, .int p2)] := hl
  have hH : xH E ad (xA ad s.heap.size) s.heap μ s.heap [] := hH
  unfold p_X1_alike at hq
  refine lv_iconst (v := (0 : Int32)) hx hb dX1_alike_0 (by decide) ?_
  refine lv_istore_n (lv' := [(3, .int (0 : Int32)), (0, .long p1), (2, .int p2)]) hx hb dX1_alike_1 rfl hl (by decide) rfl (fun ls hl => ?_)
  refine lv_iconst (v := (0 : Int32)) hx hb dX1_alike_2 (by decide) ?_
  refine lv_istore (lv' := [(4, .int (0 : Int32)), (3, .int (0 : Int32)), (0, .long p1), (2, .int p2)]) hx hb dX1_alike_3 hl (by decide) rfl (fun ls hl => ?_)
  obtain ⟨n5, hq⟩ := hq
  refine w_X1_alike_5 G hA p1 p2  n5 (0 : Int32) (0 : Int32) μ _ hq _ _ _ hH (lv_sub hl [2, 3, 0, 1] rfl) (fun a19 μ20 hq H locs ls hH hl => ?_)
  refine lv_iload_n hx hb dX1_alike_35 rfl (lv_at hl 0 rfl) ?_
  exact x_iret G hr hH hq dX1_alike_36
abbrev tX11_gainOf : List Cond := Cond.code yX11_gainOf cX11_gainOf 2 (some .int) :: wsL_law
theorem mt_X11_gainOf : Cond.static yX11_gainOf ∈ wsL_law := (wm_17 _ (List.mem_of_getElem? (i := 3) rfl))
theorem mc_X11_gainOf : Cond.code yX11_gainOf cX11_gainOf 2 (some .int) ∈ wsL_law := (wm_17 _ (List.mem_of_getElem? (i := 4) rfl))
theorem md_X11_gainOf : yX11_gainOf.cls ≠ "java/lang/invoke/MethodHandle" ∧ yX11_gainOf.cls ≠ "java/lang/invoke/VarHandle" ∧ (parseMethodDescriptor yX11_gainOf.desc).map (fun d => d.parameters.length) = some 2 := by decide +kernel
set_option maxRecDepth 100000 in
set_option maxHeartbeats 4000000 in
theorem c_X11_gainOf (l : Launch) (E : xE) (ad : Nat → Nat) (μ : xM) (p1 : Int32) (p2 : Int32) (Qm : Int32 → xM → Prop) (hq : p_X11_gainOf p1 p2 μ Qm) : xMi l yX11_gainOf tX11_gainOf ({ frames := 2, cells := 0, slots := 0, locals := 80 } : Room) E ad μ [.int p1, .int p2] Qm := by
  refine x_sti (cc := cX11_gainOf) (maxL := 2) (ret := (some .int)) (own := RX11) rfl (by decide) rfl (Nat.le_of_ble_eq_true rfl) ?_
  intro p e s m args below meth c ls G hr hA hH hl
  obtain ⟨hx, hb, hml, hown, hts, hKn, hN, hlk⟩ := id G
  have hl : lv_has ls 2 [(0, .int p1), (1, .int p2)] := hl
  have hH : xH E ad (xA ad s.heap.size) s.heap μ s.heap [] := hH
  unfold p_X11_gainOf at hq
  refine lv_iload_n hx hb dX11_gainOf_0 rfl (lv_at hl 0 rfl) ?_
  refine lv_iload_n hx hb dX11_gainOf_1 rfl (lv_at hl 1 rfl) ?_
  refine lv_iand hx hb dX11_gainOf_2 ?_
  refine x_cSi (As := [.int (p1 &&& p2)]) (rest := []) G hH hA (c_J6_bitCount_0f7a4 l E ad μ (p1 &&& p2)  _ hq) (wm_12 _ (List.mem_of_getElem? (i := 7) rfl)) mt_J6_bitCount_0f7a4 mn_RJ6 mc_J6_bitCount_0f7a4 md_J6_bitCount_0f7a4 ⟨rfl, rfl, Nat.le_of_ble_eq_true rfl, Nat.le_of_ble_eq_true rfl⟩ rfl hl.1 rfl (Nat.le_of_ble_eq_true rfl) dX11_gainOf_3 ⟨Nat.zero_le _, Nat.zero_le _⟩ (fun r2 μ1 hq H locs hH => ?_)
  refine lv_iload_n hx hb dX11_gainOf_6 rfl (lv_at hl 0 rfl) ?_
  refine lv_iload_n hx hb dX11_gainOf_7 rfl (lv_at hl 1 rfl) ?_
  refine lv_iconst (v := (-1 : Int32)) hx hb dX11_gainOf_8 (by decide) ?_
  refine lv_ixor hx hb dX11_gainOf_9 ?_
  refine lv_iand hx hb dX11_gainOf_10 ?_
  refine x_cSi (As := [.int (p1 &&& (p2 ^^^ (-1 : Int32)))]) (rest := [.int r2]) G hH hA (c_J6_bitCount_0f7a4 l E ad μ1 (p1 &&& (p2 ^^^ (-1 : Int32)))  _ hq) (wm_12 _ (List.mem_of_getElem? (i := 7) rfl)) mt_J6_bitCount_0f7a4 mn_RJ6 mc_J6_bitCount_0f7a4 md_J6_bitCount_0f7a4 ⟨rfl, rfl, Nat.le_of_ble_eq_true rfl, Nat.le_of_ble_eq_true rfl⟩ rfl hl.1 rfl (Nat.le_of_ble_eq_true rfl) dX11_gainOf_11 ⟨Nat.zero_le _, Nat.zero_le _⟩ (fun r4 μ3 hq H locs hH => ?_)
  refine lv_isub hx hb dX11_gainOf_14 ?_
  exact x_iret G hr hH hq dX11_gainOf_15
abbrev tX11_fit : List Cond := Cond.code yX11_fit cX11_fit 11 (some .int) :: wsL_law
theorem mi_X11_fit : Cond.instanceMethod yX11_fit ∈ wsL_law := (wm_16 _ (List.mem_of_getElem? (i := 18) rfl))
theorem ms_X11_fit : Cond.selects RX11 yX11_fit yX11_fit ∈ wsL_law := (wm_16 _ (List.mem_of_getElem? (i := 19) rfl))
theorem mc_X11_fit : Cond.code yX11_fit cX11_fit 11 (some .int) ∈ wsL_law := (wm_16 _ (List.mem_of_getElem? (i := 20) rfl))
theorem md_X11_fit : yX11_fit.cls ≠ "java/lang/invoke/MethodHandle" ∧ yX11_fit.cls ≠ "java/lang/invoke/VarHandle" ∧ (parseMethodDescriptor yX11_fit.desc).map (fun d => d.parameters.length) = some 2 := by decide +kernel
set_option maxRecDepth 100000 in
set_option maxHeartbeats 4000000 in
theorem wb_X11_fit_97 {E : xE} {ad : Nat → Nat} {p : Program} {l : Launch} {e : Env} {s : State} {m : MethodId} {args : Array Value} {below : List Frame} {meth : Method} {c : Code} {Q : State → Prop} (G : xG E p s m args meth c cX11_fit 11 RX11) (hA : ∀ a, s.heap.size ≤ a → xA ad s.heap.size a) (a34 : Int32) (a35 : Int32) (a36 : Int32) (a37 : Int32) (a38 : Int32) (a39 : Int32) (a40 : Int32) (a41 : Int32) (μ43 : xM) (K970 : Int32 → Int32 → Int32 → xM → Prop) (K97b : Int32 → Int32 → Int32 → Int32 → xM → Prop) (hq : B_X11_fit_97 a34 a35 a36 a37 a38 a39 a40 a41 μ43 K970 K97b) {H : Heap} {locs : List Loc} {ls : Array Slot} (hH : xH E ad (xA ad s.heap.size) s.heap μ43 H locs) (hl : lv_has ls 11 [(4, .int a34), (3, .int a35), (2, .int a36), (8, .int a37), (9, .int a38), (7, .int a39), (6, .int a40), (5, .int a41)]) (kK970 : ∀ (a44 : Int32) (a45 : Int32) (a46 : Int32) (μ47 : xM), K970 a44 a45 a46 μ47 → ∀ (H : Heap) (locs : List Loc) (ls : Array Slot), xH E ad (xA ad s.heap.size) s.heap μ47 H locs → lv_has ls 11 [(4, .int a34), (3, .int a35), (2, .int a36), (8, .int a37), (5, .int a44), (6, .int a45), (7, .int a46)] → W p l e (headSpec tX11_fit ({ frames := 3, cells := 0, slots := 0, locals := 120 } : Room)).room s m args below meth c H locs 0 0 Q (F0 m 143 ls [])) (kK97b : ∀ (a48 : Int32) (a49 : Int32) (a50 : Int32) (a51 : Int32) (μ52 : xM), K97b a48 a49 a50 a51 μ52 → ∀ (H : Heap) (locs : List Loc) (ls : Array Slot), xH E ad (xA ad s.heap.size) s.heap μ52 H locs → lv_has ls 11 [(4, .int a34), (3, .int a35), (2, .int a36), (8, .int a37), (9, .int a48), (7, .int a49), (6, .int a50), (5, .int a51)] → W p l e (headSpec tX11_fit ({ frames := 3, cells := 0, slots := 0, locals := 120 } : Room)).room s m args below meth c H locs 0 0 Q (F0 m 97 ls [])) : W p l e (headSpec tX11_fit ({ frames := 3, cells := 0, slots := 0, locals := 120 } : Room)).room s m args below meth c H locs 0 0 Q (F0 m 97 ls []) := by
  obtain ⟨hx, hb, hml, hown, hts, hKn, hN, hlk⟩ := id G
  unfold B_X11_fit_97 at hq
  refine lv_iload hx hb dX11_fit_97 (lv_at hl 4 rfl) ?_
  refine lv_iconst (v := (3 : Int32)) hx hb dX11_fit_99 (by decide) ?_
  refine lv_icmp_gt (tgt := 143) hx hb dX11_fit_100 (by decide) (fun c53 => ?_) (fun c53 => ?_)
  · have hq := hq.1 c53
    exact kK970 a41 a40 a39 μ43 hq _ _ _ hH (lv_sub hl [0, 1, 2, 3, 7, 6, 5] rfl)
  · have hq := hq.2 c53
    refine lv_iload hx hb dX11_fit_103 (lv_at hl 0 rfl) ?_
    refine lv_iload hx hb dX11_fit_105 (lv_at hl 4 rfl) ?_
    refine lv_iload hx hb dX11_fit_107 (lv_at hl 3 rfl) ?_
    refine x_cSi (As := [.int a34, .int a38, .int a37]) (rest := []) G hH hA (c_X1_moved l E ad μ43 a34 a38 a37  _ hq) (wm_17 _ (List.mem_of_getElem? (i := 1) rfl)) mt_X1_moved mn_RX1 mc_X1_moved md_X1_moved ⟨rfl, rfl, Nat.le_of_ble_eq_true rfl, Nat.le_of_ble_eq_true rfl⟩ rfl hl.1 rfl (Nat.le_of_ble_eq_true rfl) dX11_fit_109 ⟨Nat.zero_le _, Nat.zero_le _⟩ (fun r55 μ54 hq H locs hH => ?_)
    refine lv_iload_n hx hb dX11_fit_112 rfl (lv_at hl 1 rfl) ?_
    refine x_cSi (As := [.int r55, .int a35]) (rest := []) G hH hA (c_X11_gainOf l E ad μ54 r55 a35  _ hq) (wm_17 _ (List.mem_of_getElem? (i := 2) rfl)) mt_X11_gainOf mn_RX11 mc_X11_gainOf md_X11_gainOf ⟨rfl, rfl, Nat.le_of_ble_eq_true rfl, Nat.le_of_ble_eq_true rfl⟩ rfl hl.1 rfl (Nat.le_of_ble_eq_true rfl) dX11_fit_113 ⟨Nat.zero_le _, Nat.zero_le _⟩ (fun r57 μ56 hq H locs hH => ?_)
    refine lv_istore (lv' := [(10, .int r57), (4, .int a34), (3, .int a35), (2, .int a36), (8, .int a37), (9, .int a38), (7, .int a39), (6, .int a40), (5, .int a41)]) hx hb dX11_fit_116 hl (by decide) rfl (fun ls hl => ?_)
    refine lv_iload hx hb dX11_fit_118 (lv_at hl 0 rfl) ?_
    refine lv_iload hx hb dX11_fit_120 (lv_at hl 6 rfl) ?_
    refine lv_icmp_le (tgt := 137) hx hb dX11_fit_122 (by decide) (fun c58 => ?_) (fun c58 => ?_)
    · have hq := hq.1 c58
      obtain ⟨v59, e_v59⟩ : ∃ y : Int32, y = (a38 + (1 : Int32)) := ⟨_, rfl⟩
      have hq := hq v59 e_v59
      refine lv_iinc (v := v59) (lv' := [(9, .int v59), (10, .int r57), (4, .int a34), (3, .int a35), (2, .int a36), (8, .int a37), (7, .int a39), (6, .int a40), (5, .int a41)]) hx hb dX11_fit_137 hl (k := 5) rfl (by rw [e_v59]; rfl) (by decide) rfl (fun ls hl => ?_)
      refine lv_goto (tgt := 97) hx hb dX11_fit_140 (by decide) ?_
      exact kK97b v59 a39 a40 a41 μ56 hq _ _ _ hH (lv_sub hl [2, 3, 4, 5, 0, 6, 7, 8] rfl)
    · have hq := hq.2 c58
      refine lv_iload hx hb dX11_fit_125 (lv_at hl 0 rfl) ?_
      refine lv_istore (lv' := [(7, .int r57), (10, .int r57), (4, .int a34), (3, .int a35), (2, .int a36), (8, .int a37), (9, .int a38), (6, .int a40), (5, .int a41)]) hx hb dX11_fit_127 hl (by decide) rfl (fun ls hl => ?_)
      refine lv_iload hx hb dX11_fit_129 (lv_at hl 6 rfl) ?_
      refine lv_istore (lv' := [(5, .int a38), (7, .int r57), (10, .int r57), (4, .int a34), (3, .int a35), (2, .int a36), (8, .int a37), (9, .int a38), (6, .int a40)]) hx hb dX11_fit_131 hl (by decide) rfl (fun ls hl => ?_)
      refine lv_iload hx hb dX11_fit_133 (lv_at hl 6 rfl) ?_
      refine lv_istore (lv' := [(6, .int a37), (5, .int a38), (7, .int r57), (10, .int r57), (4, .int a34), (3, .int a35), (2, .int a36), (8, .int a37), (9, .int a38)]) hx hb dX11_fit_135 hl (by decide) rfl (fun ls hl => ?_)
      obtain ⟨v60, e_v60⟩ : ∃ y : Int32, y = (a38 + (1 : Int32)) := ⟨_, rfl⟩
      have hq := hq v60 e_v60
      refine lv_iinc (v := v60) (lv' := [(9, .int v60), (6, .int a37), (5, .int a38), (7, .int r57), (10, .int r57), (4, .int a34), (3, .int a35), (2, .int a36), (8, .int a37)]) hx hb dX11_fit_137 hl (k := 8) rfl (by rw [e_v60]; rfl) (by decide) rfl (fun ls hl => ?_)
      refine lv_goto (tgt := 97) hx hb dX11_fit_140 (by decide) ?_
      exact kK97b v60 r57 a37 a38 μ56 hq _ _ _ hH (lv_sub hl [5, 6, 7, 8, 0, 3, 1, 2] rfl)
set_option maxRecDepth 100000 in
set_option maxHeartbeats 4000000 in
theorem w_X11_fit_97 {E : xE} {ad : Nat → Nat} {p : Program} {l : Launch} {e : Env} {s : State} {m : MethodId} {args : Array Value} {below : List Frame} {meth : Method} {c : Code} {Q : State → Prop} (G : xG E p s m args meth c cX11_fit 11 RX11) (hA : ∀ a, s.heap.size ≤ a → xA ad s.heap.size a) (a34 : Int32) (a35 : Int32) (a36 : Int32) (a37 : Int32) : ∀ (n : Nat) (a38 : Int32) (a39 : Int32) (a40 : Int32) (a41 : Int32) (μ43 : xM) (K970 : Int32 → Int32 → Int32 → xM → Prop) (hq : L_X11_fit_97 a34 a35 a36 a37 n a38 a39 a40 a41 μ43 K970) (H : Heap) (locs : List Loc) (ls : Array Slot) (hH : xH E ad (xA ad s.heap.size) s.heap μ43 H locs) (hl : lv_has ls 11 [(4, .int a34), (3, .int a35), (2, .int a36), (8, .int a37), (9, .int a38), (7, .int a39), (6, .int a40), (5, .int a41)]) (kK970 : ∀ (a44 : Int32) (a45 : Int32) (a46 : Int32) (μ47 : xM), K970 a44 a45 a46 μ47 → ∀ (H : Heap) (locs : List Loc) (ls : Array Slot), xH E ad (xA ad s.heap.size) s.heap μ47 H locs → lv_has ls 11 [(4, .int a34), (3, .int a35), (2, .int a36), (8, .int a37), (5, .int a44), (6, .int a45), (7, .int a46)] → W p l e (headSpec tX11_fit ({ frames := 3, cells := 0, slots := 0, locals := 120 } : Room)).room s m args below meth c H locs 0 0 Q (F0 m 143 ls [])) , W p l e (headSpec tX11_fit ({ frames := 3, cells := 0, slots := 0, locals := 120 } : Room)).room s m args below meth c H locs 0 0 Q (F0 m 97 ls [])
  | 0, _, _, _, _, _, _, hq, _, _, _, _, _, _ => hq.elim
  | n + 1, a38, a39, a40, a41, μ43, K970, hq, H, locs, ls, hH, hl, kK970 => wb_X11_fit_97 G hA a34 a35 a36 a37  a38 a39 a40 a41 μ43 K970 _ hq hH hl kK970 (fun x0 x1 x2 x3 y hq H locs ls hH hl => w_X11_fit_97 G hA a34 a35 a36 a37  n x0 x1 x2 x3 y K970 hq H locs ls hH hl kK970)
set_option maxRecDepth 100000 in
set_option maxHeartbeats 4000000 in
theorem wb_X11_fit_87 {E : xE} {ad : Nat → Nat} {p : Program} {l : Launch} {e : Env} {s : State} {m : MethodId} {args : Array Value} {below : List Frame} {meth : Method} {c : Code} {Q : State → Prop} (G : xG E p s m args meth c cX11_fit 11 RX11) (hA : ∀ a, s.heap.size ≤ a → xA ad s.heap.size a) (a15 : Int32) (a16 : Int32) (a17 : Int32) (a18 : Int32) (a19 : Int32) (a20 : Int32) (a21 : Int32) (μ23 : xM) (K870 : Int32 → Int32 → Int32 → xM → Prop) (K87b : Int32 → Int32 → Int32 → Int32 → xM → Prop) (hq : B_X11_fit_87 a15 a16 a17 a18 a19 a20 a21 μ23 K870 K87b) {H : Heap} {locs : List Loc} {ls : Array Slot} (hH : xH E ad (xA ad s.heap.size) s.heap μ23 H locs) (hl : lv_has ls 11 [(4, .int a15), (3, .int a16), (2, .int a17), (8, .int a18), (7, .int a19), (6, .int a20), (5, .int a21)]) (kK870 : ∀ (a24 : Int32) (a25 : Int32) (a26 : Int32) (μ27 : xM), K870 a24 a25 a26 μ27 → ∀ (H : Heap) (locs : List Loc) (ls : Array Slot), xH E ad (xA ad s.heap.size) s.heap μ27 H locs → lv_has ls 11 [(2, .int a17), (5, .int a24), (6, .int a25), (7, .int a26)] → W p l e (headSpec tX11_fit ({ frames := 3, cells := 0, slots := 0, locals := 120 } : Room)).room s m args below meth c H locs 0 0 Q (F0 m 149 ls [])) (kK87b : ∀ (a28 : Int32) (a29 : Int32) (a30 : Int32) (a31 : Int32) (μ32 : xM), K87b a28 a29 a30 a31 μ32 → ∀ (H : Heap) (locs : List Loc) (ls : Array Slot), xH E ad (xA ad s.heap.size) s.heap μ32 H locs → lv_has ls 11 [(4, .int a15), (3, .int a16), (2, .int a17), (8, .int a28), (7, .int a29), (6, .int a30), (5, .int a31)] → W p l e (headSpec tX11_fit ({ frames := 3, cells := 0, slots := 0, locals := 120 } : Room)).room s m args below meth c H locs 0 0 Q (F0 m 87 ls [])) : W p l e (headSpec tX11_fit ({ frames := 3, cells := 0, slots := 0, locals := 120 } : Room)).room s m args below meth c H locs 0 0 Q (F0 m 87 ls []) := by
  obtain ⟨hx, hb, hml, hown, hts, hKn, hN, hlk⟩ := id G
  unfold B_X11_fit_87 at hq
  refine lv_iload hx hb dX11_fit_87 (lv_at hl 3 rfl) ?_
  refine lv_iconst (v := (3 : Int32)) hx hb dX11_fit_89 (by decide) ?_
  refine lv_icmp_gt (tgt := 149) hx hb dX11_fit_90 (by decide) (fun c33 => ?_) (fun c33 => ?_)
  · have hq := hq.1 c33
    exact kK870 a21 a20 a19 μ23 hq _ _ _ hH (lv_sub hl [2, 6, 5, 4] rfl)
  · have hq := hq.2 c33
    refine lv_bipush (v := (-3 : Int32)) hx hb dX11_fit_93 (by decide) ?_
    refine lv_istore (lv' := [(9, .int (-3 : Int32)), (4, .int a15), (3, .int a16), (2, .int a17), (8, .int a18), (7, .int a19), (6, .int a20), (5, .int a21)]) hx hb dX11_fit_95 hl (by decide) rfl (fun ls hl => ?_)
    obtain ⟨n42, hq⟩ := hq
    refine w_X11_fit_97 G hA a15 a16 a17 a18  n42 (-3 : Int32) a19 a20 a21 μ23 _ hq _ _ _ hH (lv_sub hl [1, 2, 3, 4, 0, 5, 6, 7] rfl) (fun a61 a62 a63 μ64 hq H locs ls hH hl => ?_)
    obtain ⟨v65, e_v65⟩ : ∃ y : Int32, y = (a18 + (1 : Int32)) := ⟨_, rfl⟩
    have hq := hq v65 e_v65
    refine lv_iinc (v := v65) (lv' := [(8, .int v65), (4, .int a15), (3, .int a16), (2, .int a17), (5, .int a61), (6, .int a62), (7, .int a63)]) hx hb dX11_fit_143 hl (k := 3) rfl (by rw [e_v65]; rfl) (by decide) rfl (fun ls hl => ?_)
    refine lv_goto (tgt := 87) hx hb dX11_fit_146 (by decide) ?_
    exact kK87b v65 a63 a62 a61 μ64 hq _ _ _ hH (lv_sub hl [1, 2, 3, 0, 6, 5, 4] rfl)
set_option maxRecDepth 100000 in
set_option maxHeartbeats 4000000 in
theorem w_X11_fit_87 {E : xE} {ad : Nat → Nat} {p : Program} {l : Launch} {e : Env} {s : State} {m : MethodId} {args : Array Value} {below : List Frame} {meth : Method} {c : Code} {Q : State → Prop} (G : xG E p s m args meth c cX11_fit 11 RX11) (hA : ∀ a, s.heap.size ≤ a → xA ad s.heap.size a) (a15 : Int32) (a16 : Int32) (a17 : Int32) : ∀ (n : Nat) (a18 : Int32) (a19 : Int32) (a20 : Int32) (a21 : Int32) (μ23 : xM) (K870 : Int32 → Int32 → Int32 → xM → Prop) (hq : L_X11_fit_87 a15 a16 a17 n a18 a19 a20 a21 μ23 K870) (H : Heap) (locs : List Loc) (ls : Array Slot) (hH : xH E ad (xA ad s.heap.size) s.heap μ23 H locs) (hl : lv_has ls 11 [(4, .int a15), (3, .int a16), (2, .int a17), (8, .int a18), (7, .int a19), (6, .int a20), (5, .int a21)]) (kK870 : ∀ (a24 : Int32) (a25 : Int32) (a26 : Int32) (μ27 : xM), K870 a24 a25 a26 μ27 → ∀ (H : Heap) (locs : List Loc) (ls : Array Slot), xH E ad (xA ad s.heap.size) s.heap μ27 H locs → lv_has ls 11 [(2, .int a17), (5, .int a24), (6, .int a25), (7, .int a26)] → W p l e (headSpec tX11_fit ({ frames := 3, cells := 0, slots := 0, locals := 120 } : Room)).room s m args below meth c H locs 0 0 Q (F0 m 149 ls [])) , W p l e (headSpec tX11_fit ({ frames := 3, cells := 0, slots := 0, locals := 120 } : Room)).room s m args below meth c H locs 0 0 Q (F0 m 87 ls [])
  | 0, _, _, _, _, _, _, hq, _, _, _, _, _, _ => hq.elim
  | n + 1, a18, a19, a20, a21, μ23, K870, hq, H, locs, ls, hH, hl, kK870 => wb_X11_fit_87 G hA a15 a16 a17  a18 a19 a20 a21 μ23 K870 _ hq hH hl kK870 (fun x0 x1 x2 x3 y hq H locs ls hH hl => w_X11_fit_87 G hA a15 a16 a17  n x0 x1 x2 x3 y K870 hq H locs ls hH hl kK870)
set_option maxRecDepth 100000 in
set_option maxHeartbeats 4000000 in
theorem c_X11_fit (l : Launch) (E : xE) (ad : Nat → Nat) (μ : xM) (q0 : Nat) (p1 : Int32) (p2 : Int32) (hk_q0 : kd q0 = 9) (Qm : Int32 → xM → Prop) (hq : p_X11_fit q0 p1 p2 μ Qm) : xMi l yX11_fit tX11_fit ({ frames := 3, cells := 0, slots := 0, locals := 120 } : Room) E ad μ [.ref (ad q0), .int p1, .int p2] Qm := by
  refine x_sti (cc := cX11_fit) (maxL := 11) (ret := (some .int)) (own := RX11) rfl (by decide) rfl (Nat.le_of_ble_eq_true rfl) ?_
  intro p e s m args below meth c ls G hr hA hH hl
  obtain ⟨hx, hb, hml, hown, hts, hKn, hN, hlk⟩ := id G
  have hl : lv_has ls 11 [(0, .ref (ad q0)), (1, .int p1), (2, .int p2)] := hl
  have hH : xH E ad (xA ad s.heap.size) s.heap μ s.heap [] := hH
  unfold p_X11_fit at hq
  refine lv_aload_n hx hb dX11_fit_0 rfl (lv_at hl 0 rfl) ?_
  refine x_get (j := 0) (C := RX11) (T := TX11) (N := 8) (v := .ref (ad (rt q0 0))) G hH hk_q0 (by decide) rfl inlX11 (by decide) (wm_1 _ (List.mem_of_getElem? (i := 15) rfl)) rfl dX11_fit_1 ?_
  refine x_get (j := 0) (C := RX9) (T := TX9) (N := 3) (v := .ref (ad (rt (rt q0 0) 0))) G hH (kt_9_0 _ hk_q0) (by decide) rfl inlX9 (by decide) (wm_1 _ (List.mem_of_getElem? (i := 23) rfl)) rfl dX11_fit_4 ?_
  refine lv_iload_n hx hb dX11_fit_7 rfl (lv_at hl 1 rfl) ?_
  refine x_cVi (C := RX0) (T := TX0) (N := 9) (As := [.int p1]) (rest := []) G hH hA (c_X0_has l E ad μ (rt (rt q0 0) 0) p1 (kt_7_0 _ (kt_9_0 _ hk_q0)) _ hq) (wm_11 _ (List.mem_of_getElem? (i := 22) rfl)) mi_X0_has ms_X0_has mn_RX0 mc_X0_has rfl md_X0_has ⟨rfl, rfl, Nat.le_of_ble_eq_true rfl, Nat.le_of_ble_eq_true rfl⟩ (kt_7_0 _ (kt_9_0 _ hk_q0)) (by decide) rfl rfl hl.1 rfl (Nat.le_of_ble_eq_true rfl) dX11_fit_8 ⟨Nat.zero_le _, Nat.zero_le _⟩ (fun r2 μ1 hq H locs hH => ?_)
  refine lv_if_eq (tgt := 23) hx hb dX11_fit_11 (by decide) (fun c3 => ?_) (fun c3 => ?_)
  · have hq := hq.1 c3
    refine lv_aload_n hx hb dX11_fit_23 rfl (lv_at hl 0 rfl) ?_
    refine lv_bipush (v := (-2 : Int32)) hx hb dX11_fit_24 (by decide) ?_
    refine x_cVi (C := RX11) (T := TX11) (N := 8) (As := [.int (-2 : Int32)]) (rest := []) G hH hA (c_X11_refuse l E ad μ1 q0 (-2 : Int32) hk_q0 _ hq) (wm_7 _ (List.mem_of_getElem? (i := 23) rfl)) mi_X11_refuse ms_X11_refuse mn_RX11 mc_X11_refuse rfl md_X11_refuse ⟨rfl, rfl, Nat.le_of_ble_eq_true rfl, Nat.le_of_ble_eq_true rfl⟩ hk_q0 (by decide) rfl rfl hl.1 rfl (Nat.le_of_ble_eq_true rfl) dX11_fit_26 ⟨Nat.zero_le _, Nat.zero_le _⟩ (fun r5 μ4 hq H locs hH => ?_)
    exact x_iret G hr hH hq dX11_fit_29
  · have hq := hq.2 c3
    refine lv_iload_n hx hb dX11_fit_14 rfl (lv_at hl 2 rfl) ?_
    refine lv_iconst (v := (0 : Int32)) hx hb dX11_fit_15 (by decide) ?_
    refine lv_iconst (v := (2 : Int32)) hx hb dX11_fit_16 (by decide) ?_
    refine x_cSi (As := [.int p2, .int (0 : Int32), .int (2 : Int32)]) (rest := []) G hH hA (c_X11_within l E ad μ1 p2 (0 : Int32) (2 : Int32)  _ hq) (wm_7 _ (List.mem_of_getElem? (i := 20) rfl)) mt_X11_within mn_RX11 mc_X11_within md_X11_within ⟨rfl, rfl, Nat.le_of_ble_eq_true rfl, Nat.le_of_ble_eq_true rfl⟩ rfl hl.1 rfl (Nat.le_of_ble_eq_true rfl) dX11_fit_17 ⟨Nat.zero_le _, Nat.zero_le _⟩ (fun r7 μ6 hq H locs hH => ?_)
    refine lv_if_ne (tgt := 30) hx hb dX11_fit_20 (by decide) (fun c8 => ?_) (fun c8 => ?_)
    · have hq := hq.1 c8
      refine lv_aload_n hx hb dX11_fit_30 rfl (lv_at hl 0 rfl) ?_
      refine x_get (j := 0) (C := RX11) (T := TX11) (N := 8) (v := .ref (ad (rt q0 0))) G hH hk_q0 (by decide) rfl inlX11 (by decide) (wm_1 _ (List.mem_of_getElem? (i := 15) rfl)) rfl dX11_fit_31 ?_
      refine x_get (j := 2) (C := RX9) (T := TX9) (N := 3) (v := .long (μ6.2 (rt q0 0) 2)) G hH (kt_9_0 _ hk_q0) (by decide) rfl inlX9 (by decide) (wm_15 _ (List.mem_of_getElem? (i := 0) rfl)) rfl dX11_fit_34 ?_
      refine lv_aload_n hx hb dX11_fit_37 rfl (lv_at hl 0 rfl) ?_
      refine x_get (j := 0) (C := RX11) (T := TX11) (N := 8) (v := .ref (ad (rt q0 0))) G hH hk_q0 (by decide) rfl inlX11 (by decide) (wm_1 _ (List.mem_of_getElem? (i := 15) rfl)) rfl dX11_fit_38 ?_
      refine x_get (j := 0) (C := RX9) (T := TX9) (N := 3) (v := .ref (ad (rt (rt q0 0) 0))) G hH (kt_9_0 _ hk_q0) (by decide) rfl inlX9 (by decide) (wm_1 _ (List.mem_of_getElem? (i := 23) rfl)) rfl dX11_fit_41 ?_
      refine x_get (j := 2) (C := RX0) (T := TX0) (N := 9) (v := .ref (ad (rt (rt (rt q0 0) 0) 2))) G hH (kt_7_0 _ (kt_9_0 _ hk_q0)) (by decide) rfl inlX0 (by decide) (wm_15 _ (List.mem_of_getElem? (i := 18) rfl)) rfl dX11_fit_44 ?_
      refine lv_iload_n hx hb dX11_fit_47 rfl (lv_at hl 1 rfl) ?_
      refine x_cSi (As := [.ref (ad (rt (rt (rt q0 0) 0) 2)), .int p1]) (rest := [.long (μ6.2 (rt q0 0) 2)]) G hH hA (c_X5_at l E ad μ6 (rt (rt (rt q0 0) 0) 2) p1 (kt_0_2 _ (kt_7_0 _ (kt_9_0 _ hk_q0))) _ hq) (wm_16 _ (List.mem_of_getElem? (i := 0) rfl)) mt_X5_at mn_RX5 mc_X5_at md_X5_at ⟨rfl, rfl, Nat.le_of_ble_eq_true rfl, Nat.le_of_ble_eq_true rfl⟩ rfl hl.1 rfl (Nat.le_of_ble_eq_true rfl) dX11_fit_48 ⟨Nat.zero_le _, Nat.zero_le _⟩ (fun r10 μ9 hq H locs hH => ?_)
      refine x_cSi (As := [.long (μ6.2 (rt q0 0) 2), .int r10]) (rest := []) G hH hA (c_X1_alike l E ad μ9 (μ6.2 (rt q0 0) 2) r10  _ hq) (wm_16 _ (List.mem_of_getElem? (i := 21) rfl)) mt_X1_alike mn_RX1 mc_X1_alike md_X1_alike ⟨rfl, rfl, Nat.le_of_ble_eq_true rfl, Nat.le_of_ble_eq_true rfl⟩ rfl hl.1 rfl (Nat.le_of_ble_eq_true rfl) dX11_fit_51 ⟨Nat.zero_le _, Nat.zero_le _⟩ (fun r12 μ11 hq H locs hH => ?_)
      refine lv_istore_n (lv' := [(3, .int r12), (0, .ref (ad q0)), (1, .int p1), (2, .int p2)]) hx hb dX11_fit_54 rfl hl (by decide) rfl (fun ls hl => ?_)
      refine lv_aload_n hx hb dX11_fit_55 rfl (lv_at hl 1 rfl) ?_
      refine x_get (j := 0) (C := RX11) (T := TX11) (N := 8) (v := .ref (ad (rt q0 0))) G hH hk_q0 (by decide) rfl inlX11 (by decide) (wm_1 _ (List.mem_of_getElem? (i := 15) rfl)) rfl dX11_fit_56 ?_
      refine x_get (j := 0) (C := RX9) (T := TX9) (N := 3) (v := .ref (ad (rt (rt q0 0) 0))) G hH (kt_9_0 _ hk_q0) (by decide) rfl inlX9 (by decide) (wm_1 _ (List.mem_of_getElem? (i := 23) rfl)) rfl dX11_fit_59 ?_
      refine x_get (j := 4) (C := RX0) (T := TX0) (N := 9) (v := .ref (ad (rt (rt (rt q0 0) 0) 4))) G hH (kt_7_0 _ (kt_9_0 _ hk_q0)) (by decide) rfl inlX0 (by decide) (wm_15 _ (List.mem_of_getElem? (i := 20) rfl)) rfl dX11_fit_62 ?_
      refine lv_iload_n hx hb dX11_fit_65 rfl (lv_at hl 2 rfl) ?_
      refine x_cSi (As := [.ref (ad (rt (rt (rt q0 0) 0) 4)), .int p1]) (rest := []) G hH hA (c_X5_at l E ad μ11 (rt (rt (rt q0 0) 0) 4) p1 (kt_0_4 _ (kt_7_0 _ (kt_9_0 _ hk_q0))) _ hq) (wm_16 _ (List.mem_of_getElem? (i := 0) rfl)) mt_X5_at mn_RX5 mc_X5_at md_X5_at ⟨rfl, rfl, Nat.le_of_ble_eq_true rfl, Nat.le_of_ble_eq_true rfl⟩ rfl hl.1 rfl (Nat.le_of_ble_eq_true rfl) dX11_fit_66 ⟨Nat.zero_le _, Nat.zero_le _⟩ (fun r14 μ13 hq H locs hH => ?_)
      refine lv_istore (lv' := [(4, .int r14), (3, .int r12), (0, .ref (ad q0)), (1, .int p1), (2, .int p2)]) hx hb dX11_fit_69 hl (by decide) rfl (fun ls hl => ?_)
      refine lv_bipush (v := (-3 : Int32)) hx hb dX11_fit_71 (by decide) ?_
      refine lv_istore (lv' := [(5, .int (-3 : Int32)), (4, .int r14), (3, .int r12), (0, .ref (ad q0)), (1, .int p1), (2, .int p2)]) hx hb dX11_fit_73 hl (by decide) rfl (fun ls hl => ?_)
      refine lv_bipush (v := (-3 : Int32)) hx hb dX11_fit_75 (by decide) ?_
      refine lv_istore (lv' := [(6, .int (-3 : Int32)), (5, .int (-3 : Int32)), (4, .int r14), (3, .int r12), (0, .ref (ad q0)), (1, .int p1), (2, .int p2)]) hx hb dX11_fit_77 hl (by decide) rfl (fun ls hl => ?_)
      refine lv_bipush (v := (-17 : Int32)) hx hb dX11_fit_79 (by decide) ?_
      refine lv_istore (lv' := [(7, .int (-17 : Int32)), (6, .int (-3 : Int32)), (5, .int (-3 : Int32)), (4, .int r14), (3, .int r12), (0, .ref (ad q0)), (1, .int p1), (2, .int p2)]) hx hb dX11_fit_81 hl (by decide) rfl (fun ls hl => ?_)
      refine lv_bipush (v := (-3 : Int32)) hx hb dX11_fit_83 (by decide) ?_
      refine lv_istore (lv' := [(8, .int (-3 : Int32)), (7, .int (-17 : Int32)), (6, .int (-3 : Int32)), (5, .int (-3 : Int32)), (4, .int r14), (3, .int r12), (0, .ref (ad q0)), (1, .int p1), (2, .int p2)]) hx hb dX11_fit_85 hl (by decide) rfl (fun ls hl => ?_)
      obtain ⟨n22, hq⟩ := hq
      refine w_X11_fit_87 G hA r14 r12 p2  n22 (-3 : Int32) (-17 : Int32) (-3 : Int32) (-3 : Int32) μ13 _ hq _ _ _ hH (lv_sub hl [4, 5, 8, 0, 1, 2, 3] rfl) (fun a66 a67 a68 μ69 hq H locs ls hH hl => ?_)
      refine lv_iload_n hx hb dX11_fit_149 rfl (lv_at hl 0 rfl) ?_
      refine lv_iconst (v := (2 : Int32)) hx hb dX11_fit_150 (by decide) ?_
      refine lv_icmp_ne (tgt := 160) hx hb dX11_fit_151 (by decide) (fun c70 => ?_) (fun c70 => ?_)
      · have hq := hq.1 c70
        refine lv_iload_n hx hb dX11_fit_160 rfl (lv_at hl 0 rfl) ?_
        refine lv_if_ne (tgt := 169) hx hb dX11_fit_161 (by decide) (fun c71 => ?_) (fun c71 => ?_)
        · have hq := hq.1 c71
          refine lv_iload hx hb dX11_fit_169 (lv_at hl 2 rfl) ?_
          refine lv_iconst (v := (3 : Int32)) hx hb dX11_fit_171 (by decide) ?_
          refine lv_iadd hx hb dX11_fit_172 ?_
          exact x_iret G hr hH hq dX11_fit_173
        · have hq := hq.2 c71
          refine lv_iload hx hb dX11_fit_164 (lv_at hl 1 rfl) ?_
          refine lv_goto (tgt := 171) hx hb dX11_fit_166 (by decide) ?_
          refine lv_iconst (v := (3 : Int32)) hx hb dX11_fit_171 (by decide) ?_
          refine lv_iadd hx hb dX11_fit_172 ?_
          exact x_iret G hr hH hq dX11_fit_173
      · have hq := hq.2 c70
        refine lv_iload hx hb dX11_fit_154 (lv_at hl 3 rfl) ?_
        refine lv_bipush (v := (16 : Int32)) hx hb dX11_fit_156 (by decide) ?_
        refine lv_iadd hx hb dX11_fit_158 ?_
        exact x_iret G hr hH hq dX11_fit_159
    · have hq := hq.2 c8
      refine lv_aload_n hx hb dX11_fit_23 rfl (lv_at hl 0 rfl) ?_
      refine lv_bipush (v := (-2 : Int32)) hx hb dX11_fit_24 (by decide) ?_
      refine x_cVi (C := RX11) (T := TX11) (N := 8) (As := [.int (-2 : Int32)]) (rest := []) G hH hA (c_X11_refuse l E ad μ6 q0 (-2 : Int32) hk_q0 _ hq) (wm_7 _ (List.mem_of_getElem? (i := 23) rfl)) mi_X11_refuse ms_X11_refuse mn_RX11 mc_X11_refuse rfl md_X11_refuse ⟨rfl, rfl, Nat.le_of_ble_eq_true rfl, Nat.le_of_ble_eq_true rfl⟩ hk_q0 (by decide) rfl rfl hl.1 rfl (Nat.le_of_ble_eq_true rfl) dX11_fit_26 ⟨Nat.zero_le _, Nat.zero_le _⟩ (fun r73 μ72 hq H locs hH => ?_)
      exact x_iret G hr hH hq dX11_fit_29
abbrev tX11_refuseOrder : List Cond := Cond.code yX11_refuseOrder cX11_refuseOrder 2 (some .int) :: wsL_law
theorem mi_X11_refuseOrder : Cond.instanceMethod yX11_refuseOrder ∈ wsL_law := (wm_19 _ (List.mem_of_getElem? (i := 10) rfl))
theorem ms_X11_refuseOrder : Cond.selects RX11 yX11_refuseOrder yX11_refuseOrder ∈ wsL_law := (wm_19 _ (List.mem_of_getElem? (i := 11) rfl))
theorem mc_X11_refuseOrder : Cond.code yX11_refuseOrder cX11_refuseOrder 2 (some .int) ∈ wsL_law := (wm_19 _ (List.mem_of_getElem? (i := 12) rfl))
theorem md_X11_refuseOrder : yX11_refuseOrder.cls ≠ "java/lang/invoke/MethodHandle" ∧ yX11_refuseOrder.cls ≠ "java/lang/invoke/VarHandle" ∧ (parseMethodDescriptor yX11_refuseOrder.desc).map (fun d => d.parameters.length) = some 1 := by decide +kernel
set_option maxRecDepth 100000 in
set_option maxHeartbeats 4000000 in
theorem c_X11_refuseOrder (l : Launch) (E : xE) (ad : Nat → Nat) (μ : xM) (q0 : Nat) (p1 : Int32) (hk_q0 : kd q0 = 9) (Qm : Int32 → xM → Prop) (hq : p_X11_refuseOrder q0 p1 μ Qm) : xMi l yX11_refuseOrder tX11_refuseOrder ({ frames := 2, cells := 0, slots := 0, locals := 80 } : Room) E ad μ [.ref (ad q0), .int p1] Qm := by
  refine x_sti (cc := cX11_refuseOrder) (maxL := 2) (ret := (some .int)) (own := RX11) rfl (by decide) rfl (Nat.le_of_ble_eq_true rfl) ?_
  intro p e s m args below meth c ls G hr hA hH hl
  obtain ⟨hx, hb, hml, hown, hts, hKn, hN, hlk⟩ := id G
  have hl : lv_has ls 2 [(0, .ref (ad q0)), (1, .int p1)] := hl
  have hH : xH E ad (xA ad s.heap.size) s.heap μ s.heap [] := hH
  unfold p_X11_refuseOrder at hq
  refine lv_aload_n hx hb dX11_refuseOrder_0 rfl (lv_at hl 0 rfl) ?_
  refine lv_iload_n hx hb dX11_refuseOrder_1 rfl (lv_at hl 1 rfl) ?_
  refine x_cVi (C := RX11) (T := TX11) (N := 8) (As := [.int p1]) (rest := []) G hH hA (c_X11_refuse l E ad μ q0 p1 hk_q0 _ hq) (wm_7 _ (List.mem_of_getElem? (i := 23) rfl)) mi_X11_refuse ms_X11_refuse mn_RX11 mc_X11_refuse rfl md_X11_refuse ⟨rfl, rfl, Nat.le_of_ble_eq_true rfl, Nat.le_of_ble_eq_true rfl⟩ hk_q0 (by decide) rfl rfl hl.1 rfl (Nat.le_of_ble_eq_true rfl) dX11_refuseOrder_2 ⟨Nat.zero_le _, Nat.zero_le _⟩ (fun r2 μ1 hq H locs hH => ?_)
  refine lv_pop hx hb dX11_refuseOrder_5 rfl ?_
  refine lv_iload_n hx hb dX11_refuseOrder_6 rfl (lv_at hl 1 rfl) ?_
  refine lv_bipush (v := (-2 : Int32)) hx hb dX11_refuseOrder_7 (by decide) ?_
  refine lv_icmp_ne (tgt := 17) hx hb dX11_refuseOrder_9 (by decide) (fun c3 => ?_) (fun c3 => ?_)
  · have hq := hq.1 c3
    refine lv_bipush (v := (-11 : Int32)) hx hb dX11_refuseOrder_17 (by decide) ?_
    exact x_iret G hr hH hq dX11_refuseOrder_19
  · have hq := hq.2 c3
    refine lv_bipush (v := (-10 : Int32)) hx hb dX11_refuseOrder_12 (by decide) ?_
    refine lv_goto (tgt := 19) hx hb dX11_refuseOrder_14 (by decide) ?_
    exact x_iret G hr hH hq dX11_refuseOrder_19
abbrev tX8_empty : List Cond := Cond.code yX8_empty cX8_empty 1 none :: wsL_law
theorem mi_X8_empty : Cond.instanceMethod yX8_empty ∈ wsL_law := (wm_19 _ (List.mem_of_getElem? (i := 18) rfl))
theorem ms_X8_empty : Cond.selects RX8 yX8_empty yX8_empty ∈ wsL_law := (wm_19 _ (List.mem_of_getElem? (i := 19) rfl))
theorem mc_X8_empty : Cond.code yX8_empty cX8_empty 1 none ∈ wsL_law := (wm_19 _ (List.mem_of_getElem? (i := 20) rfl))
theorem md_X8_empty : yX8_empty.cls ≠ "java/lang/invoke/MethodHandle" ∧ yX8_empty.cls ≠ "java/lang/invoke/VarHandle" ∧ (parseMethodDescriptor yX8_empty.desc).map (fun d => d.parameters.length) = some 0 := by decide +kernel
set_option maxRecDepth 100000 in
set_option maxHeartbeats 4000000 in
theorem c_X8_empty (l : Launch) (E : xE) (ad : Nat → Nat) (μ : xM) (q0 : Nat) (hk_q0 : kd q0 = 6) (Qm : xM → Prop) (hq : p_X8_empty q0 μ Qm) : xMv l yX8_empty tX8_empty ({ frames := 1, cells := 0, slots := 0, locals := 40 } : Room) E ad μ [.ref (ad q0)] Qm := by
  refine x_stv (cc := cX8_empty) (maxL := 1) (ret := none) (own := RX8) rfl (by decide) rfl (Nat.le_of_ble_eq_true rfl) ?_
  intro p e s m args below meth c ls G hr hA hH hl
  obtain ⟨hx, hb, hml, hown, hts, hKn, hN, hlk⟩ := id G
  have hl : lv_has ls 1 [(0, .ref (ad q0))] := hl
  have hH : xH E ad (xA ad s.heap.size) s.heap μ s.heap [] := hH
  unfold p_X8_empty at hq
  refine lv_aload_n hx hb dX8_empty_0 rfl (lv_at hl 0 rfl) ?_
  refine lv_dup hx hb dX8_empty_1 rfl ?_
  refine x_get (j := 3) (C := RX8) (T := TX8) (N := 5) (v := .int (μ.1 q0 3)) G hH hk_q0 (by decide) rfl inlX8 (by decide) (wm_5 _ (List.mem_of_getElem? (i := 18) rfl)) rfl dX8_empty_2 ?_
  refine lv_iconst (v := (1 : Int32)) hx hb dX8_empty_5 (by decide) ?_
  refine lv_iadd hx hb dX8_empty_6 ?_
  refine x_puti (j := 3) (C := RX8) (T := TX8) (N := 5) (ty := .int) G hH hk_q0 (by decide) rfl inlX8 tyX8 tyX8_ok nmX8 (by decide) (wm_5 _ (List.mem_of_getElem? (i := 18) rfl)) rfl (by decide +kernel) rfl rfl (fun _ _ => Nat.le_of_ble_eq_true rfl) (fun _ _ => rfl) dX8_empty_7 (fun μ1 e_μ1 H locs hH => ?_)
  have hq := hq μ1 e_μ1
  refine lv_aload_n hx hb dX8_empty_10 rfl (lv_at hl 0 rfl) ?_
  refine lv_iconst (v := (0 : Int32)) hx hb dX8_empty_11 (by decide) ?_
  refine x_puti (j := 4) (C := RX8) (T := TX8) (N := 5) (ty := .int) G hH hk_q0 (by decide) rfl inlX8 tyX8 tyX8_ok nmX8 (by decide) (wm_5 _ (List.mem_of_getElem? (i := 19) rfl)) rfl (by decide +kernel) rfl rfl (fun _ _ => Nat.le_of_ble_eq_true rfl) (fun _ _ => rfl) dX8_empty_12 (fun μ2 e_μ2 H locs hH => ?_)
  have hq := hq μ2 e_μ2
  exact x_vret G hr hH hq dX8_empty_15
abbrev tX7_coloursAndClosed : List Cond := Cond.code yX7_coloursAndClosed cX7_coloursAndClosed 1 (some .long) :: wsL_law
theorem mi_X7_coloursAndClosed : Cond.instanceMethod yX7_coloursAndClosed ∈ wsL_law := (wm_20 _ (List.mem_of_getElem? (i := 19) rfl))
theorem ms_X7_coloursAndClosed : Cond.selects RX7 yX7_coloursAndClosed yX7_coloursAndClosed ∈ wsL_law := (wm_20 _ (List.mem_of_getElem? (i := 20) rfl))
theorem mc_X7_coloursAndClosed : Cond.code yX7_coloursAndClosed cX7_coloursAndClosed 1 (some .long) ∈ wsL_law := (wm_20 _ (List.mem_of_getElem? (i := 21) rfl))
theorem md_X7_coloursAndClosed : yX7_coloursAndClosed.cls ≠ "java/lang/invoke/MethodHandle" ∧ yX7_coloursAndClosed.cls ≠ "java/lang/invoke/VarHandle" ∧ (parseMethodDescriptor yX7_coloursAndClosed.desc).map (fun d => d.parameters.length) = some 0 := by decide +kernel
set_option maxRecDepth 100000 in
set_option maxHeartbeats 4000000 in
theorem c_X7_coloursAndClosed (l : Launch) (E : xE) (ad : Nat → Nat) (μ : xM) (q0 : Nat) (hk_q0 : kd q0 = 5) (Qm : Int64 → xM → Prop) (hq : p_X7_coloursAndClosed q0 μ Qm) : xMl l yX7_coloursAndClosed tX7_coloursAndClosed ({ frames := 2, cells := 0, slots := 0, locals := 80 } : Room) E ad μ [.ref (ad q0)] Qm := by
  refine x_stl (cc := cX7_coloursAndClosed) (maxL := 1) (ret := (some .long)) (own := RX7) rfl (by decide) rfl (Nat.le_of_ble_eq_true rfl) ?_
  intro p e s m args below meth c ls G hr hA hH hl
  obtain ⟨hx, hb, hml, hown, hts, hKn, hN, hlk⟩ := id G
  have hl : lv_has ls 1 [(0, .ref (ad q0))] := hl
  have hH : xH E ad (xA ad s.heap.size) s.heap μ s.heap [] := hH
  unfold p_X7_coloursAndClosed at hq
  refine lv_aload_n hx hb dX7_coloursAndClosed_0 rfl (lv_at hl 0 rfl) ?_
  refine x_get (j := 0) (C := RX7) (T := TX7) (N := 3) (v := .long (μ.2 q0 0)) G hH hk_q0 (by decide) rfl inlX7 (by decide) (wm_4 _ (List.mem_of_getElem? (i := 5) rfl)) rfl dX7_coloursAndClosed_1 ?_
  refine lv_aload_n hx hb dX7_coloursAndClosed_4 rfl (lv_at hl 0 rfl) ?_
  refine x_get (j := 2) (C := RX7) (T := TX7) (N := 3) (v := .int (μ.1 q0 2)) G hH hk_q0 (by decide) rfl inlX7 (by decide) (wm_4 _ (List.mem_of_getElem? (i := 7) rfl)) rfl dX7_coloursAndClosed_5 ?_
  refine x_cSl (As := [.int (μ.1 q0 2)]) (rest := [.long (μ.2 q0 0)]) G hH hA (c_X1_spread l E ad μ (μ.1 q0 2)  _ hq) (wm_20 _ (List.mem_of_getElem? (i := 22) rfl)) mt_X1_spread mn_RX1 mc_X1_spread md_X1_spread ⟨rfl, rfl, Nat.le_of_ble_eq_true rfl, Nat.le_of_ble_eq_true rfl⟩ rfl hl.1 rfl (Nat.le_of_ble_eq_true rfl) dX7_coloursAndClosed_8 ⟨Nat.zero_le _, Nat.zero_le _⟩ (fun r2 μ1 hq H locs hH => ?_)
  refine lv_iconst (v := (3 : Int32)) hx hb dX7_coloursAndClosed_11 (by decide) ?_
  refine lv_lshl (v := (lL r2 (3 : Int32))) hx hb dX7_coloursAndClosed_12 rfl ?_
  refine lv_lor hx hb dX7_coloursAndClosed_13 ?_
  exact x_lret G hr hH hq dX7_coloursAndClosed_14
abbrev tX8_add : List Cond := Cond.code yX8_add cX8_add 11 none :: wsL_law
theorem mi_X8_add : Cond.instanceMethod yX8_add ∈ wsL_law := (wm_20 _ (List.mem_of_getElem? (i := 12) rfl))
theorem ms_X8_add : Cond.selects RX8 yX8_add yX8_add ∈ wsL_law := (wm_20 _ (List.mem_of_getElem? (i := 13) rfl))
theorem mc_X8_add : Cond.code yX8_add cX8_add 11 none ∈ wsL_law := (wm_20 _ (List.mem_of_getElem? (i := 14) rfl))
theorem md_X8_add : yX8_add.cls ≠ "java/lang/invoke/MethodHandle" ∧ yX8_add.cls ≠ "java/lang/invoke/VarHandle" ∧ (parseMethodDescriptor yX8_add.desc).map (fun d => d.parameters.length) = some 1 := by decide +kernel
set_option maxRecDepth 100000 in
set_option maxHeartbeats 4000000 in
theorem wb_X8_add_36 {E : xE} {ad : Nat → Nat} {p : Program} {l : Launch} {e : Env} {s : State} {m : MethodId} {args : Array Value} {below : List Frame} {meth : Method} {c : Code} {Q : State → Prop} (G : xG E p s m args meth c cX8_add 11 RX8) (hA : ∀ a, s.heap.size ≤ a → xA ad s.heap.size a) (a6 : Int32) (b7 : Int64) (b8 : Int64) (q9 : Nat) (hk_q9 : kd q9 = 6) (a10 : Int32) (μ12 : xM) (K360 : xM → Prop) (K361 : Int32 → xM → Prop) (K362 : xM → Prop) (K36b : Int32 → xM → Prop) (hq : B_X8_add_36 a6 b7 b8 q9 a10 μ12 K360 K361 K362 K36b) {H : Heap} {locs : List Loc} {ls : Array Slot} (hH : xH E ad (xA ad s.heap.size) s.heap μ12 H locs) (hl : lv_has ls 11 [(8, .int a6), (4, .long b7), (2, .long b8), (0, .ref (ad q9)), (9, .int a10)]) (kK360 : ∀ (μ13 : xM), K360  μ13 → ∀ (H : Heap) (locs : List Loc) (ls : Array Slot), xH E ad (xA ad s.heap.size) s.heap μ13 H locs → lv_has ls 11 [] → W p l e (headSpec tX8_add ({ frames := 3, cells := 0, slots := 0, locals := 120 } : Room)).room s m args below meth c H locs 0 0 Q (F0 m 140 ls [])) (kK361 : ∀ (a14 : Int32) (μ15 : xM), K361 a14 μ15 → ∀ (H : Heap) (locs : List Loc) (ls : Array Slot), xH E ad (xA ad s.heap.size) s.heap μ15 H locs → lv_has ls 11 [(4, .long b7), (2, .long b8), (0, .ref (ad q9)), (10, .int a14)] → W p l e (headSpec tX8_add ({ frames := 3, cells := 0, slots := 0, locals := 120 } : Room)).room s m args below meth c H locs 0 0 Q (F0 m 69 ls [])) (kK362 : ∀ (μ16 : xM), K362  μ16 → ∀ (H : Heap) (locs : List Loc) (ls : Array Slot), xH E ad (xA ad s.heap.size) s.heap μ16 H locs → lv_has ls 11 [] → W p l e (headSpec tX8_add ({ frames := 3, cells := 0, slots := 0, locals := 120 } : Room)).room s m args below meth c H locs 0 0 Q (F0 m 133 ls [])) (kK36b : ∀ (a17 : Int32) (μ18 : xM), K36b a17 μ18 → ∀ (H : Heap) (locs : List Loc) (ls : Array Slot), xH E ad (xA ad s.heap.size) s.heap μ18 H locs → lv_has ls 11 [(8, .int a6), (4, .long b7), (2, .long b8), (0, .ref (ad q9)), (9, .int a17)] → W p l e (headSpec tX8_add ({ frames := 3, cells := 0, slots := 0, locals := 120 } : Room)).room s m args below meth c H locs 0 0 Q (F0 m 36 ls [])) : W p l e (headSpec tX8_add ({ frames := 3, cells := 0, slots := 0, locals := 120 } : Room)).room s m args below meth c H locs 0 0 Q (F0 m 36 ls []) := by
  obtain ⟨hx, hb, hml, hown, hts, hKn, hN, hlk⟩ := id G
  unfold B_X8_add_36 at hq
  refine lv_iload hx hb dX8_add_36 (lv_at hl 4 rfl) ?_
  refine lv_sipush (v := (1024 : Int32)) hx hb dX8_add_38 (by decide) ?_
  refine lv_icmp_ge (tgt := 140) hx hb dX8_add_41 (by decide) (fun c19 => ?_) (fun c19 => ?_)
  · have hq := hq.1 c19
    exact kK360  μ12 hq _ _ _ hH (lv_sub hl [] rfl)
  · have hq := hq.2 c19
    refine lv_iload hx hb dX8_add_44 (lv_at hl 0 rfl) ?_
    refine lv_iload hx hb dX8_add_46 (lv_at hl 4 rfl) ?_
    refine lv_iadd hx hb dX8_add_48 ?_
    refine lv_sipush (v := (1023 : Int32)) hx hb dX8_add_49 (by decide) ?_
    refine lv_iand hx hb dX8_add_52 ?_
    refine lv_topi (fun v20 e_v20 => ?_)
    have hq := hq v20 e_v20
    refine lv_istore (lv' := [(10, .int v20), (8, .int a6), (4, .long b7), (2, .long b8), (0, .ref (ad q9)), (9, .int a10)]) hx hb dX8_add_53 hl (by decide) rfl (fun ls hl => ?_)
    refine lv_aload_n hx hb dX8_add_55 rfl (lv_at hl 4 rfl) ?_
    refine x_get (j := 2) (C := RX8) (T := TX8) (N := 5) (v := .ref (ad (rt q9 2))) G hH hk_q9 (by decide) rfl inlX8 (by decide) (wm_5 _ (List.mem_of_getElem? (i := 17) rfl)) rfl dX8_add_56 ?_
    refine lv_iload hx hb dX8_add_59 (lv_at hl 0 rfl) ?_
    refine x_iald G hH (kt_6_2 _ hk_q9) hq.1 dX8_add_61 ?_
    have hq := hq.2
    refine lv_aload_n hx hb dX8_add_62 rfl (lv_at hl 4 rfl) ?_
    refine x_get (j := 3) (C := RX8) (T := TX8) (N := 5) (v := .int (μ12.1 q9 3)) G hH hk_q9 (by decide) rfl inlX8 (by decide) (wm_5 _ (List.mem_of_getElem? (i := 18) rfl)) rfl dX8_add_63 ?_
    refine lv_icmp_eq (tgt := 108) hx hb dX8_add_66 (by decide) (fun c21 => ?_) (fun c21 => ?_)
    · have hq := hq.1 c21
      refine lv_aload_n hx hb dX8_add_108 rfl (lv_at hl 4 rfl) ?_
      refine x_get (j := 0) (C := RX8) (T := TX8) (N := 5) (v := .ref (ad (rt q9 0))) G hH hk_q9 (by decide) rfl inlX8 (by decide) (wm_5 _ (List.mem_of_getElem? (i := 15) rfl)) rfl dX8_add_109 ?_
      refine lv_iload hx hb dX8_add_112 (lv_at hl 0 rfl) ?_
      refine x_lald G hH (kt_6_0 _ hk_q9) hq.1 dX8_add_114 ?_
      have hq := hq.2
      refine lv_lload_n hx hb dX8_add_115 rfl (lv_at hl 3 rfl) ?_
      refine W.lcmp hx hb dX8_add_116 ?_
      refine lv_if_ne (tgt := 134) hx hb dX8_add_117 (by decide) (fun c22 => ?_) (fun c22 => ?_)
      · have hq := hq.1 c22
        obtain ⟨v23, e_v23⟩ : ∃ y : Int32, y = (a10 + (1 : Int32)) := ⟨_, rfl⟩
        have hq := hq v23 e_v23
        refine lv_iinc (v := v23) (lv' := [(9, .int v23), (10, .int v20), (8, .int a6), (4, .long b7), (2, .long b8), (0, .ref (ad q9))]) hx hb dX8_add_134 hl (k := 5) rfl (by rw [e_v23]; rfl) (by decide) rfl (fun ls hl => ?_)
        refine lv_goto (tgt := 36) hx hb dX8_add_137 (by decide) ?_
        exact kK36b v23 μ12 hq _ _ _ hH (lv_sub hl [2, 3, 4, 5, 0] rfl)
      · have hq := hq.2 c22
        refine lv_aload_n hx hb dX8_add_120 rfl (lv_at hl 4 rfl) ?_
        refine x_get (j := 1) (C := RX8) (T := TX8) (N := 5) (v := .ref (ad (rt q9 1))) G hH hk_q9 (by decide) rfl inlX8 (by decide) (wm_5 _ (List.mem_of_getElem? (i := 16) rfl)) rfl dX8_add_121 ?_
        refine lv_iload hx hb dX8_add_124 (lv_at hl 0 rfl) ?_
        refine x_lald G hH (kt_6_1 _ hk_q9) hq.1 dX8_add_126 ?_
        have hq := hq.2
        refine lv_lload hx hb dX8_add_127 (lv_at hl 2 rfl) ?_
        refine W.lcmp hx hb dX8_add_129 ?_
        refine lv_if_ne (tgt := 134) hx hb dX8_add_130 (by decide) (fun c24 => ?_) (fun c24 => ?_)
        · have hq := hq.1 c24
          obtain ⟨v25, e_v25⟩ : ∃ y : Int32, y = (a10 + (1 : Int32)) := ⟨_, rfl⟩
          have hq := hq v25 e_v25
          refine lv_iinc (v := v25) (lv' := [(9, .int v25), (10, .int v20), (8, .int a6), (4, .long b7), (2, .long b8), (0, .ref (ad q9))]) hx hb dX8_add_134 hl (k := 5) rfl (by rw [e_v25]; rfl) (by decide) rfl (fun ls hl => ?_)
          refine lv_goto (tgt := 36) hx hb dX8_add_137 (by decide) ?_
          exact kK36b v25 μ12 hq _ _ _ hH (lv_sub hl [2, 3, 4, 5, 0] rfl)
        · have hq := hq.2 c24
          exact kK362  μ12 hq _ _ _ hH (lv_sub hl [] rfl)
    · have hq := hq.2 c21
      exact kK361 v20 μ12 hq _ _ _ hH (lv_sub hl [2, 3, 4, 0] rfl)
set_option maxRecDepth 100000 in
set_option maxHeartbeats 4000000 in
theorem w_X8_add_36 {E : xE} {ad : Nat → Nat} {p : Program} {l : Launch} {e : Env} {s : State} {m : MethodId} {args : Array Value} {below : List Frame} {meth : Method} {c : Code} {Q : State → Prop} (G : xG E p s m args meth c cX8_add 11 RX8) (hA : ∀ a, s.heap.size ≤ a → xA ad s.heap.size a) (a6 : Int32) (b7 : Int64) (b8 : Int64) (q9 : Nat) (hk_q9 : kd q9 = 6) : ∀ (n : Nat) (a10 : Int32) (μ12 : xM) (K360 : xM → Prop) (K361 : Int32 → xM → Prop) (K362 : xM → Prop) (hq : L_X8_add_36 a6 b7 b8 q9 n a10 μ12 K360 K361 K362) (H : Heap) (locs : List Loc) (ls : Array Slot) (hH : xH E ad (xA ad s.heap.size) s.heap μ12 H locs) (hl : lv_has ls 11 [(8, .int a6), (4, .long b7), (2, .long b8), (0, .ref (ad q9)), (9, .int a10)]) (kK360 : ∀ (μ13 : xM), K360  μ13 → ∀ (H : Heap) (locs : List Loc) (ls : Array Slot), xH E ad (xA ad s.heap.size) s.heap μ13 H locs → lv_has ls 11 [] → W p l e (headSpec tX8_add ({ frames := 3, cells := 0, slots := 0, locals := 120 } : Room)).room s m args below meth c H locs 0 0 Q (F0 m 140 ls [])) (kK361 : ∀ (a14 : Int32) (μ15 : xM), K361 a14 μ15 → ∀ (H : Heap) (locs : List Loc) (ls : Array Slot), xH E ad (xA ad s.heap.size) s.heap μ15 H locs → lv_has ls 11 [(4, .long b7), (2, .long b8), (0, .ref (ad q9)), (10, .int a14)] → W p l e (headSpec tX8_add ({ frames := 3, cells := 0, slots := 0, locals := 120 } : Room)).room s m args below meth c H locs 0 0 Q (F0 m 69 ls [])) (kK362 : ∀ (μ16 : xM), K362  μ16 → ∀ (H : Heap) (locs : List Loc) (ls : Array Slot), xH E ad (xA ad s.heap.size) s.heap μ16 H locs → lv_has ls 11 [] → W p l e (headSpec tX8_add ({ frames := 3, cells := 0, slots := 0, locals := 120 } : Room)).room s m args below meth c H locs 0 0 Q (F0 m 133 ls [])) , W p l e (headSpec tX8_add ({ frames := 3, cells := 0, slots := 0, locals := 120 } : Room)).room s m args below meth c H locs 0 0 Q (F0 m 36 ls [])
  | 0, _, _, _, _, _, hq, _, _, _, _, _, _, _, _ => hq.elim
  | n + 1, a10, μ12, K360, K361, K362, hq, H, locs, ls, hH, hl, kK360, kK361, kK362 => wb_X8_add_36 G hA a6 b7 b8 q9 hk_q9 a10 μ12 K360 K361 K362 _ hq hH hl kK360 kK361 kK362 (fun x0 y hq H locs ls hH hl => w_X8_add_36 G hA a6 b7 b8 q9 hk_q9 n x0 y K360 K361 K362 hq H locs ls hH hl kK360 kK361 kK362)
set_option maxRecDepth 100000 in
set_option maxHeartbeats 4000000 in
theorem c_X8_add (l : Launch) (E : xE) (ad : Nat → Nat) (μ : xM) (q0 : Nat) (q1 : Nat) (hk_q0 : kd q0 = 6) (hk_q1 : kd q1 = 5) (Qm : xM → Prop) (hq : p_X8_add q0 q1 μ Qm) : xMv l yX8_add tX8_add ({ frames := 3, cells := 0, slots := 0, locals := 120 } : Room) E ad μ [.ref (ad q0), .ref (ad q1)] Qm := by
  refine x_stv (cc := cX8_add) (maxL := 11) (ret := none) (own := RX8) rfl (by decide) rfl (Nat.le_of_ble_eq_true rfl) ?_
  intro p e s m args below meth c ls G hr hA hH hl
  obtain ⟨hx, hb, hml, hown, hts, hKn, hN, hlk⟩ := id G
  have hl : lv_has ls 11 [(0, .ref (ad q0)), (1, .ref (ad q1))] := hl
  have hH : xH E ad (xA ad s.heap.size) s.heap μ s.heap [] := hH
  unfold p_X8_add at hq
  refine lv_aload_n hx hb dX8_add_0 rfl (lv_at hl 1 rfl) ?_
  refine x_cVl (C := RX7) (T := TX7) (N := 3) (As := []) (rest := []) G hH hA (c_X7_coloursAndClosed l E ad μ q1 hk_q1 _ hq) (wm_20 _ (List.mem_of_getElem? (i := 18) rfl)) mi_X7_coloursAndClosed ms_X7_coloursAndClosed mn_RX7 mc_X7_coloursAndClosed rfl md_X7_coloursAndClosed ⟨rfl, rfl, Nat.le_of_ble_eq_true rfl, Nat.le_of_ble_eq_true rfl⟩ hk_q1 (by decide) rfl rfl hl.1 rfl (Nat.le_of_ble_eq_true rfl) dX8_add_1 ⟨Nat.zero_le _, Nat.zero_le _⟩ (fun r2 μ1 hq H locs hH => ?_)
  refine lv_lstore_n (lv' := [(2, .long r2), (0, .ref (ad q0)), (1, .ref (ad q1))]) hx hb dX8_add_4 rfl hl (by decide) rfl (fun ls hl => ?_)
  refine lv_aload_n hx hb dX8_add_5 rfl (lv_at hl 2 rfl) ?_
  refine x_get (j := 1) (C := RX7) (T := TX7) (N := 3) (v := .long (μ1.2 q1 1)) G hH hk_q1 (by decide) rfl inlX7 (by decide) (wm_20 _ (List.mem_of_getElem? (i := 15) rfl)) rfl dX8_add_6 ?_
  refine lv_topl (fun v3 e_v3 => ?_)
  have hq := hq v3 e_v3
  refine lv_lstore (lv' := [(4, .long v3), (2, .long r2), (0, .ref (ad q0)), (1, .ref (ad q1))]) hx hb dX8_add_9 hl (by decide) rfl (fun ls hl => ?_)
  refine lv_lload_n hx hb dX8_add_11 rfl (lv_at hl 1 rfl) ?_
  refine lv_ldc2 hx hb hown (hts _ (wm_20 _ (List.mem_of_getElem? (i := 16) rfl))) dX8_add_12 ?_
  refine lv_lmul hx hb dX8_add_15 ?_
  refine lv_lload hx hb dX8_add_16 (lv_at hl 0 rfl) ?_
  refine lv_ldc2 hx hb hown (hts _ (wm_20 _ (List.mem_of_getElem? (i := 17) rfl))) dX8_add_18 ?_
  refine lv_lmul hx hb dX8_add_21 ?_
  refine lv_ladd hx hb dX8_add_22 ?_
  refine lv_topl (fun v4 e_v4 => ?_)
  have hq := hq v4 e_v4
  refine lv_lstore (lv' := [(6, .long v4), (4, .long v3), (2, .long r2), (0, .ref (ad q0)), (1, .ref (ad q1))]) hx hb dX8_add_23 hl (by decide) rfl (fun ls hl => ?_)
  refine lv_lload hx hb dX8_add_25 (lv_at hl 0 rfl) ?_
  refine lv_bipush (v := (54 : Int32)) hx hb dX8_add_27 (by decide) ?_
  refine lv_lushr (v := (lU v4 (54 : Int32))) hx hb dX8_add_29 rfl ?_
  refine lv_l2i (v := ((lU v4 (54 : Int32)).toInt32)) hx hb dX8_add_30 rfl ?_
  refine lv_topi (fun v5 e_v5 => ?_)
  have hq := hq v5 e_v5
  refine lv_istore (lv' := [(8, .int v5), (6, .long v4), (4, .long v3), (2, .long r2), (0, .ref (ad q0)), (1, .ref (ad q1))]) hx hb dX8_add_31 hl (by decide) rfl (fun ls hl => ?_)
  refine lv_iconst (v := (0 : Int32)) hx hb dX8_add_33 (by decide) ?_
  refine lv_istore (lv' := [(9, .int (0 : Int32)), (8, .int v5), (6, .long v4), (4, .long v3), (2, .long r2), (0, .ref (ad q0)), (1, .ref (ad q1))]) hx hb dX8_add_34 hl (by decide) rfl (fun ls hl => ?_)
  obtain ⟨n11, hq⟩ := hq
  refine w_X8_add_36 G hA v5 v3 r2 q0 hk_q0 n11 (0 : Int32) μ1 _ _ _ hq _ _ _ hH (lv_sub hl [1, 3, 4, 5, 0] rfl) (fun  μ26 hq H locs ls hH hl => ?_) (fun a27 μ28 hq H locs ls hH hl => ?_) (fun  μ33 hq H locs ls hH hl => ?_)
  · exact x_vret G hr hH hq dX8_add_140
  · refine lv_aload_n hx hb dX8_add_69 rfl (lv_at hl 2 rfl) ?_
    refine x_get (j := 2) (C := RX8) (T := TX8) (N := 5) (v := .ref (ad (rt q0 2))) G hH hk_q0 (by decide) rfl inlX8 (by decide) (wm_5 _ (List.mem_of_getElem? (i := 17) rfl)) rfl dX8_add_70 ?_
    refine lv_iload hx hb dX8_add_73 (lv_at hl 3 rfl) ?_
    refine lv_aload_n hx hb dX8_add_75 rfl (lv_at hl 2 rfl) ?_
    refine x_get (j := 3) (C := RX8) (T := TX8) (N := 5) (v := .int (μ28.1 q0 3)) G hH hk_q0 (by decide) rfl inlX8 (by decide) (wm_5 _ (List.mem_of_getElem? (i := 18) rfl)) rfl dX8_add_76 ?_
    refine x_iast G hH (kt_6_2 _ hk_q0) hq.1 dX8_add_79 (fun μ29 e_μ29 H locs hH => ?_)
    have hq := hq.2 μ29 e_μ29
    refine lv_aload_n hx hb dX8_add_80 rfl (lv_at hl 2 rfl) ?_
    refine x_get (j := 0) (C := RX8) (T := TX8) (N := 5) (v := .ref (ad (rt q0 0))) G hH hk_q0 (by decide) rfl inlX8 (by decide) (wm_5 _ (List.mem_of_getElem? (i := 15) rfl)) rfl dX8_add_81 ?_
    refine lv_iload hx hb dX8_add_84 (lv_at hl 3 rfl) ?_
    refine lv_lload_n hx hb dX8_add_86 rfl (lv_at hl 1 rfl) ?_
    refine x_last G hH (kt_6_0 _ hk_q0) hq.1 dX8_add_87 (fun μ30 e_μ30 H locs hH => ?_)
    have hq := hq.2 μ30 e_μ30
    refine lv_aload_n hx hb dX8_add_88 rfl (lv_at hl 2 rfl) ?_
    refine x_get (j := 1) (C := RX8) (T := TX8) (N := 5) (v := .ref (ad (rt q0 1))) G hH hk_q0 (by decide) rfl inlX8 (by decide) (wm_5 _ (List.mem_of_getElem? (i := 16) rfl)) rfl dX8_add_89 ?_
    refine lv_iload hx hb dX8_add_92 (lv_at hl 3 rfl) ?_
    refine lv_lload hx hb dX8_add_94 (lv_at hl 0 rfl) ?_
    refine x_last G hH (kt_6_1 _ hk_q0) hq.1 dX8_add_96 (fun μ31 e_μ31 H locs hH => ?_)
    have hq := hq.2 μ31 e_μ31
    refine lv_aload_n hx hb dX8_add_97 rfl (lv_at hl 2 rfl) ?_
    refine lv_dup hx hb dX8_add_98 rfl ?_
    refine x_get (j := 4) (C := RX8) (T := TX8) (N := 5) (v := .int (μ31.1 q0 4)) G hH hk_q0 (by decide) rfl inlX8 (by decide) (wm_5 _ (List.mem_of_getElem? (i := 19) rfl)) rfl dX8_add_99 ?_
    refine lv_iconst (v := (1 : Int32)) hx hb dX8_add_102 (by decide) ?_
    refine lv_iadd hx hb dX8_add_103 ?_
    refine x_puti (j := 4) (C := RX8) (T := TX8) (N := 5) (ty := .int) G hH hk_q0 (by decide) rfl inlX8 tyX8 tyX8_ok nmX8 (by decide) (wm_5 _ (List.mem_of_getElem? (i := 19) rfl)) rfl (by decide +kernel) rfl rfl (fun _ _ => Nat.le_of_ble_eq_true rfl) (fun _ _ => rfl) dX8_add_104 (fun μ32 e_μ32 H locs hH => ?_)
    have hq := hq μ32 e_μ32
    exact x_vret G hr hH hq dX8_add_107
  · exact x_vret G hr hH hq dX8_add_133
abbrev tX6_judge : List Cond := Cond.code yX6_judge cX6_judge 6 none :: wsL_law
theorem mi_X6_judge : Cond.instanceMethod yX6_judge ∈ wsL_law := (wm_20 _ (List.mem_of_getElem? (i := 8) rfl))
theorem ms_X6_judge : Cond.selects RX6 yX6_judge yX6_judge ∈ wsL_law := (wm_20 _ (List.mem_of_getElem? (i := 9) rfl))
theorem mc_X6_judge : Cond.code yX6_judge cX6_judge 6 none ∈ wsL_law := (wm_20 _ (List.mem_of_getElem? (i := 10) rfl))
theorem md_X6_judge : yX6_judge.cls ≠ "java/lang/invoke/MethodHandle" ∧ yX6_judge.cls ≠ "java/lang/invoke/VarHandle" ∧ (parseMethodDescriptor yX6_judge.desc).map (fun d => d.parameters.length) = some 2 := by decide +kernel
set_option maxRecDepth 100000 in
set_option maxHeartbeats 4000000 in
theorem wj_X6_judge_76 {E : xE} {ad : Nat → Nat} {p : Program} {l : Launch} {e : Env} {s : State} {m : MethodId} {args : Array Value} {below : List Frame} {meth : Method} {c : Code} {Qm : xM → Prop} (G : xG E p s m args meth c cX6_judge 6 RX6) (hA : ∀ a, s.heap.size ≤ a → xA ad s.heap.size a) (hr : meth.sig.returnType = none) (a14 : Int32) (q15 : Nat) (b16 : Int64) (a17 : Int32) (a18 : Int32) (hk_q15 : kd q15 = 4) (μ19 : xM) (hq : J_X6_judge_76 a14 q15 b16 a17 a18 μ19 Qm) {H : Heap} {locs : List Loc} {ls : Array Slot} (hH : xH E ad (xA ad s.heap.size) s.heap μ19 H locs) (hl : lv_has ls 6 [(4, .int a14), (0, .ref (ad q15)), (1, .long b16), (3, .int a17)]) : W p l e (headSpec tX6_judge ({ frames := 4, cells := 0, slots := 0, locals := 160 } : Room)).room s m args below meth c H locs 0 0 (MQ below (va_Qv Qm (xPost E ad s.heap.size) (xA ad s.heap.size)) args s 0 0 (xA ad s.heap.size)) (F0 m 76 ls [.int a18]) := by
  obtain ⟨hx, hb, hml, hown, hts, hKn, hN, hlk⟩ := id G
  unfold J_X6_judge_76 at hq
  refine lv_istore (lv' := [(5, .int a18), (4, .int a14), (0, .ref (ad q15)), (1, .long b16), (3, .int a17)]) hx hb dX6_judge_76 hl (by decide) rfl (fun ls hl => ?_)
  refine lv_aload_n hx hb dX6_judge_78 rfl (lv_at hl 2 rfl) ?_
  refine x_get (j := 7) (C := RX6) (T := TX6) (N := 11) (v := .int (μ19.1 q15 7)) G hH hk_q15 (by decide) rfl inlX6 (by decide) (wm_5 _ (List.mem_of_getElem? (i := 6) rfl)) rfl dX6_judge_79 ?_
  refine lv_if_eq (tgt := 91) hx hb dX6_judge_82 (by decide) (fun c20 => ?_) (fun c20 => ?_)
  · have hq := hq.1 c20
    refine lv_aload_n hx hb dX6_judge_91 rfl (lv_at hl 2 rfl) ?_
    refine lv_iconst (v := (1 : Int32)) hx hb dX6_judge_92 (by decide) ?_
    refine x_puti (j := 7) (C := RX6) (T := TX6) (N := 11) (ty := .boolean) G hH hk_q15 (by decide) rfl inlX6 tyX6 tyX6_ok nmX6 (by decide) (wm_5 _ (List.mem_of_getElem? (i := 6) rfl)) rfl (by decide +kernel) rfl rfl (fun _ _ => Nat.le_of_ble_eq_true rfl) (fun _ _ => rfl) dX6_judge_93 (fun μ21 e_μ21 H locs hH => ?_)
    have hq := hq μ21 e_μ21
    refine lv_aload_n hx hb dX6_judge_96 rfl (lv_at hl 2 rfl) ?_
    refine lv_iload hx hb dX6_judge_97 (lv_at hl 1 rfl) ?_
    refine x_puti (j := 8) (C := RX6) (T := TX6) (N := 11) (ty := .int) G hH hk_q15 (by decide) rfl inlX6 tyX6 tyX6_ok nmX6 (by decide) (wm_5 _ (List.mem_of_getElem? (i := 7) rfl)) rfl (by decide +kernel) rfl rfl (fun _ _ => Nat.le_of_ble_eq_true rfl) (fun _ _ => rfl) dX6_judge_99 (fun μ22 e_μ22 H locs hH => ?_)
    have hq := hq μ22 e_μ22
    refine lv_aload_n hx hb dX6_judge_102 rfl (lv_at hl 2 rfl) ?_
    refine lv_iload_n hx hb dX6_judge_103 rfl (lv_at hl 4 rfl) ?_
    refine x_puti (j := 9) (C := RX6) (T := TX6) (N := 11) (ty := .int) G hH hk_q15 (by decide) rfl inlX6 tyX6 tyX6_ok nmX6 (by decide) (wm_5 _ (List.mem_of_getElem? (i := 8) rfl)) rfl (by decide +kernel) rfl rfl (fun _ _ => Nat.le_of_ble_eq_true rfl) (fun _ _ => rfl) dX6_judge_104 (fun μ23 e_μ23 H locs hH => ?_)
    have hq := hq μ23 e_μ23
    refine lv_aload_n hx hb dX6_judge_107 rfl (lv_at hl 2 rfl) ?_
    refine lv_lload_n hx hb dX6_judge_108 rfl (lv_at hl 3 rfl) ?_
    refine x_putl (j := 10) (C := RX6) (T := TX6) (N := 11) G hH hk_q15 (by decide) rfl inlX6 tyX6 tyX6_ok nmX6 (by decide) (wm_5 _ (List.mem_of_getElem? (i := 9) rfl)) rfl (by decide +kernel) (fun _ _ => Nat.le_of_ble_eq_true rfl) (fun _ _ => rfl) dX6_judge_109 (fun μ24 e_μ24 H locs hH => ?_)
    have hq := hq μ24 e_μ24
    exact x_vret G hr hH hq dX6_judge_112
  · have hq := hq.2 c20
    refine lv_iload hx hb dX6_judge_85 (lv_at hl 0 rfl) ?_
    refine lv_if_ne (tgt := 91) hx hb dX6_judge_87 (by decide) (fun c25 => ?_) (fun c25 => ?_)
    · have hq := hq.1 c25
      refine lv_aload_n hx hb dX6_judge_91 rfl (lv_at hl 2 rfl) ?_
      refine lv_iconst (v := (1 : Int32)) hx hb dX6_judge_92 (by decide) ?_
      refine x_puti (j := 7) (C := RX6) (T := TX6) (N := 11) (ty := .boolean) G hH hk_q15 (by decide) rfl inlX6 tyX6 tyX6_ok nmX6 (by decide) (wm_5 _ (List.mem_of_getElem? (i := 6) rfl)) rfl (by decide +kernel) rfl rfl (fun _ _ => Nat.le_of_ble_eq_true rfl) (fun _ _ => rfl) dX6_judge_93 (fun μ26 e_μ26 H locs hH => ?_)
      have hq := hq μ26 e_μ26
      refine lv_aload_n hx hb dX6_judge_96 rfl (lv_at hl 2 rfl) ?_
      refine lv_iload hx hb dX6_judge_97 (lv_at hl 1 rfl) ?_
      refine x_puti (j := 8) (C := RX6) (T := TX6) (N := 11) (ty := .int) G hH hk_q15 (by decide) rfl inlX6 tyX6 tyX6_ok nmX6 (by decide) (wm_5 _ (List.mem_of_getElem? (i := 7) rfl)) rfl (by decide +kernel) rfl rfl (fun _ _ => Nat.le_of_ble_eq_true rfl) (fun _ _ => rfl) dX6_judge_99 (fun μ27 e_μ27 H locs hH => ?_)
      have hq := hq μ27 e_μ27
      refine lv_aload_n hx hb dX6_judge_102 rfl (lv_at hl 2 rfl) ?_
      refine lv_iload_n hx hb dX6_judge_103 rfl (lv_at hl 4 rfl) ?_
      refine x_puti (j := 9) (C := RX6) (T := TX6) (N := 11) (ty := .int) G hH hk_q15 (by decide) rfl inlX6 tyX6 tyX6_ok nmX6 (by decide) (wm_5 _ (List.mem_of_getElem? (i := 8) rfl)) rfl (by decide +kernel) rfl rfl (fun _ _ => Nat.le_of_ble_eq_true rfl) (fun _ _ => rfl) dX6_judge_104 (fun μ28 e_μ28 H locs hH => ?_)
      have hq := hq μ28 e_μ28
      refine lv_aload_n hx hb dX6_judge_107 rfl (lv_at hl 2 rfl) ?_
      refine lv_lload_n hx hb dX6_judge_108 rfl (lv_at hl 3 rfl) ?_
      refine x_putl (j := 10) (C := RX6) (T := TX6) (N := 11) G hH hk_q15 (by decide) rfl inlX6 tyX6 tyX6_ok nmX6 (by decide) (wm_5 _ (List.mem_of_getElem? (i := 9) rfl)) rfl (by decide +kernel) (fun _ _ => Nat.le_of_ble_eq_true rfl) (fun _ _ => rfl) dX6_judge_109 (fun μ29 e_μ29 H locs hH => ?_)
      have hq := hq μ29 e_μ29
      exact x_vret G hr hH hq dX6_judge_112
    · have hq := hq.2 c25
      exact x_vret G hr hH hq dX6_judge_90
set_option maxRecDepth 100000 in
set_option maxHeartbeats 4000000 in
theorem wj_X6_judge_71 {E : xE} {ad : Nat → Nat} {p : Program} {l : Launch} {e : Env} {s : State} {m : MethodId} {args : Array Value} {below : List Frame} {meth : Method} {c : Code} {Qm : xM → Prop} (G : xG E p s m args meth c cX6_judge 6 RX6) (hA : ∀ a, s.heap.size ≤ a → xA ad s.heap.size a) (hr : meth.sig.returnType = none) (a9 : Int32) (q10 : Nat) (b11 : Int64) (a12 : Int32) (hk_q10 : kd q10 = 4) (μ13 : xM) (hq : J_X6_judge_71 a9 q10 b11 a12 μ13 Qm) {H : Heap} {locs : List Loc} {ls : Array Slot} (hH : xH E ad (xA ad s.heap.size) s.heap μ13 H locs) (hl : lv_has ls 6 [(4, .int a9), (0, .ref (ad q10)), (1, .long b11), (3, .int a12)]) : W p l e (headSpec tX6_judge ({ frames := 4, cells := 0, slots := 0, locals := 160 } : Room)).room s m args below meth c H locs 0 0 (MQ below (va_Qv Qm (xPost E ad s.heap.size) (xA ad s.heap.size)) args s 0 0 (xA ad s.heap.size)) (F0 m 71 ls []) := by
  obtain ⟨hx, hb, hml, hown, hts, hKn, hN, hlk⟩ := id G
  unfold J_X6_judge_71 at hq
  refine lv_iconst (v := (1 : Int32)) hx hb dX6_judge_71 (by decide) ?_
  refine lv_goto (tgt := 76) hx hb dX6_judge_72 (by decide) ?_
  exact wj_X6_judge_76 G hA hr  a9 q10 b11 a12 (1 : Int32)  hk_q10 μ13 hq hH (lv_sub hl [0, 1, 2, 3] rfl)
set_option maxRecDepth 100000 in
set_option maxHeartbeats 4000000 in
theorem wj_X6_judge_75 {E : xE} {ad : Nat → Nat} {p : Program} {l : Launch} {e : Env} {s : State} {m : MethodId} {args : Array Value} {below : List Frame} {meth : Method} {c : Code} {Qm : xM → Prop} (G : xG E p s m args meth c cX6_judge 6 RX6) (hA : ∀ a, s.heap.size ≤ a → xA ad s.heap.size a) (hr : meth.sig.returnType = none) (a31 : Int32) (q32 : Nat) (b33 : Int64) (a34 : Int32) (hk_q32 : kd q32 = 4) (μ35 : xM) (hq : J_X6_judge_75 a31 q32 b33 a34 μ35 Qm) {H : Heap} {locs : List Loc} {ls : Array Slot} (hH : xH E ad (xA ad s.heap.size) s.heap μ35 H locs) (hl : lv_has ls 6 [(4, .int a31), (0, .ref (ad q32)), (1, .long b33), (3, .int a34)]) : W p l e (headSpec tX6_judge ({ frames := 4, cells := 0, slots := 0, locals := 160 } : Room)).room s m args below meth c H locs 0 0 (MQ below (va_Qv Qm (xPost E ad s.heap.size) (xA ad s.heap.size)) args s 0 0 (xA ad s.heap.size)) (F0 m 75 ls []) := by
  obtain ⟨hx, hb, hml, hown, hts, hKn, hN, hlk⟩ := id G
  unfold J_X6_judge_75 at hq
  refine lv_iconst (v := (0 : Int32)) hx hb dX6_judge_75 (by decide) ?_
  exact wj_X6_judge_76 G hA hr  a31 q32 b33 a34 (0 : Int32)  hk_q32 μ35 hq hH (lv_sub hl [0, 1, 2, 3] rfl)
set_option maxRecDepth 100000 in
set_option maxHeartbeats 4000000 in
theorem wj_X6_judge_43 {E : xE} {ad : Nat → Nat} {p : Program} {l : Launch} {e : Env} {s : State} {m : MethodId} {args : Array Value} {below : List Frame} {meth : Method} {c : Code} {Qm : xM → Prop} (G : xG E p s m args meth c cX6_judge 6 RX6) (hA : ∀ a, s.heap.size ≤ a → xA ad s.heap.size a) (hr : meth.sig.returnType = none) (q3 : Nat) (b4 : Int64) (a5 : Int32) (a6 : Int32) (hk_q3 : kd q3 = 4) (μ7 : xM) (hq : J_X6_judge_43 q3 b4 a5 a6 μ7 Qm) {H : Heap} {locs : List Loc} {ls : Array Slot} (hH : xH E ad (xA ad s.heap.size) s.heap μ7 H locs) (hl : lv_has ls 6 [(0, .ref (ad q3)), (1, .long b4), (3, .int a5)]) : W p l e (headSpec tX6_judge ({ frames := 4, cells := 0, slots := 0, locals := 160 } : Room)).room s m args below meth c H locs 0 0 (MQ below (va_Qv Qm (xPost E ad s.heap.size) (xA ad s.heap.size)) args s 0 0 (xA ad s.heap.size)) (F0 m 43 ls [.int a6]) := by
  obtain ⟨hx, hb, hml, hown, hts, hKn, hN, hlk⟩ := id G
  unfold J_X6_judge_43 at hq
  refine lv_istore (lv' := [(4, .int a6), (0, .ref (ad q3)), (1, .long b4), (3, .int a5)]) hx hb dX6_judge_43 hl (by decide) rfl (fun ls hl => ?_)
  refine lv_iload hx hb dX6_judge_45 (lv_at hl 0 rfl) ?_
  refine lv_aload_n hx hb dX6_judge_47 rfl (lv_at hl 1 rfl) ?_
  refine x_get (j := 8) (C := RX6) (T := TX6) (N := 11) (v := .int (μ7.1 q3 8)) G hH hk_q3 (by decide) rfl inlX6 (by decide) (wm_5 _ (List.mem_of_getElem? (i := 7) rfl)) rfl dX6_judge_48 ?_
  refine lv_icmp_gt (tgt := 71) hx hb dX6_judge_51 (by decide) (fun c8 => ?_) (fun c8 => ?_)
  · have hq := hq.1 c8
    exact wj_X6_judge_71 G hA hr  a6 q3 b4 a5  hk_q3 μ7 hq hH (lv_sub hl [0, 1, 2, 3] rfl)
  · have hq := hq.2 c8
    refine lv_iload hx hb dX6_judge_54 (lv_at hl 0 rfl) ?_
    refine lv_aload_n hx hb dX6_judge_56 rfl (lv_at hl 1 rfl) ?_
    refine x_get (j := 8) (C := RX6) (T := TX6) (N := 11) (v := .int (μ7.1 q3 8)) G hH hk_q3 (by decide) rfl inlX6 (by decide) (wm_5 _ (List.mem_of_getElem? (i := 7) rfl)) rfl dX6_judge_57 ?_
    refine lv_icmp_ne (tgt := 75) hx hb dX6_judge_60 (by decide) (fun c30 => ?_) (fun c30 => ?_)
    · have hq := hq.1 c30
      exact wj_X6_judge_75 G hA hr  a6 q3 b4 a5  hk_q3 μ7 hq hH (lv_sub hl [0, 1, 2, 3] rfl)
    · have hq := hq.2 c30
      refine lv_iload_n hx hb dX6_judge_63 rfl (lv_at hl 3 rfl) ?_
      refine lv_aload_n hx hb dX6_judge_64 rfl (lv_at hl 1 rfl) ?_
      refine x_get (j := 9) (C := RX6) (T := TX6) (N := 11) (v := .int (μ7.1 q3 9)) G hH hk_q3 (by decide) rfl inlX6 (by decide) (wm_5 _ (List.mem_of_getElem? (i := 8) rfl)) rfl dX6_judge_65 ?_
      refine lv_icmp_ge (tgt := 75) hx hb dX6_judge_68 (by decide) (fun c41 => ?_) (fun c41 => ?_)
      · have hq := hq.1 c41
        exact wj_X6_judge_75 G hA hr  a6 q3 b4 a5  hk_q3 μ7 hq hH (lv_sub hl [0, 1, 2, 3] rfl)
      · have hq := hq.2 c41
        exact wj_X6_judge_71 G hA hr  a6 q3 b4 a5  hk_q3 μ7 hq hH (lv_sub hl [0, 1, 2, 3] rfl)
set_option maxRecDepth 100000 in
set_option maxHeartbeats 4000000 in
theorem c_X6_judge (l : Launch) (E : xE) (ad : Nat → Nat) (μ : xM) (q0 : Nat) (p1 : Int64) (p2 : Int32) (hk_q0 : kd q0 = 4) (Qm : xM → Prop) (hq : p_X6_judge q0 p1 p2 μ Qm) : xMv l yX6_judge tX6_judge ({ frames := 4, cells := 0, slots := 0, locals := 160 } : Room) E ad μ [.ref (ad q0), .long p1, .int p2] Qm := by
  refine x_stv (cc := cX6_judge) (maxL := 6) (ret := none) (own := RX6) rfl (by decide) rfl (Nat.le_of_ble_eq_true rfl) ?_
  intro p e s m args below meth c ls G hr hA hH hl
  obtain ⟨hx, hb, hml, hown, hts, hKn, hN, hlk⟩ := id G
  have hl : lv_has ls 6 [(0, .ref (ad q0)), (1, .long p1), (3, .int p2)] := hl
  have hH : xH E ad (xA ad s.heap.size) s.heap μ s.heap [] := hH
  unfold p_X6_judge at hq
  refine lv_aload_n hx hb dX6_judge_0 rfl (lv_at hl 0 rfl) ?_
  refine x_get (j := 4) (C := RX6) (T := TX6) (N := 11) (v := .int (μ.1 q0 4)) G hH hk_q0 (by decide) rfl inlX6 (by decide) (wm_5 _ (List.mem_of_getElem? (i := 3) rfl)) rfl dX6_judge_1 ?_
  refine lv_iconst (v := (2 : Int32)) hx hb dX6_judge_4 (by decide) ?_
  refine lv_icmp_ne (tgt := 20) hx hb dX6_judge_5 (by decide) (fun c1 => ?_) (fun c1 => ?_)
  · have hq := hq.1 c1
    refine lv_aload_n hx hb dX6_judge_20 rfl (lv_at hl 0 rfl) ?_
    refine x_get (j := 4) (C := RX6) (T := TX6) (N := 11) (v := .int (μ.1 q0 4)) G hH hk_q0 (by decide) rfl inlX6 (by decide) (wm_5 _ (List.mem_of_getElem? (i := 3) rfl)) rfl dX6_judge_21 ?_
    refine lv_iconst (v := (1 : Int32)) hx hb dX6_judge_24 (by decide) ?_
    refine lv_icmp_ne (tgt := 42) hx hb dX6_judge_25 (by decide) (fun c2 => ?_) (fun c2 => ?_)
    · have hq := hq.1 c2
      refine lv_iconst (v := (0 : Int32)) hx hb dX6_judge_42 (by decide) ?_
      exact wj_X6_judge_43 G hA hr  q0 p1 p2 (0 : Int32)  hk_q0 μ hq hH (lv_sub hl [0, 1, 2] rfl)
    · have hq := hq.2 c2
      refine lv_aload_n hx hb dX6_judge_28 rfl (lv_at hl 0 rfl) ?_
      refine x_get (j := 1) (C := RX6) (T := TX6) (N := 11) (v := .ref (ad (rt q0 1))) G hH hk_q0 (by decide) rfl inlX6 (by decide) (wm_4 _ (List.mem_of_getElem? (i := 21) rfl)) rfl dX6_judge_29 ?_
      refine lv_aload_n hx hb dX6_judge_32 rfl (lv_at hl 0 rfl) ?_
      refine x_get (j := 6) (C := RX6) (T := TX6) (N := 11) (v := .long (μ.2 q0 6)) G hH hk_q0 (by decide) rfl inlX6 (by decide) (wm_5 _ (List.mem_of_getElem? (i := 5) rfl)) rfl dX6_judge_33 ?_
      refine x_cVi (C := RX7) (T := TX7) (N := 3) (As := [.long (μ.2 q0 6)]) (rest := []) G hH hA (c_X7_hits l E ad μ (rt q0 1) (μ.2 q0 6) (kt_4_1 _ hk_q0) _ hq) (wm_21 _ (List.mem_of_getElem? (i := 6) rfl)) mi_X7_hits ms_X7_hits mn_RX7 mc_X7_hits rfl md_X7_hits ⟨rfl, rfl, Nat.le_of_ble_eq_true rfl, Nat.le_of_ble_eq_true rfl⟩ (kt_4_1 _ hk_q0) (by decide) rfl rfl hl.1 rfl (Nat.le_of_ble_eq_true rfl) dX6_judge_36 ⟨Nat.zero_le _, Nat.zero_le _⟩ (fun r51 μ50 hq H locs hH => ?_)
      refine lv_goto (tgt := 43) hx hb dX6_judge_39 (by decide) ?_
      exact wj_X6_judge_43 G hA hr  q0 p1 p2 r51  hk_q0 μ50 hq hH (lv_sub hl [0, 1, 2] rfl)
  · have hq := hq.2 c1
    refine lv_aload_n hx hb dX6_judge_8 rfl (lv_at hl 0 rfl) ?_
    refine x_get (j := 2) (C := RX6) (T := TX6) (N := 11) (v := .ref (ad (rt q0 2))) G hH hk_q0 (by decide) rfl inlX6 (by decide) (wm_5 _ (List.mem_of_getElem? (i := 1) rfl)) rfl dX6_judge_9 ?_
    refine lv_aload_n hx hb dX6_judge_12 rfl (lv_at hl 0 rfl) ?_
    refine x_get (j := 1) (C := RX6) (T := TX6) (N := 11) (v := .ref (ad (rt q0 1))) G hH hk_q0 (by decide) rfl inlX6 (by decide) (wm_4 _ (List.mem_of_getElem? (i := 21) rfl)) rfl dX6_judge_13 ?_
    refine x_cVv (C := RX8) (T := TX8) (N := 5) (As := [.ref (ad (rt q0 1))]) (rest := []) G hH hA (c_X8_add l E ad μ (rt q0 2) (rt q0 1) (kt_4_2 _ hk_q0) (kt_4_1 _ hk_q0) _ hq) (wm_20 _ (List.mem_of_getElem? (i := 11) rfl)) mi_X8_add ms_X8_add mn_RX8 mc_X8_add rfl md_X8_add ⟨rfl, rfl, Nat.le_of_ble_eq_true rfl, Nat.le_of_ble_eq_true rfl⟩ (kt_4_2 _ hk_q0) (by decide) rfl rfl hl.1 rfl (Nat.le_of_ble_eq_true rfl) dX6_judge_16 ⟨Nat.zero_le _, Nat.zero_le _⟩ (fun μ56 hq H locs hH => ?_)
    exact x_vret G hr hH hq dX6_judge_19
abbrev tX6_smearOf : List Cond := Cond.code yX6_smearOf cX6_smearOf 9 (some .int) :: wsL_law
theorem mi_X6_smearOf : Cond.instanceMethod yX6_smearOf ∈ wsL_law := (wm_22 _ (List.mem_of_getElem? (i := 22) rfl))
theorem ms_X6_smearOf : Cond.selects RX6 yX6_smearOf yX6_smearOf ∈ wsL_law := (wm_22 _ (List.mem_of_getElem? (i := 23) rfl))
theorem mc_X6_smearOf : Cond.code yX6_smearOf cX6_smearOf 9 (some .int) ∈ wsL_law := (wm_23 _ (List.mem_of_getElem? (i := 0) rfl))
theorem md_X6_smearOf : yX6_smearOf.cls ≠ "java/lang/invoke/MethodHandle" ∧ yX6_smearOf.cls ≠ "java/lang/invoke/VarHandle" ∧ (parseMethodDescriptor yX6_smearOf.desc).map (fun d => d.parameters.length) = some 3 := by decide +kernel
set_option maxRecDepth 100000 in
set_option maxHeartbeats 4000000 in
theorem wb_X6_smearOf_16 {E : xE} {ad : Nat → Nat} {p : Program} {l : Launch} {e : Env} {s : State} {m : MethodId} {args : Array Value} {below : List Frame} {meth : Method} {c : Code} {Q : State → Prop} (G : xG E p s m args meth c cX6_smearOf 9 RX6) (hA : ∀ a, s.heap.size ≤ a → xA ad s.heap.size a) (a3 : Int32) (q4 : Nat) (a5 : Int32) (b6 : Int64) (hk_q4 : kd q4 = 4) (a7 : Int32) (a8 : Int32) (μ10 : xM) (K160 : Int32 → xM → Prop) (K16b : Int32 → Int32 → xM → Prop) (hq : B_X6_smearOf_16 a3 q4 a5 b6 a7 a8 μ10 K160 K16b) {H : Heap} {locs : List Loc} {ls : Array Slot} (hH : xH E ad (xA ad s.heap.size) s.heap μ10 H locs) (hl : lv_has ls 9 [(6, .int a3), (0, .ref (ad q4)), (2, .int a5), (3, .long b6), (7, .int a7), (5, .int a8)]) (kK160 : ∀ (a11 : Int32) (μ12 : xM), K160 a11 μ12 → ∀ (H : Heap) (locs : List Loc) (ls : Array Slot), xH E ad (xA ad s.heap.size) s.heap μ12 H locs → lv_has ls 9 [(5, .int a11)] → W p l e (headSpec tX6_smearOf ({ frames := 3, cells := 0, slots := 0, locals := 120 } : Room)).room s m args below meth c H locs 0 0 Q (F0 m 71 ls [])) (kK16b : ∀ (a13 : Int32) (a14 : Int32) (μ15 : xM), K16b a13 a14 μ15 → ∀ (H : Heap) (locs : List Loc) (ls : Array Slot), xH E ad (xA ad s.heap.size) s.heap μ15 H locs → lv_has ls 9 [(6, .int a3), (0, .ref (ad q4)), (2, .int a5), (3, .long b6), (7, .int a13), (5, .int a14)] → W p l e (headSpec tX6_smearOf ({ frames := 3, cells := 0, slots := 0, locals := 120 } : Room)).room s m args below meth c H locs 0 0 Q (F0 m 16 ls [])) : W p l e (headSpec tX6_smearOf ({ frames := 3, cells := 0, slots := 0, locals := 120 } : Room)).room s m args below meth c H locs 0 0 Q (F0 m 16 ls []) := by
  obtain ⟨hx, hb, hml, hown, hts, hKn, hN, hlk⟩ := id G
  unfold B_X6_smearOf_16 at hq
  refine lv_iload hx hb dX6_smearOf_16 (lv_at hl 4 rfl) ?_
  refine lv_iload_n hx hb dX6_smearOf_18 rfl (lv_at hl 2 rfl) ?_
  refine lv_icmp_ge (tgt := 71) hx hb dX6_smearOf_19 (by decide) (fun c16 => ?_) (fun c16 => ?_)
  · have hq := hq.1 c16
    exact kK160 a8 μ10 hq _ _ _ hH (lv_sub hl [5] rfl)
  · have hq := hq.2 c16
    refine lv_lload_n hx hb dX6_smearOf_22 rfl (lv_at hl 3 rfl) ?_
    refine lv_iload hx hb dX6_smearOf_23 (lv_at hl 4 rfl) ?_
    refine x_cSi (As := [.long b6, .int a7]) (rest := []) G hH hA (c_X1_nibble l E ad μ10 b6 a7  _ hq) (wm_23 _ (List.mem_of_getElem? (i := 2) rfl)) mt_X1_nibble mn_RX1 mc_X1_nibble md_X1_nibble ⟨rfl, rfl, Nat.le_of_ble_eq_true rfl, Nat.le_of_ble_eq_true rfl⟩ rfl hl.1 rfl (Nat.le_of_ble_eq_true rfl) dX6_smearOf_25 ⟨Nat.zero_le _, Nat.zero_le _⟩ (fun r18 μ17 hq H locs hH => ?_)
    refine lv_istore (lv' := [(8, .int r18), (6, .int a3), (0, .ref (ad q4)), (2, .int a5), (3, .long b6), (7, .int a7), (5, .int a8)]) hx hb dX6_smearOf_28 hl (by decide) rfl (fun ls hl => ?_)
    refine lv_iload hx hb dX6_smearOf_30 (lv_at hl 6 rfl) ?_
    refine lv_aload_n hx hb dX6_smearOf_32 rfl (lv_at hl 2 rfl) ?_
    refine x_get (j := 0) (C := RX6) (T := TX6) (N := 11) (v := .ref (ad (rt q4 0))) G hH hk_q4 (by decide) rfl inlX6 (by decide) (wm_5 _ (List.mem_of_getElem? (i := 10) rfl)) rfl dX6_smearOf_33 ?_
    refine lv_iload hx hb dX6_smearOf_36 (lv_at hl 0 rfl) ?_
    refine lv_iload_n hx hb dX6_smearOf_38 rfl (lv_at hl 3 rfl) ?_
    refine lv_iload hx hb dX6_smearOf_39 (lv_at hl 5 rfl) ?_
    refine lv_isub hx hb dX6_smearOf_41 ?_
    refine lv_aload_n hx hb dX6_smearOf_42 rfl (lv_at hl 2 rfl) ?_
    refine x_get (j := 5) (C := RX6) (T := TX6) (N := 11) (v := .int (μ17.1 q4 5)) G hH hk_q4 (by decide) rfl inlX6 (by decide) (wm_5 _ (List.mem_of_getElem? (i := 4) rfl)) rfl dX6_smearOf_43 ?_
    refine lv_imul hx hb dX6_smearOf_46 ?_
    refine lv_iload hx hb dX6_smearOf_47 (lv_at hl 1 rfl) ?_
    refine lv_aload_n hx hb dX6_smearOf_49 rfl (lv_at hl 2 rfl) ?_
    refine x_get (j := 0) (C := RX6) (T := TX6) (N := 11) (v := .ref (ad (rt q4 0))) G hH hk_q4 (by decide) rfl inlX6 (by decide) (wm_5 _ (List.mem_of_getElem? (i := 10) rfl)) rfl dX6_smearOf_50 ?_
    refine lv_iload hx hb dX6_smearOf_53 (lv_at hl 0 rfl) ?_
    refine x_cVi (C := RX0) (T := TX0) (N := 9) (As := [.int r18]) (rest := [.int a3, .int ((a5 - a7) * (μ17.1 q4 5)), .int r18, .ref (ad (rt q4 0)), .int a8]) G hH hA (c_X0_placeOf l E ad μ17 (rt q4 0) r18 (kt_4_0 _ hk_q4) _ hq) (wm_23 _ (List.mem_of_getElem? (i := 1) rfl)) mi_X0_placeOf ms_X0_placeOf mn_RX0 mc_X0_placeOf rfl md_X0_placeOf ⟨rfl, rfl, Nat.le_of_ble_eq_true rfl, Nat.le_of_ble_eq_true rfl⟩ (kt_4_0 _ hk_q4) (by decide) rfl rfl hl.1 rfl (Nat.le_of_ble_eq_true rfl) dX6_smearOf_55 ⟨Nat.zero_le _, Nat.zero_le _⟩ (fun r20 μ19 hq H locs hH => ?_)
    refine lv_iand hx hb dX6_smearOf_58 ?_
    refine x_cVi (C := RX0) (T := TX0) (N := 9) (As := [.int r18, .int ((a5 - a7) * (μ17.1 q4 5)), .int (a3 &&& r20)]) (rest := [.int a8]) G hH hA (c_X0_smearBy l E ad μ19 (rt q4 0) r18 ((a5 - a7) * (μ17.1 q4 5)) (a3 &&& r20) (kt_4_0 _ hk_q4) _ hq) (wm_23 _ (List.mem_of_getElem? (i := 3) rfl)) mi_X0_smearBy ms_X0_smearBy mn_RX0 mc_X0_smearBy rfl md_X0_smearBy ⟨rfl, rfl, Nat.le_of_ble_eq_true rfl, Nat.le_of_ble_eq_true rfl⟩ (kt_4_0 _ hk_q4) (by decide) rfl rfl hl.1 rfl (Nat.le_of_ble_eq_true rfl) dX6_smearOf_59 ⟨Nat.zero_le _, Nat.zero_le _⟩ (fun r22 μ21 hq H locs hH => ?_)
    refine lv_iadd hx hb dX6_smearOf_62 ?_
    refine lv_topi (fun v23 e_v23 => ?_)
    have hq := hq v23 e_v23
    refine lv_istore (lv' := [(5, .int v23), (8, .int r18), (6, .int a3), (0, .ref (ad q4)), (2, .int a5), (3, .long b6), (7, .int a7)]) hx hb dX6_smearOf_63 hl (by decide) rfl (fun ls hl => ?_)
    obtain ⟨v24, e_v24⟩ : ∃ y : Int32, y = (a7 + (1 : Int32)) := ⟨_, rfl⟩
    have hq := hq v24 e_v24
    refine lv_iinc (v := v24) (lv' := [(7, .int v24), (5, .int v23), (8, .int r18), (6, .int a3), (0, .ref (ad q4)), (2, .int a5), (3, .long b6)]) hx hb dX6_smearOf_65 hl (k := 6) rfl (by rw [e_v24]; rfl) (by decide) rfl (fun ls hl => ?_)
    refine lv_goto (tgt := 16) hx hb dX6_smearOf_68 (by decide) ?_
    exact kK16b v24 v23 μ21 hq _ _ _ hH (lv_sub hl [3, 4, 5, 6, 0, 1] rfl)
set_option maxRecDepth 100000 in
set_option maxHeartbeats 4000000 in
theorem w_X6_smearOf_16 {E : xE} {ad : Nat → Nat} {p : Program} {l : Launch} {e : Env} {s : State} {m : MethodId} {args : Array Value} {below : List Frame} {meth : Method} {c : Code} {Q : State → Prop} (G : xG E p s m args meth c cX6_smearOf 9 RX6) (hA : ∀ a, s.heap.size ≤ a → xA ad s.heap.size a) (a3 : Int32) (q4 : Nat) (a5 : Int32) (b6 : Int64) (hk_q4 : kd q4 = 4) : ∀ (n : Nat) (a7 : Int32) (a8 : Int32) (μ10 : xM) (K160 : Int32 → xM → Prop) (hq : L_X6_smearOf_16 a3 q4 a5 b6 n a7 a8 μ10 K160) (H : Heap) (locs : List Loc) (ls : Array Slot) (hH : xH E ad (xA ad s.heap.size) s.heap μ10 H locs) (hl : lv_has ls 9 [(6, .int a3), (0, .ref (ad q4)), (2, .int a5), (3, .long b6), (7, .int a7), (5, .int a8)]) (kK160 : ∀ (a11 : Int32) (μ12 : xM), K160 a11 μ12 → ∀ (H : Heap) (locs : List Loc) (ls : Array Slot), xH E ad (xA ad s.heap.size) s.heap μ12 H locs → lv_has ls 9 [(5, .int a11)] → W p l e (headSpec tX6_smearOf ({ frames := 3, cells := 0, slots := 0, locals := 120 } : Room)).room s m args below meth c H locs 0 0 Q (F0 m 71 ls [])) , W p l e (headSpec tX6_smearOf ({ frames := 3, cells := 0, slots := 0, locals := 120 } : Room)).room s m args below meth c H locs 0 0 Q (F0 m 16 ls [])
  | 0, _, _, _, _, hq, _, _, _, _, _, _ => hq.elim
  | n + 1, a7, a8, μ10, K160, hq, H, locs, ls, hH, hl, kK160 => wb_X6_smearOf_16 G hA a3 q4 a5 b6 hk_q4 a7 a8 μ10 K160 _ hq hH hl kK160 (fun x0 x1 y hq H locs ls hH hl => w_X6_smearOf_16 G hA a3 q4 a5 b6 hk_q4 n x0 x1 y K160 hq H locs ls hH hl kK160)
set_option maxRecDepth 100000 in
set_option maxHeartbeats 4000000 in
theorem c_X6_smearOf (l : Launch) (E : xE) (ad : Nat → Nat) (μ : xM) (q0 : Nat) (p1 : Int32) (p2 : Int32) (p3 : Int64) (hk_q0 : kd q0 = 4) (Qm : Int32 → xM → Prop) (hq : p_X6_smearOf q0 p1 p2 p3 μ Qm) : xMi l yX6_smearOf tX6_smearOf ({ frames := 3, cells := 0, slots := 0, locals := 120 } : Room) E ad μ [.ref (ad q0), .int p1, .int p2, .long p3] Qm := by
  refine x_sti (cc := cX6_smearOf) (maxL := 9) (ret := (some .int)) (own := RX6) rfl (by decide) rfl (Nat.le_of_ble_eq_true rfl) ?_
  intro p e s m args below meth c ls G hr hA hH hl
  obtain ⟨hx, hb, hml, hown, hts, hKn, hN, hlk⟩ := id G
  have hl : lv_has ls 9 [(0, .ref (ad q0)), (1, .int p1), (2, .int p2), (3, .long p3)] := hl
  have hH : xH E ad (xA ad s.heap.size) s.heap μ s.heap [] := hH
  unfold p_X6_smearOf at hq
  refine lv_iconst (v := (0 : Int32)) hx hb dX6_smearOf_0 (by decide) ?_
  refine lv_istore (lv' := [(5, .int (0 : Int32)), (0, .ref (ad q0)), (1, .int p1), (2, .int p2), (3, .long p3)]) hx hb dX6_smearOf_1 hl (by decide) rfl (fun ls hl => ?_)
  refine lv_aload_n hx hb dX6_smearOf_3 rfl (lv_at hl 1 rfl) ?_
  refine x_get (j := 0) (C := RX6) (T := TX6) (N := 11) (v := .ref (ad (rt q0 0))) G hH hk_q0 (by decide) rfl inlX6 (by decide) (wm_5 _ (List.mem_of_getElem? (i := 10) rfl)) rfl dX6_smearOf_4 ?_
  refine lv_iload_n hx hb dX6_smearOf_7 rfl (lv_at hl 2 rfl) ?_
  refine x_cVi (C := RX0) (T := TX0) (N := 9) (As := [.int p1]) (rest := []) G hH hA (c_X0_placeOf l E ad μ (rt q0 0) p1 (kt_4_0 _ hk_q0) _ hq) (wm_23 _ (List.mem_of_getElem? (i := 1) rfl)) mi_X0_placeOf ms_X0_placeOf mn_RX0 mc_X0_placeOf rfl md_X0_placeOf ⟨rfl, rfl, Nat.le_of_ble_eq_true rfl, Nat.le_of_ble_eq_true rfl⟩ (kt_4_0 _ hk_q0) (by decide) rfl rfl hl.1 rfl (Nat.le_of_ble_eq_true rfl) dX6_smearOf_8 ⟨Nat.zero_le _, Nat.zero_le _⟩ (fun r2 μ1 hq H locs hH => ?_)
  refine lv_istore (lv' := [(6, .int r2), (5, .int (0 : Int32)), (0, .ref (ad q0)), (1, .int p1), (2, .int p2), (3, .long p3)]) hx hb dX6_smearOf_11 hl (by decide) rfl (fun ls hl => ?_)
  refine lv_iconst (v := (0 : Int32)) hx hb dX6_smearOf_13 (by decide) ?_
  refine lv_istore (lv' := [(7, .int (0 : Int32)), (6, .int r2), (5, .int (0 : Int32)), (0, .ref (ad q0)), (1, .int p1), (2, .int p2), (3, .long p3)]) hx hb dX6_smearOf_14 hl (by decide) rfl (fun ls hl => ?_)
  obtain ⟨n9, hq⟩ := hq
  refine w_X6_smearOf_16 G hA r2 q0 p2 p3 hk_q0 n9 (0 : Int32) (0 : Int32) μ1 _ hq _ _ _ hH (lv_sub hl [1, 3, 5, 6, 0, 2] rfl) (fun a25 μ26 hq H locs ls hH hl => ?_)
  refine lv_iload hx hb dX6_smearOf_71 (lv_at hl 0 rfl) ?_
  exact x_iret G hr hH hq dX6_smearOf_73
