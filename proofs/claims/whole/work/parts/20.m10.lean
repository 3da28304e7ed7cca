abbrev tX12_doNews : List Cond := Cond.code yX12_doNews cX12_doNews 2 (some .int) :: wsL_law
theorem mi_X12_doNews : Cond.instanceMethod yX12_doNews ∈ wsL_law := (wm_28 _ (List.mem_of_getElem? (i := 10) rfl))
theorem ms_X12_doNews : Cond.selects RX12 yX12_doNews yX12_doNews ∈ wsL_law := (wm_28 _ (List.mem_of_getElem? (i := 11) rfl))
theorem mc_X12_doNews : Cond.code yX12_doNews cX12_doNews 2 (some .int) ∈ wsL_law := (wm_28 _ (List.mem_of_getElem? (i := 12) rfl))
theorem md_X12_doNews : yX12_doNews.cls ≠ "java/lang/invoke/MethodHandle" ∧ yX12_doNews.cls ≠ "java/lang/invoke/VarHandle" ∧ (parseMethodDescriptor yX12_doNews.desc).map (fun d => d.parameters.length) = some 0 := by decide +kernel
set_option maxRecDepth 100000 in
set_option maxHeartbeats 4000000 in
theorem c_X12_doNews (l : Launch) (E : xE) (ad : Nat → Nat) (μ : xM) (q0 : Nat) (hk_q0 : kd q0 = 10) (Qm : Int32 → xM → Prop) (hq : p_X12_doNews q0 μ Qm) : xMi l yX12_doNews tX12_doNews ({ frames := 2, cells := 0, slots := 0, locals := 80 } : Room) E ad μ [.ref (ad q0)] Qm := by
  refine x_sti (cc := cX12_doNews) (maxL := 2) (ret := (some .int)) (own := RX12) rfl (by decide) rfl (Nat.le_of_ble_eq_true rfl) ?_
  intro p e s m args below meth c ls G hr hA hH hl
  obtain ⟨hx, hb, hml, hown, hts, hKn, hN, hlk⟩ := id G
  have hl : lv_has ls 2 [(0, .ref (ad q0))] := hl
  have hH : xH E ad (xA ad s.heap.size) s.heap μ s.heap [] := hH
  unfold p_X12_doNews at hq
  refine lv_aload_n hx hb dX12_doNews_0 rfl (lv_at hl 0 rfl) ?_
  refine x_get (j := 0) (C := RX12) (T := TX12) (N := 24) (v := .ref (ad (rt q0 0))) G hH hk_q0 (by decide) rfl inlX12 (by decide) (wm_6 _ (List.mem_of_getElem? (i := 18) rfl)) rfl dX12_doNews_1 ?_
  refine lv_bipush (v := (93 : Int32)) hx hb dX12_doNews_4 (by decide) ?_
  refine x_iald G hH (kt_10_0 _ hk_q0) hq.1 dX12_doNews_6 ?_
  have hq := hq.2
  refine lv_topi (fun v1 e_v1 => ?_)
  have hq := hq v1 e_v1
  refine lv_istore_n (lv' := [(1, .int v1), (0, .ref (ad q0))]) hx hb dX12_doNews_7 rfl hl (by decide) rfl (fun ls hl => ?_)
  refine lv_aload_n hx hb dX12_doNews_8 rfl (lv_at hl 1 rfl) ?_
  refine x_cVv (C := RX12) (T := TX12) (N := 24) (As := []) (rest := []) G hH hA (c_X12_clearSheet l E ad μ q0 hk_q0 _ hq) (wm_24 _ (List.mem_of_getElem? (i := 12) rfl)) mi_X12_clearSheet ms_X12_clearSheet mn_RX12 mc_X12_clearSheet rfl md_X12_clearSheet ⟨rfl, rfl, Nat.le_of_ble_eq_true rfl, Nat.le_of_ble_eq_true rfl⟩ hk_q0 (by decide) rfl rfl hl.1 rfl (Nat.le_of_ble_eq_true rfl) dX12_doNews_9 ⟨Nat.zero_le _, Nat.zero_le _⟩ (fun μ2 hq H locs hH => ?_)
  refine lv_aload_n hx hb dX12_doNews_12 rfl (lv_at hl 1 rfl) ?_
  refine x_cVv (C := RX12) (T := TX12) (N := 24) (As := []) (rest := []) G hH hA (c_X12_giveSheet l E ad μ2 q0 hk_q0 _ hq) (wm_27 _ (List.mem_of_getElem? (i := 16) rfl)) mi_X12_giveSheet ms_X12_giveSheet mn_RX12 mc_X12_giveSheet rfl md_X12_giveSheet ⟨rfl, rfl, Nat.le_of_ble_eq_true rfl, Nat.le_of_ble_eq_true rfl⟩ hk_q0 (by decide) rfl rfl hl.1 rfl (Nat.le_of_ble_eq_true rfl) dX12_doNews_13 ⟨Nat.zero_le _, Nat.zero_le _⟩ (fun μ3 hq H locs hH => ?_)
  refine lv_aload_n hx hb dX12_doNews_16 rfl (lv_at hl 1 rfl) ?_
  refine x_get (j := 0) (C := RX12) (T := TX12) (N := 24) (v := .ref (ad (rt q0 0))) G hH hk_q0 (by decide) rfl inlX12 (by decide) (wm_6 _ (List.mem_of_getElem? (i := 18) rfl)) rfl dX12_doNews_17 ?_
  refine lv_bipush (v := (92 : Int32)) hx hb dX12_doNews_20 (by decide) ?_
  refine lv_iconst (v := (0 : Int32)) hx hb dX12_doNews_22 (by decide) ?_
  refine x_iast G hH (kt_10_0 _ hk_q0) hq.1 dX12_doNews_23 (fun μ4 e_μ4 H locs hH => ?_)
  have hq := hq.2 μ4 e_μ4
  refine lv_aload_n hx hb dX12_doNews_24 rfl (lv_at hl 1 rfl) ?_
  refine x_get (j := 0) (C := RX12) (T := TX12) (N := 24) (v := .ref (ad (rt q0 0))) G hH hk_q0 (by decide) rfl inlX12 (by decide) (wm_6 _ (List.mem_of_getElem? (i := 18) rfl)) rfl dX12_doNews_25 ?_
  refine lv_bipush (v := (93 : Int32)) hx hb dX12_doNews_28 (by decide) ?_
  refine lv_iconst (v := (0 : Int32)) hx hb dX12_doNews_30 (by decide) ?_
  refine x_iast G hH (kt_10_0 _ hk_q0) hq.1 dX12_doNews_31 (fun μ5 e_μ5 H locs hH => ?_)
  have hq := hq.2 μ5 e_μ5
  refine lv_aload_n hx hb dX12_doNews_32 rfl (lv_at hl 1 rfl) ?_
  refine x_get (j := 0) (C := RX12) (T := TX12) (N := 24) (v := .ref (ad (rt q0 0))) G hH hk_q0 (by decide) rfl inlX12 (by decide) (wm_6 _ (List.mem_of_getElem? (i := 18) rfl)) rfl dX12_doNews_33 ?_
  refine lv_bipush (v := (94 : Int32)) hx hb dX12_doNews_36 (by decide) ?_
  refine lv_iconst (v := (0 : Int32)) hx hb dX12_doNews_38 (by decide) ?_
  refine x_iast G hH (kt_10_0 _ hk_q0) hq.1 dX12_doNews_39 (fun μ6 e_μ6 H locs hH => ?_)
  have hq := hq.2 μ6 e_μ6
  refine lv_iload_n hx hb dX12_doNews_40 rfl (lv_at hl 0 rfl) ?_
  exact x_iret G hr hH hq dX12_doNews_41
abbrev tX12_doShifts : List Cond := Cond.code yX12_doShifts cX12_doShifts 4 (some .int) :: wsL_law
theorem mi_X12_doShifts : Cond.instanceMethod yX12_doShifts ∈ wsL_law := (wm_12 _ (List.mem_of_getElem? (i := 19) rfl))
theorem ms_X12_doShifts : Cond.selects RX12 yX12_doShifts yX12_doShifts ∈ wsL_law := (wm_12 _ (List.mem_of_getElem? (i := 20) rfl))
theorem mc_X12_doShifts : Cond.code yX12_doShifts cX12_doShifts 4 (some .int) ∈ wsL_law := (wm_12 _ (List.mem_of_getElem? (i := 21) rfl))
theorem md_X12_doShifts : yX12_doShifts.cls ≠ "java/lang/invoke/MethodHandle" ∧ yX12_doShifts.cls ≠ "java/lang/invoke/VarHandle" ∧ (parseMethodDescriptor yX12_doShifts.desc).map (fun d => d.parameters.length) = some 3 := by decide +kernel
set_option maxRecDepth 100000 in
set_option maxHeartbeats 4000000 in
theorem c_X12_doShifts (l : Launch) (E : xE) (ad : Nat → Nat) (μ : xM) (q0 : Nat) (p1 : Int32) (p2 : Int32) (p3 : Int32) (hk_q0 : kd q0 = 10) (Qm : Int32 → xM → Prop) (hq : p_X12_doShifts q0 p1 p2 p3 μ Qm) : xMi l yX12_doShifts tX12_doShifts ({ frames := 4, cells := 0, slots := 0, locals := 160 } : Room) E ad μ [.ref (ad q0), .int p1, .int p2, .int p3] Qm := by
  refine x_sti (cc := cX12_doShifts) (maxL := 4) (ret := (some .int)) (own := RX12) rfl (by decide) rfl (Nat.le_of_ble_eq_true rfl) ?_
  intro p e s m args below meth c ls G hr hA hH hl
  obtain ⟨hx, hb, hml, hown, hts, hKn, hN, hlk⟩ := id G
  have hl : lv_has ls 4 [(0, .ref (ad q0)), (1, .int p1), (2, .int p2), (3, .int p3)] := hl
  have hH : xH E ad (xA ad s.heap.size) s.heap μ s.heap [] := hH
  unfold p_X12_doShifts at hq
  refine lv_aload_n hx hb dX12_doShifts_0 rfl (lv_at hl 0 rfl) ?_
  refine lv_iload_n hx hb dX12_doShifts_1 rfl (lv_at hl 1 rfl) ?_
  refine x_cVi (C := RX12) (T := TX12) (N := 24) (As := [.int p1]) (rest := []) G hH hA (c_X12_isBlock l E ad μ q0 p1 hk_q0 _ hq) (wm_12 _ (List.mem_of_getElem? (i := 22) rfl)) mi_X12_isBlock ms_X12_isBlock mn_RX12 mc_X12_isBlock rfl md_X12_isBlock ⟨rfl, rfl, Nat.le_of_ble_eq_true rfl, Nat.le_of_ble_eq_true rfl⟩ hk_q0 (by decide) rfl rfl hl.1 rfl (Nat.le_of_ble_eq_true rfl) dX12_doShifts_2 ⟨Nat.zero_le _, Nat.zero_le _⟩ (fun r2 μ1 hq H locs hH => ?_)
  refine lv_if_eq (tgt := 28) hx hb dX12_doShifts_5 (by decide) (fun c3 => ?_) (fun c3 => ?_)
  · have hq := hq.1 c3
    refine lv_bipush (v := (-2 : Int32)) hx hb dX12_doShifts_28 (by decide) ?_
    exact x_iret G hr hH hq dX12_doShifts_30
  · have hq := hq.2 c3
    refine lv_iload_n hx hb dX12_doShifts_8 rfl (lv_at hl 2 rfl) ?_
    refine lv_bipush (v := (-3 : Int32)) hx hb dX12_doShifts_9 (by decide) ?_
    refine lv_iconst (v := (3 : Int32)) hx hb dX12_doShifts_11 (by decide) ?_
    refine x_cSi (As := [.int p2, .int (-3 : Int32), .int (3 : Int32)]) (rest := []) G hH hA (c_X12_in l E ad μ1 p2 (-3 : Int32) (3 : Int32)  _ hq) (wm_10 _ (List.mem_of_getElem? (i := 23) rfl)) mt_X12_in mn_RX12 mc_X12_in md_X12_in ⟨rfl, rfl, Nat.le_of_ble_eq_true rfl, Nat.le_of_ble_eq_true rfl⟩ rfl hl.1 rfl (Nat.le_of_ble_eq_true rfl) dX12_doShifts_12 ⟨Nat.zero_le _, Nat.zero_le _⟩ (fun r5 μ4 hq H locs hH => ?_)
    refine lv_if_eq (tgt := 28) hx hb dX12_doShifts_15 (by decide) (fun c6 => ?_) (fun c6 => ?_)
    · have hq := hq.1 c6
      refine lv_bipush (v := (-2 : Int32)) hx hb dX12_doShifts_28 (by decide) ?_
      exact x_iret G hr hH hq dX12_doShifts_30
    · have hq := hq.2 c6
      refine lv_iload_n hx hb dX12_doShifts_18 rfl (lv_at hl 3 rfl) ?_
      refine lv_bipush (v := (-3 : Int32)) hx hb dX12_doShifts_19 (by decide) ?_
      refine lv_iconst (v := (3 : Int32)) hx hb dX12_doShifts_21 (by decide) ?_
      refine x_cSi (As := [.int p3, .int (-3 : Int32), .int (3 : Int32)]) (rest := []) G hH hA (c_X12_in l E ad μ4 p3 (-3 : Int32) (3 : Int32)  _ hq) (wm_10 _ (List.mem_of_getElem? (i := 23) rfl)) mt_X12_in mn_RX12 mc_X12_in md_X12_in ⟨rfl, rfl, Nat.le_of_ble_eq_true rfl, Nat.le_of_ble_eq_true rfl⟩ rfl hl.1 rfl (Nat.le_of_ble_eq_true rfl) dX12_doShifts_22 ⟨Nat.zero_le _, Nat.zero_le _⟩ (fun r8 μ7 hq H locs hH => ?_)
      refine lv_if_ne (tgt := 31) hx hb dX12_doShifts_25 (by decide) (fun c9 => ?_) (fun c9 => ?_)
      · have hq := hq.1 c9
        refine lv_aload_n hx hb dX12_doShifts_31 rfl (lv_at hl 0 rfl) ?_
        refine x_get (j := 0) (C := RX12) (T := TX12) (N := 24) (v := .ref (ad (rt q0 0))) G hH hk_q0 (by decide) rfl inlX12 (by decide) (wm_6 _ (List.mem_of_getElem? (i := 18) rfl)) rfl dX12_doShifts_32 ?_
        refine lv_iconst (v := (1 : Int32)) hx hb dX12_doShifts_35 (by decide) ?_
        refine lv_bipush (v := (7 : Int32)) hx hb dX12_doShifts_36 (by decide) ?_
        refine lv_iload_n hx hb dX12_doShifts_38 rfl (lv_at hl 1 rfl) ?_
        refine lv_imul hx hb dX12_doShifts_39 ?_
        refine lv_iadd hx hb dX12_doShifts_40 ?_
        refine lv_iconst (v := (4 : Int32)) hx hb dX12_doShifts_41 (by decide) ?_
        refine lv_iadd hx hb dX12_doShifts_42 ?_
        refine lv_iload_n hx hb dX12_doShifts_43 rfl (lv_at hl 2 rfl) ?_
        refine x_iast G hH (kt_10_0 _ hk_q0) hq.1 dX12_doShifts_44 (fun μ10 e_μ10 H locs hH => ?_)
        have hq := hq.2 μ10 e_μ10
        refine lv_aload_n hx hb dX12_doShifts_45 rfl (lv_at hl 0 rfl) ?_
        refine x_get (j := 0) (C := RX12) (T := TX12) (N := 24) (v := .ref (ad (rt q0 0))) G hH hk_q0 (by decide) rfl inlX12 (by decide) (wm_6 _ (List.mem_of_getElem? (i := 18) rfl)) rfl dX12_doShifts_46 ?_
        refine lv_iconst (v := (1 : Int32)) hx hb dX12_doShifts_49 (by decide) ?_
        refine lv_bipush (v := (7 : Int32)) hx hb dX12_doShifts_50 (by decide) ?_
        refine lv_iload_n hx hb dX12_doShifts_52 rfl (lv_at hl 1 rfl) ?_
        refine lv_imul hx hb dX12_doShifts_53 ?_
        refine lv_iadd hx hb dX12_doShifts_54 ?_
        refine lv_iconst (v := (5 : Int32)) hx hb dX12_doShifts_55 (by decide) ?_
        refine lv_iadd hx hb dX12_doShifts_56 ?_
        refine lv_iload_n hx hb dX12_doShifts_57 rfl (lv_at hl 3 rfl) ?_
        refine x_iast G hH (kt_10_0 _ hk_q0) hq.1 dX12_doShifts_58 (fun μ11 e_μ11 H locs hH => ?_)
        have hq := hq.2 μ11 e_μ11
        refine lv_aload_n hx hb dX12_doShifts_59 rfl (lv_at hl 0 rfl) ?_
        refine lv_iload_n hx hb dX12_doShifts_60 rfl (lv_at hl 1 rfl) ?_
        refine x_cVi (C := RX12) (T := TX12) (N := 24) (As := [.int p1]) (rest := []) G hH hA (c_X12_placeOf l E ad μ11 q0 p1 hk_q0 _ hq) (wm_13 _ (List.mem_of_getElem? (i := 2) rfl)) mi_X12_placeOf ms_X12_placeOf mn_RX12 mc_X12_placeOf rfl md_X12_placeOf ⟨rfl, rfl, Nat.le_of_ble_eq_true rfl, Nat.le_of_ble_eq_true rfl⟩ hk_q0 (by decide) rfl rfl hl.1 rfl (Nat.le_of_ble_eq_true rfl) dX12_doShifts_61 ⟨Nat.zero_le _, Nat.zero_le _⟩ (fun r13 μ12 hq H locs hH => ?_)
        refine x_cSi (As := [.int r13]) (rest := []) G hH hA (c_X12_bits l E ad μ12 r13  _ hq) (wm_13 _ (List.mem_of_getElem? (i := 16) rfl)) mt_X12_bits mn_RX12 mc_X12_bits md_X12_bits ⟨rfl, rfl, Nat.le_of_ble_eq_true rfl, Nat.le_of_ble_eq_true rfl⟩ rfl hl.1 rfl (Nat.le_of_ble_eq_true rfl) dX12_doShifts_64 ⟨Nat.zero_le _, Nat.zero_le _⟩ (fun r15 μ14 hq H locs hH => ?_)
        exact x_iret G hr hH hq dX12_doShifts_67
      · have hq := hq.2 c9
        refine lv_bipush (v := (-2 : Int32)) hx hb dX12_doShifts_28 (by decide) ?_
        exact x_iret G hr hH hq dX12_doShifts_30
abbrev tX12_doPrints : List Cond := Cond.code yX12_doPrints cX12_doPrints 8 (some .int) :: wsL_law
theorem mi_X12_doPrints : Cond.instanceMethod yX12_doPrints ∈ wsL_law := (wm_27 _ (List.mem_of_getElem? (i := 9) rfl))
theorem ms_X12_doPrints : Cond.selects RX12 yX12_doPrints yX12_doPrints ∈ wsL_law := (wm_27 _ (List.mem_of_getElem? (i := 10) rfl))
theorem mc_X12_doPrints : Cond.code yX12_doPrints cX12_doPrints 8 (some .int) ∈ wsL_law := (wm_27 _ (List.mem_of_getElem? (i := 11) rfl))
theorem md_X12_doPrints : yX12_doPrints.cls ≠ "java/lang/invoke/MethodHandle" ∧ yX12_doPrints.cls ≠ "java/lang/invoke/VarHandle" ∧ (parseMethodDescriptor yX12_doPrints.desc).map (fun d => d.parameters.length) = some 2 := by decide +kernel
set_option maxRecDepth 100000 in
set_option maxHeartbeats 4000000 in
theorem wb_X12_doPrints_26 {E : xE} {ad : Nat → Nat} {p : Program} {l : Launch} {e : Env} {s : State} {m : MethodId} {args : Array Value} {below : List Frame} {meth : Method} {c : Code} {Q : State → Prop} (G : xG E p s m args meth c cX12_doPrints 8 RX12) (hA : ∀ a, s.heap.size ≤ a → xA ad s.heap.size a) (q7 : Nat) (a8 : Int32) (a9 : Int32) (hk_q7 : kd q7 = 10) (a10 : Int32) (a11 : Int32) (μ13 : xM) (K260 : Int32 → xM → Prop) (K26b : Int32 → Int32 → xM → Prop) (hq : B_X12_doPrints_26 q7 a8 a9 a10 a11 μ13 K260 K26b) {H : Heap} {locs : List Loc} {ls : Array Slot} (hH : xH E ad (xA ad s.heap.size) s.heap μ13 H locs) (hl : lv_has ls 8 [(0, .ref (ad q7)), (1, .int a8), (2, .int a9), (4, .int a10), (3, .int a11)]) (kK260 : ∀ (a14 : Int32) (μ15 : xM), K260 a14 μ15 → ∀ (H : Heap) (locs : List Loc) (ls : Array Slot), xH E ad (xA ad s.heap.size) s.heap μ15 H locs → lv_has ls 8 [(0, .ref (ad q7)), (1, .int a8), (2, .int a9), (3, .int a14)] → W p l e (headSpec tX12_doPrints ({ frames := 4, cells := 0, slots := 0, locals := 160 } : Room)).room s m args below meth c H locs 0 0 Q (F0 m 61 ls [])) (kK26b : ∀ (a16 : Int32) (a17 : Int32) (μ18 : xM), K26b a16 a17 μ18 → ∀ (H : Heap) (locs : List Loc) (ls : Array Slot), xH E ad (xA ad s.heap.size) s.heap μ18 H locs → lv_has ls 8 [(0, .ref (ad q7)), (1, .int a8), (2, .int a9), (4, .int a16), (3, .int a17)] → W p l e (headSpec tX12_doPrints ({ frames := 4, cells := 0, slots := 0, locals := 160 } : Room)).room s m args below meth c H locs 0 0 Q (F0 m 26 ls [])) : W p l e (headSpec tX12_doPrints ({ frames := 4, cells := 0, slots := 0, locals := 160 } : Room)).room s m args below meth c H locs 0 0 Q (F0 m 26 ls []) := by
  obtain ⟨hx, hb, hml, hown, hts, hKn, hN, hlk⟩ := id G
  unfold B_X12_doPrints_26 at hq
  refine lv_iload hx hb dX12_doPrints_26 (lv_at hl 3 rfl) ?_
  refine lv_aload_n hx hb dX12_doPrints_28 rfl (lv_at hl 0 rfl) ?_
  refine x_get (j := 0) (C := RX12) (T := TX12) (N := 24) (v := .ref (ad (rt q7 0))) G hH hk_q7 (by decide) rfl inlX12 (by decide) (wm_6 _ (List.mem_of_getElem? (i := 18) rfl)) rfl dX12_doPrints_29 ?_
  refine lv_bipush (v := (93 : Int32)) hx hb dX12_doPrints_32 (by decide) ?_
  refine x_iald G hH (kt_10_0 _ hk_q7) hq.1 dX12_doPrints_34 ?_
  have hq := hq.2
  refine lv_icmp_ge (tgt := 61) hx hb dX12_doPrints_35 (by decide) (fun c19 => ?_) (fun c19 => ?_)
  · have hq := hq.1 c19
    exact kK260 a11 μ13 hq _ _ _ hH (lv_sub hl [0, 1, 2, 4] rfl)
  · have hq := hq.2 c19
    refine lv_iload_n hx hb dX12_doPrints_38 rfl (lv_at hl 4 rfl) ?_
    refine lv_iconst (v := (1 : Int32)) hx hb dX12_doPrints_39 (by decide) ?_
    refine lv_aload_n hx hb dX12_doPrints_40 rfl (lv_at hl 0 rfl) ?_
    refine x_get (j := 0) (C := RX12) (T := TX12) (N := 24) (v := .ref (ad (rt q7 0))) G hH hk_q7 (by decide) rfl inlX12 (by decide) (wm_6 _ (List.mem_of_getElem? (i := 18) rfl)) rfl dX12_doPrints_41 ?_
    refine lv_bipush (v := (95 : Int32)) hx hb dX12_doPrints_44 (by decide) ?_
    refine lv_iconst (v := (3 : Int32)) hx hb dX12_doPrints_46 (by decide) ?_
    refine lv_iload hx hb dX12_doPrints_47 (lv_at hl 3 rfl) ?_
    refine lv_imul hx hb dX12_doPrints_49 ?_
    refine lv_iadd hx hb dX12_doPrints_50 ?_
    refine x_iald G hH (kt_10_0 _ hk_q7) hq.1 dX12_doPrints_51 ?_
    have hq := hq.2
    refine lv_ishl hx hb dX12_doPrints_52 ?_
    refine lv_ior hx hb dX12_doPrints_53 ?_
    refine lv_topi (fun v20 e_v20 => ?_)
    have hq := hq v20 e_v20
    refine lv_istore_n (lv' := [(3, .int v20), (0, .ref (ad q7)), (1, .int a8), (2, .int a9), (4, .int a10)]) hx hb dX12_doPrints_54 rfl hl (by decide) rfl (fun ls hl => ?_)
    obtain ⟨v21, e_v21⟩ : ∃ y : Int32, y = (a10 + (1 : Int32)) := ⟨_, rfl⟩
    have hq := hq v21 e_v21
    refine lv_iinc (v := v21) (lv' := [(4, .int v21), (3, .int v20), (0, .ref (ad q7)), (1, .int a8), (2, .int a9)]) hx hb dX12_doPrints_55 hl (k := 4) rfl (by rw [e_v21]; rfl) (by decide) rfl (fun ls hl => ?_)
    refine lv_goto (tgt := 26) hx hb dX12_doPrints_58 (by decide) ?_
    exact kK26b v21 v20 μ13 hq _ _ _ hH (lv_sub hl [2, 3, 4, 0, 1] rfl)
set_option maxRecDepth 100000 in
set_option maxHeartbeats 4000000 in
theorem w_X12_doPrints_26 {E : xE} {ad : Nat → Nat} {p : Program} {l : Launch} {e : Env} {s : State} {m : MethodId} {args : Array Value} {below : List Frame} {meth : Method} {c : Code} {Q : State → Prop} (G : xG E p s m args meth c cX12_doPrints 8 RX12) (hA : ∀ a, s.heap.size ≤ a → xA ad s.heap.size a) (q7 : Nat) (a8 : Int32) (a9 : Int32) (hk_q7 : kd q7 = 10) : ∀ (n : Nat) (a10 : Int32) (a11 : Int32) (μ13 : xM) (K260 : Int32 → xM → Prop) (hq : L_X12_doPrints_26 q7 a8 a9 n a10 a11 μ13 K260) (H : Heap) (locs : List Loc) (ls : Array Slot) (hH : xH E ad (xA ad s.heap.size) s.heap μ13 H locs) (hl : lv_has ls 8 [(0, .ref (ad q7)), (1, .int a8), (2, .int a9), (4, .int a10), (3, .int a11)]) (kK260 : ∀ (a14 : Int32) (μ15 : xM), K260 a14 μ15 → ∀ (H : Heap) (locs : List Loc) (ls : Array Slot), xH E ad (xA ad s.heap.size) s.heap μ15 H locs → lv_has ls 8 [(0, .ref (ad q7)), (1, .int a8), (2, .int a9), (3, .int a14)] → W p l e (headSpec tX12_doPrints ({ frames := 4, cells := 0, slots := 0, locals := 160 } : Room)).room s m args below meth c H locs 0 0 Q (F0 m 61 ls [])) , W p l e (headSpec tX12_doPrints ({ frames := 4, cells := 0, slots := 0, locals := 160 } : Room)).room s m args below meth c H locs 0 0 Q (F0 m 26 ls [])
  | 0, _, _, _, _, hq, _, _, _, _, _, _ => hq.elim
  | n + 1, a10, a11, μ13, K260, hq, H, locs, ls, hH, hl, kK260 => wb_X12_doPrints_26 G hA q7 a8 a9 hk_q7 a10 a11 μ13 K260 _ hq hH hl kK260 (fun x0 x1 y hq H locs ls hH hl => w_X12_doPrints_26 G hA q7 a8 a9 hk_q7 n x0 x1 y K260 hq H locs ls hH hl kK260)
set_option maxRecDepth 100000 in
set_option maxHeartbeats 4000000 in
theorem wb_X12_doPrints_117 {E : xE} {ad : Nat → Nat} {p : Program} {l : Launch} {e : Env} {s : State} {m : MethodId} {args : Array Value} {below : List Frame} {meth : Method} {c : Code} {Q : State → Prop} (G : xG E p s m args meth c cX12_doPrints 8 RX12) (hA : ∀ a, s.heap.size ≤ a → xA ad s.heap.size a) (a31 : Int32) (q32 : Nat) (a33 : Int32) (hk_q32 : kd q32 = 10) (a34 : Int32) (a35 : Int32) (μ37 : xM) (K1170 : Int32 → xM → Prop) (K117b : Int32 → Int32 → xM → Prop) (hq : B_X12_doPrints_117 a31 q32 a33 a34 a35 μ37 K1170 K117b) {H : Heap} {locs : List Loc} {ls : Array Slot} (hH : xH E ad (xA ad s.heap.size) s.heap μ37 H locs) (hl : lv_has ls 8 [(4, .int a31), (0, .ref (ad q32)), (1, .int a33), (6, .int a34), (5, .int a35)]) (kK1170 : ∀ (a38 : Int32) (μ39 : xM), K1170 a38 μ39 → ∀ (H : Heap) (locs : List Loc) (ls : Array Slot), xH E ad (xA ad s.heap.size) s.heap μ39 H locs → lv_has ls 8 [(4, .int a31), (0, .ref (ad q32)), (1, .int a33), (5, .int a38)] → W p l e (headSpec tX12_doPrints ({ frames := 4, cells := 0, slots := 0, locals := 160 } : Room)).room s m args below meth c H locs 0 0 Q (F0 m 214 ls [])) (kK117b : ∀ (a40 : Int32) (a41 : Int32) (μ42 : xM), K117b a40 a41 μ42 → ∀ (H : Heap) (locs : List Loc) (ls : Array Slot), xH E ad (xA ad s.heap.size) s.heap μ42 H locs → lv_has ls 8 [(4, .int a31), (0, .ref (ad q32)), (1, .int a33), (6, .int a40), (5, .int a41)] → W p l e (headSpec tX12_doPrints ({ frames := 4, cells := 0, slots := 0, locals := 160 } : Room)).room s m args below meth c H locs 0 0 Q (F0 m 117 ls [])) : W p l e (headSpec tX12_doPrints ({ frames := 4, cells := 0, slots := 0, locals := 160 } : Room)).room s m args below meth c H locs 0 0 Q (F0 m 117 ls []) := by
  obtain ⟨hx, hb, hml, hown, hts, hKn, hN, hlk⟩ := id G
  unfold B_X12_doPrints_117 at hq
  refine lv_iload hx hb dX12_doPrints_117 (lv_at hl 3 rfl) ?_
  refine lv_aload_n hx hb dX12_doPrints_119 rfl (lv_at hl 1 rfl) ?_
  refine x_get (j := 0) (C := RX12) (T := TX12) (N := 24) (v := .ref (ad (rt q32 0))) G hH hk_q32 (by decide) rfl inlX12 (by decide) (wm_6 _ (List.mem_of_getElem? (i := 18) rfl)) rfl dX12_doPrints_120 ?_
  refine lv_bipush (v := (93 : Int32)) hx hb dX12_doPrints_123 (by decide) ?_
  refine x_iald G hH (kt_10_0 _ hk_q32) hq.1 dX12_doPrints_125 ?_
  have hq := hq.2
  refine lv_icmp_ge (tgt := 214) hx hb dX12_doPrints_126 (by decide) (fun c43 => ?_) (fun c43 => ?_)
  · have hq := hq.1 c43
    exact kK1170 a35 μ37 hq _ _ _ hH (lv_sub hl [0, 1, 2, 4] rfl)
  · have hq := hq.2 c43
    refine lv_aload_n hx hb dX12_doPrints_129 rfl (lv_at hl 1 rfl) ?_
    refine x_get (j := 0) (C := RX12) (T := TX12) (N := 24) (v := .ref (ad (rt q32 0))) G hH hk_q32 (by decide) rfl inlX12 (by decide) (wm_6 _ (List.mem_of_getElem? (i := 18) rfl)) rfl dX12_doPrints_130 ?_
    refine lv_bipush (v := (95 : Int32)) hx hb dX12_doPrints_133 (by decide) ?_
    refine lv_iconst (v := (3 : Int32)) hx hb dX12_doPrints_135 (by decide) ?_
    refine lv_iload hx hb dX12_doPrints_136 (lv_at hl 3 rfl) ?_
    refine lv_imul hx hb dX12_doPrints_138 ?_
    refine lv_iadd hx hb dX12_doPrints_139 ?_
    refine lv_iconst (v := (1 : Int32)) hx hb dX12_doPrints_140 (by decide) ?_
    refine lv_iadd hx hb dX12_doPrints_141 ?_
    refine x_iald G hH (kt_10_0 _ hk_q32) hq.1 dX12_doPrints_142 ?_
    have hq := hq.2
    refine lv_aload_n hx hb dX12_doPrints_143 rfl (lv_at hl 1 rfl) ?_
    refine lv_aload_n hx hb dX12_doPrints_144 rfl (lv_at hl 1 rfl) ?_
    refine x_get (j := 0) (C := RX12) (T := TX12) (N := 24) (v := .ref (ad (rt q32 0))) G hH hk_q32 (by decide) rfl inlX12 (by decide) (wm_6 _ (List.mem_of_getElem? (i := 18) rfl)) rfl dX12_doPrints_145 ?_
    refine lv_bipush (v := (95 : Int32)) hx hb dX12_doPrints_148 (by decide) ?_
    refine lv_iconst (v := (3 : Int32)) hx hb dX12_doPrints_150 (by decide) ?_
    refine lv_iload hx hb dX12_doPrints_151 (lv_at hl 3 rfl) ?_
    refine lv_imul hx hb dX12_doPrints_153 ?_
    refine lv_iadd hx hb dX12_doPrints_154 ?_
    refine x_iald G hH (kt_10_0 _ hk_q32) hq.1 dX12_doPrints_155 ?_
    have hq := hq.2
    refine lv_iconst (v := (2 : Int32)) hx hb dX12_doPrints_156 (by decide) ?_
    refine x_cVi (C := RX12) (T := TX12) (N := 24) (As := [.int (μ37.1 (rt q32 0) ((95 : Int32) + ((3 : Int32) * a34)).toNatClampNeg), .int (2 : Int32)]) (rest := [.int (μ37.1 (rt q32 0) (((95 : Int32) + ((3 : Int32) * a34)) + (1 : Int32)).toNatClampNeg)]) G hH hA (c_X12_ofBlock l E ad μ37 q32 (μ37.1 (rt q32 0) ((95 : Int32) + ((3 : Int32) * a34)).toNatClampNeg) (2 : Int32) hk_q32 _ hq) (wm_13 _ (List.mem_of_getElem? (i := 6) rfl)) mi_X12_ofBlock ms_X12_ofBlock mn_RX12 mc_X12_ofBlock rfl md_X12_ofBlock ⟨rfl, rfl, Nat.le_of_ble_eq_true rfl, Nat.le_of_ble_eq_true rfl⟩ hk_q32 (by decide) rfl rfl hl.1 rfl (Nat.le_of_ble_eq_true rfl) dX12_doPrints_157 ⟨Nat.zero_le _, Nat.zero_le _⟩ (fun r45 μ44 hq H locs hH => ?_)
    refine lv_iadd hx hb dX12_doPrints_160 ?_
    refine lv_aload_n hx hb dX12_doPrints_161 rfl (lv_at hl 1 rfl) ?_
    refine x_get (j := 0) (C := RX12) (T := TX12) (N := 24) (v := .ref (ad (rt q32 0))) G hH hk_q32 (by decide) rfl inlX12 (by decide) (wm_6 _ (List.mem_of_getElem? (i := 18) rfl)) rfl dX12_doPrints_162 ?_
    refine lv_bipush (v := (92 : Int32)) hx hb dX12_doPrints_165 (by decide) ?_
    refine x_iald G hH (kt_10_0 _ hk_q32) hq.1 dX12_doPrints_167 ?_
    have hq := hq.2
    refine lv_isub hx hb dX12_doPrints_168 ?_
    refine lv_topi (fun v46 e_v46 => ?_)
    have hq := hq v46 e_v46
    refine lv_istore (lv' := [(7, .int v46), (4, .int a31), (0, .ref (ad q32)), (1, .int a33), (6, .int a34), (5, .int a35)]) hx hb dX12_doPrints_169 hl (by decide) rfl (fun ls hl => ?_)
    refine lv_iload hx hb dX12_doPrints_171 (lv_at hl 5 rfl) ?_
    refine lv_iload hx hb dX12_doPrints_173 (lv_at hl 0 rfl) ?_
    refine lv_if_le (tgt := 204) hx hb dX12_doPrints_175 (by decide) (fun c47 => ?_) (fun c47 => ?_)
    · have hq := hq.1 c47
      refine lv_iconst (v := (0 : Int32)) hx hb dX12_doPrints_204 (by decide) ?_
      refine lv_iadd hx hb dX12_doPrints_205 ?_
      refine lv_topi (fun v48 e_v48 => ?_)
      have hq := hq v48 e_v48
      refine lv_istore (lv' := [(5, .int v48), (7, .int v46), (4, .int a31), (0, .ref (ad q32)), (1, .int a33), (6, .int a34)]) hx hb dX12_doPrints_206 hl (by decide) rfl (fun ls hl => ?_)
      obtain ⟨v49, e_v49⟩ : ∃ y : Int32, y = (a34 + (1 : Int32)) := ⟨_, rfl⟩
      have hq := hq v49 e_v49
      refine lv_iinc (v := v49) (lv' := [(6, .int v49), (5, .int v48), (7, .int v46), (4, .int a31), (0, .ref (ad q32)), (1, .int a33)]) hx hb dX12_doPrints_208 hl (k := 5) rfl (by rw [e_v49]; rfl) (by decide) rfl (fun ls hl => ?_)
      refine lv_goto (tgt := 117) hx hb dX12_doPrints_211 (by decide) ?_
      exact kK117b v49 v48 μ44 hq _ _ _ hH (lv_sub hl [3, 4, 5, 0, 1] rfl)
    · have hq := hq.2 c47
      refine lv_iload hx hb dX12_doPrints_178 (lv_at hl 0 rfl) ?_
      refine lv_iload hx hb dX12_doPrints_180 (lv_at hl 1 rfl) ?_
      refine lv_aload_n hx hb dX12_doPrints_182 rfl (lv_at hl 2 rfl) ?_
      refine x_get (j := 0) (C := RX12) (T := TX12) (N := 24) (v := .ref (ad (rt q32 0))) G hH hk_q32 (by decide) rfl inlX12 (by decide) (wm_6 _ (List.mem_of_getElem? (i := 18) rfl)) rfl dX12_doPrints_183 ?_
      refine lv_bipush (v := (95 : Int32)) hx hb dX12_doPrints_186 (by decide) ?_
      refine lv_iconst (v := (3 : Int32)) hx hb dX12_doPrints_188 (by decide) ?_
      refine lv_iload hx hb dX12_doPrints_189 (lv_at hl 4 rfl) ?_
      refine lv_imul hx hb dX12_doPrints_191 ?_
      refine lv_iadd hx hb dX12_doPrints_192 ?_
      refine lv_iconst (v := (2 : Int32)) hx hb dX12_doPrints_193 (by decide) ?_
      refine lv_iadd hx hb dX12_doPrints_194 ?_
      refine x_iald G hH (kt_10_0 _ hk_q32) hq.1 dX12_doPrints_195 ?_
      have hq := hq.2
      refine lv_iand hx hb dX12_doPrints_196 ?_
      refine x_cSi (As := [.int (a31 &&& (μ44.1 (rt q32 0) (((95 : Int32) + ((3 : Int32) * a34)) + (2 : Int32)).toNatClampNeg))]) (rest := [.int v46, .int a35]) G hH hA (c_X12_bits l E ad μ44 (a31 &&& (μ44.1 (rt q32 0) (((95 : Int32) + ((3 : Int32) * a34)) + (2 : Int32)).toNatClampNeg))  _ hq) (wm_13 _ (List.mem_of_getElem? (i := 16) rfl)) mt_X12_bits mn_RX12 mc_X12_bits md_X12_bits ⟨rfl, rfl, Nat.le_of_ble_eq_true rfl, Nat.le_of_ble_eq_true rfl⟩ rfl hl.1 rfl (Nat.le_of_ble_eq_true rfl) dX12_doPrints_197 ⟨Nat.zero_le _, Nat.zero_le _⟩ (fun r51 μ50 hq H locs hH => ?_)
      refine lv_imul hx hb dX12_doPrints_200 ?_
      refine lv_goto (tgt := 205) hx hb dX12_doPrints_201 (by decide) ?_
      refine lv_iadd hx hb dX12_doPrints_205 ?_
      refine lv_topi (fun v52 e_v52 => ?_)
      have hq := hq v52 e_v52
      refine lv_istore (lv' := [(5, .int v52), (7, .int v46), (4, .int a31), (0, .ref (ad q32)), (1, .int a33), (6, .int a34)]) hx hb dX12_doPrints_206 hl (by decide) rfl (fun ls hl => ?_)
      obtain ⟨v53, e_v53⟩ : ∃ y : Int32, y = (a34 + (1 : Int32)) := ⟨_, rfl⟩
      have hq := hq v53 e_v53
      refine lv_iinc (v := v53) (lv' := [(6, .int v53), (5, .int v52), (7, .int v46), (4, .int a31), (0, .ref (ad q32)), (1, .int a33)]) hx hb dX12_doPrints_208 hl (k := 5) rfl (by rw [e_v53]; rfl) (by decide) rfl (fun ls hl => ?_)
      refine lv_goto (tgt := 117) hx hb dX12_doPrints_211 (by decide) ?_
      exact kK117b v53 v52 μ50 hq _ _ _ hH (lv_sub hl [3, 4, 5, 0, 1] rfl)
set_option maxRecDepth 100000 in
set_option maxHeartbeats 4000000 in
theorem w_X12_doPrints_117 {E : xE} {ad : Nat → Nat} {p : Program} {l : Launch} {e : Env} {s : State} {m : MethodId} {args : Array Value} {below : List Frame} {meth : Method} {c : Code} {Q : State → Prop} (G : xG E p s m args meth c cX12_doPrints 8 RX12) (hA : ∀ a, s.heap.size ≤ a → xA ad s.heap.size a) (a31 : Int32) (q32 : Nat) (a33 : Int32) (hk_q32 : kd q32 = 10) : ∀ (n : Nat) (a34 : Int32) (a35 : Int32) (μ37 : xM) (K1170 : Int32 → xM → Prop) (hq : L_X12_doPrints_117 a31 q32 a33 n a34 a35 μ37 K1170) (H : Heap) (locs : List Loc) (ls : Array Slot) (hH : xH E ad (xA ad s.heap.size) s.heap μ37 H locs) (hl : lv_has ls 8 [(4, .int a31), (0, .ref (ad q32)), (1, .int a33), (6, .int a34), (5, .int a35)]) (kK1170 : ∀ (a38 : Int32) (μ39 : xM), K1170 a38 μ39 → ∀ (H : Heap) (locs : List Loc) (ls : Array Slot), xH E ad (xA ad s.heap.size) s.heap μ39 H locs → lv_has ls 8 [(4, .int a31), (0, .ref (ad q32)), (1, .int a33), (5, .int a38)] → W p l e (headSpec tX12_doPrints ({ frames := 4, cells := 0, slots := 0, locals := 160 } : Room)).room s m args below meth c H locs 0 0 Q (F0 m 214 ls [])) , W p l e (headSpec tX12_doPrints ({ frames := 4, cells := 0, slots := 0, locals := 160 } : Room)).room s m args below meth c H locs 0 0 Q (F0 m 117 ls [])
  | 0, _, _, _, _, hq, _, _, _, _, _, _ => hq.elim
  | n + 1, a34, a35, μ37, K1170, hq, H, locs, ls, hH, hl, kK1170 => wb_X12_doPrints_117 G hA a31 q32 a33 hk_q32 a34 a35 μ37 K1170 _ hq hH hl kK1170 (fun x0 x1 y hq H locs ls hH hl => w_X12_doPrints_117 G hA a31 q32 a33 hk_q32 n x0 x1 y K1170 hq H locs ls hH hl kK1170)
set_option maxRecDepth 100000 in
set_option maxHeartbeats 4000000 in
theorem c_X12_doPrints (l : Launch) (E : xE) (ad : Nat → Nat) (μ : xM) (q0 : Nat) (p1 : Int32) (p2 : Int32) (hk_q0 : kd q0 = 10) (Qm : Int32 → xM → Prop) (hq : p_X12_doPrints q0 p1 p2 μ Qm) : xMi l yX12_doPrints tX12_doPrints ({ frames := 4, cells := 0, slots := 0, locals := 160 } : Room) E ad μ [.ref (ad q0), .int p1, .int p2] Qm := by
  refine x_sti (cc := cX12_doPrints) (maxL := 8) (ret := (some .int)) (own := RX12) rfl (by decide) rfl (Nat.le_of_ble_eq_true rfl) ?_
  intro p e s m args below meth c ls G hr hA hH hl
  obtain ⟨hx, hb, hml, hown, hts, hKn, hN, hlk⟩ := id G
  have hl : lv_has ls 8 [(0, .ref (ad q0)), (1, .int p1), (2, .int p2)] := hl
  have hH : xH E ad (xA ad s.heap.size) s.heap μ s.heap [] := hH
  unfold p_X12_doPrints at hq
  refine lv_aload_n hx hb dX12_doPrints_0 rfl (lv_at hl 0 rfl) ?_
  refine lv_iload_n hx hb dX12_doPrints_1 rfl (lv_at hl 1 rfl) ?_
  refine x_cVi (C := RX12) (T := TX12) (N := 24) (As := [.int p1]) (rest := []) G hH hA (c_X12_isBlock l E ad μ q0 p1 hk_q0 _ hq) (wm_12 _ (List.mem_of_getElem? (i := 22) rfl)) mi_X12_isBlock ms_X12_isBlock mn_RX12 mc_X12_isBlock rfl md_X12_isBlock ⟨rfl, rfl, Nat.le_of_ble_eq_true rfl, Nat.le_of_ble_eq_true rfl⟩ hk_q0 (by decide) rfl rfl hl.1 rfl (Nat.le_of_ble_eq_true rfl) dX12_doPrints_2 ⟨Nat.zero_le _, Nat.zero_le _⟩ (fun r2 μ1 hq H locs hH => ?_)
  refine lv_if_eq (tgt := 18) hx hb dX12_doPrints_5 (by decide) (fun c3 => ?_) (fun c3 => ?_)
  · have hq := hq.1 c3
    refine lv_bipush (v := (-2 : Int32)) hx hb dX12_doPrints_18 (by decide) ?_
    exact x_iret G hr hH hq dX12_doPrints_20
  · have hq := hq.2 c3
    refine lv_iload_n hx hb dX12_doPrints_8 rfl (lv_at hl 2 rfl) ?_
    refine lv_iconst (v := (0 : Int32)) hx hb dX12_doPrints_9 (by decide) ?_
    refine lv_bipush (v := (9 : Int32)) hx hb dX12_doPrints_10 (by decide) ?_
    refine x_cSi (As := [.int p2, .int (0 : Int32), .int (9 : Int32)]) (rest := []) G hH hA (c_X12_in l E ad μ1 p2 (0 : Int32) (9 : Int32)  _ hq) (wm_10 _ (List.mem_of_getElem? (i := 23) rfl)) mt_X12_in mn_RX12 mc_X12_in md_X12_in ⟨rfl, rfl, Nat.le_of_ble_eq_true rfl, Nat.le_of_ble_eq_true rfl⟩ rfl hl.1 rfl (Nat.le_of_ble_eq_true rfl) dX12_doPrints_12 ⟨Nat.zero_le _, Nat.zero_le _⟩ (fun r5 μ4 hq H locs hH => ?_)
    refine lv_if_ne (tgt := 21) hx hb dX12_doPrints_15 (by decide) (fun c6 => ?_) (fun c6 => ?_)
    · have hq := hq.1 c6
      refine lv_iconst (v := (0 : Int32)) hx hb dX12_doPrints_21 (by decide) ?_
      refine lv_istore_n (lv' := [(3, .int (0 : Int32)), (0, .ref (ad q0)), (1, .int p1), (2, .int p2)]) hx hb dX12_doPrints_22 rfl hl (by decide) rfl (fun ls hl => ?_)
      refine lv_iconst (v := (0 : Int32)) hx hb dX12_doPrints_23 (by decide) ?_
      refine lv_istore (lv' := [(4, .int (0 : Int32)), (3, .int (0 : Int32)), (0, .ref (ad q0)), (1, .int p1), (2, .int p2)]) hx hb dX12_doPrints_24 hl (by decide) rfl (fun ls hl => ?_)
      obtain ⟨n12, hq⟩ := hq
      refine w_X12_doPrints_26 G hA q0 p1 p2 hk_q0 n12 (0 : Int32) (0 : Int32) μ4 _ hq _ _ _ hH (lv_sub hl [2, 3, 4, 0, 1] rfl) (fun a22 μ23 hq H locs ls hH hl => ?_)
      refine lv_aload_n hx hb dX12_doPrints_61 rfl (lv_at hl 0 rfl) ?_
      refine lv_iload_n hx hb dX12_doPrints_62 rfl (lv_at hl 1 rfl) ?_
      refine lv_bipush (v := (6 : Int32)) hx hb dX12_doPrints_63 (by decide) ?_
      refine x_cVi (C := RX12) (T := TX12) (N := 24) (As := [.int p1, .int (6 : Int32)]) (rest := []) G hH hA (c_X12_ofBlock l E ad μ23 q0 p1 (6 : Int32) hk_q0 _ hq) (wm_13 _ (List.mem_of_getElem? (i := 6) rfl)) mi_X12_ofBlock ms_X12_ofBlock mn_RX12 mc_X12_ofBlock rfl md_X12_ofBlock ⟨rfl, rfl, Nat.le_of_ble_eq_true rfl, Nat.le_of_ble_eq_true rfl⟩ hk_q0 (by decide) rfl rfl hl.1 rfl (Nat.le_of_ble_eq_true rfl) dX12_doPrints_65 ⟨Nat.zero_le _, Nat.zero_le _⟩ (fun r25 μ24 hq H locs hH => ?_)
      refine lv_iload_n hx hb dX12_doPrints_68 rfl (lv_at hl 3 rfl) ?_
      refine lv_iconst (v := (-1 : Int32)) hx hb dX12_doPrints_69 (by decide) ?_
      refine lv_ixor hx hb dX12_doPrints_70 ?_
      refine lv_iand hx hb dX12_doPrints_71 ?_
      refine lv_if_eq (tgt := 78) hx hb dX12_doPrints_72 (by decide) (fun c26 => ?_) (fun c26 => ?_)
      · have hq := hq.1 c26
        refine lv_aload_n hx hb dX12_doPrints_78 rfl (lv_at hl 0 rfl) ?_
        refine x_get (j := 0) (C := RX12) (T := TX12) (N := 24) (v := .ref (ad (rt q0 0))) G hH hk_q0 (by decide) rfl inlX12 (by decide) (wm_6 _ (List.mem_of_getElem? (i := 18) rfl)) rfl dX12_doPrints_79 ?_
        refine lv_bipush (v := (93 : Int32)) hx hb dX12_doPrints_82 (by decide) ?_
        refine x_iald G hH (kt_10_0 _ hk_q0) hq.1 dX12_doPrints_84 ?_
        have hq := hq.2
        refine lv_bipush (v := (12 : Int32)) hx hb dX12_doPrints_85 (by decide) ?_
        refine lv_icmp_ne (tgt := 93) hx hb dX12_doPrints_87 (by decide) (fun c27 => ?_) (fun c27 => ?_)
        · have hq := hq.1 c27
          refine lv_aload_n hx hb dX12_doPrints_93 rfl (lv_at hl 0 rfl) ?_
          refine x_get (j := 0) (C := RX12) (T := TX12) (N := 24) (v := .ref (ad (rt q0 0))) G hH hk_q0 (by decide) rfl inlX12 (by decide) (wm_6 _ (List.mem_of_getElem? (i := 18) rfl)) rfl dX12_doPrints_94 ?_
          refine lv_bipush (v := (92 : Int32)) hx hb dX12_doPrints_97 (by decide) ?_
          refine lv_dup2_11 hx hb dX12_doPrints_99 rfl rfl ?_
          refine x_iald G hH (kt_10_0 _ hk_q0) hq.1 dX12_doPrints_100 ?_
          have hq := hq.2
          refine lv_iload_n hx hb dX12_doPrints_101 rfl (lv_at hl 2 rfl) ?_
          refine lv_iadd hx hb dX12_doPrints_102 ?_
          refine x_iast G hH (kt_10_0 _ hk_q0) hq.1 dX12_doPrints_103 (fun μ28 e_μ28 H locs hH => ?_)
          have hq := hq.2 μ28 e_μ28
          refine lv_aload_n hx hb dX12_doPrints_104 rfl (lv_at hl 0 rfl) ?_
          refine lv_iload_n hx hb dX12_doPrints_105 rfl (lv_at hl 1 rfl) ?_
          refine x_cVi (C := RX12) (T := TX12) (N := 24) (As := [.int p1]) (rest := []) G hH hA (c_X12_placeOf l E ad μ28 q0 p1 hk_q0 _ hq) (wm_13 _ (List.mem_of_getElem? (i := 2) rfl)) mi_X12_placeOf ms_X12_placeOf mn_RX12 mc_X12_placeOf rfl md_X12_placeOf ⟨rfl, rfl, Nat.le_of_ble_eq_true rfl, Nat.le_of_ble_eq_true rfl⟩ hk_q0 (by decide) rfl rfl hl.1 rfl (Nat.le_of_ble_eq_true rfl) dX12_doPrints_106 ⟨Nat.zero_le _, Nat.zero_le _⟩ (fun r30 μ29 hq H locs hH => ?_)
          refine lv_istore (lv' := [(4, .int r30), (0, .ref (ad q0)), (1, .int p1), (2, .int p2), (3, .int a22)]) hx hb dX12_doPrints_109 hl (by decide) rfl (fun ls hl => ?_)
          refine lv_iconst (v := (0 : Int32)) hx hb dX12_doPrints_111 (by decide) ?_
          refine lv_istore (lv' := [(5, .int (0 : Int32)), (4, .int r30), (0, .ref (ad q0)), (1, .int p1), (2, .int p2), (3, .int a22)]) hx hb dX12_doPrints_112 hl (by decide) rfl (fun ls hl => ?_)
          refine lv_iconst (v := (0 : Int32)) hx hb dX12_doPrints_114 (by decide) ?_
          refine lv_istore (lv' := [(6, .int (0 : Int32)), (5, .int (0 : Int32)), (4, .int r30), (0, .ref (ad q0)), (1, .int p1), (2, .int p2), (3, .int a22)]) hx hb dX12_doPrints_115 hl (by decide) rfl (fun ls hl => ?_)
          obtain ⟨n36, hq⟩ := hq
          refine w_X12_doPrints_117 G hA r30 q0 p1 hk_q0 n36 (0 : Int32) (0 : Int32) μ29 _ hq _ _ _ hH (lv_sub hl [2, 3, 4, 0, 1] rfl) (fun a54 μ55 hq H locs ls hH hl => ?_)
          refine lv_bipush (v := (95 : Int32)) hx hb dX12_doPrints_214 (by decide) ?_
          refine lv_iconst (v := (3 : Int32)) hx hb dX12_doPrints_216 (by decide) ?_
          refine lv_aload_n hx hb dX12_doPrints_217 rfl (lv_at hl 1 rfl) ?_
          refine x_get (j := 0) (C := RX12) (T := TX12) (N := 24) (v := .ref (ad (rt q0 0))) G hH hk_q0 (by decide) rfl inlX12 (by decide) (wm_6 _ (List.mem_of_getElem? (i := 18) rfl)) rfl dX12_doPrints_218 ?_
          refine lv_bipush (v := (93 : Int32)) hx hb dX12_doPrints_221 (by decide) ?_
          refine x_iald G hH (kt_10_0 _ hk_q0) hq.1 dX12_doPrints_223 ?_
          have hq := hq.2
          refine lv_imul hx hb dX12_doPrints_224 ?_
          refine lv_iadd hx hb dX12_doPrints_225 ?_
          refine lv_topi (fun v56 e_v56 => ?_)
          have hq := hq v56 e_v56
          refine lv_istore (lv' := [(6, .int v56), (4, .int r30), (0, .ref (ad q0)), (1, .int p1), (5, .int a54)]) hx hb dX12_doPrints_226 hl (by decide) rfl (fun ls hl => ?_)
          refine lv_aload_n hx hb dX12_doPrints_228 rfl (lv_at hl 2 rfl) ?_
          refine x_get (j := 0) (C := RX12) (T := TX12) (N := 24) (v := .ref (ad (rt q0 0))) G hH hk_q0 (by decide) rfl inlX12 (by decide) (wm_6 _ (List.mem_of_getElem? (i := 18) rfl)) rfl dX12_doPrints_229 ?_
          refine lv_iload hx hb dX12_doPrints_232 (lv_at hl 0 rfl) ?_
          refine lv_iload_n hx hb dX12_doPrints_234 rfl (lv_at hl 3 rfl) ?_
          refine x_iast G hH (kt_10_0 _ hk_q0) hq.1 dX12_doPrints_235 (fun μ57 e_μ57 H locs hH => ?_)
          have hq := hq.2 μ57 e_μ57
          refine lv_aload_n hx hb dX12_doPrints_236 rfl (lv_at hl 2 rfl) ?_
          refine x_get (j := 0) (C := RX12) (T := TX12) (N := 24) (v := .ref (ad (rt q0 0))) G hH hk_q0 (by decide) rfl inlX12 (by decide) (wm_6 _ (List.mem_of_getElem? (i := 18) rfl)) rfl dX12_doPrints_237 ?_
          refine lv_iload hx hb dX12_doPrints_240 (lv_at hl 0 rfl) ?_
          refine lv_iconst (v := (1 : Int32)) hx hb dX12_doPrints_242 (by decide) ?_
          refine lv_iadd hx hb dX12_doPrints_243 ?_
          refine lv_aload_n hx hb dX12_doPrints_244 rfl (lv_at hl 2 rfl) ?_
          refine x_get (j := 0) (C := RX12) (T := TX12) (N := 24) (v := .ref (ad (rt q0 0))) G hH hk_q0 (by decide) rfl inlX12 (by decide) (wm_6 _ (List.mem_of_getElem? (i := 18) rfl)) rfl dX12_doPrints_245 ?_
          refine lv_bipush (v := (92 : Int32)) hx hb dX12_doPrints_248 (by decide) ?_
          refine x_iald G hH (kt_10_0 _ hk_q0) hq.1 dX12_doPrints_250 ?_
          have hq := hq.2
          refine x_iast G hH (kt_10_0 _ hk_q0) hq.1 dX12_doPrints_251 (fun μ58 e_μ58 H locs hH => ?_)
          have hq := hq.2 μ58 e_μ58
          refine lv_aload_n hx hb dX12_doPrints_252 rfl (lv_at hl 2 rfl) ?_
          refine x_get (j := 0) (C := RX12) (T := TX12) (N := 24) (v := .ref (ad (rt q0 0))) G hH hk_q0 (by decide) rfl inlX12 (by decide) (wm_6 _ (List.mem_of_getElem? (i := 18) rfl)) rfl dX12_doPrints_253 ?_
          refine lv_iload hx hb dX12_doPrints_256 (lv_at hl 0 rfl) ?_
          refine lv_iconst (v := (2 : Int32)) hx hb dX12_doPrints_258 (by decide) ?_
          refine lv_iadd hx hb dX12_doPrints_259 ?_
          refine lv_iload hx hb dX12_doPrints_260 (lv_at hl 1 rfl) ?_
          refine x_iast G hH (kt_10_0 _ hk_q0) hq.1 dX12_doPrints_262 (fun μ59 e_μ59 H locs hH => ?_)
          have hq := hq.2 μ59 e_μ59
          refine lv_aload_n hx hb dX12_doPrints_263 rfl (lv_at hl 2 rfl) ?_
          refine x_get (j := 0) (C := RX12) (T := TX12) (N := 24) (v := .ref (ad (rt q0 0))) G hH hk_q0 (by decide) rfl inlX12 (by decide) (wm_6 _ (List.mem_of_getElem? (i := 18) rfl)) rfl dX12_doPrints_264 ?_
          refine lv_bipush (v := (93 : Int32)) hx hb dX12_doPrints_267 (by decide) ?_
          refine lv_dup2_11 hx hb dX12_doPrints_269 rfl rfl ?_
          refine x_iald G hH (kt_10_0 _ hk_q0) hq.1 dX12_doPrints_270 ?_
          have hq := hq.2
          refine lv_iconst (v := (1 : Int32)) hx hb dX12_doPrints_271 (by decide) ?_
          refine lv_iadd hx hb dX12_doPrints_272 ?_
          refine x_iast G hH (kt_10_0 _ hk_q0) hq.1 dX12_doPrints_273 (fun μ60 e_μ60 H locs hH => ?_)
          have hq := hq.2 μ60 e_μ60
          refine lv_aload_n hx hb dX12_doPrints_274 rfl (lv_at hl 2 rfl) ?_
          refine x_get (j := 0) (C := RX12) (T := TX12) (N := 24) (v := .ref (ad (rt q0 0))) G hH hk_q0 (by decide) rfl inlX12 (by decide) (wm_6 _ (List.mem_of_getElem? (i := 18) rfl)) rfl dX12_doPrints_275 ?_
          refine lv_bipush (v := (94 : Int32)) hx hb dX12_doPrints_278 (by decide) ?_
          refine lv_dup2_11 hx hb dX12_doPrints_280 rfl rfl ?_
          refine x_iald G hH (kt_10_0 _ hk_q0) hq.1 dX12_doPrints_281 ?_
          have hq := hq.2
          refine lv_iload hx hb dX12_doPrints_282 (lv_at hl 4 rfl) ?_
          refine lv_iadd hx hb dX12_doPrints_284 ?_
          refine x_iast G hH (kt_10_0 _ hk_q0) hq.1 dX12_doPrints_285 (fun μ61 e_μ61 H locs hH => ?_)
          have hq := hq.2 μ61 e_μ61
          refine lv_aload_n hx hb dX12_doPrints_286 rfl (lv_at hl 2 rfl) ?_
          refine x_cVv (C := RX12) (T := TX12) (N := 24) (As := []) (rest := []) G hH hA (c_X12_takeSheet l E ad μ61 q0 hk_q0 _ hq) (wm_27 _ (List.mem_of_getElem? (i := 12) rfl)) mi_X12_takeSheet ms_X12_takeSheet mn_RX12 mc_X12_takeSheet rfl md_X12_takeSheet ⟨rfl, rfl, Nat.le_of_ble_eq_true rfl, Nat.le_of_ble_eq_true rfl⟩ hk_q0 (by decide) rfl rfl hl.1 rfl (Nat.le_of_ble_eq_true rfl) dX12_doPrints_287 ⟨Nat.zero_le _, Nat.zero_le _⟩ (fun μ62 hq H locs hH => ?_)
          refine lv_aload_n hx hb dX12_doPrints_290 rfl (lv_at hl 2 rfl) ?_
          refine lv_iload_n hx hb dX12_doPrints_291 rfl (lv_at hl 3 rfl) ?_
          refine lv_iload hx hb dX12_doPrints_292 (lv_at hl 1 rfl) ?_
          refine x_cVv (C := RX12) (T := TX12) (N := 24) (As := [.int p1, .int r30]) (rest := []) G hH hA (c_X12_printOn l E ad μ62 q0 p1 r30 hk_q0 _ hq) (wm_24 _ (List.mem_of_getElem? (i := 17) rfl)) mi_X12_printOn ms_X12_printOn mn_RX12 mc_X12_printOn rfl md_X12_printOn ⟨rfl, rfl, Nat.le_of_ble_eq_true rfl, Nat.le_of_ble_eq_true rfl⟩ hk_q0 (by decide) rfl rfl hl.1 rfl (Nat.le_of_ble_eq_true rfl) dX12_doPrints_294 ⟨Nat.zero_le _, Nat.zero_le _⟩ (fun μ63 hq H locs hH => ?_)
          refine lv_aload_n hx hb dX12_doPrints_297 rfl (lv_at hl 2 rfl) ?_
          refine x_cVv (C := RX12) (T := TX12) (N := 24) (As := []) (rest := []) G hH hA (c_X12_giveSheet l E ad μ63 q0 hk_q0 _ hq) (wm_27 _ (List.mem_of_getElem? (i := 16) rfl)) mi_X12_giveSheet ms_X12_giveSheet mn_RX12 mc_X12_giveSheet rfl md_X12_giveSheet ⟨rfl, rfl, Nat.le_of_ble_eq_true rfl, Nat.le_of_ble_eq_true rfl⟩ hk_q0 (by decide) rfl rfl hl.1 rfl (Nat.le_of_ble_eq_true rfl) dX12_doPrints_298 ⟨Nat.zero_le _, Nat.zero_le _⟩ (fun μ64 hq H locs hH => ?_)
          refine lv_iload hx hb dX12_doPrints_301 (lv_at hl 4 rfl) ?_
          exact x_iret G hr hH hq dX12_doPrints_303
        · have hq := hq.2 c27
          refine lv_bipush (v := (-4 : Int32)) hx hb dX12_doPrints_90 (by decide) ?_
          exact x_iret G hr hH hq dX12_doPrints_92
      · have hq := hq.2 c26
        refine lv_bipush (v := (-3 : Int32)) hx hb dX12_doPrints_75 (by decide) ?_
        exact x_iret G hr hH hq dX12_doPrints_77
    · have hq := hq.2 c6
      refine lv_bipush (v := (-2 : Int32)) hx hb dX12_doPrints_18 (by decide) ?_
      exact x_iret G hr hH hq dX12_doPrints_20
abbrev tX12_doOrder : List Cond := Cond.code yX12_doOrder cX12_doOrder 5 (some .int) :: wsL_law
theorem mi_X12_doOrder : Cond.instanceMethod yX12_doOrder ∈ wsL_law := (wm_35 _ (List.mem_of_getElem? (i := 20) rfl))
theorem ms_X12_doOrder : Cond.selects RX12 yX12_doOrder yX12_doOrder ∈ wsL_law := (wm_35 _ (List.mem_of_getElem? (i := 21) rfl))
theorem mc_X12_doOrder : Cond.code yX12_doOrder cX12_doOrder 5 (some .int) ∈ wsL_law := (wm_35 _ (List.mem_of_getElem? (i := 22) rfl))
theorem md_X12_doOrder : yX12_doOrder.cls ≠ "java/lang/invoke/MethodHandle" ∧ yX12_doOrder.cls ≠ "java/lang/invoke/VarHandle" ∧ (parseMethodDescriptor yX12_doOrder.desc).map (fun d => d.parameters.length) = some 1 := by decide +kernel
set_option maxRecDepth 100000 in
set_option maxHeartbeats 4000000 in
theorem c_X12_doOrder (l : Launch) (E : xE) (ad : Nat → Nat) (μ : xM) (q0 : Nat) (p1 : Int32) (hk_q0 : kd q0 = 10) (Qm : Int32 → xM → Prop) (hq : p_X12_doOrder q0 p1 μ Qm) : xMi l yX12_doOrder tX12_doOrder ({ frames := 5, cells := 0, slots := 0, locals := 200 } : Room) E ad μ [.ref (ad q0), .int p1] Qm := by
  refine x_sti (cc := cX12_doOrder) (maxL := 5) (ret := (some .int)) (own := RX12) rfl (by decide) rfl (Nat.le_of_ble_eq_true rfl) ?_
  intro p e s m args below meth c ls G hr hA hH hl
  obtain ⟨hx, hb, hml, hown, hts, hKn, hN, hlk⟩ := id G
  have hl : lv_has ls 5 [(0, .ref (ad q0)), (1, .int p1)] := hl
  have hH : xH E ad (xA ad s.heap.size) s.heap μ s.heap [] := hH
  unfold p_X12_doOrder at hq
  refine lv_aload_n hx hb dX12_doOrder_0 rfl (lv_at hl 0 rfl) ?_
  refine x_get (j := 22) (C := RX12) (T := TX12) (N := 24) (v := .ref (ad (rt q0 22))) G hH hk_q0 (by decide) rfl inlX12 (by decide) (wm_7 _ (List.mem_of_getElem? (i := 8) rfl)) rfl dX12_doOrder_1 ?_
  refine lv_iconst (v := (4 : Int32)) hx hb dX12_doOrder_4 (by decide) ?_
  refine lv_iload_n hx hb dX12_doOrder_5 rfl (lv_at hl 1 rfl) ?_
  refine lv_imul hx hb dX12_doOrder_6 ?_
  refine x_iald G hH (kt_10_22 _ hk_q0) hq.1 dX12_doOrder_7 ?_
  have hq := hq.2
  refine lv_topi (fun v1 e_v1 => ?_)
  have hq := hq v1 e_v1
  refine lv_istore_n (lv' := [(2, .int v1), (0, .ref (ad q0)), (1, .int p1)]) hx hb dX12_doOrder_8 rfl hl (by decide) rfl (fun ls hl => ?_)
  refine lv_aload_n hx hb dX12_doOrder_9 rfl (lv_at hl 1 rfl) ?_
  refine x_get (j := 22) (C := RX12) (T := TX12) (N := 24) (v := .ref (ad (rt q0 22))) G hH hk_q0 (by decide) rfl inlX12 (by decide) (wm_7 _ (List.mem_of_getElem? (i := 8) rfl)) rfl dX12_doOrder_10 ?_
  refine lv_iconst (v := (4 : Int32)) hx hb dX12_doOrder_13 (by decide) ?_
  refine lv_iload_n hx hb dX12_doOrder_14 rfl (lv_at hl 2 rfl) ?_
  refine lv_imul hx hb dX12_doOrder_15 ?_
  refine lv_iconst (v := (1 : Int32)) hx hb dX12_doOrder_16 (by decide) ?_
  refine lv_iadd hx hb dX12_doOrder_17 ?_
  refine x_iald G hH (kt_10_22 _ hk_q0) hq.1 dX12_doOrder_18 ?_
  have hq := hq.2
  refine lv_topi (fun v2 e_v2 => ?_)
  have hq := hq v2 e_v2
  refine lv_istore_n (lv' := [(3, .int v2), (2, .int v1), (0, .ref (ad q0)), (1, .int p1)]) hx hb dX12_doOrder_19 rfl hl (by decide) rfl (fun ls hl => ?_)
  refine lv_aload_n hx hb dX12_doOrder_20 rfl (lv_at hl 2 rfl) ?_
  refine x_get (j := 22) (C := RX12) (T := TX12) (N := 24) (v := .ref (ad (rt q0 22))) G hH hk_q0 (by decide) rfl inlX12 (by decide) (wm_7 _ (List.mem_of_getElem? (i := 8) rfl)) rfl dX12_doOrder_21 ?_
  refine lv_iconst (v := (4 : Int32)) hx hb dX12_doOrder_24 (by decide) ?_
  refine lv_iload_n hx hb dX12_doOrder_25 rfl (lv_at hl 3 rfl) ?_
  refine lv_imul hx hb dX12_doOrder_26 ?_
  refine lv_iconst (v := (2 : Int32)) hx hb dX12_doOrder_27 (by decide) ?_
  refine lv_iadd hx hb dX12_doOrder_28 ?_
  refine x_iald G hH (kt_10_22 _ hk_q0) hq.1 dX12_doOrder_29 ?_
  have hq := hq.2
  refine lv_topi (fun v3 e_v3 => ?_)
  have hq := hq v3 e_v3
  refine lv_istore (lv' := [(4, .int v3), (3, .int v2), (2, .int v1), (0, .ref (ad q0)), (1, .int p1)]) hx hb dX12_doOrder_30 hl (by decide) rfl (fun ls hl => ?_)
  refine lv_aload_n hx hb dX12_doOrder_32 rfl (lv_at hl 3 rfl) ?_
  refine x_get (j := 21) (C := RX12) (T := TX12) (N := 24) (v := .ref (ad (rt q0 21))) G hH hk_q0 (by decide) rfl inlX12 (by decide) (wm_7 _ (List.mem_of_getElem? (i := 7) rfl)) rfl dX12_doOrder_33 ?_
  refine lv_iload_n hx hb dX12_doOrder_36 rfl (lv_at hl 4 rfl) ?_
  refine x_iald G hH (kt_10_21 _ hk_q0) hq.1 dX12_doOrder_37 ?_
  have hq := hq.2
  refine lv_topi (fun v4 e_v4 => ?_)
  have hq := hq v4 e_v4
  rcases Decidable.em (v4 = (97 : Int32)) with c5 | c5
  · refine lv_lookup (off := 70) (tgt := 108) hx hb dX12_doOrder_38 (by decide) (by rw [c5]; rfl) (by decide) ?_
    have hq := hq.1 c5
    refine lv_aload_n hx hb dX12_doOrder_108 rfl (lv_at hl 3 rfl) ?_
    refine lv_iload_n hx hb dX12_doOrder_109 rfl (lv_at hl 2 rfl) ?_
    refine lv_iload_n hx hb dX12_doOrder_110 rfl (lv_at hl 1 rfl) ?_
    refine lv_iconst (v := (1 : Int32)) hx hb dX12_doOrder_111 (by decide) ?_
    refine x_cVi (C := RX12) (T := TX12) (N := 24) (As := [.int v1, .int v2, .int (1 : Int32)]) (rest := []) G hH hA (c_X12_doBehind l E ad μ q0 v1 v2 (1 : Int32) hk_q0 _ hq) (wm_14 _ (List.mem_of_getElem? (i := 16) rfl)) mi_X12_doBehind ms_X12_doBehind mn_RX12 mc_X12_doBehind rfl md_X12_doBehind ⟨rfl, rfl, Nat.le_of_ble_eq_true rfl, Nat.le_of_ble_eq_true rfl⟩ hk_q0 (by decide) rfl rfl hl.1 rfl (Nat.le_of_ble_eq_true rfl) dX12_doOrder_112 ⟨Nat.zero_le _, Nat.zero_le _⟩ (fun r7 μ6 hq H locs hH => ?_)
    exact x_iret G hr hH hq dX12_doOrder_115
  · have hq := hq.2 c5
    rcases Decidable.em (v4 = (98 : Int32)) with c8 | c8
    · refine lv_lookup (off := 42) (tgt := 80) hx hb dX12_doOrder_38 (by decide) (by rw [c8]; rfl) (by decide) ?_
      have hq := hq.1 c8
      refine lv_aload_n hx hb dX12_doOrder_80 rfl (lv_at hl 3 rfl) ?_
      refine lv_iload_n hx hb dX12_doOrder_81 rfl (lv_at hl 2 rfl) ?_
      refine lv_iload_n hx hb dX12_doOrder_82 rfl (lv_at hl 1 rfl) ?_
      refine lv_iload hx hb dX12_doOrder_83 (lv_at hl 0 rfl) ?_
      refine lv_aload_n hx hb dX12_doOrder_85 rfl (lv_at hl 3 rfl) ?_
      refine x_get (j := 22) (C := RX12) (T := TX12) (N := 24) (v := .ref (ad (rt q0 22))) G hH hk_q0 (by decide) rfl inlX12 (by decide) (wm_7 _ (List.mem_of_getElem? (i := 8) rfl)) rfl dX12_doOrder_86 ?_
      refine lv_iconst (v := (4 : Int32)) hx hb dX12_doOrder_89 (by decide) ?_
      refine lv_iload_n hx hb dX12_doOrder_90 rfl (lv_at hl 4 rfl) ?_
      refine lv_imul hx hb dX12_doOrder_91 ?_
      refine lv_iconst (v := (3 : Int32)) hx hb dX12_doOrder_92 (by decide) ?_
      refine lv_iadd hx hb dX12_doOrder_93 ?_
      refine x_iald G hH (kt_10_22 _ hk_q0) hq.1 dX12_doOrder_94 ?_
      have hq := hq.2
      refine x_cVi (C := RX12) (T := TX12) (N := 24) (As := [.int v1, .int v2, .int v3, .int (μ.1 (rt q0 22) (((4 : Int32) * p1) + (3 : Int32)).toNatClampNeg)]) (rest := []) G hH hA (c_X12_doBlock l E ad μ q0 v1 v2 v3 (μ.1 (rt q0 22) (((4 : Int32) * p1) + (3 : Int32)).toNatClampNeg) hk_q0 _ hq) (wm_10 _ (List.mem_of_getElem? (i := 18) rfl)) mi_X12_doBlock ms_X12_doBlock mn_RX12 mc_X12_doBlock rfl md_X12_doBlock ⟨rfl, rfl, Nat.le_of_ble_eq_true rfl, Nat.le_of_ble_eq_true rfl⟩ hk_q0 (by decide) rfl rfl hl.1 rfl (Nat.le_of_ble_eq_true rfl) dX12_doOrder_95 ⟨Nat.zero_le _, Nat.zero_le _⟩ (fun r10 μ9 hq H locs hH => ?_)
      exact x_iret G hr hH hq dX12_doOrder_98
    · have hq := hq.2 c8
      rcases Decidable.em (v4 = (112 : Int32)) with c11 | c11
      · refine lv_lookup (off := 78) (tgt := 116) hx hb dX12_doOrder_38 (by decide) (by rw [c11]; rfl) (by decide) ?_
        have hq := hq.1 c11
        refine lv_aload_n hx hb dX12_doOrder_116 rfl (lv_at hl 3 rfl) ?_
        refine lv_iload_n hx hb dX12_doOrder_117 rfl (lv_at hl 2 rfl) ?_
        refine lv_iload_n hx hb dX12_doOrder_118 rfl (lv_at hl 1 rfl) ?_
        refine x_cVi (C := RX12) (T := TX12) (N := 24) (As := [.int v1, .int v2]) (rest := []) G hH hA (c_X12_doPrints l E ad μ q0 v1 v2 hk_q0 _ hq) (wm_27 _ (List.mem_of_getElem? (i := 8) rfl)) mi_X12_doPrints ms_X12_doPrints mn_RX12 mc_X12_doPrints rfl md_X12_doPrints ⟨rfl, rfl, Nat.le_of_ble_eq_true rfl, Nat.le_of_ble_eq_true rfl⟩ hk_q0 (by decide) rfl rfl hl.1 rfl (Nat.le_of_ble_eq_true rfl) dX12_doOrder_119 ⟨Nat.zero_le _, Nat.zero_le _⟩ (fun r13 μ12 hq H locs hH => ?_)
        exact x_iret G hr hH hq dX12_doOrder_122
      · have hq := hq.2 c11
        rcases Decidable.em (v4 = (115 : Int32)) with c14 | c14
        · refine lv_lookup (off := 61) (tgt := 99) hx hb dX12_doOrder_38 (by decide) (by rw [c14]; rfl) (by decide) ?_
          have hq := hq.1 c14
          refine lv_aload_n hx hb dX12_doOrder_99 rfl (lv_at hl 3 rfl) ?_
          refine lv_iload_n hx hb dX12_doOrder_100 rfl (lv_at hl 2 rfl) ?_
          refine lv_iload_n hx hb dX12_doOrder_101 rfl (lv_at hl 1 rfl) ?_
          refine lv_iload hx hb dX12_doOrder_102 (lv_at hl 0 rfl) ?_
          refine x_cVi (C := RX12) (T := TX12) (N := 24) (As := [.int v1, .int v2, .int v3]) (rest := []) G hH hA (c_X12_doShifts l E ad μ q0 v1 v2 v3 hk_q0 _ hq) (wm_12 _ (List.mem_of_getElem? (i := 18) rfl)) mi_X12_doShifts ms_X12_doShifts mn_RX12 mc_X12_doShifts rfl md_X12_doShifts ⟨rfl, rfl, Nat.le_of_ble_eq_true rfl, Nat.le_of_ble_eq_true rfl⟩ hk_q0 (by decide) rfl rfl hl.1 rfl (Nat.le_of_ble_eq_true rfl) dX12_doOrder_104 ⟨Nat.zero_le _, Nat.zero_le _⟩ (fun r16 μ15 hq H locs hH => ?_)
          exact x_iret G hr hH hq dX12_doOrder_107
        · have hq := hq.2 c14
          refine lv_lookup (off := 85) (tgt := 123) hx hb dX12_doOrder_38 (by decide) (by show Op.lookupswitch.offset [(97, 70), (98, 42), (112, 78), (115, 61)] _ _ = _; rw [lv_osw c5 (by decide), lv_osw c8 (by decide), lv_osw c11 (by decide), lv_osw c14 (by decide)]; rfl) (by decide) ?_
          refine lv_aload_n hx hb dX12_doOrder_123 rfl (lv_at hl 3 rfl) ?_
          refine x_cVi (C := RX12) (T := TX12) (N := 24) (As := []) (rest := []) G hH hA (c_X12_doNews l E ad μ q0 hk_q0 _ hq) (wm_28 _ (List.mem_of_getElem? (i := 9) rfl)) mi_X12_doNews ms_X12_doNews mn_RX12 mc_X12_doNews rfl md_X12_doNews ⟨rfl, rfl, Nat.le_of_ble_eq_true rfl, Nat.le_of_ble_eq_true rfl⟩ hk_q0 (by decide) rfl rfl hl.1 rfl (Nat.le_of_ble_eq_true rfl) dX12_doOrder_124 ⟨Nat.zero_le _, Nat.zero_le _⟩ (fun r18 μ17 hq H locs hH => ?_)
          exact x_iret G hr hH hq dX12_doOrder_127
abbrev tX12_more : List Cond := Cond.code yX12_more cX12_more 5 (some .int) :: wsL_law
theorem mi_X12_more : Cond.instanceMethod yX12_more ∈ wsL_law := (wm_17 _ (List.mem_of_getElem? (i := 10) rfl))
theorem ms_X12_more : Cond.selects RX12 yX12_more yX12_more ∈ wsL_law := (wm_17 _ (List.mem_of_getElem? (i := 11) rfl))
theorem mc_X12_more : Cond.code yX12_more cX12_more 5 (some .int) ∈ wsL_law := (wm_17 _ (List.mem_of_getElem? (i := 12) rfl))
theorem md_X12_more : yX12_more.cls ≠ "java/lang/invoke/MethodHandle" ∧ yX12_more.cls ≠ "java/lang/invoke/VarHandle" ∧ (parseMethodDescriptor yX12_more.desc).map (fun d => d.parameters.length) = some 2 := by decide +kernel
set_option maxRecDepth 100000 in
set_option maxHeartbeats 4000000 in
theorem wb_X12_more_5 {E : xE} {ad : Nat → Nat} {p : Program} {l : Launch} {e : Env} {s : State} {m : MethodId} {args : Array Value} {below : List Frame} {meth : Method} {c : Code} {Q : State → Prop} (G : xG E p s m args meth c cX12_more 5 RX12) (hA : ∀ a, s.heap.size ≤ a → xA ad s.heap.size a) (q1 : Nat) (a2 : Int32) (a3 : Int32) (hk_q1 : kd q1 = 10) (a4 : Int32) (a5 : Int32) (μ7 : xM) (K50 : Int32 → xM → Prop) (K5b : Int32 → Int32 → xM → Prop) (hq : B_X12_more_5 q1 a2 a3 a4 a5 μ7 K50 K5b) {H : Heap} {locs : List Loc} {ls : Array Slot} (hH : xH E ad (xA ad s.heap.size) s.heap μ7 H locs) (hl : lv_has ls 5 [(0, .ref (ad q1)), (1, .int a2), (2, .int a3), (4, .int a4), (3, .int a5)]) (kK50 : ∀ (a8 : Int32) (μ9 : xM), K50 a8 μ9 → ∀ (H : Heap) (locs : List Loc) (ls : Array Slot), xH E ad (xA ad s.heap.size) s.heap μ9 H locs → lv_has ls 5 [(3, .int a8)] → W p l e (headSpec tX12_more ({ frames := 2, cells := 0, slots := 0, locals := 80 } : Room)).room s m args below meth c H locs 0 0 Q (F0 m 53 ls [])) (kK5b : ∀ (a10 : Int32) (a11 : Int32) (μ12 : xM), K5b a10 a11 μ12 → ∀ (H : Heap) (locs : List Loc) (ls : Array Slot), xH E ad (xA ad s.heap.size) s.heap μ12 H locs → lv_has ls 5 [(0, .ref (ad q1)), (1, .int a2), (2, .int a3), (4, .int a10), (3, .int a11)] → W p l e (headSpec tX12_more ({ frames := 2, cells := 0, slots := 0, locals := 80 } : Room)).room s m args below meth c H locs 0 0 Q (F0 m 5 ls [])) : W p l e (headSpec tX12_more ({ frames := 2, cells := 0, slots := 0, locals := 80 } : Room)).room s m args below meth c H locs 0 0 Q (F0 m 5 ls []) := by
  obtain ⟨hx, hb, hml, hown, hts, hKn, hN, hlk⟩ := id G
  unfold B_X12_more_5 at hq
  refine lv_iload hx hb dX12_more_5 (lv_at hl 3 rfl) ?_
  refine lv_bipush (v := (16 : Int32)) hx hb dX12_more_7 (by decide) ?_
  refine lv_icmp_ge (tgt := 53) hx hb dX12_more_9 (by decide) (fun c13 => ?_) (fun c13 => ?_)
  · have hq := hq.1 c13
    exact kK50 a5 μ7 hq _ _ _ hH (lv_sub hl [4] rfl)
  · have hq := hq.2 c13
    refine lv_iload_n hx hb dX12_more_12 rfl (lv_at hl 4 rfl) ?_
    refine lv_iload_n hx hb dX12_more_13 rfl (lv_at hl 1 rfl) ?_
    refine lv_iload hx hb dX12_more_14 (lv_at hl 3 rfl) ?_
    refine x_cSi (As := [.int a2, .int a4]) (rest := [.int a5]) G hH hA (c_X12_has l E ad μ7 a2 a4  _ hq) (wm_13 _ (List.mem_of_getElem? (i := 13) rfl)) mt_X12_has mn_RX12 mc_X12_has md_X12_has ⟨rfl, rfl, Nat.le_of_ble_eq_true rfl, Nat.le_of_ble_eq_true rfl⟩ rfl hl.1 rfl (Nat.le_of_ble_eq_true rfl) dX12_more_16 ⟨Nat.zero_le _, Nat.zero_le _⟩ (fun r15 μ14 hq H locs hH => ?_)
    refine lv_if_ne (tgt := 26) hx hb dX12_more_19 (by decide) (fun c16 => ?_) (fun c16 => ?_)
    · have hq := hq.1 c16
      refine lv_aload_n hx hb dX12_more_26 rfl (lv_at hl 0 rfl) ?_
      refine x_get (j := 0) (C := RX12) (T := TX12) (N := 24) (v := .ref (ad (rt q1 0))) G hH hk_q1 (by decide) rfl inlX12 (by decide) (wm_6 _ (List.mem_of_getElem? (i := 18) rfl)) rfl dX12_more_27 ?_
      refine lv_bipush (v := (43 : Int32)) hx hb dX12_more_30 (by decide) ?_
      refine lv_iload hx hb dX12_more_32 (lv_at hl 3 rfl) ?_
      refine lv_iadd hx hb dX12_more_34 ?_
      refine x_iald G hH (kt_10_0 _ hk_q1) hq.1 dX12_more_35 ?_
      have hq := hq.2
      refine lv_iload_n hx hb dX12_more_36 rfl (lv_at hl 2 rfl) ?_
      refine lv_icmp_ne (tgt := 44) hx hb dX12_more_37 (by decide) (fun c17 => ?_) (fun c17 => ?_)
      · have hq := hq.1 c17
        refine lv_iconst (v := (-1 : Int32)) hx hb dX12_more_44 (by decide) ?_
        refine lv_iadd hx hb dX12_more_45 ?_
        refine lv_topi (fun v18 e_v18 => ?_)
        have hq := hq v18 e_v18
        refine lv_istore_n (lv' := [(3, .int v18), (0, .ref (ad q1)), (1, .int a2), (2, .int a3), (4, .int a4)]) hx hb dX12_more_46 rfl hl (by decide) rfl (fun ls hl => ?_)
        obtain ⟨v19, e_v19⟩ : ∃ y : Int32, y = (a4 + (1 : Int32)) := ⟨_, rfl⟩
        have hq := hq v19 e_v19
        refine lv_iinc (v := v19) (lv' := [(4, .int v19), (3, .int v18), (0, .ref (ad q1)), (1, .int a2), (2, .int a3)]) hx hb dX12_more_47 hl (k := 4) rfl (by rw [e_v19]; rfl) (by decide) rfl (fun ls hl => ?_)
        refine lv_goto (tgt := 5) hx hb dX12_more_50 (by decide) ?_
        exact kK5b v19 v18 μ14 hq _ _ _ hH (lv_sub hl [2, 3, 4, 0, 1] rfl)
      · have hq := hq.2 c17
        refine lv_iconst (v := (1 : Int32)) hx hb dX12_more_40 (by decide) ?_
        refine lv_goto (tgt := 45) hx hb dX12_more_41 (by decide) ?_
        refine lv_iadd hx hb dX12_more_45 ?_
        refine lv_topi (fun v20 e_v20 => ?_)
        have hq := hq v20 e_v20
        refine lv_istore_n (lv' := [(3, .int v20), (0, .ref (ad q1)), (1, .int a2), (2, .int a3), (4, .int a4)]) hx hb dX12_more_46 rfl hl (by decide) rfl (fun ls hl => ?_)
        obtain ⟨v21, e_v21⟩ : ∃ y : Int32, y = (a4 + (1 : Int32)) := ⟨_, rfl⟩
        have hq := hq v21 e_v21
        refine lv_iinc (v := v21) (lv' := [(4, .int v21), (3, .int v20), (0, .ref (ad q1)), (1, .int a2), (2, .int a3)]) hx hb dX12_more_47 hl (k := 4) rfl (by rw [e_v21]; rfl) (by decide) rfl (fun ls hl => ?_)
        refine lv_goto (tgt := 5) hx hb dX12_more_50 (by decide) ?_
        exact kK5b v21 v20 μ14 hq _ _ _ hH (lv_sub hl [2, 3, 4, 0, 1] rfl)
    · have hq := hq.2 c16
      refine lv_iconst (v := (0 : Int32)) hx hb dX12_more_22 (by decide) ?_
      refine lv_goto (tgt := 45) hx hb dX12_more_23 (by decide) ?_
      refine lv_iadd hx hb dX12_more_45 ?_
      refine lv_topi (fun v22 e_v22 => ?_)
      have hq := hq v22 e_v22
      refine lv_istore_n (lv' := [(3, .int v22), (0, .ref (ad q1)), (1, .int a2), (2, .int a3), (4, .int a4)]) hx hb dX12_more_46 rfl hl (by decide) rfl (fun ls hl => ?_)
      obtain ⟨v23, e_v23⟩ : ∃ y : Int32, y = (a4 + (1 : Int32)) := ⟨_, rfl⟩
      have hq := hq v23 e_v23
      refine lv_iinc (v := v23) (lv' := [(4, .int v23), (3, .int v22), (0, .ref (ad q1)), (1, .int a2), (2, .int a3)]) hx hb dX12_more_47 hl (k := 4) rfl (by rw [e_v23]; rfl) (by decide) rfl (fun ls hl => ?_)
      refine lv_goto (tgt := 5) hx hb dX12_more_50 (by decide) ?_
      exact kK5b v23 v22 μ14 hq _ _ _ hH (lv_sub hl [2, 3, 4, 0, 1] rfl)
set_option maxRecDepth 100000 in
set_option maxHeartbeats 4000000 in
theorem w_X12_more_5 {E : xE} {ad : Nat → Nat} {p : Program} {l : Launch} {e : Env} {s : State} {m : MethodId} {args : Array Value} {below : List Frame} {meth : Method} {c : Code} {Q : State → Prop} (G : xG E p s m args meth c cX12_more 5 RX12) (hA : ∀ a, s.heap.size ≤ a → xA ad s.heap.size a) (q1 : Nat) (a2 : Int32) (a3 : Int32) (hk_q1 : kd q1 = 10) : ∀ (n : Nat) (a4 : Int32) (a5 : Int32) (μ7 : xM) (K50 : Int32 → xM → Prop) (hq : L_X12_more_5 q1 a2 a3 n a4 a5 μ7 K50) (H : Heap) (locs : List Loc) (ls : Array Slot) (hH : xH E ad (xA ad s.heap.size) s.heap μ7 H locs) (hl : lv_has ls 5 [(0, .ref (ad q1)), (1, .int a2), (2, .int a3), (4, .int a4), (3, .int a5)]) (kK50 : ∀ (a8 : Int32) (μ9 : xM), K50 a8 μ9 → ∀ (H : Heap) (locs : List Loc) (ls : Array Slot), xH E ad (xA ad s.heap.size) s.heap μ9 H locs → lv_has ls 5 [(3, .int a8)] → W p l e (headSpec tX12_more ({ frames := 2, cells := 0, slots := 0, locals := 80 } : Room)).room s m args below meth c H locs 0 0 Q (F0 m 53 ls [])) , W p l e (headSpec tX12_more ({ frames := 2, cells := 0, slots := 0, locals := 80 } : Room)).room s m args below meth c H locs 0 0 Q (F0 m 5 ls [])
  | 0, _, _, _, _, hq, _, _, _, _, _, _ => hq.elim
  | n + 1, a4, a5, μ7, K50, hq, H, locs, ls, hH, hl, kK50 => wb_X12_more_5 G hA q1 a2 a3 hk_q1 a4 a5 μ7 K50 _ hq hH hl kK50 (fun x0 x1 y hq H locs ls hH hl => w_X12_more_5 G hA q1 a2 a3 hk_q1 n x0 x1 y K50 hq H locs ls hH hl kK50)
set_option maxRecDepth 100000 in
set_option maxHeartbeats 4000000 in
theorem c_X12_more (l : Launch) (E : xE) (ad : Nat → Nat) (μ : xM) (q0 : Nat) (p1 : Int32) (p2 : Int32) (hk_q0 : kd q0 = 10) (Qm : Int32 → xM → Prop) (hq : p_X12_more q0 p1 p2 μ Qm) : xMi l yX12_more tX12_more ({ frames := 2, cells := 0, slots := 0, locals := 80 } : Room) E ad μ [.ref (ad q0), .int p1, .int p2] Qm := by
  refine x_sti (cc := cX12_more) (maxL := 5) (ret := (some .int)) (own := RX12) rfl (by decide) rfl (Nat.le_of_ble_eq_true rfl) ?_
  intro p e s m args below meth c ls G hr hA hH hl
  obtain ⟨hx, hb, hml, hown, hts, hKn, hN, hlk⟩ := id G
  have hl : lv_has ls 5 [(0, .ref (ad q0)), (1, .int p1), (2, .int p2)] := hl
  have hH : xH E ad (xA ad s.heap.size) s.heap μ s.heap [] := hH
  unfold p_X12_more at hq
  refine lv_iconst (v := (0 : Int32)) hx hb dX12_more_0 (by decide) ?_
  refine lv_istore_n (lv' := [(3, .int (0 : Int32)), (0, .ref (ad q0)), (1, .int p1), (2, .int p2)]) hx hb dX12_more_1 rfl hl (by decide) rfl (fun ls hl => ?_)
  refine lv_iconst (v := (0 : Int32)) hx hb dX12_more_2 (by decide) ?_
  refine lv_istore (lv' := [(4, .int (0 : Int32)), (3, .int (0 : Int32)), (0, .ref (ad q0)), (1, .int p1), (2, .int p2)]) hx hb dX12_more_3 hl (by decide) rfl (fun ls hl => ?_)
  obtain ⟨n6, hq⟩ := hq
  refine w_X12_more_5 G hA q0 p1 p2 hk_q0 n6 (0 : Int32) (0 : Int32) μ _ hq _ _ _ hH (lv_sub hl [2, 3, 4, 0, 1] rfl) (fun a24 μ25 hq H locs ls hH hl => ?_)
  refine lv_iload_n hx hb dX12_more_53 rfl (lv_at hl 0 rfl) ?_
  exact x_iret G hr hH hq dX12_more_54
abbrev tX12_fit : List Cond := Cond.code yX12_fit cX12_fit 7 (some .int) :: wsL_law
theorem mi_X12_fit : Cond.instanceMethod yX12_fit ∈ wsL_law := (wm_17 _ (List.mem_of_getElem? (i := 6) rfl))
theorem ms_X12_fit : Cond.selects RX12 yX12_fit yX12_fit ∈ wsL_law := (wm_17 _ (List.mem_of_getElem? (i := 7) rfl))
theorem mc_X12_fit : Cond.code yX12_fit cX12_fit 7 (some .int) ∈ wsL_law := (wm_17 _ (List.mem_of_getElem? (i := 8) rfl))
theorem md_X12_fit : yX12_fit.cls ≠ "java/lang/invoke/MethodHandle" ∧ yX12_fit.cls ≠ "java/lang/invoke/VarHandle" ∧ (parseMethodDescriptor yX12_fit.desc).map (fun d => d.parameters.length) = some 2 := by decide +kernel
set_option maxRecDepth 100000 in
set_option maxHeartbeats 4000000 in
theorem wb_X12_fit_33 {E : xE} {ad : Nat → Nat} {p : Program} {l : Launch} {e : Env} {s : State} {m : MethodId} {args : Array Value} {below : List Frame} {meth : Method} {c : Code} {Q : State → Prop} (G : xG E p s m args meth c cX12_fit 7 RX12) (hA : ∀ a, s.heap.size ≤ a → xA ad s.heap.size a) (q9 : Nat) (a10 : Int32) (a11 : Int32) (hk_q9 : kd q9 = 10) (a12 : Int32) (a13 : Int32) (a14 : Int32) (μ16 : xM) (K330 : Int32 → Int32 → xM → Prop) (K33b : Int32 → Int32 → Int32 → xM → Prop) (hq : B_X12_fit_33 q9 a10 a11 a12 a13 a14 μ16 K330 K33b) {H : Heap} {locs : List Loc} {ls : Array Slot} (hH : xH E ad (xA ad s.heap.size) s.heap μ16 H locs) (hl : lv_has ls 7 [(0, .ref (ad q9)), (1, .int a10), (2, .int a11), (5, .int a12), (4, .int a13), (3, .int a14)]) (kK330 : ∀ (a17 : Int32) (a18 : Int32) (μ19 : xM), K330 a17 a18 μ19 → ∀ (H : Heap) (locs : List Loc) (ls : Array Slot), xH E ad (xA ad s.heap.size) s.heap μ19 H locs → lv_has ls 7 [(2, .int a11), (3, .int a17), (4, .int a18)] → W p l e (headSpec tX12_fit ({ frames := 3, cells := 0, slots := 0, locals := 120 } : Room)).room s m args below meth c H locs 0 0 Q (F0 m 111 ls [])) (kK33b : ∀ (a20 : Int32) (a21 : Int32) (a22 : Int32) (μ23 : xM), K33b a20 a21 a22 μ23 → ∀ (H : Heap) (locs : List Loc) (ls : Array Slot), xH E ad (xA ad s.heap.size) s.heap μ23 H locs → lv_has ls 7 [(0, .ref (ad q9)), (1, .int a10), (2, .int a11), (5, .int a20), (4, .int a21), (3, .int a22)] → W p l e (headSpec tX12_fit ({ frames := 3, cells := 0, slots := 0, locals := 120 } : Room)).room s m args below meth c H locs 0 0 Q (F0 m 33 ls [])) : W p l e (headSpec tX12_fit ({ frames := 3, cells := 0, slots := 0, locals := 120 } : Room)).room s m args below meth c H locs 0 0 Q (F0 m 33 ls []) := by
  obtain ⟨hx, hb, hml, hown, hts, hKn, hN, hlk⟩ := id G
  unfold B_X12_fit_33 at hq
  refine lv_iload hx hb dX12_fit_33 (lv_at hl 3 rfl) ?_
  refine lv_bipush (v := (49 : Int32)) hx hb dX12_fit_35 (by decide) ?_
  refine lv_icmp_ge (tgt := 111) hx hb dX12_fit_37 (by decide) (fun c24 => ?_) (fun c24 => ?_)
  · have hq := hq.1 c24
    exact kK330 a14 a13 μ16 hq _ _ _ hH (lv_sub hl [2, 5, 4] rfl)
  · have hq := hq.2 c24
    refine lv_aload_n hx hb dX12_fit_40 rfl (lv_at hl 0 rfl) ?_
    refine lv_aload_n hx hb dX12_fit_41 rfl (lv_at hl 0 rfl) ?_
    refine lv_iload_n hx hb dX12_fit_42 rfl (lv_at hl 1 rfl) ?_
    refine lv_iconst (v := (3 : Int32)) hx hb dX12_fit_43 (by decide) ?_
    refine x_cVi (C := RX12) (T := TX12) (N := 24) (As := [.int a10, .int (3 : Int32)]) (rest := [.ref (ad q9)]) G hH hA (c_X12_ofBlock l E ad μ16 q9 a10 (3 : Int32) hk_q9 _ hq) (wm_13 _ (List.mem_of_getElem? (i := 6) rfl)) mi_X12_ofBlock ms_X12_ofBlock mn_RX12 mc_X12_ofBlock rfl md_X12_ofBlock ⟨rfl, rfl, Nat.le_of_ble_eq_true rfl, Nat.le_of_ble_eq_true rfl⟩ hk_q9 (by decide) rfl rfl hl.1 rfl (Nat.le_of_ble_eq_true rfl) dX12_fit_44 ⟨Nat.zero_le _, Nat.zero_le _⟩ (fun r26 μ25 hq H locs hH => ?_)
    refine lv_iload hx hb dX12_fit_47 (lv_at hl 3 rfl) ?_
    refine lv_bipush (v := (7 : Int32)) hx hb dX12_fit_49 (by decide) ?_
    refine lv_irem hx hb dX12_fit_51 (by decide) ?_
    refine lv_iconst (v := (3 : Int32)) hx hb dX12_fit_52 (by decide) ?_
    refine lv_isub hx hb dX12_fit_53 ?_
    refine lv_iload hx hb dX12_fit_54 (lv_at hl 3 rfl) ?_
    refine lv_bipush (v := (7 : Int32)) hx hb dX12_fit_56 (by decide) ?_
    refine lv_idiv hx hb dX12_fit_58 (by decide) ?_
    refine lv_iconst (v := (3 : Int32)) hx hb dX12_fit_59 (by decide) ?_
    refine lv_isub hx hb dX12_fit_60 ?_
    refine x_cSi (As := [.int r26, .int ((a12 - a12 / (7 : Int32) * (7 : Int32)) - (3 : Int32)), .int ((a12 / (7 : Int32)) - (3 : Int32))]) (rest := [.ref (ad q9)]) G hH hA (c_X12_moved l E ad μ25 r26 ((a12 - a12 / (7 : Int32) * (7 : Int32)) - (3 : Int32)) ((a12 / (7 : Int32)) - (3 : Int32))  _ hq) (wm_13 _ (List.mem_of_getElem? (i := 10) rfl)) mt_X12_moved mn_RX12 mc_X12_moved md_X12_moved ⟨rfl, rfl, Nat.le_of_ble_eq_true rfl, Nat.le_of_ble_eq_true rfl⟩ rfl hl.1 rfl (Nat.le_of_ble_eq_true rfl) dX12_fit_61 ⟨Nat.zero_le _, Nat.zero_le _⟩ (fun r28 μ27 hq H locs hH => ?_)
    refine lv_aload_n hx hb dX12_fit_64 rfl (lv_at hl 0 rfl) ?_
    refine lv_iload_n hx hb dX12_fit_65 rfl (lv_at hl 1 rfl) ?_
    refine lv_iconst (v := (1 : Int32)) hx hb dX12_fit_66 (by decide) ?_
    refine x_cVi (C := RX12) (T := TX12) (N := 24) (As := [.int a10, .int (1 : Int32)]) (rest := [.int r28, .ref (ad q9)]) G hH hA (c_X12_ofBlock l E ad μ27 q9 a10 (1 : Int32) hk_q9 _ hq) (wm_13 _ (List.mem_of_getElem? (i := 6) rfl)) mi_X12_ofBlock ms_X12_ofBlock mn_RX12 mc_X12_ofBlock rfl md_X12_ofBlock ⟨rfl, rfl, Nat.le_of_ble_eq_true rfl, Nat.le_of_ble_eq_true rfl⟩ hk_q9 (by decide) rfl rfl hl.1 rfl (Nat.le_of_ble_eq_true rfl) dX12_fit_67 ⟨Nat.zero_le _, Nat.zero_le _⟩ (fun r30 μ29 hq H locs hH => ?_)
    refine x_cVi (C := RX12) (T := TX12) (N := 24) (As := [.int r28, .int r30]) (rest := []) G hH hA (c_X12_more l E ad μ29 q9 r28 r30 hk_q9 _ hq) (wm_17 _ (List.mem_of_getElem? (i := 9) rfl)) mi_X12_more ms_X12_more mn_RX12 mc_X12_more rfl md_X12_more ⟨rfl, rfl, Nat.le_of_ble_eq_true rfl, Nat.le_of_ble_eq_true rfl⟩ hk_q9 (by decide) rfl rfl hl.1 rfl (Nat.le_of_ble_eq_true rfl) dX12_fit_70 ⟨Nat.zero_le _, Nat.zero_le _⟩ (fun r32 μ31 hq H locs hH => ?_)
    refine lv_istore (lv' := [(6, .int r32), (0, .ref (ad q9)), (1, .int a10), (2, .int a11), (5, .int a12), (4, .int a13), (3, .int a14)]) hx hb dX12_fit_73 hl (by decide) rfl (fun ls hl => ?_)
    refine lv_iload hx hb dX12_fit_75 (lv_at hl 0 rfl) ?_
    refine lv_iload hx hb dX12_fit_77 (lv_at hl 5 rfl) ?_
    refine lv_icmp_le (tgt := 87) hx hb dX12_fit_79 (by decide) (fun c33 => ?_) (fun c33 => ?_)
    · have hq := hq.1 c33
      refine lv_iload_n hx hb dX12_fit_87 rfl (lv_at hl 6 rfl) ?_
      refine lv_istore_n (lv' := [(3, .int a14), (6, .int r32), (0, .ref (ad q9)), (1, .int a10), (2, .int a11), (5, .int a12), (4, .int a13)]) hx hb dX12_fit_88 rfl hl (by decide) rfl (fun ls hl => ?_)
      refine lv_iload hx hb dX12_fit_89 (lv_at hl 1 rfl) ?_
      refine lv_iload hx hb dX12_fit_91 (lv_at hl 6 rfl) ?_
      refine lv_icmp_le (tgt := 101) hx hb dX12_fit_93 (by decide) (fun c34 => ?_) (fun c34 => ?_)
      · have hq := hq.1 c34
        refine lv_iload hx hb dX12_fit_101 (lv_at hl 6 rfl) ?_
        refine lv_istore (lv' := [(4, .int a13), (3, .int a14), (6, .int r32), (0, .ref (ad q9)), (1, .int a10), (2, .int a11), (5, .int a12)]) hx hb dX12_fit_103 hl (by decide) rfl (fun ls hl => ?_)
        obtain ⟨v35, e_v35⟩ : ∃ y : Int32, y = (a12 + (1 : Int32)) := ⟨_, rfl⟩
        have hq := hq v35 e_v35
        refine lv_iinc (v := v35) (lv' := [(5, .int v35), (4, .int a13), (3, .int a14), (6, .int r32), (0, .ref (ad q9)), (1, .int a10), (2, .int a11)]) hx hb dX12_fit_105 hl (k := 6) rfl (by rw [e_v35]; rfl) (by decide) rfl (fun ls hl => ?_)
        refine lv_goto (tgt := 33) hx hb dX12_fit_108 (by decide) ?_
        exact kK33b v35 a13 a14 μ31 hq _ _ _ hH (lv_sub hl [4, 5, 6, 0, 1, 2] rfl)
      · have hq := hq.2 c34
        refine lv_iload hx hb dX12_fit_96 (lv_at hl 1 rfl) ?_
        refine lv_goto (tgt := 103) hx hb dX12_fit_98 (by decide) ?_
        refine lv_istore (lv' := [(4, .int r32), (3, .int a14), (6, .int r32), (0, .ref (ad q9)), (1, .int a10), (2, .int a11), (5, .int a12)]) hx hb dX12_fit_103 hl (by decide) rfl (fun ls hl => ?_)
        obtain ⟨v36, e_v36⟩ : ∃ y : Int32, y = (a12 + (1 : Int32)) := ⟨_, rfl⟩
        have hq := hq v36 e_v36
        refine lv_iinc (v := v36) (lv' := [(5, .int v36), (4, .int r32), (3, .int a14), (6, .int r32), (0, .ref (ad q9)), (1, .int a10), (2, .int a11)]) hx hb dX12_fit_105 hl (k := 6) rfl (by rw [e_v36]; rfl) (by decide) rfl (fun ls hl => ?_)
        refine lv_goto (tgt := 33) hx hb dX12_fit_108 (by decide) ?_
        exact kK33b v36 r32 a14 μ31 hq _ _ _ hH (lv_sub hl [4, 5, 6, 0, 1, 2] rfl)
    · have hq := hq.2 c33
      refine lv_iload hx hb dX12_fit_82 (lv_at hl 4 rfl) ?_
      refine lv_goto (tgt := 88) hx hb dX12_fit_84 (by decide) ?_
      refine lv_istore_n (lv' := [(3, .int a12), (6, .int r32), (0, .ref (ad q9)), (1, .int a10), (2, .int a11), (5, .int a12), (4, .int a13)]) hx hb dX12_fit_88 rfl hl (by decide) rfl (fun ls hl => ?_)
      refine lv_iload hx hb dX12_fit_89 (lv_at hl 1 rfl) ?_
      refine lv_iload hx hb dX12_fit_91 (lv_at hl 6 rfl) ?_
      refine lv_icmp_le (tgt := 101) hx hb dX12_fit_93 (by decide) (fun c37 => ?_) (fun c37 => ?_)
      · have hq := hq.1 c37
        refine lv_iload hx hb dX12_fit_101 (lv_at hl 6 rfl) ?_
        refine lv_istore (lv' := [(4, .int a13), (3, .int a12), (6, .int r32), (0, .ref (ad q9)), (1, .int a10), (2, .int a11), (5, .int a12)]) hx hb dX12_fit_103 hl (by decide) rfl (fun ls hl => ?_)
        obtain ⟨v38, e_v38⟩ : ∃ y : Int32, y = (a12 + (1 : Int32)) := ⟨_, rfl⟩
        have hq := hq v38 e_v38
        refine lv_iinc (v := v38) (lv' := [(5, .int v38), (4, .int a13), (3, .int a12), (6, .int r32), (0, .ref (ad q9)), (1, .int a10), (2, .int a11)]) hx hb dX12_fit_105 hl (k := 6) rfl (by rw [e_v38]; rfl) (by decide) rfl (fun ls hl => ?_)
        refine lv_goto (tgt := 33) hx hb dX12_fit_108 (by decide) ?_
        exact kK33b v38 a13 a12 μ31 hq _ _ _ hH (lv_sub hl [4, 5, 6, 0, 1, 2] rfl)
      · have hq := hq.2 c37
        refine lv_iload hx hb dX12_fit_96 (lv_at hl 1 rfl) ?_
        refine lv_goto (tgt := 103) hx hb dX12_fit_98 (by decide) ?_
        refine lv_istore (lv' := [(4, .int r32), (3, .int a12), (6, .int r32), (0, .ref (ad q9)), (1, .int a10), (2, .int a11), (5, .int a12)]) hx hb dX12_fit_103 hl (by decide) rfl (fun ls hl => ?_)
        obtain ⟨v39, e_v39⟩ : ∃ y : Int32, y = (a12 + (1 : Int32)) := ⟨_, rfl⟩
        have hq := hq v39 e_v39
        refine lv_iinc (v := v39) (lv' := [(5, .int v39), (4, .int r32), (3, .int a12), (6, .int r32), (0, .ref (ad q9)), (1, .int a10), (2, .int a11)]) hx hb dX12_fit_105 hl (k := 6) rfl (by rw [e_v39]; rfl) (by decide) rfl (fun ls hl => ?_)
        refine lv_goto (tgt := 33) hx hb dX12_fit_108 (by decide) ?_
        exact kK33b v39 r32 a12 μ31 hq _ _ _ hH (lv_sub hl [4, 5, 6, 0, 1, 2] rfl)
set_option maxRecDepth 100000 in
set_option maxHeartbeats 4000000 in
theorem w_X12_fit_33 {E : xE} {ad : Nat → Nat} {p : Program} {l : Launch} {e : Env} {s : State} {m : MethodId} {args : Array Value} {below : List Frame} {meth : Method} {c : Code} {Q : State → Prop} (G : xG E p s m args meth c cX12_fit 7 RX12) (hA : ∀ a, s.heap.size ≤ a → xA ad s.heap.size a) (q9 : Nat) (a10 : Int32) (a11 : Int32) (hk_q9 : kd q9 = 10) : ∀ (n : Nat) (a12 : Int32) (a13 : Int32) (a14 : Int32) (μ16 : xM) (K330 : Int32 → Int32 → xM → Prop) (hq : L_X12_fit_33 q9 a10 a11 n a12 a13 a14 μ16 K330) (H : Heap) (locs : List Loc) (ls : Array Slot) (hH : xH E ad (xA ad s.heap.size) s.heap μ16 H locs) (hl : lv_has ls 7 [(0, .ref (ad q9)), (1, .int a10), (2, .int a11), (5, .int a12), (4, .int a13), (3, .int a14)]) (kK330 : ∀ (a17 : Int32) (a18 : Int32) (μ19 : xM), K330 a17 a18 μ19 → ∀ (H : Heap) (locs : List Loc) (ls : Array Slot), xH E ad (xA ad s.heap.size) s.heap μ19 H locs → lv_has ls 7 [(2, .int a11), (3, .int a17), (4, .int a18)] → W p l e (headSpec tX12_fit ({ frames := 3, cells := 0, slots := 0, locals := 120 } : Room)).room s m args below meth c H locs 0 0 Q (F0 m 111 ls [])) , W p l e (headSpec tX12_fit ({ frames := 3, cells := 0, slots := 0, locals := 120 } : Room)).room s m args below meth c H locs 0 0 Q (F0 m 33 ls [])
  | 0, _, _, _, _, _, hq, _, _, _, _, _, _ => hq.elim
  | n + 1, a12, a13, a14, μ16, K330, hq, H, locs, ls, hH, hl, kK330 => wb_X12_fit_33 G hA q9 a10 a11 hk_q9 a12 a13 a14 μ16 K330 _ hq hH hl kK330 (fun x0 x1 x2 y hq H locs ls hH hl => w_X12_fit_33 G hA q9 a10 a11 hk_q9 n x0 x1 x2 y K330 hq H locs ls hH hl kK330)
set_option maxRecDepth 100000 in
set_option maxHeartbeats 4000000 in
theorem c_X12_fit (l : Launch) (E : xE) (ad : Nat → Nat) (μ : xM) (q0 : Nat) (p1 : Int32) (p2 : Int32) (hk_q0 : kd q0 = 10) (Qm : Int32 → xM → Prop) (hq : p_X12_fit q0 p1 p2 μ Qm) : xMi l yX12_fit tX12_fit ({ frames := 3, cells := 0, slots := 0, locals := 120 } : Room) E ad μ [.ref (ad q0), .int p1, .int p2] Qm := by
  refine x_sti (cc := cX12_fit) (maxL := 7) (ret := (some .int)) (own := RX12) rfl (by decide) rfl (Nat.le_of_ble_eq_true rfl) ?_
  intro p e s m args below meth c ls G hr hA hH hl
  obtain ⟨hx, hb, hml, hown, hts, hKn, hN, hlk⟩ := id G
  have hl : lv_has ls 7 [(0, .ref (ad q0)), (1, .int p1), (2, .int p2)] := hl
  have hH : xH E ad (xA ad s.heap.size) s.heap μ s.heap [] := hH
  unfold p_X12_fit at hq
  refine lv_aload_n hx hb dX12_fit_0 rfl (lv_at hl 0 rfl) ?_
  refine lv_iload_n hx hb dX12_fit_1 rfl (lv_at hl 1 rfl) ?_
  refine x_cVi (C := RX12) (T := TX12) (N := 24) (As := [.int p1]) (rest := []) G hH hA (c_X12_isBlock l E ad μ q0 p1 hk_q0 _ hq) (wm_12 _ (List.mem_of_getElem? (i := 22) rfl)) mi_X12_isBlock ms_X12_isBlock mn_RX12 mc_X12_isBlock rfl md_X12_isBlock ⟨rfl, rfl, Nat.le_of_ble_eq_true rfl, Nat.le_of_ble_eq_true rfl⟩ hk_q0 (by decide) rfl rfl hl.1 rfl (Nat.le_of_ble_eq_true rfl) dX12_fit_2 ⟨Nat.zero_le _, Nat.zero_le _⟩ (fun r2 μ1 hq H locs hH => ?_)
  refine lv_if_eq (tgt := 17) hx hb dX12_fit_5 (by decide) (fun c3 => ?_) (fun c3 => ?_)
  · have hq := hq.1 c3
    refine lv_aload_n hx hb dX12_fit_17 rfl (lv_at hl 0 rfl) ?_
    refine lv_bipush (v := (-2 : Int32)) hx hb dX12_fit_18 (by decide) ?_
    refine x_cVi (C := RX12) (T := TX12) (N := 24) (As := [.int (-2 : Int32)]) (rest := []) G hH hA (c_X12_refuses l E ad μ1 q0 (-2 : Int32) hk_q0 _ hq) (wm_11 _ (List.mem_of_getElem? (i := 6) rfl)) mi_X12_refuses ms_X12_refuses mn_RX12 mc_X12_refuses rfl md_X12_refuses ⟨rfl, rfl, Nat.le_of_ble_eq_true rfl, Nat.le_of_ble_eq_true rfl⟩ hk_q0 (by decide) rfl rfl hl.1 rfl (Nat.le_of_ble_eq_true rfl) dX12_fit_20 ⟨Nat.zero_le _, Nat.zero_le _⟩ (fun r5 μ4 hq H locs hH => ?_)
    exact x_iret G hr hH hq dX12_fit_23
  · have hq := hq.2 c3
    refine lv_iload_n hx hb dX12_fit_8 rfl (lv_at hl 2 rfl) ?_
    refine lv_iconst (v := (0 : Int32)) hx hb dX12_fit_9 (by decide) ?_
    refine lv_iconst (v := (2 : Int32)) hx hb dX12_fit_10 (by decide) ?_
    refine x_cSi (As := [.int p2, .int (0 : Int32), .int (2 : Int32)]) (rest := []) G hH hA (c_X12_in l E ad μ1 p2 (0 : Int32) (2 : Int32)  _ hq) (wm_10 _ (List.mem_of_getElem? (i := 23) rfl)) mt_X12_in mn_RX12 mc_X12_in md_X12_in ⟨rfl, rfl, Nat.le_of_ble_eq_true rfl, Nat.le_of_ble_eq_true rfl⟩ rfl hl.1 rfl (Nat.le_of_ble_eq_true rfl) dX12_fit_11 ⟨Nat.zero_le _, Nat.zero_le _⟩ (fun r7 μ6 hq H locs hH => ?_)
    refine lv_if_ne (tgt := 24) hx hb dX12_fit_14 (by decide) (fun c8 => ?_) (fun c8 => ?_)
    · have hq := hq.1 c8
      refine lv_iconst (v := (0 : Int32)) hx hb dX12_fit_24 (by decide) ?_
      refine lv_istore_n (lv' := [(3, .int (0 : Int32)), (0, .ref (ad q0)), (1, .int p1), (2, .int p2)]) hx hb dX12_fit_25 rfl hl (by decide) rfl (fun ls hl => ?_)
      refine lv_bipush (v := (-17 : Int32)) hx hb dX12_fit_26 (by decide) ?_
      refine lv_istore (lv' := [(4, .int (-17 : Int32)), (3, .int (0 : Int32)), (0, .ref (ad q0)), (1, .int p1), (2, .int p2)]) hx hb dX12_fit_28 hl (by decide) rfl (fun ls hl => ?_)
      refine lv_iconst (v := (0 : Int32)) hx hb dX12_fit_30 (by decide) ?_
      refine lv_istore (lv' := [(5, .int (0 : Int32)), (4, .int (-17 : Int32)), (3, .int (0 : Int32)), (0, .ref (ad q0)), (1, .int p1), (2, .int p2)]) hx hb dX12_fit_31 hl (by decide) rfl (fun ls hl => ?_)
      obtain ⟨n15, hq⟩ := hq
      refine w_X12_fit_33 G hA q0 p1 p2 hk_q0 n15 (0 : Int32) (-17 : Int32) (0 : Int32) μ6 _ hq _ _ _ hH (lv_sub hl [3, 4, 5, 0, 1, 2] rfl) (fun a40 a41 μ42 hq H locs ls hH hl => ?_)
      refine lv_iload_n hx hb dX12_fit_111 rfl (lv_at hl 0 rfl) ?_
      refine lv_if_ne (tgt := 122) hx hb dX12_fit_112 (by decide) (fun c43 => ?_) (fun c43 => ?_)
      · have hq := hq.1 c43
        refine lv_iload_n hx hb dX12_fit_122 rfl (lv_at hl 0 rfl) ?_
        refine lv_iconst (v := (1 : Int32)) hx hb dX12_fit_123 (by decide) ?_
        refine lv_icmp_ne (tgt := 134) hx hb dX12_fit_124 (by decide) (fun c44 => ?_) (fun c44 => ?_)
        · have hq := hq.1 c44
          refine lv_iload hx hb dX12_fit_134 (lv_at hl 2 rfl) ?_
          refine lv_bipush (v := (16 : Int32)) hx hb dX12_fit_136 (by decide) ?_
          refine lv_iadd hx hb dX12_fit_138 ?_
          exact x_iret G hr hH hq dX12_fit_139
        · have hq := hq.2 c44
          refine lv_iload_n hx hb dX12_fit_127 rfl (lv_at hl 1 rfl) ?_
          refine lv_bipush (v := (7 : Int32)) hx hb dX12_fit_128 (by decide) ?_
          refine lv_idiv hx hb dX12_fit_130 (by decide) ?_
          refine lv_goto (tgt := 139) hx hb dX12_fit_131 (by decide) ?_
          exact x_iret G hr hH hq dX12_fit_139
      · have hq := hq.2 c43
        refine lv_iload_n hx hb dX12_fit_115 rfl (lv_at hl 1 rfl) ?_
        refine lv_bipush (v := (7 : Int32)) hx hb dX12_fit_116 (by decide) ?_
        refine lv_irem hx hb dX12_fit_118 (by decide) ?_
        refine lv_goto (tgt := 139) hx hb dX12_fit_119 (by decide) ?_
        exact x_iret G hr hH hq dX12_fit_139
    · have hq := hq.2 c8
      refine lv_aload_n hx hb dX12_fit_17 rfl (lv_at hl 0 rfl) ?_
      refine lv_bipush (v := (-2 : Int32)) hx hb dX12_fit_18 (by decide) ?_
      refine x_cVi (C := RX12) (T := TX12) (N := 24) (As := [.int (-2 : Int32)]) (rest := []) G hH hA (c_X12_refuses l E ad μ6 q0 (-2 : Int32) hk_q0 _ hq) (wm_11 _ (List.mem_of_getElem? (i := 6) rfl)) mi_X12_refuses ms_X12_refuses mn_RX12 mc_X12_refuses rfl md_X12_refuses ⟨rfl, rfl, Nat.le_of_ble_eq_true rfl, Nat.le_of_ble_eq_true rfl⟩ hk_q0 (by decide) rfl rfl hl.1 rfl (Nat.le_of_ble_eq_true rfl) dX12_fit_20 ⟨Nat.zero_le _, Nat.zero_le _⟩ (fun r46 μ45 hq H locs hH => ?_)
      exact x_iret G hr hH hq dX12_fit_23
abbrev tX12_hand : List Cond := Cond.code yX12_hand cX12_hand 2 (some .int) :: wsL_law
theorem mi_X12_hand : Cond.instanceMethod yX12_hand ∈ wsL_law := (wm_30 _ (List.mem_of_getElem? (i := 8) rfl))
theorem ms_X12_hand : Cond.selects RX12 yX12_hand yX12_hand ∈ wsL_law := (wm_30 _ (List.mem_of_getElem? (i := 9) rfl))
theorem mc_X12_hand : Cond.code yX12_hand cX12_hand 2 (some .int) ∈ wsL_law := (wm_30 _ (List.mem_of_getElem? (i := 10) rfl))
theorem md_X12_hand : yX12_hand.cls ≠ "java/lang/invoke/MethodHandle" ∧ yX12_hand.cls ≠ "java/lang/invoke/VarHandle" ∧ (parseMethodDescriptor yX12_hand.desc).map (fun d => d.parameters.length) = some 1 := by decide +kernel
set_option maxRecDepth 100000 in
set_option maxHeartbeats 4000000 in
theorem c_X12_hand (l : Launch) (E : xE) (ad : Nat → Nat) (μ : xM) (q0 : Nat) (p1 : Int32) (hk_q0 : kd q0 = 10) (Qm : Int32 → xM → Prop) (hq : p_X12_hand q0 p1 μ Qm) : xMi l yX12_hand tX12_hand ({ frames := 5, cells := 0, slots := 0, locals := 200 } : Room) E ad μ [.ref (ad q0), .int p1] Qm := by
  refine x_sti (cc := cX12_hand) (maxL := 2) (ret := (some .int)) (own := RX12) rfl (by decide) rfl (Nat.le_of_ble_eq_true rfl) ?_
  intro p e s m args below meth c ls G hr hA hH hl
  obtain ⟨hx, hb, hml, hown, hts, hKn, hN, hlk⟩ := id G
  have hl : lv_has ls 2 [(0, .ref (ad q0)), (1, .int p1)] := hl
  have hH : xH E ad (xA ad s.heap.size) s.heap μ s.heap [] := hH
  unfold p_X12_hand at hq
  refine lv_iload_n hx hb dX12_hand_0 rfl (lv_at hl 1 rfl) ?_
  refine lv_iconst (v := (0 : Int32)) hx hb dX12_hand_1 (by decide) ?_
  refine lv_bipush (v := (6 : Int32)) hx hb dX12_hand_2 (by decide) ?_
  refine x_cSi (As := [.int p1, .int (0 : Int32), .int (6 : Int32)]) (rest := []) G hH hA (c_X12_in l E ad μ p1 (0 : Int32) (6 : Int32)  _ hq) (wm_10 _ (List.mem_of_getElem? (i := 23) rfl)) mt_X12_in mn_RX12 mc_X12_in md_X12_in ⟨rfl, rfl, Nat.le_of_ble_eq_true rfl, Nat.le_of_ble_eq_true rfl⟩ rfl hl.1 rfl (Nat.le_of_ble_eq_true rfl) dX12_hand_4 ⟨Nat.zero_le _, Nat.zero_le _⟩ (fun r2 μ1 hq H locs hH => ?_)
  refine lv_if_eq (tgt := 18) hx hb dX12_hand_7 (by decide) (fun c3 => ?_) (fun c3 => ?_)
  · have hq := hq.1 c3
    refine lv_aload_n hx hb dX12_hand_18 rfl (lv_at hl 0 rfl) ?_
    refine lv_bipush (v := (-2 : Int32)) hx hb dX12_hand_19 (by decide) ?_
    refine x_cVi (C := RX12) (T := TX12) (N := 24) (As := [.int (-2 : Int32)]) (rest := []) G hH hA (c_X12_refuses l E ad μ1 q0 (-2 : Int32) hk_q0 _ hq) (wm_11 _ (List.mem_of_getElem? (i := 6) rfl)) mi_X12_refuses ms_X12_refuses mn_RX12 mc_X12_refuses rfl md_X12_refuses ⟨rfl, rfl, Nat.le_of_ble_eq_true rfl, Nat.le_of_ble_eq_true rfl⟩ hk_q0 (by decide) rfl rfl hl.1 rfl (Nat.le_of_ble_eq_true rfl) dX12_hand_21 ⟨Nat.zero_le _, Nat.zero_le _⟩ (fun r5 μ4 hq H locs hH => ?_)
    exact x_iret G hr hH hq dX12_hand_24
  · have hq := hq.2 c3
    refine lv_aload_n hx hb dX12_hand_10 rfl (lv_at hl 0 rfl) ?_
    refine lv_iload_n hx hb dX12_hand_11 rfl (lv_at hl 1 rfl) ?_
    refine x_cVi (C := RX12) (T := TX12) (N := 24) (As := [.int p1]) (rest := []) G hH hA (c_X12_ofHand l E ad μ1 q0 p1 hk_q0 _ hq) (wm_30 _ (List.mem_of_getElem? (i := 11) rfl)) mi_X12_ofHand ms_X12_ofHand mn_RX12 mc_X12_ofHand rfl md_X12_ofHand ⟨rfl, rfl, Nat.le_of_ble_eq_true rfl, Nat.le_of_ble_eq_true rfl⟩ hk_q0 (by decide) rfl rfl hl.1 rfl (Nat.le_of_ble_eq_true rfl) dX12_hand_12 ⟨Nat.zero_le _, Nat.zero_le _⟩ (fun r7 μ6 hq H locs hH => ?_)
    refine lv_goto (tgt := 24) hx hb dX12_hand_15 (by decide) ?_
    exact x_iret G hr hH hq dX12_hand_24
abbrev tX12_here : List Cond := Cond.code yX12_here cX12_here 1 (some .int) :: wsL_law
theorem mi_X12_here : Cond.instanceMethod yX12_here ∈ wsL_law := (wm_34 _ (List.mem_of_getElem? (i := 21) rfl))
theorem ms_X12_here : Cond.selects RX12 yX12_here yX12_here ∈ wsL_law := (wm_34 _ (List.mem_of_getElem? (i := 22) rfl))
theorem mc_X12_here : Cond.code yX12_here cX12_here 1 (some .int) ∈ wsL_law := (wm_34 _ (List.mem_of_getElem? (i := 23) rfl))
theorem md_X12_here : yX12_here.cls ≠ "java/lang/invoke/MethodHandle" ∧ yX12_here.cls ≠ "java/lang/invoke/VarHandle" ∧ (parseMethodDescriptor yX12_here.desc).map (fun d => d.parameters.length) = some 0 := by decide +kernel
set_option maxRecDepth 100000 in
set_option maxHeartbeats 4000000 in
theorem wb_X12_here_0 {E : xE} {ad : Nat → Nat} {p : Program} {l : Launch} {e : Env} {s : State} {m : MethodId} {args : Array Value} {below : List Frame} {meth : Method} {c : Code} {Q : State → Prop} (G : xG E p s m args meth c cX12_here 1 RX12) (hA : ∀ a, s.heap.size ≤ a → xA ad s.heap.size a) (q1 : Nat) (hk_q1 : kd q1 = 10) (μ3 : xM) (K00 : xM → Prop) (K0b : xM → Prop) (hq : B_X12_here_0 q1  μ3 K00 K0b) {H : Heap} {locs : List Loc} {ls : Array Slot} (hH : xH E ad (xA ad s.heap.size) s.heap μ3 H locs) (hl : lv_has ls 1 [(0, .ref (ad q1))]) (kK00 : ∀ (μ4 : xM), K00  μ4 → ∀ (H : Heap) (locs : List Loc) (ls : Array Slot), xH E ad (xA ad s.heap.size) s.heap μ4 H locs → lv_has ls 1 [(0, .ref (ad q1))] → W p l e (headSpec tX12_here ({ frames := 1, cells := 0, slots := 0, locals := 40 } : Room)).room s m args below meth c H locs 0 0 Q (F0 m 38 ls [])) (kK0b : ∀ (μ5 : xM), K0b  μ5 → ∀ (H : Heap) (locs : List Loc) (ls : Array Slot), xH E ad (xA ad s.heap.size) s.heap μ5 H locs → lv_has ls 1 [(0, .ref (ad q1))] → W p l e (headSpec tX12_here ({ frames := 1, cells := 0, slots := 0, locals := 40 } : Room)).room s m args below meth c H locs 0 0 Q (F0 m 0 ls [])) : W p l e (headSpec tX12_here ({ frames := 1, cells := 0, slots := 0, locals := 40 } : Room)).room s m args below meth c H locs 0 0 Q (F0 m 0 ls []) := by
  obtain ⟨hx, hb, hml, hown, hts, hKn, hN, hlk⟩ := id G
  unfold B_X12_here_0 at hq
  refine lv_aload_n hx hb dX12_here_0 rfl (lv_at hl 0 rfl) ?_
  refine x_get (j := 18) (C := RX12) (T := TX12) (N := 24) (v := .int (μ3.1 q1 18)) G hH hk_q1 (by decide) rfl inlX12 (by decide) (wm_34 _ (List.mem_of_getElem? (i := 17) rfl)) rfl dX12_here_1 ?_
  refine lv_aload_n hx hb dX12_here_4 rfl (lv_at hl 0 rfl) ?_
  refine x_get (j := 17) (C := RX12) (T := TX12) (N := 24) (v := .int (μ3.1 q1 17)) G hH hk_q1 (by decide) rfl inlX12 (by decide) (wm_31 _ (List.mem_of_getElem? (i := 16) rfl)) rfl dX12_here_5 ?_
  refine lv_icmp_ge (tgt := 38) hx hb dX12_here_8 (by decide) (fun c6 => ?_) (fun c6 => ?_)
  · have hq := hq.1 c6
    exact kK00  μ3 hq _ _ _ hH (lv_sub hl [0] rfl)
  · have hq := hq.2 c6
    refine lv_aload_n hx hb dX12_here_11 rfl (lv_at hl 0 rfl) ?_
    refine x_get (j := 16) (C := RX12) (T := TX12) (N := 24) (v := .ref (ad (rt q1 16))) G hH hk_q1 (by decide) rfl inlX12 (by decide) (wm_7 _ (List.mem_of_getElem? (i := 6) rfl)) rfl dX12_here_12 ?_
    refine lv_aload_n hx hb dX12_here_15 rfl (lv_at hl 0 rfl) ?_
    refine x_get (j := 18) (C := RX12) (T := TX12) (N := 24) (v := .int (μ3.1 q1 18)) G hH hk_q1 (by decide) rfl inlX12 (by decide) (wm_34 _ (List.mem_of_getElem? (i := 17) rfl)) rfl dX12_here_16 ?_
    refine x_iald G hH (kt_10_16 _ hk_q1) hq.1 dX12_here_19 ?_
    have hq := hq.2
    refine lv_bipush (v := (32 : Int32)) hx hb dX12_here_20 (by decide) ?_
    refine lv_icmp_ne (tgt := 38) hx hb dX12_here_22 (by decide) (fun c7 => ?_) (fun c7 => ?_)
    · have hq := hq.1 c7
      exact kK00  μ3 hq _ _ _ hH (lv_sub hl [0] rfl)
    · have hq := hq.2 c7
      refine lv_aload_n hx hb dX12_here_25 rfl (lv_at hl 0 rfl) ?_
      refine lv_dup hx hb dX12_here_26 rfl ?_
      refine x_get (j := 18) (C := RX12) (T := TX12) (N := 24) (v := .int (μ3.1 q1 18)) G hH hk_q1 (by decide) rfl inlX12 (by decide) (wm_34 _ (List.mem_of_getElem? (i := 17) rfl)) rfl dX12_here_27 ?_
      refine lv_iconst (v := (1 : Int32)) hx hb dX12_here_30 (by decide) ?_
      refine lv_iadd hx hb dX12_here_31 ?_
      refine x_puti (j := 18) (C := RX12) (T := TX12) (N := 24) (ty := .int) G hH hk_q1 (by decide) rfl inlX12 tyX12 tyX12_ok nmX12 (by decide) (wm_34 _ (List.mem_of_getElem? (i := 17) rfl)) rfl (by decide +kernel) rfl rfl (fun _ _ => Nat.le_of_ble_eq_true rfl) (fun _ _ => rfl) dX12_here_32 (fun μ8 e_μ8 H locs hH => ?_)
      have hq := hq μ8 e_μ8
      refine lv_goto (tgt := 0) hx hb dX12_here_35 (by decide) ?_
      exact kK0b  μ8 hq _ _ _ hH (lv_sub hl [0] rfl)
set_option maxRecDepth 100000 in
set_option maxHeartbeats 4000000 in
theorem w_X12_here_0 {E : xE} {ad : Nat → Nat} {p : Program} {l : Launch} {e : Env} {s : State} {m : MethodId} {args : Array Value} {below : List Frame} {meth : Method} {c : Code} {Q : State → Prop} (G : xG E p s m args meth c cX12_here 1 RX12) (hA : ∀ a, s.heap.size ≤ a → xA ad s.heap.size a) (q1 : Nat) (hk_q1 : kd q1 = 10) : ∀ (n : Nat) (μ3 : xM) (K00 : xM → Prop) (hq : L_X12_here_0 q1 n  μ3 K00) (H : Heap) (locs : List Loc) (ls : Array Slot) (hH : xH E ad (xA ad s.heap.size) s.heap μ3 H locs) (hl : lv_has ls 1 [(0, .ref (ad q1))]) (kK00 : ∀ (μ4 : xM), K00  μ4 → ∀ (H : Heap) (locs : List Loc) (ls : Array Slot), xH E ad (xA ad s.heap.size) s.heap μ4 H locs → lv_has ls 1 [(0, .ref (ad q1))] → W p l e (headSpec tX12_here ({ frames := 1, cells := 0, slots := 0, locals := 40 } : Room)).room s m args below meth c H locs 0 0 Q (F0 m 38 ls [])) , W p l e (headSpec tX12_here ({ frames := 1, cells := 0, slots := 0, locals := 40 } : Room)).room s m args below meth c H locs 0 0 Q (F0 m 0 ls [])
  | 0, _, _, hq, _, _, _, _, _, _ => hq.elim
  | n + 1, μ3, K00, hq, H, locs, ls, hH, hl, kK00 => wb_X12_here_0 G hA q1 hk_q1  μ3 K00 _ hq hH hl kK00 (fun  y hq H locs ls hH hl => w_X12_here_0 G hA q1 hk_q1 n  y K00 hq H locs ls hH hl kK00)
set_option maxRecDepth 100000 in
set_option maxHeartbeats 4000000 in
theorem c_X12_here (l : Launch) (E : xE) (ad : Nat → Nat) (μ : xM) (q0 : Nat) (hk_q0 : kd q0 = 10) (Qm : Int32 → xM → Prop) (hq : p_X12_here q0 μ Qm) : xMi l yX12_here tX12_here ({ frames := 1, cells := 0, slots := 0, locals := 40 } : Room) E ad μ [.ref (ad q0)] Qm := by
  refine x_sti (cc := cX12_here) (maxL := 1) (ret := (some .int)) (own := RX12) rfl (by decide) rfl (Nat.le_of_ble_eq_true rfl) ?_
  intro p e s m args below meth c ls G hr hA hH hl
  obtain ⟨hx, hb, hml, hown, hts, hKn, hN, hlk⟩ := id G
  have hl : lv_has ls 1 [(0, .ref (ad q0))] := hl
  have hH : xH E ad (xA ad s.heap.size) s.heap μ s.heap [] := hH
  unfold p_X12_here at hq
  obtain ⟨n2, hq⟩ := hq
  refine w_X12_here_0 G hA q0 hk_q0 n2  μ _ hq _ _ _ hH (lv_sub hl [0] rfl) (fun  μ9 hq H locs ls hH hl => ?_)
  refine lv_aload_n hx hb dX12_here_38 rfl (lv_at hl 0 rfl) ?_
  refine x_get (j := 18) (C := RX12) (T := TX12) (N := 24) (v := .int (μ9.1 q0 18)) G hH hk_q0 (by decide) rfl inlX12 (by decide) (wm_34 _ (List.mem_of_getElem? (i := 17) rfl)) rfl dX12_here_39 ?_
  refine lv_aload_n hx hb dX12_here_42 rfl (lv_at hl 0 rfl) ?_
  refine x_get (j := 17) (C := RX12) (T := TX12) (N := 24) (v := .int (μ9.1 q0 17)) G hH hk_q0 (by decide) rfl inlX12 (by decide) (wm_31 _ (List.mem_of_getElem? (i := 16) rfl)) rfl dX12_here_43 ?_
  refine lv_icmp_ge (tgt := 61) hx hb dX12_here_46 (by decide) (fun c10 => ?_) (fun c10 => ?_)
  · have hq := hq.1 c10
    refine lv_iconst (v := (-1 : Int32)) hx hb dX12_here_61 (by decide) ?_
    exact x_iret G hr hH hq dX12_here_62
  · have hq := hq.2 c10
    refine lv_aload_n hx hb dX12_here_49 rfl (lv_at hl 0 rfl) ?_
    refine x_get (j := 16) (C := RX12) (T := TX12) (N := 24) (v := .ref (ad (rt q0 16))) G hH hk_q0 (by decide) rfl inlX12 (by decide) (wm_7 _ (List.mem_of_getElem? (i := 6) rfl)) rfl dX12_here_50 ?_
    refine lv_aload_n hx hb dX12_here_53 rfl (lv_at hl 0 rfl) ?_
    refine x_get (j := 18) (C := RX12) (T := TX12) (N := 24) (v := .int (μ9.1 q0 18)) G hH hk_q0 (by decide) rfl inlX12 (by decide) (wm_34 _ (List.mem_of_getElem? (i := 17) rfl)) rfl dX12_here_54 ?_
    refine x_iald G hH (kt_10_16 _ hk_q0) hq.1 dX12_here_57 ?_
    have hq := hq.2
    refine lv_goto (tgt := 62) hx hb dX12_here_58 (by decide) ?_
    exact x_iret G hr hH hq dX12_here_62
abbrev tX12_isFigure : List Cond := Cond.code yX12_isFigure cX12_isFigure 1 (some .boolean) :: wsL_law
theorem mi_X12_isFigure : Cond.instanceMethod yX12_isFigure ∈ wsL_law := (wm_35 _ (List.mem_of_getElem? (i := 16) rfl))
theorem ms_X12_isFigure : Cond.selects RX12 yX12_isFigure yX12_isFigure ∈ wsL_law := (wm_35 _ (List.mem_of_getElem? (i := 17) rfl))
theorem mc_X12_isFigure : Cond.code yX12_isFigure cX12_isFigure 1 (some .boolean) ∈ wsL_law := (wm_35 _ (List.mem_of_getElem? (i := 18) rfl))
theorem md_X12_isFigure : yX12_isFigure.cls ≠ "java/lang/invoke/MethodHandle" ∧ yX12_isFigure.cls ≠ "java/lang/invoke/VarHandle" ∧ (parseMethodDescriptor yX12_isFigure.desc).map (fun d => d.parameters.length) = some 0 := by decide +kernel
set_option maxRecDepth 100000 in
set_option maxHeartbeats 4000000 in
theorem c_X12_isFigure (l : Launch) (E : xE) (ad : Nat → Nat) (μ : xM) (q0 : Nat) (hk_q0 : kd q0 = 10) (Qm : Int32 → xM → Prop) (hq : p_X12_isFigure q0 μ Qm) : xMi l yX12_isFigure tX12_isFigure ({ frames := 2, cells := 0, slots := 0, locals := 80 } : Room) E ad μ [.ref (ad q0)] Qm := by
  refine x_sti (cc := cX12_isFigure) (maxL := 1) (ret := (some .boolean)) (own := RX12) rfl (by decide) rfl (Nat.le_of_ble_eq_true rfl) ?_
  intro p e s m args below meth c ls G hr hA hH hl
  obtain ⟨hx, hb, hml, hown, hts, hKn, hN, hlk⟩ := id G
  have hl : lv_has ls 1 [(0, .ref (ad q0))] := hl
  have hH : xH E ad (xA ad s.heap.size) s.heap μ s.heap [] := hH
  unfold p_X12_isFigure at hq
  refine lv_aload_n hx hb dX12_isFigure_0 rfl (lv_at hl 0 rfl) ?_
  refine x_get (j := 18) (C := RX12) (T := TX12) (N := 24) (v := .int (μ.1 q0 18)) G hH hk_q0 (by decide) rfl inlX12 (by decide) (wm_34 _ (List.mem_of_getElem? (i := 17) rfl)) rfl dX12_isFigure_1 ?_
  refine lv_aload_n hx hb dX12_isFigure_4 rfl (lv_at hl 0 rfl) ?_
  refine x_get (j := 17) (C := RX12) (T := TX12) (N := 24) (v := .int (μ.1 q0 17)) G hH hk_q0 (by decide) rfl inlX12 (by decide) (wm_31 _ (List.mem_of_getElem? (i := 16) rfl)) rfl dX12_isFigure_5 ?_
  refine lv_icmp_ge (tgt := 34) hx hb dX12_isFigure_8 (by decide) (fun c1 => ?_) (fun c1 => ?_)
  · have hq := hq.1 c1
    refine lv_iconst (v := (0 : Int32)) hx hb dX12_isFigure_34 (by decide) ?_
    exact x_zret G hr hH xz_0 hq dX12_isFigure_35
  · have hq := hq.2 c1
    refine lv_aload_n hx hb dX12_isFigure_11 rfl (lv_at hl 0 rfl) ?_
    refine x_get (j := 16) (C := RX12) (T := TX12) (N := 24) (v := .ref (ad (rt q0 16))) G hH hk_q0 (by decide) rfl inlX12 (by decide) (wm_7 _ (List.mem_of_getElem? (i := 6) rfl)) rfl dX12_isFigure_12 ?_
    refine lv_aload_n hx hb dX12_isFigure_15 rfl (lv_at hl 0 rfl) ?_
    refine x_get (j := 18) (C := RX12) (T := TX12) (N := 24) (v := .int (μ.1 q0 18)) G hH hk_q0 (by decide) rfl inlX12 (by decide) (wm_34 _ (List.mem_of_getElem? (i := 17) rfl)) rfl dX12_isFigure_16 ?_
    refine x_iald G hH (kt_10_16 _ hk_q0) hq.1 dX12_isFigure_19 ?_
    have hq := hq.2
    refine lv_bipush (v := (48 : Int32)) hx hb dX12_isFigure_20 (by decide) ?_
    refine lv_bipush (v := (57 : Int32)) hx hb dX12_isFigure_22 (by decide) ?_
    refine x_cSi (As := [.int (μ.1 (rt q0 16) (μ.1 q0 18).toNatClampNeg), .int (48 : Int32), .int (57 : Int32)]) (rest := []) G hH hA (c_X12_in l E ad μ (μ.1 (rt q0 16) (μ.1 q0 18).toNatClampNeg) (48 : Int32) (57 : Int32)  _ hq) (wm_10 _ (List.mem_of_getElem? (i := 23) rfl)) mt_X12_in mn_RX12 mc_X12_in md_X12_in ⟨rfl, rfl, Nat.le_of_ble_eq_true rfl, Nat.le_of_ble_eq_true rfl⟩ rfl hl.1 rfl (Nat.le_of_ble_eq_true rfl) dX12_isFigure_24 ⟨Nat.zero_le _, Nat.zero_le _⟩ (fun r3 μ2 hq H locs hH => ?_)
    refine lv_if_eq (tgt := 34) hx hb dX12_isFigure_27 (by decide) (fun c4 => ?_) (fun c4 => ?_)
    · have hq := hq.1 c4
      refine lv_iconst (v := (0 : Int32)) hx hb dX12_isFigure_34 (by decide) ?_
      exact x_zret G hr hH xz_0 hq dX12_isFigure_35
    · have hq := hq.2 c4
      refine lv_iconst (v := (1 : Int32)) hx hb dX12_isFigure_30 (by decide) ?_
      refine lv_goto (tgt := 35) hx hb dX12_isFigure_31 (by decide) ?_
      exact x_zret G hr hH xz_1 hq dX12_isFigure_35
abbrev tX12_isNew : List Cond := Cond.code yX12_isNew cX12_isNew 8 (some .boolean) :: wsL_law
theorem mi_X12_isNew : Cond.instanceMethod yX12_isNew ∈ wsL_law := (wm_25 _ (List.mem_of_getElem? (i := 21) rfl))
theorem ms_X12_isNew : Cond.selects RX12 yX12_isNew yX12_isNew ∈ wsL_law := (wm_25 _ (List.mem_of_getElem? (i := 22) rfl))
theorem mc_X12_isNew : Cond.code yX12_isNew cX12_isNew 8 (some .boolean) ∈ wsL_law := (wm_25 _ (List.mem_of_getElem? (i := 23) rfl))
theorem md_X12_isNew : yX12_isNew.cls ≠ "java/lang/invoke/MethodHandle" ∧ yX12_isNew.cls ≠ "java/lang/invoke/VarHandle" ∧ (parseMethodDescriptor yX12_isNew.desc).map (fun d => d.parameters.length) = some 1 := by decide +kernel
set_option maxRecDepth 100000 in
set_option maxHeartbeats 4000000 in
theorem wb_X12_isNew_8 {E : xE} {ad : Nat → Nat} {p : Program} {l : Launch} {e : Env} {s : State} {m : MethodId} {args : Array Value} {below : List Frame} {meth : Method} {c : Code} {Q : State → Prop} (G : xG E p s m args meth c cX12_isNew 8 RX12) (hA : ∀ a, s.heap.size ≤ a → xA ad s.heap.size a) (q1 : Nat) (a2 : Int32) (hk_q1 : kd q1 = 10) (a3 : Int32) (b4 : Int64) (b5 : Int64) (μ7 : xM) (K80 : Int64 → Int64 → xM → Prop) (K8b : Int32 → Int64 → Int64 → xM → Prop) (hq : B_X12_isNew_8 q1 a2 a3 b4 b5 μ7 K80 K8b) {H : Heap} {locs : List Loc} {ls : Array Slot} (hH : xH E ad (xA ad s.heap.size) s.heap μ7 H locs) (hl : lv_has ls 8 [(0, .ref (ad q1)), (1, .int a2), (6, .int a3), (4, .long b4), (2, .long b5)]) (kK80 : ∀ (b8 : Int64) (b9 : Int64) (μ10 : xM), K80 b8 b9 μ10 → ∀ (H : Heap) (locs : List Loc) (ls : Array Slot), xH E ad (xA ad s.heap.size) s.heap μ10 H locs → lv_has ls 8 [(0, .ref (ad q1)), (1, .int a2), (2, .long b8), (4, .long b9)] → W p l e (headSpec tX12_isNew ({ frames := 1, cells := 0, slots := 0, locals := 40 } : Room)).room s m args below meth c H locs 0 0 Q (F0 m 49 ls [])) (kK8b : ∀ (a11 : Int32) (b12 : Int64) (b13 : Int64) (μ14 : xM), K8b a11 b12 b13 μ14 → ∀ (H : Heap) (locs : List Loc) (ls : Array Slot), xH E ad (xA ad s.heap.size) s.heap μ14 H locs → lv_has ls 8 [(0, .ref (ad q1)), (1, .int a2), (6, .int a11), (4, .long b12), (2, .long b13)] → W p l e (headSpec tX12_isNew ({ frames := 1, cells := 0, slots := 0, locals := 40 } : Room)).room s m args below meth c H locs 0 0 Q (F0 m 8 ls [])) : W p l e (headSpec tX12_isNew ({ frames := 1, cells := 0, slots := 0, locals := 40 } : Room)).room s m args below meth c H locs 0 0 Q (F0 m 8 ls []) := by
  obtain ⟨hx, hb, hml, hown, hts, hKn, hN, hlk⟩ := id G
  unfold B_X12_isNew_8 at hq
  refine lv_iload hx hb dX12_isNew_8 (lv_at hl 2 rfl) ?_
  refine lv_bipush (v := (16 : Int32)) hx hb dX12_isNew_10 (by decide) ?_
  refine lv_icmp_ge (tgt := 49) hx hb dX12_isNew_12 (by decide) (fun c15 => ?_) (fun c15 => ?_)
  · have hq := hq.1 c15
    exact kK80 b5 b4 μ7 hq _ _ _ hH (lv_sub hl [0, 1, 4, 3] rfl)
  · have hq := hq.2 c15
    refine lv_lload_n hx hb dX12_isNew_15 rfl (lv_at hl 4 rfl) ?_
    refine lv_iconst (v := (4 : Int32)) hx hb dX12_isNew_16 (by decide) ?_
    refine lv_lshl (v := (lL b5 (4 : Int32))) hx hb dX12_isNew_17 rfl ?_
    refine lv_aload_n hx hb dX12_isNew_18 rfl (lv_at hl 0 rfl) ?_
    refine x_get (j := 5) (C := RX12) (T := TX12) (N := 24) (v := .ref (ad (rt q1 5))) G hH hk_q1 (by decide) rfl inlX12 (by decide) (wm_6 _ (List.mem_of_getElem? (i := 22) rfl)) rfl dX12_isNew_19 ?_
    refine lv_iload hx hb dX12_isNew_22 (lv_at hl 2 rfl) ?_
    refine x_iald G hH (kt_10_5 _ hk_q1) hq.1 dX12_isNew_24 ?_
    have hq := hq.2
    refine lv_i2l (v := ((μ7.1 (rt q1 5) a3.toNatClampNeg).toInt64)) hx hb dX12_isNew_25 rfl ?_
    refine lv_lor hx hb dX12_isNew_26 ?_
    refine lv_topl (fun v16 e_v16 => ?_)
    have hq := hq v16 e_v16
    refine lv_lstore_n (lv' := [(2, .long v16), (0, .ref (ad q1)), (1, .int a2), (6, .int a3), (4, .long b4)]) hx hb dX12_isNew_27 rfl hl (by decide) rfl (fun ls hl => ?_)
    refine lv_lload hx hb dX12_isNew_28 (lv_at hl 4 rfl) ?_
    refine lv_iconst (v := (4 : Int32)) hx hb dX12_isNew_30 (by decide) ?_
    refine lv_lshl (v := (lL b4 (4 : Int32))) hx hb dX12_isNew_31 rfl ?_
    refine lv_aload_n hx hb dX12_isNew_32 rfl (lv_at hl 1 rfl) ?_
    refine x_get (j := 6) (C := RX12) (T := TX12) (N := 24) (v := .ref (ad (rt q1 6))) G hH hk_q1 (by decide) rfl inlX12 (by decide) (wm_6 _ (List.mem_of_getElem? (i := 23) rfl)) rfl dX12_isNew_33 ?_
    refine lv_iload hx hb dX12_isNew_36 (lv_at hl 3 rfl) ?_
    refine x_iald G hH (kt_10_6 _ hk_q1) hq.1 dX12_isNew_38 ?_
    have hq := hq.2
    refine lv_i2l (v := ((μ7.1 (rt q1 6) a3.toNatClampNeg).toInt64)) hx hb dX12_isNew_39 rfl ?_
    refine lv_lor hx hb dX12_isNew_40 ?_
    refine lv_topl (fun v17 e_v17 => ?_)
    have hq := hq v17 e_v17
    refine lv_lstore (lv' := [(4, .long v17), (2, .long v16), (0, .ref (ad q1)), (1, .int a2), (6, .int a3)]) hx hb dX12_isNew_41 hl (by decide) rfl (fun ls hl => ?_)
    obtain ⟨v18, e_v18⟩ : ∃ y : Int32, y = (a3 + (1 : Int32)) := ⟨_, rfl⟩
    have hq := hq v18 e_v18
    refine lv_iinc (v := v18) (lv' := [(6, .int v18), (4, .long v17), (2, .long v16), (0, .ref (ad q1)), (1, .int a2)]) hx hb dX12_isNew_43 hl (k := 4) rfl (by rw [e_v18]; rfl) (by decide) rfl (fun ls hl => ?_)
    refine lv_goto (tgt := 8) hx hb dX12_isNew_46 (by decide) ?_
    exact kK8b v18 v17 v16 μ7 hq _ _ _ hH (lv_sub hl [3, 4, 0, 1, 2] rfl)
set_option maxRecDepth 100000 in
set_option maxHeartbeats 4000000 in
theorem w_X12_isNew_8 {E : xE} {ad : Nat → Nat} {p : Program} {l : Launch} {e : Env} {s : State} {m : MethodId} {args : Array Value} {below : List Frame} {meth : Method} {c : Code} {Q : State → Prop} (G : xG E p s m args meth c cX12_isNew 8 RX12) (hA : ∀ a, s.heap.size ≤ a → xA ad s.heap.size a) (q1 : Nat) (a2 : Int32) (hk_q1 : kd q1 = 10) : ∀ (n : Nat) (a3 : Int32) (b4 : Int64) (b5 : Int64) (μ7 : xM) (K80 : Int64 → Int64 → xM → Prop) (hq : L_X12_isNew_8 q1 a2 n a3 b4 b5 μ7 K80) (H : Heap) (locs : List Loc) (ls : Array Slot) (hH : xH E ad (xA ad s.heap.size) s.heap μ7 H locs) (hl : lv_has ls 8 [(0, .ref (ad q1)), (1, .int a2), (6, .int a3), (4, .long b4), (2, .long b5)]) (kK80 : ∀ (b8 : Int64) (b9 : Int64) (μ10 : xM), K80 b8 b9 μ10 → ∀ (H : Heap) (locs : List Loc) (ls : Array Slot), xH E ad (xA ad s.heap.size) s.heap μ10 H locs → lv_has ls 8 [(0, .ref (ad q1)), (1, .int a2), (2, .long b8), (4, .long b9)] → W p l e (headSpec tX12_isNew ({ frames := 1, cells := 0, slots := 0, locals := 40 } : Room)).room s m args below meth c H locs 0 0 Q (F0 m 49 ls [])) , W p l e (headSpec tX12_isNew ({ frames := 1, cells := 0, slots := 0, locals := 40 } : Room)).room s m args below meth c H locs 0 0 Q (F0 m 8 ls [])
  | 0, _, _, _, _, _, hq, _, _, _, _, _, _ => hq.elim
  | n + 1, a3, b4, b5, μ7, K80, hq, H, locs, ls, hH, hl, kK80 => wb_X12_isNew_8 G hA q1 a2 hk_q1 a3 b4 b5 μ7 K80 _ hq hH hl kK80 (fun x0 x1 x2 y hq H locs ls hH hl => w_X12_isNew_8 G hA q1 a2 hk_q1 n x0 x1 x2 y K80 hq H locs ls hH hl kK80)
set_option maxRecDepth 100000 in
set_option maxHeartbeats 4000000 in
theorem wb_X12_isNew_55 {E : xE} {ad : Nat → Nat} {p : Program} {l : Launch} {e : Env} {s : State} {m : MethodId} {args : Array Value} {below : List Frame} {meth : Method} {c : Code} {Q : State → Prop} (G : xG E p s m args meth c cX12_isNew 8 RX12) (hA : ∀ a, s.heap.size ≤ a → xA ad s.heap.size a) (q22 : Nat) (a23 : Int32) (b24 : Int64) (b25 : Int64) (hk_q22 : kd q22 = 10) (a26 : Int32) (a27 : Int32) (μ29 : xM) (K550 : Int32 → xM → Prop) (K55b : Int32 → Int32 → xM → Prop) (hq : B_X12_isNew_55 q22 a23 b24 b25 a26 a27 μ29 K550 K55b) {H : Heap} {locs : List Loc} {ls : Array Slot} (hH : xH E ad (xA ad s.heap.size) s.heap μ29 H locs) (hl : lv_has ls 8 [(0, .ref (ad q22)), (1, .int a23), (2, .long b24), (4, .long b25), (7, .int a26), (6, .int a27)]) (kK550 : ∀ (a30 : Int32) (μ31 : xM), K550 a30 μ31 → ∀ (H : Heap) (locs : List Loc) (ls : Array Slot), xH E ad (xA ad s.heap.size) s.heap μ31 H locs → lv_has ls 8 [(0, .ref (ad q22)), (1, .int a23), (2, .long b24), (4, .long b25), (6, .int a30)] → W p l e (headSpec tX12_isNew ({ frames := 1, cells := 0, slots := 0, locals := 40 } : Room)).room s m args below meth c H locs 0 0 Q (F0 m 118 ls [])) (kK55b : ∀ (a32 : Int32) (a33 : Int32) (μ34 : xM), K55b a32 a33 μ34 → ∀ (H : Heap) (locs : List Loc) (ls : Array Slot), xH E ad (xA ad s.heap.size) s.heap μ34 H locs → lv_has ls 8 [(0, .ref (ad q22)), (1, .int a23), (2, .long b24), (4, .long b25), (7, .int a32), (6, .int a33)] → W p l e (headSpec tX12_isNew ({ frames := 1, cells := 0, slots := 0, locals := 40 } : Room)).room s m args below meth c H locs 0 0 Q (F0 m 55 ls [])) : W p l e (headSpec tX12_isNew ({ frames := 1, cells := 0, slots := 0, locals := 40 } : Room)).room s m args below meth c H locs 0 0 Q (F0 m 55 ls []) := by
  obtain ⟨hx, hb, hml, hown, hts, hKn, hN, hlk⟩ := id G
  unfold B_X12_isNew_55 at hq
  refine lv_iload hx hb dX12_isNew_55 (lv_at hl 4 rfl) ?_
  refine lv_iload_n hx hb dX12_isNew_57 rfl (lv_at hl 1 rfl) ?_
  refine lv_icmp_ge (tgt := 118) hx hb dX12_isNew_58 (by decide) (fun c35 => ?_) (fun c35 => ?_)
  · have hq := hq.1 c35
    exact kK550 a27 μ29 hq _ _ _ hH (lv_sub hl [0, 1, 2, 3, 5] rfl)
  · have hq := hq.2 c35
    refine lv_iload hx hb dX12_isNew_61 (lv_at hl 5 rfl) ?_
    refine lv_if_eq (tgt := 118) hx hb dX12_isNew_63 (by decide) (fun c36 => ?_) (fun c36 => ?_)
    · have hq := hq.1 c36
      exact kK550 a27 μ29 hq _ _ _ hH (lv_sub hl [0, 1, 2, 3, 5] rfl)
    · have hq := hq.2 c36
      refine lv_aload_n hx hb dX12_isNew_66 rfl (lv_at hl 0 rfl) ?_
      refine x_get (j := 13) (C := RX12) (T := TX12) (N := 24) (v := .ref (ad (rt q22 13))) G hH hk_q22 (by decide) rfl inlX12 (by decide) (wm_7 _ (List.mem_of_getElem? (i := 3) rfl)) rfl dX12_isNew_67 ?_
      refine lv_iload hx hb dX12_isNew_70 (lv_at hl 4 rfl) ?_
      refine x_lald G hH (kt_10_13 _ hk_q22) hq.1 dX12_isNew_72 ?_
      have hq := hq.2
      refine lv_lload_n hx hb dX12_isNew_73 rfl (lv_at hl 2 rfl) ?_
      refine W.lcmp hx hb dX12_isNew_74 ?_
      refine lv_if_ne (tgt := 105) hx hb dX12_isNew_75 (by decide) (fun c37 => ?_) (fun c37 => ?_)
      · have hq := hq.1 c37
        refine lv_iconst (v := (1 : Int32)) hx hb dX12_isNew_105 (by decide) ?_
        refine lv_goto (tgt := 110) hx hb dX12_isNew_106 (by decide) ?_
        refine lv_istore (lv' := [(6, .int (1 : Int32)), (0, .ref (ad q22)), (1, .int a23), (2, .long b24), (4, .long b25), (7, .int a26)]) hx hb dX12_isNew_110 hl (by decide) rfl (fun ls hl => ?_)
        obtain ⟨v38, e_v38⟩ : ∃ y : Int32, y = (a26 + (1 : Int32)) := ⟨_, rfl⟩
        have hq := hq v38 e_v38
        refine lv_iinc (v := v38) (lv' := [(7, .int v38), (6, .int (1 : Int32)), (0, .ref (ad q22)), (1, .int a23), (2, .long b24), (4, .long b25)]) hx hb dX12_isNew_112 hl (k := 5) rfl (by rw [e_v38]; rfl) (by decide) rfl (fun ls hl => ?_)
        refine lv_goto (tgt := 55) hx hb dX12_isNew_115 (by decide) ?_
        exact kK55b v38 (1 : Int32) μ29 hq _ _ _ hH (lv_sub hl [2, 3, 4, 5, 0, 1] rfl)
      · have hq := hq.2 c37
        refine lv_aload_n hx hb dX12_isNew_78 rfl (lv_at hl 0 rfl) ?_
        refine x_get (j := 14) (C := RX12) (T := TX12) (N := 24) (v := .ref (ad (rt q22 14))) G hH hk_q22 (by decide) rfl inlX12 (by decide) (wm_7 _ (List.mem_of_getElem? (i := 4) rfl)) rfl dX12_isNew_79 ?_
        refine lv_iload hx hb dX12_isNew_82 (lv_at hl 4 rfl) ?_
        refine x_lald G hH (kt_10_14 _ hk_q22) hq.1 dX12_isNew_84 ?_
        have hq := hq.2
        refine lv_lload hx hb dX12_isNew_85 (lv_at hl 3 rfl) ?_
        refine W.lcmp hx hb dX12_isNew_87 ?_
        refine lv_if_ne (tgt := 105) hx hb dX12_isNew_88 (by decide) (fun c39 => ?_) (fun c39 => ?_)
        · have hq := hq.1 c39
          refine lv_iconst (v := (1 : Int32)) hx hb dX12_isNew_105 (by decide) ?_
          refine lv_goto (tgt := 110) hx hb dX12_isNew_106 (by decide) ?_
          refine lv_istore (lv' := [(6, .int (1 : Int32)), (0, .ref (ad q22)), (1, .int a23), (2, .long b24), (4, .long b25), (7, .int a26)]) hx hb dX12_isNew_110 hl (by decide) rfl (fun ls hl => ?_)
          obtain ⟨v40, e_v40⟩ : ∃ y : Int32, y = (a26 + (1 : Int32)) := ⟨_, rfl⟩
          have hq := hq v40 e_v40
          refine lv_iinc (v := v40) (lv' := [(7, .int v40), (6, .int (1 : Int32)), (0, .ref (ad q22)), (1, .int a23), (2, .long b24), (4, .long b25)]) hx hb dX12_isNew_112 hl (k := 5) rfl (by rw [e_v40]; rfl) (by decide) rfl (fun ls hl => ?_)
          refine lv_goto (tgt := 55) hx hb dX12_isNew_115 (by decide) ?_
          exact kK55b v40 (1 : Int32) μ29 hq _ _ _ hH (lv_sub hl [2, 3, 4, 5, 0, 1] rfl)
        · have hq := hq.2 c39
          refine lv_aload_n hx hb dX12_isNew_91 rfl (lv_at hl 0 rfl) ?_
          refine x_get (j := 15) (C := RX12) (T := TX12) (N := 24) (v := .ref (ad (rt q22 15))) G hH hk_q22 (by decide) rfl inlX12 (by decide) (wm_7 _ (List.mem_of_getElem? (i := 5) rfl)) rfl dX12_isNew_92 ?_
          refine lv_iload hx hb dX12_isNew_95 (lv_at hl 4 rfl) ?_
          refine x_iald G hH (kt_10_15 _ hk_q22) hq.1 dX12_isNew_97 ?_
          have hq := hq.2
          refine lv_aload_n hx hb dX12_isNew_98 rfl (lv_at hl 0 rfl) ?_
          refine x_get (j := 7) (C := RX12) (T := TX12) (N := 24) (v := .int (μ29.1 q22 7)) G hH hk_q22 (by decide) rfl inlX12 (by decide) (wm_24 _ (List.mem_of_getElem? (i := 16) rfl)) rfl dX12_isNew_99 ?_
          refine lv_icmp_eq (tgt := 109) hx hb dX12_isNew_102 (by decide) (fun c41 => ?_) (fun c41 => ?_)
          · have hq := hq.1 c41
            refine lv_iconst (v := (0 : Int32)) hx hb dX12_isNew_109 (by decide) ?_
            refine lv_istore (lv' := [(6, .int (0 : Int32)), (0, .ref (ad q22)), (1, .int a23), (2, .long b24), (4, .long b25), (7, .int a26)]) hx hb dX12_isNew_110 hl (by decide) rfl (fun ls hl => ?_)
            obtain ⟨v42, e_v42⟩ : ∃ y : Int32, y = (a26 + (1 : Int32)) := ⟨_, rfl⟩
            have hq := hq v42 e_v42
            refine lv_iinc (v := v42) (lv' := [(7, .int v42), (6, .int (0 : Int32)), (0, .ref (ad q22)), (1, .int a23), (2, .long b24), (4, .long b25)]) hx hb dX12_isNew_112 hl (k := 5) rfl (by rw [e_v42]; rfl) (by decide) rfl (fun ls hl => ?_)
            refine lv_goto (tgt := 55) hx hb dX12_isNew_115 (by decide) ?_
            exact kK55b v42 (0 : Int32) μ29 hq _ _ _ hH (lv_sub hl [2, 3, 4, 5, 0, 1] rfl)
          · have hq := hq.2 c41
            refine lv_iconst (v := (1 : Int32)) hx hb dX12_isNew_105 (by decide) ?_
            refine lv_goto (tgt := 110) hx hb dX12_isNew_106 (by decide) ?_
            refine lv_istore (lv' := [(6, .int (1 : Int32)), (0, .ref (ad q22)), (1, .int a23), (2, .long b24), (4, .long b25), (7, .int a26)]) hx hb dX12_isNew_110 hl (by decide) rfl (fun ls hl => ?_)
            obtain ⟨v43, e_v43⟩ : ∃ y : Int32, y = (a26 + (1 : Int32)) := ⟨_, rfl⟩
            have hq := hq v43 e_v43
            refine lv_iinc (v := v43) (lv' := [(7, .int v43), (6, .int (1 : Int32)), (0, .ref (ad q22)), (1, .int a23), (2, .long b24), (4, .long b25)]) hx hb dX12_isNew_112 hl (k := 5) rfl (by rw [e_v43]; rfl) (by decide) rfl (fun ls hl => ?_)
            refine lv_goto (tgt := 55) hx hb dX12_isNew_115 (by decide) ?_
            exact kK55b v43 (1 : Int32) μ29 hq _ _ _ hH (lv_sub hl [2, 3, 4, 5, 0, 1] rfl)
set_option maxRecDepth 100000 in
set_option maxHeartbeats 4000000 in
theorem w_X12_isNew_55 {E : xE} {ad : Nat → Nat} {p : Program} {l : Launch} {e : Env} {s : State} {m : MethodId} {args : Array Value} {below : List Frame} {meth : Method} {c : Code} {Q : State → Prop} (G : xG E p s m args meth c cX12_isNew 8 RX12) (hA : ∀ a, s.heap.size ≤ a → xA ad s.heap.size a) (q22 : Nat) (a23 : Int32) (b24 : Int64) (b25 : Int64) (hk_q22 : kd q22 = 10) : ∀ (n : Nat) (a26 : Int32) (a27 : Int32) (μ29 : xM) (K550 : Int32 → xM → Prop) (hq : L_X12_isNew_55 q22 a23 b24 b25 n a26 a27 μ29 K550) (H : Heap) (locs : List Loc) (ls : Array Slot) (hH : xH E ad (xA ad s.heap.size) s.heap μ29 H locs) (hl : lv_has ls 8 [(0, .ref (ad q22)), (1, .int a23), (2, .long b24), (4, .long b25), (7, .int a26), (6, .int a27)]) (kK550 : ∀ (a30 : Int32) (μ31 : xM), K550 a30 μ31 → ∀ (H : Heap) (locs : List Loc) (ls : Array Slot), xH E ad (xA ad s.heap.size) s.heap μ31 H locs → lv_has ls 8 [(0, .ref (ad q22)), (1, .int a23), (2, .long b24), (4, .long b25), (6, .int a30)] → W p l e (headSpec tX12_isNew ({ frames := 1, cells := 0, slots := 0, locals := 40 } : Room)).room s m args below meth c H locs 0 0 Q (F0 m 118 ls [])) , W p l e (headSpec tX12_isNew ({ frames := 1, cells := 0, slots := 0, locals := 40 } : Room)).room s m args below meth c H locs 0 0 Q (F0 m 55 ls [])
  | 0, _, _, _, _, hq, _, _, _, _, _, _ => hq.elim
  | n + 1, a26, a27, μ29, K550, hq, H, locs, ls, hH, hl, kK550 => wb_X12_isNew_55 G hA q22 a23 b24 b25 hk_q22 a26 a27 μ29 K550 _ hq hH hl kK550 (fun x0 x1 y hq H locs ls hH hl => w_X12_isNew_55 G hA q22 a23 b24 b25 hk_q22 n x0 x1 y K550 hq H locs ls hH hl kK550)
set_option maxRecDepth 100000 in
set_option maxHeartbeats 4000000 in
theorem wj_X12_isNew_118 {E : xE} {ad : Nat → Nat} {p : Program} {l : Launch} {e : Env} {s : State} {m : MethodId} {args : Array Value} {below : List Frame} {meth : Method} {c : Code} {Qm : Int32 → xM → Prop} (G : xG E p s m args meth c cX12_isNew 8 RX12) (hA : ∀ a, s.heap.size ≤ a → xA ad s.heap.size a) (hr : meth.sig.returnType = (some .boolean)) (q46 : Nat) (a47 : Int32) (b48 : Int64) (b49 : Int64) (a50 : Int32) (hk_q46 : kd q46 = 10) (μ51 : xM) (hq : J_X12_isNew_118 q46 a47 b48 b49 a50 μ51 Qm) {H : Heap} {locs : List Loc} {ls : Array Slot} (hH : xH E ad (xA ad s.heap.size) s.heap μ51 H locs) (hl : lv_has ls 8 [(0, .ref (ad q46)), (1, .int a47), (2, .long b48), (4, .long b49), (6, .int a50)]) : W p l e (headSpec tX12_isNew ({ frames := 1, cells := 0, slots := 0, locals := 40 } : Room)).room s m args below meth c H locs 0 0 (MQ below (va_Qi Qm (xPost E ad s.heap.size) (xA ad s.heap.size)) args s 0 0 (xA ad s.heap.size)) (F0 m 118 ls []) := by
  obtain ⟨hx, hb, hml, hown, hts, hKn, hN, hlk⟩ := id G
  unfold J_X12_isNew_118 at hq
  refine lv_iload hx hb dX12_isNew_118 (lv_at hl 4 rfl) ?_
  refine lv_if_eq (tgt := 148) hx hb dX12_isNew_120 (by decide) (fun c52 => ?_) (fun c52 => ?_)
  · have hq := hq.1 c52
    refine lv_iload hx hb dX12_isNew_148 (lv_at hl 4 rfl) ?_
    exact x_zret G hr hH hq.1 hq.2 dX12_isNew_150
  · have hq := hq.2 c52
    refine lv_aload_n hx hb dX12_isNew_123 rfl (lv_at hl 0 rfl) ?_
    refine x_get (j := 13) (C := RX12) (T := TX12) (N := 24) (v := .ref (ad (rt q46 13))) G hH hk_q46 (by decide) rfl inlX12 (by decide) (wm_7 _ (List.mem_of_getElem? (i := 3) rfl)) rfl dX12_isNew_124 ?_
    refine lv_iload_n hx hb dX12_isNew_127 rfl (lv_at hl 1 rfl) ?_
    refine lv_lload_n hx hb dX12_isNew_128 rfl (lv_at hl 2 rfl) ?_
    refine x_last G hH (kt_10_13 _ hk_q46) hq.1 dX12_isNew_129 (fun μ53 e_μ53 H locs hH => ?_)
    have hq := hq.2 μ53 e_μ53
    refine lv_aload_n hx hb dX12_isNew_130 rfl (lv_at hl 0 rfl) ?_
    refine x_get (j := 14) (C := RX12) (T := TX12) (N := 24) (v := .ref (ad (rt q46 14))) G hH hk_q46 (by decide) rfl inlX12 (by decide) (wm_7 _ (List.mem_of_getElem? (i := 4) rfl)) rfl dX12_isNew_131 ?_
    refine lv_iload_n hx hb dX12_isNew_134 rfl (lv_at hl 1 rfl) ?_
    refine lv_lload hx hb dX12_isNew_135 (lv_at hl 3 rfl) ?_
    refine x_last G hH (kt_10_14 _ hk_q46) hq.1 dX12_isNew_137 (fun μ54 e_μ54 H locs hH => ?_)
    have hq := hq.2 μ54 e_μ54
    refine lv_aload_n hx hb dX12_isNew_138 rfl (lv_at hl 0 rfl) ?_
    refine x_get (j := 15) (C := RX12) (T := TX12) (N := 24) (v := .ref (ad (rt q46 15))) G hH hk_q46 (by decide) rfl inlX12 (by decide) (wm_7 _ (List.mem_of_getElem? (i := 5) rfl)) rfl dX12_isNew_139 ?_
    refine lv_iload_n hx hb dX12_isNew_142 rfl (lv_at hl 1 rfl) ?_
    refine lv_aload_n hx hb dX12_isNew_143 rfl (lv_at hl 0 rfl) ?_
    refine x_get (j := 7) (C := RX12) (T := TX12) (N := 24) (v := .int (μ54.1 q46 7)) G hH hk_q46 (by decide) rfl inlX12 (by decide) (wm_24 _ (List.mem_of_getElem? (i := 16) rfl)) rfl dX12_isNew_144 ?_
    refine x_iast G hH (kt_10_15 _ hk_q46) hq.1 dX12_isNew_147 (fun μ55 e_μ55 H locs hH => ?_)
    have hq := hq.2 μ55 e_μ55
    refine lv_iload hx hb dX12_isNew_148 (lv_at hl 4 rfl) ?_
    exact x_zret G hr hH hq.1 hq.2 dX12_isNew_150
set_option maxRecDepth 100000 in
set_option maxHeartbeats 4000000 in
theorem c_X12_isNew (l : Launch) (E : xE) (ad : Nat → Nat) (μ : xM) (q0 : Nat) (p1 : Int32) (hk_q0 : kd q0 = 10) (Qm : Int32 → xM → Prop) (hq : p_X12_isNew q0 p1 μ Qm) : xMi l yX12_isNew tX12_isNew ({ frames := 1, cells := 0, slots := 0, locals := 40 } : Room) E ad μ [.ref (ad q0), .int p1] Qm := by
  refine x_sti (cc := cX12_isNew) (maxL := 8) (ret := (some .boolean)) (own := RX12) rfl (by decide) rfl (Nat.le_of_ble_eq_true rfl) ?_
  intro p e s m args below meth c ls G hr hA hH hl
  obtain ⟨hx, hb, hml, hown, hts, hKn, hN, hlk⟩ := id G
  have hl : lv_has ls 8 [(0, .ref (ad q0)), (1, .int p1)] := hl
  have hH : xH E ad (xA ad s.heap.size) s.heap μ s.heap [] := hH
  unfold p_X12_isNew at hq
  refine lv_lconst (v := (0 : Int64)) hx hb dX12_isNew_0 (by decide) ?_
  refine lv_lstore_n (lv' := [(2, .long (0 : Int64)), (0, .ref (ad q0)), (1, .int p1)]) hx hb dX12_isNew_1 rfl hl (by decide) rfl (fun ls hl => ?_)
  refine lv_lconst (v := (0 : Int64)) hx hb dX12_isNew_2 (by decide) ?_
  refine lv_lstore (lv' := [(4, .long (0 : Int64)), (2, .long (0 : Int64)), (0, .ref (ad q0)), (1, .int p1)]) hx hb dX12_isNew_3 hl (by decide) rfl (fun ls hl => ?_)
  refine lv_iconst (v := (0 : Int32)) hx hb dX12_isNew_5 (by decide) ?_
  refine lv_istore (lv' := [(6, .int (0 : Int32)), (4, .long (0 : Int64)), (2, .long (0 : Int64)), (0, .ref (ad q0)), (1, .int p1)]) hx hb dX12_isNew_6 hl (by decide) rfl (fun ls hl => ?_)
  obtain ⟨n6, hq⟩ := hq
  refine w_X12_isNew_8 G hA q0 p1 hk_q0 n6 (0 : Int32) (0 : Int64) (0 : Int64) μ _ hq _ _ _ hH (lv_sub hl [3, 4, 0, 1, 2] rfl) (fun b19 b20 μ21 hq H locs ls hH hl => ?_)
  refine lv_iconst (v := (1 : Int32)) hx hb dX12_isNew_49 (by decide) ?_
  refine lv_istore (lv' := [(6, .int (1 : Int32)), (0, .ref (ad q0)), (1, .int p1), (2, .long b19), (4, .long b20)]) hx hb dX12_isNew_50 hl (by decide) rfl (fun ls hl => ?_)
  refine lv_iconst (v := (0 : Int32)) hx hb dX12_isNew_52 (by decide) ?_
  refine lv_istore (lv' := [(7, .int (0 : Int32)), (6, .int (1 : Int32)), (0, .ref (ad q0)), (1, .int p1), (2, .long b19), (4, .long b20)]) hx hb dX12_isNew_53 hl (by decide) rfl (fun ls hl => ?_)
  obtain ⟨n28, hq⟩ := hq
  refine w_X12_isNew_55 G hA q0 p1 b19 b20 hk_q0 n28 (0 : Int32) (1 : Int32) μ21 _ hq _ _ _ hH (lv_sub hl [2, 3, 4, 5, 0, 1] rfl) (fun a44 μ45 hq H locs ls hH hl => ?_)
  exact wj_X12_isNew_118 G hA hr  q0 p1 b19 b20 a44  hk_q0 μ45 hq hH (lv_sub hl [0, 1, 2, 3, 4] rfl)
