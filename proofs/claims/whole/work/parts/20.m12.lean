abbrev tX12_shifts : List Cond := Cond.code yX12_shifts cX12_shifts 4 (some .int) :: wsL_law
theorem mi_X12_shifts : Cond.instanceMethod yX12_shifts ∈ wsL_law := (wm_12 _ (List.mem_of_getElem? (i := 15) rfl))
theorem ms_X12_shifts : Cond.selects RX12 yX12_shifts yX12_shifts ∈ wsL_law := (wm_12 _ (List.mem_of_getElem? (i := 16) rfl))
theorem mc_X12_shifts : Cond.code yX12_shifts cX12_shifts 4 (some .int) ∈ wsL_law := (wm_12 _ (List.mem_of_getElem? (i := 17) rfl))
theorem md_X12_shifts : yX12_shifts.cls ≠ "java/lang/invoke/MethodHandle" ∧ yX12_shifts.cls ≠ "java/lang/invoke/VarHandle" ∧ (parseMethodDescriptor yX12_shifts.desc).map (fun d => d.parameters.length) = some 3 := by decide +kernel
set_option maxRecDepth 100000 in
set_option maxHeartbeats 4000000 in
theorem c_X12_shifts (l : Launch) (E : xE) (ad : Nat → Nat) (μ : xM) (q0 : Nat) (p1 : Int32) (p2 : Int32) (p3 : Int32) (hk_q0 : kd q0 = 10) (Qm : Int32 → xM → Prop) (hq : p_X12_shifts q0 p1 p2 p3 μ Qm) : xMi l yX12_shifts tX12_shifts ({ frames := 5, cells := 0, slots := 0, locals := 200 } : Room) E ad μ [.ref (ad q0), .int p1, .int p2, .int p3] Qm := by
  refine x_sti (cc := cX12_shifts) (maxL := 4) (ret := (some .int)) (own := RX12) rfl (by decide) rfl (Nat.le_of_ble_eq_true rfl) ?_
  intro p e s m args below meth c ls G hr hA hH hl
  obtain ⟨hx, hb, hml, hown, hts, hKn, hN, hlk⟩ := id G
  have hl : lv_has ls 4 [(0, .ref (ad q0)), (1, .int p1), (2, .int p2), (3, .int p3)] := hl
  have hH : xH E ad (xA ad s.heap.size) s.heap μ s.heap [] := hH
  unfold p_X12_shifts at hq
  refine lv_aload_n hx hb dX12_shifts_0 rfl (lv_at hl 0 rfl) ?_
  refine x_cVv (C := RX12) (T := TX12) (N := 24) (As := []) (rest := []) G hH hA (c_X12_hold l E ad μ q0 hk_q0 _ hq) (wm_10 _ (List.mem_of_getElem? (i := 14) rfl)) mi_X12_hold ms_X12_hold mn_RX12 mc_X12_hold rfl md_X12_hold ⟨rfl, rfl, Nat.le_of_ble_eq_true rfl, Nat.le_of_ble_eq_true rfl⟩ hk_q0 (by decide) rfl rfl hl.1 rfl (Nat.le_of_ble_eq_true rfl) dX12_shifts_1 ⟨Nat.zero_le _, Nat.zero_le _⟩ (fun μ1 hq H locs hH => ?_)
  refine lv_aload_n hx hb dX12_shifts_4 rfl (lv_at hl 0 rfl) ?_
  refine lv_aload_n hx hb dX12_shifts_5 rfl (lv_at hl 0 rfl) ?_
  refine lv_iload_n hx hb dX12_shifts_6 rfl (lv_at hl 1 rfl) ?_
  refine lv_iload_n hx hb dX12_shifts_7 rfl (lv_at hl 2 rfl) ?_
  refine lv_iload_n hx hb dX12_shifts_8 rfl (lv_at hl 3 rfl) ?_
  refine x_cVi (C := RX12) (T := TX12) (N := 24) (As := [.int p1, .int p2, .int p3]) (rest := [.ref (ad q0)]) G hH hA (c_X12_doShifts l E ad μ1 q0 p1 p2 p3 hk_q0 _ hq) (wm_12 _ (List.mem_of_getElem? (i := 18) rfl)) mi_X12_doShifts ms_X12_doShifts mn_RX12 mc_X12_doShifts rfl md_X12_doShifts ⟨rfl, rfl, Nat.le_of_ble_eq_true rfl, Nat.le_of_ble_eq_true rfl⟩ hk_q0 (by decide) rfl rfl hl.1 rfl (Nat.le_of_ble_eq_true rfl) dX12_shifts_9 ⟨Nat.zero_le _, Nat.zero_le _⟩ (fun r3 μ2 hq H locs hH => ?_)
  refine x_cVi (C := RX12) (T := TX12) (N := 24) (As := [.int r3]) (rest := []) G hH hA (c_X12_ends l E ad μ2 q0 r3 hk_q0 _ hq) (wm_11 _ (List.mem_of_getElem? (i := 2) rfl)) mi_X12_ends ms_X12_ends mn_RX12 mc_X12_ends rfl md_X12_ends ⟨rfl, rfl, Nat.le_of_ble_eq_true rfl, Nat.le_of_ble_eq_true rfl⟩ hk_q0 (by decide) rfl rfl hl.1 rfl (Nat.le_of_ble_eq_true rfl) dX12_shifts_12 ⟨Nat.zero_le _, Nat.zero_le _⟩ (fun r5 μ4 hq H locs hH => ?_)
  exact x_iret G hr hH hq dX12_shifts_15
abbrev tX12_told : List Cond := Cond.code yX12_told cX12_told 2 (some .int) :: wsL_law
theorem mi_X12_told : Cond.instanceMethod yX12_told ∈ wsL_law := (wm_36 _ (List.mem_of_getElem? (i := 17) rfl))
theorem ms_X12_told : Cond.selects RX12 yX12_told yX12_told ∈ wsL_law := (wm_36 _ (List.mem_of_getElem? (i := 18) rfl))
theorem mc_X12_told : Cond.code yX12_told cX12_told 2 (some .int) ∈ wsL_law := (wm_36 _ (List.mem_of_getElem? (i := 19) rfl))
theorem md_X12_told : yX12_told.cls ≠ "java/lang/invoke/MethodHandle" ∧ yX12_told.cls ≠ "java/lang/invoke/VarHandle" ∧ (parseMethodDescriptor yX12_told.desc).map (fun d => d.parameters.length) = some 1 := by decide +kernel
set_option maxRecDepth 100000 in
set_option maxHeartbeats 4000000 in
theorem c_X12_told (l : Launch) (E : xE) (ad : Nat → Nat) (μ : xM) (q0 : Nat) (p1 : Int32) (hk_q0 : kd q0 = 10) (Qm : Int32 → xM → Prop) (hq : p_X12_told q0 p1 μ Qm) : xMi l yX12_told tX12_told ({ frames := 2, cells := 0, slots := 0, locals := 80 } : Room) E ad μ [.ref (ad q0), .int p1] Qm := by
  refine x_sti (cc := cX12_told) (maxL := 2) (ret := (some .int)) (own := RX12) rfl (by decide) rfl (Nat.le_of_ble_eq_true rfl) ?_
  intro p e s m args below meth c ls G hr hA hH hl
  obtain ⟨hx, hb, hml, hown, hts, hKn, hN, hlk⟩ := id G
  have hl : lv_has ls 2 [(0, .ref (ad q0)), (1, .int p1)] := hl
  have hH : xH E ad (xA ad s.heap.size) s.heap μ s.heap [] := hH
  unfold p_X12_told at hq
  refine lv_iload_n hx hb dX12_told_0 rfl (lv_at hl 1 rfl) ?_
  refine lv_iconst (v := (0 : Int32)) hx hb dX12_told_1 (by decide) ?_
  refine lv_iconst (v := (5 : Int32)) hx hb dX12_told_2 (by decide) ?_
  refine x_cSi (As := [.int p1, .int (0 : Int32), .int (5 : Int32)]) (rest := []) G hH hA (c_X12_in l E ad μ p1 (0 : Int32) (5 : Int32)  _ hq) (wm_10 _ (List.mem_of_getElem? (i := 23) rfl)) mt_X12_in mn_RX12 mc_X12_in md_X12_in ⟨rfl, rfl, Nat.le_of_ble_eq_true rfl, Nat.le_of_ble_eq_true rfl⟩ rfl hl.1 rfl (Nat.le_of_ble_eq_true rfl) dX12_told_3 ⟨Nat.zero_le _, Nat.zero_le _⟩ (fun r2 μ1 hq H locs hH => ?_)
  refine lv_if_eq (tgt := 17) hx hb dX12_told_6 (by decide) (fun c3 => ?_) (fun c3 => ?_)
  · have hq := hq.1 c3
    refine lv_aload_n hx hb dX12_told_17 rfl (lv_at hl 0 rfl) ?_
    refine lv_bipush (v := (-2 : Int32)) hx hb dX12_told_18 (by decide) ?_
    refine x_cVi (C := RX12) (T := TX12) (N := 24) (As := [.int (-2 : Int32)]) (rest := []) G hH hA (c_X12_refuses l E ad μ1 q0 (-2 : Int32) hk_q0 _ hq) (wm_11 _ (List.mem_of_getElem? (i := 6) rfl)) mi_X12_refuses ms_X12_refuses mn_RX12 mc_X12_refuses rfl md_X12_refuses ⟨rfl, rfl, Nat.le_of_ble_eq_true rfl, Nat.le_of_ble_eq_true rfl⟩ hk_q0 (by decide) rfl rfl hl.1 rfl (Nat.le_of_ble_eq_true rfl) dX12_told_20 ⟨Nat.zero_le _, Nat.zero_le _⟩ (fun r5 μ4 hq H locs hH => ?_)
    exact x_iret G hr hH hq dX12_told_23
  · have hq := hq.2 c3
    refine lv_aload_n hx hb dX12_told_9 rfl (lv_at hl 0 rfl) ?_
    refine lv_iload_n hx hb dX12_told_10 rfl (lv_at hl 1 rfl) ?_
    refine x_cVi (C := RX12) (T := TX12) (N := 24) (As := [.int p1]) (rest := []) G hH hA (c_X12_toldOf l E ad μ1 q0 p1 hk_q0 _ hq) (wm_36 _ (List.mem_of_getElem? (i := 20) rfl)) mi_X12_toldOf ms_X12_toldOf mn_RX12 mc_X12_toldOf rfl md_X12_toldOf ⟨rfl, rfl, Nat.le_of_ble_eq_true rfl, Nat.le_of_ble_eq_true rfl⟩ hk_q0 (by decide) rfl rfl hl.1 rfl (Nat.le_of_ble_eq_true rfl) dX12_told_11 ⟨Nat.zero_le _, Nat.zero_le _⟩ (fun r7 μ6 hq H locs hH => ?_)
    refine lv_goto (tgt := 23) hx hb dX12_told_14 (by decide) ?_
    exact x_iret G hr hH hq dX12_told_23
abbrev tX12_type : List Cond := Cond.code yX12_type cX12_type 2 (some .int) :: wsL_law
theorem mi_X12_type : Cond.instanceMethod yX12_type ∈ wsL_law := (wm_31 _ (List.mem_of_getElem? (i := 13) rfl))
theorem ms_X12_type : Cond.selects RX12 yX12_type yX12_type ∈ wsL_law := (wm_31 _ (List.mem_of_getElem? (i := 14) rfl))
theorem mc_X12_type : Cond.code yX12_type cX12_type 2 (some .int) ∈ wsL_law := (wm_31 _ (List.mem_of_getElem? (i := 15) rfl))
theorem md_X12_type : yX12_type.cls ≠ "java/lang/invoke/MethodHandle" ∧ yX12_type.cls ≠ "java/lang/invoke/VarHandle" ∧ (parseMethodDescriptor yX12_type.desc).map (fun d => d.parameters.length) = some 1 := by decide +kernel
set_option maxRecDepth 100000 in
set_option maxHeartbeats 4000000 in
theorem c_X12_type (l : Launch) (E : xE) (ad : Nat → Nat) (μ : xM) (q0 : Nat) (p1 : Int32) (hk_q0 : kd q0 = 10) (Qm : Int32 → xM → Prop) (hq : p_X12_type q0 p1 μ Qm) : xMi l yX12_type tX12_type ({ frames := 2, cells := 0, slots := 0, locals := 80 } : Room) E ad μ [.ref (ad q0), .int p1] Qm := by
  refine x_sti (cc := cX12_type) (maxL := 2) (ret := (some .int)) (own := RX12) rfl (by decide) rfl (Nat.le_of_ble_eq_true rfl) ?_
  intro p e s m args below meth c ls G hr hA hH hl
  obtain ⟨hx, hb, hml, hown, hts, hKn, hN, hlk⟩ := id G
  have hl : lv_has ls 2 [(0, .ref (ad q0)), (1, .int p1)] := hl
  have hH : xH E ad (xA ad s.heap.size) s.heap μ s.heap [] := hH
  unfold p_X12_type at hq
  refine lv_iload_n hx hb dX12_type_0 rfl (lv_at hl 1 rfl) ?_
  refine lv_iconst (v := (0 : Int32)) hx hb dX12_type_1 (by decide) ?_
  refine lv_bipush (v := (127 : Int32)) hx hb dX12_type_2 (by decide) ?_
  refine x_cSi (As := [.int p1, .int (0 : Int32), .int (127 : Int32)]) (rest := []) G hH hA (c_X12_in l E ad μ p1 (0 : Int32) (127 : Int32)  _ hq) (wm_10 _ (List.mem_of_getElem? (i := 23) rfl)) mt_X12_in mn_RX12 mc_X12_in md_X12_in ⟨rfl, rfl, Nat.le_of_ble_eq_true rfl, Nat.le_of_ble_eq_true rfl⟩ rfl hl.1 rfl (Nat.le_of_ble_eq_true rfl) dX12_type_4 ⟨Nat.zero_le _, Nat.zero_le _⟩ (fun r2 μ1 hq H locs hH => ?_)
  refine lv_if_ne (tgt := 17) hx hb dX12_type_7 (by decide) (fun c3 => ?_) (fun c3 => ?_)
  · have hq := hq.1 c3
    refine lv_aload_n hx hb dX12_type_17 rfl (lv_at hl 0 rfl) ?_
    refine x_get (j := 17) (C := RX12) (T := TX12) (N := 24) (v := .int (μ1.1 q0 17)) G hH hk_q0 (by decide) rfl inlX12 (by decide) (wm_31 _ (List.mem_of_getElem? (i := 16) rfl)) rfl dX12_type_18 ?_
    refine lv_sipush (v := (150 : Int32)) hx hb dX12_type_21 (by decide) ?_
    refine lv_icmp_ne (tgt := 34) hx hb dX12_type_24 (by decide) (fun c4 => ?_) (fun c4 => ?_)
    · have hq := hq.1 c4
      refine lv_aload_n hx hb dX12_type_34 rfl (lv_at hl 0 rfl) ?_
      refine x_get (j := 16) (C := RX12) (T := TX12) (N := 24) (v := .ref (ad (rt q0 16))) G hH hk_q0 (by decide) rfl inlX12 (by decide) (wm_7 _ (List.mem_of_getElem? (i := 6) rfl)) rfl dX12_type_35 ?_
      refine lv_aload_n hx hb dX12_type_38 rfl (lv_at hl 0 rfl) ?_
      refine x_get (j := 17) (C := RX12) (T := TX12) (N := 24) (v := .int (μ1.1 q0 17)) G hH hk_q0 (by decide) rfl inlX12 (by decide) (wm_31 _ (List.mem_of_getElem? (i := 16) rfl)) rfl dX12_type_39 ?_
      refine lv_iload_n hx hb dX12_type_42 rfl (lv_at hl 1 rfl) ?_
      refine x_iast G hH (kt_10_16 _ hk_q0) hq.1 dX12_type_43 (fun μ5 e_μ5 H locs hH => ?_)
      have hq := hq.2 μ5 e_μ5
      refine lv_aload_n hx hb dX12_type_44 rfl (lv_at hl 0 rfl) ?_
      refine lv_dup hx hb dX12_type_45 rfl ?_
      refine x_get (j := 17) (C := RX12) (T := TX12) (N := 24) (v := .int (μ5.1 q0 17)) G hH hk_q0 (by decide) rfl inlX12 (by decide) (wm_31 _ (List.mem_of_getElem? (i := 16) rfl)) rfl dX12_type_46 ?_
      refine lv_iconst (v := (1 : Int32)) hx hb dX12_type_49 (by decide) ?_
      refine lv_iadd hx hb dX12_type_50 ?_
      refine x_puti (j := 17) (C := RX12) (T := TX12) (N := 24) (ty := .int) G hH hk_q0 (by decide) rfl inlX12 tyX12 tyX12_ok nmX12 (by decide) (wm_31 _ (List.mem_of_getElem? (i := 16) rfl)) rfl (by decide +kernel) rfl rfl (fun _ _ => Nat.le_of_ble_eq_true rfl) (fun _ _ => rfl) dX12_type_51 (fun μ6 e_μ6 H locs hH => ?_)
      have hq := hq μ6 e_μ6
      refine lv_aload_n hx hb dX12_type_54 rfl (lv_at hl 0 rfl) ?_
      refine x_get (j := 17) (C := RX12) (T := TX12) (N := 24) (v := .int (μ6.1 q0 17)) G hH hk_q0 (by decide) rfl inlX12 (by decide) (wm_31 _ (List.mem_of_getElem? (i := 16) rfl)) rfl dX12_type_55 ?_
      exact x_iret G hr hH hq dX12_type_58
    · have hq := hq.2 c4
      refine lv_aload_n hx hb dX12_type_27 rfl (lv_at hl 0 rfl) ?_
      refine lv_bipush (v := (-4 : Int32)) hx hb dX12_type_28 (by decide) ?_
      refine x_cVi (C := RX12) (T := TX12) (N := 24) (As := [.int (-4 : Int32)]) (rest := []) G hH hA (c_X12_refuses l E ad μ1 q0 (-4 : Int32) hk_q0 _ hq) (wm_11 _ (List.mem_of_getElem? (i := 6) rfl)) mi_X12_refuses ms_X12_refuses mn_RX12 mc_X12_refuses rfl md_X12_refuses ⟨rfl, rfl, Nat.le_of_ble_eq_true rfl, Nat.le_of_ble_eq_true rfl⟩ hk_q0 (by decide) rfl rfl hl.1 rfl (Nat.le_of_ble_eq_true rfl) dX12_type_30 ⟨Nat.zero_le _, Nat.zero_le _⟩ (fun r8 μ7 hq H locs hH => ?_)
      exact x_iret G hr hH hq dX12_type_33
  · have hq := hq.2 c3
    refine lv_aload_n hx hb dX12_type_10 rfl (lv_at hl 0 rfl) ?_
    refine lv_bipush (v := (-2 : Int32)) hx hb dX12_type_11 (by decide) ?_
    refine x_cVi (C := RX12) (T := TX12) (N := 24) (As := [.int (-2 : Int32)]) (rest := []) G hH hA (c_X12_refuses l E ad μ1 q0 (-2 : Int32) hk_q0 _ hq) (wm_11 _ (List.mem_of_getElem? (i := 6) rfl)) mi_X12_refuses ms_X12_refuses mn_RX12 mc_X12_refuses rfl md_X12_refuses ⟨rfl, rfl, Nat.le_of_ble_eq_true rfl, Nat.le_of_ble_eq_true rfl⟩ hk_q0 (by decide) rfl rfl hl.1 rfl (Nat.le_of_ble_eq_true rfl) dX12_type_13 ⟨Nat.zero_le _, Nat.zero_le _⟩ (fun r10 μ9 hq H locs hH => ?_)
    exact x_iret G hr hH hq dX12_type_16
