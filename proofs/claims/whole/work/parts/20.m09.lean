abbrev tX12_ofCell : List Cond := Cond.code yX12_ofCell cX12_ofCell 3 (some .int) :: wsL_law
theorem mi_X12_ofCell : Cond.instanceMethod yX12_ofCell ∈ wsL_law := (wm_29 _ (List.mem_of_getElem? (i := 10) rfl))
theorem ms_X12_ofCell : Cond.selects RX12 yX12_ofCell yX12_ofCell ∈ wsL_law := (wm_29 _ (List.mem_of_getElem? (i := 11) rfl))
theorem mc_X12_ofCell : Cond.code yX12_ofCell cX12_ofCell 3 (some .int) ∈ wsL_law := (wm_29 _ (List.mem_of_getElem? (i := 12) rfl))
theorem md_X12_ofCell : yX12_ofCell.cls ≠ "java/lang/invoke/MethodHandle" ∧ yX12_ofCell.cls ≠ "java/lang/invoke/VarHandle" ∧ (parseMethodDescriptor yX12_ofCell.desc).map (fun d => d.parameters.length) = some 2 := by decide +kernel
set_option maxRecDepth 100000 in
set_option maxHeartbeats 4000000 in
theorem c_X12_ofCell (l : Launch) (E : xE) (ad : Nat → Nat) (μ : xM) (q0 : Nat) (p1 : Int32) (p2 : Int32) (hk_q0 : kd q0 = 10) (Qm : Int32 → xM → Prop) (hq : p_X12_ofCell q0 p1 p2 μ Qm) : xMi l yX12_ofCell tX12_ofCell ({ frames := 3, cells := 0, slots := 0, locals := 120 } : Room) E ad μ [.ref (ad q0), .int p1, .int p2] Qm := by
  refine x_sti (cc := cX12_ofCell) (maxL := 3) (ret := (some .int)) (own := RX12) rfl (by decide) rfl (Nat.le_of_ble_eq_true rfl) ?_
  intro p e s m args below meth c ls G hr hA hH hl
  obtain ⟨hx, hb, hml, hown, hts, hKn, hN, hlk⟩ := id G
  have hl : lv_has ls 3 [(0, .ref (ad q0)), (1, .int p1), (2, .int p2)] := hl
  have hH : xH E ad (xA ad s.heap.size) s.heap μ s.heap [] := hH
  unfold p_X12_ofCell at hq
  refine lv_iload_n hx hb dX12_ofCell_0 rfl (lv_at hl 2 rfl) ?_
  refine lv_if_ne (tgt := 16) hx hb dX12_ofCell_1 (by decide) (fun c1 => ?_) (fun c1 => ?_)
  · have hq := hq.1 c1
    refine lv_iload_n hx hb dX12_ofCell_16 rfl (lv_at hl 2 rfl) ?_
    refine lv_iconst (v := (1 : Int32)) hx hb dX12_ofCell_17 (by decide) ?_
    refine lv_icmp_ne (tgt := 33) hx hb dX12_ofCell_18 (by decide) (fun c2 => ?_) (fun c2 => ?_)
    · have hq := hq.1 c2
      refine lv_iload_n hx hb dX12_ofCell_33 rfl (lv_at hl 2 rfl) ?_
      refine lv_iconst (v := (2 : Int32)) hx hb dX12_ofCell_34 (by decide) ?_
      refine lv_icmp_ne (tgt := 52) hx hb dX12_ofCell_35 (by decide) (fun c3 => ?_) (fun c3 => ?_)
      · have hq := hq.1 c3
        refine lv_aload_n hx hb dX12_ofCell_52 rfl (lv_at hl 0 rfl) ?_
        refine lv_iload_n hx hb dX12_ofCell_53 rfl (lv_at hl 1 rfl) ?_
        refine x_cVi (C := RX12) (T := TX12) (N := 24) (As := [.int p1]) (rest := []) G hH hA (c_X12_wet l E ad μ q0 p1 hk_q0 _ hq) (wm_29 _ (List.mem_of_getElem? (i := 13) rfl)) mi_X12_wet ms_X12_wet mn_RX12 mc_X12_wet rfl md_X12_wet ⟨rfl, rfl, Nat.le_of_ble_eq_true rfl, Nat.le_of_ble_eq_true rfl⟩ hk_q0 (by decide) rfl rfl hl.1 rfl (Nat.le_of_ble_eq_true rfl) dX12_ofCell_54 ⟨Nat.zero_le _, Nat.zero_le _⟩ (fun r5 μ4 hq H locs hH => ?_)
        exact x_iret G hr hH hq dX12_ofCell_57
      · have hq := hq.2 c3
        refine lv_aload_n hx hb dX12_ofCell_38 rfl (lv_at hl 0 rfl) ?_
        refine x_get (j := 0) (C := RX12) (T := TX12) (N := 24) (v := .ref (ad (rt q0 0))) G hH hk_q0 (by decide) rfl inlX12 (by decide) (wm_6 _ (List.mem_of_getElem? (i := 18) rfl)) rfl dX12_ofCell_39 ?_
        refine lv_bipush (v := (91 : Int32)) hx hb dX12_ofCell_42 (by decide) ?_
        refine x_iald G hH (kt_10_0 _ hk_q0) hq.1 dX12_ofCell_44 ?_
        have hq := hq.2
        refine lv_iload_n hx hb dX12_ofCell_45 rfl (lv_at hl 1 rfl) ?_
        refine lv_ishr hx hb dX12_ofCell_46 ?_
        refine lv_iconst (v := (1 : Int32)) hx hb dX12_ofCell_47 (by decide) ?_
        refine lv_iand hx hb dX12_ofCell_48 ?_
        refine lv_goto (tgt := 57) hx hb dX12_ofCell_49 (by decide) ?_
        exact x_iret G hr hH hq dX12_ofCell_57
    · have hq := hq.2 c2
      refine lv_aload_n hx hb dX12_ofCell_21 rfl (lv_at hl 0 rfl) ?_
      refine x_get (j := 0) (C := RX12) (T := TX12) (N := 24) (v := .ref (ad (rt q0 0))) G hH hk_q0 (by decide) rfl inlX12 (by decide) (wm_6 _ (List.mem_of_getElem? (i := 18) rfl)) rfl dX12_ofCell_22 ?_
      refine lv_bipush (v := (75 : Int32)) hx hb dX12_ofCell_25 (by decide) ?_
      refine lv_iload_n hx hb dX12_ofCell_27 rfl (lv_at hl 1 rfl) ?_
      refine lv_iadd hx hb dX12_ofCell_28 ?_
      refine x_iald G hH (kt_10_0 _ hk_q0) hq.1 dX12_ofCell_29 ?_
      have hq := hq.2
      refine lv_goto (tgt := 57) hx hb dX12_ofCell_30 (by decide) ?_
      exact x_iret G hr hH hq dX12_ofCell_57
  · have hq := hq.2 c1
    refine lv_aload_n hx hb dX12_ofCell_4 rfl (lv_at hl 0 rfl) ?_
    refine x_get (j := 0) (C := RX12) (T := TX12) (N := 24) (v := .ref (ad (rt q0 0))) G hH hk_q0 (by decide) rfl inlX12 (by decide) (wm_6 _ (List.mem_of_getElem? (i := 18) rfl)) rfl dX12_ofCell_5 ?_
    refine lv_bipush (v := (59 : Int32)) hx hb dX12_ofCell_8 (by decide) ?_
    refine lv_iload_n hx hb dX12_ofCell_10 rfl (lv_at hl 1 rfl) ?_
    refine lv_iadd hx hb dX12_ofCell_11 ?_
    refine x_iald G hH (kt_10_0 _ hk_q0) hq.1 dX12_ofCell_12 ?_
    have hq := hq.2
    refine lv_goto (tgt := 57) hx hb dX12_ofCell_13 (by decide) ?_
    exact x_iret G hr hH hq dX12_ofCell_57
abbrev tX12_cell : List Cond := Cond.code yX12_cell cX12_cell 3 (some .int) :: wsL_law
theorem mi_X12_cell : Cond.instanceMethod yX12_cell ∈ wsL_law := (wm_29 _ (List.mem_of_getElem? (i := 6) rfl))
theorem ms_X12_cell : Cond.selects RX12 yX12_cell yX12_cell ∈ wsL_law := (wm_29 _ (List.mem_of_getElem? (i := 7) rfl))
theorem mc_X12_cell : Cond.code yX12_cell cX12_cell 3 (some .int) ∈ wsL_law := (wm_29 _ (List.mem_of_getElem? (i := 8) rfl))
theorem md_X12_cell : yX12_cell.cls ≠ "java/lang/invoke/MethodHandle" ∧ yX12_cell.cls ≠ "java/lang/invoke/VarHandle" ∧ (parseMethodDescriptor yX12_cell.desc).map (fun d => d.parameters.length) = some 2 := by decide +kernel
set_option maxRecDepth 100000 in
set_option maxHeartbeats 4000000 in
theorem c_X12_cell (l : Launch) (E : xE) (ad : Nat → Nat) (μ : xM) (q0 : Nat) (p1 : Int32) (p2 : Int32) (hk_q0 : kd q0 = 10) (Qm : Int32 → xM → Prop) (hq : p_X12_cell q0 p1 p2 μ Qm) : xMi l yX12_cell tX12_cell ({ frames := 4, cells := 0, slots := 0, locals := 160 } : Room) E ad μ [.ref (ad q0), .int p1, .int p2] Qm := by
  refine x_sti (cc := cX12_cell) (maxL := 3) (ret := (some .int)) (own := RX12) rfl (by decide) rfl (Nat.le_of_ble_eq_true rfl) ?_
  intro p e s m args below meth c ls G hr hA hH hl
  obtain ⟨hx, hb, hml, hown, hts, hKn, hN, hlk⟩ := id G
  have hl : lv_has ls 3 [(0, .ref (ad q0)), (1, .int p1), (2, .int p2)] := hl
  have hH : xH E ad (xA ad s.heap.size) s.heap μ s.heap [] := hH
  unfold p_X12_cell at hq
  refine lv_iload_n hx hb dX12_cell_0 rfl (lv_at hl 1 rfl) ?_
  refine lv_iconst (v := (0 : Int32)) hx hb dX12_cell_1 (by decide) ?_
  refine lv_bipush (v := (15 : Int32)) hx hb dX12_cell_2 (by decide) ?_
  refine x_cSi (As := [.int p1, .int (0 : Int32), .int (15 : Int32)]) (rest := []) G hH hA (c_X12_in l E ad μ p1 (0 : Int32) (15 : Int32)  _ hq) (wm_10 _ (List.mem_of_getElem? (i := 23) rfl)) mt_X12_in mn_RX12 mc_X12_in md_X12_in ⟨rfl, rfl, Nat.le_of_ble_eq_true rfl, Nat.le_of_ble_eq_true rfl⟩ rfl hl.1 rfl (Nat.le_of_ble_eq_true rfl) dX12_cell_4 ⟨Nat.zero_le _, Nat.zero_le _⟩ (fun r2 μ1 hq H locs hH => ?_)
  refine lv_if_eq (tgt := 28) hx hb dX12_cell_7 (by decide) (fun c3 => ?_) (fun c3 => ?_)
  · have hq := hq.1 c3
    refine lv_aload_n hx hb dX12_cell_28 rfl (lv_at hl 0 rfl) ?_
    refine lv_bipush (v := (-2 : Int32)) hx hb dX12_cell_29 (by decide) ?_
    refine x_cVi (C := RX12) (T := TX12) (N := 24) (As := [.int (-2 : Int32)]) (rest := []) G hH hA (c_X12_refuses l E ad μ1 q0 (-2 : Int32) hk_q0 _ hq) (wm_11 _ (List.mem_of_getElem? (i := 6) rfl)) mi_X12_refuses ms_X12_refuses mn_RX12 mc_X12_refuses rfl md_X12_refuses ⟨rfl, rfl, Nat.le_of_ble_eq_true rfl, Nat.le_of_ble_eq_true rfl⟩ hk_q0 (by decide) rfl rfl hl.1 rfl (Nat.le_of_ble_eq_true rfl) dX12_cell_31 ⟨Nat.zero_le _, Nat.zero_le _⟩ (fun r5 μ4 hq H locs hH => ?_)
    exact x_iret G hr hH hq dX12_cell_34
  · have hq := hq.2 c3
    refine lv_iload_n hx hb dX12_cell_10 rfl (lv_at hl 2 rfl) ?_
    refine lv_iconst (v := (0 : Int32)) hx hb dX12_cell_11 (by decide) ?_
    refine lv_iconst (v := (3 : Int32)) hx hb dX12_cell_12 (by decide) ?_
    refine x_cSi (As := [.int p2, .int (0 : Int32), .int (3 : Int32)]) (rest := []) G hH hA (c_X12_in l E ad μ1 p2 (0 : Int32) (3 : Int32)  _ hq) (wm_10 _ (List.mem_of_getElem? (i := 23) rfl)) mt_X12_in mn_RX12 mc_X12_in md_X12_in ⟨rfl, rfl, Nat.le_of_ble_eq_true rfl, Nat.le_of_ble_eq_true rfl⟩ rfl hl.1 rfl (Nat.le_of_ble_eq_true rfl) dX12_cell_13 ⟨Nat.zero_le _, Nat.zero_le _⟩ (fun r7 μ6 hq H locs hH => ?_)
    refine lv_if_eq (tgt := 28) hx hb dX12_cell_16 (by decide) (fun c8 => ?_) (fun c8 => ?_)
    · have hq := hq.1 c8
      refine lv_aload_n hx hb dX12_cell_28 rfl (lv_at hl 0 rfl) ?_
      refine lv_bipush (v := (-2 : Int32)) hx hb dX12_cell_29 (by decide) ?_
      refine x_cVi (C := RX12) (T := TX12) (N := 24) (As := [.int (-2 : Int32)]) (rest := []) G hH hA (c_X12_refuses l E ad μ6 q0 (-2 : Int32) hk_q0 _ hq) (wm_11 _ (List.mem_of_getElem? (i := 6) rfl)) mi_X12_refuses ms_X12_refuses mn_RX12 mc_X12_refuses rfl md_X12_refuses ⟨rfl, rfl, Nat.le_of_ble_eq_true rfl, Nat.le_of_ble_eq_true rfl⟩ hk_q0 (by decide) rfl rfl hl.1 rfl (Nat.le_of_ble_eq_true rfl) dX12_cell_31 ⟨Nat.zero_le _, Nat.zero_le _⟩ (fun r10 μ9 hq H locs hH => ?_)
      exact x_iret G hr hH hq dX12_cell_34
    · have hq := hq.2 c8
      refine lv_aload_n hx hb dX12_cell_19 rfl (lv_at hl 0 rfl) ?_
      refine lv_iload_n hx hb dX12_cell_20 rfl (lv_at hl 1 rfl) ?_
      refine lv_iload_n hx hb dX12_cell_21 rfl (lv_at hl 2 rfl) ?_
      refine x_cVi (C := RX12) (T := TX12) (N := 24) (As := [.int p1, .int p2]) (rest := []) G hH hA (c_X12_ofCell l E ad μ6 q0 p1 p2 hk_q0 _ hq) (wm_29 _ (List.mem_of_getElem? (i := 9) rfl)) mi_X12_ofCell ms_X12_ofCell mn_RX12 mc_X12_ofCell rfl md_X12_ofCell ⟨rfl, rfl, Nat.le_of_ble_eq_true rfl, Nat.le_of_ble_eq_true rfl⟩ hk_q0 (by decide) rfl rfl hl.1 rfl (Nat.le_of_ble_eq_true rfl) dX12_cell_22 ⟨Nat.zero_le _, Nat.zero_le _⟩ (fun r12 μ11 hq H locs hH => ?_)
      refine lv_goto (tgt := 34) hx hb dX12_cell_25 (by decide) ?_
      exact x_iret G hr hH hq dX12_cell_34
abbrev tX12_clear : List Cond := Cond.code yX12_clear cX12_clear 2 (some .int) :: wsL_law
theorem mi_X12_clear : Cond.instanceMethod yX12_clear ∈ wsL_law := (wm_31 _ (List.mem_of_getElem? (i := 22) rfl))
theorem ms_X12_clear : Cond.selects RX12 yX12_clear yX12_clear ∈ wsL_law := (wm_31 _ (List.mem_of_getElem? (i := 23) rfl))
theorem mc_X12_clear : Cond.code yX12_clear cX12_clear 2 (some .int) ∈ wsL_law := (wm_32 _ (List.mem_of_getElem? (i := 0) rfl))
theorem md_X12_clear : yX12_clear.cls ≠ "java/lang/invoke/MethodHandle" ∧ yX12_clear.cls ≠ "java/lang/invoke/VarHandle" ∧ (parseMethodDescriptor yX12_clear.desc).map (fun d => d.parameters.length) = some 0 := by decide +kernel
set_option maxRecDepth 100000 in
set_option maxHeartbeats 4000000 in
theorem c_X12_clear (l : Launch) (E : xE) (ad : Nat → Nat) (μ : xM) (q0 : Nat) (hk_q0 : kd q0 = 10) (Qm : Int32 → xM → Prop) (hq : p_X12_clear q0 μ Qm) : xMi l yX12_clear tX12_clear ({ frames := 1, cells := 0, slots := 0, locals := 40 } : Room) E ad μ [.ref (ad q0)] Qm := by
  refine x_sti (cc := cX12_clear) (maxL := 2) (ret := (some .int)) (own := RX12) rfl (by decide) rfl (Nat.le_of_ble_eq_true rfl) ?_
  intro p e s m args below meth c ls G hr hA hH hl
  obtain ⟨hx, hb, hml, hown, hts, hKn, hN, hlk⟩ := id G
  have hl : lv_has ls 2 [(0, .ref (ad q0))] := hl
  have hH : xH E ad (xA ad s.heap.size) s.heap μ s.heap [] := hH
  unfold p_X12_clear at hq
  refine lv_aload_n hx hb dX12_clear_0 rfl (lv_at hl 0 rfl) ?_
  refine x_get (j := 17) (C := RX12) (T := TX12) (N := 24) (v := .int (μ.1 q0 17)) G hH hk_q0 (by decide) rfl inlX12 (by decide) (wm_31 _ (List.mem_of_getElem? (i := 16) rfl)) rfl dX12_clear_1 ?_
  refine lv_topi (fun v1 e_v1 => ?_)
  have hq := hq v1 e_v1
  refine lv_istore_n (lv' := [(1, .int v1), (0, .ref (ad q0))]) hx hb dX12_clear_4 rfl hl (by decide) rfl (fun ls hl => ?_)
  refine lv_aload_n hx hb dX12_clear_5 rfl (lv_at hl 1 rfl) ?_
  refine lv_iconst (v := (0 : Int32)) hx hb dX12_clear_6 (by decide) ?_
  refine x_puti (j := 17) (C := RX12) (T := TX12) (N := 24) (ty := .int) G hH hk_q0 (by decide) rfl inlX12 tyX12 tyX12_ok nmX12 (by decide) (wm_31 _ (List.mem_of_getElem? (i := 16) rfl)) rfl (by decide +kernel) rfl rfl (fun _ _ => Nat.le_of_ble_eq_true rfl) (fun _ _ => rfl) dX12_clear_7 (fun μ2 e_μ2 H locs hH => ?_)
  have hq := hq μ2 e_μ2
  refine lv_iload_n hx hb dX12_clear_10 rfl (lv_at hl 0 rfl) ?_
  exact x_iret G hr hH hq dX12_clear_11
abbrev tX12_common : List Cond := Cond.code yX12_common cX12_common 5 (some .int) :: wsL_law
theorem mi_X12_common : Cond.instanceMethod yX12_common ∈ wsL_law := (wm_16 _ (List.mem_of_getElem? (i := 14) rfl))
theorem ms_X12_common : Cond.selects RX12 yX12_common yX12_common ∈ wsL_law := (wm_16 _ (List.mem_of_getElem? (i := 15) rfl))
theorem mc_X12_common : Cond.code yX12_common cX12_common 5 (some .int) ∈ wsL_law := (wm_16 _ (List.mem_of_getElem? (i := 16) rfl))
theorem md_X12_common : yX12_common.cls ≠ "java/lang/invoke/MethodHandle" ∧ yX12_common.cls ≠ "java/lang/invoke/VarHandle" ∧ (parseMethodDescriptor yX12_common.desc).map (fun d => d.parameters.length) = some 3 := by decide +kernel
set_option maxRecDepth 100000 in
set_option maxHeartbeats 4000000 in
theorem c_X12_common (l : Launch) (E : xE) (ad : Nat → Nat) (μ : xM) (q0 : Nat) (p1 : Int32) (p2 : Int32) (p3 : Int32) (hk_q0 : kd q0 = 10) (Qm : Int32 → xM → Prop) (hq : p_X12_common q0 p1 p2 p3 μ Qm) : xMi l yX12_common tX12_common ({ frames := 4, cells := 0, slots := 0, locals := 160 } : Room) E ad μ [.ref (ad q0), .int p1, .int p2, .int p3] Qm := by
  refine x_sti (cc := cX12_common) (maxL := 5) (ret := (some .int)) (own := RX12) rfl (by decide) rfl (Nat.le_of_ble_eq_true rfl) ?_
  intro p e s m args below meth c ls G hr hA hH hl
  obtain ⟨hx, hb, hml, hown, hts, hKn, hN, hlk⟩ := id G
  have hl : lv_has ls 5 [(0, .ref (ad q0)), (1, .int p1), (2, .int p2), (3, .int p3)] := hl
  have hH : xH E ad (xA ad s.heap.size) s.heap μ s.heap [] := hH
  unfold p_X12_common at hq
  refine lv_aload_n hx hb dX12_common_0 rfl (lv_at hl 0 rfl) ?_
  refine lv_iload_n hx hb dX12_common_1 rfl (lv_at hl 1 rfl) ?_
  refine x_cVi (C := RX12) (T := TX12) (N := 24) (As := [.int p1]) (rest := []) G hH hA (c_X12_isBlock l E ad μ q0 p1 hk_q0 _ hq) (wm_12 _ (List.mem_of_getElem? (i := 22) rfl)) mi_X12_isBlock ms_X12_isBlock mn_RX12 mc_X12_isBlock rfl md_X12_isBlock ⟨rfl, rfl, Nat.le_of_ble_eq_true rfl, Nat.le_of_ble_eq_true rfl⟩ hk_q0 (by decide) rfl rfl hl.1 rfl (Nat.le_of_ble_eq_true rfl) dX12_common_2 ⟨Nat.zero_le _, Nat.zero_le _⟩ (fun r2 μ1 hq H locs hH => ?_)
  refine lv_if_eq (tgt := 30) hx hb dX12_common_5 (by decide) (fun c3 => ?_) (fun c3 => ?_)
  · have hq := hq.1 c3
    refine lv_aload_n hx hb dX12_common_30 rfl (lv_at hl 0 rfl) ?_
    refine lv_bipush (v := (-2 : Int32)) hx hb dX12_common_31 (by decide) ?_
    refine x_cVi (C := RX12) (T := TX12) (N := 24) (As := [.int (-2 : Int32)]) (rest := []) G hH hA (c_X12_refuses l E ad μ1 q0 (-2 : Int32) hk_q0 _ hq) (wm_11 _ (List.mem_of_getElem? (i := 6) rfl)) mi_X12_refuses ms_X12_refuses mn_RX12 mc_X12_refuses rfl md_X12_refuses ⟨rfl, rfl, Nat.le_of_ble_eq_true rfl, Nat.le_of_ble_eq_true rfl⟩ hk_q0 (by decide) rfl rfl hl.1 rfl (Nat.le_of_ble_eq_true rfl) dX12_common_33 ⟨Nat.zero_le _, Nat.zero_le _⟩ (fun r5 μ4 hq H locs hH => ?_)
    exact x_iret G hr hH hq dX12_common_36
  · have hq := hq.2 c3
    refine lv_aload_n hx hb dX12_common_8 rfl (lv_at hl 0 rfl) ?_
    refine lv_iload_n hx hb dX12_common_9 rfl (lv_at hl 2 rfl) ?_
    refine x_cVi (C := RX12) (T := TX12) (N := 24) (As := [.int p2]) (rest := []) G hH hA (c_X12_isBlock l E ad μ1 q0 p2 hk_q0 _ hq) (wm_12 _ (List.mem_of_getElem? (i := 22) rfl)) mi_X12_isBlock ms_X12_isBlock mn_RX12 mc_X12_isBlock rfl md_X12_isBlock ⟨rfl, rfl, Nat.le_of_ble_eq_true rfl, Nat.le_of_ble_eq_true rfl⟩ hk_q0 (by decide) rfl rfl hl.1 rfl (Nat.le_of_ble_eq_true rfl) dX12_common_10 ⟨Nat.zero_le _, Nat.zero_le _⟩ (fun r7 μ6 hq H locs hH => ?_)
    refine lv_if_eq (tgt := 30) hx hb dX12_common_13 (by decide) (fun c8 => ?_) (fun c8 => ?_)
    · have hq := hq.1 c8
      refine lv_aload_n hx hb dX12_common_30 rfl (lv_at hl 0 rfl) ?_
      refine lv_bipush (v := (-2 : Int32)) hx hb dX12_common_31 (by decide) ?_
      refine x_cVi (C := RX12) (T := TX12) (N := 24) (As := [.int (-2 : Int32)]) (rest := []) G hH hA (c_X12_refuses l E ad μ6 q0 (-2 : Int32) hk_q0 _ hq) (wm_11 _ (List.mem_of_getElem? (i := 6) rfl)) mi_X12_refuses ms_X12_refuses mn_RX12 mc_X12_refuses rfl md_X12_refuses ⟨rfl, rfl, Nat.le_of_ble_eq_true rfl, Nat.le_of_ble_eq_true rfl⟩ hk_q0 (by decide) rfl rfl hl.1 rfl (Nat.le_of_ble_eq_true rfl) dX12_common_33 ⟨Nat.zero_le _, Nat.zero_le _⟩ (fun r10 μ9 hq H locs hH => ?_)
      exact x_iret G hr hH hq dX12_common_36
    · have hq := hq.2 c8
      refine lv_iload_n hx hb dX12_common_16 rfl (lv_at hl 1 rfl) ?_
      refine lv_iload_n hx hb dX12_common_17 rfl (lv_at hl 2 rfl) ?_
      refine lv_icmp_eq (tgt := 30) hx hb dX12_common_18 (by decide) (fun c11 => ?_) (fun c11 => ?_)
      · have hq := hq.1 c11
        refine lv_aload_n hx hb dX12_common_30 rfl (lv_at hl 0 rfl) ?_
        refine lv_bipush (v := (-2 : Int32)) hx hb dX12_common_31 (by decide) ?_
        refine x_cVi (C := RX12) (T := TX12) (N := 24) (As := [.int (-2 : Int32)]) (rest := []) G hH hA (c_X12_refuses l E ad μ6 q0 (-2 : Int32) hk_q0 _ hq) (wm_11 _ (List.mem_of_getElem? (i := 6) rfl)) mi_X12_refuses ms_X12_refuses mn_RX12 mc_X12_refuses rfl md_X12_refuses ⟨rfl, rfl, Nat.le_of_ble_eq_true rfl, Nat.le_of_ble_eq_true rfl⟩ hk_q0 (by decide) rfl rfl hl.1 rfl (Nat.le_of_ble_eq_true rfl) dX12_common_33 ⟨Nat.zero_le _, Nat.zero_le _⟩ (fun r13 μ12 hq H locs hH => ?_)
        exact x_iret G hr hH hq dX12_common_36
      · have hq := hq.2 c11
        refine lv_iload_n hx hb dX12_common_21 rfl (lv_at hl 3 rfl) ?_
        refine lv_iconst (v := (0 : Int32)) hx hb dX12_common_22 (by decide) ?_
        refine lv_iconst (v := (1 : Int32)) hx hb dX12_common_23 (by decide) ?_
        refine x_cSi (As := [.int p3, .int (0 : Int32), .int (1 : Int32)]) (rest := []) G hH hA (c_X12_in l E ad μ6 p3 (0 : Int32) (1 : Int32)  _ hq) (wm_10 _ (List.mem_of_getElem? (i := 23) rfl)) mt_X12_in mn_RX12 mc_X12_in md_X12_in ⟨rfl, rfl, Nat.le_of_ble_eq_true rfl, Nat.le_of_ble_eq_true rfl⟩ rfl hl.1 rfl (Nat.le_of_ble_eq_true rfl) dX12_common_24 ⟨Nat.zero_le _, Nat.zero_le _⟩ (fun r15 μ14 hq H locs hH => ?_)
        refine lv_if_ne (tgt := 37) hx hb dX12_common_27 (by decide) (fun c16 => ?_) (fun c16 => ?_)
        · have hq := hq.1 c16
          refine lv_aload_n hx hb dX12_common_37 rfl (lv_at hl 0 rfl) ?_
          refine lv_iload_n hx hb dX12_common_38 rfl (lv_at hl 1 rfl) ?_
          refine x_cVi (C := RX12) (T := TX12) (N := 24) (As := [.int p1]) (rest := []) G hH hA (c_X12_placeOf l E ad μ14 q0 p1 hk_q0 _ hq) (wm_13 _ (List.mem_of_getElem? (i := 2) rfl)) mi_X12_placeOf ms_X12_placeOf mn_RX12 mc_X12_placeOf rfl md_X12_placeOf ⟨rfl, rfl, Nat.le_of_ble_eq_true rfl, Nat.le_of_ble_eq_true rfl⟩ hk_q0 (by decide) rfl rfl hl.1 rfl (Nat.le_of_ble_eq_true rfl) dX12_common_39 ⟨Nat.zero_le _, Nat.zero_le _⟩ (fun r18 μ17 hq H locs hH => ?_)
          refine lv_aload_n hx hb dX12_common_42 rfl (lv_at hl 0 rfl) ?_
          refine lv_iload_n hx hb dX12_common_43 rfl (lv_at hl 2 rfl) ?_
          refine x_cVi (C := RX12) (T := TX12) (N := 24) (As := [.int p2]) (rest := [.int r18]) G hH hA (c_X12_placeOf l E ad μ17 q0 p2 hk_q0 _ hq) (wm_13 _ (List.mem_of_getElem? (i := 2) rfl)) mi_X12_placeOf ms_X12_placeOf mn_RX12 mc_X12_placeOf rfl md_X12_placeOf ⟨rfl, rfl, Nat.le_of_ble_eq_true rfl, Nat.le_of_ble_eq_true rfl⟩ hk_q0 (by decide) rfl rfl hl.1 rfl (Nat.le_of_ble_eq_true rfl) dX12_common_44 ⟨Nat.zero_le _, Nat.zero_le _⟩ (fun r20 μ19 hq H locs hH => ?_)
          refine lv_iand hx hb dX12_common_47 ?_
          refine lv_topi (fun v21 e_v21 => ?_)
          have hq := hq v21 e_v21
          refine lv_istore (lv' := [(4, .int v21), (0, .ref (ad q0)), (1, .int p1), (2, .int p2), (3, .int p3)]) hx hb dX12_common_48 hl (by decide) rfl (fun ls hl => ?_)
          refine lv_iload_n hx hb dX12_common_50 rfl (lv_at hl 4 rfl) ?_
          refine lv_if_ne (tgt := 62) hx hb dX12_common_51 (by decide) (fun c22 => ?_) (fun c22 => ?_)
          · have hq := hq.1 c22
            refine lv_iload hx hb dX12_common_62 (lv_at hl 0 rfl) ?_
            exact x_iret G hr hH hq dX12_common_64
          · have hq := hq.2 c22
            refine lv_iload hx hb dX12_common_54 (lv_at hl 0 rfl) ?_
            refine x_cSi (As := [.int v21]) (rest := []) G hH hA (c_X12_bits l E ad μ19 v21  _ hq) (wm_13 _ (List.mem_of_getElem? (i := 16) rfl)) mt_X12_bits mn_RX12 mc_X12_bits md_X12_bits ⟨rfl, rfl, Nat.le_of_ble_eq_true rfl, Nat.le_of_ble_eq_true rfl⟩ rfl hl.1 rfl (Nat.le_of_ble_eq_true rfl) dX12_common_56 ⟨Nat.zero_le _, Nat.zero_le _⟩ (fun r24 μ23 hq H locs hH => ?_)
            refine lv_goto (tgt := 64) hx hb dX12_common_59 (by decide) ?_
            exact x_iret G hr hH hq dX12_common_64
        · have hq := hq.2 c16
          refine lv_aload_n hx hb dX12_common_30 rfl (lv_at hl 0 rfl) ?_
          refine lv_bipush (v := (-2 : Int32)) hx hb dX12_common_31 (by decide) ?_
          refine x_cVi (C := RX12) (T := TX12) (N := 24) (As := [.int (-2 : Int32)]) (rest := []) G hH hA (c_X12_refuses l E ad μ14 q0 (-2 : Int32) hk_q0 _ hq) (wm_11 _ (List.mem_of_getElem? (i := 6) rfl)) mi_X12_refuses ms_X12_refuses mn_RX12 mc_X12_refuses rfl md_X12_refuses ⟨rfl, rfl, Nat.le_of_ble_eq_true rfl, Nat.le_of_ble_eq_true rfl⟩ hk_q0 (by decide) rfl rfl hl.1 rfl (Nat.le_of_ble_eq_true rfl) dX12_common_33 ⟨Nat.zero_le _, Nat.zero_le _⟩ (fun r26 μ25 hq H locs hH => ?_)
          exact x_iret G hr hH hq dX12_common_36
abbrev tX12_toldOf : List Cond := Cond.code yX12_toldOf cX12_toldOf 2 (some .int) :: wsL_law
theorem mi_X12_toldOf : Cond.instanceMethod yX12_toldOf ∈ wsL_law := (wm_36 _ (List.mem_of_getElem? (i := 21) rfl))
theorem ms_X12_toldOf : Cond.selects RX12 yX12_toldOf yX12_toldOf ∈ wsL_law := (wm_36 _ (List.mem_of_getElem? (i := 22) rfl))
theorem mc_X12_toldOf : Cond.code yX12_toldOf cX12_toldOf 2 (some .int) ∈ wsL_law := (wm_36 _ (List.mem_of_getElem? (i := 23) rfl))
theorem md_X12_toldOf : yX12_toldOf.cls ≠ "java/lang/invoke/MethodHandle" ∧ yX12_toldOf.cls ≠ "java/lang/invoke/VarHandle" ∧ (parseMethodDescriptor yX12_toldOf.desc).map (fun d => d.parameters.length) = some 1 := by decide +kernel
set_option maxRecDepth 100000 in
set_option maxHeartbeats 4000000 in
theorem c_X12_toldOf (l : Launch) (E : xE) (ad : Nat → Nat) (μ : xM) (q0 : Nat) (p1 : Int32) (hk_q0 : kd q0 = 10) (Qm : Int32 → xM → Prop) (hq : p_X12_toldOf q0 p1 μ Qm) : xMi l yX12_toldOf tX12_toldOf ({ frames := 1, cells := 0, slots := 0, locals := 40 } : Room) E ad μ [.ref (ad q0), .int p1] Qm := by
  refine x_sti (cc := cX12_toldOf) (maxL := 2) (ret := (some .int)) (own := RX12) rfl (by decide) rfl (Nat.le_of_ble_eq_true rfl) ?_
  intro p e s m args below meth c ls G hr hA hH hl
  obtain ⟨hx, hb, hml, hown, hts, hKn, hN, hlk⟩ := id G
  have hl : lv_has ls 2 [(0, .ref (ad q0)), (1, .int p1)] := hl
  have hH : xH E ad (xA ad s.heap.size) s.heap μ s.heap [] := hH
  unfold p_X12_toldOf at hq
  refine lv_iload_n hx hb dX12_toldOf_0 rfl (lv_at hl 1 rfl) ?_
  refine lv_iconst (v := (3 : Int32)) hx hb dX12_toldOf_1 (by decide) ?_
  refine lv_icmp_ge (tgt := 14) hx hb dX12_toldOf_2 (by decide) (fun c1 => ?_) (fun c1 => ?_)
  · have hq := hq.1 c1
    refine lv_iload_n hx hb dX12_toldOf_14 rfl (lv_at hl 1 rfl) ?_
    refine lv_iconst (v := (3 : Int32)) hx hb dX12_toldOf_15 (by decide) ?_
    refine lv_icmp_ne (tgt := 26) hx hb dX12_toldOf_16 (by decide) (fun c2 => ?_) (fun c2 => ?_)
    · have hq := hq.1 c2
      refine lv_iload_n hx hb dX12_toldOf_26 rfl (lv_at hl 1 rfl) ?_
      refine lv_iconst (v := (4 : Int32)) hx hb dX12_toldOf_27 (by decide) ?_
      refine lv_icmp_ne (tgt := 40) hx hb dX12_toldOf_28 (by decide) (fun c3 => ?_) (fun c3 => ?_)
      · have hq := hq.1 c3
        refine lv_aload_n hx hb dX12_toldOf_40 rfl (lv_at hl 0 rfl) ?_
        refine x_get (j := 3) (C := RX12) (T := TX12) (N := 24) (v := .int (μ.1 q0 3)) G hH hk_q0 (by decide) rfl inlX12 (by decide) (wm_7 _ (List.mem_of_getElem? (i := 9) rfl)) rfl dX12_toldOf_41 ?_
        exact x_iret G hr hH hq dX12_toldOf_44
      · have hq := hq.2 c3
        refine lv_aload_n hx hb dX12_toldOf_31 rfl (lv_at hl 0 rfl) ?_
        refine x_get (j := 0) (C := RX12) (T := TX12) (N := 24) (v := .ref (ad (rt q0 0))) G hH hk_q0 (by decide) rfl inlX12 (by decide) (wm_6 _ (List.mem_of_getElem? (i := 18) rfl)) rfl dX12_toldOf_32 ?_
        refine lv_iconst (v := (0 : Int32)) hx hb dX12_toldOf_35 (by decide) ?_
        refine x_iald G hH (kt_10_0 _ hk_q0) hq.1 dX12_toldOf_36 ?_
        have hq := hq.2
        refine lv_goto (tgt := 44) hx hb dX12_toldOf_37 (by decide) ?_
        exact x_iret G hr hH hq dX12_toldOf_44
    · have hq := hq.2 c2
      refine lv_aload_n hx hb dX12_toldOf_19 rfl (lv_at hl 0 rfl) ?_
      refine x_get (j := 17) (C := RX12) (T := TX12) (N := 24) (v := .int (μ.1 q0 17)) G hH hk_q0 (by decide) rfl inlX12 (by decide) (wm_31 _ (List.mem_of_getElem? (i := 16) rfl)) rfl dX12_toldOf_20 ?_
      refine lv_goto (tgt := 44) hx hb dX12_toldOf_23 (by decide) ?_
      exact x_iret G hr hH hq dX12_toldOf_44
  · have hq := hq.2 c1
    refine lv_aload_n hx hb dX12_toldOf_5 rfl (lv_at hl 0 rfl) ?_
    refine x_get (j := 4) (C := RX12) (T := TX12) (N := 24) (v := .ref (ad (rt q0 4))) G hH hk_q0 (by decide) rfl inlX12 (by decide) (wm_6 _ (List.mem_of_getElem? (i := 21) rfl)) rfl dX12_toldOf_6 ?_
    refine lv_iload_n hx hb dX12_toldOf_9 rfl (lv_at hl 1 rfl) ?_
    refine x_iald G hH (kt_10_4 _ hk_q0) hq.1 dX12_toldOf_10 ?_
    have hq := hq.2
    refine lv_goto (tgt := 44) hx hb dX12_toldOf_11 (by decide) ?_
    exact x_iret G hr hH hq dX12_toldOf_44
abbrev tX12_mix : List Cond := Cond.code yX12_mix cX12_mix 2 none :: wsL_law
theorem mi_X12_mix : Cond.instanceMethod yX12_mix ∈ wsL_law := (wm_37 _ (List.mem_of_getElem? (i := 19) rfl))
theorem ms_X12_mix : Cond.selects RX12 yX12_mix yX12_mix ∈ wsL_law := (wm_37 _ (List.mem_of_getElem? (i := 20) rfl))
theorem mc_X12_mix : Cond.code yX12_mix cX12_mix 2 none ∈ wsL_law := (wm_37 _ (List.mem_of_getElem? (i := 21) rfl))
theorem md_X12_mix : yX12_mix.cls ≠ "java/lang/invoke/MethodHandle" ∧ yX12_mix.cls ≠ "java/lang/invoke/VarHandle" ∧ (parseMethodDescriptor yX12_mix.desc).map (fun d => d.parameters.length) = some 1 := by decide +kernel
set_option maxRecDepth 100000 in
set_option maxHeartbeats 4000000 in
theorem c_X12_mix (l : Launch) (E : xE) (ad : Nat → Nat) (μ : xM) (q0 : Nat) (p1 : Int32) (hk_q0 : kd q0 = 10) (Qm : xM → Prop) (hq : p_X12_mix q0 p1 μ Qm) : xMv l yX12_mix tX12_mix ({ frames := 1, cells := 0, slots := 0, locals := 40 } : Room) E ad μ [.ref (ad q0), .int p1] Qm := by
  refine x_stv (cc := cX12_mix) (maxL := 2) (ret := none) (own := RX12) rfl (by decide) rfl (Nat.le_of_ble_eq_true rfl) ?_
  intro p e s m args below meth c ls G hr hA hH hl
  obtain ⟨hx, hb, hml, hown, hts, hKn, hN, hlk⟩ := id G
  have hl : lv_has ls 2 [(0, .ref (ad q0)), (1, .int p1)] := hl
  have hH : xH E ad (xA ad s.heap.size) s.heap μ s.heap [] := hH
  unfold p_X12_mix at hq
  refine lv_aload_n hx hb dX12_mix_0 rfl (lv_at hl 0 rfl) ?_
  refine lv_ldc2 hx hb hown (hts _ (wm_37 _ (List.mem_of_getElem? (i := 22) rfl))) dX12_mix_1 ?_
  refine lv_aload_n hx hb dX12_mix_4 rfl (lv_at hl 0 rfl) ?_
  refine x_get (j := 23) (C := RX12) (T := TX12) (N := 24) (v := .long (μ.2 q0 23)) G hH hk_q0 (by decide) rfl inlX12 (by decide) (wm_37 _ (List.mem_of_getElem? (i := 17) rfl)) rfl dX12_mix_5 ?_
  refine lv_lmul hx hb dX12_mix_8 ?_
  refine lv_iload_n hx hb dX12_mix_9 rfl (lv_at hl 1 rfl) ?_
  refine lv_i2l (v := (p1.toInt64)) hx hb dX12_mix_10 rfl ?_
  refine lv_ladd hx hb dX12_mix_11 ?_
  refine x_putl (j := 23) (C := RX12) (T := TX12) (N := 24) G hH hk_q0 (by decide) rfl inlX12 tyX12 tyX12_ok nmX12 (by decide) (wm_37 _ (List.mem_of_getElem? (i := 17) rfl)) rfl (by decide +kernel) (fun _ _ => Nat.le_of_ble_eq_true rfl) (fun _ _ => rfl) dX12_mix_12 (fun μ1 e_μ1 H locs hH => ?_)
  have hq := hq μ1 e_μ1
  exact x_vret G hr hH hq dX12_mix_15
abbrev tX12_ofAll : List Cond := Cond.code yX12_ofAll cX12_ofAll 3 (some .int) :: wsL_law
theorem mi_X12_ofAll : Cond.instanceMethod yX12_ofAll ∈ wsL_law := (wm_16 _ (List.mem_of_getElem? (i := 6) rfl))
theorem ms_X12_ofAll : Cond.selects RX12 yX12_ofAll yX12_ofAll ∈ wsL_law := (wm_16 _ (List.mem_of_getElem? (i := 7) rfl))
theorem mc_X12_ofAll : Cond.code yX12_ofAll cX12_ofAll 3 (some .int) ∈ wsL_law := (wm_16 _ (List.mem_of_getElem? (i := 8) rfl))
theorem md_X12_ofAll : yX12_ofAll.cls ≠ "java/lang/invoke/MethodHandle" ∧ yX12_ofAll.cls ≠ "java/lang/invoke/VarHandle" ∧ (parseMethodDescriptor yX12_ofAll.desc).map (fun d => d.parameters.length) = some 2 := by decide +kernel
set_option maxRecDepth 100000 in
set_option maxHeartbeats 4000000 in
theorem c_X12_ofAll (l : Launch) (E : xE) (ad : Nat → Nat) (μ : xM) (q0 : Nat) (p1 : Int32) (p2 : Int32) (hk_q0 : kd q0 = 10) (Qm : Int32 → xM → Prop) (hq : p_X12_ofAll q0 p1 p2 μ Qm) : xMi l yX12_ofAll tX12_ofAll ({ frames := 4, cells := 0, slots := 0, locals := 160 } : Room) E ad μ [.ref (ad q0), .int p1, .int p2] Qm := by
  refine x_sti (cc := cX12_ofAll) (maxL := 3) (ret := (some .int)) (own := RX12) rfl (by decide) rfl (Nat.le_of_ble_eq_true rfl) ?_
  intro p e s m args below meth c ls G hr hA hH hl
  obtain ⟨hx, hb, hml, hown, hts, hKn, hN, hlk⟩ := id G
  have hl : lv_has ls 3 [(0, .ref (ad q0)), (1, .int p1), (2, .int p2)] := hl
  have hH : xH E ad (xA ad s.heap.size) s.heap μ s.heap [] := hH
  unfold p_X12_ofAll at hq
  refine lv_iload_n hx hb dX12_ofAll_0 rfl (lv_at hl 2 rfl) ?_
  refine lv_iconst (v := (4 : Int32)) hx hb dX12_ofAll_1 (by decide) ?_
  refine lv_icmp_ge (tgt := 14) hx hb dX12_ofAll_2 (by decide) (fun c1 => ?_) (fun c1 => ?_)
  · have hq := hq.1 c1
    refine lv_iload_n hx hb dX12_ofAll_14 rfl (lv_at hl 2 rfl) ?_
    refine lv_iconst (v := (4 : Int32)) hx hb dX12_ofAll_15 (by decide) ?_
    refine lv_icmp_ne (tgt := 27) hx hb dX12_ofAll_16 (by decide) (fun c2 => ?_) (fun c2 => ?_)
    · have hq := hq.1 c2
      refine lv_iload_n hx hb dX12_ofAll_27 rfl (lv_at hl 2 rfl) ?_
      refine lv_bipush (v := (7 : Int32)) hx hb dX12_ofAll_28 (by decide) ?_
      refine lv_icmp_ge (tgt := 46) hx hb dX12_ofAll_30 (by decide) (fun c3 => ?_) (fun c3 => ?_)
      · have hq := hq.1 c3
        refine lv_aload_n hx hb dX12_ofAll_46 rfl (lv_at hl 0 rfl) ?_
        refine lv_iload_n hx hb dX12_ofAll_47 rfl (lv_at hl 1 rfl) ?_
        refine lv_bipush (v := (6 : Int32)) hx hb dX12_ofAll_48 (by decide) ?_
        refine x_cVi (C := RX12) (T := TX12) (N := 24) (As := [.int p1, .int (6 : Int32)]) (rest := []) G hH hA (c_X12_ofBlock l E ad μ q0 p1 (6 : Int32) hk_q0 _ hq) (wm_13 _ (List.mem_of_getElem? (i := 6) rfl)) mi_X12_ofBlock ms_X12_ofBlock mn_RX12 mc_X12_ofBlock rfl md_X12_ofBlock ⟨rfl, rfl, Nat.le_of_ble_eq_true rfl, Nat.le_of_ble_eq_true rfl⟩ hk_q0 (by decide) rfl rfl hl.1 rfl (Nat.le_of_ble_eq_true rfl) dX12_ofAll_50 ⟨Nat.zero_le _, Nat.zero_le _⟩ (fun r5 μ4 hq H locs hH => ?_)
        exact x_iret G hr hH hq dX12_ofAll_53
      · have hq := hq.2 c3
        refine lv_aload_n hx hb dX12_ofAll_33 rfl (lv_at hl 0 rfl) ?_
        refine lv_iload_n hx hb dX12_ofAll_34 rfl (lv_at hl 1 rfl) ?_
        refine lv_iload_n hx hb dX12_ofAll_35 rfl (lv_at hl 2 rfl) ?_
        refine lv_iconst (v := (1 : Int32)) hx hb dX12_ofAll_36 (by decide) ?_
        refine lv_isub hx hb dX12_ofAll_37 ?_
        refine x_cVi (C := RX12) (T := TX12) (N := 24) (As := [.int p1, .int (p2 - (1 : Int32))]) (rest := []) G hH hA (c_X12_ofBlock l E ad μ q0 p1 (p2 - (1 : Int32)) hk_q0 _ hq) (wm_13 _ (List.mem_of_getElem? (i := 6) rfl)) mi_X12_ofBlock ms_X12_ofBlock mn_RX12 mc_X12_ofBlock rfl md_X12_ofBlock ⟨rfl, rfl, Nat.le_of_ble_eq_true rfl, Nat.le_of_ble_eq_true rfl⟩ hk_q0 (by decide) rfl rfl hl.1 rfl (Nat.le_of_ble_eq_true rfl) dX12_ofAll_38 ⟨Nat.zero_le _, Nat.zero_le _⟩ (fun r7 μ6 hq H locs hH => ?_)
        refine lv_iconst (v := (3 : Int32)) hx hb dX12_ofAll_41 (by decide) ?_
        refine lv_iadd hx hb dX12_ofAll_42 ?_
        refine lv_goto (tgt := 53) hx hb dX12_ofAll_43 (by decide) ?_
        exact x_iret G hr hH hq dX12_ofAll_53
    · have hq := hq.2 c2
      refine lv_aload_n hx hb dX12_ofAll_19 rfl (lv_at hl 0 rfl) ?_
      refine lv_iload_n hx hb dX12_ofAll_20 rfl (lv_at hl 1 rfl) ?_
      refine x_cVi (C := RX12) (T := TX12) (N := 24) (As := [.int p1]) (rest := []) G hH hA (c_X12_placeOf l E ad μ q0 p1 hk_q0 _ hq) (wm_13 _ (List.mem_of_getElem? (i := 2) rfl)) mi_X12_placeOf ms_X12_placeOf mn_RX12 mc_X12_placeOf rfl md_X12_placeOf ⟨rfl, rfl, Nat.le_of_ble_eq_true rfl, Nat.le_of_ble_eq_true rfl⟩ hk_q0 (by decide) rfl rfl hl.1 rfl (Nat.le_of_ble_eq_true rfl) dX12_ofAll_21 ⟨Nat.zero_le _, Nat.zero_le _⟩ (fun r9 μ8 hq H locs hH => ?_)
      refine lv_goto (tgt := 53) hx hb dX12_ofAll_24 (by decide) ?_
      exact x_iret G hr hH hq dX12_ofAll_53
  · have hq := hq.2 c1
    refine lv_aload_n hx hb dX12_ofAll_5 rfl (lv_at hl 0 rfl) ?_
    refine lv_iload_n hx hb dX12_ofAll_6 rfl (lv_at hl 1 rfl) ?_
    refine lv_iload_n hx hb dX12_ofAll_7 rfl (lv_at hl 2 rfl) ?_
    refine x_cVi (C := RX12) (T := TX12) (N := 24) (As := [.int p1, .int p2]) (rest := []) G hH hA (c_X12_ofBlock l E ad μ q0 p1 p2 hk_q0 _ hq) (wm_13 _ (List.mem_of_getElem? (i := 6) rfl)) mi_X12_ofBlock ms_X12_ofBlock mn_RX12 mc_X12_ofBlock rfl md_X12_ofBlock ⟨rfl, rfl, Nat.le_of_ble_eq_true rfl, Nat.le_of_ble_eq_true rfl⟩ hk_q0 (by decide) rfl rfl hl.1 rfl (Nat.le_of_ble_eq_true rfl) dX12_ofAll_8 ⟨Nat.zero_le _, Nat.zero_le _⟩ (fun r11 μ10 hq H locs hH => ?_)
    refine lv_goto (tgt := 53) hx hb dX12_ofAll_11 (by decide) ?_
    exact x_iret G hr hH hq dX12_ofAll_53
abbrev tX12_lawful : List Cond := Cond.code yX12_lawful cX12_lawful 3 (some .int) :: wsL_law
theorem mi_X12_lawful : Cond.instanceMethod yX12_lawful ∈ wsL_law := (wm_18 _ (List.mem_of_getElem? (i := 9) rfl))
theorem ms_X12_lawful : Cond.selects RX12 yX12_lawful yX12_lawful ∈ wsL_law := (wm_18 _ (List.mem_of_getElem? (i := 10) rfl))
theorem mc_X12_lawful : Cond.code yX12_lawful cX12_lawful 3 (some .int) ∈ wsL_law := (wm_18 _ (List.mem_of_getElem? (i := 11) rfl))
theorem md_X12_lawful : yX12_lawful.cls ≠ "java/lang/invoke/MethodHandle" ∧ yX12_lawful.cls ≠ "java/lang/invoke/VarHandle" ∧ (parseMethodDescriptor yX12_lawful.desc).map (fun d => d.parameters.length) = some 0 := by decide +kernel
set_option maxRecDepth 100000 in
set_option maxHeartbeats 4000000 in
theorem wb_X12_lawful_8 {E : xE} {ad : Nat → Nat} {p : Program} {l : Launch} {e : Env} {s : State} {m : MethodId} {args : Array Value} {below : List Frame} {meth : Method} {c : Code} {Q : State → Prop} (G : xG E p s m args meth c cX12_lawful 3 RX12) (hA : ∀ a, s.heap.size ≤ a → xA ad s.heap.size a) (q2 : Nat) (hk_q2 : kd q2 = 10) (a3 : Int32) (a4 : Int32) (μ6 : xM) (K80 : Int32 → xM → Prop) (K8b : Int32 → Int32 → xM → Prop) (hq : B_X12_lawful_8 q2 a3 a4 μ6 K80 K8b) {H : Heap} {locs : List Loc} {ls : Array Slot} (hH : xH E ad (xA ad s.heap.size) s.heap μ6 H locs) (hl : lv_has ls 3 [(0, .ref (ad q2)), (2, .int a3), (1, .int a4)]) (kK80 : ∀ (a7 : Int32) (μ8 : xM), K80 a7 μ8 → ∀ (H : Heap) (locs : List Loc) (ls : Array Slot), xH E ad (xA ad s.heap.size) s.heap μ8 H locs → lv_has ls 3 [(1, .int a7)] → W p l e (headSpec tX12_lawful ({ frames := 5, cells := 0, slots := 0, locals := 200 } : Room)).room s m args below meth c H locs 0 0 Q (F0 m 35 ls [])) (kK8b : ∀ (a9 : Int32) (a10 : Int32) (μ11 : xM), K8b a9 a10 μ11 → ∀ (H : Heap) (locs : List Loc) (ls : Array Slot), xH E ad (xA ad s.heap.size) s.heap μ11 H locs → lv_has ls 3 [(0, .ref (ad q2)), (2, .int a9), (1, .int a10)] → W p l e (headSpec tX12_lawful ({ frames := 5, cells := 0, slots := 0, locals := 200 } : Room)).room s m args below meth c H locs 0 0 Q (F0 m 8 ls [])) : W p l e (headSpec tX12_lawful ({ frames := 5, cells := 0, slots := 0, locals := 200 } : Room)).room s m args below meth c H locs 0 0 Q (F0 m 8 ls []) := by
  obtain ⟨hx, hb, hml, hown, hts, hKn, hN, hlk⟩ := id G
  unfold B_X12_lawful_8 at hq
  refine lv_iload_n hx hb dX12_lawful_8 rfl (lv_at hl 1 rfl) ?_
  refine lv_if_eq (tgt := 35) hx hb dX12_lawful_9 (by decide) (fun c12 => ?_) (fun c12 => ?_)
  · have hq := hq.1 c12
    exact kK80 a4 μ6 hq _ _ _ hH (lv_sub hl [2] rfl)
  · have hq := hq.2 c12
    refine lv_iload_n hx hb dX12_lawful_12 rfl (lv_at hl 2 rfl) ?_
    refine lv_aload_n hx hb dX12_lawful_13 rfl (lv_at hl 0 rfl) ?_
    refine x_cVi (C := RX12) (T := TX12) (N := 24) (As := []) (rest := [.int a4]) G hH hA (c_X12_isLawful l E ad μ6 q2 hk_q2 _ hq) (wm_18 _ (List.mem_of_getElem? (i := 16) rfl)) mi_X12_isLawful ms_X12_isLawful mn_RX12 mc_X12_isLawful rfl md_X12_isLawful ⟨rfl, rfl, Nat.le_of_ble_eq_true rfl, Nat.le_of_ble_eq_true rfl⟩ hk_q2 (by decide) rfl rfl hl.1 rfl (Nat.le_of_ble_eq_true rfl) dX12_lawful_14 ⟨Nat.zero_le _, Nat.zero_le _⟩ (fun r14 μ13 hq H locs hH => ?_)
    refine lv_if_eq (tgt := 24) hx hb dX12_lawful_17 (by decide) (fun c15 => ?_) (fun c15 => ?_)
    · have hq := hq.1 c15
      refine lv_iconst (v := (0 : Int32)) hx hb dX12_lawful_24 (by decide) ?_
      refine lv_iadd hx hb dX12_lawful_25 ?_
      refine lv_topi (fun v16 e_v16 => ?_)
      have hq := hq v16 e_v16
      refine lv_istore_n (lv' := [(1, .int v16), (0, .ref (ad q2)), (2, .int a3)]) hx hb dX12_lawful_26 rfl hl (by decide) rfl (fun ls hl => ?_)
      refine lv_aload_n hx hb dX12_lawful_27 rfl (lv_at hl 1 rfl) ?_
      refine x_cVi (C := RX12) (T := TX12) (N := 24) (As := []) (rest := []) G hH hA (c_X12_goesOn l E ad μ13 q2 hk_q2 _ hq) (wm_18 _ (List.mem_of_getElem? (i := 20) rfl)) mi_X12_goesOn ms_X12_goesOn mn_RX12 mc_X12_goesOn rfl md_X12_goesOn ⟨rfl, rfl, Nat.le_of_ble_eq_true rfl, Nat.le_of_ble_eq_true rfl⟩ hk_q2 (by decide) rfl rfl hl.1 rfl (Nat.le_of_ble_eq_true rfl) dX12_lawful_28 ⟨Nat.zero_le _, Nat.zero_le _⟩ (fun r18 μ17 hq H locs hH => ?_)
      refine lv_istore_n (lv' := [(2, .int r18), (1, .int v16), (0, .ref (ad q2))]) hx hb dX12_lawful_31 rfl hl (by decide) rfl (fun ls hl => ?_)
      refine lv_goto (tgt := 8) hx hb dX12_lawful_32 (by decide) ?_
      exact kK8b r18 v16 μ17 hq _ _ _ hH (lv_sub hl [2, 0, 1] rfl)
    · have hq := hq.2 c15
      refine lv_iconst (v := (1 : Int32)) hx hb dX12_lawful_20 (by decide) ?_
      refine lv_goto (tgt := 25) hx hb dX12_lawful_21 (by decide) ?_
      refine lv_iadd hx hb dX12_lawful_25 ?_
      refine lv_topi (fun v19 e_v19 => ?_)
      have hq := hq v19 e_v19
      refine lv_istore_n (lv' := [(1, .int v19), (0, .ref (ad q2)), (2, .int a3)]) hx hb dX12_lawful_26 rfl hl (by decide) rfl (fun ls hl => ?_)
      refine lv_aload_n hx hb dX12_lawful_27 rfl (lv_at hl 1 rfl) ?_
      refine x_cVi (C := RX12) (T := TX12) (N := 24) (As := []) (rest := []) G hH hA (c_X12_goesOn l E ad μ13 q2 hk_q2 _ hq) (wm_18 _ (List.mem_of_getElem? (i := 20) rfl)) mi_X12_goesOn ms_X12_goesOn mn_RX12 mc_X12_goesOn rfl md_X12_goesOn ⟨rfl, rfl, Nat.le_of_ble_eq_true rfl, Nat.le_of_ble_eq_true rfl⟩ hk_q2 (by decide) rfl rfl hl.1 rfl (Nat.le_of_ble_eq_true rfl) dX12_lawful_28 ⟨Nat.zero_le _, Nat.zero_le _⟩ (fun r21 μ20 hq H locs hH => ?_)
      refine lv_istore_n (lv' := [(2, .int r21), (1, .int v19), (0, .ref (ad q2))]) hx hb dX12_lawful_31 rfl hl (by decide) rfl (fun ls hl => ?_)
      refine lv_goto (tgt := 8) hx hb dX12_lawful_32 (by decide) ?_
      exact kK8b r21 v19 μ20 hq _ _ _ hH (lv_sub hl [2, 0, 1] rfl)
set_option maxRecDepth 100000 in
set_option maxHeartbeats 4000000 in
theorem w_X12_lawful_8 {E : xE} {ad : Nat → Nat} {p : Program} {l : Launch} {e : Env} {s : State} {m : MethodId} {args : Array Value} {below : List Frame} {meth : Method} {c : Code} {Q : State → Prop} (G : xG E p s m args meth c cX12_lawful 3 RX12) (hA : ∀ a, s.heap.size ≤ a → xA ad s.heap.size a) (q2 : Nat) (hk_q2 : kd q2 = 10) : ∀ (n : Nat) (a3 : Int32) (a4 : Int32) (μ6 : xM) (K80 : Int32 → xM → Prop) (hq : L_X12_lawful_8 q2 n a3 a4 μ6 K80) (H : Heap) (locs : List Loc) (ls : Array Slot) (hH : xH E ad (xA ad s.heap.size) s.heap μ6 H locs) (hl : lv_has ls 3 [(0, .ref (ad q2)), (2, .int a3), (1, .int a4)]) (kK80 : ∀ (a7 : Int32) (μ8 : xM), K80 a7 μ8 → ∀ (H : Heap) (locs : List Loc) (ls : Array Slot), xH E ad (xA ad s.heap.size) s.heap μ8 H locs → lv_has ls 3 [(1, .int a7)] → W p l e (headSpec tX12_lawful ({ frames := 5, cells := 0, slots := 0, locals := 200 } : Room)).room s m args below meth c H locs 0 0 Q (F0 m 35 ls [])) , W p l e (headSpec tX12_lawful ({ frames := 5, cells := 0, slots := 0, locals := 200 } : Room)).room s m args below meth c H locs 0 0 Q (F0 m 8 ls [])
  | 0, _, _, _, _, hq, _, _, _, _, _, _ => hq.elim
  | n + 1, a3, a4, μ6, K80, hq, H, locs, ls, hH, hl, kK80 => wb_X12_lawful_8 G hA q2 hk_q2 a3 a4 μ6 K80 _ hq hH hl kK80 (fun x0 x1 y hq H locs ls hH hl => w_X12_lawful_8 G hA q2 hk_q2 n x0 x1 y K80 hq H locs ls hH hl kK80)
set_option maxRecDepth 100000 in
set_option maxHeartbeats 4000000 in
theorem c_X12_lawful (l : Launch) (E : xE) (ad : Nat → Nat) (μ : xM) (q0 : Nat) (hk_q0 : kd q0 = 10) (Qm : Int32 → xM → Prop) (hq : p_X12_lawful q0 μ Qm) : xMi l yX12_lawful tX12_lawful ({ frames := 5, cells := 0, slots := 0, locals := 200 } : Room) E ad μ [.ref (ad q0)] Qm := by
  refine x_sti (cc := cX12_lawful) (maxL := 3) (ret := (some .int)) (own := RX12) rfl (by decide) rfl (Nat.le_of_ble_eq_true rfl) ?_
  intro p e s m args below meth c ls G hr hA hH hl
  obtain ⟨hx, hb, hml, hown, hts, hKn, hN, hlk⟩ := id G
  have hl : lv_has ls 3 [(0, .ref (ad q0))] := hl
  have hH : xH E ad (xA ad s.heap.size) s.heap μ s.heap [] := hH
  unfold p_X12_lawful at hq
  refine lv_aload_n hx hb dX12_lawful_0 rfl (lv_at hl 0 rfl) ?_
  refine x_cVv (C := RX12) (T := TX12) (N := 24) (As := []) (rest := []) G hH hA (c_X12_begin l E ad μ q0 hk_q0 _ hq) (wm_18 _ (List.mem_of_getElem? (i := 12) rfl)) mi_X12_begin ms_X12_begin mn_RX12 mc_X12_begin rfl md_X12_begin ⟨rfl, rfl, Nat.le_of_ble_eq_true rfl, Nat.le_of_ble_eq_true rfl⟩ hk_q0 (by decide) rfl rfl hl.1 rfl (Nat.le_of_ble_eq_true rfl) dX12_lawful_1 ⟨Nat.zero_le _, Nat.zero_le _⟩ (fun μ1 hq H locs hH => ?_)
  refine lv_iconst (v := (0 : Int32)) hx hb dX12_lawful_4 (by decide) ?_
  refine lv_istore_n (lv' := [(1, .int (0 : Int32)), (0, .ref (ad q0))]) hx hb dX12_lawful_5 rfl hl (by decide) rfl (fun ls hl => ?_)
  refine lv_iconst (v := (1 : Int32)) hx hb dX12_lawful_6 (by decide) ?_
  refine lv_istore_n (lv' := [(2, .int (1 : Int32)), (1, .int (0 : Int32)), (0, .ref (ad q0))]) hx hb dX12_lawful_7 rfl hl (by decide) rfl (fun ls hl => ?_)
  obtain ⟨n5, hq⟩ := hq
  refine w_X12_lawful_8 G hA q0 hk_q0 n5 (1 : Int32) (0 : Int32) μ1 _ hq _ _ _ hH (lv_sub hl [2, 0, 1] rfl) (fun a22 μ23 hq H locs ls hH hl => ?_)
  refine lv_iload_n hx hb dX12_lawful_35 rfl (lv_at hl 0 rfl) ?_
  exact x_iret G hr hH hq dX12_lawful_36
abbrev tX12_takeSheet : List Cond := Cond.code yX12_takeSheet cX12_takeSheet 2 none :: wsL_law
theorem mi_X12_takeSheet : Cond.instanceMethod yX12_takeSheet ∈ wsL_law := (wm_27 _ (List.mem_of_getElem? (i := 13) rfl))
theorem ms_X12_takeSheet : Cond.selects RX12 yX12_takeSheet yX12_takeSheet ∈ wsL_law := (wm_27 _ (List.mem_of_getElem? (i := 14) rfl))
theorem mc_X12_takeSheet : Cond.code yX12_takeSheet cX12_takeSheet 2 none ∈ wsL_law := (wm_27 _ (List.mem_of_getElem? (i := 15) rfl))
theorem md_X12_takeSheet : yX12_takeSheet.cls ≠ "java/lang/invoke/MethodHandle" ∧ yX12_takeSheet.cls ≠ "java/lang/invoke/VarHandle" ∧ (parseMethodDescriptor yX12_takeSheet.desc).map (fun d => d.parameters.length) = some 0 := by decide +kernel
set_option maxRecDepth 100000 in
set_option maxHeartbeats 4000000 in
theorem wb_X12_takeSheet_2 {E : xE} {ad : Nat → Nat} {p : Program} {l : Launch} {e : Env} {s : State} {m : MethodId} {args : Array Value} {below : List Frame} {meth : Method} {c : Code} {Q : State → Prop} (G : xG E p s m args meth c cX12_takeSheet 2 RX12) (hA : ∀ a, s.heap.size ≤ a → xA ad s.heap.size a) (q1 : Nat) (hk_q1 : kd q1 = 10) (a2 : Int32) (μ4 : xM) (K20 : xM → Prop) (K2b : Int32 → xM → Prop) (hq : B_X12_takeSheet_2 q1 a2 μ4 K20 K2b) {H : Heap} {locs : List Loc} {ls : Array Slot} (hH : xH E ad (xA ad s.heap.size) s.heap μ4 H locs) (hl : lv_has ls 2 [(0, .ref (ad q1)), (1, .int a2)]) (kK20 : ∀ (μ5 : xM), K20  μ5 → ∀ (H : Heap) (locs : List Loc) (ls : Array Slot), xH E ad (xA ad s.heap.size) s.heap μ5 H locs → lv_has ls 2 [(0, .ref (ad q1))] → W p l e (headSpec tX12_takeSheet ({ frames := 1, cells := 0, slots := 0, locals := 40 } : Room)).room s m args below meth c H locs 0 0 Q (F0 m 44 ls [])) (kK2b : ∀ (a6 : Int32) (μ7 : xM), K2b a6 μ7 → ∀ (H : Heap) (locs : List Loc) (ls : Array Slot), xH E ad (xA ad s.heap.size) s.heap μ7 H locs → lv_has ls 2 [(0, .ref (ad q1)), (1, .int a6)] → W p l e (headSpec tX12_takeSheet ({ frames := 1, cells := 0, slots := 0, locals := 40 } : Room)).room s m args below meth c H locs 0 0 Q (F0 m 2 ls [])) : W p l e (headSpec tX12_takeSheet ({ frames := 1, cells := 0, slots := 0, locals := 40 } : Room)).room s m args below meth c H locs 0 0 Q (F0 m 2 ls []) := by
  obtain ⟨hx, hb, hml, hown, hts, hKn, hN, hlk⟩ := id G
  unfold B_X12_takeSheet_2 at hq
  refine lv_iload_n hx hb dX12_takeSheet_2 rfl (lv_at hl 1 rfl) ?_
  refine lv_bipush (v := (16 : Int32)) hx hb dX12_takeSheet_3 (by decide) ?_
  refine lv_icmp_ge (tgt := 44) hx hb dX12_takeSheet_5 (by decide) (fun c8 => ?_) (fun c8 => ?_)
  · have hq := hq.1 c8
    exact kK20  μ4 hq _ _ _ hH (lv_sub hl [0] rfl)
  · have hq := hq.2 c8
    refine lv_aload_n hx hb dX12_takeSheet_8 rfl (lv_at hl 0 rfl) ?_
    refine x_get (j := 5) (C := RX12) (T := TX12) (N := 24) (v := .ref (ad (rt q1 5))) G hH hk_q1 (by decide) rfl inlX12 (by decide) (wm_6 _ (List.mem_of_getElem? (i := 22) rfl)) rfl dX12_takeSheet_9 ?_
    refine lv_iload_n hx hb dX12_takeSheet_12 rfl (lv_at hl 1 rfl) ?_
    refine lv_aload_n hx hb dX12_takeSheet_13 rfl (lv_at hl 0 rfl) ?_
    refine x_get (j := 0) (C := RX12) (T := TX12) (N := 24) (v := .ref (ad (rt q1 0))) G hH hk_q1 (by decide) rfl inlX12 (by decide) (wm_6 _ (List.mem_of_getElem? (i := 18) rfl)) rfl dX12_takeSheet_14 ?_
    refine lv_bipush (v := (59 : Int32)) hx hb dX12_takeSheet_17 (by decide) ?_
    refine lv_iload_n hx hb dX12_takeSheet_19 rfl (lv_at hl 1 rfl) ?_
    refine lv_iadd hx hb dX12_takeSheet_20 ?_
    refine x_iald G hH (kt_10_0 _ hk_q1) hq.1 dX12_takeSheet_21 ?_
    have hq := hq.2
    refine x_iast G hH (kt_10_5 _ hk_q1) hq.1 dX12_takeSheet_22 (fun μ9 e_μ9 H locs hH => ?_)
    have hq := hq.2 μ9 e_μ9
    refine lv_aload_n hx hb dX12_takeSheet_23 rfl (lv_at hl 0 rfl) ?_
    refine x_get (j := 6) (C := RX12) (T := TX12) (N := 24) (v := .ref (ad (rt q1 6))) G hH hk_q1 (by decide) rfl inlX12 (by decide) (wm_6 _ (List.mem_of_getElem? (i := 23) rfl)) rfl dX12_takeSheet_24 ?_
    refine lv_iload_n hx hb dX12_takeSheet_27 rfl (lv_at hl 1 rfl) ?_
    refine lv_aload_n hx hb dX12_takeSheet_28 rfl (lv_at hl 0 rfl) ?_
    refine x_get (j := 0) (C := RX12) (T := TX12) (N := 24) (v := .ref (ad (rt q1 0))) G hH hk_q1 (by decide) rfl inlX12 (by decide) (wm_6 _ (List.mem_of_getElem? (i := 18) rfl)) rfl dX12_takeSheet_29 ?_
    refine lv_bipush (v := (75 : Int32)) hx hb dX12_takeSheet_32 (by decide) ?_
    refine lv_iload_n hx hb dX12_takeSheet_34 rfl (lv_at hl 1 rfl) ?_
    refine lv_iadd hx hb dX12_takeSheet_35 ?_
    refine x_iald G hH (kt_10_0 _ hk_q1) hq.1 dX12_takeSheet_36 ?_
    have hq := hq.2
    refine x_iast G hH (kt_10_6 _ hk_q1) hq.1 dX12_takeSheet_37 (fun μ10 e_μ10 H locs hH => ?_)
    have hq := hq.2 μ10 e_μ10
    obtain ⟨v11, e_v11⟩ : ∃ y : Int32, y = (a2 + (1 : Int32)) := ⟨_, rfl⟩
    have hq := hq v11 e_v11
    refine lv_iinc (v := v11) (lv' := [(1, .int v11), (0, .ref (ad q1))]) hx hb dX12_takeSheet_38 hl (k := 1) rfl (by rw [e_v11]; rfl) (by decide) rfl (fun ls hl => ?_)
    refine lv_goto (tgt := 2) hx hb dX12_takeSheet_41 (by decide) ?_
    exact kK2b v11 μ10 hq _ _ _ hH (lv_sub hl [1, 0] rfl)
set_option maxRecDepth 100000 in
set_option maxHeartbeats 4000000 in
theorem w_X12_takeSheet_2 {E : xE} {ad : Nat → Nat} {p : Program} {l : Launch} {e : Env} {s : State} {m : MethodId} {args : Array Value} {below : List Frame} {meth : Method} {c : Code} {Q : State → Prop} (G : xG E p s m args meth c cX12_takeSheet 2 RX12) (hA : ∀ a, s.heap.size ≤ a → xA ad s.heap.size a) (q1 : Nat) (hk_q1 : kd q1 = 10) : ∀ (n : Nat) (a2 : Int32) (μ4 : xM) (K20 : xM → Prop) (hq : L_X12_takeSheet_2 q1 n a2 μ4 K20) (H : Heap) (locs : List Loc) (ls : Array Slot) (hH : xH E ad (xA ad s.heap.size) s.heap μ4 H locs) (hl : lv_has ls 2 [(0, .ref (ad q1)), (1, .int a2)]) (kK20 : ∀ (μ5 : xM), K20  μ5 → ∀ (H : Heap) (locs : List Loc) (ls : Array Slot), xH E ad (xA ad s.heap.size) s.heap μ5 H locs → lv_has ls 2 [(0, .ref (ad q1))] → W p l e (headSpec tX12_takeSheet ({ frames := 1, cells := 0, slots := 0, locals := 40 } : Room)).room s m args below meth c H locs 0 0 Q (F0 m 44 ls [])) , W p l e (headSpec tX12_takeSheet ({ frames := 1, cells := 0, slots := 0, locals := 40 } : Room)).room s m args below meth c H locs 0 0 Q (F0 m 2 ls [])
  | 0, _, _, _, hq, _, _, _, _, _, _ => hq.elim
  | n + 1, a2, μ4, K20, hq, H, locs, ls, hH, hl, kK20 => wb_X12_takeSheet_2 G hA q1 hk_q1 a2 μ4 K20 _ hq hH hl kK20 (fun x0 y hq H locs ls hH hl => w_X12_takeSheet_2 G hA q1 hk_q1 n x0 y K20 hq H locs ls hH hl kK20)
set_option maxRecDepth 100000 in
set_option maxHeartbeats 4000000 in
theorem c_X12_takeSheet (l : Launch) (E : xE) (ad : Nat → Nat) (μ : xM) (q0 : Nat) (hk_q0 : kd q0 = 10) (Qm : xM → Prop) (hq : p_X12_takeSheet q0 μ Qm) : xMv l yX12_takeSheet tX12_takeSheet ({ frames := 1, cells := 0, slots := 0, locals := 40 } : Room) E ad μ [.ref (ad q0)] Qm := by
  refine x_stv (cc := cX12_takeSheet) (maxL := 2) (ret := none) (own := RX12) rfl (by decide) rfl (Nat.le_of_ble_eq_true rfl) ?_
  intro p e s m args below meth c ls G hr hA hH hl
  obtain ⟨hx, hb, hml, hown, hts, hKn, hN, hlk⟩ := id G
  have hl : lv_has ls 2 [(0, .ref (ad q0))] := hl
  have hH : xH E ad (xA ad s.heap.size) s.heap μ s.heap [] := hH
  unfold p_X12_takeSheet at hq
  refine lv_iconst (v := (0 : Int32)) hx hb dX12_takeSheet_0 (by decide) ?_
  refine lv_istore_n (lv' := [(1, .int (0 : Int32)), (0, .ref (ad q0))]) hx hb dX12_takeSheet_1 rfl hl (by decide) rfl (fun ls hl => ?_)
  obtain ⟨n3, hq⟩ := hq
  refine w_X12_takeSheet_2 G hA q0 hk_q0 n3 (0 : Int32) μ _ hq _ _ _ hH (lv_sub hl [1, 0] rfl) (fun  μ12 hq H locs ls hH hl => ?_)
  refine lv_aload_n hx hb dX12_takeSheet_44 rfl (lv_at hl 0 rfl) ?_
  refine lv_aload_n hx hb dX12_takeSheet_45 rfl (lv_at hl 0 rfl) ?_
  refine x_get (j := 0) (C := RX12) (T := TX12) (N := 24) (v := .ref (ad (rt q0 0))) G hH hk_q0 (by decide) rfl inlX12 (by decide) (wm_6 _ (List.mem_of_getElem? (i := 18) rfl)) rfl dX12_takeSheet_46 ?_
  refine lv_bipush (v := (91 : Int32)) hx hb dX12_takeSheet_49 (by decide) ?_
  refine x_iald G hH (kt_10_0 _ hk_q0) hq.1 dX12_takeSheet_51 ?_
  have hq := hq.2
  refine x_puti (j := 7) (C := RX12) (T := TX12) (N := 24) (ty := .int) G hH hk_q0 (by decide) rfl inlX12 tyX12 tyX12_ok nmX12 (by decide) (wm_24 _ (List.mem_of_getElem? (i := 16) rfl)) rfl (by decide +kernel) rfl rfl (fun _ _ => Nat.le_of_ble_eq_true rfl) (fun _ _ => rfl) dX12_takeSheet_52 (fun μ13 e_μ13 H locs hH => ?_)
  have hq := hq μ13 e_μ13
  exact x_vret G hr hH hq dX12_takeSheet_55
abbrev tX12_ofHand : List Cond := Cond.code yX12_ofHand cX12_ofHand 4 (some .int) :: wsL_law
theorem mi_X12_ofHand : Cond.instanceMethod yX12_ofHand ∈ wsL_law := (wm_30 _ (List.mem_of_getElem? (i := 12) rfl))
theorem ms_X12_ofHand : Cond.selects RX12 yX12_ofHand yX12_ofHand ∈ wsL_law := (wm_30 _ (List.mem_of_getElem? (i := 13) rfl))
theorem mc_X12_ofHand : Cond.code yX12_ofHand cX12_ofHand 4 (some .int) ∈ wsL_law := (wm_30 _ (List.mem_of_getElem? (i := 14) rfl))
theorem md_X12_ofHand : yX12_ofHand.cls ≠ "java/lang/invoke/MethodHandle" ∧ yX12_ofHand.cls ≠ "java/lang/invoke/VarHandle" ∧ (parseMethodDescriptor yX12_ofHand.desc).map (fun d => d.parameters.length) = some 1 := by decide +kernel
set_option maxRecDepth 100000 in
set_option maxHeartbeats 4000000 in
theorem wb_X12_ofHand_33 {E : xE} {ad : Nat → Nat} {p : Program} {l : Launch} {e : Env} {s : State} {m : MethodId} {args : Array Value} {below : List Frame} {meth : Method} {c : Code} {Q : State → Prop} (G : xG E p s m args meth c cX12_ofHand 4 RX12) (hA : ∀ a, s.heap.size ≤ a → xA ad s.heap.size a) (q3 : Nat) (a4 : Int32) (hk_q3 : kd q3 = 10) (a5 : Int32) (a6 : Int32) (μ8 : xM) (K330 : Int32 → xM → Prop) (K33b : Int32 → Int32 → xM → Prop) (hq : B_X12_ofHand_33 q3 a4 a5 a6 μ8 K330 K33b) {H : Heap} {locs : List Loc} {ls : Array Slot} (hH : xH E ad (xA ad s.heap.size) s.heap μ8 H locs) (hl : lv_has ls 4 [(0, .ref (ad q3)), (1, .int a4), (3, .int a5), (2, .int a6)]) (kK330 : ∀ (a9 : Int32) (μ10 : xM), K330 a9 μ10 → ∀ (H : Heap) (locs : List Loc) (ls : Array Slot), xH E ad (xA ad s.heap.size) s.heap μ10 H locs → lv_has ls 4 [(2, .int a9)] → W p l e (headSpec tX12_ofHand ({ frames := 4, cells := 0, slots := 0, locals := 160 } : Room)).room s m args below meth c H locs 0 0 Q (F0 m 80 ls [])) (kK33b : ∀ (a11 : Int32) (a12 : Int32) (μ13 : xM), K33b a11 a12 μ13 → ∀ (H : Heap) (locs : List Loc) (ls : Array Slot), xH E ad (xA ad s.heap.size) s.heap μ13 H locs → lv_has ls 4 [(0, .ref (ad q3)), (1, .int a4), (3, .int a11), (2, .int a12)] → W p l e (headSpec tX12_ofHand ({ frames := 4, cells := 0, slots := 0, locals := 160 } : Room)).room s m args below meth c H locs 0 0 Q (F0 m 33 ls [])) : W p l e (headSpec tX12_ofHand ({ frames := 4, cells := 0, slots := 0, locals := 160 } : Room)).room s m args below meth c H locs 0 0 Q (F0 m 33 ls []) := by
  obtain ⟨hx, hb, hml, hown, hts, hKn, hN, hlk⟩ := id G
  unfold B_X12_ofHand_33 at hq
  refine lv_iload_n hx hb dX12_ofHand_33 rfl (lv_at hl 2 rfl) ?_
  refine lv_bipush (v := (16 : Int32)) hx hb dX12_ofHand_34 (by decide) ?_
  refine lv_icmp_ge (tgt := 80) hx hb dX12_ofHand_36 (by decide) (fun c14 => ?_) (fun c14 => ?_)
  · have hq := hq.1 c14
    exact kK330 a6 μ8 hq _ _ _ hH (lv_sub hl [3] rfl)
  · have hq := hq.2 c14
    refine lv_iload_n hx hb dX12_ofHand_39 rfl (lv_at hl 3 rfl) ?_
    refine lv_aload_n hx hb dX12_ofHand_40 rfl (lv_at hl 0 rfl) ?_
    refine lv_iload_n hx hb dX12_ofHand_41 rfl (lv_at hl 2 rfl) ?_
    refine lv_iload_n hx hb dX12_ofHand_42 rfl (lv_at hl 1 rfl) ?_
    refine lv_iconst (v := (4 : Int32)) hx hb dX12_ofHand_43 (by decide) ?_
    refine lv_icmp_ne (tgt := 51) hx hb dX12_ofHand_44 (by decide) (fun c15 => ?_) (fun c15 => ?_)
    · have hq := hq.1 c15
      refine lv_iload_n hx hb dX12_ofHand_51 rfl (lv_at hl 1 rfl) ?_
      refine lv_iconst (v := (5 : Int32)) hx hb dX12_ofHand_52 (by decide) ?_
      refine lv_icmp_ne (tgt := 60) hx hb dX12_ofHand_53 (by decide) (fun c16 => ?_) (fun c16 => ?_)
      · have hq := hq.1 c16
        refine lv_iconst (v := (2 : Int32)) hx hb dX12_ofHand_60 (by decide) ?_
        refine x_cVi (C := RX12) (T := TX12) (N := 24) (As := [.int a5, .int (2 : Int32)]) (rest := [.int a6]) G hH hA (c_X12_ofCell l E ad μ8 q3 a5 (2 : Int32) hk_q3 _ hq) (wm_29 _ (List.mem_of_getElem? (i := 9) rfl)) mi_X12_ofCell ms_X12_ofCell mn_RX12 mc_X12_ofCell rfl md_X12_ofCell ⟨rfl, rfl, Nat.le_of_ble_eq_true rfl, Nat.le_of_ble_eq_true rfl⟩ hk_q3 (by decide) rfl rfl hl.1 rfl (Nat.le_of_ble_eq_true rfl) dX12_ofHand_61 ⟨Nat.zero_le _, Nat.zero_le _⟩ (fun r18 μ17 hq H locs hH => ?_)
        refine lv_if_le (tgt := 71) hx hb dX12_ofHand_64 (by decide) (fun c19 => ?_) (fun c19 => ?_)
        · have hq := hq.1 c19
          refine lv_iconst (v := (0 : Int32)) hx hb dX12_ofHand_71 (by decide) ?_
          refine lv_iadd hx hb dX12_ofHand_72 ?_
          refine lv_topi (fun v20 e_v20 => ?_)
          have hq := hq v20 e_v20
          refine lv_istore_n (lv' := [(2, .int v20), (0, .ref (ad q3)), (1, .int a4), (3, .int a5)]) hx hb dX12_ofHand_73 rfl hl (by decide) rfl (fun ls hl => ?_)
          obtain ⟨v21, e_v21⟩ : ∃ y : Int32, y = (a5 + (1 : Int32)) := ⟨_, rfl⟩
          have hq := hq v21 e_v21
          refine lv_iinc (v := v21) (lv' := [(3, .int v21), (2, .int v20), (0, .ref (ad q3)), (1, .int a4)]) hx hb dX12_ofHand_74 hl (k := 3) rfl (by rw [e_v21]; rfl) (by decide) rfl (fun ls hl => ?_)
          refine lv_goto (tgt := 33) hx hb dX12_ofHand_77 (by decide) ?_
          exact kK33b v21 v20 μ17 hq _ _ _ hH (lv_sub hl [2, 3, 0, 1] rfl)
        · have hq := hq.2 c19
          refine lv_iconst (v := (1 : Int32)) hx hb dX12_ofHand_67 (by decide) ?_
          refine lv_goto (tgt := 72) hx hb dX12_ofHand_68 (by decide) ?_
          refine lv_iadd hx hb dX12_ofHand_72 ?_
          refine lv_topi (fun v22 e_v22 => ?_)
          have hq := hq v22 e_v22
          refine lv_istore_n (lv' := [(2, .int v22), (0, .ref (ad q3)), (1, .int a4), (3, .int a5)]) hx hb dX12_ofHand_73 rfl hl (by decide) rfl (fun ls hl => ?_)
          obtain ⟨v23, e_v23⟩ : ∃ y : Int32, y = (a5 + (1 : Int32)) := ⟨_, rfl⟩
          have hq := hq v23 e_v23
          refine lv_iinc (v := v23) (lv' := [(3, .int v23), (2, .int v22), (0, .ref (ad q3)), (1, .int a4)]) hx hb dX12_ofHand_74 hl (k := 3) rfl (by rw [e_v23]; rfl) (by decide) rfl (fun ls hl => ?_)
          refine lv_goto (tgt := 33) hx hb dX12_ofHand_77 (by decide) ?_
          exact kK33b v23 v22 μ17 hq _ _ _ hH (lv_sub hl [2, 3, 0, 1] rfl)
      · have hq := hq.2 c16
        refine lv_iconst (v := (1 : Int32)) hx hb dX12_ofHand_56 (by decide) ?_
        refine lv_goto (tgt := 61) hx hb dX12_ofHand_57 (by decide) ?_
        refine x_cVi (C := RX12) (T := TX12) (N := 24) (As := [.int a5, .int (1 : Int32)]) (rest := [.int a6]) G hH hA (c_X12_ofCell l E ad μ8 q3 a5 (1 : Int32) hk_q3 _ hq) (wm_29 _ (List.mem_of_getElem? (i := 9) rfl)) mi_X12_ofCell ms_X12_ofCell mn_RX12 mc_X12_ofCell rfl md_X12_ofCell ⟨rfl, rfl, Nat.le_of_ble_eq_true rfl, Nat.le_of_ble_eq_true rfl⟩ hk_q3 (by decide) rfl rfl hl.1 rfl (Nat.le_of_ble_eq_true rfl) dX12_ofHand_61 ⟨Nat.zero_le _, Nat.zero_le _⟩ (fun r25 μ24 hq H locs hH => ?_)
        refine lv_if_le (tgt := 71) hx hb dX12_ofHand_64 (by decide) (fun c26 => ?_) (fun c26 => ?_)
        · have hq := hq.1 c26
          refine lv_iconst (v := (0 : Int32)) hx hb dX12_ofHand_71 (by decide) ?_
          refine lv_iadd hx hb dX12_ofHand_72 ?_
          refine lv_topi (fun v27 e_v27 => ?_)
          have hq := hq v27 e_v27
          refine lv_istore_n (lv' := [(2, .int v27), (0, .ref (ad q3)), (1, .int a4), (3, .int a5)]) hx hb dX12_ofHand_73 rfl hl (by decide) rfl (fun ls hl => ?_)
          obtain ⟨v28, e_v28⟩ : ∃ y : Int32, y = (a5 + (1 : Int32)) := ⟨_, rfl⟩
          have hq := hq v28 e_v28
          refine lv_iinc (v := v28) (lv' := [(3, .int v28), (2, .int v27), (0, .ref (ad q3)), (1, .int a4)]) hx hb dX12_ofHand_74 hl (k := 3) rfl (by rw [e_v28]; rfl) (by decide) rfl (fun ls hl => ?_)
          refine lv_goto (tgt := 33) hx hb dX12_ofHand_77 (by decide) ?_
          exact kK33b v28 v27 μ24 hq _ _ _ hH (lv_sub hl [2, 3, 0, 1] rfl)
        · have hq := hq.2 c26
          refine lv_iconst (v := (1 : Int32)) hx hb dX12_ofHand_67 (by decide) ?_
          refine lv_goto (tgt := 72) hx hb dX12_ofHand_68 (by decide) ?_
          refine lv_iadd hx hb dX12_ofHand_72 ?_
          refine lv_topi (fun v29 e_v29 => ?_)
          have hq := hq v29 e_v29
          refine lv_istore_n (lv' := [(2, .int v29), (0, .ref (ad q3)), (1, .int a4), (3, .int a5)]) hx hb dX12_ofHand_73 rfl hl (by decide) rfl (fun ls hl => ?_)
          obtain ⟨v30, e_v30⟩ : ∃ y : Int32, y = (a5 + (1 : Int32)) := ⟨_, rfl⟩
          have hq := hq v30 e_v30
          refine lv_iinc (v := v30) (lv' := [(3, .int v30), (2, .int v29), (0, .ref (ad q3)), (1, .int a4)]) hx hb dX12_ofHand_74 hl (k := 3) rfl (by rw [e_v30]; rfl) (by decide) rfl (fun ls hl => ?_)
          refine lv_goto (tgt := 33) hx hb dX12_ofHand_77 (by decide) ?_
          exact kK33b v30 v29 μ24 hq _ _ _ hH (lv_sub hl [2, 3, 0, 1] rfl)
    · have hq := hq.2 c15
      refine lv_iconst (v := (3 : Int32)) hx hb dX12_ofHand_47 (by decide) ?_
      refine lv_goto (tgt := 61) hx hb dX12_ofHand_48 (by decide) ?_
      refine x_cVi (C := RX12) (T := TX12) (N := 24) (As := [.int a5, .int (3 : Int32)]) (rest := [.int a6]) G hH hA (c_X12_ofCell l E ad μ8 q3 a5 (3 : Int32) hk_q3 _ hq) (wm_29 _ (List.mem_of_getElem? (i := 9) rfl)) mi_X12_ofCell ms_X12_ofCell mn_RX12 mc_X12_ofCell rfl md_X12_ofCell ⟨rfl, rfl, Nat.le_of_ble_eq_true rfl, Nat.le_of_ble_eq_true rfl⟩ hk_q3 (by decide) rfl rfl hl.1 rfl (Nat.le_of_ble_eq_true rfl) dX12_ofHand_61 ⟨Nat.zero_le _, Nat.zero_le _⟩ (fun r32 μ31 hq H locs hH => ?_)
      refine lv_if_le (tgt := 71) hx hb dX12_ofHand_64 (by decide) (fun c33 => ?_) (fun c33 => ?_)
      · have hq := hq.1 c33
        refine lv_iconst (v := (0 : Int32)) hx hb dX12_ofHand_71 (by decide) ?_
        refine lv_iadd hx hb dX12_ofHand_72 ?_
        refine lv_topi (fun v34 e_v34 => ?_)
        have hq := hq v34 e_v34
        refine lv_istore_n (lv' := [(2, .int v34), (0, .ref (ad q3)), (1, .int a4), (3, .int a5)]) hx hb dX12_ofHand_73 rfl hl (by decide) rfl (fun ls hl => ?_)
        obtain ⟨v35, e_v35⟩ : ∃ y : Int32, y = (a5 + (1 : Int32)) := ⟨_, rfl⟩
        have hq := hq v35 e_v35
        refine lv_iinc (v := v35) (lv' := [(3, .int v35), (2, .int v34), (0, .ref (ad q3)), (1, .int a4)]) hx hb dX12_ofHand_74 hl (k := 3) rfl (by rw [e_v35]; rfl) (by decide) rfl (fun ls hl => ?_)
        refine lv_goto (tgt := 33) hx hb dX12_ofHand_77 (by decide) ?_
        exact kK33b v35 v34 μ31 hq _ _ _ hH (lv_sub hl [2, 3, 0, 1] rfl)
      · have hq := hq.2 c33
        refine lv_iconst (v := (1 : Int32)) hx hb dX12_ofHand_67 (by decide) ?_
        refine lv_goto (tgt := 72) hx hb dX12_ofHand_68 (by decide) ?_
        refine lv_iadd hx hb dX12_ofHand_72 ?_
        refine lv_topi (fun v36 e_v36 => ?_)
        have hq := hq v36 e_v36
        refine lv_istore_n (lv' := [(2, .int v36), (0, .ref (ad q3)), (1, .int a4), (3, .int a5)]) hx hb dX12_ofHand_73 rfl hl (by decide) rfl (fun ls hl => ?_)
        obtain ⟨v37, e_v37⟩ : ∃ y : Int32, y = (a5 + (1 : Int32)) := ⟨_, rfl⟩
        have hq := hq v37 e_v37
        refine lv_iinc (v := v37) (lv' := [(3, .int v37), (2, .int v36), (0, .ref (ad q3)), (1, .int a4)]) hx hb dX12_ofHand_74 hl (k := 3) rfl (by rw [e_v37]; rfl) (by decide) rfl (fun ls hl => ?_)
        refine lv_goto (tgt := 33) hx hb dX12_ofHand_77 (by decide) ?_
        exact kK33b v37 v36 μ31 hq _ _ _ hH (lv_sub hl [2, 3, 0, 1] rfl)
set_option maxRecDepth 100000 in
set_option maxHeartbeats 4000000 in
theorem w_X12_ofHand_33 {E : xE} {ad : Nat → Nat} {p : Program} {l : Launch} {e : Env} {s : State} {m : MethodId} {args : Array Value} {below : List Frame} {meth : Method} {c : Code} {Q : State → Prop} (G : xG E p s m args meth c cX12_ofHand 4 RX12) (hA : ∀ a, s.heap.size ≤ a → xA ad s.heap.size a) (q3 : Nat) (a4 : Int32) (hk_q3 : kd q3 = 10) : ∀ (n : Nat) (a5 : Int32) (a6 : Int32) (μ8 : xM) (K330 : Int32 → xM → Prop) (hq : L_X12_ofHand_33 q3 a4 n a5 a6 μ8 K330) (H : Heap) (locs : List Loc) (ls : Array Slot) (hH : xH E ad (xA ad s.heap.size) s.heap μ8 H locs) (hl : lv_has ls 4 [(0, .ref (ad q3)), (1, .int a4), (3, .int a5), (2, .int a6)]) (kK330 : ∀ (a9 : Int32) (μ10 : xM), K330 a9 μ10 → ∀ (H : Heap) (locs : List Loc) (ls : Array Slot), xH E ad (xA ad s.heap.size) s.heap μ10 H locs → lv_has ls 4 [(2, .int a9)] → W p l e (headSpec tX12_ofHand ({ frames := 4, cells := 0, slots := 0, locals := 160 } : Room)).room s m args below meth c H locs 0 0 Q (F0 m 80 ls [])) , W p l e (headSpec tX12_ofHand ({ frames := 4, cells := 0, slots := 0, locals := 160 } : Room)).room s m args below meth c H locs 0 0 Q (F0 m 33 ls [])
  | 0, _, _, _, _, hq, _, _, _, _, _, _ => hq.elim
  | n + 1, a5, a6, μ8, K330, hq, H, locs, ls, hH, hl, kK330 => wb_X12_ofHand_33 G hA q3 a4 hk_q3 a5 a6 μ8 K330 _ hq hH hl kK330 (fun x0 x1 y hq H locs ls hH hl => w_X12_ofHand_33 G hA q3 a4 hk_q3 n x0 x1 y K330 hq H locs ls hH hl kK330)
set_option maxRecDepth 100000 in
set_option maxHeartbeats 4000000 in
theorem c_X12_ofHand (l : Launch) (E : xE) (ad : Nat → Nat) (μ : xM) (q0 : Nat) (p1 : Int32) (hk_q0 : kd q0 = 10) (Qm : Int32 → xM → Prop) (hq : p_X12_ofHand q0 p1 μ Qm) : xMi l yX12_ofHand tX12_ofHand ({ frames := 4, cells := 0, slots := 0, locals := 160 } : Room) E ad μ [.ref (ad q0), .int p1] Qm := by
  refine x_sti (cc := cX12_ofHand) (maxL := 4) (ret := (some .int)) (own := RX12) rfl (by decide) rfl (Nat.le_of_ble_eq_true rfl) ?_
  intro p e s m args below meth c ls G hr hA hH hl
  obtain ⟨hx, hb, hml, hown, hts, hKn, hN, hlk⟩ := id G
  have hl : lv_has ls 4 [(0, .ref (ad q0)), (1, .int p1)] := hl
  have hH : xH E ad (xA ad s.heap.size) s.heap μ s.heap [] := hH
  unfold p_X12_ofHand at hq
  refine lv_iload_n hx hb dX12_ofHand_0 rfl (lv_at hl 1 rfl) ?_
  refine lv_iconst (v := (3 : Int32)) hx hb dX12_ofHand_1 (by decide) ?_
  refine lv_icmp_ge (tgt := 15) hx hb dX12_ofHand_2 (by decide) (fun c1 => ?_) (fun c1 => ?_)
  · have hq := hq.1 c1
    refine lv_iload_n hx hb dX12_ofHand_15 rfl (lv_at hl 1 rfl) ?_
    refine lv_iconst (v := (3 : Int32)) hx hb dX12_ofHand_16 (by decide) ?_
    refine lv_icmp_ne (tgt := 29) hx hb dX12_ofHand_17 (by decide) (fun c2 => ?_) (fun c2 => ?_)
    · have hq := hq.1 c2
      refine lv_iconst (v := (0 : Int32)) hx hb dX12_ofHand_29 (by decide) ?_
      refine lv_istore_n (lv' := [(2, .int (0 : Int32)), (0, .ref (ad q0)), (1, .int p1)]) hx hb dX12_ofHand_30 rfl hl (by decide) rfl (fun ls hl => ?_)
      refine lv_iconst (v := (0 : Int32)) hx hb dX12_ofHand_31 (by decide) ?_
      refine lv_istore_n (lv' := [(3, .int (0 : Int32)), (2, .int (0 : Int32)), (0, .ref (ad q0)), (1, .int p1)]) hx hb dX12_ofHand_32 rfl hl (by decide) rfl (fun ls hl => ?_)
      obtain ⟨n7, hq⟩ := hq
      refine w_X12_ofHand_33 G hA q0 p1 hk_q0 n7 (0 : Int32) (0 : Int32) μ _ hq _ _ _ hH (lv_sub hl [2, 3, 0, 1] rfl) (fun a38 μ39 hq H locs ls hH hl => ?_)
      refine lv_iload_n hx hb dX12_ofHand_80 rfl (lv_at hl 0 rfl) ?_
      exact x_iret G hr hH hq dX12_ofHand_81
    · have hq := hq.2 c2
      refine lv_aload_n hx hb dX12_ofHand_20 rfl (lv_at hl 0 rfl) ?_
      refine x_cVv (C := RX12) (T := TX12) (N := 24) (As := []) (rest := []) G hH hA (c_X12_takeSheet l E ad μ q0 hk_q0 _ hq) (wm_27 _ (List.mem_of_getElem? (i := 12) rfl)) mi_X12_takeSheet ms_X12_takeSheet mn_RX12 mc_X12_takeSheet rfl md_X12_takeSheet ⟨rfl, rfl, Nat.le_of_ble_eq_true rfl, Nat.le_of_ble_eq_true rfl⟩ hk_q0 (by decide) rfl rfl hl.1 rfl (Nat.le_of_ble_eq_true rfl) dX12_ofHand_21 ⟨Nat.zero_le _, Nat.zero_le _⟩ (fun μ40 hq H locs hH => ?_)
      refine lv_aload_n hx hb dX12_ofHand_24 rfl (lv_at hl 0 rfl) ?_
      refine x_cVi (C := RX12) (T := TX12) (N := 24) (As := []) (rest := []) G hH hA (c_X12_hits l E ad μ40 q0 hk_q0 _ hq) (wm_24 _ (List.mem_of_getElem? (i := 21) rfl)) mi_X12_hits ms_X12_hits mn_RX12 mc_X12_hits rfl md_X12_hits ⟨rfl, rfl, Nat.le_of_ble_eq_true rfl, Nat.le_of_ble_eq_true rfl⟩ hk_q0 (by decide) rfl rfl hl.1 rfl (Nat.le_of_ble_eq_true rfl) dX12_ofHand_25 ⟨Nat.zero_le _, Nat.zero_le _⟩ (fun r42 μ41 hq H locs hH => ?_)
      exact x_iret G hr hH hq dX12_ofHand_28
  · have hq := hq.2 c1
    refine lv_aload_n hx hb dX12_ofHand_5 rfl (lv_at hl 0 rfl) ?_
    refine x_get (j := 0) (C := RX12) (T := TX12) (N := 24) (v := .ref (ad (rt q0 0))) G hH hk_q0 (by decide) rfl inlX12 (by decide) (wm_6 _ (List.mem_of_getElem? (i := 18) rfl)) rfl dX12_ofHand_6 ?_
    refine lv_bipush (v := (92 : Int32)) hx hb dX12_ofHand_9 (by decide) ?_
    refine lv_iload_n hx hb dX12_ofHand_11 rfl (lv_at hl 1 rfl) ?_
    refine lv_iadd hx hb dX12_ofHand_12 ?_
    refine x_iald G hH (kt_10_0 _ hk_q0) hq.1 dX12_ofHand_13 ?_
    have hq := hq.2
    exact x_iret G hr hH hq dX12_ofHand_14
abbrev tX12_digest : List Cond := Cond.code yX12_digest cX12_digest 2 (some .long) :: wsL_law
theorem mi_X12_digest : Cond.instanceMethod yX12_digest ∈ wsL_law := (wm_37 _ (List.mem_of_getElem? (i := 13) rfl))
theorem ms_X12_digest : Cond.selects RX12 yX12_digest yX12_digest ∈ wsL_law := (wm_37 _ (List.mem_of_getElem? (i := 14) rfl))
theorem mc_X12_digest : Cond.code yX12_digest cX12_digest 2 (some .long) ∈ wsL_law := (wm_37 _ (List.mem_of_getElem? (i := 15) rfl))
theorem md_X12_digest : yX12_digest.cls ≠ "java/lang/invoke/MethodHandle" ∧ yX12_digest.cls ≠ "java/lang/invoke/VarHandle" ∧ (parseMethodDescriptor yX12_digest.desc).map (fun d => d.parameters.length) = some 0 := by decide +kernel
set_option maxRecDepth 100000 in
set_option maxHeartbeats 4000000 in
theorem wb_X12_digest_9 {E : xE} {ad : Nat → Nat} {p : Program} {l : Launch} {e : Env} {s : State} {m : MethodId} {args : Array Value} {below : List Frame} {meth : Method} {c : Code} {Q : State → Prop} (G : xG E p s m args meth c cX12_digest 2 RX12) (hA : ∀ a, s.heap.size ≤ a → xA ad s.heap.size a) (q2 : Nat) (hk_q2 : kd q2 = 10) (a3 : Int32) (μ5 : xM) (K90 : xM → Prop) (K9b : Int32 → xM → Prop) (hq : B_X12_digest_9 q2 a3 μ5 K90 K9b) {H : Heap} {locs : List Loc} {ls : Array Slot} (hH : xH E ad (xA ad s.heap.size) s.heap μ5 H locs) (hl : lv_has ls 2 [(0, .ref (ad q2)), (1, .int a3)]) (kK90 : ∀ (μ6 : xM), K90  μ6 → ∀ (H : Heap) (locs : List Loc) (ls : Array Slot), xH E ad (xA ad s.heap.size) s.heap μ6 H locs → lv_has ls 2 [(0, .ref (ad q2))] → W p l e (headSpec tX12_digest ({ frames := 6, cells := 0, slots := 0, locals := 240 } : Room)).room s m args below meth c H locs 0 0 Q (F0 m 30 ls [])) (kK9b : ∀ (a7 : Int32) (μ8 : xM), K9b a7 μ8 → ∀ (H : Heap) (locs : List Loc) (ls : Array Slot), xH E ad (xA ad s.heap.size) s.heap μ8 H locs → lv_has ls 2 [(0, .ref (ad q2)), (1, .int a7)] → W p l e (headSpec tX12_digest ({ frames := 6, cells := 0, slots := 0, locals := 240 } : Room)).room s m args below meth c H locs 0 0 Q (F0 m 9 ls [])) : W p l e (headSpec tX12_digest ({ frames := 6, cells := 0, slots := 0, locals := 240 } : Room)).room s m args below meth c H locs 0 0 Q (F0 m 9 ls []) := by
  obtain ⟨hx, hb, hml, hown, hts, hKn, hN, hlk⟩ := id G
  unfold B_X12_digest_9 at hq
  refine lv_iload_n hx hb dX12_digest_9 rfl (lv_at hl 1 rfl) ?_
  refine lv_bipush (v := (6 : Int32)) hx hb dX12_digest_10 (by decide) ?_
  refine lv_icmp_ge (tgt := 30) hx hb dX12_digest_12 (by decide) (fun c9 => ?_) (fun c9 => ?_)
  · have hq := hq.1 c9
    exact kK90  μ5 hq _ _ _ hH (lv_sub hl [0] rfl)
  · have hq := hq.2 c9
    refine lv_aload_n hx hb dX12_digest_15 rfl (lv_at hl 0 rfl) ?_
    refine lv_aload_n hx hb dX12_digest_16 rfl (lv_at hl 0 rfl) ?_
    refine lv_iload_n hx hb dX12_digest_17 rfl (lv_at hl 1 rfl) ?_
    refine x_cVi (C := RX12) (T := TX12) (N := 24) (As := [.int a3]) (rest := [.ref (ad q2)]) G hH hA (c_X12_toldOf l E ad μ5 q2 a3 hk_q2 _ hq) (wm_36 _ (List.mem_of_getElem? (i := 20) rfl)) mi_X12_toldOf ms_X12_toldOf mn_RX12 mc_X12_toldOf rfl md_X12_toldOf ⟨rfl, rfl, Nat.le_of_ble_eq_true rfl, Nat.le_of_ble_eq_true rfl⟩ hk_q2 (by decide) rfl rfl hl.1 rfl (Nat.le_of_ble_eq_true rfl) dX12_digest_18 ⟨Nat.zero_le _, Nat.zero_le _⟩ (fun r11 μ10 hq H locs hH => ?_)
    refine x_cVv (C := RX12) (T := TX12) (N := 24) (As := [.int r11]) (rest := []) G hH hA (c_X12_mix l E ad μ10 q2 r11 hk_q2 _ hq) (wm_37 _ (List.mem_of_getElem? (i := 18) rfl)) mi_X12_mix ms_X12_mix mn_RX12 mc_X12_mix rfl md_X12_mix ⟨rfl, rfl, Nat.le_of_ble_eq_true rfl, Nat.le_of_ble_eq_true rfl⟩ hk_q2 (by decide) rfl rfl hl.1 rfl (Nat.le_of_ble_eq_true rfl) dX12_digest_21 ⟨Nat.zero_le _, Nat.zero_le _⟩ (fun μ12 hq H locs hH => ?_)
    obtain ⟨v13, e_v13⟩ : ∃ y : Int32, y = (a3 + (1 : Int32)) := ⟨_, rfl⟩
    have hq := hq v13 e_v13
    refine lv_iinc (v := v13) (lv' := [(1, .int v13), (0, .ref (ad q2))]) hx hb dX12_digest_24 hl (k := 1) rfl (by rw [e_v13]; rfl) (by decide) rfl (fun ls hl => ?_)
    refine lv_goto (tgt := 9) hx hb dX12_digest_27 (by decide) ?_
    exact kK9b v13 μ12 hq _ _ _ hH (lv_sub hl [1, 0] rfl)
set_option maxRecDepth 100000 in
set_option maxHeartbeats 4000000 in
theorem w_X12_digest_9 {E : xE} {ad : Nat → Nat} {p : Program} {l : Launch} {e : Env} {s : State} {m : MethodId} {args : Array Value} {below : List Frame} {meth : Method} {c : Code} {Q : State → Prop} (G : xG E p s m args meth c cX12_digest 2 RX12) (hA : ∀ a, s.heap.size ≤ a → xA ad s.heap.size a) (q2 : Nat) (hk_q2 : kd q2 = 10) : ∀ (n : Nat) (a3 : Int32) (μ5 : xM) (K90 : xM → Prop) (hq : L_X12_digest_9 q2 n a3 μ5 K90) (H : Heap) (locs : List Loc) (ls : Array Slot) (hH : xH E ad (xA ad s.heap.size) s.heap μ5 H locs) (hl : lv_has ls 2 [(0, .ref (ad q2)), (1, .int a3)]) (kK90 : ∀ (μ6 : xM), K90  μ6 → ∀ (H : Heap) (locs : List Loc) (ls : Array Slot), xH E ad (xA ad s.heap.size) s.heap μ6 H locs → lv_has ls 2 [(0, .ref (ad q2))] → W p l e (headSpec tX12_digest ({ frames := 6, cells := 0, slots := 0, locals := 240 } : Room)).room s m args below meth c H locs 0 0 Q (F0 m 30 ls [])) , W p l e (headSpec tX12_digest ({ frames := 6, cells := 0, slots := 0, locals := 240 } : Room)).room s m args below meth c H locs 0 0 Q (F0 m 9 ls [])
  | 0, _, _, _, hq, _, _, _, _, _, _ => hq.elim
  | n + 1, a3, μ5, K90, hq, H, locs, ls, hH, hl, kK90 => wb_X12_digest_9 G hA q2 hk_q2 a3 μ5 K90 _ hq hH hl kK90 (fun x0 y hq H locs ls hH hl => w_X12_digest_9 G hA q2 hk_q2 n x0 y K90 hq H locs ls hH hl kK90)
set_option maxRecDepth 100000 in
set_option maxHeartbeats 4000000 in
theorem wb_X12_digest_32 {E : xE} {ad : Nat → Nat} {p : Program} {l : Launch} {e : Env} {s : State} {m : MethodId} {args : Array Value} {below : List Frame} {meth : Method} {c : Code} {Q : State → Prop} (G : xG E p s m args meth c cX12_digest 2 RX12) (hA : ∀ a, s.heap.size ≤ a → xA ad s.heap.size a) (q15 : Nat) (hk_q15 : kd q15 = 10) (a16 : Int32) (μ18 : xM) (K320 : xM → Prop) (K32b : Int32 → xM → Prop) (hq : B_X12_digest_32 q15 a16 μ18 K320 K32b) {H : Heap} {locs : List Loc} {ls : Array Slot} (hH : xH E ad (xA ad s.heap.size) s.heap μ18 H locs) (hl : lv_has ls 2 [(0, .ref (ad q15)), (1, .int a16)]) (kK320 : ∀ (μ19 : xM), K320  μ19 → ∀ (H : Heap) (locs : List Loc) (ls : Array Slot), xH E ad (xA ad s.heap.size) s.heap μ19 H locs → lv_has ls 2 [(0, .ref (ad q15))] → W p l e (headSpec tX12_digest ({ frames := 6, cells := 0, slots := 0, locals := 240 } : Room)).room s m args below meth c H locs 0 0 Q (F0 m 67 ls [])) (kK32b : ∀ (a20 : Int32) (μ21 : xM), K32b a20 μ21 → ∀ (H : Heap) (locs : List Loc) (ls : Array Slot), xH E ad (xA ad s.heap.size) s.heap μ21 H locs → lv_has ls 2 [(0, .ref (ad q15)), (1, .int a20)] → W p l e (headSpec tX12_digest ({ frames := 6, cells := 0, slots := 0, locals := 240 } : Room)).room s m args below meth c H locs 0 0 Q (F0 m 32 ls [])) : W p l e (headSpec tX12_digest ({ frames := 6, cells := 0, slots := 0, locals := 240 } : Room)).room s m args below meth c H locs 0 0 Q (F0 m 32 ls []) := by
  obtain ⟨hx, hb, hml, hown, hts, hKn, hN, hlk⟩ := id G
  unfold B_X12_digest_32 at hq
  refine lv_iload_n hx hb dX12_digest_32 rfl (lv_at hl 1 rfl) ?_
  refine lv_bipush (v := (8 : Int32)) hx hb dX12_digest_33 (by decide) ?_
  refine lv_aload_n hx hb dX12_digest_35 rfl (lv_at hl 0 rfl) ?_
  refine x_get (j := 0) (C := RX12) (T := TX12) (N := 24) (v := .ref (ad (rt q15 0))) G hH hk_q15 (by decide) rfl inlX12 (by decide) (wm_6 _ (List.mem_of_getElem? (i := 18) rfl)) rfl dX12_digest_36 ?_
  refine lv_iconst (v := (0 : Int32)) hx hb dX12_digest_39 (by decide) ?_
  refine x_iald G hH (kt_10_0 _ hk_q15) hq.1 dX12_digest_40 ?_
  have hq := hq.2
  refine lv_imul hx hb dX12_digest_41 ?_
  refine lv_icmp_ge (tgt := 67) hx hb dX12_digest_42 (by decide) (fun c22 => ?_) (fun c22 => ?_)
  · have hq := hq.1 c22
    exact kK320  μ18 hq _ _ _ hH (lv_sub hl [0] rfl)
  · have hq := hq.2 c22
    refine lv_aload_n hx hb dX12_digest_45 rfl (lv_at hl 0 rfl) ?_
    refine lv_aload_n hx hb dX12_digest_46 rfl (lv_at hl 0 rfl) ?_
    refine lv_iload_n hx hb dX12_digest_47 rfl (lv_at hl 1 rfl) ?_
    refine lv_bipush (v := (8 : Int32)) hx hb dX12_digest_48 (by decide) ?_
    refine lv_idiv hx hb dX12_digest_50 (by decide) ?_
    refine lv_iload_n hx hb dX12_digest_51 rfl (lv_at hl 1 rfl) ?_
    refine lv_bipush (v := (8 : Int32)) hx hb dX12_digest_52 (by decide) ?_
    refine lv_irem hx hb dX12_digest_54 (by decide) ?_
    refine x_cVi (C := RX12) (T := TX12) (N := 24) (As := [.int (a16 / (8 : Int32)), .int (a16 - a16 / (8 : Int32) * (8 : Int32))]) (rest := [.ref (ad q15)]) G hH hA (c_X12_ofAll l E ad μ18 q15 (a16 / (8 : Int32)) (a16 - a16 / (8 : Int32) * (8 : Int32)) hk_q15 _ hq) (wm_16 _ (List.mem_of_getElem? (i := 5) rfl)) mi_X12_ofAll ms_X12_ofAll mn_RX12 mc_X12_ofAll rfl md_X12_ofAll ⟨rfl, rfl, Nat.le_of_ble_eq_true rfl, Nat.le_of_ble_eq_true rfl⟩ hk_q15 (by decide) rfl rfl hl.1 rfl (Nat.le_of_ble_eq_true rfl) dX12_digest_55 ⟨Nat.zero_le _, Nat.zero_le _⟩ (fun r24 μ23 hq H locs hH => ?_)
    refine x_cVv (C := RX12) (T := TX12) (N := 24) (As := [.int r24]) (rest := []) G hH hA (c_X12_mix l E ad μ23 q15 r24 hk_q15 _ hq) (wm_37 _ (List.mem_of_getElem? (i := 18) rfl)) mi_X12_mix ms_X12_mix mn_RX12 mc_X12_mix rfl md_X12_mix ⟨rfl, rfl, Nat.le_of_ble_eq_true rfl, Nat.le_of_ble_eq_true rfl⟩ hk_q15 (by decide) rfl rfl hl.1 rfl (Nat.le_of_ble_eq_true rfl) dX12_digest_58 ⟨Nat.zero_le _, Nat.zero_le _⟩ (fun μ25 hq H locs hH => ?_)
    obtain ⟨v26, e_v26⟩ : ∃ y : Int32, y = (a16 + (1 : Int32)) := ⟨_, rfl⟩
    have hq := hq v26 e_v26
    refine lv_iinc (v := v26) (lv' := [(1, .int v26), (0, .ref (ad q15))]) hx hb dX12_digest_61 hl (k := 1) rfl (by rw [e_v26]; rfl) (by decide) rfl (fun ls hl => ?_)
    refine lv_goto (tgt := 32) hx hb dX12_digest_64 (by decide) ?_
    exact kK32b v26 μ25 hq _ _ _ hH (lv_sub hl [1, 0] rfl)
set_option maxRecDepth 100000 in
set_option maxHeartbeats 4000000 in
theorem w_X12_digest_32 {E : xE} {ad : Nat → Nat} {p : Program} {l : Launch} {e : Env} {s : State} {m : MethodId} {args : Array Value} {below : List Frame} {meth : Method} {c : Code} {Q : State → Prop} (G : xG E p s m args meth c cX12_digest 2 RX12) (hA : ∀ a, s.heap.size ≤ a → xA ad s.heap.size a) (q15 : Nat) (hk_q15 : kd q15 = 10) : ∀ (n : Nat) (a16 : Int32) (μ18 : xM) (K320 : xM → Prop) (hq : L_X12_digest_32 q15 n a16 μ18 K320) (H : Heap) (locs : List Loc) (ls : Array Slot) (hH : xH E ad (xA ad s.heap.size) s.heap μ18 H locs) (hl : lv_has ls 2 [(0, .ref (ad q15)), (1, .int a16)]) (kK320 : ∀ (μ19 : xM), K320  μ19 → ∀ (H : Heap) (locs : List Loc) (ls : Array Slot), xH E ad (xA ad s.heap.size) s.heap μ19 H locs → lv_has ls 2 [(0, .ref (ad q15))] → W p l e (headSpec tX12_digest ({ frames := 6, cells := 0, slots := 0, locals := 240 } : Room)).room s m args below meth c H locs 0 0 Q (F0 m 67 ls [])) , W p l e (headSpec tX12_digest ({ frames := 6, cells := 0, slots := 0, locals := 240 } : Room)).room s m args below meth c H locs 0 0 Q (F0 m 32 ls [])
  | 0, _, _, _, hq, _, _, _, _, _, _ => hq.elim
  | n + 1, a16, μ18, K320, hq, H, locs, ls, hH, hl, kK320 => wb_X12_digest_32 G hA q15 hk_q15 a16 μ18 K320 _ hq hH hl kK320 (fun x0 y hq H locs ls hH hl => w_X12_digest_32 G hA q15 hk_q15 n x0 y K320 hq H locs ls hH hl kK320)
set_option maxRecDepth 100000 in
set_option maxHeartbeats 4000000 in
theorem wb_X12_digest_69 {E : xE} {ad : Nat → Nat} {p : Program} {l : Launch} {e : Env} {s : State} {m : MethodId} {args : Array Value} {below : List Frame} {meth : Method} {c : Code} {Q : State → Prop} (G : xG E p s m args meth c cX12_digest 2 RX12) (hA : ∀ a, s.heap.size ≤ a → xA ad s.heap.size a) (q28 : Nat) (hk_q28 : kd q28 = 10) (a29 : Int32) (μ31 : xM) (K690 : xM → Prop) (K69b : Int32 → xM → Prop) (hq : B_X12_digest_69 q28 a29 μ31 K690 K69b) {H : Heap} {locs : List Loc} {ls : Array Slot} (hH : xH E ad (xA ad s.heap.size) s.heap μ31 H locs) (hl : lv_has ls 2 [(0, .ref (ad q28)), (1, .int a29)]) (kK690 : ∀ (μ32 : xM), K690  μ32 → ∀ (H : Heap) (locs : List Loc) (ls : Array Slot), xH E ad (xA ad s.heap.size) s.heap μ32 H locs → lv_has ls 2 [(0, .ref (ad q28))] → W p l e (headSpec tX12_digest ({ frames := 6, cells := 0, slots := 0, locals := 240 } : Room)).room s m args below meth c H locs 0 0 Q (F0 m 94 ls [])) (kK69b : ∀ (a33 : Int32) (μ34 : xM), K69b a33 μ34 → ∀ (H : Heap) (locs : List Loc) (ls : Array Slot), xH E ad (xA ad s.heap.size) s.heap μ34 H locs → lv_has ls 2 [(0, .ref (ad q28)), (1, .int a33)] → W p l e (headSpec tX12_digest ({ frames := 6, cells := 0, slots := 0, locals := 240 } : Room)).room s m args below meth c H locs 0 0 Q (F0 m 69 ls [])) : W p l e (headSpec tX12_digest ({ frames := 6, cells := 0, slots := 0, locals := 240 } : Room)).room s m args below meth c H locs 0 0 Q (F0 m 69 ls []) := by
  obtain ⟨hx, hb, hml, hown, hts, hKn, hN, hlk⟩ := id G
  unfold B_X12_digest_69 at hq
  refine lv_iload_n hx hb dX12_digest_69 rfl (lv_at hl 1 rfl) ?_
  refine lv_bipush (v := (16 : Int32)) hx hb dX12_digest_70 (by decide) ?_
  refine lv_icmp_ge (tgt := 94) hx hb dX12_digest_72 (by decide) (fun c35 => ?_) (fun c35 => ?_)
  · have hq := hq.1 c35
    exact kK690  μ31 hq _ _ _ hH (lv_sub hl [0] rfl)
  · have hq := hq.2 c35
    refine lv_aload_n hx hb dX12_digest_75 rfl (lv_at hl 0 rfl) ?_
    refine lv_aload_n hx hb dX12_digest_76 rfl (lv_at hl 0 rfl) ?_
    refine x_get (j := 0) (C := RX12) (T := TX12) (N := 24) (v := .ref (ad (rt q28 0))) G hH hk_q28 (by decide) rfl inlX12 (by decide) (wm_6 _ (List.mem_of_getElem? (i := 18) rfl)) rfl dX12_digest_77 ?_
    refine lv_bipush (v := (43 : Int32)) hx hb dX12_digest_80 (by decide) ?_
    refine lv_iload_n hx hb dX12_digest_82 rfl (lv_at hl 1 rfl) ?_
    refine lv_iadd hx hb dX12_digest_83 ?_
    refine x_iald G hH (kt_10_0 _ hk_q28) hq.1 dX12_digest_84 ?_
    have hq := hq.2
    refine x_cVv (C := RX12) (T := TX12) (N := 24) (As := [.int (μ31.1 (rt q28 0) ((43 : Int32) + a29).toNatClampNeg)]) (rest := []) G hH hA (c_X12_mix l E ad μ31 q28 (μ31.1 (rt q28 0) ((43 : Int32) + a29).toNatClampNeg) hk_q28 _ hq) (wm_37 _ (List.mem_of_getElem? (i := 18) rfl)) mi_X12_mix ms_X12_mix mn_RX12 mc_X12_mix rfl md_X12_mix ⟨rfl, rfl, Nat.le_of_ble_eq_true rfl, Nat.le_of_ble_eq_true rfl⟩ hk_q28 (by decide) rfl rfl hl.1 rfl (Nat.le_of_ble_eq_true rfl) dX12_digest_85 ⟨Nat.zero_le _, Nat.zero_le _⟩ (fun μ36 hq H locs hH => ?_)
    obtain ⟨v37, e_v37⟩ : ∃ y : Int32, y = (a29 + (1 : Int32)) := ⟨_, rfl⟩
    have hq := hq v37 e_v37
    refine lv_iinc (v := v37) (lv' := [(1, .int v37), (0, .ref (ad q28))]) hx hb dX12_digest_88 hl (k := 1) rfl (by rw [e_v37]; rfl) (by decide) rfl (fun ls hl => ?_)
    refine lv_goto (tgt := 69) hx hb dX12_digest_91 (by decide) ?_
    exact kK69b v37 μ36 hq _ _ _ hH (lv_sub hl [1, 0] rfl)
set_option maxRecDepth 100000 in
set_option maxHeartbeats 4000000 in
theorem w_X12_digest_69 {E : xE} {ad : Nat → Nat} {p : Program} {l : Launch} {e : Env} {s : State} {m : MethodId} {args : Array Value} {below : List Frame} {meth : Method} {c : Code} {Q : State → Prop} (G : xG E p s m args meth c cX12_digest 2 RX12) (hA : ∀ a, s.heap.size ≤ a → xA ad s.heap.size a) (q28 : Nat) (hk_q28 : kd q28 = 10) : ∀ (n : Nat) (a29 : Int32) (μ31 : xM) (K690 : xM → Prop) (hq : L_X12_digest_69 q28 n a29 μ31 K690) (H : Heap) (locs : List Loc) (ls : Array Slot) (hH : xH E ad (xA ad s.heap.size) s.heap μ31 H locs) (hl : lv_has ls 2 [(0, .ref (ad q28)), (1, .int a29)]) (kK690 : ∀ (μ32 : xM), K690  μ32 → ∀ (H : Heap) (locs : List Loc) (ls : Array Slot), xH E ad (xA ad s.heap.size) s.heap μ32 H locs → lv_has ls 2 [(0, .ref (ad q28))] → W p l e (headSpec tX12_digest ({ frames := 6, cells := 0, slots := 0, locals := 240 } : Room)).room s m args below meth c H locs 0 0 Q (F0 m 94 ls [])) , W p l e (headSpec tX12_digest ({ frames := 6, cells := 0, slots := 0, locals := 240 } : Room)).room s m args below meth c H locs 0 0 Q (F0 m 69 ls [])
  | 0, _, _, _, hq, _, _, _, _, _, _ => hq.elim
  | n + 1, a29, μ31, K690, hq, H, locs, ls, hH, hl, kK690 => wb_X12_digest_69 G hA q28 hk_q28 a29 μ31 K690 _ hq hH hl kK690 (fun x0 y hq H locs ls hH hl => w_X12_digest_69 G hA q28 hk_q28 n x0 y K690 hq H locs ls hH hl kK690)
set_option maxRecDepth 100000 in
set_option maxHeartbeats 4000000 in
theorem wb_X12_digest_104 {E : xE} {ad : Nat → Nat} {p : Program} {l : Launch} {e : Env} {s : State} {m : MethodId} {args : Array Value} {below : List Frame} {meth : Method} {c : Code} {Q : State → Prop} (G : xG E p s m args meth c cX12_digest 2 RX12) (hA : ∀ a, s.heap.size ≤ a → xA ad s.heap.size a) (q42 : Nat) (hk_q42 : kd q42 = 10) (a43 : Int32) (μ45 : xM) (K1040 : xM → Prop) (K104b : Int32 → xM → Prop) (hq : B_X12_digest_104 q42 a43 μ45 K1040 K104b) {H : Heap} {locs : List Loc} {ls : Array Slot} (hH : xH E ad (xA ad s.heap.size) s.heap μ45 H locs) (hl : lv_has ls 2 [(0, .ref (ad q42)), (1, .int a43)]) (kK1040 : ∀ (μ46 : xM), K1040  μ46 → ∀ (H : Heap) (locs : List Loc) (ls : Array Slot), xH E ad (xA ad s.heap.size) s.heap μ46 H locs → lv_has ls 2 [(0, .ref (ad q42))] → W p l e (headSpec tX12_digest ({ frames := 6, cells := 0, slots := 0, locals := 240 } : Room)).room s m args below meth c H locs 0 0 Q (F0 m 125 ls [])) (kK104b : ∀ (a47 : Int32) (μ48 : xM), K104b a47 μ48 → ∀ (H : Heap) (locs : List Loc) (ls : Array Slot), xH E ad (xA ad s.heap.size) s.heap μ48 H locs → lv_has ls 2 [(0, .ref (ad q42)), (1, .int a47)] → W p l e (headSpec tX12_digest ({ frames := 6, cells := 0, slots := 0, locals := 240 } : Room)).room s m args below meth c H locs 0 0 Q (F0 m 104 ls [])) : W p l e (headSpec tX12_digest ({ frames := 6, cells := 0, slots := 0, locals := 240 } : Room)).room s m args below meth c H locs 0 0 Q (F0 m 104 ls []) := by
  obtain ⟨hx, hb, hml, hown, hts, hKn, hN, hlk⟩ := id G
  unfold B_X12_digest_104 at hq
  refine lv_iload_n hx hb dX12_digest_104 rfl (lv_at hl 1 rfl) ?_
  refine lv_bipush (v := (7 : Int32)) hx hb dX12_digest_105 (by decide) ?_
  refine lv_icmp_ge (tgt := 125) hx hb dX12_digest_107 (by decide) (fun c49 => ?_) (fun c49 => ?_)
  · have hq := hq.1 c49
    exact kK1040  μ45 hq _ _ _ hH (lv_sub hl [0] rfl)
  · have hq := hq.2 c49
    refine lv_aload_n hx hb dX12_digest_110 rfl (lv_at hl 0 rfl) ?_
    refine lv_aload_n hx hb dX12_digest_111 rfl (lv_at hl 0 rfl) ?_
    refine lv_iload_n hx hb dX12_digest_112 rfl (lv_at hl 1 rfl) ?_
    refine x_cVi (C := RX12) (T := TX12) (N := 24) (As := [.int a43]) (rest := [.ref (ad q42)]) G hH hA (c_X12_ofHand l E ad μ45 q42 a43 hk_q42 _ hq) (wm_30 _ (List.mem_of_getElem? (i := 11) rfl)) mi_X12_ofHand ms_X12_ofHand mn_RX12 mc_X12_ofHand rfl md_X12_ofHand ⟨rfl, rfl, Nat.le_of_ble_eq_true rfl, Nat.le_of_ble_eq_true rfl⟩ hk_q42 (by decide) rfl rfl hl.1 rfl (Nat.le_of_ble_eq_true rfl) dX12_digest_113 ⟨Nat.zero_le _, Nat.zero_le _⟩ (fun r51 μ50 hq H locs hH => ?_)
    refine x_cVv (C := RX12) (T := TX12) (N := 24) (As := [.int r51]) (rest := []) G hH hA (c_X12_mix l E ad μ50 q42 r51 hk_q42 _ hq) (wm_37 _ (List.mem_of_getElem? (i := 18) rfl)) mi_X12_mix ms_X12_mix mn_RX12 mc_X12_mix rfl md_X12_mix ⟨rfl, rfl, Nat.le_of_ble_eq_true rfl, Nat.le_of_ble_eq_true rfl⟩ hk_q42 (by decide) rfl rfl hl.1 rfl (Nat.le_of_ble_eq_true rfl) dX12_digest_116 ⟨Nat.zero_le _, Nat.zero_le _⟩ (fun μ52 hq H locs hH => ?_)
    obtain ⟨v53, e_v53⟩ : ∃ y : Int32, y = (a43 + (1 : Int32)) := ⟨_, rfl⟩
    have hq := hq v53 e_v53
    refine lv_iinc (v := v53) (lv' := [(1, .int v53), (0, .ref (ad q42))]) hx hb dX12_digest_119 hl (k := 1) rfl (by rw [e_v53]; rfl) (by decide) rfl (fun ls hl => ?_)
    refine lv_goto (tgt := 104) hx hb dX12_digest_122 (by decide) ?_
    exact kK104b v53 μ52 hq _ _ _ hH (lv_sub hl [1, 0] rfl)
set_option maxRecDepth 100000 in
set_option maxHeartbeats 4000000 in
theorem w_X12_digest_104 {E : xE} {ad : Nat → Nat} {p : Program} {l : Launch} {e : Env} {s : State} {m : MethodId} {args : Array Value} {below : List Frame} {meth : Method} {c : Code} {Q : State → Prop} (G : xG E p s m args meth c cX12_digest 2 RX12) (hA : ∀ a, s.heap.size ≤ a → xA ad s.heap.size a) (q42 : Nat) (hk_q42 : kd q42 = 10) : ∀ (n : Nat) (a43 : Int32) (μ45 : xM) (K1040 : xM → Prop) (hq : L_X12_digest_104 q42 n a43 μ45 K1040) (H : Heap) (locs : List Loc) (ls : Array Slot) (hH : xH E ad (xA ad s.heap.size) s.heap μ45 H locs) (hl : lv_has ls 2 [(0, .ref (ad q42)), (1, .int a43)]) (kK1040 : ∀ (μ46 : xM), K1040  μ46 → ∀ (H : Heap) (locs : List Loc) (ls : Array Slot), xH E ad (xA ad s.heap.size) s.heap μ46 H locs → lv_has ls 2 [(0, .ref (ad q42))] → W p l e (headSpec tX12_digest ({ frames := 6, cells := 0, slots := 0, locals := 240 } : Room)).room s m args below meth c H locs 0 0 Q (F0 m 125 ls [])) , W p l e (headSpec tX12_digest ({ frames := 6, cells := 0, slots := 0, locals := 240 } : Room)).room s m args below meth c H locs 0 0 Q (F0 m 104 ls [])
  | 0, _, _, _, hq, _, _, _, _, _, _ => hq.elim
  | n + 1, a43, μ45, K1040, hq, H, locs, ls, hH, hl, kK1040 => wb_X12_digest_104 G hA q42 hk_q42 a43 μ45 K1040 _ hq hH hl kK1040 (fun x0 y hq H locs ls hH hl => w_X12_digest_104 G hA q42 hk_q42 n x0 y K1040 hq H locs ls hH hl kK1040)
set_option maxRecDepth 100000 in
set_option maxHeartbeats 4000000 in
theorem wb_X12_digest_127 {E : xE} {ad : Nat → Nat} {p : Program} {l : Launch} {e : Env} {s : State} {m : MethodId} {args : Array Value} {below : List Frame} {meth : Method} {c : Code} {Q : State → Prop} (G : xG E p s m args meth c cX12_digest 2 RX12) (hA : ∀ a, s.heap.size ≤ a → xA ad s.heap.size a) (q55 : Nat) (hk_q55 : kd q55 = 10) (a56 : Int32) (μ58 : xM) (K1270 : xM → Prop) (K127b : Int32 → xM → Prop) (hq : B_X12_digest_127 q55 a56 μ58 K1270 K127b) {H : Heap} {locs : List Loc} {ls : Array Slot} (hH : xH E ad (xA ad s.heap.size) s.heap μ58 H locs) (hl : lv_has ls 2 [(0, .ref (ad q55)), (1, .int a56)]) (kK1270 : ∀ (μ59 : xM), K1270  μ59 → ∀ (H : Heap) (locs : List Loc) (ls : Array Slot), xH E ad (xA ad s.heap.size) s.heap μ59 H locs → lv_has ls 2 [(0, .ref (ad q55))] → W p l e (headSpec tX12_digest ({ frames := 6, cells := 0, slots := 0, locals := 240 } : Room)).room s m args below meth c H locs 0 0 Q (F0 m 153 ls [])) (kK127b : ∀ (a60 : Int32) (μ61 : xM), K127b a60 μ61 → ∀ (H : Heap) (locs : List Loc) (ls : Array Slot), xH E ad (xA ad s.heap.size) s.heap μ61 H locs → lv_has ls 2 [(0, .ref (ad q55)), (1, .int a60)] → W p l e (headSpec tX12_digest ({ frames := 6, cells := 0, slots := 0, locals := 240 } : Room)).room s m args below meth c H locs 0 0 Q (F0 m 127 ls [])) : W p l e (headSpec tX12_digest ({ frames := 6, cells := 0, slots := 0, locals := 240 } : Room)).room s m args below meth c H locs 0 0 Q (F0 m 127 ls []) := by
  obtain ⟨hx, hb, hml, hown, hts, hKn, hN, hlk⟩ := id G
  unfold B_X12_digest_127 at hq
  refine lv_iload_n hx hb dX12_digest_127 rfl (lv_at hl 1 rfl) ?_
  refine lv_bipush (v := (64 : Int32)) hx hb dX12_digest_128 (by decide) ?_
  refine lv_icmp_ge (tgt := 153) hx hb dX12_digest_130 (by decide) (fun c62 => ?_) (fun c62 => ?_)
  · have hq := hq.1 c62
    exact kK1270  μ58 hq _ _ _ hH (lv_sub hl [0] rfl)
  · have hq := hq.2 c62
    refine lv_aload_n hx hb dX12_digest_133 rfl (lv_at hl 0 rfl) ?_
    refine lv_aload_n hx hb dX12_digest_134 rfl (lv_at hl 0 rfl) ?_
    refine lv_iload_n hx hb dX12_digest_135 rfl (lv_at hl 1 rfl) ?_
    refine lv_iconst (v := (4 : Int32)) hx hb dX12_digest_136 (by decide) ?_
    refine lv_idiv hx hb dX12_digest_137 (by decide) ?_
    refine lv_iload_n hx hb dX12_digest_138 rfl (lv_at hl 1 rfl) ?_
    refine lv_iconst (v := (4 : Int32)) hx hb dX12_digest_139 (by decide) ?_
    refine lv_irem hx hb dX12_digest_140 (by decide) ?_
    refine x_cVi (C := RX12) (T := TX12) (N := 24) (As := [.int (a56 / (4 : Int32)), .int (a56 - a56 / (4 : Int32) * (4 : Int32))]) (rest := [.ref (ad q55)]) G hH hA (c_X12_ofCell l E ad μ58 q55 (a56 / (4 : Int32)) (a56 - a56 / (4 : Int32) * (4 : Int32)) hk_q55 _ hq) (wm_29 _ (List.mem_of_getElem? (i := 9) rfl)) mi_X12_ofCell ms_X12_ofCell mn_RX12 mc_X12_ofCell rfl md_X12_ofCell ⟨rfl, rfl, Nat.le_of_ble_eq_true rfl, Nat.le_of_ble_eq_true rfl⟩ hk_q55 (by decide) rfl rfl hl.1 rfl (Nat.le_of_ble_eq_true rfl) dX12_digest_141 ⟨Nat.zero_le _, Nat.zero_le _⟩ (fun r64 μ63 hq H locs hH => ?_)
    refine x_cVv (C := RX12) (T := TX12) (N := 24) (As := [.int r64]) (rest := []) G hH hA (c_X12_mix l E ad μ63 q55 r64 hk_q55 _ hq) (wm_37 _ (List.mem_of_getElem? (i := 18) rfl)) mi_X12_mix ms_X12_mix mn_RX12 mc_X12_mix rfl md_X12_mix ⟨rfl, rfl, Nat.le_of_ble_eq_true rfl, Nat.le_of_ble_eq_true rfl⟩ hk_q55 (by decide) rfl rfl hl.1 rfl (Nat.le_of_ble_eq_true rfl) dX12_digest_144 ⟨Nat.zero_le _, Nat.zero_le _⟩ (fun μ65 hq H locs hH => ?_)
    obtain ⟨v66, e_v66⟩ : ∃ y : Int32, y = (a56 + (1 : Int32)) := ⟨_, rfl⟩
    have hq := hq v66 e_v66
    refine lv_iinc (v := v66) (lv' := [(1, .int v66), (0, .ref (ad q55))]) hx hb dX12_digest_147 hl (k := 1) rfl (by rw [e_v66]; rfl) (by decide) rfl (fun ls hl => ?_)
    refine lv_goto (tgt := 127) hx hb dX12_digest_150 (by decide) ?_
    exact kK127b v66 μ65 hq _ _ _ hH (lv_sub hl [1, 0] rfl)
set_option maxRecDepth 100000 in
set_option maxHeartbeats 4000000 in
theorem w_X12_digest_127 {E : xE} {ad : Nat → Nat} {p : Program} {l : Launch} {e : Env} {s : State} {m : MethodId} {args : Array Value} {below : List Frame} {meth : Method} {c : Code} {Q : State → Prop} (G : xG E p s m args meth c cX12_digest 2 RX12) (hA : ∀ a, s.heap.size ≤ a → xA ad s.heap.size a) (q55 : Nat) (hk_q55 : kd q55 = 10) : ∀ (n : Nat) (a56 : Int32) (μ58 : xM) (K1270 : xM → Prop) (hq : L_X12_digest_127 q55 n a56 μ58 K1270) (H : Heap) (locs : List Loc) (ls : Array Slot) (hH : xH E ad (xA ad s.heap.size) s.heap μ58 H locs) (hl : lv_has ls 2 [(0, .ref (ad q55)), (1, .int a56)]) (kK1270 : ∀ (μ59 : xM), K1270  μ59 → ∀ (H : Heap) (locs : List Loc) (ls : Array Slot), xH E ad (xA ad s.heap.size) s.heap μ59 H locs → lv_has ls 2 [(0, .ref (ad q55))] → W p l e (headSpec tX12_digest ({ frames := 6, cells := 0, slots := 0, locals := 240 } : Room)).room s m args below meth c H locs 0 0 Q (F0 m 153 ls [])) , W p l e (headSpec tX12_digest ({ frames := 6, cells := 0, slots := 0, locals := 240 } : Room)).room s m args below meth c H locs 0 0 Q (F0 m 127 ls [])
  | 0, _, _, _, hq, _, _, _, _, _, _ => hq.elim
  | n + 1, a56, μ58, K1270, hq, H, locs, ls, hH, hl, kK1270 => wb_X12_digest_127 G hA q55 hk_q55 a56 μ58 K1270 _ hq hH hl kK1270 (fun x0 y hq H locs ls hH hl => w_X12_digest_127 G hA q55 hk_q55 n x0 y K1270 hq H locs ls hH hl kK1270)
set_option maxRecDepth 100000 in
set_option maxHeartbeats 4000000 in
theorem wb_X12_digest_155 {E : xE} {ad : Nat → Nat} {p : Program} {l : Launch} {e : Env} {s : State} {m : MethodId} {args : Array Value} {below : List Frame} {meth : Method} {c : Code} {Q : State → Prop} (G : xG E p s m args meth c cX12_digest 2 RX12) (hA : ∀ a, s.heap.size ≤ a → xA ad s.heap.size a) (q68 : Nat) (hk_q68 : kd q68 = 10) (a69 : Int32) (μ71 : xM) (K1550 : xM → Prop) (K155b : Int32 → xM → Prop) (hq : B_X12_digest_155 q68 a69 μ71 K1550 K155b) {H : Heap} {locs : List Loc} {ls : Array Slot} (hH : xH E ad (xA ad s.heap.size) s.heap μ71 H locs) (hl : lv_has ls 2 [(0, .ref (ad q68)), (1, .int a69)]) (kK1550 : ∀ (μ72 : xM), K1550  μ72 → ∀ (H : Heap) (locs : List Loc) (ls : Array Slot), xH E ad (xA ad s.heap.size) s.heap μ72 H locs → lv_has ls 2 [(0, .ref (ad q68))] → W p l e (headSpec tX12_digest ({ frames := 6, cells := 0, slots := 0, locals := 240 } : Room)).room s m args below meth c H locs 0 0 Q (F0 m 187 ls [])) (kK155b : ∀ (a73 : Int32) (μ74 : xM), K155b a73 μ74 → ∀ (H : Heap) (locs : List Loc) (ls : Array Slot), xH E ad (xA ad s.heap.size) s.heap μ74 H locs → lv_has ls 2 [(0, .ref (ad q68)), (1, .int a73)] → W p l e (headSpec tX12_digest ({ frames := 6, cells := 0, slots := 0, locals := 240 } : Room)).room s m args below meth c H locs 0 0 Q (F0 m 155 ls [])) : W p l e (headSpec tX12_digest ({ frames := 6, cells := 0, slots := 0, locals := 240 } : Room)).room s m args below meth c H locs 0 0 Q (F0 m 155 ls []) := by
  obtain ⟨hx, hb, hml, hown, hts, hKn, hN, hlk⟩ := id G
  unfold B_X12_digest_155 at hq
  refine lv_iload_n hx hb dX12_digest_155 rfl (lv_at hl 1 rfl) ?_
  refine lv_iconst (v := (3 : Int32)) hx hb dX12_digest_156 (by decide) ?_
  refine lv_aload_n hx hb dX12_digest_157 rfl (lv_at hl 0 rfl) ?_
  refine x_get (j := 0) (C := RX12) (T := TX12) (N := 24) (v := .ref (ad (rt q68 0))) G hH hk_q68 (by decide) rfl inlX12 (by decide) (wm_6 _ (List.mem_of_getElem? (i := 18) rfl)) rfl dX12_digest_158 ?_
  refine lv_bipush (v := (93 : Int32)) hx hb dX12_digest_161 (by decide) ?_
  refine x_iald G hH (kt_10_0 _ hk_q68) hq.1 dX12_digest_163 ?_
  have hq := hq.2
  refine lv_imul hx hb dX12_digest_164 ?_
  refine lv_icmp_ge (tgt := 187) hx hb dX12_digest_165 (by decide) (fun c75 => ?_) (fun c75 => ?_)
  · have hq := hq.1 c75
    exact kK1550  μ71 hq _ _ _ hH (lv_sub hl [0] rfl)
  · have hq := hq.2 c75
    refine lv_aload_n hx hb dX12_digest_168 rfl (lv_at hl 0 rfl) ?_
    refine lv_aload_n hx hb dX12_digest_169 rfl (lv_at hl 0 rfl) ?_
    refine x_get (j := 0) (C := RX12) (T := TX12) (N := 24) (v := .ref (ad (rt q68 0))) G hH hk_q68 (by decide) rfl inlX12 (by decide) (wm_6 _ (List.mem_of_getElem? (i := 18) rfl)) rfl dX12_digest_170 ?_
    refine lv_bipush (v := (95 : Int32)) hx hb dX12_digest_173 (by decide) ?_
    refine lv_iload_n hx hb dX12_digest_175 rfl (lv_at hl 1 rfl) ?_
    refine lv_iadd hx hb dX12_digest_176 ?_
    refine x_iald G hH (kt_10_0 _ hk_q68) hq.1 dX12_digest_177 ?_
    have hq := hq.2
    refine x_cVv (C := RX12) (T := TX12) (N := 24) (As := [.int (μ71.1 (rt q68 0) ((95 : Int32) + a69).toNatClampNeg)]) (rest := []) G hH hA (c_X12_mix l E ad μ71 q68 (μ71.1 (rt q68 0) ((95 : Int32) + a69).toNatClampNeg) hk_q68 _ hq) (wm_37 _ (List.mem_of_getElem? (i := 18) rfl)) mi_X12_mix ms_X12_mix mn_RX12 mc_X12_mix rfl md_X12_mix ⟨rfl, rfl, Nat.le_of_ble_eq_true rfl, Nat.le_of_ble_eq_true rfl⟩ hk_q68 (by decide) rfl rfl hl.1 rfl (Nat.le_of_ble_eq_true rfl) dX12_digest_178 ⟨Nat.zero_le _, Nat.zero_le _⟩ (fun μ76 hq H locs hH => ?_)
    obtain ⟨v77, e_v77⟩ : ∃ y : Int32, y = (a69 + (1 : Int32)) := ⟨_, rfl⟩
    have hq := hq v77 e_v77
    refine lv_iinc (v := v77) (lv' := [(1, .int v77), (0, .ref (ad q68))]) hx hb dX12_digest_181 hl (k := 1) rfl (by rw [e_v77]; rfl) (by decide) rfl (fun ls hl => ?_)
    refine lv_goto (tgt := 155) hx hb dX12_digest_184 (by decide) ?_
    exact kK155b v77 μ76 hq _ _ _ hH (lv_sub hl [1, 0] rfl)
set_option maxRecDepth 100000 in
set_option maxHeartbeats 4000000 in
theorem w_X12_digest_155 {E : xE} {ad : Nat → Nat} {p : Program} {l : Launch} {e : Env} {s : State} {m : MethodId} {args : Array Value} {below : List Frame} {meth : Method} {c : Code} {Q : State → Prop} (G : xG E p s m args meth c cX12_digest 2 RX12) (hA : ∀ a, s.heap.size ≤ a → xA ad s.heap.size a) (q68 : Nat) (hk_q68 : kd q68 = 10) : ∀ (n : Nat) (a69 : Int32) (μ71 : xM) (K1550 : xM → Prop) (hq : L_X12_digest_155 q68 n a69 μ71 K1550) (H : Heap) (locs : List Loc) (ls : Array Slot) (hH : xH E ad (xA ad s.heap.size) s.heap μ71 H locs) (hl : lv_has ls 2 [(0, .ref (ad q68)), (1, .int a69)]) (kK1550 : ∀ (μ72 : xM), K1550  μ72 → ∀ (H : Heap) (locs : List Loc) (ls : Array Slot), xH E ad (xA ad s.heap.size) s.heap μ72 H locs → lv_has ls 2 [(0, .ref (ad q68))] → W p l e (headSpec tX12_digest ({ frames := 6, cells := 0, slots := 0, locals := 240 } : Room)).room s m args below meth c H locs 0 0 Q (F0 m 187 ls [])) , W p l e (headSpec tX12_digest ({ frames := 6, cells := 0, slots := 0, locals := 240 } : Room)).room s m args below meth c H locs 0 0 Q (F0 m 155 ls [])
  | 0, _, _, _, hq, _, _, _, _, _, _ => hq.elim
  | n + 1, a69, μ71, K1550, hq, H, locs, ls, hH, hl, kK1550 => wb_X12_digest_155 G hA q68 hk_q68 a69 μ71 K1550 _ hq hH hl kK1550 (fun x0 y hq H locs ls hH hl => w_X12_digest_155 G hA q68 hk_q68 n x0 y K1550 hq H locs ls hH hl kK1550)
set_option maxRecDepth 100000 in
set_option maxHeartbeats 4000000 in
theorem c_X12_digest (l : Launch) (E : xE) (ad : Nat → Nat) (μ : xM) (q0 : Nat) (hk_q0 : kd q0 = 10) (Qm : Int64 → xM → Prop) (hq : p_X12_digest q0 μ Qm) : xMl l yX12_digest tX12_digest ({ frames := 6, cells := 0, slots := 0, locals := 240 } : Room) E ad μ [.ref (ad q0)] Qm := by
  refine x_stl (cc := cX12_digest) (maxL := 2) (ret := (some .long)) (own := RX12) rfl (by decide) rfl (Nat.le_of_ble_eq_true rfl) ?_
  intro p e s m args below meth c ls G hr hA hH hl
  obtain ⟨hx, hb, hml, hown, hts, hKn, hN, hlk⟩ := id G
  have hl : lv_has ls 2 [(0, .ref (ad q0))] := hl
  have hH : xH E ad (xA ad s.heap.size) s.heap μ s.heap [] := hH
  unfold p_X12_digest at hq
  refine lv_aload_n hx hb dX12_digest_0 rfl (lv_at hl 0 rfl) ?_
  refine lv_ldc2 hx hb hown (hts _ (wm_37 _ (List.mem_of_getElem? (i := 16) rfl))) dX12_digest_1 ?_
  refine x_putl (j := 23) (C := RX12) (T := TX12) (N := 24) G hH hk_q0 (by decide) rfl inlX12 tyX12 tyX12_ok nmX12 (by decide) (wm_37 _ (List.mem_of_getElem? (i := 17) rfl)) rfl (by decide +kernel) (fun _ _ => Nat.le_of_ble_eq_true rfl) (fun _ _ => rfl) dX12_digest_4 (fun μ1 e_μ1 H locs hH => ?_)
  have hq := hq μ1 e_μ1
  refine lv_iconst (v := (0 : Int32)) hx hb dX12_digest_7 (by decide) ?_
  refine lv_istore_n (lv' := [(1, .int (0 : Int32)), (0, .ref (ad q0))]) hx hb dX12_digest_8 rfl hl (by decide) rfl (fun ls hl => ?_)
  obtain ⟨n4, hq⟩ := hq
  refine w_X12_digest_9 G hA q0 hk_q0 n4 (0 : Int32) μ1 _ hq _ _ _ hH (lv_sub hl [1, 0] rfl) (fun  μ14 hq H locs ls hH hl => ?_)
  refine lv_iconst (v := (0 : Int32)) hx hb dX12_digest_30 (by decide) ?_
  refine lv_istore_n (lv' := [(1, .int (0 : Int32)), (0, .ref (ad q0))]) hx hb dX12_digest_31 rfl hl (by decide) rfl (fun ls hl => ?_)
  obtain ⟨n17, hq⟩ := hq
  refine w_X12_digest_32 G hA q0 hk_q0 n17 (0 : Int32) μ14 _ hq _ _ _ hH (lv_sub hl [1, 0] rfl) (fun  μ27 hq H locs ls hH hl => ?_)
  refine lv_iconst (v := (0 : Int32)) hx hb dX12_digest_67 (by decide) ?_
  refine lv_istore_n (lv' := [(1, .int (0 : Int32)), (0, .ref (ad q0))]) hx hb dX12_digest_68 rfl hl (by decide) rfl (fun ls hl => ?_)
  obtain ⟨n30, hq⟩ := hq
  refine w_X12_digest_69 G hA q0 hk_q0 n30 (0 : Int32) μ27 _ hq _ _ _ hH (lv_sub hl [1, 0] rfl) (fun  μ38 hq H locs ls hH hl => ?_)
  refine lv_aload_n hx hb dX12_digest_94 rfl (lv_at hl 0 rfl) ?_
  refine lv_aload_n hx hb dX12_digest_95 rfl (lv_at hl 0 rfl) ?_
  refine x_cVi (C := RX12) (T := TX12) (N := 24) (As := []) (rest := [.ref (ad q0)]) G hH hA (c_X12_lawful l E ad μ38 q0 hk_q0 _ hq) (wm_37 _ (List.mem_of_getElem? (i := 23) rfl)) mi_X12_lawful ms_X12_lawful mn_RX12 mc_X12_lawful rfl md_X12_lawful ⟨rfl, rfl, Nat.le_of_ble_eq_true rfl, Nat.le_of_ble_eq_true rfl⟩ hk_q0 (by decide) rfl rfl hl.1 rfl (Nat.le_of_ble_eq_true rfl) dX12_digest_96 ⟨Nat.zero_le _, Nat.zero_le _⟩ (fun r40 μ39 hq H locs hH => ?_)
  refine x_cVv (C := RX12) (T := TX12) (N := 24) (As := [.int r40]) (rest := []) G hH hA (c_X12_mix l E ad μ39 q0 r40 hk_q0 _ hq) (wm_37 _ (List.mem_of_getElem? (i := 18) rfl)) mi_X12_mix ms_X12_mix mn_RX12 mc_X12_mix rfl md_X12_mix ⟨rfl, rfl, Nat.le_of_ble_eq_true rfl, Nat.le_of_ble_eq_true rfl⟩ hk_q0 (by decide) rfl rfl hl.1 rfl (Nat.le_of_ble_eq_true rfl) dX12_digest_99 ⟨Nat.zero_le _, Nat.zero_le _⟩ (fun μ41 hq H locs hH => ?_)
  refine lv_iconst (v := (0 : Int32)) hx hb dX12_digest_102 (by decide) ?_
  refine lv_istore_n (lv' := [(1, .int (0 : Int32)), (0, .ref (ad q0))]) hx hb dX12_digest_103 rfl hl (by decide) rfl (fun ls hl => ?_)
  obtain ⟨n44, hq⟩ := hq
  refine w_X12_digest_104 G hA q0 hk_q0 n44 (0 : Int32) μ41 _ hq _ _ _ hH (lv_sub hl [1, 0] rfl) (fun  μ54 hq H locs ls hH hl => ?_)
  refine lv_iconst (v := (0 : Int32)) hx hb dX12_digest_125 (by decide) ?_
  refine lv_istore_n (lv' := [(1, .int (0 : Int32)), (0, .ref (ad q0))]) hx hb dX12_digest_126 rfl hl (by decide) rfl (fun ls hl => ?_)
  obtain ⟨n57, hq⟩ := hq
  refine w_X12_digest_127 G hA q0 hk_q0 n57 (0 : Int32) μ54 _ hq _ _ _ hH (lv_sub hl [1, 0] rfl) (fun  μ67 hq H locs ls hH hl => ?_)
  refine lv_iconst (v := (0 : Int32)) hx hb dX12_digest_153 (by decide) ?_
  refine lv_istore_n (lv' := [(1, .int (0 : Int32)), (0, .ref (ad q0))]) hx hb dX12_digest_154 rfl hl (by decide) rfl (fun ls hl => ?_)
  obtain ⟨n70, hq⟩ := hq
  refine w_X12_digest_155 G hA q0 hk_q0 n70 (0 : Int32) μ67 _ hq _ _ _ hH (lv_sub hl [1, 0] rfl) (fun  μ78 hq H locs ls hH hl => ?_)
  refine lv_aload_n hx hb dX12_digest_187 rfl (lv_at hl 0 rfl) ?_
  refine x_get (j := 23) (C := RX12) (T := TX12) (N := 24) (v := .long (μ78.2 q0 23)) G hH hk_q0 (by decide) rfl inlX12 (by decide) (wm_37 _ (List.mem_of_getElem? (i := 17) rfl)) rfl dX12_digest_188 ?_
  exact x_lret G hr hH hq dX12_digest_191
abbrev tX12_giveSheet : List Cond := Cond.code yX12_giveSheet cX12_giveSheet 2 none :: wsL_law
theorem mi_X12_giveSheet : Cond.instanceMethod yX12_giveSheet ∈ wsL_law := (wm_27 _ (List.mem_of_getElem? (i := 17) rfl))
theorem ms_X12_giveSheet : Cond.selects RX12 yX12_giveSheet yX12_giveSheet ∈ wsL_law := (wm_27 _ (List.mem_of_getElem? (i := 18) rfl))
theorem mc_X12_giveSheet : Cond.code yX12_giveSheet cX12_giveSheet 2 none ∈ wsL_law := (wm_27 _ (List.mem_of_getElem? (i := 19) rfl))
theorem md_X12_giveSheet : yX12_giveSheet.cls ≠ "java/lang/invoke/MethodHandle" ∧ yX12_giveSheet.cls ≠ "java/lang/invoke/VarHandle" ∧ (parseMethodDescriptor yX12_giveSheet.desc).map (fun d => d.parameters.length) = some 0 := by decide +kernel
set_option maxRecDepth 100000 in
set_option maxHeartbeats 4000000 in
theorem wb_X12_giveSheet_2 {E : xE} {ad : Nat → Nat} {p : Program} {l : Launch} {e : Env} {s : State} {m : MethodId} {args : Array Value} {below : List Frame} {meth : Method} {c : Code} {Q : State → Prop} (G : xG E p s m args meth c cX12_giveSheet 2 RX12) (hA : ∀ a, s.heap.size ≤ a → xA ad s.heap.size a) (q1 : Nat) (hk_q1 : kd q1 = 10) (a2 : Int32) (μ4 : xM) (K20 : xM → Prop) (K2b : Int32 → xM → Prop) (hq : B_X12_giveSheet_2 q1 a2 μ4 K20 K2b) {H : Heap} {locs : List Loc} {ls : Array Slot} (hH : xH E ad (xA ad s.heap.size) s.heap μ4 H locs) (hl : lv_has ls 2 [(0, .ref (ad q1)), (1, .int a2)]) (kK20 : ∀ (μ5 : xM), K20  μ5 → ∀ (H : Heap) (locs : List Loc) (ls : Array Slot), xH E ad (xA ad s.heap.size) s.heap μ5 H locs → lv_has ls 2 [(0, .ref (ad q1))] → W p l e (headSpec tX12_giveSheet ({ frames := 1, cells := 0, slots := 0, locals := 40 } : Room)).room s m args below meth c H locs 0 0 Q (F0 m 44 ls [])) (kK2b : ∀ (a6 : Int32) (μ7 : xM), K2b a6 μ7 → ∀ (H : Heap) (locs : List Loc) (ls : Array Slot), xH E ad (xA ad s.heap.size) s.heap μ7 H locs → lv_has ls 2 [(0, .ref (ad q1)), (1, .int a6)] → W p l e (headSpec tX12_giveSheet ({ frames := 1, cells := 0, slots := 0, locals := 40 } : Room)).room s m args below meth c H locs 0 0 Q (F0 m 2 ls [])) : W p l e (headSpec tX12_giveSheet ({ frames := 1, cells := 0, slots := 0, locals := 40 } : Room)).room s m args below meth c H locs 0 0 Q (F0 m 2 ls []) := by
  obtain ⟨hx, hb, hml, hown, hts, hKn, hN, hlk⟩ := id G
  unfold B_X12_giveSheet_2 at hq
  refine lv_iload_n hx hb dX12_giveSheet_2 rfl (lv_at hl 1 rfl) ?_
  refine lv_bipush (v := (16 : Int32)) hx hb dX12_giveSheet_3 (by decide) ?_
  refine lv_icmp_ge (tgt := 44) hx hb dX12_giveSheet_5 (by decide) (fun c8 => ?_) (fun c8 => ?_)
  · have hq := hq.1 c8
    exact kK20  μ4 hq _ _ _ hH (lv_sub hl [0] rfl)
  · have hq := hq.2 c8
    refine lv_aload_n hx hb dX12_giveSheet_8 rfl (lv_at hl 0 rfl) ?_
    refine x_get (j := 0) (C := RX12) (T := TX12) (N := 24) (v := .ref (ad (rt q1 0))) G hH hk_q1 (by decide) rfl inlX12 (by decide) (wm_6 _ (List.mem_of_getElem? (i := 18) rfl)) rfl dX12_giveSheet_9 ?_
    refine lv_bipush (v := (59 : Int32)) hx hb dX12_giveSheet_12 (by decide) ?_
    refine lv_iload_n hx hb dX12_giveSheet_14 rfl (lv_at hl 1 rfl) ?_
    refine lv_iadd hx hb dX12_giveSheet_15 ?_
    refine lv_aload_n hx hb dX12_giveSheet_16 rfl (lv_at hl 0 rfl) ?_
    refine x_get (j := 5) (C := RX12) (T := TX12) (N := 24) (v := .ref (ad (rt q1 5))) G hH hk_q1 (by decide) rfl inlX12 (by decide) (wm_6 _ (List.mem_of_getElem? (i := 22) rfl)) rfl dX12_giveSheet_17 ?_
    refine lv_iload_n hx hb dX12_giveSheet_20 rfl (lv_at hl 1 rfl) ?_
    refine x_iald G hH (kt_10_5 _ hk_q1) hq.1 dX12_giveSheet_21 ?_
    have hq := hq.2
    refine x_iast G hH (kt_10_0 _ hk_q1) hq.1 dX12_giveSheet_22 (fun μ9 e_μ9 H locs hH => ?_)
    have hq := hq.2 μ9 e_μ9
    refine lv_aload_n hx hb dX12_giveSheet_23 rfl (lv_at hl 0 rfl) ?_
    refine x_get (j := 0) (C := RX12) (T := TX12) (N := 24) (v := .ref (ad (rt q1 0))) G hH hk_q1 (by decide) rfl inlX12 (by decide) (wm_6 _ (List.mem_of_getElem? (i := 18) rfl)) rfl dX12_giveSheet_24 ?_
    refine lv_bipush (v := (75 : Int32)) hx hb dX12_giveSheet_27 (by decide) ?_
    refine lv_iload_n hx hb dX12_giveSheet_29 rfl (lv_at hl 1 rfl) ?_
    refine lv_iadd hx hb dX12_giveSheet_30 ?_
    refine lv_aload_n hx hb dX12_giveSheet_31 rfl (lv_at hl 0 rfl) ?_
    refine x_get (j := 6) (C := RX12) (T := TX12) (N := 24) (v := .ref (ad (rt q1 6))) G hH hk_q1 (by decide) rfl inlX12 (by decide) (wm_6 _ (List.mem_of_getElem? (i := 23) rfl)) rfl dX12_giveSheet_32 ?_
    refine lv_iload_n hx hb dX12_giveSheet_35 rfl (lv_at hl 1 rfl) ?_
    refine x_iald G hH (kt_10_6 _ hk_q1) hq.1 dX12_giveSheet_36 ?_
    have hq := hq.2
    refine x_iast G hH (kt_10_0 _ hk_q1) hq.1 dX12_giveSheet_37 (fun μ10 e_μ10 H locs hH => ?_)
    have hq := hq.2 μ10 e_μ10
    obtain ⟨v11, e_v11⟩ : ∃ y : Int32, y = (a2 + (1 : Int32)) := ⟨_, rfl⟩
    have hq := hq v11 e_v11
    refine lv_iinc (v := v11) (lv' := [(1, .int v11), (0, .ref (ad q1))]) hx hb dX12_giveSheet_38 hl (k := 1) rfl (by rw [e_v11]; rfl) (by decide) rfl (fun ls hl => ?_)
    refine lv_goto (tgt := 2) hx hb dX12_giveSheet_41 (by decide) ?_
    exact kK2b v11 μ10 hq _ _ _ hH (lv_sub hl [1, 0] rfl)
set_option maxRecDepth 100000 in
set_option maxHeartbeats 4000000 in
theorem w_X12_giveSheet_2 {E : xE} {ad : Nat → Nat} {p : Program} {l : Launch} {e : Env} {s : State} {m : MethodId} {args : Array Value} {below : List Frame} {meth : Method} {c : Code} {Q : State → Prop} (G : xG E p s m args meth c cX12_giveSheet 2 RX12) (hA : ∀ a, s.heap.size ≤ a → xA ad s.heap.size a) (q1 : Nat) (hk_q1 : kd q1 = 10) : ∀ (n : Nat) (a2 : Int32) (μ4 : xM) (K20 : xM → Prop) (hq : L_X12_giveSheet_2 q1 n a2 μ4 K20) (H : Heap) (locs : List Loc) (ls : Array Slot) (hH : xH E ad (xA ad s.heap.size) s.heap μ4 H locs) (hl : lv_has ls 2 [(0, .ref (ad q1)), (1, .int a2)]) (kK20 : ∀ (μ5 : xM), K20  μ5 → ∀ (H : Heap) (locs : List Loc) (ls : Array Slot), xH E ad (xA ad s.heap.size) s.heap μ5 H locs → lv_has ls 2 [(0, .ref (ad q1))] → W p l e (headSpec tX12_giveSheet ({ frames := 1, cells := 0, slots := 0, locals := 40 } : Room)).room s m args below meth c H locs 0 0 Q (F0 m 44 ls [])) , W p l e (headSpec tX12_giveSheet ({ frames := 1, cells := 0, slots := 0, locals := 40 } : Room)).room s m args below meth c H locs 0 0 Q (F0 m 2 ls [])
  | 0, _, _, _, hq, _, _, _, _, _, _ => hq.elim
  | n + 1, a2, μ4, K20, hq, H, locs, ls, hH, hl, kK20 => wb_X12_giveSheet_2 G hA q1 hk_q1 a2 μ4 K20 _ hq hH hl kK20 (fun x0 y hq H locs ls hH hl => w_X12_giveSheet_2 G hA q1 hk_q1 n x0 y K20 hq H locs ls hH hl kK20)
set_option maxRecDepth 100000 in
set_option maxHeartbeats 4000000 in
theorem c_X12_giveSheet (l : Launch) (E : xE) (ad : Nat → Nat) (μ : xM) (q0 : Nat) (hk_q0 : kd q0 = 10) (Qm : xM → Prop) (hq : p_X12_giveSheet q0 μ Qm) : xMv l yX12_giveSheet tX12_giveSheet ({ frames := 1, cells := 0, slots := 0, locals := 40 } : Room) E ad μ [.ref (ad q0)] Qm := by
  refine x_stv (cc := cX12_giveSheet) (maxL := 2) (ret := none) (own := RX12) rfl (by decide) rfl (Nat.le_of_ble_eq_true rfl) ?_
  intro p e s m args below meth c ls G hr hA hH hl
  obtain ⟨hx, hb, hml, hown, hts, hKn, hN, hlk⟩ := id G
  have hl : lv_has ls 2 [(0, .ref (ad q0))] := hl
  have hH : xH E ad (xA ad s.heap.size) s.heap μ s.heap [] := hH
  unfold p_X12_giveSheet at hq
  refine lv_iconst (v := (0 : Int32)) hx hb dX12_giveSheet_0 (by decide) ?_
  refine lv_istore_n (lv' := [(1, .int (0 : Int32)), (0, .ref (ad q0))]) hx hb dX12_giveSheet_1 rfl hl (by decide) rfl (fun ls hl => ?_)
  obtain ⟨n3, hq⟩ := hq
  refine w_X12_giveSheet_2 G hA q0 hk_q0 n3 (0 : Int32) μ _ hq _ _ _ hH (lv_sub hl [1, 0] rfl) (fun  μ12 hq H locs ls hH hl => ?_)
  refine lv_aload_n hx hb dX12_giveSheet_44 rfl (lv_at hl 0 rfl) ?_
  refine x_get (j := 0) (C := RX12) (T := TX12) (N := 24) (v := .ref (ad (rt q0 0))) G hH hk_q0 (by decide) rfl inlX12 (by decide) (wm_6 _ (List.mem_of_getElem? (i := 18) rfl)) rfl dX12_giveSheet_45 ?_
  refine lv_bipush (v := (91 : Int32)) hx hb dX12_giveSheet_48 (by decide) ?_
  refine lv_aload_n hx hb dX12_giveSheet_50 rfl (lv_at hl 0 rfl) ?_
  refine x_get (j := 7) (C := RX12) (T := TX12) (N := 24) (v := .int (μ12.1 q0 7)) G hH hk_q0 (by decide) rfl inlX12 (by decide) (wm_24 _ (List.mem_of_getElem? (i := 16) rfl)) rfl dX12_giveSheet_51 ?_
  refine x_iast G hH (kt_10_0 _ hk_q0) hq.1 dX12_giveSheet_54 (fun μ13 e_μ13 H locs hH => ?_)
  have hq := hq.2 μ13 e_μ13
  exact x_vret G hr hH hq dX12_giveSheet_55
