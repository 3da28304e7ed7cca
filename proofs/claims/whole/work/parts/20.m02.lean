abbrev tX0_add : List Cond := Cond.code yX0_add cX0_add 6 (some .int) :: wsL_law
theorem mi_X0_add : Cond.instanceMethod yX0_add ∈ wsL_law := (wm_9 _ (List.mem_of_getElem? (i := 17) rfl))
theorem ms_X0_add : Cond.selects RX0 yX0_add yX0_add ∈ wsL_law := (wm_9 _ (List.mem_of_getElem? (i := 18) rfl))
theorem mc_X0_add : Cond.code yX0_add cX0_add 6 (some .int) ∈ wsL_law := (wm_9 _ (List.mem_of_getElem? (i := 19) rfl))
theorem md_X0_add : yX0_add.cls ≠ "java/lang/invoke/MethodHandle" ∧ yX0_add.cls ≠ "java/lang/invoke/VarHandle" ∧ (parseMethodDescriptor yX0_add.desc).map (fun d => d.parameters.length) = some 4 := by decide +kernel
set_option maxRecDepth 100000 in
set_option maxHeartbeats 4000000 in
theorem c_X0_add (l : Launch) (E : xE) (ad : Nat → Nat) (μ : xM) (q0 : Nat) (p1 : Int32) (p2 : Int32) (p3 : Int32) (p4 : Int32) (hk_q0 : kd q0 = 0) (Qm : Int32 → xM → Prop) (hq : p_X0_add q0 p1 p2 p3 p4 μ Qm) : xMi l yX0_add tX0_add ({ frames := 4, cells := 0, slots := 0, locals := 160 } : Room) E ad μ [.ref (ad q0), .int p1, .int p2, .int p3, .int p4] Qm := by
  refine x_sti (cc := cX0_add) (maxL := 6) (ret := (some .int)) (own := RX0) rfl (by decide) rfl (Nat.le_of_ble_eq_true rfl) ?_
  intro p e s m args below meth c ls G hr hA hH hl
  obtain ⟨hx, hb, hml, hown, hts, hKn, hN, hlk⟩ := id G
  have hl : lv_has ls 6 [(0, .ref (ad q0)), (1, .int p1), (2, .int p2), (3, .int p3), (4, .int p4)] := hl
  have hH : xH E ad (xA ad s.heap.size) s.heap μ s.heap [] := hH
  unfold p_X0_add at hq
  refine lv_aload_n hx hb dX0_add_0 rfl (lv_at hl 0 rfl) ?_
  refine x_get (j := 0) (C := RX0) (T := TX0) (N := 9) (v := .int (μ.1 q0 0)) G hH hk_q0 (by decide) rfl inlX0 (by decide) (wm_3 _ (List.mem_of_getElem? (i := 3) rfl)) rfl dX0_add_1 ?_
  refine lv_topi (fun v1 e_v1 => ?_)
  have hq := hq v1 e_v1
  refine lv_istore (lv' := [(5, .int v1), (0, .ref (ad q0)), (1, .int p1), (2, .int p2), (3, .int p3), (4, .int p4)]) hx hb dX0_add_4 hl (by decide) rfl (fun ls hl => ?_)
  refine lv_aload_n hx hb dX0_add_6 rfl (lv_at hl 1 rfl) ?_
  refine x_get (j := 1) (C := RX0) (T := TX0) (N := 9) (v := .ref (ad (rt q0 1))) G hH hk_q0 (by decide) rfl inlX0 (by decide) (wm_3 _ (List.mem_of_getElem? (i := 5) rfl)) rfl dX0_add_7 ?_
  refine lv_iload hx hb dX0_add_10 (lv_at hl 0 rfl) ?_
  refine lv_iload_n hx hb dX0_add_12 rfl (lv_at hl 2 rfl) ?_
  refine x_cSv (As := [.ref (ad (rt q0 1)), .int v1, .int p1]) (rest := []) G hH hA (c_X5_put l E ad μ (rt q0 1) v1 p1 (kt_0_1 _ hk_q0) _ hq) (wm_9 _ (List.mem_of_getElem? (i := 20) rfl)) mt_X5_put mn_RX5 mc_X5_put md_X5_put ⟨rfl, rfl, Nat.le_of_ble_eq_true rfl, Nat.le_of_ble_eq_true rfl⟩ rfl hl.1 rfl (Nat.le_of_ble_eq_true rfl) dX0_add_13 ⟨Nat.zero_le _, Nat.zero_le _⟩ (fun μ2 hq H locs hH => ?_)
  refine lv_aload_n hx hb dX0_add_16 rfl (lv_at hl 1 rfl) ?_
  refine x_get (j := 2) (C := RX0) (T := TX0) (N := 9) (v := .ref (ad (rt q0 2))) G hH hk_q0 (by decide) rfl inlX0 (by decide) (wm_3 _ (List.mem_of_getElem? (i := 6) rfl)) rfl dX0_add_17 ?_
  refine lv_iload hx hb dX0_add_20 (lv_at hl 0 rfl) ?_
  refine lv_iload_n hx hb dX0_add_22 rfl (lv_at hl 3 rfl) ?_
  refine x_cSv (As := [.ref (ad (rt q0 2)), .int v1, .int p2]) (rest := []) G hH hA (c_X5_put l E ad μ2 (rt q0 2) v1 p2 (kt_0_2 _ hk_q0) _ hq) (wm_9 _ (List.mem_of_getElem? (i := 20) rfl)) mt_X5_put mn_RX5 mc_X5_put md_X5_put ⟨rfl, rfl, Nat.le_of_ble_eq_true rfl, Nat.le_of_ble_eq_true rfl⟩ rfl hl.1 rfl (Nat.le_of_ble_eq_true rfl) dX0_add_23 ⟨Nat.zero_le _, Nat.zero_le _⟩ (fun μ3 hq H locs hH => ?_)
  refine lv_aload_n hx hb dX0_add_26 rfl (lv_at hl 1 rfl) ?_
  refine x_get (j := 3) (C := RX0) (T := TX0) (N := 9) (v := .ref (ad (rt q0 3))) G hH hk_q0 (by decide) rfl inlX0 (by decide) (wm_3 _ (List.mem_of_getElem? (i := 7) rfl)) rfl dX0_add_27 ?_
  refine lv_iload hx hb dX0_add_30 (lv_at hl 0 rfl) ?_
  refine lv_iload_n hx hb dX0_add_32 rfl (lv_at hl 4 rfl) ?_
  refine x_cSv (As := [.ref (ad (rt q0 3)), .int v1, .int p3]) (rest := []) G hH hA (c_X5_put l E ad μ3 (rt q0 3) v1 p3 (kt_0_3 _ hk_q0) _ hq) (wm_9 _ (List.mem_of_getElem? (i := 20) rfl)) mt_X5_put mn_RX5 mc_X5_put md_X5_put ⟨rfl, rfl, Nat.le_of_ble_eq_true rfl, Nat.le_of_ble_eq_true rfl⟩ rfl hl.1 rfl (Nat.le_of_ble_eq_true rfl) dX0_add_33 ⟨Nat.zero_le _, Nat.zero_le _⟩ (fun μ4 hq H locs hH => ?_)
  refine lv_aload_n hx hb dX0_add_36 rfl (lv_at hl 1 rfl) ?_
  refine x_get (j := 4) (C := RX0) (T := TX0) (N := 9) (v := .ref (ad (rt q0 4))) G hH hk_q0 (by decide) rfl inlX0 (by decide) (wm_3 _ (List.mem_of_getElem? (i := 8) rfl)) rfl dX0_add_37 ?_
  refine lv_iload hx hb dX0_add_40 (lv_at hl 0 rfl) ?_
  refine lv_iload hx hb dX0_add_42 (lv_at hl 5 rfl) ?_
  refine x_cSv (As := [.ref (ad (rt q0 4)), .int v1, .int p4]) (rest := []) G hH hA (c_X5_put l E ad μ4 (rt q0 4) v1 p4 (kt_0_4 _ hk_q0) _ hq) (wm_9 _ (List.mem_of_getElem? (i := 20) rfl)) mt_X5_put mn_RX5 mc_X5_put md_X5_put ⟨rfl, rfl, Nat.le_of_ble_eq_true rfl, Nat.le_of_ble_eq_true rfl⟩ rfl hl.1 rfl (Nat.le_of_ble_eq_true rfl) dX0_add_44 ⟨Nat.zero_le _, Nat.zero_le _⟩ (fun μ5 hq H locs hH => ?_)
  refine lv_aload_n hx hb dX0_add_47 rfl (lv_at hl 1 rfl) ?_
  refine x_get (j := 8) (C := RX0) (T := TX0) (N := 9) (v := .ref (ad (rt q0 8))) G hH hk_q0 (by decide) rfl inlX0 (by decide) (wm_3 _ (List.mem_of_getElem? (i := 12) rfl)) rfl dX0_add_48 ?_
  refine lv_iload hx hb dX0_add_51 (lv_at hl 0 rfl) ?_
  refine lv_iconst (v := (0 : Int32)) hx hb dX0_add_53 (by decide) ?_
  refine x_cSv (As := [.ref (ad (rt q0 8)), .int v1, .int (0 : Int32)]) (rest := []) G hH hA (c_X5_put l E ad μ5 (rt q0 8) v1 (0 : Int32) (kt_0_8 _ hk_q0) _ hq) (wm_9 _ (List.mem_of_getElem? (i := 20) rfl)) mt_X5_put mn_RX5 mc_X5_put md_X5_put ⟨rfl, rfl, Nat.le_of_ble_eq_true rfl, Nat.le_of_ble_eq_true rfl⟩ rfl hl.1 rfl (Nat.le_of_ble_eq_true rfl) dX0_add_54 ⟨Nat.zero_le _, Nat.zero_le _⟩ (fun μ6 hq H locs hH => ?_)
  refine lv_aload_n hx hb dX0_add_57 rfl (lv_at hl 1 rfl) ?_
  refine lv_iload hx hb dX0_add_58 (lv_at hl 0 rfl) ?_
  refine lv_iconst (v := (0 : Int32)) hx hb dX0_add_60 (by decide) ?_
  refine lv_iconst (v := (0 : Int32)) hx hb dX0_add_61 (by decide) ?_
  refine x_cVv (C := RX0) (T := TX0) (N := 9) (As := [.int v1, .int (0 : Int32), .int (0 : Int32)]) (rest := []) G hH hA (c_X0_move l E ad μ6 q0 v1 (0 : Int32) (0 : Int32) hk_q0 _ hq) (wm_9 _ (List.mem_of_getElem? (i := 23) rfl)) mi_X0_move ms_X0_move mn_RX0 mc_X0_move rfl md_X0_move ⟨rfl, rfl, Nat.le_of_ble_eq_true rfl, Nat.le_of_ble_eq_true rfl⟩ hk_q0 (by decide) rfl rfl hl.1 rfl (Nat.le_of_ble_eq_true rfl) dX0_add_62 ⟨Nat.zero_le _, Nat.zero_le _⟩ (fun μ7 hq H locs hH => ?_)
  refine lv_aload_n hx hb dX0_add_65 rfl (lv_at hl 1 rfl) ?_
  refine lv_iload hx hb dX0_add_66 (lv_at hl 0 rfl) ?_
  refine lv_iconst (v := (1 : Int32)) hx hb dX0_add_68 (by decide) ?_
  refine lv_iadd hx hb dX0_add_69 ?_
  refine x_puti (j := 0) (C := RX0) (T := TX0) (N := 9) (ty := .int) G hH hk_q0 (by decide) rfl inlX0 tyX0 tyX0_ok nmX0 (by decide) (wm_3 _ (List.mem_of_getElem? (i := 3) rfl)) rfl (by decide +kernel) rfl rfl (fun _ _ => Nat.le_of_ble_eq_true rfl) (fun _ _ => rfl) dX0_add_70 (fun μ8 e_μ8 H locs hH => ?_)
  have hq := hq μ8 e_μ8
  refine lv_iload hx hb dX0_add_73 (lv_at hl 0 rfl) ?_
  exact x_iret G hr hH hq dX0_add_75
abbrev tX11_block : List Cond := Cond.code yX11_block cX11_block 6 (some .int) :: wsL_law
theorem mi_X11_block : Cond.instanceMethod yX11_block ∈ wsL_law := (wm_7 _ (List.mem_of_getElem? (i := 11) rfl))
theorem ms_X11_block : Cond.selects RX11 yX11_block yX11_block ∈ wsL_law := (wm_7 _ (List.mem_of_getElem? (i := 12) rfl))
theorem mc_X11_block : Cond.code yX11_block cX11_block 6 (some .int) ∈ wsL_law := (wm_7 _ (List.mem_of_getElem? (i := 13) rfl))
theorem md_X11_block : yX11_block.cls ≠ "java/lang/invoke/MethodHandle" ∧ yX11_block.cls ≠ "java/lang/invoke/VarHandle" ∧ (parseMethodDescriptor yX11_block.desc).map (fun d => d.parameters.length) = some 4 := by decide +kernel
set_option maxRecDepth 100000 in
set_option maxHeartbeats 4000000 in
theorem c_X11_block (l : Launch) (E : xE) (ad : Nat → Nat) (μ : xM) (q0 : Nat) (p1 : Int32) (p2 : Int32) (p3 : Int32) (p4 : Int32) (hk_q0 : kd q0 = 9) (Qm : Int32 → xM → Prop) (hq : p_X11_block q0 p1 p2 p3 p4 μ Qm) : xMi l yX11_block tX11_block ({ frames := 6, cells := 0, slots := 0, locals := 240 } : Room) E ad μ [.ref (ad q0), .int p1, .int p2, .int p3, .int p4] Qm := by
  refine x_sti (cc := cX11_block) (maxL := 6) (ret := (some .int)) (own := RX11) rfl (by decide) rfl (Nat.le_of_ble_eq_true rfl) ?_
  intro p e s m args below meth c ls G hr hA hH hl
  obtain ⟨hx, hb, hml, hown, hts, hKn, hN, hlk⟩ := id G
  have hl : lv_has ls 6 [(0, .ref (ad q0)), (1, .int p1), (2, .int p2), (3, .int p3), (4, .int p4)] := hl
  have hH : xH E ad (xA ad s.heap.size) s.heap μ s.heap [] := hH
  unfold p_X11_block at hq
  refine lv_aload_n hx hb dX11_block_0 rfl (lv_at hl 0 rfl) ?_
  refine lv_iload_n hx hb dX11_block_1 rfl (lv_at hl 1 rfl) ?_
  refine lv_iload_n hx hb dX11_block_2 rfl (lv_at hl 2 rfl) ?_
  refine lv_iload_n hx hb dX11_block_3 rfl (lv_at hl 3 rfl) ?_
  refine lv_iload hx hb dX11_block_4 (lv_at hl 4 rfl) ?_
  refine x_cVi (C := RX11) (T := TX11) (N := 8) (As := [.int p1, .int p2, .int p3, .int p4]) (rest := []) G hH hA (c_X11_whyNoBlock l E ad μ q0 p1 p2 p3 p4 hk_q0 _ hq) (wm_7 _ (List.mem_of_getElem? (i := 14) rfl)) mi_X11_whyNoBlock ms_X11_whyNoBlock mn_RX11 mc_X11_whyNoBlock rfl md_X11_whyNoBlock ⟨rfl, rfl, Nat.le_of_ble_eq_true rfl, Nat.le_of_ble_eq_true rfl⟩ hk_q0 (by decide) rfl rfl hl.1 rfl (Nat.le_of_ble_eq_true rfl) dX11_block_6 ⟨Nat.zero_le _, Nat.zero_le _⟩ (fun r2 μ1 hq H locs hH => ?_)
  refine lv_istore (lv' := [(5, .int r2), (0, .ref (ad q0)), (1, .int p1), (2, .int p2), (3, .int p3), (4, .int p4)]) hx hb dX11_block_9 hl (by decide) rfl (fun ls hl => ?_)
  refine lv_iload hx hb dX11_block_11 (lv_at hl 0 rfl) ?_
  refine lv_if_eq (tgt := 23) hx hb dX11_block_13 (by decide) (fun c3 => ?_) (fun c3 => ?_)
  · have hq := hq.1 c3
    refine lv_aload_n hx hb dX11_block_23 rfl (lv_at hl 1 rfl) ?_
    refine x_get (j := 1) (C := RX11) (T := TX11) (N := 8) (v := .ref (ad (rt q0 1))) G hH hk_q0 (by decide) rfl inlX11 (by decide) (wm_1 _ (List.mem_of_getElem? (i := 19) rfl)) rfl dX11_block_24 ?_
    refine lv_aload_n hx hb dX11_block_27 rfl (lv_at hl 1 rfl) ?_
    refine x_get (j := 0) (C := RX11) (T := TX11) (N := 8) (v := .ref (ad (rt q0 0))) G hH hk_q0 (by decide) rfl inlX11 (by decide) (wm_1 _ (List.mem_of_getElem? (i := 15) rfl)) rfl dX11_block_28 ?_
    refine x_cVv (C := RX3) (T := TX3) (N := 3) (As := [.ref (ad (rt q0 0))]) (rest := []) G hH hA (c_X3_keep l E ad μ1 (rt q0 1) (rt q0 0) (kt_9_1 _ hk_q0) (kt_9_0 _ hk_q0) _ hq) (wm_8 _ (List.mem_of_getElem? (i := 3) rfl)) mi_X3_keep ms_X3_keep mn_RX3 mc_X3_keep rfl md_X3_keep ⟨rfl, rfl, Nat.le_of_ble_eq_true rfl, Nat.le_of_ble_eq_true rfl⟩ (kt_9_1 _ hk_q0) (by decide) rfl rfl hl.1 rfl (Nat.le_of_ble_eq_true rfl) dX11_block_31 ⟨Nat.zero_le _, Nat.zero_le _⟩ (fun μ4 hq H locs hH => ?_)
    refine lv_aload_n hx hb dX11_block_34 rfl (lv_at hl 1 rfl) ?_
    refine x_get (j := 0) (C := RX11) (T := TX11) (N := 8) (v := .ref (ad (rt q0 0))) G hH hk_q0 (by decide) rfl inlX11 (by decide) (wm_1 _ (List.mem_of_getElem? (i := 15) rfl)) rfl dX11_block_35 ?_
    refine x_get (j := 0) (C := RX9) (T := TX9) (N := 3) (v := .ref (ad (rt (rt q0 0) 0))) G hH (kt_9_0 _ hk_q0) (by decide) rfl inlX9 (by decide) (wm_1 _ (List.mem_of_getElem? (i := 23) rfl)) rfl dX11_block_38 ?_
    refine lv_iload_n hx hb dX11_block_41 rfl (lv_at hl 2 rfl) ?_
    refine lv_iload_n hx hb dX11_block_42 rfl (lv_at hl 3 rfl) ?_
    refine lv_iload_n hx hb dX11_block_43 rfl (lv_at hl 4 rfl) ?_
    refine lv_iload hx hb dX11_block_44 (lv_at hl 5 rfl) ?_
    refine x_cVi (C := RX0) (T := TX0) (N := 9) (As := [.int p1, .int p2, .int p3, .int p4]) (rest := []) G hH hA (c_X0_add l E ad μ4 (rt (rt q0 0) 0) p1 p2 p3 p4 (kt_7_0 _ (kt_9_0 _ hk_q0)) _ hq) (wm_9 _ (List.mem_of_getElem? (i := 16) rfl)) mi_X0_add ms_X0_add mn_RX0 mc_X0_add rfl md_X0_add ⟨rfl, rfl, Nat.le_of_ble_eq_true rfl, Nat.le_of_ble_eq_true rfl⟩ (kt_7_0 _ (kt_9_0 _ hk_q0)) (by decide) rfl rfl hl.1 rfl (Nat.le_of_ble_eq_true rfl) dX11_block_46 ⟨Nat.zero_le _, Nat.zero_le _⟩ (fun r6 μ5 hq H locs hH => ?_)
    exact x_iret G hr hH hq dX11_block_49
  · have hq := hq.2 c3
    refine lv_aload_n hx hb dX11_block_16 rfl (lv_at hl 1 rfl) ?_
    refine lv_iload hx hb dX11_block_17 (lv_at hl 0 rfl) ?_
    refine x_cVi (C := RX11) (T := TX11) (N := 8) (As := [.int r2]) (rest := []) G hH hA (c_X11_refuse l E ad μ1 q0 r2 hk_q0 _ hq) (wm_7 _ (List.mem_of_getElem? (i := 23) rfl)) mi_X11_refuse ms_X11_refuse mn_RX11 mc_X11_refuse rfl md_X11_refuse ⟨rfl, rfl, Nat.le_of_ble_eq_true rfl, Nat.le_of_ble_eq_true rfl⟩ hk_q0 (by decide) rfl rfl hl.1 rfl (Nat.le_of_ble_eq_true rfl) dX11_block_19 ⟨Nat.zero_le _, Nat.zero_le _⟩ (fun r8 μ7 hq H locs hH => ?_)
    exact x_iret G hr hH hq dX11_block_22
abbrev tX1_nibble : List Cond := Cond.code yX1_nibble cX1_nibble 3 (some .int) :: wsL_law
theorem mt_X1_nibble : Cond.static yX1_nibble ∈ wsL_law := (wm_15 _ (List.mem_of_getElem? (i := 2) rfl))
theorem mc_X1_nibble : Cond.code yX1_nibble cX1_nibble 3 (some .int) ∈ wsL_law := (wm_15 _ (List.mem_of_getElem? (i := 3) rfl))
theorem md_X1_nibble : yX1_nibble.cls ≠ "java/lang/invoke/MethodHandle" ∧ yX1_nibble.cls ≠ "java/lang/invoke/VarHandle" ∧ (parseMethodDescriptor yX1_nibble.desc).map (fun d => d.parameters.length) = some 2 := by decide +kernel
set_option maxRecDepth 100000 in
set_option maxHeartbeats 4000000 in
theorem c_X1_nibble (l : Launch) (E : xE) (ad : Nat → Nat) (μ : xM) (p1 : Int64) (p2 : Int32) (Qm : Int32 → xM → Prop) (hq : p_X1_nibble p1 p2 μ Qm) : xMi l yX1_nibble tX1_nibble ({ frames := 1, cells := 0, slots := 0, locals := 40 } : Room) E ad μ [.long p1, .int p2] Qm := by
  refine x_sti (cc := cX1_nibble) (maxL := 3) (ret := (some .int)) (own := RX1) rfl (by decide) rfl (Nat.le_of_ble_eq_true rfl) ?_
  intro p e s m args below meth c ls G hr hA hH hl
  obtain ⟨hx, hb, hml, hown, hts, hKn, hN, hlk⟩ := id G
  have hl : lv_has ls 3 [(0, .long p1), (2, .int p2)] := hl
  have hH : xH E ad (xA ad s.heap.size) s.heap μ s.heap [] := hH
  unfold p_X1_nibble at hq
  refine lv_lload_n hx hb dX1_nibble_0 rfl (lv_at hl 0 rfl) ?_
  refine lv_iconst (v := (4 : Int32)) hx hb dX1_nibble_1 (by decide) ?_
  refine lv_iload_n hx hb dX1_nibble_2 rfl (lv_at hl 1 rfl) ?_
  refine lv_imul hx hb dX1_nibble_3 ?_
  refine lv_lushr (v := (lU p1 ((4 : Int32) * p2))) hx hb dX1_nibble_4 rfl ?_
  refine lv_l2i (v := ((lU p1 ((4 : Int32) * p2)).toInt32)) hx hb dX1_nibble_5 rfl ?_
  refine lv_bipush (v := (15 : Int32)) hx hb dX1_nibble_6 (by decide) ?_
  refine lv_iand hx hb dX1_nibble_8 ?_
  exact x_iret G hr hH hq dX1_nibble_9
abbrev tX11_blockOfBest : List Cond := Cond.code yX11_blockOfBest cX11_blockOfBest 2 (some .int) :: wsL_law
theorem mi_X11_blockOfBest : Cond.instanceMethod yX11_blockOfBest ∈ wsL_law := (wm_23 _ (List.mem_of_getElem? (i := 10) rfl))
theorem ms_X11_blockOfBest : Cond.selects RX11 yX11_blockOfBest yX11_blockOfBest ∈ wsL_law := (wm_23 _ (List.mem_of_getElem? (i := 11) rfl))
theorem mc_X11_blockOfBest : Cond.code yX11_blockOfBest cX11_blockOfBest 2 (some .int) ∈ wsL_law := (wm_23 _ (List.mem_of_getElem? (i := 12) rfl))
theorem md_X11_blockOfBest : yX11_blockOfBest.cls ≠ "java/lang/invoke/MethodHandle" ∧ yX11_blockOfBest.cls ≠ "java/lang/invoke/VarHandle" ∧ (parseMethodDescriptor yX11_blockOfBest.desc).map (fun d => d.parameters.length) = some 1 := by decide +kernel
set_option maxRecDepth 100000 in
set_option maxHeartbeats 4000000 in
theorem c_X11_blockOfBest (l : Launch) (E : xE) (ad : Nat → Nat) (μ : xM) (q0 : Nat) (p1 : Int32) (hk_q0 : kd q0 = 9) (Qm : Int32 → xM → Prop) (hq : p_X11_blockOfBest q0 p1 μ Qm) : xMi l yX11_blockOfBest tX11_blockOfBest ({ frames := 2, cells := 0, slots := 0, locals := 80 } : Room) E ad μ [.ref (ad q0), .int p1] Qm := by
  refine x_sti (cc := cX11_blockOfBest) (maxL := 2) (ret := (some .int)) (own := RX11) rfl (by decide) rfl (Nat.le_of_ble_eq_true rfl) ?_
  intro p e s m args below meth c ls G hr hA hH hl
  obtain ⟨hx, hb, hml, hown, hts, hKn, hN, hlk⟩ := id G
  have hl : lv_has ls 2 [(0, .ref (ad q0)), (1, .int p1)] := hl
  have hH : xH E ad (xA ad s.heap.size) s.heap μ s.heap [] := hH
  unfold p_X11_blockOfBest at hq
  refine lv_iload_n hx hb dX11_blockOfBest_0 rfl (lv_at hl 1 rfl) ?_
  refine lv_if_lt (tgt := 32) hx hb dX11_blockOfBest_1 (by decide) (fun c1 => ?_) (fun c1 => ?_)
  · have hq := hq.1 c1
    refine lv_bipush (v := (-5 : Int32)) hx hb dX11_blockOfBest_32 (by decide) ?_
    exact x_iret G hr hH hq dX11_blockOfBest_34
  · have hq := hq.2 c1
    refine lv_iload_n hx hb dX11_blockOfBest_4 rfl (lv_at hl 1 rfl) ?_
    refine lv_aload_n hx hb dX11_blockOfBest_5 rfl (lv_at hl 0 rfl) ?_
    refine x_get (j := 0) (C := RX11) (T := TX11) (N := 8) (v := .ref (ad (rt q0 0))) G hH hk_q0 (by decide) rfl inlX11 (by decide) (wm_1 _ (List.mem_of_getElem? (i := 15) rfl)) rfl dX11_blockOfBest_6 ?_
    refine x_get (j := 0) (C := RX9) (T := TX9) (N := 3) (v := .ref (ad (rt (rt q0 0) 0))) G hH (kt_9_0 _ hk_q0) (by decide) rfl inlX9 (by decide) (wm_1 _ (List.mem_of_getElem? (i := 23) rfl)) rfl dX11_blockOfBest_9 ?_
    refine x_get (j := 0) (C := RX0) (T := TX0) (N := 9) (v := .int (μ.1 (rt (rt q0 0) 0) 0)) G hH (kt_7_0 _ (kt_9_0 _ hk_q0)) (by decide) rfl inlX0 (by decide) (wm_7 _ (List.mem_of_getElem? (i := 19) rfl)) rfl dX11_blockOfBest_12 ?_
    refine lv_icmp_ge (tgt := 32) hx hb dX11_blockOfBest_15 (by decide) (fun c2 => ?_) (fun c2 => ?_)
    · have hq := hq.1 c2
      refine lv_bipush (v := (-5 : Int32)) hx hb dX11_blockOfBest_32 (by decide) ?_
      exact x_iret G hr hH hq dX11_blockOfBest_34
    · have hq := hq.2 c2
      refine lv_aload_n hx hb dX11_blockOfBest_18 rfl (lv_at hl 0 rfl) ?_
      refine x_get (j := 2) (C := RX11) (T := TX11) (N := 8) (v := .ref (ad (rt q0 2))) G hH hk_q0 (by decide) rfl inlX11 (by decide) (wm_2 _ (List.mem_of_getElem? (i := 0) rfl)) rfl dX11_blockOfBest_19 ?_
      refine x_get (j := 10) (C := RX6) (T := TX6) (N := 11) (v := .long (μ.2 (rt q0 2) 10)) G hH (kt_9_2 _ hk_q0) (by decide) rfl inlX6 (by decide) (wm_23 _ (List.mem_of_getElem? (i := 13) rfl)) rfl dX11_blockOfBest_22 ?_
      refine lv_iload_n hx hb dX11_blockOfBest_25 rfl (lv_at hl 1 rfl) ?_
      refine x_cSi (As := [.long (μ.2 (rt q0 2) 10), .int p1]) (rest := []) G hH hA (c_X1_nibble l E ad μ (μ.2 (rt q0 2) 10) p1  _ hq) (wm_15 _ (List.mem_of_getElem? (i := 1) rfl)) mt_X1_nibble mn_RX1 mc_X1_nibble md_X1_nibble ⟨rfl, rfl, Nat.le_of_ble_eq_true rfl, Nat.le_of_ble_eq_true rfl⟩ rfl hl.1 rfl (Nat.le_of_ble_eq_true rfl) dX11_blockOfBest_26 ⟨Nat.zero_le _, Nat.zero_le _⟩ (fun r4 μ3 hq H locs hH => ?_)
      refine lv_goto (tgt := 34) hx hb dX11_blockOfBest_29 (by decide) ?_
      exact x_iret G hr hH hq dX11_blockOfBest_34
abbrev tX2_wetHours : List Cond := Cond.code yX2_wetHours cX2_wetHours 6 (some .int) :: wsL_law
theorem mi_X2_wetHours : Cond.instanceMethod yX2_wetHours ∈ wsL_law := (wm_28 _ (List.mem_of_getElem? (i := 22) rfl))
theorem ms_X2_wetHours : Cond.selects RX2 yX2_wetHours yX2_wetHours ∈ wsL_law := (wm_28 _ (List.mem_of_getElem? (i := 23) rfl))
theorem mc_X2_wetHours : Cond.code yX2_wetHours cX2_wetHours 6 (some .int) ∈ wsL_law := (wm_29 _ (List.mem_of_getElem? (i := 0) rfl))
theorem md_X2_wetHours : yX2_wetHours.cls ≠ "java/lang/invoke/MethodHandle" ∧ yX2_wetHours.cls ≠ "java/lang/invoke/VarHandle" ∧ (parseMethodDescriptor yX2_wetHours.desc).map (fun d => d.parameters.length) = some 2 := by decide +kernel
set_option maxRecDepth 100000 in
set_option maxHeartbeats 4000000 in
theorem wb_X2_wetHours_5 {E : xE} {ad : Nat → Nat} {p : Program} {l : Launch} {e : Env} {s : State} {m : MethodId} {args : Array Value} {below : List Frame} {meth : Method} {c : Code} {Q : State → Prop} (G : xG E p s m args meth c cX2_wetHours 6 RX2) (hA : ∀ a, s.heap.size ≤ a → xA ad s.heap.size a) (q1 : Nat) (q2 : Nat) (a3 : Int32) (hk_q1 : kd q1 = 1) (hk_q2 : kd q2 = 0) (a4 : Int32) (a5 : Int32) (μ7 : xM) (K50 : Int32 → xM → Prop) (K5b : Int32 → Int32 → xM → Prop) (hq : B_X2_wetHours_5 q1 q2 a3 a4 a5 μ7 K50 K5b) {H : Heap} {locs : List Loc} {ls : Array Slot} (hH : xH E ad (xA ad s.heap.size) s.heap μ7 H locs) (hl : lv_has ls 6 [(0, .ref (ad q1)), (1, .ref (ad q2)), (2, .int a3), (4, .int a4), (3, .int a5)]) (kK50 : ∀ (a8 : Int32) (μ9 : xM), K50 a8 μ9 → ∀ (H : Heap) (locs : List Loc) (ls : Array Slot), xH E ad (xA ad s.heap.size) s.heap μ9 H locs → lv_has ls 6 [(3, .int a8)] → W p l e (headSpec tX2_wetHours ({ frames := 2, cells := 0, slots := 0, locals := 80 } : Room)).room s m args below meth c H locs 0 0 Q (F0 m 77 ls [])) (kK5b : ∀ (a10 : Int32) (a11 : Int32) (μ12 : xM), K5b a10 a11 μ12 → ∀ (H : Heap) (locs : List Loc) (ls : Array Slot), xH E ad (xA ad s.heap.size) s.heap μ12 H locs → lv_has ls 6 [(0, .ref (ad q1)), (1, .ref (ad q2)), (2, .int a3), (4, .int a10), (3, .int a11)] → W p l e (headSpec tX2_wetHours ({ frames := 2, cells := 0, slots := 0, locals := 80 } : Room)).room s m args below meth c H locs 0 0 Q (F0 m 5 ls [])) : W p l e (headSpec tX2_wetHours ({ frames := 2, cells := 0, slots := 0, locals := 80 } : Room)).room s m args below meth c H locs 0 0 Q (F0 m 5 ls []) := by
  obtain ⟨hx, hb, hml, hown, hts, hKn, hN, hlk⟩ := id G
  unfold B_X2_wetHours_5 at hq
  refine lv_iload hx hb dX2_wetHours_5 (lv_at hl 3 rfl) ?_
  refine lv_aload_n hx hb dX2_wetHours_7 rfl (lv_at hl 0 rfl) ?_
  refine x_get (j := 2) (C := RX2) (T := TX2) (N := 7) (v := .int (μ7.1 q1 2)) G hH hk_q1 (by decide) rfl inlX2 (by decide) (wm_3 _ (List.mem_of_getElem? (i := 21) rfl)) rfl dX2_wetHours_8 ?_
  refine lv_icmp_ge (tgt := 77) hx hb dX2_wetHours_11 (by decide) (fun c13 => ?_) (fun c13 => ?_)
  · have hq := hq.1 c13
    exact kK50 a5 μ7 hq _ _ _ hH (lv_sub hl [4] rfl)
  · have hq := hq.2 c13
    refine lv_aload_n hx hb dX2_wetHours_14 rfl (lv_at hl 0 rfl) ?_
    refine x_get (j := 5) (C := RX2) (T := TX2) (N := 7) (v := .ref (ad (rt q1 5))) G hH hk_q1 (by decide) rfl inlX2 (by decide) (wm_4 _ (List.mem_of_getElem? (i := 0) rfl)) rfl dX2_wetHours_15 ?_
    refine lv_iload hx hb dX2_wetHours_18 (lv_at hl 3 rfl) ?_
    refine x_cSi (As := [.ref (ad (rt q1 5)), .int a4]) (rest := []) G hH hA (c_X5_at l E ad μ7 (rt q1 5) a4 (kt_1_5 _ hk_q1) _ hq) (wm_26 _ (List.mem_of_getElem? (i := 14) rfl)) mt_X5_at mn_RX5 mc_X5_at md_X5_at ⟨rfl, rfl, Nat.le_of_ble_eq_true rfl, Nat.le_of_ble_eq_true rfl⟩ rfl hl.1 rfl (Nat.le_of_ble_eq_true rfl) dX2_wetHours_20 ⟨Nat.zero_le _, Nat.zero_le _⟩ (fun r15 μ14 hq H locs hH => ?_)
    refine lv_aload_n hx hb dX2_wetHours_23 rfl (lv_at hl 1 rfl) ?_
    refine x_get (j := 3) (C := RX0) (T := TX0) (N := 9) (v := .ref (ad (rt q2 3))) G hH hk_q2 (by decide) rfl inlX0 (by decide) (wm_29 _ (List.mem_of_getElem? (i := 1) rfl)) rfl dX2_wetHours_24 ?_
    refine lv_aload_n hx hb dX2_wetHours_27 rfl (lv_at hl 0 rfl) ?_
    refine x_get (j := 4) (C := RX2) (T := TX2) (N := 7) (v := .ref (ad (rt q1 4))) G hH hk_q1 (by decide) rfl inlX2 (by decide) (wm_3 _ (List.mem_of_getElem? (i := 23) rfl)) rfl dX2_wetHours_28 ?_
    refine lv_iload hx hb dX2_wetHours_31 (lv_at hl 3 rfl) ?_
    refine x_cSi (As := [.ref (ad (rt q1 4)), .int a4]) (rest := [.ref (ad (rt q2 3)), .int r15]) G hH hA (c_X5_at l E ad μ14 (rt q1 4) a4 (kt_1_4 _ hk_q1) _ hq) (wm_26 _ (List.mem_of_getElem? (i := 14) rfl)) mt_X5_at mn_RX5 mc_X5_at md_X5_at ⟨rfl, rfl, Nat.le_of_ble_eq_true rfl, Nat.le_of_ble_eq_true rfl⟩ rfl hl.1 rfl (Nat.le_of_ble_eq_true rfl) dX2_wetHours_33 ⟨Nat.zero_le _, Nat.zero_le _⟩ (fun r17 μ16 hq H locs hH => ?_)
    refine x_cSi (As := [.ref (ad (rt q2 3)), .int r17]) (rest := [.int r15]) G hH hA (c_X5_at l E ad μ16 (rt q2 3) r17 (kt_0_3 _ hk_q2) _ hq) (wm_26 _ (List.mem_of_getElem? (i := 14) rfl)) mt_X5_at mn_RX5 mc_X5_at md_X5_at ⟨rfl, rfl, Nat.le_of_ble_eq_true rfl, Nat.le_of_ble_eq_true rfl⟩ rfl hl.1 rfl (Nat.le_of_ble_eq_true rfl) dX2_wetHours_36 ⟨Nat.zero_le _, Nat.zero_le _⟩ (fun r19 μ18 hq H locs hH => ?_)
    refine lv_iadd hx hb dX2_wetHours_39 ?_
    refine lv_aload_n hx hb dX2_wetHours_40 rfl (lv_at hl 0 rfl) ?_
    refine x_get (j := 1) (C := RX2) (T := TX2) (N := 7) (v := .int (μ18.1 q1 1)) G hH hk_q1 (by decide) rfl inlX2 (by decide) (wm_3 _ (List.mem_of_getElem? (i := 20) rfl)) rfl dX2_wetHours_41 ?_
    refine lv_isub hx hb dX2_wetHours_44 ?_
    refine lv_topi (fun v20 e_v20 => ?_)
    have hq := hq v20 e_v20
    refine lv_istore (lv' := [(5, .int v20), (0, .ref (ad q1)), (1, .ref (ad q2)), (2, .int a3), (4, .int a4), (3, .int a5)]) hx hb dX2_wetHours_45 hl (by decide) rfl (fun ls hl => ?_)
    refine lv_aload_n hx hb dX2_wetHours_47 rfl (lv_at hl 1 rfl) ?_
    refine x_get (j := 6) (C := RX2) (T := TX2) (N := 7) (v := .ref (ad (rt q1 6))) G hH hk_q1 (by decide) rfl inlX2 (by decide) (wm_4 _ (List.mem_of_getElem? (i := 1) rfl)) rfl dX2_wetHours_48 ?_
    refine lv_iload hx hb dX2_wetHours_51 (lv_at hl 4 rfl) ?_
    refine x_cSi (As := [.ref (ad (rt q1 6)), .int a4]) (rest := []) G hH hA (c_X5_at l E ad μ18 (rt q1 6) a4 (kt_1_6 _ hk_q1) _ hq) (wm_26 _ (List.mem_of_getElem? (i := 14) rfl)) mt_X5_at mn_RX5 mc_X5_at md_X5_at ⟨rfl, rfl, Nat.le_of_ble_eq_true rfl, Nat.le_of_ble_eq_true rfl⟩ rfl hl.1 rfl (Nat.le_of_ble_eq_true rfl) dX2_wetHours_53 ⟨Nat.zero_le _, Nat.zero_le _⟩ (fun r22 μ21 hq H locs hH => ?_)
    refine lv_iload_n hx hb dX2_wetHours_56 rfl (lv_at hl 3 rfl) ?_
    refine lv_iushr (v := (uS r22 a3)) hx hb dX2_wetHours_57 rfl ?_
    refine lv_iconst (v := (1 : Int32)) hx hb dX2_wetHours_58 (by decide) ?_
    refine lv_iand hx hb dX2_wetHours_59 ?_
    refine lv_iconst (v := (1 : Int32)) hx hb dX2_wetHours_60 (by decide) ?_
    refine lv_icmp_ne (tgt := 71) hx hb dX2_wetHours_61 (by decide) (fun c23 => ?_) (fun c23 => ?_)
    · have hq := hq.1 c23
      obtain ⟨v24, e_v24⟩ : ∃ y : Int32, y = (a4 + (1 : Int32)) := ⟨_, rfl⟩
      have hq := hq v24 e_v24
      refine lv_iinc (v := v24) (lv' := [(4, .int v24), (5, .int v20), (0, .ref (ad q1)), (1, .ref (ad q2)), (2, .int a3), (3, .int a5)]) hx hb dX2_wetHours_71 hl (k := 4) rfl (by rw [e_v24]; rfl) (by decide) rfl (fun ls hl => ?_)
      refine lv_goto (tgt := 5) hx hb dX2_wetHours_74 (by decide) ?_
      exact kK5b v24 a5 μ21 hq _ _ _ hH (lv_sub hl [2, 3, 4, 0, 5] rfl)
    · have hq := hq.2 c23
      refine lv_iload_n hx hb dX2_wetHours_64 rfl (lv_at hl 5 rfl) ?_
      refine lv_iload hx hb dX2_wetHours_65 (lv_at hl 0 rfl) ?_
      refine va_mmax hx hb (by rw [hml]; exact hl.1.symm) hown (hts _ (wm_29 _ (List.mem_of_getElem? (i := 2) rfl))) (hts _ (wm_29 _ (List.mem_of_getElem? (i := 3) rfl))) (hts _ (wm_8 _ (List.mem_of_getElem? (i := 9) rfl))) (hts _ (wm_29 _ (List.mem_of_getElem? (i := 4) rfl))) (Nat.le_of_ble_eq_true rfl) (Nat.le_of_ble_eq_true rfl) (Nat.zero_le _) (Nat.zero_le _) dX2_wetHours_67 ?_
      refine lv_topi (fun v25 e_v25 => ?_)
      have hq := hq v25 e_v25
      refine lv_istore_n (lv' := [(3, .int v25), (5, .int v20), (0, .ref (ad q1)), (1, .ref (ad q2)), (2, .int a3), (4, .int a4)]) hx hb dX2_wetHours_70 rfl hl (by decide) rfl (fun ls hl => ?_)
      obtain ⟨v26, e_v26⟩ : ∃ y : Int32, y = (a4 + (1 : Int32)) := ⟨_, rfl⟩
      have hq := hq v26 e_v26
      refine lv_iinc (v := v26) (lv' := [(4, .int v26), (3, .int v25), (5, .int v20), (0, .ref (ad q1)), (1, .ref (ad q2)), (2, .int a3)]) hx hb dX2_wetHours_71 hl (k := 5) rfl (by rw [e_v26]; rfl) (by decide) rfl (fun ls hl => ?_)
      refine lv_goto (tgt := 5) hx hb dX2_wetHours_74 (by decide) ?_
      exact kK5b v26 v25 μ21 hq _ _ _ hH (lv_sub hl [3, 4, 5, 0, 1] rfl)
set_option maxRecDepth 100000 in
set_option maxHeartbeats 4000000 in
theorem w_X2_wetHours_5 {E : xE} {ad : Nat → Nat} {p : Program} {l : Launch} {e : Env} {s : State} {m : MethodId} {args : Array Value} {below : List Frame} {meth : Method} {c : Code} {Q : State → Prop} (G : xG E p s m args meth c cX2_wetHours 6 RX2) (hA : ∀ a, s.heap.size ≤ a → xA ad s.heap.size a) (q1 : Nat) (q2 : Nat) (a3 : Int32) (hk_q1 : kd q1 = 1) (hk_q2 : kd q2 = 0) : ∀ (n : Nat) (a4 : Int32) (a5 : Int32) (μ7 : xM) (K50 : Int32 → xM → Prop) (hq : L_X2_wetHours_5 q1 q2 a3 n a4 a5 μ7 K50) (H : Heap) (locs : List Loc) (ls : Array Slot) (hH : xH E ad (xA ad s.heap.size) s.heap μ7 H locs) (hl : lv_has ls 6 [(0, .ref (ad q1)), (1, .ref (ad q2)), (2, .int a3), (4, .int a4), (3, .int a5)]) (kK50 : ∀ (a8 : Int32) (μ9 : xM), K50 a8 μ9 → ∀ (H : Heap) (locs : List Loc) (ls : Array Slot), xH E ad (xA ad s.heap.size) s.heap μ9 H locs → lv_has ls 6 [(3, .int a8)] → W p l e (headSpec tX2_wetHours ({ frames := 2, cells := 0, slots := 0, locals := 80 } : Room)).room s m args below meth c H locs 0 0 Q (F0 m 77 ls [])) , W p l e (headSpec tX2_wetHours ({ frames := 2, cells := 0, slots := 0, locals := 80 } : Room)).room s m args below meth c H locs 0 0 Q (F0 m 5 ls [])
  | 0, _, _, _, _, hq, _, _, _, _, _, _ => hq.elim
  | n + 1, a4, a5, μ7, K50, hq, H, locs, ls, hH, hl, kK50 => wb_X2_wetHours_5 G hA q1 q2 a3 hk_q1 hk_q2 a4 a5 μ7 K50 _ hq hH hl kK50 (fun x0 x1 y hq H locs ls hH hl => w_X2_wetHours_5 G hA q1 q2 a3 hk_q1 hk_q2 n x0 x1 y K50 hq H locs ls hH hl kK50)
set_option maxRecDepth 100000 in
set_option maxHeartbeats 4000000 in
theorem c_X2_wetHours (l : Launch) (E : xE) (ad : Nat → Nat) (μ : xM) (q0 : Nat) (q1 : Nat) (p2 : Int32) (hk_q0 : kd q0 = 1) (hk_q1 : kd q1 = 0) (Qm : Int32 → xM → Prop) (hq : p_X2_wetHours q0 q1 p2 μ Qm) : xMi l yX2_wetHours tX2_wetHours ({ frames := 2, cells := 0, slots := 0, locals := 80 } : Room) E ad μ [.ref (ad q0), .ref (ad q1), .int p2] Qm := by
  refine x_sti (cc := cX2_wetHours) (maxL := 6) (ret := (some .int)) (own := RX2) rfl (by decide) rfl (Nat.le_of_ble_eq_true rfl) ?_
  intro p e s m args below meth c ls G hr hA hH hl
  obtain ⟨hx, hb, hml, hown, hts, hKn, hN, hlk⟩ := id G
  have hl : lv_has ls 6 [(0, .ref (ad q0)), (1, .ref (ad q1)), (2, .int p2)] := hl
  have hH : xH E ad (xA ad s.heap.size) s.heap μ s.heap [] := hH
  unfold p_X2_wetHours at hq
  refine lv_iconst (v := (0 : Int32)) hx hb dX2_wetHours_0 (by decide) ?_
  refine lv_istore_n (lv' := [(3, .int (0 : Int32)), (0, .ref (ad q0)), (1, .ref (ad q1)), (2, .int p2)]) hx hb dX2_wetHours_1 rfl hl (by decide) rfl (fun ls hl => ?_)
  refine lv_iconst (v := (0 : Int32)) hx hb dX2_wetHours_2 (by decide) ?_
  refine lv_istore (lv' := [(4, .int (0 : Int32)), (3, .int (0 : Int32)), (0, .ref (ad q0)), (1, .ref (ad q1)), (2, .int p2)]) hx hb dX2_wetHours_3 hl (by decide) rfl (fun ls hl => ?_)
  obtain ⟨n6, hq⟩ := hq
  refine w_X2_wetHours_5 G hA q0 q1 p2 hk_q0 hk_q1 n6 (0 : Int32) (0 : Int32) μ _ hq _ _ _ hH (lv_sub hl [2, 3, 4, 0, 1] rfl) (fun a27 μ28 hq H locs ls hH hl => ?_)
  refine lv_iload_n hx hb dX2_wetHours_77 rfl (lv_at hl 0 rfl) ?_
  exact x_iret G hr hH hq dX2_wetHours_78
abbrev tX11_cell : List Cond := Cond.code yX11_cell cX11_cell 4 (some .int) :: wsL_law
theorem mi_X11_cell : Cond.instanceMethod yX11_cell ∈ wsL_law := (wm_28 _ (List.mem_of_getElem? (i := 14) rfl))
theorem ms_X11_cell : Cond.selects RX11 yX11_cell yX11_cell ∈ wsL_law := (wm_28 _ (List.mem_of_getElem? (i := 15) rfl))
theorem mc_X11_cell : Cond.code yX11_cell cX11_cell 4 (some .int) ∈ wsL_law := (wm_28 _ (List.mem_of_getElem? (i := 16) rfl))
theorem md_X11_cell : yX11_cell.cls ≠ "java/lang/invoke/MethodHandle" ∧ yX11_cell.cls ≠ "java/lang/invoke/VarHandle" ∧ (parseMethodDescriptor yX11_cell.desc).map (fun d => d.parameters.length) = some 2 := by decide +kernel
set_option maxRecDepth 100000 in
set_option maxHeartbeats 4000000 in
theorem c_X11_cell (l : Launch) (E : xE) (ad : Nat → Nat) (μ : xM) (q0 : Nat) (p1 : Int32) (p2 : Int32) (hk_q0 : kd q0 = 9) (Qm : Int32 → xM → Prop) (hq : p_X11_cell q0 p1 p2 μ Qm) : xMi l yX11_cell tX11_cell ({ frames := 3, cells := 0, slots := 0, locals := 120 } : Room) E ad μ [.ref (ad q0), .int p1, .int p2] Qm := by
  refine x_sti (cc := cX11_cell) (maxL := 4) (ret := (some .int)) (own := RX11) rfl (by decide) rfl (Nat.le_of_ble_eq_true rfl) ?_
  intro p e s m args below meth c ls G hr hA hH hl
  obtain ⟨hx, hb, hml, hown, hts, hKn, hN, hlk⟩ := id G
  have hl : lv_has ls 4 [(0, .ref (ad q0)), (1, .int p1), (2, .int p2)] := hl
  have hH : xH E ad (xA ad s.heap.size) s.heap μ s.heap [] := hH
  unfold p_X11_cell at hq
  refine lv_iload_n hx hb dX11_cell_0 rfl (lv_at hl 1 rfl) ?_
  refine lv_iconst (v := (0 : Int32)) hx hb dX11_cell_1 (by decide) ?_
  refine lv_bipush (v := (15 : Int32)) hx hb dX11_cell_2 (by decide) ?_
  refine x_cSi (As := [.int p1, .int (0 : Int32), .int (15 : Int32)]) (rest := []) G hH hA (c_X11_within l E ad μ p1 (0 : Int32) (15 : Int32)  _ hq) (wm_7 _ (List.mem_of_getElem? (i := 20) rfl)) mt_X11_within mn_RX11 mc_X11_within md_X11_within ⟨rfl, rfl, Nat.le_of_ble_eq_true rfl, Nat.le_of_ble_eq_true rfl⟩ rfl hl.1 rfl (Nat.le_of_ble_eq_true rfl) dX11_cell_4 ⟨Nat.zero_le _, Nat.zero_le _⟩ (fun r2 μ1 hq H locs hH => ?_)
  refine lv_if_eq (tgt := 19) hx hb dX11_cell_7 (by decide) (fun c3 => ?_) (fun c3 => ?_)
  · have hq := hq.1 c3
    refine lv_aload_n hx hb dX11_cell_19 rfl (lv_at hl 0 rfl) ?_
    refine lv_bipush (v := (-2 : Int32)) hx hb dX11_cell_20 (by decide) ?_
    refine x_cVi (C := RX11) (T := TX11) (N := 8) (As := [.int (-2 : Int32)]) (rest := []) G hH hA (c_X11_refuse l E ad μ1 q0 (-2 : Int32) hk_q0 _ hq) (wm_7 _ (List.mem_of_getElem? (i := 23) rfl)) mi_X11_refuse ms_X11_refuse mn_RX11 mc_X11_refuse rfl md_X11_refuse ⟨rfl, rfl, Nat.le_of_ble_eq_true rfl, Nat.le_of_ble_eq_true rfl⟩ hk_q0 (by decide) rfl rfl hl.1 rfl (Nat.le_of_ble_eq_true rfl) dX11_cell_22 ⟨Nat.zero_le _, Nat.zero_le _⟩ (fun r5 μ4 hq H locs hH => ?_)
    exact x_iret G hr hH hq dX11_cell_25
  · have hq := hq.2 c3
    refine lv_iload_n hx hb dX11_cell_10 rfl (lv_at hl 2 rfl) ?_
    refine lv_iconst (v := (0 : Int32)) hx hb dX11_cell_11 (by decide) ?_
    refine lv_iconst (v := (3 : Int32)) hx hb dX11_cell_12 (by decide) ?_
    refine x_cSi (As := [.int p2, .int (0 : Int32), .int (3 : Int32)]) (rest := []) G hH hA (c_X11_within l E ad μ1 p2 (0 : Int32) (3 : Int32)  _ hq) (wm_7 _ (List.mem_of_getElem? (i := 20) rfl)) mt_X11_within mn_RX11 mc_X11_within md_X11_within ⟨rfl, rfl, Nat.le_of_ble_eq_true rfl, Nat.le_of_ble_eq_true rfl⟩ rfl hl.1 rfl (Nat.le_of_ble_eq_true rfl) dX11_cell_13 ⟨Nat.zero_le _, Nat.zero_le _⟩ (fun r7 μ6 hq H locs hH => ?_)
    refine lv_if_ne (tgt := 26) hx hb dX11_cell_16 (by decide) (fun c8 => ?_) (fun c8 => ?_)
    · have hq := hq.1 c8
      refine lv_aload_n hx hb dX11_cell_26 rfl (lv_at hl 0 rfl) ?_
      refine x_get (j := 0) (C := RX11) (T := TX11) (N := 8) (v := .ref (ad (rt q0 0))) G hH hk_q0 (by decide) rfl inlX11 (by decide) (wm_1 _ (List.mem_of_getElem? (i := 15) rfl)) rfl dX11_cell_27 ?_
      refine x_get (j := 1) (C := RX9) (T := TX9) (N := 3) (v := .ref (ad (rt (rt q0 0) 1))) G hH (kt_9_0 _ hk_q0) (by decide) rfl inlX9 (by decide) (wm_26 _ (List.mem_of_getElem? (i := 4) rfl)) rfl dX11_cell_30 ?_
      refine x_get (j := 0) (C := RX2) (T := TX2) (N := 7) (v := .ref (ad (rt (rt (rt q0 0) 1) 0))) G hH (kt_7_1 _ (kt_9_0 _ hk_q0)) (by decide) rfl inlX2 (by decide) (wm_28 _ (List.mem_of_getElem? (i := 17) rfl)) rfl dX11_cell_33 ?_
      refine lv_astore_n (lv' := [(3, .ref (ad (rt (rt (rt q0 0) 1) 0))), (0, .ref (ad q0)), (1, .int p1), (2, .int p2)]) hx hb dX11_cell_36 rfl hl (by decide) rfl (fun ls hl => ?_)
      refine lv_iload_n hx hb dX11_cell_37 rfl (lv_at hl 3 rfl) ?_
      rcases Decidable.em (p2 = (0 : Int32)) with c9 | c9
      · refine lv_tableIn (off := 26) (tgt := 64) hx hb dX11_cell_38 (by rw [c9]; decide) (by rw [c9]; decide) (by rw [c9]; rfl) (by decide) ?_
        have hq := hq.1 c9
        refine lv_aload_n hx hb dX11_cell_64 rfl (lv_at hl 0 rfl) ?_
        refine x_get (j := 0) (C := RX7) (T := TX7) (N := 3) (v := .long (μ6.2 (rt (rt (rt q0 0) 1) 0) 0)) G hH (kt_1_0 _ (kt_7_1 _ (kt_9_0 _ hk_q0))) (by decide) rfl inlX7 (by decide) (wm_28 _ (List.mem_of_getElem? (i := 18) rfl)) rfl dX11_cell_65 ?_
        refine lv_iload_n hx hb dX11_cell_68 rfl (lv_at hl 2 rfl) ?_
        refine x_cSi (As := [.long (μ6.2 (rt (rt (rt q0 0) 1) 0) 0), .int p1]) (rest := []) G hH hA (c_X1_nibble l E ad μ6 (μ6.2 (rt (rt (rt q0 0) 1) 0) 0) p1  _ hq) (wm_15 _ (List.mem_of_getElem? (i := 1) rfl)) mt_X1_nibble mn_RX1 mc_X1_nibble md_X1_nibble ⟨rfl, rfl, Nat.le_of_ble_eq_true rfl, Nat.le_of_ble_eq_true rfl⟩ rfl hl.1 rfl (Nat.le_of_ble_eq_true rfl) dX11_cell_69 ⟨Nat.zero_le _, Nat.zero_le _⟩ (fun r11 μ10 hq H locs hH => ?_)
        exact x_iret G hr hH hq dX11_cell_72
      · have hq := hq.2 c9
        rcases Decidable.em (p2 = (1 : Int32)) with c12 | c12
        · refine lv_tableIn (off := 35) (tgt := 73) hx hb dX11_cell_38 (by rw [c12]; decide) (by rw [c12]; decide) (by rw [c12]; rfl) (by decide) ?_
          have hq := hq.1 c12
          refine lv_aload_n hx hb dX11_cell_73 rfl (lv_at hl 0 rfl) ?_
          refine x_get (j := 1) (C := RX7) (T := TX7) (N := 3) (v := .long (μ6.2 (rt (rt (rt q0 0) 1) 0) 1)) G hH (kt_1_0 _ (kt_7_1 _ (kt_9_0 _ hk_q0))) (by decide) rfl inlX7 (by decide) (wm_28 _ (List.mem_of_getElem? (i := 19) rfl)) rfl dX11_cell_74 ?_
          refine lv_iload_n hx hb dX11_cell_77 rfl (lv_at hl 2 rfl) ?_
          refine x_cSi (As := [.long (μ6.2 (rt (rt (rt q0 0) 1) 0) 1), .int p1]) (rest := []) G hH hA (c_X1_nibble l E ad μ6 (μ6.2 (rt (rt (rt q0 0) 1) 0) 1) p1  _ hq) (wm_15 _ (List.mem_of_getElem? (i := 1) rfl)) mt_X1_nibble mn_RX1 mc_X1_nibble md_X1_nibble ⟨rfl, rfl, Nat.le_of_ble_eq_true rfl, Nat.le_of_ble_eq_true rfl⟩ rfl hl.1 rfl (Nat.le_of_ble_eq_true rfl) dX11_cell_78 ⟨Nat.zero_le _, Nat.zero_le _⟩ (fun r14 μ13 hq H locs hH => ?_)
          exact x_iret G hr hH hq dX11_cell_81
        · have hq := hq.2 c12
          rcases Decidable.em (p2 = (2 : Int32)) with c15 | c15
          · refine lv_tableIn (off := 44) (tgt := 82) hx hb dX11_cell_38 (by rw [c15]; decide) (by rw [c15]; decide) (by rw [c15]; rfl) (by decide) ?_
            have hq := hq.1 c15
            refine lv_aload_n hx hb dX11_cell_82 rfl (lv_at hl 0 rfl) ?_
            refine x_get (j := 2) (C := RX7) (T := TX7) (N := 3) (v := .int (μ6.1 (rt (rt (rt q0 0) 1) 0) 2)) G hH (kt_1_0 _ (kt_7_1 _ (kt_9_0 _ hk_q0))) (by decide) rfl inlX7 (by decide) (wm_28 _ (List.mem_of_getElem? (i := 20) rfl)) rfl dX11_cell_83 ?_
            refine lv_iload_n hx hb dX11_cell_86 rfl (lv_at hl 2 rfl) ?_
            refine lv_iushr (v := (uS (μ6.1 (rt (rt (rt q0 0) 1) 0) 2) p1)) hx hb dX11_cell_87 rfl ?_
            refine lv_iconst (v := (1 : Int32)) hx hb dX11_cell_88 (by decide) ?_
            refine lv_iand hx hb dX11_cell_89 ?_
            exact x_iret G hr hH hq dX11_cell_90
          · have hq := hq.2 c15
            have gc9 := lv_neT c9 (a := 0) (by decide)
            have gc12 := lv_neT c12 (a := 1) (by decide)
            have gc15 := lv_neT c15 (a := 2) (by decide)
            refine lv_tableOut (tgt := 91) hx hb dX11_cell_38 (by omega) (by decide) ?_
            refine lv_aload_n hx hb dX11_cell_91 rfl (lv_at hl 1 rfl) ?_
            refine x_get (j := 0) (C := RX11) (T := TX11) (N := 8) (v := .ref (ad (rt q0 0))) G hH hk_q0 (by decide) rfl inlX11 (by decide) (wm_1 _ (List.mem_of_getElem? (i := 15) rfl)) rfl dX11_cell_92 ?_
            refine x_get (j := 1) (C := RX9) (T := TX9) (N := 3) (v := .ref (ad (rt (rt q0 0) 1))) G hH (kt_9_0 _ hk_q0) (by decide) rfl inlX9 (by decide) (wm_26 _ (List.mem_of_getElem? (i := 4) rfl)) rfl dX11_cell_95 ?_
            refine lv_aload_n hx hb dX11_cell_98 rfl (lv_at hl 1 rfl) ?_
            refine x_get (j := 0) (C := RX11) (T := TX11) (N := 8) (v := .ref (ad (rt q0 0))) G hH hk_q0 (by decide) rfl inlX11 (by decide) (wm_1 _ (List.mem_of_getElem? (i := 15) rfl)) rfl dX11_cell_99 ?_
            refine x_get (j := 0) (C := RX9) (T := TX9) (N := 3) (v := .ref (ad (rt (rt q0 0) 0))) G hH (kt_9_0 _ hk_q0) (by decide) rfl inlX9 (by decide) (wm_1 _ (List.mem_of_getElem? (i := 23) rfl)) rfl dX11_cell_102 ?_
            refine lv_iload_n hx hb dX11_cell_105 rfl (lv_at hl 2 rfl) ?_
            refine x_cVi (C := RX2) (T := TX2) (N := 7) (As := [.ref (ad (rt (rt q0 0) 0)), .int p1]) (rest := []) G hH hA (c_X2_wetHours l E ad μ6 (rt (rt q0 0) 1) (rt (rt q0 0) 0) p1 (kt_7_1 _ (kt_9_0 _ hk_q0)) (kt_7_0 _ (kt_9_0 _ hk_q0)) _ hq) (wm_28 _ (List.mem_of_getElem? (i := 21) rfl)) mi_X2_wetHours ms_X2_wetHours mn_RX2 mc_X2_wetHours rfl md_X2_wetHours ⟨rfl, rfl, Nat.le_of_ble_eq_true rfl, Nat.le_of_ble_eq_true rfl⟩ (kt_7_1 _ (kt_9_0 _ hk_q0)) (by decide) rfl rfl hl.1 rfl (Nat.le_of_ble_eq_true rfl) dX11_cell_106 ⟨Nat.zero_le _, Nat.zero_le _⟩ (fun r17 μ16 hq H locs hH => ?_)
            exact x_iret G hr hH hq dX11_cell_109
    · have hq := hq.2 c8
      refine lv_aload_n hx hb dX11_cell_19 rfl (lv_at hl 0 rfl) ?_
      refine lv_bipush (v := (-2 : Int32)) hx hb dX11_cell_20 (by decide) ?_
      refine x_cVi (C := RX11) (T := TX11) (N := 8) (As := [.int (-2 : Int32)]) (rest := []) G hH hA (c_X11_refuse l E ad μ6 q0 (-2 : Int32) hk_q0 _ hq) (wm_7 _ (List.mem_of_getElem? (i := 23) rfl)) mi_X11_refuse ms_X11_refuse mn_RX11 mc_X11_refuse rfl md_X11_refuse ⟨rfl, rfl, Nat.le_of_ble_eq_true rfl, Nat.le_of_ble_eq_true rfl⟩ hk_q0 (by decide) rfl rfl hl.1 rfl (Nat.le_of_ble_eq_true rfl) dX11_cell_22 ⟨Nat.zero_le _, Nat.zero_le _⟩ (fun r19 μ18 hq H locs hH => ?_)
      exact x_iret G hr hH hq dX11_cell_25
abbrev tX11_clear : List Cond := Cond.code yX11_clear cX11_clear 2 (some .int) :: wsL_law
theorem mi_X11_clear : Cond.instanceMethod yX11_clear ∈ wsL_law := (wm_31 _ (List.mem_of_getElem? (i := 18) rfl))
theorem ms_X11_clear : Cond.selects RX11 yX11_clear yX11_clear ∈ wsL_law := (wm_31 _ (List.mem_of_getElem? (i := 19) rfl))
theorem mc_X11_clear : Cond.code yX11_clear cX11_clear 2 (some .int) ∈ wsL_law := (wm_31 _ (List.mem_of_getElem? (i := 20) rfl))
theorem md_X11_clear : yX11_clear.cls ≠ "java/lang/invoke/MethodHandle" ∧ yX11_clear.cls ≠ "java/lang/invoke/VarHandle" ∧ (parseMethodDescriptor yX11_clear.desc).map (fun d => d.parameters.length) = some 0 := by decide +kernel
set_option maxRecDepth 100000 in
set_option maxHeartbeats 4000000 in
theorem c_X11_clear (l : Launch) (E : xE) (ad : Nat → Nat) (μ : xM) (q0 : Nat) (hk_q0 : kd q0 = 9) (Qm : Int32 → xM → Prop) (hq : p_X11_clear q0 μ Qm) : xMi l yX11_clear tX11_clear ({ frames := 1, cells := 0, slots := 0, locals := 40 } : Room) E ad μ [.ref (ad q0)] Qm := by
  refine x_sti (cc := cX11_clear) (maxL := 2) (ret := (some .int)) (own := RX11) rfl (by decide) rfl (Nat.le_of_ble_eq_true rfl) ?_
  intro p e s m args below meth c ls G hr hA hH hl
  obtain ⟨hx, hb, hml, hown, hts, hKn, hN, hlk⟩ := id G
  have hl : lv_has ls 2 [(0, .ref (ad q0))] := hl
  have hH : xH E ad (xA ad s.heap.size) s.heap μ s.heap [] := hH
  unfold p_X11_clear at hq
  refine lv_aload_n hx hb dX11_clear_0 rfl (lv_at hl 0 rfl) ?_
  refine x_get (j := 3) (C := RX11) (T := TX11) (N := 8) (v := .ref (ad (rt q0 3))) G hH hk_q0 (by decide) rfl inlX11 (by decide) (wm_2 _ (List.mem_of_getElem? (i := 4) rfl)) rfl dX11_clear_1 ?_
  refine x_get (j := 1) (C := RX10) (T := TX10) (N := 2) (v := .int (μ.1 (rt q0 3) 1)) G hH (kt_9_3 _ hk_q0) (by decide) rfl inlX10 (by decide) (wm_31 _ (List.mem_of_getElem? (i := 6) rfl)) rfl dX11_clear_4 ?_
  refine lv_topi (fun v1 e_v1 => ?_)
  have hq := hq v1 e_v1
  refine lv_istore_n (lv' := [(1, .int v1), (0, .ref (ad q0))]) hx hb dX11_clear_7 rfl hl (by decide) rfl (fun ls hl => ?_)
  refine lv_aload_n hx hb dX11_clear_8 rfl (lv_at hl 1 rfl) ?_
  refine x_get (j := 3) (C := RX11) (T := TX11) (N := 8) (v := .ref (ad (rt q0 3))) G hH hk_q0 (by decide) rfl inlX11 (by decide) (wm_2 _ (List.mem_of_getElem? (i := 4) rfl)) rfl dX11_clear_9 ?_
  refine lv_iconst (v := (0 : Int32)) hx hb dX11_clear_12 (by decide) ?_
  refine x_puti (j := 1) (C := RX10) (T := TX10) (N := 2) (ty := .int) G hH (kt_9_3 _ hk_q0) (by decide) rfl inlX10 tyX10 tyX10_ok nmX10 (by decide) (wm_31 _ (List.mem_of_getElem? (i := 6) rfl)) rfl (by decide +kernel) rfl rfl (fun _ _ => Nat.le_of_ble_eq_true rfl) (fun _ _ => rfl) dX11_clear_13 (fun μ2 e_μ2 H locs hH => ?_)
  have hq := hq μ2 e_μ2
  refine lv_iload_n hx hb dX11_clear_16 rfl (lv_at hl 0 rfl) ?_
  exact x_iret G hr hH hq dX11_clear_17
abbrev tX0_placeOf : List Cond := Cond.code yX0_placeOf cX0_placeOf 2 (some .int) :: wsL_law
theorem mi_X0_placeOf : Cond.instanceMethod yX0_placeOf ∈ wsL_law := (wm_12 _ (List.mem_of_getElem? (i := 4) rfl))
theorem ms_X0_placeOf : Cond.selects RX0 yX0_placeOf yX0_placeOf ∈ wsL_law := (wm_12 _ (List.mem_of_getElem? (i := 5) rfl))
theorem mc_X0_placeOf : Cond.code yX0_placeOf cX0_placeOf 2 (some .int) ∈ wsL_law := (wm_12 _ (List.mem_of_getElem? (i := 6) rfl))
theorem md_X0_placeOf : yX0_placeOf.cls ≠ "java/lang/invoke/MethodHandle" ∧ yX0_placeOf.cls ≠ "java/lang/invoke/VarHandle" ∧ (parseMethodDescriptor yX0_placeOf.desc).map (fun d => d.parameters.length) = some 1 := by decide +kernel
set_option maxRecDepth 100000 in
set_option maxHeartbeats 4000000 in
theorem c_X0_placeOf (l : Launch) (E : xE) (ad : Nat → Nat) (μ : xM) (q0 : Nat) (p1 : Int32) (hk_q0 : kd q0 = 0) (Qm : Int32 → xM → Prop) (hq : p_X0_placeOf q0 p1 μ Qm) : xMi l yX0_placeOf tX0_placeOf ({ frames := 2, cells := 0, slots := 0, locals := 80 } : Room) E ad μ [.ref (ad q0), .int p1] Qm := by
  refine x_sti (cc := cX0_placeOf) (maxL := 2) (ret := (some .int)) (own := RX0) rfl (by decide) rfl (Nat.le_of_ble_eq_true rfl) ?_
  intro p e s m args below meth c ls G hr hA hH hl
  obtain ⟨hx, hb, hml, hown, hts, hKn, hN, hlk⟩ := id G
  have hl : lv_has ls 2 [(0, .ref (ad q0)), (1, .int p1)] := hl
  have hH : xH E ad (xA ad s.heap.size) s.heap μ s.heap [] := hH
  unfold p_X0_placeOf at hq
  refine lv_aload_n hx hb dX0_placeOf_0 rfl (lv_at hl 0 rfl) ?_
  refine x_get (j := 7) (C := RX0) (T := TX0) (N := 9) (v := .ref (ad (rt q0 7))) G hH hk_q0 (by decide) rfl inlX0 (by decide) (wm_3 _ (List.mem_of_getElem? (i := 11) rfl)) rfl dX0_placeOf_1 ?_
  refine lv_iload_n hx hb dX0_placeOf_4 rfl (lv_at hl 1 rfl) ?_
  refine x_cSi (As := [.ref (ad (rt q0 7)), .int p1]) (rest := []) G hH hA (c_X5_at l E ad μ (rt q0 7) p1 (kt_0_7 _ hk_q0) _ hq) (wm_10 _ (List.mem_of_getElem? (i := 3) rfl)) mt_X5_at mn_RX5 mc_X5_at md_X5_at ⟨rfl, rfl, Nat.le_of_ble_eq_true rfl, Nat.le_of_ble_eq_true rfl⟩ rfl hl.1 rfl (Nat.le_of_ble_eq_true rfl) dX0_placeOf_5 ⟨Nat.zero_le _, Nat.zero_le _⟩ (fun r2 μ1 hq H locs hH => ?_)
  exact x_iret G hr hH hq dX0_placeOf_8
abbrev tJ6_bitCount_0f7a4 : List Cond := Cond.code yJ6_bitCount_0f7a4 cJ6_bitCount_0f7a4 1 (some .int) :: wsL_law
theorem mt_J6_bitCount_0f7a4 : Cond.static yJ6_bitCount_0f7a4 ∈ wsL_law := (wm_12 _ (List.mem_of_getElem? (i := 8) rfl))
theorem mc_J6_bitCount_0f7a4 : Cond.code yJ6_bitCount_0f7a4 cJ6_bitCount_0f7a4 1 (some .int) ∈ wsL_law := (wm_12 _ (List.mem_of_getElem? (i := 10) rfl))
theorem md_J6_bitCount_0f7a4 : yJ6_bitCount_0f7a4.cls ≠ "java/lang/invoke/MethodHandle" ∧ yJ6_bitCount_0f7a4.cls ≠ "java/lang/invoke/VarHandle" ∧ (parseMethodDescriptor yJ6_bitCount_0f7a4.desc).map (fun d => d.parameters.length) = some 1 := by decide +kernel
set_option maxRecDepth 100000 in
set_option maxHeartbeats 4000000 in
theorem c_J6_bitCount_0f7a4 (l : Launch) (E : xE) (ad : Nat → Nat) (μ : xM) (p1 : Int32) (Qm : Int32 → xM → Prop) (hq : p_J6_bitCount_0f7a4 p1 μ Qm) : xMi l yJ6_bitCount_0f7a4 tJ6_bitCount_0f7a4 ({ frames := 1, cells := 0, slots := 0, locals := 40 } : Room) E ad μ [.int p1] Qm := by
  refine x_sti (cc := cJ6_bitCount_0f7a4) (maxL := 1) (ret := (some .int)) (own := RJ6) rfl (by decide) rfl (Nat.le_of_ble_eq_true rfl) ?_
  intro p e s m args below meth c ls G hr hA hH hl
  obtain ⟨hx, hb, hml, hown, hts, hKn, hN, hlk⟩ := id G
  have hl : lv_has ls 1 [(0, .int p1)] := hl
  have hH : xH E ad (xA ad s.heap.size) s.heap μ s.heap [] := hH
  unfold p_J6_bitCount_0f7a4 at hq
  refine lv_iload_n hx hb dJ6_bitCount_0f7a4_0 rfl (lv_at hl 0 rfl) ?_
  refine lv_iload_n hx hb dJ6_bitCount_0f7a4_1 rfl (lv_at hl 0 rfl) ?_
  refine lv_iconst (v := (1 : Int32)) hx hb dJ6_bitCount_0f7a4_2 (by decide) ?_
  refine lv_iushr (v := (uS p1 (1 : Int32))) hx hb dJ6_bitCount_0f7a4_3 rfl ?_
  refine lv_ldcw hx hb hown (hts _ (wm_12 _ (List.mem_of_getElem? (i := 11) rfl))) dJ6_bitCount_0f7a4_4 ?_
  refine lv_iand hx hb dJ6_bitCount_0f7a4_7 ?_
  refine lv_isub hx hb dJ6_bitCount_0f7a4_8 ?_
  refine lv_topi (fun v1 e_v1 => ?_)
  have hq := hq v1 e_v1
  refine lv_istore_n (lv' := [(0, .int v1)]) hx hb dJ6_bitCount_0f7a4_9 rfl hl (by decide) rfl (fun ls hl => ?_)
  refine lv_iload_n hx hb dJ6_bitCount_0f7a4_10 rfl (lv_at hl 0 rfl) ?_
  refine lv_ldcw hx hb hown (hts _ (wm_12 _ (List.mem_of_getElem? (i := 12) rfl))) dJ6_bitCount_0f7a4_11 ?_
  refine lv_iand hx hb dJ6_bitCount_0f7a4_14 ?_
  refine lv_iload_n hx hb dJ6_bitCount_0f7a4_15 rfl (lv_at hl 0 rfl) ?_
  refine lv_iconst (v := (2 : Int32)) hx hb dJ6_bitCount_0f7a4_16 (by decide) ?_
  refine lv_iushr (v := (uS v1 (2 : Int32))) hx hb dJ6_bitCount_0f7a4_17 rfl ?_
  refine lv_ldcw hx hb hown (hts _ (wm_12 _ (List.mem_of_getElem? (i := 12) rfl))) dJ6_bitCount_0f7a4_18 ?_
  refine lv_iand hx hb dJ6_bitCount_0f7a4_21 ?_
  refine lv_iadd hx hb dJ6_bitCount_0f7a4_22 ?_
  refine lv_topi (fun v2 e_v2 => ?_)
  have hq := hq v2 e_v2
  refine lv_istore_n (lv' := [(0, .int v2)]) hx hb dJ6_bitCount_0f7a4_23 rfl hl (by decide) rfl (fun ls hl => ?_)
  refine lv_iload_n hx hb dJ6_bitCount_0f7a4_24 rfl (lv_at hl 0 rfl) ?_
  refine lv_iload_n hx hb dJ6_bitCount_0f7a4_25 rfl (lv_at hl 0 rfl) ?_
  refine lv_iconst (v := (4 : Int32)) hx hb dJ6_bitCount_0f7a4_26 (by decide) ?_
  refine lv_iushr (v := (uS v2 (4 : Int32))) hx hb dJ6_bitCount_0f7a4_27 rfl ?_
  refine lv_iadd hx hb dJ6_bitCount_0f7a4_28 ?_
  refine lv_ldcw hx hb hown (hts _ (wm_12 _ (List.mem_of_getElem? (i := 13) rfl))) dJ6_bitCount_0f7a4_29 ?_
  refine lv_iand hx hb dJ6_bitCount_0f7a4_32 ?_
  refine lv_topi (fun v3 e_v3 => ?_)
  have hq := hq v3 e_v3
  refine lv_istore_n (lv' := [(0, .int v3)]) hx hb dJ6_bitCount_0f7a4_33 rfl hl (by decide) rfl (fun ls hl => ?_)
  refine lv_iload_n hx hb dJ6_bitCount_0f7a4_34 rfl (lv_at hl 0 rfl) ?_
  refine lv_iload_n hx hb dJ6_bitCount_0f7a4_35 rfl (lv_at hl 0 rfl) ?_
  refine lv_bipush (v := (8 : Int32)) hx hb dJ6_bitCount_0f7a4_36 (by decide) ?_
  refine lv_iushr (v := (uS v3 (8 : Int32))) hx hb dJ6_bitCount_0f7a4_38 rfl ?_
  refine lv_iadd hx hb dJ6_bitCount_0f7a4_39 ?_
  refine lv_topi (fun v4 e_v4 => ?_)
  have hq := hq v4 e_v4
  refine lv_istore_n (lv' := [(0, .int v4)]) hx hb dJ6_bitCount_0f7a4_40 rfl hl (by decide) rfl (fun ls hl => ?_)
  refine lv_iload_n hx hb dJ6_bitCount_0f7a4_41 rfl (lv_at hl 0 rfl) ?_
  refine lv_iload_n hx hb dJ6_bitCount_0f7a4_42 rfl (lv_at hl 0 rfl) ?_
  refine lv_bipush (v := (16 : Int32)) hx hb dJ6_bitCount_0f7a4_43 (by decide) ?_
  refine lv_iushr (v := (uS v4 (16 : Int32))) hx hb dJ6_bitCount_0f7a4_45 rfl ?_
  refine lv_iadd hx hb dJ6_bitCount_0f7a4_46 ?_
  refine lv_topi (fun v5 e_v5 => ?_)
  have hq := hq v5 e_v5
  refine lv_istore_n (lv' := [(0, .int v5)]) hx hb dJ6_bitCount_0f7a4_47 rfl hl (by decide) rfl (fun ls hl => ?_)
  refine lv_iload_n hx hb dJ6_bitCount_0f7a4_48 rfl (lv_at hl 0 rfl) ?_
  refine lv_bipush (v := (63 : Int32)) hx hb dJ6_bitCount_0f7a4_49 (by decide) ?_
  refine lv_iand hx hb dJ6_bitCount_0f7a4_51 ?_
  exact x_iret G hr hH hq dJ6_bitCount_0f7a4_52
abbrev tX11_common : List Cond := Cond.code yX11_common cX11_common 5 (some .int) :: wsL_law
theorem mi_X11_common : Cond.instanceMethod yX11_common ∈ wsL_law := (wm_16 _ (List.mem_of_getElem? (i := 10) rfl))
theorem ms_X11_common : Cond.selects RX11 yX11_common yX11_common ∈ wsL_law := (wm_16 _ (List.mem_of_getElem? (i := 11) rfl))
theorem mc_X11_common : Cond.code yX11_common cX11_common 5 (some .int) ∈ wsL_law := (wm_16 _ (List.mem_of_getElem? (i := 12) rfl))
theorem md_X11_common : yX11_common.cls ≠ "java/lang/invoke/MethodHandle" ∧ yX11_common.cls ≠ "java/lang/invoke/VarHandle" ∧ (parseMethodDescriptor yX11_common.desc).map (fun d => d.parameters.length) = some 3 := by decide +kernel
set_option maxRecDepth 100000 in
set_option maxHeartbeats 4000000 in
theorem c_X11_common (l : Launch) (E : xE) (ad : Nat → Nat) (μ : xM) (q0 : Nat) (p1 : Int32) (p2 : Int32) (p3 : Int32) (hk_q0 : kd q0 = 9) (Qm : Int32 → xM → Prop) (hq : p_X11_common q0 p1 p2 p3 μ Qm) : xMi l yX11_common tX11_common ({ frames := 3, cells := 0, slots := 0, locals := 120 } : Room) E ad μ [.ref (ad q0), .int p1, .int p2, .int p3] Qm := by
  refine x_sti (cc := cX11_common) (maxL := 5) (ret := (some .int)) (own := RX11) rfl (by decide) rfl (Nat.le_of_ble_eq_true rfl) ?_
  intro p e s m args below meth c ls G hr hA hH hl
  obtain ⟨hx, hb, hml, hown, hts, hKn, hN, hlk⟩ := id G
  have hl : lv_has ls 5 [(0, .ref (ad q0)), (1, .int p1), (2, .int p2), (3, .int p3)] := hl
  have hH : xH E ad (xA ad s.heap.size) s.heap μ s.heap [] := hH
  unfold p_X11_common at hq
  refine lv_aload_n hx hb dX11_common_0 rfl (lv_at hl 0 rfl) ?_
  refine x_get (j := 0) (C := RX11) (T := TX11) (N := 8) (v := .ref (ad (rt q0 0))) G hH hk_q0 (by decide) rfl inlX11 (by decide) (wm_1 _ (List.mem_of_getElem? (i := 15) rfl)) rfl dX11_common_1 ?_
  refine x_get (j := 0) (C := RX9) (T := TX9) (N := 3) (v := .ref (ad (rt (rt q0 0) 0))) G hH (kt_9_0 _ hk_q0) (by decide) rfl inlX9 (by decide) (wm_1 _ (List.mem_of_getElem? (i := 23) rfl)) rfl dX11_common_4 ?_
  refine lv_iload_n hx hb dX11_common_7 rfl (lv_at hl 1 rfl) ?_
  refine lv_iload_n hx hb dX11_common_8 rfl (lv_at hl 2 rfl) ?_
  refine x_cVi (C := RX0) (T := TX0) (N := 9) (As := [.int p1, .int p2]) (rest := []) G hH hA (c_X0_areUnlike l E ad μ (rt (rt q0 0) 0) p1 p2 (kt_7_0 _ (kt_9_0 _ hk_q0)) _ hq) (wm_14 _ (List.mem_of_getElem? (i := 3) rfl)) mi_X0_areUnlike ms_X0_areUnlike mn_RX0 mc_X0_areUnlike rfl md_X0_areUnlike ⟨rfl, rfl, Nat.le_of_ble_eq_true rfl, Nat.le_of_ble_eq_true rfl⟩ (kt_7_0 _ (kt_9_0 _ hk_q0)) (by decide) rfl rfl hl.1 rfl (Nat.le_of_ble_eq_true rfl) dX11_common_9 ⟨Nat.zero_le _, Nat.zero_le _⟩ (fun r2 μ1 hq H locs hH => ?_)
  refine lv_if_eq (tgt := 24) hx hb dX11_common_12 (by decide) (fun c3 => ?_) (fun c3 => ?_)
  · have hq := hq.1 c3
    refine lv_aload_n hx hb dX11_common_24 rfl (lv_at hl 0 rfl) ?_
    refine lv_bipush (v := (-2 : Int32)) hx hb dX11_common_25 (by decide) ?_
    refine x_cVi (C := RX11) (T := TX11) (N := 8) (As := [.int (-2 : Int32)]) (rest := []) G hH hA (c_X11_refuse l E ad μ1 q0 (-2 : Int32) hk_q0 _ hq) (wm_7 _ (List.mem_of_getElem? (i := 23) rfl)) mi_X11_refuse ms_X11_refuse mn_RX11 mc_X11_refuse rfl md_X11_refuse ⟨rfl, rfl, Nat.le_of_ble_eq_true rfl, Nat.le_of_ble_eq_true rfl⟩ hk_q0 (by decide) rfl rfl hl.1 rfl (Nat.le_of_ble_eq_true rfl) dX11_common_27 ⟨Nat.zero_le _, Nat.zero_le _⟩ (fun r5 μ4 hq H locs hH => ?_)
    exact x_iret G hr hH hq dX11_common_30
  · have hq := hq.2 c3
    refine lv_iload_n hx hb dX11_common_15 rfl (lv_at hl 3 rfl) ?_
    refine lv_iconst (v := (0 : Int32)) hx hb dX11_common_16 (by decide) ?_
    refine lv_iconst (v := (1 : Int32)) hx hb dX11_common_17 (by decide) ?_
    refine x_cSi (As := [.int p3, .int (0 : Int32), .int (1 : Int32)]) (rest := []) G hH hA (c_X11_within l E ad μ1 p3 (0 : Int32) (1 : Int32)  _ hq) (wm_7 _ (List.mem_of_getElem? (i := 20) rfl)) mt_X11_within mn_RX11 mc_X11_within md_X11_within ⟨rfl, rfl, Nat.le_of_ble_eq_true rfl, Nat.le_of_ble_eq_true rfl⟩ rfl hl.1 rfl (Nat.le_of_ble_eq_true rfl) dX11_common_18 ⟨Nat.zero_le _, Nat.zero_le _⟩ (fun r7 μ6 hq H locs hH => ?_)
    refine lv_if_ne (tgt := 31) hx hb dX11_common_21 (by decide) (fun c8 => ?_) (fun c8 => ?_)
    · have hq := hq.1 c8
      refine lv_aload_n hx hb dX11_common_31 rfl (lv_at hl 0 rfl) ?_
      refine x_get (j := 0) (C := RX11) (T := TX11) (N := 8) (v := .ref (ad (rt q0 0))) G hH hk_q0 (by decide) rfl inlX11 (by decide) (wm_1 _ (List.mem_of_getElem? (i := 15) rfl)) rfl dX11_common_32 ?_
      refine x_get (j := 0) (C := RX9) (T := TX9) (N := 3) (v := .ref (ad (rt (rt q0 0) 0))) G hH (kt_9_0 _ hk_q0) (by decide) rfl inlX9 (by decide) (wm_1 _ (List.mem_of_getElem? (i := 23) rfl)) rfl dX11_common_35 ?_
      refine lv_iload_n hx hb dX11_common_38 rfl (lv_at hl 1 rfl) ?_
      refine x_cVi (C := RX0) (T := TX0) (N := 9) (As := [.int p1]) (rest := []) G hH hA (c_X0_placeOf l E ad μ6 (rt (rt q0 0) 0) p1 (kt_7_0 _ (kt_9_0 _ hk_q0)) _ hq) (wm_12 _ (List.mem_of_getElem? (i := 3) rfl)) mi_X0_placeOf ms_X0_placeOf mn_RX0 mc_X0_placeOf rfl md_X0_placeOf ⟨rfl, rfl, Nat.le_of_ble_eq_true rfl, Nat.le_of_ble_eq_true rfl⟩ (kt_7_0 _ (kt_9_0 _ hk_q0)) (by decide) rfl rfl hl.1 rfl (Nat.le_of_ble_eq_true rfl) dX11_common_39 ⟨Nat.zero_le _, Nat.zero_le _⟩ (fun r10 μ9 hq H locs hH => ?_)
      refine lv_aload_n hx hb dX11_common_42 rfl (lv_at hl 0 rfl) ?_
      refine x_get (j := 0) (C := RX11) (T := TX11) (N := 8) (v := .ref (ad (rt q0 0))) G hH hk_q0 (by decide) rfl inlX11 (by decide) (wm_1 _ (List.mem_of_getElem? (i := 15) rfl)) rfl dX11_common_43 ?_
      refine x_get (j := 0) (C := RX9) (T := TX9) (N := 3) (v := .ref (ad (rt (rt q0 0) 0))) G hH (kt_9_0 _ hk_q0) (by decide) rfl inlX9 (by decide) (wm_1 _ (List.mem_of_getElem? (i := 23) rfl)) rfl dX11_common_46 ?_
      refine lv_iload_n hx hb dX11_common_49 rfl (lv_at hl 2 rfl) ?_
      refine x_cVi (C := RX0) (T := TX0) (N := 9) (As := [.int p2]) (rest := [.int r10]) G hH hA (c_X0_placeOf l E ad μ9 (rt (rt q0 0) 0) p2 (kt_7_0 _ (kt_9_0 _ hk_q0)) _ hq) (wm_12 _ (List.mem_of_getElem? (i := 3) rfl)) mi_X0_placeOf ms_X0_placeOf mn_RX0 mc_X0_placeOf rfl md_X0_placeOf ⟨rfl, rfl, Nat.le_of_ble_eq_true rfl, Nat.le_of_ble_eq_true rfl⟩ (kt_7_0 _ (kt_9_0 _ hk_q0)) (by decide) rfl rfl hl.1 rfl (Nat.le_of_ble_eq_true rfl) dX11_common_50 ⟨Nat.zero_le _, Nat.zero_le _⟩ (fun r12 μ11 hq H locs hH => ?_)
      refine lv_iand hx hb dX11_common_53 ?_
      refine lv_topi (fun v13 e_v13 => ?_)
      have hq := hq v13 e_v13
      refine lv_istore (lv' := [(4, .int v13), (0, .ref (ad q0)), (1, .int p1), (2, .int p2), (3, .int p3)]) hx hb dX11_common_54 hl (by decide) rfl (fun ls hl => ?_)
      refine lv_iload_n hx hb dX11_common_56 rfl (lv_at hl 4 rfl) ?_
      refine lv_if_ne (tgt := 68) hx hb dX11_common_57 (by decide) (fun c14 => ?_) (fun c14 => ?_)
      · have hq := hq.1 c14
        refine lv_iload hx hb dX11_common_68 (lv_at hl 0 rfl) ?_
        exact x_iret G hr hH hq dX11_common_70
      · have hq := hq.2 c14
        refine lv_iload hx hb dX11_common_60 (lv_at hl 0 rfl) ?_
        refine x_cSi (As := [.int v13]) (rest := []) G hH hA (c_J6_bitCount_0f7a4 l E ad μ11 v13  _ hq) (wm_12 _ (List.mem_of_getElem? (i := 7) rfl)) mt_J6_bitCount_0f7a4 mn_RJ6 mc_J6_bitCount_0f7a4 md_J6_bitCount_0f7a4 ⟨rfl, rfl, Nat.le_of_ble_eq_true rfl, Nat.le_of_ble_eq_true rfl⟩ rfl hl.1 rfl (Nat.le_of_ble_eq_true rfl) dX11_common_62 ⟨Nat.zero_le _, Nat.zero_le _⟩ (fun r16 μ15 hq H locs hH => ?_)
        refine lv_goto (tgt := 70) hx hb dX11_common_65 (by decide) ?_
        exact x_iret G hr hH hq dX11_common_70
    · have hq := hq.2 c8
      refine lv_aload_n hx hb dX11_common_24 rfl (lv_at hl 0 rfl) ?_
      refine lv_bipush (v := (-2 : Int32)) hx hb dX11_common_25 (by decide) ?_
      refine x_cVi (C := RX11) (T := TX11) (N := 8) (As := [.int (-2 : Int32)]) (rest := []) G hH hA (c_X11_refuse l E ad μ6 q0 (-2 : Int32) hk_q0 _ hq) (wm_7 _ (List.mem_of_getElem? (i := 23) rfl)) mi_X11_refuse ms_X11_refuse mn_RX11 mc_X11_refuse rfl md_X11_refuse ⟨rfl, rfl, Nat.le_of_ble_eq_true rfl, Nat.le_of_ble_eq_true rfl⟩ hk_q0 (by decide) rfl rfl hl.1 rfl (Nat.le_of_ble_eq_true rfl) dX11_common_27 ⟨Nat.zero_le _, Nat.zero_le _⟩ (fun r18 μ17 hq H locs hH => ?_)
      exact x_iret G hr hH hq dX11_common_30
abbrev tX11_told : List Cond := Cond.code yX11_told cX11_told 2 (some .int) :: wsL_law
theorem mi_X11_told : Cond.instanceMethod yX11_told ∈ wsL_law := (wm_36 _ (List.mem_of_getElem? (i := 13) rfl))
theorem ms_X11_told : Cond.selects RX11 yX11_told yX11_told ∈ wsL_law := (wm_36 _ (List.mem_of_getElem? (i := 14) rfl))
theorem mc_X11_told : Cond.code yX11_told cX11_told 2 (some .int) ∈ wsL_law := (wm_36 _ (List.mem_of_getElem? (i := 15) rfl))
theorem md_X11_told : yX11_told.cls ≠ "java/lang/invoke/MethodHandle" ∧ yX11_told.cls ≠ "java/lang/invoke/VarHandle" ∧ (parseMethodDescriptor yX11_told.desc).map (fun d => d.parameters.length) = some 1 := by decide +kernel
set_option maxRecDepth 100000 in
set_option maxHeartbeats 4000000 in
theorem c_X11_told (l : Launch) (E : xE) (ad : Nat → Nat) (μ : xM) (q0 : Nat) (p1 : Int32) (hk_q0 : kd q0 = 9) (Qm : Int32 → xM → Prop) (hq : p_X11_told q0 p1 μ Qm) : xMi l yX11_told tX11_told ({ frames := 2, cells := 0, slots := 0, locals := 80 } : Room) E ad μ [.ref (ad q0), .int p1] Qm := by
  refine x_sti (cc := cX11_told) (maxL := 2) (ret := (some .int)) (own := RX11) rfl (by decide) rfl (Nat.le_of_ble_eq_true rfl) ?_
  intro p e s m args below meth c ls G hr hA hH hl
  obtain ⟨hx, hb, hml, hown, hts, hKn, hN, hlk⟩ := id G
  have hl : lv_has ls 2 [(0, .ref (ad q0)), (1, .int p1)] := hl
  have hH : xH E ad (xA ad s.heap.size) s.heap μ s.heap [] := hH
  unfold p_X11_told at hq
  refine lv_iload_n hx hb dX11_told_0 rfl (lv_at hl 1 rfl) ?_
  rcases Decidable.em (p1 = (0 : Int32)) with c1 | c1
  · refine lv_tableIn (off := 39) (tgt := 40) hx hb dX11_told_1 (by rw [c1]; decide) (by rw [c1]; decide) (by rw [c1]; rfl) (by decide) ?_
    have hq := hq.1 c1
    refine lv_aload_n hx hb dX11_told_40 rfl (lv_at hl 0 rfl) ?_
    refine x_get (j := 5) (C := RX11) (T := TX11) (N := 8) (v := .int (μ.1 q0 5)) G hH hk_q0 (by decide) rfl inlX11 (by decide) (wm_2 _ (List.mem_of_getElem? (i := 9) rfl)) rfl dX11_told_41 ?_
    exact x_iret G hr hH hq dX11_told_44
  · have hq := hq.2 c1
    rcases Decidable.em (p1 = (1 : Int32)) with c2 | c2
    · refine lv_tableIn (off := 44) (tgt := 45) hx hb dX11_told_1 (by rw [c2]; decide) (by rw [c2]; decide) (by rw [c2]; rfl) (by decide) ?_
      have hq := hq.1 c2
      refine lv_aload_n hx hb dX11_told_45 rfl (lv_at hl 0 rfl) ?_
      refine x_get (j := 6) (C := RX11) (T := TX11) (N := 8) (v := .int (μ.1 q0 6)) G hH hk_q0 (by decide) rfl inlX11 (by decide) (wm_2 _ (List.mem_of_getElem? (i := 10) rfl)) rfl dX11_told_46 ?_
      exact x_iret G hr hH hq dX11_told_49
    · have hq := hq.2 c2
      rcases Decidable.em (p1 = (2 : Int32)) with c3 | c3
      · refine lv_tableIn (off := 49) (tgt := 50) hx hb dX11_told_1 (by rw [c3]; decide) (by rw [c3]; decide) (by rw [c3]; rfl) (by decide) ?_
        have hq := hq.1 c3
        refine lv_aload_n hx hb dX11_told_50 rfl (lv_at hl 0 rfl) ?_
        refine x_get (j := 7) (C := RX11) (T := TX11) (N := 8) (v := .int (μ.1 q0 7)) G hH hk_q0 (by decide) rfl inlX11 (by decide) (wm_2 _ (List.mem_of_getElem? (i := 11) rfl)) rfl dX11_told_51 ?_
        exact x_iret G hr hH hq dX11_told_54
      · have hq := hq.2 c3
        rcases Decidable.em (p1 = (3 : Int32)) with c4 | c4
        · refine lv_tableIn (off := 54) (tgt := 55) hx hb dX11_told_1 (by rw [c4]; decide) (by rw [c4]; decide) (by rw [c4]; rfl) (by decide) ?_
          have hq := hq.1 c4
          refine lv_aload_n hx hb dX11_told_55 rfl (lv_at hl 0 rfl) ?_
          refine x_get (j := 3) (C := RX11) (T := TX11) (N := 8) (v := .ref (ad (rt q0 3))) G hH hk_q0 (by decide) rfl inlX11 (by decide) (wm_2 _ (List.mem_of_getElem? (i := 4) rfl)) rfl dX11_told_56 ?_
          refine x_get (j := 1) (C := RX10) (T := TX10) (N := 2) (v := .int (μ.1 (rt q0 3) 1)) G hH (kt_9_3 _ hk_q0) (by decide) rfl inlX10 (by decide) (wm_31 _ (List.mem_of_getElem? (i := 6) rfl)) rfl dX11_told_59 ?_
          exact x_iret G hr hH hq dX11_told_62
        · have hq := hq.2 c4
          rcases Decidable.em (p1 = (4 : Int32)) with c5 | c5
          · refine lv_tableIn (off := 62) (tgt := 63) hx hb dX11_told_1 (by rw [c5]; decide) (by rw [c5]; decide) (by rw [c5]; rfl) (by decide) ?_
            have hq := hq.1 c5
            refine lv_aload_n hx hb dX11_told_63 rfl (lv_at hl 0 rfl) ?_
            refine x_get (j := 0) (C := RX11) (T := TX11) (N := 8) (v := .ref (ad (rt q0 0))) G hH hk_q0 (by decide) rfl inlX11 (by decide) (wm_1 _ (List.mem_of_getElem? (i := 15) rfl)) rfl dX11_told_64 ?_
            refine x_get (j := 0) (C := RX9) (T := TX9) (N := 3) (v := .ref (ad (rt (rt q0 0) 0))) G hH (kt_9_0 _ hk_q0) (by decide) rfl inlX9 (by decide) (wm_1 _ (List.mem_of_getElem? (i := 23) rfl)) rfl dX11_told_67 ?_
            refine x_get (j := 0) (C := RX0) (T := TX0) (N := 9) (v := .int (μ.1 (rt (rt q0 0) 0) 0)) G hH (kt_7_0 _ (kt_9_0 _ hk_q0)) (by decide) rfl inlX0 (by decide) (wm_7 _ (List.mem_of_getElem? (i := 19) rfl)) rfl dX11_told_70 ?_
            exact x_iret G hr hH hq dX11_told_73
          · have hq := hq.2 c5
            rcases Decidable.em (p1 = (5 : Int32)) with c6 | c6
            · refine lv_tableIn (off := 73) (tgt := 74) hx hb dX11_told_1 (by rw [c6]; decide) (by rw [c6]; decide) (by rw [c6]; rfl) (by decide) ?_
              have hq := hq.1 c6
              refine lv_aload_n hx hb dX11_told_74 rfl (lv_at hl 0 rfl) ?_
              refine x_get (j := 1) (C := RX11) (T := TX11) (N := 8) (v := .ref (ad (rt q0 1))) G hH hk_q0 (by decide) rfl inlX11 (by decide) (wm_1 _ (List.mem_of_getElem? (i := 19) rfl)) rfl dX11_told_75 ?_
              refine x_get (j := 2) (C := RX3) (T := TX3) (N := 3) (v := .int (μ.1 (rt q0 1) 2)) G hH (kt_9_1 _ hk_q0) (by decide) rfl inlX3 (by decide) (wm_36 _ (List.mem_of_getElem? (i := 3) rfl)) rfl dX11_told_78 ?_
              exact x_iret G hr hH hq dX11_told_81
            · have hq := hq.2 c6
              have gc1 := lv_neT c1 (a := 0) (by decide)
              have gc2 := lv_neT c2 (a := 1) (by decide)
              have gc3 := lv_neT c3 (a := 2) (by decide)
              have gc4 := lv_neT c4 (a := 3) (by decide)
              have gc5 := lv_neT c5 (a := 4) (by decide)
              have gc6 := lv_neT c6 (a := 5) (by decide)
              refine lv_tableOut (tgt := 82) hx hb dX11_told_1 (by omega) (by decide) ?_
              refine lv_aload_n hx hb dX11_told_82 rfl (lv_at hl 0 rfl) ?_
              refine lv_bipush (v := (-2 : Int32)) hx hb dX11_told_83 (by decide) ?_
              refine x_cVi (C := RX11) (T := TX11) (N := 8) (As := [.int (-2 : Int32)]) (rest := []) G hH hA (c_X11_refuse l E ad μ q0 (-2 : Int32) hk_q0 _ hq) (wm_7 _ (List.mem_of_getElem? (i := 23) rfl)) mi_X11_refuse ms_X11_refuse mn_RX11 mc_X11_refuse rfl md_X11_refuse ⟨rfl, rfl, Nat.le_of_ble_eq_true rfl, Nat.le_of_ble_eq_true rfl⟩ hk_q0 (by decide) rfl rfl hl.1 rfl (Nat.le_of_ble_eq_true rfl) dX11_told_85 ⟨Nat.zero_le _, Nat.zero_le _⟩ (fun r8 μ7 hq H locs hH => ?_)
              exact x_iret G hr hH hq dX11_told_88
abbrev tX11_of : List Cond := Cond.code yX11_of cX11_of 3 (some .int) :: wsL_law
theorem mi_X11_of : Cond.instanceMethod yX11_of ∈ wsL_law := (wm_15 _ (List.mem_of_getElem? (i := 14) rfl))
theorem ms_X11_of : Cond.selects RX11 yX11_of yX11_of ∈ wsL_law := (wm_15 _ (List.mem_of_getElem? (i := 15) rfl))
theorem mc_X11_of : Cond.code yX11_of cX11_of 3 (some .int) ∈ wsL_law := (wm_15 _ (List.mem_of_getElem? (i := 16) rfl))
theorem md_X11_of : yX11_of.cls ≠ "java/lang/invoke/MethodHandle" ∧ yX11_of.cls ≠ "java/lang/invoke/VarHandle" ∧ (parseMethodDescriptor yX11_of.desc).map (fun d => d.parameters.length) = some 2 := by decide +kernel
set_option maxRecDepth 100000 in
set_option maxHeartbeats 4000000 in
theorem c_X11_of (l : Launch) (E : xE) (ad : Nat → Nat) (μ : xM) (q0 : Nat) (p1 : Int32) (p2 : Int32) (hk_q0 : kd q0 = 9) (Qm : Int32 → xM → Prop) (hq : p_X11_of q0 p1 p2 μ Qm) : xMi l yX11_of tX11_of ({ frames := 3, cells := 0, slots := 0, locals := 120 } : Room) E ad μ [.ref (ad q0), .int p1, .int p2] Qm := by
  refine x_sti (cc := cX11_of) (maxL := 3) (ret := (some .int)) (own := RX11) rfl (by decide) rfl (Nat.le_of_ble_eq_true rfl) ?_
  intro p e s m args below meth c ls G hr hA hH hl
  obtain ⟨hx, hb, hml, hown, hts, hKn, hN, hlk⟩ := id G
  have hl : lv_has ls 3 [(0, .ref (ad q0)), (1, .int p1), (2, .int p2)] := hl
  have hH : xH E ad (xA ad s.heap.size) s.heap μ s.heap [] := hH
  unfold p_X11_of at hq
  refine lv_aload_n hx hb dX11_of_0 rfl (lv_at hl 0 rfl) ?_
  refine x_get (j := 0) (C := RX11) (T := TX11) (N := 8) (v := .ref (ad (rt q0 0))) G hH hk_q0 (by decide) rfl inlX11 (by decide) (wm_1 _ (List.mem_of_getElem? (i := 15) rfl)) rfl dX11_of_1 ?_
  refine x_get (j := 0) (C := RX9) (T := TX9) (N := 3) (v := .ref (ad (rt (rt q0 0) 0))) G hH (kt_9_0 _ hk_q0) (by decide) rfl inlX9 (by decide) (wm_1 _ (List.mem_of_getElem? (i := 23) rfl)) rfl dX11_of_4 ?_
  refine lv_iload_n hx hb dX11_of_7 rfl (lv_at hl 1 rfl) ?_
  refine x_cVi (C := RX0) (T := TX0) (N := 9) (As := [.int p1]) (rest := []) G hH hA (c_X0_has l E ad μ (rt (rt q0 0) 0) p1 (kt_7_0 _ (kt_9_0 _ hk_q0)) _ hq) (wm_11 _ (List.mem_of_getElem? (i := 22) rfl)) mi_X0_has ms_X0_has mn_RX0 mc_X0_has rfl md_X0_has ⟨rfl, rfl, Nat.le_of_ble_eq_true rfl, Nat.le_of_ble_eq_true rfl⟩ (kt_7_0 _ (kt_9_0 _ hk_q0)) (by decide) rfl rfl hl.1 rfl (Nat.le_of_ble_eq_true rfl) dX11_of_8 ⟨Nat.zero_le _, Nat.zero_le _⟩ (fun r2 μ1 hq H locs hH => ?_)
  refine lv_if_eq (tgt := 24) hx hb dX11_of_11 (by decide) (fun c3 => ?_) (fun c3 => ?_)
  · have hq := hq.1 c3
    refine lv_aload_n hx hb dX11_of_24 rfl (lv_at hl 0 rfl) ?_
    refine lv_bipush (v := (-2 : Int32)) hx hb dX11_of_25 (by decide) ?_
    refine x_cVi (C := RX11) (T := TX11) (N := 8) (As := [.int (-2 : Int32)]) (rest := []) G hH hA (c_X11_refuse l E ad μ1 q0 (-2 : Int32) hk_q0 _ hq) (wm_7 _ (List.mem_of_getElem? (i := 23) rfl)) mi_X11_refuse ms_X11_refuse mn_RX11 mc_X11_refuse rfl md_X11_refuse ⟨rfl, rfl, Nat.le_of_ble_eq_true rfl, Nat.le_of_ble_eq_true rfl⟩ hk_q0 (by decide) rfl rfl hl.1 rfl (Nat.le_of_ble_eq_true rfl) dX11_of_27 ⟨Nat.zero_le _, Nat.zero_le _⟩ (fun r5 μ4 hq H locs hH => ?_)
    exact x_iret G hr hH hq dX11_of_30
  · have hq := hq.2 c3
    refine lv_iload_n hx hb dX11_of_14 rfl (lv_at hl 2 rfl) ?_
    refine lv_iconst (v := (0 : Int32)) hx hb dX11_of_15 (by decide) ?_
    refine lv_bipush (v := (7 : Int32)) hx hb dX11_of_16 (by decide) ?_
    refine x_cSi (As := [.int p2, .int (0 : Int32), .int (7 : Int32)]) (rest := []) G hH hA (c_X11_within l E ad μ1 p2 (0 : Int32) (7 : Int32)  _ hq) (wm_7 _ (List.mem_of_getElem? (i := 20) rfl)) mt_X11_within mn_RX11 mc_X11_within md_X11_within ⟨rfl, rfl, Nat.le_of_ble_eq_true rfl, Nat.le_of_ble_eq_true rfl⟩ rfl hl.1 rfl (Nat.le_of_ble_eq_true rfl) dX11_of_18 ⟨Nat.zero_le _, Nat.zero_le _⟩ (fun r7 μ6 hq H locs hH => ?_)
    refine lv_if_ne (tgt := 31) hx hb dX11_of_21 (by decide) (fun c8 => ?_) (fun c8 => ?_)
    · have hq := hq.1 c8
      refine lv_iload_n hx hb dX11_of_31 rfl (lv_at hl 2 rfl) ?_
      rcases Decidable.em (p2 = (0 : Int32)) with c9 | c9
      · refine lv_tableIn (off := 44) (tgt := 76) hx hb dX11_of_32 (by rw [c9]; decide) (by rw [c9]; decide) (by rw [c9]; rfl) (by decide) ?_
        have hq := hq.1 c9
        refine lv_aload_n hx hb dX11_of_76 rfl (lv_at hl 0 rfl) ?_
        refine x_get (j := 0) (C := RX11) (T := TX11) (N := 8) (v := .ref (ad (rt q0 0))) G hH hk_q0 (by decide) rfl inlX11 (by decide) (wm_1 _ (List.mem_of_getElem? (i := 15) rfl)) rfl dX11_of_77 ?_
        refine x_get (j := 0) (C := RX9) (T := TX9) (N := 3) (v := .ref (ad (rt (rt q0 0) 0))) G hH (kt_9_0 _ hk_q0) (by decide) rfl inlX9 (by decide) (wm_1 _ (List.mem_of_getElem? (i := 23) rfl)) rfl dX11_of_80 ?_
        refine x_get (j := 1) (C := RX0) (T := TX0) (N := 9) (v := .ref (ad (rt (rt (rt q0 0) 0) 1))) G hH (kt_7_0 _ (kt_9_0 _ hk_q0)) (by decide) rfl inlX0 (by decide) (wm_15 _ (List.mem_of_getElem? (i := 17) rfl)) rfl dX11_of_83 ?_
        refine lv_iload_n hx hb dX11_of_86 rfl (lv_at hl 1 rfl) ?_
        refine x_cSi (As := [.ref (ad (rt (rt (rt q0 0) 0) 1)), .int p1]) (rest := []) G hH hA (c_X5_at l E ad μ6 (rt (rt (rt q0 0) 0) 1) p1 (kt_0_1 _ (kt_7_0 _ (kt_9_0 _ hk_q0))) _ hq) (wm_16 _ (List.mem_of_getElem? (i := 0) rfl)) mt_X5_at mn_RX5 mc_X5_at md_X5_at ⟨rfl, rfl, Nat.le_of_ble_eq_true rfl, Nat.le_of_ble_eq_true rfl⟩ rfl hl.1 rfl (Nat.le_of_ble_eq_true rfl) dX11_of_87 ⟨Nat.zero_le _, Nat.zero_le _⟩ (fun r11 μ10 hq H locs hH => ?_)
        exact x_iret G hr hH hq dX11_of_90
      · have hq := hq.2 c9
        rcases Decidable.em (p2 = (1 : Int32)) with c12 | c12
        · refine lv_tableIn (off := 59) (tgt := 91) hx hb dX11_of_32 (by rw [c12]; decide) (by rw [c12]; decide) (by rw [c12]; rfl) (by decide) ?_
          have hq := hq.1 c12
          refine lv_aload_n hx hb dX11_of_91 rfl (lv_at hl 0 rfl) ?_
          refine x_get (j := 0) (C := RX11) (T := TX11) (N := 8) (v := .ref (ad (rt q0 0))) G hH hk_q0 (by decide) rfl inlX11 (by decide) (wm_1 _ (List.mem_of_getElem? (i := 15) rfl)) rfl dX11_of_92 ?_
          refine x_get (j := 0) (C := RX9) (T := TX9) (N := 3) (v := .ref (ad (rt (rt q0 0) 0))) G hH (kt_9_0 _ hk_q0) (by decide) rfl inlX9 (by decide) (wm_1 _ (List.mem_of_getElem? (i := 23) rfl)) rfl dX11_of_95 ?_
          refine x_get (j := 2) (C := RX0) (T := TX0) (N := 9) (v := .ref (ad (rt (rt (rt q0 0) 0) 2))) G hH (kt_7_0 _ (kt_9_0 _ hk_q0)) (by decide) rfl inlX0 (by decide) (wm_15 _ (List.mem_of_getElem? (i := 18) rfl)) rfl dX11_of_98 ?_
          refine lv_iload_n hx hb dX11_of_101 rfl (lv_at hl 1 rfl) ?_
          refine x_cSi (As := [.ref (ad (rt (rt (rt q0 0) 0) 2)), .int p1]) (rest := []) G hH hA (c_X5_at l E ad μ6 (rt (rt (rt q0 0) 0) 2) p1 (kt_0_2 _ (kt_7_0 _ (kt_9_0 _ hk_q0))) _ hq) (wm_16 _ (List.mem_of_getElem? (i := 0) rfl)) mt_X5_at mn_RX5 mc_X5_at md_X5_at ⟨rfl, rfl, Nat.le_of_ble_eq_true rfl, Nat.le_of_ble_eq_true rfl⟩ rfl hl.1 rfl (Nat.le_of_ble_eq_true rfl) dX11_of_102 ⟨Nat.zero_le _, Nat.zero_le _⟩ (fun r14 μ13 hq H locs hH => ?_)
          exact x_iret G hr hH hq dX11_of_105
        · have hq := hq.2 c12
          rcases Decidable.em (p2 = (2 : Int32)) with c15 | c15
          · refine lv_tableIn (off := 74) (tgt := 106) hx hb dX11_of_32 (by rw [c15]; decide) (by rw [c15]; decide) (by rw [c15]; rfl) (by decide) ?_
            have hq := hq.1 c15
            refine lv_aload_n hx hb dX11_of_106 rfl (lv_at hl 0 rfl) ?_
            refine x_get (j := 0) (C := RX11) (T := TX11) (N := 8) (v := .ref (ad (rt q0 0))) G hH hk_q0 (by decide) rfl inlX11 (by decide) (wm_1 _ (List.mem_of_getElem? (i := 15) rfl)) rfl dX11_of_107 ?_
            refine x_get (j := 0) (C := RX9) (T := TX9) (N := 3) (v := .ref (ad (rt (rt q0 0) 0))) G hH (kt_9_0 _ hk_q0) (by decide) rfl inlX9 (by decide) (wm_1 _ (List.mem_of_getElem? (i := 23) rfl)) rfl dX11_of_110 ?_
            refine x_get (j := 3) (C := RX0) (T := TX0) (N := 9) (v := .ref (ad (rt (rt (rt q0 0) 0) 3))) G hH (kt_7_0 _ (kt_9_0 _ hk_q0)) (by decide) rfl inlX0 (by decide) (wm_15 _ (List.mem_of_getElem? (i := 19) rfl)) rfl dX11_of_113 ?_
            refine lv_iload_n hx hb dX11_of_116 rfl (lv_at hl 1 rfl) ?_
            refine x_cSi (As := [.ref (ad (rt (rt (rt q0 0) 0) 3)), .int p1]) (rest := []) G hH hA (c_X5_at l E ad μ6 (rt (rt (rt q0 0) 0) 3) p1 (kt_0_3 _ (kt_7_0 _ (kt_9_0 _ hk_q0))) _ hq) (wm_16 _ (List.mem_of_getElem? (i := 0) rfl)) mt_X5_at mn_RX5 mc_X5_at md_X5_at ⟨rfl, rfl, Nat.le_of_ble_eq_true rfl, Nat.le_of_ble_eq_true rfl⟩ rfl hl.1 rfl (Nat.le_of_ble_eq_true rfl) dX11_of_117 ⟨Nat.zero_le _, Nat.zero_le _⟩ (fun r17 μ16 hq H locs hH => ?_)
            exact x_iret G hr hH hq dX11_of_120
          · have hq := hq.2 c15
            rcases Decidable.em (p2 = (3 : Int32)) with c18 | c18
            · refine lv_tableIn (off := 89) (tgt := 121) hx hb dX11_of_32 (by rw [c18]; decide) (by rw [c18]; decide) (by rw [c18]; rfl) (by decide) ?_
              have hq := hq.1 c18
              refine lv_aload_n hx hb dX11_of_121 rfl (lv_at hl 0 rfl) ?_
              refine x_get (j := 0) (C := RX11) (T := TX11) (N := 8) (v := .ref (ad (rt q0 0))) G hH hk_q0 (by decide) rfl inlX11 (by decide) (wm_1 _ (List.mem_of_getElem? (i := 15) rfl)) rfl dX11_of_122 ?_
              refine x_get (j := 0) (C := RX9) (T := TX9) (N := 3) (v := .ref (ad (rt (rt q0 0) 0))) G hH (kt_9_0 _ hk_q0) (by decide) rfl inlX9 (by decide) (wm_1 _ (List.mem_of_getElem? (i := 23) rfl)) rfl dX11_of_125 ?_
              refine x_get (j := 4) (C := RX0) (T := TX0) (N := 9) (v := .ref (ad (rt (rt (rt q0 0) 0) 4))) G hH (kt_7_0 _ (kt_9_0 _ hk_q0)) (by decide) rfl inlX0 (by decide) (wm_15 _ (List.mem_of_getElem? (i := 20) rfl)) rfl dX11_of_128 ?_
              refine lv_iload_n hx hb dX11_of_131 rfl (lv_at hl 1 rfl) ?_
              refine x_cSi (As := [.ref (ad (rt (rt (rt q0 0) 0) 4)), .int p1]) (rest := []) G hH hA (c_X5_at l E ad μ6 (rt (rt (rt q0 0) 0) 4) p1 (kt_0_4 _ (kt_7_0 _ (kt_9_0 _ hk_q0))) _ hq) (wm_16 _ (List.mem_of_getElem? (i := 0) rfl)) mt_X5_at mn_RX5 mc_X5_at md_X5_at ⟨rfl, rfl, Nat.le_of_ble_eq_true rfl, Nat.le_of_ble_eq_true rfl⟩ rfl hl.1 rfl (Nat.le_of_ble_eq_true rfl) dX11_of_132 ⟨Nat.zero_le _, Nat.zero_le _⟩ (fun r20 μ19 hq H locs hH => ?_)
              exact x_iret G hr hH hq dX11_of_135
            · have hq := hq.2 c18
              rcases Decidable.em (p2 = (4 : Int32)) with c21 | c21
              · refine lv_tableIn (off := 104) (tgt := 136) hx hb dX11_of_32 (by rw [c21]; decide) (by rw [c21]; decide) (by rw [c21]; rfl) (by decide) ?_
                have hq := hq.1 c21
                refine lv_aload_n hx hb dX11_of_136 rfl (lv_at hl 0 rfl) ?_
                refine x_get (j := 0) (C := RX11) (T := TX11) (N := 8) (v := .ref (ad (rt q0 0))) G hH hk_q0 (by decide) rfl inlX11 (by decide) (wm_1 _ (List.mem_of_getElem? (i := 15) rfl)) rfl dX11_of_137 ?_
                refine x_get (j := 0) (C := RX9) (T := TX9) (N := 3) (v := .ref (ad (rt (rt q0 0) 0))) G hH (kt_9_0 _ hk_q0) (by decide) rfl inlX9 (by decide) (wm_1 _ (List.mem_of_getElem? (i := 23) rfl)) rfl dX11_of_140 ?_
                refine lv_iload_n hx hb dX11_of_143 rfl (lv_at hl 1 rfl) ?_
                refine x_cVi (C := RX0) (T := TX0) (N := 9) (As := [.int p1]) (rest := []) G hH hA (c_X0_placeOf l E ad μ6 (rt (rt q0 0) 0) p1 (kt_7_0 _ (kt_9_0 _ hk_q0)) _ hq) (wm_12 _ (List.mem_of_getElem? (i := 3) rfl)) mi_X0_placeOf ms_X0_placeOf mn_RX0 mc_X0_placeOf rfl md_X0_placeOf ⟨rfl, rfl, Nat.le_of_ble_eq_true rfl, Nat.le_of_ble_eq_true rfl⟩ (kt_7_0 _ (kt_9_0 _ hk_q0)) (by decide) rfl rfl hl.1 rfl (Nat.le_of_ble_eq_true rfl) dX11_of_144 ⟨Nat.zero_le _, Nat.zero_le _⟩ (fun r23 μ22 hq H locs hH => ?_)
                exact x_iret G hr hH hq dX11_of_147
              · have hq := hq.2 c21
                rcases Decidable.em (p2 = (5 : Int32)) with c24 | c24
                · refine lv_tableIn (off := 116) (tgt := 148) hx hb dX11_of_32 (by rw [c24]; decide) (by rw [c24]; decide) (by rw [c24]; rfl) (by decide) ?_
                  have hq := hq.1 c24
                  refine lv_aload_n hx hb dX11_of_148 rfl (lv_at hl 0 rfl) ?_
                  refine x_get (j := 0) (C := RX11) (T := TX11) (N := 8) (v := .ref (ad (rt q0 0))) G hH hk_q0 (by decide) rfl inlX11 (by decide) (wm_1 _ (List.mem_of_getElem? (i := 15) rfl)) rfl dX11_of_149 ?_
                  refine x_get (j := 0) (C := RX9) (T := TX9) (N := 3) (v := .ref (ad (rt (rt q0 0) 0))) G hH (kt_9_0 _ hk_q0) (by decide) rfl inlX9 (by decide) (wm_1 _ (List.mem_of_getElem? (i := 23) rfl)) rfl dX11_of_152 ?_
                  refine x_get (j := 5) (C := RX0) (T := TX0) (N := 9) (v := .ref (ad (rt (rt (rt q0 0) 0) 5))) G hH (kt_7_0 _ (kt_9_0 _ hk_q0)) (by decide) rfl inlX0 (by decide) (wm_15 _ (List.mem_of_getElem? (i := 21) rfl)) rfl dX11_of_155 ?_
                  refine lv_iload_n hx hb dX11_of_158 rfl (lv_at hl 1 rfl) ?_
                  refine x_cSi (As := [.ref (ad (rt (rt (rt q0 0) 0) 5)), .int p1]) (rest := []) G hH hA (c_X5_at l E ad μ6 (rt (rt (rt q0 0) 0) 5) p1 (kt_0_5 _ (kt_7_0 _ (kt_9_0 _ hk_q0))) _ hq) (wm_16 _ (List.mem_of_getElem? (i := 0) rfl)) mt_X5_at mn_RX5 mc_X5_at md_X5_at ⟨rfl, rfl, Nat.le_of_ble_eq_true rfl, Nat.le_of_ble_eq_true rfl⟩ rfl hl.1 rfl (Nat.le_of_ble_eq_true rfl) dX11_of_159 ⟨Nat.zero_le _, Nat.zero_le _⟩ (fun r26 μ25 hq H locs hH => ?_)
                  refine lv_iconst (v := (3 : Int32)) hx hb dX11_of_162 (by decide) ?_
                  refine lv_iadd hx hb dX11_of_163 ?_
                  exact x_iret G hr hH hq dX11_of_164
                · have hq := hq.2 c24
                  rcases Decidable.em (p2 = (6 : Int32)) with c27 | c27
                  · refine lv_tableIn (off := 133) (tgt := 165) hx hb dX11_of_32 (by rw [c27]; decide) (by rw [c27]; decide) (by rw [c27]; rfl) (by decide) ?_
                    have hq := hq.1 c27
                    refine lv_aload_n hx hb dX11_of_165 rfl (lv_at hl 0 rfl) ?_
                    refine x_get (j := 0) (C := RX11) (T := TX11) (N := 8) (v := .ref (ad (rt q0 0))) G hH hk_q0 (by decide) rfl inlX11 (by decide) (wm_1 _ (List.mem_of_getElem? (i := 15) rfl)) rfl dX11_of_166 ?_
                    refine x_get (j := 0) (C := RX9) (T := TX9) (N := 3) (v := .ref (ad (rt (rt q0 0) 0))) G hH (kt_9_0 _ hk_q0) (by decide) rfl inlX9 (by decide) (wm_1 _ (List.mem_of_getElem? (i := 23) rfl)) rfl dX11_of_169 ?_
                    refine x_get (j := 6) (C := RX0) (T := TX0) (N := 9) (v := .ref (ad (rt (rt (rt q0 0) 0) 6))) G hH (kt_7_0 _ (kt_9_0 _ hk_q0)) (by decide) rfl inlX0 (by decide) (wm_15 _ (List.mem_of_getElem? (i := 22) rfl)) rfl dX11_of_172 ?_
                    refine lv_iload_n hx hb dX11_of_175 rfl (lv_at hl 1 rfl) ?_
                    refine x_cSi (As := [.ref (ad (rt (rt (rt q0 0) 0) 6)), .int p1]) (rest := []) G hH hA (c_X5_at l E ad μ6 (rt (rt (rt q0 0) 0) 6) p1 (kt_0_6 _ (kt_7_0 _ (kt_9_0 _ hk_q0))) _ hq) (wm_16 _ (List.mem_of_getElem? (i := 0) rfl)) mt_X5_at mn_RX5 mc_X5_at md_X5_at ⟨rfl, rfl, Nat.le_of_ble_eq_true rfl, Nat.le_of_ble_eq_true rfl⟩ rfl hl.1 rfl (Nat.le_of_ble_eq_true rfl) dX11_of_176 ⟨Nat.zero_le _, Nat.zero_le _⟩ (fun r29 μ28 hq H locs hH => ?_)
                    refine lv_iconst (v := (3 : Int32)) hx hb dX11_of_179 (by decide) ?_
                    refine lv_iadd hx hb dX11_of_180 ?_
                    exact x_iret G hr hH hq dX11_of_181
                  · have hq := hq.2 c27
                    have gc9 := lv_neT c9 (a := 0) (by decide)
                    have gc12 := lv_neT c12 (a := 1) (by decide)
                    have gc15 := lv_neT c15 (a := 2) (by decide)
                    have gc18 := lv_neT c18 (a := 3) (by decide)
                    have gc21 := lv_neT c21 (a := 4) (by decide)
                    have gc24 := lv_neT c24 (a := 5) (by decide)
                    have gc27 := lv_neT c27 (a := 6) (by decide)
                    refine lv_tableOut (tgt := 182) hx hb dX11_of_32 (by omega) (by decide) ?_
                    refine lv_aload_n hx hb dX11_of_182 rfl (lv_at hl 0 rfl) ?_
                    refine x_get (j := 0) (C := RX11) (T := TX11) (N := 8) (v := .ref (ad (rt q0 0))) G hH hk_q0 (by decide) rfl inlX11 (by decide) (wm_1 _ (List.mem_of_getElem? (i := 15) rfl)) rfl dX11_of_183 ?_
                    refine x_get (j := 0) (C := RX9) (T := TX9) (N := 3) (v := .ref (ad (rt (rt q0 0) 0))) G hH (kt_9_0 _ hk_q0) (by decide) rfl inlX9 (by decide) (wm_1 _ (List.mem_of_getElem? (i := 23) rfl)) rfl dX11_of_186 ?_
                    refine x_get (j := 8) (C := RX0) (T := TX0) (N := 9) (v := .ref (ad (rt (rt (rt q0 0) 0) 8))) G hH (kt_7_0 _ (kt_9_0 _ hk_q0)) (by decide) rfl inlX0 (by decide) (wm_15 _ (List.mem_of_getElem? (i := 23) rfl)) rfl dX11_of_189 ?_
                    refine lv_iload_n hx hb dX11_of_192 rfl (lv_at hl 1 rfl) ?_
                    refine x_cSi (As := [.ref (ad (rt (rt (rt q0 0) 0) 8)), .int p1]) (rest := []) G hH hA (c_X5_at l E ad μ6 (rt (rt (rt q0 0) 0) 8) p1 (kt_0_8 _ (kt_7_0 _ (kt_9_0 _ hk_q0))) _ hq) (wm_16 _ (List.mem_of_getElem? (i := 0) rfl)) mt_X5_at mn_RX5 mc_X5_at md_X5_at ⟨rfl, rfl, Nat.le_of_ble_eq_true rfl, Nat.le_of_ble_eq_true rfl⟩ rfl hl.1 rfl (Nat.le_of_ble_eq_true rfl) dX11_of_193 ⟨Nat.zero_le _, Nat.zero_le _⟩ (fun r31 μ30 hq H locs hH => ?_)
                    exact x_iret G hr hH hq dX11_of_196
    · have hq := hq.2 c8
      refine lv_aload_n hx hb dX11_of_24 rfl (lv_at hl 0 rfl) ?_
      refine lv_bipush (v := (-2 : Int32)) hx hb dX11_of_25 (by decide) ?_
      refine x_cVi (C := RX11) (T := TX11) (N := 8) (As := [.int (-2 : Int32)]) (rest := []) G hH hA (c_X11_refuse l E ad μ6 q0 (-2 : Int32) hk_q0 _ hq) (wm_7 _ (List.mem_of_getElem? (i := 23) rfl)) mi_X11_refuse ms_X11_refuse mn_RX11 mc_X11_refuse rfl md_X11_refuse ⟨rfl, rfl, Nat.le_of_ble_eq_true rfl, Nat.le_of_ble_eq_true rfl⟩ hk_q0 (by decide) rfl rfl hl.1 rfl (Nat.le_of_ble_eq_true rfl) dX11_of_27 ⟨Nat.zero_le _, Nat.zero_le _⟩ (fun r33 μ32 hq H locs hH => ?_)
      exact x_iret G hr hH hq dX11_of_30
abbrev tX0_mayFollow : List Cond := Cond.code yX0_mayFollow cX0_mayFollow 3 (some .boolean) :: wsL_law
theorem mi_X0_mayFollow : Cond.instanceMethod yX0_mayFollow ∈ wsL_law := (wm_18 _ (List.mem_of_getElem? (i := 4) rfl))
theorem ms_X0_mayFollow : Cond.selects RX0 yX0_mayFollow yX0_mayFollow ∈ wsL_law := (wm_18 _ (List.mem_of_getElem? (i := 5) rfl))
theorem mc_X0_mayFollow : Cond.code yX0_mayFollow cX0_mayFollow 3 (some .boolean) ∈ wsL_law := (wm_18 _ (List.mem_of_getElem? (i := 6) rfl))
theorem md_X0_mayFollow : yX0_mayFollow.cls ≠ "java/lang/invoke/MethodHandle" ∧ yX0_mayFollow.cls ≠ "java/lang/invoke/VarHandle" ∧ (parseMethodDescriptor yX0_mayFollow.desc).map (fun d => d.parameters.length) = some 2 := by decide +kernel
set_option maxRecDepth 100000 in
set_option maxHeartbeats 4000000 in
theorem c_X0_mayFollow (l : Launch) (E : xE) (ad : Nat → Nat) (μ : xM) (q0 : Nat) (p1 : Int32) (p2 : Int32) (hk_q0 : kd q0 = 0) (Qm : Int32 → xM → Prop) (hq : p_X0_mayFollow q0 p1 p2 μ Qm) : xMi l yX0_mayFollow tX0_mayFollow ({ frames := 2, cells := 0, slots := 0, locals := 80 } : Room) E ad μ [.ref (ad q0), .int p1, .int p2] Qm := by
  refine x_sti (cc := cX0_mayFollow) (maxL := 3) (ret := (some .boolean)) (own := RX0) rfl (by decide) rfl (Nat.le_of_ble_eq_true rfl) ?_
  intro p e s m args below meth c ls G hr hA hH hl
  obtain ⟨hx, hb, hml, hown, hts, hKn, hN, hlk⟩ := id G
  have hl : lv_has ls 3 [(0, .ref (ad q0)), (1, .int p1), (2, .int p2)] := hl
  have hH : xH E ad (xA ad s.heap.size) s.heap μ s.heap [] := hH
  unfold p_X0_mayFollow at hq
  refine lv_aload_n hx hb dX0_mayFollow_0 rfl (lv_at hl 0 rfl) ?_
  refine x_get (j := 8) (C := RX0) (T := TX0) (N := 9) (v := .ref (ad (rt q0 8))) G hH hk_q0 (by decide) rfl inlX0 (by decide) (wm_3 _ (List.mem_of_getElem? (i := 12) rfl)) rfl dX0_mayFollow_1 ?_
  refine lv_iload_n hx hb dX0_mayFollow_4 rfl (lv_at hl 1 rfl) ?_
  refine x_cSi (As := [.ref (ad (rt q0 8)), .int p1]) (rest := []) G hH hA (c_X5_at l E ad μ (rt q0 8) p1 (kt_0_8 _ hk_q0) _ hq) (wm_10 _ (List.mem_of_getElem? (i := 3) rfl)) mt_X5_at mn_RX5 mc_X5_at md_X5_at ⟨rfl, rfl, Nat.le_of_ble_eq_true rfl, Nat.le_of_ble_eq_true rfl⟩ rfl hl.1 rfl (Nat.le_of_ble_eq_true rfl) dX0_mayFollow_5 ⟨Nat.zero_le _, Nat.zero_le _⟩ (fun r2 μ1 hq H locs hH => ?_)
  refine lv_iload_n hx hb dX0_mayFollow_8 rfl (lv_at hl 2 rfl) ?_
  refine lv_iconst (v := (-1 : Int32)) hx hb dX0_mayFollow_9 (by decide) ?_
  refine lv_ixor hx hb dX0_mayFollow_10 ?_
  refine lv_iand hx hb dX0_mayFollow_11 ?_
  refine lv_if_ne (tgt := 19) hx hb dX0_mayFollow_12 (by decide) (fun c3 => ?_) (fun c3 => ?_)
  · have hq := hq.1 c3
    refine lv_iconst (v := (0 : Int32)) hx hb dX0_mayFollow_19 (by decide) ?_
    exact x_zret G hr hH xz_0 hq dX0_mayFollow_20
  · have hq := hq.2 c3
    refine lv_iconst (v := (1 : Int32)) hx hb dX0_mayFollow_15 (by decide) ?_
    refine lv_goto (tgt := 20) hx hb dX0_mayFollow_16 (by decide) ?_
    exact x_zret G hr hH xz_1 hq dX0_mayFollow_20
abbrev tX6_waysTo : List Cond := Cond.code yX6_waysTo cX6_waysTo 5 (some .int) :: wsL_law
theorem mi_X6_waysTo : Cond.instanceMethod yX6_waysTo ∈ wsL_law := (wm_18 _ (List.mem_of_getElem? (i := 0) rfl))
theorem ms_X6_waysTo : Cond.selects RX6 yX6_waysTo yX6_waysTo ∈ wsL_law := (wm_18 _ (List.mem_of_getElem? (i := 1) rfl))
theorem mc_X6_waysTo : Cond.code yX6_waysTo cX6_waysTo 5 (some .int) ∈ wsL_law := (wm_18 _ (List.mem_of_getElem? (i := 2) rfl))
theorem md_X6_waysTo : yX6_waysTo.cls ≠ "java/lang/invoke/MethodHandle" ∧ yX6_waysTo.cls ≠ "java/lang/invoke/VarHandle" ∧ (parseMethodDescriptor yX6_waysTo.desc).map (fun d => d.parameters.length) = some 1 := by decide +kernel
set_option maxRecDepth 100000 in
set_option maxHeartbeats 4000000 in
theorem wb_X6_waysTo_4 {E : xE} {ad : Nat → Nat} {p : Program} {l : Launch} {e : Env} {s : State} {m : MethodId} {args : Array Value} {below : List Frame} {meth : Method} {c : Code} {Q : State → Prop} (G : xG E p s m args meth c cX6_waysTo 5 RX6) (hA : ∀ a, s.heap.size ≤ a → xA ad s.heap.size a) (q1 : Nat) (a2 : Int32) (hk_q1 : kd q1 = 4) (a3 : Int32) (a4 : Int32) (μ6 : xM) (K40 : Int32 → xM → Prop) (K4b : Int32 → Int32 → xM → Prop) (hq : B_X6_waysTo_4 q1 a2 a3 a4 μ6 K40 K4b) {H : Heap} {locs : List Loc} {ls : Array Slot} (hH : xH E ad (xA ad s.heap.size) s.heap μ6 H locs) (hl : lv_has ls 5 [(0, .ref (ad q1)), (1, .int a2), (3, .int a3), (2, .int a4)]) (kK40 : ∀ (a7 : Int32) (μ8 : xM), K40 a7 μ8 → ∀ (H : Heap) (locs : List Loc) (ls : Array Slot), xH E ad (xA ad s.heap.size) s.heap μ8 H locs → lv_has ls 5 [(2, .int a7)] → W p l e (headSpec tX6_waysTo ({ frames := 3, cells := 0, slots := 0, locals := 120 } : Room)).room s m args below meth c H locs 0 0 Q (F0 m 61 ls [])) (kK4b : ∀ (a9 : Int32) (a10 : Int32) (μ11 : xM), K4b a9 a10 μ11 → ∀ (H : Heap) (locs : List Loc) (ls : Array Slot), xH E ad (xA ad s.heap.size) s.heap μ11 H locs → lv_has ls 5 [(0, .ref (ad q1)), (1, .int a2), (3, .int a9), (2, .int a10)] → W p l e (headSpec tX6_waysTo ({ frames := 3, cells := 0, slots := 0, locals := 120 } : Room)).room s m args below meth c H locs 0 0 Q (F0 m 4 ls [])) : W p l e (headSpec tX6_waysTo ({ frames := 3, cells := 0, slots := 0, locals := 120 } : Room)).room s m args below meth c H locs 0 0 Q (F0 m 4 ls []) := by
  obtain ⟨hx, hb, hml, hown, hts, hKn, hN, hlk⟩ := id G
  unfold B_X6_waysTo_4 at hq
  refine lv_iload_n hx hb dX6_waysTo_4 rfl (lv_at hl 2 rfl) ?_
  refine lv_aload_n hx hb dX6_waysTo_5 rfl (lv_at hl 0 rfl) ?_
  refine x_get (j := 0) (C := RX6) (T := TX6) (N := 11) (v := .ref (ad (rt q1 0))) G hH hk_q1 (by decide) rfl inlX6 (by decide) (wm_5 _ (List.mem_of_getElem? (i := 10) rfl)) rfl dX6_waysTo_6 ?_
  refine x_get (j := 0) (C := RX0) (T := TX0) (N := 9) (v := .int (μ6.1 (rt q1 0) 0)) G hH (kt_4_0 _ hk_q1) (by decide) rfl inlX0 (by decide) (wm_17 _ (List.mem_of_getElem? (i := 21) rfl)) rfl dX6_waysTo_9 ?_
  refine lv_icmp_ge (tgt := 61) hx hb dX6_waysTo_12 (by decide) (fun c12 => ?_) (fun c12 => ?_)
  · have hq := hq.1 c12
    exact kK40 a4 μ6 hq _ _ _ hH (lv_sub hl [3] rfl)
  · have hq := hq.2 c12
    refine lv_iload_n hx hb dX6_waysTo_15 rfl (lv_at hl 1 rfl) ?_
    refine lv_iconst (v := (1 : Int32)) hx hb dX6_waysTo_16 (by decide) ?_
    refine lv_iload_n hx hb dX6_waysTo_17 rfl (lv_at hl 2 rfl) ?_
    refine lv_ishl hx hb dX6_waysTo_18 ?_
    refine lv_iconst (v := (-1 : Int32)) hx hb dX6_waysTo_19 (by decide) ?_
    refine lv_ixor hx hb dX6_waysTo_20 ?_
    refine lv_iand hx hb dX6_waysTo_21 ?_
    refine lv_topi (fun v13 e_v13 => ?_)
    have hq := hq v13 e_v13
    refine lv_istore (lv' := [(4, .int v13), (0, .ref (ad q1)), (1, .int a2), (3, .int a3), (2, .int a4)]) hx hb dX6_waysTo_22 hl (by decide) rfl (fun ls hl => ?_)
    refine lv_iload hx hb dX6_waysTo_24 (lv_at hl 0 rfl) ?_
    refine lv_iload_n hx hb dX6_waysTo_26 rfl (lv_at hl 2 rfl) ?_
    refine lv_icmp_eq (tgt := 55) hx hb dX6_waysTo_27 (by decide) (fun c14 => ?_) (fun c14 => ?_)
    · have hq := hq.1 c14
      obtain ⟨v15, e_v15⟩ : ∃ y : Int32, y = (a3 + (1 : Int32)) := ⟨_, rfl⟩
      have hq := hq v15 e_v15
      refine lv_iinc (v := v15) (lv' := [(3, .int v15), (4, .int v13), (0, .ref (ad q1)), (1, .int a2), (2, .int a4)]) hx hb dX6_waysTo_55 hl (k := 3) rfl (by rw [e_v15]; rfl) (by decide) rfl (fun ls hl => ?_)
      refine lv_goto (tgt := 4) hx hb dX6_waysTo_58 (by decide) ?_
      exact kK4b v15 a4 μ6 hq _ _ _ hH (lv_sub hl [2, 3, 0, 4] rfl)
    · have hq := hq.2 c14
      refine lv_aload_n hx hb dX6_waysTo_30 rfl (lv_at hl 1 rfl) ?_
      refine x_get (j := 0) (C := RX6) (T := TX6) (N := 11) (v := .ref (ad (rt q1 0))) G hH hk_q1 (by decide) rfl inlX6 (by decide) (wm_5 _ (List.mem_of_getElem? (i := 10) rfl)) rfl dX6_waysTo_31 ?_
      refine lv_iload_n hx hb dX6_waysTo_34 rfl (lv_at hl 3 rfl) ?_
      refine lv_iload hx hb dX6_waysTo_35 (lv_at hl 0 rfl) ?_
      refine x_cVi (C := RX0) (T := TX0) (N := 9) (As := [.int a3, .int v13]) (rest := []) G hH hA (c_X0_mayFollow l E ad μ6 (rt q1 0) a3 v13 (kt_4_0 _ hk_q1) _ hq) (wm_18 _ (List.mem_of_getElem? (i := 3) rfl)) mi_X0_mayFollow ms_X0_mayFollow mn_RX0 mc_X0_mayFollow rfl md_X0_mayFollow ⟨rfl, rfl, Nat.le_of_ble_eq_true rfl, Nat.le_of_ble_eq_true rfl⟩ (kt_4_0 _ hk_q1) (by decide) rfl rfl hl.1 rfl (Nat.le_of_ble_eq_true rfl) dX6_waysTo_37 ⟨Nat.zero_le _, Nat.zero_le _⟩ (fun r17 μ16 hq H locs hH => ?_)
      refine lv_if_eq (tgt := 55) hx hb dX6_waysTo_40 (by decide) (fun c18 => ?_) (fun c18 => ?_)
      · have hq := hq.1 c18
        obtain ⟨v19, e_v19⟩ : ∃ y : Int32, y = (a3 + (1 : Int32)) := ⟨_, rfl⟩
        have hq := hq v19 e_v19
        refine lv_iinc (v := v19) (lv' := [(3, .int v19), (4, .int v13), (0, .ref (ad q1)), (1, .int a2), (2, .int a4)]) hx hb dX6_waysTo_55 hl (k := 3) rfl (by rw [e_v19]; rfl) (by decide) rfl (fun ls hl => ?_)
        refine lv_goto (tgt := 4) hx hb dX6_waysTo_58 (by decide) ?_
        exact kK4b v19 a4 μ16 hq _ _ _ hH (lv_sub hl [2, 3, 0, 4] rfl)
      · have hq := hq.2 c18
        refine lv_iload_n hx hb dX6_waysTo_43 rfl (lv_at hl 4 rfl) ?_
        refine lv_aload_n hx hb dX6_waysTo_44 rfl (lv_at hl 1 rfl) ?_
        refine x_get (j := 3) (C := RX6) (T := TX6) (N := 11) (v := .ref (ad (rt q1 3))) G hH hk_q1 (by decide) rfl inlX6 (by decide) (wm_5 _ (List.mem_of_getElem? (i := 2) rfl)) rfl dX6_waysTo_45 ?_
        refine lv_iload hx hb dX6_waysTo_48 (lv_at hl 0 rfl) ?_
        refine x_cSi (As := [.ref (ad (rt q1 3)), .int v13]) (rest := [.int a4]) G hH hA (c_X5_at l E ad μ16 (rt q1 3) v13 (kt_4_3 _ hk_q1) _ hq) (wm_18 _ (List.mem_of_getElem? (i := 7) rfl)) mt_X5_at mn_RX5 mc_X5_at md_X5_at ⟨rfl, rfl, Nat.le_of_ble_eq_true rfl, Nat.le_of_ble_eq_true rfl⟩ rfl hl.1 rfl (Nat.le_of_ble_eq_true rfl) dX6_waysTo_50 ⟨Nat.zero_le _, Nat.zero_le _⟩ (fun r21 μ20 hq H locs hH => ?_)
        refine lv_iadd hx hb dX6_waysTo_53 ?_
        refine lv_topi (fun v22 e_v22 => ?_)
        have hq := hq v22 e_v22
        refine lv_istore_n (lv' := [(2, .int v22), (4, .int v13), (0, .ref (ad q1)), (1, .int a2), (3, .int a3)]) hx hb dX6_waysTo_54 rfl hl (by decide) rfl (fun ls hl => ?_)
        obtain ⟨v23, e_v23⟩ : ∃ y : Int32, y = (a3 + (1 : Int32)) := ⟨_, rfl⟩
        have hq := hq v23 e_v23
        refine lv_iinc (v := v23) (lv' := [(3, .int v23), (2, .int v22), (4, .int v13), (0, .ref (ad q1)), (1, .int a2)]) hx hb dX6_waysTo_55 hl (k := 4) rfl (by rw [e_v23]; rfl) (by decide) rfl (fun ls hl => ?_)
        refine lv_goto (tgt := 4) hx hb dX6_waysTo_58 (by decide) ?_
        exact kK4b v23 v22 μ20 hq _ _ _ hH (lv_sub hl [3, 4, 0, 1] rfl)
set_option maxRecDepth 100000 in
set_option maxHeartbeats 4000000 in
theorem w_X6_waysTo_4 {E : xE} {ad : Nat → Nat} {p : Program} {l : Launch} {e : Env} {s : State} {m : MethodId} {args : Array Value} {below : List Frame} {meth : Method} {c : Code} {Q : State → Prop} (G : xG E p s m args meth c cX6_waysTo 5 RX6) (hA : ∀ a, s.heap.size ≤ a → xA ad s.heap.size a) (q1 : Nat) (a2 : Int32) (hk_q1 : kd q1 = 4) : ∀ (n : Nat) (a3 : Int32) (a4 : Int32) (μ6 : xM) (K40 : Int32 → xM → Prop) (hq : L_X6_waysTo_4 q1 a2 n a3 a4 μ6 K40) (H : Heap) (locs : List Loc) (ls : Array Slot) (hH : xH E ad (xA ad s.heap.size) s.heap μ6 H locs) (hl : lv_has ls 5 [(0, .ref (ad q1)), (1, .int a2), (3, .int a3), (2, .int a4)]) (kK40 : ∀ (a7 : Int32) (μ8 : xM), K40 a7 μ8 → ∀ (H : Heap) (locs : List Loc) (ls : Array Slot), xH E ad (xA ad s.heap.size) s.heap μ8 H locs → lv_has ls 5 [(2, .int a7)] → W p l e (headSpec tX6_waysTo ({ frames := 3, cells := 0, slots := 0, locals := 120 } : Room)).room s m args below meth c H locs 0 0 Q (F0 m 61 ls [])) , W p l e (headSpec tX6_waysTo ({ frames := 3, cells := 0, slots := 0, locals := 120 } : Room)).room s m args below meth c H locs 0 0 Q (F0 m 4 ls [])
  | 0, _, _, _, _, hq, _, _, _, _, _, _ => hq.elim
  | n + 1, a3, a4, μ6, K40, hq, H, locs, ls, hH, hl, kK40 => wb_X6_waysTo_4 G hA q1 a2 hk_q1 a3 a4 μ6 K40 _ hq hH hl kK40 (fun x0 x1 y hq H locs ls hH hl => w_X6_waysTo_4 G hA q1 a2 hk_q1 n x0 x1 y K40 hq H locs ls hH hl kK40)
set_option maxRecDepth 100000 in
set_option maxHeartbeats 4000000 in
theorem c_X6_waysTo (l : Launch) (E : xE) (ad : Nat → Nat) (μ : xM) (q0 : Nat) (p1 : Int32) (hk_q0 : kd q0 = 4) (Qm : Int32 → xM → Prop) (hq : p_X6_waysTo q0 p1 μ Qm) : xMi l yX6_waysTo tX6_waysTo ({ frames := 3, cells := 0, slots := 0, locals := 120 } : Room) E ad μ [.ref (ad q0), .int p1] Qm := by
  refine x_sti (cc := cX6_waysTo) (maxL := 5) (ret := (some .int)) (own := RX6) rfl (by decide) rfl (Nat.le_of_ble_eq_true rfl) ?_
  intro p e s m args below meth c ls G hr hA hH hl
  obtain ⟨hx, hb, hml, hown, hts, hKn, hN, hlk⟩ := id G
  have hl : lv_has ls 5 [(0, .ref (ad q0)), (1, .int p1)] := hl
  have hH : xH E ad (xA ad s.heap.size) s.heap μ s.heap [] := hH
  unfold p_X6_waysTo at hq
  refine lv_iconst (v := (0 : Int32)) hx hb dX6_waysTo_0 (by decide) ?_
  refine lv_istore_n (lv' := [(2, .int (0 : Int32)), (0, .ref (ad q0)), (1, .int p1)]) hx hb dX6_waysTo_1 rfl hl (by decide) rfl (fun ls hl => ?_)
  refine lv_iconst (v := (0 : Int32)) hx hb dX6_waysTo_2 (by decide) ?_
  refine lv_istore_n (lv' := [(3, .int (0 : Int32)), (2, .int (0 : Int32)), (0, .ref (ad q0)), (1, .int p1)]) hx hb dX6_waysTo_3 rfl hl (by decide) rfl (fun ls hl => ?_)
  obtain ⟨n5, hq⟩ := hq
  refine w_X6_waysTo_4 G hA q0 p1 hk_q0 n5 (0 : Int32) (0 : Int32) μ _ hq _ _ _ hH (lv_sub hl [2, 3, 0, 1] rfl) (fun a24 μ25 hq H locs ls hH hl => ?_)
  refine lv_iload_n hx hb dX6_waysTo_61 rfl (lv_at hl 0 rfl) ?_
  exact x_iret G hr hH hq dX6_waysTo_62
abbrev tX6_countLawful : List Cond := Cond.code yX6_countLawful cX6_countLawful 3 (some .int) :: wsL_law
theorem mi_X6_countLawful : Cond.instanceMethod yX6_countLawful ∈ wsL_law := (wm_17 _ (List.mem_of_getElem? (i := 18) rfl))
theorem ms_X6_countLawful : Cond.selects RX6 yX6_countLawful yX6_countLawful ∈ wsL_law := (wm_17 _ (List.mem_of_getElem? (i := 19) rfl))
theorem mc_X6_countLawful : Cond.code yX6_countLawful cX6_countLawful 3 (some .int) ∈ wsL_law := (wm_17 _ (List.mem_of_getElem? (i := 20) rfl))
theorem md_X6_countLawful : yX6_countLawful.cls ≠ "java/lang/invoke/MethodHandle" ∧ yX6_countLawful.cls ≠ "java/lang/invoke/VarHandle" ∧ (parseMethodDescriptor yX6_countLawful.desc).map (fun d => d.parameters.length) = some 0 := by decide +kernel
set_option maxRecDepth 100000 in
set_option maxHeartbeats 4000000 in
theorem wb_X6_countLawful_21 {E : xE} {ad : Nat → Nat} {p : Program} {l : Launch} {e : Env} {s : State} {m : MethodId} {args : Array Value} {below : List Frame} {meth : Method} {c : Code} {Q : State → Prop} (G : xG E p s m args meth c cX6_countLawful 3 RX6) (hA : ∀ a, s.heap.size ≤ a → xA ad s.heap.size a) (a3 : Int32) (q4 : Nat) (hk_q4 : kd q4 = 4) (a5 : Int32) (μ7 : xM) (K210 : xM → Prop) (K21b : Int32 → xM → Prop) (hq : B_X6_countLawful_21 a3 q4 a5 μ7 K210 K21b) {H : Heap} {locs : List Loc} {ls : Array Slot} (hH : xH E ad (xA ad s.heap.size) s.heap μ7 H locs) (hl : lv_has ls 3 [(1, .int a3), (0, .ref (ad q4)), (2, .int a5)]) (kK210 : ∀ (μ8 : xM), K210  μ8 → ∀ (H : Heap) (locs : List Loc) (ls : Array Slot), xH E ad (xA ad s.heap.size) s.heap μ8 H locs → lv_has ls 3 [(1, .int a3), (0, .ref (ad q4))] → W p l e (headSpec tX6_countLawful ({ frames := 4, cells := 0, slots := 0, locals := 160 } : Room)).room s m args below meth c H locs 0 0 Q (F0 m 45 ls [])) (kK21b : ∀ (a9 : Int32) (μ10 : xM), K21b a9 μ10 → ∀ (H : Heap) (locs : List Loc) (ls : Array Slot), xH E ad (xA ad s.heap.size) s.heap μ10 H locs → lv_has ls 3 [(1, .int a3), (0, .ref (ad q4)), (2, .int a9)] → W p l e (headSpec tX6_countLawful ({ frames := 4, cells := 0, slots := 0, locals := 160 } : Room)).room s m args below meth c H locs 0 0 Q (F0 m 21 ls [])) : W p l e (headSpec tX6_countLawful ({ frames := 4, cells := 0, slots := 0, locals := 160 } : Room)).room s m args below meth c H locs 0 0 Q (F0 m 21 ls []) := by
  obtain ⟨hx, hb, hml, hown, hts, hKn, hN, hlk⟩ := id G
  unfold B_X6_countLawful_21 at hq
  refine lv_iload_n hx hb dX6_countLawful_21 rfl (lv_at hl 2 rfl) ?_
  refine lv_iload_n hx hb dX6_countLawful_22 rfl (lv_at hl 0 rfl) ?_
  refine lv_icmp_ge (tgt := 45) hx hb dX6_countLawful_23 (by decide) (fun c11 => ?_) (fun c11 => ?_)
  · have hq := hq.1 c11
    exact kK210  μ7 hq _ _ _ hH (lv_sub hl [0, 1] rfl)
  · have hq := hq.2 c11
    refine lv_aload_n hx hb dX6_countLawful_26 rfl (lv_at hl 1 rfl) ?_
    refine x_get (j := 3) (C := RX6) (T := TX6) (N := 11) (v := .ref (ad (rt q4 3))) G hH hk_q4 (by decide) rfl inlX6 (by decide) (wm_5 _ (List.mem_of_getElem? (i := 2) rfl)) rfl dX6_countLawful_27 ?_
    refine lv_iload_n hx hb dX6_countLawful_30 rfl (lv_at hl 2 rfl) ?_
    refine lv_aload_n hx hb dX6_countLawful_31 rfl (lv_at hl 1 rfl) ?_
    refine lv_iload_n hx hb dX6_countLawful_32 rfl (lv_at hl 2 rfl) ?_
    refine x_cVi (C := RX6) (T := TX6) (N := 11) (As := [.int a5]) (rest := [.int a5, .ref (ad (rt q4 3))]) G hH hA (c_X6_waysTo l E ad μ7 q4 a5 hk_q4 _ hq) (wm_17 _ (List.mem_of_getElem? (i := 23) rfl)) mi_X6_waysTo ms_X6_waysTo mn_RX6 mc_X6_waysTo rfl md_X6_waysTo ⟨rfl, rfl, Nat.le_of_ble_eq_true rfl, Nat.le_of_ble_eq_true rfl⟩ hk_q4 (by decide) rfl rfl hl.1 rfl (Nat.le_of_ble_eq_true rfl) dX6_countLawful_33 ⟨Nat.zero_le _, Nat.zero_le _⟩ (fun r13 μ12 hq H locs hH => ?_)
    refine x_cSv (As := [.ref (ad (rt q4 3)), .int a5, .int r13]) (rest := []) G hH hA (c_X5_put l E ad μ12 (rt q4 3) a5 r13 (kt_4_3 _ hk_q4) _ hq) (wm_17 _ (List.mem_of_getElem? (i := 22) rfl)) mt_X5_put mn_RX5 mc_X5_put md_X5_put ⟨rfl, rfl, Nat.le_of_ble_eq_true rfl, Nat.le_of_ble_eq_true rfl⟩ rfl hl.1 rfl (Nat.le_of_ble_eq_true rfl) dX6_countLawful_36 ⟨Nat.zero_le _, Nat.zero_le _⟩ (fun μ14 hq H locs hH => ?_)
    obtain ⟨v15, e_v15⟩ : ∃ y : Int32, y = (a5 + (1 : Int32)) := ⟨_, rfl⟩
    have hq := hq v15 e_v15
    refine lv_iinc (v := v15) (lv' := [(2, .int v15), (1, .int a3), (0, .ref (ad q4))]) hx hb dX6_countLawful_39 hl (k := 2) rfl (by rw [e_v15]; rfl) (by decide) rfl (fun ls hl => ?_)
    refine lv_goto (tgt := 21) hx hb dX6_countLawful_42 (by decide) ?_
    exact kK21b v15 μ14 hq _ _ _ hH (lv_sub hl [1, 2, 0] rfl)
set_option maxRecDepth 100000 in
set_option maxHeartbeats 4000000 in
theorem w_X6_countLawful_21 {E : xE} {ad : Nat → Nat} {p : Program} {l : Launch} {e : Env} {s : State} {m : MethodId} {args : Array Value} {below : List Frame} {meth : Method} {c : Code} {Q : State → Prop} (G : xG E p s m args meth c cX6_countLawful 3 RX6) (hA : ∀ a, s.heap.size ≤ a → xA ad s.heap.size a) (a3 : Int32) (q4 : Nat) (hk_q4 : kd q4 = 4) : ∀ (n : Nat) (a5 : Int32) (μ7 : xM) (K210 : xM → Prop) (hq : L_X6_countLawful_21 a3 q4 n a5 μ7 K210) (H : Heap) (locs : List Loc) (ls : Array Slot) (hH : xH E ad (xA ad s.heap.size) s.heap μ7 H locs) (hl : lv_has ls 3 [(1, .int a3), (0, .ref (ad q4)), (2, .int a5)]) (kK210 : ∀ (μ8 : xM), K210  μ8 → ∀ (H : Heap) (locs : List Loc) (ls : Array Slot), xH E ad (xA ad s.heap.size) s.heap μ8 H locs → lv_has ls 3 [(1, .int a3), (0, .ref (ad q4))] → W p l e (headSpec tX6_countLawful ({ frames := 4, cells := 0, slots := 0, locals := 160 } : Room)).room s m args below meth c H locs 0 0 Q (F0 m 45 ls [])) , W p l e (headSpec tX6_countLawful ({ frames := 4, cells := 0, slots := 0, locals := 160 } : Room)).room s m args below meth c H locs 0 0 Q (F0 m 21 ls [])
  | 0, _, _, _, hq, _, _, _, _, _, _ => hq.elim
  | n + 1, a5, μ7, K210, hq, H, locs, ls, hH, hl, kK210 => wb_X6_countLawful_21 G hA a3 q4 hk_q4 a5 μ7 K210 _ hq hH hl kK210 (fun x0 y hq H locs ls hH hl => w_X6_countLawful_21 G hA a3 q4 hk_q4 n x0 y K210 hq H locs ls hH hl kK210)
set_option maxRecDepth 100000 in
set_option maxHeartbeats 4000000 in
theorem c_X6_countLawful (l : Launch) (E : xE) (ad : Nat → Nat) (μ : xM) (q0 : Nat) (hk_q0 : kd q0 = 4) (Qm : Int32 → xM → Prop) (hq : p_X6_countLawful q0 μ Qm) : xMi l yX6_countLawful tX6_countLawful ({ frames := 4, cells := 0, slots := 0, locals := 160 } : Room) E ad μ [.ref (ad q0)] Qm := by
  refine x_sti (cc := cX6_countLawful) (maxL := 3) (ret := (some .int)) (own := RX6) rfl (by decide) rfl (Nat.le_of_ble_eq_true rfl) ?_
  intro p e s m args below meth c ls G hr hA hH hl
  obtain ⟨hx, hb, hml, hown, hts, hKn, hN, hlk⟩ := id G
  have hl : lv_has ls 3 [(0, .ref (ad q0))] := hl
  have hH : xH E ad (xA ad s.heap.size) s.heap μ s.heap [] := hH
  unfold p_X6_countLawful at hq
  refine lv_iconst (v := (1 : Int32)) hx hb dX6_countLawful_0 (by decide) ?_
  refine lv_aload_n hx hb dX6_countLawful_1 rfl (lv_at hl 0 rfl) ?_
  refine x_get (j := 0) (C := RX6) (T := TX6) (N := 11) (v := .ref (ad (rt q0 0))) G hH hk_q0 (by decide) rfl inlX6 (by decide) (wm_5 _ (List.mem_of_getElem? (i := 10) rfl)) rfl dX6_countLawful_2 ?_
  refine x_get (j := 0) (C := RX0) (T := TX0) (N := 9) (v := .int (μ.1 (rt q0 0) 0)) G hH (kt_4_0 _ hk_q0) (by decide) rfl inlX0 (by decide) (wm_17 _ (List.mem_of_getElem? (i := 21) rfl)) rfl dX6_countLawful_5 ?_
  refine lv_ishl hx hb dX6_countLawful_8 ?_
  refine lv_topi (fun v1 e_v1 => ?_)
  have hq := hq v1 e_v1
  refine lv_istore_n (lv' := [(1, .int v1), (0, .ref (ad q0))]) hx hb dX6_countLawful_9 rfl hl (by decide) rfl (fun ls hl => ?_)
  refine lv_aload_n hx hb dX6_countLawful_10 rfl (lv_at hl 1 rfl) ?_
  refine x_get (j := 3) (C := RX6) (T := TX6) (N := 11) (v := .ref (ad (rt q0 3))) G hH hk_q0 (by decide) rfl inlX6 (by decide) (wm_5 _ (List.mem_of_getElem? (i := 2) rfl)) rfl dX6_countLawful_11 ?_
  refine lv_iconst (v := (0 : Int32)) hx hb dX6_countLawful_14 (by decide) ?_
  refine lv_iconst (v := (1 : Int32)) hx hb dX6_countLawful_15 (by decide) ?_
  refine x_cSv (As := [.ref (ad (rt q0 3)), .int (0 : Int32), .int (1 : Int32)]) (rest := []) G hH hA (c_X5_put l E ad μ (rt q0 3) (0 : Int32) (1 : Int32) (kt_4_3 _ hk_q0) _ hq) (wm_17 _ (List.mem_of_getElem? (i := 22) rfl)) mt_X5_put mn_RX5 mc_X5_put md_X5_put ⟨rfl, rfl, Nat.le_of_ble_eq_true rfl, Nat.le_of_ble_eq_true rfl⟩ rfl hl.1 rfl (Nat.le_of_ble_eq_true rfl) dX6_countLawful_16 ⟨Nat.zero_le _, Nat.zero_le _⟩ (fun μ2 hq H locs hH => ?_)
  refine lv_iconst (v := (1 : Int32)) hx hb dX6_countLawful_19 (by decide) ?_
  refine lv_istore_n (lv' := [(2, .int (1 : Int32)), (1, .int v1), (0, .ref (ad q0))]) hx hb dX6_countLawful_20 rfl hl (by decide) rfl (fun ls hl => ?_)
  obtain ⟨n6, hq⟩ := hq
  refine w_X6_countLawful_21 G hA v1 q0 hk_q0 n6 (1 : Int32) μ2 _ hq _ _ _ hH (lv_sub hl [1, 2, 0] rfl) (fun  μ16 hq H locs ls hH hl => ?_)
  refine lv_aload_n hx hb dX6_countLawful_45 rfl (lv_at hl 1 rfl) ?_
  refine x_get (j := 3) (C := RX6) (T := TX6) (N := 11) (v := .ref (ad (rt q0 3))) G hH hk_q0 (by decide) rfl inlX6 (by decide) (wm_5 _ (List.mem_of_getElem? (i := 2) rfl)) rfl dX6_countLawful_46 ?_
  refine lv_iload_n hx hb dX6_countLawful_49 rfl (lv_at hl 0 rfl) ?_
  refine lv_iconst (v := (1 : Int32)) hx hb dX6_countLawful_50 (by decide) ?_
  refine lv_isub hx hb dX6_countLawful_51 ?_
  refine x_cSi (As := [.ref (ad (rt q0 3)), .int (v1 - (1 : Int32))]) (rest := []) G hH hA (c_X5_at l E ad μ16 (rt q0 3) (v1 - (1 : Int32)) (kt_4_3 _ hk_q0) _ hq) (wm_18 _ (List.mem_of_getElem? (i := 7) rfl)) mt_X5_at mn_RX5 mc_X5_at md_X5_at ⟨rfl, rfl, Nat.le_of_ble_eq_true rfl, Nat.le_of_ble_eq_true rfl⟩ rfl hl.1 rfl (Nat.le_of_ble_eq_true rfl) dX6_countLawful_52 ⟨Nat.zero_le _, Nat.zero_le _⟩ (fun r18 μ17 hq H locs hH => ?_)
  exact x_iret G hr hH hq dX6_countLawful_55
abbrev tX11_lawful : List Cond := Cond.code yX11_lawful cX11_lawful 1 (some .int) :: wsL_law
theorem mi_X11_lawful : Cond.instanceMethod yX11_lawful ∈ wsL_law := (wm_17 _ (List.mem_of_getElem? (i := 14) rfl))
theorem ms_X11_lawful : Cond.selects RX11 yX11_lawful yX11_lawful ∈ wsL_law := (wm_17 _ (List.mem_of_getElem? (i := 15) rfl))
theorem mc_X11_lawful : Cond.code yX11_lawful cX11_lawful 1 (some .int) ∈ wsL_law := (wm_17 _ (List.mem_of_getElem? (i := 16) rfl))
theorem md_X11_lawful : yX11_lawful.cls ≠ "java/lang/invoke/MethodHandle" ∧ yX11_lawful.cls ≠ "java/lang/invoke/VarHandle" ∧ (parseMethodDescriptor yX11_lawful.desc).map (fun d => d.parameters.length) = some 0 := by decide +kernel
set_option maxRecDepth 100000 in
set_option maxHeartbeats 4000000 in
theorem c_X11_lawful (l : Launch) (E : xE) (ad : Nat → Nat) (μ : xM) (q0 : Nat) (hk_q0 : kd q0 = 9) (Qm : Int32 → xM → Prop) (hq : p_X11_lawful q0 μ Qm) : xMi l yX11_lawful tX11_lawful ({ frames := 5, cells := 0, slots := 0, locals := 200 } : Room) E ad μ [.ref (ad q0)] Qm := by
  refine x_sti (cc := cX11_lawful) (maxL := 1) (ret := (some .int)) (own := RX11) rfl (by decide) rfl (Nat.le_of_ble_eq_true rfl) ?_
  intro p e s m args below meth c ls G hr hA hH hl
  obtain ⟨hx, hb, hml, hown, hts, hKn, hN, hlk⟩ := id G
  have hl : lv_has ls 1 [(0, .ref (ad q0))] := hl
  have hH : xH E ad (xA ad s.heap.size) s.heap μ s.heap [] := hH
  unfold p_X11_lawful at hq
  refine lv_aload_n hx hb dX11_lawful_0 rfl (lv_at hl 0 rfl) ?_
  refine x_get (j := 2) (C := RX11) (T := TX11) (N := 8) (v := .ref (ad (rt q0 2))) G hH hk_q0 (by decide) rfl inlX11 (by decide) (wm_2 _ (List.mem_of_getElem? (i := 0) rfl)) rfl dX11_lawful_1 ?_
  refine x_cVi (C := RX6) (T := TX6) (N := 11) (As := []) (rest := []) G hH hA (c_X6_countLawful l E ad μ (rt q0 2) (kt_9_2 _ hk_q0) _ hq) (wm_17 _ (List.mem_of_getElem? (i := 17) rfl)) mi_X6_countLawful ms_X6_countLawful mn_RX6 mc_X6_countLawful rfl md_X6_countLawful ⟨rfl, rfl, Nat.le_of_ble_eq_true rfl, Nat.le_of_ble_eq_true rfl⟩ (kt_9_2 _ hk_q0) (by decide) rfl rfl hl.1 rfl (Nat.le_of_ble_eq_true rfl) dX11_lawful_4 ⟨Nat.zero_le _, Nat.zero_le _⟩ (fun r2 μ1 hq H locs hH => ?_)
  exact x_iret G hr hH hq dX11_lawful_7
abbrev tX1_filled : List Cond := Cond.code yX1_filled cX1_filled 2 (some .long) :: wsL_law
theorem mt_X1_filled : Cond.static yX1_filled ∈ wsL_law := (wm_21 _ (List.mem_of_getElem? (i := 11) rfl))
theorem mc_X1_filled : Cond.code yX1_filled cX1_filled 2 (some .long) ∈ wsL_law := (wm_21 _ (List.mem_of_getElem? (i := 12) rfl))
theorem md_X1_filled : yX1_filled.cls ≠ "java/lang/invoke/MethodHandle" ∧ yX1_filled.cls ≠ "java/lang/invoke/VarHandle" ∧ (parseMethodDescriptor yX1_filled.desc).map (fun d => d.parameters.length) = some 1 := by decide +kernel
set_option maxRecDepth 100000 in
set_option maxHeartbeats 4000000 in
theorem c_X1_filled (l : Launch) (E : xE) (ad : Nat → Nat) (μ : xM) (p1 : Int64) (Qm : Int64 → xM → Prop) (hq : p_X1_filled p1 μ Qm) : xMl l yX1_filled tX1_filled ({ frames := 1, cells := 0, slots := 0, locals := 40 } : Room) E ad μ [.long p1] Qm := by
  refine x_stl (cc := cX1_filled) (maxL := 2) (ret := (some .long)) (own := RX1) rfl (by decide) rfl (Nat.le_of_ble_eq_true rfl) ?_
  intro p e s m args below meth c ls G hr hA hH hl
  obtain ⟨hx, hb, hml, hown, hts, hKn, hN, hlk⟩ := id G
  have hl : lv_has ls 2 [(0, .long p1)] := hl
  have hH : xH E ad (xA ad s.heap.size) s.heap μ s.heap [] := hH
  unfold p_X1_filled at hq
  refine lv_lload_n hx hb dX1_filled_0 rfl (lv_at hl 0 rfl) ?_
  refine lv_lload_n hx hb dX1_filled_1 rfl (lv_at hl 0 rfl) ?_
  refine lv_iconst (v := (1 : Int32)) hx hb dX1_filled_2 (by decide) ?_
  refine lv_lushr (v := (lU p1 (1 : Int32))) hx hb dX1_filled_3 rfl ?_
  refine lv_lor hx hb dX1_filled_4 ?_
  refine lv_lload_n hx hb dX1_filled_5 rfl (lv_at hl 0 rfl) ?_
  refine lv_iconst (v := (2 : Int32)) hx hb dX1_filled_6 (by decide) ?_
  refine lv_lushr (v := (lU p1 (2 : Int32))) hx hb dX1_filled_7 rfl ?_
  refine lv_lor hx hb dX1_filled_8 ?_
  refine lv_lload_n hx hb dX1_filled_9 rfl (lv_at hl 0 rfl) ?_
  refine lv_iconst (v := (3 : Int32)) hx hb dX1_filled_10 (by decide) ?_
  refine lv_lushr (v := (lU p1 (3 : Int32))) hx hb dX1_filled_11 rfl ?_
  refine lv_lor hx hb dX1_filled_12 ?_
  refine lv_ldc2 hx hb hown (hts _ (wm_21 _ (List.mem_of_getElem? (i := 5) rfl))) dX1_filled_13 ?_
  refine lv_land hx hb dX1_filled_16 ?_
  exact x_lret G hr hH hq dX1_filled_17
