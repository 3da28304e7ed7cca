abbrev tX0_smearBy : List Cond := Cond.code yX0_smearBy cX0_smearBy 5 (some .int) :: wsL_law
theorem mi_X0_smearBy : Cond.instanceMethod yX0_smearBy ∈ wsL_law := (wm_23 _ (List.mem_of_getElem? (i := 4) rfl))
theorem ms_X0_smearBy : Cond.selects RX0 yX0_smearBy yX0_smearBy ∈ wsL_law := (wm_23 _ (List.mem_of_getElem? (i := 5) rfl))
theorem mc_X0_smearBy : Cond.code yX0_smearBy cX0_smearBy 5 (some .int) ∈ wsL_law := (wm_23 _ (List.mem_of_getElem? (i := 6) rfl))
theorem md_X0_smearBy : yX0_smearBy.cls ≠ "java/lang/invoke/MethodHandle" ∧ yX0_smearBy.cls ≠ "java/lang/invoke/VarHandle" ∧ (parseMethodDescriptor yX0_smearBy.desc).map (fun d => d.parameters.length) = some 3 := by decide +kernel
set_option maxRecDepth 100000 in
set_option maxHeartbeats 4000000 in
theorem c_X0_smearBy (l : Launch) (E : xE) (ad : Nat → Nat) (μ : xM) (q0 : Nat) (p1 : Int32) (p2 : Int32) (p3 : Int32) (hk_q0 : kd q0 = 0) (Qm : Int32 → xM → Prop) (hq : p_X0_smearBy q0 p1 p2 p3 μ Qm) : xMi l yX0_smearBy tX0_smearBy ({ frames := 2, cells := 0, slots := 0, locals := 80 } : Room) E ad μ [.ref (ad q0), .int p1, .int p2, .int p3] Qm := by
  refine x_sti (cc := cX0_smearBy) (maxL := 5) (ret := (some .int)) (own := RX0) rfl (by decide) rfl (Nat.le_of_ble_eq_true rfl) ?_
  intro p e s m args below meth c ls G hr hA hH hl
  obtain ⟨hx, hb, hml, hown, hts, hKn, hN, hlk⟩ := id G
  have hl : lv_has ls 5 [(0, .ref (ad q0)), (1, .int p1), (2, .int p2), (3, .int p3)] := hl
  have hH : xH E ad (xA ad s.heap.size) s.heap μ s.heap [] := hH
  unfold p_X0_smearBy at hq
  refine lv_aload_n hx hb dX0_smearBy_0 rfl (lv_at hl 0 rfl) ?_
  refine x_get (j := 3) (C := RX0) (T := TX0) (N := 9) (v := .ref (ad (rt q0 3))) G hH hk_q0 (by decide) rfl inlX0 (by decide) (wm_3 _ (List.mem_of_getElem? (i := 7) rfl)) rfl dX0_smearBy_1 ?_
  refine lv_iload_n hx hb dX0_smearBy_4 rfl (lv_at hl 1 rfl) ?_
  refine x_cSi (As := [.ref (ad (rt q0 3)), .int p1]) (rest := []) G hH hA (c_X5_at l E ad μ (rt q0 3) p1 (kt_0_3 _ hk_q0) _ hq) (wm_10 _ (List.mem_of_getElem? (i := 3) rfl)) mt_X5_at mn_RX5 mc_X5_at md_X5_at ⟨rfl, rfl, Nat.le_of_ble_eq_true rfl, Nat.le_of_ble_eq_true rfl⟩ rfl hl.1 rfl (Nat.le_of_ble_eq_true rfl) dX0_smearBy_5 ⟨Nat.zero_le _, Nat.zero_le _⟩ (fun r2 μ1 hq H locs hH => ?_)
  refine lv_iload_n hx hb dX0_smearBy_8 rfl (lv_at hl 2 rfl) ?_
  refine lv_isub hx hb dX0_smearBy_9 ?_
  refine lv_topi (fun v3 e_v3 => ?_)
  have hq := hq v3 e_v3
  refine lv_istore (lv' := [(4, .int v3), (0, .ref (ad q0)), (1, .int p1), (2, .int p2), (3, .int p3)]) hx hb dX0_smearBy_10 hl (by decide) rfl (fun ls hl => ?_)
  refine lv_iload hx hb dX0_smearBy_12 (lv_at hl 0 rfl) ?_
  refine lv_if_le (tgt := 27) hx hb dX0_smearBy_14 (by decide) (fun c4 => ?_) (fun c4 => ?_)
  · have hq := hq.1 c4
    refine lv_iconst (v := (0 : Int32)) hx hb dX0_smearBy_27 (by decide) ?_
    exact x_iret G hr hH hq dX0_smearBy_28
  · have hq := hq.2 c4
    refine lv_iload hx hb dX0_smearBy_17 (lv_at hl 0 rfl) ?_
    refine lv_iload_n hx hb dX0_smearBy_19 rfl (lv_at hl 4 rfl) ?_
    refine x_cSi (As := [.int p3]) (rest := [.int v3]) G hH hA (c_J6_bitCount_0f7a4 l E ad μ1 p3  _ hq) (wm_23 _ (List.mem_of_getElem? (i := 7) rfl)) mt_J6_bitCount_0f7a4 mn_RJ6 mc_J6_bitCount_0f7a4 md_J6_bitCount_0f7a4 ⟨rfl, rfl, Nat.le_of_ble_eq_true rfl, Nat.le_of_ble_eq_true rfl⟩ rfl hl.1 rfl (Nat.le_of_ble_eq_true rfl) dX0_smearBy_20 ⟨Nat.zero_le _, Nat.zero_le _⟩ (fun r6 μ5 hq H locs hH => ?_)
    refine lv_imul hx hb dX0_smearBy_23 ?_
    refine lv_goto (tgt := 28) hx hb dX0_smearBy_24 (by decide) ?_
    exact x_iret G hr hH hq dX0_smearBy_28
abbrev tX2_smearOn : List Cond := Cond.code yX2_smearOn cX2_smearOn 6 (some .int) :: wsL_law
theorem mi_X2_smearOn : Cond.instanceMethod yX2_smearOn ∈ wsL_law := (wm_26 _ (List.mem_of_getElem? (i := 22) rfl))
theorem ms_X2_smearOn : Cond.selects RX2 yX2_smearOn yX2_smearOn ∈ wsL_law := (wm_26 _ (List.mem_of_getElem? (i := 23) rfl))
theorem mc_X2_smearOn : Cond.code yX2_smearOn cX2_smearOn 6 (some .int) ∈ wsL_law := (wm_27 _ (List.mem_of_getElem? (i := 0) rfl))
theorem md_X2_smearOn : yX2_smearOn.cls ≠ "java/lang/invoke/MethodHandle" ∧ yX2_smearOn.cls ≠ "java/lang/invoke/VarHandle" ∧ (parseMethodDescriptor yX2_smearOn.desc).map (fun d => d.parameters.length) = some 2 := by decide +kernel
set_option maxRecDepth 100000 in
set_option maxHeartbeats 4000000 in
theorem wb_X2_smearOn_5 {E : xE} {ad : Nat → Nat} {p : Program} {l : Launch} {e : Env} {s : State} {m : MethodId} {args : Array Value} {below : List Frame} {meth : Method} {c : Code} {Q : State → Prop} (G : xG E p s m args meth c cX2_smearOn 6 RX2) (hA : ∀ a, s.heap.size ≤ a → xA ad s.heap.size a) (q1 : Nat) (q2 : Nat) (a3 : Int32) (hk_q1 : kd q1 = 1) (hk_q2 : kd q2 = 0) (a4 : Int32) (a5 : Int32) (μ7 : xM) (K50 : Int32 → xM → Prop) (K5b : Int32 → Int32 → xM → Prop) (hq : B_X2_smearOn_5 q1 q2 a3 a4 a5 μ7 K50 K5b) {H : Heap} {locs : List Loc} {ls : Array Slot} (hH : xH E ad (xA ad s.heap.size) s.heap μ7 H locs) (hl : lv_has ls 6 [(0, .ref (ad q1)), (1, .ref (ad q2)), (2, .int a3), (4, .int a4), (3, .int a5)]) (kK50 : ∀ (a8 : Int32) (μ9 : xM), K50 a8 μ9 → ∀ (H : Heap) (locs : List Loc) (ls : Array Slot), xH E ad (xA ad s.heap.size) s.heap μ9 H locs → lv_has ls 6 [(3, .int a8)] → W p l e (headSpec tX2_smearOn ({ frames := 3, cells := 0, slots := 0, locals := 120 } : Room)).room s m args below meth c H locs 0 0 Q (F0 m 65 ls [])) (kK5b : ∀ (a10 : Int32) (a11 : Int32) (μ12 : xM), K5b a10 a11 μ12 → ∀ (H : Heap) (locs : List Loc) (ls : Array Slot), xH E ad (xA ad s.heap.size) s.heap μ12 H locs → lv_has ls 6 [(0, .ref (ad q1)), (1, .ref (ad q2)), (2, .int a3), (4, .int a10), (3, .int a11)] → W p l e (headSpec tX2_smearOn ({ frames := 3, cells := 0, slots := 0, locals := 120 } : Room)).room s m args below meth c H locs 0 0 Q (F0 m 5 ls [])) : W p l e (headSpec tX2_smearOn ({ frames := 3, cells := 0, slots := 0, locals := 120 } : Room)).room s m args below meth c H locs 0 0 Q (F0 m 5 ls []) := by
  obtain ⟨hx, hb, hml, hown, hts, hKn, hN, hlk⟩ := id G
  unfold B_X2_smearOn_5 at hq
  refine lv_iload hx hb dX2_smearOn_5 (lv_at hl 3 rfl) ?_
  refine lv_aload_n hx hb dX2_smearOn_7 rfl (lv_at hl 0 rfl) ?_
  refine x_get (j := 2) (C := RX2) (T := TX2) (N := 7) (v := .int (μ7.1 q1 2)) G hH hk_q1 (by decide) rfl inlX2 (by decide) (wm_3 _ (List.mem_of_getElem? (i := 21) rfl)) rfl dX2_smearOn_8 ?_
  refine lv_icmp_ge (tgt := 65) hx hb dX2_smearOn_11 (by decide) (fun c13 => ?_) (fun c13 => ?_)
  · have hq := hq.1 c13
    exact kK50 a5 μ7 hq _ _ _ hH (lv_sub hl [4] rfl)
  · have hq := hq.2 c13
    refine lv_aload_n hx hb dX2_smearOn_14 rfl (lv_at hl 0 rfl) ?_
    refine x_get (j := 1) (C := RX2) (T := TX2) (N := 7) (v := .int (μ7.1 q1 1)) G hH hk_q1 (by decide) rfl inlX2 (by decide) (wm_3 _ (List.mem_of_getElem? (i := 20) rfl)) rfl dX2_smearOn_15 ?_
    refine lv_aload_n hx hb dX2_smearOn_18 rfl (lv_at hl 0 rfl) ?_
    refine x_get (j := 5) (C := RX2) (T := TX2) (N := 7) (v := .ref (ad (rt q1 5))) G hH hk_q1 (by decide) rfl inlX2 (by decide) (wm_4 _ (List.mem_of_getElem? (i := 0) rfl)) rfl dX2_smearOn_19 ?_
    refine lv_iload hx hb dX2_smearOn_22 (lv_at hl 3 rfl) ?_
    refine x_cSi (As := [.ref (ad (rt q1 5)), .int a4]) (rest := [.int (μ7.1 q1 1)]) G hH hA (c_X5_at l E ad μ7 (rt q1 5) a4 (kt_1_5 _ hk_q1) _ hq) (wm_26 _ (List.mem_of_getElem? (i := 14) rfl)) mt_X5_at mn_RX5 mc_X5_at md_X5_at ⟨rfl, rfl, Nat.le_of_ble_eq_true rfl, Nat.le_of_ble_eq_true rfl⟩ rfl hl.1 rfl (Nat.le_of_ble_eq_true rfl) dX2_smearOn_24 ⟨Nat.zero_le _, Nat.zero_le _⟩ (fun r15 μ14 hq H locs hH => ?_)
    refine lv_isub hx hb dX2_smearOn_27 ?_
    refine lv_topi (fun v16 e_v16 => ?_)
    have hq := hq v16 e_v16
    refine lv_istore (lv' := [(5, .int v16), (0, .ref (ad q1)), (1, .ref (ad q2)), (2, .int a3), (4, .int a4), (3, .int a5)]) hx hb dX2_smearOn_28 hl (by decide) rfl (fun ls hl => ?_)
    refine lv_iload_n hx hb dX2_smearOn_30 rfl (lv_at hl 5 rfl) ?_
    refine lv_aload_n hx hb dX2_smearOn_31 rfl (lv_at hl 2 rfl) ?_
    refine lv_aload_n hx hb dX2_smearOn_32 rfl (lv_at hl 1 rfl) ?_
    refine x_get (j := 4) (C := RX2) (T := TX2) (N := 7) (v := .ref (ad (rt q1 4))) G hH hk_q1 (by decide) rfl inlX2 (by decide) (wm_3 _ (List.mem_of_getElem? (i := 23) rfl)) rfl dX2_smearOn_33 ?_
    refine lv_iload hx hb dX2_smearOn_36 (lv_at hl 4 rfl) ?_
    refine x_cSi (As := [.ref (ad (rt q1 4)), .int a4]) (rest := [.ref (ad q2), .int a5]) G hH hA (c_X5_at l E ad μ14 (rt q1 4) a4 (kt_1_4 _ hk_q1) _ hq) (wm_26 _ (List.mem_of_getElem? (i := 14) rfl)) mt_X5_at mn_RX5 mc_X5_at md_X5_at ⟨rfl, rfl, Nat.le_of_ble_eq_true rfl, Nat.le_of_ble_eq_true rfl⟩ rfl hl.1 rfl (Nat.le_of_ble_eq_true rfl) dX2_smearOn_38 ⟨Nat.zero_le _, Nat.zero_le _⟩ (fun r18 μ17 hq H locs hH => ?_)
    refine lv_iload hx hb dX2_smearOn_41 (lv_at hl 0 rfl) ?_
    refine lv_iload_n hx hb dX2_smearOn_43 rfl (lv_at hl 3 rfl) ?_
    refine lv_aload_n hx hb dX2_smearOn_44 rfl (lv_at hl 1 rfl) ?_
    refine x_get (j := 6) (C := RX2) (T := TX2) (N := 7) (v := .ref (ad (rt q1 6))) G hH hk_q1 (by decide) rfl inlX2 (by decide) (wm_4 _ (List.mem_of_getElem? (i := 1) rfl)) rfl dX2_smearOn_45 ?_
    refine lv_iload hx hb dX2_smearOn_48 (lv_at hl 4 rfl) ?_
    refine x_cSi (As := [.ref (ad (rt q1 6)), .int a4]) (rest := [.int a3, .int v16, .int r18, .ref (ad q2), .int a5]) G hH hA (c_X5_at l E ad μ17 (rt q1 6) a4 (kt_1_6 _ hk_q1) _ hq) (wm_26 _ (List.mem_of_getElem? (i := 14) rfl)) mt_X5_at mn_RX5 mc_X5_at md_X5_at ⟨rfl, rfl, Nat.le_of_ble_eq_true rfl, Nat.le_of_ble_eq_true rfl⟩ rfl hl.1 rfl (Nat.le_of_ble_eq_true rfl) dX2_smearOn_50 ⟨Nat.zero_le _, Nat.zero_le _⟩ (fun r20 μ19 hq H locs hH => ?_)
    refine lv_iand hx hb dX2_smearOn_53 ?_
    refine x_cVi (C := RX0) (T := TX0) (N := 9) (As := [.int r18, .int v16, .int (a3 &&& r20)]) (rest := [.int a5]) G hH hA (c_X0_smearBy l E ad μ19 q2 r18 v16 (a3 &&& r20) hk_q2 _ hq) (wm_27 _ (List.mem_of_getElem? (i := 1) rfl)) mi_X0_smearBy ms_X0_smearBy mn_RX0 mc_X0_smearBy rfl md_X0_smearBy ⟨rfl, rfl, Nat.le_of_ble_eq_true rfl, Nat.le_of_ble_eq_true rfl⟩ hk_q2 (by decide) rfl rfl hl.1 rfl (Nat.le_of_ble_eq_true rfl) dX2_smearOn_54 ⟨Nat.zero_le _, Nat.zero_le _⟩ (fun r22 μ21 hq H locs hH => ?_)
    refine lv_iadd hx hb dX2_smearOn_57 ?_
    refine lv_topi (fun v23 e_v23 => ?_)
    have hq := hq v23 e_v23
    refine lv_istore_n (lv' := [(3, .int v23), (5, .int v16), (0, .ref (ad q1)), (1, .ref (ad q2)), (2, .int a3), (4, .int a4)]) hx hb dX2_smearOn_58 rfl hl (by decide) rfl (fun ls hl => ?_)
    obtain ⟨v24, e_v24⟩ : ∃ y : Int32, y = (a4 + (1 : Int32)) := ⟨_, rfl⟩
    have hq := hq v24 e_v24
    refine lv_iinc (v := v24) (lv' := [(4, .int v24), (3, .int v23), (5, .int v16), (0, .ref (ad q1)), (1, .ref (ad q2)), (2, .int a3)]) hx hb dX2_smearOn_59 hl (k := 5) rfl (by rw [e_v24]; rfl) (by decide) rfl (fun ls hl => ?_)
    refine lv_goto (tgt := 5) hx hb dX2_smearOn_62 (by decide) ?_
    exact kK5b v24 v23 μ21 hq _ _ _ hH (lv_sub hl [3, 4, 5, 0, 1] rfl)
set_option maxRecDepth 100000 in
set_option maxHeartbeats 4000000 in
theorem w_X2_smearOn_5 {E : xE} {ad : Nat → Nat} {p : Program} {l : Launch} {e : Env} {s : State} {m : MethodId} {args : Array Value} {below : List Frame} {meth : Method} {c : Code} {Q : State → Prop} (G : xG E p s m args meth c cX2_smearOn 6 RX2) (hA : ∀ a, s.heap.size ≤ a → xA ad s.heap.size a) (q1 : Nat) (q2 : Nat) (a3 : Int32) (hk_q1 : kd q1 = 1) (hk_q2 : kd q2 = 0) : ∀ (n : Nat) (a4 : Int32) (a5 : Int32) (μ7 : xM) (K50 : Int32 → xM → Prop) (hq : L_X2_smearOn_5 q1 q2 a3 n a4 a5 μ7 K50) (H : Heap) (locs : List Loc) (ls : Array Slot) (hH : xH E ad (xA ad s.heap.size) s.heap μ7 H locs) (hl : lv_has ls 6 [(0, .ref (ad q1)), (1, .ref (ad q2)), (2, .int a3), (4, .int a4), (3, .int a5)]) (kK50 : ∀ (a8 : Int32) (μ9 : xM), K50 a8 μ9 → ∀ (H : Heap) (locs : List Loc) (ls : Array Slot), xH E ad (xA ad s.heap.size) s.heap μ9 H locs → lv_has ls 6 [(3, .int a8)] → W p l e (headSpec tX2_smearOn ({ frames := 3, cells := 0, slots := 0, locals := 120 } : Room)).room s m args below meth c H locs 0 0 Q (F0 m 65 ls [])) , W p l e (headSpec tX2_smearOn ({ frames := 3, cells := 0, slots := 0, locals := 120 } : Room)).room s m args below meth c H locs 0 0 Q (F0 m 5 ls [])
  | 0, _, _, _, _, hq, _, _, _, _, _, _ => hq.elim
  | n + 1, a4, a5, μ7, K50, hq, H, locs, ls, hH, hl, kK50 => wb_X2_smearOn_5 G hA q1 q2 a3 hk_q1 hk_q2 a4 a5 μ7 K50 _ hq hH hl kK50 (fun x0 x1 y hq H locs ls hH hl => w_X2_smearOn_5 G hA q1 q2 a3 hk_q1 hk_q2 n x0 x1 y K50 hq H locs ls hH hl kK50)
set_option maxRecDepth 100000 in
set_option maxHeartbeats 4000000 in
theorem c_X2_smearOn (l : Launch) (E : xE) (ad : Nat → Nat) (μ : xM) (q0 : Nat) (q1 : Nat) (p2 : Int32) (hk_q0 : kd q0 = 1) (hk_q1 : kd q1 = 0) (Qm : Int32 → xM → Prop) (hq : p_X2_smearOn q0 q1 p2 μ Qm) : xMi l yX2_smearOn tX2_smearOn ({ frames := 3, cells := 0, slots := 0, locals := 120 } : Room) E ad μ [.ref (ad q0), .ref (ad q1), .int p2] Qm := by
  refine x_sti (cc := cX2_smearOn) (maxL := 6) (ret := (some .int)) (own := RX2) rfl (by decide) rfl (Nat.le_of_ble_eq_true rfl) ?_
  intro p e s m args below meth c ls G hr hA hH hl
  obtain ⟨hx, hb, hml, hown, hts, hKn, hN, hlk⟩ := id G
  have hl : lv_has ls 6 [(0, .ref (ad q0)), (1, .ref (ad q1)), (2, .int p2)] := hl
  have hH : xH E ad (xA ad s.heap.size) s.heap μ s.heap [] := hH
  unfold p_X2_smearOn at hq
  refine lv_iconst (v := (0 : Int32)) hx hb dX2_smearOn_0 (by decide) ?_
  refine lv_istore_n (lv' := [(3, .int (0 : Int32)), (0, .ref (ad q0)), (1, .ref (ad q1)), (2, .int p2)]) hx hb dX2_smearOn_1 rfl hl (by decide) rfl (fun ls hl => ?_)
  refine lv_iconst (v := (0 : Int32)) hx hb dX2_smearOn_2 (by decide) ?_
  refine lv_istore (lv' := [(4, .int (0 : Int32)), (3, .int (0 : Int32)), (0, .ref (ad q0)), (1, .ref (ad q1)), (2, .int p2)]) hx hb dX2_smearOn_3 hl (by decide) rfl (fun ls hl => ?_)
  obtain ⟨n6, hq⟩ := hq
  refine w_X2_smearOn_5 G hA q0 q1 p2 hk_q0 hk_q1 n6 (0 : Int32) (0 : Int32) μ _ hq _ _ _ hH (lv_sub hl [2, 3, 4, 0, 1] rfl) (fun a25 μ26 hq H locs ls hH hl => ?_)
  refine lv_iload_n hx hb dX2_smearOn_65 rfl (lv_at hl 0 rfl) ?_
  exact x_iret G hr hH hq dX2_smearOn_66
abbrev tX1_spread : List Cond := Cond.code yX1_spread cX1_spread 3 (some .long) :: wsL_law
theorem mt_X1_spread : Cond.static yX1_spread ∈ wsL_law := (wm_20 _ (List.mem_of_getElem? (i := 23) rfl))
theorem mc_X1_spread : Cond.code yX1_spread cX1_spread 3 (some .long) ∈ wsL_law := (wm_21 _ (List.mem_of_getElem? (i := 0) rfl))
theorem md_X1_spread : yX1_spread.cls ≠ "java/lang/invoke/MethodHandle" ∧ yX1_spread.cls ≠ "java/lang/invoke/VarHandle" ∧ (parseMethodDescriptor yX1_spread.desc).map (fun d => d.parameters.length) = some 1 := by decide +kernel
set_option maxRecDepth 100000 in
set_option maxHeartbeats 4000000 in
theorem c_X1_spread (l : Launch) (E : xE) (ad : Nat → Nat) (μ : xM) (p1 : Int32) (Qm : Int64 → xM → Prop) (hq : p_X1_spread p1 μ Qm) : xMl l yX1_spread tX1_spread ({ frames := 1, cells := 0, slots := 0, locals := 40 } : Room) E ad μ [.int p1] Qm := by
  refine x_stl (cc := cX1_spread) (maxL := 3) (ret := (some .long)) (own := RX1) rfl (by decide) rfl (Nat.le_of_ble_eq_true rfl) ?_
  intro p e s m args below meth c ls G hr hA hH hl
  obtain ⟨hx, hb, hml, hown, hts, hKn, hN, hlk⟩ := id G
  have hl : lv_has ls 3 [(0, .int p1)] := hl
  have hH : xH E ad (xA ad s.heap.size) s.heap μ s.heap [] := hH
  unfold p_X1_spread at hq
  refine lv_iload_n hx hb dX1_spread_0 rfl (lv_at hl 0 rfl) ?_
  refine lv_ldc hx hb hown (hts _ (wm_21 _ (List.mem_of_getElem? (i := 1) rfl))) dX1_spread_1 ?_
  refine lv_iand hx hb dX1_spread_3 ?_
  refine lv_i2l (v := ((p1 &&& (65535 : Int32)).toInt64)) hx hb dX1_spread_4 rfl ?_
  refine lv_topl (fun v1 e_v1 => ?_)
  have hq := hq v1 e_v1
  refine lv_lstore_n (lv' := [(1, .long v1), (0, .int p1)]) hx hb dX1_spread_5 rfl hl (by decide) rfl (fun ls hl => ?_)
  refine lv_lload_n hx hb dX1_spread_6 rfl (lv_at hl 0 rfl) ?_
  refine lv_lload_n hx hb dX1_spread_7 rfl (lv_at hl 0 rfl) ?_
  refine lv_bipush (v := (24 : Int32)) hx hb dX1_spread_8 (by decide) ?_
  refine lv_lshl (v := (lL v1 (24 : Int32))) hx hb dX1_spread_10 rfl ?_
  refine lv_lor hx hb dX1_spread_11 ?_
  refine lv_ldc2 hx hb hown (hts _ (wm_21 _ (List.mem_of_getElem? (i := 2) rfl))) dX1_spread_12 ?_
  refine lv_land hx hb dX1_spread_15 ?_
  refine lv_topl (fun v2 e_v2 => ?_)
  have hq := hq v2 e_v2
  refine lv_lstore_n (lv' := [(1, .long v2), (0, .int p1)]) hx hb dX1_spread_16 rfl hl (by decide) rfl (fun ls hl => ?_)
  refine lv_lload_n hx hb dX1_spread_17 rfl (lv_at hl 0 rfl) ?_
  refine lv_lload_n hx hb dX1_spread_18 rfl (lv_at hl 0 rfl) ?_
  refine lv_bipush (v := (12 : Int32)) hx hb dX1_spread_19 (by decide) ?_
  refine lv_lshl (v := (lL v2 (12 : Int32))) hx hb dX1_spread_21 rfl ?_
  refine lv_lor hx hb dX1_spread_22 ?_
  refine lv_ldc2 hx hb hown (hts _ (wm_21 _ (List.mem_of_getElem? (i := 3) rfl))) dX1_spread_23 ?_
  refine lv_land hx hb dX1_spread_26 ?_
  refine lv_topl (fun v3 e_v3 => ?_)
  have hq := hq v3 e_v3
  refine lv_lstore_n (lv' := [(1, .long v3), (0, .int p1)]) hx hb dX1_spread_27 rfl hl (by decide) rfl (fun ls hl => ?_)
  refine lv_lload_n hx hb dX1_spread_28 rfl (lv_at hl 0 rfl) ?_
  refine lv_lload_n hx hb dX1_spread_29 rfl (lv_at hl 0 rfl) ?_
  refine lv_bipush (v := (6 : Int32)) hx hb dX1_spread_30 (by decide) ?_
  refine lv_lshl (v := (lL v3 (6 : Int32))) hx hb dX1_spread_32 rfl ?_
  refine lv_lor hx hb dX1_spread_33 ?_
  refine lv_ldc2 hx hb hown (hts _ (wm_21 _ (List.mem_of_getElem? (i := 4) rfl))) dX1_spread_34 ?_
  refine lv_land hx hb dX1_spread_37 ?_
  refine lv_topl (fun v4 e_v4 => ?_)
  have hq := hq v4 e_v4
  refine lv_lstore_n (lv' := [(1, .long v4), (0, .int p1)]) hx hb dX1_spread_38 rfl hl (by decide) rfl (fun ls hl => ?_)
  refine lv_lload_n hx hb dX1_spread_39 rfl (lv_at hl 0 rfl) ?_
  refine lv_lload_n hx hb dX1_spread_40 rfl (lv_at hl 0 rfl) ?_
  refine lv_iconst (v := (3 : Int32)) hx hb dX1_spread_41 (by decide) ?_
  refine lv_lshl (v := (lL v4 (3 : Int32))) hx hb dX1_spread_42 rfl ?_
  refine lv_lor hx hb dX1_spread_43 ?_
  refine lv_ldc2 hx hb hown (hts _ (wm_21 _ (List.mem_of_getElem? (i := 5) rfl))) dX1_spread_44 ?_
  refine lv_land hx hb dX1_spread_47 ?_
  exact x_lret G hr hH hq dX1_spread_48
abbrev tX7_cover : List Cond := Cond.code yX7_cover cX7_cover 4 none :: wsL_law
theorem mi_X7_cover : Cond.instanceMethod yX7_cover ∈ wsL_law := (wm_22 _ (List.mem_of_getElem? (i := 7) rfl))
theorem ms_X7_cover : Cond.selects RX7 yX7_cover yX7_cover ∈ wsL_law := (wm_22 _ (List.mem_of_getElem? (i := 8) rfl))
theorem mc_X7_cover : Cond.code yX7_cover cX7_cover 4 none ∈ wsL_law := (wm_22 _ (List.mem_of_getElem? (i := 9) rfl))
theorem md_X7_cover : yX7_cover.cls ≠ "java/lang/invoke/MethodHandle" ∧ yX7_cover.cls ≠ "java/lang/invoke/VarHandle" ∧ (parseMethodDescriptor yX7_cover.desc).map (fun d => d.parameters.length) = some 2 := by decide +kernel
set_option maxRecDepth 100000 in
set_option maxHeartbeats 4000000 in
theorem c_X7_cover (l : Launch) (E : xE) (ad : Nat → Nat) (μ : xM) (q0 : Nat) (p1 : Int32) (p2 : Int64) (hk_q0 : kd q0 = 5) (Qm : xM → Prop) (hq : p_X7_cover q0 p1 p2 μ Qm) : xMv l yX7_cover tX7_cover ({ frames := 1, cells := 0, slots := 0, locals := 40 } : Room) E ad μ [.ref (ad q0), .int p1, .long p2] Qm := by
  refine x_stv (cc := cX7_cover) (maxL := 4) (ret := none) (own := RX7) rfl (by decide) rfl (Nat.le_of_ble_eq_true rfl) ?_
  intro p e s m args below meth c ls G hr hA hH hl
  obtain ⟨hx, hb, hml, hown, hts, hKn, hN, hlk⟩ := id G
  have hl : lv_has ls 4 [(0, .ref (ad q0)), (1, .int p1), (2, .long p2)] := hl
  have hH : xH E ad (xA ad s.heap.size) s.heap μ s.heap [] := hH
  unfold p_X7_cover at hq
  refine lv_aload_n hx hb dX7_cover_0 rfl (lv_at hl 0 rfl) ?_
  refine lv_aload_n hx hb dX7_cover_1 rfl (lv_at hl 0 rfl) ?_
  refine x_get (j := 0) (C := RX7) (T := TX7) (N := 3) (v := .long (μ.2 q0 0)) G hH hk_q0 (by decide) rfl inlX7 (by decide) (wm_4 _ (List.mem_of_getElem? (i := 5) rfl)) rfl dX7_cover_2 ?_
  refine lv_lload_n hx hb dX7_cover_5 rfl (lv_at hl 2 rfl) ?_
  refine lv_ldc2 hx hb hown (hts _ (wm_22 _ (List.mem_of_getElem? (i := 10) rfl))) dX7_cover_6 ?_
  refine lv_lmul hx hb dX7_cover_9 ?_
  refine lv_ldc2 hx hb hown (hts _ (wm_22 _ (List.mem_of_getElem? (i := 11) rfl))) dX7_cover_10 ?_
  refine lv_lxor hx hb dX7_cover_13 ?_
  refine lv_land hx hb dX7_cover_14 ?_
  refine lv_lload_n hx hb dX7_cover_15 rfl (lv_at hl 2 rfl) ?_
  refine lv_iload_n hx hb dX7_cover_16 rfl (lv_at hl 1 rfl) ?_
  refine lv_i2l (v := (p1.toInt64)) hx hb dX7_cover_17 rfl ?_
  refine lv_lmul hx hb dX7_cover_18 ?_
  refine lv_lor hx hb dX7_cover_19 ?_
  refine x_putl (j := 0) (C := RX7) (T := TX7) (N := 3) G hH hk_q0 (by decide) rfl inlX7 tyX7 tyX7_ok nmX7 (by decide) (wm_4 _ (List.mem_of_getElem? (i := 5) rfl)) rfl (by decide +kernel) (fun _ _ => Nat.le_of_ble_eq_true rfl) (fun _ _ => rfl) dX7_cover_20 (fun μ1 e_μ1 H locs hH => ?_)
  have hq := hq μ1 e_μ1
  refine lv_aload_n hx hb dX7_cover_23 rfl (lv_at hl 0 rfl) ?_
  refine lv_dup hx hb dX7_cover_24 rfl ?_
  refine x_get (j := 1) (C := RX7) (T := TX7) (N := 3) (v := .long (μ1.2 q0 1)) G hH hk_q0 (by decide) rfl inlX7 (by decide) (wm_4 _ (List.mem_of_getElem? (i := 6) rfl)) rfl dX7_cover_25 ?_
  refine lv_lload_n hx hb dX7_cover_28 rfl (lv_at hl 2 rfl) ?_
  refine lv_ldc2 hx hb hown (hts _ (wm_22 _ (List.mem_of_getElem? (i := 10) rfl))) dX7_cover_29 ?_
  refine lv_lmul hx hb dX7_cover_32 ?_
  refine lv_ldc2 hx hb hown (hts _ (wm_22 _ (List.mem_of_getElem? (i := 11) rfl))) dX7_cover_33 ?_
  refine lv_lxor hx hb dX7_cover_36 ?_
  refine lv_land hx hb dX7_cover_37 ?_
  refine x_putl (j := 1) (C := RX7) (T := TX7) (N := 3) G hH hk_q0 (by decide) rfl inlX7 tyX7 tyX7_ok nmX7 (by decide) (wm_4 _ (List.mem_of_getElem? (i := 6) rfl)) rfl (by decide +kernel) (fun _ _ => Nat.le_of_ble_eq_true rfl) (fun _ _ => rfl) dX7_cover_38 (fun μ2 e_μ2 H locs hH => ?_)
  have hq := hq μ2 e_μ2
  exact x_vret G hr hH hq dX7_cover_41
abbrev tX7_mix : List Cond := Cond.code yX7_mix cX7_mix 6 none :: wsL_law
theorem mi_X7_mix : Cond.instanceMethod yX7_mix ∈ wsL_law := (wm_22 _ (List.mem_of_getElem? (i := 13) rfl))
theorem ms_X7_mix : Cond.selects RX7 yX7_mix yX7_mix ∈ wsL_law := (wm_22 _ (List.mem_of_getElem? (i := 14) rfl))
theorem mc_X7_mix : Cond.code yX7_mix cX7_mix 6 none ∈ wsL_law := (wm_22 _ (List.mem_of_getElem? (i := 15) rfl))
theorem md_X7_mix : yX7_mix.cls ≠ "java/lang/invoke/MethodHandle" ∧ yX7_mix.cls ≠ "java/lang/invoke/VarHandle" ∧ (parseMethodDescriptor yX7_mix.desc).map (fun d => d.parameters.length) = some 2 := by decide +kernel
set_option maxRecDepth 100000 in
set_option maxHeartbeats 4000000 in
theorem c_X7_mix (l : Launch) (E : xE) (ad : Nat → Nat) (μ : xM) (q0 : Nat) (p1 : Int32) (p2 : Int64) (hk_q0 : kd q0 = 5) (Qm : xM → Prop) (hq : p_X7_mix q0 p1 p2 μ Qm) : xMv l yX7_mix tX7_mix ({ frames := 2, cells := 0, slots := 0, locals := 80 } : Room) E ad μ [.ref (ad q0), .int p1, .long p2] Qm := by
  refine x_stv (cc := cX7_mix) (maxL := 6) (ret := none) (own := RX7) rfl (by decide) rfl (Nat.le_of_ble_eq_true rfl) ?_
  intro p e s m args below meth c ls G hr hA hH hl
  obtain ⟨hx, hb, hml, hown, hts, hKn, hN, hlk⟩ := id G
  have hl : lv_has ls 6 [(0, .ref (ad q0)), (1, .int p1), (2, .long p2)] := hl
  have hH : xH E ad (xA ad s.heap.size) s.heap μ s.heap [] := hH
  unfold p_X7_mix at hq
  refine lv_aload_n hx hb dX7_mix_0 rfl (lv_at hl 0 rfl) ?_
  refine x_get (j := 0) (C := RX7) (T := TX7) (N := 3) (v := .long (μ.2 q0 0)) G hH hk_q0 (by decide) rfl inlX7 (by decide) (wm_4 _ (List.mem_of_getElem? (i := 5) rfl)) rfl dX7_mix_1 ?_
  refine lv_lload_n hx hb dX7_mix_4 rfl (lv_at hl 2 rfl) ?_
  refine lv_iload_n hx hb dX7_mix_5 rfl (lv_at hl 1 rfl) ?_
  refine lv_i2l (v := (p1.toInt64)) hx hb dX7_mix_6 rfl ?_
  refine lv_lmul hx hb dX7_mix_7 ?_
  refine lv_ladd hx hb dX7_mix_8 ?_
  refine lv_ldc2 hx hb hown (hts _ (wm_22 _ (List.mem_of_getElem? (i := 16) rfl))) dX7_mix_9 ?_
  refine lv_land hx hb dX7_mix_12 ?_
  refine lv_topl (fun v1 e_v1 => ?_)
  have hq := hq v1 e_v1
  refine lv_lstore (lv' := [(4, .long v1), (0, .ref (ad q0)), (1, .int p1), (2, .long p2)]) hx hb dX7_mix_13 hl (by decide) rfl (fun ls hl => ?_)
  refine lv_aload_n hx hb dX7_mix_15 rfl (lv_at hl 1 rfl) ?_
  refine lv_lload hx hb dX7_mix_16 (lv_at hl 0 rfl) ?_
  refine lv_lload_n hx hb dX7_mix_18 rfl (lv_at hl 3 rfl) ?_
  refine lv_lload hx hb dX7_mix_19 (lv_at hl 0 rfl) ?_
  refine x_cSl (As := [.long v1]) (rest := [.long p2, .long v1, .ref (ad q0)]) G hH hA (c_X1_filled l E ad μ v1  _ hq) (wm_21 _ (List.mem_of_getElem? (i := 10) rfl)) mt_X1_filled mn_RX1 mc_X1_filled md_X1_filled ⟨rfl, rfl, Nat.le_of_ble_eq_true rfl, Nat.le_of_ble_eq_true rfl⟩ rfl hl.1 rfl (Nat.le_of_ble_eq_true rfl) dX7_mix_21 ⟨Nat.zero_le _, Nat.zero_le _⟩ (fun r3 μ2 hq H locs hH => ?_)
  refine lv_ldc2 hx hb hown (hts _ (wm_22 _ (List.mem_of_getElem? (i := 11) rfl))) dX7_mix_24 ?_
  refine lv_lxor hx hb dX7_mix_27 ?_
  refine lv_land hx hb dX7_mix_28 ?_
  refine lv_lor hx hb dX7_mix_29 ?_
  refine x_putl (j := 0) (C := RX7) (T := TX7) (N := 3) G hH hk_q0 (by decide) rfl inlX7 tyX7 tyX7_ok nmX7 (by decide) (wm_4 _ (List.mem_of_getElem? (i := 5) rfl)) rfl (by decide +kernel) (fun _ _ => Nat.le_of_ble_eq_true rfl) (fun _ _ => rfl) dX7_mix_30 (fun μ4 e_μ4 H locs hH => ?_)
  have hq := hq μ4 e_μ4
  exact x_vret G hr hH hq dX7_mix_33
abbrev tX7_polish : List Cond := Cond.code yX7_polish cX7_polish 5 none :: wsL_law
theorem mi_X7_polish : Cond.instanceMethod yX7_polish ∈ wsL_law := (wm_22 _ (List.mem_of_getElem? (i := 18) rfl))
theorem ms_X7_polish : Cond.selects RX7 yX7_polish yX7_polish ∈ wsL_law := (wm_22 _ (List.mem_of_getElem? (i := 19) rfl))
theorem mc_X7_polish : Cond.code yX7_polish cX7_polish 5 none ∈ wsL_law := (wm_22 _ (List.mem_of_getElem? (i := 20) rfl))
theorem md_X7_polish : yX7_polish.cls ≠ "java/lang/invoke/MethodHandle" ∧ yX7_polish.cls ≠ "java/lang/invoke/VarHandle" ∧ (parseMethodDescriptor yX7_polish.desc).map (fun d => d.parameters.length) = some 1 := by decide +kernel
set_option maxRecDepth 100000 in
set_option maxHeartbeats 4000000 in
theorem c_X7_polish (l : Launch) (E : xE) (ad : Nat → Nat) (μ : xM) (q0 : Nat) (p1 : Int64) (hk_q0 : kd q0 = 5) (Qm : xM → Prop) (hq : p_X7_polish q0 p1 μ Qm) : xMv l yX7_polish tX7_polish ({ frames := 1, cells := 0, slots := 0, locals := 40 } : Room) E ad μ [.ref (ad q0), .long p1] Qm := by
  refine x_stv (cc := cX7_polish) (maxL := 5) (ret := none) (own := RX7) rfl (by decide) rfl (Nat.le_of_ble_eq_true rfl) ?_
  intro p e s m args below meth c ls G hr hA hH hl
  obtain ⟨hx, hb, hml, hown, hts, hKn, hN, hlk⟩ := id G
  have hl : lv_has ls 5 [(0, .ref (ad q0)), (1, .long p1)] := hl
  have hH : xH E ad (xA ad s.heap.size) s.heap μ s.heap [] := hH
  unfold p_X7_polish at hq
  refine lv_aload_n hx hb dX7_polish_0 rfl (lv_at hl 0 rfl) ?_
  refine x_get (j := 1) (C := RX7) (T := TX7) (N := 3) (v := .long (μ.2 q0 1)) G hH hk_q0 (by decide) rfl inlX7 (by decide) (wm_4 _ (List.mem_of_getElem? (i := 6) rfl)) rfl dX7_polish_1 ?_
  refine lv_iconst (v := (3 : Int32)) hx hb dX7_polish_4 (by decide) ?_
  refine lv_lushr (v := (lU (μ.2 q0 1) (3 : Int32))) hx hb dX7_polish_5 rfl ?_
  refine lv_aload_n hx hb dX7_polish_6 rfl (lv_at hl 0 rfl) ?_
  refine x_get (j := 1) (C := RX7) (T := TX7) (N := 3) (v := .long (μ.2 q0 1)) G hH hk_q0 (by decide) rfl inlX7 (by decide) (wm_4 _ (List.mem_of_getElem? (i := 6) rfl)) rfl dX7_polish_7 ?_
  refine lv_land hx hb dX7_polish_10 ?_
  refine lv_topl (fun v1 e_v1 => ?_)
  have hq := hq v1 e_v1
  refine lv_lstore_n (lv' := [(3, .long v1), (0, .ref (ad q0)), (1, .long p1)]) hx hb dX7_polish_11 rfl hl (by decide) rfl (fun ls hl => ?_)
  refine lv_aload_n hx hb dX7_polish_12 rfl (lv_at hl 1 rfl) ?_
  refine lv_dup hx hb dX7_polish_13 rfl ?_
  refine x_get (j := 1) (C := RX7) (T := TX7) (N := 3) (v := .long (μ.2 q0 1)) G hH hk_q0 (by decide) rfl inlX7 (by decide) (wm_4 _ (List.mem_of_getElem? (i := 6) rfl)) rfl dX7_polish_14 ?_
  refine lv_lload_n hx hb dX7_polish_17 rfl (lv_at hl 2 rfl) ?_
  refine lv_lload_n hx hb dX7_polish_18 rfl (lv_at hl 0 rfl) ?_
  refine lv_ldc2 hx hb hown (hts _ (wm_22 _ (List.mem_of_getElem? (i := 11) rfl))) dX7_polish_19 ?_
  refine lv_lxor hx hb dX7_polish_22 ?_
  refine lv_land hx hb dX7_polish_23 ?_
  refine lv_ladd hx hb dX7_polish_24 ?_
  refine x_putl (j := 1) (C := RX7) (T := TX7) (N := 3) G hH hk_q0 (by decide) rfl inlX7 tyX7 tyX7_ok nmX7 (by decide) (wm_4 _ (List.mem_of_getElem? (i := 6) rfl)) rfl (by decide +kernel) (fun _ _ => Nat.le_of_ble_eq_true rfl) (fun _ _ => rfl) dX7_polish_25 (fun μ2 e_μ2 H locs hH => ?_)
  have hq := hq μ2 e_μ2
  exact x_vret G hr hH hq dX7_polish_28
abbrev tX7_take : List Cond := Cond.code yX7_take cX7_take 6 none :: wsL_law
theorem mi_X7_take : Cond.instanceMethod yX7_take ∈ wsL_law := (wm_22 _ (List.mem_of_getElem? (i := 3) rfl))
theorem ms_X7_take : Cond.selects RX7 yX7_take yX7_take ∈ wsL_law := (wm_22 _ (List.mem_of_getElem? (i := 4) rfl))
theorem mc_X7_take : Cond.code yX7_take cX7_take 6 none ∈ wsL_law := (wm_22 _ (List.mem_of_getElem? (i := 5) rfl))
theorem md_X7_take : yX7_take.cls ≠ "java/lang/invoke/MethodHandle" ∧ yX7_take.cls ≠ "java/lang/invoke/VarHandle" ∧ (parseMethodDescriptor yX7_take.desc).map (fun d => d.parameters.length) = some 3 := by decide +kernel
set_option maxRecDepth 100000 in
set_option maxHeartbeats 4000000 in
theorem c_X7_take (l : Launch) (E : xE) (ad : Nat → Nat) (μ : xM) (q0 : Nat) (p1 : Int32) (p2 : Int32) (p3 : Int32) (hk_q0 : kd q0 = 5) (Qm : xM → Prop) (hq : p_X7_take q0 p1 p2 p3 μ Qm) : xMv l yX7_take tX7_take ({ frames := 3, cells := 0, slots := 0, locals := 120 } : Room) E ad μ [.ref (ad q0), .int p1, .int p2, .int p3] Qm := by
  refine x_stv (cc := cX7_take) (maxL := 6) (ret := none) (own := RX7) rfl (by decide) rfl (Nat.le_of_ble_eq_true rfl) ?_
  intro p e s m args below meth c ls G hr hA hH hl
  obtain ⟨hx, hb, hml, hown, hts, hKn, hN, hlk⟩ := id G
  have hl : lv_has ls 6 [(0, .ref (ad q0)), (1, .int p1), (2, .int p2), (3, .int p3)] := hl
  have hH : xH E ad (xA ad s.heap.size) s.heap μ s.heap [] := hH
  unfold p_X7_take at hq
  refine lv_iload_n hx hb dX7_take_0 rfl (lv_at hl 3 rfl) ?_
  refine lv_aload_n hx hb dX7_take_1 rfl (lv_at hl 0 rfl) ?_
  refine x_get (j := 2) (C := RX7) (T := TX7) (N := 3) (v := .int (μ.1 q0 2)) G hH hk_q0 (by decide) rfl inlX7 (by decide) (wm_4 _ (List.mem_of_getElem? (i := 7) rfl)) rfl dX7_take_2 ?_
  refine lv_iconst (v := (-1 : Int32)) hx hb dX7_take_5 (by decide) ?_
  refine lv_ixor hx hb dX7_take_6 ?_
  refine lv_iand hx hb dX7_take_7 ?_
  refine x_cSl (As := [.int (p3 &&& ((μ.1 q0 2) ^^^ (-1 : Int32)))]) (rest := []) G hH hA (c_X1_spread l E ad μ (p3 &&& ((μ.1 q0 2) ^^^ (-1 : Int32)))  _ hq) (wm_20 _ (List.mem_of_getElem? (i := 22) rfl)) mt_X1_spread mn_RX1 mc_X1_spread md_X1_spread ⟨rfl, rfl, Nat.le_of_ble_eq_true rfl, Nat.le_of_ble_eq_true rfl⟩ rfl hl.1 rfl (Nat.le_of_ble_eq_true rfl) dX7_take_8 ⟨Nat.zero_le _, Nat.zero_le _⟩ (fun r2 μ1 hq H locs hH => ?_)
  refine lv_lstore (lv' := [(4, .long r2), (0, .ref (ad q0)), (1, .int p1), (2, .int p2), (3, .int p3)]) hx hb dX7_take_11 hl (by decide) rfl (fun ls hl => ?_)
  refine lv_iload_n hx hb dX7_take_13 rfl (lv_at hl 2 rfl) ?_
  rcases Decidable.em (p1 = (0 : Int32)) with c3 | c3
  · refine lv_tableIn (off := 30) (tgt := 44) hx hb dX7_take_14 (by rw [c3]; decide) (by rw [c3]; decide) (by rw [c3]; rfl) (by decide) ?_
    have hq := hq.1 c3
    refine lv_aload_n hx hb dX7_take_44 rfl (lv_at hl 1 rfl) ?_
    refine lv_iload_n hx hb dX7_take_45 rfl (lv_at hl 3 rfl) ?_
    refine lv_lload hx hb dX7_take_46 (lv_at hl 0 rfl) ?_
    refine x_cVv (C := RX7) (T := TX7) (N := 3) (As := [.int p2, .long r2]) (rest := []) G hH hA (c_X7_cover l E ad μ1 q0 p2 r2 hk_q0 _ hq) (wm_22 _ (List.mem_of_getElem? (i := 6) rfl)) mi_X7_cover ms_X7_cover mn_RX7 mc_X7_cover rfl md_X7_cover ⟨rfl, rfl, Nat.le_of_ble_eq_true rfl, Nat.le_of_ble_eq_true rfl⟩ hk_q0 (by decide) rfl rfl hl.1 rfl (Nat.le_of_ble_eq_true rfl) dX7_take_48 ⟨Nat.zero_le _, Nat.zero_le _⟩ (fun μ4 hq H locs hH => ?_)
    refine lv_goto (tgt := 86) hx hb dX7_take_51 (by decide) ?_
    exact x_vret G hr hH hq dX7_take_86
  · have hq := hq.2 c3
    rcases Decidable.em (p1 = (1 : Int32)) with c5 | c5
    · refine lv_tableIn (off := 40) (tgt := 54) hx hb dX7_take_14 (by rw [c5]; decide) (by rw [c5]; decide) (by rw [c5]; rfl) (by decide) ?_
      have hq := hq.1 c5
      refine lv_aload_n hx hb dX7_take_54 rfl (lv_at hl 1 rfl) ?_
      refine lv_iload_n hx hb dX7_take_55 rfl (lv_at hl 3 rfl) ?_
      refine lv_lload hx hb dX7_take_56 (lv_at hl 0 rfl) ?_
      refine x_cVv (C := RX7) (T := TX7) (N := 3) (As := [.int p2, .long r2]) (rest := []) G hH hA (c_X7_mix l E ad μ1 q0 p2 r2 hk_q0 _ hq) (wm_22 _ (List.mem_of_getElem? (i := 12) rfl)) mi_X7_mix ms_X7_mix mn_RX7 mc_X7_mix rfl md_X7_mix ⟨rfl, rfl, Nat.le_of_ble_eq_true rfl, Nat.le_of_ble_eq_true rfl⟩ hk_q0 (by decide) rfl rfl hl.1 rfl (Nat.le_of_ble_eq_true rfl) dX7_take_58 ⟨Nat.zero_le _, Nat.zero_le _⟩ (fun μ6 hq H locs hH => ?_)
      refine lv_goto (tgt := 86) hx hb dX7_take_61 (by decide) ?_
      exact x_vret G hr hH hq dX7_take_86
    · have hq := hq.2 c5
      rcases Decidable.em (p1 = (2 : Int32)) with c7 | c7
      · refine lv_tableIn (off := 50) (tgt := 64) hx hb dX7_take_14 (by rw [c7]; decide) (by rw [c7]; decide) (by rw [c7]; rfl) (by decide) ?_
        have hq := hq.1 c7
        refine lv_aload_n hx hb dX7_take_64 rfl (lv_at hl 1 rfl) ?_
        refine lv_lload hx hb dX7_take_65 (lv_at hl 0 rfl) ?_
        refine x_cVv (C := RX7) (T := TX7) (N := 3) (As := [.long r2]) (rest := []) G hH hA (c_X7_polish l E ad μ1 q0 r2 hk_q0 _ hq) (wm_22 _ (List.mem_of_getElem? (i := 17) rfl)) mi_X7_polish ms_X7_polish mn_RX7 mc_X7_polish rfl md_X7_polish ⟨rfl, rfl, Nat.le_of_ble_eq_true rfl, Nat.le_of_ble_eq_true rfl⟩ hk_q0 (by decide) rfl rfl hl.1 rfl (Nat.le_of_ble_eq_true rfl) dX7_take_67 ⟨Nat.zero_le _, Nat.zero_le _⟩ (fun μ8 hq H locs hH => ?_)
        refine lv_goto (tgt := 86) hx hb dX7_take_70 (by decide) ?_
        exact x_vret G hr hH hq dX7_take_86
      · have hq := hq.2 c7
        rcases Decidable.em (p1 = (3 : Int32)) with c9 | c9
        · refine lv_tableIn (off := 59) (tgt := 73) hx hb dX7_take_14 (by rw [c9]; decide) (by rw [c9]; decide) (by rw [c9]; rfl) (by decide) ?_
          have hq := hq.1 c9
          refine lv_aload_n hx hb dX7_take_73 rfl (lv_at hl 1 rfl) ?_
          refine lv_dup hx hb dX7_take_74 rfl ?_
          refine x_get (j := 2) (C := RX7) (T := TX7) (N := 3) (v := .int (μ1.1 q0 2)) G hH hk_q0 (by decide) rfl inlX7 (by decide) (wm_4 _ (List.mem_of_getElem? (i := 7) rfl)) rfl dX7_take_75 ?_
          refine lv_iload_n hx hb dX7_take_78 rfl (lv_at hl 4 rfl) ?_
          refine lv_ior hx hb dX7_take_79 ?_
          refine x_puti (j := 2) (C := RX7) (T := TX7) (N := 3) (ty := .int) G hH hk_q0 (by decide) rfl inlX7 tyX7 tyX7_ok nmX7 (by decide) (wm_4 _ (List.mem_of_getElem? (i := 7) rfl)) rfl (by decide +kernel) rfl rfl (fun _ _ => Nat.le_of_ble_eq_true rfl) (fun _ _ => rfl) dX7_take_80 (fun μ10 e_μ10 H locs hH => ?_)
          have hq := hq μ10 e_μ10
          refine lv_goto (tgt := 86) hx hb dX7_take_83 (by decide) ?_
          exact x_vret G hr hH hq dX7_take_86
        · have hq := hq.2 c9
          have gc3 := lv_neT c3 (a := 0) (by decide)
          have gc5 := lv_neT c5 (a := 1) (by decide)
          have gc7 := lv_neT c7 (a := 2) (by decide)
          have gc9 := lv_neT c9 (a := 3) (by decide)
          refine lv_tableOut (tgt := 86) hx hb dX7_take_14 (by omega) (by decide) ?_
          exact x_vret G hr hH hq dX7_take_86
abbrev tX0_printOn : List Cond := Cond.code yX0_printOn cX0_printOn 3 none :: wsL_law
theorem mi_X0_printOn : Cond.instanceMethod yX0_printOn ∈ wsL_law := (wm_21 _ (List.mem_of_getElem? (i := 22) rfl))
theorem ms_X0_printOn : Cond.selects RX0 yX0_printOn yX0_printOn ∈ wsL_law := (wm_21 _ (List.mem_of_getElem? (i := 23) rfl))
theorem mc_X0_printOn : Cond.code yX0_printOn cX0_printOn 3 none ∈ wsL_law := (wm_22 _ (List.mem_of_getElem? (i := 0) rfl))
theorem md_X0_printOn : yX0_printOn.cls ≠ "java/lang/invoke/MethodHandle" ∧ yX0_printOn.cls ≠ "java/lang/invoke/VarHandle" ∧ (parseMethodDescriptor yX0_printOn.desc).map (fun d => d.parameters.length) = some 2 := by decide +kernel
set_option maxRecDepth 100000 in
set_option maxHeartbeats 4000000 in
theorem c_X0_printOn (l : Launch) (E : xE) (ad : Nat → Nat) (μ : xM) (q0 : Nat) (q1 : Nat) (p2 : Int32) (hk_q0 : kd q0 = 0) (hk_q1 : kd q1 = 5) (Qm : xM → Prop) (hq : p_X0_printOn q0 q1 p2 μ Qm) : xMv l yX0_printOn tX0_printOn ({ frames := 4, cells := 0, slots := 0, locals := 160 } : Room) E ad μ [.ref (ad q0), .ref (ad q1), .int p2] Qm := by
  refine x_stv (cc := cX0_printOn) (maxL := 3) (ret := none) (own := RX0) rfl (by decide) rfl (Nat.le_of_ble_eq_true rfl) ?_
  intro p e s m args below meth c ls G hr hA hH hl
  obtain ⟨hx, hb, hml, hown, hts, hKn, hN, hlk⟩ := id G
  have hl : lv_has ls 3 [(0, .ref (ad q0)), (1, .ref (ad q1)), (2, .int p2)] := hl
  have hH : xH E ad (xA ad s.heap.size) s.heap μ s.heap [] := hH
  unfold p_X0_printOn at hq
  refine lv_aload_n hx hb dX0_printOn_0 rfl (lv_at hl 1 rfl) ?_
  refine lv_aload_n hx hb dX0_printOn_1 rfl (lv_at hl 0 rfl) ?_
  refine x_get (j := 1) (C := RX0) (T := TX0) (N := 9) (v := .ref (ad (rt q0 1))) G hH hk_q0 (by decide) rfl inlX0 (by decide) (wm_3 _ (List.mem_of_getElem? (i := 5) rfl)) rfl dX0_printOn_2 ?_
  refine lv_iload_n hx hb dX0_printOn_5 rfl (lv_at hl 2 rfl) ?_
  refine x_cSi (As := [.ref (ad (rt q0 1)), .int p2]) (rest := [.ref (ad q1)]) G hH hA (c_X5_at l E ad μ (rt q0 1) p2 (kt_0_1 _ hk_q0) _ hq) (wm_10 _ (List.mem_of_getElem? (i := 3) rfl)) mt_X5_at mn_RX5 mc_X5_at md_X5_at ⟨rfl, rfl, Nat.le_of_ble_eq_true rfl, Nat.le_of_ble_eq_true rfl⟩ rfl hl.1 rfl (Nat.le_of_ble_eq_true rfl) dX0_printOn_6 ⟨Nat.zero_le _, Nat.zero_le _⟩ (fun r2 μ1 hq H locs hH => ?_)
  refine lv_aload_n hx hb dX0_printOn_9 rfl (lv_at hl 0 rfl) ?_
  refine x_get (j := 2) (C := RX0) (T := TX0) (N := 9) (v := .ref (ad (rt q0 2))) G hH hk_q0 (by decide) rfl inlX0 (by decide) (wm_3 _ (List.mem_of_getElem? (i := 6) rfl)) rfl dX0_printOn_10 ?_
  refine lv_iload_n hx hb dX0_printOn_13 rfl (lv_at hl 2 rfl) ?_
  refine x_cSi (As := [.ref (ad (rt q0 2)), .int p2]) (rest := [.int r2, .ref (ad q1)]) G hH hA (c_X5_at l E ad μ1 (rt q0 2) p2 (kt_0_2 _ hk_q0) _ hq) (wm_10 _ (List.mem_of_getElem? (i := 3) rfl)) mt_X5_at mn_RX5 mc_X5_at md_X5_at ⟨rfl, rfl, Nat.le_of_ble_eq_true rfl, Nat.le_of_ble_eq_true rfl⟩ rfl hl.1 rfl (Nat.le_of_ble_eq_true rfl) dX0_printOn_14 ⟨Nat.zero_le _, Nat.zero_le _⟩ (fun r4 μ3 hq H locs hH => ?_)
  refine lv_aload_n hx hb dX0_printOn_17 rfl (lv_at hl 0 rfl) ?_
  refine lv_iload_n hx hb dX0_printOn_18 rfl (lv_at hl 2 rfl) ?_
  refine x_cVi (C := RX0) (T := TX0) (N := 9) (As := [.int p2]) (rest := [.int r4, .int r2, .ref (ad q1)]) G hH hA (c_X0_placeOf l E ad μ3 q0 p2 hk_q0 _ hq) (wm_22 _ (List.mem_of_getElem? (i := 1) rfl)) mi_X0_placeOf ms_X0_placeOf mn_RX0 mc_X0_placeOf rfl md_X0_placeOf ⟨rfl, rfl, Nat.le_of_ble_eq_true rfl, Nat.le_of_ble_eq_true rfl⟩ hk_q0 (by decide) rfl rfl hl.1 rfl (Nat.le_of_ble_eq_true rfl) dX0_printOn_19 ⟨Nat.zero_le _, Nat.zero_le _⟩ (fun r6 μ5 hq H locs hH => ?_)
  refine x_cVv (C := RX7) (T := TX7) (N := 3) (As := [.int r2, .int r4, .int r6]) (rest := []) G hH hA (c_X7_take l E ad μ5 q1 r2 r4 r6 hk_q1 _ hq) (wm_22 _ (List.mem_of_getElem? (i := 2) rfl)) mi_X7_take ms_X7_take mn_RX7 mc_X7_take rfl md_X7_take ⟨rfl, rfl, Nat.le_of_ble_eq_true rfl, Nat.le_of_ble_eq_true rfl⟩ hk_q1 (by decide) rfl rfl hl.1 rfl (Nat.le_of_ble_eq_true rfl) dX0_printOn_22 ⟨Nat.zero_le _, Nat.zero_le _⟩ (fun μ7 hq H locs hH => ?_)
  exact x_vret G hr hH hq dX0_printOn_25
abbrev tX2_printNext : List Cond := Cond.code yX2_printNext cX2_printNext 6 (some .int) :: wsL_law
theorem mi_X2_printNext : Cond.instanceMethod yX2_printNext ∈ wsL_law := (wm_26 _ (List.mem_of_getElem? (i := 17) rfl))
theorem ms_X2_printNext : Cond.selects RX2 yX2_printNext yX2_printNext ∈ wsL_law := (wm_26 _ (List.mem_of_getElem? (i := 18) rfl))
theorem mc_X2_printNext : Cond.code yX2_printNext cX2_printNext 6 (some .int) ∈ wsL_law := (wm_26 _ (List.mem_of_getElem? (i := 19) rfl))
theorem md_X2_printNext : yX2_printNext.cls ≠ "java/lang/invoke/MethodHandle" ∧ yX2_printNext.cls ≠ "java/lang/invoke/VarHandle" ∧ (parseMethodDescriptor yX2_printNext.desc).map (fun d => d.parameters.length) = some 3 := by decide +kernel
set_option maxRecDepth 100000 in
set_option maxHeartbeats 4000000 in
theorem c_X2_printNext (l : Launch) (E : xE) (ad : Nat → Nat) (μ : xM) (q0 : Nat) (q1 : Nat) (p2 : Int32) (p3 : Int32) (hk_q0 : kd q0 = 1) (hk_q1 : kd q1 = 0) (Qm : Int32 → xM → Prop) (hq : p_X2_printNext q0 q1 p2 p3 μ Qm) : xMi l yX2_printNext tX2_printNext ({ frames := 5, cells := 0, slots := 0, locals := 200 } : Room) E ad μ [.ref (ad q0), .ref (ad q1), .int p2, .int p3] Qm := by
  refine x_sti (cc := cX2_printNext) (maxL := 6) (ret := (some .int)) (own := RX2) rfl (by decide) rfl (Nat.le_of_ble_eq_true rfl) ?_
  intro p e s m args below meth c ls G hr hA hH hl
  obtain ⟨hx, hb, hml, hown, hts, hKn, hN, hlk⟩ := id G
  have hl : lv_has ls 6 [(0, .ref (ad q0)), (1, .ref (ad q1)), (2, .int p2), (3, .int p3)] := hl
  have hH : xH E ad (xA ad s.heap.size) s.heap μ s.heap [] := hH
  unfold p_X2_printNext at hq
  refine lv_aload_n hx hb dX2_printNext_0 rfl (lv_at hl 0 rfl) ?_
  refine lv_dup hx hb dX2_printNext_1 rfl ?_
  refine x_get (j := 1) (C := RX2) (T := TX2) (N := 7) (v := .int (μ.1 q0 1)) G hH hk_q0 (by decide) rfl inlX2 (by decide) (wm_3 _ (List.mem_of_getElem? (i := 20) rfl)) rfl dX2_printNext_2 ?_
  refine lv_iload_n hx hb dX2_printNext_5 rfl (lv_at hl 3 rfl) ?_
  refine lv_iadd hx hb dX2_printNext_6 ?_
  refine x_puti (j := 1) (C := RX2) (T := TX2) (N := 7) (ty := .int) G hH hk_q0 (by decide) rfl inlX2 tyX2 tyX2_ok nmX2 (by decide) (wm_3 _ (List.mem_of_getElem? (i := 20) rfl)) rfl (by decide +kernel) rfl rfl (fun _ _ => Nat.le_of_ble_eq_true rfl) (fun _ _ => rfl) dX2_printNext_7 (fun μ1 e_μ1 H locs hH => ?_)
  have hq := hq μ1 e_μ1
  refine lv_aload_n hx hb dX2_printNext_10 rfl (lv_at hl 1 rfl) ?_
  refine lv_iload_n hx hb dX2_printNext_11 rfl (lv_at hl 2 rfl) ?_
  refine x_cVi (C := RX0) (T := TX0) (N := 9) (As := [.int p2]) (rest := []) G hH hA (c_X0_placeOf l E ad μ1 q1 p2 hk_q1 _ hq) (wm_26 _ (List.mem_of_getElem? (i := 20) rfl)) mi_X0_placeOf ms_X0_placeOf mn_RX0 mc_X0_placeOf rfl md_X0_placeOf ⟨rfl, rfl, Nat.le_of_ble_eq_true rfl, Nat.le_of_ble_eq_true rfl⟩ hk_q1 (by decide) rfl rfl hl.1 rfl (Nat.le_of_ble_eq_true rfl) dX2_printNext_12 ⟨Nat.zero_le _, Nat.zero_le _⟩ (fun r3 μ2 hq H locs hH => ?_)
  refine lv_istore (lv' := [(4, .int r3), (0, .ref (ad q0)), (1, .ref (ad q1)), (2, .int p2), (3, .int p3)]) hx hb dX2_printNext_15 hl (by decide) rfl (fun ls hl => ?_)
  refine lv_aload_n hx hb dX2_printNext_17 rfl (lv_at hl 1 rfl) ?_
  refine lv_aload_n hx hb dX2_printNext_18 rfl (lv_at hl 2 rfl) ?_
  refine lv_iload hx hb dX2_printNext_19 (lv_at hl 0 rfl) ?_
  refine x_cVi (C := RX2) (T := TX2) (N := 7) (As := [.ref (ad q1), .int r3]) (rest := []) G hH hA (c_X2_smearOn l E ad μ2 q0 q1 r3 hk_q0 hk_q1 _ hq) (wm_26 _ (List.mem_of_getElem? (i := 21) rfl)) mi_X2_smearOn ms_X2_smearOn mn_RX2 mc_X2_smearOn rfl md_X2_smearOn ⟨rfl, rfl, Nat.le_of_ble_eq_true rfl, Nat.le_of_ble_eq_true rfl⟩ hk_q0 (by decide) rfl rfl hl.1 rfl (Nat.le_of_ble_eq_true rfl) dX2_printNext_21 ⟨Nat.zero_le _, Nat.zero_le _⟩ (fun r5 μ4 hq H locs hH => ?_)
  refine lv_istore (lv' := [(5, .int r5), (4, .int r3), (0, .ref (ad q0)), (1, .ref (ad q1)), (2, .int p2), (3, .int p3)]) hx hb dX2_printNext_24 hl (by decide) rfl (fun ls hl => ?_)
  refine lv_aload_n hx hb dX2_printNext_26 rfl (lv_at hl 3 rfl) ?_
  refine lv_aload_n hx hb dX2_printNext_27 rfl (lv_at hl 2 rfl) ?_
  refine x_get (j := 0) (C := RX2) (T := TX2) (N := 7) (v := .ref (ad (rt q0 0))) G hH hk_q0 (by decide) rfl inlX2 (by decide) (wm_3 _ (List.mem_of_getElem? (i := 19) rfl)) rfl dX2_printNext_28 ?_
  refine lv_iload_n hx hb dX2_printNext_31 rfl (lv_at hl 4 rfl) ?_
  refine x_cVv (C := RX0) (T := TX0) (N := 9) (As := [.ref (ad (rt q0 0)), .int p2]) (rest := []) G hH hA (c_X0_printOn l E ad μ4 q1 (rt q0 0) p2 hk_q1 (kt_1_0 _ hk_q0) _ hq) (wm_27 _ (List.mem_of_getElem? (i := 2) rfl)) mi_X0_printOn ms_X0_printOn mn_RX0 mc_X0_printOn rfl md_X0_printOn ⟨rfl, rfl, Nat.le_of_ble_eq_true rfl, Nat.le_of_ble_eq_true rfl⟩ hk_q1 (by decide) rfl rfl hl.1 rfl (Nat.le_of_ble_eq_true rfl) dX2_printNext_32 ⟨Nat.zero_le _, Nat.zero_le _⟩ (fun μ6 hq H locs hH => ?_)
  refine lv_aload_n hx hb dX2_printNext_35 rfl (lv_at hl 2 rfl) ?_
  refine x_get (j := 4) (C := RX2) (T := TX2) (N := 7) (v := .ref (ad (rt q0 4))) G hH hk_q0 (by decide) rfl inlX2 (by decide) (wm_3 _ (List.mem_of_getElem? (i := 23) rfl)) rfl dX2_printNext_36 ?_
  refine lv_aload_n hx hb dX2_printNext_39 rfl (lv_at hl 2 rfl) ?_
  refine x_get (j := 2) (C := RX2) (T := TX2) (N := 7) (v := .int (μ6.1 q0 2)) G hH hk_q0 (by decide) rfl inlX2 (by decide) (wm_3 _ (List.mem_of_getElem? (i := 21) rfl)) rfl dX2_printNext_40 ?_
  refine lv_iload_n hx hb dX2_printNext_43 rfl (lv_at hl 4 rfl) ?_
  refine x_cSv (As := [.ref (ad (rt q0 4)), .int (μ6.1 q0 2), .int p2]) (rest := []) G hH hA (c_X5_put l E ad μ6 (rt q0 4) (μ6.1 q0 2) p2 (kt_1_4 _ hk_q0) _ hq) (wm_27 _ (List.mem_of_getElem? (i := 3) rfl)) mt_X5_put mn_RX5 mc_X5_put md_X5_put ⟨rfl, rfl, Nat.le_of_ble_eq_true rfl, Nat.le_of_ble_eq_true rfl⟩ rfl hl.1 rfl (Nat.le_of_ble_eq_true rfl) dX2_printNext_44 ⟨Nat.zero_le _, Nat.zero_le _⟩ (fun μ7 hq H locs hH => ?_)
  refine lv_aload_n hx hb dX2_printNext_47 rfl (lv_at hl 2 rfl) ?_
  refine x_get (j := 5) (C := RX2) (T := TX2) (N := 7) (v := .ref (ad (rt q0 5))) G hH hk_q0 (by decide) rfl inlX2 (by decide) (wm_4 _ (List.mem_of_getElem? (i := 0) rfl)) rfl dX2_printNext_48 ?_
  refine lv_aload_n hx hb dX2_printNext_51 rfl (lv_at hl 2 rfl) ?_
  refine x_get (j := 2) (C := RX2) (T := TX2) (N := 7) (v := .int (μ7.1 q0 2)) G hH hk_q0 (by decide) rfl inlX2 (by decide) (wm_3 _ (List.mem_of_getElem? (i := 21) rfl)) rfl dX2_printNext_52 ?_
  refine lv_aload_n hx hb dX2_printNext_55 rfl (lv_at hl 2 rfl) ?_
  refine x_get (j := 1) (C := RX2) (T := TX2) (N := 7) (v := .int (μ7.1 q0 1)) G hH hk_q0 (by decide) rfl inlX2 (by decide) (wm_3 _ (List.mem_of_getElem? (i := 20) rfl)) rfl dX2_printNext_56 ?_
  refine x_cSv (As := [.ref (ad (rt q0 5)), .int (μ7.1 q0 2), .int (μ7.1 q0 1)]) (rest := []) G hH hA (c_X5_put l E ad μ7 (rt q0 5) (μ7.1 q0 2) (μ7.1 q0 1) (kt_1_5 _ hk_q0) _ hq) (wm_27 _ (List.mem_of_getElem? (i := 3) rfl)) mt_X5_put mn_RX5 mc_X5_put md_X5_put ⟨rfl, rfl, Nat.le_of_ble_eq_true rfl, Nat.le_of_ble_eq_true rfl⟩ rfl hl.1 rfl (Nat.le_of_ble_eq_true rfl) dX2_printNext_59 ⟨Nat.zero_le _, Nat.zero_le _⟩ (fun μ8 hq H locs hH => ?_)
  refine lv_aload_n hx hb dX2_printNext_62 rfl (lv_at hl 2 rfl) ?_
  refine x_get (j := 6) (C := RX2) (T := TX2) (N := 7) (v := .ref (ad (rt q0 6))) G hH hk_q0 (by decide) rfl inlX2 (by decide) (wm_4 _ (List.mem_of_getElem? (i := 1) rfl)) rfl dX2_printNext_63 ?_
  refine lv_aload_n hx hb dX2_printNext_66 rfl (lv_at hl 2 rfl) ?_
  refine x_get (j := 2) (C := RX2) (T := TX2) (N := 7) (v := .int (μ8.1 q0 2)) G hH hk_q0 (by decide) rfl inlX2 (by decide) (wm_3 _ (List.mem_of_getElem? (i := 21) rfl)) rfl dX2_printNext_67 ?_
  refine lv_iload hx hb dX2_printNext_70 (lv_at hl 1 rfl) ?_
  refine x_cSv (As := [.ref (ad (rt q0 6)), .int (μ8.1 q0 2), .int r3]) (rest := []) G hH hA (c_X5_put l E ad μ8 (rt q0 6) (μ8.1 q0 2) r3 (kt_1_6 _ hk_q0) _ hq) (wm_27 _ (List.mem_of_getElem? (i := 3) rfl)) mt_X5_put mn_RX5 mc_X5_put md_X5_put ⟨rfl, rfl, Nat.le_of_ble_eq_true rfl, Nat.le_of_ble_eq_true rfl⟩ rfl hl.1 rfl (Nat.le_of_ble_eq_true rfl) dX2_printNext_72 ⟨Nat.zero_le _, Nat.zero_le _⟩ (fun μ9 hq H locs hH => ?_)
  refine lv_aload_n hx hb dX2_printNext_75 rfl (lv_at hl 2 rfl) ?_
  refine lv_dup hx hb dX2_printNext_76 rfl ?_
  refine x_get (j := 2) (C := RX2) (T := TX2) (N := 7) (v := .int (μ9.1 q0 2)) G hH hk_q0 (by decide) rfl inlX2 (by decide) (wm_3 _ (List.mem_of_getElem? (i := 21) rfl)) rfl dX2_printNext_77 ?_
  refine lv_iconst (v := (1 : Int32)) hx hb dX2_printNext_80 (by decide) ?_
  refine lv_iadd hx hb dX2_printNext_81 ?_
  refine x_puti (j := 2) (C := RX2) (T := TX2) (N := 7) (ty := .int) G hH hk_q0 (by decide) rfl inlX2 tyX2 tyX2_ok nmX2 (by decide) (wm_3 _ (List.mem_of_getElem? (i := 21) rfl)) rfl (by decide +kernel) rfl rfl (fun _ _ => Nat.le_of_ble_eq_true rfl) (fun _ _ => rfl) dX2_printNext_82 (fun μ10 e_μ10 H locs hH => ?_)
  have hq := hq μ10 e_μ10
  refine lv_aload_n hx hb dX2_printNext_85 rfl (lv_at hl 2 rfl) ?_
  refine lv_dup hx hb dX2_printNext_86 rfl ?_
  refine x_get (j := 3) (C := RX2) (T := TX2) (N := 7) (v := .int (μ10.1 q0 3)) G hH hk_q0 (by decide) rfl inlX2 (by decide) (wm_3 _ (List.mem_of_getElem? (i := 22) rfl)) rfl dX2_printNext_87 ?_
  refine lv_iload hx hb dX2_printNext_90 (lv_at hl 0 rfl) ?_
  refine lv_iadd hx hb dX2_printNext_92 ?_
  refine x_puti (j := 3) (C := RX2) (T := TX2) (N := 7) (ty := .int) G hH hk_q0 (by decide) rfl inlX2 tyX2 tyX2_ok nmX2 (by decide) (wm_3 _ (List.mem_of_getElem? (i := 22) rfl)) rfl (by decide +kernel) rfl rfl (fun _ _ => Nat.le_of_ble_eq_true rfl) (fun _ _ => rfl) dX2_printNext_93 (fun μ11 e_μ11 H locs hH => ?_)
  have hq := hq μ11 e_μ11
  refine lv_iload hx hb dX2_printNext_96 (lv_at hl 0 rfl) ?_
  exact x_iret G hr hH hq dX2_printNext_98
abbrev tX7_wipe : List Cond := Cond.code yX7_wipe cX7_wipe 1 none :: wsL_law
theorem mi_X7_wipe : Cond.instanceMethod yX7_wipe ∈ wsL_law := (wm_19 _ (List.mem_of_getElem? (i := 22) rfl))
theorem ms_X7_wipe : Cond.selects RX7 yX7_wipe yX7_wipe ∈ wsL_law := (wm_19 _ (List.mem_of_getElem? (i := 23) rfl))
theorem mc_X7_wipe : Cond.code yX7_wipe cX7_wipe 1 none ∈ wsL_law := (wm_20 _ (List.mem_of_getElem? (i := 0) rfl))
theorem md_X7_wipe : yX7_wipe.cls ≠ "java/lang/invoke/MethodHandle" ∧ yX7_wipe.cls ≠ "java/lang/invoke/VarHandle" ∧ (parseMethodDescriptor yX7_wipe.desc).map (fun d => d.parameters.length) = some 0 := by decide +kernel
set_option maxRecDepth 100000 in
set_option maxHeartbeats 4000000 in
theorem c_X7_wipe (l : Launch) (E : xE) (ad : Nat → Nat) (μ : xM) (q0 : Nat) (hk_q0 : kd q0 = 5) (Qm : xM → Prop) (hq : p_X7_wipe q0 μ Qm) : xMv l yX7_wipe tX7_wipe ({ frames := 2, cells := 0, slots := 0, locals := 80 } : Room) E ad μ [.ref (ad q0)] Qm := by
  refine x_stv (cc := cX7_wipe) (maxL := 1) (ret := none) (own := RX7) rfl (by decide) rfl (Nat.le_of_ble_eq_true rfl) ?_
  intro p e s m args below meth c ls G hr hA hH hl
  obtain ⟨hx, hb, hml, hown, hts, hKn, hN, hlk⟩ := id G
  have hl : lv_has ls 1 [(0, .ref (ad q0))] := hl
  have hH : xH E ad (xA ad s.heap.size) s.heap μ s.heap [] := hH
  unfold p_X7_wipe at hq
  refine lv_aload_n hx hb dX7_wipe_0 rfl (lv_at hl 0 rfl) ?_
  refine lv_lconst (v := (0 : Int64)) hx hb dX7_wipe_1 (by decide) ?_
  refine lv_lconst (v := (0 : Int64)) hx hb dX7_wipe_2 (by decide) ?_
  refine lv_iconst (v := (0 : Int32)) hx hb dX7_wipe_3 (by decide) ?_
  refine x_cVv (C := RX7) (T := TX7) (N := 3) (As := [.long (0 : Int64), .long (0 : Int64), .int (0 : Int32)]) (rest := []) G hH hA (c_X7_lay l E ad μ q0 (0 : Int64) (0 : Int64) (0 : Int32) hk_q0 _ hq) (wm_9 _ (List.mem_of_getElem? (i := 11) rfl)) mi_X7_lay ms_X7_lay mn_RX7 mc_X7_lay rfl md_X7_lay ⟨rfl, rfl, Nat.le_of_ble_eq_true rfl, Nat.le_of_ble_eq_true rfl⟩ hk_q0 (by decide) rfl rfl hl.1 rfl (Nat.le_of_ble_eq_true rfl) dX7_wipe_4 ⟨Nat.zero_le _, Nat.zero_le _⟩ (fun μ1 hq H locs hH => ?_)
  exact x_vret G hr hH hq dX7_wipe_7
abbrev tX2_renew : List Cond := Cond.code yX2_renew cX2_renew 2 (some .int) :: wsL_law
theorem mi_X2_renew : Cond.instanceMethod yX2_renew ∈ wsL_law := (wm_28 _ (List.mem_of_getElem? (i := 1) rfl))
theorem ms_X2_renew : Cond.selects RX2 yX2_renew yX2_renew ∈ wsL_law := (wm_28 _ (List.mem_of_getElem? (i := 2) rfl))
theorem mc_X2_renew : Cond.code yX2_renew cX2_renew 2 (some .int) ∈ wsL_law := (wm_28 _ (List.mem_of_getElem? (i := 3) rfl))
theorem md_X2_renew : yX2_renew.cls ≠ "java/lang/invoke/MethodHandle" ∧ yX2_renew.cls ≠ "java/lang/invoke/VarHandle" ∧ (parseMethodDescriptor yX2_renew.desc).map (fun d => d.parameters.length) = some 0 := by decide +kernel
set_option maxRecDepth 100000 in
set_option maxHeartbeats 4000000 in
theorem c_X2_renew (l : Launch) (E : xE) (ad : Nat → Nat) (μ : xM) (q0 : Nat) (hk_q0 : kd q0 = 1) (Qm : Int32 → xM → Prop) (hq : p_X2_renew q0 μ Qm) : xMi l yX2_renew tX2_renew ({ frames := 3, cells := 0, slots := 0, locals := 120 } : Room) E ad μ [.ref (ad q0)] Qm := by
  refine x_sti (cc := cX2_renew) (maxL := 2) (ret := (some .int)) (own := RX2) rfl (by decide) rfl (Nat.le_of_ble_eq_true rfl) ?_
  intro p e s m args below meth c ls G hr hA hH hl
  obtain ⟨hx, hb, hml, hown, hts, hKn, hN, hlk⟩ := id G
  have hl : lv_has ls 2 [(0, .ref (ad q0))] := hl
  have hH : xH E ad (xA ad s.heap.size) s.heap μ s.heap [] := hH
  unfold p_X2_renew at hq
  refine lv_aload_n hx hb dX2_renew_0 rfl (lv_at hl 0 rfl) ?_
  refine x_get (j := 2) (C := RX2) (T := TX2) (N := 7) (v := .int (μ.1 q0 2)) G hH hk_q0 (by decide) rfl inlX2 (by decide) (wm_3 _ (List.mem_of_getElem? (i := 21) rfl)) rfl dX2_renew_1 ?_
  refine lv_topi (fun v1 e_v1 => ?_)
  have hq := hq v1 e_v1
  refine lv_istore_n (lv' := [(1, .int v1), (0, .ref (ad q0))]) hx hb dX2_renew_4 rfl hl (by decide) rfl (fun ls hl => ?_)
  refine lv_aload_n hx hb dX2_renew_5 rfl (lv_at hl 1 rfl) ?_
  refine x_get (j := 0) (C := RX2) (T := TX2) (N := 7) (v := .ref (ad (rt q0 0))) G hH hk_q0 (by decide) rfl inlX2 (by decide) (wm_3 _ (List.mem_of_getElem? (i := 19) rfl)) rfl dX2_renew_6 ?_
  refine x_cVv (C := RX7) (T := TX7) (N := 3) (As := []) (rest := []) G hH hA (c_X7_wipe l E ad μ (rt q0 0) (kt_1_0 _ hk_q0) _ hq) (wm_28 _ (List.mem_of_getElem? (i := 4) rfl)) mi_X7_wipe ms_X7_wipe mn_RX7 mc_X7_wipe rfl md_X7_wipe ⟨rfl, rfl, Nat.le_of_ble_eq_true rfl, Nat.le_of_ble_eq_true rfl⟩ (kt_1_0 _ hk_q0) (by decide) rfl rfl hl.1 rfl (Nat.le_of_ble_eq_true rfl) dX2_renew_9 ⟨Nat.zero_le _, Nat.zero_le _⟩ (fun μ2 hq H locs hH => ?_)
  refine lv_aload_n hx hb dX2_renew_12 rfl (lv_at hl 1 rfl) ?_
  refine lv_iconst (v := (0 : Int32)) hx hb dX2_renew_13 (by decide) ?_
  refine x_puti (j := 1) (C := RX2) (T := TX2) (N := 7) (ty := .int) G hH hk_q0 (by decide) rfl inlX2 tyX2 tyX2_ok nmX2 (by decide) (wm_3 _ (List.mem_of_getElem? (i := 20) rfl)) rfl (by decide +kernel) rfl rfl (fun _ _ => Nat.le_of_ble_eq_true rfl) (fun _ _ => rfl) dX2_renew_14 (fun μ3 e_μ3 H locs hH => ?_)
  have hq := hq μ3 e_μ3
  refine lv_aload_n hx hb dX2_renew_17 rfl (lv_at hl 1 rfl) ?_
  refine lv_iconst (v := (0 : Int32)) hx hb dX2_renew_18 (by decide) ?_
  refine x_puti (j := 2) (C := RX2) (T := TX2) (N := 7) (ty := .int) G hH hk_q0 (by decide) rfl inlX2 tyX2 tyX2_ok nmX2 (by decide) (wm_3 _ (List.mem_of_getElem? (i := 21) rfl)) rfl (by decide +kernel) rfl rfl (fun _ _ => Nat.le_of_ble_eq_true rfl) (fun _ _ => rfl) dX2_renew_19 (fun μ4 e_μ4 H locs hH => ?_)
  have hq := hq μ4 e_μ4
  refine lv_aload_n hx hb dX2_renew_22 rfl (lv_at hl 1 rfl) ?_
  refine lv_iconst (v := (0 : Int32)) hx hb dX2_renew_23 (by decide) ?_
  refine x_puti (j := 3) (C := RX2) (T := TX2) (N := 7) (ty := .int) G hH hk_q0 (by decide) rfl inlX2 tyX2 tyX2_ok nmX2 (by decide) (wm_3 _ (List.mem_of_getElem? (i := 22) rfl)) rfl (by decide +kernel) rfl rfl (fun _ _ => Nat.le_of_ble_eq_true rfl) (fun _ _ => rfl) dX2_renew_24 (fun μ5 e_μ5 H locs hH => ?_)
  have hq := hq μ5 e_μ5
  refine lv_iload_n hx hb dX2_renew_27 rfl (lv_at hl 0 rfl) ?_
  exact x_iret G hr hH hq dX2_renew_28
abbrev tX11_doOrder : List Cond := Cond.code yX11_doOrder cX11_doOrder 5 (some .boolean) :: wsL_law
theorem mi_X11_doOrder : Cond.instanceMethod yX11_doOrder ∈ wsL_law := (wm_34 _ (List.mem_of_getElem? (i := 8) rfl))
theorem ms_X11_doOrder : Cond.selects RX11 yX11_doOrder yX11_doOrder ∈ wsL_law := (wm_34 _ (List.mem_of_getElem? (i := 9) rfl))
theorem mc_X11_doOrder : Cond.code yX11_doOrder cX11_doOrder 5 (some .boolean) ∈ wsL_law := (wm_34 _ (List.mem_of_getElem? (i := 10) rfl))
theorem md_X11_doOrder : yX11_doOrder.cls ≠ "java/lang/invoke/MethodHandle" ∧ yX11_doOrder.cls ≠ "java/lang/invoke/VarHandle" ∧ (parseMethodDescriptor yX11_doOrder.desc).map (fun d => d.parameters.length) = some 0 := by decide +kernel
set_option maxRecDepth 100000 in
set_option maxHeartbeats 4000000 in
theorem c_X11_doOrder (l : Launch) (E : xE) (ad : Nat → Nat) (μ : xM) (q0 : Nat) (hk_q0 : kd q0 = 9) (Qm : Int32 → xM → Prop) (hq : p_X11_doOrder q0 μ Qm) : xMi l yX11_doOrder tX11_doOrder ({ frames := 6, cells := 0, slots := 0, locals := 240 } : Room) E ad μ [.ref (ad q0)] Qm := by
  refine x_sti (cc := cX11_doOrder) (maxL := 5) (ret := (some .boolean)) (own := RX11) rfl (by decide) rfl (Nat.le_of_ble_eq_true rfl) ?_
  intro p e s m args below meth c ls G hr hA hH hl
  obtain ⟨hx, hb, hml, hown, hts, hKn, hN, hlk⟩ := id G
  have hl : lv_has ls 5 [(0, .ref (ad q0))] := hl
  have hH : xH E ad (xA ad s.heap.size) s.heap μ s.heap [] := hH
  unfold p_X11_doOrder at hq
  refine lv_aload_n hx hb dX11_doOrder_0 rfl (lv_at hl 0 rfl) ?_
  refine x_get (j := 4) (C := RX11) (T := TX11) (N := 8) (v := .ref (ad (rt q0 4))) G hH hk_q0 (by decide) rfl inlX11 (by decide) (wm_2 _ (List.mem_of_getElem? (i := 8) rfl)) rfl dX11_doOrder_1 ?_
  refine x_get (j := 1) (C := RX4) (T := TX4) (N := 10) (v := .ref (ad (rt (rt q0 4) 1))) G hH (kt_9_4 _ hk_q0) (by decide) rfl inlX4 (by decide) (wm_34 _ (List.mem_of_getElem? (i := 11) rfl)) rfl dX11_doOrder_4 ?_
  refine lv_iconst (v := (0 : Int32)) hx hb dX11_doOrder_7 (by decide) ?_
  refine x_cSi (As := [.ref (ad (rt (rt q0 4) 1)), .int (0 : Int32)]) (rest := []) G hH hA (c_X5_at l E ad μ (rt (rt q0 4) 1) (0 : Int32) (kt_3_1 _ (kt_9_4 _ hk_q0)) _ hq) (wm_16 _ (List.mem_of_getElem? (i := 0) rfl)) mt_X5_at mn_RX5 mc_X5_at md_X5_at ⟨rfl, rfl, Nat.le_of_ble_eq_true rfl, Nat.le_of_ble_eq_true rfl⟩ rfl hl.1 rfl (Nat.le_of_ble_eq_true rfl) dX11_doOrder_8 ⟨Nat.zero_le _, Nat.zero_le _⟩ (fun r2 μ1 hq H locs hH => ?_)
  refine lv_istore_n (lv' := [(1, .int r2), (0, .ref (ad q0))]) hx hb dX11_doOrder_11 rfl hl (by decide) rfl (fun ls hl => ?_)
  refine lv_aload_n hx hb dX11_doOrder_12 rfl (lv_at hl 1 rfl) ?_
  refine x_get (j := 4) (C := RX11) (T := TX11) (N := 8) (v := .ref (ad (rt q0 4))) G hH hk_q0 (by decide) rfl inlX11 (by decide) (wm_2 _ (List.mem_of_getElem? (i := 8) rfl)) rfl dX11_doOrder_13 ?_
  refine x_get (j := 1) (C := RX4) (T := TX4) (N := 10) (v := .ref (ad (rt (rt q0 4) 1))) G hH (kt_9_4 _ hk_q0) (by decide) rfl inlX4 (by decide) (wm_34 _ (List.mem_of_getElem? (i := 11) rfl)) rfl dX11_doOrder_16 ?_
  refine lv_iconst (v := (1 : Int32)) hx hb dX11_doOrder_19 (by decide) ?_
  refine x_cSi (As := [.ref (ad (rt (rt q0 4) 1)), .int (1 : Int32)]) (rest := []) G hH hA (c_X5_at l E ad μ1 (rt (rt q0 4) 1) (1 : Int32) (kt_3_1 _ (kt_9_4 _ hk_q0)) _ hq) (wm_16 _ (List.mem_of_getElem? (i := 0) rfl)) mt_X5_at mn_RX5 mc_X5_at md_X5_at ⟨rfl, rfl, Nat.le_of_ble_eq_true rfl, Nat.le_of_ble_eq_true rfl⟩ rfl hl.1 rfl (Nat.le_of_ble_eq_true rfl) dX11_doOrder_20 ⟨Nat.zero_le _, Nat.zero_le _⟩ (fun r4 μ3 hq H locs hH => ?_)
  refine lv_istore_n (lv' := [(2, .int r4), (1, .int r2), (0, .ref (ad q0))]) hx hb dX11_doOrder_23 rfl hl (by decide) rfl (fun ls hl => ?_)
  refine lv_aload_n hx hb dX11_doOrder_24 rfl (lv_at hl 2 rfl) ?_
  refine x_get (j := 4) (C := RX11) (T := TX11) (N := 8) (v := .ref (ad (rt q0 4))) G hH hk_q0 (by decide) rfl inlX11 (by decide) (wm_2 _ (List.mem_of_getElem? (i := 8) rfl)) rfl dX11_doOrder_25 ?_
  refine x_get (j := 1) (C := RX4) (T := TX4) (N := 10) (v := .ref (ad (rt (rt q0 4) 1))) G hH (kt_9_4 _ hk_q0) (by decide) rfl inlX4 (by decide) (wm_34 _ (List.mem_of_getElem? (i := 11) rfl)) rfl dX11_doOrder_28 ?_
  refine lv_iconst (v := (2 : Int32)) hx hb dX11_doOrder_31 (by decide) ?_
  refine x_cSi (As := [.ref (ad (rt (rt q0 4) 1)), .int (2 : Int32)]) (rest := []) G hH hA (c_X5_at l E ad μ3 (rt (rt q0 4) 1) (2 : Int32) (kt_3_1 _ (kt_9_4 _ hk_q0)) _ hq) (wm_16 _ (List.mem_of_getElem? (i := 0) rfl)) mt_X5_at mn_RX5 mc_X5_at md_X5_at ⟨rfl, rfl, Nat.le_of_ble_eq_true rfl, Nat.le_of_ble_eq_true rfl⟩ rfl hl.1 rfl (Nat.le_of_ble_eq_true rfl) dX11_doOrder_32 ⟨Nat.zero_le _, Nat.zero_le _⟩ (fun r6 μ5 hq H locs hH => ?_)
  refine lv_istore_n (lv' := [(3, .int r6), (2, .int r4), (1, .int r2), (0, .ref (ad q0))]) hx hb dX11_doOrder_35 rfl hl (by decide) rfl (fun ls hl => ?_)
  refine lv_aload_n hx hb dX11_doOrder_36 rfl (lv_at hl 3 rfl) ?_
  refine x_get (j := 4) (C := RX11) (T := TX11) (N := 8) (v := .ref (ad (rt q0 4))) G hH hk_q0 (by decide) rfl inlX11 (by decide) (wm_2 _ (List.mem_of_getElem? (i := 8) rfl)) rfl dX11_doOrder_37 ?_
  refine x_get (j := 1) (C := RX4) (T := TX4) (N := 10) (v := .ref (ad (rt (rt q0 4) 1))) G hH (kt_9_4 _ hk_q0) (by decide) rfl inlX4 (by decide) (wm_34 _ (List.mem_of_getElem? (i := 11) rfl)) rfl dX11_doOrder_40 ?_
  refine lv_iconst (v := (3 : Int32)) hx hb dX11_doOrder_43 (by decide) ?_
  refine x_cSi (As := [.ref (ad (rt (rt q0 4) 1)), .int (3 : Int32)]) (rest := []) G hH hA (c_X5_at l E ad μ5 (rt (rt q0 4) 1) (3 : Int32) (kt_3_1 _ (kt_9_4 _ hk_q0)) _ hq) (wm_16 _ (List.mem_of_getElem? (i := 0) rfl)) mt_X5_at mn_RX5 mc_X5_at md_X5_at ⟨rfl, rfl, Nat.le_of_ble_eq_true rfl, Nat.le_of_ble_eq_true rfl⟩ rfl hl.1 rfl (Nat.le_of_ble_eq_true rfl) dX11_doOrder_44 ⟨Nat.zero_le _, Nat.zero_le _⟩ (fun r8 μ7 hq H locs hH => ?_)
  refine lv_istore (lv' := [(4, .int r8), (3, .int r6), (2, .int r4), (1, .int r2), (0, .ref (ad q0))]) hx hb dX11_doOrder_47 hl (by decide) rfl (fun ls hl => ?_)
  refine lv_aload_n hx hb dX11_doOrder_49 rfl (lv_at hl 4 rfl) ?_
  refine x_get (j := 4) (C := RX11) (T := TX11) (N := 8) (v := .ref (ad (rt q0 4))) G hH hk_q0 (by decide) rfl inlX11 (by decide) (wm_2 _ (List.mem_of_getElem? (i := 8) rfl)) rfl dX11_doOrder_50 ?_
  refine x_get (j := 0) (C := RX4) (T := TX4) (N := 10) (v := .int (μ7.1 (rt q0 4) 0)) G hH (kt_9_4 _ hk_q0) (by decide) rfl inlX4 (by decide) (wm_34 _ (List.mem_of_getElem? (i := 12) rfl)) rfl dX11_doOrder_53 ?_
  refine lv_topi (fun v9 e_v9 => ?_)
  have hq := hq v9 e_v9
  rcases Decidable.em (v9 = (97 : Int32)) with c10 | c10
  · refine lv_lookup (off := 103) (tgt := 159) hx hb dX11_doOrder_56 (by decide) (by rw [c10]; rfl) (by decide) ?_
    have hq := hq.1 c10
    refine lv_aload_n hx hb dX11_doOrder_159 rfl (lv_at hl 4 rfl) ?_
    refine lv_iload_n hx hb dX11_doOrder_160 rfl (lv_at hl 3 rfl) ?_
    refine lv_iload_n hx hb dX11_doOrder_161 rfl (lv_at hl 2 rfl) ?_
    refine lv_iconst (v := (1 : Int32)) hx hb dX11_doOrder_162 (by decide) ?_
    refine x_cVi (C := RX11) (T := TX11) (N := 8) (As := [.int r2, .int r4, .int (1 : Int32)]) (rest := []) G hH hA (c_X11_whyNoBehind l E ad μ7 q0 r2 r4 (1 : Int32) hk_q0 _ hq) (wm_13 _ (List.mem_of_getElem? (i := 23) rfl)) mi_X11_whyNoBehind ms_X11_whyNoBehind mn_RX11 mc_X11_whyNoBehind rfl md_X11_whyNoBehind ⟨rfl, rfl, Nat.le_of_ble_eq_true rfl, Nat.le_of_ble_eq_true rfl⟩ hk_q0 (by decide) rfl rfl hl.1 rfl (Nat.le_of_ble_eq_true rfl) dX11_doOrder_163 ⟨Nat.zero_le _, Nat.zero_le _⟩ (fun r12 μ11 hq H locs hH => ?_)
    refine lv_if_eq (tgt := 171) hx hb dX11_doOrder_166 (by decide) (fun c13 => ?_) (fun c13 => ?_)
    · have hq := hq.1 c13
      refine lv_aload_n hx hb dX11_doOrder_171 rfl (lv_at hl 4 rfl) ?_
      refine x_get (j := 0) (C := RX11) (T := TX11) (N := 8) (v := .ref (ad (rt q0 0))) G hH hk_q0 (by decide) rfl inlX11 (by decide) (wm_1 _ (List.mem_of_getElem? (i := 15) rfl)) rfl dX11_doOrder_172 ?_
      refine x_get (j := 0) (C := RX9) (T := TX9) (N := 3) (v := .ref (ad (rt (rt q0 0) 0))) G hH (kt_9_0 _ hk_q0) (by decide) rfl inlX9 (by decide) (wm_1 _ (List.mem_of_getElem? (i := 23) rfl)) rfl dX11_doOrder_175 ?_
      refine lv_iload_n hx hb dX11_doOrder_178 rfl (lv_at hl 3 rfl) ?_
      refine lv_iload_n hx hb dX11_doOrder_179 rfl (lv_at hl 2 rfl) ?_
      refine lv_iconst (v := (1 : Int32)) hx hb dX11_doOrder_180 (by decide) ?_
      refine x_cVi (C := RX0) (T := TX0) (N := 9) (As := [.int r2, .int r4, .int (1 : Int32)]) (rest := []) G hH hA (c_X0_tellBehind l E ad μ11 (rt (rt q0 0) 0) r2 r4 (1 : Int32) (kt_7_0 _ (kt_9_0 _ hk_q0)) _ hq) (wm_14 _ (List.mem_of_getElem? (i := 8) rfl)) mi_X0_tellBehind ms_X0_tellBehind mn_RX0 mc_X0_tellBehind rfl md_X0_tellBehind ⟨rfl, rfl, Nat.le_of_ble_eq_true rfl, Nat.le_of_ble_eq_true rfl⟩ (kt_7_0 _ (kt_9_0 _ hk_q0)) (by decide) rfl rfl hl.1 rfl (Nat.le_of_ble_eq_true rfl) dX11_doOrder_181 ⟨Nat.zero_le _, Nat.zero_le _⟩ (fun r15 μ14 hq H locs hH => ?_)
      refine lv_pop hx hb dX11_doOrder_184 rfl ?_
      refine lv_iconst (v := (1 : Int32)) hx hb dX11_doOrder_185 (by decide) ?_
      exact x_zret G hr hH xz_1 hq dX11_doOrder_186
    · have hq := hq.2 c13
      refine lv_iconst (v := (0 : Int32)) hx hb dX11_doOrder_169 (by decide) ?_
      exact x_zret G hr hH xz_0 hq dX11_doOrder_170
  · have hq := hq.2 c10
    rcases Decidable.em (v9 = (98 : Int32)) with c16 | c16
    · refine lv_lookup (off := 44) (tgt := 100) hx hb dX11_doOrder_56 (by decide) (by rw [c16]; rfl) (by decide) ?_
      have hq := hq.1 c16
      refine lv_aload_n hx hb dX11_doOrder_100 rfl (lv_at hl 4 rfl) ?_
      refine lv_iload_n hx hb dX11_doOrder_101 rfl (lv_at hl 3 rfl) ?_
      refine lv_iload_n hx hb dX11_doOrder_102 rfl (lv_at hl 2 rfl) ?_
      refine lv_iload_n hx hb dX11_doOrder_103 rfl (lv_at hl 1 rfl) ?_
      refine lv_iload hx hb dX11_doOrder_104 (lv_at hl 0 rfl) ?_
      refine x_cVi (C := RX11) (T := TX11) (N := 8) (As := [.int r2, .int r4, .int r6, .int r8]) (rest := []) G hH hA (c_X11_whyNoBlock l E ad μ7 q0 r2 r4 r6 r8 hk_q0 _ hq) (wm_7 _ (List.mem_of_getElem? (i := 14) rfl)) mi_X11_whyNoBlock ms_X11_whyNoBlock mn_RX11 mc_X11_whyNoBlock rfl md_X11_whyNoBlock ⟨rfl, rfl, Nat.le_of_ble_eq_true rfl, Nat.le_of_ble_eq_true rfl⟩ hk_q0 (by decide) rfl rfl hl.1 rfl (Nat.le_of_ble_eq_true rfl) dX11_doOrder_106 ⟨Nat.zero_le _, Nat.zero_le _⟩ (fun r18 μ17 hq H locs hH => ?_)
      refine lv_if_eq (tgt := 114) hx hb dX11_doOrder_109 (by decide) (fun c19 => ?_) (fun c19 => ?_)
      · have hq := hq.1 c19
        refine lv_aload_n hx hb dX11_doOrder_114 rfl (lv_at hl 4 rfl) ?_
        refine x_get (j := 0) (C := RX11) (T := TX11) (N := 8) (v := .ref (ad (rt q0 0))) G hH hk_q0 (by decide) rfl inlX11 (by decide) (wm_1 _ (List.mem_of_getElem? (i := 15) rfl)) rfl dX11_doOrder_115 ?_
        refine x_get (j := 0) (C := RX9) (T := TX9) (N := 3) (v := .ref (ad (rt (rt q0 0) 0))) G hH (kt_9_0 _ hk_q0) (by decide) rfl inlX9 (by decide) (wm_1 _ (List.mem_of_getElem? (i := 23) rfl)) rfl dX11_doOrder_118 ?_
        refine lv_iload_n hx hb dX11_doOrder_121 rfl (lv_at hl 3 rfl) ?_
        refine lv_iload_n hx hb dX11_doOrder_122 rfl (lv_at hl 2 rfl) ?_
        refine lv_iload_n hx hb dX11_doOrder_123 rfl (lv_at hl 1 rfl) ?_
        refine lv_iload hx hb dX11_doOrder_124 (lv_at hl 0 rfl) ?_
        refine x_cVi (C := RX0) (T := TX0) (N := 9) (As := [.int r2, .int r4, .int r6, .int r8]) (rest := []) G hH hA (c_X0_add l E ad μ17 (rt (rt q0 0) 0) r2 r4 r6 r8 (kt_7_0 _ (kt_9_0 _ hk_q0)) _ hq) (wm_9 _ (List.mem_of_getElem? (i := 16) rfl)) mi_X0_add ms_X0_add mn_RX0 mc_X0_add rfl md_X0_add ⟨rfl, rfl, Nat.le_of_ble_eq_true rfl, Nat.le_of_ble_eq_true rfl⟩ (kt_7_0 _ (kt_9_0 _ hk_q0)) (by decide) rfl rfl hl.1 rfl (Nat.le_of_ble_eq_true rfl) dX11_doOrder_126 ⟨Nat.zero_le _, Nat.zero_le _⟩ (fun r21 μ20 hq H locs hH => ?_)
        refine lv_pop hx hb dX11_doOrder_129 rfl ?_
        refine lv_iconst (v := (1 : Int32)) hx hb dX11_doOrder_130 (by decide) ?_
        exact x_zret G hr hH xz_1 hq dX11_doOrder_131
      · have hq := hq.2 c19
        refine lv_iconst (v := (0 : Int32)) hx hb dX11_doOrder_112 (by decide) ?_
        exact x_zret G hr hH xz_0 hq dX11_doOrder_113
    · have hq := hq.2 c16
      rcases Decidable.em (v9 = (112 : Int32)) with c22 | c22
      · refine lv_lookup (off := 131) (tgt := 187) hx hb dX11_doOrder_56 (by decide) (by rw [c22]; rfl) (by decide) ?_
        have hq := hq.1 c22
        refine lv_aload_n hx hb dX11_doOrder_187 rfl (lv_at hl 4 rfl) ?_
        refine lv_iload_n hx hb dX11_doOrder_188 rfl (lv_at hl 3 rfl) ?_
        refine lv_iload_n hx hb dX11_doOrder_189 rfl (lv_at hl 2 rfl) ?_
        refine x_cVi (C := RX11) (T := TX11) (N := 8) (As := [.int r2, .int r4]) (rest := []) G hH hA (c_X11_whyNoPrint l E ad μ7 q0 r2 r4 hk_q0 _ hq) (wm_26 _ (List.mem_of_getElem? (i := 5) rfl)) mi_X11_whyNoPrint ms_X11_whyNoPrint mn_RX11 mc_X11_whyNoPrint rfl md_X11_whyNoPrint ⟨rfl, rfl, Nat.le_of_ble_eq_true rfl, Nat.le_of_ble_eq_true rfl⟩ hk_q0 (by decide) rfl rfl hl.1 rfl (Nat.le_of_ble_eq_true rfl) dX11_doOrder_190 ⟨Nat.zero_le _, Nat.zero_le _⟩ (fun r24 μ23 hq H locs hH => ?_)
        refine lv_if_eq (tgt := 198) hx hb dX11_doOrder_193 (by decide) (fun c25 => ?_) (fun c25 => ?_)
        · have hq := hq.1 c25
          refine lv_aload_n hx hb dX11_doOrder_198 rfl (lv_at hl 4 rfl) ?_
          refine x_get (j := 0) (C := RX11) (T := TX11) (N := 8) (v := .ref (ad (rt q0 0))) G hH hk_q0 (by decide) rfl inlX11 (by decide) (wm_1 _ (List.mem_of_getElem? (i := 15) rfl)) rfl dX11_doOrder_199 ?_
          refine x_get (j := 1) (C := RX9) (T := TX9) (N := 3) (v := .ref (ad (rt (rt q0 0) 1))) G hH (kt_9_0 _ hk_q0) (by decide) rfl inlX9 (by decide) (wm_26 _ (List.mem_of_getElem? (i := 4) rfl)) rfl dX11_doOrder_202 ?_
          refine lv_aload_n hx hb dX11_doOrder_205 rfl (lv_at hl 4 rfl) ?_
          refine x_get (j := 0) (C := RX11) (T := TX11) (N := 8) (v := .ref (ad (rt q0 0))) G hH hk_q0 (by decide) rfl inlX11 (by decide) (wm_1 _ (List.mem_of_getElem? (i := 15) rfl)) rfl dX11_doOrder_206 ?_
          refine x_get (j := 0) (C := RX9) (T := TX9) (N := 3) (v := .ref (ad (rt (rt q0 0) 0))) G hH (kt_9_0 _ hk_q0) (by decide) rfl inlX9 (by decide) (wm_1 _ (List.mem_of_getElem? (i := 23) rfl)) rfl dX11_doOrder_209 ?_
          refine lv_iload_n hx hb dX11_doOrder_212 rfl (lv_at hl 3 rfl) ?_
          refine lv_iload_n hx hb dX11_doOrder_213 rfl (lv_at hl 2 rfl) ?_
          refine x_cVi (C := RX2) (T := TX2) (N := 7) (As := [.ref (ad (rt (rt q0 0) 0)), .int r2, .int r4]) (rest := []) G hH hA (c_X2_printNext l E ad μ23 (rt (rt q0 0) 1) (rt (rt q0 0) 0) r2 r4 (kt_7_1 _ (kt_9_0 _ hk_q0)) (kt_7_0 _ (kt_9_0 _ hk_q0)) _ hq) (wm_26 _ (List.mem_of_getElem? (i := 16) rfl)) mi_X2_printNext ms_X2_printNext mn_RX2 mc_X2_printNext rfl md_X2_printNext ⟨rfl, rfl, Nat.le_of_ble_eq_true rfl, Nat.le_of_ble_eq_true rfl⟩ (kt_7_1 _ (kt_9_0 _ hk_q0)) (by decide) rfl rfl hl.1 rfl (Nat.le_of_ble_eq_true rfl) dX11_doOrder_214 ⟨Nat.zero_le _, Nat.zero_le _⟩ (fun r27 μ26 hq H locs hH => ?_)
          refine lv_pop hx hb dX11_doOrder_217 rfl ?_
          refine lv_iconst (v := (1 : Int32)) hx hb dX11_doOrder_218 (by decide) ?_
          exact x_zret G hr hH xz_1 hq dX11_doOrder_219
        · have hq := hq.2 c25
          refine lv_iconst (v := (0 : Int32)) hx hb dX11_doOrder_196 (by decide) ?_
          exact x_zret G hr hH xz_0 hq dX11_doOrder_197
      · have hq := hq.2 c22
        rcases Decidable.em (v9 = (115 : Int32)) with c28 | c28
        · refine lv_lookup (off := 76) (tgt := 132) hx hb dX11_doOrder_56 (by decide) (by rw [c28]; rfl) (by decide) ?_
          have hq := hq.1 c28
          refine lv_aload_n hx hb dX11_doOrder_132 rfl (lv_at hl 4 rfl) ?_
          refine lv_iload_n hx hb dX11_doOrder_133 rfl (lv_at hl 3 rfl) ?_
          refine lv_iload_n hx hb dX11_doOrder_134 rfl (lv_at hl 2 rfl) ?_
          refine lv_iload_n hx hb dX11_doOrder_135 rfl (lv_at hl 1 rfl) ?_
          refine x_cVi (C := RX11) (T := TX11) (N := 8) (As := [.int r2, .int r4, .int r6]) (rest := []) G hH hA (c_X11_whyNoShift l E ad μ7 q0 r2 r4 r6 hk_q0 _ hq) (wm_11 _ (List.mem_of_getElem? (i := 18) rfl)) mi_X11_whyNoShift ms_X11_whyNoShift mn_RX11 mc_X11_whyNoShift rfl md_X11_whyNoShift ⟨rfl, rfl, Nat.le_of_ble_eq_true rfl, Nat.le_of_ble_eq_true rfl⟩ hk_q0 (by decide) rfl rfl hl.1 rfl (Nat.le_of_ble_eq_true rfl) dX11_doOrder_136 ⟨Nat.zero_le _, Nat.zero_le _⟩ (fun r30 μ29 hq H locs hH => ?_)
          refine lv_if_eq (tgt := 144) hx hb dX11_doOrder_139 (by decide) (fun c31 => ?_) (fun c31 => ?_)
          · have hq := hq.1 c31
            refine lv_aload_n hx hb dX11_doOrder_144 rfl (lv_at hl 4 rfl) ?_
            refine x_get (j := 0) (C := RX11) (T := TX11) (N := 8) (v := .ref (ad (rt q0 0))) G hH hk_q0 (by decide) rfl inlX11 (by decide) (wm_1 _ (List.mem_of_getElem? (i := 15) rfl)) rfl dX11_doOrder_145 ?_
            refine x_get (j := 0) (C := RX9) (T := TX9) (N := 3) (v := .ref (ad (rt (rt q0 0) 0))) G hH (kt_9_0 _ hk_q0) (by decide) rfl inlX9 (by decide) (wm_1 _ (List.mem_of_getElem? (i := 23) rfl)) rfl dX11_doOrder_148 ?_
            refine lv_iload_n hx hb dX11_doOrder_151 rfl (lv_at hl 3 rfl) ?_
            refine lv_iload_n hx hb dX11_doOrder_152 rfl (lv_at hl 2 rfl) ?_
            refine lv_iload_n hx hb dX11_doOrder_153 rfl (lv_at hl 1 rfl) ?_
            refine x_cVv (C := RX0) (T := TX0) (N := 9) (As := [.int r2, .int r4, .int r6]) (rest := []) G hH hA (c_X0_move l E ad μ29 (rt (rt q0 0) 0) r2 r4 r6 (kt_7_0 _ (kt_9_0 _ hk_q0)) _ hq) (wm_12 _ (List.mem_of_getElem? (i := 2) rfl)) mi_X0_move ms_X0_move mn_RX0 mc_X0_move rfl md_X0_move ⟨rfl, rfl, Nat.le_of_ble_eq_true rfl, Nat.le_of_ble_eq_true rfl⟩ (kt_7_0 _ (kt_9_0 _ hk_q0)) (by decide) rfl rfl hl.1 rfl (Nat.le_of_ble_eq_true rfl) dX11_doOrder_154 ⟨Nat.zero_le _, Nat.zero_le _⟩ (fun μ32 hq H locs hH => ?_)
            refine lv_iconst (v := (1 : Int32)) hx hb dX11_doOrder_157 (by decide) ?_
            exact x_zret G hr hH xz_1 hq dX11_doOrder_158
          · have hq := hq.2 c31
            refine lv_iconst (v := (0 : Int32)) hx hb dX11_doOrder_142 (by decide) ?_
            exact x_zret G hr hH xz_0 hq dX11_doOrder_143
        · have hq := hq.2 c28
          refine lv_lookup (off := 164) (tgt := 220) hx hb dX11_doOrder_56 (by decide) (by show Op.lookupswitch.offset [(97, 103), (98, 44), (112, 131), (115, 76)] _ _ = _; rw [lv_osw c10 (by decide), lv_osw c16 (by decide), lv_osw c22 (by decide), lv_osw c28 (by decide)]; rfl) (by decide) ?_
          refine lv_aload_n hx hb dX11_doOrder_220 rfl (lv_at hl 4 rfl) ?_
          refine x_get (j := 0) (C := RX11) (T := TX11) (N := 8) (v := .ref (ad (rt q0 0))) G hH hk_q0 (by decide) rfl inlX11 (by decide) (wm_1 _ (List.mem_of_getElem? (i := 15) rfl)) rfl dX11_doOrder_221 ?_
          refine x_get (j := 1) (C := RX9) (T := TX9) (N := 3) (v := .ref (ad (rt (rt q0 0) 1))) G hH (kt_9_0 _ hk_q0) (by decide) rfl inlX9 (by decide) (wm_26 _ (List.mem_of_getElem? (i := 4) rfl)) rfl dX11_doOrder_224 ?_
          refine x_cVi (C := RX2) (T := TX2) (N := 7) (As := []) (rest := []) G hH hA (c_X2_renew l E ad μ7 (rt (rt q0 0) 1) (kt_7_1 _ (kt_9_0 _ hk_q0)) _ hq) (wm_28 _ (List.mem_of_getElem? (i := 0) rfl)) mi_X2_renew ms_X2_renew mn_RX2 mc_X2_renew rfl md_X2_renew ⟨rfl, rfl, Nat.le_of_ble_eq_true rfl, Nat.le_of_ble_eq_true rfl⟩ (kt_7_1 _ (kt_9_0 _ hk_q0)) (by decide) rfl rfl hl.1 rfl (Nat.le_of_ble_eq_true rfl) dX11_doOrder_227 ⟨Nat.zero_le _, Nat.zero_le _⟩ (fun r34 μ33 hq H locs hH => ?_)
          refine lv_pop hx hb dX11_doOrder_230 rfl ?_
          refine lv_iconst (v := (1 : Int32)) hx hb dX11_doOrder_231 (by decide) ?_
          exact x_zret G hr hH xz_1 hq dX11_doOrder_232
abbrev tX4_restart : List Cond := Cond.code yX4_restart cX4_restart 1 none :: wsL_law
theorem mi_X4_restart : Cond.instanceMethod yX4_restart ∈ wsL_law := (wm_32 _ (List.mem_of_getElem? (i := 11) rfl))
theorem ms_X4_restart : Cond.selects RX4 yX4_restart yX4_restart ∈ wsL_law := (wm_32 _ (List.mem_of_getElem? (i := 12) rfl))
theorem mc_X4_restart : Cond.code yX4_restart cX4_restart 1 none ∈ wsL_law := (wm_32 _ (List.mem_of_getElem? (i := 13) rfl))
theorem md_X4_restart : yX4_restart.cls ≠ "java/lang/invoke/MethodHandle" ∧ yX4_restart.cls ≠ "java/lang/invoke/VarHandle" ∧ (parseMethodDescriptor yX4_restart.desc).map (fun d => d.parameters.length) = some 0 := by decide +kernel
set_option maxRecDepth 100000 in
set_option maxHeartbeats 4000000 in
theorem c_X4_restart (l : Launch) (E : xE) (ad : Nat → Nat) (μ : xM) (q0 : Nat) (hk_q0 : kd q0 = 3) (Qm : xM → Prop) (hq : p_X4_restart q0 μ Qm) : xMv l yX4_restart tX4_restart ({ frames := 1, cells := 0, slots := 0, locals := 40 } : Room) E ad μ [.ref (ad q0)] Qm := by
  refine x_stv (cc := cX4_restart) (maxL := 1) (ret := none) (own := RX4) rfl (by decide) rfl (Nat.le_of_ble_eq_true rfl) ?_
  intro p e s m args below meth c ls G hr hA hH hl
  obtain ⟨hx, hb, hml, hown, hts, hKn, hN, hlk⟩ := id G
  have hl : lv_has ls 1 [(0, .ref (ad q0))] := hl
  have hH : xH E ad (xA ad s.heap.size) s.heap μ s.heap [] := hH
  unfold p_X4_restart at hq
  refine lv_aload_n hx hb dX4_restart_0 rfl (lv_at hl 0 rfl) ?_
  refine lv_iconst (v := (0 : Int32)) hx hb dX4_restart_1 (by decide) ?_
  refine x_puti (j := 2) (C := RX4) (T := TX4) (N := 10) (ty := .boolean) G hH hk_q0 (by decide) rfl inlX4 tyX4 tyX4_ok nmX4 (by decide) (wm_6 _ (List.mem_of_getElem? (i := 6) rfl)) rfl (by decide +kernel) rfl rfl (fun _ _ => Nat.le_of_ble_eq_true rfl) (fun _ _ => rfl) dX4_restart_2 (fun μ1 e_μ1 H locs hH => ?_)
  have hq := hq μ1 e_μ1
  refine lv_aload_n hx hb dX4_restart_5 rfl (lv_at hl 0 rfl) ?_
  refine lv_iconst (v := (0 : Int32)) hx hb dX4_restart_6 (by decide) ?_
  refine x_puti (j := 3) (C := RX4) (T := TX4) (N := 10) (ty := .boolean) G hH hk_q0 (by decide) rfl inlX4 tyX4 tyX4_ok nmX4 (by decide) (wm_6 _ (List.mem_of_getElem? (i := 7) rfl)) rfl (by decide +kernel) rfl rfl (fun _ _ => Nat.le_of_ble_eq_true rfl) (fun _ _ => rfl) dX4_restart_7 (fun μ2 e_μ2 H locs hH => ?_)
  have hq := hq μ2 e_μ2
  refine lv_aload_n hx hb dX4_restart_10 rfl (lv_at hl 0 rfl) ?_
  refine lv_iconst (v := (0 : Int32)) hx hb dX4_restart_11 (by decide) ?_
  refine x_puti (j := 4) (C := RX4) (T := TX4) (N := 10) (ty := .boolean) G hH hk_q0 (by decide) rfl inlX4 tyX4 tyX4_ok nmX4 (by decide) (wm_6 _ (List.mem_of_getElem? (i := 8) rfl)) rfl (by decide +kernel) rfl rfl (fun _ _ => Nat.le_of_ble_eq_true rfl) (fun _ _ => rfl) dX4_restart_12 (fun μ3 e_μ3 H locs hH => ?_)
  have hq := hq μ3 e_μ3
  exact x_vret G hr hH hq dX4_restart_15
abbrev tX4_numbersBehind : List Cond := Cond.code yX4_numbersBehind cX4_numbersBehind 1 (some .int) :: wsL_law
theorem mt_X4_numbersBehind : Cond.static yX4_numbersBehind ∈ wsL_law := (wm_32 _ (List.mem_of_getElem? (i := 23) rfl))
theorem mc_X4_numbersBehind : Cond.code yX4_numbersBehind cX4_numbersBehind 1 (some .int) ∈ wsL_law := (wm_33 _ (List.mem_of_getElem? (i := 0) rfl))
theorem md_X4_numbersBehind : yX4_numbersBehind.cls ≠ "java/lang/invoke/MethodHandle" ∧ yX4_numbersBehind.cls ≠ "java/lang/invoke/VarHandle" ∧ (parseMethodDescriptor yX4_numbersBehind.desc).map (fun d => d.parameters.length) = some 1 := by decide +kernel
set_option maxRecDepth 100000 in
set_option maxHeartbeats 4000000 in
theorem c_X4_numbersBehind (l : Launch) (E : xE) (ad : Nat → Nat) (μ : xM) (p1 : Int32) (Qm : Int32 → xM → Prop) (hq : p_X4_numbersBehind p1 μ Qm) : xMi l yX4_numbersBehind tX4_numbersBehind ({ frames := 1, cells := 0, slots := 0, locals := 40 } : Room) E ad μ [.int p1] Qm := by
  refine x_sti (cc := cX4_numbersBehind) (maxL := 1) (ret := (some .int)) (own := RX4) rfl (by decide) rfl (Nat.le_of_ble_eq_true rfl) ?_
  intro p e s m args below meth c ls G hr hA hH hl
  obtain ⟨hx, hb, hml, hown, hts, hKn, hN, hlk⟩ := id G
  have hl : lv_has ls 1 [(0, .int p1)] := hl
  have hH : xH E ad (xA ad s.heap.size) s.heap μ s.heap [] := hH
  unfold p_X4_numbersBehind at hq
  refine lv_iload_n hx hb dX4_numbersBehind_0 rfl (lv_at hl 0 rfl) ?_
  rcases Decidable.em (p1 = (97 : Int32)) with c1 | c1
  · refine lv_lookup (off := 55) (tgt := 56) hx hb dX4_numbersBehind_1 (by decide) (by rw [c1]; rfl) (by decide) ?_
    have hq := hq.1 c1
    refine lv_iconst (v := (2 : Int32)) hx hb dX4_numbersBehind_56 (by decide) ?_
    exact x_iret G hr hH hq dX4_numbersBehind_57
  · have hq := hq.2 c1
    rcases Decidable.em (p1 = (98 : Int32)) with c2 | c2
    · refine lv_lookup (off := 51) (tgt := 52) hx hb dX4_numbersBehind_1 (by decide) (by rw [c2]; rfl) (by decide) ?_
      have hq := hq.1 c2
      refine lv_iconst (v := (4 : Int32)) hx hb dX4_numbersBehind_52 (by decide) ?_
      exact x_iret G hr hH hq dX4_numbersBehind_53
    · have hq := hq.2 c2
      rcases Decidable.em (p1 = (110 : Int32)) with c3 | c3
      · refine lv_lookup (off := 59) (tgt := 60) hx hb dX4_numbersBehind_1 (by decide) (by rw [c3]; rfl) (by decide) ?_
        have hq := hq.1 c3
        refine lv_iconst (v := (0 : Int32)) hx hb dX4_numbersBehind_60 (by decide) ?_
        exact x_iret G hr hH hq dX4_numbersBehind_61
      · have hq := hq.2 c3
        rcases Decidable.em (p1 = (112 : Int32)) with c4 | c4
        · refine lv_lookup (off := 57) (tgt := 58) hx hb dX4_numbersBehind_1 (by decide) (by rw [c4]; rfl) (by decide) ?_
          have hq := hq.1 c4
          refine lv_iconst (v := (2 : Int32)) hx hb dX4_numbersBehind_58 (by decide) ?_
          exact x_iret G hr hH hq dX4_numbersBehind_59
        · have hq := hq.2 c4
          rcases Decidable.em (p1 = (115 : Int32)) with c5 | c5
          · refine lv_lookup (off := 53) (tgt := 54) hx hb dX4_numbersBehind_1 (by decide) (by rw [c5]; rfl) (by decide) ?_
            have hq := hq.1 c5
            refine lv_iconst (v := (3 : Int32)) hx hb dX4_numbersBehind_54 (by decide) ?_
            exact x_iret G hr hH hq dX4_numbersBehind_55
          · have hq := hq.2 c5
            refine lv_lookup (off := 61) (tgt := 62) hx hb dX4_numbersBehind_1 (by decide) (by show Op.lookupswitch.offset [(97, 55), (98, 51), (110, 59), (112, 57), (115, 53)] _ _ = _; rw [lv_osw c1 (by decide), lv_osw c2 (by decide), lv_osw c3 (by decide), lv_osw c4 (by decide), lv_osw c5 (by decide)]; rfl) (by decide) ?_
            refine lv_iconst (v := (-1 : Int32)) hx hb dX4_numbersBehind_62 (by decide) ?_
            exact x_iret G hr hH hq dX4_numbersBehind_63
abbrev tX4_startNumber : List Cond := Cond.code yX4_startNumber cX4_startNumber 1 none :: wsL_law
theorem mi_X4_startNumber : Cond.instanceMethod yX4_startNumber ∈ wsL_law := (wm_33 _ (List.mem_of_getElem? (i := 2) rfl))
theorem ms_X4_startNumber : Cond.selects RX4 yX4_startNumber yX4_startNumber ∈ wsL_law := (wm_33 _ (List.mem_of_getElem? (i := 3) rfl))
theorem mc_X4_startNumber : Cond.code yX4_startNumber cX4_startNumber 1 none ∈ wsL_law := (wm_33 _ (List.mem_of_getElem? (i := 4) rfl))
theorem md_X4_startNumber : yX4_startNumber.cls ≠ "java/lang/invoke/MethodHandle" ∧ yX4_startNumber.cls ≠ "java/lang/invoke/VarHandle" ∧ (parseMethodDescriptor yX4_startNumber.desc).map (fun d => d.parameters.length) = some 0 := by decide +kernel
set_option maxRecDepth 100000 in
set_option maxHeartbeats 4000000 in
theorem c_X4_startNumber (l : Launch) (E : xE) (ad : Nat → Nat) (μ : xM) (q0 : Nat) (hk_q0 : kd q0 = 3) (Qm : xM → Prop) (hq : p_X4_startNumber q0 μ Qm) : xMv l yX4_startNumber tX4_startNumber ({ frames := 1, cells := 0, slots := 0, locals := 40 } : Room) E ad μ [.ref (ad q0)] Qm := by
  refine x_stv (cc := cX4_startNumber) (maxL := 1) (ret := none) (own := RX4) rfl (by decide) rfl (Nat.le_of_ble_eq_true rfl) ?_
  intro p e s m args below meth c ls G hr hA hH hl
  obtain ⟨hx, hb, hml, hown, hts, hKn, hN, hlk⟩ := id G
  have hl : lv_has ls 1 [(0, .ref (ad q0))] := hl
  have hH : xH E ad (xA ad s.heap.size) s.heap μ s.heap [] := hH
  unfold p_X4_startNumber at hq
  refine lv_aload_n hx hb dX4_startNumber_0 rfl (lv_at hl 0 rfl) ?_
  refine lv_iconst (v := (0 : Int32)) hx hb dX4_startNumber_1 (by decide) ?_
  refine x_puti (j := 7) (C := RX4) (T := TX4) (N := 10) (ty := .int) G hH hk_q0 (by decide) rfl inlX4 tyX4 tyX4_ok nmX4 (by decide) (wm_6 _ (List.mem_of_getElem? (i := 11) rfl)) rfl (by decide +kernel) rfl rfl (fun _ _ => Nat.le_of_ble_eq_true rfl) (fun _ _ => rfl) dX4_startNumber_2 (fun μ1 e_μ1 H locs hH => ?_)
  have hq := hq μ1 e_μ1
  refine lv_aload_n hx hb dX4_startNumber_5 rfl (lv_at hl 0 rfl) ?_
  refine lv_iconst (v := (0 : Int32)) hx hb dX4_startNumber_6 (by decide) ?_
  refine x_puti (j := 8) (C := RX4) (T := TX4) (N := 10) (ty := .int) G hH hk_q0 (by decide) rfl inlX4 tyX4 tyX4_ok nmX4 (by decide) (wm_6 _ (List.mem_of_getElem? (i := 12) rfl)) rfl (by decide +kernel) rfl rfl (fun _ _ => Nat.le_of_ble_eq_true rfl) (fun _ _ => rfl) dX4_startNumber_7 (fun μ2 e_μ2 H locs hH => ?_)
  have hq := hq μ2 e_μ2
  refine lv_aload_n hx hb dX4_startNumber_10 rfl (lv_at hl 0 rfl) ?_
  refine lv_iconst (v := (0 : Int32)) hx hb dX4_startNumber_11 (by decide) ?_
  refine x_puti (j := 9) (C := RX4) (T := TX4) (N := 10) (ty := .boolean) G hH hk_q0 (by decide) rfl inlX4 tyX4 tyX4_ok nmX4 (by decide) (wm_6 _ (List.mem_of_getElem? (i := 13) rfl)) rfl (by decide +kernel) rfl rfl (fun _ _ => Nat.le_of_ble_eq_true rfl) (fun _ _ => rfl) dX4_startNumber_12 (fun μ3 e_μ3 H locs hH => ?_)
  have hq := hq μ3 e_μ3
  exact x_vret G hr hH hq dX4_startNumber_15
abbrev tX4_begins : List Cond := Cond.code yX4_begins cX4_begins 2 (some .boolean) :: wsL_law
theorem mi_X4_begins : Cond.instanceMethod yX4_begins ∈ wsL_law := (wm_32 _ (List.mem_of_getElem? (i := 19) rfl))
theorem ms_X4_begins : Cond.selects RX4 yX4_begins yX4_begins ∈ wsL_law := (wm_32 _ (List.mem_of_getElem? (i := 20) rfl))
theorem mc_X4_begins : Cond.code yX4_begins cX4_begins 2 (some .boolean) ∈ wsL_law := (wm_32 _ (List.mem_of_getElem? (i := 21) rfl))
theorem md_X4_begins : yX4_begins.cls ≠ "java/lang/invoke/MethodHandle" ∧ yX4_begins.cls ≠ "java/lang/invoke/VarHandle" ∧ (parseMethodDescriptor yX4_begins.desc).map (fun d => d.parameters.length) = some 1 := by decide +kernel
set_option maxRecDepth 100000 in
set_option maxHeartbeats 4000000 in
theorem c_X4_begins (l : Launch) (E : xE) (ad : Nat → Nat) (μ : xM) (q0 : Nat) (p1 : Int32) (hk_q0 : kd q0 = 3) (Qm : Int32 → xM → Prop) (hq : p_X4_begins q0 p1 μ Qm) : xMi l yX4_begins tX4_begins ({ frames := 2, cells := 0, slots := 0, locals := 80 } : Room) E ad μ [.ref (ad q0), .int p1] Qm := by
  refine x_sti (cc := cX4_begins) (maxL := 2) (ret := (some .boolean)) (own := RX4) rfl (by decide) rfl (Nat.le_of_ble_eq_true rfl) ?_
  intro p e s m args below meth c ls G hr hA hH hl
  obtain ⟨hx, hb, hml, hown, hts, hKn, hN, hlk⟩ := id G
  have hl : lv_has ls 2 [(0, .ref (ad q0)), (1, .int p1)] := hl
  have hH : xH E ad (xA ad s.heap.size) s.heap μ s.heap [] := hH
  unfold p_X4_begins at hq
  refine lv_aload_n hx hb dX4_begins_0 rfl (lv_at hl 0 rfl) ?_
  refine lv_iload_n hx hb dX4_begins_1 rfl (lv_at hl 1 rfl) ?_
  refine x_cSi (As := [.int p1]) (rest := [.ref (ad q0)]) G hH hA (c_X4_numbersBehind l E ad μ p1  _ hq) (wm_32 _ (List.mem_of_getElem? (i := 22) rfl)) mt_X4_numbersBehind mn_RX4 mc_X4_numbersBehind md_X4_numbersBehind ⟨rfl, rfl, Nat.le_of_ble_eq_true rfl, Nat.le_of_ble_eq_true rfl⟩ rfl hl.1 rfl (Nat.le_of_ble_eq_true rfl) dX4_begins_2 ⟨Nat.zero_le _, Nat.zero_le _⟩ (fun r2 μ1 hq H locs hH => ?_)
  refine x_puti (j := 5) (C := RX4) (T := TX4) (N := 10) (ty := .int) G hH hk_q0 (by decide) rfl inlX4 tyX4 tyX4_ok nmX4 (by decide) (wm_6 _ (List.mem_of_getElem? (i := 9) rfl)) rfl (by decide +kernel) rfl rfl (fun _ _ => Nat.le_of_ble_eq_true rfl) (fun _ _ => rfl) dX4_begins_5 (fun μ3 e_μ3 H locs hH => ?_)
  have hq := hq μ3 e_μ3
  refine lv_aload_n hx hb dX4_begins_8 rfl (lv_at hl 0 rfl) ?_
  refine x_get (j := 5) (C := RX4) (T := TX4) (N := 10) (v := .int (μ3.1 q0 5)) G hH hk_q0 (by decide) rfl inlX4 (by decide) (wm_6 _ (List.mem_of_getElem? (i := 9) rfl)) rfl dX4_begins_9 ?_
  refine lv_iconst (v := (-1 : Int32)) hx hb dX4_begins_12 (by decide) ?_
  refine lv_icmp_ne (tgt := 18) hx hb dX4_begins_13 (by decide) (fun c4 => ?_) (fun c4 => ?_)
  · have hq := hq.1 c4
    refine lv_aload_n hx hb dX4_begins_18 rfl (lv_at hl 0 rfl) ?_
    refine lv_iload_n hx hb dX4_begins_19 rfl (lv_at hl 1 rfl) ?_
    refine x_puti (j := 0) (C := RX4) (T := TX4) (N := 10) (ty := .int) G hH hk_q0 (by decide) rfl inlX4 tyX4 tyX4_ok nmX4 (by decide) (wm_6 _ (List.mem_of_getElem? (i := 4) rfl)) rfl (by decide +kernel) rfl rfl (fun _ _ => Nat.le_of_ble_eq_true rfl) (fun _ _ => rfl) dX4_begins_20 (fun μ5 e_μ5 H locs hH => ?_)
    have hq := hq μ5 e_μ5
    refine lv_aload_n hx hb dX4_begins_23 rfl (lv_at hl 0 rfl) ?_
    refine lv_iconst (v := (1 : Int32)) hx hb dX4_begins_24 (by decide) ?_
    refine x_puti (j := 3) (C := RX4) (T := TX4) (N := 10) (ty := .boolean) G hH hk_q0 (by decide) rfl inlX4 tyX4 tyX4_ok nmX4 (by decide) (wm_6 _ (List.mem_of_getElem? (i := 7) rfl)) rfl (by decide +kernel) rfl rfl (fun _ _ => Nat.le_of_ble_eq_true rfl) (fun _ _ => rfl) dX4_begins_25 (fun μ6 e_μ6 H locs hH => ?_)
    have hq := hq μ6 e_μ6
    refine lv_aload_n hx hb dX4_begins_28 rfl (lv_at hl 0 rfl) ?_
    refine lv_iconst (v := (0 : Int32)) hx hb dX4_begins_29 (by decide) ?_
    refine x_puti (j := 6) (C := RX4) (T := TX4) (N := 10) (ty := .int) G hH hk_q0 (by decide) rfl inlX4 tyX4 tyX4_ok nmX4 (by decide) (wm_6 _ (List.mem_of_getElem? (i := 10) rfl)) rfl (by decide +kernel) rfl rfl (fun _ _ => Nat.le_of_ble_eq_true rfl) (fun _ _ => rfl) dX4_begins_30 (fun μ7 e_μ7 H locs hH => ?_)
    have hq := hq μ7 e_μ7
    refine lv_aload_n hx hb dX4_begins_33 rfl (lv_at hl 0 rfl) ?_
    refine x_cVv (C := RX4) (T := TX4) (N := 10) (As := []) (rest := []) G hH hA (c_X4_startNumber l E ad μ7 q0 hk_q0 _ hq) (wm_33 _ (List.mem_of_getElem? (i := 1) rfl)) mi_X4_startNumber ms_X4_startNumber mn_RX4 mc_X4_startNumber rfl md_X4_startNumber ⟨rfl, rfl, Nat.le_of_ble_eq_true rfl, Nat.le_of_ble_eq_true rfl⟩ hk_q0 (by decide) rfl rfl hl.1 rfl (Nat.le_of_ble_eq_true rfl) dX4_begins_34 ⟨Nat.zero_le _, Nat.zero_le _⟩ (fun μ8 hq H locs hH => ?_)
    refine lv_iconst (v := (1 : Int32)) hx hb dX4_begins_37 (by decide) ?_
    exact x_zret G hr hH xz_1 hq dX4_begins_38
  · have hq := hq.2 c4
    refine lv_iconst (v := (0 : Int32)) hx hb dX4_begins_16 (by decide) ?_
    exact x_zret G hr hH xz_0 hq dX4_begins_17
abbrev tX4_figure : List Cond := Cond.code yX4_figure cX4_figure 2 (some .boolean) :: wsL_law
theorem mi_X4_figure : Cond.instanceMethod yX4_figure ∈ wsL_law := (wm_33 _ (List.mem_of_getElem? (i := 6) rfl))
theorem ms_X4_figure : Cond.selects RX4 yX4_figure yX4_figure ∈ wsL_law := (wm_33 _ (List.mem_of_getElem? (i := 7) rfl))
theorem mc_X4_figure : Cond.code yX4_figure cX4_figure 2 (some .boolean) ∈ wsL_law := (wm_33 _ (List.mem_of_getElem? (i := 8) rfl))
theorem md_X4_figure : yX4_figure.cls ≠ "java/lang/invoke/MethodHandle" ∧ yX4_figure.cls ≠ "java/lang/invoke/VarHandle" ∧ (parseMethodDescriptor yX4_figure.desc).map (fun d => d.parameters.length) = some 1 := by decide +kernel
set_option maxRecDepth 100000 in
set_option maxHeartbeats 4000000 in
theorem c_X4_figure (l : Launch) (E : xE) (ad : Nat → Nat) (μ : xM) (q0 : Nat) (p1 : Int32) (hk_q0 : kd q0 = 3) (Qm : Int32 → xM → Prop) (hq : p_X4_figure q0 p1 μ Qm) : xMi l yX4_figure tX4_figure ({ frames := 1, cells := 0, slots := 0, locals := 40 } : Room) E ad μ [.ref (ad q0), .int p1] Qm := by
  refine x_sti (cc := cX4_figure) (maxL := 2) (ret := (some .boolean)) (own := RX4) rfl (by decide) rfl (Nat.le_of_ble_eq_true rfl) ?_
  intro p e s m args below meth c ls G hr hA hH hl
  obtain ⟨hx, hb, hml, hown, hts, hKn, hN, hlk⟩ := id G
  have hl : lv_has ls 2 [(0, .ref (ad q0)), (1, .int p1)] := hl
  have hH : xH E ad (xA ad s.heap.size) s.heap μ s.heap [] := hH
  unfold p_X4_figure at hq
  refine lv_aload_n hx hb dX4_figure_0 rfl (lv_at hl 0 rfl) ?_
  refine x_get (j := 6) (C := RX4) (T := TX4) (N := 10) (v := .int (μ.1 q0 6)) G hH hk_q0 (by decide) rfl inlX4 (by decide) (wm_6 _ (List.mem_of_getElem? (i := 10) rfl)) rfl dX4_figure_1 ?_
  refine lv_aload_n hx hb dX4_figure_4 rfl (lv_at hl 0 rfl) ?_
  refine x_get (j := 5) (C := RX4) (T := TX4) (N := 10) (v := .int (μ.1 q0 5)) G hH hk_q0 (by decide) rfl inlX4 (by decide) (wm_6 _ (List.mem_of_getElem? (i := 9) rfl)) rfl dX4_figure_5 ?_
  refine lv_icmp_ge (tgt := 19) hx hb dX4_figure_8 (by decide) (fun c1 => ?_) (fun c1 => ?_)
  · have hq := hq.1 c1
    refine lv_iconst (v := (0 : Int32)) hx hb dX4_figure_19 (by decide) ?_
    exact x_zret G hr hH xz_0 hq dX4_figure_20
  · have hq := hq.2 c1
    refine lv_aload_n hx hb dX4_figure_11 rfl (lv_at hl 0 rfl) ?_
    refine x_get (j := 8) (C := RX4) (T := TX4) (N := 10) (v := .int (μ.1 q0 8)) G hH hk_q0 (by decide) rfl inlX4 (by decide) (wm_6 _ (List.mem_of_getElem? (i := 12) rfl)) rfl dX4_figure_12 ?_
    refine lv_iconst (v := (5 : Int32)) hx hb dX4_figure_15 (by decide) ?_
    refine lv_icmp_lt (tgt := 21) hx hb dX4_figure_16 (by decide) (fun c2 => ?_) (fun c2 => ?_)
    · have hq := hq.1 c2
      refine lv_aload_n hx hb dX4_figure_21 rfl (lv_at hl 0 rfl) ?_
      refine lv_bipush (v := (10 : Int32)) hx hb dX4_figure_22 (by decide) ?_
      refine lv_aload_n hx hb dX4_figure_24 rfl (lv_at hl 0 rfl) ?_
      refine x_get (j := 7) (C := RX4) (T := TX4) (N := 10) (v := .int (μ.1 q0 7)) G hH hk_q0 (by decide) rfl inlX4 (by decide) (wm_6 _ (List.mem_of_getElem? (i := 11) rfl)) rfl dX4_figure_25 ?_
      refine lv_imul hx hb dX4_figure_28 ?_
      refine lv_iload_n hx hb dX4_figure_29 rfl (lv_at hl 1 rfl) ?_
      refine lv_iadd hx hb dX4_figure_30 ?_
      refine x_puti (j := 7) (C := RX4) (T := TX4) (N := 10) (ty := .int) G hH hk_q0 (by decide) rfl inlX4 tyX4 tyX4_ok nmX4 (by decide) (wm_6 _ (List.mem_of_getElem? (i := 11) rfl)) rfl (by decide +kernel) rfl rfl (fun _ _ => Nat.le_of_ble_eq_true rfl) (fun _ _ => rfl) dX4_figure_31 (fun μ3 e_μ3 H locs hH => ?_)
      have hq := hq μ3 e_μ3
      refine lv_aload_n hx hb dX4_figure_34 rfl (lv_at hl 0 rfl) ?_
      refine lv_dup hx hb dX4_figure_35 rfl ?_
      refine x_get (j := 8) (C := RX4) (T := TX4) (N := 10) (v := .int (μ3.1 q0 8)) G hH hk_q0 (by decide) rfl inlX4 (by decide) (wm_6 _ (List.mem_of_getElem? (i := 12) rfl)) rfl dX4_figure_36 ?_
      refine lv_iconst (v := (1 : Int32)) hx hb dX4_figure_39 (by decide) ?_
      refine lv_iadd hx hb dX4_figure_40 ?_
      refine x_puti (j := 8) (C := RX4) (T := TX4) (N := 10) (ty := .int) G hH hk_q0 (by decide) rfl inlX4 tyX4 tyX4_ok nmX4 (by decide) (wm_6 _ (List.mem_of_getElem? (i := 12) rfl)) rfl (by decide +kernel) rfl rfl (fun _ _ => Nat.le_of_ble_eq_true rfl) (fun _ _ => rfl) dX4_figure_41 (fun μ4 e_μ4 H locs hH => ?_)
      have hq := hq μ4 e_μ4
      refine lv_iconst (v := (1 : Int32)) hx hb dX4_figure_44 (by decide) ?_
      exact x_zret G hr hH xz_1 hq dX4_figure_45
    · have hq := hq.2 c2
      refine lv_iconst (v := (0 : Int32)) hx hb dX4_figure_19 (by decide) ?_
      exact x_zret G hr hH xz_0 hq dX4_figure_20
abbrev tX4_endNumber : List Cond := Cond.code yX4_endNumber cX4_endNumber 1 none :: wsL_law
theorem mi_X4_endNumber : Cond.instanceMethod yX4_endNumber ∈ wsL_law := (wm_33 _ (List.mem_of_getElem? (i := 10) rfl))
theorem ms_X4_endNumber : Cond.selects RX4 yX4_endNumber yX4_endNumber ∈ wsL_law := (wm_33 _ (List.mem_of_getElem? (i := 11) rfl))
theorem mc_X4_endNumber : Cond.code yX4_endNumber cX4_endNumber 1 none ∈ wsL_law := (wm_33 _ (List.mem_of_getElem? (i := 12) rfl))
theorem md_X4_endNumber : yX4_endNumber.cls ≠ "java/lang/invoke/MethodHandle" ∧ yX4_endNumber.cls ≠ "java/lang/invoke/VarHandle" ∧ (parseMethodDescriptor yX4_endNumber.desc).map (fun d => d.parameters.length) = some 0 := by decide +kernel
set_option maxRecDepth 100000 in
set_option maxHeartbeats 4000000 in
theorem c_X4_endNumber (l : Launch) (E : xE) (ad : Nat → Nat) (μ : xM) (q0 : Nat) (hk_q0 : kd q0 = 3) (Qm : xM → Prop) (hq : p_X4_endNumber q0 μ Qm) : xMv l yX4_endNumber tX4_endNumber ({ frames := 2, cells := 0, slots := 0, locals := 80 } : Room) E ad μ [.ref (ad q0)] Qm := by
  refine x_stv (cc := cX4_endNumber) (maxL := 1) (ret := none) (own := RX4) rfl (by decide) rfl (Nat.le_of_ble_eq_true rfl) ?_
  intro p e s m args below meth c ls G hr hA hH hl
  obtain ⟨hx, hb, hml, hown, hts, hKn, hN, hlk⟩ := id G
  have hl : lv_has ls 1 [(0, .ref (ad q0))] := hl
  have hH : xH E ad (xA ad s.heap.size) s.heap μ s.heap [] := hH
  unfold p_X4_endNumber at hq
  refine lv_aload_n hx hb dX4_endNumber_0 rfl (lv_at hl 0 rfl) ?_
  refine x_get (j := 8) (C := RX4) (T := TX4) (N := 10) (v := .int (μ.1 q0 8)) G hH hk_q0 (by decide) rfl inlX4 (by decide) (wm_6 _ (List.mem_of_getElem? (i := 12) rfl)) rfl dX4_endNumber_1 ?_
  refine lv_if_ne (tgt := 8) hx hb dX4_endNumber_4 (by decide) (fun c1 => ?_) (fun c1 => ?_)
  · have hq := hq.1 c1
    refine lv_aload_n hx hb dX4_endNumber_8 rfl (lv_at hl 0 rfl) ?_
    refine x_get (j := 1) (C := RX4) (T := TX4) (N := 10) (v := .ref (ad (rt q0 1))) G hH hk_q0 (by decide) rfl inlX4 (by decide) (wm_6 _ (List.mem_of_getElem? (i := 5) rfl)) rfl dX4_endNumber_9 ?_
    refine lv_aload_n hx hb dX4_endNumber_12 rfl (lv_at hl 0 rfl) ?_
    refine x_get (j := 6) (C := RX4) (T := TX4) (N := 10) (v := .int (μ.1 q0 6)) G hH hk_q0 (by decide) rfl inlX4 (by decide) (wm_6 _ (List.mem_of_getElem? (i := 10) rfl)) rfl dX4_endNumber_13 ?_
    refine lv_aload_n hx hb dX4_endNumber_16 rfl (lv_at hl 0 rfl) ?_
    refine x_get (j := 9) (C := RX4) (T := TX4) (N := 10) (v := .int (μ.1 q0 9)) G hH hk_q0 (by decide) rfl inlX4 (by decide) (wm_6 _ (List.mem_of_getElem? (i := 13) rfl)) rfl dX4_endNumber_17 ?_
    refine lv_if_eq (tgt := 31) hx hb dX4_endNumber_20 (by decide) (fun c2 => ?_) (fun c2 => ?_)
    · have hq := hq.1 c2
      refine lv_aload_n hx hb dX4_endNumber_31 rfl (lv_at hl 0 rfl) ?_
      refine x_get (j := 7) (C := RX4) (T := TX4) (N := 10) (v := .int (μ.1 q0 7)) G hH hk_q0 (by decide) rfl inlX4 (by decide) (wm_6 _ (List.mem_of_getElem? (i := 11) rfl)) rfl dX4_endNumber_32 ?_
      refine x_cSv (As := [.ref (ad (rt q0 1)), .int (μ.1 q0 6), .int (μ.1 q0 7)]) (rest := []) G hH hA (c_X5_put l E ad μ (rt q0 1) (μ.1 q0 6) (μ.1 q0 7) (kt_3_1 _ hk_q0) _ hq) (wm_33 _ (List.mem_of_getElem? (i := 13) rfl)) mt_X5_put mn_RX5 mc_X5_put md_X5_put ⟨rfl, rfl, Nat.le_of_ble_eq_true rfl, Nat.le_of_ble_eq_true rfl⟩ rfl hl.1 rfl (Nat.le_of_ble_eq_true rfl) dX4_endNumber_35 ⟨Nat.zero_le _, Nat.zero_le _⟩ (fun μ3 hq H locs hH => ?_)
      refine lv_aload_n hx hb dX4_endNumber_38 rfl (lv_at hl 0 rfl) ?_
      refine lv_dup hx hb dX4_endNumber_39 rfl ?_
      refine x_get (j := 6) (C := RX4) (T := TX4) (N := 10) (v := .int (μ3.1 q0 6)) G hH hk_q0 (by decide) rfl inlX4 (by decide) (wm_6 _ (List.mem_of_getElem? (i := 10) rfl)) rfl dX4_endNumber_40 ?_
      refine lv_iconst (v := (1 : Int32)) hx hb dX4_endNumber_43 (by decide) ?_
      refine lv_iadd hx hb dX4_endNumber_44 ?_
      refine x_puti (j := 6) (C := RX4) (T := TX4) (N := 10) (ty := .int) G hH hk_q0 (by decide) rfl inlX4 tyX4 tyX4_ok nmX4 (by decide) (wm_6 _ (List.mem_of_getElem? (i := 10) rfl)) rfl (by decide +kernel) rfl rfl (fun _ _ => Nat.le_of_ble_eq_true rfl) (fun _ _ => rfl) dX4_endNumber_45 (fun μ4 e_μ4 H locs hH => ?_)
      have hq := hq μ4 e_μ4
      refine lv_aload_n hx hb dX4_endNumber_48 rfl (lv_at hl 0 rfl) ?_
      refine x_cVv (C := RX4) (T := TX4) (N := 10) (As := []) (rest := []) G hH hA (c_X4_startNumber l E ad μ4 q0 hk_q0 _ hq) (wm_33 _ (List.mem_of_getElem? (i := 1) rfl)) mi_X4_startNumber ms_X4_startNumber mn_RX4 mc_X4_startNumber rfl md_X4_startNumber ⟨rfl, rfl, Nat.le_of_ble_eq_true rfl, Nat.le_of_ble_eq_true rfl⟩ hk_q0 (by decide) rfl rfl hl.1 rfl (Nat.le_of_ble_eq_true rfl) dX4_endNumber_49 ⟨Nat.zero_le _, Nat.zero_le _⟩ (fun μ5 hq H locs hH => ?_)
      exact x_vret G hr hH hq dX4_endNumber_52
    · have hq := hq.2 c2
      refine lv_aload_n hx hb dX4_endNumber_23 rfl (lv_at hl 0 rfl) ?_
      refine x_get (j := 7) (C := RX4) (T := TX4) (N := 10) (v := .int (μ.1 q0 7)) G hH hk_q0 (by decide) rfl inlX4 (by decide) (wm_6 _ (List.mem_of_getElem? (i := 11) rfl)) rfl dX4_endNumber_24 ?_
      refine lv_ineg hx hb dX4_endNumber_27 ?_
      refine lv_goto (tgt := 35) hx hb dX4_endNumber_28 (by decide) ?_
      refine x_cSv (As := [.ref (ad (rt q0 1)), .int (μ.1 q0 6), .int (-(μ.1 q0 7))]) (rest := []) G hH hA (c_X5_put l E ad μ (rt q0 1) (μ.1 q0 6) (-(μ.1 q0 7)) (kt_3_1 _ hk_q0) _ hq) (wm_33 _ (List.mem_of_getElem? (i := 13) rfl)) mt_X5_put mn_RX5 mc_X5_put md_X5_put ⟨rfl, rfl, Nat.le_of_ble_eq_true rfl, Nat.le_of_ble_eq_true rfl⟩ rfl hl.1 rfl (Nat.le_of_ble_eq_true rfl) dX4_endNumber_35 ⟨Nat.zero_le _, Nat.zero_le _⟩ (fun μ6 hq H locs hH => ?_)
      refine lv_aload_n hx hb dX4_endNumber_38 rfl (lv_at hl 0 rfl) ?_
      refine lv_dup hx hb dX4_endNumber_39 rfl ?_
      refine x_get (j := 6) (C := RX4) (T := TX4) (N := 10) (v := .int (μ6.1 q0 6)) G hH hk_q0 (by decide) rfl inlX4 (by decide) (wm_6 _ (List.mem_of_getElem? (i := 10) rfl)) rfl dX4_endNumber_40 ?_
      refine lv_iconst (v := (1 : Int32)) hx hb dX4_endNumber_43 (by decide) ?_
      refine lv_iadd hx hb dX4_endNumber_44 ?_
      refine x_puti (j := 6) (C := RX4) (T := TX4) (N := 10) (ty := .int) G hH hk_q0 (by decide) rfl inlX4 tyX4 tyX4_ok nmX4 (by decide) (wm_6 _ (List.mem_of_getElem? (i := 10) rfl)) rfl (by decide +kernel) rfl rfl (fun _ _ => Nat.le_of_ble_eq_true rfl) (fun _ _ => rfl) dX4_endNumber_45 (fun μ7 e_μ7 H locs hH => ?_)
      have hq := hq μ7 e_μ7
      refine lv_aload_n hx hb dX4_endNumber_48 rfl (lv_at hl 0 rfl) ?_
      refine x_cVv (C := RX4) (T := TX4) (N := 10) (As := []) (rest := []) G hH hA (c_X4_startNumber l E ad μ7 q0 hk_q0 _ hq) (wm_33 _ (List.mem_of_getElem? (i := 1) rfl)) mi_X4_startNumber ms_X4_startNumber mn_RX4 mc_X4_startNumber rfl md_X4_startNumber ⟨rfl, rfl, Nat.le_of_ble_eq_true rfl, Nat.le_of_ble_eq_true rfl⟩ hk_q0 (by decide) rfl rfl hl.1 rfl (Nat.le_of_ble_eq_true rfl) dX4_endNumber_49 ⟨Nat.zero_le _, Nat.zero_le _⟩ (fun μ8 hq H locs hH => ?_)
      exact x_vret G hr hH hq dX4_endNumber_52
  · have hq := hq.2 c1
    exact x_vret G hr hH hq dX4_endNumber_7
abbrev tX4_minus : List Cond := Cond.code yX4_minus cX4_minus 1 (some .boolean) :: wsL_law
theorem mi_X4_minus : Cond.instanceMethod yX4_minus ∈ wsL_law := (wm_33 _ (List.mem_of_getElem? (i := 15) rfl))
theorem ms_X4_minus : Cond.selects RX4 yX4_minus yX4_minus ∈ wsL_law := (wm_33 _ (List.mem_of_getElem? (i := 16) rfl))
theorem mc_X4_minus : Cond.code yX4_minus cX4_minus 1 (some .boolean) ∈ wsL_law := (wm_33 _ (List.mem_of_getElem? (i := 17) rfl))
theorem md_X4_minus : yX4_minus.cls ≠ "java/lang/invoke/MethodHandle" ∧ yX4_minus.cls ≠ "java/lang/invoke/VarHandle" ∧ (parseMethodDescriptor yX4_minus.desc).map (fun d => d.parameters.length) = some 0 := by decide +kernel
set_option maxRecDepth 100000 in
set_option maxHeartbeats 4000000 in
theorem c_X4_minus (l : Launch) (E : xE) (ad : Nat → Nat) (μ : xM) (q0 : Nat) (hk_q0 : kd q0 = 3) (Qm : Int32 → xM → Prop) (hq : p_X4_minus q0 μ Qm) : xMi l yX4_minus tX4_minus ({ frames := 1, cells := 0, slots := 0, locals := 40 } : Room) E ad μ [.ref (ad q0)] Qm := by
  refine x_sti (cc := cX4_minus) (maxL := 1) (ret := (some .boolean)) (own := RX4) rfl (by decide) rfl (Nat.le_of_ble_eq_true rfl) ?_
  intro p e s m args below meth c ls G hr hA hH hl
  obtain ⟨hx, hb, hml, hown, hts, hKn, hN, hlk⟩ := id G
  have hl : lv_has ls 1 [(0, .ref (ad q0))] := hl
  have hH : xH E ad (xA ad s.heap.size) s.heap μ s.heap [] := hH
  unfold p_X4_minus at hq
  refine lv_aload_n hx hb dX4_minus_0 rfl (lv_at hl 0 rfl) ?_
  refine lv_iconst (v := (1 : Int32)) hx hb dX4_minus_1 (by decide) ?_
  refine x_puti (j := 9) (C := RX4) (T := TX4) (N := 10) (ty := .boolean) G hH hk_q0 (by decide) rfl inlX4 tyX4 tyX4_ok nmX4 (by decide) (wm_6 _ (List.mem_of_getElem? (i := 13) rfl)) rfl (by decide +kernel) rfl rfl (fun _ _ => Nat.le_of_ble_eq_true rfl) (fun _ _ => rfl) dX4_minus_2 (fun μ1 e_μ1 H locs hH => ?_)
  have hq := hq μ1 e_μ1
  refine lv_aload_n hx hb dX4_minus_5 rfl (lv_at hl 0 rfl) ?_
  refine x_get (j := 0) (C := RX4) (T := TX4) (N := 10) (v := .int (μ1.1 q0 0)) G hH hk_q0 (by decide) rfl inlX4 (by decide) (wm_6 _ (List.mem_of_getElem? (i := 4) rfl)) rfl dX4_minus_6 ?_
  refine lv_bipush (v := (115 : Int32)) hx hb dX4_minus_9 (by decide) ?_
  refine lv_icmp_ne (tgt := 34) hx hb dX4_minus_11 (by decide) (fun c2 => ?_) (fun c2 => ?_)
  · have hq := hq.1 c2
    refine lv_iconst (v := (0 : Int32)) hx hb dX4_minus_34 (by decide) ?_
    exact x_zret G hr hH xz_0 hq dX4_minus_35
  · have hq := hq.2 c2
    refine lv_aload_n hx hb dX4_minus_14 rfl (lv_at hl 0 rfl) ?_
    refine x_get (j := 6) (C := RX4) (T := TX4) (N := 10) (v := .int (μ1.1 q0 6)) G hH hk_q0 (by decide) rfl inlX4 (by decide) (wm_6 _ (List.mem_of_getElem? (i := 10) rfl)) rfl dX4_minus_15 ?_
    refine lv_iconst (v := (1 : Int32)) hx hb dX4_minus_18 (by decide) ?_
    refine lv_icmp_eq (tgt := 30) hx hb dX4_minus_19 (by decide) (fun c3 => ?_) (fun c3 => ?_)
    · have hq := hq.1 c3
      refine lv_iconst (v := (1 : Int32)) hx hb dX4_minus_30 (by decide) ?_
      refine lv_goto (tgt := 35) hx hb dX4_minus_31 (by decide) ?_
      exact x_zret G hr hH xz_1 hq dX4_minus_35
    · have hq := hq.2 c3
      refine lv_aload_n hx hb dX4_minus_22 rfl (lv_at hl 0 rfl) ?_
      refine x_get (j := 6) (C := RX4) (T := TX4) (N := 10) (v := .int (μ1.1 q0 6)) G hH hk_q0 (by decide) rfl inlX4 (by decide) (wm_6 _ (List.mem_of_getElem? (i := 10) rfl)) rfl dX4_minus_23 ?_
      refine lv_iconst (v := (2 : Int32)) hx hb dX4_minus_26 (by decide) ?_
      refine lv_icmp_ne (tgt := 34) hx hb dX4_minus_27 (by decide) (fun c4 => ?_) (fun c4 => ?_)
      · have hq := hq.1 c4
        refine lv_iconst (v := (0 : Int32)) hx hb dX4_minus_34 (by decide) ?_
        exact x_zret G hr hH xz_0 hq dX4_minus_35
      · have hq := hq.2 c4
        refine lv_iconst (v := (1 : Int32)) hx hb dX4_minus_30 (by decide) ?_
        refine lv_goto (tgt := 35) hx hb dX4_minus_31 (by decide) ?_
        exact x_zret G hr hH xz_1 hq dX4_minus_35
abbrev tX4_endOrder : List Cond := Cond.code yX4_endOrder cX4_endOrder 1 (some .boolean) :: wsL_law
theorem mi_X4_endOrder : Cond.instanceMethod yX4_endOrder ∈ wsL_law := (wm_33 _ (List.mem_of_getElem? (i := 19) rfl))
theorem ms_X4_endOrder : Cond.selects RX4 yX4_endOrder yX4_endOrder ∈ wsL_law := (wm_33 _ (List.mem_of_getElem? (i := 20) rfl))
theorem mc_X4_endOrder : Cond.code yX4_endOrder cX4_endOrder 1 (some .boolean) ∈ wsL_law := (wm_33 _ (List.mem_of_getElem? (i := 21) rfl))
theorem md_X4_endOrder : yX4_endOrder.cls ≠ "java/lang/invoke/MethodHandle" ∧ yX4_endOrder.cls ≠ "java/lang/invoke/VarHandle" ∧ (parseMethodDescriptor yX4_endOrder.desc).map (fun d => d.parameters.length) = some 0 := by decide +kernel
set_option maxRecDepth 100000 in
set_option maxHeartbeats 4000000 in
theorem c_X4_endOrder (l : Launch) (E : xE) (ad : Nat → Nat) (μ : xM) (q0 : Nat) (hk_q0 : kd q0 = 3) (Qm : Int32 → xM → Prop) (hq : p_X4_endOrder q0 μ Qm) : xMi l yX4_endOrder tX4_endOrder ({ frames := 1, cells := 0, slots := 0, locals := 40 } : Room) E ad μ [.ref (ad q0)] Qm := by
  refine x_sti (cc := cX4_endOrder) (maxL := 1) (ret := (some .boolean)) (own := RX4) rfl (by decide) rfl (Nat.le_of_ble_eq_true rfl) ?_
  intro p e s m args below meth c ls G hr hA hH hl
  obtain ⟨hx, hb, hml, hown, hts, hKn, hN, hlk⟩ := id G
  have hl : lv_has ls 1 [(0, .ref (ad q0))] := hl
  have hH : xH E ad (xA ad s.heap.size) s.heap μ s.heap [] := hH
  unfold p_X4_endOrder at hq
  refine lv_aload_n hx hb dX4_endOrder_0 rfl (lv_at hl 0 rfl) ?_
  refine x_get (j := 6) (C := RX4) (T := TX4) (N := 10) (v := .int (μ.1 q0 6)) G hH hk_q0 (by decide) rfl inlX4 (by decide) (wm_6 _ (List.mem_of_getElem? (i := 10) rfl)) rfl dX4_endOrder_1 ?_
  refine lv_aload_n hx hb dX4_endOrder_4 rfl (lv_at hl 0 rfl) ?_
  refine x_get (j := 5) (C := RX4) (T := TX4) (N := 10) (v := .int (μ.1 q0 5)) G hH hk_q0 (by decide) rfl inlX4 (by decide) (wm_6 _ (List.mem_of_getElem? (i := 9) rfl)) rfl dX4_endOrder_5 ?_
  refine lv_icmp_eq (tgt := 13) hx hb dX4_endOrder_8 (by decide) (fun c1 => ?_) (fun c1 => ?_)
  · have hq := hq.1 c1
    refine lv_aload_n hx hb dX4_endOrder_13 rfl (lv_at hl 0 rfl) ?_
    refine lv_iconst (v := (0 : Int32)) hx hb dX4_endOrder_14 (by decide) ?_
    refine x_puti (j := 3) (C := RX4) (T := TX4) (N := 10) (ty := .boolean) G hH hk_q0 (by decide) rfl inlX4 tyX4 tyX4_ok nmX4 (by decide) (wm_6 _ (List.mem_of_getElem? (i := 7) rfl)) rfl (by decide +kernel) rfl rfl (fun _ _ => Nat.le_of_ble_eq_true rfl) (fun _ _ => rfl) dX4_endOrder_15 (fun μ2 e_μ2 H locs hH => ?_)
    have hq := hq μ2 e_μ2
    refine lv_aload_n hx hb dX4_endOrder_18 rfl (lv_at hl 0 rfl) ?_
    refine lv_iconst (v := (1 : Int32)) hx hb dX4_endOrder_19 (by decide) ?_
    refine x_puti (j := 4) (C := RX4) (T := TX4) (N := 10) (ty := .boolean) G hH hk_q0 (by decide) rfl inlX4 tyX4 tyX4_ok nmX4 (by decide) (wm_6 _ (List.mem_of_getElem? (i := 8) rfl)) rfl (by decide +kernel) rfl rfl (fun _ _ => Nat.le_of_ble_eq_true rfl) (fun _ _ => rfl) dX4_endOrder_20 (fun μ3 e_μ3 H locs hH => ?_)
    have hq := hq μ3 e_μ3
    refine lv_aload_n hx hb dX4_endOrder_23 rfl (lv_at hl 0 rfl) ?_
    refine lv_iconst (v := (1 : Int32)) hx hb dX4_endOrder_24 (by decide) ?_
    refine x_puti (j := 2) (C := RX4) (T := TX4) (N := 10) (ty := .boolean) G hH hk_q0 (by decide) rfl inlX4 tyX4 tyX4_ok nmX4 (by decide) (wm_6 _ (List.mem_of_getElem? (i := 6) rfl)) rfl (by decide +kernel) rfl rfl (fun _ _ => Nat.le_of_ble_eq_true rfl) (fun _ _ => rfl) dX4_endOrder_25 (fun μ4 e_μ4 H locs hH => ?_)
    have hq := hq μ4 e_μ4
    refine lv_iconst (v := (1 : Int32)) hx hb dX4_endOrder_28 (by decide) ?_
    exact x_zret G hr hH xz_1 hq dX4_endOrder_29
  · have hq := hq.2 c1
    refine lv_iconst (v := (0 : Int32)) hx hb dX4_endOrder_11 (by decide) ?_
    exact x_zret G hr hH xz_0 hq dX4_endOrder_12
abbrev tX4_takes : List Cond := Cond.code yX4_takes cX4_takes 2 (some .boolean) :: wsL_law
theorem mi_X4_takes : Cond.instanceMethod yX4_takes ∈ wsL_law := (wm_32 _ (List.mem_of_getElem? (i := 15) rfl))
theorem ms_X4_takes : Cond.selects RX4 yX4_takes yX4_takes ∈ wsL_law := (wm_32 _ (List.mem_of_getElem? (i := 16) rfl))
theorem mc_X4_takes : Cond.code yX4_takes cX4_takes 2 (some .boolean) ∈ wsL_law := (wm_32 _ (List.mem_of_getElem? (i := 17) rfl))
theorem md_X4_takes : yX4_takes.cls ≠ "java/lang/invoke/MethodHandle" ∧ yX4_takes.cls ≠ "java/lang/invoke/VarHandle" ∧ (parseMethodDescriptor yX4_takes.desc).map (fun d => d.parameters.length) = some 1 := by decide +kernel
set_option maxRecDepth 100000 in
set_option maxHeartbeats 4000000 in
theorem wj_X4_takes_69 {E : xE} {ad : Nat → Nat} {p : Program} {l : Launch} {e : Env} {s : State} {m : MethodId} {args : Array Value} {below : List Frame} {meth : Method} {c : Code} {Qm : Int32 → xM → Prop} (G : xG E p s m args meth c cX4_takes 2 RX4) (hA : ∀ a, s.heap.size ≤ a → xA ad s.heap.size a) (hr : meth.sig.returnType = (some .boolean)) (q8 : Nat) (a9 : Int32) (hk_q8 : kd q8 = 3) (μ10 : xM) (hq : J_X4_takes_69 q8 a9 μ10 Qm) {H : Heap} {locs : List Loc} {ls : Array Slot} (hH : xH E ad (xA ad s.heap.size) s.heap μ10 H locs) (hl : lv_has ls 2 [(0, .ref (ad q8)), (1, .int a9)]) : W p l e (headSpec tX4_takes ({ frames := 3, cells := 0, slots := 0, locals := 120 } : Room)).room s m args below meth c H locs 0 0 (MQ below (va_Qi Qm (xPost E ad s.heap.size) (xA ad s.heap.size)) args s 0 0 (xA ad s.heap.size)) (F0 m 69 ls []) := by
  obtain ⟨hx, hb, hml, hown, hts, hKn, hN, hlk⟩ := id G
  unfold J_X4_takes_69 at hq
  refine lv_aload_n hx hb dX4_takes_69 rfl (lv_at hl 0 rfl) ?_
  refine x_cVv (C := RX4) (T := TX4) (N := 10) (As := []) (rest := []) G hH hA (c_X4_endNumber l E ad μ10 q8 hk_q8 _ hq) (wm_33 _ (List.mem_of_getElem? (i := 9) rfl)) mi_X4_endNumber ms_X4_endNumber mn_RX4 mc_X4_endNumber rfl md_X4_endNumber ⟨rfl, rfl, Nat.le_of_ble_eq_true rfl, Nat.le_of_ble_eq_true rfl⟩ hk_q8 (by decide) rfl rfl hl.1 rfl (Nat.le_of_ble_eq_true rfl) dX4_takes_70 ⟨Nat.zero_le _, Nat.zero_le _⟩ (fun μ11 hq H locs hH => ?_)
  refine lv_iload_n hx hb dX4_takes_73 rfl (lv_at hl 1 rfl) ?_
  refine lv_bipush (v := (45 : Int32)) hx hb dX4_takes_74 (by decide) ?_
  refine lv_icmp_ne (tgt := 84) hx hb dX4_takes_76 (by decide) (fun c12 => ?_) (fun c12 => ?_)
  · have hq := hq.1 c12
    refine lv_iload_n hx hb dX4_takes_84 rfl (lv_at hl 1 rfl) ?_
    refine lv_bipush (v := (59 : Int32)) hx hb dX4_takes_85 (by decide) ?_
    refine lv_icmp_ne (tgt := 95) hx hb dX4_takes_87 (by decide) (fun c13 => ?_) (fun c13 => ?_)
    · have hq := hq.1 c13
      refine lv_iload_n hx hb dX4_takes_95 rfl (lv_at hl 1 rfl) ?_
      refine lv_bipush (v := (32 : Int32)) hx hb dX4_takes_96 (by decide) ?_
      refine lv_icmp_ne (tgt := 105) hx hb dX4_takes_98 (by decide) (fun c14 => ?_) (fun c14 => ?_)
      · have hq := hq.1 c14
        refine lv_iconst (v := (0 : Int32)) hx hb dX4_takes_105 (by decide) ?_
        exact x_zret G hr hH xz_0 hq dX4_takes_106
      · have hq := hq.2 c14
        refine lv_iconst (v := (1 : Int32)) hx hb dX4_takes_101 (by decide) ?_
        refine lv_goto (tgt := 106) hx hb dX4_takes_102 (by decide) ?_
        exact x_zret G hr hH xz_1 hq dX4_takes_106
    · have hq := hq.2 c13
      refine lv_aload_n hx hb dX4_takes_90 rfl (lv_at hl 0 rfl) ?_
      refine x_cVi (C := RX4) (T := TX4) (N := 10) (As := []) (rest := []) G hH hA (c_X4_endOrder l E ad μ11 q8 hk_q8 _ hq) (wm_33 _ (List.mem_of_getElem? (i := 18) rfl)) mi_X4_endOrder ms_X4_endOrder mn_RX4 mc_X4_endOrder rfl md_X4_endOrder ⟨rfl, rfl, Nat.le_of_ble_eq_true rfl, Nat.le_of_ble_eq_true rfl⟩ hk_q8 (by decide) rfl rfl hl.1 rfl (Nat.le_of_ble_eq_true rfl) dX4_takes_91 ⟨Nat.zero_le _, Nat.zero_le _⟩ (fun r16 μ15 hq H locs hH => ?_)
      exact x_zret G hr hH hq.1 hq.2 dX4_takes_94
  · have hq := hq.2 c12
    refine lv_aload_n hx hb dX4_takes_79 rfl (lv_at hl 0 rfl) ?_
    refine x_cVi (C := RX4) (T := TX4) (N := 10) (As := []) (rest := []) G hH hA (c_X4_minus l E ad μ11 q8 hk_q8 _ hq) (wm_33 _ (List.mem_of_getElem? (i := 14) rfl)) mi_X4_minus ms_X4_minus mn_RX4 mc_X4_minus rfl md_X4_minus ⟨rfl, rfl, Nat.le_of_ble_eq_true rfl, Nat.le_of_ble_eq_true rfl⟩ hk_q8 (by decide) rfl rfl hl.1 rfl (Nat.le_of_ble_eq_true rfl) dX4_takes_80 ⟨Nat.zero_le _, Nat.zero_le _⟩ (fun r18 μ17 hq H locs hH => ?_)
    exact x_zret G hr hH hq.1 hq.2 dX4_takes_83
set_option maxRecDepth 100000 in
set_option maxHeartbeats 4000000 in
theorem wj_X4_takes_53 {E : xE} {ad : Nat → Nat} {p : Program} {l : Launch} {e : Env} {s : State} {m : MethodId} {args : Array Value} {below : List Frame} {meth : Method} {c : Code} {Qm : Int32 → xM → Prop} (G : xG E p s m args meth c cX4_takes 2 RX4) (hA : ∀ a, s.heap.size ≤ a → xA ad s.heap.size a) (hr : meth.sig.returnType = (some .boolean)) (q4 : Nat) (a5 : Int32) (hk_q4 : kd q4 = 3) (μ6 : xM) (hq : J_X4_takes_53 q4 a5 μ6 Qm) {H : Heap} {locs : List Loc} {ls : Array Slot} (hH : xH E ad (xA ad s.heap.size) s.heap μ6 H locs) (hl : lv_has ls 2 [(0, .ref (ad q4)), (1, .int a5)]) : W p l e (headSpec tX4_takes ({ frames := 3, cells := 0, slots := 0, locals := 120 } : Room)).room s m args below meth c H locs 0 0 (MQ below (va_Qi Qm (xPost E ad s.heap.size) (xA ad s.heap.size)) args s 0 0 (xA ad s.heap.size)) (F0 m 53 ls []) := by
  obtain ⟨hx, hb, hml, hown, hts, hKn, hN, hlk⟩ := id G
  unfold J_X4_takes_53 at hq
  refine lv_aload_n hx hb dX4_takes_53 rfl (lv_at hl 0 rfl) ?_
  refine x_get (j := 9) (C := RX4) (T := TX4) (N := 10) (v := .int (μ6.1 q4 9)) G hH hk_q4 (by decide) rfl inlX4 (by decide) (wm_6 _ (List.mem_of_getElem? (i := 13) rfl)) rfl dX4_takes_54 ?_
  refine lv_if_eq (tgt := 69) hx hb dX4_takes_57 (by decide) (fun c7 => ?_) (fun c7 => ?_)
  · have hq := hq.1 c7
    exact wj_X4_takes_69 G hA hr  q4 a5  hk_q4 μ6 hq hH (lv_sub hl [0, 1] rfl)
  · have hq := hq.2 c7
    refine lv_aload_n hx hb dX4_takes_60 rfl (lv_at hl 0 rfl) ?_
    refine x_get (j := 8) (C := RX4) (T := TX4) (N := 10) (v := .int (μ6.1 q4 8)) G hH hk_q4 (by decide) rfl inlX4 (by decide) (wm_6 _ (List.mem_of_getElem? (i := 12) rfl)) rfl dX4_takes_61 ?_
    refine lv_if_ne (tgt := 69) hx hb dX4_takes_64 (by decide) (fun c19 => ?_) (fun c19 => ?_)
    · have hq := hq.1 c19
      exact wj_X4_takes_69 G hA hr  q4 a5  hk_q4 μ6 hq hH (lv_sub hl [0, 1] rfl)
    · have hq := hq.2 c19
      refine lv_iconst (v := (0 : Int32)) hx hb dX4_takes_67 (by decide) ?_
      exact x_zret G hr hH xz_0 hq dX4_takes_68
set_option maxRecDepth 100000 in
set_option maxHeartbeats 4000000 in
theorem c_X4_takes (l : Launch) (E : xE) (ad : Nat → Nat) (μ : xM) (q0 : Nat) (p1 : Int32) (hk_q0 : kd q0 = 3) (Qm : Int32 → xM → Prop) (hq : p_X4_takes q0 p1 μ Qm) : xMi l yX4_takes tX4_takes ({ frames := 3, cells := 0, slots := 0, locals := 120 } : Room) E ad μ [.ref (ad q0), .int p1] Qm := by
  refine x_sti (cc := cX4_takes) (maxL := 2) (ret := (some .boolean)) (own := RX4) rfl (by decide) rfl (Nat.le_of_ble_eq_true rfl) ?_
  intro p e s m args below meth c ls G hr hA hH hl
  obtain ⟨hx, hb, hml, hown, hts, hKn, hN, hlk⟩ := id G
  have hl : lv_has ls 2 [(0, .ref (ad q0)), (1, .int p1)] := hl
  have hH : xH E ad (xA ad s.heap.size) s.heap μ s.heap [] := hH
  unfold p_X4_takes at hq
  refine lv_aload_n hx hb dX4_takes_0 rfl (lv_at hl 0 rfl) ?_
  refine lv_iconst (v := (0 : Int32)) hx hb dX4_takes_1 (by decide) ?_
  refine x_puti (j := 2) (C := RX4) (T := TX4) (N := 10) (ty := .boolean) G hH hk_q0 (by decide) rfl inlX4 tyX4 tyX4_ok nmX4 (by decide) (wm_6 _ (List.mem_of_getElem? (i := 6) rfl)) rfl (by decide +kernel) rfl rfl (fun _ _ => Nat.le_of_ble_eq_true rfl) (fun _ _ => rfl) dX4_takes_2 (fun μ1 e_μ1 H locs hH => ?_)
  have hq := hq μ1 e_μ1
  refine lv_aload_n hx hb dX4_takes_5 rfl (lv_at hl 0 rfl) ?_
  refine x_get (j := 3) (C := RX4) (T := TX4) (N := 10) (v := .int (μ1.1 q0 3)) G hH hk_q0 (by decide) rfl inlX4 (by decide) (wm_6 _ (List.mem_of_getElem? (i := 7) rfl)) rfl dX4_takes_6 ?_
  refine lv_if_ne (tgt := 32) hx hb dX4_takes_9 (by decide) (fun c2 => ?_) (fun c2 => ?_)
  · have hq := hq.1 c2
    refine lv_iload_n hx hb dX4_takes_32 rfl (lv_at hl 1 rfl) ?_
    refine lv_bipush (v := (48 : Int32)) hx hb dX4_takes_33 (by decide) ?_
    refine lv_icmp_lt (tgt := 53) hx hb dX4_takes_35 (by decide) (fun c3 => ?_) (fun c3 => ?_)
    · have hq := hq.1 c3
      exact wj_X4_takes_53 G hA hr  q0 p1  hk_q0 μ1 hq hH (lv_sub hl [0, 1] rfl)
    · have hq := hq.2 c3
      refine lv_iload_n hx hb dX4_takes_38 rfl (lv_at hl 1 rfl) ?_
      refine lv_bipush (v := (57 : Int32)) hx hb dX4_takes_39 (by decide) ?_
      refine lv_icmp_gt (tgt := 53) hx hb dX4_takes_41 (by decide) (fun c22 => ?_) (fun c22 => ?_)
      · have hq := hq.1 c22
        exact wj_X4_takes_53 G hA hr  q0 p1  hk_q0 μ1 hq hH (lv_sub hl [0, 1] rfl)
      · have hq := hq.2 c22
        refine lv_aload_n hx hb dX4_takes_44 rfl (lv_at hl 0 rfl) ?_
        refine lv_iload_n hx hb dX4_takes_45 rfl (lv_at hl 1 rfl) ?_
        refine lv_bipush (v := (48 : Int32)) hx hb dX4_takes_46 (by decide) ?_
        refine lv_isub hx hb dX4_takes_48 ?_
        refine x_cVi (C := RX4) (T := TX4) (N := 10) (As := [.int (p1 - (48 : Int32))]) (rest := []) G hH hA (c_X4_figure l E ad μ1 q0 (p1 - (48 : Int32)) hk_q0 _ hq) (wm_33 _ (List.mem_of_getElem? (i := 5) rfl)) mi_X4_figure ms_X4_figure mn_RX4 mc_X4_figure rfl md_X4_figure ⟨rfl, rfl, Nat.le_of_ble_eq_true rfl, Nat.le_of_ble_eq_true rfl⟩ hk_q0 (by decide) rfl rfl hl.1 rfl (Nat.le_of_ble_eq_true rfl) dX4_takes_49 ⟨Nat.zero_le _, Nat.zero_le _⟩ (fun r26 μ25 hq H locs hH => ?_)
        exact x_zret G hr hH hq.1 hq.2 dX4_takes_52
  · have hq := hq.2 c2
    refine lv_iload_n hx hb dX4_takes_12 rfl (lv_at hl 1 rfl) ?_
    refine lv_bipush (v := (32 : Int32)) hx hb dX4_takes_13 (by decide) ?_
    refine lv_icmp_eq (tgt := 26) hx hb dX4_takes_15 (by decide) (fun c27 => ?_) (fun c27 => ?_)
    · have hq := hq.1 c27
      refine lv_iconst (v := (1 : Int32)) hx hb dX4_takes_26 (by decide) ?_
      refine lv_goto (tgt := 31) hx hb dX4_takes_27 (by decide) ?_
      exact x_zret G hr hH xz_1 hq dX4_takes_31
    · have hq := hq.2 c27
      refine lv_aload_n hx hb dX4_takes_18 rfl (lv_at hl 0 rfl) ?_
      refine lv_iload_n hx hb dX4_takes_19 rfl (lv_at hl 1 rfl) ?_
      refine x_cVi (C := RX4) (T := TX4) (N := 10) (As := [.int p1]) (rest := []) G hH hA (c_X4_begins l E ad μ1 q0 p1 hk_q0 _ hq) (wm_32 _ (List.mem_of_getElem? (i := 18) rfl)) mi_X4_begins ms_X4_begins mn_RX4 mc_X4_begins rfl md_X4_begins ⟨rfl, rfl, Nat.le_of_ble_eq_true rfl, Nat.le_of_ble_eq_true rfl⟩ hk_q0 (by decide) rfl rfl hl.1 rfl (Nat.le_of_ble_eq_true rfl) dX4_takes_20 ⟨Nat.zero_le _, Nat.zero_le _⟩ (fun r29 μ28 hq H locs hH => ?_)
      refine lv_if_eq (tgt := 30) hx hb dX4_takes_23 (by decide) (fun c30 => ?_) (fun c30 => ?_)
      · have hq := hq.1 c30
        refine lv_iconst (v := (0 : Int32)) hx hb dX4_takes_30 (by decide) ?_
        exact x_zret G hr hH xz_0 hq dX4_takes_31
      · have hq := hq.2 c30
        refine lv_iconst (v := (1 : Int32)) hx hb dX4_takes_26 (by decide) ?_
        refine lv_goto (tgt := 31) hx hb dX4_takes_27 (by decide) ?_
        exact x_zret G hr hH xz_1 hq dX4_takes_31
