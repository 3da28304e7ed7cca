abbrev tJ13_bitCount_95d88 : List Cond := Cond.code yJ13_bitCount_95d88 cJ13_bitCount_95d88 2 (some .int) :: wsL_law
theorem mt_J13_bitCount_95d88 : Cond.static yJ13_bitCount_95d88 ∈ wsL_law := (wm_21 _ (List.mem_of_getElem? (i := 14) rfl))
theorem mc_J13_bitCount_95d88 : Cond.code yJ13_bitCount_95d88 cJ13_bitCount_95d88 2 (some .int) ∈ wsL_law := (wm_21 _ (List.mem_of_getElem? (i := 16) rfl))
theorem md_J13_bitCount_95d88 : yJ13_bitCount_95d88.cls ≠ "java/lang/invoke/MethodHandle" ∧ yJ13_bitCount_95d88.cls ≠ "java/lang/invoke/VarHandle" ∧ (parseMethodDescriptor yJ13_bitCount_95d88.desc).map (fun d => d.parameters.length) = some 1 := by decide +kernel
set_option maxRecDepth 100000 in
set_option maxHeartbeats 4000000 in
theorem c_J13_bitCount_95d88 (l : Launch) (E : xE) (ad : Nat → Nat) (μ : xM) (p1 : Int64) (Qm : Int32 → xM → Prop) (hq : p_J13_bitCount_95d88 p1 μ Qm) : xMi l yJ13_bitCount_95d88 tJ13_bitCount_95d88 ({ frames := 1, cells := 0, slots := 0, locals := 40 } : Room) E ad μ [.long p1] Qm := by
  refine x_sti (cc := cJ13_bitCount_95d88) (maxL := 2) (ret := (some .int)) (own := RJ13) rfl (by decide) rfl (Nat.le_of_ble_eq_true rfl) ?_
  intro p e s m args below meth c ls G hr hA hH hl
  obtain ⟨hx, hb, hml, hown, hts, hKn, hN, hlk⟩ := id G
  have hl : lv_has ls 2 [(0, .long p1)] := hl
  have hH : xH E ad (xA ad s.heap.size) s.heap μ s.heap [] := hH
  unfold p_J13_bitCount_95d88 at hq
  refine lv_lload_n hx hb dJ13_bitCount_95d88_0 rfl (lv_at hl 0 rfl) ?_
  refine lv_lload_n hx hb dJ13_bitCount_95d88_1 rfl (lv_at hl 0 rfl) ?_
  refine lv_iconst (v := (1 : Int32)) hx hb dJ13_bitCount_95d88_2 (by decide) ?_
  refine lv_lushr (v := (lU p1 (1 : Int32))) hx hb dJ13_bitCount_95d88_3 rfl ?_
  refine lv_ldc2 hx hb hown (hts _ (wm_21 _ (List.mem_of_getElem? (i := 17) rfl))) dJ13_bitCount_95d88_4 ?_
  refine lv_land hx hb dJ13_bitCount_95d88_7 ?_
  refine lv_lsub hx hb dJ13_bitCount_95d88_8 ?_
  refine lv_topl (fun v1 e_v1 => ?_)
  have hq := hq v1 e_v1
  refine lv_lstore_n (lv' := [(0, .long v1)]) hx hb dJ13_bitCount_95d88_9 rfl hl (by decide) rfl (fun ls hl => ?_)
  refine lv_lload_n hx hb dJ13_bitCount_95d88_10 rfl (lv_at hl 0 rfl) ?_
  refine lv_ldc2 hx hb hown (hts _ (wm_21 _ (List.mem_of_getElem? (i := 18) rfl))) dJ13_bitCount_95d88_11 ?_
  refine lv_land hx hb dJ13_bitCount_95d88_14 ?_
  refine lv_lload_n hx hb dJ13_bitCount_95d88_15 rfl (lv_at hl 0 rfl) ?_
  refine lv_iconst (v := (2 : Int32)) hx hb dJ13_bitCount_95d88_16 (by decide) ?_
  refine lv_lushr (v := (lU v1 (2 : Int32))) hx hb dJ13_bitCount_95d88_17 rfl ?_
  refine lv_ldc2 hx hb hown (hts _ (wm_21 _ (List.mem_of_getElem? (i := 18) rfl))) dJ13_bitCount_95d88_18 ?_
  refine lv_land hx hb dJ13_bitCount_95d88_21 ?_
  refine lv_ladd hx hb dJ13_bitCount_95d88_22 ?_
  refine lv_topl (fun v2 e_v2 => ?_)
  have hq := hq v2 e_v2
  refine lv_lstore_n (lv' := [(0, .long v2)]) hx hb dJ13_bitCount_95d88_23 rfl hl (by decide) rfl (fun ls hl => ?_)
  refine lv_lload_n hx hb dJ13_bitCount_95d88_24 rfl (lv_at hl 0 rfl) ?_
  refine lv_lload_n hx hb dJ13_bitCount_95d88_25 rfl (lv_at hl 0 rfl) ?_
  refine lv_iconst (v := (4 : Int32)) hx hb dJ13_bitCount_95d88_26 (by decide) ?_
  refine lv_lushr (v := (lU v2 (4 : Int32))) hx hb dJ13_bitCount_95d88_27 rfl ?_
  refine lv_ladd hx hb dJ13_bitCount_95d88_28 ?_
  refine lv_ldc2 hx hb hown (hts _ (wm_21 _ (List.mem_of_getElem? (i := 19) rfl))) dJ13_bitCount_95d88_29 ?_
  refine lv_land hx hb dJ13_bitCount_95d88_32 ?_
  refine lv_topl (fun v3 e_v3 => ?_)
  have hq := hq v3 e_v3
  refine lv_lstore_n (lv' := [(0, .long v3)]) hx hb dJ13_bitCount_95d88_33 rfl hl (by decide) rfl (fun ls hl => ?_)
  refine lv_lload_n hx hb dJ13_bitCount_95d88_34 rfl (lv_at hl 0 rfl) ?_
  refine lv_lload_n hx hb dJ13_bitCount_95d88_35 rfl (lv_at hl 0 rfl) ?_
  refine lv_bipush (v := (8 : Int32)) hx hb dJ13_bitCount_95d88_36 (by decide) ?_
  refine lv_lushr (v := (lU v3 (8 : Int32))) hx hb dJ13_bitCount_95d88_38 rfl ?_
  refine lv_ladd hx hb dJ13_bitCount_95d88_39 ?_
  refine lv_topl (fun v4 e_v4 => ?_)
  have hq := hq v4 e_v4
  refine lv_lstore_n (lv' := [(0, .long v4)]) hx hb dJ13_bitCount_95d88_40 rfl hl (by decide) rfl (fun ls hl => ?_)
  refine lv_lload_n hx hb dJ13_bitCount_95d88_41 rfl (lv_at hl 0 rfl) ?_
  refine lv_lload_n hx hb dJ13_bitCount_95d88_42 rfl (lv_at hl 0 rfl) ?_
  refine lv_bipush (v := (16 : Int32)) hx hb dJ13_bitCount_95d88_43 (by decide) ?_
  refine lv_lushr (v := (lU v4 (16 : Int32))) hx hb dJ13_bitCount_95d88_45 rfl ?_
  refine lv_ladd hx hb dJ13_bitCount_95d88_46 ?_
  refine lv_topl (fun v5 e_v5 => ?_)
  have hq := hq v5 e_v5
  refine lv_lstore_n (lv' := [(0, .long v5)]) hx hb dJ13_bitCount_95d88_47 rfl hl (by decide) rfl (fun ls hl => ?_)
  refine lv_lload_n hx hb dJ13_bitCount_95d88_48 rfl (lv_at hl 0 rfl) ?_
  refine lv_lload_n hx hb dJ13_bitCount_95d88_49 rfl (lv_at hl 0 rfl) ?_
  refine lv_bipush (v := (32 : Int32)) hx hb dJ13_bitCount_95d88_50 (by decide) ?_
  refine lv_lushr (v := (lU v5 (32 : Int32))) hx hb dJ13_bitCount_95d88_52 rfl ?_
  refine lv_ladd hx hb dJ13_bitCount_95d88_53 ?_
  refine lv_topl (fun v6 e_v6 => ?_)
  have hq := hq v6 e_v6
  refine lv_lstore_n (lv' := [(0, .long v6)]) hx hb dJ13_bitCount_95d88_54 rfl hl (by decide) rfl (fun ls hl => ?_)
  refine lv_lload_n hx hb dJ13_bitCount_95d88_55 rfl (lv_at hl 0 rfl) ?_
  refine lv_l2i (v := (v6.toInt32)) hx hb dJ13_bitCount_95d88_56 rfl ?_
  refine lv_bipush (v := (127 : Int32)) hx hb dJ13_bitCount_95d88_57 (by decide) ?_
  refine lv_iand hx hb dJ13_bitCount_95d88_59 ?_
  exact x_iret G hr hH hq dJ13_bitCount_95d88_60
abbrev tX7_hits : List Cond := Cond.code yX7_hits cX7_hits 3 (some .int) :: wsL_law
theorem mi_X7_hits : Cond.instanceMethod yX7_hits ∈ wsL_law := (wm_21 _ (List.mem_of_getElem? (i := 7) rfl))
theorem ms_X7_hits : Cond.selects RX7 yX7_hits yX7_hits ∈ wsL_law := (wm_21 _ (List.mem_of_getElem? (i := 8) rfl))
theorem mc_X7_hits : Cond.code yX7_hits cX7_hits 3 (some .int) ∈ wsL_law := (wm_21 _ (List.mem_of_getElem? (i := 9) rfl))
theorem md_X7_hits : yX7_hits.cls ≠ "java/lang/invoke/MethodHandle" ∧ yX7_hits.cls ≠ "java/lang/invoke/VarHandle" ∧ (parseMethodDescriptor yX7_hits.desc).map (fun d => d.parameters.length) = some 1 := by decide +kernel
set_option maxRecDepth 100000 in
set_option maxHeartbeats 4000000 in
theorem c_X7_hits (l : Launch) (E : xE) (ad : Nat → Nat) (μ : xM) (q0 : Nat) (p1 : Int64) (hk_q0 : kd q0 = 5) (Qm : Int32 → xM → Prop) (hq : p_X7_hits q0 p1 μ Qm) : xMi l yX7_hits tX7_hits ({ frames := 2, cells := 0, slots := 0, locals := 80 } : Room) E ad μ [.ref (ad q0), .long p1] Qm := by
  refine x_sti (cc := cX7_hits) (maxL := 3) (ret := (some .int)) (own := RX7) rfl (by decide) rfl (Nat.le_of_ble_eq_true rfl) ?_
  intro p e s m args below meth c ls G hr hA hH hl
  obtain ⟨hx, hb, hml, hown, hts, hKn, hN, hlk⟩ := id G
  have hl : lv_has ls 3 [(0, .ref (ad q0)), (1, .long p1)] := hl
  have hH : xH E ad (xA ad s.heap.size) s.heap μ s.heap [] := hH
  unfold p_X7_hits at hq
  refine lv_bipush (v := (16 : Int32)) hx hb dX7_hits_0 (by decide) ?_
  refine lv_aload_n hx hb dX7_hits_2 rfl (lv_at hl 0 rfl) ?_
  refine x_get (j := 0) (C := RX7) (T := TX7) (N := 3) (v := .long (μ.2 q0 0)) G hH hk_q0 (by decide) rfl inlX7 (by decide) (wm_4 _ (List.mem_of_getElem? (i := 5) rfl)) rfl dX7_hits_3 ?_
  refine lv_lload_n hx hb dX7_hits_6 rfl (lv_at hl 1 rfl) ?_
  refine lv_lxor hx hb dX7_hits_7 ?_
  refine x_cSl (As := [.long ((μ.2 q0 0) ^^^ p1)]) (rest := [.int (16 : Int32)]) G hH hA (c_X1_filled l E ad μ ((μ.2 q0 0) ^^^ p1)  _ hq) (wm_21 _ (List.mem_of_getElem? (i := 10) rfl)) mt_X1_filled mn_RX1 mc_X1_filled md_X1_filled ⟨rfl, rfl, Nat.le_of_ble_eq_true rfl, Nat.le_of_ble_eq_true rfl⟩ rfl hl.1 rfl (Nat.le_of_ble_eq_true rfl) dX7_hits_8 ⟨Nat.zero_le _, Nat.zero_le _⟩ (fun r2 μ1 hq H locs hH => ?_)
  refine x_cSi (As := [.long r2]) (rest := [.int (16 : Int32)]) G hH hA (c_J13_bitCount_95d88 l E ad μ1 r2  _ hq) (wm_21 _ (List.mem_of_getElem? (i := 13) rfl)) mt_J13_bitCount_95d88 mn_RJ13 mc_J13_bitCount_95d88 md_J13_bitCount_95d88 ⟨rfl, rfl, Nat.le_of_ble_eq_true rfl, Nat.le_of_ble_eq_true rfl⟩ rfl hl.1 rfl (Nat.le_of_ble_eq_true rfl) dX7_hits_11 ⟨Nat.zero_le _, Nat.zero_le _⟩ (fun r4 μ3 hq H locs hH => ?_)
  refine lv_isub hx hb dX7_hits_14 ?_
  exact x_iret G hr hH hq dX7_hits_15
abbrev tX2_wetCells : List Cond := Cond.code yX2_wetCells cX2_wetCells 4 (some .int) :: wsL_law
theorem mi_X2_wetCells : Cond.instanceMethod yX2_wetCells ∈ wsL_law := (wm_30 _ (List.mem_of_getElem? (i := 1) rfl))
theorem ms_X2_wetCells : Cond.selects RX2 yX2_wetCells yX2_wetCells ∈ wsL_law := (wm_30 _ (List.mem_of_getElem? (i := 2) rfl))
theorem mc_X2_wetCells : Cond.code yX2_wetCells cX2_wetCells 4 (some .int) ∈ wsL_law := (wm_30 _ (List.mem_of_getElem? (i := 3) rfl))
theorem md_X2_wetCells : yX2_wetCells.cls ≠ "java/lang/invoke/MethodHandle" ∧ yX2_wetCells.cls ≠ "java/lang/invoke/VarHandle" ∧ (parseMethodDescriptor yX2_wetCells.desc).map (fun d => d.parameters.length) = some 1 := by decide +kernel
set_option maxRecDepth 100000 in
set_option maxHeartbeats 4000000 in
theorem wb_X2_wetCells_4 {E : xE} {ad : Nat → Nat} {p : Program} {l : Launch} {e : Env} {s : State} {m : MethodId} {args : Array Value} {below : List Frame} {meth : Method} {c : Code} {Q : State → Prop} (G : xG E p s m args meth c cX2_wetCells 4 RX2) (hA : ∀ a, s.heap.size ≤ a → xA ad s.heap.size a) (q1 : Nat) (q2 : Nat) (hk_q1 : kd q1 = 1) (hk_q2 : kd q2 = 0) (a3 : Int32) (a4 : Int32) (μ6 : xM) (K40 : Int32 → xM → Prop) (K4b : Int32 → Int32 → xM → Prop) (hq : B_X2_wetCells_4 q1 q2 a3 a4 μ6 K40 K4b) {H : Heap} {locs : List Loc} {ls : Array Slot} (hH : xH E ad (xA ad s.heap.size) s.heap μ6 H locs) (hl : lv_has ls 4 [(0, .ref (ad q1)), (1, .ref (ad q2)), (3, .int a3), (2, .int a4)]) (kK40 : ∀ (a7 : Int32) (μ8 : xM), K40 a7 μ8 → ∀ (H : Heap) (locs : List Loc) (ls : Array Slot), xH E ad (xA ad s.heap.size) s.heap μ8 H locs → lv_has ls 4 [(2, .int a7)] → W p l e (headSpec tX2_wetCells ({ frames := 3, cells := 0, slots := 0, locals := 120 } : Room)).room s m args below meth c H locs 0 0 Q (F0 m 28 ls [])) (kK4b : ∀ (a9 : Int32) (a10 : Int32) (μ11 : xM), K4b a9 a10 μ11 → ∀ (H : Heap) (locs : List Loc) (ls : Array Slot), xH E ad (xA ad s.heap.size) s.heap μ11 H locs → lv_has ls 4 [(0, .ref (ad q1)), (1, .ref (ad q2)), (3, .int a9), (2, .int a10)] → W p l e (headSpec tX2_wetCells ({ frames := 3, cells := 0, slots := 0, locals := 120 } : Room)).room s m args below meth c H locs 0 0 Q (F0 m 4 ls [])) : W p l e (headSpec tX2_wetCells ({ frames := 3, cells := 0, slots := 0, locals := 120 } : Room)).room s m args below meth c H locs 0 0 Q (F0 m 4 ls []) := by
  obtain ⟨hx, hb, hml, hown, hts, hKn, hN, hlk⟩ := id G
  unfold B_X2_wetCells_4 at hq
  refine lv_iload_n hx hb dX2_wetCells_4 rfl (lv_at hl 2 rfl) ?_
  refine lv_bipush (v := (16 : Int32)) hx hb dX2_wetCells_5 (by decide) ?_
  refine lv_icmp_ge (tgt := 28) hx hb dX2_wetCells_7 (by decide) (fun c12 => ?_) (fun c12 => ?_)
  · have hq := hq.1 c12
    exact kK40 a4 μ6 hq _ _ _ hH (lv_sub hl [3] rfl)
  · have hq := hq.2 c12
    refine lv_aload_n hx hb dX2_wetCells_10 rfl (lv_at hl 0 rfl) ?_
    refine lv_aload_n hx hb dX2_wetCells_11 rfl (lv_at hl 1 rfl) ?_
    refine lv_iload_n hx hb dX2_wetCells_12 rfl (lv_at hl 2 rfl) ?_
    refine x_cVi (C := RX2) (T := TX2) (N := 7) (As := [.ref (ad q2), .int a3]) (rest := []) G hH hA (c_X2_wetHours l E ad μ6 q1 q2 a3 hk_q1 hk_q2 _ hq) (wm_30 _ (List.mem_of_getElem? (i := 4) rfl)) mi_X2_wetHours ms_X2_wetHours mn_RX2 mc_X2_wetHours rfl md_X2_wetHours ⟨rfl, rfl, Nat.le_of_ble_eq_true rfl, Nat.le_of_ble_eq_true rfl⟩ hk_q1 (by decide) rfl rfl hl.1 rfl (Nat.le_of_ble_eq_true rfl) dX2_wetCells_13 ⟨Nat.zero_le _, Nat.zero_le _⟩ (fun r14 μ13 hq H locs hH => ?_)
    refine lv_if_le (tgt := 22) hx hb dX2_wetCells_16 (by decide) (fun c15 => ?_) (fun c15 => ?_)
    · have hq := hq.1 c15
      obtain ⟨v16, e_v16⟩ : ∃ y : Int32, y = (a3 + (1 : Int32)) := ⟨_, rfl⟩
      have hq := hq v16 e_v16
      refine lv_iinc (v := v16) (lv' := [(3, .int v16), (0, .ref (ad q1)), (1, .ref (ad q2)), (2, .int a4)]) hx hb dX2_wetCells_22 hl (k := 2) rfl (by rw [e_v16]; rfl) (by decide) rfl (fun ls hl => ?_)
      refine lv_goto (tgt := 4) hx hb dX2_wetCells_25 (by decide) ?_
      exact kK4b v16 a4 μ13 hq _ _ _ hH (lv_sub hl [1, 2, 0, 3] rfl)
    · have hq := hq.2 c15
      obtain ⟨v17, e_v17⟩ : ∃ y : Int32, y = (a4 + (1 : Int32)) := ⟨_, rfl⟩
      have hq := hq v17 e_v17
      refine lv_iinc (v := v17) (lv' := [(2, .int v17), (0, .ref (ad q1)), (1, .ref (ad q2)), (3, .int a3)]) hx hb dX2_wetCells_19 hl (k := 3) rfl (by rw [e_v17]; rfl) (by decide) rfl (fun ls hl => ?_)
      obtain ⟨v18, e_v18⟩ : ∃ y : Int32, y = (a3 + (1 : Int32)) := ⟨_, rfl⟩
      have hq := hq v18 e_v18
      refine lv_iinc (v := v18) (lv' := [(3, .int v18), (2, .int v17), (0, .ref (ad q1)), (1, .ref (ad q2))]) hx hb dX2_wetCells_22 hl (k := 3) rfl (by rw [e_v18]; rfl) (by decide) rfl (fun ls hl => ?_)
      refine lv_goto (tgt := 4) hx hb dX2_wetCells_25 (by decide) ?_
      exact kK4b v18 v17 μ13 hq _ _ _ hH (lv_sub hl [2, 3, 0, 1] rfl)
set_option maxRecDepth 100000 in
set_option maxHeartbeats 4000000 in
theorem w_X2_wetCells_4 {E : xE} {ad : Nat → Nat} {p : Program} {l : Launch} {e : Env} {s : State} {m : MethodId} {args : Array Value} {below : List Frame} {meth : Method} {c : Code} {Q : State → Prop} (G : xG E p s m args meth c cX2_wetCells 4 RX2) (hA : ∀ a, s.heap.size ≤ a → xA ad s.heap.size a) (q1 : Nat) (q2 : Nat) (hk_q1 : kd q1 = 1) (hk_q2 : kd q2 = 0) : ∀ (n : Nat) (a3 : Int32) (a4 : Int32) (μ6 : xM) (K40 : Int32 → xM → Prop) (hq : L_X2_wetCells_4 q1 q2 n a3 a4 μ6 K40) (H : Heap) (locs : List Loc) (ls : Array Slot) (hH : xH E ad (xA ad s.heap.size) s.heap μ6 H locs) (hl : lv_has ls 4 [(0, .ref (ad q1)), (1, .ref (ad q2)), (3, .int a3), (2, .int a4)]) (kK40 : ∀ (a7 : Int32) (μ8 : xM), K40 a7 μ8 → ∀ (H : Heap) (locs : List Loc) (ls : Array Slot), xH E ad (xA ad s.heap.size) s.heap μ8 H locs → lv_has ls 4 [(2, .int a7)] → W p l e (headSpec tX2_wetCells ({ frames := 3, cells := 0, slots := 0, locals := 120 } : Room)).room s m args below meth c H locs 0 0 Q (F0 m 28 ls [])) , W p l e (headSpec tX2_wetCells ({ frames := 3, cells := 0, slots := 0, locals := 120 } : Room)).room s m args below meth c H locs 0 0 Q (F0 m 4 ls [])
  | 0, _, _, _, _, hq, _, _, _, _, _, _ => hq.elim
  | n + 1, a3, a4, μ6, K40, hq, H, locs, ls, hH, hl, kK40 => wb_X2_wetCells_4 G hA q1 q2 hk_q1 hk_q2 a3 a4 μ6 K40 _ hq hH hl kK40 (fun x0 x1 y hq H locs ls hH hl => w_X2_wetCells_4 G hA q1 q2 hk_q1 hk_q2 n x0 x1 y K40 hq H locs ls hH hl kK40)
set_option maxRecDepth 100000 in
set_option maxHeartbeats 4000000 in
theorem c_X2_wetCells (l : Launch) (E : xE) (ad : Nat → Nat) (μ : xM) (q0 : Nat) (q1 : Nat) (hk_q0 : kd q0 = 1) (hk_q1 : kd q1 = 0) (Qm : Int32 → xM → Prop) (hq : p_X2_wetCells q0 q1 μ Qm) : xMi l yX2_wetCells tX2_wetCells ({ frames := 3, cells := 0, slots := 0, locals := 120 } : Room) E ad μ [.ref (ad q0), .ref (ad q1)] Qm := by
  refine x_sti (cc := cX2_wetCells) (maxL := 4) (ret := (some .int)) (own := RX2) rfl (by decide) rfl (Nat.le_of_ble_eq_true rfl) ?_
  intro p e s m args below meth c ls G hr hA hH hl
  obtain ⟨hx, hb, hml, hown, hts, hKn, hN, hlk⟩ := id G
  have hl : lv_has ls 4 [(0, .ref (ad q0)), (1, .ref (ad q1))] := hl
  have hH : xH E ad (xA ad s.heap.size) s.heap μ s.heap [] := hH
  unfold p_X2_wetCells at hq
  refine lv_iconst (v := (0 : Int32)) hx hb dX2_wetCells_0 (by decide) ?_
  refine lv_istore_n (lv' := [(2, .int (0 : Int32)), (0, .ref (ad q0)), (1, .ref (ad q1))]) hx hb dX2_wetCells_1 rfl hl (by decide) rfl (fun ls hl => ?_)
  refine lv_iconst (v := (0 : Int32)) hx hb dX2_wetCells_2 (by decide) ?_
  refine lv_istore_n (lv' := [(3, .int (0 : Int32)), (2, .int (0 : Int32)), (0, .ref (ad q0)), (1, .ref (ad q1))]) hx hb dX2_wetCells_3 rfl hl (by decide) rfl (fun ls hl => ?_)
  obtain ⟨n5, hq⟩ := hq
  refine w_X2_wetCells_4 G hA q0 q1 hk_q0 hk_q1 n5 (0 : Int32) (0 : Int32) μ _ hq _ _ _ hH (lv_sub hl [2, 3, 0, 1] rfl) (fun a19 μ20 hq H locs ls hH hl => ?_)
  refine lv_iload_n hx hb dX2_wetCells_28 rfl (lv_at hl 0 rfl) ?_
  exact x_iret G hr hH hq dX2_wetCells_29
abbrev tX11_hand : List Cond := Cond.code yX11_hand cX11_hand 3 (some .int) :: wsL_law
theorem mi_X11_hand : Cond.instanceMethod yX11_hand ∈ wsL_law := (wm_29 _ (List.mem_of_getElem? (i := 18) rfl))
theorem ms_X11_hand : Cond.selects RX11 yX11_hand yX11_hand ∈ wsL_law := (wm_29 _ (List.mem_of_getElem? (i := 19) rfl))
theorem mc_X11_hand : Cond.code yX11_hand cX11_hand 3 (some .int) ∈ wsL_law := (wm_29 _ (List.mem_of_getElem? (i := 20) rfl))
theorem md_X11_hand : yX11_hand.cls ≠ "java/lang/invoke/MethodHandle" ∧ yX11_hand.cls ≠ "java/lang/invoke/VarHandle" ∧ (parseMethodDescriptor yX11_hand.desc).map (fun d => d.parameters.length) = some 1 := by decide +kernel
set_option maxRecDepth 100000 in
set_option maxHeartbeats 4000000 in
theorem c_X11_hand (l : Launch) (E : xE) (ad : Nat → Nat) (μ : xM) (q0 : Nat) (p1 : Int32) (hk_q0 : kd q0 = 9) (Qm : Int32 → xM → Prop) (hq : p_X11_hand q0 p1 μ Qm) : xMi l yX11_hand tX11_hand ({ frames := 4, cells := 0, slots := 0, locals := 160 } : Room) E ad μ [.ref (ad q0), .int p1] Qm := by
  refine x_sti (cc := cX11_hand) (maxL := 3) (ret := (some .int)) (own := RX11) rfl (by decide) rfl (Nat.le_of_ble_eq_true rfl) ?_
  intro p e s m args below meth c ls G hr hA hH hl
  obtain ⟨hx, hb, hml, hown, hts, hKn, hN, hlk⟩ := id G
  have hl : lv_has ls 3 [(0, .ref (ad q0)), (1, .int p1)] := hl
  have hH : xH E ad (xA ad s.heap.size) s.heap μ s.heap [] := hH
  unfold p_X11_hand at hq
  refine lv_aload_n hx hb dX11_hand_0 rfl (lv_at hl 0 rfl) ?_
  refine x_get (j := 0) (C := RX11) (T := TX11) (N := 8) (v := .ref (ad (rt q0 0))) G hH hk_q0 (by decide) rfl inlX11 (by decide) (wm_1 _ (List.mem_of_getElem? (i := 15) rfl)) rfl dX11_hand_1 ?_
  refine x_get (j := 1) (C := RX9) (T := TX9) (N := 3) (v := .ref (ad (rt (rt q0 0) 1))) G hH (kt_9_0 _ hk_q0) (by decide) rfl inlX9 (by decide) (wm_26 _ (List.mem_of_getElem? (i := 4) rfl)) rfl dX11_hand_4 ?_
  refine x_get (j := 0) (C := RX2) (T := TX2) (N := 7) (v := .ref (ad (rt (rt (rt q0 0) 1) 0))) G hH (kt_7_1 _ (kt_9_0 _ hk_q0)) (by decide) rfl inlX2 (by decide) (wm_28 _ (List.mem_of_getElem? (i := 17) rfl)) rfl dX11_hand_7 ?_
  refine lv_astore_n (lv' := [(2, .ref (ad (rt (rt (rt q0 0) 1) 0))), (0, .ref (ad q0)), (1, .int p1)]) hx hb dX11_hand_10 rfl hl (by decide) rfl (fun ls hl => ?_)
  refine lv_iload_n hx hb dX11_hand_11 rfl (lv_at hl 2 rfl) ?_
  rcases Decidable.em (p1 = (0 : Int32)) with c1 | c1
  · refine lv_tableIn (off := 44) (tgt := 56) hx hb dX11_hand_12 (by rw [c1]; decide) (by rw [c1]; decide) (by rw [c1]; rfl) (by decide) ?_
    have hq := hq.1 c1
    refine lv_aload_n hx hb dX11_hand_56 rfl (lv_at hl 1 rfl) ?_
    refine x_get (j := 0) (C := RX11) (T := TX11) (N := 8) (v := .ref (ad (rt q0 0))) G hH hk_q0 (by decide) rfl inlX11 (by decide) (wm_1 _ (List.mem_of_getElem? (i := 15) rfl)) rfl dX11_hand_57 ?_
    refine x_get (j := 1) (C := RX9) (T := TX9) (N := 3) (v := .ref (ad (rt (rt q0 0) 1))) G hH (kt_9_0 _ hk_q0) (by decide) rfl inlX9 (by decide) (wm_26 _ (List.mem_of_getElem? (i := 4) rfl)) rfl dX11_hand_60 ?_
    refine x_get (j := 1) (C := RX2) (T := TX2) (N := 7) (v := .int (μ.1 (rt (rt q0 0) 1) 1)) G hH (kt_7_1 _ (kt_9_0 _ hk_q0)) (by decide) rfl inlX2 (by decide) (wm_29 _ (List.mem_of_getElem? (i := 21) rfl)) rfl dX11_hand_63 ?_
    exact x_iret G hr hH hq dX11_hand_66
  · have hq := hq.2 c1
    rcases Decidable.em (p1 = (1 : Int32)) with c2 | c2
    · refine lv_tableIn (off := 55) (tgt := 67) hx hb dX11_hand_12 (by rw [c2]; decide) (by rw [c2]; decide) (by rw [c2]; rfl) (by decide) ?_
      have hq := hq.1 c2
      refine lv_aload_n hx hb dX11_hand_67 rfl (lv_at hl 1 rfl) ?_
      refine x_get (j := 0) (C := RX11) (T := TX11) (N := 8) (v := .ref (ad (rt q0 0))) G hH hk_q0 (by decide) rfl inlX11 (by decide) (wm_1 _ (List.mem_of_getElem? (i := 15) rfl)) rfl dX11_hand_68 ?_
      refine x_get (j := 1) (C := RX9) (T := TX9) (N := 3) (v := .ref (ad (rt (rt q0 0) 1))) G hH (kt_9_0 _ hk_q0) (by decide) rfl inlX9 (by decide) (wm_26 _ (List.mem_of_getElem? (i := 4) rfl)) rfl dX11_hand_71 ?_
      refine x_get (j := 2) (C := RX2) (T := TX2) (N := 7) (v := .int (μ.1 (rt (rt q0 0) 1) 2)) G hH (kt_7_1 _ (kt_9_0 _ hk_q0)) (by decide) rfl inlX2 (by decide) (wm_26 _ (List.mem_of_getElem? (i := 9) rfl)) rfl dX11_hand_74 ?_
      exact x_iret G hr hH hq dX11_hand_77
    · have hq := hq.2 c2
      rcases Decidable.em (p1 = (2 : Int32)) with c3 | c3
      · refine lv_tableIn (off := 66) (tgt := 78) hx hb dX11_hand_12 (by rw [c3]; decide) (by rw [c3]; decide) (by rw [c3]; rfl) (by decide) ?_
        have hq := hq.1 c3
        refine lv_aload_n hx hb dX11_hand_78 rfl (lv_at hl 1 rfl) ?_
        refine x_get (j := 0) (C := RX11) (T := TX11) (N := 8) (v := .ref (ad (rt q0 0))) G hH hk_q0 (by decide) rfl inlX11 (by decide) (wm_1 _ (List.mem_of_getElem? (i := 15) rfl)) rfl dX11_hand_79 ?_
        refine x_get (j := 1) (C := RX9) (T := TX9) (N := 3) (v := .ref (ad (rt (rt q0 0) 1))) G hH (kt_9_0 _ hk_q0) (by decide) rfl inlX9 (by decide) (wm_26 _ (List.mem_of_getElem? (i := 4) rfl)) rfl dX11_hand_82 ?_
        refine x_get (j := 3) (C := RX2) (T := TX2) (N := 7) (v := .int (μ.1 (rt (rt q0 0) 1) 3)) G hH (kt_7_1 _ (kt_9_0 _ hk_q0)) (by decide) rfl inlX2 (by decide) (wm_29 _ (List.mem_of_getElem? (i := 22) rfl)) rfl dX11_hand_85 ?_
        exact x_iret G hr hH hq dX11_hand_88
      · have hq := hq.2 c3
        rcases Decidable.em (p1 = (3 : Int32)) with c4 | c4
        · refine lv_tableIn (off := 77) (tgt := 89) hx hb dX11_hand_12 (by rw [c4]; decide) (by rw [c4]; decide) (by rw [c4]; rfl) (by decide) ?_
          have hq := hq.1 c4
          refine lv_aload_n hx hb dX11_hand_89 rfl (lv_at hl 0 rfl) ?_
          refine lv_aload_n hx hb dX11_hand_90 rfl (lv_at hl 1 rfl) ?_
          refine x_get (j := 0) (C := RX11) (T := TX11) (N := 8) (v := .ref (ad (rt q0 0))) G hH hk_q0 (by decide) rfl inlX11 (by decide) (wm_1 _ (List.mem_of_getElem? (i := 15) rfl)) rfl dX11_hand_91 ?_
          refine x_get (j := 2) (C := RX9) (T := TX9) (N := 3) (v := .long (μ.2 (rt q0 0) 2)) G hH (kt_9_0 _ hk_q0) (by decide) rfl inlX9 (by decide) (wm_15 _ (List.mem_of_getElem? (i := 0) rfl)) rfl dX11_hand_94 ?_
          refine x_cVi (C := RX7) (T := TX7) (N := 3) (As := [.long (μ.2 (rt q0 0) 2)]) (rest := []) G hH hA (c_X7_hits l E ad μ (rt (rt (rt q0 0) 1) 0) (μ.2 (rt q0 0) 2) (kt_1_0 _ (kt_7_1 _ (kt_9_0 _ hk_q0))) _ hq) (wm_29 _ (List.mem_of_getElem? (i := 23) rfl)) mi_X7_hits ms_X7_hits mn_RX7 mc_X7_hits rfl md_X7_hits ⟨rfl, rfl, Nat.le_of_ble_eq_true rfl, Nat.le_of_ble_eq_true rfl⟩ (kt_1_0 _ (kt_7_1 _ (kt_9_0 _ hk_q0))) (by decide) rfl rfl hl.1 rfl (Nat.le_of_ble_eq_true rfl) dX11_hand_97 ⟨Nat.zero_le _, Nat.zero_le _⟩ (fun r6 μ5 hq H locs hH => ?_)
          exact x_iret G hr hH hq dX11_hand_100
        · have hq := hq.2 c4
          rcases Decidable.em (p1 = (4 : Int32)) with c7 | c7
          · refine lv_tableIn (off := 89) (tgt := 101) hx hb dX11_hand_12 (by rw [c7]; decide) (by rw [c7]; decide) (by rw [c7]; rfl) (by decide) ?_
            have hq := hq.1 c7
            refine lv_aload_n hx hb dX11_hand_101 rfl (lv_at hl 1 rfl) ?_
            refine x_get (j := 0) (C := RX11) (T := TX11) (N := 8) (v := .ref (ad (rt q0 0))) G hH hk_q0 (by decide) rfl inlX11 (by decide) (wm_1 _ (List.mem_of_getElem? (i := 15) rfl)) rfl dX11_hand_102 ?_
            refine x_get (j := 1) (C := RX9) (T := TX9) (N := 3) (v := .ref (ad (rt (rt q0 0) 1))) G hH (kt_9_0 _ hk_q0) (by decide) rfl inlX9 (by decide) (wm_26 _ (List.mem_of_getElem? (i := 4) rfl)) rfl dX11_hand_105 ?_
            refine lv_aload_n hx hb dX11_hand_108 rfl (lv_at hl 1 rfl) ?_
            refine x_get (j := 0) (C := RX11) (T := TX11) (N := 8) (v := .ref (ad (rt q0 0))) G hH hk_q0 (by decide) rfl inlX11 (by decide) (wm_1 _ (List.mem_of_getElem? (i := 15) rfl)) rfl dX11_hand_109 ?_
            refine x_get (j := 0) (C := RX9) (T := TX9) (N := 3) (v := .ref (ad (rt (rt q0 0) 0))) G hH (kt_9_0 _ hk_q0) (by decide) rfl inlX9 (by decide) (wm_1 _ (List.mem_of_getElem? (i := 23) rfl)) rfl dX11_hand_112 ?_
            refine x_cVi (C := RX2) (T := TX2) (N := 7) (As := [.ref (ad (rt (rt q0 0) 0))]) (rest := []) G hH hA (c_X2_wetCells l E ad μ (rt (rt q0 0) 1) (rt (rt q0 0) 0) (kt_7_1 _ (kt_9_0 _ hk_q0)) (kt_7_0 _ (kt_9_0 _ hk_q0)) _ hq) (wm_30 _ (List.mem_of_getElem? (i := 0) rfl)) mi_X2_wetCells ms_X2_wetCells mn_RX2 mc_X2_wetCells rfl md_X2_wetCells ⟨rfl, rfl, Nat.le_of_ble_eq_true rfl, Nat.le_of_ble_eq_true rfl⟩ (kt_7_1 _ (kt_9_0 _ hk_q0)) (by decide) rfl rfl hl.1 rfl (Nat.le_of_ble_eq_true rfl) dX11_hand_115 ⟨Nat.zero_le _, Nat.zero_le _⟩ (fun r9 μ8 hq H locs hH => ?_)
            exact x_iret G hr hH hq dX11_hand_118
          · have hq := hq.2 c7
            rcases Decidable.em (p1 = (5 : Int32)) with c10 | c10
            · refine lv_tableIn (off := 107) (tgt := 119) hx hb dX11_hand_12 (by rw [c10]; decide) (by rw [c10]; decide) (by rw [c10]; rfl) (by decide) ?_
              have hq := hq.1 c10
              refine lv_aload_n hx hb dX11_hand_119 rfl (lv_at hl 0 rfl) ?_
              refine x_get (j := 1) (C := RX7) (T := TX7) (N := 3) (v := .long (μ.2 (rt (rt (rt q0 0) 1) 0) 1)) G hH (kt_1_0 _ (kt_7_1 _ (kt_9_0 _ hk_q0))) (by decide) rfl inlX7 (by decide) (wm_28 _ (List.mem_of_getElem? (i := 19) rfl)) rfl dX11_hand_120 ?_
              refine x_cSl (As := [.long (μ.2 (rt (rt (rt q0 0) 1) 0) 1)]) (rest := []) G hH hA (c_X1_filled l E ad μ (μ.2 (rt (rt (rt q0 0) 1) 0) 1)  _ hq) (wm_30 _ (List.mem_of_getElem? (i := 5) rfl)) mt_X1_filled mn_RX1 mc_X1_filled md_X1_filled ⟨rfl, rfl, Nat.le_of_ble_eq_true rfl, Nat.le_of_ble_eq_true rfl⟩ rfl hl.1 rfl (Nat.le_of_ble_eq_true rfl) dX11_hand_123 ⟨Nat.zero_le _, Nat.zero_le _⟩ (fun r12 μ11 hq H locs hH => ?_)
              refine x_cSi (As := [.long r12]) (rest := []) G hH hA (c_J13_bitCount_95d88 l E ad μ11 r12  _ hq) (wm_30 _ (List.mem_of_getElem? (i := 6) rfl)) mt_J13_bitCount_95d88 mn_RJ13 mc_J13_bitCount_95d88 md_J13_bitCount_95d88 ⟨rfl, rfl, Nat.le_of_ble_eq_true rfl, Nat.le_of_ble_eq_true rfl⟩ rfl hl.1 rfl (Nat.le_of_ble_eq_true rfl) dX11_hand_126 ⟨Nat.zero_le _, Nat.zero_le _⟩ (fun r14 μ13 hq H locs hH => ?_)
              exact x_iret G hr hH hq dX11_hand_129
            · have hq := hq.2 c10
              rcases Decidable.em (p1 = (6 : Int32)) with c15 | c15
              · refine lv_tableIn (off := 118) (tgt := 130) hx hb dX11_hand_12 (by rw [c15]; decide) (by rw [c15]; decide) (by rw [c15]; rfl) (by decide) ?_
                have hq := hq.1 c15
                refine lv_aload_n hx hb dX11_hand_130 rfl (lv_at hl 0 rfl) ?_
                refine x_get (j := 2) (C := RX7) (T := TX7) (N := 3) (v := .int (μ.1 (rt (rt (rt q0 0) 1) 0) 2)) G hH (kt_1_0 _ (kt_7_1 _ (kt_9_0 _ hk_q0))) (by decide) rfl inlX7 (by decide) (wm_28 _ (List.mem_of_getElem? (i := 20) rfl)) rfl dX11_hand_131 ?_
                refine x_cSi (As := [.int (μ.1 (rt (rt (rt q0 0) 1) 0) 2)]) (rest := []) G hH hA (c_J6_bitCount_0f7a4 l E ad μ (μ.1 (rt (rt (rt q0 0) 1) 0) 2)  _ hq) (wm_12 _ (List.mem_of_getElem? (i := 7) rfl)) mt_J6_bitCount_0f7a4 mn_RJ6 mc_J6_bitCount_0f7a4 md_J6_bitCount_0f7a4 ⟨rfl, rfl, Nat.le_of_ble_eq_true rfl, Nat.le_of_ble_eq_true rfl⟩ rfl hl.1 rfl (Nat.le_of_ble_eq_true rfl) dX11_hand_134 ⟨Nat.zero_le _, Nat.zero_le _⟩ (fun r17 μ16 hq H locs hH => ?_)
                exact x_iret G hr hH hq dX11_hand_137
              · have hq := hq.2 c15
                have gc1 := lv_neT c1 (a := 0) (by decide)
                have gc2 := lv_neT c2 (a := 1) (by decide)
                have gc3 := lv_neT c3 (a := 2) (by decide)
                have gc4 := lv_neT c4 (a := 3) (by decide)
                have gc7 := lv_neT c7 (a := 4) (by decide)
                have gc10 := lv_neT c10 (a := 5) (by decide)
                have gc15 := lv_neT c15 (a := 6) (by decide)
                refine lv_tableOut (tgt := 138) hx hb dX11_hand_12 (by omega) (by decide) ?_
                refine lv_aload_n hx hb dX11_hand_138 rfl (lv_at hl 1 rfl) ?_
                refine lv_bipush (v := (-2 : Int32)) hx hb dX11_hand_139 (by decide) ?_
                refine x_cVi (C := RX11) (T := TX11) (N := 8) (As := [.int (-2 : Int32)]) (rest := []) G hH hA (c_X11_refuse l E ad μ q0 (-2 : Int32) hk_q0 _ hq) (wm_7 _ (List.mem_of_getElem? (i := 23) rfl)) mi_X11_refuse ms_X11_refuse mn_RX11 mc_X11_refuse rfl md_X11_refuse ⟨rfl, rfl, Nat.le_of_ble_eq_true rfl, Nat.le_of_ble_eq_true rfl⟩ hk_q0 (by decide) rfl rfl hl.1 rfl (Nat.le_of_ble_eq_true rfl) dX11_hand_141 ⟨Nat.zero_le _, Nat.zero_le _⟩ (fun r19 μ18 hq H locs hH => ?_)
                exact x_iret G hr hH hq dX11_hand_144
abbrev tX11_print : List Cond := Cond.code yX11_print cX11_print 3 (some .int) :: wsL_law
theorem mi_X11_print : Cond.instanceMethod yX11_print ∈ wsL_law := (wm_30 _ (List.mem_of_getElem? (i := 16) rfl))
theorem ms_X11_print : Cond.selects RX11 yX11_print yX11_print ∈ wsL_law := (wm_30 _ (List.mem_of_getElem? (i := 17) rfl))
theorem mc_X11_print : Cond.code yX11_print cX11_print 3 (some .int) ∈ wsL_law := (wm_30 _ (List.mem_of_getElem? (i := 18) rfl))
theorem md_X11_print : yX11_print.cls ≠ "java/lang/invoke/MethodHandle" ∧ yX11_print.cls ≠ "java/lang/invoke/VarHandle" ∧ (parseMethodDescriptor yX11_print.desc).map (fun d => d.parameters.length) = some 2 := by decide +kernel
set_option maxRecDepth 100000 in
set_option maxHeartbeats 4000000 in
theorem c_X11_print (l : Launch) (E : xE) (ad : Nat → Nat) (μ : xM) (q0 : Nat) (p1 : Int32) (p2 : Int32) (hk_q0 : kd q0 = 9) (Qm : Int32 → xM → Prop) (hq : p_X11_print q0 p1 p2 μ Qm) : xMi l yX11_print tX11_print ({ frames := 2, cells := 0, slots := 0, locals := 80 } : Room) E ad μ [.ref (ad q0), .int p1, .int p2] Qm := by
  refine x_sti (cc := cX11_print) (maxL := 3) (ret := (some .int)) (own := RX11) rfl (by decide) rfl (Nat.le_of_ble_eq_true rfl) ?_
  intro p e s m args below meth c ls G hr hA hH hl
  obtain ⟨hx, hb, hml, hown, hts, hKn, hN, hlk⟩ := id G
  have hl : lv_has ls 3 [(0, .ref (ad q0)), (1, .int p1), (2, .int p2)] := hl
  have hH : xH E ad (xA ad s.heap.size) s.heap μ s.heap [] := hH
  unfold p_X11_print at hq
  refine lv_iload_n hx hb dX11_print_0 rfl (lv_at hl 1 rfl) ?_
  refine lv_if_lt (tgt := 13) hx hb dX11_print_1 (by decide) (fun c1 => ?_) (fun c1 => ?_)
  · have hq := hq.1 c1
    refine lv_aload_n hx hb dX11_print_13 rfl (lv_at hl 0 rfl) ?_
    refine lv_bipush (v := (-2 : Int32)) hx hb dX11_print_14 (by decide) ?_
    refine x_cVi (C := RX11) (T := TX11) (N := 8) (As := [.int (-2 : Int32)]) (rest := []) G hH hA (c_X11_refuse l E ad μ q0 (-2 : Int32) hk_q0 _ hq) (wm_7 _ (List.mem_of_getElem? (i := 23) rfl)) mi_X11_refuse ms_X11_refuse mn_RX11 mc_X11_refuse rfl md_X11_refuse ⟨rfl, rfl, Nat.le_of_ble_eq_true rfl, Nat.le_of_ble_eq_true rfl⟩ hk_q0 (by decide) rfl rfl hl.1 rfl (Nat.le_of_ble_eq_true rfl) dX11_print_16 ⟨Nat.zero_le _, Nat.zero_le _⟩ (fun r3 μ2 hq H locs hH => ?_)
    exact x_iret G hr hH hq dX11_print_19
  · have hq := hq.2 c1
    refine lv_iload_n hx hb dX11_print_4 rfl (lv_at hl 2 rfl) ?_
    refine lv_iconst (v := (0 : Int32)) hx hb dX11_print_5 (by decide) ?_
    refine lv_iconst (v := (2 : Int32)) hx hb dX11_print_6 (by decide) ?_
    refine x_cSi (As := [.int p2, .int (0 : Int32), .int (2 : Int32)]) (rest := []) G hH hA (c_X11_within l E ad μ p2 (0 : Int32) (2 : Int32)  _ hq) (wm_7 _ (List.mem_of_getElem? (i := 20) rfl)) mt_X11_within mn_RX11 mc_X11_within md_X11_within ⟨rfl, rfl, Nat.le_of_ble_eq_true rfl, Nat.le_of_ble_eq_true rfl⟩ rfl hl.1 rfl (Nat.le_of_ble_eq_true rfl) dX11_print_7 ⟨Nat.zero_le _, Nat.zero_le _⟩ (fun r5 μ4 hq H locs hH => ?_)
    refine lv_if_ne (tgt := 20) hx hb dX11_print_10 (by decide) (fun c6 => ?_) (fun c6 => ?_)
    · have hq := hq.1 c6
      refine lv_iload_n hx hb dX11_print_20 rfl (lv_at hl 1 rfl) ?_
      refine lv_aload_n hx hb dX11_print_21 rfl (lv_at hl 0 rfl) ?_
      refine x_get (j := 0) (C := RX11) (T := TX11) (N := 8) (v := .ref (ad (rt q0 0))) G hH hk_q0 (by decide) rfl inlX11 (by decide) (wm_1 _ (List.mem_of_getElem? (i := 15) rfl)) rfl dX11_print_22 ?_
      refine x_get (j := 1) (C := RX9) (T := TX9) (N := 3) (v := .ref (ad (rt (rt q0 0) 1))) G hH (kt_9_0 _ hk_q0) (by decide) rfl inlX9 (by decide) (wm_26 _ (List.mem_of_getElem? (i := 4) rfl)) rfl dX11_print_25 ?_
      refine x_get (j := 2) (C := RX2) (T := TX2) (N := 7) (v := .int (μ4.1 (rt (rt q0 0) 1) 2)) G hH (kt_7_1 _ (kt_9_0 _ hk_q0)) (by decide) rfl inlX2 (by decide) (wm_26 _ (List.mem_of_getElem? (i := 9) rfl)) rfl dX11_print_28 ?_
      refine lv_icmp_lt (tgt := 36) hx hb dX11_print_31 (by decide) (fun c7 => ?_) (fun c7 => ?_)
      · have hq := hq.1 c7
        refine lv_iload_n hx hb dX11_print_36 rfl (lv_at hl 2 rfl) ?_
        rcases Decidable.em (p2 = (0 : Int32)) with c8 | c8
        · refine lv_lookup (off := 27) (tgt := 64) hx hb dX11_print_37 (by decide) (by rw [c8]; rfl) (by decide) ?_
          have hq := hq.1 c8
          refine lv_aload_n hx hb dX11_print_64 rfl (lv_at hl 0 rfl) ?_
          refine x_get (j := 0) (C := RX11) (T := TX11) (N := 8) (v := .ref (ad (rt q0 0))) G hH hk_q0 (by decide) rfl inlX11 (by decide) (wm_1 _ (List.mem_of_getElem? (i := 15) rfl)) rfl dX11_print_65 ?_
          refine x_get (j := 1) (C := RX9) (T := TX9) (N := 3) (v := .ref (ad (rt (rt q0 0) 1))) G hH (kt_9_0 _ hk_q0) (by decide) rfl inlX9 (by decide) (wm_26 _ (List.mem_of_getElem? (i := 4) rfl)) rfl dX11_print_68 ?_
          refine x_get (j := 4) (C := RX2) (T := TX2) (N := 7) (v := .ref (ad (rt (rt (rt q0 0) 1) 4))) G hH (kt_7_1 _ (kt_9_0 _ hk_q0)) (by decide) rfl inlX2 (by decide) (wm_30 _ (List.mem_of_getElem? (i := 19) rfl)) rfl dX11_print_71 ?_
          refine lv_iload_n hx hb dX11_print_74 rfl (lv_at hl 1 rfl) ?_
          refine x_cSi (As := [.ref (ad (rt (rt (rt q0 0) 1) 4)), .int p1]) (rest := []) G hH hA (c_X5_at l E ad μ4 (rt (rt (rt q0 0) 1) 4) p1 (kt_1_4 _ (kt_7_1 _ (kt_9_0 _ hk_q0))) _ hq) (wm_16 _ (List.mem_of_getElem? (i := 0) rfl)) mt_X5_at mn_RX5 mc_X5_at md_X5_at ⟨rfl, rfl, Nat.le_of_ble_eq_true rfl, Nat.le_of_ble_eq_true rfl⟩ rfl hl.1 rfl (Nat.le_of_ble_eq_true rfl) dX11_print_75 ⟨Nat.zero_le _, Nat.zero_le _⟩ (fun r10 μ9 hq H locs hH => ?_)
          exact x_iret G hr hH hq dX11_print_78
        · have hq := hq.2 c8
          rcases Decidable.em (p2 = (1 : Int32)) with c11 | c11
          · refine lv_lookup (off := 42) (tgt := 79) hx hb dX11_print_37 (by decide) (by rw [c11]; rfl) (by decide) ?_
            have hq := hq.1 c11
            refine lv_aload_n hx hb dX11_print_79 rfl (lv_at hl 0 rfl) ?_
            refine x_get (j := 0) (C := RX11) (T := TX11) (N := 8) (v := .ref (ad (rt q0 0))) G hH hk_q0 (by decide) rfl inlX11 (by decide) (wm_1 _ (List.mem_of_getElem? (i := 15) rfl)) rfl dX11_print_80 ?_
            refine x_get (j := 1) (C := RX9) (T := TX9) (N := 3) (v := .ref (ad (rt (rt q0 0) 1))) G hH (kt_9_0 _ hk_q0) (by decide) rfl inlX9 (by decide) (wm_26 _ (List.mem_of_getElem? (i := 4) rfl)) rfl dX11_print_83 ?_
            refine x_get (j := 5) (C := RX2) (T := TX2) (N := 7) (v := .ref (ad (rt (rt (rt q0 0) 1) 5))) G hH (kt_7_1 _ (kt_9_0 _ hk_q0)) (by decide) rfl inlX2 (by decide) (wm_30 _ (List.mem_of_getElem? (i := 20) rfl)) rfl dX11_print_86 ?_
            refine lv_iload_n hx hb dX11_print_89 rfl (lv_at hl 1 rfl) ?_
            refine x_cSi (As := [.ref (ad (rt (rt (rt q0 0) 1) 5)), .int p1]) (rest := []) G hH hA (c_X5_at l E ad μ4 (rt (rt (rt q0 0) 1) 5) p1 (kt_1_5 _ (kt_7_1 _ (kt_9_0 _ hk_q0))) _ hq) (wm_16 _ (List.mem_of_getElem? (i := 0) rfl)) mt_X5_at mn_RX5 mc_X5_at md_X5_at ⟨rfl, rfl, Nat.le_of_ble_eq_true rfl, Nat.le_of_ble_eq_true rfl⟩ rfl hl.1 rfl (Nat.le_of_ble_eq_true rfl) dX11_print_90 ⟨Nat.zero_le _, Nat.zero_le _⟩ (fun r13 μ12 hq H locs hH => ?_)
            exact x_iret G hr hH hq dX11_print_93
          · have hq := hq.2 c11
            refine lv_lookup (off := 57) (tgt := 94) hx hb dX11_print_37 (by decide) (by show Op.lookupswitch.offset [(0, 27), (1, 42)] _ _ = _; rw [lv_osw c8 (by decide), lv_osw c11 (by decide)]; rfl) (by decide) ?_
            refine lv_aload_n hx hb dX11_print_94 rfl (lv_at hl 0 rfl) ?_
            refine x_get (j := 0) (C := RX11) (T := TX11) (N := 8) (v := .ref (ad (rt q0 0))) G hH hk_q0 (by decide) rfl inlX11 (by decide) (wm_1 _ (List.mem_of_getElem? (i := 15) rfl)) rfl dX11_print_95 ?_
            refine x_get (j := 1) (C := RX9) (T := TX9) (N := 3) (v := .ref (ad (rt (rt q0 0) 1))) G hH (kt_9_0 _ hk_q0) (by decide) rfl inlX9 (by decide) (wm_26 _ (List.mem_of_getElem? (i := 4) rfl)) rfl dX11_print_98 ?_
            refine x_get (j := 6) (C := RX2) (T := TX2) (N := 7) (v := .ref (ad (rt (rt (rt q0 0) 1) 6))) G hH (kt_7_1 _ (kt_9_0 _ hk_q0)) (by decide) rfl inlX2 (by decide) (wm_30 _ (List.mem_of_getElem? (i := 21) rfl)) rfl dX11_print_101 ?_
            refine lv_iload_n hx hb dX11_print_104 rfl (lv_at hl 1 rfl) ?_
            refine x_cSi (As := [.ref (ad (rt (rt (rt q0 0) 1) 6)), .int p1]) (rest := []) G hH hA (c_X5_at l E ad μ4 (rt (rt (rt q0 0) 1) 6) p1 (kt_1_6 _ (kt_7_1 _ (kt_9_0 _ hk_q0))) _ hq) (wm_16 _ (List.mem_of_getElem? (i := 0) rfl)) mt_X5_at mn_RX5 mc_X5_at md_X5_at ⟨rfl, rfl, Nat.le_of_ble_eq_true rfl, Nat.le_of_ble_eq_true rfl⟩ rfl hl.1 rfl (Nat.le_of_ble_eq_true rfl) dX11_print_105 ⟨Nat.zero_le _, Nat.zero_le _⟩ (fun r15 μ14 hq H locs hH => ?_)
            exact x_iret G hr hH hq dX11_print_108
      · have hq := hq.2 c7
        refine lv_iconst (v := (-1 : Int32)) hx hb dX11_print_34 (by decide) ?_
        exact x_iret G hr hH hq dX11_print_35
    · have hq := hq.2 c6
      refine lv_aload_n hx hb dX11_print_13 rfl (lv_at hl 0 rfl) ?_
      refine lv_bipush (v := (-2 : Int32)) hx hb dX11_print_14 (by decide) ?_
      refine x_cVi (C := RX11) (T := TX11) (N := 8) (As := [.int (-2 : Int32)]) (rest := []) G hH hA (c_X11_refuse l E ad μ4 q0 (-2 : Int32) hk_q0 _ hq) (wm_7 _ (List.mem_of_getElem? (i := 23) rfl)) mi_X11_refuse ms_X11_refuse mn_RX11 mc_X11_refuse rfl md_X11_refuse ⟨rfl, rfl, Nat.le_of_ble_eq_true rfl, Nat.le_of_ble_eq_true rfl⟩ hk_q0 (by decide) rfl rfl hl.1 rfl (Nat.le_of_ble_eq_true rfl) dX11_print_16 ⟨Nat.zero_le _, Nat.zero_le _⟩ (fun r17 μ16 hq H locs hH => ?_)
      exact x_iret G hr hH hq dX11_print_19
abbrev tX11_digest : List Cond := Cond.code yX11_digest cX11_digest 5 (some .long) :: wsL_law
theorem mi_X11_digest : Cond.instanceMethod yX11_digest ∈ wsL_law := (wm_37 _ (List.mem_of_getElem? (i := 1) rfl))
theorem ms_X11_digest : Cond.selects RX11 yX11_digest yX11_digest ∈ wsL_law := (wm_37 _ (List.mem_of_getElem? (i := 2) rfl))
theorem mc_X11_digest : Cond.code yX11_digest cX11_digest 5 (some .long) ∈ wsL_law := (wm_37 _ (List.mem_of_getElem? (i := 3) rfl))
theorem md_X11_digest : yX11_digest.cls ≠ "java/lang/invoke/MethodHandle" ∧ yX11_digest.cls ≠ "java/lang/invoke/VarHandle" ∧ (parseMethodDescriptor yX11_digest.desc).map (fun d => d.parameters.length) = some 0 := by decide +kernel
set_option maxRecDepth 100000 in
set_option maxHeartbeats 4000000 in
theorem wb_X11_digest_6 {E : xE} {ad : Nat → Nat} {p : Program} {l : Launch} {e : Env} {s : State} {m : MethodId} {args : Array Value} {below : List Frame} {meth : Method} {c : Code} {Q : State → Prop} (G : xG E p s m args meth c cX11_digest 5 RX11) (hA : ∀ a, s.heap.size ≤ a → xA ad s.heap.size a) (q1 : Nat) (hk_q1 : kd q1 = 9) (a2 : Int32) (b3 : Int64) (μ5 : xM) (K60 : Int64 → xM → Prop) (K6b : Int32 → Int64 → xM → Prop) (hq : B_X11_digest_6 q1 a2 b3 μ5 K60 K6b) {H : Heap} {locs : List Loc} {ls : Array Slot} (hH : xH E ad (xA ad s.heap.size) s.heap μ5 H locs) (hl : lv_has ls 5 [(0, .ref (ad q1)), (3, .int a2), (1, .long b3)]) (kK60 : ∀ (b6 : Int64) (μ7 : xM), K60 b6 μ7 → ∀ (H : Heap) (locs : List Loc) (ls : Array Slot), xH E ad (xA ad s.heap.size) s.heap μ7 H locs → lv_has ls 5 [(0, .ref (ad q1)), (1, .long b6)] → W p l e (headSpec tX11_digest ({ frames := 6, cells := 0, slots := 0, locals := 240 } : Room)).room s m args below meth c H locs 0 0 Q (F0 m 30 ls [])) (kK6b : ∀ (a8 : Int32) (b9 : Int64) (μ10 : xM), K6b a8 b9 μ10 → ∀ (H : Heap) (locs : List Loc) (ls : Array Slot), xH E ad (xA ad s.heap.size) s.heap μ10 H locs → lv_has ls 5 [(0, .ref (ad q1)), (3, .int a8), (1, .long b9)] → W p l e (headSpec tX11_digest ({ frames := 6, cells := 0, slots := 0, locals := 240 } : Room)).room s m args below meth c H locs 0 0 Q (F0 m 6 ls [])) : W p l e (headSpec tX11_digest ({ frames := 6, cells := 0, slots := 0, locals := 240 } : Room)).room s m args below meth c H locs 0 0 Q (F0 m 6 ls []) := by
  obtain ⟨hx, hb, hml, hown, hts, hKn, hN, hlk⟩ := id G
  unfold B_X11_digest_6 at hq
  refine lv_iload_n hx hb dX11_digest_6 rfl (lv_at hl 1 rfl) ?_
  refine lv_iconst (v := (5 : Int32)) hx hb dX11_digest_7 (by decide) ?_
  refine lv_icmp_gt (tgt := 30) hx hb dX11_digest_8 (by decide) (fun c11 => ?_) (fun c11 => ?_)
  · have hq := hq.1 c11
    exact kK60 b3 μ5 hq _ _ _ hH (lv_sub hl [0, 2] rfl)
  · have hq := hq.2 c11
    refine lv_ldc2 hx hb hown (hts _ (wm_37 _ (List.mem_of_getElem? (i := 5) rfl))) dX11_digest_11 ?_
    refine lv_lload_n hx hb dX11_digest_14 rfl (lv_at hl 2 rfl) ?_
    refine lv_lmul hx hb dX11_digest_15 ?_
    refine lv_aload_n hx hb dX11_digest_16 rfl (lv_at hl 0 rfl) ?_
    refine lv_iload_n hx hb dX11_digest_17 rfl (lv_at hl 1 rfl) ?_
    refine x_cVi (C := RX11) (T := TX11) (N := 8) (As := [.int a2]) (rest := [.long ((31 : Int64) * b3)]) G hH hA (c_X11_told l E ad μ5 q1 a2 hk_q1 _ hq) (wm_37 _ (List.mem_of_getElem? (i := 6) rfl)) mi_X11_told ms_X11_told mn_RX11 mc_X11_told rfl md_X11_told ⟨rfl, rfl, Nat.le_of_ble_eq_true rfl, Nat.le_of_ble_eq_true rfl⟩ hk_q1 (by decide) rfl rfl hl.1 rfl (Nat.le_of_ble_eq_true rfl) dX11_digest_18 ⟨Nat.zero_le _, Nat.zero_le _⟩ (fun r13 μ12 hq H locs hH => ?_)
    refine lv_i2l (v := (r13.toInt64)) hx hb dX11_digest_21 rfl ?_
    refine lv_ladd hx hb dX11_digest_22 ?_
    refine lv_topl (fun v14 e_v14 => ?_)
    have hq := hq v14 e_v14
    refine lv_lstore_n (lv' := [(1, .long v14), (0, .ref (ad q1)), (3, .int a2)]) hx hb dX11_digest_23 rfl hl (by decide) rfl (fun ls hl => ?_)
    obtain ⟨v15, e_v15⟩ : ∃ y : Int32, y = (a2 + (1 : Int32)) := ⟨_, rfl⟩
    have hq := hq v15 e_v15
    refine lv_iinc (v := v15) (lv' := [(3, .int v15), (1, .long v14), (0, .ref (ad q1))]) hx hb dX11_digest_24 hl (k := 2) rfl (by rw [e_v15]; rfl) (by decide) rfl (fun ls hl => ?_)
    refine lv_goto (tgt := 6) hx hb dX11_digest_27 (by decide) ?_
    exact kK6b v15 v14 μ12 hq _ _ _ hH (lv_sub hl [2, 0, 1] rfl)
set_option maxRecDepth 100000 in
set_option maxHeartbeats 4000000 in
theorem w_X11_digest_6 {E : xE} {ad : Nat → Nat} {p : Program} {l : Launch} {e : Env} {s : State} {m : MethodId} {args : Array Value} {below : List Frame} {meth : Method} {c : Code} {Q : State → Prop} (G : xG E p s m args meth c cX11_digest 5 RX11) (hA : ∀ a, s.heap.size ≤ a → xA ad s.heap.size a) (q1 : Nat) (hk_q1 : kd q1 = 9) : ∀ (n : Nat) (a2 : Int32) (b3 : Int64) (μ5 : xM) (K60 : Int64 → xM → Prop) (hq : L_X11_digest_6 q1 n a2 b3 μ5 K60) (H : Heap) (locs : List Loc) (ls : Array Slot) (hH : xH E ad (xA ad s.heap.size) s.heap μ5 H locs) (hl : lv_has ls 5 [(0, .ref (ad q1)), (3, .int a2), (1, .long b3)]) (kK60 : ∀ (b6 : Int64) (μ7 : xM), K60 b6 μ7 → ∀ (H : Heap) (locs : List Loc) (ls : Array Slot), xH E ad (xA ad s.heap.size) s.heap μ7 H locs → lv_has ls 5 [(0, .ref (ad q1)), (1, .long b6)] → W p l e (headSpec tX11_digest ({ frames := 6, cells := 0, slots := 0, locals := 240 } : Room)).room s m args below meth c H locs 0 0 Q (F0 m 30 ls [])) , W p l e (headSpec tX11_digest ({ frames := 6, cells := 0, slots := 0, locals := 240 } : Room)).room s m args below meth c H locs 0 0 Q (F0 m 6 ls [])
  | 0, _, _, _, _, hq, _, _, _, _, _, _ => hq.elim
  | n + 1, a2, b3, μ5, K60, hq, H, locs, ls, hH, hl, kK60 => wb_X11_digest_6 G hA q1 hk_q1 a2 b3 μ5 K60 _ hq hH hl kK60 (fun x0 x1 y hq H locs ls hH hl => w_X11_digest_6 G hA q1 hk_q1 n x0 x1 y K60 hq H locs ls hH hl kK60)
set_option maxRecDepth 100000 in
set_option maxHeartbeats 4000000 in
theorem wb_X11_digest_49 {E : xE} {ad : Nat → Nat} {p : Program} {l : Launch} {e : Env} {s : State} {m : MethodId} {args : Array Value} {below : List Frame} {meth : Method} {c : Code} {Q : State → Prop} (G : xG E p s m args meth c cX11_digest 5 RX11) (hA : ∀ a, s.heap.size ≤ a → xA ad s.heap.size a) (q29 : Nat) (a30 : Int32) (hk_q29 : kd q29 = 9) (a31 : Int32) (b32 : Int64) (μ34 : xM) (K490 : Int64 → xM → Prop) (K49b : Int32 → Int64 → xM → Prop) (hq : B_X11_digest_49 q29 a30 a31 b32 μ34 K490 K49b) {H : Heap} {locs : List Loc} {ls : Array Slot} (hH : xH E ad (xA ad s.heap.size) s.heap μ34 H locs) (hl : lv_has ls 5 [(0, .ref (ad q29)), (3, .int a30), (4, .int a31), (1, .long b32)]) (kK490 : ∀ (b35 : Int64) (μ36 : xM), K490 b35 μ36 → ∀ (H : Heap) (locs : List Loc) (ls : Array Slot), xH E ad (xA ad s.heap.size) s.heap μ36 H locs → lv_has ls 5 [(0, .ref (ad q29)), (3, .int a30), (1, .long b35)] → W p l e (headSpec tX11_digest ({ frames := 6, cells := 0, slots := 0, locals := 240 } : Room)).room s m args below meth c H locs 0 0 Q (F0 m 77 ls [])) (kK49b : ∀ (a37 : Int32) (b38 : Int64) (μ39 : xM), K49b a37 b38 μ39 → ∀ (H : Heap) (locs : List Loc) (ls : Array Slot), xH E ad (xA ad s.heap.size) s.heap μ39 H locs → lv_has ls 5 [(0, .ref (ad q29)), (3, .int a30), (4, .int a37), (1, .long b38)] → W p l e (headSpec tX11_digest ({ frames := 6, cells := 0, slots := 0, locals := 240 } : Room)).room s m args below meth c H locs 0 0 Q (F0 m 49 ls [])) : W p l e (headSpec tX11_digest ({ frames := 6, cells := 0, slots := 0, locals := 240 } : Room)).room s m args below meth c H locs 0 0 Q (F0 m 49 ls []) := by
  obtain ⟨hx, hb, hml, hown, hts, hKn, hN, hlk⟩ := id G
  unfold B_X11_digest_49 at hq
  refine lv_iload hx hb dX11_digest_49 (lv_at hl 2 rfl) ?_
  refine lv_bipush (v := (7 : Int32)) hx hb dX11_digest_51 (by decide) ?_
  refine lv_icmp_gt (tgt := 77) hx hb dX11_digest_53 (by decide) (fun c40 => ?_) (fun c40 => ?_)
  · have hq := hq.1 c40
    exact kK490 b32 μ34 hq _ _ _ hH (lv_sub hl [0, 1, 3] rfl)
  · have hq := hq.2 c40
    refine lv_ldc2 hx hb hown (hts _ (wm_37 _ (List.mem_of_getElem? (i := 5) rfl))) dX11_digest_56 ?_
    refine lv_lload_n hx hb dX11_digest_59 rfl (lv_at hl 3 rfl) ?_
    refine lv_lmul hx hb dX11_digest_60 ?_
    refine lv_aload_n hx hb dX11_digest_61 rfl (lv_at hl 0 rfl) ?_
    refine lv_iload_n hx hb dX11_digest_62 rfl (lv_at hl 1 rfl) ?_
    refine lv_iload hx hb dX11_digest_63 (lv_at hl 2 rfl) ?_
    refine x_cVi (C := RX11) (T := TX11) (N := 8) (As := [.int a30, .int a31]) (rest := [.long ((31 : Int64) * b32)]) G hH hA (c_X11_of l E ad μ34 q29 a30 a31 hk_q29 _ hq) (wm_37 _ (List.mem_of_getElem? (i := 7) rfl)) mi_X11_of ms_X11_of mn_RX11 mc_X11_of rfl md_X11_of ⟨rfl, rfl, Nat.le_of_ble_eq_true rfl, Nat.le_of_ble_eq_true rfl⟩ hk_q29 (by decide) rfl rfl hl.1 rfl (Nat.le_of_ble_eq_true rfl) dX11_digest_65 ⟨Nat.zero_le _, Nat.zero_le _⟩ (fun r42 μ41 hq H locs hH => ?_)
    refine lv_i2l (v := (r42.toInt64)) hx hb dX11_digest_68 rfl ?_
    refine lv_ladd hx hb dX11_digest_69 ?_
    refine lv_topl (fun v43 e_v43 => ?_)
    have hq := hq v43 e_v43
    refine lv_lstore_n (lv' := [(1, .long v43), (0, .ref (ad q29)), (3, .int a30), (4, .int a31)]) hx hb dX11_digest_70 rfl hl (by decide) rfl (fun ls hl => ?_)
    obtain ⟨v44, e_v44⟩ : ∃ y : Int32, y = (a31 + (1 : Int32)) := ⟨_, rfl⟩
    have hq := hq v44 e_v44
    refine lv_iinc (v := v44) (lv' := [(4, .int v44), (1, .long v43), (0, .ref (ad q29)), (3, .int a30)]) hx hb dX11_digest_71 hl (k := 3) rfl (by rw [e_v44]; rfl) (by decide) rfl (fun ls hl => ?_)
    refine lv_goto (tgt := 49) hx hb dX11_digest_74 (by decide) ?_
    exact kK49b v44 v43 μ41 hq _ _ _ hH (lv_sub hl [2, 3, 0, 1] rfl)
set_option maxRecDepth 100000 in
set_option maxHeartbeats 4000000 in
theorem w_X11_digest_49 {E : xE} {ad : Nat → Nat} {p : Program} {l : Launch} {e : Env} {s : State} {m : MethodId} {args : Array Value} {below : List Frame} {meth : Method} {c : Code} {Q : State → Prop} (G : xG E p s m args meth c cX11_digest 5 RX11) (hA : ∀ a, s.heap.size ≤ a → xA ad s.heap.size a) (q29 : Nat) (a30 : Int32) (hk_q29 : kd q29 = 9) : ∀ (n : Nat) (a31 : Int32) (b32 : Int64) (μ34 : xM) (K490 : Int64 → xM → Prop) (hq : L_X11_digest_49 q29 a30 n a31 b32 μ34 K490) (H : Heap) (locs : List Loc) (ls : Array Slot) (hH : xH E ad (xA ad s.heap.size) s.heap μ34 H locs) (hl : lv_has ls 5 [(0, .ref (ad q29)), (3, .int a30), (4, .int a31), (1, .long b32)]) (kK490 : ∀ (b35 : Int64) (μ36 : xM), K490 b35 μ36 → ∀ (H : Heap) (locs : List Loc) (ls : Array Slot), xH E ad (xA ad s.heap.size) s.heap μ36 H locs → lv_has ls 5 [(0, .ref (ad q29)), (3, .int a30), (1, .long b35)] → W p l e (headSpec tX11_digest ({ frames := 6, cells := 0, slots := 0, locals := 240 } : Room)).room s m args below meth c H locs 0 0 Q (F0 m 77 ls [])) , W p l e (headSpec tX11_digest ({ frames := 6, cells := 0, slots := 0, locals := 240 } : Room)).room s m args below meth c H locs 0 0 Q (F0 m 49 ls [])
  | 0, _, _, _, _, hq, _, _, _, _, _, _ => hq.elim
  | n + 1, a31, b32, μ34, K490, hq, H, locs, ls, hH, hl, kK490 => wb_X11_digest_49 G hA q29 a30 hk_q29 a31 b32 μ34 K490 _ hq hH hl kK490 (fun x0 x1 y hq H locs ls hH hl => w_X11_digest_49 G hA q29 a30 hk_q29 n x0 x1 y K490 hq H locs ls hH hl kK490)
set_option maxRecDepth 100000 in
set_option maxHeartbeats 4000000 in
theorem wb_X11_digest_32 {E : xE} {ad : Nat → Nat} {p : Program} {l : Launch} {e : Env} {s : State} {m : MethodId} {args : Array Value} {below : List Frame} {meth : Method} {c : Code} {Q : State → Prop} (G : xG E p s m args meth c cX11_digest 5 RX11) (hA : ∀ a, s.heap.size ≤ a → xA ad s.heap.size a) (q18 : Nat) (hk_q18 : kd q18 = 9) (a19 : Int32) (b20 : Int64) (μ22 : xM) (K320 : Int64 → xM → Prop) (K32b : Int32 → Int64 → xM → Prop) (hq : B_X11_digest_32 q18 a19 b20 μ22 K320 K32b) {H : Heap} {locs : List Loc} {ls : Array Slot} (hH : xH E ad (xA ad s.heap.size) s.heap μ22 H locs) (hl : lv_has ls 5 [(0, .ref (ad q18)), (3, .int a19), (1, .long b20)]) (kK320 : ∀ (b23 : Int64) (μ24 : xM), K320 b23 μ24 → ∀ (H : Heap) (locs : List Loc) (ls : Array Slot), xH E ad (xA ad s.heap.size) s.heap μ24 H locs → lv_has ls 5 [(0, .ref (ad q18)), (1, .long b23)] → W p l e (headSpec tX11_digest ({ frames := 6, cells := 0, slots := 0, locals := 240 } : Room)).room s m args below meth c H locs 0 0 Q (F0 m 83 ls [])) (kK32b : ∀ (a25 : Int32) (b26 : Int64) (μ27 : xM), K32b a25 b26 μ27 → ∀ (H : Heap) (locs : List Loc) (ls : Array Slot), xH E ad (xA ad s.heap.size) s.heap μ27 H locs → lv_has ls 5 [(0, .ref (ad q18)), (3, .int a25), (1, .long b26)] → W p l e (headSpec tX11_digest ({ frames := 6, cells := 0, slots := 0, locals := 240 } : Room)).room s m args below meth c H locs 0 0 Q (F0 m 32 ls [])) : W p l e (headSpec tX11_digest ({ frames := 6, cells := 0, slots := 0, locals := 240 } : Room)).room s m args below meth c H locs 0 0 Q (F0 m 32 ls []) := by
  obtain ⟨hx, hb, hml, hown, hts, hKn, hN, hlk⟩ := id G
  unfold B_X11_digest_32 at hq
  refine lv_iload_n hx hb dX11_digest_32 rfl (lv_at hl 1 rfl) ?_
  refine lv_aload_n hx hb dX11_digest_33 rfl (lv_at hl 0 rfl) ?_
  refine x_get (j := 0) (C := RX11) (T := TX11) (N := 8) (v := .ref (ad (rt q18 0))) G hH hk_q18 (by decide) rfl inlX11 (by decide) (wm_1 _ (List.mem_of_getElem? (i := 15) rfl)) rfl dX11_digest_34 ?_
  refine x_get (j := 0) (C := RX9) (T := TX9) (N := 3) (v := .ref (ad (rt (rt q18 0) 0))) G hH (kt_9_0 _ hk_q18) (by decide) rfl inlX9 (by decide) (wm_1 _ (List.mem_of_getElem? (i := 23) rfl)) rfl dX11_digest_37 ?_
  refine x_get (j := 0) (C := RX0) (T := TX0) (N := 9) (v := .int (μ22.1 (rt (rt q18 0) 0) 0)) G hH (kt_7_0 _ (kt_9_0 _ hk_q18)) (by decide) rfl inlX0 (by decide) (wm_7 _ (List.mem_of_getElem? (i := 19) rfl)) rfl dX11_digest_40 ?_
  refine lv_icmp_ge (tgt := 83) hx hb dX11_digest_43 (by decide) (fun c28 => ?_) (fun c28 => ?_)
  · have hq := hq.1 c28
    exact kK320 b20 μ22 hq _ _ _ hH (lv_sub hl [0, 2] rfl)
  · have hq := hq.2 c28
    refine lv_iconst (v := (0 : Int32)) hx hb dX11_digest_46 (by decide) ?_
    refine lv_istore (lv' := [(4, .int (0 : Int32)), (0, .ref (ad q18)), (3, .int a19), (1, .long b20)]) hx hb dX11_digest_47 hl (by decide) rfl (fun ls hl => ?_)
    obtain ⟨n33, hq⟩ := hq
    refine w_X11_digest_49 G hA q18 a19 hk_q18 n33 (0 : Int32) b20 μ22 _ hq _ _ _ hH (lv_sub hl [1, 2, 0, 3] rfl) (fun b45 μ46 hq H locs ls hH hl => ?_)
    obtain ⟨v47, e_v47⟩ : ∃ y : Int32, y = (a19 + (1 : Int32)) := ⟨_, rfl⟩
    have hq := hq v47 e_v47
    refine lv_iinc (v := v47) (lv' := [(3, .int v47), (0, .ref (ad q18)), (1, .long b45)]) hx hb dX11_digest_77 hl (k := 1) rfl (by rw [e_v47]; rfl) (by decide) rfl (fun ls hl => ?_)
    refine lv_goto (tgt := 32) hx hb dX11_digest_80 (by decide) ?_
    exact kK32b v47 b45 μ46 hq _ _ _ hH (lv_sub hl [1, 0, 2] rfl)
set_option maxRecDepth 100000 in
set_option maxHeartbeats 4000000 in
theorem w_X11_digest_32 {E : xE} {ad : Nat → Nat} {p : Program} {l : Launch} {e : Env} {s : State} {m : MethodId} {args : Array Value} {below : List Frame} {meth : Method} {c : Code} {Q : State → Prop} (G : xG E p s m args meth c cX11_digest 5 RX11) (hA : ∀ a, s.heap.size ≤ a → xA ad s.heap.size a) (q18 : Nat) (hk_q18 : kd q18 = 9) : ∀ (n : Nat) (a19 : Int32) (b20 : Int64) (μ22 : xM) (K320 : Int64 → xM → Prop) (hq : L_X11_digest_32 q18 n a19 b20 μ22 K320) (H : Heap) (locs : List Loc) (ls : Array Slot) (hH : xH E ad (xA ad s.heap.size) s.heap μ22 H locs) (hl : lv_has ls 5 [(0, .ref (ad q18)), (3, .int a19), (1, .long b20)]) (kK320 : ∀ (b23 : Int64) (μ24 : xM), K320 b23 μ24 → ∀ (H : Heap) (locs : List Loc) (ls : Array Slot), xH E ad (xA ad s.heap.size) s.heap μ24 H locs → lv_has ls 5 [(0, .ref (ad q18)), (1, .long b23)] → W p l e (headSpec tX11_digest ({ frames := 6, cells := 0, slots := 0, locals := 240 } : Room)).room s m args below meth c H locs 0 0 Q (F0 m 83 ls [])) , W p l e (headSpec tX11_digest ({ frames := 6, cells := 0, slots := 0, locals := 240 } : Room)).room s m args below meth c H locs 0 0 Q (F0 m 32 ls [])
  | 0, _, _, _, _, hq, _, _, _, _, _, _ => hq.elim
  | n + 1, a19, b20, μ22, K320, hq, H, locs, ls, hH, hl, kK320 => wb_X11_digest_32 G hA q18 hk_q18 a19 b20 μ22 K320 _ hq hH hl kK320 (fun x0 x1 y hq H locs ls hH hl => w_X11_digest_32 G hA q18 hk_q18 n x0 x1 y K320 hq H locs ls hH hl kK320)
set_option maxRecDepth 100000 in
set_option maxHeartbeats 4000000 in
theorem wb_X11_digest_85 {E : xE} {ad : Nat → Nat} {p : Program} {l : Launch} {e : Env} {s : State} {m : MethodId} {args : Array Value} {below : List Frame} {meth : Method} {c : Code} {Q : State → Prop} (G : xG E p s m args meth c cX11_digest 5 RX11) (hA : ∀ a, s.heap.size ≤ a → xA ad s.heap.size a) (q50 : Nat) (hk_q50 : kd q50 = 9) (a51 : Int32) (b52 : Int64) (μ54 : xM) (K850 : Int64 → xM → Prop) (K85b : Int32 → Int64 → xM → Prop) (hq : B_X11_digest_85 q50 a51 b52 μ54 K850 K85b) {H : Heap} {locs : List Loc} {ls : Array Slot} (hH : xH E ad (xA ad s.heap.size) s.heap μ54 H locs) (hl : lv_has ls 5 [(0, .ref (ad q50)), (3, .int a51), (1, .long b52)]) (kK850 : ∀ (b55 : Int64) (μ56 : xM), K850 b55 μ56 → ∀ (H : Heap) (locs : List Loc) (ls : Array Slot), xH E ad (xA ad s.heap.size) s.heap μ56 H locs → lv_has ls 5 [(0, .ref (ad q50)), (1, .long b55)] → W p l e (headSpec tX11_digest ({ frames := 6, cells := 0, slots := 0, locals := 240 } : Room)).room s m args below meth c H locs 0 0 Q (F0 m 116 ls [])) (kK85b : ∀ (a57 : Int32) (b58 : Int64) (μ59 : xM), K85b a57 b58 μ59 → ∀ (H : Heap) (locs : List Loc) (ls : Array Slot), xH E ad (xA ad s.heap.size) s.heap μ59 H locs → lv_has ls 5 [(0, .ref (ad q50)), (3, .int a57), (1, .long b58)] → W p l e (headSpec tX11_digest ({ frames := 6, cells := 0, slots := 0, locals := 240 } : Room)).room s m args below meth c H locs 0 0 Q (F0 m 85 ls [])) : W p l e (headSpec tX11_digest ({ frames := 6, cells := 0, slots := 0, locals := 240 } : Room)).room s m args below meth c H locs 0 0 Q (F0 m 85 ls []) := by
  obtain ⟨hx, hb, hml, hown, hts, hKn, hN, hlk⟩ := id G
  unfold B_X11_digest_85 at hq
  refine lv_iload_n hx hb dX11_digest_85 rfl (lv_at hl 1 rfl) ?_
  refine lv_bipush (v := (16 : Int32)) hx hb dX11_digest_86 (by decide) ?_
  refine lv_icmp_ge (tgt := 116) hx hb dX11_digest_88 (by decide) (fun c60 => ?_) (fun c60 => ?_)
  · have hq := hq.1 c60
    exact kK850 b52 μ54 hq _ _ _ hH (lv_sub hl [0, 2] rfl)
  · have hq := hq.2 c60
    refine lv_ldc2 hx hb hown (hts _ (wm_37 _ (List.mem_of_getElem? (i := 5) rfl))) dX11_digest_91 ?_
    refine lv_lload_n hx hb dX11_digest_94 rfl (lv_at hl 2 rfl) ?_
    refine lv_lmul hx hb dX11_digest_95 ?_
    refine lv_aload_n hx hb dX11_digest_96 rfl (lv_at hl 0 rfl) ?_
    refine x_get (j := 0) (C := RX11) (T := TX11) (N := 8) (v := .ref (ad (rt q50 0))) G hH hk_q50 (by decide) rfl inlX11 (by decide) (wm_1 _ (List.mem_of_getElem? (i := 15) rfl)) rfl dX11_digest_97 ?_
    refine x_get (j := 2) (C := RX9) (T := TX9) (N := 3) (v := .long (μ54.2 (rt q50 0) 2)) G hH (kt_9_0 _ hk_q50) (by decide) rfl inlX9 (by decide) (wm_15 _ (List.mem_of_getElem? (i := 0) rfl)) rfl dX11_digest_100 ?_
    refine lv_iload_n hx hb dX11_digest_103 rfl (lv_at hl 1 rfl) ?_
    refine x_cSi (As := [.long (μ54.2 (rt q50 0) 2), .int a51]) (rest := [.long ((31 : Int64) * b52)]) G hH hA (c_X1_nibble l E ad μ54 (μ54.2 (rt q50 0) 2) a51  _ hq) (wm_15 _ (List.mem_of_getElem? (i := 1) rfl)) mt_X1_nibble mn_RX1 mc_X1_nibble md_X1_nibble ⟨rfl, rfl, Nat.le_of_ble_eq_true rfl, Nat.le_of_ble_eq_true rfl⟩ rfl hl.1 rfl (Nat.le_of_ble_eq_true rfl) dX11_digest_104 ⟨Nat.zero_le _, Nat.zero_le _⟩ (fun r62 μ61 hq H locs hH => ?_)
    refine lv_i2l (v := (r62.toInt64)) hx hb dX11_digest_107 rfl ?_
    refine lv_ladd hx hb dX11_digest_108 ?_
    refine lv_topl (fun v63 e_v63 => ?_)
    have hq := hq v63 e_v63
    refine lv_lstore_n (lv' := [(1, .long v63), (0, .ref (ad q50)), (3, .int a51)]) hx hb dX11_digest_109 rfl hl (by decide) rfl (fun ls hl => ?_)
    obtain ⟨v64, e_v64⟩ : ∃ y : Int32, y = (a51 + (1 : Int32)) := ⟨_, rfl⟩
    have hq := hq v64 e_v64
    refine lv_iinc (v := v64) (lv' := [(3, .int v64), (1, .long v63), (0, .ref (ad q50))]) hx hb dX11_digest_110 hl (k := 2) rfl (by rw [e_v64]; rfl) (by decide) rfl (fun ls hl => ?_)
    refine lv_goto (tgt := 85) hx hb dX11_digest_113 (by decide) ?_
    exact kK85b v64 v63 μ61 hq _ _ _ hH (lv_sub hl [2, 0, 1] rfl)
set_option maxRecDepth 100000 in
set_option maxHeartbeats 4000000 in
theorem w_X11_digest_85 {E : xE} {ad : Nat → Nat} {p : Program} {l : Launch} {e : Env} {s : State} {m : MethodId} {args : Array Value} {below : List Frame} {meth : Method} {c : Code} {Q : State → Prop} (G : xG E p s m args meth c cX11_digest 5 RX11) (hA : ∀ a, s.heap.size ≤ a → xA ad s.heap.size a) (q50 : Nat) (hk_q50 : kd q50 = 9) : ∀ (n : Nat) (a51 : Int32) (b52 : Int64) (μ54 : xM) (K850 : Int64 → xM → Prop) (hq : L_X11_digest_85 q50 n a51 b52 μ54 K850) (H : Heap) (locs : List Loc) (ls : Array Slot) (hH : xH E ad (xA ad s.heap.size) s.heap μ54 H locs) (hl : lv_has ls 5 [(0, .ref (ad q50)), (3, .int a51), (1, .long b52)]) (kK850 : ∀ (b55 : Int64) (μ56 : xM), K850 b55 μ56 → ∀ (H : Heap) (locs : List Loc) (ls : Array Slot), xH E ad (xA ad s.heap.size) s.heap μ56 H locs → lv_has ls 5 [(0, .ref (ad q50)), (1, .long b55)] → W p l e (headSpec tX11_digest ({ frames := 6, cells := 0, slots := 0, locals := 240 } : Room)).room s m args below meth c H locs 0 0 Q (F0 m 116 ls [])) , W p l e (headSpec tX11_digest ({ frames := 6, cells := 0, slots := 0, locals := 240 } : Room)).room s m args below meth c H locs 0 0 Q (F0 m 85 ls [])
  | 0, _, _, _, _, hq, _, _, _, _, _, _ => hq.elim
  | n + 1, a51, b52, μ54, K850, hq, H, locs, ls, hH, hl, kK850 => wb_X11_digest_85 G hA q50 hk_q50 a51 b52 μ54 K850 _ hq hH hl kK850 (fun x0 x1 y hq H locs ls hH hl => w_X11_digest_85 G hA q50 hk_q50 n x0 x1 y K850 hq H locs ls hH hl kK850)
set_option maxRecDepth 100000 in
set_option maxHeartbeats 4000000 in
theorem wb_X11_digest_130 {E : xE} {ad : Nat → Nat} {p : Program} {l : Launch} {e : Env} {s : State} {m : MethodId} {args : Array Value} {below : List Frame} {meth : Method} {c : Code} {Q : State → Prop} (G : xG E p s m args meth c cX11_digest 5 RX11) (hA : ∀ a, s.heap.size ≤ a → xA ad s.heap.size a) (q70 : Nat) (hk_q70 : kd q70 = 9) (a71 : Int32) (b72 : Int64) (μ74 : xM) (K1300 : Int64 → xM → Prop) (K130b : Int32 → Int64 → xM → Prop) (hq : B_X11_digest_130 q70 a71 b72 μ74 K1300 K130b) {H : Heap} {locs : List Loc} {ls : Array Slot} (hH : xH E ad (xA ad s.heap.size) s.heap μ74 H locs) (hl : lv_has ls 5 [(0, .ref (ad q70)), (3, .int a71), (1, .long b72)]) (kK1300 : ∀ (b75 : Int64) (μ76 : xM), K1300 b75 μ76 → ∀ (H : Heap) (locs : List Loc) (ls : Array Slot), xH E ad (xA ad s.heap.size) s.heap μ76 H locs → lv_has ls 5 [(0, .ref (ad q70)), (1, .long b75)] → W p l e (headSpec tX11_digest ({ frames := 6, cells := 0, slots := 0, locals := 240 } : Room)).room s m args below meth c H locs 0 0 Q (F0 m 155 ls [])) (kK130b : ∀ (a77 : Int32) (b78 : Int64) (μ79 : xM), K130b a77 b78 μ79 → ∀ (H : Heap) (locs : List Loc) (ls : Array Slot), xH E ad (xA ad s.heap.size) s.heap μ79 H locs → lv_has ls 5 [(0, .ref (ad q70)), (3, .int a77), (1, .long b78)] → W p l e (headSpec tX11_digest ({ frames := 6, cells := 0, slots := 0, locals := 240 } : Room)).room s m args below meth c H locs 0 0 Q (F0 m 130 ls [])) : W p l e (headSpec tX11_digest ({ frames := 6, cells := 0, slots := 0, locals := 240 } : Room)).room s m args below meth c H locs 0 0 Q (F0 m 130 ls []) := by
  obtain ⟨hx, hb, hml, hown, hts, hKn, hN, hlk⟩ := id G
  unfold B_X11_digest_130 at hq
  refine lv_iload_n hx hb dX11_digest_130 rfl (lv_at hl 1 rfl) ?_
  refine lv_bipush (v := (6 : Int32)) hx hb dX11_digest_131 (by decide) ?_
  refine lv_icmp_gt (tgt := 155) hx hb dX11_digest_133 (by decide) (fun c80 => ?_) (fun c80 => ?_)
  · have hq := hq.1 c80
    exact kK1300 b72 μ74 hq _ _ _ hH (lv_sub hl [0, 2] rfl)
  · have hq := hq.2 c80
    refine lv_ldc2 hx hb hown (hts _ (wm_37 _ (List.mem_of_getElem? (i := 5) rfl))) dX11_digest_136 ?_
    refine lv_lload_n hx hb dX11_digest_139 rfl (lv_at hl 2 rfl) ?_
    refine lv_lmul hx hb dX11_digest_140 ?_
    refine lv_aload_n hx hb dX11_digest_141 rfl (lv_at hl 0 rfl) ?_
    refine lv_iload_n hx hb dX11_digest_142 rfl (lv_at hl 1 rfl) ?_
    refine x_cVi (C := RX11) (T := TX11) (N := 8) (As := [.int a71]) (rest := [.long ((31 : Int64) * b72)]) G hH hA (c_X11_hand l E ad μ74 q70 a71 hk_q70 _ hq) (wm_37 _ (List.mem_of_getElem? (i := 9) rfl)) mi_X11_hand ms_X11_hand mn_RX11 mc_X11_hand rfl md_X11_hand ⟨rfl, rfl, Nat.le_of_ble_eq_true rfl, Nat.le_of_ble_eq_true rfl⟩ hk_q70 (by decide) rfl rfl hl.1 rfl (Nat.le_of_ble_eq_true rfl) dX11_digest_143 ⟨Nat.zero_le _, Nat.zero_le _⟩ (fun r82 μ81 hq H locs hH => ?_)
    refine lv_i2l (v := (r82.toInt64)) hx hb dX11_digest_146 rfl ?_
    refine lv_ladd hx hb dX11_digest_147 ?_
    refine lv_topl (fun v83 e_v83 => ?_)
    have hq := hq v83 e_v83
    refine lv_lstore_n (lv' := [(1, .long v83), (0, .ref (ad q70)), (3, .int a71)]) hx hb dX11_digest_148 rfl hl (by decide) rfl (fun ls hl => ?_)
    obtain ⟨v84, e_v84⟩ : ∃ y : Int32, y = (a71 + (1 : Int32)) := ⟨_, rfl⟩
    have hq := hq v84 e_v84
    refine lv_iinc (v := v84) (lv' := [(3, .int v84), (1, .long v83), (0, .ref (ad q70))]) hx hb dX11_digest_149 hl (k := 2) rfl (by rw [e_v84]; rfl) (by decide) rfl (fun ls hl => ?_)
    refine lv_goto (tgt := 130) hx hb dX11_digest_152 (by decide) ?_
    exact kK130b v84 v83 μ81 hq _ _ _ hH (lv_sub hl [2, 0, 1] rfl)
set_option maxRecDepth 100000 in
set_option maxHeartbeats 4000000 in
theorem w_X11_digest_130 {E : xE} {ad : Nat → Nat} {p : Program} {l : Launch} {e : Env} {s : State} {m : MethodId} {args : Array Value} {below : List Frame} {meth : Method} {c : Code} {Q : State → Prop} (G : xG E p s m args meth c cX11_digest 5 RX11) (hA : ∀ a, s.heap.size ≤ a → xA ad s.heap.size a) (q70 : Nat) (hk_q70 : kd q70 = 9) : ∀ (n : Nat) (a71 : Int32) (b72 : Int64) (μ74 : xM) (K1300 : Int64 → xM → Prop) (hq : L_X11_digest_130 q70 n a71 b72 μ74 K1300) (H : Heap) (locs : List Loc) (ls : Array Slot) (hH : xH E ad (xA ad s.heap.size) s.heap μ74 H locs) (hl : lv_has ls 5 [(0, .ref (ad q70)), (3, .int a71), (1, .long b72)]) (kK1300 : ∀ (b75 : Int64) (μ76 : xM), K1300 b75 μ76 → ∀ (H : Heap) (locs : List Loc) (ls : Array Slot), xH E ad (xA ad s.heap.size) s.heap μ76 H locs → lv_has ls 5 [(0, .ref (ad q70)), (1, .long b75)] → W p l e (headSpec tX11_digest ({ frames := 6, cells := 0, slots := 0, locals := 240 } : Room)).room s m args below meth c H locs 0 0 Q (F0 m 155 ls [])) , W p l e (headSpec tX11_digest ({ frames := 6, cells := 0, slots := 0, locals := 240 } : Room)).room s m args below meth c H locs 0 0 Q (F0 m 130 ls [])
  | 0, _, _, _, _, hq, _, _, _, _, _, _ => hq.elim
  | n + 1, a71, b72, μ74, K1300, hq, H, locs, ls, hH, hl, kK1300 => wb_X11_digest_130 G hA q70 hk_q70 a71 b72 μ74 K1300 _ hq hH hl kK1300 (fun x0 x1 y hq H locs ls hH hl => w_X11_digest_130 G hA q70 hk_q70 n x0 x1 y K1300 hq H locs ls hH hl kK1300)
set_option maxRecDepth 100000 in
set_option maxHeartbeats 4000000 in
theorem wb_X11_digest_166 {E : xE} {ad : Nat → Nat} {p : Program} {l : Launch} {e : Env} {s : State} {m : MethodId} {args : Array Value} {below : List Frame} {meth : Method} {c : Code} {Q : State → Prop} (G : xG E p s m args meth c cX11_digest 5 RX11) (hA : ∀ a, s.heap.size ≤ a → xA ad s.heap.size a) (q98 : Nat) (a99 : Int32) (hk_q98 : kd q98 = 9) (a100 : Int32) (b101 : Int64) (μ103 : xM) (K1660 : Int64 → xM → Prop) (K166b : Int32 → Int64 → xM → Prop) (hq : B_X11_digest_166 q98 a99 a100 b101 μ103 K1660 K166b) {H : Heap} {locs : List Loc} {ls : Array Slot} (hH : xH E ad (xA ad s.heap.size) s.heap μ103 H locs) (hl : lv_has ls 5 [(0, .ref (ad q98)), (3, .int a99), (4, .int a100), (1, .long b101)]) (kK1660 : ∀ (b104 : Int64) (μ105 : xM), K1660 b104 μ105 → ∀ (H : Heap) (locs : List Loc) (ls : Array Slot), xH E ad (xA ad s.heap.size) s.heap μ105 H locs → lv_has ls 5 [(0, .ref (ad q98)), (3, .int a99), (1, .long b104)] → W p l e (headSpec tX11_digest ({ frames := 6, cells := 0, slots := 0, locals := 240 } : Room)).room s m args below meth c H locs 0 0 Q (F0 m 193 ls [])) (kK166b : ∀ (a106 : Int32) (b107 : Int64) (μ108 : xM), K166b a106 b107 μ108 → ∀ (H : Heap) (locs : List Loc) (ls : Array Slot), xH E ad (xA ad s.heap.size) s.heap μ108 H locs → lv_has ls 5 [(0, .ref (ad q98)), (3, .int a99), (4, .int a106), (1, .long b107)] → W p l e (headSpec tX11_digest ({ frames := 6, cells := 0, slots := 0, locals := 240 } : Room)).room s m args below meth c H locs 0 0 Q (F0 m 166 ls [])) : W p l e (headSpec tX11_digest ({ frames := 6, cells := 0, slots := 0, locals := 240 } : Room)).room s m args below meth c H locs 0 0 Q (F0 m 166 ls []) := by
  obtain ⟨hx, hb, hml, hown, hts, hKn, hN, hlk⟩ := id G
  unfold B_X11_digest_166 at hq
  refine lv_iload hx hb dX11_digest_166 (lv_at hl 2 rfl) ?_
  refine lv_iconst (v := (3 : Int32)) hx hb dX11_digest_168 (by decide) ?_
  refine lv_icmp_gt (tgt := 193) hx hb dX11_digest_169 (by decide) (fun c109 => ?_) (fun c109 => ?_)
  · have hq := hq.1 c109
    exact kK1660 b101 μ103 hq _ _ _ hH (lv_sub hl [0, 1, 3] rfl)
  · have hq := hq.2 c109
    refine lv_ldc2 hx hb hown (hts _ (wm_37 _ (List.mem_of_getElem? (i := 5) rfl))) dX11_digest_172 ?_
    refine lv_lload_n hx hb dX11_digest_175 rfl (lv_at hl 3 rfl) ?_
    refine lv_lmul hx hb dX11_digest_176 ?_
    refine lv_aload_n hx hb dX11_digest_177 rfl (lv_at hl 0 rfl) ?_
    refine lv_iload_n hx hb dX11_digest_178 rfl (lv_at hl 1 rfl) ?_
    refine lv_iload hx hb dX11_digest_179 (lv_at hl 2 rfl) ?_
    refine x_cVi (C := RX11) (T := TX11) (N := 8) (As := [.int a99, .int a100]) (rest := [.long ((31 : Int64) * b101)]) G hH hA (c_X11_cell l E ad μ103 q98 a99 a100 hk_q98 _ hq) (wm_37 _ (List.mem_of_getElem? (i := 10) rfl)) mi_X11_cell ms_X11_cell mn_RX11 mc_X11_cell rfl md_X11_cell ⟨rfl, rfl, Nat.le_of_ble_eq_true rfl, Nat.le_of_ble_eq_true rfl⟩ hk_q98 (by decide) rfl rfl hl.1 rfl (Nat.le_of_ble_eq_true rfl) dX11_digest_181 ⟨Nat.zero_le _, Nat.zero_le _⟩ (fun r111 μ110 hq H locs hH => ?_)
    refine lv_i2l (v := (r111.toInt64)) hx hb dX11_digest_184 rfl ?_
    refine lv_ladd hx hb dX11_digest_185 ?_
    refine lv_topl (fun v112 e_v112 => ?_)
    have hq := hq v112 e_v112
    refine lv_lstore_n (lv' := [(1, .long v112), (0, .ref (ad q98)), (3, .int a99), (4, .int a100)]) hx hb dX11_digest_186 rfl hl (by decide) rfl (fun ls hl => ?_)
    obtain ⟨v113, e_v113⟩ : ∃ y : Int32, y = (a100 + (1 : Int32)) := ⟨_, rfl⟩
    have hq := hq v113 e_v113
    refine lv_iinc (v := v113) (lv' := [(4, .int v113), (1, .long v112), (0, .ref (ad q98)), (3, .int a99)]) hx hb dX11_digest_187 hl (k := 3) rfl (by rw [e_v113]; rfl) (by decide) rfl (fun ls hl => ?_)
    refine lv_goto (tgt := 166) hx hb dX11_digest_190 (by decide) ?_
    exact kK166b v113 v112 μ110 hq _ _ _ hH (lv_sub hl [2, 3, 0, 1] rfl)
set_option maxRecDepth 100000 in
set_option maxHeartbeats 4000000 in
theorem w_X11_digest_166 {E : xE} {ad : Nat → Nat} {p : Program} {l : Launch} {e : Env} {s : State} {m : MethodId} {args : Array Value} {below : List Frame} {meth : Method} {c : Code} {Q : State → Prop} (G : xG E p s m args meth c cX11_digest 5 RX11) (hA : ∀ a, s.heap.size ≤ a → xA ad s.heap.size a) (q98 : Nat) (a99 : Int32) (hk_q98 : kd q98 = 9) : ∀ (n : Nat) (a100 : Int32) (b101 : Int64) (μ103 : xM) (K1660 : Int64 → xM → Prop) (hq : L_X11_digest_166 q98 a99 n a100 b101 μ103 K1660) (H : Heap) (locs : List Loc) (ls : Array Slot) (hH : xH E ad (xA ad s.heap.size) s.heap μ103 H locs) (hl : lv_has ls 5 [(0, .ref (ad q98)), (3, .int a99), (4, .int a100), (1, .long b101)]) (kK1660 : ∀ (b104 : Int64) (μ105 : xM), K1660 b104 μ105 → ∀ (H : Heap) (locs : List Loc) (ls : Array Slot), xH E ad (xA ad s.heap.size) s.heap μ105 H locs → lv_has ls 5 [(0, .ref (ad q98)), (3, .int a99), (1, .long b104)] → W p l e (headSpec tX11_digest ({ frames := 6, cells := 0, slots := 0, locals := 240 } : Room)).room s m args below meth c H locs 0 0 Q (F0 m 193 ls [])) , W p l e (headSpec tX11_digest ({ frames := 6, cells := 0, slots := 0, locals := 240 } : Room)).room s m args below meth c H locs 0 0 Q (F0 m 166 ls [])
  | 0, _, _, _, _, hq, _, _, _, _, _, _ => hq.elim
  | n + 1, a100, b101, μ103, K1660, hq, H, locs, ls, hH, hl, kK1660 => wb_X11_digest_166 G hA q98 a99 hk_q98 a100 b101 μ103 K1660 _ hq hH hl kK1660 (fun x0 x1 y hq H locs ls hH hl => w_X11_digest_166 G hA q98 a99 hk_q98 n x0 x1 y K1660 hq H locs ls hH hl kK1660)
set_option maxRecDepth 100000 in
set_option maxHeartbeats 4000000 in
theorem wb_X11_digest_157 {E : xE} {ad : Nat → Nat} {p : Program} {l : Launch} {e : Env} {s : State} {m : MethodId} {args : Array Value} {below : List Frame} {meth : Method} {c : Code} {Q : State → Prop} (G : xG E p s m args meth c cX11_digest 5 RX11) (hA : ∀ a, s.heap.size ≤ a → xA ad s.heap.size a) (q87 : Nat) (hk_q87 : kd q87 = 9) (a88 : Int32) (b89 : Int64) (μ91 : xM) (K1570 : Int64 → xM → Prop) (K157b : Int32 → Int64 → xM → Prop) (hq : B_X11_digest_157 q87 a88 b89 μ91 K1570 K157b) {H : Heap} {locs : List Loc} {ls : Array Slot} (hH : xH E ad (xA ad s.heap.size) s.heap μ91 H locs) (hl : lv_has ls 5 [(0, .ref (ad q87)), (3, .int a88), (1, .long b89)]) (kK1570 : ∀ (b92 : Int64) (μ93 : xM), K1570 b92 μ93 → ∀ (H : Heap) (locs : List Loc) (ls : Array Slot), xH E ad (xA ad s.heap.size) s.heap μ93 H locs → lv_has ls 5 [(0, .ref (ad q87)), (1, .long b92)] → W p l e (headSpec tX11_digest ({ frames := 6, cells := 0, slots := 0, locals := 240 } : Room)).room s m args below meth c H locs 0 0 Q (F0 m 199 ls [])) (kK157b : ∀ (a94 : Int32) (b95 : Int64) (μ96 : xM), K157b a94 b95 μ96 → ∀ (H : Heap) (locs : List Loc) (ls : Array Slot), xH E ad (xA ad s.heap.size) s.heap μ96 H locs → lv_has ls 5 [(0, .ref (ad q87)), (3, .int a94), (1, .long b95)] → W p l e (headSpec tX11_digest ({ frames := 6, cells := 0, slots := 0, locals := 240 } : Room)).room s m args below meth c H locs 0 0 Q (F0 m 157 ls [])) : W p l e (headSpec tX11_digest ({ frames := 6, cells := 0, slots := 0, locals := 240 } : Room)).room s m args below meth c H locs 0 0 Q (F0 m 157 ls []) := by
  obtain ⟨hx, hb, hml, hown, hts, hKn, hN, hlk⟩ := id G
  unfold B_X11_digest_157 at hq
  refine lv_iload_n hx hb dX11_digest_157 rfl (lv_at hl 1 rfl) ?_
  refine lv_bipush (v := (16 : Int32)) hx hb dX11_digest_158 (by decide) ?_
  refine lv_icmp_ge (tgt := 199) hx hb dX11_digest_160 (by decide) (fun c97 => ?_) (fun c97 => ?_)
  · have hq := hq.1 c97
    exact kK1570 b89 μ91 hq _ _ _ hH (lv_sub hl [0, 2] rfl)
  · have hq := hq.2 c97
    refine lv_iconst (v := (0 : Int32)) hx hb dX11_digest_163 (by decide) ?_
    refine lv_istore (lv' := [(4, .int (0 : Int32)), (0, .ref (ad q87)), (3, .int a88), (1, .long b89)]) hx hb dX11_digest_164 hl (by decide) rfl (fun ls hl => ?_)
    obtain ⟨n102, hq⟩ := hq
    refine w_X11_digest_166 G hA q87 a88 hk_q87 n102 (0 : Int32) b89 μ91 _ hq _ _ _ hH (lv_sub hl [1, 2, 0, 3] rfl) (fun b114 μ115 hq H locs ls hH hl => ?_)
    obtain ⟨v116, e_v116⟩ : ∃ y : Int32, y = (a88 + (1 : Int32)) := ⟨_, rfl⟩
    have hq := hq v116 e_v116
    refine lv_iinc (v := v116) (lv' := [(3, .int v116), (0, .ref (ad q87)), (1, .long b114)]) hx hb dX11_digest_193 hl (k := 1) rfl (by rw [e_v116]; rfl) (by decide) rfl (fun ls hl => ?_)
    refine lv_goto (tgt := 157) hx hb dX11_digest_196 (by decide) ?_
    exact kK157b v116 b114 μ115 hq _ _ _ hH (lv_sub hl [1, 0, 2] rfl)
set_option maxRecDepth 100000 in
set_option maxHeartbeats 4000000 in
theorem w_X11_digest_157 {E : xE} {ad : Nat → Nat} {p : Program} {l : Launch} {e : Env} {s : State} {m : MethodId} {args : Array Value} {below : List Frame} {meth : Method} {c : Code} {Q : State → Prop} (G : xG E p s m args meth c cX11_digest 5 RX11) (hA : ∀ a, s.heap.size ≤ a → xA ad s.heap.size a) (q87 : Nat) (hk_q87 : kd q87 = 9) : ∀ (n : Nat) (a88 : Int32) (b89 : Int64) (μ91 : xM) (K1570 : Int64 → xM → Prop) (hq : L_X11_digest_157 q87 n a88 b89 μ91 K1570) (H : Heap) (locs : List Loc) (ls : Array Slot) (hH : xH E ad (xA ad s.heap.size) s.heap μ91 H locs) (hl : lv_has ls 5 [(0, .ref (ad q87)), (3, .int a88), (1, .long b89)]) (kK1570 : ∀ (b92 : Int64) (μ93 : xM), K1570 b92 μ93 → ∀ (H : Heap) (locs : List Loc) (ls : Array Slot), xH E ad (xA ad s.heap.size) s.heap μ93 H locs → lv_has ls 5 [(0, .ref (ad q87)), (1, .long b92)] → W p l e (headSpec tX11_digest ({ frames := 6, cells := 0, slots := 0, locals := 240 } : Room)).room s m args below meth c H locs 0 0 Q (F0 m 199 ls [])) , W p l e (headSpec tX11_digest ({ frames := 6, cells := 0, slots := 0, locals := 240 } : Room)).room s m args below meth c H locs 0 0 Q (F0 m 157 ls [])
  | 0, _, _, _, _, hq, _, _, _, _, _, _ => hq.elim
  | n + 1, a88, b89, μ91, K1570, hq, H, locs, ls, hH, hl, kK1570 => wb_X11_digest_157 G hA q87 hk_q87 a88 b89 μ91 K1570 _ hq hH hl kK1570 (fun x0 x1 y hq H locs ls hH hl => w_X11_digest_157 G hA q87 hk_q87 n x0 x1 y K1570 hq H locs ls hH hl kK1570)
set_option maxRecDepth 100000 in
set_option maxHeartbeats 4000000 in
theorem wb_X11_digest_218 {E : xE} {ad : Nat → Nat} {p : Program} {l : Launch} {e : Env} {s : State} {m : MethodId} {args : Array Value} {below : List Frame} {meth : Method} {c : Code} {Q : State → Prop} (G : xG E p s m args meth c cX11_digest 5 RX11) (hA : ∀ a, s.heap.size ≤ a → xA ad s.heap.size a) (q130 : Nat) (a131 : Int32) (hk_q130 : kd q130 = 9) (a132 : Int32) (b133 : Int64) (μ135 : xM) (K2180 : Int64 → xM → Prop) (K218b : Int32 → Int64 → xM → Prop) (hq : B_X11_digest_218 q130 a131 a132 b133 μ135 K2180 K218b) {H : Heap} {locs : List Loc} {ls : Array Slot} (hH : xH E ad (xA ad s.heap.size) s.heap μ135 H locs) (hl : lv_has ls 5 [(0, .ref (ad q130)), (3, .int a131), (4, .int a132), (1, .long b133)]) (kK2180 : ∀ (b136 : Int64) (μ137 : xM), K2180 b136 μ137 → ∀ (H : Heap) (locs : List Loc) (ls : Array Slot), xH E ad (xA ad s.heap.size) s.heap μ137 H locs → lv_has ls 5 [(0, .ref (ad q130)), (3, .int a131), (1, .long b136)] → W p l e (headSpec tX11_digest ({ frames := 6, cells := 0, slots := 0, locals := 240 } : Room)).room s m args below meth c H locs 0 0 Q (F0 m 245 ls [])) (kK218b : ∀ (a138 : Int32) (b139 : Int64) (μ140 : xM), K218b a138 b139 μ140 → ∀ (H : Heap) (locs : List Loc) (ls : Array Slot), xH E ad (xA ad s.heap.size) s.heap μ140 H locs → lv_has ls 5 [(0, .ref (ad q130)), (3, .int a131), (4, .int a138), (1, .long b139)] → W p l e (headSpec tX11_digest ({ frames := 6, cells := 0, slots := 0, locals := 240 } : Room)).room s m args below meth c H locs 0 0 Q (F0 m 218 ls [])) : W p l e (headSpec tX11_digest ({ frames := 6, cells := 0, slots := 0, locals := 240 } : Room)).room s m args below meth c H locs 0 0 Q (F0 m 218 ls []) := by
  obtain ⟨hx, hb, hml, hown, hts, hKn, hN, hlk⟩ := id G
  unfold B_X11_digest_218 at hq
  refine lv_iload hx hb dX11_digest_218 (lv_at hl 2 rfl) ?_
  refine lv_iconst (v := (2 : Int32)) hx hb dX11_digest_220 (by decide) ?_
  refine lv_icmp_gt (tgt := 245) hx hb dX11_digest_221 (by decide) (fun c141 => ?_) (fun c141 => ?_)
  · have hq := hq.1 c141
    exact kK2180 b133 μ135 hq _ _ _ hH (lv_sub hl [0, 1, 3] rfl)
  · have hq := hq.2 c141
    refine lv_ldc2 hx hb hown (hts _ (wm_37 _ (List.mem_of_getElem? (i := 5) rfl))) dX11_digest_224 ?_
    refine lv_lload_n hx hb dX11_digest_227 rfl (lv_at hl 3 rfl) ?_
    refine lv_lmul hx hb dX11_digest_228 ?_
    refine lv_aload_n hx hb dX11_digest_229 rfl (lv_at hl 0 rfl) ?_
    refine lv_iload_n hx hb dX11_digest_230 rfl (lv_at hl 1 rfl) ?_
    refine lv_iload hx hb dX11_digest_231 (lv_at hl 2 rfl) ?_
    refine x_cVi (C := RX11) (T := TX11) (N := 8) (As := [.int a131, .int a132]) (rest := [.long ((31 : Int64) * b133)]) G hH hA (c_X11_print l E ad μ135 q130 a131 a132 hk_q130 _ hq) (wm_37 _ (List.mem_of_getElem? (i := 11) rfl)) mi_X11_print ms_X11_print mn_RX11 mc_X11_print rfl md_X11_print ⟨rfl, rfl, Nat.le_of_ble_eq_true rfl, Nat.le_of_ble_eq_true rfl⟩ hk_q130 (by decide) rfl rfl hl.1 rfl (Nat.le_of_ble_eq_true rfl) dX11_digest_233 ⟨Nat.zero_le _, Nat.zero_le _⟩ (fun r143 μ142 hq H locs hH => ?_)
    refine lv_i2l (v := (r143.toInt64)) hx hb dX11_digest_236 rfl ?_
    refine lv_ladd hx hb dX11_digest_237 ?_
    refine lv_topl (fun v144 e_v144 => ?_)
    have hq := hq v144 e_v144
    refine lv_lstore_n (lv' := [(1, .long v144), (0, .ref (ad q130)), (3, .int a131), (4, .int a132)]) hx hb dX11_digest_238 rfl hl (by decide) rfl (fun ls hl => ?_)
    obtain ⟨v145, e_v145⟩ : ∃ y : Int32, y = (a132 + (1 : Int32)) := ⟨_, rfl⟩
    have hq := hq v145 e_v145
    refine lv_iinc (v := v145) (lv' := [(4, .int v145), (1, .long v144), (0, .ref (ad q130)), (3, .int a131)]) hx hb dX11_digest_239 hl (k := 3) rfl (by rw [e_v145]; rfl) (by decide) rfl (fun ls hl => ?_)
    refine lv_goto (tgt := 218) hx hb dX11_digest_242 (by decide) ?_
    exact kK218b v145 v144 μ142 hq _ _ _ hH (lv_sub hl [2, 3, 0, 1] rfl)
set_option maxRecDepth 100000 in
set_option maxHeartbeats 4000000 in
theorem w_X11_digest_218 {E : xE} {ad : Nat → Nat} {p : Program} {l : Launch} {e : Env} {s : State} {m : MethodId} {args : Array Value} {below : List Frame} {meth : Method} {c : Code} {Q : State → Prop} (G : xG E p s m args meth c cX11_digest 5 RX11) (hA : ∀ a, s.heap.size ≤ a → xA ad s.heap.size a) (q130 : Nat) (a131 : Int32) (hk_q130 : kd q130 = 9) : ∀ (n : Nat) (a132 : Int32) (b133 : Int64) (μ135 : xM) (K2180 : Int64 → xM → Prop) (hq : L_X11_digest_218 q130 a131 n a132 b133 μ135 K2180) (H : Heap) (locs : List Loc) (ls : Array Slot) (hH : xH E ad (xA ad s.heap.size) s.heap μ135 H locs) (hl : lv_has ls 5 [(0, .ref (ad q130)), (3, .int a131), (4, .int a132), (1, .long b133)]) (kK2180 : ∀ (b136 : Int64) (μ137 : xM), K2180 b136 μ137 → ∀ (H : Heap) (locs : List Loc) (ls : Array Slot), xH E ad (xA ad s.heap.size) s.heap μ137 H locs → lv_has ls 5 [(0, .ref (ad q130)), (3, .int a131), (1, .long b136)] → W p l e (headSpec tX11_digest ({ frames := 6, cells := 0, slots := 0, locals := 240 } : Room)).room s m args below meth c H locs 0 0 Q (F0 m 245 ls [])) , W p l e (headSpec tX11_digest ({ frames := 6, cells := 0, slots := 0, locals := 240 } : Room)).room s m args below meth c H locs 0 0 Q (F0 m 218 ls [])
  | 0, _, _, _, _, hq, _, _, _, _, _, _ => hq.elim
  | n + 1, a132, b133, μ135, K2180, hq, H, locs, ls, hH, hl, kK2180 => wb_X11_digest_218 G hA q130 a131 hk_q130 a132 b133 μ135 K2180 _ hq hH hl kK2180 (fun x0 x1 y hq H locs ls hH hl => w_X11_digest_218 G hA q130 a131 hk_q130 n x0 x1 y K2180 hq H locs ls hH hl kK2180)
set_option maxRecDepth 100000 in
set_option maxHeartbeats 4000000 in
theorem wb_X11_digest_201 {E : xE} {ad : Nat → Nat} {p : Program} {l : Launch} {e : Env} {s : State} {m : MethodId} {args : Array Value} {below : List Frame} {meth : Method} {c : Code} {Q : State → Prop} (G : xG E p s m args meth c cX11_digest 5 RX11) (hA : ∀ a, s.heap.size ≤ a → xA ad s.heap.size a) (q119 : Nat) (hk_q119 : kd q119 = 9) (a120 : Int32) (b121 : Int64) (μ123 : xM) (K2010 : Int64 → xM → Prop) (K201b : Int32 → Int64 → xM → Prop) (hq : B_X11_digest_201 q119 a120 b121 μ123 K2010 K201b) {H : Heap} {locs : List Loc} {ls : Array Slot} (hH : xH E ad (xA ad s.heap.size) s.heap μ123 H locs) (hl : lv_has ls 5 [(0, .ref (ad q119)), (3, .int a120), (1, .long b121)]) (kK2010 : ∀ (b124 : Int64) (μ125 : xM), K2010 b124 μ125 → ∀ (H : Heap) (locs : List Loc) (ls : Array Slot), xH E ad (xA ad s.heap.size) s.heap μ125 H locs → lv_has ls 5 [(1, .long b124)] → W p l e (headSpec tX11_digest ({ frames := 6, cells := 0, slots := 0, locals := 240 } : Room)).room s m args below meth c H locs 0 0 Q (F0 m 251 ls [])) (kK201b : ∀ (a126 : Int32) (b127 : Int64) (μ128 : xM), K201b a126 b127 μ128 → ∀ (H : Heap) (locs : List Loc) (ls : Array Slot), xH E ad (xA ad s.heap.size) s.heap μ128 H locs → lv_has ls 5 [(0, .ref (ad q119)), (3, .int a126), (1, .long b127)] → W p l e (headSpec tX11_digest ({ frames := 6, cells := 0, slots := 0, locals := 240 } : Room)).room s m args below meth c H locs 0 0 Q (F0 m 201 ls [])) : W p l e (headSpec tX11_digest ({ frames := 6, cells := 0, slots := 0, locals := 240 } : Room)).room s m args below meth c H locs 0 0 Q (F0 m 201 ls []) := by
  obtain ⟨hx, hb, hml, hown, hts, hKn, hN, hlk⟩ := id G
  unfold B_X11_digest_201 at hq
  refine lv_iload_n hx hb dX11_digest_201 rfl (lv_at hl 1 rfl) ?_
  refine lv_aload_n hx hb dX11_digest_202 rfl (lv_at hl 0 rfl) ?_
  refine x_get (j := 0) (C := RX11) (T := TX11) (N := 8) (v := .ref (ad (rt q119 0))) G hH hk_q119 (by decide) rfl inlX11 (by decide) (wm_1 _ (List.mem_of_getElem? (i := 15) rfl)) rfl dX11_digest_203 ?_
  refine x_get (j := 1) (C := RX9) (T := TX9) (N := 3) (v := .ref (ad (rt (rt q119 0) 1))) G hH (kt_9_0 _ hk_q119) (by decide) rfl inlX9 (by decide) (wm_26 _ (List.mem_of_getElem? (i := 4) rfl)) rfl dX11_digest_206 ?_
  refine x_get (j := 2) (C := RX2) (T := TX2) (N := 7) (v := .int (μ123.1 (rt (rt q119 0) 1) 2)) G hH (kt_7_1 _ (kt_9_0 _ hk_q119)) (by decide) rfl inlX2 (by decide) (wm_26 _ (List.mem_of_getElem? (i := 9) rfl)) rfl dX11_digest_209 ?_
  refine lv_icmp_ge (tgt := 251) hx hb dX11_digest_212 (by decide) (fun c129 => ?_) (fun c129 => ?_)
  · have hq := hq.1 c129
    exact kK2010 b121 μ123 hq _ _ _ hH (lv_sub hl [2] rfl)
  · have hq := hq.2 c129
    refine lv_iconst (v := (0 : Int32)) hx hb dX11_digest_215 (by decide) ?_
    refine lv_istore (lv' := [(4, .int (0 : Int32)), (0, .ref (ad q119)), (3, .int a120), (1, .long b121)]) hx hb dX11_digest_216 hl (by decide) rfl (fun ls hl => ?_)
    obtain ⟨n134, hq⟩ := hq
    refine w_X11_digest_218 G hA q119 a120 hk_q119 n134 (0 : Int32) b121 μ123 _ hq _ _ _ hH (lv_sub hl [1, 2, 0, 3] rfl) (fun b146 μ147 hq H locs ls hH hl => ?_)
    obtain ⟨v148, e_v148⟩ : ∃ y : Int32, y = (a120 + (1 : Int32)) := ⟨_, rfl⟩
    have hq := hq v148 e_v148
    refine lv_iinc (v := v148) (lv' := [(3, .int v148), (0, .ref (ad q119)), (1, .long b146)]) hx hb dX11_digest_245 hl (k := 1) rfl (by rw [e_v148]; rfl) (by decide) rfl (fun ls hl => ?_)
    refine lv_goto (tgt := 201) hx hb dX11_digest_248 (by decide) ?_
    exact kK201b v148 b146 μ147 hq _ _ _ hH (lv_sub hl [1, 0, 2] rfl)
set_option maxRecDepth 100000 in
set_option maxHeartbeats 4000000 in
theorem w_X11_digest_201 {E : xE} {ad : Nat → Nat} {p : Program} {l : Launch} {e : Env} {s : State} {m : MethodId} {args : Array Value} {below : List Frame} {meth : Method} {c : Code} {Q : State → Prop} (G : xG E p s m args meth c cX11_digest 5 RX11) (hA : ∀ a, s.heap.size ≤ a → xA ad s.heap.size a) (q119 : Nat) (hk_q119 : kd q119 = 9) : ∀ (n : Nat) (a120 : Int32) (b121 : Int64) (μ123 : xM) (K2010 : Int64 → xM → Prop) (hq : L_X11_digest_201 q119 n a120 b121 μ123 K2010) (H : Heap) (locs : List Loc) (ls : Array Slot) (hH : xH E ad (xA ad s.heap.size) s.heap μ123 H locs) (hl : lv_has ls 5 [(0, .ref (ad q119)), (3, .int a120), (1, .long b121)]) (kK2010 : ∀ (b124 : Int64) (μ125 : xM), K2010 b124 μ125 → ∀ (H : Heap) (locs : List Loc) (ls : Array Slot), xH E ad (xA ad s.heap.size) s.heap μ125 H locs → lv_has ls 5 [(1, .long b124)] → W p l e (headSpec tX11_digest ({ frames := 6, cells := 0, slots := 0, locals := 240 } : Room)).room s m args below meth c H locs 0 0 Q (F0 m 251 ls [])) , W p l e (headSpec tX11_digest ({ frames := 6, cells := 0, slots := 0, locals := 240 } : Room)).room s m args below meth c H locs 0 0 Q (F0 m 201 ls [])
  | 0, _, _, _, _, hq, _, _, _, _, _, _ => hq.elim
  | n + 1, a120, b121, μ123, K2010, hq, H, locs, ls, hH, hl, kK2010 => wb_X11_digest_201 G hA q119 hk_q119 a120 b121 μ123 K2010 _ hq hH hl kK2010 (fun x0 x1 y hq H locs ls hH hl => w_X11_digest_201 G hA q119 hk_q119 n x0 x1 y K2010 hq H locs ls hH hl kK2010)
set_option maxRecDepth 100000 in
set_option maxHeartbeats 4000000 in
theorem c_X11_digest (l : Launch) (E : xE) (ad : Nat → Nat) (μ : xM) (q0 : Nat) (hk_q0 : kd q0 = 9) (Qm : Int64 → xM → Prop) (hq : p_X11_digest q0 μ Qm) : xMl l yX11_digest tX11_digest ({ frames := 6, cells := 0, slots := 0, locals := 240 } : Room) E ad μ [.ref (ad q0)] Qm := by
  refine x_stl (cc := cX11_digest) (maxL := 5) (ret := (some .long)) (own := RX11) rfl (by decide) rfl (Nat.le_of_ble_eq_true rfl) ?_
  intro p e s m args below meth c ls G hr hA hH hl
  obtain ⟨hx, hb, hml, hown, hts, hKn, hN, hlk⟩ := id G
  have hl : lv_has ls 5 [(0, .ref (ad q0))] := hl
  have hH : xH E ad (xA ad s.heap.size) s.heap μ s.heap [] := hH
  unfold p_X11_digest at hq
  refine lv_ldc2 hx hb hown (hts _ (wm_37 _ (List.mem_of_getElem? (i := 4) rfl))) dX11_digest_0 ?_
  refine lv_lstore_n (lv' := [(1, .long (2393 : Int64)), (0, .ref (ad q0))]) hx hb dX11_digest_3 rfl hl (by decide) rfl (fun ls hl => ?_)
  refine lv_iconst (v := (0 : Int32)) hx hb dX11_digest_4 (by decide) ?_
  refine lv_istore_n (lv' := [(3, .int (0 : Int32)), (1, .long (2393 : Int64)), (0, .ref (ad q0))]) hx hb dX11_digest_5 rfl hl (by decide) rfl (fun ls hl => ?_)
  obtain ⟨n4, hq⟩ := hq
  refine w_X11_digest_6 G hA q0 hk_q0 n4 (0 : Int32) (2393 : Int64) μ _ hq _ _ _ hH (lv_sub hl [2, 0, 1] rfl) (fun b16 μ17 hq H locs ls hH hl => ?_)
  refine lv_iconst (v := (0 : Int32)) hx hb dX11_digest_30 (by decide) ?_
  refine lv_istore_n (lv' := [(3, .int (0 : Int32)), (0, .ref (ad q0)), (1, .long b16)]) hx hb dX11_digest_31 rfl hl (by decide) rfl (fun ls hl => ?_)
  obtain ⟨n21, hq⟩ := hq
  refine w_X11_digest_32 G hA q0 hk_q0 n21 (0 : Int32) b16 μ17 _ hq _ _ _ hH (lv_sub hl [1, 0, 2] rfl) (fun b48 μ49 hq H locs ls hH hl => ?_)
  refine lv_iconst (v := (0 : Int32)) hx hb dX11_digest_83 (by decide) ?_
  refine lv_istore_n (lv' := [(3, .int (0 : Int32)), (0, .ref (ad q0)), (1, .long b48)]) hx hb dX11_digest_84 rfl hl (by decide) rfl (fun ls hl => ?_)
  obtain ⟨n53, hq⟩ := hq
  refine w_X11_digest_85 G hA q0 hk_q0 n53 (0 : Int32) b48 μ49 _ hq _ _ _ hH (lv_sub hl [1, 0, 2] rfl) (fun b65 μ66 hq H locs ls hH hl => ?_)
  refine lv_ldc2 hx hb hown (hts _ (wm_37 _ (List.mem_of_getElem? (i := 5) rfl))) dX11_digest_116 ?_
  refine lv_lload_n hx hb dX11_digest_119 rfl (lv_at hl 1 rfl) ?_
  refine lv_lmul hx hb dX11_digest_120 ?_
  refine lv_aload_n hx hb dX11_digest_121 rfl (lv_at hl 0 rfl) ?_
  refine x_cVi (C := RX11) (T := TX11) (N := 8) (As := []) (rest := [.long ((31 : Int64) * b65)]) G hH hA (c_X11_lawful l E ad μ66 q0 hk_q0 _ hq) (wm_37 _ (List.mem_of_getElem? (i := 8) rfl)) mi_X11_lawful ms_X11_lawful mn_RX11 mc_X11_lawful rfl md_X11_lawful ⟨rfl, rfl, Nat.le_of_ble_eq_true rfl, Nat.le_of_ble_eq_true rfl⟩ hk_q0 (by decide) rfl rfl hl.1 rfl (Nat.le_of_ble_eq_true rfl) dX11_digest_122 ⟨Nat.zero_le _, Nat.zero_le _⟩ (fun r68 μ67 hq H locs hH => ?_)
  refine lv_i2l (v := (r68.toInt64)) hx hb dX11_digest_125 rfl ?_
  refine lv_ladd hx hb dX11_digest_126 ?_
  refine lv_topl (fun v69 e_v69 => ?_)
  have hq := hq v69 e_v69
  refine lv_lstore_n (lv' := [(1, .long v69), (0, .ref (ad q0))]) hx hb dX11_digest_127 rfl hl (by decide) rfl (fun ls hl => ?_)
  refine lv_iconst (v := (0 : Int32)) hx hb dX11_digest_128 (by decide) ?_
  refine lv_istore_n (lv' := [(3, .int (0 : Int32)), (1, .long v69), (0, .ref (ad q0))]) hx hb dX11_digest_129 rfl hl (by decide) rfl (fun ls hl => ?_)
  obtain ⟨n73, hq⟩ := hq
  refine w_X11_digest_130 G hA q0 hk_q0 n73 (0 : Int32) v69 μ67 _ hq _ _ _ hH (lv_sub hl [2, 0, 1] rfl) (fun b85 μ86 hq H locs ls hH hl => ?_)
  refine lv_iconst (v := (0 : Int32)) hx hb dX11_digest_155 (by decide) ?_
  refine lv_istore_n (lv' := [(3, .int (0 : Int32)), (0, .ref (ad q0)), (1, .long b85)]) hx hb dX11_digest_156 rfl hl (by decide) rfl (fun ls hl => ?_)
  obtain ⟨n90, hq⟩ := hq
  refine w_X11_digest_157 G hA q0 hk_q0 n90 (0 : Int32) b85 μ86 _ hq _ _ _ hH (lv_sub hl [1, 0, 2] rfl) (fun b117 μ118 hq H locs ls hH hl => ?_)
  refine lv_iconst (v := (0 : Int32)) hx hb dX11_digest_199 (by decide) ?_
  refine lv_istore_n (lv' := [(3, .int (0 : Int32)), (0, .ref (ad q0)), (1, .long b117)]) hx hb dX11_digest_200 rfl hl (by decide) rfl (fun ls hl => ?_)
  obtain ⟨n122, hq⟩ := hq
  refine w_X11_digest_201 G hA q0 hk_q0 n122 (0 : Int32) b117 μ118 _ hq _ _ _ hH (lv_sub hl [1, 0, 2] rfl) (fun b149 μ150 hq H locs ls hH hl => ?_)
  refine lv_lload_n hx hb dX11_digest_251 rfl (lv_at hl 0 rfl) ?_
  exact x_lret G hr hH hq dX11_digest_252
abbrev tX11_whyNoShift : List Cond := Cond.code yX11_whyNoShift cX11_whyNoShift 4 (some .int) :: wsL_law
theorem mi_X11_whyNoShift : Cond.instanceMethod yX11_whyNoShift ∈ wsL_law := (wm_11 _ (List.mem_of_getElem? (i := 19) rfl))
theorem ms_X11_whyNoShift : Cond.selects RX11 yX11_whyNoShift yX11_whyNoShift ∈ wsL_law := (wm_11 _ (List.mem_of_getElem? (i := 20) rfl))
theorem mc_X11_whyNoShift : Cond.code yX11_whyNoShift cX11_whyNoShift 4 (some .int) ∈ wsL_law := (wm_11 _ (List.mem_of_getElem? (i := 21) rfl))
theorem md_X11_whyNoShift : yX11_whyNoShift.cls ≠ "java/lang/invoke/MethodHandle" ∧ yX11_whyNoShift.cls ≠ "java/lang/invoke/VarHandle" ∧ (parseMethodDescriptor yX11_whyNoShift.desc).map (fun d => d.parameters.length) = some 3 := by decide +kernel
set_option maxRecDepth 100000 in
set_option maxHeartbeats 4000000 in
theorem c_X11_whyNoShift (l : Launch) (E : xE) (ad : Nat → Nat) (μ : xM) (q0 : Nat) (p1 : Int32) (p2 : Int32) (p3 : Int32) (hk_q0 : kd q0 = 9) (Qm : Int32 → xM → Prop) (hq : p_X11_whyNoShift q0 p1 p2 p3 μ Qm) : xMi l yX11_whyNoShift tX11_whyNoShift ({ frames := 2, cells := 0, slots := 0, locals := 80 } : Room) E ad μ [.ref (ad q0), .int p1, .int p2, .int p3] Qm := by
  refine x_sti (cc := cX11_whyNoShift) (maxL := 4) (ret := (some .int)) (own := RX11) rfl (by decide) rfl (Nat.le_of_ble_eq_true rfl) ?_
  intro p e s m args below meth c ls G hr hA hH hl
  obtain ⟨hx, hb, hml, hown, hts, hKn, hN, hlk⟩ := id G
  have hl : lv_has ls 4 [(0, .ref (ad q0)), (1, .int p1), (2, .int p2), (3, .int p3)] := hl
  have hH : xH E ad (xA ad s.heap.size) s.heap μ s.heap [] := hH
  unfold p_X11_whyNoShift at hq
  refine lv_aload_n hx hb dX11_whyNoShift_0 rfl (lv_at hl 0 rfl) ?_
  refine x_get (j := 0) (C := RX11) (T := TX11) (N := 8) (v := .ref (ad (rt q0 0))) G hH hk_q0 (by decide) rfl inlX11 (by decide) (wm_1 _ (List.mem_of_getElem? (i := 15) rfl)) rfl dX11_whyNoShift_1 ?_
  refine x_get (j := 0) (C := RX9) (T := TX9) (N := 3) (v := .ref (ad (rt (rt q0 0) 0))) G hH (kt_9_0 _ hk_q0) (by decide) rfl inlX9 (by decide) (wm_1 _ (List.mem_of_getElem? (i := 23) rfl)) rfl dX11_whyNoShift_4 ?_
  refine lv_iload_n hx hb dX11_whyNoShift_7 rfl (lv_at hl 1 rfl) ?_
  refine x_cVi (C := RX0) (T := TX0) (N := 9) (As := [.int p1]) (rest := []) G hH hA (c_X0_has l E ad μ (rt (rt q0 0) 0) p1 (kt_7_0 _ (kt_9_0 _ hk_q0)) _ hq) (wm_11 _ (List.mem_of_getElem? (i := 22) rfl)) mi_X0_has ms_X0_has mn_RX0 mc_X0_has rfl md_X0_has ⟨rfl, rfl, Nat.le_of_ble_eq_true rfl, Nat.le_of_ble_eq_true rfl⟩ (kt_7_0 _ (kt_9_0 _ hk_q0)) (by decide) rfl rfl hl.1 rfl (Nat.le_of_ble_eq_true rfl) dX11_whyNoShift_8 ⟨Nat.zero_le _, Nat.zero_le _⟩ (fun r2 μ1 hq H locs hH => ?_)
  refine lv_if_ne (tgt := 17) hx hb dX11_whyNoShift_11 (by decide) (fun c3 => ?_) (fun c3 => ?_)
  · have hq := hq.1 c3
    refine lv_iload_n hx hb dX11_whyNoShift_17 rfl (lv_at hl 2 rfl) ?_
    refine lv_bipush (v := (-3 : Int32)) hx hb dX11_whyNoShift_18 (by decide) ?_
    refine lv_iconst (v := (3 : Int32)) hx hb dX11_whyNoShift_20 (by decide) ?_
    refine x_cSi (As := [.int p2, .int (-3 : Int32), .int (3 : Int32)]) (rest := []) G hH hA (c_X11_within l E ad μ1 p2 (-3 : Int32) (3 : Int32)  _ hq) (wm_7 _ (List.mem_of_getElem? (i := 20) rfl)) mt_X11_within mn_RX11 mc_X11_within md_X11_within ⟨rfl, rfl, Nat.le_of_ble_eq_true rfl, Nat.le_of_ble_eq_true rfl⟩ rfl hl.1 rfl (Nat.le_of_ble_eq_true rfl) dX11_whyNoShift_21 ⟨Nat.zero_le _, Nat.zero_le _⟩ (fun r5 μ4 hq H locs hH => ?_)
    refine lv_if_eq (tgt := 41) hx hb dX11_whyNoShift_24 (by decide) (fun c6 => ?_) (fun c6 => ?_)
    · have hq := hq.1 c6
      refine lv_bipush (v := (-2 : Int32)) hx hb dX11_whyNoShift_41 (by decide) ?_
      exact x_iret G hr hH hq dX11_whyNoShift_43
    · have hq := hq.2 c6
      refine lv_iload_n hx hb dX11_whyNoShift_27 rfl (lv_at hl 3 rfl) ?_
      refine lv_bipush (v := (-3 : Int32)) hx hb dX11_whyNoShift_28 (by decide) ?_
      refine lv_iconst (v := (3 : Int32)) hx hb dX11_whyNoShift_30 (by decide) ?_
      refine x_cSi (As := [.int p3, .int (-3 : Int32), .int (3 : Int32)]) (rest := []) G hH hA (c_X11_within l E ad μ4 p3 (-3 : Int32) (3 : Int32)  _ hq) (wm_7 _ (List.mem_of_getElem? (i := 20) rfl)) mt_X11_within mn_RX11 mc_X11_within md_X11_within ⟨rfl, rfl, Nat.le_of_ble_eq_true rfl, Nat.le_of_ble_eq_true rfl⟩ rfl hl.1 rfl (Nat.le_of_ble_eq_true rfl) dX11_whyNoShift_31 ⟨Nat.zero_le _, Nat.zero_le _⟩ (fun r8 μ7 hq H locs hH => ?_)
      refine lv_if_eq (tgt := 41) hx hb dX11_whyNoShift_34 (by decide) (fun c9 => ?_) (fun c9 => ?_)
      · have hq := hq.1 c9
        refine lv_bipush (v := (-2 : Int32)) hx hb dX11_whyNoShift_41 (by decide) ?_
        exact x_iret G hr hH hq dX11_whyNoShift_43
      · have hq := hq.2 c9
        refine lv_iconst (v := (0 : Int32)) hx hb dX11_whyNoShift_37 (by decide) ?_
        refine lv_goto (tgt := 43) hx hb dX11_whyNoShift_38 (by decide) ?_
        exact x_iret G hr hH hq dX11_whyNoShift_43
  · have hq := hq.2 c3
    refine lv_bipush (v := (-2 : Int32)) hx hb dX11_whyNoShift_14 (by decide) ?_
    exact x_iret G hr hH hq dX11_whyNoShift_16
abbrev tX2_printed : List Cond := Cond.code yX2_printed cX2_printed 3 (some .int) :: wsL_law
theorem mi_X2_printed : Cond.instanceMethod yX2_printed ∈ wsL_law := (wm_26 _ (List.mem_of_getElem? (i := 11) rfl))
theorem ms_X2_printed : Cond.selects RX2 yX2_printed yX2_printed ∈ wsL_law := (wm_26 _ (List.mem_of_getElem? (i := 12) rfl))
theorem mc_X2_printed : Cond.code yX2_printed cX2_printed 3 (some .int) ∈ wsL_law := (wm_26 _ (List.mem_of_getElem? (i := 13) rfl))
theorem md_X2_printed : yX2_printed.cls ≠ "java/lang/invoke/MethodHandle" ∧ yX2_printed.cls ≠ "java/lang/invoke/VarHandle" ∧ (parseMethodDescriptor yX2_printed.desc).map (fun d => d.parameters.length) = some 0 := by decide +kernel
set_option maxRecDepth 100000 in
set_option maxHeartbeats 4000000 in
theorem wb_X2_printed_4 {E : xE} {ad : Nat → Nat} {p : Program} {l : Launch} {e : Env} {s : State} {m : MethodId} {args : Array Value} {below : List Frame} {meth : Method} {c : Code} {Q : State → Prop} (G : xG E p s m args meth c cX2_printed 3 RX2) (hA : ∀ a, s.heap.size ≤ a → xA ad s.heap.size a) (q1 : Nat) (hk_q1 : kd q1 = 1) (a2 : Int32) (a3 : Int32) (μ5 : xM) (K40 : Int32 → xM → Prop) (K4b : Int32 → Int32 → xM → Prop) (hq : B_X2_printed_4 q1 a2 a3 μ5 K40 K4b) {H : Heap} {locs : List Loc} {ls : Array Slot} (hH : xH E ad (xA ad s.heap.size) s.heap μ5 H locs) (hl : lv_has ls 3 [(0, .ref (ad q1)), (2, .int a2), (1, .int a3)]) (kK40 : ∀ (a6 : Int32) (μ7 : xM), K40 a6 μ7 → ∀ (H : Heap) (locs : List Loc) (ls : Array Slot), xH E ad (xA ad s.heap.size) s.heap μ7 H locs → lv_has ls 3 [(1, .int a6)] → W p l e (headSpec tX2_printed ({ frames := 2, cells := 0, slots := 0, locals := 80 } : Room)).room s m args below meth c H locs 0 0 Q (F0 m 31 ls [])) (kK4b : ∀ (a8 : Int32) (a9 : Int32) (μ10 : xM), K4b a8 a9 μ10 → ∀ (H : Heap) (locs : List Loc) (ls : Array Slot), xH E ad (xA ad s.heap.size) s.heap μ10 H locs → lv_has ls 3 [(0, .ref (ad q1)), (2, .int a8), (1, .int a9)] → W p l e (headSpec tX2_printed ({ frames := 2, cells := 0, slots := 0, locals := 80 } : Room)).room s m args below meth c H locs 0 0 Q (F0 m 4 ls [])) : W p l e (headSpec tX2_printed ({ frames := 2, cells := 0, slots := 0, locals := 80 } : Room)).room s m args below meth c H locs 0 0 Q (F0 m 4 ls []) := by
  obtain ⟨hx, hb, hml, hown, hts, hKn, hN, hlk⟩ := id G
  unfold B_X2_printed_4 at hq
  refine lv_iload_n hx hb dX2_printed_4 rfl (lv_at hl 1 rfl) ?_
  refine lv_aload_n hx hb dX2_printed_5 rfl (lv_at hl 0 rfl) ?_
  refine x_get (j := 2) (C := RX2) (T := TX2) (N := 7) (v := .int (μ5.1 q1 2)) G hH hk_q1 (by decide) rfl inlX2 (by decide) (wm_3 _ (List.mem_of_getElem? (i := 21) rfl)) rfl dX2_printed_6 ?_
  refine lv_icmp_ge (tgt := 31) hx hb dX2_printed_9 (by decide) (fun c11 => ?_) (fun c11 => ?_)
  · have hq := hq.1 c11
    exact kK40 a3 μ5 hq _ _ _ hH (lv_sub hl [2] rfl)
  · have hq := hq.2 c11
    refine lv_iload_n hx hb dX2_printed_12 rfl (lv_at hl 2 rfl) ?_
    refine lv_iconst (v := (1 : Int32)) hx hb dX2_printed_13 (by decide) ?_
    refine lv_aload_n hx hb dX2_printed_14 rfl (lv_at hl 0 rfl) ?_
    refine x_get (j := 4) (C := RX2) (T := TX2) (N := 7) (v := .ref (ad (rt q1 4))) G hH hk_q1 (by decide) rfl inlX2 (by decide) (wm_3 _ (List.mem_of_getElem? (i := 23) rfl)) rfl dX2_printed_15 ?_
    refine lv_iload_n hx hb dX2_printed_18 rfl (lv_at hl 1 rfl) ?_
    refine x_cSi (As := [.ref (ad (rt q1 4)), .int a2]) (rest := [.int (1 : Int32), .int a3]) G hH hA (c_X5_at l E ad μ5 (rt q1 4) a2 (kt_1_4 _ hk_q1) _ hq) (wm_26 _ (List.mem_of_getElem? (i := 14) rfl)) mt_X5_at mn_RX5 mc_X5_at md_X5_at ⟨rfl, rfl, Nat.le_of_ble_eq_true rfl, Nat.le_of_ble_eq_true rfl⟩ rfl hl.1 rfl (Nat.le_of_ble_eq_true rfl) dX2_printed_19 ⟨Nat.zero_le _, Nat.zero_le _⟩ (fun r13 μ12 hq H locs hH => ?_)
    refine lv_ishl hx hb dX2_printed_22 ?_
    refine lv_ior hx hb dX2_printed_23 ?_
    refine lv_topi (fun v14 e_v14 => ?_)
    have hq := hq v14 e_v14
    refine lv_istore_n (lv' := [(1, .int v14), (0, .ref (ad q1)), (2, .int a2)]) hx hb dX2_printed_24 rfl hl (by decide) rfl (fun ls hl => ?_)
    obtain ⟨v15, e_v15⟩ : ∃ y : Int32, y = (a2 + (1 : Int32)) := ⟨_, rfl⟩
    have hq := hq v15 e_v15
    refine lv_iinc (v := v15) (lv' := [(2, .int v15), (1, .int v14), (0, .ref (ad q1))]) hx hb dX2_printed_25 hl (k := 2) rfl (by rw [e_v15]; rfl) (by decide) rfl (fun ls hl => ?_)
    refine lv_goto (tgt := 4) hx hb dX2_printed_28 (by decide) ?_
    exact kK4b v15 v14 μ12 hq _ _ _ hH (lv_sub hl [2, 0, 1] rfl)
set_option maxRecDepth 100000 in
set_option maxHeartbeats 4000000 in
theorem w_X2_printed_4 {E : xE} {ad : Nat → Nat} {p : Program} {l : Launch} {e : Env} {s : State} {m : MethodId} {args : Array Value} {below : List Frame} {meth : Method} {c : Code} {Q : State → Prop} (G : xG E p s m args meth c cX2_printed 3 RX2) (hA : ∀ a, s.heap.size ≤ a → xA ad s.heap.size a) (q1 : Nat) (hk_q1 : kd q1 = 1) : ∀ (n : Nat) (a2 : Int32) (a3 : Int32) (μ5 : xM) (K40 : Int32 → xM → Prop) (hq : L_X2_printed_4 q1 n a2 a3 μ5 K40) (H : Heap) (locs : List Loc) (ls : Array Slot) (hH : xH E ad (xA ad s.heap.size) s.heap μ5 H locs) (hl : lv_has ls 3 [(0, .ref (ad q1)), (2, .int a2), (1, .int a3)]) (kK40 : ∀ (a6 : Int32) (μ7 : xM), K40 a6 μ7 → ∀ (H : Heap) (locs : List Loc) (ls : Array Slot), xH E ad (xA ad s.heap.size) s.heap μ7 H locs → lv_has ls 3 [(1, .int a6)] → W p l e (headSpec tX2_printed ({ frames := 2, cells := 0, slots := 0, locals := 80 } : Room)).room s m args below meth c H locs 0 0 Q (F0 m 31 ls [])) , W p l e (headSpec tX2_printed ({ frames := 2, cells := 0, slots := 0, locals := 80 } : Room)).room s m args below meth c H locs 0 0 Q (F0 m 4 ls [])
  | 0, _, _, _, _, hq, _, _, _, _, _, _ => hq.elim
  | n + 1, a2, a3, μ5, K40, hq, H, locs, ls, hH, hl, kK40 => wb_X2_printed_4 G hA q1 hk_q1 a2 a3 μ5 K40 _ hq hH hl kK40 (fun x0 x1 y hq H locs ls hH hl => w_X2_printed_4 G hA q1 hk_q1 n x0 x1 y K40 hq H locs ls hH hl kK40)
set_option maxRecDepth 100000 in
set_option maxHeartbeats 4000000 in
theorem c_X2_printed (l : Launch) (E : xE) (ad : Nat → Nat) (μ : xM) (q0 : Nat) (hk_q0 : kd q0 = 1) (Qm : Int32 → xM → Prop) (hq : p_X2_printed q0 μ Qm) : xMi l yX2_printed tX2_printed ({ frames := 2, cells := 0, slots := 0, locals := 80 } : Room) E ad μ [.ref (ad q0)] Qm := by
  refine x_sti (cc := cX2_printed) (maxL := 3) (ret := (some .int)) (own := RX2) rfl (by decide) rfl (Nat.le_of_ble_eq_true rfl) ?_
  intro p e s m args below meth c ls G hr hA hH hl
  obtain ⟨hx, hb, hml, hown, hts, hKn, hN, hlk⟩ := id G
  have hl : lv_has ls 3 [(0, .ref (ad q0))] := hl
  have hH : xH E ad (xA ad s.heap.size) s.heap μ s.heap [] := hH
  unfold p_X2_printed at hq
  refine lv_iconst (v := (0 : Int32)) hx hb dX2_printed_0 (by decide) ?_
  refine lv_istore_n (lv' := [(1, .int (0 : Int32)), (0, .ref (ad q0))]) hx hb dX2_printed_1 rfl hl (by decide) rfl (fun ls hl => ?_)
  refine lv_iconst (v := (0 : Int32)) hx hb dX2_printed_2 (by decide) ?_
  refine lv_istore_n (lv' := [(2, .int (0 : Int32)), (1, .int (0 : Int32)), (0, .ref (ad q0))]) hx hb dX2_printed_3 rfl hl (by decide) rfl (fun ls hl => ?_)
  obtain ⟨n4, hq⟩ := hq
  refine w_X2_printed_4 G hA q0 hk_q0 n4 (0 : Int32) (0 : Int32) μ _ hq _ _ _ hH (lv_sub hl [2, 0, 1] rfl) (fun a16 μ17 hq H locs ls hH hl => ?_)
  refine lv_iload_n hx hb dX2_printed_31 rfl (lv_at hl 0 rfl) ?_
  exact x_iret G hr hH hq dX2_printed_32
abbrev tX11_whyNoPrint : List Cond := Cond.code yX11_whyNoPrint cX11_whyNoPrint 3 (some .int) :: wsL_law
theorem mi_X11_whyNoPrint : Cond.instanceMethod yX11_whyNoPrint ∈ wsL_law := (wm_26 _ (List.mem_of_getElem? (i := 6) rfl))
theorem ms_X11_whyNoPrint : Cond.selects RX11 yX11_whyNoPrint yX11_whyNoPrint ∈ wsL_law := (wm_26 _ (List.mem_of_getElem? (i := 7) rfl))
theorem mc_X11_whyNoPrint : Cond.code yX11_whyNoPrint cX11_whyNoPrint 3 (some .int) ∈ wsL_law := (wm_26 _ (List.mem_of_getElem? (i := 8) rfl))
theorem md_X11_whyNoPrint : yX11_whyNoPrint.cls ≠ "java/lang/invoke/MethodHandle" ∧ yX11_whyNoPrint.cls ≠ "java/lang/invoke/VarHandle" ∧ (parseMethodDescriptor yX11_whyNoPrint.desc).map (fun d => d.parameters.length) = some 2 := by decide +kernel
set_option maxRecDepth 100000 in
set_option maxHeartbeats 4000000 in
theorem c_X11_whyNoPrint (l : Launch) (E : xE) (ad : Nat → Nat) (μ : xM) (q0 : Nat) (p1 : Int32) (p2 : Int32) (hk_q0 : kd q0 = 9) (Qm : Int32 → xM → Prop) (hq : p_X11_whyNoPrint q0 p1 p2 μ Qm) : xMi l yX11_whyNoPrint tX11_whyNoPrint ({ frames := 3, cells := 0, slots := 0, locals := 120 } : Room) E ad μ [.ref (ad q0), .int p1, .int p2] Qm := by
  refine x_sti (cc := cX11_whyNoPrint) (maxL := 3) (ret := (some .int)) (own := RX11) rfl (by decide) rfl (Nat.le_of_ble_eq_true rfl) ?_
  intro p e s m args below meth c ls G hr hA hH hl
  obtain ⟨hx, hb, hml, hown, hts, hKn, hN, hlk⟩ := id G
  have hl : lv_has ls 3 [(0, .ref (ad q0)), (1, .int p1), (2, .int p2)] := hl
  have hH : xH E ad (xA ad s.heap.size) s.heap μ s.heap [] := hH
  unfold p_X11_whyNoPrint at hq
  refine lv_aload_n hx hb dX11_whyNoPrint_0 rfl (lv_at hl 0 rfl) ?_
  refine x_get (j := 0) (C := RX11) (T := TX11) (N := 8) (v := .ref (ad (rt q0 0))) G hH hk_q0 (by decide) rfl inlX11 (by decide) (wm_1 _ (List.mem_of_getElem? (i := 15) rfl)) rfl dX11_whyNoPrint_1 ?_
  refine x_get (j := 0) (C := RX9) (T := TX9) (N := 3) (v := .ref (ad (rt (rt q0 0) 0))) G hH (kt_9_0 _ hk_q0) (by decide) rfl inlX9 (by decide) (wm_1 _ (List.mem_of_getElem? (i := 23) rfl)) rfl dX11_whyNoPrint_4 ?_
  refine lv_iload_n hx hb dX11_whyNoPrint_7 rfl (lv_at hl 1 rfl) ?_
  refine x_cVi (C := RX0) (T := TX0) (N := 9) (As := [.int p1]) (rest := []) G hH hA (c_X0_has l E ad μ (rt (rt q0 0) 0) p1 (kt_7_0 _ (kt_9_0 _ hk_q0)) _ hq) (wm_11 _ (List.mem_of_getElem? (i := 22) rfl)) mi_X0_has ms_X0_has mn_RX0 mc_X0_has rfl md_X0_has ⟨rfl, rfl, Nat.le_of_ble_eq_true rfl, Nat.le_of_ble_eq_true rfl⟩ (kt_7_0 _ (kt_9_0 _ hk_q0)) (by decide) rfl rfl hl.1 rfl (Nat.le_of_ble_eq_true rfl) dX11_whyNoPrint_8 ⟨Nat.zero_le _, Nat.zero_le _⟩ (fun r2 μ1 hq H locs hH => ?_)
  refine lv_if_eq (tgt := 24) hx hb dX11_whyNoPrint_11 (by decide) (fun c3 => ?_) (fun c3 => ?_)
  · have hq := hq.1 c3
    refine lv_bipush (v := (-2 : Int32)) hx hb dX11_whyNoPrint_24 (by decide) ?_
    exact x_iret G hr hH hq dX11_whyNoPrint_26
  · have hq := hq.2 c3
    refine lv_iload_n hx hb dX11_whyNoPrint_14 rfl (lv_at hl 2 rfl) ?_
    refine lv_iconst (v := (0 : Int32)) hx hb dX11_whyNoPrint_15 (by decide) ?_
    refine lv_bipush (v := (9 : Int32)) hx hb dX11_whyNoPrint_16 (by decide) ?_
    refine x_cSi (As := [.int p2, .int (0 : Int32), .int (9 : Int32)]) (rest := []) G hH hA (c_X11_within l E ad μ1 p2 (0 : Int32) (9 : Int32)  _ hq) (wm_7 _ (List.mem_of_getElem? (i := 20) rfl)) mt_X11_within mn_RX11 mc_X11_within md_X11_within ⟨rfl, rfl, Nat.le_of_ble_eq_true rfl, Nat.le_of_ble_eq_true rfl⟩ rfl hl.1 rfl (Nat.le_of_ble_eq_true rfl) dX11_whyNoPrint_18 ⟨Nat.zero_le _, Nat.zero_le _⟩ (fun r5 μ4 hq H locs hH => ?_)
    refine lv_if_ne (tgt := 27) hx hb dX11_whyNoPrint_21 (by decide) (fun c6 => ?_) (fun c6 => ?_)
    · have hq := hq.1 c6
      refine lv_aload_n hx hb dX11_whyNoPrint_27 rfl (lv_at hl 0 rfl) ?_
      refine x_get (j := 0) (C := RX11) (T := TX11) (N := 8) (v := .ref (ad (rt q0 0))) G hH hk_q0 (by decide) rfl inlX11 (by decide) (wm_1 _ (List.mem_of_getElem? (i := 15) rfl)) rfl dX11_whyNoPrint_28 ?_
      refine x_get (j := 0) (C := RX9) (T := TX9) (N := 3) (v := .ref (ad (rt (rt q0 0) 0))) G hH (kt_9_0 _ hk_q0) (by decide) rfl inlX9 (by decide) (wm_1 _ (List.mem_of_getElem? (i := 23) rfl)) rfl dX11_whyNoPrint_31 ?_
      refine lv_iload_n hx hb dX11_whyNoPrint_34 rfl (lv_at hl 1 rfl) ?_
      refine lv_aload_n hx hb dX11_whyNoPrint_35 rfl (lv_at hl 0 rfl) ?_
      refine x_get (j := 0) (C := RX11) (T := TX11) (N := 8) (v := .ref (ad (rt q0 0))) G hH hk_q0 (by decide) rfl inlX11 (by decide) (wm_1 _ (List.mem_of_getElem? (i := 15) rfl)) rfl dX11_whyNoPrint_36 ?_
      refine x_get (j := 1) (C := RX9) (T := TX9) (N := 3) (v := .ref (ad (rt (rt q0 0) 1))) G hH (kt_9_0 _ hk_q0) (by decide) rfl inlX9 (by decide) (wm_26 _ (List.mem_of_getElem? (i := 4) rfl)) rfl dX11_whyNoPrint_39 ?_
      refine x_cVi (C := RX2) (T := TX2) (N := 7) (As := []) (rest := [.int p1, .ref (ad (rt (rt q0 0) 0))]) G hH hA (c_X2_printed l E ad μ4 (rt (rt q0 0) 1) (kt_7_1 _ (kt_9_0 _ hk_q0)) _ hq) (wm_26 _ (List.mem_of_getElem? (i := 10) rfl)) mi_X2_printed ms_X2_printed mn_RX2 mc_X2_printed rfl md_X2_printed ⟨rfl, rfl, Nat.le_of_ble_eq_true rfl, Nat.le_of_ble_eq_true rfl⟩ (kt_7_1 _ (kt_9_0 _ hk_q0)) (by decide) rfl rfl hl.1 rfl (Nat.le_of_ble_eq_true rfl) dX11_whyNoPrint_42 ⟨Nat.zero_le _, Nat.zero_le _⟩ (fun r8 μ7 hq H locs hH => ?_)
      refine x_cVi (C := RX0) (T := TX0) (N := 9) (As := [.int p1, .int r8]) (rest := []) G hH hA (c_X0_mayFollow l E ad μ7 (rt (rt q0 0) 0) p1 r8 (kt_7_0 _ (kt_9_0 _ hk_q0)) _ hq) (wm_26 _ (List.mem_of_getElem? (i := 15) rfl)) mi_X0_mayFollow ms_X0_mayFollow mn_RX0 mc_X0_mayFollow rfl md_X0_mayFollow ⟨rfl, rfl, Nat.le_of_ble_eq_true rfl, Nat.le_of_ble_eq_true rfl⟩ (kt_7_0 _ (kt_9_0 _ hk_q0)) (by decide) rfl rfl hl.1 rfl (Nat.le_of_ble_eq_true rfl) dX11_whyNoPrint_45 ⟨Nat.zero_le _, Nat.zero_le _⟩ (fun r10 μ9 hq H locs hH => ?_)
      refine lv_if_ne (tgt := 54) hx hb dX11_whyNoPrint_48 (by decide) (fun c11 => ?_) (fun c11 => ?_)
      · have hq := hq.1 c11
        refine lv_aload_n hx hb dX11_whyNoPrint_54 rfl (lv_at hl 0 rfl) ?_
        refine x_get (j := 0) (C := RX11) (T := TX11) (N := 8) (v := .ref (ad (rt q0 0))) G hH hk_q0 (by decide) rfl inlX11 (by decide) (wm_1 _ (List.mem_of_getElem? (i := 15) rfl)) rfl dX11_whyNoPrint_55 ?_
        refine x_get (j := 1) (C := RX9) (T := TX9) (N := 3) (v := .ref (ad (rt (rt q0 0) 1))) G hH (kt_9_0 _ hk_q0) (by decide) rfl inlX9 (by decide) (wm_26 _ (List.mem_of_getElem? (i := 4) rfl)) rfl dX11_whyNoPrint_58 ?_
        refine x_get (j := 2) (C := RX2) (T := TX2) (N := 7) (v := .int (μ9.1 (rt (rt q0 0) 1) 2)) G hH (kt_7_1 _ (kt_9_0 _ hk_q0)) (by decide) rfl inlX2 (by decide) (wm_26 _ (List.mem_of_getElem? (i := 9) rfl)) rfl dX11_whyNoPrint_61 ?_
        refine lv_bipush (v := (12 : Int32)) hx hb dX11_whyNoPrint_64 (by decide) ?_
        refine lv_icmp_lt (tgt := 74) hx hb dX11_whyNoPrint_66 (by decide) (fun c12 => ?_) (fun c12 => ?_)
        · have hq := hq.1 c12
          refine lv_iconst (v := (0 : Int32)) hx hb dX11_whyNoPrint_74 (by decide) ?_
          exact x_iret G hr hH hq dX11_whyNoPrint_75
        · have hq := hq.2 c12
          refine lv_bipush (v := (-4 : Int32)) hx hb dX11_whyNoPrint_69 (by decide) ?_
          refine lv_goto (tgt := 75) hx hb dX11_whyNoPrint_71 (by decide) ?_
          exact x_iret G hr hH hq dX11_whyNoPrint_75
      · have hq := hq.2 c11
        refine lv_bipush (v := (-3 : Int32)) hx hb dX11_whyNoPrint_51 (by decide) ?_
        exact x_iret G hr hH hq dX11_whyNoPrint_53
    · have hq := hq.2 c6
      refine lv_bipush (v := (-2 : Int32)) hx hb dX11_whyNoPrint_24 (by decide) ?_
      exact x_iret G hr hH hq dX11_whyNoPrint_26
