abbrev tX12_begin : List Cond := Cond.code yX12_begin cX12_begin 2 none :: wsL_law
theorem mi_X12_begin : Cond.instanceMethod yX12_begin ∈ wsL_law := (wm_18 _ (List.mem_of_getElem? (i := 13) rfl))
theorem ms_X12_begin : Cond.selects RX12 yX12_begin yX12_begin ∈ wsL_law := (wm_18 _ (List.mem_of_getElem? (i := 14) rfl))
theorem mc_X12_begin : Cond.code yX12_begin cX12_begin 2 none ∈ wsL_law := (wm_18 _ (List.mem_of_getElem? (i := 15) rfl))
theorem md_X12_begin : yX12_begin.cls ≠ "java/lang/invoke/MethodHandle" ∧ yX12_begin.cls ≠ "java/lang/invoke/VarHandle" ∧ (parseMethodDescriptor yX12_begin.desc).map (fun d => d.parameters.length) = some 0 := by decide +kernel
set_option maxRecDepth 100000 in
set_option maxHeartbeats 4000000 in
theorem wb_X12_begin_2 {E : xE} {ad : Nat → Nat} {p : Program} {l : Launch} {e : Env} {s : State} {m : MethodId} {args : Array Value} {below : List Frame} {meth : Method} {c : Code} {Q : State → Prop} (G : xG E p s m args meth c cX12_begin 2 RX12) (hA : ∀ a, s.heap.size ≤ a → xA ad s.heap.size a) (q1 : Nat) (hk_q1 : kd q1 = 10) (a2 : Int32) (μ4 : xM) (K20 : xM → Prop) (K2b : Int32 → xM → Prop) (hq : B_X12_begin_2 q1 a2 μ4 K20 K2b) {H : Heap} {locs : List Loc} {ls : Array Slot} (hH : xH E ad (xA ad s.heap.size) s.heap μ4 H locs) (hl : lv_has ls 2 [(0, .ref (ad q1)), (1, .int a2)]) (kK20 : ∀ (μ5 : xM), K20  μ5 → ∀ (H : Heap) (locs : List Loc) (ls : Array Slot), xH E ad (xA ad s.heap.size) s.heap μ5 H locs → lv_has ls 2 [] → W p l e (headSpec tX12_begin ({ frames := 4, cells := 0, slots := 0, locals := 160 } : Room)).room s m args below meth c H locs 0 0 Q (F0 m 46 ls [])) (kK2b : ∀ (a6 : Int32) (μ7 : xM), K2b a6 μ7 → ∀ (H : Heap) (locs : List Loc) (ls : Array Slot), xH E ad (xA ad s.heap.size) s.heap μ7 H locs → lv_has ls 2 [(0, .ref (ad q1)), (1, .int a6)] → W p l e (headSpec tX12_begin ({ frames := 4, cells := 0, slots := 0, locals := 160 } : Room)).room s m args below meth c H locs 0 0 Q (F0 m 2 ls [])) : W p l e (headSpec tX12_begin ({ frames := 4, cells := 0, slots := 0, locals := 160 } : Room)).room s m args below meth c H locs 0 0 Q (F0 m 2 ls []) := by
  obtain ⟨hx, hb, hml, hown, hts, hKn, hN, hlk⟩ := id G
  unfold B_X12_begin_2 at hq
  refine lv_iload_n hx hb dX12_begin_2 rfl (lv_at hl 1 rfl) ?_
  refine lv_bipush (v := (6 : Int32)) hx hb dX12_begin_3 (by decide) ?_
  refine lv_icmp_ge (tgt := 46) hx hb dX12_begin_5 (by decide) (fun c8 => ?_) (fun c8 => ?_)
  · have hq := hq.1 c8
    exact kK20  μ4 hq _ _ _ hH (lv_sub hl [] rfl)
  · have hq := hq.2 c8
    refine lv_aload_n hx hb dX12_begin_8 rfl (lv_at hl 0 rfl) ?_
    refine x_get (j := 8) (C := RX12) (T := TX12) (N := 24) (v := .ref (ad (rt q1 8))) G hH hk_q1 (by decide) rfl inlX12 (by decide) (wm_7 _ (List.mem_of_getElem? (i := 0) rfl)) rfl dX12_begin_9 ?_
    refine lv_iload_n hx hb dX12_begin_12 rfl (lv_at hl 1 rfl) ?_
    refine lv_iload_n hx hb dX12_begin_13 rfl (lv_at hl 1 rfl) ?_
    refine x_iast G hH (kt_10_8 _ hk_q1) hq.1 dX12_begin_14 (fun μ9 e_μ9 H locs hH => ?_)
    have hq := hq.2 μ9 e_μ9
    refine lv_aload_n hx hb dX12_begin_15 rfl (lv_at hl 0 rfl) ?_
    refine x_get (j := 12) (C := RX12) (T := TX12) (N := 24) (v := .ref (ad (rt q1 12))) G hH hk_q1 (by decide) rfl inlX12 (by decide) (wm_7 _ (List.mem_of_getElem? (i := 2) rfl)) rfl dX12_begin_16 ?_
    refine lv_iload_n hx hb dX12_begin_19 rfl (lv_at hl 1 rfl) ?_
    refine lv_iload_n hx hb dX12_begin_20 rfl (lv_at hl 1 rfl) ?_
    refine lv_aload_n hx hb dX12_begin_21 rfl (lv_at hl 0 rfl) ?_
    refine x_get (j := 0) (C := RX12) (T := TX12) (N := 24) (v := .ref (ad (rt q1 0))) G hH hk_q1 (by decide) rfl inlX12 (by decide) (wm_6 _ (List.mem_of_getElem? (i := 18) rfl)) rfl dX12_begin_22 ?_
    refine lv_iconst (v := (0 : Int32)) hx hb dX12_begin_25 (by decide) ?_
    refine x_iald G hH (kt_10_0 _ hk_q1) hq.1 dX12_begin_26 ?_
    have hq := hq.2
    refine lv_icmp_ge (tgt := 38) hx hb dX12_begin_27 (by decide) (fun c10 => ?_) (fun c10 => ?_)
    · have hq := hq.1 c10
      refine lv_iconst (v := (0 : Int32)) hx hb dX12_begin_38 (by decide) ?_
      refine x_iast G hH (kt_10_12 _ hk_q1) hq.1 dX12_begin_39 (fun μ11 e_μ11 H locs hH => ?_)
      have hq := hq.2 μ11 e_μ11
      obtain ⟨v12, e_v12⟩ : ∃ y : Int32, y = (a2 + (1 : Int32)) := ⟨_, rfl⟩
      have hq := hq v12 e_v12
      refine lv_iinc (v := v12) (lv' := [(1, .int v12), (0, .ref (ad q1))]) hx hb dX12_begin_40 hl (k := 1) rfl (by rw [e_v12]; rfl) (by decide) rfl (fun ls hl => ?_)
      refine lv_goto (tgt := 2) hx hb dX12_begin_43 (by decide) ?_
      exact kK2b v12 μ11 hq _ _ _ hH (lv_sub hl [1, 0] rfl)
    · have hq := hq.2 c10
      refine lv_aload_n hx hb dX12_begin_30 rfl (lv_at hl 0 rfl) ?_
      refine lv_iload_n hx hb dX12_begin_31 rfl (lv_at hl 1 rfl) ?_
      refine x_cVi (C := RX12) (T := TX12) (N := 24) (As := [.int a2]) (rest := [.int a2, .ref (ad (rt q1 12))]) G hH hA (c_X12_placeOf l E ad μ9 q1 a2 hk_q1 _ hq) (wm_13 _ (List.mem_of_getElem? (i := 2) rfl)) mi_X12_placeOf ms_X12_placeOf mn_RX12 mc_X12_placeOf rfl md_X12_placeOf ⟨rfl, rfl, Nat.le_of_ble_eq_true rfl, Nat.le_of_ble_eq_true rfl⟩ hk_q1 (by decide) rfl rfl hl.1 rfl (Nat.le_of_ble_eq_true rfl) dX12_begin_32 ⟨Nat.zero_le _, Nat.zero_le _⟩ (fun r14 μ13 hq H locs hH => ?_)
      refine lv_goto (tgt := 39) hx hb dX12_begin_35 (by decide) ?_
      refine x_iast G hH (kt_10_12 _ hk_q1) hq.1 dX12_begin_39 (fun μ15 e_μ15 H locs hH => ?_)
      have hq := hq.2 μ15 e_μ15
      obtain ⟨v16, e_v16⟩ : ∃ y : Int32, y = (a2 + (1 : Int32)) := ⟨_, rfl⟩
      have hq := hq v16 e_v16
      refine lv_iinc (v := v16) (lv' := [(1, .int v16), (0, .ref (ad q1))]) hx hb dX12_begin_40 hl (k := 1) rfl (by rw [e_v16]; rfl) (by decide) rfl (fun ls hl => ?_)
      refine lv_goto (tgt := 2) hx hb dX12_begin_43 (by decide) ?_
      exact kK2b v16 μ15 hq _ _ _ hH (lv_sub hl [1, 0] rfl)
set_option maxRecDepth 100000 in
set_option maxHeartbeats 4000000 in
theorem w_X12_begin_2 {E : xE} {ad : Nat → Nat} {p : Program} {l : Launch} {e : Env} {s : State} {m : MethodId} {args : Array Value} {below : List Frame} {meth : Method} {c : Code} {Q : State → Prop} (G : xG E p s m args meth c cX12_begin 2 RX12) (hA : ∀ a, s.heap.size ≤ a → xA ad s.heap.size a) (q1 : Nat) (hk_q1 : kd q1 = 10) : ∀ (n : Nat) (a2 : Int32) (μ4 : xM) (K20 : xM → Prop) (hq : L_X12_begin_2 q1 n a2 μ4 K20) (H : Heap) (locs : List Loc) (ls : Array Slot) (hH : xH E ad (xA ad s.heap.size) s.heap μ4 H locs) (hl : lv_has ls 2 [(0, .ref (ad q1)), (1, .int a2)]) (kK20 : ∀ (μ5 : xM), K20  μ5 → ∀ (H : Heap) (locs : List Loc) (ls : Array Slot), xH E ad (xA ad s.heap.size) s.heap μ5 H locs → lv_has ls 2 [] → W p l e (headSpec tX12_begin ({ frames := 4, cells := 0, slots := 0, locals := 160 } : Room)).room s m args below meth c H locs 0 0 Q (F0 m 46 ls [])) , W p l e (headSpec tX12_begin ({ frames := 4, cells := 0, slots := 0, locals := 160 } : Room)).room s m args below meth c H locs 0 0 Q (F0 m 2 ls [])
  | 0, _, _, _, hq, _, _, _, _, _, _ => hq.elim
  | n + 1, a2, μ4, K20, hq, H, locs, ls, hH, hl, kK20 => wb_X12_begin_2 G hA q1 hk_q1 a2 μ4 K20 _ hq hH hl kK20 (fun x0 y hq H locs ls hH hl => w_X12_begin_2 G hA q1 hk_q1 n x0 y K20 hq H locs ls hH hl kK20)
set_option maxRecDepth 100000 in
set_option maxHeartbeats 4000000 in
theorem c_X12_begin (l : Launch) (E : xE) (ad : Nat → Nat) (μ : xM) (q0 : Nat) (hk_q0 : kd q0 = 10) (Qm : xM → Prop) (hq : p_X12_begin q0 μ Qm) : xMv l yX12_begin tX12_begin ({ frames := 4, cells := 0, slots := 0, locals := 160 } : Room) E ad μ [.ref (ad q0)] Qm := by
  refine x_stv (cc := cX12_begin) (maxL := 2) (ret := none) (own := RX12) rfl (by decide) rfl (Nat.le_of_ble_eq_true rfl) ?_
  intro p e s m args below meth c ls G hr hA hH hl
  obtain ⟨hx, hb, hml, hown, hts, hKn, hN, hlk⟩ := id G
  have hl : lv_has ls 2 [(0, .ref (ad q0))] := hl
  have hH : xH E ad (xA ad s.heap.size) s.heap μ s.heap [] := hH
  unfold p_X12_begin at hq
  refine lv_iconst (v := (0 : Int32)) hx hb dX12_begin_0 (by decide) ?_
  refine lv_istore_n (lv' := [(1, .int (0 : Int32)), (0, .ref (ad q0))]) hx hb dX12_begin_1 rfl hl (by decide) rfl (fun ls hl => ?_)
  obtain ⟨n3, hq⟩ := hq
  refine w_X12_begin_2 G hA q0 hk_q0 n3 (0 : Int32) μ _ hq _ _ _ hH (lv_sub hl [1, 0] rfl) (fun  μ17 hq H locs ls hH hl => ?_)
  exact x_vret G hr hH hq dX12_begin_46
abbrev tX12_isLawful : List Cond := Cond.code yX12_isLawful cX12_isLawful 4 (some .boolean) :: wsL_law
theorem mi_X12_isLawful : Cond.instanceMethod yX12_isLawful ∈ wsL_law := (wm_18 _ (List.mem_of_getElem? (i := 17) rfl))
theorem ms_X12_isLawful : Cond.selects RX12 yX12_isLawful yX12_isLawful ∈ wsL_law := (wm_18 _ (List.mem_of_getElem? (i := 18) rfl))
theorem mc_X12_isLawful : Cond.code yX12_isLawful cX12_isLawful 4 (some .boolean) ∈ wsL_law := (wm_18 _ (List.mem_of_getElem? (i := 19) rfl))
theorem md_X12_isLawful : yX12_isLawful.cls ≠ "java/lang/invoke/MethodHandle" ∧ yX12_isLawful.cls ≠ "java/lang/invoke/VarHandle" ∧ (parseMethodDescriptor yX12_isLawful.desc).map (fun d => d.parameters.length) = some 0 := by decide +kernel
set_option maxRecDepth 100000 in
set_option maxHeartbeats 4000000 in
theorem wb_X12_isLawful_6 {E : xE} {ad : Nat → Nat} {p : Program} {l : Launch} {e : Env} {s : State} {m : MethodId} {args : Array Value} {below : List Frame} {meth : Method} {c : Code} {Q : State → Prop} (G : xG E p s m args meth c cX12_isLawful 4 RX12) (hA : ∀ a, s.heap.size ≤ a → xA ad s.heap.size a) (q1 : Nat) (hk_q1 : kd q1 = 10) (a2 : Int32) (a3 : Int32) (a4 : Int32) (μ6 : xM) (K60 : Int32 → xM → Prop) (K6b : Int32 → Int32 → Int32 → xM → Prop) (hq : B_X12_isLawful_6 q1 a2 a3 a4 μ6 K60 K6b) {H : Heap} {locs : List Loc} {ls : Array Slot} (hH : xH E ad (xA ad s.heap.size) s.heap μ6 H locs) (hl : lv_has ls 4 [(0, .ref (ad q1)), (3, .int a2), (2, .int a3), (1, .int a4)]) (kK60 : ∀ (a7 : Int32) (μ8 : xM), K60 a7 μ8 → ∀ (H : Heap) (locs : List Loc) (ls : Array Slot), xH E ad (xA ad s.heap.size) s.heap μ8 H locs → lv_has ls 4 [(2, .int a7)] → W p l e (headSpec tX12_isLawful ({ frames := 2, cells := 0, slots := 0, locals := 80 } : Room)).room s m args below meth c H locs 0 0 Q (F0 m 62 ls [])) (kK6b : ∀ (a9 : Int32) (a10 : Int32) (a11 : Int32) (μ12 : xM), K6b a9 a10 a11 μ12 → ∀ (H : Heap) (locs : List Loc) (ls : Array Slot), xH E ad (xA ad s.heap.size) s.heap μ12 H locs → lv_has ls 4 [(0, .ref (ad q1)), (3, .int a9), (2, .int a10), (1, .int a11)] → W p l e (headSpec tX12_isLawful ({ frames := 2, cells := 0, slots := 0, locals := 80 } : Room)).room s m args below meth c H locs 0 0 Q (F0 m 6 ls [])) : W p l e (headSpec tX12_isLawful ({ frames := 2, cells := 0, slots := 0, locals := 80 } : Room)).room s m args below meth c H locs 0 0 Q (F0 m 6 ls []) := by
  obtain ⟨hx, hb, hml, hown, hts, hKn, hN, hlk⟩ := id G
  unfold B_X12_isLawful_6 at hq
  refine lv_iload_n hx hb dX12_isLawful_6 rfl (lv_at hl 1 rfl) ?_
  refine lv_aload_n hx hb dX12_isLawful_7 rfl (lv_at hl 0 rfl) ?_
  refine x_get (j := 0) (C := RX12) (T := TX12) (N := 24) (v := .ref (ad (rt q1 0))) G hH hk_q1 (by decide) rfl inlX12 (by decide) (wm_6 _ (List.mem_of_getElem? (i := 18) rfl)) rfl dX12_isLawful_8 ?_
  refine lv_iconst (v := (0 : Int32)) hx hb dX12_isLawful_11 (by decide) ?_
  refine x_iald G hH (kt_10_0 _ hk_q1) hq.1 dX12_isLawful_12 ?_
  have hq := hq.2
  refine lv_icmp_ge (tgt := 62) hx hb dX12_isLawful_13 (by decide) (fun c13 => ?_) (fun c13 => ?_)
  · have hq := hq.1 c13
    exact kK60 a3 μ6 hq _ _ _ hH (lv_sub hl [2] rfl)
  · have hq := hq.2 c13
    refine lv_iload_n hx hb dX12_isLawful_16 rfl (lv_at hl 2 rfl) ?_
    refine lv_if_eq (tgt := 43) hx hb dX12_isLawful_17 (by decide) (fun c14 => ?_) (fun c14 => ?_)
    · have hq := hq.1 c14
      refine lv_iconst (v := (0 : Int32)) hx hb dX12_isLawful_43 (by decide) ?_
      refine lv_istore_n (lv' := [(2, .int (0 : Int32)), (0, .ref (ad q1)), (3, .int a2), (1, .int a4)]) hx hb dX12_isLawful_44 rfl hl (by decide) rfl (fun ls hl => ?_)
      refine lv_iload_n hx hb dX12_isLawful_45 rfl (lv_at hl 3 rfl) ?_
      refine lv_iconst (v := (1 : Int32)) hx hb dX12_isLawful_46 (by decide) ?_
      refine lv_aload_n hx hb dX12_isLawful_47 rfl (lv_at hl 1 rfl) ?_
      refine x_get (j := 8) (C := RX12) (T := TX12) (N := 24) (v := .ref (ad (rt q1 8))) G hH hk_q1 (by decide) rfl inlX12 (by decide) (wm_7 _ (List.mem_of_getElem? (i := 0) rfl)) rfl dX12_isLawful_48 ?_
      refine lv_iload_n hx hb dX12_isLawful_51 rfl (lv_at hl 2 rfl) ?_
      refine x_iald G hH (kt_10_8 _ hk_q1) hq.1 dX12_isLawful_52 ?_
      have hq := hq.2
      refine lv_ishl hx hb dX12_isLawful_53 ?_
      refine lv_ior hx hb dX12_isLawful_54 ?_
      refine lv_topi (fun v15 e_v15 => ?_)
      have hq := hq v15 e_v15
      refine lv_istore_n (lv' := [(1, .int v15), (2, .int (0 : Int32)), (0, .ref (ad q1)), (3, .int a2)]) hx hb dX12_isLawful_55 rfl hl (by decide) rfl (fun ls hl => ?_)
      obtain ⟨v16, e_v16⟩ : ∃ y : Int32, y = (a2 + (1 : Int32)) := ⟨_, rfl⟩
      have hq := hq v16 e_v16
      refine lv_iinc (v := v16) (lv' := [(3, .int v16), (1, .int v15), (2, .int (0 : Int32)), (0, .ref (ad q1))]) hx hb dX12_isLawful_56 hl (k := 3) rfl (by rw [e_v16]; rfl) (by decide) rfl (fun ls hl => ?_)
      refine lv_goto (tgt := 6) hx hb dX12_isLawful_59 (by decide) ?_
      exact kK6b v16 (0 : Int32) v15 μ6 hq _ _ _ hH (lv_sub hl [3, 0, 2, 1] rfl)
    · have hq := hq.2 c14
      refine lv_aload_n hx hb dX12_isLawful_20 rfl (lv_at hl 0 rfl) ?_
      refine lv_aload_n hx hb dX12_isLawful_21 rfl (lv_at hl 0 rfl) ?_
      refine x_get (j := 8) (C := RX12) (T := TX12) (N := 24) (v := .ref (ad (rt q1 8))) G hH hk_q1 (by decide) rfl inlX12 (by decide) (wm_7 _ (List.mem_of_getElem? (i := 0) rfl)) rfl dX12_isLawful_22 ?_
      refine lv_iload_n hx hb dX12_isLawful_25 rfl (lv_at hl 1 rfl) ?_
      refine x_iald G hH (kt_10_8 _ hk_q1) hq.1 dX12_isLawful_26 ?_
      have hq := hq.2
      refine lv_bipush (v := (6 : Int32)) hx hb dX12_isLawful_27 (by decide) ?_
      refine x_cVi (C := RX12) (T := TX12) (N := 24) (As := [.int (μ6.1 (rt q1 8) a2.toNatClampNeg), .int (6 : Int32)]) (rest := []) G hH hA (c_X12_ofBlock l E ad μ6 q1 (μ6.1 (rt q1 8) a2.toNatClampNeg) (6 : Int32) hk_q1 _ hq) (wm_13 _ (List.mem_of_getElem? (i := 6) rfl)) mi_X12_ofBlock ms_X12_ofBlock mn_RX12 mc_X12_ofBlock rfl md_X12_ofBlock ⟨rfl, rfl, Nat.le_of_ble_eq_true rfl, Nat.le_of_ble_eq_true rfl⟩ hk_q1 (by decide) rfl rfl hl.1 rfl (Nat.le_of_ble_eq_true rfl) dX12_isLawful_29 ⟨Nat.zero_le _, Nat.zero_le _⟩ (fun r18 μ17 hq H locs hH => ?_)
      refine lv_iload_n hx hb dX12_isLawful_32 rfl (lv_at hl 3 rfl) ?_
      refine lv_iconst (v := (-1 : Int32)) hx hb dX12_isLawful_33 (by decide) ?_
      refine lv_ixor hx hb dX12_isLawful_34 ?_
      refine lv_iand hx hb dX12_isLawful_35 ?_
      refine lv_if_ne (tgt := 43) hx hb dX12_isLawful_36 (by decide) (fun c19 => ?_) (fun c19 => ?_)
      · have hq := hq.1 c19
        refine lv_iconst (v := (0 : Int32)) hx hb dX12_isLawful_43 (by decide) ?_
        refine lv_istore_n (lv' := [(2, .int (0 : Int32)), (0, .ref (ad q1)), (3, .int a2), (1, .int a4)]) hx hb dX12_isLawful_44 rfl hl (by decide) rfl (fun ls hl => ?_)
        refine lv_iload_n hx hb dX12_isLawful_45 rfl (lv_at hl 3 rfl) ?_
        refine lv_iconst (v := (1 : Int32)) hx hb dX12_isLawful_46 (by decide) ?_
        refine lv_aload_n hx hb dX12_isLawful_47 rfl (lv_at hl 1 rfl) ?_
        refine x_get (j := 8) (C := RX12) (T := TX12) (N := 24) (v := .ref (ad (rt q1 8))) G hH hk_q1 (by decide) rfl inlX12 (by decide) (wm_7 _ (List.mem_of_getElem? (i := 0) rfl)) rfl dX12_isLawful_48 ?_
        refine lv_iload_n hx hb dX12_isLawful_51 rfl (lv_at hl 2 rfl) ?_
        refine x_iald G hH (kt_10_8 _ hk_q1) hq.1 dX12_isLawful_52 ?_
        have hq := hq.2
        refine lv_ishl hx hb dX12_isLawful_53 ?_
        refine lv_ior hx hb dX12_isLawful_54 ?_
        refine lv_topi (fun v20 e_v20 => ?_)
        have hq := hq v20 e_v20
        refine lv_istore_n (lv' := [(1, .int v20), (2, .int (0 : Int32)), (0, .ref (ad q1)), (3, .int a2)]) hx hb dX12_isLawful_55 rfl hl (by decide) rfl (fun ls hl => ?_)
        obtain ⟨v21, e_v21⟩ : ∃ y : Int32, y = (a2 + (1 : Int32)) := ⟨_, rfl⟩
        have hq := hq v21 e_v21
        refine lv_iinc (v := v21) (lv' := [(3, .int v21), (1, .int v20), (2, .int (0 : Int32)), (0, .ref (ad q1))]) hx hb dX12_isLawful_56 hl (k := 3) rfl (by rw [e_v21]; rfl) (by decide) rfl (fun ls hl => ?_)
        refine lv_goto (tgt := 6) hx hb dX12_isLawful_59 (by decide) ?_
        exact kK6b v21 (0 : Int32) v20 μ17 hq _ _ _ hH (lv_sub hl [3, 0, 2, 1] rfl)
      · have hq := hq.2 c19
        refine lv_iconst (v := (1 : Int32)) hx hb dX12_isLawful_39 (by decide) ?_
        refine lv_goto (tgt := 44) hx hb dX12_isLawful_40 (by decide) ?_
        refine lv_istore_n (lv' := [(2, .int (1 : Int32)), (0, .ref (ad q1)), (3, .int a2), (1, .int a4)]) hx hb dX12_isLawful_44 rfl hl (by decide) rfl (fun ls hl => ?_)
        refine lv_iload_n hx hb dX12_isLawful_45 rfl (lv_at hl 3 rfl) ?_
        refine lv_iconst (v := (1 : Int32)) hx hb dX12_isLawful_46 (by decide) ?_
        refine lv_aload_n hx hb dX12_isLawful_47 rfl (lv_at hl 1 rfl) ?_
        refine x_get (j := 8) (C := RX12) (T := TX12) (N := 24) (v := .ref (ad (rt q1 8))) G hH hk_q1 (by decide) rfl inlX12 (by decide) (wm_7 _ (List.mem_of_getElem? (i := 0) rfl)) rfl dX12_isLawful_48 ?_
        refine lv_iload_n hx hb dX12_isLawful_51 rfl (lv_at hl 2 rfl) ?_
        refine x_iald G hH (kt_10_8 _ hk_q1) hq.1 dX12_isLawful_52 ?_
        have hq := hq.2
        refine lv_ishl hx hb dX12_isLawful_53 ?_
        refine lv_ior hx hb dX12_isLawful_54 ?_
        refine lv_topi (fun v22 e_v22 => ?_)
        have hq := hq v22 e_v22
        refine lv_istore_n (lv' := [(1, .int v22), (2, .int (1 : Int32)), (0, .ref (ad q1)), (3, .int a2)]) hx hb dX12_isLawful_55 rfl hl (by decide) rfl (fun ls hl => ?_)
        obtain ⟨v23, e_v23⟩ : ∃ y : Int32, y = (a2 + (1 : Int32)) := ⟨_, rfl⟩
        have hq := hq v23 e_v23
        refine lv_iinc (v := v23) (lv' := [(3, .int v23), (1, .int v22), (2, .int (1 : Int32)), (0, .ref (ad q1))]) hx hb dX12_isLawful_56 hl (k := 3) rfl (by rw [e_v23]; rfl) (by decide) rfl (fun ls hl => ?_)
        refine lv_goto (tgt := 6) hx hb dX12_isLawful_59 (by decide) ?_
        exact kK6b v23 (1 : Int32) v22 μ17 hq _ _ _ hH (lv_sub hl [3, 0, 2, 1] rfl)
set_option maxRecDepth 100000 in
set_option maxHeartbeats 4000000 in
theorem w_X12_isLawful_6 {E : xE} {ad : Nat → Nat} {p : Program} {l : Launch} {e : Env} {s : State} {m : MethodId} {args : Array Value} {below : List Frame} {meth : Method} {c : Code} {Q : State → Prop} (G : xG E p s m args meth c cX12_isLawful 4 RX12) (hA : ∀ a, s.heap.size ≤ a → xA ad s.heap.size a) (q1 : Nat) (hk_q1 : kd q1 = 10) : ∀ (n : Nat) (a2 : Int32) (a3 : Int32) (a4 : Int32) (μ6 : xM) (K60 : Int32 → xM → Prop) (hq : L_X12_isLawful_6 q1 n a2 a3 a4 μ6 K60) (H : Heap) (locs : List Loc) (ls : Array Slot) (hH : xH E ad (xA ad s.heap.size) s.heap μ6 H locs) (hl : lv_has ls 4 [(0, .ref (ad q1)), (3, .int a2), (2, .int a3), (1, .int a4)]) (kK60 : ∀ (a7 : Int32) (μ8 : xM), K60 a7 μ8 → ∀ (H : Heap) (locs : List Loc) (ls : Array Slot), xH E ad (xA ad s.heap.size) s.heap μ8 H locs → lv_has ls 4 [(2, .int a7)] → W p l e (headSpec tX12_isLawful ({ frames := 2, cells := 0, slots := 0, locals := 80 } : Room)).room s m args below meth c H locs 0 0 Q (F0 m 62 ls [])) , W p l e (headSpec tX12_isLawful ({ frames := 2, cells := 0, slots := 0, locals := 80 } : Room)).room s m args below meth c H locs 0 0 Q (F0 m 6 ls [])
  | 0, _, _, _, _, _, hq, _, _, _, _, _, _ => hq.elim
  | n + 1, a2, a3, a4, μ6, K60, hq, H, locs, ls, hH, hl, kK60 => wb_X12_isLawful_6 G hA q1 hk_q1 a2 a3 a4 μ6 K60 _ hq hH hl kK60 (fun x0 x1 x2 y hq H locs ls hH hl => w_X12_isLawful_6 G hA q1 hk_q1 n x0 x1 x2 y K60 hq H locs ls hH hl kK60)
set_option maxRecDepth 100000 in
set_option maxHeartbeats 4000000 in
theorem c_X12_isLawful (l : Launch) (E : xE) (ad : Nat → Nat) (μ : xM) (q0 : Nat) (hk_q0 : kd q0 = 10) (Qm : Int32 → xM → Prop) (hq : p_X12_isLawful q0 μ Qm) : xMi l yX12_isLawful tX12_isLawful ({ frames := 2, cells := 0, slots := 0, locals := 80 } : Room) E ad μ [.ref (ad q0)] Qm := by
  refine x_sti (cc := cX12_isLawful) (maxL := 4) (ret := (some .boolean)) (own := RX12) rfl (by decide) rfl (Nat.le_of_ble_eq_true rfl) ?_
  intro p e s m args below meth c ls G hr hA hH hl
  obtain ⟨hx, hb, hml, hown, hts, hKn, hN, hlk⟩ := id G
  have hl : lv_has ls 4 [(0, .ref (ad q0))] := hl
  have hH : xH E ad (xA ad s.heap.size) s.heap μ s.heap [] := hH
  unfold p_X12_isLawful at hq
  refine lv_iconst (v := (0 : Int32)) hx hb dX12_isLawful_0 (by decide) ?_
  refine lv_istore_n (lv' := [(1, .int (0 : Int32)), (0, .ref (ad q0))]) hx hb dX12_isLawful_1 rfl hl (by decide) rfl (fun ls hl => ?_)
  refine lv_iconst (v := (1 : Int32)) hx hb dX12_isLawful_2 (by decide) ?_
  refine lv_istore_n (lv' := [(2, .int (1 : Int32)), (1, .int (0 : Int32)), (0, .ref (ad q0))]) hx hb dX12_isLawful_3 rfl hl (by decide) rfl (fun ls hl => ?_)
  refine lv_iconst (v := (0 : Int32)) hx hb dX12_isLawful_4 (by decide) ?_
  refine lv_istore_n (lv' := [(3, .int (0 : Int32)), (2, .int (1 : Int32)), (1, .int (0 : Int32)), (0, .ref (ad q0))]) hx hb dX12_isLawful_5 rfl hl (by decide) rfl (fun ls hl => ?_)
  obtain ⟨n5, hq⟩ := hq
  refine w_X12_isLawful_6 G hA q0 hk_q0 n5 (0 : Int32) (1 : Int32) (0 : Int32) μ _ hq _ _ _ hH (lv_sub hl [3, 0, 1, 2] rfl) (fun a24 μ25 hq H locs ls hH hl => ?_)
  refine lv_iload_n hx hb dX12_isLawful_62 rfl (lv_at hl 0 rfl) ?_
  exact x_zret G hr hH hq.1 hq.2 dX12_isLawful_63
abbrev tX12_bits : List Cond := Cond.code yX12_bits cX12_bits 3 (some .int) :: wsL_law
theorem mt_X12_bits : Cond.static yX12_bits ∈ wsL_law := (wm_13 _ (List.mem_of_getElem? (i := 17) rfl))
theorem mc_X12_bits : Cond.code yX12_bits cX12_bits 3 (some .int) ∈ wsL_law := (wm_13 _ (List.mem_of_getElem? (i := 18) rfl))
theorem md_X12_bits : yX12_bits.cls ≠ "java/lang/invoke/MethodHandle" ∧ yX12_bits.cls ≠ "java/lang/invoke/VarHandle" ∧ (parseMethodDescriptor yX12_bits.desc).map (fun d => d.parameters.length) = some 1 := by decide +kernel
set_option maxRecDepth 100000 in
set_option maxHeartbeats 4000000 in
theorem wb_X12_bits_4 {E : xE} {ad : Nat → Nat} {p : Program} {l : Launch} {e : Env} {s : State} {m : MethodId} {args : Array Value} {below : List Frame} {meth : Method} {c : Code} {Q : State → Prop} (G : xG E p s m args meth c cX12_bits 3 RX12) (hA : ∀ a, s.heap.size ≤ a → xA ad s.heap.size a) (a1 : Int32) (a2 : Int32) (μ4 : xM) (K40 : Int32 → xM → Prop) (K4b : Int32 → Int32 → xM → Prop) (hq : B_X12_bits_4  a1 a2 μ4 K40 K4b) {H : Heap} {locs : List Loc} {ls : Array Slot} (hH : xH E ad (xA ad s.heap.size) s.heap μ4 H locs) (hl : lv_has ls 3 [(2, .int a1), (1, .int a2)]) (kK40 : ∀ (a5 : Int32) (μ6 : xM), K40 a5 μ6 → ∀ (H : Heap) (locs : List Loc) (ls : Array Slot), xH E ad (xA ad s.heap.size) s.heap μ6 H locs → lv_has ls 3 [(1, .int a5)] → W p l e (headSpec tX12_bits ({ frames := 1, cells := 0, slots := 0, locals := 40 } : Room)).room s m args below meth c H locs 0 0 Q (F0 m 20 ls [])) (kK4b : ∀ (a7 : Int32) (a8 : Int32) (μ9 : xM), K4b a7 a8 μ9 → ∀ (H : Heap) (locs : List Loc) (ls : Array Slot), xH E ad (xA ad s.heap.size) s.heap μ9 H locs → lv_has ls 3 [(2, .int a7), (1, .int a8)] → W p l e (headSpec tX12_bits ({ frames := 1, cells := 0, slots := 0, locals := 40 } : Room)).room s m args below meth c H locs 0 0 Q (F0 m 4 ls [])) : W p l e (headSpec tX12_bits ({ frames := 1, cells := 0, slots := 0, locals := 40 } : Room)).room s m args below meth c H locs 0 0 Q (F0 m 4 ls []) := by
  obtain ⟨hx, hb, hml, hown, hts, hKn, hN, hlk⟩ := id G
  unfold B_X12_bits_4 at hq
  refine lv_iload_n hx hb dX12_bits_4 rfl (lv_at hl 0 rfl) ?_
  refine lv_if_eq (tgt := 20) hx hb dX12_bits_5 (by decide) (fun c10 => ?_) (fun c10 => ?_)
  · have hq := hq.1 c10
    exact kK40 a2 μ4 hq _ _ _ hH (lv_sub hl [1] rfl)
  · have hq := hq.2 c10
    obtain ⟨v11, e_v11⟩ : ∃ y : Int32, y = (a2 + (1 : Int32)) := ⟨_, rfl⟩
    have hq := hq v11 e_v11
    refine lv_iinc (v := v11) (lv' := [(1, .int v11), (2, .int a1)]) hx hb dX12_bits_8 hl (k := 1) rfl (by rw [e_v11]; rfl) (by decide) rfl (fun ls hl => ?_)
    refine lv_iload_n hx hb dX12_bits_11 rfl (lv_at hl 1 rfl) ?_
    refine lv_iload_n hx hb dX12_bits_12 rfl (lv_at hl 1 rfl) ?_
    refine lv_iconst (v := (1 : Int32)) hx hb dX12_bits_13 (by decide) ?_
    refine lv_isub hx hb dX12_bits_14 ?_
    refine lv_iand hx hb dX12_bits_15 ?_
    refine lv_topi (fun v12 e_v12 => ?_)
    have hq := hq v12 e_v12
    refine lv_istore_n (lv' := [(2, .int v12), (1, .int v11)]) hx hb dX12_bits_16 rfl hl (by decide) rfl (fun ls hl => ?_)
    refine lv_goto (tgt := 4) hx hb dX12_bits_17 (by decide) ?_
    exact kK4b v12 v11 μ4 hq _ _ _ hH (lv_sub hl [0, 1] rfl)
set_option maxRecDepth 100000 in
set_option maxHeartbeats 4000000 in
theorem w_X12_bits_4 {E : xE} {ad : Nat → Nat} {p : Program} {l : Launch} {e : Env} {s : State} {m : MethodId} {args : Array Value} {below : List Frame} {meth : Method} {c : Code} {Q : State → Prop} (G : xG E p s m args meth c cX12_bits 3 RX12) (hA : ∀ a, s.heap.size ≤ a → xA ad s.heap.size a) : ∀ (n : Nat) (a1 : Int32) (a2 : Int32) (μ4 : xM) (K40 : Int32 → xM → Prop) (hq : L_X12_bits_4  n a1 a2 μ4 K40) (H : Heap) (locs : List Loc) (ls : Array Slot) (hH : xH E ad (xA ad s.heap.size) s.heap μ4 H locs) (hl : lv_has ls 3 [(2, .int a1), (1, .int a2)]) (kK40 : ∀ (a5 : Int32) (μ6 : xM), K40 a5 μ6 → ∀ (H : Heap) (locs : List Loc) (ls : Array Slot), xH E ad (xA ad s.heap.size) s.heap μ6 H locs → lv_has ls 3 [(1, .int a5)] → W p l e (headSpec tX12_bits ({ frames := 1, cells := 0, slots := 0, locals := 40 } : Room)).room s m args below meth c H locs 0 0 Q (F0 m 20 ls [])) , W p l e (headSpec tX12_bits ({ frames := 1, cells := 0, slots := 0, locals := 40 } : Room)).room s m args below meth c H locs 0 0 Q (F0 m 4 ls [])
  | 0, _, _, _, _, hq, _, _, _, _, _, _ => hq.elim
  | n + 1, a1, a2, μ4, K40, hq, H, locs, ls, hH, hl, kK40 => wb_X12_bits_4 G hA   a1 a2 μ4 K40 _ hq hH hl kK40 (fun x0 x1 y hq H locs ls hH hl => w_X12_bits_4 G hA   n x0 x1 y K40 hq H locs ls hH hl kK40)
set_option maxRecDepth 100000 in
set_option maxHeartbeats 4000000 in
theorem c_X12_bits (l : Launch) (E : xE) (ad : Nat → Nat) (μ : xM) (p1 : Int32) (Qm : Int32 → xM → Prop) (hq : p_X12_bits p1 μ Qm) : xMi l yX12_bits tX12_bits ({ frames := 1, cells := 0, slots := 0, locals := 40 } : Room) E ad μ [.int p1] Qm := by
  refine x_sti (cc := cX12_bits) (maxL := 3) (ret := (some .int)) (own := RX12) rfl (by decide) rfl (Nat.le_of_ble_eq_true rfl) ?_
  intro p e s m args below meth c ls G hr hA hH hl
  obtain ⟨hx, hb, hml, hown, hts, hKn, hN, hlk⟩ := id G
  have hl : lv_has ls 3 [(0, .int p1)] := hl
  have hH : xH E ad (xA ad s.heap.size) s.heap μ s.heap [] := hH
  unfold p_X12_bits at hq
  refine lv_iconst (v := (0 : Int32)) hx hb dX12_bits_0 (by decide) ?_
  refine lv_istore_n (lv' := [(1, .int (0 : Int32)), (0, .int p1)]) hx hb dX12_bits_1 rfl hl (by decide) rfl (fun ls hl => ?_)
  refine lv_iload_n hx hb dX12_bits_2 rfl (lv_at hl 1 rfl) ?_
  refine lv_istore_n (lv' := [(2, .int p1), (1, .int (0 : Int32)), (0, .int p1)]) hx hb dX12_bits_3 rfl hl (by decide) rfl (fun ls hl => ?_)
  obtain ⟨n3, hq⟩ := hq
  refine w_X12_bits_4 G hA   n3 p1 (0 : Int32) μ _ hq _ _ _ hH (lv_sub hl [0, 1] rfl) (fun a13 μ14 hq H locs ls hH hl => ?_)
  refine lv_iload_n hx hb dX12_bits_20 rfl (lv_at hl 0 rfl) ?_
  exact x_iret G hr hH hq dX12_bits_21
abbrev tX12_smearBy : List Cond := Cond.code yX12_smearBy cX12_smearBy 6 (some .int) :: wsL_law
theorem mi_X12_smearBy : Cond.instanceMethod yX12_smearBy ∈ wsL_law := (wm_24 _ (List.mem_of_getElem? (i := 5) rfl))
theorem ms_X12_smearBy : Cond.selects RX12 yX12_smearBy yX12_smearBy ∈ wsL_law := (wm_24 _ (List.mem_of_getElem? (i := 6) rfl))
theorem mc_X12_smearBy : Cond.code yX12_smearBy cX12_smearBy 6 (some .int) ∈ wsL_law := (wm_24 _ (List.mem_of_getElem? (i := 7) rfl))
theorem md_X12_smearBy : yX12_smearBy.cls ≠ "java/lang/invoke/MethodHandle" ∧ yX12_smearBy.cls ≠ "java/lang/invoke/VarHandle" ∧ (parseMethodDescriptor yX12_smearBy.desc).map (fun d => d.parameters.length) = some 1 := by decide +kernel
set_option maxRecDepth 100000 in
set_option maxHeartbeats 4000000 in
theorem wb_X12_smearBy_17 {E : xE} {ad : Nat → Nat} {p : Program} {l : Launch} {e : Env} {s : State} {m : MethodId} {args : Array Value} {below : List Frame} {meth : Method} {c : Code} {Q : State → Prop} (G : xG E p s m args meth c cX12_smearBy 6 RX12) (hA : ∀ a, s.heap.size ≤ a → xA ad s.heap.size a) (q13 : Nat) (a14 : Int32) (a15 : Int32) (hk_q13 : kd q13 = 10) (a16 : Int32) (a17 : Int32) (μ19 : xM) (K170 : Int32 → xM → Prop) (K17b : Int32 → Int32 → xM → Prop) (hq : B_X12_smearBy_17 q13 a14 a15 a16 a17 μ19 K170 K17b) {H : Heap} {locs : List Loc} {ls : Array Slot} (hH : xH E ad (xA ad s.heap.size) s.heap μ19 H locs) (hl : lv_has ls 6 [(0, .ref (ad q13)), (1, .int a14), (3, .int a15), (4, .int a16), (2, .int a17)]) (kK170 : ∀ (a20 : Int32) (μ21 : xM), K170 a20 μ21 → ∀ (H : Heap) (locs : List Loc) (ls : Array Slot), xH E ad (xA ad s.heap.size) s.heap μ21 H locs → lv_has ls 6 [(0, .ref (ad q13)), (1, .int a14), (3, .int a15), (2, .int a20)] → W p l e (headSpec tX12_smearBy ({ frames := 2, cells := 0, slots := 0, locals := 80 } : Room)).room s m args below meth c H locs 0 0 Q (F0 m 92 ls [])) (kK17b : ∀ (a22 : Int32) (a23 : Int32) (μ24 : xM), K17b a22 a23 μ24 → ∀ (H : Heap) (locs : List Loc) (ls : Array Slot), xH E ad (xA ad s.heap.size) s.heap μ24 H locs → lv_has ls 6 [(0, .ref (ad q13)), (1, .int a14), (3, .int a15), (4, .int a22), (2, .int a23)] → W p l e (headSpec tX12_smearBy ({ frames := 2, cells := 0, slots := 0, locals := 80 } : Room)).room s m args below meth c H locs 0 0 Q (F0 m 17 ls [])) : W p l e (headSpec tX12_smearBy ({ frames := 2, cells := 0, slots := 0, locals := 80 } : Room)).room s m args below meth c H locs 0 0 Q (F0 m 17 ls []) := by
  obtain ⟨hx, hb, hml, hown, hts, hKn, hN, hlk⟩ := id G
  unfold B_X12_smearBy_17 at hq
  refine lv_iload hx hb dX12_smearBy_17 (lv_at hl 3 rfl) ?_
  refine lv_iload_n hx hb dX12_smearBy_19 rfl (lv_at hl 2 rfl) ?_
  refine lv_icmp_ge (tgt := 92) hx hb dX12_smearBy_20 (by decide) (fun c25 => ?_) (fun c25 => ?_)
  · have hq := hq.1 c25
    exact kK170 a17 μ19 hq _ _ _ hH (lv_sub hl [0, 1, 2, 4] rfl)
  · have hq := hq.2 c25
    refine lv_aload_n hx hb dX12_smearBy_23 rfl (lv_at hl 0 rfl) ?_
    refine lv_aload_n hx hb dX12_smearBy_24 rfl (lv_at hl 0 rfl) ?_
    refine x_get (j := 8) (C := RX12) (T := TX12) (N := 24) (v := .ref (ad (rt q13 8))) G hH hk_q13 (by decide) rfl inlX12 (by decide) (wm_7 _ (List.mem_of_getElem? (i := 0) rfl)) rfl dX12_smearBy_25 ?_
    refine lv_iload hx hb dX12_smearBy_28 (lv_at hl 3 rfl) ?_
    refine x_iald G hH (kt_10_8 _ hk_q13) hq.1 dX12_smearBy_30 ?_
    have hq := hq.2
    refine lv_iconst (v := (2 : Int32)) hx hb dX12_smearBy_31 (by decide) ?_
    refine x_cVi (C := RX12) (T := TX12) (N := 24) (As := [.int (μ19.1 (rt q13 8) a16.toNatClampNeg), .int (2 : Int32)]) (rest := []) G hH hA (c_X12_ofBlock l E ad μ19 q13 (μ19.1 (rt q13 8) a16.toNatClampNeg) (2 : Int32) hk_q13 _ hq) (wm_13 _ (List.mem_of_getElem? (i := 6) rfl)) mi_X12_ofBlock ms_X12_ofBlock mn_RX12 mc_X12_ofBlock rfl md_X12_ofBlock ⟨rfl, rfl, Nat.le_of_ble_eq_true rfl, Nat.le_of_ble_eq_true rfl⟩ hk_q13 (by decide) rfl rfl hl.1 rfl (Nat.le_of_ble_eq_true rfl) dX12_smearBy_32 ⟨Nat.zero_le _, Nat.zero_le _⟩ (fun r27 μ26 hq H locs hH => ?_)
    refine lv_iload_n hx hb dX12_smearBy_35 rfl (lv_at hl 1 rfl) ?_
    refine lv_iload_n hx hb dX12_smearBy_36 rfl (lv_at hl 2 rfl) ?_
    refine lv_iload hx hb dX12_smearBy_37 (lv_at hl 3 rfl) ?_
    refine lv_isub hx hb dX12_smearBy_39 ?_
    refine lv_imul hx hb dX12_smearBy_40 ?_
    refine lv_isub hx hb dX12_smearBy_41 ?_
    refine lv_topi (fun v28 e_v28 => ?_)
    have hq := hq v28 e_v28
    refine lv_istore (lv' := [(5, .int v28), (0, .ref (ad q13)), (1, .int a14), (3, .int a15), (4, .int a16), (2, .int a17)]) hx hb dX12_smearBy_42 hl (by decide) rfl (fun ls hl => ?_)
    refine lv_iload_n hx hb dX12_smearBy_44 rfl (lv_at hl 5 rfl) ?_
    refine lv_iload hx hb dX12_smearBy_45 (lv_at hl 0 rfl) ?_
    refine lv_if_le (tgt := 83) hx hb dX12_smearBy_47 (by decide) (fun c29 => ?_) (fun c29 => ?_)
    · have hq := hq.1 c29
      refine lv_iconst (v := (0 : Int32)) hx hb dX12_smearBy_83 (by decide) ?_
      refine lv_iadd hx hb dX12_smearBy_84 ?_
      refine lv_topi (fun v30 e_v30 => ?_)
      have hq := hq v30 e_v30
      refine lv_istore_n (lv' := [(2, .int v30), (5, .int v28), (0, .ref (ad q13)), (1, .int a14), (3, .int a15), (4, .int a16)]) hx hb dX12_smearBy_85 rfl hl (by decide) rfl (fun ls hl => ?_)
      obtain ⟨v31, e_v31⟩ : ∃ y : Int32, y = (a16 + (1 : Int32)) := ⟨_, rfl⟩
      have hq := hq v31 e_v31
      refine lv_iinc (v := v31) (lv' := [(4, .int v31), (2, .int v30), (5, .int v28), (0, .ref (ad q13)), (1, .int a14), (3, .int a15)]) hx hb dX12_smearBy_86 hl (k := 5) rfl (by rw [e_v31]; rfl) (by decide) rfl (fun ls hl => ?_)
      refine lv_goto (tgt := 17) hx hb dX12_smearBy_89 (by decide) ?_
      exact kK17b v31 v30 μ26 hq _ _ _ hH (lv_sub hl [3, 4, 5, 0, 1] rfl)
    · have hq := hq.2 c29
      refine lv_iload hx hb dX12_smearBy_50 (lv_at hl 0 rfl) ?_
      refine lv_aload_n hx hb dX12_smearBy_52 rfl (lv_at hl 1 rfl) ?_
      refine x_get (j := 12) (C := RX12) (T := TX12) (N := 24) (v := .ref (ad (rt q13 12))) G hH hk_q13 (by decide) rfl inlX12 (by decide) (wm_7 _ (List.mem_of_getElem? (i := 2) rfl)) rfl dX12_smearBy_53 ?_
      refine lv_aload_n hx hb dX12_smearBy_56 rfl (lv_at hl 1 rfl) ?_
      refine x_get (j := 8) (C := RX12) (T := TX12) (N := 24) (v := .ref (ad (rt q13 8))) G hH hk_q13 (by decide) rfl inlX12 (by decide) (wm_7 _ (List.mem_of_getElem? (i := 0) rfl)) rfl dX12_smearBy_57 ?_
      refine lv_iload_n hx hb dX12_smearBy_60 rfl (lv_at hl 3 rfl) ?_
      refine x_iald G hH (kt_10_8 _ hk_q13) hq.1 dX12_smearBy_61 ?_
      have hq := hq.2
      refine x_iald G hH (kt_10_12 _ hk_q13) hq.1 dX12_smearBy_62 ?_
      have hq := hq.2
      refine lv_aload_n hx hb dX12_smearBy_63 rfl (lv_at hl 1 rfl) ?_
      refine x_get (j := 12) (C := RX12) (T := TX12) (N := 24) (v := .ref (ad (rt q13 12))) G hH hk_q13 (by decide) rfl inlX12 (by decide) (wm_7 _ (List.mem_of_getElem? (i := 2) rfl)) rfl dX12_smearBy_64 ?_
      refine lv_aload_n hx hb dX12_smearBy_67 rfl (lv_at hl 1 rfl) ?_
      refine x_get (j := 8) (C := RX12) (T := TX12) (N := 24) (v := .ref (ad (rt q13 8))) G hH hk_q13 (by decide) rfl inlX12 (by decide) (wm_7 _ (List.mem_of_getElem? (i := 0) rfl)) rfl dX12_smearBy_68 ?_
      refine lv_iload hx hb dX12_smearBy_71 (lv_at hl 4 rfl) ?_
      refine x_iald G hH (kt_10_8 _ hk_q13) hq.1 dX12_smearBy_73 ?_
      have hq := hq.2
      refine x_iald G hH (kt_10_12 _ hk_q13) hq.1 dX12_smearBy_74 ?_
      have hq := hq.2
      refine lv_iand hx hb dX12_smearBy_75 ?_
      refine x_cSi (As := [.int ((μ26.1 (rt q13 12) (μ26.1 (rt q13 8) a15.toNatClampNeg).toNatClampNeg) &&& (μ26.1 (rt q13 12) (μ26.1 (rt q13 8) a16.toNatClampNeg).toNatClampNeg))]) (rest := [.int v28, .int a17]) G hH hA (c_X12_bits l E ad μ26 ((μ26.1 (rt q13 12) (μ26.1 (rt q13 8) a15.toNatClampNeg).toNatClampNeg) &&& (μ26.1 (rt q13 12) (μ26.1 (rt q13 8) a16.toNatClampNeg).toNatClampNeg))  _ hq) (wm_13 _ (List.mem_of_getElem? (i := 16) rfl)) mt_X12_bits mn_RX12 mc_X12_bits md_X12_bits ⟨rfl, rfl, Nat.le_of_ble_eq_true rfl, Nat.le_of_ble_eq_true rfl⟩ rfl hl.1 rfl (Nat.le_of_ble_eq_true rfl) dX12_smearBy_76 ⟨Nat.zero_le _, Nat.zero_le _⟩ (fun r33 μ32 hq H locs hH => ?_)
      refine lv_imul hx hb dX12_smearBy_79 ?_
      refine lv_goto (tgt := 84) hx hb dX12_smearBy_80 (by decide) ?_
      refine lv_iadd hx hb dX12_smearBy_84 ?_
      refine lv_topi (fun v34 e_v34 => ?_)
      have hq := hq v34 e_v34
      refine lv_istore_n (lv' := [(2, .int v34), (5, .int v28), (0, .ref (ad q13)), (1, .int a14), (3, .int a15), (4, .int a16)]) hx hb dX12_smearBy_85 rfl hl (by decide) rfl (fun ls hl => ?_)
      obtain ⟨v35, e_v35⟩ : ∃ y : Int32, y = (a16 + (1 : Int32)) := ⟨_, rfl⟩
      have hq := hq v35 e_v35
      refine lv_iinc (v := v35) (lv' := [(4, .int v35), (2, .int v34), (5, .int v28), (0, .ref (ad q13)), (1, .int a14), (3, .int a15)]) hx hb dX12_smearBy_86 hl (k := 5) rfl (by rw [e_v35]; rfl) (by decide) rfl (fun ls hl => ?_)
      refine lv_goto (tgt := 17) hx hb dX12_smearBy_89 (by decide) ?_
      exact kK17b v35 v34 μ32 hq _ _ _ hH (lv_sub hl [3, 4, 5, 0, 1] rfl)
set_option maxRecDepth 100000 in
set_option maxHeartbeats 4000000 in
theorem w_X12_smearBy_17 {E : xE} {ad : Nat → Nat} {p : Program} {l : Launch} {e : Env} {s : State} {m : MethodId} {args : Array Value} {below : List Frame} {meth : Method} {c : Code} {Q : State → Prop} (G : xG E p s m args meth c cX12_smearBy 6 RX12) (hA : ∀ a, s.heap.size ≤ a → xA ad s.heap.size a) (q13 : Nat) (a14 : Int32) (a15 : Int32) (hk_q13 : kd q13 = 10) : ∀ (n : Nat) (a16 : Int32) (a17 : Int32) (μ19 : xM) (K170 : Int32 → xM → Prop) (hq : L_X12_smearBy_17 q13 a14 a15 n a16 a17 μ19 K170) (H : Heap) (locs : List Loc) (ls : Array Slot) (hH : xH E ad (xA ad s.heap.size) s.heap μ19 H locs) (hl : lv_has ls 6 [(0, .ref (ad q13)), (1, .int a14), (3, .int a15), (4, .int a16), (2, .int a17)]) (kK170 : ∀ (a20 : Int32) (μ21 : xM), K170 a20 μ21 → ∀ (H : Heap) (locs : List Loc) (ls : Array Slot), xH E ad (xA ad s.heap.size) s.heap μ21 H locs → lv_has ls 6 [(0, .ref (ad q13)), (1, .int a14), (3, .int a15), (2, .int a20)] → W p l e (headSpec tX12_smearBy ({ frames := 2, cells := 0, slots := 0, locals := 80 } : Room)).room s m args below meth c H locs 0 0 Q (F0 m 92 ls [])) , W p l e (headSpec tX12_smearBy ({ frames := 2, cells := 0, slots := 0, locals := 80 } : Room)).room s m args below meth c H locs 0 0 Q (F0 m 17 ls [])
  | 0, _, _, _, _, hq, _, _, _, _, _, _ => hq.elim
  | n + 1, a16, a17, μ19, K170, hq, H, locs, ls, hH, hl, kK170 => wb_X12_smearBy_17 G hA q13 a14 a15 hk_q13 a16 a17 μ19 K170 _ hq hH hl kK170 (fun x0 x1 y hq H locs ls hH hl => w_X12_smearBy_17 G hA q13 a14 a15 hk_q13 n x0 x1 y K170 hq H locs ls hH hl kK170)
set_option maxRecDepth 100000 in
set_option maxHeartbeats 4000000 in
theorem wb_X12_smearBy_4 {E : xE} {ad : Nat → Nat} {p : Program} {l : Launch} {e : Env} {s : State} {m : MethodId} {args : Array Value} {below : List Frame} {meth : Method} {c : Code} {Q : State → Prop} (G : xG E p s m args meth c cX12_smearBy 6 RX12) (hA : ∀ a, s.heap.size ≤ a → xA ad s.heap.size a) (q1 : Nat) (a2 : Int32) (hk_q1 : kd q1 = 10) (a3 : Int32) (a4 : Int32) (μ6 : xM) (K40 : Int32 → xM → Prop) (K4b : Int32 → Int32 → xM → Prop) (hq : B_X12_smearBy_4 q1 a2 a3 a4 μ6 K40 K4b) {H : Heap} {locs : List Loc} {ls : Array Slot} (hH : xH E ad (xA ad s.heap.size) s.heap μ6 H locs) (hl : lv_has ls 6 [(0, .ref (ad q1)), (1, .int a2), (3, .int a3), (2, .int a4)]) (kK40 : ∀ (a7 : Int32) (μ8 : xM), K40 a7 μ8 → ∀ (H : Heap) (locs : List Loc) (ls : Array Slot), xH E ad (xA ad s.heap.size) s.heap μ8 H locs → lv_has ls 6 [(2, .int a7)] → W p l e (headSpec tX12_smearBy ({ frames := 2, cells := 0, slots := 0, locals := 80 } : Room)).room s m args below meth c H locs 0 0 Q (F0 m 98 ls [])) (kK4b : ∀ (a9 : Int32) (a10 : Int32) (μ11 : xM), K4b a9 a10 μ11 → ∀ (H : Heap) (locs : List Loc) (ls : Array Slot), xH E ad (xA ad s.heap.size) s.heap μ11 H locs → lv_has ls 6 [(0, .ref (ad q1)), (1, .int a2), (3, .int a9), (2, .int a10)] → W p l e (headSpec tX12_smearBy ({ frames := 2, cells := 0, slots := 0, locals := 80 } : Room)).room s m args below meth c H locs 0 0 Q (F0 m 4 ls [])) : W p l e (headSpec tX12_smearBy ({ frames := 2, cells := 0, slots := 0, locals := 80 } : Room)).room s m args below meth c H locs 0 0 Q (F0 m 4 ls []) := by
  obtain ⟨hx, hb, hml, hown, hts, hKn, hN, hlk⟩ := id G
  unfold B_X12_smearBy_4 at hq
  refine lv_iload_n hx hb dX12_smearBy_4 rfl (lv_at hl 2 rfl) ?_
  refine lv_aload_n hx hb dX12_smearBy_5 rfl (lv_at hl 0 rfl) ?_
  refine x_get (j := 0) (C := RX12) (T := TX12) (N := 24) (v := .ref (ad (rt q1 0))) G hH hk_q1 (by decide) rfl inlX12 (by decide) (wm_6 _ (List.mem_of_getElem? (i := 18) rfl)) rfl dX12_smearBy_6 ?_
  refine lv_iconst (v := (0 : Int32)) hx hb dX12_smearBy_9 (by decide) ?_
  refine x_iald G hH (kt_10_0 _ hk_q1) hq.1 dX12_smearBy_10 ?_
  have hq := hq.2
  refine lv_icmp_ge (tgt := 98) hx hb dX12_smearBy_11 (by decide) (fun c12 => ?_) (fun c12 => ?_)
  · have hq := hq.1 c12
    exact kK40 a4 μ6 hq _ _ _ hH (lv_sub hl [3] rfl)
  · have hq := hq.2 c12
    refine lv_iconst (v := (0 : Int32)) hx hb dX12_smearBy_14 (by decide) ?_
    refine lv_istore (lv' := [(4, .int (0 : Int32)), (0, .ref (ad q1)), (1, .int a2), (3, .int a3), (2, .int a4)]) hx hb dX12_smearBy_15 hl (by decide) rfl (fun ls hl => ?_)
    obtain ⟨n18, hq⟩ := hq
    refine w_X12_smearBy_17 G hA q1 a2 a3 hk_q1 n18 (0 : Int32) a4 μ6 _ hq _ _ _ hH (lv_sub hl [1, 2, 3, 0, 4] rfl) (fun a36 μ37 hq H locs ls hH hl => ?_)
    obtain ⟨v38, e_v38⟩ : ∃ y : Int32, y = (a3 + (1 : Int32)) := ⟨_, rfl⟩
    have hq := hq v38 e_v38
    refine lv_iinc (v := v38) (lv' := [(3, .int v38), (0, .ref (ad q1)), (1, .int a2), (2, .int a36)]) hx hb dX12_smearBy_92 hl (k := 2) rfl (by rw [e_v38]; rfl) (by decide) rfl (fun ls hl => ?_)
    refine lv_goto (tgt := 4) hx hb dX12_smearBy_95 (by decide) ?_
    exact kK4b v38 a36 μ37 hq _ _ _ hH (lv_sub hl [1, 2, 0, 3] rfl)
set_option maxRecDepth 100000 in
set_option maxHeartbeats 4000000 in
theorem w_X12_smearBy_4 {E : xE} {ad : Nat → Nat} {p : Program} {l : Launch} {e : Env} {s : State} {m : MethodId} {args : Array Value} {below : List Frame} {meth : Method} {c : Code} {Q : State → Prop} (G : xG E p s m args meth c cX12_smearBy 6 RX12) (hA : ∀ a, s.heap.size ≤ a → xA ad s.heap.size a) (q1 : Nat) (a2 : Int32) (hk_q1 : kd q1 = 10) : ∀ (n : Nat) (a3 : Int32) (a4 : Int32) (μ6 : xM) (K40 : Int32 → xM → Prop) (hq : L_X12_smearBy_4 q1 a2 n a3 a4 μ6 K40) (H : Heap) (locs : List Loc) (ls : Array Slot) (hH : xH E ad (xA ad s.heap.size) s.heap μ6 H locs) (hl : lv_has ls 6 [(0, .ref (ad q1)), (1, .int a2), (3, .int a3), (2, .int a4)]) (kK40 : ∀ (a7 : Int32) (μ8 : xM), K40 a7 μ8 → ∀ (H : Heap) (locs : List Loc) (ls : Array Slot), xH E ad (xA ad s.heap.size) s.heap μ8 H locs → lv_has ls 6 [(2, .int a7)] → W p l e (headSpec tX12_smearBy ({ frames := 2, cells := 0, slots := 0, locals := 80 } : Room)).room s m args below meth c H locs 0 0 Q (F0 m 98 ls [])) , W p l e (headSpec tX12_smearBy ({ frames := 2, cells := 0, slots := 0, locals := 80 } : Room)).room s m args below meth c H locs 0 0 Q (F0 m 4 ls [])
  | 0, _, _, _, _, hq, _, _, _, _, _, _ => hq.elim
  | n + 1, a3, a4, μ6, K40, hq, H, locs, ls, hH, hl, kK40 => wb_X12_smearBy_4 G hA q1 a2 hk_q1 a3 a4 μ6 K40 _ hq hH hl kK40 (fun x0 x1 y hq H locs ls hH hl => w_X12_smearBy_4 G hA q1 a2 hk_q1 n x0 x1 y K40 hq H locs ls hH hl kK40)
set_option maxRecDepth 100000 in
set_option maxHeartbeats 4000000 in
theorem c_X12_smearBy (l : Launch) (E : xE) (ad : Nat → Nat) (μ : xM) (q0 : Nat) (p1 : Int32) (hk_q0 : kd q0 = 10) (Qm : Int32 → xM → Prop) (hq : p_X12_smearBy q0 p1 μ Qm) : xMi l yX12_smearBy tX12_smearBy ({ frames := 2, cells := 0, slots := 0, locals := 80 } : Room) E ad μ [.ref (ad q0), .int p1] Qm := by
  refine x_sti (cc := cX12_smearBy) (maxL := 6) (ret := (some .int)) (own := RX12) rfl (by decide) rfl (Nat.le_of_ble_eq_true rfl) ?_
  intro p e s m args below meth c ls G hr hA hH hl
  obtain ⟨hx, hb, hml, hown, hts, hKn, hN, hlk⟩ := id G
  have hl : lv_has ls 6 [(0, .ref (ad q0)), (1, .int p1)] := hl
  have hH : xH E ad (xA ad s.heap.size) s.heap μ s.heap [] := hH
  unfold p_X12_smearBy at hq
  refine lv_iconst (v := (0 : Int32)) hx hb dX12_smearBy_0 (by decide) ?_
  refine lv_istore_n (lv' := [(2, .int (0 : Int32)), (0, .ref (ad q0)), (1, .int p1)]) hx hb dX12_smearBy_1 rfl hl (by decide) rfl (fun ls hl => ?_)
  refine lv_iconst (v := (0 : Int32)) hx hb dX12_smearBy_2 (by decide) ?_
  refine lv_istore_n (lv' := [(3, .int (0 : Int32)), (2, .int (0 : Int32)), (0, .ref (ad q0)), (1, .int p1)]) hx hb dX12_smearBy_3 rfl hl (by decide) rfl (fun ls hl => ?_)
  obtain ⟨n5, hq⟩ := hq
  refine w_X12_smearBy_4 G hA q0 p1 hk_q0 n5 (0 : Int32) (0 : Int32) μ _ hq _ _ _ hH (lv_sub hl [2, 3, 0, 1] rfl) (fun a39 μ40 hq H locs ls hH hl => ?_)
  refine lv_iload_n hx hb dX12_smearBy_98 rfl (lv_at hl 0 rfl) ?_
  exact x_iret G hr hH hq dX12_smearBy_99
abbrev tX12_clearSheet : List Cond := Cond.code yX12_clearSheet cX12_clearSheet 2 none :: wsL_law
theorem mi_X12_clearSheet : Cond.instanceMethod yX12_clearSheet ∈ wsL_law := (wm_24 _ (List.mem_of_getElem? (i := 13) rfl))
theorem ms_X12_clearSheet : Cond.selects RX12 yX12_clearSheet yX12_clearSheet ∈ wsL_law := (wm_24 _ (List.mem_of_getElem? (i := 14) rfl))
theorem mc_X12_clearSheet : Cond.code yX12_clearSheet cX12_clearSheet 2 none ∈ wsL_law := (wm_24 _ (List.mem_of_getElem? (i := 15) rfl))
theorem md_X12_clearSheet : yX12_clearSheet.cls ≠ "java/lang/invoke/MethodHandle" ∧ yX12_clearSheet.cls ≠ "java/lang/invoke/VarHandle" ∧ (parseMethodDescriptor yX12_clearSheet.desc).map (fun d => d.parameters.length) = some 0 := by decide +kernel
set_option maxRecDepth 100000 in
set_option maxHeartbeats 4000000 in
theorem wb_X12_clearSheet_2 {E : xE} {ad : Nat → Nat} {p : Program} {l : Launch} {e : Env} {s : State} {m : MethodId} {args : Array Value} {below : List Frame} {meth : Method} {c : Code} {Q : State → Prop} (G : xG E p s m args meth c cX12_clearSheet 2 RX12) (hA : ∀ a, s.heap.size ≤ a → xA ad s.heap.size a) (q1 : Nat) (hk_q1 : kd q1 = 10) (a2 : Int32) (μ4 : xM) (K20 : xM → Prop) (K2b : Int32 → xM → Prop) (hq : B_X12_clearSheet_2 q1 a2 μ4 K20 K2b) {H : Heap} {locs : List Loc} {ls : Array Slot} (hH : xH E ad (xA ad s.heap.size) s.heap μ4 H locs) (hl : lv_has ls 2 [(0, .ref (ad q1)), (1, .int a2)]) (kK20 : ∀ (μ5 : xM), K20  μ5 → ∀ (H : Heap) (locs : List Loc) (ls : Array Slot), xH E ad (xA ad s.heap.size) s.heap μ5 H locs → lv_has ls 2 [(0, .ref (ad q1))] → W p l e (headSpec tX12_clearSheet ({ frames := 1, cells := 0, slots := 0, locals := 40 } : Room)).room s m args below meth c H locs 0 0 Q (F0 m 28 ls [])) (kK2b : ∀ (a6 : Int32) (μ7 : xM), K2b a6 μ7 → ∀ (H : Heap) (locs : List Loc) (ls : Array Slot), xH E ad (xA ad s.heap.size) s.heap μ7 H locs → lv_has ls 2 [(0, .ref (ad q1)), (1, .int a6)] → W p l e (headSpec tX12_clearSheet ({ frames := 1, cells := 0, slots := 0, locals := 40 } : Room)).room s m args below meth c H locs 0 0 Q (F0 m 2 ls [])) : W p l e (headSpec tX12_clearSheet ({ frames := 1, cells := 0, slots := 0, locals := 40 } : Room)).room s m args below meth c H locs 0 0 Q (F0 m 2 ls []) := by
  obtain ⟨hx, hb, hml, hown, hts, hKn, hN, hlk⟩ := id G
  unfold B_X12_clearSheet_2 at hq
  refine lv_iload_n hx hb dX12_clearSheet_2 rfl (lv_at hl 1 rfl) ?_
  refine lv_bipush (v := (16 : Int32)) hx hb dX12_clearSheet_3 (by decide) ?_
  refine lv_icmp_ge (tgt := 28) hx hb dX12_clearSheet_5 (by decide) (fun c8 => ?_) (fun c8 => ?_)
  · have hq := hq.1 c8
    exact kK20  μ4 hq _ _ _ hH (lv_sub hl [0] rfl)
  · have hq := hq.2 c8
    refine lv_aload_n hx hb dX12_clearSheet_8 rfl (lv_at hl 0 rfl) ?_
    refine x_get (j := 5) (C := RX12) (T := TX12) (N := 24) (v := .ref (ad (rt q1 5))) G hH hk_q1 (by decide) rfl inlX12 (by decide) (wm_6 _ (List.mem_of_getElem? (i := 22) rfl)) rfl dX12_clearSheet_9 ?_
    refine lv_iload_n hx hb dX12_clearSheet_12 rfl (lv_at hl 1 rfl) ?_
    refine lv_iconst (v := (0 : Int32)) hx hb dX12_clearSheet_13 (by decide) ?_
    refine x_iast G hH (kt_10_5 _ hk_q1) hq.1 dX12_clearSheet_14 (fun μ9 e_μ9 H locs hH => ?_)
    have hq := hq.2 μ9 e_μ9
    refine lv_aload_n hx hb dX12_clearSheet_15 rfl (lv_at hl 0 rfl) ?_
    refine x_get (j := 6) (C := RX12) (T := TX12) (N := 24) (v := .ref (ad (rt q1 6))) G hH hk_q1 (by decide) rfl inlX12 (by decide) (wm_6 _ (List.mem_of_getElem? (i := 23) rfl)) rfl dX12_clearSheet_16 ?_
    refine lv_iload_n hx hb dX12_clearSheet_19 rfl (lv_at hl 1 rfl) ?_
    refine lv_iconst (v := (0 : Int32)) hx hb dX12_clearSheet_20 (by decide) ?_
    refine x_iast G hH (kt_10_6 _ hk_q1) hq.1 dX12_clearSheet_21 (fun μ10 e_μ10 H locs hH => ?_)
    have hq := hq.2 μ10 e_μ10
    obtain ⟨v11, e_v11⟩ : ∃ y : Int32, y = (a2 + (1 : Int32)) := ⟨_, rfl⟩
    have hq := hq v11 e_v11
    refine lv_iinc (v := v11) (lv' := [(1, .int v11), (0, .ref (ad q1))]) hx hb dX12_clearSheet_22 hl (k := 1) rfl (by rw [e_v11]; rfl) (by decide) rfl (fun ls hl => ?_)
    refine lv_goto (tgt := 2) hx hb dX12_clearSheet_25 (by decide) ?_
    exact kK2b v11 μ10 hq _ _ _ hH (lv_sub hl [1, 0] rfl)
set_option maxRecDepth 100000 in
set_option maxHeartbeats 4000000 in
theorem w_X12_clearSheet_2 {E : xE} {ad : Nat → Nat} {p : Program} {l : Launch} {e : Env} {s : State} {m : MethodId} {args : Array Value} {below : List Frame} {meth : Method} {c : Code} {Q : State → Prop} (G : xG E p s m args meth c cX12_clearSheet 2 RX12) (hA : ∀ a, s.heap.size ≤ a → xA ad s.heap.size a) (q1 : Nat) (hk_q1 : kd q1 = 10) : ∀ (n : Nat) (a2 : Int32) (μ4 : xM) (K20 : xM → Prop) (hq : L_X12_clearSheet_2 q1 n a2 μ4 K20) (H : Heap) (locs : List Loc) (ls : Array Slot) (hH : xH E ad (xA ad s.heap.size) s.heap μ4 H locs) (hl : lv_has ls 2 [(0, .ref (ad q1)), (1, .int a2)]) (kK20 : ∀ (μ5 : xM), K20  μ5 → ∀ (H : Heap) (locs : List Loc) (ls : Array Slot), xH E ad (xA ad s.heap.size) s.heap μ5 H locs → lv_has ls 2 [(0, .ref (ad q1))] → W p l e (headSpec tX12_clearSheet ({ frames := 1, cells := 0, slots := 0, locals := 40 } : Room)).room s m args below meth c H locs 0 0 Q (F0 m 28 ls [])) , W p l e (headSpec tX12_clearSheet ({ frames := 1, cells := 0, slots := 0, locals := 40 } : Room)).room s m args below meth c H locs 0 0 Q (F0 m 2 ls [])
  | 0, _, _, _, hq, _, _, _, _, _, _ => hq.elim
  | n + 1, a2, μ4, K20, hq, H, locs, ls, hH, hl, kK20 => wb_X12_clearSheet_2 G hA q1 hk_q1 a2 μ4 K20 _ hq hH hl kK20 (fun x0 y hq H locs ls hH hl => w_X12_clearSheet_2 G hA q1 hk_q1 n x0 y K20 hq H locs ls hH hl kK20)
set_option maxRecDepth 100000 in
set_option maxHeartbeats 4000000 in
theorem c_X12_clearSheet (l : Launch) (E : xE) (ad : Nat → Nat) (μ : xM) (q0 : Nat) (hk_q0 : kd q0 = 10) (Qm : xM → Prop) (hq : p_X12_clearSheet q0 μ Qm) : xMv l yX12_clearSheet tX12_clearSheet ({ frames := 1, cells := 0, slots := 0, locals := 40 } : Room) E ad μ [.ref (ad q0)] Qm := by
  refine x_stv (cc := cX12_clearSheet) (maxL := 2) (ret := none) (own := RX12) rfl (by decide) rfl (Nat.le_of_ble_eq_true rfl) ?_
  intro p e s m args below meth c ls G hr hA hH hl
  obtain ⟨hx, hb, hml, hown, hts, hKn, hN, hlk⟩ := id G
  have hl : lv_has ls 2 [(0, .ref (ad q0))] := hl
  have hH : xH E ad (xA ad s.heap.size) s.heap μ s.heap [] := hH
  unfold p_X12_clearSheet at hq
  refine lv_iconst (v := (0 : Int32)) hx hb dX12_clearSheet_0 (by decide) ?_
  refine lv_istore_n (lv' := [(1, .int (0 : Int32)), (0, .ref (ad q0))]) hx hb dX12_clearSheet_1 rfl hl (by decide) rfl (fun ls hl => ?_)
  obtain ⟨n3, hq⟩ := hq
  refine w_X12_clearSheet_2 G hA q0 hk_q0 n3 (0 : Int32) μ _ hq _ _ _ hH (lv_sub hl [1, 0] rfl) (fun  μ12 hq H locs ls hH hl => ?_)
  refine lv_aload_n hx hb dX12_clearSheet_28 rfl (lv_at hl 0 rfl) ?_
  refine lv_iconst (v := (0 : Int32)) hx hb dX12_clearSheet_29 (by decide) ?_
  refine x_puti (j := 7) (C := RX12) (T := TX12) (N := 24) (ty := .int) G hH hk_q0 (by decide) rfl inlX12 tyX12 tyX12_ok nmX12 (by decide) (wm_24 _ (List.mem_of_getElem? (i := 16) rfl)) rfl (by decide +kernel) rfl rfl (fun _ _ => Nat.le_of_ble_eq_true rfl) (fun _ _ => rfl) dX12_clearSheet_30 (fun μ13 e_μ13 H locs hH => ?_)
  have hq := hq μ13 e_μ13
  exact x_vret G hr hH hq dX12_clearSheet_33
abbrev tX12_printOn : List Cond := Cond.code yX12_printOn cX12_printOn 7 none :: wsL_law
theorem mi_X12_printOn : Cond.instanceMethod yX12_printOn ∈ wsL_law := (wm_24 _ (List.mem_of_getElem? (i := 18) rfl))
theorem ms_X12_printOn : Cond.selects RX12 yX12_printOn yX12_printOn ∈ wsL_law := (wm_24 _ (List.mem_of_getElem? (i := 19) rfl))
theorem mc_X12_printOn : Cond.code yX12_printOn cX12_printOn 7 none ∈ wsL_law := (wm_24 _ (List.mem_of_getElem? (i := 20) rfl))
theorem md_X12_printOn : yX12_printOn.cls ≠ "java/lang/invoke/MethodHandle" ∧ yX12_printOn.cls ≠ "java/lang/invoke/VarHandle" ∧ (parseMethodDescriptor yX12_printOn.desc).map (fun d => d.parameters.length) = some 2 := by decide +kernel
set_option maxRecDepth 100000 in
set_option maxHeartbeats 4000000 in
theorem wb_X12_printOn_20 {E : xE} {ad : Nat → Nat} {p : Program} {l : Launch} {e : Env} {s : State} {m : MethodId} {args : Array Value} {below : List Frame} {meth : Method} {c : Code} {Q : State → Prop} (G : xG E p s m args meth c cX12_printOn 7 RX12) (hA : ∀ a, s.heap.size ≤ a → xA ad s.heap.size a) (a4 : Int32) (a5 : Int32) (q6 : Nat) (a7 : Int32) (hk_q6 : kd q6 = 10) (a8 : Int32) (μ10 : xM) (K200 : xM → Prop) (K20b : Int32 → xM → Prop) (hq : B_X12_printOn_20 a4 a5 q6 a7 a8 μ10 K200 K20b) {H : Heap} {locs : List Loc} {ls : Array Slot} (hH : xH E ad (xA ad s.heap.size) s.heap μ10 H locs) (hl : lv_has ls 7 [(4, .int a4), (3, .int a5), (0, .ref (ad q6)), (1, .int a7), (5, .int a8)]) (kK200 : ∀ (μ11 : xM), K200  μ11 → ∀ (H : Heap) (locs : List Loc) (ls : Array Slot), xH E ad (xA ad s.heap.size) s.heap μ11 H locs → lv_has ls 7 [] → W p l e (headSpec tX12_printOn ({ frames := 2, cells := 0, slots := 0, locals := 80 } : Room)).room s m args below meth c H locs 0 0 Q (F0 m 164 ls [])) (kK20b : ∀ (a12 : Int32) (μ13 : xM), K20b a12 μ13 → ∀ (H : Heap) (locs : List Loc) (ls : Array Slot), xH E ad (xA ad s.heap.size) s.heap μ13 H locs → lv_has ls 7 [(4, .int a4), (3, .int a5), (0, .ref (ad q6)), (1, .int a7), (5, .int a12)] → W p l e (headSpec tX12_printOn ({ frames := 2, cells := 0, slots := 0, locals := 80 } : Room)).room s m args below meth c H locs 0 0 Q (F0 m 20 ls [])) : W p l e (headSpec tX12_printOn ({ frames := 2, cells := 0, slots := 0, locals := 80 } : Room)).room s m args below meth c H locs 0 0 Q (F0 m 20 ls []) := by
  obtain ⟨hx, hb, hml, hown, hts, hKn, hN, hlk⟩ := id G
  unfold B_X12_printOn_20 at hq
  refine lv_iload hx hb dX12_printOn_20 (lv_at hl 4 rfl) ?_
  refine lv_bipush (v := (16 : Int32)) hx hb dX12_printOn_22 (by decide) ?_
  refine lv_icmp_ge (tgt := 164) hx hb dX12_printOn_24 (by decide) (fun c14 => ?_) (fun c14 => ?_)
  · have hq := hq.1 c14
    exact kK200  μ10 hq _ _ _ hH (lv_sub hl [] rfl)
  · have hq := hq.2 c14
    refine lv_iload hx hb dX12_printOn_27 (lv_at hl 0 rfl) ?_
    refine lv_iload hx hb dX12_printOn_29 (lv_at hl 4 rfl) ?_
    refine x_cSi (As := [.int a4, .int a8]) (rest := []) G hH hA (c_X12_has l E ad μ10 a4 a8  _ hq) (wm_13 _ (List.mem_of_getElem? (i := 13) rfl)) mt_X12_has mn_RX12 mc_X12_has md_X12_has ⟨rfl, rfl, Nat.le_of_ble_eq_true rfl, Nat.le_of_ble_eq_true rfl⟩ rfl hl.1 rfl (Nat.le_of_ble_eq_true rfl) dX12_printOn_31 ⟨Nat.zero_le _, Nat.zero_le _⟩ (fun r16 μ15 hq H locs hH => ?_)
    refine lv_if_eq (tgt := 158) hx hb dX12_printOn_34 (by decide) (fun c17 => ?_) (fun c17 => ?_)
    · have hq := hq.1 c17
      obtain ⟨v18, e_v18⟩ : ∃ y : Int32, y = (a8 + (1 : Int32)) := ⟨_, rfl⟩
      have hq := hq v18 e_v18
      refine lv_iinc (v := v18) (lv' := [(5, .int v18), (4, .int a4), (3, .int a5), (0, .ref (ad q6)), (1, .int a7)]) hx hb dX12_printOn_158 hl (k := 4) rfl (by rw [e_v18]; rfl) (by decide) rfl (fun ls hl => ?_)
      refine lv_goto (tgt := 20) hx hb dX12_printOn_161 (by decide) ?_
      exact kK20b v18 μ15 hq _ _ _ hH (lv_sub hl [1, 2, 3, 4, 0] rfl)
    · have hq := hq.2 c17
      refine lv_iload_n hx hb dX12_printOn_37 rfl (lv_at hl 1 rfl) ?_
      refine lv_if_ne (tgt := 65) hx hb dX12_printOn_38 (by decide) (fun c19 => ?_) (fun c19 => ?_)
      · have hq := hq.1 c19
        refine lv_iload_n hx hb dX12_printOn_65 rfl (lv_at hl 1 rfl) ?_
        refine lv_iconst (v := (1 : Int32)) hx hb dX12_printOn_66 (by decide) ?_
        refine lv_icmp_ne (tgt := 110) hx hb dX12_printOn_67 (by decide) (fun c20 => ?_) (fun c20 => ?_)
        · have hq := hq.1 c20
          refine lv_iload_n hx hb dX12_printOn_110 rfl (lv_at hl 1 rfl) ?_
          refine lv_iconst (v := (2 : Int32)) hx hb dX12_printOn_111 (by decide) ?_
          refine lv_icmp_ne (tgt := 145) hx hb dX12_printOn_112 (by decide) (fun c21 => ?_) (fun c21 => ?_)
          · have hq := hq.1 c21
            refine lv_aload_n hx hb dX12_printOn_145 rfl (lv_at hl 2 rfl) ?_
            refine lv_dup hx hb dX12_printOn_146 rfl ?_
            refine x_get (j := 7) (C := RX12) (T := TX12) (N := 24) (v := .int (μ15.1 q6 7)) G hH hk_q6 (by decide) rfl inlX12 (by decide) (wm_24 _ (List.mem_of_getElem? (i := 16) rfl)) rfl dX12_printOn_147 ?_
            refine lv_iconst (v := (1 : Int32)) hx hb dX12_printOn_150 (by decide) ?_
            refine lv_iload hx hb dX12_printOn_151 (lv_at hl 4 rfl) ?_
            refine lv_ishl hx hb dX12_printOn_153 ?_
            refine lv_ior hx hb dX12_printOn_154 ?_
            refine x_puti (j := 7) (C := RX12) (T := TX12) (N := 24) (ty := .int) G hH hk_q6 (by decide) rfl inlX12 tyX12 tyX12_ok nmX12 (by decide) (wm_24 _ (List.mem_of_getElem? (i := 16) rfl)) rfl (by decide +kernel) rfl rfl (fun _ _ => Nat.le_of_ble_eq_true rfl) (fun _ _ => rfl) dX12_printOn_155 (fun μ22 e_μ22 H locs hH => ?_)
            have hq := hq μ22 e_μ22
            obtain ⟨v23, e_v23⟩ : ∃ y : Int32, y = (a8 + (1 : Int32)) := ⟨_, rfl⟩
            have hq := hq v23 e_v23
            refine lv_iinc (v := v23) (lv' := [(5, .int v23), (4, .int a4), (3, .int a5), (0, .ref (ad q6)), (1, .int a7)]) hx hb dX12_printOn_158 hl (k := 4) rfl (by rw [e_v23]; rfl) (by decide) rfl (fun ls hl => ?_)
            refine lv_goto (tgt := 20) hx hb dX12_printOn_161 (by decide) ?_
            exact kK20b v23 μ22 hq _ _ _ hH (lv_sub hl [1, 2, 3, 4, 0] rfl)
          · have hq := hq.2 c21
            refine lv_aload_n hx hb dX12_printOn_115 rfl (lv_at hl 2 rfl) ?_
            refine x_get (j := 6) (C := RX12) (T := TX12) (N := 24) (v := .ref (ad (rt q6 6))) G hH hk_q6 (by decide) rfl inlX12 (by decide) (wm_6 _ (List.mem_of_getElem? (i := 23) rfl)) rfl dX12_printOn_116 ?_
            refine lv_iload hx hb dX12_printOn_119 (lv_at hl 4 rfl) ?_
            refine lv_dup2_11 hx hb dX12_printOn_121 rfl rfl ?_
            refine x_iald G hH (kt_10_6 _ hk_q6) hq.1 dX12_printOn_122 ?_
            have hq := hq.2
            refine lv_aload_n hx hb dX12_printOn_123 rfl (lv_at hl 2 rfl) ?_
            refine x_get (j := 6) (C := RX12) (T := TX12) (N := 24) (v := .ref (ad (rt q6 6))) G hH hk_q6 (by decide) rfl inlX12 (by decide) (wm_6 _ (List.mem_of_getElem? (i := 23) rfl)) rfl dX12_printOn_124 ?_
            refine lv_iload hx hb dX12_printOn_127 (lv_at hl 4 rfl) ?_
            refine x_iald G hH (kt_10_6 _ hk_q6) hq.1 dX12_printOn_129 ?_
            have hq := hq.2
            refine lv_bipush (v := (9 : Int32)) hx hb dX12_printOn_130 (by decide) ?_
            refine lv_icmp_ge (tgt := 139) hx hb dX12_printOn_132 (by decide) (fun c24 => ?_) (fun c24 => ?_)
            · have hq := hq.1 c24
              refine lv_iconst (v := (0 : Int32)) hx hb dX12_printOn_139 (by decide) ?_
              refine lv_iadd hx hb dX12_printOn_140 ?_
              refine x_iast G hH (kt_10_6 _ hk_q6) hq.1 dX12_printOn_141 (fun μ25 e_μ25 H locs hH => ?_)
              have hq := hq.2 μ25 e_μ25
              refine lv_goto (tgt := 158) hx hb dX12_printOn_142 (by decide) ?_
              obtain ⟨v26, e_v26⟩ : ∃ y : Int32, y = (a8 + (1 : Int32)) := ⟨_, rfl⟩
              have hq := hq v26 e_v26
              refine lv_iinc (v := v26) (lv' := [(5, .int v26), (4, .int a4), (3, .int a5), (0, .ref (ad q6)), (1, .int a7)]) hx hb dX12_printOn_158 hl (k := 4) rfl (by rw [e_v26]; rfl) (by decide) rfl (fun ls hl => ?_)
              refine lv_goto (tgt := 20) hx hb dX12_printOn_161 (by decide) ?_
              exact kK20b v26 μ25 hq _ _ _ hH (lv_sub hl [1, 2, 3, 4, 0] rfl)
            · have hq := hq.2 c24
              refine lv_iconst (v := (1 : Int32)) hx hb dX12_printOn_135 (by decide) ?_
              refine lv_goto (tgt := 140) hx hb dX12_printOn_136 (by decide) ?_
              refine lv_iadd hx hb dX12_printOn_140 ?_
              refine x_iast G hH (kt_10_6 _ hk_q6) hq.1 dX12_printOn_141 (fun μ27 e_μ27 H locs hH => ?_)
              have hq := hq.2 μ27 e_μ27
              refine lv_goto (tgt := 158) hx hb dX12_printOn_142 (by decide) ?_
              obtain ⟨v28, e_v28⟩ : ∃ y : Int32, y = (a8 + (1 : Int32)) := ⟨_, rfl⟩
              have hq := hq v28 e_v28
              refine lv_iinc (v := v28) (lv' := [(5, .int v28), (4, .int a4), (3, .int a5), (0, .ref (ad q6)), (1, .int a7)]) hx hb dX12_printOn_158 hl (k := 4) rfl (by rw [e_v28]; rfl) (by decide) rfl (fun ls hl => ?_)
              refine lv_goto (tgt := 20) hx hb dX12_printOn_161 (by decide) ?_
              exact kK20b v28 μ27 hq _ _ _ hH (lv_sub hl [1, 2, 3, 4, 0] rfl)
        · have hq := hq.2 c20
          refine lv_aload_n hx hb dX12_printOn_70 rfl (lv_at hl 2 rfl) ?_
          refine x_get (j := 5) (C := RX12) (T := TX12) (N := 24) (v := .ref (ad (rt q6 5))) G hH hk_q6 (by decide) rfl inlX12 (by decide) (wm_6 _ (List.mem_of_getElem? (i := 22) rfl)) rfl dX12_printOn_71 ?_
          refine lv_iload hx hb dX12_printOn_74 (lv_at hl 4 rfl) ?_
          refine x_iald G hH (kt_10_5 _ hk_q6) hq.1 dX12_printOn_76 ?_
          have hq := hq.2
          refine lv_aload_n hx hb dX12_printOn_77 rfl (lv_at hl 2 rfl) ?_
          refine lv_iload_n hx hb dX12_printOn_78 rfl (lv_at hl 3 rfl) ?_
          refine lv_iconst (v := (1 : Int32)) hx hb dX12_printOn_79 (by decide) ?_
          refine x_cVi (C := RX12) (T := TX12) (N := 24) (As := [.int a7, .int (1 : Int32)]) (rest := [.int (μ15.1 (rt q6 5) a8.toNatClampNeg)]) G hH hA (c_X12_ofBlock l E ad μ15 q6 a7 (1 : Int32) hk_q6 _ hq) (wm_13 _ (List.mem_of_getElem? (i := 6) rfl)) mi_X12_ofBlock ms_X12_ofBlock mn_RX12 mc_X12_ofBlock rfl md_X12_ofBlock ⟨rfl, rfl, Nat.le_of_ble_eq_true rfl, Nat.le_of_ble_eq_true rfl⟩ hk_q6 (by decide) rfl rfl hl.1 rfl (Nat.le_of_ble_eq_true rfl) dX12_printOn_80 ⟨Nat.zero_le _, Nat.zero_le _⟩ (fun r30 μ29 hq H locs hH => ?_)
          refine lv_iadd hx hb dX12_printOn_83 ?_
          refine lv_bipush (v := (8 : Int32)) hx hb dX12_printOn_84 (by decide) ?_
          refine lv_irem hx hb dX12_printOn_86 (by decide) ?_
          refine lv_topi (fun v31 e_v31 => ?_)
          have hq := hq v31 e_v31
          refine lv_istore (lv' := [(6, .int v31), (4, .int a4), (3, .int a5), (0, .ref (ad q6)), (1, .int a7), (5, .int a8)]) hx hb dX12_printOn_87 hl (by decide) rfl (fun ls hl => ?_)
          refine lv_aload_n hx hb dX12_printOn_89 rfl (lv_at hl 3 rfl) ?_
          refine x_get (j := 5) (C := RX12) (T := TX12) (N := 24) (v := .ref (ad (rt q6 5))) G hH hk_q6 (by decide) rfl inlX12 (by decide) (wm_6 _ (List.mem_of_getElem? (i := 22) rfl)) rfl dX12_printOn_90 ?_
          refine lv_iload hx hb dX12_printOn_93 (lv_at hl 5 rfl) ?_
          refine lv_iload hx hb dX12_printOn_95 (lv_at hl 0 rfl) ?_
          refine lv_if_ne (tgt := 104) hx hb dX12_printOn_97 (by decide) (fun c32 => ?_) (fun c32 => ?_)
          · have hq := hq.1 c32
            refine lv_iload hx hb dX12_printOn_104 (lv_at hl 0 rfl) ?_
            refine x_iast G hH (kt_10_5 _ hk_q6) hq.1 dX12_printOn_106 (fun μ33 e_μ33 H locs hH => ?_)
            have hq := hq.2 μ33 e_μ33
            refine lv_goto (tgt := 158) hx hb dX12_printOn_107 (by decide) ?_
            obtain ⟨v34, e_v34⟩ : ∃ y : Int32, y = (a8 + (1 : Int32)) := ⟨_, rfl⟩
            have hq := hq v34 e_v34
            refine lv_iinc (v := v34) (lv' := [(5, .int v34), (6, .int v31), (4, .int a4), (3, .int a5), (0, .ref (ad q6)), (1, .int a7)]) hx hb dX12_printOn_158 hl (k := 5) rfl (by rw [e_v34]; rfl) (by decide) rfl (fun ls hl => ?_)
            refine lv_goto (tgt := 20) hx hb dX12_printOn_161 (by decide) ?_
            exact kK20b v34 μ33 hq _ _ _ hH (lv_sub hl [2, 3, 4, 5, 0] rfl)
          · have hq := hq.2 c32
            refine lv_iconst (v := (1 : Int32)) hx hb dX12_printOn_100 (by decide) ?_
            refine lv_goto (tgt := 106) hx hb dX12_printOn_101 (by decide) ?_
            refine x_iast G hH (kt_10_5 _ hk_q6) hq.1 dX12_printOn_106 (fun μ35 e_μ35 H locs hH => ?_)
            have hq := hq.2 μ35 e_μ35
            refine lv_goto (tgt := 158) hx hb dX12_printOn_107 (by decide) ?_
            obtain ⟨v36, e_v36⟩ : ∃ y : Int32, y = (a8 + (1 : Int32)) := ⟨_, rfl⟩
            have hq := hq v36 e_v36
            refine lv_iinc (v := v36) (lv' := [(5, .int v36), (6, .int v31), (4, .int a4), (3, .int a5), (0, .ref (ad q6)), (1, .int a7)]) hx hb dX12_printOn_158 hl (k := 5) rfl (by rw [e_v36]; rfl) (by decide) rfl (fun ls hl => ?_)
            refine lv_goto (tgt := 20) hx hb dX12_printOn_161 (by decide) ?_
            exact kK20b v36 μ35 hq _ _ _ hH (lv_sub hl [2, 3, 4, 5, 0] rfl)
      · have hq := hq.2 c19
        refine lv_aload_n hx hb dX12_printOn_41 rfl (lv_at hl 2 rfl) ?_
        refine x_get (j := 5) (C := RX12) (T := TX12) (N := 24) (v := .ref (ad (rt q6 5))) G hH hk_q6 (by decide) rfl inlX12 (by decide) (wm_6 _ (List.mem_of_getElem? (i := 22) rfl)) rfl dX12_printOn_42 ?_
        refine lv_iload hx hb dX12_printOn_45 (lv_at hl 4 rfl) ?_
        refine lv_aload_n hx hb dX12_printOn_47 rfl (lv_at hl 2 rfl) ?_
        refine lv_iload_n hx hb dX12_printOn_48 rfl (lv_at hl 3 rfl) ?_
        refine lv_iconst (v := (1 : Int32)) hx hb dX12_printOn_49 (by decide) ?_
        refine x_cVi (C := RX12) (T := TX12) (N := 24) (As := [.int a7, .int (1 : Int32)]) (rest := [.int a8, .ref (ad (rt q6 5))]) G hH hA (c_X12_ofBlock l E ad μ15 q6 a7 (1 : Int32) hk_q6 _ hq) (wm_13 _ (List.mem_of_getElem? (i := 6) rfl)) mi_X12_ofBlock ms_X12_ofBlock mn_RX12 mc_X12_ofBlock rfl md_X12_ofBlock ⟨rfl, rfl, Nat.le_of_ble_eq_true rfl, Nat.le_of_ble_eq_true rfl⟩ hk_q6 (by decide) rfl rfl hl.1 rfl (Nat.le_of_ble_eq_true rfl) dX12_printOn_50 ⟨Nat.zero_le _, Nat.zero_le _⟩ (fun r38 μ37 hq H locs hH => ?_)
        refine x_iast G hH (kt_10_5 _ hk_q6) hq.1 dX12_printOn_53 (fun μ39 e_μ39 H locs hH => ?_)
        have hq := hq.2 μ39 e_μ39
        refine lv_aload_n hx hb dX12_printOn_54 rfl (lv_at hl 2 rfl) ?_
        refine x_get (j := 6) (C := RX12) (T := TX12) (N := 24) (v := .ref (ad (rt q6 6))) G hH hk_q6 (by decide) rfl inlX12 (by decide) (wm_6 _ (List.mem_of_getElem? (i := 23) rfl)) rfl dX12_printOn_55 ?_
        refine lv_iload hx hb dX12_printOn_58 (lv_at hl 4 rfl) ?_
        refine lv_iconst (v := (0 : Int32)) hx hb dX12_printOn_60 (by decide) ?_
        refine x_iast G hH (kt_10_6 _ hk_q6) hq.1 dX12_printOn_61 (fun μ40 e_μ40 H locs hH => ?_)
        have hq := hq.2 μ40 e_μ40
        refine lv_goto (tgt := 158) hx hb dX12_printOn_62 (by decide) ?_
        obtain ⟨v41, e_v41⟩ : ∃ y : Int32, y = (a8 + (1 : Int32)) := ⟨_, rfl⟩
        have hq := hq v41 e_v41
        refine lv_iinc (v := v41) (lv' := [(5, .int v41), (4, .int a4), (3, .int a5), (0, .ref (ad q6)), (1, .int a7)]) hx hb dX12_printOn_158 hl (k := 4) rfl (by rw [e_v41]; rfl) (by decide) rfl (fun ls hl => ?_)
        refine lv_goto (tgt := 20) hx hb dX12_printOn_161 (by decide) ?_
        exact kK20b v41 μ40 hq _ _ _ hH (lv_sub hl [1, 2, 3, 4, 0] rfl)
set_option maxRecDepth 100000 in
set_option maxHeartbeats 4000000 in
theorem w_X12_printOn_20 {E : xE} {ad : Nat → Nat} {p : Program} {l : Launch} {e : Env} {s : State} {m : MethodId} {args : Array Value} {below : List Frame} {meth : Method} {c : Code} {Q : State → Prop} (G : xG E p s m args meth c cX12_printOn 7 RX12) (hA : ∀ a, s.heap.size ≤ a → xA ad s.heap.size a) (a4 : Int32) (a5 : Int32) (q6 : Nat) (a7 : Int32) (hk_q6 : kd q6 = 10) : ∀ (n : Nat) (a8 : Int32) (μ10 : xM) (K200 : xM → Prop) (hq : L_X12_printOn_20 a4 a5 q6 a7 n a8 μ10 K200) (H : Heap) (locs : List Loc) (ls : Array Slot) (hH : xH E ad (xA ad s.heap.size) s.heap μ10 H locs) (hl : lv_has ls 7 [(4, .int a4), (3, .int a5), (0, .ref (ad q6)), (1, .int a7), (5, .int a8)]) (kK200 : ∀ (μ11 : xM), K200  μ11 → ∀ (H : Heap) (locs : List Loc) (ls : Array Slot), xH E ad (xA ad s.heap.size) s.heap μ11 H locs → lv_has ls 7 [] → W p l e (headSpec tX12_printOn ({ frames := 2, cells := 0, slots := 0, locals := 80 } : Room)).room s m args below meth c H locs 0 0 Q (F0 m 164 ls [])) , W p l e (headSpec tX12_printOn ({ frames := 2, cells := 0, slots := 0, locals := 80 } : Room)).room s m args below meth c H locs 0 0 Q (F0 m 20 ls [])
  | 0, _, _, _, hq, _, _, _, _, _, _ => hq.elim
  | n + 1, a8, μ10, K200, hq, H, locs, ls, hH, hl, kK200 => wb_X12_printOn_20 G hA a4 a5 q6 a7 hk_q6 a8 μ10 K200 _ hq hH hl kK200 (fun x0 y hq H locs ls hH hl => w_X12_printOn_20 G hA a4 a5 q6 a7 hk_q6 n x0 y K200 hq H locs ls hH hl kK200)
set_option maxRecDepth 100000 in
set_option maxHeartbeats 4000000 in
theorem c_X12_printOn (l : Launch) (E : xE) (ad : Nat → Nat) (μ : xM) (q0 : Nat) (p1 : Int32) (p2 : Int32) (hk_q0 : kd q0 = 10) (Qm : xM → Prop) (hq : p_X12_printOn q0 p1 p2 μ Qm) : xMv l yX12_printOn tX12_printOn ({ frames := 2, cells := 0, slots := 0, locals := 80 } : Room) E ad μ [.ref (ad q0), .int p1, .int p2] Qm := by
  refine x_stv (cc := cX12_printOn) (maxL := 7) (ret := none) (own := RX12) rfl (by decide) rfl (Nat.le_of_ble_eq_true rfl) ?_
  intro p e s m args below meth c ls G hr hA hH hl
  obtain ⟨hx, hb, hml, hown, hts, hKn, hN, hlk⟩ := id G
  have hl : lv_has ls 7 [(0, .ref (ad q0)), (1, .int p1), (2, .int p2)] := hl
  have hH : xH E ad (xA ad s.heap.size) s.heap μ s.heap [] := hH
  unfold p_X12_printOn at hq
  refine lv_aload_n hx hb dX12_printOn_0 rfl (lv_at hl 0 rfl) ?_
  refine lv_iload_n hx hb dX12_printOn_1 rfl (lv_at hl 1 rfl) ?_
  refine lv_iconst (v := (0 : Int32)) hx hb dX12_printOn_2 (by decide) ?_
  refine x_cVi (C := RX12) (T := TX12) (N := 24) (As := [.int p1, .int (0 : Int32)]) (rest := []) G hH hA (c_X12_ofBlock l E ad μ q0 p1 (0 : Int32) hk_q0 _ hq) (wm_13 _ (List.mem_of_getElem? (i := 6) rfl)) mi_X12_ofBlock ms_X12_ofBlock mn_RX12 mc_X12_ofBlock rfl md_X12_ofBlock ⟨rfl, rfl, Nat.le_of_ble_eq_true rfl, Nat.le_of_ble_eq_true rfl⟩ hk_q0 (by decide) rfl rfl hl.1 rfl (Nat.le_of_ble_eq_true rfl) dX12_printOn_3 ⟨Nat.zero_le _, Nat.zero_le _⟩ (fun r2 μ1 hq H locs hH => ?_)
  refine lv_istore_n (lv' := [(3, .int r2), (0, .ref (ad q0)), (1, .int p1), (2, .int p2)]) hx hb dX12_printOn_6 rfl hl (by decide) rfl (fun ls hl => ?_)
  refine lv_iload_n hx hb dX12_printOn_7 rfl (lv_at hl 3 rfl) ?_
  refine lv_aload_n hx hb dX12_printOn_8 rfl (lv_at hl 1 rfl) ?_
  refine x_get (j := 7) (C := RX12) (T := TX12) (N := 24) (v := .int (μ1.1 q0 7)) G hH hk_q0 (by decide) rfl inlX12 (by decide) (wm_24 _ (List.mem_of_getElem? (i := 16) rfl)) rfl dX12_printOn_9 ?_
  refine lv_iconst (v := (-1 : Int32)) hx hb dX12_printOn_12 (by decide) ?_
  refine lv_ixor hx hb dX12_printOn_13 ?_
  refine lv_iand hx hb dX12_printOn_14 ?_
  refine lv_topi (fun v3 e_v3 => ?_)
  have hq := hq v3 e_v3
  refine lv_istore (lv' := [(4, .int v3), (3, .int r2), (0, .ref (ad q0)), (1, .int p1), (2, .int p2)]) hx hb dX12_printOn_15 hl (by decide) rfl (fun ls hl => ?_)
  refine lv_iconst (v := (0 : Int32)) hx hb dX12_printOn_17 (by decide) ?_
  refine lv_istore (lv' := [(5, .int (0 : Int32)), (4, .int v3), (3, .int r2), (0, .ref (ad q0)), (1, .int p1), (2, .int p2)]) hx hb dX12_printOn_18 hl (by decide) rfl (fun ls hl => ?_)
  obtain ⟨n9, hq⟩ := hq
  refine w_X12_printOn_20 G hA v3 r2 q0 p1 hk_q0 n9 (0 : Int32) μ1 _ hq _ _ _ hH (lv_sub hl [1, 2, 3, 4, 0] rfl) (fun  μ42 hq H locs ls hH hl => ?_)
  exact x_vret G hr hH hq dX12_printOn_164
abbrev tX12_printAll : List Cond := Cond.code yX12_printAll cX12_printAll 2 none :: wsL_law
theorem mi_X12_printAll : Cond.instanceMethod yX12_printAll ∈ wsL_law := (wm_24 _ (List.mem_of_getElem? (i := 9) rfl))
theorem ms_X12_printAll : Cond.selects RX12 yX12_printAll yX12_printAll ∈ wsL_law := (wm_24 _ (List.mem_of_getElem? (i := 10) rfl))
theorem mc_X12_printAll : Cond.code yX12_printAll cX12_printAll 2 none ∈ wsL_law := (wm_24 _ (List.mem_of_getElem? (i := 11) rfl))
theorem md_X12_printAll : yX12_printAll.cls ≠ "java/lang/invoke/MethodHandle" ∧ yX12_printAll.cls ≠ "java/lang/invoke/VarHandle" ∧ (parseMethodDescriptor yX12_printAll.desc).map (fun d => d.parameters.length) = some 0 := by decide +kernel
set_option maxRecDepth 100000 in
set_option maxHeartbeats 4000000 in
theorem wb_X12_printAll_6 {E : xE} {ad : Nat → Nat} {p : Program} {l : Launch} {e : Env} {s : State} {m : MethodId} {args : Array Value} {below : List Frame} {meth : Method} {c : Code} {Q : State → Prop} (G : xG E p s m args meth c cX12_printAll 2 RX12) (hA : ∀ a, s.heap.size ≤ a → xA ad s.heap.size a) (q2 : Nat) (hk_q2 : kd q2 = 10) (a3 : Int32) (μ5 : xM) (K60 : xM → Prop) (K6b : Int32 → xM → Prop) (hq : B_X12_printAll_6 q2 a3 μ5 K60 K6b) {H : Heap} {locs : List Loc} {ls : Array Slot} (hH : xH E ad (xA ad s.heap.size) s.heap μ5 H locs) (hl : lv_has ls 2 [(0, .ref (ad q2)), (1, .int a3)]) (kK60 : ∀ (μ6 : xM), K60  μ6 → ∀ (H : Heap) (locs : List Loc) (ls : Array Slot), xH E ad (xA ad s.heap.size) s.heap μ6 H locs → lv_has ls 2 [] → W p l e (headSpec tX12_printAll ({ frames := 3, cells := 0, slots := 0, locals := 120 } : Room)).room s m args below meth c H locs 0 0 Q (F0 m 43 ls [])) (kK6b : ∀ (a7 : Int32) (μ8 : xM), K6b a7 μ8 → ∀ (H : Heap) (locs : List Loc) (ls : Array Slot), xH E ad (xA ad s.heap.size) s.heap μ8 H locs → lv_has ls 2 [(0, .ref (ad q2)), (1, .int a7)] → W p l e (headSpec tX12_printAll ({ frames := 3, cells := 0, slots := 0, locals := 120 } : Room)).room s m args below meth c H locs 0 0 Q (F0 m 6 ls [])) : W p l e (headSpec tX12_printAll ({ frames := 3, cells := 0, slots := 0, locals := 120 } : Room)).room s m args below meth c H locs 0 0 Q (F0 m 6 ls []) := by
  obtain ⟨hx, hb, hml, hown, hts, hKn, hN, hlk⟩ := id G
  unfold B_X12_printAll_6 at hq
  refine lv_iload_n hx hb dX12_printAll_6 rfl (lv_at hl 1 rfl) ?_
  refine lv_aload_n hx hb dX12_printAll_7 rfl (lv_at hl 0 rfl) ?_
  refine x_get (j := 0) (C := RX12) (T := TX12) (N := 24) (v := .ref (ad (rt q2 0))) G hH hk_q2 (by decide) rfl inlX12 (by decide) (wm_6 _ (List.mem_of_getElem? (i := 18) rfl)) rfl dX12_printAll_8 ?_
  refine lv_iconst (v := (0 : Int32)) hx hb dX12_printAll_11 (by decide) ?_
  refine x_iald G hH (kt_10_0 _ hk_q2) hq.1 dX12_printAll_12 ?_
  have hq := hq.2
  refine lv_icmp_ge (tgt := 43) hx hb dX12_printAll_13 (by decide) (fun c9 => ?_) (fun c9 => ?_)
  · have hq := hq.1 c9
    exact kK60  μ5 hq _ _ _ hH (lv_sub hl [] rfl)
  · have hq := hq.2 c9
    refine lv_aload_n hx hb dX12_printAll_16 rfl (lv_at hl 0 rfl) ?_
    refine lv_aload_n hx hb dX12_printAll_17 rfl (lv_at hl 0 rfl) ?_
    refine x_get (j := 8) (C := RX12) (T := TX12) (N := 24) (v := .ref (ad (rt q2 8))) G hH hk_q2 (by decide) rfl inlX12 (by decide) (wm_7 _ (List.mem_of_getElem? (i := 0) rfl)) rfl dX12_printAll_18 ?_
    refine lv_iload_n hx hb dX12_printAll_21 rfl (lv_at hl 1 rfl) ?_
    refine x_iald G hH (kt_10_8 _ hk_q2) hq.1 dX12_printAll_22 ?_
    have hq := hq.2
    refine lv_aload_n hx hb dX12_printAll_23 rfl (lv_at hl 0 rfl) ?_
    refine x_get (j := 12) (C := RX12) (T := TX12) (N := 24) (v := .ref (ad (rt q2 12))) G hH hk_q2 (by decide) rfl inlX12 (by decide) (wm_7 _ (List.mem_of_getElem? (i := 2) rfl)) rfl dX12_printAll_24 ?_
    refine lv_aload_n hx hb dX12_printAll_27 rfl (lv_at hl 0 rfl) ?_
    refine x_get (j := 8) (C := RX12) (T := TX12) (N := 24) (v := .ref (ad (rt q2 8))) G hH hk_q2 (by decide) rfl inlX12 (by decide) (wm_7 _ (List.mem_of_getElem? (i := 0) rfl)) rfl dX12_printAll_28 ?_
    refine lv_iload_n hx hb dX12_printAll_31 rfl (lv_at hl 1 rfl) ?_
    refine x_iald G hH (kt_10_8 _ hk_q2) hq.1 dX12_printAll_32 ?_
    have hq := hq.2
    refine x_iald G hH (kt_10_12 _ hk_q2) hq.1 dX12_printAll_33 ?_
    have hq := hq.2
    refine x_cVv (C := RX12) (T := TX12) (N := 24) (As := [.int (μ5.1 (rt q2 8) a3.toNatClampNeg), .int (μ5.1 (rt q2 12) (μ5.1 (rt q2 8) a3.toNatClampNeg).toNatClampNeg)]) (rest := []) G hH hA (c_X12_printOn l E ad μ5 q2 (μ5.1 (rt q2 8) a3.toNatClampNeg) (μ5.1 (rt q2 12) (μ5.1 (rt q2 8) a3.toNatClampNeg).toNatClampNeg) hk_q2 _ hq) (wm_24 _ (List.mem_of_getElem? (i := 17) rfl)) mi_X12_printOn ms_X12_printOn mn_RX12 mc_X12_printOn rfl md_X12_printOn ⟨rfl, rfl, Nat.le_of_ble_eq_true rfl, Nat.le_of_ble_eq_true rfl⟩ hk_q2 (by decide) rfl rfl hl.1 rfl (Nat.le_of_ble_eq_true rfl) dX12_printAll_34 ⟨Nat.zero_le _, Nat.zero_le _⟩ (fun μ10 hq H locs hH => ?_)
    obtain ⟨v11, e_v11⟩ : ∃ y : Int32, y = (a3 + (1 : Int32)) := ⟨_, rfl⟩
    have hq := hq v11 e_v11
    refine lv_iinc (v := v11) (lv' := [(1, .int v11), (0, .ref (ad q2))]) hx hb dX12_printAll_37 hl (k := 1) rfl (by rw [e_v11]; rfl) (by decide) rfl (fun ls hl => ?_)
    refine lv_goto (tgt := 6) hx hb dX12_printAll_40 (by decide) ?_
    exact kK6b v11 μ10 hq _ _ _ hH (lv_sub hl [1, 0] rfl)
set_option maxRecDepth 100000 in
set_option maxHeartbeats 4000000 in
theorem w_X12_printAll_6 {E : xE} {ad : Nat → Nat} {p : Program} {l : Launch} {e : Env} {s : State} {m : MethodId} {args : Array Value} {below : List Frame} {meth : Method} {c : Code} {Q : State → Prop} (G : xG E p s m args meth c cX12_printAll 2 RX12) (hA : ∀ a, s.heap.size ≤ a → xA ad s.heap.size a) (q2 : Nat) (hk_q2 : kd q2 = 10) : ∀ (n : Nat) (a3 : Int32) (μ5 : xM) (K60 : xM → Prop) (hq : L_X12_printAll_6 q2 n a3 μ5 K60) (H : Heap) (locs : List Loc) (ls : Array Slot) (hH : xH E ad (xA ad s.heap.size) s.heap μ5 H locs) (hl : lv_has ls 2 [(0, .ref (ad q2)), (1, .int a3)]) (kK60 : ∀ (μ6 : xM), K60  μ6 → ∀ (H : Heap) (locs : List Loc) (ls : Array Slot), xH E ad (xA ad s.heap.size) s.heap μ6 H locs → lv_has ls 2 [] → W p l e (headSpec tX12_printAll ({ frames := 3, cells := 0, slots := 0, locals := 120 } : Room)).room s m args below meth c H locs 0 0 Q (F0 m 43 ls [])) , W p l e (headSpec tX12_printAll ({ frames := 3, cells := 0, slots := 0, locals := 120 } : Room)).room s m args below meth c H locs 0 0 Q (F0 m 6 ls [])
  | 0, _, _, _, hq, _, _, _, _, _, _ => hq.elim
  | n + 1, a3, μ5, K60, hq, H, locs, ls, hH, hl, kK60 => wb_X12_printAll_6 G hA q2 hk_q2 a3 μ5 K60 _ hq hH hl kK60 (fun x0 y hq H locs ls hH hl => w_X12_printAll_6 G hA q2 hk_q2 n x0 y K60 hq H locs ls hH hl kK60)
set_option maxRecDepth 100000 in
set_option maxHeartbeats 4000000 in
theorem c_X12_printAll (l : Launch) (E : xE) (ad : Nat → Nat) (μ : xM) (q0 : Nat) (hk_q0 : kd q0 = 10) (Qm : xM → Prop) (hq : p_X12_printAll q0 μ Qm) : xMv l yX12_printAll tX12_printAll ({ frames := 3, cells := 0, slots := 0, locals := 120 } : Room) E ad μ [.ref (ad q0)] Qm := by
  refine x_stv (cc := cX12_printAll) (maxL := 2) (ret := none) (own := RX12) rfl (by decide) rfl (Nat.le_of_ble_eq_true rfl) ?_
  intro p e s m args below meth c ls G hr hA hH hl
  obtain ⟨hx, hb, hml, hown, hts, hKn, hN, hlk⟩ := id G
  have hl : lv_has ls 2 [(0, .ref (ad q0))] := hl
  have hH : xH E ad (xA ad s.heap.size) s.heap μ s.heap [] := hH
  unfold p_X12_printAll at hq
  refine lv_aload_n hx hb dX12_printAll_0 rfl (lv_at hl 0 rfl) ?_
  refine x_cVv (C := RX12) (T := TX12) (N := 24) (As := []) (rest := []) G hH hA (c_X12_clearSheet l E ad μ q0 hk_q0 _ hq) (wm_24 _ (List.mem_of_getElem? (i := 12) rfl)) mi_X12_clearSheet ms_X12_clearSheet mn_RX12 mc_X12_clearSheet rfl md_X12_clearSheet ⟨rfl, rfl, Nat.le_of_ble_eq_true rfl, Nat.le_of_ble_eq_true rfl⟩ hk_q0 (by decide) rfl rfl hl.1 rfl (Nat.le_of_ble_eq_true rfl) dX12_printAll_1 ⟨Nat.zero_le _, Nat.zero_le _⟩ (fun μ1 hq H locs hH => ?_)
  refine lv_iconst (v := (0 : Int32)) hx hb dX12_printAll_4 (by decide) ?_
  refine lv_istore_n (lv' := [(1, .int (0 : Int32)), (0, .ref (ad q0))]) hx hb dX12_printAll_5 rfl hl (by decide) rfl (fun ls hl => ?_)
  obtain ⟨n4, hq⟩ := hq
  refine w_X12_printAll_6 G hA q0 hk_q0 n4 (0 : Int32) μ1 _ hq _ _ _ hH (lv_sub hl [1, 0] rfl) (fun  μ12 hq H locs ls hH hl => ?_)
  exact x_vret G hr hH hq dX12_printAll_43
abbrev tX12_hits : List Cond := Cond.code yX12_hits cX12_hits 3 (some .int) :: wsL_law
theorem mi_X12_hits : Cond.instanceMethod yX12_hits ∈ wsL_law := (wm_24 _ (List.mem_of_getElem? (i := 22) rfl))
theorem ms_X12_hits : Cond.selects RX12 yX12_hits yX12_hits ∈ wsL_law := (wm_24 _ (List.mem_of_getElem? (i := 23) rfl))
theorem mc_X12_hits : Cond.code yX12_hits cX12_hits 3 (some .int) ∈ wsL_law := (wm_25 _ (List.mem_of_getElem? (i := 0) rfl))
theorem md_X12_hits : yX12_hits.cls ≠ "java/lang/invoke/MethodHandle" ∧ yX12_hits.cls ≠ "java/lang/invoke/VarHandle" ∧ (parseMethodDescriptor yX12_hits.desc).map (fun d => d.parameters.length) = some 0 := by decide +kernel
set_option maxRecDepth 100000 in
set_option maxHeartbeats 4000000 in
theorem wb_X12_hits_4 {E : xE} {ad : Nat → Nat} {p : Program} {l : Launch} {e : Env} {s : State} {m : MethodId} {args : Array Value} {below : List Frame} {meth : Method} {c : Code} {Q : State → Prop} (G : xG E p s m args meth c cX12_hits 3 RX12) (hA : ∀ a, s.heap.size ≤ a → xA ad s.heap.size a) (q1 : Nat) (hk_q1 : kd q1 = 10) (a2 : Int32) (a3 : Int32) (μ5 : xM) (K40 : Int32 → xM → Prop) (K4b : Int32 → Int32 → xM → Prop) (hq : B_X12_hits_4 q1 a2 a3 μ5 K40 K4b) {H : Heap} {locs : List Loc} {ls : Array Slot} (hH : xH E ad (xA ad s.heap.size) s.heap μ5 H locs) (hl : lv_has ls 3 [(0, .ref (ad q1)), (2, .int a2), (1, .int a3)]) (kK40 : ∀ (a6 : Int32) (μ7 : xM), K40 a6 μ7 → ∀ (H : Heap) (locs : List Loc) (ls : Array Slot), xH E ad (xA ad s.heap.size) s.heap μ7 H locs → lv_has ls 3 [(1, .int a6)] → W p l e (headSpec tX12_hits ({ frames := 1, cells := 0, slots := 0, locals := 40 } : Room)).room s m args below meth c H locs 0 0 Q (F0 m 42 ls [])) (kK4b : ∀ (a8 : Int32) (a9 : Int32) (μ10 : xM), K4b a8 a9 μ10 → ∀ (H : Heap) (locs : List Loc) (ls : Array Slot), xH E ad (xA ad s.heap.size) s.heap μ10 H locs → lv_has ls 3 [(0, .ref (ad q1)), (2, .int a8), (1, .int a9)] → W p l e (headSpec tX12_hits ({ frames := 1, cells := 0, slots := 0, locals := 40 } : Room)).room s m args below meth c H locs 0 0 Q (F0 m 4 ls [])) : W p l e (headSpec tX12_hits ({ frames := 1, cells := 0, slots := 0, locals := 40 } : Room)).room s m args below meth c H locs 0 0 Q (F0 m 4 ls []) := by
  obtain ⟨hx, hb, hml, hown, hts, hKn, hN, hlk⟩ := id G
  unfold B_X12_hits_4 at hq
  refine lv_iload_n hx hb dX12_hits_4 rfl (lv_at hl 1 rfl) ?_
  refine lv_bipush (v := (16 : Int32)) hx hb dX12_hits_5 (by decide) ?_
  refine lv_icmp_ge (tgt := 42) hx hb dX12_hits_7 (by decide) (fun c11 => ?_) (fun c11 => ?_)
  · have hq := hq.1 c11
    exact kK40 a3 μ5 hq _ _ _ hH (lv_sub hl [2] rfl)
  · have hq := hq.2 c11
    refine lv_iload_n hx hb dX12_hits_10 rfl (lv_at hl 2 rfl) ?_
    refine lv_aload_n hx hb dX12_hits_11 rfl (lv_at hl 0 rfl) ?_
    refine x_get (j := 5) (C := RX12) (T := TX12) (N := 24) (v := .ref (ad (rt q1 5))) G hH hk_q1 (by decide) rfl inlX12 (by decide) (wm_6 _ (List.mem_of_getElem? (i := 22) rfl)) rfl dX12_hits_12 ?_
    refine lv_iload_n hx hb dX12_hits_15 rfl (lv_at hl 1 rfl) ?_
    refine x_iald G hH (kt_10_5 _ hk_q1) hq.1 dX12_hits_16 ?_
    have hq := hq.2
    refine lv_aload_n hx hb dX12_hits_17 rfl (lv_at hl 0 rfl) ?_
    refine x_get (j := 0) (C := RX12) (T := TX12) (N := 24) (v := .ref (ad (rt q1 0))) G hH hk_q1 (by decide) rfl inlX12 (by decide) (wm_6 _ (List.mem_of_getElem? (i := 18) rfl)) rfl dX12_hits_18 ?_
    refine lv_bipush (v := (43 : Int32)) hx hb dX12_hits_21 (by decide) ?_
    refine lv_iload_n hx hb dX12_hits_23 rfl (lv_at hl 1 rfl) ?_
    refine lv_iadd hx hb dX12_hits_24 ?_
    refine x_iald G hH (kt_10_0 _ hk_q1) hq.1 dX12_hits_25 ?_
    have hq := hq.2
    refine lv_icmp_ne (tgt := 33) hx hb dX12_hits_26 (by decide) (fun c12 => ?_) (fun c12 => ?_)
    · have hq := hq.1 c12
      refine lv_iconst (v := (0 : Int32)) hx hb dX12_hits_33 (by decide) ?_
      refine lv_iadd hx hb dX12_hits_34 ?_
      refine lv_topi (fun v13 e_v13 => ?_)
      have hq := hq v13 e_v13
      refine lv_istore_n (lv' := [(1, .int v13), (0, .ref (ad q1)), (2, .int a2)]) hx hb dX12_hits_35 rfl hl (by decide) rfl (fun ls hl => ?_)
      obtain ⟨v14, e_v14⟩ : ∃ y : Int32, y = (a2 + (1 : Int32)) := ⟨_, rfl⟩
      have hq := hq v14 e_v14
      refine lv_iinc (v := v14) (lv' := [(2, .int v14), (1, .int v13), (0, .ref (ad q1))]) hx hb dX12_hits_36 hl (k := 2) rfl (by rw [e_v14]; rfl) (by decide) rfl (fun ls hl => ?_)
      refine lv_goto (tgt := 4) hx hb dX12_hits_39 (by decide) ?_
      exact kK4b v14 v13 μ5 hq _ _ _ hH (lv_sub hl [2, 0, 1] rfl)
    · have hq := hq.2 c12
      refine lv_iconst (v := (1 : Int32)) hx hb dX12_hits_29 (by decide) ?_
      refine lv_goto (tgt := 34) hx hb dX12_hits_30 (by decide) ?_
      refine lv_iadd hx hb dX12_hits_34 ?_
      refine lv_topi (fun v15 e_v15 => ?_)
      have hq := hq v15 e_v15
      refine lv_istore_n (lv' := [(1, .int v15), (0, .ref (ad q1)), (2, .int a2)]) hx hb dX12_hits_35 rfl hl (by decide) rfl (fun ls hl => ?_)
      obtain ⟨v16, e_v16⟩ : ∃ y : Int32, y = (a2 + (1 : Int32)) := ⟨_, rfl⟩
      have hq := hq v16 e_v16
      refine lv_iinc (v := v16) (lv' := [(2, .int v16), (1, .int v15), (0, .ref (ad q1))]) hx hb dX12_hits_36 hl (k := 2) rfl (by rw [e_v16]; rfl) (by decide) rfl (fun ls hl => ?_)
      refine lv_goto (tgt := 4) hx hb dX12_hits_39 (by decide) ?_
      exact kK4b v16 v15 μ5 hq _ _ _ hH (lv_sub hl [2, 0, 1] rfl)
set_option maxRecDepth 100000 in
set_option maxHeartbeats 4000000 in
theorem w_X12_hits_4 {E : xE} {ad : Nat → Nat} {p : Program} {l : Launch} {e : Env} {s : State} {m : MethodId} {args : Array Value} {below : List Frame} {meth : Method} {c : Code} {Q : State → Prop} (G : xG E p s m args meth c cX12_hits 3 RX12) (hA : ∀ a, s.heap.size ≤ a → xA ad s.heap.size a) (q1 : Nat) (hk_q1 : kd q1 = 10) : ∀ (n : Nat) (a2 : Int32) (a3 : Int32) (μ5 : xM) (K40 : Int32 → xM → Prop) (hq : L_X12_hits_4 q1 n a2 a3 μ5 K40) (H : Heap) (locs : List Loc) (ls : Array Slot) (hH : xH E ad (xA ad s.heap.size) s.heap μ5 H locs) (hl : lv_has ls 3 [(0, .ref (ad q1)), (2, .int a2), (1, .int a3)]) (kK40 : ∀ (a6 : Int32) (μ7 : xM), K40 a6 μ7 → ∀ (H : Heap) (locs : List Loc) (ls : Array Slot), xH E ad (xA ad s.heap.size) s.heap μ7 H locs → lv_has ls 3 [(1, .int a6)] → W p l e (headSpec tX12_hits ({ frames := 1, cells := 0, slots := 0, locals := 40 } : Room)).room s m args below meth c H locs 0 0 Q (F0 m 42 ls [])) , W p l e (headSpec tX12_hits ({ frames := 1, cells := 0, slots := 0, locals := 40 } : Room)).room s m args below meth c H locs 0 0 Q (F0 m 4 ls [])
  | 0, _, _, _, _, hq, _, _, _, _, _, _ => hq.elim
  | n + 1, a2, a3, μ5, K40, hq, H, locs, ls, hH, hl, kK40 => wb_X12_hits_4 G hA q1 hk_q1 a2 a3 μ5 K40 _ hq hH hl kK40 (fun x0 x1 y hq H locs ls hH hl => w_X12_hits_4 G hA q1 hk_q1 n x0 x1 y K40 hq H locs ls hH hl kK40)
set_option maxRecDepth 100000 in
set_option maxHeartbeats 4000000 in
theorem c_X12_hits (l : Launch) (E : xE) (ad : Nat → Nat) (μ : xM) (q0 : Nat) (hk_q0 : kd q0 = 10) (Qm : Int32 → xM → Prop) (hq : p_X12_hits q0 μ Qm) : xMi l yX12_hits tX12_hits ({ frames := 1, cells := 0, slots := 0, locals := 40 } : Room) E ad μ [.ref (ad q0)] Qm := by
  refine x_sti (cc := cX12_hits) (maxL := 3) (ret := (some .int)) (own := RX12) rfl (by decide) rfl (Nat.le_of_ble_eq_true rfl) ?_
  intro p e s m args below meth c ls G hr hA hH hl
  obtain ⟨hx, hb, hml, hown, hts, hKn, hN, hlk⟩ := id G
  have hl : lv_has ls 3 [(0, .ref (ad q0))] := hl
  have hH : xH E ad (xA ad s.heap.size) s.heap μ s.heap [] := hH
  unfold p_X12_hits at hq
  refine lv_iconst (v := (0 : Int32)) hx hb dX12_hits_0 (by decide) ?_
  refine lv_istore_n (lv' := [(1, .int (0 : Int32)), (0, .ref (ad q0))]) hx hb dX12_hits_1 rfl hl (by decide) rfl (fun ls hl => ?_)
  refine lv_iconst (v := (0 : Int32)) hx hb dX12_hits_2 (by decide) ?_
  refine lv_istore_n (lv' := [(2, .int (0 : Int32)), (1, .int (0 : Int32)), (0, .ref (ad q0))]) hx hb dX12_hits_3 rfl hl (by decide) rfl (fun ls hl => ?_)
  obtain ⟨n4, hq⟩ := hq
  refine w_X12_hits_4 G hA q0 hk_q0 n4 (0 : Int32) (0 : Int32) μ _ hq _ _ _ hH (lv_sub hl [2, 0, 1] rfl) (fun a17 μ18 hq H locs ls hH hl => ?_)
  refine lv_iload_n hx hb dX12_hits_42 rfl (lv_at hl 0 rfl) ?_
  exact x_iret G hr hH hq dX12_hits_43
abbrev tX12_exchange : List Cond := Cond.code yX12_exchange cX12_exchange 4 none :: wsL_law
theorem mi_X12_exchange : Cond.instanceMethod yX12_exchange ∈ wsL_law := (wm_19 _ (List.mem_of_getElem? (i := 1) rfl))
theorem ms_X12_exchange : Cond.selects RX12 yX12_exchange yX12_exchange ∈ wsL_law := (wm_19 _ (List.mem_of_getElem? (i := 2) rfl))
theorem mc_X12_exchange : Cond.code yX12_exchange cX12_exchange 4 none ∈ wsL_law := (wm_19 _ (List.mem_of_getElem? (i := 3) rfl))
theorem md_X12_exchange : yX12_exchange.cls ≠ "java/lang/invoke/MethodHandle" ∧ yX12_exchange.cls ≠ "java/lang/invoke/VarHandle" ∧ (parseMethodDescriptor yX12_exchange.desc).map (fun d => d.parameters.length) = some 2 := by decide +kernel
set_option maxRecDepth 100000 in
set_option maxHeartbeats 4000000 in
theorem c_X12_exchange (l : Launch) (E : xE) (ad : Nat → Nat) (μ : xM) (q0 : Nat) (p1 : Int32) (p2 : Int32) (hk_q0 : kd q0 = 10) (Qm : xM → Prop) (hq : p_X12_exchange q0 p1 p2 μ Qm) : xMv l yX12_exchange tX12_exchange ({ frames := 1, cells := 0, slots := 0, locals := 40 } : Room) E ad μ [.ref (ad q0), .int p1, .int p2] Qm := by
  refine x_stv (cc := cX12_exchange) (maxL := 4) (ret := none) (own := RX12) rfl (by decide) rfl (Nat.le_of_ble_eq_true rfl) ?_
  intro p e s m args below meth c ls G hr hA hH hl
  obtain ⟨hx, hb, hml, hown, hts, hKn, hN, hlk⟩ := id G
  have hl : lv_has ls 4 [(0, .ref (ad q0)), (1, .int p1), (2, .int p2)] := hl
  have hH : xH E ad (xA ad s.heap.size) s.heap μ s.heap [] := hH
  unfold p_X12_exchange at hq
  refine lv_aload_n hx hb dX12_exchange_0 rfl (lv_at hl 0 rfl) ?_
  refine x_get (j := 8) (C := RX12) (T := TX12) (N := 24) (v := .ref (ad (rt q0 8))) G hH hk_q0 (by decide) rfl inlX12 (by decide) (wm_7 _ (List.mem_of_getElem? (i := 0) rfl)) rfl dX12_exchange_1 ?_
  refine lv_iload_n hx hb dX12_exchange_4 rfl (lv_at hl 1 rfl) ?_
  refine x_iald G hH (kt_10_8 _ hk_q0) hq.1 dX12_exchange_5 ?_
  have hq := hq.2
  refine lv_topi (fun v1 e_v1 => ?_)
  have hq := hq v1 e_v1
  refine lv_istore_n (lv' := [(3, .int v1), (0, .ref (ad q0)), (1, .int p1), (2, .int p2)]) hx hb dX12_exchange_6 rfl hl (by decide) rfl (fun ls hl => ?_)
  refine lv_aload_n hx hb dX12_exchange_7 rfl (lv_at hl 1 rfl) ?_
  refine x_get (j := 8) (C := RX12) (T := TX12) (N := 24) (v := .ref (ad (rt q0 8))) G hH hk_q0 (by decide) rfl inlX12 (by decide) (wm_7 _ (List.mem_of_getElem? (i := 0) rfl)) rfl dX12_exchange_8 ?_
  refine lv_iload_n hx hb dX12_exchange_11 rfl (lv_at hl 2 rfl) ?_
  refine lv_aload_n hx hb dX12_exchange_12 rfl (lv_at hl 1 rfl) ?_
  refine x_get (j := 8) (C := RX12) (T := TX12) (N := 24) (v := .ref (ad (rt q0 8))) G hH hk_q0 (by decide) rfl inlX12 (by decide) (wm_7 _ (List.mem_of_getElem? (i := 0) rfl)) rfl dX12_exchange_13 ?_
  refine lv_iload_n hx hb dX12_exchange_16 rfl (lv_at hl 3 rfl) ?_
  refine x_iald G hH (kt_10_8 _ hk_q0) hq.1 dX12_exchange_17 ?_
  have hq := hq.2
  refine x_iast G hH (kt_10_8 _ hk_q0) hq.1 dX12_exchange_18 (fun μ2 e_μ2 H locs hH => ?_)
  have hq := hq.2 μ2 e_μ2
  refine lv_aload_n hx hb dX12_exchange_19 rfl (lv_at hl 1 rfl) ?_
  refine x_get (j := 8) (C := RX12) (T := TX12) (N := 24) (v := .ref (ad (rt q0 8))) G hH hk_q0 (by decide) rfl inlX12 (by decide) (wm_7 _ (List.mem_of_getElem? (i := 0) rfl)) rfl dX12_exchange_20 ?_
  refine lv_iload_n hx hb dX12_exchange_23 rfl (lv_at hl 3 rfl) ?_
  refine lv_iload_n hx hb dX12_exchange_24 rfl (lv_at hl 0 rfl) ?_
  refine x_iast G hH (kt_10_8 _ hk_q0) hq.1 dX12_exchange_25 (fun μ3 e_μ3 H locs hH => ?_)
  have hq := hq.2 μ3 e_μ3
  exact x_vret G hr hH hq dX12_exchange_26
abbrev tX12_goesOn : List Cond := Cond.code yX12_goesOn cX12_goesOn 5 (some .boolean) :: wsL_law
theorem mi_X12_goesOn : Cond.instanceMethod yX12_goesOn ∈ wsL_law := (wm_18 _ (List.mem_of_getElem? (i := 21) rfl))
theorem ms_X12_goesOn : Cond.selects RX12 yX12_goesOn yX12_goesOn ∈ wsL_law := (wm_18 _ (List.mem_of_getElem? (i := 22) rfl))
theorem mc_X12_goesOn : Cond.code yX12_goesOn cX12_goesOn 5 (some .boolean) ∈ wsL_law := (wm_18 _ (List.mem_of_getElem? (i := 23) rfl))
theorem md_X12_goesOn : yX12_goesOn.cls ≠ "java/lang/invoke/MethodHandle" ∧ yX12_goesOn.cls ≠ "java/lang/invoke/VarHandle" ∧ (parseMethodDescriptor yX12_goesOn.desc).map (fun d => d.parameters.length) = some 0 := by decide +kernel
set_option maxRecDepth 100000 in
set_option maxHeartbeats 4000000 in
theorem wb_X12_goesOn_9 {E : xE} {ad : Nat → Nat} {p : Program} {l : Launch} {e : Env} {s : State} {m : MethodId} {args : Array Value} {below : List Frame} {meth : Method} {c : Code} {Q : State → Prop} (G : xG E p s m args meth c cX12_goesOn 5 RX12) (hA : ∀ a, s.heap.size ≤ a → xA ad s.heap.size a) (q2 : Nat) (hk_q2 : kd q2 = 10) (a3 : Int32) (μ5 : xM) (K90 : Int32 → xM → Prop) (K9b : Int32 → xM → Prop) (hq : B_X12_goesOn_9 q2 a3 μ5 K90 K9b) {H : Heap} {locs : List Loc} {ls : Array Slot} (hH : xH E ad (xA ad s.heap.size) s.heap μ5 H locs) (hl : lv_has ls 5 [(0, .ref (ad q2)), (1, .int a3)]) (kK90 : ∀ (a6 : Int32) (μ7 : xM), K90 a6 μ7 → ∀ (H : Heap) (locs : List Loc) (ls : Array Slot), xH E ad (xA ad s.heap.size) s.heap μ7 H locs → lv_has ls 5 [(0, .ref (ad q2)), (1, .int a6)] → W p l e (headSpec tX12_goesOn ({ frames := 2, cells := 0, slots := 0, locals := 80 } : Room)).room s m args below meth c H locs 0 0 Q (F0 m 36 ls [])) (kK9b : ∀ (a8 : Int32) (μ9 : xM), K9b a8 μ9 → ∀ (H : Heap) (locs : List Loc) (ls : Array Slot), xH E ad (xA ad s.heap.size) s.heap μ9 H locs → lv_has ls 5 [(0, .ref (ad q2)), (1, .int a8)] → W p l e (headSpec tX12_goesOn ({ frames := 2, cells := 0, slots := 0, locals := 80 } : Room)).room s m args below meth c H locs 0 0 Q (F0 m 9 ls [])) : W p l e (headSpec tX12_goesOn ({ frames := 2, cells := 0, slots := 0, locals := 80 } : Room)).room s m args below meth c H locs 0 0 Q (F0 m 9 ls []) := by
  obtain ⟨hx, hb, hml, hown, hts, hKn, hN, hlk⟩ := id G
  unfold B_X12_goesOn_9 at hq
  refine lv_iload_n hx hb dX12_goesOn_9 rfl (lv_at hl 1 rfl) ?_
  refine lv_if_lt (tgt := 36) hx hb dX12_goesOn_10 (by decide) (fun c10 => ?_) (fun c10 => ?_)
  · have hq := hq.1 c10
    exact kK90 a3 μ5 hq _ _ _ hH (lv_sub hl [0, 1] rfl)
  · have hq := hq.2 c10
    refine lv_aload_n hx hb dX12_goesOn_13 rfl (lv_at hl 0 rfl) ?_
    refine x_get (j := 8) (C := RX12) (T := TX12) (N := 24) (v := .ref (ad (rt q2 8))) G hH hk_q2 (by decide) rfl inlX12 (by decide) (wm_7 _ (List.mem_of_getElem? (i := 0) rfl)) rfl dX12_goesOn_14 ?_
    refine lv_iload_n hx hb dX12_goesOn_17 rfl (lv_at hl 1 rfl) ?_
    refine x_iald G hH (kt_10_8 _ hk_q2) hq.1 dX12_goesOn_18 ?_
    have hq := hq.2
    refine lv_aload_n hx hb dX12_goesOn_19 rfl (lv_at hl 0 rfl) ?_
    refine x_get (j := 8) (C := RX12) (T := TX12) (N := 24) (v := .ref (ad (rt q2 8))) G hH hk_q2 (by decide) rfl inlX12 (by decide) (wm_7 _ (List.mem_of_getElem? (i := 0) rfl)) rfl dX12_goesOn_20 ?_
    refine lv_iload_n hx hb dX12_goesOn_23 rfl (lv_at hl 1 rfl) ?_
    refine lv_iconst (v := (1 : Int32)) hx hb dX12_goesOn_24 (by decide) ?_
    refine lv_iadd hx hb dX12_goesOn_25 ?_
    refine x_iald G hH (kt_10_8 _ hk_q2) hq.1 dX12_goesOn_26 ?_
    have hq := hq.2
    refine lv_icmp_le (tgt := 36) hx hb dX12_goesOn_27 (by decide) (fun c11 => ?_) (fun c11 => ?_)
    · have hq := hq.1 c11
      exact kK90 a3 μ5 hq _ _ _ hH (lv_sub hl [0, 1] rfl)
    · have hq := hq.2 c11
      obtain ⟨v12, e_v12⟩ : ∃ y : Int32, y = (a3 + (-1 : Int32)) := ⟨_, rfl⟩
      have hq := hq v12 e_v12
      refine lv_iinc (v := v12) (lv' := [(1, .int v12), (0, .ref (ad q2))]) hx hb dX12_goesOn_30 hl (k := 1) rfl (by rw [e_v12]; rfl) (by decide) rfl (fun ls hl => ?_)
      refine lv_goto (tgt := 9) hx hb dX12_goesOn_33 (by decide) ?_
      exact kK9b v12 μ5 hq _ _ _ hH (lv_sub hl [1, 0] rfl)
set_option maxRecDepth 100000 in
set_option maxHeartbeats 4000000 in
theorem w_X12_goesOn_9 {E : xE} {ad : Nat → Nat} {p : Program} {l : Launch} {e : Env} {s : State} {m : MethodId} {args : Array Value} {below : List Frame} {meth : Method} {c : Code} {Q : State → Prop} (G : xG E p s m args meth c cX12_goesOn 5 RX12) (hA : ∀ a, s.heap.size ≤ a → xA ad s.heap.size a) (q2 : Nat) (hk_q2 : kd q2 = 10) : ∀ (n : Nat) (a3 : Int32) (μ5 : xM) (K90 : Int32 → xM → Prop) (hq : L_X12_goesOn_9 q2 n a3 μ5 K90) (H : Heap) (locs : List Loc) (ls : Array Slot) (hH : xH E ad (xA ad s.heap.size) s.heap μ5 H locs) (hl : lv_has ls 5 [(0, .ref (ad q2)), (1, .int a3)]) (kK90 : ∀ (a6 : Int32) (μ7 : xM), K90 a6 μ7 → ∀ (H : Heap) (locs : List Loc) (ls : Array Slot), xH E ad (xA ad s.heap.size) s.heap μ7 H locs → lv_has ls 5 [(0, .ref (ad q2)), (1, .int a6)] → W p l e (headSpec tX12_goesOn ({ frames := 2, cells := 0, slots := 0, locals := 80 } : Room)).room s m args below meth c H locs 0 0 Q (F0 m 36 ls [])) , W p l e (headSpec tX12_goesOn ({ frames := 2, cells := 0, slots := 0, locals := 80 } : Room)).room s m args below meth c H locs 0 0 Q (F0 m 9 ls [])
  | 0, _, _, _, hq, _, _, _, _, _, _ => hq.elim
  | n + 1, a3, μ5, K90, hq, H, locs, ls, hH, hl, kK90 => wb_X12_goesOn_9 G hA q2 hk_q2 a3 μ5 K90 _ hq hH hl kK90 (fun x0 y hq H locs ls hH hl => w_X12_goesOn_9 G hA q2 hk_q2 n x0 y K90 hq H locs ls hH hl kK90)
set_option maxRecDepth 100000 in
set_option maxHeartbeats 4000000 in
theorem wb_X12_goesOn_51 {E : xE} {ad : Nat → Nat} {p : Program} {l : Launch} {e : Env} {s : State} {m : MethodId} {args : Array Value} {below : List Frame} {meth : Method} {c : Code} {Q : State → Prop} (G : xG E p s m args meth c cX12_goesOn 5 RX12) (hA : ∀ a, s.heap.size ≤ a → xA ad s.heap.size a) (q20 : Nat) (a21 : Int32) (hk_q20 : kd q20 = 10) (a22 : Int32) (μ24 : xM) (K510 : Int32 → xM → Prop) (K51b : Int32 → xM → Prop) (hq : B_X12_goesOn_51 q20 a21 a22 μ24 K510 K51b) {H : Heap} {locs : List Loc} {ls : Array Slot} (hH : xH E ad (xA ad s.heap.size) s.heap μ24 H locs) (hl : lv_has ls 5 [(0, .ref (ad q20)), (1, .int a21), (2, .int a22)]) (kK510 : ∀ (a25 : Int32) (μ26 : xM), K510 a25 μ26 → ∀ (H : Heap) (locs : List Loc) (ls : Array Slot), xH E ad (xA ad s.heap.size) s.heap μ26 H locs → lv_has ls 5 [(0, .ref (ad q20)), (1, .int a21), (2, .int a25)] → W p l e (headSpec tX12_goesOn ({ frames := 2, cells := 0, slots := 0, locals := 80 } : Room)).room s m args below meth c H locs 0 0 Q (F0 m 72 ls [])) (kK51b : ∀ (a27 : Int32) (μ28 : xM), K51b a27 μ28 → ∀ (H : Heap) (locs : List Loc) (ls : Array Slot), xH E ad (xA ad s.heap.size) s.heap μ28 H locs → lv_has ls 5 [(0, .ref (ad q20)), (1, .int a21), (2, .int a27)] → W p l e (headSpec tX12_goesOn ({ frames := 2, cells := 0, slots := 0, locals := 80 } : Room)).room s m args below meth c H locs 0 0 Q (F0 m 51 ls [])) : W p l e (headSpec tX12_goesOn ({ frames := 2, cells := 0, slots := 0, locals := 80 } : Room)).room s m args below meth c H locs 0 0 Q (F0 m 51 ls []) := by
  obtain ⟨hx, hb, hml, hown, hts, hKn, hN, hlk⟩ := id G
  unfold B_X12_goesOn_51 at hq
  refine lv_aload_n hx hb dX12_goesOn_51 rfl (lv_at hl 0 rfl) ?_
  refine x_get (j := 8) (C := RX12) (T := TX12) (N := 24) (v := .ref (ad (rt q20 8))) G hH hk_q20 (by decide) rfl inlX12 (by decide) (wm_7 _ (List.mem_of_getElem? (i := 0) rfl)) rfl dX12_goesOn_52 ?_
  refine lv_iload_n hx hb dX12_goesOn_55 rfl (lv_at hl 2 rfl) ?_
  refine x_iald G hH (kt_10_8 _ hk_q20) hq.1 dX12_goesOn_56 ?_
  have hq := hq.2
  refine lv_aload_n hx hb dX12_goesOn_57 rfl (lv_at hl 0 rfl) ?_
  refine x_get (j := 8) (C := RX12) (T := TX12) (N := 24) (v := .ref (ad (rt q20 8))) G hH hk_q20 (by decide) rfl inlX12 (by decide) (wm_7 _ (List.mem_of_getElem? (i := 0) rfl)) rfl dX12_goesOn_58 ?_
  refine lv_iload_n hx hb dX12_goesOn_61 rfl (lv_at hl 1 rfl) ?_
  refine x_iald G hH (kt_10_8 _ hk_q20) hq.1 dX12_goesOn_62 ?_
  have hq := hq.2
  refine lv_icmp_ge (tgt := 72) hx hb dX12_goesOn_63 (by decide) (fun c29 => ?_) (fun c29 => ?_)
  · have hq := hq.1 c29
    exact kK510 a22 μ24 hq _ _ _ hH (lv_sub hl [0, 1, 2] rfl)
  · have hq := hq.2 c29
    obtain ⟨v30, e_v30⟩ : ∃ y : Int32, y = (a22 + (-1 : Int32)) := ⟨_, rfl⟩
    have hq := hq v30 e_v30
    refine lv_iinc (v := v30) (lv' := [(2, .int v30), (0, .ref (ad q20)), (1, .int a21)]) hx hb dX12_goesOn_66 hl (k := 2) rfl (by rw [e_v30]; rfl) (by decide) rfl (fun ls hl => ?_)
    refine lv_goto (tgt := 51) hx hb dX12_goesOn_69 (by decide) ?_
    exact kK51b v30 μ24 hq _ _ _ hH (lv_sub hl [1, 2, 0] rfl)
set_option maxRecDepth 100000 in
set_option maxHeartbeats 4000000 in
theorem w_X12_goesOn_51 {E : xE} {ad : Nat → Nat} {p : Program} {l : Launch} {e : Env} {s : State} {m : MethodId} {args : Array Value} {below : List Frame} {meth : Method} {c : Code} {Q : State → Prop} (G : xG E p s m args meth c cX12_goesOn 5 RX12) (hA : ∀ a, s.heap.size ≤ a → xA ad s.heap.size a) (q20 : Nat) (a21 : Int32) (hk_q20 : kd q20 = 10) : ∀ (n : Nat) (a22 : Int32) (μ24 : xM) (K510 : Int32 → xM → Prop) (hq : L_X12_goesOn_51 q20 a21 n a22 μ24 K510) (H : Heap) (locs : List Loc) (ls : Array Slot) (hH : xH E ad (xA ad s.heap.size) s.heap μ24 H locs) (hl : lv_has ls 5 [(0, .ref (ad q20)), (1, .int a21), (2, .int a22)]) (kK510 : ∀ (a25 : Int32) (μ26 : xM), K510 a25 μ26 → ∀ (H : Heap) (locs : List Loc) (ls : Array Slot), xH E ad (xA ad s.heap.size) s.heap μ26 H locs → lv_has ls 5 [(0, .ref (ad q20)), (1, .int a21), (2, .int a25)] → W p l e (headSpec tX12_goesOn ({ frames := 2, cells := 0, slots := 0, locals := 80 } : Room)).room s m args below meth c H locs 0 0 Q (F0 m 72 ls [])) , W p l e (headSpec tX12_goesOn ({ frames := 2, cells := 0, slots := 0, locals := 80 } : Room)).room s m args below meth c H locs 0 0 Q (F0 m 51 ls [])
  | 0, _, _, _, hq, _, _, _, _, _, _ => hq.elim
  | n + 1, a22, μ24, K510, hq, H, locs, ls, hH, hl, kK510 => wb_X12_goesOn_51 G hA q20 a21 hk_q20 a22 μ24 K510 _ hq hH hl kK510 (fun x0 y hq H locs ls hH hl => w_X12_goesOn_51 G hA q20 a21 hk_q20 n x0 y K510 hq H locs ls hH hl kK510)
set_option maxRecDepth 100000 in
set_option maxHeartbeats 4000000 in
theorem wb_X12_goesOn_92 {E : xE} {ad : Nat → Nat} {p : Program} {l : Launch} {e : Env} {s : State} {m : MethodId} {args : Array Value} {below : List Frame} {meth : Method} {c : Code} {Q : State → Prop} (G : xG E p s m args meth c cX12_goesOn 5 RX12) (hA : ∀ a, s.heap.size ≤ a → xA ad s.heap.size a) (q36 : Nat) (hk_q36 : kd q36 = 10) (a37 : Int32) (a38 : Int32) (μ40 : xM) (K920 : xM → Prop) (K92b : Int32 → Int32 → xM → Prop) (hq : B_X12_goesOn_92 q36 a37 a38 μ40 K920 K92b) {H : Heap} {locs : List Loc} {ls : Array Slot} (hH : xH E ad (xA ad s.heap.size) s.heap μ40 H locs) (hl : lv_has ls 5 [(0, .ref (ad q36)), (4, .int a37), (3, .int a38)]) (kK920 : ∀ (μ41 : xM), K920  μ41 → ∀ (H : Heap) (locs : List Loc) (ls : Array Slot), xH E ad (xA ad s.heap.size) s.heap μ41 H locs → lv_has ls 5 [] → W p l e (headSpec tX12_goesOn ({ frames := 2, cells := 0, slots := 0, locals := 80 } : Room)).room s m args below meth c H locs 0 0 Q (F0 m 114 ls [])) (kK92b : ∀ (a42 : Int32) (a43 : Int32) (μ44 : xM), K92b a42 a43 μ44 → ∀ (H : Heap) (locs : List Loc) (ls : Array Slot), xH E ad (xA ad s.heap.size) s.heap μ44 H locs → lv_has ls 5 [(0, .ref (ad q36)), (4, .int a42), (3, .int a43)] → W p l e (headSpec tX12_goesOn ({ frames := 2, cells := 0, slots := 0, locals := 80 } : Room)).room s m args below meth c H locs 0 0 Q (F0 m 92 ls [])) : W p l e (headSpec tX12_goesOn ({ frames := 2, cells := 0, slots := 0, locals := 80 } : Room)).room s m args below meth c H locs 0 0 Q (F0 m 92 ls []) := by
  obtain ⟨hx, hb, hml, hown, hts, hKn, hN, hlk⟩ := id G
  unfold B_X12_goesOn_92 at hq
  refine lv_iload hx hb dX12_goesOn_92 (lv_at hl 1 rfl) ?_
  refine lv_iload_n hx hb dX12_goesOn_94 rfl (lv_at hl 2 rfl) ?_
  refine lv_icmp_ge (tgt := 114) hx hb dX12_goesOn_95 (by decide) (fun c45 => ?_) (fun c45 => ?_)
  · have hq := hq.1 c45
    exact kK920  μ40 hq _ _ _ hH (lv_sub hl [] rfl)
  · have hq := hq.2 c45
    refine lv_aload_n hx hb dX12_goesOn_98 rfl (lv_at hl 0 rfl) ?_
    refine lv_iload hx hb dX12_goesOn_99 (lv_at hl 1 rfl) ?_
    refine lv_iload_n hx hb dX12_goesOn_101 rfl (lv_at hl 2 rfl) ?_
    refine x_cVv (C := RX12) (T := TX12) (N := 24) (As := [.int a37, .int a38]) (rest := []) G hH hA (c_X12_exchange l E ad μ40 q36 a37 a38 hk_q36 _ hq) (wm_19 _ (List.mem_of_getElem? (i := 0) rfl)) mi_X12_exchange ms_X12_exchange mn_RX12 mc_X12_exchange rfl md_X12_exchange ⟨rfl, rfl, Nat.le_of_ble_eq_true rfl, Nat.le_of_ble_eq_true rfl⟩ hk_q36 (by decide) rfl rfl hl.1 rfl (Nat.le_of_ble_eq_true rfl) dX12_goesOn_102 ⟨Nat.zero_le _, Nat.zero_le _⟩ (fun μ46 hq H locs hH => ?_)
    obtain ⟨v47, e_v47⟩ : ∃ y : Int32, y = (a38 + (-1 : Int32)) := ⟨_, rfl⟩
    have hq := hq v47 e_v47
    refine lv_iinc (v := v47) (lv' := [(3, .int v47), (0, .ref (ad q36)), (4, .int a37)]) hx hb dX12_goesOn_105 hl (k := 2) rfl (by rw [e_v47]; rfl) (by decide) rfl (fun ls hl => ?_)
    obtain ⟨v48, e_v48⟩ : ∃ y : Int32, y = (a37 + (1 : Int32)) := ⟨_, rfl⟩
    have hq := hq v48 e_v48
    refine lv_iinc (v := v48) (lv' := [(4, .int v48), (3, .int v47), (0, .ref (ad q36))]) hx hb dX12_goesOn_108 hl (k := 2) rfl (by rw [e_v48]; rfl) (by decide) rfl (fun ls hl => ?_)
    refine lv_goto (tgt := 92) hx hb dX12_goesOn_111 (by decide) ?_
    exact kK92b v48 v47 μ46 hq _ _ _ hH (lv_sub hl [2, 0, 1] rfl)
set_option maxRecDepth 100000 in
set_option maxHeartbeats 4000000 in
theorem w_X12_goesOn_92 {E : xE} {ad : Nat → Nat} {p : Program} {l : Launch} {e : Env} {s : State} {m : MethodId} {args : Array Value} {below : List Frame} {meth : Method} {c : Code} {Q : State → Prop} (G : xG E p s m args meth c cX12_goesOn 5 RX12) (hA : ∀ a, s.heap.size ≤ a → xA ad s.heap.size a) (q36 : Nat) (hk_q36 : kd q36 = 10) : ∀ (n : Nat) (a37 : Int32) (a38 : Int32) (μ40 : xM) (K920 : xM → Prop) (hq : L_X12_goesOn_92 q36 n a37 a38 μ40 K920) (H : Heap) (locs : List Loc) (ls : Array Slot) (hH : xH E ad (xA ad s.heap.size) s.heap μ40 H locs) (hl : lv_has ls 5 [(0, .ref (ad q36)), (4, .int a37), (3, .int a38)]) (kK920 : ∀ (μ41 : xM), K920  μ41 → ∀ (H : Heap) (locs : List Loc) (ls : Array Slot), xH E ad (xA ad s.heap.size) s.heap μ41 H locs → lv_has ls 5 [] → W p l e (headSpec tX12_goesOn ({ frames := 2, cells := 0, slots := 0, locals := 80 } : Room)).room s m args below meth c H locs 0 0 Q (F0 m 114 ls [])) , W p l e (headSpec tX12_goesOn ({ frames := 2, cells := 0, slots := 0, locals := 80 } : Room)).room s m args below meth c H locs 0 0 Q (F0 m 92 ls [])
  | 0, _, _, _, _, hq, _, _, _, _, _, _ => hq.elim
  | n + 1, a37, a38, μ40, K920, hq, H, locs, ls, hH, hl, kK920 => wb_X12_goesOn_92 G hA q36 hk_q36 a37 a38 μ40 K920 _ hq hH hl kK920 (fun x0 x1 y hq H locs ls hH hl => w_X12_goesOn_92 G hA q36 hk_q36 n x0 x1 y K920 hq H locs ls hH hl kK920)
set_option maxRecDepth 100000 in
set_option maxHeartbeats 4000000 in
theorem wj_X12_goesOn_36 {E : xE} {ad : Nat → Nat} {p : Program} {l : Launch} {e : Env} {s : State} {m : MethodId} {args : Array Value} {below : List Frame} {meth : Method} {c : Code} {Qm : Int32 → xM → Prop} (G : xG E p s m args meth c cX12_goesOn 5 RX12) (hA : ∀ a, s.heap.size ≤ a → xA ad s.heap.size a) (hr : meth.sig.returnType = (some .boolean)) (q15 : Nat) (a16 : Int32) (hk_q15 : kd q15 = 10) (μ17 : xM) (hq : J_X12_goesOn_36 q15 a16 μ17 Qm) {H : Heap} {locs : List Loc} {ls : Array Slot} (hH : xH E ad (xA ad s.heap.size) s.heap μ17 H locs) (hl : lv_has ls 5 [(0, .ref (ad q15)), (1, .int a16)]) : W p l e (headSpec tX12_goesOn ({ frames := 2, cells := 0, slots := 0, locals := 80 } : Room)).room s m args below meth c H locs 0 0 (MQ below (va_Qi Qm (xPost E ad s.heap.size) (xA ad s.heap.size)) args s 0 0 (xA ad s.heap.size)) (F0 m 36 ls []) := by
  obtain ⟨hx, hb, hml, hown, hts, hKn, hN, hlk⟩ := id G
  unfold J_X12_goesOn_36 at hq
  refine lv_iload_n hx hb dX12_goesOn_36 rfl (lv_at hl 1 rfl) ?_
  refine lv_if_ge (tgt := 42) hx hb dX12_goesOn_37 (by decide) (fun c18 => ?_) (fun c18 => ?_)
  · have hq := hq.1 c18
    refine lv_aload_n hx hb dX12_goesOn_42 rfl (lv_at hl 0 rfl) ?_
    refine x_get (j := 0) (C := RX12) (T := TX12) (N := 24) (v := .ref (ad (rt q15 0))) G hH hk_q15 (by decide) rfl inlX12 (by decide) (wm_6 _ (List.mem_of_getElem? (i := 18) rfl)) rfl dX12_goesOn_43 ?_
    refine lv_iconst (v := (0 : Int32)) hx hb dX12_goesOn_46 (by decide) ?_
    refine x_iald G hH (kt_10_0 _ hk_q15) hq.1 dX12_goesOn_47 ?_
    have hq := hq.2
    refine lv_iconst (v := (1 : Int32)) hx hb dX12_goesOn_48 (by decide) ?_
    refine lv_isub hx hb dX12_goesOn_49 ?_
    refine lv_topi (fun v19 e_v19 => ?_)
    have hq := hq v19 e_v19
    refine lv_istore_n (lv' := [(2, .int v19), (0, .ref (ad q15)), (1, .int a16)]) hx hb dX12_goesOn_50 rfl hl (by decide) rfl (fun ls hl => ?_)
    obtain ⟨n23, hq⟩ := hq
    refine w_X12_goesOn_51 G hA q15 a16 hk_q15 n23 v19 μ17 _ hq _ _ _ hH (lv_sub hl [1, 2, 0] rfl) (fun a31 μ32 hq H locs ls hH hl => ?_)
    refine lv_aload_n hx hb dX12_goesOn_72 rfl (lv_at hl 0 rfl) ?_
    refine lv_iload_n hx hb dX12_goesOn_73 rfl (lv_at hl 1 rfl) ?_
    refine lv_iload_n hx hb dX12_goesOn_74 rfl (lv_at hl 2 rfl) ?_
    refine x_cVv (C := RX12) (T := TX12) (N := 24) (As := [.int a16, .int a31]) (rest := []) G hH hA (c_X12_exchange l E ad μ32 q15 a16 a31 hk_q15 _ hq) (wm_19 _ (List.mem_of_getElem? (i := 0) rfl)) mi_X12_exchange ms_X12_exchange mn_RX12 mc_X12_exchange rfl md_X12_exchange ⟨rfl, rfl, Nat.le_of_ble_eq_true rfl, Nat.le_of_ble_eq_true rfl⟩ hk_q15 (by decide) rfl rfl hl.1 rfl (Nat.le_of_ble_eq_true rfl) dX12_goesOn_75 ⟨Nat.zero_le _, Nat.zero_le _⟩ (fun μ33 hq H locs hH => ?_)
    refine lv_aload_n hx hb dX12_goesOn_78 rfl (lv_at hl 0 rfl) ?_
    refine x_get (j := 0) (C := RX12) (T := TX12) (N := 24) (v := .ref (ad (rt q15 0))) G hH hk_q15 (by decide) rfl inlX12 (by decide) (wm_6 _ (List.mem_of_getElem? (i := 18) rfl)) rfl dX12_goesOn_79 ?_
    refine lv_iconst (v := (0 : Int32)) hx hb dX12_goesOn_82 (by decide) ?_
    refine x_iald G hH (kt_10_0 _ hk_q15) hq.1 dX12_goesOn_83 ?_
    have hq := hq.2
    refine lv_iconst (v := (1 : Int32)) hx hb dX12_goesOn_84 (by decide) ?_
    refine lv_isub hx hb dX12_goesOn_85 ?_
    refine lv_topi (fun v34 e_v34 => ?_)
    have hq := hq v34 e_v34
    refine lv_istore_n (lv' := [(3, .int v34), (0, .ref (ad q15)), (1, .int a16), (2, .int a31)]) hx hb dX12_goesOn_86 rfl hl (by decide) rfl (fun ls hl => ?_)
    refine lv_iload_n hx hb dX12_goesOn_87 rfl (lv_at hl 2 rfl) ?_
    refine lv_iconst (v := (1 : Int32)) hx hb dX12_goesOn_88 (by decide) ?_
    refine lv_iadd hx hb dX12_goesOn_89 ?_
    refine lv_topi (fun v35 e_v35 => ?_)
    have hq := hq v35 e_v35
    refine lv_istore (lv' := [(4, .int v35), (3, .int v34), (0, .ref (ad q15)), (1, .int a16), (2, .int a31)]) hx hb dX12_goesOn_90 hl (by decide) rfl (fun ls hl => ?_)
    obtain ⟨n39, hq⟩ := hq
    refine w_X12_goesOn_92 G hA q15 hk_q15 n39 v35 v34 μ33 _ hq _ _ _ hH (lv_sub hl [2, 0, 1] rfl) (fun  μ49 hq H locs ls hH hl => ?_)
    refine lv_iconst (v := (1 : Int32)) hx hb dX12_goesOn_114 (by decide) ?_
    exact x_zret G hr hH xz_1 hq dX12_goesOn_115
  · have hq := hq.2 c18
    refine lv_iconst (v := (0 : Int32)) hx hb dX12_goesOn_40 (by decide) ?_
    exact x_zret G hr hH xz_0 hq dX12_goesOn_41
set_option maxRecDepth 100000 in
set_option maxHeartbeats 4000000 in
theorem c_X12_goesOn (l : Launch) (E : xE) (ad : Nat → Nat) (μ : xM) (q0 : Nat) (hk_q0 : kd q0 = 10) (Qm : Int32 → xM → Prop) (hq : p_X12_goesOn q0 μ Qm) : xMi l yX12_goesOn tX12_goesOn ({ frames := 2, cells := 0, slots := 0, locals := 80 } : Room) E ad μ [.ref (ad q0)] Qm := by
  refine x_sti (cc := cX12_goesOn) (maxL := 5) (ret := (some .boolean)) (own := RX12) rfl (by decide) rfl (Nat.le_of_ble_eq_true rfl) ?_
  intro p e s m args below meth c ls G hr hA hH hl
  obtain ⟨hx, hb, hml, hown, hts, hKn, hN, hlk⟩ := id G
  have hl : lv_has ls 5 [(0, .ref (ad q0))] := hl
  have hH : xH E ad (xA ad s.heap.size) s.heap μ s.heap [] := hH
  unfold p_X12_goesOn at hq
  refine lv_aload_n hx hb dX12_goesOn_0 rfl (lv_at hl 0 rfl) ?_
  refine x_get (j := 0) (C := RX12) (T := TX12) (N := 24) (v := .ref (ad (rt q0 0))) G hH hk_q0 (by decide) rfl inlX12 (by decide) (wm_6 _ (List.mem_of_getElem? (i := 18) rfl)) rfl dX12_goesOn_1 ?_
  refine lv_iconst (v := (0 : Int32)) hx hb dX12_goesOn_4 (by decide) ?_
  refine x_iald G hH (kt_10_0 _ hk_q0) hq.1 dX12_goesOn_5 ?_
  have hq := hq.2
  refine lv_iconst (v := (2 : Int32)) hx hb dX12_goesOn_6 (by decide) ?_
  refine lv_isub hx hb dX12_goesOn_7 ?_
  refine lv_topi (fun v1 e_v1 => ?_)
  have hq := hq v1 e_v1
  refine lv_istore_n (lv' := [(1, .int v1), (0, .ref (ad q0))]) hx hb dX12_goesOn_8 rfl hl (by decide) rfl (fun ls hl => ?_)
  obtain ⟨n4, hq⟩ := hq
  refine w_X12_goesOn_9 G hA q0 hk_q0 n4 v1 μ _ hq _ _ _ hH (lv_sub hl [1, 0] rfl) (fun a13 μ14 hq H locs ls hH hl => ?_)
  exact wj_X12_goesOn_36 G hA hr  q0 a13  hk_q0 μ14 hq hH (lv_sub hl [0, 1] rfl)
