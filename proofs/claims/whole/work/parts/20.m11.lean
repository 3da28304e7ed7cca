abbrev tX12_least : List Cond := Cond.code yX12_least cX12_least 3 (some .int) :: wsL_law
theorem mi_X12_least : Cond.instanceMethod yX12_least ∈ wsL_law := (wm_23 _ (List.mem_of_getElem? (i := 15) rfl))
theorem ms_X12_least : Cond.selects RX12 yX12_least yX12_least ∈ wsL_law := (wm_23 _ (List.mem_of_getElem? (i := 16) rfl))
theorem mc_X12_least : Cond.code yX12_least cX12_least 3 (some .int) ∈ wsL_law := (wm_23 _ (List.mem_of_getElem? (i := 17) rfl))
theorem md_X12_least : yX12_least.cls ≠ "java/lang/invoke/MethodHandle" ∧ yX12_least.cls ≠ "java/lang/invoke/VarHandle" ∧ (parseMethodDescriptor yX12_least.desc).map (fun d => d.parameters.length) = some 2 := by decide +kernel
set_option maxRecDepth 100000 in
set_option maxHeartbeats 4000000 in
theorem c_X12_least (l : Launch) (E : xE) (ad : Nat → Nat) (μ : xM) (q0 : Nat) (p1 : Int32) (p2 : Int32) (hk_q0 : kd q0 = 10) (Qm : Int32 → xM → Prop) (hq : p_X12_least q0 p1 p2 μ Qm) : xMi l yX12_least tX12_least ({ frames := 7, cells := 0, slots := 0, locals := 280 } : Room) E ad μ [.ref (ad q0), .int p1, .int p2] Qm := by
  refine x_sti (cc := cX12_least) (maxL := 3) (ret := (some .int)) (own := RX12) rfl (by decide) rfl (Nat.le_of_ble_eq_true rfl) ?_
  intro p e s m args below meth c ls G hr hA hH hl
  obtain ⟨hx, hb, hml, hown, hts, hKn, hN, hlk⟩ := id G
  have hl : lv_has ls 3 [(0, .ref (ad q0)), (1, .int p1), (2, .int p2)] := hl
  have hH : xH E ad (xA ad s.heap.size) s.heap μ s.heap [] := hH
  unfold p_X12_least at hq
  refine lv_aload_n hx hb dX12_least_0 rfl (lv_at hl 0 rfl) ?_
  refine lv_iload_n hx hb dX12_least_1 rfl (lv_at hl 1 rfl) ?_
  refine lv_iload_n hx hb dX12_least_2 rfl (lv_at hl 2 rfl) ?_
  refine lv_iconst (v := (0 : Int32)) hx hb dX12_least_3 (by decide) ?_
  refine x_cVi (C := RX12) (T := TX12) (N := 24) (As := [.int p1, .int p2, .int (0 : Int32)]) (rest := []) G hH hA (c_X12_asked l E ad μ q0 p1 p2 (0 : Int32) hk_q0 _ hq) (wm_23 _ (List.mem_of_getElem? (i := 18) rfl)) mi_X12_asked ms_X12_asked mn_RX12 mc_X12_asked rfl md_X12_asked ⟨rfl, rfl, Nat.le_of_ble_eq_true rfl, Nat.le_of_ble_eq_true rfl⟩ hk_q0 (by decide) rfl rfl hl.1 rfl (Nat.le_of_ble_eq_true rfl) dX12_least_4 ⟨Nat.zero_le _, Nat.zero_le _⟩ (fun r2 μ1 hq H locs hH => ?_)
  exact x_iret G hr hH hq dX12_least_7
abbrev tX12_must : List Cond := Cond.code yX12_must cX12_must 2 none :: wsL_law
theorem mi_X12_must : Cond.instanceMethod yX12_must ∈ wsL_law := (wm_35 _ (List.mem_of_getElem? (i := 1) rfl))
theorem ms_X12_must : Cond.selects RX12 yX12_must yX12_must ∈ wsL_law := (wm_35 _ (List.mem_of_getElem? (i := 2) rfl))
theorem mc_X12_must : Cond.code yX12_must cX12_must 2 none ∈ wsL_law := (wm_35 _ (List.mem_of_getElem? (i := 3) rfl))
theorem md_X12_must : yX12_must.cls ≠ "java/lang/invoke/MethodHandle" ∧ yX12_must.cls ≠ "java/lang/invoke/VarHandle" ∧ (parseMethodDescriptor yX12_must.desc).map (fun d => d.parameters.length) = some 1 := by decide +kernel
set_option maxRecDepth 100000 in
set_option maxHeartbeats 4000000 in
theorem c_X12_must (l : Launch) (E : xE) (ad : Nat → Nat) (μ : xM) (q0 : Nat) (p1 : Int32) (hk_q0 : kd q0 = 10) (Qm : xM → Prop) (hq : p_X12_must q0 p1 μ Qm) : xMv l yX12_must tX12_must ({ frames := 1, cells := 0, slots := 0, locals := 40 } : Room) E ad μ [.ref (ad q0), .int p1] Qm := by
  refine x_stv (cc := cX12_must) (maxL := 2) (ret := none) (own := RX12) rfl (by decide) rfl (Nat.le_of_ble_eq_true rfl) ?_
  intro p e s m args below meth c ls G hr hA hH hl
  obtain ⟨hx, hb, hml, hown, hts, hKn, hN, hlk⟩ := id G
  have hl : lv_has ls 2 [(0, .ref (ad q0)), (1, .int p1)] := hl
  have hH : xH E ad (xA ad s.heap.size) s.heap μ s.heap [] := hH
  unfold p_X12_must at hq
  refine lv_aload_n hx hb dX12_must_0 rfl (lv_at hl 0 rfl) ?_
  refine x_get (j := 19) (C := RX12) (T := TX12) (N := 24) (v := .int (μ.1 q0 19)) G hH hk_q0 (by decide) rfl inlX12 (by decide) (wm_34 _ (List.mem_of_getElem? (i := 18) rfl)) rfl dX12_must_1 ?_
  refine lv_iconst (v := (-1 : Int32)) hx hb dX12_must_4 (by decide) ?_
  refine lv_icmp_ne (tgt := 20) hx hb dX12_must_5 (by decide) (fun c1 => ?_) (fun c1 => ?_)
  · have hq := hq.1 c1
    exact x_vret G hr hH hq dX12_must_20
  · have hq := hq.2 c1
    refine lv_iload_n hx hb dX12_must_8 rfl (lv_at hl 1 rfl) ?_
    refine lv_if_ne (tgt := 20) hx hb dX12_must_9 (by decide) (fun c2 => ?_) (fun c2 => ?_)
    · have hq := hq.1 c2
      exact x_vret G hr hH hq dX12_must_20
    · have hq := hq.2 c2
      refine lv_aload_n hx hb dX12_must_12 rfl (lv_at hl 0 rfl) ?_
      refine lv_aload_n hx hb dX12_must_13 rfl (lv_at hl 0 rfl) ?_
      refine x_get (j := 18) (C := RX12) (T := TX12) (N := 24) (v := .int (μ.1 q0 18)) G hH hk_q0 (by decide) rfl inlX12 (by decide) (wm_34 _ (List.mem_of_getElem? (i := 17) rfl)) rfl dX12_must_14 ?_
      refine x_puti (j := 19) (C := RX12) (T := TX12) (N := 24) (ty := .int) G hH hk_q0 (by decide) rfl inlX12 tyX12 tyX12_ok nmX12 (by decide) (wm_34 _ (List.mem_of_getElem? (i := 18) rfl)) rfl (by decide +kernel) rfl rfl (fun _ _ => Nat.le_of_ble_eq_true rfl) (fun _ _ => rfl) dX12_must_17 (fun μ3 e_μ3 H locs hH => ?_)
      have hq := hq μ3 e_μ3
      exact x_vret G hr hH hq dX12_must_20
abbrev tX12_nearest : List Cond := Cond.code yX12_nearest cX12_nearest 3 (some .int) :: wsL_law
theorem mi_X12_nearest : Cond.instanceMethod yX12_nearest ∈ wsL_law := (wm_25 _ (List.mem_of_getElem? (i := 7) rfl))
theorem ms_X12_nearest : Cond.selects RX12 yX12_nearest yX12_nearest ∈ wsL_law := (wm_25 _ (List.mem_of_getElem? (i := 8) rfl))
theorem mc_X12_nearest : Cond.code yX12_nearest cX12_nearest 3 (some .int) ∈ wsL_law := (wm_25 _ (List.mem_of_getElem? (i := 9) rfl))
theorem md_X12_nearest : yX12_nearest.cls ≠ "java/lang/invoke/MethodHandle" ∧ yX12_nearest.cls ≠ "java/lang/invoke/VarHandle" ∧ (parseMethodDescriptor yX12_nearest.desc).map (fun d => d.parameters.length) = some 2 := by decide +kernel
set_option maxRecDepth 100000 in
set_option maxHeartbeats 4000000 in
theorem c_X12_nearest (l : Launch) (E : xE) (ad : Nat → Nat) (μ : xM) (q0 : Nat) (p1 : Int32) (p2 : Int32) (hk_q0 : kd q0 = 10) (Qm : Int32 → xM → Prop) (hq : p_X12_nearest q0 p1 p2 μ Qm) : xMi l yX12_nearest tX12_nearest ({ frames := 7, cells := 0, slots := 0, locals := 280 } : Room) E ad μ [.ref (ad q0), .int p1, .int p2] Qm := by
  refine x_sti (cc := cX12_nearest) (maxL := 3) (ret := (some .int)) (own := RX12) rfl (by decide) rfl (Nat.le_of_ble_eq_true rfl) ?_
  intro p e s m args below meth c ls G hr hA hH hl
  obtain ⟨hx, hb, hml, hown, hts, hKn, hN, hlk⟩ := id G
  have hl : lv_has ls 3 [(0, .ref (ad q0)), (1, .int p1), (2, .int p2)] := hl
  have hH : xH E ad (xA ad s.heap.size) s.heap μ s.heap [] := hH
  unfold p_X12_nearest at hq
  refine lv_aload_n hx hb dX12_nearest_0 rfl (lv_at hl 0 rfl) ?_
  refine lv_iload_n hx hb dX12_nearest_1 rfl (lv_at hl 1 rfl) ?_
  refine lv_iload_n hx hb dX12_nearest_2 rfl (lv_at hl 2 rfl) ?_
  refine lv_iconst (v := (1 : Int32)) hx hb dX12_nearest_3 (by decide) ?_
  refine x_cVi (C := RX12) (T := TX12) (N := 24) (As := [.int p1, .int p2, .int (1 : Int32)]) (rest := []) G hH hA (c_X12_asked l E ad μ q0 p1 p2 (1 : Int32) hk_q0 _ hq) (wm_23 _ (List.mem_of_getElem? (i := 18) rfl)) mi_X12_asked ms_X12_asked mn_RX12 mc_X12_asked rfl md_X12_asked ⟨rfl, rfl, Nat.le_of_ble_eq_true rfl, Nat.le_of_ble_eq_true rfl⟩ hk_q0 (by decide) rfl rfl hl.1 rfl (Nat.le_of_ble_eq_true rfl) dX12_nearest_4 ⟨Nat.zero_le _, Nat.zero_le _⟩ (fun r2 μ1 hq H locs hH => ?_)
  exact x_iret G hr hH hq dX12_nearest_7
abbrev tX12_news : List Cond := Cond.code yX12_news cX12_news 1 (some .int) :: wsL_law
theorem mi_X12_news : Cond.instanceMethod yX12_news ∈ wsL_law := (wm_28 _ (List.mem_of_getElem? (i := 6) rfl))
theorem ms_X12_news : Cond.selects RX12 yX12_news yX12_news ∈ wsL_law := (wm_28 _ (List.mem_of_getElem? (i := 7) rfl))
theorem mc_X12_news : Cond.code yX12_news cX12_news 1 (some .int) ∈ wsL_law := (wm_28 _ (List.mem_of_getElem? (i := 8) rfl))
theorem md_X12_news : yX12_news.cls ≠ "java/lang/invoke/MethodHandle" ∧ yX12_news.cls ≠ "java/lang/invoke/VarHandle" ∧ (parseMethodDescriptor yX12_news.desc).map (fun d => d.parameters.length) = some 0 := by decide +kernel
set_option maxRecDepth 100000 in
set_option maxHeartbeats 4000000 in
theorem c_X12_news (l : Launch) (E : xE) (ad : Nat → Nat) (μ : xM) (q0 : Nat) (hk_q0 : kd q0 = 10) (Qm : Int32 → xM → Prop) (hq : p_X12_news q0 μ Qm) : xMi l yX12_news tX12_news ({ frames := 3, cells := 0, slots := 0, locals := 120 } : Room) E ad μ [.ref (ad q0)] Qm := by
  refine x_sti (cc := cX12_news) (maxL := 1) (ret := (some .int)) (own := RX12) rfl (by decide) rfl (Nat.le_of_ble_eq_true rfl) ?_
  intro p e s m args below meth c ls G hr hA hH hl
  obtain ⟨hx, hb, hml, hown, hts, hKn, hN, hlk⟩ := id G
  have hl : lv_has ls 1 [(0, .ref (ad q0))] := hl
  have hH : xH E ad (xA ad s.heap.size) s.heap μ s.heap [] := hH
  unfold p_X12_news at hq
  refine lv_aload_n hx hb dX12_news_0 rfl (lv_at hl 0 rfl) ?_
  refine x_cVv (C := RX12) (T := TX12) (N := 24) (As := []) (rest := []) G hH hA (c_X12_hold l E ad μ q0 hk_q0 _ hq) (wm_10 _ (List.mem_of_getElem? (i := 14) rfl)) mi_X12_hold ms_X12_hold mn_RX12 mc_X12_hold rfl md_X12_hold ⟨rfl, rfl, Nat.le_of_ble_eq_true rfl, Nat.le_of_ble_eq_true rfl⟩ hk_q0 (by decide) rfl rfl hl.1 rfl (Nat.le_of_ble_eq_true rfl) dX12_news_1 ⟨Nat.zero_le _, Nat.zero_le _⟩ (fun μ1 hq H locs hH => ?_)
  refine lv_aload_n hx hb dX12_news_4 rfl (lv_at hl 0 rfl) ?_
  refine lv_aload_n hx hb dX12_news_5 rfl (lv_at hl 0 rfl) ?_
  refine x_cVi (C := RX12) (T := TX12) (N := 24) (As := []) (rest := [.ref (ad q0)]) G hH hA (c_X12_doNews l E ad μ1 q0 hk_q0 _ hq) (wm_28 _ (List.mem_of_getElem? (i := 9) rfl)) mi_X12_doNews ms_X12_doNews mn_RX12 mc_X12_doNews rfl md_X12_doNews ⟨rfl, rfl, Nat.le_of_ble_eq_true rfl, Nat.le_of_ble_eq_true rfl⟩ hk_q0 (by decide) rfl rfl hl.1 rfl (Nat.le_of_ble_eq_true rfl) dX12_news_6 ⟨Nat.zero_le _, Nat.zero_le _⟩ (fun r3 μ2 hq H locs hH => ?_)
  refine x_cVi (C := RX12) (T := TX12) (N := 24) (As := [.int r3]) (rest := []) G hH hA (c_X12_ends l E ad μ2 q0 r3 hk_q0 _ hq) (wm_11 _ (List.mem_of_getElem? (i := 2) rfl)) mi_X12_ends ms_X12_ends mn_RX12 mc_X12_ends rfl md_X12_ends ⟨rfl, rfl, Nat.le_of_ble_eq_true rfl, Nat.le_of_ble_eq_true rfl⟩ hk_q0 (by decide) rfl rfl hl.1 rfl (Nat.le_of_ble_eq_true rfl) dX12_news_9 ⟨Nat.zero_le _, Nat.zero_le _⟩ (fun r5 μ4 hq H locs hH => ?_)
  exact x_iret G hr hH hq dX12_news_12
abbrev tX12_number : List Cond := Cond.code yX12_number cX12_number 5 (some .int) :: wsL_law
theorem mi_X12_number : Cond.instanceMethod yX12_number ∈ wsL_law := (wm_35 _ (List.mem_of_getElem? (i := 12) rfl))
theorem ms_X12_number : Cond.selects RX12 yX12_number yX12_number ∈ wsL_law := (wm_35 _ (List.mem_of_getElem? (i := 13) rfl))
theorem mc_X12_number : Cond.code yX12_number cX12_number 5 (some .int) ∈ wsL_law := (wm_35 _ (List.mem_of_getElem? (i := 14) rfl))
theorem md_X12_number : yX12_number.cls ≠ "java/lang/invoke/MethodHandle" ∧ yX12_number.cls ≠ "java/lang/invoke/VarHandle" ∧ (parseMethodDescriptor yX12_number.desc).map (fun d => d.parameters.length) = some 1 := by decide +kernel
set_option maxRecDepth 100000 in
set_option maxHeartbeats 4000000 in
theorem wb_X12_number_50 {E : xE} {ad : Nat → Nat} {p : Program} {l : Launch} {e : Env} {s : State} {m : MethodId} {args : Array Value} {below : List Frame} {meth : Method} {c : Code} {Q : State → Prop} (G : xG E p s m args meth c cX12_number 5 RX12) (hA : ∀ a, s.heap.size ≤ a → xA ad s.heap.size a) (a20 : Int32) (q21 : Nat) (hk_q21 : kd q21 = 10) (a22 : Int32) (a23 : Int32) (μ25 : xM) (K500 : Int32 → xM → Prop) (K50b : Int32 → Int32 → xM → Prop) (hq : B_X12_number_50 a20 q21 a22 a23 μ25 K500 K50b) {H : Heap} {locs : List Loc} {ls : Array Slot} (hH : xH E ad (xA ad s.heap.size) s.heap μ25 H locs) (hl : lv_has ls 5 [(2, .int a20), (0, .ref (ad q21)), (4, .int a22), (3, .int a23)]) (kK500 : ∀ (a26 : Int32) (μ27 : xM), K500 a26 μ27 → ∀ (H : Heap) (locs : List Loc) (ls : Array Slot), xH E ad (xA ad s.heap.size) s.heap μ27 H locs → lv_has ls 5 [(2, .int a20), (0, .ref (ad q21)), (3, .int a26)] → W p l e (headSpec tX12_number ({ frames := 3, cells := 0, slots := 0, locals := 120 } : Room)).room s m args below meth c H locs 0 0 Q (F0 m 97 ls [])) (kK50b : ∀ (a28 : Int32) (a29 : Int32) (μ30 : xM), K50b a28 a29 μ30 → ∀ (H : Heap) (locs : List Loc) (ls : Array Slot), xH E ad (xA ad s.heap.size) s.heap μ30 H locs → lv_has ls 5 [(2, .int a20), (0, .ref (ad q21)), (4, .int a28), (3, .int a29)] → W p l e (headSpec tX12_number ({ frames := 3, cells := 0, slots := 0, locals := 120 } : Room)).room s m args below meth c H locs 0 0 Q (F0 m 50 ls [])) : W p l e (headSpec tX12_number ({ frames := 3, cells := 0, slots := 0, locals := 120 } : Room)).room s m args below meth c H locs 0 0 Q (F0 m 50 ls []) := by
  obtain ⟨hx, hb, hml, hown, hts, hKn, hN, hlk⟩ := id G
  unfold B_X12_number_50 at hq
  refine lv_iload hx hb dX12_number_50 (lv_at hl 2 rfl) ?_
  refine lv_iconst (v := (5 : Int32)) hx hb dX12_number_52 (by decide) ?_
  refine lv_icmp_ge (tgt := 97) hx hb dX12_number_53 (by decide) (fun c31 => ?_) (fun c31 => ?_)
  · have hq := hq.1 c31
    exact kK500 a23 μ25 hq _ _ _ hH (lv_sub hl [0, 1, 3] rfl)
  · have hq := hq.2 c31
    refine lv_aload_n hx hb dX12_number_56 rfl (lv_at hl 1 rfl) ?_
    refine x_cVi (C := RX12) (T := TX12) (N := 24) (As := []) (rest := []) G hH hA (c_X12_isFigure l E ad μ25 q21 hk_q21 _ hq) (wm_35 _ (List.mem_of_getElem? (i := 15) rfl)) mi_X12_isFigure ms_X12_isFigure mn_RX12 mc_X12_isFigure rfl md_X12_isFigure ⟨rfl, rfl, Nat.le_of_ble_eq_true rfl, Nat.le_of_ble_eq_true rfl⟩ hk_q21 (by decide) rfl rfl hl.1 rfl (Nat.le_of_ble_eq_true rfl) dX12_number_57 ⟨Nat.zero_le _, Nat.zero_le _⟩ (fun r33 μ32 hq H locs hH => ?_)
    refine lv_if_eq (tgt := 97) hx hb dX12_number_60 (by decide) (fun c34 => ?_) (fun c34 => ?_)
    · have hq := hq.1 c34
      exact kK500 a23 μ32 hq _ _ _ hH (lv_sub hl [0, 1, 3] rfl)
    · have hq := hq.2 c34
      refine lv_bipush (v := (10 : Int32)) hx hb dX12_number_63 (by decide) ?_
      refine lv_iload_n hx hb dX12_number_65 rfl (lv_at hl 3 rfl) ?_
      refine lv_imul hx hb dX12_number_66 ?_
      refine lv_aload_n hx hb dX12_number_67 rfl (lv_at hl 1 rfl) ?_
      refine x_get (j := 16) (C := RX12) (T := TX12) (N := 24) (v := .ref (ad (rt q21 16))) G hH hk_q21 (by decide) rfl inlX12 (by decide) (wm_7 _ (List.mem_of_getElem? (i := 6) rfl)) rfl dX12_number_68 ?_
      refine lv_aload_n hx hb dX12_number_71 rfl (lv_at hl 1 rfl) ?_
      refine x_get (j := 18) (C := RX12) (T := TX12) (N := 24) (v := .int (μ32.1 q21 18)) G hH hk_q21 (by decide) rfl inlX12 (by decide) (wm_34 _ (List.mem_of_getElem? (i := 17) rfl)) rfl dX12_number_72 ?_
      refine x_iald G hH (kt_10_16 _ hk_q21) hq.1 dX12_number_75 ?_
      have hq := hq.2
      refine lv_iadd hx hb dX12_number_76 ?_
      refine lv_bipush (v := (48 : Int32)) hx hb dX12_number_77 (by decide) ?_
      refine lv_isub hx hb dX12_number_79 ?_
      refine lv_topi (fun v35 e_v35 => ?_)
      have hq := hq v35 e_v35
      refine lv_istore_n (lv' := [(3, .int v35), (2, .int a20), (0, .ref (ad q21)), (4, .int a22)]) hx hb dX12_number_80 rfl hl (by decide) rfl (fun ls hl => ?_)
      refine lv_aload_n hx hb dX12_number_81 rfl (lv_at hl 2 rfl) ?_
      refine lv_dup hx hb dX12_number_82 rfl ?_
      refine x_get (j := 18) (C := RX12) (T := TX12) (N := 24) (v := .int (μ32.1 q21 18)) G hH hk_q21 (by decide) rfl inlX12 (by decide) (wm_34 _ (List.mem_of_getElem? (i := 17) rfl)) rfl dX12_number_83 ?_
      refine lv_iconst (v := (1 : Int32)) hx hb dX12_number_86 (by decide) ?_
      refine lv_iadd hx hb dX12_number_87 ?_
      refine x_puti (j := 18) (C := RX12) (T := TX12) (N := 24) (ty := .int) G hH hk_q21 (by decide) rfl inlX12 tyX12 tyX12_ok nmX12 (by decide) (wm_34 _ (List.mem_of_getElem? (i := 17) rfl)) rfl (by decide +kernel) rfl rfl (fun _ _ => Nat.le_of_ble_eq_true rfl) (fun _ _ => rfl) dX12_number_88 (fun μ36 e_μ36 H locs hH => ?_)
      have hq := hq μ36 e_μ36
      obtain ⟨v37, e_v37⟩ : ∃ y : Int32, y = (a22 + (1 : Int32)) := ⟨_, rfl⟩
      have hq := hq v37 e_v37
      refine lv_iinc (v := v37) (lv' := [(4, .int v37), (3, .int v35), (2, .int a20), (0, .ref (ad q21))]) hx hb dX12_number_91 hl (k := 3) rfl (by rw [e_v37]; rfl) (by decide) rfl (fun ls hl => ?_)
      refine lv_goto (tgt := 50) hx hb dX12_number_94 (by decide) ?_
      exact kK50b v37 v35 μ36 hq _ _ _ hH (lv_sub hl [2, 3, 0, 1] rfl)
set_option maxRecDepth 100000 in
set_option maxHeartbeats 4000000 in
theorem w_X12_number_50 {E : xE} {ad : Nat → Nat} {p : Program} {l : Launch} {e : Env} {s : State} {m : MethodId} {args : Array Value} {below : List Frame} {meth : Method} {c : Code} {Q : State → Prop} (G : xG E p s m args meth c cX12_number 5 RX12) (hA : ∀ a, s.heap.size ≤ a → xA ad s.heap.size a) (a20 : Int32) (q21 : Nat) (hk_q21 : kd q21 = 10) : ∀ (n : Nat) (a22 : Int32) (a23 : Int32) (μ25 : xM) (K500 : Int32 → xM → Prop) (hq : L_X12_number_50 a20 q21 n a22 a23 μ25 K500) (H : Heap) (locs : List Loc) (ls : Array Slot) (hH : xH E ad (xA ad s.heap.size) s.heap μ25 H locs) (hl : lv_has ls 5 [(2, .int a20), (0, .ref (ad q21)), (4, .int a22), (3, .int a23)]) (kK500 : ∀ (a26 : Int32) (μ27 : xM), K500 a26 μ27 → ∀ (H : Heap) (locs : List Loc) (ls : Array Slot), xH E ad (xA ad s.heap.size) s.heap μ27 H locs → lv_has ls 5 [(2, .int a20), (0, .ref (ad q21)), (3, .int a26)] → W p l e (headSpec tX12_number ({ frames := 3, cells := 0, slots := 0, locals := 120 } : Room)).room s m args below meth c H locs 0 0 Q (F0 m 97 ls [])) , W p l e (headSpec tX12_number ({ frames := 3, cells := 0, slots := 0, locals := 120 } : Room)).room s m args below meth c H locs 0 0 Q (F0 m 50 ls [])
  | 0, _, _, _, _, hq, _, _, _, _, _, _ => hq.elim
  | n + 1, a22, a23, μ25, K500, hq, H, locs, ls, hH, hl, kK500 => wb_X12_number_50 G hA a20 q21 hk_q21 a22 a23 μ25 K500 _ hq hH hl kK500 (fun x0 x1 y hq H locs ls hH hl => w_X12_number_50 G hA a20 q21 hk_q21 n x0 x1 y K500 hq H locs ls hH hl kK500)
set_option maxRecDepth 100000 in
set_option maxHeartbeats 4000000 in
theorem wj_X12_number_97 {E : xE} {ad : Nat → Nat} {p : Program} {l : Launch} {e : Env} {s : State} {m : MethodId} {args : Array Value} {below : List Frame} {meth : Method} {c : Code} {Qm : Int32 → xM → Prop} (G : xG E p s m args meth c cX12_number 5 RX12) (hA : ∀ a, s.heap.size ≤ a → xA ad s.heap.size a) (hr : meth.sig.returnType = (some .int)) (a40 : Int32) (q41 : Nat) (a42 : Int32) (hk_q41 : kd q41 = 10) (μ43 : xM) (hq : J_X12_number_97 a40 q41 a42 μ43 Qm) {H : Heap} {locs : List Loc} {ls : Array Slot} (hH : xH E ad (xA ad s.heap.size) s.heap μ43 H locs) (hl : lv_has ls 5 [(2, .int a40), (0, .ref (ad q41)), (3, .int a42)]) : W p l e (headSpec tX12_number ({ frames := 3, cells := 0, slots := 0, locals := 120 } : Room)).room s m args below meth c H locs 0 0 (MQ below (va_Qi Qm (xPost E ad s.heap.size) (xA ad s.heap.size)) args s 0 0 (xA ad s.heap.size)) (F0 m 97 ls []) := by
  obtain ⟨hx, hb, hml, hown, hts, hKn, hN, hlk⟩ := id G
  unfold J_X12_number_97 at hq
  refine lv_aload_n hx hb dX12_number_97 rfl (lv_at hl 1 rfl) ?_
  refine lv_aload_n hx hb dX12_number_98 rfl (lv_at hl 1 rfl) ?_
  refine x_cVi (C := RX12) (T := TX12) (N := 24) (As := []) (rest := [.ref (ad q41)]) G hH hA (c_X12_isFigure l E ad μ43 q41 hk_q41 _ hq) (wm_35 _ (List.mem_of_getElem? (i := 15) rfl)) mi_X12_isFigure ms_X12_isFigure mn_RX12 mc_X12_isFigure rfl md_X12_isFigure ⟨rfl, rfl, Nat.le_of_ble_eq_true rfl, Nat.le_of_ble_eq_true rfl⟩ hk_q41 (by decide) rfl rfl hl.1 rfl (Nat.le_of_ble_eq_true rfl) dX12_number_99 ⟨Nat.zero_le _, Nat.zero_le _⟩ (fun r45 μ44 hq H locs hH => ?_)
  refine lv_if_ne (tgt := 109) hx hb dX12_number_102 (by decide) (fun c46 => ?_) (fun c46 => ?_)
  · have hq := hq.1 c46
    refine lv_iconst (v := (0 : Int32)) hx hb dX12_number_109 (by decide) ?_
    refine x_cVv (C := RX12) (T := TX12) (N := 24) (As := [.int (0 : Int32)]) (rest := []) G hH hA (c_X12_must l E ad μ44 q41 (0 : Int32) hk_q41 _ hq) (wm_35 _ (List.mem_of_getElem? (i := 0) rfl)) mi_X12_must ms_X12_must mn_RX12 mc_X12_must rfl md_X12_must ⟨rfl, rfl, Nat.le_of_ble_eq_true rfl, Nat.le_of_ble_eq_true rfl⟩ hk_q41 (by decide) rfl rfl hl.1 rfl (Nat.le_of_ble_eq_true rfl) dX12_number_110 ⟨Nat.zero_le _, Nat.zero_le _⟩ (fun μ47 hq H locs hH => ?_)
    refine lv_iload_n hx hb dX12_number_113 rfl (lv_at hl 0 rfl) ?_
    refine lv_if_eq (tgt := 122) hx hb dX12_number_114 (by decide) (fun c48 => ?_) (fun c48 => ?_)
    · have hq := hq.1 c48
      refine lv_iload_n hx hb dX12_number_122 rfl (lv_at hl 2 rfl) ?_
      exact x_iret G hr hH hq dX12_number_123
    · have hq := hq.2 c48
      refine lv_iload_n hx hb dX12_number_117 rfl (lv_at hl 2 rfl) ?_
      refine lv_ineg hx hb dX12_number_118 ?_
      refine lv_goto (tgt := 123) hx hb dX12_number_119 (by decide) ?_
      exact x_iret G hr hH hq dX12_number_123
  · have hq := hq.2 c46
    refine lv_iconst (v := (1 : Int32)) hx hb dX12_number_105 (by decide) ?_
    refine lv_goto (tgt := 110) hx hb dX12_number_106 (by decide) ?_
    refine x_cVv (C := RX12) (T := TX12) (N := 24) (As := [.int (1 : Int32)]) (rest := []) G hH hA (c_X12_must l E ad μ44 q41 (1 : Int32) hk_q41 _ hq) (wm_35 _ (List.mem_of_getElem? (i := 0) rfl)) mi_X12_must ms_X12_must mn_RX12 mc_X12_must rfl md_X12_must ⟨rfl, rfl, Nat.le_of_ble_eq_true rfl, Nat.le_of_ble_eq_true rfl⟩ hk_q41 (by decide) rfl rfl hl.1 rfl (Nat.le_of_ble_eq_true rfl) dX12_number_110 ⟨Nat.zero_le _, Nat.zero_le _⟩ (fun μ49 hq H locs hH => ?_)
    refine lv_iload_n hx hb dX12_number_113 rfl (lv_at hl 0 rfl) ?_
    refine lv_if_eq (tgt := 122) hx hb dX12_number_114 (by decide) (fun c50 => ?_) (fun c50 => ?_)
    · have hq := hq.1 c50
      refine lv_iload_n hx hb dX12_number_122 rfl (lv_at hl 2 rfl) ?_
      exact x_iret G hr hH hq dX12_number_123
    · have hq := hq.2 c50
      refine lv_iload_n hx hb dX12_number_117 rfl (lv_at hl 2 rfl) ?_
      refine lv_ineg hx hb dX12_number_118 ?_
      refine lv_goto (tgt := 123) hx hb dX12_number_119 (by decide) ?_
      exact x_iret G hr hH hq dX12_number_123
set_option maxRecDepth 100000 in
set_option maxHeartbeats 4000000 in
theorem wj_X12_number_33 {E : xE} {ad : Nat → Nat} {p : Program} {l : Launch} {e : Env} {s : State} {m : MethodId} {args : Array Value} {below : List Frame} {meth : Method} {c : Code} {Qm : Int32 → xM → Prop} (G : xG E p s m args meth c cX12_number 5 RX12) (hA : ∀ a, s.heap.size ≤ a → xA ad s.heap.size a) (hr : meth.sig.returnType = (some .int)) (a10 : Int32) (q11 : Nat) (a12 : Int32) (a13 : Int32) (q14 : Nat) (hk_q11 : kd q11 = 10) (hk_q14 : kd q14 = 10) (μ15 : xM) (hq : J_X12_number_33 a10 q11 a12 a13 q14 μ15 Qm) {H : Heap} {locs : List Loc} {ls : Array Slot} (hH : xH E ad (xA ad s.heap.size) s.heap μ15 H locs) (hl : lv_has ls 5 [(2, .int a10), (0, .ref (ad q11))]) : W p l e (headSpec tX12_number ({ frames := 3, cells := 0, slots := 0, locals := 120 } : Room)).room s m args below meth c H locs 0 0 (MQ below (va_Qi Qm (xPost E ad s.heap.size) (xA ad s.heap.size)) args s 0 0 (xA ad s.heap.size)) (F0 m 33 ls [.int a12, .int a13, .ref (ad q14)]) := by
  obtain ⟨hx, hb, hml, hown, hts, hKn, hN, hlk⟩ := id G
  unfold J_X12_number_33 at hq
  refine lv_iadd hx hb dX12_number_33 ?_
  refine x_puti (j := 18) (C := RX12) (T := TX12) (N := 24) (ty := .int) G hH hk_q14 (by decide) rfl inlX12 tyX12 tyX12_ok nmX12 (by decide) (wm_34 _ (List.mem_of_getElem? (i := 17) rfl)) rfl (by decide +kernel) rfl rfl (fun _ _ => Nat.le_of_ble_eq_true rfl) (fun _ _ => rfl) dX12_number_34 (fun μ16 e_μ16 H locs hH => ?_)
  have hq := hq μ16 e_μ16
  refine lv_aload_n hx hb dX12_number_37 rfl (lv_at hl 1 rfl) ?_
  refine lv_aload_n hx hb dX12_number_38 rfl (lv_at hl 1 rfl) ?_
  refine x_cVi (C := RX12) (T := TX12) (N := 24) (As := []) (rest := [.ref (ad q11)]) G hH hA (c_X12_isFigure l E ad μ16 q11 hk_q11 _ hq) (wm_35 _ (List.mem_of_getElem? (i := 15) rfl)) mi_X12_isFigure ms_X12_isFigure mn_RX12 mc_X12_isFigure rfl md_X12_isFigure ⟨rfl, rfl, Nat.le_of_ble_eq_true rfl, Nat.le_of_ble_eq_true rfl⟩ hk_q11 (by decide) rfl rfl hl.1 rfl (Nat.le_of_ble_eq_true rfl) dX12_number_39 ⟨Nat.zero_le _, Nat.zero_le _⟩ (fun r18 μ17 hq H locs hH => ?_)
  refine x_cVv (C := RX12) (T := TX12) (N := 24) (As := [.int r18]) (rest := []) G hH hA (c_X12_must l E ad μ17 q11 r18 hk_q11 _ hq) (wm_35 _ (List.mem_of_getElem? (i := 0) rfl)) mi_X12_must ms_X12_must mn_RX12 mc_X12_must rfl md_X12_must ⟨rfl, rfl, Nat.le_of_ble_eq_true rfl, Nat.le_of_ble_eq_true rfl⟩ hk_q11 (by decide) rfl rfl hl.1 rfl (Nat.le_of_ble_eq_true rfl) dX12_number_42 ⟨Nat.zero_le _, Nat.zero_le _⟩ (fun μ19 hq H locs hH => ?_)
  refine lv_iconst (v := (0 : Int32)) hx hb dX12_number_45 (by decide) ?_
  refine lv_istore_n (lv' := [(3, .int (0 : Int32)), (2, .int a10), (0, .ref (ad q11))]) hx hb dX12_number_46 rfl hl (by decide) rfl (fun ls hl => ?_)
  refine lv_iconst (v := (0 : Int32)) hx hb dX12_number_47 (by decide) ?_
  refine lv_istore (lv' := [(4, .int (0 : Int32)), (3, .int (0 : Int32)), (2, .int a10), (0, .ref (ad q11))]) hx hb dX12_number_48 hl (by decide) rfl (fun ls hl => ?_)
  obtain ⟨n24, hq⟩ := hq
  refine w_X12_number_50 G hA a10 q11 hk_q11 n24 (0 : Int32) (0 : Int32) μ19 _ hq _ _ _ hH (lv_sub hl [2, 3, 0, 1] rfl) (fun a38 μ39 hq H locs ls hH hl => ?_)
  exact wj_X12_number_97 G hA hr  a10 q11 a38  hk_q11 μ39 hq hH (lv_sub hl [0, 1, 2] rfl)
set_option maxRecDepth 100000 in
set_option maxHeartbeats 4000000 in
theorem wj_X12_number_18 {E : xE} {ad : Nat → Nat} {p : Program} {l : Launch} {e : Env} {s : State} {m : MethodId} {args : Array Value} {below : List Frame} {meth : Method} {c : Code} {Qm : Int32 → xM → Prop} (G : xG E p s m args meth c cX12_number 5 RX12) (hA : ∀ a, s.heap.size ≤ a → xA ad s.heap.size a) (hr : meth.sig.returnType = (some .int)) (q6 : Nat) (a7 : Int32) (hk_q6 : kd q6 = 10) (μ8 : xM) (hq : J_X12_number_18 q6 a7 μ8 Qm) {H : Heap} {locs : List Loc} {ls : Array Slot} (hH : xH E ad (xA ad s.heap.size) s.heap μ8 H locs) (hl : lv_has ls 5 [(0, .ref (ad q6))]) : W p l e (headSpec tX12_number ({ frames := 3, cells := 0, slots := 0, locals := 120 } : Room)).room s m args below meth c H locs 0 0 (MQ below (va_Qi Qm (xPost E ad s.heap.size) (xA ad s.heap.size)) args s 0 0 (xA ad s.heap.size)) (F0 m 18 ls [.int a7]) := by
  obtain ⟨hx, hb, hml, hown, hts, hKn, hN, hlk⟩ := id G
  unfold J_X12_number_18 at hq
  refine lv_istore_n (lv' := [(2, .int a7), (0, .ref (ad q6))]) hx hb dX12_number_18 rfl hl (by decide) rfl (fun ls hl => ?_)
  refine lv_aload_n hx hb dX12_number_19 rfl (lv_at hl 1 rfl) ?_
  refine lv_dup hx hb dX12_number_20 rfl ?_
  refine x_get (j := 18) (C := RX12) (T := TX12) (N := 24) (v := .int (μ8.1 q6 18)) G hH hk_q6 (by decide) rfl inlX12 (by decide) (wm_34 _ (List.mem_of_getElem? (i := 17) rfl)) rfl dX12_number_21 ?_
  refine lv_iload_n hx hb dX12_number_24 rfl (lv_at hl 0 rfl) ?_
  refine lv_if_eq (tgt := 32) hx hb dX12_number_25 (by decide) (fun c9 => ?_) (fun c9 => ?_)
  · have hq := hq.1 c9
    refine lv_iconst (v := (0 : Int32)) hx hb dX12_number_32 (by decide) ?_
    exact wj_X12_number_33 G hA hr  a7 q6 (0 : Int32) (μ8.1 q6 18) q6  hk_q6 hk_q6 μ8 hq hH (lv_sub hl [0, 1] rfl)
  · have hq := hq.2 c9
    refine lv_iconst (v := (1 : Int32)) hx hb dX12_number_28 (by decide) ?_
    refine lv_goto (tgt := 33) hx hb dX12_number_29 (by decide) ?_
    exact wj_X12_number_33 G hA hr  a7 q6 (1 : Int32) (μ8.1 q6 18) q6  hk_q6 hk_q6 μ8 hq hH (lv_sub hl [0, 1] rfl)
set_option maxRecDepth 100000 in
set_option maxHeartbeats 4000000 in
theorem wj_X12_number_17 {E : xE} {ad : Nat → Nat} {p : Program} {l : Launch} {e : Env} {s : State} {m : MethodId} {args : Array Value} {below : List Frame} {meth : Method} {c : Code} {Qm : Int32 → xM → Prop} (G : xG E p s m args meth c cX12_number 5 RX12) (hA : ∀ a, s.heap.size ≤ a → xA ad s.heap.size a) (hr : meth.sig.returnType = (some .int)) (q4 : Nat) (hk_q4 : kd q4 = 10) (μ5 : xM) (hq : J_X12_number_17 q4 μ5 Qm) {H : Heap} {locs : List Loc} {ls : Array Slot} (hH : xH E ad (xA ad s.heap.size) s.heap μ5 H locs) (hl : lv_has ls 5 [(0, .ref (ad q4))]) : W p l e (headSpec tX12_number ({ frames := 3, cells := 0, slots := 0, locals := 120 } : Room)).room s m args below meth c H locs 0 0 (MQ below (va_Qi Qm (xPost E ad s.heap.size) (xA ad s.heap.size)) args s 0 0 (xA ad s.heap.size)) (F0 m 17 ls []) := by
  obtain ⟨hx, hb, hml, hown, hts, hKn, hN, hlk⟩ := id G
  unfold J_X12_number_17 at hq
  refine lv_iconst (v := (0 : Int32)) hx hb dX12_number_17 (by decide) ?_
  exact wj_X12_number_18 G hA hr  q4 (0 : Int32)  hk_q4 μ5 hq hH (lv_sub hl [0] rfl)
set_option maxRecDepth 100000 in
set_option maxHeartbeats 4000000 in
theorem c_X12_number (l : Launch) (E : xE) (ad : Nat → Nat) (μ : xM) (q0 : Nat) (p1 : Int32) (hk_q0 : kd q0 = 10) (Qm : Int32 → xM → Prop) (hq : p_X12_number q0 p1 μ Qm) : xMi l yX12_number tX12_number ({ frames := 3, cells := 0, slots := 0, locals := 120 } : Room) E ad μ [.ref (ad q0), .int p1] Qm := by
  refine x_sti (cc := cX12_number) (maxL := 5) (ret := (some .int)) (own := RX12) rfl (by decide) rfl (Nat.le_of_ble_eq_true rfl) ?_
  intro p e s m args below meth c ls G hr hA hH hl
  obtain ⟨hx, hb, hml, hown, hts, hKn, hN, hlk⟩ := id G
  have hl : lv_has ls 5 [(0, .ref (ad q0)), (1, .int p1)] := hl
  have hH : xH E ad (xA ad s.heap.size) s.heap μ s.heap [] := hH
  unfold p_X12_number at hq
  refine lv_aload_n hx hb dX12_number_0 rfl (lv_at hl 0 rfl) ?_
  refine x_cVi (C := RX12) (T := TX12) (N := 24) (As := []) (rest := []) G hH hA (c_X12_here l E ad μ q0 hk_q0 _ hq) (wm_34 _ (List.mem_of_getElem? (i := 20) rfl)) mi_X12_here ms_X12_here mn_RX12 mc_X12_here rfl md_X12_here ⟨rfl, rfl, Nat.le_of_ble_eq_true rfl, Nat.le_of_ble_eq_true rfl⟩ hk_q0 (by decide) rfl rfl hl.1 rfl (Nat.le_of_ble_eq_true rfl) dX12_number_1 ⟨Nat.zero_le _, Nat.zero_le _⟩ (fun r2 μ1 hq H locs hH => ?_)
  refine lv_bipush (v := (45 : Int32)) hx hb dX12_number_4 (by decide) ?_
  refine lv_icmp_ne (tgt := 17) hx hb dX12_number_6 (by decide) (fun c3 => ?_) (fun c3 => ?_)
  · have hq := hq.1 c3
    exact wj_X12_number_17 G hA hr  q0  hk_q0 μ1 hq hH (lv_sub hl [0] rfl)
  · have hq := hq.2 c3
    refine lv_iload_n hx hb dX12_number_9 rfl (lv_at hl 1 rfl) ?_
    refine lv_if_eq (tgt := 17) hx hb dX12_number_10 (by decide) (fun c56 => ?_) (fun c56 => ?_)
    · have hq := hq.1 c56
      exact wj_X12_number_17 G hA hr  q0  hk_q0 μ1 hq hH (lv_sub hl [0] rfl)
    · have hq := hq.2 c56
      refine lv_iconst (v := (1 : Int32)) hx hb dX12_number_13 (by decide) ?_
      refine lv_goto (tgt := 18) hx hb dX12_number_14 (by decide) ?_
      exact wj_X12_number_18 G hA hr  q0 (1 : Int32)  hk_q0 μ1 hq hH (lv_sub hl [0] rfl)
abbrev tX12_numbersOf : List Cond := Cond.code yX12_numbersOf cX12_numbersOf 1 (some .int) :: wsL_law
theorem mt_X12_numbersOf : Cond.static yX12_numbersOf ∈ wsL_law := (wm_35 _ (List.mem_of_getElem? (i := 9) rfl))
theorem mc_X12_numbersOf : Cond.code yX12_numbersOf cX12_numbersOf 1 (some .int) ∈ wsL_law := (wm_35 _ (List.mem_of_getElem? (i := 10) rfl))
theorem md_X12_numbersOf : yX12_numbersOf.cls ≠ "java/lang/invoke/MethodHandle" ∧ yX12_numbersOf.cls ≠ "java/lang/invoke/VarHandle" ∧ (parseMethodDescriptor yX12_numbersOf.desc).map (fun d => d.parameters.length) = some 1 := by decide +kernel
set_option maxRecDepth 100000 in
set_option maxHeartbeats 4000000 in
theorem c_X12_numbersOf (l : Launch) (E : xE) (ad : Nat → Nat) (μ : xM) (p1 : Int32) (Qm : Int32 → xM → Prop) (hq : p_X12_numbersOf p1 μ Qm) : xMi l yX12_numbersOf tX12_numbersOf ({ frames := 1, cells := 0, slots := 0, locals := 40 } : Room) E ad μ [.int p1] Qm := by
  refine x_sti (cc := cX12_numbersOf) (maxL := 1) (ret := (some .int)) (own := RX12) rfl (by decide) rfl (Nat.le_of_ble_eq_true rfl) ?_
  intro p e s m args below meth c ls G hr hA hH hl
  obtain ⟨hx, hb, hml, hown, hts, hKn, hN, hlk⟩ := id G
  have hl : lv_has ls 1 [(0, .int p1)] := hl
  have hH : xH E ad (xA ad s.heap.size) s.heap μ s.heap [] := hH
  unfold p_X12_numbersOf at hq
  refine lv_iload_n hx hb dX12_numbersOf_0 rfl (lv_at hl 0 rfl) ?_
  rcases Decidable.em (p1 = (97 : Int32)) with c1 | c1
  · refine lv_lookup (off := 53) (tgt := 54) hx hb dX12_numbersOf_1 (by decide) (by rw [c1]; rfl) (by decide) ?_
    have hq := hq.1 c1
    refine lv_iconst (v := (2 : Int32)) hx hb dX12_numbersOf_54 (by decide) ?_
    exact x_iret G hr hH hq dX12_numbersOf_55
  · have hq := hq.2 c1
    rcases Decidable.em (p1 = (98 : Int32)) with c2 | c2
    · refine lv_lookup (off := 57) (tgt := 58) hx hb dX12_numbersOf_1 (by decide) (by rw [c2]; rfl) (by decide) ?_
      have hq := hq.1 c2
      refine lv_iconst (v := (4 : Int32)) hx hb dX12_numbersOf_58 (by decide) ?_
      exact x_iret G hr hH hq dX12_numbersOf_59
    · have hq := hq.2 c2
      rcases Decidable.em (p1 = (110 : Int32)) with c3 | c3
      · refine lv_lookup (off := 51) (tgt := 52) hx hb dX12_numbersOf_1 (by decide) (by rw [c3]; rfl) (by decide) ?_
        have hq := hq.1 c3
        refine lv_iconst (v := (0 : Int32)) hx hb dX12_numbersOf_52 (by decide) ?_
        exact x_iret G hr hH hq dX12_numbersOf_53
      · have hq := hq.2 c3
        rcases Decidable.em (p1 = (112 : Int32)) with c4 | c4
        · refine lv_lookup (off := 53) (tgt := 54) hx hb dX12_numbersOf_1 (by decide) (by rw [c4]; rfl) (by decide) ?_
          have hq := hq.1 c4
          refine lv_iconst (v := (2 : Int32)) hx hb dX12_numbersOf_54 (by decide) ?_
          exact x_iret G hr hH hq dX12_numbersOf_55
        · have hq := hq.2 c4
          rcases Decidable.em (p1 = (115 : Int32)) with c5 | c5
          · refine lv_lookup (off := 55) (tgt := 56) hx hb dX12_numbersOf_1 (by decide) (by rw [c5]; rfl) (by decide) ?_
            have hq := hq.1 c5
            refine lv_iconst (v := (3 : Int32)) hx hb dX12_numbersOf_56 (by decide) ?_
            exact x_iret G hr hH hq dX12_numbersOf_57
          · have hq := hq.2 c5
            refine lv_lookup (off := 59) (tgt := 60) hx hb dX12_numbersOf_1 (by decide) (by show Op.lookupswitch.offset [(97, 53), (98, 57), (110, 51), (112, 53), (115, 55)] _ _ = _; rw [lv_osw c1 (by decide), lv_osw c2 (by decide), lv_osw c3 (by decide), lv_osw c4 (by decide), lv_osw c5 (by decide)]; rfl) (by decide) ?_
            refine lv_iconst (v := (-1 : Int32)) hx hb dX12_numbersOf_60 (by decide) ?_
            exact x_iret G hr hH hq dX12_numbersOf_61
abbrev tX12_of : List Cond := Cond.code yX12_of cX12_of 3 (some .int) :: wsL_law
theorem mi_X12_of : Cond.instanceMethod yX12_of ∈ wsL_law := (wm_16 _ (List.mem_of_getElem? (i := 2) rfl))
theorem ms_X12_of : Cond.selects RX12 yX12_of yX12_of ∈ wsL_law := (wm_16 _ (List.mem_of_getElem? (i := 3) rfl))
theorem mc_X12_of : Cond.code yX12_of cX12_of 3 (some .int) ∈ wsL_law := (wm_16 _ (List.mem_of_getElem? (i := 4) rfl))
theorem md_X12_of : yX12_of.cls ≠ "java/lang/invoke/MethodHandle" ∧ yX12_of.cls ≠ "java/lang/invoke/VarHandle" ∧ (parseMethodDescriptor yX12_of.desc).map (fun d => d.parameters.length) = some 2 := by decide +kernel
set_option maxRecDepth 100000 in
set_option maxHeartbeats 4000000 in
theorem c_X12_of (l : Launch) (E : xE) (ad : Nat → Nat) (μ : xM) (q0 : Nat) (p1 : Int32) (p2 : Int32) (hk_q0 : kd q0 = 10) (Qm : Int32 → xM → Prop) (hq : p_X12_of q0 p1 p2 μ Qm) : xMi l yX12_of tX12_of ({ frames := 5, cells := 0, slots := 0, locals := 200 } : Room) E ad μ [.ref (ad q0), .int p1, .int p2] Qm := by
  refine x_sti (cc := cX12_of) (maxL := 3) (ret := (some .int)) (own := RX12) rfl (by decide) rfl (Nat.le_of_ble_eq_true rfl) ?_
  intro p e s m args below meth c ls G hr hA hH hl
  obtain ⟨hx, hb, hml, hown, hts, hKn, hN, hlk⟩ := id G
  have hl : lv_has ls 3 [(0, .ref (ad q0)), (1, .int p1), (2, .int p2)] := hl
  have hH : xH E ad (xA ad s.heap.size) s.heap μ s.heap [] := hH
  unfold p_X12_of at hq
  refine lv_aload_n hx hb dX12_of_0 rfl (lv_at hl 0 rfl) ?_
  refine lv_iload_n hx hb dX12_of_1 rfl (lv_at hl 1 rfl) ?_
  refine x_cVi (C := RX12) (T := TX12) (N := 24) (As := [.int p1]) (rest := []) G hH hA (c_X12_isBlock l E ad μ q0 p1 hk_q0 _ hq) (wm_12 _ (List.mem_of_getElem? (i := 22) rfl)) mi_X12_isBlock ms_X12_isBlock mn_RX12 mc_X12_isBlock rfl md_X12_isBlock ⟨rfl, rfl, Nat.le_of_ble_eq_true rfl, Nat.le_of_ble_eq_true rfl⟩ hk_q0 (by decide) rfl rfl hl.1 rfl (Nat.le_of_ble_eq_true rfl) dX12_of_2 ⟨Nat.zero_le _, Nat.zero_le _⟩ (fun r2 μ1 hq H locs hH => ?_)
  refine lv_if_eq (tgt := 27) hx hb dX12_of_5 (by decide) (fun c3 => ?_) (fun c3 => ?_)
  · have hq := hq.1 c3
    refine lv_aload_n hx hb dX12_of_27 rfl (lv_at hl 0 rfl) ?_
    refine lv_bipush (v := (-2 : Int32)) hx hb dX12_of_28 (by decide) ?_
    refine x_cVi (C := RX12) (T := TX12) (N := 24) (As := [.int (-2 : Int32)]) (rest := []) G hH hA (c_X12_refuses l E ad μ1 q0 (-2 : Int32) hk_q0 _ hq) (wm_11 _ (List.mem_of_getElem? (i := 6) rfl)) mi_X12_refuses ms_X12_refuses mn_RX12 mc_X12_refuses rfl md_X12_refuses ⟨rfl, rfl, Nat.le_of_ble_eq_true rfl, Nat.le_of_ble_eq_true rfl⟩ hk_q0 (by decide) rfl rfl hl.1 rfl (Nat.le_of_ble_eq_true rfl) dX12_of_30 ⟨Nat.zero_le _, Nat.zero_le _⟩ (fun r5 μ4 hq H locs hH => ?_)
    exact x_iret G hr hH hq dX12_of_33
  · have hq := hq.2 c3
    refine lv_iload_n hx hb dX12_of_8 rfl (lv_at hl 2 rfl) ?_
    refine lv_iconst (v := (0 : Int32)) hx hb dX12_of_9 (by decide) ?_
    refine lv_bipush (v := (7 : Int32)) hx hb dX12_of_10 (by decide) ?_
    refine x_cSi (As := [.int p2, .int (0 : Int32), .int (7 : Int32)]) (rest := []) G hH hA (c_X12_in l E ad μ1 p2 (0 : Int32) (7 : Int32)  _ hq) (wm_10 _ (List.mem_of_getElem? (i := 23) rfl)) mt_X12_in mn_RX12 mc_X12_in md_X12_in ⟨rfl, rfl, Nat.le_of_ble_eq_true rfl, Nat.le_of_ble_eq_true rfl⟩ rfl hl.1 rfl (Nat.le_of_ble_eq_true rfl) dX12_of_12 ⟨Nat.zero_le _, Nat.zero_le _⟩ (fun r7 μ6 hq H locs hH => ?_)
    refine lv_if_eq (tgt := 27) hx hb dX12_of_15 (by decide) (fun c8 => ?_) (fun c8 => ?_)
    · have hq := hq.1 c8
      refine lv_aload_n hx hb dX12_of_27 rfl (lv_at hl 0 rfl) ?_
      refine lv_bipush (v := (-2 : Int32)) hx hb dX12_of_28 (by decide) ?_
      refine x_cVi (C := RX12) (T := TX12) (N := 24) (As := [.int (-2 : Int32)]) (rest := []) G hH hA (c_X12_refuses l E ad μ6 q0 (-2 : Int32) hk_q0 _ hq) (wm_11 _ (List.mem_of_getElem? (i := 6) rfl)) mi_X12_refuses ms_X12_refuses mn_RX12 mc_X12_refuses rfl md_X12_refuses ⟨rfl, rfl, Nat.le_of_ble_eq_true rfl, Nat.le_of_ble_eq_true rfl⟩ hk_q0 (by decide) rfl rfl hl.1 rfl (Nat.le_of_ble_eq_true rfl) dX12_of_30 ⟨Nat.zero_le _, Nat.zero_le _⟩ (fun r10 μ9 hq H locs hH => ?_)
      exact x_iret G hr hH hq dX12_of_33
    · have hq := hq.2 c8
      refine lv_aload_n hx hb dX12_of_18 rfl (lv_at hl 0 rfl) ?_
      refine lv_iload_n hx hb dX12_of_19 rfl (lv_at hl 1 rfl) ?_
      refine lv_iload_n hx hb dX12_of_20 rfl (lv_at hl 2 rfl) ?_
      refine x_cVi (C := RX12) (T := TX12) (N := 24) (As := [.int p1, .int p2]) (rest := []) G hH hA (c_X12_ofAll l E ad μ6 q0 p1 p2 hk_q0 _ hq) (wm_16 _ (List.mem_of_getElem? (i := 5) rfl)) mi_X12_ofAll ms_X12_ofAll mn_RX12 mc_X12_ofAll rfl md_X12_ofAll ⟨rfl, rfl, Nat.le_of_ble_eq_true rfl, Nat.le_of_ble_eq_true rfl⟩ hk_q0 (by decide) rfl rfl hl.1 rfl (Nat.le_of_ble_eq_true rfl) dX12_of_21 ⟨Nat.zero_le _, Nat.zero_le _⟩ (fun r12 μ11 hq H locs hH => ?_)
      refine lv_goto (tgt := 33) hx hb dX12_of_24 (by decide) ?_
      exact x_iret G hr hH hq dX12_of_33
abbrev tX12_plans : List Cond := Cond.code yX12_plans cX12_plans 4 (some .int) :: wsL_law
theorem mi_X12_plans : Cond.instanceMethod yX12_plans ∈ wsL_law := (wm_15 _ (List.mem_of_getElem? (i := 10) rfl))
theorem ms_X12_plans : Cond.selects RX12 yX12_plans yX12_plans ∈ wsL_law := (wm_15 _ (List.mem_of_getElem? (i := 11) rfl))
theorem mc_X12_plans : Cond.code yX12_plans cX12_plans 4 (some .int) ∈ wsL_law := (wm_15 _ (List.mem_of_getElem? (i := 12) rfl))
theorem md_X12_plans : yX12_plans.cls ≠ "java/lang/invoke/MethodHandle" ∧ yX12_plans.cls ≠ "java/lang/invoke/VarHandle" ∧ (parseMethodDescriptor yX12_plans.desc).map (fun d => d.parameters.length) = some 2 := by decide +kernel
set_option maxRecDepth 100000 in
set_option maxHeartbeats 4000000 in
theorem c_X12_plans (l : Launch) (E : xE) (ad : Nat → Nat) (μ : xM) (q0 : Nat) (p1 : Int32) (p2 : Int32) (hk_q0 : kd q0 = 10) (Qm : Int32 → xM → Prop) (hq : p_X12_plans q0 p1 p2 μ Qm) : xMi l yX12_plans tX12_plans ({ frames := 2, cells := 0, slots := 0, locals := 80 } : Room) E ad μ [.ref (ad q0), .int p1, .int p2] Qm := by
  refine x_sti (cc := cX12_plans) (maxL := 4) (ret := (some .int)) (own := RX12) rfl (by decide) rfl (Nat.le_of_ble_eq_true rfl) ?_
  intro p e s m args below meth c ls G hr hA hH hl
  obtain ⟨hx, hb, hml, hown, hts, hKn, hN, hlk⟩ := id G
  have hl : lv_has ls 4 [(0, .ref (ad q0)), (1, .int p1), (2, .int p2)] := hl
  have hH : xH E ad (xA ad s.heap.size) s.heap μ s.heap [] := hH
  unfold p_X12_plans at hq
  refine lv_iload_n hx hb dX12_plans_0 rfl (lv_at hl 1 rfl) ?_
  refine lv_iconst (v := (0 : Int32)) hx hb dX12_plans_1 (by decide) ?_
  refine lv_bipush (v := (15 : Int32)) hx hb dX12_plans_2 (by decide) ?_
  refine x_cSi (As := [.int p1, .int (0 : Int32), .int (15 : Int32)]) (rest := []) G hH hA (c_X12_in l E ad μ p1 (0 : Int32) (15 : Int32)  _ hq) (wm_10 _ (List.mem_of_getElem? (i := 23) rfl)) mt_X12_in mn_RX12 mc_X12_in md_X12_in ⟨rfl, rfl, Nat.le_of_ble_eq_true rfl, Nat.le_of_ble_eq_true rfl⟩ rfl hl.1 rfl (Nat.le_of_ble_eq_true rfl) dX12_plans_4 ⟨Nat.zero_le _, Nat.zero_le _⟩ (fun r2 μ1 hq H locs hH => ?_)
  refine lv_if_eq (tgt := 20) hx hb dX12_plans_7 (by decide) (fun c3 => ?_) (fun c3 => ?_)
  · have hq := hq.1 c3
    refine lv_aload_n hx hb dX12_plans_20 rfl (lv_at hl 0 rfl) ?_
    refine lv_bipush (v := (-2 : Int32)) hx hb dX12_plans_21 (by decide) ?_
    refine x_cVi (C := RX12) (T := TX12) (N := 24) (As := [.int (-2 : Int32)]) (rest := []) G hH hA (c_X12_refuses l E ad μ1 q0 (-2 : Int32) hk_q0 _ hq) (wm_11 _ (List.mem_of_getElem? (i := 6) rfl)) mi_X12_refuses ms_X12_refuses mn_RX12 mc_X12_refuses rfl md_X12_refuses ⟨rfl, rfl, Nat.le_of_ble_eq_true rfl, Nat.le_of_ble_eq_true rfl⟩ hk_q0 (by decide) rfl rfl hl.1 rfl (Nat.le_of_ble_eq_true rfl) dX12_plans_23 ⟨Nat.zero_le _, Nat.zero_le _⟩ (fun r5 μ4 hq H locs hH => ?_)
    exact x_iret G hr hH hq dX12_plans_26
  · have hq := hq.2 c3
    refine lv_iload_n hx hb dX12_plans_10 rfl (lv_at hl 2 rfl) ?_
    refine lv_iconst (v := (0 : Int32)) hx hb dX12_plans_11 (by decide) ?_
    refine lv_bipush (v := (7 : Int32)) hx hb dX12_plans_12 (by decide) ?_
    refine x_cSi (As := [.int p2, .int (0 : Int32), .int (7 : Int32)]) (rest := []) G hH hA (c_X12_in l E ad μ1 p2 (0 : Int32) (7 : Int32)  _ hq) (wm_10 _ (List.mem_of_getElem? (i := 23) rfl)) mt_X12_in mn_RX12 mc_X12_in md_X12_in ⟨rfl, rfl, Nat.le_of_ble_eq_true rfl, Nat.le_of_ble_eq_true rfl⟩ rfl hl.1 rfl (Nat.le_of_ble_eq_true rfl) dX12_plans_14 ⟨Nat.zero_le _, Nat.zero_le _⟩ (fun r7 μ6 hq H locs hH => ?_)
    refine lv_if_ne (tgt := 27) hx hb dX12_plans_17 (by decide) (fun c8 => ?_) (fun c8 => ?_)
    · have hq := hq.1 c8
      refine lv_aload_n hx hb dX12_plans_27 rfl (lv_at hl 0 rfl) ?_
      refine x_cVv (C := RX12) (T := TX12) (N := 24) (As := []) (rest := []) G hH hA (c_X12_hold l E ad μ6 q0 hk_q0 _ hq) (wm_10 _ (List.mem_of_getElem? (i := 14) rfl)) mi_X12_hold ms_X12_hold mn_RX12 mc_X12_hold rfl md_X12_hold ⟨rfl, rfl, Nat.le_of_ble_eq_true rfl, Nat.le_of_ble_eq_true rfl⟩ hk_q0 (by decide) rfl rfl hl.1 rfl (Nat.le_of_ble_eq_true rfl) dX12_plans_28 ⟨Nat.zero_le _, Nat.zero_le _⟩ (fun μ9 hq H locs hH => ?_)
      refine lv_aload_n hx hb dX12_plans_31 rfl (lv_at hl 0 rfl) ?_
      refine x_get (j := 0) (C := RX12) (T := TX12) (N := 24) (v := .ref (ad (rt q0 0))) G hH hk_q0 (by decide) rfl inlX12 (by decide) (wm_6 _ (List.mem_of_getElem? (i := 18) rfl)) rfl dX12_plans_32 ?_
      refine lv_bipush (v := (43 : Int32)) hx hb dX12_plans_35 (by decide) ?_
      refine lv_iload_n hx hb dX12_plans_37 rfl (lv_at hl 1 rfl) ?_
      refine lv_iadd hx hb dX12_plans_38 ?_
      refine x_iald G hH (kt_10_0 _ hk_q0) hq.1 dX12_plans_39 ?_
      have hq := hq.2
      refine lv_topi (fun v10 e_v10 => ?_)
      have hq := hq v10 e_v10
      refine lv_istore_n (lv' := [(3, .int v10), (0, .ref (ad q0)), (1, .int p1), (2, .int p2)]) hx hb dX12_plans_40 rfl hl (by decide) rfl (fun ls hl => ?_)
      refine lv_aload_n hx hb dX12_plans_41 rfl (lv_at hl 1 rfl) ?_
      refine x_get (j := 0) (C := RX12) (T := TX12) (N := 24) (v := .ref (ad (rt q0 0))) G hH hk_q0 (by decide) rfl inlX12 (by decide) (wm_6 _ (List.mem_of_getElem? (i := 18) rfl)) rfl dX12_plans_42 ?_
      refine lv_bipush (v := (43 : Int32)) hx hb dX12_plans_45 (by decide) ?_
      refine lv_iload_n hx hb dX12_plans_47 rfl (lv_at hl 2 rfl) ?_
      refine lv_iadd hx hb dX12_plans_48 ?_
      refine lv_iload_n hx hb dX12_plans_49 rfl (lv_at hl 3 rfl) ?_
      refine x_iast G hH (kt_10_0 _ hk_q0) hq.1 dX12_plans_50 (fun μ11 e_μ11 H locs hH => ?_)
      have hq := hq.2 μ11 e_μ11
      refine lv_aload_n hx hb dX12_plans_51 rfl (lv_at hl 1 rfl) ?_
      refine x_cVv (C := RX12) (T := TX12) (N := 24) (As := []) (rest := []) G hH hA (c_X12_push l E ad μ11 q0 hk_q0 _ hq) (wm_11 _ (List.mem_of_getElem? (i := 10) rfl)) mi_X12_push ms_X12_push mn_RX12 mc_X12_push rfl md_X12_push ⟨rfl, rfl, Nat.le_of_ble_eq_true rfl, Nat.le_of_ble_eq_true rfl⟩ hk_q0 (by decide) rfl rfl hl.1 rfl (Nat.le_of_ble_eq_true rfl) dX12_plans_52 ⟨Nat.zero_le _, Nat.zero_le _⟩ (fun μ12 hq H locs hH => ?_)
      refine lv_iload_n hx hb dX12_plans_55 rfl (lv_at hl 0 rfl) ?_
      exact x_iret G hr hH hq dX12_plans_56
    · have hq := hq.2 c8
      refine lv_aload_n hx hb dX12_plans_20 rfl (lv_at hl 0 rfl) ?_
      refine lv_bipush (v := (-2 : Int32)) hx hb dX12_plans_21 (by decide) ?_
      refine x_cVi (C := RX12) (T := TX12) (N := 24) (As := [.int (-2 : Int32)]) (rest := []) G hH hA (c_X12_refuses l E ad μ6 q0 (-2 : Int32) hk_q0 _ hq) (wm_11 _ (List.mem_of_getElem? (i := 6) rfl)) mi_X12_refuses ms_X12_refuses mn_RX12 mc_X12_refuses rfl md_X12_refuses ⟨rfl, rfl, Nat.le_of_ble_eq_true rfl, Nat.le_of_ble_eq_true rfl⟩ hk_q0 (by decide) rfl rfl hl.1 rfl (Nat.le_of_ble_eq_true rfl) dX12_plans_23 ⟨Nat.zero_le _, Nat.zero_le _⟩ (fun r14 μ13 hq H locs hH => ?_)
      exact x_iret G hr hH hq dX12_plans_26
abbrev tX12_print : List Cond := Cond.code yX12_print cX12_print 3 (some .int) :: wsL_law
theorem mi_X12_print : Cond.instanceMethod yX12_print ∈ wsL_law := (wm_30 _ (List.mem_of_getElem? (i := 23) rfl))
theorem ms_X12_print : Cond.selects RX12 yX12_print yX12_print ∈ wsL_law := (wm_31 _ (List.mem_of_getElem? (i := 0) rfl))
theorem mc_X12_print : Cond.code yX12_print cX12_print 3 (some .int) ∈ wsL_law := (wm_31 _ (List.mem_of_getElem? (i := 1) rfl))
theorem md_X12_print : yX12_print.cls ≠ "java/lang/invoke/MethodHandle" ∧ yX12_print.cls ≠ "java/lang/invoke/VarHandle" ∧ (parseMethodDescriptor yX12_print.desc).map (fun d => d.parameters.length) = some 2 := by decide +kernel
set_option maxRecDepth 100000 in
set_option maxHeartbeats 4000000 in
theorem c_X12_print (l : Launch) (E : xE) (ad : Nat → Nat) (μ : xM) (q0 : Nat) (p1 : Int32) (p2 : Int32) (hk_q0 : kd q0 = 10) (Qm : Int32 → xM → Prop) (hq : p_X12_print q0 p1 p2 μ Qm) : xMi l yX12_print tX12_print ({ frames := 2, cells := 0, slots := 0, locals := 80 } : Room) E ad μ [.ref (ad q0), .int p1, .int p2] Qm := by
  refine x_sti (cc := cX12_print) (maxL := 3) (ret := (some .int)) (own := RX12) rfl (by decide) rfl (Nat.le_of_ble_eq_true rfl) ?_
  intro p e s m args below meth c ls G hr hA hH hl
  obtain ⟨hx, hb, hml, hown, hts, hKn, hN, hlk⟩ := id G
  have hl : lv_has ls 3 [(0, .ref (ad q0)), (1, .int p1), (2, .int p2)] := hl
  have hH : xH E ad (xA ad s.heap.size) s.heap μ s.heap [] := hH
  unfold p_X12_print at hq
  refine lv_iload_n hx hb dX12_print_0 rfl (lv_at hl 1 rfl) ?_
  refine lv_if_lt (tgt := 13) hx hb dX12_print_1 (by decide) (fun c1 => ?_) (fun c1 => ?_)
  · have hq := hq.1 c1
    refine lv_aload_n hx hb dX12_print_13 rfl (lv_at hl 0 rfl) ?_
    refine lv_bipush (v := (-2 : Int32)) hx hb dX12_print_14 (by decide) ?_
    refine x_cVi (C := RX12) (T := TX12) (N := 24) (As := [.int (-2 : Int32)]) (rest := []) G hH hA (c_X12_refuses l E ad μ q0 (-2 : Int32) hk_q0 _ hq) (wm_11 _ (List.mem_of_getElem? (i := 6) rfl)) mi_X12_refuses ms_X12_refuses mn_RX12 mc_X12_refuses rfl md_X12_refuses ⟨rfl, rfl, Nat.le_of_ble_eq_true rfl, Nat.le_of_ble_eq_true rfl⟩ hk_q0 (by decide) rfl rfl hl.1 rfl (Nat.le_of_ble_eq_true rfl) dX12_print_16 ⟨Nat.zero_le _, Nat.zero_le _⟩ (fun r3 μ2 hq H locs hH => ?_)
    exact x_iret G hr hH hq dX12_print_19
  · have hq := hq.2 c1
    refine lv_iload_n hx hb dX12_print_4 rfl (lv_at hl 2 rfl) ?_
    refine lv_iconst (v := (0 : Int32)) hx hb dX12_print_5 (by decide) ?_
    refine lv_iconst (v := (2 : Int32)) hx hb dX12_print_6 (by decide) ?_
    refine x_cSi (As := [.int p2, .int (0 : Int32), .int (2 : Int32)]) (rest := []) G hH hA (c_X12_in l E ad μ p2 (0 : Int32) (2 : Int32)  _ hq) (wm_10 _ (List.mem_of_getElem? (i := 23) rfl)) mt_X12_in mn_RX12 mc_X12_in md_X12_in ⟨rfl, rfl, Nat.le_of_ble_eq_true rfl, Nat.le_of_ble_eq_true rfl⟩ rfl hl.1 rfl (Nat.le_of_ble_eq_true rfl) dX12_print_7 ⟨Nat.zero_le _, Nat.zero_le _⟩ (fun r5 μ4 hq H locs hH => ?_)
    refine lv_if_ne (tgt := 20) hx hb dX12_print_10 (by decide) (fun c6 => ?_) (fun c6 => ?_)
    · have hq := hq.1 c6
      refine lv_iload_n hx hb dX12_print_20 rfl (lv_at hl 1 rfl) ?_
      refine lv_aload_n hx hb dX12_print_21 rfl (lv_at hl 0 rfl) ?_
      refine x_get (j := 0) (C := RX12) (T := TX12) (N := 24) (v := .ref (ad (rt q0 0))) G hH hk_q0 (by decide) rfl inlX12 (by decide) (wm_6 _ (List.mem_of_getElem? (i := 18) rfl)) rfl dX12_print_22 ?_
      refine lv_bipush (v := (93 : Int32)) hx hb dX12_print_25 (by decide) ?_
      refine x_iald G hH (kt_10_0 _ hk_q0) hq.1 dX12_print_27 ?_
      have hq := hq.2
      refine lv_icmp_ge (tgt := 47) hx hb dX12_print_28 (by decide) (fun c7 => ?_) (fun c7 => ?_)
      · have hq := hq.1 c7
        refine lv_iconst (v := (-1 : Int32)) hx hb dX12_print_47 (by decide) ?_
        exact x_iret G hr hH hq dX12_print_48
      · have hq := hq.2 c7
        refine lv_aload_n hx hb dX12_print_31 rfl (lv_at hl 0 rfl) ?_
        refine x_get (j := 0) (C := RX12) (T := TX12) (N := 24) (v := .ref (ad (rt q0 0))) G hH hk_q0 (by decide) rfl inlX12 (by decide) (wm_6 _ (List.mem_of_getElem? (i := 18) rfl)) rfl dX12_print_32 ?_
        refine lv_bipush (v := (95 : Int32)) hx hb dX12_print_35 (by decide) ?_
        refine lv_iconst (v := (3 : Int32)) hx hb dX12_print_37 (by decide) ?_
        refine lv_iload_n hx hb dX12_print_38 rfl (lv_at hl 1 rfl) ?_
        refine lv_imul hx hb dX12_print_39 ?_
        refine lv_iadd hx hb dX12_print_40 ?_
        refine lv_iload_n hx hb dX12_print_41 rfl (lv_at hl 2 rfl) ?_
        refine lv_iadd hx hb dX12_print_42 ?_
        refine x_iald G hH (kt_10_0 _ hk_q0) hq.1 dX12_print_43 ?_
        have hq := hq.2
        refine lv_goto (tgt := 48) hx hb dX12_print_44 (by decide) ?_
        exact x_iret G hr hH hq dX12_print_48
    · have hq := hq.2 c6
      refine lv_aload_n hx hb dX12_print_13 rfl (lv_at hl 0 rfl) ?_
      refine lv_bipush (v := (-2 : Int32)) hx hb dX12_print_14 (by decide) ?_
      refine x_cVi (C := RX12) (T := TX12) (N := 24) (As := [.int (-2 : Int32)]) (rest := []) G hH hA (c_X12_refuses l E ad μ4 q0 (-2 : Int32) hk_q0 _ hq) (wm_11 _ (List.mem_of_getElem? (i := 6) rfl)) mi_X12_refuses ms_X12_refuses mn_RX12 mc_X12_refuses rfl md_X12_refuses ⟨rfl, rfl, Nat.le_of_ble_eq_true rfl, Nat.le_of_ble_eq_true rfl⟩ hk_q0 (by decide) rfl rfl hl.1 rfl (Nat.le_of_ble_eq_true rfl) dX12_print_16 ⟨Nat.zero_le _, Nat.zero_le _⟩ (fun r9 μ8 hq H locs hH => ?_)
      exact x_iret G hr hH hq dX12_print_19
abbrev tX12_prints : List Cond := Cond.code yX12_prints cX12_prints 3 (some .int) :: wsL_law
theorem mi_X12_prints : Cond.instanceMethod yX12_prints ∈ wsL_law := (wm_27 _ (List.mem_of_getElem? (i := 5) rfl))
theorem ms_X12_prints : Cond.selects RX12 yX12_prints yX12_prints ∈ wsL_law := (wm_27 _ (List.mem_of_getElem? (i := 6) rfl))
theorem mc_X12_prints : Cond.code yX12_prints cX12_prints 3 (some .int) ∈ wsL_law := (wm_27 _ (List.mem_of_getElem? (i := 7) rfl))
theorem md_X12_prints : yX12_prints.cls ≠ "java/lang/invoke/MethodHandle" ∧ yX12_prints.cls ≠ "java/lang/invoke/VarHandle" ∧ (parseMethodDescriptor yX12_prints.desc).map (fun d => d.parameters.length) = some 2 := by decide +kernel
set_option maxRecDepth 100000 in
set_option maxHeartbeats 4000000 in
theorem c_X12_prints (l : Launch) (E : xE) (ad : Nat → Nat) (μ : xM) (q0 : Nat) (p1 : Int32) (p2 : Int32) (hk_q0 : kd q0 = 10) (Qm : Int32 → xM → Prop) (hq : p_X12_prints q0 p1 p2 μ Qm) : xMi l yX12_prints tX12_prints ({ frames := 5, cells := 0, slots := 0, locals := 200 } : Room) E ad μ [.ref (ad q0), .int p1, .int p2] Qm := by
  refine x_sti (cc := cX12_prints) (maxL := 3) (ret := (some .int)) (own := RX12) rfl (by decide) rfl (Nat.le_of_ble_eq_true rfl) ?_
  intro p e s m args below meth c ls G hr hA hH hl
  obtain ⟨hx, hb, hml, hown, hts, hKn, hN, hlk⟩ := id G
  have hl : lv_has ls 3 [(0, .ref (ad q0)), (1, .int p1), (2, .int p2)] := hl
  have hH : xH E ad (xA ad s.heap.size) s.heap μ s.heap [] := hH
  unfold p_X12_prints at hq
  refine lv_aload_n hx hb dX12_prints_0 rfl (lv_at hl 0 rfl) ?_
  refine x_cVv (C := RX12) (T := TX12) (N := 24) (As := []) (rest := []) G hH hA (c_X12_hold l E ad μ q0 hk_q0 _ hq) (wm_10 _ (List.mem_of_getElem? (i := 14) rfl)) mi_X12_hold ms_X12_hold mn_RX12 mc_X12_hold rfl md_X12_hold ⟨rfl, rfl, Nat.le_of_ble_eq_true rfl, Nat.le_of_ble_eq_true rfl⟩ hk_q0 (by decide) rfl rfl hl.1 rfl (Nat.le_of_ble_eq_true rfl) dX12_prints_1 ⟨Nat.zero_le _, Nat.zero_le _⟩ (fun μ1 hq H locs hH => ?_)
  refine lv_aload_n hx hb dX12_prints_4 rfl (lv_at hl 0 rfl) ?_
  refine lv_aload_n hx hb dX12_prints_5 rfl (lv_at hl 0 rfl) ?_
  refine lv_iload_n hx hb dX12_prints_6 rfl (lv_at hl 1 rfl) ?_
  refine lv_iload_n hx hb dX12_prints_7 rfl (lv_at hl 2 rfl) ?_
  refine x_cVi (C := RX12) (T := TX12) (N := 24) (As := [.int p1, .int p2]) (rest := [.ref (ad q0)]) G hH hA (c_X12_doPrints l E ad μ1 q0 p1 p2 hk_q0 _ hq) (wm_27 _ (List.mem_of_getElem? (i := 8) rfl)) mi_X12_doPrints ms_X12_doPrints mn_RX12 mc_X12_doPrints rfl md_X12_doPrints ⟨rfl, rfl, Nat.le_of_ble_eq_true rfl, Nat.le_of_ble_eq_true rfl⟩ hk_q0 (by decide) rfl rfl hl.1 rfl (Nat.le_of_ble_eq_true rfl) dX12_prints_8 ⟨Nat.zero_le _, Nat.zero_le _⟩ (fun r3 μ2 hq H locs hH => ?_)
  refine x_cVi (C := RX12) (T := TX12) (N := 24) (As := [.int r3]) (rest := []) G hH hA (c_X12_ends l E ad μ2 q0 r3 hk_q0 _ hq) (wm_11 _ (List.mem_of_getElem? (i := 2) rfl)) mi_X12_ends ms_X12_ends mn_RX12 mc_X12_ends rfl md_X12_ends ⟨rfl, rfl, Nat.le_of_ble_eq_true rfl, Nat.le_of_ble_eq_true rfl⟩ hk_q0 (by decide) rfl rfl hl.1 rfl (Nat.le_of_ble_eq_true rfl) dX12_prints_11 ⟨Nat.zero_le _, Nat.zero_le _⟩ (fun r5 μ4 hq H locs hH => ?_)
  exact x_iret G hr hH hq dX12_prints_14
abbrev tX12_readOrder : List Cond := Cond.code yX12_readOrder cX12_readOrder 4 none :: wsL_law
theorem mi_X12_readOrder : Cond.instanceMethod yX12_readOrder ∈ wsL_law := (wm_35 _ (List.mem_of_getElem? (i := 5) rfl))
theorem ms_X12_readOrder : Cond.selects RX12 yX12_readOrder yX12_readOrder ∈ wsL_law := (wm_35 _ (List.mem_of_getElem? (i := 6) rfl))
theorem mc_X12_readOrder : Cond.code yX12_readOrder cX12_readOrder 4 none ∈ wsL_law := (wm_35 _ (List.mem_of_getElem? (i := 7) rfl))
theorem md_X12_readOrder : yX12_readOrder.cls ≠ "java/lang/invoke/MethodHandle" ∧ yX12_readOrder.cls ≠ "java/lang/invoke/VarHandle" ∧ (parseMethodDescriptor yX12_readOrder.desc).map (fun d => d.parameters.length) = some 0 := by decide +kernel
set_option maxRecDepth 100000 in
set_option maxHeartbeats 4000000 in
theorem wb_X12_readOrder_36 {E : xE} {ad : Nat → Nat} {p : Program} {l : Launch} {e : Env} {s : State} {m : MethodId} {args : Array Value} {below : List Frame} {meth : Method} {c : Code} {Q : State → Prop} (G : xG E p s m args meth c cX12_readOrder 4 RX12) (hA : ∀ a, s.heap.size ≤ a → xA ad s.heap.size a) (a14 : Int32) (a15 : Int32) (q16 : Nat) (hk_q16 : kd q16 = 10) (a17 : Int32) (μ19 : xM) (K360 : xM → Prop) (K36b : Int32 → xM → Prop) (hq : B_X12_readOrder_36 a14 a15 q16 a17 μ19 K360 K36b) {H : Heap} {locs : List Loc} {ls : Array Slot} (hH : xH E ad (xA ad s.heap.size) s.heap μ19 H locs) (hl : lv_has ls 4 [(2, .int a14), (1, .int a15), (0, .ref (ad q16)), (3, .int a17)]) (kK360 : ∀ (μ20 : xM), K360  μ20 → ∀ (H : Heap) (locs : List Loc) (ls : Array Slot), xH E ad (xA ad s.heap.size) s.heap μ20 H locs → lv_has ls 4 [(1, .int a15), (0, .ref (ad q16))] → W p l e (headSpec tX12_readOrder ({ frames := 4, cells := 0, slots := 0, locals := 160 } : Room)).room s m args below meth c H locs 0 0 Q (F0 m 87 ls [])) (kK36b : ∀ (a21 : Int32) (μ22 : xM), K36b a21 μ22 → ∀ (H : Heap) (locs : List Loc) (ls : Array Slot), xH E ad (xA ad s.heap.size) s.heap μ22 H locs → lv_has ls 4 [(2, .int a14), (1, .int a15), (0, .ref (ad q16)), (3, .int a21)] → W p l e (headSpec tX12_readOrder ({ frames := 4, cells := 0, slots := 0, locals := 160 } : Room)).room s m args below meth c H locs 0 0 Q (F0 m 36 ls [])) : W p l e (headSpec tX12_readOrder ({ frames := 4, cells := 0, slots := 0, locals := 160 } : Room)).room s m args below meth c H locs 0 0 Q (F0 m 36 ls []) := by
  obtain ⟨hx, hb, hml, hown, hts, hKn, hN, hlk⟩ := id G
  unfold B_X12_readOrder_36 at hq
  refine lv_iload_n hx hb dX12_readOrder_36 rfl (lv_at hl 3 rfl) ?_
  refine lv_iload_n hx hb dX12_readOrder_37 rfl (lv_at hl 0 rfl) ?_
  refine lv_icmp_ge (tgt := 87) hx hb dX12_readOrder_38 (by decide) (fun c23 => ?_) (fun c23 => ?_)
  · have hq := hq.1 c23
    exact kK360  μ19 hq _ _ _ hH (lv_sub hl [1, 2] rfl)
  · have hq := hq.2 c23
    refine lv_aload_n hx hb dX12_readOrder_41 rfl (lv_at hl 2 rfl) ?_
    refine x_get (j := 19) (C := RX12) (T := TX12) (N := 24) (v := .int (μ19.1 q16 19)) G hH hk_q16 (by decide) rfl inlX12 (by decide) (wm_34 _ (List.mem_of_getElem? (i := 18) rfl)) rfl dX12_readOrder_42 ?_
    refine lv_iconst (v := (-1 : Int32)) hx hb dX12_readOrder_45 (by decide) ?_
    refine lv_icmp_ne (tgt := 87) hx hb dX12_readOrder_46 (by decide) (fun c24 => ?_) (fun c24 => ?_)
    · have hq := hq.1 c24
      exact kK360  μ19 hq _ _ _ hH (lv_sub hl [1, 2] rfl)
    · have hq := hq.2 c24
      refine lv_aload_n hx hb dX12_readOrder_49 rfl (lv_at hl 2 rfl) ?_
      refine x_get (j := 22) (C := RX12) (T := TX12) (N := 24) (v := .ref (ad (rt q16 22))) G hH hk_q16 (by decide) rfl inlX12 (by decide) (wm_7 _ (List.mem_of_getElem? (i := 8) rfl)) rfl dX12_readOrder_50 ?_
      refine lv_iconst (v := (4 : Int32)) hx hb dX12_readOrder_53 (by decide) ?_
      refine lv_aload_n hx hb dX12_readOrder_54 rfl (lv_at hl 2 rfl) ?_
      refine x_get (j := 20) (C := RX12) (T := TX12) (N := 24) (v := .int (μ19.1 q16 20)) G hH hk_q16 (by decide) rfl inlX12 (by decide) (wm_34 _ (List.mem_of_getElem? (i := 19) rfl)) rfl dX12_readOrder_55 ?_
      refine lv_imul hx hb dX12_readOrder_58 ?_
      refine lv_iload_n hx hb dX12_readOrder_59 rfl (lv_at hl 3 rfl) ?_
      refine lv_iadd hx hb dX12_readOrder_60 ?_
      refine lv_aload_n hx hb dX12_readOrder_61 rfl (lv_at hl 2 rfl) ?_
      refine lv_iload_n hx hb dX12_readOrder_62 rfl (lv_at hl 1 rfl) ?_
      refine lv_bipush (v := (115 : Int32)) hx hb dX12_readOrder_63 (by decide) ?_
      refine lv_icmp_ne (tgt := 76) hx hb dX12_readOrder_65 (by decide) (fun c25 => ?_) (fun c25 => ?_)
      · have hq := hq.1 c25
        refine lv_iconst (v := (0 : Int32)) hx hb dX12_readOrder_76 (by decide) ?_
        refine x_cVi (C := RX12) (T := TX12) (N := 24) (As := [.int (0 : Int32)]) (rest := [.int (((4 : Int32) * (μ19.1 q16 20)) + a17), .ref (ad (rt q16 22))]) G hH hA (c_X12_number l E ad μ19 q16 (0 : Int32) hk_q16 _ hq) (wm_35 _ (List.mem_of_getElem? (i := 11) rfl)) mi_X12_number ms_X12_number mn_RX12 mc_X12_number rfl md_X12_number ⟨rfl, rfl, Nat.le_of_ble_eq_true rfl, Nat.le_of_ble_eq_true rfl⟩ hk_q16 (by decide) rfl rfl hl.1 rfl (Nat.le_of_ble_eq_true rfl) dX12_readOrder_77 ⟨Nat.zero_le _, Nat.zero_le _⟩ (fun r27 μ26 hq H locs hH => ?_)
        refine x_iast G hH (kt_10_22 _ hk_q16) hq.1 dX12_readOrder_80 (fun μ28 e_μ28 H locs hH => ?_)
        have hq := hq.2 μ28 e_μ28
        obtain ⟨v29, e_v29⟩ : ∃ y : Int32, y = (a17 + (1 : Int32)) := ⟨_, rfl⟩
        have hq := hq v29 e_v29
        refine lv_iinc (v := v29) (lv' := [(3, .int v29), (2, .int a14), (1, .int a15), (0, .ref (ad q16))]) hx hb dX12_readOrder_81 hl (k := 3) rfl (by rw [e_v29]; rfl) (by decide) rfl (fun ls hl => ?_)
        refine lv_goto (tgt := 36) hx hb dX12_readOrder_84 (by decide) ?_
        exact kK36b v29 μ28 hq _ _ _ hH (lv_sub hl [1, 2, 3, 0] rfl)
      · have hq := hq.2 c25
        refine lv_iload_n hx hb dX12_readOrder_68 rfl (lv_at hl 3 rfl) ?_
        refine lv_if_le (tgt := 76) hx hb dX12_readOrder_69 (by decide) (fun c30 => ?_) (fun c30 => ?_)
        · have hq := hq.1 c30
          refine lv_iconst (v := (0 : Int32)) hx hb dX12_readOrder_76 (by decide) ?_
          refine x_cVi (C := RX12) (T := TX12) (N := 24) (As := [.int (0 : Int32)]) (rest := [.int (((4 : Int32) * (μ19.1 q16 20)) + a17), .ref (ad (rt q16 22))]) G hH hA (c_X12_number l E ad μ19 q16 (0 : Int32) hk_q16 _ hq) (wm_35 _ (List.mem_of_getElem? (i := 11) rfl)) mi_X12_number ms_X12_number mn_RX12 mc_X12_number rfl md_X12_number ⟨rfl, rfl, Nat.le_of_ble_eq_true rfl, Nat.le_of_ble_eq_true rfl⟩ hk_q16 (by decide) rfl rfl hl.1 rfl (Nat.le_of_ble_eq_true rfl) dX12_readOrder_77 ⟨Nat.zero_le _, Nat.zero_le _⟩ (fun r32 μ31 hq H locs hH => ?_)
          refine x_iast G hH (kt_10_22 _ hk_q16) hq.1 dX12_readOrder_80 (fun μ33 e_μ33 H locs hH => ?_)
          have hq := hq.2 μ33 e_μ33
          obtain ⟨v34, e_v34⟩ : ∃ y : Int32, y = (a17 + (1 : Int32)) := ⟨_, rfl⟩
          have hq := hq v34 e_v34
          refine lv_iinc (v := v34) (lv' := [(3, .int v34), (2, .int a14), (1, .int a15), (0, .ref (ad q16))]) hx hb dX12_readOrder_81 hl (k := 3) rfl (by rw [e_v34]; rfl) (by decide) rfl (fun ls hl => ?_)
          refine lv_goto (tgt := 36) hx hb dX12_readOrder_84 (by decide) ?_
          exact kK36b v34 μ33 hq _ _ _ hH (lv_sub hl [1, 2, 3, 0] rfl)
        · have hq := hq.2 c30
          refine lv_iconst (v := (1 : Int32)) hx hb dX12_readOrder_72 (by decide) ?_
          refine lv_goto (tgt := 77) hx hb dX12_readOrder_73 (by decide) ?_
          refine x_cVi (C := RX12) (T := TX12) (N := 24) (As := [.int (1 : Int32)]) (rest := [.int (((4 : Int32) * (μ19.1 q16 20)) + a17), .ref (ad (rt q16 22))]) G hH hA (c_X12_number l E ad μ19 q16 (1 : Int32) hk_q16 _ hq) (wm_35 _ (List.mem_of_getElem? (i := 11) rfl)) mi_X12_number ms_X12_number mn_RX12 mc_X12_number rfl md_X12_number ⟨rfl, rfl, Nat.le_of_ble_eq_true rfl, Nat.le_of_ble_eq_true rfl⟩ hk_q16 (by decide) rfl rfl hl.1 rfl (Nat.le_of_ble_eq_true rfl) dX12_readOrder_77 ⟨Nat.zero_le _, Nat.zero_le _⟩ (fun r36 μ35 hq H locs hH => ?_)
          refine x_iast G hH (kt_10_22 _ hk_q16) hq.1 dX12_readOrder_80 (fun μ37 e_μ37 H locs hH => ?_)
          have hq := hq.2 μ37 e_μ37
          obtain ⟨v38, e_v38⟩ : ∃ y : Int32, y = (a17 + (1 : Int32)) := ⟨_, rfl⟩
          have hq := hq v38 e_v38
          refine lv_iinc (v := v38) (lv' := [(3, .int v38), (2, .int a14), (1, .int a15), (0, .ref (ad q16))]) hx hb dX12_readOrder_81 hl (k := 3) rfl (by rw [e_v38]; rfl) (by decide) rfl (fun ls hl => ?_)
          refine lv_goto (tgt := 36) hx hb dX12_readOrder_84 (by decide) ?_
          exact kK36b v38 μ37 hq _ _ _ hH (lv_sub hl [1, 2, 3, 0] rfl)
set_option maxRecDepth 100000 in
set_option maxHeartbeats 4000000 in
theorem w_X12_readOrder_36 {E : xE} {ad : Nat → Nat} {p : Program} {l : Launch} {e : Env} {s : State} {m : MethodId} {args : Array Value} {below : List Frame} {meth : Method} {c : Code} {Q : State → Prop} (G : xG E p s m args meth c cX12_readOrder 4 RX12) (hA : ∀ a, s.heap.size ≤ a → xA ad s.heap.size a) (a14 : Int32) (a15 : Int32) (q16 : Nat) (hk_q16 : kd q16 = 10) : ∀ (n : Nat) (a17 : Int32) (μ19 : xM) (K360 : xM → Prop) (hq : L_X12_readOrder_36 a14 a15 q16 n a17 μ19 K360) (H : Heap) (locs : List Loc) (ls : Array Slot) (hH : xH E ad (xA ad s.heap.size) s.heap μ19 H locs) (hl : lv_has ls 4 [(2, .int a14), (1, .int a15), (0, .ref (ad q16)), (3, .int a17)]) (kK360 : ∀ (μ20 : xM), K360  μ20 → ∀ (H : Heap) (locs : List Loc) (ls : Array Slot), xH E ad (xA ad s.heap.size) s.heap μ20 H locs → lv_has ls 4 [(1, .int a15), (0, .ref (ad q16))] → W p l e (headSpec tX12_readOrder ({ frames := 4, cells := 0, slots := 0, locals := 160 } : Room)).room s m args below meth c H locs 0 0 Q (F0 m 87 ls [])) , W p l e (headSpec tX12_readOrder ({ frames := 4, cells := 0, slots := 0, locals := 160 } : Room)).room s m args below meth c H locs 0 0 Q (F0 m 36 ls [])
  | 0, _, _, _, hq, _, _, _, _, _, _ => hq.elim
  | n + 1, a17, μ19, K360, hq, H, locs, ls, hH, hl, kK360 => wb_X12_readOrder_36 G hA a14 a15 q16 hk_q16 a17 μ19 K360 _ hq hH hl kK360 (fun x0 y hq H locs ls hH hl => w_X12_readOrder_36 G hA a14 a15 q16 hk_q16 n x0 y K360 hq H locs ls hH hl kK360)
set_option maxRecDepth 100000 in
set_option maxHeartbeats 4000000 in
theorem wj_X12_readOrder_117 {E : xE} {ad : Nat → Nat} {p : Program} {l : Launch} {e : Env} {s : State} {m : MethodId} {args : Array Value} {below : List Frame} {meth : Method} {c : Code} {Qm : xM → Prop} (G : xG E p s m args meth c cX12_readOrder 4 RX12) (hA : ∀ a, s.heap.size ≤ a → xA ad s.heap.size a) (hr : meth.sig.returnType = none) (a49 : Int32) (q50 : Nat) (a51 : Int32) (q52 : Nat) (hk_q50 : kd q50 = 10) (hk_q52 : kd q52 = 10) (μ53 : xM) (hq : J_X12_readOrder_117 a49 q50 a51 q52 μ53 Qm) {H : Heap} {locs : List Loc} {ls : Array Slot} (hH : xH E ad (xA ad s.heap.size) s.heap μ53 H locs) (hl : lv_has ls 4 [(1, .int a49), (0, .ref (ad q50))]) : W p l e (headSpec tX12_readOrder ({ frames := 4, cells := 0, slots := 0, locals := 160 } : Room)).room s m args below meth c H locs 0 0 (MQ below (va_Qv Qm (xPost E ad s.heap.size) (xA ad s.heap.size)) args s 0 0 (xA ad s.heap.size)) (F0 m 117 ls [.int a51, .ref (ad q52)]) := by
  obtain ⟨hx, hb, hml, hown, hts, hKn, hN, hlk⟩ := id G
  unfold J_X12_readOrder_117 at hq
  refine x_cVv (C := RX12) (T := TX12) (N := 24) (As := [.int a51]) (rest := []) G hH hA (c_X12_must l E ad μ53 q52 a51 hk_q52 _ hq) (wm_35 _ (List.mem_of_getElem? (i := 0) rfl)) mi_X12_must ms_X12_must mn_RX12 mc_X12_must rfl md_X12_must ⟨rfl, rfl, Nat.le_of_ble_eq_true rfl, Nat.le_of_ble_eq_true rfl⟩ hk_q52 (by decide) rfl rfl hl.1 rfl (Nat.le_of_ble_eq_true rfl) dX12_readOrder_117 ⟨Nat.zero_le _, Nat.zero_le _⟩ (fun μ54 hq H locs hH => ?_)
  refine lv_aload_n hx hb dX12_readOrder_120 rfl (lv_at hl 1 rfl) ?_
  refine x_get (j := 21) (C := RX12) (T := TX12) (N := 24) (v := .ref (ad (rt q50 21))) G hH hk_q50 (by decide) rfl inlX12 (by decide) (wm_7 _ (List.mem_of_getElem? (i := 7) rfl)) rfl dX12_readOrder_121 ?_
  refine lv_aload_n hx hb dX12_readOrder_124 rfl (lv_at hl 1 rfl) ?_
  refine x_get (j := 20) (C := RX12) (T := TX12) (N := 24) (v := .int (μ54.1 q50 20)) G hH hk_q50 (by decide) rfl inlX12 (by decide) (wm_34 _ (List.mem_of_getElem? (i := 19) rfl)) rfl dX12_readOrder_125 ?_
  refine lv_iload_n hx hb dX12_readOrder_128 rfl (lv_at hl 0 rfl) ?_
  refine x_iast G hH (kt_10_21 _ hk_q50) hq.1 dX12_readOrder_129 (fun μ55 e_μ55 H locs hH => ?_)
  have hq := hq.2 μ55 e_μ55
  refine lv_aload_n hx hb dX12_readOrder_130 rfl (lv_at hl 1 rfl) ?_
  refine lv_dup hx hb dX12_readOrder_131 rfl ?_
  refine x_get (j := 18) (C := RX12) (T := TX12) (N := 24) (v := .int (μ55.1 q50 18)) G hH hk_q50 (by decide) rfl inlX12 (by decide) (wm_34 _ (List.mem_of_getElem? (i := 17) rfl)) rfl dX12_readOrder_132 ?_
  refine lv_iconst (v := (1 : Int32)) hx hb dX12_readOrder_135 (by decide) ?_
  refine lv_iadd hx hb dX12_readOrder_136 ?_
  refine x_puti (j := 18) (C := RX12) (T := TX12) (N := 24) (ty := .int) G hH hk_q50 (by decide) rfl inlX12 tyX12 tyX12_ok nmX12 (by decide) (wm_34 _ (List.mem_of_getElem? (i := 17) rfl)) rfl (by decide +kernel) rfl rfl (fun _ _ => Nat.le_of_ble_eq_true rfl) (fun _ _ => rfl) dX12_readOrder_137 (fun μ56 e_μ56 H locs hH => ?_)
  have hq := hq μ56 e_μ56
  refine lv_aload_n hx hb dX12_readOrder_140 rfl (lv_at hl 1 rfl) ?_
  refine lv_dup hx hb dX12_readOrder_141 rfl ?_
  refine x_get (j := 20) (C := RX12) (T := TX12) (N := 24) (v := .int (μ56.1 q50 20)) G hH hk_q50 (by decide) rfl inlX12 (by decide) (wm_34 _ (List.mem_of_getElem? (i := 19) rfl)) rfl dX12_readOrder_142 ?_
  refine lv_iconst (v := (1 : Int32)) hx hb dX12_readOrder_145 (by decide) ?_
  refine lv_iadd hx hb dX12_readOrder_146 ?_
  refine x_puti (j := 20) (C := RX12) (T := TX12) (N := 24) (ty := .int) G hH hk_q50 (by decide) rfl inlX12 tyX12 tyX12_ok nmX12 (by decide) (wm_34 _ (List.mem_of_getElem? (i := 19) rfl)) rfl (by decide +kernel) rfl rfl (fun _ _ => Nat.le_of_ble_eq_true rfl) (fun _ _ => rfl) dX12_readOrder_147 (fun μ57 e_μ57 H locs hH => ?_)
  have hq := hq μ57 e_μ57
  exact x_vret G hr hH hq dX12_readOrder_150
set_option maxRecDepth 100000 in
set_option maxHeartbeats 4000000 in
theorem wj_X12_readOrder_104 {E : xE} {ad : Nat → Nat} {p : Program} {l : Launch} {e : Env} {s : State} {m : MethodId} {args : Array Value} {below : List Frame} {meth : Method} {c : Code} {Qm : xM → Prop} (G : xG E p s m args meth c cX12_readOrder 4 RX12) (hA : ∀ a, s.heap.size ≤ a → xA ad s.heap.size a) (hr : meth.sig.returnType = none) (a44 : Int32) (q45 : Nat) (a46 : Int32) (hk_q45 : kd q45 = 10) (μ47 : xM) (hq : J_X12_readOrder_104 a44 q45 a46 μ47 Qm) {H : Heap} {locs : List Loc} {ls : Array Slot} (hH : xH E ad (xA ad s.heap.size) s.heap μ47 H locs) (hl : lv_has ls 4 [(1, .int a44), (0, .ref (ad q45))]) : W p l e (headSpec tX12_readOrder ({ frames := 4, cells := 0, slots := 0, locals := 160 } : Room)).room s m args below meth c H locs 0 0 (MQ below (va_Qv Qm (xPost E ad s.heap.size) (xA ad s.heap.size)) args s 0 0 (xA ad s.heap.size)) (F0 m 104 ls [.int a46]) := by
  obtain ⟨hx, hb, hml, hown, hts, hKn, hN, hlk⟩ := id G
  unfold J_X12_readOrder_104 at hq
  refine lv_istore_n (lv' := [(3, .int a46), (1, .int a44), (0, .ref (ad q45))]) hx hb dX12_readOrder_104 rfl hl (by decide) rfl (fun ls hl => ?_)
  refine lv_aload_n hx hb dX12_readOrder_105 rfl (lv_at hl 2 rfl) ?_
  refine lv_iload_n hx hb dX12_readOrder_106 rfl (lv_at hl 0 rfl) ?_
  refine lv_bipush (v := (59 : Int32)) hx hb dX12_readOrder_107 (by decide) ?_
  refine lv_icmp_ne (tgt := 116) hx hb dX12_readOrder_109 (by decide) (fun c48 => ?_) (fun c48 => ?_)
  · have hq := hq.1 c48
    refine lv_iconst (v := (0 : Int32)) hx hb dX12_readOrder_116 (by decide) ?_
    exact wj_X12_readOrder_117 G hA hr  a44 q45 (0 : Int32) q45  hk_q45 hk_q45 μ47 hq hH (lv_sub hl [1, 2] rfl)
  · have hq := hq.2 c48
    refine lv_iconst (v := (1 : Int32)) hx hb dX12_readOrder_112 (by decide) ?_
    refine lv_goto (tgt := 117) hx hb dX12_readOrder_113 (by decide) ?_
    exact wj_X12_readOrder_117 G hA hr  a44 q45 (1 : Int32) q45  hk_q45 hk_q45 μ47 hq hH (lv_sub hl [1, 2] rfl)
set_option maxRecDepth 100000 in
set_option maxHeartbeats 4000000 in
theorem wj_X12_readOrder_87 {E : xE} {ad : Nat → Nat} {p : Program} {l : Launch} {e : Env} {s : State} {m : MethodId} {args : Array Value} {below : List Frame} {meth : Method} {c : Code} {Qm : xM → Prop} (G : xG E p s m args meth c cX12_readOrder 4 RX12) (hA : ∀ a, s.heap.size ≤ a → xA ad s.heap.size a) (hr : meth.sig.returnType = none) (a40 : Int32) (q41 : Nat) (hk_q41 : kd q41 = 10) (μ42 : xM) (hq : J_X12_readOrder_87 a40 q41 μ42 Qm) {H : Heap} {locs : List Loc} {ls : Array Slot} (hH : xH E ad (xA ad s.heap.size) s.heap μ42 H locs) (hl : lv_has ls 4 [(1, .int a40), (0, .ref (ad q41))]) : W p l e (headSpec tX12_readOrder ({ frames := 4, cells := 0, slots := 0, locals := 160 } : Room)).room s m args below meth c H locs 0 0 (MQ below (va_Qv Qm (xPost E ad s.heap.size) (xA ad s.heap.size)) args s 0 0 (xA ad s.heap.size)) (F0 m 87 ls []) := by
  obtain ⟨hx, hb, hml, hown, hts, hKn, hN, hlk⟩ := id G
  unfold J_X12_readOrder_87 at hq
  refine lv_aload_n hx hb dX12_readOrder_87 rfl (lv_at hl 1 rfl) ?_
  refine x_get (j := 19) (C := RX12) (T := TX12) (N := 24) (v := .int (μ42.1 q41 19)) G hH hk_q41 (by decide) rfl inlX12 (by decide) (wm_34 _ (List.mem_of_getElem? (i := 18) rfl)) rfl dX12_readOrder_88 ?_
  refine lv_iconst (v := (-1 : Int32)) hx hb dX12_readOrder_91 (by decide) ?_
  refine lv_icmp_ne (tgt := 102) hx hb dX12_readOrder_92 (by decide) (fun c43 => ?_) (fun c43 => ?_)
  · have hq := hq.1 c43
    refine lv_bipush (v := (59 : Int32)) hx hb dX12_readOrder_102 (by decide) ?_
    exact wj_X12_readOrder_104 G hA hr  a40 q41 (59 : Int32)  hk_q41 μ42 hq hH (lv_sub hl [0, 1] rfl)
  · have hq := hq.2 c43
    refine lv_aload_n hx hb dX12_readOrder_95 rfl (lv_at hl 1 rfl) ?_
    refine x_cVi (C := RX12) (T := TX12) (N := 24) (As := []) (rest := []) G hH hA (c_X12_here l E ad μ42 q41 hk_q41 _ hq) (wm_34 _ (List.mem_of_getElem? (i := 20) rfl)) mi_X12_here ms_X12_here mn_RX12 mc_X12_here rfl md_X12_here ⟨rfl, rfl, Nat.le_of_ble_eq_true rfl, Nat.le_of_ble_eq_true rfl⟩ hk_q41 (by decide) rfl rfl hl.1 rfl (Nat.le_of_ble_eq_true rfl) dX12_readOrder_96 ⟨Nat.zero_le _, Nat.zero_le _⟩ (fun r63 μ62 hq H locs hH => ?_)
    refine lv_goto (tgt := 104) hx hb dX12_readOrder_99 (by decide) ?_
    exact wj_X12_readOrder_104 G hA hr  a40 q41 r63  hk_q41 μ62 hq hH (lv_sub hl [0, 1] rfl)
set_option maxRecDepth 100000 in
set_option maxHeartbeats 4000000 in
theorem wj_X12_readOrder_21 {E : xE} {ad : Nat → Nat} {p : Program} {l : Launch} {e : Env} {s : State} {m : MethodId} {args : Array Value} {below : List Frame} {meth : Method} {c : Code} {Qm : xM → Prop} (G : xG E p s m args meth c cX12_readOrder 4 RX12) (hA : ∀ a, s.heap.size ≤ a → xA ad s.heap.size a) (hr : meth.sig.returnType = none) (a6 : Int32) (a7 : Int32) (q8 : Nat) (a9 : Int32) (q10 : Nat) (hk_q8 : kd q8 = 10) (hk_q10 : kd q10 = 10) (μ11 : xM) (hq : J_X12_readOrder_21 a6 a7 q8 a9 q10 μ11 Qm) {H : Heap} {locs : List Loc} {ls : Array Slot} (hH : xH E ad (xA ad s.heap.size) s.heap μ11 H locs) (hl : lv_has ls 4 [(2, .int a6), (1, .int a7), (0, .ref (ad q8))]) : W p l e (headSpec tX12_readOrder ({ frames := 4, cells := 0, slots := 0, locals := 160 } : Room)).room s m args below meth c H locs 0 0 (MQ below (va_Qv Qm (xPost E ad s.heap.size) (xA ad s.heap.size)) args s 0 0 (xA ad s.heap.size)) (F0 m 21 ls [.int a9, .ref (ad q10)]) := by
  obtain ⟨hx, hb, hml, hown, hts, hKn, hN, hlk⟩ := id G
  unfold J_X12_readOrder_21 at hq
  refine x_cVv (C := RX12) (T := TX12) (N := 24) (As := [.int a9]) (rest := []) G hH hA (c_X12_must l E ad μ11 q10 a9 hk_q10 _ hq) (wm_35 _ (List.mem_of_getElem? (i := 0) rfl)) mi_X12_must ms_X12_must mn_RX12 mc_X12_must rfl md_X12_must ⟨rfl, rfl, Nat.le_of_ble_eq_true rfl, Nat.le_of_ble_eq_true rfl⟩ hk_q10 (by decide) rfl rfl hl.1 rfl (Nat.le_of_ble_eq_true rfl) dX12_readOrder_21 ⟨Nat.zero_le _, Nat.zero_le _⟩ (fun μ12 hq H locs hH => ?_)
  refine lv_aload_n hx hb dX12_readOrder_24 rfl (lv_at hl 2 rfl) ?_
  refine lv_dup hx hb dX12_readOrder_25 rfl ?_
  refine x_get (j := 18) (C := RX12) (T := TX12) (N := 24) (v := .int (μ12.1 q8 18)) G hH hk_q8 (by decide) rfl inlX12 (by decide) (wm_34 _ (List.mem_of_getElem? (i := 17) rfl)) rfl dX12_readOrder_26 ?_
  refine lv_iconst (v := (1 : Int32)) hx hb dX12_readOrder_29 (by decide) ?_
  refine lv_iadd hx hb dX12_readOrder_30 ?_
  refine x_puti (j := 18) (C := RX12) (T := TX12) (N := 24) (ty := .int) G hH hk_q8 (by decide) rfl inlX12 tyX12 tyX12_ok nmX12 (by decide) (wm_34 _ (List.mem_of_getElem? (i := 17) rfl)) rfl (by decide +kernel) rfl rfl (fun _ _ => Nat.le_of_ble_eq_true rfl) (fun _ _ => rfl) dX12_readOrder_31 (fun μ13 e_μ13 H locs hH => ?_)
  have hq := hq μ13 e_μ13
  refine lv_iconst (v := (0 : Int32)) hx hb dX12_readOrder_34 (by decide) ?_
  refine lv_istore_n (lv' := [(3, .int (0 : Int32)), (2, .int a6), (1, .int a7), (0, .ref (ad q8))]) hx hb dX12_readOrder_35 rfl hl (by decide) rfl (fun ls hl => ?_)
  obtain ⟨n18, hq⟩ := hq
  refine w_X12_readOrder_36 G hA a6 a7 q8 hk_q8 n18 (0 : Int32) μ13 _ hq _ _ _ hH (lv_sub hl [1, 2, 3, 0] rfl) (fun  μ39 hq H locs ls hH hl => ?_)
  exact wj_X12_readOrder_87 G hA hr  a7 q8  hk_q8 μ39 hq hH (lv_sub hl [0, 1] rfl)
set_option maxRecDepth 100000 in
set_option maxHeartbeats 4000000 in
theorem c_X12_readOrder (l : Launch) (E : xE) (ad : Nat → Nat) (μ : xM) (q0 : Nat) (hk_q0 : kd q0 = 10) (Qm : xM → Prop) (hq : p_X12_readOrder q0 μ Qm) : xMv l yX12_readOrder tX12_readOrder ({ frames := 4, cells := 0, slots := 0, locals := 160 } : Room) E ad μ [.ref (ad q0)] Qm := by
  refine x_stv (cc := cX12_readOrder) (maxL := 4) (ret := none) (own := RX12) rfl (by decide) rfl (Nat.le_of_ble_eq_true rfl) ?_
  intro p e s m args below meth c ls G hr hA hH hl
  obtain ⟨hx, hb, hml, hown, hts, hKn, hN, hlk⟩ := id G
  have hl : lv_has ls 4 [(0, .ref (ad q0))] := hl
  have hH : xH E ad (xA ad s.heap.size) s.heap μ s.heap [] := hH
  unfold p_X12_readOrder at hq
  refine lv_aload_n hx hb dX12_readOrder_0 rfl (lv_at hl 0 rfl) ?_
  refine x_cVi (C := RX12) (T := TX12) (N := 24) (As := []) (rest := []) G hH hA (c_X12_here l E ad μ q0 hk_q0 _ hq) (wm_34 _ (List.mem_of_getElem? (i := 20) rfl)) mi_X12_here ms_X12_here mn_RX12 mc_X12_here rfl md_X12_here ⟨rfl, rfl, Nat.le_of_ble_eq_true rfl, Nat.le_of_ble_eq_true rfl⟩ hk_q0 (by decide) rfl rfl hl.1 rfl (Nat.le_of_ble_eq_true rfl) dX12_readOrder_1 ⟨Nat.zero_le _, Nat.zero_le _⟩ (fun r2 μ1 hq H locs hH => ?_)
  refine lv_istore_n (lv' := [(1, .int r2), (0, .ref (ad q0))]) hx hb dX12_readOrder_4 rfl hl (by decide) rfl (fun ls hl => ?_)
  refine lv_iload_n hx hb dX12_readOrder_5 rfl (lv_at hl 0 rfl) ?_
  refine x_cSi (As := [.int r2]) (rest := []) G hH hA (c_X12_numbersOf l E ad μ1 r2  _ hq) (wm_35 _ (List.mem_of_getElem? (i := 8) rfl)) mt_X12_numbersOf mn_RX12 mc_X12_numbersOf md_X12_numbersOf ⟨rfl, rfl, Nat.le_of_ble_eq_true rfl, Nat.le_of_ble_eq_true rfl⟩ rfl hl.1 rfl (Nat.le_of_ble_eq_true rfl) dX12_readOrder_6 ⟨Nat.zero_le _, Nat.zero_le _⟩ (fun r4 μ3 hq H locs hH => ?_)
  refine lv_istore_n (lv' := [(2, .int r4), (1, .int r2), (0, .ref (ad q0))]) hx hb dX12_readOrder_9 rfl hl (by decide) rfl (fun ls hl => ?_)
  refine lv_aload_n hx hb dX12_readOrder_10 rfl (lv_at hl 2 rfl) ?_
  refine lv_iload_n hx hb dX12_readOrder_11 rfl (lv_at hl 0 rfl) ?_
  refine lv_iconst (v := (-1 : Int32)) hx hb dX12_readOrder_12 (by decide) ?_
  refine lv_icmp_eq (tgt := 20) hx hb dX12_readOrder_13 (by decide) (fun c5 => ?_) (fun c5 => ?_)
  · have hq := hq.1 c5
    refine lv_iconst (v := (0 : Int32)) hx hb dX12_readOrder_20 (by decide) ?_
    exact wj_X12_readOrder_21 G hA hr  r4 r2 q0 (0 : Int32) q0  hk_q0 hk_q0 μ3 hq hH (lv_sub hl [0, 1, 2] rfl)
  · have hq := hq.2 c5
    refine lv_iconst (v := (1 : Int32)) hx hb dX12_readOrder_16 (by decide) ?_
    refine lv_goto (tgt := 21) hx hb dX12_readOrder_17 (by decide) ?_
    exact wj_X12_readOrder_21 G hA hr  r4 r2 q0 (1 : Int32) q0  hk_q0 hk_q0 μ3 hq hH (lv_sub hl [0, 1, 2] rfl)
abbrev tX12_reads : List Cond := Cond.code yX12_reads cX12_reads 3 (some .int) :: wsL_law
theorem mi_X12_reads : Cond.instanceMethod yX12_reads ∈ wsL_law := (wm_34 _ (List.mem_of_getElem? (i := 14) rfl))
theorem ms_X12_reads : Cond.selects RX12 yX12_reads yX12_reads ∈ wsL_law := (wm_34 _ (List.mem_of_getElem? (i := 15) rfl))
theorem mc_X12_reads : Cond.code yX12_reads cX12_reads 3 (some .int) ∈ wsL_law := (wm_34 _ (List.mem_of_getElem? (i := 16) rfl))
theorem md_X12_reads : yX12_reads.cls ≠ "java/lang/invoke/MethodHandle" ∧ yX12_reads.cls ≠ "java/lang/invoke/VarHandle" ∧ (parseMethodDescriptor yX12_reads.desc).map (fun d => d.parameters.length) = some 0 := by decide +kernel
set_option maxRecDepth 100000 in
set_option maxHeartbeats 4000000 in
theorem wb_X12_reads_32 {E : xE} {ad : Nat → Nat} {p : Program} {l : Launch} {e : Env} {s : State} {m : MethodId} {args : Array Value} {below : List Frame} {meth : Method} {c : Code} {Q : State → Prop} (G : xG E p s m args meth c cX12_reads 3 RX12) (hA : ∀ a, s.heap.size ≤ a → xA ad s.heap.size a) (q12 : Nat) (hk_q12 : kd q12 = 10) (μ14 : xM) (K320 : xM → Prop) (K32b : xM → Prop) (hq : B_X12_reads_32 q12  μ14 K320 K32b) {H : Heap} {locs : List Loc} {ls : Array Slot} (hH : xH E ad (xA ad s.heap.size) s.heap μ14 H locs) (hl : lv_has ls 3 [(0, .ref (ad q12))]) (kK320 : ∀ (μ15 : xM), K320  μ15 → ∀ (H : Heap) (locs : List Loc) (ls : Array Slot), xH E ad (xA ad s.heap.size) s.heap μ15 H locs → lv_has ls 3 [(0, .ref (ad q12))] → W p l e (headSpec tX12_reads ({ frames := 6, cells := 0, slots := 0, locals := 240 } : Room)).room s m args below meth c H locs 0 0 Q (F0 m 55 ls [])) (kK32b : ∀ (μ16 : xM), K32b  μ16 → ∀ (H : Heap) (locs : List Loc) (ls : Array Slot), xH E ad (xA ad s.heap.size) s.heap μ16 H locs → lv_has ls 3 [(0, .ref (ad q12))] → W p l e (headSpec tX12_reads ({ frames := 6, cells := 0, slots := 0, locals := 240 } : Room)).room s m args below meth c H locs 0 0 Q (F0 m 32 ls [])) : W p l e (headSpec tX12_reads ({ frames := 6, cells := 0, slots := 0, locals := 240 } : Room)).room s m args below meth c H locs 0 0 Q (F0 m 32 ls []) := by
  obtain ⟨hx, hb, hml, hown, hts, hKn, hN, hlk⟩ := id G
  unfold B_X12_reads_32 at hq
  refine lv_aload_n hx hb dX12_reads_32 rfl (lv_at hl 0 rfl) ?_
  refine x_get (j := 19) (C := RX12) (T := TX12) (N := 24) (v := .int (μ14.1 q12 19)) G hH hk_q12 (by decide) rfl inlX12 (by decide) (wm_34 _ (List.mem_of_getElem? (i := 18) rfl)) rfl dX12_reads_33 ?_
  refine lv_iconst (v := (-1 : Int32)) hx hb dX12_reads_36 (by decide) ?_
  refine lv_icmp_ne (tgt := 55) hx hb dX12_reads_37 (by decide) (fun c17 => ?_) (fun c17 => ?_)
  · have hq := hq.1 c17
    exact kK320  μ14 hq _ _ _ hH (lv_sub hl [0] rfl)
  · have hq := hq.2 c17
    refine lv_aload_n hx hb dX12_reads_40 rfl (lv_at hl 0 rfl) ?_
    refine x_cVi (C := RX12) (T := TX12) (N := 24) (As := []) (rest := []) G hH hA (c_X12_here l E ad μ14 q12 hk_q12 _ hq) (wm_34 _ (List.mem_of_getElem? (i := 20) rfl)) mi_X12_here ms_X12_here mn_RX12 mc_X12_here rfl md_X12_here ⟨rfl, rfl, Nat.le_of_ble_eq_true rfl, Nat.le_of_ble_eq_true rfl⟩ hk_q12 (by decide) rfl rfl hl.1 rfl (Nat.le_of_ble_eq_true rfl) dX12_reads_41 ⟨Nat.zero_le _, Nat.zero_le _⟩ (fun r19 μ18 hq H locs hH => ?_)
    refine lv_iconst (v := (-1 : Int32)) hx hb dX12_reads_44 (by decide) ?_
    refine lv_icmp_eq (tgt := 55) hx hb dX12_reads_45 (by decide) (fun c20 => ?_) (fun c20 => ?_)
    · have hq := hq.1 c20
      exact kK320  μ18 hq _ _ _ hH (lv_sub hl [0] rfl)
    · have hq := hq.2 c20
      refine lv_aload_n hx hb dX12_reads_48 rfl (lv_at hl 0 rfl) ?_
      refine x_cVv (C := RX12) (T := TX12) (N := 24) (As := []) (rest := []) G hH hA (c_X12_readOrder l E ad μ18 q12 hk_q12 _ hq) (wm_35 _ (List.mem_of_getElem? (i := 4) rfl)) mi_X12_readOrder ms_X12_readOrder mn_RX12 mc_X12_readOrder rfl md_X12_readOrder ⟨rfl, rfl, Nat.le_of_ble_eq_true rfl, Nat.le_of_ble_eq_true rfl⟩ hk_q12 (by decide) rfl rfl hl.1 rfl (Nat.le_of_ble_eq_true rfl) dX12_reads_49 ⟨Nat.zero_le _, Nat.zero_le _⟩ (fun μ21 hq H locs hH => ?_)
      refine lv_goto (tgt := 32) hx hb dX12_reads_52 (by decide) ?_
      exact kK32b  μ21 hq _ _ _ hH (lv_sub hl [0] rfl)
set_option maxRecDepth 100000 in
set_option maxHeartbeats 4000000 in
theorem w_X12_reads_32 {E : xE} {ad : Nat → Nat} {p : Program} {l : Launch} {e : Env} {s : State} {m : MethodId} {args : Array Value} {below : List Frame} {meth : Method} {c : Code} {Q : State → Prop} (G : xG E p s m args meth c cX12_reads 3 RX12) (hA : ∀ a, s.heap.size ≤ a → xA ad s.heap.size a) (q12 : Nat) (hk_q12 : kd q12 = 10) : ∀ (n : Nat) (μ14 : xM) (K320 : xM → Prop) (hq : L_X12_reads_32 q12 n  μ14 K320) (H : Heap) (locs : List Loc) (ls : Array Slot) (hH : xH E ad (xA ad s.heap.size) s.heap μ14 H locs) (hl : lv_has ls 3 [(0, .ref (ad q12))]) (kK320 : ∀ (μ15 : xM), K320  μ15 → ∀ (H : Heap) (locs : List Loc) (ls : Array Slot), xH E ad (xA ad s.heap.size) s.heap μ15 H locs → lv_has ls 3 [(0, .ref (ad q12))] → W p l e (headSpec tX12_reads ({ frames := 6, cells := 0, slots := 0, locals := 240 } : Room)).room s m args below meth c H locs 0 0 Q (F0 m 55 ls [])) , W p l e (headSpec tX12_reads ({ frames := 6, cells := 0, slots := 0, locals := 240 } : Room)).room s m args below meth c H locs 0 0 Q (F0 m 32 ls [])
  | 0, _, _, hq, _, _, _, _, _, _ => hq.elim
  | n + 1, μ14, K320, hq, H, locs, ls, hH, hl, kK320 => wb_X12_reads_32 G hA q12 hk_q12  μ14 K320 _ hq hH hl kK320 (fun  y hq H locs ls hH hl => w_X12_reads_32 G hA q12 hk_q12 n  y K320 hq H locs ls hH hl kK320)
set_option maxRecDepth 100000 in
set_option maxHeartbeats 4000000 in
theorem wb_X12_reads_79 {E : xE} {ad : Nat → Nat} {p : Program} {l : Launch} {e : Env} {s : State} {m : MethodId} {args : Array Value} {below : List Frame} {meth : Method} {c : Code} {Q : State → Prop} (G : xG E p s m args meth c cX12_reads 3 RX12) (hA : ∀ a, s.heap.size ≤ a → xA ad s.heap.size a) (q27 : Nat) (hk_q27 : kd q27 = 10) (a28 : Int32) (a29 : Int32) (μ31 : xM) (K790 : Int32 → xM → Prop) (K79b : Int32 → Int32 → xM → Prop) (hq : B_X12_reads_79 q27 a28 a29 μ31 K790 K79b) {H : Heap} {locs : List Loc} {ls : Array Slot} (hH : xH E ad (xA ad s.heap.size) s.heap μ31 H locs) (hl : lv_has ls 3 [(0, .ref (ad q27)), (2, .int a28), (1, .int a29)]) (kK790 : ∀ (a32 : Int32) (μ33 : xM), K790 a32 μ33 → ∀ (H : Heap) (locs : List Loc) (ls : Array Slot), xH E ad (xA ad s.heap.size) s.heap μ33 H locs → lv_has ls 3 [(0, .ref (ad q27)), (1, .int a32)] → W p l e (headSpec tX12_reads ({ frames := 6, cells := 0, slots := 0, locals := 240 } : Room)).room s m args below meth c H locs 0 0 Q (F0 m 109 ls [])) (kK79b : ∀ (a34 : Int32) (a35 : Int32) (μ36 : xM), K79b a34 a35 μ36 → ∀ (H : Heap) (locs : List Loc) (ls : Array Slot), xH E ad (xA ad s.heap.size) s.heap μ36 H locs → lv_has ls 3 [(0, .ref (ad q27)), (2, .int a34), (1, .int a35)] → W p l e (headSpec tX12_reads ({ frames := 6, cells := 0, slots := 0, locals := 240 } : Room)).room s m args below meth c H locs 0 0 Q (F0 m 79 ls [])) : W p l e (headSpec tX12_reads ({ frames := 6, cells := 0, slots := 0, locals := 240 } : Room)).room s m args below meth c H locs 0 0 Q (F0 m 79 ls []) := by
  obtain ⟨hx, hb, hml, hown, hts, hKn, hN, hlk⟩ := id G
  unfold B_X12_reads_79 at hq
  refine lv_iload_n hx hb dX12_reads_79 rfl (lv_at hl 1 rfl) ?_
  refine lv_aload_n hx hb dX12_reads_80 rfl (lv_at hl 0 rfl) ?_
  refine x_get (j := 20) (C := RX12) (T := TX12) (N := 24) (v := .int (μ31.1 q27 20)) G hH hk_q27 (by decide) rfl inlX12 (by decide) (wm_34 _ (List.mem_of_getElem? (i := 19) rfl)) rfl dX12_reads_81 ?_
  refine lv_icmp_ge (tgt := 109) hx hb dX12_reads_84 (by decide) (fun c37 => ?_) (fun c37 => ?_)
  · have hq := hq.1 c37
    exact kK790 a29 μ31 hq _ _ _ hH (lv_sub hl [0, 2] rfl)
  · have hq := hq.2 c37
    refine lv_iload_n hx hb dX12_reads_87 rfl (lv_at hl 2 rfl) ?_
    refine lv_aload_n hx hb dX12_reads_88 rfl (lv_at hl 0 rfl) ?_
    refine lv_iload_n hx hb dX12_reads_89 rfl (lv_at hl 1 rfl) ?_
    refine x_cVi (C := RX12) (T := TX12) (N := 24) (As := [.int a28]) (rest := [.int a29]) G hH hA (c_X12_doOrder l E ad μ31 q27 a28 hk_q27 _ hq) (wm_35 _ (List.mem_of_getElem? (i := 19) rfl)) mi_X12_doOrder ms_X12_doOrder mn_RX12 mc_X12_doOrder rfl md_X12_doOrder ⟨rfl, rfl, Nat.le_of_ble_eq_true rfl, Nat.le_of_ble_eq_true rfl⟩ hk_q27 (by decide) rfl rfl hl.1 rfl (Nat.le_of_ble_eq_true rfl) dX12_reads_90 ⟨Nat.zero_le _, Nat.zero_le _⟩ (fun r39 μ38 hq H locs hH => ?_)
    refine lv_if_lt (tgt := 100) hx hb dX12_reads_93 (by decide) (fun c40 => ?_) (fun c40 => ?_)
    · have hq := hq.1 c40
      refine lv_iconst (v := (0 : Int32)) hx hb dX12_reads_100 (by decide) ?_
      refine lv_iadd hx hb dX12_reads_101 ?_
      refine lv_topi (fun v41 e_v41 => ?_)
      have hq := hq v41 e_v41
      refine lv_istore_n (lv' := [(1, .int v41), (0, .ref (ad q27)), (2, .int a28)]) hx hb dX12_reads_102 rfl hl (by decide) rfl (fun ls hl => ?_)
      obtain ⟨v42, e_v42⟩ : ∃ y : Int32, y = (a28 + (1 : Int32)) := ⟨_, rfl⟩
      have hq := hq v42 e_v42
      refine lv_iinc (v := v42) (lv' := [(2, .int v42), (1, .int v41), (0, .ref (ad q27))]) hx hb dX12_reads_103 hl (k := 2) rfl (by rw [e_v42]; rfl) (by decide) rfl (fun ls hl => ?_)
      refine lv_goto (tgt := 79) hx hb dX12_reads_106 (by decide) ?_
      exact kK79b v42 v41 μ38 hq _ _ _ hH (lv_sub hl [2, 0, 1] rfl)
    · have hq := hq.2 c40
      refine lv_iconst (v := (1 : Int32)) hx hb dX12_reads_96 (by decide) ?_
      refine lv_goto (tgt := 101) hx hb dX12_reads_97 (by decide) ?_
      refine lv_iadd hx hb dX12_reads_101 ?_
      refine lv_topi (fun v43 e_v43 => ?_)
      have hq := hq v43 e_v43
      refine lv_istore_n (lv' := [(1, .int v43), (0, .ref (ad q27)), (2, .int a28)]) hx hb dX12_reads_102 rfl hl (by decide) rfl (fun ls hl => ?_)
      obtain ⟨v44, e_v44⟩ : ∃ y : Int32, y = (a28 + (1 : Int32)) := ⟨_, rfl⟩
      have hq := hq v44 e_v44
      refine lv_iinc (v := v44) (lv' := [(2, .int v44), (1, .int v43), (0, .ref (ad q27))]) hx hb dX12_reads_103 hl (k := 2) rfl (by rw [e_v44]; rfl) (by decide) rfl (fun ls hl => ?_)
      refine lv_goto (tgt := 79) hx hb dX12_reads_106 (by decide) ?_
      exact kK79b v44 v43 μ38 hq _ _ _ hH (lv_sub hl [2, 0, 1] rfl)
set_option maxRecDepth 100000 in
set_option maxHeartbeats 4000000 in
theorem w_X12_reads_79 {E : xE} {ad : Nat → Nat} {p : Program} {l : Launch} {e : Env} {s : State} {m : MethodId} {args : Array Value} {below : List Frame} {meth : Method} {c : Code} {Q : State → Prop} (G : xG E p s m args meth c cX12_reads 3 RX12) (hA : ∀ a, s.heap.size ≤ a → xA ad s.heap.size a) (q27 : Nat) (hk_q27 : kd q27 = 10) : ∀ (n : Nat) (a28 : Int32) (a29 : Int32) (μ31 : xM) (K790 : Int32 → xM → Prop) (hq : L_X12_reads_79 q27 n a28 a29 μ31 K790) (H : Heap) (locs : List Loc) (ls : Array Slot) (hH : xH E ad (xA ad s.heap.size) s.heap μ31 H locs) (hl : lv_has ls 3 [(0, .ref (ad q27)), (2, .int a28), (1, .int a29)]) (kK790 : ∀ (a32 : Int32) (μ33 : xM), K790 a32 μ33 → ∀ (H : Heap) (locs : List Loc) (ls : Array Slot), xH E ad (xA ad s.heap.size) s.heap μ33 H locs → lv_has ls 3 [(0, .ref (ad q27)), (1, .int a32)] → W p l e (headSpec tX12_reads ({ frames := 6, cells := 0, slots := 0, locals := 240 } : Room)).room s m args below meth c H locs 0 0 Q (F0 m 109 ls [])) , W p l e (headSpec tX12_reads ({ frames := 6, cells := 0, slots := 0, locals := 240 } : Room)).room s m args below meth c H locs 0 0 Q (F0 m 79 ls [])
  | 0, _, _, _, _, hq, _, _, _, _, _, _ => hq.elim
  | n + 1, a28, a29, μ31, K790, hq, H, locs, ls, hH, hl, kK790 => wb_X12_reads_79 G hA q27 hk_q27 a28 a29 μ31 K790 _ hq hH hl kK790 (fun x0 x1 y hq H locs ls hH hl => w_X12_reads_79 G hA q27 hk_q27 n x0 x1 y K790 hq H locs ls hH hl kK790)
set_option maxRecDepth 100000 in
set_option maxHeartbeats 4000000 in
theorem wj_X12_reads_55 {E : xE} {ad : Nat → Nat} {p : Program} {l : Launch} {e : Env} {s : State} {m : MethodId} {args : Array Value} {below : List Frame} {meth : Method} {c : Code} {Qm : Int32 → xM → Prop} (G : xG E p s m args meth c cX12_reads 3 RX12) (hA : ∀ a, s.heap.size ≤ a → xA ad s.heap.size a) (hr : meth.sig.returnType = (some .int)) (q23 : Nat) (hk_q23 : kd q23 = 10) (μ24 : xM) (hq : J_X12_reads_55 q23 μ24 Qm) {H : Heap} {locs : List Loc} {ls : Array Slot} (hH : xH E ad (xA ad s.heap.size) s.heap μ24 H locs) (hl : lv_has ls 3 [(0, .ref (ad q23))]) : W p l e (headSpec tX12_reads ({ frames := 6, cells := 0, slots := 0, locals := 240 } : Room)).room s m args below meth c H locs 0 0 (MQ below (va_Qi Qm (xPost E ad s.heap.size) (xA ad s.heap.size)) args s 0 0 (xA ad s.heap.size)) (F0 m 55 ls []) := by
  obtain ⟨hx, hb, hml, hown, hts, hKn, hN, hlk⟩ := id G
  unfold J_X12_reads_55 at hq
  refine lv_aload_n hx hb dX12_reads_55 rfl (lv_at hl 0 rfl) ?_
  refine x_get (j := 19) (C := RX12) (T := TX12) (N := 24) (v := .int (μ24.1 q23 19)) G hH hk_q23 (by decide) rfl inlX12 (by decide) (wm_34 _ (List.mem_of_getElem? (i := 18) rfl)) rfl dX12_reads_56 ?_
  refine lv_iconst (v := (-1 : Int32)) hx hb dX12_reads_59 (by decide) ?_
  refine lv_icmp_eq (tgt := 71) hx hb dX12_reads_60 (by decide) (fun c25 => ?_) (fun c25 => ?_)
  · have hq := hq.1 c25
    refine lv_aload_n hx hb dX12_reads_71 rfl (lv_at hl 0 rfl) ?_
    refine x_cVv (C := RX12) (T := TX12) (N := 24) (As := []) (rest := []) G hH hA (c_X12_hold l E ad μ24 q23 hk_q23 _ hq) (wm_10 _ (List.mem_of_getElem? (i := 14) rfl)) mi_X12_hold ms_X12_hold mn_RX12 mc_X12_hold rfl md_X12_hold ⟨rfl, rfl, Nat.le_of_ble_eq_true rfl, Nat.le_of_ble_eq_true rfl⟩ hk_q23 (by decide) rfl rfl hl.1 rfl (Nat.le_of_ble_eq_true rfl) dX12_reads_72 ⟨Nat.zero_le _, Nat.zero_le _⟩ (fun μ26 hq H locs hH => ?_)
    refine lv_iconst (v := (0 : Int32)) hx hb dX12_reads_75 (by decide) ?_
    refine lv_istore_n (lv' := [(1, .int (0 : Int32)), (0, .ref (ad q23))]) hx hb dX12_reads_76 rfl hl (by decide) rfl (fun ls hl => ?_)
    refine lv_iconst (v := (0 : Int32)) hx hb dX12_reads_77 (by decide) ?_
    refine lv_istore_n (lv' := [(2, .int (0 : Int32)), (1, .int (0 : Int32)), (0, .ref (ad q23))]) hx hb dX12_reads_78 rfl hl (by decide) rfl (fun ls hl => ?_)
    obtain ⟨n30, hq⟩ := hq
    refine w_X12_reads_79 G hA q23 hk_q23 n30 (0 : Int32) (0 : Int32) μ26 _ hq _ _ _ hH (lv_sub hl [2, 0, 1] rfl) (fun a45 μ46 hq H locs ls hH hl => ?_)
    refine lv_aload_n hx hb dX12_reads_109 rfl (lv_at hl 0 rfl) ?_
    refine x_cVv (C := RX12) (T := TX12) (N := 24) (As := []) (rest := []) G hH hA (c_X12_push l E ad μ46 q23 hk_q23 _ hq) (wm_11 _ (List.mem_of_getElem? (i := 10) rfl)) mi_X12_push ms_X12_push mn_RX12 mc_X12_push rfl md_X12_push ⟨rfl, rfl, Nat.le_of_ble_eq_true rfl, Nat.le_of_ble_eq_true rfl⟩ hk_q23 (by decide) rfl rfl hl.1 rfl (Nat.le_of_ble_eq_true rfl) dX12_reads_110 ⟨Nat.zero_le _, Nat.zero_le _⟩ (fun μ47 hq H locs hH => ?_)
    refine lv_iload_n hx hb dX12_reads_113 rfl (lv_at hl 1 rfl) ?_
    exact x_iret G hr hH hq dX12_reads_114
  · have hq := hq.2 c25
    refine lv_bipush (v := (-10 : Int32)) hx hb dX12_reads_63 (by decide) ?_
    refine lv_aload_n hx hb dX12_reads_65 rfl (lv_at hl 0 rfl) ?_
    refine x_get (j := 19) (C := RX12) (T := TX12) (N := 24) (v := .int (μ24.1 q23 19)) G hH hk_q23 (by decide) rfl inlX12 (by decide) (wm_34 _ (List.mem_of_getElem? (i := 18) rfl)) rfl dX12_reads_66 ?_
    refine lv_isub hx hb dX12_reads_69 ?_
    exact x_iret G hr hH hq dX12_reads_70
set_option maxRecDepth 100000 in
set_option maxHeartbeats 4000000 in
theorem wj_X12_reads_29 {E : xE} {ad : Nat → Nat} {p : Program} {l : Launch} {e : Env} {s : State} {m : MethodId} {args : Array Value} {below : List Frame} {meth : Method} {c : Code} {Qm : Int32 → xM → Prop} (G : xG E p s m args meth c cX12_reads 3 RX12) (hA : ∀ a, s.heap.size ≤ a → xA ad s.heap.size a) (hr : meth.sig.returnType = (some .int)) (q7 : Nat) (a8 : Int32) (q9 : Nat) (hk_q7 : kd q7 = 10) (hk_q9 : kd q9 = 10) (μ10 : xM) (hq : J_X12_reads_29 q7 a8 q9 μ10 Qm) {H : Heap} {locs : List Loc} {ls : Array Slot} (hH : xH E ad (xA ad s.heap.size) s.heap μ10 H locs) (hl : lv_has ls 3 [(0, .ref (ad q7))]) : W p l e (headSpec tX12_reads ({ frames := 6, cells := 0, slots := 0, locals := 240 } : Room)).room s m args below meth c H locs 0 0 (MQ below (va_Qi Qm (xPost E ad s.heap.size) (xA ad s.heap.size)) args s 0 0 (xA ad s.heap.size)) (F0 m 29 ls [.int a8, .ref (ad q9)]) := by
  obtain ⟨hx, hb, hml, hown, hts, hKn, hN, hlk⟩ := id G
  unfold J_X12_reads_29 at hq
  refine x_cVv (C := RX12) (T := TX12) (N := 24) (As := [.int a8]) (rest := []) G hH hA (c_X12_must l E ad μ10 q9 a8 hk_q9 _ hq) (wm_35 _ (List.mem_of_getElem? (i := 0) rfl)) mi_X12_must ms_X12_must mn_RX12 mc_X12_must rfl md_X12_must ⟨rfl, rfl, Nat.le_of_ble_eq_true rfl, Nat.le_of_ble_eq_true rfl⟩ hk_q9 (by decide) rfl rfl hl.1 rfl (Nat.le_of_ble_eq_true rfl) dX12_reads_29 ⟨Nat.zero_le _, Nat.zero_le _⟩ (fun μ11 hq H locs hH => ?_)
  obtain ⟨n13, hq⟩ := hq
  refine w_X12_reads_32 G hA q7 hk_q7 n13  μ11 _ hq _ _ _ hH (lv_sub hl [0] rfl) (fun  μ22 hq H locs ls hH hl => ?_)
  exact wj_X12_reads_55 G hA hr  q7  hk_q7 μ22 hq hH (lv_sub hl [0] rfl)
set_option maxRecDepth 100000 in
set_option maxHeartbeats 4000000 in
theorem c_X12_reads (l : Launch) (E : xE) (ad : Nat → Nat) (μ : xM) (q0 : Nat) (hk_q0 : kd q0 = 10) (Qm : Int32 → xM → Prop) (hq : p_X12_reads q0 μ Qm) : xMi l yX12_reads tX12_reads ({ frames := 6, cells := 0, slots := 0, locals := 240 } : Room) E ad μ [.ref (ad q0)] Qm := by
  refine x_sti (cc := cX12_reads) (maxL := 3) (ret := (some .int)) (own := RX12) rfl (by decide) rfl (Nat.le_of_ble_eq_true rfl) ?_
  intro p e s m args below meth c ls G hr hA hH hl
  obtain ⟨hx, hb, hml, hown, hts, hKn, hN, hlk⟩ := id G
  have hl : lv_has ls 3 [(0, .ref (ad q0))] := hl
  have hH : xH E ad (xA ad s.heap.size) s.heap μ s.heap [] := hH
  unfold p_X12_reads at hq
  refine lv_aload_n hx hb dX12_reads_0 rfl (lv_at hl 0 rfl) ?_
  refine lv_iconst (v := (0 : Int32)) hx hb dX12_reads_1 (by decide) ?_
  refine x_puti (j := 18) (C := RX12) (T := TX12) (N := 24) (ty := .int) G hH hk_q0 (by decide) rfl inlX12 tyX12 tyX12_ok nmX12 (by decide) (wm_34 _ (List.mem_of_getElem? (i := 17) rfl)) rfl (by decide +kernel) rfl rfl (fun _ _ => Nat.le_of_ble_eq_true rfl) (fun _ _ => rfl) dX12_reads_2 (fun μ1 e_μ1 H locs hH => ?_)
  have hq := hq μ1 e_μ1
  refine lv_aload_n hx hb dX12_reads_5 rfl (lv_at hl 0 rfl) ?_
  refine lv_iconst (v := (-1 : Int32)) hx hb dX12_reads_6 (by decide) ?_
  refine x_puti (j := 19) (C := RX12) (T := TX12) (N := 24) (ty := .int) G hH hk_q0 (by decide) rfl inlX12 tyX12 tyX12_ok nmX12 (by decide) (wm_34 _ (List.mem_of_getElem? (i := 18) rfl)) rfl (by decide +kernel) rfl rfl (fun _ _ => Nat.le_of_ble_eq_true rfl) (fun _ _ => rfl) dX12_reads_7 (fun μ2 e_μ2 H locs hH => ?_)
  have hq := hq μ2 e_μ2
  refine lv_aload_n hx hb dX12_reads_10 rfl (lv_at hl 0 rfl) ?_
  refine lv_iconst (v := (0 : Int32)) hx hb dX12_reads_11 (by decide) ?_
  refine x_puti (j := 20) (C := RX12) (T := TX12) (N := 24) (ty := .int) G hH hk_q0 (by decide) rfl inlX12 tyX12 tyX12_ok nmX12 (by decide) (wm_34 _ (List.mem_of_getElem? (i := 19) rfl)) rfl (by decide +kernel) rfl rfl (fun _ _ => Nat.le_of_ble_eq_true rfl) (fun _ _ => rfl) dX12_reads_12 (fun μ3 e_μ3 H locs hH => ?_)
  have hq := hq μ3 e_μ3
  refine lv_aload_n hx hb dX12_reads_15 rfl (lv_at hl 0 rfl) ?_
  refine lv_aload_n hx hb dX12_reads_16 rfl (lv_at hl 0 rfl) ?_
  refine x_cVi (C := RX12) (T := TX12) (N := 24) (As := []) (rest := [.ref (ad q0)]) G hH hA (c_X12_here l E ad μ3 q0 hk_q0 _ hq) (wm_34 _ (List.mem_of_getElem? (i := 20) rfl)) mi_X12_here ms_X12_here mn_RX12 mc_X12_here rfl md_X12_here ⟨rfl, rfl, Nat.le_of_ble_eq_true rfl, Nat.le_of_ble_eq_true rfl⟩ hk_q0 (by decide) rfl rfl hl.1 rfl (Nat.le_of_ble_eq_true rfl) dX12_reads_17 ⟨Nat.zero_le _, Nat.zero_le _⟩ (fun r5 μ4 hq H locs hH => ?_)
  refine lv_iconst (v := (-1 : Int32)) hx hb dX12_reads_20 (by decide) ?_
  refine lv_icmp_eq (tgt := 28) hx hb dX12_reads_21 (by decide) (fun c6 => ?_) (fun c6 => ?_)
  · have hq := hq.1 c6
    refine lv_iconst (v := (0 : Int32)) hx hb dX12_reads_28 (by decide) ?_
    exact wj_X12_reads_29 G hA hr  q0 (0 : Int32) q0  hk_q0 hk_q0 μ4 hq hH (lv_sub hl [0] rfl)
  · have hq := hq.2 c6
    refine lv_iconst (v := (1 : Int32)) hx hb dX12_reads_24 (by decide) ?_
    refine lv_goto (tgt := 29) hx hb dX12_reads_25 (by decide) ?_
    exact wj_X12_reads_29 G hA hr  q0 (1 : Int32) q0  hk_q0 hk_q0 μ4 hq hH (lv_sub hl [0] rfl)
abbrev tX12_sheets : List Cond := Cond.code yX12_sheets cX12_sheets 3 (some .int) :: wsL_law
theorem mi_X12_sheets : Cond.instanceMethod yX12_sheets ∈ wsL_law := (wm_25 _ (List.mem_of_getElem? (i := 17) rfl))
theorem ms_X12_sheets : Cond.selects RX12 yX12_sheets yX12_sheets ∈ wsL_law := (wm_25 _ (List.mem_of_getElem? (i := 18) rfl))
theorem mc_X12_sheets : Cond.code yX12_sheets cX12_sheets 3 (some .int) ∈ wsL_law := (wm_25 _ (List.mem_of_getElem? (i := 19) rfl))
theorem md_X12_sheets : yX12_sheets.cls ≠ "java/lang/invoke/MethodHandle" ∧ yX12_sheets.cls ≠ "java/lang/invoke/VarHandle" ∧ (parseMethodDescriptor yX12_sheets.desc).map (fun d => d.parameters.length) = some 0 := by decide +kernel
set_option maxRecDepth 100000 in
set_option maxHeartbeats 4000000 in
theorem wb_X12_sheets_8 {E : xE} {ad : Nat → Nat} {p : Program} {l : Launch} {e : Env} {s : State} {m : MethodId} {args : Array Value} {below : List Frame} {meth : Method} {c : Code} {Q : State → Prop} (G : xG E p s m args meth c cX12_sheets 3 RX12) (hA : ∀ a, s.heap.size ≤ a → xA ad s.heap.size a) (q2 : Nat) (hk_q2 : kd q2 = 10) (a3 : Int32) (a4 : Int32) (μ6 : xM) (K80 : Int32 → xM → Prop) (K8b : Int32 → Int32 → xM → Prop) (hq : B_X12_sheets_8 q2 a3 a4 μ6 K80 K8b) {H : Heap} {locs : List Loc} {ls : Array Slot} (hH : xH E ad (xA ad s.heap.size) s.heap μ6 H locs) (hl : lv_has ls 3 [(0, .ref (ad q2)), (2, .int a3), (1, .int a4)]) (kK80 : ∀ (a7 : Int32) (μ8 : xM), K80 a7 μ8 → ∀ (H : Heap) (locs : List Loc) (ls : Array Slot), xH E ad (xA ad s.heap.size) s.heap μ8 H locs → lv_has ls 3 [(1, .int a7)] → W p l e (headSpec tX12_sheets ({ frames := 5, cells := 0, slots := 0, locals := 200 } : Room)).room s m args below meth c H locs 0 0 Q (F0 m 47 ls [])) (kK8b : ∀ (a9 : Int32) (a10 : Int32) (μ11 : xM), K8b a9 a10 μ11 → ∀ (H : Heap) (locs : List Loc) (ls : Array Slot), xH E ad (xA ad s.heap.size) s.heap μ11 H locs → lv_has ls 3 [(0, .ref (ad q2)), (2, .int a9), (1, .int a10)] → W p l e (headSpec tX12_sheets ({ frames := 5, cells := 0, slots := 0, locals := 200 } : Room)).room s m args below meth c H locs 0 0 Q (F0 m 8 ls [])) : W p l e (headSpec tX12_sheets ({ frames := 5, cells := 0, slots := 0, locals := 200 } : Room)).room s m args below meth c H locs 0 0 Q (F0 m 8 ls []) := by
  obtain ⟨hx, hb, hml, hown, hts, hKn, hN, hlk⟩ := id G
  unfold B_X12_sheets_8 at hq
  refine lv_iload_n hx hb dX12_sheets_8 rfl (lv_at hl 1 rfl) ?_
  refine lv_if_eq (tgt := 47) hx hb dX12_sheets_9 (by decide) (fun c12 => ?_) (fun c12 => ?_)
  · have hq := hq.1 c12
    exact kK80 a4 μ6 hq _ _ _ hH (lv_sub hl [2] rfl)
  · have hq := hq.2 c12
    refine lv_aload_n hx hb dX12_sheets_12 rfl (lv_at hl 0 rfl) ?_
    refine x_cVi (C := RX12) (T := TX12) (N := 24) (As := []) (rest := []) G hH hA (c_X12_isLawful l E ad μ6 q2 hk_q2 _ hq) (wm_18 _ (List.mem_of_getElem? (i := 16) rfl)) mi_X12_isLawful ms_X12_isLawful mn_RX12 mc_X12_isLawful rfl md_X12_isLawful ⟨rfl, rfl, Nat.le_of_ble_eq_true rfl, Nat.le_of_ble_eq_true rfl⟩ hk_q2 (by decide) rfl rfl hl.1 rfl (Nat.le_of_ble_eq_true rfl) dX12_sheets_13 ⟨Nat.zero_le _, Nat.zero_le _⟩ (fun r14 μ13 hq H locs hH => ?_)
    refine lv_if_eq (tgt := 39) hx hb dX12_sheets_16 (by decide) (fun c15 => ?_) (fun c15 => ?_)
    · have hq := hq.1 c15
      refine lv_aload_n hx hb dX12_sheets_39 rfl (lv_at hl 0 rfl) ?_
      refine x_cVi (C := RX12) (T := TX12) (N := 24) (As := []) (rest := []) G hH hA (c_X12_goesOn l E ad μ13 q2 hk_q2 _ hq) (wm_18 _ (List.mem_of_getElem? (i := 20) rfl)) mi_X12_goesOn ms_X12_goesOn mn_RX12 mc_X12_goesOn rfl md_X12_goesOn ⟨rfl, rfl, Nat.le_of_ble_eq_true rfl, Nat.le_of_ble_eq_true rfl⟩ hk_q2 (by decide) rfl rfl hl.1 rfl (Nat.le_of_ble_eq_true rfl) dX12_sheets_40 ⟨Nat.zero_le _, Nat.zero_le _⟩ (fun r17 μ16 hq H locs hH => ?_)
      refine lv_istore_n (lv' := [(2, .int r17), (0, .ref (ad q2)), (1, .int a4)]) hx hb dX12_sheets_43 rfl hl (by decide) rfl (fun ls hl => ?_)
      refine lv_goto (tgt := 8) hx hb dX12_sheets_44 (by decide) ?_
      exact kK8b r17 a4 μ16 hq _ _ _ hH (lv_sub hl [1, 0, 2] rfl)
    · have hq := hq.2 c15
      refine lv_aload_n hx hb dX12_sheets_19 rfl (lv_at hl 0 rfl) ?_
      refine x_cVv (C := RX12) (T := TX12) (N := 24) (As := []) (rest := []) G hH hA (c_X12_printAll l E ad μ13 q2 hk_q2 _ hq) (wm_24 _ (List.mem_of_getElem? (i := 8) rfl)) mi_X12_printAll ms_X12_printAll mn_RX12 mc_X12_printAll rfl md_X12_printAll ⟨rfl, rfl, Nat.le_of_ble_eq_true rfl, Nat.le_of_ble_eq_true rfl⟩ hk_q2 (by decide) rfl rfl hl.1 rfl (Nat.le_of_ble_eq_true rfl) dX12_sheets_20 ⟨Nat.zero_le _, Nat.zero_le _⟩ (fun μ18 hq H locs hH => ?_)
      refine lv_aload_n hx hb dX12_sheets_23 rfl (lv_at hl 0 rfl) ?_
      refine lv_iload_n hx hb dX12_sheets_24 rfl (lv_at hl 2 rfl) ?_
      refine x_cVi (C := RX12) (T := TX12) (N := 24) (As := [.int a4]) (rest := []) G hH hA (c_X12_isNew l E ad μ18 q2 a4 hk_q2 _ hq) (wm_25 _ (List.mem_of_getElem? (i := 20) rfl)) mi_X12_isNew ms_X12_isNew mn_RX12 mc_X12_isNew rfl md_X12_isNew ⟨rfl, rfl, Nat.le_of_ble_eq_true rfl, Nat.le_of_ble_eq_true rfl⟩ hk_q2 (by decide) rfl rfl hl.1 rfl (Nat.le_of_ble_eq_true rfl) dX12_sheets_25 ⟨Nat.zero_le _, Nat.zero_le _⟩ (fun r20 μ19 hq H locs hH => ?_)
      refine lv_if_eq (tgt := 37) hx hb dX12_sheets_28 (by decide) (fun c21 => ?_) (fun c21 => ?_)
      · have hq := hq.1 c21
        refine lv_iload_n hx hb dX12_sheets_37 rfl (lv_at hl 2 rfl) ?_
        refine lv_istore_n (lv' := [(1, .int a4), (0, .ref (ad q2)), (2, .int a3)]) hx hb dX12_sheets_38 rfl hl (by decide) rfl (fun ls hl => ?_)
        refine lv_aload_n hx hb dX12_sheets_39 rfl (lv_at hl 1 rfl) ?_
        refine x_cVi (C := RX12) (T := TX12) (N := 24) (As := []) (rest := []) G hH hA (c_X12_goesOn l E ad μ19 q2 hk_q2 _ hq) (wm_18 _ (List.mem_of_getElem? (i := 20) rfl)) mi_X12_goesOn ms_X12_goesOn mn_RX12 mc_X12_goesOn rfl md_X12_goesOn ⟨rfl, rfl, Nat.le_of_ble_eq_true rfl, Nat.le_of_ble_eq_true rfl⟩ hk_q2 (by decide) rfl rfl hl.1 rfl (Nat.le_of_ble_eq_true rfl) dX12_sheets_40 ⟨Nat.zero_le _, Nat.zero_le _⟩ (fun r23 μ22 hq H locs hH => ?_)
        refine lv_istore_n (lv' := [(2, .int r23), (1, .int a4), (0, .ref (ad q2))]) hx hb dX12_sheets_43 rfl hl (by decide) rfl (fun ls hl => ?_)
        refine lv_goto (tgt := 8) hx hb dX12_sheets_44 (by decide) ?_
        exact kK8b r23 a4 μ22 hq _ _ _ hH (lv_sub hl [2, 0, 1] rfl)
      · have hq := hq.2 c21
        refine lv_iload_n hx hb dX12_sheets_31 rfl (lv_at hl 2 rfl) ?_
        refine lv_iconst (v := (1 : Int32)) hx hb dX12_sheets_32 (by decide) ?_
        refine lv_iadd hx hb dX12_sheets_33 ?_
        refine lv_goto (tgt := 38) hx hb dX12_sheets_34 (by decide) ?_
        refine lv_topi (fun v24 e_v24 => ?_)
        have hq := hq v24 e_v24
        refine lv_istore_n (lv' := [(1, .int v24), (0, .ref (ad q2)), (2, .int a3)]) hx hb dX12_sheets_38 rfl hl (by decide) rfl (fun ls hl => ?_)
        refine lv_aload_n hx hb dX12_sheets_39 rfl (lv_at hl 1 rfl) ?_
        refine x_cVi (C := RX12) (T := TX12) (N := 24) (As := []) (rest := []) G hH hA (c_X12_goesOn l E ad μ19 q2 hk_q2 _ hq) (wm_18 _ (List.mem_of_getElem? (i := 20) rfl)) mi_X12_goesOn ms_X12_goesOn mn_RX12 mc_X12_goesOn rfl md_X12_goesOn ⟨rfl, rfl, Nat.le_of_ble_eq_true rfl, Nat.le_of_ble_eq_true rfl⟩ hk_q2 (by decide) rfl rfl hl.1 rfl (Nat.le_of_ble_eq_true rfl) dX12_sheets_40 ⟨Nat.zero_le _, Nat.zero_le _⟩ (fun r26 μ25 hq H locs hH => ?_)
        refine lv_istore_n (lv' := [(2, .int r26), (1, .int v24), (0, .ref (ad q2))]) hx hb dX12_sheets_43 rfl hl (by decide) rfl (fun ls hl => ?_)
        refine lv_goto (tgt := 8) hx hb dX12_sheets_44 (by decide) ?_
        exact kK8b r26 v24 μ25 hq _ _ _ hH (lv_sub hl [2, 0, 1] rfl)
set_option maxRecDepth 100000 in
set_option maxHeartbeats 4000000 in
theorem w_X12_sheets_8 {E : xE} {ad : Nat → Nat} {p : Program} {l : Launch} {e : Env} {s : State} {m : MethodId} {args : Array Value} {below : List Frame} {meth : Method} {c : Code} {Q : State → Prop} (G : xG E p s m args meth c cX12_sheets 3 RX12) (hA : ∀ a, s.heap.size ≤ a → xA ad s.heap.size a) (q2 : Nat) (hk_q2 : kd q2 = 10) : ∀ (n : Nat) (a3 : Int32) (a4 : Int32) (μ6 : xM) (K80 : Int32 → xM → Prop) (hq : L_X12_sheets_8 q2 n a3 a4 μ6 K80) (H : Heap) (locs : List Loc) (ls : Array Slot) (hH : xH E ad (xA ad s.heap.size) s.heap μ6 H locs) (hl : lv_has ls 3 [(0, .ref (ad q2)), (2, .int a3), (1, .int a4)]) (kK80 : ∀ (a7 : Int32) (μ8 : xM), K80 a7 μ8 → ∀ (H : Heap) (locs : List Loc) (ls : Array Slot), xH E ad (xA ad s.heap.size) s.heap μ8 H locs → lv_has ls 3 [(1, .int a7)] → W p l e (headSpec tX12_sheets ({ frames := 5, cells := 0, slots := 0, locals := 200 } : Room)).room s m args below meth c H locs 0 0 Q (F0 m 47 ls [])) , W p l e (headSpec tX12_sheets ({ frames := 5, cells := 0, slots := 0, locals := 200 } : Room)).room s m args below meth c H locs 0 0 Q (F0 m 8 ls [])
  | 0, _, _, _, _, hq, _, _, _, _, _, _ => hq.elim
  | n + 1, a3, a4, μ6, K80, hq, H, locs, ls, hH, hl, kK80 => wb_X12_sheets_8 G hA q2 hk_q2 a3 a4 μ6 K80 _ hq hH hl kK80 (fun x0 x1 y hq H locs ls hH hl => w_X12_sheets_8 G hA q2 hk_q2 n x0 x1 y K80 hq H locs ls hH hl kK80)
set_option maxRecDepth 100000 in
set_option maxHeartbeats 4000000 in
theorem c_X12_sheets (l : Launch) (E : xE) (ad : Nat → Nat) (μ : xM) (q0 : Nat) (hk_q0 : kd q0 = 10) (Qm : Int32 → xM → Prop) (hq : p_X12_sheets q0 μ Qm) : xMi l yX12_sheets tX12_sheets ({ frames := 5, cells := 0, slots := 0, locals := 200 } : Room) E ad μ [.ref (ad q0)] Qm := by
  refine x_sti (cc := cX12_sheets) (maxL := 3) (ret := (some .int)) (own := RX12) rfl (by decide) rfl (Nat.le_of_ble_eq_true rfl) ?_
  intro p e s m args below meth c ls G hr hA hH hl
  obtain ⟨hx, hb, hml, hown, hts, hKn, hN, hlk⟩ := id G
  have hl : lv_has ls 3 [(0, .ref (ad q0))] := hl
  have hH : xH E ad (xA ad s.heap.size) s.heap μ s.heap [] := hH
  unfold p_X12_sheets at hq
  refine lv_aload_n hx hb dX12_sheets_0 rfl (lv_at hl 0 rfl) ?_
  refine x_cVv (C := RX12) (T := TX12) (N := 24) (As := []) (rest := []) G hH hA (c_X12_begin l E ad μ q0 hk_q0 _ hq) (wm_18 _ (List.mem_of_getElem? (i := 12) rfl)) mi_X12_begin ms_X12_begin mn_RX12 mc_X12_begin rfl md_X12_begin ⟨rfl, rfl, Nat.le_of_ble_eq_true rfl, Nat.le_of_ble_eq_true rfl⟩ hk_q0 (by decide) rfl rfl hl.1 rfl (Nat.le_of_ble_eq_true rfl) dX12_sheets_1 ⟨Nat.zero_le _, Nat.zero_le _⟩ (fun μ1 hq H locs hH => ?_)
  refine lv_iconst (v := (0 : Int32)) hx hb dX12_sheets_4 (by decide) ?_
  refine lv_istore_n (lv' := [(1, .int (0 : Int32)), (0, .ref (ad q0))]) hx hb dX12_sheets_5 rfl hl (by decide) rfl (fun ls hl => ?_)
  refine lv_iconst (v := (1 : Int32)) hx hb dX12_sheets_6 (by decide) ?_
  refine lv_istore_n (lv' := [(2, .int (1 : Int32)), (1, .int (0 : Int32)), (0, .ref (ad q0))]) hx hb dX12_sheets_7 rfl hl (by decide) rfl (fun ls hl => ?_)
  obtain ⟨n5, hq⟩ := hq
  refine w_X12_sheets_8 G hA q0 hk_q0 n5 (1 : Int32) (0 : Int32) μ1 _ hq _ _ _ hH (lv_sub hl [2, 0, 1] rfl) (fun a27 μ28 hq H locs ls hH hl => ?_)
  refine lv_iload_n hx hb dX12_sheets_47 rfl (lv_at hl 0 rfl) ?_
  exact x_iret G hr hH hq dX12_sheets_48
