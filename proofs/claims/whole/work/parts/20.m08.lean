abbrev tX12_isFound : List Cond := Cond.code yX12_isFound cX12_isFound 8 (some .boolean) :: wsL_law
theorem mi_X12_isFound : Cond.instanceMethod yX12_isFound ∈ wsL_law := (wm_24 _ (List.mem_of_getElem? (i := 1) rfl))
theorem ms_X12_isFound : Cond.selects RX12 yX12_isFound yX12_isFound ∈ wsL_law := (wm_24 _ (List.mem_of_getElem? (i := 2) rfl))
theorem mc_X12_isFound : Cond.code yX12_isFound cX12_isFound 8 (some .boolean) ∈ wsL_law := (wm_24 _ (List.mem_of_getElem? (i := 3) rfl))
theorem md_X12_isFound : yX12_isFound.cls ≠ "java/lang/invoke/MethodHandle" ∧ yX12_isFound.cls ≠ "java/lang/invoke/VarHandle" ∧ (parseMethodDescriptor yX12_isFound.desc).map (fun d => d.parameters.length) = some 2 := by decide +kernel
set_option maxRecDepth 100000 in
set_option maxHeartbeats 4000000 in
theorem wb_X12_isFound_93 {E : xE} {ad : Nat → Nat} {p : Program} {l : Launch} {e : Env} {s : State} {m : MethodId} {args : Array Value} {below : List Frame} {meth : Method} {c : Code} {Q : State → Prop} (G : xG E p s m args meth c cX12_isFound 8 RX12) (hA : ∀ a, s.heap.size ≤ a → xA ad s.heap.size a) (a33 : Int32) (q34 : Nat) (a35 : Int32) (a36 : Int32) (hk_q34 : kd q34 = 10) (a37 : Int32) (μ39 : xM) (K930 : xM → Prop) (K93b : Int32 → xM → Prop) (hq : B_X12_isFound_93 a33 q34 a35 a36 a37 μ39 K930 K93b) {H : Heap} {locs : List Loc} {ls : Array Slot} (hH : xH E ad (xA ad s.heap.size) s.heap μ39 H locs) (hl : lv_has ls 8 [(3, .int a33), (0, .ref (ad q34)), (1, .int a35), (2, .int a36), (7, .int a37)]) (kK930 : ∀ (μ40 : xM), K930  μ40 → ∀ (H : Heap) (locs : List Loc) (ls : Array Slot), xH E ad (xA ad s.heap.size) s.heap μ40 H locs → lv_has ls 8 [(3, .int a33), (0, .ref (ad q34)), (1, .int a35), (2, .int a36)] → W p l e (headSpec tX12_isFound ({ frames := 5, cells := 0, slots := 0, locals := 200 } : Room)).room s m args below meth c H locs 0 0 Q (F0 m 120 ls [])) (kK93b : ∀ (a41 : Int32) (μ42 : xM), K93b a41 μ42 → ∀ (H : Heap) (locs : List Loc) (ls : Array Slot), xH E ad (xA ad s.heap.size) s.heap μ42 H locs → lv_has ls 8 [(3, .int a33), (0, .ref (ad q34)), (1, .int a35), (2, .int a36), (7, .int a41)] → W p l e (headSpec tX12_isFound ({ frames := 5, cells := 0, slots := 0, locals := 200 } : Room)).room s m args below meth c H locs 0 0 Q (F0 m 93 ls [])) : W p l e (headSpec tX12_isFound ({ frames := 5, cells := 0, slots := 0, locals := 200 } : Room)).room s m args below meth c H locs 0 0 Q (F0 m 93 ls []) := by
  obtain ⟨hx, hb, hml, hown, hts, hKn, hN, hlk⟩ := id G
  unfold B_X12_isFound_93 at hq
  refine lv_iload hx hb dX12_isFound_93 (lv_at hl 4 rfl) ?_
  refine lv_bipush (v := (6 : Int32)) hx hb dX12_isFound_95 (by decide) ?_
  refine lv_icmp_ge (tgt := 120) hx hb dX12_isFound_97 (by decide) (fun c43 => ?_) (fun c43 => ?_)
  · have hq := hq.1 c43
    exact kK930  μ39 hq _ _ _ hH (lv_sub hl [0, 1, 2, 3] rfl)
  · have hq := hq.2 c43
    refine lv_aload_n hx hb dX12_isFound_100 rfl (lv_at hl 1 rfl) ?_
    refine x_get (j := 9) (C := RX12) (T := TX12) (N := 24) (v := .ref (ad (rt q34 9))) G hH hk_q34 (by decide) rfl inlX12 (by decide) (wm_7 _ (List.mem_of_getElem? (i := 1) rfl)) rfl dX12_isFound_101 ?_
    refine lv_iload hx hb dX12_isFound_104 (lv_at hl 4 rfl) ?_
    refine lv_aload_n hx hb dX12_isFound_106 rfl (lv_at hl 1 rfl) ?_
    refine x_get (j := 8) (C := RX12) (T := TX12) (N := 24) (v := .ref (ad (rt q34 8))) G hH hk_q34 (by decide) rfl inlX12 (by decide) (wm_7 _ (List.mem_of_getElem? (i := 0) rfl)) rfl dX12_isFound_107 ?_
    refine lv_iload hx hb dX12_isFound_110 (lv_at hl 4 rfl) ?_
    refine x_iald G hH (kt_10_8 _ hk_q34) hq.1 dX12_isFound_112 ?_
    have hq := hq.2
    refine x_iast G hH (kt_10_9 _ hk_q34) hq.1 dX12_isFound_113 (fun μ44 e_μ44 H locs hH => ?_)
    have hq := hq.2 μ44 e_μ44
    obtain ⟨v45, e_v45⟩ : ∃ y : Int32, y = (a37 + (1 : Int32)) := ⟨_, rfl⟩
    have hq := hq v45 e_v45
    refine lv_iinc (v := v45) (lv' := [(7, .int v45), (3, .int a33), (0, .ref (ad q34)), (1, .int a35), (2, .int a36)]) hx hb dX12_isFound_114 hl (k := 4) rfl (by rw [e_v45]; rfl) (by decide) rfl (fun ls hl => ?_)
    refine lv_goto (tgt := 93) hx hb dX12_isFound_117 (by decide) ?_
    exact kK93b v45 μ44 hq _ _ _ hH (lv_sub hl [1, 2, 3, 4, 0] rfl)
set_option maxRecDepth 100000 in
set_option maxHeartbeats 4000000 in
theorem w_X12_isFound_93 {E : xE} {ad : Nat → Nat} {p : Program} {l : Launch} {e : Env} {s : State} {m : MethodId} {args : Array Value} {below : List Frame} {meth : Method} {c : Code} {Q : State → Prop} (G : xG E p s m args meth c cX12_isFound 8 RX12) (hA : ∀ a, s.heap.size ≤ a → xA ad s.heap.size a) (a33 : Int32) (q34 : Nat) (a35 : Int32) (a36 : Int32) (hk_q34 : kd q34 = 10) : ∀ (n : Nat) (a37 : Int32) (μ39 : xM) (K930 : xM → Prop) (hq : L_X12_isFound_93 a33 q34 a35 a36 n a37 μ39 K930) (H : Heap) (locs : List Loc) (ls : Array Slot) (hH : xH E ad (xA ad s.heap.size) s.heap μ39 H locs) (hl : lv_has ls 8 [(3, .int a33), (0, .ref (ad q34)), (1, .int a35), (2, .int a36), (7, .int a37)]) (kK930 : ∀ (μ40 : xM), K930  μ40 → ∀ (H : Heap) (locs : List Loc) (ls : Array Slot), xH E ad (xA ad s.heap.size) s.heap μ40 H locs → lv_has ls 8 [(3, .int a33), (0, .ref (ad q34)), (1, .int a35), (2, .int a36)] → W p l e (headSpec tX12_isFound ({ frames := 5, cells := 0, slots := 0, locals := 200 } : Room)).room s m args below meth c H locs 0 0 Q (F0 m 120 ls [])) , W p l e (headSpec tX12_isFound ({ frames := 5, cells := 0, slots := 0, locals := 200 } : Room)).room s m args below meth c H locs 0 0 Q (F0 m 93 ls [])
  | 0, _, _, _, hq, _, _, _, _, _, _ => hq.elim
  | n + 1, a37, μ39, K930, hq, H, locs, ls, hH, hl, kK930 => wb_X12_isFound_93 G hA a33 q34 a35 a36 hk_q34 a37 μ39 K930 _ hq hH hl kK930 (fun x0 y hq H locs ls hH hl => w_X12_isFound_93 G hA a33 q34 a35 a36 hk_q34 n x0 y K930 hq H locs ls hH hl kK930)
set_option maxRecDepth 100000 in
set_option maxHeartbeats 4000000 in
theorem wj_X12_isFound_76 {E : xE} {ad : Nat → Nat} {p : Program} {l : Launch} {e : Env} {s : State} {m : MethodId} {args : Array Value} {below : List Frame} {meth : Method} {c : Code} {Q : State → Prop} (G : xG E p s m args meth c cX12_isFound 8 RX12) (hA : ∀ a, s.heap.size ≤ a → xA ad s.heap.size a) (q2 : Nat) (a3 : Int32) (a4 : Int32) (a28 : Int32) (a29 : Int32) (hk_q2 : kd q2 = 10) (μ30 : xM) (K90 : Int32 → xM → Prop) (K9b : Int32 → Int32 → xM → Prop) (hq : J_X12_isFound_76 q2 a3 a4 a28 a29 μ30 K90 K9b) {H : Heap} {locs : List Loc} {ls : Array Slot} (hH : xH E ad (xA ad s.heap.size) s.heap μ30 H locs) (hl : lv_has ls 8 [(6, .int a28), (5, .int a29), (0, .ref (ad q2)), (1, .int a3), (2, .int a4)]) (kK90 : ∀ (a9 : Int32) (μ10 : xM), K90 a9 μ10 → ∀ (H : Heap) (locs : List Loc) (ls : Array Slot), xH E ad (xA ad s.heap.size) s.heap μ10 H locs → lv_has ls 8 [(3, .int a9)] → W p l e (headSpec tX12_isFound ({ frames := 5, cells := 0, slots := 0, locals := 200 } : Room)).room s m args below meth c H locs 0 0 Q (F0 m 129 ls [])) (kK9b : ∀ (a11 : Int32) (a12 : Int32) (μ13 : xM), K9b a11 a12 μ13 → ∀ (H : Heap) (locs : List Loc) (ls : Array Slot), xH E ad (xA ad s.heap.size) s.heap μ13 H locs → lv_has ls 8 [(0, .ref (ad q2)), (1, .int a3), (2, .int a4), (4, .int a11), (3, .int a12)] → W p l e (headSpec tX12_isFound ({ frames := 5, cells := 0, slots := 0, locals := 200 } : Room)).room s m args below meth c H locs 0 0 Q (F0 m 9 ls [])) : W p l e (headSpec tX12_isFound ({ frames := 5, cells := 0, slots := 0, locals := 200 } : Room)).room s m args below meth c H locs 0 0 Q (F0 m 76 ls []) := by
  obtain ⟨hx, hb, hml, hown, hts, hKn, hN, hlk⟩ := id G
  unfold J_X12_isFound_76 at hq
  refine lv_iconst (v := (1 : Int32)) hx hb dX12_isFound_76 (by decide) ?_
  refine lv_istore_n (lv' := [(3, .int (1 : Int32)), (6, .int a28), (5, .int a29), (0, .ref (ad q2)), (1, .int a3), (2, .int a4)]) hx hb dX12_isFound_77 rfl hl (by decide) rfl (fun ls hl => ?_)
  refine lv_aload_n hx hb dX12_isFound_78 rfl (lv_at hl 3 rfl) ?_
  refine lv_iload hx hb dX12_isFound_79 (lv_at hl 1 rfl) ?_
  refine x_puti (j := 11) (C := RX12) (T := TX12) (N := 24) (ty := .int) G hH hk_q2 (by decide) rfl inlX12 tyX12 tyX12_ok nmX12 (by decide) (wm_23 _ (List.mem_of_getElem? (i := 22) rfl)) rfl (by decide +kernel) rfl rfl (fun _ _ => Nat.le_of_ble_eq_true rfl) (fun _ _ => rfl) dX12_isFound_81 (fun μ31 e_μ31 H locs hH => ?_)
  have hq := hq μ31 e_μ31
  refine lv_aload_n hx hb dX12_isFound_84 rfl (lv_at hl 3 rfl) ?_
  refine lv_iload hx hb dX12_isFound_85 (lv_at hl 2 rfl) ?_
  refine x_puti (j := 10) (C := RX12) (T := TX12) (N := 24) (ty := .int) G hH hk_q2 (by decide) rfl inlX12 tyX12 tyX12_ok nmX12 (by decide) (wm_23 _ (List.mem_of_getElem? (i := 23) rfl)) rfl (by decide +kernel) rfl rfl (fun _ _ => Nat.le_of_ble_eq_true rfl) (fun _ _ => rfl) dX12_isFound_87 (fun μ32 e_μ32 H locs hH => ?_)
  have hq := hq μ32 e_μ32
  refine lv_iconst (v := (0 : Int32)) hx hb dX12_isFound_90 (by decide) ?_
  refine lv_istore (lv' := [(7, .int (0 : Int32)), (3, .int (1 : Int32)), (6, .int a28), (5, .int a29), (0, .ref (ad q2)), (1, .int a3), (2, .int a4)]) hx hb dX12_isFound_91 hl (by decide) rfl (fun ls hl => ?_)
  obtain ⟨n38, hq⟩ := hq
  refine w_X12_isFound_93 G hA (1 : Int32) q2 a3 a4 hk_q2 n38 (0 : Int32) μ32 _ hq _ _ _ hH (lv_sub hl [1, 4, 5, 6, 0] rfl) (fun  μ46 hq H locs ls hH hl => ?_)
  refine lv_aload_n hx hb dX12_isFound_120 rfl (lv_at hl 1 rfl) ?_
  refine x_cVi (C := RX12) (T := TX12) (N := 24) (As := []) (rest := []) G hH hA (c_X12_goesOn l E ad μ46 q2 hk_q2 _ hq) (wm_18 _ (List.mem_of_getElem? (i := 20) rfl)) mi_X12_goesOn ms_X12_goesOn mn_RX12 mc_X12_goesOn rfl md_X12_goesOn ⟨rfl, rfl, Nat.le_of_ble_eq_true rfl, Nat.le_of_ble_eq_true rfl⟩ hk_q2 (by decide) rfl rfl hl.1 rfl (Nat.le_of_ble_eq_true rfl) dX12_isFound_121 ⟨Nat.zero_le _, Nat.zero_le _⟩ (fun r48 μ47 hq H locs hH => ?_)
  refine lv_istore (lv' := [(4, .int r48), (3, .int (1 : Int32)), (0, .ref (ad q2)), (1, .int a3), (2, .int a4)]) hx hb dX12_isFound_124 hl (by decide) rfl (fun ls hl => ?_)
  refine lv_goto (tgt := 9) hx hb dX12_isFound_126 (by decide) ?_
  exact kK9b r48 (1 : Int32) μ47 hq _ _ _ hH (lv_sub hl [2, 3, 4, 0, 1] rfl)
set_option maxRecDepth 100000 in
set_option maxHeartbeats 4000000 in
theorem wj_X12_isFound_45 {E : xE} {ad : Nat → Nat} {p : Program} {l : Launch} {e : Env} {s : State} {m : MethodId} {args : Array Value} {below : List Frame} {meth : Method} {c : Code} {Q : State → Prop} (G : xG E p s m args meth c cX12_isFound 8 RX12) (hA : ∀ a, s.heap.size ≤ a → xA ad s.heap.size a) (q2 : Nat) (a3 : Int32) (a4 : Int32) (a23 : Int32) (a24 : Int32) (a25 : Int32) (hk_q2 : kd q2 = 10) (μ26 : xM) (K90 : Int32 → xM → Prop) (K9b : Int32 → Int32 → xM → Prop) (hq : J_X12_isFound_45 q2 a3 a4 a23 a24 a25 μ26 K90 K9b) {H : Heap} {locs : List Loc} {ls : Array Slot} (hH : xH E ad (xA ad s.heap.size) s.heap μ26 H locs) (hl : lv_has ls 8 [(6, .int a23), (5, .int a24), (0, .ref (ad q2)), (1, .int a3), (2, .int a4), (3, .int a25)]) (kK90 : ∀ (a9 : Int32) (μ10 : xM), K90 a9 μ10 → ∀ (H : Heap) (locs : List Loc) (ls : Array Slot), xH E ad (xA ad s.heap.size) s.heap μ10 H locs → lv_has ls 8 [(3, .int a9)] → W p l e (headSpec tX12_isFound ({ frames := 5, cells := 0, slots := 0, locals := 200 } : Room)).room s m args below meth c H locs 0 0 Q (F0 m 129 ls [])) (kK9b : ∀ (a11 : Int32) (a12 : Int32) (μ13 : xM), K9b a11 a12 μ13 → ∀ (H : Heap) (locs : List Loc) (ls : Array Slot), xH E ad (xA ad s.heap.size) s.heap μ13 H locs → lv_has ls 8 [(0, .ref (ad q2)), (1, .int a3), (2, .int a4), (4, .int a11), (3, .int a12)] → W p l e (headSpec tX12_isFound ({ frames := 5, cells := 0, slots := 0, locals := 200 } : Room)).room s m args below meth c H locs 0 0 Q (F0 m 9 ls [])) : W p l e (headSpec tX12_isFound ({ frames := 5, cells := 0, slots := 0, locals := 200 } : Room)).room s m args below meth c H locs 0 0 Q (F0 m 45 ls []) := by
  obtain ⟨hx, hb, hml, hown, hts, hKn, hN, hlk⟩ := id G
  unfold J_X12_isFound_45 at hq
  refine lv_iload_n hx hb dX12_isFound_45 rfl (lv_at hl 5 rfl) ?_
  refine lv_if_eq (tgt := 76) hx hb dX12_isFound_46 (by decide) (fun c27 => ?_) (fun c27 => ?_)
  · have hq := hq.1 c27
    exact wj_X12_isFound_76 G hA q2 a3 a4 a23 a24 hk_q2 μ26 _ _ hq hH (lv_sub hl [0, 1, 2, 3, 4] rfl) kK90 kK9b
  · have hq := hq.2 c27
    refine lv_iload hx hb dX12_isFound_49 (lv_at hl 0 rfl) ?_
    refine lv_aload_n hx hb dX12_isFound_51 rfl (lv_at hl 2 rfl) ?_
    refine x_get (j := 11) (C := RX12) (T := TX12) (N := 24) (v := .int (μ26.1 q2 11)) G hH hk_q2 (by decide) rfl inlX12 (by decide) (wm_23 _ (List.mem_of_getElem? (i := 22) rfl)) rfl dX12_isFound_52 ?_
    refine lv_icmp_gt (tgt := 76) hx hb dX12_isFound_55 (by decide) (fun c49 => ?_) (fun c49 => ?_)
    · have hq := hq.1 c49
      exact wj_X12_isFound_76 G hA q2 a3 a4 a23 a24 hk_q2 μ26 _ _ hq hH (lv_sub hl [0, 1, 2, 3, 4] rfl) kK90 kK9b
    · have hq := hq.2 c49
      refine lv_iload hx hb dX12_isFound_58 (lv_at hl 0 rfl) ?_
      refine lv_aload_n hx hb dX12_isFound_60 rfl (lv_at hl 2 rfl) ?_
      refine x_get (j := 11) (C := RX12) (T := TX12) (N := 24) (v := .int (μ26.1 q2 11)) G hH hk_q2 (by decide) rfl inlX12 (by decide) (wm_23 _ (List.mem_of_getElem? (i := 22) rfl)) rfl dX12_isFound_61 ?_
      refine lv_icmp_ne (tgt := 120) hx hb dX12_isFound_64 (by decide) (fun c52 => ?_) (fun c52 => ?_)
      · have hq := hq.1 c52
        refine lv_aload_n hx hb dX12_isFound_120 rfl (lv_at hl 2 rfl) ?_
        refine x_cVi (C := RX12) (T := TX12) (N := 24) (As := []) (rest := []) G hH hA (c_X12_goesOn l E ad μ26 q2 hk_q2 _ hq) (wm_18 _ (List.mem_of_getElem? (i := 20) rfl)) mi_X12_goesOn ms_X12_goesOn mn_RX12 mc_X12_goesOn rfl md_X12_goesOn ⟨rfl, rfl, Nat.le_of_ble_eq_true rfl, Nat.le_of_ble_eq_true rfl⟩ hk_q2 (by decide) rfl rfl hl.1 rfl (Nat.le_of_ble_eq_true rfl) dX12_isFound_121 ⟨Nat.zero_le _, Nat.zero_le _⟩ (fun r54 μ53 hq H locs hH => ?_)
        refine lv_istore (lv' := [(4, .int r54), (6, .int a23), (5, .int a24), (0, .ref (ad q2)), (1, .int a3), (2, .int a4), (3, .int a25)]) hx hb dX12_isFound_124 hl (by decide) rfl (fun ls hl => ?_)
        refine lv_goto (tgt := 9) hx hb dX12_isFound_126 (by decide) ?_
        exact kK9b r54 a25 μ53 hq _ _ _ hH (lv_sub hl [3, 4, 5, 0, 6] rfl)
      · have hq := hq.2 c52
        refine lv_iload hx hb dX12_isFound_67 (lv_at hl 1 rfl) ?_
        refine lv_aload_n hx hb dX12_isFound_69 rfl (lv_at hl 2 rfl) ?_
        refine x_get (j := 10) (C := RX12) (T := TX12) (N := 24) (v := .int (μ26.1 q2 10)) G hH hk_q2 (by decide) rfl inlX12 (by decide) (wm_23 _ (List.mem_of_getElem? (i := 23) rfl)) rfl dX12_isFound_70 ?_
        refine lv_icmp_ge (tgt := 120) hx hb dX12_isFound_73 (by decide) (fun c55 => ?_) (fun c55 => ?_)
        · have hq := hq.1 c55
          refine lv_aload_n hx hb dX12_isFound_120 rfl (lv_at hl 2 rfl) ?_
          refine x_cVi (C := RX12) (T := TX12) (N := 24) (As := []) (rest := []) G hH hA (c_X12_goesOn l E ad μ26 q2 hk_q2 _ hq) (wm_18 _ (List.mem_of_getElem? (i := 20) rfl)) mi_X12_goesOn ms_X12_goesOn mn_RX12 mc_X12_goesOn rfl md_X12_goesOn ⟨rfl, rfl, Nat.le_of_ble_eq_true rfl, Nat.le_of_ble_eq_true rfl⟩ hk_q2 (by decide) rfl rfl hl.1 rfl (Nat.le_of_ble_eq_true rfl) dX12_isFound_121 ⟨Nat.zero_le _, Nat.zero_le _⟩ (fun r57 μ56 hq H locs hH => ?_)
          refine lv_istore (lv' := [(4, .int r57), (6, .int a23), (5, .int a24), (0, .ref (ad q2)), (1, .int a3), (2, .int a4), (3, .int a25)]) hx hb dX12_isFound_124 hl (by decide) rfl (fun ls hl => ?_)
          refine lv_goto (tgt := 9) hx hb dX12_isFound_126 (by decide) ?_
          exact kK9b r57 a25 μ56 hq _ _ _ hH (lv_sub hl [3, 4, 5, 0, 6] rfl)
        · have hq := hq.2 c55
          exact wj_X12_isFound_76 G hA q2 a3 a4 a23 a24 hk_q2 μ26 _ _ hq hH (lv_sub hl [0, 1, 2, 3, 4] rfl) kK90 kK9b
set_option maxRecDepth 100000 in
set_option maxHeartbeats 4000000 in
theorem wb_X12_isFound_9 {E : xE} {ad : Nat → Nat} {p : Program} {l : Launch} {e : Env} {s : State} {m : MethodId} {args : Array Value} {below : List Frame} {meth : Method} {c : Code} {Q : State → Prop} (G : xG E p s m args meth c cX12_isFound 8 RX12) (hA : ∀ a, s.heap.size ≤ a → xA ad s.heap.size a) (q2 : Nat) (a3 : Int32) (a4 : Int32) (hk_q2 : kd q2 = 10) (a5 : Int32) (a6 : Int32) (μ8 : xM) (K90 : Int32 → xM → Prop) (K9b : Int32 → Int32 → xM → Prop) (hq : B_X12_isFound_9 q2 a3 a4 a5 a6 μ8 K90 K9b) {H : Heap} {locs : List Loc} {ls : Array Slot} (hH : xH E ad (xA ad s.heap.size) s.heap μ8 H locs) (hl : lv_has ls 8 [(0, .ref (ad q2)), (1, .int a3), (2, .int a4), (4, .int a5), (3, .int a6)]) (kK90 : ∀ (a9 : Int32) (μ10 : xM), K90 a9 μ10 → ∀ (H : Heap) (locs : List Loc) (ls : Array Slot), xH E ad (xA ad s.heap.size) s.heap μ10 H locs → lv_has ls 8 [(3, .int a9)] → W p l e (headSpec tX12_isFound ({ frames := 5, cells := 0, slots := 0, locals := 200 } : Room)).room s m args below meth c H locs 0 0 Q (F0 m 129 ls [])) (kK9b : ∀ (a11 : Int32) (a12 : Int32) (μ13 : xM), K9b a11 a12 μ13 → ∀ (H : Heap) (locs : List Loc) (ls : Array Slot), xH E ad (xA ad s.heap.size) s.heap μ13 H locs → lv_has ls 8 [(0, .ref (ad q2)), (1, .int a3), (2, .int a4), (4, .int a11), (3, .int a12)] → W p l e (headSpec tX12_isFound ({ frames := 5, cells := 0, slots := 0, locals := 200 } : Room)).room s m args below meth c H locs 0 0 Q (F0 m 9 ls [])) : W p l e (headSpec tX12_isFound ({ frames := 5, cells := 0, slots := 0, locals := 200 } : Room)).room s m args below meth c H locs 0 0 Q (F0 m 9 ls []) := by
  obtain ⟨hx, hb, hml, hown, hts, hKn, hN, hlk⟩ := id G
  unfold B_X12_isFound_9 at hq
  refine lv_iload hx hb dX12_isFound_9 (lv_at hl 3 rfl) ?_
  refine lv_if_eq (tgt := 129) hx hb dX12_isFound_11 (by decide) (fun c14 => ?_) (fun c14 => ?_)
  · have hq := hq.1 c14
    exact kK90 a6 μ8 hq _ _ _ hH (lv_sub hl [4] rfl)
  · have hq := hq.2 c14
    refine lv_aload_n hx hb dX12_isFound_14 rfl (lv_at hl 0 rfl) ?_
    refine x_cVi (C := RX12) (T := TX12) (N := 24) (As := []) (rest := []) G hH hA (c_X12_isLawful l E ad μ8 q2 hk_q2 _ hq) (wm_18 _ (List.mem_of_getElem? (i := 16) rfl)) mi_X12_isLawful ms_X12_isLawful mn_RX12 mc_X12_isLawful rfl md_X12_isLawful ⟨rfl, rfl, Nat.le_of_ble_eq_true rfl, Nat.le_of_ble_eq_true rfl⟩ hk_q2 (by decide) rfl rfl hl.1 rfl (Nat.le_of_ble_eq_true rfl) dX12_isFound_15 ⟨Nat.zero_le _, Nat.zero_le _⟩ (fun r16 μ15 hq H locs hH => ?_)
    refine lv_if_eq (tgt := 120) hx hb dX12_isFound_18 (by decide) (fun c17 => ?_) (fun c17 => ?_)
    · have hq := hq.1 c17
      refine lv_aload_n hx hb dX12_isFound_120 rfl (lv_at hl 0 rfl) ?_
      refine x_cVi (C := RX12) (T := TX12) (N := 24) (As := []) (rest := []) G hH hA (c_X12_goesOn l E ad μ15 q2 hk_q2 _ hq) (wm_18 _ (List.mem_of_getElem? (i := 20) rfl)) mi_X12_goesOn ms_X12_goesOn mn_RX12 mc_X12_goesOn rfl md_X12_goesOn ⟨rfl, rfl, Nat.le_of_ble_eq_true rfl, Nat.le_of_ble_eq_true rfl⟩ hk_q2 (by decide) rfl rfl hl.1 rfl (Nat.le_of_ble_eq_true rfl) dX12_isFound_121 ⟨Nat.zero_le _, Nat.zero_le _⟩ (fun r19 μ18 hq H locs hH => ?_)
      refine lv_istore (lv' := [(4, .int r19), (0, .ref (ad q2)), (1, .int a3), (2, .int a4), (3, .int a6)]) hx hb dX12_isFound_124 hl (by decide) rfl (fun ls hl => ?_)
      refine lv_goto (tgt := 9) hx hb dX12_isFound_126 (by decide) ?_
      exact kK9b r19 a6 μ18 hq _ _ _ hH (lv_sub hl [1, 2, 3, 0, 4] rfl)
    · have hq := hq.2 c17
      refine lv_aload_n hx hb dX12_isFound_21 rfl (lv_at hl 0 rfl) ?_
      refine lv_iload_n hx hb dX12_isFound_22 rfl (lv_at hl 1 rfl) ?_
      refine x_cVi (C := RX12) (T := TX12) (N := 24) (As := [.int a3]) (rest := []) G hH hA (c_X12_smearBy l E ad μ15 q2 a3 hk_q2 _ hq) (wm_24 _ (List.mem_of_getElem? (i := 4) rfl)) mi_X12_smearBy ms_X12_smearBy mn_RX12 mc_X12_smearBy rfl md_X12_smearBy ⟨rfl, rfl, Nat.le_of_ble_eq_true rfl, Nat.le_of_ble_eq_true rfl⟩ hk_q2 (by decide) rfl rfl hl.1 rfl (Nat.le_of_ble_eq_true rfl) dX12_isFound_23 ⟨Nat.zero_le _, Nat.zero_le _⟩ (fun r21 μ20 hq H locs hH => ?_)
      refine lv_istore (lv' := [(5, .int r21), (0, .ref (ad q2)), (1, .int a3), (2, .int a4), (4, .int a5), (3, .int a6)]) hx hb dX12_isFound_26 hl (by decide) rfl (fun ls hl => ?_)
      refine lv_iconst (v := (0 : Int32)) hx hb dX12_isFound_28 (by decide) ?_
      refine lv_istore (lv' := [(6, .int (0 : Int32)), (5, .int r21), (0, .ref (ad q2)), (1, .int a3), (2, .int a4), (4, .int a5), (3, .int a6)]) hx hb dX12_isFound_29 hl (by decide) rfl (fun ls hl => ?_)
      refine lv_iload_n hx hb dX12_isFound_31 rfl (lv_at hl 4 rfl) ?_
      refine lv_if_eq (tgt := 45) hx hb dX12_isFound_32 (by decide) (fun c22 => ?_) (fun c22 => ?_)
      · have hq := hq.1 c22
        exact wj_X12_isFound_45 G hA q2 a3 a4 (0 : Int32) r21 a6 hk_q2 μ20 _ _ hq hH (lv_sub hl [0, 1, 2, 3, 4, 6] rfl) kK90 kK9b
      · have hq := hq.2 c22
        refine lv_aload_n hx hb dX12_isFound_35 rfl (lv_at hl 2 rfl) ?_
        refine x_cVv (C := RX12) (T := TX12) (N := 24) (As := []) (rest := []) G hH hA (c_X12_printAll l E ad μ20 q2 hk_q2 _ hq) (wm_24 _ (List.mem_of_getElem? (i := 8) rfl)) mi_X12_printAll ms_X12_printAll mn_RX12 mc_X12_printAll rfl md_X12_printAll ⟨rfl, rfl, Nat.le_of_ble_eq_true rfl, Nat.le_of_ble_eq_true rfl⟩ hk_q2 (by decide) rfl rfl hl.1 rfl (Nat.le_of_ble_eq_true rfl) dX12_isFound_36 ⟨Nat.zero_le _, Nat.zero_le _⟩ (fun μ60 hq H locs hH => ?_)
        refine lv_aload_n hx hb dX12_isFound_39 rfl (lv_at hl 2 rfl) ?_
        refine x_cVi (C := RX12) (T := TX12) (N := 24) (As := []) (rest := []) G hH hA (c_X12_hits l E ad μ60 q2 hk_q2 _ hq) (wm_24 _ (List.mem_of_getElem? (i := 21) rfl)) mi_X12_hits ms_X12_hits mn_RX12 mc_X12_hits rfl md_X12_hits ⟨rfl, rfl, Nat.le_of_ble_eq_true rfl, Nat.le_of_ble_eq_true rfl⟩ hk_q2 (by decide) rfl rfl hl.1 rfl (Nat.le_of_ble_eq_true rfl) dX12_isFound_40 ⟨Nat.zero_le _, Nat.zero_le _⟩ (fun r62 μ61 hq H locs hH => ?_)
        refine lv_istore (lv' := [(6, .int r62), (5, .int r21), (0, .ref (ad q2)), (1, .int a3), (2, .int a4), (4, .int a5), (3, .int a6)]) hx hb dX12_isFound_43 hl (by decide) rfl (fun ls hl => ?_)
        exact wj_X12_isFound_45 G hA q2 a3 a4 r62 r21 a6 hk_q2 μ61 _ _ hq hH (lv_sub hl [0, 1, 2, 3, 4, 6] rfl) kK90 kK9b
set_option maxRecDepth 100000 in
set_option maxHeartbeats 4000000 in
theorem w_X12_isFound_9 {E : xE} {ad : Nat → Nat} {p : Program} {l : Launch} {e : Env} {s : State} {m : MethodId} {args : Array Value} {below : List Frame} {meth : Method} {c : Code} {Q : State → Prop} (G : xG E p s m args meth c cX12_isFound 8 RX12) (hA : ∀ a, s.heap.size ≤ a → xA ad s.heap.size a) (q2 : Nat) (a3 : Int32) (a4 : Int32) (hk_q2 : kd q2 = 10) : ∀ (n : Nat) (a5 : Int32) (a6 : Int32) (μ8 : xM) (K90 : Int32 → xM → Prop) (hq : L_X12_isFound_9 q2 a3 a4 n a5 a6 μ8 K90) (H : Heap) (locs : List Loc) (ls : Array Slot) (hH : xH E ad (xA ad s.heap.size) s.heap μ8 H locs) (hl : lv_has ls 8 [(0, .ref (ad q2)), (1, .int a3), (2, .int a4), (4, .int a5), (3, .int a6)]) (kK90 : ∀ (a9 : Int32) (μ10 : xM), K90 a9 μ10 → ∀ (H : Heap) (locs : List Loc) (ls : Array Slot), xH E ad (xA ad s.heap.size) s.heap μ10 H locs → lv_has ls 8 [(3, .int a9)] → W p l e (headSpec tX12_isFound ({ frames := 5, cells := 0, slots := 0, locals := 200 } : Room)).room s m args below meth c H locs 0 0 Q (F0 m 129 ls [])) , W p l e (headSpec tX12_isFound ({ frames := 5, cells := 0, slots := 0, locals := 200 } : Room)).room s m args below meth c H locs 0 0 Q (F0 m 9 ls [])
  | 0, _, _, _, _, hq, _, _, _, _, _, _ => hq.elim
  | n + 1, a5, a6, μ8, K90, hq, H, locs, ls, hH, hl, kK90 => wb_X12_isFound_9 G hA q2 a3 a4 hk_q2 a5 a6 μ8 K90 _ hq hH hl kK90 (fun x0 x1 y hq H locs ls hH hl => w_X12_isFound_9 G hA q2 a3 a4 hk_q2 n x0 x1 y K90 hq H locs ls hH hl kK90)
set_option maxRecDepth 100000 in
set_option maxHeartbeats 4000000 in
theorem c_X12_isFound (l : Launch) (E : xE) (ad : Nat → Nat) (μ : xM) (q0 : Nat) (p1 : Int32) (p2 : Int32) (hk_q0 : kd q0 = 10) (Qm : Int32 → xM → Prop) (hq : p_X12_isFound q0 p1 p2 μ Qm) : xMi l yX12_isFound tX12_isFound ({ frames := 5, cells := 0, slots := 0, locals := 200 } : Room) E ad μ [.ref (ad q0), .int p1, .int p2] Qm := by
  refine x_sti (cc := cX12_isFound) (maxL := 8) (ret := (some .boolean)) (own := RX12) rfl (by decide) rfl (Nat.le_of_ble_eq_true rfl) ?_
  intro p e s m args below meth c ls G hr hA hH hl
  obtain ⟨hx, hb, hml, hown, hts, hKn, hN, hlk⟩ := id G
  have hl : lv_has ls 8 [(0, .ref (ad q0)), (1, .int p1), (2, .int p2)] := hl
  have hH : xH E ad (xA ad s.heap.size) s.heap μ s.heap [] := hH
  unfold p_X12_isFound at hq
  refine lv_aload_n hx hb dX12_isFound_0 rfl (lv_at hl 0 rfl) ?_
  refine x_cVv (C := RX12) (T := TX12) (N := 24) (As := []) (rest := []) G hH hA (c_X12_begin l E ad μ q0 hk_q0 _ hq) (wm_18 _ (List.mem_of_getElem? (i := 12) rfl)) mi_X12_begin ms_X12_begin mn_RX12 mc_X12_begin rfl md_X12_begin ⟨rfl, rfl, Nat.le_of_ble_eq_true rfl, Nat.le_of_ble_eq_true rfl⟩ hk_q0 (by decide) rfl rfl hl.1 rfl (Nat.le_of_ble_eq_true rfl) dX12_isFound_1 ⟨Nat.zero_le _, Nat.zero_le _⟩ (fun μ1 hq H locs hH => ?_)
  refine lv_iconst (v := (0 : Int32)) hx hb dX12_isFound_4 (by decide) ?_
  refine lv_istore_n (lv' := [(3, .int (0 : Int32)), (0, .ref (ad q0)), (1, .int p1), (2, .int p2)]) hx hb dX12_isFound_5 rfl hl (by decide) rfl (fun ls hl => ?_)
  refine lv_iconst (v := (1 : Int32)) hx hb dX12_isFound_6 (by decide) ?_
  refine lv_istore (lv' := [(4, .int (1 : Int32)), (3, .int (0 : Int32)), (0, .ref (ad q0)), (1, .int p1), (2, .int p2)]) hx hb dX12_isFound_7 hl (by decide) rfl (fun ls hl => ?_)
  obtain ⟨n7, hq⟩ := hq
  refine w_X12_isFound_9 G hA q0 p1 p2 hk_q0 n7 (1 : Int32) (0 : Int32) μ1 _ hq _ _ _ hH (lv_sub hl [2, 3, 4, 0, 1] rfl) (fun a66 μ67 hq H locs ls hH hl => ?_)
  refine lv_iload_n hx hb dX12_isFound_129 rfl (lv_at hl 0 rfl) ?_
  exact x_zret G hr hH hq.1 hq.2 dX12_isFound_130
abbrev tX12_asked : List Cond := Cond.code yX12_asked cX12_asked 4 (some .int) :: wsL_law
theorem mi_X12_asked : Cond.instanceMethod yX12_asked ∈ wsL_law := (wm_23 _ (List.mem_of_getElem? (i := 19) rfl))
theorem ms_X12_asked : Cond.selects RX12 yX12_asked yX12_asked ∈ wsL_law := (wm_23 _ (List.mem_of_getElem? (i := 20) rfl))
theorem mc_X12_asked : Cond.code yX12_asked cX12_asked 4 (some .int) ∈ wsL_law := (wm_23 _ (List.mem_of_getElem? (i := 21) rfl))
theorem md_X12_asked : yX12_asked.cls ≠ "java/lang/invoke/MethodHandle" ∧ yX12_asked.cls ≠ "java/lang/invoke/VarHandle" ∧ (parseMethodDescriptor yX12_asked.desc).map (fun d => d.parameters.length) = some 3 := by decide +kernel
set_option maxRecDepth 100000 in
set_option maxHeartbeats 4000000 in
theorem wj_X12_asked_21 {E : xE} {ad : Nat → Nat} {p : Program} {l : Launch} {e : Env} {s : State} {m : MethodId} {args : Array Value} {below : List Frame} {meth : Method} {c : Code} {Qm : Int32 → xM → Prop} (G : xG E p s m args meth c cX12_asked 4 RX12) (hA : ∀ a, s.heap.size ≤ a → xA ad s.heap.size a) (hr : meth.sig.returnType = (some .int)) (q6 : Nat) (a7 : Int32) (a8 : Int32) (a9 : Int32) (a10 : Int32) (a11 : Int32) (hk_q6 : kd q6 = 10) (μ12 : xM) (hq : J_X12_asked_21 q6 a7 a8 a9 a10 a11 μ12 Qm) {H : Heap} {locs : List Loc} {ls : Array Slot} (hH : xH E ad (xA ad s.heap.size) s.heap μ12 H locs) (hl : lv_has ls 4 [(0, .ref (ad q6)), (1, .int a7), (2, .int a8), (3, .int a9)]) : W p l e (headSpec tX12_asked ({ frames := 6, cells := 0, slots := 0, locals := 240 } : Room)).room s m args below meth c H locs 0 0 (MQ below (va_Qi Qm (xPost E ad s.heap.size) (xA ad s.heap.size)) args s 0 0 (xA ad s.heap.size)) (F0 m 21 ls [.int a10, .int a11]) := by
  obtain ⟨hx, hb, hml, hown, hts, hKn, hN, hlk⟩ := id G
  unfold J_X12_asked_21 at hq
  refine lv_icmp_ge (tgt := 37) hx hb dX12_asked_21 (by decide) (fun c13 => ?_) (fun c13 => ?_)
  · have hq := hq.1 c13
    refine lv_aload_n hx hb dX12_asked_37 rfl (lv_at hl 0 rfl) ?_
    refine lv_iload_n hx hb dX12_asked_38 rfl (lv_at hl 1 rfl) ?_
    refine lv_iload_n hx hb dX12_asked_39 rfl (lv_at hl 3 rfl) ?_
    refine x_cVi (C := RX12) (T := TX12) (N := 24) (As := [.int a7, .int a9]) (rest := []) G hH hA (c_X12_isFound l E ad μ12 q6 a7 a9 hk_q6 _ hq) (wm_24 _ (List.mem_of_getElem? (i := 0) rfl)) mi_X12_isFound ms_X12_isFound mn_RX12 mc_X12_isFound rfl md_X12_isFound ⟨rfl, rfl, Nat.le_of_ble_eq_true rfl, Nat.le_of_ble_eq_true rfl⟩ hk_q6 (by decide) rfl rfl hl.1 rfl (Nat.le_of_ble_eq_true rfl) dX12_asked_40 ⟨Nat.zero_le _, Nat.zero_le _⟩ (fun r15 μ14 hq H locs hH => ?_)
    refine lv_if_ne (tgt := 59) hx hb dX12_asked_43 (by decide) (fun c16 => ?_) (fun c16 => ?_)
    · have hq := hq.1 c16
      refine lv_iload_n hx hb dX12_asked_59 rfl (lv_at hl 2 rfl) ?_
      refine lv_if_ge (tgt := 84) hx hb dX12_asked_60 (by decide) (fun c17 => ?_) (fun c17 => ?_)
      · have hq := hq.1 c17
        refine lv_iload_n hx hb dX12_asked_84 rfl (lv_at hl 2 rfl) ?_
        refine lv_aload_n hx hb dX12_asked_85 rfl (lv_at hl 0 rfl) ?_
        refine x_get (j := 0) (C := RX12) (T := TX12) (N := 24) (v := .ref (ad (rt q6 0))) G hH hk_q6 (by decide) rfl inlX12 (by decide) (wm_6 _ (List.mem_of_getElem? (i := 18) rfl)) rfl dX12_asked_86 ?_
        refine lv_iconst (v := (0 : Int32)) hx hb dX12_asked_89 (by decide) ?_
        refine x_iald G hH (kt_10_0 _ hk_q6) hq.1 dX12_asked_90 ?_
        have hq := hq.2
        refine lv_icmp_ge (tgt := 103) hx hb dX12_asked_91 (by decide) (fun c18 => ?_) (fun c18 => ?_)
        · have hq := hq.1 c18
          refine lv_bipush (v := (-5 : Int32)) hx hb dX12_asked_103 (by decide) ?_
          exact x_iret G hr hH hq dX12_asked_105
        · have hq := hq.2 c18
          refine lv_aload_n hx hb dX12_asked_94 rfl (lv_at hl 0 rfl) ?_
          refine x_get (j := 9) (C := RX12) (T := TX12) (N := 24) (v := .ref (ad (rt q6 9))) G hH hk_q6 (by decide) rfl inlX12 (by decide) (wm_7 _ (List.mem_of_getElem? (i := 1) rfl)) rfl dX12_asked_95 ?_
          refine lv_iload_n hx hb dX12_asked_98 rfl (lv_at hl 2 rfl) ?_
          refine x_iald G hH (kt_10_9 _ hk_q6) hq.1 dX12_asked_99 ?_
          have hq := hq.2
          refine lv_goto (tgt := 105) hx hb dX12_asked_100 (by decide) ?_
          exact x_iret G hr hH hq dX12_asked_105
      · have hq := hq.2 c17
        refine lv_iload_n hx hb dX12_asked_63 rfl (lv_at hl 3 rfl) ?_
        refine lv_if_eq (tgt := 79) hx hb dX12_asked_64 (by decide) (fun c19 => ?_) (fun c19 => ?_)
        · have hq := hq.1 c19
          refine lv_aload_n hx hb dX12_asked_79 rfl (lv_at hl 0 rfl) ?_
          refine x_get (j := 10) (C := RX12) (T := TX12) (N := 24) (v := .int (μ14.1 q6 10)) G hH hk_q6 (by decide) rfl inlX12 (by decide) (wm_23 _ (List.mem_of_getElem? (i := 23) rfl)) rfl dX12_asked_80 ?_
          exact x_iret G hr hH hq dX12_asked_83
        · have hq := hq.2 c19
          refine lv_iload_n hx hb dX12_asked_67 rfl (lv_at hl 2 rfl) ?_
          refine lv_iconst (v := (-1 : Int32)) hx hb dX12_asked_68 (by decide) ?_
          refine lv_icmp_ne (tgt := 79) hx hb dX12_asked_69 (by decide) (fun c20 => ?_) (fun c20 => ?_)
          · have hq := hq.1 c20
            refine lv_aload_n hx hb dX12_asked_79 rfl (lv_at hl 0 rfl) ?_
            refine x_get (j := 10) (C := RX12) (T := TX12) (N := 24) (v := .int (μ14.1 q6 10)) G hH hk_q6 (by decide) rfl inlX12 (by decide) (wm_23 _ (List.mem_of_getElem? (i := 23) rfl)) rfl dX12_asked_80 ?_
            exact x_iret G hr hH hq dX12_asked_83
          · have hq := hq.2 c20
            refine lv_aload_n hx hb dX12_asked_72 rfl (lv_at hl 0 rfl) ?_
            refine x_get (j := 11) (C := RX12) (T := TX12) (N := 24) (v := .int (μ14.1 q6 11)) G hH hk_q6 (by decide) rfl inlX12 (by decide) (wm_23 _ (List.mem_of_getElem? (i := 22) rfl)) rfl dX12_asked_73 ?_
            refine lv_goto (tgt := 83) hx hb dX12_asked_76 (by decide) ?_
            exact x_iret G hr hH hq dX12_asked_83
    · have hq := hq.2 c16
      refine lv_aload_n hx hb dX12_asked_46 rfl (lv_at hl 0 rfl) ?_
      refine x_get (j := 4) (C := RX12) (T := TX12) (N := 24) (v := .ref (ad (rt q6 4))) G hH hk_q6 (by decide) rfl inlX12 (by decide) (wm_6 _ (List.mem_of_getElem? (i := 21) rfl)) rfl dX12_asked_47 ?_
      refine lv_iconst (v := (1 : Int32)) hx hb dX12_asked_50 (by decide) ?_
      refine lv_dup2_11 hx hb dX12_asked_51 rfl rfl ?_
      refine x_iald G hH (kt_10_4 _ hk_q6) hq.1 dX12_asked_52 ?_
      have hq := hq.2
      refine lv_iconst (v := (1 : Int32)) hx hb dX12_asked_53 (by decide) ?_
      refine lv_iadd hx hb dX12_asked_54 ?_
      refine x_iast G hH (kt_10_4 _ hk_q6) hq.1 dX12_asked_55 (fun μ21 e_μ21 H locs hH => ?_)
      have hq := hq.2 μ21 e_μ21
      refine lv_bipush (v := (-11 : Int32)) hx hb dX12_asked_56 (by decide) ?_
      exact x_iret G hr hH hq dX12_asked_58
  · have hq := hq.2 c13
    refine lv_aload_n hx hb dX12_asked_24 rfl (lv_at hl 0 rfl) ?_
    refine x_get (j := 4) (C := RX12) (T := TX12) (N := 24) (v := .ref (ad (rt q6 4))) G hH hk_q6 (by decide) rfl inlX12 (by decide) (wm_6 _ (List.mem_of_getElem? (i := 21) rfl)) rfl dX12_asked_25 ?_
    refine lv_iconst (v := (0 : Int32)) hx hb dX12_asked_28 (by decide) ?_
    refine lv_dup2_11 hx hb dX12_asked_29 rfl rfl ?_
    refine x_iald G hH (kt_10_4 _ hk_q6) hq.1 dX12_asked_30 ?_
    have hq := hq.2
    refine lv_iconst (v := (1 : Int32)) hx hb dX12_asked_31 (by decide) ?_
    refine lv_iadd hx hb dX12_asked_32 ?_
    refine x_iast G hH (kt_10_4 _ hk_q6) hq.1 dX12_asked_33 (fun μ22 e_μ22 H locs hH => ?_)
    have hq := hq.2 μ22 e_μ22
    refine lv_bipush (v := (-10 : Int32)) hx hb dX12_asked_34 (by decide) ?_
    exact x_iret G hr hH hq dX12_asked_36
set_option maxRecDepth 100000 in
set_option maxHeartbeats 4000000 in
theorem c_X12_asked (l : Launch) (E : xE) (ad : Nat → Nat) (μ : xM) (q0 : Nat) (p1 : Int32) (p2 : Int32) (p3 : Int32) (hk_q0 : kd q0 = 10) (Qm : Int32 → xM → Prop) (hq : p_X12_asked q0 p1 p2 p3 μ Qm) : xMi l yX12_asked tX12_asked ({ frames := 6, cells := 0, slots := 0, locals := 240 } : Room) E ad μ [.ref (ad q0), .int p1, .int p2, .int p3] Qm := by
  refine x_sti (cc := cX12_asked) (maxL := 4) (ret := (some .int)) (own := RX12) rfl (by decide) rfl (Nat.le_of_ble_eq_true rfl) ?_
  intro p e s m args below meth c ls G hr hA hH hl
  obtain ⟨hx, hb, hml, hown, hts, hKn, hN, hlk⟩ := id G
  have hl : lv_has ls 4 [(0, .ref (ad q0)), (1, .int p1), (2, .int p2), (3, .int p3)] := hl
  have hH : xH E ad (xA ad s.heap.size) s.heap μ s.heap [] := hH
  unfold p_X12_asked at hq
  refine lv_iload_n hx hb dX12_asked_0 rfl (lv_at hl 1 rfl) ?_
  refine lv_iconst (v := (1 : Int32)) hx hb dX12_asked_1 (by decide) ?_
  refine lv_bipush (v := (9 : Int32)) hx hb dX12_asked_2 (by decide) ?_
  refine x_cSi (As := [.int p1, .int (1 : Int32), .int (9 : Int32)]) (rest := []) G hH hA (c_X12_in l E ad μ p1 (1 : Int32) (9 : Int32)  _ hq) (wm_10 _ (List.mem_of_getElem? (i := 23) rfl)) mt_X12_in mn_RX12 mc_X12_in md_X12_in ⟨rfl, rfl, Nat.le_of_ble_eq_true rfl, Nat.le_of_ble_eq_true rfl⟩ rfl hl.1 rfl (Nat.le_of_ble_eq_true rfl) dX12_asked_4 ⟨Nat.zero_le _, Nat.zero_le _⟩ (fun r2 μ1 hq H locs hH => ?_)
  refine lv_if_eq (tgt := 24) hx hb dX12_asked_7 (by decide) (fun c3 => ?_) (fun c3 => ?_)
  · have hq := hq.1 c3
    refine lv_aload_n hx hb dX12_asked_24 rfl (lv_at hl 0 rfl) ?_
    refine x_get (j := 4) (C := RX12) (T := TX12) (N := 24) (v := .ref (ad (rt q0 4))) G hH hk_q0 (by decide) rfl inlX12 (by decide) (wm_6 _ (List.mem_of_getElem? (i := 21) rfl)) rfl dX12_asked_25 ?_
    refine lv_iconst (v := (0 : Int32)) hx hb dX12_asked_28 (by decide) ?_
    refine lv_dup2_11 hx hb dX12_asked_29 rfl rfl ?_
    refine x_iald G hH (kt_10_4 _ hk_q0) hq.1 dX12_asked_30 ?_
    have hq := hq.2
    refine lv_iconst (v := (1 : Int32)) hx hb dX12_asked_31 (by decide) ?_
    refine lv_iadd hx hb dX12_asked_32 ?_
    refine x_iast G hH (kt_10_4 _ hk_q0) hq.1 dX12_asked_33 (fun μ4 e_μ4 H locs hH => ?_)
    have hq := hq.2 μ4 e_μ4
    refine lv_bipush (v := (-10 : Int32)) hx hb dX12_asked_34 (by decide) ?_
    exact x_iret G hr hH hq dX12_asked_36
  · have hq := hq.2 c3
    refine lv_iload_n hx hb dX12_asked_10 rfl (lv_at hl 2 rfl) ?_
    refine lv_iload_n hx hb dX12_asked_11 rfl (lv_at hl 3 rfl) ?_
    refine lv_if_eq (tgt := 20) hx hb dX12_asked_12 (by decide) (fun c5 => ?_) (fun c5 => ?_)
    · have hq := hq.1 c5
      refine lv_iconst (v := (-1 : Int32)) hx hb dX12_asked_20 (by decide) ?_
      exact wj_X12_asked_21 G hA hr  q0 p1 p2 p3 (-1 : Int32) p2  hk_q0 μ1 hq hH (lv_sub hl [0, 1, 2, 3] rfl)
    · have hq := hq.2 c5
      refine lv_bipush (v := (-2 : Int32)) hx hb dX12_asked_15 (by decide) ?_
      refine lv_goto (tgt := 21) hx hb dX12_asked_17 (by decide) ?_
      exact wj_X12_asked_21 G hA hr  q0 p1 p2 p3 (-2 : Int32) p2  hk_q0 μ1 hq hH (lv_sub hl [0, 1, 2, 3] rfl)
abbrev tX12_refuses : List Cond := Cond.code yX12_refuses cX12_refuses 2 (some .int) :: wsL_law
theorem mi_X12_refuses : Cond.instanceMethod yX12_refuses ∈ wsL_law := (wm_11 _ (List.mem_of_getElem? (i := 7) rfl))
theorem ms_X12_refuses : Cond.selects RX12 yX12_refuses yX12_refuses ∈ wsL_law := (wm_11 _ (List.mem_of_getElem? (i := 8) rfl))
theorem mc_X12_refuses : Cond.code yX12_refuses cX12_refuses 2 (some .int) ∈ wsL_law := (wm_11 _ (List.mem_of_getElem? (i := 9) rfl))
theorem md_X12_refuses : yX12_refuses.cls ≠ "java/lang/invoke/MethodHandle" ∧ yX12_refuses.cls ≠ "java/lang/invoke/VarHandle" ∧ (parseMethodDescriptor yX12_refuses.desc).map (fun d => d.parameters.length) = some 1 := by decide +kernel
set_option maxRecDepth 100000 in
set_option maxHeartbeats 4000000 in
theorem c_X12_refuses (l : Launch) (E : xE) (ad : Nat → Nat) (μ : xM) (q0 : Nat) (p1 : Int32) (hk_q0 : kd q0 = 10) (Qm : Int32 → xM → Prop) (hq : p_X12_refuses q0 p1 μ Qm) : xMi l yX12_refuses tX12_refuses ({ frames := 1, cells := 0, slots := 0, locals := 40 } : Room) E ad μ [.ref (ad q0), .int p1] Qm := by
  refine x_sti (cc := cX12_refuses) (maxL := 2) (ret := (some .int)) (own := RX12) rfl (by decide) rfl (Nat.le_of_ble_eq_true rfl) ?_
  intro p e s m args below meth c ls G hr hA hH hl
  obtain ⟨hx, hb, hml, hown, hts, hKn, hN, hlk⟩ := id G
  have hl : lv_has ls 2 [(0, .ref (ad q0)), (1, .int p1)] := hl
  have hH : xH E ad (xA ad s.heap.size) s.heap μ s.heap [] := hH
  unfold p_X12_refuses at hq
  refine lv_aload_n hx hb dX12_refuses_0 rfl (lv_at hl 0 rfl) ?_
  refine x_get (j := 4) (C := RX12) (T := TX12) (N := 24) (v := .ref (ad (rt q0 4))) G hH hk_q0 (by decide) rfl inlX12 (by decide) (wm_6 _ (List.mem_of_getElem? (i := 21) rfl)) rfl dX12_refuses_1 ?_
  refine lv_bipush (v := (-2 : Int32)) hx hb dX12_refuses_4 (by decide) ?_
  refine lv_iload_n hx hb dX12_refuses_6 rfl (lv_at hl 1 rfl) ?_
  refine lv_isub hx hb dX12_refuses_7 ?_
  refine lv_topi (fun v1 e_v1 => ?_)
  have hq := hq v1 e_v1
  refine lv_dup2_11 hx hb dX12_refuses_8 rfl rfl ?_
  refine x_iald G hH (kt_10_4 _ hk_q0) hq.1 dX12_refuses_9 ?_
  have hq := hq.2
  refine lv_iconst (v := (1 : Int32)) hx hb dX12_refuses_10 (by decide) ?_
  refine lv_iadd hx hb dX12_refuses_11 ?_
  refine x_iast G hH (kt_10_4 _ hk_q0) hq.1 dX12_refuses_12 (fun μ2 e_μ2 H locs hH => ?_)
  have hq := hq.2 μ2 e_μ2
  refine lv_iload_n hx hb dX12_refuses_13 rfl (lv_at hl 1 rfl) ?_
  exact x_iret G hr hH hq dX12_refuses_14
abbrev tX12_back : List Cond := Cond.code yX12_back cX12_back 2 (some .int) :: wsL_law
theorem mi_X12_back : Cond.instanceMethod yX12_back ∈ wsL_law := (wm_36 _ (List.mem_of_getElem? (i := 9) rfl))
theorem ms_X12_back : Cond.selects RX12 yX12_back yX12_back ∈ wsL_law := (wm_36 _ (List.mem_of_getElem? (i := 10) rfl))
theorem mc_X12_back : Cond.code yX12_back cX12_back 2 (some .int) ∈ wsL_law := (wm_36 _ (List.mem_of_getElem? (i := 11) rfl))
theorem md_X12_back : yX12_back.cls ≠ "java/lang/invoke/MethodHandle" ∧ yX12_back.cls ≠ "java/lang/invoke/VarHandle" ∧ (parseMethodDescriptor yX12_back.desc).map (fun d => d.parameters.length) = some 0 := by decide +kernel
set_option maxRecDepth 100000 in
set_option maxHeartbeats 4000000 in
theorem wb_X12_back_26 {E : xE} {ad : Nat → Nat} {p : Program} {l : Launch} {e : Env} {s : State} {m : MethodId} {args : Array Value} {below : List Frame} {meth : Method} {c : Code} {Q : State → Prop} (G : xG E p s m args meth c cX12_back 2 RX12) (hA : ∀ a, s.heap.size ≤ a → xA ad s.heap.size a) (q3 : Nat) (hk_q3 : kd q3 = 10) (a4 : Int32) (μ6 : xM) (K260 : xM → Prop) (K26b : Int32 → xM → Prop) (hq : B_X12_back_26 q3 a4 μ6 K260 K26b) {H : Heap} {locs : List Loc} {ls : Array Slot} (hH : xH E ad (xA ad s.heap.size) s.heap μ6 H locs) (hl : lv_has ls 2 [(0, .ref (ad q3)), (1, .int a4)]) (kK260 : ∀ (μ7 : xM), K260  μ7 → ∀ (H : Heap) (locs : List Loc) (ls : Array Slot), xH E ad (xA ad s.heap.size) s.heap μ7 H locs → lv_has ls 2 [(0, .ref (ad q3))] → W p l e (headSpec tX12_back ({ frames := 2, cells := 0, slots := 0, locals := 80 } : Room)).room s m args below meth c H locs 0 0 Q (F0 m 60 ls [])) (kK26b : ∀ (a8 : Int32) (μ9 : xM), K26b a8 μ9 → ∀ (H : Heap) (locs : List Loc) (ls : Array Slot), xH E ad (xA ad s.heap.size) s.heap μ9 H locs → lv_has ls 2 [(0, .ref (ad q3)), (1, .int a8)] → W p l e (headSpec tX12_back ({ frames := 2, cells := 0, slots := 0, locals := 80 } : Room)).room s m args below meth c H locs 0 0 Q (F0 m 26 ls [])) : W p l e (headSpec tX12_back ({ frames := 2, cells := 0, slots := 0, locals := 80 } : Room)).room s m args below meth c H locs 0 0 Q (F0 m 26 ls []) := by
  obtain ⟨hx, hb, hml, hown, hts, hKn, hN, hlk⟩ := id G
  unfold B_X12_back_26 at hq
  refine lv_iload_n hx hb dX12_back_26 rfl (lv_at hl 1 rfl) ?_
  refine lv_sipush (v := (131 : Int32)) hx hb dX12_back_27 (by decide) ?_
  refine lv_icmp_ge (tgt := 60) hx hb dX12_back_30 (by decide) (fun c10 => ?_) (fun c10 => ?_)
  · have hq := hq.1 c10
    exact kK260  μ6 hq _ _ _ hH (lv_sub hl [0] rfl)
  · have hq := hq.2 c10
    refine lv_aload_n hx hb dX12_back_33 rfl (lv_at hl 0 rfl) ?_
    refine x_get (j := 0) (C := RX12) (T := TX12) (N := 24) (v := .ref (ad (rt q3 0))) G hH hk_q3 (by decide) rfl inlX12 (by decide) (wm_6 _ (List.mem_of_getElem? (i := 18) rfl)) rfl dX12_back_34 ?_
    refine lv_iload_n hx hb dX12_back_37 rfl (lv_at hl 1 rfl) ?_
    refine lv_aload_n hx hb dX12_back_38 rfl (lv_at hl 0 rfl) ?_
    refine x_get (j := 2) (C := RX12) (T := TX12) (N := 24) (v := .ref (ad (rt q3 2))) G hH hk_q3 (by decide) rfl inlX12 (by decide) (wm_6 _ (List.mem_of_getElem? (i := 20) rfl)) rfl dX12_back_39 ?_
    refine lv_sipush (v := (131 : Int32)) hx hb dX12_back_42 (by decide) ?_
    refine lv_aload_n hx hb dX12_back_45 rfl (lv_at hl 0 rfl) ?_
    refine x_get (j := 3) (C := RX12) (T := TX12) (N := 24) (v := .int (μ6.1 q3 3)) G hH hk_q3 (by decide) rfl inlX12 (by decide) (wm_7 _ (List.mem_of_getElem? (i := 9) rfl)) rfl dX12_back_46 ?_
    refine lv_imul hx hb dX12_back_49 ?_
    refine lv_iload_n hx hb dX12_back_50 rfl (lv_at hl 1 rfl) ?_
    refine lv_iadd hx hb dX12_back_51 ?_
    refine x_iald G hH (kt_10_2 _ hk_q3) hq.1 dX12_back_52 ?_
    have hq := hq.2
    refine x_iast G hH (kt_10_0 _ hk_q3) hq.1 dX12_back_53 (fun μ11 e_μ11 H locs hH => ?_)
    have hq := hq.2 μ11 e_μ11
    obtain ⟨v12, e_v12⟩ : ∃ y : Int32, y = (a4 + (1 : Int32)) := ⟨_, rfl⟩
    have hq := hq v12 e_v12
    refine lv_iinc (v := v12) (lv' := [(1, .int v12), (0, .ref (ad q3))]) hx hb dX12_back_54 hl (k := 1) rfl (by rw [e_v12]; rfl) (by decide) rfl (fun ls hl => ?_)
    refine lv_goto (tgt := 26) hx hb dX12_back_57 (by decide) ?_
    exact kK26b v12 μ11 hq _ _ _ hH (lv_sub hl [1, 0] rfl)
set_option maxRecDepth 100000 in
set_option maxHeartbeats 4000000 in
theorem w_X12_back_26 {E : xE} {ad : Nat → Nat} {p : Program} {l : Launch} {e : Env} {s : State} {m : MethodId} {args : Array Value} {below : List Frame} {meth : Method} {c : Code} {Q : State → Prop} (G : xG E p s m args meth c cX12_back 2 RX12) (hA : ∀ a, s.heap.size ≤ a → xA ad s.heap.size a) (q3 : Nat) (hk_q3 : kd q3 = 10) : ∀ (n : Nat) (a4 : Int32) (μ6 : xM) (K260 : xM → Prop) (hq : L_X12_back_26 q3 n a4 μ6 K260) (H : Heap) (locs : List Loc) (ls : Array Slot) (hH : xH E ad (xA ad s.heap.size) s.heap μ6 H locs) (hl : lv_has ls 2 [(0, .ref (ad q3)), (1, .int a4)]) (kK260 : ∀ (μ7 : xM), K260  μ7 → ∀ (H : Heap) (locs : List Loc) (ls : Array Slot), xH E ad (xA ad s.heap.size) s.heap μ7 H locs → lv_has ls 2 [(0, .ref (ad q3))] → W p l e (headSpec tX12_back ({ frames := 2, cells := 0, slots := 0, locals := 80 } : Room)).room s m args below meth c H locs 0 0 Q (F0 m 60 ls [])) , W p l e (headSpec tX12_back ({ frames := 2, cells := 0, slots := 0, locals := 80 } : Room)).room s m args below meth c H locs 0 0 Q (F0 m 26 ls [])
  | 0, _, _, _, hq, _, _, _, _, _, _ => hq.elim
  | n + 1, a4, μ6, K260, hq, H, locs, ls, hH, hl, kK260 => wb_X12_back_26 G hA q3 hk_q3 a4 μ6 K260 _ hq hH hl kK260 (fun x0 y hq H locs ls hH hl => w_X12_back_26 G hA q3 hk_q3 n x0 y K260 hq H locs ls hH hl kK260)
set_option maxRecDepth 100000 in
set_option maxHeartbeats 4000000 in
theorem c_X12_back (l : Launch) (E : xE) (ad : Nat → Nat) (μ : xM) (q0 : Nat) (hk_q0 : kd q0 = 10) (Qm : Int32 → xM → Prop) (hq : p_X12_back q0 μ Qm) : xMi l yX12_back tX12_back ({ frames := 2, cells := 0, slots := 0, locals := 80 } : Room) E ad μ [.ref (ad q0)] Qm := by
  refine x_sti (cc := cX12_back) (maxL := 2) (ret := (some .int)) (own := RX12) rfl (by decide) rfl (Nat.le_of_ble_eq_true rfl) ?_
  intro p e s m args below meth c ls G hr hA hH hl
  obtain ⟨hx, hb, hml, hown, hts, hKn, hN, hlk⟩ := id G
  have hl : lv_has ls 2 [(0, .ref (ad q0))] := hl
  have hH : xH E ad (xA ad s.heap.size) s.heap μ s.heap [] := hH
  unfold p_X12_back at hq
  refine lv_aload_n hx hb dX12_back_0 rfl (lv_at hl 0 rfl) ?_
  refine x_get (j := 3) (C := RX12) (T := TX12) (N := 24) (v := .int (μ.1 q0 3)) G hH hk_q0 (by decide) rfl inlX12 (by decide) (wm_7 _ (List.mem_of_getElem? (i := 9) rfl)) rfl dX12_back_1 ?_
  refine lv_if_ne (tgt := 14) hx hb dX12_back_4 (by decide) (fun c1 => ?_) (fun c1 => ?_)
  · have hq := hq.1 c1
    refine lv_aload_n hx hb dX12_back_14 rfl (lv_at hl 0 rfl) ?_
    refine lv_dup hx hb dX12_back_15 rfl ?_
    refine x_get (j := 3) (C := RX12) (T := TX12) (N := 24) (v := .int (μ.1 q0 3)) G hH hk_q0 (by decide) rfl inlX12 (by decide) (wm_7 _ (List.mem_of_getElem? (i := 9) rfl)) rfl dX12_back_16 ?_
    refine lv_iconst (v := (1 : Int32)) hx hb dX12_back_19 (by decide) ?_
    refine lv_isub hx hb dX12_back_20 ?_
    refine x_puti (j := 3) (C := RX12) (T := TX12) (N := 24) (ty := .int) G hH hk_q0 (by decide) rfl inlX12 tyX12 tyX12_ok nmX12 (by decide) (wm_7 _ (List.mem_of_getElem? (i := 9) rfl)) rfl (by decide +kernel) rfl rfl (fun _ _ => Nat.le_of_ble_eq_true rfl) (fun _ _ => rfl) dX12_back_21 (fun μ2 e_μ2 H locs hH => ?_)
    have hq := hq μ2 e_μ2
    refine lv_iconst (v := (0 : Int32)) hx hb dX12_back_24 (by decide) ?_
    refine lv_istore_n (lv' := [(1, .int (0 : Int32)), (0, .ref (ad q0))]) hx hb dX12_back_25 rfl hl (by decide) rfl (fun ls hl => ?_)
    obtain ⟨n5, hq⟩ := hq
    refine w_X12_back_26 G hA q0 hk_q0 n5 (0 : Int32) μ2 _ hq _ _ _ hH (lv_sub hl [1, 0] rfl) (fun  μ13 hq H locs ls hH hl => ?_)
    refine lv_aload_n hx hb dX12_back_60 rfl (lv_at hl 0 rfl) ?_
    refine x_get (j := 3) (C := RX12) (T := TX12) (N := 24) (v := .int (μ13.1 q0 3)) G hH hk_q0 (by decide) rfl inlX12 (by decide) (wm_7 _ (List.mem_of_getElem? (i := 9) rfl)) rfl dX12_back_61 ?_
    exact x_iret G hr hH hq dX12_back_64
  · have hq := hq.2 c1
    refine lv_aload_n hx hb dX12_back_7 rfl (lv_at hl 0 rfl) ?_
    refine lv_bipush (v := (-3 : Int32)) hx hb dX12_back_8 (by decide) ?_
    refine x_cVi (C := RX12) (T := TX12) (N := 24) (As := [.int (-3 : Int32)]) (rest := []) G hH hA (c_X12_refuses l E ad μ q0 (-3 : Int32) hk_q0 _ hq) (wm_11 _ (List.mem_of_getElem? (i := 6) rfl)) mi_X12_refuses ms_X12_refuses mn_RX12 mc_X12_refuses rfl md_X12_refuses ⟨rfl, rfl, Nat.le_of_ble_eq_true rfl, Nat.le_of_ble_eq_true rfl⟩ hk_q0 (by decide) rfl rfl hl.1 rfl (Nat.le_of_ble_eq_true rfl) dX12_back_10 ⟨Nat.zero_le _, Nat.zero_le _⟩ (fun r15 μ14 hq H locs hH => ?_)
    exact x_iret G hr hH hq dX12_back_13
abbrev tX12_hold : List Cond := Cond.code yX12_hold cX12_hold 2 none :: wsL_law
theorem mi_X12_hold : Cond.instanceMethod yX12_hold ∈ wsL_law := (wm_10 _ (List.mem_of_getElem? (i := 15) rfl))
theorem ms_X12_hold : Cond.selects RX12 yX12_hold yX12_hold ∈ wsL_law := (wm_10 _ (List.mem_of_getElem? (i := 16) rfl))
theorem mc_X12_hold : Cond.code yX12_hold cX12_hold 2 none ∈ wsL_law := (wm_10 _ (List.mem_of_getElem? (i := 17) rfl))
theorem md_X12_hold : yX12_hold.cls ≠ "java/lang/invoke/MethodHandle" ∧ yX12_hold.cls ≠ "java/lang/invoke/VarHandle" ∧ (parseMethodDescriptor yX12_hold.desc).map (fun d => d.parameters.length) = some 0 := by decide +kernel
set_option maxRecDepth 100000 in
set_option maxHeartbeats 4000000 in
theorem wb_X12_hold_2 {E : xE} {ad : Nat → Nat} {p : Program} {l : Launch} {e : Env} {s : State} {m : MethodId} {args : Array Value} {below : List Frame} {meth : Method} {c : Code} {Q : State → Prop} (G : xG E p s m args meth c cX12_hold 2 RX12) (hA : ∀ a, s.heap.size ≤ a → xA ad s.heap.size a) (q1 : Nat) (hk_q1 : kd q1 = 10) (a2 : Int32) (μ4 : xM) (K20 : xM → Prop) (K2b : Int32 → xM → Prop) (hq : B_X12_hold_2 q1 a2 μ4 K20 K2b) {H : Heap} {locs : List Loc} {ls : Array Slot} (hH : xH E ad (xA ad s.heap.size) s.heap μ4 H locs) (hl : lv_has ls 2 [(0, .ref (ad q1)), (1, .int a2)]) (kK20 : ∀ (μ5 : xM), K20  μ5 → ∀ (H : Heap) (locs : List Loc) (ls : Array Slot), xH E ad (xA ad s.heap.size) s.heap μ5 H locs → lv_has ls 2 [] → W p l e (headSpec tX12_hold ({ frames := 1, cells := 0, slots := 0, locals := 40 } : Room)).room s m args below meth c H locs 0 0 Q (F0 m 27 ls [])) (kK2b : ∀ (a6 : Int32) (μ7 : xM), K2b a6 μ7 → ∀ (H : Heap) (locs : List Loc) (ls : Array Slot), xH E ad (xA ad s.heap.size) s.heap μ7 H locs → lv_has ls 2 [(0, .ref (ad q1)), (1, .int a6)] → W p l e (headSpec tX12_hold ({ frames := 1, cells := 0, slots := 0, locals := 40 } : Room)).room s m args below meth c H locs 0 0 Q (F0 m 2 ls [])) : W p l e (headSpec tX12_hold ({ frames := 1, cells := 0, slots := 0, locals := 40 } : Room)).room s m args below meth c H locs 0 0 Q (F0 m 2 ls []) := by
  obtain ⟨hx, hb, hml, hown, hts, hKn, hN, hlk⟩ := id G
  unfold B_X12_hold_2 at hq
  refine lv_iload_n hx hb dX12_hold_2 rfl (lv_at hl 1 rfl) ?_
  refine lv_sipush (v := (131 : Int32)) hx hb dX12_hold_3 (by decide) ?_
  refine lv_icmp_ge (tgt := 27) hx hb dX12_hold_6 (by decide) (fun c8 => ?_) (fun c8 => ?_)
  · have hq := hq.1 c8
    exact kK20  μ4 hq _ _ _ hH (lv_sub hl [] rfl)
  · have hq := hq.2 c8
    refine lv_aload_n hx hb dX12_hold_9 rfl (lv_at hl 0 rfl) ?_
    refine x_get (j := 1) (C := RX12) (T := TX12) (N := 24) (v := .ref (ad (rt q1 1))) G hH hk_q1 (by decide) rfl inlX12 (by decide) (wm_6 _ (List.mem_of_getElem? (i := 19) rfl)) rfl dX12_hold_10 ?_
    refine lv_iload_n hx hb dX12_hold_13 rfl (lv_at hl 1 rfl) ?_
    refine lv_aload_n hx hb dX12_hold_14 rfl (lv_at hl 0 rfl) ?_
    refine x_get (j := 0) (C := RX12) (T := TX12) (N := 24) (v := .ref (ad (rt q1 0))) G hH hk_q1 (by decide) rfl inlX12 (by decide) (wm_6 _ (List.mem_of_getElem? (i := 18) rfl)) rfl dX12_hold_15 ?_
    refine lv_iload_n hx hb dX12_hold_18 rfl (lv_at hl 1 rfl) ?_
    refine x_iald G hH (kt_10_0 _ hk_q1) hq.1 dX12_hold_19 ?_
    have hq := hq.2
    refine x_iast G hH (kt_10_1 _ hk_q1) hq.1 dX12_hold_20 (fun μ9 e_μ9 H locs hH => ?_)
    have hq := hq.2 μ9 e_μ9
    obtain ⟨v10, e_v10⟩ : ∃ y : Int32, y = (a2 + (1 : Int32)) := ⟨_, rfl⟩
    have hq := hq v10 e_v10
    refine lv_iinc (v := v10) (lv' := [(1, .int v10), (0, .ref (ad q1))]) hx hb dX12_hold_21 hl (k := 1) rfl (by rw [e_v10]; rfl) (by decide) rfl (fun ls hl => ?_)
    refine lv_goto (tgt := 2) hx hb dX12_hold_24 (by decide) ?_
    exact kK2b v10 μ9 hq _ _ _ hH (lv_sub hl [1, 0] rfl)
set_option maxRecDepth 100000 in
set_option maxHeartbeats 4000000 in
theorem w_X12_hold_2 {E : xE} {ad : Nat → Nat} {p : Program} {l : Launch} {e : Env} {s : State} {m : MethodId} {args : Array Value} {below : List Frame} {meth : Method} {c : Code} {Q : State → Prop} (G : xG E p s m args meth c cX12_hold 2 RX12) (hA : ∀ a, s.heap.size ≤ a → xA ad s.heap.size a) (q1 : Nat) (hk_q1 : kd q1 = 10) : ∀ (n : Nat) (a2 : Int32) (μ4 : xM) (K20 : xM → Prop) (hq : L_X12_hold_2 q1 n a2 μ4 K20) (H : Heap) (locs : List Loc) (ls : Array Slot) (hH : xH E ad (xA ad s.heap.size) s.heap μ4 H locs) (hl : lv_has ls 2 [(0, .ref (ad q1)), (1, .int a2)]) (kK20 : ∀ (μ5 : xM), K20  μ5 → ∀ (H : Heap) (locs : List Loc) (ls : Array Slot), xH E ad (xA ad s.heap.size) s.heap μ5 H locs → lv_has ls 2 [] → W p l e (headSpec tX12_hold ({ frames := 1, cells := 0, slots := 0, locals := 40 } : Room)).room s m args below meth c H locs 0 0 Q (F0 m 27 ls [])) , W p l e (headSpec tX12_hold ({ frames := 1, cells := 0, slots := 0, locals := 40 } : Room)).room s m args below meth c H locs 0 0 Q (F0 m 2 ls [])
  | 0, _, _, _, hq, _, _, _, _, _, _ => hq.elim
  | n + 1, a2, μ4, K20, hq, H, locs, ls, hH, hl, kK20 => wb_X12_hold_2 G hA q1 hk_q1 a2 μ4 K20 _ hq hH hl kK20 (fun x0 y hq H locs ls hH hl => w_X12_hold_2 G hA q1 hk_q1 n x0 y K20 hq H locs ls hH hl kK20)
set_option maxRecDepth 100000 in
set_option maxHeartbeats 4000000 in
theorem c_X12_hold (l : Launch) (E : xE) (ad : Nat → Nat) (μ : xM) (q0 : Nat) (hk_q0 : kd q0 = 10) (Qm : xM → Prop) (hq : p_X12_hold q0 μ Qm) : xMv l yX12_hold tX12_hold ({ frames := 1, cells := 0, slots := 0, locals := 40 } : Room) E ad μ [.ref (ad q0)] Qm := by
  refine x_stv (cc := cX12_hold) (maxL := 2) (ret := none) (own := RX12) rfl (by decide) rfl (Nat.le_of_ble_eq_true rfl) ?_
  intro p e s m args below meth c ls G hr hA hH hl
  obtain ⟨hx, hb, hml, hown, hts, hKn, hN, hlk⟩ := id G
  have hl : lv_has ls 2 [(0, .ref (ad q0))] := hl
  have hH : xH E ad (xA ad s.heap.size) s.heap μ s.heap [] := hH
  unfold p_X12_hold at hq
  refine lv_iconst (v := (0 : Int32)) hx hb dX12_hold_0 (by decide) ?_
  refine lv_istore_n (lv' := [(1, .int (0 : Int32)), (0, .ref (ad q0))]) hx hb dX12_hold_1 rfl hl (by decide) rfl (fun ls hl => ?_)
  obtain ⟨n3, hq⟩ := hq
  refine w_X12_hold_2 G hA q0 hk_q0 n3 (0 : Int32) μ _ hq _ _ _ hH (lv_sub hl [1, 0] rfl) (fun  μ11 hq H locs ls hH hl => ?_)
  exact x_vret G hr hH hq dX12_hold_27
abbrev tX12_isBlock : List Cond := Cond.code yX12_isBlock cX12_isBlock 2 (some .boolean) :: wsL_law
theorem mi_X12_isBlock : Cond.instanceMethod yX12_isBlock ∈ wsL_law := (wm_12 _ (List.mem_of_getElem? (i := 23) rfl))
theorem ms_X12_isBlock : Cond.selects RX12 yX12_isBlock yX12_isBlock ∈ wsL_law := (wm_13 _ (List.mem_of_getElem? (i := 0) rfl))
theorem mc_X12_isBlock : Cond.code yX12_isBlock cX12_isBlock 2 (some .boolean) ∈ wsL_law := (wm_13 _ (List.mem_of_getElem? (i := 1) rfl))
theorem md_X12_isBlock : yX12_isBlock.cls ≠ "java/lang/invoke/MethodHandle" ∧ yX12_isBlock.cls ≠ "java/lang/invoke/VarHandle" ∧ (parseMethodDescriptor yX12_isBlock.desc).map (fun d => d.parameters.length) = some 1 := by decide +kernel
set_option maxRecDepth 100000 in
set_option maxHeartbeats 4000000 in
theorem c_X12_isBlock (l : Launch) (E : xE) (ad : Nat → Nat) (μ : xM) (q0 : Nat) (p1 : Int32) (hk_q0 : kd q0 = 10) (Qm : Int32 → xM → Prop) (hq : p_X12_isBlock q0 p1 μ Qm) : xMi l yX12_isBlock tX12_isBlock ({ frames := 2, cells := 0, slots := 0, locals := 80 } : Room) E ad μ [.ref (ad q0), .int p1] Qm := by
  refine x_sti (cc := cX12_isBlock) (maxL := 2) (ret := (some .boolean)) (own := RX12) rfl (by decide) rfl (Nat.le_of_ble_eq_true rfl) ?_
  intro p e s m args below meth c ls G hr hA hH hl
  obtain ⟨hx, hb, hml, hown, hts, hKn, hN, hlk⟩ := id G
  have hl : lv_has ls 2 [(0, .ref (ad q0)), (1, .int p1)] := hl
  have hH : xH E ad (xA ad s.heap.size) s.heap μ s.heap [] := hH
  unfold p_X12_isBlock at hq
  refine lv_iload_n hx hb dX12_isBlock_0 rfl (lv_at hl 1 rfl) ?_
  refine lv_iconst (v := (0 : Int32)) hx hb dX12_isBlock_1 (by decide) ?_
  refine lv_aload_n hx hb dX12_isBlock_2 rfl (lv_at hl 0 rfl) ?_
  refine x_get (j := 0) (C := RX12) (T := TX12) (N := 24) (v := .ref (ad (rt q0 0))) G hH hk_q0 (by decide) rfl inlX12 (by decide) (wm_6 _ (List.mem_of_getElem? (i := 18) rfl)) rfl dX12_isBlock_3 ?_
  refine lv_iconst (v := (0 : Int32)) hx hb dX12_isBlock_6 (by decide) ?_
  refine x_iald G hH (kt_10_0 _ hk_q0) hq.1 dX12_isBlock_7 ?_
  have hq := hq.2
  refine lv_iconst (v := (1 : Int32)) hx hb dX12_isBlock_8 (by decide) ?_
  refine lv_isub hx hb dX12_isBlock_9 ?_
  refine x_cSi (As := [.int p1, .int (0 : Int32), .int ((μ.1 (rt q0 0) (0 : Int32).toNatClampNeg) - (1 : Int32))]) (rest := []) G hH hA (c_X12_in l E ad μ p1 (0 : Int32) ((μ.1 (rt q0 0) (0 : Int32).toNatClampNeg) - (1 : Int32))  _ hq) (wm_10 _ (List.mem_of_getElem? (i := 23) rfl)) mt_X12_in mn_RX12 mc_X12_in md_X12_in ⟨rfl, rfl, Nat.le_of_ble_eq_true rfl, Nat.le_of_ble_eq_true rfl⟩ rfl hl.1 rfl (Nat.le_of_ble_eq_true rfl) dX12_isBlock_10 ⟨Nat.zero_le _, Nat.zero_le _⟩ (fun r2 μ1 hq H locs hH => ?_)
  exact x_zret G hr hH hq.1 hq.2 dX12_isBlock_13
abbrev tX12_doBehind : List Cond := Cond.code yX12_doBehind cX12_doBehind 6 (some .int) :: wsL_law
theorem mi_X12_doBehind : Cond.instanceMethod yX12_doBehind ∈ wsL_law := (wm_14 _ (List.mem_of_getElem? (i := 17) rfl))
theorem ms_X12_doBehind : Cond.selects RX12 yX12_doBehind yX12_doBehind ∈ wsL_law := (wm_14 _ (List.mem_of_getElem? (i := 18) rfl))
theorem mc_X12_doBehind : Cond.code yX12_doBehind cX12_doBehind 6 (some .int) ∈ wsL_law := (wm_14 _ (List.mem_of_getElem? (i := 19) rfl))
theorem md_X12_doBehind : yX12_doBehind.cls ≠ "java/lang/invoke/MethodHandle" ∧ yX12_doBehind.cls ≠ "java/lang/invoke/VarHandle" ∧ (parseMethodDescriptor yX12_doBehind.desc).map (fun d => d.parameters.length) = some 3 := by decide +kernel
set_option maxRecDepth 100000 in
set_option maxHeartbeats 4000000 in
theorem c_X12_doBehind (l : Launch) (E : xE) (ad : Nat → Nat) (μ : xM) (q0 : Nat) (p1 : Int32) (p2 : Int32) (p3 : Int32) (hk_q0 : kd q0 = 10) (Qm : Int32 → xM → Prop) (hq : p_X12_doBehind q0 p1 p2 p3 μ Qm) : xMi l yX12_doBehind tX12_doBehind ({ frames := 3, cells := 0, slots := 0, locals := 120 } : Room) E ad μ [.ref (ad q0), .int p1, .int p2, .int p3] Qm := by
  refine x_sti (cc := cX12_doBehind) (maxL := 6) (ret := (some .int)) (own := RX12) rfl (by decide) rfl (Nat.le_of_ble_eq_true rfl) ?_
  intro p e s m args below meth c ls G hr hA hH hl
  obtain ⟨hx, hb, hml, hown, hts, hKn, hN, hlk⟩ := id G
  have hl : lv_has ls 6 [(0, .ref (ad q0)), (1, .int p1), (2, .int p2), (3, .int p3)] := hl
  have hH : xH E ad (xA ad s.heap.size) s.heap μ s.heap [] := hH
  unfold p_X12_doBehind at hq
  refine lv_aload_n hx hb dX12_doBehind_0 rfl (lv_at hl 0 rfl) ?_
  refine lv_iload_n hx hb dX12_doBehind_1 rfl (lv_at hl 1 rfl) ?_
  refine x_cVi (C := RX12) (T := TX12) (N := 24) (As := [.int p1]) (rest := []) G hH hA (c_X12_isBlock l E ad μ q0 p1 hk_q0 _ hq) (wm_12 _ (List.mem_of_getElem? (i := 22) rfl)) mi_X12_isBlock ms_X12_isBlock mn_RX12 mc_X12_isBlock rfl md_X12_isBlock ⟨rfl, rfl, Nat.le_of_ble_eq_true rfl, Nat.le_of_ble_eq_true rfl⟩ hk_q0 (by decide) rfl rfl hl.1 rfl (Nat.le_of_ble_eq_true rfl) dX12_doBehind_2 ⟨Nat.zero_le _, Nat.zero_le _⟩ (fun r2 μ1 hq H locs hH => ?_)
  refine lv_if_eq (tgt := 30) hx hb dX12_doBehind_5 (by decide) (fun c3 => ?_) (fun c3 => ?_)
  · have hq := hq.1 c3
    refine lv_bipush (v := (-2 : Int32)) hx hb dX12_doBehind_30 (by decide) ?_
    exact x_iret G hr hH hq dX12_doBehind_32
  · have hq := hq.2 c3
    refine lv_aload_n hx hb dX12_doBehind_8 rfl (lv_at hl 0 rfl) ?_
    refine lv_iload_n hx hb dX12_doBehind_9 rfl (lv_at hl 2 rfl) ?_
    refine x_cVi (C := RX12) (T := TX12) (N := 24) (As := [.int p2]) (rest := []) G hH hA (c_X12_isBlock l E ad μ1 q0 p2 hk_q0 _ hq) (wm_12 _ (List.mem_of_getElem? (i := 22) rfl)) mi_X12_isBlock ms_X12_isBlock mn_RX12 mc_X12_isBlock rfl md_X12_isBlock ⟨rfl, rfl, Nat.le_of_ble_eq_true rfl, Nat.le_of_ble_eq_true rfl⟩ hk_q0 (by decide) rfl rfl hl.1 rfl (Nat.le_of_ble_eq_true rfl) dX12_doBehind_10 ⟨Nat.zero_le _, Nat.zero_le _⟩ (fun r5 μ4 hq H locs hH => ?_)
    refine lv_if_eq (tgt := 30) hx hb dX12_doBehind_13 (by decide) (fun c6 => ?_) (fun c6 => ?_)
    · have hq := hq.1 c6
      refine lv_bipush (v := (-2 : Int32)) hx hb dX12_doBehind_30 (by decide) ?_
      exact x_iret G hr hH hq dX12_doBehind_32
    · have hq := hq.2 c6
      refine lv_iload_n hx hb dX12_doBehind_16 rfl (lv_at hl 1 rfl) ?_
      refine lv_iload_n hx hb dX12_doBehind_17 rfl (lv_at hl 2 rfl) ?_
      refine lv_icmp_eq (tgt := 30) hx hb dX12_doBehind_18 (by decide) (fun c7 => ?_) (fun c7 => ?_)
      · have hq := hq.1 c7
        refine lv_bipush (v := (-2 : Int32)) hx hb dX12_doBehind_30 (by decide) ?_
        exact x_iret G hr hH hq dX12_doBehind_32
      · have hq := hq.2 c7
        refine lv_iload_n hx hb dX12_doBehind_21 rfl (lv_at hl 3 rfl) ?_
        refine lv_iconst (v := (0 : Int32)) hx hb dX12_doBehind_22 (by decide) ?_
        refine lv_iconst (v := (1 : Int32)) hx hb dX12_doBehind_23 (by decide) ?_
        refine x_cSi (As := [.int p3, .int (0 : Int32), .int (1 : Int32)]) (rest := []) G hH hA (c_X12_in l E ad μ4 p3 (0 : Int32) (1 : Int32)  _ hq) (wm_10 _ (List.mem_of_getElem? (i := 23) rfl)) mt_X12_in mn_RX12 mc_X12_in md_X12_in ⟨rfl, rfl, Nat.le_of_ble_eq_true rfl, Nat.le_of_ble_eq_true rfl⟩ rfl hl.1 rfl (Nat.le_of_ble_eq_true rfl) dX12_doBehind_24 ⟨Nat.zero_le _, Nat.zero_le _⟩ (fun r9 μ8 hq H locs hH => ?_)
        refine lv_if_ne (tgt := 33) hx hb dX12_doBehind_27 (by decide) (fun c10 => ?_) (fun c10 => ?_)
        · have hq := hq.1 c10
          refine lv_iconst (v := (1 : Int32)) hx hb dX12_doBehind_33 (by decide) ?_
          refine lv_bipush (v := (7 : Int32)) hx hb dX12_doBehind_34 (by decide) ?_
          refine lv_iload_n hx hb dX12_doBehind_36 rfl (lv_at hl 1 rfl) ?_
          refine lv_imul hx hb dX12_doBehind_37 ?_
          refine lv_iadd hx hb dX12_doBehind_38 ?_
          refine lv_bipush (v := (6 : Int32)) hx hb dX12_doBehind_39 (by decide) ?_
          refine lv_iadd hx hb dX12_doBehind_41 ?_
          refine lv_topi (fun v11 e_v11 => ?_)
          have hq := hq v11 e_v11
          refine lv_istore (lv' := [(4, .int v11), (0, .ref (ad q0)), (1, .int p1), (2, .int p2), (3, .int p3)]) hx hb dX12_doBehind_42 hl (by decide) rfl (fun ls hl => ?_)
          refine lv_aload_n hx hb dX12_doBehind_44 rfl (lv_at hl 1 rfl) ?_
          refine x_get (j := 0) (C := RX12) (T := TX12) (N := 24) (v := .ref (ad (rt q0 0))) G hH hk_q0 (by decide) rfl inlX12 (by decide) (wm_6 _ (List.mem_of_getElem? (i := 18) rfl)) rfl dX12_doBehind_45 ?_
          refine lv_iload hx hb dX12_doBehind_48 (lv_at hl 0 rfl) ?_
          refine x_iald G hH (kt_10_0 _ hk_q0) hq.1 dX12_doBehind_50 ?_
          have hq := hq.2
          refine lv_iload_n hx hb dX12_doBehind_51 rfl (lv_at hl 3 rfl) ?_
          refine lv_ishr hx hb dX12_doBehind_52 ?_
          refine lv_iconst (v := (1 : Int32)) hx hb dX12_doBehind_53 (by decide) ?_
          refine lv_iand hx hb dX12_doBehind_54 ?_
          refine lv_topi (fun v12 e_v12 => ?_)
          have hq := hq v12 e_v12
          refine lv_istore (lv' := [(5, .int v12), (4, .int v11), (0, .ref (ad q0)), (1, .int p1), (2, .int p2), (3, .int p3)]) hx hb dX12_doBehind_55 hl (by decide) rfl (fun ls hl => ?_)
          refine lv_aload_n hx hb dX12_doBehind_57 rfl (lv_at hl 2 rfl) ?_
          refine x_get (j := 0) (C := RX12) (T := TX12) (N := 24) (v := .ref (ad (rt q0 0))) G hH hk_q0 (by decide) rfl inlX12 (by decide) (wm_6 _ (List.mem_of_getElem? (i := 18) rfl)) rfl dX12_doBehind_58 ?_
          refine lv_iload hx hb dX12_doBehind_61 (lv_at hl 1 rfl) ?_
          refine lv_aload_n hx hb dX12_doBehind_63 rfl (lv_at hl 2 rfl) ?_
          refine x_get (j := 0) (C := RX12) (T := TX12) (N := 24) (v := .ref (ad (rt q0 0))) G hH hk_q0 (by decide) rfl inlX12 (by decide) (wm_6 _ (List.mem_of_getElem? (i := 18) rfl)) rfl dX12_doBehind_64 ?_
          refine lv_iload hx hb dX12_doBehind_67 (lv_at hl 1 rfl) ?_
          refine x_iald G hH (kt_10_0 _ hk_q0) hq.1 dX12_doBehind_69 ?_
          have hq := hq.2
          refine lv_iconst (v := (1 : Int32)) hx hb dX12_doBehind_70 (by decide) ?_
          refine lv_iload_n hx hb dX12_doBehind_71 rfl (lv_at hl 4 rfl) ?_
          refine lv_ishl hx hb dX12_doBehind_72 ?_
          refine lv_iconst (v := (-1 : Int32)) hx hb dX12_doBehind_73 (by decide) ?_
          refine lv_ixor hx hb dX12_doBehind_74 ?_
          refine lv_iand hx hb dX12_doBehind_75 ?_
          refine lv_iload_n hx hb dX12_doBehind_76 rfl (lv_at hl 5 rfl) ?_
          refine lv_iload_n hx hb dX12_doBehind_77 rfl (lv_at hl 4 rfl) ?_
          refine lv_ishl hx hb dX12_doBehind_78 ?_
          refine lv_ior hx hb dX12_doBehind_79 ?_
          refine x_iast G hH (kt_10_0 _ hk_q0) hq.1 dX12_doBehind_80 (fun μ13 e_μ13 H locs hH => ?_)
          have hq := hq.2 μ13 e_μ13
          refine lv_iload hx hb dX12_doBehind_81 (lv_at hl 0 rfl) ?_
          exact x_iret G hr hH hq dX12_doBehind_83
        · have hq := hq.2 c10
          refine lv_bipush (v := (-2 : Int32)) hx hb dX12_doBehind_30 (by decide) ?_
          exact x_iret G hr hH hq dX12_doBehind_32
abbrev tX12_push : List Cond := Cond.code yX12_push cX12_push 2 none :: wsL_law
theorem mi_X12_push : Cond.instanceMethod yX12_push ∈ wsL_law := (wm_11 _ (List.mem_of_getElem? (i := 11) rfl))
theorem ms_X12_push : Cond.selects RX12 yX12_push yX12_push ∈ wsL_law := (wm_11 _ (List.mem_of_getElem? (i := 12) rfl))
theorem mc_X12_push : Cond.code yX12_push cX12_push 2 none ∈ wsL_law := (wm_11 _ (List.mem_of_getElem? (i := 13) rfl))
theorem md_X12_push : yX12_push.cls ≠ "java/lang/invoke/MethodHandle" ∧ yX12_push.cls ≠ "java/lang/invoke/VarHandle" ∧ (parseMethodDescriptor yX12_push.desc).map (fun d => d.parameters.length) = some 0 := by decide +kernel
set_option maxRecDepth 100000 in
set_option maxHeartbeats 4000000 in
theorem wb_X12_push_51 {E : xE} {ad : Nat → Nat} {p : Program} {l : Launch} {e : Env} {s : State} {m : MethodId} {args : Array Value} {below : List Frame} {meth : Method} {c : Code} {Q : State → Prop} (G : xG E p s m args meth c cX12_push 2 RX12) (hA : ∀ a, s.heap.size ≤ a → xA ad s.heap.size a) (q4 : Nat) (hk_q4 : kd q4 = 10) (a5 : Int32) (μ7 : xM) (K510 : xM → Prop) (K51b : Int32 → xM → Prop) (hq : B_X12_push_51 q4 a5 μ7 K510 K51b) {H : Heap} {locs : List Loc} {ls : Array Slot} (hH : xH E ad (xA ad s.heap.size) s.heap μ7 H locs) (hl : lv_has ls 2 [(0, .ref (ad q4)), (1, .int a5)]) (kK510 : ∀ (μ8 : xM), K510  μ8 → ∀ (H : Heap) (locs : List Loc) (ls : Array Slot), xH E ad (xA ad s.heap.size) s.heap μ8 H locs → lv_has ls 2 [(0, .ref (ad q4))] → W p l e (headSpec tX12_push ({ frames := 1, cells := 0, slots := 0, locals := 40 } : Room)).room s m args below meth c H locs 0 0 Q (F0 m 85 ls [])) (kK51b : ∀ (a9 : Int32) (μ10 : xM), K51b a9 μ10 → ∀ (H : Heap) (locs : List Loc) (ls : Array Slot), xH E ad (xA ad s.heap.size) s.heap μ10 H locs → lv_has ls 2 [(0, .ref (ad q4)), (1, .int a9)] → W p l e (headSpec tX12_push ({ frames := 1, cells := 0, slots := 0, locals := 40 } : Room)).room s m args below meth c H locs 0 0 Q (F0 m 51 ls [])) : W p l e (headSpec tX12_push ({ frames := 1, cells := 0, slots := 0, locals := 40 } : Room)).room s m args below meth c H locs 0 0 Q (F0 m 51 ls []) := by
  obtain ⟨hx, hb, hml, hown, hts, hKn, hN, hlk⟩ := id G
  unfold B_X12_push_51 at hq
  refine lv_iload_n hx hb dX12_push_51 rfl (lv_at hl 1 rfl) ?_
  refine lv_sipush (v := (131 : Int32)) hx hb dX12_push_52 (by decide) ?_
  refine lv_icmp_ge (tgt := 85) hx hb dX12_push_55 (by decide) (fun c11 => ?_) (fun c11 => ?_)
  · have hq := hq.1 c11
    exact kK510  μ7 hq _ _ _ hH (lv_sub hl [0] rfl)
  · have hq := hq.2 c11
    refine lv_aload_n hx hb dX12_push_58 rfl (lv_at hl 0 rfl) ?_
    refine x_get (j := 2) (C := RX12) (T := TX12) (N := 24) (v := .ref (ad (rt q4 2))) G hH hk_q4 (by decide) rfl inlX12 (by decide) (wm_6 _ (List.mem_of_getElem? (i := 20) rfl)) rfl dX12_push_59 ?_
    refine lv_sipush (v := (131 : Int32)) hx hb dX12_push_62 (by decide) ?_
    refine lv_aload_n hx hb dX12_push_65 rfl (lv_at hl 0 rfl) ?_
    refine x_get (j := 3) (C := RX12) (T := TX12) (N := 24) (v := .int (μ7.1 q4 3)) G hH hk_q4 (by decide) rfl inlX12 (by decide) (wm_7 _ (List.mem_of_getElem? (i := 9) rfl)) rfl dX12_push_66 ?_
    refine lv_imul hx hb dX12_push_69 ?_
    refine lv_iload_n hx hb dX12_push_70 rfl (lv_at hl 1 rfl) ?_
    refine lv_iadd hx hb dX12_push_71 ?_
    refine lv_aload_n hx hb dX12_push_72 rfl (lv_at hl 0 rfl) ?_
    refine x_get (j := 1) (C := RX12) (T := TX12) (N := 24) (v := .ref (ad (rt q4 1))) G hH hk_q4 (by decide) rfl inlX12 (by decide) (wm_6 _ (List.mem_of_getElem? (i := 19) rfl)) rfl dX12_push_73 ?_
    refine lv_iload_n hx hb dX12_push_76 rfl (lv_at hl 1 rfl) ?_
    refine x_iald G hH (kt_10_1 _ hk_q4) hq.1 dX12_push_77 ?_
    have hq := hq.2
    refine x_iast G hH (kt_10_2 _ hk_q4) hq.1 dX12_push_78 (fun μ12 e_μ12 H locs hH => ?_)
    have hq := hq.2 μ12 e_μ12
    obtain ⟨v13, e_v13⟩ : ∃ y : Int32, y = (a5 + (1 : Int32)) := ⟨_, rfl⟩
    have hq := hq v13 e_v13
    refine lv_iinc (v := v13) (lv' := [(1, .int v13), (0, .ref (ad q4))]) hx hb dX12_push_79 hl (k := 1) rfl (by rw [e_v13]; rfl) (by decide) rfl (fun ls hl => ?_)
    refine lv_goto (tgt := 51) hx hb dX12_push_82 (by decide) ?_
    exact kK51b v13 μ12 hq _ _ _ hH (lv_sub hl [1, 0] rfl)
set_option maxRecDepth 100000 in
set_option maxHeartbeats 4000000 in
theorem w_X12_push_51 {E : xE} {ad : Nat → Nat} {p : Program} {l : Launch} {e : Env} {s : State} {m : MethodId} {args : Array Value} {below : List Frame} {meth : Method} {c : Code} {Q : State → Prop} (G : xG E p s m args meth c cX12_push 2 RX12) (hA : ∀ a, s.heap.size ≤ a → xA ad s.heap.size a) (q4 : Nat) (hk_q4 : kd q4 = 10) : ∀ (n : Nat) (a5 : Int32) (μ7 : xM) (K510 : xM → Prop) (hq : L_X12_push_51 q4 n a5 μ7 K510) (H : Heap) (locs : List Loc) (ls : Array Slot) (hH : xH E ad (xA ad s.heap.size) s.heap μ7 H locs) (hl : lv_has ls 2 [(0, .ref (ad q4)), (1, .int a5)]) (kK510 : ∀ (μ8 : xM), K510  μ8 → ∀ (H : Heap) (locs : List Loc) (ls : Array Slot), xH E ad (xA ad s.heap.size) s.heap μ8 H locs → lv_has ls 2 [(0, .ref (ad q4))] → W p l e (headSpec tX12_push ({ frames := 1, cells := 0, slots := 0, locals := 40 } : Room)).room s m args below meth c H locs 0 0 Q (F0 m 85 ls [])) , W p l e (headSpec tX12_push ({ frames := 1, cells := 0, slots := 0, locals := 40 } : Room)).room s m args below meth c H locs 0 0 Q (F0 m 51 ls [])
  | 0, _, _, _, hq, _, _, _, _, _, _ => hq.elim
  | n + 1, a5, μ7, K510, hq, H, locs, ls, hH, hl, kK510 => wb_X12_push_51 G hA q4 hk_q4 a5 μ7 K510 _ hq hH hl kK510 (fun x0 y hq H locs ls hH hl => w_X12_push_51 G hA q4 hk_q4 n x0 y K510 hq H locs ls hH hl kK510)
set_option maxRecDepth 100000 in
set_option maxHeartbeats 4000000 in
theorem wj_X12_push_49 {E : xE} {ad : Nat → Nat} {p : Program} {l : Launch} {e : Env} {s : State} {m : MethodId} {args : Array Value} {below : List Frame} {meth : Method} {c : Code} {Qm : xM → Prop} (G : xG E p s m args meth c cX12_push 2 RX12) (hA : ∀ a, s.heap.size ≤ a → xA ad s.heap.size a) (hr : meth.sig.returnType = none) (q2 : Nat) (hk_q2 : kd q2 = 10) (μ3 : xM) (hq : J_X12_push_49 q2 μ3 Qm) {H : Heap} {locs : List Loc} {ls : Array Slot} (hH : xH E ad (xA ad s.heap.size) s.heap μ3 H locs) (hl : lv_has ls 2 [(0, .ref (ad q2))]) : W p l e (headSpec tX12_push ({ frames := 1, cells := 0, slots := 0, locals := 40 } : Room)).room s m args below meth c H locs 0 0 (MQ below (va_Qv Qm (xPost E ad s.heap.size) (xA ad s.heap.size)) args s 0 0 (xA ad s.heap.size)) (F0 m 49 ls []) := by
  obtain ⟨hx, hb, hml, hown, hts, hKn, hN, hlk⟩ := id G
  unfold J_X12_push_49 at hq
  refine lv_iconst (v := (0 : Int32)) hx hb dX12_push_49 (by decide) ?_
  refine lv_istore_n (lv' := [(1, .int (0 : Int32)), (0, .ref (ad q2))]) hx hb dX12_push_50 rfl hl (by decide) rfl (fun ls hl => ?_)
  obtain ⟨n6, hq⟩ := hq
  refine w_X12_push_51 G hA q2 hk_q2 n6 (0 : Int32) μ3 _ hq _ _ _ hH (lv_sub hl [1, 0] rfl) (fun  μ14 hq H locs ls hH hl => ?_)
  refine lv_aload_n hx hb dX12_push_85 rfl (lv_at hl 0 rfl) ?_
  refine lv_dup hx hb dX12_push_86 rfl ?_
  refine x_get (j := 3) (C := RX12) (T := TX12) (N := 24) (v := .int (μ14.1 q2 3)) G hH hk_q2 (by decide) rfl inlX12 (by decide) (wm_7 _ (List.mem_of_getElem? (i := 9) rfl)) rfl dX12_push_87 ?_
  refine lv_iconst (v := (1 : Int32)) hx hb dX12_push_90 (by decide) ?_
  refine lv_iadd hx hb dX12_push_91 ?_
  refine x_puti (j := 3) (C := RX12) (T := TX12) (N := 24) (ty := .int) G hH hk_q2 (by decide) rfl inlX12 tyX12 tyX12_ok nmX12 (by decide) (wm_7 _ (List.mem_of_getElem? (i := 9) rfl)) rfl (by decide +kernel) rfl rfl (fun _ _ => Nat.le_of_ble_eq_true rfl) (fun _ _ => rfl) dX12_push_92 (fun μ15 e_μ15 H locs hH => ?_)
  have hq := hq μ15 e_μ15
  exact x_vret G hr hH hq dX12_push_95
set_option maxRecDepth 100000 in
set_option maxHeartbeats 4000000 in
theorem wb_X12_push_10 {E : xE} {ad : Nat → Nat} {p : Program} {l : Launch} {e : Env} {s : State} {m : MethodId} {args : Array Value} {below : List Frame} {meth : Method} {c : Code} {Q : State → Prop} (G : xG E p s m args meth c cX12_push 2 RX12) (hA : ∀ a, s.heap.size ≤ a → xA ad s.heap.size a) (q16 : Nat) (hk_q16 : kd q16 = 10) (a17 : Int32) (μ19 : xM) (K100 : xM → Prop) (K10b : Int32 → xM → Prop) (hq : B_X12_push_10 q16 a17 μ19 K100 K10b) {H : Heap} {locs : List Loc} {ls : Array Slot} (hH : xH E ad (xA ad s.heap.size) s.heap μ19 H locs) (hl : lv_has ls 2 [(0, .ref (ad q16)), (1, .int a17)]) (kK100 : ∀ (μ20 : xM), K100  μ20 → ∀ (H : Heap) (locs : List Loc) (ls : Array Slot), xH E ad (xA ad s.heap.size) s.heap μ20 H locs → lv_has ls 2 [(0, .ref (ad q16))] → W p l e (headSpec tX12_push ({ frames := 1, cells := 0, slots := 0, locals := 40 } : Room)).room s m args below meth c H locs 0 0 Q (F0 m 39 ls [])) (kK10b : ∀ (a21 : Int32) (μ22 : xM), K10b a21 μ22 → ∀ (H : Heap) (locs : List Loc) (ls : Array Slot), xH E ad (xA ad s.heap.size) s.heap μ22 H locs → lv_has ls 2 [(0, .ref (ad q16)), (1, .int a21)] → W p l e (headSpec tX12_push ({ frames := 1, cells := 0, slots := 0, locals := 40 } : Room)).room s m args below meth c H locs 0 0 Q (F0 m 10 ls [])) : W p l e (headSpec tX12_push ({ frames := 1, cells := 0, slots := 0, locals := 40 } : Room)).room s m args below meth c H locs 0 0 Q (F0 m 10 ls []) := by
  obtain ⟨hx, hb, hml, hown, hts, hKn, hN, hlk⟩ := id G
  unfold B_X12_push_10 at hq
  refine lv_iload_n hx hb dX12_push_10 rfl (lv_at hl 1 rfl) ?_
  refine lv_sipush (v := (524 : Int32)) hx hb dX12_push_11 (by decide) ?_
  refine lv_icmp_ge (tgt := 39) hx hb dX12_push_14 (by decide) (fun c23 => ?_) (fun c23 => ?_)
  · have hq := hq.1 c23
    exact kK100  μ19 hq _ _ _ hH (lv_sub hl [0] rfl)
  · have hq := hq.2 c23
    refine lv_aload_n hx hb dX12_push_17 rfl (lv_at hl 0 rfl) ?_
    refine x_get (j := 2) (C := RX12) (T := TX12) (N := 24) (v := .ref (ad (rt q16 2))) G hH hk_q16 (by decide) rfl inlX12 (by decide) (wm_6 _ (List.mem_of_getElem? (i := 20) rfl)) rfl dX12_push_18 ?_
    refine lv_iload_n hx hb dX12_push_21 rfl (lv_at hl 1 rfl) ?_
    refine lv_aload_n hx hb dX12_push_22 rfl (lv_at hl 0 rfl) ?_
    refine x_get (j := 2) (C := RX12) (T := TX12) (N := 24) (v := .ref (ad (rt q16 2))) G hH hk_q16 (by decide) rfl inlX12 (by decide) (wm_6 _ (List.mem_of_getElem? (i := 20) rfl)) rfl dX12_push_23 ?_
    refine lv_iload_n hx hb dX12_push_26 rfl (lv_at hl 1 rfl) ?_
    refine lv_sipush (v := (131 : Int32)) hx hb dX12_push_27 (by decide) ?_
    refine lv_iadd hx hb dX12_push_30 ?_
    refine x_iald G hH (kt_10_2 _ hk_q16) hq.1 dX12_push_31 ?_
    have hq := hq.2
    refine x_iast G hH (kt_10_2 _ hk_q16) hq.1 dX12_push_32 (fun μ24 e_μ24 H locs hH => ?_)
    have hq := hq.2 μ24 e_μ24
    obtain ⟨v25, e_v25⟩ : ∃ y : Int32, y = (a17 + (1 : Int32)) := ⟨_, rfl⟩
    have hq := hq v25 e_v25
    refine lv_iinc (v := v25) (lv' := [(1, .int v25), (0, .ref (ad q16))]) hx hb dX12_push_33 hl (k := 1) rfl (by rw [e_v25]; rfl) (by decide) rfl (fun ls hl => ?_)
    refine lv_goto (tgt := 10) hx hb dX12_push_36 (by decide) ?_
    exact kK10b v25 μ24 hq _ _ _ hH (lv_sub hl [1, 0] rfl)
set_option maxRecDepth 100000 in
set_option maxHeartbeats 4000000 in
theorem w_X12_push_10 {E : xE} {ad : Nat → Nat} {p : Program} {l : Launch} {e : Env} {s : State} {m : MethodId} {args : Array Value} {below : List Frame} {meth : Method} {c : Code} {Q : State → Prop} (G : xG E p s m args meth c cX12_push 2 RX12) (hA : ∀ a, s.heap.size ≤ a → xA ad s.heap.size a) (q16 : Nat) (hk_q16 : kd q16 = 10) : ∀ (n : Nat) (a17 : Int32) (μ19 : xM) (K100 : xM → Prop) (hq : L_X12_push_10 q16 n a17 μ19 K100) (H : Heap) (locs : List Loc) (ls : Array Slot) (hH : xH E ad (xA ad s.heap.size) s.heap μ19 H locs) (hl : lv_has ls 2 [(0, .ref (ad q16)), (1, .int a17)]) (kK100 : ∀ (μ20 : xM), K100  μ20 → ∀ (H : Heap) (locs : List Loc) (ls : Array Slot), xH E ad (xA ad s.heap.size) s.heap μ20 H locs → lv_has ls 2 [(0, .ref (ad q16))] → W p l e (headSpec tX12_push ({ frames := 1, cells := 0, slots := 0, locals := 40 } : Room)).room s m args below meth c H locs 0 0 Q (F0 m 39 ls [])) , W p l e (headSpec tX12_push ({ frames := 1, cells := 0, slots := 0, locals := 40 } : Room)).room s m args below meth c H locs 0 0 Q (F0 m 10 ls [])
  | 0, _, _, _, hq, _, _, _, _, _, _ => hq.elim
  | n + 1, a17, μ19, K100, hq, H, locs, ls, hH, hl, kK100 => wb_X12_push_10 G hA q16 hk_q16 a17 μ19 K100 _ hq hH hl kK100 (fun x0 y hq H locs ls hH hl => w_X12_push_10 G hA q16 hk_q16 n x0 y K100 hq H locs ls hH hl kK100)
set_option maxRecDepth 100000 in
set_option maxHeartbeats 4000000 in
theorem c_X12_push (l : Launch) (E : xE) (ad : Nat → Nat) (μ : xM) (q0 : Nat) (hk_q0 : kd q0 = 10) (Qm : xM → Prop) (hq : p_X12_push q0 μ Qm) : xMv l yX12_push tX12_push ({ frames := 1, cells := 0, slots := 0, locals := 40 } : Room) E ad μ [.ref (ad q0)] Qm := by
  refine x_stv (cc := cX12_push) (maxL := 2) (ret := none) (own := RX12) rfl (by decide) rfl (Nat.le_of_ble_eq_true rfl) ?_
  intro p e s m args below meth c ls G hr hA hH hl
  obtain ⟨hx, hb, hml, hown, hts, hKn, hN, hlk⟩ := id G
  have hl : lv_has ls 2 [(0, .ref (ad q0))] := hl
  have hH : xH E ad (xA ad s.heap.size) s.heap μ s.heap [] := hH
  unfold p_X12_push at hq
  refine lv_aload_n hx hb dX12_push_0 rfl (lv_at hl 0 rfl) ?_
  refine x_get (j := 3) (C := RX12) (T := TX12) (N := 24) (v := .int (μ.1 q0 3)) G hH hk_q0 (by decide) rfl inlX12 (by decide) (wm_7 _ (List.mem_of_getElem? (i := 9) rfl)) rfl dX12_push_1 ?_
  refine lv_iconst (v := (5 : Int32)) hx hb dX12_push_4 (by decide) ?_
  refine lv_icmp_ne (tgt := 49) hx hb dX12_push_5 (by decide) (fun c1 => ?_) (fun c1 => ?_)
  · have hq := hq.1 c1
    exact wj_X12_push_49 G hA hr  q0  hk_q0 μ hq hH (lv_sub hl [0] rfl)
  · have hq := hq.2 c1
    refine lv_iconst (v := (0 : Int32)) hx hb dX12_push_8 (by decide) ?_
    refine lv_istore_n (lv' := [(1, .int (0 : Int32)), (0, .ref (ad q0))]) hx hb dX12_push_9 rfl hl (by decide) rfl (fun ls hl => ?_)
    obtain ⟨n18, hq⟩ := hq
    refine w_X12_push_10 G hA q0 hk_q0 n18 (0 : Int32) μ _ hq _ _ _ hH (lv_sub hl [1, 0] rfl) (fun  μ26 hq H locs ls hH hl => ?_)
    refine lv_aload_n hx hb dX12_push_39 rfl (lv_at hl 0 rfl) ?_
    refine lv_dup hx hb dX12_push_40 rfl ?_
    refine x_get (j := 3) (C := RX12) (T := TX12) (N := 24) (v := .int (μ26.1 q0 3)) G hH hk_q0 (by decide) rfl inlX12 (by decide) (wm_7 _ (List.mem_of_getElem? (i := 9) rfl)) rfl dX12_push_41 ?_
    refine lv_iconst (v := (1 : Int32)) hx hb dX12_push_44 (by decide) ?_
    refine lv_isub hx hb dX12_push_45 ?_
    refine x_puti (j := 3) (C := RX12) (T := TX12) (N := 24) (ty := .int) G hH hk_q0 (by decide) rfl inlX12 tyX12 tyX12_ok nmX12 (by decide) (wm_7 _ (List.mem_of_getElem? (i := 9) rfl)) rfl (by decide +kernel) rfl rfl (fun _ _ => Nat.le_of_ble_eq_true rfl) (fun _ _ => rfl) dX12_push_46 (fun μ27 e_μ27 H locs hH => ?_)
    have hq := hq μ27 e_μ27
    exact wj_X12_push_49 G hA hr  q0  hk_q0 μ27 hq hH (lv_sub hl [0] rfl)
abbrev tX12_ends : List Cond := Cond.code yX12_ends cX12_ends 2 (some .int) :: wsL_law
theorem mi_X12_ends : Cond.instanceMethod yX12_ends ∈ wsL_law := (wm_11 _ (List.mem_of_getElem? (i := 3) rfl))
theorem ms_X12_ends : Cond.selects RX12 yX12_ends yX12_ends ∈ wsL_law := (wm_11 _ (List.mem_of_getElem? (i := 4) rfl))
theorem mc_X12_ends : Cond.code yX12_ends cX12_ends 2 (some .int) ∈ wsL_law := (wm_11 _ (List.mem_of_getElem? (i := 5) rfl))
theorem md_X12_ends : yX12_ends.cls ≠ "java/lang/invoke/MethodHandle" ∧ yX12_ends.cls ≠ "java/lang/invoke/VarHandle" ∧ (parseMethodDescriptor yX12_ends.desc).map (fun d => d.parameters.length) = some 1 := by decide +kernel
set_option maxRecDepth 100000 in
set_option maxHeartbeats 4000000 in
theorem c_X12_ends (l : Launch) (E : xE) (ad : Nat → Nat) (μ : xM) (q0 : Nat) (p1 : Int32) (hk_q0 : kd q0 = 10) (Qm : Int32 → xM → Prop) (hq : p_X12_ends q0 p1 μ Qm) : xMi l yX12_ends tX12_ends ({ frames := 2, cells := 0, slots := 0, locals := 80 } : Room) E ad μ [.ref (ad q0), .int p1] Qm := by
  refine x_sti (cc := cX12_ends) (maxL := 2) (ret := (some .int)) (own := RX12) rfl (by decide) rfl (Nat.le_of_ble_eq_true rfl) ?_
  intro p e s m args below meth c ls G hr hA hH hl
  obtain ⟨hx, hb, hml, hown, hts, hKn, hN, hlk⟩ := id G
  have hl : lv_has ls 2 [(0, .ref (ad q0)), (1, .int p1)] := hl
  have hH : xH E ad (xA ad s.heap.size) s.heap μ s.heap [] := hH
  unfold p_X12_ends at hq
  refine lv_iload_n hx hb dX12_ends_0 rfl (lv_at hl 1 rfl) ?_
  refine lv_if_ge (tgt := 10) hx hb dX12_ends_1 (by decide) (fun c1 => ?_) (fun c1 => ?_)
  · have hq := hq.1 c1
    refine lv_aload_n hx hb dX12_ends_10 rfl (lv_at hl 0 rfl) ?_
    refine x_cVv (C := RX12) (T := TX12) (N := 24) (As := []) (rest := []) G hH hA (c_X12_push l E ad μ q0 hk_q0 _ hq) (wm_11 _ (List.mem_of_getElem? (i := 10) rfl)) mi_X12_push ms_X12_push mn_RX12 mc_X12_push rfl md_X12_push ⟨rfl, rfl, Nat.le_of_ble_eq_true rfl, Nat.le_of_ble_eq_true rfl⟩ hk_q0 (by decide) rfl rfl hl.1 rfl (Nat.le_of_ble_eq_true rfl) dX12_ends_11 ⟨Nat.zero_le _, Nat.zero_le _⟩ (fun μ2 hq H locs hH => ?_)
    refine lv_iload_n hx hb dX12_ends_14 rfl (lv_at hl 1 rfl) ?_
    exact x_iret G hr hH hq dX12_ends_15
  · have hq := hq.2 c1
    refine lv_aload_n hx hb dX12_ends_4 rfl (lv_at hl 0 rfl) ?_
    refine lv_iload_n hx hb dX12_ends_5 rfl (lv_at hl 1 rfl) ?_
    refine x_cVi (C := RX12) (T := TX12) (N := 24) (As := [.int p1]) (rest := []) G hH hA (c_X12_refuses l E ad μ q0 p1 hk_q0 _ hq) (wm_11 _ (List.mem_of_getElem? (i := 6) rfl)) mi_X12_refuses ms_X12_refuses mn_RX12 mc_X12_refuses rfl md_X12_refuses ⟨rfl, rfl, Nat.le_of_ble_eq_true rfl, Nat.le_of_ble_eq_true rfl⟩ hk_q0 (by decide) rfl rfl hl.1 rfl (Nat.le_of_ble_eq_true rfl) dX12_ends_6 ⟨Nat.zero_le _, Nat.zero_le _⟩ (fun r4 μ3 hq H locs hH => ?_)
    exact x_iret G hr hH hq dX12_ends_9
abbrev tX12_behind : List Cond := Cond.code yX12_behind cX12_behind 4 (some .int) :: wsL_law
theorem mi_X12_behind : Cond.instanceMethod yX12_behind ∈ wsL_law := (wm_14 _ (List.mem_of_getElem? (i := 13) rfl))
theorem ms_X12_behind : Cond.selects RX12 yX12_behind yX12_behind ∈ wsL_law := (wm_14 _ (List.mem_of_getElem? (i := 14) rfl))
theorem mc_X12_behind : Cond.code yX12_behind cX12_behind 4 (some .int) ∈ wsL_law := (wm_14 _ (List.mem_of_getElem? (i := 15) rfl))
theorem md_X12_behind : yX12_behind.cls ≠ "java/lang/invoke/MethodHandle" ∧ yX12_behind.cls ≠ "java/lang/invoke/VarHandle" ∧ (parseMethodDescriptor yX12_behind.desc).map (fun d => d.parameters.length) = some 3 := by decide +kernel
set_option maxRecDepth 100000 in
set_option maxHeartbeats 4000000 in
theorem c_X12_behind (l : Launch) (E : xE) (ad : Nat → Nat) (μ : xM) (q0 : Nat) (p1 : Int32) (p2 : Int32) (p3 : Int32) (hk_q0 : kd q0 = 10) (Qm : Int32 → xM → Prop) (hq : p_X12_behind q0 p1 p2 p3 μ Qm) : xMi l yX12_behind tX12_behind ({ frames := 4, cells := 0, slots := 0, locals := 160 } : Room) E ad μ [.ref (ad q0), .int p1, .int p2, .int p3] Qm := by
  refine x_sti (cc := cX12_behind) (maxL := 4) (ret := (some .int)) (own := RX12) rfl (by decide) rfl (Nat.le_of_ble_eq_true rfl) ?_
  intro p e s m args below meth c ls G hr hA hH hl
  obtain ⟨hx, hb, hml, hown, hts, hKn, hN, hlk⟩ := id G
  have hl : lv_has ls 4 [(0, .ref (ad q0)), (1, .int p1), (2, .int p2), (3, .int p3)] := hl
  have hH : xH E ad (xA ad s.heap.size) s.heap μ s.heap [] := hH
  unfold p_X12_behind at hq
  refine lv_aload_n hx hb dX12_behind_0 rfl (lv_at hl 0 rfl) ?_
  refine x_cVv (C := RX12) (T := TX12) (N := 24) (As := []) (rest := []) G hH hA (c_X12_hold l E ad μ q0 hk_q0 _ hq) (wm_10 _ (List.mem_of_getElem? (i := 14) rfl)) mi_X12_hold ms_X12_hold mn_RX12 mc_X12_hold rfl md_X12_hold ⟨rfl, rfl, Nat.le_of_ble_eq_true rfl, Nat.le_of_ble_eq_true rfl⟩ hk_q0 (by decide) rfl rfl hl.1 rfl (Nat.le_of_ble_eq_true rfl) dX12_behind_1 ⟨Nat.zero_le _, Nat.zero_le _⟩ (fun μ1 hq H locs hH => ?_)
  refine lv_aload_n hx hb dX12_behind_4 rfl (lv_at hl 0 rfl) ?_
  refine lv_aload_n hx hb dX12_behind_5 rfl (lv_at hl 0 rfl) ?_
  refine lv_iload_n hx hb dX12_behind_6 rfl (lv_at hl 1 rfl) ?_
  refine lv_iload_n hx hb dX12_behind_7 rfl (lv_at hl 2 rfl) ?_
  refine lv_iload_n hx hb dX12_behind_8 rfl (lv_at hl 3 rfl) ?_
  refine x_cVi (C := RX12) (T := TX12) (N := 24) (As := [.int p1, .int p2, .int p3]) (rest := [.ref (ad q0)]) G hH hA (c_X12_doBehind l E ad μ1 q0 p1 p2 p3 hk_q0 _ hq) (wm_14 _ (List.mem_of_getElem? (i := 16) rfl)) mi_X12_doBehind ms_X12_doBehind mn_RX12 mc_X12_doBehind rfl md_X12_doBehind ⟨rfl, rfl, Nat.le_of_ble_eq_true rfl, Nat.le_of_ble_eq_true rfl⟩ hk_q0 (by decide) rfl rfl hl.1 rfl (Nat.le_of_ble_eq_true rfl) dX12_behind_9 ⟨Nat.zero_le _, Nat.zero_le _⟩ (fun r3 μ2 hq H locs hH => ?_)
  refine x_cVi (C := RX12) (T := TX12) (N := 24) (As := [.int r3]) (rest := []) G hH hA (c_X12_ends l E ad μ2 q0 r3 hk_q0 _ hq) (wm_11 _ (List.mem_of_getElem? (i := 2) rfl)) mi_X12_ends ms_X12_ends mn_RX12 mc_X12_ends rfl md_X12_ends ⟨rfl, rfl, Nat.le_of_ble_eq_true rfl, Nat.le_of_ble_eq_true rfl⟩ hk_q0 (by decide) rfl rfl hl.1 rfl (Nat.le_of_ble_eq_true rfl) dX12_behind_12 ⟨Nat.zero_le _, Nat.zero_le _⟩ (fun r5 μ4 hq H locs hH => ?_)
  exact x_iret G hr hH hq dX12_behind_15
abbrev tX12_doBlock : List Cond := Cond.code yX12_doBlock cX12_doBlock 6 (some .int) :: wsL_law
theorem mi_X12_doBlock : Cond.instanceMethod yX12_doBlock ∈ wsL_law := (wm_10 _ (List.mem_of_getElem? (i := 19) rfl))
theorem ms_X12_doBlock : Cond.selects RX12 yX12_doBlock yX12_doBlock ∈ wsL_law := (wm_10 _ (List.mem_of_getElem? (i := 20) rfl))
theorem mc_X12_doBlock : Cond.code yX12_doBlock cX12_doBlock 6 (some .int) ∈ wsL_law := (wm_10 _ (List.mem_of_getElem? (i := 21) rfl))
theorem md_X12_doBlock : yX12_doBlock.cls ≠ "java/lang/invoke/MethodHandle" ∧ yX12_doBlock.cls ≠ "java/lang/invoke/VarHandle" ∧ (parseMethodDescriptor yX12_doBlock.desc).map (fun d => d.parameters.length) = some 4 := by decide +kernel
set_option maxRecDepth 100000 in
set_option maxHeartbeats 4000000 in
theorem c_X12_doBlock (l : Launch) (E : xE) (ad : Nat → Nat) (μ : xM) (q0 : Nat) (p1 : Int32) (p2 : Int32) (p3 : Int32) (p4 : Int32) (hk_q0 : kd q0 = 10) (Qm : Int32 → xM → Prop) (hq : p_X12_doBlock q0 p1 p2 p3 p4 μ Qm) : xMi l yX12_doBlock tX12_doBlock ({ frames := 2, cells := 0, slots := 0, locals := 80 } : Room) E ad μ [.ref (ad q0), .int p1, .int p2, .int p3, .int p4] Qm := by
  refine x_sti (cc := cX12_doBlock) (maxL := 6) (ret := (some .int)) (own := RX12) rfl (by decide) rfl (Nat.le_of_ble_eq_true rfl) ?_
  intro p e s m args below meth c ls G hr hA hH hl
  obtain ⟨hx, hb, hml, hown, hts, hKn, hN, hlk⟩ := id G
  have hl : lv_has ls 6 [(0, .ref (ad q0)), (1, .int p1), (2, .int p2), (3, .int p3), (4, .int p4)] := hl
  have hH : xH E ad (xA ad s.heap.size) s.heap μ s.heap [] := hH
  unfold p_X12_doBlock at hq
  refine lv_iload_n hx hb dX12_doBlock_0 rfl (lv_at hl 1 rfl) ?_
  refine lv_iconst (v := (0 : Int32)) hx hb dX12_doBlock_1 (by decide) ?_
  refine lv_iconst (v := (3 : Int32)) hx hb dX12_doBlock_2 (by decide) ?_
  refine x_cSi (As := [.int p1, .int (0 : Int32), .int (3 : Int32)]) (rest := []) G hH hA (c_X12_in l E ad μ p1 (0 : Int32) (3 : Int32)  _ hq) (wm_10 _ (List.mem_of_getElem? (i := 23) rfl)) mt_X12_in mn_RX12 mc_X12_in md_X12_in ⟨rfl, rfl, Nat.le_of_ble_eq_true rfl, Nat.le_of_ble_eq_true rfl⟩ rfl hl.1 rfl (Nat.le_of_ble_eq_true rfl) dX12_doBlock_3 ⟨Nat.zero_le _, Nat.zero_le _⟩ (fun r2 μ1 hq H locs hH => ?_)
  refine lv_if_eq (tgt := 40) hx hb dX12_doBlock_6 (by decide) (fun c3 => ?_) (fun c3 => ?_)
  · have hq := hq.1 c3
    refine lv_bipush (v := (-2 : Int32)) hx hb dX12_doBlock_40 (by decide) ?_
    exact x_iret G hr hH hq dX12_doBlock_42
  · have hq := hq.2 c3
    refine lv_iload_n hx hb dX12_doBlock_9 rfl (lv_at hl 2 rfl) ?_
    refine lv_iconst (v := (1 : Int32)) hx hb dX12_doBlock_10 (by decide) ?_
    refine lv_bipush (v := (7 : Int32)) hx hb dX12_doBlock_11 (by decide) ?_
    refine x_cSi (As := [.int p2, .int (1 : Int32), .int (7 : Int32)]) (rest := []) G hH hA (c_X12_in l E ad μ1 p2 (1 : Int32) (7 : Int32)  _ hq) (wm_10 _ (List.mem_of_getElem? (i := 23) rfl)) mt_X12_in mn_RX12 mc_X12_in md_X12_in ⟨rfl, rfl, Nat.le_of_ble_eq_true rfl, Nat.le_of_ble_eq_true rfl⟩ rfl hl.1 rfl (Nat.le_of_ble_eq_true rfl) dX12_doBlock_13 ⟨Nat.zero_le _, Nat.zero_le _⟩ (fun r5 μ4 hq H locs hH => ?_)
    refine lv_if_eq (tgt := 40) hx hb dX12_doBlock_16 (by decide) (fun c6 => ?_) (fun c6 => ?_)
    · have hq := hq.1 c6
      refine lv_bipush (v := (-2 : Int32)) hx hb dX12_doBlock_40 (by decide) ?_
      exact x_iret G hr hH hq dX12_doBlock_42
    · have hq := hq.2 c6
      refine lv_iload_n hx hb dX12_doBlock_19 rfl (lv_at hl 3 rfl) ?_
      refine lv_iconst (v := (0 : Int32)) hx hb dX12_doBlock_20 (by decide) ?_
      refine lv_bipush (v := (9 : Int32)) hx hb dX12_doBlock_21 (by decide) ?_
      refine x_cSi (As := [.int p3, .int (0 : Int32), .int (9 : Int32)]) (rest := []) G hH hA (c_X12_in l E ad μ4 p3 (0 : Int32) (9 : Int32)  _ hq) (wm_10 _ (List.mem_of_getElem? (i := 23) rfl)) mt_X12_in mn_RX12 mc_X12_in md_X12_in ⟨rfl, rfl, Nat.le_of_ble_eq_true rfl, Nat.le_of_ble_eq_true rfl⟩ rfl hl.1 rfl (Nat.le_of_ble_eq_true rfl) dX12_doBlock_23 ⟨Nat.zero_le _, Nat.zero_le _⟩ (fun r8 μ7 hq H locs hH => ?_)
      refine lv_if_eq (tgt := 40) hx hb dX12_doBlock_26 (by decide) (fun c9 => ?_) (fun c9 => ?_)
      · have hq := hq.1 c9
        refine lv_bipush (v := (-2 : Int32)) hx hb dX12_doBlock_40 (by decide) ?_
        exact x_iret G hr hH hq dX12_doBlock_42
      · have hq := hq.2 c9
        refine lv_iload hx hb dX12_doBlock_29 (lv_at hl 4 rfl) ?_
        refine lv_iconst (v := (1 : Int32)) hx hb dX12_doBlock_31 (by decide) ?_
        refine lv_ldc hx hb hown (hts _ (wm_10 _ (List.mem_of_getElem? (i := 22) rfl))) dX12_doBlock_32 ?_
        refine x_cSi (As := [.int p4, .int (1 : Int32), .int (65535 : Int32)]) (rest := []) G hH hA (c_X12_in l E ad μ7 p4 (1 : Int32) (65535 : Int32)  _ hq) (wm_10 _ (List.mem_of_getElem? (i := 23) rfl)) mt_X12_in mn_RX12 mc_X12_in md_X12_in ⟨rfl, rfl, Nat.le_of_ble_eq_true rfl, Nat.le_of_ble_eq_true rfl⟩ rfl hl.1 rfl (Nat.le_of_ble_eq_true rfl) dX12_doBlock_34 ⟨Nat.zero_le _, Nat.zero_le _⟩ (fun r11 μ10 hq H locs hH => ?_)
        refine lv_if_ne (tgt := 43) hx hb dX12_doBlock_37 (by decide) (fun c12 => ?_) (fun c12 => ?_)
        · have hq := hq.1 c12
          refine lv_aload_n hx hb dX12_doBlock_43 rfl (lv_at hl 0 rfl) ?_
          refine x_get (j := 0) (C := RX12) (T := TX12) (N := 24) (v := .ref (ad (rt q0 0))) G hH hk_q0 (by decide) rfl inlX12 (by decide) (wm_6 _ (List.mem_of_getElem? (i := 18) rfl)) rfl dX12_doBlock_44 ?_
          refine lv_iconst (v := (0 : Int32)) hx hb dX12_doBlock_47 (by decide) ?_
          refine x_iald G hH (kt_10_0 _ hk_q0) hq.1 dX12_doBlock_48 ?_
          have hq := hq.2
          refine lv_bipush (v := (6 : Int32)) hx hb dX12_doBlock_49 (by decide) ?_
          refine lv_icmp_ne (tgt := 57) hx hb dX12_doBlock_51 (by decide) (fun c13 => ?_) (fun c13 => ?_)
          · have hq := hq.1 c13
            refine lv_iconst (v := (1 : Int32)) hx hb dX12_doBlock_57 (by decide) ?_
            refine lv_bipush (v := (7 : Int32)) hx hb dX12_doBlock_58 (by decide) ?_
            refine lv_aload_n hx hb dX12_doBlock_60 rfl (lv_at hl 0 rfl) ?_
            refine x_get (j := 0) (C := RX12) (T := TX12) (N := 24) (v := .ref (ad (rt q0 0))) G hH hk_q0 (by decide) rfl inlX12 (by decide) (wm_6 _ (List.mem_of_getElem? (i := 18) rfl)) rfl dX12_doBlock_61 ?_
            refine lv_iconst (v := (0 : Int32)) hx hb dX12_doBlock_64 (by decide) ?_
            refine x_iald G hH (kt_10_0 _ hk_q0) hq.1 dX12_doBlock_65 ?_
            have hq := hq.2
            refine lv_imul hx hb dX12_doBlock_66 ?_
            refine lv_iadd hx hb dX12_doBlock_67 ?_
            refine lv_topi (fun v14 e_v14 => ?_)
            have hq := hq v14 e_v14
            refine lv_istore (lv' := [(5, .int v14), (0, .ref (ad q0)), (1, .int p1), (2, .int p2), (3, .int p3), (4, .int p4)]) hx hb dX12_doBlock_68 hl (by decide) rfl (fun ls hl => ?_)
            refine lv_aload_n hx hb dX12_doBlock_70 rfl (lv_at hl 1 rfl) ?_
            refine x_get (j := 0) (C := RX12) (T := TX12) (N := 24) (v := .ref (ad (rt q0 0))) G hH hk_q0 (by decide) rfl inlX12 (by decide) (wm_6 _ (List.mem_of_getElem? (i := 18) rfl)) rfl dX12_doBlock_71 ?_
            refine lv_iload hx hb dX12_doBlock_74 (lv_at hl 0 rfl) ?_
            refine lv_iload_n hx hb dX12_doBlock_76 rfl (lv_at hl 2 rfl) ?_
            refine x_iast G hH (kt_10_0 _ hk_q0) hq.1 dX12_doBlock_77 (fun μ15 e_μ15 H locs hH => ?_)
            have hq := hq.2 μ15 e_μ15
            refine lv_aload_n hx hb dX12_doBlock_78 rfl (lv_at hl 1 rfl) ?_
            refine x_get (j := 0) (C := RX12) (T := TX12) (N := 24) (v := .ref (ad (rt q0 0))) G hH hk_q0 (by decide) rfl inlX12 (by decide) (wm_6 _ (List.mem_of_getElem? (i := 18) rfl)) rfl dX12_doBlock_79 ?_
            refine lv_iload hx hb dX12_doBlock_82 (lv_at hl 0 rfl) ?_
            refine lv_iconst (v := (1 : Int32)) hx hb dX12_doBlock_84 (by decide) ?_
            refine lv_iadd hx hb dX12_doBlock_85 ?_
            refine lv_iload_n hx hb dX12_doBlock_86 rfl (lv_at hl 3 rfl) ?_
            refine x_iast G hH (kt_10_0 _ hk_q0) hq.1 dX12_doBlock_87 (fun μ16 e_μ16 H locs hH => ?_)
            have hq := hq.2 μ16 e_μ16
            refine lv_aload_n hx hb dX12_doBlock_88 rfl (lv_at hl 1 rfl) ?_
            refine x_get (j := 0) (C := RX12) (T := TX12) (N := 24) (v := .ref (ad (rt q0 0))) G hH hk_q0 (by decide) rfl inlX12 (by decide) (wm_6 _ (List.mem_of_getElem? (i := 18) rfl)) rfl dX12_doBlock_89 ?_
            refine lv_iload hx hb dX12_doBlock_92 (lv_at hl 0 rfl) ?_
            refine lv_iconst (v := (2 : Int32)) hx hb dX12_doBlock_94 (by decide) ?_
            refine lv_iadd hx hb dX12_doBlock_95 ?_
            refine lv_iload_n hx hb dX12_doBlock_96 rfl (lv_at hl 4 rfl) ?_
            refine x_iast G hH (kt_10_0 _ hk_q0) hq.1 dX12_doBlock_97 (fun μ17 e_μ17 H locs hH => ?_)
            have hq := hq.2 μ17 e_μ17
            refine lv_aload_n hx hb dX12_doBlock_98 rfl (lv_at hl 1 rfl) ?_
            refine x_get (j := 0) (C := RX12) (T := TX12) (N := 24) (v := .ref (ad (rt q0 0))) G hH hk_q0 (by decide) rfl inlX12 (by decide) (wm_6 _ (List.mem_of_getElem? (i := 18) rfl)) rfl dX12_doBlock_99 ?_
            refine lv_iload hx hb dX12_doBlock_102 (lv_at hl 0 rfl) ?_
            refine lv_iconst (v := (3 : Int32)) hx hb dX12_doBlock_104 (by decide) ?_
            refine lv_iadd hx hb dX12_doBlock_105 ?_
            refine lv_iload hx hb dX12_doBlock_106 (lv_at hl 5 rfl) ?_
            refine x_iast G hH (kt_10_0 _ hk_q0) hq.1 dX12_doBlock_108 (fun μ18 e_μ18 H locs hH => ?_)
            have hq := hq.2 μ18 e_μ18
            refine lv_aload_n hx hb dX12_doBlock_109 rfl (lv_at hl 1 rfl) ?_
            refine x_get (j := 0) (C := RX12) (T := TX12) (N := 24) (v := .ref (ad (rt q0 0))) G hH hk_q0 (by decide) rfl inlX12 (by decide) (wm_6 _ (List.mem_of_getElem? (i := 18) rfl)) rfl dX12_doBlock_110 ?_
            refine lv_iload hx hb dX12_doBlock_113 (lv_at hl 0 rfl) ?_
            refine lv_iconst (v := (4 : Int32)) hx hb dX12_doBlock_115 (by decide) ?_
            refine lv_iadd hx hb dX12_doBlock_116 ?_
            refine lv_iconst (v := (0 : Int32)) hx hb dX12_doBlock_117 (by decide) ?_
            refine x_iast G hH (kt_10_0 _ hk_q0) hq.1 dX12_doBlock_118 (fun μ19 e_μ19 H locs hH => ?_)
            have hq := hq.2 μ19 e_μ19
            refine lv_aload_n hx hb dX12_doBlock_119 rfl (lv_at hl 1 rfl) ?_
            refine x_get (j := 0) (C := RX12) (T := TX12) (N := 24) (v := .ref (ad (rt q0 0))) G hH hk_q0 (by decide) rfl inlX12 (by decide) (wm_6 _ (List.mem_of_getElem? (i := 18) rfl)) rfl dX12_doBlock_120 ?_
            refine lv_iload hx hb dX12_doBlock_123 (lv_at hl 0 rfl) ?_
            refine lv_iconst (v := (5 : Int32)) hx hb dX12_doBlock_125 (by decide) ?_
            refine lv_iadd hx hb dX12_doBlock_126 ?_
            refine lv_iconst (v := (0 : Int32)) hx hb dX12_doBlock_127 (by decide) ?_
            refine x_iast G hH (kt_10_0 _ hk_q0) hq.1 dX12_doBlock_128 (fun μ20 e_μ20 H locs hH => ?_)
            have hq := hq.2 μ20 e_μ20
            refine lv_aload_n hx hb dX12_doBlock_129 rfl (lv_at hl 1 rfl) ?_
            refine x_get (j := 0) (C := RX12) (T := TX12) (N := 24) (v := .ref (ad (rt q0 0))) G hH hk_q0 (by decide) rfl inlX12 (by decide) (wm_6 _ (List.mem_of_getElem? (i := 18) rfl)) rfl dX12_doBlock_130 ?_
            refine lv_iload hx hb dX12_doBlock_133 (lv_at hl 0 rfl) ?_
            refine lv_bipush (v := (6 : Int32)) hx hb dX12_doBlock_135 (by decide) ?_
            refine lv_iadd hx hb dX12_doBlock_137 ?_
            refine lv_iconst (v := (0 : Int32)) hx hb dX12_doBlock_138 (by decide) ?_
            refine x_iast G hH (kt_10_0 _ hk_q0) hq.1 dX12_doBlock_139 (fun μ21 e_μ21 H locs hH => ?_)
            have hq := hq.2 μ21 e_μ21
            refine lv_aload_n hx hb dX12_doBlock_140 rfl (lv_at hl 1 rfl) ?_
            refine x_get (j := 0) (C := RX12) (T := TX12) (N := 24) (v := .ref (ad (rt q0 0))) G hH hk_q0 (by decide) rfl inlX12 (by decide) (wm_6 _ (List.mem_of_getElem? (i := 18) rfl)) rfl dX12_doBlock_141 ?_
            refine lv_iconst (v := (0 : Int32)) hx hb dX12_doBlock_144 (by decide) ?_
            refine lv_dup2_11 hx hb dX12_doBlock_145 rfl rfl ?_
            refine x_iald G hH (kt_10_0 _ hk_q0) hq.1 dX12_doBlock_146 ?_
            have hq := hq.2
            refine lv_iconst (v := (1 : Int32)) hx hb dX12_doBlock_147 (by decide) ?_
            refine lv_iadd hx hb dX12_doBlock_148 ?_
            refine x_iast G hH (kt_10_0 _ hk_q0) hq.1 dX12_doBlock_149 (fun μ22 e_μ22 H locs hH => ?_)
            have hq := hq.2 μ22 e_μ22
            refine lv_aload_n hx hb dX12_doBlock_150 rfl (lv_at hl 1 rfl) ?_
            refine x_get (j := 0) (C := RX12) (T := TX12) (N := 24) (v := .ref (ad (rt q0 0))) G hH hk_q0 (by decide) rfl inlX12 (by decide) (wm_6 _ (List.mem_of_getElem? (i := 18) rfl)) rfl dX12_doBlock_151 ?_
            refine lv_iconst (v := (0 : Int32)) hx hb dX12_doBlock_154 (by decide) ?_
            refine x_iald G hH (kt_10_0 _ hk_q0) hq.1 dX12_doBlock_155 ?_
            have hq := hq.2
            refine lv_iconst (v := (1 : Int32)) hx hb dX12_doBlock_156 (by decide) ?_
            refine lv_isub hx hb dX12_doBlock_157 ?_
            exact x_iret G hr hH hq dX12_doBlock_158
          · have hq := hq.2 c13
            refine lv_bipush (v := (-4 : Int32)) hx hb dX12_doBlock_54 (by decide) ?_
            exact x_iret G hr hH hq dX12_doBlock_56
        · have hq := hq.2 c12
          refine lv_bipush (v := (-2 : Int32)) hx hb dX12_doBlock_40 (by decide) ?_
          exact x_iret G hr hH hq dX12_doBlock_42
abbrev tX12_block : List Cond := Cond.code yX12_block cX12_block 5 (some .int) :: wsL_law
theorem mi_X12_block : Cond.instanceMethod yX12_block ∈ wsL_law := (wm_10 _ (List.mem_of_getElem? (i := 11) rfl))
theorem ms_X12_block : Cond.selects RX12 yX12_block yX12_block ∈ wsL_law := (wm_10 _ (List.mem_of_getElem? (i := 12) rfl))
theorem mc_X12_block : Cond.code yX12_block cX12_block 5 (some .int) ∈ wsL_law := (wm_10 _ (List.mem_of_getElem? (i := 13) rfl))
theorem md_X12_block : yX12_block.cls ≠ "java/lang/invoke/MethodHandle" ∧ yX12_block.cls ≠ "java/lang/invoke/VarHandle" ∧ (parseMethodDescriptor yX12_block.desc).map (fun d => d.parameters.length) = some 4 := by decide +kernel
set_option maxRecDepth 100000 in
set_option maxHeartbeats 4000000 in
theorem c_X12_block (l : Launch) (E : xE) (ad : Nat → Nat) (μ : xM) (q0 : Nat) (p1 : Int32) (p2 : Int32) (p3 : Int32) (p4 : Int32) (hk_q0 : kd q0 = 10) (Qm : Int32 → xM → Prop) (hq : p_X12_block q0 p1 p2 p3 p4 μ Qm) : xMi l yX12_block tX12_block ({ frames := 3, cells := 0, slots := 0, locals := 120 } : Room) E ad μ [.ref (ad q0), .int p1, .int p2, .int p3, .int p4] Qm := by
  refine x_sti (cc := cX12_block) (maxL := 5) (ret := (some .int)) (own := RX12) rfl (by decide) rfl (Nat.le_of_ble_eq_true rfl) ?_
  intro p e s m args below meth c ls G hr hA hH hl
  obtain ⟨hx, hb, hml, hown, hts, hKn, hN, hlk⟩ := id G
  have hl : lv_has ls 5 [(0, .ref (ad q0)), (1, .int p1), (2, .int p2), (3, .int p3), (4, .int p4)] := hl
  have hH : xH E ad (xA ad s.heap.size) s.heap μ s.heap [] := hH
  unfold p_X12_block at hq
  refine lv_aload_n hx hb dX12_block_0 rfl (lv_at hl 0 rfl) ?_
  refine x_cVv (C := RX12) (T := TX12) (N := 24) (As := []) (rest := []) G hH hA (c_X12_hold l E ad μ q0 hk_q0 _ hq) (wm_10 _ (List.mem_of_getElem? (i := 14) rfl)) mi_X12_hold ms_X12_hold mn_RX12 mc_X12_hold rfl md_X12_hold ⟨rfl, rfl, Nat.le_of_ble_eq_true rfl, Nat.le_of_ble_eq_true rfl⟩ hk_q0 (by decide) rfl rfl hl.1 rfl (Nat.le_of_ble_eq_true rfl) dX12_block_1 ⟨Nat.zero_le _, Nat.zero_le _⟩ (fun μ1 hq H locs hH => ?_)
  refine lv_aload_n hx hb dX12_block_4 rfl (lv_at hl 0 rfl) ?_
  refine lv_aload_n hx hb dX12_block_5 rfl (lv_at hl 0 rfl) ?_
  refine lv_iload_n hx hb dX12_block_6 rfl (lv_at hl 1 rfl) ?_
  refine lv_iload_n hx hb dX12_block_7 rfl (lv_at hl 2 rfl) ?_
  refine lv_iload_n hx hb dX12_block_8 rfl (lv_at hl 3 rfl) ?_
  refine lv_iload hx hb dX12_block_9 (lv_at hl 4 rfl) ?_
  refine x_cVi (C := RX12) (T := TX12) (N := 24) (As := [.int p1, .int p2, .int p3, .int p4]) (rest := [.ref (ad q0)]) G hH hA (c_X12_doBlock l E ad μ1 q0 p1 p2 p3 p4 hk_q0 _ hq) (wm_10 _ (List.mem_of_getElem? (i := 18) rfl)) mi_X12_doBlock ms_X12_doBlock mn_RX12 mc_X12_doBlock rfl md_X12_doBlock ⟨rfl, rfl, Nat.le_of_ble_eq_true rfl, Nat.le_of_ble_eq_true rfl⟩ hk_q0 (by decide) rfl rfl hl.1 rfl (Nat.le_of_ble_eq_true rfl) dX12_block_11 ⟨Nat.zero_le _, Nat.zero_le _⟩ (fun r3 μ2 hq H locs hH => ?_)
  refine x_cVi (C := RX12) (T := TX12) (N := 24) (As := [.int r3]) (rest := []) G hH hA (c_X12_ends l E ad μ2 q0 r3 hk_q0 _ hq) (wm_11 _ (List.mem_of_getElem? (i := 2) rfl)) mi_X12_ends ms_X12_ends mn_RX12 mc_X12_ends rfl md_X12_ends ⟨rfl, rfl, Nat.le_of_ble_eq_true rfl, Nat.le_of_ble_eq_true rfl⟩ hk_q0 (by decide) rfl rfl hl.1 rfl (Nat.le_of_ble_eq_true rfl) dX12_block_14 ⟨Nat.zero_le _, Nat.zero_le _⟩ (fun r5 μ4 hq H locs hH => ?_)
  exact x_iret G hr hH hq dX12_block_17
abbrev tX12_wet : List Cond := Cond.code yX12_wet cX12_wet 5 (some .int) :: wsL_law
theorem mi_X12_wet : Cond.instanceMethod yX12_wet ∈ wsL_law := (wm_29 _ (List.mem_of_getElem? (i := 14) rfl))
theorem ms_X12_wet : Cond.selects RX12 yX12_wet yX12_wet ∈ wsL_law := (wm_29 _ (List.mem_of_getElem? (i := 15) rfl))
theorem mc_X12_wet : Cond.code yX12_wet cX12_wet 5 (some .int) ∈ wsL_law := (wm_29 _ (List.mem_of_getElem? (i := 16) rfl))
theorem md_X12_wet : yX12_wet.cls ≠ "java/lang/invoke/MethodHandle" ∧ yX12_wet.cls ≠ "java/lang/invoke/VarHandle" ∧ (parseMethodDescriptor yX12_wet.desc).map (fun d => d.parameters.length) = some 1 := by decide +kernel
set_option maxRecDepth 100000 in
set_option maxHeartbeats 4000000 in
theorem wb_X12_wet_4 {E : xE} {ad : Nat → Nat} {p : Program} {l : Launch} {e : Env} {s : State} {m : MethodId} {args : Array Value} {below : List Frame} {meth : Method} {c : Code} {Q : State → Prop} (G : xG E p s m args meth c cX12_wet 5 RX12) (hA : ∀ a, s.heap.size ≤ a → xA ad s.heap.size a) (q1 : Nat) (a2 : Int32) (hk_q1 : kd q1 = 10) (a3 : Int32) (a4 : Int32) (μ6 : xM) (K40 : Int32 → xM → Prop) (K4b : Int32 → Int32 → xM → Prop) (hq : B_X12_wet_4 q1 a2 a3 a4 μ6 K40 K4b) {H : Heap} {locs : List Loc} {ls : Array Slot} (hH : xH E ad (xA ad s.heap.size) s.heap μ6 H locs) (hl : lv_has ls 5 [(0, .ref (ad q1)), (1, .int a2), (3, .int a3), (2, .int a4)]) (kK40 : ∀ (a7 : Int32) (μ8 : xM), K40 a7 μ8 → ∀ (H : Heap) (locs : List Loc) (ls : Array Slot), xH E ad (xA ad s.heap.size) s.heap μ8 H locs → lv_has ls 5 [(2, .int a7)] → W p l e (headSpec tX12_wet ({ frames := 2, cells := 0, slots := 0, locals := 80 } : Room)).room s m args below meth c H locs 0 0 Q (F0 m 94 ls [])) (kK4b : ∀ (a9 : Int32) (a10 : Int32) (μ11 : xM), K4b a9 a10 μ11 → ∀ (H : Heap) (locs : List Loc) (ls : Array Slot), xH E ad (xA ad s.heap.size) s.heap μ11 H locs → lv_has ls 5 [(0, .ref (ad q1)), (1, .int a2), (3, .int a9), (2, .int a10)] → W p l e (headSpec tX12_wet ({ frames := 2, cells := 0, slots := 0, locals := 80 } : Room)).room s m args below meth c H locs 0 0 Q (F0 m 4 ls [])) : W p l e (headSpec tX12_wet ({ frames := 2, cells := 0, slots := 0, locals := 80 } : Room)).room s m args below meth c H locs 0 0 Q (F0 m 4 ls []) := by
  obtain ⟨hx, hb, hml, hown, hts, hKn, hN, hlk⟩ := id G
  unfold B_X12_wet_4 at hq
  refine lv_iload_n hx hb dX12_wet_4 rfl (lv_at hl 2 rfl) ?_
  refine lv_aload_n hx hb dX12_wet_5 rfl (lv_at hl 0 rfl) ?_
  refine x_get (j := 0) (C := RX12) (T := TX12) (N := 24) (v := .ref (ad (rt q1 0))) G hH hk_q1 (by decide) rfl inlX12 (by decide) (wm_6 _ (List.mem_of_getElem? (i := 18) rfl)) rfl dX12_wet_6 ?_
  refine lv_bipush (v := (93 : Int32)) hx hb dX12_wet_9 (by decide) ?_
  refine x_iald G hH (kt_10_0 _ hk_q1) hq.1 dX12_wet_11 ?_
  have hq := hq.2
  refine lv_icmp_ge (tgt := 94) hx hb dX12_wet_12 (by decide) (fun c12 => ?_) (fun c12 => ?_)
  · have hq := hq.1 c12
    exact kK40 a4 μ6 hq _ _ _ hH (lv_sub hl [3] rfl)
  · have hq := hq.2 c12
    refine lv_aload_n hx hb dX12_wet_15 rfl (lv_at hl 0 rfl) ?_
    refine x_get (j := 0) (C := RX12) (T := TX12) (N := 24) (v := .ref (ad (rt q1 0))) G hH hk_q1 (by decide) rfl inlX12 (by decide) (wm_6 _ (List.mem_of_getElem? (i := 18) rfl)) rfl dX12_wet_16 ?_
    refine lv_bipush (v := (95 : Int32)) hx hb dX12_wet_19 (by decide) ?_
    refine lv_iconst (v := (3 : Int32)) hx hb dX12_wet_21 (by decide) ?_
    refine lv_iload_n hx hb dX12_wet_22 rfl (lv_at hl 2 rfl) ?_
    refine lv_imul hx hb dX12_wet_23 ?_
    refine lv_iadd hx hb dX12_wet_24 ?_
    refine lv_iconst (v := (1 : Int32)) hx hb dX12_wet_25 (by decide) ?_
    refine lv_iadd hx hb dX12_wet_26 ?_
    refine x_iald G hH (kt_10_0 _ hk_q1) hq.1 dX12_wet_27 ?_
    have hq := hq.2
    refine lv_aload_n hx hb dX12_wet_28 rfl (lv_at hl 0 rfl) ?_
    refine lv_aload_n hx hb dX12_wet_29 rfl (lv_at hl 0 rfl) ?_
    refine x_get (j := 0) (C := RX12) (T := TX12) (N := 24) (v := .ref (ad (rt q1 0))) G hH hk_q1 (by decide) rfl inlX12 (by decide) (wm_6 _ (List.mem_of_getElem? (i := 18) rfl)) rfl dX12_wet_30 ?_
    refine lv_bipush (v := (95 : Int32)) hx hb dX12_wet_33 (by decide) ?_
    refine lv_iconst (v := (3 : Int32)) hx hb dX12_wet_35 (by decide) ?_
    refine lv_iload_n hx hb dX12_wet_36 rfl (lv_at hl 2 rfl) ?_
    refine lv_imul hx hb dX12_wet_37 ?_
    refine lv_iadd hx hb dX12_wet_38 ?_
    refine x_iald G hH (kt_10_0 _ hk_q1) hq.1 dX12_wet_39 ?_
    have hq := hq.2
    refine lv_iconst (v := (2 : Int32)) hx hb dX12_wet_40 (by decide) ?_
    refine x_cVi (C := RX12) (T := TX12) (N := 24) (As := [.int (μ6.1 (rt q1 0) ((95 : Int32) + ((3 : Int32) * a3)).toNatClampNeg), .int (2 : Int32)]) (rest := [.int (μ6.1 (rt q1 0) (((95 : Int32) + ((3 : Int32) * a3)) + (1 : Int32)).toNatClampNeg)]) G hH hA (c_X12_ofBlock l E ad μ6 q1 (μ6.1 (rt q1 0) ((95 : Int32) + ((3 : Int32) * a3)).toNatClampNeg) (2 : Int32) hk_q1 _ hq) (wm_13 _ (List.mem_of_getElem? (i := 6) rfl)) mi_X12_ofBlock ms_X12_ofBlock mn_RX12 mc_X12_ofBlock rfl md_X12_ofBlock ⟨rfl, rfl, Nat.le_of_ble_eq_true rfl, Nat.le_of_ble_eq_true rfl⟩ hk_q1 (by decide) rfl rfl hl.1 rfl (Nat.le_of_ble_eq_true rfl) dX12_wet_41 ⟨Nat.zero_le _, Nat.zero_le _⟩ (fun r14 μ13 hq H locs hH => ?_)
    refine lv_iadd hx hb dX12_wet_44 ?_
    refine lv_aload_n hx hb dX12_wet_45 rfl (lv_at hl 0 rfl) ?_
    refine x_get (j := 0) (C := RX12) (T := TX12) (N := 24) (v := .ref (ad (rt q1 0))) G hH hk_q1 (by decide) rfl inlX12 (by decide) (wm_6 _ (List.mem_of_getElem? (i := 18) rfl)) rfl dX12_wet_46 ?_
    refine lv_bipush (v := (92 : Int32)) hx hb dX12_wet_49 (by decide) ?_
    refine x_iald G hH (kt_10_0 _ hk_q1) hq.1 dX12_wet_51 ?_
    have hq := hq.2
    refine lv_isub hx hb dX12_wet_52 ?_
    refine lv_topi (fun v15 e_v15 => ?_)
    have hq := hq v15 e_v15
    refine lv_istore (lv' := [(4, .int v15), (0, .ref (ad q1)), (1, .int a2), (3, .int a3), (2, .int a4)]) hx hb dX12_wet_53 hl (by decide) rfl (fun ls hl => ?_)
    refine lv_aload_n hx hb dX12_wet_55 rfl (lv_at hl 1 rfl) ?_
    refine x_get (j := 0) (C := RX12) (T := TX12) (N := 24) (v := .ref (ad (rt q1 0))) G hH hk_q1 (by decide) rfl inlX12 (by decide) (wm_6 _ (List.mem_of_getElem? (i := 18) rfl)) rfl dX12_wet_56 ?_
    refine lv_bipush (v := (95 : Int32)) hx hb dX12_wet_59 (by decide) ?_
    refine lv_iconst (v := (3 : Int32)) hx hb dX12_wet_61 (by decide) ?_
    refine lv_iload_n hx hb dX12_wet_62 rfl (lv_at hl 3 rfl) ?_
    refine lv_imul hx hb dX12_wet_63 ?_
    refine lv_iadd hx hb dX12_wet_64 ?_
    refine lv_iconst (v := (2 : Int32)) hx hb dX12_wet_65 (by decide) ?_
    refine lv_iadd hx hb dX12_wet_66 ?_
    refine x_iald G hH (kt_10_0 _ hk_q1) hq.1 dX12_wet_67 ?_
    have hq := hq.2
    refine lv_iload_n hx hb dX12_wet_68 rfl (lv_at hl 2 rfl) ?_
    refine x_cSi (As := [.int (μ13.1 (rt q1 0) (((95 : Int32) + ((3 : Int32) * a3)) + (2 : Int32)).toNatClampNeg), .int a2]) (rest := []) G hH hA (c_X12_has l E ad μ13 (μ13.1 (rt q1 0) (((95 : Int32) + ((3 : Int32) * a3)) + (2 : Int32)).toNatClampNeg) a2  _ hq) (wm_13 _ (List.mem_of_getElem? (i := 13) rfl)) mt_X12_has mn_RX12 mc_X12_has md_X12_has ⟨rfl, rfl, Nat.le_of_ble_eq_true rfl, Nat.le_of_ble_eq_true rfl⟩ rfl hl.1 rfl (Nat.le_of_ble_eq_true rfl) dX12_wet_69 ⟨Nat.zero_le _, Nat.zero_le _⟩ (fun r17 μ16 hq H locs hH => ?_)
    refine lv_if_eq (tgt := 86) hx hb dX12_wet_72 (by decide) (fun c18 => ?_) (fun c18 => ?_)
    · have hq := hq.1 c18
      refine lv_iload_n hx hb dX12_wet_86 rfl (lv_at hl 4 rfl) ?_
      refine lv_istore_n (lv' := [(2, .int a4), (4, .int v15), (0, .ref (ad q1)), (1, .int a2), (3, .int a3)]) hx hb dX12_wet_87 rfl hl (by decide) rfl (fun ls hl => ?_)
      obtain ⟨v19, e_v19⟩ : ∃ y : Int32, y = (a3 + (1 : Int32)) := ⟨_, rfl⟩
      have hq := hq v19 e_v19
      refine lv_iinc (v := v19) (lv' := [(3, .int v19), (2, .int a4), (4, .int v15), (0, .ref (ad q1)), (1, .int a2)]) hx hb dX12_wet_88 hl (k := 4) rfl (by rw [e_v19]; rfl) (by decide) rfl (fun ls hl => ?_)
      refine lv_goto (tgt := 4) hx hb dX12_wet_91 (by decide) ?_
      exact kK4b v19 a4 μ16 hq _ _ _ hH (lv_sub hl [3, 4, 0, 1] rfl)
    · have hq := hq.2 c18
      refine lv_iload hx hb dX12_wet_75 (lv_at hl 0 rfl) ?_
      refine lv_iload_n hx hb dX12_wet_77 rfl (lv_at hl 4 rfl) ?_
      refine lv_icmp_le (tgt := 86) hx hb dX12_wet_78 (by decide) (fun c20 => ?_) (fun c20 => ?_)
      · have hq := hq.1 c20
        refine lv_iload_n hx hb dX12_wet_86 rfl (lv_at hl 4 rfl) ?_
        refine lv_istore_n (lv' := [(2, .int a4), (4, .int v15), (0, .ref (ad q1)), (1, .int a2), (3, .int a3)]) hx hb dX12_wet_87 rfl hl (by decide) rfl (fun ls hl => ?_)
        obtain ⟨v21, e_v21⟩ : ∃ y : Int32, y = (a3 + (1 : Int32)) := ⟨_, rfl⟩
        have hq := hq v21 e_v21
        refine lv_iinc (v := v21) (lv' := [(3, .int v21), (2, .int a4), (4, .int v15), (0, .ref (ad q1)), (1, .int a2)]) hx hb dX12_wet_88 hl (k := 4) rfl (by rw [e_v21]; rfl) (by decide) rfl (fun ls hl => ?_)
        refine lv_goto (tgt := 4) hx hb dX12_wet_91 (by decide) ?_
        exact kK4b v21 a4 μ16 hq _ _ _ hH (lv_sub hl [3, 4, 0, 1] rfl)
      · have hq := hq.2 c20
        refine lv_iload hx hb dX12_wet_81 (lv_at hl 0 rfl) ?_
        refine lv_goto (tgt := 87) hx hb dX12_wet_83 (by decide) ?_
        refine lv_istore_n (lv' := [(2, .int v15), (4, .int v15), (0, .ref (ad q1)), (1, .int a2), (3, .int a3)]) hx hb dX12_wet_87 rfl hl (by decide) rfl (fun ls hl => ?_)
        obtain ⟨v22, e_v22⟩ : ∃ y : Int32, y = (a3 + (1 : Int32)) := ⟨_, rfl⟩
        have hq := hq v22 e_v22
        refine lv_iinc (v := v22) (lv' := [(3, .int v22), (2, .int v15), (4, .int v15), (0, .ref (ad q1)), (1, .int a2)]) hx hb dX12_wet_88 hl (k := 4) rfl (by rw [e_v22]; rfl) (by decide) rfl (fun ls hl => ?_)
        refine lv_goto (tgt := 4) hx hb dX12_wet_91 (by decide) ?_
        exact kK4b v22 v15 μ16 hq _ _ _ hH (lv_sub hl [3, 4, 0, 1] rfl)
set_option maxRecDepth 100000 in
set_option maxHeartbeats 4000000 in
theorem w_X12_wet_4 {E : xE} {ad : Nat → Nat} {p : Program} {l : Launch} {e : Env} {s : State} {m : MethodId} {args : Array Value} {below : List Frame} {meth : Method} {c : Code} {Q : State → Prop} (G : xG E p s m args meth c cX12_wet 5 RX12) (hA : ∀ a, s.heap.size ≤ a → xA ad s.heap.size a) (q1 : Nat) (a2 : Int32) (hk_q1 : kd q1 = 10) : ∀ (n : Nat) (a3 : Int32) (a4 : Int32) (μ6 : xM) (K40 : Int32 → xM → Prop) (hq : L_X12_wet_4 q1 a2 n a3 a4 μ6 K40) (H : Heap) (locs : List Loc) (ls : Array Slot) (hH : xH E ad (xA ad s.heap.size) s.heap μ6 H locs) (hl : lv_has ls 5 [(0, .ref (ad q1)), (1, .int a2), (3, .int a3), (2, .int a4)]) (kK40 : ∀ (a7 : Int32) (μ8 : xM), K40 a7 μ8 → ∀ (H : Heap) (locs : List Loc) (ls : Array Slot), xH E ad (xA ad s.heap.size) s.heap μ8 H locs → lv_has ls 5 [(2, .int a7)] → W p l e (headSpec tX12_wet ({ frames := 2, cells := 0, slots := 0, locals := 80 } : Room)).room s m args below meth c H locs 0 0 Q (F0 m 94 ls [])) , W p l e (headSpec tX12_wet ({ frames := 2, cells := 0, slots := 0, locals := 80 } : Room)).room s m args below meth c H locs 0 0 Q (F0 m 4 ls [])
  | 0, _, _, _, _, hq, _, _, _, _, _, _ => hq.elim
  | n + 1, a3, a4, μ6, K40, hq, H, locs, ls, hH, hl, kK40 => wb_X12_wet_4 G hA q1 a2 hk_q1 a3 a4 μ6 K40 _ hq hH hl kK40 (fun x0 x1 y hq H locs ls hH hl => w_X12_wet_4 G hA q1 a2 hk_q1 n x0 x1 y K40 hq H locs ls hH hl kK40)
set_option maxRecDepth 100000 in
set_option maxHeartbeats 4000000 in
theorem c_X12_wet (l : Launch) (E : xE) (ad : Nat → Nat) (μ : xM) (q0 : Nat) (p1 : Int32) (hk_q0 : kd q0 = 10) (Qm : Int32 → xM → Prop) (hq : p_X12_wet q0 p1 μ Qm) : xMi l yX12_wet tX12_wet ({ frames := 2, cells := 0, slots := 0, locals := 80 } : Room) E ad μ [.ref (ad q0), .int p1] Qm := by
  refine x_sti (cc := cX12_wet) (maxL := 5) (ret := (some .int)) (own := RX12) rfl (by decide) rfl (Nat.le_of_ble_eq_true rfl) ?_
  intro p e s m args below meth c ls G hr hA hH hl
  obtain ⟨hx, hb, hml, hown, hts, hKn, hN, hlk⟩ := id G
  have hl : lv_has ls 5 [(0, .ref (ad q0)), (1, .int p1)] := hl
  have hH : xH E ad (xA ad s.heap.size) s.heap μ s.heap [] := hH
  unfold p_X12_wet at hq
  refine lv_iconst (v := (0 : Int32)) hx hb dX12_wet_0 (by decide) ?_
  refine lv_istore_n (lv' := [(2, .int (0 : Int32)), (0, .ref (ad q0)), (1, .int p1)]) hx hb dX12_wet_1 rfl hl (by decide) rfl (fun ls hl => ?_)
  refine lv_iconst (v := (0 : Int32)) hx hb dX12_wet_2 (by decide) ?_
  refine lv_istore_n (lv' := [(3, .int (0 : Int32)), (2, .int (0 : Int32)), (0, .ref (ad q0)), (1, .int p1)]) hx hb dX12_wet_3 rfl hl (by decide) rfl (fun ls hl => ?_)
  obtain ⟨n5, hq⟩ := hq
  refine w_X12_wet_4 G hA q0 p1 hk_q0 n5 (0 : Int32) (0 : Int32) μ _ hq _ _ _ hH (lv_sub hl [2, 3, 0, 1] rfl) (fun a23 μ24 hq H locs ls hH hl => ?_)
  refine lv_iload_n hx hb dX12_wet_94 rfl (lv_at hl 0 rfl) ?_
  exact x_iret G hr hH hq dX12_wet_95
