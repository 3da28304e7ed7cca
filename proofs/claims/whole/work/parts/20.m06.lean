abbrev tX1_withNibble : List Cond := Cond.code yX1_withNibble cX1_withNibble 4 (some .long) :: wsL_law
theorem mt_X1_withNibble : Cond.static yX1_withNibble ∈ wsL_law := (wm_15 _ (List.mem_of_getElem? (i := 5) rfl))
theorem mc_X1_withNibble : Cond.code yX1_withNibble cX1_withNibble 4 (some .long) ∈ wsL_law := (wm_15 _ (List.mem_of_getElem? (i := 6) rfl))
theorem md_X1_withNibble : yX1_withNibble.cls ≠ "java/lang/invoke/MethodHandle" ∧ yX1_withNibble.cls ≠ "java/lang/invoke/VarHandle" ∧ (parseMethodDescriptor yX1_withNibble.desc).map (fun d => d.parameters.length) = some 3 := by decide +kernel
set_option maxRecDepth 100000 in
set_option maxHeartbeats 4000000 in
theorem c_X1_withNibble (l : Launch) (E : xE) (ad : Nat → Nat) (μ : xM) (p1 : Int64) (p2 : Int32) (p3 : Int32) (Qm : Int64 → xM → Prop) (hq : p_X1_withNibble p1 p2 p3 μ Qm) : xMl l yX1_withNibble tX1_withNibble ({ frames := 1, cells := 0, slots := 0, locals := 40 } : Room) E ad μ [.long p1, .int p2, .int p3] Qm := by
  refine x_stl (cc := cX1_withNibble) (maxL := 4) (ret := (some .long)) (own := RX1) rfl (by decide) rfl (Nat.le_of_ble_eq_true rfl) ?_
  intro p e s m args below meth c ls G hr hA hH hl
  obtain ⟨hx, hb, hml, hown, hts, hKn, hN, hlk⟩ := id G
  have hl : lv_has ls 4 [(0, .long p1), (2, .int p2), (3, .int p3)] := hl
  have hH : xH E ad (xA ad s.heap.size) s.heap μ s.heap [] := hH
  unfold p_X1_withNibble at hq
  refine lv_lload_n hx hb dX1_withNibble_0 rfl (lv_at hl 0 rfl) ?_
  refine lv_ldc2 hx hb hown (hts _ (wm_15 _ (List.mem_of_getElem? (i := 7) rfl))) dX1_withNibble_1 ?_
  refine lv_iconst (v := (4 : Int32)) hx hb dX1_withNibble_4 (by decide) ?_
  refine lv_iload_n hx hb dX1_withNibble_5 rfl (lv_at hl 1 rfl) ?_
  refine lv_imul hx hb dX1_withNibble_6 ?_
  refine lv_lshl (v := (lL (15 : Int64) ((4 : Int32) * p2))) hx hb dX1_withNibble_7 rfl ?_
  refine lv_ldc2 hx hb hown (hts _ (wm_15 _ (List.mem_of_getElem? (i := 8) rfl))) dX1_withNibble_8 ?_
  refine lv_lxor hx hb dX1_withNibble_11 ?_
  refine lv_land hx hb dX1_withNibble_12 ?_
  refine lv_iload_n hx hb dX1_withNibble_13 rfl (lv_at hl 2 rfl) ?_
  refine lv_i2l (v := (p3.toInt64)) hx hb dX1_withNibble_14 rfl ?_
  refine lv_iconst (v := (4 : Int32)) hx hb dX1_withNibble_15 (by decide) ?_
  refine lv_iload_n hx hb dX1_withNibble_16 rfl (lv_at hl 1 rfl) ?_
  refine lv_imul hx hb dX1_withNibble_17 ?_
  refine lv_lshl (v := (lL (p3.toInt64) ((4 : Int32) * p2))) hx hb dX1_withNibble_18 rfl ?_
  refine lv_lor hx hb dX1_withNibble_19 ?_
  exact x_lret G hr hH hq dX1_withNibble_20
abbrev tX6_extend : List Cond := Cond.code yX6_extend cX6_extend 14 none :: wsL_law
theorem mt_X6_extend : Cond.static yX6_extend ∈ wsL_law := (wm_20 _ (List.mem_of_getElem? (i := 2) rfl))
theorem mc_X6_extend : Cond.code yX6_extend cX6_extend 14 none ∈ wsL_law := (wm_20 _ (List.mem_of_getElem? (i := 3) rfl))
theorem md_X6_extend : yX6_extend.cls ≠ "java/lang/invoke/MethodHandle" ∧ yX6_extend.cls ≠ "java/lang/invoke/VarHandle" ∧ (parseMethodDescriptor yX6_extend.desc).map (fun d => d.parameters.length) = some 5 := by decide +kernel
set_option maxRecDepth 100000 in
set_option maxHeartbeats 4000000 in
theorem wj_X6_extend_81 {E : xE} {ad : Nat → Nat} {p : Program} {l : Launch} {e : Env} {s : State} {m : MethodId} {args : Array Value} {below : List Frame} {meth : Method} {c : Code} {d : Nat} {Q : State → Prop} (G : xG E p s m args meth c cX6_extend 14 RX6) (hA : ∀ a, s.heap.size ≤ a → xA ad s.heap.size a) (rec : Nat → Int32 → Int32 → Int64 → Int32 → xM → (xM → Prop) → Prop) (ihd : ∀ (μ : xM) (q1 : Nat) (p2 p3 : Int32) (p4 : Int64) (p5 : Int32) (_ : kd q1 = 4) (Qm : xM → Prop), rec q1 p2 p3 p4 p5 μ Qm → xMv l yX6_extend tX6_extend (xrm d) E ad μ [.ref (ad q1), .int p2, .int p3, .long p4, .int p5] Qm) (a7 : Int32) (b8 : Int64) (b9 : Int64) (q10 : Nat) (a11 : Int32) (a12 : Int32) (b13 : Int64) (a14 : Int32) (a23 : Int32) (a24 : Int32) (hk_q10 : kd q10 = 4) (μ25 : xM) (K550 : xM → Prop) (K55b : Int32 → xM → Prop) (hq : J_X6_extend_81 a7 b8 b9 q10 a11 a12 b13 a14 a23 a24 rec μ25 K550 K55b) {H : Heap} {locs : List Loc} {ls : Array Slot} (hH : xH E ad (xA ad s.heap.size) s.heap μ25 H locs) (hl : lv_has ls 14 [(10, .int a7), (8, .long b8), (6, .long b9), (0, .ref (ad q10)), (1, .int a11), (2, .int a12), (3, .long b13), (5, .int a14), (11, .int a23)]) (kK550 : ∀ (μ18 : xM), K550  μ18 → ∀ (H : Heap) (locs : List Loc) (ls : Array Slot), xH E ad (xA ad s.heap.size) s.heap μ18 H locs → lv_has ls 14 [] → W p l e (headSpec tX6_extend (xrm (d + 1))).room s m args below meth c H locs 0 0 Q (F0 m 171 ls [])) (kK55b : ∀ (a19 : Int32) (μ20 : xM), K55b a19 μ20 → ∀ (H : Heap) (locs : List Loc) (ls : Array Slot), xH E ad (xA ad s.heap.size) s.heap μ20 H locs → lv_has ls 14 [(10, .int a7), (8, .long b8), (6, .long b9), (0, .ref (ad q10)), (1, .int a11), (2, .int a12), (3, .long b13), (5, .int a14), (11, .int a19)] → W p l e (headSpec tX6_extend (xrm (d + 1))).room s m args below meth c H locs 0 0 Q (F0 m 55 ls [])) : W p l e (headSpec tX6_extend (xrm (d + 1))).room s m args below meth c H locs 0 0 Q (F0 m 81 ls [.int a24]) := by
  obtain ⟨hx, hb, hml, hown, hts, hKn, hN, hlk⟩ := id G
  unfold J_X6_extend_81 at hq
  refine lv_istore (lv' := [(12, .int a24), (10, .int a7), (8, .long b8), (6, .long b9), (0, .ref (ad q10)), (1, .int a11), (2, .int a12), (3, .long b13), (5, .int a14), (11, .int a23)]) hx hb dX6_extend_81 hl (by decide) rfl (fun ls hl => ?_)
  refine lv_iload hx hb dX6_extend_83 (lv_at hl 0 rfl) ?_
  refine lv_if_eq (tgt := 165) hx hb dX6_extend_85 (by decide) (fun c26 => ?_) (fun c26 => ?_)
  · have hq := hq.1 c26
    obtain ⟨v27, e_v27⟩ : ∃ y : Int32, y = (a23 + (1 : Int32)) := ⟨_, rfl⟩
    have hq := hq v27 e_v27
    refine lv_iinc (v := v27) (lv' := [(11, .int v27), (12, .int a24), (10, .int a7), (8, .long b8), (6, .long b9), (0, .ref (ad q10)), (1, .int a11), (2, .int a12), (3, .long b13), (5, .int a14)]) hx hb dX6_extend_165 hl (k := 9) rfl (by rw [e_v27]; rfl) (by decide) rfl (fun ls hl => ?_)
    refine lv_goto (tgt := 55) hx hb dX6_extend_168 (by decide) ?_
    exact kK55b v27 μ25 hq _ _ _ hH (lv_sub hl [2, 3, 4, 5, 6, 7, 8, 9, 0] rfl)
  · have hq := hq.2 c26
    refine lv_aload_n hx hb dX6_extend_88 rfl (lv_at hl 4 rfl) ?_
    refine x_get (j := 0) (C := RX6) (T := TX6) (N := 11) (v := .ref (ad (rt q10 0))) G hH hk_q10 (by decide) rfl inlX6 (by decide) (wm_5 _ (List.mem_of_getElem? (i := 10) rfl)) rfl dX6_extend_89 ?_
    refine lv_iload hx hb dX6_extend_92 (lv_at hl 9 rfl) ?_
    refine lv_iload_n hx hb dX6_extend_94 rfl (lv_at hl 6 rfl) ?_
    refine x_cVi (C := RX0) (T := TX0) (N := 9) (As := [.int a23, .int a12]) (rest := []) G hH hA (c_X0_mayFollow l E ad μ25 (rt q10 0) a23 a12 (kt_4_0 _ hk_q10) _ hq) (wm_18 _ (List.mem_of_getElem? (i := 3) rfl)) mi_X0_mayFollow ms_X0_mayFollow mn_RX0 mc_X0_mayFollow rfl md_X0_mayFollow ⟨rfl, rfl, by show 2 + 1 ≤ d + 1 + 5; omega, by show 8 + (3 + 11) + 80 ≤ 40 * (d + 1) + 200; omega⟩ (kt_4_0 _ hk_q10) (by decide) rfl rfl hl.1 rfl (Nat.le_of_ble_eq_true rfl) dX6_extend_95 ⟨Nat.zero_le _, Nat.zero_le _⟩ (fun r29 μ28 hq H locs hH => ?_)
    refine lv_if_ne (tgt := 104) hx hb dX6_extend_98 (by decide) (fun c30 => ?_) (fun c30 => ?_)
    · have hq := hq.1 c30
      refine lv_aload_n hx hb dX6_extend_104 rfl (lv_at hl 4 rfl) ?_
      refine x_get (j := 1) (C := RX6) (T := TX6) (N := 11) (v := .ref (ad (rt q10 1))) G hH hk_q10 (by decide) rfl inlX6 (by decide) (wm_4 _ (List.mem_of_getElem? (i := 21) rfl)) rfl dX6_extend_105 ?_
      refine lv_lload hx hb dX6_extend_108 (lv_at hl 3 rfl) ?_
      refine lv_lload hx hb dX6_extend_110 (lv_at hl 2 rfl) ?_
      refine lv_iload hx hb dX6_extend_112 (lv_at hl 1 rfl) ?_
      refine x_cVv (C := RX7) (T := TX7) (N := 3) (As := [.long b9, .long b8, .int a7]) (rest := []) G hH hA (c_X7_lay l E ad μ28 (rt q10 1) b9 b8 a7 (kt_4_1 _ hk_q10) _ hq) (wm_21 _ (List.mem_of_getElem? (i := 20) rfl)) mi_X7_lay ms_X7_lay mn_RX7 mc_X7_lay rfl md_X7_lay ⟨rfl, rfl, by show 1 + 1 ≤ d + 1 + 5; omega, by show 8 + (6 + 11) + 40 ≤ 40 * (d + 1) + 200; omega⟩ (kt_4_1 _ hk_q10) (by decide) rfl rfl hl.1 rfl (Nat.le_of_ble_eq_true rfl) dX6_extend_114 ⟨Nat.zero_le _, Nat.zero_le _⟩ (fun μ31 hq H locs hH => ?_)
      refine lv_aload_n hx hb dX6_extend_117 rfl (lv_at hl 4 rfl) ?_
      refine x_get (j := 0) (C := RX6) (T := TX6) (N := 11) (v := .ref (ad (rt q10 0))) G hH hk_q10 (by decide) rfl inlX6 (by decide) (wm_5 _ (List.mem_of_getElem? (i := 10) rfl)) rfl dX6_extend_118 ?_
      refine lv_aload_n hx hb dX6_extend_121 rfl (lv_at hl 4 rfl) ?_
      refine x_get (j := 1) (C := RX6) (T := TX6) (N := 11) (v := .ref (ad (rt q10 1))) G hH hk_q10 (by decide) rfl inlX6 (by decide) (wm_4 _ (List.mem_of_getElem? (i := 21) rfl)) rfl dX6_extend_122 ?_
      refine lv_iload hx hb dX6_extend_125 (lv_at hl 9 rfl) ?_
      refine x_cVv (C := RX0) (T := TX0) (N := 9) (As := [.ref (ad (rt q10 1)), .int a23]) (rest := []) G hH hA (c_X0_printOn l E ad μ31 (rt q10 0) (rt q10 1) a23 (kt_4_0 _ hk_q10) (kt_4_1 _ hk_q10) _ hq) (wm_21 _ (List.mem_of_getElem? (i := 21) rfl)) mi_X0_printOn ms_X0_printOn mn_RX0 mc_X0_printOn rfl md_X0_printOn ⟨rfl, rfl, by show 4 + 1 ≤ d + 1 + 5; omega, by show 8 + (3 + 11) + 160 ≤ 40 * (d + 1) + 200; omega⟩ (kt_4_0 _ hk_q10) (by decide) rfl rfl hl.1 rfl (Nat.le_of_ble_eq_true rfl) dX6_extend_127 ⟨Nat.zero_le _, Nat.zero_le _⟩ (fun μ32 hq H locs hH => ?_)
      refine lv_iload hx hb dX6_extend_130 (lv_at hl 8 rfl) ?_
      refine lv_aload_n hx hb dX6_extend_132 rfl (lv_at hl 4 rfl) ?_
      refine lv_iload hx hb dX6_extend_133 (lv_at hl 9 rfl) ?_
      refine lv_iload_n hx hb dX6_extend_135 rfl (lv_at hl 5 rfl) ?_
      refine lv_lload_n hx hb dX6_extend_136 rfl (lv_at hl 7 rfl) ?_
      refine x_cVi (C := RX6) (T := TX6) (N := 11) (As := [.int a23, .int a11, .long b13]) (rest := [.int a14]) G hH hA (c_X6_smearOf l E ad μ32 q10 a23 a11 b13 hk_q10 _ hq) (wm_22 _ (List.mem_of_getElem? (i := 21) rfl)) mi_X6_smearOf ms_X6_smearOf mn_RX6 mc_X6_smearOf rfl md_X6_smearOf ⟨rfl, rfl, by show 3 + 1 ≤ d + 1 + 5; omega, by show 8 + (9 + 11) + 120 ≤ 40 * (d + 1) + 200; omega⟩ hk_q10 (by decide) rfl rfl hl.1 rfl (Nat.le_of_ble_eq_true rfl) dX6_extend_137 ⟨Nat.zero_le _, Nat.zero_le _⟩ (fun r34 μ33 hq H locs hH => ?_)
      refine lv_iadd hx hb dX6_extend_140 ?_
      refine lv_topi (fun v35 e_v35 => ?_)
      have hq := hq v35 e_v35
      refine lv_istore (lv' := [(13, .int v35), (12, .int a24), (10, .int a7), (8, .long b8), (6, .long b9), (0, .ref (ad q10)), (1, .int a11), (2, .int a12), (3, .long b13), (5, .int a14), (11, .int a23)]) hx hb dX6_extend_141 hl (by decide) rfl (fun ls hl => ?_)
      refine lv_aload_n hx hb dX6_extend_143 rfl (lv_at hl 5 rfl) ?_
      refine lv_iload_n hx hb dX6_extend_144 rfl (lv_at hl 6 rfl) ?_
      refine lv_iconst (v := (1 : Int32)) hx hb dX6_extend_145 (by decide) ?_
      refine lv_iadd hx hb dX6_extend_146 ?_
      refine lv_iload_n hx hb dX6_extend_147 rfl (lv_at hl 7 rfl) ?_
      refine lv_iconst (v := (1 : Int32)) hx hb dX6_extend_148 (by decide) ?_
      refine lv_iload hx hb dX6_extend_149 (lv_at hl 10 rfl) ?_
      refine lv_ishl hx hb dX6_extend_151 ?_
      refine lv_ior hx hb dX6_extend_152 ?_
      refine lv_lload_n hx hb dX6_extend_153 rfl (lv_at hl 8 rfl) ?_
      refine lv_iload_n hx hb dX6_extend_154 rfl (lv_at hl 6 rfl) ?_
      refine lv_iload hx hb dX6_extend_155 (lv_at hl 10 rfl) ?_
      refine x_cSl (As := [.long b13, .int a11, .int a23]) (rest := [.int (a12 ||| ((1 : Int32) <<< (a23 &&& 31))), .int (a11 + (1 : Int32)), .ref (ad q10)]) G hH hA (c_X1_withNibble l E ad μ33 b13 a11 a23  _ hq) (wm_23 _ (List.mem_of_getElem? (i := 8) rfl)) mt_X1_withNibble mn_RX1 mc_X1_withNibble md_X1_withNibble ⟨rfl, rfl, by show 1 + 1 ≤ d + 1 + 5; omega, by show 8 + (4 + 11) + 40 ≤ 40 * (d + 1) + 200; omega⟩ rfl hl.1 rfl (Nat.le_of_ble_eq_true rfl) dX6_extend_157 ⟨Nat.zero_le _, Nat.zero_le _⟩ (fun r37 μ36 hq H locs hH => ?_)
      refine lv_iload hx hb dX6_extend_160 (lv_at hl 0 rfl) ?_
      refine x_cSv (As := [.ref (ad q10), .int (a11 + (1 : Int32)), .int (a12 ||| ((1 : Int32) <<< (a23 &&& 31))), .long r37, .int v35]) (rest := []) G hH hA (ihd μ36 q10 (a11 + (1 : Int32)) (a12 ||| ((1 : Int32) <<< (a23 &&& 31))) r37 v35 hk_q10 _ hq) (wm_20 _ (List.mem_of_getElem? (i := 1) rfl)) mt_X6_extend mn_RX6 mc_X6_extend md_X6_extend ⟨rfl, rfl, by show d + 5 + 1 ≤ d + 1 + 5; omega, by show 8 + (14 + 11) + (40 * d + 200) ≤ 40 * (d + 1) + 200; omega⟩ rfl hl.1 rfl (Nat.le_of_ble_eq_true rfl) dX6_extend_162 ⟨Nat.zero_le _, Nat.zero_le _⟩ (fun μ38 hq H locs hH => ?_)
      obtain ⟨v39, e_v39⟩ : ∃ y : Int32, y = (a23 + (1 : Int32)) := ⟨_, rfl⟩
      have hq := hq v39 e_v39
      refine lv_iinc (v := v39) (lv' := [(11, .int v39), (13, .int v35), (12, .int a24), (10, .int a7), (8, .long b8), (6, .long b9), (0, .ref (ad q10)), (1, .int a11), (2, .int a12), (3, .long b13), (5, .int a14)]) hx hb dX6_extend_165 hl (k := 10) rfl (by rw [e_v39]; rfl) (by decide) rfl (fun ls hl => ?_)
      refine lv_goto (tgt := 55) hx hb dX6_extend_168 (by decide) ?_
      exact kK55b v39 μ38 hq _ _ _ hH (lv_sub hl [3, 4, 5, 6, 7, 8, 9, 10, 0] rfl)
    · have hq := hq.2 c30
      refine lv_goto (tgt := 165) hx hb dX6_extend_101 (by decide) ?_
      obtain ⟨v40, e_v40⟩ : ∃ y : Int32, y = (a23 + (1 : Int32)) := ⟨_, rfl⟩
      have hq := hq v40 e_v40
      refine lv_iinc (v := v40) (lv' := [(11, .int v40), (12, .int a24), (10, .int a7), (8, .long b8), (6, .long b9), (0, .ref (ad q10)), (1, .int a11), (2, .int a12), (3, .long b13), (5, .int a14)]) hx hb dX6_extend_165 hl (k := 9) rfl (by rw [e_v40]; rfl) (by decide) rfl (fun ls hl => ?_)
      refine lv_goto (tgt := 55) hx hb dX6_extend_168 (by decide) ?_
      exact kK55b v40 μ28 hq _ _ _ hH (lv_sub hl [2, 3, 4, 5, 6, 7, 8, 9, 0] rfl)
set_option maxRecDepth 100000 in
set_option maxHeartbeats 4000000 in
theorem wb_X6_extend_55 {E : xE} {ad : Nat → Nat} {p : Program} {l : Launch} {e : Env} {s : State} {m : MethodId} {args : Array Value} {below : List Frame} {meth : Method} {c : Code} {d : Nat} {Q : State → Prop} (G : xG E p s m args meth c cX6_extend 14 RX6) (hA : ∀ a, s.heap.size ≤ a → xA ad s.heap.size a) (rec : Nat → Int32 → Int32 → Int64 → Int32 → xM → (xM → Prop) → Prop) (ihd : ∀ (μ : xM) (q1 : Nat) (p2 p3 : Int32) (p4 : Int64) (p5 : Int32) (_ : kd q1 = 4) (Qm : xM → Prop), rec q1 p2 p3 p4 p5 μ Qm → xMv l yX6_extend tX6_extend (xrm d) E ad μ [.ref (ad q1), .int p2, .int p3, .long p4, .int p5] Qm) (a7 : Int32) (b8 : Int64) (b9 : Int64) (q10 : Nat) (a11 : Int32) (a12 : Int32) (b13 : Int64) (a14 : Int32) (hk_q10 : kd q10 = 4) (a15 : Int32) (μ17 : xM) (K550 : xM → Prop) (K55b : Int32 → xM → Prop) (hq : B_X6_extend_55 rec a7 b8 b9 q10 a11 a12 b13 a14 a15 μ17 K550 K55b) {H : Heap} {locs : List Loc} {ls : Array Slot} (hH : xH E ad (xA ad s.heap.size) s.heap μ17 H locs) (hl : lv_has ls 14 [(10, .int a7), (8, .long b8), (6, .long b9), (0, .ref (ad q10)), (1, .int a11), (2, .int a12), (3, .long b13), (5, .int a14), (11, .int a15)]) (kK550 : ∀ (μ18 : xM), K550  μ18 → ∀ (H : Heap) (locs : List Loc) (ls : Array Slot), xH E ad (xA ad s.heap.size) s.heap μ18 H locs → lv_has ls 14 [] → W p l e (headSpec tX6_extend (xrm (d + 1))).room s m args below meth c H locs 0 0 Q (F0 m 171 ls [])) (kK55b : ∀ (a19 : Int32) (μ20 : xM), K55b a19 μ20 → ∀ (H : Heap) (locs : List Loc) (ls : Array Slot), xH E ad (xA ad s.heap.size) s.heap μ20 H locs → lv_has ls 14 [(10, .int a7), (8, .long b8), (6, .long b9), (0, .ref (ad q10)), (1, .int a11), (2, .int a12), (3, .long b13), (5, .int a14), (11, .int a19)] → W p l e (headSpec tX6_extend (xrm (d + 1))).room s m args below meth c H locs 0 0 Q (F0 m 55 ls [])) : W p l e (headSpec tX6_extend (xrm (d + 1))).room s m args below meth c H locs 0 0 Q (F0 m 55 ls []) := by
  obtain ⟨hx, hb, hml, hown, hts, hKn, hN, hlk⟩ := id G
  unfold B_X6_extend_55 at hq
  refine lv_iload hx hb dX6_extend_55 (lv_at hl 8 rfl) ?_
  refine lv_aload_n hx hb dX6_extend_57 rfl (lv_at hl 3 rfl) ?_
  refine x_get (j := 0) (C := RX6) (T := TX6) (N := 11) (v := .ref (ad (rt q10 0))) G hH hk_q10 (by decide) rfl inlX6 (by decide) (wm_5 _ (List.mem_of_getElem? (i := 10) rfl)) rfl dX6_extend_58 ?_
  refine x_get (j := 0) (C := RX0) (T := TX0) (N := 9) (v := .int (μ17.1 (rt q10 0) 0)) G hH (kt_4_0 _ hk_q10) (by decide) rfl inlX0 (by decide) (wm_17 _ (List.mem_of_getElem? (i := 21) rfl)) rfl dX6_extend_61 ?_
  refine lv_icmp_ge (tgt := 171) hx hb dX6_extend_64 (by decide) (fun c21 => ?_) (fun c21 => ?_)
  · have hq := hq.1 c21
    exact kK550  μ17 hq _ _ _ hH (lv_sub hl [] rfl)
  · have hq := hq.2 c21
    refine lv_iload_n hx hb dX6_extend_67 rfl (lv_at hl 5 rfl) ?_
    refine lv_iload hx hb dX6_extend_68 (lv_at hl 8 rfl) ?_
    refine lv_iushr (v := (uS a12 a15)) hx hb dX6_extend_70 rfl ?_
    refine lv_iconst (v := (1 : Int32)) hx hb dX6_extend_71 (by decide) ?_
    refine lv_iand hx hb dX6_extend_72 ?_
    refine lv_if_ne (tgt := 80) hx hb dX6_extend_73 (by decide) (fun c22 => ?_) (fun c22 => ?_)
    · have hq := hq.1 c22
      refine lv_iconst (v := (0 : Int32)) hx hb dX6_extend_80 (by decide) ?_
      exact wj_X6_extend_81 G hA rec ihd a7 b8 b9 q10 a11 a12 b13 a14 a15 (0 : Int32) hk_q10 μ17 _ _ hq hH (lv_sub hl [0, 1, 2, 3, 4, 5, 6, 7, 8] rfl) kK550 kK55b
    · have hq := hq.2 c22
      refine lv_iconst (v := (1 : Int32)) hx hb dX6_extend_76 (by decide) ?_
      refine lv_goto (tgt := 81) hx hb dX6_extend_77 (by decide) ?_
      exact wj_X6_extend_81 G hA rec ihd a7 b8 b9 q10 a11 a12 b13 a14 a15 (1 : Int32) hk_q10 μ17 _ _ hq hH (lv_sub hl [0, 1, 2, 3, 4, 5, 6, 7, 8] rfl) kK550 kK55b
set_option maxRecDepth 100000 in
set_option maxHeartbeats 4000000 in
theorem w_X6_extend_55 {E : xE} {ad : Nat → Nat} {p : Program} {l : Launch} {e : Env} {s : State} {m : MethodId} {args : Array Value} {below : List Frame} {meth : Method} {c : Code} {d : Nat} {Q : State → Prop} (G : xG E p s m args meth c cX6_extend 14 RX6) (hA : ∀ a, s.heap.size ≤ a → xA ad s.heap.size a) (rec : Nat → Int32 → Int32 → Int64 → Int32 → xM → (xM → Prop) → Prop) (ihd : ∀ (μ : xM) (q1 : Nat) (p2 p3 : Int32) (p4 : Int64) (p5 : Int32) (_ : kd q1 = 4) (Qm : xM → Prop), rec q1 p2 p3 p4 p5 μ Qm → xMv l yX6_extend tX6_extend (xrm d) E ad μ [.ref (ad q1), .int p2, .int p3, .long p4, .int p5] Qm) (a7 : Int32) (b8 : Int64) (b9 : Int64) (q10 : Nat) (a11 : Int32) (a12 : Int32) (b13 : Int64) (a14 : Int32) (hk_q10 : kd q10 = 4) : ∀ (n : Nat) (a15 : Int32) (μ17 : xM) (K550 : xM → Prop) (hq : L_X6_extend_55 rec a7 b8 b9 q10 a11 a12 b13 a14 n a15 μ17 K550) (H : Heap) (locs : List Loc) (ls : Array Slot) (hH : xH E ad (xA ad s.heap.size) s.heap μ17 H locs) (hl : lv_has ls 14 [(10, .int a7), (8, .long b8), (6, .long b9), (0, .ref (ad q10)), (1, .int a11), (2, .int a12), (3, .long b13), (5, .int a14), (11, .int a15)]) (kK550 : ∀ (μ18 : xM), K550  μ18 → ∀ (H : Heap) (locs : List Loc) (ls : Array Slot), xH E ad (xA ad s.heap.size) s.heap μ18 H locs → lv_has ls 14 [] → W p l e (headSpec tX6_extend (xrm (d + 1))).room s m args below meth c H locs 0 0 Q (F0 m 171 ls [])) , W p l e (headSpec tX6_extend (xrm (d + 1))).room s m args below meth c H locs 0 0 Q (F0 m 55 ls [])
  | 0, _, _, _, hq, _, _, _, _, _, _ => hq.elim
  | n + 1, a15, μ17, K550, hq, H, locs, ls, hH, hl, kK550 => wb_X6_extend_55 G hA rec ihd a7 b8 b9 q10 a11 a12 b13 a14 hk_q10 a15 μ17 K550 _ hq hH hl kK550 (fun x0 y hq H locs ls hH hl => w_X6_extend_55 G hA rec ihd a7 b8 b9 q10 a11 a12 b13 a14 hk_q10 n x0 y K550 hq H locs ls hH hl kK550)
set_option maxRecDepth 100000 in
set_option maxHeartbeats 4000000 in
theorem cb_X6_extend {l : Launch} {E : xE} {ad : Nat → Nat} {d : Nat} (rec : Nat → Int32 → Int32 → Int64 → Int32 → xM → (xM → Prop) → Prop) (ihd : ∀ (μ : xM) (q1 : Nat) (p2 p3 : Int32) (p4 : Int64) (p5 : Int32) (_ : kd q1 = 4) (Qm : xM → Prop), rec q1 p2 p3 p4 p5 μ Qm → xMv l yX6_extend tX6_extend (xrm d) E ad μ [.ref (ad q1), .int p2, .int p3, .long p4, .int p5] Qm) (μ : xM) (q1 : Nat) (p2 : Int32) (p3 : Int32) (p4 : Int64) (p5 : Int32) (hk_q1 : kd q1 = 4) (Qm : xM → Prop) (hq : pb_X6_extend rec q1 p2 p3 p4 p5 μ Qm) : xMv l yX6_extend tX6_extend (xrm (d + 1)) E ad μ [.ref (ad q1), .int p2, .int p3, .long p4, .int p5] Qm := by
  refine x_stv (cc := cX6_extend) (maxL := 14) (ret := none) (own := RX6) rfl (by decide) rfl (Nat.le_of_ble_eq_true rfl) ?_
  intro p e s m args below meth c ls G hr hA hH hl
  obtain ⟨hx, hb, hml, hown, hts, hKn, hN, hlk⟩ := id G
  have hl : lv_has ls 14 [(0, .ref (ad q1)), (1, .int p2), (2, .int p3), (3, .long p4), (5, .int p5)] := hl
  have hH : xH E ad (xA ad s.heap.size) s.heap μ s.heap [] := hH
  unfold pb_X6_extend at hq
  refine lv_iload_n hx hb dX6_extend_0 rfl (lv_at hl 1 rfl) ?_
  refine lv_aload_n hx hb dX6_extend_1 rfl (lv_at hl 0 rfl) ?_
  refine x_get (j := 0) (C := RX6) (T := TX6) (N := 11) (v := .ref (ad (rt q1 0))) G hH hk_q1 (by decide) rfl inlX6 (by decide) (wm_5 _ (List.mem_of_getElem? (i := 10) rfl)) rfl dX6_extend_2 ?_
  refine x_get (j := 0) (C := RX0) (T := TX0) (N := 9) (v := .int (μ.1 (rt q1 0) 0)) G hH (kt_4_0 _ hk_q1) (by decide) rfl inlX0 (by decide) (wm_17 _ (List.mem_of_getElem? (i := 21) rfl)) rfl dX6_extend_5 ?_
  refine lv_icmp_ge (tgt := 17) hx hb dX6_extend_8 (by decide) (fun c1 => ?_) (fun c1 => ?_)
  · have hq := hq.1 c1
    refine lv_aload_n hx hb dX6_extend_17 rfl (lv_at hl 0 rfl) ?_
    refine lv_lload_n hx hb dX6_extend_18 rfl (lv_at hl 3 rfl) ?_
    refine lv_iload hx hb dX6_extend_19 (lv_at hl 4 rfl) ?_
    refine x_cVv (C := RX6) (T := TX6) (N := 11) (As := [.long p4, .int p5]) (rest := []) G hH hA (c_X6_judge l E ad μ q1 p4 p5 hk_q1 _ hq) (wm_20 _ (List.mem_of_getElem? (i := 7) rfl)) mi_X6_judge ms_X6_judge mn_RX6 mc_X6_judge rfl md_X6_judge ⟨rfl, rfl, by show 4 + 1 ≤ d + 1 + 5; omega, by show 8 + (6 + 11) + 160 ≤ 40 * (d + 1) + 200; omega⟩ hk_q1 (by decide) rfl rfl hl.1 rfl (Nat.le_of_ble_eq_true rfl) dX6_extend_21 ⟨Nat.zero_le _, Nat.zero_le _⟩ (fun μ2 hq H locs hH => ?_)
    exact x_vret G hr hH hq dX6_extend_24
  · have hq := hq.2 c1
    refine lv_iload_n hx hb dX6_extend_11 rfl (lv_at hl 1 rfl) ?_
    refine lv_bipush (v := (6 : Int32)) hx hb dX6_extend_12 (by decide) ?_
    refine lv_icmp_lt (tgt := 25) hx hb dX6_extend_14 (by decide) (fun c3 => ?_) (fun c3 => ?_)
    · have hq := hq.1 c3
      refine lv_aload_n hx hb dX6_extend_25 rfl (lv_at hl 0 rfl) ?_
      refine x_get (j := 1) (C := RX6) (T := TX6) (N := 11) (v := .ref (ad (rt q1 1))) G hH hk_q1 (by decide) rfl inlX6 (by decide) (wm_4 _ (List.mem_of_getElem? (i := 21) rfl)) rfl dX6_extend_26 ?_
      refine x_get (j := 0) (C := RX7) (T := TX7) (N := 3) (v := .long (μ.2 (rt q1 1) 0)) G hH (kt_4_1 _ hk_q1) (by decide) rfl inlX7 (by decide) (wm_20 _ (List.mem_of_getElem? (i := 4) rfl)) rfl dX6_extend_29 ?_
      refine lv_topl (fun v4 e_v4 => ?_)
      have hq := hq v4 e_v4
      refine lv_lstore (lv' := [(6, .long v4), (0, .ref (ad q1)), (1, .int p2), (2, .int p3), (3, .long p4), (5, .int p5)]) hx hb dX6_extend_32 hl (by decide) rfl (fun ls hl => ?_)
      refine lv_aload_n hx hb dX6_extend_34 rfl (lv_at hl 1 rfl) ?_
      refine x_get (j := 1) (C := RX6) (T := TX6) (N := 11) (v := .ref (ad (rt q1 1))) G hH hk_q1 (by decide) rfl inlX6 (by decide) (wm_4 _ (List.mem_of_getElem? (i := 21) rfl)) rfl dX6_extend_35 ?_
      refine x_get (j := 1) (C := RX7) (T := TX7) (N := 3) (v := .long (μ.2 (rt q1 1) 1)) G hH (kt_4_1 _ hk_q1) (by decide) rfl inlX7 (by decide) (wm_20 _ (List.mem_of_getElem? (i := 5) rfl)) rfl dX6_extend_38 ?_
      refine lv_topl (fun v5 e_v5 => ?_)
      have hq := hq v5 e_v5
      refine lv_lstore (lv' := [(8, .long v5), (6, .long v4), (0, .ref (ad q1)), (1, .int p2), (2, .int p3), (3, .long p4), (5, .int p5)]) hx hb dX6_extend_41 hl (by decide) rfl (fun ls hl => ?_)
      refine lv_aload_n hx hb dX6_extend_43 rfl (lv_at hl 2 rfl) ?_
      refine x_get (j := 1) (C := RX6) (T := TX6) (N := 11) (v := .ref (ad (rt q1 1))) G hH hk_q1 (by decide) rfl inlX6 (by decide) (wm_4 _ (List.mem_of_getElem? (i := 21) rfl)) rfl dX6_extend_44 ?_
      refine x_get (j := 2) (C := RX7) (T := TX7) (N := 3) (v := .int (μ.1 (rt q1 1) 2)) G hH (kt_4_1 _ hk_q1) (by decide) rfl inlX7 (by decide) (wm_20 _ (List.mem_of_getElem? (i := 6) rfl)) rfl dX6_extend_47 ?_
      refine lv_topi (fun v6 e_v6 => ?_)
      have hq := hq v6 e_v6
      refine lv_istore (lv' := [(10, .int v6), (8, .long v5), (6, .long v4), (0, .ref (ad q1)), (1, .int p2), (2, .int p3), (3, .long p4), (5, .int p5)]) hx hb dX6_extend_50 hl (by decide) rfl (fun ls hl => ?_)
      refine lv_iconst (v := (0 : Int32)) hx hb dX6_extend_52 (by decide) ?_
      refine lv_istore (lv' := [(11, .int (0 : Int32)), (10, .int v6), (8, .long v5), (6, .long v4), (0, .ref (ad q1)), (1, .int p2), (2, .int p3), (3, .long p4), (5, .int p5)]) hx hb dX6_extend_53 hl (by decide) rfl (fun ls hl => ?_)
      obtain ⟨n16, hq⟩ := hq
      refine w_X6_extend_55 G hA rec ihd v6 v5 v4 q1 p2 p3 p4 p5 hk_q1 n16 (0 : Int32) μ _ hq _ _ _ hH (lv_sub hl [1, 2, 3, 4, 5, 6, 7, 8, 0] rfl) (fun  μ43 hq H locs ls hH hl => ?_)
      exact x_vret G hr hH hq dX6_extend_171
    · have hq := hq.2 c3
      refine lv_aload_n hx hb dX6_extend_17 rfl (lv_at hl 0 rfl) ?_
      refine lv_lload_n hx hb dX6_extend_18 rfl (lv_at hl 3 rfl) ?_
      refine lv_iload hx hb dX6_extend_19 (lv_at hl 4 rfl) ?_
      refine x_cVv (C := RX6) (T := TX6) (N := 11) (As := [.long p4, .int p5]) (rest := []) G hH hA (c_X6_judge l E ad μ q1 p4 p5 hk_q1 _ hq) (wm_20 _ (List.mem_of_getElem? (i := 7) rfl)) mi_X6_judge ms_X6_judge mn_RX6 mc_X6_judge rfl md_X6_judge ⟨rfl, rfl, by show 4 + 1 ≤ d + 1 + 5; omega, by show 8 + (6 + 11) + 160 ≤ 40 * (d + 1) + 200; omega⟩ hk_q1 (by decide) rfl rfl hl.1 rfl (Nat.le_of_ble_eq_true rfl) dX6_extend_21 ⟨Nat.zero_le _, Nat.zero_le _⟩ (fun μ44 hq H locs hH => ?_)
      exact x_vret G hr hH hq dX6_extend_24
theorem cr_X6_extend (l : Launch) (E : xE) (ad : Nat → Nat) : ∀ (d : Nat) (μ : xM) (q1 : Nat) (p2 p3 : Int32) (p4 : Int64) (p5 : Int32) (_ : kd q1 = 4) (Qm : xM → Prop), R_X6_extend d q1 p2 p3 p4 p5 μ Qm → xMv l yX6_extend tX6_extend (xrm d) E ad μ [.ref (ad q1), .int p2, .int p3, .long p4, .int p5] Qm
  | 0, _, _, _, _, _, _, _, _, hq => hq.elim
  | d + 1, μ, q1, p2, p3, p4, p5, hk, Qm, hq => cb_X6_extend (R_X6_extend d) (cr_X6_extend l E ad d) μ q1 p2 p3 p4 p5 hk Qm hq
theorem c_X6_extend (l : Launch) (E : xE) (ad : Nat → Nat) (μ : xM) (q1 : Nat) (p2 p3 : Int32) (p4 : Int64) (p5 : Int32) (hk_q1 : kd q1 = 4) (Qm : xM → Prop) (hq : p_X6_extend q1 p2 p3 p4 p5 μ Qm) : xMv l yX6_extend tX6_extend ({ frames := 13, cells := 0, slots := 0, locals := 520 } : Room) E ad μ [.ref (ad q1), .int p2, .int p3, .long p4, .int p5] Qm := cr_X6_extend l E ad 8 μ q1 p2 p3 p4 p5 hk_q1 Qm hq
abbrev tX6_run : List Cond := Cond.code yX6_run cX6_run 5 none :: wsL_law
theorem mi_X6_run : Cond.instanceMethod yX6_run ∈ wsL_law := (wm_19 _ (List.mem_of_getElem? (i := 14) rfl))
theorem ms_X6_run : Cond.selects RX6 yX6_run yX6_run ∈ wsL_law := (wm_19 _ (List.mem_of_getElem? (i := 15) rfl))
theorem mc_X6_run : Cond.code yX6_run cX6_run 5 none ∈ wsL_law := (wm_19 _ (List.mem_of_getElem? (i := 16) rfl))
theorem md_X6_run : yX6_run.cls ≠ "java/lang/invoke/MethodHandle" ∧ yX6_run.cls ≠ "java/lang/invoke/VarHandle" ∧ (parseMethodDescriptor yX6_run.desc).map (fun d => d.parameters.length) = some 3 := by decide +kernel
set_option maxRecDepth 100000 in
set_option maxHeartbeats 4000000 in
theorem c_X6_run (l : Launch) (E : xE) (ad : Nat → Nat) (μ : xM) (q0 : Nat) (p1 : Int32) (p2 : Int32) (p3 : Int64) (hk_q0 : kd q0 = 4) (Qm : xM → Prop) (hq : p_X6_run q0 p1 p2 p3 μ Qm) : xMv l yX6_run tX6_run ({ frames := 14, cells := 0, slots := 0, locals := 560 } : Room) E ad μ [.ref (ad q0), .int p1, .int p2, .long p3] Qm := by
  refine x_stv (cc := cX6_run) (maxL := 5) (ret := none) (own := RX6) rfl (by decide) rfl (Nat.le_of_ble_eq_true rfl) ?_
  intro p e s m args below meth c ls G hr hA hH hl
  obtain ⟨hx, hb, hml, hown, hts, hKn, hN, hlk⟩ := id G
  have hl : lv_has ls 5 [(0, .ref (ad q0)), (1, .int p1), (2, .int p2), (3, .long p3)] := hl
  have hH : xH E ad (xA ad s.heap.size) s.heap μ s.heap [] := hH
  unfold p_X6_run at hq
  refine lv_aload_n hx hb dX6_run_0 rfl (lv_at hl 0 rfl) ?_
  refine lv_iload_n hx hb dX6_run_1 rfl (lv_at hl 1 rfl) ?_
  refine x_puti (j := 4) (C := RX6) (T := TX6) (N := 11) (ty := .int) G hH hk_q0 (by decide) rfl inlX6 tyX6 tyX6_ok nmX6 (by decide) (wm_5 _ (List.mem_of_getElem? (i := 3) rfl)) rfl (by decide +kernel) rfl rfl (fun _ _ => Nat.le_of_ble_eq_true rfl) (fun _ _ => rfl) dX6_run_2 (fun μ1 e_μ1 H locs hH => ?_)
  have hq := hq μ1 e_μ1
  refine lv_aload_n hx hb dX6_run_5 rfl (lv_at hl 0 rfl) ?_
  refine lv_iload_n hx hb dX6_run_6 rfl (lv_at hl 2 rfl) ?_
  refine x_puti (j := 5) (C := RX6) (T := TX6) (N := 11) (ty := .int) G hH hk_q0 (by decide) rfl inlX6 tyX6 tyX6_ok nmX6 (by decide) (wm_5 _ (List.mem_of_getElem? (i := 4) rfl)) rfl (by decide +kernel) rfl rfl (fun _ _ => Nat.le_of_ble_eq_true rfl) (fun _ _ => rfl) dX6_run_7 (fun μ2 e_μ2 H locs hH => ?_)
  have hq := hq μ2 e_μ2
  refine lv_aload_n hx hb dX6_run_10 rfl (lv_at hl 0 rfl) ?_
  refine lv_lload_n hx hb dX6_run_11 rfl (lv_at hl 3 rfl) ?_
  refine x_putl (j := 6) (C := RX6) (T := TX6) (N := 11) G hH hk_q0 (by decide) rfl inlX6 tyX6 tyX6_ok nmX6 (by decide) (wm_5 _ (List.mem_of_getElem? (i := 5) rfl)) rfl (by decide +kernel) (fun _ _ => Nat.le_of_ble_eq_true rfl) (fun _ _ => rfl) dX6_run_12 (fun μ3 e_μ3 H locs hH => ?_)
  have hq := hq μ3 e_μ3
  refine lv_aload_n hx hb dX6_run_15 rfl (lv_at hl 0 rfl) ?_
  refine lv_iconst (v := (0 : Int32)) hx hb dX6_run_16 (by decide) ?_
  refine x_puti (j := 7) (C := RX6) (T := TX6) (N := 11) (ty := .boolean) G hH hk_q0 (by decide) rfl inlX6 tyX6 tyX6_ok nmX6 (by decide) (wm_5 _ (List.mem_of_getElem? (i := 6) rfl)) rfl (by decide +kernel) rfl rfl (fun _ _ => Nat.le_of_ble_eq_true rfl) (fun _ _ => rfl) dX6_run_17 (fun μ4 e_μ4 H locs hH => ?_)
  have hq := hq μ4 e_μ4
  refine lv_aload_n hx hb dX6_run_20 rfl (lv_at hl 0 rfl) ?_
  refine x_get (j := 2) (C := RX6) (T := TX6) (N := 11) (v := .ref (ad (rt q0 2))) G hH hk_q0 (by decide) rfl inlX6 (by decide) (wm_5 _ (List.mem_of_getElem? (i := 1) rfl)) rfl dX6_run_21 ?_
  refine x_cVv (C := RX8) (T := TX8) (N := 5) (As := []) (rest := []) G hH hA (c_X8_empty l E ad μ4 (rt q0 2) (kt_4_2 _ hk_q0) _ hq) (wm_19 _ (List.mem_of_getElem? (i := 17) rfl)) mi_X8_empty ms_X8_empty mn_RX8 mc_X8_empty rfl md_X8_empty ⟨rfl, rfl, Nat.le_of_ble_eq_true rfl, Nat.le_of_ble_eq_true rfl⟩ (kt_4_2 _ hk_q0) (by decide) rfl rfl hl.1 rfl (Nat.le_of_ble_eq_true rfl) dX6_run_24 ⟨Nat.zero_le _, Nat.zero_le _⟩ (fun μ5 hq H locs hH => ?_)
  refine lv_aload_n hx hb dX6_run_27 rfl (lv_at hl 0 rfl) ?_
  refine x_get (j := 1) (C := RX6) (T := TX6) (N := 11) (v := .ref (ad (rt q0 1))) G hH hk_q0 (by decide) rfl inlX6 (by decide) (wm_4 _ (List.mem_of_getElem? (i := 21) rfl)) rfl dX6_run_28 ?_
  refine x_cVv (C := RX7) (T := TX7) (N := 3) (As := []) (rest := []) G hH hA (c_X7_wipe l E ad μ5 (rt q0 1) (kt_4_1 _ hk_q0) _ hq) (wm_19 _ (List.mem_of_getElem? (i := 21) rfl)) mi_X7_wipe ms_X7_wipe mn_RX7 mc_X7_wipe rfl md_X7_wipe ⟨rfl, rfl, Nat.le_of_ble_eq_true rfl, Nat.le_of_ble_eq_true rfl⟩ (kt_4_1 _ hk_q0) (by decide) rfl rfl hl.1 rfl (Nat.le_of_ble_eq_true rfl) dX6_run_31 ⟨Nat.zero_le _, Nat.zero_le _⟩ (fun μ6 hq H locs hH => ?_)
  refine lv_aload_n hx hb dX6_run_34 rfl (lv_at hl 0 rfl) ?_
  refine lv_iconst (v := (0 : Int32)) hx hb dX6_run_35 (by decide) ?_
  refine lv_iconst (v := (0 : Int32)) hx hb dX6_run_36 (by decide) ?_
  refine lv_lconst (v := (0 : Int64)) hx hb dX6_run_37 (by decide) ?_
  refine lv_iconst (v := (0 : Int32)) hx hb dX6_run_38 (by decide) ?_
  refine x_cSv (As := [.ref (ad q0), .int (0 : Int32), .int (0 : Int32), .long (0 : Int64), .int (0 : Int32)]) (rest := []) G hH hA (c_X6_extend l E ad μ6 q0 (0 : Int32) (0 : Int32) (0 : Int64) (0 : Int32) hk_q0 _ hq) (wm_20 _ (List.mem_of_getElem? (i := 1) rfl)) mt_X6_extend mn_RX6 mc_X6_extend md_X6_extend ⟨rfl, rfl, Nat.le_of_ble_eq_true rfl, Nat.le_of_ble_eq_true rfl⟩ rfl hl.1 rfl (Nat.le_of_ble_eq_true rfl) dX6_run_39 ⟨Nat.zero_le _, Nat.zero_le _⟩ (fun μ7 hq H locs hH => ?_)
  exact x_vret G hr hH hq dX6_run_42
abbrev tX11_least : List Cond := Cond.code yX11_least cX11_least 3 (some .int) :: wsL_law
theorem mi_X11_least : Cond.instanceMethod yX11_least ∈ wsL_law := (wm_19 _ (List.mem_of_getElem? (i := 5) rfl))
theorem ms_X11_least : Cond.selects RX11 yX11_least yX11_least ∈ wsL_law := (wm_19 _ (List.mem_of_getElem? (i := 6) rfl))
theorem mc_X11_least : Cond.code yX11_least cX11_least 3 (some .int) ∈ wsL_law := (wm_19 _ (List.mem_of_getElem? (i := 7) rfl))
theorem md_X11_least : yX11_least.cls ≠ "java/lang/invoke/MethodHandle" ∧ yX11_least.cls ≠ "java/lang/invoke/VarHandle" ∧ (parseMethodDescriptor yX11_least.desc).map (fun d => d.parameters.length) = some 2 := by decide +kernel
set_option maxRecDepth 100000 in
set_option maxHeartbeats 4000000 in
theorem c_X11_least (l : Launch) (E : xE) (ad : Nat → Nat) (μ : xM) (q0 : Nat) (p1 : Int32) (p2 : Int32) (hk_q0 : kd q0 = 9) (Qm : Int32 → xM → Prop) (hq : p_X11_least q0 p1 p2 μ Qm) : xMi l yX11_least tX11_least ({ frames := 15, cells := 0, slots := 0, locals := 600 } : Room) E ad μ [.ref (ad q0), .int p1, .int p2] Qm := by
  refine x_sti (cc := cX11_least) (maxL := 3) (ret := (some .int)) (own := RX11) rfl (by decide) rfl (Nat.le_of_ble_eq_true rfl) ?_
  intro p e s m args below meth c ls G hr hA hH hl
  obtain ⟨hx, hb, hml, hown, hts, hKn, hN, hlk⟩ := id G
  have hl : lv_has ls 3 [(0, .ref (ad q0)), (1, .int p1), (2, .int p2)] := hl
  have hH : xH E ad (xA ad s.heap.size) s.heap μ s.heap [] := hH
  unfold p_X11_least at hq
  refine lv_iload_n hx hb dX11_least_0 rfl (lv_at hl 1 rfl) ?_
  refine lv_iconst (v := (1 : Int32)) hx hb dX11_least_1 (by decide) ?_
  refine lv_bipush (v := (9 : Int32)) hx hb dX11_least_2 (by decide) ?_
  refine x_cSi (As := [.int p1, .int (1 : Int32), .int (9 : Int32)]) (rest := []) G hH hA (c_X11_within l E ad μ p1 (1 : Int32) (9 : Int32)  _ hq) (wm_7 _ (List.mem_of_getElem? (i := 20) rfl)) mt_X11_within mn_RX11 mc_X11_within md_X11_within ⟨rfl, rfl, Nat.le_of_ble_eq_true rfl, Nat.le_of_ble_eq_true rfl⟩ rfl hl.1 rfl (Nat.le_of_ble_eq_true rfl) dX11_least_4 ⟨Nat.zero_le _, Nat.zero_le _⟩ (fun r2 μ1 hq H locs hH => ?_)
  refine lv_if_eq (tgt := 15) hx hb dX11_least_7 (by decide) (fun c3 => ?_) (fun c3 => ?_)
  · have hq := hq.1 c3
    refine lv_aload_n hx hb dX11_least_15 rfl (lv_at hl 0 rfl) ?_
    refine lv_bipush (v := (-2 : Int32)) hx hb dX11_least_16 (by decide) ?_
    refine x_cVi (C := RX11) (T := TX11) (N := 8) (As := [.int (-2 : Int32)]) (rest := []) G hH hA (c_X11_refuseOrder l E ad μ1 q0 (-2 : Int32) hk_q0 _ hq) (wm_19 _ (List.mem_of_getElem? (i := 9) rfl)) mi_X11_refuseOrder ms_X11_refuseOrder mn_RX11 mc_X11_refuseOrder rfl md_X11_refuseOrder ⟨rfl, rfl, Nat.le_of_ble_eq_true rfl, Nat.le_of_ble_eq_true rfl⟩ hk_q0 (by decide) rfl rfl hl.1 rfl (Nat.le_of_ble_eq_true rfl) dX11_least_18 ⟨Nat.zero_le _, Nat.zero_le _⟩ (fun r5 μ4 hq H locs hH => ?_)
    exact x_iret G hr hH hq dX11_least_21
  · have hq := hq.2 c3
    refine lv_iload_n hx hb dX11_least_10 rfl (lv_at hl 2 rfl) ?_
    refine lv_iconst (v := (-1 : Int32)) hx hb dX11_least_11 (by decide) ?_
    refine lv_icmp_ge (tgt := 22) hx hb dX11_least_12 (by decide) (fun c6 => ?_) (fun c6 => ?_)
    · have hq := hq.1 c6
      refine lv_aload_n hx hb dX11_least_22 rfl (lv_at hl 0 rfl) ?_
      refine x_get (j := 2) (C := RX11) (T := TX11) (N := 8) (v := .ref (ad (rt q0 2))) G hH hk_q0 (by decide) rfl inlX11 (by decide) (wm_2 _ (List.mem_of_getElem? (i := 0) rfl)) rfl dX11_least_23 ?_
      refine x_cVi (C := RX6) (T := TX6) (N := 11) (As := []) (rest := []) G hH hA (c_X6_countLawful l E ad μ1 (rt q0 2) (kt_9_2 _ hk_q0) _ hq) (wm_17 _ (List.mem_of_getElem? (i := 17) rfl)) mi_X6_countLawful ms_X6_countLawful mn_RX6 mc_X6_countLawful rfl md_X6_countLawful ⟨rfl, rfl, Nat.le_of_ble_eq_true rfl, Nat.le_of_ble_eq_true rfl⟩ (kt_9_2 _ hk_q0) (by decide) rfl rfl hl.1 rfl (Nat.le_of_ble_eq_true rfl) dX11_least_26 ⟨Nat.zero_le _, Nat.zero_le _⟩ (fun r8 μ7 hq H locs hH => ?_)
      refine lv_if_ne (tgt := 39) hx hb dX11_least_29 (by decide) (fun c9 => ?_) (fun c9 => ?_)
      · have hq := hq.1 c9
        refine lv_aload_n hx hb dX11_least_39 rfl (lv_at hl 0 rfl) ?_
        refine x_get (j := 2) (C := RX11) (T := TX11) (N := 8) (v := .ref (ad (rt q0 2))) G hH hk_q0 (by decide) rfl inlX11 (by decide) (wm_2 _ (List.mem_of_getElem? (i := 0) rfl)) rfl dX11_least_40 ?_
        refine lv_iconst (v := (0 : Int32)) hx hb dX11_least_43 (by decide) ?_
        refine lv_iload_n hx hb dX11_least_44 rfl (lv_at hl 1 rfl) ?_
        refine lv_aload_n hx hb dX11_least_45 rfl (lv_at hl 0 rfl) ?_
        refine x_get (j := 0) (C := RX11) (T := TX11) (N := 8) (v := .ref (ad (rt q0 0))) G hH hk_q0 (by decide) rfl inlX11 (by decide) (wm_1 _ (List.mem_of_getElem? (i := 15) rfl)) rfl dX11_least_46 ?_
        refine x_get (j := 2) (C := RX9) (T := TX9) (N := 3) (v := .long (μ7.2 (rt q0 0) 2)) G hH (kt_9_0 _ hk_q0) (by decide) rfl inlX9 (by decide) (wm_15 _ (List.mem_of_getElem? (i := 0) rfl)) rfl dX11_least_49 ?_
        refine x_cVv (C := RX6) (T := TX6) (N := 11) (As := [.int (0 : Int32), .int p1, .long (μ7.2 (rt q0 0) 2)]) (rest := []) G hH hA (c_X6_run l E ad μ7 (rt q0 2) (0 : Int32) p1 (μ7.2 (rt q0 0) 2) (kt_9_2 _ hk_q0) _ hq) (wm_19 _ (List.mem_of_getElem? (i := 13) rfl)) mi_X6_run ms_X6_run mn_RX6 mc_X6_run rfl md_X6_run ⟨rfl, rfl, Nat.le_of_ble_eq_true rfl, Nat.le_of_ble_eq_true rfl⟩ (kt_9_2 _ hk_q0) (by decide) rfl rfl hl.1 rfl (Nat.le_of_ble_eq_true rfl) dX11_least_52 ⟨Nat.zero_le _, Nat.zero_le _⟩ (fun μ10 hq H locs hH => ?_)
        refine lv_iload_n hx hb dX11_least_55 rfl (lv_at hl 2 rfl) ?_
        refine lv_iconst (v := (-1 : Int32)) hx hb dX11_least_56 (by decide) ?_
        refine lv_icmp_ne (tgt := 70) hx hb dX11_least_57 (by decide) (fun c11 => ?_) (fun c11 => ?_)
        · have hq := hq.1 c11
          refine lv_aload_n hx hb dX11_least_70 rfl (lv_at hl 0 rfl) ?_
          refine lv_iload_n hx hb dX11_least_71 rfl (lv_at hl 2 rfl) ?_
          refine x_cVi (C := RX11) (T := TX11) (N := 8) (As := [.int p2]) (rest := []) G hH hA (c_X11_blockOfBest l E ad μ10 q0 p2 hk_q0 _ hq) (wm_23 _ (List.mem_of_getElem? (i := 9) rfl)) mi_X11_blockOfBest ms_X11_blockOfBest mn_RX11 mc_X11_blockOfBest rfl md_X11_blockOfBest ⟨rfl, rfl, Nat.le_of_ble_eq_true rfl, Nat.le_of_ble_eq_true rfl⟩ hk_q0 (by decide) rfl rfl hl.1 rfl (Nat.le_of_ble_eq_true rfl) dX11_least_72 ⟨Nat.zero_le _, Nat.zero_le _⟩ (fun r13 μ12 hq H locs hH => ?_)
          exact x_iret G hr hH hq dX11_least_75
        · have hq := hq.2 c11
          refine lv_aload_n hx hb dX11_least_60 rfl (lv_at hl 0 rfl) ?_
          refine x_get (j := 2) (C := RX11) (T := TX11) (N := 8) (v := .ref (ad (rt q0 2))) G hH hk_q0 (by decide) rfl inlX11 (by decide) (wm_2 _ (List.mem_of_getElem? (i := 0) rfl)) rfl dX11_least_61 ?_
          refine x_get (j := 9) (C := RX6) (T := TX6) (N := 11) (v := .int (μ10.1 (rt q0 2) 9)) G hH (kt_9_2 _ hk_q0) (by decide) rfl inlX6 (by decide) (wm_19 _ (List.mem_of_getElem? (i := 8) rfl)) rfl dX11_least_64 ?_
          refine lv_goto (tgt := 75) hx hb dX11_least_67 (by decide) ?_
          exact x_iret G hr hH hq dX11_least_75
      · have hq := hq.2 c9
        refine lv_aload_n hx hb dX11_least_32 rfl (lv_at hl 0 rfl) ?_
        refine lv_bipush (v := (-3 : Int32)) hx hb dX11_least_33 (by decide) ?_
        refine x_cVi (C := RX11) (T := TX11) (N := 8) (As := [.int (-3 : Int32)]) (rest := []) G hH hA (c_X11_refuseOrder l E ad μ7 q0 (-3 : Int32) hk_q0 _ hq) (wm_19 _ (List.mem_of_getElem? (i := 9) rfl)) mi_X11_refuseOrder ms_X11_refuseOrder mn_RX11 mc_X11_refuseOrder rfl md_X11_refuseOrder ⟨rfl, rfl, Nat.le_of_ble_eq_true rfl, Nat.le_of_ble_eq_true rfl⟩ hk_q0 (by decide) rfl rfl hl.1 rfl (Nat.le_of_ble_eq_true rfl) dX11_least_35 ⟨Nat.zero_le _, Nat.zero_le _⟩ (fun r15 μ14 hq H locs hH => ?_)
        exact x_iret G hr hH hq dX11_least_38
    · have hq := hq.2 c6
      refine lv_aload_n hx hb dX11_least_15 rfl (lv_at hl 0 rfl) ?_
      refine lv_bipush (v := (-2 : Int32)) hx hb dX11_least_16 (by decide) ?_
      refine x_cVi (C := RX11) (T := TX11) (N := 8) (As := [.int (-2 : Int32)]) (rest := []) G hH hA (c_X11_refuseOrder l E ad μ1 q0 (-2 : Int32) hk_q0 _ hq) (wm_19 _ (List.mem_of_getElem? (i := 9) rfl)) mi_X11_refuseOrder ms_X11_refuseOrder mn_RX11 mc_X11_refuseOrder rfl md_X11_refuseOrder ⟨rfl, rfl, Nat.le_of_ble_eq_true rfl, Nat.le_of_ble_eq_true rfl⟩ hk_q0 (by decide) rfl rfl hl.1 rfl (Nat.le_of_ble_eq_true rfl) dX11_least_18 ⟨Nat.zero_le _, Nat.zero_le _⟩ (fun r17 μ16 hq H locs hH => ?_)
      exact x_iret G hr hH hq dX11_least_21
abbrev tX11_nearest : List Cond := Cond.code yX11_nearest cX11_nearest 3 (some .int) :: wsL_law
theorem mi_X11_nearest : Cond.instanceMethod yX11_nearest ∈ wsL_law := (wm_25 _ (List.mem_of_getElem? (i := 2) rfl))
theorem ms_X11_nearest : Cond.selects RX11 yX11_nearest yX11_nearest ∈ wsL_law := (wm_25 _ (List.mem_of_getElem? (i := 3) rfl))
theorem mc_X11_nearest : Cond.code yX11_nearest cX11_nearest 3 (some .int) ∈ wsL_law := (wm_25 _ (List.mem_of_getElem? (i := 4) rfl))
theorem md_X11_nearest : yX11_nearest.cls ≠ "java/lang/invoke/MethodHandle" ∧ yX11_nearest.cls ≠ "java/lang/invoke/VarHandle" ∧ (parseMethodDescriptor yX11_nearest.desc).map (fun d => d.parameters.length) = some 2 := by decide +kernel
set_option maxRecDepth 100000 in
set_option maxHeartbeats 4000000 in
theorem c_X11_nearest (l : Launch) (E : xE) (ad : Nat → Nat) (μ : xM) (q0 : Nat) (p1 : Int32) (p2 : Int32) (hk_q0 : kd q0 = 9) (Qm : Int32 → xM → Prop) (hq : p_X11_nearest q0 p1 p2 μ Qm) : xMi l yX11_nearest tX11_nearest ({ frames := 15, cells := 0, slots := 0, locals := 600 } : Room) E ad μ [.ref (ad q0), .int p1, .int p2] Qm := by
  refine x_sti (cc := cX11_nearest) (maxL := 3) (ret := (some .int)) (own := RX11) rfl (by decide) rfl (Nat.le_of_ble_eq_true rfl) ?_
  intro p e s m args below meth c ls G hr hA hH hl
  obtain ⟨hx, hb, hml, hown, hts, hKn, hN, hlk⟩ := id G
  have hl : lv_has ls 3 [(0, .ref (ad q0)), (1, .int p1), (2, .int p2)] := hl
  have hH : xH E ad (xA ad s.heap.size) s.heap μ s.heap [] := hH
  unfold p_X11_nearest at hq
  refine lv_iload_n hx hb dX11_nearest_0 rfl (lv_at hl 1 rfl) ?_
  refine lv_iconst (v := (1 : Int32)) hx hb dX11_nearest_1 (by decide) ?_
  refine lv_bipush (v := (9 : Int32)) hx hb dX11_nearest_2 (by decide) ?_
  refine x_cSi (As := [.int p1, .int (1 : Int32), .int (9 : Int32)]) (rest := []) G hH hA (c_X11_within l E ad μ p1 (1 : Int32) (9 : Int32)  _ hq) (wm_7 _ (List.mem_of_getElem? (i := 20) rfl)) mt_X11_within mn_RX11 mc_X11_within md_X11_within ⟨rfl, rfl, Nat.le_of_ble_eq_true rfl, Nat.le_of_ble_eq_true rfl⟩ rfl hl.1 rfl (Nat.le_of_ble_eq_true rfl) dX11_nearest_4 ⟨Nat.zero_le _, Nat.zero_le _⟩ (fun r2 μ1 hq H locs hH => ?_)
  refine lv_if_eq (tgt := 16) hx hb dX11_nearest_7 (by decide) (fun c3 => ?_) (fun c3 => ?_)
  · have hq := hq.1 c3
    refine lv_aload_n hx hb dX11_nearest_16 rfl (lv_at hl 0 rfl) ?_
    refine lv_bipush (v := (-2 : Int32)) hx hb dX11_nearest_17 (by decide) ?_
    refine x_cVi (C := RX11) (T := TX11) (N := 8) (As := [.int (-2 : Int32)]) (rest := []) G hH hA (c_X11_refuseOrder l E ad μ1 q0 (-2 : Int32) hk_q0 _ hq) (wm_19 _ (List.mem_of_getElem? (i := 9) rfl)) mi_X11_refuseOrder ms_X11_refuseOrder mn_RX11 mc_X11_refuseOrder rfl md_X11_refuseOrder ⟨rfl, rfl, Nat.le_of_ble_eq_true rfl, Nat.le_of_ble_eq_true rfl⟩ hk_q0 (by decide) rfl rfl hl.1 rfl (Nat.le_of_ble_eq_true rfl) dX11_nearest_19 ⟨Nat.zero_le _, Nat.zero_le _⟩ (fun r5 μ4 hq H locs hH => ?_)
    exact x_iret G hr hH hq dX11_nearest_22
  · have hq := hq.2 c3
    refine lv_iload_n hx hb dX11_nearest_10 rfl (lv_at hl 2 rfl) ?_
    refine lv_bipush (v := (-2 : Int32)) hx hb dX11_nearest_11 (by decide) ?_
    refine lv_icmp_ge (tgt := 23) hx hb dX11_nearest_13 (by decide) (fun c6 => ?_) (fun c6 => ?_)
    · have hq := hq.1 c6
      refine lv_aload_n hx hb dX11_nearest_23 rfl (lv_at hl 0 rfl) ?_
      refine x_get (j := 2) (C := RX11) (T := TX11) (N := 8) (v := .ref (ad (rt q0 2))) G hH hk_q0 (by decide) rfl inlX11 (by decide) (wm_2 _ (List.mem_of_getElem? (i := 0) rfl)) rfl dX11_nearest_24 ?_
      refine x_cVi (C := RX6) (T := TX6) (N := 11) (As := []) (rest := []) G hH hA (c_X6_countLawful l E ad μ1 (rt q0 2) (kt_9_2 _ hk_q0) _ hq) (wm_17 _ (List.mem_of_getElem? (i := 17) rfl)) mi_X6_countLawful ms_X6_countLawful mn_RX6 mc_X6_countLawful rfl md_X6_countLawful ⟨rfl, rfl, Nat.le_of_ble_eq_true rfl, Nat.le_of_ble_eq_true rfl⟩ (kt_9_2 _ hk_q0) (by decide) rfl rfl hl.1 rfl (Nat.le_of_ble_eq_true rfl) dX11_nearest_27 ⟨Nat.zero_le _, Nat.zero_le _⟩ (fun r8 μ7 hq H locs hH => ?_)
      refine lv_if_ne (tgt := 40) hx hb dX11_nearest_30 (by decide) (fun c9 => ?_) (fun c9 => ?_)
      · have hq := hq.1 c9
        refine lv_aload_n hx hb dX11_nearest_40 rfl (lv_at hl 0 rfl) ?_
        refine x_get (j := 2) (C := RX11) (T := TX11) (N := 8) (v := .ref (ad (rt q0 2))) G hH hk_q0 (by decide) rfl inlX11 (by decide) (wm_2 _ (List.mem_of_getElem? (i := 0) rfl)) rfl dX11_nearest_41 ?_
        refine lv_iconst (v := (1 : Int32)) hx hb dX11_nearest_44 (by decide) ?_
        refine lv_iload_n hx hb dX11_nearest_45 rfl (lv_at hl 1 rfl) ?_
        refine lv_aload_n hx hb dX11_nearest_46 rfl (lv_at hl 0 rfl) ?_
        refine x_get (j := 0) (C := RX11) (T := TX11) (N := 8) (v := .ref (ad (rt q0 0))) G hH hk_q0 (by decide) rfl inlX11 (by decide) (wm_1 _ (List.mem_of_getElem? (i := 15) rfl)) rfl dX11_nearest_47 ?_
        refine x_get (j := 2) (C := RX9) (T := TX9) (N := 3) (v := .long (μ7.2 (rt q0 0) 2)) G hH (kt_9_0 _ hk_q0) (by decide) rfl inlX9 (by decide) (wm_15 _ (List.mem_of_getElem? (i := 0) rfl)) rfl dX11_nearest_50 ?_
        refine x_cVv (C := RX6) (T := TX6) (N := 11) (As := [.int (1 : Int32), .int p1, .long (μ7.2 (rt q0 0) 2)]) (rest := []) G hH hA (c_X6_run l E ad μ7 (rt q0 2) (1 : Int32) p1 (μ7.2 (rt q0 0) 2) (kt_9_2 _ hk_q0) _ hq) (wm_19 _ (List.mem_of_getElem? (i := 13) rfl)) mi_X6_run ms_X6_run mn_RX6 mc_X6_run rfl md_X6_run ⟨rfl, rfl, Nat.le_of_ble_eq_true rfl, Nat.le_of_ble_eq_true rfl⟩ (kt_9_2 _ hk_q0) (by decide) rfl rfl hl.1 rfl (Nat.le_of_ble_eq_true rfl) dX11_nearest_53 ⟨Nat.zero_le _, Nat.zero_le _⟩ (fun μ10 hq H locs hH => ?_)
        refine lv_iload_n hx hb dX11_nearest_56 rfl (lv_at hl 2 rfl) ?_
        refine lv_iconst (v := (-1 : Int32)) hx hb dX11_nearest_57 (by decide) ?_
        refine lv_icmp_ne (tgt := 69) hx hb dX11_nearest_58 (by decide) (fun c11 => ?_) (fun c11 => ?_)
        · have hq := hq.1 c11
          refine lv_iload_n hx hb dX11_nearest_69 rfl (lv_at hl 2 rfl) ?_
          refine lv_bipush (v := (-2 : Int32)) hx hb dX11_nearest_70 (by decide) ?_
          refine lv_icmp_ne (tgt := 85) hx hb dX11_nearest_72 (by decide) (fun c12 => ?_) (fun c12 => ?_)
          · have hq := hq.1 c12
            refine lv_aload_n hx hb dX11_nearest_85 rfl (lv_at hl 0 rfl) ?_
            refine lv_iload_n hx hb dX11_nearest_86 rfl (lv_at hl 2 rfl) ?_
            refine x_cVi (C := RX11) (T := TX11) (N := 8) (As := [.int p2]) (rest := []) G hH hA (c_X11_blockOfBest l E ad μ10 q0 p2 hk_q0 _ hq) (wm_23 _ (List.mem_of_getElem? (i := 9) rfl)) mi_X11_blockOfBest ms_X11_blockOfBest mn_RX11 mc_X11_blockOfBest rfl md_X11_blockOfBest ⟨rfl, rfl, Nat.le_of_ble_eq_true rfl, Nat.le_of_ble_eq_true rfl⟩ hk_q0 (by decide) rfl rfl hl.1 rfl (Nat.le_of_ble_eq_true rfl) dX11_nearest_87 ⟨Nat.zero_le _, Nat.zero_le _⟩ (fun r14 μ13 hq H locs hH => ?_)
            exact x_iret G hr hH hq dX11_nearest_90
          · have hq := hq.2 c12
            refine lv_aload_n hx hb dX11_nearest_75 rfl (lv_at hl 0 rfl) ?_
            refine x_get (j := 2) (C := RX11) (T := TX11) (N := 8) (v := .ref (ad (rt q0 2))) G hH hk_q0 (by decide) rfl inlX11 (by decide) (wm_2 _ (List.mem_of_getElem? (i := 0) rfl)) rfl dX11_nearest_76 ?_
            refine x_get (j := 9) (C := RX6) (T := TX6) (N := 11) (v := .int (μ10.1 (rt q0 2) 9)) G hH (kt_9_2 _ hk_q0) (by decide) rfl inlX6 (by decide) (wm_19 _ (List.mem_of_getElem? (i := 8) rfl)) rfl dX11_nearest_79 ?_
            refine lv_goto (tgt := 90) hx hb dX11_nearest_82 (by decide) ?_
            exact x_iret G hr hH hq dX11_nearest_90
        · have hq := hq.2 c11
          refine lv_aload_n hx hb dX11_nearest_61 rfl (lv_at hl 0 rfl) ?_
          refine x_get (j := 2) (C := RX11) (T := TX11) (N := 8) (v := .ref (ad (rt q0 2))) G hH hk_q0 (by decide) rfl inlX11 (by decide) (wm_2 _ (List.mem_of_getElem? (i := 0) rfl)) rfl dX11_nearest_62 ?_
          refine x_get (j := 8) (C := RX6) (T := TX6) (N := 11) (v := .int (μ10.1 (rt q0 2) 8)) G hH (kt_9_2 _ hk_q0) (by decide) rfl inlX6 (by decide) (wm_25 _ (List.mem_of_getElem? (i := 5) rfl)) rfl dX11_nearest_65 ?_
          exact x_iret G hr hH hq dX11_nearest_68
      · have hq := hq.2 c9
        refine lv_aload_n hx hb dX11_nearest_33 rfl (lv_at hl 0 rfl) ?_
        refine lv_bipush (v := (-3 : Int32)) hx hb dX11_nearest_34 (by decide) ?_
        refine x_cVi (C := RX11) (T := TX11) (N := 8) (As := [.int (-3 : Int32)]) (rest := []) G hH hA (c_X11_refuseOrder l E ad μ7 q0 (-3 : Int32) hk_q0 _ hq) (wm_19 _ (List.mem_of_getElem? (i := 9) rfl)) mi_X11_refuseOrder ms_X11_refuseOrder mn_RX11 mc_X11_refuseOrder rfl md_X11_refuseOrder ⟨rfl, rfl, Nat.le_of_ble_eq_true rfl, Nat.le_of_ble_eq_true rfl⟩ hk_q0 (by decide) rfl rfl hl.1 rfl (Nat.le_of_ble_eq_true rfl) dX11_nearest_36 ⟨Nat.zero_le _, Nat.zero_le _⟩ (fun r16 μ15 hq H locs hH => ?_)
        exact x_iret G hr hH hq dX11_nearest_39
    · have hq := hq.2 c6
      refine lv_aload_n hx hb dX11_nearest_16 rfl (lv_at hl 0 rfl) ?_
      refine lv_bipush (v := (-2 : Int32)) hx hb dX11_nearest_17 (by decide) ?_
      refine x_cVi (C := RX11) (T := TX11) (N := 8) (As := [.int (-2 : Int32)]) (rest := []) G hH hA (c_X11_refuseOrder l E ad μ1 q0 (-2 : Int32) hk_q0 _ hq) (wm_19 _ (List.mem_of_getElem? (i := 9) rfl)) mi_X11_refuseOrder ms_X11_refuseOrder mn_RX11 mc_X11_refuseOrder rfl md_X11_refuseOrder ⟨rfl, rfl, Nat.le_of_ble_eq_true rfl, Nat.le_of_ble_eq_true rfl⟩ hk_q0 (by decide) rfl rfl hl.1 rfl (Nat.le_of_ble_eq_true rfl) dX11_nearest_19 ⟨Nat.zero_le _, Nat.zero_le _⟩ (fun r18 μ17 hq H locs hH => ?_)
      exact x_iret G hr hH hq dX11_nearest_22
abbrev tX11_news : List Cond := Cond.code yX11_news cX11_news 1 (some .int) :: wsL_law
theorem mi_X11_news : Cond.instanceMethod yX11_news ∈ wsL_law := (wm_27 _ (List.mem_of_getElem? (i := 21) rfl))
theorem ms_X11_news : Cond.selects RX11 yX11_news yX11_news ∈ wsL_law := (wm_27 _ (List.mem_of_getElem? (i := 22) rfl))
theorem mc_X11_news : Cond.code yX11_news cX11_news 1 (some .int) ∈ wsL_law := (wm_27 _ (List.mem_of_getElem? (i := 23) rfl))
theorem md_X11_news : yX11_news.cls ≠ "java/lang/invoke/MethodHandle" ∧ yX11_news.cls ≠ "java/lang/invoke/VarHandle" ∧ (parseMethodDescriptor yX11_news.desc).map (fun d => d.parameters.length) = some 0 := by decide +kernel
set_option maxRecDepth 100000 in
set_option maxHeartbeats 4000000 in
theorem c_X11_news (l : Launch) (E : xE) (ad : Nat → Nat) (μ : xM) (q0 : Nat) (hk_q0 : kd q0 = 9) (Qm : Int32 → xM → Prop) (hq : p_X11_news q0 μ Qm) : xMi l yX11_news tX11_news ({ frames := 6, cells := 0, slots := 0, locals := 240 } : Room) E ad μ [.ref (ad q0)] Qm := by
  refine x_sti (cc := cX11_news) (maxL := 1) (ret := (some .int)) (own := RX11) rfl (by decide) rfl (Nat.le_of_ble_eq_true rfl) ?_
  intro p e s m args below meth c ls G hr hA hH hl
  obtain ⟨hx, hb, hml, hown, hts, hKn, hN, hlk⟩ := id G
  have hl : lv_has ls 1 [(0, .ref (ad q0))] := hl
  have hH : xH E ad (xA ad s.heap.size) s.heap μ s.heap [] := hH
  unfold p_X11_news at hq
  refine lv_aload_n hx hb dX11_news_0 rfl (lv_at hl 0 rfl) ?_
  refine x_get (j := 1) (C := RX11) (T := TX11) (N := 8) (v := .ref (ad (rt q0 1))) G hH hk_q0 (by decide) rfl inlX11 (by decide) (wm_1 _ (List.mem_of_getElem? (i := 19) rfl)) rfl dX11_news_1 ?_
  refine lv_aload_n hx hb dX11_news_4 rfl (lv_at hl 0 rfl) ?_
  refine x_get (j := 0) (C := RX11) (T := TX11) (N := 8) (v := .ref (ad (rt q0 0))) G hH hk_q0 (by decide) rfl inlX11 (by decide) (wm_1 _ (List.mem_of_getElem? (i := 15) rfl)) rfl dX11_news_5 ?_
  refine x_cVv (C := RX3) (T := TX3) (N := 3) (As := [.ref (ad (rt q0 0))]) (rest := []) G hH hA (c_X3_keep l E ad μ (rt q0 1) (rt q0 0) (kt_9_1 _ hk_q0) (kt_9_0 _ hk_q0) _ hq) (wm_8 _ (List.mem_of_getElem? (i := 3) rfl)) mi_X3_keep ms_X3_keep mn_RX3 mc_X3_keep rfl md_X3_keep ⟨rfl, rfl, Nat.le_of_ble_eq_true rfl, Nat.le_of_ble_eq_true rfl⟩ (kt_9_1 _ hk_q0) (by decide) rfl rfl hl.1 rfl (Nat.le_of_ble_eq_true rfl) dX11_news_8 ⟨Nat.zero_le _, Nat.zero_le _⟩ (fun μ1 hq H locs hH => ?_)
  refine lv_aload_n hx hb dX11_news_11 rfl (lv_at hl 0 rfl) ?_
  refine x_get (j := 0) (C := RX11) (T := TX11) (N := 8) (v := .ref (ad (rt q0 0))) G hH hk_q0 (by decide) rfl inlX11 (by decide) (wm_1 _ (List.mem_of_getElem? (i := 15) rfl)) rfl dX11_news_12 ?_
  refine x_get (j := 1) (C := RX9) (T := TX9) (N := 3) (v := .ref (ad (rt (rt q0 0) 1))) G hH (kt_9_0 _ hk_q0) (by decide) rfl inlX9 (by decide) (wm_26 _ (List.mem_of_getElem? (i := 4) rfl)) rfl dX11_news_15 ?_
  refine x_cVi (C := RX2) (T := TX2) (N := 7) (As := []) (rest := []) G hH hA (c_X2_renew l E ad μ1 (rt (rt q0 0) 1) (kt_7_1 _ (kt_9_0 _ hk_q0)) _ hq) (wm_28 _ (List.mem_of_getElem? (i := 0) rfl)) mi_X2_renew ms_X2_renew mn_RX2 mc_X2_renew rfl md_X2_renew ⟨rfl, rfl, Nat.le_of_ble_eq_true rfl, Nat.le_of_ble_eq_true rfl⟩ (kt_7_1 _ (kt_9_0 _ hk_q0)) (by decide) rfl rfl hl.1 rfl (Nat.le_of_ble_eq_true rfl) dX11_news_18 ⟨Nat.zero_le _, Nat.zero_le _⟩ (fun r3 μ2 hq H locs hH => ?_)
  exact x_iret G hr hH hq dX11_news_21
abbrev tX11_plans : List Cond := Cond.code yX11_plans cX11_plans 4 (some .int) :: wsL_law
theorem mi_X11_plans : Cond.instanceMethod yX11_plans ∈ wsL_law := (wm_14 _ (List.mem_of_getElem? (i := 21) rfl))
theorem ms_X11_plans : Cond.selects RX11 yX11_plans yX11_plans ∈ wsL_law := (wm_14 _ (List.mem_of_getElem? (i := 22) rfl))
theorem mc_X11_plans : Cond.code yX11_plans cX11_plans 4 (some .int) ∈ wsL_law := (wm_14 _ (List.mem_of_getElem? (i := 23) rfl))
theorem md_X11_plans : yX11_plans.cls ≠ "java/lang/invoke/MethodHandle" ∧ yX11_plans.cls ≠ "java/lang/invoke/VarHandle" ∧ (parseMethodDescriptor yX11_plans.desc).map (fun d => d.parameters.length) = some 2 := by decide +kernel
set_option maxRecDepth 100000 in
set_option maxHeartbeats 4000000 in
theorem c_X11_plans (l : Launch) (E : xE) (ad : Nat → Nat) (μ : xM) (q0 : Nat) (p1 : Int32) (p2 : Int32) (hk_q0 : kd q0 = 9) (Qm : Int32 → xM → Prop) (hq : p_X11_plans q0 p1 p2 μ Qm) : xMi l yX11_plans tX11_plans ({ frames := 6, cells := 0, slots := 0, locals := 240 } : Room) E ad μ [.ref (ad q0), .int p1, .int p2] Qm := by
  refine x_sti (cc := cX11_plans) (maxL := 4) (ret := (some .int)) (own := RX11) rfl (by decide) rfl (Nat.le_of_ble_eq_true rfl) ?_
  intro p e s m args below meth c ls G hr hA hH hl
  obtain ⟨hx, hb, hml, hown, hts, hKn, hN, hlk⟩ := id G
  have hl : lv_has ls 4 [(0, .ref (ad q0)), (1, .int p1), (2, .int p2)] := hl
  have hH : xH E ad (xA ad s.heap.size) s.heap μ s.heap [] := hH
  unfold p_X11_plans at hq
  refine lv_iload_n hx hb dX11_plans_0 rfl (lv_at hl 1 rfl) ?_
  refine lv_iconst (v := (0 : Int32)) hx hb dX11_plans_1 (by decide) ?_
  refine lv_bipush (v := (15 : Int32)) hx hb dX11_plans_2 (by decide) ?_
  refine x_cSi (As := [.int p1, .int (0 : Int32), .int (15 : Int32)]) (rest := []) G hH hA (c_X11_within l E ad μ p1 (0 : Int32) (15 : Int32)  _ hq) (wm_7 _ (List.mem_of_getElem? (i := 20) rfl)) mt_X11_within mn_RX11 mc_X11_within md_X11_within ⟨rfl, rfl, Nat.le_of_ble_eq_true rfl, Nat.le_of_ble_eq_true rfl⟩ rfl hl.1 rfl (Nat.le_of_ble_eq_true rfl) dX11_plans_4 ⟨Nat.zero_le _, Nat.zero_le _⟩ (fun r2 μ1 hq H locs hH => ?_)
  refine lv_if_eq (tgt := 20) hx hb dX11_plans_7 (by decide) (fun c3 => ?_) (fun c3 => ?_)
  · have hq := hq.1 c3
    refine lv_aload_n hx hb dX11_plans_20 rfl (lv_at hl 0 rfl) ?_
    refine lv_bipush (v := (-2 : Int32)) hx hb dX11_plans_21 (by decide) ?_
    refine x_cVi (C := RX11) (T := TX11) (N := 8) (As := [.int (-2 : Int32)]) (rest := []) G hH hA (c_X11_refuse l E ad μ1 q0 (-2 : Int32) hk_q0 _ hq) (wm_7 _ (List.mem_of_getElem? (i := 23) rfl)) mi_X11_refuse ms_X11_refuse mn_RX11 mc_X11_refuse rfl md_X11_refuse ⟨rfl, rfl, Nat.le_of_ble_eq_true rfl, Nat.le_of_ble_eq_true rfl⟩ hk_q0 (by decide) rfl rfl hl.1 rfl (Nat.le_of_ble_eq_true rfl) dX11_plans_23 ⟨Nat.zero_le _, Nat.zero_le _⟩ (fun r5 μ4 hq H locs hH => ?_)
    exact x_iret G hr hH hq dX11_plans_26
  · have hq := hq.2 c3
    refine lv_iload_n hx hb dX11_plans_10 rfl (lv_at hl 2 rfl) ?_
    refine lv_iconst (v := (0 : Int32)) hx hb dX11_plans_11 (by decide) ?_
    refine lv_bipush (v := (7 : Int32)) hx hb dX11_plans_12 (by decide) ?_
    refine x_cSi (As := [.int p2, .int (0 : Int32), .int (7 : Int32)]) (rest := []) G hH hA (c_X11_within l E ad μ1 p2 (0 : Int32) (7 : Int32)  _ hq) (wm_7 _ (List.mem_of_getElem? (i := 20) rfl)) mt_X11_within mn_RX11 mc_X11_within md_X11_within ⟨rfl, rfl, Nat.le_of_ble_eq_true rfl, Nat.le_of_ble_eq_true rfl⟩ rfl hl.1 rfl (Nat.le_of_ble_eq_true rfl) dX11_plans_14 ⟨Nat.zero_le _, Nat.zero_le _⟩ (fun r7 μ6 hq H locs hH => ?_)
    refine lv_if_ne (tgt := 27) hx hb dX11_plans_17 (by decide) (fun c8 => ?_) (fun c8 => ?_)
    · have hq := hq.1 c8
      refine lv_aload_n hx hb dX11_plans_27 rfl (lv_at hl 0 rfl) ?_
      refine x_get (j := 1) (C := RX11) (T := TX11) (N := 8) (v := .ref (ad (rt q0 1))) G hH hk_q0 (by decide) rfl inlX11 (by decide) (wm_1 _ (List.mem_of_getElem? (i := 19) rfl)) rfl dX11_plans_28 ?_
      refine lv_aload_n hx hb dX11_plans_31 rfl (lv_at hl 0 rfl) ?_
      refine x_get (j := 0) (C := RX11) (T := TX11) (N := 8) (v := .ref (ad (rt q0 0))) G hH hk_q0 (by decide) rfl inlX11 (by decide) (wm_1 _ (List.mem_of_getElem? (i := 15) rfl)) rfl dX11_plans_32 ?_
      refine x_cVv (C := RX3) (T := TX3) (N := 3) (As := [.ref (ad (rt q0 0))]) (rest := []) G hH hA (c_X3_keep l E ad μ6 (rt q0 1) (rt q0 0) (kt_9_1 _ hk_q0) (kt_9_0 _ hk_q0) _ hq) (wm_8 _ (List.mem_of_getElem? (i := 3) rfl)) mi_X3_keep ms_X3_keep mn_RX3 mc_X3_keep rfl md_X3_keep ⟨rfl, rfl, Nat.le_of_ble_eq_true rfl, Nat.le_of_ble_eq_true rfl⟩ (kt_9_1 _ hk_q0) (by decide) rfl rfl hl.1 rfl (Nat.le_of_ble_eq_true rfl) dX11_plans_35 ⟨Nat.zero_le _, Nat.zero_le _⟩ (fun μ9 hq H locs hH => ?_)
      refine lv_aload_n hx hb dX11_plans_38 rfl (lv_at hl 0 rfl) ?_
      refine x_get (j := 0) (C := RX11) (T := TX11) (N := 8) (v := .ref (ad (rt q0 0))) G hH hk_q0 (by decide) rfl inlX11 (by decide) (wm_1 _ (List.mem_of_getElem? (i := 15) rfl)) rfl dX11_plans_39 ?_
      refine x_get (j := 2) (C := RX9) (T := TX9) (N := 3) (v := .long (μ9.2 (rt q0 0) 2)) G hH (kt_9_0 _ hk_q0) (by decide) rfl inlX9 (by decide) (wm_15 _ (List.mem_of_getElem? (i := 0) rfl)) rfl dX11_plans_42 ?_
      refine lv_iload_n hx hb dX11_plans_45 rfl (lv_at hl 1 rfl) ?_
      refine x_cSi (As := [.long (μ9.2 (rt q0 0) 2), .int p1]) (rest := []) G hH hA (c_X1_nibble l E ad μ9 (μ9.2 (rt q0 0) 2) p1  _ hq) (wm_15 _ (List.mem_of_getElem? (i := 1) rfl)) mt_X1_nibble mn_RX1 mc_X1_nibble md_X1_nibble ⟨rfl, rfl, Nat.le_of_ble_eq_true rfl, Nat.le_of_ble_eq_true rfl⟩ rfl hl.1 rfl (Nat.le_of_ble_eq_true rfl) dX11_plans_46 ⟨Nat.zero_le _, Nat.zero_le _⟩ (fun r11 μ10 hq H locs hH => ?_)
      refine lv_istore_n (lv' := [(3, .int r11), (0, .ref (ad q0)), (1, .int p1), (2, .int p2)]) hx hb dX11_plans_49 rfl hl (by decide) rfl (fun ls hl => ?_)
      refine lv_aload_n hx hb dX11_plans_50 rfl (lv_at hl 1 rfl) ?_
      refine x_get (j := 0) (C := RX11) (T := TX11) (N := 8) (v := .ref (ad (rt q0 0))) G hH hk_q0 (by decide) rfl inlX11 (by decide) (wm_1 _ (List.mem_of_getElem? (i := 15) rfl)) rfl dX11_plans_51 ?_
      refine lv_aload_n hx hb dX11_plans_54 rfl (lv_at hl 1 rfl) ?_
      refine x_get (j := 0) (C := RX11) (T := TX11) (N := 8) (v := .ref (ad (rt q0 0))) G hH hk_q0 (by decide) rfl inlX11 (by decide) (wm_1 _ (List.mem_of_getElem? (i := 15) rfl)) rfl dX11_plans_55 ?_
      refine x_get (j := 2) (C := RX9) (T := TX9) (N := 3) (v := .long (μ10.2 (rt q0 0) 2)) G hH (kt_9_0 _ hk_q0) (by decide) rfl inlX9 (by decide) (wm_15 _ (List.mem_of_getElem? (i := 0) rfl)) rfl dX11_plans_58 ?_
      refine lv_iload_n hx hb dX11_plans_61 rfl (lv_at hl 2 rfl) ?_
      refine lv_iload_n hx hb dX11_plans_62 rfl (lv_at hl 3 rfl) ?_
      refine x_cSl (As := [.long (μ10.2 (rt q0 0) 2), .int p1, .int p2]) (rest := [.ref (ad (rt q0 0))]) G hH hA (c_X1_withNibble l E ad μ10 (μ10.2 (rt q0 0) 2) p1 p2  _ hq) (wm_15 _ (List.mem_of_getElem? (i := 4) rfl)) mt_X1_withNibble mn_RX1 mc_X1_withNibble md_X1_withNibble ⟨rfl, rfl, Nat.le_of_ble_eq_true rfl, Nat.le_of_ble_eq_true rfl⟩ rfl hl.1 rfl (Nat.le_of_ble_eq_true rfl) dX11_plans_63 ⟨Nat.zero_le _, Nat.zero_le _⟩ (fun r13 μ12 hq H locs hH => ?_)
      refine x_putl (j := 2) (C := RX9) (T := TX9) (N := 3) G hH (kt_9_0 _ hk_q0) (by decide) rfl inlX9 tyX9 tyX9_ok nmX9 (by decide) (wm_15 _ (List.mem_of_getElem? (i := 0) rfl)) rfl (by decide +kernel) (fun _ _ => Nat.le_of_ble_eq_true rfl) (fun _ _ => rfl) dX11_plans_66 (fun μ14 e_μ14 H locs hH => ?_)
      have hq := hq μ14 e_μ14
      refine lv_iload_n hx hb dX11_plans_69 rfl (lv_at hl 0 rfl) ?_
      exact x_iret G hr hH hq dX11_plans_70
    · have hq := hq.2 c8
      refine lv_aload_n hx hb dX11_plans_20 rfl (lv_at hl 0 rfl) ?_
      refine lv_bipush (v := (-2 : Int32)) hx hb dX11_plans_21 (by decide) ?_
      refine x_cVi (C := RX11) (T := TX11) (N := 8) (As := [.int (-2 : Int32)]) (rest := []) G hH hA (c_X11_refuse l E ad μ6 q0 (-2 : Int32) hk_q0 _ hq) (wm_7 _ (List.mem_of_getElem? (i := 23) rfl)) mi_X11_refuse ms_X11_refuse mn_RX11 mc_X11_refuse rfl md_X11_refuse ⟨rfl, rfl, Nat.le_of_ble_eq_true rfl, Nat.le_of_ble_eq_true rfl⟩ hk_q0 (by decide) rfl rfl hl.1 rfl (Nat.le_of_ble_eq_true rfl) dX11_plans_23 ⟨Nat.zero_le _, Nat.zero_le _⟩ (fun r16 μ15 hq H locs hH => ?_)
      exact x_iret G hr hH hq dX11_plans_26
abbrev tX11_prints : List Cond := Cond.code yX11_prints cX11_prints 4 (some .int) :: wsL_law
theorem mi_X11_prints : Cond.instanceMethod yX11_prints ∈ wsL_law := (wm_26 _ (List.mem_of_getElem? (i := 1) rfl))
theorem ms_X11_prints : Cond.selects RX11 yX11_prints yX11_prints ∈ wsL_law := (wm_26 _ (List.mem_of_getElem? (i := 2) rfl))
theorem mc_X11_prints : Cond.code yX11_prints cX11_prints 4 (some .int) ∈ wsL_law := (wm_26 _ (List.mem_of_getElem? (i := 3) rfl))
theorem md_X11_prints : yX11_prints.cls ≠ "java/lang/invoke/MethodHandle" ∧ yX11_prints.cls ≠ "java/lang/invoke/VarHandle" ∧ (parseMethodDescriptor yX11_prints.desc).map (fun d => d.parameters.length) = some 2 := by decide +kernel
set_option maxRecDepth 100000 in
set_option maxHeartbeats 4000000 in
theorem c_X11_prints (l : Launch) (E : xE) (ad : Nat → Nat) (μ : xM) (q0 : Nat) (p1 : Int32) (p2 : Int32) (hk_q0 : kd q0 = 9) (Qm : Int32 → xM → Prop) (hq : p_X11_prints q0 p1 p2 μ Qm) : xMi l yX11_prints tX11_prints ({ frames := 6, cells := 0, slots := 0, locals := 240 } : Room) E ad μ [.ref (ad q0), .int p1, .int p2] Qm := by
  refine x_sti (cc := cX11_prints) (maxL := 4) (ret := (some .int)) (own := RX11) rfl (by decide) rfl (Nat.le_of_ble_eq_true rfl) ?_
  intro p e s m args below meth c ls G hr hA hH hl
  obtain ⟨hx, hb, hml, hown, hts, hKn, hN, hlk⟩ := id G
  have hl : lv_has ls 4 [(0, .ref (ad q0)), (1, .int p1), (2, .int p2)] := hl
  have hH : xH E ad (xA ad s.heap.size) s.heap μ s.heap [] := hH
  unfold p_X11_prints at hq
  refine lv_aload_n hx hb dX11_prints_0 rfl (lv_at hl 0 rfl) ?_
  refine lv_iload_n hx hb dX11_prints_1 rfl (lv_at hl 1 rfl) ?_
  refine lv_iload_n hx hb dX11_prints_2 rfl (lv_at hl 2 rfl) ?_
  refine x_cVi (C := RX11) (T := TX11) (N := 8) (As := [.int p1, .int p2]) (rest := []) G hH hA (c_X11_whyNoPrint l E ad μ q0 p1 p2 hk_q0 _ hq) (wm_26 _ (List.mem_of_getElem? (i := 5) rfl)) mi_X11_whyNoPrint ms_X11_whyNoPrint mn_RX11 mc_X11_whyNoPrint rfl md_X11_whyNoPrint ⟨rfl, rfl, Nat.le_of_ble_eq_true rfl, Nat.le_of_ble_eq_true rfl⟩ hk_q0 (by decide) rfl rfl hl.1 rfl (Nat.le_of_ble_eq_true rfl) dX11_prints_3 ⟨Nat.zero_le _, Nat.zero_le _⟩ (fun r2 μ1 hq H locs hH => ?_)
  refine lv_istore_n (lv' := [(3, .int r2), (0, .ref (ad q0)), (1, .int p1), (2, .int p2)]) hx hb dX11_prints_6 rfl hl (by decide) rfl (fun ls hl => ?_)
  refine lv_iload_n hx hb dX11_prints_7 rfl (lv_at hl 0 rfl) ?_
  refine lv_if_eq (tgt := 17) hx hb dX11_prints_8 (by decide) (fun c3 => ?_) (fun c3 => ?_)
  · have hq := hq.1 c3
    refine lv_aload_n hx hb dX11_prints_17 rfl (lv_at hl 1 rfl) ?_
    refine x_get (j := 1) (C := RX11) (T := TX11) (N := 8) (v := .ref (ad (rt q0 1))) G hH hk_q0 (by decide) rfl inlX11 (by decide) (wm_1 _ (List.mem_of_getElem? (i := 19) rfl)) rfl dX11_prints_18 ?_
    refine lv_aload_n hx hb dX11_prints_21 rfl (lv_at hl 1 rfl) ?_
    refine x_get (j := 0) (C := RX11) (T := TX11) (N := 8) (v := .ref (ad (rt q0 0))) G hH hk_q0 (by decide) rfl inlX11 (by decide) (wm_1 _ (List.mem_of_getElem? (i := 15) rfl)) rfl dX11_prints_22 ?_
    refine x_cVv (C := RX3) (T := TX3) (N := 3) (As := [.ref (ad (rt q0 0))]) (rest := []) G hH hA (c_X3_keep l E ad μ1 (rt q0 1) (rt q0 0) (kt_9_1 _ hk_q0) (kt_9_0 _ hk_q0) _ hq) (wm_8 _ (List.mem_of_getElem? (i := 3) rfl)) mi_X3_keep ms_X3_keep mn_RX3 mc_X3_keep rfl md_X3_keep ⟨rfl, rfl, Nat.le_of_ble_eq_true rfl, Nat.le_of_ble_eq_true rfl⟩ (kt_9_1 _ hk_q0) (by decide) rfl rfl hl.1 rfl (Nat.le_of_ble_eq_true rfl) dX11_prints_25 ⟨Nat.zero_le _, Nat.zero_le _⟩ (fun μ4 hq H locs hH => ?_)
    refine lv_aload_n hx hb dX11_prints_28 rfl (lv_at hl 1 rfl) ?_
    refine x_get (j := 0) (C := RX11) (T := TX11) (N := 8) (v := .ref (ad (rt q0 0))) G hH hk_q0 (by decide) rfl inlX11 (by decide) (wm_1 _ (List.mem_of_getElem? (i := 15) rfl)) rfl dX11_prints_29 ?_
    refine x_get (j := 1) (C := RX9) (T := TX9) (N := 3) (v := .ref (ad (rt (rt q0 0) 1))) G hH (kt_9_0 _ hk_q0) (by decide) rfl inlX9 (by decide) (wm_26 _ (List.mem_of_getElem? (i := 4) rfl)) rfl dX11_prints_32 ?_
    refine lv_aload_n hx hb dX11_prints_35 rfl (lv_at hl 1 rfl) ?_
    refine x_get (j := 0) (C := RX11) (T := TX11) (N := 8) (v := .ref (ad (rt q0 0))) G hH hk_q0 (by decide) rfl inlX11 (by decide) (wm_1 _ (List.mem_of_getElem? (i := 15) rfl)) rfl dX11_prints_36 ?_
    refine x_get (j := 0) (C := RX9) (T := TX9) (N := 3) (v := .ref (ad (rt (rt q0 0) 0))) G hH (kt_9_0 _ hk_q0) (by decide) rfl inlX9 (by decide) (wm_1 _ (List.mem_of_getElem? (i := 23) rfl)) rfl dX11_prints_39 ?_
    refine lv_iload_n hx hb dX11_prints_42 rfl (lv_at hl 2 rfl) ?_
    refine lv_iload_n hx hb dX11_prints_43 rfl (lv_at hl 3 rfl) ?_
    refine x_cVi (C := RX2) (T := TX2) (N := 7) (As := [.ref (ad (rt (rt q0 0) 0)), .int p1, .int p2]) (rest := []) G hH hA (c_X2_printNext l E ad μ4 (rt (rt q0 0) 1) (rt (rt q0 0) 0) p1 p2 (kt_7_1 _ (kt_9_0 _ hk_q0)) (kt_7_0 _ (kt_9_0 _ hk_q0)) _ hq) (wm_26 _ (List.mem_of_getElem? (i := 16) rfl)) mi_X2_printNext ms_X2_printNext mn_RX2 mc_X2_printNext rfl md_X2_printNext ⟨rfl, rfl, Nat.le_of_ble_eq_true rfl, Nat.le_of_ble_eq_true rfl⟩ (kt_7_1 _ (kt_9_0 _ hk_q0)) (by decide) rfl rfl hl.1 rfl (Nat.le_of_ble_eq_true rfl) dX11_prints_44 ⟨Nat.zero_le _, Nat.zero_le _⟩ (fun r6 μ5 hq H locs hH => ?_)
    exact x_iret G hr hH hq dX11_prints_47
  · have hq := hq.2 c3
    refine lv_aload_n hx hb dX11_prints_11 rfl (lv_at hl 1 rfl) ?_
    refine lv_iload_n hx hb dX11_prints_12 rfl (lv_at hl 0 rfl) ?_
    refine x_cVi (C := RX11) (T := TX11) (N := 8) (As := [.int r2]) (rest := []) G hH hA (c_X11_refuse l E ad μ1 q0 r2 hk_q0 _ hq) (wm_7 _ (List.mem_of_getElem? (i := 23) rfl)) mi_X11_refuse ms_X11_refuse mn_RX11 mc_X11_refuse rfl md_X11_refuse ⟨rfl, rfl, Nat.le_of_ble_eq_true rfl, Nat.le_of_ble_eq_true rfl⟩ hk_q0 (by decide) rfl rfl hl.1 rfl (Nat.le_of_ble_eq_true rfl) dX11_prints_13 ⟨Nat.zero_le _, Nat.zero_le _⟩ (fun r8 μ7 hq H locs hH => ?_)
    exact x_iret G hr hH hq dX11_prints_16
abbrev tX11_reads : List Cond := Cond.code yX11_reads cX11_reads 2 (some .int) :: wsL_law
theorem mi_X11_reads : Cond.instanceMethod yX11_reads ∈ wsL_law := (wm_32 _ (List.mem_of_getElem? (i := 2) rfl))
theorem ms_X11_reads : Cond.selects RX11 yX11_reads yX11_reads ∈ wsL_law := (wm_32 _ (List.mem_of_getElem? (i := 3) rfl))
theorem mc_X11_reads : Cond.code yX11_reads cX11_reads 2 (some .int) ∈ wsL_law := (wm_32 _ (List.mem_of_getElem? (i := 4) rfl))
theorem md_X11_reads : yX11_reads.cls ≠ "java/lang/invoke/MethodHandle" ∧ yX11_reads.cls ≠ "java/lang/invoke/VarHandle" ∧ (parseMethodDescriptor yX11_reads.desc).map (fun d => d.parameters.length) = some 0 := by decide +kernel
set_option maxRecDepth 100000 in
set_option maxHeartbeats 4000000 in
theorem c_X11_reads (l : Launch) (E : xE) (ad : Nat → Nat) (μ : xM) (q0 : Nat) (hk_q0 : kd q0 = 9) (Qm : Int32 → xM → Prop) (hq : p_X11_reads q0 μ Qm) : xMi l yX11_reads tX11_reads ({ frames := 8, cells := 0, slots := 0, locals := 320 } : Room) E ad μ [.ref (ad q0)] Qm := by
  refine x_sti (cc := cX11_reads) (maxL := 2) (ret := (some .int)) (own := RX11) rfl (by decide) rfl (Nat.le_of_ble_eq_true rfl) ?_
  intro p e s m args below meth c ls G hr hA hH hl
  obtain ⟨hx, hb, hml, hown, hts, hKn, hN, hlk⟩ := id G
  have hl : lv_has ls 2 [(0, .ref (ad q0))] := hl
  have hH : xH E ad (xA ad s.heap.size) s.heap μ s.heap [] := hH
  unfold p_X11_reads at hq
  refine lv_aload_n hx hb dX11_reads_0 rfl (lv_at hl 0 rfl) ?_
  refine x_cVi (C := RX11) (T := TX11) (N := 8) (As := []) (rest := []) G hH hA (c_X11_faultOfText l E ad μ q0 hk_q0 _ hq) (wm_32 _ (List.mem_of_getElem? (i := 5) rfl)) mi_X11_faultOfText ms_X11_faultOfText mn_RX11 mc_X11_faultOfText rfl md_X11_faultOfText ⟨rfl, rfl, Nat.le_of_ble_eq_true rfl, Nat.le_of_ble_eq_true rfl⟩ hk_q0 (by decide) rfl rfl hl.1 rfl (Nat.le_of_ble_eq_true rfl) dX11_reads_1 ⟨Nat.zero_le _, Nat.zero_le _⟩ (fun r2 μ1 hq H locs hH => ?_)
  refine lv_istore_n (lv' := [(1, .int r2), (0, .ref (ad q0))]) hx hb dX11_reads_4 rfl hl (by decide) rfl (fun ls hl => ?_)
  refine lv_iload_n hx hb dX11_reads_5 rfl (lv_at hl 0 rfl) ?_
  refine lv_iconst (v := (-1 : Int32)) hx hb dX11_reads_6 (by decide) ?_
  refine lv_icmp_eq (tgt := 15) hx hb dX11_reads_7 (by decide) (fun c3 => ?_) (fun c3 => ?_)
  · have hq := hq.1 c3
    refine lv_aload_n hx hb dX11_reads_15 rfl (lv_at hl 1 rfl) ?_
    refine x_get (j := 1) (C := RX11) (T := TX11) (N := 8) (v := .ref (ad (rt q0 1))) G hH hk_q0 (by decide) rfl inlX11 (by decide) (wm_1 _ (List.mem_of_getElem? (i := 19) rfl)) rfl dX11_reads_16 ?_
    refine lv_aload_n hx hb dX11_reads_19 rfl (lv_at hl 1 rfl) ?_
    refine x_get (j := 0) (C := RX11) (T := TX11) (N := 8) (v := .ref (ad (rt q0 0))) G hH hk_q0 (by decide) rfl inlX11 (by decide) (wm_1 _ (List.mem_of_getElem? (i := 15) rfl)) rfl dX11_reads_20 ?_
    refine x_cVv (C := RX3) (T := TX3) (N := 3) (As := [.ref (ad (rt q0 0))]) (rest := []) G hH hA (c_X3_keep l E ad μ1 (rt q0 1) (rt q0 0) (kt_9_1 _ hk_q0) (kt_9_0 _ hk_q0) _ hq) (wm_8 _ (List.mem_of_getElem? (i := 3) rfl)) mi_X3_keep ms_X3_keep mn_RX3 mc_X3_keep rfl md_X3_keep ⟨rfl, rfl, Nat.le_of_ble_eq_true rfl, Nat.le_of_ble_eq_true rfl⟩ (kt_9_1 _ hk_q0) (by decide) rfl rfl hl.1 rfl (Nat.le_of_ble_eq_true rfl) dX11_reads_23 ⟨Nat.zero_le _, Nat.zero_le _⟩ (fun μ4 hq H locs hH => ?_)
    refine lv_aload_n hx hb dX11_reads_26 rfl (lv_at hl 1 rfl) ?_
    refine x_cVi (C := RX11) (T := TX11) (N := 8) (As := []) (rest := []) G hH hA (c_X11_doText l E ad μ4 q0 hk_q0 _ hq) (wm_34 _ (List.mem_of_getElem? (i := 2) rfl)) mi_X11_doText ms_X11_doText mn_RX11 mc_X11_doText rfl md_X11_doText ⟨rfl, rfl, Nat.le_of_ble_eq_true rfl, Nat.le_of_ble_eq_true rfl⟩ hk_q0 (by decide) rfl rfl hl.1 rfl (Nat.le_of_ble_eq_true rfl) dX11_reads_27 ⟨Nat.zero_le _, Nat.zero_le _⟩ (fun r6 μ5 hq H locs hH => ?_)
    exact x_iret G hr hH hq dX11_reads_30
  · have hq := hq.2 c3
    refine lv_bipush (v := (-10 : Int32)) hx hb dX11_reads_10 (by decide) ?_
    refine lv_iload_n hx hb dX11_reads_12 rfl (lv_at hl 0 rfl) ?_
    refine lv_isub hx hb dX11_reads_13 ?_
    exact x_iret G hr hH hq dX11_reads_14
abbrev tX11_sheets : List Cond := Cond.code yX11_sheets cX11_sheets 1 (some .int) :: wsL_law
theorem mi_X11_sheets : Cond.instanceMethod yX11_sheets ∈ wsL_law := (wm_25 _ (List.mem_of_getElem? (i := 11) rfl))
theorem ms_X11_sheets : Cond.selects RX11 yX11_sheets yX11_sheets ∈ wsL_law := (wm_25 _ (List.mem_of_getElem? (i := 12) rfl))
theorem mc_X11_sheets : Cond.code yX11_sheets cX11_sheets 1 (some .int) ∈ wsL_law := (wm_25 _ (List.mem_of_getElem? (i := 13) rfl))
theorem md_X11_sheets : yX11_sheets.cls ≠ "java/lang/invoke/MethodHandle" ∧ yX11_sheets.cls ≠ "java/lang/invoke/VarHandle" ∧ (parseMethodDescriptor yX11_sheets.desc).map (fun d => d.parameters.length) = some 0 := by decide +kernel
set_option maxRecDepth 100000 in
set_option maxHeartbeats 4000000 in
theorem c_X11_sheets (l : Launch) (E : xE) (ad : Nat → Nat) (μ : xM) (q0 : Nat) (hk_q0 : kd q0 = 9) (Qm : Int32 → xM → Prop) (hq : p_X11_sheets q0 μ Qm) : xMi l yX11_sheets tX11_sheets ({ frames := 15, cells := 0, slots := 0, locals := 600 } : Room) E ad μ [.ref (ad q0)] Qm := by
  refine x_sti (cc := cX11_sheets) (maxL := 1) (ret := (some .int)) (own := RX11) rfl (by decide) rfl (Nat.le_of_ble_eq_true rfl) ?_
  intro p e s m args below meth c ls G hr hA hH hl
  obtain ⟨hx, hb, hml, hown, hts, hKn, hN, hlk⟩ := id G
  have hl : lv_has ls 1 [(0, .ref (ad q0))] := hl
  have hH : xH E ad (xA ad s.heap.size) s.heap μ s.heap [] := hH
  unfold p_X11_sheets at hq
  refine lv_aload_n hx hb dX11_sheets_0 rfl (lv_at hl 0 rfl) ?_
  refine x_get (j := 2) (C := RX11) (T := TX11) (N := 8) (v := .ref (ad (rt q0 2))) G hH hk_q0 (by decide) rfl inlX11 (by decide) (wm_2 _ (List.mem_of_getElem? (i := 0) rfl)) rfl dX11_sheets_1 ?_
  refine lv_iconst (v := (2 : Int32)) hx hb dX11_sheets_4 (by decide) ?_
  refine lv_iconst (v := (1 : Int32)) hx hb dX11_sheets_5 (by decide) ?_
  refine lv_aload_n hx hb dX11_sheets_6 rfl (lv_at hl 0 rfl) ?_
  refine x_get (j := 0) (C := RX11) (T := TX11) (N := 8) (v := .ref (ad (rt q0 0))) G hH hk_q0 (by decide) rfl inlX11 (by decide) (wm_1 _ (List.mem_of_getElem? (i := 15) rfl)) rfl dX11_sheets_7 ?_
  refine x_get (j := 2) (C := RX9) (T := TX9) (N := 3) (v := .long (μ.2 (rt q0 0) 2)) G hH (kt_9_0 _ hk_q0) (by decide) rfl inlX9 (by decide) (wm_15 _ (List.mem_of_getElem? (i := 0) rfl)) rfl dX11_sheets_10 ?_
  refine x_cVv (C := RX6) (T := TX6) (N := 11) (As := [.int (2 : Int32), .int (1 : Int32), .long (μ.2 (rt q0 0) 2)]) (rest := []) G hH hA (c_X6_run l E ad μ (rt q0 2) (2 : Int32) (1 : Int32) (μ.2 (rt q0 0) 2) (kt_9_2 _ hk_q0) _ hq) (wm_19 _ (List.mem_of_getElem? (i := 13) rfl)) mi_X6_run ms_X6_run mn_RX6 mc_X6_run rfl md_X6_run ⟨rfl, rfl, Nat.le_of_ble_eq_true rfl, Nat.le_of_ble_eq_true rfl⟩ (kt_9_2 _ hk_q0) (by decide) rfl rfl hl.1 rfl (Nat.le_of_ble_eq_true rfl) dX11_sheets_13 ⟨Nat.zero_le _, Nat.zero_le _⟩ (fun μ1 hq H locs hH => ?_)
  refine lv_aload_n hx hb dX11_sheets_16 rfl (lv_at hl 0 rfl) ?_
  refine x_get (j := 2) (C := RX11) (T := TX11) (N := 8) (v := .ref (ad (rt q0 2))) G hH hk_q0 (by decide) rfl inlX11 (by decide) (wm_2 _ (List.mem_of_getElem? (i := 0) rfl)) rfl dX11_sheets_17 ?_
  refine x_get (j := 2) (C := RX6) (T := TX6) (N := 11) (v := .ref (ad (rt (rt q0 2) 2))) G hH (kt_9_2 _ hk_q0) (by decide) rfl inlX6 (by decide) (wm_25 _ (List.mem_of_getElem? (i := 14) rfl)) rfl dX11_sheets_20 ?_
  refine x_get (j := 4) (C := RX8) (T := TX8) (N := 5) (v := .int (μ1.1 (rt (rt q0 2) 2) 4)) G hH (kt_4_2 _ (kt_9_2 _ hk_q0)) (by decide) rfl inlX8 (by decide) (wm_25 _ (List.mem_of_getElem? (i := 15) rfl)) rfl dX11_sheets_23 ?_
  exact x_iret G hr hH hq dX11_sheets_26
abbrev tX11_shifts : List Cond := Cond.code yX11_shifts cX11_shifts 5 (some .int) :: wsL_law
theorem mi_X11_shifts : Cond.instanceMethod yX11_shifts ∈ wsL_law := (wm_11 _ (List.mem_of_getElem? (i := 15) rfl))
theorem ms_X11_shifts : Cond.selects RX11 yX11_shifts yX11_shifts ∈ wsL_law := (wm_11 _ (List.mem_of_getElem? (i := 16) rfl))
theorem mc_X11_shifts : Cond.code yX11_shifts cX11_shifts 5 (some .int) ∈ wsL_law := (wm_11 _ (List.mem_of_getElem? (i := 17) rfl))
theorem md_X11_shifts : yX11_shifts.cls ≠ "java/lang/invoke/MethodHandle" ∧ yX11_shifts.cls ≠ "java/lang/invoke/VarHandle" ∧ (parseMethodDescriptor yX11_shifts.desc).map (fun d => d.parameters.length) = some 3 := by decide +kernel
set_option maxRecDepth 100000 in
set_option maxHeartbeats 4000000 in
theorem c_X11_shifts (l : Launch) (E : xE) (ad : Nat → Nat) (μ : xM) (q0 : Nat) (p1 : Int32) (p2 : Int32) (p3 : Int32) (hk_q0 : kd q0 = 9) (Qm : Int32 → xM → Prop) (hq : p_X11_shifts q0 p1 p2 p3 μ Qm) : xMi l yX11_shifts tX11_shifts ({ frames := 6, cells := 0, slots := 0, locals := 240 } : Room) E ad μ [.ref (ad q0), .int p1, .int p2, .int p3] Qm := by
  refine x_sti (cc := cX11_shifts) (maxL := 5) (ret := (some .int)) (own := RX11) rfl (by decide) rfl (Nat.le_of_ble_eq_true rfl) ?_
  intro p e s m args below meth c ls G hr hA hH hl
  obtain ⟨hx, hb, hml, hown, hts, hKn, hN, hlk⟩ := id G
  have hl : lv_has ls 5 [(0, .ref (ad q0)), (1, .int p1), (2, .int p2), (3, .int p3)] := hl
  have hH : xH E ad (xA ad s.heap.size) s.heap μ s.heap [] := hH
  unfold p_X11_shifts at hq
  refine lv_aload_n hx hb dX11_shifts_0 rfl (lv_at hl 0 rfl) ?_
  refine lv_iload_n hx hb dX11_shifts_1 rfl (lv_at hl 1 rfl) ?_
  refine lv_iload_n hx hb dX11_shifts_2 rfl (lv_at hl 2 rfl) ?_
  refine lv_iload_n hx hb dX11_shifts_3 rfl (lv_at hl 3 rfl) ?_
  refine x_cVi (C := RX11) (T := TX11) (N := 8) (As := [.int p1, .int p2, .int p3]) (rest := []) G hH hA (c_X11_whyNoShift l E ad μ q0 p1 p2 p3 hk_q0 _ hq) (wm_11 _ (List.mem_of_getElem? (i := 18) rfl)) mi_X11_whyNoShift ms_X11_whyNoShift mn_RX11 mc_X11_whyNoShift rfl md_X11_whyNoShift ⟨rfl, rfl, Nat.le_of_ble_eq_true rfl, Nat.le_of_ble_eq_true rfl⟩ hk_q0 (by decide) rfl rfl hl.1 rfl (Nat.le_of_ble_eq_true rfl) dX11_shifts_4 ⟨Nat.zero_le _, Nat.zero_le _⟩ (fun r2 μ1 hq H locs hH => ?_)
  refine lv_istore (lv' := [(4, .int r2), (0, .ref (ad q0)), (1, .int p1), (2, .int p2), (3, .int p3)]) hx hb dX11_shifts_7 hl (by decide) rfl (fun ls hl => ?_)
  refine lv_iload hx hb dX11_shifts_9 (lv_at hl 0 rfl) ?_
  refine lv_if_eq (tgt := 21) hx hb dX11_shifts_11 (by decide) (fun c3 => ?_) (fun c3 => ?_)
  · have hq := hq.1 c3
    refine lv_aload_n hx hb dX11_shifts_21 rfl (lv_at hl 1 rfl) ?_
    refine x_get (j := 1) (C := RX11) (T := TX11) (N := 8) (v := .ref (ad (rt q0 1))) G hH hk_q0 (by decide) rfl inlX11 (by decide) (wm_1 _ (List.mem_of_getElem? (i := 19) rfl)) rfl dX11_shifts_22 ?_
    refine lv_aload_n hx hb dX11_shifts_25 rfl (lv_at hl 1 rfl) ?_
    refine x_get (j := 0) (C := RX11) (T := TX11) (N := 8) (v := .ref (ad (rt q0 0))) G hH hk_q0 (by decide) rfl inlX11 (by decide) (wm_1 _ (List.mem_of_getElem? (i := 15) rfl)) rfl dX11_shifts_26 ?_
    refine x_cVv (C := RX3) (T := TX3) (N := 3) (As := [.ref (ad (rt q0 0))]) (rest := []) G hH hA (c_X3_keep l E ad μ1 (rt q0 1) (rt q0 0) (kt_9_1 _ hk_q0) (kt_9_0 _ hk_q0) _ hq) (wm_8 _ (List.mem_of_getElem? (i := 3) rfl)) mi_X3_keep ms_X3_keep mn_RX3 mc_X3_keep rfl md_X3_keep ⟨rfl, rfl, Nat.le_of_ble_eq_true rfl, Nat.le_of_ble_eq_true rfl⟩ (kt_9_1 _ hk_q0) (by decide) rfl rfl hl.1 rfl (Nat.le_of_ble_eq_true rfl) dX11_shifts_29 ⟨Nat.zero_le _, Nat.zero_le _⟩ (fun μ4 hq H locs hH => ?_)
    refine lv_aload_n hx hb dX11_shifts_32 rfl (lv_at hl 1 rfl) ?_
    refine x_get (j := 0) (C := RX11) (T := TX11) (N := 8) (v := .ref (ad (rt q0 0))) G hH hk_q0 (by decide) rfl inlX11 (by decide) (wm_1 _ (List.mem_of_getElem? (i := 15) rfl)) rfl dX11_shifts_33 ?_
    refine x_get (j := 0) (C := RX9) (T := TX9) (N := 3) (v := .ref (ad (rt (rt q0 0) 0))) G hH (kt_9_0 _ hk_q0) (by decide) rfl inlX9 (by decide) (wm_1 _ (List.mem_of_getElem? (i := 23) rfl)) rfl dX11_shifts_36 ?_
    refine lv_iload_n hx hb dX11_shifts_39 rfl (lv_at hl 2 rfl) ?_
    refine lv_iload_n hx hb dX11_shifts_40 rfl (lv_at hl 3 rfl) ?_
    refine lv_iload_n hx hb dX11_shifts_41 rfl (lv_at hl 4 rfl) ?_
    refine x_cVv (C := RX0) (T := TX0) (N := 9) (As := [.int p1, .int p2, .int p3]) (rest := []) G hH hA (c_X0_move l E ad μ4 (rt (rt q0 0) 0) p1 p2 p3 (kt_7_0 _ (kt_9_0 _ hk_q0)) _ hq) (wm_12 _ (List.mem_of_getElem? (i := 2) rfl)) mi_X0_move ms_X0_move mn_RX0 mc_X0_move rfl md_X0_move ⟨rfl, rfl, Nat.le_of_ble_eq_true rfl, Nat.le_of_ble_eq_true rfl⟩ (kt_7_0 _ (kt_9_0 _ hk_q0)) (by decide) rfl rfl hl.1 rfl (Nat.le_of_ble_eq_true rfl) dX11_shifts_42 ⟨Nat.zero_le _, Nat.zero_le _⟩ (fun μ5 hq H locs hH => ?_)
    refine lv_aload_n hx hb dX11_shifts_45 rfl (lv_at hl 1 rfl) ?_
    refine x_get (j := 0) (C := RX11) (T := TX11) (N := 8) (v := .ref (ad (rt q0 0))) G hH hk_q0 (by decide) rfl inlX11 (by decide) (wm_1 _ (List.mem_of_getElem? (i := 15) rfl)) rfl dX11_shifts_46 ?_
    refine x_get (j := 0) (C := RX9) (T := TX9) (N := 3) (v := .ref (ad (rt (rt q0 0) 0))) G hH (kt_9_0 _ hk_q0) (by decide) rfl inlX9 (by decide) (wm_1 _ (List.mem_of_getElem? (i := 23) rfl)) rfl dX11_shifts_49 ?_
    refine lv_iload_n hx hb dX11_shifts_52 rfl (lv_at hl 2 rfl) ?_
    refine x_cVi (C := RX0) (T := TX0) (N := 9) (As := [.int p1]) (rest := []) G hH hA (c_X0_placeOf l E ad μ5 (rt (rt q0 0) 0) p1 (kt_7_0 _ (kt_9_0 _ hk_q0)) _ hq) (wm_12 _ (List.mem_of_getElem? (i := 3) rfl)) mi_X0_placeOf ms_X0_placeOf mn_RX0 mc_X0_placeOf rfl md_X0_placeOf ⟨rfl, rfl, Nat.le_of_ble_eq_true rfl, Nat.le_of_ble_eq_true rfl⟩ (kt_7_0 _ (kt_9_0 _ hk_q0)) (by decide) rfl rfl hl.1 rfl (Nat.le_of_ble_eq_true rfl) dX11_shifts_53 ⟨Nat.zero_le _, Nat.zero_le _⟩ (fun r7 μ6 hq H locs hH => ?_)
    refine x_cSi (As := [.int r7]) (rest := []) G hH hA (c_J6_bitCount_0f7a4 l E ad μ6 r7  _ hq) (wm_12 _ (List.mem_of_getElem? (i := 7) rfl)) mt_J6_bitCount_0f7a4 mn_RJ6 mc_J6_bitCount_0f7a4 md_J6_bitCount_0f7a4 ⟨rfl, rfl, Nat.le_of_ble_eq_true rfl, Nat.le_of_ble_eq_true rfl⟩ rfl hl.1 rfl (Nat.le_of_ble_eq_true rfl) dX11_shifts_56 ⟨Nat.zero_le _, Nat.zero_le _⟩ (fun r9 μ8 hq H locs hH => ?_)
    exact x_iret G hr hH hq dX11_shifts_59
  · have hq := hq.2 c3
    refine lv_aload_n hx hb dX11_shifts_14 rfl (lv_at hl 1 rfl) ?_
    refine lv_iload hx hb dX11_shifts_15 (lv_at hl 0 rfl) ?_
    refine x_cVi (C := RX11) (T := TX11) (N := 8) (As := [.int r2]) (rest := []) G hH hA (c_X11_refuse l E ad μ1 q0 r2 hk_q0 _ hq) (wm_7 _ (List.mem_of_getElem? (i := 23) rfl)) mi_X11_refuse ms_X11_refuse mn_RX11 mc_X11_refuse rfl md_X11_refuse ⟨rfl, rfl, Nat.le_of_ble_eq_true rfl, Nat.le_of_ble_eq_true rfl⟩ hk_q0 (by decide) rfl rfl hl.1 rfl (Nat.le_of_ble_eq_true rfl) dX11_shifts_17 ⟨Nat.zero_le _, Nat.zero_le _⟩ (fun r11 μ10 hq H locs hH => ?_)
    exact x_iret G hr hH hq dX11_shifts_20
abbrev tX10_add : List Cond := Cond.code yX10_add cX10_add 2 none :: wsL_law
theorem mi_X10_add : Cond.instanceMethod yX10_add ∈ wsL_law := (wm_31 _ (List.mem_of_getElem? (i := 8) rfl))
theorem ms_X10_add : Cond.selects RX10 yX10_add yX10_add ∈ wsL_law := (wm_31 _ (List.mem_of_getElem? (i := 9) rfl))
theorem mc_X10_add : Cond.code yX10_add cX10_add 2 none ∈ wsL_law := (wm_31 _ (List.mem_of_getElem? (i := 10) rfl))
theorem md_X10_add : yX10_add.cls ≠ "java/lang/invoke/MethodHandle" ∧ yX10_add.cls ≠ "java/lang/invoke/VarHandle" ∧ (parseMethodDescriptor yX10_add.desc).map (fun d => d.parameters.length) = some 1 := by decide +kernel
set_option maxRecDepth 100000 in
set_option maxHeartbeats 4000000 in
theorem c_X10_add (l : Launch) (E : xE) (ad : Nat → Nat) (μ : xM) (q0 : Nat) (p1 : Int32) (hk_q0 : kd q0 = 8) (Qm : xM → Prop) (hq : p_X10_add q0 p1 μ Qm) : xMv l yX10_add tX10_add ({ frames := 2, cells := 0, slots := 0, locals := 80 } : Room) E ad μ [.ref (ad q0), .int p1] Qm := by
  refine x_stv (cc := cX10_add) (maxL := 2) (ret := none) (own := RX10) rfl (by decide) rfl (Nat.le_of_ble_eq_true rfl) ?_
  intro p e s m args below meth c ls G hr hA hH hl
  obtain ⟨hx, hb, hml, hown, hts, hKn, hN, hlk⟩ := id G
  have hl : lv_has ls 2 [(0, .ref (ad q0)), (1, .int p1)] := hl
  have hH : xH E ad (xA ad s.heap.size) s.heap μ s.heap [] := hH
  unfold p_X10_add at hq
  refine lv_aload_n hx hb dX10_add_0 rfl (lv_at hl 0 rfl) ?_
  refine x_get (j := 0) (C := RX10) (T := TX10) (N := 2) (v := .ref (ad (rt q0 0))) G hH hk_q0 (by decide) rfl inlX10 (by decide) (wm_5 _ (List.mem_of_getElem? (i := 23) rfl)) rfl dX10_add_1 ?_
  refine lv_aload_n hx hb dX10_add_4 rfl (lv_at hl 0 rfl) ?_
  refine x_get (j := 1) (C := RX10) (T := TX10) (N := 2) (v := .int (μ.1 q0 1)) G hH hk_q0 (by decide) rfl inlX10 (by decide) (wm_6 _ (List.mem_of_getElem? (i := 0) rfl)) rfl dX10_add_5 ?_
  refine lv_iload_n hx hb dX10_add_8 rfl (lv_at hl 1 rfl) ?_
  refine x_cSv (As := [.ref (ad (rt q0 0)), .int (μ.1 q0 1), .int p1]) (rest := []) G hH hA (c_X5_put l E ad μ (rt q0 0) (μ.1 q0 1) p1 (kt_8_0 _ hk_q0) _ hq) (wm_31 _ (List.mem_of_getElem? (i := 11) rfl)) mt_X5_put mn_RX5 mc_X5_put md_X5_put ⟨rfl, rfl, Nat.le_of_ble_eq_true rfl, Nat.le_of_ble_eq_true rfl⟩ rfl hl.1 rfl (Nat.le_of_ble_eq_true rfl) dX10_add_9 ⟨Nat.zero_le _, Nat.zero_le _⟩ (fun μ1 hq H locs hH => ?_)
  refine lv_aload_n hx hb dX10_add_12 rfl (lv_at hl 0 rfl) ?_
  refine lv_dup hx hb dX10_add_13 rfl ?_
  refine x_get (j := 1) (C := RX10) (T := TX10) (N := 2) (v := .int (μ1.1 q0 1)) G hH hk_q0 (by decide) rfl inlX10 (by decide) (wm_6 _ (List.mem_of_getElem? (i := 0) rfl)) rfl dX10_add_14 ?_
  refine lv_iconst (v := (1 : Int32)) hx hb dX10_add_17 (by decide) ?_
  refine lv_iadd hx hb dX10_add_18 ?_
  refine x_puti (j := 1) (C := RX10) (T := TX10) (N := 2) (ty := .int) G hH hk_q0 (by decide) rfl inlX10 tyX10 tyX10_ok nmX10 (by decide) (wm_6 _ (List.mem_of_getElem? (i := 0) rfl)) rfl (by decide +kernel) rfl rfl (fun _ _ => Nat.le_of_ble_eq_true rfl) (fun _ _ => rfl) dX10_add_19 (fun μ2 e_μ2 H locs hH => ?_)
  have hq := hq μ2 e_μ2
  exact x_vret G hr hH hq dX10_add_22
abbrev tX11_type : List Cond := Cond.code yX11_type cX11_type 2 (some .int) :: wsL_law
theorem mi_X11_type : Cond.instanceMethod yX11_type ∈ wsL_law := (wm_31 _ (List.mem_of_getElem? (i := 3) rfl))
theorem ms_X11_type : Cond.selects RX11 yX11_type yX11_type ∈ wsL_law := (wm_31 _ (List.mem_of_getElem? (i := 4) rfl))
theorem mc_X11_type : Cond.code yX11_type cX11_type 2 (some .int) ∈ wsL_law := (wm_31 _ (List.mem_of_getElem? (i := 5) rfl))
theorem md_X11_type : yX11_type.cls ≠ "java/lang/invoke/MethodHandle" ∧ yX11_type.cls ≠ "java/lang/invoke/VarHandle" ∧ (parseMethodDescriptor yX11_type.desc).map (fun d => d.parameters.length) = some 1 := by decide +kernel
set_option maxRecDepth 100000 in
set_option maxHeartbeats 4000000 in
theorem c_X11_type (l : Launch) (E : xE) (ad : Nat → Nat) (μ : xM) (q0 : Nat) (p1 : Int32) (hk_q0 : kd q0 = 9) (Qm : Int32 → xM → Prop) (hq : p_X11_type q0 p1 μ Qm) : xMi l yX11_type tX11_type ({ frames := 3, cells := 0, slots := 0, locals := 120 } : Room) E ad μ [.ref (ad q0), .int p1] Qm := by
  refine x_sti (cc := cX11_type) (maxL := 2) (ret := (some .int)) (own := RX11) rfl (by decide) rfl (Nat.le_of_ble_eq_true rfl) ?_
  intro p e s m args below meth c ls G hr hA hH hl
  obtain ⟨hx, hb, hml, hown, hts, hKn, hN, hlk⟩ := id G
  have hl : lv_has ls 2 [(0, .ref (ad q0)), (1, .int p1)] := hl
  have hH : xH E ad (xA ad s.heap.size) s.heap μ s.heap [] := hH
  unfold p_X11_type at hq
  refine lv_iload_n hx hb dX11_type_0 rfl (lv_at hl 1 rfl) ?_
  refine lv_iconst (v := (0 : Int32)) hx hb dX11_type_1 (by decide) ?_
  refine lv_bipush (v := (127 : Int32)) hx hb dX11_type_2 (by decide) ?_
  refine x_cSi (As := [.int p1, .int (0 : Int32), .int (127 : Int32)]) (rest := []) G hH hA (c_X11_within l E ad μ p1 (0 : Int32) (127 : Int32)  _ hq) (wm_7 _ (List.mem_of_getElem? (i := 20) rfl)) mt_X11_within mn_RX11 mc_X11_within md_X11_within ⟨rfl, rfl, Nat.le_of_ble_eq_true rfl, Nat.le_of_ble_eq_true rfl⟩ rfl hl.1 rfl (Nat.le_of_ble_eq_true rfl) dX11_type_4 ⟨Nat.zero_le _, Nat.zero_le _⟩ (fun r2 μ1 hq H locs hH => ?_)
  refine lv_if_ne (tgt := 17) hx hb dX11_type_7 (by decide) (fun c3 => ?_) (fun c3 => ?_)
  · have hq := hq.1 c3
    refine lv_aload_n hx hb dX11_type_17 rfl (lv_at hl 0 rfl) ?_
    refine x_get (j := 3) (C := RX11) (T := TX11) (N := 8) (v := .ref (ad (rt q0 3))) G hH hk_q0 (by decide) rfl inlX11 (by decide) (wm_2 _ (List.mem_of_getElem? (i := 4) rfl)) rfl dX11_type_18 ?_
    refine x_get (j := 1) (C := RX10) (T := TX10) (N := 2) (v := .int (μ1.1 (rt q0 3) 1)) G hH (kt_9_3 _ hk_q0) (by decide) rfl inlX10 (by decide) (wm_31 _ (List.mem_of_getElem? (i := 6) rfl)) rfl dX11_type_21 ?_
    refine lv_sipush (v := (150 : Int32)) hx hb dX11_type_24 (by decide) ?_
    refine lv_icmp_lt (tgt := 37) hx hb dX11_type_27 (by decide) (fun c4 => ?_) (fun c4 => ?_)
    · have hq := hq.1 c4
      refine lv_aload_n hx hb dX11_type_37 rfl (lv_at hl 0 rfl) ?_
      refine x_get (j := 3) (C := RX11) (T := TX11) (N := 8) (v := .ref (ad (rt q0 3))) G hH hk_q0 (by decide) rfl inlX11 (by decide) (wm_2 _ (List.mem_of_getElem? (i := 4) rfl)) rfl dX11_type_38 ?_
      refine lv_iload_n hx hb dX11_type_41 rfl (lv_at hl 1 rfl) ?_
      refine x_cVv (C := RX10) (T := TX10) (N := 2) (As := [.int p1]) (rest := []) G hH hA (c_X10_add l E ad μ1 (rt q0 3) p1 (kt_9_3 _ hk_q0) _ hq) (wm_31 _ (List.mem_of_getElem? (i := 7) rfl)) mi_X10_add ms_X10_add mn_RX10 mc_X10_add rfl md_X10_add ⟨rfl, rfl, Nat.le_of_ble_eq_true rfl, Nat.le_of_ble_eq_true rfl⟩ (kt_9_3 _ hk_q0) (by decide) rfl rfl hl.1 rfl (Nat.le_of_ble_eq_true rfl) dX11_type_42 ⟨Nat.zero_le _, Nat.zero_le _⟩ (fun μ5 hq H locs hH => ?_)
      refine lv_aload_n hx hb dX11_type_45 rfl (lv_at hl 0 rfl) ?_
      refine x_get (j := 3) (C := RX11) (T := TX11) (N := 8) (v := .ref (ad (rt q0 3))) G hH hk_q0 (by decide) rfl inlX11 (by decide) (wm_2 _ (List.mem_of_getElem? (i := 4) rfl)) rfl dX11_type_46 ?_
      refine x_get (j := 1) (C := RX10) (T := TX10) (N := 2) (v := .int (μ5.1 (rt q0 3) 1)) G hH (kt_9_3 _ hk_q0) (by decide) rfl inlX10 (by decide) (wm_31 _ (List.mem_of_getElem? (i := 6) rfl)) rfl dX11_type_49 ?_
      exact x_iret G hr hH hq dX11_type_52
    · have hq := hq.2 c4
      refine lv_aload_n hx hb dX11_type_30 rfl (lv_at hl 0 rfl) ?_
      refine lv_bipush (v := (-4 : Int32)) hx hb dX11_type_31 (by decide) ?_
      refine x_cVi (C := RX11) (T := TX11) (N := 8) (As := [.int (-4 : Int32)]) (rest := []) G hH hA (c_X11_refuse l E ad μ1 q0 (-4 : Int32) hk_q0 _ hq) (wm_7 _ (List.mem_of_getElem? (i := 23) rfl)) mi_X11_refuse ms_X11_refuse mn_RX11 mc_X11_refuse rfl md_X11_refuse ⟨rfl, rfl, Nat.le_of_ble_eq_true rfl, Nat.le_of_ble_eq_true rfl⟩ hk_q0 (by decide) rfl rfl hl.1 rfl (Nat.le_of_ble_eq_true rfl) dX11_type_33 ⟨Nat.zero_le _, Nat.zero_le _⟩ (fun r7 μ6 hq H locs hH => ?_)
      exact x_iret G hr hH hq dX11_type_36
  · have hq := hq.2 c3
    refine lv_aload_n hx hb dX11_type_10 rfl (lv_at hl 0 rfl) ?_
    refine lv_bipush (v := (-2 : Int32)) hx hb dX11_type_11 (by decide) ?_
    refine x_cVi (C := RX11) (T := TX11) (N := 8) (As := [.int (-2 : Int32)]) (rest := []) G hH hA (c_X11_refuse l E ad μ1 q0 (-2 : Int32) hk_q0 _ hq) (wm_7 _ (List.mem_of_getElem? (i := 23) rfl)) mi_X11_refuse ms_X11_refuse mn_RX11 mc_X11_refuse rfl md_X11_refuse ⟨rfl, rfl, Nat.le_of_ble_eq_true rfl, Nat.le_of_ble_eq_true rfl⟩ hk_q0 (by decide) rfl rfl hl.1 rfl (Nat.le_of_ble_eq_true rfl) dX11_type_13 ⟨Nat.zero_le _, Nat.zero_le _⟩ (fun r9 μ8 hq H locs hH => ?_)
    exact x_iret G hr hH hq dX11_type_16
abbrev tX12_in : List Cond := Cond.code yX12_in cX12_in 3 (some .boolean) :: wsL_law
theorem mt_X12_in : Cond.static yX12_in ∈ wsL_law := (wm_11 _ (List.mem_of_getElem? (i := 0) rfl))
theorem mc_X12_in : Cond.code yX12_in cX12_in 3 (some .boolean) ∈ wsL_law := (wm_11 _ (List.mem_of_getElem? (i := 1) rfl))
theorem md_X12_in : yX12_in.cls ≠ "java/lang/invoke/MethodHandle" ∧ yX12_in.cls ≠ "java/lang/invoke/VarHandle" ∧ (parseMethodDescriptor yX12_in.desc).map (fun d => d.parameters.length) = some 3 := by decide +kernel
set_option maxRecDepth 100000 in
set_option maxHeartbeats 4000000 in
theorem c_X12_in (l : Launch) (E : xE) (ad : Nat → Nat) (μ : xM) (p1 : Int32) (p2 : Int32) (p3 : Int32) (Qm : Int32 → xM → Prop) (hq : p_X12_in p1 p2 p3 μ Qm) : xMi l yX12_in tX12_in ({ frames := 1, cells := 0, slots := 0, locals := 40 } : Room) E ad μ [.int p1, .int p2, .int p3] Qm := by
  refine x_sti (cc := cX12_in) (maxL := 3) (ret := (some .boolean)) (own := RX12) rfl (by decide) rfl (Nat.le_of_ble_eq_true rfl) ?_
  intro p e s m args below meth c ls G hr hA hH hl
  obtain ⟨hx, hb, hml, hown, hts, hKn, hN, hlk⟩ := id G
  have hl : lv_has ls 3 [(0, .int p1), (1, .int p2), (2, .int p3)] := hl
  have hH : xH E ad (xA ad s.heap.size) s.heap μ s.heap [] := hH
  unfold p_X12_in at hq
  refine lv_iload_n hx hb dX12_in_0 rfl (lv_at hl 0 rfl) ?_
  refine lv_iload_n hx hb dX12_in_1 rfl (lv_at hl 1 rfl) ?_
  refine lv_icmp_lt (tgt := 14) hx hb dX12_in_2 (by decide) (fun c1 => ?_) (fun c1 => ?_)
  · have hq := hq.1 c1
    refine lv_iconst (v := (0 : Int32)) hx hb dX12_in_14 (by decide) ?_
    exact x_zret G hr hH xz_0 hq dX12_in_15
  · have hq := hq.2 c1
    refine lv_iload_n hx hb dX12_in_5 rfl (lv_at hl 0 rfl) ?_
    refine lv_iload_n hx hb dX12_in_6 rfl (lv_at hl 2 rfl) ?_
    refine lv_icmp_gt (tgt := 14) hx hb dX12_in_7 (by decide) (fun c2 => ?_) (fun c2 => ?_)
    · have hq := hq.1 c2
      refine lv_iconst (v := (0 : Int32)) hx hb dX12_in_14 (by decide) ?_
      exact x_zret G hr hH xz_0 hq dX12_in_15
    · have hq := hq.2 c2
      refine lv_iconst (v := (1 : Int32)) hx hb dX12_in_10 (by decide) ?_
      refine lv_goto (tgt := 15) hx hb dX12_in_11 (by decide) ?_
      exact x_zret G hr hH xz_1 hq dX12_in_15
abbrev tX12_ofBlock : List Cond := Cond.code yX12_ofBlock cX12_ofBlock 3 (some .int) :: wsL_law
theorem mi_X12_ofBlock : Cond.instanceMethod yX12_ofBlock ∈ wsL_law := (wm_13 _ (List.mem_of_getElem? (i := 7) rfl))
theorem ms_X12_ofBlock : Cond.selects RX12 yX12_ofBlock yX12_ofBlock ∈ wsL_law := (wm_13 _ (List.mem_of_getElem? (i := 8) rfl))
theorem mc_X12_ofBlock : Cond.code yX12_ofBlock cX12_ofBlock 3 (some .int) ∈ wsL_law := (wm_13 _ (List.mem_of_getElem? (i := 9) rfl))
theorem md_X12_ofBlock : yX12_ofBlock.cls ≠ "java/lang/invoke/MethodHandle" ∧ yX12_ofBlock.cls ≠ "java/lang/invoke/VarHandle" ∧ (parseMethodDescriptor yX12_ofBlock.desc).map (fun d => d.parameters.length) = some 2 := by decide +kernel
set_option maxRecDepth 100000 in
set_option maxHeartbeats 4000000 in
theorem c_X12_ofBlock (l : Launch) (E : xE) (ad : Nat → Nat) (μ : xM) (q0 : Nat) (p1 : Int32) (p2 : Int32) (hk_q0 : kd q0 = 10) (Qm : Int32 → xM → Prop) (hq : p_X12_ofBlock q0 p1 p2 μ Qm) : xMi l yX12_ofBlock tX12_ofBlock ({ frames := 1, cells := 0, slots := 0, locals := 40 } : Room) E ad μ [.ref (ad q0), .int p1, .int p2] Qm := by
  refine x_sti (cc := cX12_ofBlock) (maxL := 3) (ret := (some .int)) (own := RX12) rfl (by decide) rfl (Nat.le_of_ble_eq_true rfl) ?_
  intro p e s m args below meth c ls G hr hA hH hl
  obtain ⟨hx, hb, hml, hown, hts, hKn, hN, hlk⟩ := id G
  have hl : lv_has ls 3 [(0, .ref (ad q0)), (1, .int p1), (2, .int p2)] := hl
  have hH : xH E ad (xA ad s.heap.size) s.heap μ s.heap [] := hH
  unfold p_X12_ofBlock at hq
  refine lv_aload_n hx hb dX12_ofBlock_0 rfl (lv_at hl 0 rfl) ?_
  refine x_get (j := 0) (C := RX12) (T := TX12) (N := 24) (v := .ref (ad (rt q0 0))) G hH hk_q0 (by decide) rfl inlX12 (by decide) (wm_6 _ (List.mem_of_getElem? (i := 18) rfl)) rfl dX12_ofBlock_1 ?_
  refine lv_iconst (v := (1 : Int32)) hx hb dX12_ofBlock_4 (by decide) ?_
  refine lv_bipush (v := (7 : Int32)) hx hb dX12_ofBlock_5 (by decide) ?_
  refine lv_iload_n hx hb dX12_ofBlock_7 rfl (lv_at hl 1 rfl) ?_
  refine lv_imul hx hb dX12_ofBlock_8 ?_
  refine lv_iadd hx hb dX12_ofBlock_9 ?_
  refine lv_iload_n hx hb dX12_ofBlock_10 rfl (lv_at hl 2 rfl) ?_
  refine lv_iadd hx hb dX12_ofBlock_11 ?_
  refine x_iald G hH (kt_10_0 _ hk_q0) hq.1 dX12_ofBlock_12 ?_
  have hq := hq.2
  exact x_iret G hr hH hq dX12_ofBlock_13
abbrev tX12_has : List Cond := Cond.code yX12_has cX12_has 2 (some .boolean) :: wsL_law
theorem mt_X12_has : Cond.static yX12_has ∈ wsL_law := (wm_13 _ (List.mem_of_getElem? (i := 14) rfl))
theorem mc_X12_has : Cond.code yX12_has cX12_has 2 (some .boolean) ∈ wsL_law := (wm_13 _ (List.mem_of_getElem? (i := 15) rfl))
theorem md_X12_has : yX12_has.cls ≠ "java/lang/invoke/MethodHandle" ∧ yX12_has.cls ≠ "java/lang/invoke/VarHandle" ∧ (parseMethodDescriptor yX12_has.desc).map (fun d => d.parameters.length) = some 2 := by decide +kernel
set_option maxRecDepth 100000 in
set_option maxHeartbeats 4000000 in
theorem c_X12_has (l : Launch) (E : xE) (ad : Nat → Nat) (μ : xM) (p1 : Int32) (p2 : Int32) (Qm : Int32 → xM → Prop) (hq : p_X12_has p1 p2 μ Qm) : xMi l yX12_has tX12_has ({ frames := 1, cells := 0, slots := 0, locals := 40 } : Room) E ad μ [.int p1, .int p2] Qm := by
  refine x_sti (cc := cX12_has) (maxL := 2) (ret := (some .boolean)) (own := RX12) rfl (by decide) rfl (Nat.le_of_ble_eq_true rfl) ?_
  intro p e s m args below meth c ls G hr hA hH hl
  obtain ⟨hx, hb, hml, hown, hts, hKn, hN, hlk⟩ := id G
  have hl : lv_has ls 2 [(0, .int p1), (1, .int p2)] := hl
  have hH : xH E ad (xA ad s.heap.size) s.heap μ s.heap [] := hH
  unfold p_X12_has at hq
  refine lv_iload_n hx hb dX12_has_0 rfl (lv_at hl 0 rfl) ?_
  refine lv_iload_n hx hb dX12_has_1 rfl (lv_at hl 1 rfl) ?_
  refine lv_ishr hx hb dX12_has_2 ?_
  refine lv_iconst (v := (1 : Int32)) hx hb dX12_has_3 (by decide) ?_
  refine lv_iand hx hb dX12_has_4 ?_
  refine lv_iconst (v := (1 : Int32)) hx hb dX12_has_5 (by decide) ?_
  refine lv_icmp_ne (tgt := 13) hx hb dX12_has_6 (by decide) (fun c1 => ?_) (fun c1 => ?_)
  · have hq := hq.1 c1
    refine lv_iconst (v := (0 : Int32)) hx hb dX12_has_13 (by decide) ?_
    exact x_zret G hr hH xz_0 hq dX12_has_14
  · have hq := hq.2 c1
    refine lv_iconst (v := (1 : Int32)) hx hb dX12_has_9 (by decide) ?_
    refine lv_goto (tgt := 14) hx hb dX12_has_10 (by decide) ?_
    exact x_zret G hr hH xz_1 hq dX12_has_14
abbrev tX12_moved : List Cond := Cond.code yX12_moved cX12_moved 7 (some .int) :: wsL_law
theorem mt_X12_moved : Cond.static yX12_moved ∈ wsL_law := (wm_13 _ (List.mem_of_getElem? (i := 11) rfl))
theorem mc_X12_moved : Cond.code yX12_moved cX12_moved 7 (some .int) ∈ wsL_law := (wm_13 _ (List.mem_of_getElem? (i := 12) rfl))
theorem md_X12_moved : yX12_moved.cls ≠ "java/lang/invoke/MethodHandle" ∧ yX12_moved.cls ≠ "java/lang/invoke/VarHandle" ∧ (parseMethodDescriptor yX12_moved.desc).map (fun d => d.parameters.length) = some 3 := by decide +kernel
set_option maxRecDepth 100000 in
set_option maxHeartbeats 4000000 in
theorem wb_X12_moved_5 {E : xE} {ad : Nat → Nat} {p : Program} {l : Launch} {e : Env} {s : State} {m : MethodId} {args : Array Value} {below : List Frame} {meth : Method} {c : Code} {Q : State → Prop} (G : xG E p s m args meth c cX12_moved 7 RX12) (hA : ∀ a, s.heap.size ≤ a → xA ad s.heap.size a) (a1 : Int32) (a2 : Int32) (a3 : Int32) (a4 : Int32) (a5 : Int32) (μ7 : xM) (K50 : Int32 → xM → Prop) (K5b : Int32 → Int32 → xM → Prop) (hq : B_X12_moved_5 a1 a2 a3 a4 a5 μ7 K50 K5b) {H : Heap} {locs : List Loc} {ls : Array Slot} (hH : xH E ad (xA ad s.heap.size) s.heap μ7 H locs) (hl : lv_has ls 7 [(0, .int a1), (1, .int a2), (2, .int a3), (4, .int a4), (3, .int a5)]) (kK50 : ∀ (a8 : Int32) (μ9 : xM), K50 a8 μ9 → ∀ (H : Heap) (locs : List Loc) (ls : Array Slot), xH E ad (xA ad s.heap.size) s.heap μ9 H locs → lv_has ls 7 [(3, .int a8)] → W p l e (headSpec tX12_moved ({ frames := 2, cells := 0, slots := 0, locals := 80 } : Room)).room s m args below meth c H locs 0 0 Q (F0 m 75 ls [])) (kK5b : ∀ (a10 : Int32) (a11 : Int32) (μ12 : xM), K5b a10 a11 μ12 → ∀ (H : Heap) (locs : List Loc) (ls : Array Slot), xH E ad (xA ad s.heap.size) s.heap μ12 H locs → lv_has ls 7 [(0, .int a1), (1, .int a2), (2, .int a3), (4, .int a10), (3, .int a11)] → W p l e (headSpec tX12_moved ({ frames := 2, cells := 0, slots := 0, locals := 80 } : Room)).room s m args below meth c H locs 0 0 Q (F0 m 5 ls [])) : W p l e (headSpec tX12_moved ({ frames := 2, cells := 0, slots := 0, locals := 80 } : Room)).room s m args below meth c H locs 0 0 Q (F0 m 5 ls []) := by
  obtain ⟨hx, hb, hml, hown, hts, hKn, hN, hlk⟩ := id G
  unfold B_X12_moved_5 at hq
  refine lv_iload hx hb dX12_moved_5 (lv_at hl 3 rfl) ?_
  refine lv_bipush (v := (16 : Int32)) hx hb dX12_moved_7 (by decide) ?_
  refine lv_icmp_ge (tgt := 75) hx hb dX12_moved_9 (by decide) (fun c13 => ?_) (fun c13 => ?_)
  · have hq := hq.1 c13
    exact kK50 a5 μ7 hq _ _ _ hH (lv_sub hl [4] rfl)
  · have hq := hq.2 c13
    refine lv_iload hx hb dX12_moved_12 (lv_at hl 3 rfl) ?_
    refine lv_iconst (v := (4 : Int32)) hx hb dX12_moved_14 (by decide) ?_
    refine lv_irem hx hb dX12_moved_15 (by decide) ?_
    refine lv_iload_n hx hb dX12_moved_16 rfl (lv_at hl 1 rfl) ?_
    refine lv_iadd hx hb dX12_moved_17 ?_
    refine lv_topi (fun v14 e_v14 => ?_)
    have hq := hq v14 e_v14
    refine lv_istore (lv' := [(5, .int v14), (0, .int a1), (1, .int a2), (2, .int a3), (4, .int a4), (3, .int a5)]) hx hb dX12_moved_18 hl (by decide) rfl (fun ls hl => ?_)
    refine lv_iload hx hb dX12_moved_20 (lv_at hl 4 rfl) ?_
    refine lv_iconst (v := (4 : Int32)) hx hb dX12_moved_22 (by decide) ?_
    refine lv_idiv hx hb dX12_moved_23 (by decide) ?_
    refine lv_iload_n hx hb dX12_moved_24 rfl (lv_at hl 3 rfl) ?_
    refine lv_iadd hx hb dX12_moved_25 ?_
    refine lv_topi (fun v15 e_v15 => ?_)
    have hq := hq v15 e_v15
    refine lv_istore (lv' := [(6, .int v15), (5, .int v14), (0, .int a1), (1, .int a2), (2, .int a3), (4, .int a4), (3, .int a5)]) hx hb dX12_moved_26 hl (by decide) rfl (fun ls hl => ?_)
    refine lv_iload_n hx hb dX12_moved_28 rfl (lv_at hl 2 rfl) ?_
    refine lv_iload hx hb dX12_moved_29 (lv_at hl 5 rfl) ?_
    refine x_cSi (As := [.int a1, .int a4]) (rest := []) G hH hA (c_X12_has l E ad μ7 a1 a4  _ hq) (wm_13 _ (List.mem_of_getElem? (i := 13) rfl)) mt_X12_has mn_RX12 mc_X12_has md_X12_has ⟨rfl, rfl, Nat.le_of_ble_eq_true rfl, Nat.le_of_ble_eq_true rfl⟩ rfl hl.1 rfl (Nat.le_of_ble_eq_true rfl) dX12_moved_31 ⟨Nat.zero_le _, Nat.zero_le _⟩ (fun r17 μ16 hq H locs hH => ?_)
    refine lv_if_eq (tgt := 69) hx hb dX12_moved_34 (by decide) (fun c18 => ?_) (fun c18 => ?_)
    · have hq := hq.1 c18
      obtain ⟨v19, e_v19⟩ : ∃ y : Int32, y = (a4 + (1 : Int32)) := ⟨_, rfl⟩
      have hq := hq v19 e_v19
      refine lv_iinc (v := v19) (lv' := [(4, .int v19), (6, .int v15), (5, .int v14), (0, .int a1), (1, .int a2), (2, .int a3), (3, .int a5)]) hx hb dX12_moved_69 hl (k := 5) rfl (by rw [e_v19]; rfl) (by decide) rfl (fun ls hl => ?_)
      refine lv_goto (tgt := 5) hx hb dX12_moved_72 (by decide) ?_
      exact kK5b v19 a5 μ16 hq _ _ _ hH (lv_sub hl [3, 4, 5, 0, 6] rfl)
    · have hq := hq.2 c18
      refine lv_iload hx hb dX12_moved_37 (lv_at hl 1 rfl) ?_
      refine lv_iconst (v := (0 : Int32)) hx hb dX12_moved_39 (by decide) ?_
      refine lv_iconst (v := (3 : Int32)) hx hb dX12_moved_40 (by decide) ?_
      refine x_cSi (As := [.int v14, .int (0 : Int32), .int (3 : Int32)]) (rest := []) G hH hA (c_X12_in l E ad μ16 v14 (0 : Int32) (3 : Int32)  _ hq) (wm_10 _ (List.mem_of_getElem? (i := 23) rfl)) mt_X12_in mn_RX12 mc_X12_in md_X12_in ⟨rfl, rfl, Nat.le_of_ble_eq_true rfl, Nat.le_of_ble_eq_true rfl⟩ rfl hl.1 rfl (Nat.le_of_ble_eq_true rfl) dX12_moved_41 ⟨Nat.zero_le _, Nat.zero_le _⟩ (fun r21 μ20 hq H locs hH => ?_)
      refine lv_if_eq (tgt := 69) hx hb dX12_moved_44 (by decide) (fun c22 => ?_) (fun c22 => ?_)
      · have hq := hq.1 c22
        obtain ⟨v23, e_v23⟩ : ∃ y : Int32, y = (a4 + (1 : Int32)) := ⟨_, rfl⟩
        have hq := hq v23 e_v23
        refine lv_iinc (v := v23) (lv' := [(4, .int v23), (6, .int v15), (5, .int v14), (0, .int a1), (1, .int a2), (2, .int a3), (3, .int a5)]) hx hb dX12_moved_69 hl (k := 5) rfl (by rw [e_v23]; rfl) (by decide) rfl (fun ls hl => ?_)
        refine lv_goto (tgt := 5) hx hb dX12_moved_72 (by decide) ?_
        exact kK5b v23 a5 μ20 hq _ _ _ hH (lv_sub hl [3, 4, 5, 0, 6] rfl)
      · have hq := hq.2 c22
        refine lv_iload hx hb dX12_moved_47 (lv_at hl 0 rfl) ?_
        refine lv_iconst (v := (0 : Int32)) hx hb dX12_moved_49 (by decide) ?_
        refine lv_iconst (v := (3 : Int32)) hx hb dX12_moved_50 (by decide) ?_
        refine x_cSi (As := [.int v15, .int (0 : Int32), .int (3 : Int32)]) (rest := []) G hH hA (c_X12_in l E ad μ20 v15 (0 : Int32) (3 : Int32)  _ hq) (wm_10 _ (List.mem_of_getElem? (i := 23) rfl)) mt_X12_in mn_RX12 mc_X12_in md_X12_in ⟨rfl, rfl, Nat.le_of_ble_eq_true rfl, Nat.le_of_ble_eq_true rfl⟩ rfl hl.1 rfl (Nat.le_of_ble_eq_true rfl) dX12_moved_51 ⟨Nat.zero_le _, Nat.zero_le _⟩ (fun r25 μ24 hq H locs hH => ?_)
        refine lv_if_eq (tgt := 69) hx hb dX12_moved_54 (by decide) (fun c26 => ?_) (fun c26 => ?_)
        · have hq := hq.1 c26
          obtain ⟨v27, e_v27⟩ : ∃ y : Int32, y = (a4 + (1 : Int32)) := ⟨_, rfl⟩
          have hq := hq v27 e_v27
          refine lv_iinc (v := v27) (lv' := [(4, .int v27), (6, .int v15), (5, .int v14), (0, .int a1), (1, .int a2), (2, .int a3), (3, .int a5)]) hx hb dX12_moved_69 hl (k := 5) rfl (by rw [e_v27]; rfl) (by decide) rfl (fun ls hl => ?_)
          refine lv_goto (tgt := 5) hx hb dX12_moved_72 (by decide) ?_
          exact kK5b v27 a5 μ24 hq _ _ _ hH (lv_sub hl [3, 4, 5, 0, 6] rfl)
        · have hq := hq.2 c26
          refine lv_iload_n hx hb dX12_moved_57 rfl (lv_at hl 6 rfl) ?_
          refine lv_iconst (v := (1 : Int32)) hx hb dX12_moved_58 (by decide) ?_
          refine lv_iconst (v := (4 : Int32)) hx hb dX12_moved_59 (by decide) ?_
          refine lv_iload hx hb dX12_moved_60 (lv_at hl 0 rfl) ?_
          refine lv_imul hx hb dX12_moved_62 ?_
          refine lv_iload hx hb dX12_moved_63 (lv_at hl 1 rfl) ?_
          refine lv_iadd hx hb dX12_moved_65 ?_
          refine lv_ishl hx hb dX12_moved_66 ?_
          refine lv_ior hx hb dX12_moved_67 ?_
          refine lv_topi (fun v28 e_v28 => ?_)
          have hq := hq v28 e_v28
          refine lv_istore_n (lv' := [(3, .int v28), (6, .int v15), (5, .int v14), (0, .int a1), (1, .int a2), (2, .int a3), (4, .int a4)]) hx hb dX12_moved_68 rfl hl (by decide) rfl (fun ls hl => ?_)
          obtain ⟨v29, e_v29⟩ : ∃ y : Int32, y = (a4 + (1 : Int32)) := ⟨_, rfl⟩
          have hq := hq v29 e_v29
          refine lv_iinc (v := v29) (lv' := [(4, .int v29), (3, .int v28), (6, .int v15), (5, .int v14), (0, .int a1), (1, .int a2), (2, .int a3)]) hx hb dX12_moved_69 hl (k := 6) rfl (by rw [e_v29]; rfl) (by decide) rfl (fun ls hl => ?_)
          refine lv_goto (tgt := 5) hx hb dX12_moved_72 (by decide) ?_
          exact kK5b v29 v28 μ24 hq _ _ _ hH (lv_sub hl [4, 5, 6, 0, 1] rfl)
set_option maxRecDepth 100000 in
set_option maxHeartbeats 4000000 in
theorem w_X12_moved_5 {E : xE} {ad : Nat → Nat} {p : Program} {l : Launch} {e : Env} {s : State} {m : MethodId} {args : Array Value} {below : List Frame} {meth : Method} {c : Code} {Q : State → Prop} (G : xG E p s m args meth c cX12_moved 7 RX12) (hA : ∀ a, s.heap.size ≤ a → xA ad s.heap.size a) (a1 : Int32) (a2 : Int32) (a3 : Int32) : ∀ (n : Nat) (a4 : Int32) (a5 : Int32) (μ7 : xM) (K50 : Int32 → xM → Prop) (hq : L_X12_moved_5 a1 a2 a3 n a4 a5 μ7 K50) (H : Heap) (locs : List Loc) (ls : Array Slot) (hH : xH E ad (xA ad s.heap.size) s.heap μ7 H locs) (hl : lv_has ls 7 [(0, .int a1), (1, .int a2), (2, .int a3), (4, .int a4), (3, .int a5)]) (kK50 : ∀ (a8 : Int32) (μ9 : xM), K50 a8 μ9 → ∀ (H : Heap) (locs : List Loc) (ls : Array Slot), xH E ad (xA ad s.heap.size) s.heap μ9 H locs → lv_has ls 7 [(3, .int a8)] → W p l e (headSpec tX12_moved ({ frames := 2, cells := 0, slots := 0, locals := 80 } : Room)).room s m args below meth c H locs 0 0 Q (F0 m 75 ls [])) , W p l e (headSpec tX12_moved ({ frames := 2, cells := 0, slots := 0, locals := 80 } : Room)).room s m args below meth c H locs 0 0 Q (F0 m 5 ls [])
  | 0, _, _, _, _, hq, _, _, _, _, _, _ => hq.elim
  | n + 1, a4, a5, μ7, K50, hq, H, locs, ls, hH, hl, kK50 => wb_X12_moved_5 G hA a1 a2 a3  a4 a5 μ7 K50 _ hq hH hl kK50 (fun x0 x1 y hq H locs ls hH hl => w_X12_moved_5 G hA a1 a2 a3  n x0 x1 y K50 hq H locs ls hH hl kK50)
set_option maxRecDepth 100000 in
set_option maxHeartbeats 4000000 in
theorem c_X12_moved (l : Launch) (E : xE) (ad : Nat → Nat) (μ : xM) (p1 : Int32) (p2 : Int32) (p3 : Int32) (Qm : Int32 → xM → Prop) (hq : p_X12_moved p1 p2 p3 μ Qm) : xMi l yX12_moved tX12_moved ({ frames := 2, cells := 0, slots := 0, locals := 80 } : Room) E ad μ [.int p1, .int p2, .int p3] Qm := by
  refine x_sti (cc := cX12_moved) (maxL := 7) (ret := (some .int)) (own := RX12) rfl (by decide) rfl (Nat.le_of_ble_eq_true rfl) ?_
  intro p e s m args below meth c ls G hr hA hH hl
  obtain ⟨hx, hb, hml, hown, hts, hKn, hN, hlk⟩ := id G
  have hl : lv_has ls 7 [(0, .int p1), (1, .int p2), (2, .int p3)] := hl
  have hH : xH E ad (xA ad s.heap.size) s.heap μ s.heap [] := hH
  unfold p_X12_moved at hq
  refine lv_iconst (v := (0 : Int32)) hx hb dX12_moved_0 (by decide) ?_
  refine lv_istore_n (lv' := [(3, .int (0 : Int32)), (0, .int p1), (1, .int p2), (2, .int p3)]) hx hb dX12_moved_1 rfl hl (by decide) rfl (fun ls hl => ?_)
  refine lv_iconst (v := (0 : Int32)) hx hb dX12_moved_2 (by decide) ?_
  refine lv_istore (lv' := [(4, .int (0 : Int32)), (3, .int (0 : Int32)), (0, .int p1), (1, .int p2), (2, .int p3)]) hx hb dX12_moved_3 hl (by decide) rfl (fun ls hl => ?_)
  obtain ⟨n6, hq⟩ := hq
  refine w_X12_moved_5 G hA p1 p2 p3  n6 (0 : Int32) (0 : Int32) μ _ hq _ _ _ hH (lv_sub hl [2, 3, 4, 0, 1] rfl) (fun a30 μ31 hq H locs ls hH hl => ?_)
  refine lv_iload_n hx hb dX12_moved_75 rfl (lv_at hl 0 rfl) ?_
  exact x_iret G hr hH hq dX12_moved_76
abbrev tX12_placeOf : List Cond := Cond.code yX12_placeOf cX12_placeOf 2 (some .int) :: wsL_law
theorem mi_X12_placeOf : Cond.instanceMethod yX12_placeOf ∈ wsL_law := (wm_13 _ (List.mem_of_getElem? (i := 3) rfl))
theorem ms_X12_placeOf : Cond.selects RX12 yX12_placeOf yX12_placeOf ∈ wsL_law := (wm_13 _ (List.mem_of_getElem? (i := 4) rfl))
theorem mc_X12_placeOf : Cond.code yX12_placeOf cX12_placeOf 2 (some .int) ∈ wsL_law := (wm_13 _ (List.mem_of_getElem? (i := 5) rfl))
theorem md_X12_placeOf : yX12_placeOf.cls ≠ "java/lang/invoke/MethodHandle" ∧ yX12_placeOf.cls ≠ "java/lang/invoke/VarHandle" ∧ (parseMethodDescriptor yX12_placeOf.desc).map (fun d => d.parameters.length) = some 1 := by decide +kernel
set_option maxRecDepth 100000 in
set_option maxHeartbeats 4000000 in
theorem c_X12_placeOf (l : Launch) (E : xE) (ad : Nat → Nat) (μ : xM) (q0 : Nat) (p1 : Int32) (hk_q0 : kd q0 = 10) (Qm : Int32 → xM → Prop) (hq : p_X12_placeOf q0 p1 μ Qm) : xMi l yX12_placeOf tX12_placeOf ({ frames := 3, cells := 0, slots := 0, locals := 120 } : Room) E ad μ [.ref (ad q0), .int p1] Qm := by
  refine x_sti (cc := cX12_placeOf) (maxL := 2) (ret := (some .int)) (own := RX12) rfl (by decide) rfl (Nat.le_of_ble_eq_true rfl) ?_
  intro p e s m args below meth c ls G hr hA hH hl
  obtain ⟨hx, hb, hml, hown, hts, hKn, hN, hlk⟩ := id G
  have hl : lv_has ls 2 [(0, .ref (ad q0)), (1, .int p1)] := hl
  have hH : xH E ad (xA ad s.heap.size) s.heap μ s.heap [] := hH
  unfold p_X12_placeOf at hq
  refine lv_aload_n hx hb dX12_placeOf_0 rfl (lv_at hl 0 rfl) ?_
  refine lv_iload_n hx hb dX12_placeOf_1 rfl (lv_at hl 1 rfl) ?_
  refine lv_iconst (v := (3 : Int32)) hx hb dX12_placeOf_2 (by decide) ?_
  refine x_cVi (C := RX12) (T := TX12) (N := 24) (As := [.int p1, .int (3 : Int32)]) (rest := []) G hH hA (c_X12_ofBlock l E ad μ q0 p1 (3 : Int32) hk_q0 _ hq) (wm_13 _ (List.mem_of_getElem? (i := 6) rfl)) mi_X12_ofBlock ms_X12_ofBlock mn_RX12 mc_X12_ofBlock rfl md_X12_ofBlock ⟨rfl, rfl, Nat.le_of_ble_eq_true rfl, Nat.le_of_ble_eq_true rfl⟩ hk_q0 (by decide) rfl rfl hl.1 rfl (Nat.le_of_ble_eq_true rfl) dX12_placeOf_3 ⟨Nat.zero_le _, Nat.zero_le _⟩ (fun r2 μ1 hq H locs hH => ?_)
  refine lv_aload_n hx hb dX12_placeOf_6 rfl (lv_at hl 0 rfl) ?_
  refine lv_iload_n hx hb dX12_placeOf_7 rfl (lv_at hl 1 rfl) ?_
  refine lv_iconst (v := (4 : Int32)) hx hb dX12_placeOf_8 (by decide) ?_
  refine x_cVi (C := RX12) (T := TX12) (N := 24) (As := [.int p1, .int (4 : Int32)]) (rest := [.int r2]) G hH hA (c_X12_ofBlock l E ad μ1 q0 p1 (4 : Int32) hk_q0 _ hq) (wm_13 _ (List.mem_of_getElem? (i := 6) rfl)) mi_X12_ofBlock ms_X12_ofBlock mn_RX12 mc_X12_ofBlock rfl md_X12_ofBlock ⟨rfl, rfl, Nat.le_of_ble_eq_true rfl, Nat.le_of_ble_eq_true rfl⟩ hk_q0 (by decide) rfl rfl hl.1 rfl (Nat.le_of_ble_eq_true rfl) dX12_placeOf_9 ⟨Nat.zero_le _, Nat.zero_le _⟩ (fun r4 μ3 hq H locs hH => ?_)
  refine lv_aload_n hx hb dX12_placeOf_12 rfl (lv_at hl 0 rfl) ?_
  refine lv_iload_n hx hb dX12_placeOf_13 rfl (lv_at hl 1 rfl) ?_
  refine lv_iconst (v := (5 : Int32)) hx hb dX12_placeOf_14 (by decide) ?_
  refine x_cVi (C := RX12) (T := TX12) (N := 24) (As := [.int p1, .int (5 : Int32)]) (rest := [.int r4, .int r2]) G hH hA (c_X12_ofBlock l E ad μ3 q0 p1 (5 : Int32) hk_q0 _ hq) (wm_13 _ (List.mem_of_getElem? (i := 6) rfl)) mi_X12_ofBlock ms_X12_ofBlock mn_RX12 mc_X12_ofBlock rfl md_X12_ofBlock ⟨rfl, rfl, Nat.le_of_ble_eq_true rfl, Nat.le_of_ble_eq_true rfl⟩ hk_q0 (by decide) rfl rfl hl.1 rfl (Nat.le_of_ble_eq_true rfl) dX12_placeOf_15 ⟨Nat.zero_le _, Nat.zero_le _⟩ (fun r6 μ5 hq H locs hH => ?_)
  refine x_cSi (As := [.int r2, .int r4, .int r6]) (rest := []) G hH hA (c_X12_moved l E ad μ5 r2 r4 r6  _ hq) (wm_13 _ (List.mem_of_getElem? (i := 10) rfl)) mt_X12_moved mn_RX12 mc_X12_moved md_X12_moved ⟨rfl, rfl, Nat.le_of_ble_eq_true rfl, Nat.le_of_ble_eq_true rfl⟩ rfl hl.1 rfl (Nat.le_of_ble_eq_true rfl) dX12_placeOf_18 ⟨Nat.zero_le _, Nat.zero_le _⟩ (fun r8 μ7 hq H locs hH => ?_)
  exact x_iret G hr hH hq dX12_placeOf_21
