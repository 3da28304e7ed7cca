abbrev tX11_refuse : List Cond := Cond.code yX11_refuse cX11_refuse 2 (some .int) :: wsL_law
theorem mi_X11_refuse : Cond.instanceMethod yX11_refuse ∈ wsL_law := (wm_8 _ (List.mem_of_getElem? (i := 0) rfl))
theorem ms_X11_refuse : Cond.selects RX11 yX11_refuse yX11_refuse ∈ wsL_law := (wm_8 _ (List.mem_of_getElem? (i := 1) rfl))
theorem mc_X11_refuse : Cond.code yX11_refuse cX11_refuse 2 (some .int) ∈ wsL_law := (wm_8 _ (List.mem_of_getElem? (i := 2) rfl))
theorem md_X11_refuse : yX11_refuse.cls ≠ "java/lang/invoke/MethodHandle" ∧ yX11_refuse.cls ≠ "java/lang/invoke/VarHandle" ∧ (parseMethodDescriptor yX11_refuse.desc).map (fun d => d.parameters.length) = some 1 := by decide +kernel
set_option maxRecDepth 100000 in
set_option maxHeartbeats 4000000 in
theorem wj_X11_refuse_16 {E : xE} {ad : Nat → Nat} {p : Program} {l : Launch} {e : Env} {s : State} {m : MethodId} {args : Array Value} {below : List Frame} {meth : Method} {c : Code} {Qm : Int32 → xM → Prop} (G : xG E p s m args meth c cX11_refuse 2 RX11) (hA : ∀ a, s.heap.size ≤ a → xA ad s.heap.size a) (hr : meth.sig.returnType = (some .int)) (q2 : Nat) (a3 : Int32) (hk_q2 : kd q2 = 9) (μ4 : xM) (hq : J_X11_refuse_16 q2 a3 μ4 Qm) {H : Heap} {locs : List Loc} {ls : Array Slot} (hH : xH E ad (xA ad s.heap.size) s.heap μ4 H locs) (hl : lv_has ls 2 [(0, .ref (ad q2)), (1, .int a3)]) : W p l e (headSpec tX11_refuse ({ frames := 1, cells := 0, slots := 0, locals := 40 } : Room)).room s m args below meth c H locs 0 0 (MQ below (va_Qi Qm (xPost E ad s.heap.size) (xA ad s.heap.size)) args s 0 0 (xA ad s.heap.size)) (F0 m 16 ls []) := by
  obtain ⟨hx, hb, hml, hown, hts, hKn, hN, hlk⟩ := id G
  unfold J_X11_refuse_16 at hq
  refine lv_iload_n hx hb dX11_refuse_16 rfl (lv_at hl 1 rfl) ?_
  refine lv_bipush (v := (-3 : Int32)) hx hb dX11_refuse_17 (by decide) ?_
  refine lv_icmp_ne (tgt := 32) hx hb dX11_refuse_19 (by decide) (fun c5 => ?_) (fun c5 => ?_)
  · have hq := hq.1 c5
    refine lv_iload_n hx hb dX11_refuse_32 rfl (lv_at hl 1 rfl) ?_
    refine lv_bipush (v := (-4 : Int32)) hx hb dX11_refuse_33 (by decide) ?_
    refine lv_icmp_ne (tgt := 48) hx hb dX11_refuse_35 (by decide) (fun c6 => ?_) (fun c6 => ?_)
    · have hq := hq.1 c6
      refine lv_iload_n hx hb dX11_refuse_48 rfl (lv_at hl 1 rfl) ?_
      exact x_iret G hr hH hq dX11_refuse_49
    · have hq := hq.2 c6
      refine lv_aload_n hx hb dX11_refuse_38 rfl (lv_at hl 0 rfl) ?_
      refine lv_dup hx hb dX11_refuse_39 rfl ?_
      refine x_get (j := 7) (C := RX11) (T := TX11) (N := 8) (v := .int (μ4.1 q2 7)) G hH hk_q2 (by decide) rfl inlX11 (by decide) (wm_2 _ (List.mem_of_getElem? (i := 11) rfl)) rfl dX11_refuse_40 ?_
      refine lv_iconst (v := (1 : Int32)) hx hb dX11_refuse_43 (by decide) ?_
      refine lv_iadd hx hb dX11_refuse_44 ?_
      refine x_puti (j := 7) (C := RX11) (T := TX11) (N := 8) (ty := .int) G hH hk_q2 (by decide) rfl inlX11 tyX11 tyX11_ok nmX11 (by decide) (wm_2 _ (List.mem_of_getElem? (i := 11) rfl)) rfl (by decide +kernel) rfl rfl (fun _ _ => Nat.le_of_ble_eq_true rfl) (fun _ _ => rfl) dX11_refuse_45 (fun μ7 e_μ7 H locs hH => ?_)
      have hq := hq μ7 e_μ7
      refine lv_iload_n hx hb dX11_refuse_48 rfl (lv_at hl 1 rfl) ?_
      exact x_iret G hr hH hq dX11_refuse_49
  · have hq := hq.2 c5
    refine lv_aload_n hx hb dX11_refuse_22 rfl (lv_at hl 0 rfl) ?_
    refine lv_dup hx hb dX11_refuse_23 rfl ?_
    refine x_get (j := 6) (C := RX11) (T := TX11) (N := 8) (v := .int (μ4.1 q2 6)) G hH hk_q2 (by decide) rfl inlX11 (by decide) (wm_2 _ (List.mem_of_getElem? (i := 10) rfl)) rfl dX11_refuse_24 ?_
    refine lv_iconst (v := (1 : Int32)) hx hb dX11_refuse_27 (by decide) ?_
    refine lv_iadd hx hb dX11_refuse_28 ?_
    refine x_puti (j := 6) (C := RX11) (T := TX11) (N := 8) (ty := .int) G hH hk_q2 (by decide) rfl inlX11 tyX11 tyX11_ok nmX11 (by decide) (wm_2 _ (List.mem_of_getElem? (i := 10) rfl)) rfl (by decide +kernel) rfl rfl (fun _ _ => Nat.le_of_ble_eq_true rfl) (fun _ _ => rfl) dX11_refuse_29 (fun μ8 e_μ8 H locs hH => ?_)
    have hq := hq μ8 e_μ8
    refine lv_iload_n hx hb dX11_refuse_32 rfl (lv_at hl 1 rfl) ?_
    refine lv_bipush (v := (-4 : Int32)) hx hb dX11_refuse_33 (by decide) ?_
    refine lv_icmp_ne (tgt := 48) hx hb dX11_refuse_35 (by decide) (fun c9 => ?_) (fun c9 => ?_)
    · have hq := hq.1 c9
      refine lv_iload_n hx hb dX11_refuse_48 rfl (lv_at hl 1 rfl) ?_
      exact x_iret G hr hH hq dX11_refuse_49
    · have hq := hq.2 c9
      refine lv_aload_n hx hb dX11_refuse_38 rfl (lv_at hl 0 rfl) ?_
      refine lv_dup hx hb dX11_refuse_39 rfl ?_
      refine x_get (j := 7) (C := RX11) (T := TX11) (N := 8) (v := .int (μ8.1 q2 7)) G hH hk_q2 (by decide) rfl inlX11 (by decide) (wm_2 _ (List.mem_of_getElem? (i := 11) rfl)) rfl dX11_refuse_40 ?_
      refine lv_iconst (v := (1 : Int32)) hx hb dX11_refuse_43 (by decide) ?_
      refine lv_iadd hx hb dX11_refuse_44 ?_
      refine x_puti (j := 7) (C := RX11) (T := TX11) (N := 8) (ty := .int) G hH hk_q2 (by decide) rfl inlX11 tyX11 tyX11_ok nmX11 (by decide) (wm_2 _ (List.mem_of_getElem? (i := 11) rfl)) rfl (by decide +kernel) rfl rfl (fun _ _ => Nat.le_of_ble_eq_true rfl) (fun _ _ => rfl) dX11_refuse_45 (fun μ10 e_μ10 H locs hH => ?_)
      have hq := hq μ10 e_μ10
      refine lv_iload_n hx hb dX11_refuse_48 rfl (lv_at hl 1 rfl) ?_
      exact x_iret G hr hH hq dX11_refuse_49
set_option maxRecDepth 100000 in
set_option maxHeartbeats 4000000 in
theorem c_X11_refuse (l : Launch) (E : xE) (ad : Nat → Nat) (μ : xM) (q0 : Nat) (p1 : Int32) (hk_q0 : kd q0 = 9) (Qm : Int32 → xM → Prop) (hq : p_X11_refuse q0 p1 μ Qm) : xMi l yX11_refuse tX11_refuse ({ frames := 1, cells := 0, slots := 0, locals := 40 } : Room) E ad μ [.ref (ad q0), .int p1] Qm := by
  refine x_sti (cc := cX11_refuse) (maxL := 2) (ret := (some .int)) (own := RX11) rfl (by decide) rfl (Nat.le_of_ble_eq_true rfl) ?_
  intro p e s m args below meth c ls G hr hA hH hl
  obtain ⟨hx, hb, hml, hown, hts, hKn, hN, hlk⟩ := id G
  have hl : lv_has ls 2 [(0, .ref (ad q0)), (1, .int p1)] := hl
  have hH : xH E ad (xA ad s.heap.size) s.heap μ s.heap [] := hH
  unfold p_X11_refuse at hq
  refine lv_iload_n hx hb dX11_refuse_0 rfl (lv_at hl 1 rfl) ?_
  refine lv_bipush (v := (-2 : Int32)) hx hb dX11_refuse_1 (by decide) ?_
  refine lv_icmp_ne (tgt := 16) hx hb dX11_refuse_3 (by decide) (fun c1 => ?_) (fun c1 => ?_)
  · have hq := hq.1 c1
    exact wj_X11_refuse_16 G hA hr  q0 p1  hk_q0 μ hq hH (lv_sub hl [0, 1] rfl)
  · have hq := hq.2 c1
    refine lv_aload_n hx hb dX11_refuse_6 rfl (lv_at hl 0 rfl) ?_
    refine lv_dup hx hb dX11_refuse_7 rfl ?_
    refine x_get (j := 5) (C := RX11) (T := TX11) (N := 8) (v := .int (μ.1 q0 5)) G hH hk_q0 (by decide) rfl inlX11 (by decide) (wm_2 _ (List.mem_of_getElem? (i := 9) rfl)) rfl dX11_refuse_8 ?_
    refine lv_iconst (v := (1 : Int32)) hx hb dX11_refuse_11 (by decide) ?_
    refine lv_iadd hx hb dX11_refuse_12 ?_
    refine x_puti (j := 5) (C := RX11) (T := TX11) (N := 8) (ty := .int) G hH hk_q0 (by decide) rfl inlX11 tyX11 tyX11_ok nmX11 (by decide) (wm_2 _ (List.mem_of_getElem? (i := 9) rfl)) rfl (by decide +kernel) rfl rfl (fun _ _ => Nat.le_of_ble_eq_true rfl) (fun _ _ => rfl) dX11_refuse_13 (fun μ11 e_μ11 H locs hH => ?_)
    have hq := hq μ11 e_μ11
    exact wj_X11_refuse_16 G hA hr  q0 p1  hk_q0 μ11 hq hH (lv_sub hl [0, 1] rfl)
abbrev tX3_keptAt : List Cond := Cond.code yX3_keptAt cX3_keptAt 2 (some (.object "WetPrints$State")) :: wsL_law
theorem mi_X3_keptAt : Cond.instanceMethod yX3_keptAt ∈ wsL_law := (wm_8 _ (List.mem_of_getElem? (i := 12) rfl))
theorem ms_X3_keptAt : Cond.selects RX3 yX3_keptAt yX3_keptAt ∈ wsL_law := (wm_8 _ (List.mem_of_getElem? (i := 13) rfl))
theorem mc_X3_keptAt : Cond.code yX3_keptAt cX3_keptAt 2 (some (.object "WetPrints$State")) ∈ wsL_law := (wm_8 _ (List.mem_of_getElem? (i := 14) rfl))
theorem md_X3_keptAt : yX3_keptAt.cls ≠ "java/lang/invoke/MethodHandle" ∧ yX3_keptAt.cls ≠ "java/lang/invoke/VarHandle" ∧ (parseMethodDescriptor yX3_keptAt.desc).map (fun d => d.parameters.length) = some 1 := by decide +kernel
set_option maxRecDepth 100000 in
set_option maxHeartbeats 4000000 in
theorem c_X3_keptAt (l : Launch) (E : xE) (ad : Nat → Nat) (μ : xM) (q0 : Nat) (p1 : Int32) (hk_q0 : kd q0 = 2) (Qm : Option Nat → xM → Prop) (hq : p_X3_keptAt q0 p1 μ Qm) : xMq l yX3_keptAt tX3_keptAt ({ frames := 1, cells := 0, slots := 0, locals := 40 } : Room) E ad μ [.ref (ad q0), .int p1] Qm := by
  refine x_stq (cc := cX3_keptAt) (maxL := 2) (ret := (some (.object "WetPrints$State"))) (own := RX3) rfl (by decide) rfl (Nat.le_of_ble_eq_true rfl) ?_
  intro p e s m args below meth c ls G hr hA hH hl
  obtain ⟨hx, hb, hml, hown, hts, hKn, hN, hlk⟩ := id G
  have hl : lv_has ls 2 [(0, .ref (ad q0)), (1, .int p1)] := hl
  have hH : xH E ad (xA ad s.heap.size) s.heap μ s.heap [] := hH
  unfold p_X3_keptAt at hq
  refine lv_iload_n hx hb dX3_keptAt_0 rfl (lv_at hl 1 rfl) ?_
  refine lv_if_lt (tgt := 22) hx hb dX3_keptAt_1 (by decide) (fun c1 => ?_) (fun c1 => ?_)
  · have hq := hq.1 c1
    refine lv_null hx hb dX3_keptAt_22 ?_
    exact x_nret G hr hH hq dX3_keptAt_23
  · have hq := hq.2 c1
    refine lv_iload_n hx hb dX3_keptAt_4 rfl (lv_at hl 1 rfl) ?_
    refine lv_aload_n hx hb dX3_keptAt_5 rfl (lv_at hl 0 rfl) ?_
    refine x_get (j := 0) (C := RX3) (T := TX3) (N := 3) (v := .ref (ad (rt q0 0))) G hH hk_q0 (by decide) rfl inlX3 (by decide) (wm_4 _ (List.mem_of_getElem? (i := 13) rfl)) rfl dX3_keptAt_6 ?_
    refine x_alenq G hH (kt_2_0 _ hk_q0) rfl dX3_keptAt_9 ?_
    refine lv_icmp_ge (tgt := 22) hx hb dX3_keptAt_10 (by decide) (fun c2 => ?_) (fun c2 => ?_)
    · have hq := hq.1 c2
      refine lv_null hx hb dX3_keptAt_22 ?_
      exact x_nret G hr hH hq dX3_keptAt_23
    · have hq := hq.2 c2
      refine lv_aload_n hx hb dX3_keptAt_13 rfl (lv_at hl 0 rfl) ?_
      refine x_get (j := 0) (C := RX3) (T := TX3) (N := 3) (v := .ref (ad (rt q0 0))) G hH hk_q0 (by decide) rfl inlX3 (by decide) (wm_4 _ (List.mem_of_getElem? (i := 13) rfl)) rfl dX3_keptAt_14 ?_
      refine lv_iload_n hx hb dX3_keptAt_17 rfl (lv_at hl 1 rfl) ?_
      refine x_aald G hH (kt_2_0 _ hk_q0) hq.1 dX3_keptAt_18 ?_
      have hq := hq.2
      refine lv_goto (tgt := 23) hx hb dX3_keptAt_19 (by decide) ?_
      exact x_aret G hr hH hq dX3_keptAt_23
abbrev tX5_copy : List Cond := Cond.code yX5_copy cX5_copy 3 none :: wsL_law
theorem mt_X5_copy : Cond.static yX5_copy ∈ wsL_law := (wm_9 _ (List.mem_of_getElem? (i := 0) rfl))
theorem mc_X5_copy : Cond.code yX5_copy cX5_copy 3 none ∈ wsL_law := (wm_9 _ (List.mem_of_getElem? (i := 2) rfl))
theorem md_X5_copy : yX5_copy.cls ≠ "java/lang/invoke/MethodHandle" ∧ yX5_copy.cls ≠ "java/lang/invoke/VarHandle" ∧ (parseMethodDescriptor yX5_copy.desc).map (fun d => d.parameters.length) = some 2 := by decide +kernel
set_option maxRecDepth 100000 in
set_option maxHeartbeats 4000000 in
theorem wb_X5_copy_2 {E : xE} {ad : Nat → Nat} {p : Program} {l : Launch} {e : Env} {s : State} {m : MethodId} {args : Array Value} {below : List Frame} {meth : Method} {c : Code} {Q : State → Prop} (G : xG E p s m args meth c cX5_copy 3 RX5) (hA : ∀ a, s.heap.size ≤ a → xA ad s.heap.size a) (q1 : Nat) (q2 : Nat) (hk_q1 : kd q1 = 11) (hk_q2 : kd q2 = 11) (a3 : Int32) (μ5 : xM) (K20 : xM → Prop) (K2b : Int32 → xM → Prop) (hq : B_X5_copy_2 q1 q2 a3 μ5 K20 K2b) {H : Heap} {locs : List Loc} {ls : Array Slot} (hH : xH E ad (xA ad s.heap.size) s.heap μ5 H locs) (hl : lv_has ls 3 [(0, .ref (ad q1)), (1, .ref (ad q2)), (2, .int a3)]) (kK20 : ∀ (μ6 : xM), K20  μ6 → ∀ (H : Heap) (locs : List Loc) (ls : Array Slot), xH E ad (xA ad s.heap.size) s.heap μ6 H locs → lv_has ls 3 [] → W p l e (headSpec tX5_copy ({ frames := 1, cells := 0, slots := 0, locals := 40 } : Room)).room s m args below meth c H locs 0 0 Q (F0 m 26 ls [])) (kK2b : ∀ (a7 : Int32) (μ8 : xM), K2b a7 μ8 → ∀ (H : Heap) (locs : List Loc) (ls : Array Slot), xH E ad (xA ad s.heap.size) s.heap μ8 H locs → lv_has ls 3 [(0, .ref (ad q1)), (1, .ref (ad q2)), (2, .int a7)] → W p l e (headSpec tX5_copy ({ frames := 1, cells := 0, slots := 0, locals := 40 } : Room)).room s m args below meth c H locs 0 0 Q (F0 m 2 ls [])) : W p l e (headSpec tX5_copy ({ frames := 1, cells := 0, slots := 0, locals := 40 } : Room)).room s m args below meth c H locs 0 0 Q (F0 m 2 ls []) := by
  obtain ⟨hx, hb, hml, hown, hts, hKn, hN, hlk⟩ := id G
  unfold B_X5_copy_2 at hq
  refine lv_iload_n hx hb dX5_copy_2 rfl (lv_at hl 2 rfl) ?_
  refine lv_aload_n hx hb dX5_copy_3 rfl (lv_at hl 0 rfl) ?_
  refine x_alen G hH hk_q1 rfl dX5_copy_4 ?_
  refine lv_icmp_ge (tgt := 26) hx hb dX5_copy_5 (by decide) (fun c9 => ?_) (fun c9 => ?_)
  · have hq := hq.1 c9
    exact kK20  μ5 hq _ _ _ hH (lv_sub hl [] rfl)
  · have hq := hq.2 c9
    refine lv_iload_n hx hb dX5_copy_8 rfl (lv_at hl 2 rfl) ?_
    refine lv_aload_n hx hb dX5_copy_9 rfl (lv_at hl 1 rfl) ?_
    refine x_alen G hH hk_q2 rfl dX5_copy_10 ?_
    refine lv_icmp_ge (tgt := 26) hx hb dX5_copy_11 (by decide) (fun c10 => ?_) (fun c10 => ?_)
    · have hq := hq.1 c10
      exact kK20  μ5 hq _ _ _ hH (lv_sub hl [] rfl)
    · have hq := hq.2 c10
      refine lv_aload_n hx hb dX5_copy_14 rfl (lv_at hl 1 rfl) ?_
      refine lv_iload_n hx hb dX5_copy_15 rfl (lv_at hl 2 rfl) ?_
      refine lv_aload_n hx hb dX5_copy_16 rfl (lv_at hl 0 rfl) ?_
      refine lv_iload_n hx hb dX5_copy_17 rfl (lv_at hl 2 rfl) ?_
      refine x_iald G hH hk_q1 hq.1 dX5_copy_18 ?_
      have hq := hq.2
      refine x_iast G hH hk_q2 hq.1 dX5_copy_19 (fun μ11 e_μ11 H locs hH => ?_)
      have hq := hq.2 μ11 e_μ11
      obtain ⟨v12, e_v12⟩ : ∃ y : Int32, y = (a3 + (1 : Int32)) := ⟨_, rfl⟩
      have hq := hq v12 e_v12
      refine lv_iinc (v := v12) (lv' := [(2, .int v12), (0, .ref (ad q1)), (1, .ref (ad q2))]) hx hb dX5_copy_20 hl (k := 2) rfl (by rw [e_v12]; rfl) (by decide) rfl (fun ls hl => ?_)
      refine lv_goto (tgt := 2) hx hb dX5_copy_23 (by decide) ?_
      exact kK2b v12 μ11 hq _ _ _ hH (lv_sub hl [1, 2, 0] rfl)
set_option maxRecDepth 100000 in
set_option maxHeartbeats 4000000 in
theorem w_X5_copy_2 {E : xE} {ad : Nat → Nat} {p : Program} {l : Launch} {e : Env} {s : State} {m : MethodId} {args : Array Value} {below : List Frame} {meth : Method} {c : Code} {Q : State → Prop} (G : xG E p s m args meth c cX5_copy 3 RX5) (hA : ∀ a, s.heap.size ≤ a → xA ad s.heap.size a) (q1 : Nat) (q2 : Nat) (hk_q1 : kd q1 = 11) (hk_q2 : kd q2 = 11) : ∀ (n : Nat) (a3 : Int32) (μ5 : xM) (K20 : xM → Prop) (hq : L_X5_copy_2 q1 q2 n a3 μ5 K20) (H : Heap) (locs : List Loc) (ls : Array Slot) (hH : xH E ad (xA ad s.heap.size) s.heap μ5 H locs) (hl : lv_has ls 3 [(0, .ref (ad q1)), (1, .ref (ad q2)), (2, .int a3)]) (kK20 : ∀ (μ6 : xM), K20  μ6 → ∀ (H : Heap) (locs : List Loc) (ls : Array Slot), xH E ad (xA ad s.heap.size) s.heap μ6 H locs → lv_has ls 3 [] → W p l e (headSpec tX5_copy ({ frames := 1, cells := 0, slots := 0, locals := 40 } : Room)).room s m args below meth c H locs 0 0 Q (F0 m 26 ls [])) , W p l e (headSpec tX5_copy ({ frames := 1, cells := 0, slots := 0, locals := 40 } : Room)).room s m args below meth c H locs 0 0 Q (F0 m 2 ls [])
  | 0, _, _, _, hq, _, _, _, _, _, _ => hq.elim
  | n + 1, a3, μ5, K20, hq, H, locs, ls, hH, hl, kK20 => wb_X5_copy_2 G hA q1 q2 hk_q1 hk_q2 a3 μ5 K20 _ hq hH hl kK20 (fun x0 y hq H locs ls hH hl => w_X5_copy_2 G hA q1 q2 hk_q1 hk_q2 n x0 y K20 hq H locs ls hH hl kK20)
set_option maxRecDepth 100000 in
set_option maxHeartbeats 4000000 in
theorem c_X5_copy (l : Launch) (E : xE) (ad : Nat → Nat) (μ : xM) (q1 : Nat) (q2 : Nat) (hk_q1 : kd q1 = 11) (hk_q2 : kd q2 = 11) (Qm : xM → Prop) (hq : p_X5_copy q1 q2 μ Qm) : xMv l yX5_copy tX5_copy ({ frames := 1, cells := 0, slots := 0, locals := 40 } : Room) E ad μ [.ref (ad q1), .ref (ad q2)] Qm := by
  refine x_stv (cc := cX5_copy) (maxL := 3) (ret := none) (own := RX5) rfl (by decide) rfl (Nat.le_of_ble_eq_true rfl) ?_
  intro p e s m args below meth c ls G hr hA hH hl
  obtain ⟨hx, hb, hml, hown, hts, hKn, hN, hlk⟩ := id G
  have hl : lv_has ls 3 [(0, .ref (ad q1)), (1, .ref (ad q2))] := hl
  have hH : xH E ad (xA ad s.heap.size) s.heap μ s.heap [] := hH
  unfold p_X5_copy at hq
  refine lv_iconst (v := (0 : Int32)) hx hb dX5_copy_0 (by decide) ?_
  refine lv_istore_n (lv' := [(2, .int (0 : Int32)), (0, .ref (ad q1)), (1, .ref (ad q2))]) hx hb dX5_copy_1 rfl hl (by decide) rfl (fun ls hl => ?_)
  obtain ⟨n4, hq⟩ := hq
  refine w_X5_copy_2 G hA q1 q2 hk_q1 hk_q2 n4 (0 : Int32) μ _ hq _ _ _ hH (lv_sub hl [1, 2, 0] rfl) (fun  μ13 hq H locs ls hH hl => ?_)
  exact x_vret G hr hH hq dX5_copy_26
abbrev tX0_copyFrom : List Cond := Cond.code yX0_copyFrom cX0_copyFrom 2 none :: wsL_law
theorem mi_X0_copyFrom : Cond.instanceMethod yX0_copyFrom ∈ wsL_law := (wm_8 _ (List.mem_of_getElem? (i := 20) rfl))
theorem ms_X0_copyFrom : Cond.selects RX0 yX0_copyFrom yX0_copyFrom ∈ wsL_law := (wm_8 _ (List.mem_of_getElem? (i := 21) rfl))
theorem mc_X0_copyFrom : Cond.code yX0_copyFrom cX0_copyFrom 2 none ∈ wsL_law := (wm_8 _ (List.mem_of_getElem? (i := 22) rfl))
theorem md_X0_copyFrom : yX0_copyFrom.cls ≠ "java/lang/invoke/MethodHandle" ∧ yX0_copyFrom.cls ≠ "java/lang/invoke/VarHandle" ∧ (parseMethodDescriptor yX0_copyFrom.desc).map (fun d => d.parameters.length) = some 1 := by decide +kernel
set_option maxRecDepth 100000 in
set_option maxHeartbeats 4000000 in
theorem c_X0_copyFrom (l : Launch) (E : xE) (ad : Nat → Nat) (μ : xM) (q0 : Nat) (q1 : Nat) (hk_q0 : kd q0 = 0) (hk_q1 : kd q1 = 0) (Qm : xM → Prop) (hq : p_X0_copyFrom q0 q1 μ Qm) : xMv l yX0_copyFrom tX0_copyFrom ({ frames := 2, cells := 0, slots := 0, locals := 80 } : Room) E ad μ [.ref (ad q0), .ref (ad q1)] Qm := by
  refine x_stv (cc := cX0_copyFrom) (maxL := 2) (ret := none) (own := RX0) rfl (by decide) rfl (Nat.le_of_ble_eq_true rfl) ?_
  intro p e s m args below meth c ls G hr hA hH hl
  obtain ⟨hx, hb, hml, hown, hts, hKn, hN, hlk⟩ := id G
  have hl : lv_has ls 2 [(0, .ref (ad q0)), (1, .ref (ad q1))] := hl
  have hH : xH E ad (xA ad s.heap.size) s.heap μ s.heap [] := hH
  unfold p_X0_copyFrom at hq
  refine lv_aload_n hx hb dX0_copyFrom_0 rfl (lv_at hl 0 rfl) ?_
  refine lv_aload_n hx hb dX0_copyFrom_1 rfl (lv_at hl 1 rfl) ?_
  refine x_get (j := 0) (C := RX0) (T := TX0) (N := 9) (v := .int (μ.1 q1 0)) G hH hk_q1 (by decide) rfl inlX0 (by decide) (wm_3 _ (List.mem_of_getElem? (i := 3) rfl)) rfl dX0_copyFrom_2 ?_
  refine x_puti (j := 0) (C := RX0) (T := TX0) (N := 9) (ty := .int) G hH hk_q0 (by decide) rfl inlX0 tyX0 tyX0_ok nmX0 (by decide) (wm_3 _ (List.mem_of_getElem? (i := 3) rfl)) rfl (by decide +kernel) rfl rfl (fun _ _ => Nat.le_of_ble_eq_true rfl) (fun _ _ => rfl) dX0_copyFrom_5 (fun μ1 e_μ1 H locs hH => ?_)
  have hq := hq μ1 e_μ1
  refine lv_aload_n hx hb dX0_copyFrom_8 rfl (lv_at hl 1 rfl) ?_
  refine x_get (j := 1) (C := RX0) (T := TX0) (N := 9) (v := .ref (ad (rt q1 1))) G hH hk_q1 (by decide) rfl inlX0 (by decide) (wm_3 _ (List.mem_of_getElem? (i := 5) rfl)) rfl dX0_copyFrom_9 ?_
  refine lv_aload_n hx hb dX0_copyFrom_12 rfl (lv_at hl 0 rfl) ?_
  refine x_get (j := 1) (C := RX0) (T := TX0) (N := 9) (v := .ref (ad (rt q0 1))) G hH hk_q0 (by decide) rfl inlX0 (by decide) (wm_3 _ (List.mem_of_getElem? (i := 5) rfl)) rfl dX0_copyFrom_13 ?_
  refine x_cSv (As := [.ref (ad (rt q1 1)), .ref (ad (rt q0 1))]) (rest := []) G hH hA (c_X5_copy l E ad μ1 (rt q1 1) (rt q0 1) (kt_0_1 _ hk_q1) (kt_0_1 _ hk_q0) _ hq) (wm_8 _ (List.mem_of_getElem? (i := 23) rfl)) mt_X5_copy mn_RX5 mc_X5_copy md_X5_copy ⟨rfl, rfl, Nat.le_of_ble_eq_true rfl, Nat.le_of_ble_eq_true rfl⟩ rfl hl.1 rfl (Nat.le_of_ble_eq_true rfl) dX0_copyFrom_16 ⟨Nat.zero_le _, Nat.zero_le _⟩ (fun μ2 hq H locs hH => ?_)
  refine lv_aload_n hx hb dX0_copyFrom_19 rfl (lv_at hl 1 rfl) ?_
  refine x_get (j := 2) (C := RX0) (T := TX0) (N := 9) (v := .ref (ad (rt q1 2))) G hH hk_q1 (by decide) rfl inlX0 (by decide) (wm_3 _ (List.mem_of_getElem? (i := 6) rfl)) rfl dX0_copyFrom_20 ?_
  refine lv_aload_n hx hb dX0_copyFrom_23 rfl (lv_at hl 0 rfl) ?_
  refine x_get (j := 2) (C := RX0) (T := TX0) (N := 9) (v := .ref (ad (rt q0 2))) G hH hk_q0 (by decide) rfl inlX0 (by decide) (wm_3 _ (List.mem_of_getElem? (i := 6) rfl)) rfl dX0_copyFrom_24 ?_
  refine x_cSv (As := [.ref (ad (rt q1 2)), .ref (ad (rt q0 2))]) (rest := []) G hH hA (c_X5_copy l E ad μ2 (rt q1 2) (rt q0 2) (kt_0_2 _ hk_q1) (kt_0_2 _ hk_q0) _ hq) (wm_8 _ (List.mem_of_getElem? (i := 23) rfl)) mt_X5_copy mn_RX5 mc_X5_copy md_X5_copy ⟨rfl, rfl, Nat.le_of_ble_eq_true rfl, Nat.le_of_ble_eq_true rfl⟩ rfl hl.1 rfl (Nat.le_of_ble_eq_true rfl) dX0_copyFrom_27 ⟨Nat.zero_le _, Nat.zero_le _⟩ (fun μ3 hq H locs hH => ?_)
  refine lv_aload_n hx hb dX0_copyFrom_30 rfl (lv_at hl 1 rfl) ?_
  refine x_get (j := 3) (C := RX0) (T := TX0) (N := 9) (v := .ref (ad (rt q1 3))) G hH hk_q1 (by decide) rfl inlX0 (by decide) (wm_3 _ (List.mem_of_getElem? (i := 7) rfl)) rfl dX0_copyFrom_31 ?_
  refine lv_aload_n hx hb dX0_copyFrom_34 rfl (lv_at hl 0 rfl) ?_
  refine x_get (j := 3) (C := RX0) (T := TX0) (N := 9) (v := .ref (ad (rt q0 3))) G hH hk_q0 (by decide) rfl inlX0 (by decide) (wm_3 _ (List.mem_of_getElem? (i := 7) rfl)) rfl dX0_copyFrom_35 ?_
  refine x_cSv (As := [.ref (ad (rt q1 3)), .ref (ad (rt q0 3))]) (rest := []) G hH hA (c_X5_copy l E ad μ3 (rt q1 3) (rt q0 3) (kt_0_3 _ hk_q1) (kt_0_3 _ hk_q0) _ hq) (wm_8 _ (List.mem_of_getElem? (i := 23) rfl)) mt_X5_copy mn_RX5 mc_X5_copy md_X5_copy ⟨rfl, rfl, Nat.le_of_ble_eq_true rfl, Nat.le_of_ble_eq_true rfl⟩ rfl hl.1 rfl (Nat.le_of_ble_eq_true rfl) dX0_copyFrom_38 ⟨Nat.zero_le _, Nat.zero_le _⟩ (fun μ4 hq H locs hH => ?_)
  refine lv_aload_n hx hb dX0_copyFrom_41 rfl (lv_at hl 1 rfl) ?_
  refine x_get (j := 4) (C := RX0) (T := TX0) (N := 9) (v := .ref (ad (rt q1 4))) G hH hk_q1 (by decide) rfl inlX0 (by decide) (wm_3 _ (List.mem_of_getElem? (i := 8) rfl)) rfl dX0_copyFrom_42 ?_
  refine lv_aload_n hx hb dX0_copyFrom_45 rfl (lv_at hl 0 rfl) ?_
  refine x_get (j := 4) (C := RX0) (T := TX0) (N := 9) (v := .ref (ad (rt q0 4))) G hH hk_q0 (by decide) rfl inlX0 (by decide) (wm_3 _ (List.mem_of_getElem? (i := 8) rfl)) rfl dX0_copyFrom_46 ?_
  refine x_cSv (As := [.ref (ad (rt q1 4)), .ref (ad (rt q0 4))]) (rest := []) G hH hA (c_X5_copy l E ad μ4 (rt q1 4) (rt q0 4) (kt_0_4 _ hk_q1) (kt_0_4 _ hk_q0) _ hq) (wm_8 _ (List.mem_of_getElem? (i := 23) rfl)) mt_X5_copy mn_RX5 mc_X5_copy md_X5_copy ⟨rfl, rfl, Nat.le_of_ble_eq_true rfl, Nat.le_of_ble_eq_true rfl⟩ rfl hl.1 rfl (Nat.le_of_ble_eq_true rfl) dX0_copyFrom_49 ⟨Nat.zero_le _, Nat.zero_le _⟩ (fun μ5 hq H locs hH => ?_)
  refine lv_aload_n hx hb dX0_copyFrom_52 rfl (lv_at hl 1 rfl) ?_
  refine x_get (j := 5) (C := RX0) (T := TX0) (N := 9) (v := .ref (ad (rt q1 5))) G hH hk_q1 (by decide) rfl inlX0 (by decide) (wm_3 _ (List.mem_of_getElem? (i := 9) rfl)) rfl dX0_copyFrom_53 ?_
  refine lv_aload_n hx hb dX0_copyFrom_56 rfl (lv_at hl 0 rfl) ?_
  refine x_get (j := 5) (C := RX0) (T := TX0) (N := 9) (v := .ref (ad (rt q0 5))) G hH hk_q0 (by decide) rfl inlX0 (by decide) (wm_3 _ (List.mem_of_getElem? (i := 9) rfl)) rfl dX0_copyFrom_57 ?_
  refine x_cSv (As := [.ref (ad (rt q1 5)), .ref (ad (rt q0 5))]) (rest := []) G hH hA (c_X5_copy l E ad μ5 (rt q1 5) (rt q0 5) (kt_0_5 _ hk_q1) (kt_0_5 _ hk_q0) _ hq) (wm_8 _ (List.mem_of_getElem? (i := 23) rfl)) mt_X5_copy mn_RX5 mc_X5_copy md_X5_copy ⟨rfl, rfl, Nat.le_of_ble_eq_true rfl, Nat.le_of_ble_eq_true rfl⟩ rfl hl.1 rfl (Nat.le_of_ble_eq_true rfl) dX0_copyFrom_60 ⟨Nat.zero_le _, Nat.zero_le _⟩ (fun μ6 hq H locs hH => ?_)
  refine lv_aload_n hx hb dX0_copyFrom_63 rfl (lv_at hl 1 rfl) ?_
  refine x_get (j := 6) (C := RX0) (T := TX0) (N := 9) (v := .ref (ad (rt q1 6))) G hH hk_q1 (by decide) rfl inlX0 (by decide) (wm_3 _ (List.mem_of_getElem? (i := 10) rfl)) rfl dX0_copyFrom_64 ?_
  refine lv_aload_n hx hb dX0_copyFrom_67 rfl (lv_at hl 0 rfl) ?_
  refine x_get (j := 6) (C := RX0) (T := TX0) (N := 9) (v := .ref (ad (rt q0 6))) G hH hk_q0 (by decide) rfl inlX0 (by decide) (wm_3 _ (List.mem_of_getElem? (i := 10) rfl)) rfl dX0_copyFrom_68 ?_
  refine x_cSv (As := [.ref (ad (rt q1 6)), .ref (ad (rt q0 6))]) (rest := []) G hH hA (c_X5_copy l E ad μ6 (rt q1 6) (rt q0 6) (kt_0_6 _ hk_q1) (kt_0_6 _ hk_q0) _ hq) (wm_8 _ (List.mem_of_getElem? (i := 23) rfl)) mt_X5_copy mn_RX5 mc_X5_copy md_X5_copy ⟨rfl, rfl, Nat.le_of_ble_eq_true rfl, Nat.le_of_ble_eq_true rfl⟩ rfl hl.1 rfl (Nat.le_of_ble_eq_true rfl) dX0_copyFrom_71 ⟨Nat.zero_le _, Nat.zero_le _⟩ (fun μ7 hq H locs hH => ?_)
  refine lv_aload_n hx hb dX0_copyFrom_74 rfl (lv_at hl 1 rfl) ?_
  refine x_get (j := 7) (C := RX0) (T := TX0) (N := 9) (v := .ref (ad (rt q1 7))) G hH hk_q1 (by decide) rfl inlX0 (by decide) (wm_3 _ (List.mem_of_getElem? (i := 11) rfl)) rfl dX0_copyFrom_75 ?_
  refine lv_aload_n hx hb dX0_copyFrom_78 rfl (lv_at hl 0 rfl) ?_
  refine x_get (j := 7) (C := RX0) (T := TX0) (N := 9) (v := .ref (ad (rt q0 7))) G hH hk_q0 (by decide) rfl inlX0 (by decide) (wm_3 _ (List.mem_of_getElem? (i := 11) rfl)) rfl dX0_copyFrom_79 ?_
  refine x_cSv (As := [.ref (ad (rt q1 7)), .ref (ad (rt q0 7))]) (rest := []) G hH hA (c_X5_copy l E ad μ7 (rt q1 7) (rt q0 7) (kt_0_7 _ hk_q1) (kt_0_7 _ hk_q0) _ hq) (wm_8 _ (List.mem_of_getElem? (i := 23) rfl)) mt_X5_copy mn_RX5 mc_X5_copy md_X5_copy ⟨rfl, rfl, Nat.le_of_ble_eq_true rfl, Nat.le_of_ble_eq_true rfl⟩ rfl hl.1 rfl (Nat.le_of_ble_eq_true rfl) dX0_copyFrom_82 ⟨Nat.zero_le _, Nat.zero_le _⟩ (fun μ8 hq H locs hH => ?_)
  refine lv_aload_n hx hb dX0_copyFrom_85 rfl (lv_at hl 1 rfl) ?_
  refine x_get (j := 8) (C := RX0) (T := TX0) (N := 9) (v := .ref (ad (rt q1 8))) G hH hk_q1 (by decide) rfl inlX0 (by decide) (wm_3 _ (List.mem_of_getElem? (i := 12) rfl)) rfl dX0_copyFrom_86 ?_
  refine lv_aload_n hx hb dX0_copyFrom_89 rfl (lv_at hl 0 rfl) ?_
  refine x_get (j := 8) (C := RX0) (T := TX0) (N := 9) (v := .ref (ad (rt q0 8))) G hH hk_q0 (by decide) rfl inlX0 (by decide) (wm_3 _ (List.mem_of_getElem? (i := 12) rfl)) rfl dX0_copyFrom_90 ?_
  refine x_cSv (As := [.ref (ad (rt q1 8)), .ref (ad (rt q0 8))]) (rest := []) G hH hA (c_X5_copy l E ad μ8 (rt q1 8) (rt q0 8) (kt_0_8 _ hk_q1) (kt_0_8 _ hk_q0) _ hq) (wm_8 _ (List.mem_of_getElem? (i := 23) rfl)) mt_X5_copy mn_RX5 mc_X5_copy md_X5_copy ⟨rfl, rfl, Nat.le_of_ble_eq_true rfl, Nat.le_of_ble_eq_true rfl⟩ rfl hl.1 rfl (Nat.le_of_ble_eq_true rfl) dX0_copyFrom_93 ⟨Nat.zero_le _, Nat.zero_le _⟩ (fun μ9 hq H locs hH => ?_)
  exact x_vret G hr hH hq dX0_copyFrom_96
abbrev tX7_lay : List Cond := Cond.code yX7_lay cX7_lay 6 none :: wsL_law
theorem mi_X7_lay : Cond.instanceMethod yX7_lay ∈ wsL_law := (wm_9 _ (List.mem_of_getElem? (i := 12) rfl))
theorem ms_X7_lay : Cond.selects RX7 yX7_lay yX7_lay ∈ wsL_law := (wm_9 _ (List.mem_of_getElem? (i := 13) rfl))
theorem mc_X7_lay : Cond.code yX7_lay cX7_lay 6 none ∈ wsL_law := (wm_9 _ (List.mem_of_getElem? (i := 14) rfl))
theorem md_X7_lay : yX7_lay.cls ≠ "java/lang/invoke/MethodHandle" ∧ yX7_lay.cls ≠ "java/lang/invoke/VarHandle" ∧ (parseMethodDescriptor yX7_lay.desc).map (fun d => d.parameters.length) = some 3 := by decide +kernel
set_option maxRecDepth 100000 in
set_option maxHeartbeats 4000000 in
theorem c_X7_lay (l : Launch) (E : xE) (ad : Nat → Nat) (μ : xM) (q0 : Nat) (p1 : Int64) (p2 : Int64) (p3 : Int32) (hk_q0 : kd q0 = 5) (Qm : xM → Prop) (hq : p_X7_lay q0 p1 p2 p3 μ Qm) : xMv l yX7_lay tX7_lay ({ frames := 1, cells := 0, slots := 0, locals := 40 } : Room) E ad μ [.ref (ad q0), .long p1, .long p2, .int p3] Qm := by
  refine x_stv (cc := cX7_lay) (maxL := 6) (ret := none) (own := RX7) rfl (by decide) rfl (Nat.le_of_ble_eq_true rfl) ?_
  intro p e s m args below meth c ls G hr hA hH hl
  obtain ⟨hx, hb, hml, hown, hts, hKn, hN, hlk⟩ := id G
  have hl : lv_has ls 6 [(0, .ref (ad q0)), (1, .long p1), (3, .long p2), (5, .int p3)] := hl
  have hH : xH E ad (xA ad s.heap.size) s.heap μ s.heap [] := hH
  unfold p_X7_lay at hq
  refine lv_aload_n hx hb dX7_lay_0 rfl (lv_at hl 0 rfl) ?_
  refine lv_lload_n hx hb dX7_lay_1 rfl (lv_at hl 1 rfl) ?_
  refine x_putl (j := 0) (C := RX7) (T := TX7) (N := 3) G hH hk_q0 (by decide) rfl inlX7 tyX7 tyX7_ok nmX7 (by decide) (wm_4 _ (List.mem_of_getElem? (i := 5) rfl)) rfl (by decide +kernel) (fun _ _ => Nat.le_of_ble_eq_true rfl) (fun _ _ => rfl) dX7_lay_2 (fun μ1 e_μ1 H locs hH => ?_)
  have hq := hq μ1 e_μ1
  refine lv_aload_n hx hb dX7_lay_5 rfl (lv_at hl 0 rfl) ?_
  refine lv_lload_n hx hb dX7_lay_6 rfl (lv_at hl 2 rfl) ?_
  refine x_putl (j := 1) (C := RX7) (T := TX7) (N := 3) G hH hk_q0 (by decide) rfl inlX7 tyX7 tyX7_ok nmX7 (by decide) (wm_4 _ (List.mem_of_getElem? (i := 6) rfl)) rfl (by decide +kernel) (fun _ _ => Nat.le_of_ble_eq_true rfl) (fun _ _ => rfl) dX7_lay_7 (fun μ2 e_μ2 H locs hH => ?_)
  have hq := hq μ2 e_μ2
  refine lv_aload_n hx hb dX7_lay_10 rfl (lv_at hl 0 rfl) ?_
  refine lv_iload hx hb dX7_lay_11 (lv_at hl 3 rfl) ?_
  refine x_puti (j := 2) (C := RX7) (T := TX7) (N := 3) (ty := .int) G hH hk_q0 (by decide) rfl inlX7 tyX7 tyX7_ok nmX7 (by decide) (wm_4 _ (List.mem_of_getElem? (i := 7) rfl)) rfl (by decide +kernel) rfl rfl (fun _ _ => Nat.le_of_ble_eq_true rfl) (fun _ _ => rfl) dX7_lay_13 (fun μ3 e_μ3 H locs hH => ?_)
  have hq := hq μ3 e_μ3
  exact x_vret G hr hH hq dX7_lay_16
abbrev tX7_copyFrom : List Cond := Cond.code yX7_copyFrom cX7_copyFrom 2 none :: wsL_law
theorem mi_X7_copyFrom : Cond.instanceMethod yX7_copyFrom ∈ wsL_law := (wm_9 _ (List.mem_of_getElem? (i := 8) rfl))
theorem ms_X7_copyFrom : Cond.selects RX7 yX7_copyFrom yX7_copyFrom ∈ wsL_law := (wm_9 _ (List.mem_of_getElem? (i := 9) rfl))
theorem mc_X7_copyFrom : Cond.code yX7_copyFrom cX7_copyFrom 2 none ∈ wsL_law := (wm_9 _ (List.mem_of_getElem? (i := 10) rfl))
theorem md_X7_copyFrom : yX7_copyFrom.cls ≠ "java/lang/invoke/MethodHandle" ∧ yX7_copyFrom.cls ≠ "java/lang/invoke/VarHandle" ∧ (parseMethodDescriptor yX7_copyFrom.desc).map (fun d => d.parameters.length) = some 1 := by decide +kernel
set_option maxRecDepth 100000 in
set_option maxHeartbeats 4000000 in
theorem c_X7_copyFrom (l : Launch) (E : xE) (ad : Nat → Nat) (μ : xM) (q0 : Nat) (q1 : Nat) (hk_q0 : kd q0 = 5) (hk_q1 : kd q1 = 5) (Qm : xM → Prop) (hq : p_X7_copyFrom q0 q1 μ Qm) : xMv l yX7_copyFrom tX7_copyFrom ({ frames := 2, cells := 0, slots := 0, locals := 80 } : Room) E ad μ [.ref (ad q0), .ref (ad q1)] Qm := by
  refine x_stv (cc := cX7_copyFrom) (maxL := 2) (ret := none) (own := RX7) rfl (by decide) rfl (Nat.le_of_ble_eq_true rfl) ?_
  intro p e s m args below meth c ls G hr hA hH hl
  obtain ⟨hx, hb, hml, hown, hts, hKn, hN, hlk⟩ := id G
  have hl : lv_has ls 2 [(0, .ref (ad q0)), (1, .ref (ad q1))] := hl
  have hH : xH E ad (xA ad s.heap.size) s.heap μ s.heap [] := hH
  unfold p_X7_copyFrom at hq
  refine lv_aload_n hx hb dX7_copyFrom_0 rfl (lv_at hl 0 rfl) ?_
  refine lv_aload_n hx hb dX7_copyFrom_1 rfl (lv_at hl 1 rfl) ?_
  refine x_get (j := 0) (C := RX7) (T := TX7) (N := 3) (v := .long (μ.2 q1 0)) G hH hk_q1 (by decide) rfl inlX7 (by decide) (wm_4 _ (List.mem_of_getElem? (i := 5) rfl)) rfl dX7_copyFrom_2 ?_
  refine lv_aload_n hx hb dX7_copyFrom_5 rfl (lv_at hl 1 rfl) ?_
  refine x_get (j := 1) (C := RX7) (T := TX7) (N := 3) (v := .long (μ.2 q1 1)) G hH hk_q1 (by decide) rfl inlX7 (by decide) (wm_4 _ (List.mem_of_getElem? (i := 6) rfl)) rfl dX7_copyFrom_6 ?_
  refine lv_aload_n hx hb dX7_copyFrom_9 rfl (lv_at hl 1 rfl) ?_
  refine x_get (j := 2) (C := RX7) (T := TX7) (N := 3) (v := .int (μ.1 q1 2)) G hH hk_q1 (by decide) rfl inlX7 (by decide) (wm_4 _ (List.mem_of_getElem? (i := 7) rfl)) rfl dX7_copyFrom_10 ?_
  refine x_cVv (C := RX7) (T := TX7) (N := 3) (As := [.long (μ.2 q1 0), .long (μ.2 q1 1), .int (μ.1 q1 2)]) (rest := []) G hH hA (c_X7_lay l E ad μ q0 (μ.2 q1 0) (μ.2 q1 1) (μ.1 q1 2) hk_q0 _ hq) (wm_9 _ (List.mem_of_getElem? (i := 11) rfl)) mi_X7_lay ms_X7_lay mn_RX7 mc_X7_lay rfl md_X7_lay ⟨rfl, rfl, Nat.le_of_ble_eq_true rfl, Nat.le_of_ble_eq_true rfl⟩ hk_q0 (by decide) rfl rfl hl.1 rfl (Nat.le_of_ble_eq_true rfl) dX7_copyFrom_13 ⟨Nat.zero_le _, Nat.zero_le _⟩ (fun μ1 hq H locs hH => ?_)
  exact x_vret G hr hH hq dX7_copyFrom_16
abbrev tX2_copyFrom : List Cond := Cond.code yX2_copyFrom cX2_copyFrom 2 none :: wsL_law
theorem mi_X2_copyFrom : Cond.instanceMethod yX2_copyFrom ∈ wsL_law := (wm_9 _ (List.mem_of_getElem? (i := 4) rfl))
theorem ms_X2_copyFrom : Cond.selects RX2 yX2_copyFrom yX2_copyFrom ∈ wsL_law := (wm_9 _ (List.mem_of_getElem? (i := 5) rfl))
theorem mc_X2_copyFrom : Cond.code yX2_copyFrom cX2_copyFrom 2 none ∈ wsL_law := (wm_9 _ (List.mem_of_getElem? (i := 6) rfl))
theorem md_X2_copyFrom : yX2_copyFrom.cls ≠ "java/lang/invoke/MethodHandle" ∧ yX2_copyFrom.cls ≠ "java/lang/invoke/VarHandle" ∧ (parseMethodDescriptor yX2_copyFrom.desc).map (fun d => d.parameters.length) = some 1 := by decide +kernel
set_option maxRecDepth 100000 in
set_option maxHeartbeats 4000000 in
theorem c_X2_copyFrom (l : Launch) (E : xE) (ad : Nat → Nat) (μ : xM) (q0 : Nat) (q1 : Nat) (hk_q0 : kd q0 = 1) (hk_q1 : kd q1 = 1) (Qm : xM → Prop) (hq : p_X2_copyFrom q0 q1 μ Qm) : xMv l yX2_copyFrom tX2_copyFrom ({ frames := 3, cells := 0, slots := 0, locals := 120 } : Room) E ad μ [.ref (ad q0), .ref (ad q1)] Qm := by
  refine x_stv (cc := cX2_copyFrom) (maxL := 2) (ret := none) (own := RX2) rfl (by decide) rfl (Nat.le_of_ble_eq_true rfl) ?_
  intro p e s m args below meth c ls G hr hA hH hl
  obtain ⟨hx, hb, hml, hown, hts, hKn, hN, hlk⟩ := id G
  have hl : lv_has ls 2 [(0, .ref (ad q0)), (1, .ref (ad q1))] := hl
  have hH : xH E ad (xA ad s.heap.size) s.heap μ s.heap [] := hH
  unfold p_X2_copyFrom at hq
  refine lv_aload_n hx hb dX2_copyFrom_0 rfl (lv_at hl 0 rfl) ?_
  refine x_get (j := 0) (C := RX2) (T := TX2) (N := 7) (v := .ref (ad (rt q0 0))) G hH hk_q0 (by decide) rfl inlX2 (by decide) (wm_3 _ (List.mem_of_getElem? (i := 19) rfl)) rfl dX2_copyFrom_1 ?_
  refine lv_aload_n hx hb dX2_copyFrom_4 rfl (lv_at hl 1 rfl) ?_
  refine x_get (j := 0) (C := RX2) (T := TX2) (N := 7) (v := .ref (ad (rt q1 0))) G hH hk_q1 (by decide) rfl inlX2 (by decide) (wm_3 _ (List.mem_of_getElem? (i := 19) rfl)) rfl dX2_copyFrom_5 ?_
  refine x_cVv (C := RX7) (T := TX7) (N := 3) (As := [.ref (ad (rt q1 0))]) (rest := []) G hH hA (c_X7_copyFrom l E ad μ (rt q0 0) (rt q1 0) (kt_1_0 _ hk_q0) (kt_1_0 _ hk_q1) _ hq) (wm_9 _ (List.mem_of_getElem? (i := 7) rfl)) mi_X7_copyFrom ms_X7_copyFrom mn_RX7 mc_X7_copyFrom rfl md_X7_copyFrom ⟨rfl, rfl, Nat.le_of_ble_eq_true rfl, Nat.le_of_ble_eq_true rfl⟩ (kt_1_0 _ hk_q0) (by decide) rfl rfl hl.1 rfl (Nat.le_of_ble_eq_true rfl) dX2_copyFrom_8 ⟨Nat.zero_le _, Nat.zero_le _⟩ (fun μ1 hq H locs hH => ?_)
  refine lv_aload_n hx hb dX2_copyFrom_11 rfl (lv_at hl 0 rfl) ?_
  refine lv_aload_n hx hb dX2_copyFrom_12 rfl (lv_at hl 1 rfl) ?_
  refine x_get (j := 1) (C := RX2) (T := TX2) (N := 7) (v := .int (μ1.1 q1 1)) G hH hk_q1 (by decide) rfl inlX2 (by decide) (wm_3 _ (List.mem_of_getElem? (i := 20) rfl)) rfl dX2_copyFrom_13 ?_
  refine x_puti (j := 1) (C := RX2) (T := TX2) (N := 7) (ty := .int) G hH hk_q0 (by decide) rfl inlX2 tyX2 tyX2_ok nmX2 (by decide) (wm_3 _ (List.mem_of_getElem? (i := 20) rfl)) rfl (by decide +kernel) rfl rfl (fun _ _ => Nat.le_of_ble_eq_true rfl) (fun _ _ => rfl) dX2_copyFrom_16 (fun μ2 e_μ2 H locs hH => ?_)
  have hq := hq μ2 e_μ2
  refine lv_aload_n hx hb dX2_copyFrom_19 rfl (lv_at hl 0 rfl) ?_
  refine lv_aload_n hx hb dX2_copyFrom_20 rfl (lv_at hl 1 rfl) ?_
  refine x_get (j := 2) (C := RX2) (T := TX2) (N := 7) (v := .int (μ2.1 q1 2)) G hH hk_q1 (by decide) rfl inlX2 (by decide) (wm_3 _ (List.mem_of_getElem? (i := 21) rfl)) rfl dX2_copyFrom_21 ?_
  refine x_puti (j := 2) (C := RX2) (T := TX2) (N := 7) (ty := .int) G hH hk_q0 (by decide) rfl inlX2 tyX2 tyX2_ok nmX2 (by decide) (wm_3 _ (List.mem_of_getElem? (i := 21) rfl)) rfl (by decide +kernel) rfl rfl (fun _ _ => Nat.le_of_ble_eq_true rfl) (fun _ _ => rfl) dX2_copyFrom_24 (fun μ3 e_μ3 H locs hH => ?_)
  have hq := hq μ3 e_μ3
  refine lv_aload_n hx hb dX2_copyFrom_27 rfl (lv_at hl 0 rfl) ?_
  refine lv_aload_n hx hb dX2_copyFrom_28 rfl (lv_at hl 1 rfl) ?_
  refine x_get (j := 3) (C := RX2) (T := TX2) (N := 7) (v := .int (μ3.1 q1 3)) G hH hk_q1 (by decide) rfl inlX2 (by decide) (wm_3 _ (List.mem_of_getElem? (i := 22) rfl)) rfl dX2_copyFrom_29 ?_
  refine x_puti (j := 3) (C := RX2) (T := TX2) (N := 7) (ty := .int) G hH hk_q0 (by decide) rfl inlX2 tyX2 tyX2_ok nmX2 (by decide) (wm_3 _ (List.mem_of_getElem? (i := 22) rfl)) rfl (by decide +kernel) rfl rfl (fun _ _ => Nat.le_of_ble_eq_true rfl) (fun _ _ => rfl) dX2_copyFrom_32 (fun μ4 e_μ4 H locs hH => ?_)
  have hq := hq μ4 e_μ4
  refine lv_aload_n hx hb dX2_copyFrom_35 rfl (lv_at hl 1 rfl) ?_
  refine x_get (j := 4) (C := RX2) (T := TX2) (N := 7) (v := .ref (ad (rt q1 4))) G hH hk_q1 (by decide) rfl inlX2 (by decide) (wm_3 _ (List.mem_of_getElem? (i := 23) rfl)) rfl dX2_copyFrom_36 ?_
  refine lv_aload_n hx hb dX2_copyFrom_39 rfl (lv_at hl 0 rfl) ?_
  refine x_get (j := 4) (C := RX2) (T := TX2) (N := 7) (v := .ref (ad (rt q0 4))) G hH hk_q0 (by decide) rfl inlX2 (by decide) (wm_3 _ (List.mem_of_getElem? (i := 23) rfl)) rfl dX2_copyFrom_40 ?_
  refine x_cSv (As := [.ref (ad (rt q1 4)), .ref (ad (rt q0 4))]) (rest := []) G hH hA (c_X5_copy l E ad μ4 (rt q1 4) (rt q0 4) (kt_1_4 _ hk_q1) (kt_1_4 _ hk_q0) _ hq) (wm_9 _ (List.mem_of_getElem? (i := 15) rfl)) mt_X5_copy mn_RX5 mc_X5_copy md_X5_copy ⟨rfl, rfl, Nat.le_of_ble_eq_true rfl, Nat.le_of_ble_eq_true rfl⟩ rfl hl.1 rfl (Nat.le_of_ble_eq_true rfl) dX2_copyFrom_43 ⟨Nat.zero_le _, Nat.zero_le _⟩ (fun μ5 hq H locs hH => ?_)
  refine lv_aload_n hx hb dX2_copyFrom_46 rfl (lv_at hl 1 rfl) ?_
  refine x_get (j := 5) (C := RX2) (T := TX2) (N := 7) (v := .ref (ad (rt q1 5))) G hH hk_q1 (by decide) rfl inlX2 (by decide) (wm_4 _ (List.mem_of_getElem? (i := 0) rfl)) rfl dX2_copyFrom_47 ?_
  refine lv_aload_n hx hb dX2_copyFrom_50 rfl (lv_at hl 0 rfl) ?_
  refine x_get (j := 5) (C := RX2) (T := TX2) (N := 7) (v := .ref (ad (rt q0 5))) G hH hk_q0 (by decide) rfl inlX2 (by decide) (wm_4 _ (List.mem_of_getElem? (i := 0) rfl)) rfl dX2_copyFrom_51 ?_
  refine x_cSv (As := [.ref (ad (rt q1 5)), .ref (ad (rt q0 5))]) (rest := []) G hH hA (c_X5_copy l E ad μ5 (rt q1 5) (rt q0 5) (kt_1_5 _ hk_q1) (kt_1_5 _ hk_q0) _ hq) (wm_9 _ (List.mem_of_getElem? (i := 15) rfl)) mt_X5_copy mn_RX5 mc_X5_copy md_X5_copy ⟨rfl, rfl, Nat.le_of_ble_eq_true rfl, Nat.le_of_ble_eq_true rfl⟩ rfl hl.1 rfl (Nat.le_of_ble_eq_true rfl) dX2_copyFrom_54 ⟨Nat.zero_le _, Nat.zero_le _⟩ (fun μ6 hq H locs hH => ?_)
  refine lv_aload_n hx hb dX2_copyFrom_57 rfl (lv_at hl 1 rfl) ?_
  refine x_get (j := 6) (C := RX2) (T := TX2) (N := 7) (v := .ref (ad (rt q1 6))) G hH hk_q1 (by decide) rfl inlX2 (by decide) (wm_4 _ (List.mem_of_getElem? (i := 1) rfl)) rfl dX2_copyFrom_58 ?_
  refine lv_aload_n hx hb dX2_copyFrom_61 rfl (lv_at hl 0 rfl) ?_
  refine x_get (j := 6) (C := RX2) (T := TX2) (N := 7) (v := .ref (ad (rt q0 6))) G hH hk_q0 (by decide) rfl inlX2 (by decide) (wm_4 _ (List.mem_of_getElem? (i := 1) rfl)) rfl dX2_copyFrom_62 ?_
  refine x_cSv (As := [.ref (ad (rt q1 6)), .ref (ad (rt q0 6))]) (rest := []) G hH hA (c_X5_copy l E ad μ6 (rt q1 6) (rt q0 6) (kt_1_6 _ hk_q1) (kt_1_6 _ hk_q0) _ hq) (wm_9 _ (List.mem_of_getElem? (i := 15) rfl)) mt_X5_copy mn_RX5 mc_X5_copy md_X5_copy ⟨rfl, rfl, Nat.le_of_ble_eq_true rfl, Nat.le_of_ble_eq_true rfl⟩ rfl hl.1 rfl (Nat.le_of_ble_eq_true rfl) dX2_copyFrom_65 ⟨Nat.zero_le _, Nat.zero_le _⟩ (fun μ7 hq H locs hH => ?_)
  exact x_vret G hr hH hq dX2_copyFrom_68
abbrev tX9_copyFrom : List Cond := Cond.code yX9_copyFrom cX9_copyFrom 2 none :: wsL_law
theorem mi_X9_copyFrom : Cond.instanceMethod yX9_copyFrom ∈ wsL_law := (wm_8 _ (List.mem_of_getElem? (i := 16) rfl))
theorem ms_X9_copyFrom : Cond.selects RX9 yX9_copyFrom yX9_copyFrom ∈ wsL_law := (wm_8 _ (List.mem_of_getElem? (i := 17) rfl))
theorem mc_X9_copyFrom : Cond.code yX9_copyFrom cX9_copyFrom 2 none ∈ wsL_law := (wm_8 _ (List.mem_of_getElem? (i := 18) rfl))
theorem md_X9_copyFrom : yX9_copyFrom.cls ≠ "java/lang/invoke/MethodHandle" ∧ yX9_copyFrom.cls ≠ "java/lang/invoke/VarHandle" ∧ (parseMethodDescriptor yX9_copyFrom.desc).map (fun d => d.parameters.length) = some 1 := by decide +kernel
set_option maxRecDepth 100000 in
set_option maxHeartbeats 4000000 in
theorem c_X9_copyFrom (l : Launch) (E : xE) (ad : Nat → Nat) (μ : xM) (q0 : Nat) (q1 : Nat) (hk_q0 : kd q0 = 7) (hk_q1 : kd q1 = 7) (Qm : xM → Prop) (hq : p_X9_copyFrom q0 q1 μ Qm) : xMv l yX9_copyFrom tX9_copyFrom ({ frames := 4, cells := 0, slots := 0, locals := 160 } : Room) E ad μ [.ref (ad q0), .ref (ad q1)] Qm := by
  refine x_stv (cc := cX9_copyFrom) (maxL := 2) (ret := none) (own := RX9) rfl (by decide) rfl (Nat.le_of_ble_eq_true rfl) ?_
  intro p e s m args below meth c ls G hr hA hH hl
  obtain ⟨hx, hb, hml, hown, hts, hKn, hN, hlk⟩ := id G
  have hl : lv_has ls 2 [(0, .ref (ad q0)), (1, .ref (ad q1))] := hl
  have hH : xH E ad (xA ad s.heap.size) s.heap μ s.heap [] := hH
  unfold p_X9_copyFrom at hq
  refine lv_aload_n hx hb dX9_copyFrom_0 rfl (lv_at hl 0 rfl) ?_
  refine x_get (j := 0) (C := RX9) (T := TX9) (N := 3) (v := .ref (ad (rt q0 0))) G hH hk_q0 (by decide) rfl inlX9 (by decide) (wm_2 _ (List.mem_of_getElem? (i := 18) rfl)) rfl dX9_copyFrom_1 ?_
  refine lv_aload_n hx hb dX9_copyFrom_4 rfl (lv_at hl 1 rfl) ?_
  refine x_get (j := 0) (C := RX9) (T := TX9) (N := 3) (v := .ref (ad (rt q1 0))) G hH hk_q1 (by decide) rfl inlX9 (by decide) (wm_2 _ (List.mem_of_getElem? (i := 18) rfl)) rfl dX9_copyFrom_5 ?_
  refine x_cVv (C := RX0) (T := TX0) (N := 9) (As := [.ref (ad (rt q1 0))]) (rest := []) G hH hA (c_X0_copyFrom l E ad μ (rt q0 0) (rt q1 0) (kt_7_0 _ hk_q0) (kt_7_0 _ hk_q1) _ hq) (wm_8 _ (List.mem_of_getElem? (i := 19) rfl)) mi_X0_copyFrom ms_X0_copyFrom mn_RX0 mc_X0_copyFrom rfl md_X0_copyFrom ⟨rfl, rfl, Nat.le_of_ble_eq_true rfl, Nat.le_of_ble_eq_true rfl⟩ (kt_7_0 _ hk_q0) (by decide) rfl rfl hl.1 rfl (Nat.le_of_ble_eq_true rfl) dX9_copyFrom_8 ⟨Nat.zero_le _, Nat.zero_le _⟩ (fun μ1 hq H locs hH => ?_)
  refine lv_aload_n hx hb dX9_copyFrom_11 rfl (lv_at hl 0 rfl) ?_
  refine x_get (j := 1) (C := RX9) (T := TX9) (N := 3) (v := .ref (ad (rt q0 1))) G hH hk_q0 (by decide) rfl inlX9 (by decide) (wm_2 _ (List.mem_of_getElem? (i := 22) rfl)) rfl dX9_copyFrom_12 ?_
  refine lv_aload_n hx hb dX9_copyFrom_15 rfl (lv_at hl 1 rfl) ?_
  refine x_get (j := 1) (C := RX9) (T := TX9) (N := 3) (v := .ref (ad (rt q1 1))) G hH hk_q1 (by decide) rfl inlX9 (by decide) (wm_2 _ (List.mem_of_getElem? (i := 22) rfl)) rfl dX9_copyFrom_16 ?_
  refine x_cVv (C := RX2) (T := TX2) (N := 7) (As := [.ref (ad (rt q1 1))]) (rest := []) G hH hA (c_X2_copyFrom l E ad μ1 (rt q0 1) (rt q1 1) (kt_7_1 _ hk_q0) (kt_7_1 _ hk_q1) _ hq) (wm_9 _ (List.mem_of_getElem? (i := 3) rfl)) mi_X2_copyFrom ms_X2_copyFrom mn_RX2 mc_X2_copyFrom rfl md_X2_copyFrom ⟨rfl, rfl, Nat.le_of_ble_eq_true rfl, Nat.le_of_ble_eq_true rfl⟩ (kt_7_1 _ hk_q0) (by decide) rfl rfl hl.1 rfl (Nat.le_of_ble_eq_true rfl) dX9_copyFrom_19 ⟨Nat.zero_le _, Nat.zero_le _⟩ (fun μ2 hq H locs hH => ?_)
  refine lv_aload_n hx hb dX9_copyFrom_22 rfl (lv_at hl 0 rfl) ?_
  refine lv_aload_n hx hb dX9_copyFrom_23 rfl (lv_at hl 1 rfl) ?_
  refine x_get (j := 2) (C := RX9) (T := TX9) (N := 3) (v := .long (μ2.2 q1 2)) G hH hk_q1 (by decide) rfl inlX9 (by decide) (wm_2 _ (List.mem_of_getElem? (i := 23) rfl)) rfl dX9_copyFrom_24 ?_
  refine x_putl (j := 2) (C := RX9) (T := TX9) (N := 3) G hH hk_q0 (by decide) rfl inlX9 tyX9 tyX9_ok nmX9 (by decide) (wm_2 _ (List.mem_of_getElem? (i := 23) rfl)) rfl (by decide +kernel) (fun _ _ => Nat.le_of_ble_eq_true rfl) (fun _ _ => rfl) dX9_copyFrom_27 (fun μ3 e_μ3 H locs hH => ?_)
  have hq := hq μ3 e_μ3
  exact x_vret G hr hH hq dX9_copyFrom_30
abbrev tX3_restore : List Cond := Cond.code yX3_restore cX3_restore 4 none :: wsL_law
theorem mi_X3_restore : Cond.instanceMethod yX3_restore ∈ wsL_law := (wm_36 _ (List.mem_of_getElem? (i := 5) rfl))
theorem ms_X3_restore : Cond.selects RX3 yX3_restore yX3_restore ∈ wsL_law := (wm_36 _ (List.mem_of_getElem? (i := 6) rfl))
theorem mc_X3_restore : Cond.code yX3_restore cX3_restore 4 none ∈ wsL_law := (wm_36 _ (List.mem_of_getElem? (i := 7) rfl))
theorem md_X3_restore : yX3_restore.cls ≠ "java/lang/invoke/MethodHandle" ∧ yX3_restore.cls ≠ "java/lang/invoke/VarHandle" ∧ (parseMethodDescriptor yX3_restore.desc).map (fun d => d.parameters.length) = some 1 := by decide +kernel
set_option maxRecDepth 100000 in
set_option maxHeartbeats 4000000 in
theorem c_X3_restore (l : Launch) (E : xE) (ad : Nat → Nat) (μ : xM) (q0 : Nat) (q1 : Nat) (hk_q0 : kd q0 = 2) (hk_q1 : kd q1 = 7) (Qm : xM → Prop) (hq : p_X3_restore q0 q1 μ Qm) : xMv l yX3_restore tX3_restore ({ frames := 5, cells := 0, slots := 0, locals := 200 } : Room) E ad μ [.ref (ad q0), .ref (ad q1)] Qm := by
  refine x_stv (cc := cX3_restore) (maxL := 4) (ret := none) (own := RX3) rfl (by decide) rfl (Nat.le_of_ble_eq_true rfl) ?_
  intro p e s m args below meth c ls G hr hA hH hl
  obtain ⟨hx, hb, hml, hown, hts, hKn, hN, hlk⟩ := id G
  have hl : lv_has ls 4 [(0, .ref (ad q0)), (1, .ref (ad q1))] := hl
  have hH : xH E ad (xA ad s.heap.size) s.heap μ s.heap [] := hH
  unfold p_X3_restore at hq
  refine lv_aload_n hx hb dX3_restore_0 rfl (lv_at hl 0 rfl) ?_
  refine x_get (j := 1) (C := RX3) (T := TX3) (N := 3) (v := .int (μ.1 q0 1)) G hH hk_q0 (by decide) rfl inlX3 (by decide) (wm_4 _ (List.mem_of_getElem? (i := 14) rfl)) rfl dX3_restore_1 ?_
  refine lv_iconst (v := (5 : Int32)) hx hb dX3_restore_4 (by decide) ?_
  refine lv_iadd hx hb dX3_restore_5 ?_
  refine lv_iconst (v := (1 : Int32)) hx hb dX3_restore_6 (by decide) ?_
  refine lv_isub hx hb dX3_restore_7 ?_
  refine lv_iconst (v := (5 : Int32)) hx hb dX3_restore_8 (by decide) ?_
  refine lv_irem hx hb dX3_restore_9 (by decide) ?_
  refine lv_topi (fun v1 e_v1 => ?_)
  have hq := hq v1 e_v1
  refine lv_istore_n (lv' := [(2, .int v1), (0, .ref (ad q0)), (1, .ref (ad q1))]) hx hb dX3_restore_10 rfl hl (by decide) rfl (fun ls hl => ?_)
  refine lv_aload_n hx hb dX3_restore_11 rfl (lv_at hl 1 rfl) ?_
  refine lv_iload_n hx hb dX3_restore_12 rfl (lv_at hl 0 rfl) ?_
  refine x_cVq (C := RX3) (T := TX3) (N := 3) (As := [.int v1]) (rest := []) G hH hA (c_X3_keptAt l E ad μ q0 v1 hk_q0 _ hq) (wm_8 _ (List.mem_of_getElem? (i := 11) rfl)) mi_X3_keptAt ms_X3_keptAt mn_RX3 mc_X3_keptAt rfl md_X3_keptAt ⟨rfl, rfl, Nat.le_of_ble_eq_true rfl, Nat.le_of_ble_eq_true rfl⟩ hk_q0 (by decide) rfl rfl hl.1 rfl (Nat.le_of_ble_eq_true rfl) dX3_restore_13 ⟨Nat.zero_le _, Nat.zero_le _⟩ (fun o3 μ2 hq H locs hH => ?_)
  rcases o3 with _ | q4
  · have hq := hq.1 rfl
    refine lv_astore_nN (lv' := [(3, .null), (2, .int v1), (0, .ref (ad q0)), (1, .ref (ad q1))]) hx hb dX3_restore_16 rfl hl (by decide) rfl (fun ls hl => ?_)
    refine lv_aload_n hx hb dX3_restore_17 rfl (lv_at hl 2 rfl) ?_
    refine x_get (j := 2) (C := RX3) (T := TX3) (N := 3) (v := .int (μ2.1 q0 2)) G hH hk_q0 (by decide) rfl inlX3 (by decide) (wm_4 _ (List.mem_of_getElem? (i := 15) rfl)) rfl dX3_restore_18 ?_
    refine lv_if_eq (tgt := 28) hx hb dX3_restore_21 (by decide) (fun c5 => ?_) (fun c5 => ?_)
    · have hq := hq.1 c5
      exact x_vret G hr hH hq dX3_restore_28
    · have hq := hq.2 c5
      refine lv_aload_nN hx hb dX3_restore_24 rfl (lv_at hl 0 rfl) ?_
      refine lv_ifnonnullN hx hb dX3_restore_25 ?_
      exact x_vret G hr hH hq dX3_restore_28
  · obtain ⟨hk_q4, hq⟩ := hq.2 q4 rfl
    refine lv_astore_n (lv' := [(3, .ref (ad q4)), (2, .int v1), (0, .ref (ad q0)), (1, .ref (ad q1))]) hx hb dX3_restore_16 rfl hl (by decide) rfl (fun ls hl => ?_)
    refine lv_aload_n hx hb dX3_restore_17 rfl (lv_at hl 2 rfl) ?_
    refine x_get (j := 2) (C := RX3) (T := TX3) (N := 3) (v := .int (μ2.1 q0 2)) G hH hk_q0 (by decide) rfl inlX3 (by decide) (wm_4 _ (List.mem_of_getElem? (i := 15) rfl)) rfl dX3_restore_18 ?_
    refine lv_if_eq (tgt := 28) hx hb dX3_restore_21 (by decide) (fun c6 => ?_) (fun c6 => ?_)
    · have hq := hq.1 c6
      exact x_vret G hr hH hq dX3_restore_28
    · have hq := hq.2 c6
      refine lv_aload_n hx hb dX3_restore_24 rfl (lv_at hl 0 rfl) ?_
      refine lv_ifnonnull (tgt := 29) hx hb dX3_restore_25 (by decide) ?_
      refine lv_aload_n hx hb dX3_restore_29 rfl (lv_at hl 3 rfl) ?_
      refine lv_aload_n hx hb dX3_restore_30 rfl (lv_at hl 0 rfl) ?_
      refine x_cVv (C := RX9) (T := TX9) (N := 3) (As := [.ref (ad q4)]) (rest := []) G hH hA (c_X9_copyFrom l E ad μ2 q1 q4 hk_q1 hk_q4 _ hq) (wm_8 _ (List.mem_of_getElem? (i := 15) rfl)) mi_X9_copyFrom ms_X9_copyFrom mn_RX9 mc_X9_copyFrom rfl md_X9_copyFrom ⟨rfl, rfl, Nat.le_of_ble_eq_true rfl, Nat.le_of_ble_eq_true rfl⟩ hk_q1 (by decide) rfl rfl hl.1 rfl (Nat.le_of_ble_eq_true rfl) dX3_restore_31 ⟨Nat.zero_le _, Nat.zero_le _⟩ (fun μ7 hq H locs hH => ?_)
      refine lv_aload_n hx hb dX3_restore_34 rfl (lv_at hl 2 rfl) ?_
      refine lv_iload_n hx hb dX3_restore_35 rfl (lv_at hl 1 rfl) ?_
      refine x_puti (j := 1) (C := RX3) (T := TX3) (N := 3) (ty := .int) G hH hk_q0 (by decide) rfl inlX3 tyX3 tyX3_ok nmX3 (by decide) (wm_4 _ (List.mem_of_getElem? (i := 14) rfl)) rfl (by decide +kernel) rfl rfl (fun _ _ => Nat.le_of_ble_eq_true rfl) (fun _ _ => rfl) dX3_restore_36 (fun μ8 e_μ8 H locs hH => ?_)
      have hq := hq μ8 e_μ8
      refine lv_aload_n hx hb dX3_restore_39 rfl (lv_at hl 2 rfl) ?_
      refine lv_dup hx hb dX3_restore_40 rfl ?_
      refine x_get (j := 2) (C := RX3) (T := TX3) (N := 3) (v := .int (μ8.1 q0 2)) G hH hk_q0 (by decide) rfl inlX3 (by decide) (wm_4 _ (List.mem_of_getElem? (i := 15) rfl)) rfl dX3_restore_41 ?_
      refine lv_iconst (v := (1 : Int32)) hx hb dX3_restore_44 (by decide) ?_
      refine lv_isub hx hb dX3_restore_45 ?_
      refine x_puti (j := 2) (C := RX3) (T := TX3) (N := 3) (ty := .int) G hH hk_q0 (by decide) rfl inlX3 tyX3 tyX3_ok nmX3 (by decide) (wm_4 _ (List.mem_of_getElem? (i := 15) rfl)) rfl (by decide +kernel) rfl rfl (fun _ _ => Nat.le_of_ble_eq_true rfl) (fun _ _ => rfl) dX3_restore_46 (fun μ9 e_μ9 H locs hH => ?_)
      have hq := hq μ9 e_μ9
      exact x_vret G hr hH hq dX3_restore_49
abbrev tX11_back : List Cond := Cond.code yX11_back cX11_back 1 (some .int) :: wsL_law
theorem mi_X11_back : Cond.instanceMethod yX11_back ∈ wsL_law := (wm_36 _ (List.mem_of_getElem? (i := 0) rfl))
theorem ms_X11_back : Cond.selects RX11 yX11_back yX11_back ∈ wsL_law := (wm_36 _ (List.mem_of_getElem? (i := 1) rfl))
theorem mc_X11_back : Cond.code yX11_back cX11_back 1 (some .int) ∈ wsL_law := (wm_36 _ (List.mem_of_getElem? (i := 2) rfl))
theorem md_X11_back : yX11_back.cls ≠ "java/lang/invoke/MethodHandle" ∧ yX11_back.cls ≠ "java/lang/invoke/VarHandle" ∧ (parseMethodDescriptor yX11_back.desc).map (fun d => d.parameters.length) = some 0 := by decide +kernel
set_option maxRecDepth 100000 in
set_option maxHeartbeats 4000000 in
theorem c_X11_back (l : Launch) (E : xE) (ad : Nat → Nat) (μ : xM) (q0 : Nat) (hk_q0 : kd q0 = 9) (Qm : Int32 → xM → Prop) (hq : p_X11_back q0 μ Qm) : xMi l yX11_back tX11_back ({ frames := 6, cells := 0, slots := 0, locals := 240 } : Room) E ad μ [.ref (ad q0)] Qm := by
  refine x_sti (cc := cX11_back) (maxL := 1) (ret := (some .int)) (own := RX11) rfl (by decide) rfl (Nat.le_of_ble_eq_true rfl) ?_
  intro p e s m args below meth c ls G hr hA hH hl
  obtain ⟨hx, hb, hml, hown, hts, hKn, hN, hlk⟩ := id G
  have hl : lv_has ls 1 [(0, .ref (ad q0))] := hl
  have hH : xH E ad (xA ad s.heap.size) s.heap μ s.heap [] := hH
  unfold p_X11_back at hq
  refine lv_aload_n hx hb dX11_back_0 rfl (lv_at hl 0 rfl) ?_
  refine x_get (j := 1) (C := RX11) (T := TX11) (N := 8) (v := .ref (ad (rt q0 1))) G hH hk_q0 (by decide) rfl inlX11 (by decide) (wm_1 _ (List.mem_of_getElem? (i := 19) rfl)) rfl dX11_back_1 ?_
  refine x_get (j := 2) (C := RX3) (T := TX3) (N := 3) (v := .int (μ.1 (rt q0 1) 2)) G hH (kt_9_1 _ hk_q0) (by decide) rfl inlX3 (by decide) (wm_36 _ (List.mem_of_getElem? (i := 3) rfl)) rfl dX11_back_4 ?_
  refine lv_if_ne (tgt := 17) hx hb dX11_back_7 (by decide) (fun c1 => ?_) (fun c1 => ?_)
  · have hq := hq.1 c1
    refine lv_aload_n hx hb dX11_back_17 rfl (lv_at hl 0 rfl) ?_
    refine x_get (j := 1) (C := RX11) (T := TX11) (N := 8) (v := .ref (ad (rt q0 1))) G hH hk_q0 (by decide) rfl inlX11 (by decide) (wm_1 _ (List.mem_of_getElem? (i := 19) rfl)) rfl dX11_back_18 ?_
    refine lv_aload_n hx hb dX11_back_21 rfl (lv_at hl 0 rfl) ?_
    refine x_get (j := 0) (C := RX11) (T := TX11) (N := 8) (v := .ref (ad (rt q0 0))) G hH hk_q0 (by decide) rfl inlX11 (by decide) (wm_1 _ (List.mem_of_getElem? (i := 15) rfl)) rfl dX11_back_22 ?_
    refine x_cVv (C := RX3) (T := TX3) (N := 3) (As := [.ref (ad (rt q0 0))]) (rest := []) G hH hA (c_X3_restore l E ad μ (rt q0 1) (rt q0 0) (kt_9_1 _ hk_q0) (kt_9_0 _ hk_q0) _ hq) (wm_36 _ (List.mem_of_getElem? (i := 4) rfl)) mi_X3_restore ms_X3_restore mn_RX3 mc_X3_restore rfl md_X3_restore ⟨rfl, rfl, Nat.le_of_ble_eq_true rfl, Nat.le_of_ble_eq_true rfl⟩ (kt_9_1 _ hk_q0) (by decide) rfl rfl hl.1 rfl (Nat.le_of_ble_eq_true rfl) dX11_back_25 ⟨Nat.zero_le _, Nat.zero_le _⟩ (fun μ2 hq H locs hH => ?_)
    refine lv_aload_n hx hb dX11_back_28 rfl (lv_at hl 0 rfl) ?_
    refine x_get (j := 1) (C := RX11) (T := TX11) (N := 8) (v := .ref (ad (rt q0 1))) G hH hk_q0 (by decide) rfl inlX11 (by decide) (wm_1 _ (List.mem_of_getElem? (i := 19) rfl)) rfl dX11_back_29 ?_
    refine x_get (j := 2) (C := RX3) (T := TX3) (N := 3) (v := .int (μ2.1 (rt q0 1) 2)) G hH (kt_9_1 _ hk_q0) (by decide) rfl inlX3 (by decide) (wm_36 _ (List.mem_of_getElem? (i := 3) rfl)) rfl dX11_back_32 ?_
    exact x_iret G hr hH hq dX11_back_35
  · have hq := hq.2 c1
    refine lv_aload_n hx hb dX11_back_10 rfl (lv_at hl 0 rfl) ?_
    refine lv_bipush (v := (-3 : Int32)) hx hb dX11_back_11 (by decide) ?_
    refine x_cVi (C := RX11) (T := TX11) (N := 8) (As := [.int (-3 : Int32)]) (rest := []) G hH hA (c_X11_refuse l E ad μ q0 (-3 : Int32) hk_q0 _ hq) (wm_7 _ (List.mem_of_getElem? (i := 23) rfl)) mi_X11_refuse ms_X11_refuse mn_RX11 mc_X11_refuse rfl md_X11_refuse ⟨rfl, rfl, Nat.le_of_ble_eq_true rfl, Nat.le_of_ble_eq_true rfl⟩ hk_q0 (by decide) rfl rfl hl.1 rfl (Nat.le_of_ble_eq_true rfl) dX11_back_13 ⟨Nat.zero_le _, Nat.zero_le _⟩ (fun r4 μ3 hq H locs hH => ?_)
    exact x_iret G hr hH hq dX11_back_16
abbrev tX0_has : List Cond := Cond.code yX0_has cX0_has 2 (some .boolean) :: wsL_law
theorem mi_X0_has : Cond.instanceMethod yX0_has ∈ wsL_law := (wm_11 _ (List.mem_of_getElem? (i := 23) rfl))
theorem ms_X0_has : Cond.selects RX0 yX0_has yX0_has ∈ wsL_law := (wm_12 _ (List.mem_of_getElem? (i := 0) rfl))
theorem mc_X0_has : Cond.code yX0_has cX0_has 2 (some .boolean) ∈ wsL_law := (wm_12 _ (List.mem_of_getElem? (i := 1) rfl))
theorem md_X0_has : yX0_has.cls ≠ "java/lang/invoke/MethodHandle" ∧ yX0_has.cls ≠ "java/lang/invoke/VarHandle" ∧ (parseMethodDescriptor yX0_has.desc).map (fun d => d.parameters.length) = some 1 := by decide +kernel
set_option maxRecDepth 100000 in
set_option maxHeartbeats 4000000 in
theorem c_X0_has (l : Launch) (E : xE) (ad : Nat → Nat) (μ : xM) (q0 : Nat) (p1 : Int32) (hk_q0 : kd q0 = 0) (Qm : Int32 → xM → Prop) (hq : p_X0_has q0 p1 μ Qm) : xMi l yX0_has tX0_has ({ frames := 1, cells := 0, slots := 0, locals := 40 } : Room) E ad μ [.ref (ad q0), .int p1] Qm := by
  refine x_sti (cc := cX0_has) (maxL := 2) (ret := (some .boolean)) (own := RX0) rfl (by decide) rfl (Nat.le_of_ble_eq_true rfl) ?_
  intro p e s m args below meth c ls G hr hA hH hl
  obtain ⟨hx, hb, hml, hown, hts, hKn, hN, hlk⟩ := id G
  have hl : lv_has ls 2 [(0, .ref (ad q0)), (1, .int p1)] := hl
  have hH : xH E ad (xA ad s.heap.size) s.heap μ s.heap [] := hH
  unfold p_X0_has at hq
  refine lv_iload_n hx hb dX0_has_0 rfl (lv_at hl 1 rfl) ?_
  refine lv_if_lt (tgt := 16) hx hb dX0_has_1 (by decide) (fun c1 => ?_) (fun c1 => ?_)
  · have hq := hq.1 c1
    refine lv_iconst (v := (0 : Int32)) hx hb dX0_has_16 (by decide) ?_
    exact x_zret G hr hH xz_0 hq dX0_has_17
  · have hq := hq.2 c1
    refine lv_iload_n hx hb dX0_has_4 rfl (lv_at hl 1 rfl) ?_
    refine lv_aload_n hx hb dX0_has_5 rfl (lv_at hl 0 rfl) ?_
    refine x_get (j := 0) (C := RX0) (T := TX0) (N := 9) (v := .int (μ.1 q0 0)) G hH hk_q0 (by decide) rfl inlX0 (by decide) (wm_3 _ (List.mem_of_getElem? (i := 3) rfl)) rfl dX0_has_6 ?_
    refine lv_icmp_ge (tgt := 16) hx hb dX0_has_9 (by decide) (fun c2 => ?_) (fun c2 => ?_)
    · have hq := hq.1 c2
      refine lv_iconst (v := (0 : Int32)) hx hb dX0_has_16 (by decide) ?_
      exact x_zret G hr hH xz_0 hq dX0_has_17
    · have hq := hq.2 c2
      refine lv_iconst (v := (1 : Int32)) hx hb dX0_has_12 (by decide) ?_
      refine lv_goto (tgt := 17) hx hb dX0_has_13 (by decide) ?_
      exact x_zret G hr hH xz_1 hq dX0_has_17
abbrev tX0_areUnlike : List Cond := Cond.code yX0_areUnlike cX0_areUnlike 3 (some .boolean) :: wsL_law
theorem mi_X0_areUnlike : Cond.instanceMethod yX0_areUnlike ∈ wsL_law := (wm_14 _ (List.mem_of_getElem? (i := 4) rfl))
theorem ms_X0_areUnlike : Cond.selects RX0 yX0_areUnlike yX0_areUnlike ∈ wsL_law := (wm_14 _ (List.mem_of_getElem? (i := 5) rfl))
theorem mc_X0_areUnlike : Cond.code yX0_areUnlike cX0_areUnlike 3 (some .boolean) ∈ wsL_law := (wm_14 _ (List.mem_of_getElem? (i := 6) rfl))
theorem md_X0_areUnlike : yX0_areUnlike.cls ≠ "java/lang/invoke/MethodHandle" ∧ yX0_areUnlike.cls ≠ "java/lang/invoke/VarHandle" ∧ (parseMethodDescriptor yX0_areUnlike.desc).map (fun d => d.parameters.length) = some 2 := by decide +kernel
set_option maxRecDepth 100000 in
set_option maxHeartbeats 4000000 in
theorem c_X0_areUnlike (l : Launch) (E : xE) (ad : Nat → Nat) (μ : xM) (q0 : Nat) (p1 : Int32) (p2 : Int32) (hk_q0 : kd q0 = 0) (Qm : Int32 → xM → Prop) (hq : p_X0_areUnlike q0 p1 p2 μ Qm) : xMi l yX0_areUnlike tX0_areUnlike ({ frames := 2, cells := 0, slots := 0, locals := 80 } : Room) E ad μ [.ref (ad q0), .int p1, .int p2] Qm := by
  refine x_sti (cc := cX0_areUnlike) (maxL := 3) (ret := (some .boolean)) (own := RX0) rfl (by decide) rfl (Nat.le_of_ble_eq_true rfl) ?_
  intro p e s m args below meth c ls G hr hA hH hl
  obtain ⟨hx, hb, hml, hown, hts, hKn, hN, hlk⟩ := id G
  have hl : lv_has ls 3 [(0, .ref (ad q0)), (1, .int p1), (2, .int p2)] := hl
  have hH : xH E ad (xA ad s.heap.size) s.heap μ s.heap [] := hH
  unfold p_X0_areUnlike at hq
  refine lv_aload_n hx hb dX0_areUnlike_0 rfl (lv_at hl 0 rfl) ?_
  refine lv_iload_n hx hb dX0_areUnlike_1 rfl (lv_at hl 1 rfl) ?_
  refine x_cVi (C := RX0) (T := TX0) (N := 9) (As := [.int p1]) (rest := []) G hH hA (c_X0_has l E ad μ q0 p1 hk_q0 _ hq) (wm_14 _ (List.mem_of_getElem? (i := 7) rfl)) mi_X0_has ms_X0_has mn_RX0 mc_X0_has rfl md_X0_has ⟨rfl, rfl, Nat.le_of_ble_eq_true rfl, Nat.le_of_ble_eq_true rfl⟩ hk_q0 (by decide) rfl rfl hl.1 rfl (Nat.le_of_ble_eq_true rfl) dX0_areUnlike_2 ⟨Nat.zero_le _, Nat.zero_le _⟩ (fun r2 μ1 hq H locs hH => ?_)
  refine lv_if_eq (tgt := 25) hx hb dX0_areUnlike_5 (by decide) (fun c3 => ?_) (fun c3 => ?_)
  · have hq := hq.1 c3
    refine lv_iconst (v := (0 : Int32)) hx hb dX0_areUnlike_25 (by decide) ?_
    exact x_zret G hr hH xz_0 hq dX0_areUnlike_26
  · have hq := hq.2 c3
    refine lv_aload_n hx hb dX0_areUnlike_8 rfl (lv_at hl 0 rfl) ?_
    refine lv_iload_n hx hb dX0_areUnlike_9 rfl (lv_at hl 2 rfl) ?_
    refine x_cVi (C := RX0) (T := TX0) (N := 9) (As := [.int p2]) (rest := []) G hH hA (c_X0_has l E ad μ1 q0 p2 hk_q0 _ hq) (wm_14 _ (List.mem_of_getElem? (i := 7) rfl)) mi_X0_has ms_X0_has mn_RX0 mc_X0_has rfl md_X0_has ⟨rfl, rfl, Nat.le_of_ble_eq_true rfl, Nat.le_of_ble_eq_true rfl⟩ hk_q0 (by decide) rfl rfl hl.1 rfl (Nat.le_of_ble_eq_true rfl) dX0_areUnlike_10 ⟨Nat.zero_le _, Nat.zero_le _⟩ (fun r5 μ4 hq H locs hH => ?_)
    refine lv_if_eq (tgt := 25) hx hb dX0_areUnlike_13 (by decide) (fun c6 => ?_) (fun c6 => ?_)
    · have hq := hq.1 c6
      refine lv_iconst (v := (0 : Int32)) hx hb dX0_areUnlike_25 (by decide) ?_
      exact x_zret G hr hH xz_0 hq dX0_areUnlike_26
    · have hq := hq.2 c6
      refine lv_iload_n hx hb dX0_areUnlike_16 rfl (lv_at hl 1 rfl) ?_
      refine lv_iload_n hx hb dX0_areUnlike_17 rfl (lv_at hl 2 rfl) ?_
      refine lv_icmp_eq (tgt := 25) hx hb dX0_areUnlike_18 (by decide) (fun c7 => ?_) (fun c7 => ?_)
      · have hq := hq.1 c7
        refine lv_iconst (v := (0 : Int32)) hx hb dX0_areUnlike_25 (by decide) ?_
        exact x_zret G hr hH xz_0 hq dX0_areUnlike_26
      · have hq := hq.2 c7
        refine lv_iconst (v := (1 : Int32)) hx hb dX0_areUnlike_21 (by decide) ?_
        refine lv_goto (tgt := 26) hx hb dX0_areUnlike_22 (by decide) ?_
        exact x_zret G hr hH xz_1 hq dX0_areUnlike_26
abbrev tX11_within : List Cond := Cond.code yX11_within cX11_within 3 (some .boolean) :: wsL_law
theorem mt_X11_within : Cond.static yX11_within ∈ wsL_law := (wm_7 _ (List.mem_of_getElem? (i := 21) rfl))
theorem mc_X11_within : Cond.code yX11_within cX11_within 3 (some .boolean) ∈ wsL_law := (wm_7 _ (List.mem_of_getElem? (i := 22) rfl))
theorem md_X11_within : yX11_within.cls ≠ "java/lang/invoke/MethodHandle" ∧ yX11_within.cls ≠ "java/lang/invoke/VarHandle" ∧ (parseMethodDescriptor yX11_within.desc).map (fun d => d.parameters.length) = some 3 := by decide +kernel
set_option maxRecDepth 100000 in
set_option maxHeartbeats 4000000 in
theorem c_X11_within (l : Launch) (E : xE) (ad : Nat → Nat) (μ : xM) (p1 : Int32) (p2 : Int32) (p3 : Int32) (Qm : Int32 → xM → Prop) (hq : p_X11_within p1 p2 p3 μ Qm) : xMi l yX11_within tX11_within ({ frames := 1, cells := 0, slots := 0, locals := 40 } : Room) E ad μ [.int p1, .int p2, .int p3] Qm := by
  refine x_sti (cc := cX11_within) (maxL := 3) (ret := (some .boolean)) (own := RX11) rfl (by decide) rfl (Nat.le_of_ble_eq_true rfl) ?_
  intro p e s m args below meth c ls G hr hA hH hl
  obtain ⟨hx, hb, hml, hown, hts, hKn, hN, hlk⟩ := id G
  have hl : lv_has ls 3 [(0, .int p1), (1, .int p2), (2, .int p3)] := hl
  have hH : xH E ad (xA ad s.heap.size) s.heap μ s.heap [] := hH
  unfold p_X11_within at hq
  refine lv_iload_n hx hb dX11_within_0 rfl (lv_at hl 0 rfl) ?_
  refine lv_iload_n hx hb dX11_within_1 rfl (lv_at hl 1 rfl) ?_
  refine lv_icmp_lt (tgt := 14) hx hb dX11_within_2 (by decide) (fun c1 => ?_) (fun c1 => ?_)
  · have hq := hq.1 c1
    refine lv_iconst (v := (0 : Int32)) hx hb dX11_within_14 (by decide) ?_
    exact x_zret G hr hH xz_0 hq dX11_within_15
  · have hq := hq.2 c1
    refine lv_iload_n hx hb dX11_within_5 rfl (lv_at hl 0 rfl) ?_
    refine lv_iload_n hx hb dX11_within_6 rfl (lv_at hl 2 rfl) ?_
    refine lv_icmp_gt (tgt := 14) hx hb dX11_within_7 (by decide) (fun c2 => ?_) (fun c2 => ?_)
    · have hq := hq.1 c2
      refine lv_iconst (v := (0 : Int32)) hx hb dX11_within_14 (by decide) ?_
      exact x_zret G hr hH xz_0 hq dX11_within_15
    · have hq := hq.2 c2
      refine lv_iconst (v := (1 : Int32)) hx hb dX11_within_10 (by decide) ?_
      refine lv_goto (tgt := 15) hx hb dX11_within_11 (by decide) ?_
      exact x_zret G hr hH xz_1 hq dX11_within_15
abbrev tX11_whyNoBehind : List Cond := Cond.code yX11_whyNoBehind cX11_whyNoBehind 4 (some .int) :: wsL_law
theorem mi_X11_whyNoBehind : Cond.instanceMethod yX11_whyNoBehind ∈ wsL_law := (wm_14 _ (List.mem_of_getElem? (i := 0) rfl))
theorem ms_X11_whyNoBehind : Cond.selects RX11 yX11_whyNoBehind yX11_whyNoBehind ∈ wsL_law := (wm_14 _ (List.mem_of_getElem? (i := 1) rfl))
theorem mc_X11_whyNoBehind : Cond.code yX11_whyNoBehind cX11_whyNoBehind 4 (some .int) ∈ wsL_law := (wm_14 _ (List.mem_of_getElem? (i := 2) rfl))
theorem md_X11_whyNoBehind : yX11_whyNoBehind.cls ≠ "java/lang/invoke/MethodHandle" ∧ yX11_whyNoBehind.cls ≠ "java/lang/invoke/VarHandle" ∧ (parseMethodDescriptor yX11_whyNoBehind.desc).map (fun d => d.parameters.length) = some 3 := by decide +kernel
set_option maxRecDepth 100000 in
set_option maxHeartbeats 4000000 in
theorem c_X11_whyNoBehind (l : Launch) (E : xE) (ad : Nat → Nat) (μ : xM) (q0 : Nat) (p1 : Int32) (p2 : Int32) (p3 : Int32) (hk_q0 : kd q0 = 9) (Qm : Int32 → xM → Prop) (hq : p_X11_whyNoBehind q0 p1 p2 p3 μ Qm) : xMi l yX11_whyNoBehind tX11_whyNoBehind ({ frames := 3, cells := 0, slots := 0, locals := 120 } : Room) E ad μ [.ref (ad q0), .int p1, .int p2, .int p3] Qm := by
  refine x_sti (cc := cX11_whyNoBehind) (maxL := 4) (ret := (some .int)) (own := RX11) rfl (by decide) rfl (Nat.le_of_ble_eq_true rfl) ?_
  intro p e s m args below meth c ls G hr hA hH hl
  obtain ⟨hx, hb, hml, hown, hts, hKn, hN, hlk⟩ := id G
  have hl : lv_has ls 4 [(0, .ref (ad q0)), (1, .int p1), (2, .int p2), (3, .int p3)] := hl
  have hH : xH E ad (xA ad s.heap.size) s.heap μ s.heap [] := hH
  unfold p_X11_whyNoBehind at hq
  refine lv_aload_n hx hb dX11_whyNoBehind_0 rfl (lv_at hl 0 rfl) ?_
  refine x_get (j := 0) (C := RX11) (T := TX11) (N := 8) (v := .ref (ad (rt q0 0))) G hH hk_q0 (by decide) rfl inlX11 (by decide) (wm_1 _ (List.mem_of_getElem? (i := 15) rfl)) rfl dX11_whyNoBehind_1 ?_
  refine x_get (j := 0) (C := RX9) (T := TX9) (N := 3) (v := .ref (ad (rt (rt q0 0) 0))) G hH (kt_9_0 _ hk_q0) (by decide) rfl inlX9 (by decide) (wm_1 _ (List.mem_of_getElem? (i := 23) rfl)) rfl dX11_whyNoBehind_4 ?_
  refine lv_iload_n hx hb dX11_whyNoBehind_7 rfl (lv_at hl 1 rfl) ?_
  refine lv_iload_n hx hb dX11_whyNoBehind_8 rfl (lv_at hl 2 rfl) ?_
  refine x_cVi (C := RX0) (T := TX0) (N := 9) (As := [.int p1, .int p2]) (rest := []) G hH hA (c_X0_areUnlike l E ad μ (rt (rt q0 0) 0) p1 p2 (kt_7_0 _ (kt_9_0 _ hk_q0)) _ hq) (wm_14 _ (List.mem_of_getElem? (i := 3) rfl)) mi_X0_areUnlike ms_X0_areUnlike mn_RX0 mc_X0_areUnlike rfl md_X0_areUnlike ⟨rfl, rfl, Nat.le_of_ble_eq_true rfl, Nat.le_of_ble_eq_true rfl⟩ (kt_7_0 _ (kt_9_0 _ hk_q0)) (by decide) rfl rfl hl.1 rfl (Nat.le_of_ble_eq_true rfl) dX11_whyNoBehind_9 ⟨Nat.zero_le _, Nat.zero_le _⟩ (fun r2 μ1 hq H locs hH => ?_)
  refine lv_if_eq (tgt := 28) hx hb dX11_whyNoBehind_12 (by decide) (fun c3 => ?_) (fun c3 => ?_)
  · have hq := hq.1 c3
    refine lv_bipush (v := (-2 : Int32)) hx hb dX11_whyNoBehind_28 (by decide) ?_
    exact x_iret G hr hH hq dX11_whyNoBehind_30
  · have hq := hq.2 c3
    refine lv_iload_n hx hb dX11_whyNoBehind_15 rfl (lv_at hl 3 rfl) ?_
    refine lv_iconst (v := (0 : Int32)) hx hb dX11_whyNoBehind_16 (by decide) ?_
    refine lv_iconst (v := (1 : Int32)) hx hb dX11_whyNoBehind_17 (by decide) ?_
    refine x_cSi (As := [.int p3, .int (0 : Int32), .int (1 : Int32)]) (rest := []) G hH hA (c_X11_within l E ad μ1 p3 (0 : Int32) (1 : Int32)  _ hq) (wm_7 _ (List.mem_of_getElem? (i := 20) rfl)) mt_X11_within mn_RX11 mc_X11_within md_X11_within ⟨rfl, rfl, Nat.le_of_ble_eq_true rfl, Nat.le_of_ble_eq_true rfl⟩ rfl hl.1 rfl (Nat.le_of_ble_eq_true rfl) dX11_whyNoBehind_18 ⟨Nat.zero_le _, Nat.zero_le _⟩ (fun r5 μ4 hq H locs hH => ?_)
    refine lv_if_eq (tgt := 28) hx hb dX11_whyNoBehind_21 (by decide) (fun c6 => ?_) (fun c6 => ?_)
    · have hq := hq.1 c6
      refine lv_bipush (v := (-2 : Int32)) hx hb dX11_whyNoBehind_28 (by decide) ?_
      exact x_iret G hr hH hq dX11_whyNoBehind_30
    · have hq := hq.2 c6
      refine lv_iconst (v := (0 : Int32)) hx hb dX11_whyNoBehind_24 (by decide) ?_
      refine lv_goto (tgt := 30) hx hb dX11_whyNoBehind_25 (by decide) ?_
      exact x_iret G hr hH hq dX11_whyNoBehind_30
abbrev tX3_keep : List Cond := Cond.code yX3_keep cX3_keep 3 none :: wsL_law
theorem mi_X3_keep : Cond.instanceMethod yX3_keep ∈ wsL_law := (wm_8 _ (List.mem_of_getElem? (i := 4) rfl))
theorem ms_X3_keep : Cond.selects RX3 yX3_keep yX3_keep ∈ wsL_law := (wm_8 _ (List.mem_of_getElem? (i := 5) rfl))
theorem mc_X3_keep : Cond.code yX3_keep cX3_keep 3 none ∈ wsL_law := (wm_8 _ (List.mem_of_getElem? (i := 6) rfl))
theorem md_X3_keep : yX3_keep.cls ≠ "java/lang/invoke/MethodHandle" ∧ yX3_keep.cls ≠ "java/lang/invoke/VarHandle" ∧ (parseMethodDescriptor yX3_keep.desc).map (fun d => d.parameters.length) = some 1 := by decide +kernel
set_option maxRecDepth 100000 in
set_option maxHeartbeats 4000000 in
theorem c_X3_keep (l : Launch) (E : xE) (ad : Nat → Nat) (μ : xM) (q0 : Nat) (q1 : Nat) (hk_q0 : kd q0 = 2) (hk_q1 : kd q1 = 7) (Qm : xM → Prop) (hq : p_X3_keep q0 q1 μ Qm) : xMv l yX3_keep tX3_keep ({ frames := 5, cells := 0, slots := 0, locals := 200 } : Room) E ad μ [.ref (ad q0), .ref (ad q1)] Qm := by
  refine x_stv (cc := cX3_keep) (maxL := 3) (ret := none) (own := RX3) rfl (by decide) rfl (Nat.le_of_ble_eq_true rfl) ?_
  intro p e s m args below meth c ls G hr hA hH hl
  obtain ⟨hx, hb, hml, hown, hts, hKn, hN, hlk⟩ := id G
  have hl : lv_has ls 3 [(0, .ref (ad q0)), (1, .ref (ad q1))] := hl
  have hH : xH E ad (xA ad s.heap.size) s.heap μ s.heap [] := hH
  unfold p_X3_keep at hq
  refine lv_aload_n hx hb dX3_keep_0 rfl (lv_at hl 0 rfl) ?_
  refine lv_aload_n hx hb dX3_keep_1 rfl (lv_at hl 0 rfl) ?_
  refine x_get (j := 1) (C := RX3) (T := TX3) (N := 3) (v := .int (μ.1 q0 1)) G hH hk_q0 (by decide) rfl inlX3 (by decide) (wm_4 _ (List.mem_of_getElem? (i := 14) rfl)) rfl dX3_keep_2 ?_
  refine x_cVq (C := RX3) (T := TX3) (N := 3) (As := [.int (μ.1 q0 1)]) (rest := []) G hH hA (c_X3_keptAt l E ad μ q0 (μ.1 q0 1) hk_q0 _ hq) (wm_8 _ (List.mem_of_getElem? (i := 11) rfl)) mi_X3_keptAt ms_X3_keptAt mn_RX3 mc_X3_keptAt rfl md_X3_keptAt ⟨rfl, rfl, Nat.le_of_ble_eq_true rfl, Nat.le_of_ble_eq_true rfl⟩ hk_q0 (by decide) rfl rfl hl.1 rfl (Nat.le_of_ble_eq_true rfl) dX3_keep_5 ⟨Nat.zero_le _, Nat.zero_le _⟩ (fun o2 μ1 hq H locs hH => ?_)
  rcases o2 with _ | q3
  · have hq := hq.1 rfl
    refine lv_astore_nN (lv' := [(2, .null), (0, .ref (ad q0)), (1, .ref (ad q1))]) hx hb dX3_keep_8 rfl hl (by decide) rfl (fun ls hl => ?_)
    refine lv_aload_nN hx hb dX3_keep_9 rfl (lv_at hl 0 rfl) ?_
    refine lv_ifnonnullN hx hb dX3_keep_10 ?_
    exact x_vret G hr hH hq dX3_keep_13
  · obtain ⟨hk_q3, hq⟩ := hq.2 q3 rfl
    refine lv_astore_n (lv' := [(2, .ref (ad q3)), (0, .ref (ad q0)), (1, .ref (ad q1))]) hx hb dX3_keep_8 rfl hl (by decide) rfl (fun ls hl => ?_)
    refine lv_aload_n hx hb dX3_keep_9 rfl (lv_at hl 0 rfl) ?_
    refine lv_ifnonnull (tgt := 14) hx hb dX3_keep_10 (by decide) ?_
    refine lv_aload_n hx hb dX3_keep_14 rfl (lv_at hl 0 rfl) ?_
    refine lv_aload_n hx hb dX3_keep_15 rfl (lv_at hl 2 rfl) ?_
    refine x_cVv (C := RX9) (T := TX9) (N := 3) (As := [.ref (ad q1)]) (rest := []) G hH hA (c_X9_copyFrom l E ad μ1 q3 q1 hk_q3 hk_q1 _ hq) (wm_8 _ (List.mem_of_getElem? (i := 15) rfl)) mi_X9_copyFrom ms_X9_copyFrom mn_RX9 mc_X9_copyFrom rfl md_X9_copyFrom ⟨rfl, rfl, Nat.le_of_ble_eq_true rfl, Nat.le_of_ble_eq_true rfl⟩ hk_q3 (by decide) rfl rfl hl.1 rfl (Nat.le_of_ble_eq_true rfl) dX3_keep_16 ⟨Nat.zero_le _, Nat.zero_le _⟩ (fun μ4 hq H locs hH => ?_)
    refine lv_aload_n hx hb dX3_keep_19 rfl (lv_at hl 1 rfl) ?_
    refine lv_aload_n hx hb dX3_keep_20 rfl (lv_at hl 1 rfl) ?_
    refine x_get (j := 1) (C := RX3) (T := TX3) (N := 3) (v := .int (μ4.1 q0 1)) G hH hk_q0 (by decide) rfl inlX3 (by decide) (wm_4 _ (List.mem_of_getElem? (i := 14) rfl)) rfl dX3_keep_21 ?_
    refine lv_iconst (v := (1 : Int32)) hx hb dX3_keep_24 (by decide) ?_
    refine lv_iadd hx hb dX3_keep_25 ?_
    refine lv_iconst (v := (5 : Int32)) hx hb dX3_keep_26 (by decide) ?_
    refine lv_irem hx hb dX3_keep_27 (by decide) ?_
    refine x_puti (j := 1) (C := RX3) (T := TX3) (N := 3) (ty := .int) G hH hk_q0 (by decide) rfl inlX3 tyX3 tyX3_ok nmX3 (by decide) (wm_4 _ (List.mem_of_getElem? (i := 14) rfl)) rfl (by decide +kernel) rfl rfl (fun _ _ => Nat.le_of_ble_eq_true rfl) (fun _ _ => rfl) dX3_keep_28 (fun μ5 e_μ5 H locs hH => ?_)
    have hq := hq μ5 e_μ5
    refine lv_aload_n hx hb dX3_keep_31 rfl (lv_at hl 1 rfl) ?_
    refine lv_aload_n hx hb dX3_keep_32 rfl (lv_at hl 1 rfl) ?_
    refine x_get (j := 2) (C := RX3) (T := TX3) (N := 3) (v := .int (μ5.1 q0 2)) G hH hk_q0 (by decide) rfl inlX3 (by decide) (wm_4 _ (List.mem_of_getElem? (i := 15) rfl)) rfl dX3_keep_33 ?_
    refine lv_iconst (v := (1 : Int32)) hx hb dX3_keep_36 (by decide) ?_
    refine lv_iadd hx hb dX3_keep_37 ?_
    refine lv_iconst (v := (5 : Int32)) hx hb dX3_keep_38 (by decide) ?_
    refine va_mmin hx hb (by rw [hml]; exact hl.1.symm) hown (hts _ (wm_8 _ (List.mem_of_getElem? (i := 7) rfl))) (hts _ (wm_8 _ (List.mem_of_getElem? (i := 8) rfl))) (hts _ (wm_8 _ (List.mem_of_getElem? (i := 9) rfl))) (hts _ (wm_8 _ (List.mem_of_getElem? (i := 10) rfl))) (Nat.le_of_ble_eq_true rfl) (Nat.le_of_ble_eq_true rfl) (Nat.zero_le _) (Nat.zero_le _) dX3_keep_39 ?_
    refine x_puti (j := 2) (C := RX3) (T := TX3) (N := 3) (ty := .int) G hH hk_q0 (by decide) rfl inlX3 tyX3 tyX3_ok nmX3 (by decide) (wm_4 _ (List.mem_of_getElem? (i := 15) rfl)) rfl (by decide +kernel) rfl rfl (fun _ _ => Nat.le_of_ble_eq_true rfl) (fun _ _ => rfl) dX3_keep_42 (fun μ6 e_μ6 H locs hH => ?_)
    have hq := hq μ6 e_μ6
    exact x_vret G hr hH hq dX3_keep_45
abbrev tX5_at : List Cond := Cond.code yX5_at cX5_at 2 (some .int) :: wsL_law
theorem mt_X5_at : Cond.static yX5_at ∈ wsL_law := (wm_10 _ (List.mem_of_getElem? (i := 4) rfl))
theorem mc_X5_at : Cond.code yX5_at cX5_at 2 (some .int) ∈ wsL_law := (wm_10 _ (List.mem_of_getElem? (i := 5) rfl))
theorem md_X5_at : yX5_at.cls ≠ "java/lang/invoke/MethodHandle" ∧ yX5_at.cls ≠ "java/lang/invoke/VarHandle" ∧ (parseMethodDescriptor yX5_at.desc).map (fun d => d.parameters.length) = some 2 := by decide +kernel
set_option maxRecDepth 100000 in
set_option maxHeartbeats 4000000 in
theorem c_X5_at (l : Launch) (E : xE) (ad : Nat → Nat) (μ : xM) (q1 : Nat) (p2 : Int32) (hk_q1 : kd q1 = 11) (Qm : Int32 → xM → Prop) (hq : p_X5_at q1 p2 μ Qm) : xMi l yX5_at tX5_at ({ frames := 1, cells := 0, slots := 0, locals := 40 } : Room) E ad μ [.ref (ad q1), .int p2] Qm := by
  refine x_sti (cc := cX5_at) (maxL := 2) (ret := (some .int)) (own := RX5) rfl (by decide) rfl (Nat.le_of_ble_eq_true rfl) ?_
  intro p e s m args below meth c ls G hr hA hH hl
  obtain ⟨hx, hb, hml, hown, hts, hKn, hN, hlk⟩ := id G
  have hl : lv_has ls 2 [(0, .ref (ad q1)), (1, .int p2)] := hl
  have hH : xH E ad (xA ad s.heap.size) s.heap μ s.heap [] := hH
  unfold p_X5_at at hq
  refine lv_iload_n hx hb dX5_at_0 rfl (lv_at hl 1 rfl) ?_
  refine lv_if_lt (tgt := 16) hx hb dX5_at_1 (by decide) (fun c1 => ?_) (fun c1 => ?_)
  · have hq := hq.1 c1
    refine lv_iconst (v := (0 : Int32)) hx hb dX5_at_16 (by decide) ?_
    exact x_iret G hr hH hq dX5_at_17
  · have hq := hq.2 c1
    refine lv_iload_n hx hb dX5_at_4 rfl (lv_at hl 1 rfl) ?_
    refine lv_aload_n hx hb dX5_at_5 rfl (lv_at hl 0 rfl) ?_
    refine x_alen G hH hk_q1 rfl dX5_at_6 ?_
    refine lv_icmp_ge (tgt := 16) hx hb dX5_at_7 (by decide) (fun c2 => ?_) (fun c2 => ?_)
    · have hq := hq.1 c2
      refine lv_iconst (v := (0 : Int32)) hx hb dX5_at_16 (by decide) ?_
      exact x_iret G hr hH hq dX5_at_17
    · have hq := hq.2 c2
      refine lv_aload_n hx hb dX5_at_10 rfl (lv_at hl 0 rfl) ?_
      refine lv_iload_n hx hb dX5_at_11 rfl (lv_at hl 1 rfl) ?_
      refine x_iald G hH hk_q1 hq.1 dX5_at_12 ?_
      have hq := hq.2
      refine lv_goto (tgt := 17) hx hb dX5_at_13 (by decide) ?_
      exact x_iret G hr hH hq dX5_at_17
abbrev tX5_put : List Cond := Cond.code yX5_put cX5_put 3 none :: wsL_law
theorem mt_X5_put : Cond.static yX5_put ∈ wsL_law := (wm_9 _ (List.mem_of_getElem? (i := 21) rfl))
theorem mc_X5_put : Cond.code yX5_put cX5_put 3 none ∈ wsL_law := (wm_9 _ (List.mem_of_getElem? (i := 22) rfl))
theorem md_X5_put : yX5_put.cls ≠ "java/lang/invoke/MethodHandle" ∧ yX5_put.cls ≠ "java/lang/invoke/VarHandle" ∧ (parseMethodDescriptor yX5_put.desc).map (fun d => d.parameters.length) = some 3 := by decide +kernel
set_option maxRecDepth 100000 in
set_option maxHeartbeats 4000000 in
theorem c_X5_put (l : Launch) (E : xE) (ad : Nat → Nat) (μ : xM) (q1 : Nat) (p2 : Int32) (p3 : Int32) (hk_q1 : kd q1 = 11) (Qm : xM → Prop) (hq : p_X5_put q1 p2 p3 μ Qm) : xMv l yX5_put tX5_put ({ frames := 1, cells := 0, slots := 0, locals := 40 } : Room) E ad μ [.ref (ad q1), .int p2, .int p3] Qm := by
  refine x_stv (cc := cX5_put) (maxL := 3) (ret := none) (own := RX5) rfl (by decide) rfl (Nat.le_of_ble_eq_true rfl) ?_
  intro p e s m args below meth c ls G hr hA hH hl
  obtain ⟨hx, hb, hml, hown, hts, hKn, hN, hlk⟩ := id G
  have hl : lv_has ls 3 [(0, .ref (ad q1)), (1, .int p2), (2, .int p3)] := hl
  have hH : xH E ad (xA ad s.heap.size) s.heap μ s.heap [] := hH
  unfold p_X5_put at hq
  refine lv_iload_n hx hb dX5_put_0 rfl (lv_at hl 1 rfl) ?_
  refine lv_if_lt (tgt := 14) hx hb dX5_put_1 (by decide) (fun c1 => ?_) (fun c1 => ?_)
  · have hq := hq.1 c1
    exact x_vret G hr hH hq dX5_put_14
  · have hq := hq.2 c1
    refine lv_iload_n hx hb dX5_put_4 rfl (lv_at hl 1 rfl) ?_
    refine lv_aload_n hx hb dX5_put_5 rfl (lv_at hl 0 rfl) ?_
    refine x_alen G hH hk_q1 rfl dX5_put_6 ?_
    refine lv_icmp_ge (tgt := 14) hx hb dX5_put_7 (by decide) (fun c2 => ?_) (fun c2 => ?_)
    · have hq := hq.1 c2
      exact x_vret G hr hH hq dX5_put_14
    · have hq := hq.2 c2
      refine lv_aload_n hx hb dX5_put_10 rfl (lv_at hl 0 rfl) ?_
      refine lv_iload_n hx hb dX5_put_11 rfl (lv_at hl 1 rfl) ?_
      refine lv_iload_n hx hb dX5_put_12 rfl (lv_at hl 2 rfl) ?_
      refine x_iast G hH hk_q1 hq.1 dX5_put_13 (fun μ3 e_μ3 H locs hH => ?_)
      have hq := hq.2 μ3 e_μ3
      exact x_vret G hr hH hq dX5_put_14
abbrev tX0_tellBehind : List Cond := Cond.code yX0_tellBehind cX0_tellBehind 5 (some .int) :: wsL_law
theorem mi_X0_tellBehind : Cond.instanceMethod yX0_tellBehind ∈ wsL_law := (wm_14 _ (List.mem_of_getElem? (i := 9) rfl))
theorem ms_X0_tellBehind : Cond.selects RX0 yX0_tellBehind yX0_tellBehind ∈ wsL_law := (wm_14 _ (List.mem_of_getElem? (i := 10) rfl))
theorem mc_X0_tellBehind : Cond.code yX0_tellBehind cX0_tellBehind 5 (some .int) ∈ wsL_law := (wm_14 _ (List.mem_of_getElem? (i := 11) rfl))
theorem md_X0_tellBehind : yX0_tellBehind.cls ≠ "java/lang/invoke/MethodHandle" ∧ yX0_tellBehind.cls ≠ "java/lang/invoke/VarHandle" ∧ (parseMethodDescriptor yX0_tellBehind.desc).map (fun d => d.parameters.length) = some 3 := by decide +kernel
set_option maxRecDepth 100000 in
set_option maxHeartbeats 4000000 in
theorem c_X0_tellBehind (l : Launch) (E : xE) (ad : Nat → Nat) (μ : xM) (q0 : Nat) (p1 : Int32) (p2 : Int32) (p3 : Int32) (hk_q0 : kd q0 = 0) (Qm : Int32 → xM → Prop) (hq : p_X0_tellBehind q0 p1 p2 p3 μ Qm) : xMi l yX0_tellBehind tX0_tellBehind ({ frames := 2, cells := 0, slots := 0, locals := 80 } : Room) E ad μ [.ref (ad q0), .int p1, .int p2, .int p3] Qm := by
  refine x_sti (cc := cX0_tellBehind) (maxL := 5) (ret := (some .int)) (own := RX0) rfl (by decide) rfl (Nat.le_of_ble_eq_true rfl) ?_
  intro p e s m args below meth c ls G hr hA hH hl
  obtain ⟨hx, hb, hml, hown, hts, hKn, hN, hlk⟩ := id G
  have hl : lv_has ls 5 [(0, .ref (ad q0)), (1, .int p1), (2, .int p2), (3, .int p3)] := hl
  have hH : xH E ad (xA ad s.heap.size) s.heap μ s.heap [] := hH
  unfold p_X0_tellBehind at hq
  refine lv_aload_n hx hb dX0_tellBehind_0 rfl (lv_at hl 0 rfl) ?_
  refine x_get (j := 8) (C := RX0) (T := TX0) (N := 9) (v := .ref (ad (rt q0 8))) G hH hk_q0 (by decide) rfl inlX0 (by decide) (wm_3 _ (List.mem_of_getElem? (i := 12) rfl)) rfl dX0_tellBehind_1 ?_
  refine lv_iload_n hx hb dX0_tellBehind_4 rfl (lv_at hl 1 rfl) ?_
  refine x_cSi (As := [.ref (ad (rt q0 8)), .int p1]) (rest := []) G hH hA (c_X5_at l E ad μ (rt q0 8) p1 (kt_0_8 _ hk_q0) _ hq) (wm_10 _ (List.mem_of_getElem? (i := 3) rfl)) mt_X5_at mn_RX5 mc_X5_at md_X5_at ⟨rfl, rfl, Nat.le_of_ble_eq_true rfl, Nat.le_of_ble_eq_true rfl⟩ rfl hl.1 rfl (Nat.le_of_ble_eq_true rfl) dX0_tellBehind_5 ⟨Nat.zero_le _, Nat.zero_le _⟩ (fun r2 μ1 hq H locs hH => ?_)
  refine lv_istore (lv' := [(4, .int r2), (0, .ref (ad q0)), (1, .int p1), (2, .int p2), (3, .int p3)]) hx hb dX0_tellBehind_8 hl (by decide) rfl (fun ls hl => ?_)
  refine lv_aload_n hx hb dX0_tellBehind_10 rfl (lv_at hl 1 rfl) ?_
  refine x_get (j := 8) (C := RX0) (T := TX0) (N := 9) (v := .ref (ad (rt q0 8))) G hH hk_q0 (by decide) rfl inlX0 (by decide) (wm_3 _ (List.mem_of_getElem? (i := 12) rfl)) rfl dX0_tellBehind_11 ?_
  refine lv_iload_n hx hb dX0_tellBehind_14 rfl (lv_at hl 2 rfl) ?_
  refine lv_iload hx hb dX0_tellBehind_15 (lv_at hl 0 rfl) ?_
  refine lv_iconst (v := (1 : Int32)) hx hb dX0_tellBehind_17 (by decide) ?_
  refine lv_iload_n hx hb dX0_tellBehind_18 rfl (lv_at hl 3 rfl) ?_
  refine lv_ishl hx hb dX0_tellBehind_19 ?_
  refine lv_iconst (v := (-1 : Int32)) hx hb dX0_tellBehind_20 (by decide) ?_
  refine lv_ixor hx hb dX0_tellBehind_21 ?_
  refine lv_iand hx hb dX0_tellBehind_22 ?_
  refine lv_iload_n hx hb dX0_tellBehind_23 rfl (lv_at hl 4 rfl) ?_
  refine lv_iload_n hx hb dX0_tellBehind_24 rfl (lv_at hl 3 rfl) ?_
  refine lv_ishl hx hb dX0_tellBehind_25 ?_
  refine lv_ior hx hb dX0_tellBehind_26 ?_
  refine x_cSv (As := [.ref (ad (rt q0 8)), .int p1, .int ((r2 &&& (((1 : Int32) <<< (p2 &&& 31)) ^^^ (-1 : Int32))) ||| (p3 <<< (p2 &&& 31)))]) (rest := []) G hH hA (c_X5_put l E ad μ1 (rt q0 8) p1 ((r2 &&& (((1 : Int32) <<< (p2 &&& 31)) ^^^ (-1 : Int32))) ||| (p3 <<< (p2 &&& 31))) (kt_0_8 _ hk_q0) _ hq) (wm_9 _ (List.mem_of_getElem? (i := 20) rfl)) mt_X5_put mn_RX5 mc_X5_put md_X5_put ⟨rfl, rfl, Nat.le_of_ble_eq_true rfl, Nat.le_of_ble_eq_true rfl⟩ rfl hl.1 rfl (Nat.le_of_ble_eq_true rfl) dX0_tellBehind_27 ⟨Nat.zero_le _, Nat.zero_le _⟩ (fun μ3 hq H locs hH => ?_)
  refine lv_iload hx hb dX0_tellBehind_30 (lv_at hl 0 rfl) ?_
  refine lv_iload_n hx hb dX0_tellBehind_32 rfl (lv_at hl 3 rfl) ?_
  refine lv_iushr (v := (uS r2 p2)) hx hb dX0_tellBehind_33 rfl ?_
  refine lv_iconst (v := (1 : Int32)) hx hb dX0_tellBehind_34 (by decide) ?_
  refine lv_iand hx hb dX0_tellBehind_35 ?_
  exact x_iret G hr hH hq dX0_tellBehind_36
abbrev tX11_behind : List Cond := Cond.code yX11_behind cX11_behind 5 (some .int) :: wsL_law
theorem mi_X11_behind : Cond.instanceMethod yX11_behind ∈ wsL_law := (wm_13 _ (List.mem_of_getElem? (i := 20) rfl))
theorem ms_X11_behind : Cond.selects RX11 yX11_behind yX11_behind ∈ wsL_law := (wm_13 _ (List.mem_of_getElem? (i := 21) rfl))
theorem mc_X11_behind : Cond.code yX11_behind cX11_behind 5 (some .int) ∈ wsL_law := (wm_13 _ (List.mem_of_getElem? (i := 22) rfl))
theorem md_X11_behind : yX11_behind.cls ≠ "java/lang/invoke/MethodHandle" ∧ yX11_behind.cls ≠ "java/lang/invoke/VarHandle" ∧ (parseMethodDescriptor yX11_behind.desc).map (fun d => d.parameters.length) = some 3 := by decide +kernel
set_option maxRecDepth 100000 in
set_option maxHeartbeats 4000000 in
theorem c_X11_behind (l : Launch) (E : xE) (ad : Nat → Nat) (μ : xM) (q0 : Nat) (p1 : Int32) (p2 : Int32) (p3 : Int32) (hk_q0 : kd q0 = 9) (Qm : Int32 → xM → Prop) (hq : p_X11_behind q0 p1 p2 p3 μ Qm) : xMi l yX11_behind tX11_behind ({ frames := 6, cells := 0, slots := 0, locals := 240 } : Room) E ad μ [.ref (ad q0), .int p1, .int p2, .int p3] Qm := by
  refine x_sti (cc := cX11_behind) (maxL := 5) (ret := (some .int)) (own := RX11) rfl (by decide) rfl (Nat.le_of_ble_eq_true rfl) ?_
  intro p e s m args below meth c ls G hr hA hH hl
  obtain ⟨hx, hb, hml, hown, hts, hKn, hN, hlk⟩ := id G
  have hl : lv_has ls 5 [(0, .ref (ad q0)), (1, .int p1), (2, .int p2), (3, .int p3)] := hl
  have hH : xH E ad (xA ad s.heap.size) s.heap μ s.heap [] := hH
  unfold p_X11_behind at hq
  refine lv_aload_n hx hb dX11_behind_0 rfl (lv_at hl 0 rfl) ?_
  refine lv_iload_n hx hb dX11_behind_1 rfl (lv_at hl 1 rfl) ?_
  refine lv_iload_n hx hb dX11_behind_2 rfl (lv_at hl 2 rfl) ?_
  refine lv_iload_n hx hb dX11_behind_3 rfl (lv_at hl 3 rfl) ?_
  refine x_cVi (C := RX11) (T := TX11) (N := 8) (As := [.int p1, .int p2, .int p3]) (rest := []) G hH hA (c_X11_whyNoBehind l E ad μ q0 p1 p2 p3 hk_q0 _ hq) (wm_13 _ (List.mem_of_getElem? (i := 23) rfl)) mi_X11_whyNoBehind ms_X11_whyNoBehind mn_RX11 mc_X11_whyNoBehind rfl md_X11_whyNoBehind ⟨rfl, rfl, Nat.le_of_ble_eq_true rfl, Nat.le_of_ble_eq_true rfl⟩ hk_q0 (by decide) rfl rfl hl.1 rfl (Nat.le_of_ble_eq_true rfl) dX11_behind_4 ⟨Nat.zero_le _, Nat.zero_le _⟩ (fun r2 μ1 hq H locs hH => ?_)
  refine lv_istore (lv' := [(4, .int r2), (0, .ref (ad q0)), (1, .int p1), (2, .int p2), (3, .int p3)]) hx hb dX11_behind_7 hl (by decide) rfl (fun ls hl => ?_)
  refine lv_iload hx hb dX11_behind_9 (lv_at hl 0 rfl) ?_
  refine lv_if_eq (tgt := 21) hx hb dX11_behind_11 (by decide) (fun c3 => ?_) (fun c3 => ?_)
  · have hq := hq.1 c3
    refine lv_aload_n hx hb dX11_behind_21 rfl (lv_at hl 1 rfl) ?_
    refine x_get (j := 1) (C := RX11) (T := TX11) (N := 8) (v := .ref (ad (rt q0 1))) G hH hk_q0 (by decide) rfl inlX11 (by decide) (wm_1 _ (List.mem_of_getElem? (i := 19) rfl)) rfl dX11_behind_22 ?_
    refine lv_aload_n hx hb dX11_behind_25 rfl (lv_at hl 1 rfl) ?_
    refine x_get (j := 0) (C := RX11) (T := TX11) (N := 8) (v := .ref (ad (rt q0 0))) G hH hk_q0 (by decide) rfl inlX11 (by decide) (wm_1 _ (List.mem_of_getElem? (i := 15) rfl)) rfl dX11_behind_26 ?_
    refine x_cVv (C := RX3) (T := TX3) (N := 3) (As := [.ref (ad (rt q0 0))]) (rest := []) G hH hA (c_X3_keep l E ad μ1 (rt q0 1) (rt q0 0) (kt_9_1 _ hk_q0) (kt_9_0 _ hk_q0) _ hq) (wm_8 _ (List.mem_of_getElem? (i := 3) rfl)) mi_X3_keep ms_X3_keep mn_RX3 mc_X3_keep rfl md_X3_keep ⟨rfl, rfl, Nat.le_of_ble_eq_true rfl, Nat.le_of_ble_eq_true rfl⟩ (kt_9_1 _ hk_q0) (by decide) rfl rfl hl.1 rfl (Nat.le_of_ble_eq_true rfl) dX11_behind_29 ⟨Nat.zero_le _, Nat.zero_le _⟩ (fun μ4 hq H locs hH => ?_)
    refine lv_aload_n hx hb dX11_behind_32 rfl (lv_at hl 1 rfl) ?_
    refine x_get (j := 0) (C := RX11) (T := TX11) (N := 8) (v := .ref (ad (rt q0 0))) G hH hk_q0 (by decide) rfl inlX11 (by decide) (wm_1 _ (List.mem_of_getElem? (i := 15) rfl)) rfl dX11_behind_33 ?_
    refine x_get (j := 0) (C := RX9) (T := TX9) (N := 3) (v := .ref (ad (rt (rt q0 0) 0))) G hH (kt_9_0 _ hk_q0) (by decide) rfl inlX9 (by decide) (wm_1 _ (List.mem_of_getElem? (i := 23) rfl)) rfl dX11_behind_36 ?_
    refine lv_iload_n hx hb dX11_behind_39 rfl (lv_at hl 2 rfl) ?_
    refine lv_iload_n hx hb dX11_behind_40 rfl (lv_at hl 3 rfl) ?_
    refine lv_iload_n hx hb dX11_behind_41 rfl (lv_at hl 4 rfl) ?_
    refine x_cVi (C := RX0) (T := TX0) (N := 9) (As := [.int p1, .int p2, .int p3]) (rest := []) G hH hA (c_X0_tellBehind l E ad μ4 (rt (rt q0 0) 0) p1 p2 p3 (kt_7_0 _ (kt_9_0 _ hk_q0)) _ hq) (wm_14 _ (List.mem_of_getElem? (i := 8) rfl)) mi_X0_tellBehind ms_X0_tellBehind mn_RX0 mc_X0_tellBehind rfl md_X0_tellBehind ⟨rfl, rfl, Nat.le_of_ble_eq_true rfl, Nat.le_of_ble_eq_true rfl⟩ (kt_7_0 _ (kt_9_0 _ hk_q0)) (by decide) rfl rfl hl.1 rfl (Nat.le_of_ble_eq_true rfl) dX11_behind_42 ⟨Nat.zero_le _, Nat.zero_le _⟩ (fun r6 μ5 hq H locs hH => ?_)
    exact x_iret G hr hH hq dX11_behind_45
  · have hq := hq.2 c3
    refine lv_aload_n hx hb dX11_behind_14 rfl (lv_at hl 1 rfl) ?_
    refine lv_iload hx hb dX11_behind_15 (lv_at hl 0 rfl) ?_
    refine x_cVi (C := RX11) (T := TX11) (N := 8) (As := [.int r2]) (rest := []) G hH hA (c_X11_refuse l E ad μ1 q0 r2 hk_q0 _ hq) (wm_7 _ (List.mem_of_getElem? (i := 23) rfl)) mi_X11_refuse ms_X11_refuse mn_RX11 mc_X11_refuse rfl md_X11_refuse ⟨rfl, rfl, Nat.le_of_ble_eq_true rfl, Nat.le_of_ble_eq_true rfl⟩ hk_q0 (by decide) rfl rfl hl.1 rfl (Nat.le_of_ble_eq_true rfl) dX11_behind_17 ⟨Nat.zero_le _, Nat.zero_le _⟩ (fun r8 μ7 hq H locs hH => ?_)
    exact x_iret G hr hH hq dX11_behind_20
abbrev tX11_whyNoBlock : List Cond := Cond.code yX11_whyNoBlock cX11_whyNoBlock 5 (some .int) :: wsL_law
theorem mi_X11_whyNoBlock : Cond.instanceMethod yX11_whyNoBlock ∈ wsL_law := (wm_7 _ (List.mem_of_getElem? (i := 15) rfl))
theorem ms_X11_whyNoBlock : Cond.selects RX11 yX11_whyNoBlock yX11_whyNoBlock ∈ wsL_law := (wm_7 _ (List.mem_of_getElem? (i := 16) rfl))
theorem mc_X11_whyNoBlock : Cond.code yX11_whyNoBlock cX11_whyNoBlock 5 (some .int) ∈ wsL_law := (wm_7 _ (List.mem_of_getElem? (i := 17) rfl))
theorem md_X11_whyNoBlock : yX11_whyNoBlock.cls ≠ "java/lang/invoke/MethodHandle" ∧ yX11_whyNoBlock.cls ≠ "java/lang/invoke/VarHandle" ∧ (parseMethodDescriptor yX11_whyNoBlock.desc).map (fun d => d.parameters.length) = some 4 := by decide +kernel
set_option maxRecDepth 100000 in
set_option maxHeartbeats 4000000 in
theorem c_X11_whyNoBlock (l : Launch) (E : xE) (ad : Nat → Nat) (μ : xM) (q0 : Nat) (p1 : Int32) (p2 : Int32) (p3 : Int32) (p4 : Int32) (hk_q0 : kd q0 = 9) (Qm : Int32 → xM → Prop) (hq : p_X11_whyNoBlock q0 p1 p2 p3 p4 μ Qm) : xMi l yX11_whyNoBlock tX11_whyNoBlock ({ frames := 2, cells := 0, slots := 0, locals := 80 } : Room) E ad μ [.ref (ad q0), .int p1, .int p2, .int p3, .int p4] Qm := by
  refine x_sti (cc := cX11_whyNoBlock) (maxL := 5) (ret := (some .int)) (own := RX11) rfl (by decide) rfl (Nat.le_of_ble_eq_true rfl) ?_
  intro p e s m args below meth c ls G hr hA hH hl
  obtain ⟨hx, hb, hml, hown, hts, hKn, hN, hlk⟩ := id G
  have hl : lv_has ls 5 [(0, .ref (ad q0)), (1, .int p1), (2, .int p2), (3, .int p3), (4, .int p4)] := hl
  have hH : xH E ad (xA ad s.heap.size) s.heap μ s.heap [] := hH
  unfold p_X11_whyNoBlock at hq
  refine lv_iload_n hx hb dX11_whyNoBlock_0 rfl (lv_at hl 1 rfl) ?_
  refine lv_iconst (v := (0 : Int32)) hx hb dX11_whyNoBlock_1 (by decide) ?_
  refine lv_iconst (v := (3 : Int32)) hx hb dX11_whyNoBlock_2 (by decide) ?_
  refine x_cSi (As := [.int p1, .int (0 : Int32), .int (3 : Int32)]) (rest := []) G hH hA (c_X11_within l E ad μ p1 (0 : Int32) (3 : Int32)  _ hq) (wm_7 _ (List.mem_of_getElem? (i := 20) rfl)) mt_X11_within mn_RX11 mc_X11_within md_X11_within ⟨rfl, rfl, Nat.le_of_ble_eq_true rfl, Nat.le_of_ble_eq_true rfl⟩ rfl hl.1 rfl (Nat.le_of_ble_eq_true rfl) dX11_whyNoBlock_3 ⟨Nat.zero_le _, Nat.zero_le _⟩ (fun r2 μ1 hq H locs hH => ?_)
  refine lv_if_eq (tgt := 19) hx hb dX11_whyNoBlock_6 (by decide) (fun c3 => ?_) (fun c3 => ?_)
  · have hq := hq.1 c3
    refine lv_bipush (v := (-2 : Int32)) hx hb dX11_whyNoBlock_19 (by decide) ?_
    exact x_iret G hr hH hq dX11_whyNoBlock_21
  · have hq := hq.2 c3
    refine lv_iload_n hx hb dX11_whyNoBlock_9 rfl (lv_at hl 2 rfl) ?_
    refine lv_iconst (v := (1 : Int32)) hx hb dX11_whyNoBlock_10 (by decide) ?_
    refine lv_bipush (v := (7 : Int32)) hx hb dX11_whyNoBlock_11 (by decide) ?_
    refine x_cSi (As := [.int p2, .int (1 : Int32), .int (7 : Int32)]) (rest := []) G hH hA (c_X11_within l E ad μ1 p2 (1 : Int32) (7 : Int32)  _ hq) (wm_7 _ (List.mem_of_getElem? (i := 20) rfl)) mt_X11_within mn_RX11 mc_X11_within md_X11_within ⟨rfl, rfl, Nat.le_of_ble_eq_true rfl, Nat.le_of_ble_eq_true rfl⟩ rfl hl.1 rfl (Nat.le_of_ble_eq_true rfl) dX11_whyNoBlock_13 ⟨Nat.zero_le _, Nat.zero_le _⟩ (fun r5 μ4 hq H locs hH => ?_)
    refine lv_if_ne (tgt := 22) hx hb dX11_whyNoBlock_16 (by decide) (fun c6 => ?_) (fun c6 => ?_)
    · have hq := hq.1 c6
      refine lv_iload_n hx hb dX11_whyNoBlock_22 rfl (lv_at hl 3 rfl) ?_
      refine lv_iconst (v := (0 : Int32)) hx hb dX11_whyNoBlock_23 (by decide) ?_
      refine lv_bipush (v := (9 : Int32)) hx hb dX11_whyNoBlock_24 (by decide) ?_
      refine x_cSi (As := [.int p3, .int (0 : Int32), .int (9 : Int32)]) (rest := []) G hH hA (c_X11_within l E ad μ4 p3 (0 : Int32) (9 : Int32)  _ hq) (wm_7 _ (List.mem_of_getElem? (i := 20) rfl)) mt_X11_within mn_RX11 mc_X11_within md_X11_within ⟨rfl, rfl, Nat.le_of_ble_eq_true rfl, Nat.le_of_ble_eq_true rfl⟩ rfl hl.1 rfl (Nat.le_of_ble_eq_true rfl) dX11_whyNoBlock_26 ⟨Nat.zero_le _, Nat.zero_le _⟩ (fun r8 μ7 hq H locs hH => ?_)
      refine lv_if_eq (tgt := 44) hx hb dX11_whyNoBlock_29 (by decide) (fun c9 => ?_) (fun c9 => ?_)
      · have hq := hq.1 c9
        refine lv_bipush (v := (-2 : Int32)) hx hb dX11_whyNoBlock_44 (by decide) ?_
        exact x_iret G hr hH hq dX11_whyNoBlock_46
      · have hq := hq.2 c9
        refine lv_iload hx hb dX11_whyNoBlock_32 (lv_at hl 4 rfl) ?_
        refine lv_iconst (v := (1 : Int32)) hx hb dX11_whyNoBlock_34 (by decide) ?_
        refine lv_ldcw hx hb hown (hts _ (wm_7 _ (List.mem_of_getElem? (i := 18) rfl))) dX11_whyNoBlock_35 ?_
        refine x_cSi (As := [.int p4, .int (1 : Int32), .int (65535 : Int32)]) (rest := []) G hH hA (c_X11_within l E ad μ7 p4 (1 : Int32) (65535 : Int32)  _ hq) (wm_7 _ (List.mem_of_getElem? (i := 20) rfl)) mt_X11_within mn_RX11 mc_X11_within md_X11_within ⟨rfl, rfl, Nat.le_of_ble_eq_true rfl, Nat.le_of_ble_eq_true rfl⟩ rfl hl.1 rfl (Nat.le_of_ble_eq_true rfl) dX11_whyNoBlock_38 ⟨Nat.zero_le _, Nat.zero_le _⟩ (fun r11 μ10 hq H locs hH => ?_)
        refine lv_if_ne (tgt := 47) hx hb dX11_whyNoBlock_41 (by decide) (fun c12 => ?_) (fun c12 => ?_)
        · have hq := hq.1 c12
          refine lv_aload_n hx hb dX11_whyNoBlock_47 rfl (lv_at hl 0 rfl) ?_
          refine x_get (j := 0) (C := RX11) (T := TX11) (N := 8) (v := .ref (ad (rt q0 0))) G hH hk_q0 (by decide) rfl inlX11 (by decide) (wm_1 _ (List.mem_of_getElem? (i := 15) rfl)) rfl dX11_whyNoBlock_48 ?_
          refine x_get (j := 0) (C := RX9) (T := TX9) (N := 3) (v := .ref (ad (rt (rt q0 0) 0))) G hH (kt_9_0 _ hk_q0) (by decide) rfl inlX9 (by decide) (wm_1 _ (List.mem_of_getElem? (i := 23) rfl)) rfl dX11_whyNoBlock_51 ?_
          refine x_get (j := 0) (C := RX0) (T := TX0) (N := 9) (v := .int (μ10.1 (rt (rt q0 0) 0) 0)) G hH (kt_7_0 _ (kt_9_0 _ hk_q0)) (by decide) rfl inlX0 (by decide) (wm_7 _ (List.mem_of_getElem? (i := 19) rfl)) rfl dX11_whyNoBlock_54 ?_
          refine lv_bipush (v := (6 : Int32)) hx hb dX11_whyNoBlock_57 (by decide) ?_
          refine lv_icmp_lt (tgt := 67) hx hb dX11_whyNoBlock_59 (by decide) (fun c13 => ?_) (fun c13 => ?_)
          · have hq := hq.1 c13
            refine lv_iconst (v := (0 : Int32)) hx hb dX11_whyNoBlock_67 (by decide) ?_
            exact x_iret G hr hH hq dX11_whyNoBlock_68
          · have hq := hq.2 c13
            refine lv_bipush (v := (-4 : Int32)) hx hb dX11_whyNoBlock_62 (by decide) ?_
            refine lv_goto (tgt := 68) hx hb dX11_whyNoBlock_64 (by decide) ?_
            exact x_iret G hr hH hq dX11_whyNoBlock_68
        · have hq := hq.2 c12
          refine lv_bipush (v := (-2 : Int32)) hx hb dX11_whyNoBlock_44 (by decide) ?_
          exact x_iret G hr hH hq dX11_whyNoBlock_46
    · have hq := hq.2 c6
      refine lv_bipush (v := (-2 : Int32)) hx hb dX11_whyNoBlock_19 (by decide) ?_
      exact x_iret G hr hH hq dX11_whyNoBlock_21
abbrev tX1_moved : List Cond := Cond.code yX1_moved cX1_moved 8 (some .int) :: wsL_law
theorem mt_X1_moved : Cond.static yX1_moved ∈ wsL_law := (wm_10 _ (List.mem_of_getElem? (i := 7) rfl))
theorem mc_X1_moved : Cond.code yX1_moved cX1_moved 8 (some .int) ∈ wsL_law := (wm_10 _ (List.mem_of_getElem? (i := 9) rfl))
theorem md_X1_moved : yX1_moved.cls ≠ "java/lang/invoke/MethodHandle" ∧ yX1_moved.cls ≠ "java/lang/invoke/VarHandle" ∧ (parseMethodDescriptor yX1_moved.desc).map (fun d => d.parameters.length) = some 3 := by decide +kernel
set_option maxRecDepth 100000 in
set_option maxHeartbeats 4000000 in
theorem wj_X1_moved_53 {E : xE} {ad : Nat → Nat} {p : Program} {l : Launch} {e : Env} {s : State} {m : MethodId} {args : Array Value} {below : List Frame} {meth : Method} {c : Code} {Q : State → Prop} (G : xG E p s m args meth c cX1_moved 8 RX1) (hA : ∀ a, s.heap.size ≤ a → xA ad s.heap.size a) (a1 : Int32) (a2 : Int32) (a3 : Int32) (a24 : Int32) (a25 : Int32) (a26 : Int32) (a27 : Int32) (a28 : Int32) (μ29 : xM) (K50 : Int32 → xM → Prop) (K5b : Int32 → Int32 → xM → Prop) (hq : J_X1_moved_53 a1 a2 a3 a24 a25 a26 a27 a28 μ29 K50 K5b) {H : Heap} {locs : List Loc} {ls : Array Slot} (hH : xH E ad (xA ad s.heap.size) s.heap μ29 H locs) (hl : lv_has ls 8 [(6, .int a24), (5, .int a25), (0, .int a1), (1, .int a2), (2, .int a3), (4, .int a26), (3, .int a27)]) (kK50 : ∀ (a8 : Int32) (μ9 : xM), K50 a8 μ9 → ∀ (H : Heap) (locs : List Loc) (ls : Array Slot), xH E ad (xA ad s.heap.size) s.heap μ9 H locs → lv_has ls 8 [(3, .int a8)] → W p l e (headSpec tX1_moved ({ frames := 2, cells := 0, slots := 0, locals := 80 } : Room)).room s m args below meth c H locs 0 0 Q (F0 m 88 ls [])) (kK5b : ∀ (a10 : Int32) (a11 : Int32) (μ12 : xM), K5b a10 a11 μ12 → ∀ (H : Heap) (locs : List Loc) (ls : Array Slot), xH E ad (xA ad s.heap.size) s.heap μ12 H locs → lv_has ls 8 [(0, .int a1), (1, .int a2), (2, .int a3), (4, .int a10), (3, .int a11)] → W p l e (headSpec tX1_moved ({ frames := 2, cells := 0, slots := 0, locals := 80 } : Room)).room s m args below meth c H locs 0 0 Q (F0 m 5 ls [])) : W p l e (headSpec tX1_moved ({ frames := 2, cells := 0, slots := 0, locals := 80 } : Room)).room s m args below meth c H locs 0 0 Q (F0 m 53 ls [.int a28]) := by
  obtain ⟨hx, hb, hml, hown, hts, hKn, hN, hlk⟩ := id G
  unfold J_X1_moved_53 at hq
  refine lv_istore (lv' := [(7, .int a28), (6, .int a24), (5, .int a25), (0, .int a1), (1, .int a2), (2, .int a3), (4, .int a26), (3, .int a27)]) hx hb dX1_moved_53 hl (by decide) rfl (fun ls hl => ?_)
  refine lv_iload hx hb dX1_moved_55 (lv_at hl 0 rfl) ?_
  refine lv_if_eq (tgt := 82) hx hb dX1_moved_57 (by decide) (fun c30 => ?_) (fun c30 => ?_)
  · have hq := hq.1 c30
    obtain ⟨v31, e_v31⟩ : ∃ y : Int32, y = (a26 + (1 : Int32)) := ⟨_, rfl⟩
    have hq := hq v31 e_v31
    refine lv_iinc (v := v31) (lv' := [(4, .int v31), (7, .int a28), (6, .int a24), (5, .int a25), (0, .int a1), (1, .int a2), (2, .int a3), (3, .int a27)]) hx hb dX1_moved_82 hl (k := 6) rfl (by rw [e_v31]; rfl) (by decide) rfl (fun ls hl => ?_)
    refine lv_goto (tgt := 5) hx hb dX1_moved_85 (by decide) ?_
    exact kK5b v31 a27 μ29 hq _ _ _ hH (lv_sub hl [4, 5, 6, 0, 7] rfl)
  · have hq := hq.2 c30
    refine lv_iload_n hx hb dX1_moved_60 rfl (lv_at hl 3 rfl) ?_
    refine lv_iload hx hb dX1_moved_61 (lv_at hl 6 rfl) ?_
    refine lv_iushr (v := (uS a1 a26)) hx hb dX1_moved_63 rfl ?_
    refine lv_iconst (v := (1 : Int32)) hx hb dX1_moved_64 (by decide) ?_
    refine lv_iand hx hb dX1_moved_65 ?_
    refine lv_iconst (v := (1 : Int32)) hx hb dX1_moved_66 (by decide) ?_
    refine lv_icmp_ne (tgt := 82) hx hb dX1_moved_67 (by decide) (fun c32 => ?_) (fun c32 => ?_)
    · have hq := hq.1 c32
      obtain ⟨v33, e_v33⟩ : ∃ y : Int32, y = (a26 + (1 : Int32)) := ⟨_, rfl⟩
      have hq := hq v33 e_v33
      refine lv_iinc (v := v33) (lv' := [(4, .int v33), (7, .int a28), (6, .int a24), (5, .int a25), (0, .int a1), (1, .int a2), (2, .int a3), (3, .int a27)]) hx hb dX1_moved_82 hl (k := 6) rfl (by rw [e_v33]; rfl) (by decide) rfl (fun ls hl => ?_)
      refine lv_goto (tgt := 5) hx hb dX1_moved_85 (by decide) ?_
      exact kK5b v33 a27 μ29 hq _ _ _ hH (lv_sub hl [4, 5, 6, 0, 7] rfl)
    · have hq := hq.2 c32
      refine lv_iload_n hx hb dX1_moved_70 rfl (lv_at hl 7 rfl) ?_
      refine lv_iconst (v := (1 : Int32)) hx hb dX1_moved_71 (by decide) ?_
      refine lv_iload hx hb dX1_moved_72 (lv_at hl 1 rfl) ?_
      refine lv_iconst (v := (4 : Int32)) hx hb dX1_moved_74 (by decide) ?_
      refine lv_imul hx hb dX1_moved_75 ?_
      refine lv_iload hx hb dX1_moved_76 (lv_at hl 2 rfl) ?_
      refine lv_iadd hx hb dX1_moved_78 ?_
      refine lv_ishl hx hb dX1_moved_79 ?_
      refine lv_ior hx hb dX1_moved_80 ?_
      refine lv_topi (fun v34 e_v34 => ?_)
      have hq := hq v34 e_v34
      refine lv_istore_n (lv' := [(3, .int v34), (7, .int a28), (6, .int a24), (5, .int a25), (0, .int a1), (1, .int a2), (2, .int a3), (4, .int a26)]) hx hb dX1_moved_81 rfl hl (by decide) rfl (fun ls hl => ?_)
      obtain ⟨v35, e_v35⟩ : ∃ y : Int32, y = (a26 + (1 : Int32)) := ⟨_, rfl⟩
      have hq := hq v35 e_v35
      refine lv_iinc (v := v35) (lv' := [(4, .int v35), (3, .int v34), (7, .int a28), (6, .int a24), (5, .int a25), (0, .int a1), (1, .int a2), (2, .int a3)]) hx hb dX1_moved_82 hl (k := 7) rfl (by rw [e_v35]; rfl) (by decide) rfl (fun ls hl => ?_)
      refine lv_goto (tgt := 5) hx hb dX1_moved_85 (by decide) ?_
      exact kK5b v35 v34 μ29 hq _ _ _ hH (lv_sub hl [5, 6, 7, 0, 1] rfl)
set_option maxRecDepth 100000 in
set_option maxHeartbeats 4000000 in
theorem wj_X1_moved_52 {E : xE} {ad : Nat → Nat} {p : Program} {l : Launch} {e : Env} {s : State} {m : MethodId} {args : Array Value} {below : List Frame} {meth : Method} {c : Code} {Q : State → Prop} (G : xG E p s m args meth c cX1_moved 8 RX1) (hA : ∀ a, s.heap.size ≤ a → xA ad s.heap.size a) (a1 : Int32) (a2 : Int32) (a3 : Int32) (a19 : Int32) (a20 : Int32) (a21 : Int32) (a22 : Int32) (μ23 : xM) (K50 : Int32 → xM → Prop) (K5b : Int32 → Int32 → xM → Prop) (hq : J_X1_moved_52 a1 a2 a3 a19 a20 a21 a22 μ23 K50 K5b) {H : Heap} {locs : List Loc} {ls : Array Slot} (hH : xH E ad (xA ad s.heap.size) s.heap μ23 H locs) (hl : lv_has ls 8 [(6, .int a19), (5, .int a20), (0, .int a1), (1, .int a2), (2, .int a3), (4, .int a21), (3, .int a22)]) (kK50 : ∀ (a8 : Int32) (μ9 : xM), K50 a8 μ9 → ∀ (H : Heap) (locs : List Loc) (ls : Array Slot), xH E ad (xA ad s.heap.size) s.heap μ9 H locs → lv_has ls 8 [(3, .int a8)] → W p l e (headSpec tX1_moved ({ frames := 2, cells := 0, slots := 0, locals := 80 } : Room)).room s m args below meth c H locs 0 0 Q (F0 m 88 ls [])) (kK5b : ∀ (a10 : Int32) (a11 : Int32) (μ12 : xM), K5b a10 a11 μ12 → ∀ (H : Heap) (locs : List Loc) (ls : Array Slot), xH E ad (xA ad s.heap.size) s.heap μ12 H locs → lv_has ls 8 [(0, .int a1), (1, .int a2), (2, .int a3), (4, .int a10), (3, .int a11)] → W p l e (headSpec tX1_moved ({ frames := 2, cells := 0, slots := 0, locals := 80 } : Room)).room s m args below meth c H locs 0 0 Q (F0 m 5 ls [])) : W p l e (headSpec tX1_moved ({ frames := 2, cells := 0, slots := 0, locals := 80 } : Room)).room s m args below meth c H locs 0 0 Q (F0 m 52 ls []) := by
  obtain ⟨hx, hb, hml, hown, hts, hKn, hN, hlk⟩ := id G
  unfold J_X1_moved_52 at hq
  refine lv_iconst (v := (0 : Int32)) hx hb dX1_moved_52 (by decide) ?_
  exact wj_X1_moved_53 G hA a1 a2 a3 a19 a20 a21 a22 (0 : Int32)  μ23 _ _ hq hH (lv_sub hl [0, 1, 2, 3, 4, 5, 6] rfl) kK50 kK5b
set_option maxRecDepth 100000 in
set_option maxHeartbeats 4000000 in
theorem wb_X1_moved_5 {E : xE} {ad : Nat → Nat} {p : Program} {l : Launch} {e : Env} {s : State} {m : MethodId} {args : Array Value} {below : List Frame} {meth : Method} {c : Code} {Q : State → Prop} (G : xG E p s m args meth c cX1_moved 8 RX1) (hA : ∀ a, s.heap.size ≤ a → xA ad s.heap.size a) (a1 : Int32) (a2 : Int32) (a3 : Int32) (a4 : Int32) (a5 : Int32) (μ7 : xM) (K50 : Int32 → xM → Prop) (K5b : Int32 → Int32 → xM → Prop) (hq : B_X1_moved_5 a1 a2 a3 a4 a5 μ7 K50 K5b) {H : Heap} {locs : List Loc} {ls : Array Slot} (hH : xH E ad (xA ad s.heap.size) s.heap μ7 H locs) (hl : lv_has ls 8 [(0, .int a1), (1, .int a2), (2, .int a3), (4, .int a4), (3, .int a5)]) (kK50 : ∀ (a8 : Int32) (μ9 : xM), K50 a8 μ9 → ∀ (H : Heap) (locs : List Loc) (ls : Array Slot), xH E ad (xA ad s.heap.size) s.heap μ9 H locs → lv_has ls 8 [(3, .int a8)] → W p l e (headSpec tX1_moved ({ frames := 2, cells := 0, slots := 0, locals := 80 } : Room)).room s m args below meth c H locs 0 0 Q (F0 m 88 ls [])) (kK5b : ∀ (a10 : Int32) (a11 : Int32) (μ12 : xM), K5b a10 a11 μ12 → ∀ (H : Heap) (locs : List Loc) (ls : Array Slot), xH E ad (xA ad s.heap.size) s.heap μ12 H locs → lv_has ls 8 [(0, .int a1), (1, .int a2), (2, .int a3), (4, .int a10), (3, .int a11)] → W p l e (headSpec tX1_moved ({ frames := 2, cells := 0, slots := 0, locals := 80 } : Room)).room s m args below meth c H locs 0 0 Q (F0 m 5 ls [])) : W p l e (headSpec tX1_moved ({ frames := 2, cells := 0, slots := 0, locals := 80 } : Room)).room s m args below meth c H locs 0 0 Q (F0 m 5 ls []) := by
  obtain ⟨hx, hb, hml, hown, hts, hKn, hN, hlk⟩ := id G
  unfold B_X1_moved_5 at hq
  refine lv_iload hx hb dX1_moved_5 (lv_at hl 3 rfl) ?_
  refine lv_bipush (v := (16 : Int32)) hx hb dX1_moved_7 (by decide) ?_
  refine lv_icmp_ge (tgt := 88) hx hb dX1_moved_9 (by decide) (fun c13 => ?_) (fun c13 => ?_)
  · have hq := hq.1 c13
    exact kK50 a5 μ7 hq _ _ _ hH (lv_sub hl [4] rfl)
  · have hq := hq.2 c13
    refine lv_iload hx hb dX1_moved_12 (lv_at hl 3 rfl) ?_
    refine lv_iconst (v := (4 : Int32)) hx hb dX1_moved_14 (by decide) ?_
    refine lv_irem hx hb dX1_moved_15 (by decide) ?_
    refine lv_iload_n hx hb dX1_moved_16 rfl (lv_at hl 1 rfl) ?_
    refine lv_iadd hx hb dX1_moved_17 ?_
    refine lv_topi (fun v14 e_v14 => ?_)
    have hq := hq v14 e_v14
    refine lv_istore (lv' := [(5, .int v14), (0, .int a1), (1, .int a2), (2, .int a3), (4, .int a4), (3, .int a5)]) hx hb dX1_moved_18 hl (by decide) rfl (fun ls hl => ?_)
    refine lv_iload hx hb dX1_moved_20 (lv_at hl 4 rfl) ?_
    refine lv_iconst (v := (4 : Int32)) hx hb dX1_moved_22 (by decide) ?_
    refine lv_idiv hx hb dX1_moved_23 (by decide) ?_
    refine lv_iload_n hx hb dX1_moved_24 rfl (lv_at hl 3 rfl) ?_
    refine lv_iadd hx hb dX1_moved_25 ?_
    refine lv_topi (fun v15 e_v15 => ?_)
    have hq := hq v15 e_v15
    refine lv_istore (lv' := [(6, .int v15), (5, .int v14), (0, .int a1), (1, .int a2), (2, .int a3), (4, .int a4), (3, .int a5)]) hx hb dX1_moved_26 hl (by decide) rfl (fun ls hl => ?_)
    refine lv_iload hx hb dX1_moved_28 (lv_at hl 1 rfl) ?_
    refine lv_iconst (v := (0 : Int32)) hx hb dX1_moved_30 (by decide) ?_
    refine lv_iconst (v := (3 : Int32)) hx hb dX1_moved_31 (by decide) ?_
    refine x_cNi (As := [.int v14, .int (0 : Int32), .int (3 : Int32)]) (rest := []) G hH hA (c_X11_within l E ad μ7 v14 (0 : Int32) (3 : Int32)  _ hq) hN mt_X11_within mn_RX11 mc_X11_within md_X11_within ⟨rfl, rfl, Nat.le_of_ble_eq_true rfl, Nat.le_of_ble_eq_true rfl⟩ rfl hl.1 rfl (Nat.le_of_ble_eq_true rfl) dX1_moved_32 ⟨Nat.zero_le _, Nat.zero_le _⟩ (fun r17 μ16 hq H locs hH => ?_)
    refine lv_if_eq (tgt := 52) hx hb dX1_moved_35 (by decide) (fun c18 => ?_) (fun c18 => ?_)
    · have hq := hq.1 c18
      exact wj_X1_moved_52 G hA a1 a2 a3 v15 v14 a4 a5  μ16 _ _ hq hH (lv_sub hl [0, 1, 2, 3, 4, 5, 6] rfl) kK50 kK5b
    · have hq := hq.2 c18
      refine lv_iload hx hb dX1_moved_38 (lv_at hl 0 rfl) ?_
      refine lv_iconst (v := (0 : Int32)) hx hb dX1_moved_40 (by decide) ?_
      refine lv_iconst (v := (3 : Int32)) hx hb dX1_moved_41 (by decide) ?_
      refine x_cNi (As := [.int v15, .int (0 : Int32), .int (3 : Int32)]) (rest := []) G hH hA (c_X11_within l E ad μ16 v15 (0 : Int32) (3 : Int32)  _ hq) hN mt_X11_within mn_RX11 mc_X11_within md_X11_within ⟨rfl, rfl, Nat.le_of_ble_eq_true rfl, Nat.le_of_ble_eq_true rfl⟩ rfl hl.1 rfl (Nat.le_of_ble_eq_true rfl) dX1_moved_42 ⟨Nat.zero_le _, Nat.zero_le _⟩ (fun r37 μ36 hq H locs hH => ?_)
      refine lv_if_eq (tgt := 52) hx hb dX1_moved_45 (by decide) (fun c38 => ?_) (fun c38 => ?_)
      · have hq := hq.1 c38
        exact wj_X1_moved_52 G hA a1 a2 a3 v15 v14 a4 a5  μ36 _ _ hq hH (lv_sub hl [0, 1, 2, 3, 4, 5, 6] rfl) kK50 kK5b
      · have hq := hq.2 c38
        refine lv_iconst (v := (1 : Int32)) hx hb dX1_moved_48 (by decide) ?_
        refine lv_goto (tgt := 53) hx hb dX1_moved_49 (by decide) ?_
        exact wj_X1_moved_53 G hA a1 a2 a3 v15 v14 a4 a5 (1 : Int32)  μ36 _ _ hq hH (lv_sub hl [0, 1, 2, 3, 4, 5, 6] rfl) kK50 kK5b
set_option maxRecDepth 100000 in
set_option maxHeartbeats 4000000 in
theorem w_X1_moved_5 {E : xE} {ad : Nat → Nat} {p : Program} {l : Launch} {e : Env} {s : State} {m : MethodId} {args : Array Value} {below : List Frame} {meth : Method} {c : Code} {Q : State → Prop} (G : xG E p s m args meth c cX1_moved 8 RX1) (hA : ∀ a, s.heap.size ≤ a → xA ad s.heap.size a) (a1 : Int32) (a2 : Int32) (a3 : Int32) : ∀ (n : Nat) (a4 : Int32) (a5 : Int32) (μ7 : xM) (K50 : Int32 → xM → Prop) (hq : L_X1_moved_5 a1 a2 a3 n a4 a5 μ7 K50) (H : Heap) (locs : List Loc) (ls : Array Slot) (hH : xH E ad (xA ad s.heap.size) s.heap μ7 H locs) (hl : lv_has ls 8 [(0, .int a1), (1, .int a2), (2, .int a3), (4, .int a4), (3, .int a5)]) (kK50 : ∀ (a8 : Int32) (μ9 : xM), K50 a8 μ9 → ∀ (H : Heap) (locs : List Loc) (ls : Array Slot), xH E ad (xA ad s.heap.size) s.heap μ9 H locs → lv_has ls 8 [(3, .int a8)] → W p l e (headSpec tX1_moved ({ frames := 2, cells := 0, slots := 0, locals := 80 } : Room)).room s m args below meth c H locs 0 0 Q (F0 m 88 ls [])) , W p l e (headSpec tX1_moved ({ frames := 2, cells := 0, slots := 0, locals := 80 } : Room)).room s m args below meth c H locs 0 0 Q (F0 m 5 ls [])
  | 0, _, _, _, _, hq, _, _, _, _, _, _ => hq.elim
  | n + 1, a4, a5, μ7, K50, hq, H, locs, ls, hH, hl, kK50 => wb_X1_moved_5 G hA a1 a2 a3  a4 a5 μ7 K50 _ hq hH hl kK50 (fun x0 x1 y hq H locs ls hH hl => w_X1_moved_5 G hA a1 a2 a3  n x0 x1 y K50 hq H locs ls hH hl kK50)
set_option maxRecDepth 100000 in
set_option maxHeartbeats 4000000 in
theorem c_X1_moved (l : Launch) (E : xE) (ad : Nat → Nat) (μ : xM) (p1 : Int32) (p2 : Int32) (p3 : Int32) (Qm : Int32 → xM → Prop) (hq : p_X1_moved p1 p2 p3 μ Qm) : xMi l yX1_moved tX1_moved ({ frames := 2, cells := 0, slots := 0, locals := 80 } : Room) E ad μ [.int p1, .int p2, .int p3] Qm := by
  refine x_sti (cc := cX1_moved) (maxL := 8) (ret := (some .int)) (own := RX1) rfl (by decide) rfl (Nat.le_of_ble_eq_true rfl) ?_
  intro p e s m args below meth c ls G hr hA hH hl
  obtain ⟨hx, hb, hml, hown, hts, hKn, hN, hlk⟩ := id G
  have hl : lv_has ls 8 [(0, .int p1), (1, .int p2), (2, .int p3)] := hl
  have hH : xH E ad (xA ad s.heap.size) s.heap μ s.heap [] := hH
  unfold p_X1_moved at hq
  refine lv_iconst (v := (0 : Int32)) hx hb dX1_moved_0 (by decide) ?_
  refine lv_istore_n (lv' := [(3, .int (0 : Int32)), (0, .int p1), (1, .int p2), (2, .int p3)]) hx hb dX1_moved_1 rfl hl (by decide) rfl (fun ls hl => ?_)
  refine lv_iconst (v := (0 : Int32)) hx hb dX1_moved_2 (by decide) ?_
  refine lv_istore (lv' := [(4, .int (0 : Int32)), (3, .int (0 : Int32)), (0, .int p1), (1, .int p2), (2, .int p3)]) hx hb dX1_moved_3 hl (by decide) rfl (fun ls hl => ?_)
  obtain ⟨n6, hq⟩ := hq
  refine w_X1_moved_5 G hA p1 p2 p3  n6 (0 : Int32) (0 : Int32) μ _ hq _ _ _ hH (lv_sub hl [2, 3, 4, 0, 1] rfl) (fun a48 μ49 hq H locs ls hH hl => ?_)
  refine lv_iload_n hx hb dX1_moved_88 rfl (lv_at hl 0 rfl) ?_
  exact x_iret G hr hH hq dX1_moved_89
abbrev tX0_move : List Cond := Cond.code yX0_move cX0_move 4 none :: wsL_law
theorem mi_X0_move : Cond.instanceMethod yX0_move ∈ wsL_law := (wm_10 _ (List.mem_of_getElem? (i := 0) rfl))
theorem ms_X0_move : Cond.selects RX0 yX0_move yX0_move ∈ wsL_law := (wm_10 _ (List.mem_of_getElem? (i := 1) rfl))
theorem mc_X0_move : Cond.code yX0_move cX0_move 4 none ∈ wsL_law := (wm_10 _ (List.mem_of_getElem? (i := 2) rfl))
theorem md_X0_move : yX0_move.cls ≠ "java/lang/invoke/MethodHandle" ∧ yX0_move.cls ≠ "java/lang/invoke/VarHandle" ∧ (parseMethodDescriptor yX0_move.desc).map (fun d => d.parameters.length) = some 3 := by decide +kernel
set_option maxRecDepth 100000 in
set_option maxHeartbeats 4000000 in
theorem c_X0_move (l : Launch) (E : xE) (ad : Nat → Nat) (μ : xM) (q0 : Nat) (p1 : Int32) (p2 : Int32) (p3 : Int32) (hk_q0 : kd q0 = 0) (Qm : xM → Prop) (hq : p_X0_move q0 p1 p2 p3 μ Qm) : xMv l yX0_move tX0_move ({ frames := 3, cells := 0, slots := 0, locals := 120 } : Room) E ad μ [.ref (ad q0), .int p1, .int p2, .int p3] Qm := by
  refine x_stv (cc := cX0_move) (maxL := 4) (ret := none) (own := RX0) rfl (by decide) rfl (Nat.le_of_ble_eq_true rfl) ?_
  intro p e s m args below meth c ls G hr hA hH hl
  obtain ⟨hx, hb, hml, hown, hts, hKn, hN, hlk⟩ := id G
  have hl : lv_has ls 4 [(0, .ref (ad q0)), (1, .int p1), (2, .int p2), (3, .int p3)] := hl
  have hH : xH E ad (xA ad s.heap.size) s.heap μ s.heap [] := hH
  unfold p_X0_move at hq
  refine lv_aload_n hx hb dX0_move_0 rfl (lv_at hl 0 rfl) ?_
  refine x_get (j := 5) (C := RX0) (T := TX0) (N := 9) (v := .ref (ad (rt q0 5))) G hH hk_q0 (by decide) rfl inlX0 (by decide) (wm_3 _ (List.mem_of_getElem? (i := 9) rfl)) rfl dX0_move_1 ?_
  refine lv_iload_n hx hb dX0_move_4 rfl (lv_at hl 1 rfl) ?_
  refine lv_iload_n hx hb dX0_move_5 rfl (lv_at hl 2 rfl) ?_
  refine x_cSv (As := [.ref (ad (rt q0 5)), .int p1, .int p2]) (rest := []) G hH hA (c_X5_put l E ad μ (rt q0 5) p1 p2 (kt_0_5 _ hk_q0) _ hq) (wm_9 _ (List.mem_of_getElem? (i := 20) rfl)) mt_X5_put mn_RX5 mc_X5_put md_X5_put ⟨rfl, rfl, Nat.le_of_ble_eq_true rfl, Nat.le_of_ble_eq_true rfl⟩ rfl hl.1 rfl (Nat.le_of_ble_eq_true rfl) dX0_move_6 ⟨Nat.zero_le _, Nat.zero_le _⟩ (fun μ1 hq H locs hH => ?_)
  refine lv_aload_n hx hb dX0_move_9 rfl (lv_at hl 0 rfl) ?_
  refine x_get (j := 6) (C := RX0) (T := TX0) (N := 9) (v := .ref (ad (rt q0 6))) G hH hk_q0 (by decide) rfl inlX0 (by decide) (wm_3 _ (List.mem_of_getElem? (i := 10) rfl)) rfl dX0_move_10 ?_
  refine lv_iload_n hx hb dX0_move_13 rfl (lv_at hl 1 rfl) ?_
  refine lv_iload_n hx hb dX0_move_14 rfl (lv_at hl 3 rfl) ?_
  refine x_cSv (As := [.ref (ad (rt q0 6)), .int p1, .int p3]) (rest := []) G hH hA (c_X5_put l E ad μ1 (rt q0 6) p1 p3 (kt_0_6 _ hk_q0) _ hq) (wm_9 _ (List.mem_of_getElem? (i := 20) rfl)) mt_X5_put mn_RX5 mc_X5_put md_X5_put ⟨rfl, rfl, Nat.le_of_ble_eq_true rfl, Nat.le_of_ble_eq_true rfl⟩ rfl hl.1 rfl (Nat.le_of_ble_eq_true rfl) dX0_move_15 ⟨Nat.zero_le _, Nat.zero_le _⟩ (fun μ2 hq H locs hH => ?_)
  refine lv_aload_n hx hb dX0_move_18 rfl (lv_at hl 0 rfl) ?_
  refine x_get (j := 7) (C := RX0) (T := TX0) (N := 9) (v := .ref (ad (rt q0 7))) G hH hk_q0 (by decide) rfl inlX0 (by decide) (wm_3 _ (List.mem_of_getElem? (i := 11) rfl)) rfl dX0_move_19 ?_
  refine lv_iload_n hx hb dX0_move_22 rfl (lv_at hl 1 rfl) ?_
  refine lv_aload_n hx hb dX0_move_23 rfl (lv_at hl 0 rfl) ?_
  refine x_get (j := 4) (C := RX0) (T := TX0) (N := 9) (v := .ref (ad (rt q0 4))) G hH hk_q0 (by decide) rfl inlX0 (by decide) (wm_3 _ (List.mem_of_getElem? (i := 8) rfl)) rfl dX0_move_24 ?_
  refine lv_iload_n hx hb dX0_move_27 rfl (lv_at hl 1 rfl) ?_
  refine x_cSi (As := [.ref (ad (rt q0 4)), .int p1]) (rest := [.int p1, .ref (ad (rt q0 7))]) G hH hA (c_X5_at l E ad μ2 (rt q0 4) p1 (kt_0_4 _ hk_q0) _ hq) (wm_10 _ (List.mem_of_getElem? (i := 3) rfl)) mt_X5_at mn_RX5 mc_X5_at md_X5_at ⟨rfl, rfl, Nat.le_of_ble_eq_true rfl, Nat.le_of_ble_eq_true rfl⟩ rfl hl.1 rfl (Nat.le_of_ble_eq_true rfl) dX0_move_28 ⟨Nat.zero_le _, Nat.zero_le _⟩ (fun r4 μ3 hq H locs hH => ?_)
  refine lv_iload_n hx hb dX0_move_31 rfl (lv_at hl 2 rfl) ?_
  refine lv_iload_n hx hb dX0_move_32 rfl (lv_at hl 3 rfl) ?_
  refine x_cSi (As := [.int r4, .int p2, .int p3]) (rest := [.int p1, .ref (ad (rt q0 7))]) G hH hA (c_X1_moved l E ad μ3 r4 p2 p3  _ hq) (wm_10 _ (List.mem_of_getElem? (i := 6) rfl)) mt_X1_moved mn_RX1 mc_X1_moved md_X1_moved ⟨rfl, rfl, Nat.le_of_ble_eq_true rfl, Nat.le_of_ble_eq_true rfl⟩ rfl hl.1 rfl (Nat.le_of_ble_eq_true rfl) dX0_move_33 ⟨Nat.zero_le _, Nat.zero_le _⟩ (fun r6 μ5 hq H locs hH => ?_)
  refine x_cSv (As := [.ref (ad (rt q0 7)), .int p1, .int r6]) (rest := []) G hH hA (c_X5_put l E ad μ5 (rt q0 7) p1 r6 (kt_0_7 _ hk_q0) _ hq) (wm_9 _ (List.mem_of_getElem? (i := 20) rfl)) mt_X5_put mn_RX5 mc_X5_put md_X5_put ⟨rfl, rfl, Nat.le_of_ble_eq_true rfl, Nat.le_of_ble_eq_true rfl⟩ rfl hl.1 rfl (Nat.le_of_ble_eq_true rfl) dX0_move_36 ⟨Nat.zero_le _, Nat.zero_le _⟩ (fun μ7 hq H locs hH => ?_)
  exact x_vret G hr hH hq dX0_move_39
