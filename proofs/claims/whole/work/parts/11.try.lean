abbrev tX5_at : List Cond := Cond.code yX5_at cX5_at 2 (some .int) :: wsL_law
theorem mt_X5_at : Cond.static yX5_at ∈ wsL_law := (wm_10 _ (List.mem_of_getElem? (i := 4) rfl))
theorem mc_X5_at : Cond.code yX5_at cX5_at 2 (some .int) ∈ wsL_law := (wm_10 _ (List.mem_of_getElem? (i := 5) rfl))
theorem md_X5_at : yX5_at.cls ≠ "java/lang/invoke/MethodHandle" ∧ yX5_at.cls ≠ "java/lang/invoke/VarHandle" ∧ (parseMethodDescriptor yX5_at.desc).map (fun d => d.parameters.length) = some 2 := by decide +kernel
def p_X5_at (q1 : Nat) (p2 : Int32) (μ : xM) (Qm : Int32 → xM → Prop) : Prop := ((p2 < (0 : Int32) → Qm (0 : Int32) μ) ∧ (¬ p2 < (0 : Int32) → (((Int32.ofNat (ln q1)) ≤ p2 → Qm (0 : Int32) μ) ∧ (¬ (Int32.ofNat (ln q1)) ≤ p2 → (vp_in p2 (ln q1) ∧ Qm (μ.1 q1 p2.toNatClampNeg) μ)))))
set_option maxRecDepth 100000 in
set_option maxHeartbeats 4000000 in
theorem c_X5_at (l : Launch) (E : xE) (ad : Nat → Nat) (μ : xM) (q1 : Nat) (p2 : Int32) (hk_q1 : kd q1 = 11) (Qm : Int32 → xM → Prop) (hq : p_X5_at q1 p2 μ Qm) : xMi l yX5_at tX5_at ({ frames := 1, cells := 0, slots := 0, locals := 40 } : Room) E ad μ [.ref (ad q1), .int p2] Qm := by
  refine x_sti (cc := cX5_at) (maxL := 2) (ret := (some .int)) (own := RX5) rfl (by decide) rfl (Nat.le_of_ble_eq_true rfl) ?_
  intro p e s m args below meth c ls G hr hA hH hl
  obtain ⟨hx, hb, hml, hown, hts, hKn, hN, hlk⟩ := id G
  have hl : lv_has ls 2 [(0, .ref (ad q1)), (1, .int p2)] := hl
  have hH : xH E ad (xA ad s.heap.size) s.heap μ s.heap [] := hH
  unfold p_X5_at at hq
  refine lv_iload_n hx hb dX5_at_0 rfl (lv_at hl 1 rfl) ?_
  refine lv_if_lt (tgt := 16) hx hb dX5_at_1 (by decide) (fun c1 => ?_) (fun c1 => ?_)
  · have hq := hq.1 c1
    refine lv_iconst (v := (0 : Int32)) hx hb dX5_at_16 (by decide) ?_
    exact x_iret G hr hH hq dX5_at_17
  · have hq := hq.2 c1
    refine lv_iload_n hx hb dX5_at_4 rfl (lv_at hl 1 rfl) ?_
    refine lv_aload_n hx hb dX5_at_5 rfl (lv_at hl 0 rfl) ?_
    refine x_alen G hH hk_q1 rfl dX5_at_6 ?_
    refine lv_icmp_ge (tgt := 16) hx hb dX5_at_7 (by decide) (fun c2 => ?_) (fun c2 => ?_)
    · have hq := hq.1 c2
      refine lv_iconst (v := (0 : Int32)) hx hb dX5_at_16 (by decide) ?_
      exact x_iret G hr hH hq dX5_at_17
    · have hq := hq.2 c2
      refine lv_aload_n hx hb dX5_at_10 rfl (lv_at hl 0 rfl) ?_
      refine lv_iload_n hx hb dX5_at_11 rfl (lv_at hl 1 rfl) ?_
      refine x_iald G hH hk_q1 hq.1 dX5_at_12 ?_
      have hq := hq.2
      refine lv_goto (tgt := 17) hx hb dX5_at_13 (by decide) ?_
      exact x_iret G hr hH hq dX5_at_17

abbrev tX5_put : List Cond := Cond.code yX5_put cX5_put 3 none :: wsL_law
theorem mt_X5_put : Cond.static yX5_put ∈ wsL_law := (wm_9 _ (List.mem_of_getElem? (i := 21) rfl))
theorem mc_X5_put : Cond.code yX5_put cX5_put 3 none ∈ wsL_law := (wm_9 _ (List.mem_of_getElem? (i := 22) rfl))
theorem md_X5_put : yX5_put.cls ≠ "java/lang/invoke/MethodHandle" ∧ yX5_put.cls ≠ "java/lang/invoke/VarHandle" ∧ (parseMethodDescriptor yX5_put.desc).map (fun d => d.parameters.length) = some 3 := by decide +kernel
def p_X5_put (q1 : Nat) (p2 : Int32) (p3 : Int32) (μ : xM) (Qm : xM → Prop) : Prop := ((p2 < (0 : Int32) → Qm μ) ∧ (¬ p2 < (0 : Int32) → (((Int32.ofNat (ln q1)) ≤ p2 → Qm μ) ∧ (¬ (Int32.ofNat (ln q1)) ≤ p2 → (vp_in p2 (ln q1) ∧ ∀ μ3 : xM, μ3 = xi μ q1 p2.toNatClampNeg p3 → Qm μ3)))))
set_option maxRecDepth 100000 in
set_option maxHeartbeats 4000000 in
theorem c_X5_put (l : Launch) (E : xE) (ad : Nat → Nat) (μ : xM) (q1 : Nat) (p2 : Int32) (p3 : Int32) (hk_q1 : kd q1 = 11) (Qm : xM → Prop) (hq : p_X5_put q1 p2 p3 μ Qm) : xMv l yX5_put tX5_put ({ frames := 1, cells := 0, slots := 0, locals := 40 } : Room) E ad μ [.ref (ad q1), .int p2, .int p3] Qm := by
  refine x_stv (cc := cX5_put) (maxL := 3) (ret := none) (own := RX5) rfl (by decide) rfl (Nat.le_of_ble_eq_true rfl) ?_
  intro p e s m args below meth c ls G hr hA hH hl
  obtain ⟨hx, hb, hml, hown, hts, hKn, hN, hlk⟩ := id G
  have hl : lv_has ls 3 [(0, .ref (ad q1)), (1, .int p2), (2, .int p3)] := hl
  have hH : xH E ad (xA ad s.heap.size) s.heap μ s.heap [] := hH
  unfold p_X5_put at hq
  refine lv_iload_n hx hb dX5_put_0 rfl (lv_at hl 1 rfl) ?_
  refine lv_if_lt (tgt := 14) hx hb dX5_put_1 (by decide) (fun c1 => ?_) (fun c1 => ?_)
  · have hq := hq.1 c1
    exact x_vret G hr hH hq dX5_put_14
  · have hq := hq.2 c1
    refine lv_iload_n hx hb dX5_put_4 rfl (lv_at hl 1 rfl) ?_
    refine lv_aload_n hx hb dX5_put_5 rfl (lv_at hl 0 rfl) ?_
    refine x_alen G hH hk_q1 rfl dX5_put_6 ?_
    refine lv_icmp_ge (tgt := 14) hx hb dX5_put_7 (by decide) (fun c2 => ?_) (fun c2 => ?_)
    · have hq := hq.1 c2
      exact x_vret G hr hH hq dX5_put_14
    · have hq := hq.2 c2
      refine lv_aload_n hx hb dX5_put_10 rfl (lv_at hl 0 rfl) ?_
      refine lv_iload_n hx hb dX5_put_11 rfl (lv_at hl 1 rfl) ?_
      refine lv_iload_n hx hb dX5_put_12 rfl (lv_at hl 2 rfl) ?_
      refine x_iast G hH hk_q1 hq.1 dX5_put_13 (fun μ3 e_μ3 H locs hH => ?_)
      have hq := hq.2 μ3 e_μ3
      exact x_vret G hr hH hq dX5_put_14

abbrev tX5_copy : List Cond := Cond.code yX5_copy cX5_copy 3 none :: wsL_law
theorem mt_X5_copy : Cond.static yX5_copy ∈ wsL_law := (wm_9 _ (List.mem_of_getElem? (i := 0) rfl))
theorem mc_X5_copy : Cond.code yX5_copy cX5_copy 3 none ∈ wsL_law := (wm_9 _ (List.mem_of_getElem? (i := 2) rfl))
theorem md_X5_copy : yX5_copy.cls ≠ "java/lang/invoke/MethodHandle" ∧ yX5_copy.cls ≠ "java/lang/invoke/VarHandle" ∧ (parseMethodDescriptor yX5_copy.desc).map (fun d => d.parameters.length) = some 2 := by decide +kernel
def B_X5_copy_2 (q1 : Nat) (q2 : Nat) (a3 : Int32) (μ5 : xM) (K20 : xM → Prop) (K2b : Int32 → xM → Prop) : Prop := (((Int32.ofNat (ln q1)) ≤ a3 → K20  μ5) ∧ (¬ (Int32.ofNat (ln q1)) ≤ a3 → (((Int32.ofNat (ln q2)) ≤ a3 → K20  μ5) ∧ (¬ (Int32.ofNat (ln q2)) ≤ a3 → (vp_in a3 (ln q1) ∧ (vp_in a3 (ln q2) ∧ ∀ μ11 : xM, μ11 = xi μ5 q2 a3.toNatClampNeg (μ5.1 q1 a3.toNatClampNeg) → (∀ v12 : Int32, v12 = (a3 + (1 : Int32)) → K2b v12 μ11)))))))
def L_X5_copy_2 (q1 : Nat) (q2 : Nat) : Nat → Int32 → xM → (xM → Prop) → Prop
  | 0, _, _, _ => False
  | n + 1, a3, μ5, K20 => B_X5_copy_2 q1 q2 a3 μ5 K20 (fun x0 y => L_X5_copy_2 q1 q2 n x0 y K20)
def p_X5_copy (q1 : Nat) (q2 : Nat) (μ : xM) (Qm : xM → Prop) : Prop := (∃ n4 : Nat, L_X5_copy_2 q1 q2 n4 (0 : Int32) μ (fun  μ13 => Qm μ13))
set_option maxRecDepth 100000 in
set_option maxHeartbeats 4000000 in
theorem wb_X5_copy_2 {E : xE} {ad : Nat → Nat} {p : Program} {l : Launch} {e : Env} {s : State} {m : MethodId} {args : Array Value} {below : List Frame} {meth : Method} {c : Code} {Q : State → Prop} (G : xG E p s m args meth c cX5_copy 3 RX5) (hA : ∀ a, s.heap.size ≤ a → xA ad s.heap.size a) (q1 : Nat) (q2 : Nat) (hk_q1 : kd q1 = 11) (hk_q2 : kd q2 = 11) (a3 : Int32) (μ5 : xM) (K20 : xM → Prop) (K2b : Int32 → xM → Prop) (hq : B_X5_copy_2 q1 q2 a3 μ5 K20 K2b) {H : Heap} {locs : List Loc} {ls : Array Slot} (hH : xH E ad (xA ad s.heap.size) s.heap μ5 H locs) (hl : lv_has ls 3 [(0, .ref (ad q1)), (1, .ref (ad q2)), (2, .int a3)]) (kK20 : ∀ (μ6 : xM), K20  μ6 → ∀ (H : Heap) (locs : List Loc) (ls : Array Slot), xH E ad (xA ad s.heap.size) s.heap μ6 H locs → lv_has ls 3 [] → W p l e (headSpec tX5_copy ({ frames := 1, cells := 0, slots := 0, locals := 40 } : Room)).room s m args below meth c H locs 0 0 Q (F0 m 26 ls [])) (kK2b : ∀ (a7 : Int32) (μ8 : xM), K2b a7 μ8 → ∀ (H : Heap) (locs : List Loc) (ls : Array Slot), xH E ad (xA ad s.heap.size) s.heap μ8 H locs → lv_has ls 3 [(0, .ref (ad q1)), (1, .ref (ad q2)), (2, .int a7)] → W p l e (headSpec tX5_copy ({ frames := 1, cells := 0, slots := 0, locals := 40 } : Room)).room s m args below meth c H locs 0 0 Q (F0 m 2 ls [])) : W p l e (headSpec tX5_copy ({ frames := 1, cells := 0, slots := 0, locals := 40 } : Room)).room s m args below meth c H locs 0 0 Q (F0 m 2 ls []) := by
  obtain ⟨hx, hb, hml, hown, hts, hKn, hN, hlk⟩ := id G
  unfold B_X5_copy_2 at hq
  refine lv_iload_n hx hb dX5_copy_2 rfl (lv_at hl 2 rfl) ?_
  refine lv_aload_n hx hb dX5_copy_3 rfl (lv_at hl 0 rfl) ?_
  refine x_alen G hH hk_q1 rfl dX5_copy_4 ?_
  refine lv_icmp_ge (tgt := 26) hx hb dX5_copy_5 (by decide) (fun c9 => ?_) (fun c9 => ?_)
  · have hq := hq.1 c9
    exact kK20  μ5 hq _ _ _ hH (lv_sub hl [] rfl)
  · have hq := hq.2 c9
    refine lv_iload_n hx hb dX5_copy_8 rfl (lv_at hl 2 rfl) ?_
    refine lv_aload_n hx hb dX5_copy_9 rfl (lv_at hl 1 rfl) ?_
    refine x_alen G hH hk_q2 rfl dX5_copy_10 ?_
    refine lv_icmp_ge (tgt := 26) hx hb dX5_copy_11 (by decide) (fun c10 => ?_) (fun c10 => ?_)
    · have hq := hq.1 c10
      exact kK20  μ5 hq _ _ _ hH (lv_sub hl [] rfl)
    · have hq := hq.2 c10
      refine lv_aload_n hx hb dX5_copy_14 rfl (lv_at hl 1 rfl) ?_
      refine lv_iload_n hx hb dX5_copy_15 rfl (lv_at hl 2 rfl) ?_
      refine lv_aload_n hx hb dX5_copy_16 rfl (lv_at hl 0 rfl) ?_
      refine lv_iload_n hx hb dX5_copy_17 rfl (lv_at hl 2 rfl) ?_
      refine x_iald G hH hk_q1 hq.1 dX5_copy_18 ?_
      have hq := hq.2
      refine x_iast G hH hk_q2 hq.1 dX5_copy_19 (fun μ11 e_μ11 H locs hH => ?_)
      have hq := hq.2 μ11 e_μ11
      obtain ⟨v12, e_v12⟩ : ∃ y : Int32, y = (a3 + (1 : Int32)) := ⟨_, rfl⟩
      have hq := hq v12 e_v12
      refine lv_iinc (v := v12) (lv' := [(2, .int v12), (0, .ref (ad q1)), (1, .ref (ad q2))]) hx hb dX5_copy_20 hl (k := 2) rfl (by rw [e_v12]; rfl) (by decide) rfl (fun ls hl => ?_)
      refine lv_goto (tgt := 2) hx hb dX5_copy_23 (by decide) ?_
      exact kK2b v12 μ11 hq _ _ _ hH (lv_sub hl [1, 2, 0] rfl)
set_option maxRecDepth 100000 in
set_option maxHeartbeats 4000000 in
theorem w_X5_copy_2 {E : xE} {ad : Nat → Nat} {p : Program} {l : Launch} {e : Env} {s : State} {m : MethodId} {args : Array Value} {below : List Frame} {meth : Method} {c : Code} {Q : State → Prop} (G : xG E p s m args meth c cX5_copy 3 RX5) (hA : ∀ a, s.heap.size ≤ a → xA ad s.heap.size a) (q1 : Nat) (q2 : Nat) (hk_q1 : kd q1 = 11) (hk_q2 : kd q2 = 11) : ∀ (n : Nat) (a3 : Int32) (μ5 : xM) (K20 : xM → Prop) (hq : L_X5_copy_2 q1 q2 n a3 μ5 K20) (H : Heap) (locs : List Loc) (ls : Array Slot) (hH : xH E ad (xA ad s.heap.size) s.heap μ5 H locs) (hl : lv_has ls 3 [(0, .ref (ad q1)), (1, .ref (ad q2)), (2, .int a3)]) (kK20 : ∀ (μ6 : xM), K20  μ6 → ∀ (H : Heap) (locs : List Loc) (ls : Array Slot), xH E ad (xA ad s.heap.size) s.heap μ6 H locs → lv_has ls 3 [] → W p l e (headSpec tX5_copy ({ frames := 1, cells := 0, slots := 0, locals := 40 } : Room)).room s m args below meth c H locs 0 0 Q (F0 m 26 ls [])) , W p l e (headSpec tX5_copy ({ frames := 1, cells := 0, slots := 0, locals := 40 } : Room)).room s m args below meth c H locs 0 0 Q (F0 m 2 ls [])
  | 0, _, _, _, hq, _, _, _, _, _, _ => hq.elim
  | n + 1, a3, μ5, K20, hq, H, locs, ls, hH, hl, kK20 => wb_X5_copy_2 G hA q1 q2 hk_q1 hk_q2 a3 μ5 K20 _ hq hH hl kK20 (fun x0 y hq H locs ls hH hl => w_X5_copy_2 G hA q1 q2 hk_q1 hk_q2 n x0 y K20 hq H locs ls hH hl kK20)
set_option maxRecDepth 100000 in
set_option maxHeartbeats 4000000 in
theorem c_X5_copy (l : Launch) (E : xE) (ad : Nat → Nat) (μ : xM) (q1 : Nat) (q2 : Nat) (hk_q1 : kd q1 = 11) (hk_q2 : kd q2 = 11) (Qm : xM → Prop) (hq : p_X5_copy q1 q2 μ Qm) : xMv l yX5_copy tX5_copy ({ frames := 1, cells := 0, slots := 0, locals := 40 } : Room) E ad μ [.ref (ad q1), .ref (ad q2)] Qm := by
  refine x_stv (cc := cX5_copy) (maxL := 3) (ret := none) (own := RX5) rfl (by decide) rfl (Nat.le_of_ble_eq_true rfl) ?_
  intro p e s m args below meth c ls G hr hA hH hl
  obtain ⟨hx, hb, hml, hown, hts, hKn, hN, hlk⟩ := id G
  have hl : lv_has ls 3 [(0, .ref (ad q1)), (1, .ref (ad q2))] := hl
  have hH : xH E ad (xA ad s.heap.size) s.heap μ s.heap [] := hH
  unfold p_X5_copy at hq
  refine lv_iconst (v := (0 : Int32)) hx hb dX5_copy_0 (by decide) ?_
  refine lv_istore_n (lv' := [(2, .int (0 : Int32)), (0, .ref (ad q1)), (1, .ref (ad q2))]) hx hb dX5_copy_1 rfl hl (by decide) rfl (fun ls hl => ?_)
  obtain ⟨n4, hq⟩ := hq
  refine w_X5_copy_2 G hA q1 q2 hk_q1 hk_q2 n4 (0 : Int32) μ _ hq _ _ _ hH (lv_sub hl [1, 2, 0] rfl) (fun  μ13 hq H locs ls hH hl => ?_)
  exact x_vret G hr hH hq dX5_copy_26

abbrev tX11_within : List Cond := Cond.code yX11_within cX11_within 3 (some .boolean) :: wsL_law
theorem mt_X11_within : Cond.static yX11_within ∈ wsL_law := (wm_7 _ (List.mem_of_getElem? (i := 21) rfl))
theorem mc_X11_within : Cond.code yX11_within cX11_within 3 (some .boolean) ∈ wsL_law := (wm_7 _ (List.mem_of_getElem? (i := 22) rfl))
theorem md_X11_within : yX11_within.cls ≠ "java/lang/invoke/MethodHandle" ∧ yX11_within.cls ≠ "java/lang/invoke/VarHandle" ∧ (parseMethodDescriptor yX11_within.desc).map (fun d => d.parameters.length) = some 3 := by decide +kernel
def p_X11_within (p1 : Int32) (p2 : Int32) (p3 : Int32) (μ : xM) (Qm : Int32 → xM → Prop) : Prop := ((p1 < p2 → Qm (0 : Int32) μ) ∧ (¬ p1 < p2 → ((p3 < p1 → Qm (0 : Int32) μ) ∧ (¬ p3 < p1 → Qm (1 : Int32) μ))))
set_option maxRecDepth 100000 in
set_option maxHeartbeats 4000000 in
theorem c_X11_within (l : Launch) (E : xE) (ad : Nat → Nat) (μ : xM) (p1 : Int32) (p2 : Int32) (p3 : Int32) (Qm : Int32 → xM → Prop) (hq : p_X11_within p1 p2 p3 μ Qm) : xMi l yX11_within tX11_within ({ frames := 1, cells := 0, slots := 0, locals := 40 } : Room) E ad μ [.int p1, .int p2, .int p3] Qm := by
  refine x_sti (cc := cX11_within) (maxL := 3) (ret := (some .boolean)) (own := RX11) rfl (by decide) rfl (Nat.le_of_ble_eq_true rfl) ?_
  intro p e s m args below meth c ls G hr hA hH hl
  obtain ⟨hx, hb, hml, hown, hts, hKn, hN, hlk⟩ := id G
  have hl : lv_has ls 3 [(0, .int p1), (1, .int p2), (2, .int p3)] := hl
  have hH : xH E ad (xA ad s.heap.size) s.heap μ s.heap [] := hH
  unfold p_X11_within at hq
  refine lv_iload_n hx hb dX11_within_0 rfl (lv_at hl 0 rfl) ?_
  refine lv_iload_n hx hb dX11_within_1 rfl (lv_at hl 1 rfl) ?_
  refine lv_icmp_lt (tgt := 14) hx hb dX11_within_2 (by decide) (fun c1 => ?_) (fun c1 => ?_)
  · have hq := hq.1 c1
    refine lv_iconst (v := (0 : Int32)) hx hb dX11_within_14 (by decide) ?_
    exact x_zret G hr hH xz_0 hq dX11_within_15
  · have hq := hq.2 c1
    refine lv_iload_n hx hb dX11_within_5 rfl (lv_at hl 0 rfl) ?_
    refine lv_iload_n hx hb dX11_within_6 rfl (lv_at hl 2 rfl) ?_
    refine lv_icmp_gt (tgt := 14) hx hb dX11_within_7 (by decide) (fun c2 => ?_) (fun c2 => ?_)
    · have hq := hq.1 c2
      refine lv_iconst (v := (0 : Int32)) hx hb dX11_within_14 (by decide) ?_
      exact x_zret G hr hH xz_0 hq dX11_within_15
    · have hq := hq.2 c2
      refine lv_iconst (v := (1 : Int32)) hx hb dX11_within_10 (by decide) ?_
      refine lv_goto (tgt := 15) hx hb dX11_within_11 (by decide) ?_
      exact x_zret G hr hH xz_1 hq dX11_within_15

abbrev tX0_has : List Cond := Cond.code yX0_has cX0_has 2 (some .boolean) :: wsL_law
theorem mi_X0_has : Cond.instanceMethod yX0_has ∈ wsL_law := (wm_11 _ (List.mem_of_getElem? (i := 23) rfl))
theorem ms_X0_has : Cond.selects RX0 yX0_has yX0_has ∈ wsL_law := (wm_12 _ (List.mem_of_getElem? (i := 0) rfl))
theorem mc_X0_has : Cond.code yX0_has cX0_has 2 (some .boolean) ∈ wsL_law := (wm_12 _ (List.mem_of_getElem? (i := 1) rfl))
theorem md_X0_has : yX0_has.cls ≠ "java/lang/invoke/MethodHandle" ∧ yX0_has.cls ≠ "java/lang/invoke/VarHandle" ∧ (parseMethodDescriptor yX0_has.desc).map (fun d => d.parameters.length) = some 1 := by decide +kernel
def p_X0_has (q0 : Nat) (p1 : Int32) (μ : xM) (Qm : Int32 → xM → Prop) : Prop := ((p1 < (0 : Int32) → Qm (0 : Int32) μ) ∧ (¬ p1 < (0 : Int32) → (((μ.1 q0 0) ≤ p1 → Qm (0 : Int32) μ) ∧ (¬ (μ.1 q0 0) ≤ p1 → Qm (1 : Int32) μ))))
set_option maxRecDepth 100000 in
set_option maxHeartbeats 4000000 in
theorem c_X0_has (l : Launch) (E : xE) (ad : Nat → Nat) (μ : xM) (q0 : Nat) (p1 : Int32) (hk_q0 : kd q0 = 0) (Qm : Int32 → xM → Prop) (hq : p_X0_has q0 p1 μ Qm) : xMi l yX0_has tX0_has ({ frames := 1, cells := 0, slots := 0, locals := 40 } : Room) E ad μ [.ref (ad q0), .int p1] Qm := by
  refine x_sti (cc := cX0_has) (maxL := 2) (ret := (some .boolean)) (own := RX0) rfl (by decide) rfl (Nat.le_of_ble_eq_true rfl) ?_
  intro p e s m args below meth c ls G hr hA hH hl
  obtain ⟨hx, hb, hml, hown, hts, hKn, hN, hlk⟩ := id G
  have hl : lv_has ls 2 [(0, .ref (ad q0)), (1, .int p1)] := hl
  have hH : xH E ad (xA ad s.heap.size) s.heap μ s.heap [] := hH
  unfold p_X0_has at hq
  refine lv_iload_n hx hb dX0_has_0 rfl (lv_at hl 1 rfl) ?_
  refine lv_if_lt (tgt := 16) hx hb dX0_has_1 (by decide) (fun c1 => ?_) (fun c1 => ?_)
  · have hq := hq.1 c1
    refine lv_iconst (v := (0 : Int32)) hx hb dX0_has_16 (by decide) ?_
    exact x_zret G hr hH xz_0 hq dX0_has_17
  · have hq := hq.2 c1
    refine lv_iload_n hx hb dX0_has_4 rfl (lv_at hl 1 rfl) ?_
    refine lv_aload_n hx hb dX0_has_5 rfl (lv_at hl 0 rfl) ?_
    refine x_get (j := 0) (C := RX0) (T := TX0) (N := 9) (v := .int (μ.1 q0 0)) G hH hk_q0 (by decide) rfl inlX0 (by decide) (wm_3 _ (List.mem_of_getElem? (i := 3) rfl)) rfl dX0_has_6 ?_
    refine lv_icmp_ge (tgt := 16) hx hb dX0_has_9 (by decide) (fun c2 => ?_) (fun c2 => ?_)
    · have hq := hq.1 c2
      refine lv_iconst (v := (0 : Int32)) hx hb dX0_has_16 (by decide) ?_
      exact x_zret G hr hH xz_0 hq dX0_has_17
    · have hq := hq.2 c2
      refine lv_iconst (v := (1 : Int32)) hx hb dX0_has_12 (by decide) ?_
      refine lv_goto (tgt := 17) hx hb dX0_has_13 (by decide) ?_
      exact x_zret G hr hH xz_1 hq dX0_has_17

abbrev tX0_placeOf : List Cond := Cond.code yX0_placeOf cX0_placeOf 2 (some .int) :: wsL_law
theorem mi_X0_placeOf : Cond.instanceMethod yX0_placeOf ∈ wsL_law := (wm_12 _ (List.mem_of_getElem? (i := 4) rfl))
theorem ms_X0_placeOf : Cond.selects RX0 yX0_placeOf yX0_placeOf ∈ wsL_law := (wm_12 _ (List.mem_of_getElem? (i := 5) rfl))
theorem mc_X0_placeOf : Cond.code yX0_placeOf cX0_placeOf 2 (some .int) ∈ wsL_law := (wm_12 _ (List.mem_of_getElem? (i := 6) rfl))
theorem md_X0_placeOf : yX0_placeOf.cls ≠ "java/lang/invoke/MethodHandle" ∧ yX0_placeOf.cls ≠ "java/lang/invoke/VarHandle" ∧ (parseMethodDescriptor yX0_placeOf.desc).map (fun d => d.parameters.length) = some 1 := by decide +kernel
def p_X0_placeOf (q0 : Nat) (p1 : Int32) (μ : xM) (Qm : Int32 → xM → Prop) : Prop := (p_X5_at (rt q0 7) p1 μ (fun r2 μ1 => Qm r2 μ1))
set_option maxRecDepth 100000 in
set_option maxHeartbeats 4000000 in
theorem c_X0_placeOf (l : Launch) (E : xE) (ad : Nat → Nat) (μ : xM) (q0 : Nat) (p1 : Int32) (hk_q0 : kd q0 = 0) (Qm : Int32 → xM → Prop) (hq : p_X0_placeOf q0 p1 μ Qm) : xMi l yX0_placeOf tX0_placeOf ({ frames := 2, cells := 0, slots := 0, locals := 80 } : Room) E ad μ [.ref (ad q0), .int p1] Qm := by
  refine x_sti (cc := cX0_placeOf) (maxL := 2) (ret := (some .int)) (own := RX0) rfl (by decide) rfl (Nat.le_of_ble_eq_true rfl) ?_
  intro p e s m args below meth c ls G hr hA hH hl
  obtain ⟨hx, hb, hml, hown, hts, hKn, hN, hlk⟩ := id G
  have hl : lv_has ls 2 [(0, .ref (ad q0)), (1, .int p1)] := hl
  have hH : xH E ad (xA ad s.heap.size) s.heap μ s.heap [] := hH
  unfold p_X0_placeOf at hq
  refine lv_aload_n hx hb dX0_placeOf_0 rfl (lv_at hl 0 rfl) ?_
  refine x_get (j := 7) (C := RX0) (T := TX0) (N := 9) (v := .ref (ad (rt q0 7))) G hH hk_q0 (by decide) rfl inlX0 (by decide) (wm_3 _ (List.mem_of_getElem? (i := 11) rfl)) rfl dX0_placeOf_1 ?_
  refine lv_iload_n hx hb dX0_placeOf_4 rfl (lv_at hl 1 rfl) ?_
  refine x_cSi (As := [.ref (ad (rt q0 7)), .int p1]) (rest := []) G hH hA (c_X5_at l E ad μ (rt q0 7) p1 (kt_0_7 _ hk_q0) _ hq) (wm_10 _ (List.mem_of_getElem? (i := 3) rfl)) mt_X5_at mn_RX5 mc_X5_at md_X5_at ⟨rfl, rfl, Nat.le_of_ble_eq_true rfl, Nat.le_of_ble_eq_true rfl⟩ rfl hl.1 rfl (Nat.le_of_ble_eq_true rfl) dX0_placeOf_5 ⟨Nat.zero_le _, Nat.zero_le _⟩ (fun r2 μ1 hq H locs hH => ?_)
  exact x_iret G hr hH hq dX0_placeOf_8

abbrev tX1_moved : List Cond := Cond.code yX1_moved cX1_moved 8 (some .int) :: wsL_law
theorem mt_X1_moved : Cond.static yX1_moved ∈ wsL_law := (wm_10 _ (List.mem_of_getElem? (i := 7) rfl))
theorem mc_X1_moved : Cond.code yX1_moved cX1_moved 8 (some .int) ∈ wsL_law := (wm_10 _ (List.mem_of_getElem? (i := 9) rfl))
theorem md_X1_moved : yX1_moved.cls ≠ "java/lang/invoke/MethodHandle" ∧ yX1_moved.cls ≠ "java/lang/invoke/VarHandle" ∧ (parseMethodDescriptor yX1_moved.desc).map (fun d => d.parameters.length) = some 3 := by decide +kernel
def J_X1_moved_53 (a1 : Int32) (a2 : Int32) (a3 : Int32) (a24 : Int32) (a25 : Int32) (a26 : Int32) (a27 : Int32) (a28 : Int32) (μ29 : xM) (K50 : Int32 → xM → Prop) (K5b : Int32 → Int32 → xM → Prop) : Prop := ((a28 = (0 : Int32) → (∀ v31 : Int32, v31 = (a26 + (1 : Int32)) → K5b v31 a27 μ29)) ∧ (¬ a28 = (0 : Int32) → ((¬ ((uS a1 a26) &&& (1 : Int32)) = (1 : Int32) → (∀ v33 : Int32, v33 = (a26 + (1 : Int32)) → K5b v33 a27 μ29)) ∧ (((uS a1 a26) &&& (1 : Int32)) = (1 : Int32) → (∀ v34 : Int32, v34 = (a27 ||| ((1 : Int32) <<< (((a24 * (4 : Int32)) + a25) &&& 31))) → (∀ v35 : Int32, v35 = (a26 + (1 : Int32)) → K5b v35 v34 μ29))))))
def J_X1_moved_52 (a1 : Int32) (a2 : Int32) (a3 : Int32) (a19 : Int32) (a20 : Int32) (a21 : Int32) (a22 : Int32) (μ23 : xM) (K50 : Int32 → xM → Prop) (K5b : Int32 → Int32 → xM → Prop) : Prop := J_X1_moved_53 a1 a2 a3 a19 a20 a21 a22 (0 : Int32) μ23 K50 K5b
def B_X1_moved_5 (a1 : Int32) (a2 : Int32) (a3 : Int32) (a4 : Int32) (a5 : Int32) (μ7 : xM) (K50 : Int32 → xM → Prop) (K5b : Int32 → Int32 → xM → Prop) : Prop := (((16 : Int32) ≤ a4 → K50 a5 μ7) ∧ (¬ (16 : Int32) ≤ a4 → (∀ v14 : Int32, v14 = ((a4 - a4 / (4 : Int32) * (4 : Int32)) + a2) → (∀ v15 : Int32, v15 = ((a4 / (4 : Int32)) + a3) → (p_X11_within v14 (0 : Int32) (3 : Int32) μ7 (fun r17 μ16 => ((r17 = (0 : Int32) → J_X1_moved_52 a1 a2 a3 v15 v14 a4 a5 μ16 K50 K5b) ∧ (¬ r17 = (0 : Int32) → (p_X11_within v15 (0 : Int32) (3 : Int32) μ16 (fun r37 μ36 => ((r37 = (0 : Int32) → J_X1_moved_52 a1 a2 a3 v15 v14 a4 a5 μ36 K50 K5b) ∧ (¬ r37 = (0 : Int32) → J_X1_moved_53 a1 a2 a3 v15 v14 a4 a5 (1 : Int32) μ36 K50 K5b))))))))))))
def L_X1_moved_5 (a1 : Int32) (a2 : Int32) (a3 : Int32) : Nat → Int32 → Int32 → xM → (Int32 → xM → Prop) → Prop
  | 0, _, _, _, _ => False
  | n + 1, a4, a5, μ7, K50 => B_X1_moved_5 a1 a2 a3 a4 a5 μ7 K50 (fun x0 x1 y => L_X1_moved_5 a1 a2 a3 n x0 x1 y K50)
def p_X1_moved (p1 : Int32) (p2 : Int32) (p3 : Int32) (μ : xM) (Qm : Int32 → xM → Prop) : Prop := (∃ n6 : Nat, L_X1_moved_5 p1 p2 p3 n6 (0 : Int32) (0 : Int32) μ (fun a48 μ49 => Qm a48 μ49))
set_option maxRecDepth 100000 in
set_option maxHeartbeats 4000000 in
theorem wj_X1_moved_53 {E : xE} {ad : Nat → Nat} {p : Program} {l : Launch} {e : Env} {s : State} {m : MethodId} {args : Array Value} {below : List Frame} {meth : Method} {c : Code} {Q : State → Prop} (G : xG E p s m args meth c cX1_moved 8 RX1) (hA : ∀ a, s.heap.size ≤ a → xA ad s.heap.size a) (a1 : Int32) (a2 : Int32) (a3 : Int32) (a24 : Int32) (a25 : Int32) (a26 : Int32) (a27 : Int32) (a28 : Int32) (μ29 : xM) (K50 : Int32 → xM → Prop) (K5b : Int32 → Int32 → xM → Prop) (hq : J_X1_moved_53 a1 a2 a3 a24 a25 a26 a27 a28 μ29 K50 K5b) {H : Heap} {locs : List Loc} {ls : Array Slot} (hH : xH E ad (xA ad s.heap.size) s.heap μ29 H locs) (hl : lv_has ls 8 [(6, .int a24), (5, .int a25), (0, .int a1), (1, .int a2), (2, .int a3), (4, .int a26), (3, .int a27)]) (kK50 : ∀ (a8 : Int32) (μ9 : xM), K50 a8 μ9 → ∀ (H : Heap) (locs : List Loc) (ls : Array Slot), xH E ad (xA ad s.heap.size) s.heap μ9 H locs → lv_has ls 8 [(3, .int a8)] → W p l e (headSpec tX1_moved ({ frames := 2, cells := 0, slots := 0, locals := 80 } : Room)).room s m args below meth c H locs 0 0 Q (F0 m 88 ls [])) (kK5b : ∀ (a10 : Int32) (a11 : Int32) (μ12 : xM), K5b a10 a11 μ12 → ∀ (H : Heap) (locs : List Loc) (ls : Array Slot), xH E ad (xA ad s.heap.size) s.heap μ12 H locs → lv_has ls 8 [(0, .int a1), (1, .int a2), (2, .int a3), (4, .int a10), (3, .int a11)] → W p l e (headSpec tX1_moved ({ frames := 2, cells := 0, slots := 0, locals := 80 } : Room)).room s m args below meth c H locs 0 0 Q (F0 m 5 ls [])) : W p l e (headSpec tX1_moved ({ frames := 2, cells := 0, slots := 0, locals := 80 } : Room)).room s m args below meth c H locs 0 0 Q (F0 m 53 ls [.int a28]) := by
  obtain ⟨hx, hb, hml, hown, hts, hKn, hN, hlk⟩ := id G
  unfold J_X1_moved_53 at hq
  refine lv_istore (lv' := [(7, .int a28), (6, .int a24), (5, .int a25), (0, .int a1), (1, .int a2), (2, .int a3), (4, .int a26), (3, .int a27)]) hx hb dX1_moved_53 hl (by decide) rfl (fun ls hl => ?_)
  refine lv_iload hx hb dX1_moved_55 (lv_at hl 0 rfl) ?_
  refine lv_if_eq (tgt := 82) hx hb dX1_moved_57 (by decide) (fun c30 => ?_) (fun c30 => ?_)
  · have hq := hq.1 c30
    obtain ⟨v31, e_v31⟩ : ∃ y : Int32, y = (a26 + (1 : Int32)) := ⟨_, rfl⟩
    have hq := hq v31 e_v31
    refine lv_iinc (v := v31) (lv' := [(4, .int v31), (7, .int a28), (6, .int a24), (5, .int a25), (0, .int a1), (1, .int a2), (2, .int a3), (3, .int a27)]) hx hb dX1_moved_82 hl (k := 6) rfl (by rw [e_v31]; rfl) (by decide) rfl (fun ls hl => ?_)
    refine lv_goto (tgt := 5) hx hb dX1_moved_85 (by decide) ?_
    exact kK5b v31 a27 μ29 hq _ _ _ hH (lv_sub hl [4, 5, 6, 0, 7] rfl)
  · have hq := hq.2 c30
    refine lv_iload_n hx hb dX1_moved_60 rfl (lv_at hl 3 rfl) ?_
    refine lv_iload hx hb dX1_moved_61 (lv_at hl 6 rfl) ?_
    refine lv_iushr (v := (uS a1 a26)) hx hb dX1_moved_63 rfl ?_
    refine lv_iconst (v := (1 : Int32)) hx hb dX1_moved_64 (by decide) ?_
    refine lv_iand hx hb dX1_moved_65 ?_
    refine lv_iconst (v := (1 : Int32)) hx hb dX1_moved_66 (by decide) ?_
    refine lv_icmp_ne (tgt := 82) hx hb dX1_moved_67 (by decide) (fun c32 => ?_) (fun c32 => ?_)
    · have hq := hq.1 c32
      obtain ⟨v33, e_v33⟩ : ∃ y : Int32, y = (a26 + (1 : Int32)) := ⟨_, rfl⟩
      have hq := hq v33 e_v33
      refine lv_iinc (v := v33) (lv' := [(4, .int v33), (7, .int a28), (6, .int a24), (5, .int a25), (0, .int a1), (1, .int a2), (2, .int a3), (3, .int a27)]) hx hb dX1_moved_82 hl (k := 6) rfl (by rw [e_v33]; rfl) (by decide) rfl (fun ls hl => ?_)
      refine lv_goto (tgt := 5) hx hb dX1_moved_85 (by decide) ?_
      exact kK5b v33 a27 μ29 hq _ _ _ hH (lv_sub hl [4, 5, 6, 0, 7] rfl)
    · have hq := hq.2 c32
      refine lv_iload_n hx hb dX1_moved_70 rfl (lv_at hl 7 rfl) ?_
      refine lv_iconst (v := (1 : Int32)) hx hb dX1_moved_71 (by decide) ?_
      refine lv_iload hx hb dX1_moved_72 (lv_at hl 1 rfl) ?_
      refine lv_iconst (v := (4 : Int32)) hx hb dX1_moved_74 (by decide) ?_
      refine lv_imul hx hb dX1_moved_75 ?_
      refine lv_iload hx hb dX1_moved_76 (lv_at hl 2 rfl) ?_
      refine lv_iadd hx hb dX1_moved_78 ?_
      refine lv_ishl hx hb dX1_moved_79 ?_
      refine lv_ior hx hb dX1_moved_80 ?_
      refine lv_topi (fun v34 e_v34 => ?_)
      have hq := hq v34 e_v34
      refine lv_istore_n (lv' := [(3, .int v34), (7, .int a28), (6, .int a24), (5, .int a25), (0, .int a1), (1, .int a2), (2, .int a3), (4, .int a26)]) hx hb dX1_moved_81 rfl hl (by decide) rfl (fun ls hl => ?_)
      obtain ⟨v35, e_v35⟩ : ∃ y : Int32, y = (a26 + (1 : Int32)) := ⟨_, rfl⟩
      have hq := hq v35 e_v35
      refine lv_iinc (v := v35) (lv' := [(4, .int v35), (3, .int v34), (7, .int a28), (6, .int a24), (5, .int a25), (0, .int a1), (1, .int a2), (2, .int a3)]) hx hb dX1_moved_82 hl (k := 7) rfl (by rw [e_v35]; rfl) (by decide) rfl (fun ls hl => ?_)
      refine lv_goto (tgt := 5) hx hb dX1_moved_85 (by decide) ?_
      exact kK5b v35 v34 μ29 hq _ _ _ hH (lv_sub hl [5, 6, 7, 0, 1] rfl)
set_option maxRecDepth 100000 in
set_option maxHeartbeats 4000000 in
theorem wj_X1_moved_52 {E : xE} {ad : Nat → Nat} {p : Program} {l : Launch} {e : Env} {s : State} {m : MethodId} {args : Array Value} {below : List Frame} {meth : Method} {c : Code} {Q : State → Prop} (G : xG E p s m args meth c cX1_moved 8 RX1) (hA : ∀ a, s.heap.size ≤ a → xA ad s.heap.size a) (a1 : Int32) (a2 : Int32) (a3 : Int32) (a19 : Int32) (a20 : Int32) (a21 : Int32) (a22 : Int32) (μ23 : xM) (K50 : Int32 → xM → Prop) (K5b : Int32 → Int32 → xM → Prop) (hq : J_X1_moved_52 a1 a2 a3 a19 a20 a21 a22 μ23 K50 K5b) {H : Heap} {locs : List Loc} {ls : Array Slot} (hH : xH E ad (xA ad s.heap.size) s.heap μ23 H locs) (hl : lv_has ls 8 [(6, .int a19), (5, .int a20), (0, .int a1), (1, .int a2), (2, .int a3), (4, .int a21), (3, .int a22)]) (kK50 : ∀ (a8 : Int32) (μ9 : xM), K50 a8 μ9 → ∀ (H : Heap) (locs : List Loc) (ls : Array Slot), xH E ad (xA ad s.heap.size) s.heap μ9 H locs → lv_has ls 8 [(3, .int a8)] → W p l e (headSpec tX1_moved ({ frames := 2, cells := 0, slots := 0, locals := 80 } : Room)).room s m args below meth c H locs 0 0 Q (F0 m 88 ls [])) (kK5b : ∀ (a10 : Int32) (a11 : Int32) (μ12 : xM), K5b a10 a11 μ12 → ∀ (H : Heap) (locs : List Loc) (ls : Array Slot), xH E ad (xA ad s.heap.size) s.heap μ12 H locs → lv_has ls 8 [(0, .int a1), (1, .int a2), (2, .int a3), (4, .int a10), (3, .int a11)] → W p l e (headSpec tX1_moved ({ frames := 2, cells := 0, slots := 0, locals := 80 } : Room)).room s m args below meth c H locs 0 0 Q (F0 m 5 ls [])) : W p l e (headSpec tX1_moved ({ frames := 2, cells := 0, slots := 0, locals := 80 } : Room)).room s m args below meth c H locs 0 0 Q (F0 m 52 ls []) := by
  obtain ⟨hx, hb, hml, hown, hts, hKn, hN, hlk⟩ := id G
  unfold J_X1_moved_52 at hq
  refine lv_iconst (v := (0 : Int32)) hx hb dX1_moved_52 (by decide) ?_
  exact wj_X1_moved_53 G hA a1 a2 a3 a19 a20 a21 a22 (0 : Int32)  μ23 _ _ hq hH (lv_sub hl [0, 1, 2, 3, 4, 5, 6] rfl) kK50 kK5b
set_option maxRecDepth 100000 in
set_option maxHeartbeats 4000000 in
theorem wb_X1_moved_5 {E : xE} {ad : Nat → Nat} {p : Program} {l : Launch} {e : Env} {s : State} {m : MethodId} {args : Array Value} {below : List Frame} {meth : Method} {c : Code} {Q : State → Prop} (G : xG E p s m args meth c cX1_moved 8 RX1) (hA : ∀ a, s.heap.size ≤ a → xA ad s.heap.size a) (a1 : Int32) (a2 : Int32) (a3 : Int32) (a4 : Int32) (a5 : Int32) (μ7 : xM) (K50 : Int32 → xM → Prop) (K5b : Int32 → Int32 → xM → Prop) (hq : B_X1_moved_5 a1 a2 a3 a4 a5 μ7 K50 K5b) {H : Heap} {locs : List Loc} {ls : Array Slot} (hH : xH E ad (xA ad s.heap.size) s.heap μ7 H locs) (hl : lv_has ls 8 [(0, .int a1), (1, .int a2), (2, .int a3), (4, .int a4), (3, .int a5)]) (kK50 : ∀ (a8 : Int32) (μ9 : xM), K50 a8 μ9 → ∀ (H : Heap) (locs : List Loc) (ls : Array Slot), xH E ad (xA ad s.heap.size) s.heap μ9 H locs → lv_has ls 8 [(3, .int a8)] → W p l e (headSpec tX1_moved ({ frames := 2, cells := 0, slots := 0, locals := 80 } : Room)).room s m args below meth c H locs 0 0 Q (F0 m 88 ls [])) (kK5b : ∀ (a10 : Int32) (a11 : Int32) (μ12 : xM), K5b a10 a11 μ12 → ∀ (H : Heap) (locs : List Loc) (ls : Array Slot), xH E ad (xA ad s.heap.size) s.heap μ12 H locs → lv_has ls 8 [(0, .int a1), (1, .int a2), (2, .int a3), (4, .int a10), (3, .int a11)] → W p l e (headSpec tX1_moved ({ frames := 2, cells := 0, slots := 0, locals := 80 } : Room)).room s m args below meth c H locs 0 0 Q (F0 m 5 ls [])) : W p l e (headSpec tX1_moved ({ frames := 2, cells := 0, slots := 0, locals := 80 } : Room)).room s m args below meth c H locs 0 0 Q (F0 m 5 ls []) := by
  obtain ⟨hx, hb, hml, hown, hts, hKn, hN, hlk⟩ := id G
  unfold B_X1_moved_5 at hq
  refine lv_iload hx hb dX1_moved_5 (lv_at hl 3 rfl) ?_
  refine lv_bipush (v := (16 : Int32)) hx hb dX1_moved_7 (by decide) ?_
  refine lv_icmp_ge (tgt := 88) hx hb dX1_moved_9 (by decide) (fun c13 => ?_) (fun c13 => ?_)
  · have hq := hq.1 c13
    exact kK50 a5 μ7 hq _ _ _ hH (lv_sub hl [4] rfl)
  · have hq := hq.2 c13
    refine lv_iload hx hb dX1_moved_12 (lv_at hl 3 rfl) ?_
    refine lv_iconst (v := (4 : Int32)) hx hb dX1_moved_14 (by decide) ?_
    refine lv_irem hx hb dX1_moved_15 (by decide) ?_
    refine lv_iload_n hx hb dX1_moved_16 rfl (lv_at hl 1 rfl) ?_
    refine lv_iadd hx hb dX1_moved_17 ?_
    refine lv_topi (fun v14 e_v14 => ?_)
    have hq := hq v14 e_v14
    refine lv_istore (lv' := [(5, .int v14), (0, .int a1), (1, .int a2), (2, .int a3), (4, .int a4), (3, .int a5)]) hx hb dX1_moved_18 hl (by decide) rfl (fun ls hl => ?_)
    refine lv_iload hx hb dX1_moved_20 (lv_at hl 4 rfl) ?_
    refine lv_iconst (v := (4 : Int32)) hx hb dX1_moved_22 (by decide) ?_
    refine lv_idiv hx hb dX1_moved_23 (by decide) ?_
    refine lv_iload_n hx hb dX1_moved_24 rfl (lv_at hl 3 rfl) ?_
    refine lv_iadd hx hb dX1_moved_25 ?_
    refine lv_topi (fun v15 e_v15 => ?_)
    have hq := hq v15 e_v15
    refine lv_istore (lv' := [(6, .int v15), (5, .int v14), (0, .int a1), (1, .int a2), (2, .int a3), (4, .int a4), (3, .int a5)]) hx hb dX1_moved_26 hl (by decide) rfl (fun ls hl => ?_)
    refine lv_iload hx hb dX1_moved_28 (lv_at hl 1 rfl) ?_
    refine lv_iconst (v := (0 : Int32)) hx hb dX1_moved_30 (by decide) ?_
    refine lv_iconst (v := (3 : Int32)) hx hb dX1_moved_31 (by decide) ?_
    refine x_cNi (As := [.int v14, .int (0 : Int32), .int (3 : Int32)]) (rest := []) G hH hA (c_X11_within l E ad μ7 v14 (0 : Int32) (3 : Int32)  _ hq) hN mt_X11_within mn_RX11 mc_X11_within md_X11_within ⟨rfl, rfl, Nat.le_of_ble_eq_true rfl, Nat.le_of_ble_eq_true rfl⟩ rfl hl.1 rfl (Nat.le_of_ble_eq_true rfl) dX1_moved_32 ⟨Nat.zero_le _, Nat.zero_le _⟩ (fun r17 μ16 hq H locs hH => ?_)
    refine lv_if_eq (tgt := 52) hx hb dX1_moved_35 (by decide) (fun c18 => ?_) (fun c18 => ?_)
    · have hq := hq.1 c18
      exact wj_X1_moved_52 G hA a1 a2 a3 v15 v14 a4 a5  μ16 _ _ hq hH (lv_sub hl [0, 1, 2, 3, 4, 5, 6] rfl) kK50 kK5b
    · have hq := hq.2 c18
      refine lv_iload hx hb dX1_moved_38 (lv_at hl 0 rfl) ?_
      refine lv_iconst (v := (0 : Int32)) hx hb dX1_moved_40 (by decide) ?_
      refine lv_iconst (v := (3 : Int32)) hx hb dX1_moved_41 (by decide) ?_
      refine x_cNi (As := [.int v15, .int (0 : Int32), .int (3 : Int32)]) (rest := []) G hH hA (c_X11_within l E ad μ16 v15 (0 : Int32) (3 : Int32)  _ hq) hN mt_X11_within mn_RX11 mc_X11_within md_X11_within ⟨rfl, rfl, Nat.le_of_ble_eq_true rfl, Nat.le_of_ble_eq_true rfl⟩ rfl hl.1 rfl (Nat.le_of_ble_eq_true rfl) dX1_moved_42 ⟨Nat.zero_le _, Nat.zero_le _⟩ (fun r37 μ36 hq H locs hH => ?_)
      refine lv_if_eq (tgt := 52) hx hb dX1_moved_45 (by decide) (fun c38 => ?_) (fun c38 => ?_)
      · have hq := hq.1 c38
        exact wj_X1_moved_52 G hA a1 a2 a3 v15 v14 a4 a5  μ36 _ _ hq hH (lv_sub hl [0, 1, 2, 3, 4, 5, 6] rfl) kK50 kK5b
      · have hq := hq.2 c38
        refine lv_iconst (v := (1 : Int32)) hx hb dX1_moved_48 (by decide) ?_
        refine lv_goto (tgt := 53) hx hb dX1_moved_49 (by decide) ?_
        exact wj_X1_moved_53 G hA a1 a2 a3 v15 v14 a4 a5 (1 : Int32)  μ36 _ _ hq hH (lv_sub hl [0, 1, 2, 3, 4, 5, 6] rfl) kK50 kK5b
set_option maxRecDepth 100000 in
set_option maxHeartbeats 4000000 in
theorem w_X1_moved_5 {E : xE} {ad : Nat → Nat} {p : Program} {l : Launch} {e : Env} {s : State} {m : MethodId} {args : Array Value} {below : List Frame} {meth : Method} {c : Code} {Q : State → Prop} (G : xG E p s m args meth c cX1_moved 8 RX1) (hA : ∀ a, s.heap.size ≤ a → xA ad s.heap.size a) (a1 : Int32) (a2 : Int32) (a3 : Int32) : ∀ (n : Nat) (a4 : Int32) (a5 : Int32) (μ7 : xM) (K50 : Int32 → xM → Prop) (hq : L_X1_moved_5 a1 a2 a3 n a4 a5 μ7 K50) (H : Heap) (locs : List Loc) (ls : Array Slot) (hH : xH E ad (xA ad s.heap.size) s.heap μ7 H locs) (hl : lv_has ls 8 [(0, .int a1), (1, .int a2), (2, .int a3), (4, .int a4), (3, .int a5)]) (kK50 : ∀ (a8 : Int32) (μ9 : xM), K50 a8 μ9 → ∀ (H : Heap) (locs : List Loc) (ls : Array Slot), xH E ad (xA ad s.heap.size) s.heap μ9 H locs → lv_has ls 8 [(3, .int a8)] → W p l e (headSpec tX1_moved ({ frames := 2, cells := 0, slots := 0, locals := 80 } : Room)).room s m args below meth c H locs 0 0 Q (F0 m 88 ls [])) , W p l e (headSpec tX1_moved ({ frames := 2, cells := 0, slots := 0, locals := 80 } : Room)).room s m args below meth c H locs 0 0 Q (F0 m 5 ls [])
  | 0, _, _, _, _, hq, _, _, _, _, _, _ => hq.elim
  | n + 1, a4, a5, μ7, K50, hq, H, locs, ls, hH, hl, kK50 => wb_X1_moved_5 G hA a1 a2 a3  a4 a5 μ7 K50 _ hq hH hl kK50 (fun x0 x1 y hq H locs ls hH hl => w_X1_moved_5 G hA a1 a2 a3  n x0 x1 y K50 hq H locs ls hH hl kK50)
set_option maxRecDepth 100000 in
set_option maxHeartbeats 4000000 in
theorem c_X1_moved (l : Launch) (E : xE) (ad : Nat → Nat) (μ : xM) (p1 : Int32) (p2 : Int32) (p3 : Int32) (Qm : Int32 → xM → Prop) (hq : p_X1_moved p1 p2 p3 μ Qm) : xMi l yX1_moved tX1_moved ({ frames := 2, cells := 0, slots := 0, locals := 80 } : Room) E ad μ [.int p1, .int p2, .int p3] Qm := by
  refine x_sti (cc := cX1_moved) (maxL := 8) (ret := (some .int)) (own := RX1) rfl (by decide) rfl (Nat.le_of_ble_eq_true rfl) ?_
  intro p e s m args below meth c ls G hr hA hH hl
  obtain ⟨hx, hb, hml, hown, hts, hKn, hN, hlk⟩ := id G
  have hl : lv_has ls 8 [(0, .int p1), (1, .int p2), (2, .int p3)] := hl
  have hH : xH E ad (xA ad s.heap.size) s.heap μ s.heap [] := hH
  unfold p_X1_moved at hq
  refine lv_iconst (v := (0 : Int32)) hx hb dX1_moved_0 (by decide) ?_
  refine lv_istore_n (lv' := [(3, .int (0 : Int32)), (0, .int p1), (1, .int p2), (2, .int p3)]) hx hb dX1_moved_1 rfl hl (by decide) rfl (fun ls hl => ?_)
  refine lv_iconst (v := (0 : Int32)) hx hb dX1_moved_2 (by decide) ?_
  refine lv_istore (lv' := [(4, .int (0 : Int32)), (3, .int (0 : Int32)), (0, .int p1), (1, .int p2), (2, .int p3)]) hx hb dX1_moved_3 hl (by decide) rfl (fun ls hl => ?_)
  obtain ⟨n6, hq⟩ := hq
  refine w_X1_moved_5 G hA p1 p2 p3  n6 (0 : Int32) (0 : Int32) μ _ hq _ _ _ hH (lv_sub hl [2, 3, 4, 0, 1] rfl) (fun a48 μ49 hq H locs ls hH hl => ?_)
  refine lv_iload_n hx hb dX1_moved_88 rfl (lv_at hl 0 rfl) ?_
  exact x_iret G hr hH hq dX1_moved_89

abbrev tX3_keptAt : List Cond := Cond.code yX3_keptAt cX3_keptAt 2 (some (.object "WetPrints$State")) :: wsL_law
theorem mi_X3_keptAt : Cond.instanceMethod yX3_keptAt ∈ wsL_law := (wm_8 _ (List.mem_of_getElem? (i := 12) rfl))
theorem ms_X3_keptAt : Cond.selects RX3 yX3_keptAt yX3_keptAt ∈ wsL_law := (wm_8 _ (List.mem_of_getElem? (i := 13) rfl))
theorem mc_X3_keptAt : Cond.code yX3_keptAt cX3_keptAt 2 (some (.object "WetPrints$State")) ∈ wsL_law := (wm_8 _ (List.mem_of_getElem? (i := 14) rfl))
theorem md_X3_keptAt : yX3_keptAt.cls ≠ "java/lang/invoke/MethodHandle" ∧ yX3_keptAt.cls ≠ "java/lang/invoke/VarHandle" ∧ (parseMethodDescriptor yX3_keptAt.desc).map (fun d => d.parameters.length) = some 1 := by decide +kernel
def p_X3_keptAt (q0 : Nat) (p1 : Int32) (μ : xM) (Qm : Option Nat → xM → Prop) : Prop := ((p1 < (0 : Int32) → Qm none μ) ∧ (¬ p1 < (0 : Int32) → (((Int32.ofNat (ln (rt q0 0))) ≤ p1 → Qm none μ) ∧ (¬ (Int32.ofNat (ln (rt q0 0))) ≤ p1 → (vp_in p1 (ln (rt q0 0)) ∧ Qm (some (rt (rt q0 0) p1.toNatClampNeg)) μ)))))
set_option maxRecDepth 100000 in
set_option maxHeartbeats 4000000 in
theorem c_X3_keptAt (l : Launch) (E : xE) (ad : Nat → Nat) (μ : xM) (q0 : Nat) (p1 : Int32) (hk_q0 : kd q0 = 2) (Qm : Option Nat → xM → Prop) (hq : p_X3_keptAt q0 p1 μ Qm) : xMq l yX3_keptAt tX3_keptAt ({ frames := 1, cells := 0, slots := 0, locals := 40 } : Room) E ad μ [.ref (ad q0), .int p1] Qm := by
  refine x_stq (cc := cX3_keptAt) (maxL := 2) (ret := (some (.object "WetPrints$State"))) (own := RX3) rfl (by decide) rfl (Nat.le_of_ble_eq_true rfl) ?_
  intro p e s m args below meth c ls G hr hA hH hl
  obtain ⟨hx, hb, hml, hown, hts, hKn, hN, hlk⟩ := id G
  have hl : lv_has ls 2 [(0, .ref (ad q0)), (1, .int p1)] := hl
  have hH : xH E ad (xA ad s.heap.size) s.heap μ s.heap [] := hH
  unfold p_X3_keptAt at hq
  refine lv_iload_n hx hb dX3_keptAt_0 rfl (lv_at hl 1 rfl) ?_
  refine lv_if_lt (tgt := 22) hx hb dX3_keptAt_1 (by decide) (fun c1 => ?_) (fun c1 => ?_)
  · have hq := hq.1 c1
    refine lv_null hx hb dX3_keptAt_22 ?_
    exact x_nret G hr hH hq dX3_keptAt_23
  · have hq := hq.2 c1
    refine lv_iload_n hx hb dX3_keptAt_4 rfl (lv_at hl 1 rfl) ?_
    refine lv_aload_n hx hb dX3_keptAt_5 rfl (lv_at hl 0 rfl) ?_
    refine x_get (j := 0) (C := RX3) (T := TX3) (N := 3) (v := .ref (ad (rt q0 0))) G hH hk_q0 (by decide) rfl inlX3 (by decide) (wm_4 _ (List.mem_of_getElem? (i := 13) rfl)) rfl dX3_keptAt_6 ?_
    refine x_alenq G hH (kt_2_0 _ hk_q0) rfl dX3_keptAt_9 ?_
    refine lv_icmp_ge (tgt := 22) hx hb dX3_keptAt_10 (by decide) (fun c2 => ?_) (fun c2 => ?_)
    · have hq := hq.1 c2
      refine lv_null hx hb dX3_keptAt_22 ?_
      exact x_nret G hr hH hq dX3_keptAt_23
    · have hq := hq.2 c2
      refine lv_aload_n hx hb dX3_keptAt_13 rfl (lv_at hl 0 rfl) ?_
      refine x_get (j := 0) (C := RX3) (T := TX3) (N := 3) (v := .ref (ad (rt q0 0))) G hH hk_q0 (by decide) rfl inlX3 (by decide) (wm_4 _ (List.mem_of_getElem? (i := 13) rfl)) rfl dX3_keptAt_14 ?_
      refine lv_iload_n hx hb dX3_keptAt_17 rfl (lv_at hl 1 rfl) ?_
      refine x_aald G hH (kt_2_0 _ hk_q0) hq.1 dX3_keptAt_18 ?_
      have hq := hq.2
      refine lv_goto (tgt := 23) hx hb dX3_keptAt_19 (by decide) ?_
      exact x_aret G hr hH hq dX3_keptAt_23

abbrev tX11_refuse : List Cond := Cond.code yX11_refuse cX11_refuse 2 (some .int) :: wsL_law
theorem mi_X11_refuse : Cond.instanceMethod yX11_refuse ∈ wsL_law := (wm_8 _ (List.mem_of_getElem? (i := 0) rfl))
theorem ms_X11_refuse : Cond.selects RX11 yX11_refuse yX11_refuse ∈ wsL_law := (wm_8 _ (List.mem_of_getElem? (i := 1) rfl))
theorem mc_X11_refuse : Cond.code yX11_refuse cX11_refuse 2 (some .int) ∈ wsL_law := (wm_8 _ (List.mem_of_getElem? (i := 2) rfl))
theorem md_X11_refuse : yX11_refuse.cls ≠ "java/lang/invoke/MethodHandle" ∧ yX11_refuse.cls ≠ "java/lang/invoke/VarHandle" ∧ (parseMethodDescriptor yX11_refuse.desc).map (fun d => d.parameters.length) = some 1 := by decide +kernel
def J_X11_refuse_16 (q2 : Nat) (a3 : Int32) (μ4 : xM) (Qm : Int32 → xM → Prop) : Prop := ((¬ a3 = (-3 : Int32) → ((¬ a3 = (-4 : Int32) → Qm a3 μ4) ∧ (a3 = (-4 : Int32) → (∀ μ7 : xM, μ7 = xi μ4 q2 7 ((μ4.1 q2 7) + (1 : Int32)) → Qm a3 μ7)))) ∧ (a3 = (-3 : Int32) → (∀ μ8 : xM, μ8 = xi μ4 q2 6 ((μ4.1 q2 6) + (1 : Int32)) → ((¬ a3 = (-4 : Int32) → Qm a3 μ8) ∧ (a3 = (-4 : Int32) → (∀ μ10 : xM, μ10 = xi μ8 q2 7 ((μ8.1 q2 7) + (1 : Int32)) → Qm a3 μ10))))))
def p_X11_refuse (q0 : Nat) (p1 : Int32) (μ : xM) (Qm : Int32 → xM → Prop) : Prop := ((¬ p1 = (-2 : Int32) → J_X11_refuse_16  q0 p1 μ Qm) ∧ (p1 = (-2 : Int32) → (∀ μ11 : xM, μ11 = xi μ q0 5 ((μ.1 q0 5) + (1 : Int32)) → J_X11_refuse_16  q0 p1 μ11 Qm)))
set_option maxRecDepth 100000 in
set_option maxHeartbeats 4000000 in
theorem wj_X11_refuse_16 {E : xE} {ad : Nat → Nat} {p : Program} {l : Launch} {e : Env} {s : State} {m : MethodId} {args : Array Value} {below : List Frame} {meth : Method} {c : Code} {Qm : Int32 → xM → Prop} (G : xG E p s m args meth c cX11_refuse 2 RX11) (hA : ∀ a, s.heap.size ≤ a → xA ad s.heap.size a) (hr : meth.sig.returnType = (some .int)) (q2 : Nat) (a3 : Int32) (hk_q2 : kd q2 = 9) (μ4 : xM) (hq : J_X11_refuse_16 q2 a3 μ4 Qm) {H : Heap} {locs : List Loc} {ls : Array Slot} (hH : xH E ad (xA ad s.heap.size) s.heap μ4 H locs) (hl : lv_has ls 2 [(0, .ref (ad q2)), (1, .int a3)]) : W p l e (headSpec tX11_refuse ({ frames := 1, cells := 0, slots := 0, locals := 40 } : Room)).room s m args below meth c H locs 0 0 (MQ below (va_Qi Qm (xPost E ad s.heap.size) (xA ad s.heap.size)) args s 0 0 (xA ad s.heap.size)) (F0 m 16 ls []) := by
  obtain ⟨hx, hb, hml, hown, hts, hKn, hN, hlk⟩ := id G
  unfold J_X11_refuse_16 at hq
  refine lv_iload_n hx hb dX11_refuse_16 rfl (lv_at hl 1 rfl) ?_
  refine lv_bipush (v := (-3 : Int32)) hx hb dX11_refuse_17 (by decide) ?_
  refine lv_icmp_ne (tgt := 32) hx hb dX11_refuse_19 (by decide) (fun c5 => ?_) (fun c5 => ?_)
  · have hq := hq.1 c5
    refine lv_iload_n hx hb dX11_refuse_32 rfl (lv_at hl 1 rfl) ?_
    refine lv_bipush (v := (-4 : Int32)) hx hb dX11_refuse_33 (by decide) ?_
    refine lv_icmp_ne (tgt := 48) hx hb dX11_refuse_35 (by decide) (fun c6 => ?_) (fun c6 => ?_)
    · have hq := hq.1 c6
      refine lv_iload_n hx hb dX11_refuse_48 rfl (lv_at hl 1 rfl) ?_
      exact x_iret G hr hH hq dX11_refuse_49
    · have hq := hq.2 c6
      refine lv_aload_n hx hb dX11_refuse_38 rfl (lv_at hl 0 rfl) ?_
      refine lv_dup hx hb dX11_refuse_39 rfl ?_
      refine x_get (j := 7) (C := RX11) (T := TX11) (N := 8) (v := .int (μ4.1 q2 7)) G hH hk_q2 (by decide) rfl inlX11 (by decide) (wm_2 _ (List.mem_of_getElem? (i := 11) rfl)) rfl dX11_refuse_40 ?_
      refine lv_iconst (v := (1 : Int32)) hx hb dX11_refuse_43 (by decide) ?_
      refine lv_iadd hx hb dX11_refuse_44 ?_
      refine x_puti (j := 7) (C := RX11) (T := TX11) (N := 8) (ty := .int) G hH hk_q2 (by decide) rfl inlX11 tyX11 tyX11_ok nmX11 (by decide) (wm_2 _ (List.mem_of_getElem? (i := 11) rfl)) rfl (by decide +kernel) rfl rfl (fun _ _ => Nat.le_of_ble_eq_true rfl) (fun _ _ => rfl) dX11_refuse_45 (fun μ7 e_μ7 H locs hH => ?_)
      have hq := hq μ7 e_μ7
      refine lv_iload_n hx hb dX11_refuse_48 rfl (lv_at hl 1 rfl) ?_
      exact x_iret G hr hH hq dX11_refuse_49
  · have hq := hq.2 c5
    refine lv_aload_n hx hb dX11_refuse_22 rfl (lv_at hl 0 rfl) ?_
    refine lv_dup hx hb dX11_refuse_23 rfl ?_
    refine x_get (j := 6) (C := RX11) (T := TX11) (N := 8) (v := .int (μ4.1 q2 6)) G hH hk_q2 (by decide) rfl inlX11 (by decide) (wm_2 _ (List.mem_of_getElem? (i := 10) rfl)) rfl dX11_refuse_24 ?_
    refine lv_iconst (v := (1 : Int32)) hx hb dX11_refuse_27 (by decide) ?_
    refine lv_iadd hx hb dX11_refuse_28 ?_
    refine x_puti (j := 6) (C := RX11) (T := TX11) (N := 8) (ty := .int) G hH hk_q2 (by decide) rfl inlX11 tyX11 tyX11_ok nmX11 (by decide) (wm_2 _ (List.mem_of_getElem? (i := 10) rfl)) rfl (by decide +kernel) rfl rfl (fun _ _ => Nat.le_of_ble_eq_true rfl) (fun _ _ => rfl) dX11_refuse_29 (fun μ8 e_μ8 H locs hH => ?_)
    have hq := hq μ8 e_μ8
    refine lv_iload_n hx hb dX11_refuse_32 rfl (lv_at hl 1 rfl) ?_
    refine lv_bipush (v := (-4 : Int32)) hx hb dX11_refuse_33 (by decide) ?_
    refine lv_icmp_ne (tgt := 48) hx hb dX11_refuse_35 (by decide) (fun c9 => ?_) (fun c9 => ?_)
    · have hq := hq.1 c9
      refine lv_iload_n hx hb dX11_refuse_48 rfl (lv_at hl 1 rfl) ?_
      exact x_iret G hr hH hq dX11_refuse_49
    · have hq := hq.2 c9
      refine lv_aload_n hx hb dX11_refuse_38 rfl (lv_at hl 0 rfl) ?_
      refine lv_dup hx hb dX11_refuse_39 rfl ?_
      refine x_get (j := 7) (C := RX11) (T := TX11) (N := 8) (v := .int (μ8.1 q2 7)) G hH hk_q2 (by decide) rfl inlX11 (by decide) (wm_2 _ (List.mem_of_getElem? (i := 11) rfl)) rfl dX11_refuse_40 ?_
      refine lv_iconst (v := (1 : Int32)) hx hb dX11_refuse_43 (by decide) ?_
      refine lv_iadd hx hb dX11_refuse_44 ?_
      refine x_puti (j := 7) (C := RX11) (T := TX11) (N := 8) (ty := .int) G hH hk_q2 (by decide) rfl inlX11 tyX11 tyX11_ok nmX11 (by decide) (wm_2 _ (List.mem_of_getElem? (i := 11) rfl)) rfl (by decide +kernel) rfl rfl (fun _ _ => Nat.le_of_ble_eq_true rfl) (fun _ _ => rfl) dX11_refuse_45 (fun μ10 e_μ10 H locs hH => ?_)
      have hq := hq μ10 e_μ10
      refine lv_iload_n hx hb dX11_refuse_48 rfl (lv_at hl 1 rfl) ?_
      exact x_iret G hr hH hq dX11_refuse_49
set_option maxRecDepth 100000 in
set_option maxHeartbeats 4000000 in
theorem c_X11_refuse (l : Launch) (E : xE) (ad : Nat → Nat) (μ : xM) (q0 : Nat) (p1 : Int32) (hk_q0 : kd q0 = 9) (Qm : Int32 → xM → Prop) (hq : p_X11_refuse q0 p1 μ Qm) : xMi l yX11_refuse tX11_refuse ({ frames := 1, cells := 0, slots := 0, locals := 40 } : Room) E ad μ [.ref (ad q0), .int p1] Qm := by
  refine x_sti (cc := cX11_refuse) (maxL := 2) (ret := (some .int)) (own := RX11) rfl (by decide) rfl (Nat.le_of_ble_eq_true rfl) ?_
  intro p e s m args below meth c ls G hr hA hH hl
  obtain ⟨hx, hb, hml, hown, hts, hKn, hN, hlk⟩ := id G
  have hl : lv_has ls 2 [(0, .ref (ad q0)), (1, .int p1)] := hl
  have hH : xH E ad (xA ad s.heap.size) s.heap μ s.heap [] := hH
  unfold p_X11_refuse at hq
  refine lv_iload_n hx hb dX11_refuse_0 rfl (lv_at hl 1 rfl) ?_
  refine lv_bipush (v := (-2 : Int32)) hx hb dX11_refuse_1 (by decide) ?_
  refine lv_icmp_ne (tgt := 16) hx hb dX11_refuse_3 (by decide) (fun c1 => ?_) (fun c1 => ?_)
  · have hq := hq.1 c1
    exact wj_X11_refuse_16 G hA hr  q0 p1  hk_q0 μ hq hH (lv_sub hl [0, 1] rfl)
  · have hq := hq.2 c1
    refine lv_aload_n hx hb dX11_refuse_6 rfl (lv_at hl 0 rfl) ?_
    refine lv_dup hx hb dX11_refuse_7 rfl ?_
    refine x_get (j := 5) (C := RX11) (T := TX11) (N := 8) (v := .int (μ.1 q0 5)) G hH hk_q0 (by decide) rfl inlX11 (by decide) (wm_2 _ (List.mem_of_getElem? (i := 9) rfl)) rfl dX11_refuse_8 ?_
    refine lv_iconst (v := (1 : Int32)) hx hb dX11_refuse_11 (by decide) ?_
    refine lv_iadd hx hb dX11_refuse_12 ?_
    refine x_puti (j := 5) (C := RX11) (T := TX11) (N := 8) (ty := .int) G hH hk_q0 (by decide) rfl inlX11 tyX11 tyX11_ok nmX11 (by decide) (wm_2 _ (List.mem_of_getElem? (i := 9) rfl)) rfl (by decide +kernel) rfl rfl (fun _ _ => Nat.le_of_ble_eq_true rfl) (fun _ _ => rfl) dX11_refuse_13 (fun μ11 e_μ11 H locs hH => ?_)
    have hq := hq μ11 e_μ11
    exact wj_X11_refuse_16 G hA hr  q0 p1  hk_q0 μ11 hq hH (lv_sub hl [0, 1] rfl)

abbrev tX7_lay : List Cond := Cond.code yX7_lay cX7_lay 6 none :: wsL_law
theorem mi_X7_lay : Cond.instanceMethod yX7_lay ∈ wsL_law := (wm_9 _ (List.mem_of_getElem? (i := 12) rfl))
theorem ms_X7_lay : Cond.selects RX7 yX7_lay yX7_lay ∈ wsL_law := (wm_9 _ (List.mem_of_getElem? (i := 13) rfl))
theorem mc_X7_lay : Cond.code yX7_lay cX7_lay 6 none ∈ wsL_law := (wm_9 _ (List.mem_of_getElem? (i := 14) rfl))
theorem md_X7_lay : yX7_lay.cls ≠ "java/lang/invoke/MethodHandle" ∧ yX7_lay.cls ≠ "java/lang/invoke/VarHandle" ∧ (parseMethodDescriptor yX7_lay.desc).map (fun d => d.parameters.length) = some 3 := by decide +kernel
def p_X7_lay (q0 : Nat) (p1 : Int64) (p2 : Int64) (p3 : Int32) (μ : xM) (Qm : xM → Prop) : Prop := (∀ μ1 : xM, μ1 = xl μ q0 0 p1 → (∀ μ2 : xM, μ2 = xl μ1 q0 1 p2 → (∀ μ3 : xM, μ3 = xi μ2 q0 2 p3 → Qm μ3)))
set_option maxRecDepth 100000 in
set_option maxHeartbeats 4000000 in
theorem c_X7_lay (l : Launch) (E : xE) (ad : Nat → Nat) (μ : xM) (q0 : Nat) (p1 : Int64) (p2 : Int64) (p3 : Int32) (hk_q0 : kd q0 = 5) (Qm : xM → Prop) (hq : p_X7_lay q0 p1 p2 p3 μ Qm) : xMv l yX7_lay tX7_lay ({ frames := 1, cells := 0, slots := 0, locals := 40 } : Room) E ad μ [.ref (ad q0), .long p1, .long p2, .int p3] Qm := by
  refine x_stv (cc := cX7_lay) (maxL := 6) (ret := none) (own := RX7) rfl (by decide) rfl (Nat.le_of_ble_eq_true rfl) ?_
  intro p e s m args below meth c ls G hr hA hH hl
  obtain ⟨hx, hb, hml, hown, hts, hKn, hN, hlk⟩ := id G
  have hl : lv_has ls 6 [(0, .ref (ad q0)), (1, .long p1), (3, .long p2), (5, .int p3)] := hl
  have hH : xH E ad (xA ad s.heap.size) s.heap μ s.heap [] := hH
  unfold p_X7_lay at hq
  refine lv_aload_n hx hb dX7_lay_0 rfl (lv_at hl 0 rfl) ?_
  refine lv_lload_n hx hb dX7_lay_1 rfl (lv_at hl 1 rfl) ?_
  refine x_putl (j := 0) (C := RX7) (T := TX7) (N := 3) G hH hk_q0 (by decide) rfl inlX7 tyX7 tyX7_ok nmX7 (by decide) (wm_4 _ (List.mem_of_getElem? (i := 5) rfl)) rfl (by decide +kernel) (fun _ _ => Nat.le_of_ble_eq_true rfl) (fun _ _ => rfl) dX7_lay_2 (fun μ1 e_μ1 H locs hH => ?_)
  have hq := hq μ1 e_μ1
  refine lv_aload_n hx hb dX7_lay_5 rfl (lv_at hl 0 rfl) ?_
  refine lv_lload_n hx hb dX7_lay_6 rfl (lv_at hl 2 rfl) ?_
  refine x_putl (j := 1) (C := RX7) (T := TX7) (N := 3) G hH hk_q0 (by decide) rfl inlX7 tyX7 tyX7_ok nmX7 (by decide) (wm_4 _ (List.mem_of_getElem? (i := 6) rfl)) rfl (by decide +kernel) (fun _ _ => Nat.le_of_ble_eq_true rfl) (fun _ _ => rfl) dX7_lay_7 (fun μ2 e_μ2 H locs hH => ?_)
  have hq := hq μ2 e_μ2
  refine lv_aload_n hx hb dX7_lay_10 rfl (lv_at hl 0 rfl) ?_
  refine lv_iload hx hb dX7_lay_11 (lv_at hl 3 rfl) ?_
  refine x_puti (j := 2) (C := RX7) (T := TX7) (N := 3) (ty := .int) G hH hk_q0 (by decide) rfl inlX7 tyX7 tyX7_ok nmX7 (by decide) (wm_4 _ (List.mem_of_getElem? (i := 7) rfl)) rfl (by decide +kernel) rfl rfl (fun _ _ => Nat.le_of_ble_eq_true rfl) (fun _ _ => rfl) dX7_lay_13 (fun μ3 e_μ3 H locs hH => ?_)
  have hq := hq μ3 e_μ3
  exact x_vret G hr hH hq dX7_lay_16

abbrev tX4_numbersBehind : List Cond := Cond.code yX4_numbersBehind cX4_numbersBehind 1 (some .int) :: wsL_law
theorem mt_X4_numbersBehind : Cond.static yX4_numbersBehind ∈ wsL_law := (wm_32 _ (List.mem_of_getElem? (i := 23) rfl))
theorem mc_X4_numbersBehind : Cond.code yX4_numbersBehind cX4_numbersBehind 1 (some .int) ∈ wsL_law := (wm_33 _ (List.mem_of_getElem? (i := 0) rfl))
theorem md_X4_numbersBehind : yX4_numbersBehind.cls ≠ "java/lang/invoke/MethodHandle" ∧ yX4_numbersBehind.cls ≠ "java/lang/invoke/VarHandle" ∧ (parseMethodDescriptor yX4_numbersBehind.desc).map (fun d => d.parameters.length) = some 1 := by decide +kernel
def p_X4_numbersBehind (p1 : Int32) (μ : xM) (Qm : Int32 → xM → Prop) : Prop := ((p1 = (97 : Int32) → Qm (2 : Int32) μ) ∧ (¬ p1 = (97 : Int32) → ((p1 = (98 : Int32) → Qm (4 : Int32) μ) ∧ (¬ p1 = (98 : Int32) → ((p1 = (110 : Int32) → Qm (0 : Int32) μ) ∧ (¬ p1 = (110 : Int32) → ((p1 = (112 : Int32) → Qm (2 : Int32) μ) ∧ (¬ p1 = (112 : Int32) → ((p1 = (115 : Int32) → Qm (3 : Int32) μ) ∧ (¬ p1 = (115 : Int32) → Qm (-1 : Int32) μ))))))))))
set_option maxRecDepth 100000 in
set_option maxHeartbeats 4000000 in
theorem c_X4_numbersBehind (l : Launch) (E : xE) (ad : Nat → Nat) (μ : xM) (p1 : Int32) (Qm : Int32 → xM → Prop) (hq : p_X4_numbersBehind p1 μ Qm) : xMi l yX4_numbersBehind tX4_numbersBehind ({ frames := 1, cells := 0, slots := 0, locals := 40 } : Room) E ad μ [.int p1] Qm := by
  refine x_sti (cc := cX4_numbersBehind) (maxL := 1) (ret := (some .int)) (own := RX4) rfl (by decide) rfl (Nat.le_of_ble_eq_true rfl) ?_
  intro p e s m args below meth c ls G hr hA hH hl
  obtain ⟨hx, hb, hml, hown, hts, hKn, hN, hlk⟩ := id G
  have hl : lv_has ls 1 [(0, .int p1)] := hl
  have hH : xH E ad (xA ad s.heap.size) s.heap μ s.heap [] := hH
  unfold p_X4_numbersBehind at hq
  refine lv_iload_n hx hb dX4_numbersBehind_0 rfl (lv_at hl 0 rfl) ?_
  rcases Decidable.em (p1 = (97 : Int32)) with c1 | c1
  · refine lv_lookup (off := 55) (tgt := 56) hx hb dX4_numbersBehind_1 (by decide) (by rw [c1]; rfl) (by decide) ?_
    have hq := hq.1 c1
    refine lv_iconst (v := (2 : Int32)) hx hb dX4_numbersBehind_56 (by decide) ?_
    exact x_iret G hr hH hq dX4_numbersBehind_57
  · have hq := hq.2 c1
    rcases Decidable.em (p1 = (98 : Int32)) with c2 | c2
    · refine lv_lookup (off := 51) (tgt := 52) hx hb dX4_numbersBehind_1 (by decide) (by rw [c2]; rfl) (by decide) ?_
      have hq := hq.1 c2
      refine lv_iconst (v := (4 : Int32)) hx hb dX4_numbersBehind_52 (by decide) ?_
      exact x_iret G hr hH hq dX4_numbersBehind_53
    · have hq := hq.2 c2
      rcases Decidable.em (p1 = (110 : Int32)) with c3 | c3
      · refine lv_lookup (off := 59) (tgt := 60) hx hb dX4_numbersBehind_1 (by decide) (by rw [c3]; rfl) (by decide) ?_
        have hq := hq.1 c3
        refine lv_iconst (v := (0 : Int32)) hx hb dX4_numbersBehind_60 (by decide) ?_
        exact x_iret G hr hH hq dX4_numbersBehind_61
      · have hq := hq.2 c3
        rcases Decidable.em (p1 = (112 : Int32)) with c4 | c4
        · refine lv_lookup (off := 57) (tgt := 58) hx hb dX4_numbersBehind_1 (by decide) (by rw [c4]; rfl) (by decide) ?_
          have hq := hq.1 c4
          refine lv_iconst (v := (2 : Int32)) hx hb dX4_numbersBehind_58 (by decide) ?_
          exact x_iret G hr hH hq dX4_numbersBehind_59
        · have hq := hq.2 c4
          rcases Decidable.em (p1 = (115 : Int32)) with c5 | c5
          · refine lv_lookup (off := 53) (tgt := 54) hx hb dX4_numbersBehind_1 (by decide) (by rw [c5]; rfl) (by decide) ?_
            have hq := hq.1 c5
            refine lv_iconst (v := (3 : Int32)) hx hb dX4_numbersBehind_54 (by decide) ?_
            exact x_iret G hr hH hq dX4_numbersBehind_55
          · have hq := hq.2 c5
            refine lv_lookup (off := 61) (tgt := 62) hx hb dX4_numbersBehind_1 (by decide) (by show Op.lookupswitch.offset [(97, 55), (98, 51), (110, 59), (112, 57), (115, 53)] _ _ = _; rw [lv_osw c1 (by decide), lv_osw c2 (by decide), lv_osw c3 (by decide), lv_osw c4 (by decide), lv_osw c5 (by decide)]; rfl) (by decide) ?_
            refine lv_iconst (v := (-1 : Int32)) hx hb dX4_numbersBehind_62 (by decide) ?_
            exact x_iret G hr hH hq dX4_numbersBehind_63

abbrev tX0_areUnlike : List Cond := Cond.code yX0_areUnlike cX0_areUnlike 3 (some .boolean) :: wsL_law
theorem mi_X0_areUnlike : Cond.instanceMethod yX0_areUnlike ∈ wsL_law := (wm_14 _ (List.mem_of_getElem? (i := 4) rfl))
theorem ms_X0_areUnlike : Cond.selects RX0 yX0_areUnlike yX0_areUnlike ∈ wsL_law := (wm_14 _ (List.mem_of_getElem? (i := 5) rfl))
theorem mc_X0_areUnlike : Cond.code yX0_areUnlike cX0_areUnlike 3 (some .boolean) ∈ wsL_law := (wm_14 _ (List.mem_of_getElem? (i := 6) rfl))
theorem md_X0_areUnlike : yX0_areUnlike.cls ≠ "java/lang/invoke/MethodHandle" ∧ yX0_areUnlike.cls ≠ "java/lang/invoke/VarHandle" ∧ (parseMethodDescriptor yX0_areUnlike.desc).map (fun d => d.parameters.length) = some 2 := by decide +kernel
def p_X0_areUnlike (q0 : Nat) (p1 : Int32) (p2 : Int32) (μ : xM) (Qm : Int32 → xM → Prop) : Prop := (p_X0_has q0 p1 μ (fun r2 μ1 => ((r2 = (0 : Int32) → Qm (0 : Int32) μ1) ∧ (¬ r2 = (0 : Int32) → (p_X0_has q0 p2 μ1 (fun r5 μ4 => ((r5 = (0 : Int32) → Qm (0 : Int32) μ4) ∧ (¬ r5 = (0 : Int32) → ((p1 = p2 → Qm (0 : Int32) μ4) ∧ (¬ p1 = p2 → Qm (1 : Int32) μ4))))))))))
set_option maxRecDepth 100000 in
set_option maxHeartbeats 4000000 in
theorem c_X0_areUnlike (l : Launch) (E : xE) (ad : Nat → Nat) (μ : xM) (q0 : Nat) (p1 : Int32) (p2 : Int32) (hk_q0 : kd q0 = 0) (Qm : Int32 → xM → Prop) (hq : p_X0_areUnlike q0 p1 p2 μ Qm) : xMi l yX0_areUnlike tX0_areUnlike ({ frames := 2, cells := 0, slots := 0, locals := 80 } : Room) E ad μ [.ref (ad q0), .int p1, .int p2] Qm := by
  refine x_sti (cc := cX0_areUnlike) (maxL := 3) (ret := (some .boolean)) (own := RX0) rfl (by decide) rfl (Nat.le_of_ble_eq_true rfl) ?_
  intro p e s m args below meth c ls G hr hA hH hl
  obtain ⟨hx, hb, hml, hown, hts, hKn, hN, hlk⟩ := id G
  have hl : lv_has ls 3 [(0, .ref (ad q0)), (1, .int p1), (2, .int p2)] := hl
  have hH : xH E ad (xA ad s.heap.size) s.heap μ s.heap [] := hH
  unfold p_X0_areUnlike at hq
  refine lv_aload_n hx hb dX0_areUnlike_0 rfl (lv_at hl 0 rfl) ?_
  refine lv_iload_n hx hb dX0_areUnlike_1 rfl (lv_at hl 1 rfl) ?_
  refine x_cVi (C := RX0) (T := TX0) (N := 9) (As := [.int p1]) (rest := []) G hH hA (c_X0_has l E ad μ q0 p1 hk_q0 _ hq) (wm_14 _ (List.mem_of_getElem? (i := 7) rfl)) mi_X0_has ms_X0_has mn_RX0 mc_X0_has rfl md_X0_has ⟨rfl, rfl, Nat.le_of_ble_eq_true rfl, Nat.le_of_ble_eq_true rfl⟩ hk_q0 (by decide) rfl rfl hl.1 rfl (Nat.le_of_ble_eq_true rfl) dX0_areUnlike_2 ⟨Nat.zero_le _, Nat.zero_le _⟩ (fun r2 μ1 hq H locs hH => ?_)
  refine lv_if_eq (tgt := 25) hx hb dX0_areUnlike_5 (by decide) (fun c3 => ?_) (fun c3 => ?_)
  · have hq := hq.1 c3
    refine lv_iconst (v := (0 : Int32)) hx hb dX0_areUnlike_25 (by decide) ?_
    exact x_zret G hr hH xz_0 hq dX0_areUnlike_26
  · have hq := hq.2 c3
    refine lv_aload_n hx hb dX0_areUnlike_8 rfl (lv_at hl 0 rfl) ?_
    refine lv_iload_n hx hb dX0_areUnlike_9 rfl (lv_at hl 2 rfl) ?_
    refine x_cVi (C := RX0) (T := TX0) (N := 9) (As := [.int p2]) (rest := []) G hH hA (c_X0_has l E ad μ1 q0 p2 hk_q0 _ hq) (wm_14 _ (List.mem_of_getElem? (i := 7) rfl)) mi_X0_has ms_X0_has mn_RX0 mc_X0_has rfl md_X0_has ⟨rfl, rfl, Nat.le_of_ble_eq_true rfl, Nat.le_of_ble_eq_true rfl⟩ hk_q0 (by decide) rfl rfl hl.1 rfl (Nat.le_of_ble_eq_true rfl) dX0_areUnlike_10 ⟨Nat.zero_le _, Nat.zero_le _⟩ (fun r5 μ4 hq H locs hH => ?_)
    refine lv_if_eq (tgt := 25) hx hb dX0_areUnlike_13 (by decide) (fun c6 => ?_) (fun c6 => ?_)
    · have hq := hq.1 c6
      refine lv_iconst (v := (0 : Int32)) hx hb dX0_areUnlike_25 (by decide) ?_
      exact x_zret G hr hH xz_0 hq dX0_areUnlike_26
    · have hq := hq.2 c6
      refine lv_iload_n hx hb dX0_areUnlike_16 rfl (lv_at hl 1 rfl) ?_
      refine lv_iload_n hx hb dX0_areUnlike_17 rfl (lv_at hl 2 rfl) ?_
      refine lv_icmp_eq (tgt := 25) hx hb dX0_areUnlike_18 (by decide) (fun c7 => ?_) (fun c7 => ?_)
      · have hq := hq.1 c7
        refine lv_iconst (v := (0 : Int32)) hx hb dX0_areUnlike_25 (by decide) ?_
        exact x_zret G hr hH xz_0 hq dX0_areUnlike_26
      · have hq := hq.2 c7
        refine lv_iconst (v := (1 : Int32)) hx hb dX0_areUnlike_21 (by decide) ?_
        refine lv_goto (tgt := 26) hx hb dX0_areUnlike_22 (by decide) ?_
        exact x_zret G hr hH xz_1 hq dX0_areUnlike_26
