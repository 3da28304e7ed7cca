/-! the constructors: what each makes -/
abbrev sn (w : va_W) (x : Nat × va_E) : va_W := w ++ [x]
abbrev sa (w x : va_W) : va_W := w ++ x
abbrev tSt : Type := Nat × (Nat → Nat) × Nat × (Nat → Nat)
def sSh (h : Nat) (_ : Unit) : va_W := [(h, .inr (5, [.long 0, .long 0, .int 0]))]
def sBl (E : xE) (h : Nat) (u : Nat → Nat) : va_W := (h, .inr (0, [.int 0, .ref (u 1), .ref (u 2), .ref (u 3), .ref (u 4), .ref (u 5), .ref (u 6), .ref (u 7), .ref (u 8)])) :: (sn (sn (sn (sn (sn (sn (sn (sn [] (u 1, .inl (E.2.1, 6, .inl (fun _ => 0)))) (u 2, .inl (E.2.1, 6, .inl (fun _ => 0)))) (u 3, .inl (E.2.1, 6, .inl (fun _ => 0)))) (u 4, .inl (E.2.1, 6, .inl (fun _ => 0)))) (u 5, .inl (E.2.1, 6, .inl (fun _ => 0)))) (u 6, .inl (E.2.1, 6, .inl (fun _ => 0)))) (u 7, .inl (E.2.1, 6, .inl (fun _ => 0)))) (u 8, .inl (E.2.1, 6, .inl (fun _ => 0))))
def sHw (E : xE) (h : Nat) (u : Nat → Nat) : va_W := (h, .inr (1, [.ref (u 1), .int 0, .int 0, .int 0, .ref (u 2), .ref (u 3), .ref (u 4)])) :: sn (sn (sn (sa [] (sSh (u 1) ())) (u 2, .inl (E.2.1, 12, .inl (fun _ => 0)))) (u 3, .inl (E.2.1, 12, .inl (fun _ => 0)))) (u 4, .inl (E.2.1, 12, .inl (fun _ => 0)))
def sSt (E : xE) (h : Nat) (t : tSt) : va_W := (h, .inr (7, [.ref t.1, .ref t.2.2.1, .long 0])) :: sa (sa [] (sBl E t.1 t.2.1)) (sHw E t.2.2.1 t.2.2.2)
abbrev tHi : Type := Nat × (Nat → Nat) × (Nat → tSt)
def sHi (E : xE) (h : Nat) (t : tHi) : va_W := (h, .inr (2, [.ref t.1, .int 0, .int 0])) :: (t.1, .inl (E.2.2.2, 5, .inr (.inr (.inr (.inr (fun j => some (t.2.1 j))))))) :: sa (sa (sa (sa (sa [] (sSt E (t.2.1 0) (t.2.2 0))) (sSt E (t.2.1 1) (t.2.2 1))) (sSt E (t.2.1 2) (t.2.2 2))) (sSt E (t.2.1 3) (t.2.2 3))) (sSt E (t.2.1 4) (t.2.2 4))
def sSS (E : xE) (h : Nat) (u : Nat → Nat) : va_W := (h, .inr (6, [.ref (u 1), .ref (u 2), .ref (u 3), .int 0, .int 0])) :: sn (sn (sn [] (u 1, .inl (E.2.2.1, 1024, .inr (.inl (fun _ => 0))))) (u 2, .inl (E.2.2.1, 1024, .inr (.inl (fun _ => 0))))) (u 3, .inl (E.2.1, 1024, .inl (fun _ => 0)))
abbrev tSe : Type := Nat × Nat × (Nat → Nat) × Nat
def sSe (E : xE) (h b : Nat) (t : tSe) : va_W := (h, .inr (4, [.ref b, .ref t.1, .ref t.2.1, .ref t.2.2.2, .int 0, .int 1, .long 0, .int 0, .int 0, .int 0, .long 0])) :: sn (sa (sa [] (sSh t.1 ())) (sSS E t.2.1 t.2.2.1)) (t.2.2.2, .inl (E.2.1, 64, .inl (fun _ => 0)))
def sTx (E : xE) (h q : Nat) : va_W := (h, .inr (8, [.ref q, .int 0])) :: sn [] (q, .inl (E.2.1, 150, .inl (fun _ => 0)))
def sOr (E : xE) (h q : Nat) : va_W := (h, .inr (3, [.int 0, .ref q, .int 0, .int 0, .int 0, .int 0, .int 0, .int 0, .int 0, .int 0])) :: sn [] (q, .inl (E.2.1, 4, .inl (fun _ => 0)))
abbrev tWp : Type := Nat × tSt × Nat × tHi × Nat × tSe × Nat × Nat × Nat × Nat
def sWp (E : xE) (h : Nat) (t : tWp) : va_W := (h, .inr (9, [.ref t.1, .ref t.2.2.1, .ref t.2.2.2.2.1, .ref t.2.2.2.2.2.2.1, .ref t.2.2.2.2.2.2.2.2.1, .int 0, .int 0, .int 0])) :: sa (sa (sa (sa (sa [] (sSt E t.1 t.2.1)) (sHi E t.2.2.1 t.2.2.2.1)) (sSe E t.2.2.2.2.1 t.2.1.1 t.2.2.2.2.2.1)) (sTx E t.2.2.2.2.2.2.1 t.2.2.2.2.2.2.2.1)) (sOr E t.2.2.2.2.2.2.2.2.1 t.2.2.2.2.2.2.2.2.2)
def sMo (E : xE) (h : Nat) (u : Nat → Nat) : va_W := (h, .inr (10, [.ref (u 1), .ref (u 2), .ref (u 3), .int 0, .ref (u 4), .ref (u 5), .ref (u 6), .int 0, .ref (u 7), .ref (u 8), .int 0, .int 0, .ref (u 9), .ref (u 10), .ref (u 11), .ref (u 12), .ref (u 13), .int 0, .int 0, .int 0, .int 0, .ref (u 14), .ref (u 15), .long 0])) :: (sn (sn (sn (sn (sn (sn (sn (sn (sn (sn (sn (sn (sn (sn (sn [] (u 1, .inl (E.2.1, 131, .inl (fun _ => 0)))) (u 2, .inl (E.2.1, 131, .inl (fun _ => 0)))) (u 3, .inl (E.2.1, 655, .inl (fun _ => 0)))) (u 4, .inl (E.2.1, 3, .inl (fun _ => 0)))) (u 5, .inl (E.2.1, 16, .inl (fun _ => 0)))) (u 6, .inl (E.2.1, 16, .inl (fun _ => 0)))) (u 7, .inl (E.2.1, 6, .inl (fun _ => 0)))) (u 8, .inl (E.2.1, 6, .inl (fun _ => 0)))) (u 9, .inl (E.2.1, 6, .inl (fun _ => 0)))) (u 10, .inl (E.2.2.1, 720, .inr (.inl (fun _ => 0))))) (u 11, .inl (E.2.2.1, 720, .inr (.inl (fun _ => 0))))) (u 12, .inl (E.2.1, 720, .inl (fun _ => 0)))) (u 13, .inl (E.2.1, 150, .inl (fun _ => 0)))) (u 14, .inl (E.2.1, 80, .inl (fun _ => 0)))) (u 15, .inl (E.2.1, 320, .inl (fun _ => 0))))
theorem z_swap {E : xE} {A : Nat → Prop} {H0 H : Heap} {locs : List Loc} {R : va_W} {x : Nat × va_E} {a n : Nat} {cA : ClassId} {f g : Nat → Option Nat} (hf : ∀ j, j < n → f j = g j) (hH : zH E A H0 (x :: (a, .inl (cA, n, .inr (.inr (.inr (.inr f))))) :: R) H locs) : zH E A H0 (x :: (a, .inl (cA, n, .inr (.inr (.inr (.inr g))))) :: R) H locs := by
  have hc : vp_cell cA (n, .inr (.inr (.inr (.inr f)))) = vp_cell cA (n, .inr (.inr (.inr (.inr g)))) := by
    rw [vp_cell_q, vp_cell_q]
    unfold arrV
    congr 1
    congr 1
    funext j
    show va_rf (f j.val) = va_rf (g j.val)
    rw [hf j.val j.isLt]
  obtain ⟨hP, hD, hS⟩ := hH
  refine ⟨fun k q hk => ?_, ⟨fun i j p r hi hj e => ?_, fun k q hk => ?_⟩, hS⟩
  · match k, hk with
    | 0, hk => exact hP 0 q hk
    | 1, hk =>
      cases hk
      have h1 : H[a]? = some (vp_cell cA (n, .inr (.inr (.inr (.inr f))))) := hP 1 _ rfl
      show H[a]? = some (vp_cell cA (n, .inr (.inr (.inr (.inr g)))))
      rw [h1, hc]
    | k + 2, hk => exact hP (k + 2) q hk
  · have tr : ∀ (i : Nat) (p : Nat × va_E), (x :: (a, .inl (cA, n, .inr (.inr (.inr (.inr g))))) :: R)[i]? = some p → ∃ p2 : Nat × va_E, (x :: (a, .inl (cA, n, .inr (.inr (.inr (.inr f))))) :: R)[i]? = some p2 ∧ p2.1 = p.1 := by
      intro i p hi
      match i, hi with
      | 0, hi => exact ⟨p, hi, rfl⟩
      | 1, hi => cases hi; exact ⟨_, rfl, rfl⟩
      | i + 2, hi => exact ⟨p, hi, rfl⟩
    obtain ⟨p2, h1, e1⟩ := tr i p hi
    obtain ⟨r2, h2, e2⟩ := tr j r hj
    exact hD.1 i j p2 r2 h1 h2 (by rw [e1, e2, e])
  · match k, hk with
    | 0, hk => exact hD.2 0 q hk
    | 1, hk => cases hk; exact hD.2 1 (a, .inl (cA, n, .inr (.inr (.inr (.inr f))))) rfl
    | k + 2, hk => exact hD.2 (k + 2) q hk
theorem fs_X0 : ∀ j, j < 9 → defaultValue (tyX0 j) = vp_V [.int 0, .null, .null, .null, .null, .null, .null, .null, .null] j := by
  intro j hj
  rcases (show j = 0 ∨ j = 1 ∨ j = 2 ∨ j = 3 ∨ j = 4 ∨ j = 5 ∨ j = 6 ∨ j = 7 ∨ j = 8 by omega) with rfl | rfl | rfl | rfl | rfl | rfl | rfl | rfl | rfl <;> rfl
theorem zd_X0_init : yX0_init.cls ≠ "java/lang/invoke/MethodHandle" ∧ yX0_init.cls ≠ "java/lang/invoke/VarHandle" ∧ (parseMethodDescriptor yX0_init.desc).map (fun d => d.parameters.length) = some 0 := by decide +kernel
theorem zi_X0_init : Cond.instanceMethod yX0_init ∈ wsL_law := (wm_3 _ (List.mem_of_getElem? (i := 0) rfl))
theorem zc_X0_init : Cond.code yX0_init cX0_init 1 none ∈ wsL_law := (wm_3 _ (List.mem_of_getElem? (i := 1) rfl))
theorem fs_X2 : ∀ j, j < 7 → defaultValue (tyX2 j) = vp_V [.null, .int 0, .int 0, .int 0, .null, .null, .null] j := by
  intro j hj
  rcases (show j = 0 ∨ j = 1 ∨ j = 2 ∨ j = 3 ∨ j = 4 ∨ j = 5 ∨ j = 6 by omega) with rfl | rfl | rfl | rfl | rfl | rfl | rfl <;> rfl
theorem zd_X2_init : yX2_init.cls ≠ "java/lang/invoke/MethodHandle" ∧ yX2_init.cls ≠ "java/lang/invoke/VarHandle" ∧ (parseMethodDescriptor yX2_init.desc).map (fun d => d.parameters.length) = some 0 := by decide +kernel
theorem zi_X2_init : Cond.instanceMethod yX2_init ∈ wsL_law := (wm_3 _ (List.mem_of_getElem? (i := 13) rfl))
theorem zc_X2_init : Cond.code yX2_init cX2_init 1 none ∈ wsL_law := (wm_3 _ (List.mem_of_getElem? (i := 14) rfl))
theorem fs_X3 : ∀ j, j < 3 → defaultValue (tyX3 j) = vp_V [.null, .int 0, .int 0] j := by
  intro j hj
  rcases (show j = 0 ∨ j = 1 ∨ j = 2 by omega) with rfl | rfl | rfl <;> rfl
theorem zd_X3_init : yX3_init.cls ≠ "java/lang/invoke/MethodHandle" ∧ yX3_init.cls ≠ "java/lang/invoke/VarHandle" ∧ (parseMethodDescriptor yX3_init.desc).map (fun d => d.parameters.length) = some 0 := by decide +kernel
theorem zi_X3_init : Cond.instanceMethod yX3_init ∈ wsL_law := (wm_4 _ (List.mem_of_getElem? (i := 9) rfl))
theorem zc_X3_init : Cond.code yX3_init cX3_init 2 none ∈ wsL_law := (wm_4 _ (List.mem_of_getElem? (i := 10) rfl))
theorem fs_X4 : ∀ j, j < 10 → defaultValue (tyX4 j) = vp_V [.int 0, .null, .int 0, .int 0, .int 0, .int 0, .int 0, .int 0, .int 0, .int 0] j := by
  intro j hj
  rcases (show j = 0 ∨ j = 1 ∨ j = 2 ∨ j = 3 ∨ j = 4 ∨ j = 5 ∨ j = 6 ∨ j = 7 ∨ j = 8 ∨ j = 9 by omega) with rfl | rfl | rfl | rfl | rfl | rfl | rfl | rfl | rfl | rfl <;> rfl
theorem zd_X4_init : yX4_init.cls ≠ "java/lang/invoke/MethodHandle" ∧ yX4_init.cls ≠ "java/lang/invoke/VarHandle" ∧ (parseMethodDescriptor yX4_init.desc).map (fun d => d.parameters.length) = some 0 := by decide +kernel
theorem zi_X4_init : Cond.instanceMethod yX4_init ∈ wsL_law := (wm_6 _ (List.mem_of_getElem? (i := 1) rfl))
theorem zc_X4_init : Cond.code yX4_init cX4_init 1 none ∈ wsL_law := (wm_6 _ (List.mem_of_getElem? (i := 2) rfl))
theorem fs_X6 : ∀ j, j < 11 → defaultValue (tyX6 j) = vp_V [.null, .null, .null, .null, .int 0, .int 0, .long 0, .int 0, .int 0, .int 0, .long 0] j := by
  intro j hj
  rcases (show j = 0 ∨ j = 1 ∨ j = 2 ∨ j = 3 ∨ j = 4 ∨ j = 5 ∨ j = 6 ∨ j = 7 ∨ j = 8 ∨ j = 9 ∨ j = 10 by omega) with rfl | rfl | rfl | rfl | rfl | rfl | rfl | rfl | rfl | rfl | rfl <;> rfl
theorem zd_X6_init : yX6_init.cls ≠ "java/lang/invoke/MethodHandle" ∧ yX6_init.cls ≠ "java/lang/invoke/VarHandle" ∧ (parseMethodDescriptor yX6_init.desc).map (fun d => d.parameters.length) = some 1 := by decide +kernel
theorem zi_X6_init : Cond.instanceMethod yX6_init ∈ wsL_law := (wm_4 _ (List.mem_of_getElem? (i := 17) rfl))
theorem zc_X6_init : Cond.code yX6_init cX6_init 2 none ∈ wsL_law := (wm_4 _ (List.mem_of_getElem? (i := 18) rfl))
theorem fs_X7 : ∀ j, j < 3 → defaultValue (tyX7 j) = vp_V [.long 0, .long 0, .int 0] j := by
  intro j hj
  rcases (show j = 0 ∨ j = 1 ∨ j = 2 by omega) with rfl | rfl | rfl <;> rfl
theorem zd_X7_init : yX7_init.cls ≠ "java/lang/invoke/MethodHandle" ∧ yX7_init.cls ≠ "java/lang/invoke/VarHandle" ∧ (parseMethodDescriptor yX7_init.desc).map (fun d => d.parameters.length) = some 0 := by decide +kernel
theorem zi_X7_init : Cond.instanceMethod yX7_init ∈ wsL_law := (wm_4 _ (List.mem_of_getElem? (i := 2) rfl))
theorem zc_X7_init : Cond.code yX7_init cX7_init 1 none ∈ wsL_law := (wm_4 _ (List.mem_of_getElem? (i := 3) rfl))
theorem fs_X8 : ∀ j, j < 5 → defaultValue (tyX8 j) = vp_V [.null, .null, .null, .int 0, .int 0] j := by
  intro j hj
  rcases (show j = 0 ∨ j = 1 ∨ j = 2 ∨ j = 3 ∨ j = 4 by omega) with rfl | rfl | rfl | rfl | rfl <;> rfl
theorem zd_X8_init : yX8_init.cls ≠ "java/lang/invoke/MethodHandle" ∧ yX8_init.cls ≠ "java/lang/invoke/VarHandle" ∧ (parseMethodDescriptor yX8_init.desc).map (fun d => d.parameters.length) = some 0 := by decide +kernel
theorem zi_X8_init : Cond.instanceMethod yX8_init ∈ wsL_law := (wm_5 _ (List.mem_of_getElem? (i := 11) rfl))
theorem zc_X8_init : Cond.code yX8_init cX8_init 1 none ∈ wsL_law := (wm_5 _ (List.mem_of_getElem? (i := 12) rfl))
theorem fs_X9 : ∀ j, j < 3 → defaultValue (tyX9 j) = vp_V [.null, .null, .long 0] j := by
  intro j hj
  rcases (show j = 0 ∨ j = 1 ∨ j = 2 by omega) with rfl | rfl | rfl <;> rfl
theorem zd_X9_init : yX9_init.cls ≠ "java/lang/invoke/MethodHandle" ∧ yX9_init.cls ≠ "java/lang/invoke/VarHandle" ∧ (parseMethodDescriptor yX9_init.desc).map (fun d => d.parameters.length) = some 0 := by decide +kernel
theorem zi_X9_init : Cond.instanceMethod yX9_init ∈ wsL_law := (wm_2 _ (List.mem_of_getElem? (i := 12) rfl))
theorem zc_X9_init : Cond.code yX9_init cX9_init 1 none ∈ wsL_law := (wm_2 _ (List.mem_of_getElem? (i := 13) rfl))
theorem fs_X10 : ∀ j, j < 2 → defaultValue (tyX10 j) = vp_V [.null, .int 0] j := by
  intro j hj
  rcases (show j = 0 ∨ j = 1 by omega) with rfl | rfl <;> rfl
theorem zd_X10_init : yX10_init.cls ≠ "java/lang/invoke/MethodHandle" ∧ yX10_init.cls ≠ "java/lang/invoke/VarHandle" ∧ (parseMethodDescriptor yX10_init.desc).map (fun d => d.parameters.length) = some 0 := by decide +kernel
theorem zi_X10_init : Cond.instanceMethod yX10_init ∈ wsL_law := (wm_5 _ (List.mem_of_getElem? (i := 20) rfl))
theorem zc_X10_init : Cond.code yX10_init cX10_init 1 none ∈ wsL_law := (wm_5 _ (List.mem_of_getElem? (i := 21) rfl))
theorem fs_X11 : ∀ j, j < 8 → defaultValue (tyX11 j) = vp_V [.null, .null, .null, .null, .null, .int 0, .int 0, .int 0] j := by
  intro j hj
  rcases (show j = 0 ∨ j = 1 ∨ j = 2 ∨ j = 3 ∨ j = 4 ∨ j = 5 ∨ j = 6 ∨ j = 7 by omega) with rfl | rfl | rfl | rfl | rfl | rfl | rfl | rfl <;> rfl
theorem zd_X11_init : yX11_init.cls ≠ "java/lang/invoke/MethodHandle" ∧ yX11_init.cls ≠ "java/lang/invoke/VarHandle" ∧ (parseMethodDescriptor yX11_init.desc).map (fun d => d.parameters.length) = some 0 := by decide +kernel
theorem zi_X11_init : Cond.instanceMethod yX11_init ∈ wsL_law := (wm_1 _ (List.mem_of_getElem? (i := 7) rfl))
theorem zc_X11_init : Cond.code yX11_init cX11_init 1 none ∈ wsL_law := (wm_1 _ (List.mem_of_getElem? (i := 8) rfl))
theorem fs_X12 : ∀ j, j < 24 → defaultValue (tyX12 j) = vp_V [.null, .null, .null, .int 0, .null, .null, .null, .int 0, .null, .null, .int 0, .int 0, .null, .null, .null, .null, .null, .int 0, .int 0, .int 0, .int 0, .null, .null, .long 0] j := by
  intro j hj
  rcases (show j = 0 ∨ j = 1 ∨ j = 2 ∨ j = 3 ∨ j = 4 ∨ j = 5 ∨ j = 6 ∨ j = 7 ∨ j = 8 ∨ j = 9 ∨ j = 10 ∨ j = 11 ∨ j = 12 ∨ j = 13 ∨ j = 14 ∨ j = 15 ∨ j = 16 ∨ j = 17 ∨ j = 18 ∨ j = 19 ∨ j = 20 ∨ j = 21 ∨ j = 22 ∨ j = 23 by omega) with rfl | rfl | rfl | rfl | rfl | rfl | rfl | rfl | rfl | rfl | rfl | rfl | rfl | rfl | rfl | rfl | rfl | rfl | rfl | rfl | rfl | rfl | rfl | rfl <;> rfl
theorem zd_X12_init : yX12_init.cls ≠ "java/lang/invoke/MethodHandle" ∧ yX12_init.cls ≠ "java/lang/invoke/VarHandle" ∧ (parseMethodDescriptor yX12_init.desc).map (fun d => d.parameters.length) = some 0 := by decide +kernel
theorem zi_X12_init : Cond.instanceMethod yX12_init ∈ wsL_law := (wm_6 _ (List.mem_of_getElem? (i := 15) rfl))
theorem zc_X12_init : Cond.code yX12_init cX12_init 1 none ∈ wsL_law := (wm_6 _ (List.mem_of_getElem? (i := 16) rfl))
set_option maxRecDepth 100000 in
set_option maxHeartbeats 4000000 in
theorem c_X7_init (l : Launch) (E : xE) (h0 : Nat) : zM l yX7_init (Cond.code yX7_init cX7_init 1 none :: wsL_law) ({ frames := 1, cells := 0, slots := 0, locals := 40 } : Room) E [(h0, .inr (5, [.long 0, .long 0, .int 0]))] [.ref h0] (sSh h0) 0 0 := by
  refine z_st (own := RX7) (cc := cX7_init) rfl (by decide) rfl rfl (Nat.le_of_ble_eq_true rfl) ?_
  intro p e s m args below meth c ls A G hr hA hH hAe hl
  obtain ⟨hx, hb, hml, hown, hts, hKn, hN2, hlk, hin2⟩ := id G
  have hl : lv_has ls 1 [(0, .ref h0)] := hl
  refine lv_aload_n hx hb dX7_init_0 rfl (lv_at hl 0 rfl) ?_
  refine z_obj G (wm_4 _ (List.mem_of_getElem? (i := 4) rfl)) (wm_1 _ (List.mem_of_getElem? (i := 10) rfl)) (wm_1 _ (List.mem_of_getElem? (i := 11) rfl)) hl.1 dX7_init_1 ⟨(Nat.le_of_ble_eq_true rfl), (Nat.le_of_ble_eq_true rfl)⟩ ?_
  refine lv_aload_n hx hb dX7_init_4 rfl (lv_at hl 0 rfl) ?_
  refine lv_lconst (v := (0 : Int64)) hx hb dX7_init_5 (by decide) ?_
  refine y_put (k := 0) (C := RX7) (T := TX7) (N := 3) (ty := .long) (v := .long 0) (fs2 := [.long 0, .long 0, .int 0]) G hH rfl inlX7 tyX7 tyX7_ok nmX7 (by decide) (wm_4 _ (List.mem_of_getElem? (i := 5) rfl)) rfl (by decide +kernel) rfl rfl (Nat.le_of_ble_eq_true rfl) rfl dX7_init_6 (fun H locs hH => ?_)
  refine lv_aload_n hx hb dX7_init_9 rfl (lv_at hl 0 rfl) ?_
  refine lv_lconst (v := (0 : Int64)) hx hb dX7_init_10 (by decide) ?_
  refine y_put (k := 1) (C := RX7) (T := TX7) (N := 3) (ty := .long) (v := .long 0) (fs2 := [.long 0, .long 0, .int 0]) G hH rfl inlX7 tyX7 tyX7_ok nmX7 (by decide) (wm_4 _ (List.mem_of_getElem? (i := 6) rfl)) rfl (by decide +kernel) rfl rfl (Nat.le_of_ble_eq_true rfl) rfl dX7_init_11 (fun H locs hH => ?_)
  refine lv_aload_n hx hb dX7_init_14 rfl (lv_at hl 0 rfl) ?_
  refine lv_iconst (v := (0 : Int32)) hx hb dX7_init_15 (by decide) ?_
  refine y_put (k := 2) (C := RX7) (T := TX7) (N := 3) (ty := .int) (v := .int 0) (fs2 := [.long 0, .long 0, .int 0]) G hH rfl inlX7 tyX7 tyX7_ok nmX7 (by decide) (wm_4 _ (List.mem_of_getElem? (i := 7) rfl)) rfl (by decide +kernel) rfl rfl (Nat.le_of_ble_eq_true rfl) rfl dX7_init_16 (fun H locs hH => ?_)
  refine W.widen (k := 0) (n := 0) (Nat.le_of_ble_eq_true rfl) (Nat.le_of_ble_eq_true rfl) ?_
  exact z_ret (W1 := sSh h0) G hr hAe () hH dX7_init_19
set_option maxRecDepth 100000 in
set_option maxHeartbeats 4000000 in
theorem c_X0_init (l : Launch) (E : xE) (h0 : Nat) : zM l yX0_init (Cond.code yX0_init cX0_init 1 none :: wsL_law) ({ frames := 1, cells := 8, slots := 48, locals := 40 } : Room) E [(h0, .inr (0, [.int 0, .null, .null, .null, .null, .null, .null, .null, .null]))] [.ref h0] (sBl E h0) 8 48 := by
  refine z_st (own := RX0) (cc := cX0_init) rfl (by decide) rfl rfl (Nat.le_of_ble_eq_true rfl) ?_
  intro p e s m args below meth c ls A G hr hA hH hAe hl
  obtain ⟨hx, hb, hml, hown, hts, hKn, hN2, hlk, hin2⟩ := id G
  have hl : lv_has ls 1 [(0, .ref h0)] := hl
  refine lv_aload_n hx hb dX0_init_0 rfl (lv_at hl 0 rfl) ?_
  refine z_obj G (wm_3 _ (List.mem_of_getElem? (i := 2) rfl)) (wm_1 _ (List.mem_of_getElem? (i := 10) rfl)) (wm_1 _ (List.mem_of_getElem? (i := 11) rfl)) hl.1 dX0_init_1 ⟨(Nat.le_of_ble_eq_true rfl), (Nat.le_of_ble_eq_true rfl)⟩ ?_
  refine lv_aload_n hx hb dX0_init_4 rfl (lv_at hl 0 rfl) ?_
  refine lv_iconst (v := (0 : Int32)) hx hb dX0_init_5 (by decide) ?_
  refine y_put (k := 0) (C := RX0) (T := TX0) (N := 9) (ty := .int) (v := .int 0) (fs2 := [.int 0, .null, .null, .null, .null, .null, .null, .null, .null]) G hH rfl inlX0 tyX0 tyX0_ok nmX0 (by decide) (wm_3 _ (List.mem_of_getElem? (i := 3) rfl)) rfl (by decide +kernel) rfl rfl (Nat.le_of_ble_eq_true rfl) rfl dX0_init_6 (fun H locs hH => ?_)
  refine lv_aload_n hx hb dX0_init_9 rfl (lv_at hl 0 rfl) ?_
  refine lv_bipush (v := (6 : Int32)) hx hb dX0_init_10 (by decide) ?_
  refine y_newi (N := 6) G hH hA (by decide) (by decide) (Nat.le_of_ble_eq_true rfl) (Nat.le_of_ble_eq_true rfl) (Nat.le_of_ble_eq_true rfl) (wm_3 _ (List.mem_of_getElem? (i := 4) rfl)) dX0_init_12 (fun q1 H hH => ?_)
  refine y_putF (k := 1) (C := RX0) (T := TX0) (N := 9) (ty := .array .int) (v := .ref q1) (fs2 := [.int 0, .ref q1, .null, .null, .null, .null, .null, .null, .null]) G hH rfl inlX0 tyX0 tyX0_ok nmX0 (by decide) (wm_3 _ (List.mem_of_getElem? (i := 5) rfl)) rfl (by decide +kernel) rfl (by decide +kernel) rfl rfl (Nat.le_of_ble_eq_true rfl) rfl dX0_init_14 (fun H locs hH => ?_)
  refine lv_aload_n hx hb dX0_init_17 rfl (lv_at hl 0 rfl) ?_
  refine lv_bipush (v := (6 : Int32)) hx hb dX0_init_18 (by decide) ?_
  refine y_newi (N := 6) G hH hA (by decide) (by decide) (Nat.le_of_ble_eq_true rfl) (Nat.le_of_ble_eq_true rfl) (Nat.le_of_ble_eq_true rfl) (wm_3 _ (List.mem_of_getElem? (i := 4) rfl)) dX0_init_20 (fun q2 H hH => ?_)
  refine y_putF (k := 2) (C := RX0) (T := TX0) (N := 9) (ty := .array .int) (v := .ref q2) (fs2 := [.int 0, .ref q1, .ref q2, .null, .null, .null, .null, .null, .null]) G hH rfl inlX0 tyX0 tyX0_ok nmX0 (by decide) (wm_3 _ (List.mem_of_getElem? (i := 6) rfl)) rfl (by decide +kernel) rfl (by decide +kernel) rfl rfl (Nat.le_of_ble_eq_true rfl) rfl dX0_init_22 (fun H locs hH => ?_)
  refine lv_aload_n hx hb dX0_init_25 rfl (lv_at hl 0 rfl) ?_
  refine lv_bipush (v := (6 : Int32)) hx hb dX0_init_26 (by decide) ?_
  refine y_newi (N := 6) G hH hA (by decide) (by decide) (Nat.le_of_ble_eq_true rfl) (Nat.le_of_ble_eq_true rfl) (Nat.le_of_ble_eq_true rfl) (wm_3 _ (List.mem_of_getElem? (i := 4) rfl)) dX0_init_28 (fun q3 H hH => ?_)
  refine y_putF (k := 3) (C := RX0) (T := TX0) (N := 9) (ty := .array .int) (v := .ref q3) (fs2 := [.int 0, .ref q1, .ref q2, .ref q3, .null, .null, .null, .null, .null]) G hH rfl inlX0 tyX0 tyX0_ok nmX0 (by decide) (wm_3 _ (List.mem_of_getElem? (i := 7) rfl)) rfl (by decide +kernel) rfl (by decide +kernel) rfl rfl (Nat.le_of_ble_eq_true rfl) rfl dX0_init_30 (fun H locs hH => ?_)
  refine lv_aload_n hx hb dX0_init_33 rfl (lv_at hl 0 rfl) ?_
  refine lv_bipush (v := (6 : Int32)) hx hb dX0_init_34 (by decide) ?_
  refine y_newi (N := 6) G hH hA (by decide) (by decide) (Nat.le_of_ble_eq_true rfl) (Nat.le_of_ble_eq_true rfl) (Nat.le_of_ble_eq_true rfl) (wm_3 _ (List.mem_of_getElem? (i := 4) rfl)) dX0_init_36 (fun q4 H hH => ?_)
  refine y_putF (k := 4) (C := RX0) (T := TX0) (N := 9) (ty := .array .int) (v := .ref q4) (fs2 := [.int 0, .ref q1, .ref q2, .ref q3, .ref q4, .null, .null, .null, .null]) G hH rfl inlX0 tyX0 tyX0_ok nmX0 (by decide) (wm_3 _ (List.mem_of_getElem? (i := 8) rfl)) rfl (by decide +kernel) rfl (by decide +kernel) rfl rfl (Nat.le_of_ble_eq_true rfl) rfl dX0_init_38 (fun H locs hH => ?_)
  refine lv_aload_n hx hb dX0_init_41 rfl (lv_at hl 0 rfl) ?_
  refine lv_bipush (v := (6 : Int32)) hx hb dX0_init_42 (by decide) ?_
  refine y_newi (N := 6) G hH hA (by decide) (by decide) (Nat.le_of_ble_eq_true rfl) (Nat.le_of_ble_eq_true rfl) (Nat.le_of_ble_eq_true rfl) (wm_3 _ (List.mem_of_getElem? (i := 4) rfl)) dX0_init_44 (fun q5 H hH => ?_)
  refine y_putF (k := 5) (C := RX0) (T := TX0) (N := 9) (ty := .array .int) (v := .ref q5) (fs2 := [.int 0, .ref q1, .ref q2, .ref q3, .ref q4, .ref q5, .null, .null, .null]) G hH rfl inlX0 tyX0 tyX0_ok nmX0 (by decide) (wm_3 _ (List.mem_of_getElem? (i := 9) rfl)) rfl (by decide +kernel) rfl (by decide +kernel) rfl rfl (Nat.le_of_ble_eq_true rfl) rfl dX0_init_46 (fun H locs hH => ?_)
  refine lv_aload_n hx hb dX0_init_49 rfl (lv_at hl 0 rfl) ?_
  refine lv_bipush (v := (6 : Int32)) hx hb dX0_init_50 (by decide) ?_
  refine y_newi (N := 6) G hH hA (by decide) (by decide) (Nat.le_of_ble_eq_true rfl) (Nat.le_of_ble_eq_true rfl) (Nat.le_of_ble_eq_true rfl) (wm_3 _ (List.mem_of_getElem? (i := 4) rfl)) dX0_init_52 (fun q6 H hH => ?_)
  refine y_putF (k := 6) (C := RX0) (T := TX0) (N := 9) (ty := .array .int) (v := .ref q6) (fs2 := [.int 0, .ref q1, .ref q2, .ref q3, .ref q4, .ref q5, .ref q6, .null, .null]) G hH rfl inlX0 tyX0 tyX0_ok nmX0 (by decide) (wm_3 _ (List.mem_of_getElem? (i := 10) rfl)) rfl (by decide +kernel) rfl (by decide +kernel) rfl rfl (Nat.le_of_ble_eq_true rfl) rfl dX0_init_54 (fun H locs hH => ?_)
  refine lv_aload_n hx hb dX0_init_57 rfl (lv_at hl 0 rfl) ?_
  refine lv_bipush (v := (6 : Int32)) hx hb dX0_init_58 (by decide) ?_
  refine y_newi (N := 6) G hH hA (by decide) (by decide) (Nat.le_of_ble_eq_true rfl) (Nat.le_of_ble_eq_true rfl) (Nat.le_of_ble_eq_true rfl) (wm_3 _ (List.mem_of_getElem? (i := 4) rfl)) dX0_init_60 (fun q7 H hH => ?_)
  refine y_putF (k := 7) (C := RX0) (T := TX0) (N := 9) (ty := .array .int) (v := .ref q7) (fs2 := [.int 0, .ref q1, .ref q2, .ref q3, .ref q4, .ref q5, .ref q6, .ref q7, .null]) G hH rfl inlX0 tyX0 tyX0_ok nmX0 (by decide) (wm_3 _ (List.mem_of_getElem? (i := 11) rfl)) rfl (by decide +kernel) rfl (by decide +kernel) rfl rfl (Nat.le_of_ble_eq_true rfl) rfl dX0_init_62 (fun H locs hH => ?_)
  refine lv_aload_n hx hb dX0_init_65 rfl (lv_at hl 0 rfl) ?_
  refine lv_bipush (v := (6 : Int32)) hx hb dX0_init_66 (by decide) ?_
  refine y_newi (N := 6) G hH hA (by decide) (by decide) (Nat.le_of_ble_eq_true rfl) (Nat.le_of_ble_eq_true rfl) (Nat.le_of_ble_eq_true rfl) (wm_3 _ (List.mem_of_getElem? (i := 4) rfl)) dX0_init_68 (fun q8 H hH => ?_)
  refine y_putF (k := 8) (C := RX0) (T := TX0) (N := 9) (ty := .array .int) (v := .ref q8) (fs2 := [.int 0, .ref q1, .ref q2, .ref q3, .ref q4, .ref q5, .ref q6, .ref q7, .ref q8]) G hH rfl inlX0 tyX0 tyX0_ok nmX0 (by decide) (wm_3 _ (List.mem_of_getElem? (i := 12) rfl)) rfl (by decide +kernel) rfl (by decide +kernel) rfl rfl (Nat.le_of_ble_eq_true rfl) rfl dX0_init_70 (fun H locs hH => ?_)
  refine W.widen (k := 8) (n := 48) (Nat.le_of_ble_eq_true rfl) (Nat.le_of_ble_eq_true rfl) ?_
  exact z_ret (W1 := sBl E h0) G hr hAe (fun k => [h0, q1, q2, q3, q4, q5, q6, q7, q8].getD k 0) hH dX0_init_73
set_option maxRecDepth 100000 in
set_option maxHeartbeats 4000000 in
theorem c_X2_init (l : Launch) (E : xE) (h0 : Nat) : zM l yX2_init (Cond.code yX2_init cX2_init 1 none :: wsL_law) ({ frames := 2, cells := 4, slots := 39, locals := 80 } : Room) E [(h0, .inr (1, [.null, .int 0, .int 0, .int 0, .null, .null, .null]))] [.ref h0] (sHw E h0) 4 39 := by
  refine z_st (own := RX2) (cc := cX2_init) rfl (by decide) rfl rfl (Nat.le_of_ble_eq_true rfl) ?_
  intro p e s m args below meth c ls A G hr hA hH hAe hl
  obtain ⟨hx, hb, hml, hown, hts, hKn, hN2, hlk, hin2⟩ := id G
  have hl : lv_has ls 1 [(0, .ref h0)] := hl
  refine lv_aload_n hx hb dX2_init_0 rfl (lv_at hl 0 rfl) ?_
  refine z_obj G (wm_3 _ (List.mem_of_getElem? (i := 15) rfl)) (wm_1 _ (List.mem_of_getElem? (i := 10) rfl)) (wm_1 _ (List.mem_of_getElem? (i := 11) rfl)) hl.1 dX2_init_1 ⟨(Nat.le_of_ble_eq_true rfl), (Nat.le_of_ble_eq_true rfl)⟩ ?_
  refine lv_aload_n hx hb dX2_init_4 rfl (lv_at hl 0 rfl) ?_
  refine y_new (ci := 5) (fs := [.long 0, .long 0, .int 0]) (C := RX7) (T := TX7) (N := 3) G hH hA inlX7 tyX7 tyX7_ok (wm_3 _ (List.mem_of_getElem? (i := 16) rfl)) (wm_3 _ (List.mem_of_getElem? (i := 17) rfl)) mn_RX7 rfl fs_X7 (Nat.le_of_ble_eq_true rfl) (Nat.le_of_ble_eq_true rfl) dX2_init_5 (fun q1 H hH => ?_)
  refine lv_dup hx hb dX2_init_8 rfl ?_
  refine y_cN (W1 := sSh q1) (As := []) (rest := [.ref q1, .ref h0]) (rm := ({ frames := 1, cells := 0, slots := 0, locals := 40 } : Room)) (mc := 0) (ms := 0) (n := 0) (host := "WetPrints") G hH hA (c_X7_init l E q1 ) rfl rfl (List.mem_of_getElem? (i := 3) rfl) zi_X7_init mn_RX7 zc_X7_init rfl zd_X7_init ⟨(Nat.le_of_ble_eq_true rfl), (Nat.le_of_ble_eq_true rfl)⟩ rfl hl.1 rfl (Nat.le_of_ble_eq_true rfl) dX2_init_9 ⟨(Nat.le_of_ble_eq_true rfl), (Nat.le_of_ble_eq_true rfl)⟩ (fun u2 H locs hH => ?_)
  cases u2
  refine y_putF (k := 0) (C := RX2) (T := TX2) (N := 7) (ty := .object "WetPrints$Sheet") (v := .ref q1) (fs2 := [.ref q1, .int 0, .int 0, .int 0, .null, .null, .null]) G hH rfl inlX2 tyX2 tyX2_ok nmX2 (by decide) (wm_3 _ (List.mem_of_getElem? (i := 19) rfl)) rfl (by decide +kernel) rfl (by decide +kernel) rfl rfl (Nat.le_of_ble_eq_true rfl) rfl dX2_init_12 (fun H locs hH => ?_)
  refine lv_aload_n hx hb dX2_init_15 rfl (lv_at hl 0 rfl) ?_
  refine lv_iconst (v := (0 : Int32)) hx hb dX2_init_16 (by decide) ?_
  refine y_put (k := 1) (C := RX2) (T := TX2) (N := 7) (ty := .int) (v := .int 0) (fs2 := [.ref q1, .int 0, .int 0, .int 0, .null, .null, .null]) G hH rfl inlX2 tyX2 tyX2_ok nmX2 (by decide) (wm_3 _ (List.mem_of_getElem? (i := 20) rfl)) rfl (by decide +kernel) rfl rfl (Nat.le_of_ble_eq_true rfl) rfl dX2_init_17 (fun H locs hH => ?_)
  refine lv_aload_n hx hb dX2_init_20 rfl (lv_at hl 0 rfl) ?_
  refine lv_iconst (v := (0 : Int32)) hx hb dX2_init_21 (by decide) ?_
  refine y_put (k := 2) (C := RX2) (T := TX2) (N := 7) (ty := .int) (v := .int 0) (fs2 := [.ref q1, .int 0, .int 0, .int 0, .null, .null, .null]) G hH rfl inlX2 tyX2 tyX2_ok nmX2 (by decide) (wm_3 _ (List.mem_of_getElem? (i := 21) rfl)) rfl (by decide +kernel) rfl rfl (Nat.le_of_ble_eq_true rfl) rfl dX2_init_22 (fun H locs hH => ?_)
  refine lv_aload_n hx hb dX2_init_25 rfl (lv_at hl 0 rfl) ?_
  refine lv_iconst (v := (0 : Int32)) hx hb dX2_init_26 (by decide) ?_
  refine y_put (k := 3) (C := RX2) (T := TX2) (N := 7) (ty := .int) (v := .int 0) (fs2 := [.ref q1, .int 0, .int 0, .int 0, .null, .null, .null]) G hH rfl inlX2 tyX2 tyX2_ok nmX2 (by decide) (wm_3 _ (List.mem_of_getElem? (i := 22) rfl)) rfl (by decide +kernel) rfl rfl (Nat.le_of_ble_eq_true rfl) rfl dX2_init_27 (fun H locs hH => ?_)
  refine lv_aload_n hx hb dX2_init_30 rfl (lv_at hl 0 rfl) ?_
  refine lv_bipush (v := (12 : Int32)) hx hb dX2_init_31 (by decide) ?_
  refine y_newi (N := 12) G hH hA (by decide) (by decide) (Nat.le_of_ble_eq_true rfl) (Nat.le_of_ble_eq_true rfl) (Nat.le_of_ble_eq_true rfl) (wm_3 _ (List.mem_of_getElem? (i := 4) rfl)) dX2_init_33 (fun q3 H hH => ?_)
  refine y_putF (k := 4) (C := RX2) (T := TX2) (N := 7) (ty := .array .int) (v := .ref q3) (fs2 := [.ref q1, .int 0, .int 0, .int 0, .ref q3, .null, .null]) G hH rfl inlX2 tyX2 tyX2_ok nmX2 (by decide) (wm_3 _ (List.mem_of_getElem? (i := 23) rfl)) rfl (by decide +kernel) rfl (by decide +kernel) rfl rfl (Nat.le_of_ble_eq_true rfl) rfl dX2_init_35 (fun H locs hH => ?_)
  refine lv_aload_n hx hb dX2_init_38 rfl (lv_at hl 0 rfl) ?_
  refine lv_bipush (v := (12 : Int32)) hx hb dX2_init_39 (by decide) ?_
  refine y_newi (N := 12) G hH hA (by decide) (by decide) (Nat.le_of_ble_eq_true rfl) (Nat.le_of_ble_eq_true rfl) (Nat.le_of_ble_eq_true rfl) (wm_3 _ (List.mem_of_getElem? (i := 4) rfl)) dX2_init_41 (fun q4 H hH => ?_)
  refine y_putF (k := 5) (C := RX2) (T := TX2) (N := 7) (ty := .array .int) (v := .ref q4) (fs2 := [.ref q1, .int 0, .int 0, .int 0, .ref q3, .ref q4, .null]) G hH rfl inlX2 tyX2 tyX2_ok nmX2 (by decide) (wm_4 _ (List.mem_of_getElem? (i := 0) rfl)) rfl (by decide +kernel) rfl (by decide +kernel) rfl rfl (Nat.le_of_ble_eq_true rfl) rfl dX2_init_43 (fun H locs hH => ?_)
  refine lv_aload_n hx hb dX2_init_46 rfl (lv_at hl 0 rfl) ?_
  refine lv_bipush (v := (12 : Int32)) hx hb dX2_init_47 (by decide) ?_
  refine y_newi (N := 12) G hH hA (by decide) (by decide) (Nat.le_of_ble_eq_true rfl) (Nat.le_of_ble_eq_true rfl) (Nat.le_of_ble_eq_true rfl) (wm_3 _ (List.mem_of_getElem? (i := 4) rfl)) dX2_init_49 (fun q5 H hH => ?_)
  refine y_putF (k := 6) (C := RX2) (T := TX2) (N := 7) (ty := .array .int) (v := .ref q5) (fs2 := [.ref q1, .int 0, .int 0, .int 0, .ref q3, .ref q4, .ref q5]) G hH rfl inlX2 tyX2 tyX2_ok nmX2 (by decide) (wm_4 _ (List.mem_of_getElem? (i := 1) rfl)) rfl (by decide +kernel) rfl (by decide +kernel) rfl rfl (Nat.le_of_ble_eq_true rfl) rfl dX2_init_51 (fun H locs hH => ?_)
  refine W.widen (k := 4) (n := 39) (Nat.le_of_ble_eq_true rfl) (Nat.le_of_ble_eq_true rfl) ?_
  exact z_ret (W1 := sHw E h0) G hr hAe (fun k => [h0, q1, q3, q4, q5].getD k 0) hH dX2_init_54
set_option maxRecDepth 100000 in
set_option maxHeartbeats 4000000 in
theorem c_X9_init (l : Launch) (E : xE) (h0 : Nat) : zM l yX9_init (Cond.code yX9_init cX9_init 1 none :: wsL_law) ({ frames := 3, cells := 14, slots := 103, locals := 120 } : Room) E [(h0, .inr (7, [.null, .null, .long 0]))] [.ref h0] (sSt E h0) 14 103 := by
  refine z_st (own := RX9) (cc := cX9_init) rfl (by decide) rfl rfl (Nat.le_of_ble_eq_true rfl) ?_
  intro p e s m args below meth c ls A G hr hA hH hAe hl
  obtain ⟨hx, hb, hml, hown, hts, hKn, hN2, hlk, hin2⟩ := id G
  have hl : lv_has ls 1 [(0, .ref h0)] := hl
  refine lv_aload_n hx hb dX9_init_0 rfl (lv_at hl 0 rfl) ?_
  refine z_obj G (wm_2 _ (List.mem_of_getElem? (i := 14) rfl)) (wm_1 _ (List.mem_of_getElem? (i := 10) rfl)) (wm_1 _ (List.mem_of_getElem? (i := 11) rfl)) hl.1 dX9_init_1 ⟨(Nat.le_of_ble_eq_true rfl), (Nat.le_of_ble_eq_true rfl)⟩ ?_
  refine lv_aload_n hx hb dX9_init_4 rfl (lv_at hl 0 rfl) ?_
  refine y_new (ci := 0) (fs := [.int 0, .null, .null, .null, .null, .null, .null, .null, .null]) (C := RX0) (T := TX0) (N := 9) G hH hA inlX0 tyX0 tyX0_ok (wm_2 _ (List.mem_of_getElem? (i := 15) rfl)) (wm_2 _ (List.mem_of_getElem? (i := 16) rfl)) mn_RX0 rfl fs_X0 (Nat.le_of_ble_eq_true rfl) (Nat.le_of_ble_eq_true rfl) dX9_init_5 (fun q1 H hH => ?_)
  refine lv_dup hx hb dX9_init_8 rfl ?_
  refine y_cN (W1 := sBl E q1 ) (As := []) (rest := [.ref q1, .ref h0]) (rm := ({ frames := 1, cells := 8, slots := 48, locals := 40 } : Room)) (mc := 8) (ms := 48) (n := 0) (host := "WetPrints") G hH hA (c_X0_init l E q1 ) rfl rfl (List.mem_of_getElem? (i := 1) rfl) zi_X0_init mn_RX0 zc_X0_init rfl zd_X0_init ⟨(Nat.le_of_ble_eq_true rfl), (Nat.le_of_ble_eq_true rfl)⟩ rfl hl.1 rfl (Nat.le_of_ble_eq_true rfl) dX9_init_9 ⟨(Nat.le_of_ble_eq_true rfl), (Nat.le_of_ble_eq_true rfl)⟩ (fun u2 H locs hH => ?_)
  refine y_putF (k := 0) (C := RX9) (T := TX9) (N := 3) (ty := .object "WetPrints$Blocks") (v := .ref q1) (fs2 := [.ref q1, .null, .long 0]) G hH rfl inlX9 tyX9 tyX9_ok nmX9 (by decide) (wm_2 _ (List.mem_of_getElem? (i := 18) rfl)) rfl (by decide +kernel) rfl (by decide +kernel) rfl rfl (Nat.le_of_ble_eq_true rfl) rfl dX9_init_12 (fun H locs hH => ?_)
  refine lv_aload_n hx hb dX9_init_15 rfl (lv_at hl 0 rfl) ?_
  refine y_new (ci := 1) (fs := [.null, .int 0, .int 0, .int 0, .null, .null, .null]) (C := RX2) (T := TX2) (N := 7) G hH hA inlX2 tyX2 tyX2_ok (wm_2 _ (List.mem_of_getElem? (i := 19) rfl)) (wm_2 _ (List.mem_of_getElem? (i := 20) rfl)) mn_RX2 rfl fs_X2 (Nat.le_of_ble_eq_true rfl) (Nat.le_of_ble_eq_true rfl) dX9_init_16 (fun q3 H hH => ?_)
  refine lv_dup hx hb dX9_init_19 rfl ?_
  refine y_cN (W1 := sHw E q3 ) (As := []) (rest := [.ref q3, .ref h0]) (rm := ({ frames := 2, cells := 4, slots := 39, locals := 80 } : Room)) (mc := 4) (ms := 39) (n := 0) (host := "WetPrints") G hH hA (c_X2_init l E q3 ) rfl rfl (List.mem_of_getElem? (i := 2) rfl) zi_X2_init mn_RX2 zc_X2_init rfl zd_X2_init ⟨(Nat.le_of_ble_eq_true rfl), (Nat.le_of_ble_eq_true rfl)⟩ rfl hl.1 rfl (Nat.le_of_ble_eq_true rfl) dX9_init_20 ⟨(Nat.le_of_ble_eq_true rfl), (Nat.le_of_ble_eq_true rfl)⟩ (fun u4 H locs hH => ?_)
  refine y_putF (k := 1) (C := RX9) (T := TX9) (N := 3) (ty := .object "WetPrints$HandWork") (v := .ref q3) (fs2 := [.ref q1, .ref q3, .long 0]) G hH rfl inlX9 tyX9 tyX9_ok nmX9 (by decide) (wm_2 _ (List.mem_of_getElem? (i := 22) rfl)) rfl (by decide +kernel) rfl (by decide +kernel) rfl rfl (Nat.le_of_ble_eq_true rfl) rfl dX9_init_23 (fun H locs hH => ?_)
  refine lv_aload_n hx hb dX9_init_26 rfl (lv_at hl 0 rfl) ?_
  refine lv_lconst (v := (0 : Int64)) hx hb dX9_init_27 (by decide) ?_
  refine y_put (k := 2) (C := RX9) (T := TX9) (N := 3) (ty := .long) (v := .long 0) (fs2 := [.ref q1, .ref q3, .long 0]) G hH rfl inlX9 tyX9 tyX9_ok nmX9 (by decide) (wm_2 _ (List.mem_of_getElem? (i := 23) rfl)) rfl (by decide +kernel) rfl rfl (Nat.le_of_ble_eq_true rfl) rfl dX9_init_28 (fun H locs hH => ?_)
  refine W.widen (k := 14) (n := 103) (Nat.le_of_ble_eq_true rfl) (Nat.le_of_ble_eq_true rfl) ?_
  exact z_ret (W1 := sSt E h0) G hr hAe (q1, u2, q3, u4) hH dX9_init_31
set_option maxRecDepth 100000 in
set_option maxHeartbeats 4000000 in
theorem c_X3_init (l : Launch) (E : xE) (h0 : Nat) : zM l yX3_init (Cond.code yX3_init cX3_init 2 none :: wsL_law) ({ frames := 4, cells := 76, slots := 535, locals := 160 } : Room) E [(h0, .inr (2, [.null, .int 0, .int 0]))] [.ref h0] (sHi E h0) 76 535 := by
  refine z_st (own := RX3) (cc := cX3_init) rfl (by decide) rfl rfl (Nat.le_of_ble_eq_true rfl) ?_
  intro p e s m args below meth c ls A G hr hA hH hAe hl
  obtain ⟨hx, hb, hml, hown, hts, hKn, hN2, hlk, hin2⟩ := id G
  have hl : lv_has ls 2 [(0, .ref h0)] := hl
  refine lv_aload_n hx hb dX3_init_0 rfl (lv_at hl 0 rfl) ?_
  refine z_obj G (wm_4 _ (List.mem_of_getElem? (i := 11) rfl)) (wm_1 _ (List.mem_of_getElem? (i := 10) rfl)) (wm_1 _ (List.mem_of_getElem? (i := 11) rfl)) hl.1 dX3_init_1 ⟨(Nat.le_of_ble_eq_true rfl), (Nat.le_of_ble_eq_true rfl)⟩ ?_
  refine lv_aload_n hx hb dX3_init_4 rfl (lv_at hl 0 rfl) ?_
  refine lv_iconst (v := (5 : Int32)) hx hb dX3_init_5 (by decide) ?_
  refine y_newq (N := 5) G hH hA (by decide) (by decide) (Nat.le_of_ble_eq_true rfl) (Nat.le_of_ble_eq_true rfl) (Nat.le_of_ble_eq_true rfl) (wm_4 _ (List.mem_of_getElem? (i := 12) rfl)) dX3_init_6 (fun qr H hH => ?_)
  refine y_putF (k := 0) (C := RX3) (T := TX3) (N := 3) (ty := .array (.object "WetPrints$State")) (v := .ref qr) (fs2 := [.ref qr, .int 0, .int 0]) G hH rfl inlX3 tyX3 tyX3_ok nmX3 (by decide) (wm_4 _ (List.mem_of_getElem? (i := 13) rfl)) rfl (by decide +kernel) rfl (by decide +kernel) rfl rfl (Nat.le_of_ble_eq_true rfl) rfl dX3_init_9 (fun H locs hH => ?_)
  refine lv_aload_n hx hb dX3_init_12 rfl (lv_at hl 0 rfl) ?_
  refine lv_iconst (v := (0 : Int32)) hx hb dX3_init_13 (by decide) ?_
  refine y_put (k := 1) (C := RX3) (T := TX3) (N := 3) (ty := .int) (v := .int 0) (fs2 := [.ref qr, .int 0, .int 0]) G hH rfl inlX3 tyX3 tyX3_ok nmX3 (by decide) (wm_4 _ (List.mem_of_getElem? (i := 14) rfl)) rfl (by decide +kernel) rfl rfl (Nat.le_of_ble_eq_true rfl) rfl dX3_init_14 (fun H locs hH => ?_)
  refine lv_aload_n hx hb dX3_init_17 rfl (lv_at hl 0 rfl) ?_
  refine lv_iconst (v := (0 : Int32)) hx hb dX3_init_18 (by decide) ?_
  refine y_put (k := 2) (C := RX3) (T := TX3) (N := 3) (ty := .int) (v := .int 0) (fs2 := [.ref qr, .int 0, .int 0]) G hH rfl inlX3 tyX3 tyX3_ok nmX3 (by decide) (wm_4 _ (List.mem_of_getElem? (i := 15) rfl)) rfl (by decide +kernel) rfl rfl (Nat.le_of_ble_eq_true rfl) rfl dX3_init_19 (fun H locs hH => ?_)
  refine lv_iconst (v := (0 : Int32)) hx hb dX3_init_22 (by decide) ?_
  refine lv_istore_n (lv' := [(1, .int 0), (0, .ref h0)]) hx hb dX3_init_23 rfl hl (by decide) rfl (fun ls hl => ?_)
  refine lv_iload_n hx hb dX3_init_24 rfl (lv_at hl 0 rfl) ?_
  refine lv_aload_n hx hb dX3_init_25 rfl (lv_at hl 1 rfl) ?_
  refine y_get (k := 0) (C := RX3) (T := TX3) (N := 3) (v := .ref qr) G hH rfl inlX3 (by decide) (wm_4 _ (List.mem_of_getElem? (i := 13) rfl)) rfl dX3_init_26 ?_
  refine va_alen (v := 5) (cA := E.2.2.2) (x := (5, .inr (.inr (.inr (.inr (fun _ => none)))))) hx hb hKn hH.1 1 2 rfl rfl rfl dX3_init_29 ?_
  refine lv_icmp_ge (tgt := 52) hx hb dX3_init_30 (by decide) (fun cq => ?_) (fun cq => ?_)
  · exact absurd cq (by decide)
  refine lv_aload_n hx hb dX3_init_33 rfl (lv_at hl 1 rfl) ?_
  refine y_get (k := 0) (C := RX3) (T := TX3) (N := 3) (v := .ref qr) G hH rfl inlX3 (by decide) (wm_4 _ (List.mem_of_getElem? (i := 13) rfl)) rfl dX3_init_34 ?_
  refine lv_iload_n hx hb dX3_init_37 rfl (lv_at hl 0 rfl) ?_
  refine y_new (ci := 7) (fs := [.null, .null, .long 0]) (C := RX9) (T := TX9) (N := 3) G hH hA inlX9 tyX9 tyX9_ok (wm_4 _ (List.mem_of_getElem? (i := 12) rfl)) (wm_1 _ (List.mem_of_getElem? (i := 13) rfl)) mn_RX9 rfl fs_X9 (Nat.le_of_ble_eq_true rfl) (Nat.le_of_ble_eq_true rfl) dX3_init_38 (fun q1 H hH => ?_)
  refine lv_dup hx hb dX3_init_41 rfl ?_
  refine y_cN (W1 := sSt E q1 ) (As := []) (rest := [.ref q1, .int 0, .ref qr]) (rm := ({ frames := 3, cells := 14, slots := 103, locals := 120 } : Room)) (mc := 14) (ms := 103) (n := 0) (host := "WetPrints") G hH hA (c_X9_init l E q1 ) rfl rfl (List.mem_of_getElem? (i := 4) rfl) zi_X9_init mn_RX9 zc_X9_init rfl zd_X9_init ⟨(Nat.le_of_ble_eq_true rfl), (Nat.le_of_ble_eq_true rfl)⟩ rfl hl.1 rfl (Nat.le_of_ble_eq_true rfl) dX3_init_42 ⟨(Nat.le_of_ble_eq_true rfl), (Nat.le_of_ble_eq_true rfl)⟩ (fun u2 H locs hH => ?_)
  refine va_astq (r := (RX9, TX9, 3)) (cA := E.2.2.2) (n := 5) (f := (fun _ => none)) (vs := [.ref u2.1, .ref u2.2.2.1, .long 0]) hx hb hKn hH.1 hH.2.1 hH.2.2 1 2 _ 7 rfl rfl (getl (ws := (h0, .inr (2, [.ref qr, .int 0, .int 0])) :: (qr, .inl (E.2.2.2, 5, .inr (.inr (.inr (.inr (fun _ => none)))))) :: []) (x := (q1, .inr (7, [.ref u2.1, .ref u2.2.2.1, .long 0]))) (w := sa (sa [] (sBl E u2.1 u2.2.1)) (sHw E u2.2.2.1 u2.2.2.2))) rfl (show vp_in (0 : Int32) 5 by unfold vp_in; decide) dX3_init_45 (fun H locs hP hD hS => ?_)
  have hH : zH E A s.heap ((h0, .inr (2, [.ref qr, .int 0, .int 0])) :: ((qr, .inl (E.2.2.2, 5, .inr (.inr (.inr (.inr (va_up (fun _ => none) 0 (some q1))))))) :: (sa [] (sSt E q1 u2)))) H locs := ⟨hP, hD, hS⟩
  clear hP hD hS
  refine lv_iinc (v := (1 : Int32)) (lv' := [(1, .int 1), (0, .ref h0)]) hx hb dX3_init_46 hl (k := 0) rfl (by decide) (by decide) rfl (fun ls hl => ?_)
  refine lv_goto (tgt := 24) hx hb dX3_init_49 (by decide) ?_
  refine lv_iload_n hx hb dX3_init_24 rfl (lv_at hl 0 rfl) ?_
  refine lv_aload_n hx hb dX3_init_25 rfl (lv_at hl 1 rfl) ?_
  refine y_get (k := 0) (C := RX3) (T := TX3) (N := 3) (v := .ref qr) G hH rfl inlX3 (by decide) (wm_4 _ (List.mem_of_getElem? (i := 13) rfl)) rfl dX3_init_26 ?_
  refine va_alen (v := 5) (cA := E.2.2.2) (x := (5, .inr (.inr (.inr (.inr (va_up (fun _ => none) 0 (some q1))))))) hx hb hKn hH.1 1 2 rfl rfl rfl dX3_init_29 ?_
  refine lv_icmp_ge (tgt := 52) hx hb dX3_init_30 (by decide) (fun cq => ?_) (fun cq => ?_)
  · exact absurd cq (by decide)
  refine lv_aload_n hx hb dX3_init_33 rfl (lv_at hl 1 rfl) ?_
  refine y_get (k := 0) (C := RX3) (T := TX3) (N := 3) (v := .ref qr) G hH rfl inlX3 (by decide) (wm_4 _ (List.mem_of_getElem? (i := 13) rfl)) rfl dX3_init_34 ?_
  refine lv_iload_n hx hb dX3_init_37 rfl (lv_at hl 0 rfl) ?_
  refine y_new (ci := 7) (fs := [.null, .null, .long 0]) (C := RX9) (T := TX9) (N := 3) G hH hA inlX9 tyX9 tyX9_ok (wm_4 _ (List.mem_of_getElem? (i := 12) rfl)) (wm_1 _ (List.mem_of_getElem? (i := 13) rfl)) mn_RX9 rfl fs_X9 (Nat.le_of_ble_eq_true rfl) (Nat.le_of_ble_eq_true rfl) dX3_init_38 (fun q3 H hH => ?_)
  refine lv_dup hx hb dX3_init_41 rfl ?_
  refine y_cN (W1 := sSt E q3 ) (As := []) (rest := [.ref q3, .int 1, .ref qr]) (rm := ({ frames := 3, cells := 14, slots := 103, locals := 120 } : Room)) (mc := 14) (ms := 103) (n := 0) (host := "WetPrints") G hH hA (c_X9_init l E q3 ) rfl rfl (List.mem_of_getElem? (i := 4) rfl) zi_X9_init mn_RX9 zc_X9_init rfl zd_X9_init ⟨(Nat.le_of_ble_eq_true rfl), (Nat.le_of_ble_eq_true rfl)⟩ rfl hl.1 rfl (Nat.le_of_ble_eq_true rfl) dX3_init_42 ⟨(Nat.le_of_ble_eq_true rfl), (Nat.le_of_ble_eq_true rfl)⟩ (fun u4 H locs hH => ?_)
  refine va_astq (r := (RX9, TX9, 3)) (cA := E.2.2.2) (n := 5) (f := (va_up (fun _ => none) 0 (some q1))) (vs := [.ref u4.1, .ref u4.2.2.1, .long 0]) hx hb hKn hH.1 hH.2.1 hH.2.2 1 2 _ 7 rfl rfl (getl (ws := (h0, .inr (2, [.ref qr, .int 0, .int 0])) :: (qr, .inl (E.2.2.2, 5, .inr (.inr (.inr (.inr (va_up (fun _ => none) 0 (some q1))))))) :: (sa [] (sSt E q1 u2))) (x := (q3, .inr (7, [.ref u4.1, .ref u4.2.2.1, .long 0]))) (w := sa (sa [] (sBl E u4.1 u4.2.1)) (sHw E u4.2.2.1 u4.2.2.2))) rfl (show vp_in (1 : Int32) 5 by unfold vp_in; decide) dX3_init_45 (fun H locs hP hD hS => ?_)
  have hH : zH E A s.heap ((h0, .inr (2, [.ref qr, .int 0, .int 0])) :: ((qr, .inl (E.2.2.2, 5, .inr (.inr (.inr (.inr (va_up (va_up (fun _ => none) 0 (some q1)) 1 (some q3))))))) :: (sa (sa [] (sSt E q1 u2)) (sSt E q3 u4)))) H locs := ⟨hP, hD, hS⟩
  clear hP hD hS
  refine lv_iinc (v := (2 : Int32)) (lv' := [(1, .int 2), (0, .ref h0)]) hx hb dX3_init_46 hl (k := 0) rfl (by decide) (by decide) rfl (fun ls hl => ?_)
  refine lv_goto (tgt := 24) hx hb dX3_init_49 (by decide) ?_
  refine lv_iload_n hx hb dX3_init_24 rfl (lv_at hl 0 rfl) ?_
  refine lv_aload_n hx hb dX3_init_25 rfl (lv_at hl 1 rfl) ?_
  refine y_get (k := 0) (C := RX3) (T := TX3) (N := 3) (v := .ref qr) G hH rfl inlX3 (by decide) (wm_4 _ (List.mem_of_getElem? (i := 13) rfl)) rfl dX3_init_26 ?_
  refine va_alen (v := 5) (cA := E.2.2.2) (x := (5, .inr (.inr (.inr (.inr (va_up (va_up (fun _ => none) 0 (some q1)) 1 (some q3))))))) hx hb hKn hH.1 1 2 rfl rfl rfl dX3_init_29 ?_
  refine lv_icmp_ge (tgt := 52) hx hb dX3_init_30 (by decide) (fun cq => ?_) (fun cq => ?_)
  · exact absurd cq (by decide)
  refine lv_aload_n hx hb dX3_init_33 rfl (lv_at hl 1 rfl) ?_
  refine y_get (k := 0) (C := RX3) (T := TX3) (N := 3) (v := .ref qr) G hH rfl inlX3 (by decide) (wm_4 _ (List.mem_of_getElem? (i := 13) rfl)) rfl dX3_init_34 ?_
  refine lv_iload_n hx hb dX3_init_37 rfl (lv_at hl 0 rfl) ?_
  refine y_new (ci := 7) (fs := [.null, .null, .long 0]) (C := RX9) (T := TX9) (N := 3) G hH hA inlX9 tyX9 tyX9_ok (wm_4 _ (List.mem_of_getElem? (i := 12) rfl)) (wm_1 _ (List.mem_of_getElem? (i := 13) rfl)) mn_RX9 rfl fs_X9 (Nat.le_of_ble_eq_true rfl) (Nat.le_of_ble_eq_true rfl) dX3_init_38 (fun q5 H hH => ?_)
  refine lv_dup hx hb dX3_init_41 rfl ?_
  refine y_cN (W1 := sSt E q5 ) (As := []) (rest := [.ref q5, .int 2, .ref qr]) (rm := ({ frames := 3, cells := 14, slots := 103, locals := 120 } : Room)) (mc := 14) (ms := 103) (n := 0) (host := "WetPrints") G hH hA (c_X9_init l E q5 ) rfl rfl (List.mem_of_getElem? (i := 4) rfl) zi_X9_init mn_RX9 zc_X9_init rfl zd_X9_init ⟨(Nat.le_of_ble_eq_true rfl), (Nat.le_of_ble_eq_true rfl)⟩ rfl hl.1 rfl (Nat.le_of_ble_eq_true rfl) dX3_init_42 ⟨(Nat.le_of_ble_eq_true rfl), (Nat.le_of_ble_eq_true rfl)⟩ (fun u6 H locs hH => ?_)
  refine va_astq (r := (RX9, TX9, 3)) (cA := E.2.2.2) (n := 5) (f := (va_up (va_up (fun _ => none) 0 (some q1)) 1 (some q3))) (vs := [.ref u6.1, .ref u6.2.2.1, .long 0]) hx hb hKn hH.1 hH.2.1 hH.2.2 1 2 _ 7 rfl rfl (getl (ws := (h0, .inr (2, [.ref qr, .int 0, .int 0])) :: (qr, .inl (E.2.2.2, 5, .inr (.inr (.inr (.inr (va_up (va_up (fun _ => none) 0 (some q1)) 1 (some q3))))))) :: (sa (sa [] (sSt E q1 u2)) (sSt E q3 u4))) (x := (q5, .inr (7, [.ref u6.1, .ref u6.2.2.1, .long 0]))) (w := sa (sa [] (sBl E u6.1 u6.2.1)) (sHw E u6.2.2.1 u6.2.2.2))) rfl (show vp_in (2 : Int32) 5 by unfold vp_in; decide) dX3_init_45 (fun H locs hP hD hS => ?_)
  have hH : zH E A s.heap ((h0, .inr (2, [.ref qr, .int 0, .int 0])) :: ((qr, .inl (E.2.2.2, 5, .inr (.inr (.inr (.inr (va_up (va_up (va_up (fun _ => none) 0 (some q1)) 1 (some q3)) 2 (some q5))))))) :: (sa (sa (sa [] (sSt E q1 u2)) (sSt E q3 u4)) (sSt E q5 u6)))) H locs := ⟨hP, hD, hS⟩
  clear hP hD hS
  refine lv_iinc (v := (3 : Int32)) (lv' := [(1, .int 3), (0, .ref h0)]) hx hb dX3_init_46 hl (k := 0) rfl (by decide) (by decide) rfl (fun ls hl => ?_)
  refine lv_goto (tgt := 24) hx hb dX3_init_49 (by decide) ?_
  refine lv_iload_n hx hb dX3_init_24 rfl (lv_at hl 0 rfl) ?_
  refine lv_aload_n hx hb dX3_init_25 rfl (lv_at hl 1 rfl) ?_
  refine y_get (k := 0) (C := RX3) (T := TX3) (N := 3) (v := .ref qr) G hH rfl inlX3 (by decide) (wm_4 _ (List.mem_of_getElem? (i := 13) rfl)) rfl dX3_init_26 ?_
  refine va_alen (v := 5) (cA := E.2.2.2) (x := (5, .inr (.inr (.inr (.inr (va_up (va_up (va_up (fun _ => none) 0 (some q1)) 1 (some q3)) 2 (some q5))))))) hx hb hKn hH.1 1 2 rfl rfl rfl dX3_init_29 ?_
  refine lv_icmp_ge (tgt := 52) hx hb dX3_init_30 (by decide) (fun cq => ?_) (fun cq => ?_)
  · exact absurd cq (by decide)
  refine lv_aload_n hx hb dX3_init_33 rfl (lv_at hl 1 rfl) ?_
  refine y_get (k := 0) (C := RX3) (T := TX3) (N := 3) (v := .ref qr) G hH rfl inlX3 (by decide) (wm_4 _ (List.mem_of_getElem? (i := 13) rfl)) rfl dX3_init_34 ?_
  refine lv_iload_n hx hb dX3_init_37 rfl (lv_at hl 0 rfl) ?_
  refine y_new (ci := 7) (fs := [.null, .null, .long 0]) (C := RX9) (T := TX9) (N := 3) G hH hA inlX9 tyX9 tyX9_ok (wm_4 _ (List.mem_of_getElem? (i := 12) rfl)) (wm_1 _ (List.mem_of_getElem? (i := 13) rfl)) mn_RX9 rfl fs_X9 (Nat.le_of_ble_eq_true rfl) (Nat.le_of_ble_eq_true rfl) dX3_init_38 (fun q7 H hH => ?_)
  refine lv_dup hx hb dX3_init_41 rfl ?_
  refine y_cN (W1 := sSt E q7 ) (As := []) (rest := [.ref q7, .int 3, .ref qr]) (rm := ({ frames := 3, cells := 14, slots := 103, locals := 120 } : Room)) (mc := 14) (ms := 103) (n := 0) (host := "WetPrints") G hH hA (c_X9_init l E q7 ) rfl rfl (List.mem_of_getElem? (i := 4) rfl) zi_X9_init mn_RX9 zc_X9_init rfl zd_X9_init ⟨(Nat.le_of_ble_eq_true rfl), (Nat.le_of_ble_eq_true rfl)⟩ rfl hl.1 rfl (Nat.le_of_ble_eq_true rfl) dX3_init_42 ⟨(Nat.le_of_ble_eq_true rfl), (Nat.le_of_ble_eq_true rfl)⟩ (fun u8 H locs hH => ?_)
  refine va_astq (r := (RX9, TX9, 3)) (cA := E.2.2.2) (n := 5) (f := (va_up (va_up (va_up (fun _ => none) 0 (some q1)) 1 (some q3)) 2 (some q5))) (vs := [.ref u8.1, .ref u8.2.2.1, .long 0]) hx hb hKn hH.1 hH.2.1 hH.2.2 1 2 _ 7 rfl rfl (getl (ws := (h0, .inr (2, [.ref qr, .int 0, .int 0])) :: (qr, .inl (E.2.2.2, 5, .inr (.inr (.inr (.inr (va_up (va_up (va_up (fun _ => none) 0 (some q1)) 1 (some q3)) 2 (some q5))))))) :: (sa (sa (sa [] (sSt E q1 u2)) (sSt E q3 u4)) (sSt E q5 u6))) (x := (q7, .inr (7, [.ref u8.1, .ref u8.2.2.1, .long 0]))) (w := sa (sa [] (sBl E u8.1 u8.2.1)) (sHw E u8.2.2.1 u8.2.2.2))) rfl (show vp_in (3 : Int32) 5 by unfold vp_in; decide) dX3_init_45 (fun H locs hP hD hS => ?_)
  have hH : zH E A s.heap ((h0, .inr (2, [.ref qr, .int 0, .int 0])) :: ((qr, .inl (E.2.2.2, 5, .inr (.inr (.inr (.inr (va_up (va_up (va_up (va_up (fun _ => none) 0 (some q1)) 1 (some q3)) 2 (some q5)) 3 (some q7))))))) :: (sa (sa (sa (sa [] (sSt E q1 u2)) (sSt E q3 u4)) (sSt E q5 u6)) (sSt E q7 u8)))) H locs := ⟨hP, hD, hS⟩
  clear hP hD hS
  refine lv_iinc (v := (4 : Int32)) (lv' := [(1, .int 4), (0, .ref h0)]) hx hb dX3_init_46 hl (k := 0) rfl (by decide) (by decide) rfl (fun ls hl => ?_)
  refine lv_goto (tgt := 24) hx hb dX3_init_49 (by decide) ?_
  refine lv_iload_n hx hb dX3_init_24 rfl (lv_at hl 0 rfl) ?_
  refine lv_aload_n hx hb dX3_init_25 rfl (lv_at hl 1 rfl) ?_
  refine y_get (k := 0) (C := RX3) (T := TX3) (N := 3) (v := .ref qr) G hH rfl inlX3 (by decide) (wm_4 _ (List.mem_of_getElem? (i := 13) rfl)) rfl dX3_init_26 ?_
  refine va_alen (v := 5) (cA := E.2.2.2) (x := (5, .inr (.inr (.inr (.inr (va_up (va_up (va_up (va_up (fun _ => none) 0 (some q1)) 1 (some q3)) 2 (some q5)) 3 (some q7))))))) hx hb hKn hH.1 1 2 rfl rfl rfl dX3_init_29 ?_
  refine lv_icmp_ge (tgt := 52) hx hb dX3_init_30 (by decide) (fun cq => ?_) (fun cq => ?_)
  · exact absurd cq (by decide)
  refine lv_aload_n hx hb dX3_init_33 rfl (lv_at hl 1 rfl) ?_
  refine y_get (k := 0) (C := RX3) (T := TX3) (N := 3) (v := .ref qr) G hH rfl inlX3 (by decide) (wm_4 _ (List.mem_of_getElem? (i := 13) rfl)) rfl dX3_init_34 ?_
  refine lv_iload_n hx hb dX3_init_37 rfl (lv_at hl 0 rfl) ?_
  refine y_new (ci := 7) (fs := [.null, .null, .long 0]) (C := RX9) (T := TX9) (N := 3) G hH hA inlX9 tyX9 tyX9_ok (wm_4 _ (List.mem_of_getElem? (i := 12) rfl)) (wm_1 _ (List.mem_of_getElem? (i := 13) rfl)) mn_RX9 rfl fs_X9 (Nat.le_of_ble_eq_true rfl) (Nat.le_of_ble_eq_true rfl) dX3_init_38 (fun q9 H hH => ?_)
  refine lv_dup hx hb dX3_init_41 rfl ?_
  refine y_cN (W1 := sSt E q9 ) (As := []) (rest := [.ref q9, .int 4, .ref qr]) (rm := ({ frames := 3, cells := 14, slots := 103, locals := 120 } : Room)) (mc := 14) (ms := 103) (n := 0) (host := "WetPrints") G hH hA (c_X9_init l E q9 ) rfl rfl (List.mem_of_getElem? (i := 4) rfl) zi_X9_init mn_RX9 zc_X9_init rfl zd_X9_init ⟨(Nat.le_of_ble_eq_true rfl), (Nat.le_of_ble_eq_true rfl)⟩ rfl hl.1 rfl (Nat.le_of_ble_eq_true rfl) dX3_init_42 ⟨(Nat.le_of_ble_eq_true rfl), (Nat.le_of_ble_eq_true rfl)⟩ (fun u10 H locs hH => ?_)
  refine va_astq (r := (RX9, TX9, 3)) (cA := E.2.2.2) (n := 5) (f := (va_up (va_up (va_up (va_up (fun _ => none) 0 (some q1)) 1 (some q3)) 2 (some q5)) 3 (some q7))) (vs := [.ref u10.1, .ref u10.2.2.1, .long 0]) hx hb hKn hH.1 hH.2.1 hH.2.2 1 2 _ 7 rfl rfl (getl (ws := (h0, .inr (2, [.ref qr, .int 0, .int 0])) :: (qr, .inl (E.2.2.2, 5, .inr (.inr (.inr (.inr (va_up (va_up (va_up (va_up (fun _ => none) 0 (some q1)) 1 (some q3)) 2 (some q5)) 3 (some q7))))))) :: (sa (sa (sa (sa [] (sSt E q1 u2)) (sSt E q3 u4)) (sSt E q5 u6)) (sSt E q7 u8))) (x := (q9, .inr (7, [.ref u10.1, .ref u10.2.2.1, .long 0]))) (w := sa (sa [] (sBl E u10.1 u10.2.1)) (sHw E u10.2.2.1 u10.2.2.2))) rfl (show vp_in (4 : Int32) 5 by unfold vp_in; decide) dX3_init_45 (fun H locs hP hD hS => ?_)
  have hH : zH E A s.heap ((h0, .inr (2, [.ref qr, .int 0, .int 0])) :: ((qr, .inl (E.2.2.2, 5, .inr (.inr (.inr (.inr (va_up (va_up (va_up (va_up (va_up (fun _ => none) 0 (some q1)) 1 (some q3)) 2 (some q5)) 3 (some q7)) 4 (some q9))))))) :: (sa (sa (sa (sa (sa [] (sSt E q1 u2)) (sSt E q3 u4)) (sSt E q5 u6)) (sSt E q7 u8)) (sSt E q9 u10)))) H locs := ⟨hP, hD, hS⟩
  clear hP hD hS
  refine lv_iinc (v := (5 : Int32)) (lv' := [(1, .int 5), (0, .ref h0)]) hx hb dX3_init_46 hl (k := 0) rfl (by decide) (by decide) rfl (fun ls hl => ?_)
  refine lv_goto (tgt := 24) hx hb dX3_init_49 (by decide) ?_
  refine lv_iload_n hx hb dX3_init_24 rfl (lv_at hl 0 rfl) ?_
  refine lv_aload_n hx hb dX3_init_25 rfl (lv_at hl 1 rfl) ?_
  refine y_get (k := 0) (C := RX3) (T := TX3) (N := 3) (v := .ref qr) G hH rfl inlX3 (by decide) (wm_4 _ (List.mem_of_getElem? (i := 13) rfl)) rfl dX3_init_26 ?_
  refine va_alen (v := 5) (cA := E.2.2.2) (x := (5, .inr (.inr (.inr (.inr (va_up (va_up (va_up (va_up (va_up (fun _ => none) 0 (some q1)) 1 (some q3)) 2 (some q5)) 3 (some q7)) 4 (some q9))))))) hx hb hKn hH.1 1 2 rfl rfl rfl dX3_init_29 ?_
  refine lv_icmp_ge (tgt := 52) hx hb dX3_init_30 (by decide) (fun cq => ?_) (fun cq => ?_)
  · refine W.widen (k := 76) (n := 535) (Nat.le_of_ble_eq_true rfl) (Nat.le_of_ble_eq_true rfl) ?_
    have hH := z_swap (g := fun j => some ((fun j => [q1, q3, q5, q7, q9].getD j 0) j)) (fun j hj => by rcases (show j = 0 ∨ j = 1 ∨ j = 2 ∨ j = 3 ∨ j = 4 by omega) with rfl | rfl | rfl | rfl | rfl <;> rfl) hH
    exact z_ret (W1 := sHi E h0) G hr hAe (qr, (fun j => [q1, q3, q5, q7, q9].getD j 0), fun j => [u2, u4, u6, u8, u10].getD j u2) hH dX3_init_52
  · exact absurd (by decide) cq
set_option maxRecDepth 100000 in
set_option maxHeartbeats 4000000 in
theorem c_X8_init (l : Launch) (E : xE) (h0 : Nat) : zM l yX8_init (Cond.code yX8_init cX8_init 1 none :: wsL_law) ({ frames := 1, cells := 3, slots := 3072, locals := 40 } : Room) E [(h0, .inr (6, [.null, .null, .null, .int 0, .int 0]))] [.ref h0] (sSS E h0) 3 3072 := by
  refine z_st (own := RX8) (cc := cX8_init) rfl (by decide) rfl rfl (Nat.le_of_ble_eq_true rfl) ?_
  intro p e s m args below meth c ls A G hr hA hH hAe hl
  obtain ⟨hx, hb, hml, hown, hts, hKn, hN2, hlk, hin2⟩ := id G
  have hl : lv_has ls 1 [(0, .ref h0)] := hl
  refine lv_aload_n hx hb dX8_init_0 rfl (lv_at hl 0 rfl) ?_
  refine z_obj G (wm_5 _ (List.mem_of_getElem? (i := 13) rfl)) (wm_1 _ (List.mem_of_getElem? (i := 10) rfl)) (wm_1 _ (List.mem_of_getElem? (i := 11) rfl)) hl.1 dX8_init_1 ⟨(Nat.le_of_ble_eq_true rfl), (Nat.le_of_ble_eq_true rfl)⟩ ?_
  refine lv_aload_n hx hb dX8_init_4 rfl (lv_at hl 0 rfl) ?_
  refine lv_sipush (v := (1024 : Int32)) hx hb dX8_init_5 (by decide) ?_
  refine y_newl (N := 1024) G hH hA (by decide) (by decide) (Nat.le_of_ble_eq_true rfl) (Nat.le_of_ble_eq_true rfl) (Nat.le_of_ble_eq_true rfl) (wm_5 _ (List.mem_of_getElem? (i := 14) rfl)) dX8_init_8 (fun q1 H hH => ?_)
  refine y_putF (k := 0) (C := RX8) (T := TX8) (N := 5) (ty := .array .long) (v := .ref q1) (fs2 := [.ref q1, .null, .null, .int 0, .int 0]) G hH rfl inlX8 tyX8 tyX8_ok nmX8 (by decide) (wm_5 _ (List.mem_of_getElem? (i := 15) rfl)) rfl (by decide +kernel) rfl (by decide +kernel) rfl rfl (Nat.le_of_ble_eq_true rfl) rfl dX8_init_10 (fun H locs hH => ?_)
  refine lv_aload_n hx hb dX8_init_13 rfl (lv_at hl 0 rfl) ?_
  refine lv_sipush (v := (1024 : Int32)) hx hb dX8_init_14 (by decide) ?_
  refine y_newl (N := 1024) G hH hA (by decide) (by decide) (Nat.le_of_ble_eq_true rfl) (Nat.le_of_ble_eq_true rfl) (Nat.le_of_ble_eq_true rfl) (wm_5 _ (List.mem_of_getElem? (i := 14) rfl)) dX8_init_17 (fun q2 H hH => ?_)
  refine y_putF (k := 1) (C := RX8) (T := TX8) (N := 5) (ty := .array .long) (v := .ref q2) (fs2 := [.ref q1, .ref q2, .null, .int 0, .int 0]) G hH rfl inlX8 tyX8 tyX8_ok nmX8 (by decide) (wm_5 _ (List.mem_of_getElem? (i := 16) rfl)) rfl (by decide +kernel) rfl (by decide +kernel) rfl rfl (Nat.le_of_ble_eq_true rfl) rfl dX8_init_19 (fun H locs hH => ?_)
  refine lv_aload_n hx hb dX8_init_22 rfl (lv_at hl 0 rfl) ?_
  refine lv_sipush (v := (1024 : Int32)) hx hb dX8_init_23 (by decide) ?_
  refine y_newi (N := 1024) G hH hA (by decide) (by decide) (Nat.le_of_ble_eq_true rfl) (Nat.le_of_ble_eq_true rfl) (Nat.le_of_ble_eq_true rfl) (wm_3 _ (List.mem_of_getElem? (i := 4) rfl)) dX8_init_26 (fun q3 H hH => ?_)
  refine y_putF (k := 2) (C := RX8) (T := TX8) (N := 5) (ty := .array .int) (v := .ref q3) (fs2 := [.ref q1, .ref q2, .ref q3, .int 0, .int 0]) G hH rfl inlX8 tyX8 tyX8_ok nmX8 (by decide) (wm_5 _ (List.mem_of_getElem? (i := 17) rfl)) rfl (by decide +kernel) rfl (by decide +kernel) rfl rfl (Nat.le_of_ble_eq_true rfl) rfl dX8_init_28 (fun H locs hH => ?_)
  refine lv_aload_n hx hb dX8_init_31 rfl (lv_at hl 0 rfl) ?_
  refine lv_iconst (v := (0 : Int32)) hx hb dX8_init_32 (by decide) ?_
  refine y_put (k := 3) (C := RX8) (T := TX8) (N := 5) (ty := .int) (v := .int 0) (fs2 := [.ref q1, .ref q2, .ref q3, .int 0, .int 0]) G hH rfl inlX8 tyX8 tyX8_ok nmX8 (by decide) (wm_5 _ (List.mem_of_getElem? (i := 18) rfl)) rfl (by decide +kernel) rfl rfl (Nat.le_of_ble_eq_true rfl) rfl dX8_init_33 (fun H locs hH => ?_)
  refine lv_aload_n hx hb dX8_init_36 rfl (lv_at hl 0 rfl) ?_
  refine lv_iconst (v := (0 : Int32)) hx hb dX8_init_37 (by decide) ?_
  refine y_put (k := 4) (C := RX8) (T := TX8) (N := 5) (ty := .int) (v := .int 0) (fs2 := [.ref q1, .ref q2, .ref q3, .int 0, .int 0]) G hH rfl inlX8 tyX8 tyX8_ok nmX8 (by decide) (wm_5 _ (List.mem_of_getElem? (i := 19) rfl)) rfl (by decide +kernel) rfl rfl (Nat.le_of_ble_eq_true rfl) rfl dX8_init_38 (fun H locs hH => ?_)
  refine W.widen (k := 3) (n := 3072) (Nat.le_of_ble_eq_true rfl) (Nat.le_of_ble_eq_true rfl) ?_
  exact z_ret (W1 := sSS E h0) G hr hAe (fun k => [h0, q1, q2, q3].getD k 0) hH dX8_init_41
set_option maxRecDepth 100000 in
set_option maxHeartbeats 4000000 in
theorem c_X6_init (l : Launch) (E : xE) (h0 : Nat) (b : Nat) : zM l yX6_init (Cond.code yX6_init cX6_init 2 none :: wsL_law) ({ frames := 2, cells := 6, slots := 3144, locals := 80 } : Room) E [(h0, .inr (4, [.null, .null, .null, .null, .int 0, .int 0, .long 0, .int 0, .int 0, .int 0, .long 0]))] [.ref h0, .ref b] (sSe E h0 b) 6 3144 := by
  refine z_st (own := RX6) (cc := cX6_init) rfl (by decide) rfl rfl (Nat.le_of_ble_eq_true rfl) ?_
  intro p e s m args below meth c ls A G hr hA hH hAe hl
  obtain ⟨hx, hb, hml, hown, hts, hKn, hN2, hlk, hin2⟩ := id G
  have hl : lv_has ls 2 [(0, .ref h0), (1, .ref b)] := hl
  refine lv_aload_n hx hb dX6_init_0 rfl (lv_at hl 0 rfl) ?_
  refine z_obj G (wm_4 _ (List.mem_of_getElem? (i := 19) rfl)) (wm_1 _ (List.mem_of_getElem? (i := 10) rfl)) (wm_1 _ (List.mem_of_getElem? (i := 11) rfl)) hl.1 dX6_init_1 ⟨(Nat.le_of_ble_eq_true rfl), (Nat.le_of_ble_eq_true rfl)⟩ ?_
  refine lv_aload_n hx hb dX6_init_4 rfl (lv_at hl 0 rfl) ?_
  refine y_new (ci := 5) (fs := [.long 0, .long 0, .int 0]) (C := RX7) (T := TX7) (N := 3) G hH hA inlX7 tyX7 tyX7_ok (wm_4 _ (List.mem_of_getElem? (i := 20) rfl)) (wm_3 _ (List.mem_of_getElem? (i := 17) rfl)) mn_RX7 rfl fs_X7 (Nat.le_of_ble_eq_true rfl) (Nat.le_of_ble_eq_true rfl) dX6_init_5 (fun q1 H hH => ?_)
  refine lv_dup hx hb dX6_init_8 rfl ?_
  refine y_cN (W1 := sSh q1) (As := []) (rest := [.ref q1, .ref h0]) (rm := ({ frames := 1, cells := 0, slots := 0, locals := 40 } : Room)) (mc := 0) (ms := 0) (n := 0) (host := "WetPrints") G hH hA (c_X7_init l E q1 ) rfl rfl (List.mem_of_getElem? (i := 5) rfl) zi_X7_init mn_RX7 zc_X7_init rfl zd_X7_init ⟨(Nat.le_of_ble_eq_true rfl), (Nat.le_of_ble_eq_true rfl)⟩ rfl hl.1 rfl (Nat.le_of_ble_eq_true rfl) dX6_init_9 ⟨(Nat.le_of_ble_eq_true rfl), (Nat.le_of_ble_eq_true rfl)⟩ (fun u2 H locs hH => ?_)
  cases u2
  refine y_putF (k := 1) (C := RX6) (T := TX6) (N := 11) (ty := .object "WetPrints$Sheet") (v := .ref q1) (fs2 := [.null, .ref q1, .null, .null, .int 0, .int 0, .long 0, .int 0, .int 0, .int 0, .long 0]) G hH rfl inlX6 tyX6 tyX6_ok nmX6 (by decide) (wm_4 _ (List.mem_of_getElem? (i := 21) rfl)) rfl (by decide +kernel) rfl (by decide +kernel) rfl rfl (Nat.le_of_ble_eq_true rfl) rfl dX6_init_12 (fun H locs hH => ?_)
  refine lv_aload_n hx hb dX6_init_15 rfl (lv_at hl 0 rfl) ?_
  refine y_new (ci := 6) (fs := [.null, .null, .null, .int 0, .int 0]) (C := RX8) (T := TX8) (N := 5) G hH hA inlX8 tyX8 tyX8_ok (wm_4 _ (List.mem_of_getElem? (i := 22) rfl)) (wm_4 _ (List.mem_of_getElem? (i := 23) rfl)) mn_RX8 rfl fs_X8 (Nat.le_of_ble_eq_true rfl) (Nat.le_of_ble_eq_true rfl) dX6_init_16 (fun q3 H hH => ?_)
  refine lv_dup hx hb dX6_init_19 rfl ?_
  refine y_cN (W1 := sSS E q3 ) (As := []) (rest := [.ref q3, .ref h0]) (rm := ({ frames := 1, cells := 3, slots := 3072, locals := 40 } : Room)) (mc := 3) (ms := 3072) (n := 0) (host := "WetPrints") G hH hA (c_X8_init l E q3 ) rfl rfl (List.mem_of_getElem? (i := 6) rfl) zi_X8_init mn_RX8 zc_X8_init rfl zd_X8_init ⟨(Nat.le_of_ble_eq_true rfl), (Nat.le_of_ble_eq_true rfl)⟩ rfl hl.1 rfl (Nat.le_of_ble_eq_true rfl) dX6_init_20 ⟨(Nat.le_of_ble_eq_true rfl), (Nat.le_of_ble_eq_true rfl)⟩ (fun u4 H locs hH => ?_)
  refine y_putF (k := 2) (C := RX6) (T := TX6) (N := 11) (ty := .object "WetPrints$SheetSet") (v := .ref q3) (fs2 := [.null, .ref q1, .ref q3, .null, .int 0, .int 0, .long 0, .int 0, .int 0, .int 0, .long 0]) G hH rfl inlX6 tyX6 tyX6_ok nmX6 (by decide) (wm_5 _ (List.mem_of_getElem? (i := 1) rfl)) rfl (by decide +kernel) rfl (by decide +kernel) rfl rfl (Nat.le_of_ble_eq_true rfl) rfl dX6_init_23 (fun H locs hH => ?_)
  refine lv_aload_n hx hb dX6_init_26 rfl (lv_at hl 0 rfl) ?_
  refine lv_bipush (v := (64 : Int32)) hx hb dX6_init_27 (by decide) ?_
  refine y_newi (N := 64) G hH hA (by decide) (by decide) (Nat.le_of_ble_eq_true rfl) (Nat.le_of_ble_eq_true rfl) (Nat.le_of_ble_eq_true rfl) (wm_3 _ (List.mem_of_getElem? (i := 4) rfl)) dX6_init_29 (fun q5 H hH => ?_)
  refine y_putF (k := 3) (C := RX6) (T := TX6) (N := 11) (ty := .array .int) (v := .ref q5) (fs2 := [.null, .ref q1, .ref q3, .ref q5, .int 0, .int 0, .long 0, .int 0, .int 0, .int 0, .long 0]) G hH rfl inlX6 tyX6 tyX6_ok nmX6 (by decide) (wm_5 _ (List.mem_of_getElem? (i := 2) rfl)) rfl (by decide +kernel) rfl (by decide +kernel) rfl rfl (Nat.le_of_ble_eq_true rfl) rfl dX6_init_31 (fun H locs hH => ?_)
  refine lv_aload_n hx hb dX6_init_34 rfl (lv_at hl 0 rfl) ?_
  refine lv_iconst (v := (0 : Int32)) hx hb dX6_init_35 (by decide) ?_
  refine y_put (k := 4) (C := RX6) (T := TX6) (N := 11) (ty := .int) (v := .int 0) (fs2 := [.null, .ref q1, .ref q3, .ref q5, .int 0, .int 0, .long 0, .int 0, .int 0, .int 0, .long 0]) G hH rfl inlX6 tyX6 tyX6_ok nmX6 (by decide) (wm_5 _ (List.mem_of_getElem? (i := 3) rfl)) rfl (by decide +kernel) rfl rfl (Nat.le_of_ble_eq_true rfl) rfl dX6_init_36 (fun H locs hH => ?_)
  refine lv_aload_n hx hb dX6_init_39 rfl (lv_at hl 0 rfl) ?_
  refine lv_iconst (v := (1 : Int32)) hx hb dX6_init_40 (by decide) ?_
  refine y_put (k := 5) (C := RX6) (T := TX6) (N := 11) (ty := .int) (v := .int 1) (fs2 := [.null, .ref q1, .ref q3, .ref q5, .int 0, .int 1, .long 0, .int 0, .int 0, .int 0, .long 0]) G hH rfl inlX6 tyX6 tyX6_ok nmX6 (by decide) (wm_5 _ (List.mem_of_getElem? (i := 4) rfl)) rfl (by decide +kernel) rfl rfl (Nat.le_of_ble_eq_true rfl) rfl dX6_init_41 (fun H locs hH => ?_)
  refine lv_aload_n hx hb dX6_init_44 rfl (lv_at hl 0 rfl) ?_
  refine lv_lconst (v := (0 : Int64)) hx hb dX6_init_45 (by decide) ?_
  refine y_put (k := 6) (C := RX6) (T := TX6) (N := 11) (ty := .long) (v := .long 0) (fs2 := [.null, .ref q1, .ref q3, .ref q5, .int 0, .int 1, .long 0, .int 0, .int 0, .int 0, .long 0]) G hH rfl inlX6 tyX6 tyX6_ok nmX6 (by decide) (wm_5 _ (List.mem_of_getElem? (i := 5) rfl)) rfl (by decide +kernel) rfl rfl (Nat.le_of_ble_eq_true rfl) rfl dX6_init_46 (fun H locs hH => ?_)
  refine lv_aload_n hx hb dX6_init_49 rfl (lv_at hl 0 rfl) ?_
  refine lv_iconst (v := (0 : Int32)) hx hb dX6_init_50 (by decide) ?_
  refine y_put (k := 7) (C := RX6) (T := TX6) (N := 11) (ty := .boolean) (v := .int 0) (fs2 := [.null, .ref q1, .ref q3, .ref q5, .int 0, .int 1, .long 0, .int 0, .int 0, .int 0, .long 0]) G hH rfl inlX6 tyX6 tyX6_ok nmX6 (by decide) (wm_5 _ (List.mem_of_getElem? (i := 6) rfl)) rfl (by decide +kernel) rfl rfl (Nat.le_of_ble_eq_true rfl) rfl dX6_init_51 (fun H locs hH => ?_)
  refine lv_aload_n hx hb dX6_init_54 rfl (lv_at hl 0 rfl) ?_
  refine lv_iconst (v := (0 : Int32)) hx hb dX6_init_55 (by decide) ?_
  refine y_put (k := 8) (C := RX6) (T := TX6) (N := 11) (ty := .int) (v := .int 0) (fs2 := [.null, .ref q1, .ref q3, .ref q5, .int 0, .int 1, .long 0, .int 0, .int 0, .int 0, .long 0]) G hH rfl inlX6 tyX6 tyX6_ok nmX6 (by decide) (wm_5 _ (List.mem_of_getElem? (i := 7) rfl)) rfl (by decide +kernel) rfl rfl (Nat.le_of_ble_eq_true rfl) rfl dX6_init_56 (fun H locs hH => ?_)
  refine lv_aload_n hx hb dX6_init_59 rfl (lv_at hl 0 rfl) ?_
  refine lv_iconst (v := (0 : Int32)) hx hb dX6_init_60 (by decide) ?_
  refine y_put (k := 9) (C := RX6) (T := TX6) (N := 11) (ty := .int) (v := .int 0) (fs2 := [.null, .ref q1, .ref q3, .ref q5, .int 0, .int 1, .long 0, .int 0, .int 0, .int 0, .long 0]) G hH rfl inlX6 tyX6 tyX6_ok nmX6 (by decide) (wm_5 _ (List.mem_of_getElem? (i := 8) rfl)) rfl (by decide +kernel) rfl rfl (Nat.le_of_ble_eq_true rfl) rfl dX6_init_61 (fun H locs hH => ?_)
  refine lv_aload_n hx hb dX6_init_64 rfl (lv_at hl 0 rfl) ?_
  refine lv_lconst (v := (0 : Int64)) hx hb dX6_init_65 (by decide) ?_
  refine y_put (k := 10) (C := RX6) (T := TX6) (N := 11) (ty := .long) (v := .long 0) (fs2 := [.null, .ref q1, .ref q3, .ref q5, .int 0, .int 1, .long 0, .int 0, .int 0, .int 0, .long 0]) G hH rfl inlX6 tyX6 tyX6_ok nmX6 (by decide) (wm_5 _ (List.mem_of_getElem? (i := 9) rfl)) rfl (by decide +kernel) rfl rfl (Nat.le_of_ble_eq_true rfl) rfl dX6_init_66 (fun H locs hH => ?_)
  refine lv_aload_n hx hb dX6_init_69 rfl (lv_at hl 0 rfl) ?_
  refine lv_aload_n hx hb dX6_init_70 rfl (lv_at hl 1 rfl) ?_
  refine y_putF (k := 0) (C := RX6) (T := TX6) (N := 11) (ty := .object "WetPrints$Blocks") (v := .ref b) (fs2 := [.ref b, .ref q1, .ref q3, .ref q5, .int 0, .int 1, .long 0, .int 0, .int 0, .int 0, .long 0]) G hH rfl inlX6 tyX6 tyX6_ok nmX6 (by decide) (wm_5 _ (List.mem_of_getElem? (i := 10) rfl)) rfl (by decide +kernel) rfl (by decide +kernel) rfl rfl (Nat.le_of_ble_eq_true rfl) rfl dX6_init_71 (fun H locs hH => ?_)
  refine W.widen (k := 6) (n := 3144) (Nat.le_of_ble_eq_true rfl) (Nat.le_of_ble_eq_true rfl) ?_
  exact z_ret (W1 := sSe E h0 b) G hr hAe (q1, q3, u4, q5) hH dX6_init_74
set_option maxRecDepth 100000 in
set_option maxHeartbeats 4000000 in
theorem c_X10_init (l : Launch) (E : xE) (h0 : Nat) : zM l yX10_init (Cond.code yX10_init cX10_init 1 none :: wsL_law) ({ frames := 1, cells := 1, slots := 150, locals := 40 } : Room) E [(h0, .inr (8, [.null, .int 0]))] [.ref h0] (sTx E h0) 1 150 := by
  refine z_st (own := RX10) (cc := cX10_init) rfl (by decide) rfl rfl (Nat.le_of_ble_eq_true rfl) ?_
  intro p e s m args below meth c ls A G hr hA hH hAe hl
  obtain ⟨hx, hb, hml, hown, hts, hKn, hN2, hlk, hin2⟩ := id G
  have hl : lv_has ls 1 [(0, .ref h0)] := hl
  refine lv_aload_n hx hb dX10_init_0 rfl (lv_at hl 0 rfl) ?_
  refine z_obj G (wm_5 _ (List.mem_of_getElem? (i := 22) rfl)) (wm_1 _ (List.mem_of_getElem? (i := 10) rfl)) (wm_1 _ (List.mem_of_getElem? (i := 11) rfl)) hl.1 dX10_init_1 ⟨(Nat.le_of_ble_eq_true rfl), (Nat.le_of_ble_eq_true rfl)⟩ ?_
  refine lv_aload_n hx hb dX10_init_4 rfl (lv_at hl 0 rfl) ?_
  refine lv_sipush (v := (150 : Int32)) hx hb dX10_init_5 (by decide) ?_
  refine y_newi (N := 150) G hH hA (by decide) (by decide) (Nat.le_of_ble_eq_true rfl) (Nat.le_of_ble_eq_true rfl) (Nat.le_of_ble_eq_true rfl) (wm_3 _ (List.mem_of_getElem? (i := 4) rfl)) dX10_init_8 (fun q1 H hH => ?_)
  refine y_putF (k := 0) (C := RX10) (T := TX10) (N := 2) (ty := .array .int) (v := .ref q1) (fs2 := [.ref q1, .int 0]) G hH rfl inlX10 tyX10 tyX10_ok nmX10 (by decide) (wm_5 _ (List.mem_of_getElem? (i := 23) rfl)) rfl (by decide +kernel) rfl (by decide +kernel) rfl rfl (Nat.le_of_ble_eq_true rfl) rfl dX10_init_10 (fun H locs hH => ?_)
  refine lv_aload_n hx hb dX10_init_13 rfl (lv_at hl 0 rfl) ?_
  refine lv_iconst (v := (0 : Int32)) hx hb dX10_init_14 (by decide) ?_
  refine y_put (k := 1) (C := RX10) (T := TX10) (N := 2) (ty := .int) (v := .int 0) (fs2 := [.ref q1, .int 0]) G hH rfl inlX10 tyX10 tyX10_ok nmX10 (by decide) (wm_6 _ (List.mem_of_getElem? (i := 0) rfl)) rfl (by decide +kernel) rfl rfl (Nat.le_of_ble_eq_true rfl) rfl dX10_init_15 (fun H locs hH => ?_)
  refine W.widen (k := 1) (n := 150) (Nat.le_of_ble_eq_true rfl) (Nat.le_of_ble_eq_true rfl) ?_
  exact z_ret (W1 := sTx E h0) G hr hAe q1 hH dX10_init_18
set_option maxRecDepth 100000 in
set_option maxHeartbeats 4000000 in
theorem c_X4_init (l : Launch) (E : xE) (h0 : Nat) : zM l yX4_init (Cond.code yX4_init cX4_init 1 none :: wsL_law) ({ frames := 1, cells := 1, slots := 4, locals := 40 } : Room) E [(h0, .inr (3, [.int 0, .null, .int 0, .int 0, .int 0, .int 0, .int 0, .int 0, .int 0, .int 0]))] [.ref h0] (sOr E h0) 1 4 := by
  refine z_st (own := RX4) (cc := cX4_init) rfl (by decide) rfl rfl (Nat.le_of_ble_eq_true rfl) ?_
  intro p e s m args below meth c ls A G hr hA hH hAe hl
  obtain ⟨hx, hb, hml, hown, hts, hKn, hN2, hlk, hin2⟩ := id G
  have hl : lv_has ls 1 [(0, .ref h0)] := hl
  refine lv_aload_n hx hb dX4_init_0 rfl (lv_at hl 0 rfl) ?_
  refine z_obj G (wm_6 _ (List.mem_of_getElem? (i := 3) rfl)) (wm_1 _ (List.mem_of_getElem? (i := 10) rfl)) (wm_1 _ (List.mem_of_getElem? (i := 11) rfl)) hl.1 dX4_init_1 ⟨(Nat.le_of_ble_eq_true rfl), (Nat.le_of_ble_eq_true rfl)⟩ ?_
  refine lv_aload_n hx hb dX4_init_4 rfl (lv_at hl 0 rfl) ?_
  refine lv_iconst (v := (0 : Int32)) hx hb dX4_init_5 (by decide) ?_
  refine y_put (k := 0) (C := RX4) (T := TX4) (N := 10) (ty := .int) (v := .int 0) (fs2 := [.int 0, .null, .int 0, .int 0, .int 0, .int 0, .int 0, .int 0, .int 0, .int 0]) G hH rfl inlX4 tyX4 tyX4_ok nmX4 (by decide) (wm_6 _ (List.mem_of_getElem? (i := 4) rfl)) rfl (by decide +kernel) rfl rfl (Nat.le_of_ble_eq_true rfl) rfl dX4_init_6 (fun H locs hH => ?_)
  refine lv_aload_n hx hb dX4_init_9 rfl (lv_at hl 0 rfl) ?_
  refine lv_iconst (v := (4 : Int32)) hx hb dX4_init_10 (by decide) ?_
  refine y_newi (N := 4) G hH hA (by decide) (by decide) (Nat.le_of_ble_eq_true rfl) (Nat.le_of_ble_eq_true rfl) (Nat.le_of_ble_eq_true rfl) (wm_3 _ (List.mem_of_getElem? (i := 4) rfl)) dX4_init_11 (fun q1 H hH => ?_)
  refine y_putF (k := 1) (C := RX4) (T := TX4) (N := 10) (ty := .array .int) (v := .ref q1) (fs2 := [.int 0, .ref q1, .int 0, .int 0, .int 0, .int 0, .int 0, .int 0, .int 0, .int 0]) G hH rfl inlX4 tyX4 tyX4_ok nmX4 (by decide) (wm_6 _ (List.mem_of_getElem? (i := 5) rfl)) rfl (by decide +kernel) rfl (by decide +kernel) rfl rfl (Nat.le_of_ble_eq_true rfl) rfl dX4_init_13 (fun H locs hH => ?_)
  refine lv_aload_n hx hb dX4_init_16 rfl (lv_at hl 0 rfl) ?_
  refine lv_iconst (v := (0 : Int32)) hx hb dX4_init_17 (by decide) ?_
  refine y_put (k := 2) (C := RX4) (T := TX4) (N := 10) (ty := .boolean) (v := .int 0) (fs2 := [.int 0, .ref q1, .int 0, .int 0, .int 0, .int 0, .int 0, .int 0, .int 0, .int 0]) G hH rfl inlX4 tyX4 tyX4_ok nmX4 (by decide) (wm_6 _ (List.mem_of_getElem? (i := 6) rfl)) rfl (by decide +kernel) rfl rfl (Nat.le_of_ble_eq_true rfl) rfl dX4_init_18 (fun H locs hH => ?_)
  refine lv_aload_n hx hb dX4_init_21 rfl (lv_at hl 0 rfl) ?_
  refine lv_iconst (v := (0 : Int32)) hx hb dX4_init_22 (by decide) ?_
  refine y_put (k := 3) (C := RX4) (T := TX4) (N := 10) (ty := .boolean) (v := .int 0) (fs2 := [.int 0, .ref q1, .int 0, .int 0, .int 0, .int 0, .int 0, .int 0, .int 0, .int 0]) G hH rfl inlX4 tyX4 tyX4_ok nmX4 (by decide) (wm_6 _ (List.mem_of_getElem? (i := 7) rfl)) rfl (by decide +kernel) rfl rfl (Nat.le_of_ble_eq_true rfl) rfl dX4_init_23 (fun H locs hH => ?_)
  refine lv_aload_n hx hb dX4_init_26 rfl (lv_at hl 0 rfl) ?_
  refine lv_iconst (v := (0 : Int32)) hx hb dX4_init_27 (by decide) ?_
  refine y_put (k := 4) (C := RX4) (T := TX4) (N := 10) (ty := .boolean) (v := .int 0) (fs2 := [.int 0, .ref q1, .int 0, .int 0, .int 0, .int 0, .int 0, .int 0, .int 0, .int 0]) G hH rfl inlX4 tyX4 tyX4_ok nmX4 (by decide) (wm_6 _ (List.mem_of_getElem? (i := 8) rfl)) rfl (by decide +kernel) rfl rfl (Nat.le_of_ble_eq_true rfl) rfl dX4_init_28 (fun H locs hH => ?_)
  refine lv_aload_n hx hb dX4_init_31 rfl (lv_at hl 0 rfl) ?_
  refine lv_iconst (v := (0 : Int32)) hx hb dX4_init_32 (by decide) ?_
  refine y_put (k := 5) (C := RX4) (T := TX4) (N := 10) (ty := .int) (v := .int 0) (fs2 := [.int 0, .ref q1, .int 0, .int 0, .int 0, .int 0, .int 0, .int 0, .int 0, .int 0]) G hH rfl inlX4 tyX4 tyX4_ok nmX4 (by decide) (wm_6 _ (List.mem_of_getElem? (i := 9) rfl)) rfl (by decide +kernel) rfl rfl (Nat.le_of_ble_eq_true rfl) rfl dX4_init_33 (fun H locs hH => ?_)
  refine lv_aload_n hx hb dX4_init_36 rfl (lv_at hl 0 rfl) ?_
  refine lv_iconst (v := (0 : Int32)) hx hb dX4_init_37 (by decide) ?_
  refine y_put (k := 6) (C := RX4) (T := TX4) (N := 10) (ty := .int) (v := .int 0) (fs2 := [.int 0, .ref q1, .int 0, .int 0, .int 0, .int 0, .int 0, .int 0, .int 0, .int 0]) G hH rfl inlX4 tyX4 tyX4_ok nmX4 (by decide) (wm_6 _ (List.mem_of_getElem? (i := 10) rfl)) rfl (by decide +kernel) rfl rfl (Nat.le_of_ble_eq_true rfl) rfl dX4_init_38 (fun H locs hH => ?_)
  refine lv_aload_n hx hb dX4_init_41 rfl (lv_at hl 0 rfl) ?_
  refine lv_iconst (v := (0 : Int32)) hx hb dX4_init_42 (by decide) ?_
  refine y_put (k := 7) (C := RX4) (T := TX4) (N := 10) (ty := .int) (v := .int 0) (fs2 := [.int 0, .ref q1, .int 0, .int 0, .int 0, .int 0, .int 0, .int 0, .int 0, .int 0]) G hH rfl inlX4 tyX4 tyX4_ok nmX4 (by decide) (wm_6 _ (List.mem_of_getElem? (i := 11) rfl)) rfl (by decide +kernel) rfl rfl (Nat.le_of_ble_eq_true rfl) rfl dX4_init_43 (fun H locs hH => ?_)
  refine lv_aload_n hx hb dX4_init_46 rfl (lv_at hl 0 rfl) ?_
  refine lv_iconst (v := (0 : Int32)) hx hb dX4_init_47 (by decide) ?_
  refine y_put (k := 8) (C := RX4) (T := TX4) (N := 10) (ty := .int) (v := .int 0) (fs2 := [.int 0, .ref q1, .int 0, .int 0, .int 0, .int 0, .int 0, .int 0, .int 0, .int 0]) G hH rfl inlX4 tyX4 tyX4_ok nmX4 (by decide) (wm_6 _ (List.mem_of_getElem? (i := 12) rfl)) rfl (by decide +kernel) rfl rfl (Nat.le_of_ble_eq_true rfl) rfl dX4_init_48 (fun H locs hH => ?_)
  refine lv_aload_n hx hb dX4_init_51 rfl (lv_at hl 0 rfl) ?_
  refine lv_iconst (v := (0 : Int32)) hx hb dX4_init_52 (by decide) ?_
  refine y_put (k := 9) (C := RX4) (T := TX4) (N := 10) (ty := .boolean) (v := .int 0) (fs2 := [.int 0, .ref q1, .int 0, .int 0, .int 0, .int 0, .int 0, .int 0, .int 0, .int 0]) G hH rfl inlX4 tyX4 tyX4_ok nmX4 (by decide) (wm_6 _ (List.mem_of_getElem? (i := 13) rfl)) rfl (by decide +kernel) rfl rfl (Nat.le_of_ble_eq_true rfl) rfl dX4_init_53 (fun H locs hH => ?_)
  refine W.widen (k := 1) (n := 4) (Nat.le_of_ble_eq_true rfl) (Nat.le_of_ble_eq_true rfl) ?_
  exact z_ret (W1 := sOr E h0) G hr hAe q1 hH dX4_init_56
set_option maxRecDepth 100000 in
set_option maxHeartbeats 4000000 in
theorem c_X11_init (l : Launch) (E : xE) (h0 : Nat) : zM l yX11_init (Cond.code yX11_init cX11_init 1 none :: wsL_law) ({ frames := 5, cells := 103, slots := 3965, locals := 200 } : Room) E [(h0, .inr (9, [.null, .null, .null, .null, .null, .int 0, .int 0, .int 0]))] [.ref h0] (sWp E h0) 103 3965 := by
  refine z_st (own := RX11) (cc := cX11_init) rfl (by decide) rfl rfl (Nat.le_of_ble_eq_true rfl) ?_
  intro p e s m args below meth c ls A G hr hA hH hAe hl
  obtain ⟨hx, hb, hml, hown, hts, hKn, hN2, hlk, hin2⟩ := id G
  have hl : lv_has ls 1 [(0, .ref h0)] := hl
  refine lv_aload_n hx hb dX11_init_0 rfl (lv_at hl 0 rfl) ?_
  refine z_obj G (wm_1 _ (List.mem_of_getElem? (i := 9) rfl)) (wm_1 _ (List.mem_of_getElem? (i := 10) rfl)) (wm_1 _ (List.mem_of_getElem? (i := 11) rfl)) hl.1 dX11_init_1 ⟨(Nat.le_of_ble_eq_true rfl), (Nat.le_of_ble_eq_true rfl)⟩ ?_
  refine lv_aload_n hx hb dX11_init_4 rfl (lv_at hl 0 rfl) ?_
  refine y_new (ci := 7) (fs := [.null, .null, .long 0]) (C := RX9) (T := TX9) (N := 3) G hH hA inlX9 tyX9 tyX9_ok (wm_1 _ (List.mem_of_getElem? (i := 12) rfl)) (wm_1 _ (List.mem_of_getElem? (i := 13) rfl)) mn_RX9 rfl fs_X9 (Nat.le_of_ble_eq_true rfl) (Nat.le_of_ble_eq_true rfl) dX11_init_5 (fun q1 H hH => ?_)
  refine lv_dup hx hb dX11_init_8 rfl ?_
  refine y_cN (W1 := sSt E q1 ) (As := []) (rest := [.ref q1, .ref h0]) (rm := ({ frames := 3, cells := 14, slots := 103, locals := 120 } : Room)) (mc := 14) (ms := 103) (n := 0) (host := "WetPrints") G hH hA (c_X9_init l E q1 ) rfl rfl (List.mem_of_getElem? (i := 0) rfl) zi_X9_init mn_RX9 zc_X9_init rfl zd_X9_init ⟨(Nat.le_of_ble_eq_true rfl), (Nat.le_of_ble_eq_true rfl)⟩ rfl hl.1 rfl (Nat.le_of_ble_eq_true rfl) dX11_init_9 ⟨(Nat.le_of_ble_eq_true rfl), (Nat.le_of_ble_eq_true rfl)⟩ (fun u2 H locs hH => ?_)
  refine y_putF (k := 0) (C := RX11) (T := TX11) (N := 8) (ty := .object "WetPrints$State") (v := .ref q1) (fs2 := [.ref q1, .null, .null, .null, .null, .int 0, .int 0, .int 0]) G hH rfl inlX11 tyX11 tyX11_ok nmX11 (by decide) (wm_1 _ (List.mem_of_getElem? (i := 15) rfl)) rfl (by decide +kernel) rfl (by decide +kernel) rfl rfl (Nat.le_of_ble_eq_true rfl) rfl dX11_init_12 (fun H locs hH => ?_)
  refine lv_aload_n hx hb dX11_init_15 rfl (lv_at hl 0 rfl) ?_
  refine y_new (ci := 2) (fs := [.null, .int 0, .int 0]) (C := RX3) (T := TX3) (N := 3) G hH hA inlX3 tyX3 tyX3_ok (wm_1 _ (List.mem_of_getElem? (i := 16) rfl)) (wm_1 _ (List.mem_of_getElem? (i := 17) rfl)) mn_RX3 rfl fs_X3 (Nat.le_of_ble_eq_true rfl) (Nat.le_of_ble_eq_true rfl) dX11_init_16 (fun q3 H hH => ?_)
  refine lv_dup hx hb dX11_init_19 rfl ?_
  refine y_cI (W1 := sHi E q3 ) (As := []) (rest := [.ref q3, .ref h0]) (rm := ({ frames := 4, cells := 76, slots := 535, locals := 160 } : Room)) (mc := 76) (ms := 535) (n := 0) G hH hA (c_X3_init l E q3 ) rfl rfl (wm_4 _ (List.mem_of_getElem? (i := 8) rfl)) zi_X3_init mn_RX3 zc_X3_init rfl zd_X3_init ⟨(Nat.le_of_ble_eq_true rfl), (Nat.le_of_ble_eq_true rfl)⟩ rfl hl.1 rfl (Nat.le_of_ble_eq_true rfl) dX11_init_20 ⟨(Nat.le_of_ble_eq_true rfl), (Nat.le_of_ble_eq_true rfl)⟩ (fun u4 H locs hH => ?_)
  refine y_putF (k := 1) (C := RX11) (T := TX11) (N := 8) (ty := .object "WetPrints$History") (v := .ref q3) (fs2 := [.ref q1, .ref q3, .null, .null, .null, .int 0, .int 0, .int 0]) G hH rfl inlX11 tyX11 tyX11_ok nmX11 (by decide) (wm_1 _ (List.mem_of_getElem? (i := 19) rfl)) rfl (by decide +kernel) rfl (by decide +kernel) rfl rfl (Nat.le_of_ble_eq_true rfl) rfl dX11_init_23 (fun H locs hH => ?_)
  refine lv_aload_n hx hb dX11_init_26 rfl (lv_at hl 0 rfl) ?_
  refine y_new (ci := 4) (fs := [.null, .null, .null, .null, .int 0, .int 0, .long 0, .int 0, .int 0, .int 0, .long 0]) (C := RX6) (T := TX6) (N := 11) G hH hA inlX6 tyX6 tyX6_ok (wm_1 _ (List.mem_of_getElem? (i := 20) rfl)) (wm_1 _ (List.mem_of_getElem? (i := 21) rfl)) mn_RX6 rfl fs_X6 (Nat.le_of_ble_eq_true rfl) (Nat.le_of_ble_eq_true rfl) dX11_init_27 (fun q5 H hH => ?_)
  refine lv_dup hx hb dX11_init_30 rfl ?_
  refine lv_aload_n hx hb dX11_init_31 rfl (lv_at hl 0 rfl) ?_
  refine y_get (k := 0) (C := RX11) (T := TX11) (N := 8) (v := .ref q1) G hH rfl inlX11 (by decide) (wm_1 _ (List.mem_of_getElem? (i := 15) rfl)) rfl dX11_init_32 ?_
  refine z_get (k := 0) (C := RX9) (T := TX9) (N := 3) (v := .ref u2.1) (fs := [.ref u2.1, .ref u2.2.2.1, .long 0]) (ci := 7) G hH 1 rfl rfl inlX9 (by decide) (wm_1 _ (List.mem_of_getElem? (i := 23) rfl)) rfl dX11_init_35 ?_
  refine y_cI (W1 := sSe E q5 u2.1) (As := [.ref u2.1]) (rest := [.ref q5, .ref h0]) (rm := ({ frames := 2, cells := 6, slots := 3144, locals := 80 } : Room)) (mc := 6) (ms := 3144) (n := 1) G hH hA (c_X6_init l E q5 u2.1) rfl rfl (wm_4 _ (List.mem_of_getElem? (i := 16) rfl)) zi_X6_init mn_RX6 zc_X6_init rfl zd_X6_init ⟨(Nat.le_of_ble_eq_true rfl), (Nat.le_of_ble_eq_true rfl)⟩ rfl hl.1 rfl (Nat.le_of_ble_eq_true rfl) dX11_init_38 ⟨(Nat.le_of_ble_eq_true rfl), (Nat.le_of_ble_eq_true rfl)⟩ (fun u6 H locs hH => ?_)
  refine y_putF (k := 2) (C := RX11) (T := TX11) (N := 8) (ty := .object "WetPrints$Search") (v := .ref q5) (fs2 := [.ref q1, .ref q3, .ref q5, .null, .null, .int 0, .int 0, .int 0]) G hH rfl inlX11 tyX11 tyX11_ok nmX11 (by decide) (wm_2 _ (List.mem_of_getElem? (i := 0) rfl)) rfl (by decide +kernel) rfl (by decide +kernel) rfl rfl (Nat.le_of_ble_eq_true rfl) rfl dX11_init_41 (fun H locs hH => ?_)
  refine lv_aload_n hx hb dX11_init_44 rfl (lv_at hl 0 rfl) ?_
  refine y_new (ci := 8) (fs := [.null, .int 0]) (C := RX10) (T := TX10) (N := 2) G hH hA inlX10 tyX10 tyX10_ok (wm_2 _ (List.mem_of_getElem? (i := 1) rfl)) (wm_2 _ (List.mem_of_getElem? (i := 2) rfl)) mn_RX10 rfl fs_X10 (Nat.le_of_ble_eq_true rfl) (Nat.le_of_ble_eq_true rfl) dX11_init_45 (fun q7 H hH => ?_)
  refine lv_dup hx hb dX11_init_48 rfl ?_
  refine y_cN (W1 := sTx E q7 ) (As := []) (rest := [.ref q7, .ref h0]) (rm := ({ frames := 1, cells := 1, slots := 150, locals := 40 } : Room)) (mc := 1) (ms := 150) (n := 0) (host := "WetPrints") G hH hA (c_X10_init l E q7 ) rfl rfl (List.mem_of_getElem? (i := 7) rfl) zi_X10_init mn_RX10 zc_X10_init rfl zd_X10_init ⟨(Nat.le_of_ble_eq_true rfl), (Nat.le_of_ble_eq_true rfl)⟩ rfl hl.1 rfl (Nat.le_of_ble_eq_true rfl) dX11_init_49 ⟨(Nat.le_of_ble_eq_true rfl), (Nat.le_of_ble_eq_true rfl)⟩ (fun u8 H locs hH => ?_)
  refine y_putF (k := 3) (C := RX11) (T := TX11) (N := 8) (ty := .object "WetPrints$Text") (v := .ref q7) (fs2 := [.ref q1, .ref q3, .ref q5, .ref q7, .null, .int 0, .int 0, .int 0]) G hH rfl inlX11 tyX11 tyX11_ok nmX11 (by decide) (wm_2 _ (List.mem_of_getElem? (i := 4) rfl)) rfl (by decide +kernel) rfl (by decide +kernel) rfl rfl (Nat.le_of_ble_eq_true rfl) rfl dX11_init_52 (fun H locs hH => ?_)
  refine lv_aload_n hx hb dX11_init_55 rfl (lv_at hl 0 rfl) ?_
  refine y_new (ci := 3) (fs := [.int 0, .null, .int 0, .int 0, .int 0, .int 0, .int 0, .int 0, .int 0, .int 0]) (C := RX4) (T := TX4) (N := 10) G hH hA inlX4 tyX4 tyX4_ok (wm_2 _ (List.mem_of_getElem? (i := 5) rfl)) (wm_2 _ (List.mem_of_getElem? (i := 6) rfl)) mn_RX4 rfl fs_X4 (Nat.le_of_ble_eq_true rfl) (Nat.le_of_ble_eq_true rfl) dX11_init_56 (fun q9 H hH => ?_)
  refine lv_dup hx hb dX11_init_59 rfl ?_
  refine y_cN (W1 := sOr E q9 ) (As := []) (rest := [.ref q9, .ref h0]) (rm := ({ frames := 1, cells := 1, slots := 4, locals := 40 } : Room)) (mc := 1) (ms := 4) (n := 0) (host := "WetPrints") G hH hA (c_X4_init l E q9 ) rfl rfl (List.mem_of_getElem? (i := 8) rfl) zi_X4_init mn_RX4 zc_X4_init rfl zd_X4_init ⟨(Nat.le_of_ble_eq_true rfl), (Nat.le_of_ble_eq_true rfl)⟩ rfl hl.1 rfl (Nat.le_of_ble_eq_true rfl) dX11_init_60 ⟨(Nat.le_of_ble_eq_true rfl), (Nat.le_of_ble_eq_true rfl)⟩ (fun u10 H locs hH => ?_)
  refine y_putF (k := 4) (C := RX11) (T := TX11) (N := 8) (ty := .object "WetPrints$OrderReader") (v := .ref q9) (fs2 := [.ref q1, .ref q3, .ref q5, .ref q7, .ref q9, .int 0, .int 0, .int 0]) G hH rfl inlX11 tyX11 tyX11_ok nmX11 (by decide) (wm_2 _ (List.mem_of_getElem? (i := 8) rfl)) rfl (by decide +kernel) rfl (by decide +kernel) rfl rfl (Nat.le_of_ble_eq_true rfl) rfl dX11_init_63 (fun H locs hH => ?_)
  refine lv_aload_n hx hb dX11_init_66 rfl (lv_at hl 0 rfl) ?_
  refine lv_iconst (v := (0 : Int32)) hx hb dX11_init_67 (by decide) ?_
  refine y_put (k := 5) (C := RX11) (T := TX11) (N := 8) (ty := .int) (v := .int 0) (fs2 := [.ref q1, .ref q3, .ref q5, .ref q7, .ref q9, .int 0, .int 0, .int 0]) G hH rfl inlX11 tyX11 tyX11_ok nmX11 (by decide) (wm_2 _ (List.mem_of_getElem? (i := 9) rfl)) rfl (by decide +kernel) rfl rfl (Nat.le_of_ble_eq_true rfl) rfl dX11_init_68 (fun H locs hH => ?_)
  refine lv_aload_n hx hb dX11_init_71 rfl (lv_at hl 0 rfl) ?_
  refine lv_iconst (v := (0 : Int32)) hx hb dX11_init_72 (by decide) ?_
  refine y_put (k := 6) (C := RX11) (T := TX11) (N := 8) (ty := .int) (v := .int 0) (fs2 := [.ref q1, .ref q3, .ref q5, .ref q7, .ref q9, .int 0, .int 0, .int 0]) G hH rfl inlX11 tyX11 tyX11_ok nmX11 (by decide) (wm_2 _ (List.mem_of_getElem? (i := 10) rfl)) rfl (by decide +kernel) rfl rfl (Nat.le_of_ble_eq_true rfl) rfl dX11_init_73 (fun H locs hH => ?_)
  refine lv_aload_n hx hb dX11_init_76 rfl (lv_at hl 0 rfl) ?_
  refine lv_iconst (v := (0 : Int32)) hx hb dX11_init_77 (by decide) ?_
  refine y_put (k := 7) (C := RX11) (T := TX11) (N := 8) (ty := .int) (v := .int 0) (fs2 := [.ref q1, .ref q3, .ref q5, .ref q7, .ref q9, .int 0, .int 0, .int 0]) G hH rfl inlX11 tyX11 tyX11_ok nmX11 (by decide) (wm_2 _ (List.mem_of_getElem? (i := 11) rfl)) rfl (by decide +kernel) rfl rfl (Nat.le_of_ble_eq_true rfl) rfl dX11_init_78 (fun H locs hH => ?_)
  refine W.widen (k := 103) (n := 3965) (Nat.le_of_ble_eq_true rfl) (Nat.le_of_ble_eq_true rfl) ?_
  exact z_ret (W1 := sWp E h0) G hr hAe (q1, u2, q3, u4, q5, u6, q7, u8, q9, u10) hH dX11_init_81
set_option maxRecDepth 100000 in
set_option maxHeartbeats 4000000 in
theorem c_X12_init (l : Launch) (E : xE) (h0 : Nat) : zM l yX12_init (Cond.code yX12_init cX12_init 1 none :: wsL_law) ({ frames := 1, cells := 15, slots := 3680, locals := 40 } : Room) E [(h0, .inr (10, [.null, .null, .null, .int 0, .null, .null, .null, .int 0, .null, .null, .int 0, .int 0, .null, .null, .null, .null, .null, .int 0, .int 0, .int 0, .int 0, .null, .null, .long 0]))] [.ref h0] (sMo E h0) 15 3680 := by
  refine z_st (own := RX12) (cc := cX12_init) rfl (by decide) rfl rfl (Nat.le_of_ble_eq_true rfl) ?_
  intro p e s m args below meth c ls A G hr hA hH hAe hl
  obtain ⟨hx, hb, hml, hown, hts, hKn, hN2, hlk, hin2⟩ := id G
  have hl : lv_has ls 1 [(0, .ref h0)] := hl
  refine lv_aload_n hx hb dX12_init_0 rfl (lv_at hl 0 rfl) ?_
  refine z_obj G (wm_6 _ (List.mem_of_getElem? (i := 17) rfl)) (wm_1 _ (List.mem_of_getElem? (i := 10) rfl)) (wm_1 _ (List.mem_of_getElem? (i := 11) rfl)) hl.1 dX12_init_1 ⟨(Nat.le_of_ble_eq_true rfl), (Nat.le_of_ble_eq_true rfl)⟩ ?_
  refine lv_aload_n hx hb dX12_init_4 rfl (lv_at hl 0 rfl) ?_
  refine lv_sipush (v := (131 : Int32)) hx hb dX12_init_5 (by decide) ?_
  refine y_newi (N := 131) G hH hA (by decide) (by decide) (Nat.le_of_ble_eq_true rfl) (Nat.le_of_ble_eq_true rfl) (Nat.le_of_ble_eq_true rfl) (wm_3 _ (List.mem_of_getElem? (i := 4) rfl)) dX12_init_8 (fun q1 H hH => ?_)
  refine y_putF (k := 0) (C := RX12) (T := TX12) (N := 24) (ty := .array .int) (v := .ref q1) (fs2 := [.ref q1, .null, .null, .int 0, .null, .null, .null, .int 0, .null, .null, .int 0, .int 0, .null, .null, .null, .null, .null, .int 0, .int 0, .int 0, .int 0, .null, .null, .long 0]) G hH rfl inlX12 tyX12 tyX12_ok nmX12 (by decide) (wm_6 _ (List.mem_of_getElem? (i := 18) rfl)) rfl (by decide +kernel) rfl (by decide +kernel) rfl rfl (Nat.le_of_ble_eq_true rfl) rfl dX12_init_10 (fun H locs hH => ?_)
  refine lv_aload_n hx hb dX12_init_13 rfl (lv_at hl 0 rfl) ?_
  refine lv_sipush (v := (131 : Int32)) hx hb dX12_init_14 (by decide) ?_
  refine y_newi (N := 131) G hH hA (by decide) (by decide) (Nat.le_of_ble_eq_true rfl) (Nat.le_of_ble_eq_true rfl) (Nat.le_of_ble_eq_true rfl) (wm_3 _ (List.mem_of_getElem? (i := 4) rfl)) dX12_init_17 (fun q2 H hH => ?_)
  refine y_putF (k := 1) (C := RX12) (T := TX12) (N := 24) (ty := .array .int) (v := .ref q2) (fs2 := [.ref q1, .ref q2, .null, .int 0, .null, .null, .null, .int 0, .null, .null, .int 0, .int 0, .null, .null, .null, .null, .null, .int 0, .int 0, .int 0, .int 0, .null, .null, .long 0]) G hH rfl inlX12 tyX12 tyX12_ok nmX12 (by decide) (wm_6 _ (List.mem_of_getElem? (i := 19) rfl)) rfl (by decide +kernel) rfl (by decide +kernel) rfl rfl (Nat.le_of_ble_eq_true rfl) rfl dX12_init_19 (fun H locs hH => ?_)
  refine lv_aload_n hx hb dX12_init_22 rfl (lv_at hl 0 rfl) ?_
  refine lv_sipush (v := (655 : Int32)) hx hb dX12_init_23 (by decide) ?_
  refine y_newi (N := 655) G hH hA (by decide) (by decide) (Nat.le_of_ble_eq_true rfl) (Nat.le_of_ble_eq_true rfl) (Nat.le_of_ble_eq_true rfl) (wm_3 _ (List.mem_of_getElem? (i := 4) rfl)) dX12_init_26 (fun q3 H hH => ?_)
  refine y_putF (k := 2) (C := RX12) (T := TX12) (N := 24) (ty := .array .int) (v := .ref q3) (fs2 := [.ref q1, .ref q2, .ref q3, .int 0, .null, .null, .null, .int 0, .null, .null, .int 0, .int 0, .null, .null, .null, .null, .null, .int 0, .int 0, .int 0, .int 0, .null, .null, .long 0]) G hH rfl inlX12 tyX12 tyX12_ok nmX12 (by decide) (wm_6 _ (List.mem_of_getElem? (i := 20) rfl)) rfl (by decide +kernel) rfl (by decide +kernel) rfl rfl (Nat.le_of_ble_eq_true rfl) rfl dX12_init_28 (fun H locs hH => ?_)
  refine lv_aload_n hx hb dX12_init_31 rfl (lv_at hl 0 rfl) ?_
  refine lv_iconst (v := (3 : Int32)) hx hb dX12_init_32 (by decide) ?_
  refine y_newi (N := 3) G hH hA (by decide) (by decide) (Nat.le_of_ble_eq_true rfl) (Nat.le_of_ble_eq_true rfl) (Nat.le_of_ble_eq_true rfl) (wm_3 _ (List.mem_of_getElem? (i := 4) rfl)) dX12_init_33 (fun q4 H hH => ?_)
  refine y_putF (k := 4) (C := RX12) (T := TX12) (N := 24) (ty := .array .int) (v := .ref q4) (fs2 := [.ref q1, .ref q2, .ref q3, .int 0, .ref q4, .null, .null, .int 0, .null, .null, .int 0, .int 0, .null, .null, .null, .null, .null, .int 0, .int 0, .int 0, .int 0, .null, .null, .long 0]) G hH rfl inlX12 tyX12 tyX12_ok nmX12 (by decide) (wm_6 _ (List.mem_of_getElem? (i := 21) rfl)) rfl (by decide +kernel) rfl (by decide +kernel) rfl rfl (Nat.le_of_ble_eq_true rfl) rfl dX12_init_35 (fun H locs hH => ?_)
  refine lv_aload_n hx hb dX12_init_38 rfl (lv_at hl 0 rfl) ?_
  refine lv_bipush (v := (16 : Int32)) hx hb dX12_init_39 (by decide) ?_
  refine y_newi (N := 16) G hH hA (by decide) (by decide) (Nat.le_of_ble_eq_true rfl) (Nat.le_of_ble_eq_true rfl) (Nat.le_of_ble_eq_true rfl) (wm_3 _ (List.mem_of_getElem? (i := 4) rfl)) dX12_init_41 (fun q5 H hH => ?_)
  refine y_putF (k := 5) (C := RX12) (T := TX12) (N := 24) (ty := .array .int) (v := .ref q5) (fs2 := [.ref q1, .ref q2, .ref q3, .int 0, .ref q4, .ref q5, .null, .int 0, .null, .null, .int 0, .int 0, .null, .null, .null, .null, .null, .int 0, .int 0, .int 0, .int 0, .null, .null, .long 0]) G hH rfl inlX12 tyX12 tyX12_ok nmX12 (by decide) (wm_6 _ (List.mem_of_getElem? (i := 22) rfl)) rfl (by decide +kernel) rfl (by decide +kernel) rfl rfl (Nat.le_of_ble_eq_true rfl) rfl dX12_init_43 (fun H locs hH => ?_)
  refine lv_aload_n hx hb dX12_init_46 rfl (lv_at hl 0 rfl) ?_
  refine lv_bipush (v := (16 : Int32)) hx hb dX12_init_47 (by decide) ?_
  refine y_newi (N := 16) G hH hA (by decide) (by decide) (Nat.le_of_ble_eq_true rfl) (Nat.le_of_ble_eq_true rfl) (Nat.le_of_ble_eq_true rfl) (wm_3 _ (List.mem_of_getElem? (i := 4) rfl)) dX12_init_49 (fun q6 H hH => ?_)
  refine y_putF (k := 6) (C := RX12) (T := TX12) (N := 24) (ty := .array .int) (v := .ref q6) (fs2 := [.ref q1, .ref q2, .ref q3, .int 0, .ref q4, .ref q5, .ref q6, .int 0, .null, .null, .int 0, .int 0, .null, .null, .null, .null, .null, .int 0, .int 0, .int 0, .int 0, .null, .null, .long 0]) G hH rfl inlX12 tyX12 tyX12_ok nmX12 (by decide) (wm_6 _ (List.mem_of_getElem? (i := 23) rfl)) rfl (by decide +kernel) rfl (by decide +kernel) rfl rfl (Nat.le_of_ble_eq_true rfl) rfl dX12_init_51 (fun H locs hH => ?_)
  refine lv_aload_n hx hb dX12_init_54 rfl (lv_at hl 0 rfl) ?_
  refine lv_bipush (v := (6 : Int32)) hx hb dX12_init_55 (by decide) ?_
  refine y_newi (N := 6) G hH hA (by decide) (by decide) (Nat.le_of_ble_eq_true rfl) (Nat.le_of_ble_eq_true rfl) (Nat.le_of_ble_eq_true rfl) (wm_3 _ (List.mem_of_getElem? (i := 4) rfl)) dX12_init_57 (fun q7 H hH => ?_)
  refine y_putF (k := 8) (C := RX12) (T := TX12) (N := 24) (ty := .array .int) (v := .ref q7) (fs2 := [.ref q1, .ref q2, .ref q3, .int 0, .ref q4, .ref q5, .ref q6, .int 0, .ref q7, .null, .int 0, .int 0, .null, .null, .null, .null, .null, .int 0, .int 0, .int 0, .int 0, .null, .null, .long 0]) G hH rfl inlX12 tyX12 tyX12_ok nmX12 (by decide) (wm_7 _ (List.mem_of_getElem? (i := 0) rfl)) rfl (by decide +kernel) rfl (by decide +kernel) rfl rfl (Nat.le_of_ble_eq_true rfl) rfl dX12_init_59 (fun H locs hH => ?_)
  refine lv_aload_n hx hb dX12_init_62 rfl (lv_at hl 0 rfl) ?_
  refine lv_bipush (v := (6 : Int32)) hx hb dX12_init_63 (by decide) ?_
  refine y_newi (N := 6) G hH hA (by decide) (by decide) (Nat.le_of_ble_eq_true rfl) (Nat.le_of_ble_eq_true rfl) (Nat.le_of_ble_eq_true rfl) (wm_3 _ (List.mem_of_getElem? (i := 4) rfl)) dX12_init_65 (fun q8 H hH => ?_)
  refine y_putF (k := 9) (C := RX12) (T := TX12) (N := 24) (ty := .array .int) (v := .ref q8) (fs2 := [.ref q1, .ref q2, .ref q3, .int 0, .ref q4, .ref q5, .ref q6, .int 0, .ref q7, .ref q8, .int 0, .int 0, .null, .null, .null, .null, .null, .int 0, .int 0, .int 0, .int 0, .null, .null, .long 0]) G hH rfl inlX12 tyX12 tyX12_ok nmX12 (by decide) (wm_7 _ (List.mem_of_getElem? (i := 1) rfl)) rfl (by decide +kernel) rfl (by decide +kernel) rfl rfl (Nat.le_of_ble_eq_true rfl) rfl dX12_init_67 (fun H locs hH => ?_)
  refine lv_aload_n hx hb dX12_init_70 rfl (lv_at hl 0 rfl) ?_
  refine lv_bipush (v := (6 : Int32)) hx hb dX12_init_71 (by decide) ?_
  refine y_newi (N := 6) G hH hA (by decide) (by decide) (Nat.le_of_ble_eq_true rfl) (Nat.le_of_ble_eq_true rfl) (Nat.le_of_ble_eq_true rfl) (wm_3 _ (List.mem_of_getElem? (i := 4) rfl)) dX12_init_73 (fun q9 H hH => ?_)
  refine y_putF (k := 12) (C := RX12) (T := TX12) (N := 24) (ty := .array .int) (v := .ref q9) (fs2 := [.ref q1, .ref q2, .ref q3, .int 0, .ref q4, .ref q5, .ref q6, .int 0, .ref q7, .ref q8, .int 0, .int 0, .ref q9, .null, .null, .null, .null, .int 0, .int 0, .int 0, .int 0, .null, .null, .long 0]) G hH rfl inlX12 tyX12 tyX12_ok nmX12 (by decide) (wm_7 _ (List.mem_of_getElem? (i := 2) rfl)) rfl (by decide +kernel) rfl (by decide +kernel) rfl rfl (Nat.le_of_ble_eq_true rfl) rfl dX12_init_75 (fun H locs hH => ?_)
  refine lv_aload_n hx hb dX12_init_78 rfl (lv_at hl 0 rfl) ?_
  refine lv_sipush (v := (720 : Int32)) hx hb dX12_init_79 (by decide) ?_
  refine y_newl (N := 720) G hH hA (by decide) (by decide) (Nat.le_of_ble_eq_true rfl) (Nat.le_of_ble_eq_true rfl) (Nat.le_of_ble_eq_true rfl) (wm_5 _ (List.mem_of_getElem? (i := 14) rfl)) dX12_init_82 (fun q10 H hH => ?_)
  refine y_putF (k := 13) (C := RX12) (T := TX12) (N := 24) (ty := .array .long) (v := .ref q10) (fs2 := [.ref q1, .ref q2, .ref q3, .int 0, .ref q4, .ref q5, .ref q6, .int 0, .ref q7, .ref q8, .int 0, .int 0, .ref q9, .ref q10, .null, .null, .null, .int 0, .int 0, .int 0, .int 0, .null, .null, .long 0]) G hH rfl inlX12 tyX12 tyX12_ok nmX12 (by decide) (wm_7 _ (List.mem_of_getElem? (i := 3) rfl)) rfl (by decide +kernel) rfl (by decide +kernel) rfl rfl (Nat.le_of_ble_eq_true rfl) rfl dX12_init_84 (fun H locs hH => ?_)
  refine lv_aload_n hx hb dX12_init_87 rfl (lv_at hl 0 rfl) ?_
  refine lv_sipush (v := (720 : Int32)) hx hb dX12_init_88 (by decide) ?_
  refine y_newl (N := 720) G hH hA (by decide) (by decide) (Nat.le_of_ble_eq_true rfl) (Nat.le_of_ble_eq_true rfl) (Nat.le_of_ble_eq_true rfl) (wm_5 _ (List.mem_of_getElem? (i := 14) rfl)) dX12_init_91 (fun q11 H hH => ?_)
  refine y_putF (k := 14) (C := RX12) (T := TX12) (N := 24) (ty := .array .long) (v := .ref q11) (fs2 := [.ref q1, .ref q2, .ref q3, .int 0, .ref q4, .ref q5, .ref q6, .int 0, .ref q7, .ref q8, .int 0, .int 0, .ref q9, .ref q10, .ref q11, .null, .null, .int 0, .int 0, .int 0, .int 0, .null, .null, .long 0]) G hH rfl inlX12 tyX12 tyX12_ok nmX12 (by decide) (wm_7 _ (List.mem_of_getElem? (i := 4) rfl)) rfl (by decide +kernel) rfl (by decide +kernel) rfl rfl (Nat.le_of_ble_eq_true rfl) rfl dX12_init_93 (fun H locs hH => ?_)
  refine lv_aload_n hx hb dX12_init_96 rfl (lv_at hl 0 rfl) ?_
  refine lv_sipush (v := (720 : Int32)) hx hb dX12_init_97 (by decide) ?_
  refine y_newi (N := 720) G hH hA (by decide) (by decide) (Nat.le_of_ble_eq_true rfl) (Nat.le_of_ble_eq_true rfl) (Nat.le_of_ble_eq_true rfl) (wm_3 _ (List.mem_of_getElem? (i := 4) rfl)) dX12_init_100 (fun q12 H hH => ?_)
  refine y_putF (k := 15) (C := RX12) (T := TX12) (N := 24) (ty := .array .int) (v := .ref q12) (fs2 := [.ref q1, .ref q2, .ref q3, .int 0, .ref q4, .ref q5, .ref q6, .int 0, .ref q7, .ref q8, .int 0, .int 0, .ref q9, .ref q10, .ref q11, .ref q12, .null, .int 0, .int 0, .int 0, .int 0, .null, .null, .long 0]) G hH rfl inlX12 tyX12 tyX12_ok nmX12 (by decide) (wm_7 _ (List.mem_of_getElem? (i := 5) rfl)) rfl (by decide +kernel) rfl (by decide +kernel) rfl rfl (Nat.le_of_ble_eq_true rfl) rfl dX12_init_102 (fun H locs hH => ?_)
  refine lv_aload_n hx hb dX12_init_105 rfl (lv_at hl 0 rfl) ?_
  refine lv_sipush (v := (150 : Int32)) hx hb dX12_init_106 (by decide) ?_
  refine y_newi (N := 150) G hH hA (by decide) (by decide) (Nat.le_of_ble_eq_true rfl) (Nat.le_of_ble_eq_true rfl) (Nat.le_of_ble_eq_true rfl) (wm_3 _ (List.mem_of_getElem? (i := 4) rfl)) dX12_init_109 (fun q13 H hH => ?_)
  refine y_putF (k := 16) (C := RX12) (T := TX12) (N := 24) (ty := .array .int) (v := .ref q13) (fs2 := [.ref q1, .ref q2, .ref q3, .int 0, .ref q4, .ref q5, .ref q6, .int 0, .ref q7, .ref q8, .int 0, .int 0, .ref q9, .ref q10, .ref q11, .ref q12, .ref q13, .int 0, .int 0, .int 0, .int 0, .null, .null, .long 0]) G hH rfl inlX12 tyX12 tyX12_ok nmX12 (by decide) (wm_7 _ (List.mem_of_getElem? (i := 6) rfl)) rfl (by decide +kernel) rfl (by decide +kernel) rfl rfl (Nat.le_of_ble_eq_true rfl) rfl dX12_init_111 (fun H locs hH => ?_)
  refine lv_aload_n hx hb dX12_init_114 rfl (lv_at hl 0 rfl) ?_
  refine lv_bipush (v := (80 : Int32)) hx hb dX12_init_115 (by decide) ?_
  refine y_newi (N := 80) G hH hA (by decide) (by decide) (Nat.le_of_ble_eq_true rfl) (Nat.le_of_ble_eq_true rfl) (Nat.le_of_ble_eq_true rfl) (wm_3 _ (List.mem_of_getElem? (i := 4) rfl)) dX12_init_117 (fun q14 H hH => ?_)
  refine y_putF (k := 21) (C := RX12) (T := TX12) (N := 24) (ty := .array .int) (v := .ref q14) (fs2 := [.ref q1, .ref q2, .ref q3, .int 0, .ref q4, .ref q5, .ref q6, .int 0, .ref q7, .ref q8, .int 0, .int 0, .ref q9, .ref q10, .ref q11, .ref q12, .ref q13, .int 0, .int 0, .int 0, .int 0, .ref q14, .null, .long 0]) G hH rfl inlX12 tyX12 tyX12_ok nmX12 (by decide) (wm_7 _ (List.mem_of_getElem? (i := 7) rfl)) rfl (by decide +kernel) rfl (by decide +kernel) rfl rfl (Nat.le_of_ble_eq_true rfl) rfl dX12_init_119 (fun H locs hH => ?_)
  refine lv_aload_n hx hb dX12_init_122 rfl (lv_at hl 0 rfl) ?_
  refine lv_sipush (v := (320 : Int32)) hx hb dX12_init_123 (by decide) ?_
  refine y_newi (N := 320) G hH hA (by decide) (by decide) (Nat.le_of_ble_eq_true rfl) (Nat.le_of_ble_eq_true rfl) (Nat.le_of_ble_eq_true rfl) (wm_3 _ (List.mem_of_getElem? (i := 4) rfl)) dX12_init_126 (fun q15 H hH => ?_)
  refine y_putF (k := 22) (C := RX12) (T := TX12) (N := 24) (ty := .array .int) (v := .ref q15) (fs2 := [.ref q1, .ref q2, .ref q3, .int 0, .ref q4, .ref q5, .ref q6, .int 0, .ref q7, .ref q8, .int 0, .int 0, .ref q9, .ref q10, .ref q11, .ref q12, .ref q13, .int 0, .int 0, .int 0, .int 0, .ref q14, .ref q15, .long 0]) G hH rfl inlX12 tyX12 tyX12_ok nmX12 (by decide) (wm_7 _ (List.mem_of_getElem? (i := 8) rfl)) rfl (by decide +kernel) rfl (by decide +kernel) rfl rfl (Nat.le_of_ble_eq_true rfl) rfl dX12_init_128 (fun H locs hH => ?_)
  refine lv_aload_n hx hb dX12_init_131 rfl (lv_at hl 0 rfl) ?_
  refine lv_iconst (v := (0 : Int32)) hx hb dX12_init_132 (by decide) ?_
  refine y_put (k := 3) (C := RX12) (T := TX12) (N := 24) (ty := .int) (v := .int 0) (fs2 := [.ref q1, .ref q2, .ref q3, .int 0, .ref q4, .ref q5, .ref q6, .int 0, .ref q7, .ref q8, .int 0, .int 0, .ref q9, .ref q10, .ref q11, .ref q12, .ref q13, .int 0, .int 0, .int 0, .int 0, .ref q14, .ref q15, .long 0]) G hH rfl inlX12 tyX12 tyX12_ok nmX12 (by decide) (wm_7 _ (List.mem_of_getElem? (i := 9) rfl)) rfl (by decide +kernel) rfl rfl (Nat.le_of_ble_eq_true rfl) rfl dX12_init_133 (fun H locs hH => ?_)
  refine W.widen (k := 15) (n := 3680) (Nat.le_of_ble_eq_true rfl) (Nat.le_of_ble_eq_true rfl) ?_
  exact z_ret (W1 := sMo E h0) G hr hAe (fun k => [h0, q1, q2, q3, q4, q5, q6, q7, q8, q9, q10, q11, q12, q13, q14, q15].getD k 0) hH dX12_init_136
