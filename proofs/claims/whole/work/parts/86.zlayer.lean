/-! constructors: worlds that grow -/
def zNl : List Cond := [.methodLinkNest RX11 9 yX9_init "WetPrints", .methodLinkNest RX9 9 yX0_init "WetPrints", .methodLinkNest RX9 18 yX2_init "WetPrints", .methodLinkNest RX2 11 yX7_init "WetPrints", .methodLinkNest RX3 24 yX9_init "WetPrints", .methodLinkNest RX6 11 yX7_init "WetPrints", .methodLinkNest RX6 20 yX8_init "WetPrints", .methodLinkNest RX11 38 yX10_init "WetPrints", .methodLinkNest RX11 45 yX4_init "WetPrints"]
theorem zNl_f : ∀ w ∈ zNl, ∃ a i x h, w = Cond.methodLinkNest a i x h := by
  intro w hw
  simp only [zNl, List.mem_cons, List.not_mem_nil, or_false] at hw
  rcases hw with rfl | rfl | rfl | rfl | rfl | rfl | rfl | rfl | rfl <;> exact ⟨_, _, _, _, rfl⟩
def zN (U : State) : Prop := (∀ w ∈ zNl, va_Nw w U) ∧ va_AO "WetPrints$State" U
theorem zN_warm {s U : State} (hW : s.WarmedH U.vm) (h : zN s) : zN U := ⟨fun w hw => by
  obtain ⟨a, i, x, h1, rfl⟩ := zNl_f w hw
  exact va_Nw.warmM hW (h.1 _ hw), va_AO.moved hW.alike h.2⟩
def zPre (E : xE) (sz : Nat) (W0 : va_W) (U : State) : Prop := U.heap.size = sz ∧ va_P E.1 vwCl W0 U.heap ∧ va_K E.1 vwCl (xty E) U ∧ va_D (fun _ => True) W0 ∧ zN U
def zPost {S : Type} (E : xE) (sz : Nat) (W0 : va_W) (W1 : S → va_W) (u : S) (t : State) : Prop := va_P E.1 vwCl (W1 u) t.heap ∧ va_D (va_A W0 sz) (W1 u)
def zM {S : Type} (l : Launch) (y : MethodName) (ws : List Cond) (rm : Room) (E : xE) (W0 : va_W) (av : List Value) (W1 : S → va_W) (mc ms : Nat) : Prop := ∀ sz : Nat, Met l y ws rm (va_Pc av (zPre E sz W0)) (va_Qv (fun _ : S => True) (zPost E sz W0 W1) (va_A W0 sz)) mc ms (va_A W0 sz)
theorem zPre_blind {E : xE} {sz : Nat} {W0 : va_W} {av : List Value} : FrameBlind (va_Pc av (zPre E sz W0)) := by
  intro a U g mk q
  obtain ⟨q0, q1, qP, qK, qD, qN⟩ := q
  refine ⟨q0, q1, qP, va_K.moved (u := U) (U := U.calling g mk a) (Vm.Alike.refl U.vm) qK, qD, fun w hw => ?_, qN.2⟩
  obtain ⟨b, i, x, h1, rfl⟩ := zNl_f w hw
  exact va_Nw.same (u := U) (U := U.calling g mk a) rfl rfl (qN.1 _ hw)
def zG (E : xE) (p : Program) (s : State) (m : MethodId) (args : Array Value) (meth : Method) (c : Code) (cc : ByteArray) (nL : Nat) (own : String) : Prop :=
  p.tables.exec = Jvm.exec ∧ c.code = cc ∧ c.maxLocals = nL ∧ s.vm.findClass own = some m.cls ∧ (∀ w ∈ wsL_law, w.before args s = true) ∧ va_K E.1 vwCl (xty E) s ∧ zN s ∧ meth.locks = false ∧ (own ≠ RL → meth.name = "<init>")
def zH (E : xE) (A : Nat → Prop) (H0 : Heap) (ws : va_W) (H : Heap) (locs : List Loc) : Prop := va_P E.1 vwCl ws H ∧ va_D A ws ∧ va_S A H0 H locs
theorem z_join {D : va_G} {cl : List vw_C} {A : Nat → Prop} {H H1 : Heap} {ws w1 : va_W} {q : Nat} {x : va_E} (hP : va_P D cl (ws ++ [(q, x)]) H) (hD : va_D A (ws ++ [(q, x)])) (hk : ∀ a : Nat, a < H.size → ¬ va_A [(q, x)] H.size a → H1[a]? = H[a]?) (hF : ∀ a, va_A [(q, x)] H.size a → A a) (hP1 : va_P D cl w1 H1) (hD1 : va_D (va_A [(q, x)] H.size) w1) : va_P D cl (ws ++ w1) H1 ∧ va_D A (ws ++ w1) := by
  have hlt : ∀ (k : Nat) (p : Nat × va_E), ws[k]? = some p → k < ws.length := fun k p h => (List.getElem?_eq_some_iff.mp h).1
  have hl : ∀ (k : Nat) (p : Nat × va_E), ws[k]? = some p → (ws ++ [(q, x)])[k]? = some p := fun k p h => by rw [List.getElem?_append_left (hlt k p h)]; exact h
  have hq : (ws ++ [(q, x)])[ws.length]? = some (q, x) := by simp
  have hno : ∀ (k : Nat) (p : Nat × va_E), ws[k]? = some p → p.1 < H.size ∧ ¬ va_A [(q, x)] H.size p.1 := fun k p h => by
    have h1 : p.1 < H.size := (hP k p (hl k p h)).lt
    refine ⟨h1, fun hA => ?_⟩
    rcases hA with ⟨j, e, hj⟩ | hA
    · have hj0 : j < 1 := (List.getElem?_eq_some_iff.mp hj).1
      obtain rfl : j = 0 := by omega
      simp at hj
      have := hD.1 k ws.length p (q, x) (hl k p h) hq hj.1.symm
      have := hlt k p h
      omega
    · omega
  have hPw : va_P D cl ws H := fun k p h => hP k p (hl k p h)
  refine ⟨(hPw.kept (fun k p h => hk p.1 (hno k p h).1 (hno k p h).2)).app hP1, fun i j p r hi hj e => ?_, fun k p h => ?_⟩
  · by_cases h1 : i < ws.length
    · rw [List.getElem?_append_left h1] at hi
      by_cases h2 : j < ws.length
      · rw [List.getElem?_append_left h2] at hj
        exact hD.1 i j p r (hl i p hi) (hl j r hj) e
      · rw [List.getElem?_append_right (by omega)] at hj
        exact absurd (e ▸ hD1.2 _ r hj) (hno i p hi).2
    · rw [List.getElem?_append_right (by omega)] at hi
      by_cases h2 : j < ws.length
      · rw [List.getElem?_append_left h2] at hj
        exact absurd (e ▸ hD1.2 _ p hi) (hno j r hj).2
      · rw [List.getElem?_append_right (by omega)] at hj
        have := hD1.1 _ _ p r hi hj e
        omega
  · by_cases h1 : k < ws.length
    · rw [List.getElem?_append_left h1] at h
      exact hD.2 k p (hl k p h)
    · rw [List.getElem?_append_right (by omega)] at h
      exact hF _ (hD1.2 _ p h)
section ZR
variable {E : xE} {A : Nat → Prop} {H0 : Heap} {ws ws2 : va_W}
variable {p : Program} {l : Launch} {e : Env} {R : Room} {s : State} {m : MethodId} {args : Array Value} {below : List Frame} {meth : Method} {c : Code} {H : Heap} {locs : List Loc} {cells slots : Nat} {Q : State → Prop}
variable {cc : ByteArray} {nL : Nat} {own : String} {pc : Nat} {ls : Array Slot} {rest st0 : List Value}
theorem z_put (G : zG E p s m args meth c cc nL own) (hH : zH E A H0 ws H locs) {a ci k index N : Nat} {fs : List Value} {C : String} {T : u_T} {ty : FieldType} {v : Value} (q0 : Nat) (he : ws[q0]? = some (a, .inr (ci, fs))) (hc : vwCl[ci]? = some (C, T, N)) (hin : ∀ w ∈ u_ws C T N, w ∈ wsL_law) (ty0 : Nat → FieldType) (hty : ∀ k, k < N → parseFieldDescriptor (T k).2.2.1 = some (ty0 k)) (hnm : ∀ a, a < N → ∀ b, b < N → a ≠ b → (T a).2.1 ≠ (T b).2.1) (hk : k < N) (hlink : (Cond.fieldLink own index (T k).1 (T k).2.1 (T k).2.2.1) ∈ wsL_law) (hfin : (T k).2.2.2 = false) (hd : parseFieldDescriptor (T k).2.2.1 = some ty) (hn : narrow ty v = v) (hfit : fits ty v = true) (hl : k < fs.length) (h2 : ws.set q0 (a, .inr (ci, fs.set k v)) = ws2)
    (hdg : decode cc pc = .ok (.putfield index, 3)) (kk : ∀ (H1 : Heap) (locs1 : List Loc), zH E A H0 ws2 H1 locs1 → W p l e R s m args below meth c H1 locs1 cells slots Q (F0 m (pc + 3) ls rest)) : W p l e R s m args below meth c H locs cells slots Q (F0 m pc ls (v :: .ref a :: rest)) := by
  obtain ⟨hx, hb, hml, hown, hts, hKn, hN, hlk, hin2⟩ := G
  subst h2
  exact va_put hx hb hts hin ty0 hty hnm hown hKn hH.1 hH.2.1 hH.2.2 q0 he hc k hk (hts _ hlink) (fun _ h => h) hfin hd hn hfit hl hdg (fun H1 locs1 hP hD hS => kk H1 locs1 ⟨hP, hD, hS⟩)
theorem z_putF (G : zG E p s m args meth c cc nL own) (hH : zH E A H0 ws H locs) {a ci k index N : Nat} {fs : List Value} {C : String} {T : u_T} {ty : FieldType} {v : Value} (q0 : Nat) (he : ws[q0]? = some (a, .inr (ci, fs))) (hc : vwCl[ci]? = some (C, T, N)) (hin : ∀ w ∈ u_ws C T N, w ∈ wsL_law) (ty0 : Nat → FieldType) (hty : ∀ k, k < N → parseFieldDescriptor (T k).2.2.1 = some (ty0 k)) (hnm : ∀ a, a < N → ∀ b, b < N → a ≠ b → (T a).2.1 ≠ (T b).2.1) (hk : k < N) (hlink : (Cond.fieldLink own index (T k).1 (T k).2.1 (T k).2.2.1) ∈ wsL_law) (hfin : (T k).2.2.2 = true) (hno : own ≠ RL) (hdecl : (T k).1 = own) (hd : parseFieldDescriptor (T k).2.2.1 = some ty) (hn : narrow ty v = v) (hfit : fits ty v = true) (hl : k < fs.length) (h2 : ws.set q0 (a, .inr (ci, fs.set k v)) = ws2)
    (hdg : decode cc pc = .ok (.putfield index, 3)) (kk : ∀ (H1 : Heap) (locs1 : List Loc), zH E A H0 ws2 H1 locs1 → W p l e R s m args below meth c H1 locs1 cells slots Q (F0 m (pc + 3) ls rest)) : W p l e R s m args below meth c H locs cells slots Q (F0 m pc ls (v :: .ref a :: rest)) := by
  obtain ⟨hx, hb, hml, hown, hts, hKn, hN, hlk, hin2⟩ := G
  subst h2
  exact va_putF hx hb hts hin ty0 hty hnm hown hKn hH.1 hH.2.1 hH.2.2 q0 he hc k hk (hts _ hlink) (fun _ h => h) hfin (hin2 hno) hdecl hd hn hfit hl hdg (fun H1 locs1 hP hD hS => kk H1 locs1 ⟨hP, hD, hS⟩)
theorem z_get (G : zG E p s m args meth c cc nL own) (hH : zH E A H0 ws H locs) {a ci k index N : Nat} {fs : List Value} {C : String} {T : u_T} {v : Value} (q0 : Nat) (he : ws[q0]? = some (a, .inr (ci, fs))) (hc : vwCl[ci]? = some (C, T, N)) (hin : ∀ w ∈ u_ws C T N, w ∈ wsL_law) (hk : k < N) (hlink : (Cond.fieldLink own index (T k).1 (T k).2.1 (T k).2.2.1) ∈ wsL_law) (hv : fs[k]? = some v) (hdg : decode cc pc = .ok (.getfield index, 3))
    (kk : W p l e R s m args below meth c H locs cells slots Q (F0 m (pc + 3) ls (v :: rest))) : W p l e R s m args below meth c H locs cells slots Q (F0 m pc ls (.ref a :: rest)) := by
  obtain ⟨hx, hb, hml, hown, hts, hKn, hN, hlk, hin2⟩ := G
  exact va_get hx hb hts hin hown hKn hH.1 q0 he hc k hk (hts _ hlink) (fun _ h => h) hv hdg kk
theorem zK_i {U : State} {cA : ClassId} (h : va_K E.1 vwCl (xty E ++ [(cA, .int)]) U) : cA = E.2.1 := by
  have h1 : U.vm.findClass ("[" ++ FieldType.int.toString) = some cA := (h.2 3 _ rfl).2
  have h2 : U.vm.findClass ("[" ++ FieldType.int.toString) = some E.2.1 := (h.2 0 _ rfl).2
  exact Option.some.inj (h1.symm.trans h2)
theorem zK_l {U : State} {cA : ClassId} (h : va_K E.1 vwCl (xty E ++ [(cA, .long)]) U) : cA = E.2.2.1 := by
  have h1 : U.vm.findClass ("[" ++ FieldType.long.toString) = some cA := (h.2 3 _ rfl).2
  have h2 : U.vm.findClass ("[" ++ FieldType.long.toString) = some E.2.2.1 := (h.2 1 _ rfl).2
  exact Option.some.inj (h1.symm.trans h2)
theorem zK_q {U : State} {cA : ClassId} (h : va_K E.1 vwCl (xty E ++ [(cA, .object "WetPrints$State")]) U) : cA = E.2.2.2 := by
  obtain ⟨_, _, _, _, _, h1⟩ := (h.2 3 _ rfl).2
  obtain ⟨_, _, _, _, _, h2⟩ := (h.2 2 _ rfl).2
  exact Option.some.inj (h1.symm.trans h2)
theorem z_newi (G : zG E p s m args meth c cc nL own) (hH : zH E A H0 ws H locs) (hA : ∀ q, H0.size ≤ q → A q) {n : Int32} {N : Nat} (hn : ¬ n < 0) (hN : n.toNatClampNeg = N) (hby : N * 4 ≤ 536870912) (hcells : cells + 1 ≤ R.cells) (hslots : slots + N ≤ R.slots) (hw : Cond.arrayClass .int ∈ wsL_law) (hdg : decode cc pc = .ok (.newarray .int, 2))
    (kk : ∀ (q : Nat) (H1 : Heap), zH E A H0 (ws ++ [(q, .inl (E.2.1, N, .inl (fun _ => 0)))]) H1 locs → W p l e R s m args below meth c H1 locs (cells + 1) (slots + N) Q (F0 m (pc + 2) ls (.ref q :: rest))) : W p l e R s m args below meth c H locs cells slots Q (F0 m pc ls (.int n :: rest)) := by
  obtain ⟨hx, hb, hml, hown, hts, hKn, hN2, hlk, hin2⟩ := G
  refine va_newa (atype := .int) (ty := .int) (a0 := (N, .inl (fun _ => 0))) hx hb (hts _ hw) rfl hKn hH.1 hH.2.1 hH.2.2 hA (fun cA => rfl) hn hN hby hcells hslots hdg (fun q cA H1 hK hP hD hS => ?_)
  obtain rfl := zK_i hK
  exact kk q H1 ⟨hP, hD, hS⟩
theorem z_newl (G : zG E p s m args meth c cc nL own) (hH : zH E A H0 ws H locs) (hA : ∀ q, H0.size ≤ q → A q) {n : Int32} {N : Nat} (hn : ¬ n < 0) (hN : n.toNatClampNeg = N) (hby : N * 8 ≤ 536870912) (hcells : cells + 1 ≤ R.cells) (hslots : slots + N ≤ R.slots) (hw : Cond.arrayClass .long ∈ wsL_law) (hdg : decode cc pc = .ok (.newarray .long, 2))
    (kk : ∀ (q : Nat) (H1 : Heap), zH E A H0 (ws ++ [(q, .inl (E.2.2.1, N, .inr (.inl (fun _ => 0))))]) H1 locs → W p l e R s m args below meth c H1 locs (cells + 1) (slots + N) Q (F0 m (pc + 2) ls (.ref q :: rest))) : W p l e R s m args below meth c H locs cells slots Q (F0 m pc ls (.int n :: rest)) := by
  obtain ⟨hx, hb, hml, hown, hts, hKn, hN2, hlk, hin2⟩ := G
  refine va_newa (atype := .long) (ty := .long) (a0 := (N, .inr (.inl (fun _ => 0)))) hx hb (hts _ hw) rfl hKn hH.1 hH.2.1 hH.2.2 hA (fun cA => rfl) hn hN hby hcells hslots hdg (fun q cA H1 hK hP hD hS => ?_)
  obtain rfl := zK_l hK
  exact kk q H1 ⟨hP, hD, hS⟩
theorem z_newq (G : zG E p s m args meth c cc nL own) (hH : zH E A H0 ws H locs) (hA : ∀ q, H0.size ≤ q → A q) {n : Int32} {N index : Nat} (hn : ¬ n < 0) (hN : n.toNatClampNeg = N) (hby : N * 4 ≤ 536870912) (hcells : cells + 1 ≤ R.cells) (hslots : slots + N ≤ R.slots) (hw : Cond.classLink own index "WetPrints$State" ∈ wsL_law) (hdg : decode cc pc = .ok (.anewarray index, 3))
    (kk : ∀ (q : Nat) (H1 : Heap), zH E A H0 (ws ++ [(q, .inl (E.2.2.2, N, .inr (.inr (.inr (.inr (fun _ => none))))))]) H1 locs → W p l e R s m args below meth c H1 locs (cells + 1) (slots + N) Q (F0 m (pc + 3) ls (.ref q :: rest))) : W p l e R s m args below meth c H locs cells slots Q (F0 m pc ls (.int n :: rest)) := by
  obtain ⟨hx, hb, hml, hown, hts, hKn, hN2, hlk, hin2⟩ := G
  refine va_newq hx hb hown (hts _ hw) hN2.2 hKn hH.1 hH.2.1 hH.2.2 hA hn hN hby hcells hslots hdg (fun q cA H1 hK hP hD hS => ?_)
  obtain rfl := zK_q hK
  exact kk q H1 ⟨hP, hD, hS⟩
theorem z_new (G : zG E p s m args meth c cc nL own) (hH : zH E A H0 ws H locs) (hA : ∀ q, H0.size ≤ q → A q) {C : String} {T : u_T} {N ci index : Nat} (hin : ∀ w ∈ u_ws C T N, w ∈ wsL_law) (ty : Nat → FieldType) (hty : ∀ k, k < N → parseFieldDescriptor (T k).2.2.1 = some (ty k)) (hcl : Cond.classLink own index C ∈ wsL_law) (hinst : Cond.instantiable C N ∈ wsL_law) (hini : Cond.initialized C ∈ wsL_law) (hc : vwCl[ci]? = some (C, T, N)) {fs : List Value} (hfs : ∀ j, j < N → defaultValue (ty j) = vp_V fs j) (hcells : cells + 1 ≤ R.cells) (hslots : slots + N ≤ R.slots) (hdg : decode cc pc = .ok (.new index, 3))
    (kk : ∀ (q : Nat) (H1 : Heap), zH E A H0 (ws ++ [(q, .inr (ci, fs))]) H1 locs → W p l e R s m args below meth c H1 locs (cells + 1) (slots + N) Q (F0 m (pc + 3) ls (.ref q :: rest))) : W p l e R s m args below meth c H locs cells slots Q (F0 m pc ls rest) := by
  obtain ⟨hx, hb, hml, hown, hts, hKn, hN2, hlk, hin2⟩ := G
  exact va_new hx hb hts hin ty hty hown (hts _ hcl) (hts _ hinst) (hts _ hini) hKn hH.1 hH.2.1 hH.2.2 hA hc hfs hcells hslots hdg (fun q H1 hP hD hS => kk q H1 ⟨hP, hD, hS⟩)
theorem z_one {q : Nat} {x : va_E} (hH : zH E A H0 (ws ++ [(q, x)]) H locs) : va_P E.1 vwCl [(q, x)] H ∧ va_D A [(q, x)] := by
  have hq : (ws ++ [(q, x)])[ws.length]? = some (q, x) := by simp
  refine ⟨fun k r h => ?_, fun i j p r hi hj _ => ?_, fun k r h => ?_⟩
  · have : k < 1 := (List.getElem?_eq_some_iff.mp h).1
    obtain rfl : k = 0 := by omega
    simp at h
    exact h ▸ hH.1 _ _ hq
  · have : i < 1 := (List.getElem?_eq_some_iff.mp hi).1
    have : j < 1 := (List.getElem?_eq_some_iff.mp hj).1
    omega
  · have : k < 1 := (List.getElem?_eq_some_iff.mp h).1
    obtain rfl : k = 0 := by omega
    simp at h
    exact h ▸ hH.2.1.2 _ _ hq
theorem z_cN {S : Type} {W1 : S → va_W} {q : Nat} {x : va_E} (G : zG E p s m args meth c cc nL own) (hH : zH E A H0 (ws ++ [(q, x)]) H locs) (hA : ∀ q, H0.size ≤ q → A q) {host : String} {y : MethodName} {bytes : ByteArray} {maxL n index mc ms : Nat} {rm : Room} {As : List Value} (hM : zM l y (Cond.code y bytes maxL none :: wsL_law) rm E [(q, x)] (.ref q :: As) W1 mc ms) (hrc : rm.cells = mc) (hrs : rm.slots = ms) (hl : Cond.methodLinkNest own index y host ∈ zNl) (hi : Cond.instanceMethod y ∈ wsL_law) (hini : Cond.initialized y.cls ∈ wsL_law) (hco : Cond.code y bytes maxL none ∈ wsL_law) (hy1 : y.name = "<init>") (hd : y.cls ≠ "java/lang/invoke/MethodHandle" ∧ y.cls ≠ "java/lang/invoke/VarHandle" ∧ (parseMethodDescriptor y.desc).map (fun d => d.parameters.length) = some n) (hR : rm.frames + 1 ≤ R.frames ∧ 8 + (maxL + 11) + rm.locals ≤ R.locals) (hn : As.length = n) (hsz : ls.size = nL) (hst : st0 = As.reverse ++ .ref q :: rest) (hW : (rest.map fun v => v.category).sum ≤ 8) (hdg : decode cc pc = .ok (.invokespecial index, 3)) (hf : cells + mc ≤ R.cells ∧ slots + ms ≤ R.slots)
    (kk : ∀ (u : S) (H1 : Heap) (locs1 : List Loc), zH E A H0 (ws ++ W1 u) H1 locs1 → W p l e R s m args below meth c H1 locs1 (cells + mc) (slots + ms) Q (F0 m (pc + 3) ls rest)) : W p l e R s m args below meth c H locs cells slots Q (F0 m pc ls st0) := by
  obtain ⟨hx, hb, hml, hown, hts, hKn, hN2, hlk, hin2⟩ := G
  obtain ⟨hPc, hDc⟩ := z_one hH
  have hFc : ∀ a, va_A [(q, x)] H.size a → A a := va_free hH.2.1 hH.2.2 hA [ws.length] (by simp)
  refine va_callv (va_runIN (b := q) (As := As) (rest := rest) ⟨hx, hb, hml, hown, hts⟩ (hM H.size) ⟨va_cnB n hts (xg_C hco) rfl hrc hrs (hN2.1 _ hl) (hts _ hini) hd hR, hy1, hts _ hi⟩ ⟨zPre_blind, fun U hU hW => ⟨rfl, by rw [hU], by rw [hU]; exact hPc, va_K.moved hW.alike hKn, hDc.weaken (fun _ _ _ _ => trivial), zN_warm hW hN2⟩⟩ rfl hn hsz hst (lv_room hW) hdg hf) hH.2.2 (fun a _ h => hFc a h) hFc (fun u t H1 locs1 ht hvm hw hB hz1 hk1 hS => ?_)
  obtain ⟨hP, hD⟩ := z_join hH.1 hH.2.1 hk1 hFc (ht ▸ hB.1) hB.2
  exact kk u H1 locs1 ⟨hP, hD, hS⟩
theorem z_cI {S : Type} {W1 : S → va_W} {q : Nat} {x : va_E} (G : zG E p s m args meth c cc nL own) (hH : zH E A H0 (ws ++ [(q, x)]) H locs) (hA : ∀ q, H0.size ≤ q → A q) {y : MethodName} {bytes : ByteArray} {maxL n index mc ms : Nat} {rm : Room} {As : List Value} (hM : zM l y (Cond.code y bytes maxL none :: wsL_law) rm E [(q, x)] (.ref q :: As) W1 mc ms) (hrc : rm.cells = mc) (hrs : rm.slots = ms) (hl : Cond.methodLink own index y ∈ wsL_law) (hi : Cond.instanceMethod y ∈ wsL_law) (hini : Cond.initialized y.cls ∈ wsL_law) (hco : Cond.code y bytes maxL none ∈ wsL_law) (hy1 : y.name = "<init>") (hd : y.cls ≠ "java/lang/invoke/MethodHandle" ∧ y.cls ≠ "java/lang/invoke/VarHandle" ∧ (parseMethodDescriptor y.desc).map (fun d => d.parameters.length) = some n) (hR : rm.frames + 1 ≤ R.frames ∧ 8 + (maxL + 11) + rm.locals ≤ R.locals) (hn : As.length = n) (hsz : ls.size = nL) (hst : st0 = As.reverse ++ .ref q :: rest) (hW : (rest.map fun v => v.category).sum ≤ 8) (hdg : decode cc pc = .ok (.invokespecial index, 3)) (hf : cells + mc ≤ R.cells ∧ slots + ms ≤ R.slots)
    (kk : ∀ (u : S) (H1 : Heap) (locs1 : List Loc), zH E A H0 (ws ++ W1 u) H1 locs1 → W p l e R s m args below meth c H1 locs1 (cells + mc) (slots + ms) Q (F0 m (pc + 3) ls rest)) : W p l e R s m args below meth c H locs cells slots Q (F0 m pc ls st0) := by
  obtain ⟨hx, hb, hml, hown, hts, hKn, hN2, hlk, hin2⟩ := G
  obtain ⟨hPc, hDc⟩ := z_one hH
  have hFc : ∀ a, va_A [(q, x)] H.size a → A a := va_free hH.2.1 hH.2.2 hA [ws.length] (by simp)
  refine va_callv (va_runI (b := q) (As := As) (rest := rest) ⟨hx, hb, hml, hown, hts⟩ (hM H.size) (cwI n hts (xg_C hco) rfl hrc hrs (hts _ hini) (hts _ hl) (hts _ hi) hy1 hd hR) ⟨zPre_blind, fun U hU hW => ⟨rfl, by rw [hU], by rw [hU]; exact hPc, va_K.moved hW.alike hKn, hDc.weaken (fun _ _ _ _ => trivial), zN_warm hW hN2⟩⟩ rfl hn hsz hst (lv_room hW) hdg hf) hH.2.2 (fun a _ h => hFc a h) hFc (fun u t H1 locs1 ht hvm hw hB hz1 hk1 hS => ?_)
  obtain ⟨hP, hD⟩ := z_join hH.1 hH.2.1 hk1 hFc (ht ▸ hB.1) hB.2
  exact kk u H1 locs1 ⟨hP, hD, hS⟩
theorem z_obj (G : zG E p s m args meth c cc nL own) {a idx : Nat} (hl : Cond.methodLink own idx objectInit ∈ wsL_law) (hi : Cond.instanceMethod objectInit ∈ wsL_law) (hco : Cond.code objectInit ⟨#[0xb1]⟩ 1 none ∈ wsL_law) (hsz : ls.size = nL) (hdg : decode cc pc = .ok (.invokespecial idx, 3)) (hR : 1 ≤ R.frames ∧ 12 ≤ R.locals)
    (kk : W p l e R s m args below meth c H locs cells slots Q (F0 m (pc + 3) ls [])) : W p l e R s m args below meth c H locs cells slots Q (F0 m pc ls [.ref a]) := by
  obtain ⟨hx, hb, hml, hown, hts, hKn, hN2, hlk, hin2⟩ := G
  exact W.objInit hx hb hown (hts _ hl) (hts _ hi) (hts _ hco) rfl (by rw [hml]; exact hsz) rfl hdg hR.1 hR.2 kk
theorem z_st {S : Type} {W0 : va_W} {W1 : S → va_W} {y : MethodName} {wt : List Cond} {rm : Room} {maxL mc ms : Nat} {av : List Value} (hcls : y.cls = own) (hy : plainName y.cls = true) (hyn : y.name = "<init>") (hw : wt = Cond.code y cc maxL none :: wsL_law) (hlen : (lg_sl av).length ≤ maxL)
    (body : ∀ (p : Program) (e : Env) (s : State) (m : MethodId) (args : Array Value) (below : List Frame) (meth : Method) (c : Code) (ls : Array Slot) (A : Nat → Prop), zG E p s m args meth c cc maxL own → meth.sig.returnType = none → (∀ a, s.heap.size ≤ a → A a) → zH E A s.heap W0 s.heap [] → A = va_A W0 s.heap.size → lv_has ls maxL (lv_args 0 av) → W p l e (headSpec wt rm).room s m args below meth c s.heap [] 0 0 (MQ below (va_Qv (fun _ : S => True) (zPost E s.heap.size W0 W1) (va_A W0 s.heap.size)) args s mc ms (va_A W0 s.heap.size)) (F0 m 0 ls [])) : zM l y wt rm E W0 av W1 mc ms := by
  intro sz
  refine Met.ofW (cc := cc) (maxL := maxL) (ret := none) hy hw ?_
  intro p e s m args below meth c s₁ B hml hv
  obtain ⟨rfl, hsz, hP, hK, hD0, hN⟩ := hv
  subst hsz
  subst hcls
  have hl := lv_entry av (n := maxL) hlen
  rw [lg_entry_eq]
  exact body p e s m _ below meth c _ (va_A W0 s.heap.size) ⟨B.exec, B.bytes, hml, findClass_of_methodNamed B.named, fun w h => atoms_spec (ws := wt) B.pre w (by rw [hw]; exact List.mem_cons_of_mem _ h), hK, hN, B.notSynchronized, fun _ => (name_of_methodNamed B.named B.method).1.trans hyn⟩ B.returns (fun a h => Or.inr h) ⟨hP, hD0.self, va_S.rf⟩ rfl hl
theorem z_ret {S : Type} {W0 : va_W} {W1 : S → va_W} (G : zG E p s m args meth c cc nL own) (hr : meth.sig.returnType = none) (hAe : A = va_A W0 s.heap.size) (u : S) (hH : zH E A s.heap (W1 u) H locs) (hdg : decode cc pc = .ok (.return_, 1)) : W p l e R s m args below meth c H locs cells slots (MQ below (va_Qv (fun _ : S => True) (zPost E s.heap.size W0 W1) (va_A W0 s.heap.size)) args s cells slots (va_A W0 s.heap.size)) (F0 m pc ls []) := by
  have hlk := G.2.2.2.2.2.2.2.1
  subst hAe
  exact W.vret G.1 G.2.1 hr (fun t ht hW => ⟨⟨u, rfl, trivial, by rw [ht]; exact hH.1, hH.2.1⟩, hH.2.2.F ht⟩) hH.2.2.2.2 hdg
variable {x0 : Nat × va_E}
theorem getl {ws w : va_W} {x : Nat × va_E} : (ws ++ (x :: w))[ws.length]? = some x := by simp
theorem y_put (G : zG E p s m args meth c cc nL own) {a ci k index N : Nat} {fs fs2 : List Value} (hH : zH E A H0 ((a, .inr (ci, fs)) :: ws) H locs) {C : String} {T : u_T} {ty : FieldType} {v : Value} (hc : vwCl[ci]? = some (C, T, N)) (hin : ∀ w ∈ u_ws C T N, w ∈ wsL_law) (ty0 : Nat → FieldType) (hty : ∀ k, k < N → parseFieldDescriptor (T k).2.2.1 = some (ty0 k)) (hnm : ∀ a, a < N → ∀ b, b < N → a ≠ b → (T a).2.1 ≠ (T b).2.1) (hk : k < N) (hlink : (Cond.fieldLink own index (T k).1 (T k).2.1 (T k).2.2.1) ∈ wsL_law) (hfin : (T k).2.2.2 = false) (hd : parseFieldDescriptor (T k).2.2.1 = some ty) (hn : narrow ty v = v) (hfit : fits ty v = true) (hl : k < fs.length) (h2 : fs.set k v = fs2)
    (hdg : decode cc pc = .ok (.putfield index, 3)) (kk : ∀ (H1 : Heap) (locs1 : List Loc), zH E A H0 ((a, .inr (ci, fs2)) :: ws) H1 locs1 → W p l e R s m args below meth c H1 locs1 cells slots Q (F0 m (pc + 3) ls rest)) : W p l e R s m args below meth c H locs cells slots Q (F0 m pc ls (v :: .ref a :: rest)) := by
  subst h2
  exact z_put G hH 0 rfl hc hin ty0 hty hnm hk hlink hfin hd hn hfit hl rfl hdg kk
theorem y_putF (G : zG E p s m args meth c cc nL own) {a ci k index N : Nat} {fs fs2 : List Value} (hH : zH E A H0 ((a, .inr (ci, fs)) :: ws) H locs) {C : String} {T : u_T} {ty : FieldType} {v : Value} (hc : vwCl[ci]? = some (C, T, N)) (hin : ∀ w ∈ u_ws C T N, w ∈ wsL_law) (ty0 : Nat → FieldType) (hty : ∀ k, k < N → parseFieldDescriptor (T k).2.2.1 = some (ty0 k)) (hnm : ∀ a, a < N → ∀ b, b < N → a ≠ b → (T a).2.1 ≠ (T b).2.1) (hk : k < N) (hlink : (Cond.fieldLink own index (T k).1 (T k).2.1 (T k).2.2.1) ∈ wsL_law) (hfin : (T k).2.2.2 = true) (hno : own ≠ RL) (hdecl : (T k).1 = own) (hd : parseFieldDescriptor (T k).2.2.1 = some ty) (hn : narrow ty v = v) (hfit : fits ty v = true) (hl : k < fs.length) (h2 : fs.set k v = fs2)
    (hdg : decode cc pc = .ok (.putfield index, 3)) (kk : ∀ (H1 : Heap) (locs1 : List Loc), zH E A H0 ((a, .inr (ci, fs2)) :: ws) H1 locs1 → W p l e R s m args below meth c H1 locs1 cells slots Q (F0 m (pc + 3) ls rest)) : W p l e R s m args below meth c H locs cells slots Q (F0 m pc ls (v :: .ref a :: rest)) := by
  subst h2
  exact z_putF G hH 0 rfl hc hin ty0 hty hnm hk hlink hfin hno hdecl hd hn hfit hl rfl hdg kk
theorem y_get (G : zG E p s m args meth c cc nL own) {a ci k index N : Nat} {fs : List Value} (hH : zH E A H0 ((a, .inr (ci, fs)) :: ws) H locs) {C : String} {T : u_T} {v : Value} (hc : vwCl[ci]? = some (C, T, N)) (hin : ∀ w ∈ u_ws C T N, w ∈ wsL_law) (hk : k < N) (hlink : (Cond.fieldLink own index (T k).1 (T k).2.1 (T k).2.2.1) ∈ wsL_law) (hv : fs[k]? = some v) (hdg : decode cc pc = .ok (.getfield index, 3))
    (kk : W p l e R s m args below meth c H locs cells slots Q (F0 m (pc + 3) ls (v :: rest))) : W p l e R s m args below meth c H locs cells slots Q (F0 m pc ls (.ref a :: rest)) := z_get G hH 0 rfl hc hin hk hlink hv hdg kk
theorem y_newi (G : zG E p s m args meth c cc nL own) (hH : zH E A H0 (x0 :: ws) H locs) (hA : ∀ q, H0.size ≤ q → A q) {n : Int32} {N : Nat} (hn : ¬ n < 0) (hN : n.toNatClampNeg = N) (hby : N * 4 ≤ 536870912) (hcells : cells + 1 ≤ R.cells) (hslots : slots + N ≤ R.slots) (hw : Cond.arrayClass .int ∈ wsL_law) (hdg : decode cc pc = .ok (.newarray .int, 2))
    (kk : ∀ (q : Nat) (H1 : Heap), zH E A H0 (x0 :: (ws ++ [(q, .inl (E.2.1, N, .inl (fun _ => 0)))])) H1 locs → W p l e R s m args below meth c H1 locs (cells + 1) (slots + N) Q (F0 m (pc + 2) ls (.ref q :: rest))) : W p l e R s m args below meth c H locs cells slots Q (F0 m pc ls (.int n :: rest)) := z_newi G hH hA hn hN hby hcells hslots hw hdg kk
theorem y_newl (G : zG E p s m args meth c cc nL own) (hH : zH E A H0 (x0 :: ws) H locs) (hA : ∀ q, H0.size ≤ q → A q) {n : Int32} {N : Nat} (hn : ¬ n < 0) (hN : n.toNatClampNeg = N) (hby : N * 8 ≤ 536870912) (hcells : cells + 1 ≤ R.cells) (hslots : slots + N ≤ R.slots) (hw : Cond.arrayClass .long ∈ wsL_law) (hdg : decode cc pc = .ok (.newarray .long, 2))
    (kk : ∀ (q : Nat) (H1 : Heap), zH E A H0 (x0 :: (ws ++ [(q, .inl (E.2.2.1, N, .inr (.inl (fun _ => 0))))])) H1 locs → W p l e R s m args below meth c H1 locs (cells + 1) (slots + N) Q (F0 m (pc + 2) ls (.ref q :: rest))) : W p l e R s m args below meth c H locs cells slots Q (F0 m pc ls (.int n :: rest)) := z_newl G hH hA hn hN hby hcells hslots hw hdg kk
theorem y_newq (G : zG E p s m args meth c cc nL own) (hH : zH E A H0 (x0 :: ws) H locs) (hA : ∀ q, H0.size ≤ q → A q) {n : Int32} {N index : Nat} (hn : ¬ n < 0) (hN : n.toNatClampNeg = N) (hby : N * 4 ≤ 536870912) (hcells : cells + 1 ≤ R.cells) (hslots : slots + N ≤ R.slots) (hw : Cond.classLink own index "WetPrints$State" ∈ wsL_law) (hdg : decode cc pc = .ok (.anewarray index, 3))
    (kk : ∀ (q : Nat) (H1 : Heap), zH E A H0 (x0 :: (ws ++ [(q, .inl (E.2.2.2, N, .inr (.inr (.inr (.inr (fun _ => none))))))])) H1 locs → W p l e R s m args below meth c H1 locs (cells + 1) (slots + N) Q (F0 m (pc + 3) ls (.ref q :: rest))) : W p l e R s m args below meth c H locs cells slots Q (F0 m pc ls (.int n :: rest)) := z_newq G hH hA hn hN hby hcells hslots hw hdg kk
theorem y_new (G : zG E p s m args meth c cc nL own) (hH : zH E A H0 (x0 :: ws) H locs) (hA : ∀ q, H0.size ≤ q → A q) {C : String} {T : u_T} {N ci index : Nat} (hin : ∀ w ∈ u_ws C T N, w ∈ wsL_law) (ty : Nat → FieldType) (hty : ∀ k, k < N → parseFieldDescriptor (T k).2.2.1 = some (ty k)) (hcl : Cond.classLink own index C ∈ wsL_law) (hinst : Cond.instantiable C N ∈ wsL_law) (hini : Cond.initialized C ∈ wsL_law) (hc : vwCl[ci]? = some (C, T, N)) {fs : List Value} (hfs : ∀ j, j < N → defaultValue (ty j) = vp_V fs j) (hcells : cells + 1 ≤ R.cells) (hslots : slots + N ≤ R.slots) (hdg : decode cc pc = .ok (.new index, 3))
    (kk : ∀ (q : Nat) (H1 : Heap), zH E A H0 (x0 :: (ws ++ [(q, .inr (ci, fs))])) H1 locs → W p l e R s m args below meth c H1 locs (cells + 1) (slots + N) Q (F0 m (pc + 3) ls (.ref q :: rest))) : W p l e R s m args below meth c H locs cells slots Q (F0 m pc ls rest) := z_new G hH hA hin ty hty hcl hinst hini hc hfs hcells hslots hdg kk
theorem y_cN {S : Type} {W1 : S → va_W} {q : Nat} {x : va_E} (G : zG E p s m args meth c cc nL own) (hH : zH E A H0 (x0 :: (ws ++ [(q, x)])) H locs) (hA : ∀ q, H0.size ≤ q → A q) {host : String} {y : MethodName} {bytes : ByteArray} {maxL n index mc ms : Nat} {rm : Room} {As : List Value} (hM : zM l y (Cond.code y bytes maxL none :: wsL_law) rm E [(q, x)] (.ref q :: As) W1 mc ms) (hrc : rm.cells = mc) (hrs : rm.slots = ms) (hl : Cond.methodLinkNest own index y host ∈ zNl) (hi : Cond.instanceMethod y ∈ wsL_law) (hini : Cond.initialized y.cls ∈ wsL_law) (hco : Cond.code y bytes maxL none ∈ wsL_law) (hy1 : y.name = "<init>") (hd : y.cls ≠ "java/lang/invoke/MethodHandle" ∧ y.cls ≠ "java/lang/invoke/VarHandle" ∧ (parseMethodDescriptor y.desc).map (fun d => d.parameters.length) = some n) (hR : rm.frames + 1 ≤ R.frames ∧ 8 + (maxL + 11) + rm.locals ≤ R.locals) (hn : As.length = n) (hsz : ls.size = nL) (hst : st0 = As.reverse ++ .ref q :: rest) (hW : (rest.map fun v => v.category).sum ≤ 8) (hdg : decode cc pc = .ok (.invokespecial index, 3)) (hf : cells + mc ≤ R.cells ∧ slots + ms ≤ R.slots)
    (kk : ∀ (u : S) (H1 : Heap) (locs1 : List Loc), zH E A H0 (x0 :: (ws ++ W1 u)) H1 locs1 → W p l e R s m args below meth c H1 locs1 (cells + mc) (slots + ms) Q (F0 m (pc + 3) ls rest)) : W p l e R s m args below meth c H locs cells slots Q (F0 m pc ls st0) := z_cN (ws := x0 :: ws) G hH hA hM hrc hrs hl hi hini hco hy1 hd hR hn hsz hst hW hdg hf kk
theorem y_cI {S : Type} {W1 : S → va_W} {q : Nat} {x : va_E} (G : zG E p s m args meth c cc nL own) (hH : zH E A H0 (x0 :: (ws ++ [(q, x)])) H locs) (hA : ∀ q, H0.size ≤ q → A q) {y : MethodName} {bytes : ByteArray} {maxL n index mc ms : Nat} {rm : Room} {As : List Value} (hM : zM l y (Cond.code y bytes maxL none :: wsL_law) rm E [(q, x)] (.ref q :: As) W1 mc ms) (hrc : rm.cells = mc) (hrs : rm.slots = ms) (hl : Cond.methodLink own index y ∈ wsL_law) (hi : Cond.instanceMethod y ∈ wsL_law) (hini : Cond.initialized y.cls ∈ wsL_law) (hco : Cond.code y bytes maxL none ∈ wsL_law) (hy1 : y.name = "<init>") (hd : y.cls ≠ "java/lang/invoke/MethodHandle" ∧ y.cls ≠ "java/lang/invoke/VarHandle" ∧ (parseMethodDescriptor y.desc).map (fun d => d.parameters.length) = some n) (hR : rm.frames + 1 ≤ R.frames ∧ 8 + (maxL + 11) + rm.locals ≤ R.locals) (hn : As.length = n) (hsz : ls.size = nL) (hst : st0 = As.reverse ++ .ref q :: rest) (hW : (rest.map fun v => v.category).sum ≤ 8) (hdg : decode cc pc = .ok (.invokespecial index, 3)) (hf : cells + mc ≤ R.cells ∧ slots + ms ≤ R.slots)
    (kk : ∀ (u : S) (H1 : Heap) (locs1 : List Loc), zH E A H0 (x0 :: (ws ++ W1 u)) H1 locs1 → W p l e R s m args below meth c H1 locs1 (cells + mc) (slots + ms) Q (F0 m (pc + 3) ls rest)) : W p l e R s m args below meth c H locs cells slots Q (F0 m pc ls st0) := z_cI (ws := x0 :: ws) G hH hA hM hrc hrs hl hi hini hco hy1 hd hR hn hsz hst hW hdg hf kk
end ZR
