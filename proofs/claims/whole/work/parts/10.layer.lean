theorem xg_C {y : MethodName} {bytes : ByteArray} {maxL : Nat} {ret : Option FieldType} (hco : Cond.code y bytes maxL ret ∈ wsL_law) : GoodIn wsL_law (Cond.code y bytes maxL ret :: wsL_law) := fun w h => by
  rcases List.mem_cons.mp h with rfl | h
  · exact ⟨hco, xT_good _ hco⟩
  · exact ⟨h, xT_good _ h⟩
theorem xg_V {own C : String} {index : Nat} {y : MethodName} {bytes : ByteArray} {maxL : Nat} {ret : Option FieldType} (hl : Cond.methodLink own index y ∈ wsL_law) (hi : Cond.instanceMethod y ∈ wsL_law) (hse : Cond.selects C y y ∈ wsL_law) (hini : Cond.initialized C ∈ wsL_law) (hco : Cond.code y bytes maxL ret ∈ wsL_law) : GoodIn wsL_law (wsV own index C y (Cond.code y bytes maxL ret :: wsL_law)) := fun w h => by
  have hm : w ∈ wsL_law := by
    unfold wsV at h
    rcases List.mem_append.mp h with h | h
    · simp only [List.mem_cons, List.not_mem_nil, or_false] at h
      rcases h with rfl | rfl | rfl | rfl
      · exact hl
      · exact hi
      · exact hse
      · exact hini
    · exact (xg_C hco w h).1
  exact ⟨hm, xT_good _ hm⟩
theorem xg_S {own : String} {index : Nat} {y : MethodName} {bytes : ByteArray} {maxL : Nat} {ret : Option FieldType} (hl : Cond.methodLink own index y ∈ wsL_law) (hst0 : Cond.static y ∈ wsL_law) (hini : Cond.initialized y.cls ∈ wsL_law) (hco : Cond.code y bytes maxL ret ∈ wsL_law) : GoodIn wsL_law (va_wsS own index y (Cond.code y bytes maxL ret :: wsL_law)) := fun w h => by
  have hm : w ∈ wsL_law := by
    unfold va_wsS at h
    rcases List.mem_append.mp h with h | h
    · simp only [List.mem_cons, List.not_mem_nil, or_false] at h
      rcases h with rfl | rfl | rfl
      · exact hl
      · exact hst0
      · exact hini
    · exact (xg_C hco w h).1
  exact ⟨hm, xT_good _ hm⟩
/-! the pure side: a memory by cell number and place; the static shape of the two objects (numbers of cells, their kinds, lengths, references) -/
abbrev xM : Type := (Nat → Nat → Int32) × (Nat → Nat → Int64)
def xup {α : Type} (f : Nat → Nat → α) (q j : Nat) (v : α) : Nat → Nat → α := fun q2 => if q2 = q then (fun k => if k = j then v else f q k) else f q2
def xi (μ : xM) (q j : Nat) (v : Int32) : xM := (xup μ.1 q j v, μ.2)
def xl (μ : xM) (q j : Nat) (v : Int64) : xM := (μ.1, xup μ.2 q j v)
def uS (x y : Int32) : Int32 := (x.toUInt32 >>> (y.toUInt32 &&& Int32.toUInt32 31)).toInt32
def lU (x : Int64) (y : Int32) : Int64 := (x.toUInt64 >>> (y.toInt64.toUInt64 &&& Int64.toUInt64 63)).toInt64
def lL (x : Int64) (y : Int32) : Int64 := x <<< (y.toInt64 &&& 63)
def kdL : List Nat := [9, 7, 0, 11, 11, 11, 11, 11, 11, 11, 11, 1, 5, 11, 11, 11, 2, 13, 7, 0, 11, 11, 11, 11, 11, 11, 11, 11, 1, 5, 11, 11, 11, 7, 0, 11, 11, 11, 11, 11, 11, 11, 11, 1, 5, 11, 11, 11, 7, 0, 11, 11, 11, 11, 11, 11, 11, 11, 1, 5, 11, 11, 11, 7, 0, 11, 11, 11, 11, 11, 11, 11, 11, 1, 5, 11, 11, 11, 7, 0, 11, 11, 11, 11, 11, 11, 11, 11, 1, 5, 11, 11, 11, 4, 5, 6, 12, 12, 11, 11, 8, 11, 3, 11, 10, 11, 11, 11, 11, 11, 11, 11, 11, 11, 12, 12, 11, 11, 11, 11]
def lnL : List Nat := [0, 0, 0, 6, 6, 6, 6, 6, 6, 6, 6, 0, 0, 12, 12, 12, 0, 5, 0, 0, 6, 6, 6, 6, 6, 6, 6, 6, 0, 0, 12, 12, 12, 0, 0, 6, 6, 6, 6, 6, 6, 6, 6, 0, 0, 12, 12, 12, 0, 0, 6, 6, 6, 6, 6, 6, 6, 6, 0, 0, 12, 12, 12, 0, 0, 6, 6, 6, 6, 6, 6, 6, 6, 0, 0, 12, 12, 12, 0, 0, 6, 6, 6, 6, 6, 6, 6, 6, 0, 0, 12, 12, 12, 0, 0, 0, 1024, 1024, 1024, 64, 0, 150, 0, 4, 0, 131, 131, 655, 3, 16, 16, 6, 6, 6, 720, 720, 720, 150, 80, 320]
def rtL : List (List Nat) := [[1, 16, 93, 100, 102, 0, 0, 0], [2, 11, 0], [0, 3, 4, 5, 6, 7, 8, 9, 10], [], [], [], [], [], [], [], [], [12, 0, 0, 0, 13, 14, 15], [], [], [], [], [17, 0, 0], [18, 33, 48, 63, 78], [19, 28, 0], [0, 20, 21, 22, 23, 24, 25, 26, 27], [], [], [], [], [], [], [], [], [29, 0, 0, 0, 30, 31, 32], [], [], [], [], [34, 43, 0], [0, 35, 36, 37, 38, 39, 40, 41, 42], [], [], [], [], [], [], [], [], [44, 0, 0, 0, 45, 46, 47], [], [], [], [], [49, 58, 0], [0, 50, 51, 52, 53, 54, 55, 56, 57], [], [], [], [], [], [], [], [], [59, 0, 0, 0, 60, 61, 62], [], [], [], [], [64, 73, 0], [0, 65, 66, 67, 68, 69, 70, 71, 72], [], [], [], [], [], [], [], [], [74, 0, 0, 0, 75, 76, 77], [], [], [], [], [79, 88, 0], [0, 80, 81, 82, 83, 84, 85, 86, 87], [], [], [], [], [], [], [], [], [89, 0, 0, 0, 90, 91, 92], [], [], [], [], [2, 94, 95, 99, 0, 0, 0, 0, 0, 0, 0], [], [96, 97, 98, 0, 0], [], [], [], [], [101, 0], [], [0, 103, 0, 0, 0, 0, 0, 0, 0, 0], [], [105, 106, 107, 0, 108, 109, 110, 0, 111, 112, 0, 0, 113, 114, 115, 116, 117, 0, 0, 0, 0, 118, 119, 0], [], [], [], [], [], [], [], [], [], [], [], [], [], [], []]
def kd (q : Nat) : Nat := kdL.getD q 99
def ln (q : Nat) : Nat := lnL.getD q 0
def rt (q j : Nat) : Nat := (rtL.getD q []).getD j 0
def xfl (ad : Nat → Nat) (r : Nat → Nat) (f : Nat → Int32) (g : Nat → Int64) (k : Nat) : List Value := match k with
  | 0 => [.int (f 0), .ref (ad (r 1)), .ref (ad (r 2)), .ref (ad (r 3)), .ref (ad (r 4)), .ref (ad (r 5)), .ref (ad (r 6)), .ref (ad (r 7)), .ref (ad (r 8))]
  | 1 => [.ref (ad (r 0)), .int (f 1), .int (f 2), .int (f 3), .ref (ad (r 4)), .ref (ad (r 5)), .ref (ad (r 6))]
  | 2 => [.ref (ad (r 0)), .int (f 1), .int (f 2)]
  | 3 => [.int (f 0), .ref (ad (r 1)), .int (f 2), .int (f 3), .int (f 4), .int (f 5), .int (f 6), .int (f 7), .int (f 8), .int (f 9)]
  | 4 => [.ref (ad (r 0)), .ref (ad (r 1)), .ref (ad (r 2)), .ref (ad (r 3)), .int (f 4), .int (f 5), .long (g 6), .int (f 7), .int (f 8), .int (f 9), .long (g 10)]
  | 5 => [.long (g 0), .long (g 1), .int (f 2)]
  | 6 => [.ref (ad (r 0)), .ref (ad (r 1)), .ref (ad (r 2)), .int (f 3), .int (f 4)]
  | 7 => [.ref (ad (r 0)), .ref (ad (r 1)), .long (g 2)]
  | 8 => [.ref (ad (r 0)), .int (f 1)]
  | 9 => [.ref (ad (r 0)), .ref (ad (r 1)), .ref (ad (r 2)), .ref (ad (r 3)), .ref (ad (r 4)), .int (f 5), .int (f 6), .int (f 7)]
  | 10 => [.ref (ad (r 0)), .ref (ad (r 1)), .ref (ad (r 2)), .int (f 3), .ref (ad (r 4)), .ref (ad (r 5)), .ref (ad (r 6)), .int (f 7), .ref (ad (r 8)), .ref (ad (r 9)), .int (f 10), .int (f 11), .ref (ad (r 12)), .ref (ad (r 13)), .ref (ad (r 14)), .ref (ad (r 15)), .ref (ad (r 16)), .int (f 17), .int (f 18), .int (f 19), .int (f 20), .ref (ad (r 21)), .ref (ad (r 22)), .long (g 23)]
  | _ => []
abbrev xE : Type := va_G × (ClassId × ClassId × ClassId)
abbrev xty (E : xE) : List (ClassId × FieldType) := [(E.2.1, .int), (E.2.2.1, .long), (E.2.2.2, .object "WetPrints$State")]
def xcl (E : xE) (ad : Nat → Nat) (r : Nat → Nat) (k n : Nat) (f : Nat → Int32) (g : Nat → Int64) : va_E := match k with
  | 11 => .inl (E.2.1, n, .inl f)
  | 12 => .inl (E.2.2.1, n, .inr (.inl g))
  | 13 => .inl (E.2.2.2, n, .inr (.inr (.inr (.inr (fun j => some (ad (r j)))))))
  | k => .inr (k, xfl ad r f g k)
def xw (E : xE) (ad : Nat → Nat) (μ : xM) : va_W := (List.range 120).map (fun q => (ad q, xcl E ad (rt q) (kd q) (ln q) (μ.1 q) (μ.2 q)))
theorem xw_at {E : xE} {ad : Nat → Nat} {μ : xM} {q : Nat} (hq : q < 120) : (xw E ad μ)[q]? = some (ad q, xcl E ad (rt q) (kd q) (ln q) (μ.1 q) (μ.2 q)) := by
  unfold xw
  rw [List.getElem?_map, List.getElem?_range hq]
  rfl
theorem xw_no {E : xE} {ad : Nat → Nat} {μ : xM} {q : Nat} (hq : ¬ q < 120) : (xw E ad μ)[q]? = none := by
  unfold xw
  rw [List.getElem?_map, List.getElem?_eq_none (by rw [List.length_range]; omega)]
  rfl
theorem xw_set {E : xE} {ad : Nat → Nat} {μ ν : xM} {q : Nat} (hq : q < 120) {x : va_E} (hx : x = xcl E ad (rt q) (kd q) (ln q) (ν.1 q) (ν.2 q)) (h1 : ∀ i, i ≠ q → ν.1 i = μ.1 i) (h2 : ∀ i, i ≠ q → ν.2 i = μ.2 i) : (xw E ad μ).set q (ad q, x) = xw E ad ν := by
  apply List.ext_getElem?
  intro i
  rw [List.getElem?_set]
  by_cases hi : q = i
  · subst hi
    rw [xw_at hq, hx]
    simp [xw, hq]
  · rw [if_neg hi]
    by_cases hl : i < 120
    · rw [xw_at hl, xw_at hl, h1 i (Ne.symm hi), h2 i (Ne.symm hi)]
    · rw [xw_no hl, xw_no hl]
theorem kd_lt {q : Nat} (h : kd q < 14) : q < 120 := by
  rcases Nat.lt_or_ge q 120 with h1 | h1
  · exact h1
  · exfalso
    have : kd q = 99 := by
      unfold kd
      rw [List.getD_eq_getElem?_getD, List.getElem?_eq_none (Nat.le_trans (Nat.le_of_ble_eq_true rfl) h1)]
      rfl
    omega
theorem kd_all {p : Nat → Prop} {K : Nat} (hK : K < 14) (h : ∀ q, q < 120 → kd q = K → p q) (q : Nat) (hq : kd q = K) : p q := h q (kd_lt (by omega)) hq
theorem xcl_o {E : xE} {ad r : Nat → Nat} {k n : Nat} {f : Nat → Int32} {g : Nat → Int64} (h : k < 11) : xcl E ad r k n f g = .inr (k, xfl ad r f g k) := by
  unfold xcl
  split
  · omega
  · omega
  · omega
  · rfl
theorem xu_s {α : Type} {f : Nat → Nat → α} {q j : Nat} {v : α} : xup f q j v q = fun k => if k = j then v else f q k := by simp [xup]
theorem xu_n {α : Type} {f : Nat → Nat → α} {q j i : Nat} {v : α} (h : i ≠ q) : xup f q j v i = f i := by simp [xup, h]
def xA (ad : Nat → Nat) (sz : Nat) : Nat → Prop := fun a => (∃ q, q < 120 ∧ a = ad q) ∨ sz ≤ a
def xH (E : xE) (ad : Nat → Nat) (A : Nat → Prop) (H0 : Heap) (μ : xM) (H : Heap) (locs : List Loc) : Prop := va_P E.1 vwCl (xw E ad μ) H ∧ va_D A (xw E ad μ) ∧ va_S A H0 H locs
/-- the one nest mate's word that is needed: Cells.moved calls WetPrints.within -/
def xN (U : State) : Prop := va_Nw (.methodLinkNest RX1 28 yX11_within "WetPrints") U
def xPre (E : xE) (ad : Nat → Nat) (sz : Nat) (μ : xM) (U : State) : Prop := U.heap.size = sz ∧ va_P E.1 vwCl (xw E ad μ) U.heap ∧ va_K E.1 vwCl (xty E) U ∧ va_D (fun _ => True) (xw E ad μ) ∧ xN U
def xPost (E : xE) (ad : Nat → Nat) (sz : Nat) (μ : xM) (t : State) : Prop := va_P E.1 vwCl (xw E ad μ) t.heap ∧ va_D (xA ad sz) (xw E ad μ)
def xG (E : xE) (p : Program) (s : State) (m : MethodId) (args : Array Value) (meth : Method) (c : Code) (cc : ByteArray) (nL : Nat) (own : String) : Prop :=
  p.tables.exec = Jvm.exec ∧ c.code = cc ∧ c.maxLocals = nL ∧ s.vm.findClass own = some m.cls ∧ (∀ w ∈ wsL_law, w.before args s = true) ∧ va_K E.1 vwCl (xty E) s ∧ xN s ∧ meth.locks = false
/-- contracts: any start with the memory μ; the answer and the memory behind it as Q says; nothing made, nothing else changed -/
def xMi (l : Launch) (y : MethodName) (ws : List Cond) (rm : Room) (E : xE) (ad : Nat → Nat) (μ : xM) (av : List Value) (Qm : Int32 → xM → Prop) : Prop := ∀ sz : Nat, Met l y ws rm (va_Pc av (xPre E ad sz μ)) (va_Qi Qm (xPost E ad sz) (xA ad sz)) 0 0 (xA ad sz)
def xMl (l : Launch) (y : MethodName) (ws : List Cond) (rm : Room) (E : xE) (ad : Nat → Nat) (μ : xM) (av : List Value) (Qm : Int64 → xM → Prop) : Prop := ∀ sz : Nat, Met l y ws rm (va_Pc av (xPre E ad sz μ)) (va_Ql Qm (xPost E ad sz) (xA ad sz)) 0 0 (xA ad sz)
def xMv (l : Launch) (y : MethodName) (ws : List Cond) (rm : Room) (E : xE) (ad : Nat → Nat) (μ : xM) (av : List Value) (Qm : xM → Prop) : Prop := ∀ sz : Nat, Met l y ws rm (va_Pc av (xPre E ad sz μ)) (va_Qv Qm (xPost E ad sz) (xA ad sz)) 0 0 (xA ad sz)
/-- an answer that is null or a cell, by its number -/
def xQq (ad : Nat → Nat) (Qm : Option Nat → xM → Prop) : Option Nat → xM → Prop := fun a μ => ∃ o : Option Nat, a = o.map ad ∧ Qm o μ
def xMq (l : Launch) (y : MethodName) (ws : List Cond) (rm : Room) (E : xE) (ad : Nat → Nat) (μ : xM) (av : List Value) (Qm : Option Nat → xM → Prop) : Prop := ∀ sz : Nat, Met l y ws rm (va_Pc av (xPre E ad sz μ)) (va_Qq (xQq ad Qm) (xPost E ad sz) (xA ad sz)) 0 0 (xA ad sz)
theorem xPre_blind {E : xE} {ad : Nat → Nat} {sz : Nat} {μ : xM} {av : List Value} : FrameBlind (va_Pc av (xPre E ad sz μ)) := by
  intro a U g mk q
  obtain ⟨q0, q1, qP, qK, qD, qN⟩ := q
  exact ⟨q0, q1, qP, va_K.moved (u := U) (U := U.calling g mk a) (Vm.Alike.refl U.vm) qK, qD, va_Nw.same (u := U) (U := U.calling g mk a) rfl rfl qN⟩
theorem xA_of {E : xE} {ad : Nat → Nat} {A : Nat → Prop} {H0 H : Heap} {μ : xM} {locs : List Loc} (hH : xH E ad A H0 μ H locs) (hA : ∀ a, H0.size ≤ a → A a) (a : Nat) (h : xA ad H.size a) : A a := by
  rcases h with ⟨q, hq, rfl⟩ | h
  · exact hH.2.1.2 q _ (xw_at hq)
  · exact hA a (Nat.le_trans hH.2.2.1 h)
theorem xD_self {E : xE} {ad : Nat → Nat} {A : Nat → Prop} {μ : xM} {sz : Nat} (h : va_D A (xw E ad μ)) : va_D (xA ad sz) (xw E ad μ) := by
  refine ⟨h.1, fun k q hk => ?_⟩
  by_cases hl : k < 120
  · rw [xw_at hl] at hk
    cases hk
    exact Or.inl ⟨k, hl, rfl⟩
  · rw [xw_no hl] at hk
    cases hk
section XR
variable {E : xE} {ad : Nat → Nat} {A : Nat → Prop} {H0 : Heap} {μ : xM}
variable {p : Program} {l : Launch} {e : Env} {R : Room} {s : State} {m : MethodId} {args : Array Value} {below : List Frame} {meth : Method} {c : Code} {H : Heap} {locs : List Loc} {cells slots : Nat} {Q : State → Prop}
variable {cc : ByteArray} {nL : Nat} {own : String} {pc : Nat} {ls : Array Slot} {rest st0 : List Value}
/-- getfield -/
theorem x_get (G : xG E p s m args meth c cc nL own) (hH : xH E ad A H0 μ H locs) {q K j index N : Nat} {C : String} {T : u_T} {v : Value} (hk : kd q = K) (hK : K < 11) (hcl : vwCl[K]? = some (C, T, N)) (hin : ∀ w ∈ u_ws C T N, w ∈ wsL_law) (hj : j < N) (hlink : (Cond.fieldLink own index (T j).1 (T j).2.1 (T j).2.2.1) ∈ wsL_law) (hv : (xfl ad (rt q) (μ.1 q) (μ.2 q) K)[j]? = some v) (hdg : decode cc pc = .ok (.getfield index, 3))
    (kk : W p l e R s m args below meth c H locs cells slots Q (F0 m (pc + 3) ls (v :: rest))) : W p l e R s m args below meth c H locs cells slots Q (F0 m pc ls (.ref (ad q) :: rest)) := by
  obtain ⟨hx, hb, hml, hown, hts, hKn, hN, hlk⟩ := G
  subst hk
  exact va_get hx hb hts hin hown hKn hH.1 q (by rw [xw_at (kd_lt (by omega)), xcl_o hK]) hcl j hj (hts _ hlink) (fun _ h => h) hv hdg kk
/-- putfield of an int (of a boolean: hn) -/
theorem x_puti (G : xG E p s m args meth c cc nL own) (hH : xH E ad A H0 μ H locs) {q K j index N : Nat} {C : String} {T : u_T} {ty : FieldType} {v : Int32} (hk : kd q = K) (hK : K < 11) (hcl : vwCl[K]? = some (C, T, N)) (hin : ∀ w ∈ u_ws C T N, w ∈ wsL_law) (ty0 : Nat → FieldType) (hty : ∀ k, k < N → parseFieldDescriptor (T k).2.2.1 = some (ty0 k)) (hnm : ∀ a, a < N → ∀ b, b < N → a ≠ b → (T a).2.1 ≠ (T b).2.1) (hj : j < N) (hlink : (Cond.fieldLink own index (T j).1 (T j).2.1 (T j).2.2.1) ∈ wsL_law) (hfin : (T j).2.2.2 = false) (hd : parseFieldDescriptor (T j).2.2.1 = some ty) (hn : narrow ty (.int v) = .int v) (hfit : fits ty (.int v) = true) (hlen : ∀ (f : Nat → Int32) (g : Nat → Int64), j < (xfl ad (rt q) f g K).length) (hset : ∀ (f : Nat → Int32) (g : Nat → Int64), (xfl ad (rt q) f g K).set j (.int v) = xfl ad (rt q) (fun k => if k = j then v else f k) g K)
    (hdg : decode cc pc = .ok (.putfield index, 3)) (kk : ∀ (ν : xM), ν = xi μ q j v → ∀ (H1 : Heap) (locs1 : List Loc), xH E ad A H0 ν H1 locs1 → W p l e R s m args below meth c H1 locs1 cells slots Q (F0 m (pc + 3) ls rest)) : W p l e R s m args below meth c H locs cells slots Q (F0 m pc ls (.int v :: .ref (ad q) :: rest)) := by
  obtain ⟨hx, hb, hml, hown, hts, hKn, hN, hlk⟩ := G
  subst hk
  have hq : q < 120 := kd_lt (by omega)
  have hs : (xw E ad μ).set q (ad q, .inr (kd q, (xfl ad (rt q) (μ.1 q) (μ.2 q) (kd q)).set j (.int v))) = xw E ad (xi μ q j v) :=
    xw_set hq (by rw [xcl_o hK, hset]; simp only [xi, xu_s]) (fun i hi => by simp only [xi, xu_n hi]) (fun i hi => rfl)
  refine va_put hx hb hts hin ty0 hty hnm hown hKn hH.1 hH.2.1 hH.2.2 q (by rw [xw_at hq, xcl_o hK]) hcl j hj (hts _ hlink) (fun _ h => h) hfin hd hn hfit (hlen _ _) hdg (fun H1 locs1 hP hD hS => ?_)
  rw [hs] at hP hD
  exact kk _ rfl H1 locs1 ⟨hP, hD, hS⟩
/-- putfield of a long -/
theorem x_putl (G : xG E p s m args meth c cc nL own) (hH : xH E ad A H0 μ H locs) {q K j index N : Nat} {C : String} {T : u_T} {v : Int64} (hk : kd q = K) (hK : K < 11) (hcl : vwCl[K]? = some (C, T, N)) (hin : ∀ w ∈ u_ws C T N, w ∈ wsL_law) (ty0 : Nat → FieldType) (hty : ∀ k, k < N → parseFieldDescriptor (T k).2.2.1 = some (ty0 k)) (hnm : ∀ a, a < N → ∀ b, b < N → a ≠ b → (T a).2.1 ≠ (T b).2.1) (hj : j < N) (hlink : (Cond.fieldLink own index (T j).1 (T j).2.1 (T j).2.2.1) ∈ wsL_law) (hfin : (T j).2.2.2 = false) (hd : parseFieldDescriptor (T j).2.2.1 = some .long) (hlen : ∀ (f : Nat → Int32) (g : Nat → Int64), j < (xfl ad (rt q) f g K).length) (hset : ∀ (f : Nat → Int32) (g : Nat → Int64), (xfl ad (rt q) f g K).set j (.long v) = xfl ad (rt q) f (fun k => if k = j then v else g k) K)
    (hdg : decode cc pc = .ok (.putfield index, 3)) (kk : ∀ (ν : xM), ν = xl μ q j v → ∀ (H1 : Heap) (locs1 : List Loc), xH E ad A H0 ν H1 locs1 → W p l e R s m args below meth c H1 locs1 cells slots Q (F0 m (pc + 3) ls rest)) : W p l e R s m args below meth c H locs cells slots Q (F0 m pc ls (.long v :: .ref (ad q) :: rest)) := by
  obtain ⟨hx, hb, hml, hown, hts, hKn, hN, hlk⟩ := G
  subst hk
  have hq : q < 120 := kd_lt (by omega)
  have hs : (xw E ad μ).set q (ad q, .inr (kd q, (xfl ad (rt q) (μ.1 q) (μ.2 q) (kd q)).set j (.long v))) = xw E ad (xl μ q j v) :=
    xw_set hq (by rw [xcl_o hK, hset]; simp only [xl, xu_s]) (fun i hi => rfl) (fun i hi => by simp only [xl, xu_n hi])
  refine va_put hx hb hts hin ty0 hty hnm hown hKn hH.1 hH.2.1 hH.2.2 q (by rw [xw_at hq, xcl_o hK]) hcl j hj (hts _ hlink) (fun _ h => h) hfin hd rfl rfl (hlen _ _) hdg (fun H1 locs1 hP hD hS => ?_)
  rw [hs] at hP hD
  exact kk _ rfl H1 locs1 ⟨hP, hD, hS⟩
theorem xa_i {q : Nat} (hk : kd q = 11) : (xw E ad μ)[q]? = some (ad q, .inl (E.2.1, ln q, .inl (μ.1 q))) := by
  rw [xw_at (kd_lt (by omega)), hk]
  rfl
theorem xa_l {q : Nat} (hk : kd q = 12) : (xw E ad μ)[q]? = some (ad q, .inl (E.2.2.1, ln q, .inr (.inl (μ.2 q)))) := by
  rw [xw_at (kd_lt (by omega)), hk]
  rfl
theorem xa_q {q : Nat} (hk : kd q = 13) : (xw E ad μ)[q]? = some (ad q, .inl (E.2.2.2, ln q, .inr (.inr (.inr (.inr (fun j => some (ad (rt q j)))))))) := by
  rw [xw_at (kd_lt (by omega)), hk]
  rfl
theorem x_iald (G : xG E p s m args meth c cc nL own) (hH : xH E ad A H0 μ H locs) {q : Nat} (hk : kd q = 11) {i : Int32} (hin : vp_in i (ln q)) (hdg : decode cc pc = .ok (.iaload, 1))
    (kk : W p l e R s m args below meth c H locs cells slots Q (F0 m (pc + 1) ls (.int (μ.1 q i.toNatClampNeg) :: rest))) : W p l e R s m args below meth c H locs cells slots Q (F0 m pc ls (.int i :: .ref (ad q) :: rest)) := va_iald G.1 G.2.1 G.2.2.2.2.2.1 hH.1 q 0 (xa_i hk) rfl hin hdg kk
theorem x_lald (G : xG E p s m args meth c cc nL own) (hH : xH E ad A H0 μ H locs) {q : Nat} (hk : kd q = 12) {i : Int32} (hin : vp_in i (ln q)) (hdg : decode cc pc = .ok (.laload, 1))
    (kk : W p l e R s m args below meth c H locs cells slots Q (F0 m (pc + 1) ls (.long (μ.2 q i.toNatClampNeg) :: rest))) : W p l e R s m args below meth c H locs cells slots Q (F0 m pc ls (.int i :: .ref (ad q) :: rest)) := va_lald G.1 G.2.1 G.2.2.2.2.2.1 hH.1 q 1 (xa_l hk) rfl hin hdg kk
theorem x_alen (G : xG E p s m args meth c cc nL own) (hH : xH E ad A H0 μ H locs) {q : Nat} (hk : kd q = 11) {v : Int32} (hv : Int32.ofNat (ln q) = v) (hdg : decode cc pc = .ok (.arraylength, 1))
    (kk : W p l e R s m args below meth c H locs cells slots Q (F0 m (pc + 1) ls (.int v :: rest))) : W p l e R s m args below meth c H locs cells slots Q (F0 m pc ls (.ref (ad q) :: rest)) := va_alen G.1 G.2.1 G.2.2.2.2.2.1 hH.1 q 0 (xa_i hk) rfl hv hdg kk
theorem x_alenq (G : xG E p s m args meth c cc nL own) (hH : xH E ad A H0 μ H locs) {q : Nat} (hk : kd q = 13) {v : Int32} (hv : Int32.ofNat (ln q) = v) (hdg : decode cc pc = .ok (.arraylength, 1))
    (kk : W p l e R s m args below meth c H locs cells slots Q (F0 m (pc + 1) ls (.int v :: rest))) : W p l e R s m args below meth c H locs cells slots Q (F0 m pc ls (.ref (ad q) :: rest)) := va_alen G.1 G.2.1 G.2.2.2.2.2.1 hH.1 q 2 (xa_q hk) rfl hv hdg kk
theorem x_aald (G : xG E p s m args meth c cc nL own) (hH : xH E ad A H0 μ H locs) {q : Nat} (hk : kd q = 13) {i : Int32} (hin : vp_in i (ln q)) (hdg : decode cc pc = .ok (.aaload, 1))
    (kk : W p l e R s m args below meth c H locs cells slots Q (F0 m (pc + 1) ls (.ref (ad (rt q i.toNatClampNeg)) :: rest))) : W p l e R s m args below meth c H locs cells slots Q (F0 m pc ls (.int i :: .ref (ad q) :: rest)) := va_aldq G.1 G.2.1 G.2.2.2.2.2.1 hH.1 q 2 (xa_q hk) rfl hin hdg kk
theorem x_iast (G : xG E p s m args meth c cc nL own) (hH : xH E ad A H0 μ H locs) {q : Nat} (hk : kd q = 11) {i v : Int32} (hin : vp_in i (ln q)) (hdg : decode cc pc = .ok (.iastore, 1))
    (kk : ∀ (ν : xM), ν = xi μ q i.toNatClampNeg v → ∀ (H1 : Heap) (locs1 : List Loc), xH E ad A H0 ν H1 locs1 → W p l e R s m args below meth c H1 locs1 cells slots Q (F0 m (pc + 1) ls rest)) : W p l e R s m args below meth c H locs cells slots Q (F0 m pc ls (.int v :: .int i :: .ref (ad q) :: rest)) := by
  have hs : (xw E ad μ).set q (ad q, .inl (E.2.1, ln q, .inl (upd (μ.1 q) i.toNatClampNeg v))) = xw E ad (xi μ q i.toNatClampNeg v) :=
    xw_set (kd_lt (by omega)) (by rw [hk]; simp only [xi, xu_s]; rfl) (fun i hi => by simp only [xi, xu_n hi]) (fun i hi => rfl)
  refine va_iast G.1 G.2.1 G.2.2.2.2.2.1 hH.1 hH.2.1 hH.2.2 q 0 (xa_i hk) rfl hin hdg (fun H1 locs1 hP hD hS => ?_)
  rw [hs] at hP hD
  exact kk _ rfl H1 locs1 ⟨hP, hD, hS⟩
theorem x_last (G : xG E p s m args meth c cc nL own) (hH : xH E ad A H0 μ H locs) {q : Nat} (hk : kd q = 12) {i : Int32} {v : Int64} (hin : vp_in i (ln q)) (hdg : decode cc pc = .ok (.lastore, 1))
    (kk : ∀ (ν : xM), ν = xl μ q i.toNatClampNeg v → ∀ (H1 : Heap) (locs1 : List Loc), xH E ad A H0 ν H1 locs1 → W p l e R s m args below meth c H1 locs1 cells slots Q (F0 m (pc + 1) ls rest)) : W p l e R s m args below meth c H locs cells slots Q (F0 m pc ls (.long v :: .int i :: .ref (ad q) :: rest)) := by
  have hs : (xw E ad μ).set q (ad q, .inl (E.2.2.1, ln q, .inr (.inl (vp_updL (μ.2 q) i.toNatClampNeg v)))) = xw E ad (xl μ q i.toNatClampNeg v) :=
    xw_set (kd_lt (by omega)) (by rw [hk]; simp only [xl, xu_s]; rfl) (fun i hi => rfl) (fun i hi => by simp only [xl, xu_n hi])
  refine va_last G.1 G.2.1 G.2.2.2.2.2.1 hH.1 hH.2.1 hH.2.2 q 1 (xa_l hk) rfl hin hdg (fun H1 locs1 hP hD hS => ?_)
  rw [hs] at hP hD
  exact kk _ rfl H1 locs1 ⟨hP, hD, hS⟩

theorem x_cVi (G : xG E p s m args meth c cc nL own) (hH : xH E ad A H0 μ H locs) (hA : ∀ a, H0.size ≤ a → A a) {q K N : Nat} {C : String} {T : u_T} {y : MethodName} {bytes : ByteArray} {maxL n index : Nat} {ret : Option FieldType} {rm : Room} {As : List Value} {Qm : Int32 → xM → Prop} (hM : xMi l y (Cond.code y bytes maxL ret :: wsL_law) rm E ad μ (.ref (ad q) :: As) Qm) (hl : .methodLink own index y ∈ wsL_law) (hi : .instanceMethod y ∈ wsL_law) (hse : .selects C y y ∈ wsL_law) (hini : .initialized C ∈ wsL_law) (hco : Cond.code y bytes maxL ret ∈ wsL_law) (hcy : y.cls = C) (hd : y.cls ≠ "java/lang/invoke/MethodHandle" ∧ y.cls ≠ "java/lang/invoke/VarHandle" ∧ (parseMethodDescriptor y.desc).map (fun d => d.parameters.length) = some n) (hRm : rm.cells = 0 ∧ rm.slots = 0 ∧ rm.frames + 1 ≤ R.frames ∧ 8 + (maxL + 11) + rm.locals ≤ R.locals) (hk : kd q = K) (hK : K < 11) (hcl : vwCl[K]? = some (C, T, N)) (hn : As.length = n) (hsz : ls.size = nL) (hst : st0 = As.reverse ++ .ref (ad q) :: rest) (hW : (rest.map fun v => v.category).sum ≤ 8) (hdg : decode cc pc = .ok (.invokevirtual index, 3)) (hf : cells ≤ R.cells ∧ slots ≤ R.slots)
    (kk : ∀ (r : Int32) (ν : xM), Qm r ν → ∀ (H1 : Heap) (locs1 : List Loc), xH E ad A H0 ν H1 locs1 → W p l e R s m args below meth c H1 locs1 cells slots Q (F0 m (pc + 3) ls (.int r :: rest))) : W p l e R s m args below meth c H locs cells slots Q (F0 m pc ls st0) := by
  obtain ⟨hx, hb, hml, hown, hts, hKn, hN, hlk⟩ := G
  refine va_calli (va_runV (b := ad q) (As := As) (rest := rest) ⟨hx, hb, hml, hown, hts⟩ (hM H.size) (cwV n hts (xg_V hl hi hse hini hco) rfl hRm.1 hRm.2.1 ⟨hcy, hd⟩ hRm.2.2) ⟨xPre_blind, va_recv hKn hH.1 (ci := K) (q0 := q) hcl (by subst hk; rw [xw_at (kd_lt (by omega)), xcl_o hK]), fun U hU hW => ⟨rfl, by rw [hU], by rw [hU]; exact hH.1, va_K.moved hW.alike hKn, hH.2.1.weaken (fun _ _ _ _ => trivial), va_Nw.warmM hW hN⟩⟩ rfl hn hsz hst (lv_room hW) hdg hf) hH.2.2 (fun a _ h => xA_of hH hA a h) (fun a h => xA_of hH hA a h) (fun r ν t H1 locs1 ht hvm hw hB hz1 hk1 hS => ?_)
  exact kk r ν hw H1 locs1 ⟨ht ▸ hB.1, hB.2.weaken (fun _ x _ h => xA_of hH hA x.1 h), hS⟩
theorem x_cSi (G : xG E p s m args meth c cc nL own) (hH : xH E ad A H0 μ H locs) (hA : ∀ a, H0.size ≤ a → A a) {y : MethodName} {bytes : ByteArray} {maxL n index : Nat} {ret : Option FieldType} {rm : Room} {As : List Value} {Qm : Int32 → xM → Prop} (hM : xMi l y (Cond.code y bytes maxL ret :: wsL_law) rm E ad μ As Qm) (hl : .methodLink own index y ∈ wsL_law) (hst0 : .static y ∈ wsL_law) (hini : .initialized y.cls ∈ wsL_law) (hco : Cond.code y bytes maxL ret ∈ wsL_law) (hd : y.cls ≠ "java/lang/invoke/MethodHandle" ∧ y.cls ≠ "java/lang/invoke/VarHandle" ∧ (parseMethodDescriptor y.desc).map (fun d => d.parameters.length) = some n) (hRm : rm.cells = 0 ∧ rm.slots = 0 ∧ rm.frames + 1 ≤ R.frames ∧ 8 + (maxL + 11) + rm.locals ≤ R.locals) (hn : As.length = n) (hsz : ls.size = nL) (hst : st0 = As.reverse ++ rest) (hW : (rest.map fun v => v.category).sum ≤ 8) (hdg : decode cc pc = .ok (.invokestatic index, 3)) (hf : cells ≤ R.cells ∧ slots ≤ R.slots)
    (kk : ∀ (r : Int32) (ν : xM), Qm r ν → ∀ (H1 : Heap) (locs1 : List Loc), xH E ad A H0 ν H1 locs1 → W p l e R s m args below meth c H1 locs1 cells slots Q (F0 m (pc + 3) ls (.int r :: rest))) : W p l e R s m args below meth c H locs cells slots Q (F0 m pc ls st0) := by
  obtain ⟨hx, hb, hml, hown, hts, hKn, hN, hlk⟩ := G
  refine va_calli (va_runS (As := As) (rest := rest) ⟨hx, hb, hml, hown, hts⟩ (hM H.size) (va_cwS n hts (xg_S hl hst0 hini hco) rfl hRm.1 hRm.2.1 hd hRm.2.2) ⟨xPre_blind, fun U hU hW => ⟨rfl, by rw [hU], by rw [hU]; exact hH.1, va_K.moved hW.alike hKn, hH.2.1.weaken (fun _ _ _ _ => trivial), va_Nw.warmM hW hN⟩⟩ rfl hn hsz hst (lv_room hW) hdg hf) hH.2.2 (fun a _ h => xA_of hH hA a h) (fun a h => xA_of hH hA a h) (fun r ν t H1 locs1 ht hvm hw hB hz1 hk1 hS => ?_)
  exact kk r ν hw H1 locs1 ⟨ht ▸ hB.1, hB.2.weaken (fun _ x _ h => xA_of hH hA x.1 h), hS⟩
theorem x_cNi (G : xG E p s m args meth c cc nL own) (hH : xH E ad A H0 μ H locs) (hA : ∀ a, H0.size ≤ a → A a) {host : String} {y : MethodName} {bytes : ByteArray} {maxL n index : Nat} {ret : Option FieldType} {rm : Room} {As : List Value} {Qm : Int32 → xM → Prop} (hM : xMi l y (Cond.code y bytes maxL ret :: wsL_law) rm E ad μ As Qm) (hl : va_Nw (.methodLinkNest own index y host) s) (hst0 : .static y ∈ wsL_law) (hini : .initialized y.cls ∈ wsL_law) (hco : Cond.code y bytes maxL ret ∈ wsL_law) (hd : y.cls ≠ "java/lang/invoke/MethodHandle" ∧ y.cls ≠ "java/lang/invoke/VarHandle" ∧ (parseMethodDescriptor y.desc).map (fun d => d.parameters.length) = some n) (hRm : rm.cells = 0 ∧ rm.slots = 0 ∧ rm.frames + 1 ≤ R.frames ∧ 8 + (maxL + 11) + rm.locals ≤ R.locals) (hn : As.length = n) (hsz : ls.size = nL) (hst : st0 = As.reverse ++ rest) (hW : (rest.map fun v => v.category).sum ≤ 8) (hdg : decode cc pc = .ok (.invokestatic index, 3)) (hf : cells ≤ R.cells ∧ slots ≤ R.slots)
    (kk : ∀ (r : Int32) (ν : xM), Qm r ν → ∀ (H1 : Heap) (locs1 : List Loc), xH E ad A H0 ν H1 locs1 → W p l e R s m args below meth c H1 locs1 cells slots Q (F0 m (pc + 3) ls (.int r :: rest))) : W p l e R s m args below meth c H locs cells slots Q (F0 m pc ls st0) := by
  obtain ⟨hx, hb, hml, hown, hts, hKn, hN, hlk⟩ := G
  refine va_calli (va_runSN (As := As) (rest := rest) ⟨hx, hb, hml, hown, hts⟩ (hM H.size) ⟨va_cnB n hts (xg_C hco) rfl hRm.1 hRm.2.1 hl (hts _ hini) hd hRm.2.2, hts _ hst0, trivial⟩ ⟨xPre_blind, fun U hU hW => ⟨rfl, by rw [hU], by rw [hU]; exact hH.1, va_K.moved hW.alike hKn, hH.2.1.weaken (fun _ _ _ _ => trivial), va_Nw.warmM hW hN⟩⟩ rfl hn hsz hst (lv_room hW) hdg hf) hH.2.2 (fun a _ h => xA_of hH hA a h) (fun a h => xA_of hH hA a h) (fun r ν t H1 locs1 ht hvm hw hB hz1 hk1 hS => ?_)
  exact kk r ν hw H1 locs1 ⟨ht ▸ hB.1, hB.2.weaken (fun _ x _ h => xA_of hH hA x.1 h), hS⟩
theorem x_cVl (G : xG E p s m args meth c cc nL own) (hH : xH E ad A H0 μ H locs) (hA : ∀ a, H0.size ≤ a → A a) {q K N : Nat} {C : String} {T : u_T} {y : MethodName} {bytes : ByteArray} {maxL n index : Nat} {ret : Option FieldType} {rm : Room} {As : List Value} {Qm : Int64 → xM → Prop} (hM : xMl l y (Cond.code y bytes maxL ret :: wsL_law) rm E ad μ (.ref (ad q) :: As) Qm) (hl : .methodLink own index y ∈ wsL_law) (hi : .instanceMethod y ∈ wsL_law) (hse : .selects C y y ∈ wsL_law) (hini : .initialized C ∈ wsL_law) (hco : Cond.code y bytes maxL ret ∈ wsL_law) (hcy : y.cls = C) (hd : y.cls ≠ "java/lang/invoke/MethodHandle" ∧ y.cls ≠ "java/lang/invoke/VarHandle" ∧ (parseMethodDescriptor y.desc).map (fun d => d.parameters.length) = some n) (hRm : rm.cells = 0 ∧ rm.slots = 0 ∧ rm.frames + 1 ≤ R.frames ∧ 8 + (maxL + 11) + rm.locals ≤ R.locals) (hk : kd q = K) (hK : K < 11) (hcl : vwCl[K]? = some (C, T, N)) (hn : As.length = n) (hsz : ls.size = nL) (hst : st0 = As.reverse ++ .ref (ad q) :: rest) (hW : (rest.map fun v => v.category).sum ≤ 8) (hdg : decode cc pc = .ok (.invokevirtual index, 3)) (hf : cells ≤ R.cells ∧ slots ≤ R.slots)
    (kk : ∀ (r : Int64) (ν : xM), Qm r ν → ∀ (H1 : Heap) (locs1 : List Loc), xH E ad A H0 ν H1 locs1 → W p l e R s m args below meth c H1 locs1 cells slots Q (F0 m (pc + 3) ls (.long r :: rest))) : W p l e R s m args below meth c H locs cells slots Q (F0 m pc ls st0) := by
  obtain ⟨hx, hb, hml, hown, hts, hKn, hN, hlk⟩ := G
  refine va_calll (va_runV (b := ad q) (As := As) (rest := rest) ⟨hx, hb, hml, hown, hts⟩ (hM H.size) (cwV n hts (xg_V hl hi hse hini hco) rfl hRm.1 hRm.2.1 ⟨hcy, hd⟩ hRm.2.2) ⟨xPre_blind, va_recv hKn hH.1 (ci := K) (q0 := q) hcl (by subst hk; rw [xw_at (kd_lt (by omega)), xcl_o hK]), fun U hU hW => ⟨rfl, by rw [hU], by rw [hU]; exact hH.1, va_K.moved hW.alike hKn, hH.2.1.weaken (fun _ _ _ _ => trivial), va_Nw.warmM hW hN⟩⟩ rfl hn hsz hst (lv_room hW) hdg hf) hH.2.2 (fun a _ h => xA_of hH hA a h) (fun a h => xA_of hH hA a h) (fun r ν t H1 locs1 ht hvm hw hB hz1 hk1 hS => ?_)
  exact kk r ν hw H1 locs1 ⟨ht ▸ hB.1, hB.2.weaken (fun _ x _ h => xA_of hH hA x.1 h), hS⟩
theorem x_cSl (G : xG E p s m args meth c cc nL own) (hH : xH E ad A H0 μ H locs) (hA : ∀ a, H0.size ≤ a → A a) {y : MethodName} {bytes : ByteArray} {maxL n index : Nat} {ret : Option FieldType} {rm : Room} {As : List Value} {Qm : Int64 → xM → Prop} (hM : xMl l y (Cond.code y bytes maxL ret :: wsL_law) rm E ad μ As Qm) (hl : .methodLink own index y ∈ wsL_law) (hst0 : .static y ∈ wsL_law) (hini : .initialized y.cls ∈ wsL_law) (hco : Cond.code y bytes maxL ret ∈ wsL_law) (hd : y.cls ≠ "java/lang/invoke/MethodHandle" ∧ y.cls ≠ "java/lang/invoke/VarHandle" ∧ (parseMethodDescriptor y.desc).map (fun d => d.parameters.length) = some n) (hRm : rm.cells = 0 ∧ rm.slots = 0 ∧ rm.frames + 1 ≤ R.frames ∧ 8 + (maxL + 11) + rm.locals ≤ R.locals) (hn : As.length = n) (hsz : ls.size = nL) (hst : st0 = As.reverse ++ rest) (hW : (rest.map fun v => v.category).sum ≤ 8) (hdg : decode cc pc = .ok (.invokestatic index, 3)) (hf : cells ≤ R.cells ∧ slots ≤ R.slots)
    (kk : ∀ (r : Int64) (ν : xM), Qm r ν → ∀ (H1 : Heap) (locs1 : List Loc), xH E ad A H0 ν H1 locs1 → W p l e R s m args below meth c H1 locs1 cells slots Q (F0 m (pc + 3) ls (.long r :: rest))) : W p l e R s m args below meth c H locs cells slots Q (F0 m pc ls st0) := by
  obtain ⟨hx, hb, hml, hown, hts, hKn, hN, hlk⟩ := G
  refine va_calll (va_runS (As := As) (rest := rest) ⟨hx, hb, hml, hown, hts⟩ (hM H.size) (va_cwS n hts (xg_S hl hst0 hini hco) rfl hRm.1 hRm.2.1 hd hRm.2.2) ⟨xPre_blind, fun U hU hW => ⟨rfl, by rw [hU], by rw [hU]; exact hH.1, va_K.moved hW.alike hKn, hH.2.1.weaken (fun _ _ _ _ => trivial), va_Nw.warmM hW hN⟩⟩ rfl hn hsz hst (lv_room hW) hdg hf) hH.2.2 (fun a _ h => xA_of hH hA a h) (fun a h => xA_of hH hA a h) (fun r ν t H1 locs1 ht hvm hw hB hz1 hk1 hS => ?_)
  exact kk r ν hw H1 locs1 ⟨ht ▸ hB.1, hB.2.weaken (fun _ x _ h => xA_of hH hA x.1 h), hS⟩
theorem x_cVv (G : xG E p s m args meth c cc nL own) (hH : xH E ad A H0 μ H locs) (hA : ∀ a, H0.size ≤ a → A a) {q K N : Nat} {C : String} {T : u_T} {y : MethodName} {bytes : ByteArray} {maxL n index : Nat} {ret : Option FieldType} {rm : Room} {As : List Value} {Qm : xM → Prop} (hM : xMv l y (Cond.code y bytes maxL ret :: wsL_law) rm E ad μ (.ref (ad q) :: As) Qm) (hl : .methodLink own index y ∈ wsL_law) (hi : .instanceMethod y ∈ wsL_law) (hse : .selects C y y ∈ wsL_law) (hini : .initialized C ∈ wsL_law) (hco : Cond.code y bytes maxL ret ∈ wsL_law) (hcy : y.cls = C) (hd : y.cls ≠ "java/lang/invoke/MethodHandle" ∧ y.cls ≠ "java/lang/invoke/VarHandle" ∧ (parseMethodDescriptor y.desc).map (fun d => d.parameters.length) = some n) (hRm : rm.cells = 0 ∧ rm.slots = 0 ∧ rm.frames + 1 ≤ R.frames ∧ 8 + (maxL + 11) + rm.locals ≤ R.locals) (hk : kd q = K) (hK : K < 11) (hcl : vwCl[K]? = some (C, T, N)) (hn : As.length = n) (hsz : ls.size = nL) (hst : st0 = As.reverse ++ .ref (ad q) :: rest) (hW : (rest.map fun v => v.category).sum ≤ 8) (hdg : decode cc pc = .ok (.invokevirtual index, 3)) (hf : cells ≤ R.cells ∧ slots ≤ R.slots)
    (kk : ∀ (ν : xM), Qm ν → ∀ (H1 : Heap) (locs1 : List Loc), xH E ad A H0 ν H1 locs1 → W p l e R s m args below meth c H1 locs1 cells slots Q (F0 m (pc + 3) ls rest)) : W p l e R s m args below meth c H locs cells slots Q (F0 m pc ls st0) := by
  obtain ⟨hx, hb, hml, hown, hts, hKn, hN, hlk⟩ := G
  refine va_callv (va_runV (b := ad q) (As := As) (rest := rest) ⟨hx, hb, hml, hown, hts⟩ (hM H.size) (cwV n hts (xg_V hl hi hse hini hco) rfl hRm.1 hRm.2.1 ⟨hcy, hd⟩ hRm.2.2) ⟨xPre_blind, va_recv hKn hH.1 (ci := K) (q0 := q) hcl (by subst hk; rw [xw_at (kd_lt (by omega)), xcl_o hK]), fun U hU hW => ⟨rfl, by rw [hU], by rw [hU]; exact hH.1, va_K.moved hW.alike hKn, hH.2.1.weaken (fun _ _ _ _ => trivial), va_Nw.warmM hW hN⟩⟩ rfl hn hsz hst (lv_room hW) hdg hf) hH.2.2 (fun a _ h => xA_of hH hA a h) (fun a h => xA_of hH hA a h) (fun ν t H1 locs1 ht hvm hw hB hz1 hk1 hS => ?_)
  exact kk ν hw H1 locs1 ⟨ht ▸ hB.1, hB.2.weaken (fun _ x _ h => xA_of hH hA x.1 h), hS⟩
theorem x_cSv (G : xG E p s m args meth c cc nL own) (hH : xH E ad A H0 μ H locs) (hA : ∀ a, H0.size ≤ a → A a) {y : MethodName} {bytes : ByteArray} {maxL n index : Nat} {ret : Option FieldType} {rm : Room} {As : List Value} {Qm : xM → Prop} (hM : xMv l y (Cond.code y bytes maxL ret :: wsL_law) rm E ad μ As Qm) (hl : .methodLink own index y ∈ wsL_law) (hst0 : .static y ∈ wsL_law) (hini : .initialized y.cls ∈ wsL_law) (hco : Cond.code y bytes maxL ret ∈ wsL_law) (hd : y.cls ≠ "java/lang/invoke/MethodHandle" ∧ y.cls ≠ "java/lang/invoke/VarHandle" ∧ (parseMethodDescriptor y.desc).map (fun d => d.parameters.length) = some n) (hRm : rm.cells = 0 ∧ rm.slots = 0 ∧ rm.frames + 1 ≤ R.frames ∧ 8 + (maxL + 11) + rm.locals ≤ R.locals) (hn : As.length = n) (hsz : ls.size = nL) (hst : st0 = As.reverse ++ rest) (hW : (rest.map fun v => v.category).sum ≤ 8) (hdg : decode cc pc = .ok (.invokestatic index, 3)) (hf : cells ≤ R.cells ∧ slots ≤ R.slots)
    (kk : ∀ (ν : xM), Qm ν → ∀ (H1 : Heap) (locs1 : List Loc), xH E ad A H0 ν H1 locs1 → W p l e R s m args below meth c H1 locs1 cells slots Q (F0 m (pc + 3) ls rest)) : W p l e R s m args below meth c H locs cells slots Q (F0 m pc ls st0) := by
  obtain ⟨hx, hb, hml, hown, hts, hKn, hN, hlk⟩ := G
  refine va_callv (va_runS (As := As) (rest := rest) ⟨hx, hb, hml, hown, hts⟩ (hM H.size) (va_cwS n hts (xg_S hl hst0 hini hco) rfl hRm.1 hRm.2.1 hd hRm.2.2) ⟨xPre_blind, fun U hU hW => ⟨rfl, by rw [hU], by rw [hU]; exact hH.1, va_K.moved hW.alike hKn, hH.2.1.weaken (fun _ _ _ _ => trivial), va_Nw.warmM hW hN⟩⟩ rfl hn hsz hst (lv_room hW) hdg hf) hH.2.2 (fun a _ h => xA_of hH hA a h) (fun a h => xA_of hH hA a h) (fun ν t H1 locs1 ht hvm hw hB hz1 hk1 hS => ?_)
  exact kk ν hw H1 locs1 ⟨ht ▸ hB.1, hB.2.weaken (fun _ x _ h => xA_of hH hA x.1 h), hS⟩
theorem x_cVq (G : xG E p s m args meth c cc nL own) (hH : xH E ad A H0 μ H locs) (hA : ∀ a, H0.size ≤ a → A a) {q K N : Nat} {C : String} {T : u_T} {y : MethodName} {bytes : ByteArray} {maxL n index : Nat} {ret : Option FieldType} {rm : Room} {As : List Value} {Qm : Option Nat → xM → Prop} (hM : xMq l y (Cond.code y bytes maxL ret :: wsL_law) rm E ad μ (.ref (ad q) :: As) Qm) (hl : .methodLink own index y ∈ wsL_law) (hi : .instanceMethod y ∈ wsL_law) (hse : .selects C y y ∈ wsL_law) (hini : .initialized C ∈ wsL_law) (hco : Cond.code y bytes maxL ret ∈ wsL_law) (hcy : y.cls = C) (hd : y.cls ≠ "java/lang/invoke/MethodHandle" ∧ y.cls ≠ "java/lang/invoke/VarHandle" ∧ (parseMethodDescriptor y.desc).map (fun d => d.parameters.length) = some n) (hRm : rm.cells = 0 ∧ rm.slots = 0 ∧ rm.frames + 1 ≤ R.frames ∧ 8 + (maxL + 11) + rm.locals ≤ R.locals) (hk : kd q = K) (hK : K < 11) (hcl : vwCl[K]? = some (C, T, N)) (hn : As.length = n) (hsz : ls.size = nL) (hst : st0 = As.reverse ++ .ref (ad q) :: rest) (hW : (rest.map fun v => v.category).sum ≤ 8) (hdg : decode cc pc = .ok (.invokevirtual index, 3)) (hf : cells ≤ R.cells ∧ slots ≤ R.slots)
    (kk : ∀ (o : Option Nat) (ν : xM), Qm o ν → ∀ (H1 : Heap) (locs1 : List Loc), xH E ad A H0 ν H1 locs1 → W p l e R s m args below meth c H1 locs1 cells slots Q (F0 m (pc + 3) ls (va_rf (o.map ad) :: rest))) : W p l e R s m args below meth c H locs cells slots Q (F0 m pc ls st0) := by
  obtain ⟨hx, hb, hml, hown, hts, hKn, hN, hlk⟩ := G
  refine va_callq (va_runV (b := ad q) (As := As) (rest := rest) ⟨hx, hb, hml, hown, hts⟩ (hM H.size) (cwV n hts (xg_V hl hi hse hini hco) rfl hRm.1 hRm.2.1 ⟨hcy, hd⟩ hRm.2.2) ⟨xPre_blind, va_recv hKn hH.1 (ci := K) (q0 := q) hcl (by subst hk; rw [xw_at (kd_lt (by omega)), xcl_o hK]), fun U hU hW => ⟨rfl, by rw [hU], by rw [hU]; exact hH.1, va_K.moved hW.alike hKn, hH.2.1.weaken (fun _ _ _ _ => trivial), va_Nw.warmM hW hN⟩⟩ rfl hn hsz hst (lv_room hW) hdg hf) hH.2.2 (fun a _ h => xA_of hH hA a h) (fun a h => xA_of hH hA a h) (fun r ν t H1 locs1 ht hvm hw hB hz1 hk1 hS => ?_)
  obtain ⟨o, rfl, hw⟩ := hw
  exact kk o ν hw H1 locs1 ⟨ht ▸ hB.1, hB.2.weaken (fun _ x _ h => xA_of hH hA x.1 h), hS⟩
theorem x_cSq (G : xG E p s m args meth c cc nL own) (hH : xH E ad A H0 μ H locs) (hA : ∀ a, H0.size ≤ a → A a) {y : MethodName} {bytes : ByteArray} {maxL n index : Nat} {ret : Option FieldType} {rm : Room} {As : List Value} {Qm : Option Nat → xM → Prop} (hM : xMq l y (Cond.code y bytes maxL ret :: wsL_law) rm E ad μ As Qm) (hl : .methodLink own index y ∈ wsL_law) (hst0 : .static y ∈ wsL_law) (hini : .initialized y.cls ∈ wsL_law) (hco : Cond.code y bytes maxL ret ∈ wsL_law) (hd : y.cls ≠ "java/lang/invoke/MethodHandle" ∧ y.cls ≠ "java/lang/invoke/VarHandle" ∧ (parseMethodDescriptor y.desc).map (fun d => d.parameters.length) = some n) (hRm : rm.cells = 0 ∧ rm.slots = 0 ∧ rm.frames + 1 ≤ R.frames ∧ 8 + (maxL + 11) + rm.locals ≤ R.locals) (hn : As.length = n) (hsz : ls.size = nL) (hst : st0 = As.reverse ++ rest) (hW : (rest.map fun v => v.category).sum ≤ 8) (hdg : decode cc pc = .ok (.invokestatic index, 3)) (hf : cells ≤ R.cells ∧ slots ≤ R.slots)
    (kk : ∀ (o : Option Nat) (ν : xM), Qm o ν → ∀ (H1 : Heap) (locs1 : List Loc), xH E ad A H0 ν H1 locs1 → W p l e R s m args below meth c H1 locs1 cells slots Q (F0 m (pc + 3) ls (va_rf (o.map ad) :: rest))) : W p l e R s m args below meth c H locs cells slots Q (F0 m pc ls st0) := by
  obtain ⟨hx, hb, hml, hown, hts, hKn, hN, hlk⟩ := G
  refine va_callq (va_runS (As := As) (rest := rest) ⟨hx, hb, hml, hown, hts⟩ (hM H.size) (va_cwS n hts (xg_S hl hst0 hini hco) rfl hRm.1 hRm.2.1 hd hRm.2.2) ⟨xPre_blind, fun U hU hW => ⟨rfl, by rw [hU], by rw [hU]; exact hH.1, va_K.moved hW.alike hKn, hH.2.1.weaken (fun _ _ _ _ => trivial), va_Nw.warmM hW hN⟩⟩ rfl hn hsz hst (lv_room hW) hdg hf) hH.2.2 (fun a _ h => xA_of hH hA a h) (fun a h => xA_of hH hA a h) (fun r ν t H1 locs1 ht hvm hw hB hz1 hk1 hS => ?_)
  obtain ⟨o, rfl, hw⟩ := hw
  exact kk o ν hw H1 locs1 ⟨ht ▸ hB.1, hB.2.weaken (fun _ x _ h => xA_of hH hA x.1 h), hS⟩
theorem x_sti {y : MethodName} {ws : List Cond} {rm : Room} {maxL : Nat} {ret : Option FieldType} {av : List Value} {Qm : Int32 → xM → Prop} (hcls : y.cls = own) (hy : plainName y.cls = true) (hw : ws = Cond.code y cc maxL ret :: wsL_law) (hlen : (lg_sl av).length ≤ maxL)
    (body : ∀ (p : Program) (e : Env) (s : State) (m : MethodId) (args : Array Value) (below : List Frame) (meth : Method) (c : Code) (ls : Array Slot), xG E p s m args meth c cc maxL own → meth.sig.returnType = ret → (∀ a, s.heap.size ≤ a → xA ad s.heap.size a) → xH E ad (xA ad s.heap.size) s.heap μ s.heap [] → lv_has ls maxL (lv_args 0 av) → W p l e (headSpec ws rm).room s m args below meth c s.heap [] 0 0 (MQ below (va_Qi Qm (xPost E ad s.heap.size) (xA ad s.heap.size)) args s 0 0 (xA ad s.heap.size)) (F0 m 0 ls [])) : xMi l y ws rm E ad μ av Qm := by
  intro sz
  refine Met.ofW (cc := cc) (maxL := maxL) (ret := ret) hy hw ?_
  intro p e s m args below meth c s₁ B hml hv
  obtain ⟨rfl, hsz, hP, hK, hD0, hN⟩ := hv
  subst hsz
  subst hcls
  have hl := lv_entry av (n := maxL) hlen
  rw [lg_entry_eq]
  exact body p e s m _ below meth c _ ⟨B.exec, B.bytes, hml, findClass_of_methodNamed B.named, fun w h => atoms_spec (ws := ws) B.pre w (by rw [hw]; exact List.mem_cons_of_mem _ h), hK, hN, B.notSynchronized⟩ B.returns (fun a h => Or.inr h) ⟨hP, xD_self hD0, va_S.rf⟩ hl
theorem x_stl {y : MethodName} {ws : List Cond} {rm : Room} {maxL : Nat} {ret : Option FieldType} {av : List Value} {Qm : Int64 → xM → Prop} (hcls : y.cls = own) (hy : plainName y.cls = true) (hw : ws = Cond.code y cc maxL ret :: wsL_law) (hlen : (lg_sl av).length ≤ maxL)
    (body : ∀ (p : Program) (e : Env) (s : State) (m : MethodId) (args : Array Value) (below : List Frame) (meth : Method) (c : Code) (ls : Array Slot), xG E p s m args meth c cc maxL own → meth.sig.returnType = ret → (∀ a, s.heap.size ≤ a → xA ad s.heap.size a) → xH E ad (xA ad s.heap.size) s.heap μ s.heap [] → lv_has ls maxL (lv_args 0 av) → W p l e (headSpec ws rm).room s m args below meth c s.heap [] 0 0 (MQ below (va_Ql Qm (xPost E ad s.heap.size) (xA ad s.heap.size)) args s 0 0 (xA ad s.heap.size)) (F0 m 0 ls [])) : xMl l y ws rm E ad μ av Qm := by
  intro sz
  refine Met.ofW (cc := cc) (maxL := maxL) (ret := ret) hy hw ?_
  intro p e s m args below meth c s₁ B hml hv
  obtain ⟨rfl, hsz, hP, hK, hD0, hN⟩ := hv
  subst hsz
  subst hcls
  have hl := lv_entry av (n := maxL) hlen
  rw [lg_entry_eq]
  exact body p e s m _ below meth c _ ⟨B.exec, B.bytes, hml, findClass_of_methodNamed B.named, fun w h => atoms_spec (ws := ws) B.pre w (by rw [hw]; exact List.mem_cons_of_mem _ h), hK, hN, B.notSynchronized⟩ B.returns (fun a h => Or.inr h) ⟨hP, xD_self hD0, va_S.rf⟩ hl
theorem x_stv {y : MethodName} {ws : List Cond} {rm : Room} {maxL : Nat} {ret : Option FieldType} {av : List Value} {Qm : xM → Prop} (hcls : y.cls = own) (hy : plainName y.cls = true) (hw : ws = Cond.code y cc maxL ret :: wsL_law) (hlen : (lg_sl av).length ≤ maxL)
    (body : ∀ (p : Program) (e : Env) (s : State) (m : MethodId) (args : Array Value) (below : List Frame) (meth : Method) (c : Code) (ls : Array Slot), xG E p s m args meth c cc maxL own → meth.sig.returnType = ret → (∀ a, s.heap.size ≤ a → xA ad s.heap.size a) → xH E ad (xA ad s.heap.size) s.heap μ s.heap [] → lv_has ls maxL (lv_args 0 av) → W p l e (headSpec ws rm).room s m args below meth c s.heap [] 0 0 (MQ below (va_Qv Qm (xPost E ad s.heap.size) (xA ad s.heap.size)) args s 0 0 (xA ad s.heap.size)) (F0 m 0 ls [])) : xMv l y ws rm E ad μ av Qm := by
  intro sz
  refine Met.ofW (cc := cc) (maxL := maxL) (ret := ret) hy hw ?_
  intro p e s m args below meth c s₁ B hml hv
  obtain ⟨rfl, hsz, hP, hK, hD0, hN⟩ := hv
  subst hsz
  subst hcls
  have hl := lv_entry av (n := maxL) hlen
  rw [lg_entry_eq]
  exact body p e s m _ below meth c _ ⟨B.exec, B.bytes, hml, findClass_of_methodNamed B.named, fun w h => atoms_spec (ws := ws) B.pre w (by rw [hw]; exact List.mem_cons_of_mem _ h), hK, hN, B.notSynchronized⟩ B.returns (fun a h => Or.inr h) ⟨hP, xD_self hD0, va_S.rf⟩ hl
theorem x_stq {y : MethodName} {ws : List Cond} {rm : Room} {maxL : Nat} {ret : Option FieldType} {av : List Value} {Qm : Option Nat → xM → Prop} (hcls : y.cls = own) (hy : plainName y.cls = true) (hw : ws = Cond.code y cc maxL ret :: wsL_law) (hlen : (lg_sl av).length ≤ maxL)
    (body : ∀ (p : Program) (e : Env) (s : State) (m : MethodId) (args : Array Value) (below : List Frame) (meth : Method) (c : Code) (ls : Array Slot), xG E p s m args meth c cc maxL own → meth.sig.returnType = ret → (∀ a, s.heap.size ≤ a → xA ad s.heap.size a) → xH E ad (xA ad s.heap.size) s.heap μ s.heap [] → lv_has ls maxL (lv_args 0 av) → W p l e (headSpec ws rm).room s m args below meth c s.heap [] 0 0 (MQ below (va_Qq (xQq ad Qm) (xPost E ad s.heap.size) (xA ad s.heap.size)) args s 0 0 (xA ad s.heap.size)) (F0 m 0 ls [])) : xMq l y ws rm E ad μ av Qm := by
  intro sz
  refine Met.ofW (cc := cc) (maxL := maxL) (ret := ret) hy hw ?_
  intro p e s m args below meth c s₁ B hml hv
  obtain ⟨rfl, hsz, hP, hK, hD0, hN⟩ := hv
  subst hsz
  subst hcls
  have hl := lv_entry av (n := maxL) hlen
  rw [lg_entry_eq]
  exact body p e s m _ below meth c _ ⟨B.exec, B.bytes, hml, findClass_of_methodNamed B.named, fun w h => atoms_spec (ws := ws) B.pre w (by rw [hw]; exact List.mem_cons_of_mem _ h), hK, hN, B.notSynchronized⟩ B.returns (fun a h => Or.inr h) ⟨hP, xD_self hD0, va_S.rf⟩ hl
theorem x_iret {Qm : Int32 → xM → Prop} {v : Int32} (G : xG E p s m args meth c cc nL own) (hr : meth.sig.returnType = some .int) (hH : xH E ad (xA ad s.heap.size) s.heap μ H locs) (hq : Qm v μ) (hdg : decode cc pc = .ok (.ireturn, 1)) : W p l e R s m args below meth c H locs cells slots (MQ below (va_Qi Qm (xPost E ad s.heap.size) (xA ad s.heap.size)) args s cells slots (xA ad s.heap.size)) (F0 m pc ls [.int v]) := by
  have hlk := G.2.2.2.2.2.2.2
  exact W.iret (v := v) G.1 G.2.1 hr (fun t ht hW => ⟨⟨v, μ, rfl, hq, by rw [ht]; exact hH.1, hH.2.1⟩, hH.2.2.F ht⟩) hH.2.2.2.2 hdg
theorem x_zret {Qm : Int32 → xM → Prop} {v : Int32} (G : xG E p s m args meth c cc nL own) (hr : meth.sig.returnType = some .boolean) (hH : xH E ad (xA ad s.heap.size) s.heap μ H locs) (hz : narrow .boolean (.int v) = .int v) (hq : Qm v μ) (hdg : decode cc pc = .ok (.ireturn, 1)) : W p l e R s m args below meth c H locs cells slots (MQ below (va_Qi Qm (xPost E ad s.heap.size) (xA ad s.heap.size)) args s cells slots (xA ad s.heap.size)) (F0 m pc ls [.int v]) := by
  have hlk := G.2.2.2.2.2.2.2
  exact W.zret (v := v) G.1 G.2.1 hr hz (fun t ht hW => ⟨⟨v, μ, rfl, hq, by rw [ht]; exact hH.1, hH.2.1⟩, hH.2.2.F ht⟩) hH.2.2.2.2 hdg
theorem x_lret {Qm : Int64 → xM → Prop} {v : Int64} (G : xG E p s m args meth c cc nL own) (hr : meth.sig.returnType = some .long) (hH : xH E ad (xA ad s.heap.size) s.heap μ H locs) (hq : Qm v μ) (hdg : decode cc pc = .ok (.lreturn, 1)) : W p l e R s m args below meth c H locs cells slots (MQ below (va_Ql Qm (xPost E ad s.heap.size) (xA ad s.heap.size)) args s cells slots (xA ad s.heap.size)) (F0 m pc ls [.long v]) := by
  have hlk := G.2.2.2.2.2.2.2
  exact W.lret (v := v) G.1 G.2.1 hr (fun t ht hW => ⟨⟨v, μ, rfl, hq, by rw [ht]; exact hH.1, hH.2.1⟩, hH.2.2.F ht⟩) hH.2.2.2.2 hdg
theorem x_vret {Qm : xM → Prop} (G : xG E p s m args meth c cc nL own) (hr : meth.sig.returnType = none) (hH : xH E ad (xA ad s.heap.size) s.heap μ H locs) (hq : Qm μ) (hdg : decode cc pc = .ok (.return_, 1)) : W p l e R s m args below meth c H locs cells slots (MQ below (va_Qv Qm (xPost E ad s.heap.size) (xA ad s.heap.size)) args s cells slots (xA ad s.heap.size)) (F0 m pc ls []) := by
  have hlk := G.2.2.2.2.2.2.2
  exact W.vret G.1 G.2.1 hr (fun t ht hW => ⟨⟨μ, rfl, hq, by rw [ht]; exact hH.1, hH.2.1⟩, hH.2.2.F ht⟩) hH.2.2.2.2 hdg
theorem x_aret {Qm : Option Nat → xM → Prop} {q : Nat} {C : String} (G : xG E p s m args meth c cc nL own) (hr : meth.sig.returnType = some (.object C)) (hH : xH E ad (xA ad s.heap.size) s.heap μ H locs) (hq : Qm (some q) μ) (hdg : decode cc pc = .ok (.areturn, 1)) : W p l e R s m args below meth c H locs cells slots (MQ below (va_Qq (xQq ad Qm) (xPost E ad s.heap.size) (xA ad s.heap.size)) args s cells slots (xA ad s.heap.size)) (F0 m pc ls [.ref (ad q)]) := by
  have hlk := G.2.2.2.2.2.2.2
  exact W.aret G.1 G.2.1 hr (Or.inl ⟨C, rfl⟩) (Or.inr ⟨_, rfl⟩) (fun t ht hW => ⟨⟨some (ad q), μ, rfl, ⟨some q, rfl, hq⟩, by rw [ht]; exact hH.1, hH.2.1⟩, hH.2.2.F ht⟩) hH.2.2.2.2 hdg
theorem x_nret {Qm : Option Nat → xM → Prop} {C : String} (G : xG E p s m args meth c cc nL own) (hr : meth.sig.returnType = some (.object C)) (hH : xH E ad (xA ad s.heap.size) s.heap μ H locs) (hq : Qm none μ) (hdg : decode cc pc = .ok (.areturn, 1)) : W p l e R s m args below meth c H locs cells slots (MQ below (va_Qq (xQq ad Qm) (xPost E ad s.heap.size) (xA ad s.heap.size)) args s cells slots (xA ad s.heap.size)) (F0 m pc ls [.null]) := by
  have hlk := G.2.2.2.2.2.2.2
  exact W.aret G.1 G.2.1 hr (Or.inl ⟨C, rfl⟩) (Or.inl rfl) (fun t ht hW => ⟨⟨none, μ, rfl, ⟨none, rfl, hq⟩, by rw [ht]; exact hH.1, hH.2.1⟩, hH.2.2.F ht⟩) hH.2.2.2.2 hdg
end XR
/-- 0 or 1, as a boolean answer must be -/
theorem xz_0 : narrow .boolean (.int 0) = .int 0 := rfl
theorem xz_1 : narrow .boolean (.int 1) = .int 1 := rfl
theorem kt_0_1 : ∀ q, kd q = 0 → kd (rt q 1) = 11 := kd_all (by decide) (by decide +kernel)
theorem kt_0_2 : ∀ q, kd q = 0 → kd (rt q 2) = 11 := kd_all (by decide) (by decide +kernel)
theorem kt_0_3 : ∀ q, kd q = 0 → kd (rt q 3) = 11 := kd_all (by decide) (by decide +kernel)
theorem kt_0_4 : ∀ q, kd q = 0 → kd (rt q 4) = 11 := kd_all (by decide) (by decide +kernel)
theorem kt_0_5 : ∀ q, kd q = 0 → kd (rt q 5) = 11 := kd_all (by decide) (by decide +kernel)
theorem kt_0_6 : ∀ q, kd q = 0 → kd (rt q 6) = 11 := kd_all (by decide) (by decide +kernel)
theorem kt_0_7 : ∀ q, kd q = 0 → kd (rt q 7) = 11 := kd_all (by decide) (by decide +kernel)
theorem kt_0_8 : ∀ q, kd q = 0 → kd (rt q 8) = 11 := kd_all (by decide) (by decide +kernel)
theorem kt_1_0 : ∀ q, kd q = 1 → kd (rt q 0) = 5 := kd_all (by decide) (by decide +kernel)
theorem kt_1_4 : ∀ q, kd q = 1 → kd (rt q 4) = 11 := kd_all (by decide) (by decide +kernel)
theorem kt_1_5 : ∀ q, kd q = 1 → kd (rt q 5) = 11 := kd_all (by decide) (by decide +kernel)
theorem kt_1_6 : ∀ q, kd q = 1 → kd (rt q 6) = 11 := kd_all (by decide) (by decide +kernel)
theorem kt_2_0 : ∀ q, kd q = 2 → kd (rt q 0) = 13 := kd_all (by decide) (by decide +kernel)
theorem kt_3_1 : ∀ q, kd q = 3 → kd (rt q 1) = 11 := kd_all (by decide) (by decide +kernel)
theorem kt_4_0 : ∀ q, kd q = 4 → kd (rt q 0) = 0 := kd_all (by decide) (by decide +kernel)
theorem kt_4_1 : ∀ q, kd q = 4 → kd (rt q 1) = 5 := kd_all (by decide) (by decide +kernel)
theorem kt_4_2 : ∀ q, kd q = 4 → kd (rt q 2) = 6 := kd_all (by decide) (by decide +kernel)
theorem kt_4_3 : ∀ q, kd q = 4 → kd (rt q 3) = 11 := kd_all (by decide) (by decide +kernel)
theorem kt_6_0 : ∀ q, kd q = 6 → kd (rt q 0) = 12 := kd_all (by decide) (by decide +kernel)
theorem kt_6_1 : ∀ q, kd q = 6 → kd (rt q 1) = 12 := kd_all (by decide) (by decide +kernel)
theorem kt_6_2 : ∀ q, kd q = 6 → kd (rt q 2) = 11 := kd_all (by decide) (by decide +kernel)
theorem kt_7_0 : ∀ q, kd q = 7 → kd (rt q 0) = 0 := kd_all (by decide) (by decide +kernel)
theorem kt_7_1 : ∀ q, kd q = 7 → kd (rt q 1) = 1 := kd_all (by decide) (by decide +kernel)
theorem kt_8_0 : ∀ q, kd q = 8 → kd (rt q 0) = 11 := kd_all (by decide) (by decide +kernel)
theorem kt_9_0 : ∀ q, kd q = 9 → kd (rt q 0) = 7 := kd_all (by decide) (by decide +kernel)
theorem kt_9_1 : ∀ q, kd q = 9 → kd (rt q 1) = 2 := kd_all (by decide) (by decide +kernel)
theorem kt_9_2 : ∀ q, kd q = 9 → kd (rt q 2) = 4 := kd_all (by decide) (by decide +kernel)
theorem kt_9_3 : ∀ q, kd q = 9 → kd (rt q 3) = 8 := kd_all (by decide) (by decide +kernel)
theorem kt_9_4 : ∀ q, kd q = 9 → kd (rt q 4) = 3 := kd_all (by decide) (by decide +kernel)
theorem kt_10_0 : ∀ q, kd q = 10 → kd (rt q 0) = 11 := kd_all (by decide) (by decide +kernel)
theorem kt_10_1 : ∀ q, kd q = 10 → kd (rt q 1) = 11 := kd_all (by decide) (by decide +kernel)
theorem kt_10_2 : ∀ q, kd q = 10 → kd (rt q 2) = 11 := kd_all (by decide) (by decide +kernel)
theorem kt_10_4 : ∀ q, kd q = 10 → kd (rt q 4) = 11 := kd_all (by decide) (by decide +kernel)
theorem kt_10_5 : ∀ q, kd q = 10 → kd (rt q 5) = 11 := kd_all (by decide) (by decide +kernel)
theorem kt_10_6 : ∀ q, kd q = 10 → kd (rt q 6) = 11 := kd_all (by decide) (by decide +kernel)
theorem kt_10_8 : ∀ q, kd q = 10 → kd (rt q 8) = 11 := kd_all (by decide) (by decide +kernel)
theorem kt_10_9 : ∀ q, kd q = 10 → kd (rt q 9) = 11 := kd_all (by decide) (by decide +kernel)
theorem kt_10_12 : ∀ q, kd q = 10 → kd (rt q 12) = 11 := kd_all (by decide) (by decide +kernel)
theorem kt_10_13 : ∀ q, kd q = 10 → kd (rt q 13) = 12 := kd_all (by decide) (by decide +kernel)
theorem kt_10_14 : ∀ q, kd q = 10 → kd (rt q 14) = 12 := kd_all (by decide) (by decide +kernel)
theorem kt_10_15 : ∀ q, kd q = 10 → kd (rt q 15) = 11 := kd_all (by decide) (by decide +kernel)
theorem kt_10_16 : ∀ q, kd q = 10 → kd (rt q 16) = 11 := kd_all (by decide) (by decide +kernel)
theorem kt_10_21 : ∀ q, kd q = 10 → kd (rt q 21) = 11 := kd_all (by decide) (by decide +kernel)
theorem kt_10_22 : ∀ q, kd q = 10 → kd (rt q 22) = 11 := kd_all (by decide) (by decide +kernel)
theorem mn_RX11 : Cond.initialized RX11 ∈ wsL_law := wm_1 _ (List.mem_of_getElem? (i := 2) rfl)
theorem mn_RX12 : Cond.initialized RX12 ∈ wsL_law := wm_1 _ (List.mem_of_getElem? (i := 5) rfl)
theorem mn_RX9 : Cond.initialized RX9 ∈ wsL_law := wm_1 _ (List.mem_of_getElem? (i := 14) rfl)
theorem mn_RX3 : Cond.initialized RX3 ∈ wsL_law := wm_1 _ (List.mem_of_getElem? (i := 18) rfl)
theorem mn_RX6 : Cond.initialized RX6 ∈ wsL_law := wm_1 _ (List.mem_of_getElem? (i := 22) rfl)
theorem mn_RX10 : Cond.initialized RX10 ∈ wsL_law := wm_2 _ (List.mem_of_getElem? (i := 3) rfl)
theorem mn_RX4 : Cond.initialized RX4 ∈ wsL_law := wm_2 _ (List.mem_of_getElem? (i := 7) rfl)
theorem mn_RX0 : Cond.initialized RX0 ∈ wsL_law := wm_2 _ (List.mem_of_getElem? (i := 17) rfl)
theorem mn_RX2 : Cond.initialized RX2 ∈ wsL_law := wm_2 _ (List.mem_of_getElem? (i := 21) rfl)
theorem mn_RX7 : Cond.initialized RX7 ∈ wsL_law := wm_3 _ (List.mem_of_getElem? (i := 18) rfl)
theorem mn_RX8 : Cond.initialized RX8 ∈ wsL_law := wm_5 _ (List.mem_of_getElem? (i := 0) rfl)
theorem mn_RX5 : Cond.initialized RX5 ∈ wsL_law := wm_9 _ (List.mem_of_getElem? (i := 1) rfl)
theorem mn_RX1 : Cond.initialized RX1 ∈ wsL_law := wm_10 _ (List.mem_of_getElem? (i := 8) rfl)
theorem mn_RJ6 : Cond.initialized RJ6 ∈ wsL_law := wm_12 _ (List.mem_of_getElem? (i := 9) rfl)
theorem mn_RJ13 : Cond.initialized RJ13 ∈ wsL_law := wm_21 _ (List.mem_of_getElem? (i := 15) rfl)
