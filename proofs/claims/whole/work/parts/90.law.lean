/-! the law: its cases and its loop -/
def lA (s : State) : Nat → Prop := fun q => s.heap.size ≤ q
abbrev lvL (ad : Nat → Nat) (b i : Nat) : List (Nat × Value) := [(0, .ref b), (1, .ref (ad 0)), (2, .ref (ad 104)), (3, .int (nI i))]
theorem kd0 : kd 0 = 9 := by decide +kernel
theorem kd104 : kd 104 = 10 := by decide +kernel
theorem cmp_s (r : Int64) : lg_cmp r r = 0 := by
  unfold lg_cmp
  rw [if_neg (by simp), if_pos rfl]
theorem inv_up {t : Nat} {μ : xM} (h : Inv t μ) : Inv (t + 1) μ := by
  obtain ⟨ρ, σ, h, Hρ, Hσ, c, L, T, hw, hx, hm⟩ := h
  exact inv_id hw hx hm
section LAW
variable {E : xE} {ad : Nat → Nat} {p : Program} {l : Launch} {e : Env} {s : State} {m : MethodId} {below : List Frame} {meth : Method} {c : Code} {b L i t : Nat} {xs : Nat → Int32} {Q : State → Prop} {μ : xM}
set_option maxRecDepth 100000 in
set_option maxHeartbeats 4000000 in
theorem lc_0 (G : xG E p s m #[Value.ref b] meth c cL_law 4 RL) (hX : va_X b L xs s s.heap) (hbl : b < s.heap.size) (hi : i + 5 ≤ L) (hL : L ≤ 2560) (ht : t < 2 ^ 30) (hI : Inv t μ) {H : Heap} {locs : List Loc} {ls : Array Slot} (hH : xH E ad (lA s) s.heap μ H locs) (hl : lv_has ls 4 (lvL ad b i))
    (kb : ∀ (ν : xM) (H : Heap) (locs : List Loc), Inv (t + 1) ν → xH E ad (lA s) s.heap ν H locs → W p l e room_1 s m #[Value.ref b] below meth c H locs 600000 7302249 Q (F0 m 743 ls [])) : W p l e room_1 s m #[Value.ref b] below meth c H locs 600000 7302249 Q (F0 m 136 ls []) := by
  obtain ⟨hx, hb, hml, hown, hts, hKn, hN, hlk⟩ := id G
  have hA : ∀ a, s.heap.size ≤ a → lA s a := fun _ h => h
  have hbA : ¬ lA s b := Nat.not_le.mpr hbl
  have v1 : vp_in (nI i + (1 : Int32)) L := by rw [show (1 : Int32) = nI 1 from rfl, nI_add]; exact vp_in_nI (by omega) (by omega)
  have v2 : vp_in (nI i + (2 : Int32)) L := by rw [show (2 : Int32) = nI 2 from rfl, nI_add]; exact vp_in_nI (by omega) (by omega)
  have v3 : vp_in (nI i + (3 : Int32)) L := by rw [show (3 : Int32) = nI 3 from rfl, nI_add]; exact vp_in_nI (by omega) (by omega)
  have v4 : vp_in (nI i + (4 : Int32)) L := by rw [show (4 : Int32) = nI 4 from rfl, nI_add]; exact vp_in_nI (by omega) (by omega)
  refine lv_aload_n hx hb dL_law_136 rfl (lv_at hl 1 rfl) ?_
  refine lv_aload_n hx hb dL_law_137 rfl (lv_at hl 0 rfl) ?_
  refine lv_iload_n hx hb dL_law_138 rfl (lv_at hl 3 rfl) ?_
  refine lv_iconst (v := (1 : Int32)) hx hb dL_law_139 (by decide) ?_
  refine lv_iadd hx hb dL_law_140 ?_
  refine va_sld hx hb hX hbl hbA hH.2.2 v1 dL_law_141 ?_
  refine lv_aload_n hx hb dL_law_142 rfl (lv_at hl 0 rfl) ?_
  refine lv_iload_n hx hb dL_law_143 rfl (lv_at hl 3 rfl) ?_
  refine lv_iconst (v := (2 : Int32)) hx hb dL_law_144 (by decide) ?_
  refine lv_iadd hx hb dL_law_145 ?_
  refine va_sld hx hb hX hbl hbA hH.2.2 v2 dL_law_146 ?_
  refine lv_aload_n hx hb dL_law_147 rfl (lv_at hl 0 rfl) ?_
  refine lv_iload_n hx hb dL_law_148 rfl (lv_at hl 3 rfl) ?_
  refine lv_iconst (v := (3 : Int32)) hx hb dL_law_149 (by decide) ?_
  refine lv_iadd hx hb dL_law_150 ?_
  refine va_sld hx hb hX hbl hbA hH.2.2 v3 dL_law_151 ?_
  refine lv_aload_n hx hb dL_law_152 rfl (lv_at hl 0 rfl) ?_
  refine lv_iload_n hx hb dL_law_153 rfl (lv_at hl 3 rfl) ?_
  refine lv_iconst (v := (4 : Int32)) hx hb dL_law_154 (by decide) ?_
  refine lv_iadd hx hb dL_law_155 ?_
  refine va_sld hx hb hX hbl hbA hH.2.2 v4 dL_law_156 ?_
  refine x_cVi (q := 0) (K := 9) (C := RX11) (T := TX11) (N := 8) (n := 4) (As := [.int (xs (nI i + (1 : Int32)).toNatClampNeg), .int (xs (nI i + (2 : Int32)).toNatClampNeg), .int (xs (nI i + (3 : Int32)).toNatClampNeg), .int (xs (nI i + (4 : Int32)).toNatClampNeg)]) (rest := []) G hH hA (c_X11_block l E ad μ 0 (xs (nI i + (1 : Int32)).toNatClampNeg) (xs (nI i + (2 : Int32)).toNatClampNeg) (xs (nI i + (3 : Int32)).toNatClampNeg) (xs (nI i + (4 : Int32)).toNatClampNeg) kd0 _ (op_block hI (xs (nI i + (1 : Int32)).toNatClampNeg) (xs (nI i + (2 : Int32)).toNatClampNeg) (xs (nI i + (3 : Int32)).toNatClampNeg) (xs (nI i + (4 : Int32)).toNatClampNeg))) (wm_7 _ (List.mem_of_getElem? (i := 10) rfl)) mi_X11_block ms_X11_block mn_RX11 mc_X11_block rfl md_X11_block ⟨rfl, rfl, (Nat.le_of_ble_eq_true rfl), (Nat.le_of_ble_eq_true rfl)⟩ kd0 (by decide) rfl rfl hl.1 rfl (Nat.le_of_ble_eq_true rfl) dL_law_157 ⟨(Nat.le_of_ble_eq_true rfl), (Nat.le_of_ble_eq_true rfl)⟩ (fun r1 μ1 hq H locs hH => ?_)
  refine lv_aload_n hx hb dL_law_160 rfl (lv_at hl 2 rfl) ?_
  refine lv_aload_n hx hb dL_law_161 rfl (lv_at hl 0 rfl) ?_
  refine lv_iload_n hx hb dL_law_162 rfl (lv_at hl 3 rfl) ?_
  refine lv_iconst (v := (1 : Int32)) hx hb dL_law_163 (by decide) ?_
  refine lv_iadd hx hb dL_law_164 ?_
  refine va_sld hx hb hX hbl hbA hH.2.2 v1 dL_law_165 ?_
  refine lv_aload_n hx hb dL_law_166 rfl (lv_at hl 0 rfl) ?_
  refine lv_iload_n hx hb dL_law_167 rfl (lv_at hl 3 rfl) ?_
  refine lv_iconst (v := (2 : Int32)) hx hb dL_law_168 (by decide) ?_
  refine lv_iadd hx hb dL_law_169 ?_
  refine va_sld hx hb hX hbl hbA hH.2.2 v2 dL_law_170 ?_
  refine lv_aload_n hx hb dL_law_171 rfl (lv_at hl 0 rfl) ?_
  refine lv_iload_n hx hb dL_law_172 rfl (lv_at hl 3 rfl) ?_
  refine lv_iconst (v := (3 : Int32)) hx hb dL_law_173 (by decide) ?_
  refine lv_iadd hx hb dL_law_174 ?_
  refine va_sld hx hb hX hbl hbA hH.2.2 v3 dL_law_175 ?_
  refine lv_aload_n hx hb dL_law_176 rfl (lv_at hl 0 rfl) ?_
  refine lv_iload_n hx hb dL_law_177 rfl (lv_at hl 3 rfl) ?_
  refine lv_iconst (v := (4 : Int32)) hx hb dL_law_178 (by decide) ?_
  refine lv_iadd hx hb dL_law_179 ?_
  refine va_sld hx hb hX hbl hbA hH.2.2 v4 dL_law_180 ?_
  refine x_cVi (q := 104) (K := 10) (C := RX12) (T := TX12) (N := 24) (n := 4) (As := [.int (xs (nI i + (1 : Int32)).toNatClampNeg), .int (xs (nI i + (2 : Int32)).toNatClampNeg), .int (xs (nI i + (3 : Int32)).toNatClampNeg), .int (xs (nI i + (4 : Int32)).toNatClampNeg)]) (rest := [.int r1]) G hH hA (c_X12_block l E ad μ1 104 (xs (nI i + (1 : Int32)).toNatClampNeg) (xs (nI i + (2 : Int32)).toNatClampNeg) (xs (nI i + (3 : Int32)).toNatClampNeg) (xs (nI i + (4 : Int32)).toNatClampNeg) kd104 _ hq) (wm_10 _ (List.mem_of_getElem? (i := 10) rfl)) mi_X12_block ms_X12_block mn_RX12 mc_X12_block rfl md_X12_block ⟨rfl, rfl, (Nat.le_of_ble_eq_true rfl), (Nat.le_of_ble_eq_true rfl)⟩ kd104 (by decide) rfl rfl hl.1 rfl (Nat.le_of_ble_eq_true rfl) dL_law_181 ⟨(Nat.le_of_ble_eq_true rfl), (Nat.le_of_ble_eq_true rfl)⟩ (fun r2 μ2 hq H locs hH => ?_)
  obtain ⟨rfl, hI⟩ := hq
  refine lv_icmp_eq (tgt := 743) hx hb dL_law_184 (by decide) (fun _ => kb _ _ _ hI hH) (fun cq => absurd rfl cq)
set_option maxRecDepth 100000 in
set_option maxHeartbeats 4000000 in
theorem lc_1 (G : xG E p s m #[Value.ref b] meth c cL_law 4 RL) (hX : va_X b L xs s s.heap) (hbl : b < s.heap.size) (hi : i + 5 ≤ L) (hL : L ≤ 2560) (ht : t < 2 ^ 30) (hI : Inv t μ) {H : Heap} {locs : List Loc} {ls : Array Slot} (hH : xH E ad (lA s) s.heap μ H locs) (hl : lv_has ls 4 (lvL ad b i))
    (kb : ∀ (ν : xM) (H : Heap) (locs : List Loc), Inv (t + 1) ν → xH E ad (lA s) s.heap ν H locs → W p l e room_1 s m #[Value.ref b] below meth c H locs 600000 7302249 Q (F0 m 743 ls [])) : W p l e room_1 s m #[Value.ref b] below meth c H locs 600000 7302249 Q (F0 m 189 ls []) := by
  obtain ⟨hx, hb, hml, hown, hts, hKn, hN, hlk⟩ := id G
  have hA : ∀ a, s.heap.size ≤ a → lA s a := fun _ h => h
  have hbA : ¬ lA s b := Nat.not_le.mpr hbl
  have v1 : vp_in (nI i + (1 : Int32)) L := by rw [show (1 : Int32) = nI 1 from rfl, nI_add]; exact vp_in_nI (by omega) (by omega)
  have v2 : vp_in (nI i + (2 : Int32)) L := by rw [show (2 : Int32) = nI 2 from rfl, nI_add]; exact vp_in_nI (by omega) (by omega)
  have v3 : vp_in (nI i + (3 : Int32)) L := by rw [show (3 : Int32) = nI 3 from rfl, nI_add]; exact vp_in_nI (by omega) (by omega)
  refine lv_aload_n hx hb dL_law_189 rfl (lv_at hl 1 rfl) ?_
  refine lv_aload_n hx hb dL_law_190 rfl (lv_at hl 0 rfl) ?_
  refine lv_iload_n hx hb dL_law_191 rfl (lv_at hl 3 rfl) ?_
  refine lv_iconst (v := (1 : Int32)) hx hb dL_law_192 (by decide) ?_
  refine lv_iadd hx hb dL_law_193 ?_
  refine va_sld hx hb hX hbl hbA hH.2.2 v1 dL_law_194 ?_
  refine lv_aload_n hx hb dL_law_195 rfl (lv_at hl 0 rfl) ?_
  refine lv_iload_n hx hb dL_law_196 rfl (lv_at hl 3 rfl) ?_
  refine lv_iconst (v := (2 : Int32)) hx hb dL_law_197 (by decide) ?_
  refine lv_iadd hx hb dL_law_198 ?_
  refine va_sld hx hb hX hbl hbA hH.2.2 v2 dL_law_199 ?_
  refine lv_aload_n hx hb dL_law_200 rfl (lv_at hl 0 rfl) ?_
  refine lv_iload_n hx hb dL_law_201 rfl (lv_at hl 3 rfl) ?_
  refine lv_iconst (v := (3 : Int32)) hx hb dL_law_202 (by decide) ?_
  refine lv_iadd hx hb dL_law_203 ?_
  refine va_sld hx hb hX hbl hbA hH.2.2 v3 dL_law_204 ?_
  refine x_cVi (q := 0) (K := 9) (C := RX11) (T := TX11) (N := 8) (n := 3) (As := [.int (xs (nI i + (1 : Int32)).toNatClampNeg), .int (xs (nI i + (2 : Int32)).toNatClampNeg), .int (xs (nI i + (3 : Int32)).toNatClampNeg)]) (rest := []) G hH hA (c_X11_shifts l E ad μ 0 (xs (nI i + (1 : Int32)).toNatClampNeg) (xs (nI i + (2 : Int32)).toNatClampNeg) (xs (nI i + (3 : Int32)).toNatClampNeg) kd0 _ (op_shifts hI (xs (nI i + (1 : Int32)).toNatClampNeg) (xs (nI i + (2 : Int32)).toNatClampNeg) (xs (nI i + (3 : Int32)).toNatClampNeg))) (wm_11 _ (List.mem_of_getElem? (i := 14) rfl)) mi_X11_shifts ms_X11_shifts mn_RX11 mc_X11_shifts rfl md_X11_shifts ⟨rfl, rfl, (Nat.le_of_ble_eq_true rfl), (Nat.le_of_ble_eq_true rfl)⟩ kd0 (by decide) rfl rfl hl.1 rfl (Nat.le_of_ble_eq_true rfl) dL_law_205 ⟨(Nat.le_of_ble_eq_true rfl), (Nat.le_of_ble_eq_true rfl)⟩ (fun r1 μ1 hq H locs hH => ?_)
  refine lv_aload_n hx hb dL_law_208 rfl (lv_at hl 2 rfl) ?_
  refine lv_aload_n hx hb dL_law_209 rfl (lv_at hl 0 rfl) ?_
  refine lv_iload_n hx hb dL_law_210 rfl (lv_at hl 3 rfl) ?_
  refine lv_iconst (v := (1 : Int32)) hx hb dL_law_211 (by decide) ?_
  refine lv_iadd hx hb dL_law_212 ?_
  refine va_sld hx hb hX hbl hbA hH.2.2 v1 dL_law_213 ?_
  refine lv_aload_n hx hb dL_law_214 rfl (lv_at hl 0 rfl) ?_
  refine lv_iload_n hx hb dL_law_215 rfl (lv_at hl 3 rfl) ?_
  refine lv_iconst (v := (2 : Int32)) hx hb dL_law_216 (by decide) ?_
  refine lv_iadd hx hb dL_law_217 ?_
  refine va_sld hx hb hX hbl hbA hH.2.2 v2 dL_law_218 ?_
  refine lv_aload_n hx hb dL_law_219 rfl (lv_at hl 0 rfl) ?_
  refine lv_iload_n hx hb dL_law_220 rfl (lv_at hl 3 rfl) ?_
  refine lv_iconst (v := (3 : Int32)) hx hb dL_law_221 (by decide) ?_
  refine lv_iadd hx hb dL_law_222 ?_
  refine va_sld hx hb hX hbl hbA hH.2.2 v3 dL_law_223 ?_
  refine x_cVi (q := 104) (K := 10) (C := RX12) (T := TX12) (N := 24) (n := 3) (As := [.int (xs (nI i + (1 : Int32)).toNatClampNeg), .int (xs (nI i + (2 : Int32)).toNatClampNeg), .int (xs (nI i + (3 : Int32)).toNatClampNeg)]) (rest := [.int r1]) G hH hA (c_X12_shifts l E ad μ1 104 (xs (nI i + (1 : Int32)).toNatClampNeg) (xs (nI i + (2 : Int32)).toNatClampNeg) (xs (nI i + (3 : Int32)).toNatClampNeg) kd104 _ hq) (wm_12 _ (List.mem_of_getElem? (i := 14) rfl)) mi_X12_shifts ms_X12_shifts mn_RX12 mc_X12_shifts rfl md_X12_shifts ⟨rfl, rfl, (Nat.le_of_ble_eq_true rfl), (Nat.le_of_ble_eq_true rfl)⟩ kd104 (by decide) rfl rfl hl.1 rfl (Nat.le_of_ble_eq_true rfl) dL_law_224 ⟨(Nat.le_of_ble_eq_true rfl), (Nat.le_of_ble_eq_true rfl)⟩ (fun r2 μ2 hq H locs hH => ?_)
  obtain ⟨rfl, hI⟩ := hq
  refine lv_icmp_eq (tgt := 743) hx hb dL_law_227 (by decide) (fun _ => kb _ _ _ hI hH) (fun cq => absurd rfl cq)
set_option maxRecDepth 100000 in
set_option maxHeartbeats 4000000 in
theorem lc_2 (G : xG E p s m #[Value.ref b] meth c cL_law 4 RL) (hX : va_X b L xs s s.heap) (hbl : b < s.heap.size) (hi : i + 5 ≤ L) (hL : L ≤ 2560) (ht : t < 2 ^ 30) (hI : Inv t μ) {H : Heap} {locs : List Loc} {ls : Array Slot} (hH : xH E ad (lA s) s.heap μ H locs) (hl : lv_has ls 4 (lvL ad b i))
    (kb : ∀ (ν : xM) (H : Heap) (locs : List Loc), Inv (t + 1) ν → xH E ad (lA s) s.heap ν H locs → W p l e room_1 s m #[Value.ref b] below meth c H locs 600000 7302249 Q (F0 m 743 ls [])) : W p l e room_1 s m #[Value.ref b] below meth c H locs 600000 7302249 Q (F0 m 232 ls []) := by
  obtain ⟨hx, hb, hml, hown, hts, hKn, hN, hlk⟩ := id G
  have hA : ∀ a, s.heap.size ≤ a → lA s a := fun _ h => h
  have hbA : ¬ lA s b := Nat.not_le.mpr hbl
  have v1 : vp_in (nI i + (1 : Int32)) L := by rw [show (1 : Int32) = nI 1 from rfl, nI_add]; exact vp_in_nI (by omega) (by omega)
  have v2 : vp_in (nI i + (2 : Int32)) L := by rw [show (2 : Int32) = nI 2 from rfl, nI_add]; exact vp_in_nI (by omega) (by omega)
  have v3 : vp_in (nI i + (3 : Int32)) L := by rw [show (3 : Int32) = nI 3 from rfl, nI_add]; exact vp_in_nI (by omega) (by omega)
  refine lv_aload_n hx hb dL_law_232 rfl (lv_at hl 1 rfl) ?_
  refine lv_aload_n hx hb dL_law_233 rfl (lv_at hl 0 rfl) ?_
  refine lv_iload_n hx hb dL_law_234 rfl (lv_at hl 3 rfl) ?_
  refine lv_iconst (v := (1 : Int32)) hx hb dL_law_235 (by decide) ?_
  refine lv_iadd hx hb dL_law_236 ?_
  refine va_sld hx hb hX hbl hbA hH.2.2 v1 dL_law_237 ?_
  refine lv_aload_n hx hb dL_law_238 rfl (lv_at hl 0 rfl) ?_
  refine lv_iload_n hx hb dL_law_239 rfl (lv_at hl 3 rfl) ?_
  refine lv_iconst (v := (2 : Int32)) hx hb dL_law_240 (by decide) ?_
  refine lv_iadd hx hb dL_law_241 ?_
  refine va_sld hx hb hX hbl hbA hH.2.2 v2 dL_law_242 ?_
  refine lv_aload_n hx hb dL_law_243 rfl (lv_at hl 0 rfl) ?_
  refine lv_iload_n hx hb dL_law_244 rfl (lv_at hl 3 rfl) ?_
  refine lv_iconst (v := (3 : Int32)) hx hb dL_law_245 (by decide) ?_
  refine lv_iadd hx hb dL_law_246 ?_
  refine va_sld hx hb hX hbl hbA hH.2.2 v3 dL_law_247 ?_
  refine x_cVi (q := 0) (K := 9) (C := RX11) (T := TX11) (N := 8) (n := 3) (As := [.int (xs (nI i + (1 : Int32)).toNatClampNeg), .int (xs (nI i + (2 : Int32)).toNatClampNeg), .int (xs (nI i + (3 : Int32)).toNatClampNeg)]) (rest := []) G hH hA (c_X11_behind l E ad μ 0 (xs (nI i + (1 : Int32)).toNatClampNeg) (xs (nI i + (2 : Int32)).toNatClampNeg) (xs (nI i + (3 : Int32)).toNatClampNeg) kd0 _ (op_behind hI (xs (nI i + (1 : Int32)).toNatClampNeg) (xs (nI i + (2 : Int32)).toNatClampNeg) (xs (nI i + (3 : Int32)).toNatClampNeg))) (wm_13 _ (List.mem_of_getElem? (i := 19) rfl)) mi_X11_behind ms_X11_behind mn_RX11 mc_X11_behind rfl md_X11_behind ⟨rfl, rfl, (Nat.le_of_ble_eq_true rfl), (Nat.le_of_ble_eq_true rfl)⟩ kd0 (by decide) rfl rfl hl.1 rfl (Nat.le_of_ble_eq_true rfl) dL_law_248 ⟨(Nat.le_of_ble_eq_true rfl), (Nat.le_of_ble_eq_true rfl)⟩ (fun r1 μ1 hq H locs hH => ?_)
  refine lv_aload_n hx hb dL_law_251 rfl (lv_at hl 2 rfl) ?_
  refine lv_aload_n hx hb dL_law_252 rfl (lv_at hl 0 rfl) ?_
  refine lv_iload_n hx hb dL_law_253 rfl (lv_at hl 3 rfl) ?_
  refine lv_iconst (v := (1 : Int32)) hx hb dL_law_254 (by decide) ?_
  refine lv_iadd hx hb dL_law_255 ?_
  refine va_sld hx hb hX hbl hbA hH.2.2 v1 dL_law_256 ?_
  refine lv_aload_n hx hb dL_law_257 rfl (lv_at hl 0 rfl) ?_
  refine lv_iload_n hx hb dL_law_258 rfl (lv_at hl 3 rfl) ?_
  refine lv_iconst (v := (2 : Int32)) hx hb dL_law_259 (by decide) ?_
  refine lv_iadd hx hb dL_law_260 ?_
  refine va_sld hx hb hX hbl hbA hH.2.2 v2 dL_law_261 ?_
  refine lv_aload_n hx hb dL_law_262 rfl (lv_at hl 0 rfl) ?_
  refine lv_iload_n hx hb dL_law_263 rfl (lv_at hl 3 rfl) ?_
  refine lv_iconst (v := (3 : Int32)) hx hb dL_law_264 (by decide) ?_
  refine lv_iadd hx hb dL_law_265 ?_
  refine va_sld hx hb hX hbl hbA hH.2.2 v3 dL_law_266 ?_
  refine x_cVi (q := 104) (K := 10) (C := RX12) (T := TX12) (N := 24) (n := 3) (As := [.int (xs (nI i + (1 : Int32)).toNatClampNeg), .int (xs (nI i + (2 : Int32)).toNatClampNeg), .int (xs (nI i + (3 : Int32)).toNatClampNeg)]) (rest := [.int r1]) G hH hA (c_X12_behind l E ad μ1 104 (xs (nI i + (1 : Int32)).toNatClampNeg) (xs (nI i + (2 : Int32)).toNatClampNeg) (xs (nI i + (3 : Int32)).toNatClampNeg) kd104 _ hq) (wm_14 _ (List.mem_of_getElem? (i := 12) rfl)) mi_X12_behind ms_X12_behind mn_RX12 mc_X12_behind rfl md_X12_behind ⟨rfl, rfl, (Nat.le_of_ble_eq_true rfl), (Nat.le_of_ble_eq_true rfl)⟩ kd104 (by decide) rfl rfl hl.1 rfl (Nat.le_of_ble_eq_true rfl) dL_law_267 ⟨(Nat.le_of_ble_eq_true rfl), (Nat.le_of_ble_eq_true rfl)⟩ (fun r2 μ2 hq H locs hH => ?_)
  obtain ⟨rfl, hI⟩ := hq
  refine lv_icmp_eq (tgt := 743) hx hb dL_law_270 (by decide) (fun _ => kb _ _ _ hI hH) (fun cq => absurd rfl cq)
set_option maxRecDepth 100000 in
set_option maxHeartbeats 4000000 in
theorem lc_3 (G : xG E p s m #[Value.ref b] meth c cL_law 4 RL) (hX : va_X b L xs s s.heap) (hbl : b < s.heap.size) (hi : i + 5 ≤ L) (hL : L ≤ 2560) (ht : t < 2 ^ 30) (hI : Inv t μ) {H : Heap} {locs : List Loc} {ls : Array Slot} (hH : xH E ad (lA s) s.heap μ H locs) (hl : lv_has ls 4 (lvL ad b i))
    (kb : ∀ (ν : xM) (H : Heap) (locs : List Loc), Inv (t + 1) ν → xH E ad (lA s) s.heap ν H locs → W p l e room_1 s m #[Value.ref b] below meth c H locs 600000 7302249 Q (F0 m 743 ls [])) : W p l e room_1 s m #[Value.ref b] below meth c H locs 600000 7302249 Q (F0 m 275 ls []) := by
  obtain ⟨hx, hb, hml, hown, hts, hKn, hN, hlk⟩ := id G
  have hA : ∀ a, s.heap.size ≤ a → lA s a := fun _ h => h
  have hbA : ¬ lA s b := Nat.not_le.mpr hbl
  have v1 : vp_in (nI i + (1 : Int32)) L := by rw [show (1 : Int32) = nI 1 from rfl, nI_add]; exact vp_in_nI (by omega) (by omega)
  have v2 : vp_in (nI i + (2 : Int32)) L := by rw [show (2 : Int32) = nI 2 from rfl, nI_add]; exact vp_in_nI (by omega) (by omega)
  refine lv_aload_n hx hb dL_law_275 rfl (lv_at hl 1 rfl) ?_
  refine lv_aload_n hx hb dL_law_276 rfl (lv_at hl 0 rfl) ?_
  refine lv_iload_n hx hb dL_law_277 rfl (lv_at hl 3 rfl) ?_
  refine lv_iconst (v := (1 : Int32)) hx hb dL_law_278 (by decide) ?_
  refine lv_iadd hx hb dL_law_279 ?_
  refine va_sld hx hb hX hbl hbA hH.2.2 v1 dL_law_280 ?_
  refine lv_aload_n hx hb dL_law_281 rfl (lv_at hl 0 rfl) ?_
  refine lv_iload_n hx hb dL_law_282 rfl (lv_at hl 3 rfl) ?_
  refine lv_iconst (v := (2 : Int32)) hx hb dL_law_283 (by decide) ?_
  refine lv_iadd hx hb dL_law_284 ?_
  refine va_sld hx hb hX hbl hbA hH.2.2 v2 dL_law_285 ?_
  refine x_cVi (q := 0) (K := 9) (C := RX11) (T := TX11) (N := 8) (n := 2) (As := [.int (xs (nI i + (1 : Int32)).toNatClampNeg), .int (xs (nI i + (2 : Int32)).toNatClampNeg)]) (rest := []) G hH hA (c_X11_plans l E ad μ 0 (xs (nI i + (1 : Int32)).toNatClampNeg) (xs (nI i + (2 : Int32)).toNatClampNeg) kd0 _ (op_plans hI (xs (nI i + (1 : Int32)).toNatClampNeg) (xs (nI i + (2 : Int32)).toNatClampNeg))) (wm_14 _ (List.mem_of_getElem? (i := 20) rfl)) mi_X11_plans ms_X11_plans mn_RX11 mc_X11_plans rfl md_X11_plans ⟨rfl, rfl, (Nat.le_of_ble_eq_true rfl), (Nat.le_of_ble_eq_true rfl)⟩ kd0 (by decide) rfl rfl hl.1 rfl (Nat.le_of_ble_eq_true rfl) dL_law_286 ⟨(Nat.le_of_ble_eq_true rfl), (Nat.le_of_ble_eq_true rfl)⟩ (fun r1 μ1 hq H locs hH => ?_)
  refine lv_aload_n hx hb dL_law_289 rfl (lv_at hl 2 rfl) ?_
  refine lv_aload_n hx hb dL_law_290 rfl (lv_at hl 0 rfl) ?_
  refine lv_iload_n hx hb dL_law_291 rfl (lv_at hl 3 rfl) ?_
  refine lv_iconst (v := (1 : Int32)) hx hb dL_law_292 (by decide) ?_
  refine lv_iadd hx hb dL_law_293 ?_
  refine va_sld hx hb hX hbl hbA hH.2.2 v1 dL_law_294 ?_
  refine lv_aload_n hx hb dL_law_295 rfl (lv_at hl 0 rfl) ?_
  refine lv_iload_n hx hb dL_law_296 rfl (lv_at hl 3 rfl) ?_
  refine lv_iconst (v := (2 : Int32)) hx hb dL_law_297 (by decide) ?_
  refine lv_iadd hx hb dL_law_298 ?_
  refine va_sld hx hb hX hbl hbA hH.2.2 v2 dL_law_299 ?_
  refine x_cVi (q := 104) (K := 10) (C := RX12) (T := TX12) (N := 24) (n := 2) (As := [.int (xs (nI i + (1 : Int32)).toNatClampNeg), .int (xs (nI i + (2 : Int32)).toNatClampNeg)]) (rest := [.int r1]) G hH hA (c_X12_plans l E ad μ1 104 (xs (nI i + (1 : Int32)).toNatClampNeg) (xs (nI i + (2 : Int32)).toNatClampNeg) kd104 _ hq) (wm_15 _ (List.mem_of_getElem? (i := 9) rfl)) mi_X12_plans ms_X12_plans mn_RX12 mc_X12_plans rfl md_X12_plans ⟨rfl, rfl, (Nat.le_of_ble_eq_true rfl), (Nat.le_of_ble_eq_true rfl)⟩ kd104 (by decide) rfl rfl hl.1 rfl (Nat.le_of_ble_eq_true rfl) dL_law_300 ⟨(Nat.le_of_ble_eq_true rfl), (Nat.le_of_ble_eq_true rfl)⟩ (fun r2 μ2 hq H locs hH => ?_)
  obtain ⟨rfl, hI⟩ := hq
  refine lv_icmp_eq (tgt := 743) hx hb dL_law_303 (by decide) (fun _ => kb _ _ _ hI hH) (fun cq => absurd rfl cq)
set_option maxRecDepth 100000 in
set_option maxHeartbeats 4000000 in
theorem lc_4 (G : xG E p s m #[Value.ref b] meth c cL_law 4 RL) (hX : va_X b L xs s s.heap) (hbl : b < s.heap.size) (hi : i + 5 ≤ L) (hL : L ≤ 2560) (ht : t < 2 ^ 30) (hI : Inv t μ) {H : Heap} {locs : List Loc} {ls : Array Slot} (hH : xH E ad (lA s) s.heap μ H locs) (hl : lv_has ls 4 (lvL ad b i))
    (kb : ∀ (ν : xM) (H : Heap) (locs : List Loc), Inv (t + 1) ν → xH E ad (lA s) s.heap ν H locs → W p l e room_1 s m #[Value.ref b] below meth c H locs 600000 7302249 Q (F0 m 743 ls [])) : W p l e room_1 s m #[Value.ref b] below meth c H locs 600000 7302249 Q (F0 m 308 ls []) := by
  obtain ⟨hx, hb, hml, hown, hts, hKn, hN, hlk⟩ := id G
  have hA : ∀ a, s.heap.size ≤ a → lA s a := fun _ h => h
  have hbA : ¬ lA s b := Nat.not_le.mpr hbl
  have v1 : vp_in (nI i + (1 : Int32)) L := by rw [show (1 : Int32) = nI 1 from rfl, nI_add]; exact vp_in_nI (by omega) (by omega)
  have v2 : vp_in (nI i + (2 : Int32)) L := by rw [show (2 : Int32) = nI 2 from rfl, nI_add]; exact vp_in_nI (by omega) (by omega)
  refine lv_aload_n hx hb dL_law_308 rfl (lv_at hl 1 rfl) ?_
  refine lv_aload_n hx hb dL_law_309 rfl (lv_at hl 0 rfl) ?_
  refine lv_iload_n hx hb dL_law_310 rfl (lv_at hl 3 rfl) ?_
  refine lv_iconst (v := (1 : Int32)) hx hb dL_law_311 (by decide) ?_
  refine lv_iadd hx hb dL_law_312 ?_
  refine va_sld hx hb hX hbl hbA hH.2.2 v1 dL_law_313 ?_
  refine lv_aload_n hx hb dL_law_314 rfl (lv_at hl 0 rfl) ?_
  refine lv_iload_n hx hb dL_law_315 rfl (lv_at hl 3 rfl) ?_
  refine lv_iconst (v := (2 : Int32)) hx hb dL_law_316 (by decide) ?_
  refine lv_iadd hx hb dL_law_317 ?_
  refine va_sld hx hb hX hbl hbA hH.2.2 v2 dL_law_318 ?_
  refine x_cVi (q := 0) (K := 9) (C := RX11) (T := TX11) (N := 8) (n := 2) (As := [.int (xs (nI i + (1 : Int32)).toNatClampNeg), .int (xs (nI i + (2 : Int32)).toNatClampNeg)]) (rest := []) G hH hA (c_X11_of l E ad μ 0 (xs (nI i + (1 : Int32)).toNatClampNeg) (xs (nI i + (2 : Int32)).toNatClampNeg) kd0 _ (op_of hI (xs (nI i + (1 : Int32)).toNatClampNeg) (xs (nI i + (2 : Int32)).toNatClampNeg))) (wm_15 _ (List.mem_of_getElem? (i := 13) rfl)) mi_X11_of ms_X11_of mn_RX11 mc_X11_of rfl md_X11_of ⟨rfl, rfl, (Nat.le_of_ble_eq_true rfl), (Nat.le_of_ble_eq_true rfl)⟩ kd0 (by decide) rfl rfl hl.1 rfl (Nat.le_of_ble_eq_true rfl) dL_law_319 ⟨(Nat.le_of_ble_eq_true rfl), (Nat.le_of_ble_eq_true rfl)⟩ (fun r1 μ1 hq H locs hH => ?_)
  refine lv_aload_n hx hb dL_law_322 rfl (lv_at hl 2 rfl) ?_
  refine lv_aload_n hx hb dL_law_323 rfl (lv_at hl 0 rfl) ?_
  refine lv_iload_n hx hb dL_law_324 rfl (lv_at hl 3 rfl) ?_
  refine lv_iconst (v := (1 : Int32)) hx hb dL_law_325 (by decide) ?_
  refine lv_iadd hx hb dL_law_326 ?_
  refine va_sld hx hb hX hbl hbA hH.2.2 v1 dL_law_327 ?_
  refine lv_aload_n hx hb dL_law_328 rfl (lv_at hl 0 rfl) ?_
  refine lv_iload_n hx hb dL_law_329 rfl (lv_at hl 3 rfl) ?_
  refine lv_iconst (v := (2 : Int32)) hx hb dL_law_330 (by decide) ?_
  refine lv_iadd hx hb dL_law_331 ?_
  refine va_sld hx hb hX hbl hbA hH.2.2 v2 dL_law_332 ?_
  refine x_cVi (q := 104) (K := 10) (C := RX12) (T := TX12) (N := 24) (n := 2) (As := [.int (xs (nI i + (1 : Int32)).toNatClampNeg), .int (xs (nI i + (2 : Int32)).toNatClampNeg)]) (rest := [.int r1]) G hH hA (c_X12_of l E ad μ1 104 (xs (nI i + (1 : Int32)).toNatClampNeg) (xs (nI i + (2 : Int32)).toNatClampNeg) kd104 _ hq) (wm_16 _ (List.mem_of_getElem? (i := 1) rfl)) mi_X12_of ms_X12_of mn_RX12 mc_X12_of rfl md_X12_of ⟨rfl, rfl, (Nat.le_of_ble_eq_true rfl), (Nat.le_of_ble_eq_true rfl)⟩ kd104 (by decide) rfl rfl hl.1 rfl (Nat.le_of_ble_eq_true rfl) dL_law_333 ⟨(Nat.le_of_ble_eq_true rfl), (Nat.le_of_ble_eq_true rfl)⟩ (fun r2 μ2 hq H locs hH => ?_)
  obtain ⟨rfl, hI⟩ := hq
  refine lv_icmp_eq (tgt := 743) hx hb dL_law_336 (by decide) (fun _ => kb _ _ _ hI hH) (fun cq => absurd rfl cq)
set_option maxRecDepth 100000 in
set_option maxHeartbeats 4000000 in
theorem lc_5 (G : xG E p s m #[Value.ref b] meth c cL_law 4 RL) (hX : va_X b L xs s s.heap) (hbl : b < s.heap.size) (hi : i + 5 ≤ L) (hL : L ≤ 2560) (ht : t < 2 ^ 30) (hI : Inv t μ) {H : Heap} {locs : List Loc} {ls : Array Slot} (hH : xH E ad (lA s) s.heap μ H locs) (hl : lv_has ls 4 (lvL ad b i))
    (kb : ∀ (ν : xM) (H : Heap) (locs : List Loc), Inv (t + 1) ν → xH E ad (lA s) s.heap ν H locs → W p l e room_1 s m #[Value.ref b] below meth c H locs 600000 7302249 Q (F0 m 743 ls [])) : W p l e room_1 s m #[Value.ref b] below meth c H locs 600000 7302249 Q (F0 m 341 ls []) := by
  obtain ⟨hx, hb, hml, hown, hts, hKn, hN, hlk⟩ := id G
  have hA : ∀ a, s.heap.size ≤ a → lA s a := fun _ h => h
  have hbA : ¬ lA s b := Nat.not_le.mpr hbl
  have v1 : vp_in (nI i + (1 : Int32)) L := by rw [show (1 : Int32) = nI 1 from rfl, nI_add]; exact vp_in_nI (by omega) (by omega)
  have v2 : vp_in (nI i + (2 : Int32)) L := by rw [show (2 : Int32) = nI 2 from rfl, nI_add]; exact vp_in_nI (by omega) (by omega)
  have v3 : vp_in (nI i + (3 : Int32)) L := by rw [show (3 : Int32) = nI 3 from rfl, nI_add]; exact vp_in_nI (by omega) (by omega)
  refine lv_aload_n hx hb dL_law_341 rfl (lv_at hl 1 rfl) ?_
  refine lv_aload_n hx hb dL_law_342 rfl (lv_at hl 0 rfl) ?_
  refine lv_iload_n hx hb dL_law_343 rfl (lv_at hl 3 rfl) ?_
  refine lv_iconst (v := (1 : Int32)) hx hb dL_law_344 (by decide) ?_
  refine lv_iadd hx hb dL_law_345 ?_
  refine va_sld hx hb hX hbl hbA hH.2.2 v1 dL_law_346 ?_
  refine lv_aload_n hx hb dL_law_347 rfl (lv_at hl 0 rfl) ?_
  refine lv_iload_n hx hb dL_law_348 rfl (lv_at hl 3 rfl) ?_
  refine lv_iconst (v := (2 : Int32)) hx hb dL_law_349 (by decide) ?_
  refine lv_iadd hx hb dL_law_350 ?_
  refine va_sld hx hb hX hbl hbA hH.2.2 v2 dL_law_351 ?_
  refine lv_aload_n hx hb dL_law_352 rfl (lv_at hl 0 rfl) ?_
  refine lv_iload_n hx hb dL_law_353 rfl (lv_at hl 3 rfl) ?_
  refine lv_iconst (v := (3 : Int32)) hx hb dL_law_354 (by decide) ?_
  refine lv_iadd hx hb dL_law_355 ?_
  refine va_sld hx hb hX hbl hbA hH.2.2 v3 dL_law_356 ?_
  refine x_cVi (q := 0) (K := 9) (C := RX11) (T := TX11) (N := 8) (n := 3) (As := [.int (xs (nI i + (1 : Int32)).toNatClampNeg), .int (xs (nI i + (2 : Int32)).toNatClampNeg), .int (xs (nI i + (3 : Int32)).toNatClampNeg)]) (rest := []) G hH hA (c_X11_common l E ad μ 0 (xs (nI i + (1 : Int32)).toNatClampNeg) (xs (nI i + (2 : Int32)).toNatClampNeg) (xs (nI i + (3 : Int32)).toNatClampNeg) kd0 _ (op_common hI (xs (nI i + (1 : Int32)).toNatClampNeg) (xs (nI i + (2 : Int32)).toNatClampNeg) (xs (nI i + (3 : Int32)).toNatClampNeg))) (wm_16 _ (List.mem_of_getElem? (i := 9) rfl)) mi_X11_common ms_X11_common mn_RX11 mc_X11_common rfl md_X11_common ⟨rfl, rfl, (Nat.le_of_ble_eq_true rfl), (Nat.le_of_ble_eq_true rfl)⟩ kd0 (by decide) rfl rfl hl.1 rfl (Nat.le_of_ble_eq_true rfl) dL_law_357 ⟨(Nat.le_of_ble_eq_true rfl), (Nat.le_of_ble_eq_true rfl)⟩ (fun r1 μ1 hq H locs hH => ?_)
  refine lv_aload_n hx hb dL_law_360 rfl (lv_at hl 2 rfl) ?_
  refine lv_aload_n hx hb dL_law_361 rfl (lv_at hl 0 rfl) ?_
  refine lv_iload_n hx hb dL_law_362 rfl (lv_at hl 3 rfl) ?_
  refine lv_iconst (v := (1 : Int32)) hx hb dL_law_363 (by decide) ?_
  refine lv_iadd hx hb dL_law_364 ?_
  refine va_sld hx hb hX hbl hbA hH.2.2 v1 dL_law_365 ?_
  refine lv_aload_n hx hb dL_law_366 rfl (lv_at hl 0 rfl) ?_
  refine lv_iload_n hx hb dL_law_367 rfl (lv_at hl 3 rfl) ?_
  refine lv_iconst (v := (2 : Int32)) hx hb dL_law_368 (by decide) ?_
  refine lv_iadd hx hb dL_law_369 ?_
  refine va_sld hx hb hX hbl hbA hH.2.2 v2 dL_law_370 ?_
  refine lv_aload_n hx hb dL_law_371 rfl (lv_at hl 0 rfl) ?_
  refine lv_iload_n hx hb dL_law_372 rfl (lv_at hl 3 rfl) ?_
  refine lv_iconst (v := (3 : Int32)) hx hb dL_law_373 (by decide) ?_
  refine lv_iadd hx hb dL_law_374 ?_
  refine va_sld hx hb hX hbl hbA hH.2.2 v3 dL_law_375 ?_
  refine x_cVi (q := 104) (K := 10) (C := RX12) (T := TX12) (N := 24) (n := 3) (As := [.int (xs (nI i + (1 : Int32)).toNatClampNeg), .int (xs (nI i + (2 : Int32)).toNatClampNeg), .int (xs (nI i + (3 : Int32)).toNatClampNeg)]) (rest := [.int r1]) G hH hA (c_X12_common l E ad μ1 104 (xs (nI i + (1 : Int32)).toNatClampNeg) (xs (nI i + (2 : Int32)).toNatClampNeg) (xs (nI i + (3 : Int32)).toNatClampNeg) kd104 _ hq) (wm_16 _ (List.mem_of_getElem? (i := 13) rfl)) mi_X12_common ms_X12_common mn_RX12 mc_X12_common rfl md_X12_common ⟨rfl, rfl, (Nat.le_of_ble_eq_true rfl), (Nat.le_of_ble_eq_true rfl)⟩ kd104 (by decide) rfl rfl hl.1 rfl (Nat.le_of_ble_eq_true rfl) dL_law_376 ⟨(Nat.le_of_ble_eq_true rfl), (Nat.le_of_ble_eq_true rfl)⟩ (fun r2 μ2 hq H locs hH => ?_)
  obtain ⟨rfl, hI⟩ := hq
  refine lv_icmp_eq (tgt := 743) hx hb dL_law_379 (by decide) (fun _ => kb _ _ _ hI hH) (fun cq => absurd rfl cq)
set_option maxRecDepth 100000 in
set_option maxHeartbeats 4000000 in
theorem lc_6 (G : xG E p s m #[Value.ref b] meth c cL_law 4 RL) (hX : va_X b L xs s s.heap) (hbl : b < s.heap.size) (hi : i + 5 ≤ L) (hL : L ≤ 2560) (ht : t < 2 ^ 30) (hI : Inv t μ) {H : Heap} {locs : List Loc} {ls : Array Slot} (hH : xH E ad (lA s) s.heap μ H locs) (hl : lv_has ls 4 (lvL ad b i))
    (kb : ∀ (ν : xM) (H : Heap) (locs : List Loc), Inv (t + 1) ν → xH E ad (lA s) s.heap ν H locs → W p l e room_1 s m #[Value.ref b] below meth c H locs 600000 7302249 Q (F0 m 743 ls [])) : W p l e room_1 s m #[Value.ref b] below meth c H locs 600000 7302249 Q (F0 m 384 ls []) := by
  obtain ⟨hx, hb, hml, hown, hts, hKn, hN, hlk⟩ := id G
  have hA : ∀ a, s.heap.size ≤ a → lA s a := fun _ h => h
  have hbA : ¬ lA s b := Nat.not_le.mpr hbl
  have v1 : vp_in (nI i + (1 : Int32)) L := by rw [show (1 : Int32) = nI 1 from rfl, nI_add]; exact vp_in_nI (by omega) (by omega)
  have v2 : vp_in (nI i + (2 : Int32)) L := by rw [show (2 : Int32) = nI 2 from rfl, nI_add]; exact vp_in_nI (by omega) (by omega)
  refine lv_aload_n hx hb dL_law_384 rfl (lv_at hl 1 rfl) ?_
  refine lv_aload_n hx hb dL_law_385 rfl (lv_at hl 0 rfl) ?_
  refine lv_iload_n hx hb dL_law_386 rfl (lv_at hl 3 rfl) ?_
  refine lv_iconst (v := (1 : Int32)) hx hb dL_law_387 (by decide) ?_
  refine lv_iadd hx hb dL_law_388 ?_
  refine va_sld hx hb hX hbl hbA hH.2.2 v1 dL_law_389 ?_
  refine lv_aload_n hx hb dL_law_390 rfl (lv_at hl 0 rfl) ?_
  refine lv_iload_n hx hb dL_law_391 rfl (lv_at hl 3 rfl) ?_
  refine lv_iconst (v := (2 : Int32)) hx hb dL_law_392 (by decide) ?_
  refine lv_iadd hx hb dL_law_393 ?_
  refine va_sld hx hb hX hbl hbA hH.2.2 v2 dL_law_394 ?_
  refine x_cVi (q := 0) (K := 9) (C := RX11) (T := TX11) (N := 8) (n := 2) (As := [.int (xs (nI i + (1 : Int32)).toNatClampNeg), .int (xs (nI i + (2 : Int32)).toNatClampNeg)]) (rest := []) G hH hA (c_X11_fit l E ad μ 0 (xs (nI i + (1 : Int32)).toNatClampNeg) (xs (nI i + (2 : Int32)).toNatClampNeg) kd0 _ (op_fit hI (xs (nI i + (1 : Int32)).toNatClampNeg) (xs (nI i + (2 : Int32)).toNatClampNeg))) (wm_16 _ (List.mem_of_getElem? (i := 17) rfl)) mi_X11_fit ms_X11_fit mn_RX11 mc_X11_fit rfl md_X11_fit ⟨rfl, rfl, (Nat.le_of_ble_eq_true rfl), (Nat.le_of_ble_eq_true rfl)⟩ kd0 (by decide) rfl rfl hl.1 rfl (Nat.le_of_ble_eq_true rfl) dL_law_395 ⟨(Nat.le_of_ble_eq_true rfl), (Nat.le_of_ble_eq_true rfl)⟩ (fun r1 μ1 hq H locs hH => ?_)
  refine lv_aload_n hx hb dL_law_398 rfl (lv_at hl 2 rfl) ?_
  refine lv_aload_n hx hb dL_law_399 rfl (lv_at hl 0 rfl) ?_
  refine lv_iload_n hx hb dL_law_400 rfl (lv_at hl 3 rfl) ?_
  refine lv_iconst (v := (1 : Int32)) hx hb dL_law_401 (by decide) ?_
  refine lv_iadd hx hb dL_law_402 ?_
  refine va_sld hx hb hX hbl hbA hH.2.2 v1 dL_law_403 ?_
  refine lv_aload_n hx hb dL_law_404 rfl (lv_at hl 0 rfl) ?_
  refine lv_iload_n hx hb dL_law_405 rfl (lv_at hl 3 rfl) ?_
  refine lv_iconst (v := (2 : Int32)) hx hb dL_law_406 (by decide) ?_
  refine lv_iadd hx hb dL_law_407 ?_
  refine va_sld hx hb hX hbl hbA hH.2.2 v2 dL_law_408 ?_
  refine x_cVi (q := 104) (K := 10) (C := RX12) (T := TX12) (N := 24) (n := 2) (As := [.int (xs (nI i + (1 : Int32)).toNatClampNeg), .int (xs (nI i + (2 : Int32)).toNatClampNeg)]) (rest := [.int r1]) G hH hA (c_X12_fit l E ad μ1 104 (xs (nI i + (1 : Int32)).toNatClampNeg) (xs (nI i + (2 : Int32)).toNatClampNeg) kd104 _ hq) (wm_17 _ (List.mem_of_getElem? (i := 5) rfl)) mi_X12_fit ms_X12_fit mn_RX12 mc_X12_fit rfl md_X12_fit ⟨rfl, rfl, (Nat.le_of_ble_eq_true rfl), (Nat.le_of_ble_eq_true rfl)⟩ kd104 (by decide) rfl rfl hl.1 rfl (Nat.le_of_ble_eq_true rfl) dL_law_409 ⟨(Nat.le_of_ble_eq_true rfl), (Nat.le_of_ble_eq_true rfl)⟩ (fun r2 μ2 hq H locs hH => ?_)
  obtain ⟨rfl, hI⟩ := hq
  refine lv_icmp_eq (tgt := 743) hx hb dL_law_412 (by decide) (fun _ => kb _ _ _ hI hH) (fun cq => absurd rfl cq)
set_option maxRecDepth 100000 in
set_option maxHeartbeats 4000000 in
theorem lc_7 (G : xG E p s m #[Value.ref b] meth c cL_law 4 RL) (hX : va_X b L xs s s.heap) (hbl : b < s.heap.size) (hi : i + 5 ≤ L) (hL : L ≤ 2560) (ht : t < 2 ^ 30) (hI : Inv t μ) {H : Heap} {locs : List Loc} {ls : Array Slot} (hH : xH E ad (lA s) s.heap μ H locs) (hl : lv_has ls 4 (lvL ad b i))
    (kb : ∀ (ν : xM) (H : Heap) (locs : List Loc), Inv (t + 1) ν → xH E ad (lA s) s.heap ν H locs → W p l e room_1 s m #[Value.ref b] below meth c H locs 600000 7302249 Q (F0 m 743 ls [])) : W p l e room_1 s m #[Value.ref b] below meth c H locs 600000 7302249 Q (F0 m 417 ls []) := by
  obtain ⟨hx, hb, hml, hown, hts, hKn, hN, hlk⟩ := id G
  have hA : ∀ a, s.heap.size ≤ a → lA s a := fun _ h => h
  have hbA : ¬ lA s b := Nat.not_le.mpr hbl
  refine lv_aload_n hx hb dL_law_417 rfl (lv_at hl 1 rfl) ?_
  refine x_cVi (q := 0) (K := 9) (C := RX11) (T := TX11) (N := 8) (n := 0) (As := []) (rest := []) G hH hA (c_X11_lawful l E ad μ 0  kd0 _ (op_lawful hI )) (wm_17 _ (List.mem_of_getElem? (i := 13) rfl)) mi_X11_lawful ms_X11_lawful mn_RX11 mc_X11_lawful rfl md_X11_lawful ⟨rfl, rfl, (Nat.le_of_ble_eq_true rfl), (Nat.le_of_ble_eq_true rfl)⟩ kd0 (by decide) rfl rfl hl.1 rfl (Nat.le_of_ble_eq_true rfl) dL_law_418 ⟨(Nat.le_of_ble_eq_true rfl), (Nat.le_of_ble_eq_true rfl)⟩ (fun r1 μ1 hq H locs hH => ?_)
  refine lv_aload_n hx hb dL_law_421 rfl (lv_at hl 2 rfl) ?_
  refine x_cVi (q := 104) (K := 10) (C := RX12) (T := TX12) (N := 24) (n := 0) (As := []) (rest := [.int r1]) G hH hA (c_X12_lawful l E ad μ1 104  kd104 _ hq) (wm_18 _ (List.mem_of_getElem? (i := 8) rfl)) mi_X12_lawful ms_X12_lawful mn_RX12 mc_X12_lawful rfl md_X12_lawful ⟨rfl, rfl, (Nat.le_of_ble_eq_true rfl), (Nat.le_of_ble_eq_true rfl)⟩ kd104 (by decide) rfl rfl hl.1 rfl (Nat.le_of_ble_eq_true rfl) dL_law_422 ⟨(Nat.le_of_ble_eq_true rfl), (Nat.le_of_ble_eq_true rfl)⟩ (fun r2 μ2 hq H locs hH => ?_)
  obtain ⟨rfl, hI⟩ := hq
  refine lv_icmp_eq (tgt := 743) hx hb dL_law_425 (by decide) (fun _ => kb _ _ _ hI hH) (fun cq => absurd rfl cq)
set_option maxRecDepth 100000 in
set_option maxHeartbeats 4000000 in
theorem lc_8 (G : xG E p s m #[Value.ref b] meth c cL_law 4 RL) (hX : va_X b L xs s s.heap) (hbl : b < s.heap.size) (hi : i + 5 ≤ L) (hL : L ≤ 2560) (ht : t < 2 ^ 30) (hI : Inv t μ) {H : Heap} {locs : List Loc} {ls : Array Slot} (hH : xH E ad (lA s) s.heap μ H locs) (hl : lv_has ls 4 (lvL ad b i))
    (kb : ∀ (ν : xM) (H : Heap) (locs : List Loc), Inv (t + 1) ν → xH E ad (lA s) s.heap ν H locs → W p l e room_1 s m #[Value.ref b] below meth c H locs 600000 7302249 Q (F0 m 743 ls [])) : W p l e room_1 s m #[Value.ref b] below meth c H locs 600000 7302249 Q (F0 m 430 ls []) := by
  obtain ⟨hx, hb, hml, hown, hts, hKn, hN, hlk⟩ := id G
  have hA : ∀ a, s.heap.size ≤ a → lA s a := fun _ h => h
  have hbA : ¬ lA s b := Nat.not_le.mpr hbl
  have v1 : vp_in (nI i + (1 : Int32)) L := by rw [show (1 : Int32) = nI 1 from rfl, nI_add]; exact vp_in_nI (by omega) (by omega)
  have v2 : vp_in (nI i + (2 : Int32)) L := by rw [show (2 : Int32) = nI 2 from rfl, nI_add]; exact vp_in_nI (by omega) (by omega)
  refine lv_aload_n hx hb dL_law_430 rfl (lv_at hl 1 rfl) ?_
  refine lv_aload_n hx hb dL_law_431 rfl (lv_at hl 0 rfl) ?_
  refine lv_iload_n hx hb dL_law_432 rfl (lv_at hl 3 rfl) ?_
  refine lv_iconst (v := (1 : Int32)) hx hb dL_law_433 (by decide) ?_
  refine lv_iadd hx hb dL_law_434 ?_
  refine va_sld hx hb hX hbl hbA hH.2.2 v1 dL_law_435 ?_
  refine lv_aload_n hx hb dL_law_436 rfl (lv_at hl 0 rfl) ?_
  refine lv_iload_n hx hb dL_law_437 rfl (lv_at hl 3 rfl) ?_
  refine lv_iconst (v := (2 : Int32)) hx hb dL_law_438 (by decide) ?_
  refine lv_iadd hx hb dL_law_439 ?_
  refine va_sld hx hb hX hbl hbA hH.2.2 v2 dL_law_440 ?_
  refine x_cVi (q := 0) (K := 9) (C := RX11) (T := TX11) (N := 8) (n := 2) (As := [.int (xs (nI i + (1 : Int32)).toNatClampNeg), .int (xs (nI i + (2 : Int32)).toNatClampNeg)]) (rest := []) G hH hA (c_X11_least l E ad μ 0 (xs (nI i + (1 : Int32)).toNatClampNeg) (xs (nI i + (2 : Int32)).toNatClampNeg) kd0 _ (op_least hI (xs (nI i + (1 : Int32)).toNatClampNeg) (xs (nI i + (2 : Int32)).toNatClampNeg))) (wm_19 _ (List.mem_of_getElem? (i := 4) rfl)) mi_X11_least ms_X11_least mn_RX11 mc_X11_least rfl md_X11_least ⟨rfl, rfl, (Nat.le_of_ble_eq_true rfl), (Nat.le_of_ble_eq_true rfl)⟩ kd0 (by decide) rfl rfl hl.1 rfl (Nat.le_of_ble_eq_true rfl) dL_law_441 ⟨(Nat.le_of_ble_eq_true rfl), (Nat.le_of_ble_eq_true rfl)⟩ (fun r1 μ1 hq H locs hH => ?_)
  refine lv_aload_n hx hb dL_law_444 rfl (lv_at hl 2 rfl) ?_
  refine lv_aload_n hx hb dL_law_445 rfl (lv_at hl 0 rfl) ?_
  refine lv_iload_n hx hb dL_law_446 rfl (lv_at hl 3 rfl) ?_
  refine lv_iconst (v := (1 : Int32)) hx hb dL_law_447 (by decide) ?_
  refine lv_iadd hx hb dL_law_448 ?_
  refine va_sld hx hb hX hbl hbA hH.2.2 v1 dL_law_449 ?_
  refine lv_aload_n hx hb dL_law_450 rfl (lv_at hl 0 rfl) ?_
  refine lv_iload_n hx hb dL_law_451 rfl (lv_at hl 3 rfl) ?_
  refine lv_iconst (v := (2 : Int32)) hx hb dL_law_452 (by decide) ?_
  refine lv_iadd hx hb dL_law_453 ?_
  refine va_sld hx hb hX hbl hbA hH.2.2 v2 dL_law_454 ?_
  refine x_cVi (q := 104) (K := 10) (C := RX12) (T := TX12) (N := 24) (n := 2) (As := [.int (xs (nI i + (1 : Int32)).toNatClampNeg), .int (xs (nI i + (2 : Int32)).toNatClampNeg)]) (rest := [.int r1]) G hH hA (c_X12_least l E ad μ1 104 (xs (nI i + (1 : Int32)).toNatClampNeg) (xs (nI i + (2 : Int32)).toNatClampNeg) kd104 _ hq) (wm_23 _ (List.mem_of_getElem? (i := 14) rfl)) mi_X12_least ms_X12_least mn_RX12 mc_X12_least rfl md_X12_least ⟨rfl, rfl, (Nat.le_of_ble_eq_true rfl), (Nat.le_of_ble_eq_true rfl)⟩ kd104 (by decide) rfl rfl hl.1 rfl (Nat.le_of_ble_eq_true rfl) dL_law_455 ⟨(Nat.le_of_ble_eq_true rfl), (Nat.le_of_ble_eq_true rfl)⟩ (fun r2 μ2 hq H locs hH => ?_)
  obtain ⟨rfl, hI⟩ := hq
  refine lv_icmp_eq (tgt := 743) hx hb dL_law_458 (by decide) (fun _ => kb _ _ _ hI hH) (fun cq => absurd rfl cq)
set_option maxRecDepth 100000 in
set_option maxHeartbeats 4000000 in
theorem lc_9 (G : xG E p s m #[Value.ref b] meth c cL_law 4 RL) (hX : va_X b L xs s s.heap) (hbl : b < s.heap.size) (hi : i + 5 ≤ L) (hL : L ≤ 2560) (ht : t < 2 ^ 30) (hI : Inv t μ) {H : Heap} {locs : List Loc} {ls : Array Slot} (hH : xH E ad (lA s) s.heap μ H locs) (hl : lv_has ls 4 (lvL ad b i))
    (kb : ∀ (ν : xM) (H : Heap) (locs : List Loc), Inv (t + 1) ν → xH E ad (lA s) s.heap ν H locs → W p l e room_1 s m #[Value.ref b] below meth c H locs 600000 7302249 Q (F0 m 743 ls [])) : W p l e room_1 s m #[Value.ref b] below meth c H locs 600000 7302249 Q (F0 m 463 ls []) := by
  obtain ⟨hx, hb, hml, hown, hts, hKn, hN, hlk⟩ := id G
  have hA : ∀ a, s.heap.size ≤ a → lA s a := fun _ h => h
  have hbA : ¬ lA s b := Nat.not_le.mpr hbl
  have v1 : vp_in (nI i + (1 : Int32)) L := by rw [show (1 : Int32) = nI 1 from rfl, nI_add]; exact vp_in_nI (by omega) (by omega)
  have v2 : vp_in (nI i + (2 : Int32)) L := by rw [show (2 : Int32) = nI 2 from rfl, nI_add]; exact vp_in_nI (by omega) (by omega)
  refine lv_aload_n hx hb dL_law_463 rfl (lv_at hl 1 rfl) ?_
  refine lv_aload_n hx hb dL_law_464 rfl (lv_at hl 0 rfl) ?_
  refine lv_iload_n hx hb dL_law_465 rfl (lv_at hl 3 rfl) ?_
  refine lv_iconst (v := (1 : Int32)) hx hb dL_law_466 (by decide) ?_
  refine lv_iadd hx hb dL_law_467 ?_
  refine va_sld hx hb hX hbl hbA hH.2.2 v1 dL_law_468 ?_
  refine lv_aload_n hx hb dL_law_469 rfl (lv_at hl 0 rfl) ?_
  refine lv_iload_n hx hb dL_law_470 rfl (lv_at hl 3 rfl) ?_
  refine lv_iconst (v := (2 : Int32)) hx hb dL_law_471 (by decide) ?_
  refine lv_iadd hx hb dL_law_472 ?_
  refine va_sld hx hb hX hbl hbA hH.2.2 v2 dL_law_473 ?_
  refine x_cVi (q := 0) (K := 9) (C := RX11) (T := TX11) (N := 8) (n := 2) (As := [.int (xs (nI i + (1 : Int32)).toNatClampNeg), .int (xs (nI i + (2 : Int32)).toNatClampNeg)]) (rest := []) G hH hA (c_X11_nearest l E ad μ 0 (xs (nI i + (1 : Int32)).toNatClampNeg) (xs (nI i + (2 : Int32)).toNatClampNeg) kd0 _ (op_nearest hI (xs (nI i + (1 : Int32)).toNatClampNeg) (xs (nI i + (2 : Int32)).toNatClampNeg))) (wm_25 _ (List.mem_of_getElem? (i := 1) rfl)) mi_X11_nearest ms_X11_nearest mn_RX11 mc_X11_nearest rfl md_X11_nearest ⟨rfl, rfl, (Nat.le_of_ble_eq_true rfl), (Nat.le_of_ble_eq_true rfl)⟩ kd0 (by decide) rfl rfl hl.1 rfl (Nat.le_of_ble_eq_true rfl) dL_law_474 ⟨(Nat.le_of_ble_eq_true rfl), (Nat.le_of_ble_eq_true rfl)⟩ (fun r1 μ1 hq H locs hH => ?_)
  refine lv_aload_n hx hb dL_law_477 rfl (lv_at hl 2 rfl) ?_
  refine lv_aload_n hx hb dL_law_478 rfl (lv_at hl 0 rfl) ?_
  refine lv_iload_n hx hb dL_law_479 rfl (lv_at hl 3 rfl) ?_
  refine lv_iconst (v := (1 : Int32)) hx hb dL_law_480 (by decide) ?_
  refine lv_iadd hx hb dL_law_481 ?_
  refine va_sld hx hb hX hbl hbA hH.2.2 v1 dL_law_482 ?_
  refine lv_aload_n hx hb dL_law_483 rfl (lv_at hl 0 rfl) ?_
  refine lv_iload_n hx hb dL_law_484 rfl (lv_at hl 3 rfl) ?_
  refine lv_iconst (v := (2 : Int32)) hx hb dL_law_485 (by decide) ?_
  refine lv_iadd hx hb dL_law_486 ?_
  refine va_sld hx hb hX hbl hbA hH.2.2 v2 dL_law_487 ?_
  refine x_cVi (q := 104) (K := 10) (C := RX12) (T := TX12) (N := 24) (n := 2) (As := [.int (xs (nI i + (1 : Int32)).toNatClampNeg), .int (xs (nI i + (2 : Int32)).toNatClampNeg)]) (rest := [.int r1]) G hH hA (c_X12_nearest l E ad μ1 104 (xs (nI i + (1 : Int32)).toNatClampNeg) (xs (nI i + (2 : Int32)).toNatClampNeg) kd104 _ hq) (wm_25 _ (List.mem_of_getElem? (i := 6) rfl)) mi_X12_nearest ms_X12_nearest mn_RX12 mc_X12_nearest rfl md_X12_nearest ⟨rfl, rfl, (Nat.le_of_ble_eq_true rfl), (Nat.le_of_ble_eq_true rfl)⟩ kd104 (by decide) rfl rfl hl.1 rfl (Nat.le_of_ble_eq_true rfl) dL_law_488 ⟨(Nat.le_of_ble_eq_true rfl), (Nat.le_of_ble_eq_true rfl)⟩ (fun r2 μ2 hq H locs hH => ?_)
  obtain ⟨rfl, hI⟩ := hq
  refine lv_icmp_eq (tgt := 743) hx hb dL_law_491 (by decide) (fun _ => kb _ _ _ hI hH) (fun cq => absurd rfl cq)
set_option maxRecDepth 100000 in
set_option maxHeartbeats 4000000 in
theorem lc_10 (G : xG E p s m #[Value.ref b] meth c cL_law 4 RL) (hX : va_X b L xs s s.heap) (hbl : b < s.heap.size) (hi : i + 5 ≤ L) (hL : L ≤ 2560) (ht : t < 2 ^ 30) (hI : Inv t μ) {H : Heap} {locs : List Loc} {ls : Array Slot} (hH : xH E ad (lA s) s.heap μ H locs) (hl : lv_has ls 4 (lvL ad b i))
    (kb : ∀ (ν : xM) (H : Heap) (locs : List Loc), Inv (t + 1) ν → xH E ad (lA s) s.heap ν H locs → W p l e room_1 s m #[Value.ref b] below meth c H locs 600000 7302249 Q (F0 m 743 ls [])) : W p l e room_1 s m #[Value.ref b] below meth c H locs 600000 7302249 Q (F0 m 496 ls []) := by
  obtain ⟨hx, hb, hml, hown, hts, hKn, hN, hlk⟩ := id G
  have hA : ∀ a, s.heap.size ≤ a → lA s a := fun _ h => h
  have hbA : ¬ lA s b := Nat.not_le.mpr hbl
  refine lv_aload_n hx hb dL_law_496 rfl (lv_at hl 1 rfl) ?_
  refine x_cVi (q := 0) (K := 9) (C := RX11) (T := TX11) (N := 8) (n := 0) (As := []) (rest := []) G hH hA (c_X11_sheets l E ad μ 0  kd0 _ (op_sheets ht hI )) (wm_25 _ (List.mem_of_getElem? (i := 10) rfl)) mi_X11_sheets ms_X11_sheets mn_RX11 mc_X11_sheets rfl md_X11_sheets ⟨rfl, rfl, (Nat.le_of_ble_eq_true rfl), (Nat.le_of_ble_eq_true rfl)⟩ kd0 (by decide) rfl rfl hl.1 rfl (Nat.le_of_ble_eq_true rfl) dL_law_497 ⟨(Nat.le_of_ble_eq_true rfl), (Nat.le_of_ble_eq_true rfl)⟩ (fun r1 μ1 hq H locs hH => ?_)
  refine lv_aload_n hx hb dL_law_500 rfl (lv_at hl 2 rfl) ?_
  refine x_cVi (q := 104) (K := 10) (C := RX12) (T := TX12) (N := 24) (n := 0) (As := []) (rest := [.int r1]) G hH hA (c_X12_sheets l E ad μ1 104  kd104 _ hq) (wm_25 _ (List.mem_of_getElem? (i := 16) rfl)) mi_X12_sheets ms_X12_sheets mn_RX12 mc_X12_sheets rfl md_X12_sheets ⟨rfl, rfl, (Nat.le_of_ble_eq_true rfl), (Nat.le_of_ble_eq_true rfl)⟩ kd104 (by decide) rfl rfl hl.1 rfl (Nat.le_of_ble_eq_true rfl) dL_law_501 ⟨(Nat.le_of_ble_eq_true rfl), (Nat.le_of_ble_eq_true rfl)⟩ (fun r2 μ2 hq H locs hH => ?_)
  obtain ⟨rfl, hI⟩ := hq
  refine lv_icmp_eq (tgt := 743) hx hb dL_law_504 (by decide) (fun _ => kb _ _ _ hI hH) (fun cq => absurd rfl cq)
set_option maxRecDepth 100000 in
set_option maxHeartbeats 4000000 in
theorem lc_11 (G : xG E p s m #[Value.ref b] meth c cL_law 4 RL) (hX : va_X b L xs s s.heap) (hbl : b < s.heap.size) (hi : i + 5 ≤ L) (hL : L ≤ 2560) (ht : t < 2 ^ 30) (hI : Inv t μ) {H : Heap} {locs : List Loc} {ls : Array Slot} (hH : xH E ad (lA s) s.heap μ H locs) (hl : lv_has ls 4 (lvL ad b i))
    (kb : ∀ (ν : xM) (H : Heap) (locs : List Loc), Inv (t + 1) ν → xH E ad (lA s) s.heap ν H locs → W p l e room_1 s m #[Value.ref b] below meth c H locs 600000 7302249 Q (F0 m 743 ls [])) : W p l e room_1 s m #[Value.ref b] below meth c H locs 600000 7302249 Q (F0 m 509 ls []) := by
  obtain ⟨hx, hb, hml, hown, hts, hKn, hN, hlk⟩ := id G
  have hA : ∀ a, s.heap.size ≤ a → lA s a := fun _ h => h
  have hbA : ¬ lA s b := Nat.not_le.mpr hbl
  have v1 : vp_in (nI i + (1 : Int32)) L := by rw [show (1 : Int32) = nI 1 from rfl, nI_add]; exact vp_in_nI (by omega) (by omega)
  have v2 : vp_in (nI i + (2 : Int32)) L := by rw [show (2 : Int32) = nI 2 from rfl, nI_add]; exact vp_in_nI (by omega) (by omega)
  refine lv_aload_n hx hb dL_law_509 rfl (lv_at hl 1 rfl) ?_
  refine lv_aload_n hx hb dL_law_510 rfl (lv_at hl 0 rfl) ?_
  refine lv_iload_n hx hb dL_law_511 rfl (lv_at hl 3 rfl) ?_
  refine lv_iconst (v := (1 : Int32)) hx hb dL_law_512 (by decide) ?_
  refine lv_iadd hx hb dL_law_513 ?_
  refine va_sld hx hb hX hbl hbA hH.2.2 v1 dL_law_514 ?_
  refine lv_aload_n hx hb dL_law_515 rfl (lv_at hl 0 rfl) ?_
  refine lv_iload_n hx hb dL_law_516 rfl (lv_at hl 3 rfl) ?_
  refine lv_iconst (v := (2 : Int32)) hx hb dL_law_517 (by decide) ?_
  refine lv_iadd hx hb dL_law_518 ?_
  refine va_sld hx hb hX hbl hbA hH.2.2 v2 dL_law_519 ?_
  refine x_cVi (q := 0) (K := 9) (C := RX11) (T := TX11) (N := 8) (n := 2) (As := [.int (xs (nI i + (1 : Int32)).toNatClampNeg), .int (xs (nI i + (2 : Int32)).toNatClampNeg)]) (rest := []) G hH hA (c_X11_prints l E ad μ 0 (xs (nI i + (1 : Int32)).toNatClampNeg) (xs (nI i + (2 : Int32)).toNatClampNeg) kd0 _ (op_prints hI (xs (nI i + (1 : Int32)).toNatClampNeg) (xs (nI i + (2 : Int32)).toNatClampNeg))) (wm_26 _ (List.mem_of_getElem? (i := 0) rfl)) mi_X11_prints ms_X11_prints mn_RX11 mc_X11_prints rfl md_X11_prints ⟨rfl, rfl, (Nat.le_of_ble_eq_true rfl), (Nat.le_of_ble_eq_true rfl)⟩ kd0 (by decide) rfl rfl hl.1 rfl (Nat.le_of_ble_eq_true rfl) dL_law_520 ⟨(Nat.le_of_ble_eq_true rfl), (Nat.le_of_ble_eq_true rfl)⟩ (fun r1 μ1 hq H locs hH => ?_)
  refine lv_aload_n hx hb dL_law_523 rfl (lv_at hl 2 rfl) ?_
  refine lv_aload_n hx hb dL_law_524 rfl (lv_at hl 0 rfl) ?_
  refine lv_iload_n hx hb dL_law_525 rfl (lv_at hl 3 rfl) ?_
  refine lv_iconst (v := (1 : Int32)) hx hb dL_law_526 (by decide) ?_
  refine lv_iadd hx hb dL_law_527 ?_
  refine va_sld hx hb hX hbl hbA hH.2.2 v1 dL_law_528 ?_
  refine lv_aload_n hx hb dL_law_529 rfl (lv_at hl 0 rfl) ?_
  refine lv_iload_n hx hb dL_law_530 rfl (lv_at hl 3 rfl) ?_
  refine lv_iconst (v := (2 : Int32)) hx hb dL_law_531 (by decide) ?_
  refine lv_iadd hx hb dL_law_532 ?_
  refine va_sld hx hb hX hbl hbA hH.2.2 v2 dL_law_533 ?_
  refine x_cVi (q := 104) (K := 10) (C := RX12) (T := TX12) (N := 24) (n := 2) (As := [.int (xs (nI i + (1 : Int32)).toNatClampNeg), .int (xs (nI i + (2 : Int32)).toNatClampNeg)]) (rest := [.int r1]) G hH hA (c_X12_prints l E ad μ1 104 (xs (nI i + (1 : Int32)).toNatClampNeg) (xs (nI i + (2 : Int32)).toNatClampNeg) kd104 _ hq) (wm_27 _ (List.mem_of_getElem? (i := 4) rfl)) mi_X12_prints ms_X12_prints mn_RX12 mc_X12_prints rfl md_X12_prints ⟨rfl, rfl, (Nat.le_of_ble_eq_true rfl), (Nat.le_of_ble_eq_true rfl)⟩ kd104 (by decide) rfl rfl hl.1 rfl (Nat.le_of_ble_eq_true rfl) dL_law_534 ⟨(Nat.le_of_ble_eq_true rfl), (Nat.le_of_ble_eq_true rfl)⟩ (fun r2 μ2 hq H locs hH => ?_)
  obtain ⟨rfl, hI⟩ := hq
  refine lv_icmp_eq (tgt := 743) hx hb dL_law_537 (by decide) (fun _ => kb _ _ _ hI hH) (fun cq => absurd rfl cq)
set_option maxRecDepth 100000 in
set_option maxHeartbeats 4000000 in
theorem lc_12 (G : xG E p s m #[Value.ref b] meth c cL_law 4 RL) (hX : va_X b L xs s s.heap) (hbl : b < s.heap.size) (hi : i + 5 ≤ L) (hL : L ≤ 2560) (ht : t < 2 ^ 30) (hI : Inv t μ) {H : Heap} {locs : List Loc} {ls : Array Slot} (hH : xH E ad (lA s) s.heap μ H locs) (hl : lv_has ls 4 (lvL ad b i))
    (kb : ∀ (ν : xM) (H : Heap) (locs : List Loc), Inv (t + 1) ν → xH E ad (lA s) s.heap ν H locs → W p l e room_1 s m #[Value.ref b] below meth c H locs 600000 7302249 Q (F0 m 743 ls [])) : W p l e room_1 s m #[Value.ref b] below meth c H locs 600000 7302249 Q (F0 m 542 ls []) := by
  obtain ⟨hx, hb, hml, hown, hts, hKn, hN, hlk⟩ := id G
  have hA : ∀ a, s.heap.size ≤ a → lA s a := fun _ h => h
  have hbA : ¬ lA s b := Nat.not_le.mpr hbl
  refine lv_aload_n hx hb dL_law_542 rfl (lv_at hl 1 rfl) ?_
  refine x_cVi (q := 0) (K := 9) (C := RX11) (T := TX11) (N := 8) (n := 0) (As := []) (rest := []) G hH hA (c_X11_news l E ad μ 0  kd0 _ (op_news hI )) (wm_27 _ (List.mem_of_getElem? (i := 20) rfl)) mi_X11_news ms_X11_news mn_RX11 mc_X11_news rfl md_X11_news ⟨rfl, rfl, (Nat.le_of_ble_eq_true rfl), (Nat.le_of_ble_eq_true rfl)⟩ kd0 (by decide) rfl rfl hl.1 rfl (Nat.le_of_ble_eq_true rfl) dL_law_543 ⟨(Nat.le_of_ble_eq_true rfl), (Nat.le_of_ble_eq_true rfl)⟩ (fun r1 μ1 hq H locs hH => ?_)
  refine lv_aload_n hx hb dL_law_546 rfl (lv_at hl 2 rfl) ?_
  refine x_cVi (q := 104) (K := 10) (C := RX12) (T := TX12) (N := 24) (n := 0) (As := []) (rest := [.int r1]) G hH hA (c_X12_news l E ad μ1 104  kd104 _ hq) (wm_28 _ (List.mem_of_getElem? (i := 5) rfl)) mi_X12_news ms_X12_news mn_RX12 mc_X12_news rfl md_X12_news ⟨rfl, rfl, (Nat.le_of_ble_eq_true rfl), (Nat.le_of_ble_eq_true rfl)⟩ kd104 (by decide) rfl rfl hl.1 rfl (Nat.le_of_ble_eq_true rfl) dL_law_547 ⟨(Nat.le_of_ble_eq_true rfl), (Nat.le_of_ble_eq_true rfl)⟩ (fun r2 μ2 hq H locs hH => ?_)
  obtain ⟨rfl, hI⟩ := hq
  refine lv_icmp_eq (tgt := 743) hx hb dL_law_550 (by decide) (fun _ => kb _ _ _ hI hH) (fun cq => absurd rfl cq)
set_option maxRecDepth 100000 in
set_option maxHeartbeats 4000000 in
theorem lc_13 (G : xG E p s m #[Value.ref b] meth c cL_law 4 RL) (hX : va_X b L xs s s.heap) (hbl : b < s.heap.size) (hi : i + 5 ≤ L) (hL : L ≤ 2560) (ht : t < 2 ^ 30) (hI : Inv t μ) {H : Heap} {locs : List Loc} {ls : Array Slot} (hH : xH E ad (lA s) s.heap μ H locs) (hl : lv_has ls 4 (lvL ad b i))
    (kb : ∀ (ν : xM) (H : Heap) (locs : List Loc), Inv (t + 1) ν → xH E ad (lA s) s.heap ν H locs → W p l e room_1 s m #[Value.ref b] below meth c H locs 600000 7302249 Q (F0 m 743 ls [])) : W p l e room_1 s m #[Value.ref b] below meth c H locs 600000 7302249 Q (F0 m 555 ls []) := by
  obtain ⟨hx, hb, hml, hown, hts, hKn, hN, hlk⟩ := id G
  have hA : ∀ a, s.heap.size ≤ a → lA s a := fun _ h => h
  have hbA : ¬ lA s b := Nat.not_le.mpr hbl
  have v1 : vp_in (nI i + (1 : Int32)) L := by rw [show (1 : Int32) = nI 1 from rfl, nI_add]; exact vp_in_nI (by omega) (by omega)
  have v2 : vp_in (nI i + (2 : Int32)) L := by rw [show (2 : Int32) = nI 2 from rfl, nI_add]; exact vp_in_nI (by omega) (by omega)
  refine lv_aload_n hx hb dL_law_555 rfl (lv_at hl 1 rfl) ?_
  refine lv_aload_n hx hb dL_law_556 rfl (lv_at hl 0 rfl) ?_
  refine lv_iload_n hx hb dL_law_557 rfl (lv_at hl 3 rfl) ?_
  refine lv_iconst (v := (1 : Int32)) hx hb dL_law_558 (by decide) ?_
  refine lv_iadd hx hb dL_law_559 ?_
  refine va_sld hx hb hX hbl hbA hH.2.2 v1 dL_law_560 ?_
  refine lv_aload_n hx hb dL_law_561 rfl (lv_at hl 0 rfl) ?_
  refine lv_iload_n hx hb dL_law_562 rfl (lv_at hl 3 rfl) ?_
  refine lv_iconst (v := (2 : Int32)) hx hb dL_law_563 (by decide) ?_
  refine lv_iadd hx hb dL_law_564 ?_
  refine va_sld hx hb hX hbl hbA hH.2.2 v2 dL_law_565 ?_
  refine x_cVi (q := 0) (K := 9) (C := RX11) (T := TX11) (N := 8) (n := 2) (As := [.int (xs (nI i + (1 : Int32)).toNatClampNeg), .int (xs (nI i + (2 : Int32)).toNatClampNeg)]) (rest := []) G hH hA (c_X11_cell l E ad μ 0 (xs (nI i + (1 : Int32)).toNatClampNeg) (xs (nI i + (2 : Int32)).toNatClampNeg) kd0 _ (op_cell hI (xs (nI i + (1 : Int32)).toNatClampNeg) (xs (nI i + (2 : Int32)).toNatClampNeg))) (wm_28 _ (List.mem_of_getElem? (i := 13) rfl)) mi_X11_cell ms_X11_cell mn_RX11 mc_X11_cell rfl md_X11_cell ⟨rfl, rfl, (Nat.le_of_ble_eq_true rfl), (Nat.le_of_ble_eq_true rfl)⟩ kd0 (by decide) rfl rfl hl.1 rfl (Nat.le_of_ble_eq_true rfl) dL_law_566 ⟨(Nat.le_of_ble_eq_true rfl), (Nat.le_of_ble_eq_true rfl)⟩ (fun r1 μ1 hq H locs hH => ?_)
  refine lv_aload_n hx hb dL_law_569 rfl (lv_at hl 2 rfl) ?_
  refine lv_aload_n hx hb dL_law_570 rfl (lv_at hl 0 rfl) ?_
  refine lv_iload_n hx hb dL_law_571 rfl (lv_at hl 3 rfl) ?_
  refine lv_iconst (v := (1 : Int32)) hx hb dL_law_572 (by decide) ?_
  refine lv_iadd hx hb dL_law_573 ?_
  refine va_sld hx hb hX hbl hbA hH.2.2 v1 dL_law_574 ?_
  refine lv_aload_n hx hb dL_law_575 rfl (lv_at hl 0 rfl) ?_
  refine lv_iload_n hx hb dL_law_576 rfl (lv_at hl 3 rfl) ?_
  refine lv_iconst (v := (2 : Int32)) hx hb dL_law_577 (by decide) ?_
  refine lv_iadd hx hb dL_law_578 ?_
  refine va_sld hx hb hX hbl hbA hH.2.2 v2 dL_law_579 ?_
  refine x_cVi (q := 104) (K := 10) (C := RX12) (T := TX12) (N := 24) (n := 2) (As := [.int (xs (nI i + (1 : Int32)).toNatClampNeg), .int (xs (nI i + (2 : Int32)).toNatClampNeg)]) (rest := [.int r1]) G hH hA (c_X12_cell l E ad μ1 104 (xs (nI i + (1 : Int32)).toNatClampNeg) (xs (nI i + (2 : Int32)).toNatClampNeg) kd104 _ hq) (wm_29 _ (List.mem_of_getElem? (i := 5) rfl)) mi_X12_cell ms_X12_cell mn_RX12 mc_X12_cell rfl md_X12_cell ⟨rfl, rfl, (Nat.le_of_ble_eq_true rfl), (Nat.le_of_ble_eq_true rfl)⟩ kd104 (by decide) rfl rfl hl.1 rfl (Nat.le_of_ble_eq_true rfl) dL_law_580 ⟨(Nat.le_of_ble_eq_true rfl), (Nat.le_of_ble_eq_true rfl)⟩ (fun r2 μ2 hq H locs hH => ?_)
  obtain ⟨rfl, hI⟩ := hq
  refine lv_icmp_eq (tgt := 743) hx hb dL_law_583 (by decide) (fun _ => kb _ _ _ hI hH) (fun cq => absurd rfl cq)
set_option maxRecDepth 100000 in
set_option maxHeartbeats 4000000 in
theorem lc_14 (G : xG E p s m #[Value.ref b] meth c cL_law 4 RL) (hX : va_X b L xs s s.heap) (hbl : b < s.heap.size) (hi : i + 5 ≤ L) (hL : L ≤ 2560) (ht : t < 2 ^ 30) (hI : Inv t μ) {H : Heap} {locs : List Loc} {ls : Array Slot} (hH : xH E ad (lA s) s.heap μ H locs) (hl : lv_has ls 4 (lvL ad b i))
    (kb : ∀ (ν : xM) (H : Heap) (locs : List Loc), Inv (t + 1) ν → xH E ad (lA s) s.heap ν H locs → W p l e room_1 s m #[Value.ref b] below meth c H locs 600000 7302249 Q (F0 m 743 ls [])) : W p l e room_1 s m #[Value.ref b] below meth c H locs 600000 7302249 Q (F0 m 588 ls []) := by
  obtain ⟨hx, hb, hml, hown, hts, hKn, hN, hlk⟩ := id G
  have hA : ∀ a, s.heap.size ≤ a → lA s a := fun _ h => h
  have hbA : ¬ lA s b := Nat.not_le.mpr hbl
  have v1 : vp_in (nI i + (1 : Int32)) L := by rw [show (1 : Int32) = nI 1 from rfl, nI_add]; exact vp_in_nI (by omega) (by omega)
  refine lv_aload_n hx hb dL_law_588 rfl (lv_at hl 1 rfl) ?_
  refine lv_aload_n hx hb dL_law_589 rfl (lv_at hl 0 rfl) ?_
  refine lv_iload_n hx hb dL_law_590 rfl (lv_at hl 3 rfl) ?_
  refine lv_iconst (v := (1 : Int32)) hx hb dL_law_591 (by decide) ?_
  refine lv_iadd hx hb dL_law_592 ?_
  refine va_sld hx hb hX hbl hbA hH.2.2 v1 dL_law_593 ?_
  refine x_cVi (q := 0) (K := 9) (C := RX11) (T := TX11) (N := 8) (n := 1) (As := [.int (xs (nI i + (1 : Int32)).toNatClampNeg)]) (rest := []) G hH hA (c_X11_hand l E ad μ 0 (xs (nI i + (1 : Int32)).toNatClampNeg) kd0 _ (op_hand hI (xs (nI i + (1 : Int32)).toNatClampNeg))) (wm_29 _ (List.mem_of_getElem? (i := 17) rfl)) mi_X11_hand ms_X11_hand mn_RX11 mc_X11_hand rfl md_X11_hand ⟨rfl, rfl, (Nat.le_of_ble_eq_true rfl), (Nat.le_of_ble_eq_true rfl)⟩ kd0 (by decide) rfl rfl hl.1 rfl (Nat.le_of_ble_eq_true rfl) dL_law_594 ⟨(Nat.le_of_ble_eq_true rfl), (Nat.le_of_ble_eq_true rfl)⟩ (fun r1 μ1 hq H locs hH => ?_)
  refine lv_aload_n hx hb dL_law_597 rfl (lv_at hl 2 rfl) ?_
  refine lv_aload_n hx hb dL_law_598 rfl (lv_at hl 0 rfl) ?_
  refine lv_iload_n hx hb dL_law_599 rfl (lv_at hl 3 rfl) ?_
  refine lv_iconst (v := (1 : Int32)) hx hb dL_law_600 (by decide) ?_
  refine lv_iadd hx hb dL_law_601 ?_
  refine va_sld hx hb hX hbl hbA hH.2.2 v1 dL_law_602 ?_
  refine x_cVi (q := 104) (K := 10) (C := RX12) (T := TX12) (N := 24) (n := 1) (As := [.int (xs (nI i + (1 : Int32)).toNatClampNeg)]) (rest := [.int r1]) G hH hA (c_X12_hand l E ad μ1 104 (xs (nI i + (1 : Int32)).toNatClampNeg) kd104 _ hq) (wm_30 _ (List.mem_of_getElem? (i := 7) rfl)) mi_X12_hand ms_X12_hand mn_RX12 mc_X12_hand rfl md_X12_hand ⟨rfl, rfl, (Nat.le_of_ble_eq_true rfl), (Nat.le_of_ble_eq_true rfl)⟩ kd104 (by decide) rfl rfl hl.1 rfl (Nat.le_of_ble_eq_true rfl) dL_law_603 ⟨(Nat.le_of_ble_eq_true rfl), (Nat.le_of_ble_eq_true rfl)⟩ (fun r2 μ2 hq H locs hH => ?_)
  obtain ⟨rfl, hI⟩ := hq
  refine lv_icmp_eq (tgt := 743) hx hb dL_law_606 (by decide) (fun _ => kb _ _ _ hI hH) (fun cq => absurd rfl cq)
set_option maxRecDepth 100000 in
set_option maxHeartbeats 4000000 in
theorem lc_15 (G : xG E p s m #[Value.ref b] meth c cL_law 4 RL) (hX : va_X b L xs s s.heap) (hbl : b < s.heap.size) (hi : i + 5 ≤ L) (hL : L ≤ 2560) (ht : t < 2 ^ 30) (hI : Inv t μ) {H : Heap} {locs : List Loc} {ls : Array Slot} (hH : xH E ad (lA s) s.heap μ H locs) (hl : lv_has ls 4 (lvL ad b i))
    (kb : ∀ (ν : xM) (H : Heap) (locs : List Loc), Inv (t + 1) ν → xH E ad (lA s) s.heap ν H locs → W p l e room_1 s m #[Value.ref b] below meth c H locs 600000 7302249 Q (F0 m 743 ls [])) : W p l e room_1 s m #[Value.ref b] below meth c H locs 600000 7302249 Q (F0 m 611 ls []) := by
  obtain ⟨hx, hb, hml, hown, hts, hKn, hN, hlk⟩ := id G
  have hA : ∀ a, s.heap.size ≤ a → lA s a := fun _ h => h
  have hbA : ¬ lA s b := Nat.not_le.mpr hbl
  have v1 : vp_in (nI i + (1 : Int32)) L := by rw [show (1 : Int32) = nI 1 from rfl, nI_add]; exact vp_in_nI (by omega) (by omega)
  have v2 : vp_in (nI i + (2 : Int32)) L := by rw [show (2 : Int32) = nI 2 from rfl, nI_add]; exact vp_in_nI (by omega) (by omega)
  refine lv_aload_n hx hb dL_law_611 rfl (lv_at hl 1 rfl) ?_
  refine lv_aload_n hx hb dL_law_612 rfl (lv_at hl 0 rfl) ?_
  refine lv_iload_n hx hb dL_law_613 rfl (lv_at hl 3 rfl) ?_
  refine lv_iconst (v := (1 : Int32)) hx hb dL_law_614 (by decide) ?_
  refine lv_iadd hx hb dL_law_615 ?_
  refine va_sld hx hb hX hbl hbA hH.2.2 v1 dL_law_616 ?_
  refine lv_aload_n hx hb dL_law_617 rfl (lv_at hl 0 rfl) ?_
  refine lv_iload_n hx hb dL_law_618 rfl (lv_at hl 3 rfl) ?_
  refine lv_iconst (v := (2 : Int32)) hx hb dL_law_619 (by decide) ?_
  refine lv_iadd hx hb dL_law_620 ?_
  refine va_sld hx hb hX hbl hbA hH.2.2 v2 dL_law_621 ?_
  refine x_cVi (q := 0) (K := 9) (C := RX11) (T := TX11) (N := 8) (n := 2) (As := [.int (xs (nI i + (1 : Int32)).toNatClampNeg), .int (xs (nI i + (2 : Int32)).toNatClampNeg)]) (rest := []) G hH hA (c_X11_print l E ad μ 0 (xs (nI i + (1 : Int32)).toNatClampNeg) (xs (nI i + (2 : Int32)).toNatClampNeg) kd0 _ (op_print hI (xs (nI i + (1 : Int32)).toNatClampNeg) (xs (nI i + (2 : Int32)).toNatClampNeg))) (wm_30 _ (List.mem_of_getElem? (i := 15) rfl)) mi_X11_print ms_X11_print mn_RX11 mc_X11_print rfl md_X11_print ⟨rfl, rfl, (Nat.le_of_ble_eq_true rfl), (Nat.le_of_ble_eq_true rfl)⟩ kd0 (by decide) rfl rfl hl.1 rfl (Nat.le_of_ble_eq_true rfl) dL_law_622 ⟨(Nat.le_of_ble_eq_true rfl), (Nat.le_of_ble_eq_true rfl)⟩ (fun r1 μ1 hq H locs hH => ?_)
  refine lv_aload_n hx hb dL_law_625 rfl (lv_at hl 2 rfl) ?_
  refine lv_aload_n hx hb dL_law_626 rfl (lv_at hl 0 rfl) ?_
  refine lv_iload_n hx hb dL_law_627 rfl (lv_at hl 3 rfl) ?_
  refine lv_iconst (v := (1 : Int32)) hx hb dL_law_628 (by decide) ?_
  refine lv_iadd hx hb dL_law_629 ?_
  refine va_sld hx hb hX hbl hbA hH.2.2 v1 dL_law_630 ?_
  refine lv_aload_n hx hb dL_law_631 rfl (lv_at hl 0 rfl) ?_
  refine lv_iload_n hx hb dL_law_632 rfl (lv_at hl 3 rfl) ?_
  refine lv_iconst (v := (2 : Int32)) hx hb dL_law_633 (by decide) ?_
  refine lv_iadd hx hb dL_law_634 ?_
  refine va_sld hx hb hX hbl hbA hH.2.2 v2 dL_law_635 ?_
  refine x_cVi (q := 104) (K := 10) (C := RX12) (T := TX12) (N := 24) (n := 2) (As := [.int (xs (nI i + (1 : Int32)).toNatClampNeg), .int (xs (nI i + (2 : Int32)).toNatClampNeg)]) (rest := [.int r1]) G hH hA (c_X12_print l E ad μ1 104 (xs (nI i + (1 : Int32)).toNatClampNeg) (xs (nI i + (2 : Int32)).toNatClampNeg) kd104 _ hq) (wm_30 _ (List.mem_of_getElem? (i := 22) rfl)) mi_X12_print ms_X12_print mn_RX12 mc_X12_print rfl md_X12_print ⟨rfl, rfl, (Nat.le_of_ble_eq_true rfl), (Nat.le_of_ble_eq_true rfl)⟩ kd104 (by decide) rfl rfl hl.1 rfl (Nat.le_of_ble_eq_true rfl) dL_law_636 ⟨(Nat.le_of_ble_eq_true rfl), (Nat.le_of_ble_eq_true rfl)⟩ (fun r2 μ2 hq H locs hH => ?_)
  obtain ⟨rfl, hI⟩ := hq
  refine lv_icmp_eq (tgt := 743) hx hb dL_law_639 (by decide) (fun _ => kb _ _ _ hI hH) (fun cq => absurd rfl cq)
set_option maxRecDepth 100000 in
set_option maxHeartbeats 4000000 in
theorem lc_16 (G : xG E p s m #[Value.ref b] meth c cL_law 4 RL) (hX : va_X b L xs s s.heap) (hbl : b < s.heap.size) (hi : i + 5 ≤ L) (hL : L ≤ 2560) (ht : t < 2 ^ 30) (hI : Inv t μ) {H : Heap} {locs : List Loc} {ls : Array Slot} (hH : xH E ad (lA s) s.heap μ H locs) (hl : lv_has ls 4 (lvL ad b i))
    (kb : ∀ (ν : xM) (H : Heap) (locs : List Loc), Inv (t + 1) ν → xH E ad (lA s) s.heap ν H locs → W p l e room_1 s m #[Value.ref b] below meth c H locs 600000 7302249 Q (F0 m 743 ls [])) : W p l e room_1 s m #[Value.ref b] below meth c H locs 600000 7302249 Q (F0 m 644 ls []) := by
  obtain ⟨hx, hb, hml, hown, hts, hKn, hN, hlk⟩ := id G
  have hA : ∀ a, s.heap.size ≤ a → lA s a := fun _ h => h
  have hbA : ¬ lA s b := Nat.not_le.mpr hbl
  have v1 : vp_in (nI i + (1 : Int32)) L := by rw [show (1 : Int32) = nI 1 from rfl, nI_add]; exact vp_in_nI (by omega) (by omega)
  refine lv_aload_n hx hb dL_law_644 rfl (lv_at hl 1 rfl) ?_
  refine lv_aload_n hx hb dL_law_645 rfl (lv_at hl 0 rfl) ?_
  refine lv_iload_n hx hb dL_law_646 rfl (lv_at hl 3 rfl) ?_
  refine lv_iconst (v := (1 : Int32)) hx hb dL_law_647 (by decide) ?_
  refine lv_iadd hx hb dL_law_648 ?_
  refine va_sld hx hb hX hbl hbA hH.2.2 v1 dL_law_649 ?_
  refine x_cVi (q := 0) (K := 9) (C := RX11) (T := TX11) (N := 8) (n := 1) (As := [.int (xs (nI i + (1 : Int32)).toNatClampNeg)]) (rest := []) G hH hA (c_X11_type l E ad μ 0 (xs (nI i + (1 : Int32)).toNatClampNeg) kd0 _ (op_type hI (xs (nI i + (1 : Int32)).toNatClampNeg))) (wm_31 _ (List.mem_of_getElem? (i := 2) rfl)) mi_X11_type ms_X11_type mn_RX11 mc_X11_type rfl md_X11_type ⟨rfl, rfl, (Nat.le_of_ble_eq_true rfl), (Nat.le_of_ble_eq_true rfl)⟩ kd0 (by decide) rfl rfl hl.1 rfl (Nat.le_of_ble_eq_true rfl) dL_law_650 ⟨(Nat.le_of_ble_eq_true rfl), (Nat.le_of_ble_eq_true rfl)⟩ (fun r1 μ1 hq H locs hH => ?_)
  refine lv_aload_n hx hb dL_law_653 rfl (lv_at hl 2 rfl) ?_
  refine lv_aload_n hx hb dL_law_654 rfl (lv_at hl 0 rfl) ?_
  refine lv_iload_n hx hb dL_law_655 rfl (lv_at hl 3 rfl) ?_
  refine lv_iconst (v := (1 : Int32)) hx hb dL_law_656 (by decide) ?_
  refine lv_iadd hx hb dL_law_657 ?_
  refine va_sld hx hb hX hbl hbA hH.2.2 v1 dL_law_658 ?_
  refine x_cVi (q := 104) (K := 10) (C := RX12) (T := TX12) (N := 24) (n := 1) (As := [.int (xs (nI i + (1 : Int32)).toNatClampNeg)]) (rest := [.int r1]) G hH hA (c_X12_type l E ad μ1 104 (xs (nI i + (1 : Int32)).toNatClampNeg) kd104 _ hq) (wm_31 _ (List.mem_of_getElem? (i := 12) rfl)) mi_X12_type ms_X12_type mn_RX12 mc_X12_type rfl md_X12_type ⟨rfl, rfl, (Nat.le_of_ble_eq_true rfl), (Nat.le_of_ble_eq_true rfl)⟩ kd104 (by decide) rfl rfl hl.1 rfl (Nat.le_of_ble_eq_true rfl) dL_law_659 ⟨(Nat.le_of_ble_eq_true rfl), (Nat.le_of_ble_eq_true rfl)⟩ (fun r2 μ2 hq H locs hH => ?_)
  obtain ⟨rfl, hI⟩ := hq
  refine lv_icmp_eq (tgt := 743) hx hb dL_law_662 (by decide) (fun _ => kb _ _ _ hI hH) (fun cq => absurd rfl cq)
set_option maxRecDepth 100000 in
set_option maxHeartbeats 4000000 in
theorem lc_17 (G : xG E p s m #[Value.ref b] meth c cL_law 4 RL) (hX : va_X b L xs s s.heap) (hbl : b < s.heap.size) (hi : i + 5 ≤ L) (hL : L ≤ 2560) (ht : t < 2 ^ 30) (hI : Inv t μ) {H : Heap} {locs : List Loc} {ls : Array Slot} (hH : xH E ad (lA s) s.heap μ H locs) (hl : lv_has ls 4 (lvL ad b i))
    (kb : ∀ (ν : xM) (H : Heap) (locs : List Loc), Inv (t + 1) ν → xH E ad (lA s) s.heap ν H locs → W p l e room_1 s m #[Value.ref b] below meth c H locs 600000 7302249 Q (F0 m 743 ls [])) : W p l e room_1 s m #[Value.ref b] below meth c H locs 600000 7302249 Q (F0 m 667 ls []) := by
  obtain ⟨hx, hb, hml, hown, hts, hKn, hN, hlk⟩ := id G
  have hA : ∀ a, s.heap.size ≤ a → lA s a := fun _ h => h
  have hbA : ¬ lA s b := Nat.not_le.mpr hbl
  refine lv_aload_n hx hb dL_law_667 rfl (lv_at hl 1 rfl) ?_
  refine x_cVi (q := 0) (K := 9) (C := RX11) (T := TX11) (N := 8) (n := 0) (As := []) (rest := []) G hH hA (c_X11_clear l E ad μ 0  kd0 _ (op_clear hI )) (wm_31 _ (List.mem_of_getElem? (i := 17) rfl)) mi_X11_clear ms_X11_clear mn_RX11 mc_X11_clear rfl md_X11_clear ⟨rfl, rfl, (Nat.le_of_ble_eq_true rfl), (Nat.le_of_ble_eq_true rfl)⟩ kd0 (by decide) rfl rfl hl.1 rfl (Nat.le_of_ble_eq_true rfl) dL_law_668 ⟨(Nat.le_of_ble_eq_true rfl), (Nat.le_of_ble_eq_true rfl)⟩ (fun r1 μ1 hq H locs hH => ?_)
  refine lv_aload_n hx hb dL_law_671 rfl (lv_at hl 2 rfl) ?_
  refine x_cVi (q := 104) (K := 10) (C := RX12) (T := TX12) (N := 24) (n := 0) (As := []) (rest := [.int r1]) G hH hA (c_X12_clear l E ad μ1 104  kd104 _ hq) (wm_31 _ (List.mem_of_getElem? (i := 21) rfl)) mi_X12_clear ms_X12_clear mn_RX12 mc_X12_clear rfl md_X12_clear ⟨rfl, rfl, (Nat.le_of_ble_eq_true rfl), (Nat.le_of_ble_eq_true rfl)⟩ kd104 (by decide) rfl rfl hl.1 rfl (Nat.le_of_ble_eq_true rfl) dL_law_672 ⟨(Nat.le_of_ble_eq_true rfl), (Nat.le_of_ble_eq_true rfl)⟩ (fun r2 μ2 hq H locs hH => ?_)
  obtain ⟨rfl, hI⟩ := hq
  refine lv_icmp_eq (tgt := 743) hx hb dL_law_675 (by decide) (fun _ => kb _ _ _ hI hH) (fun cq => absurd rfl cq)
set_option maxRecDepth 100000 in
set_option maxHeartbeats 4000000 in
theorem lc_18 (G : xG E p s m #[Value.ref b] meth c cL_law 4 RL) (hX : va_X b L xs s s.heap) (hbl : b < s.heap.size) (hi : i + 5 ≤ L) (hL : L ≤ 2560) (ht : t < 2 ^ 30) (hI : Inv t μ) {H : Heap} {locs : List Loc} {ls : Array Slot} (hH : xH E ad (lA s) s.heap μ H locs) (hl : lv_has ls 4 (lvL ad b i))
    (kb : ∀ (ν : xM) (H : Heap) (locs : List Loc), Inv (t + 1) ν → xH E ad (lA s) s.heap ν H locs → W p l e room_1 s m #[Value.ref b] below meth c H locs 600000 7302249 Q (F0 m 743 ls [])) : W p l e room_1 s m #[Value.ref b] below meth c H locs 600000 7302249 Q (F0 m 680 ls []) := by
  obtain ⟨hx, hb, hml, hown, hts, hKn, hN, hlk⟩ := id G
  have hA : ∀ a, s.heap.size ≤ a → lA s a := fun _ h => h
  have hbA : ¬ lA s b := Nat.not_le.mpr hbl
  refine lv_aload_n hx hb dL_law_680 rfl (lv_at hl 1 rfl) ?_
  refine x_cVi (q := 0) (K := 9) (C := RX11) (T := TX11) (N := 8) (n := 0) (As := []) (rest := []) G hH hA (c_X11_reads l E ad μ 0  kd0 _ (op_reads hI )) (wm_32 _ (List.mem_of_getElem? (i := 1) rfl)) mi_X11_reads ms_X11_reads mn_RX11 mc_X11_reads rfl md_X11_reads ⟨rfl, rfl, (Nat.le_of_ble_eq_true rfl), (Nat.le_of_ble_eq_true rfl)⟩ kd0 (by decide) rfl rfl hl.1 rfl (Nat.le_of_ble_eq_true rfl) dL_law_681 ⟨(Nat.le_of_ble_eq_true rfl), (Nat.le_of_ble_eq_true rfl)⟩ (fun r1 μ1 hq H locs hH => ?_)
  refine lv_aload_n hx hb dL_law_684 rfl (lv_at hl 2 rfl) ?_
  refine x_cVi (q := 104) (K := 10) (C := RX12) (T := TX12) (N := 24) (n := 0) (As := []) (rest := [.int r1]) G hH hA (c_X12_reads l E ad μ1 104  kd104 _ hq) (wm_34 _ (List.mem_of_getElem? (i := 13) rfl)) mi_X12_reads ms_X12_reads mn_RX12 mc_X12_reads rfl md_X12_reads ⟨rfl, rfl, (Nat.le_of_ble_eq_true rfl), (Nat.le_of_ble_eq_true rfl)⟩ kd104 (by decide) rfl rfl hl.1 rfl (Nat.le_of_ble_eq_true rfl) dL_law_685 ⟨(Nat.le_of_ble_eq_true rfl), (Nat.le_of_ble_eq_true rfl)⟩ (fun r2 μ2 hq H locs hH => ?_)
  obtain ⟨rfl, hI⟩ := hq
  refine lv_icmp_eq (tgt := 743) hx hb dL_law_688 (by decide) (fun _ => kb _ _ _ hI hH) (fun cq => absurd rfl cq)
set_option maxRecDepth 100000 in
set_option maxHeartbeats 4000000 in
theorem lc_19 (G : xG E p s m #[Value.ref b] meth c cL_law 4 RL) (hX : va_X b L xs s s.heap) (hbl : b < s.heap.size) (hi : i + 5 ≤ L) (hL : L ≤ 2560) (ht : t < 2 ^ 30) (hI : Inv t μ) {H : Heap} {locs : List Loc} {ls : Array Slot} (hH : xH E ad (lA s) s.heap μ H locs) (hl : lv_has ls 4 (lvL ad b i))
    (kb : ∀ (ν : xM) (H : Heap) (locs : List Loc), Inv (t + 1) ν → xH E ad (lA s) s.heap ν H locs → W p l e room_1 s m #[Value.ref b] below meth c H locs 600000 7302249 Q (F0 m 743 ls [])) : W p l e room_1 s m #[Value.ref b] below meth c H locs 600000 7302249 Q (F0 m 693 ls []) := by
  obtain ⟨hx, hb, hml, hown, hts, hKn, hN, hlk⟩ := id G
  have hA : ∀ a, s.heap.size ≤ a → lA s a := fun _ h => h
  have hbA : ¬ lA s b := Nat.not_le.mpr hbl
  refine lv_aload_n hx hb dL_law_693 rfl (lv_at hl 1 rfl) ?_
  refine x_cVi (q := 0) (K := 9) (C := RX11) (T := TX11) (N := 8) (n := 0) (As := []) (rest := []) G hH hA (c_X11_back l E ad μ 0  kd0 _ (op_back hI )) (wm_35 _ (List.mem_of_getElem? (i := 23) rfl)) mi_X11_back ms_X11_back mn_RX11 mc_X11_back rfl md_X11_back ⟨rfl, rfl, (Nat.le_of_ble_eq_true rfl), (Nat.le_of_ble_eq_true rfl)⟩ kd0 (by decide) rfl rfl hl.1 rfl (Nat.le_of_ble_eq_true rfl) dL_law_694 ⟨(Nat.le_of_ble_eq_true rfl), (Nat.le_of_ble_eq_true rfl)⟩ (fun r1 μ1 hq H locs hH => ?_)
  refine lv_aload_n hx hb dL_law_697 rfl (lv_at hl 2 rfl) ?_
  refine x_cVi (q := 104) (K := 10) (C := RX12) (T := TX12) (N := 24) (n := 0) (As := []) (rest := [.int r1]) G hH hA (c_X12_back l E ad μ1 104  kd104 _ hq) (wm_36 _ (List.mem_of_getElem? (i := 8) rfl)) mi_X12_back ms_X12_back mn_RX12 mc_X12_back rfl md_X12_back ⟨rfl, rfl, (Nat.le_of_ble_eq_true rfl), (Nat.le_of_ble_eq_true rfl)⟩ kd104 (by decide) rfl rfl hl.1 rfl (Nat.le_of_ble_eq_true rfl) dL_law_698 ⟨(Nat.le_of_ble_eq_true rfl), (Nat.le_of_ble_eq_true rfl)⟩ (fun r2 μ2 hq H locs hH => ?_)
  obtain ⟨rfl, hI⟩ := hq
  refine lv_icmp_eq (tgt := 743) hx hb dL_law_701 (by decide) (fun _ => kb _ _ _ hI hH) (fun cq => absurd rfl cq)
set_option maxRecDepth 100000 in
set_option maxHeartbeats 4000000 in
theorem lc_20 (G : xG E p s m #[Value.ref b] meth c cL_law 4 RL) (hX : va_X b L xs s s.heap) (hbl : b < s.heap.size) (hi : i + 5 ≤ L) (hL : L ≤ 2560) (ht : t < 2 ^ 30) (hI : Inv t μ) {H : Heap} {locs : List Loc} {ls : Array Slot} (hH : xH E ad (lA s) s.heap μ H locs) (hl : lv_has ls 4 (lvL ad b i))
    (kb : ∀ (ν : xM) (H : Heap) (locs : List Loc), Inv (t + 1) ν → xH E ad (lA s) s.heap ν H locs → W p l e room_1 s m #[Value.ref b] below meth c H locs 600000 7302249 Q (F0 m 743 ls [])) : W p l e room_1 s m #[Value.ref b] below meth c H locs 600000 7302249 Q (F0 m 706 ls []) := by
  obtain ⟨hx, hb, hml, hown, hts, hKn, hN, hlk⟩ := id G
  have hA : ∀ a, s.heap.size ≤ a → lA s a := fun _ h => h
  have hbA : ¬ lA s b := Nat.not_le.mpr hbl
  have v1 : vp_in (nI i + (1 : Int32)) L := by rw [show (1 : Int32) = nI 1 from rfl, nI_add]; exact vp_in_nI (by omega) (by omega)
  refine lv_aload_n hx hb dL_law_706 rfl (lv_at hl 1 rfl) ?_
  refine lv_aload_n hx hb dL_law_707 rfl (lv_at hl 0 rfl) ?_
  refine lv_iload_n hx hb dL_law_708 rfl (lv_at hl 3 rfl) ?_
  refine lv_iconst (v := (1 : Int32)) hx hb dL_law_709 (by decide) ?_
  refine lv_iadd hx hb dL_law_710 ?_
  refine va_sld hx hb hX hbl hbA hH.2.2 v1 dL_law_711 ?_
  refine x_cVi (q := 0) (K := 9) (C := RX11) (T := TX11) (N := 8) (n := 1) (As := [.int (xs (nI i + (1 : Int32)).toNatClampNeg)]) (rest := []) G hH hA (c_X11_told l E ad μ 0 (xs (nI i + (1 : Int32)).toNatClampNeg) kd0 _ (op_told hI (xs (nI i + (1 : Int32)).toNatClampNeg))) (wm_36 _ (List.mem_of_getElem? (i := 12) rfl)) mi_X11_told ms_X11_told mn_RX11 mc_X11_told rfl md_X11_told ⟨rfl, rfl, (Nat.le_of_ble_eq_true rfl), (Nat.le_of_ble_eq_true rfl)⟩ kd0 (by decide) rfl rfl hl.1 rfl (Nat.le_of_ble_eq_true rfl) dL_law_712 ⟨(Nat.le_of_ble_eq_true rfl), (Nat.le_of_ble_eq_true rfl)⟩ (fun r1 μ1 hq H locs hH => ?_)
  refine lv_aload_n hx hb dL_law_715 rfl (lv_at hl 2 rfl) ?_
  refine lv_aload_n hx hb dL_law_716 rfl (lv_at hl 0 rfl) ?_
  refine lv_iload_n hx hb dL_law_717 rfl (lv_at hl 3 rfl) ?_
  refine lv_iconst (v := (1 : Int32)) hx hb dL_law_718 (by decide) ?_
  refine lv_iadd hx hb dL_law_719 ?_
  refine va_sld hx hb hX hbl hbA hH.2.2 v1 dL_law_720 ?_
  refine x_cVi (q := 104) (K := 10) (C := RX12) (T := TX12) (N := 24) (n := 1) (As := [.int (xs (nI i + (1 : Int32)).toNatClampNeg)]) (rest := [.int r1]) G hH hA (c_X12_told l E ad μ1 104 (xs (nI i + (1 : Int32)).toNatClampNeg) kd104 _ hq) (wm_36 _ (List.mem_of_getElem? (i := 16) rfl)) mi_X12_told ms_X12_told mn_RX12 mc_X12_told rfl md_X12_told ⟨rfl, rfl, (Nat.le_of_ble_eq_true rfl), (Nat.le_of_ble_eq_true rfl)⟩ kd104 (by decide) rfl rfl hl.1 rfl (Nat.le_of_ble_eq_true rfl) dL_law_721 ⟨(Nat.le_of_ble_eq_true rfl), (Nat.le_of_ble_eq_true rfl)⟩ (fun r2 μ2 hq H locs hH => ?_)
  obtain ⟨rfl, hI⟩ := hq
  refine lv_icmp_eq (tgt := 743) hx hb dL_law_724 (by decide) (fun _ => kb _ _ _ hI hH) (fun cq => absurd rfl cq)
set_option maxRecDepth 100000 in
set_option maxHeartbeats 4000000 in
theorem lc_21 (G : xG E p s m #[Value.ref b] meth c cL_law 4 RL) (hX : va_X b L xs s s.heap) (hbl : b < s.heap.size) (hi : i + 5 ≤ L) (hL : L ≤ 2560) (ht : t < 2 ^ 30) (hI : Inv t μ) {H : Heap} {locs : List Loc} {ls : Array Slot} (hH : xH E ad (lA s) s.heap μ H locs) (hl : lv_has ls 4 (lvL ad b i))
    (kb : ∀ (ν : xM) (H : Heap) (locs : List Loc), Inv (t + 1) ν → xH E ad (lA s) s.heap ν H locs → W p l e room_1 s m #[Value.ref b] below meth c H locs 600000 7302249 Q (F0 m 743 ls [])) : W p l e room_1 s m #[Value.ref b] below meth c H locs 600000 7302249 Q (F0 m 729 ls []) := by
  obtain ⟨hx, hb, hml, hown, hts, hKn, hN, hlk⟩ := id G
  have hA : ∀ a, s.heap.size ≤ a → lA s a := fun _ h => h
  have hbA : ¬ lA s b := Nat.not_le.mpr hbl
  refine lv_aload_n hx hb dL_law_729 rfl (lv_at hl 1 rfl) ?_
  refine x_cVl (q := 0) (K := 9) (C := RX11) (T := TX11) (N := 8) (n := 0) (As := []) (rest := []) G hH hA (c_X11_digest l E ad μ 0  kd0 _ (op_digest hI )) (wm_37 _ (List.mem_of_getElem? (i := 0) rfl)) mi_X11_digest ms_X11_digest mn_RX11 mc_X11_digest rfl md_X11_digest ⟨rfl, rfl, (Nat.le_of_ble_eq_true rfl), (Nat.le_of_ble_eq_true rfl)⟩ kd0 (by decide) rfl rfl hl.1 rfl (Nat.le_of_ble_eq_true rfl) dL_law_730 ⟨(Nat.le_of_ble_eq_true rfl), (Nat.le_of_ble_eq_true rfl)⟩ (fun r1 μ1 hq H locs hH => ?_)
  refine lv_aload_n hx hb dL_law_733 rfl (lv_at hl 2 rfl) ?_
  refine x_cVl (q := 104) (K := 10) (C := RX12) (T := TX12) (N := 24) (n := 0) (As := []) (rest := [.long r1]) G hH hA (c_X12_digest l E ad μ1 104  kd104 _ hq) (wm_37 _ (List.mem_of_getElem? (i := 12) rfl)) mi_X12_digest ms_X12_digest mn_RX12 mc_X12_digest rfl md_X12_digest ⟨rfl, rfl, (Nat.le_of_ble_eq_true rfl), (Nat.le_of_ble_eq_true rfl)⟩ kd104 (by decide) rfl rfl hl.1 rfl (Nat.le_of_ble_eq_true rfl) dL_law_734 ⟨(Nat.le_of_ble_eq_true rfl), (Nat.le_of_ble_eq_true rfl)⟩ (fun r2 μ2 hq H locs hH => ?_)
  refine W.lcmp hx hb dL_law_737 ?_
  obtain ⟨rfl, hI⟩ := hq
  refine lv_if_eq (tgt := 743) hx hb dL_law_738 (by decide) (fun _ => kb _ _ _ hI hH) (fun cq => absurd (cmp_s _) cq)
theorem lsub5 {L i : Nat} (hL : L ≤ 2560) (hi : i ≤ 2565) (h : ¬ Int32.ofNat L - 5 < nI i) : i + 5 ≤ L := by
  rcases Nat.lt_or_ge L 5 with q | q
  · exfalso
    apply h
    have h0 : Int32.ofNat L - 5 < nI 0 := by
      have : ∀ x, x < 5 → Int32.ofNat x - 5 < nI 0 := by decide +kernel
      exact this L q
    have h1 : nI 0 ≤ nI i := nI_le (Nat.zero_le _) (by omega)
    exact Int32.lt_of_lt_of_le h0 h1
  · have e : Int32.ofNat L - 5 = nI (L - 5) := pk_sub (b := 5) q
    rw [e] at h
    rcases Nat.lt_or_ge (L - 5) i with q2 | q2
    · exact absurd (nI_lt q2 (by omega)) h
    · omega
set_option maxRecDepth 100000 in
set_option maxHeartbeats 4000000 in
theorem l_sw (G : xG E p s m #[Value.ref b] meth c cL_law 4 RL) (hX : va_X b L xs s s.heap) (hbl : b < s.heap.size) (hi : i + 5 ≤ L) (hL : L ≤ 2560) (ht : t < 2 ^ 30) (hI : Inv t μ) {H : Heap} {locs : List Loc} {ls : Array Slot} (hH : xH E ad (lA s) s.heap μ H locs) (hl : lv_has ls 4 (lvL ad b i))
    (kb : ∀ (ν : xM) (H : Heap) (locs : List Loc), Inv (t + 1) ν → xH E ad (lA s) s.heap ν H locs → W p l e room_1 s m #[Value.ref b] below meth c H locs 600000 7302249 Q (F0 m 743 ls [])) (x : Int32) : W p l e room_1 s m #[Value.ref b] below meth c H locs 600000 7302249 Q (F0 m 32 ls [.int x]) := by
  obtain ⟨hx, hb, hml, hown, hts, hKn, hN, hlk⟩ := id G
  rcases Decidable.em (x = (0 : Int32)) with c0 | c0
  · refine lv_tableIn (off := 104) (tgt := 136) hx hb dL_law_32 (by rw [c0]; decide) (by rw [c0]; decide) (by rw [c0]; rfl) (by decide) ?_
    exact lc_0 G hX hbl hi hL ht hI hH hl kb
  rcases Decidable.em (x = (1 : Int32)) with c1 | c1
  · refine lv_tableIn (off := 157) (tgt := 189) hx hb dL_law_32 (by rw [c1]; decide) (by rw [c1]; decide) (by rw [c1]; rfl) (by decide) ?_
    exact lc_1 G hX hbl hi hL ht hI hH hl kb
  rcases Decidable.em (x = (2 : Int32)) with c2 | c2
  · refine lv_tableIn (off := 200) (tgt := 232) hx hb dL_law_32 (by rw [c2]; decide) (by rw [c2]; decide) (by rw [c2]; rfl) (by decide) ?_
    exact lc_2 G hX hbl hi hL ht hI hH hl kb
  rcases Decidable.em (x = (3 : Int32)) with c3 | c3
  · refine lv_tableIn (off := 243) (tgt := 275) hx hb dL_law_32 (by rw [c3]; decide) (by rw [c3]; decide) (by rw [c3]; rfl) (by decide) ?_
    exact lc_3 G hX hbl hi hL ht hI hH hl kb
  rcases Decidable.em (x = (4 : Int32)) with c4 | c4
  · refine lv_tableIn (off := 276) (tgt := 308) hx hb dL_law_32 (by rw [c4]; decide) (by rw [c4]; decide) (by rw [c4]; rfl) (by decide) ?_
    exact lc_4 G hX hbl hi hL ht hI hH hl kb
  rcases Decidable.em (x = (5 : Int32)) with c5 | c5
  · refine lv_tableIn (off := 309) (tgt := 341) hx hb dL_law_32 (by rw [c5]; decide) (by rw [c5]; decide) (by rw [c5]; rfl) (by decide) ?_
    exact lc_5 G hX hbl hi hL ht hI hH hl kb
  rcases Decidable.em (x = (6 : Int32)) with c6 | c6
  · refine lv_tableIn (off := 352) (tgt := 384) hx hb dL_law_32 (by rw [c6]; decide) (by rw [c6]; decide) (by rw [c6]; rfl) (by decide) ?_
    exact lc_6 G hX hbl hi hL ht hI hH hl kb
  rcases Decidable.em (x = (7 : Int32)) with c7 | c7
  · refine lv_tableIn (off := 385) (tgt := 417) hx hb dL_law_32 (by rw [c7]; decide) (by rw [c7]; decide) (by rw [c7]; rfl) (by decide) ?_
    exact lc_7 G hX hbl hi hL ht hI hH hl kb
  rcases Decidable.em (x = (8 : Int32)) with c8 | c8
  · refine lv_tableIn (off := 398) (tgt := 430) hx hb dL_law_32 (by rw [c8]; decide) (by rw [c8]; decide) (by rw [c8]; rfl) (by decide) ?_
    exact lc_8 G hX hbl hi hL ht hI hH hl kb
  rcases Decidable.em (x = (9 : Int32)) with c9 | c9
  · refine lv_tableIn (off := 431) (tgt := 463) hx hb dL_law_32 (by rw [c9]; decide) (by rw [c9]; decide) (by rw [c9]; rfl) (by decide) ?_
    exact lc_9 G hX hbl hi hL ht hI hH hl kb
  rcases Decidable.em (x = (10 : Int32)) with c10 | c10
  · refine lv_tableIn (off := 464) (tgt := 496) hx hb dL_law_32 (by rw [c10]; decide) (by rw [c10]; decide) (by rw [c10]; rfl) (by decide) ?_
    exact lc_10 G hX hbl hi hL ht hI hH hl kb
  rcases Decidable.em (x = (11 : Int32)) with c11 | c11
  · refine lv_tableIn (off := 477) (tgt := 509) hx hb dL_law_32 (by rw [c11]; decide) (by rw [c11]; decide) (by rw [c11]; rfl) (by decide) ?_
    exact lc_11 G hX hbl hi hL ht hI hH hl kb
  rcases Decidable.em (x = (12 : Int32)) with c12 | c12
  · refine lv_tableIn (off := 510) (tgt := 542) hx hb dL_law_32 (by rw [c12]; decide) (by rw [c12]; decide) (by rw [c12]; rfl) (by decide) ?_
    exact lc_12 G hX hbl hi hL ht hI hH hl kb
  rcases Decidable.em (x = (13 : Int32)) with c13 | c13
  · refine lv_tableIn (off := 523) (tgt := 555) hx hb dL_law_32 (by rw [c13]; decide) (by rw [c13]; decide) (by rw [c13]; rfl) (by decide) ?_
    exact lc_13 G hX hbl hi hL ht hI hH hl kb
  rcases Decidable.em (x = (14 : Int32)) with c14 | c14
  · refine lv_tableIn (off := 556) (tgt := 588) hx hb dL_law_32 (by rw [c14]; decide) (by rw [c14]; decide) (by rw [c14]; rfl) (by decide) ?_
    exact lc_14 G hX hbl hi hL ht hI hH hl kb
  rcases Decidable.em (x = (15 : Int32)) with c15 | c15
  · refine lv_tableIn (off := 579) (tgt := 611) hx hb dL_law_32 (by rw [c15]; decide) (by rw [c15]; decide) (by rw [c15]; rfl) (by decide) ?_
    exact lc_15 G hX hbl hi hL ht hI hH hl kb
  rcases Decidable.em (x = (16 : Int32)) with c16 | c16
  · refine lv_tableIn (off := 612) (tgt := 644) hx hb dL_law_32 (by rw [c16]; decide) (by rw [c16]; decide) (by rw [c16]; rfl) (by decide) ?_
    exact lc_16 G hX hbl hi hL ht hI hH hl kb
  rcases Decidable.em (x = (17 : Int32)) with c17 | c17
  · refine lv_tableIn (off := 635) (tgt := 667) hx hb dL_law_32 (by rw [c17]; decide) (by rw [c17]; decide) (by rw [c17]; rfl) (by decide) ?_
    exact lc_17 G hX hbl hi hL ht hI hH hl kb
  rcases Decidable.em (x = (18 : Int32)) with c18 | c18
  · refine lv_tableIn (off := 648) (tgt := 680) hx hb dL_law_32 (by rw [c18]; decide) (by rw [c18]; decide) (by rw [c18]; rfl) (by decide) ?_
    exact lc_18 G hX hbl hi hL ht hI hH hl kb
  rcases Decidable.em (x = (19 : Int32)) with c19 | c19
  · refine lv_tableIn (off := 661) (tgt := 693) hx hb dL_law_32 (by rw [c19]; decide) (by rw [c19]; decide) (by rw [c19]; rfl) (by decide) ?_
    exact lc_19 G hX hbl hi hL ht hI hH hl kb
  rcases Decidable.em (x = (20 : Int32)) with c20 | c20
  · refine lv_tableIn (off := 674) (tgt := 706) hx hb dL_law_32 (by rw [c20]; decide) (by rw [c20]; decide) (by rw [c20]; rfl) (by decide) ?_
    exact lc_20 G hX hbl hi hL ht hI hH hl kb
  rcases Decidable.em (x = (21 : Int32)) with c21 | c21
  · refine lv_tableIn (off := 697) (tgt := 729) hx hb dL_law_32 (by rw [c21]; decide) (by rw [c21]; decide) (by rw [c21]; rfl) (by decide) ?_
    exact lc_21 G hX hbl hi hL ht hI hH hl kb
  have g0 := lv_neT c0 (a := 0) (by decide)
  have g1 := lv_neT c1 (a := 1) (by decide)
  have g2 := lv_neT c2 (a := 2) (by decide)
  have g3 := lv_neT c3 (a := 3) (by decide)
  have g4 := lv_neT c4 (a := 4) (by decide)
  have g5 := lv_neT c5 (a := 5) (by decide)
  have g6 := lv_neT c6 (a := 6) (by decide)
  have g7 := lv_neT c7 (a := 7) (by decide)
  have g8 := lv_neT c8 (a := 8) (by decide)
  have g9 := lv_neT c9 (a := 9) (by decide)
  have g10 := lv_neT c10 (a := 10) (by decide)
  have g11 := lv_neT c11 (a := 11) (by decide)
  have g12 := lv_neT c12 (a := 12) (by decide)
  have g13 := lv_neT c13 (a := 13) (by decide)
  have g14 := lv_neT c14 (a := 14) (by decide)
  have g15 := lv_neT c15 (a := 15) (by decide)
  have g16 := lv_neT c16 (a := 16) (by decide)
  have g17 := lv_neT c17 (a := 17) (by decide)
  have g18 := lv_neT c18 (a := 18) (by decide)
  have g19 := lv_neT c19 (a := 19) (by decide)
  have g20 := lv_neT c20 (a := 20) (by decide)
  have g21 := lv_neT c21 (a := 21) (by decide)
  refine lv_tableOut (tgt := 743) hx hb dL_law_32 (by omega) (by decide) ?_
  exact kb μ H locs (inv_up hI) hH
set_option maxRecDepth 100000 in
set_option maxHeartbeats 4000000 in
theorem l_loop (G : xG E p s m #[Value.ref b] meth c cL_law 4 RL) (hr : meth.sig.returnType = ret) (hX : va_X b L xs s s.heap) (hbl : b < s.heap.size) (hL : L ≤ 2560) : ∀ (n t : Nat) (μ : xM), L < 5 * t + n → 5 * t ≤ 2565 → Inv t μ → ∀ (H : Heap) (locs : List Loc) (ls : Array Slot), xH E ad (lA s) s.heap μ H locs → lv_has ls 4 (lvL ad b (5 * t)) → W p l e room_1 s m #[Value.ref b] below meth c H locs 600000 7302249 (lw_Z below #[Value.ref b] s) (F0 m 18 ls [])
  | n, t, μ, hn, ht, hI, H, locs, ls, hH, hl => by
    obtain ⟨hx, hb, hml, hown, hts, hKn, hN, hlk⟩ := id G
    have hbA : ¬ lA s b := Nat.not_le.mpr hbl
    refine lv_iload_n hx hb dL_law_18 rfl (lv_at hl 3 rfl) ?_
    refine lv_aload_n hx hb dL_law_19 rfl (lv_at hl 0 rfl) ?_
    refine va_slen hx hb hX hbl hbA hH.2.2 dL_law_20 ?_
    refine lv_iconst (v := (5 : Int32)) hx hb dL_law_21 (by decide) ?_
    refine lv_isub hx hb dL_law_22 ?_
    refine lv_icmp_gt (tgt := 749) hx hb dL_law_23 (by decide) (fun cq => ?_) (fun cq => ?_)
    · refine lv_iconst (v := 1) hx hb dL_law_749 (by decide) ?_
      refine va_forget (fun q hq => hH.2.2.2.2 q hq) ?_
      exact lw_ret hx hb hr hlk dL_law_750
    · have hi : 5 * t + 5 ≤ L := lsub5 hL ht cq
      have v0 : vp_in (nI (5 * t)) L := vp_in_nI (by omega) (by omega)
      refine lv_aload_n hx hb dL_law_26 rfl (lv_at hl 0 rfl) ?_
      refine lv_iload_n hx hb dL_law_27 rfl (lv_at hl 3 rfl) ?_
      refine va_sld hx hb hX hbl hbA hH.2.2 v0 dL_law_28 ?_
      refine lv_bipush (v := (31 : Int32)) hx hb dL_law_29 (by decide) ?_
      refine lv_iand hx hb dL_law_31 ?_
      refine l_sw (t := t) (i := 5 * t) G hX hbl hi hL (by omega) hI hH hl (fun ν H locs hI2 hH2 => ?_) _
      obtain ⟨v3, ev3⟩ : ∃ y : Int32, y = nI (5 * t) + 5 := ⟨_, rfl⟩
      have ev4 : v3 = nI (5 * (t + 1)) := by rw [ev3, show (5 : Int32) = nI 5 from rfl, nI_add, show 5 * t + 5 = 5 * (t + 1) by omega]
      refine lv_iinc (v := v3) (lv' := [(3, .int v3), (0, .ref b), (1, .ref (ad 0)), (2, .ref (ad 104))]) hx hb dL_law_743 hl (k := 3) rfl (by rw [ev3]; rfl) (by decide) rfl (fun ls hl => ?_)
      refine lv_goto (tgt := 18) hx hb dL_law_746 (by decide) ?_
      subst ev4
      match n, hn with
      | 0, hn => exact absurd hn (by omega)
      | n + 1, hn => exact l_loop G hr hX hbl hL n (t + 1) ν (by omega) (by omega) hI2 H locs ls hH2 (lv_sub hl [1, 2, 3, 0] rfl)
end LAW
