set_option maxRecDepth 100000 in
set_option maxHeartbeats 4000000 in
theorem law_c0 {p : Program} {l : Launch} {e : Env} {s : State} {m : MethodId} {below : List Frame} {meth : Method} {c : Code} {b L : Nat} {xs : Nat → Int32} {dC : Nat → ClassId} {dI : Nat → Nat → Nat} {cA : Nat → ClassId} {adK adV P Q : Nat → Nat} (hL : L ≤ 2560) (C0 : lw_At p s m meth c b L xs) (hKL : KL dC dI cA adK adV (fun q => s.heap.size ≤ q) s) (hPQ : PQ P Q s.heap.size) {i : Nat} (hi : i + 5 ≤ L) {z : TA} (ok : okA z) {S Sm : St} (hx1 : XA S z) (hm1 : MA Sm z) {H : Heap} {locs : List Loc} {ls : Array Slot} (hVX : VX dC dI cA P S H) (hVM : VM dC dI cA Q Sm H) (hS : va_S (fun q => s.heap.size ≤ q) s.heap H locs) (hl : lv_has ls 4 [(3, .int (nI i)), (2, .ref (Q 0)), (1, .ref (P 0)), (0, .ref b)])
    (kk : ∀ (z : TA) (S Sm : St) (H : Heap) (locs : List Loc), okA z → XA S z → MA Sm z → VX dC dI cA P S H → VM dC dI cA Q Sm H → va_S (fun q => s.heap.size ≤ q) s.heap H locs → W p l e room_1 s m #[Value.ref b] below meth c H locs 81 9740 (lw_Z below #[Value.ref b] s) (F0 m 1292 ls [])) : W p l e room_1 s m #[Value.ref b] below meth c H locs 81 9740 (lw_Z below #[Value.ref b] s) (F0 m 192 ls []) := by
  obtain ⟨hx, hb, hr, hml, hown, hts0, hX, hbl, hlocks, hgv⟩ := C0
  have hts : ∀ w ∈ G, w.before #[Value.ref b] s = true := fun w hw => hts0 w (G_tbl hw)
  have hown : s.vm.findClass RL = some m.cls := hown
  have hbA : ¬ (fun q : Nat => s.heap.size ≤ q) b := Nat.not_le.mpr hbl
  have v1 : vp_in (nI i + 1) L := by rw [show nI i + 1 = nI (i + 1) from nI_add i 1]; exact vp_in_nI (by omega) (by omega)
  have v2 : vp_in (nI i + 2) L := by rw [show nI i + 2 = nI (i + 2) from nI_add i 2]; exact vp_in_nI (by omega) (by omega)
  have v3 : vp_in (nI i + 3) L := by rw [show nI i + 3 = nI (i + 3) from nI_add i 3]; exact vp_in_nI (by omega) (by omega)
  have v4 : vp_in (nI i + 4) L := by rw [show nI i + 4 = nI (i + 4) from nI_add i 4]; exact vp_in_nI (by omega) (by omega)
  refine lv_aload_n hx hb dL_law_192 rfl (lv_at hl 2 rfl) ?_
  refine lv_aload_n hx hb dL_law_193 rfl (lv_at hl 3 rfl) ?_
  refine lv_iload_n hx hb dL_law_194 rfl (lv_at hl 0 rfl) ?_
  refine lv_iconst (v := 1) hx hb dL_law_195 (by decide) ?_
  refine lv_iadd hx hb dL_law_196 ?_
  refine va_sld hx hb hX hbl hbA hS v1 dL_law_197 ?_
  refine lv_aload_n hx hb dL_law_198 rfl (lv_at hl 3 rfl) ?_
  refine lv_iload_n hx hb dL_law_199 rfl (lv_at hl 0 rfl) ?_
  refine lv_iconst (v := 2) hx hb dL_law_200 (by decide) ?_
  refine lv_iadd hx hb dL_law_201 ?_
  refine va_sld hx hb hX hbl hbA hS v2 dL_law_202 ?_
  refine lv_aload_n hx hb dL_law_203 rfl (lv_at hl 3 rfl) ?_
  refine lv_iload_n hx hb dL_law_204 rfl (lv_at hl 0 rfl) ?_
  refine lv_iconst (v := 3) hx hb dL_law_205 (by decide) ?_
  refine lv_iadd hx hb dL_law_206 ?_
  refine va_sld hx hb hX hbl hbA hS v3 dL_law_207 ?_
  refine law_xi (rest := []) hPQ hVM hS (va_runV (As := [.int _, .int _, .int _]) (rest := []) ⟨hx, hb, hml, hown, hts⟩ (c_X8_fraction l hPQ.1 (xa_fraction ok hx1 _ _ _)) (cwV 3 hts gv_L_13 rfl rfl rfl hv_X8_fraction ⟨Nat.le_of_ble_eq_true rfl, Nat.le_of_ble_eq_true rfl⟩) (preXL hKL hVX hS hPQ) rfl rfl hl.1 rfl (lv_room (Nat.le_of_ble_eq_true rfl)) dL_law_208 ⟨Nat.le_of_ble_eq_true rfl, Nat.le_of_ble_eq_true rfl⟩) (fun r1 S H locs hr1 hVX hVM hS => ?_)
  refine lv_aload_n hx hb dL_law_211 rfl (lv_at hl 1 rfl) ?_
  refine lv_aload_n hx hb dL_law_212 rfl (lv_at hl 3 rfl) ?_
  refine lv_iload_n hx hb dL_law_213 rfl (lv_at hl 0 rfl) ?_
  refine lv_iconst (v := 1) hx hb dL_law_214 (by decide) ?_
  refine lv_iadd hx hb dL_law_215 ?_
  refine va_sld hx hb hX hbl hbA hS v1 dL_law_216 ?_
  refine lv_aload_n hx hb dL_law_217 rfl (lv_at hl 3 rfl) ?_
  refine lv_iload_n hx hb dL_law_218 rfl (lv_at hl 0 rfl) ?_
  refine lv_iconst (v := 2) hx hb dL_law_219 (by decide) ?_
  refine lv_iadd hx hb dL_law_220 ?_
  refine va_sld hx hb hX hbl hbA hS v2 dL_law_221 ?_
  refine lv_aload_n hx hb dL_law_222 rfl (lv_at hl 3 rfl) ?_
  refine lv_iload_n hx hb dL_law_223 rfl (lv_at hl 0 rfl) ?_
  refine lv_iconst (v := 3) hx hb dL_law_224 (by decide) ?_
  refine lv_iadd hx hb dL_law_225 ?_
  refine va_sld hx hb hX hbl hbA hS v3 dL_law_226 ?_
  refine law_mi (rest := [.int r1]) hPQ hVX hS (va_runV (As := [.int _, .int _, .int _]) (rest := [.int r1]) ⟨hx, hb, hml, hown, hts⟩ (c_X9_fraction l hPQ.2.1 (ma_fraction ok hm1 _ _ _)) (cwV 3 hts gv_L_17 rfl rfl rfl hv_X9_fraction ⟨Nat.le_of_ble_eq_true rfl, Nat.le_of_ble_eq_true rfl⟩) (preML hKL.1 hVM) rfl rfl hl.1 rfl (lv_room (Nat.le_of_ble_eq_true rfl)) dL_law_227 ⟨Nat.le_of_ble_eq_true rfl, Nat.le_of_ble_eq_true rfl⟩) (fun r2 Sm H locs hr2 hVX hVM hS => ?_)
  exact lv_icmp_eq (tgt := 1292) hx hb dL_law_230 (by decide) (fun _ => kk _ S Sm H locs (ka_fraction ok _ _ _) hr1.2 hr2.2 hVX hVM hS) (fun c9 => absurd (hr1.1.trans hr2.1.symm) c9)
set_option maxRecDepth 100000 in
set_option maxHeartbeats 4000000 in
theorem law_c1 {p : Program} {l : Launch} {e : Env} {s : State} {m : MethodId} {below : List Frame} {meth : Method} {c : Code} {b L : Nat} {xs : Nat → Int32} {dC : Nat → ClassId} {dI : Nat → Nat → Nat} {cA : Nat → ClassId} {adK adV P Q : Nat → Nat} (hL : L ≤ 2560) (C0 : lw_At p s m meth c b L xs) (hKL : KL dC dI cA adK adV (fun q => s.heap.size ≤ q) s) (hPQ : PQ P Q s.heap.size) {i : Nat} (hi : i + 5 ≤ L) {z : TA} (ok : okA z) {S Sm : St} (hx1 : XA S z) (hm1 : MA Sm z) {H : Heap} {locs : List Loc} {ls : Array Slot} (hVX : VX dC dI cA P S H) (hVM : VM dC dI cA Q Sm H) (hS : va_S (fun q => s.heap.size ≤ q) s.heap H locs) (hl : lv_has ls 4 [(3, .int (nI i)), (2, .ref (Q 0)), (1, .ref (P 0)), (0, .ref b)])
    (kk : ∀ (z : TA) (S Sm : St) (H : Heap) (locs : List Loc), okA z → XA S z → MA Sm z → VX dC dI cA P S H → VM dC dI cA Q Sm H → va_S (fun q => s.heap.size ≤ q) s.heap H locs → W p l e room_1 s m #[Value.ref b] below meth c H locs 81 9740 (lw_Z below #[Value.ref b] s) (F0 m 1292 ls [])) : W p l e room_1 s m #[Value.ref b] below meth c H locs 81 9740 (lw_Z below #[Value.ref b] s) (F0 m 235 ls []) := by
  obtain ⟨hx, hb, hr, hml, hown, hts0, hX, hbl, hlocks, hgv⟩ := C0
  have hts : ∀ w ∈ G, w.before #[Value.ref b] s = true := fun w hw => hts0 w (G_tbl hw)
  have hown : s.vm.findClass RL = some m.cls := hown
  have hbA : ¬ (fun q : Nat => s.heap.size ≤ q) b := Nat.not_le.mpr hbl
  have v1 : vp_in (nI i + 1) L := by rw [show nI i + 1 = nI (i + 1) from nI_add i 1]; exact vp_in_nI (by omega) (by omega)
  have v2 : vp_in (nI i + 2) L := by rw [show nI i + 2 = nI (i + 2) from nI_add i 2]; exact vp_in_nI (by omega) (by omega)
  have v3 : vp_in (nI i + 3) L := by rw [show nI i + 3 = nI (i + 3) from nI_add i 3]; exact vp_in_nI (by omega) (by omega)
  have v4 : vp_in (nI i + 4) L := by rw [show nI i + 4 = nI (i + 4) from nI_add i 4]; exact vp_in_nI (by omega) (by omega)
  refine lv_aload_n hx hb dL_law_235 rfl (lv_at hl 2 rfl) ?_
  refine lv_aload_n hx hb dL_law_236 rfl (lv_at hl 3 rfl) ?_
  refine lv_iload_n hx hb dL_law_237 rfl (lv_at hl 0 rfl) ?_
  refine lv_iconst (v := 1) hx hb dL_law_238 (by decide) ?_
  refine lv_iadd hx hb dL_law_239 ?_
  refine va_sld hx hb hX hbl hbA hS v1 dL_law_240 ?_
  refine law_xi (rest := []) hPQ hVM hS (va_runV (As := [.int _]) (rest := []) ⟨hx, hb, hml, hown, hts⟩ (c_X8_drop l hPQ.1 (xa_drop ok hx1 _)) (cwV 1 hts gv_L_18 rfl rfl rfl hv_X8_drop ⟨Nat.le_of_ble_eq_true rfl, Nat.le_of_ble_eq_true rfl⟩) (preXL hKL hVX hS hPQ) rfl rfl hl.1 rfl (lv_room (Nat.le_of_ble_eq_true rfl)) dL_law_241 ⟨Nat.le_of_ble_eq_true rfl, Nat.le_of_ble_eq_true rfl⟩) (fun r1 S H locs hr1 hVX hVM hS => ?_)
  refine lv_aload_n hx hb dL_law_244 rfl (lv_at hl 1 rfl) ?_
  refine lv_aload_n hx hb dL_law_245 rfl (lv_at hl 3 rfl) ?_
  refine lv_iload_n hx hb dL_law_246 rfl (lv_at hl 0 rfl) ?_
  refine lv_iconst (v := 1) hx hb dL_law_247 (by decide) ?_
  refine lv_iadd hx hb dL_law_248 ?_
  refine va_sld hx hb hX hbl hbA hS v1 dL_law_249 ?_
  refine law_mi (rest := [.int r1]) hPQ hVX hS (va_runV (As := [.int _]) (rest := [.int r1]) ⟨hx, hb, hml, hown, hts⟩ (c_X9_drop l hPQ.2.1 (ma_drop ok hm1 _)) (cwV 1 hts gv_L_22 rfl rfl rfl hv_X9_drop ⟨Nat.le_of_ble_eq_true rfl, Nat.le_of_ble_eq_true rfl⟩) (preML hKL.1 hVM) rfl rfl hl.1 rfl (lv_room (Nat.le_of_ble_eq_true rfl)) dL_law_250 ⟨Nat.le_of_ble_eq_true rfl, Nat.le_of_ble_eq_true rfl⟩) (fun r2 Sm H locs hr2 hVX hVM hS => ?_)
  exact lv_icmp_eq (tgt := 1292) hx hb dL_law_253 (by decide) (fun _ => kk _ S Sm H locs (ka_drop ok _) hr1.2 hr2.2 hVX hVM hS) (fun c9 => absurd (hr1.1.trans hr2.1.symm) c9)
set_option maxRecDepth 100000 in
set_option maxHeartbeats 4000000 in
theorem law_c2 {p : Program} {l : Launch} {e : Env} {s : State} {m : MethodId} {below : List Frame} {meth : Method} {c : Code} {b L : Nat} {xs : Nat → Int32} {dC : Nat → ClassId} {dI : Nat → Nat → Nat} {cA : Nat → ClassId} {adK adV P Q : Nat → Nat} (hL : L ≤ 2560) (C0 : lw_At p s m meth c b L xs) (hKL : KL dC dI cA adK adV (fun q => s.heap.size ≤ q) s) (hPQ : PQ P Q s.heap.size) {i : Nat} (hi : i + 5 ≤ L) {z : TA} (ok : okA z) {S Sm : St} (hx1 : XA S z) (hm1 : MA Sm z) {H : Heap} {locs : List Loc} {ls : Array Slot} (hVX : VX dC dI cA P S H) (hVM : VM dC dI cA Q Sm H) (hS : va_S (fun q => s.heap.size ≤ q) s.heap H locs) (hl : lv_has ls 4 [(3, .int (nI i)), (2, .ref (Q 0)), (1, .ref (P 0)), (0, .ref b)])
    (kk : ∀ (z : TA) (S Sm : St) (H : Heap) (locs : List Loc), okA z → XA S z → MA Sm z → VX dC dI cA P S H → VM dC dI cA Q Sm H → va_S (fun q => s.heap.size ≤ q) s.heap H locs → W p l e room_1 s m #[Value.ref b] below meth c H locs 81 9740 (lw_Z below #[Value.ref b] s) (F0 m 1292 ls [])) : W p l e room_1 s m #[Value.ref b] below meth c H locs 81 9740 (lw_Z below #[Value.ref b] s) (F0 m 258 ls []) := by
  obtain ⟨hx, hb, hr, hml, hown, hts0, hX, hbl, hlocks, hgv⟩ := C0
  have hts : ∀ w ∈ G, w.before #[Value.ref b] s = true := fun w hw => hts0 w (G_tbl hw)
  have hown : s.vm.findClass RL = some m.cls := hown
  have hbA : ¬ (fun q : Nat => s.heap.size ≤ q) b := Nat.not_le.mpr hbl
  have v1 : vp_in (nI i + 1) L := by rw [show nI i + 1 = nI (i + 1) from nI_add i 1]; exact vp_in_nI (by omega) (by omega)
  have v2 : vp_in (nI i + 2) L := by rw [show nI i + 2 = nI (i + 2) from nI_add i 2]; exact vp_in_nI (by omega) (by omega)
  have v3 : vp_in (nI i + 3) L := by rw [show nI i + 3 = nI (i + 3) from nI_add i 3]; exact vp_in_nI (by omega) (by omega)
  have v4 : vp_in (nI i + 4) L := by rw [show nI i + 4 = nI (i + 4) from nI_add i 4]; exact vp_in_nI (by omega) (by omega)
  refine lv_aload_n hx hb dL_law_258 rfl (lv_at hl 2 rfl) ?_
  refine lv_aload_n hx hb dL_law_259 rfl (lv_at hl 3 rfl) ?_
  refine lv_iload_n hx hb dL_law_260 rfl (lv_at hl 0 rfl) ?_
  refine lv_iconst (v := 1) hx hb dL_law_261 (by decide) ?_
  refine lv_iadd hx hb dL_law_262 ?_
  refine va_sld hx hb hX hbl hbA hS v1 dL_law_263 ?_
  refine lv_aload_n hx hb dL_law_264 rfl (lv_at hl 3 rfl) ?_
  refine lv_iload_n hx hb dL_law_265 rfl (lv_at hl 0 rfl) ?_
  refine lv_iconst (v := 2) hx hb dL_law_266 (by decide) ?_
  refine lv_iadd hx hb dL_law_267 ?_
  refine va_sld hx hb hX hbl hbA hS v2 dL_law_268 ?_
  refine law_xi (rest := []) hPQ hVM hS (va_runV (As := [.int _, .int _]) (rest := []) ⟨hx, hb, hml, hown, hts⟩ (c_X8_multiply l hPQ.1 (xa_multiply ok hx1 _ _)) (cwV 2 hts gv_L_23 rfl rfl rfl hv_X8_multiply ⟨Nat.le_of_ble_eq_true rfl, Nat.le_of_ble_eq_true rfl⟩) (preXL hKL hVX hS hPQ) rfl rfl hl.1 rfl (lv_room (Nat.le_of_ble_eq_true rfl)) dL_law_269 ⟨Nat.le_of_ble_eq_true rfl, Nat.le_of_ble_eq_true rfl⟩) (fun r1 S H locs hr1 hVX hVM hS => ?_)
  refine lv_aload_n hx hb dL_law_272 rfl (lv_at hl 1 rfl) ?_
  refine lv_aload_n hx hb dL_law_273 rfl (lv_at hl 3 rfl) ?_
  refine lv_iload_n hx hb dL_law_274 rfl (lv_at hl 0 rfl) ?_
  refine lv_iconst (v := 1) hx hb dL_law_275 (by decide) ?_
  refine lv_iadd hx hb dL_law_276 ?_
  refine va_sld hx hb hX hbl hbA hS v1 dL_law_277 ?_
  refine lv_aload_n hx hb dL_law_278 rfl (lv_at hl 3 rfl) ?_
  refine lv_iload_n hx hb dL_law_279 rfl (lv_at hl 0 rfl) ?_
  refine lv_iconst (v := 2) hx hb dL_law_280 (by decide) ?_
  refine lv_iadd hx hb dL_law_281 ?_
  refine va_sld hx hb hX hbl hbA hS v2 dL_law_282 ?_
  refine law_mi (rest := [.int r1]) hPQ hVX hS (va_runV (As := [.int _, .int _]) (rest := [.int r1]) ⟨hx, hb, hml, hown, hts⟩ (c_X9_multiply l hPQ.2.1 (ma_multiply ok hm1 _ _)) (cwV 2 hts gv_L_27 rfl rfl rfl hv_X9_multiply ⟨Nat.le_of_ble_eq_true rfl, Nat.le_of_ble_eq_true rfl⟩) (preML hKL.1 hVM) rfl rfl hl.1 rfl (lv_room (Nat.le_of_ble_eq_true rfl)) dL_law_283 ⟨Nat.le_of_ble_eq_true rfl, Nat.le_of_ble_eq_true rfl⟩) (fun r2 Sm H locs hr2 hVX hVM hS => ?_)
  exact lv_icmp_eq (tgt := 1292) hx hb dL_law_286 (by decide) (fun _ => kk _ S Sm H locs (ka_multiply ok _ _) hr1.2 hr2.2 hVX hVM hS) (fun c9 => absurd (hr1.1.trans hr2.1.symm) c9)
set_option maxRecDepth 100000 in
set_option maxHeartbeats 4000000 in
theorem law_c3 {p : Program} {l : Launch} {e : Env} {s : State} {m : MethodId} {below : List Frame} {meth : Method} {c : Code} {b L : Nat} {xs : Nat → Int32} {dC : Nat → ClassId} {dI : Nat → Nat → Nat} {cA : Nat → ClassId} {adK adV P Q : Nat → Nat} (hL : L ≤ 2560) (C0 : lw_At p s m meth c b L xs) (hKL : KL dC dI cA adK adV (fun q => s.heap.size ≤ q) s) (hPQ : PQ P Q s.heap.size) {i : Nat} (hi : i + 5 ≤ L) {z : TA} (ok : okA z) {S Sm : St} (hx1 : XA S z) (hm1 : MA Sm z) {H : Heap} {locs : List Loc} {ls : Array Slot} (hVX : VX dC dI cA P S H) (hVM : VM dC dI cA Q Sm H) (hS : va_S (fun q => s.heap.size ≤ q) s.heap H locs) (hl : lv_has ls 4 [(3, .int (nI i)), (2, .ref (Q 0)), (1, .ref (P 0)), (0, .ref b)])
    (kk : ∀ (z : TA) (S Sm : St) (H : Heap) (locs : List Loc), okA z → XA S z → MA Sm z → VX dC dI cA P S H → VM dC dI cA Q Sm H → va_S (fun q => s.heap.size ≤ q) s.heap H locs → W p l e room_1 s m #[Value.ref b] below meth c H locs 81 9740 (lw_Z below #[Value.ref b] s) (F0 m 1292 ls [])) : W p l e room_1 s m #[Value.ref b] below meth c H locs 81 9740 (lw_Z below #[Value.ref b] s) (F0 m 291 ls []) := by
  obtain ⟨hx, hb, hr, hml, hown, hts0, hX, hbl, hlocks, hgv⟩ := C0
  have hts : ∀ w ∈ G, w.before #[Value.ref b] s = true := fun w hw => hts0 w (G_tbl hw)
  have hown : s.vm.findClass RL = some m.cls := hown
  have hbA : ¬ (fun q : Nat => s.heap.size ≤ q) b := Nat.not_le.mpr hbl
  have v1 : vp_in (nI i + 1) L := by rw [show nI i + 1 = nI (i + 1) from nI_add i 1]; exact vp_in_nI (by omega) (by omega)
  have v2 : vp_in (nI i + 2) L := by rw [show nI i + 2 = nI (i + 2) from nI_add i 2]; exact vp_in_nI (by omega) (by omega)
  have v3 : vp_in (nI i + 3) L := by rw [show nI i + 3 = nI (i + 3) from nI_add i 3]; exact vp_in_nI (by omega) (by omega)
  have v4 : vp_in (nI i + 4) L := by rw [show nI i + 4 = nI (i + 4) from nI_add i 4]; exact vp_in_nI (by omega) (by omega)
  refine lv_aload_n hx hb dL_law_291 rfl (lv_at hl 2 rfl) ?_
  refine lv_aload_n hx hb dL_law_292 rfl (lv_at hl 3 rfl) ?_
  refine lv_iload_n hx hb dL_law_293 rfl (lv_at hl 0 rfl) ?_
  refine lv_iconst (v := 1) hx hb dL_law_294 (by decide) ?_
  refine lv_iadd hx hb dL_law_295 ?_
  refine va_sld hx hb hX hbl hbA hS v1 dL_law_296 ?_
  refine lv_aload_n hx hb dL_law_297 rfl (lv_at hl 3 rfl) ?_
  refine lv_iload_n hx hb dL_law_298 rfl (lv_at hl 0 rfl) ?_
  refine lv_iconst (v := 2) hx hb dL_law_299 (by decide) ?_
  refine lv_iadd hx hb dL_law_300 ?_
  refine va_sld hx hb hX hbl hbA hS v2 dL_law_301 ?_
  refine law_xi (rest := []) hPQ hVM hS (va_runV (As := [.int _, .int _]) (rest := []) ⟨hx, hb, hml, hown, hts⟩ (c_X8_sum l hPQ.1 (xa_sum ok hx1 _ _)) (cwV 2 hts gv_L_28 rfl rfl rfl hv_X8_sum ⟨Nat.le_of_ble_eq_true rfl, Nat.le_of_ble_eq_true rfl⟩) (preXL hKL hVX hS hPQ) rfl rfl hl.1 rfl (lv_room (Nat.le_of_ble_eq_true rfl)) dL_law_302 ⟨Nat.le_of_ble_eq_true rfl, Nat.le_of_ble_eq_true rfl⟩) (fun r1 S H locs hr1 hVX hVM hS => ?_)
  refine lv_aload_n hx hb dL_law_305 rfl (lv_at hl 1 rfl) ?_
  refine lv_aload_n hx hb dL_law_306 rfl (lv_at hl 3 rfl) ?_
  refine lv_iload_n hx hb dL_law_307 rfl (lv_at hl 0 rfl) ?_
  refine lv_iconst (v := 1) hx hb dL_law_308 (by decide) ?_
  refine lv_iadd hx hb dL_law_309 ?_
  refine va_sld hx hb hX hbl hbA hS v1 dL_law_310 ?_
  refine lv_aload_n hx hb dL_law_311 rfl (lv_at hl 3 rfl) ?_
  refine lv_iload_n hx hb dL_law_312 rfl (lv_at hl 0 rfl) ?_
  refine lv_iconst (v := 2) hx hb dL_law_313 (by decide) ?_
  refine lv_iadd hx hb dL_law_314 ?_
  refine va_sld hx hb hX hbl hbA hS v2 dL_law_315 ?_
  refine law_mi (rest := [.int r1]) hPQ hVX hS (va_runV (As := [.int _, .int _]) (rest := [.int r1]) ⟨hx, hb, hml, hown, hts⟩ (c_X9_sum l hPQ.2.1 (ma_sum ok hm1 _ _)) (cwV 2 hts gv_L_31 rfl rfl rfl hv_X9_sum ⟨Nat.le_of_ble_eq_true rfl, Nat.le_of_ble_eq_true rfl⟩) (preML hKL.1 hVM) rfl rfl hl.1 rfl (lv_room (Nat.le_of_ble_eq_true rfl)) dL_law_316 ⟨Nat.le_of_ble_eq_true rfl, Nat.le_of_ble_eq_true rfl⟩) (fun r2 Sm H locs hr2 hVX hVM hS => ?_)
  exact lv_icmp_eq (tgt := 1292) hx hb dL_law_319 (by decide) (fun _ => kk _ S Sm H locs (ka_sum ok _ _) hr1.2 hr2.2 hVX hVM hS) (fun c9 => absurd (hr1.1.trans hr2.1.symm) c9)
set_option maxRecDepth 100000 in
set_option maxHeartbeats 4000000 in
theorem law_c4 {p : Program} {l : Launch} {e : Env} {s : State} {m : MethodId} {below : List Frame} {meth : Method} {c : Code} {b L : Nat} {xs : Nat → Int32} {dC : Nat → ClassId} {dI : Nat → Nat → Nat} {cA : Nat → ClassId} {adK adV P Q : Nat → Nat} (hL : L ≤ 2560) (C0 : lw_At p s m meth c b L xs) (hKL : KL dC dI cA adK adV (fun q => s.heap.size ≤ q) s) (hPQ : PQ P Q s.heap.size) {i : Nat} (hi : i + 5 ≤ L) {z : TA} (ok : okA z) {S Sm : St} (hx1 : XA S z) (hm1 : MA Sm z) {H : Heap} {locs : List Loc} {ls : Array Slot} (hVX : VX dC dI cA P S H) (hVM : VM dC dI cA Q Sm H) (hS : va_S (fun q => s.heap.size ≤ q) s.heap H locs) (hl : lv_has ls 4 [(3, .int (nI i)), (2, .ref (Q 0)), (1, .ref (P 0)), (0, .ref b)])
    (kk : ∀ (z : TA) (S Sm : St) (H : Heap) (locs : List Loc), okA z → XA S z → MA Sm z → VX dC dI cA P S H → VM dC dI cA Q Sm H → va_S (fun q => s.heap.size ≤ q) s.heap H locs → W p l e room_1 s m #[Value.ref b] below meth c H locs 81 9740 (lw_Z below #[Value.ref b] s) (F0 m 1292 ls [])) : W p l e room_1 s m #[Value.ref b] below meth c H locs 81 9740 (lw_Z below #[Value.ref b] s) (F0 m 324 ls []) := by
  obtain ⟨hx, hb, hr, hml, hown, hts0, hX, hbl, hlocks, hgv⟩ := C0
  have hts : ∀ w ∈ G, w.before #[Value.ref b] s = true := fun w hw => hts0 w (G_tbl hw)
  have hown : s.vm.findClass RL = some m.cls := hown
  have hbA : ¬ (fun q : Nat => s.heap.size ≤ q) b := Nat.not_le.mpr hbl
  have v1 : vp_in (nI i + 1) L := by rw [show nI i + 1 = nI (i + 1) from nI_add i 1]; exact vp_in_nI (by omega) (by omega)
  have v2 : vp_in (nI i + 2) L := by rw [show nI i + 2 = nI (i + 2) from nI_add i 2]; exact vp_in_nI (by omega) (by omega)
  have v3 : vp_in (nI i + 3) L := by rw [show nI i + 3 = nI (i + 3) from nI_add i 3]; exact vp_in_nI (by omega) (by omega)
  have v4 : vp_in (nI i + 4) L := by rw [show nI i + 4 = nI (i + 4) from nI_add i 4]; exact vp_in_nI (by omega) (by omega)
  refine lv_aload_n hx hb dL_law_324 rfl (lv_at hl 2 rfl) ?_
  refine lv_aload_n hx hb dL_law_325 rfl (lv_at hl 3 rfl) ?_
  refine lv_iload_n hx hb dL_law_326 rfl (lv_at hl 0 rfl) ?_
  refine lv_iconst (v := 1) hx hb dL_law_327 (by decide) ?_
  refine lv_iadd hx hb dL_law_328 ?_
  refine va_sld hx hb hX hbl hbA hS v1 dL_law_329 ?_
  refine law_xi (rest := []) hPQ hVM hS (va_runV (As := [.int _]) (rest := []) ⟨hx, hb, hml, hown, hts⟩ (c_X8_lowest l hPQ.1 (xa_lowest ok hx1 _)) (cwV 1 hts gv_L_32 rfl rfl rfl hv_X8_lowest ⟨Nat.le_of_ble_eq_true rfl, Nat.le_of_ble_eq_true rfl⟩) (preXL hKL hVX hS hPQ) rfl rfl hl.1 rfl (lv_room (Nat.le_of_ble_eq_true rfl)) dL_law_330 ⟨Nat.le_of_ble_eq_true rfl, Nat.le_of_ble_eq_true rfl⟩) (fun r1 S H locs hr1 hVX hVM hS => ?_)
  refine lv_aload_n hx hb dL_law_333 rfl (lv_at hl 1 rfl) ?_
  refine lv_aload_n hx hb dL_law_334 rfl (lv_at hl 3 rfl) ?_
  refine lv_iload_n hx hb dL_law_335 rfl (lv_at hl 0 rfl) ?_
  refine lv_iconst (v := 1) hx hb dL_law_336 (by decide) ?_
  refine lv_iadd hx hb dL_law_337 ?_
  refine va_sld hx hb hX hbl hbA hS v1 dL_law_338 ?_
  refine law_mi (rest := [.int r1]) hPQ hVX hS (va_runV (As := [.int _]) (rest := [.int r1]) ⟨hx, hb, hml, hown, hts⟩ (c_X9_lowest l hPQ.2.1 (ma_lowest ok hm1 _)) (cwV 1 hts gv_L_35 rfl rfl rfl hv_X9_lowest ⟨Nat.le_of_ble_eq_true rfl, Nat.le_of_ble_eq_true rfl⟩) (preML hKL.1 hVM) rfl rfl hl.1 rfl (lv_room (Nat.le_of_ble_eq_true rfl)) dL_law_339 ⟨Nat.le_of_ble_eq_true rfl, Nat.le_of_ble_eq_true rfl⟩) (fun r2 Sm H locs hr2 hVX hVM hS => ?_)
  exact lv_icmp_eq (tgt := 1292) hx hb dL_law_342 (by decide) (fun _ => kk _ S Sm H locs (ka_lowest ok _) hr1.2 hr2.2 hVX hVM hS) (fun c9 => absurd (hr1.1.trans hr2.1.symm) c9)
set_option maxRecDepth 100000 in
set_option maxHeartbeats 4000000 in
theorem law_c5 {p : Program} {l : Launch} {e : Env} {s : State} {m : MethodId} {below : List Frame} {meth : Method} {c : Code} {b L : Nat} {xs : Nat → Int32} {dC : Nat → ClassId} {dI : Nat → Nat → Nat} {cA : Nat → ClassId} {adK adV P Q : Nat → Nat} (hL : L ≤ 2560) (C0 : lw_At p s m meth c b L xs) (hKL : KL dC dI cA adK adV (fun q => s.heap.size ≤ q) s) (hPQ : PQ P Q s.heap.size) {i : Nat} (hi : i + 5 ≤ L) {z : TA} (ok : okA z) {S Sm : St} (hx1 : XA S z) (hm1 : MA Sm z) {H : Heap} {locs : List Loc} {ls : Array Slot} (hVX : VX dC dI cA P S H) (hVM : VM dC dI cA Q Sm H) (hS : va_S (fun q => s.heap.size ≤ q) s.heap H locs) (hl : lv_has ls 4 [(3, .int (nI i)), (2, .ref (Q 0)), (1, .ref (P 0)), (0, .ref b)])
    (kk : ∀ (z : TA) (S Sm : St) (H : Heap) (locs : List Loc), okA z → XA S z → MA Sm z → VX dC dI cA P S H → VM dC dI cA Q Sm H → va_S (fun q => s.heap.size ≤ q) s.heap H locs → W p l e room_1 s m #[Value.ref b] below meth c H locs 81 9740 (lw_Z below #[Value.ref b] s) (F0 m 1292 ls [])) : W p l e room_1 s m #[Value.ref b] below meth c H locs 81 9740 (lw_Z below #[Value.ref b] s) (F0 m 347 ls []) := by
  obtain ⟨hx, hb, hr, hml, hown, hts0, hX, hbl, hlocks, hgv⟩ := C0
  have hts : ∀ w ∈ G, w.before #[Value.ref b] s = true := fun w hw => hts0 w (G_tbl hw)
  have hown : s.vm.findClass RL = some m.cls := hown
  have hbA : ¬ (fun q : Nat => s.heap.size ≤ q) b := Nat.not_le.mpr hbl
  have v1 : vp_in (nI i + 1) L := by rw [show nI i + 1 = nI (i + 1) from nI_add i 1]; exact vp_in_nI (by omega) (by omega)
  have v2 : vp_in (nI i + 2) L := by rw [show nI i + 2 = nI (i + 2) from nI_add i 2]; exact vp_in_nI (by omega) (by omega)
  have v3 : vp_in (nI i + 3) L := by rw [show nI i + 3 = nI (i + 3) from nI_add i 3]; exact vp_in_nI (by omega) (by omega)
  have v4 : vp_in (nI i + 4) L := by rw [show nI i + 4 = nI (i + 4) from nI_add i 4]; exact vp_in_nI (by omega) (by omega)
  refine lv_aload_n hx hb dL_law_347 rfl (lv_at hl 2 rfl) ?_
  refine lv_aload_n hx hb dL_law_348 rfl (lv_at hl 3 rfl) ?_
  refine lv_iload_n hx hb dL_law_349 rfl (lv_at hl 0 rfl) ?_
  refine lv_iconst (v := 1) hx hb dL_law_350 (by decide) ?_
  refine lv_iadd hx hb dL_law_351 ?_
  refine va_sld hx hb hX hbl hbA hS v1 dL_law_352 ?_
  refine lv_aload_n hx hb dL_law_353 rfl (lv_at hl 3 rfl) ?_
  refine lv_iload_n hx hb dL_law_354 rfl (lv_at hl 0 rfl) ?_
  refine lv_iconst (v := 2) hx hb dL_law_355 (by decide) ?_
  refine lv_iadd hx hb dL_law_356 ?_
  refine va_sld hx hb hX hbl hbA hS v2 dL_law_357 ?_
  refine law_xi (rest := []) hPQ hVM hS (va_runV (As := [.int _, .int _]) (rest := []) ⟨hx, hb, hml, hown, hts⟩ (c_X8_of l hPQ.1 (xa_of ok hx1 _ _)) (cwV 2 hts gv_L_36 rfl rfl rfl hv_X8_of ⟨Nat.le_of_ble_eq_true rfl, Nat.le_of_ble_eq_true rfl⟩) (preXL hKL hVX hS hPQ) rfl rfl hl.1 rfl (lv_room (Nat.le_of_ble_eq_true rfl)) dL_law_358 ⟨Nat.le_of_ble_eq_true rfl, Nat.le_of_ble_eq_true rfl⟩) (fun r1 S H locs hr1 hVX hVM hS => ?_)
  refine lv_aload_n hx hb dL_law_361 rfl (lv_at hl 1 rfl) ?_
  refine lv_aload_n hx hb dL_law_362 rfl (lv_at hl 3 rfl) ?_
  refine lv_iload_n hx hb dL_law_363 rfl (lv_at hl 0 rfl) ?_
  refine lv_iconst (v := 1) hx hb dL_law_364 (by decide) ?_
  refine lv_iadd hx hb dL_law_365 ?_
  refine va_sld hx hb hX hbl hbA hS v1 dL_law_366 ?_
  refine lv_aload_n hx hb dL_law_367 rfl (lv_at hl 3 rfl) ?_
  refine lv_iload_n hx hb dL_law_368 rfl (lv_at hl 0 rfl) ?_
  refine lv_iconst (v := 2) hx hb dL_law_369 (by decide) ?_
  refine lv_iadd hx hb dL_law_370 ?_
  refine va_sld hx hb hX hbl hbA hS v2 dL_law_371 ?_
  refine law_mi (rest := [.int r1]) hPQ hVX hS (va_runV (As := [.int _, .int _]) (rest := [.int r1]) ⟨hx, hb, hml, hown, hts⟩ (c_X9_of l hPQ.2.1 (ma_of ok hm1 _ _)) (cwV 2 hts gv_L_39 rfl rfl rfl hv_X9_of ⟨Nat.le_of_ble_eq_true rfl, Nat.le_of_ble_eq_true rfl⟩) (preML hKL.1 hVM) rfl rfl hl.1 rfl (lv_room (Nat.le_of_ble_eq_true rfl)) dL_law_372 ⟨Nat.le_of_ble_eq_true rfl, Nat.le_of_ble_eq_true rfl⟩) (fun r2 Sm H locs hr2 hVX hVM hS => ?_)
  exact lv_icmp_eq (tgt := 1292) hx hb dL_law_375 (by decide) (fun _ => kk _ S Sm H locs (ka_of ok _ _) hr1.2 hr2.2 hVX hVM hS) (fun c9 => absurd (hr1.1.trans hr2.1.symm) c9)
set_option maxRecDepth 100000 in
set_option maxHeartbeats 4000000 in
theorem law_c6 {p : Program} {l : Launch} {e : Env} {s : State} {m : MethodId} {below : List Frame} {meth : Method} {c : Code} {b L : Nat} {xs : Nat → Int32} {dC : Nat → ClassId} {dI : Nat → Nat → Nat} {cA : Nat → ClassId} {adK adV P Q : Nat → Nat} (hL : L ≤ 2560) (C0 : lw_At p s m meth c b L xs) (hKL : KL dC dI cA adK adV (fun q => s.heap.size ≤ q) s) (hPQ : PQ P Q s.heap.size) {i : Nat} (hi : i + 5 ≤ L) {z : TA} (ok : okA z) {S Sm : St} (hx1 : XA S z) (hm1 : MA Sm z) {H : Heap} {locs : List Loc} {ls : Array Slot} (hVX : VX dC dI cA P S H) (hVM : VM dC dI cA Q Sm H) (hS : va_S (fun q => s.heap.size ≤ q) s.heap H locs) (hl : lv_has ls 4 [(3, .int (nI i)), (2, .ref (Q 0)), (1, .ref (P 0)), (0, .ref b)])
    (kk : ∀ (z : TA) (S Sm : St) (H : Heap) (locs : List Loc), okA z → XA S z → MA Sm z → VX dC dI cA P S H → VM dC dI cA Q Sm H → va_S (fun q => s.heap.size ≤ q) s.heap H locs → W p l e room_1 s m #[Value.ref b] below meth c H locs 81 9740 (lw_Z below #[Value.ref b] s) (F0 m 1292 ls [])) : W p l e room_1 s m #[Value.ref b] below meth c H locs 81 9740 (lw_Z below #[Value.ref b] s) (F0 m 380 ls []) := by
  obtain ⟨hx, hb, hr, hml, hown, hts0, hX, hbl, hlocks, hgv⟩ := C0
  have hts : ∀ w ∈ G, w.before #[Value.ref b] s = true := fun w hw => hts0 w (G_tbl hw)
  have hown : s.vm.findClass RL = some m.cls := hown
  have hbA : ¬ (fun q : Nat => s.heap.size ≤ q) b := Nat.not_le.mpr hbl
  have v1 : vp_in (nI i + 1) L := by rw [show nI i + 1 = nI (i + 1) from nI_add i 1]; exact vp_in_nI (by omega) (by omega)
  have v2 : vp_in (nI i + 2) L := by rw [show nI i + 2 = nI (i + 2) from nI_add i 2]; exact vp_in_nI (by omega) (by omega)
  have v3 : vp_in (nI i + 3) L := by rw [show nI i + 3 = nI (i + 3) from nI_add i 3]; exact vp_in_nI (by omega) (by omega)
  have v4 : vp_in (nI i + 4) L := by rw [show nI i + 4 = nI (i + 4) from nI_add i 4]; exact vp_in_nI (by omega) (by omega)
  refine lv_aload_n hx hb dL_law_380 rfl (lv_at hl 2 rfl) ?_
  refine lv_aload_n hx hb dL_law_381 rfl (lv_at hl 3 rfl) ?_
  refine lv_iload_n hx hb dL_law_382 rfl (lv_at hl 0 rfl) ?_
  refine lv_iconst (v := 1) hx hb dL_law_383 (by decide) ?_
  refine lv_iadd hx hb dL_law_384 ?_
  refine va_sld hx hb hX hbl hbA hS v1 dL_law_385 ?_
  refine lv_aload_n hx hb dL_law_386 rfl (lv_at hl 3 rfl) ?_
  refine lv_iload_n hx hb dL_law_387 rfl (lv_at hl 0 rfl) ?_
  refine lv_iconst (v := 2) hx hb dL_law_388 (by decide) ?_
  refine lv_iadd hx hb dL_law_389 ?_
  refine va_sld hx hb hX hbl hbA hS v2 dL_law_390 ?_
  refine law_xi (rest := []) hPQ hVM hS (va_runV (As := [.int _, .int _]) (rest := []) ⟨hx, hb, hml, hown, hts⟩ (c_X8_digit l hPQ.1 (xa_digit ok hx1 _ _)) (cwV 2 hts gv_L_40 rfl rfl rfl hv_X8_digit ⟨Nat.le_of_ble_eq_true rfl, Nat.le_of_ble_eq_true rfl⟩) (preXL hKL hVX hS hPQ) rfl rfl hl.1 rfl (lv_room (Nat.le_of_ble_eq_true rfl)) dL_law_391 ⟨Nat.le_of_ble_eq_true rfl, Nat.le_of_ble_eq_true rfl⟩) (fun r1 S H locs hr1 hVX hVM hS => ?_)
  refine lv_aload_n hx hb dL_law_394 rfl (lv_at hl 1 rfl) ?_
  refine lv_aload_n hx hb dL_law_395 rfl (lv_at hl 3 rfl) ?_
  refine lv_iload_n hx hb dL_law_396 rfl (lv_at hl 0 rfl) ?_
  refine lv_iconst (v := 1) hx hb dL_law_397 (by decide) ?_
  refine lv_iadd hx hb dL_law_398 ?_
  refine va_sld hx hb hX hbl hbA hS v1 dL_law_399 ?_
  refine lv_aload_n hx hb dL_law_400 rfl (lv_at hl 3 rfl) ?_
  refine lv_iload_n hx hb dL_law_401 rfl (lv_at hl 0 rfl) ?_
  refine lv_iconst (v := 2) hx hb dL_law_402 (by decide) ?_
  refine lv_iadd hx hb dL_law_403 ?_
  refine va_sld hx hb hX hbl hbA hS v2 dL_law_404 ?_
  refine law_mi (rest := [.int r1]) hPQ hVX hS (va_runV (As := [.int _, .int _]) (rest := [.int r1]) ⟨hx, hb, hml, hown, hts⟩ (c_X9_digit l hPQ.2.1 (ma_digit ok hm1 _ _)) (cwV 2 hts gv_L_43 rfl rfl rfl hv_X9_digit ⟨Nat.le_of_ble_eq_true rfl, Nat.le_of_ble_eq_true rfl⟩) (preML hKL.1 hVM) rfl rfl hl.1 rfl (lv_room (Nat.le_of_ble_eq_true rfl)) dL_law_405 ⟨Nat.le_of_ble_eq_true rfl, Nat.le_of_ble_eq_true rfl⟩) (fun r2 Sm H locs hr2 hVX hVM hS => ?_)
  exact lv_icmp_eq (tgt := 1292) hx hb dL_law_408 (by decide) (fun _ => kk _ S Sm H locs (ka_digit ok _ _) hr1.2 hr2.2 hVX hVM hS) (fun c9 => absurd (hr1.1.trans hr2.1.symm) c9)
set_option maxRecDepth 100000 in
set_option maxHeartbeats 4000000 in
theorem law_c7 {p : Program} {l : Launch} {e : Env} {s : State} {m : MethodId} {below : List Frame} {meth : Method} {c : Code} {b L : Nat} {xs : Nat → Int32} {dC : Nat → ClassId} {dI : Nat → Nat → Nat} {cA : Nat → ClassId} {adK adV P Q : Nat → Nat} (hL : L ≤ 2560) (C0 : lw_At p s m meth c b L xs) (hKL : KL dC dI cA adK adV (fun q => s.heap.size ≤ q) s) (hPQ : PQ P Q s.heap.size) {i : Nat} (hi : i + 5 ≤ L) {z : TA} (ok : okA z) {S Sm : St} (hx1 : XA S z) (hm1 : MA Sm z) {H : Heap} {locs : List Loc} {ls : Array Slot} (hVX : VX dC dI cA P S H) (hVM : VM dC dI cA Q Sm H) (hS : va_S (fun q => s.heap.size ≤ q) s.heap H locs) (hl : lv_has ls 4 [(3, .int (nI i)), (2, .ref (Q 0)), (1, .ref (P 0)), (0, .ref b)])
    (kk : ∀ (z : TA) (S Sm : St) (H : Heap) (locs : List Loc), okA z → XA S z → MA Sm z → VX dC dI cA P S H → VM dC dI cA Q Sm H → va_S (fun q => s.heap.size ≤ q) s.heap H locs → W p l e room_1 s m #[Value.ref b] below meth c H locs 81 9740 (lw_Z below #[Value.ref b] s) (F0 m 1292 ls [])) : W p l e room_1 s m #[Value.ref b] below meth c H locs 81 9740 (lw_Z below #[Value.ref b] s) (F0 m 413 ls []) := by
  obtain ⟨hx, hb, hr, hml, hown, hts0, hX, hbl, hlocks, hgv⟩ := C0
  have hts : ∀ w ∈ G, w.before #[Value.ref b] s = true := fun w hw => hts0 w (G_tbl hw)
  have hown : s.vm.findClass RL = some m.cls := hown
  have hbA : ¬ (fun q : Nat => s.heap.size ≤ q) b := Nat.not_le.mpr hbl
  have v1 : vp_in (nI i + 1) L := by rw [show nI i + 1 = nI (i + 1) from nI_add i 1]; exact vp_in_nI (by omega) (by omega)
  have v2 : vp_in (nI i + 2) L := by rw [show nI i + 2 = nI (i + 2) from nI_add i 2]; exact vp_in_nI (by omega) (by omega)
  have v3 : vp_in (nI i + 3) L := by rw [show nI i + 3 = nI (i + 3) from nI_add i 3]; exact vp_in_nI (by omega) (by omega)
  have v4 : vp_in (nI i + 4) L := by rw [show nI i + 4 = nI (i + 4) from nI_add i 4]; exact vp_in_nI (by omega) (by omega)
  refine lv_aload_n hx hb dL_law_413 rfl (lv_at hl 2 rfl) ?_
  refine lv_aload_n hx hb dL_law_414 rfl (lv_at hl 3 rfl) ?_
  refine lv_iload_n hx hb dL_law_415 rfl (lv_at hl 0 rfl) ?_
  refine lv_iconst (v := 1) hx hb dL_law_416 (by decide) ?_
  refine lv_iadd hx hb dL_law_417 ?_
  refine va_sld hx hb hX hbl hbA hS v1 dL_law_418 ?_
  refine lv_aload_n hx hb dL_law_419 rfl (lv_at hl 3 rfl) ?_
  refine lv_iload_n hx hb dL_law_420 rfl (lv_at hl 0 rfl) ?_
  refine lv_iconst (v := 2) hx hb dL_law_421 (by decide) ?_
  refine lv_iadd hx hb dL_law_422 ?_
  refine va_sld hx hb hX hbl hbA hS v2 dL_law_423 ?_
  refine law_xi (rest := []) hPQ hVM hS (va_runV (As := [.int _, .int _]) (rest := []) ⟨hx, hb, hml, hown, hts⟩ (c_X8_rest l hPQ.1 (xa_rest ok hx1 _ _)) (cwV 2 hts gv_L_44 rfl rfl rfl hv_X8_rest ⟨Nat.le_of_ble_eq_true rfl, Nat.le_of_ble_eq_true rfl⟩) (preXL hKL hVX hS hPQ) rfl rfl hl.1 rfl (lv_room (Nat.le_of_ble_eq_true rfl)) dL_law_424 ⟨Nat.le_of_ble_eq_true rfl, Nat.le_of_ble_eq_true rfl⟩) (fun r1 S H locs hr1 hVX hVM hS => ?_)
  refine lv_aload_n hx hb dL_law_427 rfl (lv_at hl 1 rfl) ?_
  refine lv_aload_n hx hb dL_law_428 rfl (lv_at hl 3 rfl) ?_
  refine lv_iload_n hx hb dL_law_429 rfl (lv_at hl 0 rfl) ?_
  refine lv_iconst (v := 1) hx hb dL_law_430 (by decide) ?_
  refine lv_iadd hx hb dL_law_431 ?_
  refine va_sld hx hb hX hbl hbA hS v1 dL_law_432 ?_
  refine lv_aload_n hx hb dL_law_433 rfl (lv_at hl 3 rfl) ?_
  refine lv_iload_n hx hb dL_law_434 rfl (lv_at hl 0 rfl) ?_
  refine lv_iconst (v := 2) hx hb dL_law_435 (by decide) ?_
  refine lv_iadd hx hb dL_law_436 ?_
  refine va_sld hx hb hX hbl hbA hS v2 dL_law_437 ?_
  refine law_mi (rest := [.int r1]) hPQ hVX hS (va_runV (As := [.int _, .int _]) (rest := [.int r1]) ⟨hx, hb, hml, hown, hts⟩ (c_X9_rest l hPQ.2.1 (ma_rest ok hm1 _ _)) (cwV 2 hts gv_L_47 rfl rfl rfl hv_X9_rest ⟨Nat.le_of_ble_eq_true rfl, Nat.le_of_ble_eq_true rfl⟩) (preML hKL.1 hVM) rfl rfl hl.1 rfl (lv_room (Nat.le_of_ble_eq_true rfl)) dL_law_438 ⟨Nat.le_of_ble_eq_true rfl, Nat.le_of_ble_eq_true rfl⟩) (fun r2 Sm H locs hr2 hVX hVM hS => ?_)
  exact lv_icmp_eq (tgt := 1292) hx hb dL_law_441 (by decide) (fun _ => kk _ S Sm H locs (ka_rest ok _ _) hr1.2 hr2.2 hVX hVM hS) (fun c9 => absurd (hr1.1.trans hr2.1.symm) c9)
set_option maxRecDepth 100000 in
set_option maxHeartbeats 4000000 in
theorem law_c8 {p : Program} {l : Launch} {e : Env} {s : State} {m : MethodId} {below : List Frame} {meth : Method} {c : Code} {b L : Nat} {xs : Nat → Int32} {dC : Nat → ClassId} {dI : Nat → Nat → Nat} {cA : Nat → ClassId} {adK adV P Q : Nat → Nat} (hL : L ≤ 2560) (C0 : lw_At p s m meth c b L xs) (hKL : KL dC dI cA adK adV (fun q => s.heap.size ≤ q) s) (hPQ : PQ P Q s.heap.size) {i : Nat} (hi : i + 5 ≤ L) {z : TA} (ok : okA z) {S Sm : St} (hx1 : XA S z) (hm1 : MA Sm z) {H : Heap} {locs : List Loc} {ls : Array Slot} (hVX : VX dC dI cA P S H) (hVM : VM dC dI cA Q Sm H) (hS : va_S (fun q => s.heap.size ≤ q) s.heap H locs) (hl : lv_has ls 4 [(3, .int (nI i)), (2, .ref (Q 0)), (1, .ref (P 0)), (0, .ref b)])
    (kk : ∀ (z : TA) (S Sm : St) (H : Heap) (locs : List Loc), okA z → XA S z → MA Sm z → VX dC dI cA P S H → VM dC dI cA Q Sm H → va_S (fun q => s.heap.size ≤ q) s.heap H locs → W p l e room_1 s m #[Value.ref b] below meth c H locs 81 9740 (lw_Z below #[Value.ref b] s) (F0 m 1292 ls [])) : W p l e room_1 s m #[Value.ref b] below meth c H locs 81 9740 (lw_Z below #[Value.ref b] s) (F0 m 446 ls []) := by
  obtain ⟨hx, hb, hr, hml, hown, hts0, hX, hbl, hlocks, hgv⟩ := C0
  have hts : ∀ w ∈ G, w.before #[Value.ref b] s = true := fun w hw => hts0 w (G_tbl hw)
  have hown : s.vm.findClass RL = some m.cls := hown
  have hbA : ¬ (fun q : Nat => s.heap.size ≤ q) b := Nat.not_le.mpr hbl
  have v1 : vp_in (nI i + 1) L := by rw [show nI i + 1 = nI (i + 1) from nI_add i 1]; exact vp_in_nI (by omega) (by omega)
  have v2 : vp_in (nI i + 2) L := by rw [show nI i + 2 = nI (i + 2) from nI_add i 2]; exact vp_in_nI (by omega) (by omega)
  have v3 : vp_in (nI i + 3) L := by rw [show nI i + 3 = nI (i + 3) from nI_add i 3]; exact vp_in_nI (by omega) (by omega)
  have v4 : vp_in (nI i + 4) L := by rw [show nI i + 4 = nI (i + 4) from nI_add i 4]; exact vp_in_nI (by omega) (by omega)
  refine lv_aload_n hx hb dL_law_446 rfl (lv_at hl 2 rfl) ?_
  refine lv_aload_n hx hb dL_law_447 rfl (lv_at hl 3 rfl) ?_
  refine lv_iload_n hx hb dL_law_448 rfl (lv_at hl 0 rfl) ?_
  refine lv_iconst (v := 1) hx hb dL_law_449 (by decide) ?_
  refine lv_iadd hx hb dL_law_450 ?_
  refine va_sld hx hb hX hbl hbA hS v1 dL_law_451 ?_
  refine lv_aload_n hx hb dL_law_452 rfl (lv_at hl 3 rfl) ?_
  refine lv_iload_n hx hb dL_law_453 rfl (lv_at hl 0 rfl) ?_
  refine lv_iconst (v := 2) hx hb dL_law_454 (by decide) ?_
  refine lv_iadd hx hb dL_law_455 ?_
  refine va_sld hx hb hX hbl hbA hS v2 dL_law_456 ?_
  refine law_xi (rest := []) hPQ hVM hS (va_runV (As := [.int _, .int _]) (rest := []) ⟨hx, hb, hml, hown, hts⟩ (c_X8_place l hPQ.1 (xa_place ok hx1 _ _)) (cwV 2 hts gv_L_48 rfl rfl rfl hv_X8_place ⟨Nat.le_of_ble_eq_true rfl, Nat.le_of_ble_eq_true rfl⟩) (preXL hKL hVX hS hPQ) rfl rfl hl.1 rfl (lv_room (Nat.le_of_ble_eq_true rfl)) dL_law_457 ⟨Nat.le_of_ble_eq_true rfl, Nat.le_of_ble_eq_true rfl⟩) (fun r1 S H locs hr1 hVX hVM hS => ?_)
  refine lv_aload_n hx hb dL_law_460 rfl (lv_at hl 1 rfl) ?_
  refine lv_aload_n hx hb dL_law_461 rfl (lv_at hl 3 rfl) ?_
  refine lv_iload_n hx hb dL_law_462 rfl (lv_at hl 0 rfl) ?_
  refine lv_iconst (v := 1) hx hb dL_law_463 (by decide) ?_
  refine lv_iadd hx hb dL_law_464 ?_
  refine va_sld hx hb hX hbl hbA hS v1 dL_law_465 ?_
  refine lv_aload_n hx hb dL_law_466 rfl (lv_at hl 3 rfl) ?_
  refine lv_iload_n hx hb dL_law_467 rfl (lv_at hl 0 rfl) ?_
  refine lv_iconst (v := 2) hx hb dL_law_468 (by decide) ?_
  refine lv_iadd hx hb dL_law_469 ?_
  refine va_sld hx hb hX hbl hbA hS v2 dL_law_470 ?_
  refine law_mi (rest := [.int r1]) hPQ hVX hS (va_runV (As := [.int _, .int _]) (rest := [.int r1]) ⟨hx, hb, hml, hown, hts⟩ (c_X9_place l hPQ.2.1 (ma_place ok hm1 _ _)) (cwV 2 hts gv_L_51 rfl rfl rfl hv_X9_place ⟨Nat.le_of_ble_eq_true rfl, Nat.le_of_ble_eq_true rfl⟩) (preML hKL.1 hVM) rfl rfl hl.1 rfl (lv_room (Nat.le_of_ble_eq_true rfl)) dL_law_471 ⟨Nat.le_of_ble_eq_true rfl, Nat.le_of_ble_eq_true rfl⟩) (fun r2 Sm H locs hr2 hVX hVM hS => ?_)
  exact lv_icmp_eq (tgt := 1292) hx hb dL_law_474 (by decide) (fun _ => kk _ S Sm H locs (ka_place ok _ _) hr1.2 hr2.2 hVX hVM hS) (fun c9 => absurd (hr1.1.trans hr2.1.symm) c9)
set_option maxRecDepth 100000 in
set_option maxHeartbeats 4000000 in
theorem law_c9 {p : Program} {l : Launch} {e : Env} {s : State} {m : MethodId} {below : List Frame} {meth : Method} {c : Code} {b L : Nat} {xs : Nat → Int32} {dC : Nat → ClassId} {dI : Nat → Nat → Nat} {cA : Nat → ClassId} {adK adV P Q : Nat → Nat} (hL : L ≤ 2560) (C0 : lw_At p s m meth c b L xs) (hKL : KL dC dI cA adK adV (fun q => s.heap.size ≤ q) s) (hPQ : PQ P Q s.heap.size) {i : Nat} (hi : i + 5 ≤ L) {z : TA} (ok : okA z) {S Sm : St} (hx1 : XA S z) (hm1 : MA Sm z) {H : Heap} {locs : List Loc} {ls : Array Slot} (hVX : VX dC dI cA P S H) (hVM : VM dC dI cA Q Sm H) (hS : va_S (fun q => s.heap.size ≤ q) s.heap H locs) (hl : lv_has ls 4 [(3, .int (nI i)), (2, .ref (Q 0)), (1, .ref (P 0)), (0, .ref b)])
    (kk : ∀ (z : TA) (S Sm : St) (H : Heap) (locs : List Loc), okA z → XA S z → MA Sm z → VX dC dI cA P S H → VM dC dI cA Q Sm H → va_S (fun q => s.heap.size ≤ q) s.heap H locs → W p l e room_1 s m #[Value.ref b] below meth c H locs 81 9740 (lw_Z below #[Value.ref b] s) (F0 m 1292 ls [])) : W p l e room_1 s m #[Value.ref b] below meth c H locs 81 9740 (lw_Z below #[Value.ref b] s) (F0 m 479 ls []) := by
  obtain ⟨hx, hb, hr, hml, hown, hts0, hX, hbl, hlocks, hgv⟩ := C0
  have hts : ∀ w ∈ G, w.before #[Value.ref b] s = true := fun w hw => hts0 w (G_tbl hw)
  have hown : s.vm.findClass RL = some m.cls := hown
  have hbA : ¬ (fun q : Nat => s.heap.size ≤ q) b := Nat.not_le.mpr hbl
  have v1 : vp_in (nI i + 1) L := by rw [show nI i + 1 = nI (i + 1) from nI_add i 1]; exact vp_in_nI (by omega) (by omega)
  have v2 : vp_in (nI i + 2) L := by rw [show nI i + 2 = nI (i + 2) from nI_add i 2]; exact vp_in_nI (by omega) (by omega)
  have v3 : vp_in (nI i + 3) L := by rw [show nI i + 3 = nI (i + 3) from nI_add i 3]; exact vp_in_nI (by omega) (by omega)
  have v4 : vp_in (nI i + 4) L := by rw [show nI i + 4 = nI (i + 4) from nI_add i 4]; exact vp_in_nI (by omega) (by omega)
  refine lv_aload_n hx hb dL_law_479 rfl (lv_at hl 2 rfl) ?_
  refine lv_aload_n hx hb dL_law_480 rfl (lv_at hl 3 rfl) ?_
  refine lv_iload_n hx hb dL_law_481 rfl (lv_at hl 0 rfl) ?_
  refine lv_iconst (v := 1) hx hb dL_law_482 (by decide) ?_
  refine lv_iadd hx hb dL_law_483 ?_
  refine va_sld hx hb hX hbl hbA hS v1 dL_law_484 ?_
  refine lv_aload_n hx hb dL_law_485 rfl (lv_at hl 3 rfl) ?_
  refine lv_iload_n hx hb dL_law_486 rfl (lv_at hl 0 rfl) ?_
  refine lv_iconst (v := 2) hx hb dL_law_487 (by decide) ?_
  refine lv_iadd hx hb dL_law_488 ?_
  refine va_sld hx hb hX hbl hbA hS v2 dL_law_489 ?_
  refine lv_aload_n hx hb dL_law_490 rfl (lv_at hl 3 rfl) ?_
  refine lv_iload_n hx hb dL_law_491 rfl (lv_at hl 0 rfl) ?_
  refine lv_iconst (v := 3) hx hb dL_law_492 (by decide) ?_
  refine lv_iadd hx hb dL_law_493 ?_
  refine va_sld hx hb hX hbl hbA hS v3 dL_law_494 ?_
  refine law_xi (rest := []) hPQ hVM hS (va_runV (As := [.int _, .int _, .int _]) (rest := []) ⟨hx, hb, hml, hown, hts⟩ (c_X8_block l hPQ.1 (xa_block ok hx1 _ _ _)) (cwV 3 hts gv_L_52 rfl rfl rfl hv_X8_block ⟨Nat.le_of_ble_eq_true rfl, Nat.le_of_ble_eq_true rfl⟩) (preXL hKL hVX hS hPQ) rfl rfl hl.1 rfl (lv_room (Nat.le_of_ble_eq_true rfl)) dL_law_495 ⟨Nat.le_of_ble_eq_true rfl, Nat.le_of_ble_eq_true rfl⟩) (fun r1 S H locs hr1 hVX hVM hS => ?_)
  refine lv_aload_n hx hb dL_law_498 rfl (lv_at hl 1 rfl) ?_
  refine lv_aload_n hx hb dL_law_499 rfl (lv_at hl 3 rfl) ?_
  refine lv_iload_n hx hb dL_law_500 rfl (lv_at hl 0 rfl) ?_
  refine lv_iconst (v := 1) hx hb dL_law_501 (by decide) ?_
  refine lv_iadd hx hb dL_law_502 ?_
  refine va_sld hx hb hX hbl hbA hS v1 dL_law_503 ?_
  refine lv_aload_n hx hb dL_law_504 rfl (lv_at hl 3 rfl) ?_
  refine lv_iload_n hx hb dL_law_505 rfl (lv_at hl 0 rfl) ?_
  refine lv_iconst (v := 2) hx hb dL_law_506 (by decide) ?_
  refine lv_iadd hx hb dL_law_507 ?_
  refine va_sld hx hb hX hbl hbA hS v2 dL_law_508 ?_
  refine lv_aload_n hx hb dL_law_509 rfl (lv_at hl 3 rfl) ?_
  refine lv_iload_n hx hb dL_law_510 rfl (lv_at hl 0 rfl) ?_
  refine lv_iconst (v := 3) hx hb dL_law_511 (by decide) ?_
  refine lv_iadd hx hb dL_law_512 ?_
  refine va_sld hx hb hX hbl hbA hS v3 dL_law_513 ?_
  refine law_mi (rest := [.int r1]) hPQ hVX hS (va_runV (As := [.int _, .int _, .int _]) (rest := [.int r1]) ⟨hx, hb, hml, hown, hts⟩ (c_X9_block l hPQ.2.1 (ma_block ok hm1 _ _ _)) (cwV 3 hts gv_L_55 rfl rfl rfl hv_X9_block ⟨Nat.le_of_ble_eq_true rfl, Nat.le_of_ble_eq_true rfl⟩) (preML hKL.1 hVM) rfl rfl hl.1 rfl (lv_room (Nat.le_of_ble_eq_true rfl)) dL_law_514 ⟨Nat.le_of_ble_eq_true rfl, Nat.le_of_ble_eq_true rfl⟩) (fun r2 Sm H locs hr2 hVX hVM hS => ?_)
  exact lv_icmp_eq (tgt := 1292) hx hb dL_law_517 (by decide) (fun _ => kk _ S Sm H locs (ka_block ok _ _ _) hr1.2 hr2.2 hVX hVM hS) (fun c9 => absurd (hr1.1.trans hr2.1.symm) c9)
set_option maxRecDepth 100000 in
set_option maxHeartbeats 4000000 in
theorem law_c10 {p : Program} {l : Launch} {e : Env} {s : State} {m : MethodId} {below : List Frame} {meth : Method} {c : Code} {b L : Nat} {xs : Nat → Int32} {dC : Nat → ClassId} {dI : Nat → Nat → Nat} {cA : Nat → ClassId} {adK adV P Q : Nat → Nat} (hL : L ≤ 2560) (C0 : lw_At p s m meth c b L xs) (hKL : KL dC dI cA adK adV (fun q => s.heap.size ≤ q) s) (hPQ : PQ P Q s.heap.size) {i : Nat} (hi : i + 5 ≤ L) {z : TA} (ok : okA z) {S Sm : St} (hx1 : XA S z) (hm1 : MA Sm z) {H : Heap} {locs : List Loc} {ls : Array Slot} (hVX : VX dC dI cA P S H) (hVM : VM dC dI cA Q Sm H) (hS : va_S (fun q => s.heap.size ≤ q) s.heap H locs) (hl : lv_has ls 4 [(3, .int (nI i)), (2, .ref (Q 0)), (1, .ref (P 0)), (0, .ref b)])
    (kk : ∀ (z : TA) (S Sm : St) (H : Heap) (locs : List Loc), okA z → XA S z → MA Sm z → VX dC dI cA P S H → VM dC dI cA Q Sm H → va_S (fun q => s.heap.size ≤ q) s.heap H locs → W p l e room_1 s m #[Value.ref b] below meth c H locs 81 9740 (lw_Z below #[Value.ref b] s) (F0 m 1292 ls [])) : W p l e room_1 s m #[Value.ref b] below meth c H locs 81 9740 (lw_Z below #[Value.ref b] s) (F0 m 522 ls []) := by
  obtain ⟨hx, hb, hr, hml, hown, hts0, hX, hbl, hlocks, hgv⟩ := C0
  have hts : ∀ w ∈ G, w.before #[Value.ref b] s = true := fun w hw => hts0 w (G_tbl hw)
  have hown : s.vm.findClass RL = some m.cls := hown
  have hbA : ¬ (fun q : Nat => s.heap.size ≤ q) b := Nat.not_le.mpr hbl
  have v1 : vp_in (nI i + 1) L := by rw [show nI i + 1 = nI (i + 1) from nI_add i 1]; exact vp_in_nI (by omega) (by omega)
  have v2 : vp_in (nI i + 2) L := by rw [show nI i + 2 = nI (i + 2) from nI_add i 2]; exact vp_in_nI (by omega) (by omega)
  have v3 : vp_in (nI i + 3) L := by rw [show nI i + 3 = nI (i + 3) from nI_add i 3]; exact vp_in_nI (by omega) (by omega)
  have v4 : vp_in (nI i + 4) L := by rw [show nI i + 4 = nI (i + 4) from nI_add i 4]; exact vp_in_nI (by omega) (by omega)
  refine lv_aload_n hx hb dL_law_522 rfl (lv_at hl 2 rfl) ?_
  refine lv_aload_n hx hb dL_law_523 rfl (lv_at hl 3 rfl) ?_
  refine lv_iload_n hx hb dL_law_524 rfl (lv_at hl 0 rfl) ?_
  refine lv_iconst (v := 1) hx hb dL_law_525 (by decide) ?_
  refine lv_iadd hx hb dL_law_526 ?_
  refine va_sld hx hb hX hbl hbA hS v1 dL_law_527 ?_
  refine lv_aload_n hx hb dL_law_528 rfl (lv_at hl 3 rfl) ?_
  refine lv_iload_n hx hb dL_law_529 rfl (lv_at hl 0 rfl) ?_
  refine lv_iconst (v := 2) hx hb dL_law_530 (by decide) ?_
  refine lv_iadd hx hb dL_law_531 ?_
  refine va_sld hx hb hX hbl hbA hS v2 dL_law_532 ?_
  refine law_xi (rest := []) hPQ hVM hS (va_runV (As := [.int _, .int _]) (rest := []) ⟨hx, hb, hml, hown, hts⟩ (c_X8_nines l hPQ.1 (xa_nines ok hx1 _ _)) (cwV 2 hts gv_L_56 rfl rfl rfl hv_X8_nines ⟨Nat.le_of_ble_eq_true rfl, Nat.le_of_ble_eq_true rfl⟩) (preXL hKL hVX hS hPQ) rfl rfl hl.1 rfl (lv_room (Nat.le_of_ble_eq_true rfl)) dL_law_533 ⟨Nat.le_of_ble_eq_true rfl, Nat.le_of_ble_eq_true rfl⟩) (fun r1 S H locs hr1 hVX hVM hS => ?_)
  refine lv_aload_n hx hb dL_law_536 rfl (lv_at hl 1 rfl) ?_
  refine lv_aload_n hx hb dL_law_537 rfl (lv_at hl 3 rfl) ?_
  refine lv_iload_n hx hb dL_law_538 rfl (lv_at hl 0 rfl) ?_
  refine lv_iconst (v := 1) hx hb dL_law_539 (by decide) ?_
  refine lv_iadd hx hb dL_law_540 ?_
  refine va_sld hx hb hX hbl hbA hS v1 dL_law_541 ?_
  refine lv_aload_n hx hb dL_law_542 rfl (lv_at hl 3 rfl) ?_
  refine lv_iload_n hx hb dL_law_543 rfl (lv_at hl 0 rfl) ?_
  refine lv_iconst (v := 2) hx hb dL_law_544 (by decide) ?_
  refine lv_iadd hx hb dL_law_545 ?_
  refine va_sld hx hb hX hbl hbA hS v2 dL_law_546 ?_
  refine law_mi (rest := [.int r1]) hPQ hVX hS (va_runV (As := [.int _, .int _]) (rest := [.int r1]) ⟨hx, hb, hml, hown, hts⟩ (c_X9_nines l hPQ.2.1 (ma_nines ok hm1 _ _)) (cwV 2 hts gv_L_59 rfl rfl rfl hv_X9_nines ⟨Nat.le_of_ble_eq_true rfl, Nat.le_of_ble_eq_true rfl⟩) (preML hKL.1 hVM) rfl rfl hl.1 rfl (lv_room (Nat.le_of_ble_eq_true rfl)) dL_law_547 ⟨Nat.le_of_ble_eq_true rfl, Nat.le_of_ble_eq_true rfl⟩) (fun r2 Sm H locs hr2 hVX hVM hS => ?_)
  exact lv_icmp_eq (tgt := 1292) hx hb dL_law_550 (by decide) (fun _ => kk _ S Sm H locs (ka_nines ok _ _) hr1.2 hr2.2 hVX hVM hS) (fun c9 => absurd (hr1.1.trans hr2.1.symm) c9)
set_option maxRecDepth 100000 in
set_option maxHeartbeats 4000000 in
theorem law_c11 {p : Program} {l : Launch} {e : Env} {s : State} {m : MethodId} {below : List Frame} {meth : Method} {c : Code} {b L : Nat} {xs : Nat → Int32} {dC : Nat → ClassId} {dI : Nat → Nat → Nat} {cA : Nat → ClassId} {adK adV P Q : Nat → Nat} (hL : L ≤ 2560) (C0 : lw_At p s m meth c b L xs) (hKL : KL dC dI cA adK adV (fun q => s.heap.size ≤ q) s) (hPQ : PQ P Q s.heap.size) {i : Nat} (hi : i + 5 ≤ L) {z : TA} (ok : okA z) {S Sm : St} (hx1 : XA S z) (hm1 : MA Sm z) {H : Heap} {locs : List Loc} {ls : Array Slot} (hVX : VX dC dI cA P S H) (hVM : VM dC dI cA Q Sm H) (hS : va_S (fun q => s.heap.size ≤ q) s.heap H locs) (hl : lv_has ls 4 [(3, .int (nI i)), (2, .ref (Q 0)), (1, .ref (P 0)), (0, .ref b)])
    (kk : ∀ (z : TA) (S Sm : St) (H : Heap) (locs : List Loc), okA z → XA S z → MA Sm z → VX dC dI cA P S H → VM dC dI cA Q Sm H → va_S (fun q => s.heap.size ≤ q) s.heap H locs → W p l e room_1 s m #[Value.ref b] below meth c H locs 81 9740 (lw_Z below #[Value.ref b] s) (F0 m 1292 ls [])) : W p l e room_1 s m #[Value.ref b] below meth c H locs 81 9740 (lw_Z below #[Value.ref b] s) (F0 m 555 ls []) := by
  obtain ⟨hx, hb, hr, hml, hown, hts0, hX, hbl, hlocks, hgv⟩ := C0
  have hts : ∀ w ∈ G, w.before #[Value.ref b] s = true := fun w hw => hts0 w (G_tbl hw)
  have hown : s.vm.findClass RL = some m.cls := hown
  have hbA : ¬ (fun q : Nat => s.heap.size ≤ q) b := Nat.not_le.mpr hbl
  have v1 : vp_in (nI i + 1) L := by rw [show nI i + 1 = nI (i + 1) from nI_add i 1]; exact vp_in_nI (by omega) (by omega)
  have v2 : vp_in (nI i + 2) L := by rw [show nI i + 2 = nI (i + 2) from nI_add i 2]; exact vp_in_nI (by omega) (by omega)
  have v3 : vp_in (nI i + 3) L := by rw [show nI i + 3 = nI (i + 3) from nI_add i 3]; exact vp_in_nI (by omega) (by omega)
  have v4 : vp_in (nI i + 4) L := by rw [show nI i + 4 = nI (i + 4) from nI_add i 4]; exact vp_in_nI (by omega) (by omega)
  refine lv_aload_n hx hb dL_law_555 rfl (lv_at hl 2 rfl) ?_
  refine lv_aload_n hx hb dL_law_556 rfl (lv_at hl 3 rfl) ?_
  refine lv_iload_n hx hb dL_law_557 rfl (lv_at hl 0 rfl) ?_
  refine lv_iconst (v := 1) hx hb dL_law_558 (by decide) ?_
  refine lv_iadd hx hb dL_law_559 ?_
  refine va_sld hx hb hX hbl hbA hS v1 dL_law_560 ?_
  refine lv_aload_n hx hb dL_law_561 rfl (lv_at hl 3 rfl) ?_
  refine lv_iload_n hx hb dL_law_562 rfl (lv_at hl 0 rfl) ?_
  refine lv_iconst (v := 2) hx hb dL_law_563 (by decide) ?_
  refine lv_iadd hx hb dL_law_564 ?_
  refine va_sld hx hb hX hbl hbA hS v2 dL_law_565 ?_
  refine law_xi (rest := []) hPQ hVM hS (va_runV (As := [.int _, .int _]) (rest := []) ⟨hx, hb, hml, hown, hts⟩ (c_X8_shift l hPQ.1 (xa_shift ok hx1 _ _)) (cwV 2 hts gv_L_60 rfl rfl rfl hv_X8_shift ⟨Nat.le_of_ble_eq_true rfl, Nat.le_of_ble_eq_true rfl⟩) (preXL hKL hVX hS hPQ) rfl rfl hl.1 rfl (lv_room (Nat.le_of_ble_eq_true rfl)) dL_law_566 ⟨Nat.le_of_ble_eq_true rfl, Nat.le_of_ble_eq_true rfl⟩) (fun r1 S H locs hr1 hVX hVM hS => ?_)
  refine lv_aload_n hx hb dL_law_569 rfl (lv_at hl 1 rfl) ?_
  refine lv_aload_n hx hb dL_law_570 rfl (lv_at hl 3 rfl) ?_
  refine lv_iload_n hx hb dL_law_571 rfl (lv_at hl 0 rfl) ?_
  refine lv_iconst (v := 1) hx hb dL_law_572 (by decide) ?_
  refine lv_iadd hx hb dL_law_573 ?_
  refine va_sld hx hb hX hbl hbA hS v1 dL_law_574 ?_
  refine lv_aload_n hx hb dL_law_575 rfl (lv_at hl 3 rfl) ?_
  refine lv_iload_n hx hb dL_law_576 rfl (lv_at hl 0 rfl) ?_
  refine lv_iconst (v := 2) hx hb dL_law_577 (by decide) ?_
  refine lv_iadd hx hb dL_law_578 ?_
  refine va_sld hx hb hX hbl hbA hS v2 dL_law_579 ?_
  refine law_mi (rest := [.int r1]) hPQ hVX hS (va_runV (As := [.int _, .int _]) (rest := [.int r1]) ⟨hx, hb, hml, hown, hts⟩ (c_X9_shift l hPQ.2.1 (ma_shift ok hm1 _ _)) (cwV 2 hts gv_L_63 rfl rfl rfl hv_X9_shift ⟨Nat.le_of_ble_eq_true rfl, Nat.le_of_ble_eq_true rfl⟩) (preML hKL.1 hVM) rfl rfl hl.1 rfl (lv_room (Nat.le_of_ble_eq_true rfl)) dL_law_580 ⟨Nat.le_of_ble_eq_true rfl, Nat.le_of_ble_eq_true rfl⟩) (fun r2 Sm H locs hr2 hVX hVM hS => ?_)
  exact lv_icmp_eq (tgt := 1292) hx hb dL_law_583 (by decide) (fun _ => kk _ S Sm H locs (ka_shift ok _ _) hr1.2 hr2.2 hVX hVM hS) (fun c9 => absurd (hr1.1.trans hr2.1.symm) c9)
set_option maxRecDepth 100000 in
set_option maxHeartbeats 4000000 in
theorem law_c12 {p : Program} {l : Launch} {e : Env} {s : State} {m : MethodId} {below : List Frame} {meth : Method} {c : Code} {b L : Nat} {xs : Nat → Int32} {dC : Nat → ClassId} {dI : Nat → Nat → Nat} {cA : Nat → ClassId} {adK adV P Q : Nat → Nat} (hL : L ≤ 2560) (C0 : lw_At p s m meth c b L xs) (hKL : KL dC dI cA adK adV (fun q => s.heap.size ≤ q) s) (hPQ : PQ P Q s.heap.size) {i : Nat} (hi : i + 5 ≤ L) {z : TA} (ok : okA z) {S Sm : St} (hx1 : XA S z) (hm1 : MA Sm z) {H : Heap} {locs : List Loc} {ls : Array Slot} (hVX : VX dC dI cA P S H) (hVM : VM dC dI cA Q Sm H) (hS : va_S (fun q => s.heap.size ≤ q) s.heap H locs) (hl : lv_has ls 4 [(3, .int (nI i)), (2, .ref (Q 0)), (1, .ref (P 0)), (0, .ref b)])
    (kk : ∀ (z : TA) (S Sm : St) (H : Heap) (locs : List Loc), okA z → XA S z → MA Sm z → VX dC dI cA P S H → VM dC dI cA Q Sm H → va_S (fun q => s.heap.size ≤ q) s.heap H locs → W p l e room_1 s m #[Value.ref b] below meth c H locs 81 9740 (lw_Z below #[Value.ref b] s) (F0 m 1292 ls [])) : W p l e room_1 s m #[Value.ref b] below meth c H locs 81 9740 (lw_Z below #[Value.ref b] s) (F0 m 588 ls []) := by
  obtain ⟨hx, hb, hr, hml, hown, hts0, hX, hbl, hlocks, hgv⟩ := C0
  have hts : ∀ w ∈ G, w.before #[Value.ref b] s = true := fun w hw => hts0 w (G_tbl hw)
  have hown : s.vm.findClass RL = some m.cls := hown
  have hbA : ¬ (fun q : Nat => s.heap.size ≤ q) b := Nat.not_le.mpr hbl
  have v1 : vp_in (nI i + 1) L := by rw [show nI i + 1 = nI (i + 1) from nI_add i 1]; exact vp_in_nI (by omega) (by omega)
  have v2 : vp_in (nI i + 2) L := by rw [show nI i + 2 = nI (i + 2) from nI_add i 2]; exact vp_in_nI (by omega) (by omega)
  have v3 : vp_in (nI i + 3) L := by rw [show nI i + 3 = nI (i + 3) from nI_add i 3]; exact vp_in_nI (by omega) (by omega)
  have v4 : vp_in (nI i + 4) L := by rw [show nI i + 4 = nI (i + 4) from nI_add i 4]; exact vp_in_nI (by omega) (by omega)
  refine lv_aload_n hx hb dL_law_588 rfl (lv_at hl 2 rfl) ?_
  refine lv_aload_n hx hb dL_law_589 rfl (lv_at hl 3 rfl) ?_
  refine lv_iload_n hx hb dL_law_590 rfl (lv_at hl 0 rfl) ?_
  refine lv_iconst (v := 1) hx hb dL_law_591 (by decide) ?_
  refine lv_iadd hx hb dL_law_592 ?_
  refine va_sld hx hb hX hbl hbA hS v1 dL_law_593 ?_
  refine lv_aload_n hx hb dL_law_594 rfl (lv_at hl 3 rfl) ?_
  refine lv_iload_n hx hb dL_law_595 rfl (lv_at hl 0 rfl) ?_
  refine lv_iconst (v := 2) hx hb dL_law_596 (by decide) ?_
  refine lv_iadd hx hb dL_law_597 ?_
  refine va_sld hx hb hX hbl hbA hS v2 dL_law_598 ?_
  refine law_xi (rest := []) hPQ hVM hS (va_runV (As := [.int _, .int _]) (rest := []) ⟨hx, hb, hml, hown, hts⟩ (c_X8_multiple l hPQ.1 (xa_multiple ok hx1 _ _)) (cwV 2 hts gv_L_64 rfl rfl rfl hv_X8_multiple ⟨Nat.le_of_ble_eq_true rfl, Nat.le_of_ble_eq_true rfl⟩) (preXL hKL hVX hS hPQ) rfl rfl hl.1 rfl (lv_room (Nat.le_of_ble_eq_true rfl)) dL_law_599 ⟨Nat.le_of_ble_eq_true rfl, Nat.le_of_ble_eq_true rfl⟩) (fun r1 S H locs hr1 hVX hVM hS => ?_)
  refine lv_aload_n hx hb dL_law_602 rfl (lv_at hl 1 rfl) ?_
  refine lv_aload_n hx hb dL_law_603 rfl (lv_at hl 3 rfl) ?_
  refine lv_iload_n hx hb dL_law_604 rfl (lv_at hl 0 rfl) ?_
  refine lv_iconst (v := 1) hx hb dL_law_605 (by decide) ?_
  refine lv_iadd hx hb dL_law_606 ?_
  refine va_sld hx hb hX hbl hbA hS v1 dL_law_607 ?_
  refine lv_aload_n hx hb dL_law_608 rfl (lv_at hl 3 rfl) ?_
  refine lv_iload_n hx hb dL_law_609 rfl (lv_at hl 0 rfl) ?_
  refine lv_iconst (v := 2) hx hb dL_law_610 (by decide) ?_
  refine lv_iadd hx hb dL_law_611 ?_
  refine va_sld hx hb hX hbl hbA hS v2 dL_law_612 ?_
  refine law_mi (rest := [.int r1]) hPQ hVX hS (va_runV (As := [.int _, .int _]) (rest := [.int r1]) ⟨hx, hb, hml, hown, hts⟩ (c_X9_multiple l hPQ.2.1 (ma_multiple ok hm1 _ _)) (cwV 2 hts gv_L_67 rfl rfl rfl hv_X9_multiple ⟨Nat.le_of_ble_eq_true rfl, Nat.le_of_ble_eq_true rfl⟩) (preML hKL.1 hVM) rfl rfl hl.1 rfl (lv_room (Nat.le_of_ble_eq_true rfl)) dL_law_613 ⟨Nat.le_of_ble_eq_true rfl, Nat.le_of_ble_eq_true rfl⟩) (fun r2 Sm H locs hr2 hVX hVM hS => ?_)
  exact lv_icmp_eq (tgt := 1292) hx hb dL_law_616 (by decide) (fun _ => kk _ S Sm H locs (ka_multiple ok _ _) hr1.2 hr2.2 hVX hVM hS) (fun c9 => absurd (hr1.1.trans hr2.1.symm) c9)
set_option maxRecDepth 100000 in
set_option maxHeartbeats 4000000 in
theorem law_c13 {p : Program} {l : Launch} {e : Env} {s : State} {m : MethodId} {below : List Frame} {meth : Method} {c : Code} {b L : Nat} {xs : Nat → Int32} {dC : Nat → ClassId} {dI : Nat → Nat → Nat} {cA : Nat → ClassId} {adK adV P Q : Nat → Nat} (hL : L ≤ 2560) (C0 : lw_At p s m meth c b L xs) (hKL : KL dC dI cA adK adV (fun q => s.heap.size ≤ q) s) (hPQ : PQ P Q s.heap.size) {i : Nat} (hi : i + 5 ≤ L) {z : TA} (ok : okA z) {S Sm : St} (hx1 : XA S z) (hm1 : MA Sm z) {H : Heap} {locs : List Loc} {ls : Array Slot} (hVX : VX dC dI cA P S H) (hVM : VM dC dI cA Q Sm H) (hS : va_S (fun q => s.heap.size ≤ q) s.heap H locs) (hl : lv_has ls 4 [(3, .int (nI i)), (2, .ref (Q 0)), (1, .ref (P 0)), (0, .ref b)])
    (kk : ∀ (z : TA) (S Sm : St) (H : Heap) (locs : List Loc), okA z → XA S z → MA Sm z → VX dC dI cA P S H → VM dC dI cA Q Sm H → va_S (fun q => s.heap.size ≤ q) s.heap H locs → W p l e room_1 s m #[Value.ref b] below meth c H locs 81 9740 (lw_Z below #[Value.ref b] s) (F0 m 1292 ls [])) : W p l e room_1 s m #[Value.ref b] below meth c H locs 81 9740 (lw_Z below #[Value.ref b] s) (F0 m 621 ls []) := by
  obtain ⟨hx, hb, hr, hml, hown, hts0, hX, hbl, hlocks, hgv⟩ := C0
  have hts : ∀ w ∈ G, w.before #[Value.ref b] s = true := fun w hw => hts0 w (G_tbl hw)
  have hown : s.vm.findClass RL = some m.cls := hown
  have hbA : ¬ (fun q : Nat => s.heap.size ≤ q) b := Nat.not_le.mpr hbl
  have v1 : vp_in (nI i + 1) L := by rw [show nI i + 1 = nI (i + 1) from nI_add i 1]; exact vp_in_nI (by omega) (by omega)
  have v2 : vp_in (nI i + 2) L := by rw [show nI i + 2 = nI (i + 2) from nI_add i 2]; exact vp_in_nI (by omega) (by omega)
  have v3 : vp_in (nI i + 3) L := by rw [show nI i + 3 = nI (i + 3) from nI_add i 3]; exact vp_in_nI (by omega) (by omega)
  have v4 : vp_in (nI i + 4) L := by rw [show nI i + 4 = nI (i + 4) from nI_add i 4]; exact vp_in_nI (by omega) (by omega)
  refine lv_aload_n hx hb dL_law_621 rfl (lv_at hl 2 rfl) ?_
  refine lv_aload_n hx hb dL_law_622 rfl (lv_at hl 3 rfl) ?_
  refine lv_iload_n hx hb dL_law_623 rfl (lv_at hl 0 rfl) ?_
  refine lv_iconst (v := 1) hx hb dL_law_624 (by decide) ?_
  refine lv_iadd hx hb dL_law_625 ?_
  refine va_sld hx hb hX hbl hbA hS v1 dL_law_626 ?_
  refine lv_aload_n hx hb dL_law_627 rfl (lv_at hl 3 rfl) ?_
  refine lv_iload_n hx hb dL_law_628 rfl (lv_at hl 0 rfl) ?_
  refine lv_iconst (v := 2) hx hb dL_law_629 (by decide) ?_
  refine lv_iadd hx hb dL_law_630 ?_
  refine va_sld hx hb hX hbl hbA hS v2 dL_law_631 ?_
  refine law_xi (rest := []) hPQ hVM hS (va_runV (As := [.int _, .int _]) (rest := []) ⟨hx, hb, hml, hown, hts⟩ (c_X8_order l hPQ.1 (xa_order ok hx1 _ _)) (cwV 2 hts gv_L_68 rfl rfl rfl hv_X8_order ⟨Nat.le_of_ble_eq_true rfl, Nat.le_of_ble_eq_true rfl⟩) (preXL hKL hVX hS hPQ) rfl rfl hl.1 rfl (lv_room (Nat.le_of_ble_eq_true rfl)) dL_law_632 ⟨Nat.le_of_ble_eq_true rfl, Nat.le_of_ble_eq_true rfl⟩) (fun r1 S H locs hr1 hVX hVM hS => ?_)
  refine lv_aload_n hx hb dL_law_635 rfl (lv_at hl 1 rfl) ?_
  refine lv_aload_n hx hb dL_law_636 rfl (lv_at hl 3 rfl) ?_
  refine lv_iload_n hx hb dL_law_637 rfl (lv_at hl 0 rfl) ?_
  refine lv_iconst (v := 1) hx hb dL_law_638 (by decide) ?_
  refine lv_iadd hx hb dL_law_639 ?_
  refine va_sld hx hb hX hbl hbA hS v1 dL_law_640 ?_
  refine lv_aload_n hx hb dL_law_641 rfl (lv_at hl 3 rfl) ?_
  refine lv_iload_n hx hb dL_law_642 rfl (lv_at hl 0 rfl) ?_
  refine lv_iconst (v := 2) hx hb dL_law_643 (by decide) ?_
  refine lv_iadd hx hb dL_law_644 ?_
  refine va_sld hx hb hX hbl hbA hS v2 dL_law_645 ?_
  refine law_mi (rest := [.int r1]) hPQ hVX hS (va_runV (As := [.int _, .int _]) (rest := [.int r1]) ⟨hx, hb, hml, hown, hts⟩ (c_X9_order l hPQ.2.1 (ma_order ok hm1 _ _)) (cwV 2 hts gv_L_71 rfl rfl rfl hv_X9_order ⟨Nat.le_of_ble_eq_true rfl, Nat.le_of_ble_eq_true rfl⟩) (preML hKL.1 hVM) rfl rfl hl.1 rfl (lv_room (Nat.le_of_ble_eq_true rfl)) dL_law_646 ⟨Nat.le_of_ble_eq_true rfl, Nat.le_of_ble_eq_true rfl⟩) (fun r2 Sm H locs hr2 hVX hVM hS => ?_)
  exact lv_icmp_eq (tgt := 1292) hx hb dL_law_649 (by decide) (fun _ => kk _ S Sm H locs (ka_order ok _ _) hr1.2 hr2.2 hVX hVM hS) (fun c9 => absurd (hr1.1.trans hr2.1.symm) c9)
set_option maxRecDepth 100000 in
set_option maxHeartbeats 4000000 in
theorem law_c14 {p : Program} {l : Launch} {e : Env} {s : State} {m : MethodId} {below : List Frame} {meth : Method} {c : Code} {b L : Nat} {xs : Nat → Int32} {dC : Nat → ClassId} {dI : Nat → Nat → Nat} {cA : Nat → ClassId} {adK adV P Q : Nat → Nat} (hL : L ≤ 2560) (C0 : lw_At p s m meth c b L xs) (hKL : KL dC dI cA adK adV (fun q => s.heap.size ≤ q) s) (hPQ : PQ P Q s.heap.size) {i : Nat} (hi : i + 5 ≤ L) {z : TA} (ok : okA z) {S Sm : St} (hx1 : XA S z) (hm1 : MA Sm z) {H : Heap} {locs : List Loc} {ls : Array Slot} (hVX : VX dC dI cA P S H) (hVM : VM dC dI cA Q Sm H) (hS : va_S (fun q => s.heap.size ≤ q) s.heap H locs) (hl : lv_has ls 4 [(3, .int (nI i)), (2, .ref (Q 0)), (1, .ref (P 0)), (0, .ref b)])
    (kk : ∀ (z : TA) (S Sm : St) (H : Heap) (locs : List Loc), okA z → XA S z → MA Sm z → VX dC dI cA P S H → VM dC dI cA Q Sm H → va_S (fun q => s.heap.size ≤ q) s.heap H locs → W p l e room_1 s m #[Value.ref b] below meth c H locs 81 9740 (lw_Z below #[Value.ref b] s) (F0 m 1292 ls [])) : W p l e room_1 s m #[Value.ref b] below meth c H locs 81 9740 (lw_Z below #[Value.ref b] s) (F0 m 654 ls []) := by
  obtain ⟨hx, hb, hr, hml, hown, hts0, hX, hbl, hlocks, hgv⟩ := C0
  have hts : ∀ w ∈ G, w.before #[Value.ref b] s = true := fun w hw => hts0 w (G_tbl hw)
  have hown : s.vm.findClass RL = some m.cls := hown
  have hbA : ¬ (fun q : Nat => s.heap.size ≤ q) b := Nat.not_le.mpr hbl
  have v1 : vp_in (nI i + 1) L := by rw [show nI i + 1 = nI (i + 1) from nI_add i 1]; exact vp_in_nI (by omega) (by omega)
  have v2 : vp_in (nI i + 2) L := by rw [show nI i + 2 = nI (i + 2) from nI_add i 2]; exact vp_in_nI (by omega) (by omega)
  have v3 : vp_in (nI i + 3) L := by rw [show nI i + 3 = nI (i + 3) from nI_add i 3]; exact vp_in_nI (by omega) (by omega)
  have v4 : vp_in (nI i + 4) L := by rw [show nI i + 4 = nI (i + 4) from nI_add i 4]; exact vp_in_nI (by omega) (by omega)
  refine lv_aload_n hx hb dL_law_654 rfl (lv_at hl 2 rfl) ?_
  refine lv_aload_n hx hb dL_law_655 rfl (lv_at hl 3 rfl) ?_
  refine lv_iload_n hx hb dL_law_656 rfl (lv_at hl 0 rfl) ?_
  refine lv_iconst (v := 1) hx hb dL_law_657 (by decide) ?_
  refine lv_iadd hx hb dL_law_658 ?_
  refine va_sld hx hb hX hbl hbA hS v1 dL_law_659 ?_
  refine lv_aload_n hx hb dL_law_660 rfl (lv_at hl 3 rfl) ?_
  refine lv_iload_n hx hb dL_law_661 rfl (lv_at hl 0 rfl) ?_
  refine lv_iconst (v := 2) hx hb dL_law_662 (by decide) ?_
  refine lv_iadd hx hb dL_law_663 ?_
  refine va_sld hx hb hX hbl hbA hS v2 dL_law_664 ?_
  refine lv_aload_n hx hb dL_law_665 rfl (lv_at hl 3 rfl) ?_
  refine lv_iload_n hx hb dL_law_666 rfl (lv_at hl 0 rfl) ?_
  refine lv_iconst (v := 3) hx hb dL_law_667 (by decide) ?_
  refine lv_iadd hx hb dL_law_668 ?_
  refine va_sld hx hb hX hbl hbA hS v3 dL_law_669 ?_
  refine law_xi (rest := []) hPQ hVM hS (va_runV (As := [.int _, .int _, .int _]) (rest := []) ⟨hx, hb, hml, hown, hts⟩ (c_X8_cycles l hPQ.1 (xa_cycles ok hx1 _ _ _)) (cwV 3 hts gv_L_72 rfl rfl rfl hv_X8_cycles ⟨Nat.le_of_ble_eq_true rfl, Nat.le_of_ble_eq_true rfl⟩) (preXL hKL hVX hS hPQ) rfl rfl hl.1 rfl (lv_room (Nat.le_of_ble_eq_true rfl)) dL_law_670 ⟨Nat.le_of_ble_eq_true rfl, Nat.le_of_ble_eq_true rfl⟩) (fun r1 S H locs hr1 hVX hVM hS => ?_)
  refine lv_aload_n hx hb dL_law_673 rfl (lv_at hl 1 rfl) ?_
  refine lv_aload_n hx hb dL_law_674 rfl (lv_at hl 3 rfl) ?_
  refine lv_iload_n hx hb dL_law_675 rfl (lv_at hl 0 rfl) ?_
  refine lv_iconst (v := 1) hx hb dL_law_676 (by decide) ?_
  refine lv_iadd hx hb dL_law_677 ?_
  refine va_sld hx hb hX hbl hbA hS v1 dL_law_678 ?_
  refine lv_aload_n hx hb dL_law_679 rfl (lv_at hl 3 rfl) ?_
  refine lv_iload_n hx hb dL_law_680 rfl (lv_at hl 0 rfl) ?_
  refine lv_iconst (v := 2) hx hb dL_law_681 (by decide) ?_
  refine lv_iadd hx hb dL_law_682 ?_
  refine va_sld hx hb hX hbl hbA hS v2 dL_law_683 ?_
  refine lv_aload_n hx hb dL_law_684 rfl (lv_at hl 3 rfl) ?_
  refine lv_iload_n hx hb dL_law_685 rfl (lv_at hl 0 rfl) ?_
  refine lv_iconst (v := 3) hx hb dL_law_686 (by decide) ?_
  refine lv_iadd hx hb dL_law_687 ?_
  refine va_sld hx hb hX hbl hbA hS v3 dL_law_688 ?_
  refine law_mi (rest := [.int r1]) hPQ hVX hS (va_runV (As := [.int _, .int _, .int _]) (rest := [.int r1]) ⟨hx, hb, hml, hown, hts⟩ (c_X9_cycles l hPQ.2.1 (ma_cycles ok hm1 _ _ _)) (cwV 3 hts gv_L_75 rfl rfl rfl hv_X9_cycles ⟨Nat.le_of_ble_eq_true rfl, Nat.le_of_ble_eq_true rfl⟩) (preML hKL.1 hVM) rfl rfl hl.1 rfl (lv_room (Nat.le_of_ble_eq_true rfl)) dL_law_689 ⟨Nat.le_of_ble_eq_true rfl, Nat.le_of_ble_eq_true rfl⟩) (fun r2 Sm H locs hr2 hVX hVM hS => ?_)
  exact lv_icmp_eq (tgt := 1292) hx hb dL_law_692 (by decide) (fun _ => kk _ S Sm H locs (ka_cycles ok _ _ _) hr1.2 hr2.2 hVX hVM hS) (fun c9 => absurd (hr1.1.trans hr2.1.symm) c9)
set_option maxRecDepth 100000 in
set_option maxHeartbeats 4000000 in
theorem law_c15 {p : Program} {l : Launch} {e : Env} {s : State} {m : MethodId} {below : List Frame} {meth : Method} {c : Code} {b L : Nat} {xs : Nat → Int32} {dC : Nat → ClassId} {dI : Nat → Nat → Nat} {cA : Nat → ClassId} {adK adV P Q : Nat → Nat} (hL : L ≤ 2560) (C0 : lw_At p s m meth c b L xs) (hKL : KL dC dI cA adK adV (fun q => s.heap.size ≤ q) s) (hPQ : PQ P Q s.heap.size) {i : Nat} (hi : i + 5 ≤ L) {z : TA} (ok : okA z) {S Sm : St} (hx1 : XA S z) (hm1 : MA Sm z) {H : Heap} {locs : List Loc} {ls : Array Slot} (hVX : VX dC dI cA P S H) (hVM : VM dC dI cA Q Sm H) (hS : va_S (fun q => s.heap.size ≤ q) s.heap H locs) (hl : lv_has ls 4 [(3, .int (nI i)), (2, .ref (Q 0)), (1, .ref (P 0)), (0, .ref b)])
    (kk : ∀ (z : TA) (S Sm : St) (H : Heap) (locs : List Loc), okA z → XA S z → MA Sm z → VX dC dI cA P S H → VM dC dI cA Q Sm H → va_S (fun q => s.heap.size ≤ q) s.heap H locs → W p l e room_1 s m #[Value.ref b] below meth c H locs 81 9740 (lw_Z below #[Value.ref b] s) (F0 m 1292 ls [])) : W p l e room_1 s m #[Value.ref b] below meth c H locs 81 9740 (lw_Z below #[Value.ref b] s) (F0 m 697 ls []) := by
  obtain ⟨hx, hb, hr, hml, hown, hts0, hX, hbl, hlocks, hgv⟩ := C0
  have hts : ∀ w ∈ G, w.before #[Value.ref b] s = true := fun w hw => hts0 w (G_tbl hw)
  have hown : s.vm.findClass RL = some m.cls := hown
  have hbA : ¬ (fun q : Nat => s.heap.size ≤ q) b := Nat.not_le.mpr hbl
  have v1 : vp_in (nI i + 1) L := by rw [show nI i + 1 = nI (i + 1) from nI_add i 1]; exact vp_in_nI (by omega) (by omega)
  have v2 : vp_in (nI i + 2) L := by rw [show nI i + 2 = nI (i + 2) from nI_add i 2]; exact vp_in_nI (by omega) (by omega)
  have v3 : vp_in (nI i + 3) L := by rw [show nI i + 3 = nI (i + 3) from nI_add i 3]; exact vp_in_nI (by omega) (by omega)
  have v4 : vp_in (nI i + 4) L := by rw [show nI i + 4 = nI (i + 4) from nI_add i 4]; exact vp_in_nI (by omega) (by omega)
  refine lv_aload_n hx hb dL_law_697 rfl (lv_at hl 2 rfl) ?_
  refine lv_aload_n hx hb dL_law_698 rfl (lv_at hl 3 rfl) ?_
  refine lv_iload_n hx hb dL_law_699 rfl (lv_at hl 0 rfl) ?_
  refine lv_iconst (v := 1) hx hb dL_law_700 (by decide) ?_
  refine lv_iadd hx hb dL_law_701 ?_
  refine va_sld hx hb hX hbl hbA hS v1 dL_law_702 ?_
  refine lv_aload_n hx hb dL_law_703 rfl (lv_at hl 3 rfl) ?_
  refine lv_iload_n hx hb dL_law_704 rfl (lv_at hl 0 rfl) ?_
  refine lv_iconst (v := 2) hx hb dL_law_705 (by decide) ?_
  refine lv_iadd hx hb dL_law_706 ?_
  refine va_sld hx hb hX hbl hbA hS v2 dL_law_707 ?_
  refine lv_aload_n hx hb dL_law_708 rfl (lv_at hl 3 rfl) ?_
  refine lv_iload_n hx hb dL_law_709 rfl (lv_at hl 0 rfl) ?_
  refine lv_iconst (v := 3) hx hb dL_law_710 (by decide) ?_
  refine lv_iadd hx hb dL_law_711 ?_
  refine va_sld hx hb hX hbl hbA hS v3 dL_law_712 ?_
  refine lv_aload_n hx hb dL_law_713 rfl (lv_at hl 3 rfl) ?_
  refine lv_iload_n hx hb dL_law_714 rfl (lv_at hl 0 rfl) ?_
  refine lv_iconst (v := 4) hx hb dL_law_715 (by decide) ?_
  refine lv_iadd hx hb dL_law_716 ?_
  refine va_sld hx hb hX hbl hbA hS v4 dL_law_717 ?_
  refine law_xi (rest := []) hPQ hVM hS (va_runV (As := [.int _, .int _, .int _, .int _]) (rest := []) ⟨hx, hb, hml, hown, hts⟩ (c_X8_full l hPQ.1 (xa_full ok hx1 _ _ _ _)) (cwV 4 hts gv_L_76 rfl rfl rfl hv_X8_full ⟨Nat.le_of_ble_eq_true rfl, Nat.le_of_ble_eq_true rfl⟩) (preXL hKL hVX hS hPQ) rfl rfl hl.1 rfl (lv_room (Nat.le_of_ble_eq_true rfl)) dL_law_718 ⟨Nat.le_of_ble_eq_true rfl, Nat.le_of_ble_eq_true rfl⟩) (fun r1 S H locs hr1 hVX hVM hS => ?_)
  refine lv_aload_n hx hb dL_law_721 rfl (lv_at hl 1 rfl) ?_
  refine lv_aload_n hx hb dL_law_722 rfl (lv_at hl 3 rfl) ?_
  refine lv_iload_n hx hb dL_law_723 rfl (lv_at hl 0 rfl) ?_
  refine lv_iconst (v := 1) hx hb dL_law_724 (by decide) ?_
  refine lv_iadd hx hb dL_law_725 ?_
  refine va_sld hx hb hX hbl hbA hS v1 dL_law_726 ?_
  refine lv_aload_n hx hb dL_law_727 rfl (lv_at hl 3 rfl) ?_
  refine lv_iload_n hx hb dL_law_728 rfl (lv_at hl 0 rfl) ?_
  refine lv_iconst (v := 2) hx hb dL_law_729 (by decide) ?_
  refine lv_iadd hx hb dL_law_730 ?_
  refine va_sld hx hb hX hbl hbA hS v2 dL_law_731 ?_
  refine lv_aload_n hx hb dL_law_732 rfl (lv_at hl 3 rfl) ?_
  refine lv_iload_n hx hb dL_law_733 rfl (lv_at hl 0 rfl) ?_
  refine lv_iconst (v := 3) hx hb dL_law_734 (by decide) ?_
  refine lv_iadd hx hb dL_law_735 ?_
  refine va_sld hx hb hX hbl hbA hS v3 dL_law_736 ?_
  refine lv_aload_n hx hb dL_law_737 rfl (lv_at hl 3 rfl) ?_
  refine lv_iload_n hx hb dL_law_738 rfl (lv_at hl 0 rfl) ?_
  refine lv_iconst (v := 4) hx hb dL_law_739 (by decide) ?_
  refine lv_iadd hx hb dL_law_740 ?_
  refine va_sld hx hb hX hbl hbA hS v4 dL_law_741 ?_
  refine law_mi (rest := [.int r1]) hPQ hVX hS (va_runV (As := [.int _, .int _, .int _, .int _]) (rest := [.int r1]) ⟨hx, hb, hml, hown, hts⟩ (c_X9_full l hPQ.2.1 (ma_full ok hm1 _ _ _ _)) (cwV 4 hts gv_L_80 rfl rfl rfl hv_X9_full ⟨Nat.le_of_ble_eq_true rfl, Nat.le_of_ble_eq_true rfl⟩) (preML hKL.1 hVM) rfl rfl hl.1 rfl (lv_room (Nat.le_of_ble_eq_true rfl)) dL_law_742 ⟨Nat.le_of_ble_eq_true rfl, Nat.le_of_ble_eq_true rfl⟩) (fun r2 Sm H locs hr2 hVX hVM hS => ?_)
  exact lv_icmp_eq (tgt := 1292) hx hb dL_law_745 (by decide) (fun _ => kk _ S Sm H locs (ka_full ok _ _ _ _) hr1.2 hr2.2 hVX hVM hS) (fun c9 => absurd (hr1.1.trans hr2.1.symm) c9)
set_option maxRecDepth 100000 in
set_option maxHeartbeats 4000000 in
theorem law_c16 {p : Program} {l : Launch} {e : Env} {s : State} {m : MethodId} {below : List Frame} {meth : Method} {c : Code} {b L : Nat} {xs : Nat → Int32} {dC : Nat → ClassId} {dI : Nat → Nat → Nat} {cA : Nat → ClassId} {adK adV P Q : Nat → Nat} (hL : L ≤ 2560) (C0 : lw_At p s m meth c b L xs) (hKL : KL dC dI cA adK adV (fun q => s.heap.size ≤ q) s) (hPQ : PQ P Q s.heap.size) {i : Nat} (hi : i + 5 ≤ L) {z : TA} (ok : okA z) {S Sm : St} (hx1 : XA S z) (hm1 : MA Sm z) {H : Heap} {locs : List Loc} {ls : Array Slot} (hVX : VX dC dI cA P S H) (hVM : VM dC dI cA Q Sm H) (hS : va_S (fun q => s.heap.size ≤ q) s.heap H locs) (hl : lv_has ls 4 [(3, .int (nI i)), (2, .ref (Q 0)), (1, .ref (P 0)), (0, .ref b)])
    (kk : ∀ (z : TA) (S Sm : St) (H : Heap) (locs : List Loc), okA z → XA S z → MA Sm z → VX dC dI cA P S H → VM dC dI cA Q Sm H → va_S (fun q => s.heap.size ≤ q) s.heap H locs → W p l e room_1 s m #[Value.ref b] below meth c H locs 81 9740 (lw_Z below #[Value.ref b] s) (F0 m 1292 ls [])) : W p l e room_1 s m #[Value.ref b] below meth c H locs 81 9740 (lw_Z below #[Value.ref b] s) (F0 m 750 ls []) := by
  obtain ⟨hx, hb, hr, hml, hown, hts0, hX, hbl, hlocks, hgv⟩ := C0
  have hts : ∀ w ∈ G, w.before #[Value.ref b] s = true := fun w hw => hts0 w (G_tbl hw)
  have hown : s.vm.findClass RL = some m.cls := hown
  have hbA : ¬ (fun q : Nat => s.heap.size ≤ q) b := Nat.not_le.mpr hbl
  have v1 : vp_in (nI i + 1) L := by rw [show nI i + 1 = nI (i + 1) from nI_add i 1]; exact vp_in_nI (by omega) (by omega)
  have v2 : vp_in (nI i + 2) L := by rw [show nI i + 2 = nI (i + 2) from nI_add i 2]; exact vp_in_nI (by omega) (by omega)
  have v3 : vp_in (nI i + 3) L := by rw [show nI i + 3 = nI (i + 3) from nI_add i 3]; exact vp_in_nI (by omega) (by omega)
  have v4 : vp_in (nI i + 4) L := by rw [show nI i + 4 = nI (i + 4) from nI_add i 4]; exact vp_in_nI (by omega) (by omega)
  refine lv_aload_n hx hb dL_law_750 rfl (lv_at hl 2 rfl) ?_
  refine lv_aload_n hx hb dL_law_751 rfl (lv_at hl 3 rfl) ?_
  refine lv_iload_n hx hb dL_law_752 rfl (lv_at hl 0 rfl) ?_
  refine lv_iconst (v := 1) hx hb dL_law_753 (by decide) ?_
  refine lv_iadd hx hb dL_law_754 ?_
  refine va_sld hx hb hX hbl hbA hS v1 dL_law_755 ?_
  refine lv_aload_n hx hb dL_law_756 rfl (lv_at hl 3 rfl) ?_
  refine lv_iload_n hx hb dL_law_757 rfl (lv_at hl 0 rfl) ?_
  refine lv_iconst (v := 2) hx hb dL_law_758 (by decide) ?_
  refine lv_iadd hx hb dL_law_759 ?_
  refine va_sld hx hb hX hbl hbA hS v2 dL_law_760 ?_
  refine law_xi (rest := []) hPQ hVM hS (va_runV (As := [.int _, .int _]) (rest := []) ⟨hx, hb, hml, hown, hts⟩ (c_X8_list l hPQ.1 (xa_list ok hx1 _ _)) (cwV 2 hts gv_L_81 rfl rfl rfl hv_X8_list ⟨Nat.le_of_ble_eq_true rfl, Nat.le_of_ble_eq_true rfl⟩) (preXL hKL hVX hS hPQ) rfl rfl hl.1 rfl (lv_room (Nat.le_of_ble_eq_true rfl)) dL_law_761 ⟨Nat.le_of_ble_eq_true rfl, Nat.le_of_ble_eq_true rfl⟩) (fun r1 S H locs hr1 hVX hVM hS => ?_)
  refine lv_aload_n hx hb dL_law_764 rfl (lv_at hl 1 rfl) ?_
  refine lv_aload_n hx hb dL_law_765 rfl (lv_at hl 3 rfl) ?_
  refine lv_iload_n hx hb dL_law_766 rfl (lv_at hl 0 rfl) ?_
  refine lv_iconst (v := 1) hx hb dL_law_767 (by decide) ?_
  refine lv_iadd hx hb dL_law_768 ?_
  refine va_sld hx hb hX hbl hbA hS v1 dL_law_769 ?_
  refine lv_aload_n hx hb dL_law_770 rfl (lv_at hl 3 rfl) ?_
  refine lv_iload_n hx hb dL_law_771 rfl (lv_at hl 0 rfl) ?_
  refine lv_iconst (v := 2) hx hb dL_law_772 (by decide) ?_
  refine lv_iadd hx hb dL_law_773 ?_
  refine va_sld hx hb hX hbl hbA hS v2 dL_law_774 ?_
  refine law_mi (rest := [.int r1]) hPQ hVX hS (va_runV (As := [.int _, .int _]) (rest := [.int r1]) ⟨hx, hb, hml, hown, hts⟩ (c_X9_list l hPQ.2.1 (ma_list ok hm1 _ _)) (cwV 2 hts gv_L_84 rfl rfl rfl hv_X9_list ⟨Nat.le_of_ble_eq_true rfl, Nat.le_of_ble_eq_true rfl⟩) (preML hKL.1 hVM) rfl rfl hl.1 rfl (lv_room (Nat.le_of_ble_eq_true rfl)) dL_law_775 ⟨Nat.le_of_ble_eq_true rfl, Nat.le_of_ble_eq_true rfl⟩) (fun r2 Sm H locs hr2 hVX hVM hS => ?_)
  exact lv_icmp_eq (tgt := 1292) hx hb dL_law_778 (by decide) (fun _ => kk _ S Sm H locs (ka_list ok _ _) hr1.2 hr2.2 hVX hVM hS) (fun c9 => absurd (hr1.1.trans hr2.1.symm) c9)
set_option maxRecDepth 100000 in
set_option maxHeartbeats 4000000 in
theorem law_c17 {p : Program} {l : Launch} {e : Env} {s : State} {m : MethodId} {below : List Frame} {meth : Method} {c : Code} {b L : Nat} {xs : Nat → Int32} {dC : Nat → ClassId} {dI : Nat → Nat → Nat} {cA : Nat → ClassId} {adK adV P Q : Nat → Nat} (hL : L ≤ 2560) (C0 : lw_At p s m meth c b L xs) (hKL : KL dC dI cA adK adV (fun q => s.heap.size ≤ q) s) (hPQ : PQ P Q s.heap.size) {i : Nat} (hi : i + 5 ≤ L) {z : TA} (ok : okA z) {S Sm : St} (hx1 : XA S z) (hm1 : MA Sm z) {H : Heap} {locs : List Loc} {ls : Array Slot} (hVX : VX dC dI cA P S H) (hVM : VM dC dI cA Q Sm H) (hS : va_S (fun q => s.heap.size ≤ q) s.heap H locs) (hl : lv_has ls 4 [(3, .int (nI i)), (2, .ref (Q 0)), (1, .ref (P 0)), (0, .ref b)])
    (kk : ∀ (z : TA) (S Sm : St) (H : Heap) (locs : List Loc), okA z → XA S z → MA Sm z → VX dC dI cA P S H → VM dC dI cA Q Sm H → va_S (fun q => s.heap.size ≤ q) s.heap H locs → W p l e room_1 s m #[Value.ref b] below meth c H locs 81 9740 (lw_Z below #[Value.ref b] s) (F0 m 1292 ls [])) : W p l e room_1 s m #[Value.ref b] below meth c H locs 81 9740 (lw_Z below #[Value.ref b] s) (F0 m 783 ls []) := by
  obtain ⟨hx, hb, hr, hml, hown, hts0, hX, hbl, hlocks, hgv⟩ := C0
  have hts : ∀ w ∈ G, w.before #[Value.ref b] s = true := fun w hw => hts0 w (G_tbl hw)
  have hown : s.vm.findClass RL = some m.cls := hown
  have hbA : ¬ (fun q : Nat => s.heap.size ≤ q) b := Nat.not_le.mpr hbl
  have v1 : vp_in (nI i + 1) L := by rw [show nI i + 1 = nI (i + 1) from nI_add i 1]; exact vp_in_nI (by omega) (by omega)
  have v2 : vp_in (nI i + 2) L := by rw [show nI i + 2 = nI (i + 2) from nI_add i 2]; exact vp_in_nI (by omega) (by omega)
  have v3 : vp_in (nI i + 3) L := by rw [show nI i + 3 = nI (i + 3) from nI_add i 3]; exact vp_in_nI (by omega) (by omega)
  have v4 : vp_in (nI i + 4) L := by rw [show nI i + 4 = nI (i + 4) from nI_add i 4]; exact vp_in_nI (by omega) (by omega)
  refine lv_aload_n hx hb dL_law_783 rfl (lv_at hl 2 rfl) ?_
  refine law_xi (rest := []) hPQ hVM hS (va_runV (As := []) (rest := []) ⟨hx, hb, hml, hown, hts⟩ (c_X8_thin l hPQ.1 (xa_thin ok hx1)) (cwV 0 hts gv_L_85 rfl rfl rfl hv_X8_thin ⟨Nat.le_of_ble_eq_true rfl, Nat.le_of_ble_eq_true rfl⟩) (preXL hKL hVX hS hPQ) rfl rfl hl.1 rfl (lv_room (Nat.le_of_ble_eq_true rfl)) dL_law_784 ⟨Nat.le_of_ble_eq_true rfl, Nat.le_of_ble_eq_true rfl⟩) (fun r1 S H locs hr1 hVX hVM hS => ?_)
  refine lv_aload_n hx hb dL_law_787 rfl (lv_at hl 1 rfl) ?_
  refine law_mi (rest := [.int r1]) hPQ hVX hS (va_runV (As := []) (rest := [.int r1]) ⟨hx, hb, hml, hown, hts⟩ (c_X9_thin l hPQ.2.1 (ma_thin ok hm1)) (cwV 0 hts gv_L_89 rfl rfl rfl hv_X9_thin ⟨Nat.le_of_ble_eq_true rfl, Nat.le_of_ble_eq_true rfl⟩) (preML hKL.1 hVM) rfl rfl hl.1 rfl (lv_room (Nat.le_of_ble_eq_true rfl)) dL_law_788 ⟨Nat.le_of_ble_eq_true rfl, Nat.le_of_ble_eq_true rfl⟩) (fun r2 Sm H locs hr2 hVX hVM hS => ?_)
  exact lv_icmp_eq (tgt := 1292) hx hb dL_law_791 (by decide) (fun _ => kk _ S Sm H locs (ka_thin ok) hr1.2 hr2.2 hVX hVM hS) (fun c9 => absurd (hr1.1.trans hr2.1.symm) c9)
set_option maxRecDepth 100000 in
set_option maxHeartbeats 4000000 in
theorem law_c18 {p : Program} {l : Launch} {e : Env} {s : State} {m : MethodId} {below : List Frame} {meth : Method} {c : Code} {b L : Nat} {xs : Nat → Int32} {dC : Nat → ClassId} {dI : Nat → Nat → Nat} {cA : Nat → ClassId} {adK adV P Q : Nat → Nat} (hL : L ≤ 2560) (C0 : lw_At p s m meth c b L xs) (hKL : KL dC dI cA adK adV (fun q => s.heap.size ≤ q) s) (hPQ : PQ P Q s.heap.size) {i : Nat} (hi : i + 5 ≤ L) {z : TA} (ok : okA z) {S Sm : St} (hx1 : XA S z) (hm1 : MA Sm z) {H : Heap} {locs : List Loc} {ls : Array Slot} (hVX : VX dC dI cA P S H) (hVM : VM dC dI cA Q Sm H) (hS : va_S (fun q => s.heap.size ≤ q) s.heap H locs) (hl : lv_has ls 4 [(3, .int (nI i)), (2, .ref (Q 0)), (1, .ref (P 0)), (0, .ref b)])
    (kk : ∀ (z : TA) (S Sm : St) (H : Heap) (locs : List Loc), okA z → XA S z → MA Sm z → VX dC dI cA P S H → VM dC dI cA Q Sm H → va_S (fun q => s.heap.size ≤ q) s.heap H locs → W p l e room_1 s m #[Value.ref b] below meth c H locs 81 9740 (lw_Z below #[Value.ref b] s) (F0 m 1292 ls [])) : W p l e room_1 s m #[Value.ref b] below meth c H locs 81 9740 (lw_Z below #[Value.ref b] s) (F0 m 796 ls []) := by
  obtain ⟨hx, hb, hr, hml, hown, hts0, hX, hbl, hlocks, hgv⟩ := C0
  have hts : ∀ w ∈ G, w.before #[Value.ref b] s = true := fun w hw => hts0 w (G_tbl hw)
  have hown : s.vm.findClass RL = some m.cls := hown
  have hbA : ¬ (fun q : Nat => s.heap.size ≤ q) b := Nat.not_le.mpr hbl
  have v1 : vp_in (nI i + 1) L := by rw [show nI i + 1 = nI (i + 1) from nI_add i 1]; exact vp_in_nI (by omega) (by omega)
  have v2 : vp_in (nI i + 2) L := by rw [show nI i + 2 = nI (i + 2) from nI_add i 2]; exact vp_in_nI (by omega) (by omega)
  have v3 : vp_in (nI i + 3) L := by rw [show nI i + 3 = nI (i + 3) from nI_add i 3]; exact vp_in_nI (by omega) (by omega)
  have v4 : vp_in (nI i + 4) L := by rw [show nI i + 4 = nI (i + 4) from nI_add i 4]; exact vp_in_nI (by omega) (by omega)
  refine lv_aload_n hx hb dL_law_796 rfl (lv_at hl 2 rfl) ?_
  refine lv_aload_n hx hb dL_law_797 rfl (lv_at hl 3 rfl) ?_
  refine lv_iload_n hx hb dL_law_798 rfl (lv_at hl 0 rfl) ?_
  refine lv_iconst (v := 1) hx hb dL_law_799 (by decide) ?_
  refine lv_iadd hx hb dL_law_800 ?_
  refine va_sld hx hb hX hbl hbA hS v1 dL_law_801 ?_
  refine law_xi (rest := []) hPQ hVM hS (va_runV (As := [.int _]) (rest := []) ⟨hx, hb, hml, hown, hts⟩ (c_X8_listed l hPQ.1 (xa_listed ok hx1 _)) (cwV 1 hts gv_L_90 rfl rfl rfl hv_X8_listed ⟨Nat.le_of_ble_eq_true rfl, Nat.le_of_ble_eq_true rfl⟩) (preXL hKL hVX hS hPQ) rfl rfl hl.1 rfl (lv_room (Nat.le_of_ble_eq_true rfl)) dL_law_802 ⟨Nat.le_of_ble_eq_true rfl, Nat.le_of_ble_eq_true rfl⟩) (fun r1 S H locs hr1 hVX hVM hS => ?_)
  refine lv_aload_n hx hb dL_law_805 rfl (lv_at hl 1 rfl) ?_
  refine lv_aload_n hx hb dL_law_806 rfl (lv_at hl 3 rfl) ?_
  refine lv_iload_n hx hb dL_law_807 rfl (lv_at hl 0 rfl) ?_
  refine lv_iconst (v := 1) hx hb dL_law_808 (by decide) ?_
  refine lv_iadd hx hb dL_law_809 ?_
  refine va_sld hx hb hX hbl hbA hS v1 dL_law_810 ?_
  refine law_mi (rest := [.int r1]) hPQ hVX hS (va_runV (As := [.int _]) (rest := [.int r1]) ⟨hx, hb, hml, hown, hts⟩ (c_X9_listed l hPQ.2.1 (ma_listed ok hm1 _)) (cwV 1 hts gv_L_93 rfl rfl rfl hv_X9_listed ⟨Nat.le_of_ble_eq_true rfl, Nat.le_of_ble_eq_true rfl⟩) (preML hKL.1 hVM) rfl rfl hl.1 rfl (lv_room (Nat.le_of_ble_eq_true rfl)) dL_law_811 ⟨Nat.le_of_ble_eq_true rfl, Nat.le_of_ble_eq_true rfl⟩) (fun r2 Sm H locs hr2 hVX hVM hS => ?_)
  exact lv_icmp_eq (tgt := 1292) hx hb dL_law_814 (by decide) (fun _ => kk _ S Sm H locs (ka_listed ok _) hr1.2 hr2.2 hVX hVM hS) (fun c9 => absurd (hr1.1.trans hr2.1.symm) c9)
set_option maxRecDepth 100000 in
set_option maxHeartbeats 4000000 in
theorem law_c19 {p : Program} {l : Launch} {e : Env} {s : State} {m : MethodId} {below : List Frame} {meth : Method} {c : Code} {b L : Nat} {xs : Nat → Int32} {dC : Nat → ClassId} {dI : Nat → Nat → Nat} {cA : Nat → ClassId} {adK adV P Q : Nat → Nat} (hL : L ≤ 2560) (C0 : lw_At p s m meth c b L xs) (hKL : KL dC dI cA adK adV (fun q => s.heap.size ≤ q) s) (hPQ : PQ P Q s.heap.size) {i : Nat} (hi : i + 5 ≤ L) {z : TA} (ok : okA z) {S Sm : St} (hx1 : XA S z) (hm1 : MA Sm z) {H : Heap} {locs : List Loc} {ls : Array Slot} (hVX : VX dC dI cA P S H) (hVM : VM dC dI cA Q Sm H) (hS : va_S (fun q => s.heap.size ≤ q) s.heap H locs) (hl : lv_has ls 4 [(3, .int (nI i)), (2, .ref (Q 0)), (1, .ref (P 0)), (0, .ref b)])
    (kk : ∀ (z : TA) (S Sm : St) (H : Heap) (locs : List Loc), okA z → XA S z → MA Sm z → VX dC dI cA P S H → VM dC dI cA Q Sm H → va_S (fun q => s.heap.size ≤ q) s.heap H locs → W p l e room_1 s m #[Value.ref b] below meth c H locs 81 9740 (lw_Z below #[Value.ref b] s) (F0 m 1292 ls [])) : W p l e room_1 s m #[Value.ref b] below meth c H locs 81 9740 (lw_Z below #[Value.ref b] s) (F0 m 819 ls []) := by
  obtain ⟨hx, hb, hr, hml, hown, hts0, hX, hbl, hlocks, hgv⟩ := C0
  have hts : ∀ w ∈ G, w.before #[Value.ref b] s = true := fun w hw => hts0 w (G_tbl hw)
  have hown : s.vm.findClass RL = some m.cls := hown
  have hbA : ¬ (fun q : Nat => s.heap.size ≤ q) b := Nat.not_le.mpr hbl
  have v1 : vp_in (nI i + 1) L := by rw [show nI i + 1 = nI (i + 1) from nI_add i 1]; exact vp_in_nI (by omega) (by omega)
  have v2 : vp_in (nI i + 2) L := by rw [show nI i + 2 = nI (i + 2) from nI_add i 2]; exact vp_in_nI (by omega) (by omega)
  have v3 : vp_in (nI i + 3) L := by rw [show nI i + 3 = nI (i + 3) from nI_add i 3]; exact vp_in_nI (by omega) (by omega)
  have v4 : vp_in (nI i + 4) L := by rw [show nI i + 4 = nI (i + 4) from nI_add i 4]; exact vp_in_nI (by omega) (by omega)
  refine lv_aload_n hx hb dL_law_819 rfl (lv_at hl 2 rfl) ?_
  refine lv_aload_n hx hb dL_law_820 rfl (lv_at hl 3 rfl) ?_
  refine lv_iload_n hx hb dL_law_821 rfl (lv_at hl 0 rfl) ?_
  refine lv_iconst (v := 1) hx hb dL_law_822 (by decide) ?_
  refine lv_iadd hx hb dL_law_823 ?_
  refine va_sld hx hb hX hbl hbA hS v1 dL_law_824 ?_
  refine lv_aload_n hx hb dL_law_825 rfl (lv_at hl 3 rfl) ?_
  refine lv_iload_n hx hb dL_law_826 rfl (lv_at hl 0 rfl) ?_
  refine lv_iconst (v := 2) hx hb dL_law_827 (by decide) ?_
  refine lv_iadd hx hb dL_law_828 ?_
  refine va_sld hx hb hX hbl hbA hS v2 dL_law_829 ?_
  refine lv_aload_n hx hb dL_law_830 rfl (lv_at hl 3 rfl) ?_
  refine lv_iload_n hx hb dL_law_831 rfl (lv_at hl 0 rfl) ?_
  refine lv_iconst (v := 3) hx hb dL_law_832 (by decide) ?_
  refine lv_iadd hx hb dL_law_833 ?_
  refine va_sld hx hb hX hbl hbA hS v3 dL_law_834 ?_
  refine law_xl (rest := []) hPQ hVM hS (va_runV (As := [.int _, .int _, .int _]) (rest := []) ⟨hx, hb, hml, hown, hts⟩ (c_X8_tells l hPQ.1 (xa_tells ok hx1 _ _ _)) (cwV 3 hts gv_L_94 rfl rfl rfl hv_X8_tells ⟨Nat.le_of_ble_eq_true rfl, Nat.le_of_ble_eq_true rfl⟩) (preXL hKL hVX hS hPQ) rfl rfl hl.1 rfl (lv_room (Nat.le_of_ble_eq_true rfl)) dL_law_835 ⟨Nat.le_of_ble_eq_true rfl, Nat.le_of_ble_eq_true rfl⟩) (fun r1 S H locs hr1 hVX hVM hS => ?_)
  refine lv_aload_n hx hb dL_law_838 rfl (lv_at hl 1 rfl) ?_
  refine lv_aload_n hx hb dL_law_839 rfl (lv_at hl 3 rfl) ?_
  refine lv_iload_n hx hb dL_law_840 rfl (lv_at hl 0 rfl) ?_
  refine lv_iconst (v := 1) hx hb dL_law_841 (by decide) ?_
  refine lv_iadd hx hb dL_law_842 ?_
  refine va_sld hx hb hX hbl hbA hS v1 dL_law_843 ?_
  refine lv_aload_n hx hb dL_law_844 rfl (lv_at hl 3 rfl) ?_
  refine lv_iload_n hx hb dL_law_845 rfl (lv_at hl 0 rfl) ?_
  refine lv_iconst (v := 2) hx hb dL_law_846 (by decide) ?_
  refine lv_iadd hx hb dL_law_847 ?_
  refine va_sld hx hb hX hbl hbA hS v2 dL_law_848 ?_
  refine lv_aload_n hx hb dL_law_849 rfl (lv_at hl 3 rfl) ?_
  refine lv_iload_n hx hb dL_law_850 rfl (lv_at hl 0 rfl) ?_
  refine lv_iconst (v := 3) hx hb dL_law_851 (by decide) ?_
  refine lv_iadd hx hb dL_law_852 ?_
  refine va_sld hx hb hX hbl hbA hS v3 dL_law_853 ?_
  refine law_ml (rest := [.long r1]) hPQ hVX hS (va_runV (As := [.int _, .int _, .int _]) (rest := [.long r1]) ⟨hx, hb, hml, hown, hts⟩ (c_X9_tells l hPQ.2.1 (ma_tells ok hm1 _ _ _)) (cwV 3 hts gv_L_98 rfl rfl rfl hv_X9_tells ⟨Nat.le_of_ble_eq_true rfl, Nat.le_of_ble_eq_true rfl⟩) (preML hKL.1 hVM) rfl rfl hl.1 rfl (lv_room (Nat.le_of_ble_eq_true rfl)) dL_law_854 ⟨Nat.le_of_ble_eq_true rfl, Nat.le_of_ble_eq_true rfl⟩) (fun r2 Sm H locs hr2 hVX hVM hS => ?_)
  refine W.lcmp hx hb dL_law_857 ?_
  exact lv_if_eq (tgt := 1292) hx hb dL_law_858 (by decide) (fun _ => kk _ S Sm H locs (ka_tells ok _ _ _) hr1.2 hr2.2 hVX hVM hS) (fun c9 => absurd ((lg_cmp_eq _ _).mpr (hr1.1.trans hr2.1.symm)) c9)
set_option maxRecDepth 100000 in
set_option maxHeartbeats 4000000 in
theorem law_c20 {p : Program} {l : Launch} {e : Env} {s : State} {m : MethodId} {below : List Frame} {meth : Method} {c : Code} {b L : Nat} {xs : Nat → Int32} {dC : Nat → ClassId} {dI : Nat → Nat → Nat} {cA : Nat → ClassId} {adK adV P Q : Nat → Nat} (hL : L ≤ 2560) (C0 : lw_At p s m meth c b L xs) (hKL : KL dC dI cA adK adV (fun q => s.heap.size ≤ q) s) (hPQ : PQ P Q s.heap.size) {i : Nat} (hi : i + 5 ≤ L) {z : TA} (ok : okA z) {S Sm : St} (hx1 : XA S z) (hm1 : MA Sm z) {H : Heap} {locs : List Loc} {ls : Array Slot} (hVX : VX dC dI cA P S H) (hVM : VM dC dI cA Q Sm H) (hS : va_S (fun q => s.heap.size ≤ q) s.heap H locs) (hl : lv_has ls 4 [(3, .int (nI i)), (2, .ref (Q 0)), (1, .ref (P 0)), (0, .ref b)])
    (kk : ∀ (z : TA) (S Sm : St) (H : Heap) (locs : List Loc), okA z → XA S z → MA Sm z → VX dC dI cA P S H → VM dC dI cA Q Sm H → va_S (fun q => s.heap.size ≤ q) s.heap H locs → W p l e room_1 s m #[Value.ref b] below meth c H locs 81 9740 (lw_Z below #[Value.ref b] s) (F0 m 1292 ls [])) : W p l e room_1 s m #[Value.ref b] below meth c H locs 81 9740 (lw_Z below #[Value.ref b] s) (F0 m 863 ls []) := by
  obtain ⟨hx, hb, hr, hml, hown, hts0, hX, hbl, hlocks, hgv⟩ := C0
  have hts : ∀ w ∈ G, w.before #[Value.ref b] s = true := fun w hw => hts0 w (G_tbl hw)
  have hown : s.vm.findClass RL = some m.cls := hown
  have hbA : ¬ (fun q : Nat => s.heap.size ≤ q) b := Nat.not_le.mpr hbl
  have v1 : vp_in (nI i + 1) L := by rw [show nI i + 1 = nI (i + 1) from nI_add i 1]; exact vp_in_nI (by omega) (by omega)
  have v2 : vp_in (nI i + 2) L := by rw [show nI i + 2 = nI (i + 2) from nI_add i 2]; exact vp_in_nI (by omega) (by omega)
  have v3 : vp_in (nI i + 3) L := by rw [show nI i + 3 = nI (i + 3) from nI_add i 3]; exact vp_in_nI (by omega) (by omega)
  have v4 : vp_in (nI i + 4) L := by rw [show nI i + 4 = nI (i + 4) from nI_add i 4]; exact vp_in_nI (by omega) (by omega)
  refine lv_aload_n hx hb dL_law_863 rfl (lv_at hl 2 rfl) ?_
  refine lv_aload_n hx hb dL_law_864 rfl (lv_at hl 3 rfl) ?_
  refine lv_iload_n hx hb dL_law_865 rfl (lv_at hl 0 rfl) ?_
  refine lv_iconst (v := 1) hx hb dL_law_866 (by decide) ?_
  refine lv_iadd hx hb dL_law_867 ?_
  refine va_sld hx hb hX hbl hbA hS v1 dL_law_868 ?_
  refine lv_aload_n hx hb dL_law_869 rfl (lv_at hl 3 rfl) ?_
  refine lv_iload_n hx hb dL_law_870 rfl (lv_at hl 0 rfl) ?_
  refine lv_iconst (v := 2) hx hb dL_law_871 (by decide) ?_
  refine lv_iadd hx hb dL_law_872 ?_
  refine va_sld hx hb hX hbl hbA hS v2 dL_law_873 ?_
  refine law_xi (rest := []) hPQ hVM hS (va_runV (As := [.int _, .int _]) (rest := []) ⟨hx, hb, hml, hown, hts⟩ (c_X8_feed l hPQ.1 (xa_feed ok hx1 _ _)) (cwV 2 hts gv_L_99 rfl rfl rfl hv_X8_feed ⟨Nat.le_of_ble_eq_true rfl, Nat.le_of_ble_eq_true rfl⟩) (preXL hKL hVX hS hPQ) rfl rfl hl.1 rfl (lv_room (Nat.le_of_ble_eq_true rfl)) dL_law_874 ⟨Nat.le_of_ble_eq_true rfl, Nat.le_of_ble_eq_true rfl⟩) (fun r1 S H locs hr1 hVX hVM hS => ?_)
  refine lv_aload_n hx hb dL_law_877 rfl (lv_at hl 1 rfl) ?_
  refine lv_aload_n hx hb dL_law_878 rfl (lv_at hl 3 rfl) ?_
  refine lv_iload_n hx hb dL_law_879 rfl (lv_at hl 0 rfl) ?_
  refine lv_iconst (v := 1) hx hb dL_law_880 (by decide) ?_
  refine lv_iadd hx hb dL_law_881 ?_
  refine va_sld hx hb hX hbl hbA hS v1 dL_law_882 ?_
  refine lv_aload_n hx hb dL_law_883 rfl (lv_at hl 3 rfl) ?_
  refine lv_iload_n hx hb dL_law_884 rfl (lv_at hl 0 rfl) ?_
  refine lv_iconst (v := 2) hx hb dL_law_885 (by decide) ?_
  refine lv_iadd hx hb dL_law_886 ?_
  refine va_sld hx hb hX hbl hbA hS v2 dL_law_887 ?_
  refine law_mi (rest := [.int r1]) hPQ hVX hS (va_runV (As := [.int _, .int _]) (rest := [.int r1]) ⟨hx, hb, hml, hown, hts⟩ (c_X9_feed l hPQ.2.1 (ma_feed ok hm1 _ _)) (cwV 2 hts gv_L_102 rfl rfl rfl hv_X9_feed ⟨Nat.le_of_ble_eq_true rfl, Nat.le_of_ble_eq_true rfl⟩) (preML hKL.1 hVM) rfl rfl hl.1 rfl (lv_room (Nat.le_of_ble_eq_true rfl)) dL_law_888 ⟨Nat.le_of_ble_eq_true rfl, Nat.le_of_ble_eq_true rfl⟩) (fun r2 Sm H locs hr2 hVX hVM hS => ?_)
  exact lv_icmp_eq (tgt := 1292) hx hb dL_law_891 (by decide) (fun _ => kk _ S Sm H locs (ka_feed ok _ _) hr1.2 hr2.2 hVX hVM hS) (fun c9 => absurd (hr1.1.trans hr2.1.symm) c9)
set_option maxRecDepth 100000 in
set_option maxHeartbeats 4000000 in
theorem law_c21 {p : Program} {l : Launch} {e : Env} {s : State} {m : MethodId} {below : List Frame} {meth : Method} {c : Code} {b L : Nat} {xs : Nat → Int32} {dC : Nat → ClassId} {dI : Nat → Nat → Nat} {cA : Nat → ClassId} {adK adV P Q : Nat → Nat} (hL : L ≤ 2560) (C0 : lw_At p s m meth c b L xs) (hKL : KL dC dI cA adK adV (fun q => s.heap.size ≤ q) s) (hPQ : PQ P Q s.heap.size) {i : Nat} (hi : i + 5 ≤ L) {z : TA} (ok : okA z) {S Sm : St} (hx1 : XA S z) (hm1 : MA Sm z) {H : Heap} {locs : List Loc} {ls : Array Slot} (hVX : VX dC dI cA P S H) (hVM : VM dC dI cA Q Sm H) (hS : va_S (fun q => s.heap.size ≤ q) s.heap H locs) (hl : lv_has ls 4 [(3, .int (nI i)), (2, .ref (Q 0)), (1, .ref (P 0)), (0, .ref b)])
    (kk : ∀ (z : TA) (S Sm : St) (H : Heap) (locs : List Loc), okA z → XA S z → MA Sm z → VX dC dI cA P S H → VM dC dI cA Q Sm H → va_S (fun q => s.heap.size ≤ q) s.heap H locs → W p l e room_1 s m #[Value.ref b] below meth c H locs 81 9740 (lw_Z below #[Value.ref b] s) (F0 m 1292 ls [])) : W p l e room_1 s m #[Value.ref b] below meth c H locs 81 9740 (lw_Z below #[Value.ref b] s) (F0 m 896 ls []) := by
  obtain ⟨hx, hb, hr, hml, hown, hts0, hX, hbl, hlocks, hgv⟩ := C0
  have hts : ∀ w ∈ G, w.before #[Value.ref b] s = true := fun w hw => hts0 w (G_tbl hw)
  have hown : s.vm.findClass RL = some m.cls := hown
  have hbA : ¬ (fun q : Nat => s.heap.size ≤ q) b := Nat.not_le.mpr hbl
  have v1 : vp_in (nI i + 1) L := by rw [show nI i + 1 = nI (i + 1) from nI_add i 1]; exact vp_in_nI (by omega) (by omega)
  have v2 : vp_in (nI i + 2) L := by rw [show nI i + 2 = nI (i + 2) from nI_add i 2]; exact vp_in_nI (by omega) (by omega)
  have v3 : vp_in (nI i + 3) L := by rw [show nI i + 3 = nI (i + 3) from nI_add i 3]; exact vp_in_nI (by omega) (by omega)
  have v4 : vp_in (nI i + 4) L := by rw [show nI i + 4 = nI (i + 4) from nI_add i 4]; exact vp_in_nI (by omega) (by omega)
  refine lv_aload_n hx hb dL_law_896 rfl (lv_at hl 2 rfl) ?_
  refine law_xi (rest := []) hPQ hVM hS (va_runV (As := []) (rest := []) ⟨hx, hb, hml, hown, hts⟩ (c_X8_wipe l hPQ.1 (xa_wipe ok hx1)) (cwV 0 hts gv_L_103 rfl rfl rfl hv_X8_wipe ⟨Nat.le_of_ble_eq_true rfl, Nat.le_of_ble_eq_true rfl⟩) (preXL hKL hVX hS hPQ) rfl rfl hl.1 rfl (lv_room (Nat.le_of_ble_eq_true rfl)) dL_law_897 ⟨Nat.le_of_ble_eq_true rfl, Nat.le_of_ble_eq_true rfl⟩) (fun r1 S H locs hr1 hVX hVM hS => ?_)
  refine lv_aload_n hx hb dL_law_900 rfl (lv_at hl 1 rfl) ?_
  refine law_mi (rest := [.int r1]) hPQ hVX hS (va_runV (As := []) (rest := [.int r1]) ⟨hx, hb, hml, hown, hts⟩ (c_X9_wipe l hPQ.2.1 (ma_wipe ok hm1)) (cwV 0 hts gv_L_106 rfl rfl rfl hv_X9_wipe ⟨Nat.le_of_ble_eq_true rfl, Nat.le_of_ble_eq_true rfl⟩) (preML hKL.1 hVM) rfl rfl hl.1 rfl (lv_room (Nat.le_of_ble_eq_true rfl)) dL_law_901 ⟨Nat.le_of_ble_eq_true rfl, Nat.le_of_ble_eq_true rfl⟩) (fun r2 Sm H locs hr2 hVX hVM hS => ?_)
  exact lv_icmp_eq (tgt := 1292) hx hb dL_law_904 (by decide) (fun _ => kk _ S Sm H locs (ka_wipe ok) hr1.2 hr2.2 hVX hVM hS) (fun c9 => absurd (hr1.1.trans hr2.1.symm) c9)
set_option maxRecDepth 100000 in
set_option maxHeartbeats 4000000 in
theorem law_c22 {p : Program} {l : Launch} {e : Env} {s : State} {m : MethodId} {below : List Frame} {meth : Method} {c : Code} {b L : Nat} {xs : Nat → Int32} {dC : Nat → ClassId} {dI : Nat → Nat → Nat} {cA : Nat → ClassId} {adK adV P Q : Nat → Nat} (hL : L ≤ 2560) (C0 : lw_At p s m meth c b L xs) (hKL : KL dC dI cA adK adV (fun q => s.heap.size ≤ q) s) (hPQ : PQ P Q s.heap.size) {i : Nat} (hi : i + 5 ≤ L) {z : TA} (ok : okA z) {S Sm : St} (hx1 : XA S z) (hm1 : MA Sm z) {H : Heap} {locs : List Loc} {ls : Array Slot} (hVX : VX dC dI cA P S H) (hVM : VM dC dI cA Q Sm H) (hS : va_S (fun q => s.heap.size ≤ q) s.heap H locs) (hl : lv_has ls 4 [(3, .int (nI i)), (2, .ref (Q 0)), (1, .ref (P 0)), (0, .ref b)])
    (kk : ∀ (z : TA) (S Sm : St) (H : Heap) (locs : List Loc), okA z → XA S z → MA Sm z → VX dC dI cA P S H → VM dC dI cA Q Sm H → va_S (fun q => s.heap.size ≤ q) s.heap H locs → W p l e room_1 s m #[Value.ref b] below meth c H locs 81 9740 (lw_Z below #[Value.ref b] s) (F0 m 1292 ls [])) : W p l e room_1 s m #[Value.ref b] below meth c H locs 81 9740 (lw_Z below #[Value.ref b] s) (F0 m 909 ls []) := by
  obtain ⟨hx, hb, hr, hml, hown, hts0, hX, hbl, hlocks, hgv⟩ := C0
  have hts : ∀ w ∈ G, w.before #[Value.ref b] s = true := fun w hw => hts0 w (G_tbl hw)
  have hown : s.vm.findClass RL = some m.cls := hown
  have hbA : ¬ (fun q : Nat => s.heap.size ≤ q) b := Nat.not_le.mpr hbl
  have v1 : vp_in (nI i + 1) L := by rw [show nI i + 1 = nI (i + 1) from nI_add i 1]; exact vp_in_nI (by omega) (by omega)
  have v2 : vp_in (nI i + 2) L := by rw [show nI i + 2 = nI (i + 2) from nI_add i 2]; exact vp_in_nI (by omega) (by omega)
  have v3 : vp_in (nI i + 3) L := by rw [show nI i + 3 = nI (i + 3) from nI_add i 3]; exact vp_in_nI (by omega) (by omega)
  have v4 : vp_in (nI i + 4) L := by rw [show nI i + 4 = nI (i + 4) from nI_add i 4]; exact vp_in_nI (by omega) (by omega)
  refine lv_aload_n hx hb dL_law_909 rfl (lv_at hl 2 rfl) ?_
  refine lv_aload_n hx hb dL_law_910 rfl (lv_at hl 3 rfl) ?_
  refine lv_iload_n hx hb dL_law_911 rfl (lv_at hl 0 rfl) ?_
  refine lv_iconst (v := 1) hx hb dL_law_912 (by decide) ?_
  refine lv_iadd hx hb dL_law_913 ?_
  refine va_sld hx hb hX hbl hbA hS v1 dL_law_914 ?_
  refine lv_aload_n hx hb dL_law_915 rfl (lv_at hl 3 rfl) ?_
  refine lv_iload_n hx hb dL_law_916 rfl (lv_at hl 0 rfl) ?_
  refine lv_iconst (v := 2) hx hb dL_law_917 (by decide) ?_
  refine lv_iadd hx hb dL_law_918 ?_
  refine va_sld hx hb hX hbl hbA hS v2 dL_law_919 ?_
  refine law_xi (rest := []) hPQ hVM hS (va_runV (As := [.int _, .int _]) (rest := []) ⟨hx, hb, hml, hown, hts⟩ (c_X8_spell l hPQ.1 (xa_spell ok hx1 _ _)) (cwV 2 hts gv_L_107 rfl rfl rfl hv_X8_spell ⟨Nat.le_of_ble_eq_true rfl, Nat.le_of_ble_eq_true rfl⟩) (preXL hKL hVX hS hPQ) rfl rfl hl.1 rfl (lv_room (Nat.le_of_ble_eq_true rfl)) dL_law_920 ⟨Nat.le_of_ble_eq_true rfl, Nat.le_of_ble_eq_true rfl⟩) (fun r1 S H locs hr1 hVX hVM hS => ?_)
  refine lv_aload_n hx hb dL_law_923 rfl (lv_at hl 1 rfl) ?_
  refine lv_aload_n hx hb dL_law_924 rfl (lv_at hl 3 rfl) ?_
  refine lv_iload_n hx hb dL_law_925 rfl (lv_at hl 0 rfl) ?_
  refine lv_iconst (v := 1) hx hb dL_law_926 (by decide) ?_
  refine lv_iadd hx hb dL_law_927 ?_
  refine va_sld hx hb hX hbl hbA hS v1 dL_law_928 ?_
  refine lv_aload_n hx hb dL_law_929 rfl (lv_at hl 3 rfl) ?_
  refine lv_iload_n hx hb dL_law_930 rfl (lv_at hl 0 rfl) ?_
  refine lv_iconst (v := 2) hx hb dL_law_931 (by decide) ?_
  refine lv_iadd hx hb dL_law_932 ?_
  refine va_sld hx hb hX hbl hbA hS v2 dL_law_933 ?_
  refine law_mi (rest := [.int r1]) hPQ hVX hS (va_runV (As := [.int _, .int _]) (rest := [.int r1]) ⟨hx, hb, hml, hown, hts⟩ (c_X9_spell l hPQ.2.1 (ma_spell ok hm1 _ _)) (cwV 2 hts gv_L_110 rfl rfl rfl hv_X9_spell ⟨Nat.le_of_ble_eq_true rfl, Nat.le_of_ble_eq_true rfl⟩) (preML hKL.1 hVM) rfl rfl hl.1 rfl (lv_room (Nat.le_of_ble_eq_true rfl)) dL_law_934 ⟨Nat.le_of_ble_eq_true rfl, Nat.le_of_ble_eq_true rfl⟩) (fun r2 Sm H locs hr2 hVX hVM hS => ?_)
  exact lv_icmp_eq (tgt := 1292) hx hb dL_law_937 (by decide) (fun _ => kk _ S Sm H locs (ka_spell ok _ _) hr1.2 hr2.2 hVX hVM hS) (fun c9 => absurd (hr1.1.trans hr2.1.symm) c9)
set_option maxRecDepth 100000 in
set_option maxHeartbeats 4000000 in
theorem law_c23 {p : Program} {l : Launch} {e : Env} {s : State} {m : MethodId} {below : List Frame} {meth : Method} {c : Code} {b L : Nat} {xs : Nat → Int32} {dC : Nat → ClassId} {dI : Nat → Nat → Nat} {cA : Nat → ClassId} {adK adV P Q : Nat → Nat} (hL : L ≤ 2560) (C0 : lw_At p s m meth c b L xs) (hKL : KL dC dI cA adK adV (fun q => s.heap.size ≤ q) s) (hPQ : PQ P Q s.heap.size) {i : Nat} (hi : i + 5 ≤ L) {z : TA} (ok : okA z) {S Sm : St} (hx1 : XA S z) (hm1 : MA Sm z) {H : Heap} {locs : List Loc} {ls : Array Slot} (hVX : VX dC dI cA P S H) (hVM : VM dC dI cA Q Sm H) (hS : va_S (fun q => s.heap.size ≤ q) s.heap H locs) (hl : lv_has ls 4 [(3, .int (nI i)), (2, .ref (Q 0)), (1, .ref (P 0)), (0, .ref b)])
    (kk : ∀ (z : TA) (S Sm : St) (H : Heap) (locs : List Loc), okA z → XA S z → MA Sm z → VX dC dI cA P S H → VM dC dI cA Q Sm H → va_S (fun q => s.heap.size ≤ q) s.heap H locs → W p l e room_1 s m #[Value.ref b] below meth c H locs 81 9740 (lw_Z below #[Value.ref b] s) (F0 m 1292 ls [])) : W p l e room_1 s m #[Value.ref b] below meth c H locs 81 9740 (lw_Z below #[Value.ref b] s) (F0 m 942 ls []) := by
  obtain ⟨hx, hb, hr, hml, hown, hts0, hX, hbl, hlocks, hgv⟩ := C0
  have hts : ∀ w ∈ G, w.before #[Value.ref b] s = true := fun w hw => hts0 w (G_tbl hw)
  have hown : s.vm.findClass RL = some m.cls := hown
  have hbA : ¬ (fun q : Nat => s.heap.size ≤ q) b := Nat.not_le.mpr hbl
  have v1 : vp_in (nI i + 1) L := by rw [show nI i + 1 = nI (i + 1) from nI_add i 1]; exact vp_in_nI (by omega) (by omega)
  have v2 : vp_in (nI i + 2) L := by rw [show nI i + 2 = nI (i + 2) from nI_add i 2]; exact vp_in_nI (by omega) (by omega)
  have v3 : vp_in (nI i + 3) L := by rw [show nI i + 3 = nI (i + 3) from nI_add i 3]; exact vp_in_nI (by omega) (by omega)
  have v4 : vp_in (nI i + 4) L := by rw [show nI i + 4 = nI (i + 4) from nI_add i 4]; exact vp_in_nI (by omega) (by omega)
  refine lv_aload_n hx hb dL_law_942 rfl (lv_at hl 2 rfl) ?_
  refine lv_aload_n hx hb dL_law_943 rfl (lv_at hl 3 rfl) ?_
  refine lv_iload_n hx hb dL_law_944 rfl (lv_at hl 0 rfl) ?_
  refine lv_iconst (v := 1) hx hb dL_law_945 (by decide) ?_
  refine lv_iadd hx hb dL_law_946 ?_
  refine va_sld hx hb hX hbl hbA hS v1 dL_law_947 ?_
  refine law_xi (rest := []) hPQ hVM hS (va_runV (As := [.int _]) (rest := []) ⟨hx, hb, hml, hown, hts⟩ (c_X8_read l hPQ.1 (xa_read ok hx1 _)) (cwV 1 hts gv_L_111 rfl rfl rfl hv_X8_read ⟨Nat.le_of_ble_eq_true rfl, Nat.le_of_ble_eq_true rfl⟩) (preXL hKL hVX hS hPQ) rfl rfl hl.1 rfl (lv_room (Nat.le_of_ble_eq_true rfl)) dL_law_948 ⟨Nat.le_of_ble_eq_true rfl, Nat.le_of_ble_eq_true rfl⟩) (fun r1 S H locs hr1 hVX hVM hS => ?_)
  refine lv_aload_n hx hb dL_law_951 rfl (lv_at hl 1 rfl) ?_
  refine lv_aload_n hx hb dL_law_952 rfl (lv_at hl 3 rfl) ?_
  refine lv_iload_n hx hb dL_law_953 rfl (lv_at hl 0 rfl) ?_
  refine lv_iconst (v := 1) hx hb dL_law_954 (by decide) ?_
  refine lv_iadd hx hb dL_law_955 ?_
  refine va_sld hx hb hX hbl hbA hS v1 dL_law_956 ?_
  refine law_mi (rest := [.int r1]) hPQ hVX hS (va_runV (As := [.int _]) (rest := [.int r1]) ⟨hx, hb, hml, hown, hts⟩ (c_X9_read l hPQ.2.1 (ma_read ok hm1 _)) (cwV 1 hts gv_L_114 rfl rfl rfl hv_X9_read ⟨Nat.le_of_ble_eq_true rfl, Nat.le_of_ble_eq_true rfl⟩) (preML hKL.1 hVM) rfl rfl hl.1 rfl (lv_room (Nat.le_of_ble_eq_true rfl)) dL_law_957 ⟨Nat.le_of_ble_eq_true rfl, Nat.le_of_ble_eq_true rfl⟩) (fun r2 Sm H locs hr2 hVX hVM hS => ?_)
  exact lv_icmp_eq (tgt := 1292) hx hb dL_law_960 (by decide) (fun _ => kk _ S Sm H locs (ka_read ok _) hr1.2 hr2.2 hVX hVM hS) (fun c9 => absurd (hr1.1.trans hr2.1.symm) c9)
set_option maxRecDepth 100000 in
set_option maxHeartbeats 4000000 in
theorem law_c24 {p : Program} {l : Launch} {e : Env} {s : State} {m : MethodId} {below : List Frame} {meth : Method} {c : Code} {b L : Nat} {xs : Nat → Int32} {dC : Nat → ClassId} {dI : Nat → Nat → Nat} {cA : Nat → ClassId} {adK adV P Q : Nat → Nat} (hL : L ≤ 2560) (C0 : lw_At p s m meth c b L xs) (hKL : KL dC dI cA adK adV (fun q => s.heap.size ≤ q) s) (hPQ : PQ P Q s.heap.size) {i : Nat} (hi : i + 5 ≤ L) {z : TA} (ok : okA z) {S Sm : St} (hx1 : XA S z) (hm1 : MA Sm z) {H : Heap} {locs : List Loc} {ls : Array Slot} (hVX : VX dC dI cA P S H) (hVM : VM dC dI cA Q Sm H) (hS : va_S (fun q => s.heap.size ≤ q) s.heap H locs) (hl : lv_has ls 4 [(3, .int (nI i)), (2, .ref (Q 0)), (1, .ref (P 0)), (0, .ref b)])
    (kk : ∀ (z : TA) (S Sm : St) (H : Heap) (locs : List Loc), okA z → XA S z → MA Sm z → VX dC dI cA P S H → VM dC dI cA Q Sm H → va_S (fun q => s.heap.size ≤ q) s.heap H locs → W p l e room_1 s m #[Value.ref b] below meth c H locs 81 9740 (lw_Z below #[Value.ref b] s) (F0 m 1292 ls [])) : W p l e room_1 s m #[Value.ref b] below meth c H locs 81 9740 (lw_Z below #[Value.ref b] s) (F0 m 965 ls []) := by
  obtain ⟨hx, hb, hr, hml, hown, hts0, hX, hbl, hlocks, hgv⟩ := C0
  have hts : ∀ w ∈ G, w.before #[Value.ref b] s = true := fun w hw => hts0 w (G_tbl hw)
  have hown : s.vm.findClass RL = some m.cls := hown
  have hbA : ¬ (fun q : Nat => s.heap.size ≤ q) b := Nat.not_le.mpr hbl
  have v1 : vp_in (nI i + 1) L := by rw [show nI i + 1 = nI (i + 1) from nI_add i 1]; exact vp_in_nI (by omega) (by omega)
  have v2 : vp_in (nI i + 2) L := by rw [show nI i + 2 = nI (i + 2) from nI_add i 2]; exact vp_in_nI (by omega) (by omega)
  have v3 : vp_in (nI i + 3) L := by rw [show nI i + 3 = nI (i + 3) from nI_add i 3]; exact vp_in_nI (by omega) (by omega)
  have v4 : vp_in (nI i + 4) L := by rw [show nI i + 4 = nI (i + 4) from nI_add i 4]; exact vp_in_nI (by omega) (by omega)
  refine lv_aload_n hx hb dL_law_965 rfl (lv_at hl 2 rfl) ?_
  refine law_xi (rest := []) hPQ hVM hS (va_runV (As := []) (rest := []) ⟨hx, hb, hml, hown, hts⟩ (c_X8_run l hPQ.1 (xa_run ok hx1)) (cwV 0 hts gv_L_115 rfl rfl rfl hv_X8_run ⟨Nat.le_of_ble_eq_true rfl, Nat.le_of_ble_eq_true rfl⟩) (preXL hKL hVX hS hPQ) rfl rfl hl.1 rfl (lv_room (Nat.le_of_ble_eq_true rfl)) dL_law_966 ⟨Nat.le_of_ble_eq_true rfl, Nat.le_of_ble_eq_true rfl⟩) (fun r1 S H locs hr1 hVX hVM hS => ?_)
  refine lv_aload_n hx hb dL_law_969 rfl (lv_at hl 1 rfl) ?_
  refine law_mi (rest := [.int r1]) hPQ hVX hS (va_runV (As := []) (rest := [.int r1]) ⟨hx, hb, hml, hown, hts⟩ (c_X9_run l hPQ.2.1 (ma_run ok hm1)) (cwV 0 hts gv_L_118 rfl rfl rfl hv_X9_run ⟨Nat.le_of_ble_eq_true rfl, Nat.le_of_ble_eq_true rfl⟩) (preML hKL.1 hVM) rfl rfl hl.1 rfl (lv_room (Nat.le_of_ble_eq_true rfl)) dL_law_970 ⟨Nat.le_of_ble_eq_true rfl, Nat.le_of_ble_eq_true rfl⟩) (fun r2 Sm H locs hr2 hVX hVM hS => ?_)
  exact lv_icmp_eq (tgt := 1292) hx hb dL_law_973 (by decide) (fun _ => kk _ S Sm H locs (ka_run ok) hr1.2 hr2.2 hVX hVM hS) (fun c9 => absurd (hr1.1.trans hr2.1.symm) c9)
set_option maxRecDepth 100000 in
set_option maxHeartbeats 4000000 in
theorem law_c25 {p : Program} {l : Launch} {e : Env} {s : State} {m : MethodId} {below : List Frame} {meth : Method} {c : Code} {b L : Nat} {xs : Nat → Int32} {dC : Nat → ClassId} {dI : Nat → Nat → Nat} {cA : Nat → ClassId} {adK adV P Q : Nat → Nat} (hL : L ≤ 2560) (C0 : lw_At p s m meth c b L xs) (hKL : KL dC dI cA adK adV (fun q => s.heap.size ≤ q) s) (hPQ : PQ P Q s.heap.size) {i : Nat} (hi : i + 5 ≤ L) {z : TA} (ok : okA z) {S Sm : St} (hx1 : XA S z) (hm1 : MA Sm z) {H : Heap} {locs : List Loc} {ls : Array Slot} (hVX : VX dC dI cA P S H) (hVM : VM dC dI cA Q Sm H) (hS : va_S (fun q => s.heap.size ≤ q) s.heap H locs) (hl : lv_has ls 4 [(3, .int (nI i)), (2, .ref (Q 0)), (1, .ref (P 0)), (0, .ref b)])
    (kk : ∀ (z : TA) (S Sm : St) (H : Heap) (locs : List Loc), okA z → XA S z → MA Sm z → VX dC dI cA P S H → VM dC dI cA Q Sm H → va_S (fun q => s.heap.size ≤ q) s.heap H locs → W p l e room_1 s m #[Value.ref b] below meth c H locs 81 9740 (lw_Z below #[Value.ref b] s) (F0 m 1292 ls [])) : W p l e room_1 s m #[Value.ref b] below meth c H locs 81 9740 (lw_Z below #[Value.ref b] s) (F0 m 978 ls []) := by
  obtain ⟨hx, hb, hr, hml, hown, hts0, hX, hbl, hlocks, hgv⟩ := C0
  have hts : ∀ w ∈ G, w.before #[Value.ref b] s = true := fun w hw => hts0 w (G_tbl hw)
  have hown : s.vm.findClass RL = some m.cls := hown
  have hbA : ¬ (fun q : Nat => s.heap.size ≤ q) b := Nat.not_le.mpr hbl
  have v1 : vp_in (nI i + 1) L := by rw [show nI i + 1 = nI (i + 1) from nI_add i 1]; exact vp_in_nI (by omega) (by omega)
  have v2 : vp_in (nI i + 2) L := by rw [show nI i + 2 = nI (i + 2) from nI_add i 2]; exact vp_in_nI (by omega) (by omega)
  have v3 : vp_in (nI i + 3) L := by rw [show nI i + 3 = nI (i + 3) from nI_add i 3]; exact vp_in_nI (by omega) (by omega)
  have v4 : vp_in (nI i + 4) L := by rw [show nI i + 4 = nI (i + 4) from nI_add i 4]; exact vp_in_nI (by omega) (by omega)
  refine lv_aload_n hx hb dL_law_978 rfl (lv_at hl 2 rfl) ?_
  refine lv_aload_n hx hb dL_law_979 rfl (lv_at hl 3 rfl) ?_
  refine lv_iload_n hx hb dL_law_980 rfl (lv_at hl 0 rfl) ?_
  refine lv_iconst (v := 1) hx hb dL_law_981 (by decide) ?_
  refine lv_iadd hx hb dL_law_982 ?_
  refine va_sld hx hb hX hbl hbA hS v1 dL_law_983 ?_
  refine lv_aload_n hx hb dL_law_984 rfl (lv_at hl 3 rfl) ?_
  refine lv_iload_n hx hb dL_law_985 rfl (lv_at hl 0 rfl) ?_
  refine lv_iconst (v := 2) hx hb dL_law_986 (by decide) ?_
  refine lv_iadd hx hb dL_law_987 ?_
  refine va_sld hx hb hX hbl hbA hS v2 dL_law_988 ?_
  refine law_xi (rest := []) hPQ hVM hS (va_runV (As := [.int _, .int _]) (rest := []) ⟨hx, hb, hml, hown, hts⟩ (c_X8_hold l hPQ.1 (xa_hold ok hx1 _ _)) (cwV 2 hts gv_L_119 rfl rfl rfl hv_X8_hold ⟨Nat.le_of_ble_eq_true rfl, Nat.le_of_ble_eq_true rfl⟩) (preXL hKL hVX hS hPQ) rfl rfl hl.1 rfl (lv_room (Nat.le_of_ble_eq_true rfl)) dL_law_989 ⟨Nat.le_of_ble_eq_true rfl, Nat.le_of_ble_eq_true rfl⟩) (fun r1 S H locs hr1 hVX hVM hS => ?_)
  refine lv_aload_n hx hb dL_law_992 rfl (lv_at hl 1 rfl) ?_
  refine lv_aload_n hx hb dL_law_993 rfl (lv_at hl 3 rfl) ?_
  refine lv_iload_n hx hb dL_law_994 rfl (lv_at hl 0 rfl) ?_
  refine lv_iconst (v := 1) hx hb dL_law_995 (by decide) ?_
  refine lv_iadd hx hb dL_law_996 ?_
  refine va_sld hx hb hX hbl hbA hS v1 dL_law_997 ?_
  refine lv_aload_n hx hb dL_law_998 rfl (lv_at hl 3 rfl) ?_
  refine lv_iload_n hx hb dL_law_999 rfl (lv_at hl 0 rfl) ?_
  refine lv_iconst (v := 2) hx hb dL_law_1000 (by decide) ?_
  refine lv_iadd hx hb dL_law_1001 ?_
  refine va_sld hx hb hX hbl hbA hS v2 dL_law_1002 ?_
  refine law_mi (rest := [.int r1]) hPQ hVX hS (va_runV (As := [.int _, .int _]) (rest := [.int r1]) ⟨hx, hb, hml, hown, hts⟩ (c_X9_hold l hPQ.2.1 (ma_hold ok hm1 _ _)) (cwV 2 hts gv_L_122 rfl rfl rfl hv_X9_hold ⟨Nat.le_of_ble_eq_true rfl, Nat.le_of_ble_eq_true rfl⟩) (preML hKL.1 hVM) rfl rfl hl.1 rfl (lv_room (Nat.le_of_ble_eq_true rfl)) dL_law_1003 ⟨Nat.le_of_ble_eq_true rfl, Nat.le_of_ble_eq_true rfl⟩) (fun r2 Sm H locs hr2 hVX hVM hS => ?_)
  exact lv_icmp_eq (tgt := 1292) hx hb dL_law_1006 (by decide) (fun _ => kk _ S Sm H locs (ka_hold ok _ _) hr1.2 hr2.2 hVX hVM hS) (fun c9 => absurd (hr1.1.trans hr2.1.symm) c9)
set_option maxRecDepth 100000 in
set_option maxHeartbeats 4000000 in
theorem law_c26 {p : Program} {l : Launch} {e : Env} {s : State} {m : MethodId} {below : List Frame} {meth : Method} {c : Code} {b L : Nat} {xs : Nat → Int32} {dC : Nat → ClassId} {dI : Nat → Nat → Nat} {cA : Nat → ClassId} {adK adV P Q : Nat → Nat} (hL : L ≤ 2560) (C0 : lw_At p s m meth c b L xs) (hKL : KL dC dI cA adK adV (fun q => s.heap.size ≤ q) s) (hPQ : PQ P Q s.heap.size) {i : Nat} (hi : i + 5 ≤ L) {z : TA} (ok : okA z) {S Sm : St} (hx1 : XA S z) (hm1 : MA Sm z) {H : Heap} {locs : List Loc} {ls : Array Slot} (hVX : VX dC dI cA P S H) (hVM : VM dC dI cA Q Sm H) (hS : va_S (fun q => s.heap.size ≤ q) s.heap H locs) (hl : lv_has ls 4 [(3, .int (nI i)), (2, .ref (Q 0)), (1, .ref (P 0)), (0, .ref b)])
    (kk : ∀ (z : TA) (S Sm : St) (H : Heap) (locs : List Loc), okA z → XA S z → MA Sm z → VX dC dI cA P S H → VM dC dI cA Q Sm H → va_S (fun q => s.heap.size ≤ q) s.heap H locs → W p l e room_1 s m #[Value.ref b] below meth c H locs 81 9740 (lw_Z below #[Value.ref b] s) (F0 m 1292 ls [])) : W p l e room_1 s m #[Value.ref b] below meth c H locs 81 9740 (lw_Z below #[Value.ref b] s) (F0 m 1011 ls []) := by
  obtain ⟨hx, hb, hr, hml, hown, hts0, hX, hbl, hlocks, hgv⟩ := C0
  have hts : ∀ w ∈ G, w.before #[Value.ref b] s = true := fun w hw => hts0 w (G_tbl hw)
  have hown : s.vm.findClass RL = some m.cls := hown
  have hbA : ¬ (fun q : Nat => s.heap.size ≤ q) b := Nat.not_le.mpr hbl
  have v1 : vp_in (nI i + 1) L := by rw [show nI i + 1 = nI (i + 1) from nI_add i 1]; exact vp_in_nI (by omega) (by omega)
  have v2 : vp_in (nI i + 2) L := by rw [show nI i + 2 = nI (i + 2) from nI_add i 2]; exact vp_in_nI (by omega) (by omega)
  have v3 : vp_in (nI i + 3) L := by rw [show nI i + 3 = nI (i + 3) from nI_add i 3]; exact vp_in_nI (by omega) (by omega)
  have v4 : vp_in (nI i + 4) L := by rw [show nI i + 4 = nI (i + 4) from nI_add i 4]; exact vp_in_nI (by omega) (by omega)
  refine lv_aload_n hx hb dL_law_1011 rfl (lv_at hl 2 rfl) ?_
  refine lv_aload_n hx hb dL_law_1012 rfl (lv_at hl 3 rfl) ?_
  refine lv_iload_n hx hb dL_law_1013 rfl (lv_at hl 0 rfl) ?_
  refine lv_iconst (v := 1) hx hb dL_law_1014 (by decide) ?_
  refine lv_iadd hx hb dL_law_1015 ?_
  refine va_sld hx hb hX hbl hbA hS v1 dL_law_1016 ?_
  refine law_xi (rest := []) hPQ hVM hS (va_runV (As := [.int _]) (rest := []) ⟨hx, hb, hml, hown, hts⟩ (c_X8_lose l hPQ.1 (xa_lose ok hx1 _)) (cwV 1 hts gv_L_123 rfl rfl rfl hv_X8_lose ⟨Nat.le_of_ble_eq_true rfl, Nat.le_of_ble_eq_true rfl⟩) (preXL hKL hVX hS hPQ) rfl rfl hl.1 rfl (lv_room (Nat.le_of_ble_eq_true rfl)) dL_law_1017 ⟨Nat.le_of_ble_eq_true rfl, Nat.le_of_ble_eq_true rfl⟩) (fun r1 S H locs hr1 hVX hVM hS => ?_)
  refine lv_aload_n hx hb dL_law_1020 rfl (lv_at hl 1 rfl) ?_
  refine lv_aload_n hx hb dL_law_1021 rfl (lv_at hl 3 rfl) ?_
  refine lv_iload_n hx hb dL_law_1022 rfl (lv_at hl 0 rfl) ?_
  refine lv_iconst (v := 1) hx hb dL_law_1023 (by decide) ?_
  refine lv_iadd hx hb dL_law_1024 ?_
  refine va_sld hx hb hX hbl hbA hS v1 dL_law_1025 ?_
  refine law_mi (rest := [.int r1]) hPQ hVX hS (va_runV (As := [.int _]) (rest := [.int r1]) ⟨hx, hb, hml, hown, hts⟩ (c_X9_lose l hPQ.2.1 (ma_lose ok hm1 _)) (cwV 1 hts gv_L_126 rfl rfl rfl hv_X9_lose ⟨Nat.le_of_ble_eq_true rfl, Nat.le_of_ble_eq_true rfl⟩) (preML hKL.1 hVM) rfl rfl hl.1 rfl (lv_room (Nat.le_of_ble_eq_true rfl)) dL_law_1026 ⟨Nat.le_of_ble_eq_true rfl, Nat.le_of_ble_eq_true rfl⟩) (fun r2 Sm H locs hr2 hVX hVM hS => ?_)
  exact lv_icmp_eq (tgt := 1292) hx hb dL_law_1029 (by decide) (fun _ => kk _ S Sm H locs (ka_lose ok _) hr1.2 hr2.2 hVX hVM hS) (fun c9 => absurd (hr1.1.trans hr2.1.symm) c9)
set_option maxRecDepth 100000 in
set_option maxHeartbeats 4000000 in
theorem law_c27 {p : Program} {l : Launch} {e : Env} {s : State} {m : MethodId} {below : List Frame} {meth : Method} {c : Code} {b L : Nat} {xs : Nat → Int32} {dC : Nat → ClassId} {dI : Nat → Nat → Nat} {cA : Nat → ClassId} {adK adV P Q : Nat → Nat} (hL : L ≤ 2560) (C0 : lw_At p s m meth c b L xs) (hKL : KL dC dI cA adK adV (fun q => s.heap.size ≤ q) s) (hPQ : PQ P Q s.heap.size) {i : Nat} (hi : i + 5 ≤ L) {z : TA} (ok : okA z) {S Sm : St} (hx1 : XA S z) (hm1 : MA Sm z) {H : Heap} {locs : List Loc} {ls : Array Slot} (hVX : VX dC dI cA P S H) (hVM : VM dC dI cA Q Sm H) (hS : va_S (fun q => s.heap.size ≤ q) s.heap H locs) (hl : lv_has ls 4 [(3, .int (nI i)), (2, .ref (Q 0)), (1, .ref (P 0)), (0, .ref b)])
    (kk : ∀ (z : TA) (S Sm : St) (H : Heap) (locs : List Loc), okA z → XA S z → MA Sm z → VX dC dI cA P S H → VM dC dI cA Q Sm H → va_S (fun q => s.heap.size ≤ q) s.heap H locs → W p l e room_1 s m #[Value.ref b] below meth c H locs 81 9740 (lw_Z below #[Value.ref b] s) (F0 m 1292 ls [])) : W p l e room_1 s m #[Value.ref b] below meth c H locs 81 9740 (lw_Z below #[Value.ref b] s) (F0 m 1034 ls []) := by
  obtain ⟨hx, hb, hr, hml, hown, hts0, hX, hbl, hlocks, hgv⟩ := C0
  have hts : ∀ w ∈ G, w.before #[Value.ref b] s = true := fun w hw => hts0 w (G_tbl hw)
  have hown : s.vm.findClass RL = some m.cls := hown
  have hbA : ¬ (fun q : Nat => s.heap.size ≤ q) b := Nat.not_le.mpr hbl
  have v1 : vp_in (nI i + 1) L := by rw [show nI i + 1 = nI (i + 1) from nI_add i 1]; exact vp_in_nI (by omega) (by omega)
  have v2 : vp_in (nI i + 2) L := by rw [show nI i + 2 = nI (i + 2) from nI_add i 2]; exact vp_in_nI (by omega) (by omega)
  have v3 : vp_in (nI i + 3) L := by rw [show nI i + 3 = nI (i + 3) from nI_add i 3]; exact vp_in_nI (by omega) (by omega)
  have v4 : vp_in (nI i + 4) L := by rw [show nI i + 4 = nI (i + 4) from nI_add i 4]; exact vp_in_nI (by omega) (by omega)
  refine lv_aload_n hx hb dL_law_1034 rfl (lv_at hl 2 rfl) ?_
  refine lv_aload_n hx hb dL_law_1035 rfl (lv_at hl 3 rfl) ?_
  refine lv_iload_n hx hb dL_law_1036 rfl (lv_at hl 0 rfl) ?_
  refine lv_iconst (v := 1) hx hb dL_law_1037 (by decide) ?_
  refine lv_iadd hx hb dL_law_1038 ?_
  refine va_sld hx hb hX hbl hbA hS v1 dL_law_1039 ?_
  refine lv_aload_n hx hb dL_law_1040 rfl (lv_at hl 3 rfl) ?_
  refine lv_iload_n hx hb dL_law_1041 rfl (lv_at hl 0 rfl) ?_
  refine lv_iconst (v := 2) hx hb dL_law_1042 (by decide) ?_
  refine lv_iadd hx hb dL_law_1043 ?_
  refine va_sld hx hb hX hbl hbA hS v2 dL_law_1044 ?_
  refine law_xi (rest := []) hPQ hVM hS (va_runV (As := [.int _, .int _]) (rest := []) ⟨hx, hb, hml, hown, hts⟩ (c_X8_taken l hPQ.1 (xa_taken ok hx1 _ _)) (cwV 2 hts gv_L_127 rfl rfl rfl hv_X8_taken ⟨Nat.le_of_ble_eq_true rfl, Nat.le_of_ble_eq_true rfl⟩) (preXL hKL hVX hS hPQ) rfl rfl hl.1 rfl (lv_room (Nat.le_of_ble_eq_true rfl)) dL_law_1045 ⟨Nat.le_of_ble_eq_true rfl, Nat.le_of_ble_eq_true rfl⟩) (fun r1 S H locs hr1 hVX hVM hS => ?_)
  refine lv_aload_n hx hb dL_law_1048 rfl (lv_at hl 1 rfl) ?_
  refine lv_aload_n hx hb dL_law_1049 rfl (lv_at hl 3 rfl) ?_
  refine lv_iload_n hx hb dL_law_1050 rfl (lv_at hl 0 rfl) ?_
  refine lv_iconst (v := 1) hx hb dL_law_1051 (by decide) ?_
  refine lv_iadd hx hb dL_law_1052 ?_
  refine va_sld hx hb hX hbl hbA hS v1 dL_law_1053 ?_
  refine lv_aload_n hx hb dL_law_1054 rfl (lv_at hl 3 rfl) ?_
  refine lv_iload_n hx hb dL_law_1055 rfl (lv_at hl 0 rfl) ?_
  refine lv_iconst (v := 2) hx hb dL_law_1056 (by decide) ?_
  refine lv_iadd hx hb dL_law_1057 ?_
  refine va_sld hx hb hX hbl hbA hS v2 dL_law_1058 ?_
  refine law_mi (rest := [.int r1]) hPQ hVX hS (va_runV (As := [.int _, .int _]) (rest := [.int r1]) ⟨hx, hb, hml, hown, hts⟩ (c_X9_taken l hPQ.2.1 (ma_taken ok hm1 _ _)) (cwV 2 hts gv_L_130 rfl rfl rfl hv_X9_taken ⟨Nat.le_of_ble_eq_true rfl, Nat.le_of_ble_eq_true rfl⟩) (preML hKL.1 hVM) rfl rfl hl.1 rfl (lv_room (Nat.le_of_ble_eq_true rfl)) dL_law_1059 ⟨Nat.le_of_ble_eq_true rfl, Nat.le_of_ble_eq_true rfl⟩) (fun r2 Sm H locs hr2 hVX hVM hS => ?_)
  exact lv_icmp_eq (tgt := 1292) hx hb dL_law_1062 (by decide) (fun _ => kk _ S Sm H locs (ka_taken ok _ _) hr1.2 hr2.2 hVX hVM hS) (fun c9 => absurd (hr1.1.trans hr2.1.symm) c9)
set_option maxRecDepth 100000 in
set_option maxHeartbeats 4000000 in
theorem law_c28 {p : Program} {l : Launch} {e : Env} {s : State} {m : MethodId} {below : List Frame} {meth : Method} {c : Code} {b L : Nat} {xs : Nat → Int32} {dC : Nat → ClassId} {dI : Nat → Nat → Nat} {cA : Nat → ClassId} {adK adV P Q : Nat → Nat} (hL : L ≤ 2560) (C0 : lw_At p s m meth c b L xs) (hKL : KL dC dI cA adK adV (fun q => s.heap.size ≤ q) s) (hPQ : PQ P Q s.heap.size) {i : Nat} (hi : i + 5 ≤ L) {z : TA} (ok : okA z) {S Sm : St} (hx1 : XA S z) (hm1 : MA Sm z) {H : Heap} {locs : List Loc} {ls : Array Slot} (hVX : VX dC dI cA P S H) (hVM : VM dC dI cA Q Sm H) (hS : va_S (fun q => s.heap.size ≤ q) s.heap H locs) (hl : lv_has ls 4 [(3, .int (nI i)), (2, .ref (Q 0)), (1, .ref (P 0)), (0, .ref b)])
    (kk : ∀ (z : TA) (S Sm : St) (H : Heap) (locs : List Loc), okA z → XA S z → MA Sm z → VX dC dI cA P S H → VM dC dI cA Q Sm H → va_S (fun q => s.heap.size ≤ q) s.heap H locs → W p l e room_1 s m #[Value.ref b] below meth c H locs 81 9740 (lw_Z below #[Value.ref b] s) (F0 m 1292 ls [])) : W p l e room_1 s m #[Value.ref b] below meth c H locs 81 9740 (lw_Z below #[Value.ref b] s) (F0 m 1067 ls []) := by
  obtain ⟨hx, hb, hr, hml, hown, hts0, hX, hbl, hlocks, hgv⟩ := C0
  have hts : ∀ w ∈ G, w.before #[Value.ref b] s = true := fun w hw => hts0 w (G_tbl hw)
  have hown : s.vm.findClass RL = some m.cls := hown
  have hbA : ¬ (fun q : Nat => s.heap.size ≤ q) b := Nat.not_le.mpr hbl
  have v1 : vp_in (nI i + 1) L := by rw [show nI i + 1 = nI (i + 1) from nI_add i 1]; exact vp_in_nI (by omega) (by omega)
  have v2 : vp_in (nI i + 2) L := by rw [show nI i + 2 = nI (i + 2) from nI_add i 2]; exact vp_in_nI (by omega) (by omega)
  have v3 : vp_in (nI i + 3) L := by rw [show nI i + 3 = nI (i + 3) from nI_add i 3]; exact vp_in_nI (by omega) (by omega)
  have v4 : vp_in (nI i + 4) L := by rw [show nI i + 4 = nI (i + 4) from nI_add i 4]; exact vp_in_nI (by omega) (by omega)
  refine lv_aload_n hx hb dL_law_1067 rfl (lv_at hl 2 rfl) ?_
  refine lv_aload_n hx hb dL_law_1068 rfl (lv_at hl 3 rfl) ?_
  refine lv_iload_n hx hb dL_law_1069 rfl (lv_at hl 0 rfl) ?_
  refine lv_iconst (v := 1) hx hb dL_law_1070 (by decide) ?_
  refine lv_iadd hx hb dL_law_1071 ?_
  refine va_sld hx hb hX hbl hbA hS v1 dL_law_1072 ?_
  refine lv_aload_n hx hb dL_law_1073 rfl (lv_at hl 3 rfl) ?_
  refine lv_iload_n hx hb dL_law_1074 rfl (lv_at hl 0 rfl) ?_
  refine lv_iconst (v := 2) hx hb dL_law_1075 (by decide) ?_
  refine lv_iadd hx hb dL_law_1076 ?_
  refine va_sld hx hb hX hbl hbA hS v2 dL_law_1077 ?_
  refine law_xi (rest := []) hPQ hVM hS (va_runV (As := [.int _, .int _]) (rest := []) ⟨hx, hb, hml, hown, hts⟩ (c_X8_was l hPQ.1 (xa_was ok hx1 _ _)) (cwV 2 hts gv_L_131 rfl rfl rfl hv_X8_was ⟨Nat.le_of_ble_eq_true rfl, Nat.le_of_ble_eq_true rfl⟩) (preXL hKL hVX hS hPQ) rfl rfl hl.1 rfl (lv_room (Nat.le_of_ble_eq_true rfl)) dL_law_1078 ⟨Nat.le_of_ble_eq_true rfl, Nat.le_of_ble_eq_true rfl⟩) (fun r1 S H locs hr1 hVX hVM hS => ?_)
  refine lv_aload_n hx hb dL_law_1081 rfl (lv_at hl 1 rfl) ?_
  refine lv_aload_n hx hb dL_law_1082 rfl (lv_at hl 3 rfl) ?_
  refine lv_iload_n hx hb dL_law_1083 rfl (lv_at hl 0 rfl) ?_
  refine lv_iconst (v := 1) hx hb dL_law_1084 (by decide) ?_
  refine lv_iadd hx hb dL_law_1085 ?_
  refine va_sld hx hb hX hbl hbA hS v1 dL_law_1086 ?_
  refine lv_aload_n hx hb dL_law_1087 rfl (lv_at hl 3 rfl) ?_
  refine lv_iload_n hx hb dL_law_1088 rfl (lv_at hl 0 rfl) ?_
  refine lv_iconst (v := 2) hx hb dL_law_1089 (by decide) ?_
  refine lv_iadd hx hb dL_law_1090 ?_
  refine va_sld hx hb hX hbl hbA hS v2 dL_law_1091 ?_
  refine law_mi (rest := [.int r1]) hPQ hVX hS (va_runV (As := [.int _, .int _]) (rest := [.int r1]) ⟨hx, hb, hml, hown, hts⟩ (c_X9_was l hPQ.2.1 (ma_was ok hm1 _ _)) (cwV 2 hts gv_L_134 rfl rfl rfl hv_X9_was ⟨Nat.le_of_ble_eq_true rfl, Nat.le_of_ble_eq_true rfl⟩) (preML hKL.1 hVM) rfl rfl hl.1 rfl (lv_room (Nat.le_of_ble_eq_true rfl)) dL_law_1092 ⟨Nat.le_of_ble_eq_true rfl, Nat.le_of_ble_eq_true rfl⟩) (fun r2 Sm H locs hr2 hVX hVM hS => ?_)
  exact lv_icmp_eq (tgt := 1292) hx hb dL_law_1095 (by decide) (fun _ => kk _ S Sm H locs (ka_was ok _ _) hr1.2 hr2.2 hVX hVM hS) (fun c9 => absurd (hr1.1.trans hr2.1.symm) c9)
set_option maxRecDepth 100000 in
set_option maxHeartbeats 4000000 in
theorem law_c29 {p : Program} {l : Launch} {e : Env} {s : State} {m : MethodId} {below : List Frame} {meth : Method} {c : Code} {b L : Nat} {xs : Nat → Int32} {dC : Nat → ClassId} {dI : Nat → Nat → Nat} {cA : Nat → ClassId} {adK adV P Q : Nat → Nat} (hL : L ≤ 2560) (C0 : lw_At p s m meth c b L xs) (hKL : KL dC dI cA adK adV (fun q => s.heap.size ≤ q) s) (hPQ : PQ P Q s.heap.size) {i : Nat} (hi : i + 5 ≤ L) {z : TA} (ok : okA z) {S Sm : St} (hx1 : XA S z) (hm1 : MA Sm z) {H : Heap} {locs : List Loc} {ls : Array Slot} (hVX : VX dC dI cA P S H) (hVM : VM dC dI cA Q Sm H) (hS : va_S (fun q => s.heap.size ≤ q) s.heap H locs) (hl : lv_has ls 4 [(3, .int (nI i)), (2, .ref (Q 0)), (1, .ref (P 0)), (0, .ref b)])
    (kk : ∀ (z : TA) (S Sm : St) (H : Heap) (locs : List Loc), okA z → XA S z → MA Sm z → VX dC dI cA P S H → VM dC dI cA Q Sm H → va_S (fun q => s.heap.size ≤ q) s.heap H locs → W p l e room_1 s m #[Value.ref b] below meth c H locs 81 9740 (lw_Z below #[Value.ref b] s) (F0 m 1292 ls [])) : W p l e room_1 s m #[Value.ref b] below meth c H locs 81 9740 (lw_Z below #[Value.ref b] s) (F0 m 1100 ls []) := by
  obtain ⟨hx, hb, hr, hml, hown, hts0, hX, hbl, hlocks, hgv⟩ := C0
  have hts : ∀ w ∈ G, w.before #[Value.ref b] s = true := fun w hw => hts0 w (G_tbl hw)
  have hown : s.vm.findClass RL = some m.cls := hown
  have hbA : ¬ (fun q : Nat => s.heap.size ≤ q) b := Nat.not_le.mpr hbl
  have v1 : vp_in (nI i + 1) L := by rw [show nI i + 1 = nI (i + 1) from nI_add i 1]; exact vp_in_nI (by omega) (by omega)
  have v2 : vp_in (nI i + 2) L := by rw [show nI i + 2 = nI (i + 2) from nI_add i 2]; exact vp_in_nI (by omega) (by omega)
  have v3 : vp_in (nI i + 3) L := by rw [show nI i + 3 = nI (i + 3) from nI_add i 3]; exact vp_in_nI (by omega) (by omega)
  have v4 : vp_in (nI i + 4) L := by rw [show nI i + 4 = nI (i + 4) from nI_add i 4]; exact vp_in_nI (by omega) (by omega)
  refine lv_aload_n hx hb dL_law_1100 rfl (lv_at hl 2 rfl) ?_
  refine lv_aload_n hx hb dL_law_1101 rfl (lv_at hl 3 rfl) ?_
  refine lv_iload_n hx hb dL_law_1102 rfl (lv_at hl 0 rfl) ?_
  refine lv_iconst (v := 1) hx hb dL_law_1103 (by decide) ?_
  refine lv_iadd hx hb dL_law_1104 ?_
  refine va_sld hx hb hX hbl hbA hS v1 dL_law_1105 ?_
  refine lv_aload_n hx hb dL_law_1106 rfl (lv_at hl 3 rfl) ?_
  refine lv_iload_n hx hb dL_law_1107 rfl (lv_at hl 0 rfl) ?_
  refine lv_iconst (v := 2) hx hb dL_law_1108 (by decide) ?_
  refine lv_iadd hx hb dL_law_1109 ?_
  refine va_sld hx hb hX hbl hbA hS v2 dL_law_1110 ?_
  refine law_xi (rest := []) hPQ hVM hS (va_runV (As := [.int _, .int _]) (rest := []) ⟨hx, hb, hml, hown, hts⟩ (c_X8_row l hPQ.1 (xa_row ok hx1 _ _)) (cwV 2 hts gv_L_135 rfl rfl rfl hv_X8_row ⟨Nat.le_of_ble_eq_true rfl, Nat.le_of_ble_eq_true rfl⟩) (preXL hKL hVX hS hPQ) rfl rfl hl.1 rfl (lv_room (Nat.le_of_ble_eq_true rfl)) dL_law_1111 ⟨Nat.le_of_ble_eq_true rfl, Nat.le_of_ble_eq_true rfl⟩) (fun r1 S H locs hr1 hVX hVM hS => ?_)
  refine lv_aload_n hx hb dL_law_1114 rfl (lv_at hl 1 rfl) ?_
  refine lv_aload_n hx hb dL_law_1115 rfl (lv_at hl 3 rfl) ?_
  refine lv_iload_n hx hb dL_law_1116 rfl (lv_at hl 0 rfl) ?_
  refine lv_iconst (v := 1) hx hb dL_law_1117 (by decide) ?_
  refine lv_iadd hx hb dL_law_1118 ?_
  refine va_sld hx hb hX hbl hbA hS v1 dL_law_1119 ?_
  refine lv_aload_n hx hb dL_law_1120 rfl (lv_at hl 3 rfl) ?_
  refine lv_iload_n hx hb dL_law_1121 rfl (lv_at hl 0 rfl) ?_
  refine lv_iconst (v := 2) hx hb dL_law_1122 (by decide) ?_
  refine lv_iadd hx hb dL_law_1123 ?_
  refine va_sld hx hb hX hbl hbA hS v2 dL_law_1124 ?_
  refine law_mi (rest := [.int r1]) hPQ hVX hS (va_runV (As := [.int _, .int _]) (rest := [.int r1]) ⟨hx, hb, hml, hown, hts⟩ (c_X9_row l hPQ.2.1 (ma_row ok hm1 _ _)) (cwV 2 hts gv_L_138 rfl rfl rfl hv_X9_row ⟨Nat.le_of_ble_eq_true rfl, Nat.le_of_ble_eq_true rfl⟩) (preML hKL.1 hVM) rfl rfl hl.1 rfl (lv_room (Nat.le_of_ble_eq_true rfl)) dL_law_1125 ⟨Nat.le_of_ble_eq_true rfl, Nat.le_of_ble_eq_true rfl⟩) (fun r2 Sm H locs hr2 hVX hVM hS => ?_)
  exact lv_icmp_eq (tgt := 1292) hx hb dL_law_1128 (by decide) (fun _ => kk _ S Sm H locs (ka_row ok _ _) hr1.2 hr2.2 hVX hVM hS) (fun c9 => absurd (hr1.1.trans hr2.1.symm) c9)
set_option maxRecDepth 100000 in
set_option maxHeartbeats 4000000 in
theorem law_c30 {p : Program} {l : Launch} {e : Env} {s : State} {m : MethodId} {below : List Frame} {meth : Method} {c : Code} {b L : Nat} {xs : Nat → Int32} {dC : Nat → ClassId} {dI : Nat → Nat → Nat} {cA : Nat → ClassId} {adK adV P Q : Nat → Nat} (hL : L ≤ 2560) (C0 : lw_At p s m meth c b L xs) (hKL : KL dC dI cA adK adV (fun q => s.heap.size ≤ q) s) (hPQ : PQ P Q s.heap.size) {i : Nat} (hi : i + 5 ≤ L) {z : TA} (ok : okA z) {S Sm : St} (hx1 : XA S z) (hm1 : MA Sm z) {H : Heap} {locs : List Loc} {ls : Array Slot} (hVX : VX dC dI cA P S H) (hVM : VM dC dI cA Q Sm H) (hS : va_S (fun q => s.heap.size ≤ q) s.heap H locs) (hl : lv_has ls 4 [(3, .int (nI i)), (2, .ref (Q 0)), (1, .ref (P 0)), (0, .ref b)])
    (kk : ∀ (z : TA) (S Sm : St) (H : Heap) (locs : List Loc), okA z → XA S z → MA Sm z → VX dC dI cA P S H → VM dC dI cA Q Sm H → va_S (fun q => s.heap.size ≤ q) s.heap H locs → W p l e room_1 s m #[Value.ref b] below meth c H locs 81 9740 (lw_Z below #[Value.ref b] s) (F0 m 1292 ls [])) : W p l e room_1 s m #[Value.ref b] below meth c H locs 81 9740 (lw_Z below #[Value.ref b] s) (F0 m 1133 ls []) := by
  obtain ⟨hx, hb, hr, hml, hown, hts0, hX, hbl, hlocks, hgv⟩ := C0
  have hts : ∀ w ∈ G, w.before #[Value.ref b] s = true := fun w hw => hts0 w (G_tbl hw)
  have hown : s.vm.findClass RL = some m.cls := hown
  have hbA : ¬ (fun q : Nat => s.heap.size ≤ q) b := Nat.not_le.mpr hbl
  have v1 : vp_in (nI i + 1) L := by rw [show nI i + 1 = nI (i + 1) from nI_add i 1]; exact vp_in_nI (by omega) (by omega)
  have v2 : vp_in (nI i + 2) L := by rw [show nI i + 2 = nI (i + 2) from nI_add i 2]; exact vp_in_nI (by omega) (by omega)
  have v3 : vp_in (nI i + 3) L := by rw [show nI i + 3 = nI (i + 3) from nI_add i 3]; exact vp_in_nI (by omega) (by omega)
  have v4 : vp_in (nI i + 4) L := by rw [show nI i + 4 = nI (i + 4) from nI_add i 4]; exact vp_in_nI (by omega) (by omega)
  refine lv_aload_n hx hb dL_law_1133 rfl (lv_at hl 2 rfl) ?_
  refine lv_aload_n hx hb dL_law_1134 rfl (lv_at hl 3 rfl) ?_
  refine lv_iload_n hx hb dL_law_1135 rfl (lv_at hl 0 rfl) ?_
  refine lv_iconst (v := 1) hx hb dL_law_1136 (by decide) ?_
  refine lv_iadd hx hb dL_law_1137 ?_
  refine va_sld hx hb hX hbl hbA hS v1 dL_law_1138 ?_
  refine lv_aload_n hx hb dL_law_1139 rfl (lv_at hl 3 rfl) ?_
  refine lv_iload_n hx hb dL_law_1140 rfl (lv_at hl 0 rfl) ?_
  refine lv_iconst (v := 2) hx hb dL_law_1141 (by decide) ?_
  refine lv_iadd hx hb dL_law_1142 ?_
  refine va_sld hx hb hX hbl hbA hS v2 dL_law_1143 ?_
  refine lv_aload_n hx hb dL_law_1144 rfl (lv_at hl 3 rfl) ?_
  refine lv_iload_n hx hb dL_law_1145 rfl (lv_at hl 0 rfl) ?_
  refine lv_iconst (v := 3) hx hb dL_law_1146 (by decide) ?_
  refine lv_iadd hx hb dL_law_1147 ?_
  refine va_sld hx hb hX hbl hbA hS v3 dL_law_1148 ?_
  refine law_xi (rest := []) hPQ hVM hS (va_runV (As := [.int _, .int _, .int _]) (rest := []) ⟨hx, hb, hml, hown, hts⟩ (c_X8_put l hPQ.1 (xa_put ok hx1 _ _ _)) (cwV 3 hts gv_L_139 rfl rfl rfl hv_X8_put ⟨Nat.le_of_ble_eq_true rfl, Nat.le_of_ble_eq_true rfl⟩) (preXL hKL hVX hS hPQ) rfl rfl hl.1 rfl (lv_room (Nat.le_of_ble_eq_true rfl)) dL_law_1149 ⟨Nat.le_of_ble_eq_true rfl, Nat.le_of_ble_eq_true rfl⟩) (fun r1 S H locs hr1 hVX hVM hS => ?_)
  refine lv_aload_n hx hb dL_law_1152 rfl (lv_at hl 1 rfl) ?_
  refine lv_aload_n hx hb dL_law_1153 rfl (lv_at hl 3 rfl) ?_
  refine lv_iload_n hx hb dL_law_1154 rfl (lv_at hl 0 rfl) ?_
  refine lv_iconst (v := 1) hx hb dL_law_1155 (by decide) ?_
  refine lv_iadd hx hb dL_law_1156 ?_
  refine va_sld hx hb hX hbl hbA hS v1 dL_law_1157 ?_
  refine lv_aload_n hx hb dL_law_1158 rfl (lv_at hl 3 rfl) ?_
  refine lv_iload_n hx hb dL_law_1159 rfl (lv_at hl 0 rfl) ?_
  refine lv_iconst (v := 2) hx hb dL_law_1160 (by decide) ?_
  refine lv_iadd hx hb dL_law_1161 ?_
  refine va_sld hx hb hX hbl hbA hS v2 dL_law_1162 ?_
  refine lv_aload_n hx hb dL_law_1163 rfl (lv_at hl 3 rfl) ?_
  refine lv_iload_n hx hb dL_law_1164 rfl (lv_at hl 0 rfl) ?_
  refine lv_iconst (v := 3) hx hb dL_law_1165 (by decide) ?_
  refine lv_iadd hx hb dL_law_1166 ?_
  refine va_sld hx hb hX hbl hbA hS v3 dL_law_1167 ?_
  refine law_mi (rest := [.int r1]) hPQ hVX hS (va_runV (As := [.int _, .int _, .int _]) (rest := [.int r1]) ⟨hx, hb, hml, hown, hts⟩ (c_X9_put l hPQ.2.1 (ma_put ok hm1 _ _ _)) (cwV 3 hts gv_L_142 rfl rfl rfl hv_X9_put ⟨Nat.le_of_ble_eq_true rfl, Nat.le_of_ble_eq_true rfl⟩) (preML hKL.1 hVM) rfl rfl hl.1 rfl (lv_room (Nat.le_of_ble_eq_true rfl)) dL_law_1168 ⟨Nat.le_of_ble_eq_true rfl, Nat.le_of_ble_eq_true rfl⟩) (fun r2 Sm H locs hr2 hVX hVM hS => ?_)
  exact lv_icmp_eq (tgt := 1292) hx hb dL_law_1171 (by decide) (fun _ => kk _ S Sm H locs (ka_put ok _ _ _) hr1.2 hr2.2 hVX hVM hS) (fun c9 => absurd (hr1.1.trans hr2.1.symm) c9)
set_option maxRecDepth 100000 in
set_option maxHeartbeats 4000000 in
theorem law_c31 {p : Program} {l : Launch} {e : Env} {s : State} {m : MethodId} {below : List Frame} {meth : Method} {c : Code} {b L : Nat} {xs : Nat → Int32} {dC : Nat → ClassId} {dI : Nat → Nat → Nat} {cA : Nat → ClassId} {adK adV P Q : Nat → Nat} (hL : L ≤ 2560) (C0 : lw_At p s m meth c b L xs) (hKL : KL dC dI cA adK adV (fun q => s.heap.size ≤ q) s) (hPQ : PQ P Q s.heap.size) {i : Nat} (hi : i + 5 ≤ L) {z : TA} (ok : okA z) {S Sm : St} (hx1 : XA S z) (hm1 : MA Sm z) {H : Heap} {locs : List Loc} {ls : Array Slot} (hVX : VX dC dI cA P S H) (hVM : VM dC dI cA Q Sm H) (hS : va_S (fun q => s.heap.size ≤ q) s.heap H locs) (hl : lv_has ls 4 [(3, .int (nI i)), (2, .ref (Q 0)), (1, .ref (P 0)), (0, .ref b)])
    (kk : ∀ (z : TA) (S Sm : St) (H : Heap) (locs : List Loc), okA z → XA S z → MA Sm z → VX dC dI cA P S H → VM dC dI cA Q Sm H → va_S (fun q => s.heap.size ≤ q) s.heap H locs → W p l e room_1 s m #[Value.ref b] below meth c H locs 81 9740 (lw_Z below #[Value.ref b] s) (F0 m 1292 ls [])) : W p l e room_1 s m #[Value.ref b] below meth c H locs 81 9740 (lw_Z below #[Value.ref b] s) (F0 m 1176 ls []) := by
  obtain ⟨hx, hb, hr, hml, hown, hts0, hX, hbl, hlocks, hgv⟩ := C0
  have hts : ∀ w ∈ G, w.before #[Value.ref b] s = true := fun w hw => hts0 w (G_tbl hw)
  have hown : s.vm.findClass RL = some m.cls := hown
  have hbA : ¬ (fun q : Nat => s.heap.size ≤ q) b := Nat.not_le.mpr hbl
  have v1 : vp_in (nI i + 1) L := by rw [show nI i + 1 = nI (i + 1) from nI_add i 1]; exact vp_in_nI (by omega) (by omega)
  have v2 : vp_in (nI i + 2) L := by rw [show nI i + 2 = nI (i + 2) from nI_add i 2]; exact vp_in_nI (by omega) (by omega)
  have v3 : vp_in (nI i + 3) L := by rw [show nI i + 3 = nI (i + 3) from nI_add i 3]; exact vp_in_nI (by omega) (by omega)
  have v4 : vp_in (nI i + 4) L := by rw [show nI i + 4 = nI (i + 4) from nI_add i 4]; exact vp_in_nI (by omega) (by omega)
  refine lv_aload_n hx hb dL_law_1176 rfl (lv_at hl 2 rfl) ?_
  refine lv_aload_n hx hb dL_law_1177 rfl (lv_at hl 3 rfl) ?_
  refine lv_iload_n hx hb dL_law_1178 rfl (lv_at hl 0 rfl) ?_
  refine lv_iconst (v := 1) hx hb dL_law_1179 (by decide) ?_
  refine lv_iadd hx hb dL_law_1180 ?_
  refine va_sld hx hb hX hbl hbA hS v1 dL_law_1181 ?_
  refine lv_aload_n hx hb dL_law_1182 rfl (lv_at hl 3 rfl) ?_
  refine lv_iload_n hx hb dL_law_1183 rfl (lv_at hl 0 rfl) ?_
  refine lv_iconst (v := 2) hx hb dL_law_1184 (by decide) ?_
  refine lv_iadd hx hb dL_law_1185 ?_
  refine va_sld hx hb hX hbl hbA hS v2 dL_law_1186 ?_
  refine law_xl (rest := []) hPQ hVM hS (va_runV (As := [.int _, .int _]) (rest := []) ⟨hx, hb, hml, hown, hts⟩ (c_X8_get l hPQ.1 (xa_get ok hx1 _ _)) (cwV 2 hts gv_L_143 rfl rfl rfl hv_X8_get ⟨Nat.le_of_ble_eq_true rfl, Nat.le_of_ble_eq_true rfl⟩) (preXL hKL hVX hS hPQ) rfl rfl hl.1 rfl (lv_room (Nat.le_of_ble_eq_true rfl)) dL_law_1187 ⟨Nat.le_of_ble_eq_true rfl, Nat.le_of_ble_eq_true rfl⟩) (fun r1 S H locs hr1 hVX hVM hS => ?_)
  refine lv_aload_n hx hb dL_law_1190 rfl (lv_at hl 1 rfl) ?_
  refine lv_aload_n hx hb dL_law_1191 rfl (lv_at hl 3 rfl) ?_
  refine lv_iload_n hx hb dL_law_1192 rfl (lv_at hl 0 rfl) ?_
  refine lv_iconst (v := 1) hx hb dL_law_1193 (by decide) ?_
  refine lv_iadd hx hb dL_law_1194 ?_
  refine va_sld hx hb hX hbl hbA hS v1 dL_law_1195 ?_
  refine lv_aload_n hx hb dL_law_1196 rfl (lv_at hl 3 rfl) ?_
  refine lv_iload_n hx hb dL_law_1197 rfl (lv_at hl 0 rfl) ?_
  refine lv_iconst (v := 2) hx hb dL_law_1198 (by decide) ?_
  refine lv_iadd hx hb dL_law_1199 ?_
  refine va_sld hx hb hX hbl hbA hS v2 dL_law_1200 ?_
  refine law_ml (rest := [.long r1]) hPQ hVX hS (va_runV (As := [.int _, .int _]) (rest := [.long r1]) ⟨hx, hb, hml, hown, hts⟩ (c_X9_get l hPQ.2.1 (ma_get ok hm1 _ _)) (cwV 2 hts gv_L_147 rfl rfl rfl hv_X9_get ⟨Nat.le_of_ble_eq_true rfl, Nat.le_of_ble_eq_true rfl⟩) (preML hKL.1 hVM) rfl rfl hl.1 rfl (lv_room (Nat.le_of_ble_eq_true rfl)) dL_law_1201 ⟨Nat.le_of_ble_eq_true rfl, Nat.le_of_ble_eq_true rfl⟩) (fun r2 Sm H locs hr2 hVX hVM hS => ?_)
  refine W.lcmp hx hb dL_law_1204 ?_
  exact lv_if_eq (tgt := 1292) hx hb dL_law_1205 (by decide) (fun _ => kk _ S Sm H locs (ka_get ok _ _) hr1.2 hr2.2 hVX hVM hS) (fun c9 => absurd ((lg_cmp_eq _ _).mpr (hr1.1.trans hr2.1.symm)) c9)
set_option maxRecDepth 100000 in
set_option maxHeartbeats 4000000 in
theorem law_c32 {p : Program} {l : Launch} {e : Env} {s : State} {m : MethodId} {below : List Frame} {meth : Method} {c : Code} {b L : Nat} {xs : Nat → Int32} {dC : Nat → ClassId} {dI : Nat → Nat → Nat} {cA : Nat → ClassId} {adK adV P Q : Nat → Nat} (hL : L ≤ 2560) (C0 : lw_At p s m meth c b L xs) (hKL : KL dC dI cA adK adV (fun q => s.heap.size ≤ q) s) (hPQ : PQ P Q s.heap.size) {i : Nat} (hi : i + 5 ≤ L) {z : TA} (ok : okA z) {S Sm : St} (hx1 : XA S z) (hm1 : MA Sm z) {H : Heap} {locs : List Loc} {ls : Array Slot} (hVX : VX dC dI cA P S H) (hVM : VM dC dI cA Q Sm H) (hS : va_S (fun q => s.heap.size ≤ q) s.heap H locs) (hl : lv_has ls 4 [(3, .int (nI i)), (2, .ref (Q 0)), (1, .ref (P 0)), (0, .ref b)])
    (kk : ∀ (z : TA) (S Sm : St) (H : Heap) (locs : List Loc), okA z → XA S z → MA Sm z → VX dC dI cA P S H → VM dC dI cA Q Sm H → va_S (fun q => s.heap.size ≤ q) s.heap H locs → W p l e room_1 s m #[Value.ref b] below meth c H locs 81 9740 (lw_Z below #[Value.ref b] s) (F0 m 1292 ls [])) : W p l e room_1 s m #[Value.ref b] below meth c H locs 81 9740 (lw_Z below #[Value.ref b] s) (F0 m 1210 ls []) := by
  obtain ⟨hx, hb, hr, hml, hown, hts0, hX, hbl, hlocks, hgv⟩ := C0
  have hts : ∀ w ∈ G, w.before #[Value.ref b] s = true := fun w hw => hts0 w (G_tbl hw)
  have hown : s.vm.findClass RL = some m.cls := hown
  have hbA : ¬ (fun q : Nat => s.heap.size ≤ q) b := Nat.not_le.mpr hbl
  have v1 : vp_in (nI i + 1) L := by rw [show nI i + 1 = nI (i + 1) from nI_add i 1]; exact vp_in_nI (by omega) (by omega)
  have v2 : vp_in (nI i + 2) L := by rw [show nI i + 2 = nI (i + 2) from nI_add i 2]; exact vp_in_nI (by omega) (by omega)
  have v3 : vp_in (nI i + 3) L := by rw [show nI i + 3 = nI (i + 3) from nI_add i 3]; exact vp_in_nI (by omega) (by omega)
  have v4 : vp_in (nI i + 4) L := by rw [show nI i + 4 = nI (i + 4) from nI_add i 4]; exact vp_in_nI (by omega) (by omega)
  refine lv_aload_n hx hb dL_law_1210 rfl (lv_at hl 2 rfl) ?_
  refine lv_aload_n hx hb dL_law_1211 rfl (lv_at hl 3 rfl) ?_
  refine lv_iload_n hx hb dL_law_1212 rfl (lv_at hl 0 rfl) ?_
  refine lv_iconst (v := 1) hx hb dL_law_1213 (by decide) ?_
  refine lv_iadd hx hb dL_law_1214 ?_
  refine va_sld hx hb hX hbl hbA hS v1 dL_law_1215 ?_
  refine lv_aload_n hx hb dL_law_1216 rfl (lv_at hl 3 rfl) ?_
  refine lv_iload_n hx hb dL_law_1217 rfl (lv_at hl 0 rfl) ?_
  refine lv_iconst (v := 2) hx hb dL_law_1218 (by decide) ?_
  refine lv_iadd hx hb dL_law_1219 ?_
  refine va_sld hx hb hX hbl hbA hS v2 dL_law_1220 ?_
  refine law_xi (rest := []) hPQ hVM hS (va_runV (As := [.int _, .int _]) (rest := []) ⟨hx, hb, hml, hown, hts⟩ (c_X8_judge l hPQ.1 (xa_judge ok hx1 _ _)) (cwV 2 hts gv_L_148 rfl rfl rfl hv_X8_judge ⟨Nat.le_of_ble_eq_true rfl, Nat.le_of_ble_eq_true rfl⟩) (preXL hKL hVX hS hPQ) rfl rfl hl.1 rfl (lv_room (Nat.le_of_ble_eq_true rfl)) dL_law_1221 ⟨Nat.le_of_ble_eq_true rfl, Nat.le_of_ble_eq_true rfl⟩) (fun r1 S H locs hr1 hVX hVM hS => ?_)
  refine lv_aload_n hx hb dL_law_1224 rfl (lv_at hl 1 rfl) ?_
  refine lv_aload_n hx hb dL_law_1225 rfl (lv_at hl 3 rfl) ?_
  refine lv_iload_n hx hb dL_law_1226 rfl (lv_at hl 0 rfl) ?_
  refine lv_iconst (v := 1) hx hb dL_law_1227 (by decide) ?_
  refine lv_iadd hx hb dL_law_1228 ?_
  refine va_sld hx hb hX hbl hbA hS v1 dL_law_1229 ?_
  refine lv_aload_n hx hb dL_law_1230 rfl (lv_at hl 3 rfl) ?_
  refine lv_iload_n hx hb dL_law_1231 rfl (lv_at hl 0 rfl) ?_
  refine lv_iconst (v := 2) hx hb dL_law_1232 (by decide) ?_
  refine lv_iadd hx hb dL_law_1233 ?_
  refine va_sld hx hb hX hbl hbA hS v2 dL_law_1234 ?_
  refine law_mi (rest := [.int r1]) hPQ hVX hS (va_runV (As := [.int _, .int _]) (rest := [.int r1]) ⟨hx, hb, hml, hown, hts⟩ (c_X9_judge l hPQ.2.1 (ma_judge ok hm1 _ _)) (cwV 2 hts gv_L_151 rfl rfl rfl hv_X9_judge ⟨Nat.le_of_ble_eq_true rfl, Nat.le_of_ble_eq_true rfl⟩) (preML hKL.1 hVM) rfl rfl hl.1 rfl (lv_room (Nat.le_of_ble_eq_true rfl)) dL_law_1235 ⟨Nat.le_of_ble_eq_true rfl, Nat.le_of_ble_eq_true rfl⟩) (fun r2 Sm H locs hr2 hVX hVM hS => ?_)
  exact lv_icmp_eq (tgt := 1292) hx hb dL_law_1238 (by decide) (fun _ => kk _ S Sm H locs (ka_judge ok _ _) hr1.2 hr2.2 hVX hVM hS) (fun c9 => absurd (hr1.1.trans hr2.1.symm) c9)
set_option maxRecDepth 100000 in
set_option maxHeartbeats 4000000 in
theorem law_c33 {p : Program} {l : Launch} {e : Env} {s : State} {m : MethodId} {below : List Frame} {meth : Method} {c : Code} {b L : Nat} {xs : Nat → Int32} {dC : Nat → ClassId} {dI : Nat → Nat → Nat} {cA : Nat → ClassId} {adK adV P Q : Nat → Nat} (hL : L ≤ 2560) (C0 : lw_At p s m meth c b L xs) (hKL : KL dC dI cA adK adV (fun q => s.heap.size ≤ q) s) (hPQ : PQ P Q s.heap.size) {i : Nat} (hi : i + 5 ≤ L) {z : TA} (ok : okA z) {S Sm : St} (hx1 : XA S z) (hm1 : MA Sm z) {H : Heap} {locs : List Loc} {ls : Array Slot} (hVX : VX dC dI cA P S H) (hVM : VM dC dI cA Q Sm H) (hS : va_S (fun q => s.heap.size ≤ q) s.heap H locs) (hl : lv_has ls 4 [(3, .int (nI i)), (2, .ref (Q 0)), (1, .ref (P 0)), (0, .ref b)])
    (kk : ∀ (z : TA) (S Sm : St) (H : Heap) (locs : List Loc), okA z → XA S z → MA Sm z → VX dC dI cA P S H → VM dC dI cA Q Sm H → va_S (fun q => s.heap.size ≤ q) s.heap H locs → W p l e room_1 s m #[Value.ref b] below meth c H locs 81 9740 (lw_Z below #[Value.ref b] s) (F0 m 1292 ls [])) : W p l e room_1 s m #[Value.ref b] below meth c H locs 81 9740 (lw_Z below #[Value.ref b] s) (F0 m 1243 ls []) := by
  obtain ⟨hx, hb, hr, hml, hown, hts0, hX, hbl, hlocks, hgv⟩ := C0
  have hts : ∀ w ∈ G, w.before #[Value.ref b] s = true := fun w hw => hts0 w (G_tbl hw)
  have hown : s.vm.findClass RL = some m.cls := hown
  have hbA : ¬ (fun q : Nat => s.heap.size ≤ q) b := Nat.not_le.mpr hbl
  have v1 : vp_in (nI i + 1) L := by rw [show nI i + 1 = nI (i + 1) from nI_add i 1]; exact vp_in_nI (by omega) (by omega)
  have v2 : vp_in (nI i + 2) L := by rw [show nI i + 2 = nI (i + 2) from nI_add i 2]; exact vp_in_nI (by omega) (by omega)
  have v3 : vp_in (nI i + 3) L := by rw [show nI i + 3 = nI (i + 3) from nI_add i 3]; exact vp_in_nI (by omega) (by omega)
  have v4 : vp_in (nI i + 4) L := by rw [show nI i + 4 = nI (i + 4) from nI_add i 4]; exact vp_in_nI (by omega) (by omega)
  refine lv_aload_n hx hb dL_law_1243 rfl (lv_at hl 2 rfl) ?_
  refine law_xi (rest := []) hPQ hVM hS (va_runV (As := []) (rest := []) ⟨hx, hb, hml, hown, hts⟩ (c_X8_image l hPQ.1 (xa_image ok hx1)) (cwV 0 hts gv_L_152 rfl rfl rfl hv_X8_image ⟨Nat.le_of_ble_eq_true rfl, Nat.le_of_ble_eq_true rfl⟩) (preXL hKL hVX hS hPQ) rfl rfl hl.1 rfl (lv_room (Nat.le_of_ble_eq_true rfl)) dL_law_1244 ⟨Nat.le_of_ble_eq_true rfl, Nat.le_of_ble_eq_true rfl⟩) (fun r1 S H locs hr1 hVX hVM hS => ?_)
  refine lv_aload_n hx hb dL_law_1247 rfl (lv_at hl 1 rfl) ?_
  refine law_mi (rest := [.int r1]) hPQ hVX hS (va_runV (As := []) (rest := [.int r1]) ⟨hx, hb, hml, hown, hts⟩ (c_X9_image l hPQ.2.1 (ma_image ok hm1)) (cwV 0 hts gv_L_155 rfl rfl rfl hv_X9_image ⟨Nat.le_of_ble_eq_true rfl, Nat.le_of_ble_eq_true rfl⟩) (preML hKL.1 hVM) rfl rfl hl.1 rfl (lv_room (Nat.le_of_ble_eq_true rfl)) dL_law_1248 ⟨Nat.le_of_ble_eq_true rfl, Nat.le_of_ble_eq_true rfl⟩) (fun r2 Sm H locs hr2 hVX hVM hS => ?_)
  exact lv_icmp_eq (tgt := 1292) hx hb dL_law_1251 (by decide) (fun _ => kk _ S Sm H locs (ka_image ok) hr1.2 hr2.2 hVX hVM hS) (fun c9 => absurd (hr1.1.trans hr2.1.symm) c9)
set_option maxRecDepth 100000 in
set_option maxHeartbeats 4000000 in
theorem law_c34 {p : Program} {l : Launch} {e : Env} {s : State} {m : MethodId} {below : List Frame} {meth : Method} {c : Code} {b L : Nat} {xs : Nat → Int32} {dC : Nat → ClassId} {dI : Nat → Nat → Nat} {cA : Nat → ClassId} {adK adV P Q : Nat → Nat} (hL : L ≤ 2560) (C0 : lw_At p s m meth c b L xs) (hKL : KL dC dI cA adK adV (fun q => s.heap.size ≤ q) s) (hPQ : PQ P Q s.heap.size) {i : Nat} (hi : i + 5 ≤ L) {z : TA} (ok : okA z) {S Sm : St} (hx1 : XA S z) (hm1 : MA Sm z) {H : Heap} {locs : List Loc} {ls : Array Slot} (hVX : VX dC dI cA P S H) (hVM : VM dC dI cA Q Sm H) (hS : va_S (fun q => s.heap.size ≤ q) s.heap H locs) (hl : lv_has ls 4 [(3, .int (nI i)), (2, .ref (Q 0)), (1, .ref (P 0)), (0, .ref b)])
    (kk : ∀ (z : TA) (S Sm : St) (H : Heap) (locs : List Loc), okA z → XA S z → MA Sm z → VX dC dI cA P S H → VM dC dI cA Q Sm H → va_S (fun q => s.heap.size ≤ q) s.heap H locs → W p l e room_1 s m #[Value.ref b] below meth c H locs 81 9740 (lw_Z below #[Value.ref b] s) (F0 m 1292 ls [])) : W p l e room_1 s m #[Value.ref b] below meth c H locs 81 9740 (lw_Z below #[Value.ref b] s) (F0 m 1256 ls []) := by
  obtain ⟨hx, hb, hr, hml, hown, hts0, hX, hbl, hlocks, hgv⟩ := C0
  have hts : ∀ w ∈ G, w.before #[Value.ref b] s = true := fun w hw => hts0 w (G_tbl hw)
  have hown : s.vm.findClass RL = some m.cls := hown
  have hbA : ¬ (fun q : Nat => s.heap.size ≤ q) b := Nat.not_le.mpr hbl
  have v1 : vp_in (nI i + 1) L := by rw [show nI i + 1 = nI (i + 1) from nI_add i 1]; exact vp_in_nI (by omega) (by omega)
  have v2 : vp_in (nI i + 2) L := by rw [show nI i + 2 = nI (i + 2) from nI_add i 2]; exact vp_in_nI (by omega) (by omega)
  have v3 : vp_in (nI i + 3) L := by rw [show nI i + 3 = nI (i + 3) from nI_add i 3]; exact vp_in_nI (by omega) (by omega)
  have v4 : vp_in (nI i + 4) L := by rw [show nI i + 4 = nI (i + 4) from nI_add i 4]; exact vp_in_nI (by omega) (by omega)
  refine lv_aload_n hx hb dL_law_1256 rfl (lv_at hl 2 rfl) ?_
  refine law_xi (rest := []) hPQ hVM hS (va_runV (As := []) (rest := []) ⟨hx, hb, hml, hown, hts⟩ (c_X8_undo l hPQ.1 (xa_undo ok hx1)) (cwV 0 hts gv_L_156 rfl rfl rfl hv_X8_undo ⟨Nat.le_of_ble_eq_true rfl, Nat.le_of_ble_eq_true rfl⟩) (preXL hKL hVX hS hPQ) rfl rfl hl.1 rfl (lv_room (Nat.le_of_ble_eq_true rfl)) dL_law_1257 ⟨Nat.le_of_ble_eq_true rfl, Nat.le_of_ble_eq_true rfl⟩) (fun r1 S H locs hr1 hVX hVM hS => ?_)
  refine lv_aload_n hx hb dL_law_1260 rfl (lv_at hl 1 rfl) ?_
  refine law_mi (rest := [.int r1]) hPQ hVX hS (va_runV (As := []) (rest := [.int r1]) ⟨hx, hb, hml, hown, hts⟩ (c_X9_undo l hPQ.2.1 (ma_undo ok hm1)) (cwV 0 hts gv_L_159 rfl rfl rfl hv_X9_undo ⟨Nat.le_of_ble_eq_true rfl, Nat.le_of_ble_eq_true rfl⟩) (preML hKL.1 hVM) rfl rfl hl.1 rfl (lv_room (Nat.le_of_ble_eq_true rfl)) dL_law_1261 ⟨Nat.le_of_ble_eq_true rfl, Nat.le_of_ble_eq_true rfl⟩) (fun r2 Sm H locs hr2 hVX hVM hS => ?_)
  exact lv_icmp_eq (tgt := 1292) hx hb dL_law_1264 (by decide) (fun _ => kk _ S Sm H locs (ka_undo ok) hr1.2 hr2.2 hVX hVM hS) (fun c9 => absurd (hr1.1.trans hr2.1.symm) c9)
set_option maxRecDepth 100000 in
set_option maxHeartbeats 4000000 in
theorem law_c35 {p : Program} {l : Launch} {e : Env} {s : State} {m : MethodId} {below : List Frame} {meth : Method} {c : Code} {b L : Nat} {xs : Nat → Int32} {dC : Nat → ClassId} {dI : Nat → Nat → Nat} {cA : Nat → ClassId} {adK adV P Q : Nat → Nat} (hL : L ≤ 2560) (C0 : lw_At p s m meth c b L xs) (hKL : KL dC dI cA adK adV (fun q => s.heap.size ≤ q) s) (hPQ : PQ P Q s.heap.size) {i : Nat} (hi : i + 5 ≤ L) {z : TA} (ok : okA z) {S Sm : St} (hx1 : XA S z) (hm1 : MA Sm z) {H : Heap} {locs : List Loc} {ls : Array Slot} (hVX : VX dC dI cA P S H) (hVM : VM dC dI cA Q Sm H) (hS : va_S (fun q => s.heap.size ≤ q) s.heap H locs) (hl : lv_has ls 4 [(3, .int (nI i)), (2, .ref (Q 0)), (1, .ref (P 0)), (0, .ref b)])
    (kk : ∀ (z : TA) (S Sm : St) (H : Heap) (locs : List Loc), okA z → XA S z → MA Sm z → VX dC dI cA P S H → VM dC dI cA Q Sm H → va_S (fun q => s.heap.size ≤ q) s.heap H locs → W p l e room_1 s m #[Value.ref b] below meth c H locs 81 9740 (lw_Z below #[Value.ref b] s) (F0 m 1292 ls [])) : W p l e room_1 s m #[Value.ref b] below meth c H locs 81 9740 (lw_Z below #[Value.ref b] s) (F0 m 1269 ls []) := by
  obtain ⟨hx, hb, hr, hml, hown, hts0, hX, hbl, hlocks, hgv⟩ := C0
  have hts : ∀ w ∈ G, w.before #[Value.ref b] s = true := fun w hw => hts0 w (G_tbl hw)
  have hown : s.vm.findClass RL = some m.cls := hown
  have hbA : ¬ (fun q : Nat => s.heap.size ≤ q) b := Nat.not_le.mpr hbl
  have v1 : vp_in (nI i + 1) L := by rw [show nI i + 1 = nI (i + 1) from nI_add i 1]; exact vp_in_nI (by omega) (by omega)
  have v2 : vp_in (nI i + 2) L := by rw [show nI i + 2 = nI (i + 2) from nI_add i 2]; exact vp_in_nI (by omega) (by omega)
  have v3 : vp_in (nI i + 3) L := by rw [show nI i + 3 = nI (i + 3) from nI_add i 3]; exact vp_in_nI (by omega) (by omega)
  have v4 : vp_in (nI i + 4) L := by rw [show nI i + 4 = nI (i + 4) from nI_add i 4]; exact vp_in_nI (by omega) (by omega)
  refine lv_aload_n hx hb dL_law_1269 rfl (lv_at hl 2 rfl) ?_
  refine lv_aload_n hx hb dL_law_1270 rfl (lv_at hl 3 rfl) ?_
  refine lv_iload_n hx hb dL_law_1271 rfl (lv_at hl 0 rfl) ?_
  refine lv_iconst (v := 1) hx hb dL_law_1272 (by decide) ?_
  refine lv_iadd hx hb dL_law_1273 ?_
  refine va_sld hx hb hX hbl hbA hS v1 dL_law_1274 ?_
  refine law_xi (rest := []) hPQ hVM hS (va_runV (As := [.int _]) (rest := []) ⟨hx, hb, hml, hown, hts⟩ (c_X8_count l hPQ.1 (xa_count ok hx1 _)) (cwV 1 hts gv_L_160 rfl rfl rfl hv_X8_count ⟨Nat.le_of_ble_eq_true rfl, Nat.le_of_ble_eq_true rfl⟩) (preXL hKL hVX hS hPQ) rfl rfl hl.1 rfl (lv_room (Nat.le_of_ble_eq_true rfl)) dL_law_1275 ⟨Nat.le_of_ble_eq_true rfl, Nat.le_of_ble_eq_true rfl⟩) (fun r1 S H locs hr1 hVX hVM hS => ?_)
  refine lv_aload_n hx hb dL_law_1278 rfl (lv_at hl 1 rfl) ?_
  refine lv_aload_n hx hb dL_law_1279 rfl (lv_at hl 3 rfl) ?_
  refine lv_iload_n hx hb dL_law_1280 rfl (lv_at hl 0 rfl) ?_
  refine lv_iconst (v := 1) hx hb dL_law_1281 (by decide) ?_
  refine lv_iadd hx hb dL_law_1282 ?_
  refine va_sld hx hb hX hbl hbA hS v1 dL_law_1283 ?_
  refine law_mi (rest := [.int r1]) hPQ hVX hS (va_runV (As := [.int _]) (rest := [.int r1]) ⟨hx, hb, hml, hown, hts⟩ (c_X9_count l hPQ.2.1 (ma_count ok hm1 _)) (cwV 1 hts gv_L_163 rfl rfl rfl hv_X9_count ⟨Nat.le_of_ble_eq_true rfl, Nat.le_of_ble_eq_true rfl⟩) (preML hKL.1 hVM) rfl rfl hl.1 rfl (lv_room (Nat.le_of_ble_eq_true rfl)) dL_law_1284 ⟨Nat.le_of_ble_eq_true rfl, Nat.le_of_ble_eq_true rfl⟩) (fun r2 Sm H locs hr2 hVX hVM hS => ?_)
  exact lv_icmp_eq (tgt := 1292) hx hb dL_law_1287 (by decide) (fun _ => kk _ S Sm H locs (ka_count ok _) hr1.2 hr2.2 hVX hVM hS) (fun c9 => absurd (hr1.1.trans hr2.1.symm) c9)
