set_option maxRecDepth 100000 in
set_option maxHeartbeats 4000000 in
theorem e_X7_add {p : Program} {l : Launch} {e : Env} {s : State} {m : MethodId} {args : Array Value} {below : List Frame} {meth : Method} {c : Code} {dC : Nat → ClassId} {dI : Nat → Nat → Nat} {cA : Nat → ClassId} {adK adV P : Nat → Nat} (C : CtxX dC dI cA adK adV P p s m args meth c cX7_add 2 none RX7) {post : St → Prop} : ∀ (v1 : Int32) (S : St) (H : Heap) (locs : List Loc) (ls : Array Slot), w_X7_add v1 post S → VX dC dI cA P S H → va_S (PA 56 P) s.heap H locs → lv_has ls 2 [(0, .ref (P 27)), (1, .int v1)] → W p l e ({ frames := 1, cells := 0, slots := 0, locals := 22 } : Room) s m args below meth c H locs 0 0 (MQ below (va_Qv post (fun u t => VX dC dI cA P u t.heap) (PA 56 P)) args s 0 0 (PA 56 P)) (F0 m 0 ls []) := by
  have C := C
  obtain ⟨hI, hKX, ⟨hx, hb, hml, hown, hts⟩, hr, hlocks⟩ := id C
  have hK := hKX.1
  intro v1 S H locs ls h hP hS hl
  rw [w_X7_add] at h
  refine lv_aload_n hx hb dX7_add_0 rfl (lv_at hl 0 rfl) ?_
  refine g_get (v := .int (S.1 27 1)) hx hb hts inG_X7 hown hK hP (kX_lt (rfl : kdX 27 = 7)) (eX7 (rfl : kdX 27 = 7)) rfl 1 (by decide) G_fl_X7_15 rfl rfl dX7_add_1 ?_
  refine lv_aload_n hx hb dX7_add_4 rfl (lv_at hl 0 rfl) ?_
  refine g_get (v := .ref (P 28)) hx hb hts inG_X7 hown hK hP (kX_lt (rfl : kdX 27 = 7)) (eX7 (rfl : kdX 27 = 7)) rfl 0 (by decide) G_fl_X7_9 rfl rfl dX7_add_5 ?_
  refine g_alen hx hb hK hP (kX_lt (rfl : kdX 28 = 10)) 0 (eX10 (rfl : kdX 28 = 10)) rfl dX7_add_8 ?_
  refine lv_icmp_ge (tgt := 34) hx hb dX7_add_9 (by decide) (fun c1 => ?_) (fun c1 => ?_)
  · replace h := h.1 c1
    exact g_vret hx hb hr hlocks h hP hS dX7_add_34
  · replace h := h.2 c1
    refine lv_aload_n hx hb dX7_add_12 rfl (lv_at hl 0 rfl) ?_
    refine g_get (v := .ref (P 28)) hx hb hts inG_X7 hown hK hP (kX_lt (rfl : kdX 27 = 7)) (eX7 (rfl : kdX 27 = 7)) rfl 0 (by decide) G_fl_X7_9 rfl rfl dX7_add_13 ?_
    refine lv_aload_n hx hb dX7_add_16 rfl (lv_at hl 0 rfl) ?_
    refine g_get (v := .int (S.1 27 1)) hx hb hts inG_X7 hown hK hP (kX_lt (rfl : kdX 27 = 7)) (eX7 (rfl : kdX 27 = 7)) rfl 1 (by decide) G_fl_X7_15 rfl rfl dX7_add_17 ?_
    refine lv_iload_n hx hb dX7_add_20 rfl (lv_at hl 1 rfl) ?_
    replace h := h _ rfl
    refine va_callv (va_runSN (As := [.ref _, .int _, .int _]) (rest := []) ⟨hx, hb, hml, hown, hts⟩ (c_X8_setAt l hI (rfl : kdX 28 = 10) h) ⟨va_cnB 3 hts (good_W G_cd_X8_setAt) rfl rfl rfl (kx_n13 hKX) (hts _ G_in_X8) hd_X8_setAt ⟨Nat.le_of_ble_eq_true rfl, Nat.le_of_ble_eq_true rfl⟩, hts _ G_st_X8_setAt, trivial⟩ (preS_X hKX hP hS) rfl rfl hl.1 rfl (lv_room (Nat.le_of_ble_eq_true rfl)) dX7_add_21 ⟨Nat.le_of_ble_eq_true rfl, Nat.le_of_ble_eq_true rfl⟩) hS (fun _ _ h => h) (fun _ h => h) (fun S3 t H locs ht _ h hB _ _ hS => ?_)
    have hP : VX dC dI cA P S3 H := by rw [← ht]; exact hB
    refine lv_aload_n hx hb dX7_add_24 rfl (lv_at hl 0 rfl) ?_
    refine lv_dup hx hb dX7_add_25 rfl ?_
    refine g_get (v := .int (S3.1 27 1)) hx hb hts inG_X7 hown hK hP (kX_lt (rfl : kdX 27 = 7)) (eX7 (rfl : kdX 27 = 7)) rfl 1 (by decide) G_fl_X7_15 rfl rfl dX7_add_26 ?_
    refine lv_iconst (v := 1) hx hb dX7_add_29 (by decide) ?_
    refine lv_iadd hx hb dX7_add_30 ?_
    replace h := h _ rfl
    refine g_putI hx hb hts inG_X7 tyX7 tyX7_ok nmX7 hown hK hI hP hS (kX_lt (rfl : kdX 27 = 7)) (eX7 (rfl : kdX 27 = 7)) rfl 1 (by decide) G_fl_X7_15 rfl rfl (ty := .int) (by decide +kernel) rfl rfl (Nat.le_of_ble_eq_true rfl) rfl h dX7_add_31 (fun S5 H locs h hP hS => ?_)
    exact g_vret hx hb hr hlocks h hP hS dX7_add_34
set_option maxRecDepth 100000 in
set_option maxHeartbeats 4000000 in
theorem c_X7_add (l : Launch) {dC : Nat → ClassId} {dI : Nat → Nat → Nat} {cA : Nat → ClassId} {adK adV P : Nat → Nat} (hI : PInj 56 P) {v1 : Int32}  {post : St → Prop} {S : St} (h : w_X7_add v1 post S) : Met l yX7_add (wW yX7_add cX7_add 2 none) ({ frames := 1, cells := 0, slots := 0, locals := 22 } : Room) (va_Pc [.ref (P 27), .int v1] (PreX dC dI cA adK adV P S)) (va_Qv post (fun u t => VX dC dI cA P u t.heap) (PA 56 P)) 0 0 (PA 56 P) := by
  refine Met.ofW (cc := cX7_add) (maxL := 2) (ret := none) (by decide) rfl ?_
  intro p e s m args below meth c s₁ B hml hv
  obtain ⟨rfl, hP, hKX⟩ := hv
  have hts : ∀ w ∈ G, w.before [.ref (P 27), .int v1].toArray s = true := fun w hw => atoms_spec (ws := wW yX7_add cX7_add 2 none) B.pre w (List.mem_cons_of_mem _ hw)
  have C : CtxX dC dI cA adK adV P p s m [.ref (P 27), .int v1].toArray meth c cX7_add 2 none RX7 := ⟨hI, hKX, ⟨B.exec, B.bytes, hml, findClass_of_methodNamed B.named, hts⟩, B.returns, B.notSynchronized⟩
  have hS : va_S (PA 56 P) s.heap s.heap [] := va_S.rf
  have hl := lv_entry ([.ref (P 27), .int v1]) (n := 2) (Nat.le_of_ble_eq_true rfl)
  rw [lg_entry_eq]
  generalize (lg_sl ([.ref (P 27), .int v1]) ++ List.replicate (2 - (lg_sl ([.ref (P 27), .int v1])).length) Slot.unset).toArray = ls at hl ⊢
  have hl : lv_has ls 2 [(0, .ref (P 27)), (1, .int v1)] := hl
  exact e_X7_add C _ _ _ _ _ h  hP hS hl
set_option maxRecDepth 100000 in
set_option maxHeartbeats 4000000 in
theorem e_X7_clear {p : Program} {l : Launch} {e : Env} {s : State} {m : MethodId} {args : Array Value} {below : List Frame} {meth : Method} {c : Code} {dC : Nat → ClassId} {dI : Nat → Nat → Nat} {cA : Nat → ClassId} {adK adV P : Nat → Nat} (C : CtxX dC dI cA adK adV P p s m args meth c cX7_clear 1 none RX7) {post : St → Prop} : ∀  (S : St) (H : Heap) (locs : List Loc) (ls : Array Slot), w_X7_clear  post S → VX dC dI cA P S H → va_S (PA 56 P) s.heap H locs → lv_has ls 1 [(0, .ref (P 27))] → W p l e ({ frames := 0, cells := 0, slots := 0, locals := 0 } : Room) s m args below meth c H locs 0 0 (MQ below (va_Qv post (fun u t => VX dC dI cA P u t.heap) (PA 56 P)) args s 0 0 (PA 56 P)) (F0 m 0 ls []) := by
  have C := C
  obtain ⟨hI, hKX, ⟨hx, hb, hml, hown, hts⟩, hr, hlocks⟩ := id C
  have hK := hKX.1
  intro S H locs ls h hP hS hl
  rw [w_X7_clear] at h
  refine lv_aload_n hx hb dX7_clear_0 rfl (lv_at hl 0 rfl) ?_
  refine lv_iconst (v := 0) hx hb dX7_clear_1 (by decide) ?_
  refine g_putI hx hb hts inG_X7 tyX7 tyX7_ok nmX7 hown hK hI hP hS (kX_lt (rfl : kdX 27 = 7)) (eX7 (rfl : kdX 27 = 7)) rfl 1 (by decide) G_fl_X7_15 rfl rfl (ty := .int) (by decide +kernel) rfl rfl (Nat.le_of_ble_eq_true rfl) rfl h dX7_clear_2 (fun S1 H locs h hP hS => ?_)
  exact g_vret hx hb hr hlocks h hP hS dX7_clear_5
set_option maxRecDepth 100000 in
set_option maxHeartbeats 4000000 in
theorem c_X7_clear (l : Launch) {dC : Nat → ClassId} {dI : Nat → Nat → Nat} {cA : Nat → ClassId} {adK adV P : Nat → Nat} (hI : PInj 56 P)   {post : St → Prop} {S : St} (h : w_X7_clear  post S) : Met l yX7_clear (wW yX7_clear cX7_clear 1 none) ({ frames := 0, cells := 0, slots := 0, locals := 0 } : Room) (va_Pc [.ref (P 27)] (PreX dC dI cA adK adV P S)) (va_Qv post (fun u t => VX dC dI cA P u t.heap) (PA 56 P)) 0 0 (PA 56 P) := by
  refine Met.ofW (cc := cX7_clear) (maxL := 1) (ret := none) (by decide) rfl ?_
  intro p e s m args below meth c s₁ B hml hv
  obtain ⟨rfl, hP, hKX⟩ := hv
  have hts : ∀ w ∈ G, w.before [.ref (P 27)].toArray s = true := fun w hw => atoms_spec (ws := wW yX7_clear cX7_clear 1 none) B.pre w (List.mem_cons_of_mem _ hw)
  have C : CtxX dC dI cA adK adV P p s m [.ref (P 27)].toArray meth c cX7_clear 1 none RX7 := ⟨hI, hKX, ⟨B.exec, B.bytes, hml, findClass_of_methodNamed B.named, hts⟩, B.returns, B.notSynchronized⟩
  have hS : va_S (PA 56 P) s.heap s.heap [] := va_S.rf
  have hl := lv_entry ([.ref (P 27)]) (n := 1) (Nat.le_of_ble_eq_true rfl)
  rw [lg_entry_eq]
  generalize (lg_sl ([.ref (P 27)]) ++ List.replicate (1 - (lg_sl ([.ref (P 27)])).length) Slot.unset).toArray = ls at hl ⊢
  have hl : lv_has ls 1 [(0, .ref (P 27))] := hl
  exact e_X7_clear C  _ _ _ _ h  hP hS hl
set_option maxRecDepth 100000 in
set_option maxHeartbeats 4000000 in
theorem e_X8_isBase {p : Program} {l : Launch} {e : Env} {s : State} {m : MethodId} {args : Array Value} {below : List Frame} {meth : Method} {c : Code} {dC : Nat → ClassId} {dI : Nat → Nat → Nat} {cA : Nat → ClassId} {adK adV P : Nat → Nat} (C : CtxX dC dI cA adK adV P p s m args meth c cX8_isBase 1 (some .boolean) RX8) {post : Int32 → St → Prop} : ∀ (v0 : Int32) (S : St) (H : Heap) (locs : List Loc) (ls : Array Slot), w_X8_isBase v0 post S → VX dC dI cA P S H → va_S (PA 56 P) s.heap H locs → lv_has ls 1 [(0, .int v0)] → W p l e ({ frames := 1, cells := 0, slots := 0, locals := 22 } : Room) s m args below meth c H locs 0 0 (MQ below (va_Qi post (fun u t => VX dC dI cA P u t.heap) (PA 56 P)) args s 0 0 (PA 56 P)) (F0 m 0 ls []) := by
  have C := C
  obtain ⟨hI, hKX, ⟨hx, hb, hml, hown, hts⟩, hr, hlocks⟩ := id C
  have hK := hKX.1
  intro v0 S H locs ls h hP hS hl
  rw [w_X8_isBase] at h
  refine lv_iload_n hx hb dX8_isBase_0 rfl (lv_at hl 0 rfl) ?_
  refine lv_iconst (v := 2) hx hb dX8_isBase_1 (by decide) ?_
  refine lv_bipush (v := 16) hx hb dX8_isBase_2 (by decide) ?_
  refine va_calli (va_runS (As := [.int _, .int _, .int _]) (rest := []) ⟨hx, hb, hml, hown, hts⟩ (c_X8_isWithin l hI h) (va_cwS 3 hts gs_X8_81 rfl rfl rfl hd_X8_isWithin ⟨Nat.le_of_ble_eq_true rfl, Nat.le_of_ble_eq_true rfl⟩) (preS_X hKX hP hS) rfl rfl hl.1 rfl (lv_room (Nat.le_of_ble_eq_true rfl)) dX8_isBase_4 ⟨Nat.le_of_ble_eq_true rfl, Nat.le_of_ble_eq_true rfl⟩) hS (fun _ _ h => h) (fun _ h => h) (fun r2 S1 t H locs ht _ h hB _ _ hS => ?_)
  have hP : VX dC dI cA P S1 H := by rw [← ht]; exact hB
  exact g_zret hx hb hr hlocks h.1 h.2 hP hS dX8_isBase_7
set_option maxRecDepth 100000 in
set_option maxHeartbeats 4000000 in
theorem c_X8_isBase (l : Launch) {dC : Nat → ClassId} {dI : Nat → Nat → Nat} {cA : Nat → ClassId} {adK adV P : Nat → Nat} (hI : PInj 56 P) {v0 : Int32}  {post : Int32 → St → Prop} {S : St} (h : w_X8_isBase v0 post S) : Met l yX8_isBase (wW yX8_isBase cX8_isBase 1 (some .boolean)) ({ frames := 1, cells := 0, slots := 0, locals := 22 } : Room) (va_Pc [.int v0] (PreX dC dI cA adK adV P S)) (va_Qi post (fun u t => VX dC dI cA P u t.heap) (PA 56 P)) 0 0 (PA 56 P) := by
  refine Met.ofW (cc := cX8_isBase) (maxL := 1) (ret := (some .boolean)) (by decide) rfl ?_
  intro p e s m args below meth c s₁ B hml hv
  obtain ⟨rfl, hP, hKX⟩ := hv
  have hts : ∀ w ∈ G, w.before [.int v0].toArray s = true := fun w hw => atoms_spec (ws := wW yX8_isBase cX8_isBase 1 (some .boolean)) B.pre w (List.mem_cons_of_mem _ hw)
  have C : CtxX dC dI cA adK adV P p s m [.int v0].toArray meth c cX8_isBase 1 (some .boolean) RX8 := ⟨hI, hKX, ⟨B.exec, B.bytes, hml, findClass_of_methodNamed B.named, hts⟩, B.returns, B.notSynchronized⟩
  have hS : va_S (PA 56 P) s.heap s.heap [] := va_S.rf
  have hl := lv_entry ([.int v0]) (n := 1) (Nat.le_of_ble_eq_true rfl)
  rw [lg_entry_eq]
  generalize (lg_sl ([.int v0]) ++ List.replicate (1 - (lg_sl ([.int v0])).length) Slot.unset).toArray = ls at hl ⊢
  have hl : lv_has ls 1 [(0, .int v0)] := hl
  exact e_X8_isBase C _ _ _ _ _ h  hP hS hl
set_option maxRecDepth 100000 in
set_option maxHeartbeats 4000000 in
theorem e_X8_fraction {p : Program} {l : Launch} {e : Env} {s : State} {m : MethodId} {args : Array Value} {below : List Frame} {meth : Method} {c : Code} {dC : Nat → ClassId} {dI : Nat → Nat → Nat} {cA : Nat → ClassId} {adK adV P : Nat → Nat} (C : CtxX dC dI cA adK adV P p s m args meth c cX8_fraction 4 (some .int) RX8) {post : Int32 → St → Prop} : ∀ (v1 : Int32) (v2 : Int32) (v3 : Int32) (S : St) (H : Heap) (locs : List Loc) (ls : Array Slot), w_X8_fraction v1 v2 v3 post S → VX dC dI cA P S H → va_S (PA 56 P) s.heap H locs → lv_has ls 4 [(0, .ref (P 0)), (1, .int v1), (2, .int v2), (3, .int v3)] → W p l e ({ frames := 3, cells := 0, slots := 0, locals := 77 } : Room) s m args below meth c H locs 0 0 (MQ below (va_Qi post (fun u t => VX dC dI cA P u t.heap) (PA 56 P)) args s 0 0 (PA 56 P)) (F0 m 0 ls []) := by
  have C := C
  obtain ⟨hI, hKX, ⟨hx, hb, hml, hown, hts⟩, hr, hlocks⟩ := id C
  have hK := hKX.1
  intro v1 v2 v3 S H locs ls h hP hS hl
  rw [w_X8_fraction] at h
  refine lv_iload_n hx hb dX8_fraction_0 rfl (lv_at hl 1 rfl) ?_
  refine lv_iconst (v := 0) hx hb dX8_fraction_1 (by decide) ?_
  refine lv_sipush (v := 9999) hx hb dX8_fraction_2 (by decide) ?_
  refine va_calli (va_runS (As := [.int _, .int _, .int _]) (rest := []) ⟨hx, hb, hml, hown, hts⟩ (c_X8_isWithin l hI h) (va_cwS 3 hts gs_X8_81 rfl rfl rfl hd_X8_isWithin ⟨Nat.le_of_ble_eq_true rfl, Nat.le_of_ble_eq_true rfl⟩) (preS_X hKX hP hS) rfl rfl hl.1 rfl (lv_room (Nat.le_of_ble_eq_true rfl)) dX8_fraction_5 ⟨Nat.le_of_ble_eq_true rfl, Nat.le_of_ble_eq_true rfl⟩) hS (fun _ _ h => h) (fun _ h => h) (fun r2 S1 t H locs ht _ h hB _ _ hS => ?_)
  have hP : VX dC dI cA P S1 H := by rw [← ht]; exact hB
  refine lv_if_eq (tgt := 29) hx hb dX8_fraction_8 (by decide) (fun c3 => ?_) (fun c3 => ?_)
  · replace h := h.1 c3
    refine lv_iconst (v := (-1)) hx hb dX8_fraction_29 (by decide) ?_
    exact g_iret hx hb hr hlocks h hP hS dX8_fraction_30
  · replace h := h.2 c3
    refine lv_iload_n hx hb dX8_fraction_11 rfl (lv_at hl 2 rfl) ?_
    refine lv_iconst (v := 1) hx hb dX8_fraction_12 (by decide) ?_
    refine lv_sipush (v := 999) hx hb dX8_fraction_13 (by decide) ?_
    refine va_calli (va_runS (As := [.int _, .int _, .int _]) (rest := []) ⟨hx, hb, hml, hown, hts⟩ (c_X8_isWithin l hI h) (va_cwS 3 hts gs_X8_81 rfl rfl rfl hd_X8_isWithin ⟨Nat.le_of_ble_eq_true rfl, Nat.le_of_ble_eq_true rfl⟩) (preS_X hKX hP hS) rfl rfl hl.1 rfl (lv_room (Nat.le_of_ble_eq_true rfl)) dX8_fraction_16 ⟨Nat.le_of_ble_eq_true rfl, Nat.le_of_ble_eq_true rfl⟩) hS (fun _ _ h => h) (fun _ h => h) (fun r5 S4 t H locs ht _ h hB _ _ hS => ?_)
    have hP : VX dC dI cA P S4 H := by rw [← ht]; exact hB
    refine lv_if_eq (tgt := 29) hx hb dX8_fraction_19 (by decide) (fun c6 => ?_) (fun c6 => ?_)
    · replace h := h.1 c6
      refine lv_iconst (v := (-1)) hx hb dX8_fraction_29 (by decide) ?_
      exact g_iret hx hb hr hlocks h hP hS dX8_fraction_30
    · replace h := h.2 c6
      refine lv_iload_n hx hb dX8_fraction_22 rfl (lv_at hl 3 rfl) ?_
      refine va_calli (va_runS (As := [.int _]) (rest := []) ⟨hx, hb, hml, hown, hts⟩ (c_X8_isBase l hI h) (va_cwS 1 hts gs_X8_85 rfl rfl rfl hd_X8_isBase ⟨Nat.le_of_ble_eq_true rfl, Nat.le_of_ble_eq_true rfl⟩) (preS_X hKX hP hS) rfl rfl hl.1 rfl (lv_room (Nat.le_of_ble_eq_true rfl)) dX8_fraction_23 ⟨Nat.le_of_ble_eq_true rfl, Nat.le_of_ble_eq_true rfl⟩) hS (fun _ _ h => h) (fun _ h => h) (fun r8 S7 t H locs ht _ h hB _ _ hS => ?_)
      have hP : VX dC dI cA P S7 H := by rw [← ht]; exact hB
      refine lv_if_ne (tgt := 31) hx hb dX8_fraction_26 (by decide) (fun c9 => ?_) (fun c9 => ?_)
      · replace h := h.2 c9
        refine lv_aload_n hx hb dX8_fraction_31 rfl (lv_at hl 0 rfl) ?_
        refine g_get (v := .ref (P 1)) hx hb hts inG_X8 hown hK hP (kX_lt (rfl : kdX 0 = 8)) (eX8 (rfl : kdX 0 = 8)) rfl 0 (by decide) G_fl_X8_12 rfl rfl dX8_fraction_32 ?_
        refine lv_iload_n hx hb dX8_fraction_35 rfl (lv_at hl 1 rfl) ?_
        refine lv_iload_n hx hb dX8_fraction_36 rfl (lv_at hl 2 rfl) ?_
        refine lv_iload_n hx hb dX8_fraction_37 rfl (lv_at hl 3 rfl) ?_
        refine va_calli (va_runV (As := [.int _, .int _, .int _]) (rest := []) ⟨hx, hb, hml, hown, hts⟩ (c_X6_add l hI (rfl : kdX 1 = 6) h) (cwV 3 hts gv_X8_89 rfl rfl rfl hv_X6_add ⟨Nat.le_of_ble_eq_true rfl, Nat.le_of_ble_eq_true rfl⟩) (preV_X hKX hP hS (kX_lt (rfl : kdX 1 = 6)) (eX6 (rfl : kdX 1 = 6)) rfl) rfl rfl hl.1 rfl (lv_room (Nat.le_of_ble_eq_true rfl)) dX8_fraction_38 ⟨Nat.le_of_ble_eq_true rfl, Nat.le_of_ble_eq_true rfl⟩) hS (fun _ _ h => h) (fun _ h => h) (fun r11 S10 t H locs ht _ h hB _ _ hS => ?_)
        have hP : VX dC dI cA P S10 H := by rw [← ht]; exact hB
        exact g_iret hx hb hr hlocks h hP hS dX8_fraction_41
      · replace h := h.1 c9
        refine lv_iconst (v := (-1)) hx hb dX8_fraction_29 (by decide) ?_
        exact g_iret hx hb hr hlocks h hP hS dX8_fraction_30
set_option maxRecDepth 100000 in
set_option maxHeartbeats 4000000 in
theorem c_X8_fraction (l : Launch) {dC : Nat → ClassId} {dI : Nat → Nat → Nat} {cA : Nat → ClassId} {adK adV P : Nat → Nat} (hI : PInj 56 P) {v1 : Int32} {v2 : Int32} {v3 : Int32}  {post : Int32 → St → Prop} {S : St} (h : w_X8_fraction v1 v2 v3 post S) : Met l yX8_fraction (wW yX8_fraction cX8_fraction 4 (some .int)) ({ frames := 3, cells := 0, slots := 0, locals := 77 } : Room) (va_Pc [.ref (P 0), .int v1, .int v2, .int v3] (PreX dC dI cA adK adV P S)) (va_Qi post (fun u t => VX dC dI cA P u t.heap) (PA 56 P)) 0 0 (PA 56 P) := by
  refine Met.ofW (cc := cX8_fraction) (maxL := 4) (ret := (some .int)) (by decide) rfl ?_
  intro p e s m args below meth c s₁ B hml hv
  obtain ⟨rfl, hP, hKX⟩ := hv
  have hts : ∀ w ∈ G, w.before [.ref (P 0), .int v1, .int v2, .int v3].toArray s = true := fun w hw => atoms_spec (ws := wW yX8_fraction cX8_fraction 4 (some .int)) B.pre w (List.mem_cons_of_mem _ hw)
  have C : CtxX dC dI cA adK adV P p s m [.ref (P 0), .int v1, .int v2, .int v3].toArray meth c cX8_fraction 4 (some .int) RX8 := ⟨hI, hKX, ⟨B.exec, B.bytes, hml, findClass_of_methodNamed B.named, hts⟩, B.returns, B.notSynchronized⟩
  have hS : va_S (PA 56 P) s.heap s.heap [] := va_S.rf
  have hl := lv_entry ([.ref (P 0), .int v1, .int v2, .int v3]) (n := 4) (Nat.le_of_ble_eq_true rfl)
  rw [lg_entry_eq]
  generalize (lg_sl ([.ref (P 0), .int v1, .int v2, .int v3]) ++ List.replicate (4 - (lg_sl ([.ref (P 0), .int v1, .int v2, .int v3])).length) Slot.unset).toArray = ls at hl ⊢
  have hl : lv_has ls 4 [(0, .ref (P 0)), (1, .int v1), (2, .int v2), (3, .int v3)] := hl
  exact e_X8_fraction C _ _ _ _ _ _ _ h  hP hS hl
set_option maxRecDepth 100000 in
set_option maxHeartbeats 4000000 in
theorem e_X8_drop {p : Program} {l : Launch} {e : Env} {s : State} {m : MethodId} {args : Array Value} {below : List Frame} {meth : Method} {c : Code} {dC : Nat → ClassId} {dI : Nat → Nat → Nat} {cA : Nat → ClassId} {adK adV P : Nat → Nat} (C : CtxX dC dI cA adK adV P p s m args meth c cX8_drop 2 (some .int) RX8) {post : Int32 → St → Prop} : ∀ (v1 : Int32) (S : St) (H : Heap) (locs : List Loc) (ls : Array Slot), w_X8_drop v1 post S → VX dC dI cA P S H → va_S (PA 56 P) s.heap H locs → lv_has ls 2 [(0, .ref (P 0)), (1, .int v1)] → W p l e ({ frames := 2, cells := 0, slots := 0, locals := 43 } : Room) s m args below meth c H locs 0 0 (MQ below (va_Qi post (fun u t => VX dC dI cA P u t.heap) (PA 56 P)) args s 0 0 (PA 56 P)) (F0 m 0 ls []) := by
  have C := C
  obtain ⟨hI, hKX, ⟨hx, hb, hml, hown, hts⟩, hr, hlocks⟩ := id C
  have hK := hKX.1
  intro v1 S H locs ls h hP hS hl
  rw [w_X8_drop] at h
  refine lv_aload_n hx hb dX8_drop_0 rfl (lv_at hl 0 rfl) ?_
  refine g_get (v := .ref (P 1)) hx hb hts inG_X8 hown hK hP (kX_lt (rfl : kdX 0 = 8)) (eX8 (rfl : kdX 0 = 8)) rfl 0 (by decide) G_fl_X8_12 rfl rfl dX8_drop_1 ?_
  refine lv_iload_n hx hb dX8_drop_4 rfl (lv_at hl 1 rfl) ?_
  refine va_calli (va_runV (As := [.int _]) (rest := []) ⟨hx, hb, hml, hown, hts⟩ (c_X6_takeAway l hI (rfl : kdX 1 = 6) h) (cwV 1 hts gv_X8_93 rfl rfl rfl hv_X6_takeAway ⟨Nat.le_of_ble_eq_true rfl, Nat.le_of_ble_eq_true rfl⟩) (preV_X hKX hP hS (kX_lt (rfl : kdX 1 = 6)) (eX6 (rfl : kdX 1 = 6)) rfl) rfl rfl hl.1 rfl (lv_room (Nat.le_of_ble_eq_true rfl)) dX8_drop_5 ⟨Nat.le_of_ble_eq_true rfl, Nat.le_of_ble_eq_true rfl⟩) hS (fun _ _ h => h) (fun _ h => h) (fun r2 S1 t H locs ht _ h hB _ _ hS => ?_)
  have hP : VX dC dI cA P S1 H := by rw [← ht]; exact hB
  exact g_iret hx hb hr hlocks h hP hS dX8_drop_8
set_option maxRecDepth 100000 in
set_option maxHeartbeats 4000000 in
theorem c_X8_drop (l : Launch) {dC : Nat → ClassId} {dI : Nat → Nat → Nat} {cA : Nat → ClassId} {adK adV P : Nat → Nat} (hI : PInj 56 P) {v1 : Int32}  {post : Int32 → St → Prop} {S : St} (h : w_X8_drop v1 post S) : Met l yX8_drop (wW yX8_drop cX8_drop 2 (some .int)) ({ frames := 2, cells := 0, slots := 0, locals := 43 } : Room) (va_Pc [.ref (P 0), .int v1] (PreX dC dI cA adK adV P S)) (va_Qi post (fun u t => VX dC dI cA P u t.heap) (PA 56 P)) 0 0 (PA 56 P) := by
  refine Met.ofW (cc := cX8_drop) (maxL := 2) (ret := (some .int)) (by decide) rfl ?_
  intro p e s m args below meth c s₁ B hml hv
  obtain ⟨rfl, hP, hKX⟩ := hv
  have hts : ∀ w ∈ G, w.before [.ref (P 0), .int v1].toArray s = true := fun w hw => atoms_spec (ws := wW yX8_drop cX8_drop 2 (some .int)) B.pre w (List.mem_cons_of_mem _ hw)
  have C : CtxX dC dI cA adK adV P p s m [.ref (P 0), .int v1].toArray meth c cX8_drop 2 (some .int) RX8 := ⟨hI, hKX, ⟨B.exec, B.bytes, hml, findClass_of_methodNamed B.named, hts⟩, B.returns, B.notSynchronized⟩
  have hS : va_S (PA 56 P) s.heap s.heap [] := va_S.rf
  have hl := lv_entry ([.ref (P 0), .int v1]) (n := 2) (Nat.le_of_ble_eq_true rfl)
  rw [lg_entry_eq]
  generalize (lg_sl ([.ref (P 0), .int v1]) ++ List.replicate (2 - (lg_sl ([.ref (P 0), .int v1])).length) Slot.unset).toArray = ls at hl ⊢
  have hl : lv_has ls 2 [(0, .ref (P 0)), (1, .int v1)] := hl
  exact e_X8_drop C _ _ _ _ _ h  hP hS hl
set_option maxRecDepth 100000 in
set_option maxHeartbeats 4000000 in
theorem e_X8_multiply {p : Program} {l : Launch} {e : Env} {s : State} {m : MethodId} {args : Array Value} {below : List Frame} {meth : Method} {c : Code} {dC : Nat → ClassId} {dI : Nat → Nat → Nat} {cA : Nat → ClassId} {adK adV P : Nat → Nat} (C : CtxX dC dI cA adK adV P p s m args meth c cX8_multiply 5 (some .int) RX8) {post : Int32 → St → Prop} : ∀ (v1 : Int32) (v2 : Int32) (S : St) (H : Heap) (locs : List Loc) (ls : Array Slot), w_X8_multiply v1 v2 post S → VX dC dI cA P S H → va_S (PA 56 P) s.heap H locs → lv_has ls 5 [(0, .ref (P 0)), (1, .int v1), (2, .int v2)] → W p l e ({ frames := 2, cells := 0, slots := 0, locals := 54 } : Room) s m args below meth c H locs 0 0 (MQ below (va_Qi post (fun u t => VX dC dI cA P u t.heap) (PA 56 P)) args s 0 0 (PA 56 P)) (F0 m 0 ls []) := by
  have C := C
  obtain ⟨hI, hKX, ⟨hx, hb, hml, hown, hts⟩, hr, hlocks⟩ := id C
  have hK := hKX.1
  intro v1 v2 S H locs ls h hP hS hl
  rw [w_X8_multiply] at h
  refine lv_aload_n hx hb dX8_multiply_0 rfl (lv_at hl 0 rfl) ?_
  refine g_get (v := .ref (P 1)) hx hb hts inG_X8 hown hK hP (kX_lt (rfl : kdX 0 = 8)) (eX8 (rfl : kdX 0 = 8)) rfl 0 (by decide) G_fl_X8_12 rfl rfl dX8_multiply_1 ?_
  refine lv_iload_n hx hb dX8_multiply_4 rfl (lv_at hl 1 rfl) ?_
  refine va_callq (va_runV (As := [.int _]) (rest := []) ⟨hx, hb, hml, hown, hts⟩ (c_X6_at l hI (rfl : kdX 1 = 6) h) (cwV 1 hts gv_X8_97 rfl rfl rfl hv_X6_at ⟨Nat.le_of_ble_eq_true rfl, Nat.le_of_ble_eq_true rfl⟩) (preV_X hKX hP hS (kX_lt (rfl : kdX 1 = 6)) (eX6 (rfl : kdX 1 = 6)) rfl) rfl rfl hl.1 rfl (lv_room (Nat.le_of_ble_eq_true rfl)) dX8_multiply_5 ⟨Nat.le_of_ble_eq_true rfl, Nat.le_of_ble_eq_true rfl⟩) hS (fun _ _ h => h) (fun _ h => h) (fun q S1 t H locs ht _ h hB _ _ hS => ?_)
  have hP : VX dC dI cA P S1 H := by rw [← ht]; exact hB
  obtain ⟨o2, rfl, hko, h⟩ := h
  rcases o2 with _ | k3
  · replace h := h.1 rfl
    refine lv_astore_nN (lv' := [(3, .null), (0, .ref (P 0)), (1, .int v1), (2, .int v2)]) hx hb dX8_multiply_8 rfl hl (by decide) rfl (fun ls hl => ?_)
    refine lv_aload_nN hx hb dX8_multiply_9 rfl (lv_at hl 0 rfl) ?_
    refine lv_ifnullN (tgt := 24) hx hb dX8_multiply_10 (by decide) ?_
    refine lv_iconst (v := (-1)) hx hb dX8_multiply_24 (by decide) ?_
    exact g_iret hx hb hr hlocks h hP hS dX8_multiply_25
  · have hk4 := hko k3 rfl
    replace h := h.2 k3 rfl
    refine lv_astore_n (lv' := [(3, .ref (P k3)), (0, .ref (P 0)), (1, .int v1), (2, .int v2)]) hx hb dX8_multiply_8 rfl hl (by decide) rfl (fun ls hl => ?_)
    refine lv_aload_n hx hb dX8_multiply_9 rfl (lv_at hl 0 rfl) ?_
    refine lv_ifnull hx hb dX8_multiply_10 ?_
    refine lv_iload_n hx hb dX8_multiply_13 rfl (lv_at hl 3 rfl) ?_
    refine lv_iconst (v := 0) hx hb dX8_multiply_14 (by decide) ?_
    refine lv_sipush (v := 999) hx hb dX8_multiply_15 (by decide) ?_
    refine va_calli (va_runS (As := [.int _, .int _, .int _]) (rest := []) ⟨hx, hb, hml, hown, hts⟩ (c_X8_isWithin l hI h) (va_cwS 3 hts gs_X8_81 rfl rfl rfl hd_X8_isWithin ⟨Nat.le_of_ble_eq_true rfl, Nat.le_of_ble_eq_true rfl⟩) (preS_X hKX hP hS) rfl rfl hl.1 rfl (lv_room (Nat.le_of_ble_eq_true rfl)) dX8_multiply_18 ⟨Nat.le_of_ble_eq_true rfl, Nat.le_of_ble_eq_true rfl⟩) hS (fun _ _ h => h) (fun _ h => h) (fun r6 S5 t H locs ht _ h hB _ _ hS => ?_)
    have hP : VX dC dI cA P S5 H := by rw [← ht]; exact hB
    refine lv_if_ne (tgt := 26) hx hb dX8_multiply_21 (by decide) (fun c7 => ?_) (fun c7 => ?_)
    · replace h := h.2 c7
      refine lv_aload_n hx hb dX8_multiply_26 rfl (lv_at hl 0 rfl) ?_
      refine g_get (v := .int (S5.1 k3 0)) hx hb hts inG_X1 hown hK hP (kX_lt hk4) (eX1 hk4) rfl 0 (by decide) G_fl_X8_101 rfl rfl dX8_multiply_27 ?_
      refine lv_iload_n hx hb dX8_multiply_30 rfl (lv_at hl 3 rfl) ?_
      refine lv_imul hx hb dX8_multiply_31 ?_
      refine lv_topi (fun x8 ex8 => ?_)
      replace h := h x8 ex8
      refine lv_istore (lv' := [(4, .int x8), (3, .ref (P k3)), (0, .ref (P 0)), (1, .int v1), (2, .int v2)]) hx hb dX8_multiply_32 hl (by decide) rfl (fun ls hl => ?_)
      refine lv_iload hx hb dX8_multiply_34 (lv_at hl 0 rfl) ?_
      refine lv_sipush (v := 9999) hx hb dX8_multiply_36 (by decide) ?_
      refine lv_icmp_le (tgt := 45) hx hb dX8_multiply_39 (by decide) (fun c9 => ?_) (fun c9 => ?_)
      · replace h := h.1 c9
        refine lv_aload_n hx hb dX8_multiply_45 rfl (lv_at hl 1 rfl) ?_
        refine lv_iload hx hb dX8_multiply_46 (lv_at hl 0 rfl) ?_
        refine lv_aload_n hx hb dX8_multiply_48 rfl (lv_at hl 1 rfl) ?_
        refine g_get (v := .int (S5.1 k3 1)) hx hb hts inG_X1 hown hK hP (kX_lt hk4) (eX1 hk4) rfl 1 (by decide) G_fl_X8_105 rfl rfl dX8_multiply_49 ?_
        refine lv_aload_n hx hb dX8_multiply_52 rfl (lv_at hl 1 rfl) ?_
        refine g_get (v := .int (S5.1 k3 2)) hx hb hts inG_X1 hown hK hP (kX_lt hk4) (eX1 hk4) rfl 2 (by decide) G_fl_X8_108 rfl rfl dX8_multiply_53 ?_
        replace h := h _ rfl
        replace h := h _ rfl
        refine va_callv (va_runV (As := [.int _, .int _, .int _]) (rest := []) ⟨hx, hb, hml, hown, hts⟩ (c_X1_become l hI hk4 h) (cwV 3 hts gv_X8_111 rfl rfl rfl hv_X1_become ⟨Nat.le_of_ble_eq_true rfl, Nat.le_of_ble_eq_true rfl⟩) (preV_X hKX hP hS (kX_lt hk4) (eX1 hk4) rfl) rfl rfl hl.1 rfl (lv_room (Nat.le_of_ble_eq_true rfl)) dX8_multiply_56 ⟨Nat.le_of_ble_eq_true rfl, Nat.le_of_ble_eq_true rfl⟩) hS (fun _ _ h => h) (fun _ h => h) (fun S12 t H locs ht _ h hB _ _ hS => ?_)
        have hP : VX dC dI cA P S12 H := by rw [← ht]; exact hB
        refine lv_iload hx hb dX8_multiply_59 (lv_at hl 0 rfl) ?_
        exact g_iret hx hb hr hlocks h hP hS dX8_multiply_61
      · replace h := h.2 c9
        refine lv_bipush (v := (-6)) hx hb dX8_multiply_42 (by decide) ?_
        exact g_iret hx hb hr hlocks h hP hS dX8_multiply_44
    · replace h := h.1 c7
      refine lv_iconst (v := (-1)) hx hb dX8_multiply_24 (by decide) ?_
      exact g_iret hx hb hr hlocks h hP hS dX8_multiply_25
set_option maxRecDepth 100000 in
set_option maxHeartbeats 4000000 in
theorem c_X8_multiply (l : Launch) {dC : Nat → ClassId} {dI : Nat → Nat → Nat} {cA : Nat → ClassId} {adK adV P : Nat → Nat} (hI : PInj 56 P) {v1 : Int32} {v2 : Int32}  {post : Int32 → St → Prop} {S : St} (h : w_X8_multiply v1 v2 post S) : Met l yX8_multiply (wW yX8_multiply cX8_multiply 5 (some .int)) ({ frames := 2, cells := 0, slots := 0, locals := 54 } : Room) (va_Pc [.ref (P 0), .int v1, .int v2] (PreX dC dI cA adK adV P S)) (va_Qi post (fun u t => VX dC dI cA P u t.heap) (PA 56 P)) 0 0 (PA 56 P) := by
  refine Met.ofW (cc := cX8_multiply) (maxL := 5) (ret := (some .int)) (by decide) rfl ?_
  intro p e s m args below meth c s₁ B hml hv
  obtain ⟨rfl, hP, hKX⟩ := hv
  have hts : ∀ w ∈ G, w.before [.ref (P 0), .int v1, .int v2].toArray s = true := fun w hw => atoms_spec (ws := wW yX8_multiply cX8_multiply 5 (some .int)) B.pre w (List.mem_cons_of_mem _ hw)
  have C : CtxX dC dI cA adK adV P p s m [.ref (P 0), .int v1, .int v2].toArray meth c cX8_multiply 5 (some .int) RX8 := ⟨hI, hKX, ⟨B.exec, B.bytes, hml, findClass_of_methodNamed B.named, hts⟩, B.returns, B.notSynchronized⟩
  have hS : va_S (PA 56 P) s.heap s.heap [] := va_S.rf
  have hl := lv_entry ([.ref (P 0), .int v1, .int v2]) (n := 5) (Nat.le_of_ble_eq_true rfl)
  rw [lg_entry_eq]
  generalize (lg_sl ([.ref (P 0), .int v1, .int v2]) ++ List.replicate (5 - (lg_sl ([.ref (P 0), .int v1, .int v2])).length) Slot.unset).toArray = ls at hl ⊢
  have hl : lv_has ls 5 [(0, .ref (P 0)), (1, .int v1), (2, .int v2)] := hl
  exact e_X8_multiply C _ _ _ _ _ _ h  hP hS hl
set_option maxRecDepth 100000 in
set_option maxHeartbeats 4000000 in
theorem e_X8_addInLowestTerms {p : Program} {l : Launch} {e : Env} {s : State} {m : MethodId} {args : Array Value} {below : List Frame} {meth : Method} {c : Code} {dC : Nat → ClassId} {dI : Nat → Nat → Nat} {cA : Nat → ClassId} {adK adV P : Nat → Nat} (C : CtxX dC dI cA adK adV P p s m args meth c cX8_addInLowestTerms 12 (some .int) RX8) {post : Int32 → St → Prop} : ∀ (v1 : Int64) (v3 : Int64) (v5 : Int32) (S : St) (H : Heap) (locs : List Loc) (ls : Array Slot), w_X8_addInLowestTerms v1 v3 v5 post S → VX dC dI cA P S H → va_S (PA 56 P) s.heap H locs → lv_has ls 12 [(0, .ref (P 0)), (1, .long v1), (3, .long v3), (5, .int v5)] → W p l e ({ frames := 3, cells := 0, slots := 0, locals := 77 } : Room) s m args below meth c H locs 0 0 (MQ below (va_Qi post (fun u t => VX dC dI cA P u t.heap) (PA 56 P)) args s 0 0 (PA 56 P)) (F0 m 0 ls []) := by
  have C := C
  obtain ⟨hI, hKX, ⟨hx, hb, hml, hown, hts⟩, hr, hlocks⟩ := id C
  have hK := hKX.1
  intro v1 v3 v5 S H locs ls h hP hS hl
  rw [w_X8_addInLowestTerms] at h
  refine lv_lload_n hx hb dX8_addInLowestTerms_0 rfl (lv_at hl 1 rfl) ?_
  refine lv_lload_n hx hb dX8_addInLowestTerms_1 rfl (lv_at hl 2 rfl) ?_
  refine va_calll (va_runS (As := [.long _, .long _]) (rest := []) ⟨hx, hb, hml, hown, hts⟩ (c_X8_commonDivisor l hI h) (va_cwS 2 hts gs_X8_119 rfl rfl rfl hd_X8_commonDivisor ⟨Nat.le_of_ble_eq_true rfl, Nat.le_of_ble_eq_true rfl⟩) (preS_X hKX hP hS) rfl rfl hl.1 rfl (lv_room (Nat.le_of_ble_eq_true rfl)) dX8_addInLowestTerms_2 ⟨Nat.le_of_ble_eq_true rfl, Nat.le_of_ble_eq_true rfl⟩) hS (fun _ _ h => h) (fun _ h => h) (fun r2 S1 t H locs ht _ h hB _ _ hS => ?_)
  have hP : VX dC dI cA P S1 H := by rw [← ht]; exact hB
  refine lv_lstore (lv' := [(6, .long r2), (0, .ref (P 0)), (1, .long v1), (3, .long v3), (5, .int v5)]) hx hb dX8_addInLowestTerms_5 hl (by decide) rfl (fun ls hl => ?_)
  refine lv_lload_n hx hb dX8_addInLowestTerms_7 rfl (lv_at hl 2 rfl) ?_
  refine lv_lload hx hb dX8_addInLowestTerms_8 (lv_at hl 0 rfl) ?_
  refine va_calll (va_runS (As := [.long _, .long _]) (rest := []) ⟨hx, hb, hml, hown, hts⟩ (c_X8_quotient l hI h) (va_cwS 2 hts gs_X8_123 rfl rfl rfl hd_X8_quotient ⟨Nat.le_of_ble_eq_true rfl, Nat.le_of_ble_eq_true rfl⟩) (preS_X hKX hP hS) rfl rfl hl.1 rfl (lv_room (Nat.le_of_ble_eq_true rfl)) dX8_addInLowestTerms_10 ⟨Nat.le_of_ble_eq_true rfl, Nat.le_of_ble_eq_true rfl⟩) hS (fun _ _ h => h) (fun _ h => h) (fun r4 S3 t H locs ht _ h hB _ _ hS => ?_)
  have hP : VX dC dI cA P S3 H := by rw [← ht]; exact hB
  refine lv_lstore (lv' := [(8, .long r4), (6, .long r2), (0, .ref (P 0)), (1, .long v1), (3, .long v3), (5, .int v5)]) hx hb dX8_addInLowestTerms_13 hl (by decide) rfl (fun ls hl => ?_)
  refine lv_lload_n hx hb dX8_addInLowestTerms_15 rfl (lv_at hl 4 rfl) ?_
  refine lv_lload hx hb dX8_addInLowestTerms_16 (lv_at hl 1 rfl) ?_
  refine va_calll (va_runS (As := [.long _, .long _]) (rest := []) ⟨hx, hb, hml, hown, hts⟩ (c_X8_quotient l hI h) (va_cwS 2 hts gs_X8_123 rfl rfl rfl hd_X8_quotient ⟨Nat.le_of_ble_eq_true rfl, Nat.le_of_ble_eq_true rfl⟩) (preS_X hKX hP hS) rfl rfl hl.1 rfl (lv_room (Nat.le_of_ble_eq_true rfl)) dX8_addInLowestTerms_18 ⟨Nat.le_of_ble_eq_true rfl, Nat.le_of_ble_eq_true rfl⟩) hS (fun _ _ h => h) (fun _ h => h) (fun r6 S5 t H locs ht _ h hB _ _ hS => ?_)
  have hP : VX dC dI cA P S5 H := by rw [← ht]; exact hB
  refine lv_lstore (lv' := [(10, .long r6), (8, .long r4), (6, .long r2), (0, .ref (P 0)), (1, .long v1), (3, .long v3), (5, .int v5)]) hx hb dX8_addInLowestTerms_21 hl (by decide) rfl (fun ls hl => ?_)
  refine lv_lload hx hb dX8_addInLowestTerms_23 (lv_at hl 1 rfl) ?_
  refine lv_ldc2 (v := 9999) hx hb hown (hts _ G_co_X8_291) dX8_addInLowestTerms_25 ?_
  refine W.lcmp hx hb dX8_addInLowestTerms_28 ?_
  refine lv_if_gt (tgt := 41) hx hb dX8_addInLowestTerms_29 (by decide) (fun c7 => ?_) (fun c7 => ?_)
  · replace h := h.1 ((lg_cmp_gt _ _).mp c7)
    refine lv_bipush (v := (-6)) hx hb dX8_addInLowestTerms_41 (by decide) ?_
    exact g_iret hx hb hr hlocks h hP hS dX8_addInLowestTerms_43
  · replace h := h.2 (fun z => c7 ((lg_cmp_gt _ _).mpr z))
    refine lv_lload hx hb dX8_addInLowestTerms_32 (lv_at hl 0 rfl) ?_
    refine lv_ldc2 (v := 999) hx hb hown (hts _ G_co_X8_293) dX8_addInLowestTerms_34 ?_
    refine W.lcmp hx hb dX8_addInLowestTerms_37 ?_
    refine lv_if_le (tgt := 44) hx hb dX8_addInLowestTerms_38 (by decide) (fun c8 => ?_) (fun c8 => ?_)
    · replace h := h.1 ((lg_cmp_le _ _).mp c8)
      refine lv_aload_n hx hb dX8_addInLowestTerms_44 rfl (lv_at hl 3 rfl) ?_
      refine g_get (v := .ref (P 1)) hx hb hts inG_X8 hown hK hP (kX_lt (rfl : kdX 0 = 8)) (eX8 (rfl : kdX 0 = 8)) rfl 0 (by decide) G_fl_X8_12 rfl rfl dX8_addInLowestTerms_45 ?_
      refine lv_lload hx hb dX8_addInLowestTerms_48 (lv_at hl 1 rfl) ?_
      refine lv_l2i hx hb dX8_addInLowestTerms_50 rfl ?_
      refine lv_lload hx hb dX8_addInLowestTerms_51 (lv_at hl 0 rfl) ?_
      refine lv_l2i hx hb dX8_addInLowestTerms_53 rfl ?_
      refine lv_iload hx hb dX8_addInLowestTerms_54 (lv_at hl 6 rfl) ?_
      replace h := h _ rfl
      replace h := h _ rfl
      refine va_calli (va_runV (As := [.int _, .int _, .int _]) (rest := []) ⟨hx, hb, hml, hown, hts⟩ (c_X6_add l hI (rfl : kdX 1 = 6) h) (cwV 3 hts gv_X8_89 rfl rfl rfl hv_X6_add ⟨Nat.le_of_ble_eq_true rfl, Nat.le_of_ble_eq_true rfl⟩) (preV_X hKX hP hS (kX_lt (rfl : kdX 1 = 6)) (eX6 (rfl : kdX 1 = 6)) rfl) rfl rfl hl.1 rfl (lv_room (Nat.le_of_ble_eq_true rfl)) dX8_addInLowestTerms_56 ⟨Nat.le_of_ble_eq_true rfl, Nat.le_of_ble_eq_true rfl⟩) hS (fun _ _ h => h) (fun _ h => h) (fun r12 S11 t H locs ht _ h hB _ _ hS => ?_)
      have hP : VX dC dI cA P S11 H := by rw [← ht]; exact hB
      exact g_iret hx hb hr hlocks h hP hS dX8_addInLowestTerms_59
    · replace h := h.2 (fun z => c8 ((lg_cmp_le _ _).mpr z))
      refine lv_bipush (v := (-6)) hx hb dX8_addInLowestTerms_41 (by decide) ?_
      exact g_iret hx hb hr hlocks h hP hS dX8_addInLowestTerms_43
set_option maxRecDepth 100000 in
set_option maxHeartbeats 4000000 in
theorem c_X8_addInLowestTerms (l : Launch) {dC : Nat → ClassId} {dI : Nat → Nat → Nat} {cA : Nat → ClassId} {adK adV P : Nat → Nat} (hI : PInj 56 P) {v1 : Int64} {v3 : Int64} {v5 : Int32}  {post : Int32 → St → Prop} {S : St} (h : w_X8_addInLowestTerms v1 v3 v5 post S) : Met l yX8_addInLowestTerms (wW yX8_addInLowestTerms cX8_addInLowestTerms 12 (some .int)) ({ frames := 3, cells := 0, slots := 0, locals := 77 } : Room) (va_Pc [.ref (P 0), .long v1, .long v3, .int v5] (PreX dC dI cA adK adV P S)) (va_Qi post (fun u t => VX dC dI cA P u t.heap) (PA 56 P)) 0 0 (PA 56 P) := by
  refine Met.ofW (cc := cX8_addInLowestTerms) (maxL := 12) (ret := (some .int)) (by decide) rfl ?_
  intro p e s m args below meth c s₁ B hml hv
  obtain ⟨rfl, hP, hKX⟩ := hv
  have hts : ∀ w ∈ G, w.before [.ref (P 0), .long v1, .long v3, .int v5].toArray s = true := fun w hw => atoms_spec (ws := wW yX8_addInLowestTerms cX8_addInLowestTerms 12 (some .int)) B.pre w (List.mem_cons_of_mem _ hw)
  have C : CtxX dC dI cA adK adV P p s m [.ref (P 0), .long v1, .long v3, .int v5].toArray meth c cX8_addInLowestTerms 12 (some .int) RX8 := ⟨hI, hKX, ⟨B.exec, B.bytes, hml, findClass_of_methodNamed B.named, hts⟩, B.returns, B.notSynchronized⟩
  have hS : va_S (PA 56 P) s.heap s.heap [] := va_S.rf
  have hl := lv_entry ([.ref (P 0), .long v1, .long v3, .int v5]) (n := 12) (Nat.le_of_ble_eq_true rfl)
  rw [lg_entry_eq]
  generalize (lg_sl ([.ref (P 0), .long v1, .long v3, .int v5]) ++ List.replicate (12 - (lg_sl ([.ref (P 0), .long v1, .long v3, .int v5])).length) Slot.unset).toArray = ls at hl ⊢
  have hl : lv_has ls 12 [(0, .ref (P 0)), (1, .long v1), (3, .long v3), (5, .int v5)] := hl
  exact e_X8_addInLowestTerms C _ _ _ _ _ _ _ h  hP hS hl
set_option maxRecDepth 100000 in
set_option maxHeartbeats 4000000 in
theorem e_X8_sum {p : Program} {l : Launch} {e : Env} {s : State} {m : MethodId} {args : Array Value} {below : List Frame} {meth : Method} {c : Code} {dC : Nat → ClassId} {dI : Nat → Nat → Nat} {cA : Nat → ClassId} {adK adV P : Nat → Nat} (C : CtxX dC dI cA adK adV P p s m args meth c cX8_sum 6 (some .int) RX8) {post : Int32 → St → Prop} : ∀ (v1 : Int32) (v2 : Int32) (S : St) (H : Heap) (locs : List Loc) (ls : Array Slot), w_X8_sum v1 v2 post S → VX dC dI cA P S H → va_S (PA 56 P) s.heap H locs → lv_has ls 6 [(0, .ref (P 0)), (1, .int v1), (2, .int v2)] → W p l e ({ frames := 4, cells := 0, slots := 0, locals := 108 } : Room) s m args below meth c H locs 0 0 (MQ below (va_Qi post (fun u t => VX dC dI cA P u t.heap) (PA 56 P)) args s 0 0 (PA 56 P)) (F0 m 0 ls []) := by
  have C := C
  obtain ⟨hI, hKX, ⟨hx, hb, hml, hown, hts⟩, hr, hlocks⟩ := id C
  have hK := hKX.1
  intro v1 v2 S H locs ls h hP hS hl
  rw [w_X8_sum] at h
  refine lv_aload_n hx hb dX8_sum_0 rfl (lv_at hl 0 rfl) ?_
  refine g_get (v := .ref (P 1)) hx hb hts inG_X8 hown hK hP (kX_lt (rfl : kdX 0 = 8)) (eX8 (rfl : kdX 0 = 8)) rfl 0 (by decide) G_fl_X8_12 rfl rfl dX8_sum_1 ?_
  refine lv_iload_n hx hb dX8_sum_4 rfl (lv_at hl 1 rfl) ?_
  refine va_callq (va_runV (As := [.int _]) (rest := []) ⟨hx, hb, hml, hown, hts⟩ (c_X6_at l hI (rfl : kdX 1 = 6) h) (cwV 1 hts gv_X8_97 rfl rfl rfl hv_X6_at ⟨Nat.le_of_ble_eq_true rfl, Nat.le_of_ble_eq_true rfl⟩) (preV_X hKX hP hS (kX_lt (rfl : kdX 1 = 6)) (eX6 (rfl : kdX 1 = 6)) rfl) rfl rfl hl.1 rfl (lv_room (Nat.le_of_ble_eq_true rfl)) dX8_sum_5 ⟨Nat.le_of_ble_eq_true rfl, Nat.le_of_ble_eq_true rfl⟩) hS (fun _ _ h => h) (fun _ h => h) (fun q S1 t H locs ht _ h hB _ _ hS => ?_)
  have hP : VX dC dI cA P S1 H := by rw [← ht]; exact hB
  obtain ⟨o2, rfl, hko, h⟩ := h
  rcases o2 with _ | k3
  · replace h := h.1 rfl
    refine lv_astore_nN (lv' := [(3, .null), (0, .ref (P 0)), (1, .int v1), (2, .int v2)]) hx hb dX8_sum_8 rfl hl (by decide) rfl (fun ls hl => ?_)
    refine lv_aload_n hx hb dX8_sum_9 rfl (lv_at hl 1 rfl) ?_
    refine g_get (v := .ref (P 1)) hx hb hts inG_X8 hown hK hP (kX_lt (rfl : kdX 0 = 8)) (eX8 (rfl : kdX 0 = 8)) rfl 0 (by decide) G_fl_X8_12 rfl rfl dX8_sum_10 ?_
    refine lv_iload_n hx hb dX8_sum_13 rfl (lv_at hl 3 rfl) ?_
    refine va_callq (va_runV (As := [.int _]) (rest := []) ⟨hx, hb, hml, hown, hts⟩ (c_X6_at l hI (rfl : kdX 1 = 6) h) (cwV 1 hts gv_X8_97 rfl rfl rfl hv_X6_at ⟨Nat.le_of_ble_eq_true rfl, Nat.le_of_ble_eq_true rfl⟩) (preV_X hKX hP hS (kX_lt (rfl : kdX 1 = 6)) (eX6 (rfl : kdX 1 = 6)) rfl) rfl rfl hl.1 rfl (lv_room (Nat.le_of_ble_eq_true rfl)) dX8_sum_14 ⟨Nat.le_of_ble_eq_true rfl, Nat.le_of_ble_eq_true rfl⟩) hS (fun _ _ h => h) (fun _ h => h) (fun q S5 t H locs ht _ h hB _ _ hS => ?_)
    have hP : VX dC dI cA P S5 H := by rw [← ht]; exact hB
    obtain ⟨o6, rfl, hko, h⟩ := h
    rcases o6 with _ | k7
    · replace h := h.1 rfl
      refine lv_astoreN (lv' := [(4, .null), (3, .null), (0, .ref (P 0)), (1, .int v1), (2, .int v2)]) hx hb dX8_sum_17 hl (by decide) rfl (fun ls hl => ?_)
      refine lv_aload_nN hx hb dX8_sum_19 rfl (lv_at hl 1 rfl) ?_
      refine lv_ifnullN (tgt := 28) hx hb dX8_sum_20 (by decide) ?_
      refine lv_iconst (v := (-1)) hx hb dX8_sum_28 (by decide) ?_
      exact g_iret hx hb hr hlocks h hP hS dX8_sum_29
    · have hk8 := hko k7 rfl
      replace h := h.2 k7 rfl
      refine lv_astore (lv' := [(4, .ref (P k7)), (3, .null), (0, .ref (P 0)), (1, .int v1), (2, .int v2)]) hx hb dX8_sum_17 hl (by decide) rfl (fun ls hl => ?_)
      refine lv_aload_nN hx hb dX8_sum_19 rfl (lv_at hl 1 rfl) ?_
      refine lv_ifnullN (tgt := 28) hx hb dX8_sum_20 (by decide) ?_
      refine lv_iconst (v := (-1)) hx hb dX8_sum_28 (by decide) ?_
      exact g_iret hx hb hr hlocks h hP hS dX8_sum_29
  · have hk4 := hko k3 rfl
    replace h := h.2 k3 rfl
    refine lv_astore_n (lv' := [(3, .ref (P k3)), (0, .ref (P 0)), (1, .int v1), (2, .int v2)]) hx hb dX8_sum_8 rfl hl (by decide) rfl (fun ls hl => ?_)
    refine lv_aload_n hx hb dX8_sum_9 rfl (lv_at hl 1 rfl) ?_
    refine g_get (v := .ref (P 1)) hx hb hts inG_X8 hown hK hP (kX_lt (rfl : kdX 0 = 8)) (eX8 (rfl : kdX 0 = 8)) rfl 0 (by decide) G_fl_X8_12 rfl rfl dX8_sum_10 ?_
    refine lv_iload_n hx hb dX8_sum_13 rfl (lv_at hl 3 rfl) ?_
    refine va_callq (va_runV (As := [.int _]) (rest := []) ⟨hx, hb, hml, hown, hts⟩ (c_X6_at l hI (rfl : kdX 1 = 6) h) (cwV 1 hts gv_X8_97 rfl rfl rfl hv_X6_at ⟨Nat.le_of_ble_eq_true rfl, Nat.le_of_ble_eq_true rfl⟩) (preV_X hKX hP hS (kX_lt (rfl : kdX 1 = 6)) (eX6 (rfl : kdX 1 = 6)) rfl) rfl rfl hl.1 rfl (lv_room (Nat.le_of_ble_eq_true rfl)) dX8_sum_14 ⟨Nat.le_of_ble_eq_true rfl, Nat.le_of_ble_eq_true rfl⟩) hS (fun _ _ h => h) (fun _ h => h) (fun q S9 t H locs ht _ h hB _ _ hS => ?_)
    have hP : VX dC dI cA P S9 H := by rw [← ht]; exact hB
    obtain ⟨o10, rfl, hko, h⟩ := h
    rcases o10 with _ | k11
    · replace h := h.1 rfl
      refine lv_astoreN (lv' := [(4, .null), (3, .ref (P k3)), (0, .ref (P 0)), (1, .int v1), (2, .int v2)]) hx hb dX8_sum_17 hl (by decide) rfl (fun ls hl => ?_)
      refine lv_aload_n hx hb dX8_sum_19 rfl (lv_at hl 1 rfl) ?_
      refine lv_ifnull hx hb dX8_sum_20 ?_
      refine lv_aloadN hx hb dX8_sum_23 (lv_at hl 0 rfl) ?_
      refine lv_ifnonnullN hx hb dX8_sum_25 ?_
      refine lv_iconst (v := (-1)) hx hb dX8_sum_28 (by decide) ?_
      exact g_iret hx hb hr hlocks h hP hS dX8_sum_29
    · have hk12 := hko k11 rfl
      replace h := h.2 k11 rfl
      refine lv_astore (lv' := [(4, .ref (P k11)), (3, .ref (P k3)), (0, .ref (P 0)), (1, .int v1), (2, .int v2)]) hx hb dX8_sum_17 hl (by decide) rfl (fun ls hl => ?_)
      refine lv_aload_n hx hb dX8_sum_19 rfl (lv_at hl 1 rfl) ?_
      refine lv_ifnull hx hb dX8_sum_20 ?_
      refine lv_aload hx hb dX8_sum_23 (lv_at hl 0 rfl) ?_
      refine lv_ifnonnull (tgt := 30) hx hb dX8_sum_25 (by decide) ?_
      refine lv_aload_n hx hb dX8_sum_30 rfl (lv_at hl 1 rfl) ?_
      refine g_get (v := .int (S9.1 k3 2)) hx hb hts inG_X1 hown hK hP (kX_lt hk4) (eX1 hk4) rfl 2 (by decide) G_fl_X8_108 rfl rfl dX8_sum_31 ?_
      refine lv_aload hx hb dX8_sum_34 (lv_at hl 0 rfl) ?_
      refine g_get (v := .int (S9.1 k11 2)) hx hb hts inG_X1 hown hK hP (kX_lt hk12) (eX1 hk12) rfl 2 (by decide) G_fl_X8_108 rfl rfl dX8_sum_36 ?_
      refine lv_icmp_eq (tgt := 45) hx hb dX8_sum_39 (by decide) (fun c13 => ?_) (fun c13 => ?_)
      · replace h := h.1 c13
        refine lv_aload_n hx hb dX8_sum_45 rfl (lv_at hl 1 rfl) ?_
        refine g_get (v := .int (S9.1 k3 0)) hx hb hts inG_X1 hown hK hP (kX_lt hk4) (eX1 hk4) rfl 0 (by decide) G_fl_X8_101 rfl rfl dX8_sum_46 ?_
        refine lv_aload hx hb dX8_sum_49 (lv_at hl 0 rfl) ?_
        refine g_get (v := .int (S9.1 k11 1)) hx hb hts inG_X1 hown hK hP (kX_lt hk12) (eX1 hk12) rfl 1 (by decide) G_fl_X8_105 rfl rfl dX8_sum_51 ?_
        refine lv_imul hx hb dX8_sum_54 ?_
        refine lv_aload hx hb dX8_sum_55 (lv_at hl 0 rfl) ?_
        refine g_get (v := .int (S9.1 k11 0)) hx hb hts inG_X1 hown hK hP (kX_lt hk12) (eX1 hk12) rfl 0 (by decide) G_fl_X8_101 rfl rfl dX8_sum_57 ?_
        refine lv_aload_n hx hb dX8_sum_60 rfl (lv_at hl 1 rfl) ?_
        refine g_get (v := .int (S9.1 k3 1)) hx hb hts inG_X1 hown hK hP (kX_lt hk4) (eX1 hk4) rfl 1 (by decide) G_fl_X8_105 rfl rfl dX8_sum_61 ?_
        refine lv_imul hx hb dX8_sum_64 ?_
        refine lv_iadd hx hb dX8_sum_65 ?_
        refine lv_topi (fun x14 ex14 => ?_)
        replace h := h x14 ex14
        refine lv_istore (lv' := [(5, .int x14), (4, .ref (P k11)), (3, .ref (P k3)), (0, .ref (P 0)), (1, .int v1), (2, .int v2)]) hx hb dX8_sum_66 hl (by decide) rfl (fun ls hl => ?_)
        refine lv_aload_n hx hb dX8_sum_68 rfl (lv_at hl 3 rfl) ?_
        refine lv_iload hx hb dX8_sum_69 (lv_at hl 0 rfl) ?_
        refine lv_i2l hx hb dX8_sum_71 rfl ?_
        refine lv_aload_n hx hb dX8_sum_72 rfl (lv_at hl 2 rfl) ?_
        refine g_get (v := .int (S9.1 k3 1)) hx hb hts inG_X1 hown hK hP (kX_lt hk4) (eX1 hk4) rfl 1 (by decide) G_fl_X8_105 rfl rfl dX8_sum_73 ?_
        refine lv_aload hx hb dX8_sum_76 (lv_at hl 1 rfl) ?_
        refine g_get (v := .int (S9.1 k11 1)) hx hb hts inG_X1 hown hK hP (kX_lt hk12) (eX1 hk12) rfl 1 (by decide) G_fl_X8_105 rfl rfl dX8_sum_78 ?_
        refine lv_imul hx hb dX8_sum_81 ?_
        refine lv_i2l hx hb dX8_sum_82 rfl ?_
        refine lv_aload_n hx hb dX8_sum_83 rfl (lv_at hl 2 rfl) ?_
        refine g_get (v := .int (S9.1 k3 2)) hx hb hts inG_X1 hown hK hP (kX_lt hk4) (eX1 hk4) rfl 2 (by decide) G_fl_X8_108 rfl rfl dX8_sum_84 ?_
        replace h := h _ rfl
        replace h := h _ rfl
        replace h := h _ rfl
        refine va_calli (va_runV (As := [.long _, .long _, .int _]) (rest := []) ⟨hx, hb, hml, hown, hts⟩ (c_X8_addInLowestTerms l hI h) (cwV 3 hts gv_X8_115 rfl rfl rfl hv_X8_addInLowestTerms ⟨Nat.le_of_ble_eq_true rfl, Nat.le_of_ble_eq_true rfl⟩) (preV_X hKX hP hS (kX_lt (rfl : kdX 0 = 8)) (eX8 (rfl : kdX 0 = 8)) rfl) rfl rfl hl.1 rfl (lv_room (Nat.le_of_ble_eq_true rfl)) dX8_sum_87 ⟨Nat.le_of_ble_eq_true rfl, Nat.le_of_ble_eq_true rfl⟩) hS (fun _ _ h => h) (fun _ h => h) (fun r19 S18 t H locs ht _ h hB _ _ hS => ?_)
        have hP : VX dC dI cA P S18 H := by rw [← ht]; exact hB
        exact g_iret hx hb hr hlocks h hP hS dX8_sum_90
      · replace h := h.2 c13
        refine lv_bipush (v := (-5)) hx hb dX8_sum_42 (by decide) ?_
        exact g_iret hx hb hr hlocks h hP hS dX8_sum_44
set_option maxRecDepth 100000 in
set_option maxHeartbeats 4000000 in
theorem c_X8_sum (l : Launch) {dC : Nat → ClassId} {dI : Nat → Nat → Nat} {cA : Nat → ClassId} {adK adV P : Nat → Nat} (hI : PInj 56 P) {v1 : Int32} {v2 : Int32}  {post : Int32 → St → Prop} {S : St} (h : w_X8_sum v1 v2 post S) : Met l yX8_sum (wW yX8_sum cX8_sum 6 (some .int)) ({ frames := 4, cells := 0, slots := 0, locals := 108 } : Room) (va_Pc [.ref (P 0), .int v1, .int v2] (PreX dC dI cA adK adV P S)) (va_Qi post (fun u t => VX dC dI cA P u t.heap) (PA 56 P)) 0 0 (PA 56 P) := by
  refine Met.ofW (cc := cX8_sum) (maxL := 6) (ret := (some .int)) (by decide) rfl ?_
  intro p e s m args below meth c s₁ B hml hv
  obtain ⟨rfl, hP, hKX⟩ := hv
  have hts : ∀ w ∈ G, w.before [.ref (P 0), .int v1, .int v2].toArray s = true := fun w hw => atoms_spec (ws := wW yX8_sum cX8_sum 6 (some .int)) B.pre w (List.mem_cons_of_mem _ hw)
  have C : CtxX dC dI cA adK adV P p s m [.ref (P 0), .int v1, .int v2].toArray meth c cX8_sum 6 (some .int) RX8 := ⟨hI, hKX, ⟨B.exec, B.bytes, hml, findClass_of_methodNamed B.named, hts⟩, B.returns, B.notSynchronized⟩
  have hS : va_S (PA 56 P) s.heap s.heap [] := va_S.rf
  have hl := lv_entry ([.ref (P 0), .int v1, .int v2]) (n := 6) (Nat.le_of_ble_eq_true rfl)
  rw [lg_entry_eq]
  generalize (lg_sl ([.ref (P 0), .int v1, .int v2]) ++ List.replicate (6 - (lg_sl ([.ref (P 0), .int v1, .int v2])).length) Slot.unset).toArray = ls at hl ⊢
  have hl : lv_has ls 6 [(0, .ref (P 0)), (1, .int v1), (2, .int v2)] := hl
  exact e_X8_sum C _ _ _ _ _ _ h  hP hS hl
set_option maxRecDepth 100000 in
set_option maxHeartbeats 4000000 in
theorem e_X8_lowest {p : Program} {l : Launch} {e : Env} {s : State} {m : MethodId} {args : Array Value} {below : List Frame} {meth : Method} {c : Code} {dC : Nat → ClassId} {dI : Nat → Nat → Nat} {cA : Nat → ClassId} {adK adV P : Nat → Nat} (C : CtxX dC dI cA adK adV P p s m args meth c cX8_lowest 5 (some .int) RX8) {post : Int32 → St → Prop} : ∀ (v1 : Int32) (S : St) (H : Heap) (locs : List Loc) (ls : Array Slot), w_X8_lowest v1 post S → VX dC dI cA P S H → va_S (PA 56 P) s.heap H locs → lv_has ls 5 [(0, .ref (P 0)), (1, .int v1)] → W p l e ({ frames := 2, cells := 0, slots := 0, locals := 54 } : Room) s m args below meth c H locs 0 0 (MQ below (va_Qi post (fun u t => VX dC dI cA P u t.heap) (PA 56 P)) args s 0 0 (PA 56 P)) (F0 m 0 ls []) := by
  have C := C
  obtain ⟨hI, hKX, ⟨hx, hb, hml, hown, hts⟩, hr, hlocks⟩ := id C
  have hK := hKX.1
  intro v1 S H locs ls h hP hS hl
  rw [w_X8_lowest] at h
  refine lv_aload_n hx hb dX8_lowest_0 rfl (lv_at hl 0 rfl) ?_
  refine g_get (v := .ref (P 1)) hx hb hts inG_X8 hown hK hP (kX_lt (rfl : kdX 0 = 8)) (eX8 (rfl : kdX 0 = 8)) rfl 0 (by decide) G_fl_X8_12 rfl rfl dX8_lowest_1 ?_
  refine lv_iload_n hx hb dX8_lowest_4 rfl (lv_at hl 1 rfl) ?_
  refine va_callq (va_runV (As := [.int _]) (rest := []) ⟨hx, hb, hml, hown, hts⟩ (c_X6_at l hI (rfl : kdX 1 = 6) h) (cwV 1 hts gv_X8_97 rfl rfl rfl hv_X6_at ⟨Nat.le_of_ble_eq_true rfl, Nat.le_of_ble_eq_true rfl⟩) (preV_X hKX hP hS (kX_lt (rfl : kdX 1 = 6)) (eX6 (rfl : kdX 1 = 6)) rfl) rfl rfl hl.1 rfl (lv_room (Nat.le_of_ble_eq_true rfl)) dX8_lowest_5 ⟨Nat.le_of_ble_eq_true rfl, Nat.le_of_ble_eq_true rfl⟩) hS (fun _ _ h => h) (fun _ h => h) (fun q S1 t H locs ht _ h hB _ _ hS => ?_)
  have hP : VX dC dI cA P S1 H := by rw [← ht]; exact hB
  obtain ⟨o2, rfl, hko, h⟩ := h
  rcases o2 with _ | k3
  · replace h := h.1 rfl
    refine lv_astore_nN (lv' := [(2, .null), (0, .ref (P 0)), (1, .int v1)]) hx hb dX8_lowest_8 rfl hl (by decide) rfl (fun ls hl => ?_)
    refine lv_aload_nN hx hb dX8_lowest_9 rfl (lv_at hl 0 rfl) ?_
    refine lv_ifnonnullN hx hb dX8_lowest_10 ?_
    refine lv_iconst (v := (-1)) hx hb dX8_lowest_13 (by decide) ?_
    exact g_iret hx hb hr hlocks h hP hS dX8_lowest_14
  · have hk4 := hko k3 rfl
    replace h := h.2 k3 rfl
    refine lv_astore_n (lv' := [(2, .ref (P k3)), (0, .ref (P 0)), (1, .int v1)]) hx hb dX8_lowest_8 rfl hl (by decide) rfl (fun ls hl => ?_)
    refine lv_aload_n hx hb dX8_lowest_9 rfl (lv_at hl 0 rfl) ?_
    refine lv_ifnonnull (tgt := 15) hx hb dX8_lowest_10 (by decide) ?_
    refine lv_aload_n hx hb dX8_lowest_15 rfl (lv_at hl 0 rfl) ?_
    refine g_get (v := .int (S1.1 k3 0)) hx hb hts inG_X1 hown hK hP (kX_lt hk4) (eX1 hk4) rfl 0 (by decide) G_fl_X8_101 rfl rfl dX8_lowest_16 ?_
    refine lv_i2l hx hb dX8_lowest_19 rfl ?_
    refine lv_aload_n hx hb dX8_lowest_20 rfl (lv_at hl 0 rfl) ?_
    refine g_get (v := .int (S1.1 k3 1)) hx hb hts inG_X1 hown hK hP (kX_lt hk4) (eX1 hk4) rfl 1 (by decide) G_fl_X8_105 rfl rfl dX8_lowest_21 ?_
    refine lv_i2l hx hb dX8_lowest_24 rfl ?_
    replace h := h _ rfl
    replace h := h _ rfl
    refine va_calll (va_runS (As := [.long _, .long _]) (rest := []) ⟨hx, hb, hml, hown, hts⟩ (c_X8_commonDivisor l hI h) (va_cwS 2 hts gs_X8_119 rfl rfl rfl hd_X8_commonDivisor ⟨Nat.le_of_ble_eq_true rfl, Nat.le_of_ble_eq_true rfl⟩) (preS_X hKX hP hS) rfl rfl hl.1 rfl (lv_room (Nat.le_of_ble_eq_true rfl)) dX8_lowest_25 ⟨Nat.le_of_ble_eq_true rfl, Nat.le_of_ble_eq_true rfl⟩) hS (fun _ _ h => h) (fun _ h => h) (fun r8 S7 t H locs ht _ h hB _ _ hS => ?_)
    have hP : VX dC dI cA P S7 H := by rw [← ht]; exact hB
    refine lv_lstore_n (lv' := [(3, .long r8), (2, .ref (P k3)), (0, .ref (P 0)), (1, .int v1)]) hx hb dX8_lowest_28 rfl hl (by decide) rfl (fun ls hl => ?_)
    refine lv_aload_n hx hb dX8_lowest_29 rfl (lv_at hl 1 rfl) ?_
    refine lv_aload_n hx hb dX8_lowest_30 rfl (lv_at hl 1 rfl) ?_
    refine g_get (v := .int (S7.1 k3 0)) hx hb hts inG_X1 hown hK hP (kX_lt hk4) (eX1 hk4) rfl 0 (by decide) G_fl_X8_101 rfl rfl dX8_lowest_31 ?_
    refine lv_i2l hx hb dX8_lowest_34 rfl ?_
    refine lv_lload_n hx hb dX8_lowest_35 rfl (lv_at hl 0 rfl) ?_
    replace h := h _ rfl
    refine va_calll (va_runS (As := [.long _, .long _]) (rest := [.ref _]) ⟨hx, hb, hml, hown, hts⟩ (c_X8_quotient l hI h) (va_cwS 2 hts gs_X8_123 rfl rfl rfl hd_X8_quotient ⟨Nat.le_of_ble_eq_true rfl, Nat.le_of_ble_eq_true rfl⟩) (preS_X hKX hP hS) rfl rfl hl.1 rfl (lv_room (Nat.le_of_ble_eq_true rfl)) dX8_lowest_36 ⟨Nat.le_of_ble_eq_true rfl, Nat.le_of_ble_eq_true rfl⟩) hS (fun _ _ h => h) (fun _ h => h) (fun r11 S10 t H locs ht _ h hB _ _ hS => ?_)
    have hP : VX dC dI cA P S10 H := by rw [← ht]; exact hB
    refine lv_l2i hx hb dX8_lowest_39 rfl ?_
    refine lv_aload_n hx hb dX8_lowest_40 rfl (lv_at hl 1 rfl) ?_
    refine g_get (v := .int (S10.1 k3 1)) hx hb hts inG_X1 hown hK hP (kX_lt hk4) (eX1 hk4) rfl 1 (by decide) G_fl_X8_105 rfl rfl dX8_lowest_41 ?_
    refine lv_i2l hx hb dX8_lowest_44 rfl ?_
    refine lv_lload_n hx hb dX8_lowest_45 rfl (lv_at hl 0 rfl) ?_
    replace h := h _ rfl
    refine va_calll (va_runS (As := [.long _, .long _]) (rest := [.int _, .ref _]) ⟨hx, hb, hml, hown, hts⟩ (c_X8_quotient l hI h) (va_cwS 2 hts gs_X8_123 rfl rfl rfl hd_X8_quotient ⟨Nat.le_of_ble_eq_true rfl, Nat.le_of_ble_eq_true rfl⟩) (preS_X hKX hP hS) rfl rfl hl.1 rfl (lv_room (Nat.le_of_ble_eq_true rfl)) dX8_lowest_46 ⟨Nat.le_of_ble_eq_true rfl, Nat.le_of_ble_eq_true rfl⟩) hS (fun _ _ h => h) (fun _ h => h) (fun r14 S13 t H locs ht _ h hB _ _ hS => ?_)
    have hP : VX dC dI cA P S13 H := by rw [← ht]; exact hB
    refine lv_l2i hx hb dX8_lowest_49 rfl ?_
    refine lv_aload_n hx hb dX8_lowest_50 rfl (lv_at hl 1 rfl) ?_
    refine g_get (v := .int (S13.1 k3 2)) hx hb hts inG_X1 hown hK hP (kX_lt hk4) (eX1 hk4) rfl 2 (by decide) G_fl_X8_108 rfl rfl dX8_lowest_51 ?_
    replace h := h _ rfl
    replace h := h _ rfl
    replace h := h _ rfl
    refine va_callv (va_runV (As := [.int _, .int _, .int _]) (rest := []) ⟨hx, hb, hml, hown, hts⟩ (c_X1_become l hI hk4 h) (cwV 3 hts gv_X8_111 rfl rfl rfl hv_X1_become ⟨Nat.le_of_ble_eq_true rfl, Nat.le_of_ble_eq_true rfl⟩) (preV_X hKX hP hS (kX_lt hk4) (eX1 hk4) rfl) rfl rfl hl.1 rfl (lv_room (Nat.le_of_ble_eq_true rfl)) dX8_lowest_54 ⟨Nat.le_of_ble_eq_true rfl, Nat.le_of_ble_eq_true rfl⟩) hS (fun _ _ h => h) (fun _ h => h) (fun S18 t H locs ht _ h hB _ _ hS => ?_)
    have hP : VX dC dI cA P S18 H := by rw [← ht]; exact hB
    refine lv_aload_n hx hb dX8_lowest_57 rfl (lv_at hl 1 rfl) ?_
    refine g_get (v := .int (S18.1 k3 1)) hx hb hts inG_X1 hown hK hP (kX_lt hk4) (eX1 hk4) rfl 1 (by decide) G_fl_X8_105 rfl rfl dX8_lowest_58 ?_
    exact g_iret hx hb hr hlocks h hP hS dX8_lowest_61
set_option maxRecDepth 100000 in
set_option maxHeartbeats 4000000 in
theorem c_X8_lowest (l : Launch) {dC : Nat → ClassId} {dI : Nat → Nat → Nat} {cA : Nat → ClassId} {adK adV P : Nat → Nat} (hI : PInj 56 P) {v1 : Int32}  {post : Int32 → St → Prop} {S : St} (h : w_X8_lowest v1 post S) : Met l yX8_lowest (wW yX8_lowest cX8_lowest 5 (some .int)) ({ frames := 2, cells := 0, slots := 0, locals := 54 } : Room) (va_Pc [.ref (P 0), .int v1] (PreX dC dI cA adK adV P S)) (va_Qi post (fun u t => VX dC dI cA P u t.heap) (PA 56 P)) 0 0 (PA 56 P) := by
  refine Met.ofW (cc := cX8_lowest) (maxL := 5) (ret := (some .int)) (by decide) rfl ?_
  intro p e s m args below meth c s₁ B hml hv
  obtain ⟨rfl, hP, hKX⟩ := hv
  have hts : ∀ w ∈ G, w.before [.ref (P 0), .int v1].toArray s = true := fun w hw => atoms_spec (ws := wW yX8_lowest cX8_lowest 5 (some .int)) B.pre w (List.mem_cons_of_mem _ hw)
  have C : CtxX dC dI cA adK adV P p s m [.ref (P 0), .int v1].toArray meth c cX8_lowest 5 (some .int) RX8 := ⟨hI, hKX, ⟨B.exec, B.bytes, hml, findClass_of_methodNamed B.named, hts⟩, B.returns, B.notSynchronized⟩
  have hS : va_S (PA 56 P) s.heap s.heap [] := va_S.rf
  have hl := lv_entry ([.ref (P 0), .int v1]) (n := 5) (Nat.le_of_ble_eq_true rfl)
  rw [lg_entry_eq]
  generalize (lg_sl ([.ref (P 0), .int v1]) ++ List.replicate (5 - (lg_sl ([.ref (P 0), .int v1])).length) Slot.unset).toArray = ls at hl ⊢
  have hl : lv_has ls 5 [(0, .ref (P 0)), (1, .int v1)] := hl
  exact e_X8_lowest C _ _ _ _ _ h  hP hS hl
set_option maxRecDepth 100000 in
set_option maxHeartbeats 4000000 in
theorem e_X8_of {p : Program} {l : Launch} {e : Env} {s : State} {m : MethodId} {args : Array Value} {below : List Frame} {meth : Method} {c : Code} {dC : Nat → ClassId} {dI : Nat → Nat → Nat} {cA : Nat → ClassId} {adK adV P : Nat → Nat} (C : CtxX dC dI cA adK adV P p s m args meth c cX8_of 4 (some .int) RX8) {post : Int32 → St → Prop} : ∀ (v1 : Int32) (v2 : Int32) (S : St) (H : Heap) (locs : List Loc) (ls : Array Slot), w_X8_of v1 v2 post S → VX dC dI cA P S H → va_S (PA 56 P) s.heap H locs → lv_has ls 4 [(0, .ref (P 0)), (1, .int v1), (2, .int v2)] → W p l e ({ frames := 2, cells := 0, slots := 0, locals := 43 } : Room) s m args below meth c H locs 0 0 (MQ below (va_Qi post (fun u t => VX dC dI cA P u t.heap) (PA 56 P)) args s 0 0 (PA 56 P)) (F0 m 0 ls []) := by
  have C := C
  obtain ⟨hI, hKX, ⟨hx, hb, hml, hown, hts⟩, hr, hlocks⟩ := id C
  have hK := hKX.1
  intro v1 v2 S H locs ls h hP hS hl
  rw [w_X8_of] at h
  refine lv_aload_n hx hb dX8_of_0 rfl (lv_at hl 0 rfl) ?_
  refine g_get (v := .ref (P 1)) hx hb hts inG_X8 hown hK hP (kX_lt (rfl : kdX 0 = 8)) (eX8 (rfl : kdX 0 = 8)) rfl 0 (by decide) G_fl_X8_12 rfl rfl dX8_of_1 ?_
  refine lv_iload_n hx hb dX8_of_4 rfl (lv_at hl 1 rfl) ?_
  refine va_callq (va_runV (As := [.int _]) (rest := []) ⟨hx, hb, hml, hown, hts⟩ (c_X6_at l hI (rfl : kdX 1 = 6) h) (cwV 1 hts gv_X8_97 rfl rfl rfl hv_X6_at ⟨Nat.le_of_ble_eq_true rfl, Nat.le_of_ble_eq_true rfl⟩) (preV_X hKX hP hS (kX_lt (rfl : kdX 1 = 6)) (eX6 (rfl : kdX 1 = 6)) rfl) rfl rfl hl.1 rfl (lv_room (Nat.le_of_ble_eq_true rfl)) dX8_of_5 ⟨Nat.le_of_ble_eq_true rfl, Nat.le_of_ble_eq_true rfl⟩) hS (fun _ _ h => h) (fun _ h => h) (fun q S1 t H locs ht _ h hB _ _ hS => ?_)
  have hP : VX dC dI cA P S1 H := by rw [← ht]; exact hB
  obtain ⟨o2, rfl, hko, h⟩ := h
  rcases o2 with _ | k3
  · replace h := h.1 rfl
    refine lv_astore_nN (lv' := [(3, .null), (0, .ref (P 0)), (1, .int v1), (2, .int v2)]) hx hb dX8_of_8 rfl hl (by decide) rfl (fun ls hl => ?_)
    refine lv_aload_nN hx hb dX8_of_9 rfl (lv_at hl 0 rfl) ?_
    refine lv_ifnonnullN hx hb dX8_of_10 ?_
    refine lv_iconst (v := (-1)) hx hb dX8_of_13 (by decide) ?_
    exact g_iret hx hb hr hlocks h hP hS dX8_of_14
  · have hk4 := hko k3 rfl
    replace h := h.2 k3 rfl
    refine lv_astore_n (lv' := [(3, .ref (P k3)), (0, .ref (P 0)), (1, .int v1), (2, .int v2)]) hx hb dX8_of_8 rfl hl (by decide) rfl (fun ls hl => ?_)
    refine lv_aload_n hx hb dX8_of_9 rfl (lv_at hl 0 rfl) ?_
    refine lv_ifnonnull (tgt := 15) hx hb dX8_of_10 (by decide) ?_
    refine lv_iload_n hx hb dX8_of_15 rfl (lv_at hl 3 rfl) ?_
    by_cases c5 : v2 = 0
    · replace h := h.1 c5
      refine lv_tableIn (off := 44) (tgt := 60) hx hb dX8_of_16 (by rw [c5]; decide) (by rw [c5]; decide) (by rw [c5]; decide) (by decide) ?_
      refine lv_aload_n hx hb dX8_of_60 rfl (lv_at hl 0 rfl) ?_
      refine g_get (v := .int (S1.1 k3 0)) hx hb hts inG_X1 hown hK hP (kX_lt hk4) (eX1 hk4) rfl 0 (by decide) G_fl_X8_101 rfl rfl dX8_of_61 ?_
      exact g_iret hx hb hr hlocks h hP hS dX8_of_64
    replace h := h.2 c5
    by_cases c6 : v2 = 1
    · replace h := h.1 c6
      refine lv_tableIn (off := 49) (tgt := 65) hx hb dX8_of_16 (by rw [c6]; decide) (by rw [c6]; decide) (by rw [c6]; decide) (by decide) ?_
      refine lv_aload_n hx hb dX8_of_65 rfl (lv_at hl 0 rfl) ?_
      refine g_get (v := .int (S1.1 k3 1)) hx hb hts inG_X1 hown hK hP (kX_lt hk4) (eX1 hk4) rfl 1 (by decide) G_fl_X8_105 rfl rfl dX8_of_66 ?_
      exact g_iret hx hb hr hlocks h hP hS dX8_of_69
    replace h := h.2 c6
    by_cases c7 : v2 = 2
    · replace h := h.1 c7
      refine lv_tableIn (off := 54) (tgt := 70) hx hb dX8_of_16 (by rw [c7]; decide) (by rw [c7]; decide) (by rw [c7]; decide) (by decide) ?_
      refine lv_aload_n hx hb dX8_of_70 rfl (lv_at hl 0 rfl) ?_
      refine g_get (v := .int (S1.1 k3 2)) hx hb hts inG_X1 hown hK hP (kX_lt hk4) (eX1 hk4) rfl 2 (by decide) G_fl_X8_108 rfl rfl dX8_of_71 ?_
      exact g_iret hx hb hr hlocks h hP hS dX8_of_74
    replace h := h.2 c7
    by_cases c8 : v2 = 3
    · replace h := h.1 c8
      refine lv_tableIn (off := 59) (tgt := 75) hx hb dX8_of_16 (by rw [c8]; decide) (by rw [c8]; decide) (by rw [c8]; decide) (by decide) ?_
      refine lv_aload_n hx hb dX8_of_75 rfl (lv_at hl 0 rfl) ?_
      refine va_calli (va_runV (As := []) (rest := []) ⟨hx, hb, hml, hown, hts⟩ (c_X1_whole l hI hk4 h) (cwV 0 hts gv_X8_126 rfl rfl rfl hv_X1_whole ⟨Nat.le_of_ble_eq_true rfl, Nat.le_of_ble_eq_true rfl⟩) (preV_X hKX hP hS (kX_lt hk4) (eX1 hk4) rfl) rfl rfl hl.1 rfl (lv_room (Nat.le_of_ble_eq_true rfl)) dX8_of_76 ⟨Nat.le_of_ble_eq_true rfl, Nat.le_of_ble_eq_true rfl⟩) hS (fun _ _ h => h) (fun _ h => h) (fun r10 S9 t H locs ht _ h hB _ _ hS => ?_)
      have hP : VX dC dI cA P S9 H := by rw [← ht]; exact hB
      exact g_iret hx hb hr hlocks h hP hS dX8_of_79
    replace h := h.2 c8
    by_cases c11 : v2 = 4
    · replace h := h.1 c11
      refine lv_tableIn (off := 64) (tgt := 80) hx hb dX8_of_16 (by rw [c11]; decide) (by rw [c11]; decide) (by rw [c11]; decide) (by decide) ?_
      refine lv_aload_n hx hb dX8_of_80 rfl (lv_at hl 0 rfl) ?_
      refine g_get (v := .int (S1.1 k3 3)) hx hb hts inG_X1 hown hK hP (kX_lt hk4) (eX1 hk4) rfl 3 (by decide) G_fl_X8_130 rfl rfl dX8_of_81 ?_
      exact g_iret hx hb hr hlocks h hP hS dX8_of_84
    replace h := h.2 c11
    by_cases c12 : v2 = 5
    · replace h := h.1 c12
      refine lv_tableIn (off := 69) (tgt := 85) hx hb dX8_of_16 (by rw [c12]; decide) (by rw [c12]; decide) (by rw [c12]; decide) (by decide) ?_
      refine lv_aload_n hx hb dX8_of_85 rfl (lv_at hl 0 rfl) ?_
      refine g_get (v := .int (S1.1 k3 4)) hx hb hts inG_X1 hown hK hP (kX_lt hk4) (eX1 hk4) rfl 4 (by decide) G_fl_X8_133 rfl rfl dX8_of_86 ?_
      exact g_iret hx hb hr hlocks h hP hS dX8_of_89
    replace h := h.2 c12
    by_cases c13 : v2 = 6
    · replace h := h.1 c13
      refine lv_tableIn (off := 74) (tgt := 90) hx hb dX8_of_16 (by rw [c13]; decide) (by rw [c13]; decide) (by rw [c13]; decide) (by decide) ?_
      refine lv_aload_n hx hb dX8_of_90 rfl (lv_at hl 0 rfl) ?_
      refine va_calli (va_runV (As := []) (rest := []) ⟨hx, hb, hml, hown, hts⟩ (c_X1_kind l hI hk4 h) (cwV 0 hts gv_X8_136 rfl rfl rfl hv_X1_kind ⟨Nat.le_of_ble_eq_true rfl, Nat.le_of_ble_eq_true rfl⟩) (preV_X hKX hP hS (kX_lt hk4) (eX1 hk4) rfl) rfl rfl hl.1 rfl (lv_room (Nat.le_of_ble_eq_true rfl)) dX8_of_91 ⟨Nat.le_of_ble_eq_true rfl, Nat.le_of_ble_eq_true rfl⟩) hS (fun _ _ h => h) (fun _ h => h) (fun r15 S14 t H locs ht _ h hB _ _ hS => ?_)
      have hP : VX dC dI cA P S14 H := by rw [← ht]; exact hB
      exact g_iret hx hb hr hlocks h hP hS dX8_of_94
    replace h := h.2 c13
    refine lv_tableOut (tgt := 95) hx hb dX8_of_16 (by have := lv_neT c5 (a := 0) (by decide); have := lv_neT c6 (a := 1) (by decide); have := lv_neT c7 (a := 2) (by decide); have := lv_neT c8 (a := 3) (by decide); have := lv_neT c11 (a := 4) (by decide); have := lv_neT c12 (a := 5) (by decide); have := lv_neT c13 (a := 6) (by decide); omega) (by decide) ?_
    refine lv_iconst (v := (-1)) hx hb dX8_of_95 (by decide) ?_
    exact g_iret hx hb hr hlocks h hP hS dX8_of_96
set_option maxRecDepth 100000 in
set_option maxHeartbeats 4000000 in
theorem c_X8_of (l : Launch) {dC : Nat → ClassId} {dI : Nat → Nat → Nat} {cA : Nat → ClassId} {adK adV P : Nat → Nat} (hI : PInj 56 P) {v1 : Int32} {v2 : Int32}  {post : Int32 → St → Prop} {S : St} (h : w_X8_of v1 v2 post S) : Met l yX8_of (wW yX8_of cX8_of 4 (some .int)) ({ frames := 2, cells := 0, slots := 0, locals := 43 } : Room) (va_Pc [.ref (P 0), .int v1, .int v2] (PreX dC dI cA adK adV P S)) (va_Qi post (fun u t => VX dC dI cA P u t.heap) (PA 56 P)) 0 0 (PA 56 P) := by
  refine Met.ofW (cc := cX8_of) (maxL := 4) (ret := (some .int)) (by decide) rfl ?_
  intro p e s m args below meth c s₁ B hml hv
  obtain ⟨rfl, hP, hKX⟩ := hv
  have hts : ∀ w ∈ G, w.before [.ref (P 0), .int v1, .int v2].toArray s = true := fun w hw => atoms_spec (ws := wW yX8_of cX8_of 4 (some .int)) B.pre w (List.mem_cons_of_mem _ hw)
  have C : CtxX dC dI cA adK adV P p s m [.ref (P 0), .int v1, .int v2].toArray meth c cX8_of 4 (some .int) RX8 := ⟨hI, hKX, ⟨B.exec, B.bytes, hml, findClass_of_methodNamed B.named, hts⟩, B.returns, B.notSynchronized⟩
  have hS : va_S (PA 56 P) s.heap s.heap [] := va_S.rf
  have hl := lv_entry ([.ref (P 0), .int v1, .int v2]) (n := 4) (Nat.le_of_ble_eq_true rfl)
  rw [lg_entry_eq]
  generalize (lg_sl ([.ref (P 0), .int v1, .int v2]) ++ List.replicate (4 - (lg_sl ([.ref (P 0), .int v1, .int v2])).length) Slot.unset).toArray = ls at hl ⊢
  have hl : lv_has ls 4 [(0, .ref (P 0)), (1, .int v1), (2, .int v2)] := hl
  exact e_X8_of C _ _ _ _ _ _ h  hP hS hl
set_option maxRecDepth 100000 in
set_option maxHeartbeats 4000000 in
theorem e_X8_digit {p : Program} {l : Launch} {e : Env} {s : State} {m : MethodId} {args : Array Value} {below : List Frame} {meth : Method} {c : Code} {dC : Nat → ClassId} {dI : Nat → Nat → Nat} {cA : Nat → ClassId} {adK adV P : Nat → Nat} (C : CtxX dC dI cA adK adV P p s m args meth c cX8_digit 4 (some .int) RX8) {post : Int32 → St → Prop} : ∀ (v1 : Int32) (v2 : Int32) (S : St) (H : Heap) (locs : List Loc) (ls : Array Slot), w_X8_digit v1 v2 post S → VX dC dI cA P S H → va_S (PA 56 P) s.heap H locs → lv_has ls 4 [(0, .ref (P 0)), (1, .int v1), (2, .int v2)] → W p l e ({ frames := 2, cells := 0, slots := 0, locals := 45 } : Room) s m args below meth c H locs 0 0 (MQ below (va_Qi post (fun u t => VX dC dI cA P u t.heap) (PA 56 P)) args s 0 0 (PA 56 P)) (F0 m 0 ls []) := by
  have C := C
  obtain ⟨hI, hKX, ⟨hx, hb, hml, hown, hts⟩, hr, hlocks⟩ := id C
  have hK := hKX.1
  intro v1 v2 S H locs ls h hP hS hl
  rw [w_X8_digit] at h
  refine lv_aload_n hx hb dX8_digit_0 rfl (lv_at hl 0 rfl) ?_
  refine g_get (v := .ref (P 1)) hx hb hts inG_X8 hown hK hP (kX_lt (rfl : kdX 0 = 8)) (eX8 (rfl : kdX 0 = 8)) rfl 0 (by decide) G_fl_X8_12 rfl rfl dX8_digit_1 ?_
  refine lv_iload_n hx hb dX8_digit_4 rfl (lv_at hl 1 rfl) ?_
  refine va_callq (va_runV (As := [.int _]) (rest := []) ⟨hx, hb, hml, hown, hts⟩ (c_X6_at l hI (rfl : kdX 1 = 6) h) (cwV 1 hts gv_X8_97 rfl rfl rfl hv_X6_at ⟨Nat.le_of_ble_eq_true rfl, Nat.le_of_ble_eq_true rfl⟩) (preV_X hKX hP hS (kX_lt (rfl : kdX 1 = 6)) (eX6 (rfl : kdX 1 = 6)) rfl) rfl rfl hl.1 rfl (lv_room (Nat.le_of_ble_eq_true rfl)) dX8_digit_5 ⟨Nat.le_of_ble_eq_true rfl, Nat.le_of_ble_eq_true rfl⟩) hS (fun _ _ h => h) (fun _ h => h) (fun q S1 t H locs ht _ h hB _ _ hS => ?_)
  have hP : VX dC dI cA P S1 H := by rw [← ht]; exact hB
  obtain ⟨o2, rfl, hko, h⟩ := h
  rcases o2 with _ | k3
  · replace h := h.1 rfl
    refine lv_astore_nN (lv' := [(3, .null), (0, .ref (P 0)), (1, .int v1), (2, .int v2)]) hx hb dX8_digit_8 rfl hl (by decide) rfl (fun ls hl => ?_)
    refine lv_aload_nN hx hb dX8_digit_9 rfl (lv_at hl 0 rfl) ?_
    refine lv_ifnullN (tgt := 24) hx hb dX8_digit_10 (by decide) ?_
    refine lv_iconst (v := (-1)) hx hb dX8_digit_24 (by decide) ?_
    exact g_iret hx hb hr hlocks h hP hS dX8_digit_25
  · have hk4 := hko k3 rfl
    replace h := h.2 k3 rfl
    refine lv_astore_n (lv' := [(3, .ref (P k3)), (0, .ref (P 0)), (1, .int v1), (2, .int v2)]) hx hb dX8_digit_8 rfl hl (by decide) rfl (fun ls hl => ?_)
    refine lv_aload_n hx hb dX8_digit_9 rfl (lv_at hl 0 rfl) ?_
    refine lv_ifnull hx hb dX8_digit_10 ?_
    refine lv_iload_n hx hb dX8_digit_13 rfl (lv_at hl 3 rfl) ?_
    refine lv_iconst (v := 0) hx hb dX8_digit_14 (by decide) ?_
    refine lv_sipush (v := 9999) hx hb dX8_digit_15 (by decide) ?_
    refine va_calli (va_runS (As := [.int _, .int _, .int _]) (rest := []) ⟨hx, hb, hml, hown, hts⟩ (c_X8_isWithin l hI h) (va_cwS 3 hts gs_X8_81 rfl rfl rfl hd_X8_isWithin ⟨Nat.le_of_ble_eq_true rfl, Nat.le_of_ble_eq_true rfl⟩) (preS_X hKX hP hS) rfl rfl hl.1 rfl (lv_room (Nat.le_of_ble_eq_true rfl)) dX8_digit_18 ⟨Nat.le_of_ble_eq_true rfl, Nat.le_of_ble_eq_true rfl⟩) hS (fun _ _ h => h) (fun _ h => h) (fun r6 S5 t H locs ht _ h hB _ _ hS => ?_)
    have hP : VX dC dI cA P S5 H := by rw [← ht]; exact hB
    refine lv_if_ne (tgt := 26) hx hb dX8_digit_21 (by decide) (fun c7 => ?_) (fun c7 => ?_)
    · replace h := h.2 c7
      refine lv_aload_n hx hb dX8_digit_26 rfl (lv_at hl 0 rfl) ?_
      refine lv_aload_n hx hb dX8_digit_27 rfl (lv_at hl 0 rfl) ?_
      refine lv_iload_n hx hb dX8_digit_28 rfl (lv_at hl 3 rfl) ?_
      refine va_calli (va_runV (As := [.int _]) (rest := [.ref _]) ⟨hx, hb, hml, hown, hts⟩ (c_X1_restAt l hI hk4 h) (cwV 1 hts gv_X8_139 rfl rfl rfl hv_X1_restAt ⟨Nat.le_of_ble_eq_true rfl, Nat.le_of_ble_eq_true rfl⟩) (preV_X hKX hP hS (kX_lt hk4) (eX1 hk4) rfl) rfl rfl hl.1 rfl (lv_room (Nat.le_of_ble_eq_true rfl)) dX8_digit_29 ⟨Nat.le_of_ble_eq_true rfl, Nat.le_of_ble_eq_true rfl⟩) hS (fun _ _ h => h) (fun _ h => h) (fun r9 S8 t H locs ht _ h hB _ _ hS => ?_)
      have hP : VX dC dI cA P S8 H := by rw [← ht]; exact hB
      refine va_calli (va_runV (As := [.int _]) (rest := []) ⟨hx, hb, hml, hown, hts⟩ (c_X1_digitOf l hI hk4 h) (cwV 1 hts gv_X8_142 rfl rfl rfl hv_X1_digitOf ⟨Nat.le_of_ble_eq_true rfl, Nat.le_of_ble_eq_true rfl⟩) (preV_X hKX hP hS (kX_lt hk4) (eX1 hk4) rfl) rfl rfl hl.1 rfl (lv_room (Nat.le_of_ble_eq_true rfl)) dX8_digit_32 ⟨Nat.le_of_ble_eq_true rfl, Nat.le_of_ble_eq_true rfl⟩) hS (fun _ _ h => h) (fun _ h => h) (fun r11 S10 t H locs ht _ h hB _ _ hS => ?_)
      have hP : VX dC dI cA P S10 H := by rw [← ht]; exact hB
      exact g_iret hx hb hr hlocks h hP hS dX8_digit_35
    · replace h := h.1 c7
      refine lv_iconst (v := (-1)) hx hb dX8_digit_24 (by decide) ?_
      exact g_iret hx hb hr hlocks h hP hS dX8_digit_25
set_option maxRecDepth 100000 in
set_option maxHeartbeats 4000000 in
theorem c_X8_digit (l : Launch) {dC : Nat → ClassId} {dI : Nat → Nat → Nat} {cA : Nat → ClassId} {adK adV P : Nat → Nat} (hI : PInj 56 P) {v1 : Int32} {v2 : Int32}  {post : Int32 → St → Prop} {S : St} (h : w_X8_digit v1 v2 post S) : Met l yX8_digit (wW yX8_digit cX8_digit 4 (some .int)) ({ frames := 2, cells := 0, slots := 0, locals := 45 } : Room) (va_Pc [.ref (P 0), .int v1, .int v2] (PreX dC dI cA adK adV P S)) (va_Qi post (fun u t => VX dC dI cA P u t.heap) (PA 56 P)) 0 0 (PA 56 P) := by
  refine Met.ofW (cc := cX8_digit) (maxL := 4) (ret := (some .int)) (by decide) rfl ?_
  intro p e s m args below meth c s₁ B hml hv
  obtain ⟨rfl, hP, hKX⟩ := hv
  have hts : ∀ w ∈ G, w.before [.ref (P 0), .int v1, .int v2].toArray s = true := fun w hw => atoms_spec (ws := wW yX8_digit cX8_digit 4 (some .int)) B.pre w (List.mem_cons_of_mem _ hw)
  have C : CtxX dC dI cA adK adV P p s m [.ref (P 0), .int v1, .int v2].toArray meth c cX8_digit 4 (some .int) RX8 := ⟨hI, hKX, ⟨B.exec, B.bytes, hml, findClass_of_methodNamed B.named, hts⟩, B.returns, B.notSynchronized⟩
  have hS : va_S (PA 56 P) s.heap s.heap [] := va_S.rf
  have hl := lv_entry ([.ref (P 0), .int v1, .int v2]) (n := 4) (Nat.le_of_ble_eq_true rfl)
  rw [lg_entry_eq]
  generalize (lg_sl ([.ref (P 0), .int v1, .int v2]) ++ List.replicate (4 - (lg_sl ([.ref (P 0), .int v1, .int v2])).length) Slot.unset).toArray = ls at hl ⊢
  have hl : lv_has ls 4 [(0, .ref (P 0)), (1, .int v1), (2, .int v2)] := hl
  exact e_X8_digit C _ _ _ _ _ _ h  hP hS hl
set_option maxRecDepth 100000 in
set_option maxHeartbeats 4000000 in
theorem e_X8_rest {p : Program} {l : Launch} {e : Env} {s : State} {m : MethodId} {args : Array Value} {below : List Frame} {meth : Method} {c : Code} {dC : Nat → ClassId} {dI : Nat → Nat → Nat} {cA : Nat → ClassId} {adK adV P : Nat → Nat} (C : CtxX dC dI cA adK adV P p s m args meth c cX8_rest 4 (some .int) RX8) {post : Int32 → St → Prop} : ∀ (v1 : Int32) (v2 : Int32) (S : St) (H : Heap) (locs : List Loc) (ls : Array Slot), w_X8_rest v1 v2 post S → VX dC dI cA P S H → va_S (PA 56 P) s.heap H locs → lv_has ls 4 [(0, .ref (P 0)), (1, .int v1), (2, .int v2)] → W p l e ({ frames := 2, cells := 0, slots := 0, locals := 45 } : Room) s m args below meth c H locs 0 0 (MQ below (va_Qi post (fun u t => VX dC dI cA P u t.heap) (PA 56 P)) args s 0 0 (PA 56 P)) (F0 m 0 ls []) := by
  have C := C
  obtain ⟨hI, hKX, ⟨hx, hb, hml, hown, hts⟩, hr, hlocks⟩ := id C
  have hK := hKX.1
  intro v1 v2 S H locs ls h hP hS hl
  rw [w_X8_rest] at h
  refine lv_aload_n hx hb dX8_rest_0 rfl (lv_at hl 0 rfl) ?_
  refine g_get (v := .ref (P 1)) hx hb hts inG_X8 hown hK hP (kX_lt (rfl : kdX 0 = 8)) (eX8 (rfl : kdX 0 = 8)) rfl 0 (by decide) G_fl_X8_12 rfl rfl dX8_rest_1 ?_
  refine lv_iload_n hx hb dX8_rest_4 rfl (lv_at hl 1 rfl) ?_
  refine va_callq (va_runV (As := [.int _]) (rest := []) ⟨hx, hb, hml, hown, hts⟩ (c_X6_at l hI (rfl : kdX 1 = 6) h) (cwV 1 hts gv_X8_97 rfl rfl rfl hv_X6_at ⟨Nat.le_of_ble_eq_true rfl, Nat.le_of_ble_eq_true rfl⟩) (preV_X hKX hP hS (kX_lt (rfl : kdX 1 = 6)) (eX6 (rfl : kdX 1 = 6)) rfl) rfl rfl hl.1 rfl (lv_room (Nat.le_of_ble_eq_true rfl)) dX8_rest_5 ⟨Nat.le_of_ble_eq_true rfl, Nat.le_of_ble_eq_true rfl⟩) hS (fun _ _ h => h) (fun _ h => h) (fun q S1 t H locs ht _ h hB _ _ hS => ?_)
  have hP : VX dC dI cA P S1 H := by rw [← ht]; exact hB
  obtain ⟨o2, rfl, hko, h⟩ := h
  rcases o2 with _ | k3
  · replace h := h.1 rfl
    refine lv_astore_nN (lv' := [(3, .null), (0, .ref (P 0)), (1, .int v1), (2, .int v2)]) hx hb dX8_rest_8 rfl hl (by decide) rfl (fun ls hl => ?_)
    refine lv_aload_nN hx hb dX8_rest_9 rfl (lv_at hl 0 rfl) ?_
    refine lv_ifnullN (tgt := 24) hx hb dX8_rest_10 (by decide) ?_
    refine lv_iconst (v := (-1)) hx hb dX8_rest_24 (by decide) ?_
    exact g_iret hx hb hr hlocks h hP hS dX8_rest_25
  · have hk4 := hko k3 rfl
    replace h := h.2 k3 rfl
    refine lv_astore_n (lv' := [(3, .ref (P k3)), (0, .ref (P 0)), (1, .int v1), (2, .int v2)]) hx hb dX8_rest_8 rfl hl (by decide) rfl (fun ls hl => ?_)
    refine lv_aload_n hx hb dX8_rest_9 rfl (lv_at hl 0 rfl) ?_
    refine lv_ifnull hx hb dX8_rest_10 ?_
    refine lv_iload_n hx hb dX8_rest_13 rfl (lv_at hl 3 rfl) ?_
    refine lv_iconst (v := 0) hx hb dX8_rest_14 (by decide) ?_
    refine lv_sipush (v := 9999) hx hb dX8_rest_15 (by decide) ?_
    refine va_calli (va_runS (As := [.int _, .int _, .int _]) (rest := []) ⟨hx, hb, hml, hown, hts⟩ (c_X8_isWithin l hI h) (va_cwS 3 hts gs_X8_81 rfl rfl rfl hd_X8_isWithin ⟨Nat.le_of_ble_eq_true rfl, Nat.le_of_ble_eq_true rfl⟩) (preS_X hKX hP hS) rfl rfl hl.1 rfl (lv_room (Nat.le_of_ble_eq_true rfl)) dX8_rest_18 ⟨Nat.le_of_ble_eq_true rfl, Nat.le_of_ble_eq_true rfl⟩) hS (fun _ _ h => h) (fun _ h => h) (fun r6 S5 t H locs ht _ h hB _ _ hS => ?_)
    have hP : VX dC dI cA P S5 H := by rw [← ht]; exact hB
    refine lv_if_ne (tgt := 26) hx hb dX8_rest_21 (by decide) (fun c7 => ?_) (fun c7 => ?_)
    · replace h := h.2 c7
      refine lv_aload_n hx hb dX8_rest_26 rfl (lv_at hl 0 rfl) ?_
      refine lv_iload_n hx hb dX8_rest_27 rfl (lv_at hl 3 rfl) ?_
      refine va_calli (va_runV (As := [.int _]) (rest := []) ⟨hx, hb, hml, hown, hts⟩ (c_X1_restAt l hI hk4 h) (cwV 1 hts gv_X8_139 rfl rfl rfl hv_X1_restAt ⟨Nat.le_of_ble_eq_true rfl, Nat.le_of_ble_eq_true rfl⟩) (preV_X hKX hP hS (kX_lt hk4) (eX1 hk4) rfl) rfl rfl hl.1 rfl (lv_room (Nat.le_of_ble_eq_true rfl)) dX8_rest_28 ⟨Nat.le_of_ble_eq_true rfl, Nat.le_of_ble_eq_true rfl⟩) hS (fun _ _ h => h) (fun _ h => h) (fun r9 S8 t H locs ht _ h hB _ _ hS => ?_)
      have hP : VX dC dI cA P S8 H := by rw [← ht]; exact hB
      exact g_iret hx hb hr hlocks h hP hS dX8_rest_31
    · replace h := h.1 c7
      refine lv_iconst (v := (-1)) hx hb dX8_rest_24 (by decide) ?_
      exact g_iret hx hb hr hlocks h hP hS dX8_rest_25
set_option maxRecDepth 100000 in
set_option maxHeartbeats 4000000 in
theorem c_X8_rest (l : Launch) {dC : Nat → ClassId} {dI : Nat → Nat → Nat} {cA : Nat → ClassId} {adK adV P : Nat → Nat} (hI : PInj 56 P) {v1 : Int32} {v2 : Int32}  {post : Int32 → St → Prop} {S : St} (h : w_X8_rest v1 v2 post S) : Met l yX8_rest (wW yX8_rest cX8_rest 4 (some .int)) ({ frames := 2, cells := 0, slots := 0, locals := 45 } : Room) (va_Pc [.ref (P 0), .int v1, .int v2] (PreX dC dI cA adK adV P S)) (va_Qi post (fun u t => VX dC dI cA P u t.heap) (PA 56 P)) 0 0 (PA 56 P) := by
  refine Met.ofW (cc := cX8_rest) (maxL := 4) (ret := (some .int)) (by decide) rfl ?_
  intro p e s m args below meth c s₁ B hml hv
  obtain ⟨rfl, hP, hKX⟩ := hv
  have hts : ∀ w ∈ G, w.before [.ref (P 0), .int v1, .int v2].toArray s = true := fun w hw => atoms_spec (ws := wW yX8_rest cX8_rest 4 (some .int)) B.pre w (List.mem_cons_of_mem _ hw)
  have C : CtxX dC dI cA adK adV P p s m [.ref (P 0), .int v1, .int v2].toArray meth c cX8_rest 4 (some .int) RX8 := ⟨hI, hKX, ⟨B.exec, B.bytes, hml, findClass_of_methodNamed B.named, hts⟩, B.returns, B.notSynchronized⟩
  have hS : va_S (PA 56 P) s.heap s.heap [] := va_S.rf
  have hl := lv_entry ([.ref (P 0), .int v1, .int v2]) (n := 4) (Nat.le_of_ble_eq_true rfl)
  rw [lg_entry_eq]
  generalize (lg_sl ([.ref (P 0), .int v1, .int v2]) ++ List.replicate (4 - (lg_sl ([.ref (P 0), .int v1, .int v2])).length) Slot.unset).toArray = ls at hl ⊢
  have hl : lv_has ls 4 [(0, .ref (P 0)), (1, .int v1), (2, .int v2)] := hl
  exact e_X8_rest C _ _ _ _ _ _ h  hP hS hl
set_option maxRecDepth 100000 in
set_option maxHeartbeats 4000000 in
theorem e_X8_place {p : Program} {l : Launch} {e : Env} {s : State} {m : MethodId} {args : Array Value} {below : List Frame} {meth : Method} {c : Code} {dC : Nat → ClassId} {dI : Nat → Nat → Nat} {cA : Nat → ClassId} {adK adV P : Nat → Nat} (C : CtxX dC dI cA adK adV P p s m args meth c cX8_place 4 (some .int) RX8) {post : Int32 → St → Prop} : ∀ (v1 : Int32) (v2 : Int32) (S : St) (H : Heap) (locs : List Loc) (ls : Array Slot), w_X8_place v1 v2 post S → VX dC dI cA P S H → va_S (PA 56 P) s.heap H locs → lv_has ls 4 [(0, .ref (P 0)), (1, .int v1), (2, .int v2)] → W p l e ({ frames := 3, cells := 0, slots := 0, locals := 67 } : Room) s m args below meth c H locs 0 0 (MQ below (va_Qi post (fun u t => VX dC dI cA P u t.heap) (PA 56 P)) args s 0 0 (PA 56 P)) (F0 m 0 ls []) := by
  have C := C
  obtain ⟨hI, hKX, ⟨hx, hb, hml, hown, hts⟩, hr, hlocks⟩ := id C
  have hK := hKX.1
  intro v1 v2 S H locs ls h hP hS hl
  rw [w_X8_place] at h
  refine lv_aload_n hx hb dX8_place_0 rfl (lv_at hl 0 rfl) ?_
  refine g_get (v := .ref (P 1)) hx hb hts inG_X8 hown hK hP (kX_lt (rfl : kdX 0 = 8)) (eX8 (rfl : kdX 0 = 8)) rfl 0 (by decide) G_fl_X8_12 rfl rfl dX8_place_1 ?_
  refine lv_iload_n hx hb dX8_place_4 rfl (lv_at hl 1 rfl) ?_
  refine va_callq (va_runV (As := [.int _]) (rest := []) ⟨hx, hb, hml, hown, hts⟩ (c_X6_at l hI (rfl : kdX 1 = 6) h) (cwV 1 hts gv_X8_97 rfl rfl rfl hv_X6_at ⟨Nat.le_of_ble_eq_true rfl, Nat.le_of_ble_eq_true rfl⟩) (preV_X hKX hP hS (kX_lt (rfl : kdX 1 = 6)) (eX6 (rfl : kdX 1 = 6)) rfl) rfl rfl hl.1 rfl (lv_room (Nat.le_of_ble_eq_true rfl)) dX8_place_5 ⟨Nat.le_of_ble_eq_true rfl, Nat.le_of_ble_eq_true rfl⟩) hS (fun _ _ h => h) (fun _ h => h) (fun q S1 t H locs ht _ h hB _ _ hS => ?_)
  have hP : VX dC dI cA P S1 H := by rw [← ht]; exact hB
  obtain ⟨o2, rfl, hko, h⟩ := h
  rcases o2 with _ | k3
  · replace h := h.1 rfl
    refine lv_astore_nN (lv' := [(3, .null), (0, .ref (P 0)), (1, .int v1), (2, .int v2)]) hx hb dX8_place_8 rfl hl (by decide) rfl (fun ls hl => ?_)
    refine lv_aload_nN hx hb dX8_place_9 rfl (lv_at hl 0 rfl) ?_
    refine lv_ifnullN (tgt := 27) hx hb dX8_place_10 (by decide) ?_
    refine lv_iconst (v := (-1)) hx hb dX8_place_27 (by decide) ?_
    exact g_iret hx hb hr hlocks h hP hS dX8_place_28
  · have hk4 := hko k3 rfl
    replace h := h.2 k3 rfl
    refine lv_astore_n (lv' := [(3, .ref (P k3)), (0, .ref (P 0)), (1, .int v1), (2, .int v2)]) hx hb dX8_place_8 rfl hl (by decide) rfl (fun ls hl => ?_)
    refine lv_aload_n hx hb dX8_place_9 rfl (lv_at hl 0 rfl) ?_
    refine lv_ifnull hx hb dX8_place_10 ?_
    refine lv_iload_n hx hb dX8_place_13 rfl (lv_at hl 3 rfl) ?_
    refine lv_iconst (v := 0) hx hb dX8_place_14 (by decide) ?_
    refine lv_aload_n hx hb dX8_place_15 rfl (lv_at hl 0 rfl) ?_
    refine g_get (v := .int (S1.1 k3 2)) hx hb hts inG_X1 hown hK hP (kX_lt hk4) (eX1 hk4) rfl 2 (by decide) G_fl_X8_108 rfl rfl dX8_place_16 ?_
    refine lv_iconst (v := 1) hx hb dX8_place_19 (by decide) ?_
    refine lv_isub hx hb dX8_place_20 ?_
    replace h := h _ rfl
    refine va_calli (va_runS (As := [.int _, .int _, .int _]) (rest := []) ⟨hx, hb, hml, hown, hts⟩ (c_X8_isWithin l hI h) (va_cwS 3 hts gs_X8_81 rfl rfl rfl hd_X8_isWithin ⟨Nat.le_of_ble_eq_true rfl, Nat.le_of_ble_eq_true rfl⟩) (preS_X hKX hP hS) rfl rfl hl.1 rfl (lv_room (Nat.le_of_ble_eq_true rfl)) dX8_place_21 ⟨Nat.le_of_ble_eq_true rfl, Nat.le_of_ble_eq_true rfl⟩) hS (fun _ _ h => h) (fun _ h => h) (fun r7 S6 t H locs ht _ h hB _ _ hS => ?_)
    have hP : VX dC dI cA P S6 H := by rw [← ht]; exact hB
    refine lv_if_ne (tgt := 29) hx hb dX8_place_24 (by decide) (fun c8 => ?_) (fun c8 => ?_)
    · replace h := h.2 c8
      refine lv_aload_n hx hb dX8_place_29 rfl (lv_at hl 0 rfl) ?_
      refine lv_iload_n hx hb dX8_place_30 rfl (lv_at hl 3 rfl) ?_
      refine va_calli (va_runV (As := [.int _]) (rest := []) ⟨hx, hb, hml, hown, hts⟩ (c_X1_placeOfDigit l hI hk4 h) (cwV 1 hts gv_X8_145 rfl rfl rfl hv_X1_placeOfDigit ⟨Nat.le_of_ble_eq_true rfl, Nat.le_of_ble_eq_true rfl⟩) (preV_X hKX hP hS (kX_lt hk4) (eX1 hk4) rfl) rfl rfl hl.1 rfl (lv_room (Nat.le_of_ble_eq_true rfl)) dX8_place_31 ⟨Nat.le_of_ble_eq_true rfl, Nat.le_of_ble_eq_true rfl⟩) hS (fun _ _ h => h) (fun _ h => h) (fun r10 S9 t H locs ht _ h hB _ _ hS => ?_)
      have hP : VX dC dI cA P S9 H := by rw [← ht]; exact hB
      exact g_iret hx hb hr hlocks h hP hS dX8_place_34
    · replace h := h.1 c8
      refine lv_iconst (v := (-1)) hx hb dX8_place_27 (by decide) ?_
      exact g_iret hx hb hr hlocks h hP hS dX8_place_28
set_option maxRecDepth 100000 in
set_option maxHeartbeats 4000000 in
theorem c_X8_place (l : Launch) {dC : Nat → ClassId} {dI : Nat → Nat → Nat} {cA : Nat → ClassId} {adK adV P : Nat → Nat} (hI : PInj 56 P) {v1 : Int32} {v2 : Int32}  {post : Int32 → St → Prop} {S : St} (h : w_X8_place v1 v2 post S) : Met l yX8_place (wW yX8_place cX8_place 4 (some .int)) ({ frames := 3, cells := 0, slots := 0, locals := 67 } : Room) (va_Pc [.ref (P 0), .int v1, .int v2] (PreX dC dI cA adK adV P S)) (va_Qi post (fun u t => VX dC dI cA P u t.heap) (PA 56 P)) 0 0 (PA 56 P) := by
  refine Met.ofW (cc := cX8_place) (maxL := 4) (ret := (some .int)) (by decide) rfl ?_
  intro p e s m args below meth c s₁ B hml hv
  obtain ⟨rfl, hP, hKX⟩ := hv
  have hts : ∀ w ∈ G, w.before [.ref (P 0), .int v1, .int v2].toArray s = true := fun w hw => atoms_spec (ws := wW yX8_place cX8_place 4 (some .int)) B.pre w (List.mem_cons_of_mem _ hw)
  have C : CtxX dC dI cA adK adV P p s m [.ref (P 0), .int v1, .int v2].toArray meth c cX8_place 4 (some .int) RX8 := ⟨hI, hKX, ⟨B.exec, B.bytes, hml, findClass_of_methodNamed B.named, hts⟩, B.returns, B.notSynchronized⟩
  have hS : va_S (PA 56 P) s.heap s.heap [] := va_S.rf
  have hl := lv_entry ([.ref (P 0), .int v1, .int v2]) (n := 4) (Nat.le_of_ble_eq_true rfl)
  rw [lg_entry_eq]
  generalize (lg_sl ([.ref (P 0), .int v1, .int v2]) ++ List.replicate (4 - (lg_sl ([.ref (P 0), .int v1, .int v2])).length) Slot.unset).toArray = ls at hl ⊢
  have hl : lv_has ls 4 [(0, .ref (P 0)), (1, .int v1), (2, .int v2)] := hl
  exact e_X8_place C _ _ _ _ _ _ h  hP hS hl
set_option maxRecDepth 100000 in
set_option maxHeartbeats 4000000 in
theorem e_X8_block {p : Program} {l : Launch} {e : Env} {s : State} {m : MethodId} {args : Array Value} {below : List Frame} {meth : Method} {c : Code} {dC : Nat → ClassId} {dI : Nat → Nat → Nat} {cA : Nat → ClassId} {adK adV P : Nat → Nat} (C : CtxX dC dI cA adK adV P p s m args meth c cX8_block 5 (some .int) RX8) {post : Int32 → St → Prop} : ∀ (v1 : Int32) (v2 : Int32) (v3 : Int32) (S : St) (H : Heap) (locs : List Loc) (ls : Array Slot), w_X8_block v1 v2 v3 post S → VX dC dI cA P S H → va_S (PA 56 P) s.heap H locs → lv_has ls 5 [(0, .ref (P 0)), (1, .int v1), (2, .int v2), (3, .int v3)] → W p l e ({ frames := 3, cells := 0, slots := 0, locals := 67 } : Room) s m args below meth c H locs 0 0 (MQ below (va_Qi post (fun u t => VX dC dI cA P u t.heap) (PA 56 P)) args s 0 0 (PA 56 P)) (F0 m 0 ls []) := by
  have C := C
  obtain ⟨hI, hKX, ⟨hx, hb, hml, hown, hts⟩, hr, hlocks⟩ := id C
  have hK := hKX.1
  intro v1 v2 v3 S H locs ls h hP hS hl
  rw [w_X8_block] at h
  refine lv_aload_n hx hb dX8_block_0 rfl (lv_at hl 0 rfl) ?_
  refine g_get (v := .ref (P 1)) hx hb hts inG_X8 hown hK hP (kX_lt (rfl : kdX 0 = 8)) (eX8 (rfl : kdX 0 = 8)) rfl 0 (by decide) G_fl_X8_12 rfl rfl dX8_block_1 ?_
  refine lv_iload_n hx hb dX8_block_4 rfl (lv_at hl 1 rfl) ?_
  refine va_callq (va_runV (As := [.int _]) (rest := []) ⟨hx, hb, hml, hown, hts⟩ (c_X6_at l hI (rfl : kdX 1 = 6) h) (cwV 1 hts gv_X8_97 rfl rfl rfl hv_X6_at ⟨Nat.le_of_ble_eq_true rfl, Nat.le_of_ble_eq_true rfl⟩) (preV_X hKX hP hS (kX_lt (rfl : kdX 1 = 6)) (eX6 (rfl : kdX 1 = 6)) rfl) rfl rfl hl.1 rfl (lv_room (Nat.le_of_ble_eq_true rfl)) dX8_block_5 ⟨Nat.le_of_ble_eq_true rfl, Nat.le_of_ble_eq_true rfl⟩) hS (fun _ _ h => h) (fun _ h => h) (fun q S1 t H locs ht _ h hB _ _ hS => ?_)
  have hP : VX dC dI cA P S1 H := by rw [← ht]; exact hB
  obtain ⟨o2, rfl, hko, h⟩ := h
  rcases o2 with _ | k3
  · replace h := h.1 rfl
    refine lv_astoreN (lv' := [(4, .null), (0, .ref (P 0)), (1, .int v1), (2, .int v2), (3, .int v3)]) hx hb dX8_block_8 hl (by decide) rfl (fun ls hl => ?_)
    refine lv_aloadN hx hb dX8_block_10 (lv_at hl 0 rfl) ?_
    refine lv_ifnullN (tgt := 40) hx hb dX8_block_12 (by decide) ?_
    refine lv_iconst (v := (-1)) hx hb dX8_block_40 (by decide) ?_
    exact g_iret hx hb hr hlocks h hP hS dX8_block_41
  · have hk4 := hko k3 rfl
    replace h := h.2 k3 rfl
    refine lv_astore (lv' := [(4, .ref (P k3)), (0, .ref (P 0)), (1, .int v1), (2, .int v2), (3, .int v3)]) hx hb dX8_block_8 hl (by decide) rfl (fun ls hl => ?_)
    refine lv_aload hx hb dX8_block_10 (lv_at hl 0 rfl) ?_
    refine lv_ifnull hx hb dX8_block_12 ?_
    refine lv_aload hx hb dX8_block_15 (lv_at hl 0 rfl) ?_
    refine lv_iload_n hx hb dX8_block_17 rfl (lv_at hl 3 rfl) ?_
    refine va_calli (va_runV (As := [.int _]) (rest := []) ⟨hx, hb, hml, hown, hts⟩ (c_X1_partsInto l hI hk4 h) (cwV 1 hts gv_X8_148 rfl rfl rfl hv_X1_partsInto ⟨Nat.le_of_ble_eq_true rfl, Nat.le_of_ble_eq_true rfl⟩) (preV_X hKX hP hS (kX_lt hk4) (eX1 hk4) rfl) rfl rfl hl.1 rfl (lv_room (Nat.le_of_ble_eq_true rfl)) dX8_block_18 ⟨Nat.le_of_ble_eq_true rfl, Nat.le_of_ble_eq_true rfl⟩) hS (fun _ _ h => h) (fun _ h => h) (fun r6 S5 t H locs ht _ h hB _ _ hS => ?_)
    have hP : VX dC dI cA P S5 H := by rw [← ht]; exact hB
    refine lv_if_eq (tgt := 40) hx hb dX8_block_21 (by decide) (fun c7 => ?_) (fun c7 => ?_)
    · replace h := h.1 c7
      refine lv_iconst (v := (-1)) hx hb dX8_block_40 (by decide) ?_
      exact g_iret hx hb hr hlocks h hP hS dX8_block_41
    · replace h := h.2 c7
      refine lv_iload_n hx hb dX8_block_24 rfl (lv_at hl 4 rfl) ?_
      refine lv_iconst (v := (-1)) hx hb dX8_block_25 (by decide) ?_
      refine lv_aload hx hb dX8_block_26 (lv_at hl 0 rfl) ?_
      refine lv_iload_n hx hb dX8_block_28 rfl (lv_at hl 3 rfl) ?_
      refine va_calli (va_runV (As := [.int _]) (rest := [.int _, .int _]) ⟨hx, hb, hml, hown, hts⟩ (c_X1_blockWidth l hI hk4 h) (cwV 1 hts gv_X8_151 rfl rfl rfl hv_X1_blockWidth ⟨Nat.le_of_ble_eq_true rfl, Nat.le_of_ble_eq_true rfl⟩) (preV_X hKX hP hS (kX_lt hk4) (eX1 hk4) rfl) rfl rfl hl.1 rfl (lv_room (Nat.le_of_ble_eq_true rfl)) dX8_block_29 ⟨Nat.le_of_ble_eq_true rfl, Nat.le_of_ble_eq_true rfl⟩) hS (fun _ _ h => h) (fun _ h => h) (fun r9 S8 t H locs ht _ h hB _ _ hS => ?_)
      have hP : VX dC dI cA P S8 H := by rw [← ht]; exact hB
      refine lv_iconst (v := 1) hx hb dX8_block_32 (by decide) ?_
      refine lv_isub hx hb dX8_block_33 ?_
      replace h := h _ rfl
      refine va_calli (va_runS (As := [.int _, .int _, .int _]) (rest := []) ⟨hx, hb, hml, hown, hts⟩ (c_X8_isWithin l hI h) (va_cwS 3 hts gs_X8_81 rfl rfl rfl hd_X8_isWithin ⟨Nat.le_of_ble_eq_true rfl, Nat.le_of_ble_eq_true rfl⟩) (preS_X hKX hP hS) rfl rfl hl.1 rfl (lv_room (Nat.le_of_ble_eq_true rfl)) dX8_block_34 ⟨Nat.le_of_ble_eq_true rfl, Nat.le_of_ble_eq_true rfl⟩) hS (fun _ _ h => h) (fun _ h => h) (fun r12 S11 t H locs ht _ h hB _ _ hS => ?_)
      have hP : VX dC dI cA P S11 H := by rw [← ht]; exact hB
      refine lv_if_ne (tgt := 42) hx hb dX8_block_37 (by decide) (fun c13 => ?_) (fun c13 => ?_)
      · replace h := h.2 c13
        refine lv_aload_n hx hb dX8_block_42 rfl (lv_at hl 1 rfl) ?_
        refine g_get (v := .ref (P 52)) hx hb hts inG_X8 hown hK hP (kX_lt (rfl : kdX 0 = 8)) (eX8 (rfl : kdX 0 = 8)) rfl 9 (by decide) G_fl_X8_65 rfl rfl dX8_block_43 ?_
        refine lv_aload hx hb dX8_block_46 (lv_at hl 0 rfl) ?_
        refine va_callv (va_runV (As := [.ref _]) (rest := []) ⟨hx, hb, hml, hown, hts⟩ (c_X4_load l hI hk4 h) (cwV 1 hts gv_X8_154 rfl rfl rfl hv_X4_load ⟨Nat.le_of_ble_eq_true rfl, Nat.le_of_ble_eq_true rfl⟩) (preV_X hKX hP hS (kX_lt (rfl : kdX 52 = 4)) (eX4 (rfl : kdX 52 = 4)) rfl) rfl rfl hl.1 rfl (lv_room (Nat.le_of_ble_eq_true rfl)) dX8_block_48 ⟨Nat.le_of_ble_eq_true rfl, Nat.le_of_ble_eq_true rfl⟩) hS (fun _ _ h => h) (fun _ h => h) (fun S14 t H locs ht _ h hB _ _ hS => ?_)
        have hP : VX dC dI cA P S14 H := by rw [← ht]; exact hB
        refine lv_aload_n hx hb dX8_block_51 rfl (lv_at hl 1 rfl) ?_
        refine g_get (v := .ref (P 52)) hx hb hts inG_X8 hown hK hP (kX_lt (rfl : kdX 0 = 8)) (eX8 (rfl : kdX 0 = 8)) rfl 9 (by decide) G_fl_X8_65 rfl rfl dX8_block_52 ?_
        refine lv_iload_n hx hb dX8_block_55 rfl (lv_at hl 3 rfl) ?_
        refine lv_aload hx hb dX8_block_56 (lv_at hl 0 rfl) ?_
        refine lv_iload_n hx hb dX8_block_58 rfl (lv_at hl 3 rfl) ?_
        refine va_calli (va_runV (As := [.int _]) (rest := [.int _, .ref _]) ⟨hx, hb, hml, hown, hts⟩ (c_X1_blockWidth l hI hk4 h) (cwV 1 hts gv_X8_151 rfl rfl rfl hv_X1_blockWidth ⟨Nat.le_of_ble_eq_true rfl, Nat.le_of_ble_eq_true rfl⟩) (preV_X hKX hP hS (kX_lt hk4) (eX1 hk4) rfl) rfl rfl hl.1 rfl (lv_room (Nat.le_of_ble_eq_true rfl)) dX8_block_59 ⟨Nat.le_of_ble_eq_true rfl, Nat.le_of_ble_eq_true rfl⟩) hS (fun _ _ h => h) (fun _ h => h) (fun r16 S15 t H locs ht _ h hB _ _ hS => ?_)
        have hP : VX dC dI cA P S15 H := by rw [← ht]; exact hB
        refine lv_iload_n hx hb dX8_block_62 rfl (lv_at hl 4 rfl) ?_
        refine lv_aload hx hb dX8_block_63 (lv_at hl 0 rfl) ?_
        refine g_get (v := .int (S15.1 k3 2)) hx hb hts inG_X1 hown hK hP (kX_lt hk4) (eX1 hk4) rfl 2 (by decide) G_fl_X8_108 rfl rfl dX8_block_65 ?_
        replace h := h _ rfl
        refine va_calli (va_runV (As := [.int _, .int _, .int _, .int _]) (rest := []) ⟨hx, hb, hml, hown, hts⟩ (c_X4_placeOfBlocks l hI h) (cwV 4 hts gv_X8_158 rfl rfl rfl hv_X4_placeOfBlocks ⟨Nat.le_of_ble_eq_true rfl, Nat.le_of_ble_eq_true rfl⟩) (preV_X hKX hP hS (kX_lt (rfl : kdX 52 = 4)) (eX4 (rfl : kdX 52 = 4)) rfl) rfl rfl hl.1 rfl (lv_room (Nat.le_of_ble_eq_true rfl)) dX8_block_68 ⟨Nat.le_of_ble_eq_true rfl, Nat.le_of_ble_eq_true rfl⟩) hS (fun _ _ h => h) (fun _ h => h) (fun r19 S18 t H locs ht _ h hB _ _ hS => ?_)
        have hP : VX dC dI cA P S18 H := by rw [← ht]; exact hB
        exact g_iret hx hb hr hlocks h hP hS dX8_block_71
      · replace h := h.1 c13
        refine lv_iconst (v := (-1)) hx hb dX8_block_40 (by decide) ?_
        exact g_iret hx hb hr hlocks h hP hS dX8_block_41
set_option maxRecDepth 100000 in
set_option maxHeartbeats 4000000 in
theorem c_X8_block (l : Launch) {dC : Nat → ClassId} {dI : Nat → Nat → Nat} {cA : Nat → ClassId} {adK adV P : Nat → Nat} (hI : PInj 56 P) {v1 : Int32} {v2 : Int32} {v3 : Int32}  {post : Int32 → St → Prop} {S : St} (h : w_X8_block v1 v2 v3 post S) : Met l yX8_block (wW yX8_block cX8_block 5 (some .int)) ({ frames := 3, cells := 0, slots := 0, locals := 67 } : Room) (va_Pc [.ref (P 0), .int v1, .int v2, .int v3] (PreX dC dI cA adK adV P S)) (va_Qi post (fun u t => VX dC dI cA P u t.heap) (PA 56 P)) 0 0 (PA 56 P) := by
  refine Met.ofW (cc := cX8_block) (maxL := 5) (ret := (some .int)) (by decide) rfl ?_
  intro p e s m args below meth c s₁ B hml hv
  obtain ⟨rfl, hP, hKX⟩ := hv
  have hts : ∀ w ∈ G, w.before [.ref (P 0), .int v1, .int v2, .int v3].toArray s = true := fun w hw => atoms_spec (ws := wW yX8_block cX8_block 5 (some .int)) B.pre w (List.mem_cons_of_mem _ hw)
  have C : CtxX dC dI cA adK adV P p s m [.ref (P 0), .int v1, .int v2, .int v3].toArray meth c cX8_block 5 (some .int) RX8 := ⟨hI, hKX, ⟨B.exec, B.bytes, hml, findClass_of_methodNamed B.named, hts⟩, B.returns, B.notSynchronized⟩
  have hS : va_S (PA 56 P) s.heap s.heap [] := va_S.rf
  have hl := lv_entry ([.ref (P 0), .int v1, .int v2, .int v3]) (n := 5) (Nat.le_of_ble_eq_true rfl)
  rw [lg_entry_eq]
  generalize (lg_sl ([.ref (P 0), .int v1, .int v2, .int v3]) ++ List.replicate (5 - (lg_sl ([.ref (P 0), .int v1, .int v2, .int v3])).length) Slot.unset).toArray = ls at hl ⊢
  have hl : lv_has ls 5 [(0, .ref (P 0)), (1, .int v1), (2, .int v2), (3, .int v3)] := hl
  exact e_X8_block C _ _ _ _ _ _ _ h  hP hS hl
set_option maxRecDepth 100000 in
set_option maxHeartbeats 4000000 in
theorem e_X8_nines {p : Program} {l : Launch} {e : Env} {s : State} {m : MethodId} {args : Array Value} {below : List Frame} {meth : Method} {c : Code} {dC : Nat → ClassId} {dI : Nat → Nat → Nat} {cA : Nat → ClassId} {adK adV P : Nat → Nat} (C : CtxX dC dI cA adK adV P p s m args meth c cX8_nines 4 (some .int) RX8) {post : Int32 → St → Prop} : ∀ (v1 : Int32) (v2 : Int32) (S : St) (H : Heap) (locs : List Loc) (ls : Array Slot), w_X8_nines v1 v2 post S → VX dC dI cA P S H → va_S (PA 56 P) s.heap H locs → lv_has ls 4 [(0, .ref (P 0)), (1, .int v1), (2, .int v2)] → W p l e ({ frames := 3, cells := 0, slots := 0, locals := 69 } : Room) s m args below meth c H locs 0 0 (MQ below (va_Qi post (fun u t => VX dC dI cA P u t.heap) (PA 56 P)) args s 0 0 (PA 56 P)) (F0 m 0 ls []) := by
  have C := C
  obtain ⟨hI, hKX, ⟨hx, hb, hml, hown, hts⟩, hr, hlocks⟩ := id C
  have hK := hKX.1
  intro v1 v2 S H locs ls h hP hS hl
  rw [w_X8_nines] at h
  refine lv_aload_n hx hb dX8_nines_0 rfl (lv_at hl 0 rfl) ?_
  refine g_get (v := .ref (P 1)) hx hb hts inG_X8 hown hK hP (kX_lt (rfl : kdX 0 = 8)) (eX8 (rfl : kdX 0 = 8)) rfl 0 (by decide) G_fl_X8_12 rfl rfl dX8_nines_1 ?_
  refine lv_iload_n hx hb dX8_nines_4 rfl (lv_at hl 1 rfl) ?_
  refine va_callq (va_runV (As := [.int _]) (rest := []) ⟨hx, hb, hml, hown, hts⟩ (c_X6_at l hI (rfl : kdX 1 = 6) h) (cwV 1 hts gv_X8_97 rfl rfl rfl hv_X6_at ⟨Nat.le_of_ble_eq_true rfl, Nat.le_of_ble_eq_true rfl⟩) (preV_X hKX hP hS (kX_lt (rfl : kdX 1 = 6)) (eX6 (rfl : kdX 1 = 6)) rfl) rfl rfl hl.1 rfl (lv_room (Nat.le_of_ble_eq_true rfl)) dX8_nines_5 ⟨Nat.le_of_ble_eq_true rfl, Nat.le_of_ble_eq_true rfl⟩) hS (fun _ _ h => h) (fun _ h => h) (fun q S1 t H locs ht _ h hB _ _ hS => ?_)
  have hP : VX dC dI cA P S1 H := by rw [← ht]; exact hB
  obtain ⟨o2, rfl, hko, h⟩ := h
  rcases o2 with _ | k3
  · replace h := h.1 rfl
    refine lv_astore_nN (lv' := [(3, .null), (0, .ref (P 0)), (1, .int v1), (2, .int v2)]) hx hb dX8_nines_8 rfl hl (by decide) rfl (fun ls hl => ?_)
    refine lv_aload_nN hx hb dX8_nines_9 rfl (lv_at hl 0 rfl) ?_
    refine lv_ifnullN (tgt := 21) hx hb dX8_nines_10 (by decide) ?_
    refine lv_iconst (v := (-1)) hx hb dX8_nines_21 (by decide) ?_
    exact g_iret hx hb hr hlocks h hP hS dX8_nines_22
  · have hk4 := hko k3 rfl
    replace h := h.2 k3 rfl
    refine lv_astore_n (lv' := [(3, .ref (P k3)), (0, .ref (P 0)), (1, .int v1), (2, .int v2)]) hx hb dX8_nines_8 rfl hl (by decide) rfl (fun ls hl => ?_)
    refine lv_aload_n hx hb dX8_nines_9 rfl (lv_at hl 0 rfl) ?_
    refine lv_ifnull hx hb dX8_nines_10 ?_
    refine lv_aload_n hx hb dX8_nines_13 rfl (lv_at hl 0 rfl) ?_
    refine lv_iload_n hx hb dX8_nines_14 rfl (lv_at hl 3 rfl) ?_
    refine va_calli (va_runV (As := [.int _]) (rest := []) ⟨hx, hb, hml, hown, hts⟩ (c_X1_partsInto l hI hk4 h) (cwV 1 hts gv_X8_148 rfl rfl rfl hv_X1_partsInto ⟨Nat.le_of_ble_eq_true rfl, Nat.le_of_ble_eq_true rfl⟩) (preV_X hKX hP hS (kX_lt hk4) (eX1 hk4) rfl) rfl rfl hl.1 rfl (lv_room (Nat.le_of_ble_eq_true rfl)) dX8_nines_15 ⟨Nat.le_of_ble_eq_true rfl, Nat.le_of_ble_eq_true rfl⟩) hS (fun _ _ h => h) (fun _ h => h) (fun r6 S5 t H locs ht _ h hB _ _ hS => ?_)
    have hP : VX dC dI cA P S5 H := by rw [← ht]; exact hB
    refine lv_if_ne (tgt := 23) hx hb dX8_nines_18 (by decide) (fun c7 => ?_) (fun c7 => ?_)
    · replace h := h.2 c7
      refine lv_aload_n hx hb dX8_nines_23 rfl (lv_at hl 0 rfl) ?_
      refine lv_iload_n hx hb dX8_nines_24 rfl (lv_at hl 3 rfl) ?_
      refine va_calli (va_runV (As := [.int _]) (rest := []) ⟨hx, hb, hml, hown, hts⟩ (c_X1_ninesOfBlocks l hI hk4 h) (cwV 1 hts gv_X8_162 rfl rfl rfl hv_X1_ninesOfBlocks ⟨Nat.le_of_ble_eq_true rfl, Nat.le_of_ble_eq_true rfl⟩) (preV_X hKX hP hS (kX_lt hk4) (eX1 hk4) rfl) rfl rfl hl.1 rfl (lv_room (Nat.le_of_ble_eq_true rfl)) dX8_nines_25 ⟨Nat.le_of_ble_eq_true rfl, Nat.le_of_ble_eq_true rfl⟩) hS (fun _ _ h => h) (fun _ h => h) (fun r9 S8 t H locs ht _ h hB _ _ hS => ?_)
      have hP : VX dC dI cA P S8 H := by rw [← ht]; exact hB
      exact g_iret hx hb hr hlocks h hP hS dX8_nines_28
    · replace h := h.1 c7
      refine lv_iconst (v := (-1)) hx hb dX8_nines_21 (by decide) ?_
      exact g_iret hx hb hr hlocks h hP hS dX8_nines_22
set_option maxRecDepth 100000 in
set_option maxHeartbeats 4000000 in
theorem c_X8_nines (l : Launch) {dC : Nat → ClassId} {dI : Nat → Nat → Nat} {cA : Nat → ClassId} {adK adV P : Nat → Nat} (hI : PInj 56 P) {v1 : Int32} {v2 : Int32}  {post : Int32 → St → Prop} {S : St} (h : w_X8_nines v1 v2 post S) : Met l yX8_nines (wW yX8_nines cX8_nines 4 (some .int)) ({ frames := 3, cells := 0, slots := 0, locals := 69 } : Room) (va_Pc [.ref (P 0), .int v1, .int v2] (PreX dC dI cA adK adV P S)) (va_Qi post (fun u t => VX dC dI cA P u t.heap) (PA 56 P)) 0 0 (PA 56 P) := by
  refine Met.ofW (cc := cX8_nines) (maxL := 4) (ret := (some .int)) (by decide) rfl ?_
  intro p e s m args below meth c s₁ B hml hv
  obtain ⟨rfl, hP, hKX⟩ := hv
  have hts : ∀ w ∈ G, w.before [.ref (P 0), .int v1, .int v2].toArray s = true := fun w hw => atoms_spec (ws := wW yX8_nines cX8_nines 4 (some .int)) B.pre w (List.mem_cons_of_mem _ hw)
  have C : CtxX dC dI cA adK adV P p s m [.ref (P 0), .int v1, .int v2].toArray meth c cX8_nines 4 (some .int) RX8 := ⟨hI, hKX, ⟨B.exec, B.bytes, hml, findClass_of_methodNamed B.named, hts⟩, B.returns, B.notSynchronized⟩
  have hS : va_S (PA 56 P) s.heap s.heap [] := va_S.rf
  have hl := lv_entry ([.ref (P 0), .int v1, .int v2]) (n := 4) (Nat.le_of_ble_eq_true rfl)
  rw [lg_entry_eq]
  generalize (lg_sl ([.ref (P 0), .int v1, .int v2]) ++ List.replicate (4 - (lg_sl ([.ref (P 0), .int v1, .int v2])).length) Slot.unset).toArray = ls at hl ⊢
  have hl : lv_has ls 4 [(0, .ref (P 0)), (1, .int v1), (2, .int v2)] := hl
  exact e_X8_nines C _ _ _ _ _ _ h  hP hS hl
set_option maxRecDepth 100000 in
set_option maxHeartbeats 4000000 in
theorem e_X8_shift {p : Program} {l : Launch} {e : Env} {s : State} {m : MethodId} {args : Array Value} {below : List Frame} {meth : Method} {c : Code} {dC : Nat → ClassId} {dI : Nat → Nat → Nat} {cA : Nat → ClassId} {adK adV P : Nat → Nat} (C : CtxX dC dI cA adK adV P p s m args meth c cX8_shift 4 (some .int) RX8) {post : Int32 → St → Prop} : ∀ (v1 : Int32) (v2 : Int32) (S : St) (H : Heap) (locs : List Loc) (ls : Array Slot), w_X8_shift v1 v2 post S → VX dC dI cA P S H → va_S (PA 56 P) s.heap H locs → lv_has ls 4 [(0, .ref (P 0)), (1, .int v1), (2, .int v2)] → W p l e ({ frames := 2, cells := 0, slots := 0, locals := 44 } : Room) s m args below meth c H locs 0 0 (MQ below (va_Qi post (fun u t => VX dC dI cA P u t.heap) (PA 56 P)) args s 0 0 (PA 56 P)) (F0 m 0 ls []) := by
  have C := C
  obtain ⟨hI, hKX, ⟨hx, hb, hml, hown, hts⟩, hr, hlocks⟩ := id C
  have hK := hKX.1
  intro v1 v2 S H locs ls h hP hS hl
  rw [w_X8_shift] at h
  refine lv_aload_n hx hb dX8_shift_0 rfl (lv_at hl 0 rfl) ?_
  refine g_get (v := .ref (P 1)) hx hb hts inG_X8 hown hK hP (kX_lt (rfl : kdX 0 = 8)) (eX8 (rfl : kdX 0 = 8)) rfl 0 (by decide) G_fl_X8_12 rfl rfl dX8_shift_1 ?_
  refine lv_iload_n hx hb dX8_shift_4 rfl (lv_at hl 1 rfl) ?_
  refine va_callq (va_runV (As := [.int _]) (rest := []) ⟨hx, hb, hml, hown, hts⟩ (c_X6_at l hI (rfl : kdX 1 = 6) h) (cwV 1 hts gv_X8_97 rfl rfl rfl hv_X6_at ⟨Nat.le_of_ble_eq_true rfl, Nat.le_of_ble_eq_true rfl⟩) (preV_X hKX hP hS (kX_lt (rfl : kdX 1 = 6)) (eX6 (rfl : kdX 1 = 6)) rfl) rfl rfl hl.1 rfl (lv_room (Nat.le_of_ble_eq_true rfl)) dX8_shift_5 ⟨Nat.le_of_ble_eq_true rfl, Nat.le_of_ble_eq_true rfl⟩) hS (fun _ _ h => h) (fun _ h => h) (fun q S1 t H locs ht _ h hB _ _ hS => ?_)
  have hP : VX dC dI cA P S1 H := by rw [← ht]; exact hB
  obtain ⟨o2, rfl, hko, h⟩ := h
  rcases o2 with _ | k3
  · replace h := h.1 rfl
    refine lv_astore_nN (lv' := [(3, .null), (0, .ref (P 0)), (1, .int v1), (2, .int v2)]) hx hb dX8_shift_8 rfl hl (by decide) rfl (fun ls hl => ?_)
    refine lv_aload_nN hx hb dX8_shift_9 rfl (lv_at hl 0 rfl) ?_
    refine lv_ifnullN (tgt := 24) hx hb dX8_shift_10 (by decide) ?_
    refine lv_iconst (v := (-1)) hx hb dX8_shift_24 (by decide) ?_
    exact g_iret hx hb hr hlocks h hP hS dX8_shift_25
  · have hk4 := hko k3 rfl
    replace h := h.2 k3 rfl
    refine lv_astore_n (lv' := [(3, .ref (P k3)), (0, .ref (P 0)), (1, .int v1), (2, .int v2)]) hx hb dX8_shift_8 rfl hl (by decide) rfl (fun ls hl => ?_)
    refine lv_aload_n hx hb dX8_shift_9 rfl (lv_at hl 0 rfl) ?_
    refine lv_ifnull hx hb dX8_shift_10 ?_
    refine lv_iload_n hx hb dX8_shift_13 rfl (lv_at hl 3 rfl) ?_
    refine lv_iconst (v := 1) hx hb dX8_shift_14 (by decide) ?_
    refine lv_sipush (v := 999) hx hb dX8_shift_15 (by decide) ?_
    refine va_calli (va_runS (As := [.int _, .int _, .int _]) (rest := []) ⟨hx, hb, hml, hown, hts⟩ (c_X8_isWithin l hI h) (va_cwS 3 hts gs_X8_81 rfl rfl rfl hd_X8_isWithin ⟨Nat.le_of_ble_eq_true rfl, Nat.le_of_ble_eq_true rfl⟩) (preS_X hKX hP hS) rfl rfl hl.1 rfl (lv_room (Nat.le_of_ble_eq_true rfl)) dX8_shift_18 ⟨Nat.le_of_ble_eq_true rfl, Nat.le_of_ble_eq_true rfl⟩) hS (fun _ _ h => h) (fun _ h => h) (fun r6 S5 t H locs ht _ h hB _ _ hS => ?_)
    have hP : VX dC dI cA P S5 H := by rw [← ht]; exact hB
    refine lv_if_ne (tgt := 26) hx hb dX8_shift_21 (by decide) (fun c7 => ?_) (fun c7 => ?_)
    · replace h := h.2 c7
      refine lv_aload_n hx hb dX8_shift_26 rfl (lv_at hl 0 rfl) ?_
      refine lv_aload_n hx hb dX8_shift_27 rfl (lv_at hl 0 rfl) ?_
      refine lv_iload_n hx hb dX8_shift_28 rfl (lv_at hl 3 rfl) ?_
      refine va_calli (va_runV (As := [.int _]) (rest := [.ref _]) ⟨hx, hb, hml, hown, hts⟩ (c_X1_turningRestTimes l hI hk4 h) (cwV 1 hts gv_X8_165 rfl rfl rfl hv_X1_turningRestTimes ⟨Nat.le_of_ble_eq_true rfl, Nat.le_of_ble_eq_true rfl⟩) (preV_X hKX hP hS (kX_lt hk4) (eX1 hk4) rfl) rfl rfl hl.1 rfl (lv_room (Nat.le_of_ble_eq_true rfl)) dX8_shift_29 ⟨Nat.le_of_ble_eq_true rfl, Nat.le_of_ble_eq_true rfl⟩) hS (fun _ _ h => h) (fun _ h => h) (fun r9 S8 t H locs ht _ h hB _ _ hS => ?_)
      have hP : VX dC dI cA P S8 H := by rw [← ht]; exact hB
      refine va_calli (va_runV (As := [.int _]) (rest := []) ⟨hx, hb, hml, hown, hts⟩ (c_X1_placeInPeriod l hI hk4 h) (cwV 1 hts gv_X8_168 rfl rfl rfl hv_X1_placeInPeriod ⟨Nat.le_of_ble_eq_true rfl, Nat.le_of_ble_eq_true rfl⟩) (preV_X hKX hP hS (kX_lt hk4) (eX1 hk4) rfl) rfl rfl hl.1 rfl (lv_room (Nat.le_of_ble_eq_true rfl)) dX8_shift_32 ⟨Nat.le_of_ble_eq_true rfl, Nat.le_of_ble_eq_true rfl⟩) hS (fun _ _ h => h) (fun _ h => h) (fun r11 S10 t H locs ht _ h hB _ _ hS => ?_)
      have hP : VX dC dI cA P S10 H := by rw [← ht]; exact hB
      exact g_iret hx hb hr hlocks h hP hS dX8_shift_35
    · replace h := h.1 c7
      refine lv_iconst (v := (-1)) hx hb dX8_shift_24 (by decide) ?_
      exact g_iret hx hb hr hlocks h hP hS dX8_shift_25
set_option maxRecDepth 100000 in
set_option maxHeartbeats 4000000 in
theorem c_X8_shift (l : Launch) {dC : Nat → ClassId} {dI : Nat → Nat → Nat} {cA : Nat → ClassId} {adK adV P : Nat → Nat} (hI : PInj 56 P) {v1 : Int32} {v2 : Int32}  {post : Int32 → St → Prop} {S : St} (h : w_X8_shift v1 v2 post S) : Met l yX8_shift (wW yX8_shift cX8_shift 4 (some .int)) ({ frames := 2, cells := 0, slots := 0, locals := 44 } : Room) (va_Pc [.ref (P 0), .int v1, .int v2] (PreX dC dI cA adK adV P S)) (va_Qi post (fun u t => VX dC dI cA P u t.heap) (PA 56 P)) 0 0 (PA 56 P) := by
  refine Met.ofW (cc := cX8_shift) (maxL := 4) (ret := (some .int)) (by decide) rfl ?_
  intro p e s m args below meth c s₁ B hml hv
  obtain ⟨rfl, hP, hKX⟩ := hv
  have hts : ∀ w ∈ G, w.before [.ref (P 0), .int v1, .int v2].toArray s = true := fun w hw => atoms_spec (ws := wW yX8_shift cX8_shift 4 (some .int)) B.pre w (List.mem_cons_of_mem _ hw)
  have C : CtxX dC dI cA adK adV P p s m [.ref (P 0), .int v1, .int v2].toArray meth c cX8_shift 4 (some .int) RX8 := ⟨hI, hKX, ⟨B.exec, B.bytes, hml, findClass_of_methodNamed B.named, hts⟩, B.returns, B.notSynchronized⟩
  have hS : va_S (PA 56 P) s.heap s.heap [] := va_S.rf
  have hl := lv_entry ([.ref (P 0), .int v1, .int v2]) (n := 4) (Nat.le_of_ble_eq_true rfl)
  rw [lg_entry_eq]
  generalize (lg_sl ([.ref (P 0), .int v1, .int v2]) ++ List.replicate (4 - (lg_sl ([.ref (P 0), .int v1, .int v2])).length) Slot.unset).toArray = ls at hl ⊢
  have hl : lv_has ls 4 [(0, .ref (P 0)), (1, .int v1), (2, .int v2)] := hl
  exact e_X8_shift C _ _ _ _ _ _ h  hP hS hl
set_option maxRecDepth 100000 in
set_option maxHeartbeats 4000000 in
theorem b_X8_multiple_44 {p : Program} {l : Launch} {e : Env} {s : State} {m : MethodId} {args : Array Value} {below : List Frame} {meth : Method} {c : Code} {dC : Nat → ClassId} {dI : Nat → Nat → Nat} {cA : Nat → ClassId} {adK adV P : Nat → Nat} (C : CtxX dC dI cA adK adV P p s m args meth c cX8_multiple 6 (some .int) RX8) {post : Int32 → St → Prop}  : ∀ (n : Nat) (k3 : Nat) (v4 : Int32) (v5 : Int32) (S : St) (H : Heap) (locs : List Loc) (ls : Array Slot), w_X8_multiple_44 post n k3 v4 v5 S → kdX k3 = 1 → VX dC dI cA P S H → va_S (PA 56 P) s.heap H locs → lv_has ls 6 [(3, .ref (P k3)), (4, .int v4), (5, .int v5)] → W p l e ({ frames := 2, cells := 0, slots := 0, locals := 45 } : Room) s m args below meth c H locs 0 0 (MQ below (va_Qi post (fun u t => VX dC dI cA P u t.heap) (PA 56 P)) args s 0 0 (PA 56 P)) (F0 m 44 ls []) := by
  have C := C
  obtain ⟨hI, hKX, ⟨hx, hb, hml, hown, hts⟩, hr, hlocks⟩ := id C
  have hK := hKX.1
  intro n
  induction n with
  | zero =>
    intro k3 v4 v5 S H locs ls h hk3 hP hS hl
    simp only [w_X8_multiple_44] at h
  | succ n ih =>
    intro k3 v4 v5 S H locs ls h hk3 hP hS hl
    rw [w_X8_multiple_44] at h
    refine lv_iload hx hb dX8_multiple_44 (lv_at hl 2 rfl) ?_
    refine lv_sipush (v := 999) hx hb dX8_multiple_46 (by decide) ?_
    refine lv_icmp_gt (tgt := 72) hx hb dX8_multiple_49 (by decide) (fun c12 => ?_) (fun c12 => ?_)
    · replace h := h.1 c12
      refine lv_bipush (v := (-2)) hx hb dX8_multiple_72 (by decide) ?_
      exact g_iret hx hb hr hlocks h hP hS dX8_multiple_74
    · replace h := h.2 c12
      refine lv_aload_n hx hb dX8_multiple_52 rfl (lv_at hl 0 rfl) ?_
      refine lv_iload hx hb dX8_multiple_53 (lv_at hl 2 rfl) ?_
      refine va_calli (va_runV (As := [.int _]) (rest := []) ⟨hx, hb, hml, hown, hts⟩ (c_X1_turningRestTimes l hI hk3 h) (cwV 1 hts gv_X8_165 rfl rfl rfl hv_X1_turningRestTimes ⟨Nat.le_of_ble_eq_true rfl, Nat.le_of_ble_eq_true rfl⟩) (preV_X hKX hP hS (kX_lt hk3) (eX1 hk3) rfl) rfl rfl hl.1 rfl (lv_room (Nat.le_of_ble_eq_true rfl)) dX8_multiple_55 ⟨Nat.le_of_ble_eq_true rfl, Nat.le_of_ble_eq_true rfl⟩) hS (fun _ _ h => h) (fun _ h => h) (fun r14 S13 t H locs ht _ h hB _ _ hS => ?_)
      have hP : VX dC dI cA P S13 H := by rw [← ht]; exact hB
      refine lv_iload hx hb dX8_multiple_58 (lv_at hl 1 rfl) ?_
      refine lv_icmp_ne (tgt := 66) hx hb dX8_multiple_60 (by decide) (fun c15 => ?_) (fun c15 => ?_)
      · replace h := h.2 c15
        obtain ⟨x16, ex16⟩ : ∃ y : Int32, y = v5 + 1 := ⟨_, rfl⟩
        replace h := h x16 ex16
        refine lv_iinc (v := x16) (lv' := [(5, .int x16), (3, .ref (P k3)), (4, .int v4)]) hx hb dX8_multiple_66 hl (k := 2) rfl (by rw [ex16]; rfl) (by decide) rfl (fun ls hl => ?_)
        refine lv_goto (tgt := 44) hx hb dX8_multiple_69 (by decide) ?_
        exact ih _ _ _ _ _ _ _ h hk3 hP hS (lv_sub hl [1, 2, 0] rfl)
      · replace h := h.1 c15
        refine lv_iload hx hb dX8_multiple_63 (lv_at hl 2 rfl) ?_
        exact g_iret hx hb hr hlocks h hP hS dX8_multiple_65
set_option maxRecDepth 100000 in
set_option maxHeartbeats 4000000 in
theorem e_X8_multiple {p : Program} {l : Launch} {e : Env} {s : State} {m : MethodId} {args : Array Value} {below : List Frame} {meth : Method} {c : Code} {dC : Nat → ClassId} {dI : Nat → Nat → Nat} {cA : Nat → ClassId} {adK adV P : Nat → Nat} (C : CtxX dC dI cA adK adV P p s m args meth c cX8_multiple 6 (some .int) RX8) {post : Int32 → St → Prop} : ∀ (v1 : Int32) (v2 : Int32) (S : St) (H : Heap) (locs : List Loc) (ls : Array Slot), w_X8_multiple v1 v2 post S → VX dC dI cA P S H → va_S (PA 56 P) s.heap H locs → lv_has ls 6 [(0, .ref (P 0)), (1, .int v1), (2, .int v2)] → W p l e ({ frames := 2, cells := 0, slots := 0, locals := 45 } : Room) s m args below meth c H locs 0 0 (MQ below (va_Qi post (fun u t => VX dC dI cA P u t.heap) (PA 56 P)) args s 0 0 (PA 56 P)) (F0 m 0 ls []) := by
  have C := C
  obtain ⟨hI, hKX, ⟨hx, hb, hml, hown, hts⟩, hr, hlocks⟩ := id C
  have hK := hKX.1
  intro v1 v2 S H locs ls h hP hS hl
  rw [w_X8_multiple] at h
  refine lv_aload_n hx hb dX8_multiple_0 rfl (lv_at hl 0 rfl) ?_
  refine g_get (v := .ref (P 1)) hx hb hts inG_X8 hown hK hP (kX_lt (rfl : kdX 0 = 8)) (eX8 (rfl : kdX 0 = 8)) rfl 0 (by decide) G_fl_X8_12 rfl rfl dX8_multiple_1 ?_
  refine lv_iload_n hx hb dX8_multiple_4 rfl (lv_at hl 1 rfl) ?_
  refine va_callq (va_runV (As := [.int _]) (rest := []) ⟨hx, hb, hml, hown, hts⟩ (c_X6_at l hI (rfl : kdX 1 = 6) h) (cwV 1 hts gv_X8_97 rfl rfl rfl hv_X6_at ⟨Nat.le_of_ble_eq_true rfl, Nat.le_of_ble_eq_true rfl⟩) (preV_X hKX hP hS (kX_lt (rfl : kdX 1 = 6)) (eX6 (rfl : kdX 1 = 6)) rfl) rfl rfl hl.1 rfl (lv_room (Nat.le_of_ble_eq_true rfl)) dX8_multiple_5 ⟨Nat.le_of_ble_eq_true rfl, Nat.le_of_ble_eq_true rfl⟩) hS (fun _ _ h => h) (fun _ h => h) (fun q S1 t H locs ht _ h hB _ _ hS => ?_)
  have hP : VX dC dI cA P S1 H := by rw [← ht]; exact hB
  obtain ⟨o2, rfl, hko, h⟩ := h
  rcases o2 with _ | k3
  · replace h := h.1 rfl
    refine lv_astore_nN (lv' := [(3, .null), (0, .ref (P 0)), (1, .int v1), (2, .int v2)]) hx hb dX8_multiple_8 rfl hl (by decide) rfl (fun ls hl => ?_)
    refine lv_aload_nN hx hb dX8_multiple_9 rfl (lv_at hl 0 rfl) ?_
    refine lv_ifnullN (tgt := 27) hx hb dX8_multiple_10 (by decide) ?_
    refine lv_iconst (v := (-1)) hx hb dX8_multiple_27 (by decide) ?_
    exact g_iret hx hb hr hlocks h hP hS dX8_multiple_28
  · have hk4 := hko k3 rfl
    replace h := h.2 k3 rfl
    refine lv_astore_n (lv' := [(3, .ref (P k3)), (0, .ref (P 0)), (1, .int v1), (2, .int v2)]) hx hb dX8_multiple_8 rfl hl (by decide) rfl (fun ls hl => ?_)
    refine lv_aload_n hx hb dX8_multiple_9 rfl (lv_at hl 0 rfl) ?_
    refine lv_ifnull hx hb dX8_multiple_10 ?_
    refine lv_iload_n hx hb dX8_multiple_13 rfl (lv_at hl 3 rfl) ?_
    refine lv_iconst (v := 0) hx hb dX8_multiple_14 (by decide) ?_
    refine lv_aload_n hx hb dX8_multiple_15 rfl (lv_at hl 0 rfl) ?_
    refine g_get (v := .int (S1.1 k3 4)) hx hb hts inG_X1 hown hK hP (kX_lt hk4) (eX1 hk4) rfl 4 (by decide) G_fl_X8_133 rfl rfl dX8_multiple_16 ?_
    refine lv_iconst (v := 1) hx hb dX8_multiple_19 (by decide) ?_
    refine lv_isub hx hb dX8_multiple_20 ?_
    replace h := h _ rfl
    refine va_calli (va_runS (As := [.int _, .int _, .int _]) (rest := []) ⟨hx, hb, hml, hown, hts⟩ (c_X8_isWithin l hI h) (va_cwS 3 hts gs_X8_81 rfl rfl rfl hd_X8_isWithin ⟨Nat.le_of_ble_eq_true rfl, Nat.le_of_ble_eq_true rfl⟩) (preS_X hKX hP hS) rfl rfl hl.1 rfl (lv_room (Nat.le_of_ble_eq_true rfl)) dX8_multiple_21 ⟨Nat.le_of_ble_eq_true rfl, Nat.le_of_ble_eq_true rfl⟩) hS (fun _ _ h => h) (fun _ h => h) (fun r7 S6 t H locs ht _ h hB _ _ hS => ?_)
    have hP : VX dC dI cA P S6 H := by rw [← ht]; exact hB
    refine lv_if_ne (tgt := 29) hx hb dX8_multiple_24 (by decide) (fun c8 => ?_) (fun c8 => ?_)
    · replace h := h.2 c8
      refine lv_aload_n hx hb dX8_multiple_29 rfl (lv_at hl 0 rfl) ?_
      refine lv_aload_n hx hb dX8_multiple_30 rfl (lv_at hl 0 rfl) ?_
      refine g_get (v := .int (S6.1 k3 3)) hx hb hts inG_X1 hown hK hP (kX_lt hk4) (eX1 hk4) rfl 3 (by decide) G_fl_X8_130 rfl rfl dX8_multiple_31 ?_
      refine lv_iload_n hx hb dX8_multiple_34 rfl (lv_at hl 3 rfl) ?_
      refine lv_iadd hx hb dX8_multiple_35 ?_
      replace h := h _ rfl
      refine va_calli (va_runV (As := [.int _]) (rest := []) ⟨hx, hb, hml, hown, hts⟩ (c_X1_restAt l hI hk4 h) (cwV 1 hts gv_X8_139 rfl rfl rfl hv_X1_restAt ⟨Nat.le_of_ble_eq_true rfl, Nat.le_of_ble_eq_true rfl⟩) (preV_X hKX hP hS (kX_lt hk4) (eX1 hk4) rfl) rfl rfl hl.1 rfl (lv_room (Nat.le_of_ble_eq_true rfl)) dX8_multiple_36 ⟨Nat.le_of_ble_eq_true rfl, Nat.le_of_ble_eq_true rfl⟩) hS (fun _ _ h => h) (fun _ h => h) (fun r11 S10 t H locs ht _ h hB _ _ hS => ?_)
      have hP : VX dC dI cA P S10 H := by rw [← ht]; exact hB
      refine lv_istore (lv' := [(4, .int r11), (3, .ref (P k3)), (0, .ref (P 0)), (1, .int v1), (2, .int v2)]) hx hb dX8_multiple_39 hl (by decide) rfl (fun ls hl => ?_)
      refine lv_iconst (v := 2) hx hb dX8_multiple_41 (by decide) ?_
      refine lv_istore (lv' := [(5, .int 2), (4, .int r11), (3, .ref (P k3)), (0, .ref (P 0)), (1, .int v1), (2, .int v2)]) hx hb dX8_multiple_42 hl (by decide) rfl (fun ls hl => ?_)
      obtain ⟨n17, h⟩ := h
      exact b_X8_multiple_44 C n17 _ _ _ _ _ _ _ h hk4 hP hS (lv_sub hl [2, 1, 0] rfl)
    · replace h := h.1 c8
      refine lv_iconst (v := (-1)) hx hb dX8_multiple_27 (by decide) ?_
      exact g_iret hx hb hr hlocks h hP hS dX8_multiple_28
set_option maxRecDepth 100000 in
set_option maxHeartbeats 4000000 in
theorem c_X8_multiple (l : Launch) {dC : Nat → ClassId} {dI : Nat → Nat → Nat} {cA : Nat → ClassId} {adK adV P : Nat → Nat} (hI : PInj 56 P) {v1 : Int32} {v2 : Int32}  {post : Int32 → St → Prop} {S : St} (h : w_X8_multiple v1 v2 post S) : Met l yX8_multiple (wW yX8_multiple cX8_multiple 6 (some .int)) ({ frames := 2, cells := 0, slots := 0, locals := 45 } : Room) (va_Pc [.ref (P 0), .int v1, .int v2] (PreX dC dI cA adK adV P S)) (va_Qi post (fun u t => VX dC dI cA P u t.heap) (PA 56 P)) 0 0 (PA 56 P) := by
  refine Met.ofW (cc := cX8_multiple) (maxL := 6) (ret := (some .int)) (by decide) rfl ?_
  intro p e s m args below meth c s₁ B hml hv
  obtain ⟨rfl, hP, hKX⟩ := hv
  have hts : ∀ w ∈ G, w.before [.ref (P 0), .int v1, .int v2].toArray s = true := fun w hw => atoms_spec (ws := wW yX8_multiple cX8_multiple 6 (some .int)) B.pre w (List.mem_cons_of_mem _ hw)
  have C : CtxX dC dI cA adK adV P p s m [.ref (P 0), .int v1, .int v2].toArray meth c cX8_multiple 6 (some .int) RX8 := ⟨hI, hKX, ⟨B.exec, B.bytes, hml, findClass_of_methodNamed B.named, hts⟩, B.returns, B.notSynchronized⟩
  have hS : va_S (PA 56 P) s.heap s.heap [] := va_S.rf
  have hl := lv_entry ([.ref (P 0), .int v1, .int v2]) (n := 6) (Nat.le_of_ble_eq_true rfl)
  rw [lg_entry_eq]
  generalize (lg_sl ([.ref (P 0), .int v1, .int v2]) ++ List.replicate (6 - (lg_sl ([.ref (P 0), .int v1, .int v2])).length) Slot.unset).toArray = ls at hl ⊢
  have hl : lv_has ls 6 [(0, .ref (P 0)), (1, .int v1), (2, .int v2)] := hl
  exact e_X8_multiple C _ _ _ _ _ _ h  hP hS hl
