set_option maxRecDepth 100000 in
set_option maxHeartbeats 4000000 in
theorem e_X8_setAt {p : Program} {l : Launch} {e : Env} {s : State} {m : MethodId} {args : Array Value} {below : List Frame} {meth : Method} {c : Code} {dC : Nat → ClassId} {dI : Nat → Nat → Nat} {cA : Nat → ClassId} {adK adV P : Nat → Nat} (C : CtxX dC dI cA adK adV P p s m args meth c cX8_setAt 3 none RX8) {post : St → Prop} : ∀ (k0 : Nat) (v1 : Int32) (v2 : Int32) (S : St) (H : Heap) (locs : List Loc) (ls : Array Slot), w_X8_setAt k0 v1 v2 post S → kdX k0 = 10 → VX dC dI cA P S H → va_S (PA 56 P) s.heap H locs → lv_has ls 3 [(0, .ref (P k0)), (1, .int v1), (2, .int v2)] → W p l e ({ frames := 0, cells := 0, slots := 0, locals := 0 } : Room) s m args below meth c H locs 0 0 (MQ below (va_Qv post (fun u t => VX dC dI cA P u t.heap) (PA 56 P)) args s 0 0 (PA 56 P)) (F0 m 0 ls []) := by
  have C := C
  obtain ⟨hI, hKX, ⟨hx, hb, hml, hown, hts⟩, hr, hlocks⟩ := id C
  have hK := hKX.1
  intro k0 v1 v2 S H locs ls h hk0 hP hS hl
  rw [w_X8_setAt] at h
  refine lv_iload_n hx hb dX8_setAt_0 rfl (lv_at hl 1 rfl) ?_
  refine lv_if_lt (tgt := 14) hx hb dX8_setAt_1 (by decide) (fun c1 => ?_) (fun c1 => ?_)
  · replace h := h.1 c1
    exact g_vret hx hb hr hlocks h hP hS dX8_setAt_14
  · replace h := h.2 c1
    refine lv_iload_n hx hb dX8_setAt_4 rfl (lv_at hl 1 rfl) ?_
    refine lv_aload_n hx hb dX8_setAt_5 rfl (lv_at hl 0 rfl) ?_
    refine g_alen hx hb hK hP (kX_lt hk0) 0 (eX10 hk0) rfl dX8_setAt_6 ?_
    refine lv_icmp_ge (tgt := 14) hx hb dX8_setAt_7 (by decide) (fun c2 => ?_) (fun c2 => ?_)
    · replace h := h.1 c2
      exact g_vret hx hb hr hlocks h hP hS dX8_setAt_14
    · replace h := h.2 c2
      refine lv_aload_n hx hb dX8_setAt_10 rfl (lv_at hl 0 rfl) ?_
      refine lv_iload_n hx hb dX8_setAt_11 rfl (lv_at hl 1 rfl) ?_
      refine lv_iload_n hx hb dX8_setAt_12 rfl (lv_at hl 2 rfl) ?_
      refine g_ast hx hb hK hI hP hS (kX_lt hk0) 0 (eX10 hk0) rfl h.1 h.2 dX8_setAt_13 (fun S3 H locs h hP hS => ?_)
      exact g_vret hx hb hr hlocks h hP hS dX8_setAt_14
set_option maxRecDepth 100000 in
set_option maxHeartbeats 4000000 in
theorem c_X8_setAt (l : Launch) {dC : Nat → ClassId} {dI : Nat → Nat → Nat} {cA : Nat → ClassId} {adK adV P : Nat → Nat} (hI : PInj 56 P) {k0 : Nat} {v1 : Int32} {v2 : Int32} (hk0 : kdX k0 = 10) {post : St → Prop} {S : St} (h : w_X8_setAt k0 v1 v2 post S) : Met l yX8_setAt (wW yX8_setAt cX8_setAt 3 none) ({ frames := 0, cells := 0, slots := 0, locals := 0 } : Room) (va_Pc [.ref (P k0), .int v1, .int v2] (PreX dC dI cA adK adV P S)) (va_Qv post (fun u t => VX dC dI cA P u t.heap) (PA 56 P)) 0 0 (PA 56 P) := by
  refine Met.ofW (cc := cX8_setAt) (maxL := 3) (ret := none) (by decide) rfl ?_
  intro p e s m args below meth c s₁ B hml hv
  obtain ⟨rfl, hP, hKX⟩ := hv
  have hts : ∀ w ∈ G, w.before [.ref (P k0), .int v1, .int v2].toArray s = true := fun w hw => atoms_spec (ws := wW yX8_setAt cX8_setAt 3 none) B.pre w (List.mem_cons_of_mem _ hw)
  have C : CtxX dC dI cA adK adV P p s m [.ref (P k0), .int v1, .int v2].toArray meth c cX8_setAt 3 none RX8 := ⟨hI, hKX, ⟨B.exec, B.bytes, hml, findClass_of_methodNamed B.named, hts⟩, B.returns, B.notSynchronized⟩
  have hS : va_S (PA 56 P) s.heap s.heap [] := va_S.rf
  have hl := lv_entry ([.ref (P k0), .int v1, .int v2]) (n := 3) (Nat.le_of_ble_eq_true rfl)
  rw [lg_entry_eq]
  generalize (lg_sl ([.ref (P k0), .int v1, .int v2]) ++ List.replicate (3 - (lg_sl ([.ref (P k0), .int v1, .int v2])).length) Slot.unset).toArray = ls at hl ⊢
  have hl : lv_has ls 3 [(0, .ref (P k0)), (1, .int v1), (2, .int v2)] := hl
  exact e_X8_setAt C _ _ _ _ _ _ _ h hk0 hP hS hl
set_option maxRecDepth 100000 in
set_option maxHeartbeats 4000000 in
theorem b_X0_fillTo_14 {p : Program} {l : Launch} {e : Env} {s : State} {m : MethodId} {args : Array Value} {below : List Frame} {meth : Method} {c : Code} {dC : Nat → ClassId} {dI : Nat → Nat → Nat} {cA : Nat → ClassId} {adK adV P : Nat → Nat} (C : CtxX dC dI cA adK adV P p s m args meth c cX0_fillTo 4 none RX0) {post : St → Prop}  : ∀ (n : Nat) (k0 : Nat) (v3 : Int32) (S : St) (H : Heap) (locs : List Loc) (ls : Array Slot), w_X0_fillTo_14 post n k0 v3 S → kdX k0 = 0 → VX dC dI cA P S H → va_S (PA 56 P) s.heap H locs → lv_has ls 4 [(0, .ref (P k0)), (3, .int v3)] → W p l e ({ frames := 1, cells := 0, slots := 0, locals := 22 } : Room) s m args below meth c H locs 0 0 (MQ below (va_Qv post (fun u t => VX dC dI cA P u t.heap) (PA 56 P)) args s 0 0 (PA 56 P)) (F0 m 14 ls []) := by
  have C := C
  obtain ⟨hI, hKX, ⟨hx, hb, hml, hown, hts⟩, hr, hlocks⟩ := id C
  have hK := hKX.1
  intro n
  induction n with
  | zero =>
    intro k0 v3 S H locs ls h hk0 hP hS hl
    simp only [w_X0_fillTo_14] at h
  | succ n ih =>
    intro k0 v3 S H locs ls h hk0 hP hS hl
    rw [w_X0_fillTo_14] at h
    refine lv_iload_n hx hb dX0_fillTo_14 rfl (lv_at hl 1 rfl) ?_
    refine lv_aload_n hx hb dX0_fillTo_15 rfl (lv_at hl 0 rfl) ?_
    refine g_get (v := .int (S.1 k0 1)) hx hb hts inG_X0 hown hK hP (kX_lt hk0) (eX0 hk0) rfl 1 (by decide) G_fl_X0_15 rfl rfl dX0_fillTo_16 ?_
    refine lv_icmp_ge (tgt := 39) hx hb dX0_fillTo_19 (by decide) (fun c4 => ?_) (fun c4 => ?_)
    · replace h := h.1 c4
      exact g_vret hx hb hr hlocks h hP hS dX0_fillTo_39
    · replace h := h.2 c4
      refine lv_aload_n hx hb dX0_fillTo_22 rfl (lv_at hl 0 rfl) ?_
      refine g_get (v := .ref (P (k0 + 1))) hx hb hts inG_X0 hown hK hP (kX_lt hk0) (eX0 hk0) rfl 0 (by decide) G_fl_X0_9 rfl rfl dX0_fillTo_23 ?_
      refine lv_iload_n hx hb dX0_fillTo_26 rfl (lv_at hl 1 rfl) ?_
      refine lv_iload_n hx hb dX0_fillTo_27 rfl (lv_at hl 1 rfl) ?_
      refine lv_iconst (v := 2) hx hb dX0_fillTo_28 (by decide) ?_
      refine lv_iadd hx hb dX0_fillTo_29 ?_
      replace h := h _ rfl
      refine va_callv (va_runSN (As := [.ref _, .int _, .int _]) (rest := []) ⟨hx, hb, hml, hown, hts⟩ (c_X8_setAt l hI (kd0_1 hk0) h) ⟨va_cnB 3 hts (good_W G_cd_X8_setAt) rfl rfl rfl (kx_n9 hKX) (hts _ G_in_X8) hd_X8_setAt ⟨Nat.le_of_ble_eq_true rfl, Nat.le_of_ble_eq_true rfl⟩, hts _ G_st_X8_setAt, trivial⟩ (preS_X hKX hP hS) rfl rfl hl.1 rfl (lv_room (Nat.le_of_ble_eq_true rfl)) dX0_fillTo_30 ⟨Nat.le_of_ble_eq_true rfl, Nat.le_of_ble_eq_true rfl⟩) hS (fun _ _ h => h) (fun _ h => h) (fun S6 t H locs ht _ h hB _ _ hS => ?_)
      have hP : VX dC dI cA P S6 H := by rw [← ht]; exact hB
      obtain ⟨x7, ex7⟩ : ∃ y : Int32, y = v3 + 1 := ⟨_, rfl⟩
      replace h := h x7 ex7
      refine lv_iinc (v := x7) (lv' := [(3, .int x7), (0, .ref (P k0))]) hx hb dX0_fillTo_33 hl (k := 1) rfl (by rw [ex7]; rfl) (by decide) rfl (fun ls hl => ?_)
      refine lv_goto (tgt := 14) hx hb dX0_fillTo_36 (by decide) ?_
      exact ih _ _ _ _ _ _ h hk0 hP hS (lv_sub hl [1, 0] rfl)
set_option maxRecDepth 100000 in
set_option maxHeartbeats 4000000 in
theorem e_X0_fillTo {p : Program} {l : Launch} {e : Env} {s : State} {m : MethodId} {args : Array Value} {below : List Frame} {meth : Method} {c : Code} {dC : Nat → ClassId} {dI : Nat → Nat → Nat} {cA : Nat → ClassId} {adK adV P : Nat → Nat} (C : CtxX dC dI cA adK adV P p s m args meth c cX0_fillTo 4 none RX0) {post : St → Prop} : ∀ (k0 : Nat) (v1 : Int32) (v2 : Int32) (S : St) (H : Heap) (locs : List Loc) (ls : Array Slot), w_X0_fillTo k0 v1 v2 post S → kdX k0 = 0 → VX dC dI cA P S H → va_S (PA 56 P) s.heap H locs → lv_has ls 4 [(0, .ref (P k0)), (1, .int v1), (2, .int v2)] → W p l e ({ frames := 1, cells := 0, slots := 0, locals := 22 } : Room) s m args below meth c H locs 0 0 (MQ below (va_Qv post (fun u t => VX dC dI cA P u t.heap) (PA 56 P)) args s 0 0 (PA 56 P)) (F0 m 0 ls []) := by
  have C := C
  obtain ⟨hI, hKX, ⟨hx, hb, hml, hown, hts⟩, hr, hlocks⟩ := id C
  have hK := hKX.1
  intro k0 v1 v2 S H locs ls h hk0 hP hS hl
  rw [w_X0_fillTo] at h
  refine lv_aload_n hx hb dX0_fillTo_0 rfl (lv_at hl 0 rfl) ?_
  refine lv_iload_n hx hb dX0_fillTo_1 rfl (lv_at hl 2 rfl) ?_
  refine g_putI hx hb hts inG_X0 tyX0 tyX0_ok nmX0 hown hK hI hP hS (kX_lt hk0) (eX0 hk0) rfl 2 (by decide) G_fl_X0_19 rfl rfl (ty := .int) (by decide +kernel) rfl rfl (Nat.le_of_ble_eq_true rfl) rfl h dX0_fillTo_2 (fun S1 H locs h hP hS => ?_)
  refine lv_aload_n hx hb dX0_fillTo_5 rfl (lv_at hl 0 rfl) ?_
  refine lv_iload_n hx hb dX0_fillTo_6 rfl (lv_at hl 1 rfl) ?_
  refine lv_iconst (v := 1) hx hb dX0_fillTo_7 (by decide) ?_
  refine lv_isub hx hb dX0_fillTo_8 ?_
  replace h := h _ rfl
  refine g_putI hx hb hts inG_X0 tyX0 tyX0_ok nmX0 hown hK hI hP hS (kX_lt hk0) (eX0 hk0) rfl 1 (by decide) G_fl_X0_15 rfl rfl (ty := .int) (by decide +kernel) rfl rfl (Nat.le_of_ble_eq_true rfl) rfl h dX0_fillTo_9 (fun S3 H locs h hP hS => ?_)
  refine lv_iconst (v := 0) hx hb dX0_fillTo_12 (by decide) ?_
  refine lv_istore_n (lv' := [(3, .int 0), (0, .ref (P k0)), (1, .int v1), (2, .int v2)]) hx hb dX0_fillTo_13 rfl hl (by decide) rfl (fun ls hl => ?_)
  obtain ⟨n8, h⟩ := h
  exact b_X0_fillTo_14 C n8 _ _ _ _ _ _ h hk0 hP hS (lv_sub hl [1, 0] rfl)
set_option maxRecDepth 100000 in
set_option maxHeartbeats 4000000 in
theorem c_X0_fillTo (l : Launch) {dC : Nat → ClassId} {dI : Nat → Nat → Nat} {cA : Nat → ClassId} {adK adV P : Nat → Nat} (hI : PInj 56 P) {k0 : Nat} {v1 : Int32} {v2 : Int32} (hk0 : kdX k0 = 0) {post : St → Prop} {S : St} (h : w_X0_fillTo k0 v1 v2 post S) : Met l yX0_fillTo (wW yX0_fillTo cX0_fillTo 4 none) ({ frames := 1, cells := 0, slots := 0, locals := 22 } : Room) (va_Pc [.ref (P k0), .int v1, .int v2] (PreX dC dI cA adK adV P S)) (va_Qv post (fun u t => VX dC dI cA P u t.heap) (PA 56 P)) 0 0 (PA 56 P) := by
  refine Met.ofW (cc := cX0_fillTo) (maxL := 4) (ret := none) (by decide) rfl ?_
  intro p e s m args below meth c s₁ B hml hv
  obtain ⟨rfl, hP, hKX⟩ := hv
  have hts : ∀ w ∈ G, w.before [.ref (P k0), .int v1, .int v2].toArray s = true := fun w hw => atoms_spec (ws := wW yX0_fillTo cX0_fillTo 4 none) B.pre w (List.mem_cons_of_mem _ hw)
  have C : CtxX dC dI cA adK adV P p s m [.ref (P k0), .int v1, .int v2].toArray meth c cX0_fillTo 4 none RX0 := ⟨hI, hKX, ⟨B.exec, B.bytes, hml, findClass_of_methodNamed B.named, hts⟩, B.returns, B.notSynchronized⟩
  have hS : va_S (PA 56 P) s.heap s.heap [] := va_S.rf
  have hl := lv_entry ([.ref (P k0), .int v1, .int v2]) (n := 4) (Nat.le_of_ble_eq_true rfl)
  rw [lg_entry_eq]
  generalize (lg_sl ([.ref (P k0), .int v1, .int v2]) ++ List.replicate (4 - (lg_sl ([.ref (P k0), .int v1, .int v2])).length) Slot.unset).toArray = ls at hl ⊢
  have hl : lv_has ls 4 [(0, .ref (P k0)), (1, .int v1), (2, .int v2)] := hl
  exact e_X0_fillTo C _ _ _ _ _ _ _ h hk0 hP hS hl
set_option maxRecDepth 100000 in
set_option maxHeartbeats 4000000 in
theorem e_X8_valueAt {p : Program} {l : Launch} {e : Env} {s : State} {m : MethodId} {args : Array Value} {below : List Frame} {meth : Method} {c : Code} {dC : Nat → ClassId} {dI : Nat → Nat → Nat} {cA : Nat → ClassId} {adK adV P : Nat → Nat} (C : CtxX dC dI cA adK adV P p s m args meth c cX8_valueAt 2 (some .int) RX8) {post : Int32 → St → Prop} : ∀ (k0 : Nat) (v1 : Int32) (S : St) (H : Heap) (locs : List Loc) (ls : Array Slot), w_X8_valueAt k0 v1 post S → kdX k0 = 10 → VX dC dI cA P S H → va_S (PA 56 P) s.heap H locs → lv_has ls 2 [(0, .ref (P k0)), (1, .int v1)] → W p l e ({ frames := 0, cells := 0, slots := 0, locals := 0 } : Room) s m args below meth c H locs 0 0 (MQ below (va_Qi post (fun u t => VX dC dI cA P u t.heap) (PA 56 P)) args s 0 0 (PA 56 P)) (F0 m 0 ls []) := by
  have C := C
  obtain ⟨hI, hKX, ⟨hx, hb, hml, hown, hts⟩, hr, hlocks⟩ := id C
  have hK := hKX.1
  intro k0 v1 S H locs ls h hk0 hP hS hl
  rw [w_X8_valueAt] at h
  refine lv_iload_n hx hb dX8_valueAt_0 rfl (lv_at hl 1 rfl) ?_
  refine lv_if_lt (tgt := 16) hx hb dX8_valueAt_1 (by decide) (fun c1 => ?_) (fun c1 => ?_)
  · replace h := h.1 c1
    refine lv_iconst (v := 0) hx hb dX8_valueAt_16 (by decide) ?_
    exact g_iret hx hb hr hlocks h hP hS dX8_valueAt_17
  · replace h := h.2 c1
    refine lv_iload_n hx hb dX8_valueAt_4 rfl (lv_at hl 1 rfl) ?_
    refine lv_aload_n hx hb dX8_valueAt_5 rfl (lv_at hl 0 rfl) ?_
    refine g_alen hx hb hK hP (kX_lt hk0) 0 (eX10 hk0) rfl dX8_valueAt_6 ?_
    refine lv_icmp_ge (tgt := 16) hx hb dX8_valueAt_7 (by decide) (fun c2 => ?_) (fun c2 => ?_)
    · replace h := h.1 c2
      refine lv_iconst (v := 0) hx hb dX8_valueAt_16 (by decide) ?_
      exact g_iret hx hb hr hlocks h hP hS dX8_valueAt_17
    · replace h := h.2 c2
      refine lv_aload_n hx hb dX8_valueAt_10 rfl (lv_at hl 0 rfl) ?_
      refine lv_iload_n hx hb dX8_valueAt_11 rfl (lv_at hl 1 rfl) ?_
      refine g_ald hx hb hK hP (kX_lt hk0) 0 (eX10 hk0) rfl h.1 dX8_valueAt_12 ?_
      replace h := h.2
      refine lv_goto (tgt := 17) hx hb dX8_valueAt_13 (by decide) ?_
      exact g_iret hx hb hr hlocks h hP hS dX8_valueAt_17
set_option maxRecDepth 100000 in
set_option maxHeartbeats 4000000 in
theorem c_X8_valueAt (l : Launch) {dC : Nat → ClassId} {dI : Nat → Nat → Nat} {cA : Nat → ClassId} {adK adV P : Nat → Nat} (hI : PInj 56 P) {k0 : Nat} {v1 : Int32} (hk0 : kdX k0 = 10) {post : Int32 → St → Prop} {S : St} (h : w_X8_valueAt k0 v1 post S) : Met l yX8_valueAt (wW yX8_valueAt cX8_valueAt 2 (some .int)) ({ frames := 0, cells := 0, slots := 0, locals := 0 } : Room) (va_Pc [.ref (P k0), .int v1] (PreX dC dI cA adK adV P S)) (va_Qi post (fun u t => VX dC dI cA P u t.heap) (PA 56 P)) 0 0 (PA 56 P) := by
  refine Met.ofW (cc := cX8_valueAt) (maxL := 2) (ret := (some .int)) (by decide) rfl ?_
  intro p e s m args below meth c s₁ B hml hv
  obtain ⟨rfl, hP, hKX⟩ := hv
  have hts : ∀ w ∈ G, w.before [.ref (P k0), .int v1].toArray s = true := fun w hw => atoms_spec (ws := wW yX8_valueAt cX8_valueAt 2 (some .int)) B.pre w (List.mem_cons_of_mem _ hw)
  have C : CtxX dC dI cA adK adV P p s m [.ref (P k0), .int v1].toArray meth c cX8_valueAt 2 (some .int) RX8 := ⟨hI, hKX, ⟨B.exec, B.bytes, hml, findClass_of_methodNamed B.named, hts⟩, B.returns, B.notSynchronized⟩
  have hS : va_S (PA 56 P) s.heap s.heap [] := va_S.rf
  have hl := lv_entry ([.ref (P k0), .int v1]) (n := 2) (Nat.le_of_ble_eq_true rfl)
  rw [lg_entry_eq]
  generalize (lg_sl ([.ref (P k0), .int v1]) ++ List.replicate (2 - (lg_sl ([.ref (P k0), .int v1])).length) Slot.unset).toArray = ls at hl ⊢
  have hl : lv_has ls 2 [(0, .ref (P k0)), (1, .int v1)] := hl
  exact e_X8_valueAt C _ _ _ _ _ _ h hk0 hP hS hl
set_option maxRecDepth 100000 in
set_option maxHeartbeats 4000000 in
theorem b_X0_becomeLike_18 {p : Program} {l : Launch} {e : Env} {s : State} {m : MethodId} {args : Array Value} {below : List Frame} {meth : Method} {c : Code} {dC : Nat → ClassId} {dI : Nat → Nat → Nat} {cA : Nat → ClassId} {adK adV P : Nat → Nat} (C : CtxX dC dI cA adK adV P p s m args meth c cX0_becomeLike 3 none RX0) {post : St → Prop}  : ∀ (n : Nat) (k0 : Nat) (k1 : Nat) (v2 : Int32) (S : St) (H : Heap) (locs : List Loc) (ls : Array Slot), w_X0_becomeLike_18 post n k0 k1 v2 S → kdX k0 = 0 → kdX k1 = 0 → VX dC dI cA P S H → va_S (PA 56 P) s.heap H locs → lv_has ls 3 [(0, .ref (P k0)), (1, .ref (P k1)), (2, .int v2)] → W p l e ({ frames := 1, cells := 0, slots := 0, locals := 22 } : Room) s m args below meth c H locs 0 0 (MQ below (va_Qv post (fun u t => VX dC dI cA P u t.heap) (PA 56 P)) args s 0 0 (PA 56 P)) (F0 m 18 ls []) := by
  have C := C
  obtain ⟨hI, hKX, ⟨hx, hb, hml, hown, hts⟩, hr, hlocks⟩ := id C
  have hK := hKX.1
  intro n
  induction n with
  | zero =>
    intro k0 k1 v2 S H locs ls h hk0 hk1 hP hS hl
    simp only [w_X0_becomeLike_18] at h
  | succ n ih =>
    intro k0 k1 v2 S H locs ls h hk0 hk1 hP hS hl
    rw [w_X0_becomeLike_18] at h
    refine lv_iload_n hx hb dX0_becomeLike_18 rfl (lv_at hl 2 rfl) ?_
    refine lv_aload_n hx hb dX0_becomeLike_19 rfl (lv_at hl 0 rfl) ?_
    refine g_get (v := .int (S.1 k0 1)) hx hb hts inG_X0 hown hK hP (kX_lt hk0) (eX0 hk0) rfl 1 (by decide) G_fl_X0_15 rfl rfl dX0_becomeLike_20 ?_
    refine lv_icmp_ge (tgt := 48) hx hb dX0_becomeLike_23 (by decide) (fun c5 => ?_) (fun c5 => ?_)
    · replace h := h.1 c5
      exact g_vret hx hb hr hlocks h hP hS dX0_becomeLike_48
    · replace h := h.2 c5
      refine lv_aload_n hx hb dX0_becomeLike_26 rfl (lv_at hl 0 rfl) ?_
      refine g_get (v := .ref (P (k0 + 1))) hx hb hts inG_X0 hown hK hP (kX_lt hk0) (eX0 hk0) rfl 0 (by decide) G_fl_X0_9 rfl rfl dX0_becomeLike_27 ?_
      refine lv_iload_n hx hb dX0_becomeLike_30 rfl (lv_at hl 2 rfl) ?_
      refine lv_aload_n hx hb dX0_becomeLike_31 rfl (lv_at hl 1 rfl) ?_
      refine g_get (v := .ref (P (k1 + 1))) hx hb hts inG_X0 hown hK hP (kX_lt hk1) (eX0 hk1) rfl 0 (by decide) G_fl_X0_9 rfl rfl dX0_becomeLike_32 ?_
      refine lv_iload_n hx hb dX0_becomeLike_35 rfl (lv_at hl 2 rfl) ?_
      refine va_calli (va_runSN (As := [.ref _, .int _]) (rest := [.int _, .ref _]) ⟨hx, hb, hml, hown, hts⟩ (c_X8_valueAt l hI (kd0_1 hk1) h) ⟨va_cnB 2 hts (good_W G_cd_X8_valueAt) rfl rfl rfl (kx_n11 hKX) (hts _ G_in_X8) hd_X8_valueAt ⟨Nat.le_of_ble_eq_true rfl, Nat.le_of_ble_eq_true rfl⟩, hts _ G_st_X8_valueAt, trivial⟩ (preS_X hKX hP hS) rfl rfl hl.1 rfl (lv_room (Nat.le_of_ble_eq_true rfl)) dX0_becomeLike_36 ⟨Nat.le_of_ble_eq_true rfl, Nat.le_of_ble_eq_true rfl⟩) hS (fun _ _ h => h) (fun _ h => h) (fun r7 S6 t H locs ht _ h hB _ _ hS => ?_)
      have hP : VX dC dI cA P S6 H := by rw [← ht]; exact hB
      refine va_callv (va_runSN (As := [.ref _, .int _, .int _]) (rest := []) ⟨hx, hb, hml, hown, hts⟩ (c_X8_setAt l hI (kd0_1 hk0) h) ⟨va_cnB 3 hts (good_W G_cd_X8_setAt) rfl rfl rfl (kx_n9 hKX) (hts _ G_in_X8) hd_X8_setAt ⟨Nat.le_of_ble_eq_true rfl, Nat.le_of_ble_eq_true rfl⟩, hts _ G_st_X8_setAt, trivial⟩ (preS_X hKX hP hS) rfl rfl hl.1 rfl (lv_room (Nat.le_of_ble_eq_true rfl)) dX0_becomeLike_39 ⟨Nat.le_of_ble_eq_true rfl, Nat.le_of_ble_eq_true rfl⟩) hS (fun _ _ h => h) (fun _ h => h) (fun S8 t H locs ht _ h hB _ _ hS => ?_)
      have hP : VX dC dI cA P S8 H := by rw [← ht]; exact hB
      obtain ⟨x9, ex9⟩ : ∃ y : Int32, y = v2 + 1 := ⟨_, rfl⟩
      replace h := h x9 ex9
      refine lv_iinc (v := x9) (lv' := [(2, .int x9), (0, .ref (P k0)), (1, .ref (P k1))]) hx hb dX0_becomeLike_42 hl (k := 2) rfl (by rw [ex9]; rfl) (by decide) rfl (fun ls hl => ?_)
      refine lv_goto (tgt := 18) hx hb dX0_becomeLike_45 (by decide) ?_
      exact ih _ _ _ _ _ _ _ h hk0 hk1 hP hS (lv_sub hl [1, 2, 0] rfl)
set_option maxRecDepth 100000 in
set_option maxHeartbeats 4000000 in
theorem e_X0_becomeLike {p : Program} {l : Launch} {e : Env} {s : State} {m : MethodId} {args : Array Value} {below : List Frame} {meth : Method} {c : Code} {dC : Nat → ClassId} {dI : Nat → Nat → Nat} {cA : Nat → ClassId} {adK adV P : Nat → Nat} (C : CtxX dC dI cA adK adV P p s m args meth c cX0_becomeLike 3 none RX0) {post : St → Prop} : ∀ (k0 : Nat) (k1 : Nat) (S : St) (H : Heap) (locs : List Loc) (ls : Array Slot), w_X0_becomeLike k0 k1 post S → kdX k0 = 0 → kdX k1 = 0 → VX dC dI cA P S H → va_S (PA 56 P) s.heap H locs → lv_has ls 3 [(0, .ref (P k0)), (1, .ref (P k1))] → W p l e ({ frames := 1, cells := 0, slots := 0, locals := 22 } : Room) s m args below meth c H locs 0 0 (MQ below (va_Qv post (fun u t => VX dC dI cA P u t.heap) (PA 56 P)) args s 0 0 (PA 56 P)) (F0 m 0 ls []) := by
  have C := C
  obtain ⟨hI, hKX, ⟨hx, hb, hml, hown, hts⟩, hr, hlocks⟩ := id C
  have hK := hKX.1
  intro k0 k1 S H locs ls h hk0 hk1 hP hS hl
  rw [w_X0_becomeLike] at h
  refine lv_aload_n hx hb dX0_becomeLike_0 rfl (lv_at hl 0 rfl) ?_
  refine lv_aload_n hx hb dX0_becomeLike_1 rfl (lv_at hl 1 rfl) ?_
  refine g_get (v := .int (S.1 k1 2)) hx hb hts inG_X0 hown hK hP (kX_lt hk1) (eX0 hk1) rfl 2 (by decide) G_fl_X0_19 rfl rfl dX0_becomeLike_2 ?_
  replace h := h _ rfl
  refine g_putI hx hb hts inG_X0 tyX0 tyX0_ok nmX0 hown hK hI hP hS (kX_lt hk0) (eX0 hk0) rfl 2 (by decide) G_fl_X0_19 rfl rfl (ty := .int) (by decide +kernel) rfl rfl (Nat.le_of_ble_eq_true rfl) rfl h dX0_becomeLike_5 (fun S2 H locs h hP hS => ?_)
  refine lv_aload_n hx hb dX0_becomeLike_8 rfl (lv_at hl 0 rfl) ?_
  refine lv_aload_n hx hb dX0_becomeLike_9 rfl (lv_at hl 1 rfl) ?_
  refine g_get (v := .int (S2.1 k1 1)) hx hb hts inG_X0 hown hK hP (kX_lt hk1) (eX0 hk1) rfl 1 (by decide) G_fl_X0_15 rfl rfl dX0_becomeLike_10 ?_
  replace h := h _ rfl
  refine g_putI hx hb hts inG_X0 tyX0 tyX0_ok nmX0 hown hK hI hP hS (kX_lt hk0) (eX0 hk0) rfl 1 (by decide) G_fl_X0_15 rfl rfl (ty := .int) (by decide +kernel) rfl rfl (Nat.le_of_ble_eq_true rfl) rfl h dX0_becomeLike_13 (fun S4 H locs h hP hS => ?_)
  refine lv_iconst (v := 0) hx hb dX0_becomeLike_16 (by decide) ?_
  refine lv_istore_n (lv' := [(2, .int 0), (0, .ref (P k0)), (1, .ref (P k1))]) hx hb dX0_becomeLike_17 rfl hl (by decide) rfl (fun ls hl => ?_)
  obtain ⟨n10, h⟩ := h
  exact b_X0_becomeLike_18 C n10 _ _ _ _ _ _ _ h hk0 hk1 hP hS (lv_sub hl [1, 2, 0] rfl)
set_option maxRecDepth 100000 in
set_option maxHeartbeats 4000000 in
theorem c_X0_becomeLike (l : Launch) {dC : Nat → ClassId} {dI : Nat → Nat → Nat} {cA : Nat → ClassId} {adK adV P : Nat → Nat} (hI : PInj 56 P) {k0 : Nat} {k1 : Nat} (hk0 : kdX k0 = 0) (hk1 : kdX k1 = 0) {post : St → Prop} {S : St} (h : w_X0_becomeLike k0 k1 post S) : Met l yX0_becomeLike (wW yX0_becomeLike cX0_becomeLike 3 none) ({ frames := 1, cells := 0, slots := 0, locals := 22 } : Room) (va_Pc [.ref (P k0), .ref (P k1)] (PreX dC dI cA adK adV P S)) (va_Qv post (fun u t => VX dC dI cA P u t.heap) (PA 56 P)) 0 0 (PA 56 P) := by
  refine Met.ofW (cc := cX0_becomeLike) (maxL := 3) (ret := none) (by decide) rfl ?_
  intro p e s m args below meth c s₁ B hml hv
  obtain ⟨rfl, hP, hKX⟩ := hv
  have hts : ∀ w ∈ G, w.before [.ref (P k0), .ref (P k1)].toArray s = true := fun w hw => atoms_spec (ws := wW yX0_becomeLike cX0_becomeLike 3 none) B.pre w (List.mem_cons_of_mem _ hw)
  have C : CtxX dC dI cA adK adV P p s m [.ref (P k0), .ref (P k1)].toArray meth c cX0_becomeLike 3 none RX0 := ⟨hI, hKX, ⟨B.exec, B.bytes, hml, findClass_of_methodNamed B.named, hts⟩, B.returns, B.notSynchronized⟩
  have hS : va_S (PA 56 P) s.heap s.heap [] := va_S.rf
  have hl := lv_entry ([.ref (P k0), .ref (P k1)]) (n := 3) (Nat.le_of_ble_eq_true rfl)
  rw [lg_entry_eq]
  generalize (lg_sl ([.ref (P k0), .ref (P k1)]) ++ List.replicate (3 - (lg_sl ([.ref (P k0), .ref (P k1)])).length) Slot.unset).toArray = ls at hl ⊢
  have hl : lv_has ls 3 [(0, .ref (P k0)), (1, .ref (P k1))] := hl
  exact e_X0_becomeLike C _ _ _ _ _ _ h hk0 hk1 hP hS hl
set_option maxRecDepth 100000 in
set_option maxHeartbeats 4000000 in
theorem e_X0_wordText {p : Program} {l : Launch} {e : Env} {s : State} {m : MethodId} {args : Array Value} {below : List Frame} {meth : Method} {c : Code} {dC : Nat → ClassId} {dI : Nat → Nat → Nat} {cA : Nat → ClassId} {adK adV P : Nat → Nat} (C : CtxX dC dI cA adK adV P p s m args meth c cX0_wordText 1 (some (.object "java/lang/String")) RX0) {post : Nat → St → Prop} : ∀ (v0 : Int32) (S : St) (H : Heap) (locs : List Loc) (ls : Array Slot), w_X0_wordText v0 post S → VX dC dI cA P S H → va_S (PA 56 P) s.heap H locs → lv_has ls 1 [(0, .int v0)] → W p l e ({ frames := 0, cells := 0, slots := 0, locals := 0 } : Room) s m args below meth c H locs 0 0 (MQ below (va_Qq (fun r u => ∃ i, r = some (adK i) ∧ i < 14 ∧ post i u) (fun u t => VX dC dI cA P u t.heap) (PA 56 P)) args s 0 0 (PA 56 P)) (F0 m 0 ls []) := by
  have C := C
  obtain ⟨hI, hKX, ⟨hx, hb, hml, hown, hts⟩, hr, hlocks⟩ := id C
  have hK := hKX.1
  intro v0 S H locs ls h hP hS hl
  rw [w_X0_wordText] at h
  refine lv_iload_n hx hb dX0_wordText_0 rfl (lv_at hl 0 rfl) ?_
  by_cases c1 : v0 = 0
  · replace h := h.1 c1
    refine lv_tableIn (off := 43) (tgt := 44) hx hb dX0_wordText_1 (by rw [c1]; decide) (by rw [c1]; decide) (by rw [c1]; decide) (by decide) ?_
    refine va_ldcS hx hb hown (kx_s1 hKX) dX0_wordText_44 ?_
    exact g_aret (v := some (adK 1)) hx hb hr hlocks ⟨1, rfl, (by decide : 1 < 14), h⟩ hP hS dX0_wordText_46
  replace h := h.2 c1
  by_cases c2 : v0 = 1
  · replace h := h.1 c2
    refine lv_tableIn (off := 46) (tgt := 47) hx hb dX0_wordText_1 (by rw [c2]; decide) (by rw [c2]; decide) (by rw [c2]; decide) (by decide) ?_
    refine va_ldcS hx hb hown (kx_s2 hKX) dX0_wordText_47 ?_
    exact g_aret (v := some (adK 2)) hx hb hr hlocks ⟨2, rfl, (by decide : 2 < 14), h⟩ hP hS dX0_wordText_49
  replace h := h.2 c2
  by_cases c3 : v0 = 2
  · replace h := h.1 c3
    refine lv_tableIn (off := 49) (tgt := 50) hx hb dX0_wordText_1 (by rw [c3]; decide) (by rw [c3]; decide) (by rw [c3]; decide) (by decide) ?_
    refine va_ldcS hx hb hown (kx_s3 hKX) dX0_wordText_50 ?_
    exact g_aret (v := some (adK 3)) hx hb hr hlocks ⟨3, rfl, (by decide : 3 < 14), h⟩ hP hS dX0_wordText_52
  replace h := h.2 c3
  by_cases c4 : v0 = 3
  · replace h := h.1 c4
    refine lv_tableIn (off := 52) (tgt := 53) hx hb dX0_wordText_1 (by rw [c4]; decide) (by rw [c4]; decide) (by rw [c4]; decide) (by decide) ?_
    refine va_ldcS hx hb hown (kx_s4 hKX) dX0_wordText_53 ?_
    exact g_aret (v := some (adK 4)) hx hb hr hlocks ⟨4, rfl, (by decide : 4 < 14), h⟩ hP hS dX0_wordText_55
  replace h := h.2 c4
  by_cases c5 : v0 = 4
  · replace h := h.1 c5
    refine lv_tableIn (off := 55) (tgt := 56) hx hb dX0_wordText_1 (by rw [c5]; decide) (by rw [c5]; decide) (by rw [c5]; decide) (by decide) ?_
    refine va_ldcS hx hb hown (kx_s5 hKX) dX0_wordText_56 ?_
    exact g_aret (v := some (adK 5)) hx hb hr hlocks ⟨5, rfl, (by decide : 5 < 14), h⟩ hP hS dX0_wordText_58
  replace h := h.2 c5
  by_cases c6 : v0 = 5
  · replace h := h.1 c6
    refine lv_tableIn (off := 58) (tgt := 59) hx hb dX0_wordText_1 (by rw [c6]; decide) (by rw [c6]; decide) (by rw [c6]; decide) (by decide) ?_
    refine va_ldcS hx hb hown (kx_s6 hKX) dX0_wordText_59 ?_
    exact g_aret (v := some (adK 6)) hx hb hr hlocks ⟨6, rfl, (by decide : 6 < 14), h⟩ hP hS dX0_wordText_61
  replace h := h.2 c6
  by_cases c7 : v0 = 6
  · replace h := h.1 c7
    refine lv_tableIn (off := 61) (tgt := 62) hx hb dX0_wordText_1 (by rw [c7]; decide) (by rw [c7]; decide) (by rw [c7]; decide) (by decide) ?_
    refine va_ldcS hx hb hown (kx_s7 hKX) dX0_wordText_62 ?_
    exact g_aret (v := some (adK 7)) hx hb hr hlocks ⟨7, rfl, (by decide : 7 < 14), h⟩ hP hS dX0_wordText_64
  replace h := h.2 c7
  refine lv_tableOut (tgt := 65) hx hb dX0_wordText_1 (by have := lv_neT c1 (a := 0) (by decide); have := lv_neT c2 (a := 1) (by decide); have := lv_neT c3 (a := 2) (by decide); have := lv_neT c4 (a := 3) (by decide); have := lv_neT c5 (a := 4) (by decide); have := lv_neT c6 (a := 5) (by decide); have := lv_neT c7 (a := 6) (by decide); omega) (by decide) ?_
  refine va_ldcS hx hb hown (kx_s8 hKX) dX0_wordText_65 ?_
  exact g_aret (v := some (adK 8)) hx hb hr hlocks ⟨8, rfl, (by decide : 8 < 14), h⟩ hP hS dX0_wordText_67
set_option maxRecDepth 100000 in
set_option maxHeartbeats 4000000 in
theorem c_X0_wordText (l : Launch) {dC : Nat → ClassId} {dI : Nat → Nat → Nat} {cA : Nat → ClassId} {adK adV P : Nat → Nat} (hI : PInj 56 P) {v0 : Int32}  {post : Nat → St → Prop} {S : St} (h : w_X0_wordText v0 post S) : Met l yX0_wordText (wW yX0_wordText cX0_wordText 1 (some (.object "java/lang/String"))) ({ frames := 0, cells := 0, slots := 0, locals := 0 } : Room) (va_Pc [.int v0] (PreX dC dI cA adK adV P S)) (va_Qq (fun r u => ∃ i, r = some (adK i) ∧ i < 14 ∧ post i u) (fun u t => VX dC dI cA P u t.heap) (PA 56 P)) 0 0 (PA 56 P) := by
  refine Met.ofW (cc := cX0_wordText) (maxL := 1) (ret := (some (.object "java/lang/String"))) (by decide) rfl ?_
  intro p e s m args below meth c s₁ B hml hv
  obtain ⟨rfl, hP, hKX⟩ := hv
  have hts : ∀ w ∈ G, w.before [.int v0].toArray s = true := fun w hw => atoms_spec (ws := wW yX0_wordText cX0_wordText 1 (some (.object "java/lang/String"))) B.pre w (List.mem_cons_of_mem _ hw)
  have C : CtxX dC dI cA adK adV P p s m [.int v0].toArray meth c cX0_wordText 1 (some (.object "java/lang/String")) RX0 := ⟨hI, hKX, ⟨B.exec, B.bytes, hml, findClass_of_methodNamed B.named, hts⟩, B.returns, B.notSynchronized⟩
  have hS : va_S (PA 56 P) s.heap s.heap [] := va_S.rf
  have hl := lv_entry ([.int v0]) (n := 1) (Nat.le_of_ble_eq_true rfl)
  rw [lg_entry_eq]
  generalize (lg_sl ([.int v0]) ++ List.replicate (1 - (lg_sl ([.int v0])).length) Slot.unset).toArray = ls at hl ⊢
  have hl : lv_has ls 1 [(0, .int v0)] := hl
  exact e_X0_wordText C _ _ _ _ _ h  hP hS hl
set_option maxRecDepth 100000 in
set_option maxHeartbeats 4000000 in
theorem e_X7_byteAt {p : Program} {l : Launch} {e : Env} {s : State} {m : MethodId} {args : Array Value} {below : List Frame} {meth : Method} {c : Code} {dC : Nat → ClassId} {dI : Nat → Nat → Nat} {cA : Nat → ClassId} {adK adV P : Nat → Nat} (C : CtxX dC dI cA adK adV P p s m args meth c cX7_byteAt 2 (some .int) RX7) {post : Int32 → St → Prop} : ∀ (v1 : Int32) (S : St) (H : Heap) (locs : List Loc) (ls : Array Slot), w_X7_byteAt v1 post S → VX dC dI cA P S H → va_S (PA 56 P) s.heap H locs → lv_has ls 2 [(0, .ref (P 27)), (1, .int v1)] → W p l e ({ frames := 1, cells := 0, slots := 0, locals := 21 } : Room) s m args below meth c H locs 0 0 (MQ below (va_Qi post (fun u t => VX dC dI cA P u t.heap) (PA 56 P)) args s 0 0 (PA 56 P)) (F0 m 0 ls []) := by
  have C := C
  obtain ⟨hI, hKX, ⟨hx, hb, hml, hown, hts⟩, hr, hlocks⟩ := id C
  have hK := hKX.1
  intro v1 S H locs ls h hP hS hl
  rw [w_X7_byteAt] at h
  refine lv_iload_n hx hb dX7_byteAt_0 rfl (lv_at hl 1 rfl) ?_
  refine lv_if_lt (tgt := 23) hx hb dX7_byteAt_1 (by decide) (fun c1 => ?_) (fun c1 => ?_)
  · replace h := h.1 c1
    refine lv_iconst (v := (-1)) hx hb dX7_byteAt_23 (by decide) ?_
    exact g_iret hx hb hr hlocks h hP hS dX7_byteAt_24
  · replace h := h.2 c1
    refine lv_iload_n hx hb dX7_byteAt_4 rfl (lv_at hl 1 rfl) ?_
    refine lv_aload_n hx hb dX7_byteAt_5 rfl (lv_at hl 0 rfl) ?_
    refine g_get (v := .int (S.1 27 1)) hx hb hts inG_X7 hown hK hP (kX_lt (rfl : kdX 27 = 7)) (eX7 (rfl : kdX 27 = 7)) rfl 1 (by decide) G_fl_X7_15 rfl rfl dX7_byteAt_6 ?_
    refine lv_icmp_ge (tgt := 23) hx hb dX7_byteAt_9 (by decide) (fun c2 => ?_) (fun c2 => ?_)
    · replace h := h.1 c2
      refine lv_iconst (v := (-1)) hx hb dX7_byteAt_23 (by decide) ?_
      exact g_iret hx hb hr hlocks h hP hS dX7_byteAt_24
    · replace h := h.2 c2
      refine lv_aload_n hx hb dX7_byteAt_12 rfl (lv_at hl 0 rfl) ?_
      refine g_get (v := .ref (P 28)) hx hb hts inG_X7 hown hK hP (kX_lt (rfl : kdX 27 = 7)) (eX7 (rfl : kdX 27 = 7)) rfl 0 (by decide) G_fl_X7_9 rfl rfl dX7_byteAt_13 ?_
      refine lv_iload_n hx hb dX7_byteAt_16 rfl (lv_at hl 1 rfl) ?_
      refine va_calli (va_runSN (As := [.ref _, .int _]) (rest := []) ⟨hx, hb, hml, hown, hts⟩ (c_X8_valueAt l hI (rfl : kdX 28 = 10) h) ⟨va_cnB 2 hts (good_W G_cd_X8_valueAt) rfl rfl rfl (kx_n10 hKX) (hts _ G_in_X8) hd_X8_valueAt ⟨Nat.le_of_ble_eq_true rfl, Nat.le_of_ble_eq_true rfl⟩, hts _ G_st_X8_valueAt, trivial⟩ (preS_X hKX hP hS) rfl rfl hl.1 rfl (lv_room (Nat.le_of_ble_eq_true rfl)) dX7_byteAt_17 ⟨Nat.le_of_ble_eq_true rfl, Nat.le_of_ble_eq_true rfl⟩) hS (fun _ _ h => h) (fun _ h => h) (fun r4 S3 t H locs ht _ h hB _ _ hS => ?_)
      have hP : VX dC dI cA P S3 H := by rw [← ht]; exact hB
      refine lv_goto (tgt := 24) hx hb dX7_byteAt_20 (by decide) ?_
      exact g_iret hx hb hr hlocks h hP hS dX7_byteAt_24
set_option maxRecDepth 100000 in
set_option maxHeartbeats 4000000 in
theorem c_X7_byteAt (l : Launch) {dC : Nat → ClassId} {dI : Nat → Nat → Nat} {cA : Nat → ClassId} {adK adV P : Nat → Nat} (hI : PInj 56 P) {v1 : Int32}  {post : Int32 → St → Prop} {S : St} (h : w_X7_byteAt v1 post S) : Met l yX7_byteAt (wW yX7_byteAt cX7_byteAt 2 (some .int)) ({ frames := 1, cells := 0, slots := 0, locals := 21 } : Room) (va_Pc [.ref (P 27), .int v1] (PreX dC dI cA adK adV P S)) (va_Qi post (fun u t => VX dC dI cA P u t.heap) (PA 56 P)) 0 0 (PA 56 P) := by
  refine Met.ofW (cc := cX7_byteAt) (maxL := 2) (ret := (some .int)) (by decide) rfl ?_
  intro p e s m args below meth c s₁ B hml hv
  obtain ⟨rfl, hP, hKX⟩ := hv
  have hts : ∀ w ∈ G, w.before [.ref (P 27), .int v1].toArray s = true := fun w hw => atoms_spec (ws := wW yX7_byteAt cX7_byteAt 2 (some .int)) B.pre w (List.mem_cons_of_mem _ hw)
  have C : CtxX dC dI cA adK adV P p s m [.ref (P 27), .int v1].toArray meth c cX7_byteAt 2 (some .int) RX7 := ⟨hI, hKX, ⟨B.exec, B.bytes, hml, findClass_of_methodNamed B.named, hts⟩, B.returns, B.notSynchronized⟩
  have hS : va_S (PA 56 P) s.heap s.heap [] := va_S.rf
  have hl := lv_entry ([.ref (P 27), .int v1]) (n := 2) (Nat.le_of_ble_eq_true rfl)
  rw [lg_entry_eq]
  generalize (lg_sl ([.ref (P 27), .int v1]) ++ List.replicate (2 - (lg_sl ([.ref (P 27), .int v1])).length) Slot.unset).toArray = ls at hl ⊢
  have hl : lv_has ls 2 [(0, .ref (P 27)), (1, .int v1)] := hl
  exact e_X7_byteAt C _ _ _ _ _ h  hP hS hl
set_option maxRecDepth 100000 in
set_option maxHeartbeats 4000000 in
theorem b_X7_bears_15 {p : Program} {l : Launch} {e : Env} {s : State} {m : MethodId} {args : Array Value} {below : List Frame} {meth : Method} {c : Code} {dC : Nat → ClassId} {dI : Nat → Nat → Nat} {cA : Nat → ClassId} {adK adV P : Nat → Nat} (C : CtxX dC dI cA adK adV P p s m args meth c cX7_bears 5 (some .boolean) RX7) {post : Int32 → St → Prop}  : ∀ (n : Nat) (v1 : Int32) (k3 : Nat) (v4 : Int32) (S : St) (H : Heap) (locs : List Loc) (ls : Array Slot), w_X7_bears_15 post n v1 k3 v4 S → k3 < 14 → VX dC dI cA P S H → va_S (PA 56 P) s.heap H locs → lv_has ls 5 [(0, .ref (P 27)), (1, .int v1), (3, .ref (adK k3)), (4, .int v4)] → W p l e ({ frames := 4, cells := 0, slots := 0, locals := 88 } : Room) s m args below meth c H locs 0 0 (MQ below (va_Qi post (fun u t => VX dC dI cA P u t.heap) (PA 56 P)) args s 0 0 (PA 56 P)) (F0 m 15 ls []) := by
  have C := C
  obtain ⟨hI, hKX, ⟨hx, hb, hml, hown, hts⟩, hr, hlocks⟩ := id C
  have hK := hKX.1
  intro n
  induction n with
  | zero =>
    intro v1 k3 v4 S H locs ls h hk3 hP hS hl
    simp only [w_X7_bears_15] at h
  | succ n ih =>
    intro v1 k3 v4 S H locs ls h hk3 hP hS hl
    rw [w_X7_bears_15] at h
    refine lv_iload hx hb dX7_bears_15 (lv_at hl 3 rfl) ?_
    refine lv_aload_n hx hb dX7_bears_17 rfl (lv_at hl 2 rfl) ?_
    refine va_calli (va_runV (As := []) (rest := [.int _]) ⟨hx, hb, hml, hown, hts⟩ (c_Jlength l hI hk3) (cwV 0 hts gv_X7_34 rfl rfl rfl hv_J0_length_8abf5 ⟨Nat.le_of_ble_eq_true rfl, Nat.le_of_ble_eq_true rfl⟩) (preT_X hKX hP hS hk3) rfl rfl hl.1 rfl (lv_room (Nat.le_of_ble_eq_true rfl)) dX7_bears_18 ⟨Nat.le_of_ble_eq_true rfl, Nat.le_of_ble_eq_true rfl⟩) hS (fun _ _ h => h) (fun _ h => h) (fun r S3 t H locs ht _ hq hB _ _ hS => ?_)
    obtain ⟨rfl, hu⟩ := hq
    have hP : VX dC dI cA P S H := by rw [← ht, ← hu]; exact hB
    refine lv_icmp_ge (tgt := 49) hx hb dX7_bears_21 (by decide) (fun c4 => ?_) (fun c4 => ?_)
    · replace h := h.1 c4
      refine lv_iconst (v := 1) hx hb dX7_bears_49 (by decide) ?_
      exact g_zret hx hb hr hlocks bz_1 h hP hS dX7_bears_50
    · replace h := h.2 c4
      refine lv_aload_n hx hb dX7_bears_24 rfl (lv_at hl 0 rfl) ?_
      refine lv_iload_n hx hb dX7_bears_25 rfl (lv_at hl 1 rfl) ?_
      refine lv_iload hx hb dX7_bears_26 (lv_at hl 3 rfl) ?_
      refine lv_iadd hx hb dX7_bears_28 ?_
      replace h := h _ rfl
      refine va_calli (va_runV (As := [.int _]) (rest := []) ⟨hx, hb, hml, hown, hts⟩ (c_X7_byteAt l hI h) (cwV 1 hts gv_X7_39 rfl rfl rfl hv_X7_byteAt ⟨Nat.le_of_ble_eq_true rfl, Nat.le_of_ble_eq_true rfl⟩) (preV_X hKX hP hS (kX_lt (rfl : kdX 27 = 7)) (eX7 (rfl : kdX 27 = 7)) rfl) rfl rfl hl.1 rfl (lv_room (Nat.le_of_ble_eq_true rfl)) dX7_bears_29 ⟨Nat.le_of_ble_eq_true rfl, Nat.le_of_ble_eq_true rfl⟩) hS (fun _ _ h => h) (fun _ h => h) (fun r7 S6 t H locs ht _ h hB _ _ hS => ?_)
      have hP : VX dC dI cA P S6 H := by rw [← ht]; exact hB
      refine lv_aload_n hx hb dX7_bears_32 rfl (lv_at hl 2 rfl) ?_
      refine lv_iload hx hb dX7_bears_33 (lv_at hl 3 rfl) ?_
      have hv9 := h.1
      replace h := h.2
      refine va_calli (va_runV (As := [.int _]) (rest := [.int _]) ⟨hx, hb, hml, hown, hts⟩ (c_JcharAt l hI hk3 hv9) (cwV 1 hts gv_X7_43 rfl rfl rfl hv_J0_charAt_5068e ⟨Nat.le_of_ble_eq_true rfl, Nat.le_of_ble_eq_true rfl⟩) (preT_X hKX hP hS hk3) rfl rfl hl.1 rfl (lv_room (Nat.le_of_ble_eq_true rfl)) dX7_bears_35 ⟨Nat.le_of_ble_eq_true rfl, Nat.le_of_ble_eq_true rfl⟩) hS (fun _ _ h => h) (fun _ h => h) (fun r S8 t H locs ht _ hq hB _ _ hS => ?_)
      obtain ⟨rfl, hu⟩ := hq
      have hP : VX dC dI cA P S6 H := by rw [← ht, ← hu]; exact hB
      refine lv_icmp_eq (tgt := 43) hx hb dX7_bears_38 (by decide) (fun c10 => ?_) (fun c10 => ?_)
      · replace h := h.1 c10
        obtain ⟨x11, ex11⟩ : ∃ y : Int32, y = v4 + 1 := ⟨_, rfl⟩
        replace h := h x11 ex11
        refine lv_iinc (v := x11) (lv' := [(4, .int x11), (0, .ref (P 27)), (1, .int v1), (3, .ref (adK k3))]) hx hb dX7_bears_43 hl (k := 3) rfl (by rw [ex11]; rfl) (by decide) rfl (fun ls hl => ?_)
        refine lv_goto (tgt := 15) hx hb dX7_bears_46 (by decide) ?_
        exact ih _ _ _ _ _ _ _ h hk3 hP hS (lv_sub hl [1, 2, 3, 0] rfl)
      · replace h := h.2 c10
        refine lv_iconst (v := 0) hx hb dX7_bears_41 (by decide) ?_
        exact g_zret hx hb hr hlocks bz_0 h hP hS dX7_bears_42
set_option maxRecDepth 100000 in
set_option maxHeartbeats 4000000 in
theorem e_X7_bears {p : Program} {l : Launch} {e : Env} {s : State} {m : MethodId} {args : Array Value} {below : List Frame} {meth : Method} {c : Code} {dC : Nat → ClassId} {dI : Nat → Nat → Nat} {cA : Nat → ClassId} {adK adV P : Nat → Nat} (C : CtxX dC dI cA adK adV P p s m args meth c cX7_bears 5 (some .boolean) RX7) {post : Int32 → St → Prop} : ∀ (v1 : Int32) (v2 : Int32) (k3 : Nat) (S : St) (H : Heap) (locs : List Loc) (ls : Array Slot), w_X7_bears v1 v2 k3 post S → k3 < 14 → VX dC dI cA P S H → va_S (PA 56 P) s.heap H locs → lv_has ls 5 [(0, .ref (P 27)), (1, .int v1), (2, .int v2), (3, .ref (adK k3))] → W p l e ({ frames := 4, cells := 0, slots := 0, locals := 88 } : Room) s m args below meth c H locs 0 0 (MQ below (va_Qi post (fun u t => VX dC dI cA P u t.heap) (PA 56 P)) args s 0 0 (PA 56 P)) (F0 m 0 ls []) := by
  have C := C
  obtain ⟨hI, hKX, ⟨hx, hb, hml, hown, hts⟩, hr, hlocks⟩ := id C
  have hK := hKX.1
  intro v1 v2 k3 S H locs ls h hk3 hP hS hl
  rw [w_X7_bears] at h
  refine lv_iload_n hx hb dX7_bears_0 rfl (lv_at hl 2 rfl) ?_
  refine lv_iload_n hx hb dX7_bears_1 rfl (lv_at hl 1 rfl) ?_
  refine lv_isub hx hb dX7_bears_2 ?_
  refine lv_aload_n hx hb dX7_bears_3 rfl (lv_at hl 3 rfl) ?_
  refine va_calli (va_runV (As := []) (rest := [.int _]) ⟨hx, hb, hml, hown, hts⟩ (c_Jlength l hI hk3) (cwV 0 hts gv_X7_34 rfl rfl rfl hv_J0_length_8abf5 ⟨Nat.le_of_ble_eq_true rfl, Nat.le_of_ble_eq_true rfl⟩) (preT_X hKX hP hS hk3) rfl rfl hl.1 rfl (lv_room (Nat.le_of_ble_eq_true rfl)) dX7_bears_4 ⟨Nat.le_of_ble_eq_true rfl, Nat.le_of_ble_eq_true rfl⟩) hS (fun _ _ h => h) (fun _ h => h) (fun r S1 t H locs ht _ hq hB _ _ hS => ?_)
  obtain ⟨rfl, hu⟩ := hq
  have hP : VX dC dI cA P S H := by rw [← ht, ← hu]; exact hB
  refine lv_icmp_eq (tgt := 12) hx hb dX7_bears_7 (by decide) (fun c2 => ?_) (fun c2 => ?_)
  · replace h := h.1 c2
    refine lv_iconst (v := 0) hx hb dX7_bears_12 (by decide) ?_
    refine lv_istore (lv' := [(4, .int 0), (0, .ref (P 27)), (1, .int v1), (2, .int v2), (3, .ref (adK k3))]) hx hb dX7_bears_13 hl (by decide) rfl (fun ls hl => ?_)
    obtain ⟨n12, h⟩ := h
    exact b_X7_bears_15 C n12 _ _ _ _ _ _ _ h hk3 hP hS (lv_sub hl [1, 2, 4, 0] rfl)
  · replace h := h.2 c2
    refine lv_iconst (v := 0) hx hb dX7_bears_10 (by decide) ?_
    exact g_zret hx hb hr hlocks bz_0 h hP hS dX7_bears_11
set_option maxRecDepth 100000 in
set_option maxHeartbeats 4000000 in
theorem c_X7_bears (l : Launch) {dC : Nat → ClassId} {dI : Nat → Nat → Nat} {cA : Nat → ClassId} {adK adV P : Nat → Nat} (hI : PInj 56 P) {v1 : Int32} {v2 : Int32} {k3 : Nat} (hk3 : k3 < 14) {post : Int32 → St → Prop} {S : St} (h : w_X7_bears v1 v2 k3 post S) : Met l yX7_bears (wW yX7_bears cX7_bears 5 (some .boolean)) ({ frames := 4, cells := 0, slots := 0, locals := 88 } : Room) (va_Pc [.ref (P 27), .int v1, .int v2, .ref (adK k3)] (PreX dC dI cA adK adV P S)) (va_Qi post (fun u t => VX dC dI cA P u t.heap) (PA 56 P)) 0 0 (PA 56 P) := by
  refine Met.ofW (cc := cX7_bears) (maxL := 5) (ret := (some .boolean)) (by decide) rfl ?_
  intro p e s m args below meth c s₁ B hml hv
  obtain ⟨rfl, hP, hKX⟩ := hv
  have hts : ∀ w ∈ G, w.before [.ref (P 27), .int v1, .int v2, .ref (adK k3)].toArray s = true := fun w hw => atoms_spec (ws := wW yX7_bears cX7_bears 5 (some .boolean)) B.pre w (List.mem_cons_of_mem _ hw)
  have C : CtxX dC dI cA adK adV P p s m [.ref (P 27), .int v1, .int v2, .ref (adK k3)].toArray meth c cX7_bears 5 (some .boolean) RX7 := ⟨hI, hKX, ⟨B.exec, B.bytes, hml, findClass_of_methodNamed B.named, hts⟩, B.returns, B.notSynchronized⟩
  have hS : va_S (PA 56 P) s.heap s.heap [] := va_S.rf
  have hl := lv_entry ([.ref (P 27), .int v1, .int v2, .ref (adK k3)]) (n := 5) (Nat.le_of_ble_eq_true rfl)
  rw [lg_entry_eq]
  generalize (lg_sl ([.ref (P 27), .int v1, .int v2, .ref (adK k3)]) ++ List.replicate (5 - (lg_sl ([.ref (P 27), .int v1, .int v2, .ref (adK k3)])).length) Slot.unset).toArray = ls at hl ⊢
  have hl : lv_has ls 5 [(0, .ref (P 27)), (1, .int v1), (2, .int v2), (3, .ref (adK k3))] := hl
  exact e_X7_bears C _ _ _ _ _ _ _ h hk3 hP hS hl
set_option maxRecDepth 100000 in
set_option maxHeartbeats 4000000 in
theorem b_X0_wordOn_2 {p : Program} {l : Launch} {e : Env} {s : State} {m : MethodId} {args : Array Value} {below : List Frame} {meth : Method} {c : Code} {dC : Nat → ClassId} {dI : Nat → Nat → Nat} {cA : Nat → ClassId} {adK adV P : Nat → Nat} (C : CtxX dC dI cA adK adV P p s m args meth c cX0_wordOn 3 (some .int) RX0) {post : Int32 → St → Prop}  : ∀ (n : Nat) (v1 : Int32) (v2 : Int32) (S : St) (H : Heap) (locs : List Loc) (ls : Array Slot), w_X0_wordOn_2 post n v1 v2 S → VX dC dI cA P S H → va_S (PA 56 P) s.heap H locs → lv_has ls 3 [(0, .ref (P 27)), (1, .int v1), (2, .int v2)] → W p l e ({ frames := 5, cells := 0, slots := 0, locals := 112 } : Room) s m args below meth c H locs 0 0 (MQ below (va_Qi post (fun u t => VX dC dI cA P u t.heap) (PA 56 P)) args s 0 0 (PA 56 P)) (F0 m 2 ls []) := by
  have C := C
  obtain ⟨hI, hKX, ⟨hx, hb, hml, hown, hts⟩, hr, hlocks⟩ := id C
  have hK := hKX.1
  intro n
  induction n with
  | zero =>
    intro v1 v2 S H locs ls h hP hS hl
    simp only [w_X0_wordOn_2] at h
  | succ n ih =>
    intro v1 v2 S H locs ls h hP hS hl
    rw [w_X0_wordOn_2] at h
    refine lv_iload_n hx hb dX0_wordOn_2 rfl (lv_at hl 2 rfl) ?_
    refine lv_bipush (v := 8) hx hb dX0_wordOn_3 (by decide) ?_
    refine lv_icmp_ge (tgt := 32) hx hb dX0_wordOn_5 (by decide) (fun c1 => ?_) (fun c1 => ?_)
    · replace h := h.1 c1
      refine lv_iconst (v := (-1)) hx hb dX0_wordOn_32 (by decide) ?_
      exact g_iret hx hb hr hlocks h hP hS dX0_wordOn_33
    · replace h := h.2 c1
      refine lv_aload_n hx hb dX0_wordOn_8 rfl (lv_at hl 0 rfl) ?_
      refine lv_iload_n hx hb dX0_wordOn_9 rfl (lv_at hl 1 rfl) ?_
      refine lv_aload_n hx hb dX0_wordOn_10 rfl (lv_at hl 0 rfl) ?_
      refine g_get (v := .int (S.1 27 1)) hx hb hts inG_X7 hown hK hP (kX_lt (rfl : kdX 27 = 7)) (eX7 (rfl : kdX 27 = 7)) rfl 1 (by decide) G_fl_X0_37 rfl rfl dX0_wordOn_11 ?_
      refine lv_iload_n hx hb dX0_wordOn_14 rfl (lv_at hl 2 rfl) ?_
      refine va_callq (va_runS (As := [.int _]) (rest := [.int _, .int _, .ref _]) ⟨hx, hb, hml, hown, hts⟩ (c_X0_wordText l hI h) (va_cwS 1 hts gs_X0_40 rfl rfl rfl hd_X0_wordText ⟨Nat.le_of_ble_eq_true rfl, Nat.le_of_ble_eq_true rfl⟩) (preS_X hKX hP hS) rfl rfl hl.1 rfl (lv_room (Nat.le_of_ble_eq_true rfl)) dX0_wordOn_15 ⟨Nat.le_of_ble_eq_true rfl, Nat.le_of_ble_eq_true rfl⟩) hS (fun _ _ h => h) (fun _ h => h) (fun q S2 t H locs ht _ h hB _ _ hS => ?_)
      have hP : VX dC dI cA P S2 H := by rw [← ht]; exact hB
      obtain ⟨i3, rfl, hk4, h⟩ := h
      replace h := h _ rfl
      refine va_calli (va_runV (As := [.int _, .int _, .ref _]) (rest := []) ⟨hx, hb, hml, hown, hts⟩ (c_X7_bears l hI hk4 h) (cwV 3 hts gv_X0_44 rfl rfl rfl hv_X7_bears ⟨Nat.le_of_ble_eq_true rfl, Nat.le_of_ble_eq_true rfl⟩) (preV_X hKX hP hS (kX_lt (rfl : kdX 27 = 7)) (eX7 (rfl : kdX 27 = 7)) rfl) rfl rfl hl.1 rfl (lv_room (Nat.le_of_ble_eq_true rfl)) dX0_wordOn_18 ⟨Nat.le_of_ble_eq_true rfl, Nat.le_of_ble_eq_true rfl⟩) hS (fun _ _ h => h) (fun _ h => h) (fun r7 S6 t H locs ht _ h hB _ _ hS => ?_)
      have hP : VX dC dI cA P S6 H := by rw [← ht]; exact hB
      refine lv_if_eq (tgt := 26) hx hb dX0_wordOn_21 (by decide) (fun c8 => ?_) (fun c8 => ?_)
      · replace h := h.1 c8
        obtain ⟨x9, ex9⟩ : ∃ y : Int32, y = v2 + 1 := ⟨_, rfl⟩
        replace h := h x9 ex9
        refine lv_iinc (v := x9) (lv' := [(2, .int x9), (0, .ref (P 27)), (1, .int v1)]) hx hb dX0_wordOn_26 hl (k := 2) rfl (by rw [ex9]; rfl) (by decide) rfl (fun ls hl => ?_)
        refine lv_goto (tgt := 2) hx hb dX0_wordOn_29 (by decide) ?_
        exact ih _ _ _ _ _ _ h  hP hS (lv_sub hl [1, 2, 0] rfl)
      · replace h := h.2 c8
        refine lv_iload_n hx hb dX0_wordOn_24 rfl (lv_at hl 2 rfl) ?_
        exact g_iret hx hb hr hlocks h hP hS dX0_wordOn_25
set_option maxRecDepth 100000 in
set_option maxHeartbeats 4000000 in
theorem e_X0_wordOn {p : Program} {l : Launch} {e : Env} {s : State} {m : MethodId} {args : Array Value} {below : List Frame} {meth : Method} {c : Code} {dC : Nat → ClassId} {dI : Nat → Nat → Nat} {cA : Nat → ClassId} {adK adV P : Nat → Nat} (C : CtxX dC dI cA adK adV P p s m args meth c cX0_wordOn 3 (some .int) RX0) {post : Int32 → St → Prop} : ∀ (v1 : Int32) (S : St) (H : Heap) (locs : List Loc) (ls : Array Slot), w_X0_wordOn v1 post S → VX dC dI cA P S H → va_S (PA 56 P) s.heap H locs → lv_has ls 3 [(0, .ref (P 27)), (1, .int v1)] → W p l e ({ frames := 5, cells := 0, slots := 0, locals := 112 } : Room) s m args below meth c H locs 0 0 (MQ below (va_Qi post (fun u t => VX dC dI cA P u t.heap) (PA 56 P)) args s 0 0 (PA 56 P)) (F0 m 0 ls []) := by
  have C := C
  obtain ⟨hI, hKX, ⟨hx, hb, hml, hown, hts⟩, hr, hlocks⟩ := id C
  have hK := hKX.1
  intro v1 S H locs ls h hP hS hl
  rw [w_X0_wordOn] at h
  refine lv_iconst (v := 0) hx hb dX0_wordOn_0 (by decide) ?_
  refine lv_istore_n (lv' := [(2, .int 0), (0, .ref (P 27)), (1, .int v1)]) hx hb dX0_wordOn_1 rfl hl (by decide) rfl (fun ls hl => ?_)
  obtain ⟨n10, h⟩ := h
  exact b_X0_wordOn_2 C n10 _ _ _ _ _ _ h  hP hS (lv_sub hl [1, 2, 0] rfl)
set_option maxRecDepth 100000 in
set_option maxHeartbeats 4000000 in
theorem c_X0_wordOn (l : Launch) {dC : Nat → ClassId} {dI : Nat → Nat → Nat} {cA : Nat → ClassId} {adK adV P : Nat → Nat} (hI : PInj 56 P) {v1 : Int32}  {post : Int32 → St → Prop} {S : St} (h : w_X0_wordOn v1 post S) : Met l yX0_wordOn (wW yX0_wordOn cX0_wordOn 3 (some .int)) ({ frames := 5, cells := 0, slots := 0, locals := 112 } : Room) (va_Pc [.ref (P 27), .int v1] (PreX dC dI cA adK adV P S)) (va_Qi post (fun u t => VX dC dI cA P u t.heap) (PA 56 P)) 0 0 (PA 56 P) := by
  refine Met.ofW (cc := cX0_wordOn) (maxL := 3) (ret := (some .int)) (by decide) rfl ?_
  intro p e s m args below meth c s₁ B hml hv
  obtain ⟨rfl, hP, hKX⟩ := hv
  have hts : ∀ w ∈ G, w.before [.ref (P 27), .int v1].toArray s = true := fun w hw => atoms_spec (ws := wW yX0_wordOn cX0_wordOn 3 (some .int)) B.pre w (List.mem_cons_of_mem _ hw)
  have C : CtxX dC dI cA adK adV P p s m [.ref (P 27), .int v1].toArray meth c cX0_wordOn 3 (some .int) RX0 := ⟨hI, hKX, ⟨B.exec, B.bytes, hml, findClass_of_methodNamed B.named, hts⟩, B.returns, B.notSynchronized⟩
  have hS : va_S (PA 56 P) s.heap s.heap [] := va_S.rf
  have hl := lv_entry ([.ref (P 27), .int v1]) (n := 3) (Nat.le_of_ble_eq_true rfl)
  rw [lg_entry_eq]
  generalize (lg_sl ([.ref (P 27), .int v1]) ++ List.replicate (3 - (lg_sl ([.ref (P 27), .int v1])).length) Slot.unset).toArray = ls at hl ⊢
  have hl : lv_has ls 3 [(0, .ref (P 27)), (1, .int v1)] := hl
  exact e_X0_wordOn C _ _ _ _ _ h  hP hS hl
set_option maxRecDepth 100000 in
set_option maxHeartbeats 4000000 in
theorem b_X8_power_5 {p : Program} {l : Launch} {e : Env} {s : State} {m : MethodId} {args : Array Value} {below : List Frame} {meth : Method} {c : Code} {dC : Nat → ClassId} {dI : Nat → Nat → Nat} {cA : Nat → ClassId} {adK adV P : Nat → Nat} (C : CtxX dC dI cA adK adV P p s m args meth c cX8_power 5 (some .long) RX8) {post : Int64 → St → Prop}  : ∀ (n : Nat) (v0 : Int32) (v1 : Int32) (v2 : Int64) (v4 : Int32) (S : St) (H : Heap) (locs : List Loc) (ls : Array Slot), w_X8_power_5 post n v0 v1 v2 v4 S → VX dC dI cA P S H → va_S (PA 56 P) s.heap H locs → lv_has ls 5 [(0, .int v0), (1, .int v1), (2, .long v2), (4, .int v4)] → W p l e ({ frames := 0, cells := 0, slots := 0, locals := 0 } : Room) s m args below meth c H locs 0 0 (MQ below (va_Ql post (fun u t => VX dC dI cA P u t.heap) (PA 56 P)) args s 0 0 (PA 56 P)) (F0 m 5 ls []) := by
  have C := C
  obtain ⟨hI, hKX, ⟨hx, hb, hml, hown, hts⟩, hr, hlocks⟩ := id C
  have hK := hKX.1
  intro n
  induction n with
  | zero =>
    intro v0 v1 v2 v4 S H locs ls h hP hS hl
    simp only [w_X8_power_5] at h
  | succ n ih =>
    intro v0 v1 v2 v4 S H locs ls h hP hS hl
    rw [w_X8_power_5] at h
    refine lv_iload hx hb dX8_power_5 (lv_at hl 3 rfl) ?_
    refine lv_iload_n hx hb dX8_power_7 rfl (lv_at hl 1 rfl) ?_
    refine lv_icmp_ge (tgt := 22) hx hb dX8_power_8 (by decide) (fun c1 => ?_) (fun c1 => ?_)
    · replace h := h.1 c1
      refine lv_lload_n hx hb dX8_power_22 rfl (lv_at hl 2 rfl) ?_
      exact g_lret hx hb hr hlocks h hP hS dX8_power_23
    · replace h := h.2 c1
      refine lv_lload_n hx hb dX8_power_11 rfl (lv_at hl 2 rfl) ?_
      refine lv_iload_n hx hb dX8_power_12 rfl (lv_at hl 0 rfl) ?_
      refine lv_i2l hx hb dX8_power_13 rfl ?_
      refine lv_lmul hx hb dX8_power_14 ?_
      refine lv_topl (fun x2 ex2 => ?_)
      replace h := h x2 ex2
      refine lv_lstore_n (lv' := [(2, .long x2), (0, .int v0), (1, .int v1), (4, .int v4)]) hx hb dX8_power_15 rfl hl (by decide) rfl (fun ls hl => ?_)
      obtain ⟨x3, ex3⟩ : ∃ y : Int32, y = v4 + 1 := ⟨_, rfl⟩
      replace h := h x3 ex3
      refine lv_iinc (v := x3) (lv' := [(4, .int x3), (2, .long x2), (0, .int v0), (1, .int v1)]) hx hb dX8_power_16 hl (k := 3) rfl (by rw [ex3]; rfl) (by decide) rfl (fun ls hl => ?_)
      refine lv_goto (tgt := 5) hx hb dX8_power_19 (by decide) ?_
      exact ih _ _ _ _ _ _ _ _ h  hP hS (lv_sub hl [2, 3, 1, 0] rfl)
set_option maxRecDepth 100000 in
set_option maxHeartbeats 4000000 in
theorem e_X8_power {p : Program} {l : Launch} {e : Env} {s : State} {m : MethodId} {args : Array Value} {below : List Frame} {meth : Method} {c : Code} {dC : Nat → ClassId} {dI : Nat → Nat → Nat} {cA : Nat → ClassId} {adK adV P : Nat → Nat} (C : CtxX dC dI cA adK adV P p s m args meth c cX8_power 5 (some .long) RX8) {post : Int64 → St → Prop} : ∀ (v0 : Int32) (v1 : Int32) (S : St) (H : Heap) (locs : List Loc) (ls : Array Slot), w_X8_power v0 v1 post S → VX dC dI cA P S H → va_S (PA 56 P) s.heap H locs → lv_has ls 5 [(0, .int v0), (1, .int v1)] → W p l e ({ frames := 0, cells := 0, slots := 0, locals := 0 } : Room) s m args below meth c H locs 0 0 (MQ below (va_Ql post (fun u t => VX dC dI cA P u t.heap) (PA 56 P)) args s 0 0 (PA 56 P)) (F0 m 0 ls []) := by
  have C := C
  obtain ⟨hI, hKX, ⟨hx, hb, hml, hown, hts⟩, hr, hlocks⟩ := id C
  have hK := hKX.1
  intro v0 v1 S H locs ls h hP hS hl
  rw [w_X8_power] at h
  refine lv_lconst (v := 1) hx hb dX8_power_0 (by decide) ?_
  refine lv_lstore_n (lv' := [(2, .long 1), (0, .int v0), (1, .int v1)]) hx hb dX8_power_1 rfl hl (by decide) rfl (fun ls hl => ?_)
  refine lv_iconst (v := 0) hx hb dX8_power_2 (by decide) ?_
  refine lv_istore (lv' := [(4, .int 0), (2, .long 1), (0, .int v0), (1, .int v1)]) hx hb dX8_power_3 hl (by decide) rfl (fun ls hl => ?_)
  obtain ⟨n4, h⟩ := h
  exact b_X8_power_5 C n4 _ _ _ _ _ _ _ _ h  hP hS (lv_sub hl [2, 3, 1, 0] rfl)
set_option maxRecDepth 100000 in
set_option maxHeartbeats 4000000 in
theorem c_X8_power (l : Launch) {dC : Nat → ClassId} {dI : Nat → Nat → Nat} {cA : Nat → ClassId} {adK adV P : Nat → Nat} (hI : PInj 56 P) {v0 : Int32} {v1 : Int32}  {post : Int64 → St → Prop} {S : St} (h : w_X8_power v0 v1 post S) : Met l yX8_power (wW yX8_power cX8_power 5 (some .long)) ({ frames := 0, cells := 0, slots := 0, locals := 0 } : Room) (va_Pc [.int v0, .int v1] (PreX dC dI cA adK adV P S)) (va_Ql post (fun u t => VX dC dI cA P u t.heap) (PA 56 P)) 0 0 (PA 56 P) := by
  refine Met.ofW (cc := cX8_power) (maxL := 5) (ret := (some .long)) (by decide) rfl ?_
  intro p e s m args below meth c s₁ B hml hv
  obtain ⟨rfl, hP, hKX⟩ := hv
  have hts : ∀ w ∈ G, w.before [.int v0, .int v1].toArray s = true := fun w hw => atoms_spec (ws := wW yX8_power cX8_power 5 (some .long)) B.pre w (List.mem_cons_of_mem _ hw)
  have C : CtxX dC dI cA adK adV P p s m [.int v0, .int v1].toArray meth c cX8_power 5 (some .long) RX8 := ⟨hI, hKX, ⟨B.exec, B.bytes, hml, findClass_of_methodNamed B.named, hts⟩, B.returns, B.notSynchronized⟩
  have hS : va_S (PA 56 P) s.heap s.heap [] := va_S.rf
  have hl := lv_entry ([.int v0, .int v1]) (n := 5) (Nat.le_of_ble_eq_true rfl)
  rw [lg_entry_eq]
  generalize (lg_sl ([.int v0, .int v1]) ++ List.replicate (5 - (lg_sl ([.int v0, .int v1])).length) Slot.unset).toArray = ls at hl ⊢
  have hl : lv_has ls 5 [(0, .int v0), (1, .int v1)] := hl
  exact e_X8_power C _ _ _ _ _ _ h  hP hS hl
set_option maxRecDepth 100000 in
set_option maxHeartbeats 4000000 in
theorem b_X8_commonDivisor_9 {p : Program} {l : Launch} {e : Env} {s : State} {m : MethodId} {args : Array Value} {below : List Frame} {meth : Method} {c : Code} {dC : Nat → ClassId} {dI : Nat → Nat → Nat} {cA : Nat → ClassId} {adK adV P : Nat → Nat} (C : CtxX dC dI cA adK adV P p s m args meth c cX8_commonDivisor 11 (some .long) RX8) {post : Int64 → St → Prop}  : ∀ (n : Nat) (v4 : Int64) (v6 : Int64) (v8 : Int32) (S : St) (H : Heap) (locs : List Loc) (ls : Array Slot), w_X8_commonDivisor_9 post n v4 v6 v8 S → VX dC dI cA P S H → va_S (PA 56 P) s.heap H locs → lv_has ls 11 [(4, .long v4), (6, .long v6), (8, .int v8)] → W p l e ({ frames := 0, cells := 0, slots := 0, locals := 0 } : Room) s m args below meth c H locs 0 0 (MQ below (va_Ql post (fun u t => VX dC dI cA P u t.heap) (PA 56 P)) args s 0 0 (PA 56 P)) (F0 m 9 ls []) := by
  have C := C
  obtain ⟨hI, hKX, ⟨hx, hb, hml, hown, hts⟩, hr, hlocks⟩ := id C
  have hK := hKX.1
  intro n
  induction n with
  | zero =>
    intro v4 v6 v8 S H locs ls h hP hS hl
    simp only [w_X8_commonDivisor_9] at h
  | succ n ih =>
    intro v4 v6 v8 S H locs ls h hP hS hl
    rw [w_X8_commonDivisor_9] at h
    refine lv_iload hx hb dX8_commonDivisor_9 (lv_at hl 2 rfl) ?_
    refine lv_sipush (v := 1000) hx hb dX8_commonDivisor_11 (by decide) ?_
    refine lv_icmp_ge (tgt := 45) hx hb dX8_commonDivisor_14 (by decide) (fun c1 => ?_) (fun c1 => ?_)
    · replace h := h.1 c1
      refine lv_lload hx hb dX8_commonDivisor_45 (lv_at hl 0 rfl) ?_
      exact g_lret hx hb hr hlocks h hP hS dX8_commonDivisor_47
    · replace h := h.2 c1
      refine lv_lload hx hb dX8_commonDivisor_17 (lv_at hl 1 rfl) ?_
      refine lv_lconst (v := 0) hx hb dX8_commonDivisor_19 (by decide) ?_
      refine W.lcmp hx hb dX8_commonDivisor_20 ?_
      refine lv_if_eq (tgt := 45) hx hb dX8_commonDivisor_21 (by decide) (fun c2 => ?_) (fun c2 => ?_)
      · replace h := h.1 ((lg_cmp_eq _ _).mp c2)
        refine lv_lload hx hb dX8_commonDivisor_45 (lv_at hl 0 rfl) ?_
        exact g_lret hx hb hr hlocks h hP hS dX8_commonDivisor_47
      · replace h := h.2 (fun z => c2 ((lg_cmp_eq _ _).mpr z))
        refine lv_lload hx hb dX8_commonDivisor_24 (lv_at hl 0 rfl) ?_
        refine lv_lload hx hb dX8_commonDivisor_26 (lv_at hl 1 rfl) ?_
        refine lv_lrem hx hb dX8_commonDivisor_28 h.1 ?_
        replace h := h.2
        refine lv_topl (fun x3 ex3 => ?_)
        replace h := h x3 ex3
        refine lv_lstore (lv' := [(9, .long x3), (4, .long v4), (6, .long v6), (8, .int v8)]) hx hb dX8_commonDivisor_29 hl (by decide) rfl (fun ls hl => ?_)
        refine lv_lload hx hb dX8_commonDivisor_31 (lv_at hl 2 rfl) ?_
        refine lv_lstore (lv' := [(4, .long v6), (9, .long x3), (6, .long v6), (8, .int v8)]) hx hb dX8_commonDivisor_33 hl (by decide) rfl (fun ls hl => ?_)
        refine lv_lload hx hb dX8_commonDivisor_35 (lv_at hl 1 rfl) ?_
        refine lv_lstore (lv' := [(6, .long x3), (4, .long v6), (9, .long x3), (8, .int v8)]) hx hb dX8_commonDivisor_37 hl (by decide) rfl (fun ls hl => ?_)
        obtain ⟨x4, ex4⟩ : ∃ y : Int32, y = v8 + 1 := ⟨_, rfl⟩
        replace h := h x4 ex4
        refine lv_iinc (v := x4) (lv' := [(8, .int x4), (6, .long x3), (4, .long v6), (9, .long x3)]) hx hb dX8_commonDivisor_39 hl (k := 3) rfl (by rw [ex4]; rfl) (by decide) rfl (fun ls hl => ?_)
        refine lv_goto (tgt := 9) hx hb dX8_commonDivisor_42 (by decide) ?_
        exact ih _ _ _ _ _ _ _ h  hP hS (lv_sub hl [2, 1, 0] rfl)
set_option maxRecDepth 100000 in
set_option maxHeartbeats 4000000 in
theorem e_X8_commonDivisor {p : Program} {l : Launch} {e : Env} {s : State} {m : MethodId} {args : Array Value} {below : List Frame} {meth : Method} {c : Code} {dC : Nat → ClassId} {dI : Nat → Nat → Nat} {cA : Nat → ClassId} {adK adV P : Nat → Nat} (C : CtxX dC dI cA adK adV P p s m args meth c cX8_commonDivisor 11 (some .long) RX8) {post : Int64 → St → Prop} : ∀ (v0 : Int64) (v2 : Int64) (S : St) (H : Heap) (locs : List Loc) (ls : Array Slot), w_X8_commonDivisor v0 v2 post S → VX dC dI cA P S H → va_S (PA 56 P) s.heap H locs → lv_has ls 11 [(0, .long v0), (2, .long v2)] → W p l e ({ frames := 0, cells := 0, slots := 0, locals := 0 } : Room) s m args below meth c H locs 0 0 (MQ below (va_Ql post (fun u t => VX dC dI cA P u t.heap) (PA 56 P)) args s 0 0 (PA 56 P)) (F0 m 0 ls []) := by
  have C := C
  obtain ⟨hI, hKX, ⟨hx, hb, hml, hown, hts⟩, hr, hlocks⟩ := id C
  have hK := hKX.1
  intro v0 v2 S H locs ls h hP hS hl
  rw [w_X8_commonDivisor] at h
  refine lv_lload_n hx hb dX8_commonDivisor_0 rfl (lv_at hl 0 rfl) ?_
  refine lv_lstore (lv' := [(4, .long v0), (0, .long v0), (2, .long v2)]) hx hb dX8_commonDivisor_1 hl (by decide) rfl (fun ls hl => ?_)
  refine lv_lload_n hx hb dX8_commonDivisor_3 rfl (lv_at hl 2 rfl) ?_
  refine lv_lstore (lv' := [(6, .long v2), (4, .long v0), (0, .long v0), (2, .long v2)]) hx hb dX8_commonDivisor_4 hl (by decide) rfl (fun ls hl => ?_)
  refine lv_iconst (v := 0) hx hb dX8_commonDivisor_6 (by decide) ?_
  refine lv_istore (lv' := [(8, .int 0), (6, .long v2), (4, .long v0), (0, .long v0), (2, .long v2)]) hx hb dX8_commonDivisor_7 hl (by decide) rfl (fun ls hl => ?_)
  obtain ⟨n5, h⟩ := h
  exact b_X8_commonDivisor_9 C n5 _ _ _ _ _ _ _ h  hP hS (lv_sub hl [2, 1, 0] rfl)
set_option maxRecDepth 100000 in
set_option maxHeartbeats 4000000 in
theorem c_X8_commonDivisor (l : Launch) {dC : Nat → ClassId} {dI : Nat → Nat → Nat} {cA : Nat → ClassId} {adK adV P : Nat → Nat} (hI : PInj 56 P) {v0 : Int64} {v2 : Int64}  {post : Int64 → St → Prop} {S : St} (h : w_X8_commonDivisor v0 v2 post S) : Met l yX8_commonDivisor (wW yX8_commonDivisor cX8_commonDivisor 11 (some .long)) ({ frames := 0, cells := 0, slots := 0, locals := 0 } : Room) (va_Pc [.long v0, .long v2] (PreX dC dI cA adK adV P S)) (va_Ql post (fun u t => VX dC dI cA P u t.heap) (PA 56 P)) 0 0 (PA 56 P) := by
  refine Met.ofW (cc := cX8_commonDivisor) (maxL := 11) (ret := (some .long)) (by decide) rfl ?_
  intro p e s m args below meth c s₁ B hml hv
  obtain ⟨rfl, hP, hKX⟩ := hv
  have hts : ∀ w ∈ G, w.before [.long v0, .long v2].toArray s = true := fun w hw => atoms_spec (ws := wW yX8_commonDivisor cX8_commonDivisor 11 (some .long)) B.pre w (List.mem_cons_of_mem _ hw)
  have C : CtxX dC dI cA adK adV P p s m [.long v0, .long v2].toArray meth c cX8_commonDivisor 11 (some .long) RX8 := ⟨hI, hKX, ⟨B.exec, B.bytes, hml, findClass_of_methodNamed B.named, hts⟩, B.returns, B.notSynchronized⟩
  have hS : va_S (PA 56 P) s.heap s.heap [] := va_S.rf
  have hl := lv_entry ([.long v0, .long v2]) (n := 11) (Nat.le_of_ble_eq_true rfl)
  rw [lg_entry_eq]
  generalize (lg_sl ([.long v0, .long v2]) ++ List.replicate (11 - (lg_sl ([.long v0, .long v2])).length) Slot.unset).toArray = ls at hl ⊢
  have hl : lv_has ls 11 [(0, .long v0), (2, .long v2)] := hl
  exact e_X8_commonDivisor C _ _ _ _ _ _ h  hP hS hl
set_option maxRecDepth 100000 in
set_option maxHeartbeats 4000000 in
theorem e_X8_remainder {p : Program} {l : Launch} {e : Env} {s : State} {m : MethodId} {args : Array Value} {below : List Frame} {meth : Method} {c : Code} {dC : Nat → ClassId} {dI : Nat → Nat → Nat} {cA : Nat → ClassId} {adK adV P : Nat → Nat} (C : CtxX dC dI cA adK adV P p s m args meth c cX8_remainder 2 (some .int) RX8) {post : Int32 → St → Prop} : ∀ (v0 : Int32) (v1 : Int32) (S : St) (H : Heap) (locs : List Loc) (ls : Array Slot), w_X8_remainder v0 v1 post S → VX dC dI cA P S H → va_S (PA 56 P) s.heap H locs → lv_has ls 2 [(0, .int v0), (1, .int v1)] → W p l e ({ frames := 0, cells := 0, slots := 0, locals := 0 } : Room) s m args below meth c H locs 0 0 (MQ below (va_Qi post (fun u t => VX dC dI cA P u t.heap) (PA 56 P)) args s 0 0 (PA 56 P)) (F0 m 0 ls []) := by
  have C := C
  obtain ⟨hI, hKX, ⟨hx, hb, hml, hown, hts⟩, hr, hlocks⟩ := id C
  have hK := hKX.1
  intro v0 v1 S H locs ls h hP hS hl
  rw [w_X8_remainder] at h
  refine lv_iload_n hx hb dX8_remainder_0 rfl (lv_at hl 1 rfl) ?_
  refine lv_if_ne (tgt := 8) hx hb dX8_remainder_1 (by decide) (fun c1 => ?_) (fun c1 => ?_)
  · replace h := h.2 c1
    refine lv_iload_n hx hb dX8_remainder_8 rfl (lv_at hl 0 rfl) ?_
    refine lv_iload_n hx hb dX8_remainder_9 rfl (lv_at hl 1 rfl) ?_
    refine lv_irem hx hb dX8_remainder_10 h.1 ?_
    replace h := h.2
    exact g_iret hx hb hr hlocks h hP hS dX8_remainder_11
  · replace h := h.1 c1
    refine lv_iconst (v := 0) hx hb dX8_remainder_4 (by decide) ?_
    refine lv_goto (tgt := 11) hx hb dX8_remainder_5 (by decide) ?_
    exact g_iret hx hb hr hlocks h hP hS dX8_remainder_11
set_option maxRecDepth 100000 in
set_option maxHeartbeats 4000000 in
theorem c_X8_remainder (l : Launch) {dC : Nat → ClassId} {dI : Nat → Nat → Nat} {cA : Nat → ClassId} {adK adV P : Nat → Nat} (hI : PInj 56 P) {v0 : Int32} {v1 : Int32}  {post : Int32 → St → Prop} {S : St} (h : w_X8_remainder v0 v1 post S) : Met l yX8_remainder (wW yX8_remainder cX8_remainder 2 (some .int)) ({ frames := 0, cells := 0, slots := 0, locals := 0 } : Room) (va_Pc [.int v0, .int v1] (PreX dC dI cA adK adV P S)) (va_Qi post (fun u t => VX dC dI cA P u t.heap) (PA 56 P)) 0 0 (PA 56 P) := by
  refine Met.ofW (cc := cX8_remainder) (maxL := 2) (ret := (some .int)) (by decide) rfl ?_
  intro p e s m args below meth c s₁ B hml hv
  obtain ⟨rfl, hP, hKX⟩ := hv
  have hts : ∀ w ∈ G, w.before [.int v0, .int v1].toArray s = true := fun w hw => atoms_spec (ws := wW yX8_remainder cX8_remainder 2 (some .int)) B.pre w (List.mem_cons_of_mem _ hw)
  have C : CtxX dC dI cA adK adV P p s m [.int v0, .int v1].toArray meth c cX8_remainder 2 (some .int) RX8 := ⟨hI, hKX, ⟨B.exec, B.bytes, hml, findClass_of_methodNamed B.named, hts⟩, B.returns, B.notSynchronized⟩
  have hS : va_S (PA 56 P) s.heap s.heap [] := va_S.rf
  have hl := lv_entry ([.int v0, .int v1]) (n := 2) (Nat.le_of_ble_eq_true rfl)
  rw [lg_entry_eq]
  generalize (lg_sl ([.int v0, .int v1]) ++ List.replicate (2 - (lg_sl ([.int v0, .int v1])).length) Slot.unset).toArray = ls at hl ⊢
  have hl : lv_has ls 2 [(0, .int v0), (1, .int v1)] := hl
  exact e_X8_remainder C _ _ _ _ _ _ h  hP hS hl
set_option maxRecDepth 100000 in
set_option maxHeartbeats 4000000 in
theorem e_X1_turns {p : Program} {l : Launch} {e : Env} {s : State} {m : MethodId} {args : Array Value} {below : List Frame} {meth : Method} {c : Code} {dC : Nat → ClassId} {dI : Nat → Nat → Nat} {cA : Nat → ClassId} {adK adV P : Nat → Nat} (C : CtxX dC dI cA adK adV P p s m args meth c cX1_turns 2 (some .boolean) RX1) {post : Int32 → St → Prop} : ∀ (k0 : Nat) (v1 : Int32) (S : St) (H : Heap) (locs : List Loc) (ls : Array Slot), w_X1_turns k0 v1 post S → kdX k0 = 1 → VX dC dI cA P S H → va_S (PA 56 P) s.heap H locs → lv_has ls 2 [(0, .ref (P k0)), (1, .int v1)] → W p l e ({ frames := 0, cells := 0, slots := 0, locals := 0 } : Room) s m args below meth c H locs 0 0 (MQ below (va_Qi post (fun u t => VX dC dI cA P u t.heap) (PA 56 P)) args s 0 0 (PA 56 P)) (F0 m 0 ls []) := by
  have C := C
  obtain ⟨hI, hKX, ⟨hx, hb, hml, hown, hts⟩, hr, hlocks⟩ := id C
  have hK := hKX.1
  intro k0 v1 S H locs ls h hk0 hP hS hl
  rw [w_X1_turns] at h
  refine lv_aload_n hx hb dX1_turns_0 rfl (lv_at hl 0 rfl) ?_
  refine g_get (v := .int (S.1 k0 6)) hx hb hts inG_X1 hown hK hP (kX_lt hk0) (eX1 hk0) rfl 6 (by decide) G_fl_X1_30 rfl rfl dX1_turns_1 ?_
  refine lv_if_eq (tgt := 16) hx hb dX1_turns_4 (by decide) (fun c1 => ?_) (fun c1 => ?_)
  · replace h := h.1 c1
    refine lv_iconst (v := 1) hx hb dX1_turns_16 (by decide) ?_
    refine lv_goto (tgt := 21) hx hb dX1_turns_17 (by decide) ?_
    exact g_zret hx hb hr hlocks bz_1 h hP hS dX1_turns_21
  · replace h := h.2 c1
    refine lv_iload_n hx hb dX1_turns_7 rfl (lv_at hl 1 rfl) ?_
    refine lv_aload_n hx hb dX1_turns_8 rfl (lv_at hl 0 rfl) ?_
    refine g_get (v := .int (S.1 k0 6)) hx hb hts inG_X1 hown hK hP (kX_lt hk0) (eX1 hk0) rfl 6 (by decide) G_fl_X1_30 rfl rfl dX1_turns_9 ?_
    refine lv_irem hx hb dX1_turns_12 h.1 ?_
    replace h := h.2
    refine lv_if_ne (tgt := 20) hx hb dX1_turns_13 (by decide) (fun c2 => ?_) (fun c2 => ?_)
    · replace h := h.2 c2
      refine lv_iconst (v := 0) hx hb dX1_turns_20 (by decide) ?_
      exact g_zret hx hb hr hlocks bz_0 h hP hS dX1_turns_21
    · replace h := h.1 c2
      refine lv_iconst (v := 1) hx hb dX1_turns_16 (by decide) ?_
      refine lv_goto (tgt := 21) hx hb dX1_turns_17 (by decide) ?_
      exact g_zret hx hb hr hlocks bz_1 h hP hS dX1_turns_21
set_option maxRecDepth 100000 in
set_option maxHeartbeats 4000000 in
theorem c_X1_turns (l : Launch) {dC : Nat → ClassId} {dI : Nat → Nat → Nat} {cA : Nat → ClassId} {adK adV P : Nat → Nat} (hI : PInj 56 P) {k0 : Nat} {v1 : Int32} (hk0 : kdX k0 = 1) {post : Int32 → St → Prop} {S : St} (h : w_X1_turns k0 v1 post S) : Met l yX1_turns (wW yX1_turns cX1_turns 2 (some .boolean)) ({ frames := 0, cells := 0, slots := 0, locals := 0 } : Room) (va_Pc [.ref (P k0), .int v1] (PreX dC dI cA adK adV P S)) (va_Qi post (fun u t => VX dC dI cA P u t.heap) (PA 56 P)) 0 0 (PA 56 P) := by
  refine Met.ofW (cc := cX1_turns) (maxL := 2) (ret := (some .boolean)) (by decide) rfl ?_
  intro p e s m args below meth c s₁ B hml hv
  obtain ⟨rfl, hP, hKX⟩ := hv
  have hts : ∀ w ∈ G, w.before [.ref (P k0), .int v1].toArray s = true := fun w hw => atoms_spec (ws := wW yX1_turns cX1_turns 2 (some .boolean)) B.pre w (List.mem_cons_of_mem _ hw)
  have C : CtxX dC dI cA adK adV P p s m [.ref (P k0), .int v1].toArray meth c cX1_turns 2 (some .boolean) RX1 := ⟨hI, hKX, ⟨B.exec, B.bytes, hml, findClass_of_methodNamed B.named, hts⟩, B.returns, B.notSynchronized⟩
  have hS : va_S (PA 56 P) s.heap s.heap [] := va_S.rf
  have hl := lv_entry ([.ref (P k0), .int v1]) (n := 2) (Nat.le_of_ble_eq_true rfl)
  rw [lg_entry_eq]
  generalize (lg_sl ([.ref (P k0), .int v1]) ++ List.replicate (2 - (lg_sl ([.ref (P k0), .int v1])).length) Slot.unset).toArray = ls at hl ⊢
  have hl : lv_has ls 2 [(0, .ref (P k0)), (1, .int v1)] := hl
  exact e_X1_turns C _ _ _ _ _ _ h hk0 hP hS hl
set_option maxRecDepth 100000 in
set_option maxHeartbeats 4000000 in
theorem e_X1_restAfter {p : Program} {l : Launch} {e : Env} {s : State} {m : MethodId} {args : Array Value} {below : List Frame} {meth : Method} {c : Code} {dC : Nat → ClassId} {dI : Nat → Nat → Nat} {cA : Nat → ClassId} {adK adV P : Nat → Nat} (C : CtxX dC dI cA adK adV P p s m args meth c cX1_restAfter 2 (some .int) RX1) {post : Int32 → St → Prop} : ∀ (k0 : Nat) (v1 : Int32) (S : St) (H : Heap) (locs : List Loc) (ls : Array Slot), w_X1_restAfter k0 v1 post S → kdX k0 = 1 → VX dC dI cA P S H → va_S (PA 56 P) s.heap H locs → lv_has ls 2 [(0, .ref (P k0)), (1, .int v1)] → W p l e ({ frames := 0, cells := 0, slots := 0, locals := 0 } : Room) s m args below meth c H locs 0 0 (MQ below (va_Qi post (fun u t => VX dC dI cA P u t.heap) (PA 56 P)) args s 0 0 (PA 56 P)) (F0 m 0 ls []) := by
  have C := C
  obtain ⟨hI, hKX, ⟨hx, hb, hml, hown, hts⟩, hr, hlocks⟩ := id C
  have hK := hKX.1
  intro k0 v1 S H locs ls h hk0 hP hS hl
  rw [w_X1_restAfter] at h
  refine lv_aload_n hx hb dX1_restAfter_0 rfl (lv_at hl 0 rfl) ?_
  refine g_get (v := .int (S.1 k0 1)) hx hb hts inG_X1 hown hK hP (kX_lt hk0) (eX1 hk0) rfl 1 (by decide) G_fl_X1_15 rfl rfl dX1_restAfter_1 ?_
  refine lv_if_ne (tgt := 11) hx hb dX1_restAfter_4 (by decide) (fun c1 => ?_) (fun c1 => ?_)
  · replace h := h.2 c1
    refine lv_iload_n hx hb dX1_restAfter_11 rfl (lv_at hl 1 rfl) ?_
    refine lv_aload_n hx hb dX1_restAfter_12 rfl (lv_at hl 0 rfl) ?_
    refine g_get (v := .int (S.1 k0 2)) hx hb hts inG_X1 hown hK hP (kX_lt hk0) (eX1 hk0) rfl 2 (by decide) G_fl_X1_18 rfl rfl dX1_restAfter_13 ?_
    refine lv_imul hx hb dX1_restAfter_16 ?_
    refine lv_aload_n hx hb dX1_restAfter_17 rfl (lv_at hl 0 rfl) ?_
    refine g_get (v := .int (S.1 k0 1)) hx hb hts inG_X1 hown hK hP (kX_lt hk0) (eX1 hk0) rfl 1 (by decide) G_fl_X1_15 rfl rfl dX1_restAfter_18 ?_
    refine lv_irem hx hb dX1_restAfter_21 h.1 ?_
    replace h := h.2
    exact g_iret hx hb hr hlocks h hP hS dX1_restAfter_22
  · replace h := h.1 c1
    refine lv_iconst (v := 0) hx hb dX1_restAfter_7 (by decide) ?_
    refine lv_goto (tgt := 22) hx hb dX1_restAfter_8 (by decide) ?_
    exact g_iret hx hb hr hlocks h hP hS dX1_restAfter_22
set_option maxRecDepth 100000 in
set_option maxHeartbeats 4000000 in
theorem c_X1_restAfter (l : Launch) {dC : Nat → ClassId} {dI : Nat → Nat → Nat} {cA : Nat → ClassId} {adK adV P : Nat → Nat} (hI : PInj 56 P) {k0 : Nat} {v1 : Int32} (hk0 : kdX k0 = 1) {post : Int32 → St → Prop} {S : St} (h : w_X1_restAfter k0 v1 post S) : Met l yX1_restAfter (wW yX1_restAfter cX1_restAfter 2 (some .int)) ({ frames := 0, cells := 0, slots := 0, locals := 0 } : Room) (va_Pc [.ref (P k0), .int v1] (PreX dC dI cA adK adV P S)) (va_Qi post (fun u t => VX dC dI cA P u t.heap) (PA 56 P)) 0 0 (PA 56 P) := by
  refine Met.ofW (cc := cX1_restAfter) (maxL := 2) (ret := (some .int)) (by decide) rfl ?_
  intro p e s m args below meth c s₁ B hml hv
  obtain ⟨rfl, hP, hKX⟩ := hv
  have hts : ∀ w ∈ G, w.before [.ref (P k0), .int v1].toArray s = true := fun w hw => atoms_spec (ws := wW yX1_restAfter cX1_restAfter 2 (some .int)) B.pre w (List.mem_cons_of_mem _ hw)
  have C : CtxX dC dI cA adK adV P p s m [.ref (P k0), .int v1].toArray meth c cX1_restAfter 2 (some .int) RX1 := ⟨hI, hKX, ⟨B.exec, B.bytes, hml, findClass_of_methodNamed B.named, hts⟩, B.returns, B.notSynchronized⟩
  have hS : va_S (PA 56 P) s.heap s.heap [] := va_S.rf
  have hl := lv_entry ([.ref (P k0), .int v1]) (n := 2) (Nat.le_of_ble_eq_true rfl)
  rw [lg_entry_eq]
  generalize (lg_sl ([.ref (P k0), .int v1]) ++ List.replicate (2 - (lg_sl ([.ref (P k0), .int v1])).length) Slot.unset).toArray = ls at hl ⊢
  have hl : lv_has ls 2 [(0, .ref (P k0)), (1, .int v1)] := hl
  exact e_X1_restAfter C _ _ _ _ _ _ h hk0 hP hS hl
set_option maxRecDepth 100000 in
set_option maxHeartbeats 4000000 in
theorem b_X1_become_119 {p : Program} {l : Launch} {e : Env} {s : State} {m : MethodId} {args : Array Value} {below : List Frame} {meth : Method} {c : Code} {dC : Nat → ClassId} {dI : Nat → Nat → Nat} {cA : Nat → ClassId} {adK adV P : Nat → Nat} (C : CtxX dC dI cA adK adV P p s m args meth c cX1_become 5 none RX1) {post : St → Prop}  : ∀ (n : Nat) (k0 : Nat) (v4 : Int32) (S : St) (H : Heap) (locs : List Loc) (ls : Array Slot), w_X1_become_119 post n k0 v4 S → kdX k0 = 1 → VX dC dI cA P S H → va_S (PA 56 P) s.heap H locs → lv_has ls 5 [(0, .ref (P k0)), (4, .int v4)] → W p l e ({ frames := 1, cells := 0, slots := 0, locals := 30 } : Room) s m args below meth c H locs 0 0 (MQ below (va_Qv post (fun u t => VX dC dI cA P u t.heap) (PA 56 P)) args s 0 0 (PA 56 P)) (F0 m 119 ls []) := by
  have C := C
  obtain ⟨hI, hKX, ⟨hx, hb, hml, hown, hts⟩, hr, hlocks⟩ := id C
  have hK := hKX.1
  intro n
  induction n with
  | zero =>
    intro k0 v4 S H locs ls h hk0 hP hS hl
    simp only [w_X1_become_119] at h
  | succ n ih =>
    intro k0 v4 S H locs ls h hk0 hP hS hl
    rw [w_X1_become_119] at h
    refine lv_aload_n hx hb dX1_become_119 rfl (lv_at hl 0 rfl) ?_
    refine g_get (v := .int (S.1 k0 4)) hx hb hts inG_X1 hown hK hP (kX_lt hk0) (eX1 hk0) rfl 4 (by decide) G_fl_X1_24 rfl rfl dX1_become_120 ?_
    refine lv_aload_n hx hb dX1_become_123 rfl (lv_at hl 0 rfl) ?_
    refine g_get (v := .int (S.1 k0 1)) hx hb hts inG_X1 hown hK hP (kX_lt hk0) (eX1 hk0) rfl 1 (by decide) G_fl_X1_15 rfl rfl dX1_become_124 ?_
    refine lv_icmp_ge (tgt := 160) hx hb dX1_become_127 (by decide) (fun c23 => ?_) (fun c23 => ?_)
    · replace h := h.1 c23
      exact g_vret hx hb hr hlocks h hP hS dX1_become_160
    · replace h := h.2 c23
      refine lv_iload hx hb dX1_become_130 (lv_at hl 1 rfl) ?_
      refine lv_aload_n hx hb dX1_become_132 rfl (lv_at hl 0 rfl) ?_
      refine g_get (v := .int (S.1 k0 5)) hx hb hts inG_X1 hown hK hP (kX_lt hk0) (eX1 hk0) rfl 5 (by decide) G_fl_X1_27 rfl rfl dX1_become_133 ?_
      refine lv_icmp_eq (tgt := 160) hx hb dX1_become_136 (by decide) (fun c24 => ?_) (fun c24 => ?_)
      · replace h := h.1 c24
        exact g_vret hx hb hr hlocks h hP hS dX1_become_160
      · replace h := h.2 c24
        refine lv_aload_n hx hb dX1_become_139 rfl (lv_at hl 0 rfl) ?_
        refine lv_iload hx hb dX1_become_140 (lv_at hl 1 rfl) ?_
        refine va_calli (va_runV (As := [.int _]) (rest := []) ⟨hx, hb, hml, hown, hts⟩ (c_X1_restAfter l hI hk0 h) (cwV 1 hts gv_X1_49 rfl rfl rfl hv_X1_restAfter ⟨Nat.le_of_ble_eq_true rfl, Nat.le_of_ble_eq_true rfl⟩) (preV_X hKX hP hS (kX_lt hk0) (eX1 hk0) rfl) rfl rfl hl.1 rfl (lv_room (Nat.le_of_ble_eq_true rfl)) dX1_become_142 ⟨Nat.le_of_ble_eq_true rfl, Nat.le_of_ble_eq_true rfl⟩) hS (fun _ _ h => h) (fun _ h => h) (fun r26 S25 t H locs ht _ h hB _ _ hS => ?_)
        have hP : VX dC dI cA P S25 H := by rw [← ht]; exact hB
        refine lv_istore (lv' := [(4, .int r26), (0, .ref (P k0))]) hx hb dX1_become_145 hl (by decide) rfl (fun ls hl => ?_)
        refine lv_aload_n hx hb dX1_become_147 rfl (lv_at hl 1 rfl) ?_
        refine lv_dup hx hb dX1_become_148 rfl ?_
        refine g_get (v := .int (S25.1 k0 4)) hx hb hts inG_X1 hown hK hP (kX_lt hk0) (eX1 hk0) rfl 4 (by decide) G_fl_X1_24 rfl rfl dX1_become_149 ?_
        refine lv_iconst (v := 1) hx hb dX1_become_152 (by decide) ?_
        refine lv_iadd hx hb dX1_become_153 ?_
        replace h := h _ rfl
        refine g_putI hx hb hts inG_X1 tyX1 tyX1_ok nmX1 hown hK hI hP hS (kX_lt hk0) (eX1 hk0) rfl 4 (by decide) G_fl_X1_24 rfl rfl (ty := .int) (by decide +kernel) rfl rfl (Nat.le_of_ble_eq_true rfl) rfl h dX1_become_154 (fun S28 H locs h hP hS => ?_)
        refine lv_goto (tgt := 119) hx hb dX1_become_157 (by decide) ?_
        exact ih _ _ _ _ _ _ h hk0 hP hS (lv_sub hl [1, 0] rfl)
set_option maxRecDepth 100000 in
set_option maxHeartbeats 4000000 in
theorem b_X1_become_104 {p : Program} {l : Launch} {e : Env} {s : State} {m : MethodId} {args : Array Value} {below : List Frame} {meth : Method} {c : Code} {dC : Nat → ClassId} {dI : Nat → Nat → Nat} {cA : Nat → ClassId} {adK adV P : Nat → Nat} (C : CtxX dC dI cA adK adV P p s m args meth c cX1_become 5 none RX1) {post : St → Prop}  : ∀ (k0 : Nat) (S : St) (H : Heap) (locs : List Loc) (ls : Array Slot), w_X1_become_104 post k0 S → kdX k0 = 1 → VX dC dI cA P S H → va_S (PA 56 P) s.heap H locs → lv_has ls 5 [(0, .ref (P k0))] → W p l e ({ frames := 1, cells := 0, slots := 0, locals := 30 } : Room) s m args below meth c H locs 0 0 (MQ below (va_Qv post (fun u t => VX dC dI cA P u t.heap) (PA 56 P)) args s 0 0 (PA 56 P)) (F0 m 104 ls []) := by
  have C := C
  obtain ⟨hI, hKX, ⟨hx, hb, hml, hown, hts⟩, hr, hlocks⟩ := id C
  have hK := hKX.1
  intro k0 S H locs ls h hk0 hP hS hl
  rw [w_X1_become_104] at h
  refine lv_aload_n hx hb dX1_become_104 rfl (lv_at hl 0 rfl) ?_
  refine lv_iconst (v := 1) hx hb dX1_become_105 (by decide) ?_
  refine g_putI hx hb hts inG_X1 tyX1 tyX1_ok nmX1 hown hK hI hP hS (kX_lt hk0) (eX1 hk0) rfl 4 (by decide) G_fl_X1_24 rfl rfl (ty := .int) (by decide +kernel) rfl rfl (Nat.le_of_ble_eq_true rfl) rfl h dX1_become_106 (fun S19 H locs h hP hS => ?_)
  refine lv_aload_n hx hb dX1_become_109 rfl (lv_at hl 0 rfl) ?_
  refine lv_aload_n hx hb dX1_become_110 rfl (lv_at hl 0 rfl) ?_
  refine g_get (v := .int (S19.1 k0 5)) hx hb hts inG_X1 hown hK hP (kX_lt hk0) (eX1 hk0) rfl 5 (by decide) G_fl_X1_27 rfl rfl dX1_become_111 ?_
  replace h := h _ rfl
  refine va_calli (va_runV (As := [.int _]) (rest := []) ⟨hx, hb, hml, hown, hts⟩ (c_X1_restAfter l hI hk0 h) (cwV 1 hts gv_X1_49 rfl rfl rfl hv_X1_restAfter ⟨Nat.le_of_ble_eq_true rfl, Nat.le_of_ble_eq_true rfl⟩) (preV_X hKX hP hS (kX_lt hk0) (eX1 hk0) rfl) rfl rfl hl.1 rfl (lv_room (Nat.le_of_ble_eq_true rfl)) dX1_become_114 ⟨Nat.le_of_ble_eq_true rfl, Nat.le_of_ble_eq_true rfl⟩) hS (fun _ _ h => h) (fun _ h => h) (fun r22 S21 t H locs ht _ h hB _ _ hS => ?_)
  have hP : VX dC dI cA P S21 H := by rw [← ht]; exact hB
  refine lv_istore (lv' := [(4, .int r22), (0, .ref (P k0))]) hx hb dX1_become_117 hl (by decide) rfl (fun ls hl => ?_)
  obtain ⟨n29, h⟩ := h
  exact b_X1_become_119 C n29 _ _ _ _ _ _ h hk0 hP hS (lv_sub hl [1, 0] rfl)
set_option maxRecDepth 100000 in
set_option maxHeartbeats 4000000 in
theorem b_X1_become_57 {p : Program} {l : Launch} {e : Env} {s : State} {m : MethodId} {args : Array Value} {below : List Frame} {meth : Method} {c : Code} {dC : Nat → ClassId} {dI : Nat → Nat → Nat} {cA : Nat → ClassId} {adK adV P : Nat → Nat} (C : CtxX dC dI cA adK adV P p s m args meth c cX1_become 5 none RX1) {post : St → Prop}  : ∀ (n : Nat) (k0 : Nat) (S : St) (H : Heap) (locs : List Loc) (ls : Array Slot), w_X1_become_57 post n k0 S → kdX k0 = 1 → VX dC dI cA P S H → va_S (PA 56 P) s.heap H locs → lv_has ls 5 [(0, .ref (P k0))] → W p l e ({ frames := 1, cells := 0, slots := 0, locals := 30 } : Room) s m args below meth c H locs 0 0 (MQ below (va_Qv post (fun u t => VX dC dI cA P u t.heap) (PA 56 P)) args s 0 0 (PA 56 P)) (F0 m 57 ls []) := by
  have C := C
  obtain ⟨hI, hKX, ⟨hx, hb, hml, hown, hts⟩, hr, hlocks⟩ := id C
  have hK := hKX.1
  intro n
  induction n with
  | zero =>
    intro k0 S H locs ls h hk0 hP hS hl
    simp only [w_X1_become_57] at h
  | succ n ih =>
    intro k0 S H locs ls h hk0 hP hS hl
    rw [w_X1_become_57] at h
    refine lv_aload_n hx hb dX1_become_57 rfl (lv_at hl 0 rfl) ?_
    refine g_get (v := .int (S.1 k0 3)) hx hb hts inG_X1 hown hK hP (kX_lt hk0) (eX1 hk0) rfl 3 (by decide) G_fl_X1_21 rfl rfl dX1_become_58 ?_
    refine lv_aload_n hx hb dX1_become_61 rfl (lv_at hl 0 rfl) ?_
    refine g_get (v := .int (S.1 k0 1)) hx hb hts inG_X1 hown hK hP (kX_lt hk0) (eX1 hk0) rfl 1 (by decide) G_fl_X1_15 rfl rfl dX1_become_62 ?_
    refine lv_icmp_ge (tgt := 104) hx hb dX1_become_65 (by decide) (fun c18 => ?_) (fun c18 => ?_)
    · replace h := h.1 c18
      exact b_X1_become_104 C _ _ _ _ _ h hk0 hP hS (lv_sub hl [0] rfl)
    · replace h := h.2 c18
      refine lv_aload_n hx hb dX1_become_68 rfl (lv_at hl 0 rfl) ?_
      refine lv_aload_n hx hb dX1_become_69 rfl (lv_at hl 0 rfl) ?_
      refine g_get (v := .int (S.1 k0 5)) hx hb hts inG_X1 hown hK hP (kX_lt hk0) (eX1 hk0) rfl 5 (by decide) G_fl_X1_27 rfl rfl dX1_become_70 ?_
      replace h := h _ rfl
      refine va_calli (va_runV (As := [.int _]) (rest := []) ⟨hx, hb, hml, hown, hts⟩ (c_X1_turns l hI hk0 h) (cwV 1 hts gv_X1_45 rfl rfl rfl hv_X1_turns ⟨Nat.le_of_ble_eq_true rfl, Nat.le_of_ble_eq_true rfl⟩) (preV_X hKX hP hS (kX_lt hk0) (eX1 hk0) rfl) rfl rfl hl.1 rfl (lv_room (Nat.le_of_ble_eq_true rfl)) dX1_become_73 ⟨Nat.le_of_ble_eq_true rfl, Nat.le_of_ble_eq_true rfl⟩) hS (fun _ _ h => h) (fun _ h => h) (fun r32 S31 t H locs ht _ h hB _ _ hS => ?_)
      have hP : VX dC dI cA P S31 H := by rw [← ht]; exact hB
      refine lv_if_ne (tgt := 104) hx hb dX1_become_76 (by decide) (fun c33 => ?_) (fun c33 => ?_)
      · replace h := h.2 c33
        exact b_X1_become_104 C _ _ _ _ _ h hk0 hP hS (lv_sub hl [0] rfl)
      · replace h := h.1 c33
        refine lv_aload_n hx hb dX1_become_79 rfl (lv_at hl 0 rfl) ?_
        refine lv_aload_n hx hb dX1_become_80 rfl (lv_at hl 0 rfl) ?_
        refine lv_aload_n hx hb dX1_become_81 rfl (lv_at hl 0 rfl) ?_
        refine g_get (v := .int (S31.1 k0 5)) hx hb hts inG_X1 hown hK hP (kX_lt hk0) (eX1 hk0) rfl 5 (by decide) G_fl_X1_27 rfl rfl dX1_become_82 ?_
        replace h := h _ rfl
        refine va_calli (va_runV (As := [.int _]) (rest := [.ref _]) ⟨hx, hb, hml, hown, hts⟩ (c_X1_restAfter l hI hk0 h) (cwV 1 hts gv_X1_49 rfl rfl rfl hv_X1_restAfter ⟨Nat.le_of_ble_eq_true rfl, Nat.le_of_ble_eq_true rfl⟩) (preV_X hKX hP hS (kX_lt hk0) (eX1 hk0) rfl) rfl rfl hl.1 rfl (lv_room (Nat.le_of_ble_eq_true rfl)) dX1_become_85 ⟨Nat.le_of_ble_eq_true rfl, Nat.le_of_ble_eq_true rfl⟩) hS (fun _ _ h => h) (fun _ h => h) (fun r36 S35 t H locs ht _ h hB _ _ hS => ?_)
        have hP : VX dC dI cA P S35 H := by rw [← ht]; exact hB
        refine g_putI hx hb hts inG_X1 tyX1 tyX1_ok nmX1 hown hK hI hP hS (kX_lt hk0) (eX1 hk0) rfl 5 (by decide) G_fl_X1_27 rfl rfl (ty := .int) (by decide +kernel) rfl rfl (Nat.le_of_ble_eq_true rfl) rfl h dX1_become_88 (fun S37 H locs h hP hS => ?_)
        refine lv_aload_n hx hb dX1_become_91 rfl (lv_at hl 0 rfl) ?_
        refine lv_dup hx hb dX1_become_92 rfl ?_
        refine g_get (v := .int (S37.1 k0 3)) hx hb hts inG_X1 hown hK hP (kX_lt hk0) (eX1 hk0) rfl 3 (by decide) G_fl_X1_21 rfl rfl dX1_become_93 ?_
        refine lv_iconst (v := 1) hx hb dX1_become_96 (by decide) ?_
        refine lv_iadd hx hb dX1_become_97 ?_
        replace h := h _ rfl
        refine g_putI hx hb hts inG_X1 tyX1 tyX1_ok nmX1 hown hK hI hP hS (kX_lt hk0) (eX1 hk0) rfl 3 (by decide) G_fl_X1_21 rfl rfl (ty := .int) (by decide +kernel) rfl rfl (Nat.le_of_ble_eq_true rfl) rfl h dX1_become_98 (fun S39 H locs h hP hS => ?_)
        refine lv_goto (tgt := 57) hx hb dX1_become_101 (by decide) ?_
        exact ih _ _ _ _ _ h hk0 hP hS (lv_sub hl [0] rfl)
set_option maxRecDepth 100000 in
set_option maxHeartbeats 4000000 in
theorem e_X1_become {p : Program} {l : Launch} {e : Env} {s : State} {m : MethodId} {args : Array Value} {below : List Frame} {meth : Method} {c : Code} {dC : Nat → ClassId} {dI : Nat → Nat → Nat} {cA : Nat → ClassId} {adK adV P : Nat → Nat} (C : CtxX dC dI cA adK adV P p s m args meth c cX1_become 5 none RX1) {post : St → Prop} : ∀ (k0 : Nat) (v1 : Int32) (v2 : Int32) (v3 : Int32) (S : St) (H : Heap) (locs : List Loc) (ls : Array Slot), w_X1_become k0 v1 v2 v3 post S → kdX k0 = 1 → VX dC dI cA P S H → va_S (PA 56 P) s.heap H locs → lv_has ls 5 [(0, .ref (P k0)), (1, .int v1), (2, .int v2), (3, .int v3)] → W p l e ({ frames := 1, cells := 0, slots := 0, locals := 30 } : Room) s m args below meth c H locs 0 0 (MQ below (va_Qv post (fun u t => VX dC dI cA P u t.heap) (PA 56 P)) args s 0 0 (PA 56 P)) (F0 m 0 ls []) := by
  have C := C
  obtain ⟨hI, hKX, ⟨hx, hb, hml, hown, hts⟩, hr, hlocks⟩ := id C
  have hK := hKX.1
  intro k0 v1 v2 v3 S H locs ls h hk0 hP hS hl
  rw [w_X1_become] at h
  refine lv_aload_n hx hb dX1_become_0 rfl (lv_at hl 0 rfl) ?_
  refine lv_iload_n hx hb dX1_become_1 rfl (lv_at hl 1 rfl) ?_
  refine g_putI hx hb hts inG_X1 tyX1 tyX1_ok nmX1 hown hK hI hP hS (kX_lt hk0) (eX1 hk0) rfl 0 (by decide) G_fl_X1_9 rfl rfl (ty := .int) (by decide +kernel) rfl rfl (Nat.le_of_ble_eq_true rfl) rfl h dX1_become_2 (fun S1 H locs h hP hS => ?_)
  refine lv_aload_n hx hb dX1_become_5 rfl (lv_at hl 0 rfl) ?_
  refine lv_iload_n hx hb dX1_become_6 rfl (lv_at hl 2 rfl) ?_
  refine g_putI hx hb hts inG_X1 tyX1 tyX1_ok nmX1 hown hK hI hP hS (kX_lt hk0) (eX1 hk0) rfl 1 (by decide) G_fl_X1_15 rfl rfl (ty := .int) (by decide +kernel) rfl rfl (Nat.le_of_ble_eq_true rfl) rfl h dX1_become_7 (fun S2 H locs h hP hS => ?_)
  refine lv_aload_n hx hb dX1_become_10 rfl (lv_at hl 0 rfl) ?_
  refine lv_iload_n hx hb dX1_become_11 rfl (lv_at hl 3 rfl) ?_
  refine g_putI hx hb hts inG_X1 tyX1 tyX1_ok nmX1 hown hK hI hP hS (kX_lt hk0) (eX1 hk0) rfl 2 (by decide) G_fl_X1_18 rfl rfl (ty := .int) (by decide +kernel) rfl rfl (Nat.le_of_ble_eq_true rfl) rfl h dX1_become_12 (fun S3 H locs h hP hS => ?_)
  refine lv_aload_n hx hb dX1_become_15 rfl (lv_at hl 0 rfl) ?_
  refine lv_aload_n hx hb dX1_become_16 rfl (lv_at hl 0 rfl) ?_
  refine g_get (v := .int (S3.1 k0 1)) hx hb hts inG_X1 hown hK hP (kX_lt hk0) (eX1 hk0) rfl 1 (by decide) G_fl_X1_15 rfl rfl dX1_become_17 ?_
  refine lv_i2l hx hb dX1_become_20 rfl ?_
  refine lv_aload_n hx hb dX1_become_21 rfl (lv_at hl 0 rfl) ?_
  refine g_get (v := .int (S3.1 k0 2)) hx hb hts inG_X1 hown hK hP (kX_lt hk0) (eX1 hk0) rfl 2 (by decide) G_fl_X1_18 rfl rfl dX1_become_22 ?_
  refine lv_bipush (v := 9) hx hb dX1_become_25 (by decide) ?_
  replace h := h _ rfl
  refine va_calll (va_runSN (As := [.int _, .int _]) (rest := [.long _, .ref _]) ⟨hx, hb, hml, hown, hts⟩ (c_X8_power l hI h) ⟨va_cnB 2 hts (good_W G_cd_X8_power) rfl rfl rfl (kx_n0 hKX) (hts _ G_in_X8) hd_X8_power ⟨Nat.le_of_ble_eq_true rfl, Nat.le_of_ble_eq_true rfl⟩, hts _ G_st_X8_power, trivial⟩ (preS_X hKX hP hS) rfl rfl hl.1 rfl (lv_room (Nat.le_of_ble_eq_true rfl)) dX1_become_27 ⟨Nat.le_of_ble_eq_true rfl, Nat.le_of_ble_eq_true rfl⟩) hS (fun _ _ h => h) (fun _ h => h) (fun r6 S5 t H locs ht _ h hB _ _ hS => ?_)
  have hP : VX dC dI cA P S5 H := by rw [← ht]; exact hB
  replace h := h _ rfl
  refine va_calll (va_runSN (As := [.long _, .long _]) (rest := [.ref _]) ⟨hx, hb, hml, hown, hts⟩ (c_X8_commonDivisor l hI h) ⟨va_cnB 2 hts (good_W G_cd_X8_commonDivisor) rfl rfl rfl (kx_n1 hKX) (hts _ G_in_X8) hd_X8_commonDivisor ⟨Nat.le_of_ble_eq_true rfl, Nat.le_of_ble_eq_true rfl⟩, hts _ G_st_X8_commonDivisor, trivial⟩ (preS_X hKX hP hS) rfl rfl hl.1 rfl (lv_room (Nat.le_of_ble_eq_true rfl)) dX1_become_30 ⟨Nat.le_of_ble_eq_true rfl, Nat.le_of_ble_eq_true rfl⟩) hS (fun _ _ h => h) (fun _ h => h) (fun r9 S8 t H locs ht _ h hB _ _ hS => ?_)
  have hP : VX dC dI cA P S8 H := by rw [← ht]; exact hB
  refine lv_l2i hx hb dX1_become_33 rfl ?_
  replace h := h _ rfl
  refine g_putI hx hb hts inG_X1 tyX1 tyX1_ok nmX1 hown hK hI hP hS (kX_lt hk0) (eX1 hk0) rfl 6 (by decide) G_fl_X1_30 rfl rfl (ty := .int) (by decide +kernel) rfl rfl (Nat.le_of_ble_eq_true rfl) rfl h dX1_become_34 (fun S11 H locs h hP hS => ?_)
  refine lv_aload_n hx hb dX1_become_37 rfl (lv_at hl 0 rfl) ?_
  refine lv_iconst (v := 0) hx hb dX1_become_38 (by decide) ?_
  refine g_putI hx hb hts inG_X1 tyX1 tyX1_ok nmX1 hown hK hI hP hS (kX_lt hk0) (eX1 hk0) rfl 3 (by decide) G_fl_X1_21 rfl rfl (ty := .int) (by decide +kernel) rfl rfl (Nat.le_of_ble_eq_true rfl) rfl h dX1_become_39 (fun S12 H locs h hP hS => ?_)
  refine lv_aload_n hx hb dX1_become_42 rfl (lv_at hl 0 rfl) ?_
  refine lv_aload_n hx hb dX1_become_43 rfl (lv_at hl 0 rfl) ?_
  refine g_get (v := .int (S12.1 k0 0)) hx hb hts inG_X1 hown hK hP (kX_lt hk0) (eX1 hk0) rfl 0 (by decide) G_fl_X1_9 rfl rfl dX1_become_44 ?_
  refine lv_aload_n hx hb dX1_become_47 rfl (lv_at hl 0 rfl) ?_
  refine g_get (v := .int (S12.1 k0 1)) hx hb hts inG_X1 hown hK hP (kX_lt hk0) (eX1 hk0) rfl 1 (by decide) G_fl_X1_15 rfl rfl dX1_become_48 ?_
  replace h := h _ rfl
  replace h := h _ rfl
  refine va_calli (va_runSN (As := [.int _, .int _]) (rest := [.ref _]) ⟨hx, hb, hml, hown, hts⟩ (c_X8_remainder l hI h) ⟨va_cnB 2 hts (good_W G_cd_X8_remainder) rfl rfl rfl (kx_n2 hKX) (hts _ G_in_X8) hd_X8_remainder ⟨Nat.le_of_ble_eq_true rfl, Nat.le_of_ble_eq_true rfl⟩, hts _ G_st_X8_remainder, trivial⟩ (preS_X hKX hP hS) rfl rfl hl.1 rfl (lv_room (Nat.le_of_ble_eq_true rfl)) dX1_become_51 ⟨Nat.le_of_ble_eq_true rfl, Nat.le_of_ble_eq_true rfl⟩) hS (fun _ _ h => h) (fun _ h => h) (fun r16 S15 t H locs ht _ h hB _ _ hS => ?_)
  have hP : VX dC dI cA P S15 H := by rw [← ht]; exact hB
  refine g_putI hx hb hts inG_X1 tyX1 tyX1_ok nmX1 hown hK hI hP hS (kX_lt hk0) (eX1 hk0) rfl 5 (by decide) G_fl_X1_27 rfl rfl (ty := .int) (by decide +kernel) rfl rfl (Nat.le_of_ble_eq_true rfl) rfl h dX1_become_54 (fun S17 H locs h hP hS => ?_)
  obtain ⟨n40, h⟩ := h
  exact b_X1_become_57 C n40 _ _ _ _ _ h hk0 hP hS (lv_sub hl [0] rfl)
set_option maxRecDepth 100000 in
set_option maxHeartbeats 4000000 in
theorem c_X1_become (l : Launch) {dC : Nat → ClassId} {dI : Nat → Nat → Nat} {cA : Nat → ClassId} {adK adV P : Nat → Nat} (hI : PInj 56 P) {k0 : Nat} {v1 : Int32} {v2 : Int32} {v3 : Int32} (hk0 : kdX k0 = 1) {post : St → Prop} {S : St} (h : w_X1_become k0 v1 v2 v3 post S) : Met l yX1_become (wW yX1_become cX1_become 5 none) ({ frames := 1, cells := 0, slots := 0, locals := 30 } : Room) (va_Pc [.ref (P k0), .int v1, .int v2, .int v3] (PreX dC dI cA adK adV P S)) (va_Qv post (fun u t => VX dC dI cA P u t.heap) (PA 56 P)) 0 0 (PA 56 P) := by
  refine Met.ofW (cc := cX1_become) (maxL := 5) (ret := none) (by decide) rfl ?_
  intro p e s m args below meth c s₁ B hml hv
  obtain ⟨rfl, hP, hKX⟩ := hv
  have hts : ∀ w ∈ G, w.before [.ref (P k0), .int v1, .int v2, .int v3].toArray s = true := fun w hw => atoms_spec (ws := wW yX1_become cX1_become 5 none) B.pre w (List.mem_cons_of_mem _ hw)
  have C : CtxX dC dI cA adK adV P p s m [.ref (P k0), .int v1, .int v2, .int v3].toArray meth c cX1_become 5 none RX1 := ⟨hI, hKX, ⟨B.exec, B.bytes, hml, findClass_of_methodNamed B.named, hts⟩, B.returns, B.notSynchronized⟩
  have hS : va_S (PA 56 P) s.heap s.heap [] := va_S.rf
  have hl := lv_entry ([.ref (P k0), .int v1, .int v2, .int v3]) (n := 5) (Nat.le_of_ble_eq_true rfl)
  rw [lg_entry_eq]
  generalize (lg_sl ([.ref (P k0), .int v1, .int v2, .int v3]) ++ List.replicate (5 - (lg_sl ([.ref (P k0), .int v1, .int v2, .int v3])).length) Slot.unset).toArray = ls at hl ⊢
  have hl : lv_has ls 5 [(0, .ref (P k0)), (1, .int v1), (2, .int v2), (3, .int v3)] := hl
  exact e_X1_become C _ _ _ _ _ _ _ _ h hk0 hP hS hl
set_option maxRecDepth 100000 in
set_option maxHeartbeats 4000000 in
theorem e_X1_ends {p : Program} {l : Launch} {e : Env} {s : State} {m : MethodId} {args : Array Value} {below : List Frame} {meth : Method} {c : Code} {dC : Nat → ClassId} {dI : Nat → Nat → Nat} {cA : Nat → ClassId} {adK adV P : Nat → Nat} (C : CtxX dC dI cA adK adV P p s m args meth c cX1_ends 1 (some .boolean) RX1) {post : Int32 → St → Prop} : ∀ (k0 : Nat) (S : St) (H : Heap) (locs : List Loc) (ls : Array Slot), w_X1_ends k0 post S → kdX k0 = 1 → VX dC dI cA P S H → va_S (PA 56 P) s.heap H locs → lv_has ls 1 [(0, .ref (P k0))] → W p l e ({ frames := 0, cells := 0, slots := 0, locals := 0 } : Room) s m args below meth c H locs 0 0 (MQ below (va_Qi post (fun u t => VX dC dI cA P u t.heap) (PA 56 P)) args s 0 0 (PA 56 P)) (F0 m 0 ls []) := by
  have C := C
  obtain ⟨hI, hKX, ⟨hx, hb, hml, hown, hts⟩, hr, hlocks⟩ := id C
  have hK := hKX.1
  intro k0 S H locs ls h hk0 hP hS hl
  rw [w_X1_ends] at h
  refine lv_aload_n hx hb dX1_ends_0 rfl (lv_at hl 0 rfl) ?_
  refine g_get (v := .int (S.1 k0 5)) hx hb hts inG_X1 hown hK hP (kX_lt hk0) (eX1 hk0) rfl 5 (by decide) G_fl_X1_27 rfl rfl dX1_ends_1 ?_
  refine lv_if_ne (tgt := 11) hx hb dX1_ends_4 (by decide) (fun c1 => ?_) (fun c1 => ?_)
  · replace h := h.2 c1
    refine lv_iconst (v := 0) hx hb dX1_ends_11 (by decide) ?_
    exact g_zret hx hb hr hlocks bz_0 h hP hS dX1_ends_12
  · replace h := h.1 c1
    refine lv_iconst (v := 1) hx hb dX1_ends_7 (by decide) ?_
    refine lv_goto (tgt := 12) hx hb dX1_ends_8 (by decide) ?_
    exact g_zret hx hb hr hlocks bz_1 h hP hS dX1_ends_12
set_option maxRecDepth 100000 in
set_option maxHeartbeats 4000000 in
theorem c_X1_ends (l : Launch) {dC : Nat → ClassId} {dI : Nat → Nat → Nat} {cA : Nat → ClassId} {adK adV P : Nat → Nat} (hI : PInj 56 P) {k0 : Nat} (hk0 : kdX k0 = 1) {post : Int32 → St → Prop} {S : St} (h : w_X1_ends k0 post S) : Met l yX1_ends (wW yX1_ends cX1_ends 1 (some .boolean)) ({ frames := 0, cells := 0, slots := 0, locals := 0 } : Room) (va_Pc [.ref (P k0)] (PreX dC dI cA adK adV P S)) (va_Qi post (fun u t => VX dC dI cA P u t.heap) (PA 56 P)) 0 0 (PA 56 P) := by
  refine Met.ofW (cc := cX1_ends) (maxL := 1) (ret := (some .boolean)) (by decide) rfl ?_
  intro p e s m args below meth c s₁ B hml hv
  obtain ⟨rfl, hP, hKX⟩ := hv
  have hts : ∀ w ∈ G, w.before [.ref (P k0)].toArray s = true := fun w hw => atoms_spec (ws := wW yX1_ends cX1_ends 1 (some .boolean)) B.pre w (List.mem_cons_of_mem _ hw)
  have C : CtxX dC dI cA adK adV P p s m [.ref (P k0)].toArray meth c cX1_ends 1 (some .boolean) RX1 := ⟨hI, hKX, ⟨B.exec, B.bytes, hml, findClass_of_methodNamed B.named, hts⟩, B.returns, B.notSynchronized⟩
  have hS : va_S (PA 56 P) s.heap s.heap [] := va_S.rf
  have hl := lv_entry ([.ref (P k0)]) (n := 1) (Nat.le_of_ble_eq_true rfl)
  rw [lg_entry_eq]
  generalize (lg_sl ([.ref (P k0)]) ++ List.replicate (1 - (lg_sl ([.ref (P k0)])).length) Slot.unset).toArray = ls at hl ⊢
  have hl : lv_has ls 1 [(0, .ref (P k0))] := hl
  exact e_X1_ends C _ _ _ _ _ h hk0 hP hS hl
set_option maxRecDepth 100000 in
set_option maxHeartbeats 4000000 in
theorem e_X1_kind {p : Program} {l : Launch} {e : Env} {s : State} {m : MethodId} {args : Array Value} {below : List Frame} {meth : Method} {c : Code} {dC : Nat → ClassId} {dI : Nat → Nat → Nat} {cA : Nat → ClassId} {adK adV P : Nat → Nat} (C : CtxX dC dI cA adK adV P p s m args meth c cX1_kind 1 (some .int) RX1) {post : Int32 → St → Prop} : ∀ (k0 : Nat) (S : St) (H : Heap) (locs : List Loc) (ls : Array Slot), w_X1_kind k0 post S → kdX k0 = 1 → VX dC dI cA P S H → va_S (PA 56 P) s.heap H locs → lv_has ls 1 [(0, .ref (P k0))] → W p l e ({ frames := 1, cells := 0, slots := 0, locals := 20 } : Room) s m args below meth c H locs 0 0 (MQ below (va_Qi post (fun u t => VX dC dI cA P u t.heap) (PA 56 P)) args s 0 0 (PA 56 P)) (F0 m 0 ls []) := by
  have C := C
  obtain ⟨hI, hKX, ⟨hx, hb, hml, hown, hts⟩, hr, hlocks⟩ := id C
  have hK := hKX.1
  intro k0 S H locs ls h hk0 hP hS hl
  rw [w_X1_kind] at h
  refine lv_aload_n hx hb dX1_kind_0 rfl (lv_at hl 0 rfl) ?_
  refine va_calli (va_runV (As := []) (rest := []) ⟨hx, hb, hml, hown, hts⟩ (c_X1_ends l hI hk0 h) (cwV 0 hts gv_X1_56 rfl rfl rfl hv_X1_ends ⟨Nat.le_of_ble_eq_true rfl, Nat.le_of_ble_eq_true rfl⟩) (preV_X hKX hP hS (kX_lt hk0) (eX1 hk0) rfl) rfl rfl hl.1 rfl (lv_room (Nat.le_of_ble_eq_true rfl)) dX1_kind_1 ⟨Nat.le_of_ble_eq_true rfl, Nat.le_of_ble_eq_true rfl⟩) hS (fun _ _ h => h) (fun _ h => h) (fun r2 S1 t H locs ht _ h hB _ _ hS => ?_)
  have hP : VX dC dI cA P S1 H := by rw [← ht]; exact hB
  refine lv_if_eq (tgt := 9) hx hb dX1_kind_4 (by decide) (fun c3 => ?_) (fun c3 => ?_)
  · replace h := h.1 c3
    refine lv_aload_n hx hb dX1_kind_9 rfl (lv_at hl 0 rfl) ?_
    refine g_get (v := .int (S1.1 k0 3)) hx hb hts inG_X1 hown hK hP (kX_lt hk0) (eX1 hk0) rfl 3 (by decide) G_fl_X1_21 rfl rfl dX1_kind_10 ?_
    refine lv_if_ne (tgt := 20) hx hb dX1_kind_13 (by decide) (fun c4 => ?_) (fun c4 => ?_)
    · replace h := h.2 c4
      refine lv_iconst (v := 2) hx hb dX1_kind_20 (by decide) ?_
      exact g_iret hx hb hr hlocks h hP hS dX1_kind_21
    · replace h := h.1 c4
      refine lv_iconst (v := 1) hx hb dX1_kind_16 (by decide) ?_
      refine lv_goto (tgt := 21) hx hb dX1_kind_17 (by decide) ?_
      exact g_iret hx hb hr hlocks h hP hS dX1_kind_21
  · replace h := h.2 c3
    refine lv_iconst (v := 0) hx hb dX1_kind_7 (by decide) ?_
    exact g_iret hx hb hr hlocks h hP hS dX1_kind_8
set_option maxRecDepth 100000 in
set_option maxHeartbeats 4000000 in
theorem c_X1_kind (l : Launch) {dC : Nat → ClassId} {dI : Nat → Nat → Nat} {cA : Nat → ClassId} {adK adV P : Nat → Nat} (hI : PInj 56 P) {k0 : Nat} (hk0 : kdX k0 = 1) {post : Int32 → St → Prop} {S : St} (h : w_X1_kind k0 post S) : Met l yX1_kind (wW yX1_kind cX1_kind 1 (some .int)) ({ frames := 1, cells := 0, slots := 0, locals := 20 } : Room) (va_Pc [.ref (P k0)] (PreX dC dI cA adK adV P S)) (va_Qi post (fun u t => VX dC dI cA P u t.heap) (PA 56 P)) 0 0 (PA 56 P) := by
  refine Met.ofW (cc := cX1_kind) (maxL := 1) (ret := (some .int)) (by decide) rfl ?_
  intro p e s m args below meth c s₁ B hml hv
  obtain ⟨rfl, hP, hKX⟩ := hv
  have hts : ∀ w ∈ G, w.before [.ref (P k0)].toArray s = true := fun w hw => atoms_spec (ws := wW yX1_kind cX1_kind 1 (some .int)) B.pre w (List.mem_cons_of_mem _ hw)
  have C : CtxX dC dI cA adK adV P p s m [.ref (P k0)].toArray meth c cX1_kind 1 (some .int) RX1 := ⟨hI, hKX, ⟨B.exec, B.bytes, hml, findClass_of_methodNamed B.named, hts⟩, B.returns, B.notSynchronized⟩
  have hS : va_S (PA 56 P) s.heap s.heap [] := va_S.rf
  have hl := lv_entry ([.ref (P k0)]) (n := 1) (Nat.le_of_ble_eq_true rfl)
  rw [lg_entry_eq]
  generalize (lg_sl ([.ref (P k0)]) ++ List.replicate (1 - (lg_sl ([.ref (P k0)])).length) Slot.unset).toArray = ls at hl ⊢
  have hl : lv_has ls 1 [(0, .ref (P k0))] := hl
  exact e_X1_kind C _ _ _ _ _ h hk0 hP hS hl
set_option maxRecDepth 100000 in
set_option maxHeartbeats 4000000 in
theorem e_X1_isFullUnit {p : Program} {l : Launch} {e : Env} {s : State} {m : MethodId} {args : Array Value} {below : List Frame} {meth : Method} {c : Code} {dC : Nat → ClassId} {dI : Nat → Nat → Nat} {cA : Nat → ClassId} {adK adV P : Nat → Nat} (C : CtxX dC dI cA adK adV P p s m args meth c cX1_isFullUnit 1 (some .boolean) RX1) {post : Int32 → St → Prop} : ∀ (k0 : Nat) (S : St) (H : Heap) (locs : List Loc) (ls : Array Slot), w_X1_isFullUnit k0 post S → kdX k0 = 1 → VX dC dI cA P S H → va_S (PA 56 P) s.heap H locs → lv_has ls 1 [(0, .ref (P k0))] → W p l e ({ frames := 1, cells := 0, slots := 0, locals := 20 } : Room) s m args below meth c H locs 0 0 (MQ below (va_Qi post (fun u t => VX dC dI cA P u t.heap) (PA 56 P)) args s 0 0 (PA 56 P)) (F0 m 0 ls []) := by
  have C := C
  obtain ⟨hI, hKX, ⟨hx, hb, hml, hown, hts⟩, hr, hlocks⟩ := id C
  have hK := hKX.1
  intro k0 S H locs ls h hk0 hP hS hl
  rw [w_X1_isFullUnit] at h
  refine lv_aload_n hx hb dX1_isFullUnit_0 rfl (lv_at hl 0 rfl) ?_
  refine va_calli (va_runV (As := []) (rest := []) ⟨hx, hb, hml, hown, hts⟩ (c_X1_ends l hI hk0 h) (cwV 0 hts gv_X1_56 rfl rfl rfl hv_X1_ends ⟨Nat.le_of_ble_eq_true rfl, Nat.le_of_ble_eq_true rfl⟩) (preV_X hKX hP hS (kX_lt hk0) (eX1 hk0) rfl) rfl rfl hl.1 rfl (lv_room (Nat.le_of_ble_eq_true rfl)) dX1_isFullUnit_1 ⟨Nat.le_of_ble_eq_true rfl, Nat.le_of_ble_eq_true rfl⟩) hS (fun _ _ h => h) (fun _ h => h) (fun r2 S1 t H locs ht _ h hB _ _ hS => ?_)
  have hP : VX dC dI cA P S1 H := by rw [← ht]; exact hB
  refine lv_if_ne (tgt := 24) hx hb dX1_isFullUnit_4 (by decide) (fun c3 => ?_) (fun c3 => ?_)
  · replace h := h.2 c3
    refine lv_iconst (v := 0) hx hb dX1_isFullUnit_24 (by decide) ?_
    exact g_zret hx hb hr hlocks bz_0 h hP hS dX1_isFullUnit_25
  · replace h := h.1 c3
    refine lv_aload_n hx hb dX1_isFullUnit_7 rfl (lv_at hl 0 rfl) ?_
    refine g_get (v := .int (S1.1 k0 4)) hx hb hts inG_X1 hown hK hP (kX_lt hk0) (eX1 hk0) rfl 4 (by decide) G_fl_X1_24 rfl rfl dX1_isFullUnit_8 ?_
    refine lv_aload_n hx hb dX1_isFullUnit_11 rfl (lv_at hl 0 rfl) ?_
    refine g_get (v := .int (S1.1 k0 1)) hx hb hts inG_X1 hown hK hP (kX_lt hk0) (eX1 hk0) rfl 1 (by decide) G_fl_X1_15 rfl rfl dX1_isFullUnit_12 ?_
    refine lv_iconst (v := 1) hx hb dX1_isFullUnit_15 (by decide) ?_
    refine lv_isub hx hb dX1_isFullUnit_16 ?_
    refine lv_icmp_ne (tgt := 24) hx hb dX1_isFullUnit_17 (by decide) (fun c4 => ?_) (fun c4 => ?_)
    · replace h := h.2 c4
      refine lv_iconst (v := 0) hx hb dX1_isFullUnit_24 (by decide) ?_
      exact g_zret hx hb hr hlocks bz_0 h hP hS dX1_isFullUnit_25
    · replace h := h.1 c4
      refine lv_iconst (v := 1) hx hb dX1_isFullUnit_20 (by decide) ?_
      refine lv_goto (tgt := 25) hx hb dX1_isFullUnit_21 (by decide) ?_
      exact g_zret hx hb hr hlocks bz_1 h hP hS dX1_isFullUnit_25
set_option maxRecDepth 100000 in
set_option maxHeartbeats 4000000 in
theorem c_X1_isFullUnit (l : Launch) {dC : Nat → ClassId} {dI : Nat → Nat → Nat} {cA : Nat → ClassId} {adK adV P : Nat → Nat} (hI : PInj 56 P) {k0 : Nat} (hk0 : kdX k0 = 1) {post : Int32 → St → Prop} {S : St} (h : w_X1_isFullUnit k0 post S) : Met l yX1_isFullUnit (wW yX1_isFullUnit cX1_isFullUnit 1 (some .boolean)) ({ frames := 1, cells := 0, slots := 0, locals := 20 } : Room) (va_Pc [.ref (P k0)] (PreX dC dI cA adK adV P S)) (va_Qi post (fun u t => VX dC dI cA P u t.heap) (PA 56 P)) 0 0 (PA 56 P) := by
  refine Met.ofW (cc := cX1_isFullUnit) (maxL := 1) (ret := (some .boolean)) (by decide) rfl ?_
  intro p e s m args below meth c s₁ B hml hv
  obtain ⟨rfl, hP, hKX⟩ := hv
  have hts : ∀ w ∈ G, w.before [.ref (P k0)].toArray s = true := fun w hw => atoms_spec (ws := wW yX1_isFullUnit cX1_isFullUnit 1 (some .boolean)) B.pre w (List.mem_cons_of_mem _ hw)
  have C : CtxX dC dI cA adK adV P p s m [.ref (P k0)].toArray meth c cX1_isFullUnit 1 (some .boolean) RX1 := ⟨hI, hKX, ⟨B.exec, B.bytes, hml, findClass_of_methodNamed B.named, hts⟩, B.returns, B.notSynchronized⟩
  have hS : va_S (PA 56 P) s.heap s.heap [] := va_S.rf
  have hl := lv_entry ([.ref (P k0)]) (n := 1) (Nat.le_of_ble_eq_true rfl)
  rw [lg_entry_eq]
  generalize (lg_sl ([.ref (P k0)]) ++ List.replicate (1 - (lg_sl ([.ref (P k0)])).length) Slot.unset).toArray = ls at hl ⊢
  have hl : lv_has ls 1 [(0, .ref (P k0))] := hl
  exact e_X1_isFullUnit C _ _ _ _ _ h hk0 hP hS hl
set_option maxRecDepth 100000 in
set_option maxHeartbeats 4000000 in
theorem e_X8_quotient {p : Program} {l : Launch} {e : Env} {s : State} {m : MethodId} {args : Array Value} {below : List Frame} {meth : Method} {c : Code} {dC : Nat → ClassId} {dI : Nat → Nat → Nat} {cA : Nat → ClassId} {adK adV P : Nat → Nat} (C : CtxX dC dI cA adK adV P p s m args meth c cX8_quotient 4 (some .long) RX8) {post : Int64 → St → Prop} : ∀ (v0 : Int64) (v2 : Int64) (S : St) (H : Heap) (locs : List Loc) (ls : Array Slot), w_X8_quotient v0 v2 post S → VX dC dI cA P S H → va_S (PA 56 P) s.heap H locs → lv_has ls 4 [(0, .long v0), (2, .long v2)] → W p l e ({ frames := 0, cells := 0, slots := 0, locals := 0 } : Room) s m args below meth c H locs 0 0 (MQ below (va_Ql post (fun u t => VX dC dI cA P u t.heap) (PA 56 P)) args s 0 0 (PA 56 P)) (F0 m 0 ls []) := by
  have C := C
  obtain ⟨hI, hKX, ⟨hx, hb, hml, hown, hts⟩, hr, hlocks⟩ := id C
  have hK := hKX.1
  intro v0 v2 S H locs ls h hP hS hl
  rw [w_X8_quotient] at h
  refine lv_lload_n hx hb dX8_quotient_0 rfl (lv_at hl 1 rfl) ?_
  refine lv_lconst (v := 0) hx hb dX8_quotient_1 (by decide) ?_
  refine W.lcmp hx hb dX8_quotient_2 ?_
  refine lv_if_ne (tgt := 10) hx hb dX8_quotient_3 (by decide) (fun c1 => ?_) (fun c1 => ?_)
  · replace h := h.2 (fun z => c1 ((lg_cmp_eq _ _).mpr z))
    refine lv_lload_n hx hb dX8_quotient_10 rfl (lv_at hl 0 rfl) ?_
    refine lv_lload_n hx hb dX8_quotient_11 rfl (lv_at hl 1 rfl) ?_
    refine lv_ldiv hx hb dX8_quotient_12 h.1 ?_
    replace h := h.2
    exact g_lret hx hb hr hlocks h hP hS dX8_quotient_13
  · replace h := h.1 ((lg_cmp_eq _ _).mp c1)
    refine lv_lconst (v := 0) hx hb dX8_quotient_6 (by decide) ?_
    refine lv_goto (tgt := 13) hx hb dX8_quotient_7 (by decide) ?_
    exact g_lret hx hb hr hlocks h hP hS dX8_quotient_13
set_option maxRecDepth 100000 in
set_option maxHeartbeats 4000000 in
theorem c_X8_quotient (l : Launch) {dC : Nat → ClassId} {dI : Nat → Nat → Nat} {cA : Nat → ClassId} {adK adV P : Nat → Nat} (hI : PInj 56 P) {v0 : Int64} {v2 : Int64}  {post : Int64 → St → Prop} {S : St} (h : w_X8_quotient v0 v2 post S) : Met l yX8_quotient (wW yX8_quotient cX8_quotient 4 (some .long)) ({ frames := 0, cells := 0, slots := 0, locals := 0 } : Room) (va_Pc [.long v0, .long v2] (PreX dC dI cA adK adV P S)) (va_Ql post (fun u t => VX dC dI cA P u t.heap) (PA 56 P)) 0 0 (PA 56 P) := by
  refine Met.ofW (cc := cX8_quotient) (maxL := 4) (ret := (some .long)) (by decide) rfl ?_
  intro p e s m args below meth c s₁ B hml hv
  obtain ⟨rfl, hP, hKX⟩ := hv
  have hts : ∀ w ∈ G, w.before [.long v0, .long v2].toArray s = true := fun w hw => atoms_spec (ws := wW yX8_quotient cX8_quotient 4 (some .long)) B.pre w (List.mem_cons_of_mem _ hw)
  have C : CtxX dC dI cA adK adV P p s m [.long v0, .long v2].toArray meth c cX8_quotient 4 (some .long) RX8 := ⟨hI, hKX, ⟨B.exec, B.bytes, hml, findClass_of_methodNamed B.named, hts⟩, B.returns, B.notSynchronized⟩
  have hS : va_S (PA 56 P) s.heap s.heap [] := va_S.rf
  have hl := lv_entry ([.long v0, .long v2]) (n := 4) (Nat.le_of_ble_eq_true rfl)
  rw [lg_entry_eq]
  generalize (lg_sl ([.long v0, .long v2]) ++ List.replicate (4 - (lg_sl ([.long v0, .long v2])).length) Slot.unset).toArray = ls at hl ⊢
  have hl : lv_has ls 4 [(0, .long v0), (2, .long v2)] := hl
  exact e_X8_quotient C _ _ _ _ _ _ h  hP hS hl
set_option maxRecDepth 100000 in
set_option maxHeartbeats 4000000 in
theorem e_X1_blockWidth {p : Program} {l : Launch} {e : Env} {s : State} {m : MethodId} {args : Array Value} {below : List Frame} {meth : Method} {c : Code} {dC : Nat → ClassId} {dI : Nat → Nat → Nat} {cA : Nat → ClassId} {adK adV P : Nat → Nat} (C : CtxX dC dI cA adK adV P p s m args meth c cX1_blockWidth 2 (some .int) RX1) {post : Int32 → St → Prop} : ∀ (k0 : Nat) (v1 : Int32) (S : St) (H : Heap) (locs : List Loc) (ls : Array Slot), w_X1_blockWidth k0 v1 post S → kdX k0 = 1 → VX dC dI cA P S H → va_S (PA 56 P) s.heap H locs → lv_has ls 2 [(0, .ref (P k0)), (1, .int v1)] → W p l e ({ frames := 1, cells := 0, slots := 0, locals := 23 } : Room) s m args below meth c H locs 0 0 (MQ below (va_Qi post (fun u t => VX dC dI cA P u t.heap) (PA 56 P)) args s 0 0 (PA 56 P)) (F0 m 0 ls []) := by
  have C := C
  obtain ⟨hI, hKX, ⟨hx, hb, hml, hown, hts⟩, hr, hlocks⟩ := id C
  have hK := hKX.1
  intro k0 v1 S H locs ls h hk0 hP hS hl
  rw [w_X1_blockWidth] at h
  refine lv_aload_n hx hb dX1_blockWidth_0 rfl (lv_at hl 0 rfl) ?_
  refine g_get (v := .int (S.1 k0 4)) hx hb hts inG_X1 hown hK hP (kX_lt hk0) (eX1 hk0) rfl 4 (by decide) G_fl_X1_24 rfl rfl dX1_blockWidth_1 ?_
  refine lv_i2l hx hb dX1_blockWidth_4 rfl ?_
  refine lv_iload_n hx hb dX1_blockWidth_5 rfl (lv_at hl 1 rfl) ?_
  refine lv_i2l hx hb dX1_blockWidth_6 rfl ?_
  replace h := h _ rfl
  replace h := h _ rfl
  refine va_calll (va_runSN (As := [.long _, .long _]) (rest := []) ⟨hx, hb, hml, hown, hts⟩ (c_X8_quotient l hI h) ⟨va_cnB 2 hts (good_W G_cd_X8_quotient) rfl rfl rfl (kx_n3 hKX) (hts _ G_in_X8) hd_X8_quotient ⟨Nat.le_of_ble_eq_true rfl, Nat.le_of_ble_eq_true rfl⟩, hts _ G_st_X8_quotient, trivial⟩ (preS_X hKX hP hS) rfl rfl hl.1 rfl (lv_room (Nat.le_of_ble_eq_true rfl)) dX1_blockWidth_7 ⟨Nat.le_of_ble_eq_true rfl, Nat.le_of_ble_eq_true rfl⟩) hS (fun _ _ h => h) (fun _ h => h) (fun r4 S3 t H locs ht _ h hB _ _ hS => ?_)
  have hP : VX dC dI cA P S3 H := by rw [← ht]; exact hB
  refine lv_l2i hx hb dX1_blockWidth_10 rfl ?_
  exact g_iret hx hb hr hlocks h hP hS dX1_blockWidth_11
set_option maxRecDepth 100000 in
set_option maxHeartbeats 4000000 in
theorem c_X1_blockWidth (l : Launch) {dC : Nat → ClassId} {dI : Nat → Nat → Nat} {cA : Nat → ClassId} {adK adV P : Nat → Nat} (hI : PInj 56 P) {k0 : Nat} {v1 : Int32} (hk0 : kdX k0 = 1) {post : Int32 → St → Prop} {S : St} (h : w_X1_blockWidth k0 v1 post S) : Met l yX1_blockWidth (wW yX1_blockWidth cX1_blockWidth 2 (some .int)) ({ frames := 1, cells := 0, slots := 0, locals := 23 } : Room) (va_Pc [.ref (P k0), .int v1] (PreX dC dI cA adK adV P S)) (va_Qi post (fun u t => VX dC dI cA P u t.heap) (PA 56 P)) 0 0 (PA 56 P) := by
  refine Met.ofW (cc := cX1_blockWidth) (maxL := 2) (ret := (some .int)) (by decide) rfl ?_
  intro p e s m args below meth c s₁ B hml hv
  obtain ⟨rfl, hP, hKX⟩ := hv
  have hts : ∀ w ∈ G, w.before [.ref (P k0), .int v1].toArray s = true := fun w hw => atoms_spec (ws := wW yX1_blockWidth cX1_blockWidth 2 (some .int)) B.pre w (List.mem_cons_of_mem _ hw)
  have C : CtxX dC dI cA adK adV P p s m [.ref (P k0), .int v1].toArray meth c cX1_blockWidth 2 (some .int) RX1 := ⟨hI, hKX, ⟨B.exec, B.bytes, hml, findClass_of_methodNamed B.named, hts⟩, B.returns, B.notSynchronized⟩
  have hS : va_S (PA 56 P) s.heap s.heap [] := va_S.rf
  have hl := lv_entry ([.ref (P k0), .int v1]) (n := 2) (Nat.le_of_ble_eq_true rfl)
  rw [lg_entry_eq]
  generalize (lg_sl ([.ref (P k0), .int v1]) ++ List.replicate (2 - (lg_sl ([.ref (P k0), .int v1])).length) Slot.unset).toArray = ls at hl ⊢
  have hl : lv_has ls 2 [(0, .ref (P k0)), (1, .int v1)] := hl
  exact e_X1_blockWidth C _ _ _ _ _ _ h hk0 hP hS hl
