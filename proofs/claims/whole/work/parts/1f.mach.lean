set_option maxRecDepth 100000 in
set_option maxHeartbeats 4000000 in
theorem b_X8_order_51 {p : Program} {l : Launch} {e : Env} {s : State} {m : MethodId} {args : Array Value} {below : List Frame} {meth : Method} {c : Code} {dC : Nat → ClassId} {dI : Nat → Nat → Nat} {cA : Nat → ClassId} {adK adV P : Nat → Nat} (C : CtxX dC dI cA adK adV P p s m args meth c cX8_order 6 (some .int) RX8) {post : Int32 → St → Prop}  : ∀ (n : Nat) (v1 : Int32) (v2 : Int32) (v3 : Int32) (v4 : Int32) (v5 : Int32) (S : St) (H : Heap) (locs : List Loc) (ls : Array Slot), w_X8_order_51 post n v1 v2 v3 v4 v5 S → VX dC dI cA P S H → va_S (PA 56 P) s.heap H locs → lv_has ls 6 [(1, .int v1), (2, .int v2), (3, .int v3), (4, .int v4), (5, .int v5)] → W p l e ({ frames := 2, cells := 0, slots := 0, locals := 42 } : Room) s m args below meth c H locs 0 0 (MQ below (va_Qi post (fun u t => VX dC dI cA P u t.heap) (PA 56 P)) args s 0 0 (PA 56 P)) (F0 m 51 ls []) := by
  have C := C
  obtain ⟨hI, hKX, ⟨hx, hb, hml, hown, hts⟩, hr, hlocks⟩ := id C
  have hK := hKX.1
  intro n
  induction n with
  | zero =>
    intro v1 v2 v3 v4 v5 S H locs ls h hP hS hl
    simp only [w_X8_order_51] at h
  | succ n ih =>
    intro v1 v2 v3 v4 v5 S H locs ls h hP hS hl
    rw [w_X8_order_51] at h
    refine lv_iload hx hb dX8_order_51 (lv_at hl 3 rfl) ?_
    refine lv_iload_n hx hb dX8_order_53 rfl (lv_at hl 2 rfl) ?_
    refine lv_icmp_eq (tgt := 79) hx hb dX8_order_54 (by decide) (fun c16 => ?_) (fun c16 => ?_)
    · replace h := h.1 c16
      refine lv_iload hx hb dX8_order_79 (lv_at hl 4 rfl) ?_
      exact g_iret hx hb hr hlocks h hP hS dX8_order_81
    · replace h := h.2 c16
      refine lv_iload hx hb dX8_order_57 (lv_at hl 4 rfl) ?_
      refine lv_iload_n hx hb dX8_order_59 rfl (lv_at hl 1 rfl) ?_
      refine lv_icmp_ge (tgt := 79) hx hb dX8_order_60 (by decide) (fun c17 => ?_) (fun c17 => ?_)
      · replace h := h.1 c17
        refine lv_iload hx hb dX8_order_79 (lv_at hl 4 rfl) ?_
        exact g_iret hx hb hr hlocks h hP hS dX8_order_81
      · replace h := h.2 c17
        refine lv_iload hx hb dX8_order_63 (lv_at hl 3 rfl) ?_
        refine lv_iload_n hx hb dX8_order_65 rfl (lv_at hl 0 rfl) ?_
        refine lv_imul hx hb dX8_order_66 ?_
        refine lv_iload_n hx hb dX8_order_67 rfl (lv_at hl 1 rfl) ?_
        replace h := h _ rfl
        refine va_calli (va_runS (As := [.int _, .int _]) (rest := []) ⟨hx, hb, hml, hown, hts⟩ (c_X8_remainder l hI h) (va_cwS 2 hts gs_X8_171 rfl rfl rfl hd_X8_remainder ⟨Nat.le_of_ble_eq_true rfl, Nat.le_of_ble_eq_true rfl⟩) (preS_X hKX hP hS) rfl rfl hl.1 rfl (lv_room (Nat.le_of_ble_eq_true rfl)) dX8_order_68 ⟨Nat.le_of_ble_eq_true rfl, Nat.le_of_ble_eq_true rfl⟩) hS (fun _ _ h => h) (fun _ h => h) (fun r20 S19 t H locs ht _ h hB _ _ hS => ?_)
        have hP : VX dC dI cA P S19 H := by rw [← ht]; exact hB
        refine lv_istore (lv' := [(4, .int r20), (1, .int v1), (2, .int v2), (3, .int v3), (5, .int v5)]) hx hb dX8_order_71 hl (by decide) rfl (fun ls hl => ?_)
        obtain ⟨x21, ex21⟩ : ∃ y : Int32, y = v5 + 1 := ⟨_, rfl⟩
        replace h := h x21 ex21
        refine lv_iinc (v := x21) (lv' := [(5, .int x21), (4, .int r20), (1, .int v1), (2, .int v2), (3, .int v3)]) hx hb dX8_order_73 hl (k := 4) rfl (by rw [ex21]; rfl) (by decide) rfl (fun ls hl => ?_)
        refine lv_goto (tgt := 51) hx hb dX8_order_76 (by decide) ?_
        exact ih _ _ _ _ _ _ _ _ _ h  hP hS (lv_sub hl [2, 3, 4, 1, 0] rfl)
set_option maxRecDepth 100000 in
set_option maxHeartbeats 4000000 in
theorem e_X8_order {p : Program} {l : Launch} {e : Env} {s : State} {m : MethodId} {args : Array Value} {below : List Frame} {meth : Method} {c : Code} {dC : Nat → ClassId} {dI : Nat → Nat → Nat} {cA : Nat → ClassId} {adK adV P : Nat → Nat} (C : CtxX dC dI cA adK adV P p s m args meth c cX8_order 6 (some .int) RX8) {post : Int32 → St → Prop} : ∀ (v1 : Int32) (v2 : Int32) (S : St) (H : Heap) (locs : List Loc) (ls : Array Slot), w_X8_order v1 v2 post S → VX dC dI cA P S H → va_S (PA 56 P) s.heap H locs → lv_has ls 6 [(0, .ref (P 0)), (1, .int v1), (2, .int v2)] → W p l e ({ frames := 2, cells := 0, slots := 0, locals := 42 } : Room) s m args below meth c H locs 0 0 (MQ below (va_Qi post (fun u t => VX dC dI cA P u t.heap) (PA 56 P)) args s 0 0 (PA 56 P)) (F0 m 0 ls []) := by
  have C := C
  obtain ⟨hI, hKX, ⟨hx, hb, hml, hown, hts⟩, hr, hlocks⟩ := id C
  have hK := hKX.1
  intro v1 v2 S H locs ls h hP hS hl
  rw [w_X8_order] at h
  refine lv_iload_n hx hb dX8_order_0 rfl (lv_at hl 1 rfl) ?_
  refine va_calli (va_runS (As := [.int _]) (rest := []) ⟨hx, hb, hml, hown, hts⟩ (c_X8_isBase l hI h) (va_cwS 1 hts gs_X8_85 rfl rfl rfl hd_X8_isBase ⟨Nat.le_of_ble_eq_true rfl, Nat.le_of_ble_eq_true rfl⟩) (preS_X hKX hP hS) rfl rfl hl.1 rfl (lv_room (Nat.le_of_ble_eq_true rfl)) dX8_order_1 ⟨Nat.le_of_ble_eq_true rfl, Nat.le_of_ble_eq_true rfl⟩) hS (fun _ _ h => h) (fun _ h => h) (fun r2 S1 t H locs ht _ h hB _ _ hS => ?_)
  have hP : VX dC dI cA P S1 H := by rw [← ht]; exact hB
  refine lv_if_eq (tgt := 18) hx hb dX8_order_4 (by decide) (fun c3 => ?_) (fun c3 => ?_)
  · replace h := h.1 c3
    refine lv_iconst (v := (-1)) hx hb dX8_order_18 (by decide) ?_
    exact g_iret hx hb hr hlocks h hP hS dX8_order_19
  · replace h := h.2 c3
    refine lv_iload_n hx hb dX8_order_7 rfl (lv_at hl 2 rfl) ?_
    refine lv_iconst (v := 1) hx hb dX8_order_8 (by decide) ?_
    refine lv_sipush (v := 9999) hx hb dX8_order_9 (by decide) ?_
    refine va_calli (va_runS (As := [.int _, .int _, .int _]) (rest := []) ⟨hx, hb, hml, hown, hts⟩ (c_X8_isWithin l hI h) (va_cwS 3 hts gs_X8_81 rfl rfl rfl hd_X8_isWithin ⟨Nat.le_of_ble_eq_true rfl, Nat.le_of_ble_eq_true rfl⟩) (preS_X hKX hP hS) rfl rfl hl.1 rfl (lv_room (Nat.le_of_ble_eq_true rfl)) dX8_order_12 ⟨Nat.le_of_ble_eq_true rfl, Nat.le_of_ble_eq_true rfl⟩) hS (fun _ _ h => h) (fun _ h => h) (fun r5 S4 t H locs ht _ h hB _ _ hS => ?_)
    have hP : VX dC dI cA P S4 H := by rw [← ht]; exact hB
    refine lv_if_ne (tgt := 20) hx hb dX8_order_15 (by decide) (fun c6 => ?_) (fun c6 => ?_)
    · replace h := h.2 c6
      refine lv_iload_n hx hb dX8_order_20 rfl (lv_at hl 1 rfl) ?_
      refine lv_i2l hx hb dX8_order_21 rfl ?_
      refine lv_iload_n hx hb dX8_order_22 rfl (lv_at hl 2 rfl) ?_
      refine lv_i2l hx hb dX8_order_23 rfl ?_
      replace h := h _ rfl
      replace h := h _ rfl
      refine va_calll (va_runS (As := [.long _, .long _]) (rest := []) ⟨hx, hb, hml, hown, hts⟩ (c_X8_commonDivisor l hI h) (va_cwS 2 hts gs_X8_119 rfl rfl rfl hd_X8_commonDivisor ⟨Nat.le_of_ble_eq_true rfl, Nat.le_of_ble_eq_true rfl⟩) (preS_X hKX hP hS) rfl rfl hl.1 rfl (lv_room (Nat.le_of_ble_eq_true rfl)) dX8_order_24 ⟨Nat.le_of_ble_eq_true rfl, Nat.le_of_ble_eq_true rfl⟩) hS (fun _ _ h => h) (fun _ h => h) (fun r10 S9 t H locs ht _ h hB _ _ hS => ?_)
      have hP : VX dC dI cA P S9 H := by rw [← ht]; exact hB
      refine lv_lconst (v := 1) hx hb dX8_order_27 (by decide) ?_
      refine W.lcmp hx hb dX8_order_28 ?_
      refine lv_if_le (tgt := 35) hx hb dX8_order_29 (by decide) (fun c11 => ?_) (fun c11 => ?_)
      · replace h := h.1 ((lg_cmp_le _ _).mp c11)
        refine lv_iconst (v := 1) hx hb dX8_order_35 (by decide) ?_
        refine lv_iload_n hx hb dX8_order_36 rfl (lv_at hl 2 rfl) ?_
        refine va_calli (va_runS (As := [.int _, .int _]) (rest := []) ⟨hx, hb, hml, hown, hts⟩ (c_X8_remainder l hI h) (va_cwS 2 hts gs_X8_171 rfl rfl rfl hd_X8_remainder ⟨Nat.le_of_ble_eq_true rfl, Nat.le_of_ble_eq_true rfl⟩) (preS_X hKX hP hS) rfl rfl hl.1 rfl (lv_room (Nat.le_of_ble_eq_true rfl)) dX8_order_37 ⟨Nat.le_of_ble_eq_true rfl, Nat.le_of_ble_eq_true rfl⟩) hS (fun _ _ h => h) (fun _ h => h) (fun r13 S12 t H locs ht _ h hB _ _ hS => ?_)
        have hP : VX dC dI cA P S12 H := by rw [← ht]; exact hB
        refine lv_istore_n (lv' := [(3, .int r13), (0, .ref (P 0)), (1, .int v1), (2, .int v2)]) hx hb dX8_order_40 rfl hl (by decide) rfl (fun ls hl => ?_)
        refine lv_iload_n hx hb dX8_order_41 rfl (lv_at hl 2 rfl) ?_
        refine lv_iload_n hx hb dX8_order_42 rfl (lv_at hl 3 rfl) ?_
        refine va_calli (va_runS (As := [.int _, .int _]) (rest := []) ⟨hx, hb, hml, hown, hts⟩ (c_X8_remainder l hI h) (va_cwS 2 hts gs_X8_171 rfl rfl rfl hd_X8_remainder ⟨Nat.le_of_ble_eq_true rfl, Nat.le_of_ble_eq_true rfl⟩) (preS_X hKX hP hS) rfl rfl hl.1 rfl (lv_room (Nat.le_of_ble_eq_true rfl)) dX8_order_43 ⟨Nat.le_of_ble_eq_true rfl, Nat.le_of_ble_eq_true rfl⟩) hS (fun _ _ h => h) (fun _ h => h) (fun r15 S14 t H locs ht _ h hB _ _ hS => ?_)
        have hP : VX dC dI cA P S14 H := by rw [← ht]; exact hB
        refine lv_istore (lv' := [(4, .int r15), (3, .int r13), (0, .ref (P 0)), (1, .int v1), (2, .int v2)]) hx hb dX8_order_46 hl (by decide) rfl (fun ls hl => ?_)
        refine lv_iconst (v := 1) hx hb dX8_order_48 (by decide) ?_
        refine lv_istore (lv' := [(5, .int 1), (4, .int r15), (3, .int r13), (0, .ref (P 0)), (1, .int v1), (2, .int v2)]) hx hb dX8_order_49 hl (by decide) rfl (fun ls hl => ?_)
        obtain ⟨n22, h⟩ := h
        exact b_X8_order_51 C n22 _ _ _ _ _ _ _ _ _ h  hP hS (lv_sub hl [4, 5, 2, 1, 0] rfl)
      · replace h := h.2 (fun z => c11 ((lg_cmp_le _ _).mpr z))
        refine lv_bipush (v := (-2)) hx hb dX8_order_32 (by decide) ?_
        exact g_iret hx hb hr hlocks h hP hS dX8_order_34
    · replace h := h.1 c6
      refine lv_iconst (v := (-1)) hx hb dX8_order_18 (by decide) ?_
      exact g_iret hx hb hr hlocks h hP hS dX8_order_19
set_option maxRecDepth 100000 in
set_option maxHeartbeats 4000000 in
theorem c_X8_order (l : Launch) {dC : Nat → ClassId} {dI : Nat → Nat → Nat} {cA : Nat → ClassId} {adK adV P : Nat → Nat} (hI : PInj 56 P) {v1 : Int32} {v2 : Int32}  {post : Int32 → St → Prop} {S : St} (h : w_X8_order v1 v2 post S) : Met l yX8_order (wW yX8_order cX8_order 6 (some .int)) ({ frames := 2, cells := 0, slots := 0, locals := 42 } : Room) (va_Pc [.ref (P 0), .int v1, .int v2] (PreX dC dI cA adK adV P S)) (va_Qi post (fun u t => VX dC dI cA P u t.heap) (PA 56 P)) 0 0 (PA 56 P) := by
  refine Met.ofW (cc := cX8_order) (maxL := 6) (ret := (some .int)) (by decide) rfl ?_
  intro p e s m args below meth c s₁ B hml hv
  obtain ⟨rfl, hP, hKX⟩ := hv
  have hts : ∀ w ∈ G, w.before [.ref (P 0), .int v1, .int v2].toArray s = true := fun w hw => atoms_spec (ws := wW yX8_order cX8_order 6 (some .int)) B.pre w (List.mem_cons_of_mem _ hw)
  have C : CtxX dC dI cA adK adV P p s m [.ref (P 0), .int v1, .int v2].toArray meth c cX8_order 6 (some .int) RX8 := ⟨hI, hKX, ⟨B.exec, B.bytes, hml, findClass_of_methodNamed B.named, hts⟩, B.returns, B.notSynchronized⟩
  have hS : va_S (PA 56 P) s.heap s.heap [] := va_S.rf
  have hl := lv_entry ([.ref (P 0), .int v1, .int v2]) (n := 6) (Nat.le_of_ble_eq_true rfl)
  rw [lg_entry_eq]
  generalize (lg_sl ([.ref (P 0), .int v1, .int v2]) ++ List.replicate (6 - (lg_sl ([.ref (P 0), .int v1, .int v2])).length) Slot.unset).toArray = ls at hl ⊢
  have hl : lv_has ls 6 [(0, .ref (P 0)), (1, .int v1), (2, .int v2)] := hl
  exact e_X8_order C _ _ _ _ _ _ h  hP hS hl
set_option maxRecDepth 100000 in
set_option maxHeartbeats 4000000 in
theorem b_X8_markRing_6 {p : Program} {l : Launch} {e : Env} {s : State} {m : MethodId} {args : Array Value} {below : List Frame} {meth : Method} {c : Code} {dC : Nat → ClassId} {dI : Nat → Nat → Nat} {cA : Nat → ClassId} {adK adV P : Nat → Nat} (C : CtxX dC dI cA adK adV P p s m args meth c cX8_markRing 6 (some .int) RX8) {post : Int32 → St → Prop}  : ∀ (n : Nat) (v2 : Int32) (v3 : Int32) (v4 : Int32) (v5 : Int32) (S : St) (H : Heap) (locs : List Loc) (ls : Array Slot), w_X8_markRing_6 post n v2 v3 v4 v5 S → VX dC dI cA P S H → va_S (PA 56 P) s.heap H locs → lv_has ls 6 [(0, .ref (P 0)), (2, .int v2), (3, .int v3), (4, .int v4), (5, .int v5)] → W p l e ({ frames := 1, cells := 0, slots := 0, locals := 22 } : Room) s m args below meth c H locs 0 0 (MQ below (va_Qi post (fun u t => VX dC dI cA P u t.heap) (PA 56 P)) args s 0 0 (PA 56 P)) (F0 m 6 ls []) := by
  have C := C
  obtain ⟨hI, hKX, ⟨hx, hb, hml, hown, hts⟩, hr, hlocks⟩ := id C
  have hK := hKX.1
  intro n
  induction n with
  | zero =>
    intro v2 v3 v4 v5 S H locs ls h hP hS hl
    simp only [w_X8_markRing_6] at h
  | succ n ih =>
    intro v2 v3 v4 v5 S H locs ls h hP hS hl
    rw [w_X8_markRing_6] at h
    refine lv_iload hx hb dX8_markRing_6 (lv_at hl 4 rfl) ?_
    refine lv_iload_n hx hb dX8_markRing_8 rfl (lv_at hl 2 rfl) ?_
    refine lv_icmp_ge (tgt := 50) hx hb dX8_markRing_9 (by decide) (fun c1 => ?_) (fun c1 => ?_)
    · replace h := h.1 c1
      refine lv_iload hx hb dX8_markRing_50 (lv_at hl 4 rfl) ?_
      exact g_iret hx hb hr hlocks h hP hS dX8_markRing_52
    · replace h := h.2 c1
      refine lv_aload_n hx hb dX8_markRing_12 rfl (lv_at hl 0 rfl) ?_
      refine g_get (v := .ref (P 55)) hx hb hts inG_X8 hown hK hP (kX_lt (rfl : kdX 0 = 8)) (eX8 (rfl : kdX 0 = 8)) rfl 11 (by decide) G_fl_X8_76 rfl rfl dX8_markRing_13 ?_
      refine lv_iload hx hb dX8_markRing_16 (lv_at hl 3 rfl) ?_
      refine va_calli (va_runS (As := [.ref _, .int _]) (rest := []) ⟨hx, hb, hml, hown, hts⟩ (c_X8_valueAt l hI (rfl : kdX 55 = 10) h) (va_cwS 2 hts gs_X8_216 rfl rfl rfl hd_X8_valueAt ⟨Nat.le_of_ble_eq_true rfl, Nat.le_of_ble_eq_true rfl⟩) (preS_X hKX hP hS) rfl rfl hl.1 rfl (lv_room (Nat.le_of_ble_eq_true rfl)) dX8_markRing_18 ⟨Nat.le_of_ble_eq_true rfl, Nat.le_of_ble_eq_true rfl⟩) hS (fun _ _ h => h) (fun _ h => h) (fun r3 S2 t H locs ht _ h hB _ _ hS => ?_)
      have hP : VX dC dI cA P S2 H := by rw [← ht]; exact hB
      refine lv_if_ne (tgt := 50) hx hb dX8_markRing_21 (by decide) (fun c4 => ?_) (fun c4 => ?_)
      · replace h := h.2 c4
        refine lv_iload hx hb dX8_markRing_50 (lv_at hl 4 rfl) ?_
        exact g_iret hx hb hr hlocks h hP hS dX8_markRing_52
      · replace h := h.1 c4
        refine lv_aload_n hx hb dX8_markRing_24 rfl (lv_at hl 0 rfl) ?_
        refine g_get (v := .ref (P 55)) hx hb hts inG_X8 hown hK hP (kX_lt (rfl : kdX 0 = 8)) (eX8 (rfl : kdX 0 = 8)) rfl 11 (by decide) G_fl_X8_76 rfl rfl dX8_markRing_25 ?_
        refine lv_iload hx hb dX8_markRing_28 (lv_at hl 3 rfl) ?_
        refine lv_iconst (v := 1) hx hb dX8_markRing_30 (by decide) ?_
        refine va_callv (va_runS (As := [.ref _, .int _, .int _]) (rest := []) ⟨hx, hb, hml, hown, hts⟩ (c_X8_setAt l hI (rfl : kdX 55 = 10) h) (va_cwS 3 hts gs_X8_175 rfl rfl rfl hd_X8_setAt ⟨Nat.le_of_ble_eq_true rfl, Nat.le_of_ble_eq_true rfl⟩) (preS_X hKX hP hS) rfl rfl hl.1 rfl (lv_room (Nat.le_of_ble_eq_true rfl)) dX8_markRing_31 ⟨Nat.le_of_ble_eq_true rfl, Nat.le_of_ble_eq_true rfl⟩) hS (fun _ _ h => h) (fun _ h => h) (fun S5 t H locs ht _ h hB _ _ hS => ?_)
        have hP : VX dC dI cA P S5 H := by rw [← ht]; exact hB
        refine lv_iload hx hb dX8_markRing_34 (lv_at hl 3 rfl) ?_
        refine lv_iload_n hx hb dX8_markRing_36 rfl (lv_at hl 1 rfl) ?_
        refine lv_imul hx hb dX8_markRing_37 ?_
        refine lv_iload_n hx hb dX8_markRing_38 rfl (lv_at hl 2 rfl) ?_
        replace h := h _ rfl
        refine va_calli (va_runS (As := [.int _, .int _]) (rest := []) ⟨hx, hb, hml, hown, hts⟩ (c_X8_remainder l hI h) (va_cwS 2 hts gs_X8_171 rfl rfl rfl hd_X8_remainder ⟨Nat.le_of_ble_eq_true rfl, Nat.le_of_ble_eq_true rfl⟩) (preS_X hKX hP hS) rfl rfl hl.1 rfl (lv_room (Nat.le_of_ble_eq_true rfl)) dX8_markRing_39 ⟨Nat.le_of_ble_eq_true rfl, Nat.le_of_ble_eq_true rfl⟩) hS (fun _ _ h => h) (fun _ h => h) (fun r8 S7 t H locs ht _ h hB _ _ hS => ?_)
        have hP : VX dC dI cA P S7 H := by rw [← ht]; exact hB
        refine lv_istore (lv' := [(4, .int r8), (0, .ref (P 0)), (2, .int v2), (3, .int v3), (5, .int v5)]) hx hb dX8_markRing_42 hl (by decide) rfl (fun ls hl => ?_)
        obtain ⟨x9, ex9⟩ : ∃ y : Int32, y = v5 + 1 := ⟨_, rfl⟩
        replace h := h x9 ex9
        refine lv_iinc (v := x9) (lv' := [(5, .int x9), (4, .int r8), (0, .ref (P 0)), (2, .int v2), (3, .int v3)]) hx hb dX8_markRing_44 hl (k := 4) rfl (by rw [ex9]; rfl) (by decide) rfl (fun ls hl => ?_)
        refine lv_goto (tgt := 6) hx hb dX8_markRing_47 (by decide) ?_
        exact ih _ _ _ _ _ _ _ _ h  hP hS (lv_sub hl [2, 3, 4, 1, 0] rfl)
set_option maxRecDepth 100000 in
set_option maxHeartbeats 4000000 in
theorem e_X8_markRing {p : Program} {l : Launch} {e : Env} {s : State} {m : MethodId} {args : Array Value} {below : List Frame} {meth : Method} {c : Code} {dC : Nat → ClassId} {dI : Nat → Nat → Nat} {cA : Nat → ClassId} {adK adV P : Nat → Nat} (C : CtxX dC dI cA adK adV P p s m args meth c cX8_markRing 6 (some .int) RX8) {post : Int32 → St → Prop} : ∀ (v1 : Int32) (v2 : Int32) (v3 : Int32) (S : St) (H : Heap) (locs : List Loc) (ls : Array Slot), w_X8_markRing v1 v2 v3 post S → VX dC dI cA P S H → va_S (PA 56 P) s.heap H locs → lv_has ls 6 [(0, .ref (P 0)), (1, .int v1), (2, .int v2), (3, .int v3)] → W p l e ({ frames := 1, cells := 0, slots := 0, locals := 22 } : Room) s m args below meth c H locs 0 0 (MQ below (va_Qi post (fun u t => VX dC dI cA P u t.heap) (PA 56 P)) args s 0 0 (PA 56 P)) (F0 m 0 ls []) := by
  have C := C
  obtain ⟨hI, hKX, ⟨hx, hb, hml, hown, hts⟩, hr, hlocks⟩ := id C
  have hK := hKX.1
  intro v1 v2 v3 S H locs ls h hP hS hl
  rw [w_X8_markRing] at h
  refine lv_iload_n hx hb dX8_markRing_0 rfl (lv_at hl 1 rfl) ?_
  refine lv_istore (lv' := [(4, .int v1), (0, .ref (P 0)), (1, .int v1), (2, .int v2), (3, .int v3)]) hx hb dX8_markRing_1 hl (by decide) rfl (fun ls hl => ?_)
  refine lv_iconst (v := 0) hx hb dX8_markRing_3 (by decide) ?_
  refine lv_istore (lv' := [(5, .int 0), (4, .int v1), (0, .ref (P 0)), (1, .int v1), (2, .int v2), (3, .int v3)]) hx hb dX8_markRing_4 hl (by decide) rfl (fun ls hl => ?_)
  obtain ⟨n10, h⟩ := h
  exact b_X8_markRing_6 C n10 _ _ _ _ _ _ _ _ h  hP hS (lv_sub hl [2, 4, 5, 1, 0] rfl)
set_option maxRecDepth 100000 in
set_option maxHeartbeats 4000000 in
theorem c_X8_markRing (l : Launch) {dC : Nat → ClassId} {dI : Nat → Nat → Nat} {cA : Nat → ClassId} {adK adV P : Nat → Nat} (hI : PInj 56 P) {v1 : Int32} {v2 : Int32} {v3 : Int32}  {post : Int32 → St → Prop} {S : St} (h : w_X8_markRing v1 v2 v3 post S) : Met l yX8_markRing (wW yX8_markRing cX8_markRing 6 (some .int)) ({ frames := 1, cells := 0, slots := 0, locals := 22 } : Room) (va_Pc [.ref (P 0), .int v1, .int v2, .int v3] (PreX dC dI cA adK adV P S)) (va_Qi post (fun u t => VX dC dI cA P u t.heap) (PA 56 P)) 0 0 (PA 56 P) := by
  refine Met.ofW (cc := cX8_markRing) (maxL := 6) (ret := (some .int)) (by decide) rfl ?_
  intro p e s m args below meth c s₁ B hml hv
  obtain ⟨rfl, hP, hKX⟩ := hv
  have hts : ∀ w ∈ G, w.before [.ref (P 0), .int v1, .int v2, .int v3].toArray s = true := fun w hw => atoms_spec (ws := wW yX8_markRing cX8_markRing 6 (some .int)) B.pre w (List.mem_cons_of_mem _ hw)
  have C : CtxX dC dI cA adK adV P p s m [.ref (P 0), .int v1, .int v2, .int v3].toArray meth c cX8_markRing 6 (some .int) RX8 := ⟨hI, hKX, ⟨B.exec, B.bytes, hml, findClass_of_methodNamed B.named, hts⟩, B.returns, B.notSynchronized⟩
  have hS : va_S (PA 56 P) s.heap s.heap [] := va_S.rf
  have hl := lv_entry ([.ref (P 0), .int v1, .int v2, .int v3]) (n := 6) (Nat.le_of_ble_eq_true rfl)
  rw [lg_entry_eq]
  generalize (lg_sl ([.ref (P 0), .int v1, .int v2, .int v3]) ++ List.replicate (6 - (lg_sl ([.ref (P 0), .int v1, .int v2, .int v3])).length) Slot.unset).toArray = ls at hl ⊢
  have hl : lv_has ls 6 [(0, .ref (P 0)), (1, .int v1), (2, .int v2), (3, .int v3)] := hl
  exact e_X8_markRing C _ _ _ _ _ _ _ h  hP hS hl
set_option maxRecDepth 100000 in
set_option maxHeartbeats 4000000 in
theorem b_X8_cycles_106 {p : Program} {l : Launch} {e : Env} {s : State} {m : MethodId} {args : Array Value} {below : List Frame} {meth : Method} {c : Code} {dC : Nat → ClassId} {dI : Nat → Nat → Nat} {cA : Nat → ClassId} {adK adV P : Nat → Nat} (C : CtxX dC dI cA adK adV P p s m args meth c cX8_cycles 8 (some .int) RX8) {post : Int32 → St → Prop} {K78 : Int32 → Int32 → Int32 → Int32 → Int32 → Int32 → St → Prop} (hK78 : ∀ (v1 : Int32) (v2 : Int32) (v3 : Int32) (v4 : Int32) (v5 : Int32) (v6 : Int32) (S : St) (H : Heap) (locs : List Loc) (ls : Array Slot), K78 v1 v2 v3 v4 v5 v6 S → VX dC dI cA P S H → va_S (PA 56 P) s.heap H locs → lv_has ls 8 [(0, .ref (P 0)), (1, .int v1), (2, .int v2), (3, .int v3), (4, .int v4), (5, .int v5), (6, .int v6)] → W p l e ({ frames := 2, cells := 0, slots := 0, locals := 47 } : Room) s m args below meth c H locs 0 0 (MQ below (va_Qi post (fun u t => VX dC dI cA P u t.heap) (PA 56 P)) args s 0 0 (PA 56 P)) (F0 m 78 ls [])) : ∀ (v1 : Int32) (v2 : Int32) (v3 : Int32) (v5 : Int32) (v6 : Int32) (v7 : Int32) (y0 : Int32) (y1 : Int32) (S : St) (H : Heap) (locs : List Loc) (ls : Array Slot), w_X8_cycles_106 post K78 v1 v2 v3 v5 v6 v7 y0 y1 S → VX dC dI cA P S H → va_S (PA 56 P) s.heap H locs → lv_has ls 8 [(0, .ref (P 0)), (1, .int v1), (2, .int v2), (3, .int v3), (5, .int v5), (6, .int v6), (7, .int v7)] → W p l e ({ frames := 2, cells := 0, slots := 0, locals := 47 } : Room) s m args below meth c H locs 0 0 (MQ below (va_Qi post (fun u t => VX dC dI cA P u t.heap) (PA 56 P)) args s 0 0 (PA 56 P)) (F0 m 106 ls [.int y1, .int y0]) := by
  have C := C
  obtain ⟨hI, hKX, ⟨hx, hb, hml, hown, hts⟩, hr, hlocks⟩ := id C
  have hK := hKX.1
  intro v1 v2 v3 v5 v6 v7 y0 y1 S H locs ls h hP hS hl
  rw [w_X8_cycles_106] at h
  refine lv_iadd hx hb dX8_cycles_106 ?_
  refine lv_topi (fun x21 ex21 => ?_)
  replace h := h x21 ex21
  refine lv_istore (lv' := [(4, .int x21), (0, .ref (P 0)), (1, .int v1), (2, .int v2), (3, .int v3), (5, .int v5), (6, .int v6), (7, .int v7)]) hx hb dX8_cycles_107 hl (by decide) rfl (fun ls hl => ?_)
  refine lv_iload hx hb dX8_cycles_109 (lv_at hl 5 rfl) ?_
  refine lv_iload hx hb dX8_cycles_111 (lv_at hl 7 rfl) ?_
  refine va_mmax hx hb (hml.trans hl.1.symm) hown (hts _ G_ml_X8_182) (hts _ G_st_J9_max_7cf53) (hts _ G_in_J9) (hts _ G_cd_J9_max_7cf53) (Nat.le_of_ble_eq_true rfl) (Nat.le_of_ble_eq_true rfl) (Nat.le_of_ble_eq_true rfl) (Nat.le_of_ble_eq_true rfl) dX8_cycles_113 ?_
  refine lv_topi (fun x22 ex22 => ?_)
  replace h := h x22 ex22
  refine lv_istore (lv' := [(5, .int x22), (4, .int x21), (0, .ref (P 0)), (1, .int v1), (2, .int v2), (3, .int v3), (6, .int v6), (7, .int v7)]) hx hb dX8_cycles_116 hl (by decide) rfl (fun ls hl => ?_)
  obtain ⟨x23, ex23⟩ : ∃ y : Int32, y = v6 + 1 := ⟨_, rfl⟩
  replace h := h x23 ex23
  refine lv_iinc (v := x23) (lv' := [(6, .int x23), (5, .int x22), (4, .int x21), (0, .ref (P 0)), (1, .int v1), (2, .int v2), (3, .int v3), (7, .int v7)]) hx hb dX8_cycles_118 hl (k := 6) rfl (by rw [ex23]; rfl) (by decide) rfl (fun ls hl => ?_)
  refine lv_goto (tgt := 78) hx hb dX8_cycles_121 (by decide) ?_
  exact hK78 _ _ _ _ _ _ _ _ _ _ h  hP hS (lv_sub hl [3, 4, 5, 6, 2, 1, 0] rfl)
set_option maxRecDepth 100000 in
set_option maxHeartbeats 4000000 in
theorem b_X8_cycles_78 {p : Program} {l : Launch} {e : Env} {s : State} {m : MethodId} {args : Array Value} {below : List Frame} {meth : Method} {c : Code} {dC : Nat → ClassId} {dI : Nat → Nat → Nat} {cA : Nat → ClassId} {adK adV P : Nat → Nat} (C : CtxX dC dI cA adK adV P p s m args meth c cX8_cycles 8 (some .int) RX8) {post : Int32 → St → Prop}  : ∀ (n : Nat) (v1 : Int32) (v2 : Int32) (v3 : Int32) (v4 : Int32) (v5 : Int32) (v6 : Int32) (S : St) (H : Heap) (locs : List Loc) (ls : Array Slot), w_X8_cycles_78 post n v1 v2 v3 v4 v5 v6 S → VX dC dI cA P S H → va_S (PA 56 P) s.heap H locs → lv_has ls 8 [(0, .ref (P 0)), (1, .int v1), (2, .int v2), (3, .int v3), (4, .int v4), (5, .int v5), (6, .int v6)] → W p l e ({ frames := 2, cells := 0, slots := 0, locals := 47 } : Room) s m args below meth c H locs 0 0 (MQ below (va_Qi post (fun u t => VX dC dI cA P u t.heap) (PA 56 P)) args s 0 0 (PA 56 P)) (F0 m 78 ls []) := by
  have C := C
  obtain ⟨hI, hKX, ⟨hx, hb, hml, hown, hts⟩, hr, hlocks⟩ := id C
  have hK := hKX.1
  intro n
  induction n with
  | zero =>
    intro v1 v2 v3 v4 v5 v6 S H locs ls h hP hS hl
    simp only [w_X8_cycles_78] at h
  | succ n ih =>
    intro v1 v2 v3 v4 v5 v6 S H locs ls h hP hS hl
    rw [w_X8_cycles_78] at h
    refine lv_iload hx hb dX8_cycles_78 (lv_at hl 6 rfl) ?_
    refine lv_iload_n hx hb dX8_cycles_80 rfl (lv_at hl 2 rfl) ?_
    refine lv_icmp_ge (tgt := 124) hx hb dX8_cycles_81 (by decide) (fun c16 => ?_) (fun c16 => ?_)
    · replace h := h.1 c16
      refine lv_iload_n hx hb dX8_cycles_124 rfl (lv_at hl 3 rfl) ?_
      refine lv_if_ne (tgt := 133) hx hb dX8_cycles_125 (by decide) (fun c17 => ?_) (fun c17 => ?_)
      · replace h := h.2 c17
        refine lv_iload hx hb dX8_cycles_133 (lv_at hl 5 rfl) ?_
        exact g_iret hx hb hr hlocks h hP hS dX8_cycles_135
      · replace h := h.1 c17
        refine lv_iload hx hb dX8_cycles_128 (lv_at hl 4 rfl) ?_
        refine lv_goto (tgt := 135) hx hb dX8_cycles_130 (by decide) ?_
        exact g_iret hx hb hr hlocks h hP hS dX8_cycles_135
    · replace h := h.2 c16
      refine lv_aload_n hx hb dX8_cycles_84 rfl (lv_at hl 0 rfl) ?_
      refine lv_iload hx hb dX8_cycles_85 (lv_at hl 6 rfl) ?_
      refine lv_iload_n hx hb dX8_cycles_87 rfl (lv_at hl 1 rfl) ?_
      refine lv_iload_n hx hb dX8_cycles_88 rfl (lv_at hl 2 rfl) ?_
      refine va_calli (va_runV (As := [.int _, .int _, .int _]) (rest := []) ⟨hx, hb, hml, hown, hts⟩ (c_X8_markRing l hI h) (cwV 3 hts gv_X8_179 rfl rfl rfl hv_X8_markRing ⟨Nat.le_of_ble_eq_true rfl, Nat.le_of_ble_eq_true rfl⟩) (preV_X hKX hP hS (kX_lt (rfl : kdX 0 = 8)) (eX8 (rfl : kdX 0 = 8)) rfl) rfl rfl hl.1 rfl (lv_room (Nat.le_of_ble_eq_true rfl)) dX8_cycles_89 ⟨Nat.le_of_ble_eq_true rfl, Nat.le_of_ble_eq_true rfl⟩) hS (fun _ _ h => h) (fun _ h => h) (fun r19 S18 t H locs ht _ h hB _ _ hS => ?_)
      have hP : VX dC dI cA P S18 H := by rw [← ht]; exact hB
      refine lv_istore (lv' := [(7, .int r19), (0, .ref (P 0)), (1, .int v1), (2, .int v2), (3, .int v3), (4, .int v4), (5, .int v5), (6, .int v6)]) hx hb dX8_cycles_92 hl (by decide) rfl (fun ls hl => ?_)
      refine lv_iload hx hb dX8_cycles_94 (lv_at hl 5 rfl) ?_
      refine lv_iload hx hb dX8_cycles_96 (lv_at hl 0 rfl) ?_
      refine lv_if_le (tgt := 105) hx hb dX8_cycles_98 (by decide) (fun c20 => ?_) (fun c20 => ?_)
      · replace h := h.1 c20
        refine lv_iconst (v := 0) hx hb dX8_cycles_105 (by decide) ?_
        exact b_X8_cycles_106 C ih _ _ _ _ _ _ _ _ _ _ _ _ h  hP hS (lv_sub hl [1, 2, 3, 4, 6, 7, 0] rfl)
      · replace h := h.2 c20
        refine lv_iconst (v := 1) hx hb dX8_cycles_101 (by decide) ?_
        refine lv_goto (tgt := 106) hx hb dX8_cycles_102 (by decide) ?_
        exact b_X8_cycles_106 C ih _ _ _ _ _ _ _ _ _ _ _ _ h  hP hS (lv_sub hl [1, 2, 3, 4, 6, 7, 0] rfl)
set_option maxRecDepth 100000 in
set_option maxHeartbeats 4000000 in
theorem b_X8_cycles_47 {p : Program} {l : Launch} {e : Env} {s : State} {m : MethodId} {args : Array Value} {below : List Frame} {meth : Method} {c : Code} {dC : Nat → ClassId} {dI : Nat → Nat → Nat} {cA : Nat → ClassId} {adK adV P : Nat → Nat} (C : CtxX dC dI cA adK adV P p s m args meth c cX8_cycles 8 (some .int) RX8) {post : Int32 → St → Prop}  : ∀ (n : Nat) (v1 : Int32) (v2 : Int32) (v3 : Int32) (v4 : Int32) (S : St) (H : Heap) (locs : List Loc) (ls : Array Slot), w_X8_cycles_47 post n v1 v2 v3 v4 S → VX dC dI cA P S H → va_S (PA 56 P) s.heap H locs → lv_has ls 8 [(0, .ref (P 0)), (1, .int v1), (2, .int v2), (3, .int v3), (4, .int v4)] → W p l e ({ frames := 2, cells := 0, slots := 0, locals := 47 } : Room) s m args below meth c H locs 0 0 (MQ below (va_Qi post (fun u t => VX dC dI cA P u t.heap) (PA 56 P)) args s 0 0 (PA 56 P)) (F0 m 47 ls []) := by
  have C := C
  obtain ⟨hI, hKX, ⟨hx, hb, hml, hown, hts⟩, hr, hlocks⟩ := id C
  have hK := hKX.1
  intro n
  induction n with
  | zero =>
    intro v1 v2 v3 v4 S H locs ls h hP hS hl
    simp only [w_X8_cycles_47] at h
  | succ n ih =>
    intro v1 v2 v3 v4 S H locs ls h hP hS hl
    rw [w_X8_cycles_47] at h
    refine lv_iload hx hb dX8_cycles_47 (lv_at hl 4 rfl) ?_
    refine lv_iload_n hx hb dX8_cycles_49 rfl (lv_at hl 2 rfl) ?_
    refine lv_icmp_ge (tgt := 69) hx hb dX8_cycles_50 (by decide) (fun c15 => ?_) (fun c15 => ?_)
    · replace h := h.1 c15
      refine lv_iconst (v := 0) hx hb dX8_cycles_69 (by decide) ?_
      refine lv_istore (lv' := [(4, .int 0), (0, .ref (P 0)), (1, .int v1), (2, .int v2), (3, .int v3)]) hx hb dX8_cycles_70 hl (by decide) rfl (fun ls hl => ?_)
      refine lv_iconst (v := 0) hx hb dX8_cycles_72 (by decide) ?_
      refine lv_istore (lv' := [(5, .int 0), (4, .int 0), (0, .ref (P 0)), (1, .int v1), (2, .int v2), (3, .int v3)]) hx hb dX8_cycles_73 hl (by decide) rfl (fun ls hl => ?_)
      refine lv_iconst (v := 1) hx hb dX8_cycles_75 (by decide) ?_
      refine lv_istore (lv' := [(6, .int 1), (5, .int 0), (4, .int 0), (0, .ref (P 0)), (1, .int v1), (2, .int v2), (3, .int v3)]) hx hb dX8_cycles_76 hl (by decide) rfl (fun ls hl => ?_)
      obtain ⟨n24, h⟩ := h
      exact b_X8_cycles_78 C n24 _ _ _ _ _ _ _ _ _ _ h  hP hS (lv_sub hl [3, 4, 5, 6, 2, 1, 0] rfl)
    · replace h := h.2 c15
      refine lv_aload_n hx hb dX8_cycles_53 rfl (lv_at hl 0 rfl) ?_
      refine g_get (v := .ref (P 55)) hx hb hts inG_X8 hown hK hP (kX_lt (rfl : kdX 0 = 8)) (eX8 (rfl : kdX 0 = 8)) rfl 11 (by decide) G_fl_X8_76 rfl rfl dX8_cycles_54 ?_
      refine lv_iload hx hb dX8_cycles_57 (lv_at hl 4 rfl) ?_
      refine lv_iconst (v := 0) hx hb dX8_cycles_59 (by decide) ?_
      refine va_callv (va_runS (As := [.ref _, .int _, .int _]) (rest := []) ⟨hx, hb, hml, hown, hts⟩ (c_X8_setAt l hI (rfl : kdX 55 = 10) h) (va_cwS 3 hts gs_X8_175 rfl rfl rfl hd_X8_setAt ⟨Nat.le_of_ble_eq_true rfl, Nat.le_of_ble_eq_true rfl⟩) (preS_X hKX hP hS) rfl rfl hl.1 rfl (lv_room (Nat.le_of_ble_eq_true rfl)) dX8_cycles_60 ⟨Nat.le_of_ble_eq_true rfl, Nat.le_of_ble_eq_true rfl⟩) hS (fun _ _ h => h) (fun _ h => h) (fun S25 t H locs ht _ h hB _ _ hS => ?_)
      have hP : VX dC dI cA P S25 H := by rw [← ht]; exact hB
      obtain ⟨x26, ex26⟩ : ∃ y : Int32, y = v4 + 1 := ⟨_, rfl⟩
      replace h := h x26 ex26
      refine lv_iinc (v := x26) (lv' := [(4, .int x26), (0, .ref (P 0)), (1, .int v1), (2, .int v2), (3, .int v3)]) hx hb dX8_cycles_63 hl (k := 4) rfl (by rw [ex26]; rfl) (by decide) rfl (fun ls hl => ?_)
      refine lv_goto (tgt := 47) hx hb dX8_cycles_66 (by decide) ?_
      exact ih _ _ _ _ _ _ _ _ h  hP hS (lv_sub hl [1, 2, 3, 4, 0] rfl)
set_option maxRecDepth 100000 in
set_option maxHeartbeats 4000000 in
theorem e_X8_cycles {p : Program} {l : Launch} {e : Env} {s : State} {m : MethodId} {args : Array Value} {below : List Frame} {meth : Method} {c : Code} {dC : Nat → ClassId} {dI : Nat → Nat → Nat} {cA : Nat → ClassId} {adK adV P : Nat → Nat} (C : CtxX dC dI cA adK adV P p s m args meth c cX8_cycles 8 (some .int) RX8) {post : Int32 → St → Prop} : ∀ (v1 : Int32) (v2 : Int32) (v3 : Int32) (S : St) (H : Heap) (locs : List Loc) (ls : Array Slot), w_X8_cycles v1 v2 v3 post S → VX dC dI cA P S H → va_S (PA 56 P) s.heap H locs → lv_has ls 8 [(0, .ref (P 0)), (1, .int v1), (2, .int v2), (3, .int v3)] → W p l e ({ frames := 2, cells := 0, slots := 0, locals := 47 } : Room) s m args below meth c H locs 0 0 (MQ below (va_Qi post (fun u t => VX dC dI cA P u t.heap) (PA 56 P)) args s 0 0 (PA 56 P)) (F0 m 0 ls []) := by
  have C := C
  obtain ⟨hI, hKX, ⟨hx, hb, hml, hown, hts⟩, hr, hlocks⟩ := id C
  have hK := hKX.1
  intro v1 v2 v3 S H locs ls h hP hS hl
  rw [w_X8_cycles] at h
  refine lv_iload_n hx hb dX8_cycles_0 rfl (lv_at hl 1 rfl) ?_
  refine va_calli (va_runS (As := [.int _]) (rest := []) ⟨hx, hb, hml, hown, hts⟩ (c_X8_isBase l hI h) (va_cwS 1 hts gs_X8_85 rfl rfl rfl hd_X8_isBase ⟨Nat.le_of_ble_eq_true rfl, Nat.le_of_ble_eq_true rfl⟩) (preS_X hKX hP hS) rfl rfl hl.1 rfl (lv_room (Nat.le_of_ble_eq_true rfl)) dX8_cycles_1 ⟨Nat.le_of_ble_eq_true rfl, Nat.le_of_ble_eq_true rfl⟩) hS (fun _ _ h => h) (fun _ h => h) (fun r2 S1 t H locs ht _ h hB _ _ hS => ?_)
  have hP : VX dC dI cA P S1 H := by rw [← ht]; exact hB
  refine lv_if_eq (tgt := 27) hx hb dX8_cycles_4 (by decide) (fun c3 => ?_) (fun c3 => ?_)
  · replace h := h.1 c3
    refine lv_iconst (v := (-1)) hx hb dX8_cycles_27 (by decide) ?_
    exact g_iret hx hb hr hlocks h hP hS dX8_cycles_28
  · replace h := h.2 c3
    refine lv_iload_n hx hb dX8_cycles_7 rfl (lv_at hl 2 rfl) ?_
    refine lv_iconst (v := 2) hx hb dX8_cycles_8 (by decide) ?_
    refine lv_sipush (v := 999) hx hb dX8_cycles_9 (by decide) ?_
    refine va_calli (va_runS (As := [.int _, .int _, .int _]) (rest := []) ⟨hx, hb, hml, hown, hts⟩ (c_X8_isWithin l hI h) (va_cwS 3 hts gs_X8_81 rfl rfl rfl hd_X8_isWithin ⟨Nat.le_of_ble_eq_true rfl, Nat.le_of_ble_eq_true rfl⟩) (preS_X hKX hP hS) rfl rfl hl.1 rfl (lv_room (Nat.le_of_ble_eq_true rfl)) dX8_cycles_12 ⟨Nat.le_of_ble_eq_true rfl, Nat.le_of_ble_eq_true rfl⟩) hS (fun _ _ h => h) (fun _ h => h) (fun r5 S4 t H locs ht _ h hB _ _ hS => ?_)
    have hP : VX dC dI cA P S4 H := by rw [← ht]; exact hB
    refine lv_if_eq (tgt := 27) hx hb dX8_cycles_15 (by decide) (fun c6 => ?_) (fun c6 => ?_)
    · replace h := h.1 c6
      refine lv_iconst (v := (-1)) hx hb dX8_cycles_27 (by decide) ?_
      exact g_iret hx hb hr hlocks h hP hS dX8_cycles_28
    · replace h := h.2 c6
      refine lv_iload_n hx hb dX8_cycles_18 rfl (lv_at hl 3 rfl) ?_
      refine lv_iconst (v := 0) hx hb dX8_cycles_19 (by decide) ?_
      refine lv_iconst (v := 1) hx hb dX8_cycles_20 (by decide) ?_
      refine va_calli (va_runS (As := [.int _, .int _, .int _]) (rest := []) ⟨hx, hb, hml, hown, hts⟩ (c_X8_isWithin l hI h) (va_cwS 3 hts gs_X8_81 rfl rfl rfl hd_X8_isWithin ⟨Nat.le_of_ble_eq_true rfl, Nat.le_of_ble_eq_true rfl⟩) (preS_X hKX hP hS) rfl rfl hl.1 rfl (lv_room (Nat.le_of_ble_eq_true rfl)) dX8_cycles_21 ⟨Nat.le_of_ble_eq_true rfl, Nat.le_of_ble_eq_true rfl⟩) hS (fun _ _ h => h) (fun _ h => h) (fun r8 S7 t H locs ht _ h hB _ _ hS => ?_)
      have hP : VX dC dI cA P S7 H := by rw [← ht]; exact hB
      refine lv_if_ne (tgt := 29) hx hb dX8_cycles_24 (by decide) (fun c9 => ?_) (fun c9 => ?_)
      · replace h := h.2 c9
        refine lv_iload_n hx hb dX8_cycles_29 rfl (lv_at hl 1 rfl) ?_
        refine lv_i2l hx hb dX8_cycles_30 rfl ?_
        refine lv_iload_n hx hb dX8_cycles_31 rfl (lv_at hl 2 rfl) ?_
        refine lv_i2l hx hb dX8_cycles_32 rfl ?_
        replace h := h _ rfl
        replace h := h _ rfl
        refine va_calll (va_runS (As := [.long _, .long _]) (rest := []) ⟨hx, hb, hml, hown, hts⟩ (c_X8_commonDivisor l hI h) (va_cwS 2 hts gs_X8_119 rfl rfl rfl hd_X8_commonDivisor ⟨Nat.le_of_ble_eq_true rfl, Nat.le_of_ble_eq_true rfl⟩) (preS_X hKX hP hS) rfl rfl hl.1 rfl (lv_room (Nat.le_of_ble_eq_true rfl)) dX8_cycles_33 ⟨Nat.le_of_ble_eq_true rfl, Nat.le_of_ble_eq_true rfl⟩) hS (fun _ _ h => h) (fun _ h => h) (fun r13 S12 t H locs ht _ h hB _ _ hS => ?_)
        have hP : VX dC dI cA P S12 H := by rw [← ht]; exact hB
        refine lv_lconst (v := 1) hx hb dX8_cycles_36 (by decide) ?_
        refine W.lcmp hx hb dX8_cycles_37 ?_
        refine lv_if_le (tgt := 44) hx hb dX8_cycles_38 (by decide) (fun c14 => ?_) (fun c14 => ?_)
        · replace h := h.1 ((lg_cmp_le _ _).mp c14)
          refine lv_iconst (v := 0) hx hb dX8_cycles_44 (by decide) ?_
          refine lv_istore (lv' := [(4, .int 0), (0, .ref (P 0)), (1, .int v1), (2, .int v2), (3, .int v3)]) hx hb dX8_cycles_45 hl (by decide) rfl (fun ls hl => ?_)
          obtain ⟨n27, h⟩ := h
          exact b_X8_cycles_47 C n27 _ _ _ _ _ _ _ _ h  hP hS (lv_sub hl [1, 2, 3, 4, 0] rfl)
        · replace h := h.2 (fun z => c14 ((lg_cmp_le _ _).mpr z))
          refine lv_bipush (v := (-5)) hx hb dX8_cycles_41 (by decide) ?_
          exact g_iret hx hb hr hlocks h hP hS dX8_cycles_43
      · replace h := h.1 c9
        refine lv_iconst (v := (-1)) hx hb dX8_cycles_27 (by decide) ?_
        exact g_iret hx hb hr hlocks h hP hS dX8_cycles_28
set_option maxRecDepth 100000 in
set_option maxHeartbeats 4000000 in
theorem c_X8_cycles (l : Launch) {dC : Nat → ClassId} {dI : Nat → Nat → Nat} {cA : Nat → ClassId} {adK adV P : Nat → Nat} (hI : PInj 56 P) {v1 : Int32} {v2 : Int32} {v3 : Int32}  {post : Int32 → St → Prop} {S : St} (h : w_X8_cycles v1 v2 v3 post S) : Met l yX8_cycles (wW yX8_cycles cX8_cycles 8 (some .int)) ({ frames := 2, cells := 0, slots := 0, locals := 47 } : Room) (va_Pc [.ref (P 0), .int v1, .int v2, .int v3] (PreX dC dI cA adK adV P S)) (va_Qi post (fun u t => VX dC dI cA P u t.heap) (PA 56 P)) 0 0 (PA 56 P) := by
  refine Met.ofW (cc := cX8_cycles) (maxL := 8) (ret := (some .int)) (by decide) rfl ?_
  intro p e s m args below meth c s₁ B hml hv
  obtain ⟨rfl, hP, hKX⟩ := hv
  have hts : ∀ w ∈ G, w.before [.ref (P 0), .int v1, .int v2, .int v3].toArray s = true := fun w hw => atoms_spec (ws := wW yX8_cycles cX8_cycles 8 (some .int)) B.pre w (List.mem_cons_of_mem _ hw)
  have C : CtxX dC dI cA adK adV P p s m [.ref (P 0), .int v1, .int v2, .int v3].toArray meth c cX8_cycles 8 (some .int) RX8 := ⟨hI, hKX, ⟨B.exec, B.bytes, hml, findClass_of_methodNamed B.named, hts⟩, B.returns, B.notSynchronized⟩
  have hS : va_S (PA 56 P) s.heap s.heap [] := va_S.rf
  have hl := lv_entry ([.ref (P 0), .int v1, .int v2, .int v3]) (n := 8) (Nat.le_of_ble_eq_true rfl)
  rw [lg_entry_eq]
  generalize (lg_sl ([.ref (P 0), .int v1, .int v2, .int v3]) ++ List.replicate (8 - (lg_sl ([.ref (P 0), .int v1, .int v2, .int v3])).length) Slot.unset).toArray = ls at hl ⊢
  have hl : lv_has ls 8 [(0, .ref (P 0)), (1, .int v1), (2, .int v2), (3, .int v3)] := hl
  exact e_X8_cycles C _ _ _ _ _ _ _ h  hP hS hl
set_option maxRecDepth 100000 in
set_option maxHeartbeats 4000000 in
theorem b_X8_full_67 {p : Program} {l : Launch} {e : Env} {s : State} {m : MethodId} {args : Array Value} {below : List Frame} {meth : Method} {c : Code} {dC : Nat → ClassId} {dI : Nat → Nat → Nat} {cA : Nat → ClassId} {adK adV P : Nat → Nat} (C : CtxX dC dI cA adK adV P p s m args meth c cX8_full 10 (some .int) RX8) {post : Int32 → St → Prop}  : ∀ (n : Nat) (v1 : Int32) (v3 : Int32) (v4 : Int32) (v6 : Int32) (v7 : Int32) (v8 : Int32) (v9 : Int32) (S : St) (H : Heap) (locs : List Loc) (ls : Array Slot), w_X8_full_67 post n v1 v3 v4 v6 v7 v8 v9 S → VX dC dI cA P S H → va_S (PA 56 P) s.heap H locs → lv_has ls 10 [(0, .ref (P 0)), (1, .int v1), (3, .int v3), (4, .int v4), (6, .int v6), (7, .int v7), (8, .int v8), (9, .int v9)] → W p l e ({ frames := 2, cells := 0, slots := 0, locals := 54 } : Room) s m args below meth c H locs 0 0 (MQ below (va_Qi post (fun u t => VX dC dI cA P u t.heap) (PA 56 P)) args s 0 0 (PA 56 P)) (F0 m 67 ls []) := by
  have C := C
  obtain ⟨hI, hKX, ⟨hx, hb, hml, hown, hts⟩, hr, hlocks⟩ := id C
  have hK := hKX.1
  intro n
  induction n with
  | zero =>
    intro v1 v3 v4 v6 v7 v8 v9 S H locs ls h hP hS hl
    simp only [w_X8_full_67] at h
  | succ n ih =>
    intro v1 v3 v4 v6 v7 v8 v9 S H locs ls h hP hS hl
    rw [w_X8_full_67] at h
    refine lv_iload hx hb dX8_full_67 (lv_at hl 7 rfl) ?_
    refine lv_iload_n hx hb dX8_full_69 rfl (lv_at hl 2 rfl) ?_
    refine lv_icmp_gt (tgt := 121) hx hb dX8_full_70 (by decide) (fun c11 => ?_) (fun c11 => ?_)
    · replace h := h.1 c11
      refine lv_iload hx hb dX8_full_121 (lv_at hl 3 rfl) ?_
      refine lv_if_ne (tgt := 131) hx hb dX8_full_123 (by decide) (fun c12 => ?_) (fun c12 => ?_)
      · replace h := h.2 c12
        refine lv_iload hx hb dX8_full_131 (lv_at hl 3 rfl) ?_
        refine lv_iconst (v := 1) hx hb dX8_full_133 (by decide) ?_
        refine lv_icmp_ne (tgt := 142) hx hb dX8_full_134 (by decide) (fun c13 => ?_) (fun c13 => ?_)
        · replace h := h.2 c13
          refine lv_iload hx hb dX8_full_142 (lv_at hl 6 rfl) ?_
          exact g_iret hx hb hr hlocks h hP hS dX8_full_144
        · replace h := h.1 c13
          refine lv_iload hx hb dX8_full_137 (lv_at hl 5 rfl) ?_
          refine lv_goto (tgt := 144) hx hb dX8_full_139 (by decide) ?_
          exact g_iret hx hb hr hlocks h hP hS dX8_full_144
      · replace h := h.1 c12
        refine lv_iload hx hb dX8_full_126 (lv_at hl 4 rfl) ?_
        refine lv_goto (tgt := 144) hx hb dX8_full_128 (by decide) ?_
        exact g_iret hx hb hr hlocks h hP hS dX8_full_144
    · replace h := h.2 c11
      refine lv_aload_n hx hb dX8_full_73 rfl (lv_at hl 0 rfl) ?_
      refine g_get (v := .ref (P 54)) hx hb hts inG_X8 hown hK hP (kX_lt (rfl : kdX 0 = 8)) (eX8 (rfl : kdX 0 = 8)) rfl 10 (by decide) G_fl_X8_72 rfl rfl dX8_full_74 ?_
      refine lv_iconst (v := 1) hx hb dX8_full_77 (by decide) ?_
      refine lv_iload hx hb dX8_full_78 (lv_at hl 7 rfl) ?_
      refine lv_iload_n hx hb dX8_full_80 rfl (lv_at hl 1 rfl) ?_
      refine va_callv (va_runV (As := [.int _, .int _, .int _]) (rest := []) ⟨hx, hb, hml, hown, hts⟩ (c_X1_become l hI (rfl : kdX 54 = 1) h) (cwV 3 hts gv_X8_111 rfl rfl rfl hv_X1_become ⟨Nat.le_of_ble_eq_true rfl, Nat.le_of_ble_eq_true rfl⟩) (preV_X hKX hP hS (kX_lt (rfl : kdX 54 = 1)) (eX1 (rfl : kdX 54 = 1)) rfl) rfl rfl hl.1 rfl (lv_room (Nat.le_of_ble_eq_true rfl)) dX8_full_81 ⟨Nat.le_of_ble_eq_true rfl, Nat.le_of_ble_eq_true rfl⟩) hS (fun _ _ h => h) (fun _ h => h) (fun S14 t H locs ht _ h hB _ _ hS => ?_)
      have hP : VX dC dI cA P S14 H := by rw [← ht]; exact hB
      refine lv_aload_n hx hb dX8_full_84 rfl (lv_at hl 0 rfl) ?_
      refine g_get (v := .ref (P 54)) hx hb hts inG_X8 hown hK hP (kX_lt (rfl : kdX 0 = 8)) (eX8 (rfl : kdX 0 = 8)) rfl 10 (by decide) G_fl_X8_72 rfl rfl dX8_full_85 ?_
      refine va_calli (va_runV (As := []) (rest := []) ⟨hx, hb, hml, hown, hts⟩ (c_X1_isFullUnit l hI (rfl : kdX 54 = 1) h) (cwV 0 hts gv_X8_187 rfl rfl rfl hv_X1_isFullUnit ⟨Nat.le_of_ble_eq_true rfl, Nat.le_of_ble_eq_true rfl⟩) (preV_X hKX hP hS (kX_lt (rfl : kdX 54 = 1)) (eX1 (rfl : kdX 54 = 1)) rfl) rfl rfl hl.1 rfl (lv_room (Nat.le_of_ble_eq_true rfl)) dX8_full_88 ⟨Nat.le_of_ble_eq_true rfl, Nat.le_of_ble_eq_true rfl⟩) hS (fun _ _ h => h) (fun _ h => h) (fun r16 S15 t H locs ht _ h hB _ _ hS => ?_)
      have hP : VX dC dI cA P S15 H := by rw [← ht]; exact hB
      refine lv_if_eq (tgt := 115) hx hb dX8_full_91 (by decide) (fun c17 => ?_) (fun c17 => ?_)
      · replace h := h.1 c17
        obtain ⟨x18, ex18⟩ : ∃ y : Int32, y = v9 + 1 := ⟨_, rfl⟩
        replace h := h x18 ex18
        refine lv_iinc (v := x18) (lv' := [(9, .int x18), (0, .ref (P 0)), (1, .int v1), (3, .int v3), (4, .int v4), (6, .int v6), (7, .int v7), (8, .int v8)]) hx hb dX8_full_115 hl (k := 7) rfl (by rw [ex18]; rfl) (by decide) rfl (fun ls hl => ?_)
        refine lv_goto (tgt := 67) hx hb dX8_full_118 (by decide) ?_
        exact ih _ _ _ _ _ _ _ _ _ _ _ h  hP hS (lv_sub hl [1, 2, 3, 4, 5, 6, 7, 0] rfl)
      · replace h := h.2 c17
        refine lv_iload hx hb dX8_full_94 (lv_at hl 4 rfl) ?_
        refine lv_if_ne (tgt := 104) hx hb dX8_full_96 (by decide) (fun c19 => ?_) (fun c19 => ?_)
        · replace h := h.2 c19
          refine lv_iload hx hb dX8_full_104 (lv_at hl 5 rfl) ?_
          refine lv_istore (lv' := [(7, .int v7), (0, .ref (P 0)), (1, .int v1), (3, .int v3), (4, .int v4), (6, .int v6), (8, .int v8), (9, .int v9)]) hx hb dX8_full_106 hl (by decide) rfl (fun ls hl => ?_)
          refine lv_iload hx hb dX8_full_108 (lv_at hl 7 rfl) ?_
          refine lv_istore (lv' := [(8, .int v9), (7, .int v7), (0, .ref (P 0)), (1, .int v1), (3, .int v3), (4, .int v4), (6, .int v6), (9, .int v9)]) hx hb dX8_full_110 hl (by decide) rfl (fun ls hl => ?_)
          obtain ⟨x20, ex20⟩ : ∃ y : Int32, y = v6 + 1 := ⟨_, rfl⟩
          replace h := h x20 ex20
          refine lv_iinc (v := x20) (lv' := [(6, .int x20), (8, .int v9), (7, .int v7), (0, .ref (P 0)), (1, .int v1), (3, .int v3), (4, .int v4), (9, .int v9)]) hx hb dX8_full_112 hl (k := 6) rfl (by rw [ex20]; rfl) (by decide) rfl (fun ls hl => ?_)
          obtain ⟨x21, ex21⟩ : ∃ y : Int32, y = v9 + 1 := ⟨_, rfl⟩
          replace h := h x21 ex21
          refine lv_iinc (v := x21) (lv' := [(9, .int x21), (6, .int x20), (8, .int v9), (7, .int v7), (0, .ref (P 0)), (1, .int v1), (3, .int v3), (4, .int v4)]) hx hb dX8_full_115 hl (k := 7) rfl (by rw [ex21]; rfl) (by decide) rfl (fun ls hl => ?_)
          refine lv_goto (tgt := 67) hx hb dX8_full_118 (by decide) ?_
          exact ih _ _ _ _ _ _ _ _ _ _ _ h  hP hS (lv_sub hl [4, 5, 6, 7, 1, 3, 2, 0] rfl)
        · replace h := h.1 c19
          refine lv_iload hx hb dX8_full_99 (lv_at hl 7 rfl) ?_
          refine lv_goto (tgt := 106) hx hb dX8_full_101 (by decide) ?_
          refine lv_istore (lv' := [(7, .int v9), (0, .ref (P 0)), (1, .int v1), (3, .int v3), (4, .int v4), (6, .int v6), (8, .int v8), (9, .int v9)]) hx hb dX8_full_106 hl (by decide) rfl (fun ls hl => ?_)
          refine lv_iload hx hb dX8_full_108 (lv_at hl 7 rfl) ?_
          refine lv_istore (lv' := [(8, .int v9), (7, .int v9), (0, .ref (P 0)), (1, .int v1), (3, .int v3), (4, .int v4), (6, .int v6), (9, .int v9)]) hx hb dX8_full_110 hl (by decide) rfl (fun ls hl => ?_)
          obtain ⟨x22, ex22⟩ : ∃ y : Int32, y = v6 + 1 := ⟨_, rfl⟩
          replace h := h x22 ex22
          refine lv_iinc (v := x22) (lv' := [(6, .int x22), (8, .int v9), (7, .int v9), (0, .ref (P 0)), (1, .int v1), (3, .int v3), (4, .int v4), (9, .int v9)]) hx hb dX8_full_112 hl (k := 6) rfl (by rw [ex22]; rfl) (by decide) rfl (fun ls hl => ?_)
          obtain ⟨x23, ex23⟩ : ∃ y : Int32, y = v9 + 1 := ⟨_, rfl⟩
          replace h := h x23 ex23
          refine lv_iinc (v := x23) (lv' := [(9, .int x23), (6, .int x22), (8, .int v9), (7, .int v9), (0, .ref (P 0)), (1, .int v1), (3, .int v3), (4, .int v4)]) hx hb dX8_full_115 hl (k := 7) rfl (by rw [ex23]; rfl) (by decide) rfl (fun ls hl => ?_)
          refine lv_goto (tgt := 67) hx hb dX8_full_118 (by decide) ?_
          exact ih _ _ _ _ _ _ _ _ _ _ _ h  hP hS (lv_sub hl [4, 5, 6, 7, 1, 3, 2, 0] rfl)
set_option maxRecDepth 100000 in
set_option maxHeartbeats 4000000 in
theorem b_X8_full_27 {p : Program} {l : Launch} {e : Env} {s : State} {m : MethodId} {args : Array Value} {below : List Frame} {meth : Method} {c : Code} {dC : Nat → ClassId} {dI : Nat → Nat → Nat} {cA : Nat → ClassId} {adK adV P : Nat → Nat} (C : CtxX dC dI cA adK adV P p s m args meth c cX8_full 10 (some .int) RX8) {post : Int32 → St → Prop}  : ∀ (v1 : Int32) (v2 : Int32) (v3 : Int32) (v4 : Int32) (y0 : Int32) (S : St) (H : Heap) (locs : List Loc) (ls : Array Slot), w_X8_full_27 post v1 v2 v3 v4 y0 S → VX dC dI cA P S H → va_S (PA 56 P) s.heap H locs → lv_has ls 10 [(0, .ref (P 0)), (1, .int v1), (2, .int v2), (3, .int v3), (4, .int v4)] → W p l e ({ frames := 2, cells := 0, slots := 0, locals := 54 } : Room) s m args below meth c H locs 0 0 (MQ below (va_Qi post (fun u t => VX dC dI cA P u t.heap) (PA 56 P)) args s 0 0 (PA 56 P)) (F0 m 27 ls [.int y0]) := by
  have C := C
  obtain ⟨hI, hKX, ⟨hx, hb, hml, hown, hts⟩, hr, hlocks⟩ := id C
  have hK := hKX.1
  intro v1 v2 v3 v4 y0 S H locs ls h hP hS hl
  rw [w_X8_full_27] at h
  refine lv_istore (lv' := [(5, .int y0), (0, .ref (P 0)), (1, .int v1), (2, .int v2), (3, .int v3), (4, .int v4)]) hx hb dX8_full_27 hl (by decide) rfl (fun ls hl => ?_)
  refine lv_iload_n hx hb dX8_full_29 rfl (lv_at hl 2 rfl) ?_
  refine va_calli (va_runS (As := [.int _]) (rest := []) ⟨hx, hb, hml, hown, hts⟩ (c_X8_isBase l hI h) (va_cwS 1 hts gs_X8_85 rfl rfl rfl hd_X8_isBase ⟨Nat.le_of_ble_eq_true rfl, Nat.le_of_ble_eq_true rfl⟩) (preS_X hKX hP hS) rfl rfl hl.1 rfl (lv_room (Nat.le_of_ble_eq_true rfl)) dX8_full_30 ⟨Nat.le_of_ble_eq_true rfl, Nat.le_of_ble_eq_true rfl⟩) hS (fun _ _ h => h) (fun _ h => h) (fun r5 S4 t H locs ht _ h hB _ _ hS => ?_)
  have hP : VX dC dI cA P S4 H := by rw [← ht]; exact hB
  refine lv_if_eq (tgt := 51) hx hb dX8_full_33 (by decide) (fun c6 => ?_) (fun c6 => ?_)
  · replace h := h.1 c6
    refine lv_iconst (v := (-1)) hx hb dX8_full_51 (by decide) ?_
    exact g_iret hx hb hr hlocks h hP hS dX8_full_52
  · replace h := h.2 c6
    refine lv_iload hx hb dX8_full_36 (lv_at hl 0 rfl) ?_
    refine lv_if_eq (tgt := 51) hx hb dX8_full_38 (by decide) (fun c7 => ?_) (fun c7 => ?_)
    · replace h := h.1 c7
      refine lv_iconst (v := (-1)) hx hb dX8_full_51 (by decide) ?_
      exact g_iret hx hb hr hlocks h hP hS dX8_full_52
    · replace h := h.2 c7
      refine lv_iload hx hb dX8_full_41 (lv_at hl 5 rfl) ?_
      refine lv_iconst (v := 0) hx hb dX8_full_43 (by decide) ?_
      refine lv_iconst (v := 2) hx hb dX8_full_44 (by decide) ?_
      refine va_calli (va_runS (As := [.int _, .int _, .int _]) (rest := []) ⟨hx, hb, hml, hown, hts⟩ (c_X8_isWithin l hI h) (va_cwS 3 hts gs_X8_81 rfl rfl rfl hd_X8_isWithin ⟨Nat.le_of_ble_eq_true rfl, Nat.le_of_ble_eq_true rfl⟩) (preS_X hKX hP hS) rfl rfl hl.1 rfl (lv_room (Nat.le_of_ble_eq_true rfl)) dX8_full_45 ⟨Nat.le_of_ble_eq_true rfl, Nat.le_of_ble_eq_true rfl⟩) hS (fun _ _ h => h) (fun _ h => h) (fun r9 S8 t H locs ht _ h hB _ _ hS => ?_)
      have hP : VX dC dI cA P S8 H := by rw [← ht]; exact hB
      refine lv_if_ne (tgt := 53) hx hb dX8_full_48 (by decide) (fun c10 => ?_) (fun c10 => ?_)
      · replace h := h.2 c10
        refine lv_iconst (v := 0) hx hb dX8_full_53 (by decide) ?_
        refine lv_istore (lv' := [(6, .int 0), (5, .int y0), (0, .ref (P 0)), (1, .int v1), (2, .int v2), (3, .int v3), (4, .int v4)]) hx hb dX8_full_54 hl (by decide) rfl (fun ls hl => ?_)
        refine lv_bipush (v := (-2)) hx hb dX8_full_56 (by decide) ?_
        refine lv_istore (lv' := [(7, .int (-2)), (6, .int 0), (5, .int y0), (0, .ref (P 0)), (1, .int v1), (2, .int v2), (3, .int v3), (4, .int v4)]) hx hb dX8_full_58 hl (by decide) rfl (fun ls hl => ?_)
        refine lv_bipush (v := (-2)) hx hb dX8_full_60 (by decide) ?_
        refine lv_istore (lv' := [(8, .int (-2)), (7, .int (-2)), (6, .int 0), (5, .int y0), (0, .ref (P 0)), (1, .int v1), (2, .int v2), (3, .int v3), (4, .int v4)]) hx hb dX8_full_62 hl (by decide) rfl (fun ls hl => ?_)
        refine lv_iload_n hx hb dX8_full_64 rfl (lv_at hl 6 rfl) ?_
        refine lv_istore (lv' := [(9, .int v2), (8, .int (-2)), (7, .int (-2)), (6, .int 0), (5, .int y0), (0, .ref (P 0)), (1, .int v1), (2, .int v2), (3, .int v3), (4, .int v4)]) hx hb dX8_full_65 hl (by decide) rfl (fun ls hl => ?_)
        obtain ⟨n24, h⟩ := h
        exact b_X8_full_67 C n24 _ _ _ _ _ _ _ _ _ _ _ h  hP hS (lv_sub hl [5, 6, 8, 9, 3, 2, 1, 0] rfl)
      · replace h := h.1 c10
        refine lv_iconst (v := (-1)) hx hb dX8_full_51 (by decide) ?_
        exact g_iret hx hb hr hlocks h hP hS dX8_full_52
set_option maxRecDepth 100000 in
set_option maxHeartbeats 4000000 in
theorem b_X8_full_26 {p : Program} {l : Launch} {e : Env} {s : State} {m : MethodId} {args : Array Value} {below : List Frame} {meth : Method} {c : Code} {dC : Nat → ClassId} {dI : Nat → Nat → Nat} {cA : Nat → ClassId} {adK adV P : Nat → Nat} (C : CtxX dC dI cA adK adV P p s m args meth c cX8_full 10 (some .int) RX8) {post : Int32 → St → Prop}  : ∀ (v1 : Int32) (v2 : Int32) (v3 : Int32) (v4 : Int32) (S : St) (H : Heap) (locs : List Loc) (ls : Array Slot), w_X8_full_26 post v1 v2 v3 v4 S → VX dC dI cA P S H → va_S (PA 56 P) s.heap H locs → lv_has ls 10 [(0, .ref (P 0)), (1, .int v1), (2, .int v2), (3, .int v3), (4, .int v4)] → W p l e ({ frames := 2, cells := 0, slots := 0, locals := 54 } : Room) s m args below meth c H locs 0 0 (MQ below (va_Qi post (fun u t => VX dC dI cA P u t.heap) (PA 56 P)) args s 0 0 (PA 56 P)) (F0 m 26 ls []) := by
  have C := C
  obtain ⟨hI, hKX, ⟨hx, hb, hml, hown, hts⟩, hr, hlocks⟩ := id C
  have hK := hKX.1
  intro v1 v2 v3 v4 S H locs ls h hP hS hl
  rw [w_X8_full_26] at h
  refine lv_iconst (v := 0) hx hb dX8_full_26 (by decide) ?_
  exact b_X8_full_27 C _ _ _ _ _ _ _ _ _ h  hP hS (lv_sub hl [0, 1, 2, 3, 4] rfl)
set_option maxRecDepth 100000 in
set_option maxHeartbeats 4000000 in
theorem e_X8_full {p : Program} {l : Launch} {e : Env} {s : State} {m : MethodId} {args : Array Value} {below : List Frame} {meth : Method} {c : Code} {dC : Nat → ClassId} {dI : Nat → Nat → Nat} {cA : Nat → ClassId} {adK adV P : Nat → Nat} (C : CtxX dC dI cA adK adV P p s m args meth c cX8_full 10 (some .int) RX8) {post : Int32 → St → Prop} : ∀ (v1 : Int32) (v2 : Int32) (v3 : Int32) (v4 : Int32) (S : St) (H : Heap) (locs : List Loc) (ls : Array Slot), w_X8_full v1 v2 v3 v4 post S → VX dC dI cA P S H → va_S (PA 56 P) s.heap H locs → lv_has ls 10 [(0, .ref (P 0)), (1, .int v1), (2, .int v2), (3, .int v3), (4, .int v4)] → W p l e ({ frames := 2, cells := 0, slots := 0, locals := 54 } : Room) s m args below meth c H locs 0 0 (MQ below (va_Qi post (fun u t => VX dC dI cA P u t.heap) (PA 56 P)) args s 0 0 (PA 56 P)) (F0 m 0 ls []) := by
  have C := C
  obtain ⟨hI, hKX, ⟨hx, hb, hml, hown, hts⟩, hr, hlocks⟩ := id C
  have hK := hKX.1
  intro v1 v2 v3 v4 S H locs ls h hP hS hl
  rw [w_X8_full] at h
  refine lv_iload_n hx hb dX8_full_0 rfl (lv_at hl 2 rfl) ?_
  refine lv_iconst (v := 2) hx hb dX8_full_1 (by decide) ?_
  refine lv_sipush (v := 999) hx hb dX8_full_2 (by decide) ?_
  refine va_calli (va_runS (As := [.int _, .int _, .int _]) (rest := []) ⟨hx, hb, hml, hown, hts⟩ (c_X8_isWithin l hI h) (va_cwS 3 hts gs_X8_81 rfl rfl rfl hd_X8_isWithin ⟨Nat.le_of_ble_eq_true rfl, Nat.le_of_ble_eq_true rfl⟩) (preS_X hKX hP hS) rfl rfl hl.1 rfl (lv_room (Nat.le_of_ble_eq_true rfl)) dX8_full_5 ⟨Nat.le_of_ble_eq_true rfl, Nat.le_of_ble_eq_true rfl⟩) hS (fun _ _ h => h) (fun _ h => h) (fun r2 S1 t H locs ht _ h hB _ _ hS => ?_)
  have hP : VX dC dI cA P S1 H := by rw [← ht]; exact hB
  refine lv_if_eq (tgt := 26) hx hb dX8_full_8 (by decide) (fun c3 => ?_) (fun c3 => ?_)
  · replace h := h.1 c3
    exact b_X8_full_26 C _ _ _ _ _ _ _ _ h  hP hS (lv_sub hl [0, 1, 2, 3, 4] rfl)
  · replace h := h.2 c3
    refine lv_iload_n hx hb dX8_full_11 rfl (lv_at hl 3 rfl) ?_
    refine lv_iload_n hx hb dX8_full_12 rfl (lv_at hl 2 rfl) ?_
    refine lv_sipush (v := 999) hx hb dX8_full_13 (by decide) ?_
    refine va_calli (va_runS (As := [.int _, .int _, .int _]) (rest := []) ⟨hx, hb, hml, hown, hts⟩ (c_X8_isWithin l hI h) (va_cwS 3 hts gs_X8_81 rfl rfl rfl hd_X8_isWithin ⟨Nat.le_of_ble_eq_true rfl, Nat.le_of_ble_eq_true rfl⟩) (preS_X hKX hP hS) rfl rfl hl.1 rfl (lv_room (Nat.le_of_ble_eq_true rfl)) dX8_full_16 ⟨Nat.le_of_ble_eq_true rfl, Nat.le_of_ble_eq_true rfl⟩) hS (fun _ _ h => h) (fun _ h => h) (fun r26 S25 t H locs ht _ h hB _ _ hS => ?_)
    have hP : VX dC dI cA P S25 H := by rw [← ht]; exact hB
    refine lv_if_eq (tgt := 26) hx hb dX8_full_19 (by decide) (fun c27 => ?_) (fun c27 => ?_)
    · replace h := h.1 c27
      exact b_X8_full_26 C _ _ _ _ _ _ _ _ h  hP hS (lv_sub hl [0, 1, 2, 3, 4] rfl)
    · replace h := h.2 c27
      refine lv_iconst (v := 1) hx hb dX8_full_22 (by decide) ?_
      refine lv_goto (tgt := 27) hx hb dX8_full_23 (by decide) ?_
      exact b_X8_full_27 C _ _ _ _ _ _ _ _ _ h  hP hS (lv_sub hl [0, 1, 2, 3, 4] rfl)
set_option maxRecDepth 100000 in
set_option maxHeartbeats 4000000 in
theorem c_X8_full (l : Launch) {dC : Nat → ClassId} {dI : Nat → Nat → Nat} {cA : Nat → ClassId} {adK adV P : Nat → Nat} (hI : PInj 56 P) {v1 : Int32} {v2 : Int32} {v3 : Int32} {v4 : Int32}  {post : Int32 → St → Prop} {S : St} (h : w_X8_full v1 v2 v3 v4 post S) : Met l yX8_full (wW yX8_full cX8_full 10 (some .int)) ({ frames := 2, cells := 0, slots := 0, locals := 54 } : Room) (va_Pc [.ref (P 0), .int v1, .int v2, .int v3, .int v4] (PreX dC dI cA adK adV P S)) (va_Qi post (fun u t => VX dC dI cA P u t.heap) (PA 56 P)) 0 0 (PA 56 P) := by
  refine Met.ofW (cc := cX8_full) (maxL := 10) (ret := (some .int)) (by decide) rfl ?_
  intro p e s m args below meth c s₁ B hml hv
  obtain ⟨rfl, hP, hKX⟩ := hv
  have hts : ∀ w ∈ G, w.before [.ref (P 0), .int v1, .int v2, .int v3, .int v4].toArray s = true := fun w hw => atoms_spec (ws := wW yX8_full cX8_full 10 (some .int)) B.pre w (List.mem_cons_of_mem _ hw)
  have C : CtxX dC dI cA adK adV P p s m [.ref (P 0), .int v1, .int v2, .int v3, .int v4].toArray meth c cX8_full 10 (some .int) RX8 := ⟨hI, hKX, ⟨B.exec, B.bytes, hml, findClass_of_methodNamed B.named, hts⟩, B.returns, B.notSynchronized⟩
  have hS : va_S (PA 56 P) s.heap s.heap [] := va_S.rf
  have hl := lv_entry ([.ref (P 0), .int v1, .int v2, .int v3, .int v4]) (n := 10) (Nat.le_of_ble_eq_true rfl)
  rw [lg_entry_eq]
  generalize (lg_sl ([.ref (P 0), .int v1, .int v2, .int v3, .int v4]) ++ List.replicate (10 - (lg_sl ([.ref (P 0), .int v1, .int v2, .int v3, .int v4])).length) Slot.unset).toArray = ls at hl ⊢
  have hl : lv_has ls 10 [(0, .ref (P 0)), (1, .int v1), (2, .int v2), (3, .int v3), (4, .int v4)] := hl
  exact e_X8_full C _ _ _ _ _ _ _ _ h  hP hS hl
set_option maxRecDepth 100000 in
set_option maxHeartbeats 4000000 in
theorem e_X8_list {p : Program} {l : Launch} {e : Env} {s : State} {m : MethodId} {args : Array Value} {below : List Frame} {meth : Method} {c : Code} {dC : Nat → ClassId} {dI : Nat → Nat → Nat} {cA : Nat → ClassId} {adK adV P : Nat → Nat} (C : CtxX dC dI cA adK adV P p s m args meth c cX8_list 3 (some .int) RX8) {post : Int32 → St → Prop} : ∀ (v1 : Int32) (v2 : Int32) (S : St) (H : Heap) (locs : List Loc) (ls : Array Slot), w_X8_list v1 v2 post S → VX dC dI cA P S H → va_S (PA 56 P) s.heap H locs → lv_has ls 3 [(0, .ref (P 0)), (1, .int v1), (2, .int v2)] → W p l e ({ frames := 2, cells := 0, slots := 0, locals := 45 } : Room) s m args below meth c H locs 0 0 (MQ below (va_Qi post (fun u t => VX dC dI cA P u t.heap) (PA 56 P)) args s 0 0 (PA 56 P)) (F0 m 0 ls []) := by
  have C := C
  obtain ⟨hI, hKX, ⟨hx, hb, hml, hown, hts⟩, hr, hlocks⟩ := id C
  have hK := hKX.1
  intro v1 v2 S H locs ls h hP hS hl
  rw [w_X8_list] at h
  refine lv_iload_n hx hb dX8_list_0 rfl (lv_at hl 1 rfl) ?_
  refine lv_iconst (v := 2) hx hb dX8_list_1 (by decide) ?_
  refine lv_sipush (v := 400) hx hb dX8_list_2 (by decide) ?_
  refine va_calli (va_runS (As := [.int _, .int _, .int _]) (rest := []) ⟨hx, hb, hml, hown, hts⟩ (c_X8_isWithin l hI h) (va_cwS 3 hts gs_X8_81 rfl rfl rfl hd_X8_isWithin ⟨Nat.le_of_ble_eq_true rfl, Nat.le_of_ble_eq_true rfl⟩) (preS_X hKX hP hS) rfl rfl hl.1 rfl (lv_room (Nat.le_of_ble_eq_true rfl)) dX8_list_5 ⟨Nat.le_of_ble_eq_true rfl, Nat.le_of_ble_eq_true rfl⟩) hS (fun _ _ h => h) (fun _ h => h) (fun r2 S1 t H locs ht _ h hB _ _ hS => ?_)
  have hP : VX dC dI cA P S1 H := by rw [← ht]; exact hB
  refine lv_if_eq (tgt := 18) hx hb dX8_list_8 (by decide) (fun c3 => ?_) (fun c3 => ?_)
  · replace h := h.1 c3
    refine lv_iconst (v := (-1)) hx hb dX8_list_18 (by decide) ?_
    exact g_iret hx hb hr hlocks h hP hS dX8_list_19
  · replace h := h.2 c3
    refine lv_iload_n hx hb dX8_list_11 rfl (lv_at hl 2 rfl) ?_
    refine va_calli (va_runS (As := [.int _]) (rest := []) ⟨hx, hb, hml, hown, hts⟩ (c_X8_isBase l hI h) (va_cwS 1 hts gs_X8_85 rfl rfl rfl hd_X8_isBase ⟨Nat.le_of_ble_eq_true rfl, Nat.le_of_ble_eq_true rfl⟩) (preS_X hKX hP hS) rfl rfl hl.1 rfl (lv_room (Nat.le_of_ble_eq_true rfl)) dX8_list_12 ⟨Nat.le_of_ble_eq_true rfl, Nat.le_of_ble_eq_true rfl⟩) hS (fun _ _ h => h) (fun _ h => h) (fun r5 S4 t H locs ht _ h hB _ _ hS => ?_)
    have hP : VX dC dI cA P S4 H := by rw [← ht]; exact hB
    refine lv_if_ne (tgt := 20) hx hb dX8_list_15 (by decide) (fun c6 => ?_) (fun c6 => ?_)
    · replace h := h.2 c6
      refine lv_aload_n hx hb dX8_list_20 rfl (lv_at hl 0 rfl) ?_
      refine g_get (v := .ref (P 21)) hx hb hts inG_X8 hown hK hP (kX_lt (rfl : kdX 0 = 8)) (eX8 (rfl : kdX 0 = 8)) rfl 1 (by decide) G_fl_X8_21 rfl rfl dX8_list_21 ?_
      refine lv_iload_n hx hb dX8_list_24 rfl (lv_at hl 1 rfl) ?_
      refine lv_iload_n hx hb dX8_list_25 rfl (lv_at hl 2 rfl) ?_
      refine va_callv (va_runV (As := [.int _, .int _]) (rest := []) ⟨hx, hb, hml, hown, hts⟩ (c_X0_fillTo l hI (rfl : kdX 21 = 0) h) (cwV 2 hts gv_X8_191 rfl rfl rfl hv_X0_fillTo ⟨Nat.le_of_ble_eq_true rfl, Nat.le_of_ble_eq_true rfl⟩) (preV_X hKX hP hS (kX_lt (rfl : kdX 21 = 0)) (eX0 (rfl : kdX 21 = 0)) rfl) rfl rfl hl.1 rfl (lv_room (Nat.le_of_ble_eq_true rfl)) dX8_list_26 ⟨Nat.le_of_ble_eq_true rfl, Nat.le_of_ble_eq_true rfl⟩) hS (fun _ _ h => h) (fun _ h => h) (fun S7 t H locs ht _ h hB _ _ hS => ?_)
      have hP : VX dC dI cA P S7 H := by rw [← ht]; exact hB
      refine lv_aload_n hx hb dX8_list_29 rfl (lv_at hl 0 rfl) ?_
      refine g_get (v := .ref (P 21)) hx hb hts inG_X8 hown hK hP (kX_lt (rfl : kdX 0 = 8)) (eX8 (rfl : kdX 0 = 8)) rfl 1 (by decide) G_fl_X8_21 rfl rfl dX8_list_30 ?_
      refine g_get (v := .int (S7.1 21 1)) hx hb hts inG_X0 hown hK hP (kX_lt (rfl : kdX 21 = 0)) (eX0 (rfl : kdX 21 = 0)) rfl 1 (by decide) G_fl_X8_195 rfl rfl dX8_list_33 ?_
      exact g_iret hx hb hr hlocks h hP hS dX8_list_36
    · replace h := h.1 c6
      refine lv_iconst (v := (-1)) hx hb dX8_list_18 (by decide) ?_
      exact g_iret hx hb hr hlocks h hP hS dX8_list_19
set_option maxRecDepth 100000 in
set_option maxHeartbeats 4000000 in
theorem c_X8_list (l : Launch) {dC : Nat → ClassId} {dI : Nat → Nat → Nat} {cA : Nat → ClassId} {adK adV P : Nat → Nat} (hI : PInj 56 P) {v1 : Int32} {v2 : Int32}  {post : Int32 → St → Prop} {S : St} (h : w_X8_list v1 v2 post S) : Met l yX8_list (wW yX8_list cX8_list 3 (some .int)) ({ frames := 2, cells := 0, slots := 0, locals := 45 } : Room) (va_Pc [.ref (P 0), .int v1, .int v2] (PreX dC dI cA adK adV P S)) (va_Qi post (fun u t => VX dC dI cA P u t.heap) (PA 56 P)) 0 0 (PA 56 P) := by
  refine Met.ofW (cc := cX8_list) (maxL := 3) (ret := (some .int)) (by decide) rfl ?_
  intro p e s m args below meth c s₁ B hml hv
  obtain ⟨rfl, hP, hKX⟩ := hv
  have hts : ∀ w ∈ G, w.before [.ref (P 0), .int v1, .int v2].toArray s = true := fun w hw => atoms_spec (ws := wW yX8_list cX8_list 3 (some .int)) B.pre w (List.mem_cons_of_mem _ hw)
  have C : CtxX dC dI cA adK adV P p s m [.ref (P 0), .int v1, .int v2].toArray meth c cX8_list 3 (some .int) RX8 := ⟨hI, hKX, ⟨B.exec, B.bytes, hml, findClass_of_methodNamed B.named, hts⟩, B.returns, B.notSynchronized⟩
  have hS : va_S (PA 56 P) s.heap s.heap [] := va_S.rf
  have hl := lv_entry ([.ref (P 0), .int v1, .int v2]) (n := 3) (Nat.le_of_ble_eq_true rfl)
  rw [lg_entry_eq]
  generalize (lg_sl ([.ref (P 0), .int v1, .int v2]) ++ List.replicate (3 - (lg_sl ([.ref (P 0), .int v1, .int v2])).length) Slot.unset).toArray = ls at hl ⊢
  have hl : lv_has ls 3 [(0, .ref (P 0)), (1, .int v1), (2, .int v2)] := hl
  exact e_X8_list C _ _ _ _ _ _ h  hP hS hl
set_option maxRecDepth 100000 in
set_option maxHeartbeats 4000000 in
theorem b_X8_thin_25 {p : Program} {l : Launch} {e : Env} {s : State} {m : MethodId} {args : Array Value} {below : List Frame} {meth : Method} {c : Code} {dC : Nat → ClassId} {dI : Nat → Nat → Nat} {cA : Nat → ClassId} {adK adV P : Nat → Nat} (C : CtxX dC dI cA adK adV P p s m args meth c cX8_thin 3 (some .int) RX8) {post : Int32 → St → Prop}  : ∀ (v1 : Int32) (y1 : Int32) (S : St) (H : Heap) (locs : List Loc) (ls : Array Slot), w_X8_thin_25 post v1 y1 S → VX dC dI cA P S H → va_S (PA 56 P) s.heap H locs → lv_has ls 3 [(0, .ref (P 0)), (1, .int v1)] → W p l e ({ frames := 6, cells := 0, slots := 0, locals := 134 } : Room) s m args below meth c H locs 0 0 (MQ below (va_Qi post (fun u t => VX dC dI cA P u t.heap) (PA 56 P)) args s 0 0 (PA 56 P)) (F0 m 25 ls [.int y1, .ref (P 27)]) := by
  have C := C
  obtain ⟨hI, hKX, ⟨hx, hb, hml, hown, hts⟩, hr, hlocks⟩ := id C
  have hK := hKX.1
  intro v1 y1 S H locs ls h hP hS hl
  rw [w_X8_thin_25] at h
  refine va_calli (va_runS (As := [.ref _, .int _]) (rest := []) ⟨hx, hb, hml, hown, hts⟩ (c_X0_wordOn l hI h) (va_cwS 2 hts gs_X8_202 rfl rfl rfl hd_X0_wordOn ⟨Nat.le_of_ble_eq_true rfl, Nat.le_of_ble_eq_true rfl⟩) (preS_X hKX hP hS) rfl rfl hl.1 rfl (lv_room (Nat.le_of_ble_eq_true rfl)) dX8_thin_25 ⟨Nat.le_of_ble_eq_true rfl, Nat.le_of_ble_eq_true rfl⟩) hS (fun _ _ h => h) (fun _ h => h) (fun r5 S4 t H locs ht _ h hB _ _ hS => ?_)
  have hP : VX dC dI cA P S4 H := by rw [← ht]; exact hB
  refine lv_istore_n (lv' := [(2, .int r5), (0, .ref (P 0)), (1, .int v1)]) hx hb dX8_thin_28 rfl hl (by decide) rfl (fun ls hl => ?_)
  refine lv_aload_n hx hb dX8_thin_29 rfl (lv_at hl 1 rfl) ?_
  refine g_get (v := .ref (P 27)) hx hb hts inG_X8 hown hK hP (kX_lt (rfl : kdX 0 = 8)) (eX8 (rfl : kdX 0 = 8)) rfl 2 (by decide) G_fl_X8_28 rfl rfl dX8_thin_30 ?_
  refine va_callv (va_runV (As := []) (rest := []) ⟨hx, hb, hml, hown, hts⟩ (c_X7_clear l hI h) (cwV 0 hts gv_X8_206 rfl rfl rfl hv_X7_clear ⟨Nat.le_of_ble_eq_true rfl, Nat.le_of_ble_eq_true rfl⟩) (preV_X hKX hP hS (kX_lt (rfl : kdX 27 = 7)) (eX7 (rfl : kdX 27 = 7)) rfl) rfl rfl hl.1 rfl (lv_room (Nat.le_of_ble_eq_true rfl)) dX8_thin_33 ⟨Nat.le_of_ble_eq_true rfl, Nat.le_of_ble_eq_true rfl⟩) hS (fun _ _ h => h) (fun _ h => h) (fun S6 t H locs ht _ h hB _ _ hS => ?_)
  have hP : VX dC dI cA P S6 H := by rw [← ht]; exact hB
  refine lv_iload_n hx hb dX8_thin_36 rfl (lv_at hl 0 rfl) ?_
  refine lv_iconst (v := (-1)) hx hb dX8_thin_37 (by decide) ?_
  refine lv_icmp_ne (tgt := 43) hx hb dX8_thin_38 (by decide) (fun c7 => ?_) (fun c7 => ?_)
  · replace h := h.2 c7
    refine lv_aload_n hx hb dX8_thin_43 rfl (lv_at hl 1 rfl) ?_
    refine g_get (v := .ref (P 21)) hx hb hts inG_X8 hown hK hP (kX_lt (rfl : kdX 0 = 8)) (eX8 (rfl : kdX 0 = 8)) rfl 1 (by decide) G_fl_X8_21 rfl rfl dX8_thin_44 ?_
    refine lv_iload_n hx hb dX8_thin_47 rfl (lv_at hl 0 rfl) ?_
    refine lv_iload_n hx hb dX8_thin_48 rfl (lv_at hl 2 rfl) ?_
    refine lv_if_ne (tgt := 56) hx hb dX8_thin_49 (by decide) (fun c8 => ?_) (fun c8 => ?_)
    · replace h := h.2 c8
      refine lv_iconst (v := 0) hx hb dX8_thin_56 (by decide) ?_
      refine va_callv (va_runV (As := [.int _, .int _]) (rest := []) ⟨hx, hb, hml, hown, hts⟩ (c_X0_keepOnly l hI (rfl : kdX 21 = 0) h) (cwV 2 hts gv_X8_209 rfl rfl rfl hv_X0_keepOnly ⟨Nat.le_of_ble_eq_true rfl, Nat.le_of_ble_eq_true rfl⟩) (preV_X hKX hP hS (kX_lt (rfl : kdX 21 = 0)) (eX0 (rfl : kdX 21 = 0)) rfl) rfl rfl hl.1 rfl (lv_room (Nat.le_of_ble_eq_true rfl)) dX8_thin_57 ⟨Nat.le_of_ble_eq_true rfl, Nat.le_of_ble_eq_true rfl⟩) hS (fun _ _ h => h) (fun _ h => h) (fun S9 t H locs ht _ h hB _ _ hS => ?_)
      have hP : VX dC dI cA P S9 H := by rw [← ht]; exact hB
      refine lv_aload_n hx hb dX8_thin_60 rfl (lv_at hl 1 rfl) ?_
      refine g_get (v := .ref (P 21)) hx hb hts inG_X8 hown hK hP (kX_lt (rfl : kdX 0 = 8)) (eX8 (rfl : kdX 0 = 8)) rfl 1 (by decide) G_fl_X8_21 rfl rfl dX8_thin_61 ?_
      refine g_get (v := .int (S9.1 21 1)) hx hb hts inG_X0 hown hK hP (kX_lt (rfl : kdX 21 = 0)) (eX0 (rfl : kdX 21 = 0)) rfl 1 (by decide) G_fl_X8_195 rfl rfl dX8_thin_64 ?_
      exact g_iret hx hb hr hlocks h hP hS dX8_thin_67
    · replace h := h.1 c8
      refine lv_iconst (v := 1) hx hb dX8_thin_52 (by decide) ?_
      refine lv_goto (tgt := 57) hx hb dX8_thin_53 (by decide) ?_
      refine va_callv (va_runV (As := [.int _, .int _]) (rest := []) ⟨hx, hb, hml, hown, hts⟩ (c_X0_keepOnly l hI (rfl : kdX 21 = 0) h) (cwV 2 hts gv_X8_209 rfl rfl rfl hv_X0_keepOnly ⟨Nat.le_of_ble_eq_true rfl, Nat.le_of_ble_eq_true rfl⟩) (preV_X hKX hP hS (kX_lt (rfl : kdX 21 = 0)) (eX0 (rfl : kdX 21 = 0)) rfl) rfl rfl hl.1 rfl (lv_room (Nat.le_of_ble_eq_true rfl)) dX8_thin_57 ⟨Nat.le_of_ble_eq_true rfl, Nat.le_of_ble_eq_true rfl⟩) hS (fun _ _ h => h) (fun _ h => h) (fun S10 t H locs ht _ h hB _ _ hS => ?_)
      have hP : VX dC dI cA P S10 H := by rw [← ht]; exact hB
      refine lv_aload_n hx hb dX8_thin_60 rfl (lv_at hl 1 rfl) ?_
      refine g_get (v := .ref (P 21)) hx hb hts inG_X8 hown hK hP (kX_lt (rfl : kdX 0 = 8)) (eX8 (rfl : kdX 0 = 8)) rfl 1 (by decide) G_fl_X8_21 rfl rfl dX8_thin_61 ?_
      refine g_get (v := .int (S10.1 21 1)) hx hb hts inG_X0 hown hK hP (kX_lt (rfl : kdX 21 = 0)) (eX0 (rfl : kdX 21 = 0)) rfl 1 (by decide) G_fl_X8_195 rfl rfl dX8_thin_64 ?_
      exact g_iret hx hb hr hlocks h hP hS dX8_thin_67
  · replace h := h.1 c7
    refine lv_iconst (v := (-1)) hx hb dX8_thin_41 (by decide) ?_
    exact g_iret hx hb hr hlocks h hP hS dX8_thin_42
set_option maxRecDepth 100000 in
set_option maxHeartbeats 4000000 in
theorem e_X8_thin {p : Program} {l : Launch} {e : Env} {s : State} {m : MethodId} {args : Array Value} {below : List Frame} {meth : Method} {c : Code} {dC : Nat → ClassId} {dI : Nat → Nat → Nat} {cA : Nat → ClassId} {adK adV P : Nat → Nat} (C : CtxX dC dI cA adK adV P p s m args meth c cX8_thin 3 (some .int) RX8) {post : Int32 → St → Prop} : ∀  (S : St) (H : Heap) (locs : List Loc) (ls : Array Slot), w_X8_thin  post S → VX dC dI cA P S H → va_S (PA 56 P) s.heap H locs → lv_has ls 3 [(0, .ref (P 0))] → W p l e ({ frames := 6, cells := 0, slots := 0, locals := 134 } : Room) s m args below meth c H locs 0 0 (MQ below (va_Qi post (fun u t => VX dC dI cA P u t.heap) (PA 56 P)) args s 0 0 (PA 56 P)) (F0 m 0 ls []) := by
  have C := C
  obtain ⟨hI, hKX, ⟨hx, hb, hml, hown, hts⟩, hr, hlocks⟩ := id C
  have hK := hKX.1
  intro S H locs ls h hP hS hl
  rw [w_X8_thin] at h
  refine lv_aload_n hx hb dX8_thin_0 rfl (lv_at hl 0 rfl) ?_
  refine g_get (v := .ref (P 27)) hx hb hts inG_X8 hown hK hP (kX_lt (rfl : kdX 0 = 8)) (eX8 (rfl : kdX 0 = 8)) rfl 2 (by decide) G_fl_X8_28 rfl rfl dX8_thin_1 ?_
  refine lv_iconst (v := 0) hx hb dX8_thin_4 (by decide) ?_
  refine lv_iconst (v := 4) hx hb dX8_thin_5 (by decide) ?_
  refine va_ldcS hx hb hown (kx_s0 hKX) dX8_thin_6 ?_
  refine va_calli (va_runV (As := [.int _, .int _, .ref _]) (rest := []) ⟨hx, hb, hml, hown, hts⟩ (c_X7_bears l hI (by decide : 0 < 14) h) (cwV 3 hts gv_X8_198 rfl rfl rfl hv_X7_bears ⟨Nat.le_of_ble_eq_true rfl, Nat.le_of_ble_eq_true rfl⟩) (preV_X hKX hP hS (kX_lt (rfl : kdX 27 = 7)) (eX7 (rfl : kdX 27 = 7)) rfl) rfl rfl hl.1 rfl (lv_room (Nat.le_of_ble_eq_true rfl)) dX8_thin_8 ⟨Nat.le_of_ble_eq_true rfl, Nat.le_of_ble_eq_true rfl⟩) hS (fun _ _ h => h) (fun _ h => h) (fun r2 S1 t H locs ht _ h hB _ _ hS => ?_)
  have hP : VX dC dI cA P S1 H := by rw [← ht]; exact hB
  refine lv_istore_n (lv' := [(1, .int r2), (0, .ref (P 0))]) hx hb dX8_thin_11 rfl hl (by decide) rfl (fun ls hl => ?_)
  refine lv_aload_n hx hb dX8_thin_12 rfl (lv_at hl 1 rfl) ?_
  refine g_get (v := .ref (P 27)) hx hb hts inG_X8 hown hK hP (kX_lt (rfl : kdX 0 = 8)) (eX8 (rfl : kdX 0 = 8)) rfl 2 (by decide) G_fl_X8_28 rfl rfl dX8_thin_13 ?_
  refine lv_iload_n hx hb dX8_thin_16 rfl (lv_at hl 0 rfl) ?_
  refine lv_if_eq (tgt := 24) hx hb dX8_thin_17 (by decide) (fun c3 => ?_) (fun c3 => ?_)
  · replace h := h.1 c3
    refine lv_iconst (v := 0) hx hb dX8_thin_24 (by decide) ?_
    exact b_X8_thin_25 C _ _ _ _ _ _ h  hP hS (lv_sub hl [1, 0] rfl)
  · replace h := h.2 c3
    refine lv_iconst (v := 4) hx hb dX8_thin_20 (by decide) ?_
    refine lv_goto (tgt := 25) hx hb dX8_thin_21 (by decide) ?_
    exact b_X8_thin_25 C _ _ _ _ _ _ h  hP hS (lv_sub hl [1, 0] rfl)
set_option maxRecDepth 100000 in
set_option maxHeartbeats 4000000 in
theorem c_X8_thin (l : Launch) {dC : Nat → ClassId} {dI : Nat → Nat → Nat} {cA : Nat → ClassId} {adK adV P : Nat → Nat} (hI : PInj 56 P)   {post : Int32 → St → Prop} {S : St} (h : w_X8_thin  post S) : Met l yX8_thin (wW yX8_thin cX8_thin 3 (some .int)) ({ frames := 6, cells := 0, slots := 0, locals := 134 } : Room) (va_Pc [.ref (P 0)] (PreX dC dI cA adK adV P S)) (va_Qi post (fun u t => VX dC dI cA P u t.heap) (PA 56 P)) 0 0 (PA 56 P) := by
  refine Met.ofW (cc := cX8_thin) (maxL := 3) (ret := (some .int)) (by decide) rfl ?_
  intro p e s m args below meth c s₁ B hml hv
  obtain ⟨rfl, hP, hKX⟩ := hv
  have hts : ∀ w ∈ G, w.before [.ref (P 0)].toArray s = true := fun w hw => atoms_spec (ws := wW yX8_thin cX8_thin 3 (some .int)) B.pre w (List.mem_cons_of_mem _ hw)
  have C : CtxX dC dI cA adK adV P p s m [.ref (P 0)].toArray meth c cX8_thin 3 (some .int) RX8 := ⟨hI, hKX, ⟨B.exec, B.bytes, hml, findClass_of_methodNamed B.named, hts⟩, B.returns, B.notSynchronized⟩
  have hS : va_S (PA 56 P) s.heap s.heap [] := va_S.rf
  have hl := lv_entry ([.ref (P 0)]) (n := 3) (Nat.le_of_ble_eq_true rfl)
  rw [lg_entry_eq]
  generalize (lg_sl ([.ref (P 0)]) ++ List.replicate (3 - (lg_sl ([.ref (P 0)])).length) Slot.unset).toArray = ls at hl ⊢
  have hl : lv_has ls 3 [(0, .ref (P 0))] := hl
  exact e_X8_thin C  _ _ _ _ h  hP hS hl
set_option maxRecDepth 100000 in
set_option maxHeartbeats 4000000 in
theorem e_X8_listed {p : Program} {l : Launch} {e : Env} {s : State} {m : MethodId} {args : Array Value} {below : List Frame} {meth : Method} {c : Code} {dC : Nat → ClassId} {dI : Nat → Nat → Nat} {cA : Nat → ClassId} {adK adV P : Nat → Nat} (C : CtxX dC dI cA adK adV P p s m args meth c cX8_listed 2 (some .int) RX8) {post : Int32 → St → Prop} : ∀ (v1 : Int32) (S : St) (H : Heap) (locs : List Loc) (ls : Array Slot), w_X8_listed v1 post S → VX dC dI cA P S H → va_S (PA 56 P) s.heap H locs → lv_has ls 2 [(0, .ref (P 0)), (1, .int v1)] → W p l e ({ frames := 1, cells := 0, slots := 0, locals := 21 } : Room) s m args below meth c H locs 0 0 (MQ below (va_Qi post (fun u t => VX dC dI cA P u t.heap) (PA 56 P)) args s 0 0 (PA 56 P)) (F0 m 0 ls []) := by
  have C := C
  obtain ⟨hI, hKX, ⟨hx, hb, hml, hown, hts⟩, hr, hlocks⟩ := id C
  have hK := hKX.1
  intro v1 S H locs ls h hP hS hl
  rw [w_X8_listed] at h
  refine lv_iload_n hx hb dX8_listed_0 rfl (lv_at hl 1 rfl) ?_
  refine lv_if_ge (tgt := 6) hx hb dX8_listed_1 (by decide) (fun c1 => ?_) (fun c1 => ?_)
  · replace h := h.1 c1
    refine lv_iload_n hx hb dX8_listed_6 rfl (lv_at hl 1 rfl) ?_
    refine lv_aload_n hx hb dX8_listed_7 rfl (lv_at hl 0 rfl) ?_
    refine g_get (v := .ref (P 21)) hx hb hts inG_X8 hown hK hP (kX_lt (rfl : kdX 0 = 8)) (eX8 (rfl : kdX 0 = 8)) rfl 1 (by decide) G_fl_X8_21 rfl rfl dX8_listed_8 ?_
    refine g_get (v := .int (S.1 21 1)) hx hb hts inG_X0 hown hK hP (kX_lt (rfl : kdX 21 = 0)) (eX0 (rfl : kdX 21 = 0)) rfl 1 (by decide) G_fl_X8_195 rfl rfl dX8_listed_11 ?_
    refine lv_icmp_ge (tgt := 31) hx hb dX8_listed_14 (by decide) (fun c2 => ?_) (fun c2 => ?_)
    · replace h := h.1 c2
      refine lv_bipush (v := (-2)) hx hb dX8_listed_31 (by decide) ?_
      exact g_iret hx hb hr hlocks h hP hS dX8_listed_33
    · replace h := h.2 c2
      refine lv_aload_n hx hb dX8_listed_17 rfl (lv_at hl 0 rfl) ?_
      refine g_get (v := .ref (P 21)) hx hb hts inG_X8 hown hK hP (kX_lt (rfl : kdX 0 = 8)) (eX8 (rfl : kdX 0 = 8)) rfl 1 (by decide) G_fl_X8_21 rfl rfl dX8_listed_18 ?_
      refine g_get (v := .ref (P 22)) hx hb hts inG_X0 hown hK hP (kX_lt (rfl : kdX 21 = 0)) (eX0 (rfl : kdX 21 = 0)) rfl 0 (by decide) G_fl_X8_213 rfl rfl dX8_listed_21 ?_
      refine lv_iload_n hx hb dX8_listed_24 rfl (lv_at hl 1 rfl) ?_
      refine va_calli (va_runS (As := [.ref _, .int _]) (rest := []) ⟨hx, hb, hml, hown, hts⟩ (c_X8_valueAt l hI (rfl : kdX 22 = 10) h) (va_cwS 2 hts gs_X8_216 rfl rfl rfl hd_X8_valueAt ⟨Nat.le_of_ble_eq_true rfl, Nat.le_of_ble_eq_true rfl⟩) (preS_X hKX hP hS) rfl rfl hl.1 rfl (lv_room (Nat.le_of_ble_eq_true rfl)) dX8_listed_25 ⟨Nat.le_of_ble_eq_true rfl, Nat.le_of_ble_eq_true rfl⟩) hS (fun _ _ h => h) (fun _ h => h) (fun r4 S3 t H locs ht _ h hB _ _ hS => ?_)
      have hP : VX dC dI cA P S3 H := by rw [← ht]; exact hB
      refine lv_goto (tgt := 33) hx hb dX8_listed_28 (by decide) ?_
      exact g_iret hx hb hr hlocks h hP hS dX8_listed_33
  · replace h := h.2 c1
    refine lv_iconst (v := (-1)) hx hb dX8_listed_4 (by decide) ?_
    exact g_iret hx hb hr hlocks h hP hS dX8_listed_5
set_option maxRecDepth 100000 in
set_option maxHeartbeats 4000000 in
theorem c_X8_listed (l : Launch) {dC : Nat → ClassId} {dI : Nat → Nat → Nat} {cA : Nat → ClassId} {adK adV P : Nat → Nat} (hI : PInj 56 P) {v1 : Int32}  {post : Int32 → St → Prop} {S : St} (h : w_X8_listed v1 post S) : Met l yX8_listed (wW yX8_listed cX8_listed 2 (some .int)) ({ frames := 1, cells := 0, slots := 0, locals := 21 } : Room) (va_Pc [.ref (P 0), .int v1] (PreX dC dI cA adK adV P S)) (va_Qi post (fun u t => VX dC dI cA P u t.heap) (PA 56 P)) 0 0 (PA 56 P) := by
  refine Met.ofW (cc := cX8_listed) (maxL := 2) (ret := (some .int)) (by decide) rfl ?_
  intro p e s m args below meth c s₁ B hml hv
  obtain ⟨rfl, hP, hKX⟩ := hv
  have hts : ∀ w ∈ G, w.before [.ref (P 0), .int v1].toArray s = true := fun w hw => atoms_spec (ws := wW yX8_listed cX8_listed 2 (some .int)) B.pre w (List.mem_cons_of_mem _ hw)
  have C : CtxX dC dI cA adK adV P p s m [.ref (P 0), .int v1].toArray meth c cX8_listed 2 (some .int) RX8 := ⟨hI, hKX, ⟨B.exec, B.bytes, hml, findClass_of_methodNamed B.named, hts⟩, B.returns, B.notSynchronized⟩
  have hS : va_S (PA 56 P) s.heap s.heap [] := va_S.rf
  have hl := lv_entry ([.ref (P 0), .int v1]) (n := 2) (Nat.le_of_ble_eq_true rfl)
  rw [lg_entry_eq]
  generalize (lg_sl ([.ref (P 0), .int v1]) ++ List.replicate (2 - (lg_sl ([.ref (P 0), .int v1])).length) Slot.unset).toArray = ls at hl ⊢
  have hl : lv_has ls 2 [(0, .ref (P 0)), (1, .int v1)] := hl
  exact e_X8_listed C _ _ _ _ _ h  hP hS hl
set_option maxRecDepth 100000 in
set_option maxHeartbeats 4000000 in
theorem e_X8_tells {p : Program} {l : Launch} {e : Env} {s : State} {m : MethodId} {args : Array Value} {below : List Frame} {meth : Method} {c : Code} {dC : Nat → ClassId} {dI : Nat → Nat → Nat} {cA : Nat → ClassId} {adK adV P : Nat → Nat} (C : CtxX dC dI cA adK adV P p s m args meth c cX8_tells 5 (some .long) RX8) {post : Int64 → St → Prop} : ∀ (v1 : Int32) (v2 : Int32) (v3 : Int32) (S : St) (H : Heap) (locs : List Loc) (ls : Array Slot), w_X8_tells v1 v2 v3 post S → VX dC dI cA P S H → va_S (PA 56 P) s.heap H locs → lv_has ls 5 [(0, .ref (P 0)), (1, .int v1), (2, .int v2), (3, .int v3)] → W p l e ({ frames := 3, cells := 0, slots := 0, locals := 71 } : Room) s m args below meth c H locs 0 0 (MQ below (va_Ql post (fun u t => VX dC dI cA P u t.heap) (PA 56 P)) args s 0 0 (PA 56 P)) (F0 m 0 ls []) := by
  have C := C
  obtain ⟨hI, hKX, ⟨hx, hb, hml, hown, hts⟩, hr, hlocks⟩ := id C
  have hK := hKX.1
  intro v1 v2 v3 S H locs ls h hP hS hl
  rw [w_X8_tells] at h
  refine lv_aload_n hx hb dX8_tells_0 rfl (lv_at hl 0 rfl) ?_
  refine g_get (v := .ref (P 1)) hx hb hts inG_X8 hown hK hP (kX_lt (rfl : kdX 0 = 8)) (eX8 (rfl : kdX 0 = 8)) rfl 0 (by decide) G_fl_X8_12 rfl rfl dX8_tells_1 ?_
  refine lv_iload_n hx hb dX8_tells_4 rfl (lv_at hl 1 rfl) ?_
  refine va_callq (va_runV (As := [.int _]) (rest := []) ⟨hx, hb, hml, hown, hts⟩ (c_X6_at l hI (rfl : kdX 1 = 6) h) (cwV 1 hts gv_X8_97 rfl rfl rfl hv_X6_at ⟨Nat.le_of_ble_eq_true rfl, Nat.le_of_ble_eq_true rfl⟩) (preV_X hKX hP hS (kX_lt (rfl : kdX 1 = 6)) (eX6 (rfl : kdX 1 = 6)) rfl) rfl rfl hl.1 rfl (lv_room (Nat.le_of_ble_eq_true rfl)) dX8_tells_5 ⟨Nat.le_of_ble_eq_true rfl, Nat.le_of_ble_eq_true rfl⟩) hS (fun _ _ h => h) (fun _ h => h) (fun q S1 t H locs ht _ h hB _ _ hS => ?_)
  have hP : VX dC dI cA P S1 H := by rw [← ht]; exact hB
  obtain ⟨o2, rfl, hko, h⟩ := h
  rcases o2 with _ | k3
  · replace h := h.1 rfl
    refine lv_astoreN (lv' := [(4, .null), (0, .ref (P 0)), (1, .int v1), (2, .int v2), (3, .int v3)]) hx hb dX8_tells_8 hl (by decide) rfl (fun ls hl => ?_)
    refine lv_aloadN hx hb dX8_tells_10 (lv_at hl 0 rfl) ?_
    refine lv_ifnullN (tgt := 34) hx hb dX8_tells_12 (by decide) ?_
    refine lv_ldc2 (v := (-9223372036854775808)) hx hb hown (hts _ G_co_X8_220) dX8_tells_34 ?_
    exact g_lret hx hb hr hlocks h hP hS dX8_tells_37
  · have hk4 := hko k3 rfl
    replace h := h.2 k3 rfl
    refine lv_astore (lv' := [(4, .ref (P k3)), (0, .ref (P 0)), (1, .int v1), (2, .int v2), (3, .int v3)]) hx hb dX8_tells_8 hl (by decide) rfl (fun ls hl => ?_)
    refine lv_aload hx hb dX8_tells_10 (lv_at hl 0 rfl) ?_
    refine lv_ifnull hx hb dX8_tells_12 ?_
    refine lv_iload_n hx hb dX8_tells_15 rfl (lv_at hl 3 rfl) ?_
    refine lv_iconst (v := 0) hx hb dX8_tells_16 (by decide) ?_
    refine lv_iconst (v := 5) hx hb dX8_tells_17 (by decide) ?_
    refine va_calli (va_runS (As := [.int _, .int _, .int _]) (rest := []) ⟨hx, hb, hml, hown, hts⟩ (c_X8_isWithin l hI h) (va_cwS 3 hts gs_X8_81 rfl rfl rfl hd_X8_isWithin ⟨Nat.le_of_ble_eq_true rfl, Nat.le_of_ble_eq_true rfl⟩) (preS_X hKX hP hS) rfl rfl hl.1 rfl (lv_room (Nat.le_of_ble_eq_true rfl)) dX8_tells_18 ⟨Nat.le_of_ble_eq_true rfl, Nat.le_of_ble_eq_true rfl⟩) hS (fun _ _ h => h) (fun _ h => h) (fun r6 S5 t H locs ht _ h hB _ _ hS => ?_)
    have hP : VX dC dI cA P S5 H := by rw [← ht]; exact hB
    refine lv_if_eq (tgt := 34) hx hb dX8_tells_21 (by decide) (fun c7 => ?_) (fun c7 => ?_)
    · replace h := h.1 c7
      refine lv_ldc2 (v := (-9223372036854775808)) hx hb hown (hts _ G_co_X8_220) dX8_tells_34 ?_
      exact g_lret hx hb hr hlocks h hP hS dX8_tells_37
    · replace h := h.2 c7
      refine lv_iload_n hx hb dX8_tells_24 rfl (lv_at hl 4 rfl) ?_
      refine lv_iconst (v := 0) hx hb dX8_tells_25 (by decide) ?_
      refine lv_bipush (v := 99) hx hb dX8_tells_26 (by decide) ?_
      refine va_calli (va_runS (As := [.int _, .int _, .int _]) (rest := []) ⟨hx, hb, hml, hown, hts⟩ (c_X8_isWithin l hI h) (va_cwS 3 hts gs_X8_81 rfl rfl rfl hd_X8_isWithin ⟨Nat.le_of_ble_eq_true rfl, Nat.le_of_ble_eq_true rfl⟩) (preS_X hKX hP hS) rfl rfl hl.1 rfl (lv_room (Nat.le_of_ble_eq_true rfl)) dX8_tells_28 ⟨Nat.le_of_ble_eq_true rfl, Nat.le_of_ble_eq_true rfl⟩) hS (fun _ _ h => h) (fun _ h => h) (fun r9 S8 t H locs ht _ h hB _ _ hS => ?_)
      have hP : VX dC dI cA P S8 H := by rw [← ht]; exact hB
      refine lv_if_ne (tgt := 38) hx hb dX8_tells_31 (by decide) (fun c10 => ?_) (fun c10 => ?_)
      · replace h := h.2 c10
        refine lv_aload_n hx hb dX8_tells_38 rfl (lv_at hl 1 rfl) ?_
        refine g_get (v := .ref (P 52)) hx hb hts inG_X8 hown hK hP (kX_lt (rfl : kdX 0 = 8)) (eX8 (rfl : kdX 0 = 8)) rfl 9 (by decide) G_fl_X8_65 rfl rfl dX8_tells_39 ?_
        refine lv_aload hx hb dX8_tells_42 (lv_at hl 0 rfl) ?_
        refine va_callv (va_runV (As := [.ref _]) (rest := []) ⟨hx, hb, hml, hown, hts⟩ (c_X4_load l hI hk4 h) (cwV 1 hts gv_X8_154 rfl rfl rfl hv_X4_load ⟨Nat.le_of_ble_eq_true rfl, Nat.le_of_ble_eq_true rfl⟩) (preV_X hKX hP hS (kX_lt (rfl : kdX 52 = 4)) (eX4 (rfl : kdX 52 = 4)) rfl) rfl rfl hl.1 rfl (lv_room (Nat.le_of_ble_eq_true rfl)) dX8_tells_44 ⟨Nat.le_of_ble_eq_true rfl, Nat.le_of_ble_eq_true rfl⟩) hS (fun _ _ h => h) (fun _ h => h) (fun S11 t H locs ht _ h hB _ _ hS => ?_)
        have hP : VX dC dI cA P S11 H := by rw [← ht]; exact hB
        refine lv_aload_n hx hb dX8_tells_47 rfl (lv_at hl 1 rfl) ?_
        refine g_get (v := .ref (P 52)) hx hb hts inG_X8 hown hK hP (kX_lt (rfl : kdX 0 = 8)) (eX8 (rfl : kdX 0 = 8)) rfl 9 (by decide) G_fl_X8_65 rfl rfl dX8_tells_48 ?_
        refine lv_iload_n hx hb dX8_tells_51 rfl (lv_at hl 3 rfl) ?_
        refine lv_iload_n hx hb dX8_tells_52 rfl (lv_at hl 4 rfl) ?_
        refine va_calll (va_runV (As := [.int _, .int _]) (rest := []) ⟨hx, hb, hml, hown, hts⟩ (c_X4_worthTogether l hI h) (cwV 2 hts gv_X8_222 rfl rfl rfl hv_X4_worthTogether ⟨Nat.le_of_ble_eq_true rfl, Nat.le_of_ble_eq_true rfl⟩) (preV_X hKX hP hS (kX_lt (rfl : kdX 52 = 4)) (eX4 (rfl : kdX 52 = 4)) rfl) rfl rfl hl.1 rfl (lv_room (Nat.le_of_ble_eq_true rfl)) dX8_tells_53 ⟨Nat.le_of_ble_eq_true rfl, Nat.le_of_ble_eq_true rfl⟩) hS (fun _ _ h => h) (fun _ h => h) (fun r13 S12 t H locs ht _ h hB _ _ hS => ?_)
        have hP : VX dC dI cA P S12 H := by rw [← ht]; exact hB
        exact g_lret hx hb hr hlocks h hP hS dX8_tells_56
      · replace h := h.1 c10
        refine lv_ldc2 (v := (-9223372036854775808)) hx hb hown (hts _ G_co_X8_220) dX8_tells_34 ?_
        exact g_lret hx hb hr hlocks h hP hS dX8_tells_37
set_option maxRecDepth 100000 in
set_option maxHeartbeats 4000000 in
theorem c_X8_tells (l : Launch) {dC : Nat → ClassId} {dI : Nat → Nat → Nat} {cA : Nat → ClassId} {adK adV P : Nat → Nat} (hI : PInj 56 P) {v1 : Int32} {v2 : Int32} {v3 : Int32}  {post : Int64 → St → Prop} {S : St} (h : w_X8_tells v1 v2 v3 post S) : Met l yX8_tells (wW yX8_tells cX8_tells 5 (some .long)) ({ frames := 3, cells := 0, slots := 0, locals := 71 } : Room) (va_Pc [.ref (P 0), .int v1, .int v2, .int v3] (PreX dC dI cA adK adV P S)) (va_Ql post (fun u t => VX dC dI cA P u t.heap) (PA 56 P)) 0 0 (PA 56 P) := by
  refine Met.ofW (cc := cX8_tells) (maxL := 5) (ret := (some .long)) (by decide) rfl ?_
  intro p e s m args below meth c s₁ B hml hv
  obtain ⟨rfl, hP, hKX⟩ := hv
  have hts : ∀ w ∈ G, w.before [.ref (P 0), .int v1, .int v2, .int v3].toArray s = true := fun w hw => atoms_spec (ws := wW yX8_tells cX8_tells 5 (some .long)) B.pre w (List.mem_cons_of_mem _ hw)
  have C : CtxX dC dI cA adK adV P p s m [.ref (P 0), .int v1, .int v2, .int v3].toArray meth c cX8_tells 5 (some .long) RX8 := ⟨hI, hKX, ⟨B.exec, B.bytes, hml, findClass_of_methodNamed B.named, hts⟩, B.returns, B.notSynchronized⟩
  have hS : va_S (PA 56 P) s.heap s.heap [] := va_S.rf
  have hl := lv_entry ([.ref (P 0), .int v1, .int v2, .int v3]) (n := 5) (Nat.le_of_ble_eq_true rfl)
  rw [lg_entry_eq]
  generalize (lg_sl ([.ref (P 0), .int v1, .int v2, .int v3]) ++ List.replicate (5 - (lg_sl ([.ref (P 0), .int v1, .int v2, .int v3])).length) Slot.unset).toArray = ls at hl ⊢
  have hl : lv_has ls 5 [(0, .ref (P 0)), (1, .int v1), (2, .int v2), (3, .int v3)] := hl
  exact e_X8_tells C _ _ _ _ _ _ _ h  hP hS hl
set_option maxRecDepth 100000 in
set_option maxHeartbeats 4000000 in
theorem b_X8_feed_32 {p : Program} {l : Launch} {e : Env} {s : State} {m : MethodId} {args : Array Value} {below : List Frame} {meth : Method} {c : Code} {dC : Nat → ClassId} {dI : Nat → Nat → Nat} {cA : Nat → ClassId} {adK adV P : Nat → Nat} (C : CtxX dC dI cA adK adV P p s m args meth c cX8_feed 4 (some .int) RX8) {post : Int32 → St → Prop}  : ∀ (n : Nat) (v1 : Int32) (v3 : Int32) (S : St) (H : Heap) (locs : List Loc) (ls : Array Slot), w_X8_feed_32 post n v1 v3 S → VX dC dI cA P S H → va_S (PA 56 P) s.heap H locs → lv_has ls 4 [(0, .ref (P 0)), (1, .int v1), (3, .int v3)] → W p l e ({ frames := 2, cells := 0, slots := 0, locals := 43 } : Room) s m args below meth c H locs 0 0 (MQ below (va_Qi post (fun u t => VX dC dI cA P u t.heap) (PA 56 P)) args s 0 0 (PA 56 P)) (F0 m 32 ls []) := by
  have C := C
  obtain ⟨hI, hKX, ⟨hx, hb, hml, hown, hts⟩, hr, hlocks⟩ := id C
  have hK := hKX.1
  intro n
  induction n with
  | zero =>
    intro v1 v3 S H locs ls h hP hS hl
    simp only [w_X8_feed_32] at h
  | succ n ih =>
    intro v1 v3 S H locs ls h hP hS hl
    rw [w_X8_feed_32] at h
    refine lv_iload_n hx hb dX8_feed_32 rfl (lv_at hl 2 rfl) ?_
    refine lv_if_lt (tgt := 59) hx hb dX8_feed_33 (by decide) (fun c6 => ?_) (fun c6 => ?_)
    · replace h := h.1 c6
      refine lv_aload_n hx hb dX8_feed_59 rfl (lv_at hl 0 rfl) ?_
      refine g_get (v := .ref (P 27)) hx hb hts inG_X8 hown hK hP (kX_lt (rfl : kdX 0 = 8)) (eX8 (rfl : kdX 0 = 8)) rfl 2 (by decide) G_fl_X8_28 rfl rfl dX8_feed_60 ?_
      refine g_get (v := .int (S.1 27 1)) hx hb hts inG_X7 hown hK hP (kX_lt (rfl : kdX 27 = 7)) (eX7 (rfl : kdX 27 = 7)) rfl 1 (by decide) G_fl_X8_226 rfl rfl dX8_feed_63 ?_
      exact g_iret hx hb hr hlocks h hP hS dX8_feed_66
    · replace h := h.2 c6
      refine lv_aload_n hx hb dX8_feed_36 rfl (lv_at hl 0 rfl) ?_
      refine g_get (v := .ref (P 27)) hx hb hts inG_X8 hown hK hP (kX_lt (rfl : kdX 0 = 8)) (eX8 (rfl : kdX 0 = 8)) rfl 2 (by decide) G_fl_X8_28 rfl rfl dX8_feed_37 ?_
      refine lv_iload_n hx hb dX8_feed_40 rfl (lv_at hl 1 rfl) ?_
      refine lv_bipush (v := 8) hx hb dX8_feed_41 (by decide) ?_
      refine lv_iload_n hx hb dX8_feed_43 rfl (lv_at hl 2 rfl) ?_
      refine lv_imul hx hb dX8_feed_44 ?_
      refine lv_iushr (v := iush _ _) hx hb dX8_feed_45 rfl ?_
      refine lv_sipush (v := 255) hx hb dX8_feed_46 (by decide) ?_
      refine lv_iand hx hb dX8_feed_49 ?_
      replace h := h _ rfl
      refine va_callv (va_runV (As := [.int _]) (rest := []) ⟨hx, hb, hml, hown, hts⟩ (c_X7_add l hI h) (cwV 1 hts gv_X8_227 rfl rfl rfl hv_X7_add ⟨Nat.le_of_ble_eq_true rfl, Nat.le_of_ble_eq_true rfl⟩) (preV_X hKX hP hS (kX_lt (rfl : kdX 27 = 7)) (eX7 (rfl : kdX 27 = 7)) rfl) rfl rfl hl.1 rfl (lv_room (Nat.le_of_ble_eq_true rfl)) dX8_feed_50 ⟨Nat.le_of_ble_eq_true rfl, Nat.le_of_ble_eq_true rfl⟩) hS (fun _ _ h => h) (fun _ h => h) (fun S8 t H locs ht _ h hB _ _ hS => ?_)
      have hP : VX dC dI cA P S8 H := by rw [← ht]; exact hB
      obtain ⟨x9, ex9⟩ : ∃ y : Int32, y = v3 + (-1) := ⟨_, rfl⟩
      replace h := h x9 ex9
      refine lv_iinc (v := x9) (lv' := [(3, .int x9), (0, .ref (P 0)), (1, .int v1)]) hx hb dX8_feed_53 hl (k := 2) rfl (by rw [ex9]; rfl) (by decide) rfl (fun ls hl => ?_)
      refine lv_goto (tgt := 32) hx hb dX8_feed_56 (by decide) ?_
      exact ih _ _ _ _ _ _ h  hP hS (lv_sub hl [1, 2, 0] rfl)
set_option maxRecDepth 100000 in
set_option maxHeartbeats 4000000 in
theorem e_X8_feed {p : Program} {l : Launch} {e : Env} {s : State} {m : MethodId} {args : Array Value} {below : List Frame} {meth : Method} {c : Code} {dC : Nat → ClassId} {dI : Nat → Nat → Nat} {cA : Nat → ClassId} {adK adV P : Nat → Nat} (C : CtxX dC dI cA adK adV P p s m args meth c cX8_feed 4 (some .int) RX8) {post : Int32 → St → Prop} : ∀ (v1 : Int32) (v2 : Int32) (S : St) (H : Heap) (locs : List Loc) (ls : Array Slot), w_X8_feed v1 v2 post S → VX dC dI cA P S H → va_S (PA 56 P) s.heap H locs → lv_has ls 4 [(0, .ref (P 0)), (1, .int v1), (2, .int v2)] → W p l e ({ frames := 2, cells := 0, slots := 0, locals := 43 } : Room) s m args below meth c H locs 0 0 (MQ below (va_Qi post (fun u t => VX dC dI cA P u t.heap) (PA 56 P)) args s 0 0 (PA 56 P)) (F0 m 0 ls []) := by
  have C := C
  obtain ⟨hI, hKX, ⟨hx, hb, hml, hown, hts⟩, hr, hlocks⟩ := id C
  have hK := hKX.1
  intro v1 v2 S H locs ls h hP hS hl
  rw [w_X8_feed] at h
  refine lv_iload_n hx hb dX8_feed_0 rfl (lv_at hl 2 rfl) ?_
  refine lv_iconst (v := 1) hx hb dX8_feed_1 (by decide) ?_
  refine lv_iconst (v := 4) hx hb dX8_feed_2 (by decide) ?_
  refine va_calli (va_runS (As := [.int _, .int _, .int _]) (rest := []) ⟨hx, hb, hml, hown, hts⟩ (c_X8_isWithin l hI h) (va_cwS 3 hts gs_X8_81 rfl rfl rfl hd_X8_isWithin ⟨Nat.le_of_ble_eq_true rfl, Nat.le_of_ble_eq_true rfl⟩) (preS_X hKX hP hS) rfl rfl hl.1 rfl (lv_room (Nat.le_of_ble_eq_true rfl)) dX8_feed_3 ⟨Nat.le_of_ble_eq_true rfl, Nat.le_of_ble_eq_true rfl⟩) hS (fun _ _ h => h) (fun _ h => h) (fun r2 S1 t H locs ht _ h hB _ _ hS => ?_)
  have hP : VX dC dI cA P S1 H := by rw [← ht]; exact hB
  refine lv_if_ne (tgt := 11) hx hb dX8_feed_6 (by decide) (fun c3 => ?_) (fun c3 => ?_)
  · replace h := h.2 c3
    refine lv_aload_n hx hb dX8_feed_11 rfl (lv_at hl 0 rfl) ?_
    refine g_get (v := .ref (P 27)) hx hb hts inG_X8 hown hK hP (kX_lt (rfl : kdX 0 = 8)) (eX8 (rfl : kdX 0 = 8)) rfl 2 (by decide) G_fl_X8_28 rfl rfl dX8_feed_12 ?_
    refine g_get (v := .int (S1.1 27 1)) hx hb hts inG_X7 hown hK hP (kX_lt (rfl : kdX 27 = 7)) (eX7 (rfl : kdX 27 = 7)) rfl 1 (by decide) G_fl_X8_226 rfl rfl dX8_feed_15 ?_
    refine lv_iload_n hx hb dX8_feed_18 rfl (lv_at hl 2 rfl) ?_
    refine lv_iadd hx hb dX8_feed_19 ?_
    refine lv_bipush (v := 80) hx hb dX8_feed_20 (by decide) ?_
    refine lv_icmp_le (tgt := 28) hx hb dX8_feed_22 (by decide) (fun c4 => ?_) (fun c4 => ?_)
    · replace h := h.1 c4
      refine lv_iload_n hx hb dX8_feed_28 rfl (lv_at hl 2 rfl) ?_
      refine lv_iconst (v := 1) hx hb dX8_feed_29 (by decide) ?_
      refine lv_isub hx hb dX8_feed_30 ?_
      refine lv_topi (fun x5 ex5 => ?_)
      replace h := h x5 ex5
      refine lv_istore_n (lv' := [(3, .int x5), (0, .ref (P 0)), (1, .int v1), (2, .int v2)]) hx hb dX8_feed_31 rfl hl (by decide) rfl (fun ls hl => ?_)
      obtain ⟨n10, h⟩ := h
      exact b_X8_feed_32 C n10 _ _ _ _ _ _ h  hP hS (lv_sub hl [1, 2, 0] rfl)
    · replace h := h.2 c4
      refine lv_bipush (v := (-3)) hx hb dX8_feed_25 (by decide) ?_
      exact g_iret hx hb hr hlocks h hP hS dX8_feed_27
  · replace h := h.1 c3
    refine lv_iconst (v := (-1)) hx hb dX8_feed_9 (by decide) ?_
    exact g_iret hx hb hr hlocks h hP hS dX8_feed_10
set_option maxRecDepth 100000 in
set_option maxHeartbeats 4000000 in
theorem c_X8_feed (l : Launch) {dC : Nat → ClassId} {dI : Nat → Nat → Nat} {cA : Nat → ClassId} {adK adV P : Nat → Nat} (hI : PInj 56 P) {v1 : Int32} {v2 : Int32}  {post : Int32 → St → Prop} {S : St} (h : w_X8_feed v1 v2 post S) : Met l yX8_feed (wW yX8_feed cX8_feed 4 (some .int)) ({ frames := 2, cells := 0, slots := 0, locals := 43 } : Room) (va_Pc [.ref (P 0), .int v1, .int v2] (PreX dC dI cA adK adV P S)) (va_Qi post (fun u t => VX dC dI cA P u t.heap) (PA 56 P)) 0 0 (PA 56 P) := by
  refine Met.ofW (cc := cX8_feed) (maxL := 4) (ret := (some .int)) (by decide) rfl ?_
  intro p e s m args below meth c s₁ B hml hv
  obtain ⟨rfl, hP, hKX⟩ := hv
  have hts : ∀ w ∈ G, w.before [.ref (P 0), .int v1, .int v2].toArray s = true := fun w hw => atoms_spec (ws := wW yX8_feed cX8_feed 4 (some .int)) B.pre w (List.mem_cons_of_mem _ hw)
  have C : CtxX dC dI cA adK adV P p s m [.ref (P 0), .int v1, .int v2].toArray meth c cX8_feed 4 (some .int) RX8 := ⟨hI, hKX, ⟨B.exec, B.bytes, hml, findClass_of_methodNamed B.named, hts⟩, B.returns, B.notSynchronized⟩
  have hS : va_S (PA 56 P) s.heap s.heap [] := va_S.rf
  have hl := lv_entry ([.ref (P 0), .int v1, .int v2]) (n := 4) (Nat.le_of_ble_eq_true rfl)
  rw [lg_entry_eq]
  generalize (lg_sl ([.ref (P 0), .int v1, .int v2]) ++ List.replicate (4 - (lg_sl ([.ref (P 0), .int v1, .int v2])).length) Slot.unset).toArray = ls at hl ⊢
  have hl : lv_has ls 4 [(0, .ref (P 0)), (1, .int v1), (2, .int v2)] := hl
  exact e_X8_feed C _ _ _ _ _ _ h  hP hS hl
set_option maxRecDepth 100000 in
set_option maxHeartbeats 4000000 in
theorem e_X8_wipe {p : Program} {l : Launch} {e : Env} {s : State} {m : MethodId} {args : Array Value} {below : List Frame} {meth : Method} {c : Code} {dC : Nat → ClassId} {dI : Nat → Nat → Nat} {cA : Nat → ClassId} {adK adV P : Nat → Nat} (C : CtxX dC dI cA adK adV P p s m args meth c cX8_wipe 2 (some .int) RX8) {post : Int32 → St → Prop} : ∀  (S : St) (H : Heap) (locs : List Loc) (ls : Array Slot), w_X8_wipe  post S → VX dC dI cA P S H → va_S (PA 56 P) s.heap H locs → lv_has ls 2 [(0, .ref (P 0))] → W p l e ({ frames := 1, cells := 0, slots := 0, locals := 20 } : Room) s m args below meth c H locs 0 0 (MQ below (va_Qi post (fun u t => VX dC dI cA P u t.heap) (PA 56 P)) args s 0 0 (PA 56 P)) (F0 m 0 ls []) := by
  have C := C
  obtain ⟨hI, hKX, ⟨hx, hb, hml, hown, hts⟩, hr, hlocks⟩ := id C
  have hK := hKX.1
  intro S H locs ls h hP hS hl
  rw [w_X8_wipe] at h
  refine lv_aload_n hx hb dX8_wipe_0 rfl (lv_at hl 0 rfl) ?_
  refine g_get (v := .ref (P 27)) hx hb hts inG_X8 hown hK hP (kX_lt (rfl : kdX 0 = 8)) (eX8 (rfl : kdX 0 = 8)) rfl 2 (by decide) G_fl_X8_28 rfl rfl dX8_wipe_1 ?_
  refine g_get (v := .int (S.1 27 1)) hx hb hts inG_X7 hown hK hP (kX_lt (rfl : kdX 27 = 7)) (eX7 (rfl : kdX 27 = 7)) rfl 1 (by decide) G_fl_X8_226 rfl rfl dX8_wipe_4 ?_
  refine lv_topi (fun x1 ex1 => ?_)
  replace h := h x1 ex1
  refine lv_istore_n (lv' := [(1, .int x1), (0, .ref (P 0))]) hx hb dX8_wipe_7 rfl hl (by decide) rfl (fun ls hl => ?_)
  refine lv_aload_n hx hb dX8_wipe_8 rfl (lv_at hl 1 rfl) ?_
  refine g_get (v := .ref (P 27)) hx hb hts inG_X8 hown hK hP (kX_lt (rfl : kdX 0 = 8)) (eX8 (rfl : kdX 0 = 8)) rfl 2 (by decide) G_fl_X8_28 rfl rfl dX8_wipe_9 ?_
  refine va_callv (va_runV (As := []) (rest := []) ⟨hx, hb, hml, hown, hts⟩ (c_X7_clear l hI h) (cwV 0 hts gv_X8_206 rfl rfl rfl hv_X7_clear ⟨Nat.le_of_ble_eq_true rfl, Nat.le_of_ble_eq_true rfl⟩) (preV_X hKX hP hS (kX_lt (rfl : kdX 27 = 7)) (eX7 (rfl : kdX 27 = 7)) rfl) rfl rfl hl.1 rfl (lv_room (Nat.le_of_ble_eq_true rfl)) dX8_wipe_12 ⟨Nat.le_of_ble_eq_true rfl, Nat.le_of_ble_eq_true rfl⟩) hS (fun _ _ h => h) (fun _ h => h) (fun S2 t H locs ht _ h hB _ _ hS => ?_)
  have hP : VX dC dI cA P S2 H := by rw [← ht]; exact hB
  refine lv_iload_n hx hb dX8_wipe_15 rfl (lv_at hl 0 rfl) ?_
  exact g_iret hx hb hr hlocks h hP hS dX8_wipe_16
set_option maxRecDepth 100000 in
set_option maxHeartbeats 4000000 in
theorem c_X8_wipe (l : Launch) {dC : Nat → ClassId} {dI : Nat → Nat → Nat} {cA : Nat → ClassId} {adK adV P : Nat → Nat} (hI : PInj 56 P)   {post : Int32 → St → Prop} {S : St} (h : w_X8_wipe  post S) : Met l yX8_wipe (wW yX8_wipe cX8_wipe 2 (some .int)) ({ frames := 1, cells := 0, slots := 0, locals := 20 } : Room) (va_Pc [.ref (P 0)] (PreX dC dI cA adK adV P S)) (va_Qi post (fun u t => VX dC dI cA P u t.heap) (PA 56 P)) 0 0 (PA 56 P) := by
  refine Met.ofW (cc := cX8_wipe) (maxL := 2) (ret := (some .int)) (by decide) rfl ?_
  intro p e s m args below meth c s₁ B hml hv
  obtain ⟨rfl, hP, hKX⟩ := hv
  have hts : ∀ w ∈ G, w.before [.ref (P 0)].toArray s = true := fun w hw => atoms_spec (ws := wW yX8_wipe cX8_wipe 2 (some .int)) B.pre w (List.mem_cons_of_mem _ hw)
  have C : CtxX dC dI cA adK adV P p s m [.ref (P 0)].toArray meth c cX8_wipe 2 (some .int) RX8 := ⟨hI, hKX, ⟨B.exec, B.bytes, hml, findClass_of_methodNamed B.named, hts⟩, B.returns, B.notSynchronized⟩
  have hS : va_S (PA 56 P) s.heap s.heap [] := va_S.rf
  have hl := lv_entry ([.ref (P 0)]) (n := 2) (Nat.le_of_ble_eq_true rfl)
  rw [lg_entry_eq]
  generalize (lg_sl ([.ref (P 0)]) ++ List.replicate (2 - (lg_sl ([.ref (P 0)])).length) Slot.unset).toArray = ls at hl ⊢
  have hl : lv_has ls 2 [(0, .ref (P 0))] := hl
  exact e_X8_wipe C  _ _ _ _ h  hP hS hl
set_option maxRecDepth 100000 in
set_option maxHeartbeats 4000000 in
theorem e_X8_spell {p : Program} {l : Launch} {e : Env} {s : State} {m : MethodId} {args : Array Value} {below : List Frame} {meth : Method} {c : Code} {dC : Nat → ClassId} {dI : Nat → Nat → Nat} {cA : Nat → ClassId} {adK adV P : Nat → Nat} (C : CtxX dC dI cA adK adV P p s m args meth c cX8_spell 5 (some .int) RX8) {post : Int32 → St → Prop} : ∀ (v1 : Int32) (v2 : Int32) (S : St) (H : Heap) (locs : List Loc) (ls : Array Slot), w_X8_spell v1 v2 post S → VX dC dI cA P S H → va_S (PA 56 P) s.heap H locs → lv_has ls 5 [(0, .ref (P 0)), (1, .int v1), (2, .int v2)] → W p l e ({ frames := 4, cells := 0, slots := 0, locals := 90 } : Room) s m args below meth c H locs 0 0 (MQ below (va_Qi post (fun u t => VX dC dI cA P u t.heap) (PA 56 P)) args s 0 0 (PA 56 P)) (F0 m 0 ls []) := by
  have C := C
  obtain ⟨hI, hKX, ⟨hx, hb, hml, hown, hts⟩, hr, hlocks⟩ := id C
  have hK := hKX.1
  intro v1 v2 S H locs ls h hP hS hl
  rw [w_X8_spell] at h
  refine lv_aload_n hx hb dX8_spell_0 rfl (lv_at hl 0 rfl) ?_
  refine g_get (v := .ref (P 1)) hx hb hts inG_X8 hown hK hP (kX_lt (rfl : kdX 0 = 8)) (eX8 (rfl : kdX 0 = 8)) rfl 0 (by decide) G_fl_X8_12 rfl rfl dX8_spell_1 ?_
  refine lv_iload_n hx hb dX8_spell_4 rfl (lv_at hl 1 rfl) ?_
  refine va_callq (va_runV (As := [.int _]) (rest := []) ⟨hx, hb, hml, hown, hts⟩ (c_X6_at l hI (rfl : kdX 1 = 6) h) (cwV 1 hts gv_X8_97 rfl rfl rfl hv_X6_at ⟨Nat.le_of_ble_eq_true rfl, Nat.le_of_ble_eq_true rfl⟩) (preV_X hKX hP hS (kX_lt (rfl : kdX 1 = 6)) (eX6 (rfl : kdX 1 = 6)) rfl) rfl rfl hl.1 rfl (lv_room (Nat.le_of_ble_eq_true rfl)) dX8_spell_5 ⟨Nat.le_of_ble_eq_true rfl, Nat.le_of_ble_eq_true rfl⟩) hS (fun _ _ h => h) (fun _ h => h) (fun q S1 t H locs ht _ h hB _ _ hS => ?_)
  have hP : VX dC dI cA P S1 H := by rw [← ht]; exact hB
  obtain ⟨o2, rfl, hko, h⟩ := h
  rcases o2 with _ | k3
  · replace h := h.1 rfl
    refine lv_astore_nN (lv' := [(3, .null), (0, .ref (P 0)), (1, .int v1), (2, .int v2)]) hx hb dX8_spell_8 rfl hl (by decide) rfl (fun ls hl => ?_)
    refine lv_aload_nN hx hb dX8_spell_9 rfl (lv_at hl 0 rfl) ?_
    refine lv_ifnullN (tgt := 18) hx hb dX8_spell_10 (by decide) ?_
    refine lv_iconst (v := (-1)) hx hb dX8_spell_18 (by decide) ?_
    exact g_iret hx hb hr hlocks h hP hS dX8_spell_19
  · have hk4 := hko k3 rfl
    replace h := h.2 k3 rfl
    refine lv_astore_n (lv' := [(3, .ref (P k3)), (0, .ref (P 0)), (1, .int v1), (2, .int v2)]) hx hb dX8_spell_8 rfl hl (by decide) rfl (fun ls hl => ?_)
    refine lv_aload_n hx hb dX8_spell_9 rfl (lv_at hl 0 rfl) ?_
    refine lv_ifnull hx hb dX8_spell_10 ?_
    refine lv_iload_n hx hb dX8_spell_13 rfl (lv_at hl 3 rfl) ?_
    refine lv_iconst (v := (-1)) hx hb dX8_spell_14 (by decide) ?_
    refine lv_icmp_ge (tgt := 20) hx hb dX8_spell_15 (by decide) (fun c5 => ?_) (fun c5 => ?_)
    · replace h := h.1 c5
      refine lv_aload_n hx hb dX8_spell_20 rfl (lv_at hl 0 rfl) ?_
      refine va_calli (va_runV (As := []) (rest := []) ⟨hx, hb, hml, hown, hts⟩ (c_X1_spelledLength l hI hk4 h) (cwV 0 hts gv_X8_230 rfl rfl rfl hv_X1_spelledLength ⟨Nat.le_of_ble_eq_true rfl, Nat.le_of_ble_eq_true rfl⟩) (preV_X hKX hP hS (kX_lt hk4) (eX1 hk4) rfl) rfl rfl hl.1 rfl (lv_room (Nat.le_of_ble_eq_true rfl)) dX8_spell_21 ⟨Nat.le_of_ble_eq_true rfl, Nat.le_of_ble_eq_true rfl⟩) hS (fun _ _ h => h) (fun _ h => h) (fun r7 S6 t H locs ht _ h hB _ _ hS => ?_)
      have hP : VX dC dI cA P S6 H := by rw [← ht]; exact hB
      refine lv_istore (lv' := [(4, .int r7), (3, .ref (P k3)), (0, .ref (P 0)), (1, .int v1), (2, .int v2)]) hx hb dX8_spell_24 hl (by decide) rfl (fun ls hl => ?_)
      refine lv_iload_n hx hb dX8_spell_26 rfl (lv_at hl 4 rfl) ?_
      refine lv_iconst (v := (-1)) hx hb dX8_spell_27 (by decide) ?_
      refine lv_icmp_ne (tgt := 34) hx hb dX8_spell_28 (by decide) (fun c8 => ?_) (fun c8 => ?_)
      · replace h := h.2 c8
        refine lv_iload_n hx hb dX8_spell_34 rfl (lv_at hl 4 rfl) ?_
        refine lv_iload hx hb dX8_spell_35 (lv_at hl 0 rfl) ?_
        refine lv_icmp_ge (tgt := 48) hx hb dX8_spell_37 (by decide) (fun c9 => ?_) (fun c9 => ?_)
        · replace h := h.1 c9
          refine lv_bipush (v := (-2)) hx hb dX8_spell_48 (by decide) ?_
          exact g_iret hx hb hr hlocks h hP hS dX8_spell_50
        · replace h := h.2 c9
          refine lv_aload_n hx hb dX8_spell_40 rfl (lv_at hl 1 rfl) ?_
          refine lv_iload_n hx hb dX8_spell_41 rfl (lv_at hl 4 rfl) ?_
          refine va_calli (va_runV (As := [.int _]) (rest := []) ⟨hx, hb, hml, hown, hts⟩ (c_X1_spelledByte l hI hk4 h) (cwV 1 hts gv_X8_233 rfl rfl rfl hv_X1_spelledByte ⟨Nat.le_of_ble_eq_true rfl, Nat.le_of_ble_eq_true rfl⟩) (preV_X hKX hP hS (kX_lt hk4) (eX1 hk4) rfl) rfl rfl hl.1 rfl (lv_room (Nat.le_of_ble_eq_true rfl)) dX8_spell_42 ⟨Nat.le_of_ble_eq_true rfl, Nat.le_of_ble_eq_true rfl⟩) hS (fun _ _ h => h) (fun _ h => h) (fun r11 S10 t H locs ht _ h hB _ _ hS => ?_)
          have hP : VX dC dI cA P S10 H := by rw [← ht]; exact hB
          refine lv_goto (tgt := 50) hx hb dX8_spell_45 (by decide) ?_
          exact g_iret hx hb hr hlocks h hP hS dX8_spell_50
      · replace h := h.1 c8
        refine lv_iload hx hb dX8_spell_31 (lv_at hl 0 rfl) ?_
        exact g_iret hx hb hr hlocks h hP hS dX8_spell_33
    · replace h := h.2 c5
      refine lv_iconst (v := (-1)) hx hb dX8_spell_18 (by decide) ?_
      exact g_iret hx hb hr hlocks h hP hS dX8_spell_19
set_option maxRecDepth 100000 in
set_option maxHeartbeats 4000000 in
theorem c_X8_spell (l : Launch) {dC : Nat → ClassId} {dI : Nat → Nat → Nat} {cA : Nat → ClassId} {adK adV P : Nat → Nat} (hI : PInj 56 P) {v1 : Int32} {v2 : Int32}  {post : Int32 → St → Prop} {S : St} (h : w_X8_spell v1 v2 post S) : Met l yX8_spell (wW yX8_spell cX8_spell 5 (some .int)) ({ frames := 4, cells := 0, slots := 0, locals := 90 } : Room) (va_Pc [.ref (P 0), .int v1, .int v2] (PreX dC dI cA adK adV P S)) (va_Qi post (fun u t => VX dC dI cA P u t.heap) (PA 56 P)) 0 0 (PA 56 P) := by
  refine Met.ofW (cc := cX8_spell) (maxL := 5) (ret := (some .int)) (by decide) rfl ?_
  intro p e s m args below meth c s₁ B hml hv
  obtain ⟨rfl, hP, hKX⟩ := hv
  have hts : ∀ w ∈ G, w.before [.ref (P 0), .int v1, .int v2].toArray s = true := fun w hw => atoms_spec (ws := wW yX8_spell cX8_spell 5 (some .int)) B.pre w (List.mem_cons_of_mem _ hw)
  have C : CtxX dC dI cA adK adV P p s m [.ref (P 0), .int v1, .int v2].toArray meth c cX8_spell 5 (some .int) RX8 := ⟨hI, hKX, ⟨B.exec, B.bytes, hml, findClass_of_methodNamed B.named, hts⟩, B.returns, B.notSynchronized⟩
  have hS : va_S (PA 56 P) s.heap s.heap [] := va_S.rf
  have hl := lv_entry ([.ref (P 0), .int v1, .int v2]) (n := 5) (Nat.le_of_ble_eq_true rfl)
  rw [lg_entry_eq]
  generalize (lg_sl ([.ref (P 0), .int v1, .int v2]) ++ List.replicate (5 - (lg_sl ([.ref (P 0), .int v1, .int v2])).length) Slot.unset).toArray = ls at hl ⊢
  have hl : lv_has ls 5 [(0, .ref (P 0)), (1, .int v1), (2, .int v2)] := hl
  exact e_X8_spell C _ _ _ _ _ _ h  hP hS hl
set_option maxRecDepth 100000 in
set_option maxHeartbeats 4000000 in
theorem e_X8_read {p : Program} {l : Launch} {e : Env} {s : State} {m : MethodId} {args : Array Value} {below : List Frame} {meth : Method} {c : Code} {dC : Nat → ClassId} {dI : Nat → Nat → Nat} {cA : Nat → ClassId} {adK adV P : Nat → Nat} (C : CtxX dC dI cA adK adV P p s m args meth c cX8_read 3 (some .int) RX8) {post : Int32 → St → Prop} : ∀ (v1 : Int32) (S : St) (H : Heap) (locs : List Loc) (ls : Array Slot), w_X8_read v1 post S → VX dC dI cA P S H → va_S (PA 56 P) s.heap H locs → lv_has ls 3 [(0, .ref (P 0)), (1, .int v1)] → W p l e ({ frames := 6, cells := 0, slots := 0, locals := 135 } : Room) s m args below meth c H locs 0 0 (MQ below (va_Qi post (fun u t => VX dC dI cA P u t.heap) (PA 56 P)) args s 0 0 (PA 56 P)) (F0 m 0 ls []) := by
  have C := C
  obtain ⟨hI, hKX, ⟨hx, hb, hml, hown, hts⟩, hr, hlocks⟩ := id C
  have hK := hKX.1
  intro v1 S H locs ls h hP hS hl
  rw [w_X8_read] at h
  refine lv_iload_n hx hb dX8_read_0 rfl (lv_at hl 1 rfl) ?_
  refine va_calli (va_runS (As := [.int _]) (rest := []) ⟨hx, hb, hml, hown, hts⟩ (c_X8_isBase l hI h) (va_cwS 1 hts gs_X8_85 rfl rfl rfl hd_X8_isBase ⟨Nat.le_of_ble_eq_true rfl, Nat.le_of_ble_eq_true rfl⟩) (preS_X hKX hP hS) rfl rfl hl.1 rfl (lv_room (Nat.le_of_ble_eq_true rfl)) dX8_read_1 ⟨Nat.le_of_ble_eq_true rfl, Nat.le_of_ble_eq_true rfl⟩) hS (fun _ _ h => h) (fun _ h => h) (fun r2 S1 t H locs ht _ h hB _ _ hS => ?_)
  have hP : VX dC dI cA P S1 H := by rw [← ht]; exact hB
  refine lv_if_ne (tgt := 9) hx hb dX8_read_4 (by decide) (fun c3 => ?_) (fun c3 => ?_)
  · replace h := h.2 c3
    refine lv_aload_n hx hb dX8_read_9 rfl (lv_at hl 0 rfl) ?_
    refine g_get (v := .ref (P 29)) hx hb hts inG_X8 hown hK hP (kX_lt (rfl : kdX 0 = 8)) (eX8 (rfl : kdX 0 = 8)) rfl 3 (by decide) G_fl_X8_35 rfl rfl dX8_read_10 ?_
    refine lv_aload_n hx hb dX8_read_13 rfl (lv_at hl 0 rfl) ?_
    refine g_get (v := .ref (P 27)) hx hb hts inG_X8 hown hK hP (kX_lt (rfl : kdX 0 = 8)) (eX8 (rfl : kdX 0 = 8)) rfl 2 (by decide) G_fl_X8_28 rfl rfl dX8_read_14 ?_
    refine lv_iload_n hx hb dX8_read_17 rfl (lv_at hl 1 rfl) ?_
    refine va_calli (va_runV (As := [.ref _, .int _]) (rest := []) ⟨hx, hb, hml, hown, hts⟩ (c_X3_parse l hI h) (cwV 2 hts gv_X8_236 rfl rfl rfl hv_X3_parse ⟨Nat.le_of_ble_eq_true rfl, Nat.le_of_ble_eq_true rfl⟩) (preV_X hKX hP hS (kX_lt (rfl : kdX 29 = 3)) (eX3 (rfl : kdX 29 = 3)) rfl) rfl rfl hl.1 rfl (lv_room (Nat.le_of_ble_eq_true rfl)) dX8_read_18 ⟨Nat.le_of_ble_eq_true rfl, Nat.le_of_ble_eq_true rfl⟩) hS (fun _ _ h => h) (fun _ h => h) (fun r5 S4 t H locs ht _ h hB _ _ hS => ?_)
    have hP : VX dC dI cA P S4 H := by rw [← ht]; exact hB
    refine lv_istore_n (lv' := [(2, .int r5), (0, .ref (P 0)), (1, .int v1)]) hx hb dX8_read_21 rfl hl (by decide) rfl (fun ls hl => ?_)
    refine lv_aload_n hx hb dX8_read_22 rfl (lv_at hl 1 rfl) ?_
    refine g_get (v := .ref (P 27)) hx hb hts inG_X8 hown hK hP (kX_lt (rfl : kdX 0 = 8)) (eX8 (rfl : kdX 0 = 8)) rfl 2 (by decide) G_fl_X8_28 rfl rfl dX8_read_23 ?_
    refine va_callv (va_runV (As := []) (rest := []) ⟨hx, hb, hml, hown, hts⟩ (c_X7_clear l hI h) (cwV 0 hts gv_X8_206 rfl rfl rfl hv_X7_clear ⟨Nat.le_of_ble_eq_true rfl, Nat.le_of_ble_eq_true rfl⟩) (preV_X hKX hP hS (kX_lt (rfl : kdX 27 = 7)) (eX7 (rfl : kdX 27 = 7)) rfl) rfl rfl hl.1 rfl (lv_room (Nat.le_of_ble_eq_true rfl)) dX8_read_26 ⟨Nat.le_of_ble_eq_true rfl, Nat.le_of_ble_eq_true rfl⟩) hS (fun _ _ h => h) (fun _ h => h) (fun S6 t H locs ht _ h hB _ _ hS => ?_)
    have hP : VX dC dI cA P S6 H := by rw [← ht]; exact hB
    refine lv_iload_n hx hb dX8_read_29 rfl (lv_at hl 0 rfl) ?_
    refine lv_iconst (v := (-1)) hx hb dX8_read_30 (by decide) ?_
    refine lv_icmp_eq (tgt := 40) hx hb dX8_read_31 (by decide) (fun c7 => ?_) (fun c7 => ?_)
    · replace h := h.1 c7
      refine lv_aload_n hx hb dX8_read_40 rfl (lv_at hl 1 rfl) ?_
      refine lv_aload_n hx hb dX8_read_41 rfl (lv_at hl 1 rfl) ?_
      refine g_get (v := .ref (P 29)) hx hb hts inG_X8 hown hK hP (kX_lt (rfl : kdX 0 = 8)) (eX8 (rfl : kdX 0 = 8)) rfl 3 (by decide) G_fl_X8_35 rfl rfl dX8_read_42 ?_
      refine g_get (v := .long (S6.2 29 0)) hx hb hts inG_X3 hown hK hP (kX_lt (rfl : kdX 29 = 3)) (eX3 (rfl : kdX 29 = 3)) rfl 0 (by decide) G_fl_X8_239 rfl rfl dX8_read_45 ?_
      refine lv_aload_n hx hb dX8_read_48 rfl (lv_at hl 1 rfl) ?_
      refine g_get (v := .ref (P 29)) hx hb hts inG_X8 hown hK hP (kX_lt (rfl : kdX 0 = 8)) (eX8 (rfl : kdX 0 = 8)) rfl 3 (by decide) G_fl_X8_35 rfl rfl dX8_read_49 ?_
      refine g_get (v := .long (S6.2 29 1)) hx hb hts inG_X3 hown hK hP (kX_lt (rfl : kdX 29 = 3)) (eX3 (rfl : kdX 29 = 3)) rfl 1 (by decide) G_fl_X8_242 rfl rfl dX8_read_52 ?_
      refine lv_iload_n hx hb dX8_read_55 rfl (lv_at hl 2 rfl) ?_
      replace h := h _ rfl
      replace h := h _ rfl
      refine va_calli (va_runV (As := [.long _, .long _, .int _]) (rest := []) ⟨hx, hb, hml, hown, hts⟩ (c_X8_addInLowestTerms l hI h) (cwV 3 hts gv_X8_115 rfl rfl rfl hv_X8_addInLowestTerms ⟨Nat.le_of_ble_eq_true rfl, Nat.le_of_ble_eq_true rfl⟩) (preV_X hKX hP hS (kX_lt (rfl : kdX 0 = 8)) (eX8 (rfl : kdX 0 = 8)) rfl) rfl rfl hl.1 rfl (lv_room (Nat.le_of_ble_eq_true rfl)) dX8_read_56 ⟨Nat.le_of_ble_eq_true rfl, Nat.le_of_ble_eq_true rfl⟩) hS (fun _ _ h => h) (fun _ h => h) (fun r11 S10 t H locs ht _ h hB _ _ hS => ?_)
      have hP : VX dC dI cA P S10 H := by rw [← ht]; exact hB
      exact g_iret hx hb hr hlocks h hP hS dX8_read_59
    · replace h := h.2 c7
      refine lv_sipush (v := (-1000)) hx hb dX8_read_34 (by decide) ?_
      refine lv_iload_n hx hb dX8_read_37 rfl (lv_at hl 0 rfl) ?_
      refine lv_isub hx hb dX8_read_38 ?_
      exact g_iret hx hb hr hlocks h hP hS dX8_read_39
  · replace h := h.1 c3
    refine lv_iconst (v := (-1)) hx hb dX8_read_7 (by decide) ?_
    exact g_iret hx hb hr hlocks h hP hS dX8_read_8
set_option maxRecDepth 100000 in
set_option maxHeartbeats 4000000 in
theorem c_X8_read (l : Launch) {dC : Nat → ClassId} {dI : Nat → Nat → Nat} {cA : Nat → ClassId} {adK adV P : Nat → Nat} (hI : PInj 56 P) {v1 : Int32}  {post : Int32 → St → Prop} {S : St} (h : w_X8_read v1 post S) : Met l yX8_read (wW yX8_read cX8_read 3 (some .int)) ({ frames := 6, cells := 0, slots := 0, locals := 135 } : Room) (va_Pc [.ref (P 0), .int v1] (PreX dC dI cA adK adV P S)) (va_Qi post (fun u t => VX dC dI cA P u t.heap) (PA 56 P)) 0 0 (PA 56 P) := by
  refine Met.ofW (cc := cX8_read) (maxL := 3) (ret := (some .int)) (by decide) rfl ?_
  intro p e s m args below meth c s₁ B hml hv
  obtain ⟨rfl, hP, hKX⟩ := hv
  have hts : ∀ w ∈ G, w.before [.ref (P 0), .int v1].toArray s = true := fun w hw => atoms_spec (ws := wW yX8_read cX8_read 3 (some .int)) B.pre w (List.mem_cons_of_mem _ hw)
  have C : CtxX dC dI cA adK adV P p s m [.ref (P 0), .int v1].toArray meth c cX8_read 3 (some .int) RX8 := ⟨hI, hKX, ⟨B.exec, B.bytes, hml, findClass_of_methodNamed B.named, hts⟩, B.returns, B.notSynchronized⟩
  have hS : va_S (PA 56 P) s.heap s.heap [] := va_S.rf
  have hl := lv_entry ([.ref (P 0), .int v1]) (n := 3) (Nat.le_of_ble_eq_true rfl)
  rw [lg_entry_eq]
  generalize (lg_sl ([.ref (P 0), .int v1]) ++ List.replicate (3 - (lg_sl ([.ref (P 0), .int v1])).length) Slot.unset).toArray = ls at hl ⊢
  have hl : lv_has ls 3 [(0, .ref (P 0)), (1, .int v1)] := hl
  exact e_X8_read C _ _ _ _ _ h  hP hS hl
