set_option maxRecDepth 100000 in
set_option maxHeartbeats 4000000 in
theorem e_X9_shift {p : Program} {l : Launch} {e : Env} {s : State} {m : MethodId} {args : Array Value} {below : List Frame} {meth : Method} {c : Code} {dC : Nat → ClassId} {dI : Nat → Nat → Nat} {cA : Nat → ClassId} {P : Nat → Nat} (C : CtxM dC dI cA P p s m args meth c cX9_shift 3 (some .int) RX9) {post : Int32 → St → Prop} : ∀ (v1 : Int32) (v2 : Int32) (S : St) (H : Heap) (locs : List Loc) (ls : Array Slot), w_X9_shift v1 v2 post S → VM dC dI cA P S H → va_S (PA 25 P) s.heap H locs → lv_has ls 3 [(0, .ref (P 0)), (1, .int v1), (2, .int v2)] → W p l e ({ frames := 3, cells := 0, slots := 0, locals := 69 } : Room) s m args below meth c H locs 0 0 (MQ below (va_Qi post (fun u t => VM dC dI cA P u t.heap) (PA 25 P)) args s 0 0 (PA 25 P)) (F0 m 0 ls []) := by
  have C := C
  obtain ⟨hI, hKX, ⟨hx, hb, hml, hown, hts⟩, hr, hlocks⟩ := id C
  have hK := hKX
  intro v1 v2 S H locs ls h hP hS hl
  rw [w_X9_shift] at h
  refine lv_aload_n hx hb dX9_shift_0 rfl (lv_at hl 0 rfl) ?_
  refine lv_iload_n hx hb dX9_shift_1 rfl (lv_at hl 1 rfl) ?_
  refine va_calli (va_runV (As := [.int _]) (rest := []) ⟨hx, hb, hml, hown, hts⟩ (c_X9_isFraction l hI h) (cwV 1 hts gv_X9_126 rfl rfl rfl hv_X9_isFraction ⟨Nat.le_of_ble_eq_true rfl, Nat.le_of_ble_eq_true rfl⟩) (preV_M hKX hP hS (kM_lt (rfl : kdM 0 = 9)) (eM9 (rfl : kdM 0 = 9)) rfl) rfl rfl hl.1 rfl (lv_room (Nat.le_of_ble_eq_true rfl)) dX9_shift_2 ⟨Nat.le_of_ble_eq_true rfl, Nat.le_of_ble_eq_true rfl⟩) hS (fun _ _ h => h) (fun _ h => h) (fun r2 S1 t H locs ht _ h hB _ _ hS => ?_)
  have hP : VM dC dI cA P S1 H := by rw [← ht]; exact hB
  refine lv_if_eq (tgt := 20) hx hb dX9_shift_5 (by decide) (fun c3 => ?_) (fun c3 => ?_)
  · replace h := h.1 c3
    refine lv_iconst (v := (-1)) hx hb dX9_shift_20 (by decide) ?_
    exact g_iret hx hb hr hlocks h hP hS dX9_shift_21
  · replace h := h.2 c3
    refine lv_iload_n hx hb dX9_shift_8 rfl (lv_at hl 2 rfl) ?_
    refine lv_i2l hx hb dX9_shift_9 rfl ?_
    refine lv_lconst (v := 1) hx hb dX9_shift_10 (by decide) ?_
    refine lv_ldc2 (v := 999) hx hb hown (hts _ G_co_X9_116) dX9_shift_11 ?_
    replace h := h _ rfl
    refine va_calli (va_runS (As := [.long _, .long _, .long _]) (rest := []) ⟨hx, hb, hml, hown, hts⟩ (c_X9_isIn l hI h) (va_cwS 3 hts gs_X9_92 rfl rfl rfl hd_X9_isIn ⟨Nat.le_of_ble_eq_true rfl, Nat.le_of_ble_eq_true rfl⟩) (preS_M hKX hP hS) rfl rfl hl.1 rfl (lv_room (Nat.le_of_ble_eq_true rfl)) dX9_shift_14 ⟨Nat.le_of_ble_eq_true rfl, Nat.le_of_ble_eq_true rfl⟩) hS (fun _ _ h => h) (fun _ h => h) (fun r6 S5 t H locs ht _ h hB _ _ hS => ?_)
    have hP : VM dC dI cA P S5 H := by rw [← ht]; exact hB
    refine lv_if_ne (tgt := 22) hx hb dX9_shift_17 (by decide) (fun c7 => ?_) (fun c7 => ?_)
    · replace h := h.2 c7
      refine lv_aload_n hx hb dX9_shift_22 rfl (lv_at hl 0 rfl) ?_
      refine lv_iload_n hx hb dX9_shift_23 rfl (lv_at hl 1 rfl) ?_
      refine va_callv (va_runV (As := [.int _]) (rest := []) ⟨hx, hb, hml, hown, hts⟩ (c_X9_keepsRing l hI h) (cwV 1 hts gv_X9_177 rfl rfl rfl hv_X9_keepsRing ⟨Nat.le_of_ble_eq_true rfl, Nat.le_of_ble_eq_true rfl⟩) (preV_M hKX hP hS (kM_lt (rfl : kdM 0 = 9)) (eM9 (rfl : kdM 0 = 9)) rfl) rfl rfl hl.1 rfl (lv_room (Nat.le_of_ble_eq_true rfl)) dX9_shift_24 ⟨Nat.le_of_ble_eq_true rfl, Nat.le_of_ble_eq_true rfl⟩) hS (fun _ _ h => h) (fun _ h => h) (fun S8 t H locs ht _ h hB _ _ hS => ?_)
      have hP : VM dC dI cA P S8 H := by rw [← ht]; exact hB
      refine lv_aload_n hx hb dX9_shift_27 rfl (lv_at hl 0 rfl) ?_
      refine lv_iload_n hx hb dX9_shift_28 rfl (lv_at hl 1 rfl) ?_
      refine lv_iload_n hx hb dX9_shift_29 rfl (lv_at hl 2 rfl) ?_
      refine va_calli (va_runV (As := [.int _, .int _]) (rest := []) ⟨hx, hb, hml, hown, hts⟩ (c_X9_shiftNow l hI h) (cwV 2 hts gv_X9_180 rfl rfl rfl hv_X9_shiftNow ⟨Nat.le_of_ble_eq_true rfl, Nat.le_of_ble_eq_true rfl⟩) (preV_M hKX hP hS (kM_lt (rfl : kdM 0 = 9)) (eM9 (rfl : kdM 0 = 9)) rfl) rfl rfl hl.1 rfl (lv_room (Nat.le_of_ble_eq_true rfl)) dX9_shift_30 ⟨Nat.le_of_ble_eq_true rfl, Nat.le_of_ble_eq_true rfl⟩) hS (fun _ _ h => h) (fun _ h => h) (fun r10 S9 t H locs ht _ h hB _ _ hS => ?_)
      have hP : VM dC dI cA P S9 H := by rw [← ht]; exact hB
      exact g_iret hx hb hr hlocks h hP hS dX9_shift_33
    · replace h := h.1 c7
      refine lv_iconst (v := (-1)) hx hb dX9_shift_20 (by decide) ?_
      exact g_iret hx hb hr hlocks h hP hS dX9_shift_21
set_option maxRecDepth 100000 in
set_option maxHeartbeats 4000000 in
theorem c_X9_shift (l : Launch) {dC : Nat → ClassId} {dI : Nat → Nat → Nat} {cA : Nat → ClassId} {P : Nat → Nat} (hI : PInj 25 P) {v1 : Int32} {v2 : Int32}  {post : Int32 → St → Prop} {S : St} (h : w_X9_shift v1 v2 post S) : Met l yX9_shift (wW yX9_shift cX9_shift 3 (some .int)) ({ frames := 3, cells := 0, slots := 0, locals := 69 } : Room) (va_Pc [.ref (P 0), .int v1, .int v2] (PreM dC dI cA P S)) (va_Qi post (fun u t => VM dC dI cA P u t.heap) (PA 25 P)) 0 0 (PA 25 P) := by
  refine Met.ofW (cc := cX9_shift) (maxL := 3) (ret := (some .int)) (by decide) rfl ?_
  intro p e s m args below meth c s₁ B hml hv
  obtain ⟨rfl, hP, hKX⟩ := hv
  have hts : ∀ w ∈ G, w.before [.ref (P 0), .int v1, .int v2].toArray s = true := fun w hw => atoms_spec (ws := wW yX9_shift cX9_shift 3 (some .int)) B.pre w (List.mem_cons_of_mem _ hw)
  have C : CtxM dC dI cA P p s m [.ref (P 0), .int v1, .int v2].toArray meth c cX9_shift 3 (some .int) RX9 := ⟨hI, hKX, ⟨B.exec, B.bytes, hml, findClass_of_methodNamed B.named, hts⟩, B.returns, B.notSynchronized⟩
  have hS : va_S (PA 25 P) s.heap s.heap [] := va_S.rf
  have hl := lv_entry ([.ref (P 0), .int v1, .int v2]) (n := 3) (Nat.le_of_ble_eq_true rfl)
  rw [lg_entry_eq]
  generalize (lg_sl ([.ref (P 0), .int v1, .int v2]) ++ List.replicate (3 - (lg_sl ([.ref (P 0), .int v1, .int v2])).length) Slot.unset).toArray = ls at hl ⊢
  have hl : lv_has ls 3 [(0, .ref (P 0)), (1, .int v1), (2, .int v2)] := hl
  exact e_X9_shift C _ _ _ _ _ _ h  hP hS hl
set_option maxRecDepth 100000 in
set_option maxHeartbeats 4000000 in
theorem b_X9_multiple_35 {p : Program} {l : Launch} {e : Env} {s : State} {m : MethodId} {args : Array Value} {below : List Frame} {meth : Method} {c : Code} {dC : Nat → ClassId} {dI : Nat → Nat → Nat} {cA : Nat → ClassId} {P : Nat → Nat} (C : CtxM dC dI cA P p s m args meth c cX9_multiple 4 (some .int) RX9) {post : Int32 → St → Prop}  : ∀ (n : Nat) (v1 : Int32) (v2 : Int32) (v3 : Int32) (S : St) (H : Heap) (locs : List Loc) (ls : Array Slot), w_X9_multiple_35 post n v1 v2 v3 S → VM dC dI cA P S H → va_S (PA 25 P) s.heap H locs → lv_has ls 4 [(0, .ref (P 0)), (1, .int v1), (2, .int v2), (3, .int v3)] → W p l e ({ frames := 3, cells := 0, slots := 0, locals := 69 } : Room) s m args below meth c H locs 0 0 (MQ below (va_Qi post (fun u t => VM dC dI cA P u t.heap) (PA 25 P)) args s 0 0 (PA 25 P)) (F0 m 35 ls []) := by
  have C := C
  obtain ⟨hI, hKX, ⟨hx, hb, hml, hown, hts⟩, hr, hlocks⟩ := id C
  have hK := hKX
  intro n
  induction n with
  | zero =>
    intro v1 v2 v3 S H locs ls h hP hS hl
    simp only [w_X9_multiple_35] at h
  | succ n ih =>
    intro v1 v2 v3 S H locs ls h hP hS hl
    rw [w_X9_multiple_35] at h
    refine lv_iload_n hx hb dX9_multiple_35 rfl (lv_at hl 3 rfl) ?_
    refine lv_sipush (v := 999) hx hb dX9_multiple_36 (by decide) ?_
    refine lv_icmp_gt (tgt := 60) hx hb dX9_multiple_39 (by decide) (fun c10 => ?_) (fun c10 => ?_)
    · replace h := h.1 c10
      refine lv_bipush (v := (-2)) hx hb dX9_multiple_60 (by decide) ?_
      exact g_iret hx hb hr hlocks h hP hS dX9_multiple_62
    · replace h := h.2 c10
      refine lv_aload_n hx hb dX9_multiple_42 rfl (lv_at hl 0 rfl) ?_
      refine lv_iload_n hx hb dX9_multiple_43 rfl (lv_at hl 1 rfl) ?_
      refine lv_iload_n hx hb dX9_multiple_44 rfl (lv_at hl 3 rfl) ?_
      refine va_calli (va_runV (As := [.int _, .int _]) (rest := []) ⟨hx, hb, hml, hown, hts⟩ (c_X9_shiftNow l hI h) (cwV 2 hts gv_X9_180 rfl rfl rfl hv_X9_shiftNow ⟨Nat.le_of_ble_eq_true rfl, Nat.le_of_ble_eq_true rfl⟩) (preV_M hKX hP hS (kM_lt (rfl : kdM 0 = 9)) (eM9 (rfl : kdM 0 = 9)) rfl) rfl rfl hl.1 rfl (lv_room (Nat.le_of_ble_eq_true rfl)) dX9_multiple_45 ⟨Nat.le_of_ble_eq_true rfl, Nat.le_of_ble_eq_true rfl⟩) hS (fun _ _ h => h) (fun _ h => h) (fun r12 S11 t H locs ht _ h hB _ _ hS => ?_)
      have hP : VM dC dI cA P S11 H := by rw [← ht]; exact hB
      refine lv_iload_n hx hb dX9_multiple_48 rfl (lv_at hl 2 rfl) ?_
      refine lv_icmp_ne (tgt := 54) hx hb dX9_multiple_49 (by decide) (fun c13 => ?_) (fun c13 => ?_)
      · replace h := h.2 c13
        obtain ⟨x14, ex14⟩ : ∃ y : Int32, y = v3 + 1 := ⟨_, rfl⟩
        replace h := h x14 ex14
        refine lv_iinc (v := x14) (lv' := [(3, .int x14), (0, .ref (P 0)), (1, .int v1), (2, .int v2)]) hx hb dX9_multiple_54 hl (k := 3) rfl (by rw [ex14]; rfl) (by decide) rfl (fun ls hl => ?_)
        refine lv_goto (tgt := 35) hx hb dX9_multiple_57 (by decide) ?_
        exact ih _ _ _ _ _ _ _ h  hP hS (lv_sub hl [1, 2, 3, 0] rfl)
      · replace h := h.1 c13
        refine lv_iload_n hx hb dX9_multiple_52 rfl (lv_at hl 3 rfl) ?_
        exact g_iret hx hb hr hlocks h hP hS dX9_multiple_53
set_option maxRecDepth 100000 in
set_option maxHeartbeats 4000000 in
theorem e_X9_multiple {p : Program} {l : Launch} {e : Env} {s : State} {m : MethodId} {args : Array Value} {below : List Frame} {meth : Method} {c : Code} {dC : Nat → ClassId} {dI : Nat → Nat → Nat} {cA : Nat → ClassId} {P : Nat → Nat} (C : CtxM dC dI cA P p s m args meth c cX9_multiple 4 (some .int) RX9) {post : Int32 → St → Prop} : ∀ (v1 : Int32) (v2 : Int32) (S : St) (H : Heap) (locs : List Loc) (ls : Array Slot), w_X9_multiple v1 v2 post S → VM dC dI cA P S H → va_S (PA 25 P) s.heap H locs → lv_has ls 4 [(0, .ref (P 0)), (1, .int v1), (2, .int v2)] → W p l e ({ frames := 3, cells := 0, slots := 0, locals := 69 } : Room) s m args below meth c H locs 0 0 (MQ below (va_Qi post (fun u t => VM dC dI cA P u t.heap) (PA 25 P)) args s 0 0 (PA 25 P)) (F0 m 0 ls []) := by
  have C := C
  obtain ⟨hI, hKX, ⟨hx, hb, hml, hown, hts⟩, hr, hlocks⟩ := id C
  have hK := hKX
  intro v1 v2 S H locs ls h hP hS hl
  rw [w_X9_multiple] at h
  refine lv_aload_n hx hb dX9_multiple_0 rfl (lv_at hl 0 rfl) ?_
  refine lv_iload_n hx hb dX9_multiple_1 rfl (lv_at hl 1 rfl) ?_
  refine va_calli (va_runV (As := [.int _]) (rest := []) ⟨hx, hb, hml, hown, hts⟩ (c_X9_isFraction l hI h) (cwV 1 hts gv_X9_126 rfl rfl rfl hv_X9_isFraction ⟨Nat.le_of_ble_eq_true rfl, Nat.le_of_ble_eq_true rfl⟩) (preV_M hKX hP hS (kM_lt (rfl : kdM 0 = 9)) (eM9 (rfl : kdM 0 = 9)) rfl) rfl rfl hl.1 rfl (lv_room (Nat.le_of_ble_eq_true rfl)) dX9_multiple_2 ⟨Nat.le_of_ble_eq_true rfl, Nat.le_of_ble_eq_true rfl⟩) hS (fun _ _ h => h) (fun _ h => h) (fun r2 S1 t H locs ht _ h hB _ _ hS => ?_)
  have hP : VM dC dI cA P S1 H := by rw [← ht]; exact hB
  refine lv_if_ne (tgt := 10) hx hb dX9_multiple_5 (by decide) (fun c3 => ?_) (fun c3 => ?_)
  · replace h := h.2 c3
    refine lv_aload_n hx hb dX9_multiple_10 rfl (lv_at hl 0 rfl) ?_
    refine lv_iload_n hx hb dX9_multiple_11 rfl (lv_at hl 1 rfl) ?_
    refine va_callv (va_runV (As := [.int _]) (rest := []) ⟨hx, hb, hml, hown, hts⟩ (c_X9_keepsRing l hI h) (cwV 1 hts gv_X9_177 rfl rfl rfl hv_X9_keepsRing ⟨Nat.le_of_ble_eq_true rfl, Nat.le_of_ble_eq_true rfl⟩) (preV_M hKX hP hS (kM_lt (rfl : kdM 0 = 9)) (eM9 (rfl : kdM 0 = 9)) rfl) rfl rfl hl.1 rfl (lv_room (Nat.le_of_ble_eq_true rfl)) dX9_multiple_12 ⟨Nat.le_of_ble_eq_true rfl, Nat.le_of_ble_eq_true rfl⟩) hS (fun _ _ h => h) (fun _ h => h) (fun S4 t H locs ht _ h hB _ _ hS => ?_)
    have hP : VM dC dI cA P S4 H := by rw [← ht]; exact hB
    refine lv_iload_n hx hb dX9_multiple_15 rfl (lv_at hl 2 rfl) ?_
    refine lv_i2l hx hb dX9_multiple_16 rfl ?_
    refine lv_lconst (v := 0) hx hb dX9_multiple_17 (by decide) ?_
    refine lv_aload_n hx hb dX9_multiple_18 rfl (lv_at hl 0 rfl) ?_
    refine g_get (v := .int (S4.1 0 13)) hx hb hts inG_X9 hown hK hP (kM_lt (rfl : kdM 0 = 9)) (eM9 (rfl : kdM 0 = 9)) rfl 13 (by decide) G_fl_X9_174 rfl rfl dX9_multiple_19 ?_
    refine lv_iconst (v := 1) hx hb dX9_multiple_22 (by decide) ?_
    refine lv_isub hx hb dX9_multiple_23 ?_
    refine lv_i2l hx hb dX9_multiple_24 rfl ?_
    replace h := h _ rfl
    replace h := h _ rfl
    refine va_calli (va_runS (As := [.long _, .long _, .long _]) (rest := []) ⟨hx, hb, hml, hown, hts⟩ (c_X9_isIn l hI h) (va_cwS 3 hts gs_X9_92 rfl rfl rfl hd_X9_isIn ⟨Nat.le_of_ble_eq_true rfl, Nat.le_of_ble_eq_true rfl⟩) (preS_M hKX hP hS) rfl rfl hl.1 rfl (lv_room (Nat.le_of_ble_eq_true rfl)) dX9_multiple_25 ⟨Nat.le_of_ble_eq_true rfl, Nat.le_of_ble_eq_true rfl⟩) hS (fun _ _ h => h) (fun _ h => h) (fun r8 S7 t H locs ht _ h hB _ _ hS => ?_)
    have hP : VM dC dI cA P S7 H := by rw [← ht]; exact hB
    refine lv_if_ne (tgt := 33) hx hb dX9_multiple_28 (by decide) (fun c9 => ?_) (fun c9 => ?_)
    · replace h := h.2 c9
      refine lv_iconst (v := 2) hx hb dX9_multiple_33 (by decide) ?_
      refine lv_istore_n (lv' := [(3, .int 2), (0, .ref (P 0)), (1, .int v1), (2, .int v2)]) hx hb dX9_multiple_34 rfl hl (by decide) rfl (fun ls hl => ?_)
      obtain ⟨n15, h⟩ := h
      exact b_X9_multiple_35 C n15 _ _ _ _ _ _ _ h  hP hS (lv_sub hl [1, 2, 3, 0] rfl)
    · replace h := h.1 c9
      refine lv_iconst (v := (-1)) hx hb dX9_multiple_31 (by decide) ?_
      exact g_iret hx hb hr hlocks h hP hS dX9_multiple_32
  · replace h := h.1 c3
    refine lv_iconst (v := (-1)) hx hb dX9_multiple_8 (by decide) ?_
    exact g_iret hx hb hr hlocks h hP hS dX9_multiple_9
set_option maxRecDepth 100000 in
set_option maxHeartbeats 4000000 in
theorem c_X9_multiple (l : Launch) {dC : Nat → ClassId} {dI : Nat → Nat → Nat} {cA : Nat → ClassId} {P : Nat → Nat} (hI : PInj 25 P) {v1 : Int32} {v2 : Int32}  {post : Int32 → St → Prop} {S : St} (h : w_X9_multiple v1 v2 post S) : Met l yX9_multiple (wW yX9_multiple cX9_multiple 4 (some .int)) ({ frames := 3, cells := 0, slots := 0, locals := 69 } : Room) (va_Pc [.ref (P 0), .int v1, .int v2] (PreM dC dI cA P S)) (va_Qi post (fun u t => VM dC dI cA P u t.heap) (PA 25 P)) 0 0 (PA 25 P) := by
  refine Met.ofW (cc := cX9_multiple) (maxL := 4) (ret := (some .int)) (by decide) rfl ?_
  intro p e s m args below meth c s₁ B hml hv
  obtain ⟨rfl, hP, hKX⟩ := hv
  have hts : ∀ w ∈ G, w.before [.ref (P 0), .int v1, .int v2].toArray s = true := fun w hw => atoms_spec (ws := wW yX9_multiple cX9_multiple 4 (some .int)) B.pre w (List.mem_cons_of_mem _ hw)
  have C : CtxM dC dI cA P p s m [.ref (P 0), .int v1, .int v2].toArray meth c cX9_multiple 4 (some .int) RX9 := ⟨hI, hKX, ⟨B.exec, B.bytes, hml, findClass_of_methodNamed B.named, hts⟩, B.returns, B.notSynchronized⟩
  have hS : va_S (PA 25 P) s.heap s.heap [] := va_S.rf
  have hl := lv_entry ([.ref (P 0), .int v1, .int v2]) (n := 4) (Nat.le_of_ble_eq_true rfl)
  rw [lg_entry_eq]
  generalize (lg_sl ([.ref (P 0), .int v1, .int v2]) ++ List.replicate (4 - (lg_sl ([.ref (P 0), .int v1, .int v2])).length) Slot.unset).toArray = ls at hl ⊢
  have hl : lv_has ls 4 [(0, .ref (P 0)), (1, .int v1), (2, .int v2)] := hl
  exact e_X9_multiple C _ _ _ _ _ _ h  hP hS hl
set_option maxRecDepth 100000 in
set_option maxHeartbeats 4000000 in
theorem b_X9_order_43 {p : Program} {l : Launch} {e : Env} {s : State} {m : MethodId} {args : Array Value} {below : List Frame} {meth : Method} {c : Code} {dC : Nat → ClassId} {dI : Nat → Nat → Nat} {cA : Nat → ClassId} {P : Nat → Nat} (C : CtxM dC dI cA P p s m args meth c cX9_order 5 (some .int) RX9) {post : Int32 → St → Prop}  : ∀ (n : Nat) (v1 : Int32) (v2 : Int32) (v3 : Int32) (v4 : Int32) (S : St) (H : Heap) (locs : List Loc) (ls : Array Slot), w_X9_order_43 post n v1 v2 v3 v4 S → VM dC dI cA P S H → va_S (PA 25 P) s.heap H locs → lv_has ls 5 [(1, .int v1), (2, .int v2), (3, .int v3), (4, .int v4)] → W p l e ({ frames := 2, cells := 0, slots := 0, locals := 45 } : Room) s m args below meth c H locs 0 0 (MQ below (va_Qi post (fun u t => VM dC dI cA P u t.heap) (PA 25 P)) args s 0 0 (PA 25 P)) (F0 m 43 ls []) := by
  have C := C
  obtain ⟨hI, hKX, ⟨hx, hb, hml, hown, hts⟩, hr, hlocks⟩ := id C
  have hK := hKX
  intro n
  induction n with
  | zero =>
    intro v1 v2 v3 v4 S H locs ls h hP hS hl
    simp only [w_X9_order_43] at h
  | succ n ih =>
    intro v1 v2 v3 v4 S H locs ls h hP hS hl
    rw [w_X9_order_43] at h
    refine lv_iload hx hb dX9_order_43 (lv_at hl 3 rfl) ?_
    refine lv_iconst (v := 1) hx hb dX9_order_45 (by decide) ?_
    refine lv_iload_n hx hb dX9_order_46 rfl (lv_at hl 1 rfl) ?_
    refine lv_irem hx hb dX9_order_47 h.1 ?_
    replace h := h.2
    refine lv_icmp_eq (tgt := 65) hx hb dX9_order_48 (by decide) (fun c14 => ?_) (fun c14 => ?_)
    · replace h := h.1 c14
      refine lv_iload_n hx hb dX9_order_65 rfl (lv_at hl 2 rfl) ?_
      exact g_iret hx hb hr hlocks h hP hS dX9_order_66
    · replace h := h.2 c14
      refine lv_iload hx hb dX9_order_51 (lv_at hl 3 rfl) ?_
      refine lv_iload_n hx hb dX9_order_53 rfl (lv_at hl 0 rfl) ?_
      refine lv_imul hx hb dX9_order_54 ?_
      refine lv_iload_n hx hb dX9_order_55 rfl (lv_at hl 1 rfl) ?_
      refine lv_irem hx hb dX9_order_56 h.1 ?_
      replace h := h.2
      refine lv_topi (fun x15 ex15 => ?_)
      replace h := h x15 ex15
      refine lv_istore (lv' := [(4, .int x15), (1, .int v1), (2, .int v2), (3, .int v3)]) hx hb dX9_order_57 hl (by decide) rfl (fun ls hl => ?_)
      obtain ⟨x16, ex16⟩ : ∃ y : Int32, y = v3 + 1 := ⟨_, rfl⟩
      replace h := h x16 ex16
      refine lv_iinc (v := x16) (lv' := [(3, .int x16), (4, .int x15), (1, .int v1), (2, .int v2)]) hx hb dX9_order_59 hl (k := 3) rfl (by rw [ex16]; rfl) (by decide) rfl (fun ls hl => ?_)
      refine lv_goto (tgt := 43) hx hb dX9_order_62 (by decide) ?_
      exact ih _ _ _ _ _ _ _ _ h  hP hS (lv_sub hl [2, 3, 0, 1] rfl)
set_option maxRecDepth 100000 in
set_option maxHeartbeats 4000000 in
theorem e_X9_order {p : Program} {l : Launch} {e : Env} {s : State} {m : MethodId} {args : Array Value} {below : List Frame} {meth : Method} {c : Code} {dC : Nat → ClassId} {dI : Nat → Nat → Nat} {cA : Nat → ClassId} {P : Nat → Nat} (C : CtxM dC dI cA P p s m args meth c cX9_order 5 (some .int) RX9) {post : Int32 → St → Prop} : ∀ (v1 : Int32) (v2 : Int32) (S : St) (H : Heap) (locs : List Loc) (ls : Array Slot), w_X9_order v1 v2 post S → VM dC dI cA P S H → va_S (PA 25 P) s.heap H locs → lv_has ls 5 [(0, .ref (P 0)), (1, .int v1), (2, .int v2)] → W p l e ({ frames := 2, cells := 0, slots := 0, locals := 45 } : Room) s m args below meth c H locs 0 0 (MQ below (va_Qi post (fun u t => VM dC dI cA P u t.heap) (PA 25 P)) args s 0 0 (PA 25 P)) (F0 m 0 ls []) := by
  have C := C
  obtain ⟨hI, hKX, ⟨hx, hb, hml, hown, hts⟩, hr, hlocks⟩ := id C
  have hK := hKX
  intro v1 v2 S H locs ls h hP hS hl
  rw [w_X9_order] at h
  refine lv_iload_n hx hb dX9_order_0 rfl (lv_at hl 1 rfl) ?_
  refine va_calli (va_runS (As := [.int _]) (rest := []) ⟨hx, hb, hml, hown, hts⟩ (c_X9_isBase l hI h) (va_cwS 1 hts gs_X9_118 rfl rfl rfl hd_X9_isBase ⟨Nat.le_of_ble_eq_true rfl, Nat.le_of_ble_eq_true rfl⟩) (preS_M hKX hP hS) rfl rfl hl.1 rfl (lv_room (Nat.le_of_ble_eq_true rfl)) dX9_order_1 ⟨Nat.le_of_ble_eq_true rfl, Nat.le_of_ble_eq_true rfl⟩) hS (fun _ _ h => h) (fun _ h => h) (fun r2 S1 t H locs ht _ h hB _ _ hS => ?_)
  have hP : VM dC dI cA P S1 H := by rw [← ht]; exact hB
  refine lv_if_eq (tgt := 19) hx hb dX9_order_4 (by decide) (fun c3 => ?_) (fun c3 => ?_)
  · replace h := h.1 c3
    refine lv_iconst (v := (-1)) hx hb dX9_order_19 (by decide) ?_
    exact g_iret hx hb hr hlocks h hP hS dX9_order_20
  · replace h := h.2 c3
    refine lv_iload_n hx hb dX9_order_7 rfl (lv_at hl 2 rfl) ?_
    refine lv_i2l hx hb dX9_order_8 rfl ?_
    refine lv_lconst (v := 1) hx hb dX9_order_9 (by decide) ?_
    refine lv_ldc2 (v := 9999) hx hb hown (hts _ G_co_X9_114) dX9_order_10 ?_
    replace h := h _ rfl
    refine va_calli (va_runS (As := [.long _, .long _, .long _]) (rest := []) ⟨hx, hb, hml, hown, hts⟩ (c_X9_isIn l hI h) (va_cwS 3 hts gs_X9_92 rfl rfl rfl hd_X9_isIn ⟨Nat.le_of_ble_eq_true rfl, Nat.le_of_ble_eq_true rfl⟩) (preS_M hKX hP hS) rfl rfl hl.1 rfl (lv_room (Nat.le_of_ble_eq_true rfl)) dX9_order_13 ⟨Nat.le_of_ble_eq_true rfl, Nat.le_of_ble_eq_true rfl⟩) hS (fun _ _ h => h) (fun _ h => h) (fun r6 S5 t H locs ht _ h hB _ _ hS => ?_)
    have hP : VM dC dI cA P S5 H := by rw [← ht]; exact hB
    refine lv_if_ne (tgt := 21) hx hb dX9_order_16 (by decide) (fun c7 => ?_) (fun c7 => ?_)
    · replace h := h.2 c7
      refine lv_iload_n hx hb dX9_order_21 rfl (lv_at hl 1 rfl) ?_
      refine lv_i2l hx hb dX9_order_22 rfl ?_
      refine lv_iload_n hx hb dX9_order_23 rfl (lv_at hl 2 rfl) ?_
      refine lv_i2l hx hb dX9_order_24 rfl ?_
      replace h := h _ rfl
      replace h := h _ rfl
      refine va_calll (va_runS (As := [.long _, .long _]) (rest := []) ⟨hx, hb, hml, hown, hts⟩ (c_X9_divisor l hI h) (va_cwS 2 hts gs_X9_129 rfl rfl rfl hd_X9_divisor ⟨Nat.le_of_ble_eq_true rfl, Nat.le_of_ble_eq_true rfl⟩) (preS_M hKX hP hS) rfl rfl hl.1 rfl (lv_room (Nat.le_of_ble_eq_true rfl)) dX9_order_25 ⟨Nat.le_of_ble_eq_true rfl, Nat.le_of_ble_eq_true rfl⟩) hS (fun _ _ h => h) (fun _ h => h) (fun r11 S10 t H locs ht _ h hB _ _ hS => ?_)
      have hP : VM dC dI cA P S10 H := by rw [← ht]; exact hB
      refine lv_lconst (v := 1) hx hb dX9_order_28 (by decide) ?_
      refine W.lcmp hx hb dX9_order_29 ?_
      refine lv_if_le (tgt := 36) hx hb dX9_order_30 (by decide) (fun c12 => ?_) (fun c12 => ?_)
      · replace h := h.1 ((lg_cmp_le _ _).mp c12)
        refine lv_iconst (v := 1) hx hb dX9_order_36 (by decide) ?_
        refine lv_istore_n (lv' := [(3, .int 1), (0, .ref (P 0)), (1, .int v1), (2, .int v2)]) hx hb dX9_order_37 rfl hl (by decide) rfl (fun ls hl => ?_)
        refine lv_iload_n hx hb dX9_order_38 rfl (lv_at hl 2 rfl) ?_
        refine lv_iload_n hx hb dX9_order_39 rfl (lv_at hl 3 rfl) ?_
        refine lv_irem hx hb dX9_order_40 h.1 ?_
        replace h := h.2
        refine lv_topi (fun x13 ex13 => ?_)
        replace h := h x13 ex13
        refine lv_istore (lv' := [(4, .int x13), (3, .int 1), (0, .ref (P 0)), (1, .int v1), (2, .int v2)]) hx hb dX9_order_41 hl (by decide) rfl (fun ls hl => ?_)
        obtain ⟨n17, h⟩ := h
        exact b_X9_order_43 C n17 _ _ _ _ _ _ _ _ h  hP hS (lv_sub hl [3, 4, 1, 0] rfl)
      · replace h := h.2 (fun z => c12 ((lg_cmp_le _ _).mpr z))
        refine lv_bipush (v := (-2)) hx hb dX9_order_33 (by decide) ?_
        exact g_iret hx hb hr hlocks h hP hS dX9_order_35
    · replace h := h.1 c7
      refine lv_iconst (v := (-1)) hx hb dX9_order_19 (by decide) ?_
      exact g_iret hx hb hr hlocks h hP hS dX9_order_20
set_option maxRecDepth 100000 in
set_option maxHeartbeats 4000000 in
theorem c_X9_order (l : Launch) {dC : Nat → ClassId} {dI : Nat → Nat → Nat} {cA : Nat → ClassId} {P : Nat → Nat} (hI : PInj 25 P) {v1 : Int32} {v2 : Int32}  {post : Int32 → St → Prop} {S : St} (h : w_X9_order v1 v2 post S) : Met l yX9_order (wW yX9_order cX9_order 5 (some .int)) ({ frames := 2, cells := 0, slots := 0, locals := 45 } : Room) (va_Pc [.ref (P 0), .int v1, .int v2] (PreM dC dI cA P S)) (va_Qi post (fun u t => VM dC dI cA P u t.heap) (PA 25 P)) 0 0 (PA 25 P) := by
  refine Met.ofW (cc := cX9_order) (maxL := 5) (ret := (some .int)) (by decide) rfl ?_
  intro p e s m args below meth c s₁ B hml hv
  obtain ⟨rfl, hP, hKX⟩ := hv
  have hts : ∀ w ∈ G, w.before [.ref (P 0), .int v1, .int v2].toArray s = true := fun w hw => atoms_spec (ws := wW yX9_order cX9_order 5 (some .int)) B.pre w (List.mem_cons_of_mem _ hw)
  have C : CtxM dC dI cA P p s m [.ref (P 0), .int v1, .int v2].toArray meth c cX9_order 5 (some .int) RX9 := ⟨hI, hKX, ⟨B.exec, B.bytes, hml, findClass_of_methodNamed B.named, hts⟩, B.returns, B.notSynchronized⟩
  have hS : va_S (PA 25 P) s.heap s.heap [] := va_S.rf
  have hl := lv_entry ([.ref (P 0), .int v1, .int v2]) (n := 5) (Nat.le_of_ble_eq_true rfl)
  rw [lg_entry_eq]
  generalize (lg_sl ([.ref (P 0), .int v1, .int v2]) ++ List.replicate (5 - (lg_sl ([.ref (P 0), .int v1, .int v2])).length) Slot.unset).toArray = ls at hl ⊢
  have hl : lv_has ls 5 [(0, .ref (P 0)), (1, .int v1), (2, .int v2)] := hl
  exact e_X9_order C _ _ _ _ _ _ h  hP hS hl
set_option maxRecDepth 100000 in
set_option maxHeartbeats 4000000 in
theorem b_X9_cycles_138 {p : Program} {l : Launch} {e : Env} {s : State} {m : MethodId} {args : Array Value} {below : List Frame} {meth : Method} {c : Code} {dC : Nat → ClassId} {dI : Nat → Nat → Nat} {cA : Nat → ClassId} {P : Nat → Nat} (C : CtxM dC dI cA P p s m args meth c cX9_cycles 9 (some .int) RX9) {post : Int32 → St → Prop} {K80 : Int32 → Int32 → Int32 → Int32 → Int32 → Int32 → St → Prop} (hK80 : ∀ (v1 : Int32) (v2 : Int32) (v3 : Int32) (v4 : Int32) (v5 : Int32) (v6 : Int32) (S : St) (H : Heap) (locs : List Loc) (ls : Array Slot), K80 v1 v2 v3 v4 v5 v6 S → VM dC dI cA P S H → va_S (PA 25 P) s.heap H locs → lv_has ls 9 [(0, .ref (P 0)), (1, .int v1), (2, .int v2), (3, .int v3), (4, .int v4), (5, .int v5), (6, .int v6)] → W p l e ({ frames := 2, cells := 0, slots := 0, locals := 45 } : Room) s m args below meth c H locs 0 0 (MQ below (va_Qi post (fun u t => VM dC dI cA P u t.heap) (PA 25 P)) args s 0 0 (PA 25 P)) (F0 m 80 ls [])) : ∀ (v1 : Int32) (v2 : Int32) (v3 : Int32) (v5 : Int32) (v6 : Int32) (v7 : Int32) (y0 : Int32) (y1 : Int32) (S : St) (H : Heap) (locs : List Loc) (ls : Array Slot), w_X9_cycles_138 post K80 v1 v2 v3 v5 v6 v7 y0 y1 S → VM dC dI cA P S H → va_S (PA 25 P) s.heap H locs → lv_has ls 9 [(0, .ref (P 0)), (1, .int v1), (2, .int v2), (3, .int v3), (5, .int v5), (6, .int v6), (7, .int v7)] → W p l e ({ frames := 2, cells := 0, slots := 0, locals := 45 } : Room) s m args below meth c H locs 0 0 (MQ below (va_Qi post (fun u t => VM dC dI cA P u t.heap) (PA 25 P)) args s 0 0 (PA 25 P)) (F0 m 138 ls [.int y1, .int y0]) := by
  have C := C
  obtain ⟨hI, hKX, ⟨hx, hb, hml, hown, hts⟩, hr, hlocks⟩ := id C
  have hK := hKX
  intro v1 v2 v3 v5 v6 v7 y0 y1 S H locs ls h hP hS hl
  rw [w_X9_cycles_138] at h
  refine lv_iadd hx hb dX9_cycles_138 ?_
  refine lv_topi (fun x22 ex22 => ?_)
  replace h := h x22 ex22
  refine lv_istore (lv' := [(4, .int x22), (0, .ref (P 0)), (1, .int v1), (2, .int v2), (3, .int v3), (5, .int v5), (6, .int v6), (7, .int v7)]) hx hb dX9_cycles_139 hl (by decide) rfl (fun ls hl => ?_)
  refine lv_iload hx hb dX9_cycles_141 (lv_at hl 5 rfl) ?_
  refine lv_iload hx hb dX9_cycles_143 (lv_at hl 7 rfl) ?_
  refine va_mmax hx hb (hml.trans hl.1.symm) hown (hts _ G_ml_X9_183) (hts _ G_st_J9_max_7cf53) (hts _ G_in_J9) (hts _ G_cd_J9_max_7cf53) (Nat.le_of_ble_eq_true rfl) (Nat.le_of_ble_eq_true rfl) (Nat.le_of_ble_eq_true rfl) (Nat.le_of_ble_eq_true rfl) dX9_cycles_145 ?_
  refine lv_topi (fun x23 ex23 => ?_)
  replace h := h x23 ex23
  refine lv_istore (lv' := [(5, .int x23), (4, .int x22), (0, .ref (P 0)), (1, .int v1), (2, .int v2), (3, .int v3), (6, .int v6), (7, .int v7)]) hx hb dX9_cycles_148 hl (by decide) rfl (fun ls hl => ?_)
  obtain ⟨x24, ex24⟩ : ∃ y : Int32, y = v6 + 1 := ⟨_, rfl⟩
  replace h := h x24 ex24
  refine lv_iinc (v := x24) (lv' := [(6, .int x24), (5, .int x23), (4, .int x22), (0, .ref (P 0)), (1, .int v1), (2, .int v2), (3, .int v3), (7, .int v7)]) hx hb dX9_cycles_150 hl (k := 6) rfl (by rw [ex24]; rfl) (by decide) rfl (fun ls hl => ?_)
  refine lv_goto (tgt := 80) hx hb dX9_cycles_153 (by decide) ?_
  exact hK80 _ _ _ _ _ _ _ _ _ _ h  hP hS (lv_sub hl [3, 4, 5, 6, 2, 1, 0] rfl)
set_option maxRecDepth 100000 in
set_option maxHeartbeats 4000000 in
theorem b_X9_cycles_93 {p : Program} {l : Launch} {e : Env} {s : State} {m : MethodId} {args : Array Value} {below : List Frame} {meth : Method} {c : Code} {dC : Nat → ClassId} {dI : Nat → Nat → Nat} {cA : Nat → ClassId} {P : Nat → Nat} (C : CtxM dC dI cA P p s m args meth c cX9_cycles 9 (some .int) RX9) {post : Int32 → St → Prop} {K80 : Int32 → Int32 → Int32 → Int32 → Int32 → Int32 → St → Prop} (hK80 : ∀ (v1 : Int32) (v2 : Int32) (v3 : Int32) (v4 : Int32) (v5 : Int32) (v6 : Int32) (S : St) (H : Heap) (locs : List Loc) (ls : Array Slot), K80 v1 v2 v3 v4 v5 v6 S → VM dC dI cA P S H → va_S (PA 25 P) s.heap H locs → lv_has ls 9 [(0, .ref (P 0)), (1, .int v1), (2, .int v2), (3, .int v3), (4, .int v4), (5, .int v5), (6, .int v6)] → W p l e ({ frames := 2, cells := 0, slots := 0, locals := 45 } : Room) s m args below meth c H locs 0 0 (MQ below (va_Qi post (fun u t => VM dC dI cA P u t.heap) (PA 25 P)) args s 0 0 (PA 25 P)) (F0 m 80 ls [])) : ∀ (n : Nat) (v1 : Int32) (v2 : Int32) (v3 : Int32) (v4 : Int32) (v5 : Int32) (v6 : Int32) (v7 : Int32) (v8 : Int32) (S : St) (H : Heap) (locs : List Loc) (ls : Array Slot), w_X9_cycles_93 post K80 n v1 v2 v3 v4 v5 v6 v7 v8 S → VM dC dI cA P S H → va_S (PA 25 P) s.heap H locs → lv_has ls 9 [(0, .ref (P 0)), (1, .int v1), (2, .int v2), (3, .int v3), (4, .int v4), (5, .int v5), (6, .int v6), (7, .int v7), (8, .int v8)] → W p l e ({ frames := 2, cells := 0, slots := 0, locals := 45 } : Room) s m args below meth c H locs 0 0 (MQ below (va_Qi post (fun u t => VM dC dI cA P u t.heap) (PA 25 P)) args s 0 0 (PA 25 P)) (F0 m 93 ls []) := by
  have C := C
  obtain ⟨hI, hKX, ⟨hx, hb, hml, hown, hts⟩, hr, hlocks⟩ := id C
  have hK := hKX
  intro n
  induction n with
  | zero =>
    intro v1 v2 v3 v4 v5 v6 v7 v8 S H locs ls h hP hS hl
    simp only [w_X9_cycles_93] at h
  | succ n ih =>
    intro v1 v2 v3 v4 v5 v6 v7 v8 S H locs ls h hP hS hl
    rw [w_X9_cycles_93] at h
    refine lv_aload_n hx hb dX9_cycles_93 rfl (lv_at hl 0 rfl) ?_
    refine g_get (v := .ref (P 4)) hx hb hts inG_X9 hown hK hP (kM_lt (rfl : kdM 0 = 9)) (eM9 (rfl : kdM 0 = 9)) rfl 7 (by decide) G_fl_X9_21 rfl rfl dX9_cycles_94 ?_
    refine lv_iload hx hb dX9_cycles_97 (lv_at hl 8 rfl) ?_
    refine g_ald hx hb hK hP (kM_lt (rfl : kdM 4 = 10)) 0 (eM10 (rfl : kdM 4 = 10)) rfl h.1 dX9_cycles_99 ?_
    replace h := h.2
    refine lv_iconst (v := (-1)) hx hb dX9_cycles_100 (by decide) ?_
    refine lv_icmp_ne (tgt := 126) hx hb dX9_cycles_101 (by decide) (fun c20 => ?_) (fun c20 => ?_)
    · replace h := h.2 c20
      refine lv_iload hx hb dX9_cycles_126 (lv_at hl 4 rfl) ?_
      refine lv_iload hx hb dX9_cycles_128 (lv_at hl 7 rfl) ?_
      refine lv_if_le (tgt := 137) hx hb dX9_cycles_130 (by decide) (fun c21 => ?_) (fun c21 => ?_)
      · replace h := h.1 c21
        refine lv_iconst (v := 0) hx hb dX9_cycles_137 (by decide) ?_
        exact b_X9_cycles_138 C hK80 _ _ _ _ _ _ _ _ _ _ _ _ h  hP hS (lv_sub hl [0, 1, 2, 3, 5, 6, 7] rfl)
      · replace h := h.2 c21
        refine lv_iconst (v := 1) hx hb dX9_cycles_133 (by decide) ?_
        refine lv_goto (tgt := 138) hx hb dX9_cycles_134 (by decide) ?_
        exact b_X9_cycles_138 C hK80 _ _ _ _ _ _ _ _ _ _ _ _ h  hP hS (lv_sub hl [0, 1, 2, 3, 5, 6, 7] rfl)
    · replace h := h.1 c20
      refine lv_aload_n hx hb dX9_cycles_104 rfl (lv_at hl 0 rfl) ?_
      refine g_get (v := .ref (P 4)) hx hb hts inG_X9 hown hK hP (kM_lt (rfl : kdM 0 = 9)) (eM9 (rfl : kdM 0 = 9)) rfl 7 (by decide) G_fl_X9_21 rfl rfl dX9_cycles_105 ?_
      refine lv_iload hx hb dX9_cycles_108 (lv_at hl 8 rfl) ?_
      refine lv_iconst (v := 0) hx hb dX9_cycles_110 (by decide) ?_
      refine g_ast hx hb hK hI hP hS (kM_lt (rfl : kdM 4 = 10)) 0 (eM10 (rfl : kdM 4 = 10)) rfl h.1 h.2 dX9_cycles_111 (fun S25 H locs h hP hS => ?_)
      obtain ⟨x26, ex26⟩ : ∃ y : Int32, y = v7 + 1 := ⟨_, rfl⟩
      replace h := h x26 ex26
      refine lv_iinc (v := x26) (lv' := [(7, .int x26), (0, .ref (P 0)), (1, .int v1), (2, .int v2), (3, .int v3), (4, .int v4), (5, .int v5), (6, .int v6), (8, .int v8)]) hx hb dX9_cycles_112 hl (k := 7) rfl (by rw [ex26]; rfl) (by decide) rfl (fun ls hl => ?_)
      refine lv_iload hx hb dX9_cycles_115 (lv_at hl 8 rfl) ?_
      refine lv_iload_n hx hb dX9_cycles_117 rfl (lv_at hl 2 rfl) ?_
      refine lv_imul hx hb dX9_cycles_118 ?_
      refine lv_iload_n hx hb dX9_cycles_119 rfl (lv_at hl 3 rfl) ?_
      refine lv_irem hx hb dX9_cycles_120 h.1 ?_
      replace h := h.2
      refine lv_topi (fun x27 ex27 => ?_)
      replace h := h x27 ex27
      refine lv_istore (lv' := [(8, .int x27), (7, .int x26), (0, .ref (P 0)), (1, .int v1), (2, .int v2), (3, .int v3), (4, .int v4), (5, .int v5), (6, .int v6)]) hx hb dX9_cycles_121 hl (by decide) rfl (fun ls hl => ?_)
      refine lv_goto (tgt := 93) hx hb dX9_cycles_123 (by decide) ?_
      exact ih _ _ _ _ _ _ _ _ _ _ _ _ h  hP hS (lv_sub hl [2, 3, 4, 5, 6, 7, 8, 1, 0] rfl)
set_option maxRecDepth 100000 in
set_option maxHeartbeats 4000000 in
theorem b_X9_cycles_80 {p : Program} {l : Launch} {e : Env} {s : State} {m : MethodId} {args : Array Value} {below : List Frame} {meth : Method} {c : Code} {dC : Nat → ClassId} {dI : Nat → Nat → Nat} {cA : Nat → ClassId} {P : Nat → Nat} (C : CtxM dC dI cA P p s m args meth c cX9_cycles 9 (some .int) RX9) {post : Int32 → St → Prop}  : ∀ (n : Nat) (v1 : Int32) (v2 : Int32) (v3 : Int32) (v4 : Int32) (v5 : Int32) (v6 : Int32) (S : St) (H : Heap) (locs : List Loc) (ls : Array Slot), w_X9_cycles_80 post n v1 v2 v3 v4 v5 v6 S → VM dC dI cA P S H → va_S (PA 25 P) s.heap H locs → lv_has ls 9 [(0, .ref (P 0)), (1, .int v1), (2, .int v2), (3, .int v3), (4, .int v4), (5, .int v5), (6, .int v6)] → W p l e ({ frames := 2, cells := 0, slots := 0, locals := 45 } : Room) s m args below meth c H locs 0 0 (MQ below (va_Qi post (fun u t => VM dC dI cA P u t.heap) (PA 25 P)) args s 0 0 (PA 25 P)) (F0 m 80 ls []) := by
  have C := C
  obtain ⟨hI, hKX, ⟨hx, hb, hml, hown, hts⟩, hr, hlocks⟩ := id C
  have hK := hKX
  intro n
  induction n with
  | zero =>
    intro v1 v2 v3 v4 v5 v6 S H locs ls h hP hS hl
    simp only [w_X9_cycles_80] at h
  | succ n ih =>
    intro v1 v2 v3 v4 v5 v6 S H locs ls h hP hS hl
    rw [w_X9_cycles_80] at h
    refine lv_iload hx hb dX9_cycles_80 (lv_at hl 6 rfl) ?_
    refine lv_iload_n hx hb dX9_cycles_82 rfl (lv_at hl 2 rfl) ?_
    refine lv_icmp_ge (tgt := 156) hx hb dX9_cycles_83 (by decide) (fun c18 => ?_) (fun c18 => ?_)
    · replace h := h.1 c18
      refine lv_iload_n hx hb dX9_cycles_156 rfl (lv_at hl 3 rfl) ?_
      refine lv_if_ne (tgt := 165) hx hb dX9_cycles_157 (by decide) (fun c19 => ?_) (fun c19 => ?_)
      · replace h := h.2 c19
        refine lv_iload hx hb dX9_cycles_165 (lv_at hl 5 rfl) ?_
        exact g_iret hx hb hr hlocks h hP hS dX9_cycles_167
      · replace h := h.1 c19
        refine lv_iload hx hb dX9_cycles_160 (lv_at hl 4 rfl) ?_
        refine lv_goto (tgt := 167) hx hb dX9_cycles_162 (by decide) ?_
        exact g_iret hx hb hr hlocks h hP hS dX9_cycles_167
    · replace h := h.2 c18
      refine lv_iconst (v := 0) hx hb dX9_cycles_86 (by decide) ?_
      refine lv_istore (lv' := [(7, .int 0), (0, .ref (P 0)), (1, .int v1), (2, .int v2), (3, .int v3), (4, .int v4), (5, .int v5), (6, .int v6)]) hx hb dX9_cycles_87 hl (by decide) rfl (fun ls hl => ?_)
      refine lv_iload hx hb dX9_cycles_89 (lv_at hl 7 rfl) ?_
      refine lv_istore (lv' := [(8, .int v6), (7, .int 0), (0, .ref (P 0)), (1, .int v1), (2, .int v2), (3, .int v3), (4, .int v4), (5, .int v5), (6, .int v6)]) hx hb dX9_cycles_91 hl (by decide) rfl (fun ls hl => ?_)
      obtain ⟨n28, h⟩ := h
      exact b_X9_cycles_93 C ih n28 _ _ _ _ _ _ _ _ _ _ _ _ h  hP hS (lv_sub hl [2, 3, 4, 5, 6, 7, 8, 1, 0] rfl)
set_option maxRecDepth 100000 in
set_option maxHeartbeats 4000000 in
theorem b_X9_cycles_51 {p : Program} {l : Launch} {e : Env} {s : State} {m : MethodId} {args : Array Value} {below : List Frame} {meth : Method} {c : Code} {dC : Nat → ClassId} {dI : Nat → Nat → Nat} {cA : Nat → ClassId} {P : Nat → Nat} (C : CtxM dC dI cA P p s m args meth c cX9_cycles 9 (some .int) RX9) {post : Int32 → St → Prop}  : ∀ (n : Nat) (v1 : Int32) (v2 : Int32) (v3 : Int32) (v4 : Int32) (S : St) (H : Heap) (locs : List Loc) (ls : Array Slot), w_X9_cycles_51 post n v1 v2 v3 v4 S → VM dC dI cA P S H → va_S (PA 25 P) s.heap H locs → lv_has ls 9 [(0, .ref (P 0)), (1, .int v1), (2, .int v2), (3, .int v3), (4, .int v4)] → W p l e ({ frames := 2, cells := 0, slots := 0, locals := 45 } : Room) s m args below meth c H locs 0 0 (MQ below (va_Qi post (fun u t => VM dC dI cA P u t.heap) (PA 25 P)) args s 0 0 (PA 25 P)) (F0 m 51 ls []) := by
  have C := C
  obtain ⟨hI, hKX, ⟨hx, hb, hml, hown, hts⟩, hr, hlocks⟩ := id C
  have hK := hKX
  intro n
  induction n with
  | zero =>
    intro v1 v2 v3 v4 S H locs ls h hP hS hl
    simp only [w_X9_cycles_51] at h
  | succ n ih =>
    intro v1 v2 v3 v4 S H locs ls h hP hS hl
    rw [w_X9_cycles_51] at h
    refine lv_iload hx hb dX9_cycles_51 (lv_at hl 4 rfl) ?_
    refine lv_iload_n hx hb dX9_cycles_53 rfl (lv_at hl 2 rfl) ?_
    refine lv_icmp_ge (tgt := 71) hx hb dX9_cycles_54 (by decide) (fun c17 => ?_) (fun c17 => ?_)
    · replace h := h.1 c17
      refine lv_iconst (v := 0) hx hb dX9_cycles_71 (by decide) ?_
      refine lv_istore (lv' := [(4, .int 0), (0, .ref (P 0)), (1, .int v1), (2, .int v2), (3, .int v3)]) hx hb dX9_cycles_72 hl (by decide) rfl (fun ls hl => ?_)
      refine lv_iconst (v := 0) hx hb dX9_cycles_74 (by decide) ?_
      refine lv_istore (lv' := [(5, .int 0), (4, .int 0), (0, .ref (P 0)), (1, .int v1), (2, .int v2), (3, .int v3)]) hx hb dX9_cycles_75 hl (by decide) rfl (fun ls hl => ?_)
      refine lv_iconst (v := 1) hx hb dX9_cycles_77 (by decide) ?_
      refine lv_istore (lv' := [(6, .int 1), (5, .int 0), (4, .int 0), (0, .ref (P 0)), (1, .int v1), (2, .int v2), (3, .int v3)]) hx hb dX9_cycles_78 hl (by decide) rfl (fun ls hl => ?_)
      obtain ⟨n29, h⟩ := h
      exact b_X9_cycles_80 C n29 _ _ _ _ _ _ _ _ _ _ h  hP hS (lv_sub hl [3, 4, 5, 6, 2, 1, 0] rfl)
    · replace h := h.2 c17
      refine lv_aload_n hx hb dX9_cycles_57 rfl (lv_at hl 0 rfl) ?_
      refine g_get (v := .ref (P 4)) hx hb hts inG_X9 hown hK hP (kM_lt (rfl : kdM 0 = 9)) (eM9 (rfl : kdM 0 = 9)) rfl 7 (by decide) G_fl_X9_21 rfl rfl dX9_cycles_58 ?_
      refine lv_iload hx hb dX9_cycles_61 (lv_at hl 4 rfl) ?_
      refine lv_iconst (v := (-1)) hx hb dX9_cycles_63 (by decide) ?_
      refine g_ast hx hb hK hI hP hS (kM_lt (rfl : kdM 4 = 10)) 0 (eM10 (rfl : kdM 4 = 10)) rfl h.1 h.2 dX9_cycles_64 (fun S30 H locs h hP hS => ?_)
      obtain ⟨x31, ex31⟩ : ∃ y : Int32, y = v4 + 1 := ⟨_, rfl⟩
      replace h := h x31 ex31
      refine lv_iinc (v := x31) (lv' := [(4, .int x31), (0, .ref (P 0)), (1, .int v1), (2, .int v2), (3, .int v3)]) hx hb dX9_cycles_65 hl (k := 4) rfl (by rw [ex31]; rfl) (by decide) rfl (fun ls hl => ?_)
      refine lv_goto (tgt := 51) hx hb dX9_cycles_68 (by decide) ?_
      exact ih _ _ _ _ _ _ _ _ h  hP hS (lv_sub hl [1, 2, 3, 4, 0] rfl)
set_option maxRecDepth 100000 in
set_option maxHeartbeats 4000000 in
theorem e_X9_cycles {p : Program} {l : Launch} {e : Env} {s : State} {m : MethodId} {args : Array Value} {below : List Frame} {meth : Method} {c : Code} {dC : Nat → ClassId} {dI : Nat → Nat → Nat} {cA : Nat → ClassId} {P : Nat → Nat} (C : CtxM dC dI cA P p s m args meth c cX9_cycles 9 (some .int) RX9) {post : Int32 → St → Prop} : ∀ (v1 : Int32) (v2 : Int32) (v3 : Int32) (S : St) (H : Heap) (locs : List Loc) (ls : Array Slot), w_X9_cycles v1 v2 v3 post S → VM dC dI cA P S H → va_S (PA 25 P) s.heap H locs → lv_has ls 9 [(0, .ref (P 0)), (1, .int v1), (2, .int v2), (3, .int v3)] → W p l e ({ frames := 2, cells := 0, slots := 0, locals := 45 } : Room) s m args below meth c H locs 0 0 (MQ below (va_Qi post (fun u t => VM dC dI cA P u t.heap) (PA 25 P)) args s 0 0 (PA 25 P)) (F0 m 0 ls []) := by
  have C := C
  obtain ⟨hI, hKX, ⟨hx, hb, hml, hown, hts⟩, hr, hlocks⟩ := id C
  have hK := hKX
  intro v1 v2 v3 S H locs ls h hP hS hl
  rw [w_X9_cycles] at h
  refine lv_iload_n hx hb dX9_cycles_0 rfl (lv_at hl 1 rfl) ?_
  refine va_calli (va_runS (As := [.int _]) (rest := []) ⟨hx, hb, hml, hown, hts⟩ (c_X9_isBase l hI h) (va_cwS 1 hts gs_X9_118 rfl rfl rfl hd_X9_isBase ⟨Nat.le_of_ble_eq_true rfl, Nat.le_of_ble_eq_true rfl⟩) (preS_M hKX hP hS) rfl rfl hl.1 rfl (lv_room (Nat.le_of_ble_eq_true rfl)) dX9_cycles_1 ⟨Nat.le_of_ble_eq_true rfl, Nat.le_of_ble_eq_true rfl⟩) hS (fun _ _ h => h) (fun _ h => h) (fun r2 S1 t H locs ht _ h hB _ _ hS => ?_)
  have hP : VM dC dI cA P S1 H := by rw [← ht]; exact hB
  refine lv_if_eq (tgt := 31) hx hb dX9_cycles_4 (by decide) (fun c3 => ?_) (fun c3 => ?_)
  · replace h := h.1 c3
    refine lv_iconst (v := (-1)) hx hb dX9_cycles_31 (by decide) ?_
    exact g_iret hx hb hr hlocks h hP hS dX9_cycles_32
  · replace h := h.2 c3
    refine lv_iload_n hx hb dX9_cycles_7 rfl (lv_at hl 2 rfl) ?_
    refine lv_i2l hx hb dX9_cycles_8 rfl ?_
    refine lv_ldc2 (v := 2) hx hb hown (hts _ G_co_X9_96) dX9_cycles_9 ?_
    refine lv_ldc2 (v := 999) hx hb hown (hts _ G_co_X9_116) dX9_cycles_12 ?_
    replace h := h _ rfl
    refine va_calli (va_runS (As := [.long _, .long _, .long _]) (rest := []) ⟨hx, hb, hml, hown, hts⟩ (c_X9_isIn l hI h) (va_cwS 3 hts gs_X9_92 rfl rfl rfl hd_X9_isIn ⟨Nat.le_of_ble_eq_true rfl, Nat.le_of_ble_eq_true rfl⟩) (preS_M hKX hP hS) rfl rfl hl.1 rfl (lv_room (Nat.le_of_ble_eq_true rfl)) dX9_cycles_15 ⟨Nat.le_of_ble_eq_true rfl, Nat.le_of_ble_eq_true rfl⟩) hS (fun _ _ h => h) (fun _ h => h) (fun r6 S5 t H locs ht _ h hB _ _ hS => ?_)
    have hP : VM dC dI cA P S5 H := by rw [← ht]; exact hB
    refine lv_if_eq (tgt := 31) hx hb dX9_cycles_18 (by decide) (fun c7 => ?_) (fun c7 => ?_)
    · replace h := h.1 c7
      refine lv_iconst (v := (-1)) hx hb dX9_cycles_31 (by decide) ?_
      exact g_iret hx hb hr hlocks h hP hS dX9_cycles_32
    · replace h := h.2 c7
      refine lv_iload_n hx hb dX9_cycles_21 rfl (lv_at hl 3 rfl) ?_
      refine lv_i2l hx hb dX9_cycles_22 rfl ?_
      refine lv_lconst (v := 0) hx hb dX9_cycles_23 (by decide) ?_
      refine lv_lconst (v := 1) hx hb dX9_cycles_24 (by decide) ?_
      replace h := h _ rfl
      refine va_calli (va_runS (As := [.long _, .long _, .long _]) (rest := []) ⟨hx, hb, hml, hown, hts⟩ (c_X9_isIn l hI h) (va_cwS 3 hts gs_X9_92 rfl rfl rfl hd_X9_isIn ⟨Nat.le_of_ble_eq_true rfl, Nat.le_of_ble_eq_true rfl⟩) (preS_M hKX hP hS) rfl rfl hl.1 rfl (lv_room (Nat.le_of_ble_eq_true rfl)) dX9_cycles_25 ⟨Nat.le_of_ble_eq_true rfl, Nat.le_of_ble_eq_true rfl⟩) hS (fun _ _ h => h) (fun _ h => h) (fun r10 S9 t H locs ht _ h hB _ _ hS => ?_)
      have hP : VM dC dI cA P S9 H := by rw [← ht]; exact hB
      refine lv_if_ne (tgt := 33) hx hb dX9_cycles_28 (by decide) (fun c11 => ?_) (fun c11 => ?_)
      · replace h := h.2 c11
        refine lv_iload_n hx hb dX9_cycles_33 rfl (lv_at hl 1 rfl) ?_
        refine lv_i2l hx hb dX9_cycles_34 rfl ?_
        refine lv_iload_n hx hb dX9_cycles_35 rfl (lv_at hl 2 rfl) ?_
        refine lv_i2l hx hb dX9_cycles_36 rfl ?_
        replace h := h _ rfl
        replace h := h _ rfl
        refine va_calll (va_runS (As := [.long _, .long _]) (rest := []) ⟨hx, hb, hml, hown, hts⟩ (c_X9_divisor l hI h) (va_cwS 2 hts gs_X9_129 rfl rfl rfl hd_X9_divisor ⟨Nat.le_of_ble_eq_true rfl, Nat.le_of_ble_eq_true rfl⟩) (preS_M hKX hP hS) rfl rfl hl.1 rfl (lv_room (Nat.le_of_ble_eq_true rfl)) dX9_cycles_37 ⟨Nat.le_of_ble_eq_true rfl, Nat.le_of_ble_eq_true rfl⟩) hS (fun _ _ h => h) (fun _ h => h) (fun r15 S14 t H locs ht _ h hB _ _ hS => ?_)
        have hP : VM dC dI cA P S14 H := by rw [← ht]; exact hB
        refine lv_lconst (v := 1) hx hb dX9_cycles_40 (by decide) ?_
        refine W.lcmp hx hb dX9_cycles_41 ?_
        refine lv_if_le (tgt := 48) hx hb dX9_cycles_42 (by decide) (fun c16 => ?_) (fun c16 => ?_)
        · replace h := h.1 ((lg_cmp_le _ _).mp c16)
          refine lv_iconst (v := 0) hx hb dX9_cycles_48 (by decide) ?_
          refine lv_istore (lv' := [(4, .int 0), (0, .ref (P 0)), (1, .int v1), (2, .int v2), (3, .int v3)]) hx hb dX9_cycles_49 hl (by decide) rfl (fun ls hl => ?_)
          obtain ⟨n32, h⟩ := h
          exact b_X9_cycles_51 C n32 _ _ _ _ _ _ _ _ h  hP hS (lv_sub hl [1, 2, 3, 4, 0] rfl)
        · replace h := h.2 (fun z => c16 ((lg_cmp_le _ _).mpr z))
          refine lv_bipush (v := (-5)) hx hb dX9_cycles_45 (by decide) ?_
          exact g_iret hx hb hr hlocks h hP hS dX9_cycles_47
      · replace h := h.1 c11
        refine lv_iconst (v := (-1)) hx hb dX9_cycles_31 (by decide) ?_
        exact g_iret hx hb hr hlocks h hP hS dX9_cycles_32
set_option maxRecDepth 100000 in
set_option maxHeartbeats 4000000 in
theorem c_X9_cycles (l : Launch) {dC : Nat → ClassId} {dI : Nat → Nat → Nat} {cA : Nat → ClassId} {P : Nat → Nat} (hI : PInj 25 P) {v1 : Int32} {v2 : Int32} {v3 : Int32}  {post : Int32 → St → Prop} {S : St} (h : w_X9_cycles v1 v2 v3 post S) : Met l yX9_cycles (wW yX9_cycles cX9_cycles 9 (some .int)) ({ frames := 2, cells := 0, slots := 0, locals := 45 } : Room) (va_Pc [.ref (P 0), .int v1, .int v2, .int v3] (PreM dC dI cA P S)) (va_Qi post (fun u t => VM dC dI cA P u t.heap) (PA 25 P)) 0 0 (PA 25 P) := by
  refine Met.ofW (cc := cX9_cycles) (maxL := 9) (ret := (some .int)) (by decide) rfl ?_
  intro p e s m args below meth c s₁ B hml hv
  obtain ⟨rfl, hP, hKX⟩ := hv
  have hts : ∀ w ∈ G, w.before [.ref (P 0), .int v1, .int v2, .int v3].toArray s = true := fun w hw => atoms_spec (ws := wW yX9_cycles cX9_cycles 9 (some .int)) B.pre w (List.mem_cons_of_mem _ hw)
  have C : CtxM dC dI cA P p s m [.ref (P 0), .int v1, .int v2, .int v3].toArray meth c cX9_cycles 9 (some .int) RX9 := ⟨hI, hKX, ⟨B.exec, B.bytes, hml, findClass_of_methodNamed B.named, hts⟩, B.returns, B.notSynchronized⟩
  have hS : va_S (PA 25 P) s.heap s.heap [] := va_S.rf
  have hl := lv_entry ([.ref (P 0), .int v1, .int v2, .int v3]) (n := 9) (Nat.le_of_ble_eq_true rfl)
  rw [lg_entry_eq]
  generalize (lg_sl ([.ref (P 0), .int v1, .int v2, .int v3]) ++ List.replicate (9 - (lg_sl ([.ref (P 0), .int v1, .int v2, .int v3])).length) Slot.unset).toArray = ls at hl ⊢
  have hl : lv_has ls 9 [(0, .ref (P 0)), (1, .int v1), (2, .int v2), (3, .int v3)] := hl
  exact e_X9_cycles C _ _ _ _ _ _ _ h  hP hS hl
set_option maxRecDepth 100000 in
set_option maxHeartbeats 4000000 in
theorem e_X9_isFull {p : Program} {l : Launch} {e : Env} {s : State} {m : MethodId} {args : Array Value} {below : List Frame} {meth : Method} {c : Code} {dC : Nat → ClassId} {dI : Nat → Nat → Nat} {cA : Nat → ClassId} {P : Nat → Nat} (C : CtxM dC dI cA P p s m args meth c cX9_isFull 3 (some .boolean) RX9) {post : Int32 → St → Prop} : ∀ (v1 : Int32) (v2 : Int32) (S : St) (H : Heap) (locs : List Loc) (ls : Array Slot), w_X9_isFull v1 v2 post S → VM dC dI cA P S H → va_S (PA 25 P) s.heap H locs → lv_has ls 3 [(0, .ref (P 0)), (1, .int v1), (2, .int v2)] → W p l e ({ frames := 1, cells := 0, slots := 0, locals := 26 } : Room) s m args below meth c H locs 0 0 (MQ below (va_Qi post (fun u t => VM dC dI cA P u t.heap) (PA 25 P)) args s 0 0 (PA 25 P)) (F0 m 0 ls []) := by
  have C := C
  obtain ⟨hI, hKX, ⟨hx, hb, hml, hown, hts⟩, hr, hlocks⟩ := id C
  have hK := hKX
  intro v1 v2 S H locs ls h hP hS hl
  rw [w_X9_isFull] at h
  refine lv_aload_n hx hb dX9_isFull_0 rfl (lv_at hl 0 rfl) ?_
  refine lv_lconst (v := 1) hx hb dX9_isFull_1 (by decide) ?_
  refine lv_iload_n hx hb dX9_isFull_2 rfl (lv_at hl 2 rfl) ?_
  refine lv_iload_n hx hb dX9_isFull_3 rfl (lv_at hl 1 rfl) ?_
  refine va_callv (va_runV (As := [.long _, .int _, .int _]) (rest := []) ⟨hx, hb, hml, hown, hts⟩ (c_X9_looks l hI h) (cwV 3 hts gv_X9_110 rfl rfl rfl hv_X9_looks ⟨Nat.le_of_ble_eq_true rfl, Nat.le_of_ble_eq_true rfl⟩) (preV_M hKX hP hS (kM_lt (rfl : kdM 0 = 9)) (eM9 (rfl : kdM 0 = 9)) rfl) rfl rfl hl.1 rfl (lv_room (Nat.le_of_ble_eq_true rfl)) dX9_isFull_4 ⟨Nat.le_of_ble_eq_true rfl, Nat.le_of_ble_eq_true rfl⟩) hS (fun _ _ h => h) (fun _ h => h) (fun S1 t H locs ht _ h hB _ _ hS => ?_)
  have hP : VM dC dI cA P S1 H := by rw [← ht]; exact hB
  refine lv_aload_n hx hb dX9_isFull_7 rfl (lv_at hl 0 rfl) ?_
  refine g_get (v := .int (S1.1 0 6)) hx hb hts inG_X9 hown hK hP (kM_lt (rfl : kdM 0 = 9)) (eM9 (rfl : kdM 0 = 9)) rfl 6 (by decide) G_fl_X9_106 rfl rfl dX9_isFull_8 ?_
  refine lv_if_ne (tgt := 28) hx hb dX9_isFull_11 (by decide) (fun c2 => ?_) (fun c2 => ?_)
  · replace h := h.2 c2
    refine lv_iconst (v := 0) hx hb dX9_isFull_28 (by decide) ?_
    exact g_zret hx hb hr hlocks bz_0 h hP hS dX9_isFull_29
  · replace h := h.1 c2
    refine lv_aload_n hx hb dX9_isFull_14 rfl (lv_at hl 0 rfl) ?_
    refine g_get (v := .int (S1.1 0 5)) hx hb hts inG_X9 hown hK hP (kM_lt (rfl : kdM 0 = 9)) (eM9 (rfl : kdM 0 = 9)) rfl 5 (by decide) G_fl_X9_103 rfl rfl dX9_isFull_15 ?_
    refine lv_iload_n hx hb dX9_isFull_18 rfl (lv_at hl 2 rfl) ?_
    refine lv_iconst (v := 1) hx hb dX9_isFull_19 (by decide) ?_
    refine lv_isub hx hb dX9_isFull_20 ?_
    refine lv_icmp_ne (tgt := 28) hx hb dX9_isFull_21 (by decide) (fun c3 => ?_) (fun c3 => ?_)
    · replace h := h.2 c3
      refine lv_iconst (v := 0) hx hb dX9_isFull_28 (by decide) ?_
      exact g_zret hx hb hr hlocks bz_0 h hP hS dX9_isFull_29
    · replace h := h.1 c3
      refine lv_iconst (v := 1) hx hb dX9_isFull_24 (by decide) ?_
      refine lv_goto (tgt := 29) hx hb dX9_isFull_25 (by decide) ?_
      exact g_zret hx hb hr hlocks bz_1 h hP hS dX9_isFull_29
set_option maxRecDepth 100000 in
set_option maxHeartbeats 4000000 in
theorem c_X9_isFull (l : Launch) {dC : Nat → ClassId} {dI : Nat → Nat → Nat} {cA : Nat → ClassId} {P : Nat → Nat} (hI : PInj 25 P) {v1 : Int32} {v2 : Int32}  {post : Int32 → St → Prop} {S : St} (h : w_X9_isFull v1 v2 post S) : Met l yX9_isFull (wW yX9_isFull cX9_isFull 3 (some .boolean)) ({ frames := 1, cells := 0, slots := 0, locals := 26 } : Room) (va_Pc [.ref (P 0), .int v1, .int v2] (PreM dC dI cA P S)) (va_Qi post (fun u t => VM dC dI cA P u t.heap) (PA 25 P)) 0 0 (PA 25 P) := by
  refine Met.ofW (cc := cX9_isFull) (maxL := 3) (ret := (some .boolean)) (by decide) rfl ?_
  intro p e s m args below meth c s₁ B hml hv
  obtain ⟨rfl, hP, hKX⟩ := hv
  have hts : ∀ w ∈ G, w.before [.ref (P 0), .int v1, .int v2].toArray s = true := fun w hw => atoms_spec (ws := wW yX9_isFull cX9_isFull 3 (some .boolean)) B.pre w (List.mem_cons_of_mem _ hw)
  have C : CtxM dC dI cA P p s m [.ref (P 0), .int v1, .int v2].toArray meth c cX9_isFull 3 (some .boolean) RX9 := ⟨hI, hKX, ⟨B.exec, B.bytes, hml, findClass_of_methodNamed B.named, hts⟩, B.returns, B.notSynchronized⟩
  have hS : va_S (PA 25 P) s.heap s.heap [] := va_S.rf
  have hl := lv_entry ([.ref (P 0), .int v1, .int v2]) (n := 3) (Nat.le_of_ble_eq_true rfl)
  rw [lg_entry_eq]
  generalize (lg_sl ([.ref (P 0), .int v1, .int v2]) ++ List.replicate (3 - (lg_sl ([.ref (P 0), .int v1, .int v2])).length) Slot.unset).toArray = ls at hl ⊢
  have hl : lv_has ls 3 [(0, .ref (P 0)), (1, .int v1), (2, .int v2)] := hl
  exact e_X9_isFull C _ _ _ _ _ _ h  hP hS hl
set_option maxRecDepth 100000 in
set_option maxHeartbeats 4000000 in
theorem b_X9_full_63 {p : Program} {l : Launch} {e : Env} {s : State} {m : MethodId} {args : Array Value} {below : List Frame} {meth : Method} {c : Code} {dC : Nat → ClassId} {dI : Nat → Nat → Nat} {cA : Nat → ClassId} {P : Nat → Nat} (C : CtxM dC dI cA P p s m args meth c cX9_full 9 (some .int) RX9) {post : Int32 → St → Prop}  : ∀ (n : Nat) (v1 : Int32) (v3 : Int32) (v4 : Int32) (v5 : Int32) (v6 : Int32) (v7 : Int32) (v8 : Int32) (S : St) (H : Heap) (locs : List Loc) (ls : Array Slot), w_X9_full_63 post n v1 v3 v4 v5 v6 v7 v8 S → VM dC dI cA P S H → va_S (PA 25 P) s.heap H locs → lv_has ls 9 [(0, .ref (P 0)), (1, .int v1), (3, .int v3), (4, .int v4), (5, .int v5), (6, .int v6), (7, .int v7), (8, .int v8)] → W p l e ({ frames := 2, cells := 0, slots := 0, locals := 48 } : Room) s m args below meth c H locs 0 0 (MQ below (va_Qi post (fun u t => VM dC dI cA P u t.heap) (PA 25 P)) args s 0 0 (PA 25 P)) (F0 m 63 ls []) := by
  have C := C
  obtain ⟨hI, hKX, ⟨hx, hb, hml, hown, hts⟩, hr, hlocks⟩ := id C
  have hK := hKX
  intro n
  induction n with
  | zero =>
    intro v1 v3 v4 v5 v6 v7 v8 S H locs ls h hP hS hl
    simp only [w_X9_full_63] at h
  | succ n ih =>
    intro v1 v3 v4 v5 v6 v7 v8 S H locs ls h hP hS hl
    rw [w_X9_full_63] at h
    refine lv_iload hx hb dX9_full_63 (lv_at hl 7 rfl) ?_
    refine lv_iload_n hx hb dX9_full_65 rfl (lv_at hl 2 rfl) ?_
    refine lv_icmp_gt (tgt := 106) hx hb dX9_full_66 (by decide) (fun c17 => ?_) (fun c17 => ?_)
    · replace h := h.1 c17
      refine lv_iload hx hb dX9_full_106 (lv_at hl 3 rfl) ?_
      refine lv_if_ne (tgt := 116) hx hb dX9_full_108 (by decide) (fun c18 => ?_) (fun c18 => ?_)
      · replace h := h.2 c18
        refine lv_iload hx hb dX9_full_116 (lv_at hl 3 rfl) ?_
        refine lv_iconst (v := 1) hx hb dX9_full_118 (by decide) ?_
        refine lv_icmp_ne (tgt := 127) hx hb dX9_full_119 (by decide) (fun c19 => ?_) (fun c19 => ?_)
        · replace h := h.2 c19
          refine lv_iload hx hb dX9_full_127 (lv_at hl 6 rfl) ?_
          exact g_iret hx hb hr hlocks h hP hS dX9_full_129
        · replace h := h.1 c19
          refine lv_iload hx hb dX9_full_122 (lv_at hl 5 rfl) ?_
          refine lv_goto (tgt := 129) hx hb dX9_full_124 (by decide) ?_
          exact g_iret hx hb hr hlocks h hP hS dX9_full_129
      · replace h := h.1 c18
        refine lv_iload hx hb dX9_full_111 (lv_at hl 4 rfl) ?_
        refine lv_goto (tgt := 129) hx hb dX9_full_113 (by decide) ?_
        exact g_iret hx hb hr hlocks h hP hS dX9_full_129
    · replace h := h.2 c17
      refine lv_aload_n hx hb dX9_full_69 rfl (lv_at hl 0 rfl) ?_
      refine lv_iload_n hx hb dX9_full_70 rfl (lv_at hl 1 rfl) ?_
      refine lv_iload hx hb dX9_full_71 (lv_at hl 7 rfl) ?_
      refine va_calli (va_runV (As := [.int _, .int _]) (rest := []) ⟨hx, hb, hml, hown, hts⟩ (c_X9_isFull l hI h) (cwV 2 hts gv_X9_188 rfl rfl rfl hv_X9_isFull ⟨Nat.le_of_ble_eq_true rfl, Nat.le_of_ble_eq_true rfl⟩) (preV_M hKX hP hS (kM_lt (rfl : kdM 0 = 9)) (eM9 (rfl : kdM 0 = 9)) rfl) rfl rfl hl.1 rfl (lv_room (Nat.le_of_ble_eq_true rfl)) dX9_full_73 ⟨Nat.le_of_ble_eq_true rfl, Nat.le_of_ble_eq_true rfl⟩) hS (fun _ _ h => h) (fun _ h => h) (fun r21 S20 t H locs ht _ h hB _ _ hS => ?_)
      have hP : VM dC dI cA P S20 H := by rw [← ht]; exact hB
      refine lv_if_eq (tgt := 100) hx hb dX9_full_76 (by decide) (fun c22 => ?_) (fun c22 => ?_)
      · replace h := h.1 c22
        obtain ⟨x23, ex23⟩ : ∃ y : Int32, y = v8 + 1 := ⟨_, rfl⟩
        replace h := h x23 ex23
        refine lv_iinc (v := x23) (lv' := [(8, .int x23), (0, .ref (P 0)), (1, .int v1), (3, .int v3), (4, .int v4), (5, .int v5), (6, .int v6), (7, .int v7)]) hx hb dX9_full_100 hl (k := 7) rfl (by rw [ex23]; rfl) (by decide) rfl (fun ls hl => ?_)
        refine lv_goto (tgt := 63) hx hb dX9_full_103 (by decide) ?_
        exact ih _ _ _ _ _ _ _ _ _ _ _ h  hP hS (lv_sub hl [1, 2, 3, 4, 5, 6, 7, 0] rfl)
      · replace h := h.2 c22
        refine lv_iload hx hb dX9_full_79 (lv_at hl 4 rfl) ?_
        refine lv_if_ne (tgt := 89) hx hb dX9_full_81 (by decide) (fun c24 => ?_) (fun c24 => ?_)
        · replace h := h.2 c24
          refine lv_iload hx hb dX9_full_89 (lv_at hl 5 rfl) ?_
          refine lv_istore (lv' := [(6, .int v6), (0, .ref (P 0)), (1, .int v1), (3, .int v3), (4, .int v4), (5, .int v5), (7, .int v7), (8, .int v8)]) hx hb dX9_full_91 hl (by decide) rfl (fun ls hl => ?_)
          refine lv_iload hx hb dX9_full_93 (lv_at hl 7 rfl) ?_
          refine lv_istore (lv' := [(7, .int v8), (6, .int v6), (0, .ref (P 0)), (1, .int v1), (3, .int v3), (4, .int v4), (5, .int v5), (8, .int v8)]) hx hb dX9_full_95 hl (by decide) rfl (fun ls hl => ?_)
          obtain ⟨x25, ex25⟩ : ∃ y : Int32, y = v5 + 1 := ⟨_, rfl⟩
          replace h := h x25 ex25
          refine lv_iinc (v := x25) (lv' := [(5, .int x25), (7, .int v8), (6, .int v6), (0, .ref (P 0)), (1, .int v1), (3, .int v3), (4, .int v4), (8, .int v8)]) hx hb dX9_full_97 hl (k := 6) rfl (by rw [ex25]; rfl) (by decide) rfl (fun ls hl => ?_)
          obtain ⟨x26, ex26⟩ : ∃ y : Int32, y = v8 + 1 := ⟨_, rfl⟩
          replace h := h x26 ex26
          refine lv_iinc (v := x26) (lv' := [(8, .int x26), (5, .int x25), (7, .int v8), (6, .int v6), (0, .ref (P 0)), (1, .int v1), (3, .int v3), (4, .int v4)]) hx hb dX9_full_100 hl (k := 7) rfl (by rw [ex26]; rfl) (by decide) rfl (fun ls hl => ?_)
          refine lv_goto (tgt := 63) hx hb dX9_full_103 (by decide) ?_
          exact ih _ _ _ _ _ _ _ _ _ _ _ h  hP hS (lv_sub hl [4, 5, 6, 7, 1, 3, 2, 0] rfl)
        · replace h := h.1 c24
          refine lv_iload hx hb dX9_full_84 (lv_at hl 7 rfl) ?_
          refine lv_goto (tgt := 91) hx hb dX9_full_86 (by decide) ?_
          refine lv_istore (lv' := [(6, .int v8), (0, .ref (P 0)), (1, .int v1), (3, .int v3), (4, .int v4), (5, .int v5), (7, .int v7), (8, .int v8)]) hx hb dX9_full_91 hl (by decide) rfl (fun ls hl => ?_)
          refine lv_iload hx hb dX9_full_93 (lv_at hl 7 rfl) ?_
          refine lv_istore (lv' := [(7, .int v8), (6, .int v8), (0, .ref (P 0)), (1, .int v1), (3, .int v3), (4, .int v4), (5, .int v5), (8, .int v8)]) hx hb dX9_full_95 hl (by decide) rfl (fun ls hl => ?_)
          obtain ⟨x27, ex27⟩ : ∃ y : Int32, y = v5 + 1 := ⟨_, rfl⟩
          replace h := h x27 ex27
          refine lv_iinc (v := x27) (lv' := [(5, .int x27), (7, .int v8), (6, .int v8), (0, .ref (P 0)), (1, .int v1), (3, .int v3), (4, .int v4), (8, .int v8)]) hx hb dX9_full_97 hl (k := 6) rfl (by rw [ex27]; rfl) (by decide) rfl (fun ls hl => ?_)
          obtain ⟨x28, ex28⟩ : ∃ y : Int32, y = v8 + 1 := ⟨_, rfl⟩
          replace h := h x28 ex28
          refine lv_iinc (v := x28) (lv' := [(8, .int x28), (5, .int x27), (7, .int v8), (6, .int v8), (0, .ref (P 0)), (1, .int v1), (3, .int v3), (4, .int v4)]) hx hb dX9_full_100 hl (k := 7) rfl (by rw [ex28]; rfl) (by decide) rfl (fun ls hl => ?_)
          refine lv_goto (tgt := 63) hx hb dX9_full_103 (by decide) ?_
          exact ih _ _ _ _ _ _ _ _ _ _ _ h  hP hS (lv_sub hl [4, 5, 6, 7, 1, 3, 2, 0] rfl)
set_option maxRecDepth 100000 in
set_option maxHeartbeats 4000000 in
theorem e_X9_full {p : Program} {l : Launch} {e : Env} {s : State} {m : MethodId} {args : Array Value} {below : List Frame} {meth : Method} {c : Code} {dC : Nat → ClassId} {dI : Nat → Nat → Nat} {cA : Nat → ClassId} {P : Nat → Nat} (C : CtxM dC dI cA P p s m args meth c cX9_full 9 (some .int) RX9) {post : Int32 → St → Prop} : ∀ (v1 : Int32) (v2 : Int32) (v3 : Int32) (v4 : Int32) (S : St) (H : Heap) (locs : List Loc) (ls : Array Slot), w_X9_full v1 v2 v3 v4 post S → VM dC dI cA P S H → va_S (PA 25 P) s.heap H locs → lv_has ls 9 [(0, .ref (P 0)), (1, .int v1), (2, .int v2), (3, .int v3), (4, .int v4)] → W p l e ({ frames := 2, cells := 0, slots := 0, locals := 48 } : Room) s m args below meth c H locs 0 0 (MQ below (va_Qi post (fun u t => VM dC dI cA P u t.heap) (PA 25 P)) args s 0 0 (PA 25 P)) (F0 m 0 ls []) := by
  have C := C
  obtain ⟨hI, hKX, ⟨hx, hb, hml, hown, hts⟩, hr, hlocks⟩ := id C
  have hK := hKX
  intro v1 v2 v3 v4 S H locs ls h hP hS hl
  rw [w_X9_full] at h
  refine lv_iload_n hx hb dX9_full_0 rfl (lv_at hl 1 rfl) ?_
  refine va_calli (va_runS (As := [.int _]) (rest := []) ⟨hx, hb, hml, hown, hts⟩ (c_X9_isBase l hI h) (va_cwS 1 hts gs_X9_118 rfl rfl rfl hd_X9_isBase ⟨Nat.le_of_ble_eq_true rfl, Nat.le_of_ble_eq_true rfl⟩) (preS_M hKX hP hS) rfl rfl hl.1 rfl (lv_room (Nat.le_of_ble_eq_true rfl)) dX9_full_1 ⟨Nat.le_of_ble_eq_true rfl, Nat.le_of_ble_eq_true rfl⟩) hS (fun _ _ h => h) (fun _ h => h) (fun r2 S1 t H locs ht _ h hB _ _ hS => ?_)
  have hP : VM dC dI cA P S1 H := by rw [← ht]; exact hB
  refine lv_if_eq (tgt := 47) hx hb dX9_full_4 (by decide) (fun c3 => ?_) (fun c3 => ?_)
  · replace h := h.1 c3
    refine lv_iconst (v := (-1)) hx hb dX9_full_47 (by decide) ?_
    exact g_iret hx hb hr hlocks h hP hS dX9_full_48
  · replace h := h.2 c3
    refine lv_iload_n hx hb dX9_full_7 rfl (lv_at hl 2 rfl) ?_
    refine lv_i2l hx hb dX9_full_8 rfl ?_
    refine lv_ldc2 (v := 2) hx hb hown (hts _ G_co_X9_96) dX9_full_9 ?_
    refine lv_ldc2 (v := 999) hx hb hown (hts _ G_co_X9_116) dX9_full_12 ?_
    replace h := h _ rfl
    refine va_calli (va_runS (As := [.long _, .long _, .long _]) (rest := []) ⟨hx, hb, hml, hown, hts⟩ (c_X9_isIn l hI h) (va_cwS 3 hts gs_X9_92 rfl rfl rfl hd_X9_isIn ⟨Nat.le_of_ble_eq_true rfl, Nat.le_of_ble_eq_true rfl⟩) (preS_M hKX hP hS) rfl rfl hl.1 rfl (lv_room (Nat.le_of_ble_eq_true rfl)) dX9_full_15 ⟨Nat.le_of_ble_eq_true rfl, Nat.le_of_ble_eq_true rfl⟩) hS (fun _ _ h => h) (fun _ h => h) (fun r6 S5 t H locs ht _ h hB _ _ hS => ?_)
    have hP : VM dC dI cA P S5 H := by rw [← ht]; exact hB
    refine lv_if_eq (tgt := 47) hx hb dX9_full_18 (by decide) (fun c7 => ?_) (fun c7 => ?_)
    · replace h := h.1 c7
      refine lv_iconst (v := (-1)) hx hb dX9_full_47 (by decide) ?_
      exact g_iret hx hb hr hlocks h hP hS dX9_full_48
    · replace h := h.2 c7
      refine lv_iload_n hx hb dX9_full_21 rfl (lv_at hl 3 rfl) ?_
      refine lv_i2l hx hb dX9_full_22 rfl ?_
      refine lv_iload_n hx hb dX9_full_23 rfl (lv_at hl 2 rfl) ?_
      refine lv_i2l hx hb dX9_full_24 rfl ?_
      refine lv_ldc2 (v := 999) hx hb hown (hts _ G_co_X9_116) dX9_full_25 ?_
      replace h := h _ rfl
      replace h := h _ rfl
      refine va_calli (va_runS (As := [.long _, .long _, .long _]) (rest := []) ⟨hx, hb, hml, hown, hts⟩ (c_X9_isIn l hI h) (va_cwS 3 hts gs_X9_92 rfl rfl rfl hd_X9_isIn ⟨Nat.le_of_ble_eq_true rfl, Nat.le_of_ble_eq_true rfl⟩) (preS_M hKX hP hS) rfl rfl hl.1 rfl (lv_room (Nat.le_of_ble_eq_true rfl)) dX9_full_28 ⟨Nat.le_of_ble_eq_true rfl, Nat.le_of_ble_eq_true rfl⟩) hS (fun _ _ h => h) (fun _ h => h) (fun r11 S10 t H locs ht _ h hB _ _ hS => ?_)
      have hP : VM dC dI cA P S10 H := by rw [← ht]; exact hB
      refine lv_if_eq (tgt := 47) hx hb dX9_full_31 (by decide) (fun c12 => ?_) (fun c12 => ?_)
      · replace h := h.1 c12
        refine lv_iconst (v := (-1)) hx hb dX9_full_47 (by decide) ?_
        exact g_iret hx hb hr hlocks h hP hS dX9_full_48
      · replace h := h.2 c12
        refine lv_iload hx hb dX9_full_34 (lv_at hl 4 rfl) ?_
        refine lv_i2l hx hb dX9_full_36 rfl ?_
        refine lv_lconst (v := 0) hx hb dX9_full_37 (by decide) ?_
        refine lv_ldc2 (v := 2) hx hb hown (hts _ G_co_X9_96) dX9_full_38 ?_
        replace h := h _ rfl
        refine va_calli (va_runS (As := [.long _, .long _, .long _]) (rest := []) ⟨hx, hb, hml, hown, hts⟩ (c_X9_isIn l hI h) (va_cwS 3 hts gs_X9_92 rfl rfl rfl hd_X9_isIn ⟨Nat.le_of_ble_eq_true rfl, Nat.le_of_ble_eq_true rfl⟩) (preS_M hKX hP hS) rfl rfl hl.1 rfl (lv_room (Nat.le_of_ble_eq_true rfl)) dX9_full_41 ⟨Nat.le_of_ble_eq_true rfl, Nat.le_of_ble_eq_true rfl⟩) hS (fun _ _ h => h) (fun _ h => h) (fun r15 S14 t H locs ht _ h hB _ _ hS => ?_)
        have hP : VM dC dI cA P S14 H := by rw [← ht]; exact hB
        refine lv_if_ne (tgt := 49) hx hb dX9_full_44 (by decide) (fun c16 => ?_) (fun c16 => ?_)
        · replace h := h.2 c16
          refine lv_iconst (v := 0) hx hb dX9_full_49 (by decide) ?_
          refine lv_istore (lv' := [(5, .int 0), (0, .ref (P 0)), (1, .int v1), (2, .int v2), (3, .int v3), (4, .int v4)]) hx hb dX9_full_50 hl (by decide) rfl (fun ls hl => ?_)
          refine lv_bipush (v := (-2)) hx hb dX9_full_52 (by decide) ?_
          refine lv_istore (lv' := [(6, .int (-2)), (5, .int 0), (0, .ref (P 0)), (1, .int v1), (2, .int v2), (3, .int v3), (4, .int v4)]) hx hb dX9_full_54 hl (by decide) rfl (fun ls hl => ?_)
          refine lv_bipush (v := (-2)) hx hb dX9_full_56 (by decide) ?_
          refine lv_istore (lv' := [(7, .int (-2)), (6, .int (-2)), (5, .int 0), (0, .ref (P 0)), (1, .int v1), (2, .int v2), (3, .int v3), (4, .int v4)]) hx hb dX9_full_58 hl (by decide) rfl (fun ls hl => ?_)
          refine lv_iload_n hx hb dX9_full_60 rfl (lv_at hl 5 rfl) ?_
          refine lv_istore (lv' := [(8, .int v2), (7, .int (-2)), (6, .int (-2)), (5, .int 0), (0, .ref (P 0)), (1, .int v1), (2, .int v2), (3, .int v3), (4, .int v4)]) hx hb dX9_full_61 hl (by decide) rfl (fun ls hl => ?_)
          obtain ⟨n29, h⟩ := h
          exact b_X9_full_63 C n29 _ _ _ _ _ _ _ _ _ _ _ h  hP hS (lv_sub hl [4, 5, 7, 8, 3, 2, 1, 0] rfl)
        · replace h := h.1 c16
          refine lv_iconst (v := (-1)) hx hb dX9_full_47 (by decide) ?_
          exact g_iret hx hb hr hlocks h hP hS dX9_full_48
set_option maxRecDepth 100000 in
set_option maxHeartbeats 4000000 in
theorem c_X9_full (l : Launch) {dC : Nat → ClassId} {dI : Nat → Nat → Nat} {cA : Nat → ClassId} {P : Nat → Nat} (hI : PInj 25 P) {v1 : Int32} {v2 : Int32} {v3 : Int32} {v4 : Int32}  {post : Int32 → St → Prop} {S : St} (h : w_X9_full v1 v2 v3 v4 post S) : Met l yX9_full (wW yX9_full cX9_full 9 (some .int)) ({ frames := 2, cells := 0, slots := 0, locals := 48 } : Room) (va_Pc [.ref (P 0), .int v1, .int v2, .int v3, .int v4] (PreM dC dI cA P S)) (va_Qi post (fun u t => VM dC dI cA P u t.heap) (PA 25 P)) 0 0 (PA 25 P) := by
  refine Met.ofW (cc := cX9_full) (maxL := 9) (ret := (some .int)) (by decide) rfl ?_
  intro p e s m args below meth c s₁ B hml hv
  obtain ⟨rfl, hP, hKX⟩ := hv
  have hts : ∀ w ∈ G, w.before [.ref (P 0), .int v1, .int v2, .int v3, .int v4].toArray s = true := fun w hw => atoms_spec (ws := wW yX9_full cX9_full 9 (some .int)) B.pre w (List.mem_cons_of_mem _ hw)
  have C : CtxM dC dI cA P p s m [.ref (P 0), .int v1, .int v2, .int v3, .int v4].toArray meth c cX9_full 9 (some .int) RX9 := ⟨hI, hKX, ⟨B.exec, B.bytes, hml, findClass_of_methodNamed B.named, hts⟩, B.returns, B.notSynchronized⟩
  have hS : va_S (PA 25 P) s.heap s.heap [] := va_S.rf
  have hl := lv_entry ([.ref (P 0), .int v1, .int v2, .int v3, .int v4]) (n := 9) (Nat.le_of_ble_eq_true rfl)
  rw [lg_entry_eq]
  generalize (lg_sl ([.ref (P 0), .int v1, .int v2, .int v3, .int v4]) ++ List.replicate (9 - (lg_sl ([.ref (P 0), .int v1, .int v2, .int v3, .int v4])).length) Slot.unset).toArray = ls at hl ⊢
  have hl : lv_has ls 9 [(0, .ref (P 0)), (1, .int v1), (2, .int v2), (3, .int v3), (4, .int v4)] := hl
  exact e_X9_full C _ _ _ _ _ _ _ _ h  hP hS hl
set_option maxRecDepth 100000 in
set_option maxHeartbeats 4000000 in
theorem b_X9_list_35 {p : Program} {l : Launch} {e : Env} {s : State} {m : MethodId} {args : Array Value} {below : List Frame} {meth : Method} {c : Code} {dC : Nat → ClassId} {dI : Nat → Nat → Nat} {cA : Nat → ClassId} {P : Nat → Nat} (C : CtxM dC dI cA P p s m args meth c cX9_list 4 (some .int) RX9) {post : Int32 → St → Prop}  : ∀ (n : Nat) (v1 : Int32) (v3 : Int32) (S : St) (H : Heap) (locs : List Loc) (ls : Array Slot), w_X9_list_35 post n v1 v3 S → VM dC dI cA P S H → va_S (PA 25 P) s.heap H locs → lv_has ls 4 [(0, .ref (P 0)), (1, .int v1), (3, .int v3)] → W p l e ({ frames := 2, cells := 0, slots := 0, locals := 45 } : Room) s m args below meth c H locs 0 0 (MQ below (va_Qi post (fun u t => VM dC dI cA P u t.heap) (PA 25 P)) args s 0 0 (PA 25 P)) (F0 m 35 ls []) := by
  have C := C
  obtain ⟨hI, hKX, ⟨hx, hb, hml, hown, hts⟩, hr, hlocks⟩ := id C
  have hK := hKX
  intro n
  induction n with
  | zero =>
    intro v1 v3 S H locs ls h hP hS hl
    simp only [w_X9_list_35] at h
  | succ n ih =>
    intro v1 v3 S H locs ls h hP hS hl
    rw [w_X9_list_35] at h
    refine lv_iload_n hx hb dX9_list_35 rfl (lv_at hl 2 rfl) ?_
    refine lv_iload_n hx hb dX9_list_36 rfl (lv_at hl 1 rfl) ?_
    refine lv_icmp_gt (tgt := 66) hx hb dX9_list_37 (by decide) (fun c10 => ?_) (fun c10 => ?_)
    · replace h := h.1 c10
      refine lv_aload_n hx hb dX9_list_66 rfl (lv_at hl 0 rfl) ?_
      refine g_get (v := .int (S.1 0 14)) hx hb hts inG_X9 hown hK hP (kM_lt (rfl : kdM 0 = 9)) (eM9 (rfl : kdM 0 = 9)) rfl 14 (by decide) G_fl_X9_194 rfl rfl dX9_list_67 ?_
      exact g_iret hx hb hr hlocks h hP hS dX9_list_70
    · replace h := h.2 c10
      refine lv_aload_n hx hb dX9_list_40 rfl (lv_at hl 0 rfl) ?_
      refine g_get (v := .ref (P 9)) hx hb hts inG_X9 hown hK hP (kM_lt (rfl : kdM 0 = 9)) (eM9 (rfl : kdM 0 = 9)) rfl 16 (by decide) G_fl_X9_40 rfl rfl dX9_list_41 ?_
      refine lv_aload_n hx hb dX9_list_44 rfl (lv_at hl 0 rfl) ?_
      refine g_get (v := .int (S.1 0 14)) hx hb hts inG_X9 hown hK hP (kM_lt (rfl : kdM 0 = 9)) (eM9 (rfl : kdM 0 = 9)) rfl 14 (by decide) G_fl_X9_194 rfl rfl dX9_list_45 ?_
      refine lv_iload_n hx hb dX9_list_48 rfl (lv_at hl 2 rfl) ?_
      replace h := h _ rfl
      refine g_ast hx hb hK hI hP hS (kM_lt (rfl : kdM 9 = 10)) 0 (eM10 (rfl : kdM 9 = 10)) rfl h.1 h.2 dX9_list_49 (fun S12 H locs h hP hS => ?_)
      refine lv_aload_n hx hb dX9_list_50 rfl (lv_at hl 0 rfl) ?_
      refine lv_dup hx hb dX9_list_51 rfl ?_
      refine g_get (v := .int (S12.1 0 14)) hx hb hts inG_X9 hown hK hP (kM_lt (rfl : kdM 0 = 9)) (eM9 (rfl : kdM 0 = 9)) rfl 14 (by decide) G_fl_X9_194 rfl rfl dX9_list_52 ?_
      refine lv_iconst (v := 1) hx hb dX9_list_55 (by decide) ?_
      refine lv_iadd hx hb dX9_list_56 ?_
      replace h := h _ rfl
      refine g_putI hx hb hts inG_X9 tyX9 tyX9_ok nmX9 hown hK hI hP hS (kM_lt (rfl : kdM 0 = 9)) (eM9 (rfl : kdM 0 = 9)) rfl 14 (by decide) G_fl_X9_194 rfl rfl (ty := .int) (by decide +kernel) rfl rfl (Nat.le_of_ble_eq_true rfl) rfl h dX9_list_57 (fun S14 H locs h hP hS => ?_)
      obtain ⟨x15, ex15⟩ : ∃ y : Int32, y = v3 + 1 := ⟨_, rfl⟩
      replace h := h x15 ex15
      refine lv_iinc (v := x15) (lv' := [(3, .int x15), (0, .ref (P 0)), (1, .int v1)]) hx hb dX9_list_60 hl (k := 2) rfl (by rw [ex15]; rfl) (by decide) rfl (fun ls hl => ?_)
      refine lv_goto (tgt := 35) hx hb dX9_list_63 (by decide) ?_
      exact ih _ _ _ _ _ _ h  hP hS (lv_sub hl [1, 2, 0] rfl)
set_option maxRecDepth 100000 in
set_option maxHeartbeats 4000000 in
theorem e_X9_list {p : Program} {l : Launch} {e : Env} {s : State} {m : MethodId} {args : Array Value} {below : List Frame} {meth : Method} {c : Code} {dC : Nat → ClassId} {dI : Nat → Nat → Nat} {cA : Nat → ClassId} {P : Nat → Nat} (C : CtxM dC dI cA P p s m args meth c cX9_list 4 (some .int) RX9) {post : Int32 → St → Prop} : ∀ (v1 : Int32) (v2 : Int32) (S : St) (H : Heap) (locs : List Loc) (ls : Array Slot), w_X9_list v1 v2 post S → VM dC dI cA P S H → va_S (PA 25 P) s.heap H locs → lv_has ls 4 [(0, .ref (P 0)), (1, .int v1), (2, .int v2)] → W p l e ({ frames := 2, cells := 0, slots := 0, locals := 45 } : Room) s m args below meth c H locs 0 0 (MQ below (va_Qi post (fun u t => VM dC dI cA P u t.heap) (PA 25 P)) args s 0 0 (PA 25 P)) (F0 m 0 ls []) := by
  have C := C
  obtain ⟨hI, hKX, ⟨hx, hb, hml, hown, hts⟩, hr, hlocks⟩ := id C
  have hK := hKX
  intro v1 v2 S H locs ls h hP hS hl
  rw [w_X9_list] at h
  refine lv_iload_n hx hb dX9_list_0 rfl (lv_at hl 1 rfl) ?_
  refine lv_i2l hx hb dX9_list_1 rfl ?_
  refine lv_ldc2 (v := 2) hx hb hown (hts _ G_co_X9_96) dX9_list_2 ?_
  refine lv_ldc2 (v := 400) hx hb hown (hts _ G_co_X9_192) dX9_list_5 ?_
  replace h := h _ rfl
  refine va_calli (va_runS (As := [.long _, .long _, .long _]) (rest := []) ⟨hx, hb, hml, hown, hts⟩ (c_X9_isIn l hI h) (va_cwS 3 hts gs_X9_92 rfl rfl rfl hd_X9_isIn ⟨Nat.le_of_ble_eq_true rfl, Nat.le_of_ble_eq_true rfl⟩) (preS_M hKX hP hS) rfl rfl hl.1 rfl (lv_room (Nat.le_of_ble_eq_true rfl)) dX9_list_8 ⟨Nat.le_of_ble_eq_true rfl, Nat.le_of_ble_eq_true rfl⟩) hS (fun _ _ h => h) (fun _ h => h) (fun r3 S2 t H locs ht _ h hB _ _ hS => ?_)
  have hP : VM dC dI cA P S2 H := by rw [← ht]; exact hB
  refine lv_if_eq (tgt := 21) hx hb dX9_list_11 (by decide) (fun c4 => ?_) (fun c4 => ?_)
  · replace h := h.1 c4
    refine lv_iconst (v := (-1)) hx hb dX9_list_21 (by decide) ?_
    exact g_iret hx hb hr hlocks h hP hS dX9_list_22
  · replace h := h.2 c4
    refine lv_iload_n hx hb dX9_list_14 rfl (lv_at hl 2 rfl) ?_
    refine va_calli (va_runS (As := [.int _]) (rest := []) ⟨hx, hb, hml, hown, hts⟩ (c_X9_isBase l hI h) (va_cwS 1 hts gs_X9_118 rfl rfl rfl hd_X9_isBase ⟨Nat.le_of_ble_eq_true rfl, Nat.le_of_ble_eq_true rfl⟩) (preS_M hKX hP hS) rfl rfl hl.1 rfl (lv_room (Nat.le_of_ble_eq_true rfl)) dX9_list_15 ⟨Nat.le_of_ble_eq_true rfl, Nat.le_of_ble_eq_true rfl⟩) hS (fun _ _ h => h) (fun _ h => h) (fun r6 S5 t H locs ht _ h hB _ _ hS => ?_)
    have hP : VM dC dI cA P S5 H := by rw [← ht]; exact hB
    refine lv_if_ne (tgt := 23) hx hb dX9_list_18 (by decide) (fun c7 => ?_) (fun c7 => ?_)
    · replace h := h.2 c7
      refine lv_aload_n hx hb dX9_list_23 rfl (lv_at hl 0 rfl) ?_
      refine lv_iconst (v := 0) hx hb dX9_list_24 (by decide) ?_
      refine g_putI hx hb hts inG_X9 tyX9 tyX9_ok nmX9 hown hK hI hP hS (kM_lt (rfl : kdM 0 = 9)) (eM9 (rfl : kdM 0 = 9)) rfl 14 (by decide) G_fl_X9_194 rfl rfl (ty := .int) (by decide +kernel) rfl rfl (Nat.le_of_ble_eq_true rfl) rfl h dX9_list_25 (fun S8 H locs h hP hS => ?_)
      refine lv_aload_n hx hb dX9_list_28 rfl (lv_at hl 0 rfl) ?_
      refine lv_iload_n hx hb dX9_list_29 rfl (lv_at hl 2 rfl) ?_
      refine g_putI hx hb hts inG_X9 tyX9 tyX9_ok nmX9 hown hK hI hP hS (kM_lt (rfl : kdM 0 = 9)) (eM9 (rfl : kdM 0 = 9)) rfl 15 (by decide) G_fl_X9_36 rfl rfl (ty := .int) (by decide +kernel) rfl rfl (Nat.le_of_ble_eq_true rfl) rfl h dX9_list_30 (fun S9 H locs h hP hS => ?_)
      refine lv_iconst (v := 2) hx hb dX9_list_33 (by decide) ?_
      refine lv_istore_n (lv' := [(3, .int 2), (0, .ref (P 0)), (1, .int v1), (2, .int v2)]) hx hb dX9_list_34 rfl hl (by decide) rfl (fun ls hl => ?_)
      obtain ⟨n16, h⟩ := h
      exact b_X9_list_35 C n16 _ _ _ _ _ _ h  hP hS (lv_sub hl [1, 2, 0] rfl)
    · replace h := h.1 c7
      refine lv_iconst (v := (-1)) hx hb dX9_list_21 (by decide) ?_
      exact g_iret hx hb hr hlocks h hP hS dX9_list_22
set_option maxRecDepth 100000 in
set_option maxHeartbeats 4000000 in
theorem c_X9_list (l : Launch) {dC : Nat → ClassId} {dI : Nat → Nat → Nat} {cA : Nat → ClassId} {P : Nat → Nat} (hI : PInj 25 P) {v1 : Int32} {v2 : Int32}  {post : Int32 → St → Prop} {S : St} (h : w_X9_list v1 v2 post S) : Met l yX9_list (wW yX9_list cX9_list 4 (some .int)) ({ frames := 2, cells := 0, slots := 0, locals := 45 } : Room) (va_Pc [.ref (P 0), .int v1, .int v2] (PreM dC dI cA P S)) (va_Qi post (fun u t => VM dC dI cA P u t.heap) (PA 25 P)) 0 0 (PA 25 P) := by
  refine Met.ofW (cc := cX9_list) (maxL := 4) (ret := (some .int)) (by decide) rfl ?_
  intro p e s m args below meth c s₁ B hml hv
  obtain ⟨rfl, hP, hKX⟩ := hv
  have hts : ∀ w ∈ G, w.before [.ref (P 0), .int v1, .int v2].toArray s = true := fun w hw => atoms_spec (ws := wW yX9_list cX9_list 4 (some .int)) B.pre w (List.mem_cons_of_mem _ hw)
  have C : CtxM dC dI cA P p s m [.ref (P 0), .int v1, .int v2].toArray meth c cX9_list 4 (some .int) RX9 := ⟨hI, hKX, ⟨B.exec, B.bytes, hml, findClass_of_methodNamed B.named, hts⟩, B.returns, B.notSynchronized⟩
  have hS : va_S (PA 25 P) s.heap s.heap [] := va_S.rf
  have hl := lv_entry ([.ref (P 0), .int v1, .int v2]) (n := 4) (Nat.le_of_ble_eq_true rfl)
  rw [lg_entry_eq]
  generalize (lg_sl ([.ref (P 0), .int v1, .int v2]) ++ List.replicate (4 - (lg_sl ([.ref (P 0), .int v1, .int v2])).length) Slot.unset).toArray = ls at hl ⊢
  have hl : lv_has ls 4 [(0, .ref (P 0)), (1, .int v1), (2, .int v2)] := hl
  exact e_X9_list C _ _ _ _ _ _ h  hP hS hl
set_option maxRecDepth 100000 in
set_option maxHeartbeats 4000000 in
theorem b_X9_isPrime_2 {p : Program} {l : Launch} {e : Env} {s : State} {m : MethodId} {args : Array Value} {below : List Frame} {meth : Method} {c : Code} {dC : Nat → ClassId} {dI : Nat → Nat → Nat} {cA : Nat → ClassId} {P : Nat → Nat} (C : CtxM dC dI cA P p s m args meth c cX9_isPrime 2 (some .boolean) RX9) {post : Int32 → St → Prop}  : ∀ (n : Nat) (v0 : Int32) (v1 : Int32) (S : St) (H : Heap) (locs : List Loc) (ls : Array Slot), w_X9_isPrime_2 post n v0 v1 S → VM dC dI cA P S H → va_S (PA 25 P) s.heap H locs → lv_has ls 2 [(0, .int v0), (1, .int v1)] → W p l e ({ frames := 0, cells := 0, slots := 0, locals := 0 } : Room) s m args below meth c H locs 0 0 (MQ below (va_Qi post (fun u t => VM dC dI cA P u t.heap) (PA 25 P)) args s 0 0 (PA 25 P)) (F0 m 2 ls []) := by
  have C := C
  obtain ⟨hI, hKX, ⟨hx, hb, hml, hown, hts⟩, hr, hlocks⟩ := id C
  have hK := hKX
  intro n
  induction n with
  | zero =>
    intro v0 v1 S H locs ls h hP hS hl
    simp only [w_X9_isPrime_2] at h
  | succ n ih =>
    intro v0 v1 S H locs ls h hP hS hl
    rw [w_X9_isPrime_2] at h
    refine lv_iload_n hx hb dX9_isPrime_2 rfl (lv_at hl 1 rfl) ?_
    refine lv_iload_n hx hb dX9_isPrime_3 rfl (lv_at hl 1 rfl) ?_
    refine lv_imul hx hb dX9_isPrime_4 ?_
    refine lv_iload_n hx hb dX9_isPrime_5 rfl (lv_at hl 0 rfl) ?_
    refine lv_icmp_gt (tgt := 23) hx hb dX9_isPrime_6 (by decide) (fun c1 => ?_) (fun c1 => ?_)
    · replace h := h.1 c1
      refine lv_iconst (v := 1) hx hb dX9_isPrime_23 (by decide) ?_
      exact g_zret hx hb hr hlocks bz_1 h hP hS dX9_isPrime_24
    · replace h := h.2 c1
      refine lv_iload_n hx hb dX9_isPrime_9 rfl (lv_at hl 0 rfl) ?_
      refine lv_iload_n hx hb dX9_isPrime_10 rfl (lv_at hl 1 rfl) ?_
      refine lv_irem hx hb dX9_isPrime_11 h.1 ?_
      replace h := h.2
      refine lv_if_ne (tgt := 17) hx hb dX9_isPrime_12 (by decide) (fun c2 => ?_) (fun c2 => ?_)
      · replace h := h.2 c2
        obtain ⟨x3, ex3⟩ : ∃ y : Int32, y = v1 + 1 := ⟨_, rfl⟩
        replace h := h x3 ex3
        refine lv_iinc (v := x3) (lv' := [(1, .int x3), (0, .int v0)]) hx hb dX9_isPrime_17 hl (k := 1) rfl (by rw [ex3]; rfl) (by decide) rfl (fun ls hl => ?_)
        refine lv_goto (tgt := 2) hx hb dX9_isPrime_20 (by decide) ?_
        exact ih _ _ _ _ _ _ h  hP hS (lv_sub hl [1, 0] rfl)
      · replace h := h.1 c2
        refine lv_iconst (v := 0) hx hb dX9_isPrime_15 (by decide) ?_
        exact g_zret hx hb hr hlocks bz_0 h hP hS dX9_isPrime_16
set_option maxRecDepth 100000 in
set_option maxHeartbeats 4000000 in
theorem e_X9_isPrime {p : Program} {l : Launch} {e : Env} {s : State} {m : MethodId} {args : Array Value} {below : List Frame} {meth : Method} {c : Code} {dC : Nat → ClassId} {dI : Nat → Nat → Nat} {cA : Nat → ClassId} {P : Nat → Nat} (C : CtxM dC dI cA P p s m args meth c cX9_isPrime 2 (some .boolean) RX9) {post : Int32 → St → Prop} : ∀ (v0 : Int32) (S : St) (H : Heap) (locs : List Loc) (ls : Array Slot), w_X9_isPrime v0 post S → VM dC dI cA P S H → va_S (PA 25 P) s.heap H locs → lv_has ls 2 [(0, .int v0)] → W p l e ({ frames := 0, cells := 0, slots := 0, locals := 0 } : Room) s m args below meth c H locs 0 0 (MQ below (va_Qi post (fun u t => VM dC dI cA P u t.heap) (PA 25 P)) args s 0 0 (PA 25 P)) (F0 m 0 ls []) := by
  have C := C
  obtain ⟨hI, hKX, ⟨hx, hb, hml, hown, hts⟩, hr, hlocks⟩ := id C
  have hK := hKX
  intro v0 S H locs ls h hP hS hl
  rw [w_X9_isPrime] at h
  refine lv_iconst (v := 2) hx hb dX9_isPrime_0 (by decide) ?_
  refine lv_istore_n (lv' := [(1, .int 2), (0, .int v0)]) hx hb dX9_isPrime_1 rfl hl (by decide) rfl (fun ls hl => ?_)
  obtain ⟨n4, h⟩ := h
  exact b_X9_isPrime_2 C n4 _ _ _ _ _ _ h  hP hS (lv_sub hl [1, 0] rfl)
set_option maxRecDepth 100000 in
set_option maxHeartbeats 4000000 in
theorem c_X9_isPrime (l : Launch) {dC : Nat → ClassId} {dI : Nat → Nat → Nat} {cA : Nat → ClassId} {P : Nat → Nat} (hI : PInj 25 P) {v0 : Int32}  {post : Int32 → St → Prop} {S : St} (h : w_X9_isPrime v0 post S) : Met l yX9_isPrime (wW yX9_isPrime cX9_isPrime 2 (some .boolean)) ({ frames := 0, cells := 0, slots := 0, locals := 0 } : Room) (va_Pc [.int v0] (PreM dC dI cA P S)) (va_Qi post (fun u t => VM dC dI cA P u t.heap) (PA 25 P)) 0 0 (PA 25 P) := by
  refine Met.ofW (cc := cX9_isPrime) (maxL := 2) (ret := (some .boolean)) (by decide) rfl ?_
  intro p e s m args below meth c s₁ B hml hv
  obtain ⟨rfl, hP, hKX⟩ := hv
  have hts : ∀ w ∈ G, w.before [.int v0].toArray s = true := fun w hw => atoms_spec (ws := wW yX9_isPrime cX9_isPrime 2 (some .boolean)) B.pre w (List.mem_cons_of_mem _ hw)
  have C : CtxM dC dI cA P p s m [.int v0].toArray meth c cX9_isPrime 2 (some .boolean) RX9 := ⟨hI, hKX, ⟨B.exec, B.bytes, hml, findClass_of_methodNamed B.named, hts⟩, B.returns, B.notSynchronized⟩
  have hS : va_S (PA 25 P) s.heap s.heap [] := va_S.rf
  have hl := lv_entry ([.int v0]) (n := 2) (Nat.le_of_ble_eq_true rfl)
  rw [lg_entry_eq]
  generalize (lg_sl ([.int v0]) ++ List.replicate (2 - (lg_sl ([.int v0])).length) Slot.unset).toArray = ls at hl ⊢
  have hl : lv_has ls 2 [(0, .int v0)] := hl
  exact e_X9_isPrime C _ _ _ _ _ h  hP hS hl
set_option maxRecDepth 100000 in
set_option maxHeartbeats 4000000 in
theorem e_X9_isSo {p : Program} {l : Launch} {e : Env} {s : State} {m : MethodId} {args : Array Value} {below : List Frame} {meth : Method} {c : Code} {dC : Nat → ClassId} {dI : Nat → Nat → Nat} {cA : Nat → ClassId} {P : Nat → Nat} (C : CtxM dC dI cA P p s m args meth c cX9_isSo 3 (some .boolean) RX9) {post : Int32 → St → Prop} : ∀ (v1 : Int32) (v2 : Int32) (S : St) (H : Heap) (locs : List Loc) (ls : Array Slot), w_X9_isSo v1 v2 post S → VM dC dI cA P S H → va_S (PA 25 P) s.heap H locs → lv_has ls 3 [(0, .ref (P 0)), (1, .int v1), (2, .int v2)] → W p l e ({ frames := 2, cells := 0, slots := 0, locals := 53 } : Room) s m args below meth c H locs 0 0 (MQ below (va_Qi post (fun u t => VM dC dI cA P u t.heap) (PA 25 P)) args s 0 0 (PA 25 P)) (F0 m 0 ls []) := by
  have C := C
  obtain ⟨hI, hKX, ⟨hx, hb, hml, hown, hts⟩, hr, hlocks⟩ := id C
  have hK := hKX
  intro v1 v2 S H locs ls h hP hS hl
  rw [w_X9_isSo] at h
  refine lv_aload_n hx hb dX9_isSo_0 rfl (lv_at hl 0 rfl) ?_
  refine lv_lconst (v := 1) hx hb dX9_isSo_1 (by decide) ?_
  refine lv_iload_n hx hb dX9_isSo_2 rfl (lv_at hl 2 rfl) ?_
  refine lv_aload_n hx hb dX9_isSo_3 rfl (lv_at hl 0 rfl) ?_
  refine g_get (v := .int (S.1 0 15)) hx hb hts inG_X9 hown hK hP (kM_lt (rfl : kdM 0 = 9)) (eM9 (rfl : kdM 0 = 9)) rfl 15 (by decide) G_fl_X9_36 rfl rfl dX9_isSo_4 ?_
  replace h := h _ rfl
  refine va_callv (va_runV (As := [.long _, .int _, .int _]) (rest := []) ⟨hx, hb, hml, hown, hts⟩ (c_X9_looks l hI h) (cwV 3 hts gv_X9_110 rfl rfl rfl hv_X9_looks ⟨Nat.le_of_ble_eq_true rfl, Nat.le_of_ble_eq_true rfl⟩) (preV_M hKX hP hS (kM_lt (rfl : kdM 0 = 9)) (eM9 (rfl : kdM 0 = 9)) rfl) rfl rfl hl.1 rfl (lv_room (Nat.le_of_ble_eq_true rfl)) dX9_isSo_7 ⟨Nat.le_of_ble_eq_true rfl, Nat.le_of_ble_eq_true rfl⟩) hS (fun _ _ h => h) (fun _ h => h) (fun S2 t H locs ht _ h hB _ _ hS => ?_)
  have hP : VM dC dI cA P S2 H := by rw [← ht]; exact hB
  refine lv_iload_n hx hb dX9_isSo_10 rfl (lv_at hl 1 rfl) ?_
  by_cases c3 : v1 = 0
  · replace h := h.1 c3
    refine lv_tableIn (off := 41) (tgt := 52) hx hb dX9_isSo_11 (by rw [c3]; decide) (by rw [c3]; decide) (by rw [c3]; decide) (by decide) ?_
    refine lv_aload_n hx hb dX9_isSo_52 rfl (lv_at hl 0 rfl) ?_
    refine g_get (v := .int (S2.1 0 6)) hx hb hts inG_X9 hown hK hP (kM_lt (rfl : kdM 0 = 9)) (eM9 (rfl : kdM 0 = 9)) rfl 6 (by decide) G_fl_X9_106 rfl rfl dX9_isSo_53 ?_
    exact g_zret hx hb hr hlocks h.1 h.2 hP hS dX9_isSo_56
  replace h := h.2 c3
  by_cases c4 : v1 = 1
  · replace h := h.1 c4
    refine lv_tableIn (off := 46) (tgt := 57) hx hb dX9_isSo_11 (by rw [c4]; decide) (by rw [c4]; decide) (by rw [c4]; decide) (by decide) ?_
    refine lv_aload_n hx hb dX9_isSo_57 rfl (lv_at hl 0 rfl) ?_
    refine va_calli (va_runV (As := []) (rest := []) ⟨hx, hb, hml, hown, hts⟩ (c_X9_kindNow l hI h) (cwV 0 hts gv_X9_141 rfl rfl rfl hv_X9_kindNow ⟨Nat.le_of_ble_eq_true rfl, Nat.le_of_ble_eq_true rfl⟩) (preV_M hKX hP hS (kM_lt (rfl : kdM 0 = 9)) (eM9 (rfl : kdM 0 = 9)) rfl) rfl rfl hl.1 rfl (lv_room (Nat.le_of_ble_eq_true rfl)) dX9_isSo_58 ⟨Nat.le_of_ble_eq_true rfl, Nat.le_of_ble_eq_true rfl⟩) hS (fun _ _ h => h) (fun _ h => h) (fun r6 S5 t H locs ht _ h hB _ _ hS => ?_)
    have hP : VM dC dI cA P S5 H := by rw [← ht]; exact hB
    refine lv_iconst (v := 1) hx hb dX9_isSo_61 (by decide) ?_
    refine lv_icmp_ne (tgt := 69) hx hb dX9_isSo_62 (by decide) (fun c7 => ?_) (fun c7 => ?_)
    · replace h := h.2 c7
      refine lv_iconst (v := 0) hx hb dX9_isSo_69 (by decide) ?_
      exact g_zret hx hb hr hlocks bz_0 h hP hS dX9_isSo_70
    · replace h := h.1 c7
      refine lv_iconst (v := 1) hx hb dX9_isSo_65 (by decide) ?_
      refine lv_goto (tgt := 70) hx hb dX9_isSo_66 (by decide) ?_
      exact g_zret hx hb hr hlocks bz_1 h hP hS dX9_isSo_70
  replace h := h.2 c4
  by_cases c8 : v1 = 2
  · replace h := h.1 c8
    refine lv_tableIn (off := 60) (tgt := 71) hx hb dX9_isSo_11 (by rw [c8]; decide) (by rw [c8]; decide) (by rw [c8]; decide) (by decide) ?_
    refine lv_aload_n hx hb dX9_isSo_71 rfl (lv_at hl 0 rfl) ?_
    refine va_calli (va_runV (As := []) (rest := []) ⟨hx, hb, hml, hown, hts⟩ (c_X9_kindNow l hI h) (cwV 0 hts gv_X9_141 rfl rfl rfl hv_X9_kindNow ⟨Nat.le_of_ble_eq_true rfl, Nat.le_of_ble_eq_true rfl⟩) (preV_M hKX hP hS (kM_lt (rfl : kdM 0 = 9)) (eM9 (rfl : kdM 0 = 9)) rfl) rfl rfl hl.1 rfl (lv_room (Nat.le_of_ble_eq_true rfl)) dX9_isSo_72 ⟨Nat.le_of_ble_eq_true rfl, Nat.le_of_ble_eq_true rfl⟩) hS (fun _ _ h => h) (fun _ h => h) (fun r10 S9 t H locs ht _ h hB _ _ hS => ?_)
    have hP : VM dC dI cA P S9 H := by rw [← ht]; exact hB
    refine lv_iconst (v := 2) hx hb dX9_isSo_75 (by decide) ?_
    refine lv_icmp_ne (tgt := 83) hx hb dX9_isSo_76 (by decide) (fun c11 => ?_) (fun c11 => ?_)
    · replace h := h.2 c11
      refine lv_iconst (v := 0) hx hb dX9_isSo_83 (by decide) ?_
      exact g_zret hx hb hr hlocks bz_0 h hP hS dX9_isSo_84
    · replace h := h.1 c11
      refine lv_iconst (v := 1) hx hb dX9_isSo_79 (by decide) ?_
      refine lv_goto (tgt := 84) hx hb dX9_isSo_80 (by decide) ?_
      exact g_zret hx hb hr hlocks bz_1 h hP hS dX9_isSo_84
  replace h := h.2 c8
  by_cases c12 : v1 = 3
  · replace h := h.1 c12
    refine lv_tableIn (off := 74) (tgt := 85) hx hb dX9_isSo_11 (by rw [c12]; decide) (by rw [c12]; decide) (by rw [c12]; decide) (by decide) ?_
    refine lv_aload_n hx hb dX9_isSo_85 rfl (lv_at hl 0 rfl) ?_
    refine g_get (v := .int (S2.1 0 6)) hx hb hts inG_X9 hown hK hP (kM_lt (rfl : kdM 0 = 9)) (eM9 (rfl : kdM 0 = 9)) rfl 6 (by decide) G_fl_X9_106 rfl rfl dX9_isSo_86 ?_
    refine lv_if_ne (tgt := 106) hx hb dX9_isSo_89 (by decide) (fun c13 => ?_) (fun c13 => ?_)
    · replace h := h.2 c13
      refine lv_iconst (v := 0) hx hb dX9_isSo_106 (by decide) ?_
      exact g_zret hx hb hr hlocks bz_0 h hP hS dX9_isSo_107
    · replace h := h.1 c13
      refine lv_aload_n hx hb dX9_isSo_92 rfl (lv_at hl 0 rfl) ?_
      refine g_get (v := .int (S2.1 0 5)) hx hb hts inG_X9 hown hK hP (kM_lt (rfl : kdM 0 = 9)) (eM9 (rfl : kdM 0 = 9)) rfl 5 (by decide) G_fl_X9_103 rfl rfl dX9_isSo_93 ?_
      refine lv_iload_n hx hb dX9_isSo_96 rfl (lv_at hl 2 rfl) ?_
      refine lv_iconst (v := 1) hx hb dX9_isSo_97 (by decide) ?_
      refine lv_isub hx hb dX9_isSo_98 ?_
      refine lv_icmp_ne (tgt := 106) hx hb dX9_isSo_99 (by decide) (fun c14 => ?_) (fun c14 => ?_)
      · replace h := h.2 c14
        refine lv_iconst (v := 0) hx hb dX9_isSo_106 (by decide) ?_
        exact g_zret hx hb hr hlocks bz_0 h hP hS dX9_isSo_107
      · replace h := h.1 c14
        refine lv_iconst (v := 1) hx hb dX9_isSo_102 (by decide) ?_
        refine lv_goto (tgt := 107) hx hb dX9_isSo_103 (by decide) ?_
        exact g_zret hx hb hr hlocks bz_1 h hP hS dX9_isSo_107
  replace h := h.2 c12
  by_cases c15 : v1 = 4
  · replace h := h.1 c15
    refine lv_tableIn (off := 97) (tgt := 108) hx hb dX9_isSo_11 (by rw [c15]; decide) (by rw [c15]; decide) (by rw [c15]; decide) (by decide) ?_
    refine lv_aload_n hx hb dX9_isSo_108 rfl (lv_at hl 0 rfl) ?_
    refine g_get (v := .int (S2.1 0 6)) hx hb hts inG_X9 hown hK hP (kM_lt (rfl : kdM 0 = 9)) (eM9 (rfl : kdM 0 = 9)) rfl 6 (by decide) G_fl_X9_106 rfl rfl dX9_isSo_109 ?_
    refine lv_if_ne (tgt := 128) hx hb dX9_isSo_112 (by decide) (fun c16 => ?_) (fun c16 => ?_)
    · replace h := h.2 c16
      refine lv_iconst (v := 0) hx hb dX9_isSo_128 (by decide) ?_
      exact g_zret hx hb hr hlocks bz_0 h hP hS dX9_isSo_129
    · replace h := h.1 c16
      refine lv_aload_n hx hb dX9_isSo_115 rfl (lv_at hl 0 rfl) ?_
      refine g_get (v := .int (S2.1 0 5)) hx hb hts inG_X9 hown hK hP (kM_lt (rfl : kdM 0 = 9)) (eM9 (rfl : kdM 0 = 9)) rfl 5 (by decide) G_fl_X9_103 rfl rfl dX9_isSo_116 ?_
      refine lv_iconst (v := 2) hx hb dX9_isSo_119 (by decide) ?_
      refine lv_irem hx hb dX9_isSo_120 (by decide) ?_
      refine lv_if_ne (tgt := 128) hx hb dX9_isSo_121 (by decide) (fun c17 => ?_) (fun c17 => ?_)
      · replace h := h.2 c17
        refine lv_iconst (v := 0) hx hb dX9_isSo_128 (by decide) ?_
        exact g_zret hx hb hr hlocks bz_0 h hP hS dX9_isSo_129
      · replace h := h.1 c17
        refine lv_iconst (v := 1) hx hb dX9_isSo_124 (by decide) ?_
        refine lv_goto (tgt := 129) hx hb dX9_isSo_125 (by decide) ?_
        exact g_zret hx hb hr hlocks bz_1 h hP hS dX9_isSo_129
  replace h := h.2 c15
  by_cases c18 : v1 = 5
  · replace h := h.1 c18
    refine lv_tableIn (off := 119) (tgt := 130) hx hb dX9_isSo_11 (by rw [c18]; decide) (by rw [c18]; decide) (by rw [c18]; decide) (by decide) ?_
    refine lv_aload_n hx hb dX9_isSo_130 rfl (lv_at hl 0 rfl) ?_
    refine g_get (v := .int (S2.1 0 6)) hx hb hts inG_X9 hown hK hP (kM_lt (rfl : kdM 0 = 9)) (eM9 (rfl : kdM 0 = 9)) rfl 6 (by decide) G_fl_X9_106 rfl rfl dX9_isSo_131 ?_
    refine lv_if_ne (tgt := 151) hx hb dX9_isSo_134 (by decide) (fun c19 => ?_) (fun c19 => ?_)
    · replace h := h.2 c19
      refine lv_iconst (v := 0) hx hb dX9_isSo_151 (by decide) ?_
      exact g_zret hx hb hr hlocks bz_0 h hP hS dX9_isSo_152
    · replace h := h.1 c19
      refine lv_aload_n hx hb dX9_isSo_137 rfl (lv_at hl 0 rfl) ?_
      refine g_get (v := .int (S2.1 0 5)) hx hb hts inG_X9 hown hK hP (kM_lt (rfl : kdM 0 = 9)) (eM9 (rfl : kdM 0 = 9)) rfl 5 (by decide) G_fl_X9_103 rfl rfl dX9_isSo_138 ?_
      refine lv_iconst (v := 2) hx hb dX9_isSo_141 (by decide) ?_
      refine lv_irem hx hb dX9_isSo_142 (by decide) ?_
      refine lv_iconst (v := 1) hx hb dX9_isSo_143 (by decide) ?_
      refine lv_icmp_ne (tgt := 151) hx hb dX9_isSo_144 (by decide) (fun c20 => ?_) (fun c20 => ?_)
      · replace h := h.2 c20
        refine lv_iconst (v := 0) hx hb dX9_isSo_151 (by decide) ?_
        exact g_zret hx hb hr hlocks bz_0 h hP hS dX9_isSo_152
      · replace h := h.1 c20
        refine lv_iconst (v := 1) hx hb dX9_isSo_147 (by decide) ?_
        refine lv_goto (tgt := 152) hx hb dX9_isSo_148 (by decide) ?_
        exact g_zret hx hb hr hlocks bz_1 h hP hS dX9_isSo_152
  replace h := h.2 c18
  by_cases c21 : v1 = 6
  · replace h := h.1 c21
    refine lv_tableIn (off := 142) (tgt := 153) hx hb dX9_isSo_11 (by rw [c21]; decide) (by rw [c21]; decide) (by rw [c21]; decide) (by decide) ?_
    refine lv_aload_n hx hb dX9_isSo_153 rfl (lv_at hl 0 rfl) ?_
    refine g_get (v := .int (S2.1 0 6)) hx hb hts inG_X9 hown hK hP (kM_lt (rfl : kdM 0 = 9)) (eM9 (rfl : kdM 0 = 9)) rfl 6 (by decide) G_fl_X9_106 rfl rfl dX9_isSo_154 ?_
    refine lv_if_ne (tgt := 186) hx hb dX9_isSo_157 (by decide) (fun c22 => ?_) (fun c22 => ?_)
    · replace h := h.2 c22
      refine lv_iconst (v := 0) hx hb dX9_isSo_186 (by decide) ?_
      exact g_zret hx hb hr hlocks bz_0 h hP hS dX9_isSo_187
    · replace h := h.1 c22
      refine lv_aload_n hx hb dX9_isSo_160 rfl (lv_at hl 0 rfl) ?_
      refine g_get (v := .int (S2.1 0 5)) hx hb hts inG_X9 hown hK hP (kM_lt (rfl : kdM 0 = 9)) (eM9 (rfl : kdM 0 = 9)) rfl 5 (by decide) G_fl_X9_103 rfl rfl dX9_isSo_161 ?_
      refine lv_iconst (v := 2) hx hb dX9_isSo_164 (by decide) ?_
      refine lv_irem hx hb dX9_isSo_165 (by decide) ?_
      refine lv_if_ne (tgt := 186) hx hb dX9_isSo_166 (by decide) (fun c23 => ?_) (fun c23 => ?_)
      · replace h := h.2 c23
        refine lv_iconst (v := 0) hx hb dX9_isSo_186 (by decide) ?_
        exact g_zret hx hb hr hlocks bz_0 h hP hS dX9_isSo_187
      · replace h := h.1 c23
        refine lv_aload_n hx hb dX9_isSo_169 rfl (lv_at hl 0 rfl) ?_
        refine lv_iconst (v := 2) hx hb dX9_isSo_170 (by decide) ?_
        refine lv_aload_n hx hb dX9_isSo_171 rfl (lv_at hl 0 rfl) ?_
        refine g_get (v := .int (S2.1 0 15)) hx hb hts inG_X9 hown hK hP (kM_lt (rfl : kdM 0 = 9)) (eM9 (rfl : kdM 0 = 9)) rfl 15 (by decide) G_fl_X9_36 rfl rfl dX9_isSo_172 ?_
        replace h := h _ rfl
        refine va_calli (va_runV (As := [.int _, .int _]) (rest := []) ⟨hx, hb, hml, hown, hts⟩ (c_X9_ninesNow l hI h) (cwV 2 hts gv_X9_171 rfl rfl rfl hv_X9_ninesNow ⟨Nat.le_of_ble_eq_true rfl, Nat.le_of_ble_eq_true rfl⟩) (preV_M hKX hP hS (kM_lt (rfl : kdM 0 = 9)) (eM9 (rfl : kdM 0 = 9)) rfl) rfl rfl hl.1 rfl (lv_room (Nat.le_of_ble_eq_true rfl)) dX9_isSo_175 ⟨Nat.le_of_ble_eq_true rfl, Nat.le_of_ble_eq_true rfl⟩) hS (fun _ _ h => h) (fun _ h => h) (fun r26 S25 t H locs ht _ h hB _ _ hS => ?_)
        have hP : VM dC dI cA P S25 H := by rw [← ht]; exact hB
        refine lv_iconst (v := 1) hx hb dX9_isSo_178 (by decide) ?_
        refine lv_icmp_ne (tgt := 186) hx hb dX9_isSo_179 (by decide) (fun c27 => ?_) (fun c27 => ?_)
        · replace h := h.2 c27
          refine lv_iconst (v := 0) hx hb dX9_isSo_186 (by decide) ?_
          exact g_zret hx hb hr hlocks bz_0 h hP hS dX9_isSo_187
        · replace h := h.1 c27
          refine lv_iconst (v := 1) hx hb dX9_isSo_182 (by decide) ?_
          refine lv_goto (tgt := 187) hx hb dX9_isSo_183 (by decide) ?_
          exact g_zret hx hb hr hlocks bz_1 h hP hS dX9_isSo_187
  replace h := h.2 c21
  refine lv_tableOut (tgt := 188) hx hb dX9_isSo_11 (by have := lv_neT c3 (a := 0) (by decide); have := lv_neT c4 (a := 1) (by decide); have := lv_neT c8 (a := 2) (by decide); have := lv_neT c12 (a := 3) (by decide); have := lv_neT c15 (a := 4) (by decide); have := lv_neT c18 (a := 5) (by decide); have := lv_neT c21 (a := 6) (by decide); omega) (by decide) ?_
  refine lv_iload_n hx hb dX9_isSo_188 rfl (lv_at hl 2 rfl) ?_
  refine va_calli (va_runS (As := [.int _]) (rest := []) ⟨hx, hb, hml, hown, hts⟩ (c_X9_isPrime l hI h) (va_cwS 1 hts gs_X9_197 rfl rfl rfl hd_X9_isPrime ⟨Nat.le_of_ble_eq_true rfl, Nat.le_of_ble_eq_true rfl⟩) (preS_M hKX hP hS) rfl rfl hl.1 rfl (lv_room (Nat.le_of_ble_eq_true rfl)) dX9_isSo_189 ⟨Nat.le_of_ble_eq_true rfl, Nat.le_of_ble_eq_true rfl⟩) hS (fun _ _ h => h) (fun _ h => h) (fun r29 S28 t H locs ht _ h hB _ _ hS => ?_)
  have hP : VM dC dI cA P S28 H := by rw [← ht]; exact hB
  exact g_zret hx hb hr hlocks h.1 h.2 hP hS dX9_isSo_192
set_option maxRecDepth 100000 in
set_option maxHeartbeats 4000000 in
theorem c_X9_isSo (l : Launch) {dC : Nat → ClassId} {dI : Nat → Nat → Nat} {cA : Nat → ClassId} {P : Nat → Nat} (hI : PInj 25 P) {v1 : Int32} {v2 : Int32}  {post : Int32 → St → Prop} {S : St} (h : w_X9_isSo v1 v2 post S) : Met l yX9_isSo (wW yX9_isSo cX9_isSo 3 (some .boolean)) ({ frames := 2, cells := 0, slots := 0, locals := 53 } : Room) (va_Pc [.ref (P 0), .int v1, .int v2] (PreM dC dI cA P S)) (va_Qi post (fun u t => VM dC dI cA P u t.heap) (PA 25 P)) 0 0 (PA 25 P) := by
  refine Met.ofW (cc := cX9_isSo) (maxL := 3) (ret := (some .boolean)) (by decide) rfl ?_
  intro p e s m args below meth c s₁ B hml hv
  obtain ⟨rfl, hP, hKX⟩ := hv
  have hts : ∀ w ∈ G, w.before [.ref (P 0), .int v1, .int v2].toArray s = true := fun w hw => atoms_spec (ws := wW yX9_isSo cX9_isSo 3 (some .boolean)) B.pre w (List.mem_cons_of_mem _ hw)
  have C : CtxM dC dI cA P p s m [.ref (P 0), .int v1, .int v2].toArray meth c cX9_isSo 3 (some .boolean) RX9 := ⟨hI, hKX, ⟨B.exec, B.bytes, hml, findClass_of_methodNamed B.named, hts⟩, B.returns, B.notSynchronized⟩
  have hS : va_S (PA 25 P) s.heap s.heap [] := va_S.rf
  have hl := lv_entry ([.ref (P 0), .int v1, .int v2]) (n := 3) (Nat.le_of_ble_eq_true rfl)
  rw [lg_entry_eq]
  generalize (lg_sl ([.ref (P 0), .int v1, .int v2]) ++ List.replicate (3 - (lg_sl ([.ref (P 0), .int v1, .int v2])).length) Slot.unset).toArray = ls at hl ⊢
  have hl : lv_has ls 3 [(0, .ref (P 0)), (1, .int v1), (2, .int v2)] := hl
  exact e_X9_isSo C _ _ _ _ _ _ h  hP hS hl
set_option maxRecDepth 100000 in
set_option maxHeartbeats 4000000 in
theorem e_X9_listed {p : Program} {l : Launch} {e : Env} {s : State} {m : MethodId} {args : Array Value} {below : List Frame} {meth : Method} {c : Code} {dC : Nat → ClassId} {dI : Nat → Nat → Nat} {cA : Nat → ClassId} {P : Nat → Nat} (C : CtxM dC dI cA P p s m args meth c cX9_listed 2 (some .int) RX9) {post : Int32 → St → Prop} : ∀ (v1 : Int32) (S : St) (H : Heap) (locs : List Loc) (ls : Array Slot), w_X9_listed v1 post S → VM dC dI cA P S H → va_S (PA 25 P) s.heap H locs → lv_has ls 2 [(0, .ref (P 0)), (1, .int v1)] → W p l e ({ frames := 0, cells := 0, slots := 0, locals := 0 } : Room) s m args below meth c H locs 0 0 (MQ below (va_Qi post (fun u t => VM dC dI cA P u t.heap) (PA 25 P)) args s 0 0 (PA 25 P)) (F0 m 0 ls []) := by
  have C := C
  obtain ⟨hI, hKX, ⟨hx, hb, hml, hown, hts⟩, hr, hlocks⟩ := id C
  have hK := hKX
  intro v1 S H locs ls h hP hS hl
  rw [w_X9_listed] at h
  refine lv_iload_n hx hb dX9_listed_0 rfl (lv_at hl 1 rfl) ?_
  refine lv_if_ge (tgt := 6) hx hb dX9_listed_1 (by decide) (fun c1 => ?_) (fun c1 => ?_)
  · replace h := h.1 c1
    refine lv_iload_n hx hb dX9_listed_6 rfl (lv_at hl 1 rfl) ?_
    refine lv_aload_n hx hb dX9_listed_7 rfl (lv_at hl 0 rfl) ?_
    refine g_get (v := .int (S.1 0 14)) hx hb hts inG_X9 hown hK hP (kM_lt (rfl : kdM 0 = 9)) (eM9 (rfl : kdM 0 = 9)) rfl 14 (by decide) G_fl_X9_194 rfl rfl dX9_listed_8 ?_
    refine lv_icmp_ge (tgt := 23) hx hb dX9_listed_11 (by decide) (fun c2 => ?_) (fun c2 => ?_)
    · replace h := h.1 c2
      refine lv_bipush (v := (-2)) hx hb dX9_listed_23 (by decide) ?_
      exact g_iret hx hb hr hlocks h hP hS dX9_listed_25
    · replace h := h.2 c2
      refine lv_aload_n hx hb dX9_listed_14 rfl (lv_at hl 0 rfl) ?_
      refine g_get (v := .ref (P 9)) hx hb hts inG_X9 hown hK hP (kM_lt (rfl : kdM 0 = 9)) (eM9 (rfl : kdM 0 = 9)) rfl 16 (by decide) G_fl_X9_40 rfl rfl dX9_listed_15 ?_
      refine lv_iload_n hx hb dX9_listed_18 rfl (lv_at hl 1 rfl) ?_
      refine g_ald hx hb hK hP (kM_lt (rfl : kdM 9 = 10)) 0 (eM10 (rfl : kdM 9 = 10)) rfl h.1 dX9_listed_19 ?_
      replace h := h.2
      refine lv_goto (tgt := 25) hx hb dX9_listed_20 (by decide) ?_
      exact g_iret hx hb hr hlocks h hP hS dX9_listed_25
  · replace h := h.2 c1
    refine lv_iconst (v := (-1)) hx hb dX9_listed_4 (by decide) ?_
    exact g_iret hx hb hr hlocks h hP hS dX9_listed_5
set_option maxRecDepth 100000 in
set_option maxHeartbeats 4000000 in
theorem c_X9_listed (l : Launch) {dC : Nat → ClassId} {dI : Nat → Nat → Nat} {cA : Nat → ClassId} {P : Nat → Nat} (hI : PInj 25 P) {v1 : Int32}  {post : Int32 → St → Prop} {S : St} (h : w_X9_listed v1 post S) : Met l yX9_listed (wW yX9_listed cX9_listed 2 (some .int)) ({ frames := 0, cells := 0, slots := 0, locals := 0 } : Room) (va_Pc [.ref (P 0), .int v1] (PreM dC dI cA P S)) (va_Qi post (fun u t => VM dC dI cA P u t.heap) (PA 25 P)) 0 0 (PA 25 P) := by
  refine Met.ofW (cc := cX9_listed) (maxL := 2) (ret := (some .int)) (by decide) rfl ?_
  intro p e s m args below meth c s₁ B hml hv
  obtain ⟨rfl, hP, hKX⟩ := hv
  have hts : ∀ w ∈ G, w.before [.ref (P 0), .int v1].toArray s = true := fun w hw => atoms_spec (ws := wW yX9_listed cX9_listed 2 (some .int)) B.pre w (List.mem_cons_of_mem _ hw)
  have C : CtxM dC dI cA P p s m [.ref (P 0), .int v1].toArray meth c cX9_listed 2 (some .int) RX9 := ⟨hI, hKX, ⟨B.exec, B.bytes, hml, findClass_of_methodNamed B.named, hts⟩, B.returns, B.notSynchronized⟩
  have hS : va_S (PA 25 P) s.heap s.heap [] := va_S.rf
  have hl := lv_entry ([.ref (P 0), .int v1]) (n := 2) (Nat.le_of_ble_eq_true rfl)
  rw [lg_entry_eq]
  generalize (lg_sl ([.ref (P 0), .int v1]) ++ List.replicate (2 - (lg_sl ([.ref (P 0), .int v1])).length) Slot.unset).toArray = ls at hl ⊢
  have hl : lv_has ls 2 [(0, .ref (P 0)), (1, .int v1)] := hl
  exact e_X9_listed C _ _ _ _ _ h  hP hS hl
