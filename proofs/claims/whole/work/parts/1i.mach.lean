set_option maxRecDepth 100000 in
set_option maxHeartbeats 4000000 in
theorem e_X9_digit {p : Program} {l : Launch} {e : Env} {s : State} {m : MethodId} {args : Array Value} {below : List Frame} {meth : Method} {c : Code} {dC : Nat → ClassId} {dI : Nat → Nat → Nat} {cA : Nat → ClassId} {P : Nat → Nat} (C : CtxM dC dI cA P p s m args meth c cX9_digit 3 (some .int) RX9) {post : Int32 → St → Prop} : ∀ (v1 : Int32) (v2 : Int32) (S : St) (H : Heap) (locs : List Loc) (ls : Array Slot), w_X9_digit v1 v2 post S → VM dC dI cA P S H → va_S (PA 25 P) s.heap H locs → lv_has ls 3 [(0, .ref (P 0)), (1, .int v1), (2, .int v2)] → W p l e ({ frames := 2, cells := 0, slots := 0, locals := 47 } : Room) s m args below meth c H locs 0 0 (MQ below (va_Qi post (fun u t => VM dC dI cA P u t.heap) (PA 25 P)) args s 0 0 (PA 25 P)) (F0 m 0 ls []) := by
  have C := C
  obtain ⟨hI, hKX, ⟨hx, hb, hml, hown, hts⟩, hr, hlocks⟩ := id C
  have hK := hKX
  intro v1 v2 S H locs ls h hP hS hl
  rw [w_X9_digit] at h
  refine lv_aload_n hx hb dX9_digit_0 rfl (lv_at hl 0 rfl) ?_
  refine lv_iload_n hx hb dX9_digit_1 rfl (lv_at hl 1 rfl) ?_
  refine va_calli (va_runV (As := [.int _]) (rest := []) ⟨hx, hb, hml, hown, hts⟩ (c_X9_isFraction l hI h) (cwV 1 hts gv_X9_126 rfl rfl rfl hv_X9_isFraction ⟨Nat.le_of_ble_eq_true rfl, Nat.le_of_ble_eq_true rfl⟩) (preV_M hKX hP hS (kM_lt (rfl : kdM 0 = 9)) (eM9 (rfl : kdM 0 = 9)) rfl) rfl rfl hl.1 rfl (lv_room (Nat.le_of_ble_eq_true rfl)) dX9_digit_2 ⟨Nat.le_of_ble_eq_true rfl, Nat.le_of_ble_eq_true rfl⟩) hS (fun _ _ h => h) (fun _ h => h) (fun r2 S1 t H locs ht _ h hB _ _ hS => ?_)
  have hP : VM dC dI cA P S1 H := by rw [← ht]; exact hB
  refine lv_if_eq (tgt := 20) hx hb dX9_digit_5 (by decide) (fun c3 => ?_) (fun c3 => ?_)
  · replace h := h.1 c3
    refine lv_iconst (v := (-1)) hx hb dX9_digit_20 (by decide) ?_
    exact g_iret hx hb hr hlocks h hP hS dX9_digit_21
  · replace h := h.2 c3
    refine lv_iload_n hx hb dX9_digit_8 rfl (lv_at hl 2 rfl) ?_
    refine lv_i2l hx hb dX9_digit_9 rfl ?_
    refine lv_lconst (v := 0) hx hb dX9_digit_10 (by decide) ?_
    refine lv_ldc2 (v := 9999) hx hb hown (hts _ G_co_X9_114) dX9_digit_11 ?_
    replace h := h _ rfl
    refine va_calli (va_runS (As := [.long _, .long _, .long _]) (rest := []) ⟨hx, hb, hml, hown, hts⟩ (c_X9_isIn l hI h) (va_cwS 3 hts gs_X9_92 rfl rfl rfl hd_X9_isIn ⟨Nat.le_of_ble_eq_true rfl, Nat.le_of_ble_eq_true rfl⟩) (preS_M hKX hP hS) rfl rfl hl.1 rfl (lv_room (Nat.le_of_ble_eq_true rfl)) dX9_digit_14 ⟨Nat.le_of_ble_eq_true rfl, Nat.le_of_ble_eq_true rfl⟩) hS (fun _ _ h => h) (fun _ h => h) (fun r6 S5 t H locs ht _ h hB _ _ hS => ?_)
    have hP : VM dC dI cA P S5 H := by rw [← ht]; exact hB
    refine lv_if_ne (tgt := 22) hx hb dX9_digit_17 (by decide) (fun c7 => ?_) (fun c7 => ?_)
    · replace h := h.2 c7
      refine lv_aload_n hx hb dX9_digit_22 rfl (lv_at hl 0 rfl) ?_
      refine lv_iload_n hx hb dX9_digit_23 rfl (lv_at hl 1 rfl) ?_
      refine va_callv (va_runV (As := [.int _]) (rest := []) ⟨hx, hb, hml, hown, hts⟩ (c_X9_looksAt l hI h) (cwV 1 hts gv_X9_137 rfl rfl rfl hv_X9_looksAt ⟨Nat.le_of_ble_eq_true rfl, Nat.le_of_ble_eq_true rfl⟩) (preV_M hKX hP hS (kM_lt (rfl : kdM 0 = 9)) (eM9 (rfl : kdM 0 = 9)) rfl) rfl rfl hl.1 rfl (lv_room (Nat.le_of_ble_eq_true rfl)) dX9_digit_24 ⟨Nat.le_of_ble_eq_true rfl, Nat.le_of_ble_eq_true rfl⟩) hS (fun _ _ h => h) (fun _ h => h) (fun S8 t H locs ht _ h hB _ _ hS => ?_)
      have hP : VM dC dI cA P S8 H := by rw [← ht]; exact hB
      refine lv_aload_n hx hb dX9_digit_27 rfl (lv_at hl 0 rfl) ?_
      refine g_get (v := .ref (P 6)) hx hb hts inG_X9 hown hK hP (kM_lt (rfl : kdM 0 = 9)) (eM9 (rfl : kdM 0 = 9)) rfl 9 (by decide) G_fl_X9_27 rfl rfl dX9_digit_28 ?_
      refine lv_aload_n hx hb dX9_digit_31 rfl (lv_at hl 0 rfl) ?_
      refine lv_iload_n hx hb dX9_digit_32 rfl (lv_at hl 2 rfl) ?_
      refine va_calli (va_runV (As := [.int _]) (rest := [.ref _]) ⟨hx, hb, hml, hown, hts⟩ (c_X9_placeOf l hI h) (cwV 1 hts gv_X9_145 rfl rfl rfl hv_X9_placeOf ⟨Nat.le_of_ble_eq_true rfl, Nat.le_of_ble_eq_true rfl⟩) (preV_M hKX hP hS (kM_lt (rfl : kdM 0 = 9)) (eM9 (rfl : kdM 0 = 9)) rfl) rfl rfl hl.1 rfl (lv_room (Nat.le_of_ble_eq_true rfl)) dX9_digit_33 ⟨Nat.le_of_ble_eq_true rfl, Nat.le_of_ble_eq_true rfl⟩) hS (fun _ _ h => h) (fun _ h => h) (fun r10 S9 t H locs ht _ h hB _ _ hS => ?_)
      have hP : VM dC dI cA P S9 H := by rw [← ht]; exact hB
      refine g_ald hx hb hK hP (kM_lt (rfl : kdM 6 = 10)) 0 (eM10 (rfl : kdM 6 = 10)) rfl h.1 dX9_digit_36 ?_
      replace h := h.2
      exact g_iret hx hb hr hlocks h hP hS dX9_digit_37
    · replace h := h.1 c7
      refine lv_iconst (v := (-1)) hx hb dX9_digit_20 (by decide) ?_
      exact g_iret hx hb hr hlocks h hP hS dX9_digit_21
set_option maxRecDepth 100000 in
set_option maxHeartbeats 4000000 in
theorem c_X9_digit (l : Launch) {dC : Nat → ClassId} {dI : Nat → Nat → Nat} {cA : Nat → ClassId} {P : Nat → Nat} (hI : PInj 25 P) {v1 : Int32} {v2 : Int32}  {post : Int32 → St → Prop} {S : St} (h : w_X9_digit v1 v2 post S) : Met l yX9_digit (wW yX9_digit cX9_digit 3 (some .int)) ({ frames := 2, cells := 0, slots := 0, locals := 47 } : Room) (va_Pc [.ref (P 0), .int v1, .int v2] (PreM dC dI cA P S)) (va_Qi post (fun u t => VM dC dI cA P u t.heap) (PA 25 P)) 0 0 (PA 25 P) := by
  refine Met.ofW (cc := cX9_digit) (maxL := 3) (ret := (some .int)) (by decide) rfl ?_
  intro p e s m args below meth c s₁ B hml hv
  obtain ⟨rfl, hP, hKX⟩ := hv
  have hts : ∀ w ∈ G, w.before [.ref (P 0), .int v1, .int v2].toArray s = true := fun w hw => atoms_spec (ws := wW yX9_digit cX9_digit 3 (some .int)) B.pre w (List.mem_cons_of_mem _ hw)
  have C : CtxM dC dI cA P p s m [.ref (P 0), .int v1, .int v2].toArray meth c cX9_digit 3 (some .int) RX9 := ⟨hI, hKX, ⟨B.exec, B.bytes, hml, findClass_of_methodNamed B.named, hts⟩, B.returns, B.notSynchronized⟩
  have hS : va_S (PA 25 P) s.heap s.heap [] := va_S.rf
  have hl := lv_entry ([.ref (P 0), .int v1, .int v2]) (n := 3) (Nat.le_of_ble_eq_true rfl)
  rw [lg_entry_eq]
  generalize (lg_sl ([.ref (P 0), .int v1, .int v2]) ++ List.replicate (3 - (lg_sl ([.ref (P 0), .int v1, .int v2])).length) Slot.unset).toArray = ls at hl ⊢
  have hl : lv_has ls 3 [(0, .ref (P 0)), (1, .int v1), (2, .int v2)] := hl
  exact e_X9_digit C _ _ _ _ _ _ h  hP hS hl
set_option maxRecDepth 100000 in
set_option maxHeartbeats 4000000 in
theorem e_X9_rest {p : Program} {l : Launch} {e : Env} {s : State} {m : MethodId} {args : Array Value} {below : List Frame} {meth : Method} {c : Code} {dC : Nat → ClassId} {dI : Nat → Nat → Nat} {cA : Nat → ClassId} {P : Nat → Nat} (C : CtxM dC dI cA P p s m args meth c cX9_rest 3 (some .int) RX9) {post : Int32 → St → Prop} : ∀ (v1 : Int32) (v2 : Int32) (S : St) (H : Heap) (locs : List Loc) (ls : Array Slot), w_X9_rest v1 v2 post S → VM dC dI cA P S H → va_S (PA 25 P) s.heap H locs → lv_has ls 3 [(0, .ref (P 0)), (1, .int v1), (2, .int v2)] → W p l e ({ frames := 2, cells := 0, slots := 0, locals := 47 } : Room) s m args below meth c H locs 0 0 (MQ below (va_Qi post (fun u t => VM dC dI cA P u t.heap) (PA 25 P)) args s 0 0 (PA 25 P)) (F0 m 0 ls []) := by
  have C := C
  obtain ⟨hI, hKX, ⟨hx, hb, hml, hown, hts⟩, hr, hlocks⟩ := id C
  have hK := hKX
  intro v1 v2 S H locs ls h hP hS hl
  rw [w_X9_rest] at h
  refine lv_aload_n hx hb dX9_rest_0 rfl (lv_at hl 0 rfl) ?_
  refine lv_iload_n hx hb dX9_rest_1 rfl (lv_at hl 1 rfl) ?_
  refine va_calli (va_runV (As := [.int _]) (rest := []) ⟨hx, hb, hml, hown, hts⟩ (c_X9_isFraction l hI h) (cwV 1 hts gv_X9_126 rfl rfl rfl hv_X9_isFraction ⟨Nat.le_of_ble_eq_true rfl, Nat.le_of_ble_eq_true rfl⟩) (preV_M hKX hP hS (kM_lt (rfl : kdM 0 = 9)) (eM9 (rfl : kdM 0 = 9)) rfl) rfl rfl hl.1 rfl (lv_room (Nat.le_of_ble_eq_true rfl)) dX9_rest_2 ⟨Nat.le_of_ble_eq_true rfl, Nat.le_of_ble_eq_true rfl⟩) hS (fun _ _ h => h) (fun _ h => h) (fun r2 S1 t H locs ht _ h hB _ _ hS => ?_)
  have hP : VM dC dI cA P S1 H := by rw [← ht]; exact hB
  refine lv_if_eq (tgt := 20) hx hb dX9_rest_5 (by decide) (fun c3 => ?_) (fun c3 => ?_)
  · replace h := h.1 c3
    refine lv_iconst (v := (-1)) hx hb dX9_rest_20 (by decide) ?_
    exact g_iret hx hb hr hlocks h hP hS dX9_rest_21
  · replace h := h.2 c3
    refine lv_iload_n hx hb dX9_rest_8 rfl (lv_at hl 2 rfl) ?_
    refine lv_i2l hx hb dX9_rest_9 rfl ?_
    refine lv_lconst (v := 0) hx hb dX9_rest_10 (by decide) ?_
    refine lv_ldc2 (v := 9999) hx hb hown (hts _ G_co_X9_114) dX9_rest_11 ?_
    replace h := h _ rfl
    refine va_calli (va_runS (As := [.long _, .long _, .long _]) (rest := []) ⟨hx, hb, hml, hown, hts⟩ (c_X9_isIn l hI h) (va_cwS 3 hts gs_X9_92 rfl rfl rfl hd_X9_isIn ⟨Nat.le_of_ble_eq_true rfl, Nat.le_of_ble_eq_true rfl⟩) (preS_M hKX hP hS) rfl rfl hl.1 rfl (lv_room (Nat.le_of_ble_eq_true rfl)) dX9_rest_14 ⟨Nat.le_of_ble_eq_true rfl, Nat.le_of_ble_eq_true rfl⟩) hS (fun _ _ h => h) (fun _ h => h) (fun r6 S5 t H locs ht _ h hB _ _ hS => ?_)
    have hP : VM dC dI cA P S5 H := by rw [← ht]; exact hB
    refine lv_if_ne (tgt := 22) hx hb dX9_rest_17 (by decide) (fun c7 => ?_) (fun c7 => ?_)
    · replace h := h.2 c7
      refine lv_aload_n hx hb dX9_rest_22 rfl (lv_at hl 0 rfl) ?_
      refine lv_iload_n hx hb dX9_rest_23 rfl (lv_at hl 1 rfl) ?_
      refine va_callv (va_runV (As := [.int _]) (rest := []) ⟨hx, hb, hml, hown, hts⟩ (c_X9_looksAt l hI h) (cwV 1 hts gv_X9_137 rfl rfl rfl hv_X9_looksAt ⟨Nat.le_of_ble_eq_true rfl, Nat.le_of_ble_eq_true rfl⟩) (preV_M hKX hP hS (kM_lt (rfl : kdM 0 = 9)) (eM9 (rfl : kdM 0 = 9)) rfl) rfl rfl hl.1 rfl (lv_room (Nat.le_of_ble_eq_true rfl)) dX9_rest_24 ⟨Nat.le_of_ble_eq_true rfl, Nat.le_of_ble_eq_true rfl⟩) hS (fun _ _ h => h) (fun _ h => h) (fun S8 t H locs ht _ h hB _ _ hS => ?_)
      have hP : VM dC dI cA P S8 H := by rw [← ht]; exact hB
      refine lv_aload_n hx hb dX9_rest_27 rfl (lv_at hl 0 rfl) ?_
      refine g_get (v := .ref (P 5)) hx hb hts inG_X9 hown hK hP (kM_lt (rfl : kdM 0 = 9)) (eM9 (rfl : kdM 0 = 9)) rfl 8 (by decide) G_fl_X9_24 rfl rfl dX9_rest_28 ?_
      refine lv_aload_n hx hb dX9_rest_31 rfl (lv_at hl 0 rfl) ?_
      refine lv_iload_n hx hb dX9_rest_32 rfl (lv_at hl 2 rfl) ?_
      refine va_calli (va_runV (As := [.int _]) (rest := [.ref _]) ⟨hx, hb, hml, hown, hts⟩ (c_X9_placeOf l hI h) (cwV 1 hts gv_X9_145 rfl rfl rfl hv_X9_placeOf ⟨Nat.le_of_ble_eq_true rfl, Nat.le_of_ble_eq_true rfl⟩) (preV_M hKX hP hS (kM_lt (rfl : kdM 0 = 9)) (eM9 (rfl : kdM 0 = 9)) rfl) rfl rfl hl.1 rfl (lv_room (Nat.le_of_ble_eq_true rfl)) dX9_rest_33 ⟨Nat.le_of_ble_eq_true rfl, Nat.le_of_ble_eq_true rfl⟩) hS (fun _ _ h => h) (fun _ h => h) (fun r10 S9 t H locs ht _ h hB _ _ hS => ?_)
      have hP : VM dC dI cA P S9 H := by rw [← ht]; exact hB
      refine g_ald hx hb hK hP (kM_lt (rfl : kdM 5 = 10)) 0 (eM10 (rfl : kdM 5 = 10)) rfl h.1 dX9_rest_36 ?_
      replace h := h.2
      exact g_iret hx hb hr hlocks h hP hS dX9_rest_37
    · replace h := h.1 c7
      refine lv_iconst (v := (-1)) hx hb dX9_rest_20 (by decide) ?_
      exact g_iret hx hb hr hlocks h hP hS dX9_rest_21
set_option maxRecDepth 100000 in
set_option maxHeartbeats 4000000 in
theorem c_X9_rest (l : Launch) {dC : Nat → ClassId} {dI : Nat → Nat → Nat} {cA : Nat → ClassId} {P : Nat → Nat} (hI : PInj 25 P) {v1 : Int32} {v2 : Int32}  {post : Int32 → St → Prop} {S : St} (h : w_X9_rest v1 v2 post S) : Met l yX9_rest (wW yX9_rest cX9_rest 3 (some .int)) ({ frames := 2, cells := 0, slots := 0, locals := 47 } : Room) (va_Pc [.ref (P 0), .int v1, .int v2] (PreM dC dI cA P S)) (va_Qi post (fun u t => VM dC dI cA P u t.heap) (PA 25 P)) 0 0 (PA 25 P) := by
  refine Met.ofW (cc := cX9_rest) (maxL := 3) (ret := (some .int)) (by decide) rfl ?_
  intro p e s m args below meth c s₁ B hml hv
  obtain ⟨rfl, hP, hKX⟩ := hv
  have hts : ∀ w ∈ G, w.before [.ref (P 0), .int v1, .int v2].toArray s = true := fun w hw => atoms_spec (ws := wW yX9_rest cX9_rest 3 (some .int)) B.pre w (List.mem_cons_of_mem _ hw)
  have C : CtxM dC dI cA P p s m [.ref (P 0), .int v1, .int v2].toArray meth c cX9_rest 3 (some .int) RX9 := ⟨hI, hKX, ⟨B.exec, B.bytes, hml, findClass_of_methodNamed B.named, hts⟩, B.returns, B.notSynchronized⟩
  have hS : va_S (PA 25 P) s.heap s.heap [] := va_S.rf
  have hl := lv_entry ([.ref (P 0), .int v1, .int v2]) (n := 3) (Nat.le_of_ble_eq_true rfl)
  rw [lg_entry_eq]
  generalize (lg_sl ([.ref (P 0), .int v1, .int v2]) ++ List.replicate (3 - (lg_sl ([.ref (P 0), .int v1, .int v2])).length) Slot.unset).toArray = ls at hl ⊢
  have hl : lv_has ls 3 [(0, .ref (P 0)), (1, .int v1), (2, .int v2)] := hl
  exact e_X9_rest C _ _ _ _ _ _ h  hP hS hl
set_option maxRecDepth 100000 in
set_option maxHeartbeats 4000000 in
theorem b_X9_place_35 {p : Program} {l : Launch} {e : Env} {s : State} {m : MethodId} {args : Array Value} {below : List Frame} {meth : Method} {c : Code} {dC : Nat → ClassId} {dI : Nat → Nat → Nat} {cA : Nat → ClassId} {P : Nat → Nat} (C : CtxM dC dI cA P p s m args meth c cX9_place 4 (some .int) RX9) {post : Int32 → St → Prop}  : ∀ (n : Nat) (v2 : Int32) (v3 : Int32) (S : St) (H : Heap) (locs : List Loc) (ls : Array Slot), w_X9_place_35 post n v2 v3 S → VM dC dI cA P S H → va_S (PA 25 P) s.heap H locs → lv_has ls 4 [(0, .ref (P 0)), (2, .int v2), (3, .int v3)] → W p l e ({ frames := 2, cells := 0, slots := 0, locals := 47 } : Room) s m args below meth c H locs 0 0 (MQ below (va_Qi post (fun u t => VM dC dI cA P u t.heap) (PA 25 P)) args s 0 0 (PA 25 P)) (F0 m 35 ls []) := by
  have C := C
  obtain ⟨hI, hKX, ⟨hx, hb, hml, hown, hts⟩, hr, hlocks⟩ := id C
  have hK := hKX
  intro n
  induction n with
  | zero =>
    intro v2 v3 S H locs ls h hP hS hl
    simp only [w_X9_place_35] at h
  | succ n ih =>
    intro v2 v3 S H locs ls h hP hS hl
    rw [w_X9_place_35] at h
    refine lv_iload_n hx hb dX9_place_35 rfl (lv_at hl 2 rfl) ?_
    refine lv_aload_n hx hb dX9_place_36 rfl (lv_at hl 0 rfl) ?_
    refine g_get (v := .int (S.1 0 4)) hx hb hts inG_X9 hown hK hP (kM_lt (rfl : kdM 0 = 9)) (eM9 (rfl : kdM 0 = 9)) rfl 4 (by decide) G_fl_X9_100 rfl rfl dX9_place_37 ?_
    refine lv_aload_n hx hb dX9_place_40 rfl (lv_at hl 0 rfl) ?_
    refine g_get (v := .int (S.1 0 5)) hx hb hts inG_X9 hown hK hP (kM_lt (rfl : kdM 0 = 9)) (eM9 (rfl : kdM 0 = 9)) rfl 5 (by decide) G_fl_X9_103 rfl rfl dX9_place_41 ?_
    refine lv_iadd hx hb dX9_place_44 ?_
    refine lv_icmp_ge (tgt := 66) hx hb dX9_place_45 (by decide) (fun c10 => ?_) (fun c10 => ?_)
    · replace h := h.1 c10
      refine lv_bipush (v := (-2)) hx hb dX9_place_66 (by decide) ?_
      exact g_iret hx hb hr hlocks h hP hS dX9_place_68
    · replace h := h.2 c10
      refine lv_aload_n hx hb dX9_place_48 rfl (lv_at hl 0 rfl) ?_
      refine g_get (v := .ref (P 6)) hx hb hts inG_X9 hown hK hP (kM_lt (rfl : kdM 0 = 9)) (eM9 (rfl : kdM 0 = 9)) rfl 9 (by decide) G_fl_X9_27 rfl rfl dX9_place_49 ?_
      refine lv_iload_n hx hb dX9_place_52 rfl (lv_at hl 2 rfl) ?_
      refine g_ald hx hb hK hP (kM_lt (rfl : kdM 6 = 10)) 0 (eM10 (rfl : kdM 6 = 10)) rfl h.1 dX9_place_53 ?_
      replace h := h.2
      refine lv_iload_n hx hb dX9_place_54 rfl (lv_at hl 1 rfl) ?_
      refine lv_icmp_ne (tgt := 60) hx hb dX9_place_55 (by decide) (fun c11 => ?_) (fun c11 => ?_)
      · replace h := h.2 c11
        obtain ⟨x12, ex12⟩ : ∃ y : Int32, y = v3 + 1 := ⟨_, rfl⟩
        replace h := h x12 ex12
        refine lv_iinc (v := x12) (lv' := [(3, .int x12), (0, .ref (P 0)), (2, .int v2)]) hx hb dX9_place_60 hl (k := 2) rfl (by rw [ex12]; rfl) (by decide) rfl (fun ls hl => ?_)
        refine lv_goto (tgt := 35) hx hb dX9_place_63 (by decide) ?_
        exact ih _ _ _ _ _ _ h  hP hS (lv_sub hl [1, 2, 0] rfl)
      · replace h := h.1 c11
        refine lv_iload_n hx hb dX9_place_58 rfl (lv_at hl 2 rfl) ?_
        exact g_iret hx hb hr hlocks h hP hS dX9_place_59
set_option maxRecDepth 100000 in
set_option maxHeartbeats 4000000 in
theorem e_X9_place {p : Program} {l : Launch} {e : Env} {s : State} {m : MethodId} {args : Array Value} {below : List Frame} {meth : Method} {c : Code} {dC : Nat → ClassId} {dI : Nat → Nat → Nat} {cA : Nat → ClassId} {P : Nat → Nat} (C : CtxM dC dI cA P p s m args meth c cX9_place 4 (some .int) RX9) {post : Int32 → St → Prop} : ∀ (v1 : Int32) (v2 : Int32) (S : St) (H : Heap) (locs : List Loc) (ls : Array Slot), w_X9_place v1 v2 post S → VM dC dI cA P S H → va_S (PA 25 P) s.heap H locs → lv_has ls 4 [(0, .ref (P 0)), (1, .int v1), (2, .int v2)] → W p l e ({ frames := 2, cells := 0, slots := 0, locals := 47 } : Room) s m args below meth c H locs 0 0 (MQ below (va_Qi post (fun u t => VM dC dI cA P u t.heap) (PA 25 P)) args s 0 0 (PA 25 P)) (F0 m 0 ls []) := by
  have C := C
  obtain ⟨hI, hKX, ⟨hx, hb, hml, hown, hts⟩, hr, hlocks⟩ := id C
  have hK := hKX
  intro v1 v2 S H locs ls h hP hS hl
  rw [w_X9_place] at h
  refine lv_aload_n hx hb dX9_place_0 rfl (lv_at hl 0 rfl) ?_
  refine lv_iload_n hx hb dX9_place_1 rfl (lv_at hl 1 rfl) ?_
  refine va_calli (va_runV (As := [.int _]) (rest := []) ⟨hx, hb, hml, hown, hts⟩ (c_X9_isFraction l hI h) (cwV 1 hts gv_X9_126 rfl rfl rfl hv_X9_isFraction ⟨Nat.le_of_ble_eq_true rfl, Nat.le_of_ble_eq_true rfl⟩) (preV_M hKX hP hS (kM_lt (rfl : kdM 0 = 9)) (eM9 (rfl : kdM 0 = 9)) rfl) rfl rfl hl.1 rfl (lv_room (Nat.le_of_ble_eq_true rfl)) dX9_place_2 ⟨Nat.le_of_ble_eq_true rfl, Nat.le_of_ble_eq_true rfl⟩) hS (fun _ _ h => h) (fun _ h => h) (fun r2 S1 t H locs ht _ h hB _ _ hS => ?_)
  have hP : VM dC dI cA P S1 H := by rw [← ht]; exact hB
  refine lv_if_eq (tgt := 26) hx hb dX9_place_5 (by decide) (fun c3 => ?_) (fun c3 => ?_)
  · replace h := h.1 c3
    refine lv_iconst (v := (-1)) hx hb dX9_place_26 (by decide) ?_
    exact g_iret hx hb hr hlocks h hP hS dX9_place_27
  · replace h := h.2 c3
    refine lv_iload_n hx hb dX9_place_8 rfl (lv_at hl 2 rfl) ?_
    refine lv_i2l hx hb dX9_place_9 rfl ?_
    refine lv_lconst (v := 0) hx hb dX9_place_10 (by decide) ?_
    refine lv_aload_n hx hb dX9_place_11 rfl (lv_at hl 0 rfl) ?_
    refine g_get (v := .ref (P 3)) hx hb hts inG_X9 hown hK hP (kM_lt (rfl : kdM 0 = 9)) (eM9 (rfl : kdM 0 = 9)) rfl 3 (by decide) G_fl_X9_18 rfl rfl dX9_place_12 ?_
    refine lv_iload_n hx hb dX9_place_15 rfl (lv_at hl 1 rfl) ?_
    refine g_ald hx hb hK hP (kM_lt (rfl : kdM 3 = 10)) 0 (eM10 (rfl : kdM 3 = 10)) rfl h.1 dX9_place_16 ?_
    replace h := h.2
    refine lv_iconst (v := 1) hx hb dX9_place_17 (by decide) ?_
    refine lv_isub hx hb dX9_place_18 ?_
    refine lv_i2l hx hb dX9_place_19 rfl ?_
    replace h := h _ rfl
    replace h := h _ rfl
    refine va_calli (va_runS (As := [.long _, .long _, .long _]) (rest := []) ⟨hx, hb, hml, hown, hts⟩ (c_X9_isIn l hI h) (va_cwS 3 hts gs_X9_92 rfl rfl rfl hd_X9_isIn ⟨Nat.le_of_ble_eq_true rfl, Nat.le_of_ble_eq_true rfl⟩) (preS_M hKX hP hS) rfl rfl hl.1 rfl (lv_room (Nat.le_of_ble_eq_true rfl)) dX9_place_20 ⟨Nat.le_of_ble_eq_true rfl, Nat.le_of_ble_eq_true rfl⟩) hS (fun _ _ h => h) (fun _ h => h) (fun r7 S6 t H locs ht _ h hB _ _ hS => ?_)
    have hP : VM dC dI cA P S6 H := by rw [← ht]; exact hB
    refine lv_if_ne (tgt := 28) hx hb dX9_place_23 (by decide) (fun c8 => ?_) (fun c8 => ?_)
    · replace h := h.2 c8
      refine lv_aload_n hx hb dX9_place_28 rfl (lv_at hl 0 rfl) ?_
      refine lv_iload_n hx hb dX9_place_29 rfl (lv_at hl 1 rfl) ?_
      refine va_callv (va_runV (As := [.int _]) (rest := []) ⟨hx, hb, hml, hown, hts⟩ (c_X9_looksAt l hI h) (cwV 1 hts gv_X9_137 rfl rfl rfl hv_X9_looksAt ⟨Nat.le_of_ble_eq_true rfl, Nat.le_of_ble_eq_true rfl⟩) (preV_M hKX hP hS (kM_lt (rfl : kdM 0 = 9)) (eM9 (rfl : kdM 0 = 9)) rfl) rfl rfl hl.1 rfl (lv_room (Nat.le_of_ble_eq_true rfl)) dX9_place_30 ⟨Nat.le_of_ble_eq_true rfl, Nat.le_of_ble_eq_true rfl⟩) hS (fun _ _ h => h) (fun _ h => h) (fun S9 t H locs ht _ h hB _ _ hS => ?_)
      have hP : VM dC dI cA P S9 H := by rw [← ht]; exact hB
      refine lv_iconst (v := 0) hx hb dX9_place_33 (by decide) ?_
      refine lv_istore_n (lv' := [(3, .int 0), (0, .ref (P 0)), (1, .int v1), (2, .int v2)]) hx hb dX9_place_34 rfl hl (by decide) rfl (fun ls hl => ?_)
      obtain ⟨n13, h⟩ := h
      exact b_X9_place_35 C n13 _ _ _ _ _ _ h  hP hS (lv_sub hl [1, 3, 0] rfl)
    · replace h := h.1 c8
      refine lv_iconst (v := (-1)) hx hb dX9_place_26 (by decide) ?_
      exact g_iret hx hb hr hlocks h hP hS dX9_place_27
set_option maxRecDepth 100000 in
set_option maxHeartbeats 4000000 in
theorem c_X9_place (l : Launch) {dC : Nat → ClassId} {dI : Nat → Nat → Nat} {cA : Nat → ClassId} {P : Nat → Nat} (hI : PInj 25 P) {v1 : Int32} {v2 : Int32}  {post : Int32 → St → Prop} {S : St} (h : w_X9_place v1 v2 post S) : Met l yX9_place (wW yX9_place cX9_place 4 (some .int)) ({ frames := 2, cells := 0, slots := 0, locals := 47 } : Room) (va_Pc [.ref (P 0), .int v1, .int v2] (PreM dC dI cA P S)) (va_Qi post (fun u t => VM dC dI cA P u t.heap) (PA 25 P)) 0 0 (PA 25 P) := by
  refine Met.ofW (cc := cX9_place) (maxL := 4) (ret := (some .int)) (by decide) rfl ?_
  intro p e s m args below meth c s₁ B hml hv
  obtain ⟨rfl, hP, hKX⟩ := hv
  have hts : ∀ w ∈ G, w.before [.ref (P 0), .int v1, .int v2].toArray s = true := fun w hw => atoms_spec (ws := wW yX9_place cX9_place 4 (some .int)) B.pre w (List.mem_cons_of_mem _ hw)
  have C : CtxM dC dI cA P p s m [.ref (P 0), .int v1, .int v2].toArray meth c cX9_place 4 (some .int) RX9 := ⟨hI, hKX, ⟨B.exec, B.bytes, hml, findClass_of_methodNamed B.named, hts⟩, B.returns, B.notSynchronized⟩
  have hS : va_S (PA 25 P) s.heap s.heap [] := va_S.rf
  have hl := lv_entry ([.ref (P 0), .int v1, .int v2]) (n := 4) (Nat.le_of_ble_eq_true rfl)
  rw [lg_entry_eq]
  generalize (lg_sl ([.ref (P 0), .int v1, .int v2]) ++ List.replicate (4 - (lg_sl ([.ref (P 0), .int v1, .int v2])).length) Slot.unset).toArray = ls at hl ⊢
  have hl : lv_has ls 4 [(0, .ref (P 0)), (1, .int v1), (2, .int v2)] := hl
  exact e_X9_place C _ _ _ _ _ _ h  hP hS hl
set_option maxRecDepth 100000 in
set_option maxHeartbeats 4000000 in
theorem e_X9_isParted {p : Program} {l : Launch} {e : Env} {s : State} {m : MethodId} {args : Array Value} {below : List Frame} {meth : Method} {c : Code} {dC : Nat → ClassId} {dI : Nat → Nat → Nat} {cA : Nat → ClassId} {P : Nat → Nat} (C : CtxM dC dI cA P p s m args meth c cX9_isParted 2 (some .boolean) RX9) {post : Int32 → St → Prop} : ∀ (v1 : Int32) (S : St) (H : Heap) (locs : List Loc) (ls : Array Slot), w_X9_isParted v1 post S → VM dC dI cA P S H → va_S (PA 25 P) s.heap H locs → lv_has ls 2 [(0, .ref (P 0)), (1, .int v1)] → W p l e ({ frames := 1, cells := 0, slots := 0, locals := 25 } : Room) s m args below meth c H locs 0 0 (MQ below (va_Qi post (fun u t => VM dC dI cA P u t.heap) (PA 25 P)) args s 0 0 (PA 25 P)) (F0 m 0 ls []) := by
  have C := C
  obtain ⟨hI, hKX, ⟨hx, hb, hml, hown, hts⟩, hr, hlocks⟩ := id C
  have hK := hKX
  intro v1 S H locs ls h hP hS hl
  rw [w_X9_isParted] at h
  refine lv_iload_n hx hb dX9_isParted_0 rfl (lv_at hl 1 rfl) ?_
  refine lv_i2l hx hb dX9_isParted_1 rfl ?_
  refine lv_lconst (v := 1) hx hb dX9_isParted_2 (by decide) ?_
  refine lv_aload_n hx hb dX9_isParted_3 rfl (lv_at hl 0 rfl) ?_
  refine g_get (v := .int (S.1 0 5)) hx hb hts inG_X9 hown hK hP (kM_lt (rfl : kdM 0 = 9)) (eM9 (rfl : kdM 0 = 9)) rfl 5 (by decide) G_fl_X9_103 rfl rfl dX9_isParted_4 ?_
  refine lv_i2l hx hb dX9_isParted_7 rfl ?_
  replace h := h _ rfl
  replace h := h _ rfl
  refine va_calli (va_runS (As := [.long _, .long _, .long _]) (rest := []) ⟨hx, hb, hml, hown, hts⟩ (c_X9_isIn l hI h) (va_cwS 3 hts gs_X9_92 rfl rfl rfl hd_X9_isIn ⟨Nat.le_of_ble_eq_true rfl, Nat.le_of_ble_eq_true rfl⟩) (preS_M hKX hP hS) rfl rfl hl.1 rfl (lv_room (Nat.le_of_ble_eq_true rfl)) dX9_isParted_8 ⟨Nat.le_of_ble_eq_true rfl, Nat.le_of_ble_eq_true rfl⟩) hS (fun _ _ h => h) (fun _ h => h) (fun r4 S3 t H locs ht _ h hB _ _ hS => ?_)
  have hP : VM dC dI cA P S3 H := by rw [← ht]; exact hB
  refine lv_if_eq (tgt := 27) hx hb dX9_isParted_11 (by decide) (fun c5 => ?_) (fun c5 => ?_)
  · replace h := h.1 c5
    refine lv_iconst (v := 0) hx hb dX9_isParted_27 (by decide) ?_
    exact g_zret hx hb hr hlocks bz_0 h hP hS dX9_isParted_28
  · replace h := h.2 c5
    refine lv_aload_n hx hb dX9_isParted_14 rfl (lv_at hl 0 rfl) ?_
    refine g_get (v := .int (S3.1 0 5)) hx hb hts inG_X9 hown hK hP (kM_lt (rfl : kdM 0 = 9)) (eM9 (rfl : kdM 0 = 9)) rfl 5 (by decide) G_fl_X9_103 rfl rfl dX9_isParted_15 ?_
    refine lv_iload_n hx hb dX9_isParted_18 rfl (lv_at hl 1 rfl) ?_
    refine lv_irem hx hb dX9_isParted_19 h.1 ?_
    replace h := h.2
    refine lv_if_ne (tgt := 27) hx hb dX9_isParted_20 (by decide) (fun c6 => ?_) (fun c6 => ?_)
    · replace h := h.2 c6
      refine lv_iconst (v := 0) hx hb dX9_isParted_27 (by decide) ?_
      exact g_zret hx hb hr hlocks bz_0 h hP hS dX9_isParted_28
    · replace h := h.1 c6
      refine lv_iconst (v := 1) hx hb dX9_isParted_23 (by decide) ?_
      refine lv_goto (tgt := 28) hx hb dX9_isParted_24 (by decide) ?_
      exact g_zret hx hb hr hlocks bz_1 h hP hS dX9_isParted_28
set_option maxRecDepth 100000 in
set_option maxHeartbeats 4000000 in
theorem c_X9_isParted (l : Launch) {dC : Nat → ClassId} {dI : Nat → Nat → Nat} {cA : Nat → ClassId} {P : Nat → Nat} (hI : PInj 25 P) {v1 : Int32}  {post : Int32 → St → Prop} {S : St} (h : w_X9_isParted v1 post S) : Met l yX9_isParted (wW yX9_isParted cX9_isParted 2 (some .boolean)) ({ frames := 1, cells := 0, slots := 0, locals := 25 } : Room) (va_Pc [.ref (P 0), .int v1] (PreM dC dI cA P S)) (va_Qi post (fun u t => VM dC dI cA P u t.heap) (PA 25 P)) 0 0 (PA 25 P) := by
  refine Met.ofW (cc := cX9_isParted) (maxL := 2) (ret := (some .boolean)) (by decide) rfl ?_
  intro p e s m args below meth c s₁ B hml hv
  obtain ⟨rfl, hP, hKX⟩ := hv
  have hts : ∀ w ∈ G, w.before [.ref (P 0), .int v1].toArray s = true := fun w hw => atoms_spec (ws := wW yX9_isParted cX9_isParted 2 (some .boolean)) B.pre w (List.mem_cons_of_mem _ hw)
  have C : CtxM dC dI cA P p s m [.ref (P 0), .int v1].toArray meth c cX9_isParted 2 (some .boolean) RX9 := ⟨hI, hKX, ⟨B.exec, B.bytes, hml, findClass_of_methodNamed B.named, hts⟩, B.returns, B.notSynchronized⟩
  have hS : va_S (PA 25 P) s.heap s.heap [] := va_S.rf
  have hl := lv_entry ([.ref (P 0), .int v1]) (n := 2) (Nat.le_of_ble_eq_true rfl)
  rw [lg_entry_eq]
  generalize (lg_sl ([.ref (P 0), .int v1]) ++ List.replicate (2 - (lg_sl ([.ref (P 0), .int v1])).length) Slot.unset).toArray = ls at hl ⊢
  have hl : lv_has ls 2 [(0, .ref (P 0)), (1, .int v1)] := hl
  exact e_X9_isParted C _ _ _ _ _ h  hP hS hl
set_option maxRecDepth 100000 in
set_option maxHeartbeats 4000000 in
theorem b_X9_blocks_26 {p : Program} {l : Launch} {e : Env} {s : State} {m : MethodId} {args : Array Value} {below : List Frame} {meth : Method} {c : Code} {dC : Nat → ClassId} {dI : Nat → Nat → Nat} {cA : Nat → ClassId} {P : Nat → Nat} (C : CtxM dC dI cA P p s m args meth c cX9_blocks 8 none RX9) {post : St → Prop} {K13 : Int32 → Int32 → Int32 → Int32 → Int32 → St → Prop} (hK13 : ∀ (v1 : Int32) (v2 : Int32) (v3 : Int32) (v4 : Int32) (v5 : Int32) (S : St) (H : Heap) (locs : List Loc) (ls : Array Slot), K13 v1 v2 v3 v4 v5 S → VM dC dI cA P S H → va_S (PA 25 P) s.heap H locs → lv_has ls 8 [(0, .ref (P 0)), (1, .int v1), (2, .int v2), (3, .int v3), (4, .int v4), (5, .int v5)] → W p l e ({ frames := 0, cells := 0, slots := 0, locals := 0 } : Room) s m args below meth c H locs 0 0 (MQ below (va_Qv post (fun u t => VM dC dI cA P u t.heap) (PA 25 P)) args s 0 0 (PA 25 P)) (F0 m 13 ls [])) : ∀ (n : Nat) (v1 : Int32) (v2 : Int32) (v3 : Int32) (v5 : Int32) (v6 : Int32) (v7 : Int32) (S : St) (H : Heap) (locs : List Loc) (ls : Array Slot), w_X9_blocks_26 post K13 n v1 v2 v3 v5 v6 v7 S → VM dC dI cA P S H → va_S (PA 25 P) s.heap H locs → lv_has ls 8 [(0, .ref (P 0)), (1, .int v1), (2, .int v2), (3, .int v3), (5, .int v5), (6, .int v6), (7, .int v7)] → W p l e ({ frames := 0, cells := 0, slots := 0, locals := 0 } : Room) s m args below meth c H locs 0 0 (MQ below (va_Qv post (fun u t => VM dC dI cA P u t.heap) (PA 25 P)) args s 0 0 (PA 25 P)) (F0 m 26 ls []) := by
  have C := C
  obtain ⟨hI, hKX, ⟨hx, hb, hml, hown, hts⟩, hr, hlocks⟩ := id C
  have hK := hKX
  intro n
  induction n with
  | zero =>
    intro v1 v2 v3 v5 v6 v7 S H locs ls h hP hS hl
    simp only [w_X9_blocks_26] at h
  | succ n ih =>
    intro v1 v2 v3 v5 v6 v7 S H locs ls h hP hS hl
    rw [w_X9_blocks_26] at h
    refine lv_iload hx hb dX9_blocks_26 (lv_at hl 6 rfl) ?_
    refine lv_iload_n hx hb dX9_blocks_28 rfl (lv_at hl 1 rfl) ?_
    refine lv_icmp_ge (tgt := 64) hx hb dX9_blocks_29 (by decide) (fun c4 => ?_) (fun c4 => ?_)
    · replace h := h.1 c4
      refine lv_aload_n hx hb dX9_blocks_64 rfl (lv_at hl 0 rfl) ?_
      refine g_get (v := .ref (P 7)) hx hb hts inG_X9 hown hK hP (kM_lt (rfl : kdM 0 = 9)) (eM9 (rfl : kdM 0 = 9)) rfl 10 (by decide) G_fl_X9_30 rfl rfl dX9_blocks_65 ?_
      refine lv_iload hx hb dX9_blocks_68 (lv_at hl 4 rfl) ?_
      refine lv_iload hx hb dX9_blocks_70 (lv_at hl 5 rfl) ?_
      refine lv_iload_n hx hb dX9_blocks_72 rfl (lv_at hl 2 rfl) ?_
      refine lv_irem hx hb dX9_blocks_73 h.1 ?_
      replace h := h.2
      replace h := h _ rfl
      refine g_ast hx hb hK hI hP hS (kM_lt (rfl : kdM 7 = 10)) 0 (eM10 (rfl : kdM 7 = 10)) rfl h.1 h.2 dX9_blocks_74 (fun S6 H locs h hP hS => ?_)
      refine lv_iload hx hb dX9_blocks_75 (lv_at hl 5 rfl) ?_
      refine lv_iload_n hx hb dX9_blocks_77 rfl (lv_at hl 2 rfl) ?_
      refine lv_idiv hx hb dX9_blocks_78 h.1 ?_
      replace h := h.2
      refine lv_topi (fun x7 ex7 => ?_)
      replace h := h x7 ex7
      refine lv_istore (lv' := [(4, .int x7), (0, .ref (P 0)), (1, .int v1), (2, .int v2), (3, .int v3), (5, .int v5), (6, .int v6), (7, .int v7)]) hx hb dX9_blocks_79 hl (by decide) rfl (fun ls hl => ?_)
      obtain ⟨x8, ex8⟩ : ∃ y : Int32, y = v5 + 1 := ⟨_, rfl⟩
      replace h := h x8 ex8
      refine lv_iinc (v := x8) (lv' := [(5, .int x8), (4, .int x7), (0, .ref (P 0)), (1, .int v1), (2, .int v2), (3, .int v3), (6, .int v6), (7, .int v7)]) hx hb dX9_blocks_81 hl (k := 5) rfl (by rw [ex8]; rfl) (by decide) rfl (fun ls hl => ?_)
      refine lv_goto (tgt := 13) hx hb dX9_blocks_84 (by decide) ?_
      exact hK13 _ _ _ _ _ _ _ _ _ h  hP hS (lv_sub hl [2, 3, 4, 5, 1, 0] rfl)
    · replace h := h.2 c4
      refine lv_iload hx hb dX9_blocks_32 (lv_at hl 5 rfl) ?_
      refine lv_aload_n hx hb dX9_blocks_34 rfl (lv_at hl 0 rfl) ?_
      refine g_get (v := .ref (P 6)) hx hb hts inG_X9 hown hK hP (kM_lt (rfl : kdM 0 = 9)) (eM9 (rfl : kdM 0 = 9)) rfl 9 (by decide) G_fl_X9_27 rfl rfl dX9_blocks_35 ?_
      refine lv_aload_n hx hb dX9_blocks_38 rfl (lv_at hl 0 rfl) ?_
      refine g_get (v := .int (S.1 0 4)) hx hb hts inG_X9 hown hK hP (kM_lt (rfl : kdM 0 = 9)) (eM9 (rfl : kdM 0 = 9)) rfl 4 (by decide) G_fl_X9_100 rfl rfl dX9_blocks_39 ?_
      refine lv_iload_n hx hb dX9_blocks_42 rfl (lv_at hl 3 rfl) ?_
      refine lv_iload hx hb dX9_blocks_43 (lv_at hl 6 rfl) ?_
      refine lv_imul hx hb dX9_blocks_45 ?_
      refine lv_iadd hx hb dX9_blocks_46 ?_
      refine lv_iload_n hx hb dX9_blocks_47 rfl (lv_at hl 3 rfl) ?_
      refine lv_iadd hx hb dX9_blocks_48 ?_
      refine lv_iconst (v := 1) hx hb dX9_blocks_49 (by decide) ?_
      refine lv_isub hx hb dX9_blocks_50 ?_
      refine lv_iload hx hb dX9_blocks_51 (lv_at hl 4 rfl) ?_
      refine lv_isub hx hb dX9_blocks_53 ?_
      replace h := h _ rfl
      refine g_ald hx hb hK hP (kM_lt (rfl : kdM 6 = 10)) 0 (eM10 (rfl : kdM 6 = 10)) rfl h.1 dX9_blocks_54 ?_
      replace h := h.2
      refine lv_iadd hx hb dX9_blocks_55 ?_
      refine lv_topi (fun x10 ex10 => ?_)
      replace h := h x10 ex10
      refine lv_istore (lv' := [(6, .int x10), (0, .ref (P 0)), (1, .int v1), (2, .int v2), (3, .int v3), (5, .int v5), (7, .int v7)]) hx hb dX9_blocks_56 hl (by decide) rfl (fun ls hl => ?_)
      obtain ⟨x11, ex11⟩ : ∃ y : Int32, y = v7 + 1 := ⟨_, rfl⟩
      replace h := h x11 ex11
      refine lv_iinc (v := x11) (lv' := [(7, .int x11), (6, .int x10), (0, .ref (P 0)), (1, .int v1), (2, .int v2), (3, .int v3), (5, .int v5)]) hx hb dX9_blocks_58 hl (k := 6) rfl (by rw [ex11]; rfl) (by decide) rfl (fun ls hl => ?_)
      refine lv_goto (tgt := 26) hx hb dX9_blocks_61 (by decide) ?_
      exact ih _ _ _ _ _ _ _ _ _ _ h  hP hS (lv_sub hl [2, 3, 4, 5, 6, 1, 0] rfl)
set_option maxRecDepth 100000 in
set_option maxHeartbeats 4000000 in
theorem b_X9_blocks_13 {p : Program} {l : Launch} {e : Env} {s : State} {m : MethodId} {args : Array Value} {below : List Frame} {meth : Method} {c : Code} {dC : Nat → ClassId} {dI : Nat → Nat → Nat} {cA : Nat → ClassId} {P : Nat → Nat} (C : CtxM dC dI cA P p s m args meth c cX9_blocks 8 none RX9) {post : St → Prop}  : ∀ (n : Nat) (v1 : Int32) (v2 : Int32) (v3 : Int32) (v4 : Int32) (v5 : Int32) (S : St) (H : Heap) (locs : List Loc) (ls : Array Slot), w_X9_blocks_13 post n v1 v2 v3 v4 v5 S → VM dC dI cA P S H → va_S (PA 25 P) s.heap H locs → lv_has ls 8 [(0, .ref (P 0)), (1, .int v1), (2, .int v2), (3, .int v3), (4, .int v4), (5, .int v5)] → W p l e ({ frames := 0, cells := 0, slots := 0, locals := 0 } : Room) s m args below meth c H locs 0 0 (MQ below (va_Qv post (fun u t => VM dC dI cA P u t.heap) (PA 25 P)) args s 0 0 (PA 25 P)) (F0 m 13 ls []) := by
  have C := C
  obtain ⟨hI, hKX, ⟨hx, hb, hml, hown, hts⟩, hr, hlocks⟩ := id C
  have hK := hKX
  intro n
  induction n with
  | zero =>
    intro v1 v2 v3 v4 v5 S H locs ls h hP hS hl
    simp only [w_X9_blocks_13] at h
  | succ n ih =>
    intro v1 v2 v3 v4 v5 S H locs ls h hP hS hl
    rw [w_X9_blocks_13] at h
    refine lv_iload hx hb dX9_blocks_13 (lv_at hl 5 rfl) ?_
    refine lv_iload_n hx hb dX9_blocks_15 rfl (lv_at hl 3 rfl) ?_
    refine lv_icmp_ge (tgt := 87) hx hb dX9_blocks_16 (by decide) (fun c2 => ?_) (fun c2 => ?_)
    · replace h := h.1 c2
      refine lv_aload_n hx hb dX9_blocks_87 rfl (lv_at hl 0 rfl) ?_
      refine lv_iload hx hb dX9_blocks_88 (lv_at hl 4 rfl) ?_
      refine g_putI hx hb hts inG_X9 tyX9 tyX9_ok nmX9 hown hK hI hP hS (kM_lt (rfl : kdM 0 = 9)) (eM9 (rfl : kdM 0 = 9)) rfl 11 (by decide) G_fl_X9_149 rfl rfl (ty := .int) (by decide +kernel) rfl rfl (Nat.le_of_ble_eq_true rfl) rfl h dX9_blocks_90 (fun S3 H locs h hP hS => ?_)
      exact g_vret hx hb hr hlocks h hP hS dX9_blocks_93
    · replace h := h.2 c2
      refine lv_iload hx hb dX9_blocks_19 (lv_at hl 4 rfl) ?_
      refine lv_istore (lv' := [(6, .int v4), (0, .ref (P 0)), (1, .int v1), (2, .int v2), (3, .int v3), (4, .int v4), (5, .int v5)]) hx hb dX9_blocks_21 hl (by decide) rfl (fun ls hl => ?_)
      refine lv_iconst (v := 0) hx hb dX9_blocks_23 (by decide) ?_
      refine lv_istore (lv' := [(7, .int 0), (6, .int v4), (0, .ref (P 0)), (1, .int v1), (2, .int v2), (3, .int v3), (4, .int v4), (5, .int v5)]) hx hb dX9_blocks_24 hl (by decide) rfl (fun ls hl => ?_)
      obtain ⟨n12, h⟩ := h
      exact b_X9_blocks_26 C ih n12 _ _ _ _ _ _ _ _ _ _ h  hP hS (lv_sub hl [2, 3, 4, 5, 7, 1, 0] rfl)
set_option maxRecDepth 100000 in
set_option maxHeartbeats 4000000 in
theorem e_X9_blocks {p : Program} {l : Launch} {e : Env} {s : State} {m : MethodId} {args : Array Value} {below : List Frame} {meth : Method} {c : Code} {dC : Nat → ClassId} {dI : Nat → Nat → Nat} {cA : Nat → ClassId} {P : Nat → Nat} (C : CtxM dC dI cA P p s m args meth c cX9_blocks 8 none RX9) {post : St → Prop} : ∀ (v1 : Int32) (v2 : Int32) (S : St) (H : Heap) (locs : List Loc) (ls : Array Slot), w_X9_blocks v1 v2 post S → VM dC dI cA P S H → va_S (PA 25 P) s.heap H locs → lv_has ls 8 [(0, .ref (P 0)), (1, .int v1), (2, .int v2)] → W p l e ({ frames := 0, cells := 0, slots := 0, locals := 0 } : Room) s m args below meth c H locs 0 0 (MQ below (va_Qv post (fun u t => VM dC dI cA P u t.heap) (PA 25 P)) args s 0 0 (PA 25 P)) (F0 m 0 ls []) := by
  have C := C
  obtain ⟨hI, hKX, ⟨hx, hb, hml, hown, hts⟩, hr, hlocks⟩ := id C
  have hK := hKX
  intro v1 v2 S H locs ls h hP hS hl
  rw [w_X9_blocks] at h
  refine lv_aload_n hx hb dX9_blocks_0 rfl (lv_at hl 0 rfl) ?_
  refine g_get (v := .int (S.1 0 5)) hx hb hts inG_X9 hown hK hP (kM_lt (rfl : kdM 0 = 9)) (eM9 (rfl : kdM 0 = 9)) rfl 5 (by decide) G_fl_X9_103 rfl rfl dX9_blocks_1 ?_
  refine lv_iload_n hx hb dX9_blocks_4 rfl (lv_at hl 1 rfl) ?_
  refine lv_idiv hx hb dX9_blocks_5 h.1 ?_
  replace h := h.2
  refine lv_topi (fun x1 ex1 => ?_)
  replace h := h x1 ex1
  refine lv_istore_n (lv' := [(3, .int x1), (0, .ref (P 0)), (1, .int v1), (2, .int v2)]) hx hb dX9_blocks_6 rfl hl (by decide) rfl (fun ls hl => ?_)
  refine lv_iconst (v := 0) hx hb dX9_blocks_7 (by decide) ?_
  refine lv_istore (lv' := [(4, .int 0), (3, .int x1), (0, .ref (P 0)), (1, .int v1), (2, .int v2)]) hx hb dX9_blocks_8 hl (by decide) rfl (fun ls hl => ?_)
  refine lv_iconst (v := 0) hx hb dX9_blocks_10 (by decide) ?_
  refine lv_istore (lv' := [(5, .int 0), (4, .int 0), (3, .int x1), (0, .ref (P 0)), (1, .int v1), (2, .int v2)]) hx hb dX9_blocks_11 hl (by decide) rfl (fun ls hl => ?_)
  obtain ⟨n13, h⟩ := h
  exact b_X9_blocks_13 C n13 _ _ _ _ _ _ _ _ _ h  hP hS (lv_sub hl [3, 4, 5, 2, 1, 0] rfl)
set_option maxRecDepth 100000 in
set_option maxHeartbeats 4000000 in
theorem c_X9_blocks (l : Launch) {dC : Nat → ClassId} {dI : Nat → Nat → Nat} {cA : Nat → ClassId} {P : Nat → Nat} (hI : PInj 25 P) {v1 : Int32} {v2 : Int32}  {post : St → Prop} {S : St} (h : w_X9_blocks v1 v2 post S) : Met l yX9_blocks (wW yX9_blocks cX9_blocks 8 none) ({ frames := 0, cells := 0, slots := 0, locals := 0 } : Room) (va_Pc [.ref (P 0), .int v1, .int v2] (PreM dC dI cA P S)) (va_Qv post (fun u t => VM dC dI cA P u t.heap) (PA 25 P)) 0 0 (PA 25 P) := by
  refine Met.ofW (cc := cX9_blocks) (maxL := 8) (ret := none) (by decide) rfl ?_
  intro p e s m args below meth c s₁ B hml hv
  obtain ⟨rfl, hP, hKX⟩ := hv
  have hts : ∀ w ∈ G, w.before [.ref (P 0), .int v1, .int v2].toArray s = true := fun w hw => atoms_spec (ws := wW yX9_blocks cX9_blocks 8 none) B.pre w (List.mem_cons_of_mem _ hw)
  have C : CtxM dC dI cA P p s m [.ref (P 0), .int v1, .int v2].toArray meth c cX9_blocks 8 none RX9 := ⟨hI, hKX, ⟨B.exec, B.bytes, hml, findClass_of_methodNamed B.named, hts⟩, B.returns, B.notSynchronized⟩
  have hS : va_S (PA 25 P) s.heap s.heap [] := va_S.rf
  have hl := lv_entry ([.ref (P 0), .int v1, .int v2]) (n := 8) (Nat.le_of_ble_eq_true rfl)
  rw [lg_entry_eq]
  generalize (lg_sl ([.ref (P 0), .int v1, .int v2]) ++ List.replicate (8 - (lg_sl ([.ref (P 0), .int v1, .int v2])).length) Slot.unset).toArray = ls at hl ⊢
  have hl : lv_has ls 8 [(0, .ref (P 0)), (1, .int v1), (2, .int v2)] := hl
  exact e_X9_blocks C _ _ _ _ _ _ h  hP hS hl
set_option maxRecDepth 100000 in
set_option maxHeartbeats 4000000 in
theorem e_X9_block {p : Program} {l : Launch} {e : Env} {s : State} {m : MethodId} {args : Array Value} {below : List Frame} {meth : Method} {c : Code} {dC : Nat → ClassId} {dI : Nat → Nat → Nat} {cA : Nat → ClassId} {P : Nat → Nat} (C : CtxM dC dI cA P p s m args meth c cX9_block 4 (some .int) RX9) {post : Int32 → St → Prop} : ∀ (v1 : Int32) (v2 : Int32) (v3 : Int32) (S : St) (H : Heap) (locs : List Loc) (ls : Array Slot), w_X9_block v1 v2 v3 post S → VM dC dI cA P S H → va_S (PA 25 P) s.heap H locs → lv_has ls 4 [(0, .ref (P 0)), (1, .int v1), (2, .int v2), (3, .int v3)] → W p l e ({ frames := 2, cells := 0, slots := 0, locals := 47 } : Room) s m args below meth c H locs 0 0 (MQ below (va_Qi post (fun u t => VM dC dI cA P u t.heap) (PA 25 P)) args s 0 0 (PA 25 P)) (F0 m 0 ls []) := by
  have C := C
  obtain ⟨hI, hKX, ⟨hx, hb, hml, hown, hts⟩, hr, hlocks⟩ := id C
  have hK := hKX
  intro v1 v2 v3 S H locs ls h hP hS hl
  rw [w_X9_block] at h
  refine lv_aload_n hx hb dX9_block_0 rfl (lv_at hl 0 rfl) ?_
  refine lv_iload_n hx hb dX9_block_1 rfl (lv_at hl 1 rfl) ?_
  refine va_calli (va_runV (As := [.int _]) (rest := []) ⟨hx, hb, hml, hown, hts⟩ (c_X9_isFraction l hI h) (cwV 1 hts gv_X9_126 rfl rfl rfl hv_X9_isFraction ⟨Nat.le_of_ble_eq_true rfl, Nat.le_of_ble_eq_true rfl⟩) (preV_M hKX hP hS (kM_lt (rfl : kdM 0 = 9)) (eM9 (rfl : kdM 0 = 9)) rfl) rfl rfl hl.1 rfl (lv_room (Nat.le_of_ble_eq_true rfl)) dX9_block_2 ⟨Nat.le_of_ble_eq_true rfl, Nat.le_of_ble_eq_true rfl⟩) hS (fun _ _ h => h) (fun _ h => h) (fun r2 S1 t H locs ht _ h hB _ _ hS => ?_)
  have hP : VM dC dI cA P S1 H := by rw [← ht]; exact hB
  refine lv_if_ne (tgt := 10) hx hb dX9_block_5 (by decide) (fun c3 => ?_) (fun c3 => ?_)
  · replace h := h.2 c3
    refine lv_aload_n hx hb dX9_block_10 rfl (lv_at hl 0 rfl) ?_
    refine lv_iload_n hx hb dX9_block_11 rfl (lv_at hl 1 rfl) ?_
    refine va_callv (va_runV (As := [.int _]) (rest := []) ⟨hx, hb, hml, hown, hts⟩ (c_X9_looksAt l hI h) (cwV 1 hts gv_X9_137 rfl rfl rfl hv_X9_looksAt ⟨Nat.le_of_ble_eq_true rfl, Nat.le_of_ble_eq_true rfl⟩) (preV_M hKX hP hS (kM_lt (rfl : kdM 0 = 9)) (eM9 (rfl : kdM 0 = 9)) rfl) rfl rfl hl.1 rfl (lv_room (Nat.le_of_ble_eq_true rfl)) dX9_block_12 ⟨Nat.le_of_ble_eq_true rfl, Nat.le_of_ble_eq_true rfl⟩) hS (fun _ _ h => h) (fun _ h => h) (fun S4 t H locs ht _ h hB _ _ hS => ?_)
    have hP : VM dC dI cA P S4 H := by rw [← ht]; exact hB
    refine lv_aload_n hx hb dX9_block_15 rfl (lv_at hl 0 rfl) ?_
    refine lv_iload_n hx hb dX9_block_16 rfl (lv_at hl 2 rfl) ?_
    refine va_calli (va_runV (As := [.int _]) (rest := []) ⟨hx, hb, hml, hown, hts⟩ (c_X9_isParted l hI h) (cwV 1 hts gv_X9_152 rfl rfl rfl hv_X9_isParted ⟨Nat.le_of_ble_eq_true rfl, Nat.le_of_ble_eq_true rfl⟩) (preV_M hKX hP hS (kM_lt (rfl : kdM 0 = 9)) (eM9 (rfl : kdM 0 = 9)) rfl) rfl rfl hl.1 rfl (lv_room (Nat.le_of_ble_eq_true rfl)) dX9_block_17 ⟨Nat.le_of_ble_eq_true rfl, Nat.le_of_ble_eq_true rfl⟩) hS (fun _ _ h => h) (fun _ h => h) (fun r6 S5 t H locs ht _ h hB _ _ hS => ?_)
    have hP : VM dC dI cA P S5 H := by rw [← ht]; exact hB
    refine lv_if_eq (tgt := 43) hx hb dX9_block_20 (by decide) (fun c7 => ?_) (fun c7 => ?_)
    · replace h := h.1 c7
      refine lv_iconst (v := (-1)) hx hb dX9_block_43 (by decide) ?_
      exact g_iret hx hb hr hlocks h hP hS dX9_block_44
    · replace h := h.2 c7
      refine lv_iload_n hx hb dX9_block_23 rfl (lv_at hl 3 rfl) ?_
      refine lv_i2l hx hb dX9_block_24 rfl ?_
      refine lv_ldc2 (v := (-1)) hx hb hown (hts _ G_co_X9_155) dX9_block_25 ?_
      refine lv_aload_n hx hb dX9_block_28 rfl (lv_at hl 0 rfl) ?_
      refine g_get (v := .int (S5.1 0 5)) hx hb hts inG_X9 hown hK hP (kM_lt (rfl : kdM 0 = 9)) (eM9 (rfl : kdM 0 = 9)) rfl 5 (by decide) G_fl_X9_103 rfl rfl dX9_block_29 ?_
      refine lv_iload_n hx hb dX9_block_32 rfl (lv_at hl 2 rfl) ?_
      refine lv_idiv hx hb dX9_block_33 h.1 ?_
      replace h := h.2
      refine lv_iconst (v := 1) hx hb dX9_block_34 (by decide) ?_
      refine lv_isub hx hb dX9_block_35 ?_
      refine lv_i2l hx hb dX9_block_36 rfl ?_
      replace h := h _ rfl
      replace h := h _ rfl
      refine va_calli (va_runS (As := [.long _, .long _, .long _]) (rest := []) ⟨hx, hb, hml, hown, hts⟩ (c_X9_isIn l hI h) (va_cwS 3 hts gs_X9_92 rfl rfl rfl hd_X9_isIn ⟨Nat.le_of_ble_eq_true rfl, Nat.le_of_ble_eq_true rfl⟩) (preS_M hKX hP hS) rfl rfl hl.1 rfl (lv_room (Nat.le_of_ble_eq_true rfl)) dX9_block_37 ⟨Nat.le_of_ble_eq_true rfl, Nat.le_of_ble_eq_true rfl⟩) hS (fun _ _ h => h) (fun _ h => h) (fun r11 S10 t H locs ht _ h hB _ _ hS => ?_)
      have hP : VM dC dI cA P S10 H := by rw [← ht]; exact hB
      refine lv_if_ne (tgt := 45) hx hb dX9_block_40 (by decide) (fun c12 => ?_) (fun c12 => ?_)
      · replace h := h.2 c12
        refine lv_aload_n hx hb dX9_block_45 rfl (lv_at hl 0 rfl) ?_
        refine lv_iload_n hx hb dX9_block_46 rfl (lv_at hl 2 rfl) ?_
        refine lv_aload_n hx hb dX9_block_47 rfl (lv_at hl 0 rfl) ?_
        refine g_get (v := .ref (P 3)) hx hb hts inG_X9 hown hK hP (kM_lt (rfl : kdM 0 = 9)) (eM9 (rfl : kdM 0 = 9)) rfl 3 (by decide) G_fl_X9_18 rfl rfl dX9_block_48 ?_
        refine lv_iload_n hx hb dX9_block_51 rfl (lv_at hl 1 rfl) ?_
        refine g_ald hx hb hK hP (kM_lt (rfl : kdM 3 = 10)) 0 (eM10 (rfl : kdM 3 = 10)) rfl h.1 dX9_block_52 ?_
        replace h := h.2
        replace h := h _ rfl
        refine va_callv (va_runV (As := [.int _, .int _]) (rest := []) ⟨hx, hb, hml, hown, hts⟩ (c_X9_blocks l hI h) (cwV 2 hts gv_X9_157 rfl rfl rfl hv_X9_blocks ⟨Nat.le_of_ble_eq_true rfl, Nat.le_of_ble_eq_true rfl⟩) (preV_M hKX hP hS (kM_lt (rfl : kdM 0 = 9)) (eM9 (rfl : kdM 0 = 9)) rfl) rfl rfl hl.1 rfl (lv_room (Nat.le_of_ble_eq_true rfl)) dX9_block_53 ⟨Nat.le_of_ble_eq_true rfl, Nat.le_of_ble_eq_true rfl⟩) hS (fun _ _ h => h) (fun _ h => h) (fun S14 t H locs ht _ h hB _ _ hS => ?_)
        have hP : VM dC dI cA P S14 H := by rw [← ht]; exact hB
        refine lv_iload_n hx hb dX9_block_56 rfl (lv_at hl 3 rfl) ?_
        refine lv_iconst (v := (-1)) hx hb dX9_block_57 (by decide) ?_
        refine lv_icmp_ne (tgt := 68) hx hb dX9_block_58 (by decide) (fun c15 => ?_) (fun c15 => ?_)
        · replace h := h.2 c15
          refine lv_aload_n hx hb dX9_block_68 rfl (lv_at hl 0 rfl) ?_
          refine g_get (v := .ref (P 7)) hx hb hts inG_X9 hown hK hP (kM_lt (rfl : kdM 0 = 9)) (eM9 (rfl : kdM 0 = 9)) rfl 10 (by decide) G_fl_X9_30 rfl rfl dX9_block_69 ?_
          refine lv_iload_n hx hb dX9_block_72 rfl (lv_at hl 3 rfl) ?_
          refine g_ald hx hb hK hP (kM_lt (rfl : kdM 7 = 10)) 0 (eM10 (rfl : kdM 7 = 10)) rfl h.1 dX9_block_73 ?_
          replace h := h.2
          exact g_iret hx hb hr hlocks h hP hS dX9_block_74
        · replace h := h.1 c15
          refine lv_aload_n hx hb dX9_block_61 rfl (lv_at hl 0 rfl) ?_
          refine g_get (v := .int (S14.1 0 11)) hx hb hts inG_X9 hown hK hP (kM_lt (rfl : kdM 0 = 9)) (eM9 (rfl : kdM 0 = 9)) rfl 11 (by decide) G_fl_X9_149 rfl rfl dX9_block_62 ?_
          refine lv_goto (tgt := 74) hx hb dX9_block_65 (by decide) ?_
          exact g_iret hx hb hr hlocks h hP hS dX9_block_74
      · replace h := h.1 c12
        refine lv_iconst (v := (-1)) hx hb dX9_block_43 (by decide) ?_
        exact g_iret hx hb hr hlocks h hP hS dX9_block_44
  · replace h := h.1 c3
    refine lv_iconst (v := (-1)) hx hb dX9_block_8 (by decide) ?_
    exact g_iret hx hb hr hlocks h hP hS dX9_block_9
set_option maxRecDepth 100000 in
set_option maxHeartbeats 4000000 in
theorem c_X9_block (l : Launch) {dC : Nat → ClassId} {dI : Nat → Nat → Nat} {cA : Nat → ClassId} {P : Nat → Nat} (hI : PInj 25 P) {v1 : Int32} {v2 : Int32} {v3 : Int32}  {post : Int32 → St → Prop} {S : St} (h : w_X9_block v1 v2 v3 post S) : Met l yX9_block (wW yX9_block cX9_block 4 (some .int)) ({ frames := 2, cells := 0, slots := 0, locals := 47 } : Room) (va_Pc [.ref (P 0), .int v1, .int v2, .int v3] (PreM dC dI cA P S)) (va_Qi post (fun u t => VM dC dI cA P u t.heap) (PA 25 P)) 0 0 (PA 25 P) := by
  refine Met.ofW (cc := cX9_block) (maxL := 4) (ret := (some .int)) (by decide) rfl ?_
  intro p e s m args below meth c s₁ B hml hv
  obtain ⟨rfl, hP, hKX⟩ := hv
  have hts : ∀ w ∈ G, w.before [.ref (P 0), .int v1, .int v2, .int v3].toArray s = true := fun w hw => atoms_spec (ws := wW yX9_block cX9_block 4 (some .int)) B.pre w (List.mem_cons_of_mem _ hw)
  have C : CtxM dC dI cA P p s m [.ref (P 0), .int v1, .int v2, .int v3].toArray meth c cX9_block 4 (some .int) RX9 := ⟨hI, hKX, ⟨B.exec, B.bytes, hml, findClass_of_methodNamed B.named, hts⟩, B.returns, B.notSynchronized⟩
  have hS : va_S (PA 25 P) s.heap s.heap [] := va_S.rf
  have hl := lv_entry ([.ref (P 0), .int v1, .int v2, .int v3]) (n := 4) (Nat.le_of_ble_eq_true rfl)
  rw [lg_entry_eq]
  generalize (lg_sl ([.ref (P 0), .int v1, .int v2, .int v3]) ++ List.replicate (4 - (lg_sl ([.ref (P 0), .int v1, .int v2, .int v3])).length) Slot.unset).toArray = ls at hl ⊢
  have hl : lv_has ls 4 [(0, .ref (P 0)), (1, .int v1), (2, .int v2), (3, .int v3)] := hl
  exact e_X9_block C _ _ _ _ _ _ _ h  hP hS hl
set_option maxRecDepth 100000 in
set_option maxHeartbeats 4000000 in
theorem b_X9_smallNines_8 {p : Program} {l : Launch} {e : Env} {s : State} {m : MethodId} {args : Array Value} {below : List Frame} {meth : Method} {c : Code} {dC : Nat → ClassId} {dI : Nat → Nat → Nat} {cA : Nat → ClassId} {P : Nat → Nat} (C : CtxM dC dI cA P p s m args meth c cX9_smallNines 8 (some .int) RX9) {post : Int32 → St → Prop}  : ∀ (n : Nat) (v2 : Int32) (v3 : Int64) (v5 : Int64) (v7 : Int32) (S : St) (H : Heap) (locs : List Loc) (ls : Array Slot), w_X9_smallNines_8 post n v2 v3 v5 v7 S → VM dC dI cA P S H → va_S (PA 25 P) s.heap H locs → lv_has ls 8 [(0, .ref (P 0)), (2, .int v2), (3, .long v3), (5, .long v5), (7, .int v7)] → W p l e ({ frames := 0, cells := 0, slots := 0, locals := 0 } : Room) s m args below meth c H locs 0 0 (MQ below (va_Qi post (fun u t => VM dC dI cA P u t.heap) (PA 25 P)) args s 0 0 (PA 25 P)) (F0 m 8 ls []) := by
  have C := C
  obtain ⟨hI, hKX, ⟨hx, hb, hml, hown, hts⟩, hr, hlocks⟩ := id C
  have hK := hKX
  intro n
  induction n with
  | zero =>
    intro v2 v3 v5 v7 S H locs ls h hP hS hl
    simp only [w_X9_smallNines_8] at h
  | succ n ih =>
    intro v2 v3 v5 v7 S H locs ls h hP hS hl
    rw [w_X9_smallNines_8] at h
    refine lv_iload hx hb dX9_smallNines_8 (lv_at hl 4 rfl) ?_
    refine lv_if_lt (tgt := 35) hx hb dX9_smallNines_10 (by decide) (fun c2 => ?_) (fun c2 => ?_)
    · replace h := h.1 c2
      refine lv_lload hx hb dX9_smallNines_35 (lv_at hl 3 rfl) ?_
      refine lv_aload_n hx hb dX9_smallNines_37 rfl (lv_at hl 0 rfl) ?_
      refine g_get (v := .int (S.1 0 11)) hx hb hts inG_X9 hown hK hP (kM_lt (rfl : kdM 0 = 9)) (eM9 (rfl : kdM 0 = 9)) rfl 11 (by decide) G_fl_X9_149 rfl rfl dX9_smallNines_38 ?_
      refine lv_i2l hx hb dX9_smallNines_41 rfl ?_
      refine lv_lload_n hx hb dX9_smallNines_42 rfl (lv_at hl 2 rfl) ?_
      refine lv_lconst (v := 1) hx hb dX9_smallNines_43 (by decide) ?_
      refine lv_ladd hx hb dX9_smallNines_44 ?_
      refine lv_lmul hx hb dX9_smallNines_45 ?_
      refine lv_ladd hx hb dX9_smallNines_46 ?_
      refine lv_topl (fun x3 ex3 => ?_)
      replace h := h x3 ex3
      refine lv_lstore (lv' := [(5, .long x3), (0, .ref (P 0)), (2, .int v2), (3, .long v3), (7, .int v7)]) hx hb dX9_smallNines_47 hl (by decide) rfl (fun ls hl => ?_)
      refine lv_lload hx hb dX9_smallNines_49 (lv_at hl 0 rfl) ?_
      refine lv_lload_n hx hb dX9_smallNines_51 rfl (lv_at hl 3 rfl) ?_
      refine lv_lrem hx hb dX9_smallNines_52 h.1 ?_
      replace h := h.2
      refine lv_lconst (v := 0) hx hb dX9_smallNines_53 (by decide) ?_
      refine W.lcmp hx hb dX9_smallNines_54 ?_
      refine lv_if_ne (tgt := 66) hx hb dX9_smallNines_55 (by decide) (fun c4 => ?_) (fun c4 => ?_)
      · replace h := h.2 (fun z => c4 ((lg_cmp_eq _ _).mpr z))
        refine lv_bipush (v := (-2)) hx hb dX9_smallNines_66 (by decide) ?_
        exact g_iret hx hb hr hlocks h hP hS dX9_smallNines_68
      · replace h := h.1 ((lg_cmp_eq _ _).mp c4)
        refine lv_lload hx hb dX9_smallNines_58 (lv_at hl 0 rfl) ?_
        refine lv_lload_n hx hb dX9_smallNines_60 rfl (lv_at hl 3 rfl) ?_
        refine lv_ldiv hx hb dX9_smallNines_61 h.1 ?_
        replace h := h.2
        refine lv_l2i hx hb dX9_smallNines_62 rfl ?_
        refine lv_goto (tgt := 68) hx hb dX9_smallNines_63 (by decide) ?_
        exact g_iret hx hb hr hlocks h hP hS dX9_smallNines_68
    · replace h := h.2 c2
      refine lv_lload hx hb dX9_smallNines_13 (lv_at hl 3 rfl) ?_
      refine lv_iload_n hx hb dX9_smallNines_15 rfl (lv_at hl 1 rfl) ?_
      refine lv_i2l hx hb dX9_smallNines_16 rfl ?_
      refine lv_lmul hx hb dX9_smallNines_17 ?_
      refine lv_aload_n hx hb dX9_smallNines_18 rfl (lv_at hl 0 rfl) ?_
      refine g_get (v := .ref (P 7)) hx hb hts inG_X9 hown hK hP (kM_lt (rfl : kdM 0 = 9)) (eM9 (rfl : kdM 0 = 9)) rfl 10 (by decide) G_fl_X9_30 rfl rfl dX9_smallNines_19 ?_
      refine lv_iload hx hb dX9_smallNines_22 (lv_at hl 4 rfl) ?_
      refine g_ald hx hb hK hP (kM_lt (rfl : kdM 7 = 10)) 0 (eM10 (rfl : kdM 7 = 10)) rfl h.1 dX9_smallNines_24 ?_
      replace h := h.2
      refine lv_i2l hx hb dX9_smallNines_25 rfl ?_
      refine lv_ladd hx hb dX9_smallNines_26 ?_
      refine lv_topl (fun x5 ex5 => ?_)
      replace h := h x5 ex5
      refine lv_lstore (lv' := [(5, .long x5), (0, .ref (P 0)), (2, .int v2), (3, .long v3), (7, .int v7)]) hx hb dX9_smallNines_27 hl (by decide) rfl (fun ls hl => ?_)
      obtain ⟨x6, ex6⟩ : ∃ y : Int32, y = v7 + (-1) := ⟨_, rfl⟩
      replace h := h x6 ex6
      refine lv_iinc (v := x6) (lv' := [(7, .int x6), (5, .long x5), (0, .ref (P 0)), (2, .int v2), (3, .long v3)]) hx hb dX9_smallNines_29 hl (k := 4) rfl (by rw [ex6]; rfl) (by decide) rfl (fun ls hl => ?_)
      refine lv_goto (tgt := 8) hx hb dX9_smallNines_32 (by decide) ?_
      exact ih _ _ _ _ _ _ _ _ h  hP hS (lv_sub hl [2, 3, 4, 1, 0] rfl)
set_option maxRecDepth 100000 in
set_option maxHeartbeats 4000000 in
theorem e_X9_smallNines {p : Program} {l : Launch} {e : Env} {s : State} {m : MethodId} {args : Array Value} {below : List Frame} {meth : Method} {c : Code} {dC : Nat → ClassId} {dI : Nat → Nat → Nat} {cA : Nat → ClassId} {P : Nat → Nat} (C : CtxM dC dI cA P p s m args meth c cX9_smallNines 8 (some .int) RX9) {post : Int32 → St → Prop} : ∀ (v1 : Int32) (v2 : Int32) (v3 : Int64) (S : St) (H : Heap) (locs : List Loc) (ls : Array Slot), w_X9_smallNines v1 v2 v3 post S → VM dC dI cA P S H → va_S (PA 25 P) s.heap H locs → lv_has ls 8 [(0, .ref (P 0)), (1, .int v1), (2, .int v2), (3, .long v3)] → W p l e ({ frames := 0, cells := 0, slots := 0, locals := 0 } : Room) s m args below meth c H locs 0 0 (MQ below (va_Qi post (fun u t => VM dC dI cA P u t.heap) (PA 25 P)) args s 0 0 (PA 25 P)) (F0 m 0 ls []) := by
  have C := C
  obtain ⟨hI, hKX, ⟨hx, hb, hml, hown, hts⟩, hr, hlocks⟩ := id C
  have hK := hKX
  intro v1 v2 v3 S H locs ls h hP hS hl
  rw [w_X9_smallNines] at h
  refine lv_lconst (v := 0) hx hb dX9_smallNines_0 (by decide) ?_
  refine lv_lstore (lv' := [(5, .long 0), (0, .ref (P 0)), (1, .int v1), (2, .int v2), (3, .long v3)]) hx hb dX9_smallNines_1 hl (by decide) rfl (fun ls hl => ?_)
  refine lv_iload_n hx hb dX9_smallNines_3 rfl (lv_at hl 2 rfl) ?_
  refine lv_iconst (v := 1) hx hb dX9_smallNines_4 (by decide) ?_
  refine lv_isub hx hb dX9_smallNines_5 ?_
  refine lv_topi (fun x1 ex1 => ?_)
  replace h := h x1 ex1
  refine lv_istore (lv' := [(7, .int x1), (5, .long 0), (0, .ref (P 0)), (1, .int v1), (2, .int v2), (3, .long v3)]) hx hb dX9_smallNines_6 hl (by decide) rfl (fun ls hl => ?_)
  obtain ⟨n7, h⟩ := h
  exact b_X9_smallNines_8 C n7 _ _ _ _ _ _ _ _ h  hP hS (lv_sub hl [2, 4, 5, 1, 0] rfl)
set_option maxRecDepth 100000 in
set_option maxHeartbeats 4000000 in
theorem c_X9_smallNines (l : Launch) {dC : Nat → ClassId} {dI : Nat → Nat → Nat} {cA : Nat → ClassId} {P : Nat → Nat} (hI : PInj 25 P) {v1 : Int32} {v2 : Int32} {v3 : Int64}  {post : Int32 → St → Prop} {S : St} (h : w_X9_smallNines v1 v2 v3 post S) : Met l yX9_smallNines (wW yX9_smallNines cX9_smallNines 8 (some .int)) ({ frames := 0, cells := 0, slots := 0, locals := 0 } : Room) (va_Pc [.ref (P 0), .int v1, .int v2, .long v3] (PreM dC dI cA P S)) (va_Qi post (fun u t => VM dC dI cA P u t.heap) (PA 25 P)) 0 0 (PA 25 P) := by
  refine Met.ofW (cc := cX9_smallNines) (maxL := 8) (ret := (some .int)) (by decide) rfl ?_
  intro p e s m args below meth c s₁ B hml hv
  obtain ⟨rfl, hP, hKX⟩ := hv
  have hts : ∀ w ∈ G, w.before [.ref (P 0), .int v1, .int v2, .long v3].toArray s = true := fun w hw => atoms_spec (ws := wW yX9_smallNines cX9_smallNines 8 (some .int)) B.pre w (List.mem_cons_of_mem _ hw)
  have C : CtxM dC dI cA P p s m [.ref (P 0), .int v1, .int v2, .long v3].toArray meth c cX9_smallNines 8 (some .int) RX9 := ⟨hI, hKX, ⟨B.exec, B.bytes, hml, findClass_of_methodNamed B.named, hts⟩, B.returns, B.notSynchronized⟩
  have hS : va_S (PA 25 P) s.heap s.heap [] := va_S.rf
  have hl := lv_entry ([.ref (P 0), .int v1, .int v2, .long v3]) (n := 8) (Nat.le_of_ble_eq_true rfl)
  rw [lg_entry_eq]
  generalize (lg_sl ([.ref (P 0), .int v1, .int v2, .long v3]) ++ List.replicate (8 - (lg_sl ([.ref (P 0), .int v1, .int v2, .long v3])).length) Slot.unset).toArray = ls at hl ⊢
  have hl : lv_has ls 8 [(0, .ref (P 0)), (1, .int v1), (2, .int v2), (3, .long v3)] := hl
  exact e_X9_smallNines C _ _ _ _ _ _ _ h  hP hS hl
set_option maxRecDepth 100000 in
set_option maxHeartbeats 4000000 in
theorem b_X9_greatNines_51 {p : Program} {l : Launch} {e : Env} {s : State} {m : MethodId} {args : Array Value} {below : List Frame} {meth : Method} {c : Code} {dC : Nat → ClassId} {dI : Nat → Nat → Nat} {cA : Nat → ClassId} {P : Nat → Nat} (C : CtxM dC dI cA P p s m args meth c cX9_greatNines 8 (some .int) RX9) {post : Int32 → St → Prop} {K25 : Int32 → Int32 → Int32 → Int32 → Int32 → Int32 → St → Prop} (hK25 : ∀ (v1 : Int32) (v2 : Int32) (v3 : Int32) (v4 : Int32) (v5 : Int32) (v6 : Int32) (S : St) (H : Heap) (locs : List Loc) (ls : Array Slot), K25 v1 v2 v3 v4 v5 v6 S → VM dC dI cA P S H → va_S (PA 25 P) s.heap H locs → lv_has ls 8 [(0, .ref (P 0)), (1, .int v1), (2, .int v2), (3, .int v3), (4, .int v4), (5, .int v5), (6, .int v6)] → W p l e ({ frames := 0, cells := 0, slots := 0, locals := 0 } : Room) s m args below meth c H locs 0 0 (MQ below (va_Qi post (fun u t => VM dC dI cA P u t.heap) (PA 25 P)) args s 0 0 (PA 25 P)) (F0 m 25 ls [])) : ∀ (v1 : Int32) (v2 : Int32) (v3 : Int32) (v5 : Int32) (v6 : Int32) (y0 : Int32) (S : St) (H : Heap) (locs : List Loc) (ls : Array Slot), w_X9_greatNines_51 post K25 v1 v2 v3 v5 v6 y0 S → VM dC dI cA P S H → va_S (PA 25 P) s.heap H locs → lv_has ls 8 [(0, .ref (P 0)), (1, .int v1), (2, .int v2), (3, .int v3), (5, .int v5), (6, .int v6)] → W p l e ({ frames := 0, cells := 0, slots := 0, locals := 0 } : Room) s m args below meth c H locs 0 0 (MQ below (va_Qi post (fun u t => VM dC dI cA P u t.heap) (PA 25 P)) args s 0 0 (PA 25 P)) (F0 m 51 ls [.int y0]) := by
  have C := C
  obtain ⟨hI, hKX, ⟨hx, hb, hml, hown, hts⟩, hr, hlocks⟩ := id C
  have hK := hKX
  intro v1 v2 v3 v5 v6 y0 S H locs ls h hP hS hl
  rw [w_X9_greatNines_51] at h
  refine lv_istore (lv' := [(4, .int y0), (0, .ref (P 0)), (1, .int v1), (2, .int v2), (3, .int v3), (5, .int v5), (6, .int v6)]) hx hb dX9_greatNines_51 hl (by decide) rfl (fun ls hl => ?_)
  refine lv_aload_n hx hb dX9_greatNines_53 rfl (lv_at hl 1 rfl) ?_
  refine g_get (v := .ref (P 7)) hx hb hts inG_X9 hown hK hP (kM_lt (rfl : kdM 0 = 9)) (eM9 (rfl : kdM 0 = 9)) rfl 10 (by decide) G_fl_X9_30 rfl rfl dX9_greatNines_54 ?_
  refine lv_iload hx hb dX9_greatNines_57 (lv_at hl 6 rfl) ?_
  refine g_ald hx hb hK hP (kM_lt (rfl : kdM 7 = 10)) 0 (eM10 (rfl : kdM 7 = 10)) rfl h.1 dX9_greatNines_59 ?_
  replace h := h.2
  refine lv_iload_n hx hb dX9_greatNines_60 rfl (lv_at hl 4 rfl) ?_
  refine lv_iadd hx hb dX9_greatNines_61 ?_
  refine lv_topi (fun x8 ex8 => ?_)
  replace h := h x8 ex8
  refine lv_istore (lv' := [(7, .int x8), (4, .int y0), (0, .ref (P 0)), (1, .int v1), (2, .int v2), (3, .int v3), (5, .int v5), (6, .int v6)]) hx hb dX9_greatNines_62 hl (by decide) rfl (fun ls hl => ?_)
  refine lv_iload hx hb dX9_greatNines_64 (lv_at hl 0 rfl) ?_
  refine lv_iload_n hx hb dX9_greatNines_66 rfl (lv_at hl 4 rfl) ?_
  refine lv_idiv hx hb dX9_greatNines_67 h.1 ?_
  replace h := h.2
  refine lv_topi (fun x9 ex9 => ?_)
  replace h := h x9 ex9
  refine lv_istore_n (lv' := [(3, .int x9), (7, .int x8), (4, .int y0), (0, .ref (P 0)), (1, .int v1), (2, .int v2), (5, .int v5), (6, .int v6)]) hx hb dX9_greatNines_68 rfl hl (by decide) rfl (fun ls hl => ?_)
  refine lv_iload hx hb dX9_greatNines_69 (lv_at hl 6 rfl) ?_
  refine lv_if_eq (tgt := 88) hx hb dX9_greatNines_71 (by decide) (fun c10 => ?_) (fun c10 => ?_)
  · replace h := h.1 c10
    refine lv_iconst (v := 0) hx hb dX9_greatNines_88 (by decide) ?_
    refine lv_istore (lv' := [(5, .int 0), (3, .int x9), (7, .int x8), (4, .int y0), (0, .ref (P 0)), (1, .int v1), (2, .int v2), (6, .int v6)]) hx hb dX9_greatNines_89 hl (by decide) rfl (fun ls hl => ?_)
    obtain ⟨x11, ex11⟩ : ∃ y : Int32, y = v6 + 1 := ⟨_, rfl⟩
    replace h := h x11 ex11
    refine lv_iinc (v := x11) (lv' := [(6, .int x11), (5, .int 0), (3, .int x9), (7, .int x8), (4, .int y0), (0, .ref (P 0)), (1, .int v1), (2, .int v2)]) hx hb dX9_greatNines_91 hl (k := 7) rfl (by rw [ex11]; rfl) (by decide) rfl (fun ls hl => ?_)
    refine lv_goto (tgt := 25) hx hb dX9_greatNines_94 (by decide) ?_
    exact hK25 _ _ _ _ _ _ _ _ _ _ h  hP hS (lv_sub hl [5, 6, 7, 2, 4, 1, 0] rfl)
  · replace h := h.2 c10
    refine lv_iload hx hb dX9_greatNines_74 (lv_at hl 1 rfl) ?_
    refine lv_iload_n hx hb dX9_greatNines_76 rfl (lv_at hl 5 rfl) ?_
    refine lv_irem hx hb dX9_greatNines_77 h.1 ?_
    replace h := h.2
    refine lv_iload_n hx hb dX9_greatNines_78 rfl (lv_at hl 5 rfl) ?_
    refine lv_iconst (v := 1) hx hb dX9_greatNines_79 (by decide) ?_
    refine lv_isub hx hb dX9_greatNines_80 ?_
    refine lv_icmp_ne (tgt := 88) hx hb dX9_greatNines_81 (by decide) (fun c12 => ?_) (fun c12 => ?_)
    · replace h := h.2 c12
      refine lv_iconst (v := 0) hx hb dX9_greatNines_88 (by decide) ?_
      refine lv_istore (lv' := [(5, .int 0), (3, .int x9), (7, .int x8), (4, .int y0), (0, .ref (P 0)), (1, .int v1), (2, .int v2), (6, .int v6)]) hx hb dX9_greatNines_89 hl (by decide) rfl (fun ls hl => ?_)
      obtain ⟨x13, ex13⟩ : ∃ y : Int32, y = v6 + 1 := ⟨_, rfl⟩
      replace h := h x13 ex13
      refine lv_iinc (v := x13) (lv' := [(6, .int x13), (5, .int 0), (3, .int x9), (7, .int x8), (4, .int y0), (0, .ref (P 0)), (1, .int v1), (2, .int v2)]) hx hb dX9_greatNines_91 hl (k := 7) rfl (by rw [ex13]; rfl) (by decide) rfl (fun ls hl => ?_)
      refine lv_goto (tgt := 25) hx hb dX9_greatNines_94 (by decide) ?_
      exact hK25 _ _ _ _ _ _ _ _ _ _ h  hP hS (lv_sub hl [5, 6, 7, 2, 4, 1, 0] rfl)
    · replace h := h.1 c12
      refine lv_iconst (v := 1) hx hb dX9_greatNines_84 (by decide) ?_
      refine lv_goto (tgt := 89) hx hb dX9_greatNines_85 (by decide) ?_
      refine lv_istore (lv' := [(5, .int 1), (3, .int x9), (7, .int x8), (4, .int y0), (0, .ref (P 0)), (1, .int v1), (2, .int v2), (6, .int v6)]) hx hb dX9_greatNines_89 hl (by decide) rfl (fun ls hl => ?_)
      obtain ⟨x14, ex14⟩ : ∃ y : Int32, y = v6 + 1 := ⟨_, rfl⟩
      replace h := h x14 ex14
      refine lv_iinc (v := x14) (lv' := [(6, .int x14), (5, .int 1), (3, .int x9), (7, .int x8), (4, .int y0), (0, .ref (P 0)), (1, .int v1), (2, .int v2)]) hx hb dX9_greatNines_91 hl (k := 7) rfl (by rw [ex14]; rfl) (by decide) rfl (fun ls hl => ?_)
      refine lv_goto (tgt := 25) hx hb dX9_greatNines_94 (by decide) ?_
      exact hK25 _ _ _ _ _ _ _ _ _ _ h  hP hS (lv_sub hl [5, 6, 7, 2, 4, 1, 0] rfl)
set_option maxRecDepth 100000 in
set_option maxHeartbeats 4000000 in
theorem b_X9_greatNines_50 {p : Program} {l : Launch} {e : Env} {s : State} {m : MethodId} {args : Array Value} {below : List Frame} {meth : Method} {c : Code} {dC : Nat → ClassId} {dI : Nat → Nat → Nat} {cA : Nat → ClassId} {P : Nat → Nat} (C : CtxM dC dI cA P p s m args meth c cX9_greatNines 8 (some .int) RX9) {post : Int32 → St → Prop} {K25 : Int32 → Int32 → Int32 → Int32 → Int32 → Int32 → St → Prop} (hK25 : ∀ (v1 : Int32) (v2 : Int32) (v3 : Int32) (v4 : Int32) (v5 : Int32) (v6 : Int32) (S : St) (H : Heap) (locs : List Loc) (ls : Array Slot), K25 v1 v2 v3 v4 v5 v6 S → VM dC dI cA P S H → va_S (PA 25 P) s.heap H locs → lv_has ls 8 [(0, .ref (P 0)), (1, .int v1), (2, .int v2), (3, .int v3), (4, .int v4), (5, .int v5), (6, .int v6)] → W p l e ({ frames := 0, cells := 0, slots := 0, locals := 0 } : Room) s m args below meth c H locs 0 0 (MQ below (va_Qi post (fun u t => VM dC dI cA P u t.heap) (PA 25 P)) args s 0 0 (PA 25 P)) (F0 m 25 ls [])) : ∀ (v1 : Int32) (v2 : Int32) (v3 : Int32) (v5 : Int32) (v6 : Int32) (S : St) (H : Heap) (locs : List Loc) (ls : Array Slot), w_X9_greatNines_50 post K25 v1 v2 v3 v5 v6 S → VM dC dI cA P S H → va_S (PA 25 P) s.heap H locs → lv_has ls 8 [(0, .ref (P 0)), (1, .int v1), (2, .int v2), (3, .int v3), (5, .int v5), (6, .int v6)] → W p l e ({ frames := 0, cells := 0, slots := 0, locals := 0 } : Room) s m args below meth c H locs 0 0 (MQ below (va_Qi post (fun u t => VM dC dI cA P u t.heap) (PA 25 P)) args s 0 0 (PA 25 P)) (F0 m 50 ls []) := by
  have C := C
  obtain ⟨hI, hKX, ⟨hx, hb, hml, hown, hts⟩, hr, hlocks⟩ := id C
  have hK := hKX
  intro v1 v2 v3 v5 v6 S H locs ls h hP hS hl
  rw [w_X9_greatNines_50] at h
  refine lv_iconst (v := 0) hx hb dX9_greatNines_50 (by decide) ?_
  exact b_X9_greatNines_51 C hK25 _ _ _ _ _ _ _ _ _ _ h  hP hS (lv_sub hl [0, 1, 2, 3, 4, 5] rfl)
set_option maxRecDepth 100000 in
set_option maxHeartbeats 4000000 in
theorem b_X9_greatNines_25 {p : Program} {l : Launch} {e : Env} {s : State} {m : MethodId} {args : Array Value} {below : List Frame} {meth : Method} {c : Code} {dC : Nat → ClassId} {dI : Nat → Nat → Nat} {cA : Nat → ClassId} {P : Nat → Nat} (C : CtxM dC dI cA P p s m args meth c cX9_greatNines 8 (some .int) RX9) {post : Int32 → St → Prop}  : ∀ (n : Nat) (v1 : Int32) (v2 : Int32) (v3 : Int32) (v4 : Int32) (v5 : Int32) (v6 : Int32) (S : St) (H : Heap) (locs : List Loc) (ls : Array Slot), w_X9_greatNines_25 post n v1 v2 v3 v4 v5 v6 S → VM dC dI cA P S H → va_S (PA 25 P) s.heap H locs → lv_has ls 8 [(0, .ref (P 0)), (1, .int v1), (2, .int v2), (3, .int v3), (4, .int v4), (5, .int v5), (6, .int v6)] → W p l e ({ frames := 0, cells := 0, slots := 0, locals := 0 } : Room) s m args below meth c H locs 0 0 (MQ below (va_Qi post (fun u t => VM dC dI cA P u t.heap) (PA 25 P)) args s 0 0 (PA 25 P)) (F0 m 25 ls []) := by
  have C := C
  obtain ⟨hI, hKX, ⟨hx, hb, hml, hown, hts⟩, hr, hlocks⟩ := id C
  have hK := hKX
  intro n
  induction n with
  | zero =>
    intro v1 v2 v3 v4 v5 v6 S H locs ls h hP hS hl
    simp only [w_X9_greatNines_25] at h
  | succ n ih =>
    intro v1 v2 v3 v4 v5 v6 S H locs ls h hP hS hl
    rw [w_X9_greatNines_25] at h
    refine lv_iload hx hb dX9_greatNines_25 (lv_at hl 6 rfl) ?_
    refine lv_iload_n hx hb dX9_greatNines_27 rfl (lv_at hl 1 rfl) ?_
    refine lv_icmp_ge (tgt := 97) hx hb dX9_greatNines_28 (by decide) (fun c3 => ?_) (fun c3 => ?_)
    · replace h := h.1 c3
      refine lv_iload hx hb dX9_greatNines_97 (lv_at hl 4 rfl) ?_
      refine lv_if_eq (tgt := 106) hx hb dX9_greatNines_99 (by decide) (fun c4 => ?_) (fun c4 => ?_)
      · replace h := h.1 c4
        refine lv_iload hx hb dX9_greatNines_106 (lv_at hl 5 rfl) ?_
        refine lv_if_eq (tgt := 124) hx hb dX9_greatNines_108 (by decide) (fun c5 => ?_) (fun c5 => ?_)
        · replace h := h.1 c5
          refine lv_bipush (v := (-2)) hx hb dX9_greatNines_124 (by decide) ?_
          exact g_iret hx hb hr hlocks h hP hS dX9_greatNines_126
        · replace h := h.2 c5
          refine lv_iload_n hx hb dX9_greatNines_111 rfl (lv_at hl 3 rfl) ?_
          refine lv_if_ne (tgt := 124) hx hb dX9_greatNines_112 (by decide) (fun c6 => ?_) (fun c6 => ?_)
          · replace h := h.2 c6
            refine lv_bipush (v := (-2)) hx hb dX9_greatNines_124 (by decide) ?_
            exact g_iret hx hb hr hlocks h hP hS dX9_greatNines_126
          · replace h := h.1 c6
            refine lv_aload_n hx hb dX9_greatNines_115 rfl (lv_at hl 0 rfl) ?_
            refine g_get (v := .int (S.1 0 11)) hx hb hts inG_X9 hown hK hP (kM_lt (rfl : kdM 0 = 9)) (eM9 (rfl : kdM 0 = 9)) rfl 11 (by decide) G_fl_X9_149 rfl rfl dX9_greatNines_116 ?_
            refine lv_iconst (v := 1) hx hb dX9_greatNines_119 (by decide) ?_
            refine lv_iadd hx hb dX9_greatNines_120 ?_
            refine lv_goto (tgt := 126) hx hb dX9_greatNines_121 (by decide) ?_
            exact g_iret hx hb hr hlocks h hP hS dX9_greatNines_126
      · replace h := h.2 c4
        refine lv_iconst (v := 0) hx hb dX9_greatNines_102 (by decide) ?_
        refine lv_goto (tgt := 126) hx hb dX9_greatNines_103 (by decide) ?_
        exact g_iret hx hb hr hlocks h hP hS dX9_greatNines_126
    · replace h := h.2 c3
      refine lv_iload hx hb dX9_greatNines_31 (lv_at hl 4 rfl) ?_
      refine lv_if_eq (tgt := 50) hx hb dX9_greatNines_33 (by decide) (fun c7 => ?_) (fun c7 => ?_)
      · replace h := h.1 c7
        exact b_X9_greatNines_50 C ih _ _ _ _ _ _ _ _ _ h  hP hS (lv_sub hl [0, 1, 2, 3, 5, 6] rfl)
      · replace h := h.2 c7
        refine lv_aload_n hx hb dX9_greatNines_36 rfl (lv_at hl 0 rfl) ?_
        refine g_get (v := .ref (P 7)) hx hb hts inG_X9 hown hK hP (kM_lt (rfl : kdM 0 = 9)) (eM9 (rfl : kdM 0 = 9)) rfl 10 (by decide) G_fl_X9_30 rfl rfl dX9_greatNines_37 ?_
        refine lv_iload hx hb dX9_greatNines_40 (lv_at hl 6 rfl) ?_
        refine g_ald hx hb hK hP (kM_lt (rfl : kdM 7 = 10)) 0 (eM10 (rfl : kdM 7 = 10)) rfl h.1 dX9_greatNines_42 ?_
        replace h := h.2
        refine lv_if_ne (tgt := 50) hx hb dX9_greatNines_43 (by decide) (fun c15 => ?_) (fun c15 => ?_)
        · replace h := h.2 c15
          exact b_X9_greatNines_50 C ih _ _ _ _ _ _ _ _ _ h  hP hS (lv_sub hl [0, 1, 2, 3, 5, 6] rfl)
        · replace h := h.1 c15
          refine lv_iconst (v := 1) hx hb dX9_greatNines_46 (by decide) ?_
          refine lv_goto (tgt := 51) hx hb dX9_greatNines_47 (by decide) ?_
          exact b_X9_greatNines_51 C ih _ _ _ _ _ _ _ _ _ _ h  hP hS (lv_sub hl [0, 1, 2, 3, 5, 6] rfl)
set_option maxRecDepth 100000 in
set_option maxHeartbeats 4000000 in
theorem e_X9_greatNines {p : Program} {l : Launch} {e : Env} {s : State} {m : MethodId} {args : Array Value} {below : List Frame} {meth : Method} {c : Code} {dC : Nat → ClassId} {dI : Nat → Nat → Nat} {cA : Nat → ClassId} {P : Nat → Nat} (C : CtxM dC dI cA P p s m args meth c cX9_greatNines 8 (some .int) RX9) {post : Int32 → St → Prop} : ∀ (v1 : Int32) (v2 : Int32) (S : St) (H : Heap) (locs : List Loc) (ls : Array Slot), w_X9_greatNines v1 v2 post S → VM dC dI cA P S H → va_S (PA 25 P) s.heap H locs → lv_has ls 8 [(0, .ref (P 0)), (1, .int v1), (2, .int v2)] → W p l e ({ frames := 0, cells := 0, slots := 0, locals := 0 } : Room) s m args below meth c H locs 0 0 (MQ below (va_Qi post (fun u t => VM dC dI cA P u t.heap) (PA 25 P)) args s 0 0 (PA 25 P)) (F0 m 0 ls []) := by
  have C := C
  obtain ⟨hI, hKX, ⟨hx, hb, hml, hown, hts⟩, hr, hlocks⟩ := id C
  have hK := hKX
  intro v1 v2 S H locs ls h hP hS hl
  rw [w_X9_greatNines] at h
  refine lv_aload_n hx hb dX9_greatNines_0 rfl (lv_at hl 0 rfl) ?_
  refine g_get (v := .int (S.1 0 11)) hx hb hts inG_X9 hown hK hP (kM_lt (rfl : kdM 0 = 9)) (eM9 (rfl : kdM 0 = 9)) rfl 11 (by decide) G_fl_X9_149 rfl rfl dX9_greatNines_1 ?_
  refine lv_topi (fun x1 ex1 => ?_)
  replace h := h x1 ex1
  refine lv_istore_n (lv' := [(3, .int x1), (0, .ref (P 0)), (1, .int v1), (2, .int v2)]) hx hb dX9_greatNines_4 rfl hl (by decide) rfl (fun ls hl => ?_)
  refine lv_aload_n hx hb dX9_greatNines_5 rfl (lv_at hl 1 rfl) ?_
  refine g_get (v := .int (S.1 0 11)) hx hb hts inG_X9 hown hK hP (kM_lt (rfl : kdM 0 = 9)) (eM9 (rfl : kdM 0 = 9)) rfl 11 (by decide) G_fl_X9_149 rfl rfl dX9_greatNines_6 ?_
  refine lv_if_ne (tgt := 16) hx hb dX9_greatNines_9 (by decide) (fun c2 => ?_) (fun c2 => ?_)
  · replace h := h.2 c2
    refine lv_iconst (v := 0) hx hb dX9_greatNines_16 (by decide) ?_
    refine lv_istore (lv' := [(4, .int 0), (3, .int x1), (0, .ref (P 0)), (1, .int v1), (2, .int v2)]) hx hb dX9_greatNines_17 hl (by decide) rfl (fun ls hl => ?_)
    refine lv_iconst (v := 1) hx hb dX9_greatNines_19 (by decide) ?_
    refine lv_istore (lv' := [(5, .int 1), (4, .int 0), (3, .int x1), (0, .ref (P 0)), (1, .int v1), (2, .int v2)]) hx hb dX9_greatNines_20 hl (by decide) rfl (fun ls hl => ?_)
    refine lv_iconst (v := 0) hx hb dX9_greatNines_22 (by decide) ?_
    refine lv_istore (lv' := [(6, .int 0), (5, .int 1), (4, .int 0), (3, .int x1), (0, .ref (P 0)), (1, .int v1), (2, .int v2)]) hx hb dX9_greatNines_23 hl (by decide) rfl (fun ls hl => ?_)
    obtain ⟨n16, h⟩ := h
    exact b_X9_greatNines_25 C n16 _ _ _ _ _ _ _ _ _ _ h  hP hS (lv_sub hl [4, 5, 6, 3, 2, 1, 0] rfl)
  · replace h := h.1 c2
    refine lv_iconst (v := 1) hx hb dX9_greatNines_12 (by decide) ?_
    refine lv_goto (tgt := 17) hx hb dX9_greatNines_13 (by decide) ?_
    refine lv_istore (lv' := [(4, .int 1), (3, .int x1), (0, .ref (P 0)), (1, .int v1), (2, .int v2)]) hx hb dX9_greatNines_17 hl (by decide) rfl (fun ls hl => ?_)
    refine lv_iconst (v := 1) hx hb dX9_greatNines_19 (by decide) ?_
    refine lv_istore (lv' := [(5, .int 1), (4, .int 1), (3, .int x1), (0, .ref (P 0)), (1, .int v1), (2, .int v2)]) hx hb dX9_greatNines_20 hl (by decide) rfl (fun ls hl => ?_)
    refine lv_iconst (v := 0) hx hb dX9_greatNines_22 (by decide) ?_
    refine lv_istore (lv' := [(6, .int 0), (5, .int 1), (4, .int 1), (3, .int x1), (0, .ref (P 0)), (1, .int v1), (2, .int v2)]) hx hb dX9_greatNines_23 hl (by decide) rfl (fun ls hl => ?_)
    obtain ⟨n17, h⟩ := h
    exact b_X9_greatNines_25 C n17 _ _ _ _ _ _ _ _ _ _ h  hP hS (lv_sub hl [4, 5, 6, 3, 2, 1, 0] rfl)
set_option maxRecDepth 100000 in
set_option maxHeartbeats 4000000 in
theorem c_X9_greatNines (l : Launch) {dC : Nat → ClassId} {dI : Nat → Nat → Nat} {cA : Nat → ClassId} {P : Nat → Nat} (hI : PInj 25 P) {v1 : Int32} {v2 : Int32}  {post : Int32 → St → Prop} {S : St} (h : w_X9_greatNines v1 v2 post S) : Met l yX9_greatNines (wW yX9_greatNines cX9_greatNines 8 (some .int)) ({ frames := 0, cells := 0, slots := 0, locals := 0 } : Room) (va_Pc [.ref (P 0), .int v1, .int v2] (PreM dC dI cA P S)) (va_Qi post (fun u t => VM dC dI cA P u t.heap) (PA 25 P)) 0 0 (PA 25 P) := by
  refine Met.ofW (cc := cX9_greatNines) (maxL := 8) (ret := (some .int)) (by decide) rfl ?_
  intro p e s m args below meth c s₁ B hml hv
  obtain ⟨rfl, hP, hKX⟩ := hv
  have hts : ∀ w ∈ G, w.before [.ref (P 0), .int v1, .int v2].toArray s = true := fun w hw => atoms_spec (ws := wW yX9_greatNines cX9_greatNines 8 (some .int)) B.pre w (List.mem_cons_of_mem _ hw)
  have C : CtxM dC dI cA P p s m [.ref (P 0), .int v1, .int v2].toArray meth c cX9_greatNines 8 (some .int) RX9 := ⟨hI, hKX, ⟨B.exec, B.bytes, hml, findClass_of_methodNamed B.named, hts⟩, B.returns, B.notSynchronized⟩
  have hS : va_S (PA 25 P) s.heap s.heap [] := va_S.rf
  have hl := lv_entry ([.ref (P 0), .int v1, .int v2]) (n := 8) (Nat.le_of_ble_eq_true rfl)
  rw [lg_entry_eq]
  generalize (lg_sl ([.ref (P 0), .int v1, .int v2]) ++ List.replicate (8 - (lg_sl ([.ref (P 0), .int v1, .int v2])).length) Slot.unset).toArray = ls at hl ⊢
  have hl : lv_has ls 8 [(0, .ref (P 0)), (1, .int v1), (2, .int v2)] := hl
  exact e_X9_greatNines C _ _ _ _ _ _ h  hP hS hl
set_option maxRecDepth 100000 in
set_option maxHeartbeats 4000000 in
theorem b_X9_ninesNow_47 {p : Program} {l : Launch} {e : Env} {s : State} {m : MethodId} {args : Array Value} {below : List Frame} {meth : Method} {c : Code} {dC : Nat → ClassId} {dI : Nat → Nat → Nat} {cA : Nat → ClassId} {P : Nat → Nat} (C : CtxM dC dI cA P p s m args meth c cX9_ninesNow 7 (some .int) RX9) {post : Int32 → St → Prop}  : ∀ (v2 : Int32) (v3 : Int32) (v4 : Int64) (S : St) (H : Heap) (locs : List Loc) (ls : Array Slot), w_X9_ninesNow_47 post v2 v3 v4 S → VM dC dI cA P S H → va_S (PA 25 P) s.heap H locs → lv_has ls 7 [(0, .ref (P 0)), (2, .int v2), (3, .int v3), (4, .long v4)] → W p l e ({ frames := 1, cells := 0, slots := 0, locals := 27 } : Room) s m args below meth c H locs 0 0 (MQ below (va_Qi post (fun u t => VM dC dI cA P u t.heap) (PA 25 P)) args s 0 0 (PA 25 P)) (F0 m 47 ls []) := by
  have C := C
  obtain ⟨hI, hKX, ⟨hx, hb, hml, hown, hts⟩, hr, hlocks⟩ := id C
  have hK := hKX
  intro v2 v3 v4 S H locs ls h hP hS hl
  rw [w_X9_ninesNow_47] at h
  refine lv_lload hx hb dX9_ninesNow_47 (lv_at hl 3 rfl) ?_
  refine lv_ldc2 (v := 1000000) hx hb hown (hts _ G_co_X9_161) dX9_ninesNow_49 ?_
  refine W.lcmp hx hb dX9_ninesNow_52 ?_
  refine lv_if_ge (tgt := 69) hx hb dX9_ninesNow_53 (by decide) (fun c4 => ?_) (fun c4 => ?_)
  · replace h := h.1 ((lg_cmp_ge _ _).mp c4)
    refine lv_aload_n hx hb dX9_ninesNow_69 rfl (lv_at hl 0 rfl) ?_
    refine lv_iload_n hx hb dX9_ninesNow_70 rfl (lv_at hl 2 rfl) ?_
    refine lv_iload_n hx hb dX9_ninesNow_71 rfl (lv_at hl 1 rfl) ?_
    refine va_calli (va_runV (As := [.int _, .int _]) (rest := []) ⟨hx, hb, hml, hown, hts⟩ (c_X9_greatNines l hI h) (cwV 2 hts gv_X9_167 rfl rfl rfl hv_X9_greatNines ⟨Nat.le_of_ble_eq_true rfl, Nat.le_of_ble_eq_true rfl⟩) (preV_M hKX hP hS (kM_lt (rfl : kdM 0 = 9)) (eM9 (rfl : kdM 0 = 9)) rfl) rfl rfl hl.1 rfl (lv_room (Nat.le_of_ble_eq_true rfl)) dX9_ninesNow_72 ⟨Nat.le_of_ble_eq_true rfl, Nat.le_of_ble_eq_true rfl⟩) hS (fun _ _ h => h) (fun _ h => h) (fun r6 S5 t H locs ht _ h hB _ _ hS => ?_)
    have hP : VM dC dI cA P S5 H := by rw [← ht]; exact hB
    exact g_iret hx hb hr hlocks h hP hS dX9_ninesNow_75
  · replace h := h.2 (fun z => c4 ((lg_cmp_ge _ _).mpr z))
    refine lv_aload_n hx hb dX9_ninesNow_56 rfl (lv_at hl 0 rfl) ?_
    refine lv_iload_n hx hb dX9_ninesNow_57 rfl (lv_at hl 2 rfl) ?_
    refine lv_iload_n hx hb dX9_ninesNow_58 rfl (lv_at hl 1 rfl) ?_
    refine lv_lload hx hb dX9_ninesNow_59 (lv_at hl 3 rfl) ?_
    refine lv_lconst (v := 1) hx hb dX9_ninesNow_61 (by decide) ?_
    refine lv_lsub hx hb dX9_ninesNow_62 ?_
    replace h := h _ rfl
    refine va_calli (va_runV (As := [.int _, .int _, .long _]) (rest := []) ⟨hx, hb, hml, hown, hts⟩ (c_X9_smallNines l hI h) (cwV 3 hts gv_X9_163 rfl rfl rfl hv_X9_smallNines ⟨Nat.le_of_ble_eq_true rfl, Nat.le_of_ble_eq_true rfl⟩) (preV_M hKX hP hS (kM_lt (rfl : kdM 0 = 9)) (eM9 (rfl : kdM 0 = 9)) rfl) rfl rfl hl.1 rfl (lv_room (Nat.le_of_ble_eq_true rfl)) dX9_ninesNow_63 ⟨Nat.le_of_ble_eq_true rfl, Nat.le_of_ble_eq_true rfl⟩) hS (fun _ _ h => h) (fun _ h => h) (fun r9 S8 t H locs ht _ h hB _ _ hS => ?_)
    have hP : VM dC dI cA P S8 H := by rw [← ht]; exact hB
    refine lv_goto (tgt := 75) hx hb dX9_ninesNow_66 (by decide) ?_
    exact g_iret hx hb hr hlocks h hP hS dX9_ninesNow_75
set_option maxRecDepth 100000 in
set_option maxHeartbeats 4000000 in
theorem b_X9_ninesNow_19 {p : Program} {l : Launch} {e : Env} {s : State} {m : MethodId} {args : Array Value} {below : List Frame} {meth : Method} {c : Code} {dC : Nat → ClassId} {dI : Nat → Nat → Nat} {cA : Nat → ClassId} {P : Nat → Nat} (C : CtxM dC dI cA P p s m args meth c cX9_ninesNow 7 (some .int) RX9) {post : Int32 → St → Prop}  : ∀ (n : Nat) (v2 : Int32) (v3 : Int32) (v4 : Int64) (v6 : Int32) (S : St) (H : Heap) (locs : List Loc) (ls : Array Slot), w_X9_ninesNow_19 post n v2 v3 v4 v6 S → VM dC dI cA P S H → va_S (PA 25 P) s.heap H locs → lv_has ls 7 [(0, .ref (P 0)), (2, .int v2), (3, .int v3), (4, .long v4), (6, .int v6)] → W p l e ({ frames := 1, cells := 0, slots := 0, locals := 27 } : Room) s m args below meth c H locs 0 0 (MQ below (va_Qi post (fun u t => VM dC dI cA P u t.heap) (PA 25 P)) args s 0 0 (PA 25 P)) (F0 m 19 ls []) := by
  have C := C
  obtain ⟨hI, hKX, ⟨hx, hb, hml, hown, hts⟩, hr, hlocks⟩ := id C
  have hK := hKX
  intro n
  induction n with
  | zero =>
    intro v2 v3 v4 v6 S H locs ls h hP hS hl
    simp only [w_X9_ninesNow_19] at h
  | succ n ih =>
    intro v2 v3 v4 v6 S H locs ls h hP hS hl
    rw [w_X9_ninesNow_19] at h
    refine lv_iload hx hb dX9_ninesNow_19 (lv_at hl 4 rfl) ?_
    refine lv_iload_n hx hb dX9_ninesNow_21 rfl (lv_at hl 2 rfl) ?_
    refine lv_icmp_ge (tgt := 47) hx hb dX9_ninesNow_22 (by decide) (fun c3 => ?_) (fun c3 => ?_)
    · replace h := h.1 c3
      exact b_X9_ninesNow_47 C _ _ _ _ _ _ _ h  hP hS (lv_sub hl [0, 1, 2, 3] rfl)
    · replace h := h.2 c3
      refine lv_lload hx hb dX9_ninesNow_25 (lv_at hl 3 rfl) ?_
      refine lv_ldc2 (v := 1000000) hx hb hown (hts _ G_co_X9_161) dX9_ninesNow_27 ?_
      refine W.lcmp hx hb dX9_ninesNow_30 ?_
      refine lv_if_ge (tgt := 47) hx hb dX9_ninesNow_31 (by decide) (fun c10 => ?_) (fun c10 => ?_)
      · replace h := h.1 ((lg_cmp_ge _ _).mp c10)
        exact b_X9_ninesNow_47 C _ _ _ _ _ _ _ h  hP hS (lv_sub hl [0, 1, 2, 3] rfl)
      · replace h := h.2 (fun z => c10 ((lg_cmp_ge _ _).mpr z))
        refine lv_lload hx hb dX9_ninesNow_34 (lv_at hl 3 rfl) ?_
        refine lv_iload_n hx hb dX9_ninesNow_36 rfl (lv_at hl 1 rfl) ?_
        refine lv_i2l hx hb dX9_ninesNow_37 rfl ?_
        refine lv_lmul hx hb dX9_ninesNow_38 ?_
        refine lv_topl (fun x11 ex11 => ?_)
        replace h := h x11 ex11
        refine lv_lstore (lv' := [(4, .long x11), (0, .ref (P 0)), (2, .int v2), (3, .int v3), (6, .int v6)]) hx hb dX9_ninesNow_39 hl (by decide) rfl (fun ls hl => ?_)
        obtain ⟨x12, ex12⟩ : ∃ y : Int32, y = v6 + 1 := ⟨_, rfl⟩
        replace h := h x12 ex12
        refine lv_iinc (v := x12) (lv' := [(6, .int x12), (4, .long x11), (0, .ref (P 0)), (2, .int v2), (3, .int v3)]) hx hb dX9_ninesNow_41 hl (k := 4) rfl (by rw [ex12]; rfl) (by decide) rfl (fun ls hl => ?_)
        refine lv_goto (tgt := 19) hx hb dX9_ninesNow_44 (by decide) ?_
        exact ih _ _ _ _ _ _ _ _ h  hP hS (lv_sub hl [2, 3, 4, 1, 0] rfl)
set_option maxRecDepth 100000 in
set_option maxHeartbeats 4000000 in
theorem e_X9_ninesNow {p : Program} {l : Launch} {e : Env} {s : State} {m : MethodId} {args : Array Value} {below : List Frame} {meth : Method} {c : Code} {dC : Nat → ClassId} {dI : Nat → Nat → Nat} {cA : Nat → ClassId} {P : Nat → Nat} (C : CtxM dC dI cA P p s m args meth c cX9_ninesNow 7 (some .int) RX9) {post : Int32 → St → Prop} : ∀ (v1 : Int32) (v2 : Int32) (S : St) (H : Heap) (locs : List Loc) (ls : Array Slot), w_X9_ninesNow v1 v2 post S → VM dC dI cA P S H → va_S (PA 25 P) s.heap H locs → lv_has ls 7 [(0, .ref (P 0)), (1, .int v1), (2, .int v2)] → W p l e ({ frames := 1, cells := 0, slots := 0, locals := 27 } : Room) s m args below meth c H locs 0 0 (MQ below (va_Qi post (fun u t => VM dC dI cA P u t.heap) (PA 25 P)) args s 0 0 (PA 25 P)) (F0 m 0 ls []) := by
  have C := C
  obtain ⟨hI, hKX, ⟨hx, hb, hml, hown, hts⟩, hr, hlocks⟩ := id C
  have hK := hKX
  intro v1 v2 S H locs ls h hP hS hl
  rw [w_X9_ninesNow] at h
  refine lv_aload_n hx hb dX9_ninesNow_0 rfl (lv_at hl 0 rfl) ?_
  refine lv_iload_n hx hb dX9_ninesNow_1 rfl (lv_at hl 1 rfl) ?_
  refine lv_iload_n hx hb dX9_ninesNow_2 rfl (lv_at hl 2 rfl) ?_
  refine va_callv (va_runV (As := [.int _, .int _]) (rest := []) ⟨hx, hb, hml, hown, hts⟩ (c_X9_blocks l hI h) (cwV 2 hts gv_X9_157 rfl rfl rfl hv_X9_blocks ⟨Nat.le_of_ble_eq_true rfl, Nat.le_of_ble_eq_true rfl⟩) (preV_M hKX hP hS (kM_lt (rfl : kdM 0 = 9)) (eM9 (rfl : kdM 0 = 9)) rfl) rfl rfl hl.1 rfl (lv_room (Nat.le_of_ble_eq_true rfl)) dX9_ninesNow_3 ⟨Nat.le_of_ble_eq_true rfl, Nat.le_of_ble_eq_true rfl⟩) hS (fun _ _ h => h) (fun _ h => h) (fun S1 t H locs ht _ h hB _ _ hS => ?_)
  have hP : VM dC dI cA P S1 H := by rw [← ht]; exact hB
  refine lv_aload_n hx hb dX9_ninesNow_6 rfl (lv_at hl 0 rfl) ?_
  refine g_get (v := .int (S1.1 0 5)) hx hb hts inG_X9 hown hK hP (kM_lt (rfl : kdM 0 = 9)) (eM9 (rfl : kdM 0 = 9)) rfl 5 (by decide) G_fl_X9_103 rfl rfl dX9_ninesNow_7 ?_
  refine lv_iload_n hx hb dX9_ninesNow_10 rfl (lv_at hl 1 rfl) ?_
  refine lv_idiv hx hb dX9_ninesNow_11 h.1 ?_
  replace h := h.2
  refine lv_topi (fun x2 ex2 => ?_)
  replace h := h x2 ex2
  refine lv_istore_n (lv' := [(3, .int x2), (0, .ref (P 0)), (1, .int v1), (2, .int v2)]) hx hb dX9_ninesNow_12 rfl hl (by decide) rfl (fun ls hl => ?_)
  refine lv_lconst (v := 1) hx hb dX9_ninesNow_13 (by decide) ?_
  refine lv_lstore (lv' := [(4, .long 1), (3, .int x2), (0, .ref (P 0)), (1, .int v1), (2, .int v2)]) hx hb dX9_ninesNow_14 hl (by decide) rfl (fun ls hl => ?_)
  refine lv_iconst (v := 0) hx hb dX9_ninesNow_16 (by decide) ?_
  refine lv_istore (lv' := [(6, .int 0), (4, .long 1), (3, .int x2), (0, .ref (P 0)), (1, .int v1), (2, .int v2)]) hx hb dX9_ninesNow_17 hl (by decide) rfl (fun ls hl => ?_)
  obtain ⟨n13, h⟩ := h
  exact b_X9_ninesNow_19 C n13 _ _ _ _ _ _ _ _ h  hP hS (lv_sub hl [3, 5, 2, 1, 0] rfl)
set_option maxRecDepth 100000 in
set_option maxHeartbeats 4000000 in
theorem c_X9_ninesNow (l : Launch) {dC : Nat → ClassId} {dI : Nat → Nat → Nat} {cA : Nat → ClassId} {P : Nat → Nat} (hI : PInj 25 P) {v1 : Int32} {v2 : Int32}  {post : Int32 → St → Prop} {S : St} (h : w_X9_ninesNow v1 v2 post S) : Met l yX9_ninesNow (wW yX9_ninesNow cX9_ninesNow 7 (some .int)) ({ frames := 1, cells := 0, slots := 0, locals := 27 } : Room) (va_Pc [.ref (P 0), .int v1, .int v2] (PreM dC dI cA P S)) (va_Qi post (fun u t => VM dC dI cA P u t.heap) (PA 25 P)) 0 0 (PA 25 P) := by
  refine Met.ofW (cc := cX9_ninesNow) (maxL := 7) (ret := (some .int)) (by decide) rfl ?_
  intro p e s m args below meth c s₁ B hml hv
  obtain ⟨rfl, hP, hKX⟩ := hv
  have hts : ∀ w ∈ G, w.before [.ref (P 0), .int v1, .int v2].toArray s = true := fun w hw => atoms_spec (ws := wW yX9_ninesNow cX9_ninesNow 7 (some .int)) B.pre w (List.mem_cons_of_mem _ hw)
  have C : CtxM dC dI cA P p s m [.ref (P 0), .int v1, .int v2].toArray meth c cX9_ninesNow 7 (some .int) RX9 := ⟨hI, hKX, ⟨B.exec, B.bytes, hml, findClass_of_methodNamed B.named, hts⟩, B.returns, B.notSynchronized⟩
  have hS : va_S (PA 25 P) s.heap s.heap [] := va_S.rf
  have hl := lv_entry ([.ref (P 0), .int v1, .int v2]) (n := 7) (Nat.le_of_ble_eq_true rfl)
  rw [lg_entry_eq]
  generalize (lg_sl ([.ref (P 0), .int v1, .int v2]) ++ List.replicate (7 - (lg_sl ([.ref (P 0), .int v1, .int v2])).length) Slot.unset).toArray = ls at hl ⊢
  have hl : lv_has ls 7 [(0, .ref (P 0)), (1, .int v1), (2, .int v2)] := hl
  exact e_X9_ninesNow C _ _ _ _ _ _ h  hP hS hl
set_option maxRecDepth 100000 in
set_option maxHeartbeats 4000000 in
theorem e_X9_nines {p : Program} {l : Launch} {e : Env} {s : State} {m : MethodId} {args : Array Value} {below : List Frame} {meth : Method} {c : Code} {dC : Nat → ClassId} {dI : Nat → Nat → Nat} {cA : Nat → ClassId} {P : Nat → Nat} (C : CtxM dC dI cA P p s m args meth c cX9_nines 3 (some .int) RX9) {post : Int32 → St → Prop} : ∀ (v1 : Int32) (v2 : Int32) (S : St) (H : Heap) (locs : List Loc) (ls : Array Slot), w_X9_nines v1 v2 post S → VM dC dI cA P S H → va_S (PA 25 P) s.heap H locs → lv_has ls 3 [(0, .ref (P 0)), (1, .int v1), (2, .int v2)] → W p l e ({ frames := 2, cells := 0, slots := 0, locals := 53 } : Room) s m args below meth c H locs 0 0 (MQ below (va_Qi post (fun u t => VM dC dI cA P u t.heap) (PA 25 P)) args s 0 0 (PA 25 P)) (F0 m 0 ls []) := by
  have C := C
  obtain ⟨hI, hKX, ⟨hx, hb, hml, hown, hts⟩, hr, hlocks⟩ := id C
  have hK := hKX
  intro v1 v2 S H locs ls h hP hS hl
  rw [w_X9_nines] at h
  refine lv_aload_n hx hb dX9_nines_0 rfl (lv_at hl 0 rfl) ?_
  refine lv_iload_n hx hb dX9_nines_1 rfl (lv_at hl 1 rfl) ?_
  refine va_calli (va_runV (As := [.int _]) (rest := []) ⟨hx, hb, hml, hown, hts⟩ (c_X9_isFraction l hI h) (cwV 1 hts gv_X9_126 rfl rfl rfl hv_X9_isFraction ⟨Nat.le_of_ble_eq_true rfl, Nat.le_of_ble_eq_true rfl⟩) (preV_M hKX hP hS (kM_lt (rfl : kdM 0 = 9)) (eM9 (rfl : kdM 0 = 9)) rfl) rfl rfl hl.1 rfl (lv_room (Nat.le_of_ble_eq_true rfl)) dX9_nines_2 ⟨Nat.le_of_ble_eq_true rfl, Nat.le_of_ble_eq_true rfl⟩) hS (fun _ _ h => h) (fun _ h => h) (fun r2 S1 t H locs ht _ h hB _ _ hS => ?_)
  have hP : VM dC dI cA P S1 H := by rw [← ht]; exact hB
  refine lv_if_ne (tgt := 10) hx hb dX9_nines_5 (by decide) (fun c3 => ?_) (fun c3 => ?_)
  · replace h := h.2 c3
    refine lv_aload_n hx hb dX9_nines_10 rfl (lv_at hl 0 rfl) ?_
    refine lv_iload_n hx hb dX9_nines_11 rfl (lv_at hl 1 rfl) ?_
    refine va_callv (va_runV (As := [.int _]) (rest := []) ⟨hx, hb, hml, hown, hts⟩ (c_X9_looksAt l hI h) (cwV 1 hts gv_X9_137 rfl rfl rfl hv_X9_looksAt ⟨Nat.le_of_ble_eq_true rfl, Nat.le_of_ble_eq_true rfl⟩) (preV_M hKX hP hS (kM_lt (rfl : kdM 0 = 9)) (eM9 (rfl : kdM 0 = 9)) rfl) rfl rfl hl.1 rfl (lv_room (Nat.le_of_ble_eq_true rfl)) dX9_nines_12 ⟨Nat.le_of_ble_eq_true rfl, Nat.le_of_ble_eq_true rfl⟩) hS (fun _ _ h => h) (fun _ h => h) (fun S4 t H locs ht _ h hB _ _ hS => ?_)
    have hP : VM dC dI cA P S4 H := by rw [← ht]; exact hB
    refine lv_aload_n hx hb dX9_nines_15 rfl (lv_at hl 0 rfl) ?_
    refine lv_iload_n hx hb dX9_nines_16 rfl (lv_at hl 2 rfl) ?_
    refine va_calli (va_runV (As := [.int _]) (rest := []) ⟨hx, hb, hml, hown, hts⟩ (c_X9_isParted l hI h) (cwV 1 hts gv_X9_152 rfl rfl rfl hv_X9_isParted ⟨Nat.le_of_ble_eq_true rfl, Nat.le_of_ble_eq_true rfl⟩) (preV_M hKX hP hS (kM_lt (rfl : kdM 0 = 9)) (eM9 (rfl : kdM 0 = 9)) rfl) rfl rfl hl.1 rfl (lv_room (Nat.le_of_ble_eq_true rfl)) dX9_nines_17 ⟨Nat.le_of_ble_eq_true rfl, Nat.le_of_ble_eq_true rfl⟩) hS (fun _ _ h => h) (fun _ h => h) (fun r6 S5 t H locs ht _ h hB _ _ hS => ?_)
    have hP : VM dC dI cA P S5 H := by rw [← ht]; exact hB
    refine lv_if_eq (tgt := 37) hx hb dX9_nines_20 (by decide) (fun c7 => ?_) (fun c7 => ?_)
    · replace h := h.1 c7
      refine lv_iconst (v := (-1)) hx hb dX9_nines_37 (by decide) ?_
      exact g_iret hx hb hr hlocks h hP hS dX9_nines_38
    · replace h := h.2 c7
      refine lv_aload_n hx hb dX9_nines_23 rfl (lv_at hl 0 rfl) ?_
      refine lv_iload_n hx hb dX9_nines_24 rfl (lv_at hl 2 rfl) ?_
      refine lv_aload_n hx hb dX9_nines_25 rfl (lv_at hl 0 rfl) ?_
      refine g_get (v := .ref (P 3)) hx hb hts inG_X9 hown hK hP (kM_lt (rfl : kdM 0 = 9)) (eM9 (rfl : kdM 0 = 9)) rfl 3 (by decide) G_fl_X9_18 rfl rfl dX9_nines_26 ?_
      refine lv_iload_n hx hb dX9_nines_29 rfl (lv_at hl 1 rfl) ?_
      refine g_ald hx hb hK hP (kM_lt (rfl : kdM 3 = 10)) 0 (eM10 (rfl : kdM 3 = 10)) rfl h.1 dX9_nines_30 ?_
      replace h := h.2
      replace h := h _ rfl
      refine va_calli (va_runV (As := [.int _, .int _]) (rest := []) ⟨hx, hb, hml, hown, hts⟩ (c_X9_ninesNow l hI h) (cwV 2 hts gv_X9_171 rfl rfl rfl hv_X9_ninesNow ⟨Nat.le_of_ble_eq_true rfl, Nat.le_of_ble_eq_true rfl⟩) (preV_M hKX hP hS (kM_lt (rfl : kdM 0 = 9)) (eM9 (rfl : kdM 0 = 9)) rfl) rfl rfl hl.1 rfl (lv_room (Nat.le_of_ble_eq_true rfl)) dX9_nines_31 ⟨Nat.le_of_ble_eq_true rfl, Nat.le_of_ble_eq_true rfl⟩) hS (fun _ _ h => h) (fun _ h => h) (fun r10 S9 t H locs ht _ h hB _ _ hS => ?_)
      have hP : VM dC dI cA P S9 H := by rw [← ht]; exact hB
      refine lv_goto (tgt := 38) hx hb dX9_nines_34 (by decide) ?_
      exact g_iret hx hb hr hlocks h hP hS dX9_nines_38
  · replace h := h.1 c3
    refine lv_iconst (v := (-1)) hx hb dX9_nines_8 (by decide) ?_
    exact g_iret hx hb hr hlocks h hP hS dX9_nines_9
set_option maxRecDepth 100000 in
set_option maxHeartbeats 4000000 in
theorem c_X9_nines (l : Launch) {dC : Nat → ClassId} {dI : Nat → Nat → Nat} {cA : Nat → ClassId} {P : Nat → Nat} (hI : PInj 25 P) {v1 : Int32} {v2 : Int32}  {post : Int32 → St → Prop} {S : St} (h : w_X9_nines v1 v2 post S) : Met l yX9_nines (wW yX9_nines cX9_nines 3 (some .int)) ({ frames := 2, cells := 0, slots := 0, locals := 53 } : Room) (va_Pc [.ref (P 0), .int v1, .int v2] (PreM dC dI cA P S)) (va_Qi post (fun u t => VM dC dI cA P u t.heap) (PA 25 P)) 0 0 (PA 25 P) := by
  refine Met.ofW (cc := cX9_nines) (maxL := 3) (ret := (some .int)) (by decide) rfl ?_
  intro p e s m args below meth c s₁ B hml hv
  obtain ⟨rfl, hP, hKX⟩ := hv
  have hts : ∀ w ∈ G, w.before [.ref (P 0), .int v1, .int v2].toArray s = true := fun w hw => atoms_spec (ws := wW yX9_nines cX9_nines 3 (some .int)) B.pre w (List.mem_cons_of_mem _ hw)
  have C : CtxM dC dI cA P p s m [.ref (P 0), .int v1, .int v2].toArray meth c cX9_nines 3 (some .int) RX9 := ⟨hI, hKX, ⟨B.exec, B.bytes, hml, findClass_of_methodNamed B.named, hts⟩, B.returns, B.notSynchronized⟩
  have hS : va_S (PA 25 P) s.heap s.heap [] := va_S.rf
  have hl := lv_entry ([.ref (P 0), .int v1, .int v2]) (n := 3) (Nat.le_of_ble_eq_true rfl)
  rw [lg_entry_eq]
  generalize (lg_sl ([.ref (P 0), .int v1, .int v2]) ++ List.replicate (3 - (lg_sl ([.ref (P 0), .int v1, .int v2])).length) Slot.unset).toArray = ls at hl ⊢
  have hl : lv_has ls 3 [(0, .ref (P 0)), (1, .int v1), (2, .int v2)] := hl
  exact e_X9_nines C _ _ _ _ _ _ h  hP hS hl
set_option maxRecDepth 100000 in
set_option maxHeartbeats 4000000 in
theorem b_X9_keepsRing_15 {p : Program} {l : Launch} {e : Env} {s : State} {m : MethodId} {args : Array Value} {below : List Frame} {meth : Method} {c : Code} {dC : Nat → ClassId} {dI : Nat → Nat → Nat} {cA : Nat → ClassId} {P : Nat → Nat} (C : CtxM dC dI cA P p s m args meth c cX9_keepsRing 3 none RX9) {post : St → Prop}  : ∀ (n : Nat) (v2 : Int32) (S : St) (H : Heap) (locs : List Loc) (ls : Array Slot), w_X9_keepsRing_15 post n v2 S → VM dC dI cA P S H → va_S (PA 25 P) s.heap H locs → lv_has ls 3 [(0, .ref (P 0)), (2, .int v2)] → W p l e ({ frames := 2, cells := 0, slots := 0, locals := 47 } : Room) s m args below meth c H locs 0 0 (MQ below (va_Qv post (fun u t => VM dC dI cA P u t.heap) (PA 25 P)) args s 0 0 (PA 25 P)) (F0 m 15 ls []) := by
  have C := C
  obtain ⟨hI, hKX, ⟨hx, hb, hml, hown, hts⟩, hr, hlocks⟩ := id C
  have hK := hKX
  intro n
  induction n with
  | zero =>
    intro v2 S H locs ls h hP hS hl
    simp only [w_X9_keepsRing_15] at h
  | succ n ih =>
    intro v2 S H locs ls h hP hS hl
    rw [w_X9_keepsRing_15] at h
    refine lv_iload_n hx hb dX9_keepsRing_15 rfl (lv_at hl 1 rfl) ?_
    refine lv_aload_n hx hb dX9_keepsRing_16 rfl (lv_at hl 0 rfl) ?_
    refine g_get (v := .int (S.1 0 5)) hx hb hts inG_X9 hown hK hP (kM_lt (rfl : kdM 0 = 9)) (eM9 (rfl : kdM 0 = 9)) rfl 5 (by decide) G_fl_X9_103 rfl rfl dX9_keepsRing_17 ?_
    refine lv_icmp_ge (tgt := 46) hx hb dX9_keepsRing_20 (by decide) (fun c4 => ?_) (fun c4 => ?_)
    · replace h := h.1 c4
      exact g_vret hx hb hr hlocks h hP hS dX9_keepsRing_46
    · replace h := h.2 c4
      refine lv_aload_n hx hb dX9_keepsRing_23 rfl (lv_at hl 0 rfl) ?_
      refine g_get (v := .ref (P 8)) hx hb hts inG_X9 hown hK hP (kM_lt (rfl : kdM 0 = 9)) (eM9 (rfl : kdM 0 = 9)) rfl 12 (by decide) G_fl_X9_33 rfl rfl dX9_keepsRing_24 ?_
      refine lv_iload_n hx hb dX9_keepsRing_27 rfl (lv_at hl 1 rfl) ?_
      refine lv_aload_n hx hb dX9_keepsRing_28 rfl (lv_at hl 0 rfl) ?_
      refine g_get (v := .ref (P 5)) hx hb hts inG_X9 hown hK hP (kM_lt (rfl : kdM 0 = 9)) (eM9 (rfl : kdM 0 = 9)) rfl 8 (by decide) G_fl_X9_24 rfl rfl dX9_keepsRing_29 ?_
      refine lv_aload_n hx hb dX9_keepsRing_32 rfl (lv_at hl 0 rfl) ?_
      refine g_get (v := .int (S.1 0 4)) hx hb hts inG_X9 hown hK hP (kM_lt (rfl : kdM 0 = 9)) (eM9 (rfl : kdM 0 = 9)) rfl 4 (by decide) G_fl_X9_100 rfl rfl dX9_keepsRing_33 ?_
      refine lv_iload_n hx hb dX9_keepsRing_36 rfl (lv_at hl 1 rfl) ?_
      refine lv_iadd hx hb dX9_keepsRing_37 ?_
      replace h := h _ rfl
      refine g_ald hx hb hK hP (kM_lt (rfl : kdM 5 = 10)) 0 (eM10 (rfl : kdM 5 = 10)) rfl h.1 dX9_keepsRing_38 ?_
      replace h := h.2
      replace h := h _ rfl
      refine g_ast hx hb hK hI hP hS (kM_lt (rfl : kdM 8 = 10)) 0 (eM10 (rfl : kdM 8 = 10)) rfl h.1 h.2 dX9_keepsRing_39 (fun S7 H locs h hP hS => ?_)
      obtain ⟨x8, ex8⟩ : ∃ y : Int32, y = v2 + 1 := ⟨_, rfl⟩
      replace h := h x8 ex8
      refine lv_iinc (v := x8) (lv' := [(2, .int x8), (0, .ref (P 0))]) hx hb dX9_keepsRing_40 hl (k := 1) rfl (by rw [ex8]; rfl) (by decide) rfl (fun ls hl => ?_)
      refine lv_goto (tgt := 15) hx hb dX9_keepsRing_43 (by decide) ?_
      exact ih _ _ _ _ _ h  hP hS (lv_sub hl [1, 0] rfl)
set_option maxRecDepth 100000 in
set_option maxHeartbeats 4000000 in
theorem e_X9_keepsRing {p : Program} {l : Launch} {e : Env} {s : State} {m : MethodId} {args : Array Value} {below : List Frame} {meth : Method} {c : Code} {dC : Nat → ClassId} {dI : Nat → Nat → Nat} {cA : Nat → ClassId} {P : Nat → Nat} (C : CtxM dC dI cA P p s m args meth c cX9_keepsRing 3 none RX9) {post : St → Prop} : ∀ (v1 : Int32) (S : St) (H : Heap) (locs : List Loc) (ls : Array Slot), w_X9_keepsRing v1 post S → VM dC dI cA P S H → va_S (PA 25 P) s.heap H locs → lv_has ls 3 [(0, .ref (P 0)), (1, .int v1)] → W p l e ({ frames := 2, cells := 0, slots := 0, locals := 47 } : Room) s m args below meth c H locs 0 0 (MQ below (va_Qv post (fun u t => VM dC dI cA P u t.heap) (PA 25 P)) args s 0 0 (PA 25 P)) (F0 m 0 ls []) := by
  have C := C
  obtain ⟨hI, hKX, ⟨hx, hb, hml, hown, hts⟩, hr, hlocks⟩ := id C
  have hK := hKX
  intro v1 S H locs ls h hP hS hl
  rw [w_X9_keepsRing] at h
  refine lv_aload_n hx hb dX9_keepsRing_0 rfl (lv_at hl 0 rfl) ?_
  refine lv_iload_n hx hb dX9_keepsRing_1 rfl (lv_at hl 1 rfl) ?_
  refine va_callv (va_runV (As := [.int _]) (rest := []) ⟨hx, hb, hml, hown, hts⟩ (c_X9_looksAt l hI h) (cwV 1 hts gv_X9_137 rfl rfl rfl hv_X9_looksAt ⟨Nat.le_of_ble_eq_true rfl, Nat.le_of_ble_eq_true rfl⟩) (preV_M hKX hP hS (kM_lt (rfl : kdM 0 = 9)) (eM9 (rfl : kdM 0 = 9)) rfl) rfl rfl hl.1 rfl (lv_room (Nat.le_of_ble_eq_true rfl)) dX9_keepsRing_2 ⟨Nat.le_of_ble_eq_true rfl, Nat.le_of_ble_eq_true rfl⟩) hS (fun _ _ h => h) (fun _ h => h) (fun S1 t H locs ht _ h hB _ _ hS => ?_)
  have hP : VM dC dI cA P S1 H := by rw [← ht]; exact hB
  refine lv_aload_n hx hb dX9_keepsRing_5 rfl (lv_at hl 0 rfl) ?_
  refine lv_aload_n hx hb dX9_keepsRing_6 rfl (lv_at hl 0 rfl) ?_
  refine g_get (v := .int (S1.1 0 5)) hx hb hts inG_X9 hown hK hP (kM_lt (rfl : kdM 0 = 9)) (eM9 (rfl : kdM 0 = 9)) rfl 5 (by decide) G_fl_X9_103 rfl rfl dX9_keepsRing_7 ?_
  replace h := h _ rfl
  refine g_putI hx hb hts inG_X9 tyX9 tyX9_ok nmX9 hown hK hI hP hS (kM_lt (rfl : kdM 0 = 9)) (eM9 (rfl : kdM 0 = 9)) rfl 13 (by decide) G_fl_X9_174 rfl rfl (ty := .int) (by decide +kernel) rfl rfl (Nat.le_of_ble_eq_true rfl) rfl h dX9_keepsRing_10 (fun S3 H locs h hP hS => ?_)
  refine lv_iconst (v := 0) hx hb dX9_keepsRing_13 (by decide) ?_
  refine lv_istore_n (lv' := [(2, .int 0), (0, .ref (P 0)), (1, .int v1)]) hx hb dX9_keepsRing_14 rfl hl (by decide) rfl (fun ls hl => ?_)
  obtain ⟨n9, h⟩ := h
  exact b_X9_keepsRing_15 C n9 _ _ _ _ _ h  hP hS (lv_sub hl [1, 0] rfl)
set_option maxRecDepth 100000 in
set_option maxHeartbeats 4000000 in
theorem c_X9_keepsRing (l : Launch) {dC : Nat → ClassId} {dI : Nat → Nat → Nat} {cA : Nat → ClassId} {P : Nat → Nat} (hI : PInj 25 P) {v1 : Int32}  {post : St → Prop} {S : St} (h : w_X9_keepsRing v1 post S) : Met l yX9_keepsRing (wW yX9_keepsRing cX9_keepsRing 3 none) ({ frames := 2, cells := 0, slots := 0, locals := 47 } : Room) (va_Pc [.ref (P 0), .int v1] (PreM dC dI cA P S)) (va_Qv post (fun u t => VM dC dI cA P u t.heap) (PA 25 P)) 0 0 (PA 25 P) := by
  refine Met.ofW (cc := cX9_keepsRing) (maxL := 3) (ret := none) (by decide) rfl ?_
  intro p e s m args below meth c s₁ B hml hv
  obtain ⟨rfl, hP, hKX⟩ := hv
  have hts : ∀ w ∈ G, w.before [.ref (P 0), .int v1].toArray s = true := fun w hw => atoms_spec (ws := wW yX9_keepsRing cX9_keepsRing 3 none) B.pre w (List.mem_cons_of_mem _ hw)
  have C : CtxM dC dI cA P p s m [.ref (P 0), .int v1].toArray meth c cX9_keepsRing 3 none RX9 := ⟨hI, hKX, ⟨B.exec, B.bytes, hml, findClass_of_methodNamed B.named, hts⟩, B.returns, B.notSynchronized⟩
  have hS : va_S (PA 25 P) s.heap s.heap [] := va_S.rf
  have hl := lv_entry ([.ref (P 0), .int v1]) (n := 3) (Nat.le_of_ble_eq_true rfl)
  rw [lg_entry_eq]
  generalize (lg_sl ([.ref (P 0), .int v1]) ++ List.replicate (3 - (lg_sl ([.ref (P 0), .int v1])).length) Slot.unset).toArray = ls at hl ⊢
  have hl : lv_has ls 3 [(0, .ref (P 0)), (1, .int v1)] := hl
  exact e_X9_keepsRing C _ _ _ _ _ h  hP hS hl
set_option maxRecDepth 100000 in
set_option maxHeartbeats 4000000 in
theorem b_X9_shiftNow_28 {p : Program} {l : Launch} {e : Env} {s : State} {m : MethodId} {args : Array Value} {below : List Frame} {meth : Method} {c : Code} {dC : Nat → ClassId} {dI : Nat → Nat → Nat} {cA : Nat → ClassId} {P : Nat → Nat} (C : CtxM dC dI cA P p s m args meth c cX9_shiftNow 4 (some .int) RX9) {post : Int32 → St → Prop}  : ∀ (n : Nat) (v3 : Int32) (S : St) (H : Heap) (locs : List Loc) (ls : Array Slot), w_X9_shiftNow_28 post n v3 S → VM dC dI cA P S H → va_S (PA 25 P) s.heap H locs → lv_has ls 4 [(0, .ref (P 0)), (3, .int v3)] → W p l e ({ frames := 1, cells := 0, slots := 0, locals := 26 } : Room) s m args below meth c H locs 0 0 (MQ below (va_Qi post (fun u t => VM dC dI cA P u t.heap) (PA 25 P)) args s 0 0 (PA 25 P)) (F0 m 28 ls []) := by
  have C := C
  obtain ⟨hI, hKX, ⟨hx, hb, hml, hown, hts⟩, hr, hlocks⟩ := id C
  have hK := hKX
  intro n
  induction n with
  | zero =>
    intro v3 S H locs ls h hP hS hl
    simp only [w_X9_shiftNow_28] at h
  | succ n ih =>
    intro v3 S H locs ls h hP hS hl
    rw [w_X9_shiftNow_28] at h
    refine lv_iload_n hx hb dX9_shiftNow_28 rfl (lv_at hl 1 rfl) ?_
    refine lv_aload_n hx hb dX9_shiftNow_29 rfl (lv_at hl 0 rfl) ?_
    refine g_get (v := .int (S.1 0 13)) hx hb hts inG_X9 hown hK hP (kM_lt (rfl : kdM 0 = 9)) (eM9 (rfl : kdM 0 = 9)) rfl 13 (by decide) G_fl_X9_174 rfl rfl dX9_shiftNow_30 ?_
    refine lv_icmp_ge (tgt := 62) hx hb dX9_shiftNow_33 (by decide) (fun c5 => ?_) (fun c5 => ?_)
    · replace h := h.1 c5
      refine lv_bipush (v := (-2)) hx hb dX9_shiftNow_62 (by decide) ?_
      exact g_iret hx hb hr hlocks h hP hS dX9_shiftNow_64
    · replace h := h.2 c5
      refine lv_aload_n hx hb dX9_shiftNow_36 rfl (lv_at hl 0 rfl) ?_
      refine g_get (v := .ref (P 8)) hx hb hts inG_X9 hown hK hP (kM_lt (rfl : kdM 0 = 9)) (eM9 (rfl : kdM 0 = 9)) rfl 12 (by decide) G_fl_X9_33 rfl rfl dX9_shiftNow_37 ?_
      refine lv_iload_n hx hb dX9_shiftNow_40 rfl (lv_at hl 1 rfl) ?_
      refine g_ald hx hb hK hP (kM_lt (rfl : kdM 8 = 10)) 0 (eM10 (rfl : kdM 8 = 10)) rfl h.1 dX9_shiftNow_41 ?_
      replace h := h.2
      refine lv_aload_n hx hb dX9_shiftNow_42 rfl (lv_at hl 0 rfl) ?_
      refine g_get (v := .ref (P 5)) hx hb hts inG_X9 hown hK hP (kM_lt (rfl : kdM 0 = 9)) (eM9 (rfl : kdM 0 = 9)) rfl 8 (by decide) G_fl_X9_24 rfl rfl dX9_shiftNow_43 ?_
      refine lv_aload_n hx hb dX9_shiftNow_46 rfl (lv_at hl 0 rfl) ?_
      refine g_get (v := .int (S.1 0 4)) hx hb hts inG_X9 hown hK hP (kM_lt (rfl : kdM 0 = 9)) (eM9 (rfl : kdM 0 = 9)) rfl 4 (by decide) G_fl_X9_100 rfl rfl dX9_shiftNow_47 ?_
      replace h := h _ rfl
      refine g_ald hx hb hK hP (kM_lt (rfl : kdM 5 = 10)) 0 (eM10 (rfl : kdM 5 = 10)) rfl h.1 dX9_shiftNow_50 ?_
      replace h := h.2
      refine lv_icmp_ne (tgt := 56) hx hb dX9_shiftNow_51 (by decide) (fun c7 => ?_) (fun c7 => ?_)
      · replace h := h.2 c7
        obtain ⟨x8, ex8⟩ : ∃ y : Int32, y = v3 + 1 := ⟨_, rfl⟩
        replace h := h x8 ex8
        refine lv_iinc (v := x8) (lv' := [(3, .int x8), (0, .ref (P 0))]) hx hb dX9_shiftNow_56 hl (k := 1) rfl (by rw [ex8]; rfl) (by decide) rfl (fun ls hl => ?_)
        refine lv_goto (tgt := 28) hx hb dX9_shiftNow_59 (by decide) ?_
        exact ih _ _ _ _ _ h  hP hS (lv_sub hl [1, 0] rfl)
      · replace h := h.1 c7
        refine lv_iload_n hx hb dX9_shiftNow_54 rfl (lv_at hl 1 rfl) ?_
        exact g_iret hx hb hr hlocks h hP hS dX9_shiftNow_55
set_option maxRecDepth 100000 in
set_option maxHeartbeats 4000000 in
theorem e_X9_shiftNow {p : Program} {l : Launch} {e : Env} {s : State} {m : MethodId} {args : Array Value} {below : List Frame} {meth : Method} {c : Code} {dC : Nat → ClassId} {dI : Nat → Nat → Nat} {cA : Nat → ClassId} {P : Nat → Nat} (C : CtxM dC dI cA P p s m args meth c cX9_shiftNow 4 (some .int) RX9) {post : Int32 → St → Prop} : ∀ (v1 : Int32) (v2 : Int32) (S : St) (H : Heap) (locs : List Loc) (ls : Array Slot), w_X9_shiftNow v1 v2 post S → VM dC dI cA P S H → va_S (PA 25 P) s.heap H locs → lv_has ls 4 [(0, .ref (P 0)), (1, .int v1), (2, .int v2)] → W p l e ({ frames := 1, cells := 0, slots := 0, locals := 26 } : Room) s m args below meth c H locs 0 0 (MQ below (va_Qi post (fun u t => VM dC dI cA P u t.heap) (PA 25 P)) args s 0 0 (PA 25 P)) (F0 m 0 ls []) := by
  have C := C
  obtain ⟨hI, hKX, ⟨hx, hb, hml, hown, hts⟩, hr, hlocks⟩ := id C
  have hK := hKX
  intro v1 v2 S H locs ls h hP hS hl
  rw [w_X9_shiftNow] at h
  refine lv_aload_n hx hb dX9_shiftNow_0 rfl (lv_at hl 0 rfl) ?_
  refine lv_iload_n hx hb dX9_shiftNow_1 rfl (lv_at hl 2 rfl) ?_
  refine lv_i2l hx hb dX9_shiftNow_2 rfl ?_
  refine lv_aload_n hx hb dX9_shiftNow_3 rfl (lv_at hl 0 rfl) ?_
  refine g_get (v := .ref (P 1)) hx hb hts inG_X9 hown hK hP (kM_lt (rfl : kdM 0 = 9)) (eM9 (rfl : kdM 0 = 9)) rfl 1 (by decide) G_fl_X9_11 rfl rfl dX9_shiftNow_4 ?_
  refine lv_iload_n hx hb dX9_shiftNow_7 rfl (lv_at hl 1 rfl) ?_
  refine g_ald hx hb hK hP (kM_lt (rfl : kdM 1 = 10)) 0 (eM10 (rfl : kdM 1 = 10)) rfl h.1 dX9_shiftNow_8 ?_
  replace h := h.2
  refine lv_i2l hx hb dX9_shiftNow_9 rfl ?_
  refine lv_lmul hx hb dX9_shiftNow_10 ?_
  refine lv_aload_n hx hb dX9_shiftNow_11 rfl (lv_at hl 0 rfl) ?_
  refine g_get (v := .ref (P 2)) hx hb hts inG_X9 hown hK hP (kM_lt (rfl : kdM 0 = 9)) (eM9 (rfl : kdM 0 = 9)) rfl 2 (by decide) G_fl_X9_15 rfl rfl dX9_shiftNow_12 ?_
  refine lv_iload_n hx hb dX9_shiftNow_15 rfl (lv_at hl 1 rfl) ?_
  refine g_ald hx hb hK hP (kM_lt (rfl : kdM 2 = 10)) 0 (eM10 (rfl : kdM 2 = 10)) rfl h.1 dX9_shiftNow_16 ?_
  replace h := h.2
  refine lv_aload_n hx hb dX9_shiftNow_17 rfl (lv_at hl 0 rfl) ?_
  refine g_get (v := .ref (P 3)) hx hb hts inG_X9 hown hK hP (kM_lt (rfl : kdM 0 = 9)) (eM9 (rfl : kdM 0 = 9)) rfl 3 (by decide) G_fl_X9_18 rfl rfl dX9_shiftNow_18 ?_
  refine lv_iload_n hx hb dX9_shiftNow_21 rfl (lv_at hl 1 rfl) ?_
  refine g_ald hx hb hK hP (kM_lt (rfl : kdM 3 = 10)) 0 (eM10 (rfl : kdM 3 = 10)) rfl h.1 dX9_shiftNow_22 ?_
  replace h := h.2
  replace h := h _ rfl
  replace h := h _ rfl
  replace h := h _ rfl
  refine va_callv (va_runV (As := [.long _, .int _, .int _]) (rest := []) ⟨hx, hb, hml, hown, hts⟩ (c_X9_looks l hI h) (cwV 3 hts gv_X9_110 rfl rfl rfl hv_X9_looks ⟨Nat.le_of_ble_eq_true rfl, Nat.le_of_ble_eq_true rfl⟩) (preV_M hKX hP hS (kM_lt (rfl : kdM 0 = 9)) (eM9 (rfl : kdM 0 = 9)) rfl) rfl rfl hl.1 rfl (lv_room (Nat.le_of_ble_eq_true rfl)) dX9_shiftNow_23 ⟨Nat.le_of_ble_eq_true rfl, Nat.le_of_ble_eq_true rfl⟩) hS (fun _ _ h => h) (fun _ h => h) (fun S4 t H locs ht _ h hB _ _ hS => ?_)
  have hP : VM dC dI cA P S4 H := by rw [← ht]; exact hB
  refine lv_iconst (v := 0) hx hb dX9_shiftNow_26 (by decide) ?_
  refine lv_istore_n (lv' := [(3, .int 0), (0, .ref (P 0)), (1, .int v1), (2, .int v2)]) hx hb dX9_shiftNow_27 rfl hl (by decide) rfl (fun ls hl => ?_)
  obtain ⟨n9, h⟩ := h
  exact b_X9_shiftNow_28 C n9 _ _ _ _ _ h  hP hS (lv_sub hl [1, 0] rfl)
set_option maxRecDepth 100000 in
set_option maxHeartbeats 4000000 in
theorem c_X9_shiftNow (l : Launch) {dC : Nat → ClassId} {dI : Nat → Nat → Nat} {cA : Nat → ClassId} {P : Nat → Nat} (hI : PInj 25 P) {v1 : Int32} {v2 : Int32}  {post : Int32 → St → Prop} {S : St} (h : w_X9_shiftNow v1 v2 post S) : Met l yX9_shiftNow (wW yX9_shiftNow cX9_shiftNow 4 (some .int)) ({ frames := 1, cells := 0, slots := 0, locals := 26 } : Room) (va_Pc [.ref (P 0), .int v1, .int v2] (PreM dC dI cA P S)) (va_Qi post (fun u t => VM dC dI cA P u t.heap) (PA 25 P)) 0 0 (PA 25 P) := by
  refine Met.ofW (cc := cX9_shiftNow) (maxL := 4) (ret := (some .int)) (by decide) rfl ?_
  intro p e s m args below meth c s₁ B hml hv
  obtain ⟨rfl, hP, hKX⟩ := hv
  have hts : ∀ w ∈ G, w.before [.ref (P 0), .int v1, .int v2].toArray s = true := fun w hw => atoms_spec (ws := wW yX9_shiftNow cX9_shiftNow 4 (some .int)) B.pre w (List.mem_cons_of_mem _ hw)
  have C : CtxM dC dI cA P p s m [.ref (P 0), .int v1, .int v2].toArray meth c cX9_shiftNow 4 (some .int) RX9 := ⟨hI, hKX, ⟨B.exec, B.bytes, hml, findClass_of_methodNamed B.named, hts⟩, B.returns, B.notSynchronized⟩
  have hS : va_S (PA 25 P) s.heap s.heap [] := va_S.rf
  have hl := lv_entry ([.ref (P 0), .int v1, .int v2]) (n := 4) (Nat.le_of_ble_eq_true rfl)
  rw [lg_entry_eq]
  generalize (lg_sl ([.ref (P 0), .int v1, .int v2]) ++ List.replicate (4 - (lg_sl ([.ref (P 0), .int v1, .int v2])).length) Slot.unset).toArray = ls at hl ⊢
  have hl : lv_has ls 4 [(0, .ref (P 0)), (1, .int v1), (2, .int v2)] := hl
  exact e_X9_shiftNow C _ _ _ _ _ _ h  hP hS hl
