set_option maxRecDepth 100000 in
set_option maxHeartbeats 4000000 in
theorem b_X4_placeOfBlocks_19 {p : Program} {l : Launch} {e : Env} {s : State} {m : MethodId} {args : Array Value} {below : List Frame} {meth : Method} {c : Code} {dC : Nat → ClassId} {dI : Nat → Nat → Nat} {cA : Nat → ClassId} {adK adV P : Nat → Nat} (C : CtxX dC dI cA adK adV P p s m args meth c cX4_placeOfBlocks 9 (some .int) RX4) {post : Int32 → St → Prop} {K6 : Int32 → Int32 → Int32 → Int32 → Int32 → Int32 → St → Prop} (hK6 : ∀ (v1 : Int32) (v2 : Int32) (v3 : Int32) (v4 : Int32) (v5 : Int32) (v6 : Int32) (S : St) (H : Heap) (locs : List Loc) (ls : Array Slot), K6 v1 v2 v3 v4 v5 v6 S → VX dC dI cA P S H → va_S (PA 56 P) s.heap H locs → lv_has ls 9 [(0, .ref (P 52)), (1, .int v1), (2, .int v2), (3, .int v3), (4, .int v4), (5, .int v5), (6, .int v6)] → W p l e ({ frames := 1, cells := 0, slots := 0, locals := 23 } : Room) s m args below meth c H locs 0 0 (MQ below (va_Qi post (fun u t => VX dC dI cA P u t.heap) (PA 56 P)) args s 0 0 (PA 56 P)) (F0 m 6 ls [])) : ∀ (n : Nat) (v1 : Int32) (v2 : Int32) (v3 : Int32) (v4 : Int32) (v6 : Int32) (v7 : Int32) (v8 : Int32) (S : St) (H : Heap) (locs : List Loc) (ls : Array Slot), w_X4_placeOfBlocks_19 post K6 n v1 v2 v3 v4 v6 v7 v8 S → VX dC dI cA P S H → va_S (PA 56 P) s.heap H locs → lv_has ls 9 [(0, .ref (P 52)), (1, .int v1), (2, .int v2), (3, .int v3), (4, .int v4), (6, .int v6), (7, .int v7), (8, .int v8)] → W p l e ({ frames := 1, cells := 0, slots := 0, locals := 23 } : Room) s m args below meth c H locs 0 0 (MQ below (va_Qi post (fun u t => VX dC dI cA P u t.heap) (PA 56 P)) args s 0 0 (PA 56 P)) (F0 m 19 ls []) := by
  have C := C
  obtain ⟨hI, hKX, ⟨hx, hb, hml, hown, hts⟩, hr, hlocks⟩ := id C
  have hK := hKX.1
  intro n
  induction n with
  | zero =>
    intro v1 v2 v3 v4 v6 v7 v8 S H locs ls h hP hS hl
    simp only [w_X4_placeOfBlocks_19] at h
  | succ n ih =>
    intro v1 v2 v3 v4 v6 v7 v8 S H locs ls h hP hS hl
    rw [w_X4_placeOfBlocks_19] at h
    refine lv_iload hx hb dX4_placeOfBlocks_19 (lv_at hl 7 rfl) ?_
    refine lv_iload_n hx hb dX4_placeOfBlocks_21 rfl (lv_at hl 1 rfl) ?_
    refine lv_icmp_gt (tgt := 52) hx hb dX4_placeOfBlocks_22 (by decide) (fun c2 => ?_) (fun c2 => ?_)
    · replace h := h.1 c2
      refine lv_iload hx hb dX4_placeOfBlocks_52 (lv_at hl 5 rfl) ?_
      refine lv_iload_n hx hb dX4_placeOfBlocks_54 rfl (lv_at hl 3 rfl) ?_
      refine lv_icmp_ne (tgt := 66) hx hb dX4_placeOfBlocks_55 (by decide) (fun c3 => ?_) (fun c3 => ?_)
      · replace h := h.2 c3
        refine lv_iload hx hb dX4_placeOfBlocks_66 (lv_at hl 6 rfl) ?_
        refine lv_i2l hx hb dX4_placeOfBlocks_68 rfl ?_
        refine lv_iload hx hb dX4_placeOfBlocks_69 (lv_at hl 4 rfl) ?_
        refine lv_i2l hx hb dX4_placeOfBlocks_71 rfl ?_
        replace h := h _ rfl
        replace h := h _ rfl
        refine va_calll (va_runSN (As := [.long _, .long _]) (rest := []) ⟨hx, hb, hml, hown, hts⟩ (c_X8_quotient l hI h) ⟨va_cnB 2 hts (good_W G_cd_X8_quotient) rfl rfl rfl (kx_n8 hKX) (hts _ G_in_X8) hd_X8_quotient ⟨Nat.le_of_ble_eq_true rfl, Nat.le_of_ble_eq_true rfl⟩, hts _ G_st_X8_quotient, trivial⟩ (preS_X hKX hP hS) rfl rfl hl.1 rfl (lv_room (Nat.le_of_ble_eq_true rfl)) dX4_placeOfBlocks_72 ⟨Nat.le_of_ble_eq_true rfl, Nat.le_of_ble_eq_true rfl⟩) hS (fun _ _ h => h) (fun _ h => h) (fun r7 S6 t H locs ht _ h hB _ _ hS => ?_)
        have hP : VX dC dI cA P S6 H := by rw [← ht]; exact hB
        refine lv_l2i hx hb dX4_placeOfBlocks_75 rfl ?_
        refine lv_topi (fun x8 ex8 => ?_)
        replace h := h x8 ex8
        refine lv_istore (lv' := [(5, .int x8), (0, .ref (P 52)), (1, .int v1), (2, .int v2), (3, .int v3), (4, .int v4), (6, .int v6), (7, .int v7), (8, .int v8)]) hx hb dX4_placeOfBlocks_76 hl (by decide) rfl (fun ls hl => ?_)
        obtain ⟨x9, ex9⟩ : ∃ y : Int32, y = v6 + 1 := ⟨_, rfl⟩
        replace h := h x9 ex9
        refine lv_iinc (v := x9) (lv' := [(6, .int x9), (5, .int x8), (0, .ref (P 52)), (1, .int v1), (2, .int v2), (3, .int v3), (4, .int v4), (7, .int v7), (8, .int v8)]) hx hb dX4_placeOfBlocks_78 hl (k := 6) rfl (by rw [ex9]; rfl) (by decide) rfl (fun ls hl => ?_)
        refine lv_goto (tgt := 6) hx hb dX4_placeOfBlocks_81 (by decide) ?_
        exact hK6 _ _ _ _ _ _ _ _ _ _ h  hP hS (lv_sub hl [2, 3, 4, 5, 6, 1, 0] rfl)
      · replace h := h.1 c3
        refine lv_iload hx hb dX4_placeOfBlocks_58 (lv_at hl 6 rfl) ?_
        refine lv_iload hx hb dX4_placeOfBlocks_60 (lv_at hl 4 rfl) ?_
        refine va_calli (va_runSN (As := [.int _, .int _]) (rest := []) ⟨hx, hb, hml, hown, hts⟩ (c_X8_remainder l hI h) ⟨va_cnB 2 hts (good_W G_cd_X8_remainder) rfl rfl rfl (kx_n7 hKX) (hts _ G_in_X8) hd_X8_remainder ⟨Nat.le_of_ble_eq_true rfl, Nat.le_of_ble_eq_true rfl⟩, hts _ G_st_X8_remainder, trivial⟩ (preS_X hKX hP hS) rfl rfl hl.1 rfl (lv_room (Nat.le_of_ble_eq_true rfl)) dX4_placeOfBlocks_62 ⟨Nat.le_of_ble_eq_true rfl, Nat.le_of_ble_eq_true rfl⟩) hS (fun _ _ h => h) (fun _ h => h) (fun r11 S10 t H locs ht _ h hB _ _ hS => ?_)
        have hP : VX dC dI cA P S10 H := by rw [← ht]; exact hB
        exact g_iret hx hb hr hlocks h hP hS dX4_placeOfBlocks_65
    · replace h := h.2 c2
      refine lv_iload hx hb dX4_placeOfBlocks_25 (lv_at hl 6 rfl) ?_
      refine lv_aload_n hx hb dX4_placeOfBlocks_27 rfl (lv_at hl 0 rfl) ?_
      refine g_get (v := .ref (P 53)) hx hb hts inG_X4 hown hK hP (kX_lt (rfl : kdX 52 = 4)) (eX4 (rfl : kdX 52 = 4)) rfl 0 (by decide) G_fl_X4_9 rfl rfl dX4_placeOfBlocks_28 ?_
      refine lv_iload hx hb dX4_placeOfBlocks_31 (lv_at hl 7 rfl) ?_
      refine lv_iload_n hx hb dX4_placeOfBlocks_33 rfl (lv_at hl 2 rfl) ?_
      refine lv_imul hx hb dX4_placeOfBlocks_34 ?_
      refine lv_iconst (v := 1) hx hb dX4_placeOfBlocks_35 (by decide) ?_
      refine lv_isub hx hb dX4_placeOfBlocks_36 ?_
      refine lv_iload hx hb dX4_placeOfBlocks_37 (lv_at hl 5 rfl) ?_
      refine lv_isub hx hb dX4_placeOfBlocks_39 ?_
      replace h := h _ rfl
      refine va_calli (va_runSN (As := [.ref _, .int _]) (rest := [.int _]) ⟨hx, hb, hml, hown, hts⟩ (c_X8_valueAt l hI (rfl : kdX 53 = 10) h) ⟨va_cnB 2 hts (good_W G_cd_X8_valueAt) rfl rfl rfl (kx_n6 hKX) (hts _ G_in_X8) hd_X8_valueAt ⟨Nat.le_of_ble_eq_true rfl, Nat.le_of_ble_eq_true rfl⟩, hts _ G_st_X8_valueAt, trivial⟩ (preS_X hKX hP hS) rfl rfl hl.1 rfl (lv_room (Nat.le_of_ble_eq_true rfl)) dX4_placeOfBlocks_40 ⟨Nat.le_of_ble_eq_true rfl, Nat.le_of_ble_eq_true rfl⟩) hS (fun _ _ h => h) (fun _ h => h) (fun r14 S13 t H locs ht _ h hB _ _ hS => ?_)
      have hP : VX dC dI cA P S13 H := by rw [← ht]; exact hB
      refine lv_iadd hx hb dX4_placeOfBlocks_43 ?_
      refine lv_topi (fun x15 ex15 => ?_)
      replace h := h x15 ex15
      refine lv_istore (lv' := [(7, .int x15), (0, .ref (P 52)), (1, .int v1), (2, .int v2), (3, .int v3), (4, .int v4), (6, .int v6), (8, .int v8)]) hx hb dX4_placeOfBlocks_44 hl (by decide) rfl (fun ls hl => ?_)
      obtain ⟨x16, ex16⟩ : ∃ y : Int32, y = v8 + 1 := ⟨_, rfl⟩
      replace h := h x16 ex16
      refine lv_iinc (v := x16) (lv' := [(8, .int x16), (7, .int x15), (0, .ref (P 52)), (1, .int v1), (2, .int v2), (3, .int v3), (4, .int v4), (6, .int v6)]) hx hb dX4_placeOfBlocks_46 hl (k := 7) rfl (by rw [ex16]; rfl) (by decide) rfl (fun ls hl => ?_)
      refine lv_goto (tgt := 19) hx hb dX4_placeOfBlocks_49 (by decide) ?_
      exact ih _ _ _ _ _ _ _ _ _ _ _ h  hP hS (lv_sub hl [2, 3, 4, 5, 6, 7, 1, 0] rfl)
set_option maxRecDepth 100000 in
set_option maxHeartbeats 4000000 in
theorem b_X4_placeOfBlocks_6 {p : Program} {l : Launch} {e : Env} {s : State} {m : MethodId} {args : Array Value} {below : List Frame} {meth : Method} {c : Code} {dC : Nat → ClassId} {dI : Nat → Nat → Nat} {cA : Nat → ClassId} {adK adV P : Nat → Nat} (C : CtxX dC dI cA adK adV P p s m args meth c cX4_placeOfBlocks 9 (some .int) RX4) {post : Int32 → St → Prop}  : ∀ (n : Nat) (v1 : Int32) (v2 : Int32) (v3 : Int32) (v4 : Int32) (v5 : Int32) (v6 : Int32) (S : St) (H : Heap) (locs : List Loc) (ls : Array Slot), w_X4_placeOfBlocks_6 post n v1 v2 v3 v4 v5 v6 S → VX dC dI cA P S H → va_S (PA 56 P) s.heap H locs → lv_has ls 9 [(0, .ref (P 52)), (1, .int v1), (2, .int v2), (3, .int v3), (4, .int v4), (5, .int v5), (6, .int v6)] → W p l e ({ frames := 1, cells := 0, slots := 0, locals := 23 } : Room) s m args below meth c H locs 0 0 (MQ below (va_Qi post (fun u t => VX dC dI cA P u t.heap) (PA 56 P)) args s 0 0 (PA 56 P)) (F0 m 6 ls []) := by
  have C := C
  obtain ⟨hI, hKX, ⟨hx, hb, hml, hown, hts⟩, hr, hlocks⟩ := id C
  have hK := hKX.1
  intro n
  induction n with
  | zero =>
    intro v1 v2 v3 v4 v5 v6 S H locs ls h hP hS hl
    simp only [w_X4_placeOfBlocks_6] at h
  | succ n ih =>
    intro v1 v2 v3 v4 v5 v6 S H locs ls h hP hS hl
    rw [w_X4_placeOfBlocks_6] at h
    refine lv_iload hx hb dX4_placeOfBlocks_6 (lv_at hl 6 rfl) ?_
    refine lv_iload_n hx hb dX4_placeOfBlocks_8 rfl (lv_at hl 2 rfl) ?_
    refine lv_icmp_ge (tgt := 84) hx hb dX4_placeOfBlocks_9 (by decide) (fun c1 => ?_) (fun c1 => ?_)
    · replace h := h.1 c1
      refine lv_iload hx hb dX4_placeOfBlocks_84 (lv_at hl 5 rfl) ?_
      exact g_iret hx hb hr hlocks h hP hS dX4_placeOfBlocks_86
    · replace h := h.2 c1
      refine lv_iload hx hb dX4_placeOfBlocks_12 (lv_at hl 5 rfl) ?_
      refine lv_istore (lv' := [(7, .int v5), (0, .ref (P 52)), (1, .int v1), (2, .int v2), (3, .int v3), (4, .int v4), (5, .int v5), (6, .int v6)]) hx hb dX4_placeOfBlocks_14 hl (by decide) rfl (fun ls hl => ?_)
      refine lv_iconst (v := 1) hx hb dX4_placeOfBlocks_16 (by decide) ?_
      refine lv_istore (lv' := [(8, .int 1), (7, .int v5), (0, .ref (P 52)), (1, .int v1), (2, .int v2), (3, .int v3), (4, .int v4), (5, .int v5), (6, .int v6)]) hx hb dX4_placeOfBlocks_17 hl (by decide) rfl (fun ls hl => ?_)
      obtain ⟨n17, h⟩ := h
      exact b_X4_placeOfBlocks_19 C ih n17 _ _ _ _ _ _ _ _ _ _ _ h  hP hS (lv_sub hl [2, 3, 4, 5, 6, 8, 1, 0] rfl)
set_option maxRecDepth 100000 in
set_option maxHeartbeats 4000000 in
theorem e_X4_placeOfBlocks {p : Program} {l : Launch} {e : Env} {s : State} {m : MethodId} {args : Array Value} {below : List Frame} {meth : Method} {c : Code} {dC : Nat → ClassId} {dI : Nat → Nat → Nat} {cA : Nat → ClassId} {adK adV P : Nat → Nat} (C : CtxX dC dI cA adK adV P p s m args meth c cX4_placeOfBlocks 9 (some .int) RX4) {post : Int32 → St → Prop} : ∀ (v1 : Int32) (v2 : Int32) (v3 : Int32) (v4 : Int32) (S : St) (H : Heap) (locs : List Loc) (ls : Array Slot), w_X4_placeOfBlocks v1 v2 v3 v4 post S → VX dC dI cA P S H → va_S (PA 56 P) s.heap H locs → lv_has ls 9 [(0, .ref (P 52)), (1, .int v1), (2, .int v2), (3, .int v3), (4, .int v4)] → W p l e ({ frames := 1, cells := 0, slots := 0, locals := 23 } : Room) s m args below meth c H locs 0 0 (MQ below (va_Qi post (fun u t => VX dC dI cA P u t.heap) (PA 56 P)) args s 0 0 (PA 56 P)) (F0 m 0 ls []) := by
  have C := C
  obtain ⟨hI, hKX, ⟨hx, hb, hml, hown, hts⟩, hr, hlocks⟩ := id C
  have hK := hKX.1
  intro v1 v2 v3 v4 S H locs ls h hP hS hl
  rw [w_X4_placeOfBlocks] at h
  refine lv_iconst (v := 0) hx hb dX4_placeOfBlocks_0 (by decide) ?_
  refine lv_istore (lv' := [(5, .int 0), (0, .ref (P 52)), (1, .int v1), (2, .int v2), (3, .int v3), (4, .int v4)]) hx hb dX4_placeOfBlocks_1 hl (by decide) rfl (fun ls hl => ?_)
  refine lv_iconst (v := 0) hx hb dX4_placeOfBlocks_3 (by decide) ?_
  refine lv_istore (lv' := [(6, .int 0), (5, .int 0), (0, .ref (P 52)), (1, .int v1), (2, .int v2), (3, .int v3), (4, .int v4)]) hx hb dX4_placeOfBlocks_4 hl (by decide) rfl (fun ls hl => ?_)
  obtain ⟨n18, h⟩ := h
  exact b_X4_placeOfBlocks_6 C n18 _ _ _ _ _ _ _ _ _ _ h  hP hS (lv_sub hl [2, 3, 4, 5, 6, 1, 0] rfl)
set_option maxRecDepth 100000 in
set_option maxHeartbeats 4000000 in
theorem c_X4_placeOfBlocks (l : Launch) {dC : Nat → ClassId} {dI : Nat → Nat → Nat} {cA : Nat → ClassId} {adK adV P : Nat → Nat} (hI : PInj 56 P) {v1 : Int32} {v2 : Int32} {v3 : Int32} {v4 : Int32}  {post : Int32 → St → Prop} {S : St} (h : w_X4_placeOfBlocks v1 v2 v3 v4 post S) : Met l yX4_placeOfBlocks (wW yX4_placeOfBlocks cX4_placeOfBlocks 9 (some .int)) ({ frames := 1, cells := 0, slots := 0, locals := 23 } : Room) (va_Pc [.ref (P 52), .int v1, .int v2, .int v3, .int v4] (PreX dC dI cA adK adV P S)) (va_Qi post (fun u t => VX dC dI cA P u t.heap) (PA 56 P)) 0 0 (PA 56 P) := by
  refine Met.ofW (cc := cX4_placeOfBlocks) (maxL := 9) (ret := (some .int)) (by decide) rfl ?_
  intro p e s m args below meth c s₁ B hml hv
  obtain ⟨rfl, hP, hKX⟩ := hv
  have hts : ∀ w ∈ G, w.before [.ref (P 52), .int v1, .int v2, .int v3, .int v4].toArray s = true := fun w hw => atoms_spec (ws := wW yX4_placeOfBlocks cX4_placeOfBlocks 9 (some .int)) B.pre w (List.mem_cons_of_mem _ hw)
  have C : CtxX dC dI cA adK adV P p s m [.ref (P 52), .int v1, .int v2, .int v3, .int v4].toArray meth c cX4_placeOfBlocks 9 (some .int) RX4 := ⟨hI, hKX, ⟨B.exec, B.bytes, hml, findClass_of_methodNamed B.named, hts⟩, B.returns, B.notSynchronized⟩
  have hS : va_S (PA 56 P) s.heap s.heap [] := va_S.rf
  have hl := lv_entry ([.ref (P 52), .int v1, .int v2, .int v3, .int v4]) (n := 9) (Nat.le_of_ble_eq_true rfl)
  rw [lg_entry_eq]
  generalize (lg_sl ([.ref (P 52), .int v1, .int v2, .int v3, .int v4]) ++ List.replicate (9 - (lg_sl ([.ref (P 52), .int v1, .int v2, .int v3, .int v4])).length) Slot.unset).toArray = ls at hl ⊢
  have hl : lv_has ls 9 [(0, .ref (P 52)), (1, .int v1), (2, .int v2), (3, .int v3), (4, .int v4)] := hl
  exact e_X4_placeOfBlocks C _ _ _ _ _ _ _ _ h  hP hS hl
set_option maxRecDepth 100000 in
set_option maxHeartbeats 4000000 in
theorem e_X4_worth {p : Program} {l : Launch} {e : Env} {s : State} {m : MethodId} {args : Array Value} {below : List Frame} {meth : Method} {c : Code} {dC : Nat → ClassId} {dI : Nat → Nat → Nat} {cA : Nat → ClassId} {adK adV P : Nat → Nat} (C : CtxX dC dI cA adK adV P p s m args meth c cX4_worth 4 (some .int) RX4) {post : Int32 → St → Prop} : ∀ (v0 : Int32) (v1 : Int32) (v2 : Int32) (v3 : Int32) (S : St) (H : Heap) (locs : List Loc) (ls : Array Slot), w_X4_worth v0 v1 v2 v3 post S → VX dC dI cA P S H → va_S (PA 56 P) s.heap H locs → lv_has ls 4 [(0, .int v0), (1, .int v1), (2, .int v2), (3, .int v3)] → W p l e ({ frames := 1, cells := 0, slots := 0, locals := 23 } : Room) s m args below meth c H locs 0 0 (MQ below (va_Qi post (fun u t => VX dC dI cA P u t.heap) (PA 56 P)) args s 0 0 (PA 56 P)) (F0 m 0 ls []) := by
  have C := C
  obtain ⟨hI, hKX, ⟨hx, hb, hml, hown, hts⟩, hr, hlocks⟩ := id C
  have hK := hKX.1
  intro v0 v1 v2 v3 S H locs ls h hP hS hl
  rw [w_X4_worth] at h
  refine lv_iload_n hx hb dX4_worth_0 rfl (lv_at hl 0 rfl) ?_
  by_cases c1 : v0 = 0
  · replace h := h.1 c1
    refine lv_tableIn (off := 39) (tgt := 40) hx hb dX4_worth_1 (by rw [c1]; decide) (by rw [c1]; decide) (by rw [c1]; decide) (by decide) ?_
    refine lv_iload_n hx hb dX4_worth_40 rfl (lv_at hl 2 rfl) ?_
    exact g_iret hx hb hr hlocks h hP hS dX4_worth_41
  replace h := h.2 c1
  by_cases c2 : v0 = 1
  · replace h := h.1 c2
    refine lv_tableIn (off := 41) (tgt := 42) hx hb dX4_worth_1 (by rw [c2]; decide) (by rw [c2]; decide) (by rw [c2]; decide) (by decide) ?_
    refine lv_iload_n hx hb dX4_worth_42 rfl (lv_at hl 2 rfl) ?_
    refine lv_iload_n hx hb dX4_worth_43 rfl (lv_at hl 1 rfl) ?_
    refine lv_iconst (v := 1) hx hb dX4_worth_44 (by decide) ?_
    refine lv_iadd hx hb dX4_worth_45 ?_
    refine lv_imul hx hb dX4_worth_46 ?_
    exact g_iret hx hb hr hlocks h hP hS dX4_worth_47
  replace h := h.2 c2
  by_cases c3 : v0 = 2
  · replace h := h.1 c3
    refine lv_tableIn (off := 47) (tgt := 48) hx hb dX4_worth_1 (by rw [c3]; decide) (by rw [c3]; decide) (by rw [c3]; decide) (by decide) ?_
    refine lv_iload_n hx hb dX4_worth_48 rfl (lv_at hl 1 rfl) ?_
    refine lv_iconst (v := 2) hx hb dX4_worth_49 (by decide) ?_
    refine lv_irem hx hb dX4_worth_50 (by decide) ?_
    refine lv_if_ne (tgt := 62) hx hb dX4_worth_51 (by decide) (fun c4 => ?_) (fun c4 => ?_)
    · replace h := h.2 c4
      refine lv_iload_n hx hb dX4_worth_62 rfl (lv_at hl 2 rfl) ?_
      refine lv_ineg hx hb dX4_worth_63 ?_
      refine lv_iload_n hx hb dX4_worth_64 rfl (lv_at hl 1 rfl) ?_
      refine lv_iconst (v := 1) hx hb dX4_worth_65 (by decide) ?_
      refine lv_iadd hx hb dX4_worth_66 ?_
      refine lv_imul hx hb dX4_worth_67 ?_
      exact g_iret hx hb hr hlocks h hP hS dX4_worth_68
    · replace h := h.1 c4
      refine lv_iload_n hx hb dX4_worth_54 rfl (lv_at hl 2 rfl) ?_
      refine lv_iload_n hx hb dX4_worth_55 rfl (lv_at hl 1 rfl) ?_
      refine lv_iconst (v := 1) hx hb dX4_worth_56 (by decide) ?_
      refine lv_iadd hx hb dX4_worth_57 ?_
      refine lv_imul hx hb dX4_worth_58 ?_
      refine lv_goto (tgt := 68) hx hb dX4_worth_59 (by decide) ?_
      exact g_iret hx hb hr hlocks h hP hS dX4_worth_68
  replace h := h.2 c3
  by_cases c5 : v0 = 3
  · replace h := h.1 c5
    refine lv_tableIn (off := 68) (tgt := 69) hx hb dX4_worth_1 (by rw [c5]; decide) (by rw [c5]; decide) (by rw [c5]; decide) (by decide) ?_
    refine lv_iload_n hx hb dX4_worth_69 rfl (lv_at hl 2 rfl) ?_
    refine lv_iload_n hx hb dX4_worth_70 rfl (lv_at hl 2 rfl) ?_
    refine lv_imul hx hb dX4_worth_71 ?_
    exact g_iret hx hb hr hlocks h hP hS dX4_worth_72
  replace h := h.2 c5
  by_cases c6 : v0 = 4
  · replace h := h.1 c6
    refine lv_tableIn (off := 72) (tgt := 73) hx hb dX4_worth_1 (by rw [c6]; decide) (by rw [c6]; decide) (by rw [c6]; decide) (by decide) ?_
    refine lv_iload_n hx hb dX4_worth_73 rfl (lv_at hl 2 rfl) ?_
    refine lv_iload_n hx hb dX4_worth_74 rfl (lv_at hl 2 rfl) ?_
    refine lv_imul hx hb dX4_worth_75 ?_
    refine lv_iload_n hx hb dX4_worth_76 rfl (lv_at hl 3 rfl) ?_
    refine va_mmin hx hb (hml.trans hl.1.symm) hown (hts _ G_ml_X4_52) (hts _ G_st_J9_min_7cf53) (hts _ G_in_J9) (hts _ G_cd_J9_min_7cf53) (Nat.le_of_ble_eq_true rfl) (Nat.le_of_ble_eq_true rfl) (Nat.le_of_ble_eq_true rfl) (Nat.le_of_ble_eq_true rfl) dX4_worth_77 ?_
    exact g_iret hx hb hr hlocks h hP hS dX4_worth_80
  replace h := h.2 c6
  by_cases c7 : v0 = 5
  · replace h := h.1 c7
    refine lv_tableIn (off := 80) (tgt := 81) hx hb dX4_worth_1 (by rw [c7]; decide) (by rw [c7]; decide) (by rw [c7]; decide) (by decide) ?_
    refine lv_iload_n hx hb dX4_worth_81 rfl (lv_at hl 2 rfl) ?_
    refine lv_iload_n hx hb dX4_worth_82 rfl (lv_at hl 3 rfl) ?_
    refine lv_icmp_le (tgt := 90) hx hb dX4_worth_83 (by decide) (fun c8 => ?_) (fun c8 => ?_)
    · replace h := h.1 c8
      refine lv_iconst (v := 0) hx hb dX4_worth_90 (by decide) ?_
      exact g_iret hx hb hr hlocks h hP hS dX4_worth_91
    · replace h := h.2 c8
      refine lv_iconst (v := 1) hx hb dX4_worth_86 (by decide) ?_
      refine lv_goto (tgt := 91) hx hb dX4_worth_87 (by decide) ?_
      exact g_iret hx hb hr hlocks h hP hS dX4_worth_91
  replace h := h.2 c7
  refine lv_tableOut (tgt := 92) hx hb dX4_worth_1 (by have := lv_neT c1 (a := 0) (by decide); have := lv_neT c2 (a := 1) (by decide); have := lv_neT c3 (a := 2) (by decide); have := lv_neT c5 (a := 3) (by decide); have := lv_neT c6 (a := 4) (by decide); have := lv_neT c7 (a := 5) (by decide); omega) (by decide) ?_
  refine lv_iconst (v := 0) hx hb dX4_worth_92 (by decide) ?_
  exact g_iret hx hb hr hlocks h hP hS dX4_worth_93
set_option maxRecDepth 100000 in
set_option maxHeartbeats 4000000 in
theorem c_X4_worth (l : Launch) {dC : Nat → ClassId} {dI : Nat → Nat → Nat} {cA : Nat → ClassId} {adK adV P : Nat → Nat} (hI : PInj 56 P) {v0 : Int32} {v1 : Int32} {v2 : Int32} {v3 : Int32}  {post : Int32 → St → Prop} {S : St} (h : w_X4_worth v0 v1 v2 v3 post S) : Met l yX4_worth (wW yX4_worth cX4_worth 4 (some .int)) ({ frames := 1, cells := 0, slots := 0, locals := 23 } : Room) (va_Pc [.int v0, .int v1, .int v2, .int v3] (PreX dC dI cA adK adV P S)) (va_Qi post (fun u t => VX dC dI cA P u t.heap) (PA 56 P)) 0 0 (PA 56 P) := by
  refine Met.ofW (cc := cX4_worth) (maxL := 4) (ret := (some .int)) (by decide) rfl ?_
  intro p e s m args below meth c s₁ B hml hv
  obtain ⟨rfl, hP, hKX⟩ := hv
  have hts : ∀ w ∈ G, w.before [.int v0, .int v1, .int v2, .int v3].toArray s = true := fun w hw => atoms_spec (ws := wW yX4_worth cX4_worth 4 (some .int)) B.pre w (List.mem_cons_of_mem _ hw)
  have C : CtxX dC dI cA adK adV P p s m [.int v0, .int v1, .int v2, .int v3].toArray meth c cX4_worth 4 (some .int) RX4 := ⟨hI, hKX, ⟨B.exec, B.bytes, hml, findClass_of_methodNamed B.named, hts⟩, B.returns, B.notSynchronized⟩
  have hS : va_S (PA 56 P) s.heap s.heap [] := va_S.rf
  have hl := lv_entry ([.int v0, .int v1, .int v2, .int v3]) (n := 4) (Nat.le_of_ble_eq_true rfl)
  rw [lg_entry_eq]
  generalize (lg_sl ([.int v0, .int v1, .int v2, .int v3]) ++ List.replicate (4 - (lg_sl ([.int v0, .int v1, .int v2, .int v3])).length) Slot.unset).toArray = ls at hl ⊢
  have hl : lv_has ls 4 [(0, .int v0), (1, .int v1), (2, .int v2), (3, .int v3)] := hl
  exact e_X4_worth C _ _ _ _ _ _ _ _ h  hP hS hl
set_option maxRecDepth 100000 in
set_option maxHeartbeats 4000000 in
theorem b_X4_worthTogether_5 {p : Program} {l : Launch} {e : Env} {s : State} {m : MethodId} {args : Array Value} {below : List Frame} {meth : Method} {c : Code} {dC : Nat → ClassId} {dI : Nat → Nat → Nat} {cA : Nat → ClassId} {adK adV P : Nat → Nat} (C : CtxX dC dI cA adK adV P p s m args meth c cX4_worthTogether 6 (some .long) RX4) {post : Int64 → St → Prop}  : ∀ (n : Nat) (v1 : Int32) (v2 : Int32) (v3 : Int64) (v5 : Int32) (S : St) (H : Heap) (locs : List Loc) (ls : Array Slot), w_X4_worthTogether_5 post n v1 v2 v3 v5 S → VX dC dI cA P S H → va_S (PA 56 P) s.heap H locs → lv_has ls 6 [(0, .ref (P 52)), (1, .int v1), (2, .int v2), (3, .long v3), (5, .int v5)] → W p l e ({ frames := 2, cells := 0, slots := 0, locals := 46 } : Room) s m args below meth c H locs 0 0 (MQ below (va_Ql post (fun u t => VX dC dI cA P u t.heap) (PA 56 P)) args s 0 0 (PA 56 P)) (F0 m 5 ls []) := by
  have C := C
  obtain ⟨hI, hKX, ⟨hx, hb, hml, hown, hts⟩, hr, hlocks⟩ := id C
  have hK := hKX.1
  intro n
  induction n with
  | zero =>
    intro v1 v2 v3 v5 S H locs ls h hP hS hl
    simp only [w_X4_worthTogether_5] at h
  | succ n ih =>
    intro v1 v2 v3 v5 S H locs ls h hP hS hl
    rw [w_X4_worthTogether_5] at h
    refine lv_iload hx hb dX4_worthTogether_5 (lv_at hl 4 rfl) ?_
    refine lv_aload_n hx hb dX4_worthTogether_7 rfl (lv_at hl 0 rfl) ?_
    refine g_get (v := .int (S.1 52 1)) hx hb hts inG_X4 hown hK hP (kX_lt (rfl : kdX 52 = 4)) (eX4 (rfl : kdX 52 = 4)) rfl 1 (by decide) G_fl_X4_15 rfl rfl dX4_worthTogether_8 ?_
    refine lv_icmp_ge (tgt := 40) hx hb dX4_worthTogether_11 (by decide) (fun c1 => ?_) (fun c1 => ?_)
    · replace h := h.1 c1
      refine lv_lload_n hx hb dX4_worthTogether_40 rfl (lv_at hl 3 rfl) ?_
      exact g_lret hx hb hr hlocks h hP hS dX4_worthTogether_41
    · replace h := h.2 c1
      refine lv_lload_n hx hb dX4_worthTogether_14 rfl (lv_at hl 3 rfl) ?_
      refine lv_iload_n hx hb dX4_worthTogether_15 rfl (lv_at hl 1 rfl) ?_
      refine lv_iload hx hb dX4_worthTogether_16 (lv_at hl 4 rfl) ?_
      refine lv_aload_n hx hb dX4_worthTogether_18 rfl (lv_at hl 0 rfl) ?_
      refine g_get (v := .ref (P 53)) hx hb hts inG_X4 hown hK hP (kX_lt (rfl : kdX 52 = 4)) (eX4 (rfl : kdX 52 = 4)) rfl 0 (by decide) G_fl_X4_9 rfl rfl dX4_worthTogether_19 ?_
      refine lv_iload hx hb dX4_worthTogether_22 (lv_at hl 4 rfl) ?_
      refine va_calli (va_runSN (As := [.ref _, .int _]) (rest := [.int _, .int _, .long _]) ⟨hx, hb, hml, hown, hts⟩ (c_X8_valueAt l hI (rfl : kdX 53 = 10) h) ⟨va_cnB 2 hts (good_W G_cd_X8_valueAt) rfl rfl rfl (kx_n6 hKX) (hts _ G_in_X8) hd_X8_valueAt ⟨Nat.le_of_ble_eq_true rfl, Nat.le_of_ble_eq_true rfl⟩, hts _ G_st_X8_valueAt, trivial⟩ (preS_X hKX hP hS) rfl rfl hl.1 rfl (lv_room (Nat.le_of_ble_eq_true rfl)) dX4_worthTogether_24 ⟨Nat.le_of_ble_eq_true rfl, Nat.le_of_ble_eq_true rfl⟩) hS (fun _ _ h => h) (fun _ h => h) (fun r3 S2 t H locs ht _ h hB _ _ hS => ?_)
      have hP : VX dC dI cA P S2 H := by rw [← ht]; exact hB
      refine lv_iload_n hx hb dX4_worthTogether_27 rfl (lv_at hl 2 rfl) ?_
      refine va_calli (va_runS (As := [.int _, .int _, .int _, .int _]) (rest := [.long _]) ⟨hx, hb, hml, hown, hts⟩ (c_X4_worth l hI h) (va_cwS 4 hts gs_X4_48 rfl rfl rfl hd_X4_worth ⟨Nat.le_of_ble_eq_true rfl, Nat.le_of_ble_eq_true rfl⟩) (preS_X hKX hP hS) rfl rfl hl.1 rfl (lv_room (Nat.le_of_ble_eq_true rfl)) dX4_worthTogether_28 ⟨Nat.le_of_ble_eq_true rfl, Nat.le_of_ble_eq_true rfl⟩) hS (fun _ _ h => h) (fun _ h => h) (fun r5 S4 t H locs ht _ h hB _ _ hS => ?_)
      have hP : VX dC dI cA P S4 H := by rw [← ht]; exact hB
      refine lv_i2l hx hb dX4_worthTogether_31 rfl ?_
      refine lv_ladd hx hb dX4_worthTogether_32 ?_
      refine lv_topl (fun x6 ex6 => ?_)
      replace h := h x6 ex6
      refine lv_lstore_n (lv' := [(3, .long x6), (0, .ref (P 52)), (1, .int v1), (2, .int v2), (5, .int v5)]) hx hb dX4_worthTogether_33 rfl hl (by decide) rfl (fun ls hl => ?_)
      obtain ⟨x7, ex7⟩ : ∃ y : Int32, y = v5 + 1 := ⟨_, rfl⟩
      replace h := h x7 ex7
      refine lv_iinc (v := x7) (lv' := [(5, .int x7), (3, .long x6), (0, .ref (P 52)), (1, .int v1), (2, .int v2)]) hx hb dX4_worthTogether_34 hl (k := 4) rfl (by rw [ex7]; rfl) (by decide) rfl (fun ls hl => ?_)
      refine lv_goto (tgt := 5) hx hb dX4_worthTogether_37 (by decide) ?_
      exact ih _ _ _ _ _ _ _ _ h  hP hS (lv_sub hl [2, 3, 4, 1, 0] rfl)
set_option maxRecDepth 100000 in
set_option maxHeartbeats 4000000 in
theorem e_X4_worthTogether {p : Program} {l : Launch} {e : Env} {s : State} {m : MethodId} {args : Array Value} {below : List Frame} {meth : Method} {c : Code} {dC : Nat → ClassId} {dI : Nat → Nat → Nat} {cA : Nat → ClassId} {adK adV P : Nat → Nat} (C : CtxX dC dI cA adK adV P p s m args meth c cX4_worthTogether 6 (some .long) RX4) {post : Int64 → St → Prop} : ∀ (v1 : Int32) (v2 : Int32) (S : St) (H : Heap) (locs : List Loc) (ls : Array Slot), w_X4_worthTogether v1 v2 post S → VX dC dI cA P S H → va_S (PA 56 P) s.heap H locs → lv_has ls 6 [(0, .ref (P 52)), (1, .int v1), (2, .int v2)] → W p l e ({ frames := 2, cells := 0, slots := 0, locals := 46 } : Room) s m args below meth c H locs 0 0 (MQ below (va_Ql post (fun u t => VX dC dI cA P u t.heap) (PA 56 P)) args s 0 0 (PA 56 P)) (F0 m 0 ls []) := by
  have C := C
  obtain ⟨hI, hKX, ⟨hx, hb, hml, hown, hts⟩, hr, hlocks⟩ := id C
  have hK := hKX.1
  intro v1 v2 S H locs ls h hP hS hl
  rw [w_X4_worthTogether] at h
  refine lv_lconst (v := 0) hx hb dX4_worthTogether_0 (by decide) ?_
  refine lv_lstore_n (lv' := [(3, .long 0), (0, .ref (P 52)), (1, .int v1), (2, .int v2)]) hx hb dX4_worthTogether_1 rfl hl (by decide) rfl (fun ls hl => ?_)
  refine lv_iconst (v := 0) hx hb dX4_worthTogether_2 (by decide) ?_
  refine lv_istore (lv' := [(5, .int 0), (3, .long 0), (0, .ref (P 52)), (1, .int v1), (2, .int v2)]) hx hb dX4_worthTogether_3 hl (by decide) rfl (fun ls hl => ?_)
  obtain ⟨n8, h⟩ := h
  exact b_X4_worthTogether_5 C n8 _ _ _ _ _ _ _ _ h  hP hS (lv_sub hl [2, 3, 4, 1, 0] rfl)
set_option maxRecDepth 100000 in
set_option maxHeartbeats 4000000 in
theorem c_X4_worthTogether (l : Launch) {dC : Nat → ClassId} {dI : Nat → Nat → Nat} {cA : Nat → ClassId} {adK adV P : Nat → Nat} (hI : PInj 56 P) {v1 : Int32} {v2 : Int32}  {post : Int64 → St → Prop} {S : St} (h : w_X4_worthTogether v1 v2 post S) : Met l yX4_worthTogether (wW yX4_worthTogether cX4_worthTogether 6 (some .long)) ({ frames := 2, cells := 0, slots := 0, locals := 46 } : Room) (va_Pc [.ref (P 52), .int v1, .int v2] (PreX dC dI cA adK adV P S)) (va_Ql post (fun u t => VX dC dI cA P u t.heap) (PA 56 P)) 0 0 (PA 56 P) := by
  refine Met.ofW (cc := cX4_worthTogether) (maxL := 6) (ret := (some .long)) (by decide) rfl ?_
  intro p e s m args below meth c s₁ B hml hv
  obtain ⟨rfl, hP, hKX⟩ := hv
  have hts : ∀ w ∈ G, w.before [.ref (P 52), .int v1, .int v2].toArray s = true := fun w hw => atoms_spec (ws := wW yX4_worthTogether cX4_worthTogether 6 (some .long)) B.pre w (List.mem_cons_of_mem _ hw)
  have C : CtxX dC dI cA adK adV P p s m [.ref (P 52), .int v1, .int v2].toArray meth c cX4_worthTogether 6 (some .long) RX4 := ⟨hI, hKX, ⟨B.exec, B.bytes, hml, findClass_of_methodNamed B.named, hts⟩, B.returns, B.notSynchronized⟩
  have hS : va_S (PA 56 P) s.heap s.heap [] := va_S.rf
  have hl := lv_entry ([.ref (P 52), .int v1, .int v2]) (n := 6) (Nat.le_of_ble_eq_true rfl)
  rw [lg_entry_eq]
  generalize (lg_sl ([.ref (P 52), .int v1, .int v2]) ++ List.replicate (6 - (lg_sl ([.ref (P 52), .int v1, .int v2])).length) Slot.unset).toArray = ls at hl ⊢
  have hl : lv_has ls 6 [(0, .ref (P 52)), (1, .int v1), (2, .int v2)] := hl
  exact e_X4_worthTogether C _ _ _ _ _ _ h  hP hS hl
set_option maxRecDepth 100000 in
set_option maxHeartbeats 4000000 in
theorem e_X5_word {p : Program} {l : Launch} {e : Env} {s : State} {m : MethodId} {args : Array Value} {below : List Frame} {meth : Method} {c : Code} {dC : Nat → ClassId} {dI : Nat → Nat → Nat} {cA : Nat → ClassId} {adK adV P : Nat → Nat} (C : CtxX dC dI cA adK adV P p s m args meth c cX5_word 2 (some .int) RX5) {post : Int32 → St → Prop} : ∀ (v1 : Int32) (S : St) (H : Heap) (locs : List Loc) (ls : Array Slot), w_X5_word v1 post S → VX dC dI cA P S H → va_S (PA 56 P) s.heap H locs → lv_has ls 2 [(0, .ref (P 30)), (1, .int v1)] → W p l e ({ frames := 1, cells := 0, slots := 0, locals := 21 } : Room) s m args below meth c H locs 0 0 (MQ below (va_Qi post (fun u t => VX dC dI cA P u t.heap) (PA 56 P)) args s 0 0 (PA 56 P)) (F0 m 0 ls []) := by
  have C := C
  obtain ⟨hI, hKX, ⟨hx, hb, hml, hown, hts⟩, hr, hlocks⟩ := id C
  have hK := hKX.1
  intro v1 S H locs ls h hP hS hl
  rw [w_X5_word] at h
  refine lv_aload_n hx hb dX5_word_0 rfl (lv_at hl 0 rfl) ?_
  refine g_get (v := .ref (P 31)) hx hb hts inG_X5 hown hK hP (kX_lt (rfl : kdX 30 = 5)) (eX5 (rfl : kdX 30 = 5)) rfl 0 (by decide) G_fl_X5_11 rfl rfl dX5_word_1 ?_
  refine lv_iload_n hx hb dX5_word_4 rfl (lv_at hl 1 rfl) ?_
  refine va_calli (va_runSN (As := [.ref _, .int _]) (rest := []) ⟨hx, hb, hml, hown, hts⟩ (c_X8_valueAt l hI (rfl : kdX 31 = 10) h) ⟨va_cnB 2 hts (good_W G_cd_X8_valueAt) rfl rfl rfl (kx_n17 hKX) (hts _ G_in_X8) hd_X8_valueAt ⟨Nat.le_of_ble_eq_true rfl, Nat.le_of_ble_eq_true rfl⟩, hts _ G_st_X8_valueAt, trivial⟩ (preS_X hKX hP hS) rfl rfl hl.1 rfl (lv_room (Nat.le_of_ble_eq_true rfl)) dX5_word_5 ⟨Nat.le_of_ble_eq_true rfl, Nat.le_of_ble_eq_true rfl⟩) hS (fun _ _ h => h) (fun _ h => h) (fun r2 S1 t H locs ht _ h hB _ _ hS => ?_)
  have hP : VX dC dI cA P S1 H := by rw [← ht]; exact hB
  exact g_iret hx hb hr hlocks h hP hS dX5_word_8
set_option maxRecDepth 100000 in
set_option maxHeartbeats 4000000 in
theorem c_X5_word (l : Launch) {dC : Nat → ClassId} {dI : Nat → Nat → Nat} {cA : Nat → ClassId} {adK adV P : Nat → Nat} (hI : PInj 56 P) {v1 : Int32}  {post : Int32 → St → Prop} {S : St} (h : w_X5_word v1 post S) : Met l yX5_word (wW yX5_word cX5_word 2 (some .int)) ({ frames := 1, cells := 0, slots := 0, locals := 21 } : Room) (va_Pc [.ref (P 30), .int v1] (PreX dC dI cA adK adV P S)) (va_Qi post (fun u t => VX dC dI cA P u t.heap) (PA 56 P)) 0 0 (PA 56 P) := by
  refine Met.ofW (cc := cX5_word) (maxL := 2) (ret := (some .int)) (by decide) rfl ?_
  intro p e s m args below meth c s₁ B hml hv
  obtain ⟨rfl, hP, hKX⟩ := hv
  have hts : ∀ w ∈ G, w.before [.ref (P 30), .int v1].toArray s = true := fun w hw => atoms_spec (ws := wW yX5_word cX5_word 2 (some .int)) B.pre w (List.mem_cons_of_mem _ hw)
  have C : CtxX dC dI cA adK adV P p s m [.ref (P 30), .int v1].toArray meth c cX5_word 2 (some .int) RX5 := ⟨hI, hKX, ⟨B.exec, B.bytes, hml, findClass_of_methodNamed B.named, hts⟩, B.returns, B.notSynchronized⟩
  have hS : va_S (PA 56 P) s.heap s.heap [] := va_S.rf
  have hl := lv_entry ([.ref (P 30), .int v1]) (n := 2) (Nat.le_of_ble_eq_true rfl)
  rw [lg_entry_eq]
  generalize (lg_sl ([.ref (P 30), .int v1]) ++ List.replicate (2 - (lg_sl ([.ref (P 30), .int v1])).length) Slot.unset).toArray = ls at hl ⊢
  have hl : lv_has ls 2 [(0, .ref (P 30)), (1, .int v1)] := hl
  exact e_X5_word C _ _ _ _ _ h  hP hS hl
set_option maxRecDepth 100000 in
set_option maxHeartbeats 4000000 in
theorem e_X5_number {p : Program} {l : Launch} {e : Env} {s : State} {m : MethodId} {args : Array Value} {below : List Frame} {meth : Method} {c : Code} {dC : Nat → ClassId} {dI : Nat → Nat → Nat} {cA : Nat → ClassId} {adK adV P : Nat → Nat} (C : CtxX dC dI cA adK adV P p s m args meth c cX5_number 3 (some .int) RX5) {post : Int32 → St → Prop} : ∀ (v1 : Int32) (v2 : Int32) (S : St) (H : Heap) (locs : List Loc) (ls : Array Slot), w_X5_number v1 v2 post S → VX dC dI cA P S H → va_S (PA 56 P) s.heap H locs → lv_has ls 3 [(0, .ref (P 30)), (1, .int v1), (2, .int v2)] → W p l e ({ frames := 1, cells := 0, slots := 0, locals := 21 } : Room) s m args below meth c H locs 0 0 (MQ below (va_Qi post (fun u t => VX dC dI cA P u t.heap) (PA 56 P)) args s 0 0 (PA 56 P)) (F0 m 0 ls []) := by
  have C := C
  obtain ⟨hI, hKX, ⟨hx, hb, hml, hown, hts⟩, hr, hlocks⟩ := id C
  have hK := hKX.1
  intro v1 v2 S H locs ls h hP hS hl
  rw [w_X5_number] at h
  refine lv_aload_n hx hb dX5_number_0 rfl (lv_at hl 0 rfl) ?_
  refine g_get (v := .ref (P 32)) hx hb hts inG_X5 hown hK hP (kX_lt (rfl : kdX 30 = 5)) (eX5 (rfl : kdX 30 = 5)) rfl 1 (by decide) G_fl_X5_15 rfl rfl dX5_number_1 ?_
  refine lv_iload_n hx hb dX5_number_4 rfl (lv_at hl 1 rfl) ?_
  refine lv_iconst (v := 3) hx hb dX5_number_5 (by decide) ?_
  refine lv_imul hx hb dX5_number_6 ?_
  refine lv_iload_n hx hb dX5_number_7 rfl (lv_at hl 2 rfl) ?_
  refine lv_iadd hx hb dX5_number_8 ?_
  replace h := h _ rfl
  refine va_calli (va_runSN (As := [.ref _, .int _]) (rest := []) ⟨hx, hb, hml, hown, hts⟩ (c_X8_valueAt l hI (rfl : kdX 32 = 10) h) ⟨va_cnB 2 hts (good_W G_cd_X8_valueAt) rfl rfl rfl (kx_n17 hKX) (hts _ G_in_X8) hd_X8_valueAt ⟨Nat.le_of_ble_eq_true rfl, Nat.le_of_ble_eq_true rfl⟩, hts _ G_st_X8_valueAt, trivial⟩ (preS_X hKX hP hS) rfl rfl hl.1 rfl (lv_room (Nat.le_of_ble_eq_true rfl)) dX5_number_9 ⟨Nat.le_of_ble_eq_true rfl, Nat.le_of_ble_eq_true rfl⟩) hS (fun _ _ h => h) (fun _ h => h) (fun r3 S2 t H locs ht _ h hB _ _ hS => ?_)
  have hP : VX dC dI cA P S2 H := by rw [← ht]; exact hB
  exact g_iret hx hb hr hlocks h hP hS dX5_number_12
set_option maxRecDepth 100000 in
set_option maxHeartbeats 4000000 in
theorem c_X5_number (l : Launch) {dC : Nat → ClassId} {dI : Nat → Nat → Nat} {cA : Nat → ClassId} {adK adV P : Nat → Nat} (hI : PInj 56 P) {v1 : Int32} {v2 : Int32}  {post : Int32 → St → Prop} {S : St} (h : w_X5_number v1 v2 post S) : Met l yX5_number (wW yX5_number cX5_number 3 (some .int)) ({ frames := 1, cells := 0, slots := 0, locals := 21 } : Room) (va_Pc [.ref (P 30), .int v1, .int v2] (PreX dC dI cA adK adV P S)) (va_Qi post (fun u t => VX dC dI cA P u t.heap) (PA 56 P)) 0 0 (PA 56 P) := by
  refine Met.ofW (cc := cX5_number) (maxL := 3) (ret := (some .int)) (by decide) rfl ?_
  intro p e s m args below meth c s₁ B hml hv
  obtain ⟨rfl, hP, hKX⟩ := hv
  have hts : ∀ w ∈ G, w.before [.ref (P 30), .int v1, .int v2].toArray s = true := fun w hw => atoms_spec (ws := wW yX5_number cX5_number 3 (some .int)) B.pre w (List.mem_cons_of_mem _ hw)
  have C : CtxX dC dI cA adK adV P p s m [.ref (P 30), .int v1, .int v2].toArray meth c cX5_number 3 (some .int) RX5 := ⟨hI, hKX, ⟨B.exec, B.bytes, hml, findClass_of_methodNamed B.named, hts⟩, B.returns, B.notSynchronized⟩
  have hS : va_S (PA 56 P) s.heap s.heap [] := va_S.rf
  have hl := lv_entry ([.ref (P 30), .int v1, .int v2]) (n := 3) (Nat.le_of_ble_eq_true rfl)
  rw [lg_entry_eq]
  generalize (lg_sl ([.ref (P 30), .int v1, .int v2]) ++ List.replicate (3 - (lg_sl ([.ref (P 30), .int v1, .int v2])).length) Slot.unset).toArray = ls at hl ⊢
  have hl : lv_has ls 3 [(0, .ref (P 30)), (1, .int v1), (2, .int v2)] := hl
  exact e_X5_number C _ _ _ _ _ _ h  hP hS hl
set_option maxRecDepth 100000 in
set_option maxHeartbeats 4000000 in
theorem b_X7_takeLetters_0 {p : Program} {l : Launch} {e : Env} {s : State} {m : MethodId} {args : Array Value} {below : List Frame} {meth : Method} {c : Code} {dC : Nat → ClassId} {dI : Nat → Nat → Nat} {cA : Nat → ClassId} {adK adV P : Nat → Nat} (C : CtxX dC dI cA adK adV P p s m args meth c cX7_takeLetters 1 none RX7) {post : St → Prop}  : ∀ (n : Nat)  (S : St) (H : Heap) (locs : List Loc) (ls : Array Slot), w_X7_takeLetters_0 post n  S → VX dC dI cA P S H → va_S (PA 56 P) s.heap H locs → lv_has ls 1 [(0, .ref (P 27))] → W p l e ({ frames := 2, cells := 0, slots := 0, locals := 42 } : Room) s m args below meth c H locs 0 0 (MQ below (va_Qv post (fun u t => VX dC dI cA P u t.heap) (PA 56 P)) args s 0 0 (PA 56 P)) (F0 m 0 ls []) := by
  have C := C
  obtain ⟨hI, hKX, ⟨hx, hb, hml, hown, hts⟩, hr, hlocks⟩ := id C
  have hK := hKX.1
  intro n
  induction n with
  | zero =>
    intro S H locs ls h hP hS hl
    simp only [w_X7_takeLetters_0] at h
  | succ n ih =>
    intro S H locs ls h hP hS hl
    rw [w_X7_takeLetters_0] at h
    refine lv_aload_n hx hb dX7_takeLetters_0 rfl (lv_at hl 0 rfl) ?_
    refine g_get (v := .int (S.1 27 2)) hx hb hts inG_X7 hown hK hP (kX_lt (rfl : kdX 27 = 7)) (eX7 (rfl : kdX 27 = 7)) rfl 2 (by decide) G_fl_X7_19 rfl rfl dX7_takeLetters_1 ?_
    refine lv_aload_n hx hb dX7_takeLetters_4 rfl (lv_at hl 0 rfl) ?_
    refine g_get (v := .int (S.1 27 1)) hx hb hts inG_X7 hown hK hP (kX_lt (rfl : kdX 27 = 7)) (eX7 (rfl : kdX 27 = 7)) rfl 1 (by decide) G_fl_X7_15 rfl rfl dX7_takeLetters_5 ?_
    refine lv_icmp_ge (tgt := 42) hx hb dX7_takeLetters_8 (by decide) (fun c1 => ?_) (fun c1 => ?_)
    · replace h := h.1 c1
      exact g_vret hx hb hr hlocks h hP hS dX7_takeLetters_42
    · replace h := h.2 c1
      refine lv_aload_n hx hb dX7_takeLetters_11 rfl (lv_at hl 0 rfl) ?_
      refine lv_aload_n hx hb dX7_takeLetters_12 rfl (lv_at hl 0 rfl) ?_
      refine g_get (v := .int (S.1 27 2)) hx hb hts inG_X7 hown hK hP (kX_lt (rfl : kdX 27 = 7)) (eX7 (rfl : kdX 27 = 7)) rfl 2 (by decide) G_fl_X7_19 rfl rfl dX7_takeLetters_13 ?_
      replace h := h _ rfl
      refine va_calli (va_runV (As := [.int _]) (rest := []) ⟨hx, hb, hml, hown, hts⟩ (c_X7_byteAt l hI h) (cwV 1 hts gv_X7_39 rfl rfl rfl hv_X7_byteAt ⟨Nat.le_of_ble_eq_true rfl, Nat.le_of_ble_eq_true rfl⟩) (preV_X hKX hP hS (kX_lt (rfl : kdX 27 = 7)) (eX7 (rfl : kdX 27 = 7)) rfl) rfl rfl hl.1 rfl (lv_room (Nat.le_of_ble_eq_true rfl)) dX7_takeLetters_16 ⟨Nat.le_of_ble_eq_true rfl, Nat.le_of_ble_eq_true rfl⟩) hS (fun _ _ h => h) (fun _ h => h) (fun r4 S3 t H locs ht _ h hB _ _ hS => ?_)
      have hP : VX dC dI cA P S3 H := by rw [← ht]; exact hB
      refine lv_bipush (v := 97) hx hb dX7_takeLetters_19 (by decide) ?_
      refine lv_bipush (v := 122) hx hb dX7_takeLetters_21 (by decide) ?_
      refine va_calli (va_runSN (As := [.int _, .int _, .int _]) (rest := []) ⟨hx, hb, hml, hown, hts⟩ (c_X8_isWithin l hI h) ⟨va_cnB 3 hts (good_W G_cd_X8_isWithin) rfl rfl rfl (kx_n14 hKX) (hts _ G_in_X8) hd_X8_isWithin ⟨Nat.le_of_ble_eq_true rfl, Nat.le_of_ble_eq_true rfl⟩, hts _ G_st_X8_isWithin, trivial⟩ (preS_X hKX hP hS) rfl rfl hl.1 rfl (lv_room (Nat.le_of_ble_eq_true rfl)) dX7_takeLetters_23 ⟨Nat.le_of_ble_eq_true rfl, Nat.le_of_ble_eq_true rfl⟩) hS (fun _ _ h => h) (fun _ h => h) (fun r6 S5 t H locs ht _ h hB _ _ hS => ?_)
      have hP : VX dC dI cA P S5 H := by rw [← ht]; exact hB
      refine lv_if_eq (tgt := 42) hx hb dX7_takeLetters_26 (by decide) (fun c7 => ?_) (fun c7 => ?_)
      · replace h := h.1 c7
        exact g_vret hx hb hr hlocks h hP hS dX7_takeLetters_42
      · replace h := h.2 c7
        refine lv_aload_n hx hb dX7_takeLetters_29 rfl (lv_at hl 0 rfl) ?_
        refine lv_dup hx hb dX7_takeLetters_30 rfl ?_
        refine g_get (v := .int (S5.1 27 2)) hx hb hts inG_X7 hown hK hP (kX_lt (rfl : kdX 27 = 7)) (eX7 (rfl : kdX 27 = 7)) rfl 2 (by decide) G_fl_X7_19 rfl rfl dX7_takeLetters_31 ?_
        refine lv_iconst (v := 1) hx hb dX7_takeLetters_34 (by decide) ?_
        refine lv_iadd hx hb dX7_takeLetters_35 ?_
        replace h := h _ rfl
        refine g_putI hx hb hts inG_X7 tyX7 tyX7_ok nmX7 hown hK hI hP hS (kX_lt (rfl : kdX 27 = 7)) (eX7 (rfl : kdX 27 = 7)) rfl 2 (by decide) G_fl_X7_19 rfl rfl (ty := .int) (by decide +kernel) rfl rfl (Nat.le_of_ble_eq_true rfl) rfl h dX7_takeLetters_36 (fun S9 H locs h hP hS => ?_)
        refine lv_goto (tgt := 0) hx hb dX7_takeLetters_39 (by decide) ?_
        exact ih  _ _ _ _ h  hP hS (lv_sub hl [0] rfl)
set_option maxRecDepth 100000 in
set_option maxHeartbeats 4000000 in
theorem e_X7_takeLetters {p : Program} {l : Launch} {e : Env} {s : State} {m : MethodId} {args : Array Value} {below : List Frame} {meth : Method} {c : Code} {dC : Nat → ClassId} {dI : Nat → Nat → Nat} {cA : Nat → ClassId} {adK adV P : Nat → Nat} (C : CtxX dC dI cA adK adV P p s m args meth c cX7_takeLetters 1 none RX7) {post : St → Prop} : ∀  (S : St) (H : Heap) (locs : List Loc) (ls : Array Slot), w_X7_takeLetters  post S → VX dC dI cA P S H → va_S (PA 56 P) s.heap H locs → lv_has ls 1 [(0, .ref (P 27))] → W p l e ({ frames := 2, cells := 0, slots := 0, locals := 42 } : Room) s m args below meth c H locs 0 0 (MQ below (va_Qv post (fun u t => VX dC dI cA P u t.heap) (PA 56 P)) args s 0 0 (PA 56 P)) (F0 m 0 ls []) := by
  have C := C
  obtain ⟨hI, hKX, ⟨hx, hb, hml, hown, hts⟩, hr, hlocks⟩ := id C
  have hK := hKX.1
  intro S H locs ls h hP hS hl
  rw [w_X7_takeLetters] at h
  obtain ⟨n10, h⟩ := h
  exact b_X7_takeLetters_0 C n10  _ _ _ _ h  hP hS (lv_sub hl [0] rfl)
set_option maxRecDepth 100000 in
set_option maxHeartbeats 4000000 in
theorem c_X7_takeLetters (l : Launch) {dC : Nat → ClassId} {dI : Nat → Nat → Nat} {cA : Nat → ClassId} {adK adV P : Nat → Nat} (hI : PInj 56 P)   {post : St → Prop} {S : St} (h : w_X7_takeLetters  post S) : Met l yX7_takeLetters (wW yX7_takeLetters cX7_takeLetters 1 none) ({ frames := 2, cells := 0, slots := 0, locals := 42 } : Room) (va_Pc [.ref (P 27)] (PreX dC dI cA adK adV P S)) (va_Qv post (fun u t => VX dC dI cA P u t.heap) (PA 56 P)) 0 0 (PA 56 P) := by
  refine Met.ofW (cc := cX7_takeLetters) (maxL := 1) (ret := none) (by decide) rfl ?_
  intro p e s m args below meth c s₁ B hml hv
  obtain ⟨rfl, hP, hKX⟩ := hv
  have hts : ∀ w ∈ G, w.before [.ref (P 27)].toArray s = true := fun w hw => atoms_spec (ws := wW yX7_takeLetters cX7_takeLetters 1 none) B.pre w (List.mem_cons_of_mem _ hw)
  have C : CtxX dC dI cA adK adV P p s m [.ref (P 27)].toArray meth c cX7_takeLetters 1 none RX7 := ⟨hI, hKX, ⟨B.exec, B.bytes, hml, findClass_of_methodNamed B.named, hts⟩, B.returns, B.notSynchronized⟩
  have hS : va_S (PA 56 P) s.heap s.heap [] := va_S.rf
  have hl := lv_entry ([.ref (P 27)]) (n := 1) (Nat.le_of_ble_eq_true rfl)
  rw [lg_entry_eq]
  generalize (lg_sl ([.ref (P 27)]) ++ List.replicate (1 - (lg_sl ([.ref (P 27)])).length) Slot.unset).toArray = ls at hl ⊢
  have hl : lv_has ls 1 [(0, .ref (P 27))] := hl
  exact e_X7_takeLetters C  _ _ _ _ h  hP hS hl
set_option maxRecDepth 100000 in
set_option maxHeartbeats 4000000 in
theorem e_X5_wordText {p : Program} {l : Launch} {e : Env} {s : State} {m : MethodId} {args : Array Value} {below : List Frame} {meth : Method} {c : Code} {dC : Nat → ClassId} {dI : Nat → Nat → Nat} {cA : Nat → ClassId} {adK adV P : Nat → Nat} (C : CtxX dC dI cA adK adV P p s m args meth c cX5_wordText 1 (some (.object "java/lang/String")) RX5) {post : Nat → St → Prop} : ∀ (v0 : Int32) (S : St) (H : Heap) (locs : List Loc) (ls : Array Slot), w_X5_wordText v0 post S → VX dC dI cA P S H → va_S (PA 56 P) s.heap H locs → lv_has ls 1 [(0, .int v0)] → W p l e ({ frames := 0, cells := 0, slots := 0, locals := 0 } : Room) s m args below meth c H locs 0 0 (MQ below (va_Qq (fun r u => ∃ i, r = some (adK i) ∧ i < 14 ∧ post i u) (fun u t => VX dC dI cA P u t.heap) (PA 56 P)) args s 0 0 (PA 56 P)) (F0 m 0 ls []) := by
  have C := C
  obtain ⟨hI, hKX, ⟨hx, hb, hml, hown, hts⟩, hr, hlocks⟩ := id C
  have hK := hKX.1
  intro v0 S H locs ls h hP hS hl
  rw [w_X5_wordText] at h
  refine lv_iload_n hx hb dX5_wordText_0 rfl (lv_at hl 0 rfl) ?_
  by_cases c1 : v0 = 0
  · replace h := h.1 c1
    refine lv_tableIn (off := 31) (tgt := 32) hx hb dX5_wordText_1 (by rw [c1]; decide) (by rw [c1]; decide) (by rw [c1]; decide) (by decide) ?_
    refine va_ldcS hx hb hown (kx_s9 hKX) dX5_wordText_32 ?_
    exact g_aret (v := some (adK 9)) hx hb hr hlocks ⟨9, rfl, (by decide : 9 < 14), h⟩ hP hS dX5_wordText_34
  replace h := h.2 c1
  by_cases c2 : v0 = 1
  · replace h := h.1 c2
    refine lv_tableIn (off := 34) (tgt := 35) hx hb dX5_wordText_1 (by rw [c2]; decide) (by rw [c2]; decide) (by rw [c2]; decide) (by decide) ?_
    refine va_ldcS hx hb hown (kx_s10 hKX) dX5_wordText_35 ?_
    exact g_aret (v := some (adK 10)) hx hb hr hlocks ⟨10, rfl, (by decide : 10 < 14), h⟩ hP hS dX5_wordText_37
  replace h := h.2 c2
  by_cases c3 : v0 = 2
  · replace h := h.1 c3
    refine lv_tableIn (off := 37) (tgt := 38) hx hb dX5_wordText_1 (by rw [c3]; decide) (by rw [c3]; decide) (by rw [c3]; decide) (by decide) ?_
    refine va_ldcS hx hb hown (kx_s11 hKX) dX5_wordText_38 ?_
    exact g_aret (v := some (adK 11)) hx hb hr hlocks ⟨11, rfl, (by decide : 11 < 14), h⟩ hP hS dX5_wordText_40
  replace h := h.2 c3
  by_cases c4 : v0 = 3
  · replace h := h.1 c4
    refine lv_tableIn (off := 40) (tgt := 41) hx hb dX5_wordText_1 (by rw [c4]; decide) (by rw [c4]; decide) (by rw [c4]; decide) (by decide) ?_
    refine va_ldcS hx hb hown (kx_s12 hKX) dX5_wordText_41 ?_
    exact g_aret (v := some (adK 12)) hx hb hr hlocks ⟨12, rfl, (by decide : 12 < 14), h⟩ hP hS dX5_wordText_43
  replace h := h.2 c4
  refine lv_tableOut (tgt := 44) hx hb dX5_wordText_1 (by have := lv_neT c1 (a := 0) (by decide); have := lv_neT c2 (a := 1) (by decide); have := lv_neT c3 (a := 2) (by decide); have := lv_neT c4 (a := 3) (by decide); omega) (by decide) ?_
  refine va_ldcS hx hb hown (kx_s13 hKX) dX5_wordText_44 ?_
  exact g_aret (v := some (adK 13)) hx hb hr hlocks ⟨13, rfl, (by decide : 13 < 14), h⟩ hP hS dX5_wordText_46
set_option maxRecDepth 100000 in
set_option maxHeartbeats 4000000 in
theorem c_X5_wordText (l : Launch) {dC : Nat → ClassId} {dI : Nat → Nat → Nat} {cA : Nat → ClassId} {adK adV P : Nat → Nat} (hI : PInj 56 P) {v0 : Int32}  {post : Nat → St → Prop} {S : St} (h : w_X5_wordText v0 post S) : Met l yX5_wordText (wW yX5_wordText cX5_wordText 1 (some (.object "java/lang/String"))) ({ frames := 0, cells := 0, slots := 0, locals := 0 } : Room) (va_Pc [.int v0] (PreX dC dI cA adK adV P S)) (va_Qq (fun r u => ∃ i, r = some (adK i) ∧ i < 14 ∧ post i u) (fun u t => VX dC dI cA P u t.heap) (PA 56 P)) 0 0 (PA 56 P) := by
  refine Met.ofW (cc := cX5_wordText) (maxL := 1) (ret := (some (.object "java/lang/String"))) (by decide) rfl ?_
  intro p e s m args below meth c s₁ B hml hv
  obtain ⟨rfl, hP, hKX⟩ := hv
  have hts : ∀ w ∈ G, w.before [.int v0].toArray s = true := fun w hw => atoms_spec (ws := wW yX5_wordText cX5_wordText 1 (some (.object "java/lang/String"))) B.pre w (List.mem_cons_of_mem _ hw)
  have C : CtxX dC dI cA adK adV P p s m [.int v0].toArray meth c cX5_wordText 1 (some (.object "java/lang/String")) RX5 := ⟨hI, hKX, ⟨B.exec, B.bytes, hml, findClass_of_methodNamed B.named, hts⟩, B.returns, B.notSynchronized⟩
  have hS : va_S (PA 56 P) s.heap s.heap [] := va_S.rf
  have hl := lv_entry ([.int v0]) (n := 1) (Nat.le_of_ble_eq_true rfl)
  rw [lg_entry_eq]
  generalize (lg_sl ([.int v0]) ++ List.replicate (1 - (lg_sl ([.int v0])).length) Slot.unset).toArray = ls at hl ⊢
  have hl : lv_has ls 1 [(0, .int v0)] := hl
  exact e_X5_wordText C _ _ _ _ _ h  hP hS hl
set_option maxRecDepth 100000 in
set_option maxHeartbeats 4000000 in
theorem b_X5_wordBetween_2 {p : Program} {l : Launch} {e : Env} {s : State} {m : MethodId} {args : Array Value} {below : List Frame} {meth : Method} {c : Code} {dC : Nat → ClassId} {dI : Nat → Nat → Nat} {cA : Nat → ClassId} {adK adV P : Nat → Nat} (C : CtxX dC dI cA adK adV P p s m args meth c cX5_wordBetween 3 (some .int) RX5) {post : Int32 → St → Prop}  : ∀ (n : Nat) (v1 : Int32) (v2 : Int32) (S : St) (H : Heap) (locs : List Loc) (ls : Array Slot), w_X5_wordBetween_2 post n v1 v2 S → VX dC dI cA P S H → va_S (PA 56 P) s.heap H locs → lv_has ls 3 [(0, .ref (P 27)), (1, .int v1), (2, .int v2)] → W p l e ({ frames := 5, cells := 0, slots := 0, locals := 112 } : Room) s m args below meth c H locs 0 0 (MQ below (va_Qi post (fun u t => VX dC dI cA P u t.heap) (PA 56 P)) args s 0 0 (PA 56 P)) (F0 m 2 ls []) := by
  have C := C
  obtain ⟨hI, hKX, ⟨hx, hb, hml, hown, hts⟩, hr, hlocks⟩ := id C
  have hK := hKX.1
  intro n
  induction n with
  | zero =>
    intro v1 v2 S H locs ls h hP hS hl
    simp only [w_X5_wordBetween_2] at h
  | succ n ih =>
    intro v1 v2 S H locs ls h hP hS hl
    rw [w_X5_wordBetween_2] at h
    refine lv_iload_n hx hb dX5_wordBetween_2 rfl (lv_at hl 2 rfl) ?_
    refine lv_iconst (v := 5) hx hb dX5_wordBetween_3 (by decide) ?_
    refine lv_icmp_ge (tgt := 31) hx hb dX5_wordBetween_4 (by decide) (fun c1 => ?_) (fun c1 => ?_)
    · replace h := h.1 c1
      refine lv_iconst (v := (-1)) hx hb dX5_wordBetween_31 (by decide) ?_
      exact g_iret hx hb hr hlocks h hP hS dX5_wordBetween_32
    · replace h := h.2 c1
      refine lv_aload_n hx hb dX5_wordBetween_7 rfl (lv_at hl 0 rfl) ?_
      refine lv_iload_n hx hb dX5_wordBetween_8 rfl (lv_at hl 1 rfl) ?_
      refine lv_aload_n hx hb dX5_wordBetween_9 rfl (lv_at hl 0 rfl) ?_
      refine g_get (v := .int (S.1 27 2)) hx hb hts inG_X7 hown hK hP (kX_lt (rfl : kdX 27 = 7)) (eX7 (rfl : kdX 27 = 7)) rfl 2 (by decide) G_fl_X5_26 rfl rfl dX5_wordBetween_10 ?_
      refine lv_iload_n hx hb dX5_wordBetween_13 rfl (lv_at hl 2 rfl) ?_
      refine va_callq (va_runS (As := [.int _]) (rest := [.int _, .int _, .ref _]) ⟨hx, hb, hml, hown, hts⟩ (c_X5_wordText l hI h) (va_cwS 1 hts gs_X5_65 rfl rfl rfl hd_X5_wordText ⟨Nat.le_of_ble_eq_true rfl, Nat.le_of_ble_eq_true rfl⟩) (preS_X hKX hP hS) rfl rfl hl.1 rfl (lv_room (Nat.le_of_ble_eq_true rfl)) dX5_wordBetween_14 ⟨Nat.le_of_ble_eq_true rfl, Nat.le_of_ble_eq_true rfl⟩) hS (fun _ _ h => h) (fun _ h => h) (fun q S2 t H locs ht _ h hB _ _ hS => ?_)
      have hP : VX dC dI cA P S2 H := by rw [← ht]; exact hB
      obtain ⟨i3, rfl, hk4, h⟩ := h
      replace h := h _ rfl
      refine va_calli (va_runV (As := [.int _, .int _, .ref _]) (rest := []) ⟨hx, hb, hml, hown, hts⟩ (c_X7_bears l hI hk4 h) (cwV 3 hts gv_X5_69 rfl rfl rfl hv_X7_bears ⟨Nat.le_of_ble_eq_true rfl, Nat.le_of_ble_eq_true rfl⟩) (preV_X hKX hP hS (kX_lt (rfl : kdX 27 = 7)) (eX7 (rfl : kdX 27 = 7)) rfl) rfl rfl hl.1 rfl (lv_room (Nat.le_of_ble_eq_true rfl)) dX5_wordBetween_17 ⟨Nat.le_of_ble_eq_true rfl, Nat.le_of_ble_eq_true rfl⟩) hS (fun _ _ h => h) (fun _ h => h) (fun r7 S6 t H locs ht _ h hB _ _ hS => ?_)
      have hP : VX dC dI cA P S6 H := by rw [← ht]; exact hB
      refine lv_if_eq (tgt := 25) hx hb dX5_wordBetween_20 (by decide) (fun c8 => ?_) (fun c8 => ?_)
      · replace h := h.1 c8
        obtain ⟨x9, ex9⟩ : ∃ y : Int32, y = v2 + 1 := ⟨_, rfl⟩
        replace h := h x9 ex9
        refine lv_iinc (v := x9) (lv' := [(2, .int x9), (0, .ref (P 27)), (1, .int v1)]) hx hb dX5_wordBetween_25 hl (k := 2) rfl (by rw [ex9]; rfl) (by decide) rfl (fun ls hl => ?_)
        refine lv_goto (tgt := 2) hx hb dX5_wordBetween_28 (by decide) ?_
        exact ih _ _ _ _ _ _ h  hP hS (lv_sub hl [1, 2, 0] rfl)
      · replace h := h.2 c8
        refine lv_iload_n hx hb dX5_wordBetween_23 rfl (lv_at hl 2 rfl) ?_
        exact g_iret hx hb hr hlocks h hP hS dX5_wordBetween_24
set_option maxRecDepth 100000 in
set_option maxHeartbeats 4000000 in
theorem e_X5_wordBetween {p : Program} {l : Launch} {e : Env} {s : State} {m : MethodId} {args : Array Value} {below : List Frame} {meth : Method} {c : Code} {dC : Nat → ClassId} {dI : Nat → Nat → Nat} {cA : Nat → ClassId} {adK adV P : Nat → Nat} (C : CtxX dC dI cA adK adV P p s m args meth c cX5_wordBetween 3 (some .int) RX5) {post : Int32 → St → Prop} : ∀ (v1 : Int32) (S : St) (H : Heap) (locs : List Loc) (ls : Array Slot), w_X5_wordBetween v1 post S → VX dC dI cA P S H → va_S (PA 56 P) s.heap H locs → lv_has ls 3 [(0, .ref (P 27)), (1, .int v1)] → W p l e ({ frames := 5, cells := 0, slots := 0, locals := 112 } : Room) s m args below meth c H locs 0 0 (MQ below (va_Qi post (fun u t => VX dC dI cA P u t.heap) (PA 56 P)) args s 0 0 (PA 56 P)) (F0 m 0 ls []) := by
  have C := C
  obtain ⟨hI, hKX, ⟨hx, hb, hml, hown, hts⟩, hr, hlocks⟩ := id C
  have hK := hKX.1
  intro v1 S H locs ls h hP hS hl
  rw [w_X5_wordBetween] at h
  refine lv_iconst (v := 0) hx hb dX5_wordBetween_0 (by decide) ?_
  refine lv_istore_n (lv' := [(2, .int 0), (0, .ref (P 27)), (1, .int v1)]) hx hb dX5_wordBetween_1 rfl hl (by decide) rfl (fun ls hl => ?_)
  obtain ⟨n10, h⟩ := h
  exact b_X5_wordBetween_2 C n10 _ _ _ _ _ _ h  hP hS (lv_sub hl [1, 2, 0] rfl)
set_option maxRecDepth 100000 in
set_option maxHeartbeats 4000000 in
theorem c_X5_wordBetween (l : Launch) {dC : Nat → ClassId} {dI : Nat → Nat → Nat} {cA : Nat → ClassId} {adK adV P : Nat → Nat} (hI : PInj 56 P) {v1 : Int32}  {post : Int32 → St → Prop} {S : St} (h : w_X5_wordBetween v1 post S) : Met l yX5_wordBetween (wW yX5_wordBetween cX5_wordBetween 3 (some .int)) ({ frames := 5, cells := 0, slots := 0, locals := 112 } : Room) (va_Pc [.ref (P 27), .int v1] (PreX dC dI cA adK adV P S)) (va_Qi post (fun u t => VX dC dI cA P u t.heap) (PA 56 P)) 0 0 (PA 56 P) := by
  refine Met.ofW (cc := cX5_wordBetween) (maxL := 3) (ret := (some .int)) (by decide) rfl ?_
  intro p e s m args below meth c s₁ B hml hv
  obtain ⟨rfl, hP, hKX⟩ := hv
  have hts : ∀ w ∈ G, w.before [.ref (P 27), .int v1].toArray s = true := fun w hw => atoms_spec (ws := wW yX5_wordBetween cX5_wordBetween 3 (some .int)) B.pre w (List.mem_cons_of_mem _ hw)
  have C : CtxX dC dI cA adK adV P p s m [.ref (P 27), .int v1].toArray meth c cX5_wordBetween 3 (some .int) RX5 := ⟨hI, hKX, ⟨B.exec, B.bytes, hml, findClass_of_methodNamed B.named, hts⟩, B.returns, B.notSynchronized⟩
  have hS : va_S (PA 56 P) s.heap s.heap [] := va_S.rf
  have hl := lv_entry ([.ref (P 27), .int v1]) (n := 3) (Nat.le_of_ble_eq_true rfl)
  rw [lg_entry_eq]
  generalize (lg_sl ([.ref (P 27), .int v1]) ++ List.replicate (3 - (lg_sl ([.ref (P 27), .int v1])).length) Slot.unset).toArray = ls at hl ⊢
  have hl : lv_has ls 3 [(0, .ref (P 27)), (1, .int v1)] := hl
  exact e_X5_wordBetween C _ _ _ _ _ h  hP hS hl
set_option maxRecDepth 100000 in
set_option maxHeartbeats 4000000 in
theorem e_X5_numbersOf {p : Program} {l : Launch} {e : Env} {s : State} {m : MethodId} {args : Array Value} {below : List Frame} {meth : Method} {c : Code} {dC : Nat → ClassId} {dI : Nat → Nat → Nat} {cA : Nat → ClassId} {adK adV P : Nat → Nat} (C : CtxX dC dI cA adK adV P p s m args meth c cX5_numbersOf 1 (some .int) RX5) {post : Int32 → St → Prop} : ∀ (v0 : Int32) (S : St) (H : Heap) (locs : List Loc) (ls : Array Slot), w_X5_numbersOf v0 post S → VX dC dI cA P S H → va_S (PA 56 P) s.heap H locs → lv_has ls 1 [(0, .int v0)] → W p l e ({ frames := 0, cells := 0, slots := 0, locals := 0 } : Room) s m args below meth c H locs 0 0 (MQ below (va_Qi post (fun u t => VX dC dI cA P u t.heap) (PA 56 P)) args s 0 0 (PA 56 P)) (F0 m 0 ls []) := by
  have C := C
  obtain ⟨hI, hKX, ⟨hx, hb, hml, hown, hts⟩, hr, hlocks⟩ := id C
  have hK := hKX.1
  intro v0 S H locs ls h hP hS hl
  rw [w_X5_numbersOf] at h
  refine lv_iload_n hx hb dX5_numbersOf_0 rfl (lv_at hl 0 rfl) ?_
  by_cases c1 : v0 = 0
  · replace h := h.1 c1
    refine lv_tableIn (off := 31) (tgt := 32) hx hb dX5_numbersOf_1 (by rw [c1]; decide) (by rw [c1]; decide) (by rw [c1]; decide) (by decide) ?_
    refine lv_iconst (v := 3) hx hb dX5_numbersOf_32 (by decide) ?_
    exact g_iret hx hb hr hlocks h hP hS dX5_numbersOf_33
  replace h := h.2 c1
  by_cases c2 : v0 = 1
  · replace h := h.1 c2
    refine lv_tableIn (off := 35) (tgt := 36) hx hb dX5_numbersOf_1 (by rw [c2]; decide) (by rw [c2]; decide) (by rw [c2]; decide) (by decide) ?_
    refine lv_iconst (v := 1) hx hb dX5_numbersOf_36 (by decide) ?_
    exact g_iret hx hb hr hlocks h hP hS dX5_numbersOf_37
  replace h := h.2 c2
  by_cases c3 : v0 = 2
  · replace h := h.1 c3
    refine lv_tableIn (off := 33) (tgt := 34) hx hb dX5_numbersOf_1 (by rw [c3]; decide) (by rw [c3]; decide) (by rw [c3]; decide) (by decide) ?_
    refine lv_iconst (v := 2) hx hb dX5_numbersOf_34 (by decide) ?_
    exact g_iret hx hb hr hlocks h hP hS dX5_numbersOf_35
  replace h := h.2 c3
  by_cases c4 : v0 = 3
  · replace h := h.1 c4
    refine lv_tableIn (off := 33) (tgt := 34) hx hb dX5_numbersOf_1 (by rw [c4]; decide) (by rw [c4]; decide) (by rw [c4]; decide) (by decide) ?_
    refine lv_iconst (v := 2) hx hb dX5_numbersOf_34 (by decide) ?_
    exact g_iret hx hb hr hlocks h hP hS dX5_numbersOf_35
  replace h := h.2 c4
  refine lv_tableOut (tgt := 36) hx hb dX5_numbersOf_1 (by have := lv_neT c1 (a := 0) (by decide); have := lv_neT c2 (a := 1) (by decide); have := lv_neT c3 (a := 2) (by decide); have := lv_neT c4 (a := 3) (by decide); omega) (by decide) ?_
  refine lv_iconst (v := 1) hx hb dX5_numbersOf_36 (by decide) ?_
  exact g_iret hx hb hr hlocks h hP hS dX5_numbersOf_37
set_option maxRecDepth 100000 in
set_option maxHeartbeats 4000000 in
theorem c_X5_numbersOf (l : Launch) {dC : Nat → ClassId} {dI : Nat → Nat → Nat} {cA : Nat → ClassId} {adK adV P : Nat → Nat} (hI : PInj 56 P) {v0 : Int32}  {post : Int32 → St → Prop} {S : St} (h : w_X5_numbersOf v0 post S) : Met l yX5_numbersOf (wW yX5_numbersOf cX5_numbersOf 1 (some .int)) ({ frames := 0, cells := 0, slots := 0, locals := 0 } : Room) (va_Pc [.int v0] (PreX dC dI cA adK adV P S)) (va_Qi post (fun u t => VX dC dI cA P u t.heap) (PA 56 P)) 0 0 (PA 56 P) := by
  refine Met.ofW (cc := cX5_numbersOf) (maxL := 1) (ret := (some .int)) (by decide) rfl ?_
  intro p e s m args below meth c s₁ B hml hv
  obtain ⟨rfl, hP, hKX⟩ := hv
  have hts : ∀ w ∈ G, w.before [.int v0].toArray s = true := fun w hw => atoms_spec (ws := wW yX5_numbersOf cX5_numbersOf 1 (some .int)) B.pre w (List.mem_cons_of_mem _ hw)
  have C : CtxX dC dI cA adK adV P p s m [.int v0].toArray meth c cX5_numbersOf 1 (some .int) RX5 := ⟨hI, hKX, ⟨B.exec, B.bytes, hml, findClass_of_methodNamed B.named, hts⟩, B.returns, B.notSynchronized⟩
  have hS : va_S (PA 56 P) s.heap s.heap [] := va_S.rf
  have hl := lv_entry ([.int v0]) (n := 1) (Nat.le_of_ble_eq_true rfl)
  rw [lg_entry_eq]
  generalize (lg_sl ([.int v0]) ++ List.replicate (1 - (lg_sl ([.int v0])).length) Slot.unset).toArray = ls at hl ⊢
  have hl : lv_has ls 1 [(0, .int v0)] := hl
  exact e_X5_numbersOf C _ _ _ _ _ h  hP hS hl
set_option maxRecDepth 100000 in
set_option maxHeartbeats 4000000 in
theorem b_X5_parseCommand_37 {p : Program} {l : Launch} {e : Env} {s : State} {m : MethodId} {args : Array Value} {below : List Frame} {meth : Method} {c : Code} {dC : Nat → ClassId} {dI : Nat → Nat → Nat} {cA : Nat → ClassId} {adK adV P : Nat → Nat} (C : CtxX dC dI cA adK adV P p s m args meth c cX5_parseCommand 5 (some .int) RX5) {post : Int32 → St → Prop}  : ∀ (n : Nat) (v3 : Int32) (v4 : Int32) (S : St) (H : Heap) (locs : List Loc) (ls : Array Slot), w_X5_parseCommand_37 post n v3 v4 S → VX dC dI cA P S H → va_S (PA 56 P) s.heap H locs → lv_has ls 5 [(0, .ref (P 30)), (1, .ref (P 27)), (3, .int v3), (4, .int v4)] → W p l e ({ frames := 6, cells := 0, slots := 0, locals := 134 } : Room) s m args below meth c H locs 0 0 (MQ below (va_Qi post (fun u t => VX dC dI cA P u t.heap) (PA 56 P)) args s 0 0 (PA 56 P)) (F0 m 37 ls []) := by
  have C := C
  obtain ⟨hI, hKX, ⟨hx, hb, hml, hown, hts⟩, hr, hlocks⟩ := id C
  have hK := hKX.1
  intro n
  induction n with
  | zero =>
    intro v3 v4 S H locs ls h hP hS hl
    simp only [w_X5_parseCommand_37] at h
  | succ n ih =>
    intro v3 v4 S H locs ls h hP hS hl
    rw [w_X5_parseCommand_37] at h
    refine lv_iload hx hb dX5_parseCommand_37 (lv_at hl 3 rfl) ?_
    refine lv_iload_n hx hb dX5_parseCommand_39 rfl (lv_at hl 2 rfl) ?_
    refine va_calli (va_runS (As := [.int _]) (rest := [.int _]) ⟨hx, hb, hml, hown, hts⟩ (c_X5_numbersOf l hI h) (va_cwS 1 hts gs_X5_54 rfl rfl rfl hd_X5_numbersOf ⟨Nat.le_of_ble_eq_true rfl, Nat.le_of_ble_eq_true rfl⟩) (preS_X hKX hP hS) rfl rfl hl.1 rfl (lv_room (Nat.le_of_ble_eq_true rfl)) dX5_parseCommand_40 ⟨Nat.le_of_ble_eq_true rfl, Nat.le_of_ble_eq_true rfl⟩) hS (fun _ _ h => h) (fun _ h => h) (fun r9 S8 t H locs ht _ h hB _ _ hS => ?_)
    have hP : VX dC dI cA P S8 H := by rw [← ht]; exact hB
    refine lv_icmp_ge (tgt := 101) hx hb dX5_parseCommand_43 (by decide) (fun c10 => ?_) (fun c10 => ?_)
    · replace h := h.1 c10
      refine lv_iconst (v := (-1)) hx hb dX5_parseCommand_101 (by decide) ?_
      exact g_iret hx hb hr hlocks h hP hS dX5_parseCommand_102
    · replace h := h.2 c10
      refine lv_aload_n hx hb dX5_parseCommand_46 rfl (lv_at hl 1 rfl) ?_
      refine lv_lconst (v := 0) hx hb dX5_parseCommand_47 (by decide) ?_
      refine g_putL hx hb hts inG_X7 tyX7 tyX7_ok nmX7 hown hK hI hP hS (kX_lt (rfl : kdX 27 = 7)) (eX7 (rfl : kdX 27 = 7)) rfl 3 (by decide) G_fl_X5_58 rfl rfl (ty := .long) (by decide +kernel) rfl rfl (Nat.le_of_ble_eq_true rfl) rfl h dX5_parseCommand_48 (fun S11 H locs h hP hS => ?_)
      refine lv_aload_n hx hb dX5_parseCommand_51 rfl (lv_at hl 1 rfl) ?_
      refine lv_bipush (v := 32) hx hb dX5_parseCommand_52 (by decide) ?_
      refine va_calli (va_runV (As := [.int _]) (rest := []) ⟨hx, hb, hml, hown, hts⟩ (c_X7_takes l hI h) (cwV 1 hts gv_X5_39 rfl rfl rfl hv_X7_takes ⟨Nat.le_of_ble_eq_true rfl, Nat.le_of_ble_eq_true rfl⟩) (preV_X hKX hP hS (kX_lt (rfl : kdX 27 = 7)) (eX7 (rfl : kdX 27 = 7)) rfl) rfl rfl hl.1 rfl (lv_room (Nat.le_of_ble_eq_true rfl)) dX5_parseCommand_54 ⟨Nat.le_of_ble_eq_true rfl, Nat.le_of_ble_eq_true rfl⟩) hS (fun _ _ h => h) (fun _ h => h) (fun r13 S12 t H locs ht _ h hB _ _ hS => ?_)
      have hP : VX dC dI cA P S12 H := by rw [← ht]; exact hB
      refine lv_if_eq (tgt := 69) hx hb dX5_parseCommand_57 (by decide) (fun c14 => ?_) (fun c14 => ?_)
      · replace h := h.1 c14
        refine lv_aload_n hx hb dX5_parseCommand_69 rfl (lv_at hl 1 rfl) ?_
        refine g_get (v := .int (S12.1 27 2)) hx hb hts inG_X7 hown hK hP (kX_lt (rfl : kdX 27 = 7)) (eX7 (rfl : kdX 27 = 7)) rfl 2 (by decide) G_fl_X5_26 rfl rfl dX5_parseCommand_70 ?_
        exact g_iret hx hb hr hlocks h hP hS dX5_parseCommand_73
      · replace h := h.2 c14
        refine lv_aload_n hx hb dX5_parseCommand_60 rfl (lv_at hl 1 rfl) ?_
        refine lv_bipush (v := 10) hx hb dX5_parseCommand_61 (by decide) ?_
        refine va_calli (va_runV (As := [.int _]) (rest := []) ⟨hx, hb, hml, hown, hts⟩ (c_X7_takeDigits l hI h) (cwV 1 hts gv_X5_62 rfl rfl rfl hv_X7_takeDigits ⟨Nat.le_of_ble_eq_true rfl, Nat.le_of_ble_eq_true rfl⟩) (preV_X hKX hP hS (kX_lt (rfl : kdX 27 = 7)) (eX7 (rfl : kdX 27 = 7)) rfl) rfl rfl hl.1 rfl (lv_room (Nat.le_of_ble_eq_true rfl)) dX5_parseCommand_63 ⟨Nat.le_of_ble_eq_true rfl, Nat.le_of_ble_eq_true rfl⟩) hS (fun _ _ h => h) (fun _ h => h) (fun r16 S15 t H locs ht _ h hB _ _ hS => ?_)
        have hP : VX dC dI cA P S15 H := by rw [← ht]; exact hB
        refine lv_if_ne (tgt := 74) hx hb dX5_parseCommand_66 (by decide) (fun c17 => ?_) (fun c17 => ?_)
        · replace h := h.2 c17
          refine lv_aload_n hx hb dX5_parseCommand_74 rfl (lv_at hl 0 rfl) ?_
          refine g_get (v := .ref (P 32)) hx hb hts inG_X5 hown hK hP (kX_lt (rfl : kdX 30 = 5)) (eX5 (rfl : kdX 30 = 5)) rfl 1 (by decide) G_fl_X5_15 rfl rfl dX5_parseCommand_75 ?_
          refine lv_aload_n hx hb dX5_parseCommand_78 rfl (lv_at hl 0 rfl) ?_
          refine g_get (v := .int (S15.1 30 2)) hx hb hts inG_X5 hown hK hP (kX_lt (rfl : kdX 30 = 5)) (eX5 (rfl : kdX 30 = 5)) rfl 2 (by decide) G_fl_X5_18 rfl rfl dX5_parseCommand_79 ?_
          refine lv_iconst (v := 3) hx hb dX5_parseCommand_82 (by decide) ?_
          refine lv_imul hx hb dX5_parseCommand_83 ?_
          refine lv_iload hx hb dX5_parseCommand_84 (lv_at hl 3 rfl) ?_
          refine lv_iadd hx hb dX5_parseCommand_86 ?_
          refine lv_aload_n hx hb dX5_parseCommand_87 rfl (lv_at hl 1 rfl) ?_
          refine g_get (v := .long (S15.2 27 3)) hx hb hts inG_X7 hown hK hP (kX_lt (rfl : kdX 27 = 7)) (eX7 (rfl : kdX 27 = 7)) rfl 3 (by decide) G_fl_X5_58 rfl rfl dX5_parseCommand_88 ?_
          refine lv_l2i hx hb dX5_parseCommand_91 rfl ?_
          replace h := h _ rfl
          replace h := h _ rfl
          refine va_callv (va_runSN (As := [.ref _, .int _, .int _]) (rest := []) ⟨hx, hb, hml, hown, hts⟩ (c_X8_setAt l hI (rfl : kdX 32 = 10) h) ⟨va_cnB 3 hts (good_W G_cd_X8_setAt) rfl rfl rfl (kx_n16 hKX) (hts _ G_in_X8) hd_X8_setAt ⟨Nat.le_of_ble_eq_true rfl, Nat.le_of_ble_eq_true rfl⟩, hts _ G_st_X8_setAt, trivial⟩ (preS_X hKX hP hS) rfl rfl hl.1 rfl (lv_room (Nat.le_of_ble_eq_true rfl)) dX5_parseCommand_92 ⟨Nat.le_of_ble_eq_true rfl, Nat.le_of_ble_eq_true rfl⟩) hS (fun _ _ h => h) (fun _ h => h) (fun S20 t H locs ht _ h hB _ _ hS => ?_)
          have hP : VX dC dI cA P S20 H := by rw [← ht]; exact hB
          obtain ⟨x21, ex21⟩ : ∃ y : Int32, y = v4 + 1 := ⟨_, rfl⟩
          replace h := h x21 ex21
          refine lv_iinc (v := x21) (lv' := [(4, .int x21), (0, .ref (P 30)), (1, .ref (P 27)), (3, .int v3)]) hx hb dX5_parseCommand_95 hl (k := 3) rfl (by rw [ex21]; rfl) (by decide) rfl (fun ls hl => ?_)
          refine lv_goto (tgt := 37) hx hb dX5_parseCommand_98 (by decide) ?_
          exact ih _ _ _ _ _ _ h  hP hS (lv_sub hl [1, 2, 3, 0] rfl)
        · replace h := h.1 c17
          refine lv_aload_n hx hb dX5_parseCommand_69 rfl (lv_at hl 1 rfl) ?_
          refine g_get (v := .int (S15.1 27 2)) hx hb hts inG_X7 hown hK hP (kX_lt (rfl : kdX 27 = 7)) (eX7 (rfl : kdX 27 = 7)) rfl 2 (by decide) G_fl_X5_26 rfl rfl dX5_parseCommand_70 ?_
          exact g_iret hx hb hr hlocks h hP hS dX5_parseCommand_73
set_option maxRecDepth 100000 in
set_option maxHeartbeats 4000000 in
theorem e_X5_parseCommand {p : Program} {l : Launch} {e : Env} {s : State} {m : MethodId} {args : Array Value} {below : List Frame} {meth : Method} {c : Code} {dC : Nat → ClassId} {dI : Nat → Nat → Nat} {cA : Nat → ClassId} {adK adV P : Nat → Nat} (C : CtxX dC dI cA adK adV P p s m args meth c cX5_parseCommand 5 (some .int) RX5) {post : Int32 → St → Prop} : ∀  (S : St) (H : Heap) (locs : List Loc) (ls : Array Slot), w_X5_parseCommand  post S → VX dC dI cA P S H → va_S (PA 56 P) s.heap H locs → lv_has ls 5 [(0, .ref (P 30)), (1, .ref (P 27))] → W p l e ({ frames := 6, cells := 0, slots := 0, locals := 134 } : Room) s m args below meth c H locs 0 0 (MQ below (va_Qi post (fun u t => VX dC dI cA P u t.heap) (PA 56 P)) args s 0 0 (PA 56 P)) (F0 m 0 ls []) := by
  have C := C
  obtain ⟨hI, hKX, ⟨hx, hb, hml, hown, hts⟩, hr, hlocks⟩ := id C
  have hK := hKX.1
  intro S H locs ls h hP hS hl
  rw [w_X5_parseCommand] at h
  refine lv_aload_n hx hb dX5_parseCommand_0 rfl (lv_at hl 1 rfl) ?_
  refine g_get (v := .int (S.1 27 2)) hx hb hts inG_X7 hown hK hP (kX_lt (rfl : kdX 27 = 7)) (eX7 (rfl : kdX 27 = 7)) rfl 2 (by decide) G_fl_X5_26 rfl rfl dX5_parseCommand_1 ?_
  refine lv_topi (fun x1 ex1 => ?_)
  replace h := h x1 ex1
  refine lv_istore_n (lv' := [(2, .int x1), (0, .ref (P 30)), (1, .ref (P 27))]) hx hb dX5_parseCommand_4 rfl hl (by decide) rfl (fun ls hl => ?_)
  refine lv_aload_n hx hb dX5_parseCommand_5 rfl (lv_at hl 2 rfl) ?_
  refine va_callv (va_runV (As := []) (rest := []) ⟨hx, hb, hml, hown, hts⟩ (c_X7_takeLetters l hI h) (cwV 0 hts gv_X5_43 rfl rfl rfl hv_X7_takeLetters ⟨Nat.le_of_ble_eq_true rfl, Nat.le_of_ble_eq_true rfl⟩) (preV_X hKX hP hS (kX_lt (rfl : kdX 27 = 7)) (eX7 (rfl : kdX 27 = 7)) rfl) rfl rfl hl.1 rfl (lv_room (Nat.le_of_ble_eq_true rfl)) dX5_parseCommand_6 ⟨Nat.le_of_ble_eq_true rfl, Nat.le_of_ble_eq_true rfl⟩) hS (fun _ _ h => h) (fun _ h => h) (fun S2 t H locs ht _ h hB _ _ hS => ?_)
  have hP : VX dC dI cA P S2 H := by rw [← ht]; exact hB
  refine lv_aload_n hx hb dX5_parseCommand_9 rfl (lv_at hl 2 rfl) ?_
  refine lv_iload_n hx hb dX5_parseCommand_10 rfl (lv_at hl 0 rfl) ?_
  refine va_calli (va_runS (As := [.ref _, .int _]) (rest := []) ⟨hx, hb, hml, hown, hts⟩ (c_X5_wordBetween l hI h) (va_cwS 2 hts gs_X5_46 rfl rfl rfl hd_X5_wordBetween ⟨Nat.le_of_ble_eq_true rfl, Nat.le_of_ble_eq_true rfl⟩) (preS_X hKX hP hS) rfl rfl hl.1 rfl (lv_room (Nat.le_of_ble_eq_true rfl)) dX5_parseCommand_11 ⟨Nat.le_of_ble_eq_true rfl, Nat.le_of_ble_eq_true rfl⟩) hS (fun _ _ h => h) (fun _ h => h) (fun r4 S3 t H locs ht _ h hB _ _ hS => ?_)
  have hP : VX dC dI cA P S3 H := by rw [← ht]; exact hB
  refine lv_istore_n (lv' := [(3, .int r4), (2, .int x1), (0, .ref (P 30)), (1, .ref (P 27))]) hx hb dX5_parseCommand_14 rfl hl (by decide) rfl (fun ls hl => ?_)
  refine lv_iload_n hx hb dX5_parseCommand_15 rfl (lv_at hl 0 rfl) ?_
  refine lv_iconst (v := (-1)) hx hb dX5_parseCommand_16 (by decide) ?_
  refine lv_icmp_ne (tgt := 22) hx hb dX5_parseCommand_17 (by decide) (fun c5 => ?_) (fun c5 => ?_)
  · replace h := h.2 c5
    refine lv_aload_n hx hb dX5_parseCommand_22 rfl (lv_at hl 2 rfl) ?_
    refine g_get (v := .ref (P 31)) hx hb hts inG_X5 hown hK hP (kX_lt (rfl : kdX 30 = 5)) (eX5 (rfl : kdX 30 = 5)) rfl 0 (by decide) G_fl_X5_11 rfl rfl dX5_parseCommand_23 ?_
    refine lv_aload_n hx hb dX5_parseCommand_26 rfl (lv_at hl 2 rfl) ?_
    refine g_get (v := .int (S3.1 30 2)) hx hb hts inG_X5 hown hK hP (kX_lt (rfl : kdX 30 = 5)) (eX5 (rfl : kdX 30 = 5)) rfl 2 (by decide) G_fl_X5_18 rfl rfl dX5_parseCommand_27 ?_
    refine lv_iload_n hx hb dX5_parseCommand_30 rfl (lv_at hl 0 rfl) ?_
    replace h := h _ rfl
    refine va_callv (va_runSN (As := [.ref _, .int _, .int _]) (rest := []) ⟨hx, hb, hml, hown, hts⟩ (c_X8_setAt l hI (rfl : kdX 31 = 10) h) ⟨va_cnB 3 hts (good_W G_cd_X8_setAt) rfl rfl rfl (kx_n16 hKX) (hts _ G_in_X8) hd_X8_setAt ⟨Nat.le_of_ble_eq_true rfl, Nat.le_of_ble_eq_true rfl⟩, hts _ G_st_X8_setAt, trivial⟩ (preS_X hKX hP hS) rfl rfl hl.1 rfl (lv_room (Nat.le_of_ble_eq_true rfl)) dX5_parseCommand_31 ⟨Nat.le_of_ble_eq_true rfl, Nat.le_of_ble_eq_true rfl⟩) hS (fun _ _ h => h) (fun _ h => h) (fun S7 t H locs ht _ h hB _ _ hS => ?_)
    have hP : VX dC dI cA P S7 H := by rw [← ht]; exact hB
    refine lv_iconst (v := 0) hx hb dX5_parseCommand_34 (by decide) ?_
    refine lv_istore (lv' := [(4, .int 0), (3, .int r4), (2, .int x1), (0, .ref (P 30)), (1, .ref (P 27))]) hx hb dX5_parseCommand_35 hl (by decide) rfl (fun ls hl => ?_)
    obtain ⟨n22, h⟩ := h
    exact b_X5_parseCommand_37 C n22 _ _ _ _ _ _ h  hP hS (lv_sub hl [3, 4, 1, 0] rfl)
  · replace h := h.1 c5
    refine lv_iload_n hx hb dX5_parseCommand_20 rfl (lv_at hl 1 rfl) ?_
    exact g_iret hx hb hr hlocks h hP hS dX5_parseCommand_21
set_option maxRecDepth 100000 in
set_option maxHeartbeats 4000000 in
theorem c_X5_parseCommand (l : Launch) {dC : Nat → ClassId} {dI : Nat → Nat → Nat} {cA : Nat → ClassId} {adK adV P : Nat → Nat} (hI : PInj 56 P)   {post : Int32 → St → Prop} {S : St} (h : w_X5_parseCommand  post S) : Met l yX5_parseCommand (wW yX5_parseCommand cX5_parseCommand 5 (some .int)) ({ frames := 6, cells := 0, slots := 0, locals := 134 } : Room) (va_Pc [.ref (P 30), .ref (P 27)] (PreX dC dI cA adK adV P S)) (va_Qi post (fun u t => VX dC dI cA P u t.heap) (PA 56 P)) 0 0 (PA 56 P) := by
  refine Met.ofW (cc := cX5_parseCommand) (maxL := 5) (ret := (some .int)) (by decide) rfl ?_
  intro p e s m args below meth c s₁ B hml hv
  obtain ⟨rfl, hP, hKX⟩ := hv
  have hts : ∀ w ∈ G, w.before [.ref (P 30), .ref (P 27)].toArray s = true := fun w hw => atoms_spec (ws := wW yX5_parseCommand cX5_parseCommand 5 (some .int)) B.pre w (List.mem_cons_of_mem _ hw)
  have C : CtxX dC dI cA adK adV P p s m [.ref (P 30), .ref (P 27)].toArray meth c cX5_parseCommand 5 (some .int) RX5 := ⟨hI, hKX, ⟨B.exec, B.bytes, hml, findClass_of_methodNamed B.named, hts⟩, B.returns, B.notSynchronized⟩
  have hS : va_S (PA 56 P) s.heap s.heap [] := va_S.rf
  have hl := lv_entry ([.ref (P 30), .ref (P 27)]) (n := 5) (Nat.le_of_ble_eq_true rfl)
  rw [lg_entry_eq]
  generalize (lg_sl ([.ref (P 30), .ref (P 27)]) ++ List.replicate (5 - (lg_sl ([.ref (P 30), .ref (P 27)])).length) Slot.unset).toArray = ls at hl ⊢
  have hl : lv_has ls 5 [(0, .ref (P 30)), (1, .ref (P 27))] := hl
  exact e_X5_parseCommand C  _ _ _ _ h  hP hS hl
set_option maxRecDepth 100000 in
set_option maxHeartbeats 4000000 in
theorem b_X5_parse_10 {p : Program} {l : Launch} {e : Env} {s : State} {m : MethodId} {args : Array Value} {below : List Frame} {meth : Method} {c : Code} {dC : Nat → ClassId} {dI : Nat → Nat → Nat} {cA : Nat → ClassId} {adK adV P : Nat → Nat} (C : CtxX dC dI cA adK adV P p s m args meth c cX5_parse 3 (some .int) RX5) {post : Int32 → St → Prop}  : ∀ (n : Nat)  (S : St) (H : Heap) (locs : List Loc) (ls : Array Slot), w_X5_parse_10 post n  S → VX dC dI cA P S H → va_S (PA 56 P) s.heap H locs → lv_has ls 3 [(0, .ref (P 30)), (1, .ref (P 27))] → W p l e ({ frames := 7, cells := 0, slots := 0, locals := 158 } : Room) s m args below meth c H locs 0 0 (MQ below (va_Qi post (fun u t => VX dC dI cA P u t.heap) (PA 56 P)) args s 0 0 (PA 56 P)) (F0 m 10 ls []) := by
  have C := C
  obtain ⟨hI, hKX, ⟨hx, hb, hml, hown, hts⟩, hr, hlocks⟩ := id C
  have hK := hKX.1
  intro n
  induction n with
  | zero =>
    intro S H locs ls h hP hS hl
    simp only [w_X5_parse_10] at h
  | succ n ih =>
    intro S H locs ls h hP hS hl
    rw [w_X5_parse_10] at h
    refine lv_aload_n hx hb dX5_parse_10 rfl (lv_at hl 0 rfl) ?_
    refine g_get (v := .int (S.1 30 2)) hx hb hts inG_X5 hown hK hP (kX_lt (rfl : kdX 30 = 5)) (eX5 (rfl : kdX 30 = 5)) rfl 2 (by decide) G_fl_X5_18 rfl rfl dX5_parse_11 ?_
    refine lv_bipush (v := 14) hx hb dX5_parse_14 (by decide) ?_
    refine lv_icmp_ge (tgt := 68) hx hb dX5_parse_16 (by decide) (fun c3 => ?_) (fun c3 => ?_)
    · replace h := h.1 c3
      refine lv_aload_n hx hb dX5_parse_68 rfl (lv_at hl 1 rfl) ?_
      refine g_get (v := .int (S.1 27 2)) hx hb hts inG_X7 hown hK hP (kX_lt (rfl : kdX 27 = 7)) (eX7 (rfl : kdX 27 = 7)) rfl 2 (by decide) G_fl_X5_26 rfl rfl dX5_parse_69 ?_
      exact g_iret hx hb hr hlocks h hP hS dX5_parse_72
    · replace h := h.2 c3
      refine lv_aload_n hx hb dX5_parse_19 rfl (lv_at hl 0 rfl) ?_
      refine lv_aload_n hx hb dX5_parse_20 rfl (lv_at hl 1 rfl) ?_
      refine va_calli (va_runV (As := [.ref _]) (rest := []) ⟨hx, hb, hml, hown, hts⟩ (c_X5_parseCommand l hI h) (cwV 1 hts gv_X5_31 rfl rfl rfl hv_X5_parseCommand ⟨Nat.le_of_ble_eq_true rfl, Nat.le_of_ble_eq_true rfl⟩) (preV_X hKX hP hS (kX_lt (rfl : kdX 30 = 5)) (eX5 (rfl : kdX 30 = 5)) rfl) rfl rfl hl.1 rfl (lv_room (Nat.le_of_ble_eq_true rfl)) dX5_parse_21 ⟨Nat.le_of_ble_eq_true rfl, Nat.le_of_ble_eq_true rfl⟩) hS (fun _ _ h => h) (fun _ h => h) (fun r5 S4 t H locs ht _ h hB _ _ hS => ?_)
      have hP : VX dC dI cA P S4 H := by rw [← ht]; exact hB
      refine lv_istore_n (lv' := [(2, .int r5), (0, .ref (P 30)), (1, .ref (P 27))]) hx hb dX5_parse_24 rfl hl (by decide) rfl (fun ls hl => ?_)
      refine lv_iload_n hx hb dX5_parse_25 rfl (lv_at hl 0 rfl) ?_
      refine lv_iconst (v := (-1)) hx hb dX5_parse_26 (by decide) ?_
      refine lv_icmp_eq (tgt := 32) hx hb dX5_parse_27 (by decide) (fun c6 => ?_) (fun c6 => ?_)
      · replace h := h.1 c6
        refine lv_aload_n hx hb dX5_parse_32 rfl (lv_at hl 1 rfl) ?_
        refine lv_dup hx hb dX5_parse_33 rfl ?_
        refine g_get (v := .int (S4.1 30 2)) hx hb hts inG_X5 hown hK hP (kX_lt (rfl : kdX 30 = 5)) (eX5 (rfl : kdX 30 = 5)) rfl 2 (by decide) G_fl_X5_18 rfl rfl dX5_parse_34 ?_
        refine lv_iconst (v := 1) hx hb dX5_parse_37 (by decide) ?_
        refine lv_iadd hx hb dX5_parse_38 ?_
        replace h := h _ rfl
        refine g_putI hx hb hts inG_X5 tyX5 tyX5_ok nmX5 hown hK hI hP hS (kX_lt (rfl : kdX 30 = 5)) (eX5 (rfl : kdX 30 = 5)) rfl 2 (by decide) G_fl_X5_18 rfl rfl (ty := .int) (by decide +kernel) rfl rfl (Nat.le_of_ble_eq_true rfl) rfl h dX5_parse_39 (fun S8 H locs h hP hS => ?_)
        refine lv_aload_n hx hb dX5_parse_42 rfl (lv_at hl 2 rfl) ?_
        refine va_calli (va_runV (As := []) (rest := []) ⟨hx, hb, hml, hown, hts⟩ (c_X7_isAtEnd l hI h) (cwV 0 hts gv_X5_35 rfl rfl rfl hv_X7_isAtEnd ⟨Nat.le_of_ble_eq_true rfl, Nat.le_of_ble_eq_true rfl⟩) (preV_X hKX hP hS (kX_lt (rfl : kdX 27 = 7)) (eX7 (rfl : kdX 27 = 7)) rfl) rfl rfl hl.1 rfl (lv_room (Nat.le_of_ble_eq_true rfl)) dX5_parse_43 ⟨Nat.le_of_ble_eq_true rfl, Nat.le_of_ble_eq_true rfl⟩) hS (fun _ _ h => h) (fun _ h => h) (fun r10 S9 t H locs ht _ h hB _ _ hS => ?_)
        have hP : VX dC dI cA P S9 H := by rw [← ht]; exact hB
        refine lv_if_eq (tgt := 51) hx hb dX5_parse_46 (by decide) (fun c11 => ?_) (fun c11 => ?_)
        · replace h := h.1 c11
          refine lv_aload_n hx hb dX5_parse_51 rfl (lv_at hl 2 rfl) ?_
          refine lv_bipush (v := 59) hx hb dX5_parse_52 (by decide) ?_
          refine va_calli (va_runV (As := [.int _]) (rest := []) ⟨hx, hb, hml, hown, hts⟩ (c_X7_takes l hI h) (cwV 1 hts gv_X5_39 rfl rfl rfl hv_X7_takes ⟨Nat.le_of_ble_eq_true rfl, Nat.le_of_ble_eq_true rfl⟩) (preV_X hKX hP hS (kX_lt (rfl : kdX 27 = 7)) (eX7 (rfl : kdX 27 = 7)) rfl) rfl rfl hl.1 rfl (lv_room (Nat.le_of_ble_eq_true rfl)) dX5_parse_54 ⟨Nat.le_of_ble_eq_true rfl, Nat.le_of_ble_eq_true rfl⟩) hS (fun _ _ h => h) (fun _ h => h) (fun r13 S12 t H locs ht _ h hB _ _ hS => ?_)
          have hP : VX dC dI cA P S12 H := by rw [← ht]; exact hB
          refine lv_if_ne (tgt := 65) hx hb dX5_parse_57 (by decide) (fun c14 => ?_) (fun c14 => ?_)
          · replace h := h.2 c14
            refine lv_goto (tgt := 10) hx hb dX5_parse_65 (by decide) ?_
            exact ih  _ _ _ _ h  hP hS (lv_sub hl [1, 2] rfl)
          · replace h := h.1 c14
            refine lv_aload_n hx hb dX5_parse_60 rfl (lv_at hl 2 rfl) ?_
            refine g_get (v := .int (S12.1 27 2)) hx hb hts inG_X7 hown hK hP (kX_lt (rfl : kdX 27 = 7)) (eX7 (rfl : kdX 27 = 7)) rfl 2 (by decide) G_fl_X5_26 rfl rfl dX5_parse_61 ?_
            exact g_iret hx hb hr hlocks h hP hS dX5_parse_64
        · replace h := h.2 c11
          refine lv_iconst (v := (-1)) hx hb dX5_parse_49 (by decide) ?_
          exact g_iret hx hb hr hlocks h hP hS dX5_parse_50
      · replace h := h.2 c6
        refine lv_iload_n hx hb dX5_parse_30 rfl (lv_at hl 0 rfl) ?_
        exact g_iret hx hb hr hlocks h hP hS dX5_parse_31
set_option maxRecDepth 100000 in
set_option maxHeartbeats 4000000 in
theorem e_X5_parse {p : Program} {l : Launch} {e : Env} {s : State} {m : MethodId} {args : Array Value} {below : List Frame} {meth : Method} {c : Code} {dC : Nat → ClassId} {dI : Nat → Nat → Nat} {cA : Nat → ClassId} {adK adV P : Nat → Nat} (C : CtxX dC dI cA adK adV P p s m args meth c cX5_parse 3 (some .int) RX5) {post : Int32 → St → Prop} : ∀  (S : St) (H : Heap) (locs : List Loc) (ls : Array Slot), w_X5_parse  post S → VX dC dI cA P S H → va_S (PA 56 P) s.heap H locs → lv_has ls 3 [(0, .ref (P 30)), (1, .ref (P 27))] → W p l e ({ frames := 7, cells := 0, slots := 0, locals := 158 } : Room) s m args below meth c H locs 0 0 (MQ below (va_Qi post (fun u t => VX dC dI cA P u t.heap) (PA 56 P)) args s 0 0 (PA 56 P)) (F0 m 0 ls []) := by
  have C := C
  obtain ⟨hI, hKX, ⟨hx, hb, hml, hown, hts⟩, hr, hlocks⟩ := id C
  have hK := hKX.1
  intro S H locs ls h hP hS hl
  rw [w_X5_parse] at h
  refine lv_aload_n hx hb dX5_parse_0 rfl (lv_at hl 1 rfl) ?_
  refine lv_iconst (v := 0) hx hb dX5_parse_1 (by decide) ?_
  refine g_putI hx hb hts inG_X7 tyX7 tyX7_ok nmX7 hown hK hI hP hS (kX_lt (rfl : kdX 27 = 7)) (eX7 (rfl : kdX 27 = 7)) rfl 2 (by decide) G_fl_X5_26 rfl rfl (ty := .int) (by decide +kernel) rfl rfl (Nat.le_of_ble_eq_true rfl) rfl h dX5_parse_2 (fun S1 H locs h hP hS => ?_)
  refine lv_aload_n hx hb dX5_parse_5 rfl (lv_at hl 0 rfl) ?_
  refine lv_iconst (v := 0) hx hb dX5_parse_6 (by decide) ?_
  refine g_putI hx hb hts inG_X5 tyX5 tyX5_ok nmX5 hown hK hI hP hS (kX_lt (rfl : kdX 30 = 5)) (eX5 (rfl : kdX 30 = 5)) rfl 2 (by decide) G_fl_X5_18 rfl rfl (ty := .int) (by decide +kernel) rfl rfl (Nat.le_of_ble_eq_true rfl) rfl h dX5_parse_7 (fun S2 H locs h hP hS => ?_)
  obtain ⟨n15, h⟩ := h
  exact b_X5_parse_10 C n15  _ _ _ _ h  hP hS (lv_sub hl [0, 1] rfl)
set_option maxRecDepth 100000 in
set_option maxHeartbeats 4000000 in
theorem c_X5_parse (l : Launch) {dC : Nat → ClassId} {dI : Nat → Nat → Nat} {cA : Nat → ClassId} {adK adV P : Nat → Nat} (hI : PInj 56 P)   {post : Int32 → St → Prop} {S : St} (h : w_X5_parse  post S) : Met l yX5_parse (wW yX5_parse cX5_parse 3 (some .int)) ({ frames := 7, cells := 0, slots := 0, locals := 158 } : Room) (va_Pc [.ref (P 30), .ref (P 27)] (PreX dC dI cA adK adV P S)) (va_Qi post (fun u t => VX dC dI cA P u t.heap) (PA 56 P)) 0 0 (PA 56 P) := by
  refine Met.ofW (cc := cX5_parse) (maxL := 3) (ret := (some .int)) (by decide) rfl ?_
  intro p e s m args below meth c s₁ B hml hv
  obtain ⟨rfl, hP, hKX⟩ := hv
  have hts : ∀ w ∈ G, w.before [.ref (P 30), .ref (P 27)].toArray s = true := fun w hw => atoms_spec (ws := wW yX5_parse cX5_parse 3 (some .int)) B.pre w (List.mem_cons_of_mem _ hw)
  have C : CtxX dC dI cA adK adV P p s m [.ref (P 30), .ref (P 27)].toArray meth c cX5_parse 3 (some .int) RX5 := ⟨hI, hKX, ⟨B.exec, B.bytes, hml, findClass_of_methodNamed B.named, hts⟩, B.returns, B.notSynchronized⟩
  have hS : va_S (PA 56 P) s.heap s.heap [] := va_S.rf
  have hl := lv_entry ([.ref (P 30), .ref (P 27)]) (n := 3) (Nat.le_of_ble_eq_true rfl)
  rw [lg_entry_eq]
  generalize (lg_sl ([.ref (P 30), .ref (P 27)]) ++ List.replicate (3 - (lg_sl ([.ref (P 30), .ref (P 27)])).length) Slot.unset).toArray = ls at hl ⊢
  have hl : lv_has ls 3 [(0, .ref (P 30)), (1, .ref (P 27))] := hl
  exact e_X5_parse C  _ _ _ _ h  hP hS hl
set_option maxRecDepth 100000 in
set_option maxHeartbeats 4000000 in
theorem e_X6_at {p : Program} {l : Launch} {e : Env} {s : State} {m : MethodId} {args : Array Value} {below : List Frame} {meth : Method} {c : Code} {dC : Nat → ClassId} {dI : Nat → Nat → Nat} {cA : Nat → ClassId} {adK adV P : Nat → Nat} (C : CtxX dC dI cA adK adV P p s m args meth c cX6_at 2 (some (.object "TurningFractions$Fraction")) RX6) {post : Option Nat → St → Prop} : ∀ (k0 : Nat) (v1 : Int32) (S : St) (H : Heap) (locs : List Loc) (ls : Array Slot), w_X6_at k0 v1 post S → kdX k0 = 6 → VX dC dI cA P S H → va_S (PA 56 P) s.heap H locs → lv_has ls 2 [(0, .ref (P k0)), (1, .int v1)] → W p l e ({ frames := 0, cells := 0, slots := 0, locals := 0 } : Room) s m args below meth c H locs 0 0 (MQ below (va_Qq (fun r u => ∃ o : Option Nat, r = o.map P ∧ (∀ k, o = some k → kdX k = 1) ∧ post o u) (fun u t => VX dC dI cA P u t.heap) (PA 56 P)) args s 0 0 (PA 56 P)) (F0 m 0 ls []) := by
  have C := C
  obtain ⟨hI, hKX, ⟨hx, hb, hml, hown, hts⟩, hr, hlocks⟩ := id C
  have hK := hKX.1
  intro k0 v1 S H locs ls h hk0 hP hS hl
  rw [w_X6_at] at h
  refine lv_iload_n hx hb dX6_at_0 rfl (lv_at hl 1 rfl) ?_
  refine lv_if_lt (tgt := 30) hx hb dX6_at_1 (by decide) (fun c1 => ?_) (fun c1 => ?_)
  · replace h := h.1 c1
    refine lv_null hx hb dX6_at_30 ?_
    exact g_aret (v := none) hx hb hr hlocks ⟨none, rfl, (fun _ e => by cases e), h⟩ hP hS dX6_at_31
  · replace h := h.2 c1
    refine lv_iload_n hx hb dX6_at_4 rfl (lv_at hl 1 rfl) ?_
    refine lv_aload_n hx hb dX6_at_5 rfl (lv_at hl 0 rfl) ?_
    refine g_get (v := .int (S.1 k0 1)) hx hb hts inG_X6 hown hK hP (kX_lt hk0) (eX6 hk0) rfl 1 (by decide) G_fl_X6_17 rfl rfl dX6_at_6 ?_
    refine lv_icmp_ge (tgt := 30) hx hb dX6_at_9 (by decide) (fun c2 => ?_) (fun c2 => ?_)
    · replace h := h.1 c2
      refine lv_null hx hb dX6_at_30 ?_
      exact g_aret (v := none) hx hb hr hlocks ⟨none, rfl, (fun _ e => by cases e), h⟩ hP hS dX6_at_31
    · replace h := h.2 c2
      refine lv_iload_n hx hb dX6_at_12 rfl (lv_at hl 1 rfl) ?_
      refine lv_aload_n hx hb dX6_at_13 rfl (lv_at hl 0 rfl) ?_
      refine g_get (v := .ref (P (k0 + 1))) hx hb hts inG_X6 hown hK hP (kX_lt hk0) (eX6 hk0) rfl 0 (by decide) G_fl_X6_11 rfl rfl dX6_at_14 ?_
      refine g_alen hx hb hK hP (kX_lt (kd6_1 hk0)) 2 (eX12 (kd6_1 hk0)) rfl dX6_at_17 ?_
      refine lv_icmp_ge (tgt := 30) hx hb dX6_at_18 (by decide) (fun c3 => ?_) (fun c3 => ?_)
      · replace h := h.1 c3
        refine lv_null hx hb dX6_at_30 ?_
        exact g_aret (v := none) hx hb hr hlocks ⟨none, rfl, (fun _ e => by cases e), h⟩ hP hS dX6_at_31
      · replace h := h.2 c3
        refine lv_aload_n hx hb dX6_at_21 rfl (lv_at hl 0 rfl) ?_
        refine g_get (v := .ref (P (k0 + 1))) hx hb hts inG_X6 hown hK hP (kX_lt hk0) (eX6 hk0) rfl 0 (by decide) G_fl_X6_11 rfl rfl dX6_at_22 ?_
        refine lv_iload_n hx hb dX6_at_25 rfl (lv_at hl 1 rfl) ?_
        have hi4 := h.1
        replace h := h.2
        refine g_aldq hx hb hK hP (kX_lt (kd6_1 hk0)) 2 (eX12 (kd6_1 hk0)) rfl hi4 dX6_at_26 ?_
        have hk5 := kd12_e (kd6_1 hk0) hi4
        refine lv_goto (tgt := 31) hx hb dX6_at_27 (by decide) ?_
        exact g_aret (v := some _) hx hb hr hlocks ⟨some _, rfl, (fun _ e => by cases e; exact hk5), h⟩ hP hS dX6_at_31
set_option maxRecDepth 100000 in
set_option maxHeartbeats 4000000 in
theorem c_X6_at (l : Launch) {dC : Nat → ClassId} {dI : Nat → Nat → Nat} {cA : Nat → ClassId} {adK adV P : Nat → Nat} (hI : PInj 56 P) {k0 : Nat} {v1 : Int32} (hk0 : kdX k0 = 6) {post : Option Nat → St → Prop} {S : St} (h : w_X6_at k0 v1 post S) : Met l yX6_at (wW yX6_at cX6_at 2 (some (.object "TurningFractions$Fraction"))) ({ frames := 0, cells := 0, slots := 0, locals := 0 } : Room) (va_Pc [.ref (P k0), .int v1] (PreX dC dI cA adK adV P S)) (va_Qq (fun r u => ∃ o : Option Nat, r = o.map P ∧ (∀ k, o = some k → kdX k = 1) ∧ post o u) (fun u t => VX dC dI cA P u t.heap) (PA 56 P)) 0 0 (PA 56 P) := by
  refine Met.ofW (cc := cX6_at) (maxL := 2) (ret := (some (.object "TurningFractions$Fraction"))) (by decide) rfl ?_
  intro p e s m args below meth c s₁ B hml hv
  obtain ⟨rfl, hP, hKX⟩ := hv
  have hts : ∀ w ∈ G, w.before [.ref (P k0), .int v1].toArray s = true := fun w hw => atoms_spec (ws := wW yX6_at cX6_at 2 (some (.object "TurningFractions$Fraction"))) B.pre w (List.mem_cons_of_mem _ hw)
  have C : CtxX dC dI cA adK adV P p s m [.ref (P k0), .int v1].toArray meth c cX6_at 2 (some (.object "TurningFractions$Fraction")) RX6 := ⟨hI, hKX, ⟨B.exec, B.bytes, hml, findClass_of_methodNamed B.named, hts⟩, B.returns, B.notSynchronized⟩
  have hS : va_S (PA 56 P) s.heap s.heap [] := va_S.rf
  have hl := lv_entry ([.ref (P k0), .int v1]) (n := 2) (Nat.le_of_ble_eq_true rfl)
  rw [lg_entry_eq]
  generalize (lg_sl ([.ref (P k0), .int v1]) ++ List.replicate (2 - (lg_sl ([.ref (P k0), .int v1])).length) Slot.unset).toArray = ls at hl ⊢
  have hl : lv_has ls 2 [(0, .ref (P k0)), (1, .int v1)] := hl
  exact e_X6_at C _ _ _ _ _ _ h hk0 hP hS hl
set_option maxRecDepth 100000 in
set_option maxHeartbeats 4000000 in
theorem e_X6_add {p : Program} {l : Launch} {e : Env} {s : State} {m : MethodId} {args : Array Value} {below : List Frame} {meth : Method} {c : Code} {dC : Nat → ClassId} {dI : Nat → Nat → Nat} {cA : Nat → ClassId} {adK adV P : Nat → Nat} (C : CtxX dC dI cA adK adV P p s m args meth c cX6_add 4 (some .int) RX6) {post : Int32 → St → Prop} : ∀ (k0 : Nat) (v1 : Int32) (v2 : Int32) (v3 : Int32) (S : St) (H : Heap) (locs : List Loc) (ls : Array Slot), w_X6_add k0 v1 v2 v3 post S → kdX k0 = 6 → VX dC dI cA P S H → va_S (PA 56 P) s.heap H locs → lv_has ls 4 [(0, .ref (P k0)), (1, .int v1), (2, .int v2), (3, .int v3)] → W p l e ({ frames := 2, cells := 0, slots := 0, locals := 54 } : Room) s m args below meth c H locs 0 0 (MQ below (va_Qi post (fun u t => VX dC dI cA P u t.heap) (PA 56 P)) args s 0 0 (PA 56 P)) (F0 m 0 ls []) := by
  have C := C
  obtain ⟨hI, hKX, ⟨hx, hb, hml, hown, hts⟩, hr, hlocks⟩ := id C
  have hK := hKX.1
  intro k0 v1 v2 v3 S H locs ls h hk0 hP hS hl
  rw [w_X6_add] at h
  refine lv_aload_n hx hb dX6_add_0 rfl (lv_at hl 0 rfl) ?_
  refine g_get (v := .int (S.1 k0 1)) hx hb hts inG_X6 hown hK hP (kX_lt hk0) (eX6 hk0) rfl 1 (by decide) G_fl_X6_17 rfl rfl dX6_add_1 ?_
  refine lv_aload_n hx hb dX6_add_4 rfl (lv_at hl 0 rfl) ?_
  refine g_get (v := .ref (P (k0 + 1))) hx hb hts inG_X6 hown hK hP (kX_lt hk0) (eX6 hk0) rfl 0 (by decide) G_fl_X6_11 rfl rfl dX6_add_5 ?_
  refine g_alen hx hb hK hP (kX_lt (kd6_1 hk0)) 2 (eX12 (kd6_1 hk0)) rfl dX6_add_8 ?_
  refine lv_icmp_lt (tgt := 15) hx hb dX6_add_9 (by decide) (fun c1 => ?_) (fun c1 => ?_)
  · replace h := h.1 c1
    refine lv_aload_n hx hb dX6_add_15 rfl (lv_at hl 0 rfl) ?_
    refine g_get (v := .ref (P (k0 + 1))) hx hb hts inG_X6 hown hK hP (kX_lt hk0) (eX6 hk0) rfl 0 (by decide) G_fl_X6_11 rfl rfl dX6_add_16 ?_
    refine lv_aload_n hx hb dX6_add_19 rfl (lv_at hl 0 rfl) ?_
    refine g_get (v := .int (S.1 k0 1)) hx hb hts inG_X6 hown hK hP (kX_lt hk0) (eX6 hk0) rfl 1 (by decide) G_fl_X6_17 rfl rfl dX6_add_20 ?_
    replace h := h _ rfl
    have hi3 := h.1
    replace h := h.2
    refine g_aldq hx hb hK hP (kX_lt (kd6_1 hk0)) 2 (eX12 (kd6_1 hk0)) rfl hi3 dX6_add_23 ?_
    have hk4 := kd12_e (kd6_1 hk0) hi3
    refine lv_iload_n hx hb dX6_add_24 rfl (lv_at hl 1 rfl) ?_
    refine lv_iload_n hx hb dX6_add_25 rfl (lv_at hl 2 rfl) ?_
    refine lv_iload_n hx hb dX6_add_26 rfl (lv_at hl 3 rfl) ?_
    refine va_callv (va_runV (As := [.int _, .int _, .int _]) (rest := []) ⟨hx, hb, hml, hown, hts⟩ (c_X1_become l hI hk4 h) (cwV 3 hts gv_X6_22 rfl rfl rfl hv_X1_become ⟨Nat.le_of_ble_eq_true rfl, Nat.le_of_ble_eq_true rfl⟩) (preV_X hKX hP hS (kX_lt hk4) (eX1 hk4) rfl) rfl rfl hl.1 rfl (lv_room (Nat.le_of_ble_eq_true rfl)) dX6_add_27 ⟨Nat.le_of_ble_eq_true rfl, Nat.le_of_ble_eq_true rfl⟩) hS (fun _ _ h => h) (fun _ h => h) (fun S5 t H locs ht _ h hB _ _ hS => ?_)
    have hP : VX dC dI cA P S5 H := by rw [← ht]; exact hB
    refine lv_aload_n hx hb dX6_add_30 rfl (lv_at hl 0 rfl) ?_
    refine lv_dup hx hb dX6_add_31 rfl ?_
    refine g_get (v := .int (S5.1 k0 1)) hx hb hts inG_X6 hown hK hP (kX_lt hk0) (eX6 hk0) rfl 1 (by decide) G_fl_X6_17 rfl rfl dX6_add_32 ?_
    refine lv_iconst (v := 1) hx hb dX6_add_35 (by decide) ?_
    refine lv_iadd hx hb dX6_add_36 ?_
    replace h := h _ rfl
    refine g_putI hx hb hts inG_X6 tyX6 tyX6_ok nmX6 hown hK hI hP hS (kX_lt hk0) (eX6 hk0) rfl 1 (by decide) G_fl_X6_17 rfl rfl (ty := .int) (by decide +kernel) rfl rfl (Nat.le_of_ble_eq_true rfl) rfl h dX6_add_37 (fun S7 H locs h hP hS => ?_)
    refine lv_aload_n hx hb dX6_add_40 rfl (lv_at hl 0 rfl) ?_
    refine g_get (v := .int (S7.1 k0 1)) hx hb hts inG_X6 hown hK hP (kX_lt hk0) (eX6 hk0) rfl 1 (by decide) G_fl_X6_17 rfl rfl dX6_add_41 ?_
    refine lv_iconst (v := 1) hx hb dX6_add_44 (by decide) ?_
    refine lv_isub hx hb dX6_add_45 ?_
    exact g_iret hx hb hr hlocks h hP hS dX6_add_46
  · replace h := h.2 c1
    refine lv_bipush (v := (-3)) hx hb dX6_add_12 (by decide) ?_
    exact g_iret hx hb hr hlocks h hP hS dX6_add_14
set_option maxRecDepth 100000 in
set_option maxHeartbeats 4000000 in
theorem c_X6_add (l : Launch) {dC : Nat → ClassId} {dI : Nat → Nat → Nat} {cA : Nat → ClassId} {adK adV P : Nat → Nat} (hI : PInj 56 P) {k0 : Nat} {v1 : Int32} {v2 : Int32} {v3 : Int32} (hk0 : kdX k0 = 6) {post : Int32 → St → Prop} {S : St} (h : w_X6_add k0 v1 v2 v3 post S) : Met l yX6_add (wW yX6_add cX6_add 4 (some .int)) ({ frames := 2, cells := 0, slots := 0, locals := 54 } : Room) (va_Pc [.ref (P k0), .int v1, .int v2, .int v3] (PreX dC dI cA adK adV P S)) (va_Qi post (fun u t => VX dC dI cA P u t.heap) (PA 56 P)) 0 0 (PA 56 P) := by
  refine Met.ofW (cc := cX6_add) (maxL := 4) (ret := (some .int)) (by decide) rfl ?_
  intro p e s m args below meth c s₁ B hml hv
  obtain ⟨rfl, hP, hKX⟩ := hv
  have hts : ∀ w ∈ G, w.before [.ref (P k0), .int v1, .int v2, .int v3].toArray s = true := fun w hw => atoms_spec (ws := wW yX6_add cX6_add 4 (some .int)) B.pre w (List.mem_cons_of_mem _ hw)
  have C : CtxX dC dI cA adK adV P p s m [.ref (P k0), .int v1, .int v2, .int v3].toArray meth c cX6_add 4 (some .int) RX6 := ⟨hI, hKX, ⟨B.exec, B.bytes, hml, findClass_of_methodNamed B.named, hts⟩, B.returns, B.notSynchronized⟩
  have hS : va_S (PA 56 P) s.heap s.heap [] := va_S.rf
  have hl := lv_entry ([.ref (P k0), .int v1, .int v2, .int v3]) (n := 4) (Nat.le_of_ble_eq_true rfl)
  rw [lg_entry_eq]
  generalize (lg_sl ([.ref (P k0), .int v1, .int v2, .int v3]) ++ List.replicate (4 - (lg_sl ([.ref (P k0), .int v1, .int v2, .int v3])).length) Slot.unset).toArray = ls at hl ⊢
  have hl : lv_has ls 4 [(0, .ref (P k0)), (1, .int v1), (2, .int v2), (3, .int v3)] := hl
  exact e_X6_add C _ _ _ _ _ _ _ _ h hk0 hP hS hl
set_option maxRecDepth 100000 in
set_option maxHeartbeats 4000000 in
theorem b_X6_takeAway_12 {p : Program} {l : Launch} {e : Env} {s : State} {m : MethodId} {args : Array Value} {below : List Frame} {meth : Method} {c : Code} {dC : Nat → ClassId} {dI : Nat → Nat → Nat} {cA : Nat → ClassId} {adK adV P : Nat → Nat} (C : CtxX dC dI cA adK adV P p s m args meth c cX6_takeAway 3 (some .int) RX6) {post : Int32 → St → Prop}  : ∀ (n : Nat) (k0 : Nat) (v2 : Int32) (S : St) (H : Heap) (locs : List Loc) (ls : Array Slot), w_X6_takeAway_12 post n k0 v2 S → kdX k0 = 6 → VX dC dI cA P S H → va_S (PA 56 P) s.heap H locs → lv_has ls 3 [(0, .ref (P k0)), (2, .int v2)] → W p l e ({ frames := 1, cells := 0, slots := 0, locals := 21 } : Room) s m args below meth c H locs 0 0 (MQ below (va_Qi post (fun u t => VX dC dI cA P u t.heap) (PA 56 P)) args s 0 0 (PA 56 P)) (F0 m 12 ls []) := by
  have C := C
  obtain ⟨hI, hKX, ⟨hx, hb, hml, hown, hts⟩, hr, hlocks⟩ := id C
  have hK := hKX.1
  intro n
  induction n with
  | zero =>
    intro k0 v2 S H locs ls h hk0 hP hS hl
    simp only [w_X6_takeAway_12] at h
  | succ n ih =>
    intro k0 v2 S H locs ls h hk0 hP hS hl
    rw [w_X6_takeAway_12] at h
    refine lv_iload_n hx hb dX6_takeAway_12 rfl (lv_at hl 1 rfl) ?_
    refine lv_iconst (v := 1) hx hb dX6_takeAway_13 (by decide) ?_
    refine lv_iadd hx hb dX6_takeAway_14 ?_
    refine lv_aload_n hx hb dX6_takeAway_15 rfl (lv_at hl 0 rfl) ?_
    refine g_get (v := .int (S.1 k0 1)) hx hb hts inG_X6 hown hK hP (kX_lt hk0) (eX6 hk0) rfl 1 (by decide) G_fl_X6_17 rfl rfl dX6_takeAway_16 ?_
    refine lv_icmp_ge (tgt := 56) hx hb dX6_takeAway_19 (by decide) (fun c5 => ?_) (fun c5 => ?_)
    · replace h := h.1 c5
      refine lv_aload_n hx hb dX6_takeAway_56 rfl (lv_at hl 0 rfl) ?_
      refine lv_dup hx hb dX6_takeAway_57 rfl ?_
      refine g_get (v := .int (S.1 k0 1)) hx hb hts inG_X6 hown hK hP (kX_lt hk0) (eX6 hk0) rfl 1 (by decide) G_fl_X6_17 rfl rfl dX6_takeAway_58 ?_
      refine lv_iconst (v := 1) hx hb dX6_takeAway_61 (by decide) ?_
      refine lv_isub hx hb dX6_takeAway_62 ?_
      replace h := h _ rfl
      refine g_putI hx hb hts inG_X6 tyX6 tyX6_ok nmX6 hown hK hI hP hS (kX_lt hk0) (eX6 hk0) rfl 1 (by decide) G_fl_X6_17 rfl rfl (ty := .int) (by decide +kernel) rfl rfl (Nat.le_of_ble_eq_true rfl) rfl h dX6_takeAway_63 (fun S7 H locs h hP hS => ?_)
      refine lv_aload_n hx hb dX6_takeAway_66 rfl (lv_at hl 0 rfl) ?_
      refine g_get (v := .int (S7.1 k0 1)) hx hb hts inG_X6 hown hK hP (kX_lt hk0) (eX6 hk0) rfl 1 (by decide) G_fl_X6_17 rfl rfl dX6_takeAway_67 ?_
      exact g_iret hx hb hr hlocks h hP hS dX6_takeAway_70
    · replace h := h.2 c5
      refine lv_iload_n hx hb dX6_takeAway_22 rfl (lv_at hl 1 rfl) ?_
      refine lv_iconst (v := 1) hx hb dX6_takeAway_23 (by decide) ?_
      refine lv_iadd hx hb dX6_takeAway_24 ?_
      refine lv_aload_n hx hb dX6_takeAway_25 rfl (lv_at hl 0 rfl) ?_
      refine g_get (v := .ref (P (k0 + 1))) hx hb hts inG_X6 hown hK hP (kX_lt hk0) (eX6 hk0) rfl 0 (by decide) G_fl_X6_11 rfl rfl dX6_takeAway_26 ?_
      refine g_alen hx hb hK hP (kX_lt (kd6_1 hk0)) 2 (eX12 (kd6_1 hk0)) rfl dX6_takeAway_29 ?_
      refine lv_icmp_ge (tgt := 56) hx hb dX6_takeAway_30 (by decide) (fun c8 => ?_) (fun c8 => ?_)
      · replace h := h.1 c8
        refine lv_aload_n hx hb dX6_takeAway_56 rfl (lv_at hl 0 rfl) ?_
        refine lv_dup hx hb dX6_takeAway_57 rfl ?_
        refine g_get (v := .int (S.1 k0 1)) hx hb hts inG_X6 hown hK hP (kX_lt hk0) (eX6 hk0) rfl 1 (by decide) G_fl_X6_17 rfl rfl dX6_takeAway_58 ?_
        refine lv_iconst (v := 1) hx hb dX6_takeAway_61 (by decide) ?_
        refine lv_isub hx hb dX6_takeAway_62 ?_
        replace h := h _ rfl
        refine g_putI hx hb hts inG_X6 tyX6 tyX6_ok nmX6 hown hK hI hP hS (kX_lt hk0) (eX6 hk0) rfl 1 (by decide) G_fl_X6_17 rfl rfl (ty := .int) (by decide +kernel) rfl rfl (Nat.le_of_ble_eq_true rfl) rfl h dX6_takeAway_63 (fun S10 H locs h hP hS => ?_)
        refine lv_aload_n hx hb dX6_takeAway_66 rfl (lv_at hl 0 rfl) ?_
        refine g_get (v := .int (S10.1 k0 1)) hx hb hts inG_X6 hown hK hP (kX_lt hk0) (eX6 hk0) rfl 1 (by decide) G_fl_X6_17 rfl rfl dX6_takeAway_67 ?_
        exact g_iret hx hb hr hlocks h hP hS dX6_takeAway_70
      · replace h := h.2 c8
        refine lv_aload_n hx hb dX6_takeAway_33 rfl (lv_at hl 0 rfl) ?_
        refine g_get (v := .ref (P (k0 + 1))) hx hb hts inG_X6 hown hK hP (kX_lt hk0) (eX6 hk0) rfl 0 (by decide) G_fl_X6_11 rfl rfl dX6_takeAway_34 ?_
        refine lv_iload_n hx hb dX6_takeAway_37 rfl (lv_at hl 1 rfl) ?_
        have hi11 := h.1
        replace h := h.2
        refine g_aldq hx hb hK hP (kX_lt (kd6_1 hk0)) 2 (eX12 (kd6_1 hk0)) rfl hi11 dX6_takeAway_38 ?_
        have hk12 := kd12_e (kd6_1 hk0) hi11
        refine lv_aload_n hx hb dX6_takeAway_39 rfl (lv_at hl 0 rfl) ?_
        refine g_get (v := .ref (P (k0 + 1))) hx hb hts inG_X6 hown hK hP (kX_lt hk0) (eX6 hk0) rfl 0 (by decide) G_fl_X6_11 rfl rfl dX6_takeAway_40 ?_
        refine lv_iload_n hx hb dX6_takeAway_43 rfl (lv_at hl 1 rfl) ?_
        refine lv_iconst (v := 1) hx hb dX6_takeAway_44 (by decide) ?_
        refine lv_iadd hx hb dX6_takeAway_45 ?_
        replace h := h _ rfl
        have hi14 := h.1
        replace h := h.2
        refine g_aldq hx hb hK hP (kX_lt (kd6_1 hk0)) 2 (eX12 (kd6_1 hk0)) rfl hi14 dX6_takeAway_46 ?_
        have hk15 := kd12_e (kd6_1 hk0) hi14
        refine va_callv (va_runV (As := [.ref _]) (rest := []) ⟨hx, hb, hml, hown, hts⟩ (c_X1_becomeLike l hI hk12 hk15 h) (cwV 1 hts gv_X6_30 rfl rfl rfl hv_X1_becomeLike ⟨Nat.le_of_ble_eq_true rfl, Nat.le_of_ble_eq_true rfl⟩) (preV_X hKX hP hS (kX_lt hk12) (eX1 hk12) rfl) rfl rfl hl.1 rfl (lv_room (Nat.le_of_ble_eq_true rfl)) dX6_takeAway_47 ⟨Nat.le_of_ble_eq_true rfl, Nat.le_of_ble_eq_true rfl⟩) hS (fun _ _ h => h) (fun _ h => h) (fun S16 t H locs ht _ h hB _ _ hS => ?_)
        have hP : VX dC dI cA P S16 H := by rw [← ht]; exact hB
        obtain ⟨x17, ex17⟩ : ∃ y : Int32, y = v2 + 1 := ⟨_, rfl⟩
        replace h := h x17 ex17
        refine lv_iinc (v := x17) (lv' := [(2, .int x17), (0, .ref (P k0))]) hx hb dX6_takeAway_50 hl (k := 1) rfl (by rw [ex17]; rfl) (by decide) rfl (fun ls hl => ?_)
        refine lv_goto (tgt := 12) hx hb dX6_takeAway_53 (by decide) ?_
        exact ih _ _ _ _ _ _ h hk0 hP hS (lv_sub hl [1, 0] rfl)
set_option maxRecDepth 100000 in
set_option maxHeartbeats 4000000 in
theorem e_X6_takeAway {p : Program} {l : Launch} {e : Env} {s : State} {m : MethodId} {args : Array Value} {below : List Frame} {meth : Method} {c : Code} {dC : Nat → ClassId} {dI : Nat → Nat → Nat} {cA : Nat → ClassId} {adK adV P : Nat → Nat} (C : CtxX dC dI cA adK adV P p s m args meth c cX6_takeAway 3 (some .int) RX6) {post : Int32 → St → Prop} : ∀ (k0 : Nat) (v1 : Int32) (S : St) (H : Heap) (locs : List Loc) (ls : Array Slot), w_X6_takeAway k0 v1 post S → kdX k0 = 6 → VX dC dI cA P S H → va_S (PA 56 P) s.heap H locs → lv_has ls 3 [(0, .ref (P k0)), (1, .int v1)] → W p l e ({ frames := 1, cells := 0, slots := 0, locals := 21 } : Room) s m args below meth c H locs 0 0 (MQ below (va_Qi post (fun u t => VX dC dI cA P u t.heap) (PA 56 P)) args s 0 0 (PA 56 P)) (F0 m 0 ls []) := by
  have C := C
  obtain ⟨hI, hKX, ⟨hx, hb, hml, hown, hts⟩, hr, hlocks⟩ := id C
  have hK := hKX.1
  intro k0 v1 S H locs ls h hk0 hP hS hl
  rw [w_X6_takeAway] at h
  refine lv_aload_n hx hb dX6_takeAway_0 rfl (lv_at hl 0 rfl) ?_
  refine lv_iload_n hx hb dX6_takeAway_1 rfl (lv_at hl 1 rfl) ?_
  refine va_callq (va_runV (As := [.int _]) (rest := []) ⟨hx, hb, hml, hown, hts⟩ (c_X6_at l hI hk0 h) (cwV 1 hts gv_X6_26 rfl rfl rfl hv_X6_at ⟨Nat.le_of_ble_eq_true rfl, Nat.le_of_ble_eq_true rfl⟩) (preV_X hKX hP hS (kX_lt hk0) (eX6 hk0) rfl) rfl rfl hl.1 rfl (lv_room (Nat.le_of_ble_eq_true rfl)) dX6_takeAway_2 ⟨Nat.le_of_ble_eq_true rfl, Nat.le_of_ble_eq_true rfl⟩) hS (fun _ _ h => h) (fun _ h => h) (fun q S1 t H locs ht _ h hB _ _ hS => ?_)
  have hP : VX dC dI cA P S1 H := by rw [← ht]; exact hB
  obtain ⟨o2, rfl, hko, h⟩ := h
  rcases o2 with _ | k3
  · replace h := h.1 rfl
    refine lv_ifnonnullN hx hb dX6_takeAway_5 ?_
    refine lv_iconst (v := (-1)) hx hb dX6_takeAway_8 (by decide) ?_
    exact g_iret hx hb hr hlocks h hP hS dX6_takeAway_9
  · have hk4 := hko k3 rfl
    replace h := h.2 k3 rfl
    refine lv_ifnonnull (tgt := 10) hx hb dX6_takeAway_5 (by decide) ?_
    refine lv_iload_n hx hb dX6_takeAway_10 rfl (lv_at hl 1 rfl) ?_
    refine lv_istore_n (lv' := [(2, .int v1), (0, .ref (P k0)), (1, .int v1)]) hx hb dX6_takeAway_11 rfl hl (by decide) rfl (fun ls hl => ?_)
    obtain ⟨n18, h⟩ := h
    exact b_X6_takeAway_12 C n18 _ _ _ _ _ _ h hk0 hP hS (lv_sub hl [1, 0] rfl)
set_option maxRecDepth 100000 in
set_option maxHeartbeats 4000000 in
theorem c_X6_takeAway (l : Launch) {dC : Nat → ClassId} {dI : Nat → Nat → Nat} {cA : Nat → ClassId} {adK adV P : Nat → Nat} (hI : PInj 56 P) {k0 : Nat} {v1 : Int32} (hk0 : kdX k0 = 6) {post : Int32 → St → Prop} {S : St} (h : w_X6_takeAway k0 v1 post S) : Met l yX6_takeAway (wW yX6_takeAway cX6_takeAway 3 (some .int)) ({ frames := 1, cells := 0, slots := 0, locals := 21 } : Room) (va_Pc [.ref (P k0), .int v1] (PreX dC dI cA adK adV P S)) (va_Qi post (fun u t => VX dC dI cA P u t.heap) (PA 56 P)) 0 0 (PA 56 P) := by
  refine Met.ofW (cc := cX6_takeAway) (maxL := 3) (ret := (some .int)) (by decide) rfl ?_
  intro p e s m args below meth c s₁ B hml hv
  obtain ⟨rfl, hP, hKX⟩ := hv
  have hts : ∀ w ∈ G, w.before [.ref (P k0), .int v1].toArray s = true := fun w hw => atoms_spec (ws := wW yX6_takeAway cX6_takeAway 3 (some .int)) B.pre w (List.mem_cons_of_mem _ hw)
  have C : CtxX dC dI cA adK adV P p s m [.ref (P k0), .int v1].toArray meth c cX6_takeAway 3 (some .int) RX6 := ⟨hI, hKX, ⟨B.exec, B.bytes, hml, findClass_of_methodNamed B.named, hts⟩, B.returns, B.notSynchronized⟩
  have hS : va_S (PA 56 P) s.heap s.heap [] := va_S.rf
  have hl := lv_entry ([.ref (P k0), .int v1]) (n := 3) (Nat.le_of_ble_eq_true rfl)
  rw [lg_entry_eq]
  generalize (lg_sl ([.ref (P k0), .int v1]) ++ List.replicate (3 - (lg_sl ([.ref (P k0), .int v1])).length) Slot.unset).toArray = ls at hl ⊢
  have hl : lv_has ls 3 [(0, .ref (P k0)), (1, .int v1)] := hl
  exact e_X6_takeAway C _ _ _ _ _ _ h hk0 hP hS hl
set_option maxRecDepth 100000 in
set_option maxHeartbeats 4000000 in
theorem b_X6_becomeLike_2 {p : Program} {l : Launch} {e : Env} {s : State} {m : MethodId} {args : Array Value} {below : List Frame} {meth : Method} {c : Code} {dC : Nat → ClassId} {dI : Nat → Nat → Nat} {cA : Nat → ClassId} {adK adV P : Nat → Nat} (C : CtxX dC dI cA adK adV P p s m args meth c cX6_becomeLike 3 none RX6) {post : St → Prop}  : ∀ (n : Nat) (k0 : Nat) (k1 : Nat) (v2 : Int32) (S : St) (H : Heap) (locs : List Loc) (ls : Array Slot), w_X6_becomeLike_2 post n k0 k1 v2 S → kdX k0 = 6 → kdX k1 = 6 → VX dC dI cA P S H → va_S (PA 56 P) s.heap H locs → lv_has ls 3 [(0, .ref (P k0)), (1, .ref (P k1)), (2, .int v2)] → W p l e ({ frames := 1, cells := 0, slots := 0, locals := 21 } : Room) s m args below meth c H locs 0 0 (MQ below (va_Qv post (fun u t => VX dC dI cA P u t.heap) (PA 56 P)) args s 0 0 (PA 56 P)) (F0 m 2 ls []) := by
  have C := C
  obtain ⟨hI, hKX, ⟨hx, hb, hml, hown, hts⟩, hr, hlocks⟩ := id C
  have hK := hKX.1
  intro n
  induction n with
  | zero =>
    intro k0 k1 v2 S H locs ls h hk0 hk1 hP hS hl
    simp only [w_X6_becomeLike_2] at h
  | succ n ih =>
    intro k0 k1 v2 S H locs ls h hk0 hk1 hP hS hl
    rw [w_X6_becomeLike_2] at h
    refine lv_iload_n hx hb dX6_becomeLike_2 rfl (lv_at hl 2 rfl) ?_
    refine lv_aload_n hx hb dX6_becomeLike_3 rfl (lv_at hl 0 rfl) ?_
    refine g_get (v := .ref (P (k0 + 1))) hx hb hts inG_X6 hown hK hP (kX_lt hk0) (eX6 hk0) rfl 0 (by decide) G_fl_X6_11 rfl rfl dX6_becomeLike_4 ?_
    refine g_alen hx hb hK hP (kX_lt (kd6_1 hk0)) 2 (eX12 (kd6_1 hk0)) rfl dX6_becomeLike_7 ?_
    refine lv_icmp_ge (tgt := 41) hx hb dX6_becomeLike_8 (by decide) (fun c1 => ?_) (fun c1 => ?_)
    · replace h := h.1 c1
      refine lv_aload_n hx hb dX6_becomeLike_41 rfl (lv_at hl 0 rfl) ?_
      refine lv_aload_n hx hb dX6_becomeLike_42 rfl (lv_at hl 1 rfl) ?_
      refine g_get (v := .int (S.1 k1 1)) hx hb hts inG_X6 hown hK hP (kX_lt hk1) (eX6 hk1) rfl 1 (by decide) G_fl_X6_17 rfl rfl dX6_becomeLike_43 ?_
      replace h := h _ rfl
      refine g_putI hx hb hts inG_X6 tyX6 tyX6_ok nmX6 hown hK hI hP hS (kX_lt hk0) (eX6 hk0) rfl 1 (by decide) G_fl_X6_17 rfl rfl (ty := .int) (by decide +kernel) rfl rfl (Nat.le_of_ble_eq_true rfl) rfl h dX6_becomeLike_46 (fun S3 H locs h hP hS => ?_)
      exact g_vret hx hb hr hlocks h hP hS dX6_becomeLike_49
    · replace h := h.2 c1
      refine lv_iload_n hx hb dX6_becomeLike_11 rfl (lv_at hl 2 rfl) ?_
      refine lv_aload_n hx hb dX6_becomeLike_12 rfl (lv_at hl 1 rfl) ?_
      refine g_get (v := .ref (P (k1 + 1))) hx hb hts inG_X6 hown hK hP (kX_lt hk1) (eX6 hk1) rfl 0 (by decide) G_fl_X6_11 rfl rfl dX6_becomeLike_13 ?_
      refine g_alen hx hb hK hP (kX_lt (kd6_1 hk1)) 2 (eX12 (kd6_1 hk1)) rfl dX6_becomeLike_16 ?_
      refine lv_icmp_ge (tgt := 41) hx hb dX6_becomeLike_17 (by decide) (fun c4 => ?_) (fun c4 => ?_)
      · replace h := h.1 c4
        refine lv_aload_n hx hb dX6_becomeLike_41 rfl (lv_at hl 0 rfl) ?_
        refine lv_aload_n hx hb dX6_becomeLike_42 rfl (lv_at hl 1 rfl) ?_
        refine g_get (v := .int (S.1 k1 1)) hx hb hts inG_X6 hown hK hP (kX_lt hk1) (eX6 hk1) rfl 1 (by decide) G_fl_X6_17 rfl rfl dX6_becomeLike_43 ?_
        replace h := h _ rfl
        refine g_putI hx hb hts inG_X6 tyX6 tyX6_ok nmX6 hown hK hI hP hS (kX_lt hk0) (eX6 hk0) rfl 1 (by decide) G_fl_X6_17 rfl rfl (ty := .int) (by decide +kernel) rfl rfl (Nat.le_of_ble_eq_true rfl) rfl h dX6_becomeLike_46 (fun S6 H locs h hP hS => ?_)
        exact g_vret hx hb hr hlocks h hP hS dX6_becomeLike_49
      · replace h := h.2 c4
        refine lv_aload_n hx hb dX6_becomeLike_20 rfl (lv_at hl 0 rfl) ?_
        refine g_get (v := .ref (P (k0 + 1))) hx hb hts inG_X6 hown hK hP (kX_lt hk0) (eX6 hk0) rfl 0 (by decide) G_fl_X6_11 rfl rfl dX6_becomeLike_21 ?_
        refine lv_iload_n hx hb dX6_becomeLike_24 rfl (lv_at hl 2 rfl) ?_
        have hi7 := h.1
        replace h := h.2
        refine g_aldq hx hb hK hP (kX_lt (kd6_1 hk0)) 2 (eX12 (kd6_1 hk0)) rfl hi7 dX6_becomeLike_25 ?_
        have hk8 := kd12_e (kd6_1 hk0) hi7
        refine lv_aload_n hx hb dX6_becomeLike_26 rfl (lv_at hl 1 rfl) ?_
        refine g_get (v := .ref (P (k1 + 1))) hx hb hts inG_X6 hown hK hP (kX_lt hk1) (eX6 hk1) rfl 0 (by decide) G_fl_X6_11 rfl rfl dX6_becomeLike_27 ?_
        refine lv_iload_n hx hb dX6_becomeLike_30 rfl (lv_at hl 2 rfl) ?_
        have hi9 := h.1
        replace h := h.2
        refine g_aldq hx hb hK hP (kX_lt (kd6_1 hk1)) 2 (eX12 (kd6_1 hk1)) rfl hi9 dX6_becomeLike_31 ?_
        have hk10 := kd12_e (kd6_1 hk1) hi9
        refine va_callv (va_runV (As := [.ref _]) (rest := []) ⟨hx, hb, hml, hown, hts⟩ (c_X1_becomeLike l hI hk8 hk10 h) (cwV 1 hts gv_X6_30 rfl rfl rfl hv_X1_becomeLike ⟨Nat.le_of_ble_eq_true rfl, Nat.le_of_ble_eq_true rfl⟩) (preV_X hKX hP hS (kX_lt hk8) (eX1 hk8) rfl) rfl rfl hl.1 rfl (lv_room (Nat.le_of_ble_eq_true rfl)) dX6_becomeLike_32 ⟨Nat.le_of_ble_eq_true rfl, Nat.le_of_ble_eq_true rfl⟩) hS (fun _ _ h => h) (fun _ h => h) (fun S11 t H locs ht _ h hB _ _ hS => ?_)
        have hP : VX dC dI cA P S11 H := by rw [← ht]; exact hB
        obtain ⟨x12, ex12⟩ : ∃ y : Int32, y = v2 + 1 := ⟨_, rfl⟩
        replace h := h x12 ex12
        refine lv_iinc (v := x12) (lv' := [(2, .int x12), (0, .ref (P k0)), (1, .ref (P k1))]) hx hb dX6_becomeLike_35 hl (k := 2) rfl (by rw [ex12]; rfl) (by decide) rfl (fun ls hl => ?_)
        refine lv_goto (tgt := 2) hx hb dX6_becomeLike_38 (by decide) ?_
        exact ih _ _ _ _ _ _ _ h hk0 hk1 hP hS (lv_sub hl [1, 2, 0] rfl)
set_option maxRecDepth 100000 in
set_option maxHeartbeats 4000000 in
theorem e_X6_becomeLike {p : Program} {l : Launch} {e : Env} {s : State} {m : MethodId} {args : Array Value} {below : List Frame} {meth : Method} {c : Code} {dC : Nat → ClassId} {dI : Nat → Nat → Nat} {cA : Nat → ClassId} {adK adV P : Nat → Nat} (C : CtxX dC dI cA adK adV P p s m args meth c cX6_becomeLike 3 none RX6) {post : St → Prop} : ∀ (k0 : Nat) (k1 : Nat) (S : St) (H : Heap) (locs : List Loc) (ls : Array Slot), w_X6_becomeLike k0 k1 post S → kdX k0 = 6 → kdX k1 = 6 → VX dC dI cA P S H → va_S (PA 56 P) s.heap H locs → lv_has ls 3 [(0, .ref (P k0)), (1, .ref (P k1))] → W p l e ({ frames := 1, cells := 0, slots := 0, locals := 21 } : Room) s m args below meth c H locs 0 0 (MQ below (va_Qv post (fun u t => VX dC dI cA P u t.heap) (PA 56 P)) args s 0 0 (PA 56 P)) (F0 m 0 ls []) := by
  have C := C
  obtain ⟨hI, hKX, ⟨hx, hb, hml, hown, hts⟩, hr, hlocks⟩ := id C
  have hK := hKX.1
  intro k0 k1 S H locs ls h hk0 hk1 hP hS hl
  rw [w_X6_becomeLike] at h
  refine lv_iconst (v := 0) hx hb dX6_becomeLike_0 (by decide) ?_
  refine lv_istore_n (lv' := [(2, .int 0), (0, .ref (P k0)), (1, .ref (P k1))]) hx hb dX6_becomeLike_1 rfl hl (by decide) rfl (fun ls hl => ?_)
  obtain ⟨n13, h⟩ := h
  exact b_X6_becomeLike_2 C n13 _ _ _ _ _ _ _ h hk0 hk1 hP hS (lv_sub hl [1, 2, 0] rfl)
set_option maxRecDepth 100000 in
set_option maxHeartbeats 4000000 in
theorem c_X6_becomeLike (l : Launch) {dC : Nat → ClassId} {dI : Nat → Nat → Nat} {cA : Nat → ClassId} {adK adV P : Nat → Nat} (hI : PInj 56 P) {k0 : Nat} {k1 : Nat} (hk0 : kdX k0 = 6) (hk1 : kdX k1 = 6) {post : St → Prop} {S : St} (h : w_X6_becomeLike k0 k1 post S) : Met l yX6_becomeLike (wW yX6_becomeLike cX6_becomeLike 3 none) ({ frames := 1, cells := 0, slots := 0, locals := 21 } : Room) (va_Pc [.ref (P k0), .ref (P k1)] (PreX dC dI cA adK adV P S)) (va_Qv post (fun u t => VX dC dI cA P u t.heap) (PA 56 P)) 0 0 (PA 56 P) := by
  refine Met.ofW (cc := cX6_becomeLike) (maxL := 3) (ret := none) (by decide) rfl ?_
  intro p e s m args below meth c s₁ B hml hv
  obtain ⟨rfl, hP, hKX⟩ := hv
  have hts : ∀ w ∈ G, w.before [.ref (P k0), .ref (P k1)].toArray s = true := fun w hw => atoms_spec (ws := wW yX6_becomeLike cX6_becomeLike 3 none) B.pre w (List.mem_cons_of_mem _ hw)
  have C : CtxX dC dI cA adK adV P p s m [.ref (P k0), .ref (P k1)].toArray meth c cX6_becomeLike 3 none RX6 := ⟨hI, hKX, ⟨B.exec, B.bytes, hml, findClass_of_methodNamed B.named, hts⟩, B.returns, B.notSynchronized⟩
  have hS : va_S (PA 56 P) s.heap s.heap [] := va_S.rf
  have hl := lv_entry ([.ref (P k0), .ref (P k1)]) (n := 3) (Nat.le_of_ble_eq_true rfl)
  rw [lg_entry_eq]
  generalize (lg_sl ([.ref (P k0), .ref (P k1)]) ++ List.replicate (3 - (lg_sl ([.ref (P k0), .ref (P k1)])).length) Slot.unset).toArray = ls at hl ⊢
  have hl : lv_has ls 3 [(0, .ref (P k0)), (1, .ref (P k1))] := hl
  exact e_X6_becomeLike C _ _ _ _ _ _ h hk0 hk1 hP hS hl
