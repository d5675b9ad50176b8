set_option maxRecDepth 100000 in
set_option maxHeartbeats 4000000 in
theorem b_X1_ninesOfBlocks_42 {p : Program} {l : Launch} {e : Env} {s : State} {m : MethodId} {args : Array Value} {below : List Frame} {meth : Method} {c : Code} {dC : Nat → ClassId} {dI : Nat → Nat → Nat} {cA : Nat → ClassId} {adK adV P : Nat → Nat} (C : CtxX dC dI cA adK adV P p s m args meth c cX1_ninesOfBlocks 6 (some .int) RX1) {post : Int32 → St → Prop} {K17 : Nat → Int32 → Int32 → Int32 → Int32 → St → Prop} (hK17 : ∀ (k0 : Nat) (v2 : Int32) (v3 : Int32) (v4 : Int32) (v5 : Int32) (S : St) (H : Heap) (locs : List Loc) (ls : Array Slot), K17 k0 v2 v3 v4 v5 S → kdX k0 = 1 → VX dC dI cA P S H → va_S (PA 56 P) s.heap H locs → lv_has ls 6 [(0, .ref (P k0)), (2, .int v2), (3, .int v3), (4, .int v4), (5, .int v5)] → W p l e ({ frames := 2, cells := 0, slots := 0, locals := 44 } : Room) s m args below meth c H locs 0 0 (MQ below (va_Qi post (fun u t => VX dC dI cA P u t.heap) (PA 56 P)) args s 0 0 (PA 56 P)) (F0 m 17 ls [])) : ∀ (k0 : Nat) (v2 : Int32) (v4 : Int32) (v5 : Int32) (y0 : Int32) (y1 : Int32) (S : St) (H : Heap) (locs : List Loc) (ls : Array Slot), w_X1_ninesOfBlocks_42 post K17 k0 v2 v4 v5 y0 y1 S → kdX k0 = 1 → VX dC dI cA P S H → va_S (PA 56 P) s.heap H locs → lv_has ls 6 [(0, .ref (P k0)), (2, .int v2), (4, .int v4), (5, .int v5)] → W p l e ({ frames := 2, cells := 0, slots := 0, locals := 44 } : Room) s m args below meth c H locs 0 0 (MQ below (va_Qi post (fun u t => VX dC dI cA P u t.heap) (PA 56 P)) args s 0 0 (PA 56 P)) (F0 m 42 ls [.int y1, .int y0]) := by
  have C := C
  obtain ⟨hI, hKX, ⟨hx, hb, hml, hown, hts⟩, hr, hlocks⟩ := id C
  have hK := hKX.1
  intro k0 v2 v4 v5 y0 y1 S H locs ls h hk0 hP hS hl
  rw [w_X1_ninesOfBlocks_42] at h
  refine lv_iadd hx hb dX1_ninesOfBlocks_42 ?_
  refine lv_topi (fun x16 ex16 => ?_)
  replace h := h x16 ex16
  refine lv_istore_n (lv' := [(3, .int x16), (0, .ref (P k0)), (2, .int v2), (4, .int v4), (5, .int v5)]) hx hb dX1_ninesOfBlocks_43 rfl hl (by decide) rfl (fun ls hl => ?_)
  refine lv_aload_n hx hb dX1_ninesOfBlocks_44 rfl (lv_at hl 1 rfl) ?_
  refine lv_iload hx hb dX1_ninesOfBlocks_45 (lv_at hl 3 rfl) ?_
  refine va_calli (va_runV (As := [.int _]) (rest := []) ⟨hx, hb, hml, hown, hts⟩ (c_X1_restAfter l hI hk0 h) (cwV 1 hts gv_X1_49 rfl rfl rfl hv_X1_restAfter ⟨Nat.le_of_ble_eq_true rfl, Nat.le_of_ble_eq_true rfl⟩) (preV_X hKX hP hS (kX_lt hk0) (eX1 hk0) rfl) rfl rfl hl.1 rfl (lv_room (Nat.le_of_ble_eq_true rfl)) dX1_ninesOfBlocks_47 ⟨Nat.le_of_ble_eq_true rfl, Nat.le_of_ble_eq_true rfl⟩) hS (fun _ _ h => h) (fun _ h => h) (fun r18 S17 t H locs ht _ h hB _ _ hS => ?_)
  have hP : VX dC dI cA P S17 H := by rw [← ht]; exact hB
  refine lv_istore (lv' := [(4, .int r18), (3, .int x16), (0, .ref (P k0)), (2, .int v2), (5, .int v5)]) hx hb dX1_ninesOfBlocks_50 hl (by decide) rfl (fun ls hl => ?_)
  obtain ⟨x19, ex19⟩ : ∃ y : Int32, y = v5 + 1 := ⟨_, rfl⟩
  replace h := h x19 ex19
  refine lv_iinc (v := x19) (lv' := [(5, .int x19), (4, .int r18), (3, .int x16), (0, .ref (P k0)), (2, .int v2)]) hx hb dX1_ninesOfBlocks_52 hl (k := 4) rfl (by rw [ex19]; rfl) (by decide) rfl (fun ls hl => ?_)
  refine lv_goto (tgt := 17) hx hb dX1_ninesOfBlocks_55 (by decide) ?_
  exact hK17 _ _ _ _ _ _ _ _ _ h hk0 hP hS (lv_sub hl [3, 4, 2, 1, 0] rfl)
set_option maxRecDepth 100000 in
set_option maxHeartbeats 4000000 in
theorem b_X1_ninesOfBlocks_17 {p : Program} {l : Launch} {e : Env} {s : State} {m : MethodId} {args : Array Value} {below : List Frame} {meth : Method} {c : Code} {dC : Nat → ClassId} {dI : Nat → Nat → Nat} {cA : Nat → ClassId} {adK adV P : Nat → Nat} (C : CtxX dC dI cA adK adV P p s m args meth c cX1_ninesOfBlocks 6 (some .int) RX1) {post : Int32 → St → Prop}  : ∀ (n : Nat) (k0 : Nat) (v2 : Int32) (v3 : Int32) (v4 : Int32) (v5 : Int32) (S : St) (H : Heap) (locs : List Loc) (ls : Array Slot), w_X1_ninesOfBlocks_17 post n k0 v2 v3 v4 v5 S → kdX k0 = 1 → VX dC dI cA P S H → va_S (PA 56 P) s.heap H locs → lv_has ls 6 [(0, .ref (P k0)), (2, .int v2), (3, .int v3), (4, .int v4), (5, .int v5)] → W p l e ({ frames := 2, cells := 0, slots := 0, locals := 44 } : Room) s m args below meth c H locs 0 0 (MQ below (va_Qi post (fun u t => VX dC dI cA P u t.heap) (PA 56 P)) args s 0 0 (PA 56 P)) (F0 m 17 ls []) := by
  have C := C
  obtain ⟨hI, hKX, ⟨hx, hb, hml, hown, hts⟩, hr, hlocks⟩ := id C
  have hK := hKX.1
  intro n
  induction n with
  | zero =>
    intro k0 v2 v3 v4 v5 S H locs ls h hk0 hP hS hl
    simp only [w_X1_ninesOfBlocks_17] at h
  | succ n ih =>
    intro k0 v2 v3 v4 v5 S H locs ls h hk0 hP hS hl
    rw [w_X1_ninesOfBlocks_17] at h
    refine lv_iload hx hb dX1_ninesOfBlocks_17 (lv_at hl 4 rfl) ?_
    refine lv_aload_n hx hb dX1_ninesOfBlocks_19 rfl (lv_at hl 0 rfl) ?_
    refine g_get (v := .int (S.1 k0 4)) hx hb hts inG_X1 hown hK hP (kX_lt hk0) (eX1 hk0) rfl 4 (by decide) G_fl_X1_24 rfl rfl dX1_ninesOfBlocks_20 ?_
    refine lv_icmp_ge (tgt := 58) hx hb dX1_ninesOfBlocks_23 (by decide) (fun c4 => ?_) (fun c4 => ?_)
    · replace h := h.1 c4
      refine lv_iload_n hx hb dX1_ninesOfBlocks_58 rfl (lv_at hl 2 rfl) ?_
      refine lv_aload_n hx hb dX1_ninesOfBlocks_59 rfl (lv_at hl 0 rfl) ?_
      refine g_get (v := .int (S.1 k0 1)) hx hb hts inG_X1 hown hK hP (kX_lt hk0) (eX1 hk0) rfl 1 (by decide) G_fl_X1_15 rfl rfl dX1_ninesOfBlocks_60 ?_
      replace h := h _ rfl
      refine va_calli (va_runSN (As := [.int _, .int _]) (rest := []) ⟨hx, hb, hml, hown, hts⟩ (c_X8_remainder l hI h) ⟨va_cnB 2 hts (good_W G_cd_X8_remainder) rfl rfl rfl (kx_n2 hKX) (hts _ G_in_X8) hd_X8_remainder ⟨Nat.le_of_ble_eq_true rfl, Nat.le_of_ble_eq_true rfl⟩, hts _ G_st_X8_remainder, trivial⟩ (preS_X hKX hP hS) rfl rfl hl.1 rfl (lv_room (Nat.le_of_ble_eq_true rfl)) dX1_ninesOfBlocks_63 ⟨Nat.le_of_ble_eq_true rfl, Nat.le_of_ble_eq_true rfl⟩) hS (fun _ _ h => h) (fun _ h => h) (fun r7 S6 t H locs ht _ h hB _ _ hS => ?_)
      have hP : VX dC dI cA P S6 H := by rw [← ht]; exact hB
      refine lv_if_ne (tgt := 83) hx hb dX1_ninesOfBlocks_66 (by decide) (fun c8 => ?_) (fun c8 => ?_)
      · replace h := h.2 c8
        refine lv_bipush (v := (-2)) hx hb dX1_ninesOfBlocks_83 (by decide) ?_
        exact g_iret hx hb hr hlocks h hP hS dX1_ninesOfBlocks_85
      · replace h := h.1 c8
        refine lv_iload_n hx hb dX1_ninesOfBlocks_69 rfl (lv_at hl 2 rfl) ?_
        refine lv_i2l hx hb dX1_ninesOfBlocks_70 rfl ?_
        refine lv_aload_n hx hb dX1_ninesOfBlocks_71 rfl (lv_at hl 0 rfl) ?_
        refine g_get (v := .int (S6.1 k0 1)) hx hb hts inG_X1 hown hK hP (kX_lt hk0) (eX1 hk0) rfl 1 (by decide) G_fl_X1_15 rfl rfl dX1_ninesOfBlocks_72 ?_
        refine lv_i2l hx hb dX1_ninesOfBlocks_75 rfl ?_
        replace h := h _ rfl
        replace h := h _ rfl
        refine va_calll (va_runSN (As := [.long _, .long _]) (rest := []) ⟨hx, hb, hml, hown, hts⟩ (c_X8_quotient l hI h) ⟨va_cnB 2 hts (good_W G_cd_X8_quotient) rfl rfl rfl (kx_n3 hKX) (hts _ G_in_X8) hd_X8_quotient ⟨Nat.le_of_ble_eq_true rfl, Nat.le_of_ble_eq_true rfl⟩, hts _ G_st_X8_quotient, trivial⟩ (preS_X hKX hP hS) rfl rfl hl.1 rfl (lv_room (Nat.le_of_ble_eq_true rfl)) dX1_ninesOfBlocks_76 ⟨Nat.le_of_ble_eq_true rfl, Nat.le_of_ble_eq_true rfl⟩) hS (fun _ _ h => h) (fun _ h => h) (fun r12 S11 t H locs ht _ h hB _ _ hS => ?_)
        have hP : VX dC dI cA P S11 H := by rw [← ht]; exact hB
        refine lv_l2i hx hb dX1_ninesOfBlocks_79 rfl ?_
        refine lv_goto (tgt := 85) hx hb dX1_ninesOfBlocks_80 (by decide) ?_
        exact g_iret hx hb hr hlocks h hP hS dX1_ninesOfBlocks_85
    · replace h := h.2 c4
      refine lv_iload_n hx hb dX1_ninesOfBlocks_26 rfl (lv_at hl 2 rfl) ?_
      refine lv_iload hx hb dX1_ninesOfBlocks_27 (lv_at hl 4 rfl) ?_
      refine lv_iload_n hx hb dX1_ninesOfBlocks_29 rfl (lv_at hl 1 rfl) ?_
      refine va_calli (va_runSN (As := [.int _, .int _]) (rest := [.int _]) ⟨hx, hb, hml, hown, hts⟩ (c_X8_remainder l hI h) ⟨va_cnB 2 hts (good_W G_cd_X8_remainder) rfl rfl rfl (kx_n2 hKX) (hts _ G_in_X8) hd_X8_remainder ⟨Nat.le_of_ble_eq_true rfl, Nat.le_of_ble_eq_true rfl⟩, hts _ G_st_X8_remainder, trivial⟩ (preS_X hKX hP hS) rfl rfl hl.1 rfl (lv_room (Nat.le_of_ble_eq_true rfl)) dX1_ninesOfBlocks_30 ⟨Nat.le_of_ble_eq_true rfl, Nat.le_of_ble_eq_true rfl⟩) hS (fun _ _ h => h) (fun _ h => h) (fun r14 S13 t H locs ht _ h hB _ _ hS => ?_)
      have hP : VX dC dI cA P S13 H := by rw [← ht]; exact hB
      refine lv_if_ne (tgt := 41) hx hb dX1_ninesOfBlocks_33 (by decide) (fun c15 => ?_) (fun c15 => ?_)
      · replace h := h.2 c15
        refine lv_iconst (v := 0) hx hb dX1_ninesOfBlocks_41 (by decide) ?_
        exact b_X1_ninesOfBlocks_42 C ih _ _ _ _ _ _ _ _ _ _ h hk0 hP hS (lv_sub hl [0, 1, 3, 4] rfl)
      · replace h := h.1 c15
        refine lv_iload hx hb dX1_ninesOfBlocks_36 (lv_at hl 3 rfl) ?_
        refine lv_goto (tgt := 42) hx hb dX1_ninesOfBlocks_38 (by decide) ?_
        exact b_X1_ninesOfBlocks_42 C ih _ _ _ _ _ _ _ _ _ _ h hk0 hP hS (lv_sub hl [0, 1, 3, 4] rfl)
set_option maxRecDepth 100000 in
set_option maxHeartbeats 4000000 in
theorem e_X1_ninesOfBlocks {p : Program} {l : Launch} {e : Env} {s : State} {m : MethodId} {args : Array Value} {below : List Frame} {meth : Method} {c : Code} {dC : Nat → ClassId} {dI : Nat → Nat → Nat} {cA : Nat → ClassId} {adK adV P : Nat → Nat} (C : CtxX dC dI cA adK adV P p s m args meth c cX1_ninesOfBlocks 6 (some .int) RX1) {post : Int32 → St → Prop} : ∀ (k0 : Nat) (v1 : Int32) (S : St) (H : Heap) (locs : List Loc) (ls : Array Slot), w_X1_ninesOfBlocks k0 v1 post S → kdX k0 = 1 → VX dC dI cA P S H → va_S (PA 56 P) s.heap H locs → lv_has ls 6 [(0, .ref (P k0)), (1, .int v1)] → W p l e ({ frames := 2, cells := 0, slots := 0, locals := 44 } : Room) s m args below meth c H locs 0 0 (MQ below (va_Qi post (fun u t => VX dC dI cA P u t.heap) (PA 56 P)) args s 0 0 (PA 56 P)) (F0 m 0 ls []) := by
  have C := C
  obtain ⟨hI, hKX, ⟨hx, hb, hml, hown, hts⟩, hr, hlocks⟩ := id C
  have hK := hKX.1
  intro k0 v1 S H locs ls h hk0 hP hS hl
  rw [w_X1_ninesOfBlocks] at h
  refine lv_aload_n hx hb dX1_ninesOfBlocks_0 rfl (lv_at hl 0 rfl) ?_
  refine lv_iload_n hx hb dX1_ninesOfBlocks_1 rfl (lv_at hl 1 rfl) ?_
  refine va_calli (va_runV (As := [.int _]) (rest := []) ⟨hx, hb, hml, hown, hts⟩ (c_X1_blockWidth l hI hk0 h) (cwV 1 hts gv_X1_67 rfl rfl rfl hv_X1_blockWidth ⟨Nat.le_of_ble_eq_true rfl, Nat.le_of_ble_eq_true rfl⟩) (preV_X hKX hP hS (kX_lt hk0) (eX1 hk0) rfl) rfl rfl hl.1 rfl (lv_room (Nat.le_of_ble_eq_true rfl)) dX1_ninesOfBlocks_2 ⟨Nat.le_of_ble_eq_true rfl, Nat.le_of_ble_eq_true rfl⟩) hS (fun _ _ h => h) (fun _ h => h) (fun r2 S1 t H locs ht _ h hB _ _ hS => ?_)
  have hP : VX dC dI cA P S1 H := by rw [← ht]; exact hB
  refine lv_istore_n (lv' := [(2, .int r2), (0, .ref (P k0)), (1, .int v1)]) hx hb dX1_ninesOfBlocks_5 rfl hl (by decide) rfl (fun ls hl => ?_)
  refine lv_iconst (v := 0) hx hb dX1_ninesOfBlocks_6 (by decide) ?_
  refine lv_istore_n (lv' := [(3, .int 0), (2, .int r2), (0, .ref (P k0)), (1, .int v1)]) hx hb dX1_ninesOfBlocks_7 rfl hl (by decide) rfl (fun ls hl => ?_)
  refine lv_aload_n hx hb dX1_ninesOfBlocks_8 rfl (lv_at hl 2 rfl) ?_
  refine g_get (v := .int (S1.1 k0 5)) hx hb hts inG_X1 hown hK hP (kX_lt hk0) (eX1 hk0) rfl 5 (by decide) G_fl_X1_27 rfl rfl dX1_ninesOfBlocks_9 ?_
  refine lv_topi (fun x3 ex3 => ?_)
  replace h := h x3 ex3
  refine lv_istore (lv' := [(4, .int x3), (3, .int 0), (2, .int r2), (0, .ref (P k0)), (1, .int v1)]) hx hb dX1_ninesOfBlocks_12 hl (by decide) rfl (fun ls hl => ?_)
  refine lv_iconst (v := 0) hx hb dX1_ninesOfBlocks_14 (by decide) ?_
  refine lv_istore (lv' := [(5, .int 0), (4, .int x3), (3, .int 0), (2, .int r2), (0, .ref (P k0)), (1, .int v1)]) hx hb dX1_ninesOfBlocks_15 hl (by decide) rfl (fun ls hl => ?_)
  obtain ⟨n20, h⟩ := h
  exact b_X1_ninesOfBlocks_17 C n20 _ _ _ _ _ _ _ _ _ h hk0 hP hS (lv_sub hl [4, 3, 2, 1, 0] rfl)
set_option maxRecDepth 100000 in
set_option maxHeartbeats 4000000 in
theorem c_X1_ninesOfBlocks (l : Launch) {dC : Nat → ClassId} {dI : Nat → Nat → Nat} {cA : Nat → ClassId} {adK adV P : Nat → Nat} (hI : PInj 56 P) {k0 : Nat} {v1 : Int32} (hk0 : kdX k0 = 1) {post : Int32 → St → Prop} {S : St} (h : w_X1_ninesOfBlocks k0 v1 post S) : Met l yX1_ninesOfBlocks (wW yX1_ninesOfBlocks cX1_ninesOfBlocks 6 (some .int)) ({ frames := 2, cells := 0, slots := 0, locals := 44 } : Room) (va_Pc [.ref (P k0), .int v1] (PreX dC dI cA adK adV P S)) (va_Qi post (fun u t => VX dC dI cA P u t.heap) (PA 56 P)) 0 0 (PA 56 P) := by
  refine Met.ofW (cc := cX1_ninesOfBlocks) (maxL := 6) (ret := (some .int)) (by decide) rfl ?_
  intro p e s m args below meth c s₁ B hml hv
  obtain ⟨rfl, hP, hKX⟩ := hv
  have hts : ∀ w ∈ G, w.before [.ref (P k0), .int v1].toArray s = true := fun w hw => atoms_spec (ws := wW yX1_ninesOfBlocks cX1_ninesOfBlocks 6 (some .int)) B.pre w (List.mem_cons_of_mem _ hw)
  have C : CtxX dC dI cA adK adV P p s m [.ref (P k0), .int v1].toArray meth c cX1_ninesOfBlocks 6 (some .int) RX1 := ⟨hI, hKX, ⟨B.exec, B.bytes, hml, findClass_of_methodNamed B.named, hts⟩, B.returns, B.notSynchronized⟩
  have hS : va_S (PA 56 P) s.heap s.heap [] := va_S.rf
  have hl := lv_entry ([.ref (P k0), .int v1]) (n := 6) (Nat.le_of_ble_eq_true rfl)
  rw [lg_entry_eq]
  generalize (lg_sl ([.ref (P k0), .int v1]) ++ List.replicate (6 - (lg_sl ([.ref (P k0), .int v1])).length) Slot.unset).toArray = ls at hl ⊢
  have hl : lv_has ls 6 [(0, .ref (P k0)), (1, .int v1)] := hl
  exact e_X1_ninesOfBlocks C _ _ _ _ _ _ h hk0 hP hS hl
set_option maxRecDepth 100000 in
set_option maxHeartbeats 4000000 in
theorem b_X8_isPrime_2 {p : Program} {l : Launch} {e : Env} {s : State} {m : MethodId} {args : Array Value} {below : List Frame} {meth : Method} {c : Code} {dC : Nat → ClassId} {dI : Nat → Nat → Nat} {cA : Nat → ClassId} {adK adV P : Nat → Nat} (C : CtxX dC dI cA adK adV P p s m args meth c cX8_isPrime 2 (some .boolean) RX8) {post : Int32 → St → Prop}  : ∀ (n : Nat) (v0 : Int32) (v1 : Int32) (S : St) (H : Heap) (locs : List Loc) (ls : Array Slot), w_X8_isPrime_2 post n v0 v1 S → VX dC dI cA P S H → va_S (PA 56 P) s.heap H locs → lv_has ls 2 [(0, .int v0), (1, .int v1)] → W p l e ({ frames := 1, cells := 0, slots := 0, locals := 21 } : Room) s m args below meth c H locs 0 0 (MQ below (va_Qi post (fun u t => VX dC dI cA P u t.heap) (PA 56 P)) args s 0 0 (PA 56 P)) (F0 m 2 ls []) := by
  have C := C
  obtain ⟨hI, hKX, ⟨hx, hb, hml, hown, hts⟩, hr, hlocks⟩ := id C
  have hK := hKX.1
  intro n
  induction n with
  | zero =>
    intro v0 v1 S H locs ls h hP hS hl
    simp only [w_X8_isPrime_2] at h
  | succ n ih =>
    intro v0 v1 S H locs ls h hP hS hl
    rw [w_X8_isPrime_2] at h
    refine lv_iload_n hx hb dX8_isPrime_2 rfl (lv_at hl 1 rfl) ?_
    refine lv_iload_n hx hb dX8_isPrime_3 rfl (lv_at hl 1 rfl) ?_
    refine lv_imul hx hb dX8_isPrime_4 ?_
    refine lv_iload_n hx hb dX8_isPrime_5 rfl (lv_at hl 0 rfl) ?_
    refine lv_icmp_gt (tgt := 25) hx hb dX8_isPrime_6 (by decide) (fun c1 => ?_) (fun c1 => ?_)
    · replace h := h.1 c1
      refine lv_iload_n hx hb dX8_isPrime_25 rfl (lv_at hl 0 rfl) ?_
      refine lv_iconst (v := 1) hx hb dX8_isPrime_26 (by decide) ?_
      refine lv_icmp_le (tgt := 34) hx hb dX8_isPrime_27 (by decide) (fun c2 => ?_) (fun c2 => ?_)
      · replace h := h.1 c2
        refine lv_iconst (v := 0) hx hb dX8_isPrime_34 (by decide) ?_
        exact g_zret hx hb hr hlocks bz_0 h hP hS dX8_isPrime_35
      · replace h := h.2 c2
        refine lv_iconst (v := 1) hx hb dX8_isPrime_30 (by decide) ?_
        refine lv_goto (tgt := 35) hx hb dX8_isPrime_31 (by decide) ?_
        exact g_zret hx hb hr hlocks bz_1 h hP hS dX8_isPrime_35
    · replace h := h.2 c1
      refine lv_iload_n hx hb dX8_isPrime_9 rfl (lv_at hl 0 rfl) ?_
      refine lv_iload_n hx hb dX8_isPrime_10 rfl (lv_at hl 1 rfl) ?_
      refine va_calli (va_runS (As := [.int _, .int _]) (rest := []) ⟨hx, hb, hml, hown, hts⟩ (c_X8_remainder l hI h) (va_cwS 2 hts gs_X8_171 rfl rfl rfl hd_X8_remainder ⟨Nat.le_of_ble_eq_true rfl, Nat.le_of_ble_eq_true rfl⟩) (preS_X hKX hP hS) rfl rfl hl.1 rfl (lv_room (Nat.le_of_ble_eq_true rfl)) dX8_isPrime_11 ⟨Nat.le_of_ble_eq_true rfl, Nat.le_of_ble_eq_true rfl⟩) hS (fun _ _ h => h) (fun _ h => h) (fun r4 S3 t H locs ht _ h hB _ _ hS => ?_)
      have hP : VX dC dI cA P S3 H := by rw [← ht]; exact hB
      refine lv_if_ne (tgt := 19) hx hb dX8_isPrime_14 (by decide) (fun c5 => ?_) (fun c5 => ?_)
      · replace h := h.2 c5
        obtain ⟨x6, ex6⟩ : ∃ y : Int32, y = v1 + 1 := ⟨_, rfl⟩
        replace h := h x6 ex6
        refine lv_iinc (v := x6) (lv' := [(1, .int x6), (0, .int v0)]) hx hb dX8_isPrime_19 hl (k := 1) rfl (by rw [ex6]; rfl) (by decide) rfl (fun ls hl => ?_)
        refine lv_goto (tgt := 2) hx hb dX8_isPrime_22 (by decide) ?_
        exact ih _ _ _ _ _ _ h  hP hS (lv_sub hl [1, 0] rfl)
      · replace h := h.1 c5
        refine lv_iconst (v := 0) hx hb dX8_isPrime_17 (by decide) ?_
        exact g_zret hx hb hr hlocks bz_0 h hP hS dX8_isPrime_18
set_option maxRecDepth 100000 in
set_option maxHeartbeats 4000000 in
theorem e_X8_isPrime {p : Program} {l : Launch} {e : Env} {s : State} {m : MethodId} {args : Array Value} {below : List Frame} {meth : Method} {c : Code} {dC : Nat → ClassId} {dI : Nat → Nat → Nat} {cA : Nat → ClassId} {adK adV P : Nat → Nat} (C : CtxX dC dI cA adK adV P p s m args meth c cX8_isPrime 2 (some .boolean) RX8) {post : Int32 → St → Prop} : ∀ (v0 : Int32) (S : St) (H : Heap) (locs : List Loc) (ls : Array Slot), w_X8_isPrime v0 post S → VX dC dI cA P S H → va_S (PA 56 P) s.heap H locs → lv_has ls 2 [(0, .int v0)] → W p l e ({ frames := 1, cells := 0, slots := 0, locals := 21 } : Room) s m args below meth c H locs 0 0 (MQ below (va_Qi post (fun u t => VX dC dI cA P u t.heap) (PA 56 P)) args s 0 0 (PA 56 P)) (F0 m 0 ls []) := by
  have C := C
  obtain ⟨hI, hKX, ⟨hx, hb, hml, hown, hts⟩, hr, hlocks⟩ := id C
  have hK := hKX.1
  intro v0 S H locs ls h hP hS hl
  rw [w_X8_isPrime] at h
  refine lv_iconst (v := 2) hx hb dX8_isPrime_0 (by decide) ?_
  refine lv_istore_n (lv' := [(1, .int 2), (0, .int v0)]) hx hb dX8_isPrime_1 rfl hl (by decide) rfl (fun ls hl => ?_)
  obtain ⟨n7, h⟩ := h
  exact b_X8_isPrime_2 C n7 _ _ _ _ _ _ h  hP hS (lv_sub hl [1, 0] rfl)
set_option maxRecDepth 100000 in
set_option maxHeartbeats 4000000 in
theorem c_X8_isPrime (l : Launch) {dC : Nat → ClassId} {dI : Nat → Nat → Nat} {cA : Nat → ClassId} {adK adV P : Nat → Nat} (hI : PInj 56 P) {v0 : Int32}  {post : Int32 → St → Prop} {S : St} (h : w_X8_isPrime v0 post S) : Met l yX8_isPrime (wW yX8_isPrime cX8_isPrime 2 (some .boolean)) ({ frames := 1, cells := 0, slots := 0, locals := 21 } : Room) (va_Pc [.int v0] (PreX dC dI cA adK adV P S)) (va_Qi post (fun u t => VX dC dI cA P u t.heap) (PA 56 P)) 0 0 (PA 56 P) := by
  refine Met.ofW (cc := cX8_isPrime) (maxL := 2) (ret := (some .boolean)) (by decide) rfl ?_
  intro p e s m args below meth c s₁ B hml hv
  obtain ⟨rfl, hP, hKX⟩ := hv
  have hts : ∀ w ∈ G, w.before [.int v0].toArray s = true := fun w hw => atoms_spec (ws := wW yX8_isPrime cX8_isPrime 2 (some .boolean)) B.pre w (List.mem_cons_of_mem _ hw)
  have C : CtxX dC dI cA adK adV P p s m [.int v0].toArray meth c cX8_isPrime 2 (some .boolean) RX8 := ⟨hI, hKX, ⟨B.exec, B.bytes, hml, findClass_of_methodNamed B.named, hts⟩, B.returns, B.notSynchronized⟩
  have hS : va_S (PA 56 P) s.heap s.heap [] := va_S.rf
  have hl := lv_entry ([.int v0]) (n := 2) (Nat.le_of_ble_eq_true rfl)
  rw [lg_entry_eq]
  generalize (lg_sl ([.int v0]) ++ List.replicate (2 - (lg_sl ([.int v0])).length) Slot.unset).toArray = ls at hl ⊢
  have hl : lv_has ls 2 [(0, .int v0)] := hl
  exact e_X8_isPrime C _ _ _ _ _ h  hP hS hl
set_option maxRecDepth 100000 in
set_option maxHeartbeats 4000000 in
theorem b_X0_isSo_30 {p : Program} {l : Launch} {e : Env} {s : State} {m : MethodId} {args : Array Value} {below : List Frame} {meth : Method} {c : Code} {dC : Nat → ClassId} {dI : Nat → Nat → Nat} {cA : Nat → ClassId} {adK adV P : Nat → Nat} (C : CtxX dC dI cA adK adV P p s m args meth c cX0_isSo 4 (some .boolean) RX0) {post : Int32 → St → Prop}  : ∀ (k0 : Nat) (v1 : Int32) (v2 : Int32) (y0 : Int32) (S : St) (H : Heap) (locs : List Loc) (ls : Array Slot), w_X0_isSo_30 post k0 v1 v2 y0 S → kdX k0 = 0 → VX dC dI cA P S H → va_S (PA 56 P) s.heap H locs → lv_has ls 4 [(0, .ref (P k0)), (1, .int v1), (2, .int v2)] → W p l e ({ frames := 3, cells := 0, slots := 0, locals := 69 } : Room) s m args below meth c H locs 0 0 (MQ below (va_Qi post (fun u t => VX dC dI cA P u t.heap) (PA 56 P)) args s 0 0 (PA 56 P)) (F0 m 30 ls [.int y0]) := by
  have C := C
  obtain ⟨hI, hKX, ⟨hx, hb, hml, hown, hts⟩, hr, hlocks⟩ := id C
  have hK := hKX.1
  intro k0 v1 v2 y0 S H locs ls h hk0 hP hS hl
  rw [w_X0_isSo_30] at h
  refine lv_istore_n (lv' := [(3, .int y0), (0, .ref (P k0)), (1, .int v1), (2, .int v2)]) hx hb dX0_isSo_30 rfl hl (by decide) rfl (fun ls hl => ?_)
  refine lv_iload_n hx hb dX0_isSo_31 rfl (lv_at hl 2 rfl) ?_
  by_cases c4 : v1 = 0
  · replace h := h.1 c4
    refine lv_tableIn (off := 48) (tgt := 80) hx hb dX0_isSo_32 (by rw [c4]; decide) (by rw [c4]; decide) (by rw [c4]; decide) (by decide) ?_
    refine lv_aload_n hx hb dX0_isSo_80 rfl (lv_at hl 1 rfl) ?_
    refine g_get (v := .ref (P (k0 + 2))) hx hb hts inG_X0 hown hK hP (kX_lt hk0) (eX0 hk0) rfl 3 (by decide) G_fl_X0_25 rfl rfl dX0_isSo_81 ?_
    refine va_calli (va_runV (As := []) (rest := []) ⟨hx, hb, hml, hown, hts⟩ (c_X1_ends l hI (kd0_2 hk0) h) (cwV 0 hts gv_X0_73 rfl rfl rfl hv_X1_ends ⟨Nat.le_of_ble_eq_true rfl, Nat.le_of_ble_eq_true rfl⟩) (preV_X hKX hP hS (kX_lt (kd0_2 hk0)) (eX1 (kd0_2 hk0)) rfl) rfl rfl hl.1 rfl (lv_room (Nat.le_of_ble_eq_true rfl)) dX0_isSo_84 ⟨Nat.le_of_ble_eq_true rfl, Nat.le_of_ble_eq_true rfl⟩) hS (fun _ _ h => h) (fun _ h => h) (fun r6 S5 t H locs ht _ h hB _ _ hS => ?_)
    have hP : VX dC dI cA P S5 H := by rw [← ht]; exact hB
    exact g_zret hx hb hr hlocks h.1 h.2 hP hS dX0_isSo_87
  replace h := h.2 c4
  by_cases c7 : v1 = 1
  · replace h := h.1 c7
    refine lv_tableIn (off := 56) (tgt := 88) hx hb dX0_isSo_32 (by rw [c7]; decide) (by rw [c7]; decide) (by rw [c7]; decide) (by decide) ?_
    refine lv_aload_n hx hb dX0_isSo_88 rfl (lv_at hl 1 rfl) ?_
    refine g_get (v := .ref (P (k0 + 2))) hx hb hts inG_X0 hown hK hP (kX_lt hk0) (eX0 hk0) rfl 3 (by decide) G_fl_X0_25 rfl rfl dX0_isSo_89 ?_
    refine va_calli (va_runV (As := []) (rest := []) ⟨hx, hb, hml, hown, hts⟩ (c_X1_kind l hI (kd0_2 hk0) h) (cwV 0 hts gv_X0_76 rfl rfl rfl hv_X1_kind ⟨Nat.le_of_ble_eq_true rfl, Nat.le_of_ble_eq_true rfl⟩) (preV_X hKX hP hS (kX_lt (kd0_2 hk0)) (eX1 (kd0_2 hk0)) rfl) rfl rfl hl.1 rfl (lv_room (Nat.le_of_ble_eq_true rfl)) dX0_isSo_92 ⟨Nat.le_of_ble_eq_true rfl, Nat.le_of_ble_eq_true rfl⟩) hS (fun _ _ h => h) (fun _ h => h) (fun r9 S8 t H locs ht _ h hB _ _ hS => ?_)
    have hP : VX dC dI cA P S8 H := by rw [← ht]; exact hB
    refine lv_iconst (v := 1) hx hb dX0_isSo_95 (by decide) ?_
    refine lv_icmp_ne (tgt := 103) hx hb dX0_isSo_96 (by decide) (fun c10 => ?_) (fun c10 => ?_)
    · replace h := h.2 c10
      refine lv_iconst (v := 0) hx hb dX0_isSo_103 (by decide) ?_
      exact g_zret hx hb hr hlocks bz_0 h hP hS dX0_isSo_104
    · replace h := h.1 c10
      refine lv_iconst (v := 1) hx hb dX0_isSo_99 (by decide) ?_
      refine lv_goto (tgt := 104) hx hb dX0_isSo_100 (by decide) ?_
      exact g_zret hx hb hr hlocks bz_1 h hP hS dX0_isSo_104
  replace h := h.2 c7
  by_cases c11 : v1 = 2
  · replace h := h.1 c11
    refine lv_tableIn (off := 73) (tgt := 105) hx hb dX0_isSo_32 (by rw [c11]; decide) (by rw [c11]; decide) (by rw [c11]; decide) (by decide) ?_
    refine lv_aload_n hx hb dX0_isSo_105 rfl (lv_at hl 1 rfl) ?_
    refine g_get (v := .ref (P (k0 + 2))) hx hb hts inG_X0 hown hK hP (kX_lt hk0) (eX0 hk0) rfl 3 (by decide) G_fl_X0_25 rfl rfl dX0_isSo_106 ?_
    refine va_calli (va_runV (As := []) (rest := []) ⟨hx, hb, hml, hown, hts⟩ (c_X1_kind l hI (kd0_2 hk0) h) (cwV 0 hts gv_X0_76 rfl rfl rfl hv_X1_kind ⟨Nat.le_of_ble_eq_true rfl, Nat.le_of_ble_eq_true rfl⟩) (preV_X hKX hP hS (kX_lt (kd0_2 hk0)) (eX1 (kd0_2 hk0)) rfl) rfl rfl hl.1 rfl (lv_room (Nat.le_of_ble_eq_true rfl)) dX0_isSo_109 ⟨Nat.le_of_ble_eq_true rfl, Nat.le_of_ble_eq_true rfl⟩) hS (fun _ _ h => h) (fun _ h => h) (fun r13 S12 t H locs ht _ h hB _ _ hS => ?_)
    have hP : VX dC dI cA P S12 H := by rw [← ht]; exact hB
    refine lv_iconst (v := 2) hx hb dX0_isSo_112 (by decide) ?_
    refine lv_icmp_ne (tgt := 120) hx hb dX0_isSo_113 (by decide) (fun c14 => ?_) (fun c14 => ?_)
    · replace h := h.2 c14
      refine lv_iconst (v := 0) hx hb dX0_isSo_120 (by decide) ?_
      exact g_zret hx hb hr hlocks bz_0 h hP hS dX0_isSo_121
    · replace h := h.1 c14
      refine lv_iconst (v := 1) hx hb dX0_isSo_116 (by decide) ?_
      refine lv_goto (tgt := 121) hx hb dX0_isSo_117 (by decide) ?_
      exact g_zret hx hb hr hlocks bz_1 h hP hS dX0_isSo_121
  replace h := h.2 c11
  by_cases c15 : v1 = 3
  · replace h := h.1 c15
    refine lv_tableIn (off := 90) (tgt := 122) hx hb dX0_isSo_32 (by rw [c15]; decide) (by rw [c15]; decide) (by rw [c15]; decide) (by decide) ?_
    refine lv_aload_n hx hb dX0_isSo_122 rfl (lv_at hl 1 rfl) ?_
    refine g_get (v := .ref (P (k0 + 2))) hx hb hts inG_X0 hown hK hP (kX_lt hk0) (eX0 hk0) rfl 3 (by decide) G_fl_X0_25 rfl rfl dX0_isSo_123 ?_
    refine va_calli (va_runV (As := []) (rest := []) ⟨hx, hb, hml, hown, hts⟩ (c_X1_isFullUnit l hI (kd0_2 hk0) h) (cwV 0 hts gv_X0_80 rfl rfl rfl hv_X1_isFullUnit ⟨Nat.le_of_ble_eq_true rfl, Nat.le_of_ble_eq_true rfl⟩) (preV_X hKX hP hS (kX_lt (kd0_2 hk0)) (eX1 (kd0_2 hk0)) rfl) rfl rfl hl.1 rfl (lv_room (Nat.le_of_ble_eq_true rfl)) dX0_isSo_126 ⟨Nat.le_of_ble_eq_true rfl, Nat.le_of_ble_eq_true rfl⟩) hS (fun _ _ h => h) (fun _ h => h) (fun r17 S16 t H locs ht _ h hB _ _ hS => ?_)
    have hP : VX dC dI cA P S16 H := by rw [← ht]; exact hB
    exact g_zret hx hb hr hlocks h.1 h.2 hP hS dX0_isSo_129
  replace h := h.2 c15
  by_cases c18 : v1 = 4
  · replace h := h.1 c18
    refine lv_tableIn (off := 98) (tgt := 130) hx hb dX0_isSo_32 (by rw [c18]; decide) (by rw [c18]; decide) (by rw [c18]; decide) (by decide) ?_
    refine lv_aload_n hx hb dX0_isSo_130 rfl (lv_at hl 1 rfl) ?_
    refine g_get (v := .ref (P (k0 + 2))) hx hb hts inG_X0 hown hK hP (kX_lt hk0) (eX0 hk0) rfl 3 (by decide) G_fl_X0_25 rfl rfl dX0_isSo_131 ?_
    refine va_calli (va_runV (As := []) (rest := []) ⟨hx, hb, hml, hown, hts⟩ (c_X1_ends l hI (kd0_2 hk0) h) (cwV 0 hts gv_X0_73 rfl rfl rfl hv_X1_ends ⟨Nat.le_of_ble_eq_true rfl, Nat.le_of_ble_eq_true rfl⟩) (preV_X hKX hP hS (kX_lt (kd0_2 hk0)) (eX1 (kd0_2 hk0)) rfl) rfl rfl hl.1 rfl (lv_room (Nat.le_of_ble_eq_true rfl)) dX0_isSo_134 ⟨Nat.le_of_ble_eq_true rfl, Nat.le_of_ble_eq_true rfl⟩) hS (fun _ _ h => h) (fun _ h => h) (fun r20 S19 t H locs ht _ h hB _ _ hS => ?_)
    have hP : VX dC dI cA P S19 H := by rw [← ht]; exact hB
    refine lv_if_ne (tgt := 148) hx hb dX0_isSo_137 (by decide) (fun c21 => ?_) (fun c21 => ?_)
    · replace h := h.2 c21
      refine lv_iconst (v := 0) hx hb dX0_isSo_148 (by decide) ?_
      exact g_zret hx hb hr hlocks bz_0 h hP hS dX0_isSo_149
    · replace h := h.1 c21
      refine lv_iload_n hx hb dX0_isSo_140 rfl (lv_at hl 0 rfl) ?_
      refine lv_if_eq (tgt := 148) hx hb dX0_isSo_141 (by decide) (fun c22 => ?_) (fun c22 => ?_)
      · replace h := h.1 c22
        refine lv_iconst (v := 0) hx hb dX0_isSo_148 (by decide) ?_
        exact g_zret hx hb hr hlocks bz_0 h hP hS dX0_isSo_149
      · replace h := h.2 c22
        refine lv_iconst (v := 1) hx hb dX0_isSo_144 (by decide) ?_
        refine lv_goto (tgt := 149) hx hb dX0_isSo_145 (by decide) ?_
        exact g_zret hx hb hr hlocks bz_1 h hP hS dX0_isSo_149
  replace h := h.2 c18
  by_cases c23 : v1 = 5
  · replace h := h.1 c23
    refine lv_tableIn (off := 118) (tgt := 150) hx hb dX0_isSo_32 (by rw [c23]; decide) (by rw [c23]; decide) (by rw [c23]; decide) (by decide) ?_
    refine lv_aload_n hx hb dX0_isSo_150 rfl (lv_at hl 1 rfl) ?_
    refine g_get (v := .ref (P (k0 + 2))) hx hb hts inG_X0 hown hK hP (kX_lt hk0) (eX0 hk0) rfl 3 (by decide) G_fl_X0_25 rfl rfl dX0_isSo_151 ?_
    refine va_calli (va_runV (As := []) (rest := []) ⟨hx, hb, hml, hown, hts⟩ (c_X1_ends l hI (kd0_2 hk0) h) (cwV 0 hts gv_X0_73 rfl rfl rfl hv_X1_ends ⟨Nat.le_of_ble_eq_true rfl, Nat.le_of_ble_eq_true rfl⟩) (preV_X hKX hP hS (kX_lt (kd0_2 hk0)) (eX1 (kd0_2 hk0)) rfl) rfl rfl hl.1 rfl (lv_room (Nat.le_of_ble_eq_true rfl)) dX0_isSo_154 ⟨Nat.le_of_ble_eq_true rfl, Nat.le_of_ble_eq_true rfl⟩) hS (fun _ _ h => h) (fun _ h => h) (fun r25 S24 t H locs ht _ h hB _ _ hS => ?_)
    have hP : VX dC dI cA P S24 H := by rw [← ht]; exact hB
    refine lv_if_ne (tgt := 168) hx hb dX0_isSo_157 (by decide) (fun c26 => ?_) (fun c26 => ?_)
    · replace h := h.2 c26
      refine lv_iconst (v := 0) hx hb dX0_isSo_168 (by decide) ?_
      exact g_zret hx hb hr hlocks bz_0 h hP hS dX0_isSo_169
    · replace h := h.1 c26
      refine lv_iload_n hx hb dX0_isSo_160 rfl (lv_at hl 0 rfl) ?_
      refine lv_if_ne (tgt := 168) hx hb dX0_isSo_161 (by decide) (fun c27 => ?_) (fun c27 => ?_)
      · replace h := h.2 c27
        refine lv_iconst (v := 0) hx hb dX0_isSo_168 (by decide) ?_
        exact g_zret hx hb hr hlocks bz_0 h hP hS dX0_isSo_169
      · replace h := h.1 c27
        refine lv_iconst (v := 1) hx hb dX0_isSo_164 (by decide) ?_
        refine lv_goto (tgt := 169) hx hb dX0_isSo_165 (by decide) ?_
        exact g_zret hx hb hr hlocks bz_1 h hP hS dX0_isSo_169
  replace h := h.2 c23
  by_cases c28 : v1 = 6
  · replace h := h.1 c28
    refine lv_tableIn (off := 138) (tgt := 170) hx hb dX0_isSo_32 (by rw [c28]; decide) (by rw [c28]; decide) (by rw [c28]; decide) (by decide) ?_
    refine lv_aload_n hx hb dX0_isSo_170 rfl (lv_at hl 1 rfl) ?_
    refine g_get (v := .ref (P (k0 + 2))) hx hb hts inG_X0 hown hK hP (kX_lt hk0) (eX0 hk0) rfl 3 (by decide) G_fl_X0_25 rfl rfl dX0_isSo_171 ?_
    refine va_calli (va_runV (As := []) (rest := []) ⟨hx, hb, hml, hown, hts⟩ (c_X1_ends l hI (kd0_2 hk0) h) (cwV 0 hts gv_X0_73 rfl rfl rfl hv_X1_ends ⟨Nat.le_of_ble_eq_true rfl, Nat.le_of_ble_eq_true rfl⟩) (preV_X hKX hP hS (kX_lt (kd0_2 hk0)) (eX1 (kd0_2 hk0)) rfl) rfl rfl hl.1 rfl (lv_room (Nat.le_of_ble_eq_true rfl)) dX0_isSo_174 ⟨Nat.le_of_ble_eq_true rfl, Nat.le_of_ble_eq_true rfl⟩) hS (fun _ _ h => h) (fun _ h => h) (fun r30 S29 t H locs ht _ h hB _ _ hS => ?_)
    have hP : VX dC dI cA P S29 H := by rw [← ht]; exact hB
    refine lv_if_ne (tgt := 200) hx hb dX0_isSo_177 (by decide) (fun c31 => ?_) (fun c31 => ?_)
    · replace h := h.2 c31
      refine lv_iconst (v := 0) hx hb dX0_isSo_200 (by decide) ?_
      exact g_zret hx hb hr hlocks bz_0 h hP hS dX0_isSo_201
    · replace h := h.1 c31
      refine lv_iload_n hx hb dX0_isSo_180 rfl (lv_at hl 0 rfl) ?_
      refine lv_if_eq (tgt := 200) hx hb dX0_isSo_181 (by decide) (fun c32 => ?_) (fun c32 => ?_)
      · replace h := h.1 c32
        refine lv_iconst (v := 0) hx hb dX0_isSo_200 (by decide) ?_
        exact g_zret hx hb hr hlocks bz_0 h hP hS dX0_isSo_201
      · replace h := h.2 c32
        refine lv_aload_n hx hb dX0_isSo_184 rfl (lv_at hl 1 rfl) ?_
        refine g_get (v := .ref (P (k0 + 2))) hx hb hts inG_X0 hown hK hP (kX_lt hk0) (eX0 hk0) rfl 3 (by decide) G_fl_X0_25 rfl rfl dX0_isSo_185 ?_
        refine lv_iconst (v := 2) hx hb dX0_isSo_188 (by decide) ?_
        refine va_calli (va_runV (As := [.int _]) (rest := []) ⟨hx, hb, hml, hown, hts⟩ (c_X1_ninesOfBlocks l hI (kd0_2 hk0) h) (cwV 1 hts gv_X0_83 rfl rfl rfl hv_X1_ninesOfBlocks ⟨Nat.le_of_ble_eq_true rfl, Nat.le_of_ble_eq_true rfl⟩) (preV_X hKX hP hS (kX_lt (kd0_2 hk0)) (eX1 (kd0_2 hk0)) rfl) rfl rfl hl.1 rfl (lv_room (Nat.le_of_ble_eq_true rfl)) dX0_isSo_189 ⟨Nat.le_of_ble_eq_true rfl, Nat.le_of_ble_eq_true rfl⟩) hS (fun _ _ h => h) (fun _ h => h) (fun r34 S33 t H locs ht _ h hB _ _ hS => ?_)
        have hP : VX dC dI cA P S33 H := by rw [← ht]; exact hB
        refine lv_iconst (v := 1) hx hb dX0_isSo_192 (by decide) ?_
        refine lv_icmp_ne (tgt := 200) hx hb dX0_isSo_193 (by decide) (fun c35 => ?_) (fun c35 => ?_)
        · replace h := h.2 c35
          refine lv_iconst (v := 0) hx hb dX0_isSo_200 (by decide) ?_
          exact g_zret hx hb hr hlocks bz_0 h hP hS dX0_isSo_201
        · replace h := h.1 c35
          refine lv_iconst (v := 1) hx hb dX0_isSo_196 (by decide) ?_
          refine lv_goto (tgt := 201) hx hb dX0_isSo_197 (by decide) ?_
          exact g_zret hx hb hr hlocks bz_1 h hP hS dX0_isSo_201
  replace h := h.2 c28
  by_cases c36 : v1 = 7
  · replace h := h.1 c36
    refine lv_tableIn (off := 170) (tgt := 202) hx hb dX0_isSo_32 (by rw [c36]; decide) (by rw [c36]; decide) (by rw [c36]; decide) (by decide) ?_
    refine lv_iload_n hx hb dX0_isSo_202 rfl (lv_at hl 3 rfl) ?_
    refine va_calli (va_runSN (As := [.int _]) (rest := []) ⟨hx, hb, hml, hown, hts⟩ (c_X8_isPrime l hI h) ⟨va_cnB 1 hts (good_W G_cd_X8_isPrime) rfl rfl rfl (kx_n12 hKX) (hts _ G_in_X8) hd_X8_isPrime ⟨Nat.le_of_ble_eq_true rfl, Nat.le_of_ble_eq_true rfl⟩, hts _ G_st_X8_isPrime, trivial⟩ (preS_X hKX hP hS) rfl rfl hl.1 rfl (lv_room (Nat.le_of_ble_eq_true rfl)) dX0_isSo_203 ⟨Nat.le_of_ble_eq_true rfl, Nat.le_of_ble_eq_true rfl⟩) hS (fun _ _ h => h) (fun _ h => h) (fun r38 S37 t H locs ht _ h hB _ _ hS => ?_)
    have hP : VX dC dI cA P S37 H := by rw [← ht]; exact hB
    exact g_zret hx hb hr hlocks h.1 h.2 hP hS dX0_isSo_206
  replace h := h.2 c36
  refine lv_tableOut (tgt := 207) hx hb dX0_isSo_32 (by have := lv_neT c4 (a := 0) (by decide); have := lv_neT c7 (a := 1) (by decide); have := lv_neT c11 (a := 2) (by decide); have := lv_neT c15 (a := 3) (by decide); have := lv_neT c18 (a := 4) (by decide); have := lv_neT c23 (a := 5) (by decide); have := lv_neT c28 (a := 6) (by decide); have := lv_neT c36 (a := 7) (by decide); omega) (by decide) ?_
  refine lv_iconst (v := 0) hx hb dX0_isSo_207 (by decide) ?_
  exact g_zret hx hb hr hlocks bz_0 h hP hS dX0_isSo_208
set_option maxRecDepth 100000 in
set_option maxHeartbeats 4000000 in
theorem e_X0_isSo {p : Program} {l : Launch} {e : Env} {s : State} {m : MethodId} {args : Array Value} {below : List Frame} {meth : Method} {c : Code} {dC : Nat → ClassId} {dI : Nat → Nat → Nat} {cA : Nat → ClassId} {adK adV P : Nat → Nat} (C : CtxX dC dI cA adK adV P p s m args meth c cX0_isSo 4 (some .boolean) RX0) {post : Int32 → St → Prop} : ∀ (k0 : Nat) (v1 : Int32) (v2 : Int32) (S : St) (H : Heap) (locs : List Loc) (ls : Array Slot), w_X0_isSo k0 v1 v2 post S → kdX k0 = 0 → VX dC dI cA P S H → va_S (PA 56 P) s.heap H locs → lv_has ls 4 [(0, .ref (P k0)), (1, .int v1), (2, .int v2)] → W p l e ({ frames := 3, cells := 0, slots := 0, locals := 69 } : Room) s m args below meth c H locs 0 0 (MQ below (va_Qi post (fun u t => VX dC dI cA P u t.heap) (PA 56 P)) args s 0 0 (PA 56 P)) (F0 m 0 ls []) := by
  have C := C
  obtain ⟨hI, hKX, ⟨hx, hb, hml, hown, hts⟩, hr, hlocks⟩ := id C
  have hK := hKX.1
  intro k0 v1 v2 S H locs ls h hk0 hP hS hl
  rw [w_X0_isSo] at h
  refine lv_aload_n hx hb dX0_isSo_0 rfl (lv_at hl 0 rfl) ?_
  refine g_get (v := .ref (P (k0 + 2))) hx hb hts inG_X0 hown hK hP (kX_lt hk0) (eX0 hk0) rfl 3 (by decide) G_fl_X0_25 rfl rfl dX0_isSo_1 ?_
  refine lv_iconst (v := 1) hx hb dX0_isSo_4 (by decide) ?_
  refine lv_iload_n hx hb dX0_isSo_5 rfl (lv_at hl 2 rfl) ?_
  refine lv_aload_n hx hb dX0_isSo_6 rfl (lv_at hl 0 rfl) ?_
  refine g_get (v := .int (S.1 k0 2)) hx hb hts inG_X0 hown hK hP (kX_lt hk0) (eX0 hk0) rfl 2 (by decide) G_fl_X0_19 rfl rfl dX0_isSo_7 ?_
  replace h := h _ rfl
  refine va_callv (va_runV (As := [.int _, .int _, .int _]) (rest := []) ⟨hx, hb, hml, hown, hts⟩ (c_X1_become l hI (kd0_2 hk0) h) (cwV 3 hts gv_X0_68 rfl rfl rfl hv_X1_become ⟨Nat.le_of_ble_eq_true rfl, Nat.le_of_ble_eq_true rfl⟩) (preV_X hKX hP hS (kX_lt (kd0_2 hk0)) (eX1 (kd0_2 hk0)) rfl) rfl rfl hl.1 rfl (lv_room (Nat.le_of_ble_eq_true rfl)) dX0_isSo_10 ⟨Nat.le_of_ble_eq_true rfl, Nat.le_of_ble_eq_true rfl⟩) hS (fun _ _ h => h) (fun _ h => h) (fun S2 t H locs ht _ h hB _ _ hS => ?_)
  have hP : VX dC dI cA P S2 H := by rw [← ht]; exact hB
  refine lv_aload_n hx hb dX0_isSo_13 rfl (lv_at hl 0 rfl) ?_
  refine g_get (v := .ref (P (k0 + 2))) hx hb hts inG_X0 hown hK hP (kX_lt hk0) (eX0 hk0) rfl 3 (by decide) G_fl_X0_25 rfl rfl dX0_isSo_14 ?_
  refine g_get (v := .int (S2.1 (k0 + 2) 4)) hx hb hts inG_X1 hown hK hP (kX_lt (kd0_2 hk0)) (eX1 (kd0_2 hk0)) rfl 4 (by decide) G_fl_X0_72 rfl rfl dX0_isSo_17 ?_
  refine lv_iconst (v := 2) hx hb dX0_isSo_20 (by decide) ?_
  refine lv_irem hx hb dX0_isSo_21 (by decide) ?_
  refine lv_if_ne (tgt := 29) hx hb dX0_isSo_22 (by decide) (fun c3 => ?_) (fun c3 => ?_)
  · replace h := h.2 c3
    refine lv_iconst (v := 0) hx hb dX0_isSo_29 (by decide) ?_
    exact b_X0_isSo_30 C _ _ _ _ _ _ _ _ h hk0 hP hS (lv_sub hl [0, 1, 2] rfl)
  · replace h := h.1 c3
    refine lv_iconst (v := 1) hx hb dX0_isSo_25 (by decide) ?_
    refine lv_goto (tgt := 30) hx hb dX0_isSo_26 (by decide) ?_
    exact b_X0_isSo_30 C _ _ _ _ _ _ _ _ h hk0 hP hS (lv_sub hl [0, 1, 2] rfl)
set_option maxRecDepth 100000 in
set_option maxHeartbeats 4000000 in
theorem c_X0_isSo (l : Launch) {dC : Nat → ClassId} {dI : Nat → Nat → Nat} {cA : Nat → ClassId} {adK adV P : Nat → Nat} (hI : PInj 56 P) {k0 : Nat} {v1 : Int32} {v2 : Int32} (hk0 : kdX k0 = 0) {post : Int32 → St → Prop} {S : St} (h : w_X0_isSo k0 v1 v2 post S) : Met l yX0_isSo (wW yX0_isSo cX0_isSo 4 (some .boolean)) ({ frames := 3, cells := 0, slots := 0, locals := 69 } : Room) (va_Pc [.ref (P k0), .int v1, .int v2] (PreX dC dI cA adK adV P S)) (va_Qi post (fun u t => VX dC dI cA P u t.heap) (PA 56 P)) 0 0 (PA 56 P) := by
  refine Met.ofW (cc := cX0_isSo) (maxL := 4) (ret := (some .boolean)) (by decide) rfl ?_
  intro p e s m args below meth c s₁ B hml hv
  obtain ⟨rfl, hP, hKX⟩ := hv
  have hts : ∀ w ∈ G, w.before [.ref (P k0), .int v1, .int v2].toArray s = true := fun w hw => atoms_spec (ws := wW yX0_isSo cX0_isSo 4 (some .boolean)) B.pre w (List.mem_cons_of_mem _ hw)
  have C : CtxX dC dI cA adK adV P p s m [.ref (P k0), .int v1, .int v2].toArray meth c cX0_isSo 4 (some .boolean) RX0 := ⟨hI, hKX, ⟨B.exec, B.bytes, hml, findClass_of_methodNamed B.named, hts⟩, B.returns, B.notSynchronized⟩
  have hS : va_S (PA 56 P) s.heap s.heap [] := va_S.rf
  have hl := lv_entry ([.ref (P k0), .int v1, .int v2]) (n := 4) (Nat.le_of_ble_eq_true rfl)
  rw [lg_entry_eq]
  generalize (lg_sl ([.ref (P k0), .int v1, .int v2]) ++ List.replicate (4 - (lg_sl ([.ref (P k0), .int v1, .int v2])).length) Slot.unset).toArray = ls at hl ⊢
  have hl : lv_has ls 4 [(0, .ref (P k0)), (1, .int v1), (2, .int v2)] := hl
  exact e_X0_isSo C _ _ _ _ _ _ _ h hk0 hP hS hl
set_option maxRecDepth 100000 in
set_option maxHeartbeats 4000000 in
theorem b_X0_keepOnly_5 {p : Program} {l : Launch} {e : Env} {s : State} {m : MethodId} {args : Array Value} {below : List Frame} {meth : Method} {c : Code} {dC : Nat → ClassId} {dI : Nat → Nat → Nat} {cA : Nat → ClassId} {adK adV P : Nat → Nat} (C : CtxX dC dI cA adK adV P p s m args meth c cX0_keepOnly 6 none RX0) {post : St → Prop}  : ∀ (n : Nat) (k0 : Nat) (v1 : Int32) (v2 : Int32) (v3 : Int32) (v4 : Int32) (S : St) (H : Heap) (locs : List Loc) (ls : Array Slot), w_X0_keepOnly_5 post n k0 v1 v2 v3 v4 S → kdX k0 = 0 → VX dC dI cA P S H → va_S (PA 56 P) s.heap H locs → lv_has ls 6 [(0, .ref (P k0)), (1, .int v1), (2, .int v2), (3, .int v3), (4, .int v4)] → W p l e ({ frames := 4, cells := 0, slots := 0, locals := 92 } : Room) s m args below meth c H locs 0 0 (MQ below (va_Qv post (fun u t => VX dC dI cA P u t.heap) (PA 56 P)) args s 0 0 (PA 56 P)) (F0 m 5 ls []) := by
  have C := C
  obtain ⟨hI, hKX, ⟨hx, hb, hml, hown, hts⟩, hr, hlocks⟩ := id C
  have hK := hKX.1
  intro n
  induction n with
  | zero =>
    intro k0 v1 v2 v3 v4 S H locs ls h hk0 hP hS hl
    simp only [w_X0_keepOnly_5] at h
  | succ n ih =>
    intro k0 v1 v2 v3 v4 S H locs ls h hk0 hP hS hl
    rw [w_X0_keepOnly_5] at h
    refine lv_iload hx hb dX0_keepOnly_5 (lv_at hl 4 rfl) ?_
    refine lv_aload_n hx hb dX0_keepOnly_7 rfl (lv_at hl 0 rfl) ?_
    refine g_get (v := .int (S.1 k0 1)) hx hb hts inG_X0 hown hK hP (kX_lt hk0) (eX0 hk0) rfl 1 (by decide) G_fl_X0_15 rfl rfl dX0_keepOnly_8 ?_
    refine lv_icmp_ge (tgt := 55) hx hb dX0_keepOnly_11 (by decide) (fun c1 => ?_) (fun c1 => ?_)
    · replace h := h.1 c1
      refine lv_aload_n hx hb dX0_keepOnly_55 rfl (lv_at hl 0 rfl) ?_
      refine lv_iload_n hx hb dX0_keepOnly_56 rfl (lv_at hl 3 rfl) ?_
      refine g_putI hx hb hts inG_X0 tyX0 tyX0_ok nmX0 hown hK hI hP hS (kX_lt hk0) (eX0 hk0) rfl 1 (by decide) G_fl_X0_15 rfl rfl (ty := .int) (by decide +kernel) rfl rfl (Nat.le_of_ble_eq_true rfl) rfl h dX0_keepOnly_57 (fun S2 H locs h hP hS => ?_)
      exact g_vret hx hb hr hlocks h hP hS dX0_keepOnly_60
    · replace h := h.2 c1
      refine lv_aload_n hx hb dX0_keepOnly_14 rfl (lv_at hl 0 rfl) ?_
      refine g_get (v := .ref (P (k0 + 1))) hx hb hts inG_X0 hown hK hP (kX_lt hk0) (eX0 hk0) rfl 0 (by decide) G_fl_X0_9 rfl rfl dX0_keepOnly_15 ?_
      refine lv_iload hx hb dX0_keepOnly_18 (lv_at hl 4 rfl) ?_
      refine va_calli (va_runSN (As := [.ref _, .int _]) (rest := []) ⟨hx, hb, hml, hown, hts⟩ (c_X8_valueAt l hI (kd0_1 hk0) h) ⟨va_cnB 2 hts (good_W G_cd_X8_valueAt) rfl rfl rfl (kx_n11 hKX) (hts _ G_in_X8) hd_X8_valueAt ⟨Nat.le_of_ble_eq_true rfl, Nat.le_of_ble_eq_true rfl⟩, hts _ G_st_X8_valueAt, trivial⟩ (preS_X hKX hP hS) rfl rfl hl.1 rfl (lv_room (Nat.le_of_ble_eq_true rfl)) dX0_keepOnly_20 ⟨Nat.le_of_ble_eq_true rfl, Nat.le_of_ble_eq_true rfl⟩) hS (fun _ _ h => h) (fun _ h => h) (fun r4 S3 t H locs ht _ h hB _ _ hS => ?_)
      have hP : VX dC dI cA P S3 H := by rw [← ht]; exact hB
      refine lv_istore (lv' := [(5, .int r4), (0, .ref (P k0)), (1, .int v1), (2, .int v2), (3, .int v3), (4, .int v4)]) hx hb dX0_keepOnly_23 hl (by decide) rfl (fun ls hl => ?_)
      refine lv_aload_n hx hb dX0_keepOnly_25 rfl (lv_at hl 1 rfl) ?_
      refine lv_iload_n hx hb dX0_keepOnly_26 rfl (lv_at hl 2 rfl) ?_
      refine lv_iload hx hb dX0_keepOnly_27 (lv_at hl 0 rfl) ?_
      refine va_calli (va_runV (As := [.int _, .int _]) (rest := []) ⟨hx, hb, hml, hown, hts⟩ (c_X0_isSo l hI hk0 h) (cwV 2 hts gv_X0_64 rfl rfl rfl hv_X0_isSo ⟨Nat.le_of_ble_eq_true rfl, Nat.le_of_ble_eq_true rfl⟩) (preV_X hKX hP hS (kX_lt hk0) (eX0 hk0) rfl) rfl rfl hl.1 rfl (lv_room (Nat.le_of_ble_eq_true rfl)) dX0_keepOnly_29 ⟨Nat.le_of_ble_eq_true rfl, Nat.le_of_ble_eq_true rfl⟩) hS (fun _ _ h => h) (fun _ h => h) (fun r6 S5 t H locs ht _ h hB _ _ hS => ?_)
      have hP : VX dC dI cA P S5 H := by rw [← ht]; exact hB
      refine lv_iload_n hx hb dX0_keepOnly_32 rfl (lv_at hl 3 rfl) ?_
      refine lv_icmp_ne (tgt := 49) hx hb dX0_keepOnly_33 (by decide) (fun c7 => ?_) (fun c7 => ?_)
      · replace h := h.2 c7
        obtain ⟨x8, ex8⟩ : ∃ y : Int32, y = v4 + 1 := ⟨_, rfl⟩
        replace h := h x8 ex8
        refine lv_iinc (v := x8) (lv' := [(4, .int x8), (5, .int r4), (0, .ref (P k0)), (1, .int v1), (2, .int v2), (3, .int v3)]) hx hb dX0_keepOnly_49 hl (k := 5) rfl (by rw [ex8]; rfl) (by decide) rfl (fun ls hl => ?_)
        refine lv_goto (tgt := 5) hx hb dX0_keepOnly_52 (by decide) ?_
        exact ih _ _ _ _ _ _ _ _ _ h hk0 hP hS (lv_sub hl [2, 3, 4, 5, 0] rfl)
      · replace h := h.1 c7
        refine lv_aload_n hx hb dX0_keepOnly_36 rfl (lv_at hl 1 rfl) ?_
        refine g_get (v := .ref (P (k0 + 1))) hx hb hts inG_X0 hown hK hP (kX_lt hk0) (eX0 hk0) rfl 0 (by decide) G_fl_X0_9 rfl rfl dX0_keepOnly_37 ?_
        refine lv_iload_n hx hb dX0_keepOnly_40 rfl (lv_at hl 4 rfl) ?_
        refine lv_iload hx hb dX0_keepOnly_41 (lv_at hl 0 rfl) ?_
        refine va_callv (va_runSN (As := [.ref _, .int _, .int _]) (rest := []) ⟨hx, hb, hml, hown, hts⟩ (c_X8_setAt l hI (kd0_1 hk0) h) ⟨va_cnB 3 hts (good_W G_cd_X8_setAt) rfl rfl rfl (kx_n9 hKX) (hts _ G_in_X8) hd_X8_setAt ⟨Nat.le_of_ble_eq_true rfl, Nat.le_of_ble_eq_true rfl⟩, hts _ G_st_X8_setAt, trivial⟩ (preS_X hKX hP hS) rfl rfl hl.1 rfl (lv_room (Nat.le_of_ble_eq_true rfl)) dX0_keepOnly_43 ⟨Nat.le_of_ble_eq_true rfl, Nat.le_of_ble_eq_true rfl⟩) hS (fun _ _ h => h) (fun _ h => h) (fun S9 t H locs ht _ h hB _ _ hS => ?_)
        have hP : VX dC dI cA P S9 H := by rw [← ht]; exact hB
        obtain ⟨x10, ex10⟩ : ∃ y : Int32, y = v3 + 1 := ⟨_, rfl⟩
        replace h := h x10 ex10
        refine lv_iinc (v := x10) (lv' := [(3, .int x10), (5, .int r4), (0, .ref (P k0)), (1, .int v1), (2, .int v2), (4, .int v4)]) hx hb dX0_keepOnly_46 hl (k := 4) rfl (by rw [ex10]; rfl) (by decide) rfl (fun ls hl => ?_)
        obtain ⟨x11, ex11⟩ : ∃ y : Int32, y = v4 + 1 := ⟨_, rfl⟩
        replace h := h x11 ex11
        refine lv_iinc (v := x11) (lv' := [(4, .int x11), (3, .int x10), (5, .int r4), (0, .ref (P k0)), (1, .int v1), (2, .int v2)]) hx hb dX0_keepOnly_49 hl (k := 5) rfl (by rw [ex11]; rfl) (by decide) rfl (fun ls hl => ?_)
        refine lv_goto (tgt := 5) hx hb dX0_keepOnly_52 (by decide) ?_
        exact ih _ _ _ _ _ _ _ _ _ h hk0 hP hS (lv_sub hl [3, 4, 5, 1, 0] rfl)
set_option maxRecDepth 100000 in
set_option maxHeartbeats 4000000 in
theorem e_X0_keepOnly {p : Program} {l : Launch} {e : Env} {s : State} {m : MethodId} {args : Array Value} {below : List Frame} {meth : Method} {c : Code} {dC : Nat → ClassId} {dI : Nat → Nat → Nat} {cA : Nat → ClassId} {adK adV P : Nat → Nat} (C : CtxX dC dI cA adK adV P p s m args meth c cX0_keepOnly 6 none RX0) {post : St → Prop} : ∀ (k0 : Nat) (v1 : Int32) (v2 : Int32) (S : St) (H : Heap) (locs : List Loc) (ls : Array Slot), w_X0_keepOnly k0 v1 v2 post S → kdX k0 = 0 → VX dC dI cA P S H → va_S (PA 56 P) s.heap H locs → lv_has ls 6 [(0, .ref (P k0)), (1, .int v1), (2, .int v2)] → W p l e ({ frames := 4, cells := 0, slots := 0, locals := 92 } : Room) s m args below meth c H locs 0 0 (MQ below (va_Qv post (fun u t => VX dC dI cA P u t.heap) (PA 56 P)) args s 0 0 (PA 56 P)) (F0 m 0 ls []) := by
  have C := C
  obtain ⟨hI, hKX, ⟨hx, hb, hml, hown, hts⟩, hr, hlocks⟩ := id C
  have hK := hKX.1
  intro k0 v1 v2 S H locs ls h hk0 hP hS hl
  rw [w_X0_keepOnly] at h
  refine lv_iconst (v := 0) hx hb dX0_keepOnly_0 (by decide) ?_
  refine lv_istore_n (lv' := [(3, .int 0), (0, .ref (P k0)), (1, .int v1), (2, .int v2)]) hx hb dX0_keepOnly_1 rfl hl (by decide) rfl (fun ls hl => ?_)
  refine lv_iconst (v := 0) hx hb dX0_keepOnly_2 (by decide) ?_
  refine lv_istore (lv' := [(4, .int 0), (3, .int 0), (0, .ref (P k0)), (1, .int v1), (2, .int v2)]) hx hb dX0_keepOnly_3 hl (by decide) rfl (fun ls hl => ?_)
  obtain ⟨n12, h⟩ := h
  exact b_X0_keepOnly_5 C n12 _ _ _ _ _ _ _ _ _ h hk0 hP hS (lv_sub hl [2, 3, 4, 1, 0] rfl)
set_option maxRecDepth 100000 in
set_option maxHeartbeats 4000000 in
theorem c_X0_keepOnly (l : Launch) {dC : Nat → ClassId} {dI : Nat → Nat → Nat} {cA : Nat → ClassId} {adK adV P : Nat → Nat} (hI : PInj 56 P) {k0 : Nat} {v1 : Int32} {v2 : Int32} (hk0 : kdX k0 = 0) {post : St → Prop} {S : St} (h : w_X0_keepOnly k0 v1 v2 post S) : Met l yX0_keepOnly (wW yX0_keepOnly cX0_keepOnly 6 none) ({ frames := 4, cells := 0, slots := 0, locals := 92 } : Room) (va_Pc [.ref (P k0), .int v1, .int v2] (PreX dC dI cA adK adV P S)) (va_Qv post (fun u t => VX dC dI cA P u t.heap) (PA 56 P)) 0 0 (PA 56 P) := by
  refine Met.ofW (cc := cX0_keepOnly) (maxL := 6) (ret := none) (by decide) rfl ?_
  intro p e s m args below meth c s₁ B hml hv
  obtain ⟨rfl, hP, hKX⟩ := hv
  have hts : ∀ w ∈ G, w.before [.ref (P k0), .int v1, .int v2].toArray s = true := fun w hw => atoms_spec (ws := wW yX0_keepOnly cX0_keepOnly 6 none) B.pre w (List.mem_cons_of_mem _ hw)
  have C : CtxX dC dI cA adK adV P p s m [.ref (P k0), .int v1, .int v2].toArray meth c cX0_keepOnly 6 none RX0 := ⟨hI, hKX, ⟨B.exec, B.bytes, hml, findClass_of_methodNamed B.named, hts⟩, B.returns, B.notSynchronized⟩
  have hS : va_S (PA 56 P) s.heap s.heap [] := va_S.rf
  have hl := lv_entry ([.ref (P k0), .int v1, .int v2]) (n := 6) (Nat.le_of_ble_eq_true rfl)
  rw [lg_entry_eq]
  generalize (lg_sl ([.ref (P k0), .int v1, .int v2]) ++ List.replicate (6 - (lg_sl ([.ref (P k0), .int v1, .int v2])).length) Slot.unset).toArray = ls at hl ⊢
  have hl : lv_has ls 6 [(0, .ref (P k0)), (1, .int v1), (2, .int v2)] := hl
  exact e_X0_keepOnly C _ _ _ _ _ _ _ h hk0 hP hS hl
set_option maxRecDepth 100000 in
set_option maxHeartbeats 4000000 in
theorem e_X1_becomeLike {p : Program} {l : Launch} {e : Env} {s : State} {m : MethodId} {args : Array Value} {below : List Frame} {meth : Method} {c : Code} {dC : Nat → ClassId} {dI : Nat → Nat → Nat} {cA : Nat → ClassId} {adK adV P : Nat → Nat} (C : CtxX dC dI cA adK adV P p s m args meth c cX1_becomeLike 2 none RX1) {post : St → Prop} : ∀ (k0 : Nat) (k1 : Nat) (S : St) (H : Heap) (locs : List Loc) (ls : Array Slot), w_X1_becomeLike k0 k1 post S → kdX k0 = 1 → kdX k1 = 1 → VX dC dI cA P S H → va_S (PA 56 P) s.heap H locs → lv_has ls 2 [(0, .ref (P k0)), (1, .ref (P k1))] → W p l e ({ frames := 0, cells := 0, slots := 0, locals := 0 } : Room) s m args below meth c H locs 0 0 (MQ below (va_Qv post (fun u t => VX dC dI cA P u t.heap) (PA 56 P)) args s 0 0 (PA 56 P)) (F0 m 0 ls []) := by
  have C := C
  obtain ⟨hI, hKX, ⟨hx, hb, hml, hown, hts⟩, hr, hlocks⟩ := id C
  have hK := hKX.1
  intro k0 k1 S H locs ls h hk0 hk1 hP hS hl
  rw [w_X1_becomeLike] at h
  refine lv_aload_n hx hb dX1_becomeLike_0 rfl (lv_at hl 0 rfl) ?_
  refine lv_aload_n hx hb dX1_becomeLike_1 rfl (lv_at hl 1 rfl) ?_
  refine g_get (v := .int (S.1 k1 0)) hx hb hts inG_X1 hown hK hP (kX_lt hk1) (eX1 hk1) rfl 0 (by decide) G_fl_X1_9 rfl rfl dX1_becomeLike_2 ?_
  replace h := h _ rfl
  refine g_putI hx hb hts inG_X1 tyX1 tyX1_ok nmX1 hown hK hI hP hS (kX_lt hk0) (eX1 hk0) rfl 0 (by decide) G_fl_X1_9 rfl rfl (ty := .int) (by decide +kernel) rfl rfl (Nat.le_of_ble_eq_true rfl) rfl h dX1_becomeLike_5 (fun S2 H locs h hP hS => ?_)
  refine lv_aload_n hx hb dX1_becomeLike_8 rfl (lv_at hl 0 rfl) ?_
  refine lv_aload_n hx hb dX1_becomeLike_9 rfl (lv_at hl 1 rfl) ?_
  refine g_get (v := .int (S2.1 k1 1)) hx hb hts inG_X1 hown hK hP (kX_lt hk1) (eX1 hk1) rfl 1 (by decide) G_fl_X1_15 rfl rfl dX1_becomeLike_10 ?_
  replace h := h _ rfl
  refine g_putI hx hb hts inG_X1 tyX1 tyX1_ok nmX1 hown hK hI hP hS (kX_lt hk0) (eX1 hk0) rfl 1 (by decide) G_fl_X1_15 rfl rfl (ty := .int) (by decide +kernel) rfl rfl (Nat.le_of_ble_eq_true rfl) rfl h dX1_becomeLike_13 (fun S4 H locs h hP hS => ?_)
  refine lv_aload_n hx hb dX1_becomeLike_16 rfl (lv_at hl 0 rfl) ?_
  refine lv_aload_n hx hb dX1_becomeLike_17 rfl (lv_at hl 1 rfl) ?_
  refine g_get (v := .int (S4.1 k1 2)) hx hb hts inG_X1 hown hK hP (kX_lt hk1) (eX1 hk1) rfl 2 (by decide) G_fl_X1_18 rfl rfl dX1_becomeLike_18 ?_
  replace h := h _ rfl
  refine g_putI hx hb hts inG_X1 tyX1 tyX1_ok nmX1 hown hK hI hP hS (kX_lt hk0) (eX1 hk0) rfl 2 (by decide) G_fl_X1_18 rfl rfl (ty := .int) (by decide +kernel) rfl rfl (Nat.le_of_ble_eq_true rfl) rfl h dX1_becomeLike_21 (fun S6 H locs h hP hS => ?_)
  refine lv_aload_n hx hb dX1_becomeLike_24 rfl (lv_at hl 0 rfl) ?_
  refine lv_aload_n hx hb dX1_becomeLike_25 rfl (lv_at hl 1 rfl) ?_
  refine g_get (v := .int (S6.1 k1 3)) hx hb hts inG_X1 hown hK hP (kX_lt hk1) (eX1 hk1) rfl 3 (by decide) G_fl_X1_21 rfl rfl dX1_becomeLike_26 ?_
  replace h := h _ rfl
  refine g_putI hx hb hts inG_X1 tyX1 tyX1_ok nmX1 hown hK hI hP hS (kX_lt hk0) (eX1 hk0) rfl 3 (by decide) G_fl_X1_21 rfl rfl (ty := .int) (by decide +kernel) rfl rfl (Nat.le_of_ble_eq_true rfl) rfl h dX1_becomeLike_29 (fun S8 H locs h hP hS => ?_)
  refine lv_aload_n hx hb dX1_becomeLike_32 rfl (lv_at hl 0 rfl) ?_
  refine lv_aload_n hx hb dX1_becomeLike_33 rfl (lv_at hl 1 rfl) ?_
  refine g_get (v := .int (S8.1 k1 4)) hx hb hts inG_X1 hown hK hP (kX_lt hk1) (eX1 hk1) rfl 4 (by decide) G_fl_X1_24 rfl rfl dX1_becomeLike_34 ?_
  replace h := h _ rfl
  refine g_putI hx hb hts inG_X1 tyX1 tyX1_ok nmX1 hown hK hI hP hS (kX_lt hk0) (eX1 hk0) rfl 4 (by decide) G_fl_X1_24 rfl rfl (ty := .int) (by decide +kernel) rfl rfl (Nat.le_of_ble_eq_true rfl) rfl h dX1_becomeLike_37 (fun S10 H locs h hP hS => ?_)
  refine lv_aload_n hx hb dX1_becomeLike_40 rfl (lv_at hl 0 rfl) ?_
  refine lv_aload_n hx hb dX1_becomeLike_41 rfl (lv_at hl 1 rfl) ?_
  refine g_get (v := .int (S10.1 k1 5)) hx hb hts inG_X1 hown hK hP (kX_lt hk1) (eX1 hk1) rfl 5 (by decide) G_fl_X1_27 rfl rfl dX1_becomeLike_42 ?_
  replace h := h _ rfl
  refine g_putI hx hb hts inG_X1 tyX1 tyX1_ok nmX1 hown hK hI hP hS (kX_lt hk0) (eX1 hk0) rfl 5 (by decide) G_fl_X1_27 rfl rfl (ty := .int) (by decide +kernel) rfl rfl (Nat.le_of_ble_eq_true rfl) rfl h dX1_becomeLike_45 (fun S12 H locs h hP hS => ?_)
  refine lv_aload_n hx hb dX1_becomeLike_48 rfl (lv_at hl 0 rfl) ?_
  refine lv_aload_n hx hb dX1_becomeLike_49 rfl (lv_at hl 1 rfl) ?_
  refine g_get (v := .int (S12.1 k1 6)) hx hb hts inG_X1 hown hK hP (kX_lt hk1) (eX1 hk1) rfl 6 (by decide) G_fl_X1_30 rfl rfl dX1_becomeLike_50 ?_
  replace h := h _ rfl
  refine g_putI hx hb hts inG_X1 tyX1 tyX1_ok nmX1 hown hK hI hP hS (kX_lt hk0) (eX1 hk0) rfl 6 (by decide) G_fl_X1_30 rfl rfl (ty := .int) (by decide +kernel) rfl rfl (Nat.le_of_ble_eq_true rfl) rfl h dX1_becomeLike_53 (fun S14 H locs h hP hS => ?_)
  exact g_vret hx hb hr hlocks h hP hS dX1_becomeLike_56
set_option maxRecDepth 100000 in
set_option maxHeartbeats 4000000 in
theorem c_X1_becomeLike (l : Launch) {dC : Nat → ClassId} {dI : Nat → Nat → Nat} {cA : Nat → ClassId} {adK adV P : Nat → Nat} (hI : PInj 56 P) {k0 : Nat} {k1 : Nat} (hk0 : kdX k0 = 1) (hk1 : kdX k1 = 1) {post : St → Prop} {S : St} (h : w_X1_becomeLike k0 k1 post S) : Met l yX1_becomeLike (wW yX1_becomeLike cX1_becomeLike 2 none) ({ frames := 0, cells := 0, slots := 0, locals := 0 } : Room) (va_Pc [.ref (P k0), .ref (P k1)] (PreX dC dI cA adK adV P S)) (va_Qv post (fun u t => VX dC dI cA P u t.heap) (PA 56 P)) 0 0 (PA 56 P) := by
  refine Met.ofW (cc := cX1_becomeLike) (maxL := 2) (ret := none) (by decide) rfl ?_
  intro p e s m args below meth c s₁ B hml hv
  obtain ⟨rfl, hP, hKX⟩ := hv
  have hts : ∀ w ∈ G, w.before [.ref (P k0), .ref (P k1)].toArray s = true := fun w hw => atoms_spec (ws := wW yX1_becomeLike cX1_becomeLike 2 none) B.pre w (List.mem_cons_of_mem _ hw)
  have C : CtxX dC dI cA adK adV P p s m [.ref (P k0), .ref (P k1)].toArray meth c cX1_becomeLike 2 none RX1 := ⟨hI, hKX, ⟨B.exec, B.bytes, hml, findClass_of_methodNamed B.named, hts⟩, B.returns, B.notSynchronized⟩
  have hS : va_S (PA 56 P) s.heap s.heap [] := va_S.rf
  have hl := lv_entry ([.ref (P k0), .ref (P k1)]) (n := 2) (Nat.le_of_ble_eq_true rfl)
  rw [lg_entry_eq]
  generalize (lg_sl ([.ref (P k0), .ref (P k1)]) ++ List.replicate (2 - (lg_sl ([.ref (P k0), .ref (P k1)])).length) Slot.unset).toArray = ls at hl ⊢
  have hl : lv_has ls 2 [(0, .ref (P k0)), (1, .ref (P k1))] := hl
  exact e_X1_becomeLike C _ _ _ _ _ _ h hk0 hk1 hP hS hl
set_option maxRecDepth 100000 in
set_option maxHeartbeats 4000000 in
theorem e_X1_digitOf {p : Program} {l : Launch} {e : Env} {s : State} {m : MethodId} {args : Array Value} {below : List Frame} {meth : Method} {c : Code} {dC : Nat → ClassId} {dI : Nat → Nat → Nat} {cA : Nat → ClassId} {adK adV P : Nat → Nat} (C : CtxX dC dI cA adK adV P p s m args meth c cX1_digitOf 2 (some .int) RX1) {post : Int32 → St → Prop} : ∀ (k0 : Nat) (v1 : Int32) (S : St) (H : Heap) (locs : List Loc) (ls : Array Slot), w_X1_digitOf k0 v1 post S → kdX k0 = 1 → VX dC dI cA P S H → va_S (PA 56 P) s.heap H locs → lv_has ls 2 [(0, .ref (P k0)), (1, .int v1)] → W p l e ({ frames := 1, cells := 0, slots := 0, locals := 23 } : Room) s m args below meth c H locs 0 0 (MQ below (va_Qi post (fun u t => VX dC dI cA P u t.heap) (PA 56 P)) args s 0 0 (PA 56 P)) (F0 m 0 ls []) := by
  have C := C
  obtain ⟨hI, hKX, ⟨hx, hb, hml, hown, hts⟩, hr, hlocks⟩ := id C
  have hK := hKX.1
  intro k0 v1 S H locs ls h hk0 hP hS hl
  rw [w_X1_digitOf] at h
  refine lv_iload_n hx hb dX1_digitOf_0 rfl (lv_at hl 1 rfl) ?_
  refine lv_aload_n hx hb dX1_digitOf_1 rfl (lv_at hl 0 rfl) ?_
  refine g_get (v := .int (S.1 k0 2)) hx hb hts inG_X1 hown hK hP (kX_lt hk0) (eX1 hk0) rfl 2 (by decide) G_fl_X1_18 rfl rfl dX1_digitOf_2 ?_
  refine lv_imul hx hb dX1_digitOf_5 ?_
  refine lv_i2l hx hb dX1_digitOf_6 rfl ?_
  refine lv_aload_n hx hb dX1_digitOf_7 rfl (lv_at hl 0 rfl) ?_
  refine g_get (v := .int (S.1 k0 1)) hx hb hts inG_X1 hown hK hP (kX_lt hk0) (eX1 hk0) rfl 1 (by decide) G_fl_X1_15 rfl rfl dX1_digitOf_8 ?_
  refine lv_i2l hx hb dX1_digitOf_11 rfl ?_
  replace h := h _ rfl
  replace h := h _ rfl
  refine va_calll (va_runSN (As := [.long _, .long _]) (rest := []) ⟨hx, hb, hml, hown, hts⟩ (c_X8_quotient l hI h) ⟨va_cnB 2 hts (good_W G_cd_X8_quotient) rfl rfl rfl (kx_n3 hKX) (hts _ G_in_X8) hd_X8_quotient ⟨Nat.le_of_ble_eq_true rfl, Nat.le_of_ble_eq_true rfl⟩, hts _ G_st_X8_quotient, trivial⟩ (preS_X hKX hP hS) rfl rfl hl.1 rfl (lv_room (Nat.le_of_ble_eq_true rfl)) dX1_digitOf_12 ⟨Nat.le_of_ble_eq_true rfl, Nat.le_of_ble_eq_true rfl⟩) hS (fun _ _ h => h) (fun _ h => h) (fun r4 S3 t H locs ht _ h hB _ _ hS => ?_)
  have hP : VX dC dI cA P S3 H := by rw [← ht]; exact hB
  refine lv_l2i hx hb dX1_digitOf_15 rfl ?_
  exact g_iret hx hb hr hlocks h hP hS dX1_digitOf_16
set_option maxRecDepth 100000 in
set_option maxHeartbeats 4000000 in
theorem c_X1_digitOf (l : Launch) {dC : Nat → ClassId} {dI : Nat → Nat → Nat} {cA : Nat → ClassId} {adK adV P : Nat → Nat} (hI : PInj 56 P) {k0 : Nat} {v1 : Int32} (hk0 : kdX k0 = 1) {post : Int32 → St → Prop} {S : St} (h : w_X1_digitOf k0 v1 post S) : Met l yX1_digitOf (wW yX1_digitOf cX1_digitOf 2 (some .int)) ({ frames := 1, cells := 0, slots := 0, locals := 23 } : Room) (va_Pc [.ref (P k0), .int v1] (PreX dC dI cA adK adV P S)) (va_Qi post (fun u t => VX dC dI cA P u t.heap) (PA 56 P)) 0 0 (PA 56 P) := by
  refine Met.ofW (cc := cX1_digitOf) (maxL := 2) (ret := (some .int)) (by decide) rfl ?_
  intro p e s m args below meth c s₁ B hml hv
  obtain ⟨rfl, hP, hKX⟩ := hv
  have hts : ∀ w ∈ G, w.before [.ref (P k0), .int v1].toArray s = true := fun w hw => atoms_spec (ws := wW yX1_digitOf cX1_digitOf 2 (some .int)) B.pre w (List.mem_cons_of_mem _ hw)
  have C : CtxX dC dI cA adK adV P p s m [.ref (P k0), .int v1].toArray meth c cX1_digitOf 2 (some .int) RX1 := ⟨hI, hKX, ⟨B.exec, B.bytes, hml, findClass_of_methodNamed B.named, hts⟩, B.returns, B.notSynchronized⟩
  have hS : va_S (PA 56 P) s.heap s.heap [] := va_S.rf
  have hl := lv_entry ([.ref (P k0), .int v1]) (n := 2) (Nat.le_of_ble_eq_true rfl)
  rw [lg_entry_eq]
  generalize (lg_sl ([.ref (P k0), .int v1]) ++ List.replicate (2 - (lg_sl ([.ref (P k0), .int v1])).length) Slot.unset).toArray = ls at hl ⊢
  have hl : lv_has ls 2 [(0, .ref (P k0)), (1, .int v1)] := hl
  exact e_X1_digitOf C _ _ _ _ _ _ h hk0 hP hS hl
set_option maxRecDepth 100000 in
set_option maxHeartbeats 4000000 in
theorem b_X1_restAt_46 {p : Program} {l : Launch} {e : Env} {s : State} {m : MethodId} {args : Array Value} {below : List Frame} {meth : Method} {c : Code} {dC : Nat → ClassId} {dI : Nat → Nat → Nat} {cA : Nat → ClassId} {adK adV P : Nat → Nat} (C : CtxX dC dI cA adK adV P p s m args meth c cX1_restAt 5 (some .int) RX1) {post : Int32 → St → Prop}  : ∀ (n : Nat) (k0 : Nat) (v2 : Int32) (v3 : Int32) (v4 : Int32) (S : St) (H : Heap) (locs : List Loc) (ls : Array Slot), w_X1_restAt_46 post n k0 v2 v3 v4 S → kdX k0 = 1 → VX dC dI cA P S H → va_S (PA 56 P) s.heap H locs → lv_has ls 5 [(0, .ref (P k0)), (2, .int v2), (3, .int v3), (4, .int v4)] → W p l e ({ frames := 1, cells := 0, slots := 0, locals := 21 } : Room) s m args below meth c H locs 0 0 (MQ below (va_Qi post (fun u t => VX dC dI cA P u t.heap) (PA 56 P)) args s 0 0 (PA 56 P)) (F0 m 46 ls []) := by
  have C := C
  obtain ⟨hI, hKX, ⟨hx, hb, hml, hown, hts⟩, hr, hlocks⟩ := id C
  have hK := hKX.1
  intro n
  induction n with
  | zero =>
    intro k0 v2 v3 v4 S H locs ls h hk0 hP hS hl
    simp only [w_X1_restAt_46] at h
  | succ n ih =>
    intro k0 v2 v3 v4 S H locs ls h hk0 hP hS hl
    rw [w_X1_restAt_46] at h
    refine lv_iload hx hb dX1_restAt_46 (lv_at hl 3 rfl) ?_
    refine lv_iload_n hx hb dX1_restAt_48 rfl (lv_at hl 1 rfl) ?_
    refine lv_icmp_ge (tgt := 64) hx hb dX1_restAt_49 (by decide) (fun c10 => ?_) (fun c10 => ?_)
    · replace h := h.1 c10
      refine lv_iload_n hx hb dX1_restAt_64 rfl (lv_at hl 2 rfl) ?_
      exact g_iret hx hb hr hlocks h hP hS dX1_restAt_65
    · replace h := h.2 c10
      refine lv_aload_n hx hb dX1_restAt_52 rfl (lv_at hl 0 rfl) ?_
      refine lv_iload_n hx hb dX1_restAt_53 rfl (lv_at hl 2 rfl) ?_
      refine va_calli (va_runV (As := [.int _]) (rest := []) ⟨hx, hb, hml, hown, hts⟩ (c_X1_restAfter l hI hk0 h) (cwV 1 hts gv_X1_49 rfl rfl rfl hv_X1_restAfter ⟨Nat.le_of_ble_eq_true rfl, Nat.le_of_ble_eq_true rfl⟩) (preV_X hKX hP hS (kX_lt hk0) (eX1 hk0) rfl) rfl rfl hl.1 rfl (lv_room (Nat.le_of_ble_eq_true rfl)) dX1_restAt_54 ⟨Nat.le_of_ble_eq_true rfl, Nat.le_of_ble_eq_true rfl⟩) hS (fun _ _ h => h) (fun _ h => h) (fun r12 S11 t H locs ht _ h hB _ _ hS => ?_)
      have hP : VX dC dI cA P S11 H := by rw [← ht]; exact hB
      refine lv_istore_n (lv' := [(3, .int r12), (0, .ref (P k0)), (2, .int v2), (4, .int v4)]) hx hb dX1_restAt_57 rfl hl (by decide) rfl (fun ls hl => ?_)
      obtain ⟨x13, ex13⟩ : ∃ y : Int32, y = v4 + 1 := ⟨_, rfl⟩
      replace h := h x13 ex13
      refine lv_iinc (v := x13) (lv' := [(4, .int x13), (3, .int r12), (0, .ref (P k0)), (2, .int v2)]) hx hb dX1_restAt_58 hl (k := 3) rfl (by rw [ex13]; rfl) (by decide) rfl (fun ls hl => ?_)
      refine lv_goto (tgt := 46) hx hb dX1_restAt_61 (by decide) ?_
      exact ih _ _ _ _ _ _ _ _ h hk0 hP hS (lv_sub hl [2, 3, 1, 0] rfl)
set_option maxRecDepth 100000 in
set_option maxHeartbeats 4000000 in
theorem b_X1_restAt_30 {p : Program} {l : Launch} {e : Env} {s : State} {m : MethodId} {args : Array Value} {below : List Frame} {meth : Method} {c : Code} {dC : Nat → ClassId} {dI : Nat → Nat → Nat} {cA : Nat → ClassId} {adK adV P : Nat → Nat} (C : CtxX dC dI cA adK adV P p s m args meth c cX1_restAt 5 (some .int) RX1) {post : Int32 → St → Prop}  : ∀ (k0 : Nat) (y0 : Int32) (S : St) (H : Heap) (locs : List Loc) (ls : Array Slot), w_X1_restAt_30 post k0 y0 S → kdX k0 = 1 → VX dC dI cA P S H → va_S (PA 56 P) s.heap H locs → lv_has ls 5 [(0, .ref (P k0))] → W p l e ({ frames := 1, cells := 0, slots := 0, locals := 21 } : Room) s m args below meth c H locs 0 0 (MQ below (va_Qi post (fun u t => VX dC dI cA P u t.heap) (PA 56 P)) args s 0 0 (PA 56 P)) (F0 m 30 ls [.int y0]) := by
  have C := C
  obtain ⟨hI, hKX, ⟨hx, hb, hml, hown, hts⟩, hr, hlocks⟩ := id C
  have hK := hKX.1
  intro k0 y0 S H locs ls h hk0 hP hS hl
  rw [w_X1_restAt_30] at h
  refine lv_istore_n (lv' := [(2, .int y0), (0, .ref (P k0))]) hx hb dX1_restAt_30 rfl hl (by decide) rfl (fun ls hl => ?_)
  refine lv_aload_n hx hb dX1_restAt_31 rfl (lv_at hl 1 rfl) ?_
  refine g_get (v := .int (S.1 k0 0)) hx hb hts inG_X1 hown hK hP (kX_lt hk0) (eX1 hk0) rfl 0 (by decide) G_fl_X1_9 rfl rfl dX1_restAt_32 ?_
  refine lv_aload_n hx hb dX1_restAt_35 rfl (lv_at hl 1 rfl) ?_
  refine g_get (v := .int (S.1 k0 1)) hx hb hts inG_X1 hown hK hP (kX_lt hk0) (eX1 hk0) rfl 1 (by decide) G_fl_X1_15 rfl rfl dX1_restAt_36 ?_
  replace h := h _ rfl
  replace h := h _ rfl
  refine va_calli (va_runSN (As := [.int _, .int _]) (rest := []) ⟨hx, hb, hml, hown, hts⟩ (c_X8_remainder l hI h) ⟨va_cnB 2 hts (good_W G_cd_X8_remainder) rfl rfl rfl (kx_n2 hKX) (hts _ G_in_X8) hd_X8_remainder ⟨Nat.le_of_ble_eq_true rfl, Nat.le_of_ble_eq_true rfl⟩, hts _ G_st_X8_remainder, trivial⟩ (preS_X hKX hP hS) rfl rfl hl.1 rfl (lv_room (Nat.le_of_ble_eq_true rfl)) dX1_restAt_39 ⟨Nat.le_of_ble_eq_true rfl, Nat.le_of_ble_eq_true rfl⟩) hS (fun _ _ h => h) (fun _ h => h) (fun r9 S8 t H locs ht _ h hB _ _ hS => ?_)
  have hP : VX dC dI cA P S8 H := by rw [← ht]; exact hB
  refine lv_istore_n (lv' := [(3, .int r9), (2, .int y0), (0, .ref (P k0))]) hx hb dX1_restAt_42 rfl hl (by decide) rfl (fun ls hl => ?_)
  refine lv_iconst (v := 0) hx hb dX1_restAt_43 (by decide) ?_
  refine lv_istore (lv' := [(4, .int 0), (3, .int r9), (2, .int y0), (0, .ref (P k0))]) hx hb dX1_restAt_44 hl (by decide) rfl (fun ls hl => ?_)
  obtain ⟨n14, h⟩ := h
  exact b_X1_restAt_46 C n14 _ _ _ _ _ _ _ _ h hk0 hP hS (lv_sub hl [3, 2, 1, 0] rfl)
set_option maxRecDepth 100000 in
set_option maxHeartbeats 4000000 in
theorem e_X1_restAt {p : Program} {l : Launch} {e : Env} {s : State} {m : MethodId} {args : Array Value} {below : List Frame} {meth : Method} {c : Code} {dC : Nat → ClassId} {dI : Nat → Nat → Nat} {cA : Nat → ClassId} {adK adV P : Nat → Nat} (C : CtxX dC dI cA adK adV P p s m args meth c cX1_restAt 5 (some .int) RX1) {post : Int32 → St → Prop} : ∀ (k0 : Nat) (v1 : Int32) (S : St) (H : Heap) (locs : List Loc) (ls : Array Slot), w_X1_restAt k0 v1 post S → kdX k0 = 1 → VX dC dI cA P S H → va_S (PA 56 P) s.heap H locs → lv_has ls 5 [(0, .ref (P k0)), (1, .int v1)] → W p l e ({ frames := 1, cells := 0, slots := 0, locals := 21 } : Room) s m args below meth c H locs 0 0 (MQ below (va_Qi post (fun u t => VX dC dI cA P u t.heap) (PA 56 P)) args s 0 0 (PA 56 P)) (F0 m 0 ls []) := by
  have C := C
  obtain ⟨hI, hKX, ⟨hx, hb, hml, hown, hts⟩, hr, hlocks⟩ := id C
  have hK := hKX.1
  intro k0 v1 S H locs ls h hk0 hP hS hl
  rw [w_X1_restAt] at h
  refine lv_iload_n hx hb dX1_restAt_0 rfl (lv_at hl 1 rfl) ?_
  refine lv_aload_n hx hb dX1_restAt_1 rfl (lv_at hl 0 rfl) ?_
  refine g_get (v := .int (S.1 k0 3)) hx hb hts inG_X1 hown hK hP (kX_lt hk0) (eX1 hk0) rfl 3 (by decide) G_fl_X1_21 rfl rfl dX1_restAt_2 ?_
  refine lv_icmp_ge (tgt := 12) hx hb dX1_restAt_5 (by decide) (fun c1 => ?_) (fun c1 => ?_)
  · replace h := h.1 c1
    refine lv_aload_n hx hb dX1_restAt_12 rfl (lv_at hl 0 rfl) ?_
    refine g_get (v := .int (S.1 k0 3)) hx hb hts inG_X1 hown hK hP (kX_lt hk0) (eX1 hk0) rfl 3 (by decide) G_fl_X1_21 rfl rfl dX1_restAt_13 ?_
    refine lv_iload_n hx hb dX1_restAt_16 rfl (lv_at hl 1 rfl) ?_
    refine lv_aload_n hx hb dX1_restAt_17 rfl (lv_at hl 0 rfl) ?_
    refine g_get (v := .int (S.1 k0 3)) hx hb hts inG_X1 hown hK hP (kX_lt hk0) (eX1 hk0) rfl 3 (by decide) G_fl_X1_21 rfl rfl dX1_restAt_18 ?_
    refine lv_isub hx hb dX1_restAt_21 ?_
    refine lv_aload_n hx hb dX1_restAt_22 rfl (lv_at hl 0 rfl) ?_
    refine g_get (v := .int (S.1 k0 4)) hx hb hts inG_X1 hown hK hP (kX_lt hk0) (eX1 hk0) rfl 4 (by decide) G_fl_X1_24 rfl rfl dX1_restAt_23 ?_
    replace h := h _ rfl
    replace h := h _ rfl
    refine va_calli (va_runSN (As := [.int _, .int _]) (rest := [.int _]) ⟨hx, hb, hml, hown, hts⟩ (c_X8_remainder l hI h) ⟨va_cnB 2 hts (good_W G_cd_X8_remainder) rfl rfl rfl (kx_n2 hKX) (hts _ G_in_X8) hd_X8_remainder ⟨Nat.le_of_ble_eq_true rfl, Nat.le_of_ble_eq_true rfl⟩, hts _ G_st_X8_remainder, trivial⟩ (preS_X hKX hP hS) rfl rfl hl.1 rfl (lv_room (Nat.le_of_ble_eq_true rfl)) dX1_restAt_26 ⟨Nat.le_of_ble_eq_true rfl, Nat.le_of_ble_eq_true rfl⟩) hS (fun _ _ h => h) (fun _ h => h) (fun r5 S4 t H locs ht _ h hB _ _ hS => ?_)
    have hP : VX dC dI cA P S4 H := by rw [← ht]; exact hB
    refine lv_iadd hx hb dX1_restAt_29 ?_
    exact b_X1_restAt_30 C _ _ _ _ _ _ h hk0 hP hS (lv_sub hl [0] rfl)
  · replace h := h.2 c1
    refine lv_iload_n hx hb dX1_restAt_8 rfl (lv_at hl 1 rfl) ?_
    refine lv_goto (tgt := 30) hx hb dX1_restAt_9 (by decide) ?_
    exact b_X1_restAt_30 C _ _ _ _ _ _ h hk0 hP hS (lv_sub hl [0] rfl)
set_option maxRecDepth 100000 in
set_option maxHeartbeats 4000000 in
theorem c_X1_restAt (l : Launch) {dC : Nat → ClassId} {dI : Nat → Nat → Nat} {cA : Nat → ClassId} {adK adV P : Nat → Nat} (hI : PInj 56 P) {k0 : Nat} {v1 : Int32} (hk0 : kdX k0 = 1) {post : Int32 → St → Prop} {S : St} (h : w_X1_restAt k0 v1 post S) : Met l yX1_restAt (wW yX1_restAt cX1_restAt 5 (some .int)) ({ frames := 1, cells := 0, slots := 0, locals := 21 } : Room) (va_Pc [.ref (P k0), .int v1] (PreX dC dI cA adK adV P S)) (va_Qi post (fun u t => VX dC dI cA P u t.heap) (PA 56 P)) 0 0 (PA 56 P) := by
  refine Met.ofW (cc := cX1_restAt) (maxL := 5) (ret := (some .int)) (by decide) rfl ?_
  intro p e s m args below meth c s₁ B hml hv
  obtain ⟨rfl, hP, hKX⟩ := hv
  have hts : ∀ w ∈ G, w.before [.ref (P k0), .int v1].toArray s = true := fun w hw => atoms_spec (ws := wW yX1_restAt cX1_restAt 5 (some .int)) B.pre w (List.mem_cons_of_mem _ hw)
  have C : CtxX dC dI cA adK adV P p s m [.ref (P k0), .int v1].toArray meth c cX1_restAt 5 (some .int) RX1 := ⟨hI, hKX, ⟨B.exec, B.bytes, hml, findClass_of_methodNamed B.named, hts⟩, B.returns, B.notSynchronized⟩
  have hS : va_S (PA 56 P) s.heap s.heap [] := va_S.rf
  have hl := lv_entry ([.ref (P k0), .int v1]) (n := 5) (Nat.le_of_ble_eq_true rfl)
  rw [lg_entry_eq]
  generalize (lg_sl ([.ref (P k0), .int v1]) ++ List.replicate (5 - (lg_sl ([.ref (P k0), .int v1])).length) Slot.unset).toArray = ls at hl ⊢
  have hl : lv_has ls 5 [(0, .ref (P k0)), (1, .int v1)] := hl
  exact e_X1_restAt C _ _ _ _ _ _ h hk0 hP hS hl
set_option maxRecDepth 100000 in
set_option maxHeartbeats 4000000 in
theorem e_X1_whole {p : Program} {l : Launch} {e : Env} {s : State} {m : MethodId} {args : Array Value} {below : List Frame} {meth : Method} {c : Code} {dC : Nat → ClassId} {dI : Nat → Nat → Nat} {cA : Nat → ClassId} {adK adV P : Nat → Nat} (C : CtxX dC dI cA adK adV P p s m args meth c cX1_whole 1 (some .int) RX1) {post : Int32 → St → Prop} : ∀ (k0 : Nat) (S : St) (H : Heap) (locs : List Loc) (ls : Array Slot), w_X1_whole k0 post S → kdX k0 = 1 → VX dC dI cA P S H → va_S (PA 56 P) s.heap H locs → lv_has ls 1 [(0, .ref (P k0))] → W p l e ({ frames := 1, cells := 0, slots := 0, locals := 23 } : Room) s m args below meth c H locs 0 0 (MQ below (va_Qi post (fun u t => VX dC dI cA P u t.heap) (PA 56 P)) args s 0 0 (PA 56 P)) (F0 m 0 ls []) := by
  have C := C
  obtain ⟨hI, hKX, ⟨hx, hb, hml, hown, hts⟩, hr, hlocks⟩ := id C
  have hK := hKX.1
  intro k0 S H locs ls h hk0 hP hS hl
  rw [w_X1_whole] at h
  refine lv_aload_n hx hb dX1_whole_0 rfl (lv_at hl 0 rfl) ?_
  refine g_get (v := .int (S.1 k0 0)) hx hb hts inG_X1 hown hK hP (kX_lt hk0) (eX1 hk0) rfl 0 (by decide) G_fl_X1_9 rfl rfl dX1_whole_1 ?_
  refine lv_i2l hx hb dX1_whole_4 rfl ?_
  refine lv_aload_n hx hb dX1_whole_5 rfl (lv_at hl 0 rfl) ?_
  refine g_get (v := .int (S.1 k0 1)) hx hb hts inG_X1 hown hK hP (kX_lt hk0) (eX1 hk0) rfl 1 (by decide) G_fl_X1_15 rfl rfl dX1_whole_6 ?_
  refine lv_i2l hx hb dX1_whole_9 rfl ?_
  replace h := h _ rfl
  replace h := h _ rfl
  refine va_calll (va_runSN (As := [.long _, .long _]) (rest := []) ⟨hx, hb, hml, hown, hts⟩ (c_X8_quotient l hI h) ⟨va_cnB 2 hts (good_W G_cd_X8_quotient) rfl rfl rfl (kx_n3 hKX) (hts _ G_in_X8) hd_X8_quotient ⟨Nat.le_of_ble_eq_true rfl, Nat.le_of_ble_eq_true rfl⟩, hts _ G_st_X8_quotient, trivial⟩ (preS_X hKX hP hS) rfl rfl hl.1 rfl (lv_room (Nat.le_of_ble_eq_true rfl)) dX1_whole_10 ⟨Nat.le_of_ble_eq_true rfl, Nat.le_of_ble_eq_true rfl⟩) hS (fun _ _ h => h) (fun _ h => h) (fun r4 S3 t H locs ht _ h hB _ _ hS => ?_)
  have hP : VX dC dI cA P S3 H := by rw [← ht]; exact hB
  refine lv_l2i hx hb dX1_whole_13 rfl ?_
  exact g_iret hx hb hr hlocks h hP hS dX1_whole_14
set_option maxRecDepth 100000 in
set_option maxHeartbeats 4000000 in
theorem c_X1_whole (l : Launch) {dC : Nat → ClassId} {dI : Nat → Nat → Nat} {cA : Nat → ClassId} {adK adV P : Nat → Nat} (hI : PInj 56 P) {k0 : Nat} (hk0 : kdX k0 = 1) {post : Int32 → St → Prop} {S : St} (h : w_X1_whole k0 post S) : Met l yX1_whole (wW yX1_whole cX1_whole 1 (some .int)) ({ frames := 1, cells := 0, slots := 0, locals := 23 } : Room) (va_Pc [.ref (P k0)] (PreX dC dI cA adK adV P S)) (va_Qi post (fun u t => VX dC dI cA P u t.heap) (PA 56 P)) 0 0 (PA 56 P) := by
  refine Met.ofW (cc := cX1_whole) (maxL := 1) (ret := (some .int)) (by decide) rfl ?_
  intro p e s m args below meth c s₁ B hml hv
  obtain ⟨rfl, hP, hKX⟩ := hv
  have hts : ∀ w ∈ G, w.before [.ref (P k0)].toArray s = true := fun w hw => atoms_spec (ws := wW yX1_whole cX1_whole 1 (some .int)) B.pre w (List.mem_cons_of_mem _ hw)
  have C : CtxX dC dI cA adK adV P p s m [.ref (P k0)].toArray meth c cX1_whole 1 (some .int) RX1 := ⟨hI, hKX, ⟨B.exec, B.bytes, hml, findClass_of_methodNamed B.named, hts⟩, B.returns, B.notSynchronized⟩
  have hS : va_S (PA 56 P) s.heap s.heap [] := va_S.rf
  have hl := lv_entry ([.ref (P k0)]) (n := 1) (Nat.le_of_ble_eq_true rfl)
  rw [lg_entry_eq]
  generalize (lg_sl ([.ref (P k0)]) ++ List.replicate (1 - (lg_sl ([.ref (P k0)])).length) Slot.unset).toArray = ls at hl ⊢
  have hl : lv_has ls 1 [(0, .ref (P k0))] := hl
  exact e_X1_whole C _ _ _ _ _ h hk0 hP hS hl
set_option maxRecDepth 100000 in
set_option maxHeartbeats 4000000 in
theorem b_X1_placeOfDigit_14 {p : Program} {l : Launch} {e : Env} {s : State} {m : MethodId} {args : Array Value} {below : List Frame} {meth : Method} {c : Code} {dC : Nat → ClassId} {dI : Nat → Nat → Nat} {cA : Nat → ClassId} {adK adV P : Nat → Nat} (C : CtxX dC dI cA adK adV P p s m args meth c cX1_placeOfDigit 4 (some .int) RX1) {post : Int32 → St → Prop}  : ∀ (n : Nat) (k0 : Nat) (v1 : Int32) (v2 : Int32) (v3 : Int32) (S : St) (H : Heap) (locs : List Loc) (ls : Array Slot), w_X1_placeOfDigit_14 post n k0 v1 v2 v3 S → kdX k0 = 1 → VX dC dI cA P S H → va_S (PA 56 P) s.heap H locs → lv_has ls 4 [(0, .ref (P k0)), (1, .int v1), (2, .int v2), (3, .int v3)] → W p l e ({ frames := 2, cells := 0, slots := 0, locals := 44 } : Room) s m args below meth c H locs 0 0 (MQ below (va_Qi post (fun u t => VX dC dI cA P u t.heap) (PA 56 P)) args s 0 0 (PA 56 P)) (F0 m 14 ls []) := by
  have C := C
  obtain ⟨hI, hKX, ⟨hx, hb, hml, hown, hts⟩, hr, hlocks⟩ := id C
  have hK := hKX.1
  intro n
  induction n with
  | zero =>
    intro k0 v1 v2 v3 S H locs ls h hk0 hP hS hl
    simp only [w_X1_placeOfDigit_14] at h
  | succ n ih =>
    intro k0 v1 v2 v3 S H locs ls h hk0 hP hS hl
    rw [w_X1_placeOfDigit_14] at h
    refine lv_iload_n hx hb dX1_placeOfDigit_14 rfl (lv_at hl 3 rfl) ?_
    refine lv_aload_n hx hb dX1_placeOfDigit_15 rfl (lv_at hl 0 rfl) ?_
    refine g_get (v := .int (S.1 k0 3)) hx hb hts inG_X1 hown hK hP (kX_lt hk0) (eX1 hk0) rfl 3 (by decide) G_fl_X1_21 rfl rfl dX1_placeOfDigit_16 ?_
    refine lv_aload_n hx hb dX1_placeOfDigit_19 rfl (lv_at hl 0 rfl) ?_
    refine g_get (v := .int (S.1 k0 4)) hx hb hts inG_X1 hown hK hP (kX_lt hk0) (eX1 hk0) rfl 4 (by decide) G_fl_X1_24 rfl rfl dX1_placeOfDigit_20 ?_
    refine lv_iadd hx hb dX1_placeOfDigit_23 ?_
    refine lv_icmp_ge (tgt := 50) hx hb dX1_placeOfDigit_24 (by decide) (fun c5 => ?_) (fun c5 => ?_)
    · replace h := h.1 c5
      refine lv_bipush (v := (-2)) hx hb dX1_placeOfDigit_50 (by decide) ?_
      exact g_iret hx hb hr hlocks h hP hS dX1_placeOfDigit_52
    · replace h := h.2 c5
      refine lv_aload_n hx hb dX1_placeOfDigit_27 rfl (lv_at hl 0 rfl) ?_
      refine lv_iload_n hx hb dX1_placeOfDigit_28 rfl (lv_at hl 2 rfl) ?_
      refine va_calli (va_runV (As := [.int _]) (rest := []) ⟨hx, hb, hml, hown, hts⟩ (c_X1_digitOf l hI hk0 h) (cwV 1 hts gv_X1_60 rfl rfl rfl hv_X1_digitOf ⟨Nat.le_of_ble_eq_true rfl, Nat.le_of_ble_eq_true rfl⟩) (preV_X hKX hP hS (kX_lt hk0) (eX1 hk0) rfl) rfl rfl hl.1 rfl (lv_room (Nat.le_of_ble_eq_true rfl)) dX1_placeOfDigit_29 ⟨Nat.le_of_ble_eq_true rfl, Nat.le_of_ble_eq_true rfl⟩) hS (fun _ _ h => h) (fun _ h => h) (fun r7 S6 t H locs ht _ h hB _ _ hS => ?_)
      have hP : VX dC dI cA P S6 H := by rw [← ht]; exact hB
      refine lv_iload_n hx hb dX1_placeOfDigit_32 rfl (lv_at hl 1 rfl) ?_
      refine lv_icmp_ne (tgt := 38) hx hb dX1_placeOfDigit_33 (by decide) (fun c8 => ?_) (fun c8 => ?_)
      · replace h := h.2 c8
        refine lv_aload_n hx hb dX1_placeOfDigit_38 rfl (lv_at hl 0 rfl) ?_
        refine lv_iload_n hx hb dX1_placeOfDigit_39 rfl (lv_at hl 2 rfl) ?_
        refine va_calli (va_runV (As := [.int _]) (rest := []) ⟨hx, hb, hml, hown, hts⟩ (c_X1_restAfter l hI hk0 h) (cwV 1 hts gv_X1_49 rfl rfl rfl hv_X1_restAfter ⟨Nat.le_of_ble_eq_true rfl, Nat.le_of_ble_eq_true rfl⟩) (preV_X hKX hP hS (kX_lt hk0) (eX1 hk0) rfl) rfl rfl hl.1 rfl (lv_room (Nat.le_of_ble_eq_true rfl)) dX1_placeOfDigit_40 ⟨Nat.le_of_ble_eq_true rfl, Nat.le_of_ble_eq_true rfl⟩) hS (fun _ _ h => h) (fun _ h => h) (fun r10 S9 t H locs ht _ h hB _ _ hS => ?_)
        have hP : VX dC dI cA P S9 H := by rw [← ht]; exact hB
        refine lv_istore_n (lv' := [(2, .int r10), (0, .ref (P k0)), (1, .int v1), (3, .int v3)]) hx hb dX1_placeOfDigit_43 rfl hl (by decide) rfl (fun ls hl => ?_)
        obtain ⟨x11, ex11⟩ : ∃ y : Int32, y = v3 + 1 := ⟨_, rfl⟩
        replace h := h x11 ex11
        refine lv_iinc (v := x11) (lv' := [(3, .int x11), (2, .int r10), (0, .ref (P k0)), (1, .int v1)]) hx hb dX1_placeOfDigit_44 hl (k := 3) rfl (by rw [ex11]; rfl) (by decide) rfl (fun ls hl => ?_)
        refine lv_goto (tgt := 14) hx hb dX1_placeOfDigit_47 (by decide) ?_
        exact ih _ _ _ _ _ _ _ _ h hk0 hP hS (lv_sub hl [2, 3, 1, 0] rfl)
      · replace h := h.1 c8
        refine lv_iload_n hx hb dX1_placeOfDigit_36 rfl (lv_at hl 3 rfl) ?_
        exact g_iret hx hb hr hlocks h hP hS dX1_placeOfDigit_37
set_option maxRecDepth 100000 in
set_option maxHeartbeats 4000000 in
theorem e_X1_placeOfDigit {p : Program} {l : Launch} {e : Env} {s : State} {m : MethodId} {args : Array Value} {below : List Frame} {meth : Method} {c : Code} {dC : Nat → ClassId} {dI : Nat → Nat → Nat} {cA : Nat → ClassId} {adK adV P : Nat → Nat} (C : CtxX dC dI cA adK adV P p s m args meth c cX1_placeOfDigit 4 (some .int) RX1) {post : Int32 → St → Prop} : ∀ (k0 : Nat) (v1 : Int32) (S : St) (H : Heap) (locs : List Loc) (ls : Array Slot), w_X1_placeOfDigit k0 v1 post S → kdX k0 = 1 → VX dC dI cA P S H → va_S (PA 56 P) s.heap H locs → lv_has ls 4 [(0, .ref (P k0)), (1, .int v1)] → W p l e ({ frames := 2, cells := 0, slots := 0, locals := 44 } : Room) s m args below meth c H locs 0 0 (MQ below (va_Qi post (fun u t => VX dC dI cA P u t.heap) (PA 56 P)) args s 0 0 (PA 56 P)) (F0 m 0 ls []) := by
  have C := C
  obtain ⟨hI, hKX, ⟨hx, hb, hml, hown, hts⟩, hr, hlocks⟩ := id C
  have hK := hKX.1
  intro k0 v1 S H locs ls h hk0 hP hS hl
  rw [w_X1_placeOfDigit] at h
  refine lv_aload_n hx hb dX1_placeOfDigit_0 rfl (lv_at hl 0 rfl) ?_
  refine g_get (v := .int (S.1 k0 0)) hx hb hts inG_X1 hown hK hP (kX_lt hk0) (eX1 hk0) rfl 0 (by decide) G_fl_X1_9 rfl rfl dX1_placeOfDigit_1 ?_
  refine lv_aload_n hx hb dX1_placeOfDigit_4 rfl (lv_at hl 0 rfl) ?_
  refine g_get (v := .int (S.1 k0 1)) hx hb hts inG_X1 hown hK hP (kX_lt hk0) (eX1 hk0) rfl 1 (by decide) G_fl_X1_15 rfl rfl dX1_placeOfDigit_5 ?_
  replace h := h _ rfl
  replace h := h _ rfl
  refine va_calli (va_runSN (As := [.int _, .int _]) (rest := []) ⟨hx, hb, hml, hown, hts⟩ (c_X8_remainder l hI h) ⟨va_cnB 2 hts (good_W G_cd_X8_remainder) rfl rfl rfl (kx_n2 hKX) (hts _ G_in_X8) hd_X8_remainder ⟨Nat.le_of_ble_eq_true rfl, Nat.le_of_ble_eq_true rfl⟩, hts _ G_st_X8_remainder, trivial⟩ (preS_X hKX hP hS) rfl rfl hl.1 rfl (lv_room (Nat.le_of_ble_eq_true rfl)) dX1_placeOfDigit_8 ⟨Nat.le_of_ble_eq_true rfl, Nat.le_of_ble_eq_true rfl⟩) hS (fun _ _ h => h) (fun _ h => h) (fun r4 S3 t H locs ht _ h hB _ _ hS => ?_)
  have hP : VX dC dI cA P S3 H := by rw [← ht]; exact hB
  refine lv_istore_n (lv' := [(2, .int r4), (0, .ref (P k0)), (1, .int v1)]) hx hb dX1_placeOfDigit_11 rfl hl (by decide) rfl (fun ls hl => ?_)
  refine lv_iconst (v := 0) hx hb dX1_placeOfDigit_12 (by decide) ?_
  refine lv_istore_n (lv' := [(3, .int 0), (2, .int r4), (0, .ref (P k0)), (1, .int v1)]) hx hb dX1_placeOfDigit_13 rfl hl (by decide) rfl (fun ls hl => ?_)
  obtain ⟨n12, h⟩ := h
  exact b_X1_placeOfDigit_14 C n12 _ _ _ _ _ _ _ _ h hk0 hP hS (lv_sub hl [2, 3, 1, 0] rfl)
set_option maxRecDepth 100000 in
set_option maxHeartbeats 4000000 in
theorem c_X1_placeOfDigit (l : Launch) {dC : Nat → ClassId} {dI : Nat → Nat → Nat} {cA : Nat → ClassId} {adK adV P : Nat → Nat} (hI : PInj 56 P) {k0 : Nat} {v1 : Int32} (hk0 : kdX k0 = 1) {post : Int32 → St → Prop} {S : St} (h : w_X1_placeOfDigit k0 v1 post S) : Met l yX1_placeOfDigit (wW yX1_placeOfDigit cX1_placeOfDigit 4 (some .int)) ({ frames := 2, cells := 0, slots := 0, locals := 44 } : Room) (va_Pc [.ref (P k0), .int v1] (PreX dC dI cA adK adV P S)) (va_Qi post (fun u t => VX dC dI cA P u t.heap) (PA 56 P)) 0 0 (PA 56 P) := by
  refine Met.ofW (cc := cX1_placeOfDigit) (maxL := 4) (ret := (some .int)) (by decide) rfl ?_
  intro p e s m args below meth c s₁ B hml hv
  obtain ⟨rfl, hP, hKX⟩ := hv
  have hts : ∀ w ∈ G, w.before [.ref (P k0), .int v1].toArray s = true := fun w hw => atoms_spec (ws := wW yX1_placeOfDigit cX1_placeOfDigit 4 (some .int)) B.pre w (List.mem_cons_of_mem _ hw)
  have C : CtxX dC dI cA adK adV P p s m [.ref (P k0), .int v1].toArray meth c cX1_placeOfDigit 4 (some .int) RX1 := ⟨hI, hKX, ⟨B.exec, B.bytes, hml, findClass_of_methodNamed B.named, hts⟩, B.returns, B.notSynchronized⟩
  have hS : va_S (PA 56 P) s.heap s.heap [] := va_S.rf
  have hl := lv_entry ([.ref (P k0), .int v1]) (n := 4) (Nat.le_of_ble_eq_true rfl)
  rw [lg_entry_eq]
  generalize (lg_sl ([.ref (P k0), .int v1]) ++ List.replicate (4 - (lg_sl ([.ref (P k0), .int v1])).length) Slot.unset).toArray = ls at hl ⊢
  have hl : lv_has ls 4 [(0, .ref (P k0)), (1, .int v1)] := hl
  exact e_X1_placeOfDigit C _ _ _ _ _ _ h hk0 hP hS hl
set_option maxRecDepth 100000 in
set_option maxHeartbeats 4000000 in
theorem e_X8_isWithin {p : Program} {l : Launch} {e : Env} {s : State} {m : MethodId} {args : Array Value} {below : List Frame} {meth : Method} {c : Code} {dC : Nat → ClassId} {dI : Nat → Nat → Nat} {cA : Nat → ClassId} {adK adV P : Nat → Nat} (C : CtxX dC dI cA adK adV P p s m args meth c cX8_isWithin 3 (some .boolean) RX8) {post : Int32 → St → Prop} : ∀ (v0 : Int32) (v1 : Int32) (v2 : Int32) (S : St) (H : Heap) (locs : List Loc) (ls : Array Slot), w_X8_isWithin v0 v1 v2 post S → VX dC dI cA P S H → va_S (PA 56 P) s.heap H locs → lv_has ls 3 [(0, .int v0), (1, .int v1), (2, .int v2)] → W p l e ({ frames := 0, cells := 0, slots := 0, locals := 0 } : Room) s m args below meth c H locs 0 0 (MQ below (va_Qi post (fun u t => VX dC dI cA P u t.heap) (PA 56 P)) args s 0 0 (PA 56 P)) (F0 m 0 ls []) := by
  have C := C
  obtain ⟨hI, hKX, ⟨hx, hb, hml, hown, hts⟩, hr, hlocks⟩ := id C
  have hK := hKX.1
  intro v0 v1 v2 S H locs ls h hP hS hl
  rw [w_X8_isWithin] at h
  refine lv_iload_n hx hb dX8_isWithin_0 rfl (lv_at hl 0 rfl) ?_
  refine lv_iload_n hx hb dX8_isWithin_1 rfl (lv_at hl 1 rfl) ?_
  refine lv_icmp_lt (tgt := 14) hx hb dX8_isWithin_2 (by decide) (fun c1 => ?_) (fun c1 => ?_)
  · replace h := h.1 c1
    refine lv_iconst (v := 0) hx hb dX8_isWithin_14 (by decide) ?_
    exact g_zret hx hb hr hlocks bz_0 h hP hS dX8_isWithin_15
  · replace h := h.2 c1
    refine lv_iload_n hx hb dX8_isWithin_5 rfl (lv_at hl 0 rfl) ?_
    refine lv_iload_n hx hb dX8_isWithin_6 rfl (lv_at hl 2 rfl) ?_
    refine lv_icmp_gt (tgt := 14) hx hb dX8_isWithin_7 (by decide) (fun c2 => ?_) (fun c2 => ?_)
    · replace h := h.1 c2
      refine lv_iconst (v := 0) hx hb dX8_isWithin_14 (by decide) ?_
      exact g_zret hx hb hr hlocks bz_0 h hP hS dX8_isWithin_15
    · replace h := h.2 c2
      refine lv_iconst (v := 1) hx hb dX8_isWithin_10 (by decide) ?_
      refine lv_goto (tgt := 15) hx hb dX8_isWithin_11 (by decide) ?_
      exact g_zret hx hb hr hlocks bz_1 h hP hS dX8_isWithin_15
set_option maxRecDepth 100000 in
set_option maxHeartbeats 4000000 in
theorem c_X8_isWithin (l : Launch) {dC : Nat → ClassId} {dI : Nat → Nat → Nat} {cA : Nat → ClassId} {adK adV P : Nat → Nat} (hI : PInj 56 P) {v0 : Int32} {v1 : Int32} {v2 : Int32}  {post : Int32 → St → Prop} {S : St} (h : w_X8_isWithin v0 v1 v2 post S) : Met l yX8_isWithin (wW yX8_isWithin cX8_isWithin 3 (some .boolean)) ({ frames := 0, cells := 0, slots := 0, locals := 0 } : Room) (va_Pc [.int v0, .int v1, .int v2] (PreX dC dI cA adK adV P S)) (va_Qi post (fun u t => VX dC dI cA P u t.heap) (PA 56 P)) 0 0 (PA 56 P) := by
  refine Met.ofW (cc := cX8_isWithin) (maxL := 3) (ret := (some .boolean)) (by decide) rfl ?_
  intro p e s m args below meth c s₁ B hml hv
  obtain ⟨rfl, hP, hKX⟩ := hv
  have hts : ∀ w ∈ G, w.before [.int v0, .int v1, .int v2].toArray s = true := fun w hw => atoms_spec (ws := wW yX8_isWithin cX8_isWithin 3 (some .boolean)) B.pre w (List.mem_cons_of_mem _ hw)
  have C : CtxX dC dI cA adK adV P p s m [.int v0, .int v1, .int v2].toArray meth c cX8_isWithin 3 (some .boolean) RX8 := ⟨hI, hKX, ⟨B.exec, B.bytes, hml, findClass_of_methodNamed B.named, hts⟩, B.returns, B.notSynchronized⟩
  have hS : va_S (PA 56 P) s.heap s.heap [] := va_S.rf
  have hl := lv_entry ([.int v0, .int v1, .int v2]) (n := 3) (Nat.le_of_ble_eq_true rfl)
  rw [lg_entry_eq]
  generalize (lg_sl ([.int v0, .int v1, .int v2]) ++ List.replicate (3 - (lg_sl ([.int v0, .int v1, .int v2])).length) Slot.unset).toArray = ls at hl ⊢
  have hl : lv_has ls 3 [(0, .int v0), (1, .int v1), (2, .int v2)] := hl
  exact e_X8_isWithin C _ _ _ _ _ _ _ h  hP hS hl
set_option maxRecDepth 100000 in
set_option maxHeartbeats 4000000 in
theorem e_X1_partsInto {p : Program} {l : Launch} {e : Env} {s : State} {m : MethodId} {args : Array Value} {below : List Frame} {meth : Method} {c : Code} {dC : Nat → ClassId} {dI : Nat → Nat → Nat} {cA : Nat → ClassId} {adK adV P : Nat → Nat} (C : CtxX dC dI cA adK adV P p s m args meth c cX1_partsInto 2 (some .boolean) RX1) {post : Int32 → St → Prop} : ∀ (k0 : Nat) (v1 : Int32) (S : St) (H : Heap) (locs : List Loc) (ls : Array Slot), w_X1_partsInto k0 v1 post S → kdX k0 = 1 → VX dC dI cA P S H → va_S (PA 56 P) s.heap H locs → lv_has ls 2 [(0, .ref (P k0)), (1, .int v1)] → W p l e ({ frames := 1, cells := 0, slots := 0, locals := 22 } : Room) s m args below meth c H locs 0 0 (MQ below (va_Qi post (fun u t => VX dC dI cA P u t.heap) (PA 56 P)) args s 0 0 (PA 56 P)) (F0 m 0 ls []) := by
  have C := C
  obtain ⟨hI, hKX, ⟨hx, hb, hml, hown, hts⟩, hr, hlocks⟩ := id C
  have hK := hKX.1
  intro k0 v1 S H locs ls h hk0 hP hS hl
  rw [w_X1_partsInto] at h
  refine lv_iload_n hx hb dX1_partsInto_0 rfl (lv_at hl 1 rfl) ?_
  refine lv_iconst (v := 1) hx hb dX1_partsInto_1 (by decide) ?_
  refine lv_aload_n hx hb dX1_partsInto_2 rfl (lv_at hl 0 rfl) ?_
  refine g_get (v := .int (S.1 k0 4)) hx hb hts inG_X1 hown hK hP (kX_lt hk0) (eX1 hk0) rfl 4 (by decide) G_fl_X1_24 rfl rfl dX1_partsInto_3 ?_
  replace h := h _ rfl
  refine va_calli (va_runSN (As := [.int _, .int _, .int _]) (rest := []) ⟨hx, hb, hml, hown, hts⟩ (c_X8_isWithin l hI h) ⟨va_cnB 3 hts (good_W G_cd_X8_isWithin) rfl rfl rfl (kx_n4 hKX) (hts _ G_in_X8) hd_X8_isWithin ⟨Nat.le_of_ble_eq_true rfl, Nat.le_of_ble_eq_true rfl⟩, hts _ G_st_X8_isWithin, trivial⟩ (preS_X hKX hP hS) rfl rfl hl.1 rfl (lv_room (Nat.le_of_ble_eq_true rfl)) dX1_partsInto_6 ⟨Nat.le_of_ble_eq_true rfl, Nat.le_of_ble_eq_true rfl⟩) hS (fun _ _ h => h) (fun _ h => h) (fun r3 S2 t H locs ht _ h hB _ _ hS => ?_)
  have hP : VX dC dI cA P S2 H := by rw [← ht]; exact hB
  refine lv_if_eq (tgt := 27) hx hb dX1_partsInto_9 (by decide) (fun c4 => ?_) (fun c4 => ?_)
  · replace h := h.1 c4
    refine lv_iconst (v := 0) hx hb dX1_partsInto_27 (by decide) ?_
    exact g_zret hx hb hr hlocks bz_0 h hP hS dX1_partsInto_28
  · replace h := h.2 c4
    refine lv_aload_n hx hb dX1_partsInto_12 rfl (lv_at hl 0 rfl) ?_
    refine g_get (v := .int (S2.1 k0 4)) hx hb hts inG_X1 hown hK hP (kX_lt hk0) (eX1 hk0) rfl 4 (by decide) G_fl_X1_24 rfl rfl dX1_partsInto_13 ?_
    refine lv_iload_n hx hb dX1_partsInto_16 rfl (lv_at hl 1 rfl) ?_
    replace h := h _ rfl
    refine va_calli (va_runSN (As := [.int _, .int _]) (rest := []) ⟨hx, hb, hml, hown, hts⟩ (c_X8_remainder l hI h) ⟨va_cnB 2 hts (good_W G_cd_X8_remainder) rfl rfl rfl (kx_n2 hKX) (hts _ G_in_X8) hd_X8_remainder ⟨Nat.le_of_ble_eq_true rfl, Nat.le_of_ble_eq_true rfl⟩, hts _ G_st_X8_remainder, trivial⟩ (preS_X hKX hP hS) rfl rfl hl.1 rfl (lv_room (Nat.le_of_ble_eq_true rfl)) dX1_partsInto_17 ⟨Nat.le_of_ble_eq_true rfl, Nat.le_of_ble_eq_true rfl⟩) hS (fun _ _ h => h) (fun _ h => h) (fun r7 S6 t H locs ht _ h hB _ _ hS => ?_)
    have hP : VX dC dI cA P S6 H := by rw [← ht]; exact hB
    refine lv_if_ne (tgt := 27) hx hb dX1_partsInto_20 (by decide) (fun c8 => ?_) (fun c8 => ?_)
    · replace h := h.2 c8
      refine lv_iconst (v := 0) hx hb dX1_partsInto_27 (by decide) ?_
      exact g_zret hx hb hr hlocks bz_0 h hP hS dX1_partsInto_28
    · replace h := h.1 c8
      refine lv_iconst (v := 1) hx hb dX1_partsInto_23 (by decide) ?_
      refine lv_goto (tgt := 28) hx hb dX1_partsInto_24 (by decide) ?_
      exact g_zret hx hb hr hlocks bz_1 h hP hS dX1_partsInto_28
set_option maxRecDepth 100000 in
set_option maxHeartbeats 4000000 in
theorem c_X1_partsInto (l : Launch) {dC : Nat → ClassId} {dI : Nat → Nat → Nat} {cA : Nat → ClassId} {adK adV P : Nat → Nat} (hI : PInj 56 P) {k0 : Nat} {v1 : Int32} (hk0 : kdX k0 = 1) {post : Int32 → St → Prop} {S : St} (h : w_X1_partsInto k0 v1 post S) : Met l yX1_partsInto (wW yX1_partsInto cX1_partsInto 2 (some .boolean)) ({ frames := 1, cells := 0, slots := 0, locals := 22 } : Room) (va_Pc [.ref (P k0), .int v1] (PreX dC dI cA adK adV P S)) (va_Qi post (fun u t => VX dC dI cA P u t.heap) (PA 56 P)) 0 0 (PA 56 P) := by
  refine Met.ofW (cc := cX1_partsInto) (maxL := 2) (ret := (some .boolean)) (by decide) rfl ?_
  intro p e s m args below meth c s₁ B hml hv
  obtain ⟨rfl, hP, hKX⟩ := hv
  have hts : ∀ w ∈ G, w.before [.ref (P k0), .int v1].toArray s = true := fun w hw => atoms_spec (ws := wW yX1_partsInto cX1_partsInto 2 (some .boolean)) B.pre w (List.mem_cons_of_mem _ hw)
  have C : CtxX dC dI cA adK adV P p s m [.ref (P k0), .int v1].toArray meth c cX1_partsInto 2 (some .boolean) RX1 := ⟨hI, hKX, ⟨B.exec, B.bytes, hml, findClass_of_methodNamed B.named, hts⟩, B.returns, B.notSynchronized⟩
  have hS : va_S (PA 56 P) s.heap s.heap [] := va_S.rf
  have hl := lv_entry ([.ref (P k0), .int v1]) (n := 2) (Nat.le_of_ble_eq_true rfl)
  rw [lg_entry_eq]
  generalize (lg_sl ([.ref (P k0), .int v1]) ++ List.replicate (2 - (lg_sl ([.ref (P k0), .int v1])).length) Slot.unset).toArray = ls at hl ⊢
  have hl : lv_has ls 2 [(0, .ref (P k0)), (1, .int v1)] := hl
  exact e_X1_partsInto C _ _ _ _ _ _ h hk0 hP hS hl
set_option maxRecDepth 100000 in
set_option maxHeartbeats 4000000 in
theorem b_X1_turningRestTimes_16 {p : Program} {l : Launch} {e : Env} {s : State} {m : MethodId} {args : Array Value} {below : List Frame} {meth : Method} {c : Code} {dC : Nat → ClassId} {dI : Nat → Nat → Nat} {cA : Nat → ClassId} {adK adV P : Nat → Nat} (C : CtxX dC dI cA adK adV P p s m args meth c cX1_turningRestTimes 4 (some .int) RX1) {post : Int32 → St → Prop}  : ∀ (n : Nat) (k0 : Nat) (v2 : Int32) (v3 : Int32) (S : St) (H : Heap) (locs : List Loc) (ls : Array Slot), w_X1_turningRestTimes_16 post n k0 v2 v3 S → kdX k0 = 1 → VX dC dI cA P S H → va_S (PA 56 P) s.heap H locs → lv_has ls 4 [(0, .ref (P k0)), (2, .int v2), (3, .int v3)] → W p l e ({ frames := 1, cells := 0, slots := 0, locals := 21 } : Room) s m args below meth c H locs 0 0 (MQ below (va_Qi post (fun u t => VX dC dI cA P u t.heap) (PA 56 P)) args s 0 0 (PA 56 P)) (F0 m 16 ls []) := by
  have C := C
  obtain ⟨hI, hKX, ⟨hx, hb, hml, hown, hts⟩, hr, hlocks⟩ := id C
  have hK := hKX.1
  intro n
  induction n with
  | zero =>
    intro k0 v2 v3 S H locs ls h hk0 hP hS hl
    simp only [w_X1_turningRestTimes_16] at h
  | succ n ih =>
    intro k0 v2 v3 S H locs ls h hk0 hP hS hl
    rw [w_X1_turningRestTimes_16] at h
    refine lv_iload_n hx hb dX1_turningRestTimes_16 rfl (lv_at hl 2 rfl) ?_
    refine lv_aload_n hx hb dX1_turningRestTimes_17 rfl (lv_at hl 0 rfl) ?_
    refine g_get (v := .int (S.1 k0 1)) hx hb hts inG_X1 hown hK hP (kX_lt hk0) (eX1 hk0) rfl 1 (by decide) G_fl_X1_15 rfl rfl dX1_turningRestTimes_18 ?_
    refine lv_icmp_ge (tgt := 44) hx hb dX1_turningRestTimes_21 (by decide) (fun c5 => ?_) (fun c5 => ?_)
    · replace h := h.1 c5
      refine lv_iload_n hx hb dX1_turningRestTimes_44 rfl (lv_at hl 1 rfl) ?_
      exact g_iret hx hb hr hlocks h hP hS dX1_turningRestTimes_45
    · replace h := h.2 c5
      refine lv_aload_n hx hb dX1_turningRestTimes_24 rfl (lv_at hl 0 rfl) ?_
      refine lv_iload_n hx hb dX1_turningRestTimes_25 rfl (lv_at hl 1 rfl) ?_
      refine va_calli (va_runV (As := [.int _]) (rest := []) ⟨hx, hb, hml, hown, hts⟩ (c_X1_turns l hI hk0 h) (cwV 1 hts gv_X1_45 rfl rfl rfl hv_X1_turns ⟨Nat.le_of_ble_eq_true rfl, Nat.le_of_ble_eq_true rfl⟩) (preV_X hKX hP hS (kX_lt hk0) (eX1 hk0) rfl) rfl rfl hl.1 rfl (lv_room (Nat.le_of_ble_eq_true rfl)) dX1_turningRestTimes_26 ⟨Nat.le_of_ble_eq_true rfl, Nat.le_of_ble_eq_true rfl⟩) hS (fun _ _ h => h) (fun _ h => h) (fun r7 S6 t H locs ht _ h hB _ _ hS => ?_)
      have hP : VX dC dI cA P S6 H := by rw [← ht]; exact hB
      refine lv_if_ne (tgt := 44) hx hb dX1_turningRestTimes_29 (by decide) (fun c8 => ?_) (fun c8 => ?_)
      · replace h := h.2 c8
        refine lv_iload_n hx hb dX1_turningRestTimes_44 rfl (lv_at hl 1 rfl) ?_
        exact g_iret hx hb hr hlocks h hP hS dX1_turningRestTimes_45
      · replace h := h.1 c8
        refine lv_aload_n hx hb dX1_turningRestTimes_32 rfl (lv_at hl 0 rfl) ?_
        refine lv_iload_n hx hb dX1_turningRestTimes_33 rfl (lv_at hl 1 rfl) ?_
        refine va_calli (va_runV (As := [.int _]) (rest := []) ⟨hx, hb, hml, hown, hts⟩ (c_X1_restAfter l hI hk0 h) (cwV 1 hts gv_X1_49 rfl rfl rfl hv_X1_restAfter ⟨Nat.le_of_ble_eq_true rfl, Nat.le_of_ble_eq_true rfl⟩) (preV_X hKX hP hS (kX_lt hk0) (eX1 hk0) rfl) rfl rfl hl.1 rfl (lv_room (Nat.le_of_ble_eq_true rfl)) dX1_turningRestTimes_34 ⟨Nat.le_of_ble_eq_true rfl, Nat.le_of_ble_eq_true rfl⟩) hS (fun _ _ h => h) (fun _ h => h) (fun r10 S9 t H locs ht _ h hB _ _ hS => ?_)
        have hP : VX dC dI cA P S9 H := by rw [← ht]; exact hB
        refine lv_istore_n (lv' := [(2, .int r10), (0, .ref (P k0)), (3, .int v3)]) hx hb dX1_turningRestTimes_37 rfl hl (by decide) rfl (fun ls hl => ?_)
        obtain ⟨x11, ex11⟩ : ∃ y : Int32, y = v3 + 1 := ⟨_, rfl⟩
        replace h := h x11 ex11
        refine lv_iinc (v := x11) (lv' := [(3, .int x11), (2, .int r10), (0, .ref (P k0))]) hx hb dX1_turningRestTimes_38 hl (k := 2) rfl (by rw [ex11]; rfl) (by decide) rfl (fun ls hl => ?_)
        refine lv_goto (tgt := 16) hx hb dX1_turningRestTimes_41 (by decide) ?_
        exact ih _ _ _ _ _ _ _ h hk0 hP hS (lv_sub hl [2, 1, 0] rfl)
set_option maxRecDepth 100000 in
set_option maxHeartbeats 4000000 in
theorem e_X1_turningRestTimes {p : Program} {l : Launch} {e : Env} {s : State} {m : MethodId} {args : Array Value} {below : List Frame} {meth : Method} {c : Code} {dC : Nat → ClassId} {dI : Nat → Nat → Nat} {cA : Nat → ClassId} {adK adV P : Nat → Nat} (C : CtxX dC dI cA adK adV P p s m args meth c cX1_turningRestTimes 4 (some .int) RX1) {post : Int32 → St → Prop} : ∀ (k0 : Nat) (v1 : Int32) (S : St) (H : Heap) (locs : List Loc) (ls : Array Slot), w_X1_turningRestTimes k0 v1 post S → kdX k0 = 1 → VX dC dI cA P S H → va_S (PA 56 P) s.heap H locs → lv_has ls 4 [(0, .ref (P k0)), (1, .int v1)] → W p l e ({ frames := 1, cells := 0, slots := 0, locals := 21 } : Room) s m args below meth c H locs 0 0 (MQ below (va_Qi post (fun u t => VX dC dI cA P u t.heap) (PA 56 P)) args s 0 0 (PA 56 P)) (F0 m 0 ls []) := by
  have C := C
  obtain ⟨hI, hKX, ⟨hx, hb, hml, hown, hts⟩, hr, hlocks⟩ := id C
  have hK := hKX.1
  intro k0 v1 S H locs ls h hk0 hP hS hl
  rw [w_X1_turningRestTimes] at h
  refine lv_iload_n hx hb dX1_turningRestTimes_0 rfl (lv_at hl 1 rfl) ?_
  refine lv_aload_n hx hb dX1_turningRestTimes_1 rfl (lv_at hl 0 rfl) ?_
  refine g_get (v := .int (S.1 k0 0)) hx hb hts inG_X1 hown hK hP (kX_lt hk0) (eX1 hk0) rfl 0 (by decide) G_fl_X1_9 rfl rfl dX1_turningRestTimes_2 ?_
  refine lv_imul hx hb dX1_turningRestTimes_5 ?_
  refine lv_aload_n hx hb dX1_turningRestTimes_6 rfl (lv_at hl 0 rfl) ?_
  refine g_get (v := .int (S.1 k0 1)) hx hb hts inG_X1 hown hK hP (kX_lt hk0) (eX1 hk0) rfl 1 (by decide) G_fl_X1_15 rfl rfl dX1_turningRestTimes_7 ?_
  replace h := h _ rfl
  replace h := h _ rfl
  refine va_calli (va_runSN (As := [.int _, .int _]) (rest := []) ⟨hx, hb, hml, hown, hts⟩ (c_X8_remainder l hI h) ⟨va_cnB 2 hts (good_W G_cd_X8_remainder) rfl rfl rfl (kx_n2 hKX) (hts _ G_in_X8) hd_X8_remainder ⟨Nat.le_of_ble_eq_true rfl, Nat.le_of_ble_eq_true rfl⟩, hts _ G_st_X8_remainder, trivial⟩ (preS_X hKX hP hS) rfl rfl hl.1 rfl (lv_room (Nat.le_of_ble_eq_true rfl)) dX1_turningRestTimes_10 ⟨Nat.le_of_ble_eq_true rfl, Nat.le_of_ble_eq_true rfl⟩) hS (fun _ _ h => h) (fun _ h => h) (fun r4 S3 t H locs ht _ h hB _ _ hS => ?_)
  have hP : VX dC dI cA P S3 H := by rw [← ht]; exact hB
  refine lv_istore_n (lv' := [(2, .int r4), (0, .ref (P k0)), (1, .int v1)]) hx hb dX1_turningRestTimes_13 rfl hl (by decide) rfl (fun ls hl => ?_)
  refine lv_iconst (v := 0) hx hb dX1_turningRestTimes_14 (by decide) ?_
  refine lv_istore_n (lv' := [(3, .int 0), (2, .int r4), (0, .ref (P k0)), (1, .int v1)]) hx hb dX1_turningRestTimes_15 rfl hl (by decide) rfl (fun ls hl => ?_)
  obtain ⟨n12, h⟩ := h
  exact b_X1_turningRestTimes_16 C n12 _ _ _ _ _ _ _ h hk0 hP hS (lv_sub hl [2, 1, 0] rfl)
set_option maxRecDepth 100000 in
set_option maxHeartbeats 4000000 in
theorem c_X1_turningRestTimes (l : Launch) {dC : Nat → ClassId} {dI : Nat → Nat → Nat} {cA : Nat → ClassId} {adK adV P : Nat → Nat} (hI : PInj 56 P) {k0 : Nat} {v1 : Int32} (hk0 : kdX k0 = 1) {post : Int32 → St → Prop} {S : St} (h : w_X1_turningRestTimes k0 v1 post S) : Met l yX1_turningRestTimes (wW yX1_turningRestTimes cX1_turningRestTimes 4 (some .int)) ({ frames := 1, cells := 0, slots := 0, locals := 21 } : Room) (va_Pc [.ref (P k0), .int v1] (PreX dC dI cA adK adV P S)) (va_Qi post (fun u t => VX dC dI cA P u t.heap) (PA 56 P)) 0 0 (PA 56 P) := by
  refine Met.ofW (cc := cX1_turningRestTimes) (maxL := 4) (ret := (some .int)) (by decide) rfl ?_
  intro p e s m args below meth c s₁ B hml hv
  obtain ⟨rfl, hP, hKX⟩ := hv
  have hts : ∀ w ∈ G, w.before [.ref (P k0), .int v1].toArray s = true := fun w hw => atoms_spec (ws := wW yX1_turningRestTimes cX1_turningRestTimes 4 (some .int)) B.pre w (List.mem_cons_of_mem _ hw)
  have C : CtxX dC dI cA adK adV P p s m [.ref (P k0), .int v1].toArray meth c cX1_turningRestTimes 4 (some .int) RX1 := ⟨hI, hKX, ⟨B.exec, B.bytes, hml, findClass_of_methodNamed B.named, hts⟩, B.returns, B.notSynchronized⟩
  have hS : va_S (PA 56 P) s.heap s.heap [] := va_S.rf
  have hl := lv_entry ([.ref (P k0), .int v1]) (n := 4) (Nat.le_of_ble_eq_true rfl)
  rw [lg_entry_eq]
  generalize (lg_sl ([.ref (P k0), .int v1]) ++ List.replicate (4 - (lg_sl ([.ref (P k0), .int v1])).length) Slot.unset).toArray = ls at hl ⊢
  have hl : lv_has ls 4 [(0, .ref (P k0)), (1, .int v1)] := hl
  exact e_X1_turningRestTimes C _ _ _ _ _ _ h hk0 hP hS hl
set_option maxRecDepth 100000 in
set_option maxHeartbeats 4000000 in
theorem b_X1_placeInPeriod_7 {p : Program} {l : Launch} {e : Env} {s : State} {m : MethodId} {args : Array Value} {below : List Frame} {meth : Method} {c : Code} {dC : Nat → ClassId} {dI : Nat → Nat → Nat} {cA : Nat → ClassId} {adK adV P : Nat → Nat} (C : CtxX dC dI cA adK adV P p s m args meth c cX1_placeInPeriod 4 (some .int) RX1) {post : Int32 → St → Prop}  : ∀ (n : Nat) (k0 : Nat) (v1 : Int32) (v2 : Int32) (v3 : Int32) (S : St) (H : Heap) (locs : List Loc) (ls : Array Slot), w_X1_placeInPeriod_7 post n k0 v1 v2 v3 S → kdX k0 = 1 → VX dC dI cA P S H → va_S (PA 56 P) s.heap H locs → lv_has ls 4 [(0, .ref (P k0)), (1, .int v1), (2, .int v2), (3, .int v3)] → W p l e ({ frames := 1, cells := 0, slots := 0, locals := 21 } : Room) s m args below meth c H locs 0 0 (MQ below (va_Qi post (fun u t => VX dC dI cA P u t.heap) (PA 56 P)) args s 0 0 (PA 56 P)) (F0 m 7 ls []) := by
  have C := C
  obtain ⟨hI, hKX, ⟨hx, hb, hml, hown, hts⟩, hr, hlocks⟩ := id C
  have hK := hKX.1
  intro n
  induction n with
  | zero =>
    intro k0 v1 v2 v3 S H locs ls h hk0 hP hS hl
    simp only [w_X1_placeInPeriod_7] at h
  | succ n ih =>
    intro k0 v1 v2 v3 S H locs ls h hk0 hP hS hl
    rw [w_X1_placeInPeriod_7] at h
    refine lv_iload_n hx hb dX1_placeInPeriod_7 rfl (lv_at hl 3 rfl) ?_
    refine lv_aload_n hx hb dX1_placeInPeriod_8 rfl (lv_at hl 0 rfl) ?_
    refine g_get (v := .int (S.1 k0 4)) hx hb hts inG_X1 hown hK hP (kX_lt hk0) (eX1 hk0) rfl 4 (by decide) G_fl_X1_24 rfl rfl dX1_placeInPeriod_9 ?_
    refine lv_icmp_ge (tgt := 34) hx hb dX1_placeInPeriod_12 (by decide) (fun c2 => ?_) (fun c2 => ?_)
    · replace h := h.1 c2
      refine lv_bipush (v := (-2)) hx hb dX1_placeInPeriod_34 (by decide) ?_
      exact g_iret hx hb hr hlocks h hP hS dX1_placeInPeriod_36
    · replace h := h.2 c2
      refine lv_iload_n hx hb dX1_placeInPeriod_15 rfl (lv_at hl 2 rfl) ?_
      refine lv_iload_n hx hb dX1_placeInPeriod_16 rfl (lv_at hl 1 rfl) ?_
      refine lv_icmp_ne (tgt := 22) hx hb dX1_placeInPeriod_17 (by decide) (fun c3 => ?_) (fun c3 => ?_)
      · replace h := h.2 c3
        refine lv_aload_n hx hb dX1_placeInPeriod_22 rfl (lv_at hl 0 rfl) ?_
        refine lv_iload_n hx hb dX1_placeInPeriod_23 rfl (lv_at hl 2 rfl) ?_
        refine va_calli (va_runV (As := [.int _]) (rest := []) ⟨hx, hb, hml, hown, hts⟩ (c_X1_restAfter l hI hk0 h) (cwV 1 hts gv_X1_49 rfl rfl rfl hv_X1_restAfter ⟨Nat.le_of_ble_eq_true rfl, Nat.le_of_ble_eq_true rfl⟩) (preV_X hKX hP hS (kX_lt hk0) (eX1 hk0) rfl) rfl rfl hl.1 rfl (lv_room (Nat.le_of_ble_eq_true rfl)) dX1_placeInPeriod_24 ⟨Nat.le_of_ble_eq_true rfl, Nat.le_of_ble_eq_true rfl⟩) hS (fun _ _ h => h) (fun _ h => h) (fun r5 S4 t H locs ht _ h hB _ _ hS => ?_)
        have hP : VX dC dI cA P S4 H := by rw [← ht]; exact hB
        refine lv_istore_n (lv' := [(2, .int r5), (0, .ref (P k0)), (1, .int v1), (3, .int v3)]) hx hb dX1_placeInPeriod_27 rfl hl (by decide) rfl (fun ls hl => ?_)
        obtain ⟨x6, ex6⟩ : ∃ y : Int32, y = v3 + 1 := ⟨_, rfl⟩
        replace h := h x6 ex6
        refine lv_iinc (v := x6) (lv' := [(3, .int x6), (2, .int r5), (0, .ref (P k0)), (1, .int v1)]) hx hb dX1_placeInPeriod_28 hl (k := 3) rfl (by rw [ex6]; rfl) (by decide) rfl (fun ls hl => ?_)
        refine lv_goto (tgt := 7) hx hb dX1_placeInPeriod_31 (by decide) ?_
        exact ih _ _ _ _ _ _ _ _ h hk0 hP hS (lv_sub hl [2, 3, 1, 0] rfl)
      · replace h := h.1 c3
        refine lv_iload_n hx hb dX1_placeInPeriod_20 rfl (lv_at hl 3 rfl) ?_
        exact g_iret hx hb hr hlocks h hP hS dX1_placeInPeriod_21
set_option maxRecDepth 100000 in
set_option maxHeartbeats 4000000 in
theorem e_X1_placeInPeriod {p : Program} {l : Launch} {e : Env} {s : State} {m : MethodId} {args : Array Value} {below : List Frame} {meth : Method} {c : Code} {dC : Nat → ClassId} {dI : Nat → Nat → Nat} {cA : Nat → ClassId} {adK adV P : Nat → Nat} (C : CtxX dC dI cA adK adV P p s m args meth c cX1_placeInPeriod 4 (some .int) RX1) {post : Int32 → St → Prop} : ∀ (k0 : Nat) (v1 : Int32) (S : St) (H : Heap) (locs : List Loc) (ls : Array Slot), w_X1_placeInPeriod k0 v1 post S → kdX k0 = 1 → VX dC dI cA P S H → va_S (PA 56 P) s.heap H locs → lv_has ls 4 [(0, .ref (P k0)), (1, .int v1)] → W p l e ({ frames := 1, cells := 0, slots := 0, locals := 21 } : Room) s m args below meth c H locs 0 0 (MQ below (va_Qi post (fun u t => VX dC dI cA P u t.heap) (PA 56 P)) args s 0 0 (PA 56 P)) (F0 m 0 ls []) := by
  have C := C
  obtain ⟨hI, hKX, ⟨hx, hb, hml, hown, hts⟩, hr, hlocks⟩ := id C
  have hK := hKX.1
  intro k0 v1 S H locs ls h hk0 hP hS hl
  rw [w_X1_placeInPeriod] at h
  refine lv_aload_n hx hb dX1_placeInPeriod_0 rfl (lv_at hl 0 rfl) ?_
  refine g_get (v := .int (S.1 k0 5)) hx hb hts inG_X1 hown hK hP (kX_lt hk0) (eX1 hk0) rfl 5 (by decide) G_fl_X1_27 rfl rfl dX1_placeInPeriod_1 ?_
  refine lv_topi (fun x1 ex1 => ?_)
  replace h := h x1 ex1
  refine lv_istore_n (lv' := [(2, .int x1), (0, .ref (P k0)), (1, .int v1)]) hx hb dX1_placeInPeriod_4 rfl hl (by decide) rfl (fun ls hl => ?_)
  refine lv_iconst (v := 0) hx hb dX1_placeInPeriod_5 (by decide) ?_
  refine lv_istore_n (lv' := [(3, .int 0), (2, .int x1), (0, .ref (P k0)), (1, .int v1)]) hx hb dX1_placeInPeriod_6 rfl hl (by decide) rfl (fun ls hl => ?_)
  obtain ⟨n7, h⟩ := h
  exact b_X1_placeInPeriod_7 C n7 _ _ _ _ _ _ _ _ h hk0 hP hS (lv_sub hl [2, 3, 1, 0] rfl)
set_option maxRecDepth 100000 in
set_option maxHeartbeats 4000000 in
theorem c_X1_placeInPeriod (l : Launch) {dC : Nat → ClassId} {dI : Nat → Nat → Nat} {cA : Nat → ClassId} {adK adV P : Nat → Nat} (hI : PInj 56 P) {k0 : Nat} {v1 : Int32} (hk0 : kdX k0 = 1) {post : Int32 → St → Prop} {S : St} (h : w_X1_placeInPeriod k0 v1 post S) : Met l yX1_placeInPeriod (wW yX1_placeInPeriod cX1_placeInPeriod 4 (some .int)) ({ frames := 1, cells := 0, slots := 0, locals := 21 } : Room) (va_Pc [.ref (P k0), .int v1] (PreX dC dI cA adK adV P S)) (va_Qi post (fun u t => VX dC dI cA P u t.heap) (PA 56 P)) 0 0 (PA 56 P) := by
  refine Met.ofW (cc := cX1_placeInPeriod) (maxL := 4) (ret := (some .int)) (by decide) rfl ?_
  intro p e s m args below meth c s₁ B hml hv
  obtain ⟨rfl, hP, hKX⟩ := hv
  have hts : ∀ w ∈ G, w.before [.ref (P k0), .int v1].toArray s = true := fun w hw => atoms_spec (ws := wW yX1_placeInPeriod cX1_placeInPeriod 4 (some .int)) B.pre w (List.mem_cons_of_mem _ hw)
  have C : CtxX dC dI cA adK adV P p s m [.ref (P k0), .int v1].toArray meth c cX1_placeInPeriod 4 (some .int) RX1 := ⟨hI, hKX, ⟨B.exec, B.bytes, hml, findClass_of_methodNamed B.named, hts⟩, B.returns, B.notSynchronized⟩
  have hS : va_S (PA 56 P) s.heap s.heap [] := va_S.rf
  have hl := lv_entry ([.ref (P k0), .int v1]) (n := 4) (Nat.le_of_ble_eq_true rfl)
  rw [lg_entry_eq]
  generalize (lg_sl ([.ref (P k0), .int v1]) ++ List.replicate (4 - (lg_sl ([.ref (P k0), .int v1])).length) Slot.unset).toArray = ls at hl ⊢
  have hl : lv_has ls 4 [(0, .ref (P k0)), (1, .int v1)] := hl
  exact e_X1_placeInPeriod C _ _ _ _ _ _ h hk0 hP hS hl
set_option maxRecDepth 100000 in
set_option maxHeartbeats 4000000 in
theorem b_X1_wholeDigits_16 {p : Program} {l : Launch} {e : Env} {s : State} {m : MethodId} {args : Array Value} {below : List Frame} {meth : Method} {c : Code} {dC : Nat → ClassId} {dI : Nat → Nat → Nat} {cA : Nat → ClassId} {adK adV P : Nat → Nat} (C : CtxX dC dI cA adK adV P p s m args meth c cX1_wholeDigits 4 (some .int) RX1) {post : Int32 → St → Prop}  : ∀ (n : Nat) (k0 : Nat) (v1 : Int64) (v3 : Int32) (S : St) (H : Heap) (locs : List Loc) (ls : Array Slot), w_X1_wholeDigits_16 post n k0 v1 v3 S → kdX k0 = 1 → VX dC dI cA P S H → va_S (PA 56 P) s.heap H locs → lv_has ls 4 [(0, .ref (P k0)), (1, .long v1), (3, .int v3)] → W p l e ({ frames := 2, cells := 0, slots := 0, locals := 43 } : Room) s m args below meth c H locs 0 0 (MQ below (va_Qi post (fun u t => VX dC dI cA P u t.heap) (PA 56 P)) args s 0 0 (PA 56 P)) (F0 m 16 ls []) := by
  have C := C
  obtain ⟨hI, hKX, ⟨hx, hb, hml, hown, hts⟩, hr, hlocks⟩ := id C
  have hK := hKX.1
  intro n
  induction n with
  | zero =>
    intro k0 v1 v3 S H locs ls h hk0 hP hS hl
    simp only [w_X1_wholeDigits_16] at h
  | succ n ih =>
    intro k0 v1 v3 S H locs ls h hk0 hP hS hl
    rw [w_X1_wholeDigits_16] at h
    refine lv_lload_n hx hb dX1_wholeDigits_16 rfl (lv_at hl 1 rfl) ?_
    refine lv_lconst (v := 0) hx hb dX1_wholeDigits_17 (by decide) ?_
    refine W.lcmp hx hb dX1_wholeDigits_18 ?_
    refine lv_if_le (tgt := 45) hx hb dX1_wholeDigits_19 (by decide) (fun c7 => ?_) (fun c7 => ?_)
    · replace h := h.1 ((lg_cmp_le _ _).mp c7)
      refine lv_iload_n hx hb dX1_wholeDigits_45 rfl (lv_at hl 2 rfl) ?_
      exact g_iret hx hb hr hlocks h hP hS dX1_wholeDigits_46
    · replace h := h.2 (fun z => c7 ((lg_cmp_le _ _).mpr z))
      refine lv_iload_n hx hb dX1_wholeDigits_22 rfl (lv_at hl 2 rfl) ?_
      refine lv_sipush (v := 1000) hx hb dX1_wholeDigits_23 (by decide) ?_
      refine lv_icmp_ge (tgt := 45) hx hb dX1_wholeDigits_26 (by decide) (fun c8 => ?_) (fun c8 => ?_)
      · replace h := h.1 c8
        refine lv_iload_n hx hb dX1_wholeDigits_45 rfl (lv_at hl 2 rfl) ?_
        exact g_iret hx hb hr hlocks h hP hS dX1_wholeDigits_46
      · replace h := h.2 c8
        refine lv_lload_n hx hb dX1_wholeDigits_29 rfl (lv_at hl 1 rfl) ?_
        refine lv_aload_n hx hb dX1_wholeDigits_30 rfl (lv_at hl 0 rfl) ?_
        refine g_get (v := .int (S.1 k0 2)) hx hb hts inG_X1 hown hK hP (kX_lt hk0) (eX1 hk0) rfl 2 (by decide) G_fl_X1_18 rfl rfl dX1_wholeDigits_31 ?_
        refine lv_i2l hx hb dX1_wholeDigits_34 rfl ?_
        replace h := h _ rfl
        refine va_calll (va_runSN (As := [.long _, .long _]) (rest := []) ⟨hx, hb, hml, hown, hts⟩ (c_X8_quotient l hI h) ⟨va_cnB 2 hts (good_W G_cd_X8_quotient) rfl rfl rfl (kx_n3 hKX) (hts _ G_in_X8) hd_X8_quotient ⟨Nat.le_of_ble_eq_true rfl, Nat.le_of_ble_eq_true rfl⟩, hts _ G_st_X8_quotient, trivial⟩ (preS_X hKX hP hS) rfl rfl hl.1 rfl (lv_room (Nat.le_of_ble_eq_true rfl)) dX1_wholeDigits_35 ⟨Nat.le_of_ble_eq_true rfl, Nat.le_of_ble_eq_true rfl⟩) hS (fun _ _ h => h) (fun _ h => h) (fun r11 S10 t H locs ht _ h hB _ _ hS => ?_)
        have hP : VX dC dI cA P S10 H := by rw [← ht]; exact hB
        refine lv_lstore_n (lv' := [(1, .long r11), (0, .ref (P k0)), (3, .int v3)]) hx hb dX1_wholeDigits_38 rfl hl (by decide) rfl (fun ls hl => ?_)
        obtain ⟨x12, ex12⟩ : ∃ y : Int32, y = v3 + 1 := ⟨_, rfl⟩
        replace h := h x12 ex12
        refine lv_iinc (v := x12) (lv' := [(3, .int x12), (1, .long r11), (0, .ref (P k0))]) hx hb dX1_wholeDigits_39 hl (k := 2) rfl (by rw [ex12]; rfl) (by decide) rfl (fun ls hl => ?_)
        refine lv_goto (tgt := 16) hx hb dX1_wholeDigits_42 (by decide) ?_
        exact ih _ _ _ _ _ _ _ h hk0 hP hS (lv_sub hl [2, 1, 0] rfl)
set_option maxRecDepth 100000 in
set_option maxHeartbeats 4000000 in
theorem e_X1_wholeDigits {p : Program} {l : Launch} {e : Env} {s : State} {m : MethodId} {args : Array Value} {below : List Frame} {meth : Method} {c : Code} {dC : Nat → ClassId} {dI : Nat → Nat → Nat} {cA : Nat → ClassId} {adK adV P : Nat → Nat} (C : CtxX dC dI cA adK adV P p s m args meth c cX1_wholeDigits 4 (some .int) RX1) {post : Int32 → St → Prop} : ∀ (k0 : Nat) (S : St) (H : Heap) (locs : List Loc) (ls : Array Slot), w_X1_wholeDigits k0 post S → kdX k0 = 1 → VX dC dI cA P S H → va_S (PA 56 P) s.heap H locs → lv_has ls 4 [(0, .ref (P k0))] → W p l e ({ frames := 2, cells := 0, slots := 0, locals := 43 } : Room) s m args below meth c H locs 0 0 (MQ below (va_Qi post (fun u t => VX dC dI cA P u t.heap) (PA 56 P)) args s 0 0 (PA 56 P)) (F0 m 0 ls []) := by
  have C := C
  obtain ⟨hI, hKX, ⟨hx, hb, hml, hown, hts⟩, hr, hlocks⟩ := id C
  have hK := hKX.1
  intro k0 S H locs ls h hk0 hP hS hl
  rw [w_X1_wholeDigits] at h
  refine lv_aload_n hx hb dX1_wholeDigits_0 rfl (lv_at hl 0 rfl) ?_
  refine va_calli (va_runV (As := []) (rest := []) ⟨hx, hb, hml, hown, hts⟩ (c_X1_whole l hI hk0 h) (cwV 0 hts gv_X1_83 rfl rfl rfl hv_X1_whole ⟨Nat.le_of_ble_eq_true rfl, Nat.le_of_ble_eq_true rfl⟩) (preV_X hKX hP hS (kX_lt hk0) (eX1 hk0) rfl) rfl rfl hl.1 rfl (lv_room (Nat.le_of_ble_eq_true rfl)) dX1_wholeDigits_1 ⟨Nat.le_of_ble_eq_true rfl, Nat.le_of_ble_eq_true rfl⟩) hS (fun _ _ h => h) (fun _ h => h) (fun r2 S1 t H locs ht _ h hB _ _ hS => ?_)
  have hP : VX dC dI cA P S1 H := by rw [← ht]; exact hB
  refine lv_i2l hx hb dX1_wholeDigits_4 rfl ?_
  refine lv_aload_n hx hb dX1_wholeDigits_5 rfl (lv_at hl 0 rfl) ?_
  refine g_get (v := .int (S1.1 k0 2)) hx hb hts inG_X1 hown hK hP (kX_lt hk0) (eX1 hk0) rfl 2 (by decide) G_fl_X1_18 rfl rfl dX1_wholeDigits_6 ?_
  refine lv_i2l hx hb dX1_wholeDigits_9 rfl ?_
  replace h := h _ rfl
  replace h := h _ rfl
  refine va_calll (va_runSN (As := [.long _, .long _]) (rest := []) ⟨hx, hb, hml, hown, hts⟩ (c_X8_quotient l hI h) ⟨va_cnB 2 hts (good_W G_cd_X8_quotient) rfl rfl rfl (kx_n3 hKX) (hts _ G_in_X8) hd_X8_quotient ⟨Nat.le_of_ble_eq_true rfl, Nat.le_of_ble_eq_true rfl⟩, hts _ G_st_X8_quotient, trivial⟩ (preS_X hKX hP hS) rfl rfl hl.1 rfl (lv_room (Nat.le_of_ble_eq_true rfl)) dX1_wholeDigits_10 ⟨Nat.le_of_ble_eq_true rfl, Nat.le_of_ble_eq_true rfl⟩) hS (fun _ _ h => h) (fun _ h => h) (fun r6 S5 t H locs ht _ h hB _ _ hS => ?_)
  have hP : VX dC dI cA P S5 H := by rw [← ht]; exact hB
  refine lv_lstore_n (lv' := [(1, .long r6), (0, .ref (P k0))]) hx hb dX1_wholeDigits_13 rfl hl (by decide) rfl (fun ls hl => ?_)
  refine lv_iconst (v := 1) hx hb dX1_wholeDigits_14 (by decide) ?_
  refine lv_istore_n (lv' := [(3, .int 1), (1, .long r6), (0, .ref (P k0))]) hx hb dX1_wholeDigits_15 rfl hl (by decide) rfl (fun ls hl => ?_)
  obtain ⟨n13, h⟩ := h
  exact b_X1_wholeDigits_16 C n13 _ _ _ _ _ _ _ h hk0 hP hS (lv_sub hl [2, 1, 0] rfl)
set_option maxRecDepth 100000 in
set_option maxHeartbeats 4000000 in
theorem c_X1_wholeDigits (l : Launch) {dC : Nat → ClassId} {dI : Nat → Nat → Nat} {cA : Nat → ClassId} {adK adV P : Nat → Nat} (hI : PInj 56 P) {k0 : Nat} (hk0 : kdX k0 = 1) {post : Int32 → St → Prop} {S : St} (h : w_X1_wholeDigits k0 post S) : Met l yX1_wholeDigits (wW yX1_wholeDigits cX1_wholeDigits 4 (some .int)) ({ frames := 2, cells := 0, slots := 0, locals := 43 } : Room) (va_Pc [.ref (P k0)] (PreX dC dI cA adK adV P S)) (va_Qi post (fun u t => VX dC dI cA P u t.heap) (PA 56 P)) 0 0 (PA 56 P) := by
  refine Met.ofW (cc := cX1_wholeDigits) (maxL := 4) (ret := (some .int)) (by decide) rfl ?_
  intro p e s m args below meth c s₁ B hml hv
  obtain ⟨rfl, hP, hKX⟩ := hv
  have hts : ∀ w ∈ G, w.before [.ref (P k0)].toArray s = true := fun w hw => atoms_spec (ws := wW yX1_wholeDigits cX1_wholeDigits 4 (some .int)) B.pre w (List.mem_cons_of_mem _ hw)
  have C : CtxX dC dI cA adK adV P p s m [.ref (P k0)].toArray meth c cX1_wholeDigits 4 (some .int) RX1 := ⟨hI, hKX, ⟨B.exec, B.bytes, hml, findClass_of_methodNamed B.named, hts⟩, B.returns, B.notSynchronized⟩
  have hS : va_S (PA 56 P) s.heap s.heap [] := va_S.rf
  have hl := lv_entry ([.ref (P k0)]) (n := 4) (Nat.le_of_ble_eq_true rfl)
  rw [lg_entry_eq]
  generalize (lg_sl ([.ref (P k0)]) ++ List.replicate (4 - (lg_sl ([.ref (P k0)])).length) Slot.unset).toArray = ls at hl ⊢
  have hl : lv_has ls 4 [(0, .ref (P k0))] := hl
  exact e_X1_wholeDigits C _ _ _ _ _ h hk0 hP hS hl
