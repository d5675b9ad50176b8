set_option maxRecDepth 100000 in
set_option maxHeartbeats 4000000 in
theorem b_X1_spelledLength_28 {p : Program} {l : Launch} {e : Env} {s : State} {m : MethodId} {args : Array Value} {below : List Frame} {meth : Method} {c : Code} {dC : Nat → ClassId} {dI : Nat → Nat → Nat} {cA : Nat → ClassId} {adK adV P : Nat → Nat} (C : CtxX dC dI cA adK adV P p s m args meth c cX1_spelledLength 2 (some .int) RX1) {post : Int32 → St → Prop}  : ∀ (k0 : Nat) (v1 : Int32) (S : St) (H : Heap) (locs : List Loc) (ls : Array Slot), w_X1_spelledLength_28 post k0 v1 S → kdX k0 = 1 → VX dC dI cA P S H → va_S (PA 56 P) s.heap H locs → lv_has ls 2 [(0, .ref (P k0)), (1, .int v1)] → W p l e ({ frames := 3, cells := 0, slots := 0, locals := 66 } : Room) s m args below meth c H locs 0 0 (MQ below (va_Qi post (fun u t => VX dC dI cA P u t.heap) (PA 56 P)) args s 0 0 (PA 56 P)) (F0 m 28 ls []) := by
  have C := C
  obtain ⟨hI, hKX, ⟨hx, hb, hml, hown, hts⟩, hr, hlocks⟩ := id C
  have hK := hKX.1
  intro k0 v1 S H locs ls h hk0 hP hS hl
  rw [w_X1_spelledLength_28] at h
  refine lv_aload_n hx hb dX1_spelledLength_28 rfl (lv_at hl 0 rfl) ?_
  refine va_calli (va_runV (As := []) (rest := []) ⟨hx, hb, hml, hown, hts⟩ (c_X1_ends l hI hk0 h) (cwV 0 hts gv_X1_56 rfl rfl rfl hv_X1_ends ⟨Nat.le_of_ble_eq_true rfl, Nat.le_of_ble_eq_true rfl⟩) (preV_X hKX hP hS (kX_lt hk0) (eX1 hk0) rfl) rfl rfl hl.1 rfl (lv_room (Nat.le_of_ble_eq_true rfl)) dX1_spelledLength_29 ⟨Nat.le_of_ble_eq_true rfl, Nat.le_of_ble_eq_true rfl⟩) hS (fun _ _ h => h) (fun _ h => h) (fun r9 S8 t H locs ht _ h hB _ _ hS => ?_)
  have hP : VX dC dI cA P S8 H := by rw [← ht]; exact hB
  refine lv_if_ne (tgt := 44) hx hb dX1_spelledLength_32 (by decide) (fun c10 => ?_) (fun c10 => ?_)
  · replace h := h.2 c10
    refine lv_iload_n hx hb dX1_spelledLength_44 rfl (lv_at hl 1 rfl) ?_
    exact g_iret hx hb hr hlocks h hP hS dX1_spelledLength_45
  · replace h := h.1 c10
    refine lv_iload_n hx hb dX1_spelledLength_35 rfl (lv_at hl 1 rfl) ?_
    refine lv_iconst (v := 2) hx hb dX1_spelledLength_36 (by decide) ?_
    refine lv_aload_n hx hb dX1_spelledLength_37 rfl (lv_at hl 0 rfl) ?_
    refine g_get (v := .int (S8.1 k0 4)) hx hb hts inG_X1 hown hK hP (kX_lt hk0) (eX1 hk0) rfl 4 (by decide) G_fl_X1_24 rfl rfl dX1_spelledLength_38 ?_
    refine lv_iadd hx hb dX1_spelledLength_41 ?_
    refine lv_iadd hx hb dX1_spelledLength_42 ?_
    refine lv_topi (fun x11 ex11 => ?_)
    replace h := h x11 ex11
    refine lv_istore_n (lv' := [(1, .int x11), (0, .ref (P k0))]) hx hb dX1_spelledLength_43 rfl hl (by decide) rfl (fun ls hl => ?_)
    refine lv_iload_n hx hb dX1_spelledLength_44 rfl (lv_at hl 0 rfl) ?_
    exact g_iret hx hb hr hlocks h hP hS dX1_spelledLength_45
set_option maxRecDepth 100000 in
set_option maxHeartbeats 4000000 in
theorem e_X1_spelledLength {p : Program} {l : Launch} {e : Env} {s : State} {m : MethodId} {args : Array Value} {below : List Frame} {meth : Method} {c : Code} {dC : Nat → ClassId} {dI : Nat → Nat → Nat} {cA : Nat → ClassId} {adK adV P : Nat → Nat} (C : CtxX dC dI cA adK adV P p s m args meth c cX1_spelledLength 2 (some .int) RX1) {post : Int32 → St → Prop} : ∀ (k0 : Nat) (S : St) (H : Heap) (locs : List Loc) (ls : Array Slot), w_X1_spelledLength k0 post S → kdX k0 = 1 → VX dC dI cA P S H → va_S (PA 56 P) s.heap H locs → lv_has ls 2 [(0, .ref (P k0))] → W p l e ({ frames := 3, cells := 0, slots := 0, locals := 66 } : Room) s m args below meth c H locs 0 0 (MQ below (va_Qi post (fun u t => VX dC dI cA P u t.heap) (PA 56 P)) args s 0 0 (PA 56 P)) (F0 m 0 ls []) := by
  have C := C
  obtain ⟨hI, hKX, ⟨hx, hb, hml, hown, hts⟩, hr, hlocks⟩ := id C
  have hK := hKX.1
  intro k0 S H locs ls h hk0 hP hS hl
  rw [w_X1_spelledLength] at h
  refine lv_aload_n hx hb dX1_spelledLength_0 rfl (lv_at hl 0 rfl) ?_
  refine va_calli (va_runV (As := []) (rest := []) ⟨hx, hb, hml, hown, hts⟩ (c_X1_wholeDigits l hI hk0 h) (cwV 0 hts gv_X1_70 rfl rfl rfl hv_X1_wholeDigits ⟨Nat.le_of_ble_eq_true rfl, Nat.le_of_ble_eq_true rfl⟩) (preV_X hKX hP hS (kX_lt hk0) (eX1 hk0) rfl) rfl rfl hl.1 rfl (lv_room (Nat.le_of_ble_eq_true rfl)) dX1_spelledLength_1 ⟨Nat.le_of_ble_eq_true rfl, Nat.le_of_ble_eq_true rfl⟩) hS (fun _ _ h => h) (fun _ h => h) (fun r2 S1 t H locs ht _ h hB _ _ hS => ?_)
  have hP : VX dC dI cA P S1 H := by rw [← ht]; exact hB
  refine lv_istore_n (lv' := [(1, .int r2), (0, .ref (P k0))]) hx hb dX1_spelledLength_4 rfl hl (by decide) rfl (fun ls hl => ?_)
  refine lv_aload_n hx hb dX1_spelledLength_5 rfl (lv_at hl 1 rfl) ?_
  refine g_get (v := .int (S1.1 k0 0)) hx hb hts inG_X1 hown hK hP (kX_lt hk0) (eX1 hk0) rfl 0 (by decide) G_fl_X1_9 rfl rfl dX1_spelledLength_6 ?_
  refine lv_aload_n hx hb dX1_spelledLength_9 rfl (lv_at hl 1 rfl) ?_
  refine g_get (v := .int (S1.1 k0 1)) hx hb hts inG_X1 hown hK hP (kX_lt hk0) (eX1 hk0) rfl 1 (by decide) G_fl_X1_15 rfl rfl dX1_spelledLength_10 ?_
  replace h := h _ rfl
  replace h := h _ rfl
  refine va_calli (va_runSN (As := [.int _, .int _]) (rest := []) ⟨hx, hb, hml, hown, hts⟩ (c_X8_remainder l hI h) ⟨va_cnB 2 hts (good_W G_cd_X8_remainder) rfl rfl rfl (kx_n2 hKX) (hts _ G_in_X8) hd_X8_remainder ⟨Nat.le_of_ble_eq_true rfl, Nat.le_of_ble_eq_true rfl⟩, hts _ G_st_X8_remainder, trivial⟩ (preS_X hKX hP hS) rfl rfl hl.1 rfl (lv_room (Nat.le_of_ble_eq_true rfl)) dX1_spelledLength_13 ⟨Nat.le_of_ble_eq_true rfl, Nat.le_of_ble_eq_true rfl⟩) hS (fun _ _ h => h) (fun _ h => h) (fun r6 S5 t H locs ht _ h hB _ _ hS => ?_)
  have hP : VX dC dI cA P S5 H := by rw [← ht]; exact hB
  refine lv_if_eq (tgt := 28) hx hb dX1_spelledLength_16 (by decide) (fun c7 => ?_) (fun c7 => ?_)
  · replace h := h.1 c7
    exact b_X1_spelledLength_28 C _ _ _ _ _ _ h hk0 hP hS (lv_sub hl [1, 0] rfl)
  · replace h := h.2 c7
    refine lv_iload_n hx hb dX1_spelledLength_19 rfl (lv_at hl 0 rfl) ?_
    refine lv_iconst (v := 1) hx hb dX1_spelledLength_20 (by decide) ?_
    refine lv_aload_n hx hb dX1_spelledLength_21 rfl (lv_at hl 1 rfl) ?_
    refine g_get (v := .int (S5.1 k0 3)) hx hb hts inG_X1 hown hK hP (kX_lt hk0) (eX1 hk0) rfl 3 (by decide) G_fl_X1_21 rfl rfl dX1_spelledLength_22 ?_
    refine lv_iadd hx hb dX1_spelledLength_25 ?_
    refine lv_iadd hx hb dX1_spelledLength_26 ?_
    refine lv_topi (fun x12 ex12 => ?_)
    replace h := h x12 ex12
    refine lv_istore_n (lv' := [(1, .int x12), (0, .ref (P k0))]) hx hb dX1_spelledLength_27 rfl hl (by decide) rfl (fun ls hl => ?_)
    exact b_X1_spelledLength_28 C _ _ _ _ _ _ h hk0 hP hS (lv_sub hl [1, 0] rfl)
set_option maxRecDepth 100000 in
set_option maxHeartbeats 4000000 in
theorem c_X1_spelledLength (l : Launch) {dC : Nat → ClassId} {dI : Nat → Nat → Nat} {cA : Nat → ClassId} {adK adV P : Nat → Nat} (hI : PInj 56 P) {k0 : Nat} (hk0 : kdX k0 = 1) {post : Int32 → St → Prop} {S : St} (h : w_X1_spelledLength k0 post S) : Met l yX1_spelledLength (wW yX1_spelledLength cX1_spelledLength 2 (some .int)) ({ frames := 3, cells := 0, slots := 0, locals := 66 } : Room) (va_Pc [.ref (P k0)] (PreX dC dI cA adK adV P S)) (va_Qi post (fun u t => VX dC dI cA P u t.heap) (PA 56 P)) 0 0 (PA 56 P) := by
  refine Met.ofW (cc := cX1_spelledLength) (maxL := 2) (ret := (some .int)) (by decide) rfl ?_
  intro p e s m args below meth c s₁ B hml hv
  obtain ⟨rfl, hP, hKX⟩ := hv
  have hts : ∀ w ∈ G, w.before [.ref (P k0)].toArray s = true := fun w hw => atoms_spec (ws := wW yX1_spelledLength cX1_spelledLength 2 (some .int)) B.pre w (List.mem_cons_of_mem _ hw)
  have C : CtxX dC dI cA adK adV P p s m [.ref (P k0)].toArray meth c cX1_spelledLength 2 (some .int) RX1 := ⟨hI, hKX, ⟨B.exec, B.bytes, hml, findClass_of_methodNamed B.named, hts⟩, B.returns, B.notSynchronized⟩
  have hS : va_S (PA 56 P) s.heap s.heap [] := va_S.rf
  have hl := lv_entry ([.ref (P k0)]) (n := 2) (Nat.le_of_ble_eq_true rfl)
  rw [lg_entry_eq]
  generalize (lg_sl ([.ref (P k0)]) ++ List.replicate (2 - (lg_sl ([.ref (P k0)])).length) Slot.unset).toArray = ls at hl ⊢
  have hl : lv_has ls 2 [(0, .ref (P k0))] := hl
  exact e_X1_spelledLength C _ _ _ _ _ h hk0 hP hS hl
set_option maxRecDepth 100000 in
set_option maxHeartbeats 4000000 in
theorem b_X1_wholeDigit_9 {p : Program} {l : Launch} {e : Env} {s : State} {m : MethodId} {args : Array Value} {below : List Frame} {meth : Method} {c : Code} {dC : Nat → ClassId} {dI : Nat → Nat → Nat} {cA : Nat → ClassId} {adK adV P : Nat → Nat} (C : CtxX dC dI cA adK adV P p s m args meth c cX1_wholeDigit 5 (some .int) RX1) {post : Int32 → St → Prop}  : ∀ (n : Nat) (k0 : Nat) (v1 : Int32) (v2 : Int64) (v4 : Int32) (S : St) (H : Heap) (locs : List Loc) (ls : Array Slot), w_X1_wholeDigit_9 post n k0 v1 v2 v4 S → kdX k0 = 1 → VX dC dI cA P S H → va_S (PA 56 P) s.heap H locs → lv_has ls 5 [(0, .ref (P k0)), (1, .int v1), (2, .long v2), (4, .int v4)] → W p l e ({ frames := 2, cells := 0, slots := 0, locals := 43 } : Room) s m args below meth c H locs 0 0 (MQ below (va_Qi post (fun u t => VX dC dI cA P u t.heap) (PA 56 P)) args s 0 0 (PA 56 P)) (F0 m 9 ls []) := by
  have C := C
  obtain ⟨hI, hKX, ⟨hx, hb, hml, hown, hts⟩, hr, hlocks⟩ := id C
  have hK := hKX.1
  intro n
  induction n with
  | zero =>
    intro k0 v1 v2 v4 S H locs ls h hk0 hP hS hl
    simp only [w_X1_wholeDigit_9] at h
  | succ n ih =>
    intro k0 v1 v2 v4 S H locs ls h hk0 hP hS hl
    rw [w_X1_wholeDigit_9] at h
    refine lv_iload hx hb dX1_wholeDigit_9 (lv_at hl 3 rfl) ?_
    refine lv_iload_n hx hb dX1_wholeDigit_11 rfl (lv_at hl 1 rfl) ?_
    refine lv_icmp_ge (tgt := 31) hx hb dX1_wholeDigit_12 (by decide) (fun c4 => ?_) (fun c4 => ?_)
    · replace h := h.1 c4
      refine lv_lload_n hx hb dX1_wholeDigit_31 rfl (lv_at hl 2 rfl) ?_
      refine lv_l2i hx hb dX1_wholeDigit_32 rfl ?_
      refine lv_aload_n hx hb dX1_wholeDigit_33 rfl (lv_at hl 0 rfl) ?_
      refine g_get (v := .int (S.1 k0 2)) hx hb hts inG_X1 hown hK hP (kX_lt hk0) (eX1 hk0) rfl 2 (by decide) G_fl_X1_18 rfl rfl dX1_wholeDigit_34 ?_
      replace h := h _ rfl
      replace h := h _ rfl
      refine va_calli (va_runSN (As := [.int _, .int _]) (rest := []) ⟨hx, hb, hml, hown, hts⟩ (c_X8_remainder l hI h) ⟨va_cnB 2 hts (good_W G_cd_X8_remainder) rfl rfl rfl (kx_n2 hKX) (hts _ G_in_X8) hd_X8_remainder ⟨Nat.le_of_ble_eq_true rfl, Nat.le_of_ble_eq_true rfl⟩, hts _ G_st_X8_remainder, trivial⟩ (preS_X hKX hP hS) rfl rfl hl.1 rfl (lv_room (Nat.le_of_ble_eq_true rfl)) dX1_wholeDigit_37 ⟨Nat.le_of_ble_eq_true rfl, Nat.le_of_ble_eq_true rfl⟩) hS (fun _ _ h => h) (fun _ h => h) (fun r8 S7 t H locs ht _ h hB _ _ hS => ?_)
      have hP : VX dC dI cA P S7 H := by rw [← ht]; exact hB
      exact g_iret hx hb hr hlocks h hP hS dX1_wholeDigit_40
    · replace h := h.2 c4
      refine lv_lload_n hx hb dX1_wholeDigit_15 rfl (lv_at hl 2 rfl) ?_
      refine lv_aload_n hx hb dX1_wholeDigit_16 rfl (lv_at hl 0 rfl) ?_
      refine g_get (v := .int (S.1 k0 2)) hx hb hts inG_X1 hown hK hP (kX_lt hk0) (eX1 hk0) rfl 2 (by decide) G_fl_X1_18 rfl rfl dX1_wholeDigit_17 ?_
      refine lv_i2l hx hb dX1_wholeDigit_20 rfl ?_
      replace h := h _ rfl
      refine va_calll (va_runSN (As := [.long _, .long _]) (rest := []) ⟨hx, hb, hml, hown, hts⟩ (c_X8_quotient l hI h) ⟨va_cnB 2 hts (good_W G_cd_X8_quotient) rfl rfl rfl (kx_n3 hKX) (hts _ G_in_X8) hd_X8_quotient ⟨Nat.le_of_ble_eq_true rfl, Nat.le_of_ble_eq_true rfl⟩, hts _ G_st_X8_quotient, trivial⟩ (preS_X hKX hP hS) rfl rfl hl.1 rfl (lv_room (Nat.le_of_ble_eq_true rfl)) dX1_wholeDigit_21 ⟨Nat.le_of_ble_eq_true rfl, Nat.le_of_ble_eq_true rfl⟩) hS (fun _ _ h => h) (fun _ h => h) (fun r11 S10 t H locs ht _ h hB _ _ hS => ?_)
      have hP : VX dC dI cA P S10 H := by rw [← ht]; exact hB
      refine lv_lstore_n (lv' := [(2, .long r11), (0, .ref (P k0)), (1, .int v1), (4, .int v4)]) hx hb dX1_wholeDigit_24 rfl hl (by decide) rfl (fun ls hl => ?_)
      obtain ⟨x12, ex12⟩ : ∃ y : Int32, y = v4 + 1 := ⟨_, rfl⟩
      replace h := h x12 ex12
      refine lv_iinc (v := x12) (lv' := [(4, .int x12), (2, .long r11), (0, .ref (P k0)), (1, .int v1)]) hx hb dX1_wholeDigit_25 hl (k := 3) rfl (by rw [ex12]; rfl) (by decide) rfl (fun ls hl => ?_)
      refine lv_goto (tgt := 9) hx hb dX1_wholeDigit_28 (by decide) ?_
      exact ih _ _ _ _ _ _ _ _ h hk0 hP hS (lv_sub hl [2, 3, 1, 0] rfl)
set_option maxRecDepth 100000 in
set_option maxHeartbeats 4000000 in
theorem e_X1_wholeDigit {p : Program} {l : Launch} {e : Env} {s : State} {m : MethodId} {args : Array Value} {below : List Frame} {meth : Method} {c : Code} {dC : Nat → ClassId} {dI : Nat → Nat → Nat} {cA : Nat → ClassId} {adK adV P : Nat → Nat} (C : CtxX dC dI cA adK adV P p s m args meth c cX1_wholeDigit 5 (some .int) RX1) {post : Int32 → St → Prop} : ∀ (k0 : Nat) (v1 : Int32) (S : St) (H : Heap) (locs : List Loc) (ls : Array Slot), w_X1_wholeDigit k0 v1 post S → kdX k0 = 1 → VX dC dI cA P S H → va_S (PA 56 P) s.heap H locs → lv_has ls 5 [(0, .ref (P k0)), (1, .int v1)] → W p l e ({ frames := 2, cells := 0, slots := 0, locals := 43 } : Room) s m args below meth c H locs 0 0 (MQ below (va_Qi post (fun u t => VX dC dI cA P u t.heap) (PA 56 P)) args s 0 0 (PA 56 P)) (F0 m 0 ls []) := by
  have C := C
  obtain ⟨hI, hKX, ⟨hx, hb, hml, hown, hts⟩, hr, hlocks⟩ := id C
  have hK := hKX.1
  intro k0 v1 S H locs ls h hk0 hP hS hl
  rw [w_X1_wholeDigit] at h
  refine lv_aload_n hx hb dX1_wholeDigit_0 rfl (lv_at hl 0 rfl) ?_
  refine va_calli (va_runV (As := []) (rest := []) ⟨hx, hb, hml, hown, hts⟩ (c_X1_whole l hI hk0 h) (cwV 0 hts gv_X1_83 rfl rfl rfl hv_X1_whole ⟨Nat.le_of_ble_eq_true rfl, Nat.le_of_ble_eq_true rfl⟩) (preV_X hKX hP hS (kX_lt hk0) (eX1 hk0) rfl) rfl rfl hl.1 rfl (lv_room (Nat.le_of_ble_eq_true rfl)) dX1_wholeDigit_1 ⟨Nat.le_of_ble_eq_true rfl, Nat.le_of_ble_eq_true rfl⟩) hS (fun _ _ h => h) (fun _ h => h) (fun r2 S1 t H locs ht _ h hB _ _ hS => ?_)
  have hP : VX dC dI cA P S1 H := by rw [← ht]; exact hB
  refine lv_i2l hx hb dX1_wholeDigit_4 rfl ?_
  refine lv_topl (fun x3 ex3 => ?_)
  replace h := h x3 ex3
  refine lv_lstore_n (lv' := [(2, .long x3), (0, .ref (P k0)), (1, .int v1)]) hx hb dX1_wholeDigit_5 rfl hl (by decide) rfl (fun ls hl => ?_)
  refine lv_iconst (v := 0) hx hb dX1_wholeDigit_6 (by decide) ?_
  refine lv_istore (lv' := [(4, .int 0), (2, .long x3), (0, .ref (P k0)), (1, .int v1)]) hx hb dX1_wholeDigit_7 hl (by decide) rfl (fun ls hl => ?_)
  obtain ⟨n13, h⟩ := h
  exact b_X1_wholeDigit_9 C n13 _ _ _ _ _ _ _ _ h hk0 hP hS (lv_sub hl [2, 3, 1, 0] rfl)
set_option maxRecDepth 100000 in
set_option maxHeartbeats 4000000 in
theorem c_X1_wholeDigit (l : Launch) {dC : Nat → ClassId} {dI : Nat → Nat → Nat} {cA : Nat → ClassId} {adK adV P : Nat → Nat} (hI : PInj 56 P) {k0 : Nat} {v1 : Int32} (hk0 : kdX k0 = 1) {post : Int32 → St → Prop} {S : St} (h : w_X1_wholeDigit k0 v1 post S) : Met l yX1_wholeDigit (wW yX1_wholeDigit cX1_wholeDigit 5 (some .int)) ({ frames := 2, cells := 0, slots := 0, locals := 43 } : Room) (va_Pc [.ref (P k0), .int v1] (PreX dC dI cA adK adV P S)) (va_Qi post (fun u t => VX dC dI cA P u t.heap) (PA 56 P)) 0 0 (PA 56 P) := by
  refine Met.ofW (cc := cX1_wholeDigit) (maxL := 5) (ret := (some .int)) (by decide) rfl ?_
  intro p e s m args below meth c s₁ B hml hv
  obtain ⟨rfl, hP, hKX⟩ := hv
  have hts : ∀ w ∈ G, w.before [.ref (P k0), .int v1].toArray s = true := fun w hw => atoms_spec (ws := wW yX1_wholeDigit cX1_wholeDigit 5 (some .int)) B.pre w (List.mem_cons_of_mem _ hw)
  have C : CtxX dC dI cA adK adV P p s m [.ref (P k0), .int v1].toArray meth c cX1_wholeDigit 5 (some .int) RX1 := ⟨hI, hKX, ⟨B.exec, B.bytes, hml, findClass_of_methodNamed B.named, hts⟩, B.returns, B.notSynchronized⟩
  have hS : va_S (PA 56 P) s.heap s.heap [] := va_S.rf
  have hl := lv_entry ([.ref (P k0), .int v1]) (n := 5) (Nat.le_of_ble_eq_true rfl)
  rw [lg_entry_eq]
  generalize (lg_sl ([.ref (P k0), .int v1]) ++ List.replicate (5 - (lg_sl ([.ref (P k0), .int v1])).length) Slot.unset).toArray = ls at hl ⊢
  have hl : lv_has ls 5 [(0, .ref (P k0)), (1, .int v1)] := hl
  exact e_X1_wholeDigit C _ _ _ _ _ _ h hk0 hP hS hl
set_option maxRecDepth 100000 in
set_option maxHeartbeats 4000000 in
theorem e_X1_signOf {p : Program} {l : Launch} {e : Env} {s : State} {m : MethodId} {args : Array Value} {below : List Frame} {meth : Method} {c : Code} {dC : Nat → ClassId} {dI : Nat → Nat → Nat} {cA : Nat → ClassId} {adK adV P : Nat → Nat} (C : CtxX dC dI cA adK adV P p s m args meth c cX1_signOf 1 (some .int) RX1) {post : Int32 → St → Prop} : ∀ (v0 : Int32) (S : St) (H : Heap) (locs : List Loc) (ls : Array Slot), w_X1_signOf v0 post S → VX dC dI cA P S H → va_S (PA 56 P) s.heap H locs → lv_has ls 1 [(0, .int v0)] → W p l e ({ frames := 0, cells := 0, slots := 0, locals := 0 } : Room) s m args below meth c H locs 0 0 (MQ below (va_Qi post (fun u t => VX dC dI cA P u t.heap) (PA 56 P)) args s 0 0 (PA 56 P)) (F0 m 0 ls []) := by
  have C := C
  obtain ⟨hI, hKX, ⟨hx, hb, hml, hown, hts⟩, hr, hlocks⟩ := id C
  have hK := hKX.1
  intro v0 S H locs ls h hP hS hl
  rw [w_X1_signOf] at h
  refine lv_iload_n hx hb dX1_signOf_0 rfl (lv_at hl 0 rfl) ?_
  refine lv_bipush (v := 10) hx hb dX1_signOf_1 (by decide) ?_
  refine lv_icmp_ge (tgt := 13) hx hb dX1_signOf_3 (by decide) (fun c1 => ?_) (fun c1 => ?_)
  · replace h := h.1 c1
    refine lv_bipush (v := 97) hx hb dX1_signOf_13 (by decide) ?_
    refine lv_iload_n hx hb dX1_signOf_15 rfl (lv_at hl 0 rfl) ?_
    refine lv_iadd hx hb dX1_signOf_16 ?_
    refine lv_bipush (v := 10) hx hb dX1_signOf_17 (by decide) ?_
    refine lv_isub hx hb dX1_signOf_19 ?_
    exact g_iret hx hb hr hlocks h hP hS dX1_signOf_20
  · replace h := h.2 c1
    refine lv_bipush (v := 48) hx hb dX1_signOf_6 (by decide) ?_
    refine lv_iload_n hx hb dX1_signOf_8 rfl (lv_at hl 0 rfl) ?_
    refine lv_iadd hx hb dX1_signOf_9 ?_
    refine lv_goto (tgt := 20) hx hb dX1_signOf_10 (by decide) ?_
    exact g_iret hx hb hr hlocks h hP hS dX1_signOf_20
set_option maxRecDepth 100000 in
set_option maxHeartbeats 4000000 in
theorem c_X1_signOf (l : Launch) {dC : Nat → ClassId} {dI : Nat → Nat → Nat} {cA : Nat → ClassId} {adK adV P : Nat → Nat} (hI : PInj 56 P) {v0 : Int32}  {post : Int32 → St → Prop} {S : St} (h : w_X1_signOf v0 post S) : Met l yX1_signOf (wW yX1_signOf cX1_signOf 1 (some .int)) ({ frames := 0, cells := 0, slots := 0, locals := 0 } : Room) (va_Pc [.int v0] (PreX dC dI cA adK adV P S)) (va_Qi post (fun u t => VX dC dI cA P u t.heap) (PA 56 P)) 0 0 (PA 56 P) := by
  refine Met.ofW (cc := cX1_signOf) (maxL := 1) (ret := (some .int)) (by decide) rfl ?_
  intro p e s m args below meth c s₁ B hml hv
  obtain ⟨rfl, hP, hKX⟩ := hv
  have hts : ∀ w ∈ G, w.before [.int v0].toArray s = true := fun w hw => atoms_spec (ws := wW yX1_signOf cX1_signOf 1 (some .int)) B.pre w (List.mem_cons_of_mem _ hw)
  have C : CtxX dC dI cA adK adV P p s m [.int v0].toArray meth c cX1_signOf 1 (some .int) RX1 := ⟨hI, hKX, ⟨B.exec, B.bytes, hml, findClass_of_methodNamed B.named, hts⟩, B.returns, B.notSynchronized⟩
  have hS : va_S (PA 56 P) s.heap s.heap [] := va_S.rf
  have hl := lv_entry ([.int v0]) (n := 1) (Nat.le_of_ble_eq_true rfl)
  rw [lg_entry_eq]
  generalize (lg_sl ([.int v0]) ++ List.replicate (1 - (lg_sl ([.int v0])).length) Slot.unset).toArray = ls at hl ⊢
  have hl : lv_has ls 1 [(0, .int v0)] := hl
  exact e_X1_signOf C _ _ _ _ _ h  hP hS hl
set_option maxRecDepth 100000 in
set_option maxHeartbeats 4000000 in
theorem e_X1_spelledByte {p : Program} {l : Launch} {e : Env} {s : State} {m : MethodId} {args : Array Value} {below : List Frame} {meth : Method} {c : Code} {dC : Nat → ClassId} {dI : Nat → Nat → Nat} {cA : Nat → ClassId} {adK adV P : Nat → Nat} (C : CtxX dC dI cA adK adV P p s m args meth c cX1_spelledByte 4 (some .int) RX1) {post : Int32 → St → Prop} : ∀ (k0 : Nat) (v1 : Int32) (S : St) (H : Heap) (locs : List Loc) (ls : Array Slot), w_X1_spelledByte k0 v1 post S → kdX k0 = 1 → VX dC dI cA P S H → va_S (PA 56 P) s.heap H locs → lv_has ls 4 [(0, .ref (P k0)), (1, .int v1)] → W p l e ({ frames := 3, cells := 0, slots := 0, locals := 67 } : Room) s m args below meth c H locs 0 0 (MQ below (va_Qi post (fun u t => VX dC dI cA P u t.heap) (PA 56 P)) args s 0 0 (PA 56 P)) (F0 m 0 ls []) := by
  have C := C
  obtain ⟨hI, hKX, ⟨hx, hb, hml, hown, hts⟩, hr, hlocks⟩ := id C
  have hK := hKX.1
  intro k0 v1 S H locs ls h hk0 hP hS hl
  rw [w_X1_spelledByte] at h
  refine lv_aload_n hx hb dX1_spelledByte_0 rfl (lv_at hl 0 rfl) ?_
  refine va_calli (va_runV (As := []) (rest := []) ⟨hx, hb, hml, hown, hts⟩ (c_X1_wholeDigits l hI hk0 h) (cwV 0 hts gv_X1_70 rfl rfl rfl hv_X1_wholeDigits ⟨Nat.le_of_ble_eq_true rfl, Nat.le_of_ble_eq_true rfl⟩) (preV_X hKX hP hS (kX_lt hk0) (eX1 hk0) rfl) rfl rfl hl.1 rfl (lv_room (Nat.le_of_ble_eq_true rfl)) dX1_spelledByte_1 ⟨Nat.le_of_ble_eq_true rfl, Nat.le_of_ble_eq_true rfl⟩) hS (fun _ _ h => h) (fun _ h => h) (fun r2 S1 t H locs ht _ h hB _ _ hS => ?_)
  have hP : VX dC dI cA P S1 H := by rw [← ht]; exact hB
  refine lv_istore_n (lv' := [(2, .int r2), (0, .ref (P k0)), (1, .int v1)]) hx hb dX1_spelledByte_4 rfl hl (by decide) rfl (fun ls hl => ?_)
  refine lv_iload_n hx hb dX1_spelledByte_5 rfl (lv_at hl 2 rfl) ?_
  refine lv_iload_n hx hb dX1_spelledByte_6 rfl (lv_at hl 0 rfl) ?_
  refine lv_icmp_ge (tgt := 23) hx hb dX1_spelledByte_7 (by decide) (fun c3 => ?_) (fun c3 => ?_)
  · replace h := h.1 c3
    refine lv_iload_n hx hb dX1_spelledByte_23 rfl (lv_at hl 2 rfl) ?_
    refine lv_iload_n hx hb dX1_spelledByte_24 rfl (lv_at hl 0 rfl) ?_
    refine lv_icmp_ne (tgt := 31) hx hb dX1_spelledByte_25 (by decide) (fun c4 => ?_) (fun c4 => ?_)
    · replace h := h.2 c4
      refine lv_iload_n hx hb dX1_spelledByte_31 rfl (lv_at hl 2 rfl) ?_
      refine lv_iload_n hx hb dX1_spelledByte_32 rfl (lv_at hl 0 rfl) ?_
      refine lv_isub hx hb dX1_spelledByte_33 ?_
      refine lv_iconst (v := 1) hx hb dX1_spelledByte_34 (by decide) ?_
      refine lv_isub hx hb dX1_spelledByte_35 ?_
      refine lv_topi (fun x5 ex5 => ?_)
      replace h := h x5 ex5
      refine lv_istore_n (lv' := [(3, .int x5), (2, .int r2), (0, .ref (P k0)), (1, .int v1)]) hx hb dX1_spelledByte_36 rfl hl (by decide) rfl (fun ls hl => ?_)
      refine lv_iload_n hx hb dX1_spelledByte_37 rfl (lv_at hl 0 rfl) ?_
      refine lv_aload_n hx hb dX1_spelledByte_38 rfl (lv_at hl 2 rfl) ?_
      refine g_get (v := .int (S1.1 k0 3)) hx hb hts inG_X1 hown hK hP (kX_lt hk0) (eX1 hk0) rfl 3 (by decide) G_fl_X1_21 rfl rfl dX1_spelledByte_39 ?_
      refine lv_icmp_ge (tgt := 58) hx hb dX1_spelledByte_42 (by decide) (fun c6 => ?_) (fun c6 => ?_)
      · replace h := h.1 c6
        refine lv_iload_n hx hb dX1_spelledByte_58 rfl (lv_at hl 0 rfl) ?_
        refine lv_aload_n hx hb dX1_spelledByte_59 rfl (lv_at hl 2 rfl) ?_
        refine g_get (v := .int (S1.1 k0 3)) hx hb hts inG_X1 hown hK hP (kX_lt hk0) (eX1 hk0) rfl 3 (by decide) G_fl_X1_21 rfl rfl dX1_spelledByte_60 ?_
        refine lv_icmp_ne (tgt := 69) hx hb dX1_spelledByte_63 (by decide) (fun c7 => ?_) (fun c7 => ?_)
        · replace h := h.2 c7
          refine lv_iload_n hx hb dX1_spelledByte_69 rfl (lv_at hl 0 rfl) ?_
          refine lv_aload_n hx hb dX1_spelledByte_70 rfl (lv_at hl 2 rfl) ?_
          refine g_get (v := .int (S1.1 k0 3)) hx hb hts inG_X1 hown hK hP (kX_lt hk0) (eX1 hk0) rfl 3 (by decide) G_fl_X1_21 rfl rfl dX1_spelledByte_71 ?_
          refine lv_aload_n hx hb dX1_spelledByte_74 rfl (lv_at hl 2 rfl) ?_
          refine g_get (v := .int (S1.1 k0 4)) hx hb hts inG_X1 hown hK hP (kX_lt hk0) (eX1 hk0) rfl 4 (by decide) G_fl_X1_24 rfl rfl dX1_spelledByte_75 ?_
          refine lv_iadd hx hb dX1_spelledByte_78 ?_
          refine lv_icmp_gt (tgt := 99) hx hb dX1_spelledByte_79 (by decide) (fun c8 => ?_) (fun c8 => ?_)
          · replace h := h.1 c8
            refine lv_bipush (v := 41) hx hb dX1_spelledByte_99 (by decide) ?_
            exact g_iret hx hb hr hlocks h hP hS dX1_spelledByte_101
          · replace h := h.2 c8
            refine lv_aload_n hx hb dX1_spelledByte_82 rfl (lv_at hl 2 rfl) ?_
            refine lv_aload_n hx hb dX1_spelledByte_83 rfl (lv_at hl 2 rfl) ?_
            refine lv_iload_n hx hb dX1_spelledByte_84 rfl (lv_at hl 0 rfl) ?_
            refine lv_iconst (v := 1) hx hb dX1_spelledByte_85 (by decide) ?_
            refine lv_isub hx hb dX1_spelledByte_86 ?_
            replace h := h _ rfl
            refine va_calli (va_runV (As := [.int _]) (rest := [.ref _]) ⟨hx, hb, hml, hown, hts⟩ (c_X1_restAt l hI hk0 h) (cwV 1 hts gv_X1_80 rfl rfl rfl hv_X1_restAt ⟨Nat.le_of_ble_eq_true rfl, Nat.le_of_ble_eq_true rfl⟩) (preV_X hKX hP hS (kX_lt hk0) (eX1 hk0) rfl) rfl rfl hl.1 rfl (lv_room (Nat.le_of_ble_eq_true rfl)) dX1_spelledByte_87 ⟨Nat.le_of_ble_eq_true rfl, Nat.le_of_ble_eq_true rfl⟩) hS (fun _ _ h => h) (fun _ h => h) (fun r11 S10 t H locs ht _ h hB _ _ hS => ?_)
            have hP : VX dC dI cA P S10 H := by rw [← ht]; exact hB
            refine va_calli (va_runV (As := [.int _]) (rest := []) ⟨hx, hb, hml, hown, hts⟩ (c_X1_digitOf l hI hk0 h) (cwV 1 hts gv_X1_60 rfl rfl rfl hv_X1_digitOf ⟨Nat.le_of_ble_eq_true rfl, Nat.le_of_ble_eq_true rfl⟩) (preV_X hKX hP hS (kX_lt hk0) (eX1 hk0) rfl) rfl rfl hl.1 rfl (lv_room (Nat.le_of_ble_eq_true rfl)) dX1_spelledByte_90 ⟨Nat.le_of_ble_eq_true rfl, Nat.le_of_ble_eq_true rfl⟩) hS (fun _ _ h => h) (fun _ h => h) (fun r13 S12 t H locs ht _ h hB _ _ hS => ?_)
            have hP : VX dC dI cA P S12 H := by rw [← ht]; exact hB
            refine va_calli (va_runS (As := [.int _]) (rest := []) ⟨hx, hb, hml, hown, hts⟩ (c_X1_signOf l hI h) (va_cwS 1 hts gs_X1_77 rfl rfl rfl hd_X1_signOf ⟨Nat.le_of_ble_eq_true rfl, Nat.le_of_ble_eq_true rfl⟩) (preS_X hKX hP hS) rfl rfl hl.1 rfl (lv_room (Nat.le_of_ble_eq_true rfl)) dX1_spelledByte_93 ⟨Nat.le_of_ble_eq_true rfl, Nat.le_of_ble_eq_true rfl⟩) hS (fun _ _ h => h) (fun _ h => h) (fun r15 S14 t H locs ht _ h hB _ _ hS => ?_)
            have hP : VX dC dI cA P S14 H := by rw [← ht]; exact hB
            refine lv_goto (tgt := 101) hx hb dX1_spelledByte_96 (by decide) ?_
            exact g_iret hx hb hr hlocks h hP hS dX1_spelledByte_101
        · replace h := h.1 c7
          refine lv_bipush (v := 40) hx hb dX1_spelledByte_66 (by decide) ?_
          exact g_iret hx hb hr hlocks h hP hS dX1_spelledByte_68
      · replace h := h.2 c6
        refine lv_aload_n hx hb dX1_spelledByte_45 rfl (lv_at hl 2 rfl) ?_
        refine lv_aload_n hx hb dX1_spelledByte_46 rfl (lv_at hl 2 rfl) ?_
        refine lv_iload_n hx hb dX1_spelledByte_47 rfl (lv_at hl 0 rfl) ?_
        refine va_calli (va_runV (As := [.int _]) (rest := [.ref _]) ⟨hx, hb, hml, hown, hts⟩ (c_X1_restAt l hI hk0 h) (cwV 1 hts gv_X1_80 rfl rfl rfl hv_X1_restAt ⟨Nat.le_of_ble_eq_true rfl, Nat.le_of_ble_eq_true rfl⟩) (preV_X hKX hP hS (kX_lt hk0) (eX1 hk0) rfl) rfl rfl hl.1 rfl (lv_room (Nat.le_of_ble_eq_true rfl)) dX1_spelledByte_48 ⟨Nat.le_of_ble_eq_true rfl, Nat.le_of_ble_eq_true rfl⟩) hS (fun _ _ h => h) (fun _ h => h) (fun r17 S16 t H locs ht _ h hB _ _ hS => ?_)
        have hP : VX dC dI cA P S16 H := by rw [← ht]; exact hB
        refine va_calli (va_runV (As := [.int _]) (rest := []) ⟨hx, hb, hml, hown, hts⟩ (c_X1_digitOf l hI hk0 h) (cwV 1 hts gv_X1_60 rfl rfl rfl hv_X1_digitOf ⟨Nat.le_of_ble_eq_true rfl, Nat.le_of_ble_eq_true rfl⟩) (preV_X hKX hP hS (kX_lt hk0) (eX1 hk0) rfl) rfl rfl hl.1 rfl (lv_room (Nat.le_of_ble_eq_true rfl)) dX1_spelledByte_51 ⟨Nat.le_of_ble_eq_true rfl, Nat.le_of_ble_eq_true rfl⟩) hS (fun _ _ h => h) (fun _ h => h) (fun r19 S18 t H locs ht _ h hB _ _ hS => ?_)
        have hP : VX dC dI cA P S18 H := by rw [← ht]; exact hB
        refine va_calli (va_runS (As := [.int _]) (rest := []) ⟨hx, hb, hml, hown, hts⟩ (c_X1_signOf l hI h) (va_cwS 1 hts gs_X1_77 rfl rfl rfl hd_X1_signOf ⟨Nat.le_of_ble_eq_true rfl, Nat.le_of_ble_eq_true rfl⟩) (preS_X hKX hP hS) rfl rfl hl.1 rfl (lv_room (Nat.le_of_ble_eq_true rfl)) dX1_spelledByte_54 ⟨Nat.le_of_ble_eq_true rfl, Nat.le_of_ble_eq_true rfl⟩) hS (fun _ _ h => h) (fun _ h => h) (fun r21 S20 t H locs ht _ h hB _ _ hS => ?_)
        have hP : VX dC dI cA P S20 H := by rw [← ht]; exact hB
        exact g_iret hx hb hr hlocks h hP hS dX1_spelledByte_57
    · replace h := h.1 c4
      refine lv_bipush (v := 46) hx hb dX1_spelledByte_28 (by decide) ?_
      exact g_iret hx hb hr hlocks h hP hS dX1_spelledByte_30
  · replace h := h.2 c3
    refine lv_aload_n hx hb dX1_spelledByte_10 rfl (lv_at hl 1 rfl) ?_
    refine lv_iload_n hx hb dX1_spelledByte_11 rfl (lv_at hl 0 rfl) ?_
    refine lv_iconst (v := 1) hx hb dX1_spelledByte_12 (by decide) ?_
    refine lv_isub hx hb dX1_spelledByte_13 ?_
    refine lv_iload_n hx hb dX1_spelledByte_14 rfl (lv_at hl 2 rfl) ?_
    refine lv_isub hx hb dX1_spelledByte_15 ?_
    replace h := h _ rfl
    refine va_calli (va_runV (As := [.int _]) (rest := []) ⟨hx, hb, hml, hown, hts⟩ (c_X1_wholeDigit l hI hk0 h) (cwV 1 hts gv_X1_74 rfl rfl rfl hv_X1_wholeDigit ⟨Nat.le_of_ble_eq_true rfl, Nat.le_of_ble_eq_true rfl⟩) (preV_X hKX hP hS (kX_lt hk0) (eX1 hk0) rfl) rfl rfl hl.1 rfl (lv_room (Nat.le_of_ble_eq_true rfl)) dX1_spelledByte_16 ⟨Nat.le_of_ble_eq_true rfl, Nat.le_of_ble_eq_true rfl⟩) hS (fun _ _ h => h) (fun _ h => h) (fun r24 S23 t H locs ht _ h hB _ _ hS => ?_)
    have hP : VX dC dI cA P S23 H := by rw [← ht]; exact hB
    refine va_calli (va_runS (As := [.int _]) (rest := []) ⟨hx, hb, hml, hown, hts⟩ (c_X1_signOf l hI h) (va_cwS 1 hts gs_X1_77 rfl rfl rfl hd_X1_signOf ⟨Nat.le_of_ble_eq_true rfl, Nat.le_of_ble_eq_true rfl⟩) (preS_X hKX hP hS) rfl rfl hl.1 rfl (lv_room (Nat.le_of_ble_eq_true rfl)) dX1_spelledByte_19 ⟨Nat.le_of_ble_eq_true rfl, Nat.le_of_ble_eq_true rfl⟩) hS (fun _ _ h => h) (fun _ h => h) (fun r26 S25 t H locs ht _ h hB _ _ hS => ?_)
    have hP : VX dC dI cA P S25 H := by rw [← ht]; exact hB
    exact g_iret hx hb hr hlocks h hP hS dX1_spelledByte_22
set_option maxRecDepth 100000 in
set_option maxHeartbeats 4000000 in
theorem c_X1_spelledByte (l : Launch) {dC : Nat → ClassId} {dI : Nat → Nat → Nat} {cA : Nat → ClassId} {adK adV P : Nat → Nat} (hI : PInj 56 P) {k0 : Nat} {v1 : Int32} (hk0 : kdX k0 = 1) {post : Int32 → St → Prop} {S : St} (h : w_X1_spelledByte k0 v1 post S) : Met l yX1_spelledByte (wW yX1_spelledByte cX1_spelledByte 4 (some .int)) ({ frames := 3, cells := 0, slots := 0, locals := 67 } : Room) (va_Pc [.ref (P k0), .int v1] (PreX dC dI cA adK adV P S)) (va_Qi post (fun u t => VX dC dI cA P u t.heap) (PA 56 P)) 0 0 (PA 56 P) := by
  refine Met.ofW (cc := cX1_spelledByte) (maxL := 4) (ret := (some .int)) (by decide) rfl ?_
  intro p e s m args below meth c s₁ B hml hv
  obtain ⟨rfl, hP, hKX⟩ := hv
  have hts : ∀ w ∈ G, w.before [.ref (P k0), .int v1].toArray s = true := fun w hw => atoms_spec (ws := wW yX1_spelledByte cX1_spelledByte 4 (some .int)) B.pre w (List.mem_cons_of_mem _ hw)
  have C : CtxX dC dI cA adK adV P p s m [.ref (P k0), .int v1].toArray meth c cX1_spelledByte 4 (some .int) RX1 := ⟨hI, hKX, ⟨B.exec, B.bytes, hml, findClass_of_methodNamed B.named, hts⟩, B.returns, B.notSynchronized⟩
  have hS : va_S (PA 56 P) s.heap s.heap [] := va_S.rf
  have hl := lv_entry ([.ref (P k0), .int v1]) (n := 4) (Nat.le_of_ble_eq_true rfl)
  rw [lg_entry_eq]
  generalize (lg_sl ([.ref (P k0), .int v1]) ++ List.replicate (4 - (lg_sl ([.ref (P k0), .int v1])).length) Slot.unset).toArray = ls at hl ⊢
  have hl : lv_has ls 4 [(0, .ref (P k0)), (1, .int v1)] := hl
  exact e_X1_spelledByte C _ _ _ _ _ _ h hk0 hP hS hl
set_option maxRecDepth 100000 in
set_option maxHeartbeats 4000000 in
theorem e_X2_holdFraction {p : Program} {l : Launch} {e : Env} {s : State} {m : MethodId} {args : Array Value} {below : List Frame} {meth : Method} {c : Code} {dC : Nat → ClassId} {dI : Nat → Nat → Nat} {cA : Nat → ClassId} {adK adV P : Nat → Nat} (C : CtxX dC dI cA adK adV P p s m args meth c cX2_holdFraction 2 none RX2) {post : St → Prop} : ∀ (k0 : Nat) (k1 : Nat) (S : St) (H : Heap) (locs : List Loc) (ls : Array Slot), w_X2_holdFraction k0 k1 post S → kdX k0 = 2 → kdX k1 = 1 → VX dC dI cA P S H → va_S (PA 56 P) s.heap H locs → lv_has ls 2 [(0, .ref (P k0)), (1, .ref (P k1))] → W p l e ({ frames := 1, cells := 0, slots := 0, locals := 21 } : Room) s m args below meth c H locs 0 0 (MQ below (va_Qv post (fun u t => VX dC dI cA P u t.heap) (PA 56 P)) args s 0 0 (PA 56 P)) (F0 m 0 ls []) := by
  have C := C
  obtain ⟨hI, hKX, ⟨hx, hb, hml, hown, hts⟩, hr, hlocks⟩ := id C
  have hK := hKX.1
  intro k0 k1 S H locs ls h hk0 hk1 hP hS hl
  rw [w_X2_holdFraction] at h
  refine lv_aload_n hx hb dX2_holdFraction_0 rfl (lv_at hl 0 rfl) ?_
  refine lv_iconst (v := 1) hx hb dX2_holdFraction_1 (by decide) ?_
  refine g_putI hx hb hts inG_X2 tyX2 tyX2_ok nmX2 hown hK hI hP hS (kX_lt hk0) (eX2 hk0) rfl 0 (by decide) G_fl_X2_9 rfl rfl (ty := .int) (by decide +kernel) rfl rfl (Nat.le_of_ble_eq_true rfl) rfl h dX2_holdFraction_2 (fun S1 H locs h hP hS => ?_)
  refine lv_aload_n hx hb dX2_holdFraction_5 rfl (lv_at hl 0 rfl) ?_
  refine g_get (v := .ref (P (k0 + 1))) hx hb hts inG_X2 hown hK hP (kX_lt hk0) (eX2 hk0) rfl 1 (by decide) G_fl_X2_18 rfl rfl dX2_holdFraction_6 ?_
  refine lv_aload_n hx hb dX2_holdFraction_9 rfl (lv_at hl 1 rfl) ?_
  refine va_callv (va_runV (As := [.ref _]) (rest := []) ⟨hx, hb, hml, hown, hts⟩ (c_X1_becomeLike l hI (kd2_1 hk0) hk1 h) (cwV 1 hts gv_X2_29 rfl rfl rfl hv_X1_becomeLike ⟨Nat.le_of_ble_eq_true rfl, Nat.le_of_ble_eq_true rfl⟩) (preV_X hKX hP hS (kX_lt (kd2_1 hk0)) (eX1 (kd2_1 hk0)) rfl) rfl rfl hl.1 rfl (lv_room (Nat.le_of_ble_eq_true rfl)) dX2_holdFraction_10 ⟨Nat.le_of_ble_eq_true rfl, Nat.le_of_ble_eq_true rfl⟩) hS (fun _ _ h => h) (fun _ h => h) (fun S2 t H locs ht _ h hB _ _ hS => ?_)
  have hP : VX dC dI cA P S2 H := by rw [← ht]; exact hB
  exact g_vret hx hb hr hlocks h hP hS dX2_holdFraction_13
set_option maxRecDepth 100000 in
set_option maxHeartbeats 4000000 in
theorem c_X2_holdFraction (l : Launch) {dC : Nat → ClassId} {dI : Nat → Nat → Nat} {cA : Nat → ClassId} {adK adV P : Nat → Nat} (hI : PInj 56 P) {k0 : Nat} {k1 : Nat} (hk0 : kdX k0 = 2) (hk1 : kdX k1 = 1) {post : St → Prop} {S : St} (h : w_X2_holdFraction k0 k1 post S) : Met l yX2_holdFraction (wW yX2_holdFraction cX2_holdFraction 2 none) ({ frames := 1, cells := 0, slots := 0, locals := 21 } : Room) (va_Pc [.ref (P k0), .ref (P k1)] (PreX dC dI cA adK adV P S)) (va_Qv post (fun u t => VX dC dI cA P u t.heap) (PA 56 P)) 0 0 (PA 56 P) := by
  refine Met.ofW (cc := cX2_holdFraction) (maxL := 2) (ret := none) (by decide) rfl ?_
  intro p e s m args below meth c s₁ B hml hv
  obtain ⟨rfl, hP, hKX⟩ := hv
  have hts : ∀ w ∈ G, w.before [.ref (P k0), .ref (P k1)].toArray s = true := fun w hw => atoms_spec (ws := wW yX2_holdFraction cX2_holdFraction 2 none) B.pre w (List.mem_cons_of_mem _ hw)
  have C : CtxX dC dI cA adK adV P p s m [.ref (P k0), .ref (P k1)].toArray meth c cX2_holdFraction 2 none RX2 := ⟨hI, hKX, ⟨B.exec, B.bytes, hml, findClass_of_methodNamed B.named, hts⟩, B.returns, B.notSynchronized⟩
  have hS : va_S (PA 56 P) s.heap s.heap [] := va_S.rf
  have hl := lv_entry ([.ref (P k0), .ref (P k1)]) (n := 2) (Nat.le_of_ble_eq_true rfl)
  rw [lg_entry_eq]
  generalize (lg_sl ([.ref (P k0), .ref (P k1)]) ++ List.replicate (2 - (lg_sl ([.ref (P k0), .ref (P k1)])).length) Slot.unset).toArray = ls at hl ⊢
  have hl : lv_has ls 2 [(0, .ref (P k0)), (1, .ref (P k1))] := hl
  exact e_X2_holdFraction C _ _ _ _ _ _ h hk0 hk1 hP hS hl
set_option maxRecDepth 100000 in
set_option maxHeartbeats 4000000 in
theorem b_X2_holdRow_12 {p : Program} {l : Launch} {e : Env} {s : State} {m : MethodId} {args : Array Value} {below : List Frame} {meth : Method} {c : Code} {dC : Nat → ClassId} {dI : Nat → Nat → Nat} {cA : Nat → ClassId} {adK adV P : Nat → Nat} (C : CtxX dC dI cA adK adV P p s m args meth c cX2_holdRow 3 none RX2) {post : St → Prop}  : ∀ (n : Nat) (k0 : Nat) (v1 : Int32) (v2 : Int32) (S : St) (H : Heap) (locs : List Loc) (ls : Array Slot), w_X2_holdRow_12 post n k0 v1 v2 S → kdX k0 = 2 → VX dC dI cA P S H → va_S (PA 56 P) s.heap H locs → lv_has ls 3 [(0, .ref (P k0)), (1, .int v1), (2, .int v2)] → W p l e ({ frames := 1, cells := 0, slots := 0, locals := 22 } : Room) s m args below meth c H locs 0 0 (MQ below (va_Qv post (fun u t => VX dC dI cA P u t.heap) (PA 56 P)) args s 0 0 (PA 56 P)) (F0 m 12 ls []) := by
  have C := C
  obtain ⟨hI, hKX, ⟨hx, hb, hml, hown, hts⟩, hr, hlocks⟩ := id C
  have hK := hKX.1
  intro n
  induction n with
  | zero =>
    intro k0 v1 v2 S H locs ls h hk0 hP hS hl
    simp only [w_X2_holdRow_12] at h
  | succ n ih =>
    intro k0 v1 v2 S H locs ls h hk0 hP hS hl
    rw [w_X2_holdRow_12] at h
    refine lv_iload_n hx hb dX2_holdRow_12 rfl (lv_at hl 2 rfl) ?_
    refine lv_iload_n hx hb dX2_holdRow_13 rfl (lv_at hl 1 rfl) ?_
    refine lv_icmp_ge (tgt := 32) hx hb dX2_holdRow_14 (by decide) (fun c3 => ?_) (fun c3 => ?_)
    · replace h := h.1 c3
      exact g_vret hx hb hr hlocks h hP hS dX2_holdRow_32
    · replace h := h.2 c3
      refine lv_aload_n hx hb dX2_holdRow_17 rfl (lv_at hl 0 rfl) ?_
      refine g_get (v := .ref (P (k0 + 2))) hx hb hts inG_X2 hown hK hP (kX_lt hk0) (eX2 hk0) rfl 2 (by decide) G_fl_X2_22 rfl rfl dX2_holdRow_18 ?_
      refine lv_iload_n hx hb dX2_holdRow_21 rfl (lv_at hl 2 rfl) ?_
      refine lv_iconst (v := 0) hx hb dX2_holdRow_22 (by decide) ?_
      refine va_callv (va_runSN (As := [.ref _, .int _, .int _]) (rest := []) ⟨hx, hb, hml, hown, hts⟩ (c_X8_setAt l hI (kd2_2 hk0) h) ⟨va_cnB 3 hts (good_W G_cd_X8_setAt) rfl rfl rfl (kx_n18 hKX) (hts _ G_in_X8) hd_X8_setAt ⟨Nat.le_of_ble_eq_true rfl, Nat.le_of_ble_eq_true rfl⟩, hts _ G_st_X8_setAt, trivial⟩ (preS_X hKX hP hS) rfl rfl hl.1 rfl (lv_room (Nat.le_of_ble_eq_true rfl)) dX2_holdRow_23 ⟨Nat.le_of_ble_eq_true rfl, Nat.le_of_ble_eq_true rfl⟩) hS (fun _ _ h => h) (fun _ h => h) (fun S4 t H locs ht _ h hB _ _ hS => ?_)
      have hP : VX dC dI cA P S4 H := by rw [← ht]; exact hB
      obtain ⟨x5, ex5⟩ : ∃ y : Int32, y = v2 + 1 := ⟨_, rfl⟩
      replace h := h x5 ex5
      refine lv_iinc (v := x5) (lv' := [(2, .int x5), (0, .ref (P k0)), (1, .int v1)]) hx hb dX2_holdRow_26 hl (k := 2) rfl (by rw [ex5]; rfl) (by decide) rfl (fun ls hl => ?_)
      refine lv_goto (tgt := 12) hx hb dX2_holdRow_29 (by decide) ?_
      exact ih _ _ _ _ _ _ _ h hk0 hP hS (lv_sub hl [1, 2, 0] rfl)
set_option maxRecDepth 100000 in
set_option maxHeartbeats 4000000 in
theorem e_X2_holdRow {p : Program} {l : Launch} {e : Env} {s : State} {m : MethodId} {args : Array Value} {below : List Frame} {meth : Method} {c : Code} {dC : Nat → ClassId} {dI : Nat → Nat → Nat} {cA : Nat → ClassId} {adK adV P : Nat → Nat} (C : CtxX dC dI cA adK adV P p s m args meth c cX2_holdRow 3 none RX2) {post : St → Prop} : ∀ (k0 : Nat) (v1 : Int32) (S : St) (H : Heap) (locs : List Loc) (ls : Array Slot), w_X2_holdRow k0 v1 post S → kdX k0 = 2 → VX dC dI cA P S H → va_S (PA 56 P) s.heap H locs → lv_has ls 3 [(0, .ref (P k0)), (1, .int v1)] → W p l e ({ frames := 1, cells := 0, slots := 0, locals := 22 } : Room) s m args below meth c H locs 0 0 (MQ below (va_Qv post (fun u t => VX dC dI cA P u t.heap) (PA 56 P)) args s 0 0 (PA 56 P)) (F0 m 0 ls []) := by
  have C := C
  obtain ⟨hI, hKX, ⟨hx, hb, hml, hown, hts⟩, hr, hlocks⟩ := id C
  have hK := hKX.1
  intro k0 v1 S H locs ls h hk0 hP hS hl
  rw [w_X2_holdRow] at h
  refine lv_aload_n hx hb dX2_holdRow_0 rfl (lv_at hl 0 rfl) ?_
  refine lv_iconst (v := 2) hx hb dX2_holdRow_1 (by decide) ?_
  refine g_putI hx hb hts inG_X2 tyX2 tyX2_ok nmX2 hown hK hI hP hS (kX_lt hk0) (eX2 hk0) rfl 0 (by decide) G_fl_X2_9 rfl rfl (ty := .int) (by decide +kernel) rfl rfl (Nat.le_of_ble_eq_true rfl) rfl h dX2_holdRow_2 (fun S1 H locs h hP hS => ?_)
  refine lv_aload_n hx hb dX2_holdRow_5 rfl (lv_at hl 0 rfl) ?_
  refine lv_iload_n hx hb dX2_holdRow_6 rfl (lv_at hl 1 rfl) ?_
  refine g_putI hx hb hts inG_X2 tyX2 tyX2_ok nmX2 hown hK hI hP hS (kX_lt hk0) (eX2 hk0) rfl 3 (by decide) G_fl_X2_26 rfl rfl (ty := .int) (by decide +kernel) rfl rfl (Nat.le_of_ble_eq_true rfl) rfl h dX2_holdRow_7 (fun S2 H locs h hP hS => ?_)
  refine lv_iconst (v := 0) hx hb dX2_holdRow_10 (by decide) ?_
  refine lv_istore_n (lv' := [(2, .int 0), (0, .ref (P k0)), (1, .int v1)]) hx hb dX2_holdRow_11 rfl hl (by decide) rfl (fun ls hl => ?_)
  obtain ⟨n6, h⟩ := h
  exact b_X2_holdRow_12 C n6 _ _ _ _ _ _ _ h hk0 hP hS (lv_sub hl [1, 2, 0] rfl)
set_option maxRecDepth 100000 in
set_option maxHeartbeats 4000000 in
theorem c_X2_holdRow (l : Launch) {dC : Nat → ClassId} {dI : Nat → Nat → Nat} {cA : Nat → ClassId} {adK adV P : Nat → Nat} (hI : PInj 56 P) {k0 : Nat} {v1 : Int32} (hk0 : kdX k0 = 2) {post : St → Prop} {S : St} (h : w_X2_holdRow k0 v1 post S) : Met l yX2_holdRow (wW yX2_holdRow cX2_holdRow 3 none) ({ frames := 1, cells := 0, slots := 0, locals := 22 } : Room) (va_Pc [.ref (P k0), .int v1] (PreX dC dI cA adK adV P S)) (va_Qv post (fun u t => VX dC dI cA P u t.heap) (PA 56 P)) 0 0 (PA 56 P) := by
  refine Met.ofW (cc := cX2_holdRow) (maxL := 3) (ret := none) (by decide) rfl ?_
  intro p e s m args below meth c s₁ B hml hv
  obtain ⟨rfl, hP, hKX⟩ := hv
  have hts : ∀ w ∈ G, w.before [.ref (P k0), .int v1].toArray s = true := fun w hw => atoms_spec (ws := wW yX2_holdRow cX2_holdRow 3 none) B.pre w (List.mem_cons_of_mem _ hw)
  have C : CtxX dC dI cA adK adV P p s m [.ref (P k0), .int v1].toArray meth c cX2_holdRow 3 none RX2 := ⟨hI, hKX, ⟨B.exec, B.bytes, hml, findClass_of_methodNamed B.named, hts⟩, B.returns, B.notSynchronized⟩
  have hS : va_S (PA 56 P) s.heap s.heap [] := va_S.rf
  have hl := lv_entry ([.ref (P k0), .int v1]) (n := 3) (Nat.le_of_ble_eq_true rfl)
  rw [lg_entry_eq]
  generalize (lg_sl ([.ref (P k0), .int v1]) ++ List.replicate (3 - (lg_sl ([.ref (P k0), .int v1])).length) Slot.unset).toArray = ls at hl ⊢
  have hl : lv_has ls 3 [(0, .ref (P k0)), (1, .int v1)] := hl
  exact e_X2_holdRow C _ _ _ _ _ _ h hk0 hP hS hl
set_option maxRecDepth 100000 in
set_option maxHeartbeats 4000000 in
theorem e_X2_refusalAs {p : Program} {l : Launch} {e : Env} {s : State} {m : MethodId} {args : Array Value} {below : List Frame} {meth : Method} {c : Code} {dC : Nat → ClassId} {dI : Nat → Nat → Nat} {cA : Nat → ClassId} {adK adV P : Nat → Nat} (C : CtxX dC dI cA adK adV P p s m args meth c cX2_refusalAs 2 (some .int) RX2) {post : Int32 → St → Prop} : ∀ (k0 : Nat) (v1 : Int32) (S : St) (H : Heap) (locs : List Loc) (ls : Array Slot), w_X2_refusalAs k0 v1 post S → kdX k0 = 2 → VX dC dI cA P S H → va_S (PA 56 P) s.heap H locs → lv_has ls 2 [(0, .ref (P k0)), (1, .int v1)] → W p l e ({ frames := 0, cells := 0, slots := 0, locals := 0 } : Room) s m args below meth c H locs 0 0 (MQ below (va_Qi post (fun u t => VX dC dI cA P u t.heap) (PA 56 P)) args s 0 0 (PA 56 P)) (F0 m 0 ls []) := by
  have C := C
  obtain ⟨hI, hKX, ⟨hx, hb, hml, hown, hts⟩, hr, hlocks⟩ := id C
  have hK := hKX.1
  intro k0 v1 S H locs ls h hk0 hP hS hl
  rw [w_X2_refusalAs] at h
  refine lv_aload_n hx hb dX2_refusalAs_0 rfl (lv_at hl 0 rfl) ?_
  refine g_get (v := .int (S.1 k0 0)) hx hb hts inG_X2 hown hK hP (kX_lt hk0) (eX2 hk0) rfl 0 (by decide) G_fl_X2_9 rfl rfl dX2_refusalAs_1 ?_
  refine lv_if_ne (tgt := 10) hx hb dX2_refusalAs_4 (by decide) (fun c1 => ?_) (fun c1 => ?_)
  · replace h := h.2 c1
    refine lv_aload_n hx hb dX2_refusalAs_10 rfl (lv_at hl 0 rfl) ?_
    refine g_get (v := .int (S.1 k0 0)) hx hb hts inG_X2 hown hK hP (kX_lt hk0) (eX2 hk0) rfl 0 (by decide) G_fl_X2_9 rfl rfl dX2_refusalAs_11 ?_
    refine lv_iload_n hx hb dX2_refusalAs_14 rfl (lv_at hl 1 rfl) ?_
    refine lv_icmp_ne (tgt := 22) hx hb dX2_refusalAs_15 (by decide) (fun c2 => ?_) (fun c2 => ?_)
    · replace h := h.2 c2
      refine lv_bipush (v := (-12)) hx hb dX2_refusalAs_22 (by decide) ?_
      exact g_iret hx hb hr hlocks h hP hS dX2_refusalAs_24
    · replace h := h.1 c2
      refine lv_iconst (v := 0) hx hb dX2_refusalAs_18 (by decide) ?_
      refine lv_goto (tgt := 24) hx hb dX2_refusalAs_19 (by decide) ?_
      exact g_iret hx hb hr hlocks h hP hS dX2_refusalAs_24
  · replace h := h.1 c1
    refine lv_bipush (v := (-11)) hx hb dX2_refusalAs_7 (by decide) ?_
    exact g_iret hx hb hr hlocks h hP hS dX2_refusalAs_9
set_option maxRecDepth 100000 in
set_option maxHeartbeats 4000000 in
theorem c_X2_refusalAs (l : Launch) {dC : Nat → ClassId} {dI : Nat → Nat → Nat} {cA : Nat → ClassId} {adK adV P : Nat → Nat} (hI : PInj 56 P) {k0 : Nat} {v1 : Int32} (hk0 : kdX k0 = 2) {post : Int32 → St → Prop} {S : St} (h : w_X2_refusalAs k0 v1 post S) : Met l yX2_refusalAs (wW yX2_refusalAs cX2_refusalAs 2 (some .int)) ({ frames := 0, cells := 0, slots := 0, locals := 0 } : Room) (va_Pc [.ref (P k0), .int v1] (PreX dC dI cA adK adV P S)) (va_Qi post (fun u t => VX dC dI cA P u t.heap) (PA 56 P)) 0 0 (PA 56 P) := by
  refine Met.ofW (cc := cX2_refusalAs) (maxL := 2) (ret := (some .int)) (by decide) rfl ?_
  intro p e s m args below meth c s₁ B hml hv
  obtain ⟨rfl, hP, hKX⟩ := hv
  have hts : ∀ w ∈ G, w.before [.ref (P k0), .int v1].toArray s = true := fun w hw => atoms_spec (ws := wW yX2_refusalAs cX2_refusalAs 2 (some .int)) B.pre w (List.mem_cons_of_mem _ hw)
  have C : CtxX dC dI cA adK adV P p s m [.ref (P k0), .int v1].toArray meth c cX2_refusalAs 2 (some .int) RX2 := ⟨hI, hKX, ⟨B.exec, B.bytes, hml, findClass_of_methodNamed B.named, hts⟩, B.returns, B.notSynchronized⟩
  have hS : va_S (PA 56 P) s.heap s.heap [] := va_S.rf
  have hl := lv_entry ([.ref (P k0), .int v1]) (n := 2) (Nat.le_of_ble_eq_true rfl)
  rw [lg_entry_eq]
  generalize (lg_sl ([.ref (P k0), .int v1]) ++ List.replicate (2 - (lg_sl ([.ref (P k0), .int v1])).length) Slot.unset).toArray = ls at hl ⊢
  have hl : lv_has ls 2 [(0, .ref (P k0)), (1, .int v1)] := hl
  exact e_X2_refusalAs C _ _ _ _ _ _ h hk0 hP hS hl
set_option maxRecDepth 100000 in
set_option maxHeartbeats 4000000 in
theorem e_X2_hasPlace {p : Program} {l : Launch} {e : Env} {s : State} {m : MethodId} {args : Array Value} {below : List Frame} {meth : Method} {c : Code} {dC : Nat → ClassId} {dI : Nat → Nat → Nat} {cA : Nat → ClassId} {adK adV P : Nat → Nat} (C : CtxX dC dI cA adK adV P p s m args meth c cX2_hasPlace 2 (some .boolean) RX2) {post : Int32 → St → Prop} : ∀ (k0 : Nat) (v1 : Int32) (S : St) (H : Heap) (locs : List Loc) (ls : Array Slot), w_X2_hasPlace k0 v1 post S → kdX k0 = 2 → VX dC dI cA P S H → va_S (PA 56 P) s.heap H locs → lv_has ls 2 [(0, .ref (P k0)), (1, .int v1)] → W p l e ({ frames := 1, cells := 0, slots := 0, locals := 22 } : Room) s m args below meth c H locs 0 0 (MQ below (va_Qi post (fun u t => VX dC dI cA P u t.heap) (PA 56 P)) args s 0 0 (PA 56 P)) (F0 m 0 ls []) := by
  have C := C
  obtain ⟨hI, hKX, ⟨hx, hb, hml, hown, hts⟩, hr, hlocks⟩ := id C
  have hK := hKX.1
  intro k0 v1 S H locs ls h hk0 hP hS hl
  rw [w_X2_hasPlace] at h
  refine lv_iload_n hx hb dX2_hasPlace_0 rfl (lv_at hl 1 rfl) ?_
  refine lv_iconst (v := 0) hx hb dX2_hasPlace_1 (by decide) ?_
  refine lv_aload_n hx hb dX2_hasPlace_2 rfl (lv_at hl 0 rfl) ?_
  refine g_get (v := .int (S.1 k0 3)) hx hb hts inG_X2 hown hK hP (kX_lt hk0) (eX2 hk0) rfl 3 (by decide) G_fl_X2_26 rfl rfl dX2_hasPlace_3 ?_
  refine lv_iconst (v := 1) hx hb dX2_hasPlace_6 (by decide) ?_
  refine lv_isub hx hb dX2_hasPlace_7 ?_
  replace h := h _ rfl
  refine va_calli (va_runSN (As := [.int _, .int _, .int _]) (rest := []) ⟨hx, hb, hml, hown, hts⟩ (c_X8_isWithin l hI h) ⟨va_cnB 3 hts (good_W G_cd_X8_isWithin) rfl rfl rfl (kx_n19 hKX) (hts _ G_in_X8) hd_X8_isWithin ⟨Nat.le_of_ble_eq_true rfl, Nat.le_of_ble_eq_true rfl⟩, hts _ G_st_X8_isWithin, trivial⟩ (preS_X hKX hP hS) rfl rfl hl.1 rfl (lv_room (Nat.le_of_ble_eq_true rfl)) dX2_hasPlace_8 ⟨Nat.le_of_ble_eq_true rfl, Nat.le_of_ble_eq_true rfl⟩) hS (fun _ _ h => h) (fun _ h => h) (fun r3 S2 t H locs ht _ h hB _ _ hS => ?_)
  have hP : VX dC dI cA P S2 H := by rw [← ht]; exact hB
  exact g_zret hx hb hr hlocks h.1 h.2 hP hS dX2_hasPlace_11
set_option maxRecDepth 100000 in
set_option maxHeartbeats 4000000 in
theorem c_X2_hasPlace (l : Launch) {dC : Nat → ClassId} {dI : Nat → Nat → Nat} {cA : Nat → ClassId} {adK adV P : Nat → Nat} (hI : PInj 56 P) {k0 : Nat} {v1 : Int32} (hk0 : kdX k0 = 2) {post : Int32 → St → Prop} {S : St} (h : w_X2_hasPlace k0 v1 post S) : Met l yX2_hasPlace (wW yX2_hasPlace cX2_hasPlace 2 (some .boolean)) ({ frames := 1, cells := 0, slots := 0, locals := 22 } : Room) (va_Pc [.ref (P k0), .int v1] (PreX dC dI cA adK adV P S)) (va_Qi post (fun u t => VX dC dI cA P u t.heap) (PA 56 P)) 0 0 (PA 56 P) := by
  refine Met.ofW (cc := cX2_hasPlace) (maxL := 2) (ret := (some .boolean)) (by decide) rfl ?_
  intro p e s m args below meth c s₁ B hml hv
  obtain ⟨rfl, hP, hKX⟩ := hv
  have hts : ∀ w ∈ G, w.before [.ref (P k0), .int v1].toArray s = true := fun w hw => atoms_spec (ws := wW yX2_hasPlace cX2_hasPlace 2 (some .boolean)) B.pre w (List.mem_cons_of_mem _ hw)
  have C : CtxX dC dI cA adK adV P p s m [.ref (P k0), .int v1].toArray meth c cX2_hasPlace 2 (some .boolean) RX2 := ⟨hI, hKX, ⟨B.exec, B.bytes, hml, findClass_of_methodNamed B.named, hts⟩, B.returns, B.notSynchronized⟩
  have hS : va_S (PA 56 P) s.heap s.heap [] := va_S.rf
  have hl := lv_entry ([.ref (P k0), .int v1]) (n := 2) (Nat.le_of_ble_eq_true rfl)
  rw [lg_entry_eq]
  generalize (lg_sl ([.ref (P k0), .int v1]) ++ List.replicate (2 - (lg_sl ([.ref (P k0), .int v1])).length) Slot.unset).toArray = ls at hl ⊢
  have hl : lv_has ls 2 [(0, .ref (P k0)), (1, .int v1)] := hl
  exact e_X2_hasPlace C _ _ _ _ _ _ h hk0 hP hS hl
set_option maxRecDepth 100000 in
set_option maxHeartbeats 4000000 in
theorem b_X2_firstUnlike_8 {p : Program} {l : Launch} {e : Env} {s : State} {m : MethodId} {args : Array Value} {below : List Frame} {meth : Method} {c : Code} {dC : Nat → ClassId} {dI : Nat → Nat → Nat} {cA : Nat → ClassId} {adK adV P : Nat → Nat} (C : CtxX dC dI cA adK adV P p s m args meth c cX2_firstUnlike 4 (some .int) RX2) {post : Int32 → St → Prop}  : ∀ (n : Nat) (k0 : Nat) (k1 : Nat) (v2 : Int32) (v3 : Int32) (S : St) (H : Heap) (locs : List Loc) (ls : Array Slot), w_X2_firstUnlike_8 post n k0 k1 v2 v3 S → kdX k0 = 2 → kdX k1 = 1 → VX dC dI cA P S H → va_S (PA 56 P) s.heap H locs → lv_has ls 4 [(0, .ref (P k0)), (1, .ref (P k1)), (2, .int v2), (3, .int v3)] → W p l e ({ frames := 2, cells := 0, slots := 0, locals := 45 } : Room) s m args below meth c H locs 0 0 (MQ below (va_Qi post (fun u t => VX dC dI cA P u t.heap) (PA 56 P)) args s 0 0 (PA 56 P)) (F0 m 8 ls []) := by
  have C := C
  obtain ⟨hI, hKX, ⟨hx, hb, hml, hown, hts⟩, hr, hlocks⟩ := id C
  have hK := hKX.1
  intro n
  induction n with
  | zero =>
    intro k0 k1 v2 v3 S H locs ls h hk0 hk1 hP hS hl
    simp only [w_X2_firstUnlike_8] at h
  | succ n ih =>
    intro k0 k1 v2 v3 S H locs ls h hk0 hk1 hP hS hl
    rw [w_X2_firstUnlike_8] at h
    refine lv_iload_n hx hb dX2_firstUnlike_8 rfl (lv_at hl 3 rfl) ?_
    refine lv_aload_n hx hb dX2_firstUnlike_9 rfl (lv_at hl 0 rfl) ?_
    refine g_get (v := .int (S.1 k0 3)) hx hb hts inG_X2 hown hK hP (kX_lt hk0) (eX2 hk0) rfl 3 (by decide) G_fl_X2_26 rfl rfl dX2_firstUnlike_10 ?_
    refine lv_icmp_ge (tgt := 46) hx hb dX2_firstUnlike_13 (by decide) (fun c3 => ?_) (fun c3 => ?_)
    · replace h := h.1 c3
      refine lv_bipush (v := (-2)) hx hb dX2_firstUnlike_46 (by decide) ?_
      exact g_iret hx hb hr hlocks h hP hS dX2_firstUnlike_48
    · replace h := h.2 c3
      refine lv_aload_n hx hb dX2_firstUnlike_16 rfl (lv_at hl 0 rfl) ?_
      refine g_get (v := .ref (P (k0 + 2))) hx hb hts inG_X2 hown hK hP (kX_lt hk0) (eX2 hk0) rfl 2 (by decide) G_fl_X2_22 rfl rfl dX2_firstUnlike_17 ?_
      refine lv_iload_n hx hb dX2_firstUnlike_20 rfl (lv_at hl 3 rfl) ?_
      refine va_calli (va_runSN (As := [.ref _, .int _]) (rest := []) ⟨hx, hb, hml, hown, hts⟩ (c_X8_valueAt l hI (kd2_2 hk0) h) ⟨va_cnB 2 hts (good_W G_cd_X8_valueAt) rfl rfl rfl (kx_n20 hKX) (hts _ G_in_X8) hd_X8_valueAt ⟨Nat.le_of_ble_eq_true rfl, Nat.le_of_ble_eq_true rfl⟩, hts _ G_st_X8_valueAt, trivial⟩ (preS_X hKX hP hS) rfl rfl hl.1 rfl (lv_room (Nat.le_of_ble_eq_true rfl)) dX2_firstUnlike_21 ⟨Nat.le_of_ble_eq_true rfl, Nat.le_of_ble_eq_true rfl⟩) hS (fun _ _ h => h) (fun _ h => h) (fun r5 S4 t H locs ht _ h hB _ _ hS => ?_)
      have hP : VX dC dI cA P S4 H := by rw [← ht]; exact hB
      refine lv_aload_n hx hb dX2_firstUnlike_24 rfl (lv_at hl 1 rfl) ?_
      refine lv_iload_n hx hb dX2_firstUnlike_25 rfl (lv_at hl 2 rfl) ?_
      refine va_calli (va_runV (As := [.int _]) (rest := [.int _]) ⟨hx, hb, hml, hown, hts⟩ (c_X1_digitOf l hI hk1 h) (cwV 1 hts gv_X2_49 rfl rfl rfl hv_X1_digitOf ⟨Nat.le_of_ble_eq_true rfl, Nat.le_of_ble_eq_true rfl⟩) (preV_X hKX hP hS (kX_lt hk1) (eX1 hk1) rfl) rfl rfl hl.1 rfl (lv_room (Nat.le_of_ble_eq_true rfl)) dX2_firstUnlike_26 ⟨Nat.le_of_ble_eq_true rfl, Nat.le_of_ble_eq_true rfl⟩) hS (fun _ _ h => h) (fun _ h => h) (fun r7 S6 t H locs ht _ h hB _ _ hS => ?_)
      have hP : VX dC dI cA P S6 H := by rw [← ht]; exact hB
      refine lv_icmp_eq (tgt := 34) hx hb dX2_firstUnlike_29 (by decide) (fun c8 => ?_) (fun c8 => ?_)
      · replace h := h.1 c8
        refine lv_aload_n hx hb dX2_firstUnlike_34 rfl (lv_at hl 1 rfl) ?_
        refine lv_iload_n hx hb dX2_firstUnlike_35 rfl (lv_at hl 2 rfl) ?_
        refine va_calli (va_runV (As := [.int _]) (rest := []) ⟨hx, hb, hml, hown, hts⟩ (c_X1_restAfter l hI hk1 h) (cwV 1 hts gv_X2_52 rfl rfl rfl hv_X1_restAfter ⟨Nat.le_of_ble_eq_true rfl, Nat.le_of_ble_eq_true rfl⟩) (preV_X hKX hP hS (kX_lt hk1) (eX1 hk1) rfl) rfl rfl hl.1 rfl (lv_room (Nat.le_of_ble_eq_true rfl)) dX2_firstUnlike_36 ⟨Nat.le_of_ble_eq_true rfl, Nat.le_of_ble_eq_true rfl⟩) hS (fun _ _ h => h) (fun _ h => h) (fun r10 S9 t H locs ht _ h hB _ _ hS => ?_)
        have hP : VX dC dI cA P S9 H := by rw [← ht]; exact hB
        refine lv_istore_n (lv' := [(2, .int r10), (0, .ref (P k0)), (1, .ref (P k1)), (3, .int v3)]) hx hb dX2_firstUnlike_39 rfl hl (by decide) rfl (fun ls hl => ?_)
        obtain ⟨x11, ex11⟩ : ∃ y : Int32, y = v3 + 1 := ⟨_, rfl⟩
        replace h := h x11 ex11
        refine lv_iinc (v := x11) (lv' := [(3, .int x11), (2, .int r10), (0, .ref (P k0)), (1, .ref (P k1))]) hx hb dX2_firstUnlike_40 hl (k := 3) rfl (by rw [ex11]; rfl) (by decide) rfl (fun ls hl => ?_)
        refine lv_goto (tgt := 8) hx hb dX2_firstUnlike_43 (by decide) ?_
        exact ih _ _ _ _ _ _ _ _ h hk0 hk1 hP hS (lv_sub hl [2, 3, 1, 0] rfl)
      · replace h := h.2 c8
        refine lv_iload_n hx hb dX2_firstUnlike_32 rfl (lv_at hl 3 rfl) ?_
        exact g_iret hx hb hr hlocks h hP hS dX2_firstUnlike_33
set_option maxRecDepth 100000 in
set_option maxHeartbeats 4000000 in
theorem e_X2_firstUnlike {p : Program} {l : Launch} {e : Env} {s : State} {m : MethodId} {args : Array Value} {below : List Frame} {meth : Method} {c : Code} {dC : Nat → ClassId} {dI : Nat → Nat → Nat} {cA : Nat → ClassId} {adK adV P : Nat → Nat} (C : CtxX dC dI cA adK adV P p s m args meth c cX2_firstUnlike 4 (some .int) RX2) {post : Int32 → St → Prop} : ∀ (k0 : Nat) (k1 : Nat) (S : St) (H : Heap) (locs : List Loc) (ls : Array Slot), w_X2_firstUnlike k0 k1 post S → kdX k0 = 2 → kdX k1 = 1 → VX dC dI cA P S H → va_S (PA 56 P) s.heap H locs → lv_has ls 4 [(0, .ref (P k0)), (1, .ref (P k1))] → W p l e ({ frames := 2, cells := 0, slots := 0, locals := 45 } : Room) s m args below meth c H locs 0 0 (MQ below (va_Qi post (fun u t => VX dC dI cA P u t.heap) (PA 56 P)) args s 0 0 (PA 56 P)) (F0 m 0 ls []) := by
  have C := C
  obtain ⟨hI, hKX, ⟨hx, hb, hml, hown, hts⟩, hr, hlocks⟩ := id C
  have hK := hKX.1
  intro k0 k1 S H locs ls h hk0 hk1 hP hS hl
  rw [w_X2_firstUnlike] at h
  refine lv_aload_n hx hb dX2_firstUnlike_0 rfl (lv_at hl 1 rfl) ?_
  refine lv_iconst (v := 0) hx hb dX2_firstUnlike_1 (by decide) ?_
  refine va_calli (va_runV (As := [.int _]) (rest := []) ⟨hx, hb, hml, hown, hts⟩ (c_X1_restAt l hI hk1 h) (cwV 1 hts gv_X2_41 rfl rfl rfl hv_X1_restAt ⟨Nat.le_of_ble_eq_true rfl, Nat.le_of_ble_eq_true rfl⟩) (preV_X hKX hP hS (kX_lt hk1) (eX1 hk1) rfl) rfl rfl hl.1 rfl (lv_room (Nat.le_of_ble_eq_true rfl)) dX2_firstUnlike_2 ⟨Nat.le_of_ble_eq_true rfl, Nat.le_of_ble_eq_true rfl⟩) hS (fun _ _ h => h) (fun _ h => h) (fun r2 S1 t H locs ht _ h hB _ _ hS => ?_)
  have hP : VX dC dI cA P S1 H := by rw [← ht]; exact hB
  refine lv_istore_n (lv' := [(2, .int r2), (0, .ref (P k0)), (1, .ref (P k1))]) hx hb dX2_firstUnlike_5 rfl hl (by decide) rfl (fun ls hl => ?_)
  refine lv_iconst (v := 0) hx hb dX2_firstUnlike_6 (by decide) ?_
  refine lv_istore_n (lv' := [(3, .int 0), (2, .int r2), (0, .ref (P k0)), (1, .ref (P k1))]) hx hb dX2_firstUnlike_7 rfl hl (by decide) rfl (fun ls hl => ?_)
  obtain ⟨n12, h⟩ := h
  exact b_X2_firstUnlike_8 C n12 _ _ _ _ _ _ _ _ h hk0 hk1 hP hS (lv_sub hl [2, 3, 1, 0] rfl)
set_option maxRecDepth 100000 in
set_option maxHeartbeats 4000000 in
theorem c_X2_firstUnlike (l : Launch) {dC : Nat → ClassId} {dI : Nat → Nat → Nat} {cA : Nat → ClassId} {adK adV P : Nat → Nat} (hI : PInj 56 P) {k0 : Nat} {k1 : Nat} (hk0 : kdX k0 = 2) (hk1 : kdX k1 = 1) {post : Int32 → St → Prop} {S : St} (h : w_X2_firstUnlike k0 k1 post S) : Met l yX2_firstUnlike (wW yX2_firstUnlike cX2_firstUnlike 4 (some .int)) ({ frames := 2, cells := 0, slots := 0, locals := 45 } : Room) (va_Pc [.ref (P k0), .ref (P k1)] (PreX dC dI cA adK adV P S)) (va_Qi post (fun u t => VX dC dI cA P u t.heap) (PA 56 P)) 0 0 (PA 56 P) := by
  refine Met.ofW (cc := cX2_firstUnlike) (maxL := 4) (ret := (some .int)) (by decide) rfl ?_
  intro p e s m args below meth c s₁ B hml hv
  obtain ⟨rfl, hP, hKX⟩ := hv
  have hts : ∀ w ∈ G, w.before [.ref (P k0), .ref (P k1)].toArray s = true := fun w hw => atoms_spec (ws := wW yX2_firstUnlike cX2_firstUnlike 4 (some .int)) B.pre w (List.mem_cons_of_mem _ hw)
  have C : CtxX dC dI cA adK adV P p s m [.ref (P k0), .ref (P k1)].toArray meth c cX2_firstUnlike 4 (some .int) RX2 := ⟨hI, hKX, ⟨B.exec, B.bytes, hml, findClass_of_methodNamed B.named, hts⟩, B.returns, B.notSynchronized⟩
  have hS : va_S (PA 56 P) s.heap s.heap [] := va_S.rf
  have hl := lv_entry ([.ref (P k0), .ref (P k1)]) (n := 4) (Nat.le_of_ble_eq_true rfl)
  rw [lg_entry_eq]
  generalize (lg_sl ([.ref (P k0), .ref (P k1)]) ++ List.replicate (4 - (lg_sl ([.ref (P k0), .ref (P k1)])).length) Slot.unset).toArray = ls at hl ⊢
  have hl : lv_has ls 4 [(0, .ref (P k0)), (1, .ref (P k1))] := hl
  exact e_X2_firstUnlike C _ _ _ _ _ _ h hk0 hk1 hP hS hl
set_option maxRecDepth 100000 in
set_option maxHeartbeats 4000000 in
theorem e_X7_digitOn {p : Program} {l : Launch} {e : Env} {s : State} {m : MethodId} {args : Array Value} {below : List Frame} {meth : Method} {c : Code} {dC : Nat → ClassId} {dI : Nat → Nat → Nat} {cA : Nat → ClassId} {adK adV P : Nat → Nat} (C : CtxX dC dI cA adK adV P p s m args meth c cX7_digitOn 3 (some .int) RX7) {post : Int32 → St → Prop} : ∀ (v1 : Int32) (S : St) (H : Heap) (locs : List Loc) (ls : Array Slot), w_X7_digitOn v1 post S → VX dC dI cA P S H → va_S (PA 56 P) s.heap H locs → lv_has ls 3 [(0, .ref (P 27)), (1, .int v1)] → W p l e ({ frames := 2, cells := 0, slots := 0, locals := 42 } : Room) s m args below meth c H locs 0 0 (MQ below (va_Qi post (fun u t => VX dC dI cA P u t.heap) (PA 56 P)) args s 0 0 (PA 56 P)) (F0 m 0 ls []) := by
  have C := C
  obtain ⟨hI, hKX, ⟨hx, hb, hml, hown, hts⟩, hr, hlocks⟩ := id C
  have hK := hKX.1
  intro v1 S H locs ls h hP hS hl
  rw [w_X7_digitOn] at h
  refine lv_aload_n hx hb dX7_digitOn_0 rfl (lv_at hl 0 rfl) ?_
  refine lv_iload_n hx hb dX7_digitOn_1 rfl (lv_at hl 1 rfl) ?_
  refine va_calli (va_runV (As := [.int _]) (rest := []) ⟨hx, hb, hml, hown, hts⟩ (c_X7_byteAt l hI h) (cwV 1 hts gv_X7_39 rfl rfl rfl hv_X7_byteAt ⟨Nat.le_of_ble_eq_true rfl, Nat.le_of_ble_eq_true rfl⟩) (preV_X hKX hP hS (kX_lt (rfl : kdX 27 = 7)) (eX7 (rfl : kdX 27 = 7)) rfl) rfl rfl hl.1 rfl (lv_room (Nat.le_of_ble_eq_true rfl)) dX7_digitOn_2 ⟨Nat.le_of_ble_eq_true rfl, Nat.le_of_ble_eq_true rfl⟩) hS (fun _ _ h => h) (fun _ h => h) (fun r2 S1 t H locs ht _ h hB _ _ hS => ?_)
  have hP : VX dC dI cA P S1 H := by rw [← ht]; exact hB
  refine lv_istore_n (lv' := [(2, .int r2), (0, .ref (P 27)), (1, .int v1)]) hx hb dX7_digitOn_5 rfl hl (by decide) rfl (fun ls hl => ?_)
  refine lv_iload_n hx hb dX7_digitOn_6 rfl (lv_at hl 0 rfl) ?_
  refine lv_bipush (v := 48) hx hb dX7_digitOn_7 (by decide) ?_
  refine lv_bipush (v := 57) hx hb dX7_digitOn_9 (by decide) ?_
  refine va_calli (va_runSN (As := [.int _, .int _, .int _]) (rest := []) ⟨hx, hb, hml, hown, hts⟩ (c_X8_isWithin l hI h) ⟨va_cnB 3 hts (good_W G_cd_X8_isWithin) rfl rfl rfl (kx_n14 hKX) (hts _ G_in_X8) hd_X8_isWithin ⟨Nat.le_of_ble_eq_true rfl, Nat.le_of_ble_eq_true rfl⟩, hts _ G_st_X8_isWithin, trivial⟩ (preS_X hKX hP hS) rfl rfl hl.1 rfl (lv_room (Nat.le_of_ble_eq_true rfl)) dX7_digitOn_11 ⟨Nat.le_of_ble_eq_true rfl, Nat.le_of_ble_eq_true rfl⟩) hS (fun _ _ h => h) (fun _ h => h) (fun r4 S3 t H locs ht _ h hB _ _ hS => ?_)
  have hP : VX dC dI cA P S3 H := by rw [← ht]; exact hB
  refine lv_if_eq (tgt := 22) hx hb dX7_digitOn_14 (by decide) (fun c5 => ?_) (fun c5 => ?_)
  · replace h := h.1 c5
    refine lv_iload_n hx hb dX7_digitOn_22 rfl (lv_at hl 0 rfl) ?_
    refine lv_bipush (v := 97) hx hb dX7_digitOn_23 (by decide) ?_
    refine lv_bipush (v := 102) hx hb dX7_digitOn_25 (by decide) ?_
    refine va_calli (va_runSN (As := [.int _, .int _, .int _]) (rest := []) ⟨hx, hb, hml, hown, hts⟩ (c_X8_isWithin l hI h) ⟨va_cnB 3 hts (good_W G_cd_X8_isWithin) rfl rfl rfl (kx_n14 hKX) (hts _ G_in_X8) hd_X8_isWithin ⟨Nat.le_of_ble_eq_true rfl, Nat.le_of_ble_eq_true rfl⟩, hts _ G_st_X8_isWithin, trivial⟩ (preS_X hKX hP hS) rfl rfl hl.1 rfl (lv_room (Nat.le_of_ble_eq_true rfl)) dX7_digitOn_27 ⟨Nat.le_of_ble_eq_true rfl, Nat.le_of_ble_eq_true rfl⟩) hS (fun _ _ h => h) (fun _ h => h) (fun r7 S6 t H locs ht _ h hB _ _ hS => ?_)
    have hP : VX dC dI cA P S6 H := by rw [← ht]; exact hB
    refine lv_if_eq (tgt := 43) hx hb dX7_digitOn_30 (by decide) (fun c8 => ?_) (fun c8 => ?_)
    · replace h := h.1 c8
      refine lv_iconst (v := (-1)) hx hb dX7_digitOn_43 (by decide) ?_
      exact g_iret hx hb hr hlocks h hP hS dX7_digitOn_44
    · replace h := h.2 c8
      refine lv_iload_n hx hb dX7_digitOn_33 rfl (lv_at hl 0 rfl) ?_
      refine lv_bipush (v := 97) hx hb dX7_digitOn_34 (by decide) ?_
      refine lv_isub hx hb dX7_digitOn_36 ?_
      refine lv_bipush (v := 10) hx hb dX7_digitOn_37 (by decide) ?_
      refine lv_iadd hx hb dX7_digitOn_39 ?_
      refine lv_goto (tgt := 44) hx hb dX7_digitOn_40 (by decide) ?_
      exact g_iret hx hb hr hlocks h hP hS dX7_digitOn_44
  · replace h := h.2 c5
    refine lv_iload_n hx hb dX7_digitOn_17 rfl (lv_at hl 0 rfl) ?_
    refine lv_bipush (v := 48) hx hb dX7_digitOn_18 (by decide) ?_
    refine lv_isub hx hb dX7_digitOn_20 ?_
    exact g_iret hx hb hr hlocks h hP hS dX7_digitOn_21
set_option maxRecDepth 100000 in
set_option maxHeartbeats 4000000 in
theorem c_X7_digitOn (l : Launch) {dC : Nat → ClassId} {dI : Nat → Nat → Nat} {cA : Nat → ClassId} {adK adV P : Nat → Nat} (hI : PInj 56 P) {v1 : Int32}  {post : Int32 → St → Prop} {S : St} (h : w_X7_digitOn v1 post S) : Met l yX7_digitOn (wW yX7_digitOn cX7_digitOn 3 (some .int)) ({ frames := 2, cells := 0, slots := 0, locals := 42 } : Room) (va_Pc [.ref (P 27), .int v1] (PreX dC dI cA adK adV P S)) (va_Qi post (fun u t => VX dC dI cA P u t.heap) (PA 56 P)) 0 0 (PA 56 P) := by
  refine Met.ofW (cc := cX7_digitOn) (maxL := 3) (ret := (some .int)) (by decide) rfl ?_
  intro p e s m args below meth c s₁ B hml hv
  obtain ⟨rfl, hP, hKX⟩ := hv
  have hts : ∀ w ∈ G, w.before [.ref (P 27), .int v1].toArray s = true := fun w hw => atoms_spec (ws := wW yX7_digitOn cX7_digitOn 3 (some .int)) B.pre w (List.mem_cons_of_mem _ hw)
  have C : CtxX dC dI cA adK adV P p s m [.ref (P 27), .int v1].toArray meth c cX7_digitOn 3 (some .int) RX7 := ⟨hI, hKX, ⟨B.exec, B.bytes, hml, findClass_of_methodNamed B.named, hts⟩, B.returns, B.notSynchronized⟩
  have hS : va_S (PA 56 P) s.heap s.heap [] := va_S.rf
  have hl := lv_entry ([.ref (P 27), .int v1]) (n := 3) (Nat.le_of_ble_eq_true rfl)
  rw [lg_entry_eq]
  generalize (lg_sl ([.ref (P 27), .int v1]) ++ List.replicate (3 - (lg_sl ([.ref (P 27), .int v1])).length) Slot.unset).toArray = ls at hl ⊢
  have hl : lv_has ls 3 [(0, .ref (P 27)), (1, .int v1)] := hl
  exact e_X7_digitOn C _ _ _ _ _ h  hP hS hl
set_option maxRecDepth 100000 in
set_option maxHeartbeats 4000000 in
theorem b_X7_takeDigits_2 {p : Program} {l : Launch} {e : Env} {s : State} {m : MethodId} {args : Array Value} {below : List Frame} {meth : Method} {c : Code} {dC : Nat → ClassId} {dI : Nat → Nat → Nat} {cA : Nat → ClassId} {adK adV P : Nat → Nat} (C : CtxX dC dI cA adK adV P p s m args meth c cX7_takeDigits 3 (some .int) RX7) {post : Int32 → St → Prop}  : ∀ (n : Nat) (v1 : Int32) (v2 : Int32) (S : St) (H : Heap) (locs : List Loc) (ls : Array Slot), w_X7_takeDigits_2 post n v1 v2 S → VX dC dI cA P S H → va_S (PA 56 P) s.heap H locs → lv_has ls 3 [(0, .ref (P 27)), (1, .int v1), (2, .int v2)] → W p l e ({ frames := 3, cells := 0, slots := 0, locals := 64 } : Room) s m args below meth c H locs 0 0 (MQ below (va_Qi post (fun u t => VX dC dI cA P u t.heap) (PA 56 P)) args s 0 0 (PA 56 P)) (F0 m 2 ls []) := by
  have C := C
  obtain ⟨hI, hKX, ⟨hx, hb, hml, hown, hts⟩, hr, hlocks⟩ := id C
  have hK := hKX.1
  intro n
  induction n with
  | zero =>
    intro v1 v2 S H locs ls h hP hS hl
    simp only [w_X7_takeDigits_2] at h
  | succ n ih =>
    intro v1 v2 S H locs ls h hP hS hl
    rw [w_X7_takeDigits_2] at h
    refine lv_iload_n hx hb dX7_takeDigits_2 rfl (lv_at hl 2 rfl) ?_
    refine lv_iconst (v := 4) hx hb dX7_takeDigits_3 (by decide) ?_
    refine lv_icmp_ge (tgt := 62) hx hb dX7_takeDigits_4 (by decide) (fun c1 => ?_) (fun c1 => ?_)
    · replace h := h.1 c1
      refine lv_iload_n hx hb dX7_takeDigits_62 rfl (lv_at hl 2 rfl) ?_
      exact g_iret hx hb hr hlocks h hP hS dX7_takeDigits_63
    · replace h := h.2 c1
      refine lv_aload_n hx hb dX7_takeDigits_7 rfl (lv_at hl 0 rfl) ?_
      refine lv_aload_n hx hb dX7_takeDigits_8 rfl (lv_at hl 0 rfl) ?_
      refine g_get (v := .int (S.1 27 2)) hx hb hts inG_X7 hown hK hP (kX_lt (rfl : kdX 27 = 7)) (eX7 (rfl : kdX 27 = 7)) rfl 2 (by decide) G_fl_X7_19 rfl rfl dX7_takeDigits_9 ?_
      replace h := h _ rfl
      refine va_calli (va_runV (As := [.int _]) (rest := []) ⟨hx, hb, hml, hown, hts⟩ (c_X7_digitOn l hI h) (cwV 1 hts gv_X7_51 rfl rfl rfl hv_X7_digitOn ⟨Nat.le_of_ble_eq_true rfl, Nat.le_of_ble_eq_true rfl⟩) (preV_X hKX hP hS (kX_lt (rfl : kdX 27 = 7)) (eX7 (rfl : kdX 27 = 7)) rfl) rfl rfl hl.1 rfl (lv_room (Nat.le_of_ble_eq_true rfl)) dX7_takeDigits_12 ⟨Nat.le_of_ble_eq_true rfl, Nat.le_of_ble_eq_true rfl⟩) hS (fun _ _ h => h) (fun _ h => h) (fun r4 S3 t H locs ht _ h hB _ _ hS => ?_)
      have hP : VX dC dI cA P S3 H := by rw [← ht]; exact hB
      refine lv_iconst (v := 0) hx hb dX7_takeDigits_15 (by decide) ?_
      refine lv_iload_n hx hb dX7_takeDigits_16 rfl (lv_at hl 1 rfl) ?_
      refine lv_iconst (v := 1) hx hb dX7_takeDigits_17 (by decide) ?_
      refine lv_isub hx hb dX7_takeDigits_18 ?_
      replace h := h _ rfl
      refine va_calli (va_runSN (As := [.int _, .int _, .int _]) (rest := []) ⟨hx, hb, hml, hown, hts⟩ (c_X8_isWithin l hI h) ⟨va_cnB 3 hts (good_W G_cd_X8_isWithin) rfl rfl rfl (kx_n14 hKX) (hts _ G_in_X8) hd_X8_isWithin ⟨Nat.le_of_ble_eq_true rfl, Nat.le_of_ble_eq_true rfl⟩, hts _ G_st_X8_isWithin, trivial⟩ (preS_X hKX hP hS) rfl rfl hl.1 rfl (lv_room (Nat.le_of_ble_eq_true rfl)) dX7_takeDigits_19 ⟨Nat.le_of_ble_eq_true rfl, Nat.le_of_ble_eq_true rfl⟩) hS (fun _ _ h => h) (fun _ h => h) (fun r7 S6 t H locs ht _ h hB _ _ hS => ?_)
      have hP : VX dC dI cA P S6 H := by rw [← ht]; exact hB
      refine lv_if_eq (tgt := 62) hx hb dX7_takeDigits_22 (by decide) (fun c8 => ?_) (fun c8 => ?_)
      · replace h := h.1 c8
        refine lv_iload_n hx hb dX7_takeDigits_62 rfl (lv_at hl 2 rfl) ?_
        exact g_iret hx hb hr hlocks h hP hS dX7_takeDigits_63
      · replace h := h.2 c8
        refine lv_aload_n hx hb dX7_takeDigits_25 rfl (lv_at hl 0 rfl) ?_
        refine lv_aload_n hx hb dX7_takeDigits_26 rfl (lv_at hl 0 rfl) ?_
        refine g_get (v := .long (S6.2 27 3)) hx hb hts inG_X7 hown hK hP (kX_lt (rfl : kdX 27 = 7)) (eX7 (rfl : kdX 27 = 7)) rfl 3 (by decide) G_fl_X7_22 rfl rfl dX7_takeDigits_27 ?_
        refine lv_iload_n hx hb dX7_takeDigits_30 rfl (lv_at hl 1 rfl) ?_
        refine lv_i2l hx hb dX7_takeDigits_31 rfl ?_
        refine lv_lmul hx hb dX7_takeDigits_32 ?_
        refine lv_aload_n hx hb dX7_takeDigits_33 rfl (lv_at hl 0 rfl) ?_
        refine lv_aload_n hx hb dX7_takeDigits_34 rfl (lv_at hl 0 rfl) ?_
        refine g_get (v := .int (S6.1 27 2)) hx hb hts inG_X7 hown hK hP (kX_lt (rfl : kdX 27 = 7)) (eX7 (rfl : kdX 27 = 7)) rfl 2 (by decide) G_fl_X7_19 rfl rfl dX7_takeDigits_35 ?_
        replace h := h _ rfl
        refine va_calli (va_runV (As := [.int _]) (rest := [.long _, .ref _]) ⟨hx, hb, hml, hown, hts⟩ (c_X7_digitOn l hI h) (cwV 1 hts gv_X7_51 rfl rfl rfl hv_X7_digitOn ⟨Nat.le_of_ble_eq_true rfl, Nat.le_of_ble_eq_true rfl⟩) (preV_X hKX hP hS (kX_lt (rfl : kdX 27 = 7)) (eX7 (rfl : kdX 27 = 7)) rfl) rfl rfl hl.1 rfl (lv_room (Nat.le_of_ble_eq_true rfl)) dX7_takeDigits_38 ⟨Nat.le_of_ble_eq_true rfl, Nat.le_of_ble_eq_true rfl⟩) hS (fun _ _ h => h) (fun _ h => h) (fun r11 S10 t H locs ht _ h hB _ _ hS => ?_)
        have hP : VX dC dI cA P S10 H := by rw [← ht]; exact hB
        refine lv_i2l hx hb dX7_takeDigits_41 rfl ?_
        refine lv_ladd hx hb dX7_takeDigits_42 ?_
        replace h := h _ rfl
        refine g_putL hx hb hts inG_X7 tyX7 tyX7_ok nmX7 hown hK hI hP hS (kX_lt (rfl : kdX 27 = 7)) (eX7 (rfl : kdX 27 = 7)) rfl 3 (by decide) G_fl_X7_22 rfl rfl (ty := .long) (by decide +kernel) rfl rfl (Nat.le_of_ble_eq_true rfl) rfl h dX7_takeDigits_43 (fun S13 H locs h hP hS => ?_)
        refine lv_aload_n hx hb dX7_takeDigits_46 rfl (lv_at hl 0 rfl) ?_
        refine lv_dup hx hb dX7_takeDigits_47 rfl ?_
        refine g_get (v := .int (S13.1 27 2)) hx hb hts inG_X7 hown hK hP (kX_lt (rfl : kdX 27 = 7)) (eX7 (rfl : kdX 27 = 7)) rfl 2 (by decide) G_fl_X7_19 rfl rfl dX7_takeDigits_48 ?_
        refine lv_iconst (v := 1) hx hb dX7_takeDigits_51 (by decide) ?_
        refine lv_iadd hx hb dX7_takeDigits_52 ?_
        replace h := h _ rfl
        refine g_putI hx hb hts inG_X7 tyX7 tyX7_ok nmX7 hown hK hI hP hS (kX_lt (rfl : kdX 27 = 7)) (eX7 (rfl : kdX 27 = 7)) rfl 2 (by decide) G_fl_X7_19 rfl rfl (ty := .int) (by decide +kernel) rfl rfl (Nat.le_of_ble_eq_true rfl) rfl h dX7_takeDigits_53 (fun S15 H locs h hP hS => ?_)
        obtain ⟨x16, ex16⟩ : ∃ y : Int32, y = v2 + 1 := ⟨_, rfl⟩
        replace h := h x16 ex16
        refine lv_iinc (v := x16) (lv' := [(2, .int x16), (0, .ref (P 27)), (1, .int v1)]) hx hb dX7_takeDigits_56 hl (k := 2) rfl (by rw [ex16]; rfl) (by decide) rfl (fun ls hl => ?_)
        refine lv_goto (tgt := 2) hx hb dX7_takeDigits_59 (by decide) ?_
        exact ih _ _ _ _ _ _ h  hP hS (lv_sub hl [1, 2, 0] rfl)
set_option maxRecDepth 100000 in
set_option maxHeartbeats 4000000 in
theorem e_X7_takeDigits {p : Program} {l : Launch} {e : Env} {s : State} {m : MethodId} {args : Array Value} {below : List Frame} {meth : Method} {c : Code} {dC : Nat → ClassId} {dI : Nat → Nat → Nat} {cA : Nat → ClassId} {adK adV P : Nat → Nat} (C : CtxX dC dI cA adK adV P p s m args meth c cX7_takeDigits 3 (some .int) RX7) {post : Int32 → St → Prop} : ∀ (v1 : Int32) (S : St) (H : Heap) (locs : List Loc) (ls : Array Slot), w_X7_takeDigits v1 post S → VX dC dI cA P S H → va_S (PA 56 P) s.heap H locs → lv_has ls 3 [(0, .ref (P 27)), (1, .int v1)] → W p l e ({ frames := 3, cells := 0, slots := 0, locals := 64 } : Room) s m args below meth c H locs 0 0 (MQ below (va_Qi post (fun u t => VX dC dI cA P u t.heap) (PA 56 P)) args s 0 0 (PA 56 P)) (F0 m 0 ls []) := by
  have C := C
  obtain ⟨hI, hKX, ⟨hx, hb, hml, hown, hts⟩, hr, hlocks⟩ := id C
  have hK := hKX.1
  intro v1 S H locs ls h hP hS hl
  rw [w_X7_takeDigits] at h
  refine lv_iconst (v := 0) hx hb dX7_takeDigits_0 (by decide) ?_
  refine lv_istore_n (lv' := [(2, .int 0), (0, .ref (P 27)), (1, .int v1)]) hx hb dX7_takeDigits_1 rfl hl (by decide) rfl (fun ls hl => ?_)
  obtain ⟨n17, h⟩ := h
  exact b_X7_takeDigits_2 C n17 _ _ _ _ _ _ h  hP hS (lv_sub hl [1, 2, 0] rfl)
set_option maxRecDepth 100000 in
set_option maxHeartbeats 4000000 in
theorem c_X7_takeDigits (l : Launch) {dC : Nat → ClassId} {dI : Nat → Nat → Nat} {cA : Nat → ClassId} {adK adV P : Nat → Nat} (hI : PInj 56 P) {v1 : Int32}  {post : Int32 → St → Prop} {S : St} (h : w_X7_takeDigits v1 post S) : Met l yX7_takeDigits (wW yX7_takeDigits cX7_takeDigits 3 (some .int)) ({ frames := 3, cells := 0, slots := 0, locals := 64 } : Room) (va_Pc [.ref (P 27), .int v1] (PreX dC dI cA adK adV P S)) (va_Qi post (fun u t => VX dC dI cA P u t.heap) (PA 56 P)) 0 0 (PA 56 P) := by
  refine Met.ofW (cc := cX7_takeDigits) (maxL := 3) (ret := (some .int)) (by decide) rfl ?_
  intro p e s m args below meth c s₁ B hml hv
  obtain ⟨rfl, hP, hKX⟩ := hv
  have hts : ∀ w ∈ G, w.before [.ref (P 27), .int v1].toArray s = true := fun w hw => atoms_spec (ws := wW yX7_takeDigits cX7_takeDigits 3 (some .int)) B.pre w (List.mem_cons_of_mem _ hw)
  have C : CtxX dC dI cA adK adV P p s m [.ref (P 27), .int v1].toArray meth c cX7_takeDigits 3 (some .int) RX7 := ⟨hI, hKX, ⟨B.exec, B.bytes, hml, findClass_of_methodNamed B.named, hts⟩, B.returns, B.notSynchronized⟩
  have hS : va_S (PA 56 P) s.heap s.heap [] := va_S.rf
  have hl := lv_entry ([.ref (P 27), .int v1]) (n := 3) (Nat.le_of_ble_eq_true rfl)
  rw [lg_entry_eq]
  generalize (lg_sl ([.ref (P 27), .int v1]) ++ List.replicate (3 - (lg_sl ([.ref (P 27), .int v1])).length) Slot.unset).toArray = ls at hl ⊢
  have hl : lv_has ls 3 [(0, .ref (P 27)), (1, .int v1)] := hl
  exact e_X7_takeDigits C _ _ _ _ _ h  hP hS hl
set_option maxRecDepth 100000 in
set_option maxHeartbeats 4000000 in
theorem e_X7_takes {p : Program} {l : Launch} {e : Env} {s : State} {m : MethodId} {args : Array Value} {below : List Frame} {meth : Method} {c : Code} {dC : Nat → ClassId} {dI : Nat → Nat → Nat} {cA : Nat → ClassId} {adK adV P : Nat → Nat} (C : CtxX dC dI cA adK adV P p s m args meth c cX7_takes 2 (some .boolean) RX7) {post : Int32 → St → Prop} : ∀ (v1 : Int32) (S : St) (H : Heap) (locs : List Loc) (ls : Array Slot), w_X7_takes v1 post S → VX dC dI cA P S H → va_S (PA 56 P) s.heap H locs → lv_has ls 2 [(0, .ref (P 27)), (1, .int v1)] → W p l e ({ frames := 2, cells := 0, slots := 0, locals := 42 } : Room) s m args below meth c H locs 0 0 (MQ below (va_Qi post (fun u t => VX dC dI cA P u t.heap) (PA 56 P)) args s 0 0 (PA 56 P)) (F0 m 0 ls []) := by
  have C := C
  obtain ⟨hI, hKX, ⟨hx, hb, hml, hown, hts⟩, hr, hlocks⟩ := id C
  have hK := hKX.1
  intro v1 S H locs ls h hP hS hl
  rw [w_X7_takes] at h
  refine lv_aload_n hx hb dX7_takes_0 rfl (lv_at hl 0 rfl) ?_
  refine lv_aload_n hx hb dX7_takes_1 rfl (lv_at hl 0 rfl) ?_
  refine g_get (v := .int (S.1 27 2)) hx hb hts inG_X7 hown hK hP (kX_lt (rfl : kdX 27 = 7)) (eX7 (rfl : kdX 27 = 7)) rfl 2 (by decide) G_fl_X7_19 rfl rfl dX7_takes_2 ?_
  replace h := h _ rfl
  refine va_calli (va_runV (As := [.int _]) (rest := []) ⟨hx, hb, hml, hown, hts⟩ (c_X7_byteAt l hI h) (cwV 1 hts gv_X7_39 rfl rfl rfl hv_X7_byteAt ⟨Nat.le_of_ble_eq_true rfl, Nat.le_of_ble_eq_true rfl⟩) (preV_X hKX hP hS (kX_lt (rfl : kdX 27 = 7)) (eX7 (rfl : kdX 27 = 7)) rfl) rfl rfl hl.1 rfl (lv_room (Nat.le_of_ble_eq_true rfl)) dX7_takes_5 ⟨Nat.le_of_ble_eq_true rfl, Nat.le_of_ble_eq_true rfl⟩) hS (fun _ _ h => h) (fun _ h => h) (fun r3 S2 t H locs ht _ h hB _ _ hS => ?_)
  have hP : VX dC dI cA P S2 H := by rw [← ht]; exact hB
  refine lv_iload_n hx hb dX7_takes_8 rfl (lv_at hl 1 rfl) ?_
  refine lv_icmp_eq (tgt := 14) hx hb dX7_takes_9 (by decide) (fun c4 => ?_) (fun c4 => ?_)
  · replace h := h.1 c4
    refine lv_aload_n hx hb dX7_takes_14 rfl (lv_at hl 0 rfl) ?_
    refine lv_dup hx hb dX7_takes_15 rfl ?_
    refine g_get (v := .int (S2.1 27 2)) hx hb hts inG_X7 hown hK hP (kX_lt (rfl : kdX 27 = 7)) (eX7 (rfl : kdX 27 = 7)) rfl 2 (by decide) G_fl_X7_19 rfl rfl dX7_takes_16 ?_
    refine lv_iconst (v := 1) hx hb dX7_takes_19 (by decide) ?_
    refine lv_iadd hx hb dX7_takes_20 ?_
    replace h := h _ rfl
    refine g_putI hx hb hts inG_X7 tyX7 tyX7_ok nmX7 hown hK hI hP hS (kX_lt (rfl : kdX 27 = 7)) (eX7 (rfl : kdX 27 = 7)) rfl 2 (by decide) G_fl_X7_19 rfl rfl (ty := .int) (by decide +kernel) rfl rfl (Nat.le_of_ble_eq_true rfl) rfl h dX7_takes_21 (fun S6 H locs h hP hS => ?_)
    refine lv_iconst (v := 1) hx hb dX7_takes_24 (by decide) ?_
    exact g_zret hx hb hr hlocks bz_1 h hP hS dX7_takes_25
  · replace h := h.2 c4
    refine lv_iconst (v := 0) hx hb dX7_takes_12 (by decide) ?_
    exact g_zret hx hb hr hlocks bz_0 h hP hS dX7_takes_13
set_option maxRecDepth 100000 in
set_option maxHeartbeats 4000000 in
theorem c_X7_takes (l : Launch) {dC : Nat → ClassId} {dI : Nat → Nat → Nat} {cA : Nat → ClassId} {adK adV P : Nat → Nat} (hI : PInj 56 P) {v1 : Int32}  {post : Int32 → St → Prop} {S : St} (h : w_X7_takes v1 post S) : Met l yX7_takes (wW yX7_takes cX7_takes 2 (some .boolean)) ({ frames := 2, cells := 0, slots := 0, locals := 42 } : Room) (va_Pc [.ref (P 27), .int v1] (PreX dC dI cA adK adV P S)) (va_Qi post (fun u t => VX dC dI cA P u t.heap) (PA 56 P)) 0 0 (PA 56 P) := by
  refine Met.ofW (cc := cX7_takes) (maxL := 2) (ret := (some .boolean)) (by decide) rfl ?_
  intro p e s m args below meth c s₁ B hml hv
  obtain ⟨rfl, hP, hKX⟩ := hv
  have hts : ∀ w ∈ G, w.before [.ref (P 27), .int v1].toArray s = true := fun w hw => atoms_spec (ws := wW yX7_takes cX7_takes 2 (some .boolean)) B.pre w (List.mem_cons_of_mem _ hw)
  have C : CtxX dC dI cA adK adV P p s m [.ref (P 27), .int v1].toArray meth c cX7_takes 2 (some .boolean) RX7 := ⟨hI, hKX, ⟨B.exec, B.bytes, hml, findClass_of_methodNamed B.named, hts⟩, B.returns, B.notSynchronized⟩
  have hS : va_S (PA 56 P) s.heap s.heap [] := va_S.rf
  have hl := lv_entry ([.ref (P 27), .int v1]) (n := 2) (Nat.le_of_ble_eq_true rfl)
  rw [lg_entry_eq]
  generalize (lg_sl ([.ref (P 27), .int v1]) ++ List.replicate (2 - (lg_sl ([.ref (P 27), .int v1])).length) Slot.unset).toArray = ls at hl ⊢
  have hl : lv_has ls 2 [(0, .ref (P 27)), (1, .int v1)] := hl
  exact e_X7_takes C _ _ _ _ _ h  hP hS hl
set_option maxRecDepth 100000 in
set_option maxHeartbeats 4000000 in
theorem e_X3_takesPeriod {p : Program} {l : Launch} {e : Env} {s : State} {m : MethodId} {args : Array Value} {below : List Frame} {meth : Method} {c : Code} {dC : Nat → ClassId} {dI : Nat → Nat → Nat} {cA : Nat → ClassId} {adK adV P : Nat → Nat} (C : CtxX dC dI cA adK adV P p s m args meth c cX3_takesPeriod 6 (some .boolean) RX3) {post : Int32 → St → Prop} : ∀ (v2 : Int32) (S : St) (H : Heap) (locs : List Loc) (ls : Array Slot), w_X3_takesPeriod v2 post S → VX dC dI cA P S H → va_S (PA 56 P) s.heap H locs → lv_has ls 6 [(0, .ref (P 29)), (1, .ref (P 27)), (2, .int v2)] → W p l e ({ frames := 4, cells := 0, slots := 0, locals := 86 } : Room) s m args below meth c H locs 0 0 (MQ below (va_Qi post (fun u t => VX dC dI cA P u t.heap) (PA 56 P)) args s 0 0 (PA 56 P)) (F0 m 0 ls []) := by
  have C := C
  obtain ⟨hI, hKX, ⟨hx, hb, hml, hown, hts⟩, hr, hlocks⟩ := id C
  have hK := hKX.1
  intro v2 S H locs ls h hP hS hl
  rw [w_X3_takesPeriod] at h
  refine lv_aload_n hx hb dX3_takesPeriod_0 rfl (lv_at hl 1 rfl) ?_
  refine lv_lconst (v := 0) hx hb dX3_takesPeriod_1 (by decide) ?_
  refine g_putL hx hb hts inG_X7 tyX7 tyX7_ok nmX7 hown hK hI hP hS (kX_lt (rfl : kdX 27 = 7)) (eX7 (rfl : kdX 27 = 7)) rfl 3 (by decide) G_fl_X3_24 rfl rfl (ty := .long) (by decide +kernel) rfl rfl (Nat.le_of_ble_eq_true rfl) rfl h dX3_takesPeriod_2 (fun S1 H locs h hP hS => ?_)
  refine lv_aload_n hx hb dX3_takesPeriod_5 rfl (lv_at hl 1 rfl) ?_
  refine lv_iload_n hx hb dX3_takesPeriod_6 rfl (lv_at hl 2 rfl) ?_
  refine va_calli (va_runV (As := [.int _]) (rest := []) ⟨hx, hb, hml, hown, hts⟩ (c_X7_takeDigits l hI h) (cwV 1 hts gv_X3_27 rfl rfl rfl hv_X7_takeDigits ⟨Nat.le_of_ble_eq_true rfl, Nat.le_of_ble_eq_true rfl⟩) (preV_X hKX hP hS (kX_lt (rfl : kdX 27 = 7)) (eX7 (rfl : kdX 27 = 7)) rfl) rfl rfl hl.1 rfl (lv_room (Nat.le_of_ble_eq_true rfl)) dX3_takesPeriod_7 ⟨Nat.le_of_ble_eq_true rfl, Nat.le_of_ble_eq_true rfl⟩) hS (fun _ _ h => h) (fun _ h => h) (fun r3 S2 t H locs ht _ h hB _ _ hS => ?_)
  have hP : VX dC dI cA P S2 H := by rw [← ht]; exact hB
  refine lv_istore_n (lv' := [(3, .int r3), (0, .ref (P 29)), (1, .ref (P 27)), (2, .int v2)]) hx hb dX3_takesPeriod_10 rfl hl (by decide) rfl (fun ls hl => ?_)
  refine lv_iload_n hx hb dX3_takesPeriod_11 rfl (lv_at hl 0 rfl) ?_
  refine lv_if_eq (tgt := 24) hx hb dX3_takesPeriod_12 (by decide) (fun c4 => ?_) (fun c4 => ?_)
  · replace h := h.1 c4
    refine lv_iconst (v := 0) hx hb dX3_takesPeriod_24 (by decide) ?_
    exact g_zret hx hb hr hlocks bz_0 h hP hS dX3_takesPeriod_25
  · replace h := h.2 c4
    refine lv_aload_n hx hb dX3_takesPeriod_15 rfl (lv_at hl 2 rfl) ?_
    refine lv_bipush (v := 41) hx hb dX3_takesPeriod_16 (by decide) ?_
    refine va_calli (va_runV (As := [.int _]) (rest := []) ⟨hx, hb, hml, hown, hts⟩ (c_X7_takes l hI h) (cwV 1 hts gv_X3_31 rfl rfl rfl hv_X7_takes ⟨Nat.le_of_ble_eq_true rfl, Nat.le_of_ble_eq_true rfl⟩) (preV_X hKX hP hS (kX_lt (rfl : kdX 27 = 7)) (eX7 (rfl : kdX 27 = 7)) rfl) rfl rfl hl.1 rfl (lv_room (Nat.le_of_ble_eq_true rfl)) dX3_takesPeriod_18 ⟨Nat.le_of_ble_eq_true rfl, Nat.le_of_ble_eq_true rfl⟩) hS (fun _ _ h => h) (fun _ h => h) (fun r6 S5 t H locs ht _ h hB _ _ hS => ?_)
    have hP : VX dC dI cA P S5 H := by rw [← ht]; exact hB
    refine lv_if_ne (tgt := 26) hx hb dX3_takesPeriod_21 (by decide) (fun c7 => ?_) (fun c7 => ?_)
    · replace h := h.2 c7
      refine lv_iload_n hx hb dX3_takesPeriod_26 rfl (lv_at hl 3 rfl) ?_
      refine lv_iload_n hx hb dX3_takesPeriod_27 rfl (lv_at hl 0 rfl) ?_
      refine va_calll (va_runSN (As := [.int _, .int _]) (rest := []) ⟨hx, hb, hml, hown, hts⟩ (c_X8_power l hI h) ⟨va_cnB 2 hts (good_W G_cd_X8_power) rfl rfl rfl (kx_n15 hKX) (hts _ G_in_X8) hd_X8_power ⟨Nat.le_of_ble_eq_true rfl, Nat.le_of_ble_eq_true rfl⟩, hts _ G_st_X8_power, trivial⟩ (preS_X hKX hP hS) rfl rfl hl.1 rfl (lv_room (Nat.le_of_ble_eq_true rfl)) dX3_takesPeriod_28 ⟨Nat.le_of_ble_eq_true rfl, Nat.le_of_ble_eq_true rfl⟩) hS (fun _ _ h => h) (fun _ h => h) (fun r9 S8 t H locs ht _ h hB _ _ hS => ?_)
      have hP : VX dC dI cA P S8 H := by rw [← ht]; exact hB
      refine lv_lconst (v := 1) hx hb dX3_takesPeriod_31 (by decide) ?_
      refine lv_lsub hx hb dX3_takesPeriod_32 ?_
      refine lv_topl (fun x10 ex10 => ?_)
      replace h := h x10 ex10
      refine lv_lstore (lv' := [(4, .long x10), (3, .int r3), (0, .ref (P 29)), (1, .ref (P 27)), (2, .int v2)]) hx hb dX3_takesPeriod_33 hl (by decide) rfl (fun ls hl => ?_)
      refine lv_aload_n hx hb dX3_takesPeriod_35 rfl (lv_at hl 2 rfl) ?_
      refine lv_aload_n hx hb dX3_takesPeriod_36 rfl (lv_at hl 2 rfl) ?_
      refine g_get (v := .long (S8.2 29 0)) hx hb hts inG_X3 hown hK hP (kX_lt (rfl : kdX 29 = 3)) (eX3 (rfl : kdX 29 = 3)) rfl 0 (by decide) G_fl_X3_9 rfl rfl dX3_takesPeriod_37 ?_
      refine lv_lload hx hb dX3_takesPeriod_40 (lv_at hl 0 rfl) ?_
      refine lv_lmul hx hb dX3_takesPeriod_42 ?_
      refine lv_aload_n hx hb dX3_takesPeriod_43 rfl (lv_at hl 3 rfl) ?_
      refine g_get (v := .long (S8.2 27 3)) hx hb hts inG_X7 hown hK hP (kX_lt (rfl : kdX 27 = 7)) (eX7 (rfl : kdX 27 = 7)) rfl 3 (by decide) G_fl_X3_24 rfl rfl dX3_takesPeriod_44 ?_
      refine lv_ladd hx hb dX3_takesPeriod_47 ?_
      replace h := h _ rfl
      refine g_putL hx hb hts inG_X3 tyX3 tyX3_ok nmX3 hown hK hI hP hS (kX_lt (rfl : kdX 29 = 3)) (eX3 (rfl : kdX 29 = 3)) rfl 0 (by decide) G_fl_X3_9 rfl rfl (ty := .long) (by decide +kernel) rfl rfl (Nat.le_of_ble_eq_true rfl) rfl h dX3_takesPeriod_48 (fun S12 H locs h hP hS => ?_)
      refine lv_aload_n hx hb dX3_takesPeriod_51 rfl (lv_at hl 2 rfl) ?_
      refine lv_aload_n hx hb dX3_takesPeriod_52 rfl (lv_at hl 2 rfl) ?_
      refine g_get (v := .long (S12.2 29 1)) hx hb hts inG_X3 hown hK hP (kX_lt (rfl : kdX 29 = 3)) (eX3 (rfl : kdX 29 = 3)) rfl 1 (by decide) G_fl_X3_15 rfl rfl dX3_takesPeriod_53 ?_
      refine lv_lload hx hb dX3_takesPeriod_56 (lv_at hl 0 rfl) ?_
      refine lv_lmul hx hb dX3_takesPeriod_58 ?_
      replace h := h _ rfl
      refine g_putL hx hb hts inG_X3 tyX3 tyX3_ok nmX3 hown hK hI hP hS (kX_lt (rfl : kdX 29 = 3)) (eX3 (rfl : kdX 29 = 3)) rfl 1 (by decide) G_fl_X3_15 rfl rfl (ty := .long) (by decide +kernel) rfl rfl (Nat.le_of_ble_eq_true rfl) rfl h dX3_takesPeriod_59 (fun S14 H locs h hP hS => ?_)
      refine lv_iconst (v := 1) hx hb dX3_takesPeriod_62 (by decide) ?_
      exact g_zret hx hb hr hlocks bz_1 h hP hS dX3_takesPeriod_63
    · replace h := h.1 c7
      refine lv_iconst (v := 0) hx hb dX3_takesPeriod_24 (by decide) ?_
      exact g_zret hx hb hr hlocks bz_0 h hP hS dX3_takesPeriod_25
set_option maxRecDepth 100000 in
set_option maxHeartbeats 4000000 in
theorem c_X3_takesPeriod (l : Launch) {dC : Nat → ClassId} {dI : Nat → Nat → Nat} {cA : Nat → ClassId} {adK adV P : Nat → Nat} (hI : PInj 56 P) {v2 : Int32}  {post : Int32 → St → Prop} {S : St} (h : w_X3_takesPeriod v2 post S) : Met l yX3_takesPeriod (wW yX3_takesPeriod cX3_takesPeriod 6 (some .boolean)) ({ frames := 4, cells := 0, slots := 0, locals := 86 } : Room) (va_Pc [.ref (P 29), .ref (P 27), .int v2] (PreX dC dI cA adK adV P S)) (va_Qi post (fun u t => VX dC dI cA P u t.heap) (PA 56 P)) 0 0 (PA 56 P) := by
  refine Met.ofW (cc := cX3_takesPeriod) (maxL := 6) (ret := (some .boolean)) (by decide) rfl ?_
  intro p e s m args below meth c s₁ B hml hv
  obtain ⟨rfl, hP, hKX⟩ := hv
  have hts : ∀ w ∈ G, w.before [.ref (P 29), .ref (P 27), .int v2].toArray s = true := fun w hw => atoms_spec (ws := wW yX3_takesPeriod cX3_takesPeriod 6 (some .boolean)) B.pre w (List.mem_cons_of_mem _ hw)
  have C : CtxX dC dI cA adK adV P p s m [.ref (P 29), .ref (P 27), .int v2].toArray meth c cX3_takesPeriod 6 (some .boolean) RX3 := ⟨hI, hKX, ⟨B.exec, B.bytes, hml, findClass_of_methodNamed B.named, hts⟩, B.returns, B.notSynchronized⟩
  have hS : va_S (PA 56 P) s.heap s.heap [] := va_S.rf
  have hl := lv_entry ([.ref (P 29), .ref (P 27), .int v2]) (n := 6) (Nat.le_of_ble_eq_true rfl)
  rw [lg_entry_eq]
  generalize (lg_sl ([.ref (P 29), .ref (P 27), .int v2]) ++ List.replicate (6 - (lg_sl ([.ref (P 29), .ref (P 27), .int v2])).length) Slot.unset).toArray = ls at hl ⊢
  have hl : lv_has ls 6 [(0, .ref (P 29)), (1, .ref (P 27)), (2, .int v2)] := hl
  exact e_X3_takesPeriod C _ _ _ _ _ h  hP hS hl
set_option maxRecDepth 100000 in
set_option maxHeartbeats 4000000 in
theorem e_X7_isAtEnd {p : Program} {l : Launch} {e : Env} {s : State} {m : MethodId} {args : Array Value} {below : List Frame} {meth : Method} {c : Code} {dC : Nat → ClassId} {dI : Nat → Nat → Nat} {cA : Nat → ClassId} {adK adV P : Nat → Nat} (C : CtxX dC dI cA adK adV P p s m args meth c cX7_isAtEnd 1 (some .boolean) RX7) {post : Int32 → St → Prop} : ∀  (S : St) (H : Heap) (locs : List Loc) (ls : Array Slot), w_X7_isAtEnd  post S → VX dC dI cA P S H → va_S (PA 56 P) s.heap H locs → lv_has ls 1 [(0, .ref (P 27))] → W p l e ({ frames := 0, cells := 0, slots := 0, locals := 0 } : Room) s m args below meth c H locs 0 0 (MQ below (va_Qi post (fun u t => VX dC dI cA P u t.heap) (PA 56 P)) args s 0 0 (PA 56 P)) (F0 m 0 ls []) := by
  have C := C
  obtain ⟨hI, hKX, ⟨hx, hb, hml, hown, hts⟩, hr, hlocks⟩ := id C
  have hK := hKX.1
  intro S H locs ls h hP hS hl
  rw [w_X7_isAtEnd] at h
  refine lv_aload_n hx hb dX7_isAtEnd_0 rfl (lv_at hl 0 rfl) ?_
  refine g_get (v := .int (S.1 27 2)) hx hb hts inG_X7 hown hK hP (kX_lt (rfl : kdX 27 = 7)) (eX7 (rfl : kdX 27 = 7)) rfl 2 (by decide) G_fl_X7_19 rfl rfl dX7_isAtEnd_1 ?_
  refine lv_aload_n hx hb dX7_isAtEnd_4 rfl (lv_at hl 0 rfl) ?_
  refine g_get (v := .int (S.1 27 1)) hx hb hts inG_X7 hown hK hP (kX_lt (rfl : kdX 27 = 7)) (eX7 (rfl : kdX 27 = 7)) rfl 1 (by decide) G_fl_X7_15 rfl rfl dX7_isAtEnd_5 ?_
  refine lv_icmp_lt (tgt := 15) hx hb dX7_isAtEnd_8 (by decide) (fun c1 => ?_) (fun c1 => ?_)
  · replace h := h.1 c1
    refine lv_iconst (v := 0) hx hb dX7_isAtEnd_15 (by decide) ?_
    exact g_zret hx hb hr hlocks bz_0 h hP hS dX7_isAtEnd_16
  · replace h := h.2 c1
    refine lv_iconst (v := 1) hx hb dX7_isAtEnd_11 (by decide) ?_
    refine lv_goto (tgt := 16) hx hb dX7_isAtEnd_12 (by decide) ?_
    exact g_zret hx hb hr hlocks bz_1 h hP hS dX7_isAtEnd_16
set_option maxRecDepth 100000 in
set_option maxHeartbeats 4000000 in
theorem c_X7_isAtEnd (l : Launch) {dC : Nat → ClassId} {dI : Nat → Nat → Nat} {cA : Nat → ClassId} {adK adV P : Nat → Nat} (hI : PInj 56 P)   {post : Int32 → St → Prop} {S : St} (h : w_X7_isAtEnd  post S) : Met l yX7_isAtEnd (wW yX7_isAtEnd cX7_isAtEnd 1 (some .boolean)) ({ frames := 0, cells := 0, slots := 0, locals := 0 } : Room) (va_Pc [.ref (P 27)] (PreX dC dI cA adK adV P S)) (va_Qi post (fun u t => VX dC dI cA P u t.heap) (PA 56 P)) 0 0 (PA 56 P) := by
  refine Met.ofW (cc := cX7_isAtEnd) (maxL := 1) (ret := (some .boolean)) (by decide) rfl ?_
  intro p e s m args below meth c s₁ B hml hv
  obtain ⟨rfl, hP, hKX⟩ := hv
  have hts : ∀ w ∈ G, w.before [.ref (P 27)].toArray s = true := fun w hw => atoms_spec (ws := wW yX7_isAtEnd cX7_isAtEnd 1 (some .boolean)) B.pre w (List.mem_cons_of_mem _ hw)
  have C : CtxX dC dI cA adK adV P p s m [.ref (P 27)].toArray meth c cX7_isAtEnd 1 (some .boolean) RX7 := ⟨hI, hKX, ⟨B.exec, B.bytes, hml, findClass_of_methodNamed B.named, hts⟩, B.returns, B.notSynchronized⟩
  have hS : va_S (PA 56 P) s.heap s.heap [] := va_S.rf
  have hl := lv_entry ([.ref (P 27)]) (n := 1) (Nat.le_of_ble_eq_true rfl)
  rw [lg_entry_eq]
  generalize (lg_sl ([.ref (P 27)]) ++ List.replicate (1 - (lg_sl ([.ref (P 27)])).length) Slot.unset).toArray = ls at hl ⊢
  have hl : lv_has ls 1 [(0, .ref (P 27))] := hl
  exact e_X7_isAtEnd C  _ _ _ _ h  hP hS hl
set_option maxRecDepth 100000 in
set_option maxHeartbeats 4000000 in
theorem b_X3_parse_103 {p : Program} {l : Launch} {e : Env} {s : State} {m : MethodId} {args : Array Value} {below : List Frame} {meth : Method} {c : Code} {dC : Nat → ClassId} {dI : Nat → Nat → Nat} {cA : Nat → ClassId} {adK adV P : Nat → Nat} (C : CtxX dC dI cA adK adV P p s m args meth c cX3_parse 5 (some .int) RX3) {post : Int32 → St → Prop}  : ∀  (S : St) (H : Heap) (locs : List Loc) (ls : Array Slot), w_X3_parse_103 post  S → VX dC dI cA P S H → va_S (PA 56 P) s.heap H locs → lv_has ls 5 [(1, .ref (P 27))] → W p l e ({ frames := 5, cells := 0, slots := 0, locals := 111 } : Room) s m args below meth c H locs 0 0 (MQ below (va_Qi post (fun u t => VX dC dI cA P u t.heap) (PA 56 P)) args s 0 0 (PA 56 P)) (F0 m 103 ls []) := by
  have C := C
  obtain ⟨hI, hKX, ⟨hx, hb, hml, hown, hts⟩, hr, hlocks⟩ := id C
  have hK := hKX.1
  intro S H locs ls h hP hS hl
  rw [w_X3_parse_103] at h
  refine lv_aload_n hx hb dX3_parse_103 rfl (lv_at hl 0 rfl) ?_
  refine va_calli (va_runV (As := []) (rest := []) ⟨hx, hb, hml, hown, hts⟩ (c_X7_isAtEnd l hI h) (cwV 0 hts gv_X3_43 rfl rfl rfl hv_X7_isAtEnd ⟨Nat.le_of_ble_eq_true rfl, Nat.le_of_ble_eq_true rfl⟩) (preV_X hKX hP hS (kX_lt (rfl : kdX 27 = 7)) (eX7 (rfl : kdX 27 = 7)) rfl) rfl rfl hl.1 rfl (lv_room (Nat.le_of_ble_eq_true rfl)) dX3_parse_104 ⟨Nat.le_of_ble_eq_true rfl, Nat.le_of_ble_eq_true rfl⟩) hS (fun _ _ h => h) (fun _ h => h) (fun r14 S13 t H locs ht _ h hB _ _ hS => ?_)
  have hP : VX dC dI cA P S13 H := by rw [← ht]; exact hB
  refine lv_if_eq (tgt := 114) hx hb dX3_parse_107 (by decide) (fun c15 => ?_) (fun c15 => ?_)
  · replace h := h.1 c15
    refine lv_aload_n hx hb dX3_parse_114 rfl (lv_at hl 0 rfl) ?_
    refine g_get (v := .int (S13.1 27 2)) hx hb hts inG_X7 hown hK hP (kX_lt (rfl : kdX 27 = 7)) (eX7 (rfl : kdX 27 = 7)) rfl 2 (by decide) G_fl_X3_18 rfl rfl dX3_parse_115 ?_
    exact g_iret hx hb hr hlocks h hP hS dX3_parse_118
  · replace h := h.2 c15
    refine lv_iconst (v := (-1)) hx hb dX3_parse_110 (by decide) ?_
    refine lv_goto (tgt := 118) hx hb dX3_parse_111 (by decide) ?_
    exact g_iret hx hb hr hlocks h hP hS dX3_parse_118
set_option maxRecDepth 100000 in
set_option maxHeartbeats 4000000 in
theorem b_X3_parse_77 {p : Program} {l : Launch} {e : Env} {s : State} {m : MethodId} {args : Array Value} {below : List Frame} {meth : Method} {c : Code} {dC : Nat → ClassId} {dI : Nat → Nat → Nat} {cA : Nat → ClassId} {adK adV P : Nat → Nat} (C : CtxX dC dI cA adK adV P p s m args meth c cX3_parse 5 (some .int) RX3) {post : Int32 → St → Prop}  : ∀ (v2 : Int32) (v3 : Int32) (S : St) (H : Heap) (locs : List Loc) (ls : Array Slot), w_X3_parse_77 post v2 v3 S → VX dC dI cA P S H → va_S (PA 56 P) s.heap H locs → lv_has ls 5 [(0, .ref (P 29)), (1, .ref (P 27)), (2, .int v2), (3, .int v3)] → W p l e ({ frames := 5, cells := 0, slots := 0, locals := 111 } : Room) s m args below meth c H locs 0 0 (MQ below (va_Qi post (fun u t => VX dC dI cA P u t.heap) (PA 56 P)) args s 0 0 (PA 56 P)) (F0 m 77 ls []) := by
  have C := C
  obtain ⟨hI, hKX, ⟨hx, hb, hml, hown, hts⟩, hr, hlocks⟩ := id C
  have hK := hKX.1
  intro v2 v3 S H locs ls h hP hS hl
  rw [w_X3_parse_77] at h
  refine lv_aload_n hx hb dX3_parse_77 rfl (lv_at hl 0 rfl) ?_
  refine lv_aload_n hx hb dX3_parse_78 rfl (lv_at hl 1 rfl) ?_
  refine g_get (v := .long (S.2 27 3)) hx hb hts inG_X7 hown hK hP (kX_lt (rfl : kdX 27 = 7)) (eX7 (rfl : kdX 27 = 7)) rfl 3 (by decide) G_fl_X3_24 rfl rfl dX3_parse_79 ?_
  replace h := h _ rfl
  refine g_putL hx hb hts inG_X3 tyX3 tyX3_ok nmX3 hown hK hI hP hS (kX_lt (rfl : kdX 29 = 3)) (eX3 (rfl : kdX 29 = 3)) rfl 0 (by decide) G_fl_X3_9 rfl rfl (ty := .long) (by decide +kernel) rfl rfl (Nat.le_of_ble_eq_true rfl) rfl h dX3_parse_82 (fun S11 H locs h hP hS => ?_)
  refine lv_iload_n hx hb dX3_parse_85 rfl (lv_at hl 3 rfl) ?_
  refine lv_if_eq (tgt := 103) hx hb dX3_parse_86 (by decide) (fun c12 => ?_) (fun c12 => ?_)
  · replace h := h.1 c12
    exact b_X3_parse_103 C  _ _ _ _ h  hP hS (lv_sub hl [1] rfl)
  · replace h := h.2 c12
    refine lv_aload_n hx hb dX3_parse_89 rfl (lv_at hl 0 rfl) ?_
    refine lv_aload_n hx hb dX3_parse_90 rfl (lv_at hl 1 rfl) ?_
    refine lv_iload_n hx hb dX3_parse_91 rfl (lv_at hl 2 rfl) ?_
    refine va_calli (va_runV (As := [.ref _, .int _]) (rest := []) ⟨hx, hb, hml, hown, hts⟩ (c_X3_takesPeriod l hI h) (cwV 2 hts gv_X3_39 rfl rfl rfl hv_X3_takesPeriod ⟨Nat.le_of_ble_eq_true rfl, Nat.le_of_ble_eq_true rfl⟩) (preV_X hKX hP hS (kX_lt (rfl : kdX 29 = 3)) (eX3 (rfl : kdX 29 = 3)) rfl) rfl rfl hl.1 rfl (lv_room (Nat.le_of_ble_eq_true rfl)) dX3_parse_92 ⟨Nat.le_of_ble_eq_true rfl, Nat.le_of_ble_eq_true rfl⟩) hS (fun _ _ h => h) (fun _ h => h) (fun r17 S16 t H locs ht _ h hB _ _ hS => ?_)
    have hP : VX dC dI cA P S16 H := by rw [← ht]; exact hB
    refine lv_if_ne (tgt := 103) hx hb dX3_parse_95 (by decide) (fun c18 => ?_) (fun c18 => ?_)
    · replace h := h.2 c18
      exact b_X3_parse_103 C  _ _ _ _ h  hP hS (lv_sub hl [1] rfl)
    · replace h := h.1 c18
      refine lv_aload_n hx hb dX3_parse_98 rfl (lv_at hl 1 rfl) ?_
      refine g_get (v := .int (S16.1 27 2)) hx hb hts inG_X7 hown hK hP (kX_lt (rfl : kdX 27 = 7)) (eX7 (rfl : kdX 27 = 7)) rfl 2 (by decide) G_fl_X3_18 rfl rfl dX3_parse_99 ?_
      exact g_iret hx hb hr hlocks h hP hS dX3_parse_102
set_option maxRecDepth 100000 in
set_option maxHeartbeats 4000000 in
theorem e_X3_parse {p : Program} {l : Launch} {e : Env} {s : State} {m : MethodId} {args : Array Value} {below : List Frame} {meth : Method} {c : Code} {dC : Nat → ClassId} {dI : Nat → Nat → Nat} {cA : Nat → ClassId} {adK adV P : Nat → Nat} (C : CtxX dC dI cA adK adV P p s m args meth c cX3_parse 5 (some .int) RX3) {post : Int32 → St → Prop} : ∀ (v2 : Int32) (S : St) (H : Heap) (locs : List Loc) (ls : Array Slot), w_X3_parse v2 post S → VX dC dI cA P S H → va_S (PA 56 P) s.heap H locs → lv_has ls 5 [(0, .ref (P 29)), (1, .ref (P 27)), (2, .int v2)] → W p l e ({ frames := 5, cells := 0, slots := 0, locals := 111 } : Room) s m args below meth c H locs 0 0 (MQ below (va_Qi post (fun u t => VX dC dI cA P u t.heap) (PA 56 P)) args s 0 0 (PA 56 P)) (F0 m 0 ls []) := by
  have C := C
  obtain ⟨hI, hKX, ⟨hx, hb, hml, hown, hts⟩, hr, hlocks⟩ := id C
  have hK := hKX.1
  intro v2 S H locs ls h hP hS hl
  rw [w_X3_parse] at h
  refine lv_aload_n hx hb dX3_parse_0 rfl (lv_at hl 1 rfl) ?_
  refine lv_iconst (v := 0) hx hb dX3_parse_1 (by decide) ?_
  refine g_putI hx hb hts inG_X7 tyX7 tyX7_ok nmX7 hown hK hI hP hS (kX_lt (rfl : kdX 27 = 7)) (eX7 (rfl : kdX 27 = 7)) rfl 2 (by decide) G_fl_X3_18 rfl rfl (ty := .int) (by decide +kernel) rfl rfl (Nat.le_of_ble_eq_true rfl) rfl h dX3_parse_2 (fun S1 H locs h hP hS => ?_)
  refine lv_aload_n hx hb dX3_parse_5 rfl (lv_at hl 1 rfl) ?_
  refine lv_lconst (v := 0) hx hb dX3_parse_6 (by decide) ?_
  refine g_putL hx hb hts inG_X7 tyX7 tyX7_ok nmX7 hown hK hI hP hS (kX_lt (rfl : kdX 27 = 7)) (eX7 (rfl : kdX 27 = 7)) rfl 3 (by decide) G_fl_X3_24 rfl rfl (ty := .long) (by decide +kernel) rfl rfl (Nat.le_of_ble_eq_true rfl) rfl h dX3_parse_7 (fun S2 H locs h hP hS => ?_)
  refine lv_aload_n hx hb dX3_parse_10 rfl (lv_at hl 0 rfl) ?_
  refine lv_lconst (v := 1) hx hb dX3_parse_11 (by decide) ?_
  refine g_putL hx hb hts inG_X3 tyX3 tyX3_ok nmX3 hown hK hI hP hS (kX_lt (rfl : kdX 29 = 3)) (eX3 (rfl : kdX 29 = 3)) rfl 1 (by decide) G_fl_X3_15 rfl rfl (ty := .long) (by decide +kernel) rfl rfl (Nat.le_of_ble_eq_true rfl) rfl h dX3_parse_12 (fun S3 H locs h hP hS => ?_)
  refine lv_aload_n hx hb dX3_parse_15 rfl (lv_at hl 1 rfl) ?_
  refine lv_iload_n hx hb dX3_parse_16 rfl (lv_at hl 2 rfl) ?_
  refine va_calli (va_runV (As := [.int _]) (rest := []) ⟨hx, hb, hml, hown, hts⟩ (c_X7_takeDigits l hI h) (cwV 1 hts gv_X3_27 rfl rfl rfl hv_X7_takeDigits ⟨Nat.le_of_ble_eq_true rfl, Nat.le_of_ble_eq_true rfl⟩) (preV_X hKX hP hS (kX_lt (rfl : kdX 27 = 7)) (eX7 (rfl : kdX 27 = 7)) rfl) rfl rfl hl.1 rfl (lv_room (Nat.le_of_ble_eq_true rfl)) dX3_parse_17 ⟨Nat.le_of_ble_eq_true rfl, Nat.le_of_ble_eq_true rfl⟩) hS (fun _ _ h => h) (fun _ h => h) (fun r5 S4 t H locs ht _ h hB _ _ hS => ?_)
  have hP : VX dC dI cA P S4 H := by rw [← ht]; exact hB
  refine lv_if_ne (tgt := 28) hx hb dX3_parse_20 (by decide) (fun c6 => ?_) (fun c6 => ?_)
  · replace h := h.2 c6
    refine lv_iconst (v := 0) hx hb dX3_parse_28 (by decide) ?_
    refine lv_istore_n (lv' := [(3, .int 0), (0, .ref (P 29)), (1, .ref (P 27)), (2, .int v2)]) hx hb dX3_parse_29 rfl hl (by decide) rfl (fun ls hl => ?_)
    refine lv_aload_n hx hb dX3_parse_30 rfl (lv_at hl 2 rfl) ?_
    refine lv_bipush (v := 46) hx hb dX3_parse_31 (by decide) ?_
    refine va_calli (va_runV (As := [.int _]) (rest := []) ⟨hx, hb, hml, hown, hts⟩ (c_X7_takes l hI h) (cwV 1 hts gv_X3_31 rfl rfl rfl hv_X7_takes ⟨Nat.le_of_ble_eq_true rfl, Nat.le_of_ble_eq_true rfl⟩) (preV_X hKX hP hS (kX_lt (rfl : kdX 27 = 7)) (eX7 (rfl : kdX 27 = 7)) rfl) rfl rfl hl.1 rfl (lv_room (Nat.le_of_ble_eq_true rfl)) dX3_parse_33 ⟨Nat.le_of_ble_eq_true rfl, Nat.le_of_ble_eq_true rfl⟩) hS (fun _ _ h => h) (fun _ h => h) (fun r8 S7 t H locs ht _ h hB _ _ hS => ?_)
    have hP : VX dC dI cA P S7 H := by rw [← ht]; exact hB
    refine lv_if_eq (tgt := 77) hx hb dX3_parse_36 (by decide) (fun c9 => ?_) (fun c9 => ?_)
    · replace h := h.1 c9
      exact b_X3_parse_77 C _ _ _ _ _ _ h  hP hS (lv_sub hl [1, 2, 3, 0] rfl)
    · replace h := h.2 c9
      refine lv_aload_n hx hb dX3_parse_39 rfl (lv_at hl 2 rfl) ?_
      refine lv_iload_n hx hb dX3_parse_40 rfl (lv_at hl 3 rfl) ?_
      refine va_calli (va_runV (As := [.int _]) (rest := []) ⟨hx, hb, hml, hown, hts⟩ (c_X7_takeDigits l hI h) (cwV 1 hts gv_X3_27 rfl rfl rfl hv_X7_takeDigits ⟨Nat.le_of_ble_eq_true rfl, Nat.le_of_ble_eq_true rfl⟩) (preV_X hKX hP hS (kX_lt (rfl : kdX 27 = 7)) (eX7 (rfl : kdX 27 = 7)) rfl) rfl rfl hl.1 rfl (lv_room (Nat.le_of_ble_eq_true rfl)) dX3_parse_41 ⟨Nat.le_of_ble_eq_true rfl, Nat.le_of_ble_eq_true rfl⟩) hS (fun _ _ h => h) (fun _ h => h) (fun r20 S19 t H locs ht _ h hB _ _ hS => ?_)
      have hP : VX dC dI cA P S19 H := by rw [← ht]; exact hB
      refine lv_istore (lv' := [(4, .int r20), (3, .int 0), (0, .ref (P 29)), (1, .ref (P 27)), (2, .int v2)]) hx hb dX3_parse_44 hl (by decide) rfl (fun ls hl => ?_)
      refine lv_aload_n hx hb dX3_parse_46 rfl (lv_at hl 2 rfl) ?_
      refine lv_iload_n hx hb dX3_parse_47 rfl (lv_at hl 4 rfl) ?_
      refine lv_iload hx hb dX3_parse_48 (lv_at hl 0 rfl) ?_
      refine va_calll (va_runSN (As := [.int _, .int _]) (rest := [.ref _]) ⟨hx, hb, hml, hown, hts⟩ (c_X8_power l hI h) ⟨va_cnB 2 hts (good_W G_cd_X8_power) rfl rfl rfl (kx_n15 hKX) (hts _ G_in_X8) hd_X8_power ⟨Nat.le_of_ble_eq_true rfl, Nat.le_of_ble_eq_true rfl⟩, hts _ G_st_X8_power, trivial⟩ (preS_X hKX hP hS) rfl rfl hl.1 rfl (lv_room (Nat.le_of_ble_eq_true rfl)) dX3_parse_50 ⟨Nat.le_of_ble_eq_true rfl, Nat.le_of_ble_eq_true rfl⟩) hS (fun _ _ h => h) (fun _ h => h) (fun r22 S21 t H locs ht _ h hB _ _ hS => ?_)
      have hP : VX dC dI cA P S21 H := by rw [← ht]; exact hB
      refine g_putL hx hb hts inG_X3 tyX3 tyX3_ok nmX3 hown hK hI hP hS (kX_lt (rfl : kdX 29 = 3)) (eX3 (rfl : kdX 29 = 3)) rfl 1 (by decide) G_fl_X3_15 rfl rfl (ty := .long) (by decide +kernel) rfl rfl (Nat.le_of_ble_eq_true rfl) rfl h dX3_parse_53 (fun S23 H locs h hP hS => ?_)
      refine lv_aload_n hx hb dX3_parse_56 rfl (lv_at hl 3 rfl) ?_
      refine lv_bipush (v := 40) hx hb dX3_parse_57 (by decide) ?_
      refine va_calli (va_runV (As := [.int _]) (rest := []) ⟨hx, hb, hml, hown, hts⟩ (c_X7_takes l hI h) (cwV 1 hts gv_X3_31 rfl rfl rfl hv_X7_takes ⟨Nat.le_of_ble_eq_true rfl, Nat.le_of_ble_eq_true rfl⟩) (preV_X hKX hP hS (kX_lt (rfl : kdX 27 = 7)) (eX7 (rfl : kdX 27 = 7)) rfl) rfl rfl hl.1 rfl (lv_room (Nat.le_of_ble_eq_true rfl)) dX3_parse_59 ⟨Nat.le_of_ble_eq_true rfl, Nat.le_of_ble_eq_true rfl⟩) hS (fun _ _ h => h) (fun _ h => h) (fun r25 S24 t H locs ht _ h hB _ _ hS => ?_)
      have hP : VX dC dI cA P S24 H := by rw [← ht]; exact hB
      refine lv_istore_n (lv' := [(3, .int r25), (4, .int r20), (0, .ref (P 29)), (1, .ref (P 27)), (2, .int v2)]) hx hb dX3_parse_62 rfl hl (by decide) rfl (fun ls hl => ?_)
      refine lv_iload hx hb dX3_parse_63 (lv_at hl 1 rfl) ?_
      refine lv_if_ne (tgt := 77) hx hb dX3_parse_65 (by decide) (fun c26 => ?_) (fun c26 => ?_)
      · replace h := h.2 c26
        exact b_X3_parse_77 C _ _ _ _ _ _ h  hP hS (lv_sub hl [2, 3, 4, 0] rfl)
      · replace h := h.1 c26
        refine lv_iload_n hx hb dX3_parse_68 rfl (lv_at hl 0 rfl) ?_
        refine lv_if_ne (tgt := 77) hx hb dX3_parse_69 (by decide) (fun c27 => ?_) (fun c27 => ?_)
        · replace h := h.2 c27
          exact b_X3_parse_77 C _ _ _ _ _ _ h  hP hS (lv_sub hl [2, 3, 4, 0] rfl)
        · replace h := h.1 c27
          refine lv_aload_n hx hb dX3_parse_72 rfl (lv_at hl 3 rfl) ?_
          refine g_get (v := .int (S24.1 27 2)) hx hb hts inG_X7 hown hK hP (kX_lt (rfl : kdX 27 = 7)) (eX7 (rfl : kdX 27 = 7)) rfl 2 (by decide) G_fl_X3_18 rfl rfl dX3_parse_73 ?_
          exact g_iret hx hb hr hlocks h hP hS dX3_parse_76
  · replace h := h.1 c6
    refine lv_aload_n hx hb dX3_parse_23 rfl (lv_at hl 1 rfl) ?_
    refine g_get (v := .int (S4.1 27 2)) hx hb hts inG_X7 hown hK hP (kX_lt (rfl : kdX 27 = 7)) (eX7 (rfl : kdX 27 = 7)) rfl 2 (by decide) G_fl_X3_18 rfl rfl dX3_parse_24 ?_
    exact g_iret hx hb hr hlocks h hP hS dX3_parse_27
set_option maxRecDepth 100000 in
set_option maxHeartbeats 4000000 in
theorem c_X3_parse (l : Launch) {dC : Nat → ClassId} {dI : Nat → Nat → Nat} {cA : Nat → ClassId} {adK adV P : Nat → Nat} (hI : PInj 56 P) {v2 : Int32}  {post : Int32 → St → Prop} {S : St} (h : w_X3_parse v2 post S) : Met l yX3_parse (wW yX3_parse cX3_parse 5 (some .int)) ({ frames := 5, cells := 0, slots := 0, locals := 111 } : Room) (va_Pc [.ref (P 29), .ref (P 27), .int v2] (PreX dC dI cA adK adV P S)) (va_Qi post (fun u t => VX dC dI cA P u t.heap) (PA 56 P)) 0 0 (PA 56 P) := by
  refine Met.ofW (cc := cX3_parse) (maxL := 5) (ret := (some .int)) (by decide) rfl ?_
  intro p e s m args below meth c s₁ B hml hv
  obtain ⟨rfl, hP, hKX⟩ := hv
  have hts : ∀ w ∈ G, w.before [.ref (P 29), .ref (P 27), .int v2].toArray s = true := fun w hw => atoms_spec (ws := wW yX3_parse cX3_parse 5 (some .int)) B.pre w (List.mem_cons_of_mem _ hw)
  have C : CtxX dC dI cA adK adV P p s m [.ref (P 29), .ref (P 27), .int v2].toArray meth c cX3_parse 5 (some .int) RX3 := ⟨hI, hKX, ⟨B.exec, B.bytes, hml, findClass_of_methodNamed B.named, hts⟩, B.returns, B.notSynchronized⟩
  have hS : va_S (PA 56 P) s.heap s.heap [] := va_S.rf
  have hl := lv_entry ([.ref (P 29), .ref (P 27), .int v2]) (n := 5) (Nat.le_of_ble_eq_true rfl)
  rw [lg_entry_eq]
  generalize (lg_sl ([.ref (P 29), .ref (P 27), .int v2]) ++ List.replicate (5 - (lg_sl ([.ref (P 29), .ref (P 27), .int v2])).length) Slot.unset).toArray = ls at hl ⊢
  have hl : lv_has ls 5 [(0, .ref (P 29)), (1, .ref (P 27)), (2, .int v2)] := hl
  exact e_X3_parse C _ _ _ _ _ h  hP hS hl
set_option maxRecDepth 100000 in
set_option maxHeartbeats 4000000 in
theorem b_X4_load_15 {p : Program} {l : Launch} {e : Env} {s : State} {m : MethodId} {args : Array Value} {below : List Frame} {meth : Method} {c : Code} {dC : Nat → ClassId} {dI : Nat → Nat → Nat} {cA : Nat → ClassId} {adK adV P : Nat → Nat} (C : CtxX dC dI cA adK adV P p s m args meth c cX4_load 4 none RX4) {post : St → Prop}  : ∀ (n : Nat) (k1 : Nat) (v2 : Int32) (v3 : Int32) (S : St) (H : Heap) (locs : List Loc) (ls : Array Slot), w_X4_load_15 post n k1 v2 v3 S → kdX k1 = 1 → VX dC dI cA P S H → va_S (PA 56 P) s.heap H locs → lv_has ls 4 [(0, .ref (P 52)), (1, .ref (P k1)), (2, .int v2), (3, .int v3)] → W p l e ({ frames := 2, cells := 0, slots := 0, locals := 44 } : Room) s m args below meth c H locs 0 0 (MQ below (va_Qv post (fun u t => VX dC dI cA P u t.heap) (PA 56 P)) args s 0 0 (PA 56 P)) (F0 m 15 ls []) := by
  have C := C
  obtain ⟨hI, hKX, ⟨hx, hb, hml, hown, hts⟩, hr, hlocks⟩ := id C
  have hK := hKX.1
  intro n
  induction n with
  | zero =>
    intro k1 v2 v3 S H locs ls h hk1 hP hS hl
    simp only [w_X4_load_15] at h
  | succ n ih =>
    intro k1 v2 v3 S H locs ls h hk1 hP hS hl
    rw [w_X4_load_15] at h
    refine lv_iload_n hx hb dX4_load_15 rfl (lv_at hl 3 rfl) ?_
    refine lv_aload_n hx hb dX4_load_16 rfl (lv_at hl 0 rfl) ?_
    refine g_get (v := .int (S.1 52 1)) hx hb hts inG_X4 hown hK hP (kX_lt (rfl : kdX 52 = 4)) (eX4 (rfl : kdX 52 = 4)) rfl 1 (by decide) G_fl_X4_15 rfl rfl dX4_load_17 ?_
    refine lv_icmp_ge (tgt := 48) hx hb dX4_load_20 (by decide) (fun c4 => ?_) (fun c4 => ?_)
    · replace h := h.1 c4
      exact g_vret hx hb hr hlocks h hP hS dX4_load_48
    · replace h := h.2 c4
      refine lv_aload_n hx hb dX4_load_23 rfl (lv_at hl 0 rfl) ?_
      refine g_get (v := .ref (P 53)) hx hb hts inG_X4 hown hK hP (kX_lt (rfl : kdX 52 = 4)) (eX4 (rfl : kdX 52 = 4)) rfl 0 (by decide) G_fl_X4_9 rfl rfl dX4_load_24 ?_
      refine lv_iload_n hx hb dX4_load_27 rfl (lv_at hl 3 rfl) ?_
      refine lv_aload_n hx hb dX4_load_28 rfl (lv_at hl 1 rfl) ?_
      refine lv_iload_n hx hb dX4_load_29 rfl (lv_at hl 2 rfl) ?_
      refine va_calli (va_runV (As := [.int _]) (rest := [.int _, .ref _]) ⟨hx, hb, hml, hown, hts⟩ (c_X1_digitOf l hI hk1 h) (cwV 1 hts gv_X4_25 rfl rfl rfl hv_X1_digitOf ⟨Nat.le_of_ble_eq_true rfl, Nat.le_of_ble_eq_true rfl⟩) (preV_X hKX hP hS (kX_lt hk1) (eX1 hk1) rfl) rfl rfl hl.1 rfl (lv_room (Nat.le_of_ble_eq_true rfl)) dX4_load_30 ⟨Nat.le_of_ble_eq_true rfl, Nat.le_of_ble_eq_true rfl⟩) hS (fun _ _ h => h) (fun _ h => h) (fun r6 S5 t H locs ht _ h hB _ _ hS => ?_)
      have hP : VX dC dI cA P S5 H := by rw [← ht]; exact hB
      refine va_callv (va_runSN (As := [.ref _, .int _, .int _]) (rest := []) ⟨hx, hb, hml, hown, hts⟩ (c_X8_setAt l hI (rfl : kdX 53 = 10) h) ⟨va_cnB 3 hts (good_W G_cd_X8_setAt) rfl rfl rfl (kx_n5 hKX) (hts _ G_in_X8) hd_X8_setAt ⟨Nat.le_of_ble_eq_true rfl, Nat.le_of_ble_eq_true rfl⟩, hts _ G_st_X8_setAt, trivial⟩ (preS_X hKX hP hS) rfl rfl hl.1 rfl (lv_room (Nat.le_of_ble_eq_true rfl)) dX4_load_33 ⟨Nat.le_of_ble_eq_true rfl, Nat.le_of_ble_eq_true rfl⟩) hS (fun _ _ h => h) (fun _ h => h) (fun S7 t H locs ht _ h hB _ _ hS => ?_)
      have hP : VX dC dI cA P S7 H := by rw [← ht]; exact hB
      refine lv_aload_n hx hb dX4_load_36 rfl (lv_at hl 1 rfl) ?_
      refine lv_iload_n hx hb dX4_load_37 rfl (lv_at hl 2 rfl) ?_
      refine va_calli (va_runV (As := [.int _]) (rest := []) ⟨hx, hb, hml, hown, hts⟩ (c_X1_restAfter l hI hk1 h) (cwV 1 hts gv_X4_33 rfl rfl rfl hv_X1_restAfter ⟨Nat.le_of_ble_eq_true rfl, Nat.le_of_ble_eq_true rfl⟩) (preV_X hKX hP hS (kX_lt hk1) (eX1 hk1) rfl) rfl rfl hl.1 rfl (lv_room (Nat.le_of_ble_eq_true rfl)) dX4_load_38 ⟨Nat.le_of_ble_eq_true rfl, Nat.le_of_ble_eq_true rfl⟩) hS (fun _ _ h => h) (fun _ h => h) (fun r9 S8 t H locs ht _ h hB _ _ hS => ?_)
      have hP : VX dC dI cA P S8 H := by rw [← ht]; exact hB
      refine lv_istore_n (lv' := [(2, .int r9), (0, .ref (P 52)), (1, .ref (P k1)), (3, .int v3)]) hx hb dX4_load_41 rfl hl (by decide) rfl (fun ls hl => ?_)
      obtain ⟨x10, ex10⟩ : ∃ y : Int32, y = v3 + 1 := ⟨_, rfl⟩
      replace h := h x10 ex10
      refine lv_iinc (v := x10) (lv' := [(3, .int x10), (2, .int r9), (0, .ref (P 52)), (1, .ref (P k1))]) hx hb dX4_load_42 hl (k := 3) rfl (by rw [ex10]; rfl) (by decide) rfl (fun ls hl => ?_)
      refine lv_goto (tgt := 15) hx hb dX4_load_45 (by decide) ?_
      exact ih _ _ _ _ _ _ _ h hk1 hP hS (lv_sub hl [2, 3, 1, 0] rfl)
set_option maxRecDepth 100000 in
set_option maxHeartbeats 4000000 in
theorem e_X4_load {p : Program} {l : Launch} {e : Env} {s : State} {m : MethodId} {args : Array Value} {below : List Frame} {meth : Method} {c : Code} {dC : Nat → ClassId} {dI : Nat → Nat → Nat} {cA : Nat → ClassId} {adK adV P : Nat → Nat} (C : CtxX dC dI cA adK adV P p s m args meth c cX4_load 4 none RX4) {post : St → Prop} : ∀ (k1 : Nat) (S : St) (H : Heap) (locs : List Loc) (ls : Array Slot), w_X4_load k1 post S → kdX k1 = 1 → VX dC dI cA P S H → va_S (PA 56 P) s.heap H locs → lv_has ls 4 [(0, .ref (P 52)), (1, .ref (P k1))] → W p l e ({ frames := 2, cells := 0, slots := 0, locals := 44 } : Room) s m args below meth c H locs 0 0 (MQ below (va_Qv post (fun u t => VX dC dI cA P u t.heap) (PA 56 P)) args s 0 0 (PA 56 P)) (F0 m 0 ls []) := by
  have C := C
  obtain ⟨hI, hKX, ⟨hx, hb, hml, hown, hts⟩, hr, hlocks⟩ := id C
  have hK := hKX.1
  intro k1 S H locs ls h hk1 hP hS hl
  rw [w_X4_load] at h
  refine lv_aload_n hx hb dX4_load_0 rfl (lv_at hl 0 rfl) ?_
  refine lv_aload_n hx hb dX4_load_1 rfl (lv_at hl 1 rfl) ?_
  refine g_get (v := .int (S.1 k1 4)) hx hb hts inG_X1 hown hK hP (kX_lt hk1) (eX1 hk1) rfl 4 (by decide) G_fl_X4_19 rfl rfl dX4_load_2 ?_
  replace h := h _ rfl
  refine g_putI hx hb hts inG_X4 tyX4 tyX4_ok nmX4 hown hK hI hP hS (kX_lt (rfl : kdX 52 = 4)) (eX4 (rfl : kdX 52 = 4)) rfl 1 (by decide) G_fl_X4_15 rfl rfl (ty := .int) (by decide +kernel) rfl rfl (Nat.le_of_ble_eq_true rfl) rfl h dX4_load_5 (fun S2 H locs h hP hS => ?_)
  refine lv_aload_n hx hb dX4_load_8 rfl (lv_at hl 1 rfl) ?_
  refine g_get (v := .int (S2.1 k1 5)) hx hb hts inG_X1 hown hK hP (kX_lt hk1) (eX1 hk1) rfl 5 (by decide) G_fl_X4_22 rfl rfl dX4_load_9 ?_
  refine lv_topi (fun x3 ex3 => ?_)
  replace h := h x3 ex3
  refine lv_istore_n (lv' := [(2, .int x3), (0, .ref (P 52)), (1, .ref (P k1))]) hx hb dX4_load_12 rfl hl (by decide) rfl (fun ls hl => ?_)
  refine lv_iconst (v := 0) hx hb dX4_load_13 (by decide) ?_
  refine lv_istore_n (lv' := [(3, .int 0), (2, .int x3), (0, .ref (P 52)), (1, .ref (P k1))]) hx hb dX4_load_14 rfl hl (by decide) rfl (fun ls hl => ?_)
  obtain ⟨n11, h⟩ := h
  exact b_X4_load_15 C n11 _ _ _ _ _ _ _ h hk1 hP hS (lv_sub hl [2, 3, 1, 0] rfl)
set_option maxRecDepth 100000 in
set_option maxHeartbeats 4000000 in
theorem c_X4_load (l : Launch) {dC : Nat → ClassId} {dI : Nat → Nat → Nat} {cA : Nat → ClassId} {adK adV P : Nat → Nat} (hI : PInj 56 P) {k1 : Nat} (hk1 : kdX k1 = 1) {post : St → Prop} {S : St} (h : w_X4_load k1 post S) : Met l yX4_load (wW yX4_load cX4_load 4 none) ({ frames := 2, cells := 0, slots := 0, locals := 44 } : Room) (va_Pc [.ref (P 52), .ref (P k1)] (PreX dC dI cA adK adV P S)) (va_Qv post (fun u t => VX dC dI cA P u t.heap) (PA 56 P)) 0 0 (PA 56 P) := by
  refine Met.ofW (cc := cX4_load) (maxL := 4) (ret := none) (by decide) rfl ?_
  intro p e s m args below meth c s₁ B hml hv
  obtain ⟨rfl, hP, hKX⟩ := hv
  have hts : ∀ w ∈ G, w.before [.ref (P 52), .ref (P k1)].toArray s = true := fun w hw => atoms_spec (ws := wW yX4_load cX4_load 4 none) B.pre w (List.mem_cons_of_mem _ hw)
  have C : CtxX dC dI cA adK adV P p s m [.ref (P 52), .ref (P k1)].toArray meth c cX4_load 4 none RX4 := ⟨hI, hKX, ⟨B.exec, B.bytes, hml, findClass_of_methodNamed B.named, hts⟩, B.returns, B.notSynchronized⟩
  have hS : va_S (PA 56 P) s.heap s.heap [] := va_S.rf
  have hl := lv_entry ([.ref (P 52), .ref (P k1)]) (n := 4) (Nat.le_of_ble_eq_true rfl)
  rw [lg_entry_eq]
  generalize (lg_sl ([.ref (P 52), .ref (P k1)]) ++ List.replicate (4 - (lg_sl ([.ref (P 52), .ref (P k1)])).length) Slot.unset).toArray = ls at hl ⊢
  have hl : lv_has ls 4 [(0, .ref (P 52)), (1, .ref (P k1))] := hl
  exact e_X4_load C _ _ _ _ _ h hk1 hP hS hl
