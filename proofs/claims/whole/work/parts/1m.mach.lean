set_option maxRecDepth 100000 in
set_option maxHeartbeats 4000000 in
theorem b_X9_taken_56 {p : Program} {l : Launch} {e : Env} {s : State} {m : MethodId} {args : Array Value} {below : List Frame} {meth : Method} {c : Code} {dC : Nat → ClassId} {dI : Nat → Nat → Nat} {cA : Nat → ClassId} {P : Nat → Nat} (C : CtxM dC dI cA P p s m args meth c cX9_taken 4 (some .int) RX9) {post : Int32 → St → Prop}  : ∀ (v1 : Int32) (v2 : Int32) (S : St) (H : Heap) (locs : List Loc) (ls : Array Slot), w_X9_taken_56 post v1 v2 S → VM dC dI cA P S H → va_S (PA 25 P) s.heap H locs → lv_has ls 4 [(0, .ref (P 0)), (1, .int v1), (2, .int v2)] → W p l e ({ frames := 2, cells := 0, slots := 0, locals := 47 } : Room) s m args below meth c H locs 0 0 (MQ below (va_Qi post (fun u t => VM dC dI cA P u t.heap) (PA 25 P)) args s 0 0 (PA 25 P)) (F0 m 56 ls []) := by
  have C := C
  obtain ⟨hI, hKX, ⟨hx, hb, hml, hown, hts⟩, hr, hlocks⟩ := id C
  have hK := hKX
  intro v1 v2 S H locs ls h hP hS hl
  rw [w_X9_taken_56] at h
  refine lv_iload_n hx hb dX9_taken_56 rfl (lv_at hl 2 rfl) ?_
  refine lv_if_ne (tgt := 69) hx hb dX9_taken_57 (by decide) (fun c13 => ?_) (fun c13 => ?_)
  · replace h := h.2 c13
    refine lv_iload_n hx hb dX9_taken_69 rfl (lv_at hl 2 rfl) ?_
    refine lv_iconst (v := 2) hx hb dX9_taken_70 (by decide) ?_
    refine lv_icmp_ne (tgt := 81) hx hb dX9_taken_71 (by decide) (fun c14 => ?_) (fun c14 => ?_)
    · replace h := h.2 c14
      refine lv_aload_n hx hb dX9_taken_81 rfl (lv_at hl 0 rfl) ?_
      refine g_get (v := .int (S.1 0 4)) hx hb hts inG_X9 hown hK hP (kM_lt (rfl : kdM 0 = 9)) (eM9 (rfl : kdM 0 = 9)) rfl 4 (by decide) G_fl_X9_100 rfl rfl dX9_taken_82 ?_
      exact g_iret hx hb hr hlocks h hP hS dX9_taken_85
    · replace h := h.1 c14
      refine lv_aload_n hx hb dX9_taken_74 rfl (lv_at hl 0 rfl) ?_
      refine g_get (v := .int (S.1 0 5)) hx hb hts inG_X9 hown hK hP (kM_lt (rfl : kdM 0 = 9)) (eM9 (rfl : kdM 0 = 9)) rfl 5 (by decide) G_fl_X9_103 rfl rfl dX9_taken_75 ?_
      refine lv_goto (tgt := 85) hx hb dX9_taken_78 (by decide) ?_
      exact g_iret hx hb hr hlocks h hP hS dX9_taken_85
  · replace h := h.1 c13
    refine lv_aload_n hx hb dX9_taken_60 rfl (lv_at hl 0 rfl) ?_
    refine g_get (v := .ref (P 16)) hx hb hts inG_X9 hown hK hP (kM_lt (rfl : kdM 0 = 9)) (eM9 (rfl : kdM 0 = 9)) rfl 31 (by decide) G_fl_X9_62 rfl rfl dX9_taken_61 ?_
    refine lv_iload_n hx hb dX9_taken_64 rfl (lv_at hl 1 rfl) ?_
    refine g_ald hx hb hK hP (kM_lt (rfl : kdM 16 = 10)) 0 (eM10 (rfl : kdM 16 = 10)) rfl h.1 dX9_taken_65 ?_
    replace h := h.2
    refine lv_goto (tgt := 85) hx hb dX9_taken_66 (by decide) ?_
    exact g_iret hx hb hr hlocks h hP hS dX9_taken_85
set_option maxRecDepth 100000 in
set_option maxHeartbeats 4000000 in
theorem c_X9_taken (l : Launch) {dC : Nat → ClassId} {dI : Nat → Nat → Nat} {cA : Nat → ClassId} {P : Nat → Nat} (hI : PInj 25 P) {v1 : Int32} {v2 : Int32}  {post : Int32 → St → Prop} {S : St} (h : w_X9_taken v1 v2 post S) : Met l yX9_taken (wW yX9_taken cX9_taken 4 (some .int)) ({ frames := 2, cells := 0, slots := 0, locals := 47 } : Room) (va_Pc [.ref (P 0), .int v1, .int v2] (PreM dC dI cA P S)) (va_Qi post (fun u t => VM dC dI cA P u t.heap) (PA 25 P)) 0 0 (PA 25 P) := by
  refine Met.ofW (cc := cX9_taken) (maxL := 4) (ret := (some .int)) (by decide) rfl ?_
  intro p e s m args below meth c s₁ B hml hv
  obtain ⟨rfl, hP, hKX⟩ := hv
  have hts : ∀ w ∈ G, w.before [.ref (P 0), .int v1, .int v2].toArray s = true := fun w hw => atoms_spec (ws := wW yX9_taken cX9_taken 4 (some .int)) B.pre w (List.mem_cons_of_mem _ hw)
  have C : CtxM dC dI cA P p s m [.ref (P 0), .int v1, .int v2].toArray meth c cX9_taken 4 (some .int) RX9 := ⟨hI, hKX, ⟨B.exec, B.bytes, hml, findClass_of_methodNamed B.named, hts⟩, B.returns, B.notSynchronized⟩
  obtain ⟨hI, hKX, ⟨hx, hb, hml, hown, hts⟩, hr, hlocks⟩ := id C
  have hK := hKX
  have hS : va_S (PA 25 P) s.heap s.heap [] := va_S.rf
  have hl := lv_entry ([.ref (P 0), .int v1, .int v2]) (n := 4) (Nat.le_of_ble_eq_true rfl)
  rw [lg_entry_eq]
  generalize (lg_sl ([.ref (P 0), .int v1, .int v2]) ++ List.replicate (4 - (lg_sl ([.ref (P 0), .int v1, .int v2])).length) Slot.unset).toArray = ls at hl ⊢
  have hl : lv_has ls 4 [(0, .ref (P 0)), (1, .int v1), (2, .int v2)] := hl
  rw [w_X9_taken] at h
  refine lv_iload_n hx hb dX9_taken_0 rfl (lv_at hl 1 rfl) ?_
  refine va_calli (va_runS (As := [.int _]) (rest := []) ⟨hx, hb, hml, hown, hts⟩ (c_X9_isHolder l hI h) (va_cwS 1 hts gs_X9_294 rfl rfl rfl hd_X9_isHolder ⟨Nat.le_of_ble_eq_true rfl, Nat.le_of_ble_eq_true rfl⟩) (preS_M hKX hP hS) rfl rfl hl.1 rfl (lv_room (Nat.le_of_ble_eq_true rfl)) dX9_taken_1 ⟨Nat.le_of_ble_eq_true rfl, Nat.le_of_ble_eq_true rfl⟩) hS (fun _ _ h => h) (fun _ h => h) (fun r2 S1 t H locs ht _ h hB _ _ hS => ?_)
  have hP : VM dC dI cA P S1 H := by rw [← ht]; exact hB
  refine lv_if_eq (tgt := 19) hx hb dX9_taken_4 (by decide) (fun c3 => ?_) (fun c3 => ?_)
  · replace h := h.1 c3
    refine lv_iconst (v := (-1)) hx hb dX9_taken_19 (by decide) ?_
    exact g_iret hx hb hr hlocks h hP hS dX9_taken_20
  · replace h := h.2 c3
    refine lv_iload_n hx hb dX9_taken_7 rfl (lv_at hl 2 rfl) ?_
    refine lv_i2l hx hb dX9_taken_8 rfl ?_
    refine lv_lconst (v := 0) hx hb dX9_taken_9 (by decide) ?_
    refine lv_ldc2 (v := 3) hx hb hown (hts _ G_co_X9_300) dX9_taken_10 ?_
    replace h := h _ rfl
    refine va_calli (va_runS (As := [.long _, .long _, .long _]) (rest := []) ⟨hx, hb, hml, hown, hts⟩ (c_X9_isIn l hI h) (va_cwS 3 hts gs_X9_92 rfl rfl rfl hd_X9_isIn ⟨Nat.le_of_ble_eq_true rfl, Nat.le_of_ble_eq_true rfl⟩) (preS_M hKX hP hS) rfl rfl hl.1 rfl (lv_room (Nat.le_of_ble_eq_true rfl)) dX9_taken_13 ⟨Nat.le_of_ble_eq_true rfl, Nat.le_of_ble_eq_true rfl⟩) hS (fun _ _ h => h) (fun _ h => h) (fun r6 S5 t H locs ht _ h hB _ _ hS => ?_)
    have hP : VM dC dI cA P S5 H := by rw [← ht]; exact hB
    refine lv_if_ne (tgt := 21) hx hb dX9_taken_16 (by decide) (fun c7 => ?_) (fun c7 => ?_)
    · replace h := h.2 c7
      refine lv_aload_n hx hb dX9_taken_21 rfl (lv_at hl 0 rfl) ?_
      refine lv_iload_n hx hb dX9_taken_22 rfl (lv_at hl 1 rfl) ?_
      refine lv_iconst (v := 1) hx hb dX9_taken_23 (by decide) ?_
      refine va_calli (va_runV (As := [.int _, .int _]) (rest := []) ⟨hx, hb, hml, hown, hts⟩ (c_X9_whyNot l hI h) (cwV 2 hts gv_X9_302 rfl rfl rfl hv_X9_whyNot ⟨Nat.le_of_ble_eq_true rfl, Nat.le_of_ble_eq_true rfl⟩) (preV_M hKX hP hS (kM_lt (rfl : kdM 0 = 9)) (eM9 (rfl : kdM 0 = 9)) rfl) rfl rfl hl.1 rfl (lv_room (Nat.le_of_ble_eq_true rfl)) dX9_taken_24 ⟨Nat.le_of_ble_eq_true rfl, Nat.le_of_ble_eq_true rfl⟩) hS (fun _ _ h => h) (fun _ h => h) (fun r9 S8 t H locs ht _ h hB _ _ hS => ?_)
      have hP : VM dC dI cA P S8 H := by rw [← ht]; exact hB
      refine lv_istore_n (lv' := [(3, .int r9), (0, .ref (P 0)), (1, .int v1), (2, .int v2)]) hx hb dX9_taken_27 rfl hl (by decide) rfl (fun ls hl => ?_)
      refine lv_iload_n hx hb dX9_taken_28 rfl (lv_at hl 0 rfl) ?_
      refine lv_if_eq (tgt := 34) hx hb dX9_taken_29 (by decide) (fun c10 => ?_) (fun c10 => ?_)
      · replace h := h.1 c10
        refine lv_aload_n hx hb dX9_taken_34 rfl (lv_at hl 1 rfl) ?_
        refine lv_iload_n hx hb dX9_taken_35 rfl (lv_at hl 2 rfl) ?_
        refine va_callv (va_runV (As := [.int _]) (rest := []) ⟨hx, hb, hml, hown, hts⟩ (c_X9_looksHeld l hI h) (cwV 1 hts gv_X9_297 rfl rfl rfl hv_X9_looksHeld ⟨Nat.le_of_ble_eq_true rfl, Nat.le_of_ble_eq_true rfl⟩) (preV_M hKX hP hS (kM_lt (rfl : kdM 0 = 9)) (eM9 (rfl : kdM 0 = 9)) rfl) rfl rfl hl.1 rfl (lv_room (Nat.le_of_ble_eq_true rfl)) dX9_taken_36 ⟨Nat.le_of_ble_eq_true rfl, Nat.le_of_ble_eq_true rfl⟩) hS (fun _ _ h => h) (fun _ h => h) (fun S11 t H locs ht _ h hB _ _ hS => ?_)
        have hP : VM dC dI cA P S11 H := by rw [← ht]; exact hB
        refine lv_iload_n hx hb dX9_taken_39 rfl (lv_at hl 3 rfl) ?_
        refine lv_if_le (tgt := 56) hx hb dX9_taken_40 (by decide) (fun c12 => ?_) (fun c12 => ?_)
        · replace h := h.1 c12
          exact b_X9_taken_56 C _ _ _ _ _ _ h  hP hS (lv_sub hl [1, 2, 3] rfl)
        · replace h := h.2 c12
          refine lv_aload_n hx hb dX9_taken_43 rfl (lv_at hl 1 rfl) ?_
          refine va_calli (va_runV (As := []) (rest := []) ⟨hx, hb, hml, hown, hts⟩ (c_X9_kindNow l hI h) (cwV 0 hts gv_X9_141 rfl rfl rfl hv_X9_kindNow ⟨Nat.le_of_ble_eq_true rfl, Nat.le_of_ble_eq_true rfl⟩) (preV_M hKX hP hS (kM_lt (rfl : kdM 0 = 9)) (eM9 (rfl : kdM 0 = 9)) rfl) rfl rfl hl.1 rfl (lv_room (Nat.le_of_ble_eq_true rfl)) dX9_taken_44 ⟨Nat.le_of_ble_eq_true rfl, Nat.le_of_ble_eq_true rfl⟩) hS (fun _ _ h => h) (fun _ h => h) (fun r16 S15 t H locs ht _ h hB _ _ hS => ?_)
          have hP : VM dC dI cA P S15 H := by rw [← ht]; exact hB
          refine lv_iload_n hx hb dX9_taken_47 rfl (lv_at hl 3 rfl) ?_
          refine lv_iconst (v := 1) hx hb dX9_taken_48 (by decide) ?_
          refine lv_isub hx hb dX9_taken_49 ?_
          refine lv_icmp_eq (tgt := 56) hx hb dX9_taken_50 (by decide) (fun c17 => ?_) (fun c17 => ?_)
          · replace h := h.1 c17
            exact b_X9_taken_56 C _ _ _ _ _ _ h  hP hS (lv_sub hl [1, 2, 3] rfl)
          · replace h := h.2 c17
            refine lv_bipush (v := (-12)) hx hb dX9_taken_53 (by decide) ?_
            exact g_iret hx hb hr hlocks h hP hS dX9_taken_55
      · replace h := h.2 c10
        refine lv_iload_n hx hb dX9_taken_32 rfl (lv_at hl 0 rfl) ?_
        exact g_iret hx hb hr hlocks h hP hS dX9_taken_33
    · replace h := h.1 c7
      refine lv_iconst (v := (-1)) hx hb dX9_taken_19 (by decide) ?_
      exact g_iret hx hb hr hlocks h hP hS dX9_taken_20
set_option maxRecDepth 100000 in
set_option maxHeartbeats 4000000 in
theorem c_X9_was (l : Launch) {dC : Nat → ClassId} {dI : Nat → Nat → Nat} {cA : Nat → ClassId} {P : Nat → Nat} (hI : PInj 25 P) {v1 : Int32} {v2 : Int32}  {post : Int32 → St → Prop} {S : St} (h : w_X9_was v1 v2 post S) : Met l yX9_was (wW yX9_was cX9_was 4 (some .int)) ({ frames := 2, cells := 0, slots := 0, locals := 47 } : Room) (va_Pc [.ref (P 0), .int v1, .int v2] (PreM dC dI cA P S)) (va_Qi post (fun u t => VM dC dI cA P u t.heap) (PA 25 P)) 0 0 (PA 25 P) := by
  refine Met.ofW (cc := cX9_was) (maxL := 4) (ret := (some .int)) (by decide) rfl ?_
  intro p e s m args below meth c s₁ B hml hv
  obtain ⟨rfl, hP, hKX⟩ := hv
  have hts : ∀ w ∈ G, w.before [.ref (P 0), .int v1, .int v2].toArray s = true := fun w hw => atoms_spec (ws := wW yX9_was cX9_was 4 (some .int)) B.pre w (List.mem_cons_of_mem _ hw)
  have C : CtxM dC dI cA P p s m [.ref (P 0), .int v1, .int v2].toArray meth c cX9_was 4 (some .int) RX9 := ⟨hI, hKX, ⟨B.exec, B.bytes, hml, findClass_of_methodNamed B.named, hts⟩, B.returns, B.notSynchronized⟩
  obtain ⟨hI, hKX, ⟨hx, hb, hml, hown, hts⟩, hr, hlocks⟩ := id C
  have hK := hKX
  have hS : va_S (PA 25 P) s.heap s.heap [] := va_S.rf
  have hl := lv_entry ([.ref (P 0), .int v1, .int v2]) (n := 4) (Nat.le_of_ble_eq_true rfl)
  rw [lg_entry_eq]
  generalize (lg_sl ([.ref (P 0), .int v1, .int v2]) ++ List.replicate (4 - (lg_sl ([.ref (P 0), .int v1, .int v2])).length) Slot.unset).toArray = ls at hl ⊢
  have hl : lv_has ls 4 [(0, .ref (P 0)), (1, .int v1), (2, .int v2)] := hl
  rw [w_X9_was] at h
  refine lv_iload_n hx hb dX9_was_0 rfl (lv_at hl 1 rfl) ?_
  refine va_calli (va_runS (As := [.int _]) (rest := []) ⟨hx, hb, hml, hown, hts⟩ (c_X9_isHolder l hI h) (va_cwS 1 hts gs_X9_294 rfl rfl rfl hd_X9_isHolder ⟨Nat.le_of_ble_eq_true rfl, Nat.le_of_ble_eq_true rfl⟩) (preS_M hKX hP hS) rfl rfl hl.1 rfl (lv_room (Nat.le_of_ble_eq_true rfl)) dX9_was_1 ⟨Nat.le_of_ble_eq_true rfl, Nat.le_of_ble_eq_true rfl⟩) hS (fun _ _ h => h) (fun _ h => h) (fun r2 S1 t H locs ht _ h hB _ _ hS => ?_)
  have hP : VM dC dI cA P S1 H := by rw [← ht]; exact hB
  refine lv_if_eq (tgt := 19) hx hb dX9_was_4 (by decide) (fun c3 => ?_) (fun c3 => ?_)
  · replace h := h.1 c3
    refine lv_iconst (v := (-1)) hx hb dX9_was_19 (by decide) ?_
    exact g_iret hx hb hr hlocks h hP hS dX9_was_20
  · replace h := h.2 c3
    refine lv_iload_n hx hb dX9_was_7 rfl (lv_at hl 2 rfl) ?_
    refine lv_i2l hx hb dX9_was_8 rfl ?_
    refine lv_lconst (v := 0) hx hb dX9_was_9 (by decide) ?_
    refine lv_ldc2 (v := 9999) hx hb hown (hts _ G_co_X9_114) dX9_was_10 ?_
    replace h := h _ rfl
    refine va_calli (va_runS (As := [.long _, .long _, .long _]) (rest := []) ⟨hx, hb, hml, hown, hts⟩ (c_X9_isIn l hI h) (va_cwS 3 hts gs_X9_92 rfl rfl rfl hd_X9_isIn ⟨Nat.le_of_ble_eq_true rfl, Nat.le_of_ble_eq_true rfl⟩) (preS_M hKX hP hS) rfl rfl hl.1 rfl (lv_room (Nat.le_of_ble_eq_true rfl)) dX9_was_13 ⟨Nat.le_of_ble_eq_true rfl, Nat.le_of_ble_eq_true rfl⟩) hS (fun _ _ h => h) (fun _ h => h) (fun r6 S5 t H locs ht _ h hB _ _ hS => ?_)
    have hP : VM dC dI cA P S5 H := by rw [← ht]; exact hB
    refine lv_if_ne (tgt := 21) hx hb dX9_was_16 (by decide) (fun c7 => ?_) (fun c7 => ?_)
    · replace h := h.2 c7
      refine lv_aload_n hx hb dX9_was_21 rfl (lv_at hl 0 rfl) ?_
      refine lv_iload_n hx hb dX9_was_22 rfl (lv_at hl 1 rfl) ?_
      refine lv_iconst (v := 1) hx hb dX9_was_23 (by decide) ?_
      refine va_calli (va_runV (As := [.int _, .int _]) (rest := []) ⟨hx, hb, hml, hown, hts⟩ (c_X9_whyNot l hI h) (cwV 2 hts gv_X9_302 rfl rfl rfl hv_X9_whyNot ⟨Nat.le_of_ble_eq_true rfl, Nat.le_of_ble_eq_true rfl⟩) (preV_M hKX hP hS (kM_lt (rfl : kdM 0 = 9)) (eM9 (rfl : kdM 0 = 9)) rfl) rfl rfl hl.1 rfl (lv_room (Nat.le_of_ble_eq_true rfl)) dX9_was_24 ⟨Nat.le_of_ble_eq_true rfl, Nat.le_of_ble_eq_true rfl⟩) hS (fun _ _ h => h) (fun _ h => h) (fun r9 S8 t H locs ht _ h hB _ _ hS => ?_)
      have hP : VM dC dI cA P S8 H := by rw [← ht]; exact hB
      refine lv_istore_n (lv' := [(3, .int r9), (0, .ref (P 0)), (1, .int v1), (2, .int v2)]) hx hb dX9_was_27 rfl hl (by decide) rfl (fun ls hl => ?_)
      refine lv_iload_n hx hb dX9_was_28 rfl (lv_at hl 0 rfl) ?_
      refine lv_if_eq (tgt := 34) hx hb dX9_was_29 (by decide) (fun c10 => ?_) (fun c10 => ?_)
      · replace h := h.1 c10
        refine lv_aload_n hx hb dX9_was_34 rfl (lv_at hl 1 rfl) ?_
        refine lv_iload_n hx hb dX9_was_35 rfl (lv_at hl 2 rfl) ?_
        refine va_callv (va_runV (As := [.int _]) (rest := []) ⟨hx, hb, hml, hown, hts⟩ (c_X9_looksHeld l hI h) (cwV 1 hts gv_X9_297 rfl rfl rfl hv_X9_looksHeld ⟨Nat.le_of_ble_eq_true rfl, Nat.le_of_ble_eq_true rfl⟩) (preV_M hKX hP hS (kM_lt (rfl : kdM 0 = 9)) (eM9 (rfl : kdM 0 = 9)) rfl) rfl rfl hl.1 rfl (lv_room (Nat.le_of_ble_eq_true rfl)) dX9_was_36 ⟨Nat.le_of_ble_eq_true rfl, Nat.le_of_ble_eq_true rfl⟩) hS (fun _ _ h => h) (fun _ h => h) (fun S11 t H locs ht _ h hB _ _ hS => ?_)
        have hP : VM dC dI cA P S11 H := by rw [← ht]; exact hB
        refine lv_aload_n hx hb dX9_was_39 rfl (lv_at hl 1 rfl) ?_
        refine g_get (v := .ref (P 6)) hx hb hts inG_X9 hown hK hP (kM_lt (rfl : kdM 0 = 9)) (eM9 (rfl : kdM 0 = 9)) rfl 9 (by decide) G_fl_X9_27 rfl rfl dX9_was_40 ?_
        refine lv_aload_n hx hb dX9_was_43 rfl (lv_at hl 1 rfl) ?_
        refine lv_iload_n hx hb dX9_was_44 rfl (lv_at hl 3 rfl) ?_
        refine va_calli (va_runV (As := [.int _]) (rest := [.ref _]) ⟨hx, hb, hml, hown, hts⟩ (c_X9_placeOf l hI h) (cwV 1 hts gv_X9_145 rfl rfl rfl hv_X9_placeOf ⟨Nat.le_of_ble_eq_true rfl, Nat.le_of_ble_eq_true rfl⟩) (preV_M hKX hP hS (kM_lt (rfl : kdM 0 = 9)) (eM9 (rfl : kdM 0 = 9)) rfl) rfl rfl hl.1 rfl (lv_room (Nat.le_of_ble_eq_true rfl)) dX9_was_45 ⟨Nat.le_of_ble_eq_true rfl, Nat.le_of_ble_eq_true rfl⟩) hS (fun _ _ h => h) (fun _ h => h) (fun r13 S12 t H locs ht _ h hB _ _ hS => ?_)
        have hP : VM dC dI cA P S12 H := by rw [← ht]; exact hB
        refine g_ald hx hb hK hP (kM_lt (rfl : kdM 6 = 10)) 0 (eM10 (rfl : kdM 6 = 10)) rfl h.1 dX9_was_48 ?_
        replace h := h.2
        exact g_iret hx hb hr hlocks h hP hS dX9_was_49
      · replace h := h.2 c10
        refine lv_iload_n hx hb dX9_was_32 rfl (lv_at hl 0 rfl) ?_
        exact g_iret hx hb hr hlocks h hP hS dX9_was_33
    · replace h := h.1 c7
      refine lv_iconst (v := (-1)) hx hb dX9_was_19 (by decide) ?_
      exact g_iret hx hb hr hlocks h hP hS dX9_was_20
set_option maxRecDepth 100000 in
set_option maxHeartbeats 4000000 in
theorem b_X9_row_38 {p : Program} {l : Launch} {e : Env} {s : State} {m : MethodId} {args : Array Value} {below : List Frame} {meth : Method} {c : Code} {dC : Nat → ClassId} {dI : Nat → Nat → Nat} {cA : Nat → ClassId} {P : Nat → Nat} (C : CtxM dC dI cA P p s m args meth c cX9_row 4 (some .int) RX9) {post : Int32 → St → Prop}  : ∀ (n : Nat) (v1 : Int32) (v2 : Int32) (v3 : Int32) (S : St) (H : Heap) (locs : List Loc) (ls : Array Slot), w_X9_row_38 post n v1 v2 v3 S → VM dC dI cA P S H → va_S (PA 25 P) s.heap H locs → lv_has ls 4 [(0, .ref (P 0)), (1, .int v1), (2, .int v2), (3, .int v3)] → W p l e ({ frames := 2, cells := 0, slots := 0, locals := 45 } : Room) s m args below meth c H locs 0 0 (MQ below (va_Qi post (fun u t => VM dC dI cA P u t.heap) (PA 25 P)) args s 0 0 (PA 25 P)) (F0 m 38 ls []) := by
  have C := C
  obtain ⟨hI, hKX, ⟨hx, hb, hml, hown, hts⟩, hr, hlocks⟩ := id C
  have hK := hKX
  intro n
  induction n with
  | zero =>
    intro v1 v2 v3 S H locs ls h hP hS hl
    simp only [w_X9_row_38] at h
  | succ n ih =>
    intro v1 v2 v3 S H locs ls h hP hS hl
    rw [w_X9_row_38] at h
    refine lv_iload_n hx hb dX9_row_38 rfl (lv_at hl 3 rfl) ?_
    refine lv_bipush (v := 40) hx hb dX9_row_39 (by decide) ?_
    refine lv_icmp_ge (tgt := 62) hx hb dX9_row_41 (by decide) (fun c8 => ?_) (fun c8 => ?_)
    · replace h := h.1 c8
      refine lv_iload_n hx hb dX9_row_62 rfl (lv_at hl 2 rfl) ?_
      exact g_iret hx hb hr hlocks h hP hS dX9_row_63
    · replace h := h.2 c8
      refine lv_aload_n hx hb dX9_row_44 rfl (lv_at hl 0 rfl) ?_
      refine g_get (v := .ref (P 20)) hx hb hts inG_X9 hown hK hP (kM_lt (rfl : kdM 0 = 9)) (eM9 (rfl : kdM 0 = 9)) rfl 35 (by decide) G_fl_X9_74 rfl rfl dX9_row_45 ?_
      refine lv_bipush (v := 40) hx hb dX9_row_48 (by decide) ?_
      refine lv_iload_n hx hb dX9_row_50 rfl (lv_at hl 1 rfl) ?_
      refine lv_imul hx hb dX9_row_51 ?_
      refine lv_iload_n hx hb dX9_row_52 rfl (lv_at hl 3 rfl) ?_
      refine lv_iadd hx hb dX9_row_53 ?_
      refine lv_iconst (v := 0) hx hb dX9_row_54 (by decide) ?_
      replace h := h _ rfl
      refine g_ast hx hb hK hI hP hS (kM_lt (rfl : kdM 20 = 10)) 0 (eM10 (rfl : kdM 20 = 10)) rfl h.1 h.2 dX9_row_55 (fun S10 H locs h hP hS => ?_)
      obtain ⟨x11, ex11⟩ : ∃ y : Int32, y = v3 + 1 := ⟨_, rfl⟩
      replace h := h x11 ex11
      refine lv_iinc (v := x11) (lv' := [(3, .int x11), (0, .ref (P 0)), (1, .int v1), (2, .int v2)]) hx hb dX9_row_56 hl (k := 3) rfl (by rw [ex11]; rfl) (by decide) rfl (fun ls hl => ?_)
      refine lv_goto (tgt := 38) hx hb dX9_row_59 (by decide) ?_
      exact ih _ _ _ _ _ _ _ h  hP hS (lv_sub hl [1, 2, 3, 0] rfl)
set_option maxRecDepth 100000 in
set_option maxHeartbeats 4000000 in
theorem c_X9_row (l : Launch) {dC : Nat → ClassId} {dI : Nat → Nat → Nat} {cA : Nat → ClassId} {P : Nat → Nat} (hI : PInj 25 P) {v1 : Int32} {v2 : Int32}  {post : Int32 → St → Prop} {S : St} (h : w_X9_row v1 v2 post S) : Met l yX9_row (wW yX9_row cX9_row 4 (some .int)) ({ frames := 2, cells := 0, slots := 0, locals := 45 } : Room) (va_Pc [.ref (P 0), .int v1, .int v2] (PreM dC dI cA P S)) (va_Qi post (fun u t => VM dC dI cA P u t.heap) (PA 25 P)) 0 0 (PA 25 P) := by
  refine Met.ofW (cc := cX9_row) (maxL := 4) (ret := (some .int)) (by decide) rfl ?_
  intro p e s m args below meth c s₁ B hml hv
  obtain ⟨rfl, hP, hKX⟩ := hv
  have hts : ∀ w ∈ G, w.before [.ref (P 0), .int v1, .int v2].toArray s = true := fun w hw => atoms_spec (ws := wW yX9_row cX9_row 4 (some .int)) B.pre w (List.mem_cons_of_mem _ hw)
  have C : CtxM dC dI cA P p s m [.ref (P 0), .int v1, .int v2].toArray meth c cX9_row 4 (some .int) RX9 := ⟨hI, hKX, ⟨B.exec, B.bytes, hml, findClass_of_methodNamed B.named, hts⟩, B.returns, B.notSynchronized⟩
  obtain ⟨hI, hKX, ⟨hx, hb, hml, hown, hts⟩, hr, hlocks⟩ := id C
  have hK := hKX
  have hS : va_S (PA 25 P) s.heap s.heap [] := va_S.rf
  have hl := lv_entry ([.ref (P 0), .int v1, .int v2]) (n := 4) (Nat.le_of_ble_eq_true rfl)
  rw [lg_entry_eq]
  generalize (lg_sl ([.ref (P 0), .int v1, .int v2]) ++ List.replicate (4 - (lg_sl ([.ref (P 0), .int v1, .int v2])).length) Slot.unset).toArray = ls at hl ⊢
  have hl : lv_has ls 4 [(0, .ref (P 0)), (1, .int v1), (2, .int v2)] := hl
  rw [w_X9_row] at h
  refine lv_iload_n hx hb dX9_row_0 rfl (lv_at hl 1 rfl) ?_
  refine va_calli (va_runS (As := [.int _]) (rest := []) ⟨hx, hb, hml, hown, hts⟩ (c_X9_isHolder l hI h) (va_cwS 1 hts gs_X9_294 rfl rfl rfl hd_X9_isHolder ⟨Nat.le_of_ble_eq_true rfl, Nat.le_of_ble_eq_true rfl⟩) (preS_M hKX hP hS) rfl rfl hl.1 rfl (lv_room (Nat.le_of_ble_eq_true rfl)) dX9_row_1 ⟨Nat.le_of_ble_eq_true rfl, Nat.le_of_ble_eq_true rfl⟩) hS (fun _ _ h => h) (fun _ h => h) (fun r2 S1 t H locs ht _ h hB _ _ hS => ?_)
  have hP : VM dC dI cA P S1 H := by rw [← ht]; exact hB
  refine lv_if_eq (tgt := 13) hx hb dX9_row_4 (by decide) (fun c3 => ?_) (fun c3 => ?_)
  · replace h := h.1 c3
    refine lv_iconst (v := (-1)) hx hb dX9_row_13 (by decide) ?_
    exact g_iret hx hb hr hlocks h hP hS dX9_row_14
  · replace h := h.2 c3
    refine lv_iload_n hx hb dX9_row_7 rfl (lv_at hl 2 rfl) ?_
    refine lv_bipush (v := 40) hx hb dX9_row_8 (by decide) ?_
    refine lv_icmp_le (tgt := 15) hx hb dX9_row_10 (by decide) (fun c4 => ?_) (fun c4 => ?_)
    · replace h := h.1 c4
      refine lv_iload_n hx hb dX9_row_15 rfl (lv_at hl 2 rfl) ?_
      refine lv_if_ge (tgt := 22) hx hb dX9_row_16 (by decide) (fun c5 => ?_) (fun c5 => ?_)
      · replace h := h.1 c5
        refine lv_aload_n hx hb dX9_row_22 rfl (lv_at hl 0 rfl) ?_
        refine g_get (v := .ref (P 15)) hx hb hts inG_X9 hown hK hP (kM_lt (rfl : kdM 0 = 9)) (eM9 (rfl : kdM 0 = 9)) rfl 30 (by decide) G_fl_X9_59 rfl rfl dX9_row_23 ?_
        refine lv_iload_n hx hb dX9_row_26 rfl (lv_at hl 1 rfl) ?_
        refine lv_iconst (v := 2) hx hb dX9_row_27 (by decide) ?_
        refine g_ast hx hb hK hI hP hS (kM_lt (rfl : kdM 15 = 10)) 0 (eM10 (rfl : kdM 15 = 10)) rfl h.1 h.2 dX9_row_28 (fun S6 H locs h hP hS => ?_)
        refine lv_aload_n hx hb dX9_row_29 rfl (lv_at hl 0 rfl) ?_
        refine g_get (v := .ref (P 19)) hx hb hts inG_X9 hown hK hP (kM_lt (rfl : kdM 0 = 9)) (eM9 (rfl : kdM 0 = 9)) rfl 34 (by decide) G_fl_X9_71 rfl rfl dX9_row_30 ?_
        refine lv_iload_n hx hb dX9_row_33 rfl (lv_at hl 1 rfl) ?_
        refine lv_iload_n hx hb dX9_row_34 rfl (lv_at hl 2 rfl) ?_
        refine g_ast hx hb hK hI hP hS (kM_lt (rfl : kdM 19 = 10)) 0 (eM10 (rfl : kdM 19 = 10)) rfl h.1 h.2 dX9_row_35 (fun S7 H locs h hP hS => ?_)
        refine lv_iconst (v := 0) hx hb dX9_row_36 (by decide) ?_
        refine lv_istore_n (lv' := [(3, .int 0), (0, .ref (P 0)), (1, .int v1), (2, .int v2)]) hx hb dX9_row_37 rfl hl (by decide) rfl (fun ls hl => ?_)
        obtain ⟨n12, h⟩ := h
        exact b_X9_row_38 C n12 _ _ _ _ _ _ _ h  hP hS (lv_sub hl [1, 2, 3, 0] rfl)
      · replace h := h.2 c5
        refine lv_bipush (v := (-14)) hx hb dX9_row_19 (by decide) ?_
        exact g_iret hx hb hr hlocks h hP hS dX9_row_21
    · replace h := h.2 c4
      refine lv_iconst (v := (-1)) hx hb dX9_row_13 (by decide) ?_
      exact g_iret hx hb hr hlocks h hP hS dX9_row_14
set_option maxRecDepth 100000 in
set_option maxHeartbeats 4000000 in
theorem c_X9_put (l : Launch) {dC : Nat → ClassId} {dI : Nat → Nat → Nat} {cA : Nat → ClassId} {P : Nat → Nat} (hI : PInj 25 P) {v1 : Int32} {v2 : Int32} {v3 : Int32}  {post : Int32 → St → Prop} {S : St} (h : w_X9_put v1 v2 v3 post S) : Met l yX9_put (wW yX9_put cX9_put 5 (some .int)) ({ frames := 2, cells := 0, slots := 0, locals := 45 } : Room) (va_Pc [.ref (P 0), .int v1, .int v2, .int v3] (PreM dC dI cA P S)) (va_Qi post (fun u t => VM dC dI cA P u t.heap) (PA 25 P)) 0 0 (PA 25 P) := by
  refine Met.ofW (cc := cX9_put) (maxL := 5) (ret := (some .int)) (by decide) rfl ?_
  intro p e s m args below meth c s₁ B hml hv
  obtain ⟨rfl, hP, hKX⟩ := hv
  have hts : ∀ w ∈ G, w.before [.ref (P 0), .int v1, .int v2, .int v3].toArray s = true := fun w hw => atoms_spec (ws := wW yX9_put cX9_put 5 (some .int)) B.pre w (List.mem_cons_of_mem _ hw)
  have C : CtxM dC dI cA P p s m [.ref (P 0), .int v1, .int v2, .int v3].toArray meth c cX9_put 5 (some .int) RX9 := ⟨hI, hKX, ⟨B.exec, B.bytes, hml, findClass_of_methodNamed B.named, hts⟩, B.returns, B.notSynchronized⟩
  obtain ⟨hI, hKX, ⟨hx, hb, hml, hown, hts⟩, hr, hlocks⟩ := id C
  have hK := hKX
  have hS : va_S (PA 25 P) s.heap s.heap [] := va_S.rf
  have hl := lv_entry ([.ref (P 0), .int v1, .int v2, .int v3]) (n := 5) (Nat.le_of_ble_eq_true rfl)
  rw [lg_entry_eq]
  generalize (lg_sl ([.ref (P 0), .int v1, .int v2, .int v3]) ++ List.replicate (5 - (lg_sl ([.ref (P 0), .int v1, .int v2, .int v3])).length) Slot.unset).toArray = ls at hl ⊢
  have hl : lv_has ls 5 [(0, .ref (P 0)), (1, .int v1), (2, .int v2), (3, .int v3)] := hl
  rw [w_X9_put] at h
  refine lv_iload_n hx hb dX9_put_0 rfl (lv_at hl 1 rfl) ?_
  refine va_calli (va_runS (As := [.int _]) (rest := []) ⟨hx, hb, hml, hown, hts⟩ (c_X9_isHolder l hI h) (va_cwS 1 hts gs_X9_294 rfl rfl rfl hd_X9_isHolder ⟨Nat.le_of_ble_eq_true rfl, Nat.le_of_ble_eq_true rfl⟩) (preS_M hKX hP hS) rfl rfl hl.1 rfl (lv_room (Nat.le_of_ble_eq_true rfl)) dX9_put_1 ⟨Nat.le_of_ble_eq_true rfl, Nat.le_of_ble_eq_true rfl⟩) hS (fun _ _ h => h) (fun _ h => h) (fun r2 S1 t H locs ht _ h hB _ _ hS => ?_)
  have hP : VM dC dI cA P S1 H := by rw [← ht]; exact hB
  refine lv_if_ne (tgt := 9) hx hb dX9_put_4 (by decide) (fun c3 => ?_) (fun c3 => ?_)
  · replace h := h.2 c3
    refine lv_aload_n hx hb dX9_put_9 rfl (lv_at hl 0 rfl) ?_
    refine lv_iload_n hx hb dX9_put_10 rfl (lv_at hl 1 rfl) ?_
    refine lv_iconst (v := 2) hx hb dX9_put_11 (by decide) ?_
    refine va_calli (va_runV (As := [.int _, .int _]) (rest := []) ⟨hx, hb, hml, hown, hts⟩ (c_X9_whyNot l hI h) (cwV 2 hts gv_X9_302 rfl rfl rfl hv_X9_whyNot ⟨Nat.le_of_ble_eq_true rfl, Nat.le_of_ble_eq_true rfl⟩) (preV_M hKX hP hS (kM_lt (rfl : kdM 0 = 9)) (eM9 (rfl : kdM 0 = 9)) rfl) rfl rfl hl.1 rfl (lv_room (Nat.le_of_ble_eq_true rfl)) dX9_put_12 ⟨Nat.le_of_ble_eq_true rfl, Nat.le_of_ble_eq_true rfl⟩) hS (fun _ _ h => h) (fun _ h => h) (fun r5 S4 t H locs ht _ h hB _ _ hS => ?_)
    have hP : VM dC dI cA P S4 H := by rw [← ht]; exact hB
    refine lv_istore (lv' := [(4, .int r5), (0, .ref (P 0)), (1, .int v1), (2, .int v2), (3, .int v3)]) hx hb dX9_put_15 hl (by decide) rfl (fun ls hl => ?_)
    refine lv_iload hx hb dX9_put_17 (lv_at hl 0 rfl) ?_
    refine lv_if_eq (tgt := 25) hx hb dX9_put_19 (by decide) (fun c6 => ?_) (fun c6 => ?_)
    · replace h := h.1 c6
      refine lv_iload_n hx hb dX9_put_25 rfl (lv_at hl 3 rfl) ?_
      refine lv_i2l hx hb dX9_put_26 rfl ?_
      refine lv_lconst (v := 0) hx hb dX9_put_27 (by decide) ?_
      refine lv_aload_n hx hb dX9_put_28 rfl (lv_at hl 1 rfl) ?_
      refine g_get (v := .ref (P 19)) hx hb hts inG_X9 hown hK hP (kM_lt (rfl : kdM 0 = 9)) (eM9 (rfl : kdM 0 = 9)) rfl 34 (by decide) G_fl_X9_71 rfl rfl dX9_put_29 ?_
      refine lv_iload_n hx hb dX9_put_32 rfl (lv_at hl 2 rfl) ?_
      refine g_ald hx hb hK hP (kM_lt (rfl : kdM 19 = 10)) 0 (eM10 (rfl : kdM 19 = 10)) rfl h.1 dX9_put_33 ?_
      replace h := h.2
      refine lv_iconst (v := 1) hx hb dX9_put_34 (by decide) ?_
      refine lv_isub hx hb dX9_put_35 ?_
      refine lv_i2l hx hb dX9_put_36 rfl ?_
      replace h := h _ rfl
      replace h := h _ rfl
      refine va_calli (va_runS (As := [.long _, .long _, .long _]) (rest := []) ⟨hx, hb, hml, hown, hts⟩ (c_X9_isIn l hI h) (va_cwS 3 hts gs_X9_92 rfl rfl rfl hd_X9_isIn ⟨Nat.le_of_ble_eq_true rfl, Nat.le_of_ble_eq_true rfl⟩) (preS_M hKX hP hS) rfl rfl hl.1 rfl (lv_room (Nat.le_of_ble_eq_true rfl)) dX9_put_37 ⟨Nat.le_of_ble_eq_true rfl, Nat.le_of_ble_eq_true rfl⟩) hS (fun _ _ h => h) (fun _ h => h) (fun r10 S9 t H locs ht _ h hB _ _ hS => ?_)
      have hP : VM dC dI cA P S9 H := by rw [← ht]; exact hB
      refine lv_if_ne (tgt := 46) hx hb dX9_put_40 (by decide) (fun c11 => ?_) (fun c11 => ?_)
      · replace h := h.2 c11
        refine lv_aload_n hx hb dX9_put_46 rfl (lv_at hl 1 rfl) ?_
        refine g_get (v := .ref (P 20)) hx hb hts inG_X9 hown hK hP (kM_lt (rfl : kdM 0 = 9)) (eM9 (rfl : kdM 0 = 9)) rfl 35 (by decide) G_fl_X9_74 rfl rfl dX9_put_47 ?_
        refine lv_bipush (v := 40) hx hb dX9_put_50 (by decide) ?_
        refine lv_iload_n hx hb dX9_put_52 rfl (lv_at hl 2 rfl) ?_
        refine lv_imul hx hb dX9_put_53 ?_
        refine lv_iload_n hx hb dX9_put_54 rfl (lv_at hl 3 rfl) ?_
        refine lv_iadd hx hb dX9_put_55 ?_
        refine lv_iload_n hx hb dX9_put_56 rfl (lv_at hl 4 rfl) ?_
        replace h := h _ rfl
        refine g_ast hx hb hK hI hP hS (kM_lt (rfl : kdM 20 = 10)) 0 (eM10 (rfl : kdM 20 = 10)) rfl h.1 h.2 dX9_put_57 (fun S13 H locs h hP hS => ?_)
        refine lv_iconst (v := 1) hx hb dX9_put_58 (by decide) ?_
        exact g_iret hx hb hr hlocks h hP hS dX9_put_59
      · replace h := h.1 c11
        refine lv_bipush (v := (-13)) hx hb dX9_put_43 (by decide) ?_
        exact g_iret hx hb hr hlocks h hP hS dX9_put_45
    · replace h := h.2 c6
      refine lv_iload hx hb dX9_put_22 (lv_at hl 0 rfl) ?_
      exact g_iret hx hb hr hlocks h hP hS dX9_put_24
  · replace h := h.1 c3
    refine lv_iconst (v := (-1)) hx hb dX9_put_7 (by decide) ?_
    exact g_iret hx hb hr hlocks h hP hS dX9_put_8
set_option maxRecDepth 100000 in
set_option maxHeartbeats 4000000 in
theorem c_X9_get (l : Launch) {dC : Nat → ClassId} {dI : Nat → Nat → Nat} {cA : Nat → ClassId} {P : Nat → Nat} (hI : PInj 25 P) {v1 : Int32} {v2 : Int32}  {post : Int64 → St → Prop} {S : St} (h : w_X9_get v1 v2 post S) : Met l yX9_get (wW yX9_get cX9_get 3 (some .long)) ({ frames := 2, cells := 0, slots := 0, locals := 45 } : Room) (va_Pc [.ref (P 0), .int v1, .int v2] (PreM dC dI cA P S)) (va_Ql post (fun u t => VM dC dI cA P u t.heap) (PA 25 P)) 0 0 (PA 25 P) := by
  refine Met.ofW (cc := cX9_get) (maxL := 3) (ret := (some .long)) (by decide) rfl ?_
  intro p e s m args below meth c s₁ B hml hv
  obtain ⟨rfl, hP, hKX⟩ := hv
  have hts : ∀ w ∈ G, w.before [.ref (P 0), .int v1, .int v2].toArray s = true := fun w hw => atoms_spec (ws := wW yX9_get cX9_get 3 (some .long)) B.pre w (List.mem_cons_of_mem _ hw)
  have C : CtxM dC dI cA P p s m [.ref (P 0), .int v1, .int v2].toArray meth c cX9_get 3 (some .long) RX9 := ⟨hI, hKX, ⟨B.exec, B.bytes, hml, findClass_of_methodNamed B.named, hts⟩, B.returns, B.notSynchronized⟩
  obtain ⟨hI, hKX, ⟨hx, hb, hml, hown, hts⟩, hr, hlocks⟩ := id C
  have hK := hKX
  have hS : va_S (PA 25 P) s.heap s.heap [] := va_S.rf
  have hl := lv_entry ([.ref (P 0), .int v1, .int v2]) (n := 3) (Nat.le_of_ble_eq_true rfl)
  rw [lg_entry_eq]
  generalize (lg_sl ([.ref (P 0), .int v1, .int v2]) ++ List.replicate (3 - (lg_sl ([.ref (P 0), .int v1, .int v2])).length) Slot.unset).toArray = ls at hl ⊢
  have hl : lv_has ls 3 [(0, .ref (P 0)), (1, .int v1), (2, .int v2)] := hl
  rw [w_X9_get] at h
  refine lv_iload_n hx hb dX9_get_0 rfl (lv_at hl 1 rfl) ?_
  refine va_calli (va_runS (As := [.int _]) (rest := []) ⟨hx, hb, hml, hown, hts⟩ (c_X9_isHolder l hI h) (va_cwS 1 hts gs_X9_294 rfl rfl rfl hd_X9_isHolder ⟨Nat.le_of_ble_eq_true rfl, Nat.le_of_ble_eq_true rfl⟩) (preS_M hKX hP hS) rfl rfl hl.1 rfl (lv_room (Nat.le_of_ble_eq_true rfl)) dX9_get_1 ⟨Nat.le_of_ble_eq_true rfl, Nat.le_of_ble_eq_true rfl⟩) hS (fun _ _ h => h) (fun _ h => h) (fun r2 S1 t H locs ht _ h hB _ _ hS => ?_)
  have hP : VM dC dI cA P S1 H := by rw [← ht]; exact hB
  refine lv_if_eq (tgt := 50) hx hb dX9_get_4 (by decide) (fun c3 => ?_) (fun c3 => ?_)
  · replace h := h.1 c3
    refine lv_ldc2 (v := (-9223372036854775808)) hx hb hown (hts _ G_co_X9_207) dX9_get_50 ?_
    exact g_lret hx hb hr hlocks h hP hS dX9_get_53
  · replace h := h.2 c3
    refine lv_aload_n hx hb dX9_get_7 rfl (lv_at hl 0 rfl) ?_
    refine g_get (v := .ref (P 15)) hx hb hts inG_X9 hown hK hP (kM_lt (rfl : kdM 0 = 9)) (eM9 (rfl : kdM 0 = 9)) rfl 30 (by decide) G_fl_X9_59 rfl rfl dX9_get_8 ?_
    refine lv_iload_n hx hb dX9_get_11 rfl (lv_at hl 1 rfl) ?_
    refine g_ald hx hb hK hP (kM_lt (rfl : kdM 15 = 10)) 0 (eM10 (rfl : kdM 15 = 10)) rfl h.1 dX9_get_12 ?_
    replace h := h.2
    refine lv_iconst (v := 2) hx hb dX9_get_13 (by decide) ?_
    refine lv_icmp_ne (tgt := 50) hx hb dX9_get_14 (by decide) (fun c4 => ?_) (fun c4 => ?_)
    · replace h := h.2 c4
      refine lv_ldc2 (v := (-9223372036854775808)) hx hb hown (hts _ G_co_X9_207) dX9_get_50 ?_
      exact g_lret hx hb hr hlocks h hP hS dX9_get_53
    · replace h := h.1 c4
      refine lv_iload_n hx hb dX9_get_17 rfl (lv_at hl 2 rfl) ?_
      refine lv_i2l hx hb dX9_get_18 rfl ?_
      refine lv_lconst (v := 0) hx hb dX9_get_19 (by decide) ?_
      refine lv_aload_n hx hb dX9_get_20 rfl (lv_at hl 0 rfl) ?_
      refine g_get (v := .ref (P 19)) hx hb hts inG_X9 hown hK hP (kM_lt (rfl : kdM 0 = 9)) (eM9 (rfl : kdM 0 = 9)) rfl 34 (by decide) G_fl_X9_71 rfl rfl dX9_get_21 ?_
      refine lv_iload_n hx hb dX9_get_24 rfl (lv_at hl 1 rfl) ?_
      refine g_ald hx hb hK hP (kM_lt (rfl : kdM 19 = 10)) 0 (eM10 (rfl : kdM 19 = 10)) rfl h.1 dX9_get_25 ?_
      replace h := h.2
      refine lv_iconst (v := 1) hx hb dX9_get_26 (by decide) ?_
      refine lv_isub hx hb dX9_get_27 ?_
      refine lv_i2l hx hb dX9_get_28 rfl ?_
      replace h := h _ rfl
      replace h := h _ rfl
      refine va_calli (va_runS (As := [.long _, .long _, .long _]) (rest := []) ⟨hx, hb, hml, hown, hts⟩ (c_X9_isIn l hI h) (va_cwS 3 hts gs_X9_92 rfl rfl rfl hd_X9_isIn ⟨Nat.le_of_ble_eq_true rfl, Nat.le_of_ble_eq_true rfl⟩) (preS_M hKX hP hS) rfl rfl hl.1 rfl (lv_room (Nat.le_of_ble_eq_true rfl)) dX9_get_29 ⟨Nat.le_of_ble_eq_true rfl, Nat.le_of_ble_eq_true rfl⟩) hS (fun _ _ h => h) (fun _ h => h) (fun r8 S7 t H locs ht _ h hB _ _ hS => ?_)
      have hP : VM dC dI cA P S7 H := by rw [← ht]; exact hB
      refine lv_if_eq (tgt := 50) hx hb dX9_get_32 (by decide) (fun c9 => ?_) (fun c9 => ?_)
      · replace h := h.1 c9
        refine lv_ldc2 (v := (-9223372036854775808)) hx hb hown (hts _ G_co_X9_207) dX9_get_50 ?_
        exact g_lret hx hb hr hlocks h hP hS dX9_get_53
      · replace h := h.2 c9
        refine lv_aload_n hx hb dX9_get_35 rfl (lv_at hl 0 rfl) ?_
        refine g_get (v := .ref (P 20)) hx hb hts inG_X9 hown hK hP (kM_lt (rfl : kdM 0 = 9)) (eM9 (rfl : kdM 0 = 9)) rfl 35 (by decide) G_fl_X9_74 rfl rfl dX9_get_36 ?_
        refine lv_bipush (v := 40) hx hb dX9_get_39 (by decide) ?_
        refine lv_iload_n hx hb dX9_get_41 rfl (lv_at hl 1 rfl) ?_
        refine lv_imul hx hb dX9_get_42 ?_
        refine lv_iload_n hx hb dX9_get_43 rfl (lv_at hl 2 rfl) ?_
        refine lv_iadd hx hb dX9_get_44 ?_
        replace h := h _ rfl
        refine g_ald hx hb hK hP (kM_lt (rfl : kdM 20 = 10)) 0 (eM10 (rfl : kdM 20 = 10)) rfl h.1 dX9_get_45 ?_
        replace h := h.2
        refine lv_i2l hx hb dX9_get_46 rfl ?_
        refine lv_goto (tgt := 53) hx hb dX9_get_47 (by decide) ?_
        exact g_lret hx hb hr hlocks h hP hS dX9_get_53
set_option maxRecDepth 100000 in
set_option maxHeartbeats 4000000 in
theorem b_X9_judge_38 {p : Program} {l : Launch} {e : Env} {s : State} {m : MethodId} {args : Array Value} {below : List Frame} {meth : Method} {c : Code} {dC : Nat → ClassId} {dI : Nat → Nat → Nat} {cA : Nat → ClassId} {P : Nat → Nat} (C : CtxM dC dI cA P p s m args meth c cX9_judge 5 (some .int) RX9) {post : Int32 → St → Prop}  : ∀ (n : Nat) (v1 : Int32) (v4 : Int32) (S : St) (H : Heap) (locs : List Loc) (ls : Array Slot), w_X9_judge_38 post n v1 v4 S → VM dC dI cA P S H → va_S (PA 25 P) s.heap H locs → lv_has ls 5 [(0, .ref (P 0)), (1, .int v1), (4, .int v4)] → W p l e ({ frames := 2, cells := 0, slots := 0, locals := 47 } : Room) s m args below meth c H locs 0 0 (MQ below (va_Qi post (fun u t => VM dC dI cA P u t.heap) (PA 25 P)) args s 0 0 (PA 25 P)) (F0 m 38 ls []) := by
  have C := C
  obtain ⟨hI, hKX, ⟨hx, hb, hml, hown, hts⟩, hr, hlocks⟩ := id C
  have hK := hKX
  intro n
  induction n with
  | zero =>
    intro v1 v4 S H locs ls h hP hS hl
    simp only [w_X9_judge_38] at h
  | succ n ih =>
    intro v1 v4 S H locs ls h hP hS hl
    rw [w_X9_judge_38] at h
    refine lv_iload hx hb dX9_judge_38 (lv_at hl 2 rfl) ?_
    refine lv_aload_n hx hb dX9_judge_40 rfl (lv_at hl 0 rfl) ?_
    refine g_get (v := .ref (P 19)) hx hb hts inG_X9 hown hK hP (kM_lt (rfl : kdM 0 = 9)) (eM9 (rfl : kdM 0 = 9)) rfl 34 (by decide) G_fl_X9_71 rfl rfl dX9_judge_41 ?_
    refine lv_iload_n hx hb dX9_judge_44 rfl (lv_at hl 1 rfl) ?_
    refine g_ald hx hb hK hP (kM_lt (rfl : kdM 19 = 10)) 0 (eM10 (rfl : kdM 19 = 10)) rfl h.1 dX9_judge_45 ?_
    replace h := h.2
    refine lv_icmp_ge (tgt := 84) hx hb dX9_judge_46 (by decide) (fun c11 => ?_) (fun c11 => ?_)
    · replace h := h.1 c11
      refine lv_bipush (v := (-2)) hx hb dX9_judge_84 (by decide) ?_
      exact g_iret hx hb hr hlocks h hP hS dX9_judge_86
    · replace h := h.2 c11
      refine lv_aload_n hx hb dX9_judge_49 rfl (lv_at hl 0 rfl) ?_
      refine g_get (v := .ref (P 20)) hx hb hts inG_X9 hown hK hP (kM_lt (rfl : kdM 0 = 9)) (eM9 (rfl : kdM 0 = 9)) rfl 35 (by decide) G_fl_X9_74 rfl rfl dX9_judge_50 ?_
      refine lv_bipush (v := 40) hx hb dX9_judge_53 (by decide) ?_
      refine lv_iload_n hx hb dX9_judge_55 rfl (lv_at hl 1 rfl) ?_
      refine lv_imul hx hb dX9_judge_56 ?_
      refine lv_iload hx hb dX9_judge_57 (lv_at hl 2 rfl) ?_
      refine lv_iadd hx hb dX9_judge_59 ?_
      replace h := h _ rfl
      refine g_ald hx hb hK hP (kM_lt (rfl : kdM 20 = 10)) 0 (eM10 (rfl : kdM 20 = 10)) rfl h.1 dX9_judge_60 ?_
      replace h := h.2
      refine lv_aload_n hx hb dX9_judge_61 rfl (lv_at hl 0 rfl) ?_
      refine g_get (v := .ref (P 6)) hx hb hts inG_X9 hown hK hP (kM_lt (rfl : kdM 0 = 9)) (eM9 (rfl : kdM 0 = 9)) rfl 9 (by decide) G_fl_X9_27 rfl rfl dX9_judge_62 ?_
      refine lv_aload_n hx hb dX9_judge_65 rfl (lv_at hl 0 rfl) ?_
      refine lv_iload hx hb dX9_judge_66 (lv_at hl 2 rfl) ?_
      refine va_calli (va_runV (As := [.int _]) (rest := [.ref _, .int _]) ⟨hx, hb, hml, hown, hts⟩ (c_X9_placeOf l hI h) (cwV 1 hts gv_X9_145 rfl rfl rfl hv_X9_placeOf ⟨Nat.le_of_ble_eq_true rfl, Nat.le_of_ble_eq_true rfl⟩) (preV_M hKX hP hS (kM_lt (rfl : kdM 0 = 9)) (eM9 (rfl : kdM 0 = 9)) rfl) rfl rfl hl.1 rfl (lv_room (Nat.le_of_ble_eq_true rfl)) dX9_judge_68 ⟨Nat.le_of_ble_eq_true rfl, Nat.le_of_ble_eq_true rfl⟩) hS (fun _ _ h => h) (fun _ h => h) (fun r14 S13 t H locs ht _ h hB _ _ hS => ?_)
      have hP : VM dC dI cA P S13 H := by rw [← ht]; exact hB
      refine g_ald hx hb hK hP (kM_lt (rfl : kdM 6 = 10)) 0 (eM10 (rfl : kdM 6 = 10)) rfl h.1 dX9_judge_71 ?_
      replace h := h.2
      refine lv_icmp_eq (tgt := 78) hx hb dX9_judge_72 (by decide) (fun c15 => ?_) (fun c15 => ?_)
      · replace h := h.1 c15
        obtain ⟨x16, ex16⟩ : ∃ y : Int32, y = v4 + 1 := ⟨_, rfl⟩
        replace h := h x16 ex16
        refine lv_iinc (v := x16) (lv' := [(4, .int x16), (0, .ref (P 0)), (1, .int v1)]) hx hb dX9_judge_78 hl (k := 2) rfl (by rw [ex16]; rfl) (by decide) rfl (fun ls hl => ?_)
        refine lv_goto (tgt := 38) hx hb dX9_judge_81 (by decide) ?_
        exact ih _ _ _ _ _ _ h  hP hS (lv_sub hl [1, 2, 0] rfl)
      · replace h := h.2 c15
        refine lv_iload hx hb dX9_judge_75 (lv_at hl 2 rfl) ?_
        exact g_iret hx hb hr hlocks h hP hS dX9_judge_77
set_option maxRecDepth 100000 in
set_option maxHeartbeats 4000000 in
theorem c_X9_judge (l : Launch) {dC : Nat → ClassId} {dI : Nat → Nat → Nat} {cA : Nat → ClassId} {P : Nat → Nat} (hI : PInj 25 P) {v1 : Int32} {v2 : Int32}  {post : Int32 → St → Prop} {S : St} (h : w_X9_judge v1 v2 post S) : Met l yX9_judge (wW yX9_judge cX9_judge 5 (some .int)) ({ frames := 2, cells := 0, slots := 0, locals := 47 } : Room) (va_Pc [.ref (P 0), .int v1, .int v2] (PreM dC dI cA P S)) (va_Qi post (fun u t => VM dC dI cA P u t.heap) (PA 25 P)) 0 0 (PA 25 P) := by
  refine Met.ofW (cc := cX9_judge) (maxL := 5) (ret := (some .int)) (by decide) rfl ?_
  intro p e s m args below meth c s₁ B hml hv
  obtain ⟨rfl, hP, hKX⟩ := hv
  have hts : ∀ w ∈ G, w.before [.ref (P 0), .int v1, .int v2].toArray s = true := fun w hw => atoms_spec (ws := wW yX9_judge cX9_judge 5 (some .int)) B.pre w (List.mem_cons_of_mem _ hw)
  have C : CtxM dC dI cA P p s m [.ref (P 0), .int v1, .int v2].toArray meth c cX9_judge 5 (some .int) RX9 := ⟨hI, hKX, ⟨B.exec, B.bytes, hml, findClass_of_methodNamed B.named, hts⟩, B.returns, B.notSynchronized⟩
  obtain ⟨hI, hKX, ⟨hx, hb, hml, hown, hts⟩, hr, hlocks⟩ := id C
  have hK := hKX
  have hS : va_S (PA 25 P) s.heap s.heap [] := va_S.rf
  have hl := lv_entry ([.ref (P 0), .int v1, .int v2]) (n := 5) (Nat.le_of_ble_eq_true rfl)
  rw [lg_entry_eq]
  generalize (lg_sl ([.ref (P 0), .int v1, .int v2]) ++ List.replicate (5 - (lg_sl ([.ref (P 0), .int v1, .int v2])).length) Slot.unset).toArray = ls at hl ⊢
  have hl : lv_has ls 5 [(0, .ref (P 0)), (1, .int v1), (2, .int v2)] := hl
  rw [w_X9_judge] at h
  refine lv_iload_n hx hb dX9_judge_0 rfl (lv_at hl 1 rfl) ?_
  refine va_calli (va_runS (As := [.int _]) (rest := []) ⟨hx, hb, hml, hown, hts⟩ (c_X9_isHolder l hI h) (va_cwS 1 hts gs_X9_294 rfl rfl rfl hd_X9_isHolder ⟨Nat.le_of_ble_eq_true rfl, Nat.le_of_ble_eq_true rfl⟩) (preS_M hKX hP hS) rfl rfl hl.1 rfl (lv_room (Nat.le_of_ble_eq_true rfl)) dX9_judge_1 ⟨Nat.le_of_ble_eq_true rfl, Nat.le_of_ble_eq_true rfl⟩) hS (fun _ _ h => h) (fun _ h => h) (fun r2 S1 t H locs ht _ h hB _ _ hS => ?_)
  have hP : VM dC dI cA P S1 H := by rw [← ht]; exact hB
  refine lv_if_eq (tgt := 15) hx hb dX9_judge_4 (by decide) (fun c3 => ?_) (fun c3 => ?_)
  · replace h := h.1 c3
    refine lv_iconst (v := (-1)) hx hb dX9_judge_15 (by decide) ?_
    exact g_iret hx hb hr hlocks h hP hS dX9_judge_16
  · replace h := h.2 c3
    refine lv_aload_n hx hb dX9_judge_7 rfl (lv_at hl 0 rfl) ?_
    refine lv_iload_n hx hb dX9_judge_8 rfl (lv_at hl 2 rfl) ?_
    refine va_calli (va_runV (As := [.int _]) (rest := []) ⟨hx, hb, hml, hown, hts⟩ (c_X9_isFraction l hI h) (cwV 1 hts gv_X9_126 rfl rfl rfl hv_X9_isFraction ⟨Nat.le_of_ble_eq_true rfl, Nat.le_of_ble_eq_true rfl⟩) (preV_M hKX hP hS (kM_lt (rfl : kdM 0 = 9)) (eM9 (rfl : kdM 0 = 9)) rfl) rfl rfl hl.1 rfl (lv_room (Nat.le_of_ble_eq_true rfl)) dX9_judge_9 ⟨Nat.le_of_ble_eq_true rfl, Nat.le_of_ble_eq_true rfl⟩) hS (fun _ _ h => h) (fun _ h => h) (fun r5 S4 t H locs ht _ h hB _ _ hS => ?_)
    have hP : VM dC dI cA P S4 H := by rw [← ht]; exact hB
    refine lv_if_ne (tgt := 17) hx hb dX9_judge_12 (by decide) (fun c6 => ?_) (fun c6 => ?_)
    · replace h := h.2 c6
      refine lv_aload_n hx hb dX9_judge_17 rfl (lv_at hl 0 rfl) ?_
      refine lv_iload_n hx hb dX9_judge_18 rfl (lv_at hl 1 rfl) ?_
      refine lv_iconst (v := 2) hx hb dX9_judge_19 (by decide) ?_
      refine va_calli (va_runV (As := [.int _, .int _]) (rest := []) ⟨hx, hb, hml, hown, hts⟩ (c_X9_whyNot l hI h) (cwV 2 hts gv_X9_302 rfl rfl rfl hv_X9_whyNot ⟨Nat.le_of_ble_eq_true rfl, Nat.le_of_ble_eq_true rfl⟩) (preV_M hKX hP hS (kM_lt (rfl : kdM 0 = 9)) (eM9 (rfl : kdM 0 = 9)) rfl) rfl rfl hl.1 rfl (lv_room (Nat.le_of_ble_eq_true rfl)) dX9_judge_20 ⟨Nat.le_of_ble_eq_true rfl, Nat.le_of_ble_eq_true rfl⟩) hS (fun _ _ h => h) (fun _ h => h) (fun r8 S7 t H locs ht _ h hB _ _ hS => ?_)
      have hP : VM dC dI cA P S7 H := by rw [← ht]; exact hB
      refine lv_istore_n (lv' := [(3, .int r8), (0, .ref (P 0)), (1, .int v1), (2, .int v2)]) hx hb dX9_judge_23 rfl hl (by decide) rfl (fun ls hl => ?_)
      refine lv_iload_n hx hb dX9_judge_24 rfl (lv_at hl 0 rfl) ?_
      refine lv_if_eq (tgt := 30) hx hb dX9_judge_25 (by decide) (fun c9 => ?_) (fun c9 => ?_)
      · replace h := h.1 c9
        refine lv_aload_n hx hb dX9_judge_30 rfl (lv_at hl 1 rfl) ?_
        refine lv_iload_n hx hb dX9_judge_31 rfl (lv_at hl 3 rfl) ?_
        refine va_callv (va_runV (As := [.int _]) (rest := []) ⟨hx, hb, hml, hown, hts⟩ (c_X9_looksAt l hI h) (cwV 1 hts gv_X9_137 rfl rfl rfl hv_X9_looksAt ⟨Nat.le_of_ble_eq_true rfl, Nat.le_of_ble_eq_true rfl⟩) (preV_M hKX hP hS (kM_lt (rfl : kdM 0 = 9)) (eM9 (rfl : kdM 0 = 9)) rfl) rfl rfl hl.1 rfl (lv_room (Nat.le_of_ble_eq_true rfl)) dX9_judge_32 ⟨Nat.le_of_ble_eq_true rfl, Nat.le_of_ble_eq_true rfl⟩) hS (fun _ _ h => h) (fun _ h => h) (fun S10 t H locs ht _ h hB _ _ hS => ?_)
        have hP : VM dC dI cA P S10 H := by rw [← ht]; exact hB
        refine lv_iconst (v := 0) hx hb dX9_judge_35 (by decide) ?_
        refine lv_istore (lv' := [(4, .int 0), (3, .int r8), (0, .ref (P 0)), (1, .int v1), (2, .int v2)]) hx hb dX9_judge_36 hl (by decide) rfl (fun ls hl => ?_)
        obtain ⟨n17, h⟩ := h
        exact b_X9_judge_38 C n17 _ _ _ _ _ _ h  hP hS (lv_sub hl [2, 3, 0] rfl)
      · replace h := h.2 c9
        refine lv_iload_n hx hb dX9_judge_28 rfl (lv_at hl 0 rfl) ?_
        exact g_iret hx hb hr hlocks h hP hS dX9_judge_29
    · replace h := h.1 c6
      refine lv_iconst (v := (-1)) hx hb dX9_judge_15 (by decide) ?_
      exact g_iret hx hb hr hlocks h hP hS dX9_judge_16
set_option maxRecDepth 100000 in
set_option maxHeartbeats 4000000 in
theorem b_X9_image_83 {p : Program} {l : Launch} {e : Env} {s : State} {m : MethodId} {args : Array Value} {below : List Frame} {meth : Method} {c : Code} {dC : Nat → ClassId} {dI : Nat → Nat → Nat} {cA : Nat → ClassId} {P : Nat → Nat} (C : CtxM dC dI cA P p s m args meth c cX9_image 2 (some .int) RX9) {post : Int32 → St → Prop}  : ∀ (n : Nat) (v1 : Int32) (S : St) (H : Heap) (locs : List Loc) (ls : Array Slot), w_X9_image_83 post n v1 S → VM dC dI cA P S H → va_S (PA 25 P) s.heap H locs → lv_has ls 2 [(0, .ref (P 0)), (1, .int v1)] → W p l e ({ frames := 0, cells := 0, slots := 0, locals := 0 } : Room) s m args below meth c H locs 0 0 (MQ below (va_Qi post (fun u t => VM dC dI cA P u t.heap) (PA 25 P)) args s 0 0 (PA 25 P)) (F0 m 83 ls []) := by
  have C := C
  obtain ⟨hI, hKX, ⟨hx, hb, hml, hown, hts⟩, hr, hlocks⟩ := id C
  have hK := hKX
  intro n
  induction n with
  | zero =>
    intro v1 S H locs ls h hP hS hl
    simp only [w_X9_image_83] at h
  | succ n ih =>
    intro v1 S H locs ls h hP hS hl
    rw [w_X9_image_83] at h
    refine lv_iload_n hx hb dX9_image_83 rfl (lv_at hl 1 rfl) ?_
    refine lv_aload_n hx hb dX9_image_84 rfl (lv_at hl 0 rfl) ?_
    refine g_get (v := .int (S.1 0 14)) hx hb hts inG_X9 hown hK hP (kM_lt (rfl : kdM 0 = 9)) (eM9 (rfl : kdM 0 = 9)) rfl 14 (by decide) G_fl_X9_194 rfl rfl dX9_image_85 ?_
    refine lv_icmp_ge (tgt := 109) hx hb dX9_image_88 (by decide) (fun c9 => ?_) (fun c9 => ?_)
    · replace h := h.1 c9
      refine lv_aload_n hx hb dX9_image_109 rfl (lv_at hl 0 rfl) ?_
      refine g_get (v := .int (S.1 0 0)) hx hb hts inG_X9 hown hK hP (kM_lt (rfl : kdM 0 = 9)) (eM9 (rfl : kdM 0 = 9)) rfl 0 (by decide) G_fl_X9_89 rfl rfl dX9_image_110 ?_
      exact g_iret hx hb hr hlocks h hP hS dX9_image_113
    · replace h := h.2 c9
      refine lv_aload_n hx hb dX9_image_91 rfl (lv_at hl 0 rfl) ?_
      refine g_get (v := .ref (P 24)) hx hb hts inG_X9 hown hK hP (kM_lt (rfl : kdM 0 = 9)) (eM9 (rfl : kdM 0 = 9)) rfl 43 (by decide) G_fl_X9_86 rfl rfl dX9_image_92 ?_
      refine lv_iload_n hx hb dX9_image_95 rfl (lv_at hl 1 rfl) ?_
      refine lv_aload_n hx hb dX9_image_96 rfl (lv_at hl 0 rfl) ?_
      refine g_get (v := .ref (P 9)) hx hb hts inG_X9 hown hK hP (kM_lt (rfl : kdM 0 = 9)) (eM9 (rfl : kdM 0 = 9)) rfl 16 (by decide) G_fl_X9_40 rfl rfl dX9_image_97 ?_
      refine lv_iload_n hx hb dX9_image_100 rfl (lv_at hl 1 rfl) ?_
      refine g_ald hx hb hK hP (kM_lt (rfl : kdM 9 = 10)) 0 (eM10 (rfl : kdM 9 = 10)) rfl h.1 dX9_image_101 ?_
      replace h := h.2
      replace h := h _ rfl
      refine g_ast hx hb hK hI hP hS (kM_lt (rfl : kdM 24 = 10)) 0 (eM10 (rfl : kdM 24 = 10)) rfl h.1 h.2 dX9_image_102 (fun S11 H locs h hP hS => ?_)
      obtain ⟨x12, ex12⟩ : ∃ y : Int32, y = v1 + 1 := ⟨_, rfl⟩
      replace h := h x12 ex12
      refine lv_iinc (v := x12) (lv' := [(1, .int x12), (0, .ref (P 0))]) hx hb dX9_image_103 hl (k := 1) rfl (by rw [ex12]; rfl) (by decide) rfl (fun ls hl => ?_)
      refine lv_goto (tgt := 83) hx hb dX9_image_106 (by decide) ?_
      exact ih _ _ _ _ _ h  hP hS (lv_sub hl [1, 0] rfl)
set_option maxRecDepth 100000 in
set_option maxHeartbeats 4000000 in
theorem b_X9_image_15 {p : Program} {l : Launch} {e : Env} {s : State} {m : MethodId} {args : Array Value} {below : List Frame} {meth : Method} {c : Code} {dC : Nat → ClassId} {dI : Nat → Nat → Nat} {cA : Nat → ClassId} {P : Nat → Nat} (C : CtxM dC dI cA P p s m args meth c cX9_image 2 (some .int) RX9) {post : Int32 → St → Prop}  : ∀ (n : Nat) (v1 : Int32) (S : St) (H : Heap) (locs : List Loc) (ls : Array Slot), w_X9_image_15 post n v1 S → VM dC dI cA P S H → va_S (PA 25 P) s.heap H locs → lv_has ls 2 [(0, .ref (P 0)), (1, .int v1)] → W p l e ({ frames := 0, cells := 0, slots := 0, locals := 0 } : Room) s m args below meth c H locs 0 0 (MQ below (va_Qi post (fun u t => VM dC dI cA P u t.heap) (PA 25 P)) args s 0 0 (PA 25 P)) (F0 m 15 ls []) := by
  have C := C
  obtain ⟨hI, hKX, ⟨hx, hb, hml, hown, hts⟩, hr, hlocks⟩ := id C
  have hK := hKX
  intro n
  induction n with
  | zero =>
    intro v1 S H locs ls h hP hS hl
    simp only [w_X9_image_15] at h
  | succ n ih =>
    intro v1 S H locs ls h hP hS hl
    rw [w_X9_image_15] at h
    refine lv_iload_n hx hb dX9_image_15 rfl (lv_at hl 1 rfl) ?_
    refine lv_aload_n hx hb dX9_image_16 rfl (lv_at hl 0 rfl) ?_
    refine g_get (v := .int (S.1 0 0)) hx hb hts inG_X9 hown hK hP (kM_lt (rfl : kdM 0 = 9)) (eM9 (rfl : kdM 0 = 9)) rfl 0 (by decide) G_fl_X9_89 rfl rfl dX9_image_17 ?_
    refine lv_icmp_ge (tgt := 65) hx hb dX9_image_20 (by decide) (fun c4 => ?_) (fun c4 => ?_)
    · replace h := h.1 c4
      refine lv_aload_n hx hb dX9_image_65 rfl (lv_at hl 0 rfl) ?_
      refine lv_aload_n hx hb dX9_image_66 rfl (lv_at hl 0 rfl) ?_
      refine g_get (v := .int (S.1 0 14)) hx hb hts inG_X9 hown hK hP (kM_lt (rfl : kdM 0 = 9)) (eM9 (rfl : kdM 0 = 9)) rfl 14 (by decide) G_fl_X9_194 rfl rfl dX9_image_67 ?_
      replace h := h _ rfl
      refine g_putI hx hb hts inG_X9 tyX9 tyX9_ok nmX9 hown hK hI hP hS (kM_lt (rfl : kdM 0 = 9)) (eM9 (rfl : kdM 0 = 9)) rfl 41 (by decide) G_fl_X9_311 rfl rfl (ty := .int) (by decide +kernel) rfl rfl (Nat.le_of_ble_eq_true rfl) rfl h dX9_image_70 (fun S6 H locs h hP hS => ?_)
      refine lv_aload_n hx hb dX9_image_73 rfl (lv_at hl 0 rfl) ?_
      refine lv_aload_n hx hb dX9_image_74 rfl (lv_at hl 0 rfl) ?_
      refine g_get (v := .int (S6.1 0 15)) hx hb hts inG_X9 hown hK hP (kM_lt (rfl : kdM 0 = 9)) (eM9 (rfl : kdM 0 = 9)) rfl 15 (by decide) G_fl_X9_36 rfl rfl dX9_image_75 ?_
      replace h := h _ rfl
      refine g_putI hx hb hts inG_X9 tyX9 tyX9_ok nmX9 hown hK hI hP hS (kM_lt (rfl : kdM 0 = 9)) (eM9 (rfl : kdM 0 = 9)) rfl 42 (by decide) G_fl_X9_314 rfl rfl (ty := .int) (by decide +kernel) rfl rfl (Nat.le_of_ble_eq_true rfl) rfl h dX9_image_78 (fun S8 H locs h hP hS => ?_)
      refine lv_iconst (v := 0) hx hb dX9_image_81 (by decide) ?_
      refine lv_istore_n (lv' := [(1, .int 0), (0, .ref (P 0))]) hx hb dX9_image_82 rfl hl (by decide) rfl (fun ls hl => ?_)
      obtain ⟨n13, h⟩ := h
      exact b_X9_image_83 C n13 _ _ _ _ _ h  hP hS (lv_sub hl [1, 0] rfl)
    · replace h := h.2 c4
      refine lv_aload_n hx hb dX9_image_23 rfl (lv_at hl 0 rfl) ?_
      refine g_get (v := .ref (P 21)) hx hb hts inG_X9 hown hK hP (kM_lt (rfl : kdM 0 = 9)) (eM9 (rfl : kdM 0 = 9)) rfl 38 (by decide) G_fl_X9_77 rfl rfl dX9_image_24 ?_
      refine lv_iload_n hx hb dX9_image_27 rfl (lv_at hl 1 rfl) ?_
      refine lv_aload_n hx hb dX9_image_28 rfl (lv_at hl 0 rfl) ?_
      refine g_get (v := .ref (P 1)) hx hb hts inG_X9 hown hK hP (kM_lt (rfl : kdM 0 = 9)) (eM9 (rfl : kdM 0 = 9)) rfl 1 (by decide) G_fl_X9_11 rfl rfl dX9_image_29 ?_
      refine lv_iload_n hx hb dX9_image_32 rfl (lv_at hl 1 rfl) ?_
      refine g_ald hx hb hK hP (kM_lt (rfl : kdM 1 = 10)) 0 (eM10 (rfl : kdM 1 = 10)) rfl h.1 dX9_image_33 ?_
      replace h := h.2
      replace h := h _ rfl
      refine g_ast hx hb hK hI hP hS (kM_lt (rfl : kdM 21 = 10)) 0 (eM10 (rfl : kdM 21 = 10)) rfl h.1 h.2 dX9_image_34 (fun S15 H locs h hP hS => ?_)
      refine lv_aload_n hx hb dX9_image_35 rfl (lv_at hl 0 rfl) ?_
      refine g_get (v := .ref (P 22)) hx hb hts inG_X9 hown hK hP (kM_lt (rfl : kdM 0 = 9)) (eM9 (rfl : kdM 0 = 9)) rfl 39 (by decide) G_fl_X9_80 rfl rfl dX9_image_36 ?_
      refine lv_iload_n hx hb dX9_image_39 rfl (lv_at hl 1 rfl) ?_
      refine lv_aload_n hx hb dX9_image_40 rfl (lv_at hl 0 rfl) ?_
      refine g_get (v := .ref (P 2)) hx hb hts inG_X9 hown hK hP (kM_lt (rfl : kdM 0 = 9)) (eM9 (rfl : kdM 0 = 9)) rfl 2 (by decide) G_fl_X9_15 rfl rfl dX9_image_41 ?_
      refine lv_iload_n hx hb dX9_image_44 rfl (lv_at hl 1 rfl) ?_
      refine g_ald hx hb hK hP (kM_lt (rfl : kdM 2 = 10)) 0 (eM10 (rfl : kdM 2 = 10)) rfl h.1 dX9_image_45 ?_
      replace h := h.2
      replace h := h _ rfl
      refine g_ast hx hb hK hI hP hS (kM_lt (rfl : kdM 22 = 10)) 0 (eM10 (rfl : kdM 22 = 10)) rfl h.1 h.2 dX9_image_46 (fun S17 H locs h hP hS => ?_)
      refine lv_aload_n hx hb dX9_image_47 rfl (lv_at hl 0 rfl) ?_
      refine g_get (v := .ref (P 23)) hx hb hts inG_X9 hown hK hP (kM_lt (rfl : kdM 0 = 9)) (eM9 (rfl : kdM 0 = 9)) rfl 40 (by decide) G_fl_X9_83 rfl rfl dX9_image_48 ?_
      refine lv_iload_n hx hb dX9_image_51 rfl (lv_at hl 1 rfl) ?_
      refine lv_aload_n hx hb dX9_image_52 rfl (lv_at hl 0 rfl) ?_
      refine g_get (v := .ref (P 3)) hx hb hts inG_X9 hown hK hP (kM_lt (rfl : kdM 0 = 9)) (eM9 (rfl : kdM 0 = 9)) rfl 3 (by decide) G_fl_X9_18 rfl rfl dX9_image_53 ?_
      refine lv_iload_n hx hb dX9_image_56 rfl (lv_at hl 1 rfl) ?_
      refine g_ald hx hb hK hP (kM_lt (rfl : kdM 3 = 10)) 0 (eM10 (rfl : kdM 3 = 10)) rfl h.1 dX9_image_57 ?_
      replace h := h.2
      replace h := h _ rfl
      refine g_ast hx hb hK hI hP hS (kM_lt (rfl : kdM 23 = 10)) 0 (eM10 (rfl : kdM 23 = 10)) rfl h.1 h.2 dX9_image_58 (fun S19 H locs h hP hS => ?_)
      obtain ⟨x20, ex20⟩ : ∃ y : Int32, y = v1 + 1 := ⟨_, rfl⟩
      replace h := h x20 ex20
      refine lv_iinc (v := x20) (lv' := [(1, .int x20), (0, .ref (P 0))]) hx hb dX9_image_59 hl (k := 1) rfl (by rw [ex20]; rfl) (by decide) rfl (fun ls hl => ?_)
      refine lv_goto (tgt := 15) hx hb dX9_image_62 (by decide) ?_
      exact ih _ _ _ _ _ h  hP hS (lv_sub hl [1, 0] rfl)
set_option maxRecDepth 100000 in
set_option maxHeartbeats 4000000 in
theorem c_X9_image (l : Launch) {dC : Nat → ClassId} {dI : Nat → Nat → Nat} {cA : Nat → ClassId} {P : Nat → Nat} (hI : PInj 25 P)   {post : Int32 → St → Prop} {S : St} (h : w_X9_image  post S) : Met l yX9_image (wW yX9_image cX9_image 2 (some .int)) ({ frames := 0, cells := 0, slots := 0, locals := 0 } : Room) (va_Pc [.ref (P 0)] (PreM dC dI cA P S)) (va_Qi post (fun u t => VM dC dI cA P u t.heap) (PA 25 P)) 0 0 (PA 25 P) := by
  refine Met.ofW (cc := cX9_image) (maxL := 2) (ret := (some .int)) (by decide) rfl ?_
  intro p e s m args below meth c s₁ B hml hv
  obtain ⟨rfl, hP, hKX⟩ := hv
  have hts : ∀ w ∈ G, w.before [.ref (P 0)].toArray s = true := fun w hw => atoms_spec (ws := wW yX9_image cX9_image 2 (some .int)) B.pre w (List.mem_cons_of_mem _ hw)
  have C : CtxM dC dI cA P p s m [.ref (P 0)].toArray meth c cX9_image 2 (some .int) RX9 := ⟨hI, hKX, ⟨B.exec, B.bytes, hml, findClass_of_methodNamed B.named, hts⟩, B.returns, B.notSynchronized⟩
  obtain ⟨hI, hKX, ⟨hx, hb, hml, hown, hts⟩, hr, hlocks⟩ := id C
  have hK := hKX
  have hS : va_S (PA 25 P) s.heap s.heap [] := va_S.rf
  have hl := lv_entry ([.ref (P 0)]) (n := 2) (Nat.le_of_ble_eq_true rfl)
  rw [lg_entry_eq]
  generalize (lg_sl ([.ref (P 0)]) ++ List.replicate (2 - (lg_sl ([.ref (P 0)])).length) Slot.unset).toArray = ls at hl ⊢
  have hl : lv_has ls 2 [(0, .ref (P 0))] := hl
  rw [w_X9_image] at h
  refine lv_aload_n hx hb dX9_image_0 rfl (lv_at hl 0 rfl) ?_
  refine lv_iconst (v := 1) hx hb dX9_image_1 (by decide) ?_
  refine g_putI hx hb hts inG_X9 tyX9 tyX9_ok nmX9 hown hK hI hP hS (kM_lt (rfl : kdM 0 = 9)) (eM9 (rfl : kdM 0 = 9)) rfl 36 (by decide) G_fl_X9_305 rfl rfl (ty := .boolean) (by decide +kernel) bz_1.1 bz_1.2 (Nat.le_of_ble_eq_true rfl) rfl h dX9_image_2 (fun S1 H locs h hP hS => ?_)
  refine lv_aload_n hx hb dX9_image_5 rfl (lv_at hl 0 rfl) ?_
  refine lv_aload_n hx hb dX9_image_6 rfl (lv_at hl 0 rfl) ?_
  refine g_get (v := .int (S1.1 0 0)) hx hb hts inG_X9 hown hK hP (kM_lt (rfl : kdM 0 = 9)) (eM9 (rfl : kdM 0 = 9)) rfl 0 (by decide) G_fl_X9_89 rfl rfl dX9_image_7 ?_
  replace h := h _ rfl
  refine g_putI hx hb hts inG_X9 tyX9 tyX9_ok nmX9 hown hK hI hP hS (kM_lt (rfl : kdM 0 = 9)) (eM9 (rfl : kdM 0 = 9)) rfl 37 (by decide) G_fl_X9_308 rfl rfl (ty := .int) (by decide +kernel) rfl rfl (Nat.le_of_ble_eq_true rfl) rfl h dX9_image_10 (fun S3 H locs h hP hS => ?_)
  refine lv_iconst (v := 0) hx hb dX9_image_13 (by decide) ?_
  refine lv_istore_n (lv' := [(1, .int 0), (0, .ref (P 0))]) hx hb dX9_image_14 rfl hl (by decide) rfl (fun ls hl => ?_)
  obtain ⟨n21, h⟩ := h
  exact b_X9_image_15 C n21 _ _ _ _ _ h  hP hS (lv_sub hl [1, 0] rfl)
set_option maxRecDepth 100000 in
set_option maxHeartbeats 4000000 in
theorem b_X9_undo_88 {p : Program} {l : Launch} {e : Env} {s : State} {m : MethodId} {args : Array Value} {below : List Frame} {meth : Method} {c : Code} {dC : Nat → ClassId} {dI : Nat → Nat → Nat} {cA : Nat → ClassId} {P : Nat → Nat} (C : CtxM dC dI cA P p s m args meth c cX9_undo 2 (some .int) RX9) {post : Int32 → St → Prop}  : ∀ (n : Nat) (v1 : Int32) (S : St) (H : Heap) (locs : List Loc) (ls : Array Slot), w_X9_undo_88 post n v1 S → VM dC dI cA P S H → va_S (PA 25 P) s.heap H locs → lv_has ls 2 [(0, .ref (P 0)), (1, .int v1)] → W p l e ({ frames := 0, cells := 0, slots := 0, locals := 0 } : Room) s m args below meth c H locs 0 0 (MQ below (va_Qi post (fun u t => VM dC dI cA P u t.heap) (PA 25 P)) args s 0 0 (PA 25 P)) (F0 m 88 ls []) := by
  have C := C
  obtain ⟨hI, hKX, ⟨hx, hb, hml, hown, hts⟩, hr, hlocks⟩ := id C
  have hK := hKX
  intro n
  induction n with
  | zero =>
    intro v1 S H locs ls h hP hS hl
    simp only [w_X9_undo_88] at h
  | succ n ih =>
    intro v1 S H locs ls h hP hS hl
    rw [w_X9_undo_88] at h
    refine lv_iload_n hx hb dX9_undo_88 rfl (lv_at hl 1 rfl) ?_
    refine lv_aload_n hx hb dX9_undo_89 rfl (lv_at hl 0 rfl) ?_
    refine g_get (v := .int (S.1 0 14)) hx hb hts inG_X9 hown hK hP (kM_lt (rfl : kdM 0 = 9)) (eM9 (rfl : kdM 0 = 9)) rfl 14 (by decide) G_fl_X9_194 rfl rfl dX9_undo_90 ?_
    refine lv_icmp_ge (tgt := 114) hx hb dX9_undo_93 (by decide) (fun c9 => ?_) (fun c9 => ?_)
    · replace h := h.1 c9
      refine lv_aload_n hx hb dX9_undo_114 rfl (lv_at hl 0 rfl) ?_
      refine g_get (v := .int (S.1 0 0)) hx hb hts inG_X9 hown hK hP (kM_lt (rfl : kdM 0 = 9)) (eM9 (rfl : kdM 0 = 9)) rfl 0 (by decide) G_fl_X9_89 rfl rfl dX9_undo_115 ?_
      exact g_iret hx hb hr hlocks h hP hS dX9_undo_118
    · replace h := h.2 c9
      refine lv_aload_n hx hb dX9_undo_96 rfl (lv_at hl 0 rfl) ?_
      refine g_get (v := .ref (P 9)) hx hb hts inG_X9 hown hK hP (kM_lt (rfl : kdM 0 = 9)) (eM9 (rfl : kdM 0 = 9)) rfl 16 (by decide) G_fl_X9_40 rfl rfl dX9_undo_97 ?_
      refine lv_iload_n hx hb dX9_undo_100 rfl (lv_at hl 1 rfl) ?_
      refine lv_aload_n hx hb dX9_undo_101 rfl (lv_at hl 0 rfl) ?_
      refine g_get (v := .ref (P 24)) hx hb hts inG_X9 hown hK hP (kM_lt (rfl : kdM 0 = 9)) (eM9 (rfl : kdM 0 = 9)) rfl 43 (by decide) G_fl_X9_86 rfl rfl dX9_undo_102 ?_
      refine lv_iload_n hx hb dX9_undo_105 rfl (lv_at hl 1 rfl) ?_
      refine g_ald hx hb hK hP (kM_lt (rfl : kdM 24 = 10)) 0 (eM10 (rfl : kdM 24 = 10)) rfl h.1 dX9_undo_106 ?_
      replace h := h.2
      replace h := h _ rfl
      refine g_ast hx hb hK hI hP hS (kM_lt (rfl : kdM 9 = 10)) 0 (eM10 (rfl : kdM 9 = 10)) rfl h.1 h.2 dX9_undo_107 (fun S11 H locs h hP hS => ?_)
      obtain ⟨x12, ex12⟩ : ∃ y : Int32, y = v1 + 1 := ⟨_, rfl⟩
      replace h := h x12 ex12
      refine lv_iinc (v := x12) (lv' := [(1, .int x12), (0, .ref (P 0))]) hx hb dX9_undo_108 hl (k := 1) rfl (by rw [ex12]; rfl) (by decide) rfl (fun ls hl => ?_)
      refine lv_goto (tgt := 88) hx hb dX9_undo_111 (by decide) ?_
      exact ih _ _ _ _ _ h  hP hS (lv_sub hl [1, 0] rfl)
set_option maxRecDepth 100000 in
set_option maxHeartbeats 4000000 in
theorem b_X9_undo_20 {p : Program} {l : Launch} {e : Env} {s : State} {m : MethodId} {args : Array Value} {below : List Frame} {meth : Method} {c : Code} {dC : Nat → ClassId} {dI : Nat → Nat → Nat} {cA : Nat → ClassId} {P : Nat → Nat} (C : CtxM dC dI cA P p s m args meth c cX9_undo 2 (some .int) RX9) {post : Int32 → St → Prop}  : ∀ (n : Nat) (v1 : Int32) (S : St) (H : Heap) (locs : List Loc) (ls : Array Slot), w_X9_undo_20 post n v1 S → VM dC dI cA P S H → va_S (PA 25 P) s.heap H locs → lv_has ls 2 [(0, .ref (P 0)), (1, .int v1)] → W p l e ({ frames := 0, cells := 0, slots := 0, locals := 0 } : Room) s m args below meth c H locs 0 0 (MQ below (va_Qi post (fun u t => VM dC dI cA P u t.heap) (PA 25 P)) args s 0 0 (PA 25 P)) (F0 m 20 ls []) := by
  have C := C
  obtain ⟨hI, hKX, ⟨hx, hb, hml, hown, hts⟩, hr, hlocks⟩ := id C
  have hK := hKX
  intro n
  induction n with
  | zero =>
    intro v1 S H locs ls h hP hS hl
    simp only [w_X9_undo_20] at h
  | succ n ih =>
    intro v1 S H locs ls h hP hS hl
    rw [w_X9_undo_20] at h
    refine lv_iload_n hx hb dX9_undo_20 rfl (lv_at hl 1 rfl) ?_
    refine lv_aload_n hx hb dX9_undo_21 rfl (lv_at hl 0 rfl) ?_
    refine g_get (v := .int (S.1 0 0)) hx hb hts inG_X9 hown hK hP (kM_lt (rfl : kdM 0 = 9)) (eM9 (rfl : kdM 0 = 9)) rfl 0 (by decide) G_fl_X9_89 rfl rfl dX9_undo_22 ?_
    refine lv_icmp_ge (tgt := 70) hx hb dX9_undo_25 (by decide) (fun c4 => ?_) (fun c4 => ?_)
    · replace h := h.1 c4
      refine lv_aload_n hx hb dX9_undo_70 rfl (lv_at hl 0 rfl) ?_
      refine lv_aload_n hx hb dX9_undo_71 rfl (lv_at hl 0 rfl) ?_
      refine g_get (v := .int (S.1 0 41)) hx hb hts inG_X9 hown hK hP (kM_lt (rfl : kdM 0 = 9)) (eM9 (rfl : kdM 0 = 9)) rfl 41 (by decide) G_fl_X9_311 rfl rfl dX9_undo_72 ?_
      replace h := h _ rfl
      refine g_putI hx hb hts inG_X9 tyX9 tyX9_ok nmX9 hown hK hI hP hS (kM_lt (rfl : kdM 0 = 9)) (eM9 (rfl : kdM 0 = 9)) rfl 14 (by decide) G_fl_X9_194 rfl rfl (ty := .int) (by decide +kernel) rfl rfl (Nat.le_of_ble_eq_true rfl) rfl h dX9_undo_75 (fun S6 H locs h hP hS => ?_)
      refine lv_aload_n hx hb dX9_undo_78 rfl (lv_at hl 0 rfl) ?_
      refine lv_aload_n hx hb dX9_undo_79 rfl (lv_at hl 0 rfl) ?_
      refine g_get (v := .int (S6.1 0 42)) hx hb hts inG_X9 hown hK hP (kM_lt (rfl : kdM 0 = 9)) (eM9 (rfl : kdM 0 = 9)) rfl 42 (by decide) G_fl_X9_314 rfl rfl dX9_undo_80 ?_
      replace h := h _ rfl
      refine g_putI hx hb hts inG_X9 tyX9 tyX9_ok nmX9 hown hK hI hP hS (kM_lt (rfl : kdM 0 = 9)) (eM9 (rfl : kdM 0 = 9)) rfl 15 (by decide) G_fl_X9_36 rfl rfl (ty := .int) (by decide +kernel) rfl rfl (Nat.le_of_ble_eq_true rfl) rfl h dX9_undo_83 (fun S8 H locs h hP hS => ?_)
      refine lv_iconst (v := 0) hx hb dX9_undo_86 (by decide) ?_
      refine lv_istore_n (lv' := [(1, .int 0), (0, .ref (P 0))]) hx hb dX9_undo_87 rfl hl (by decide) rfl (fun ls hl => ?_)
      obtain ⟨n13, h⟩ := h
      exact b_X9_undo_88 C n13 _ _ _ _ _ h  hP hS (lv_sub hl [1, 0] rfl)
    · replace h := h.2 c4
      refine lv_aload_n hx hb dX9_undo_28 rfl (lv_at hl 0 rfl) ?_
      refine g_get (v := .ref (P 1)) hx hb hts inG_X9 hown hK hP (kM_lt (rfl : kdM 0 = 9)) (eM9 (rfl : kdM 0 = 9)) rfl 1 (by decide) G_fl_X9_11 rfl rfl dX9_undo_29 ?_
      refine lv_iload_n hx hb dX9_undo_32 rfl (lv_at hl 1 rfl) ?_
      refine lv_aload_n hx hb dX9_undo_33 rfl (lv_at hl 0 rfl) ?_
      refine g_get (v := .ref (P 21)) hx hb hts inG_X9 hown hK hP (kM_lt (rfl : kdM 0 = 9)) (eM9 (rfl : kdM 0 = 9)) rfl 38 (by decide) G_fl_X9_77 rfl rfl dX9_undo_34 ?_
      refine lv_iload_n hx hb dX9_undo_37 rfl (lv_at hl 1 rfl) ?_
      refine g_ald hx hb hK hP (kM_lt (rfl : kdM 21 = 10)) 0 (eM10 (rfl : kdM 21 = 10)) rfl h.1 dX9_undo_38 ?_
      replace h := h.2
      replace h := h _ rfl
      refine g_ast hx hb hK hI hP hS (kM_lt (rfl : kdM 1 = 10)) 0 (eM10 (rfl : kdM 1 = 10)) rfl h.1 h.2 dX9_undo_39 (fun S15 H locs h hP hS => ?_)
      refine lv_aload_n hx hb dX9_undo_40 rfl (lv_at hl 0 rfl) ?_
      refine g_get (v := .ref (P 2)) hx hb hts inG_X9 hown hK hP (kM_lt (rfl : kdM 0 = 9)) (eM9 (rfl : kdM 0 = 9)) rfl 2 (by decide) G_fl_X9_15 rfl rfl dX9_undo_41 ?_
      refine lv_iload_n hx hb dX9_undo_44 rfl (lv_at hl 1 rfl) ?_
      refine lv_aload_n hx hb dX9_undo_45 rfl (lv_at hl 0 rfl) ?_
      refine g_get (v := .ref (P 22)) hx hb hts inG_X9 hown hK hP (kM_lt (rfl : kdM 0 = 9)) (eM9 (rfl : kdM 0 = 9)) rfl 39 (by decide) G_fl_X9_80 rfl rfl dX9_undo_46 ?_
      refine lv_iload_n hx hb dX9_undo_49 rfl (lv_at hl 1 rfl) ?_
      refine g_ald hx hb hK hP (kM_lt (rfl : kdM 22 = 10)) 0 (eM10 (rfl : kdM 22 = 10)) rfl h.1 dX9_undo_50 ?_
      replace h := h.2
      replace h := h _ rfl
      refine g_ast hx hb hK hI hP hS (kM_lt (rfl : kdM 2 = 10)) 0 (eM10 (rfl : kdM 2 = 10)) rfl h.1 h.2 dX9_undo_51 (fun S17 H locs h hP hS => ?_)
      refine lv_aload_n hx hb dX9_undo_52 rfl (lv_at hl 0 rfl) ?_
      refine g_get (v := .ref (P 3)) hx hb hts inG_X9 hown hK hP (kM_lt (rfl : kdM 0 = 9)) (eM9 (rfl : kdM 0 = 9)) rfl 3 (by decide) G_fl_X9_18 rfl rfl dX9_undo_53 ?_
      refine lv_iload_n hx hb dX9_undo_56 rfl (lv_at hl 1 rfl) ?_
      refine lv_aload_n hx hb dX9_undo_57 rfl (lv_at hl 0 rfl) ?_
      refine g_get (v := .ref (P 23)) hx hb hts inG_X9 hown hK hP (kM_lt (rfl : kdM 0 = 9)) (eM9 (rfl : kdM 0 = 9)) rfl 40 (by decide) G_fl_X9_83 rfl rfl dX9_undo_58 ?_
      refine lv_iload_n hx hb dX9_undo_61 rfl (lv_at hl 1 rfl) ?_
      refine g_ald hx hb hK hP (kM_lt (rfl : kdM 23 = 10)) 0 (eM10 (rfl : kdM 23 = 10)) rfl h.1 dX9_undo_62 ?_
      replace h := h.2
      replace h := h _ rfl
      refine g_ast hx hb hK hI hP hS (kM_lt (rfl : kdM 3 = 10)) 0 (eM10 (rfl : kdM 3 = 10)) rfl h.1 h.2 dX9_undo_63 (fun S19 H locs h hP hS => ?_)
      obtain ⟨x20, ex20⟩ : ∃ y : Int32, y = v1 + 1 := ⟨_, rfl⟩
      replace h := h x20 ex20
      refine lv_iinc (v := x20) (lv' := [(1, .int x20), (0, .ref (P 0))]) hx hb dX9_undo_64 hl (k := 1) rfl (by rw [ex20]; rfl) (by decide) rfl (fun ls hl => ?_)
      refine lv_goto (tgt := 20) hx hb dX9_undo_67 (by decide) ?_
      exact ih _ _ _ _ _ h  hP hS (lv_sub hl [1, 0] rfl)
set_option maxRecDepth 100000 in
set_option maxHeartbeats 4000000 in
theorem c_X9_undo (l : Launch) {dC : Nat → ClassId} {dI : Nat → Nat → Nat} {cA : Nat → ClassId} {P : Nat → Nat} (hI : PInj 25 P)   {post : Int32 → St → Prop} {S : St} (h : w_X9_undo  post S) : Met l yX9_undo (wW yX9_undo cX9_undo 2 (some .int)) ({ frames := 0, cells := 0, slots := 0, locals := 0 } : Room) (va_Pc [.ref (P 0)] (PreM dC dI cA P S)) (va_Qi post (fun u t => VM dC dI cA P u t.heap) (PA 25 P)) 0 0 (PA 25 P) := by
  refine Met.ofW (cc := cX9_undo) (maxL := 2) (ret := (some .int)) (by decide) rfl ?_
  intro p e s m args below meth c s₁ B hml hv
  obtain ⟨rfl, hP, hKX⟩ := hv
  have hts : ∀ w ∈ G, w.before [.ref (P 0)].toArray s = true := fun w hw => atoms_spec (ws := wW yX9_undo cX9_undo 2 (some .int)) B.pre w (List.mem_cons_of_mem _ hw)
  have C : CtxM dC dI cA P p s m [.ref (P 0)].toArray meth c cX9_undo 2 (some .int) RX9 := ⟨hI, hKX, ⟨B.exec, B.bytes, hml, findClass_of_methodNamed B.named, hts⟩, B.returns, B.notSynchronized⟩
  obtain ⟨hI, hKX, ⟨hx, hb, hml, hown, hts⟩, hr, hlocks⟩ := id C
  have hK := hKX
  have hS : va_S (PA 25 P) s.heap s.heap [] := va_S.rf
  have hl := lv_entry ([.ref (P 0)]) (n := 2) (Nat.le_of_ble_eq_true rfl)
  rw [lg_entry_eq]
  generalize (lg_sl ([.ref (P 0)]) ++ List.replicate (2 - (lg_sl ([.ref (P 0)])).length) Slot.unset).toArray = ls at hl ⊢
  have hl : lv_has ls 2 [(0, .ref (P 0))] := hl
  rw [w_X9_undo] at h
  refine lv_aload_n hx hb dX9_undo_0 rfl (lv_at hl 0 rfl) ?_
  refine g_get (v := .int (S.1 0 36)) hx hb hts inG_X9 hown hK hP (kM_lt (rfl : kdM 0 = 9)) (eM9 (rfl : kdM 0 = 9)) rfl 36 (by decide) G_fl_X9_305 rfl rfl dX9_undo_1 ?_
  refine lv_if_ne (tgt := 10) hx hb dX9_undo_4 (by decide) (fun c1 => ?_) (fun c1 => ?_)
  · replace h := h.2 c1
    refine lv_aload_n hx hb dX9_undo_10 rfl (lv_at hl 0 rfl) ?_
    refine lv_aload_n hx hb dX9_undo_11 rfl (lv_at hl 0 rfl) ?_
    refine g_get (v := .int (S.1 0 37)) hx hb hts inG_X9 hown hK hP (kM_lt (rfl : kdM 0 = 9)) (eM9 (rfl : kdM 0 = 9)) rfl 37 (by decide) G_fl_X9_308 rfl rfl dX9_undo_12 ?_
    replace h := h _ rfl
    refine g_putI hx hb hts inG_X9 tyX9 tyX9_ok nmX9 hown hK hI hP hS (kM_lt (rfl : kdM 0 = 9)) (eM9 (rfl : kdM 0 = 9)) rfl 0 (by decide) G_fl_X9_89 rfl rfl (ty := .int) (by decide +kernel) rfl rfl (Nat.le_of_ble_eq_true rfl) rfl h dX9_undo_15 (fun S3 H locs h hP hS => ?_)
    refine lv_iconst (v := 0) hx hb dX9_undo_18 (by decide) ?_
    refine lv_istore_n (lv' := [(1, .int 0), (0, .ref (P 0))]) hx hb dX9_undo_19 rfl hl (by decide) rfl (fun ls hl => ?_)
    obtain ⟨n21, h⟩ := h
    exact b_X9_undo_20 C n21 _ _ _ _ _ h  hP hS (lv_sub hl [1, 0] rfl)
  · replace h := h.1 c1
    refine lv_bipush (v := (-5)) hx hb dX9_undo_7 (by decide) ?_
    exact g_iret hx hb hr hlocks h hP hS dX9_undo_9
set_option maxRecDepth 100000 in
set_option maxHeartbeats 4000000 in
theorem c_X9_count (l : Launch) {dC : Nat → ClassId} {dI : Nat → Nat → Nat} {cA : Nat → ClassId} {P : Nat → Nat} (hI : PInj 25 P) {v1 : Int32}  {post : Int32 → St → Prop} {S : St} (h : w_X9_count v1 post S) : Met l yX9_count (wW yX9_count cX9_count 2 (some .int)) ({ frames := 0, cells := 0, slots := 0, locals := 0 } : Room) (va_Pc [.ref (P 0), .int v1] (PreM dC dI cA P S)) (va_Qi post (fun u t => VM dC dI cA P u t.heap) (PA 25 P)) 0 0 (PA 25 P) := by
  refine Met.ofW (cc := cX9_count) (maxL := 2) (ret := (some .int)) (by decide) rfl ?_
  intro p e s m args below meth c s₁ B hml hv
  obtain ⟨rfl, hP, hKX⟩ := hv
  have hts : ∀ w ∈ G, w.before [.ref (P 0), .int v1].toArray s = true := fun w hw => atoms_spec (ws := wW yX9_count cX9_count 2 (some .int)) B.pre w (List.mem_cons_of_mem _ hw)
  have C : CtxM dC dI cA P p s m [.ref (P 0), .int v1].toArray meth c cX9_count 2 (some .int) RX9 := ⟨hI, hKX, ⟨B.exec, B.bytes, hml, findClass_of_methodNamed B.named, hts⟩, B.returns, B.notSynchronized⟩
  obtain ⟨hI, hKX, ⟨hx, hb, hml, hown, hts⟩, hr, hlocks⟩ := id C
  have hK := hKX
  have hS : va_S (PA 25 P) s.heap s.heap [] := va_S.rf
  have hl := lv_entry ([.ref (P 0), .int v1]) (n := 2) (Nat.le_of_ble_eq_true rfl)
  rw [lg_entry_eq]
  generalize (lg_sl ([.ref (P 0), .int v1]) ++ List.replicate (2 - (lg_sl ([.ref (P 0), .int v1])).length) Slot.unset).toArray = ls at hl ⊢
  have hl : lv_has ls 2 [(0, .ref (P 0)), (1, .int v1)] := hl
  rw [w_X9_count] at h
  refine lv_iload_n hx hb dX9_count_0 rfl (lv_at hl 1 rfl) ?_
  by_cases c1 : v1 = 0
  · replace h := h.1 c1
    refine lv_tableIn (tgt := 32) hx hb dX9_count_1 (by rw [c1]; decide) (by rw [c1]; decide) (by rw [c1]; rfl) (by decide) ?_
    refine lv_aload_n hx hb dX9_count_32 rfl (lv_at hl 0 rfl) ?_
    refine g_get (v := .int (S.1 0 0)) hx hb hts inG_X9 hown hK hP (kM_lt (rfl : kdM 0 = 9)) (eM9 (rfl : kdM 0 = 9)) rfl 0 (by decide) G_fl_X9_89 rfl rfl dX9_count_33 ?_
    exact g_iret hx hb hr hlocks h hP hS dX9_count_36
  replace h := h.2 c1
  by_cases c2 : v1 = 1
  · replace h := h.1 c2
    refine lv_tableIn (tgt := 37) hx hb dX9_count_1 (by rw [c2]; decide) (by rw [c2]; decide) (by rw [c2]; rfl) (by decide) ?_
    refine lv_aload_n hx hb dX9_count_37 rfl (lv_at hl 0 rfl) ?_
    refine g_get (v := .int (S.1 0 14)) hx hb hts inG_X9 hown hK hP (kM_lt (rfl : kdM 0 = 9)) (eM9 (rfl : kdM 0 = 9)) rfl 14 (by decide) G_fl_X9_194 rfl rfl dX9_count_38 ?_
    exact g_iret hx hb hr hlocks h hP hS dX9_count_41
  replace h := h.2 c2
  by_cases c3 : v1 = 2
  · replace h := h.1 c3
    refine lv_tableIn (tgt := 42) hx hb dX9_count_1 (by rw [c3]; decide) (by rw [c3]; decide) (by rw [c3]; rfl) (by decide) ?_
    refine lv_aload_n hx hb dX9_count_42 rfl (lv_at hl 0 rfl) ?_
    refine g_get (v := .int (S.1 0 15)) hx hb hts inG_X9 hown hK hP (kM_lt (rfl : kdM 0 = 9)) (eM9 (rfl : kdM 0 = 9)) rfl 15 (by decide) G_fl_X9_36 rfl rfl dX9_count_43 ?_
    exact g_iret hx hb hr hlocks h hP hS dX9_count_46
  replace h := h.2 c3
  by_cases c4 : v1 = 3
  · replace h := h.1 c4
    refine lv_tableIn (tgt := 47) hx hb dX9_count_1 (by rw [c4]; decide) (by rw [c4]; decide) (by rw [c4]; rfl) (by decide) ?_
    refine lv_aload_n hx hb dX9_count_47 rfl (lv_at hl 0 rfl) ?_
    refine g_get (v := .int (S.1 0 21)) hx hb hts inG_X9 hown hK hP (kM_lt (rfl : kdM 0 = 9)) (eM9 (rfl : kdM 0 = 9)) rfl 21 (by decide) G_fl_X9_215 rfl rfl dX9_count_48 ?_
    exact g_iret hx hb hr hlocks h hP hS dX9_count_51
  replace h := h.2 c4
  refine lv_tableOut (tgt := 52) hx hb dX9_count_1 (by have := lv_neT c1 (a := 0) (by decide); have := lv_neT c2 (a := 1) (by decide); have := lv_neT c3 (a := 2) (by decide); have := lv_neT c4 (a := 3) (by decide); omega) (by decide) ?_
  refine lv_iconst (v := (-1)) hx hb dX9_count_52 (by decide) ?_
  exact g_iret hx hb hr hlocks h hP hS dX9_count_53
