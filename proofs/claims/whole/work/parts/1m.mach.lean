set_option maxRecDepth 100000 in
set_option maxHeartbeats 4000000 in
theorem b_X9_run_103 {p : Program} {l : Launch} {e : Env} {s : State} {m : MethodId} {args : Array Value} {below : List Frame} {meth : Method} {c : Code} {dC : Nat → ClassId} {dI : Nat → Nat → Nat} {cA : Nat → ClassId} {P : Nat → Nat} (C : CtxM dC dI cA P p s m args meth c cX9_run 4 (some .int) RX9) {post : Int32 → St → Prop}  : ∀ (n : Nat) (v2 : Int32) (v3 : Int32) (S : St) (H : Heap) (locs : List Loc) (ls : Array Slot), w_X9_run_103 post n v2 v3 S → VM dC dI cA P S H → va_S (PA 25 P) s.heap H locs → lv_has ls 4 [(0, .ref (P 0)), (2, .int v2), (3, .int v3)] → W p l e ({ frames := 4, cells := 0, slots := 0, locals := 101 } : Room) s m args below meth c H locs 0 0 (MQ below (va_Qi post (fun u t => VM dC dI cA P u t.heap) (PA 25 P)) args s 0 0 (PA 25 P)) (F0 m 103 ls []) := by
  have C := C
  obtain ⟨hI, hKX, ⟨hx, hb, hml, hown, hts⟩, hr, hlocks⟩ := id C
  have hK := hKX
  intro n
  induction n with
  | zero =>
    intro v2 v3 S H locs ls h hP hS hl
    simp only [w_X9_run_103] at h
  | succ n ih =>
    intro v2 v3 S H locs ls h hP hS hl
    rw [w_X9_run_103] at h
    refine lv_iload_n hx hb dX9_run_103 rfl (lv_at hl 2 rfl) ?_
    refine lv_iload_n hx hb dX9_run_104 rfl (lv_at hl 1 rfl) ?_
    refine lv_icmp_ge (tgt := 141) hx hb dX9_run_105 (by decide) (fun c8 => ?_) (fun c8 => ?_)
    · replace h := h.1 c8
      refine lv_iload_n hx hb dX9_run_141 rfl (lv_at hl 1 rfl) ?_
      exact g_iret hx hb hr hlocks h hP hS dX9_run_142
    · replace h := h.2 c8
      refine lv_aload_n hx hb dX9_run_108 rfl (lv_at hl 0 rfl) ?_
      refine lv_aload_n hx hb dX9_run_109 rfl (lv_at hl 0 rfl) ?_
      refine va_calli (va_runV (As := []) (rest := [.ref _]) ⟨hx, hb, hml, hown, hts⟩ (c_X9_command l hI h) (cwV 0 hts gv_X9_288 rfl rfl rfl hv_X9_command ⟨Nat.le_of_ble_eq_true rfl, Nat.le_of_ble_eq_true rfl⟩) (preV_M hKX hP hS (kM_lt (rfl : kdM 0 = 9)) (eM9 (rfl : kdM 0 = 9)) rfl) rfl rfl hl.1 rfl (lv_room (Nat.le_of_ble_eq_true rfl)) dX9_run_110 ⟨Nat.le_of_ble_eq_true rfl, Nat.le_of_ble_eq_true rfl⟩) hS (fun _ _ h => h) (fun _ h => h) (fun r10 S9 t H locs ht _ h hB _ _ hS => ?_)
      have hP : VM dC dI cA P S9 H := by rw [← ht]; exact hB
      refine va_calli (va_runV (As := [.int _]) (rest := []) ⟨hx, hb, hml, hown, hts⟩ (c_X9_done l hI h) (cwV 1 hts gv_X9_291 rfl rfl rfl hv_X9_done ⟨Nat.le_of_ble_eq_true rfl, Nat.le_of_ble_eq_true rfl⟩) (preV_M hKX hP hS (kM_lt (rfl : kdM 0 = 9)) (eM9 (rfl : kdM 0 = 9)) rfl) rfl rfl hl.1 rfl (lv_room (Nat.le_of_ble_eq_true rfl)) dX9_run_113 ⟨Nat.le_of_ble_eq_true rfl, Nat.le_of_ble_eq_true rfl⟩) hS (fun _ _ h => h) (fun _ h => h) (fun r12 S11 t H locs ht _ h hB _ _ hS => ?_)
      have hP : VM dC dI cA P S11 H := by rw [← ht]; exact hB
      refine lv_if_ge (tgt := 125) hx hb dX9_run_116 (by decide) (fun c13 => ?_) (fun c13 => ?_)
      · replace h := h.1 c13
        refine lv_aload_n hx hb dX9_run_125 rfl (lv_at hl 0 rfl) ?_
        refine lv_dup hx hb dX9_run_126 rfl ?_
        refine g_get (v := .int (S11.1 0 23)) hx hb hts inG_X9 hown hK hP (kM_lt (rfl : kdM 0 = 9)) (eM9 (rfl : kdM 0 = 9)) rfl 23 (by decide) G_fl_X9_218 rfl rfl dX9_run_127 ?_
        refine lv_iconst (v := 1) hx hb dX9_run_130 (by decide) ?_
        refine lv_iadd hx hb dX9_run_131 ?_
        replace h := h _ rfl
        refine g_putI hx hb hts inG_X9 tyX9 tyX9_ok nmX9 hown hK hI hP hS (kM_lt (rfl : kdM 0 = 9)) (eM9 (rfl : kdM 0 = 9)) rfl 23 (by decide) G_fl_X9_218 rfl rfl (ty := .int) (by decide +kernel) rfl rfl (Nat.le_of_ble_eq_true rfl) rfl h dX9_run_132 (fun S15 H locs h hP hS => ?_)
        obtain ⟨x16, ex16⟩ : ∃ y : Int32, y = v3 + 1 := ⟨_, rfl⟩
        replace h := h x16 ex16
        refine lv_iinc (v := x16) (lv' := [(3, .int x16), (0, .ref (P 0)), (2, .int v2)]) hx hb dX9_run_135 hl (k := 2) rfl (by rw [ex16]; rfl) (by decide) rfl (fun ls hl => ?_)
        refine lv_goto (tgt := 103) hx hb dX9_run_138 (by decide) ?_
        exact ih _ _ _ _ _ _ h  hP hS (lv_sub hl [1, 2, 0] rfl)
      · replace h := h.2 c13
        refine lv_sipush (v := (-2000)) hx hb dX9_run_119 (by decide) ?_
        refine lv_iload_n hx hb dX9_run_122 rfl (lv_at hl 2 rfl) ?_
        refine lv_isub hx hb dX9_run_123 ?_
        exact g_iret hx hb hr hlocks h hP hS dX9_run_124
set_option maxRecDepth 100000 in
set_option maxHeartbeats 4000000 in
theorem b_X9_run_22 {p : Program} {l : Launch} {e : Env} {s : State} {m : MethodId} {args : Array Value} {below : List Frame} {meth : Method} {c : Code} {dC : Nat → ClassId} {dI : Nat → Nat → Nat} {cA : Nat → ClassId} {P : Nat → Nat} (C : CtxM dC dI cA P p s m args meth c cX9_run 4 (some .int) RX9) {post : Int32 → St → Prop}  : ∀ (n : Nat) (v1 : Int32) (v2 : Int32) (S : St) (H : Heap) (locs : List Loc) (ls : Array Slot), w_X9_run_22 post n v1 v2 S → VM dC dI cA P S H → va_S (PA 25 P) s.heap H locs → lv_has ls 4 [(0, .ref (P 0)), (1, .int v1), (2, .int v2)] → W p l e ({ frames := 4, cells := 0, slots := 0, locals := 101 } : Room) s m args below meth c H locs 0 0 (MQ below (va_Qi post (fun u t => VM dC dI cA P u t.heap) (PA 25 P)) args s 0 0 (PA 25 P)) (F0 m 22 ls []) := by
  have C := C
  obtain ⟨hI, hKX, ⟨hx, hb, hml, hown, hts⟩, hr, hlocks⟩ := id C
  have hK := hKX
  intro n
  induction n with
  | zero =>
    intro v1 v2 S H locs ls h hP hS hl
    simp only [w_X9_run_22] at h
  | succ n ih =>
    intro v1 v2 S H locs ls h hP hS hl
    rw [w_X9_run_22] at h
    refine lv_iload_n hx hb dX9_run_22 rfl (lv_at hl 1 rfl) ?_
    refine lv_if_eq (tgt := 76) hx hb dX9_run_23 (by decide) (fun c5 => ?_) (fun c5 => ?_)
    · replace h := h.1 c5
      refine lv_aload_n hx hb dX9_run_76 rfl (lv_at hl 0 rfl) ?_
      refine g_get (v := .int (S.1 0 23)) hx hb hts inG_X9 hown hK hP (kM_lt (rfl : kdM 0 = 9)) (eM9 (rfl : kdM 0 = 9)) rfl 23 (by decide) G_fl_X9_218 rfl rfl dX9_run_77 ?_
      refine lv_aload_n hx hb dX9_run_80 rfl (lv_at hl 0 rfl) ?_
      refine g_get (v := .int (S.1 0 22)) hx hb hts inG_X9 hown hK hP (kM_lt (rfl : kdM 0 = 9)) (eM9 (rfl : kdM 0 = 9)) rfl 22 (by decide) G_fl_X9_221 rfl rfl dX9_run_81 ?_
      refine lv_icmp_ge (tgt := 96) hx hb dX9_run_84 (by decide) (fun c6 => ?_) (fun c6 => ?_)
      · replace h := h.1 c6
        refine lv_aload_n hx hb dX9_run_96 rfl (lv_at hl 0 rfl) ?_
        refine lv_iconst (v := 0) hx hb dX9_run_97 (by decide) ?_
        refine g_putI hx hb hts inG_X9 tyX9 tyX9_ok nmX9 hown hK hI hP hS (kM_lt (rfl : kdM 0 = 9)) (eM9 (rfl : kdM 0 = 9)) rfl 23 (by decide) G_fl_X9_218 rfl rfl (ty := .int) (by decide +kernel) rfl rfl (Nat.le_of_ble_eq_true rfl) rfl h dX9_run_98 (fun S7 H locs h hP hS => ?_)
        refine lv_iconst (v := 0) hx hb dX9_run_101 (by decide) ?_
        refine lv_istore_n (lv' := [(3, .int 0), (0, .ref (P 0)), (1, .int v1), (2, .int v2)]) hx hb dX9_run_102 rfl hl (by decide) rfl (fun ls hl => ?_)
        obtain ⟨n17, h⟩ := h
        exact b_X9_run_103 C n17 _ _ _ _ _ _ h  hP hS (lv_sub hl [1, 3, 0] rfl)
      · replace h := h.2 c6
        refine lv_sipush (v := (-1000)) hx hb dX9_run_87 (by decide) ?_
        refine lv_aload_n hx hb dX9_run_90 rfl (lv_at hl 0 rfl) ?_
        refine g_get (v := .int (S.1 0 23)) hx hb hts inG_X9 hown hK hP (kM_lt (rfl : kdM 0 = 9)) (eM9 (rfl : kdM 0 = 9)) rfl 23 (by decide) G_fl_X9_218 rfl rfl dX9_run_91 ?_
        refine lv_isub hx hb dX9_run_94 ?_
        exact g_iret hx hb hr hlocks h hP hS dX9_run_95
    · replace h := h.2 c5
      refine lv_aload_n hx hb dX9_run_26 rfl (lv_at hl 0 rfl) ?_
      refine va_calli (va_runV (As := []) (rest := []) ⟨hx, hb, hml, hown, hts⟩ (c_X9_command l hI h) (cwV 0 hts gv_X9_288 rfl rfl rfl hv_X9_command ⟨Nat.le_of_ble_eq_true rfl, Nat.le_of_ble_eq_true rfl⟩) (preV_M hKX hP hS (kM_lt (rfl : kdM 0 = 9)) (eM9 (rfl : kdM 0 = 9)) rfl) rfl rfl hl.1 rfl (lv_room (Nat.le_of_ble_eq_true rfl)) dX9_run_27 ⟨Nat.le_of_ble_eq_true rfl, Nat.le_of_ble_eq_true rfl⟩) hS (fun _ _ h => h) (fun _ h => h) (fun r19 S18 t H locs ht _ h hB _ _ hS => ?_)
      have hP : VM dC dI cA P S18 H := by rw [← ht]; exact hB
      refine lv_iconst (v := (-1)) hx hb dX9_run_30 (by decide) ?_
      refine lv_icmp_ne (tgt := 43) hx hb dX9_run_31 (by decide) (fun c20 => ?_) (fun c20 => ?_)
      · replace h := h.2 c20
        obtain ⟨x21, ex21⟩ : ∃ y : Int32, y = v2 + 1 := ⟨_, rfl⟩
        replace h := h x21 ex21
        refine lv_iinc (v := x21) (lv' := [(2, .int x21), (0, .ref (P 0)), (1, .int v1)]) hx hb dX9_run_43 hl (k := 2) rfl (by rw [ex21]; rfl) (by decide) rfl (fun ls hl => ?_)
        refine lv_aload_n hx hb dX9_run_46 rfl (lv_at hl 1 rfl) ?_
        refine lv_bipush (v := 59) hx hb dX9_run_47 (by decide) ?_
        refine lv_bipush (v := 59) hx hb dX9_run_49 (by decide) ?_
        refine va_calli (va_runV (As := [.int _, .int _]) (rest := []) ⟨hx, hb, hml, hown, hts⟩ (c_X9_isAt l hI h) (cwV 2 hts gv_X9_239 rfl rfl rfl hv_X9_isAt ⟨Nat.le_of_ble_eq_true rfl, Nat.le_of_ble_eq_true rfl⟩) (preV_M hKX hP hS (kM_lt (rfl : kdM 0 = 9)) (eM9 (rfl : kdM 0 = 9)) rfl) rfl rfl hl.1 rfl (lv_room (Nat.le_of_ble_eq_true rfl)) dX9_run_51 ⟨Nat.le_of_ble_eq_true rfl, Nat.le_of_ble_eq_true rfl⟩) hS (fun _ _ h => h) (fun _ h => h) (fun r23 S22 t H locs ht _ h hB _ _ hS => ?_)
        have hP : VM dC dI cA P S22 H := by rw [← ht]; exact hB
        refine lv_istore_n (lv' := [(1, .int r23), (2, .int x21), (0, .ref (P 0))]) hx hb dX9_run_54 rfl hl (by decide) rfl (fun ls hl => ?_)
        refine lv_aload_n hx hb dX9_run_55 rfl (lv_at hl 2 rfl) ?_
        refine lv_dup hx hb dX9_run_56 rfl ?_
        refine g_get (v := .int (S22.1 0 23)) hx hb hts inG_X9 hown hK hP (kM_lt (rfl : kdM 0 = 9)) (eM9 (rfl : kdM 0 = 9)) rfl 23 (by decide) G_fl_X9_218 rfl rfl dX9_run_57 ?_
        refine lv_iload_n hx hb dX9_run_60 rfl (lv_at hl 0 rfl) ?_
        refine lv_if_eq (tgt := 68) hx hb dX9_run_61 (by decide) (fun c24 => ?_) (fun c24 => ?_)
        · replace h := h.1 c24
          refine lv_iconst (v := 0) hx hb dX9_run_68 (by decide) ?_
          refine lv_iadd hx hb dX9_run_69 ?_
          replace h := h _ rfl
          refine g_putI hx hb hts inG_X9 tyX9 tyX9_ok nmX9 hown hK hI hP hS (kM_lt (rfl : kdM 0 = 9)) (eM9 (rfl : kdM 0 = 9)) rfl 23 (by decide) G_fl_X9_218 rfl rfl (ty := .int) (by decide +kernel) rfl rfl (Nat.le_of_ble_eq_true rfl) rfl h dX9_run_70 (fun S26 H locs h hP hS => ?_)
          refine lv_goto (tgt := 22) hx hb dX9_run_73 (by decide) ?_
          exact ih _ _ _ _ _ _ h  hP hS (lv_sub hl [2, 0, 1] rfl)
        · replace h := h.2 c24
          refine lv_iconst (v := 1) hx hb dX9_run_64 (by decide) ?_
          refine lv_goto (tgt := 69) hx hb dX9_run_65 (by decide) ?_
          refine lv_iadd hx hb dX9_run_69 ?_
          replace h := h _ rfl
          refine g_putI hx hb hts inG_X9 tyX9 tyX9_ok nmX9 hown hK hI hP hS (kM_lt (rfl : kdM 0 = 9)) (eM9 (rfl : kdM 0 = 9)) rfl 23 (by decide) G_fl_X9_218 rfl rfl (ty := .int) (by decide +kernel) rfl rfl (Nat.le_of_ble_eq_true rfl) rfl h dX9_run_70 (fun S28 H locs h hP hS => ?_)
          refine lv_goto (tgt := 22) hx hb dX9_run_73 (by decide) ?_
          exact ih _ _ _ _ _ _ h  hP hS (lv_sub hl [2, 0, 1] rfl)
      · replace h := h.1 c20
        refine lv_sipush (v := (-1000)) hx hb dX9_run_34 (by decide) ?_
        refine lv_aload_n hx hb dX9_run_37 rfl (lv_at hl 0 rfl) ?_
        refine g_get (v := .int (S18.1 0 23)) hx hb hts inG_X9 hown hK hP (kM_lt (rfl : kdM 0 = 9)) (eM9 (rfl : kdM 0 = 9)) rfl 23 (by decide) G_fl_X9_218 rfl rfl dX9_run_38 ?_
        refine lv_isub hx hb dX9_run_41 ?_
        exact g_iret hx hb hr hlocks h hP hS dX9_run_42
set_option maxRecDepth 100000 in
set_option maxHeartbeats 4000000 in
theorem e_X9_run {p : Program} {l : Launch} {e : Env} {s : State} {m : MethodId} {args : Array Value} {below : List Frame} {meth : Method} {c : Code} {dC : Nat → ClassId} {dI : Nat → Nat → Nat} {cA : Nat → ClassId} {P : Nat → Nat} (C : CtxM dC dI cA P p s m args meth c cX9_run 4 (some .int) RX9) {post : Int32 → St → Prop} : ∀  (S : St) (H : Heap) (locs : List Loc) (ls : Array Slot), w_X9_run  post S → VM dC dI cA P S H → va_S (PA 25 P) s.heap H locs → lv_has ls 4 [(0, .ref (P 0))] → W p l e ({ frames := 4, cells := 0, slots := 0, locals := 101 } : Room) s m args below meth c H locs 0 0 (MQ below (va_Qi post (fun u t => VM dC dI cA P u t.heap) (PA 25 P)) args s 0 0 (PA 25 P)) (F0 m 0 ls []) := by
  have C := C
  obtain ⟨hI, hKX, ⟨hx, hb, hml, hown, hts⟩, hr, hlocks⟩ := id C
  have hK := hKX
  intro S H locs ls h hP hS hl
  rw [w_X9_run] at h
  refine lv_aload_n hx hb dX9_run_0 rfl (lv_at hl 0 rfl) ?_
  refine lv_aload_n hx hb dX9_run_1 rfl (lv_at hl 0 rfl) ?_
  refine g_get (v := .int (S.1 0 21)) hx hb hts inG_X9 hown hK hP (kM_lt (rfl : kdM 0 = 9)) (eM9 (rfl : kdM 0 = 9)) rfl 21 (by decide) G_fl_X9_215 rfl rfl dX9_run_2 ?_
  replace h := h _ rfl
  refine g_putI hx hb hts inG_X9 tyX9 tyX9_ok nmX9 hown hK hI hP hS (kM_lt (rfl : kdM 0 = 9)) (eM9 (rfl : kdM 0 = 9)) rfl 22 (by decide) G_fl_X9_221 rfl rfl (ty := .int) (by decide +kernel) rfl rfl (Nat.le_of_ble_eq_true rfl) rfl h dX9_run_5 (fun S2 H locs h hP hS => ?_)
  refine lv_aload_n hx hb dX9_run_8 rfl (lv_at hl 0 rfl) ?_
  refine lv_iconst (v := 0) hx hb dX9_run_9 (by decide) ?_
  refine g_putI hx hb hts inG_X9 tyX9 tyX9_ok nmX9 hown hK hI hP hS (kM_lt (rfl : kdM 0 = 9)) (eM9 (rfl : kdM 0 = 9)) rfl 21 (by decide) G_fl_X9_215 rfl rfl (ty := .int) (by decide +kernel) rfl rfl (Nat.le_of_ble_eq_true rfl) rfl h dX9_run_10 (fun S3 H locs h hP hS => ?_)
  refine lv_aload_n hx hb dX9_run_13 rfl (lv_at hl 0 rfl) ?_
  refine lv_iconst (v := 0) hx hb dX9_run_14 (by decide) ?_
  refine g_putI hx hb hts inG_X9 tyX9 tyX9_ok nmX9 hown hK hI hP hS (kM_lt (rfl : kdM 0 = 9)) (eM9 (rfl : kdM 0 = 9)) rfl 23 (by decide) G_fl_X9_218 rfl rfl (ty := .int) (by decide +kernel) rfl rfl (Nat.le_of_ble_eq_true rfl) rfl h dX9_run_15 (fun S4 H locs h hP hS => ?_)
  refine lv_iconst (v := 1) hx hb dX9_run_18 (by decide) ?_
  refine lv_istore_n (lv' := [(1, .int 1), (0, .ref (P 0))]) hx hb dX9_run_19 rfl hl (by decide) rfl (fun ls hl => ?_)
  refine lv_iconst (v := 0) hx hb dX9_run_20 (by decide) ?_
  refine lv_istore_n (lv' := [(2, .int 0), (1, .int 1), (0, .ref (P 0))]) hx hb dX9_run_21 rfl hl (by decide) rfl (fun ls hl => ?_)
  obtain ⟨n29, h⟩ := h
  exact b_X9_run_22 C n29 _ _ _ _ _ _ h  hP hS (lv_sub hl [2, 1, 0] rfl)
set_option maxRecDepth 100000 in
set_option maxHeartbeats 4000000 in
theorem c_X9_run (l : Launch) {dC : Nat → ClassId} {dI : Nat → Nat → Nat} {cA : Nat → ClassId} {P : Nat → Nat} (hI : PInj 25 P)   {post : Int32 → St → Prop} {S : St} (h : w_X9_run  post S) : Met l yX9_run (wW yX9_run cX9_run 4 (some .int)) ({ frames := 4, cells := 0, slots := 0, locals := 101 } : Room) (va_Pc [.ref (P 0)] (PreM dC dI cA P S)) (va_Qi post (fun u t => VM dC dI cA P u t.heap) (PA 25 P)) 0 0 (PA 25 P) := by
  refine Met.ofW (cc := cX9_run) (maxL := 4) (ret := (some .int)) (by decide) rfl ?_
  intro p e s m args below meth c s₁ B hml hv
  obtain ⟨rfl, hP, hKX⟩ := hv
  have hts : ∀ w ∈ G, w.before [.ref (P 0)].toArray s = true := fun w hw => atoms_spec (ws := wW yX9_run cX9_run 4 (some .int)) B.pre w (List.mem_cons_of_mem _ hw)
  have C : CtxM dC dI cA P p s m [.ref (P 0)].toArray meth c cX9_run 4 (some .int) RX9 := ⟨hI, hKX, ⟨B.exec, B.bytes, hml, findClass_of_methodNamed B.named, hts⟩, B.returns, B.notSynchronized⟩
  have hS : va_S (PA 25 P) s.heap s.heap [] := va_S.rf
  have hl := lv_entry ([.ref (P 0)]) (n := 4) (Nat.le_of_ble_eq_true rfl)
  rw [lg_entry_eq]
  generalize (lg_sl ([.ref (P 0)]) ++ List.replicate (4 - (lg_sl ([.ref (P 0)])).length) Slot.unset).toArray = ls at hl ⊢
  have hl : lv_has ls 4 [(0, .ref (P 0))] := hl
  exact e_X9_run C  _ _ _ _ h  hP hS hl
set_option maxRecDepth 100000 in
set_option maxHeartbeats 4000000 in
theorem e_X9_isHolder {p : Program} {l : Launch} {e : Env} {s : State} {m : MethodId} {args : Array Value} {below : List Frame} {meth : Method} {c : Code} {dC : Nat → ClassId} {dI : Nat → Nat → Nat} {cA : Nat → ClassId} {P : Nat → Nat} (C : CtxM dC dI cA P p s m args meth c cX9_isHolder 1 (some .boolean) RX9) {post : Int32 → St → Prop} : ∀ (v0 : Int32) (S : St) (H : Heap) (locs : List Loc) (ls : Array Slot), w_X9_isHolder v0 post S → VM dC dI cA P S H → va_S (PA 25 P) s.heap H locs → lv_has ls 1 [(0, .int v0)] → W p l e ({ frames := 1, cells := 0, slots := 0, locals := 25 } : Room) s m args below meth c H locs 0 0 (MQ below (va_Qi post (fun u t => VM dC dI cA P u t.heap) (PA 25 P)) args s 0 0 (PA 25 P)) (F0 m 0 ls []) := by
  have C := C
  obtain ⟨hI, hKX, ⟨hx, hb, hml, hown, hts⟩, hr, hlocks⟩ := id C
  have hK := hKX
  intro v0 S H locs ls h hP hS hl
  rw [w_X9_isHolder] at h
  refine lv_iload_n hx hb dX9_isHolder_0 rfl (lv_at hl 0 rfl) ?_
  refine lv_i2l hx hb dX9_isHolder_1 rfl ?_
  refine lv_lconst (v := 0) hx hb dX9_isHolder_2 (by decide) ?_
  refine lv_ldc2 (v := 5) hx hb hown (hts _ G_co_X9_203) dX9_isHolder_3 ?_
  replace h := h _ rfl
  refine va_calli (va_runS (As := [.long _, .long _, .long _]) (rest := []) ⟨hx, hb, hml, hown, hts⟩ (c_X9_isIn l hI h) (va_cwS 3 hts gs_X9_92 rfl rfl rfl hd_X9_isIn ⟨Nat.le_of_ble_eq_true rfl, Nat.le_of_ble_eq_true rfl⟩) (preS_M hKX hP hS) rfl rfl hl.1 rfl (lv_room (Nat.le_of_ble_eq_true rfl)) dX9_isHolder_6 ⟨Nat.le_of_ble_eq_true rfl, Nat.le_of_ble_eq_true rfl⟩) hS (fun _ _ h => h) (fun _ h => h) (fun r3 S2 t H locs ht _ h hB _ _ hS => ?_)
  have hP : VM dC dI cA P S2 H := by rw [← ht]; exact hB
  exact g_zret hx hb hr hlocks h.1 h.2 hP hS dX9_isHolder_9
set_option maxRecDepth 100000 in
set_option maxHeartbeats 4000000 in
theorem c_X9_isHolder (l : Launch) {dC : Nat → ClassId} {dI : Nat → Nat → Nat} {cA : Nat → ClassId} {P : Nat → Nat} (hI : PInj 25 P) {v0 : Int32}  {post : Int32 → St → Prop} {S : St} (h : w_X9_isHolder v0 post S) : Met l yX9_isHolder (wW yX9_isHolder cX9_isHolder 1 (some .boolean)) ({ frames := 1, cells := 0, slots := 0, locals := 25 } : Room) (va_Pc [.int v0] (PreM dC dI cA P S)) (va_Qi post (fun u t => VM dC dI cA P u t.heap) (PA 25 P)) 0 0 (PA 25 P) := by
  refine Met.ofW (cc := cX9_isHolder) (maxL := 1) (ret := (some .boolean)) (by decide) rfl ?_
  intro p e s m args below meth c s₁ B hml hv
  obtain ⟨rfl, hP, hKX⟩ := hv
  have hts : ∀ w ∈ G, w.before [.int v0].toArray s = true := fun w hw => atoms_spec (ws := wW yX9_isHolder cX9_isHolder 1 (some .boolean)) B.pre w (List.mem_cons_of_mem _ hw)
  have C : CtxM dC dI cA P p s m [.int v0].toArray meth c cX9_isHolder 1 (some .boolean) RX9 := ⟨hI, hKX, ⟨B.exec, B.bytes, hml, findClass_of_methodNamed B.named, hts⟩, B.returns, B.notSynchronized⟩
  have hS : va_S (PA 25 P) s.heap s.heap [] := va_S.rf
  have hl := lv_entry ([.int v0]) (n := 1) (Nat.le_of_ble_eq_true rfl)
  rw [lg_entry_eq]
  generalize (lg_sl ([.int v0]) ++ List.replicate (1 - (lg_sl ([.int v0])).length) Slot.unset).toArray = ls at hl ⊢
  have hl : lv_has ls 1 [(0, .int v0)] := hl
  exact e_X9_isHolder C _ _ _ _ _ h  hP hS hl
set_option maxRecDepth 100000 in
set_option maxHeartbeats 4000000 in
theorem e_X9_looksHeld {p : Program} {l : Launch} {e : Env} {s : State} {m : MethodId} {args : Array Value} {below : List Frame} {meth : Method} {c : Code} {dC : Nat → ClassId} {dI : Nat → Nat → Nat} {cA : Nat → ClassId} {P : Nat → Nat} (C : CtxM dC dI cA P p s m args meth c cX9_looksHeld 2 none RX9) {post : St → Prop} : ∀ (v1 : Int32) (S : St) (H : Heap) (locs : List Loc) (ls : Array Slot), w_X9_looksHeld v1 post S → VM dC dI cA P S H → va_S (PA 25 P) s.heap H locs → lv_has ls 2 [(0, .ref (P 0)), (1, .int v1)] → W p l e ({ frames := 1, cells := 0, slots := 0, locals := 26 } : Room) s m args below meth c H locs 0 0 (MQ below (va_Qv post (fun u t => VM dC dI cA P u t.heap) (PA 25 P)) args s 0 0 (PA 25 P)) (F0 m 0 ls []) := by
  have C := C
  obtain ⟨hI, hKX, ⟨hx, hb, hml, hown, hts⟩, hr, hlocks⟩ := id C
  have hK := hKX
  intro v1 S H locs ls h hP hS hl
  rw [w_X9_looksHeld] at h
  refine lv_aload_n hx hb dX9_looksHeld_0 rfl (lv_at hl 0 rfl) ?_
  refine lv_aload_n hx hb dX9_looksHeld_1 rfl (lv_at hl 0 rfl) ?_
  refine g_get (v := .ref (P 16)) hx hb hts inG_X9 hown hK hP (kM_lt (rfl : kdM 0 = 9)) (eM9 (rfl : kdM 0 = 9)) rfl 31 (by decide) G_fl_X9_62 rfl rfl dX9_looksHeld_2 ?_
  refine lv_iload_n hx hb dX9_looksHeld_5 rfl (lv_at hl 1 rfl) ?_
  refine g_ald hx hb hK hP (kM_lt (rfl : kdM 16 = 10)) 0 (eM10 (rfl : kdM 16 = 10)) rfl h.1 dX9_looksHeld_6 ?_
  replace h := h.2
  refine lv_i2l hx hb dX9_looksHeld_7 rfl ?_
  refine lv_aload_n hx hb dX9_looksHeld_8 rfl (lv_at hl 0 rfl) ?_
  refine g_get (v := .ref (P 17)) hx hb hts inG_X9 hown hK hP (kM_lt (rfl : kdM 0 = 9)) (eM9 (rfl : kdM 0 = 9)) rfl 32 (by decide) G_fl_X9_65 rfl rfl dX9_looksHeld_9 ?_
  refine lv_iload_n hx hb dX9_looksHeld_12 rfl (lv_at hl 1 rfl) ?_
  refine g_ald hx hb hK hP (kM_lt (rfl : kdM 17 = 10)) 0 (eM10 (rfl : kdM 17 = 10)) rfl h.1 dX9_looksHeld_13 ?_
  replace h := h.2
  refine lv_aload_n hx hb dX9_looksHeld_14 rfl (lv_at hl 0 rfl) ?_
  refine g_get (v := .ref (P 18)) hx hb hts inG_X9 hown hK hP (kM_lt (rfl : kdM 0 = 9)) (eM9 (rfl : kdM 0 = 9)) rfl 33 (by decide) G_fl_X9_68 rfl rfl dX9_looksHeld_15 ?_
  refine lv_iload_n hx hb dX9_looksHeld_18 rfl (lv_at hl 1 rfl) ?_
  refine g_ald hx hb hK hP (kM_lt (rfl : kdM 18 = 10)) 0 (eM10 (rfl : kdM 18 = 10)) rfl h.1 dX9_looksHeld_19 ?_
  replace h := h.2
  replace h := h _ rfl
  replace h := h _ rfl
  replace h := h _ rfl
  refine va_callv (va_runV (As := [.long _, .int _, .int _]) (rest := []) ⟨hx, hb, hml, hown, hts⟩ (c_X9_looks l hI h) (cwV 3 hts gv_X9_110 rfl rfl rfl hv_X9_looks ⟨Nat.le_of_ble_eq_true rfl, Nat.le_of_ble_eq_true rfl⟩) (preV_M hKX hP hS (kM_lt (rfl : kdM 0 = 9)) (eM9 (rfl : kdM 0 = 9)) rfl) rfl rfl hl.1 rfl (lv_room (Nat.le_of_ble_eq_true rfl)) dX9_looksHeld_20 ⟨Nat.le_of_ble_eq_true rfl, Nat.le_of_ble_eq_true rfl⟩) hS (fun _ _ h => h) (fun _ h => h) (fun S4 t H locs ht _ h hB _ _ hS => ?_)
  have hP : VM dC dI cA P S4 H := by rw [← ht]; exact hB
  exact g_vret hx hb hr hlocks h hP hS dX9_looksHeld_23
set_option maxRecDepth 100000 in
set_option maxHeartbeats 4000000 in
theorem c_X9_looksHeld (l : Launch) {dC : Nat → ClassId} {dI : Nat → Nat → Nat} {cA : Nat → ClassId} {P : Nat → Nat} (hI : PInj 25 P) {v1 : Int32}  {post : St → Prop} {S : St} (h : w_X9_looksHeld v1 post S) : Met l yX9_looksHeld (wW yX9_looksHeld cX9_looksHeld 2 none) ({ frames := 1, cells := 0, slots := 0, locals := 26 } : Room) (va_Pc [.ref (P 0), .int v1] (PreM dC dI cA P S)) (va_Qv post (fun u t => VM dC dI cA P u t.heap) (PA 25 P)) 0 0 (PA 25 P) := by
  refine Met.ofW (cc := cX9_looksHeld) (maxL := 2) (ret := none) (by decide) rfl ?_
  intro p e s m args below meth c s₁ B hml hv
  obtain ⟨rfl, hP, hKX⟩ := hv
  have hts : ∀ w ∈ G, w.before [.ref (P 0), .int v1].toArray s = true := fun w hw => atoms_spec (ws := wW yX9_looksHeld cX9_looksHeld 2 none) B.pre w (List.mem_cons_of_mem _ hw)
  have C : CtxM dC dI cA P p s m [.ref (P 0), .int v1].toArray meth c cX9_looksHeld 2 none RX9 := ⟨hI, hKX, ⟨B.exec, B.bytes, hml, findClass_of_methodNamed B.named, hts⟩, B.returns, B.notSynchronized⟩
  have hS : va_S (PA 25 P) s.heap s.heap [] := va_S.rf
  have hl := lv_entry ([.ref (P 0), .int v1]) (n := 2) (Nat.le_of_ble_eq_true rfl)
  rw [lg_entry_eq]
  generalize (lg_sl ([.ref (P 0), .int v1]) ++ List.replicate (2 - (lg_sl ([.ref (P 0), .int v1])).length) Slot.unset).toArray = ls at hl ⊢
  have hl : lv_has ls 2 [(0, .ref (P 0)), (1, .int v1)] := hl
  exact e_X9_looksHeld C _ _ _ _ _ h  hP hS hl
set_option maxRecDepth 100000 in
set_option maxHeartbeats 4000000 in
theorem e_X9_hold {p : Program} {l : Launch} {e : Env} {s : State} {m : MethodId} {args : Array Value} {below : List Frame} {meth : Method} {c : Code} {dC : Nat → ClassId} {dI : Nat → Nat → Nat} {cA : Nat → ClassId} {P : Nat → Nat} (C : CtxM dC dI cA P p s m args meth c cX9_hold 3 (some .int) RX9) {post : Int32 → St → Prop} : ∀ (v1 : Int32) (v2 : Int32) (S : St) (H : Heap) (locs : List Loc) (ls : Array Slot), w_X9_hold v1 v2 post S → VM dC dI cA P S H → va_S (PA 25 P) s.heap H locs → lv_has ls 3 [(0, .ref (P 0)), (1, .int v1), (2, .int v2)] → W p l e ({ frames := 2, cells := 0, slots := 0, locals := 47 } : Room) s m args below meth c H locs 0 0 (MQ below (va_Qi post (fun u t => VM dC dI cA P u t.heap) (PA 25 P)) args s 0 0 (PA 25 P)) (F0 m 0 ls []) := by
  have C := C
  obtain ⟨hI, hKX, ⟨hx, hb, hml, hown, hts⟩, hr, hlocks⟩ := id C
  have hK := hKX
  intro v1 v2 S H locs ls h hP hS hl
  rw [w_X9_hold] at h
  refine lv_iload_n hx hb dX9_hold_0 rfl (lv_at hl 1 rfl) ?_
  refine va_calli (va_runS (As := [.int _]) (rest := []) ⟨hx, hb, hml, hown, hts⟩ (c_X9_isHolder l hI h) (va_cwS 1 hts gs_X9_294 rfl rfl rfl hd_X9_isHolder ⟨Nat.le_of_ble_eq_true rfl, Nat.le_of_ble_eq_true rfl⟩) (preS_M hKX hP hS) rfl rfl hl.1 rfl (lv_room (Nat.le_of_ble_eq_true rfl)) dX9_hold_1 ⟨Nat.le_of_ble_eq_true rfl, Nat.le_of_ble_eq_true rfl⟩) hS (fun _ _ h => h) (fun _ h => h) (fun r2 S1 t H locs ht _ h hB _ _ hS => ?_)
  have hP : VM dC dI cA P S1 H := by rw [← ht]; exact hB
  refine lv_if_eq (tgt := 15) hx hb dX9_hold_4 (by decide) (fun c3 => ?_) (fun c3 => ?_)
  · replace h := h.1 c3
    refine lv_iconst (v := (-1)) hx hb dX9_hold_15 (by decide) ?_
    exact g_iret hx hb hr hlocks h hP hS dX9_hold_16
  · replace h := h.2 c3
    refine lv_aload_n hx hb dX9_hold_7 rfl (lv_at hl 0 rfl) ?_
    refine lv_iload_n hx hb dX9_hold_8 rfl (lv_at hl 2 rfl) ?_
    refine va_calli (va_runV (As := [.int _]) (rest := []) ⟨hx, hb, hml, hown, hts⟩ (c_X9_isFraction l hI h) (cwV 1 hts gv_X9_126 rfl rfl rfl hv_X9_isFraction ⟨Nat.le_of_ble_eq_true rfl, Nat.le_of_ble_eq_true rfl⟩) (preV_M hKX hP hS (kM_lt (rfl : kdM 0 = 9)) (eM9 (rfl : kdM 0 = 9)) rfl) rfl rfl hl.1 rfl (lv_room (Nat.le_of_ble_eq_true rfl)) dX9_hold_9 ⟨Nat.le_of_ble_eq_true rfl, Nat.le_of_ble_eq_true rfl⟩) hS (fun _ _ h => h) (fun _ h => h) (fun r5 S4 t H locs ht _ h hB _ _ hS => ?_)
    have hP : VM dC dI cA P S4 H := by rw [← ht]; exact hB
    refine lv_if_ne (tgt := 17) hx hb dX9_hold_12 (by decide) (fun c6 => ?_) (fun c6 => ?_)
    · replace h := h.2 c6
      refine lv_aload_n hx hb dX9_hold_17 rfl (lv_at hl 0 rfl) ?_
      refine g_get (v := .ref (P 15)) hx hb hts inG_X9 hown hK hP (kM_lt (rfl : kdM 0 = 9)) (eM9 (rfl : kdM 0 = 9)) rfl 30 (by decide) G_fl_X9_59 rfl rfl dX9_hold_18 ?_
      refine lv_iload_n hx hb dX9_hold_21 rfl (lv_at hl 1 rfl) ?_
      refine lv_iconst (v := 1) hx hb dX9_hold_22 (by decide) ?_
      refine g_ast hx hb hK hI hP hS (kM_lt (rfl : kdM 15 = 10)) 0 (eM10 (rfl : kdM 15 = 10)) rfl h.1 h.2 dX9_hold_23 (fun S7 H locs h hP hS => ?_)
      refine lv_aload_n hx hb dX9_hold_24 rfl (lv_at hl 0 rfl) ?_
      refine g_get (v := .ref (P 16)) hx hb hts inG_X9 hown hK hP (kM_lt (rfl : kdM 0 = 9)) (eM9 (rfl : kdM 0 = 9)) rfl 31 (by decide) G_fl_X9_62 rfl rfl dX9_hold_25 ?_
      refine lv_iload_n hx hb dX9_hold_28 rfl (lv_at hl 1 rfl) ?_
      refine lv_aload_n hx hb dX9_hold_29 rfl (lv_at hl 0 rfl) ?_
      refine g_get (v := .ref (P 1)) hx hb hts inG_X9 hown hK hP (kM_lt (rfl : kdM 0 = 9)) (eM9 (rfl : kdM 0 = 9)) rfl 1 (by decide) G_fl_X9_11 rfl rfl dX9_hold_30 ?_
      refine lv_iload_n hx hb dX9_hold_33 rfl (lv_at hl 2 rfl) ?_
      refine g_ald hx hb hK hP (kM_lt (rfl : kdM 1 = 10)) 0 (eM10 (rfl : kdM 1 = 10)) rfl h.1 dX9_hold_34 ?_
      replace h := h.2
      replace h := h _ rfl
      refine g_ast hx hb hK hI hP hS (kM_lt (rfl : kdM 16 = 10)) 0 (eM10 (rfl : kdM 16 = 10)) rfl h.1 h.2 dX9_hold_35 (fun S9 H locs h hP hS => ?_)
      refine lv_aload_n hx hb dX9_hold_36 rfl (lv_at hl 0 rfl) ?_
      refine g_get (v := .ref (P 17)) hx hb hts inG_X9 hown hK hP (kM_lt (rfl : kdM 0 = 9)) (eM9 (rfl : kdM 0 = 9)) rfl 32 (by decide) G_fl_X9_65 rfl rfl dX9_hold_37 ?_
      refine lv_iload_n hx hb dX9_hold_40 rfl (lv_at hl 1 rfl) ?_
      refine lv_aload_n hx hb dX9_hold_41 rfl (lv_at hl 0 rfl) ?_
      refine g_get (v := .ref (P 2)) hx hb hts inG_X9 hown hK hP (kM_lt (rfl : kdM 0 = 9)) (eM9 (rfl : kdM 0 = 9)) rfl 2 (by decide) G_fl_X9_15 rfl rfl dX9_hold_42 ?_
      refine lv_iload_n hx hb dX9_hold_45 rfl (lv_at hl 2 rfl) ?_
      refine g_ald hx hb hK hP (kM_lt (rfl : kdM 2 = 10)) 0 (eM10 (rfl : kdM 2 = 10)) rfl h.1 dX9_hold_46 ?_
      replace h := h.2
      replace h := h _ rfl
      refine g_ast hx hb hK hI hP hS (kM_lt (rfl : kdM 17 = 10)) 0 (eM10 (rfl : kdM 17 = 10)) rfl h.1 h.2 dX9_hold_47 (fun S11 H locs h hP hS => ?_)
      refine lv_aload_n hx hb dX9_hold_48 rfl (lv_at hl 0 rfl) ?_
      refine g_get (v := .ref (P 18)) hx hb hts inG_X9 hown hK hP (kM_lt (rfl : kdM 0 = 9)) (eM9 (rfl : kdM 0 = 9)) rfl 33 (by decide) G_fl_X9_68 rfl rfl dX9_hold_49 ?_
      refine lv_iload_n hx hb dX9_hold_52 rfl (lv_at hl 1 rfl) ?_
      refine lv_aload_n hx hb dX9_hold_53 rfl (lv_at hl 0 rfl) ?_
      refine g_get (v := .ref (P 3)) hx hb hts inG_X9 hown hK hP (kM_lt (rfl : kdM 0 = 9)) (eM9 (rfl : kdM 0 = 9)) rfl 3 (by decide) G_fl_X9_18 rfl rfl dX9_hold_54 ?_
      refine lv_iload_n hx hb dX9_hold_57 rfl (lv_at hl 2 rfl) ?_
      refine g_ald hx hb hK hP (kM_lt (rfl : kdM 3 = 10)) 0 (eM10 (rfl : kdM 3 = 10)) rfl h.1 dX9_hold_58 ?_
      replace h := h.2
      replace h := h _ rfl
      refine g_ast hx hb hK hI hP hS (kM_lt (rfl : kdM 18 = 10)) 0 (eM10 (rfl : kdM 18 = 10)) rfl h.1 h.2 dX9_hold_59 (fun S13 H locs h hP hS => ?_)
      refine lv_aload_n hx hb dX9_hold_60 rfl (lv_at hl 0 rfl) ?_
      refine lv_iload_n hx hb dX9_hold_61 rfl (lv_at hl 1 rfl) ?_
      refine va_callv (va_runV (As := [.int _]) (rest := []) ⟨hx, hb, hml, hown, hts⟩ (c_X9_looksHeld l hI h) (cwV 1 hts gv_X9_297 rfl rfl rfl hv_X9_looksHeld ⟨Nat.le_of_ble_eq_true rfl, Nat.le_of_ble_eq_true rfl⟩) (preV_M hKX hP hS (kM_lt (rfl : kdM 0 = 9)) (eM9 (rfl : kdM 0 = 9)) rfl) rfl rfl hl.1 rfl (lv_room (Nat.le_of_ble_eq_true rfl)) dX9_hold_62 ⟨Nat.le_of_ble_eq_true rfl, Nat.le_of_ble_eq_true rfl⟩) hS (fun _ _ h => h) (fun _ h => h) (fun S14 t H locs ht _ h hB _ _ hS => ?_)
      have hP : VM dC dI cA P S14 H := by rw [← ht]; exact hB
      refine lv_aload_n hx hb dX9_hold_65 rfl (lv_at hl 0 rfl) ?_
      refine va_calli (va_runV (As := []) (rest := []) ⟨hx, hb, hml, hown, hts⟩ (c_X9_kindNow l hI h) (cwV 0 hts gv_X9_141 rfl rfl rfl hv_X9_kindNow ⟨Nat.le_of_ble_eq_true rfl, Nat.le_of_ble_eq_true rfl⟩) (preV_M hKX hP hS (kM_lt (rfl : kdM 0 = 9)) (eM9 (rfl : kdM 0 = 9)) rfl) rfl rfl hl.1 rfl (lv_room (Nat.le_of_ble_eq_true rfl)) dX9_hold_66 ⟨Nat.le_of_ble_eq_true rfl, Nat.le_of_ble_eq_true rfl⟩) hS (fun _ _ h => h) (fun _ h => h) (fun r16 S15 t H locs ht _ h hB _ _ hS => ?_)
      have hP : VM dC dI cA P S15 H := by rw [← ht]; exact hB
      exact g_iret hx hb hr hlocks h hP hS dX9_hold_69
    · replace h := h.1 c6
      refine lv_iconst (v := (-1)) hx hb dX9_hold_15 (by decide) ?_
      exact g_iret hx hb hr hlocks h hP hS dX9_hold_16
set_option maxRecDepth 100000 in
set_option maxHeartbeats 4000000 in
theorem c_X9_hold (l : Launch) {dC : Nat → ClassId} {dI : Nat → Nat → Nat} {cA : Nat → ClassId} {P : Nat → Nat} (hI : PInj 25 P) {v1 : Int32} {v2 : Int32}  {post : Int32 → St → Prop} {S : St} (h : w_X9_hold v1 v2 post S) : Met l yX9_hold (wW yX9_hold cX9_hold 3 (some .int)) ({ frames := 2, cells := 0, slots := 0, locals := 47 } : Room) (va_Pc [.ref (P 0), .int v1, .int v2] (PreM dC dI cA P S)) (va_Qi post (fun u t => VM dC dI cA P u t.heap) (PA 25 P)) 0 0 (PA 25 P) := by
  refine Met.ofW (cc := cX9_hold) (maxL := 3) (ret := (some .int)) (by decide) rfl ?_
  intro p e s m args below meth c s₁ B hml hv
  obtain ⟨rfl, hP, hKX⟩ := hv
  have hts : ∀ w ∈ G, w.before [.ref (P 0), .int v1, .int v2].toArray s = true := fun w hw => atoms_spec (ws := wW yX9_hold cX9_hold 3 (some .int)) B.pre w (List.mem_cons_of_mem _ hw)
  have C : CtxM dC dI cA P p s m [.ref (P 0), .int v1, .int v2].toArray meth c cX9_hold 3 (some .int) RX9 := ⟨hI, hKX, ⟨B.exec, B.bytes, hml, findClass_of_methodNamed B.named, hts⟩, B.returns, B.notSynchronized⟩
  have hS : va_S (PA 25 P) s.heap s.heap [] := va_S.rf
  have hl := lv_entry ([.ref (P 0), .int v1, .int v2]) (n := 3) (Nat.le_of_ble_eq_true rfl)
  rw [lg_entry_eq]
  generalize (lg_sl ([.ref (P 0), .int v1, .int v2]) ++ List.replicate (3 - (lg_sl ([.ref (P 0), .int v1, .int v2])).length) Slot.unset).toArray = ls at hl ⊢
  have hl : lv_has ls 3 [(0, .ref (P 0)), (1, .int v1), (2, .int v2)] := hl
  exact e_X9_hold C _ _ _ _ _ _ h  hP hS hl
set_option maxRecDepth 100000 in
set_option maxHeartbeats 4000000 in
theorem e_X9_lose {p : Program} {l : Launch} {e : Env} {s : State} {m : MethodId} {args : Array Value} {below : List Frame} {meth : Method} {c : Code} {dC : Nat → ClassId} {dI : Nat → Nat → Nat} {cA : Nat → ClassId} {P : Nat → Nat} (C : CtxM dC dI cA P p s m args meth c cX9_lose 3 (some .int) RX9) {post : Int32 → St → Prop} : ∀ (v1 : Int32) (S : St) (H : Heap) (locs : List Loc) (ls : Array Slot), w_X9_lose v1 post S → VM dC dI cA P S H → va_S (PA 25 P) s.heap H locs → lv_has ls 3 [(0, .ref (P 0)), (1, .int v1)] → W p l e ({ frames := 2, cells := 0, slots := 0, locals := 45 } : Room) s m args below meth c H locs 0 0 (MQ below (va_Qi post (fun u t => VM dC dI cA P u t.heap) (PA 25 P)) args s 0 0 (PA 25 P)) (F0 m 0 ls []) := by
  have C := C
  obtain ⟨hI, hKX, ⟨hx, hb, hml, hown, hts⟩, hr, hlocks⟩ := id C
  have hK := hKX
  intro v1 S H locs ls h hP hS hl
  rw [w_X9_lose] at h
  refine lv_iload_n hx hb dX9_lose_0 rfl (lv_at hl 1 rfl) ?_
  refine va_calli (va_runS (As := [.int _]) (rest := []) ⟨hx, hb, hml, hown, hts⟩ (c_X9_isHolder l hI h) (va_cwS 1 hts gs_X9_294 rfl rfl rfl hd_X9_isHolder ⟨Nat.le_of_ble_eq_true rfl, Nat.le_of_ble_eq_true rfl⟩) (preS_M hKX hP hS) rfl rfl hl.1 rfl (lv_room (Nat.le_of_ble_eq_true rfl)) dX9_lose_1 ⟨Nat.le_of_ble_eq_true rfl, Nat.le_of_ble_eq_true rfl⟩) hS (fun _ _ h => h) (fun _ h => h) (fun r2 S1 t H locs ht _ h hB _ _ hS => ?_)
  have hP : VM dC dI cA P S1 H := by rw [← ht]; exact hB
  refine lv_if_ne (tgt := 9) hx hb dX9_lose_4 (by decide) (fun c3 => ?_) (fun c3 => ?_)
  · replace h := h.2 c3
    refine lv_aload_n hx hb dX9_lose_9 rfl (lv_at hl 0 rfl) ?_
    refine g_get (v := .ref (P 15)) hx hb hts inG_X9 hown hK hP (kM_lt (rfl : kdM 0 = 9)) (eM9 (rfl : kdM 0 = 9)) rfl 30 (by decide) G_fl_X9_59 rfl rfl dX9_lose_10 ?_
    refine lv_iload_n hx hb dX9_lose_13 rfl (lv_at hl 1 rfl) ?_
    refine g_ald hx hb hK hP (kM_lt (rfl : kdM 15 = 10)) 0 (eM10 (rfl : kdM 15 = 10)) rfl h.1 dX9_lose_14 ?_
    replace h := h.2
    refine lv_topi (fun x4 ex4 => ?_)
    replace h := h x4 ex4
    refine lv_istore_n (lv' := [(2, .int x4), (0, .ref (P 0)), (1, .int v1)]) hx hb dX9_lose_15 rfl hl (by decide) rfl (fun ls hl => ?_)
    refine lv_aload_n hx hb dX9_lose_16 rfl (lv_at hl 1 rfl) ?_
    refine g_get (v := .ref (P 15)) hx hb hts inG_X9 hown hK hP (kM_lt (rfl : kdM 0 = 9)) (eM9 (rfl : kdM 0 = 9)) rfl 30 (by decide) G_fl_X9_59 rfl rfl dX9_lose_17 ?_
    refine lv_iload_n hx hb dX9_lose_20 rfl (lv_at hl 2 rfl) ?_
    refine lv_iconst (v := 0) hx hb dX9_lose_21 (by decide) ?_
    refine g_ast hx hb hK hI hP hS (kM_lt (rfl : kdM 15 = 10)) 0 (eM10 (rfl : kdM 15 = 10)) rfl h.1 h.2 dX9_lose_22 (fun S5 H locs h hP hS => ?_)
    refine lv_iload_n hx hb dX9_lose_23 rfl (lv_at hl 0 rfl) ?_
    exact g_iret hx hb hr hlocks h hP hS dX9_lose_24
  · replace h := h.1 c3
    refine lv_iconst (v := (-1)) hx hb dX9_lose_7 (by decide) ?_
    exact g_iret hx hb hr hlocks h hP hS dX9_lose_8
set_option maxRecDepth 100000 in
set_option maxHeartbeats 4000000 in
theorem c_X9_lose (l : Launch) {dC : Nat → ClassId} {dI : Nat → Nat → Nat} {cA : Nat → ClassId} {P : Nat → Nat} (hI : PInj 25 P) {v1 : Int32}  {post : Int32 → St → Prop} {S : St} (h : w_X9_lose v1 post S) : Met l yX9_lose (wW yX9_lose cX9_lose 3 (some .int)) ({ frames := 2, cells := 0, slots := 0, locals := 45 } : Room) (va_Pc [.ref (P 0), .int v1] (PreM dC dI cA P S)) (va_Qi post (fun u t => VM dC dI cA P u t.heap) (PA 25 P)) 0 0 (PA 25 P) := by
  refine Met.ofW (cc := cX9_lose) (maxL := 3) (ret := (some .int)) (by decide) rfl ?_
  intro p e s m args below meth c s₁ B hml hv
  obtain ⟨rfl, hP, hKX⟩ := hv
  have hts : ∀ w ∈ G, w.before [.ref (P 0), .int v1].toArray s = true := fun w hw => atoms_spec (ws := wW yX9_lose cX9_lose 3 (some .int)) B.pre w (List.mem_cons_of_mem _ hw)
  have C : CtxM dC dI cA P p s m [.ref (P 0), .int v1].toArray meth c cX9_lose 3 (some .int) RX9 := ⟨hI, hKX, ⟨B.exec, B.bytes, hml, findClass_of_methodNamed B.named, hts⟩, B.returns, B.notSynchronized⟩
  have hS : va_S (PA 25 P) s.heap s.heap [] := va_S.rf
  have hl := lv_entry ([.ref (P 0), .int v1]) (n := 3) (Nat.le_of_ble_eq_true rfl)
  rw [lg_entry_eq]
  generalize (lg_sl ([.ref (P 0), .int v1]) ++ List.replicate (3 - (lg_sl ([.ref (P 0), .int v1])).length) Slot.unset).toArray = ls at hl ⊢
  have hl : lv_has ls 3 [(0, .ref (P 0)), (1, .int v1)] := hl
  exact e_X9_lose C _ _ _ _ _ h  hP hS hl
set_option maxRecDepth 100000 in
set_option maxHeartbeats 4000000 in
theorem e_X9_whyNot {p : Program} {l : Launch} {e : Env} {s : State} {m : MethodId} {args : Array Value} {below : List Frame} {meth : Method} {c : Code} {dC : Nat → ClassId} {dI : Nat → Nat → Nat} {cA : Nat → ClassId} {P : Nat → Nat} (C : CtxM dC dI cA P p s m args meth c cX9_whyNot 3 (some .int) RX9) {post : Int32 → St → Prop} : ∀ (v1 : Int32) (v2 : Int32) (S : St) (H : Heap) (locs : List Loc) (ls : Array Slot), w_X9_whyNot v1 v2 post S → VM dC dI cA P S H → va_S (PA 25 P) s.heap H locs → lv_has ls 3 [(0, .ref (P 0)), (1, .int v1), (2, .int v2)] → W p l e ({ frames := 0, cells := 0, slots := 0, locals := 0 } : Room) s m args below meth c H locs 0 0 (MQ below (va_Qi post (fun u t => VM dC dI cA P u t.heap) (PA 25 P)) args s 0 0 (PA 25 P)) (F0 m 0 ls []) := by
  have C := C
  obtain ⟨hI, hKX, ⟨hx, hb, hml, hown, hts⟩, hr, hlocks⟩ := id C
  have hK := hKX
  intro v1 v2 S H locs ls h hP hS hl
  rw [w_X9_whyNot] at h
  refine lv_aload_n hx hb dX9_whyNot_0 rfl (lv_at hl 0 rfl) ?_
  refine g_get (v := .ref (P 15)) hx hb hts inG_X9 hown hK hP (kM_lt (rfl : kdM 0 = 9)) (eM9 (rfl : kdM 0 = 9)) rfl 30 (by decide) G_fl_X9_59 rfl rfl dX9_whyNot_1 ?_
  refine lv_iload_n hx hb dX9_whyNot_4 rfl (lv_at hl 1 rfl) ?_
  refine g_ald hx hb hK hP (kM_lt (rfl : kdM 15 = 10)) 0 (eM10 (rfl : kdM 15 = 10)) rfl h.1 dX9_whyNot_5 ?_
  replace h := h.2
  refine lv_if_ne (tgt := 14) hx hb dX9_whyNot_6 (by decide) (fun c1 => ?_) (fun c1 => ?_)
  · replace h := h.2 c1
    refine lv_aload_n hx hb dX9_whyNot_14 rfl (lv_at hl 0 rfl) ?_
    refine g_get (v := .ref (P 15)) hx hb hts inG_X9 hown hK hP (kM_lt (rfl : kdM 0 = 9)) (eM9 (rfl : kdM 0 = 9)) rfl 30 (by decide) G_fl_X9_59 rfl rfl dX9_whyNot_15 ?_
    refine lv_iload_n hx hb dX9_whyNot_18 rfl (lv_at hl 1 rfl) ?_
    refine g_ald hx hb hK hP (kM_lt (rfl : kdM 15 = 10)) 0 (eM10 (rfl : kdM 15 = 10)) rfl h.1 dX9_whyNot_19 ?_
    replace h := h.2
    refine lv_iload_n hx hb dX9_whyNot_20 rfl (lv_at hl 2 rfl) ?_
    refine lv_icmp_ne (tgt := 28) hx hb dX9_whyNot_21 (by decide) (fun c2 => ?_) (fun c2 => ?_)
    · replace h := h.2 c2
      refine lv_bipush (v := (-12)) hx hb dX9_whyNot_28 (by decide) ?_
      exact g_iret hx hb hr hlocks h hP hS dX9_whyNot_30
    · replace h := h.1 c2
      refine lv_iconst (v := 0) hx hb dX9_whyNot_24 (by decide) ?_
      refine lv_goto (tgt := 30) hx hb dX9_whyNot_25 (by decide) ?_
      exact g_iret hx hb hr hlocks h hP hS dX9_whyNot_30
  · replace h := h.1 c1
    refine lv_bipush (v := (-11)) hx hb dX9_whyNot_9 (by decide) ?_
    refine lv_goto (tgt := 30) hx hb dX9_whyNot_11 (by decide) ?_
    exact g_iret hx hb hr hlocks h hP hS dX9_whyNot_30
set_option maxRecDepth 100000 in
set_option maxHeartbeats 4000000 in
theorem c_X9_whyNot (l : Launch) {dC : Nat → ClassId} {dI : Nat → Nat → Nat} {cA : Nat → ClassId} {P : Nat → Nat} (hI : PInj 25 P) {v1 : Int32} {v2 : Int32}  {post : Int32 → St → Prop} {S : St} (h : w_X9_whyNot v1 v2 post S) : Met l yX9_whyNot (wW yX9_whyNot cX9_whyNot 3 (some .int)) ({ frames := 0, cells := 0, slots := 0, locals := 0 } : Room) (va_Pc [.ref (P 0), .int v1, .int v2] (PreM dC dI cA P S)) (va_Qi post (fun u t => VM dC dI cA P u t.heap) (PA 25 P)) 0 0 (PA 25 P) := by
  refine Met.ofW (cc := cX9_whyNot) (maxL := 3) (ret := (some .int)) (by decide) rfl ?_
  intro p e s m args below meth c s₁ B hml hv
  obtain ⟨rfl, hP, hKX⟩ := hv
  have hts : ∀ w ∈ G, w.before [.ref (P 0), .int v1, .int v2].toArray s = true := fun w hw => atoms_spec (ws := wW yX9_whyNot cX9_whyNot 3 (some .int)) B.pre w (List.mem_cons_of_mem _ hw)
  have C : CtxM dC dI cA P p s m [.ref (P 0), .int v1, .int v2].toArray meth c cX9_whyNot 3 (some .int) RX9 := ⟨hI, hKX, ⟨B.exec, B.bytes, hml, findClass_of_methodNamed B.named, hts⟩, B.returns, B.notSynchronized⟩
  have hS : va_S (PA 25 P) s.heap s.heap [] := va_S.rf
  have hl := lv_entry ([.ref (P 0), .int v1, .int v2]) (n := 3) (Nat.le_of_ble_eq_true rfl)
  rw [lg_entry_eq]
  generalize (lg_sl ([.ref (P 0), .int v1, .int v2]) ++ List.replicate (3 - (lg_sl ([.ref (P 0), .int v1, .int v2])).length) Slot.unset).toArray = ls at hl ⊢
  have hl : lv_has ls 3 [(0, .ref (P 0)), (1, .int v1), (2, .int v2)] := hl
  exact e_X9_whyNot C _ _ _ _ _ _ h  hP hS hl
set_option maxRecDepth 100000 in
set_option maxHeartbeats 4000000 in
theorem b_X9_taken_56 {p : Program} {l : Launch} {e : Env} {s : State} {m : MethodId} {args : Array Value} {below : List Frame} {meth : Method} {c : Code} {dC : Nat → ClassId} {dI : Nat → Nat → Nat} {cA : Nat → ClassId} {P : Nat → Nat} (C : CtxM dC dI cA P p s m args meth c cX9_taken 4 (some .int) RX9) {post : Int32 → St → Prop}  : ∀ (v1 : Int32) (v2 : Int32) (S : St) (H : Heap) (locs : List Loc) (ls : Array Slot), w_X9_taken_56 post v1 v2 S → VM dC dI cA P S H → va_S (PA 25 P) s.heap H locs → lv_has ls 4 [(0, .ref (P 0)), (1, .int v1), (2, .int v2)] → W p l e ({ frames := 2, cells := 0, slots := 0, locals := 47 } : Room) s m args below meth c H locs 0 0 (MQ below (va_Qi post (fun u t => VM dC dI cA P u t.heap) (PA 25 P)) args s 0 0 (PA 25 P)) (F0 m 56 ls []) := by
  have C := C
  obtain ⟨hI, hKX, ⟨hx, hb, hml, hown, hts⟩, hr, hlocks⟩ := id C
  have hK := hKX
  intro v1 v2 S H locs ls h hP hS hl
  rw [w_X9_taken_56] at h
  refine lv_iload_n hx hb dX9_taken_56 rfl (lv_at hl 2 rfl) ?_
  refine lv_if_ne (tgt := 69) hx hb dX9_taken_57 (by decide) (fun c13 => ?_) (fun c13 => ?_)
  · replace h := h.2 c13
    refine lv_iload_n hx hb dX9_taken_69 rfl (lv_at hl 2 rfl) ?_
    refine lv_iconst (v := 2) hx hb dX9_taken_70 (by decide) ?_
    refine lv_icmp_ne (tgt := 81) hx hb dX9_taken_71 (by decide) (fun c14 => ?_) (fun c14 => ?_)
    · replace h := h.2 c14
      refine lv_aload_n hx hb dX9_taken_81 rfl (lv_at hl 0 rfl) ?_
      refine g_get (v := .int (S.1 0 4)) hx hb hts inG_X9 hown hK hP (kM_lt (rfl : kdM 0 = 9)) (eM9 (rfl : kdM 0 = 9)) rfl 4 (by decide) G_fl_X9_100 rfl rfl dX9_taken_82 ?_
      exact g_iret hx hb hr hlocks h hP hS dX9_taken_85
    · replace h := h.1 c14
      refine lv_aload_n hx hb dX9_taken_74 rfl (lv_at hl 0 rfl) ?_
      refine g_get (v := .int (S.1 0 5)) hx hb hts inG_X9 hown hK hP (kM_lt (rfl : kdM 0 = 9)) (eM9 (rfl : kdM 0 = 9)) rfl 5 (by decide) G_fl_X9_103 rfl rfl dX9_taken_75 ?_
      refine lv_goto (tgt := 85) hx hb dX9_taken_78 (by decide) ?_
      exact g_iret hx hb hr hlocks h hP hS dX9_taken_85
  · replace h := h.1 c13
    refine lv_aload_n hx hb dX9_taken_60 rfl (lv_at hl 0 rfl) ?_
    refine g_get (v := .ref (P 16)) hx hb hts inG_X9 hown hK hP (kM_lt (rfl : kdM 0 = 9)) (eM9 (rfl : kdM 0 = 9)) rfl 31 (by decide) G_fl_X9_62 rfl rfl dX9_taken_61 ?_
    refine lv_iload_n hx hb dX9_taken_64 rfl (lv_at hl 1 rfl) ?_
    refine g_ald hx hb hK hP (kM_lt (rfl : kdM 16 = 10)) 0 (eM10 (rfl : kdM 16 = 10)) rfl h.1 dX9_taken_65 ?_
    replace h := h.2
    refine lv_goto (tgt := 85) hx hb dX9_taken_66 (by decide) ?_
    exact g_iret hx hb hr hlocks h hP hS dX9_taken_85
set_option maxRecDepth 100000 in
set_option maxHeartbeats 4000000 in
theorem e_X9_taken {p : Program} {l : Launch} {e : Env} {s : State} {m : MethodId} {args : Array Value} {below : List Frame} {meth : Method} {c : Code} {dC : Nat → ClassId} {dI : Nat → Nat → Nat} {cA : Nat → ClassId} {P : Nat → Nat} (C : CtxM dC dI cA P p s m args meth c cX9_taken 4 (some .int) RX9) {post : Int32 → St → Prop} : ∀ (v1 : Int32) (v2 : Int32) (S : St) (H : Heap) (locs : List Loc) (ls : Array Slot), w_X9_taken v1 v2 post S → VM dC dI cA P S H → va_S (PA 25 P) s.heap H locs → lv_has ls 4 [(0, .ref (P 0)), (1, .int v1), (2, .int v2)] → W p l e ({ frames := 2, cells := 0, slots := 0, locals := 47 } : Room) s m args below meth c H locs 0 0 (MQ below (va_Qi post (fun u t => VM dC dI cA P u t.heap) (PA 25 P)) args s 0 0 (PA 25 P)) (F0 m 0 ls []) := by
  have C := C
  obtain ⟨hI, hKX, ⟨hx, hb, hml, hown, hts⟩, hr, hlocks⟩ := id C
  have hK := hKX
  intro v1 v2 S H locs ls h hP hS hl
  rw [w_X9_taken] at h
  refine lv_iload_n hx hb dX9_taken_0 rfl (lv_at hl 1 rfl) ?_
  refine va_calli (va_runS (As := [.int _]) (rest := []) ⟨hx, hb, hml, hown, hts⟩ (c_X9_isHolder l hI h) (va_cwS 1 hts gs_X9_294 rfl rfl rfl hd_X9_isHolder ⟨Nat.le_of_ble_eq_true rfl, Nat.le_of_ble_eq_true rfl⟩) (preS_M hKX hP hS) rfl rfl hl.1 rfl (lv_room (Nat.le_of_ble_eq_true rfl)) dX9_taken_1 ⟨Nat.le_of_ble_eq_true rfl, Nat.le_of_ble_eq_true rfl⟩) hS (fun _ _ h => h) (fun _ h => h) (fun r2 S1 t H locs ht _ h hB _ _ hS => ?_)
  have hP : VM dC dI cA P S1 H := by rw [← ht]; exact hB
  refine lv_if_eq (tgt := 19) hx hb dX9_taken_4 (by decide) (fun c3 => ?_) (fun c3 => ?_)
  · replace h := h.1 c3
    refine lv_iconst (v := (-1)) hx hb dX9_taken_19 (by decide) ?_
    exact g_iret hx hb hr hlocks h hP hS dX9_taken_20
  · replace h := h.2 c3
    refine lv_iload_n hx hb dX9_taken_7 rfl (lv_at hl 2 rfl) ?_
    refine lv_i2l hx hb dX9_taken_8 rfl ?_
    refine lv_lconst (v := 0) hx hb dX9_taken_9 (by decide) ?_
    refine lv_ldc2 (v := 3) hx hb hown (hts _ G_co_X9_300) dX9_taken_10 ?_
    replace h := h _ rfl
    refine va_calli (va_runS (As := [.long _, .long _, .long _]) (rest := []) ⟨hx, hb, hml, hown, hts⟩ (c_X9_isIn l hI h) (va_cwS 3 hts gs_X9_92 rfl rfl rfl hd_X9_isIn ⟨Nat.le_of_ble_eq_true rfl, Nat.le_of_ble_eq_true rfl⟩) (preS_M hKX hP hS) rfl rfl hl.1 rfl (lv_room (Nat.le_of_ble_eq_true rfl)) dX9_taken_13 ⟨Nat.le_of_ble_eq_true rfl, Nat.le_of_ble_eq_true rfl⟩) hS (fun _ _ h => h) (fun _ h => h) (fun r6 S5 t H locs ht _ h hB _ _ hS => ?_)
    have hP : VM dC dI cA P S5 H := by rw [← ht]; exact hB
    refine lv_if_ne (tgt := 21) hx hb dX9_taken_16 (by decide) (fun c7 => ?_) (fun c7 => ?_)
    · replace h := h.2 c7
      refine lv_aload_n hx hb dX9_taken_21 rfl (lv_at hl 0 rfl) ?_
      refine lv_iload_n hx hb dX9_taken_22 rfl (lv_at hl 1 rfl) ?_
      refine lv_iconst (v := 1) hx hb dX9_taken_23 (by decide) ?_
      refine va_calli (va_runV (As := [.int _, .int _]) (rest := []) ⟨hx, hb, hml, hown, hts⟩ (c_X9_whyNot l hI h) (cwV 2 hts gv_X9_302 rfl rfl rfl hv_X9_whyNot ⟨Nat.le_of_ble_eq_true rfl, Nat.le_of_ble_eq_true rfl⟩) (preV_M hKX hP hS (kM_lt (rfl : kdM 0 = 9)) (eM9 (rfl : kdM 0 = 9)) rfl) rfl rfl hl.1 rfl (lv_room (Nat.le_of_ble_eq_true rfl)) dX9_taken_24 ⟨Nat.le_of_ble_eq_true rfl, Nat.le_of_ble_eq_true rfl⟩) hS (fun _ _ h => h) (fun _ h => h) (fun r9 S8 t H locs ht _ h hB _ _ hS => ?_)
      have hP : VM dC dI cA P S8 H := by rw [← ht]; exact hB
      refine lv_istore_n (lv' := [(3, .int r9), (0, .ref (P 0)), (1, .int v1), (2, .int v2)]) hx hb dX9_taken_27 rfl hl (by decide) rfl (fun ls hl => ?_)
      refine lv_iload_n hx hb dX9_taken_28 rfl (lv_at hl 0 rfl) ?_
      refine lv_if_eq (tgt := 34) hx hb dX9_taken_29 (by decide) (fun c10 => ?_) (fun c10 => ?_)
      · replace h := h.1 c10
        refine lv_aload_n hx hb dX9_taken_34 rfl (lv_at hl 1 rfl) ?_
        refine lv_iload_n hx hb dX9_taken_35 rfl (lv_at hl 2 rfl) ?_
        refine va_callv (va_runV (As := [.int _]) (rest := []) ⟨hx, hb, hml, hown, hts⟩ (c_X9_looksHeld l hI h) (cwV 1 hts gv_X9_297 rfl rfl rfl hv_X9_looksHeld ⟨Nat.le_of_ble_eq_true rfl, Nat.le_of_ble_eq_true rfl⟩) (preV_M hKX hP hS (kM_lt (rfl : kdM 0 = 9)) (eM9 (rfl : kdM 0 = 9)) rfl) rfl rfl hl.1 rfl (lv_room (Nat.le_of_ble_eq_true rfl)) dX9_taken_36 ⟨Nat.le_of_ble_eq_true rfl, Nat.le_of_ble_eq_true rfl⟩) hS (fun _ _ h => h) (fun _ h => h) (fun S11 t H locs ht _ h hB _ _ hS => ?_)
        have hP : VM dC dI cA P S11 H := by rw [← ht]; exact hB
        refine lv_iload_n hx hb dX9_taken_39 rfl (lv_at hl 3 rfl) ?_
        refine lv_if_le (tgt := 56) hx hb dX9_taken_40 (by decide) (fun c12 => ?_) (fun c12 => ?_)
        · replace h := h.1 c12
          exact b_X9_taken_56 C _ _ _ _ _ _ h  hP hS (lv_sub hl [1, 2, 3] rfl)
        · replace h := h.2 c12
          refine lv_aload_n hx hb dX9_taken_43 rfl (lv_at hl 1 rfl) ?_
          refine va_calli (va_runV (As := []) (rest := []) ⟨hx, hb, hml, hown, hts⟩ (c_X9_kindNow l hI h) (cwV 0 hts gv_X9_141 rfl rfl rfl hv_X9_kindNow ⟨Nat.le_of_ble_eq_true rfl, Nat.le_of_ble_eq_true rfl⟩) (preV_M hKX hP hS (kM_lt (rfl : kdM 0 = 9)) (eM9 (rfl : kdM 0 = 9)) rfl) rfl rfl hl.1 rfl (lv_room (Nat.le_of_ble_eq_true rfl)) dX9_taken_44 ⟨Nat.le_of_ble_eq_true rfl, Nat.le_of_ble_eq_true rfl⟩) hS (fun _ _ h => h) (fun _ h => h) (fun r16 S15 t H locs ht _ h hB _ _ hS => ?_)
          have hP : VM dC dI cA P S15 H := by rw [← ht]; exact hB
          refine lv_iload_n hx hb dX9_taken_47 rfl (lv_at hl 3 rfl) ?_
          refine lv_iconst (v := 1) hx hb dX9_taken_48 (by decide) ?_
          refine lv_isub hx hb dX9_taken_49 ?_
          refine lv_icmp_eq (tgt := 56) hx hb dX9_taken_50 (by decide) (fun c17 => ?_) (fun c17 => ?_)
          · replace h := h.1 c17
            exact b_X9_taken_56 C _ _ _ _ _ _ h  hP hS (lv_sub hl [1, 2, 3] rfl)
          · replace h := h.2 c17
            refine lv_bipush (v := (-12)) hx hb dX9_taken_53 (by decide) ?_
            exact g_iret hx hb hr hlocks h hP hS dX9_taken_55
      · replace h := h.2 c10
        refine lv_iload_n hx hb dX9_taken_32 rfl (lv_at hl 0 rfl) ?_
        exact g_iret hx hb hr hlocks h hP hS dX9_taken_33
    · replace h := h.1 c7
      refine lv_iconst (v := (-1)) hx hb dX9_taken_19 (by decide) ?_
      exact g_iret hx hb hr hlocks h hP hS dX9_taken_20
set_option maxRecDepth 100000 in
set_option maxHeartbeats 4000000 in
theorem c_X9_taken (l : Launch) {dC : Nat → ClassId} {dI : Nat → Nat → Nat} {cA : Nat → ClassId} {P : Nat → Nat} (hI : PInj 25 P) {v1 : Int32} {v2 : Int32}  {post : Int32 → St → Prop} {S : St} (h : w_X9_taken v1 v2 post S) : Met l yX9_taken (wW yX9_taken cX9_taken 4 (some .int)) ({ frames := 2, cells := 0, slots := 0, locals := 47 } : Room) (va_Pc [.ref (P 0), .int v1, .int v2] (PreM dC dI cA P S)) (va_Qi post (fun u t => VM dC dI cA P u t.heap) (PA 25 P)) 0 0 (PA 25 P) := by
  refine Met.ofW (cc := cX9_taken) (maxL := 4) (ret := (some .int)) (by decide) rfl ?_
  intro p e s m args below meth c s₁ B hml hv
  obtain ⟨rfl, hP, hKX⟩ := hv
  have hts : ∀ w ∈ G, w.before [.ref (P 0), .int v1, .int v2].toArray s = true := fun w hw => atoms_spec (ws := wW yX9_taken cX9_taken 4 (some .int)) B.pre w (List.mem_cons_of_mem _ hw)
  have C : CtxM dC dI cA P p s m [.ref (P 0), .int v1, .int v2].toArray meth c cX9_taken 4 (some .int) RX9 := ⟨hI, hKX, ⟨B.exec, B.bytes, hml, findClass_of_methodNamed B.named, hts⟩, B.returns, B.notSynchronized⟩
  have hS : va_S (PA 25 P) s.heap s.heap [] := va_S.rf
  have hl := lv_entry ([.ref (P 0), .int v1, .int v2]) (n := 4) (Nat.le_of_ble_eq_true rfl)
  rw [lg_entry_eq]
  generalize (lg_sl ([.ref (P 0), .int v1, .int v2]) ++ List.replicate (4 - (lg_sl ([.ref (P 0), .int v1, .int v2])).length) Slot.unset).toArray = ls at hl ⊢
  have hl : lv_has ls 4 [(0, .ref (P 0)), (1, .int v1), (2, .int v2)] := hl
  exact e_X9_taken C _ _ _ _ _ _ h  hP hS hl
set_option maxRecDepth 100000 in
set_option maxHeartbeats 4000000 in
theorem e_X9_was {p : Program} {l : Launch} {e : Env} {s : State} {m : MethodId} {args : Array Value} {below : List Frame} {meth : Method} {c : Code} {dC : Nat → ClassId} {dI : Nat → Nat → Nat} {cA : Nat → ClassId} {P : Nat → Nat} (C : CtxM dC dI cA P p s m args meth c cX9_was 4 (some .int) RX9) {post : Int32 → St → Prop} : ∀ (v1 : Int32) (v2 : Int32) (S : St) (H : Heap) (locs : List Loc) (ls : Array Slot), w_X9_was v1 v2 post S → VM dC dI cA P S H → va_S (PA 25 P) s.heap H locs → lv_has ls 4 [(0, .ref (P 0)), (1, .int v1), (2, .int v2)] → W p l e ({ frames := 2, cells := 0, slots := 0, locals := 47 } : Room) s m args below meth c H locs 0 0 (MQ below (va_Qi post (fun u t => VM dC dI cA P u t.heap) (PA 25 P)) args s 0 0 (PA 25 P)) (F0 m 0 ls []) := by
  have C := C
  obtain ⟨hI, hKX, ⟨hx, hb, hml, hown, hts⟩, hr, hlocks⟩ := id C
  have hK := hKX
  intro v1 v2 S H locs ls h hP hS hl
  rw [w_X9_was] at h
  refine lv_iload_n hx hb dX9_was_0 rfl (lv_at hl 1 rfl) ?_
  refine va_calli (va_runS (As := [.int _]) (rest := []) ⟨hx, hb, hml, hown, hts⟩ (c_X9_isHolder l hI h) (va_cwS 1 hts gs_X9_294 rfl rfl rfl hd_X9_isHolder ⟨Nat.le_of_ble_eq_true rfl, Nat.le_of_ble_eq_true rfl⟩) (preS_M hKX hP hS) rfl rfl hl.1 rfl (lv_room (Nat.le_of_ble_eq_true rfl)) dX9_was_1 ⟨Nat.le_of_ble_eq_true rfl, Nat.le_of_ble_eq_true rfl⟩) hS (fun _ _ h => h) (fun _ h => h) (fun r2 S1 t H locs ht _ h hB _ _ hS => ?_)
  have hP : VM dC dI cA P S1 H := by rw [← ht]; exact hB
  refine lv_if_eq (tgt := 19) hx hb dX9_was_4 (by decide) (fun c3 => ?_) (fun c3 => ?_)
  · replace h := h.1 c3
    refine lv_iconst (v := (-1)) hx hb dX9_was_19 (by decide) ?_
    exact g_iret hx hb hr hlocks h hP hS dX9_was_20
  · replace h := h.2 c3
    refine lv_iload_n hx hb dX9_was_7 rfl (lv_at hl 2 rfl) ?_
    refine lv_i2l hx hb dX9_was_8 rfl ?_
    refine lv_lconst (v := 0) hx hb dX9_was_9 (by decide) ?_
    refine lv_ldc2 (v := 9999) hx hb hown (hts _ G_co_X9_114) dX9_was_10 ?_
    replace h := h _ rfl
    refine va_calli (va_runS (As := [.long _, .long _, .long _]) (rest := []) ⟨hx, hb, hml, hown, hts⟩ (c_X9_isIn l hI h) (va_cwS 3 hts gs_X9_92 rfl rfl rfl hd_X9_isIn ⟨Nat.le_of_ble_eq_true rfl, Nat.le_of_ble_eq_true rfl⟩) (preS_M hKX hP hS) rfl rfl hl.1 rfl (lv_room (Nat.le_of_ble_eq_true rfl)) dX9_was_13 ⟨Nat.le_of_ble_eq_true rfl, Nat.le_of_ble_eq_true rfl⟩) hS (fun _ _ h => h) (fun _ h => h) (fun r6 S5 t H locs ht _ h hB _ _ hS => ?_)
    have hP : VM dC dI cA P S5 H := by rw [← ht]; exact hB
    refine lv_if_ne (tgt := 21) hx hb dX9_was_16 (by decide) (fun c7 => ?_) (fun c7 => ?_)
    · replace h := h.2 c7
      refine lv_aload_n hx hb dX9_was_21 rfl (lv_at hl 0 rfl) ?_
      refine lv_iload_n hx hb dX9_was_22 rfl (lv_at hl 1 rfl) ?_
      refine lv_iconst (v := 1) hx hb dX9_was_23 (by decide) ?_
      refine va_calli (va_runV (As := [.int _, .int _]) (rest := []) ⟨hx, hb, hml, hown, hts⟩ (c_X9_whyNot l hI h) (cwV 2 hts gv_X9_302 rfl rfl rfl hv_X9_whyNot ⟨Nat.le_of_ble_eq_true rfl, Nat.le_of_ble_eq_true rfl⟩) (preV_M hKX hP hS (kM_lt (rfl : kdM 0 = 9)) (eM9 (rfl : kdM 0 = 9)) rfl) rfl rfl hl.1 rfl (lv_room (Nat.le_of_ble_eq_true rfl)) dX9_was_24 ⟨Nat.le_of_ble_eq_true rfl, Nat.le_of_ble_eq_true rfl⟩) hS (fun _ _ h => h) (fun _ h => h) (fun r9 S8 t H locs ht _ h hB _ _ hS => ?_)
      have hP : VM dC dI cA P S8 H := by rw [← ht]; exact hB
      refine lv_istore_n (lv' := [(3, .int r9), (0, .ref (P 0)), (1, .int v1), (2, .int v2)]) hx hb dX9_was_27 rfl hl (by decide) rfl (fun ls hl => ?_)
      refine lv_iload_n hx hb dX9_was_28 rfl (lv_at hl 0 rfl) ?_
      refine lv_if_eq (tgt := 34) hx hb dX9_was_29 (by decide) (fun c10 => ?_) (fun c10 => ?_)
      · replace h := h.1 c10
        refine lv_aload_n hx hb dX9_was_34 rfl (lv_at hl 1 rfl) ?_
        refine lv_iload_n hx hb dX9_was_35 rfl (lv_at hl 2 rfl) ?_
        refine va_callv (va_runV (As := [.int _]) (rest := []) ⟨hx, hb, hml, hown, hts⟩ (c_X9_looksHeld l hI h) (cwV 1 hts gv_X9_297 rfl rfl rfl hv_X9_looksHeld ⟨Nat.le_of_ble_eq_true rfl, Nat.le_of_ble_eq_true rfl⟩) (preV_M hKX hP hS (kM_lt (rfl : kdM 0 = 9)) (eM9 (rfl : kdM 0 = 9)) rfl) rfl rfl hl.1 rfl (lv_room (Nat.le_of_ble_eq_true rfl)) dX9_was_36 ⟨Nat.le_of_ble_eq_true rfl, Nat.le_of_ble_eq_true rfl⟩) hS (fun _ _ h => h) (fun _ h => h) (fun S11 t H locs ht _ h hB _ _ hS => ?_)
        have hP : VM dC dI cA P S11 H := by rw [← ht]; exact hB
        refine lv_aload_n hx hb dX9_was_39 rfl (lv_at hl 1 rfl) ?_
        refine g_get (v := .ref (P 6)) hx hb hts inG_X9 hown hK hP (kM_lt (rfl : kdM 0 = 9)) (eM9 (rfl : kdM 0 = 9)) rfl 9 (by decide) G_fl_X9_27 rfl rfl dX9_was_40 ?_
        refine lv_aload_n hx hb dX9_was_43 rfl (lv_at hl 1 rfl) ?_
        refine lv_iload_n hx hb dX9_was_44 rfl (lv_at hl 3 rfl) ?_
        refine va_calli (va_runV (As := [.int _]) (rest := [.ref _]) ⟨hx, hb, hml, hown, hts⟩ (c_X9_placeOf l hI h) (cwV 1 hts gv_X9_145 rfl rfl rfl hv_X9_placeOf ⟨Nat.le_of_ble_eq_true rfl, Nat.le_of_ble_eq_true rfl⟩) (preV_M hKX hP hS (kM_lt (rfl : kdM 0 = 9)) (eM9 (rfl : kdM 0 = 9)) rfl) rfl rfl hl.1 rfl (lv_room (Nat.le_of_ble_eq_true rfl)) dX9_was_45 ⟨Nat.le_of_ble_eq_true rfl, Nat.le_of_ble_eq_true rfl⟩) hS (fun _ _ h => h) (fun _ h => h) (fun r13 S12 t H locs ht _ h hB _ _ hS => ?_)
        have hP : VM dC dI cA P S12 H := by rw [← ht]; exact hB
        refine g_ald hx hb hK hP (kM_lt (rfl : kdM 6 = 10)) 0 (eM10 (rfl : kdM 6 = 10)) rfl h.1 dX9_was_48 ?_
        replace h := h.2
        exact g_iret hx hb hr hlocks h hP hS dX9_was_49
      · replace h := h.2 c10
        refine lv_iload_n hx hb dX9_was_32 rfl (lv_at hl 0 rfl) ?_
        exact g_iret hx hb hr hlocks h hP hS dX9_was_33
    · replace h := h.1 c7
      refine lv_iconst (v := (-1)) hx hb dX9_was_19 (by decide) ?_
      exact g_iret hx hb hr hlocks h hP hS dX9_was_20
set_option maxRecDepth 100000 in
set_option maxHeartbeats 4000000 in
theorem c_X9_was (l : Launch) {dC : Nat → ClassId} {dI : Nat → Nat → Nat} {cA : Nat → ClassId} {P : Nat → Nat} (hI : PInj 25 P) {v1 : Int32} {v2 : Int32}  {post : Int32 → St → Prop} {S : St} (h : w_X9_was v1 v2 post S) : Met l yX9_was (wW yX9_was cX9_was 4 (some .int)) ({ frames := 2, cells := 0, slots := 0, locals := 47 } : Room) (va_Pc [.ref (P 0), .int v1, .int v2] (PreM dC dI cA P S)) (va_Qi post (fun u t => VM dC dI cA P u t.heap) (PA 25 P)) 0 0 (PA 25 P) := by
  refine Met.ofW (cc := cX9_was) (maxL := 4) (ret := (some .int)) (by decide) rfl ?_
  intro p e s m args below meth c s₁ B hml hv
  obtain ⟨rfl, hP, hKX⟩ := hv
  have hts : ∀ w ∈ G, w.before [.ref (P 0), .int v1, .int v2].toArray s = true := fun w hw => atoms_spec (ws := wW yX9_was cX9_was 4 (some .int)) B.pre w (List.mem_cons_of_mem _ hw)
  have C : CtxM dC dI cA P p s m [.ref (P 0), .int v1, .int v2].toArray meth c cX9_was 4 (some .int) RX9 := ⟨hI, hKX, ⟨B.exec, B.bytes, hml, findClass_of_methodNamed B.named, hts⟩, B.returns, B.notSynchronized⟩
  have hS : va_S (PA 25 P) s.heap s.heap [] := va_S.rf
  have hl := lv_entry ([.ref (P 0), .int v1, .int v2]) (n := 4) (Nat.le_of_ble_eq_true rfl)
  rw [lg_entry_eq]
  generalize (lg_sl ([.ref (P 0), .int v1, .int v2]) ++ List.replicate (4 - (lg_sl ([.ref (P 0), .int v1, .int v2])).length) Slot.unset).toArray = ls at hl ⊢
  have hl : lv_has ls 4 [(0, .ref (P 0)), (1, .int v1), (2, .int v2)] := hl
  exact e_X9_was C _ _ _ _ _ _ h  hP hS hl
set_option maxRecDepth 100000 in
set_option maxHeartbeats 4000000 in
theorem b_X9_row_38 {p : Program} {l : Launch} {e : Env} {s : State} {m : MethodId} {args : Array Value} {below : List Frame} {meth : Method} {c : Code} {dC : Nat → ClassId} {dI : Nat → Nat → Nat} {cA : Nat → ClassId} {P : Nat → Nat} (C : CtxM dC dI cA P p s m args meth c cX9_row 4 (some .int) RX9) {post : Int32 → St → Prop}  : ∀ (n : Nat) (v1 : Int32) (v2 : Int32) (v3 : Int32) (S : St) (H : Heap) (locs : List Loc) (ls : Array Slot), w_X9_row_38 post n v1 v2 v3 S → VM dC dI cA P S H → va_S (PA 25 P) s.heap H locs → lv_has ls 4 [(0, .ref (P 0)), (1, .int v1), (2, .int v2), (3, .int v3)] → W p l e ({ frames := 2, cells := 0, slots := 0, locals := 45 } : Room) s m args below meth c H locs 0 0 (MQ below (va_Qi post (fun u t => VM dC dI cA P u t.heap) (PA 25 P)) args s 0 0 (PA 25 P)) (F0 m 38 ls []) := by
  have C := C
  obtain ⟨hI, hKX, ⟨hx, hb, hml, hown, hts⟩, hr, hlocks⟩ := id C
  have hK := hKX
  intro n
  induction n with
  | zero =>
    intro v1 v2 v3 S H locs ls h hP hS hl
    simp only [w_X9_row_38] at h
  | succ n ih =>
    intro v1 v2 v3 S H locs ls h hP hS hl
    rw [w_X9_row_38] at h
    refine lv_iload_n hx hb dX9_row_38 rfl (lv_at hl 3 rfl) ?_
    refine lv_bipush (v := 40) hx hb dX9_row_39 (by decide) ?_
    refine lv_icmp_ge (tgt := 62) hx hb dX9_row_41 (by decide) (fun c8 => ?_) (fun c8 => ?_)
    · replace h := h.1 c8
      refine lv_iload_n hx hb dX9_row_62 rfl (lv_at hl 2 rfl) ?_
      exact g_iret hx hb hr hlocks h hP hS dX9_row_63
    · replace h := h.2 c8
      refine lv_aload_n hx hb dX9_row_44 rfl (lv_at hl 0 rfl) ?_
      refine g_get (v := .ref (P 20)) hx hb hts inG_X9 hown hK hP (kM_lt (rfl : kdM 0 = 9)) (eM9 (rfl : kdM 0 = 9)) rfl 35 (by decide) G_fl_X9_74 rfl rfl dX9_row_45 ?_
      refine lv_bipush (v := 40) hx hb dX9_row_48 (by decide) ?_
      refine lv_iload_n hx hb dX9_row_50 rfl (lv_at hl 1 rfl) ?_
      refine lv_imul hx hb dX9_row_51 ?_
      refine lv_iload_n hx hb dX9_row_52 rfl (lv_at hl 3 rfl) ?_
      refine lv_iadd hx hb dX9_row_53 ?_
      refine lv_iconst (v := 0) hx hb dX9_row_54 (by decide) ?_
      replace h := h _ rfl
      refine g_ast hx hb hK hI hP hS (kM_lt (rfl : kdM 20 = 10)) 0 (eM10 (rfl : kdM 20 = 10)) rfl h.1 h.2 dX9_row_55 (fun S10 H locs h hP hS => ?_)
      obtain ⟨x11, ex11⟩ : ∃ y : Int32, y = v3 + 1 := ⟨_, rfl⟩
      replace h := h x11 ex11
      refine lv_iinc (v := x11) (lv' := [(3, .int x11), (0, .ref (P 0)), (1, .int v1), (2, .int v2)]) hx hb dX9_row_56 hl (k := 3) rfl (by rw [ex11]; rfl) (by decide) rfl (fun ls hl => ?_)
      refine lv_goto (tgt := 38) hx hb dX9_row_59 (by decide) ?_
      exact ih _ _ _ _ _ _ _ h  hP hS (lv_sub hl [1, 2, 3, 0] rfl)
set_option maxRecDepth 100000 in
set_option maxHeartbeats 4000000 in
theorem e_X9_row {p : Program} {l : Launch} {e : Env} {s : State} {m : MethodId} {args : Array Value} {below : List Frame} {meth : Method} {c : Code} {dC : Nat → ClassId} {dI : Nat → Nat → Nat} {cA : Nat → ClassId} {P : Nat → Nat} (C : CtxM dC dI cA P p s m args meth c cX9_row 4 (some .int) RX9) {post : Int32 → St → Prop} : ∀ (v1 : Int32) (v2 : Int32) (S : St) (H : Heap) (locs : List Loc) (ls : Array Slot), w_X9_row v1 v2 post S → VM dC dI cA P S H → va_S (PA 25 P) s.heap H locs → lv_has ls 4 [(0, .ref (P 0)), (1, .int v1), (2, .int v2)] → W p l e ({ frames := 2, cells := 0, slots := 0, locals := 45 } : Room) s m args below meth c H locs 0 0 (MQ below (va_Qi post (fun u t => VM dC dI cA P u t.heap) (PA 25 P)) args s 0 0 (PA 25 P)) (F0 m 0 ls []) := by
  have C := C
  obtain ⟨hI, hKX, ⟨hx, hb, hml, hown, hts⟩, hr, hlocks⟩ := id C
  have hK := hKX
  intro v1 v2 S H locs ls h hP hS hl
  rw [w_X9_row] at h
  refine lv_iload_n hx hb dX9_row_0 rfl (lv_at hl 1 rfl) ?_
  refine va_calli (va_runS (As := [.int _]) (rest := []) ⟨hx, hb, hml, hown, hts⟩ (c_X9_isHolder l hI h) (va_cwS 1 hts gs_X9_294 rfl rfl rfl hd_X9_isHolder ⟨Nat.le_of_ble_eq_true rfl, Nat.le_of_ble_eq_true rfl⟩) (preS_M hKX hP hS) rfl rfl hl.1 rfl (lv_room (Nat.le_of_ble_eq_true rfl)) dX9_row_1 ⟨Nat.le_of_ble_eq_true rfl, Nat.le_of_ble_eq_true rfl⟩) hS (fun _ _ h => h) (fun _ h => h) (fun r2 S1 t H locs ht _ h hB _ _ hS => ?_)
  have hP : VM dC dI cA P S1 H := by rw [← ht]; exact hB
  refine lv_if_eq (tgt := 13) hx hb dX9_row_4 (by decide) (fun c3 => ?_) (fun c3 => ?_)
  · replace h := h.1 c3
    refine lv_iconst (v := (-1)) hx hb dX9_row_13 (by decide) ?_
    exact g_iret hx hb hr hlocks h hP hS dX9_row_14
  · replace h := h.2 c3
    refine lv_iload_n hx hb dX9_row_7 rfl (lv_at hl 2 rfl) ?_
    refine lv_bipush (v := 40) hx hb dX9_row_8 (by decide) ?_
    refine lv_icmp_le (tgt := 15) hx hb dX9_row_10 (by decide) (fun c4 => ?_) (fun c4 => ?_)
    · replace h := h.1 c4
      refine lv_iload_n hx hb dX9_row_15 rfl (lv_at hl 2 rfl) ?_
      refine lv_if_ge (tgt := 22) hx hb dX9_row_16 (by decide) (fun c5 => ?_) (fun c5 => ?_)
      · replace h := h.1 c5
        refine lv_aload_n hx hb dX9_row_22 rfl (lv_at hl 0 rfl) ?_
        refine g_get (v := .ref (P 15)) hx hb hts inG_X9 hown hK hP (kM_lt (rfl : kdM 0 = 9)) (eM9 (rfl : kdM 0 = 9)) rfl 30 (by decide) G_fl_X9_59 rfl rfl dX9_row_23 ?_
        refine lv_iload_n hx hb dX9_row_26 rfl (lv_at hl 1 rfl) ?_
        refine lv_iconst (v := 2) hx hb dX9_row_27 (by decide) ?_
        refine g_ast hx hb hK hI hP hS (kM_lt (rfl : kdM 15 = 10)) 0 (eM10 (rfl : kdM 15 = 10)) rfl h.1 h.2 dX9_row_28 (fun S6 H locs h hP hS => ?_)
        refine lv_aload_n hx hb dX9_row_29 rfl (lv_at hl 0 rfl) ?_
        refine g_get (v := .ref (P 19)) hx hb hts inG_X9 hown hK hP (kM_lt (rfl : kdM 0 = 9)) (eM9 (rfl : kdM 0 = 9)) rfl 34 (by decide) G_fl_X9_71 rfl rfl dX9_row_30 ?_
        refine lv_iload_n hx hb dX9_row_33 rfl (lv_at hl 1 rfl) ?_
        refine lv_iload_n hx hb dX9_row_34 rfl (lv_at hl 2 rfl) ?_
        refine g_ast hx hb hK hI hP hS (kM_lt (rfl : kdM 19 = 10)) 0 (eM10 (rfl : kdM 19 = 10)) rfl h.1 h.2 dX9_row_35 (fun S7 H locs h hP hS => ?_)
        refine lv_iconst (v := 0) hx hb dX9_row_36 (by decide) ?_
        refine lv_istore_n (lv' := [(3, .int 0), (0, .ref (P 0)), (1, .int v1), (2, .int v2)]) hx hb dX9_row_37 rfl hl (by decide) rfl (fun ls hl => ?_)
        obtain ⟨n12, h⟩ := h
        exact b_X9_row_38 C n12 _ _ _ _ _ _ _ h  hP hS (lv_sub hl [1, 2, 3, 0] rfl)
      · replace h := h.2 c5
        refine lv_bipush (v := (-14)) hx hb dX9_row_19 (by decide) ?_
        exact g_iret hx hb hr hlocks h hP hS dX9_row_21
    · replace h := h.2 c4
      refine lv_iconst (v := (-1)) hx hb dX9_row_13 (by decide) ?_
      exact g_iret hx hb hr hlocks h hP hS dX9_row_14
set_option maxRecDepth 100000 in
set_option maxHeartbeats 4000000 in
theorem c_X9_row (l : Launch) {dC : Nat → ClassId} {dI : Nat → Nat → Nat} {cA : Nat → ClassId} {P : Nat → Nat} (hI : PInj 25 P) {v1 : Int32} {v2 : Int32}  {post : Int32 → St → Prop} {S : St} (h : w_X9_row v1 v2 post S) : Met l yX9_row (wW yX9_row cX9_row 4 (some .int)) ({ frames := 2, cells := 0, slots := 0, locals := 45 } : Room) (va_Pc [.ref (P 0), .int v1, .int v2] (PreM dC dI cA P S)) (va_Qi post (fun u t => VM dC dI cA P u t.heap) (PA 25 P)) 0 0 (PA 25 P) := by
  refine Met.ofW (cc := cX9_row) (maxL := 4) (ret := (some .int)) (by decide) rfl ?_
  intro p e s m args below meth c s₁ B hml hv
  obtain ⟨rfl, hP, hKX⟩ := hv
  have hts : ∀ w ∈ G, w.before [.ref (P 0), .int v1, .int v2].toArray s = true := fun w hw => atoms_spec (ws := wW yX9_row cX9_row 4 (some .int)) B.pre w (List.mem_cons_of_mem _ hw)
  have C : CtxM dC dI cA P p s m [.ref (P 0), .int v1, .int v2].toArray meth c cX9_row 4 (some .int) RX9 := ⟨hI, hKX, ⟨B.exec, B.bytes, hml, findClass_of_methodNamed B.named, hts⟩, B.returns, B.notSynchronized⟩
  have hS : va_S (PA 25 P) s.heap s.heap [] := va_S.rf
  have hl := lv_entry ([.ref (P 0), .int v1, .int v2]) (n := 4) (Nat.le_of_ble_eq_true rfl)
  rw [lg_entry_eq]
  generalize (lg_sl ([.ref (P 0), .int v1, .int v2]) ++ List.replicate (4 - (lg_sl ([.ref (P 0), .int v1, .int v2])).length) Slot.unset).toArray = ls at hl ⊢
  have hl : lv_has ls 4 [(0, .ref (P 0)), (1, .int v1), (2, .int v2)] := hl
  exact e_X9_row C _ _ _ _ _ _ h  hP hS hl
set_option maxRecDepth 100000 in
set_option maxHeartbeats 4000000 in
theorem e_X9_put {p : Program} {l : Launch} {e : Env} {s : State} {m : MethodId} {args : Array Value} {below : List Frame} {meth : Method} {c : Code} {dC : Nat → ClassId} {dI : Nat → Nat → Nat} {cA : Nat → ClassId} {P : Nat → Nat} (C : CtxM dC dI cA P p s m args meth c cX9_put 5 (some .int) RX9) {post : Int32 → St → Prop} : ∀ (v1 : Int32) (v2 : Int32) (v3 : Int32) (S : St) (H : Heap) (locs : List Loc) (ls : Array Slot), w_X9_put v1 v2 v3 post S → VM dC dI cA P S H → va_S (PA 25 P) s.heap H locs → lv_has ls 5 [(0, .ref (P 0)), (1, .int v1), (2, .int v2), (3, .int v3)] → W p l e ({ frames := 2, cells := 0, slots := 0, locals := 45 } : Room) s m args below meth c H locs 0 0 (MQ below (va_Qi post (fun u t => VM dC dI cA P u t.heap) (PA 25 P)) args s 0 0 (PA 25 P)) (F0 m 0 ls []) := by
  have C := C
  obtain ⟨hI, hKX, ⟨hx, hb, hml, hown, hts⟩, hr, hlocks⟩ := id C
  have hK := hKX
  intro v1 v2 v3 S H locs ls h hP hS hl
  rw [w_X9_put] at h
  refine lv_iload_n hx hb dX9_put_0 rfl (lv_at hl 1 rfl) ?_
  refine va_calli (va_runS (As := [.int _]) (rest := []) ⟨hx, hb, hml, hown, hts⟩ (c_X9_isHolder l hI h) (va_cwS 1 hts gs_X9_294 rfl rfl rfl hd_X9_isHolder ⟨Nat.le_of_ble_eq_true rfl, Nat.le_of_ble_eq_true rfl⟩) (preS_M hKX hP hS) rfl rfl hl.1 rfl (lv_room (Nat.le_of_ble_eq_true rfl)) dX9_put_1 ⟨Nat.le_of_ble_eq_true rfl, Nat.le_of_ble_eq_true rfl⟩) hS (fun _ _ h => h) (fun _ h => h) (fun r2 S1 t H locs ht _ h hB _ _ hS => ?_)
  have hP : VM dC dI cA P S1 H := by rw [← ht]; exact hB
  refine lv_if_ne (tgt := 9) hx hb dX9_put_4 (by decide) (fun c3 => ?_) (fun c3 => ?_)
  · replace h := h.2 c3
    refine lv_aload_n hx hb dX9_put_9 rfl (lv_at hl 0 rfl) ?_
    refine lv_iload_n hx hb dX9_put_10 rfl (lv_at hl 1 rfl) ?_
    refine lv_iconst (v := 2) hx hb dX9_put_11 (by decide) ?_
    refine va_calli (va_runV (As := [.int _, .int _]) (rest := []) ⟨hx, hb, hml, hown, hts⟩ (c_X9_whyNot l hI h) (cwV 2 hts gv_X9_302 rfl rfl rfl hv_X9_whyNot ⟨Nat.le_of_ble_eq_true rfl, Nat.le_of_ble_eq_true rfl⟩) (preV_M hKX hP hS (kM_lt (rfl : kdM 0 = 9)) (eM9 (rfl : kdM 0 = 9)) rfl) rfl rfl hl.1 rfl (lv_room (Nat.le_of_ble_eq_true rfl)) dX9_put_12 ⟨Nat.le_of_ble_eq_true rfl, Nat.le_of_ble_eq_true rfl⟩) hS (fun _ _ h => h) (fun _ h => h) (fun r5 S4 t H locs ht _ h hB _ _ hS => ?_)
    have hP : VM dC dI cA P S4 H := by rw [← ht]; exact hB
    refine lv_istore (lv' := [(4, .int r5), (0, .ref (P 0)), (1, .int v1), (2, .int v2), (3, .int v3)]) hx hb dX9_put_15 hl (by decide) rfl (fun ls hl => ?_)
    refine lv_iload hx hb dX9_put_17 (lv_at hl 0 rfl) ?_
    refine lv_if_eq (tgt := 25) hx hb dX9_put_19 (by decide) (fun c6 => ?_) (fun c6 => ?_)
    · replace h := h.1 c6
      refine lv_iload_n hx hb dX9_put_25 rfl (lv_at hl 3 rfl) ?_
      refine lv_i2l hx hb dX9_put_26 rfl ?_
      refine lv_lconst (v := 0) hx hb dX9_put_27 (by decide) ?_
      refine lv_aload_n hx hb dX9_put_28 rfl (lv_at hl 1 rfl) ?_
      refine g_get (v := .ref (P 19)) hx hb hts inG_X9 hown hK hP (kM_lt (rfl : kdM 0 = 9)) (eM9 (rfl : kdM 0 = 9)) rfl 34 (by decide) G_fl_X9_71 rfl rfl dX9_put_29 ?_
      refine lv_iload_n hx hb dX9_put_32 rfl (lv_at hl 2 rfl) ?_
      refine g_ald hx hb hK hP (kM_lt (rfl : kdM 19 = 10)) 0 (eM10 (rfl : kdM 19 = 10)) rfl h.1 dX9_put_33 ?_
      replace h := h.2
      refine lv_iconst (v := 1) hx hb dX9_put_34 (by decide) ?_
      refine lv_isub hx hb dX9_put_35 ?_
      refine lv_i2l hx hb dX9_put_36 rfl ?_
      replace h := h _ rfl
      replace h := h _ rfl
      refine va_calli (va_runS (As := [.long _, .long _, .long _]) (rest := []) ⟨hx, hb, hml, hown, hts⟩ (c_X9_isIn l hI h) (va_cwS 3 hts gs_X9_92 rfl rfl rfl hd_X9_isIn ⟨Nat.le_of_ble_eq_true rfl, Nat.le_of_ble_eq_true rfl⟩) (preS_M hKX hP hS) rfl rfl hl.1 rfl (lv_room (Nat.le_of_ble_eq_true rfl)) dX9_put_37 ⟨Nat.le_of_ble_eq_true rfl, Nat.le_of_ble_eq_true rfl⟩) hS (fun _ _ h => h) (fun _ h => h) (fun r10 S9 t H locs ht _ h hB _ _ hS => ?_)
      have hP : VM dC dI cA P S9 H := by rw [← ht]; exact hB
      refine lv_if_ne (tgt := 46) hx hb dX9_put_40 (by decide) (fun c11 => ?_) (fun c11 => ?_)
      · replace h := h.2 c11
        refine lv_aload_n hx hb dX9_put_46 rfl (lv_at hl 1 rfl) ?_
        refine g_get (v := .ref (P 20)) hx hb hts inG_X9 hown hK hP (kM_lt (rfl : kdM 0 = 9)) (eM9 (rfl : kdM 0 = 9)) rfl 35 (by decide) G_fl_X9_74 rfl rfl dX9_put_47 ?_
        refine lv_bipush (v := 40) hx hb dX9_put_50 (by decide) ?_
        refine lv_iload_n hx hb dX9_put_52 rfl (lv_at hl 2 rfl) ?_
        refine lv_imul hx hb dX9_put_53 ?_
        refine lv_iload_n hx hb dX9_put_54 rfl (lv_at hl 3 rfl) ?_
        refine lv_iadd hx hb dX9_put_55 ?_
        refine lv_iload_n hx hb dX9_put_56 rfl (lv_at hl 4 rfl) ?_
        replace h := h _ rfl
        refine g_ast hx hb hK hI hP hS (kM_lt (rfl : kdM 20 = 10)) 0 (eM10 (rfl : kdM 20 = 10)) rfl h.1 h.2 dX9_put_57 (fun S13 H locs h hP hS => ?_)
        refine lv_iconst (v := 1) hx hb dX9_put_58 (by decide) ?_
        exact g_iret hx hb hr hlocks h hP hS dX9_put_59
      · replace h := h.1 c11
        refine lv_bipush (v := (-13)) hx hb dX9_put_43 (by decide) ?_
        exact g_iret hx hb hr hlocks h hP hS dX9_put_45
    · replace h := h.2 c6
      refine lv_iload hx hb dX9_put_22 (lv_at hl 0 rfl) ?_
      exact g_iret hx hb hr hlocks h hP hS dX9_put_24
  · replace h := h.1 c3
    refine lv_iconst (v := (-1)) hx hb dX9_put_7 (by decide) ?_
    exact g_iret hx hb hr hlocks h hP hS dX9_put_8
set_option maxRecDepth 100000 in
set_option maxHeartbeats 4000000 in
theorem c_X9_put (l : Launch) {dC : Nat → ClassId} {dI : Nat → Nat → Nat} {cA : Nat → ClassId} {P : Nat → Nat} (hI : PInj 25 P) {v1 : Int32} {v2 : Int32} {v3 : Int32}  {post : Int32 → St → Prop} {S : St} (h : w_X9_put v1 v2 v3 post S) : Met l yX9_put (wW yX9_put cX9_put 5 (some .int)) ({ frames := 2, cells := 0, slots := 0, locals := 45 } : Room) (va_Pc [.ref (P 0), .int v1, .int v2, .int v3] (PreM dC dI cA P S)) (va_Qi post (fun u t => VM dC dI cA P u t.heap) (PA 25 P)) 0 0 (PA 25 P) := by
  refine Met.ofW (cc := cX9_put) (maxL := 5) (ret := (some .int)) (by decide) rfl ?_
  intro p e s m args below meth c s₁ B hml hv
  obtain ⟨rfl, hP, hKX⟩ := hv
  have hts : ∀ w ∈ G, w.before [.ref (P 0), .int v1, .int v2, .int v3].toArray s = true := fun w hw => atoms_spec (ws := wW yX9_put cX9_put 5 (some .int)) B.pre w (List.mem_cons_of_mem _ hw)
  have C : CtxM dC dI cA P p s m [.ref (P 0), .int v1, .int v2, .int v3].toArray meth c cX9_put 5 (some .int) RX9 := ⟨hI, hKX, ⟨B.exec, B.bytes, hml, findClass_of_methodNamed B.named, hts⟩, B.returns, B.notSynchronized⟩
  have hS : va_S (PA 25 P) s.heap s.heap [] := va_S.rf
  have hl := lv_entry ([.ref (P 0), .int v1, .int v2, .int v3]) (n := 5) (Nat.le_of_ble_eq_true rfl)
  rw [lg_entry_eq]
  generalize (lg_sl ([.ref (P 0), .int v1, .int v2, .int v3]) ++ List.replicate (5 - (lg_sl ([.ref (P 0), .int v1, .int v2, .int v3])).length) Slot.unset).toArray = ls at hl ⊢
  have hl : lv_has ls 5 [(0, .ref (P 0)), (1, .int v1), (2, .int v2), (3, .int v3)] := hl
  exact e_X9_put C _ _ _ _ _ _ _ h  hP hS hl
set_option maxRecDepth 100000 in
set_option maxHeartbeats 4000000 in
theorem e_X9_get {p : Program} {l : Launch} {e : Env} {s : State} {m : MethodId} {args : Array Value} {below : List Frame} {meth : Method} {c : Code} {dC : Nat → ClassId} {dI : Nat → Nat → Nat} {cA : Nat → ClassId} {P : Nat → Nat} (C : CtxM dC dI cA P p s m args meth c cX9_get 3 (some .long) RX9) {post : Int64 → St → Prop} : ∀ (v1 : Int32) (v2 : Int32) (S : St) (H : Heap) (locs : List Loc) (ls : Array Slot), w_X9_get v1 v2 post S → VM dC dI cA P S H → va_S (PA 25 P) s.heap H locs → lv_has ls 3 [(0, .ref (P 0)), (1, .int v1), (2, .int v2)] → W p l e ({ frames := 2, cells := 0, slots := 0, locals := 45 } : Room) s m args below meth c H locs 0 0 (MQ below (va_Ql post (fun u t => VM dC dI cA P u t.heap) (PA 25 P)) args s 0 0 (PA 25 P)) (F0 m 0 ls []) := by
  have C := C
  obtain ⟨hI, hKX, ⟨hx, hb, hml, hown, hts⟩, hr, hlocks⟩ := id C
  have hK := hKX
  intro v1 v2 S H locs ls h hP hS hl
  rw [w_X9_get] at h
  refine lv_iload_n hx hb dX9_get_0 rfl (lv_at hl 1 rfl) ?_
  refine va_calli (va_runS (As := [.int _]) (rest := []) ⟨hx, hb, hml, hown, hts⟩ (c_X9_isHolder l hI h) (va_cwS 1 hts gs_X9_294 rfl rfl rfl hd_X9_isHolder ⟨Nat.le_of_ble_eq_true rfl, Nat.le_of_ble_eq_true rfl⟩) (preS_M hKX hP hS) rfl rfl hl.1 rfl (lv_room (Nat.le_of_ble_eq_true rfl)) dX9_get_1 ⟨Nat.le_of_ble_eq_true rfl, Nat.le_of_ble_eq_true rfl⟩) hS (fun _ _ h => h) (fun _ h => h) (fun r2 S1 t H locs ht _ h hB _ _ hS => ?_)
  have hP : VM dC dI cA P S1 H := by rw [← ht]; exact hB
  refine lv_if_eq (tgt := 50) hx hb dX9_get_4 (by decide) (fun c3 => ?_) (fun c3 => ?_)
  · replace h := h.1 c3
    refine lv_ldc2 (v := (-9223372036854775808)) hx hb hown (hts _ G_co_X9_207) dX9_get_50 ?_
    exact g_lret hx hb hr hlocks h hP hS dX9_get_53
  · replace h := h.2 c3
    refine lv_aload_n hx hb dX9_get_7 rfl (lv_at hl 0 rfl) ?_
    refine g_get (v := .ref (P 15)) hx hb hts inG_X9 hown hK hP (kM_lt (rfl : kdM 0 = 9)) (eM9 (rfl : kdM 0 = 9)) rfl 30 (by decide) G_fl_X9_59 rfl rfl dX9_get_8 ?_
    refine lv_iload_n hx hb dX9_get_11 rfl (lv_at hl 1 rfl) ?_
    refine g_ald hx hb hK hP (kM_lt (rfl : kdM 15 = 10)) 0 (eM10 (rfl : kdM 15 = 10)) rfl h.1 dX9_get_12 ?_
    replace h := h.2
    refine lv_iconst (v := 2) hx hb dX9_get_13 (by decide) ?_
    refine lv_icmp_ne (tgt := 50) hx hb dX9_get_14 (by decide) (fun c4 => ?_) (fun c4 => ?_)
    · replace h := h.2 c4
      refine lv_ldc2 (v := (-9223372036854775808)) hx hb hown (hts _ G_co_X9_207) dX9_get_50 ?_
      exact g_lret hx hb hr hlocks h hP hS dX9_get_53
    · replace h := h.1 c4
      refine lv_iload_n hx hb dX9_get_17 rfl (lv_at hl 2 rfl) ?_
      refine lv_i2l hx hb dX9_get_18 rfl ?_
      refine lv_lconst (v := 0) hx hb dX9_get_19 (by decide) ?_
      refine lv_aload_n hx hb dX9_get_20 rfl (lv_at hl 0 rfl) ?_
      refine g_get (v := .ref (P 19)) hx hb hts inG_X9 hown hK hP (kM_lt (rfl : kdM 0 = 9)) (eM9 (rfl : kdM 0 = 9)) rfl 34 (by decide) G_fl_X9_71 rfl rfl dX9_get_21 ?_
      refine lv_iload_n hx hb dX9_get_24 rfl (lv_at hl 1 rfl) ?_
      refine g_ald hx hb hK hP (kM_lt (rfl : kdM 19 = 10)) 0 (eM10 (rfl : kdM 19 = 10)) rfl h.1 dX9_get_25 ?_
      replace h := h.2
      refine lv_iconst (v := 1) hx hb dX9_get_26 (by decide) ?_
      refine lv_isub hx hb dX9_get_27 ?_
      refine lv_i2l hx hb dX9_get_28 rfl ?_
      replace h := h _ rfl
      replace h := h _ rfl
      refine va_calli (va_runS (As := [.long _, .long _, .long _]) (rest := []) ⟨hx, hb, hml, hown, hts⟩ (c_X9_isIn l hI h) (va_cwS 3 hts gs_X9_92 rfl rfl rfl hd_X9_isIn ⟨Nat.le_of_ble_eq_true rfl, Nat.le_of_ble_eq_true rfl⟩) (preS_M hKX hP hS) rfl rfl hl.1 rfl (lv_room (Nat.le_of_ble_eq_true rfl)) dX9_get_29 ⟨Nat.le_of_ble_eq_true rfl, Nat.le_of_ble_eq_true rfl⟩) hS (fun _ _ h => h) (fun _ h => h) (fun r8 S7 t H locs ht _ h hB _ _ hS => ?_)
      have hP : VM dC dI cA P S7 H := by rw [← ht]; exact hB
      refine lv_if_eq (tgt := 50) hx hb dX9_get_32 (by decide) (fun c9 => ?_) (fun c9 => ?_)
      · replace h := h.1 c9
        refine lv_ldc2 (v := (-9223372036854775808)) hx hb hown (hts _ G_co_X9_207) dX9_get_50 ?_
        exact g_lret hx hb hr hlocks h hP hS dX9_get_53
      · replace h := h.2 c9
        refine lv_aload_n hx hb dX9_get_35 rfl (lv_at hl 0 rfl) ?_
        refine g_get (v := .ref (P 20)) hx hb hts inG_X9 hown hK hP (kM_lt (rfl : kdM 0 = 9)) (eM9 (rfl : kdM 0 = 9)) rfl 35 (by decide) G_fl_X9_74 rfl rfl dX9_get_36 ?_
        refine lv_bipush (v := 40) hx hb dX9_get_39 (by decide) ?_
        refine lv_iload_n hx hb dX9_get_41 rfl (lv_at hl 1 rfl) ?_
        refine lv_imul hx hb dX9_get_42 ?_
        refine lv_iload_n hx hb dX9_get_43 rfl (lv_at hl 2 rfl) ?_
        refine lv_iadd hx hb dX9_get_44 ?_
        replace h := h _ rfl
        refine g_ald hx hb hK hP (kM_lt (rfl : kdM 20 = 10)) 0 (eM10 (rfl : kdM 20 = 10)) rfl h.1 dX9_get_45 ?_
        replace h := h.2
        refine lv_i2l hx hb dX9_get_46 rfl ?_
        refine lv_goto (tgt := 53) hx hb dX9_get_47 (by decide) ?_
        exact g_lret hx hb hr hlocks h hP hS dX9_get_53
set_option maxRecDepth 100000 in
set_option maxHeartbeats 4000000 in
theorem c_X9_get (l : Launch) {dC : Nat → ClassId} {dI : Nat → Nat → Nat} {cA : Nat → ClassId} {P : Nat → Nat} (hI : PInj 25 P) {v1 : Int32} {v2 : Int32}  {post : Int64 → St → Prop} {S : St} (h : w_X9_get v1 v2 post S) : Met l yX9_get (wW yX9_get cX9_get 3 (some .long)) ({ frames := 2, cells := 0, slots := 0, locals := 45 } : Room) (va_Pc [.ref (P 0), .int v1, .int v2] (PreM dC dI cA P S)) (va_Ql post (fun u t => VM dC dI cA P u t.heap) (PA 25 P)) 0 0 (PA 25 P) := by
  refine Met.ofW (cc := cX9_get) (maxL := 3) (ret := (some .long)) (by decide) rfl ?_
  intro p e s m args below meth c s₁ B hml hv
  obtain ⟨rfl, hP, hKX⟩ := hv
  have hts : ∀ w ∈ G, w.before [.ref (P 0), .int v1, .int v2].toArray s = true := fun w hw => atoms_spec (ws := wW yX9_get cX9_get 3 (some .long)) B.pre w (List.mem_cons_of_mem _ hw)
  have C : CtxM dC dI cA P p s m [.ref (P 0), .int v1, .int v2].toArray meth c cX9_get 3 (some .long) RX9 := ⟨hI, hKX, ⟨B.exec, B.bytes, hml, findClass_of_methodNamed B.named, hts⟩, B.returns, B.notSynchronized⟩
  have hS : va_S (PA 25 P) s.heap s.heap [] := va_S.rf
  have hl := lv_entry ([.ref (P 0), .int v1, .int v2]) (n := 3) (Nat.le_of_ble_eq_true rfl)
  rw [lg_entry_eq]
  generalize (lg_sl ([.ref (P 0), .int v1, .int v2]) ++ List.replicate (3 - (lg_sl ([.ref (P 0), .int v1, .int v2])).length) Slot.unset).toArray = ls at hl ⊢
  have hl : lv_has ls 3 [(0, .ref (P 0)), (1, .int v1), (2, .int v2)] := hl
  exact e_X9_get C _ _ _ _ _ _ h  hP hS hl
set_option maxRecDepth 100000 in
set_option maxHeartbeats 4000000 in
theorem b_X9_judge_38 {p : Program} {l : Launch} {e : Env} {s : State} {m : MethodId} {args : Array Value} {below : List Frame} {meth : Method} {c : Code} {dC : Nat → ClassId} {dI : Nat → Nat → Nat} {cA : Nat → ClassId} {P : Nat → Nat} (C : CtxM dC dI cA P p s m args meth c cX9_judge 5 (some .int) RX9) {post : Int32 → St → Prop}  : ∀ (n : Nat) (v1 : Int32) (v4 : Int32) (S : St) (H : Heap) (locs : List Loc) (ls : Array Slot), w_X9_judge_38 post n v1 v4 S → VM dC dI cA P S H → va_S (PA 25 P) s.heap H locs → lv_has ls 5 [(0, .ref (P 0)), (1, .int v1), (4, .int v4)] → W p l e ({ frames := 2, cells := 0, slots := 0, locals := 47 } : Room) s m args below meth c H locs 0 0 (MQ below (va_Qi post (fun u t => VM dC dI cA P u t.heap) (PA 25 P)) args s 0 0 (PA 25 P)) (F0 m 38 ls []) := by
  have C := C
  obtain ⟨hI, hKX, ⟨hx, hb, hml, hown, hts⟩, hr, hlocks⟩ := id C
  have hK := hKX
  intro n
  induction n with
  | zero =>
    intro v1 v4 S H locs ls h hP hS hl
    simp only [w_X9_judge_38] at h
  | succ n ih =>
    intro v1 v4 S H locs ls h hP hS hl
    rw [w_X9_judge_38] at h
    refine lv_iload hx hb dX9_judge_38 (lv_at hl 2 rfl) ?_
    refine lv_aload_n hx hb dX9_judge_40 rfl (lv_at hl 0 rfl) ?_
    refine g_get (v := .ref (P 19)) hx hb hts inG_X9 hown hK hP (kM_lt (rfl : kdM 0 = 9)) (eM9 (rfl : kdM 0 = 9)) rfl 34 (by decide) G_fl_X9_71 rfl rfl dX9_judge_41 ?_
    refine lv_iload_n hx hb dX9_judge_44 rfl (lv_at hl 1 rfl) ?_
    refine g_ald hx hb hK hP (kM_lt (rfl : kdM 19 = 10)) 0 (eM10 (rfl : kdM 19 = 10)) rfl h.1 dX9_judge_45 ?_
    replace h := h.2
    refine lv_icmp_ge (tgt := 84) hx hb dX9_judge_46 (by decide) (fun c11 => ?_) (fun c11 => ?_)
    · replace h := h.1 c11
      refine lv_bipush (v := (-2)) hx hb dX9_judge_84 (by decide) ?_
      exact g_iret hx hb hr hlocks h hP hS dX9_judge_86
    · replace h := h.2 c11
      refine lv_aload_n hx hb dX9_judge_49 rfl (lv_at hl 0 rfl) ?_
      refine g_get (v := .ref (P 20)) hx hb hts inG_X9 hown hK hP (kM_lt (rfl : kdM 0 = 9)) (eM9 (rfl : kdM 0 = 9)) rfl 35 (by decide) G_fl_X9_74 rfl rfl dX9_judge_50 ?_
      refine lv_bipush (v := 40) hx hb dX9_judge_53 (by decide) ?_
      refine lv_iload_n hx hb dX9_judge_55 rfl (lv_at hl 1 rfl) ?_
      refine lv_imul hx hb dX9_judge_56 ?_
      refine lv_iload hx hb dX9_judge_57 (lv_at hl 2 rfl) ?_
      refine lv_iadd hx hb dX9_judge_59 ?_
      replace h := h _ rfl
      refine g_ald hx hb hK hP (kM_lt (rfl : kdM 20 = 10)) 0 (eM10 (rfl : kdM 20 = 10)) rfl h.1 dX9_judge_60 ?_
      replace h := h.2
      refine lv_aload_n hx hb dX9_judge_61 rfl (lv_at hl 0 rfl) ?_
      refine g_get (v := .ref (P 6)) hx hb hts inG_X9 hown hK hP (kM_lt (rfl : kdM 0 = 9)) (eM9 (rfl : kdM 0 = 9)) rfl 9 (by decide) G_fl_X9_27 rfl rfl dX9_judge_62 ?_
      refine lv_aload_n hx hb dX9_judge_65 rfl (lv_at hl 0 rfl) ?_
      refine lv_iload hx hb dX9_judge_66 (lv_at hl 2 rfl) ?_
      refine va_calli (va_runV (As := [.int _]) (rest := [.ref _, .int _]) ⟨hx, hb, hml, hown, hts⟩ (c_X9_placeOf l hI h) (cwV 1 hts gv_X9_145 rfl rfl rfl hv_X9_placeOf ⟨Nat.le_of_ble_eq_true rfl, Nat.le_of_ble_eq_true rfl⟩) (preV_M hKX hP hS (kM_lt (rfl : kdM 0 = 9)) (eM9 (rfl : kdM 0 = 9)) rfl) rfl rfl hl.1 rfl (lv_room (Nat.le_of_ble_eq_true rfl)) dX9_judge_68 ⟨Nat.le_of_ble_eq_true rfl, Nat.le_of_ble_eq_true rfl⟩) hS (fun _ _ h => h) (fun _ h => h) (fun r14 S13 t H locs ht _ h hB _ _ hS => ?_)
      have hP : VM dC dI cA P S13 H := by rw [← ht]; exact hB
      refine g_ald hx hb hK hP (kM_lt (rfl : kdM 6 = 10)) 0 (eM10 (rfl : kdM 6 = 10)) rfl h.1 dX9_judge_71 ?_
      replace h := h.2
      refine lv_icmp_eq (tgt := 78) hx hb dX9_judge_72 (by decide) (fun c15 => ?_) (fun c15 => ?_)
      · replace h := h.1 c15
        obtain ⟨x16, ex16⟩ : ∃ y : Int32, y = v4 + 1 := ⟨_, rfl⟩
        replace h := h x16 ex16
        refine lv_iinc (v := x16) (lv' := [(4, .int x16), (0, .ref (P 0)), (1, .int v1)]) hx hb dX9_judge_78 hl (k := 2) rfl (by rw [ex16]; rfl) (by decide) rfl (fun ls hl => ?_)
        refine lv_goto (tgt := 38) hx hb dX9_judge_81 (by decide) ?_
        exact ih _ _ _ _ _ _ h  hP hS (lv_sub hl [1, 2, 0] rfl)
      · replace h := h.2 c15
        refine lv_iload hx hb dX9_judge_75 (lv_at hl 2 rfl) ?_
        exact g_iret hx hb hr hlocks h hP hS dX9_judge_77
set_option maxRecDepth 100000 in
set_option maxHeartbeats 4000000 in
theorem e_X9_judge {p : Program} {l : Launch} {e : Env} {s : State} {m : MethodId} {args : Array Value} {below : List Frame} {meth : Method} {c : Code} {dC : Nat → ClassId} {dI : Nat → Nat → Nat} {cA : Nat → ClassId} {P : Nat → Nat} (C : CtxM dC dI cA P p s m args meth c cX9_judge 5 (some .int) RX9) {post : Int32 → St → Prop} : ∀ (v1 : Int32) (v2 : Int32) (S : St) (H : Heap) (locs : List Loc) (ls : Array Slot), w_X9_judge v1 v2 post S → VM dC dI cA P S H → va_S (PA 25 P) s.heap H locs → lv_has ls 5 [(0, .ref (P 0)), (1, .int v1), (2, .int v2)] → W p l e ({ frames := 2, cells := 0, slots := 0, locals := 47 } : Room) s m args below meth c H locs 0 0 (MQ below (va_Qi post (fun u t => VM dC dI cA P u t.heap) (PA 25 P)) args s 0 0 (PA 25 P)) (F0 m 0 ls []) := by
  have C := C
  obtain ⟨hI, hKX, ⟨hx, hb, hml, hown, hts⟩, hr, hlocks⟩ := id C
  have hK := hKX
  intro v1 v2 S H locs ls h hP hS hl
  rw [w_X9_judge] at h
  refine lv_iload_n hx hb dX9_judge_0 rfl (lv_at hl 1 rfl) ?_
  refine va_calli (va_runS (As := [.int _]) (rest := []) ⟨hx, hb, hml, hown, hts⟩ (c_X9_isHolder l hI h) (va_cwS 1 hts gs_X9_294 rfl rfl rfl hd_X9_isHolder ⟨Nat.le_of_ble_eq_true rfl, Nat.le_of_ble_eq_true rfl⟩) (preS_M hKX hP hS) rfl rfl hl.1 rfl (lv_room (Nat.le_of_ble_eq_true rfl)) dX9_judge_1 ⟨Nat.le_of_ble_eq_true rfl, Nat.le_of_ble_eq_true rfl⟩) hS (fun _ _ h => h) (fun _ h => h) (fun r2 S1 t H locs ht _ h hB _ _ hS => ?_)
  have hP : VM dC dI cA P S1 H := by rw [← ht]; exact hB
  refine lv_if_eq (tgt := 15) hx hb dX9_judge_4 (by decide) (fun c3 => ?_) (fun c3 => ?_)
  · replace h := h.1 c3
    refine lv_iconst (v := (-1)) hx hb dX9_judge_15 (by decide) ?_
    exact g_iret hx hb hr hlocks h hP hS dX9_judge_16
  · replace h := h.2 c3
    refine lv_aload_n hx hb dX9_judge_7 rfl (lv_at hl 0 rfl) ?_
    refine lv_iload_n hx hb dX9_judge_8 rfl (lv_at hl 2 rfl) ?_
    refine va_calli (va_runV (As := [.int _]) (rest := []) ⟨hx, hb, hml, hown, hts⟩ (c_X9_isFraction l hI h) (cwV 1 hts gv_X9_126 rfl rfl rfl hv_X9_isFraction ⟨Nat.le_of_ble_eq_true rfl, Nat.le_of_ble_eq_true rfl⟩) (preV_M hKX hP hS (kM_lt (rfl : kdM 0 = 9)) (eM9 (rfl : kdM 0 = 9)) rfl) rfl rfl hl.1 rfl (lv_room (Nat.le_of_ble_eq_true rfl)) dX9_judge_9 ⟨Nat.le_of_ble_eq_true rfl, Nat.le_of_ble_eq_true rfl⟩) hS (fun _ _ h => h) (fun _ h => h) (fun r5 S4 t H locs ht _ h hB _ _ hS => ?_)
    have hP : VM dC dI cA P S4 H := by rw [← ht]; exact hB
    refine lv_if_ne (tgt := 17) hx hb dX9_judge_12 (by decide) (fun c6 => ?_) (fun c6 => ?_)
    · replace h := h.2 c6
      refine lv_aload_n hx hb dX9_judge_17 rfl (lv_at hl 0 rfl) ?_
      refine lv_iload_n hx hb dX9_judge_18 rfl (lv_at hl 1 rfl) ?_
      refine lv_iconst (v := 2) hx hb dX9_judge_19 (by decide) ?_
      refine va_calli (va_runV (As := [.int _, .int _]) (rest := []) ⟨hx, hb, hml, hown, hts⟩ (c_X9_whyNot l hI h) (cwV 2 hts gv_X9_302 rfl rfl rfl hv_X9_whyNot ⟨Nat.le_of_ble_eq_true rfl, Nat.le_of_ble_eq_true rfl⟩) (preV_M hKX hP hS (kM_lt (rfl : kdM 0 = 9)) (eM9 (rfl : kdM 0 = 9)) rfl) rfl rfl hl.1 rfl (lv_room (Nat.le_of_ble_eq_true rfl)) dX9_judge_20 ⟨Nat.le_of_ble_eq_true rfl, Nat.le_of_ble_eq_true rfl⟩) hS (fun _ _ h => h) (fun _ h => h) (fun r8 S7 t H locs ht _ h hB _ _ hS => ?_)
      have hP : VM dC dI cA P S7 H := by rw [← ht]; exact hB
      refine lv_istore_n (lv' := [(3, .int r8), (0, .ref (P 0)), (1, .int v1), (2, .int v2)]) hx hb dX9_judge_23 rfl hl (by decide) rfl (fun ls hl => ?_)
      refine lv_iload_n hx hb dX9_judge_24 rfl (lv_at hl 0 rfl) ?_
      refine lv_if_eq (tgt := 30) hx hb dX9_judge_25 (by decide) (fun c9 => ?_) (fun c9 => ?_)
      · replace h := h.1 c9
        refine lv_aload_n hx hb dX9_judge_30 rfl (lv_at hl 1 rfl) ?_
        refine lv_iload_n hx hb dX9_judge_31 rfl (lv_at hl 3 rfl) ?_
        refine va_callv (va_runV (As := [.int _]) (rest := []) ⟨hx, hb, hml, hown, hts⟩ (c_X9_looksAt l hI h) (cwV 1 hts gv_X9_137 rfl rfl rfl hv_X9_looksAt ⟨Nat.le_of_ble_eq_true rfl, Nat.le_of_ble_eq_true rfl⟩) (preV_M hKX hP hS (kM_lt (rfl : kdM 0 = 9)) (eM9 (rfl : kdM 0 = 9)) rfl) rfl rfl hl.1 rfl (lv_room (Nat.le_of_ble_eq_true rfl)) dX9_judge_32 ⟨Nat.le_of_ble_eq_true rfl, Nat.le_of_ble_eq_true rfl⟩) hS (fun _ _ h => h) (fun _ h => h) (fun S10 t H locs ht _ h hB _ _ hS => ?_)
        have hP : VM dC dI cA P S10 H := by rw [← ht]; exact hB
        refine lv_iconst (v := 0) hx hb dX9_judge_35 (by decide) ?_
        refine lv_istore (lv' := [(4, .int 0), (3, .int r8), (0, .ref (P 0)), (1, .int v1), (2, .int v2)]) hx hb dX9_judge_36 hl (by decide) rfl (fun ls hl => ?_)
        obtain ⟨n17, h⟩ := h
        exact b_X9_judge_38 C n17 _ _ _ _ _ _ h  hP hS (lv_sub hl [2, 3, 0] rfl)
      · replace h := h.2 c9
        refine lv_iload_n hx hb dX9_judge_28 rfl (lv_at hl 0 rfl) ?_
        exact g_iret hx hb hr hlocks h hP hS dX9_judge_29
    · replace h := h.1 c6
      refine lv_iconst (v := (-1)) hx hb dX9_judge_15 (by decide) ?_
      exact g_iret hx hb hr hlocks h hP hS dX9_judge_16
set_option maxRecDepth 100000 in
set_option maxHeartbeats 4000000 in
theorem c_X9_judge (l : Launch) {dC : Nat → ClassId} {dI : Nat → Nat → Nat} {cA : Nat → ClassId} {P : Nat → Nat} (hI : PInj 25 P) {v1 : Int32} {v2 : Int32}  {post : Int32 → St → Prop} {S : St} (h : w_X9_judge v1 v2 post S) : Met l yX9_judge (wW yX9_judge cX9_judge 5 (some .int)) ({ frames := 2, cells := 0, slots := 0, locals := 47 } : Room) (va_Pc [.ref (P 0), .int v1, .int v2] (PreM dC dI cA P S)) (va_Qi post (fun u t => VM dC dI cA P u t.heap) (PA 25 P)) 0 0 (PA 25 P) := by
  refine Met.ofW (cc := cX9_judge) (maxL := 5) (ret := (some .int)) (by decide) rfl ?_
  intro p e s m args below meth c s₁ B hml hv
  obtain ⟨rfl, hP, hKX⟩ := hv
  have hts : ∀ w ∈ G, w.before [.ref (P 0), .int v1, .int v2].toArray s = true := fun w hw => atoms_spec (ws := wW yX9_judge cX9_judge 5 (some .int)) B.pre w (List.mem_cons_of_mem _ hw)
  have C : CtxM dC dI cA P p s m [.ref (P 0), .int v1, .int v2].toArray meth c cX9_judge 5 (some .int) RX9 := ⟨hI, hKX, ⟨B.exec, B.bytes, hml, findClass_of_methodNamed B.named, hts⟩, B.returns, B.notSynchronized⟩
  have hS : va_S (PA 25 P) s.heap s.heap [] := va_S.rf
  have hl := lv_entry ([.ref (P 0), .int v1, .int v2]) (n := 5) (Nat.le_of_ble_eq_true rfl)
  rw [lg_entry_eq]
  generalize (lg_sl ([.ref (P 0), .int v1, .int v2]) ++ List.replicate (5 - (lg_sl ([.ref (P 0), .int v1, .int v2])).length) Slot.unset).toArray = ls at hl ⊢
  have hl : lv_has ls 5 [(0, .ref (P 0)), (1, .int v1), (2, .int v2)] := hl
  exact e_X9_judge C _ _ _ _ _ _ h  hP hS hl
set_option maxRecDepth 100000 in
set_option maxHeartbeats 4000000 in
theorem b_X9_image_83 {p : Program} {l : Launch} {e : Env} {s : State} {m : MethodId} {args : Array Value} {below : List Frame} {meth : Method} {c : Code} {dC : Nat → ClassId} {dI : Nat → Nat → Nat} {cA : Nat → ClassId} {P : Nat → Nat} (C : CtxM dC dI cA P p s m args meth c cX9_image 2 (some .int) RX9) {post : Int32 → St → Prop}  : ∀ (n : Nat) (v1 : Int32) (S : St) (H : Heap) (locs : List Loc) (ls : Array Slot), w_X9_image_83 post n v1 S → VM dC dI cA P S H → va_S (PA 25 P) s.heap H locs → lv_has ls 2 [(0, .ref (P 0)), (1, .int v1)] → W p l e ({ frames := 0, cells := 0, slots := 0, locals := 0 } : Room) s m args below meth c H locs 0 0 (MQ below (va_Qi post (fun u t => VM dC dI cA P u t.heap) (PA 25 P)) args s 0 0 (PA 25 P)) (F0 m 83 ls []) := by
  have C := C
  obtain ⟨hI, hKX, ⟨hx, hb, hml, hown, hts⟩, hr, hlocks⟩ := id C
  have hK := hKX
  intro n
  induction n with
  | zero =>
    intro v1 S H locs ls h hP hS hl
    simp only [w_X9_image_83] at h
  | succ n ih =>
    intro v1 S H locs ls h hP hS hl
    rw [w_X9_image_83] at h
    refine lv_iload_n hx hb dX9_image_83 rfl (lv_at hl 1 rfl) ?_
    refine lv_aload_n hx hb dX9_image_84 rfl (lv_at hl 0 rfl) ?_
    refine g_get (v := .int (S.1 0 14)) hx hb hts inG_X9 hown hK hP (kM_lt (rfl : kdM 0 = 9)) (eM9 (rfl : kdM 0 = 9)) rfl 14 (by decide) G_fl_X9_194 rfl rfl dX9_image_85 ?_
    refine lv_icmp_ge (tgt := 109) hx hb dX9_image_88 (by decide) (fun c9 => ?_) (fun c9 => ?_)
    · replace h := h.1 c9
      refine lv_aload_n hx hb dX9_image_109 rfl (lv_at hl 0 rfl) ?_
      refine g_get (v := .int (S.1 0 0)) hx hb hts inG_X9 hown hK hP (kM_lt (rfl : kdM 0 = 9)) (eM9 (rfl : kdM 0 = 9)) rfl 0 (by decide) G_fl_X9_89 rfl rfl dX9_image_110 ?_
      exact g_iret hx hb hr hlocks h hP hS dX9_image_113
    · replace h := h.2 c9
      refine lv_aload_n hx hb dX9_image_91 rfl (lv_at hl 0 rfl) ?_
      refine g_get (v := .ref (P 24)) hx hb hts inG_X9 hown hK hP (kM_lt (rfl : kdM 0 = 9)) (eM9 (rfl : kdM 0 = 9)) rfl 43 (by decide) G_fl_X9_86 rfl rfl dX9_image_92 ?_
      refine lv_iload_n hx hb dX9_image_95 rfl (lv_at hl 1 rfl) ?_
      refine lv_aload_n hx hb dX9_image_96 rfl (lv_at hl 0 rfl) ?_
      refine g_get (v := .ref (P 9)) hx hb hts inG_X9 hown hK hP (kM_lt (rfl : kdM 0 = 9)) (eM9 (rfl : kdM 0 = 9)) rfl 16 (by decide) G_fl_X9_40 rfl rfl dX9_image_97 ?_
      refine lv_iload_n hx hb dX9_image_100 rfl (lv_at hl 1 rfl) ?_
      refine g_ald hx hb hK hP (kM_lt (rfl : kdM 9 = 10)) 0 (eM10 (rfl : kdM 9 = 10)) rfl h.1 dX9_image_101 ?_
      replace h := h.2
      replace h := h _ rfl
      refine g_ast hx hb hK hI hP hS (kM_lt (rfl : kdM 24 = 10)) 0 (eM10 (rfl : kdM 24 = 10)) rfl h.1 h.2 dX9_image_102 (fun S11 H locs h hP hS => ?_)
      obtain ⟨x12, ex12⟩ : ∃ y : Int32, y = v1 + 1 := ⟨_, rfl⟩
      replace h := h x12 ex12
      refine lv_iinc (v := x12) (lv' := [(1, .int x12), (0, .ref (P 0))]) hx hb dX9_image_103 hl (k := 1) rfl (by rw [ex12]; rfl) (by decide) rfl (fun ls hl => ?_)
      refine lv_goto (tgt := 83) hx hb dX9_image_106 (by decide) ?_
      exact ih _ _ _ _ _ h  hP hS (lv_sub hl [1, 0] rfl)
set_option maxRecDepth 100000 in
set_option maxHeartbeats 4000000 in
theorem b_X9_image_15 {p : Program} {l : Launch} {e : Env} {s : State} {m : MethodId} {args : Array Value} {below : List Frame} {meth : Method} {c : Code} {dC : Nat → ClassId} {dI : Nat → Nat → Nat} {cA : Nat → ClassId} {P : Nat → Nat} (C : CtxM dC dI cA P p s m args meth c cX9_image 2 (some .int) RX9) {post : Int32 → St → Prop}  : ∀ (n : Nat) (v1 : Int32) (S : St) (H : Heap) (locs : List Loc) (ls : Array Slot), w_X9_image_15 post n v1 S → VM dC dI cA P S H → va_S (PA 25 P) s.heap H locs → lv_has ls 2 [(0, .ref (P 0)), (1, .int v1)] → W p l e ({ frames := 0, cells := 0, slots := 0, locals := 0 } : Room) s m args below meth c H locs 0 0 (MQ below (va_Qi post (fun u t => VM dC dI cA P u t.heap) (PA 25 P)) args s 0 0 (PA 25 P)) (F0 m 15 ls []) := by
  have C := C
  obtain ⟨hI, hKX, ⟨hx, hb, hml, hown, hts⟩, hr, hlocks⟩ := id C
  have hK := hKX
  intro n
  induction n with
  | zero =>
    intro v1 S H locs ls h hP hS hl
    simp only [w_X9_image_15] at h
  | succ n ih =>
    intro v1 S H locs ls h hP hS hl
    rw [w_X9_image_15] at h
    refine lv_iload_n hx hb dX9_image_15 rfl (lv_at hl 1 rfl) ?_
    refine lv_aload_n hx hb dX9_image_16 rfl (lv_at hl 0 rfl) ?_
    refine g_get (v := .int (S.1 0 0)) hx hb hts inG_X9 hown hK hP (kM_lt (rfl : kdM 0 = 9)) (eM9 (rfl : kdM 0 = 9)) rfl 0 (by decide) G_fl_X9_89 rfl rfl dX9_image_17 ?_
    refine lv_icmp_ge (tgt := 65) hx hb dX9_image_20 (by decide) (fun c4 => ?_) (fun c4 => ?_)
    · replace h := h.1 c4
      refine lv_aload_n hx hb dX9_image_65 rfl (lv_at hl 0 rfl) ?_
      refine lv_aload_n hx hb dX9_image_66 rfl (lv_at hl 0 rfl) ?_
      refine g_get (v := .int (S.1 0 14)) hx hb hts inG_X9 hown hK hP (kM_lt (rfl : kdM 0 = 9)) (eM9 (rfl : kdM 0 = 9)) rfl 14 (by decide) G_fl_X9_194 rfl rfl dX9_image_67 ?_
      replace h := h _ rfl
      refine g_putI hx hb hts inG_X9 tyX9 tyX9_ok nmX9 hown hK hI hP hS (kM_lt (rfl : kdM 0 = 9)) (eM9 (rfl : kdM 0 = 9)) rfl 41 (by decide) G_fl_X9_311 rfl rfl (ty := .int) (by decide +kernel) rfl rfl (Nat.le_of_ble_eq_true rfl) rfl h dX9_image_70 (fun S6 H locs h hP hS => ?_)
      refine lv_aload_n hx hb dX9_image_73 rfl (lv_at hl 0 rfl) ?_
      refine lv_aload_n hx hb dX9_image_74 rfl (lv_at hl 0 rfl) ?_
      refine g_get (v := .int (S6.1 0 15)) hx hb hts inG_X9 hown hK hP (kM_lt (rfl : kdM 0 = 9)) (eM9 (rfl : kdM 0 = 9)) rfl 15 (by decide) G_fl_X9_36 rfl rfl dX9_image_75 ?_
      replace h := h _ rfl
      refine g_putI hx hb hts inG_X9 tyX9 tyX9_ok nmX9 hown hK hI hP hS (kM_lt (rfl : kdM 0 = 9)) (eM9 (rfl : kdM 0 = 9)) rfl 42 (by decide) G_fl_X9_314 rfl rfl (ty := .int) (by decide +kernel) rfl rfl (Nat.le_of_ble_eq_true rfl) rfl h dX9_image_78 (fun S8 H locs h hP hS => ?_)
      refine lv_iconst (v := 0) hx hb dX9_image_81 (by decide) ?_
      refine lv_istore_n (lv' := [(1, .int 0), (0, .ref (P 0))]) hx hb dX9_image_82 rfl hl (by decide) rfl (fun ls hl => ?_)
      obtain ⟨n13, h⟩ := h
      exact b_X9_image_83 C n13 _ _ _ _ _ h  hP hS (lv_sub hl [1, 0] rfl)
    · replace h := h.2 c4
      refine lv_aload_n hx hb dX9_image_23 rfl (lv_at hl 0 rfl) ?_
      refine g_get (v := .ref (P 21)) hx hb hts inG_X9 hown hK hP (kM_lt (rfl : kdM 0 = 9)) (eM9 (rfl : kdM 0 = 9)) rfl 38 (by decide) G_fl_X9_77 rfl rfl dX9_image_24 ?_
      refine lv_iload_n hx hb dX9_image_27 rfl (lv_at hl 1 rfl) ?_
      refine lv_aload_n hx hb dX9_image_28 rfl (lv_at hl 0 rfl) ?_
      refine g_get (v := .ref (P 1)) hx hb hts inG_X9 hown hK hP (kM_lt (rfl : kdM 0 = 9)) (eM9 (rfl : kdM 0 = 9)) rfl 1 (by decide) G_fl_X9_11 rfl rfl dX9_image_29 ?_
      refine lv_iload_n hx hb dX9_image_32 rfl (lv_at hl 1 rfl) ?_
      refine g_ald hx hb hK hP (kM_lt (rfl : kdM 1 = 10)) 0 (eM10 (rfl : kdM 1 = 10)) rfl h.1 dX9_image_33 ?_
      replace h := h.2
      replace h := h _ rfl
      refine g_ast hx hb hK hI hP hS (kM_lt (rfl : kdM 21 = 10)) 0 (eM10 (rfl : kdM 21 = 10)) rfl h.1 h.2 dX9_image_34 (fun S15 H locs h hP hS => ?_)
      refine lv_aload_n hx hb dX9_image_35 rfl (lv_at hl 0 rfl) ?_
      refine g_get (v := .ref (P 22)) hx hb hts inG_X9 hown hK hP (kM_lt (rfl : kdM 0 = 9)) (eM9 (rfl : kdM 0 = 9)) rfl 39 (by decide) G_fl_X9_80 rfl rfl dX9_image_36 ?_
      refine lv_iload_n hx hb dX9_image_39 rfl (lv_at hl 1 rfl) ?_
      refine lv_aload_n hx hb dX9_image_40 rfl (lv_at hl 0 rfl) ?_
      refine g_get (v := .ref (P 2)) hx hb hts inG_X9 hown hK hP (kM_lt (rfl : kdM 0 = 9)) (eM9 (rfl : kdM 0 = 9)) rfl 2 (by decide) G_fl_X9_15 rfl rfl dX9_image_41 ?_
      refine lv_iload_n hx hb dX9_image_44 rfl (lv_at hl 1 rfl) ?_
      refine g_ald hx hb hK hP (kM_lt (rfl : kdM 2 = 10)) 0 (eM10 (rfl : kdM 2 = 10)) rfl h.1 dX9_image_45 ?_
      replace h := h.2
      replace h := h _ rfl
      refine g_ast hx hb hK hI hP hS (kM_lt (rfl : kdM 22 = 10)) 0 (eM10 (rfl : kdM 22 = 10)) rfl h.1 h.2 dX9_image_46 (fun S17 H locs h hP hS => ?_)
      refine lv_aload_n hx hb dX9_image_47 rfl (lv_at hl 0 rfl) ?_
      refine g_get (v := .ref (P 23)) hx hb hts inG_X9 hown hK hP (kM_lt (rfl : kdM 0 = 9)) (eM9 (rfl : kdM 0 = 9)) rfl 40 (by decide) G_fl_X9_83 rfl rfl dX9_image_48 ?_
      refine lv_iload_n hx hb dX9_image_51 rfl (lv_at hl 1 rfl) ?_
      refine lv_aload_n hx hb dX9_image_52 rfl (lv_at hl 0 rfl) ?_
      refine g_get (v := .ref (P 3)) hx hb hts inG_X9 hown hK hP (kM_lt (rfl : kdM 0 = 9)) (eM9 (rfl : kdM 0 = 9)) rfl 3 (by decide) G_fl_X9_18 rfl rfl dX9_image_53 ?_
      refine lv_iload_n hx hb dX9_image_56 rfl (lv_at hl 1 rfl) ?_
      refine g_ald hx hb hK hP (kM_lt (rfl : kdM 3 = 10)) 0 (eM10 (rfl : kdM 3 = 10)) rfl h.1 dX9_image_57 ?_
      replace h := h.2
      replace h := h _ rfl
      refine g_ast hx hb hK hI hP hS (kM_lt (rfl : kdM 23 = 10)) 0 (eM10 (rfl : kdM 23 = 10)) rfl h.1 h.2 dX9_image_58 (fun S19 H locs h hP hS => ?_)
      obtain ⟨x20, ex20⟩ : ∃ y : Int32, y = v1 + 1 := ⟨_, rfl⟩
      replace h := h x20 ex20
      refine lv_iinc (v := x20) (lv' := [(1, .int x20), (0, .ref (P 0))]) hx hb dX9_image_59 hl (k := 1) rfl (by rw [ex20]; rfl) (by decide) rfl (fun ls hl => ?_)
      refine lv_goto (tgt := 15) hx hb dX9_image_62 (by decide) ?_
      exact ih _ _ _ _ _ h  hP hS (lv_sub hl [1, 0] rfl)
set_option maxRecDepth 100000 in
set_option maxHeartbeats 4000000 in
theorem e_X9_image {p : Program} {l : Launch} {e : Env} {s : State} {m : MethodId} {args : Array Value} {below : List Frame} {meth : Method} {c : Code} {dC : Nat → ClassId} {dI : Nat → Nat → Nat} {cA : Nat → ClassId} {P : Nat → Nat} (C : CtxM dC dI cA P p s m args meth c cX9_image 2 (some .int) RX9) {post : Int32 → St → Prop} : ∀  (S : St) (H : Heap) (locs : List Loc) (ls : Array Slot), w_X9_image  post S → VM dC dI cA P S H → va_S (PA 25 P) s.heap H locs → lv_has ls 2 [(0, .ref (P 0))] → W p l e ({ frames := 0, cells := 0, slots := 0, locals := 0 } : Room) s m args below meth c H locs 0 0 (MQ below (va_Qi post (fun u t => VM dC dI cA P u t.heap) (PA 25 P)) args s 0 0 (PA 25 P)) (F0 m 0 ls []) := by
  have C := C
  obtain ⟨hI, hKX, ⟨hx, hb, hml, hown, hts⟩, hr, hlocks⟩ := id C
  have hK := hKX
  intro S H locs ls h hP hS hl
  rw [w_X9_image] at h
  refine lv_aload_n hx hb dX9_image_0 rfl (lv_at hl 0 rfl) ?_
  refine lv_iconst (v := 1) hx hb dX9_image_1 (by decide) ?_
  refine g_putI hx hb hts inG_X9 tyX9 tyX9_ok nmX9 hown hK hI hP hS (kM_lt (rfl : kdM 0 = 9)) (eM9 (rfl : kdM 0 = 9)) rfl 36 (by decide) G_fl_X9_305 rfl rfl (ty := .boolean) (by decide +kernel) bz_1.1 bz_1.2 (Nat.le_of_ble_eq_true rfl) rfl h dX9_image_2 (fun S1 H locs h hP hS => ?_)
  refine lv_aload_n hx hb dX9_image_5 rfl (lv_at hl 0 rfl) ?_
  refine lv_aload_n hx hb dX9_image_6 rfl (lv_at hl 0 rfl) ?_
  refine g_get (v := .int (S1.1 0 0)) hx hb hts inG_X9 hown hK hP (kM_lt (rfl : kdM 0 = 9)) (eM9 (rfl : kdM 0 = 9)) rfl 0 (by decide) G_fl_X9_89 rfl rfl dX9_image_7 ?_
  replace h := h _ rfl
  refine g_putI hx hb hts inG_X9 tyX9 tyX9_ok nmX9 hown hK hI hP hS (kM_lt (rfl : kdM 0 = 9)) (eM9 (rfl : kdM 0 = 9)) rfl 37 (by decide) G_fl_X9_308 rfl rfl (ty := .int) (by decide +kernel) rfl rfl (Nat.le_of_ble_eq_true rfl) rfl h dX9_image_10 (fun S3 H locs h hP hS => ?_)
  refine lv_iconst (v := 0) hx hb dX9_image_13 (by decide) ?_
  refine lv_istore_n (lv' := [(1, .int 0), (0, .ref (P 0))]) hx hb dX9_image_14 rfl hl (by decide) rfl (fun ls hl => ?_)
  obtain ⟨n21, h⟩ := h
  exact b_X9_image_15 C n21 _ _ _ _ _ h  hP hS (lv_sub hl [1, 0] rfl)
set_option maxRecDepth 100000 in
set_option maxHeartbeats 4000000 in
theorem c_X9_image (l : Launch) {dC : Nat → ClassId} {dI : Nat → Nat → Nat} {cA : Nat → ClassId} {P : Nat → Nat} (hI : PInj 25 P)   {post : Int32 → St → Prop} {S : St} (h : w_X9_image  post S) : Met l yX9_image (wW yX9_image cX9_image 2 (some .int)) ({ frames := 0, cells := 0, slots := 0, locals := 0 } : Room) (va_Pc [.ref (P 0)] (PreM dC dI cA P S)) (va_Qi post (fun u t => VM dC dI cA P u t.heap) (PA 25 P)) 0 0 (PA 25 P) := by
  refine Met.ofW (cc := cX9_image) (maxL := 2) (ret := (some .int)) (by decide) rfl ?_
  intro p e s m args below meth c s₁ B hml hv
  obtain ⟨rfl, hP, hKX⟩ := hv
  have hts : ∀ w ∈ G, w.before [.ref (P 0)].toArray s = true := fun w hw => atoms_spec (ws := wW yX9_image cX9_image 2 (some .int)) B.pre w (List.mem_cons_of_mem _ hw)
  have C : CtxM dC dI cA P p s m [.ref (P 0)].toArray meth c cX9_image 2 (some .int) RX9 := ⟨hI, hKX, ⟨B.exec, B.bytes, hml, findClass_of_methodNamed B.named, hts⟩, B.returns, B.notSynchronized⟩
  have hS : va_S (PA 25 P) s.heap s.heap [] := va_S.rf
  have hl := lv_entry ([.ref (P 0)]) (n := 2) (Nat.le_of_ble_eq_true rfl)
  rw [lg_entry_eq]
  generalize (lg_sl ([.ref (P 0)]) ++ List.replicate (2 - (lg_sl ([.ref (P 0)])).length) Slot.unset).toArray = ls at hl ⊢
  have hl : lv_has ls 2 [(0, .ref (P 0))] := hl
  exact e_X9_image C  _ _ _ _ h  hP hS hl
