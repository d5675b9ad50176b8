set_option maxRecDepth 100000 in
set_option maxHeartbeats 4000000 in
theorem e_X8_doCommand {p : Program} {l : Launch} {e : Env} {s : State} {m : MethodId} {args : Array Value} {below : List Frame} {meth : Method} {c : Code} {dC : Nat → ClassId} {dI : Nat → Nat → Nat} {cA : Nat → ClassId} {adK adV P : Nat → Nat} (C : CtxX dC dI cA adK adV P p s m args meth c cX8_doCommand 4 (some .int) RX8) {post : Int32 → St → Prop} : ∀ (v1 : Int32) (S : St) (H : Heap) (locs : List Loc) (ls : Array Slot), w_X8_doCommand v1 post S → VX dC dI cA P S H → va_S (PA 56 P) s.heap H locs → lv_has ls 4 [(0, .ref (P 0)), (1, .int v1)] → W p l e ({ frames := 5, cells := 0, slots := 0, locals := 133 } : Room) s m args below meth c H locs 0 0 (MQ below (va_Qi post (fun u t => VX dC dI cA P u t.heap) (PA 56 P)) args s 0 0 (PA 56 P)) (F0 m 0 ls []) := by
  have C := C
  obtain ⟨hI, hKX, ⟨hx, hb, hml, hown, hts⟩, hr, hlocks⟩ := id C
  have hK := hKX.1
  intro v1 S H locs ls h hP hS hl
  rw [w_X8_doCommand] at h
  refine lv_aload_n hx hb dX8_doCommand_0 rfl (lv_at hl 0 rfl) ?_
  refine g_get (v := .ref (P 30)) hx hb hts inG_X8 hown hK hP (kX_lt (rfl : kdX 0 = 8)) (eX8 (rfl : kdX 0 = 8)) rfl 4 (by decide) G_fl_X8_42 rfl rfl dX8_doCommand_1 ?_
  refine lv_iload_n hx hb dX8_doCommand_4 rfl (lv_at hl 1 rfl) ?_
  refine lv_iconst (v := 0) hx hb dX8_doCommand_5 (by decide) ?_
  refine va_calli (va_runV (As := [.int _, .int _]) (rest := []) ⟨hx, hb, hml, hown, hts⟩ (c_X5_number l hI h) (cwV 2 hts gv_X8_295 rfl rfl rfl hv_X5_number ⟨Nat.le_of_ble_eq_true rfl, Nat.le_of_ble_eq_true rfl⟩) (preV_X hKX hP hS (kX_lt (rfl : kdX 30 = 5)) (eX5 (rfl : kdX 30 = 5)) rfl) rfl rfl hl.1 rfl (lv_room (Nat.le_of_ble_eq_true rfl)) dX8_doCommand_6 ⟨Nat.le_of_ble_eq_true rfl, Nat.le_of_ble_eq_true rfl⟩) hS (fun _ _ h => h) (fun _ h => h) (fun r2 S1 t H locs ht _ h hB _ _ hS => ?_)
  have hP : VX dC dI cA P S1 H := by rw [← ht]; exact hB
  refine lv_istore_n (lv' := [(2, .int r2), (0, .ref (P 0)), (1, .int v1)]) hx hb dX8_doCommand_9 rfl hl (by decide) rfl (fun ls hl => ?_)
  refine lv_aload_n hx hb dX8_doCommand_10 rfl (lv_at hl 1 rfl) ?_
  refine g_get (v := .ref (P 30)) hx hb hts inG_X8 hown hK hP (kX_lt (rfl : kdX 0 = 8)) (eX8 (rfl : kdX 0 = 8)) rfl 4 (by decide) G_fl_X8_42 rfl rfl dX8_doCommand_11 ?_
  refine lv_iload_n hx hb dX8_doCommand_14 rfl (lv_at hl 2 rfl) ?_
  refine lv_iconst (v := 1) hx hb dX8_doCommand_15 (by decide) ?_
  refine va_calli (va_runV (As := [.int _, .int _]) (rest := []) ⟨hx, hb, hml, hown, hts⟩ (c_X5_number l hI h) (cwV 2 hts gv_X8_295 rfl rfl rfl hv_X5_number ⟨Nat.le_of_ble_eq_true rfl, Nat.le_of_ble_eq_true rfl⟩) (preV_X hKX hP hS (kX_lt (rfl : kdX 30 = 5)) (eX5 (rfl : kdX 30 = 5)) rfl) rfl rfl hl.1 rfl (lv_room (Nat.le_of_ble_eq_true rfl)) dX8_doCommand_16 ⟨Nat.le_of_ble_eq_true rfl, Nat.le_of_ble_eq_true rfl⟩) hS (fun _ _ h => h) (fun _ h => h) (fun r4 S3 t H locs ht _ h hB _ _ hS => ?_)
  have hP : VX dC dI cA P S3 H := by rw [← ht]; exact hB
  refine lv_istore_n (lv' := [(3, .int r4), (2, .int r2), (0, .ref (P 0)), (1, .int v1)]) hx hb dX8_doCommand_19 rfl hl (by decide) rfl (fun ls hl => ?_)
  refine lv_aload_n hx hb dX8_doCommand_20 rfl (lv_at hl 2 rfl) ?_
  refine g_get (v := .ref (P 30)) hx hb hts inG_X8 hown hK hP (kX_lt (rfl : kdX 0 = 8)) (eX8 (rfl : kdX 0 = 8)) rfl 4 (by decide) G_fl_X8_42 rfl rfl dX8_doCommand_21 ?_
  refine lv_iload_n hx hb dX8_doCommand_24 rfl (lv_at hl 3 rfl) ?_
  refine va_calli (va_runV (As := [.int _]) (rest := []) ⟨hx, hb, hml, hown, hts⟩ (c_X5_word l hI h) (cwV 1 hts gv_X8_298 rfl rfl rfl hv_X5_word ⟨Nat.le_of_ble_eq_true rfl, Nat.le_of_ble_eq_true rfl⟩) (preV_X hKX hP hS (kX_lt (rfl : kdX 30 = 5)) (eX5 (rfl : kdX 30 = 5)) rfl) rfl rfl hl.1 rfl (lv_room (Nat.le_of_ble_eq_true rfl)) dX8_doCommand_25 ⟨Nat.le_of_ble_eq_true rfl, Nat.le_of_ble_eq_true rfl⟩) hS (fun _ _ h => h) (fun _ h => h) (fun r6 S5 t H locs ht _ h hB _ _ hS => ?_)
  have hP : VX dC dI cA P S5 H := by rw [← ht]; exact hB
  by_cases c7 : r6 = 0
  · replace h := h.1 c7
    refine lv_tableIn (off := 36) (tgt := 64) hx hb dX8_doCommand_28 (by rw [c7]; decide) (by rw [c7]; decide) (by rw [c7]; decide) (by decide) ?_
    refine lv_aload_n hx hb dX8_doCommand_64 rfl (lv_at hl 2 rfl) ?_
    refine lv_iload_n hx hb dX8_doCommand_65 rfl (lv_at hl 1 rfl) ?_
    refine lv_iload_n hx hb dX8_doCommand_66 rfl (lv_at hl 0 rfl) ?_
    refine lv_aload_n hx hb dX8_doCommand_67 rfl (lv_at hl 2 rfl) ?_
    refine g_get (v := .ref (P 30)) hx hb hts inG_X8 hown hK hP (kX_lt (rfl : kdX 0 = 8)) (eX8 (rfl : kdX 0 = 8)) rfl 4 (by decide) G_fl_X8_42 rfl rfl dX8_doCommand_68 ?_
    refine lv_iload_n hx hb dX8_doCommand_71 rfl (lv_at hl 3 rfl) ?_
    refine lv_iconst (v := 2) hx hb dX8_doCommand_72 (by decide) ?_
    refine va_calli (va_runV (As := [.int _, .int _]) (rest := [.int _, .int _, .ref _]) ⟨hx, hb, hml, hown, hts⟩ (c_X5_number l hI h) (cwV 2 hts gv_X8_295 rfl rfl rfl hv_X5_number ⟨Nat.le_of_ble_eq_true rfl, Nat.le_of_ble_eq_true rfl⟩) (preV_X hKX hP hS (kX_lt (rfl : kdX 30 = 5)) (eX5 (rfl : kdX 30 = 5)) rfl) rfl rfl hl.1 rfl (lv_room (Nat.le_of_ble_eq_true rfl)) dX8_doCommand_73 ⟨Nat.le_of_ble_eq_true rfl, Nat.le_of_ble_eq_true rfl⟩) hS (fun _ _ h => h) (fun _ h => h) (fun r9 S8 t H locs ht _ h hB _ _ hS => ?_)
    have hP : VX dC dI cA P S8 H := by rw [← ht]; exact hB
    refine va_calli (va_runV (As := [.int _, .int _, .int _]) (rest := []) ⟨hx, hb, hml, hown, hts⟩ (c_X8_fraction l hI h) (cwV 3 hts gv_X8_301 rfl rfl rfl hv_X8_fraction ⟨Nat.le_of_ble_eq_true rfl, Nat.le_of_ble_eq_true rfl⟩) (preV_X hKX hP hS (kX_lt (rfl : kdX 0 = 8)) (eX8 (rfl : kdX 0 = 8)) rfl) rfl rfl hl.1 rfl (lv_room (Nat.le_of_ble_eq_true rfl)) dX8_doCommand_76 ⟨Nat.le_of_ble_eq_true rfl, Nat.le_of_ble_eq_true rfl⟩) hS (fun _ _ h => h) (fun _ h => h) (fun r11 S10 t H locs ht _ h hB _ _ hS => ?_)
    have hP : VX dC dI cA P S10 H := by rw [← ht]; exact hB
    exact g_iret hx hb hr hlocks h hP hS dX8_doCommand_79
  replace h := h.2 c7
  by_cases c12 : r6 = 1
  · replace h := h.1 c12
    refine lv_tableIn (off := 52) (tgt := 80) hx hb dX8_doCommand_28 (by rw [c12]; decide) (by rw [c12]; decide) (by rw [c12]; decide) (by decide) ?_
    refine lv_aload_n hx hb dX8_doCommand_80 rfl (lv_at hl 2 rfl) ?_
    refine lv_iload_n hx hb dX8_doCommand_81 rfl (lv_at hl 1 rfl) ?_
    refine va_calli (va_runV (As := [.int _]) (rest := []) ⟨hx, hb, hml, hown, hts⟩ (c_X8_drop l hI h) (cwV 1 hts gv_X8_303 rfl rfl rfl hv_X8_drop ⟨Nat.le_of_ble_eq_true rfl, Nat.le_of_ble_eq_true rfl⟩) (preV_X hKX hP hS (kX_lt (rfl : kdX 0 = 8)) (eX8 (rfl : kdX 0 = 8)) rfl) rfl rfl hl.1 rfl (lv_room (Nat.le_of_ble_eq_true rfl)) dX8_doCommand_82 ⟨Nat.le_of_ble_eq_true rfl, Nat.le_of_ble_eq_true rfl⟩) hS (fun _ _ h => h) (fun _ h => h) (fun r14 S13 t H locs ht _ h hB _ _ hS => ?_)
    have hP : VX dC dI cA P S13 H := by rw [← ht]; exact hB
    exact g_iret hx hb hr hlocks h hP hS dX8_doCommand_85
  replace h := h.2 c12
  by_cases c15 : r6 = 2
  · replace h := h.1 c15
    refine lv_tableIn (off := 58) (tgt := 86) hx hb dX8_doCommand_28 (by rw [c15]; decide) (by rw [c15]; decide) (by rw [c15]; decide) (by decide) ?_
    refine lv_aload_n hx hb dX8_doCommand_86 rfl (lv_at hl 2 rfl) ?_
    refine lv_iload_n hx hb dX8_doCommand_87 rfl (lv_at hl 1 rfl) ?_
    refine lv_iload_n hx hb dX8_doCommand_88 rfl (lv_at hl 0 rfl) ?_
    refine va_calli (va_runV (As := [.int _, .int _]) (rest := []) ⟨hx, hb, hml, hown, hts⟩ (c_X8_multiply l hI h) (cwV 2 hts gv_X8_306 rfl rfl rfl hv_X8_multiply ⟨Nat.le_of_ble_eq_true rfl, Nat.le_of_ble_eq_true rfl⟩) (preV_X hKX hP hS (kX_lt (rfl : kdX 0 = 8)) (eX8 (rfl : kdX 0 = 8)) rfl) rfl rfl hl.1 rfl (lv_room (Nat.le_of_ble_eq_true rfl)) dX8_doCommand_89 ⟨Nat.le_of_ble_eq_true rfl, Nat.le_of_ble_eq_true rfl⟩) hS (fun _ _ h => h) (fun _ h => h) (fun r17 S16 t H locs ht _ h hB _ _ hS => ?_)
    have hP : VX dC dI cA P S16 H := by rw [← ht]; exact hB
    exact g_iret hx hb hr hlocks h hP hS dX8_doCommand_92
  replace h := h.2 c15
  by_cases c18 : r6 = 3
  · replace h := h.1 c18
    refine lv_tableIn (off := 65) (tgt := 93) hx hb dX8_doCommand_28 (by rw [c18]; decide) (by rw [c18]; decide) (by rw [c18]; decide) (by decide) ?_
    refine lv_aload_n hx hb dX8_doCommand_93 rfl (lv_at hl 2 rfl) ?_
    refine lv_iload_n hx hb dX8_doCommand_94 rfl (lv_at hl 1 rfl) ?_
    refine lv_iload_n hx hb dX8_doCommand_95 rfl (lv_at hl 0 rfl) ?_
    refine va_calli (va_runV (As := [.int _, .int _]) (rest := []) ⟨hx, hb, hml, hown, hts⟩ (c_X8_sum l hI h) (cwV 2 hts gv_X8_309 rfl rfl rfl hv_X8_sum ⟨Nat.le_of_ble_eq_true rfl, Nat.le_of_ble_eq_true rfl⟩) (preV_X hKX hP hS (kX_lt (rfl : kdX 0 = 8)) (eX8 (rfl : kdX 0 = 8)) rfl) rfl rfl hl.1 rfl (lv_room (Nat.le_of_ble_eq_true rfl)) dX8_doCommand_96 ⟨Nat.le_of_ble_eq_true rfl, Nat.le_of_ble_eq_true rfl⟩) hS (fun _ _ h => h) (fun _ h => h) (fun r20 S19 t H locs ht _ h hB _ _ hS => ?_)
    have hP : VX dC dI cA P S19 H := by rw [← ht]; exact hB
    exact g_iret hx hb hr hlocks h hP hS dX8_doCommand_99
  replace h := h.2 c18
  by_cases c21 : r6 = 4
  · replace h := h.1 c21
    refine lv_tableIn (off := 72) (tgt := 100) hx hb dX8_doCommand_28 (by rw [c21]; decide) (by rw [c21]; decide) (by rw [c21]; decide) (by decide) ?_
    refine lv_aload_n hx hb dX8_doCommand_100 rfl (lv_at hl 2 rfl) ?_
    refine lv_iload_n hx hb dX8_doCommand_101 rfl (lv_at hl 1 rfl) ?_
    refine va_calli (va_runV (As := [.int _]) (rest := []) ⟨hx, hb, hml, hown, hts⟩ (c_X8_lowest l hI h) (cwV 1 hts gv_X8_312 rfl rfl rfl hv_X8_lowest ⟨Nat.le_of_ble_eq_true rfl, Nat.le_of_ble_eq_true rfl⟩) (preV_X hKX hP hS (kX_lt (rfl : kdX 0 = 8)) (eX8 (rfl : kdX 0 = 8)) rfl) rfl rfl hl.1 rfl (lv_room (Nat.le_of_ble_eq_true rfl)) dX8_doCommand_102 ⟨Nat.le_of_ble_eq_true rfl, Nat.le_of_ble_eq_true rfl⟩) hS (fun _ _ h => h) (fun _ h => h) (fun r23 S22 t H locs ht _ h hB _ _ hS => ?_)
    have hP : VX dC dI cA P S22 H := by rw [← ht]; exact hB
    exact g_iret hx hb hr hlocks h hP hS dX8_doCommand_105
  replace h := h.2 c21
  refine lv_tableOut (tgt := 106) hx hb dX8_doCommand_28 (by have := lv_neT c7 (a := 0) (by decide); have := lv_neT c12 (a := 1) (by decide); have := lv_neT c15 (a := 2) (by decide); have := lv_neT c18 (a := 3) (by decide); have := lv_neT c21 (a := 4) (by decide); omega) (by decide) ?_
  refine lv_iconst (v := (-1)) hx hb dX8_doCommand_106 (by decide) ?_
  exact g_iret hx hb hr hlocks h hP hS dX8_doCommand_107
set_option maxRecDepth 100000 in
set_option maxHeartbeats 4000000 in
theorem c_X8_doCommand (l : Launch) {dC : Nat → ClassId} {dI : Nat → Nat → Nat} {cA : Nat → ClassId} {adK adV P : Nat → Nat} (hI : PInj 56 P) {v1 : Int32}  {post : Int32 → St → Prop} {S : St} (h : w_X8_doCommand v1 post S) : Met l yX8_doCommand (wW yX8_doCommand cX8_doCommand 4 (some .int)) ({ frames := 5, cells := 0, slots := 0, locals := 133 } : Room) (va_Pc [.ref (P 0), .int v1] (PreX dC dI cA adK adV P S)) (va_Qi post (fun u t => VX dC dI cA P u t.heap) (PA 56 P)) 0 0 (PA 56 P) := by
  refine Met.ofW (cc := cX8_doCommand) (maxL := 4) (ret := (some .int)) (by decide) rfl ?_
  intro p e s m args below meth c s₁ B hml hv
  obtain ⟨rfl, hP, hKX⟩ := hv
  have hts : ∀ w ∈ G, w.before [.ref (P 0), .int v1].toArray s = true := fun w hw => atoms_spec (ws := wW yX8_doCommand cX8_doCommand 4 (some .int)) B.pre w (List.mem_cons_of_mem _ hw)
  have C : CtxX dC dI cA adK adV P p s m [.ref (P 0), .int v1].toArray meth c cX8_doCommand 4 (some .int) RX8 := ⟨hI, hKX, ⟨B.exec, B.bytes, hml, findClass_of_methodNamed B.named, hts⟩, B.returns, B.notSynchronized⟩
  have hS : va_S (PA 56 P) s.heap s.heap [] := va_S.rf
  have hl := lv_entry ([.ref (P 0), .int v1]) (n := 4) (Nat.le_of_ble_eq_true rfl)
  rw [lg_entry_eq]
  generalize (lg_sl ([.ref (P 0), .int v1]) ++ List.replicate (4 - (lg_sl ([.ref (P 0), .int v1])).length) Slot.unset).toArray = ls at hl ⊢
  have hl : lv_has ls 4 [(0, .ref (P 0)), (1, .int v1)] := hl
  exact e_X8_doCommand C _ _ _ _ _ h  hP hS hl
set_option maxRecDepth 100000 in
set_option maxHeartbeats 4000000 in
theorem b_X8_run_32 {p : Program} {l : Launch} {e : Env} {s : State} {m : MethodId} {args : Array Value} {below : List Frame} {meth : Method} {c : Code} {dC : Nat → ClassId} {dI : Nat → Nat → Nat} {cA : Nat → ClassId} {adK adV P : Nat → Nat} (C : CtxX dC dI cA adK adV P p s m args meth c cX8_run 3 (some .int) RX8) {post : Int32 → St → Prop}  : ∀ (n : Nat) (v2 : Int32) (S : St) (H : Heap) (locs : List Loc) (ls : Array Slot), w_X8_run_32 post n v2 S → VX dC dI cA P S H → va_S (PA 56 P) s.heap H locs → lv_has ls 3 [(0, .ref (P 0)), (2, .int v2)] → W p l e ({ frames := 8, cells := 0, slots := 0, locals := 180 } : Room) s m args below meth c H locs 0 0 (MQ below (va_Qi post (fun u t => VX dC dI cA P u t.heap) (PA 56 P)) args s 0 0 (PA 56 P)) (F0 m 32 ls []) := by
  have C := C
  obtain ⟨hI, hKX, ⟨hx, hb, hml, hown, hts⟩, hr, hlocks⟩ := id C
  have hK := hKX.1
  intro n
  induction n with
  | zero =>
    intro v2 S H locs ls h hP hS hl
    simp only [w_X8_run_32] at h
  | succ n ih =>
    intro v2 S H locs ls h hP hS hl
    rw [w_X8_run_32] at h
    refine lv_iload_n hx hb dX8_run_32 rfl (lv_at hl 1 rfl) ?_
    refine lv_aload_n hx hb dX8_run_33 rfl (lv_at hl 0 rfl) ?_
    refine g_get (v := .ref (P 30)) hx hb hts inG_X8 hown hK hP (kX_lt (rfl : kdX 0 = 8)) (eX8 (rfl : kdX 0 = 8)) rfl 4 (by decide) G_fl_X8_42 rfl rfl dX8_run_34 ?_
    refine g_get (v := .int (S.1 30 2)) hx hb hts inG_X5 hown hK hP (kX_lt (rfl : kdX 30 = 5)) (eX5 (rfl : kdX 30 = 5)) rfl 2 (by decide) G_fl_X8_247 rfl rfl dX8_run_37 ?_
    refine lv_icmp_ge (tgt := 63) hx hb dX8_run_40 (by decide) (fun c5 => ?_) (fun c5 => ?_)
    · replace h := h.1 c5
      refine lv_aload_n hx hb dX8_run_63 rfl (lv_at hl 0 rfl) ?_
      refine g_get (v := .ref (P 30)) hx hb hts inG_X8 hown hK hP (kX_lt (rfl : kdX 0 = 8)) (eX8 (rfl : kdX 0 = 8)) rfl 4 (by decide) G_fl_X8_42 rfl rfl dX8_run_64 ?_
      refine g_get (v := .int (S.1 30 2)) hx hb hts inG_X5 hown hK hP (kX_lt (rfl : kdX 30 = 5)) (eX5 (rfl : kdX 30 = 5)) rfl 2 (by decide) G_fl_X8_247 rfl rfl dX8_run_67 ?_
      exact g_iret hx hb hr hlocks h hP hS dX8_run_70
    · replace h := h.2 c5
      refine lv_aload_n hx hb dX8_run_43 rfl (lv_at hl 0 rfl) ?_
      refine lv_iload_n hx hb dX8_run_44 rfl (lv_at hl 1 rfl) ?_
      refine va_calli (va_runV (As := [.int _]) (rest := []) ⟨hx, hb, hml, hown, hts⟩ (c_X8_doCommand l hI h) (cwV 1 hts gv_X8_250 rfl rfl rfl hv_X8_doCommand ⟨Nat.le_of_ble_eq_true rfl, Nat.le_of_ble_eq_true rfl⟩) (preV_X hKX hP hS (kX_lt (rfl : kdX 0 = 8)) (eX8 (rfl : kdX 0 = 8)) rfl) rfl rfl hl.1 rfl (lv_room (Nat.le_of_ble_eq_true rfl)) dX8_run_45 ⟨Nat.le_of_ble_eq_true rfl, Nat.le_of_ble_eq_true rfl⟩) hS (fun _ _ h => h) (fun _ h => h) (fun r7 S6 t H locs ht _ h hB _ _ hS => ?_)
      have hP : VX dC dI cA P S6 H := by rw [← ht]; exact hB
      refine lv_if_ge (tgt := 57) hx hb dX8_run_48 (by decide) (fun c8 => ?_) (fun c8 => ?_)
      · replace h := h.1 c8
        obtain ⟨x9, ex9⟩ : ∃ y : Int32, y = v2 + 1 := ⟨_, rfl⟩
        replace h := h x9 ex9
        refine lv_iinc (v := x9) (lv' := [(2, .int x9), (0, .ref (P 0))]) hx hb dX8_run_57 hl (k := 1) rfl (by rw [ex9]; rfl) (by decide) rfl (fun ls hl => ?_)
        refine lv_goto (tgt := 32) hx hb dX8_run_60 (by decide) ?_
        exact ih _ _ _ _ _ h  hP hS (lv_sub hl [1, 0] rfl)
      · replace h := h.2 c8
        refine lv_sipush (v := (-2000)) hx hb dX8_run_51 (by decide) ?_
        refine lv_iload_n hx hb dX8_run_54 rfl (lv_at hl 1 rfl) ?_
        refine lv_isub hx hb dX8_run_55 ?_
        exact g_iret hx hb hr hlocks h hP hS dX8_run_56
set_option maxRecDepth 100000 in
set_option maxHeartbeats 4000000 in
theorem e_X8_run {p : Program} {l : Launch} {e : Env} {s : State} {m : MethodId} {args : Array Value} {below : List Frame} {meth : Method} {c : Code} {dC : Nat → ClassId} {dI : Nat → Nat → Nat} {cA : Nat → ClassId} {adK adV P : Nat → Nat} (C : CtxX dC dI cA adK adV P p s m args meth c cX8_run 3 (some .int) RX8) {post : Int32 → St → Prop} : ∀  (S : St) (H : Heap) (locs : List Loc) (ls : Array Slot), w_X8_run  post S → VX dC dI cA P S H → va_S (PA 56 P) s.heap H locs → lv_has ls 3 [(0, .ref (P 0))] → W p l e ({ frames := 8, cells := 0, slots := 0, locals := 180 } : Room) s m args below meth c H locs 0 0 (MQ below (va_Qi post (fun u t => VX dC dI cA P u t.heap) (PA 56 P)) args s 0 0 (PA 56 P)) (F0 m 0 ls []) := by
  have C := C
  obtain ⟨hI, hKX, ⟨hx, hb, hml, hown, hts⟩, hr, hlocks⟩ := id C
  have hK := hKX.1
  intro S H locs ls h hP hS hl
  rw [w_X8_run] at h
  refine lv_aload_n hx hb dX8_run_0 rfl (lv_at hl 0 rfl) ?_
  refine g_get (v := .ref (P 30)) hx hb hts inG_X8 hown hK hP (kX_lt (rfl : kdX 0 = 8)) (eX8 (rfl : kdX 0 = 8)) rfl 4 (by decide) G_fl_X8_42 rfl rfl dX8_run_1 ?_
  refine lv_aload_n hx hb dX8_run_4 rfl (lv_at hl 0 rfl) ?_
  refine g_get (v := .ref (P 27)) hx hb hts inG_X8 hown hK hP (kX_lt (rfl : kdX 0 = 8)) (eX8 (rfl : kdX 0 = 8)) rfl 2 (by decide) G_fl_X8_28 rfl rfl dX8_run_5 ?_
  refine va_calli (va_runV (As := [.ref _]) (rest := []) ⟨hx, hb, hml, hown, hts⟩ (c_X5_parse l hI h) (cwV 1 hts gv_X8_244 rfl rfl rfl hv_X5_parse ⟨Nat.le_of_ble_eq_true rfl, Nat.le_of_ble_eq_true rfl⟩) (preV_X hKX hP hS (kX_lt (rfl : kdX 30 = 5)) (eX5 (rfl : kdX 30 = 5)) rfl) rfl rfl hl.1 rfl (lv_room (Nat.le_of_ble_eq_true rfl)) dX8_run_8 ⟨Nat.le_of_ble_eq_true rfl, Nat.le_of_ble_eq_true rfl⟩) hS (fun _ _ h => h) (fun _ h => h) (fun r2 S1 t H locs ht _ h hB _ _ hS => ?_)
  have hP : VX dC dI cA P S1 H := by rw [← ht]; exact hB
  refine lv_istore_n (lv' := [(1, .int r2), (0, .ref (P 0))]) hx hb dX8_run_11 rfl hl (by decide) rfl (fun ls hl => ?_)
  refine lv_aload_n hx hb dX8_run_12 rfl (lv_at hl 1 rfl) ?_
  refine g_get (v := .ref (P 27)) hx hb hts inG_X8 hown hK hP (kX_lt (rfl : kdX 0 = 8)) (eX8 (rfl : kdX 0 = 8)) rfl 2 (by decide) G_fl_X8_28 rfl rfl dX8_run_13 ?_
  refine va_callv (va_runV (As := []) (rest := []) ⟨hx, hb, hml, hown, hts⟩ (c_X7_clear l hI h) (cwV 0 hts gv_X8_206 rfl rfl rfl hv_X7_clear ⟨Nat.le_of_ble_eq_true rfl, Nat.le_of_ble_eq_true rfl⟩) (preV_X hKX hP hS (kX_lt (rfl : kdX 27 = 7)) (eX7 (rfl : kdX 27 = 7)) rfl) rfl rfl hl.1 rfl (lv_room (Nat.le_of_ble_eq_true rfl)) dX8_run_16 ⟨Nat.le_of_ble_eq_true rfl, Nat.le_of_ble_eq_true rfl⟩) hS (fun _ _ h => h) (fun _ h => h) (fun S3 t H locs ht _ h hB _ _ hS => ?_)
  have hP : VX dC dI cA P S3 H := by rw [← ht]; exact hB
  refine lv_iload_n hx hb dX8_run_19 rfl (lv_at hl 0 rfl) ?_
  refine lv_iconst (v := (-1)) hx hb dX8_run_20 (by decide) ?_
  refine lv_icmp_eq (tgt := 30) hx hb dX8_run_21 (by decide) (fun c4 => ?_) (fun c4 => ?_)
  · replace h := h.1 c4
    refine lv_iconst (v := 0) hx hb dX8_run_30 (by decide) ?_
    refine lv_istore_n (lv' := [(2, .int 0), (1, .int r2), (0, .ref (P 0))]) hx hb dX8_run_31 rfl hl (by decide) rfl (fun ls hl => ?_)
    obtain ⟨n10, h⟩ := h
    exact b_X8_run_32 C n10 _ _ _ _ _ h  hP hS (lv_sub hl [2, 0] rfl)
  · replace h := h.2 c4
    refine lv_sipush (v := (-1000)) hx hb dX8_run_24 (by decide) ?_
    refine lv_iload_n hx hb dX8_run_27 rfl (lv_at hl 0 rfl) ?_
    refine lv_isub hx hb dX8_run_28 ?_
    exact g_iret hx hb hr hlocks h hP hS dX8_run_29
set_option maxRecDepth 100000 in
set_option maxHeartbeats 4000000 in
theorem c_X8_run (l : Launch) {dC : Nat → ClassId} {dI : Nat → Nat → Nat} {cA : Nat → ClassId} {adK adV P : Nat → Nat} (hI : PInj 56 P)   {post : Int32 → St → Prop} {S : St} (h : w_X8_run  post S) : Met l yX8_run (wW yX8_run cX8_run 3 (some .int)) ({ frames := 8, cells := 0, slots := 0, locals := 180 } : Room) (va_Pc [.ref (P 0)] (PreX dC dI cA adK adV P S)) (va_Qi post (fun u t => VX dC dI cA P u t.heap) (PA 56 P)) 0 0 (PA 56 P) := by
  refine Met.ofW (cc := cX8_run) (maxL := 3) (ret := (some .int)) (by decide) rfl ?_
  intro p e s m args below meth c s₁ B hml hv
  obtain ⟨rfl, hP, hKX⟩ := hv
  have hts : ∀ w ∈ G, w.before [.ref (P 0)].toArray s = true := fun w hw => atoms_spec (ws := wW yX8_run cX8_run 3 (some .int)) B.pre w (List.mem_cons_of_mem _ hw)
  have C : CtxX dC dI cA adK adV P p s m [.ref (P 0)].toArray meth c cX8_run 3 (some .int) RX8 := ⟨hI, hKX, ⟨B.exec, B.bytes, hml, findClass_of_methodNamed B.named, hts⟩, B.returns, B.notSynchronized⟩
  have hS : va_S (PA 56 P) s.heap s.heap [] := va_S.rf
  have hl := lv_entry ([.ref (P 0)]) (n := 3) (Nat.le_of_ble_eq_true rfl)
  rw [lg_entry_eq]
  generalize (lg_sl ([.ref (P 0)]) ++ List.replicate (3 - (lg_sl ([.ref (P 0)])).length) Slot.unset).toArray = ls at hl ⊢
  have hl : lv_has ls 3 [(0, .ref (P 0))] := hl
  exact e_X8_run C  _ _ _ _ h  hP hS hl
set_option maxRecDepth 100000 in
set_option maxHeartbeats 4000000 in
theorem e_X8_holderAt {p : Program} {l : Launch} {e : Env} {s : State} {m : MethodId} {args : Array Value} {below : List Frame} {meth : Method} {c : Code} {dC : Nat → ClassId} {dI : Nat → Nat → Nat} {cA : Nat → ClassId} {adK adV P : Nat → Nat} (C : CtxX dC dI cA adK adV P p s m args meth c cX8_holderAt 2 (some (.object "TurningFractions$Holder")) RX8) {post : Option Nat → St → Prop} : ∀ (v1 : Int32) (S : St) (H : Heap) (locs : List Loc) (ls : Array Slot), w_X8_holderAt v1 post S → VX dC dI cA P S H → va_S (PA 56 P) s.heap H locs → lv_has ls 2 [(0, .ref (P 0)), (1, .int v1)] → W p l e ({ frames := 0, cells := 0, slots := 0, locals := 0 } : Room) s m args below meth c H locs 0 0 (MQ below (va_Qq (fun r u => ∃ o : Option Nat, r = o.map P ∧ (∀ k, o = some k → kdX k = 2) ∧ post o u) (fun u t => VX dC dI cA P u t.heap) (PA 56 P)) args s 0 0 (PA 56 P)) (F0 m 0 ls []) := by
  have C := C
  obtain ⟨hI, hKX, ⟨hx, hb, hml, hown, hts⟩, hr, hlocks⟩ := id C
  have hK := hKX.1
  intro v1 S H locs ls h hP hS hl
  rw [w_X8_holderAt] at h
  refine lv_iload_n hx hb dX8_holderAt_0 rfl (lv_at hl 1 rfl) ?_
  refine lv_if_lt (tgt := 22) hx hb dX8_holderAt_1 (by decide) (fun c1 => ?_) (fun c1 => ?_)
  · replace h := h.1 c1
    refine lv_null hx hb dX8_holderAt_22 ?_
    exact g_aret (v := none) hx hb hr hlocks ⟨none, rfl, (fun _ e => by cases e), h⟩ hP hS dX8_holderAt_23
  · replace h := h.2 c1
    refine lv_iload_n hx hb dX8_holderAt_4 rfl (lv_at hl 1 rfl) ?_
    refine lv_aload_n hx hb dX8_holderAt_5 rfl (lv_at hl 0 rfl) ?_
    refine g_get (v := .ref (P 33)) hx hb hts inG_X8 hown hK hP (kX_lt (rfl : kdX 0 = 8)) (eX8 (rfl : kdX 0 = 8)) rfl 5 (by decide) G_fl_X8_48 rfl rfl dX8_holderAt_6 ?_
    refine g_alen hx hb hK hP (kX_lt (rfl : kdX 33 = 13)) 3 (eX13 (rfl : kdX 33 = 13)) rfl dX8_holderAt_9 ?_
    refine lv_icmp_ge (tgt := 22) hx hb dX8_holderAt_10 (by decide) (fun c2 => ?_) (fun c2 => ?_)
    · replace h := h.1 c2
      refine lv_null hx hb dX8_holderAt_22 ?_
      exact g_aret (v := none) hx hb hr hlocks ⟨none, rfl, (fun _ e => by cases e), h⟩ hP hS dX8_holderAt_23
    · replace h := h.2 c2
      refine lv_aload_n hx hb dX8_holderAt_13 rfl (lv_at hl 0 rfl) ?_
      refine g_get (v := .ref (P 33)) hx hb hts inG_X8 hown hK hP (kX_lt (rfl : kdX 0 = 8)) (eX8 (rfl : kdX 0 = 8)) rfl 5 (by decide) G_fl_X8_48 rfl rfl dX8_holderAt_14 ?_
      refine lv_iload_n hx hb dX8_holderAt_17 rfl (lv_at hl 1 rfl) ?_
      have hi3 := h.1
      replace h := h.2
      refine g_aldq hx hb hK hP (kX_lt (rfl : kdX 33 = 13)) 3 (eX13 (rfl : kdX 33 = 13)) rfl hi3 dX8_holderAt_18 ?_
      have hk4 := kd13_e (rfl : kdX 33 = 13) hi3
      refine lv_goto (tgt := 23) hx hb dX8_holderAt_19 (by decide) ?_
      exact g_aret (v := some _) hx hb hr hlocks ⟨some _, rfl, (fun _ e => by cases e; exact hk4), h⟩ hP hS dX8_holderAt_23
set_option maxRecDepth 100000 in
set_option maxHeartbeats 4000000 in
theorem c_X8_holderAt (l : Launch) {dC : Nat → ClassId} {dI : Nat → Nat → Nat} {cA : Nat → ClassId} {adK adV P : Nat → Nat} (hI : PInj 56 P) {v1 : Int32}  {post : Option Nat → St → Prop} {S : St} (h : w_X8_holderAt v1 post S) : Met l yX8_holderAt (wW yX8_holderAt cX8_holderAt 2 (some (.object "TurningFractions$Holder"))) ({ frames := 0, cells := 0, slots := 0, locals := 0 } : Room) (va_Pc [.ref (P 0), .int v1] (PreX dC dI cA adK adV P S)) (va_Qq (fun r u => ∃ o : Option Nat, r = o.map P ∧ (∀ k, o = some k → kdX k = 2) ∧ post o u) (fun u t => VX dC dI cA P u t.heap) (PA 56 P)) 0 0 (PA 56 P) := by
  refine Met.ofW (cc := cX8_holderAt) (maxL := 2) (ret := (some (.object "TurningFractions$Holder"))) (by decide) rfl ?_
  intro p e s m args below meth c s₁ B hml hv
  obtain ⟨rfl, hP, hKX⟩ := hv
  have hts : ∀ w ∈ G, w.before [.ref (P 0), .int v1].toArray s = true := fun w hw => atoms_spec (ws := wW yX8_holderAt cX8_holderAt 2 (some (.object "TurningFractions$Holder"))) B.pre w (List.mem_cons_of_mem _ hw)
  have C : CtxX dC dI cA adK adV P p s m [.ref (P 0), .int v1].toArray meth c cX8_holderAt 2 (some (.object "TurningFractions$Holder")) RX8 := ⟨hI, hKX, ⟨B.exec, B.bytes, hml, findClass_of_methodNamed B.named, hts⟩, B.returns, B.notSynchronized⟩
  have hS : va_S (PA 56 P) s.heap s.heap [] := va_S.rf
  have hl := lv_entry ([.ref (P 0), .int v1]) (n := 2) (Nat.le_of_ble_eq_true rfl)
  rw [lg_entry_eq]
  generalize (lg_sl ([.ref (P 0), .int v1]) ++ List.replicate (2 - (lg_sl ([.ref (P 0), .int v1])).length) Slot.unset).toArray = ls at hl ⊢
  have hl : lv_has ls 2 [(0, .ref (P 0)), (1, .int v1)] := hl
  exact e_X8_holderAt C _ _ _ _ _ h  hP hS hl
set_option maxRecDepth 100000 in
set_option maxHeartbeats 4000000 in
theorem e_X8_hold {p : Program} {l : Launch} {e : Env} {s : State} {m : MethodId} {args : Array Value} {below : List Frame} {meth : Method} {c : Code} {dC : Nat → ClassId} {dI : Nat → Nat → Nat} {cA : Nat → ClassId} {adK adV P : Nat → Nat} (C : CtxX dC dI cA adK adV P p s m args meth c cX8_hold 5 (some .int) RX8) {post : Int32 → St → Prop} : ∀ (v1 : Int32) (v2 : Int32) (S : St) (H : Heap) (locs : List Loc) (ls : Array Slot), w_X8_hold v1 v2 post S → VX dC dI cA P S H → va_S (PA 56 P) s.heap H locs → lv_has ls 5 [(0, .ref (P 0)), (1, .int v1), (2, .int v2)] → W p l e ({ frames := 2, cells := 0, slots := 0, locals := 42 } : Room) s m args below meth c H locs 0 0 (MQ below (va_Qi post (fun u t => VX dC dI cA P u t.heap) (PA 56 P)) args s 0 0 (PA 56 P)) (F0 m 0 ls []) := by
  have C := C
  obtain ⟨hI, hKX, ⟨hx, hb, hml, hown, hts⟩, hr, hlocks⟩ := id C
  have hK := hKX.1
  intro v1 v2 S H locs ls h hP hS hl
  rw [w_X8_hold] at h
  refine lv_aload_n hx hb dX8_hold_0 rfl (lv_at hl 0 rfl) ?_
  refine lv_iload_n hx hb dX8_hold_1 rfl (lv_at hl 1 rfl) ?_
  refine va_callq (va_runV (As := [.int _]) (rest := []) ⟨hx, hb, hml, hown, hts⟩ (c_X8_holderAt l hI h) (cwV 1 hts gv_X8_253 rfl rfl rfl hv_X8_holderAt ⟨Nat.le_of_ble_eq_true rfl, Nat.le_of_ble_eq_true rfl⟩) (preV_X hKX hP hS (kX_lt (rfl : kdX 0 = 8)) (eX8 (rfl : kdX 0 = 8)) rfl) rfl rfl hl.1 rfl (lv_room (Nat.le_of_ble_eq_true rfl)) dX8_hold_2 ⟨Nat.le_of_ble_eq_true rfl, Nat.le_of_ble_eq_true rfl⟩) hS (fun _ _ h => h) (fun _ h => h) (fun q S1 t H locs ht _ h hB _ _ hS => ?_)
  have hP : VX dC dI cA P S1 H := by rw [← ht]; exact hB
  obtain ⟨o2, rfl, hko, h⟩ := h
  rcases o2 with _ | k3
  · replace h := h.1 rfl
    refine lv_astore_nN (lv' := [(3, .null), (0, .ref (P 0)), (1, .int v1), (2, .int v2)]) hx hb dX8_hold_5 rfl hl (by decide) rfl (fun ls hl => ?_)
    refine lv_aload_n hx hb dX8_hold_6 rfl (lv_at hl 1 rfl) ?_
    refine g_get (v := .ref (P 1)) hx hb hts inG_X8 hown hK hP (kX_lt (rfl : kdX 0 = 8)) (eX8 (rfl : kdX 0 = 8)) rfl 0 (by decide) G_fl_X8_12 rfl rfl dX8_hold_7 ?_
    refine lv_iload_n hx hb dX8_hold_10 rfl (lv_at hl 3 rfl) ?_
    refine va_callq (va_runV (As := [.int _]) (rest := []) ⟨hx, hb, hml, hown, hts⟩ (c_X6_at l hI (rfl : kdX 1 = 6) h) (cwV 1 hts gv_X8_97 rfl rfl rfl hv_X6_at ⟨Nat.le_of_ble_eq_true rfl, Nat.le_of_ble_eq_true rfl⟩) (preV_X hKX hP hS (kX_lt (rfl : kdX 1 = 6)) (eX6 (rfl : kdX 1 = 6)) rfl) rfl rfl hl.1 rfl (lv_room (Nat.le_of_ble_eq_true rfl)) dX8_hold_11 ⟨Nat.le_of_ble_eq_true rfl, Nat.le_of_ble_eq_true rfl⟩) hS (fun _ _ h => h) (fun _ h => h) (fun q S5 t H locs ht _ h hB _ _ hS => ?_)
    have hP : VX dC dI cA P S5 H := by rw [← ht]; exact hB
    obtain ⟨o6, rfl, hko, h⟩ := h
    rcases o6 with _ | k7
    · replace h := h.1 rfl
      refine lv_astoreN (lv' := [(4, .null), (3, .null), (0, .ref (P 0)), (1, .int v1), (2, .int v2)]) hx hb dX8_hold_14 hl (by decide) rfl (fun ls hl => ?_)
      refine lv_aload_nN hx hb dX8_hold_16 rfl (lv_at hl 1 rfl) ?_
      refine lv_ifnullN (tgt := 25) hx hb dX8_hold_17 (by decide) ?_
      refine lv_iconst (v := (-1)) hx hb dX8_hold_25 (by decide) ?_
      exact g_iret hx hb hr hlocks h hP hS dX8_hold_26
    · have hk8 := hko k7 rfl
      replace h := h.2 k7 rfl
      refine lv_astore (lv' := [(4, .ref (P k7)), (3, .null), (0, .ref (P 0)), (1, .int v1), (2, .int v2)]) hx hb dX8_hold_14 hl (by decide) rfl (fun ls hl => ?_)
      refine lv_aload_nN hx hb dX8_hold_16 rfl (lv_at hl 1 rfl) ?_
      refine lv_ifnullN (tgt := 25) hx hb dX8_hold_17 (by decide) ?_
      refine lv_iconst (v := (-1)) hx hb dX8_hold_25 (by decide) ?_
      exact g_iret hx hb hr hlocks h hP hS dX8_hold_26
  · have hk4 := hko k3 rfl
    replace h := h.2 k3 rfl
    refine lv_astore_n (lv' := [(3, .ref (P k3)), (0, .ref (P 0)), (1, .int v1), (2, .int v2)]) hx hb dX8_hold_5 rfl hl (by decide) rfl (fun ls hl => ?_)
    refine lv_aload_n hx hb dX8_hold_6 rfl (lv_at hl 1 rfl) ?_
    refine g_get (v := .ref (P 1)) hx hb hts inG_X8 hown hK hP (kX_lt (rfl : kdX 0 = 8)) (eX8 (rfl : kdX 0 = 8)) rfl 0 (by decide) G_fl_X8_12 rfl rfl dX8_hold_7 ?_
    refine lv_iload_n hx hb dX8_hold_10 rfl (lv_at hl 3 rfl) ?_
    refine va_callq (va_runV (As := [.int _]) (rest := []) ⟨hx, hb, hml, hown, hts⟩ (c_X6_at l hI (rfl : kdX 1 = 6) h) (cwV 1 hts gv_X8_97 rfl rfl rfl hv_X6_at ⟨Nat.le_of_ble_eq_true rfl, Nat.le_of_ble_eq_true rfl⟩) (preV_X hKX hP hS (kX_lt (rfl : kdX 1 = 6)) (eX6 (rfl : kdX 1 = 6)) rfl) rfl rfl hl.1 rfl (lv_room (Nat.le_of_ble_eq_true rfl)) dX8_hold_11 ⟨Nat.le_of_ble_eq_true rfl, Nat.le_of_ble_eq_true rfl⟩) hS (fun _ _ h => h) (fun _ h => h) (fun q S9 t H locs ht _ h hB _ _ hS => ?_)
    have hP : VX dC dI cA P S9 H := by rw [← ht]; exact hB
    obtain ⟨o10, rfl, hko, h⟩ := h
    rcases o10 with _ | k11
    · replace h := h.1 rfl
      refine lv_astoreN (lv' := [(4, .null), (3, .ref (P k3)), (0, .ref (P 0)), (1, .int v1), (2, .int v2)]) hx hb dX8_hold_14 hl (by decide) rfl (fun ls hl => ?_)
      refine lv_aload_n hx hb dX8_hold_16 rfl (lv_at hl 1 rfl) ?_
      refine lv_ifnull hx hb dX8_hold_17 ?_
      refine lv_aloadN hx hb dX8_hold_20 (lv_at hl 0 rfl) ?_
      refine lv_ifnonnullN hx hb dX8_hold_22 ?_
      refine lv_iconst (v := (-1)) hx hb dX8_hold_25 (by decide) ?_
      exact g_iret hx hb hr hlocks h hP hS dX8_hold_26
    · have hk12 := hko k11 rfl
      replace h := h.2 k11 rfl
      refine lv_astore (lv' := [(4, .ref (P k11)), (3, .ref (P k3)), (0, .ref (P 0)), (1, .int v1), (2, .int v2)]) hx hb dX8_hold_14 hl (by decide) rfl (fun ls hl => ?_)
      refine lv_aload_n hx hb dX8_hold_16 rfl (lv_at hl 1 rfl) ?_
      refine lv_ifnull hx hb dX8_hold_17 ?_
      refine lv_aload hx hb dX8_hold_20 (lv_at hl 0 rfl) ?_
      refine lv_ifnonnull (tgt := 27) hx hb dX8_hold_22 (by decide) ?_
      refine lv_aload_n hx hb dX8_hold_27 rfl (lv_at hl 1 rfl) ?_
      refine lv_aload hx hb dX8_hold_28 (lv_at hl 0 rfl) ?_
      refine va_callv (va_runV (As := [.ref _]) (rest := []) ⟨hx, hb, hml, hown, hts⟩ (c_X2_holdFraction l hI hk4 hk12 h) (cwV 1 hts gv_X8_257 rfl rfl rfl hv_X2_holdFraction ⟨Nat.le_of_ble_eq_true rfl, Nat.le_of_ble_eq_true rfl⟩) (preV_X hKX hP hS (kX_lt hk4) (eX2 hk4) rfl) rfl rfl hl.1 rfl (lv_room (Nat.le_of_ble_eq_true rfl)) dX8_hold_30 ⟨Nat.le_of_ble_eq_true rfl, Nat.le_of_ble_eq_true rfl⟩) hS (fun _ _ h => h) (fun _ h => h) (fun S13 t H locs ht _ h hB _ _ hS => ?_)
      have hP : VX dC dI cA P S13 H := by rw [← ht]; exact hB
      refine lv_aload hx hb dX8_hold_33 (lv_at hl 0 rfl) ?_
      refine va_calli (va_runV (As := []) (rest := []) ⟨hx, hb, hml, hown, hts⟩ (c_X1_kind l hI hk12 h) (cwV 0 hts gv_X8_136 rfl rfl rfl hv_X1_kind ⟨Nat.le_of_ble_eq_true rfl, Nat.le_of_ble_eq_true rfl⟩) (preV_X hKX hP hS (kX_lt hk12) (eX1 hk12) rfl) rfl rfl hl.1 rfl (lv_room (Nat.le_of_ble_eq_true rfl)) dX8_hold_35 ⟨Nat.le_of_ble_eq_true rfl, Nat.le_of_ble_eq_true rfl⟩) hS (fun _ _ h => h) (fun _ h => h) (fun r15 S14 t H locs ht _ h hB _ _ hS => ?_)
      have hP : VX dC dI cA P S14 H := by rw [← ht]; exact hB
      exact g_iret hx hb hr hlocks h hP hS dX8_hold_38
set_option maxRecDepth 100000 in
set_option maxHeartbeats 4000000 in
theorem c_X8_hold (l : Launch) {dC : Nat → ClassId} {dI : Nat → Nat → Nat} {cA : Nat → ClassId} {adK adV P : Nat → Nat} (hI : PInj 56 P) {v1 : Int32} {v2 : Int32}  {post : Int32 → St → Prop} {S : St} (h : w_X8_hold v1 v2 post S) : Met l yX8_hold (wW yX8_hold cX8_hold 5 (some .int)) ({ frames := 2, cells := 0, slots := 0, locals := 42 } : Room) (va_Pc [.ref (P 0), .int v1, .int v2] (PreX dC dI cA adK adV P S)) (va_Qi post (fun u t => VX dC dI cA P u t.heap) (PA 56 P)) 0 0 (PA 56 P) := by
  refine Met.ofW (cc := cX8_hold) (maxL := 5) (ret := (some .int)) (by decide) rfl ?_
  intro p e s m args below meth c s₁ B hml hv
  obtain ⟨rfl, hP, hKX⟩ := hv
  have hts : ∀ w ∈ G, w.before [.ref (P 0), .int v1, .int v2].toArray s = true := fun w hw => atoms_spec (ws := wW yX8_hold cX8_hold 5 (some .int)) B.pre w (List.mem_cons_of_mem _ hw)
  have C : CtxX dC dI cA adK adV P p s m [.ref (P 0), .int v1, .int v2].toArray meth c cX8_hold 5 (some .int) RX8 := ⟨hI, hKX, ⟨B.exec, B.bytes, hml, findClass_of_methodNamed B.named, hts⟩, B.returns, B.notSynchronized⟩
  have hS : va_S (PA 56 P) s.heap s.heap [] := va_S.rf
  have hl := lv_entry ([.ref (P 0), .int v1, .int v2]) (n := 5) (Nat.le_of_ble_eq_true rfl)
  rw [lg_entry_eq]
  generalize (lg_sl ([.ref (P 0), .int v1, .int v2]) ++ List.replicate (5 - (lg_sl ([.ref (P 0), .int v1, .int v2])).length) Slot.unset).toArray = ls at hl ⊢
  have hl : lv_has ls 5 [(0, .ref (P 0)), (1, .int v1), (2, .int v2)] := hl
  exact e_X8_hold C _ _ _ _ _ _ h  hP hS hl
set_option maxRecDepth 100000 in
set_option maxHeartbeats 4000000 in
theorem e_X8_lose {p : Program} {l : Launch} {e : Env} {s : State} {m : MethodId} {args : Array Value} {below : List Frame} {meth : Method} {c : Code} {dC : Nat → ClassId} {dI : Nat → Nat → Nat} {cA : Nat → ClassId} {adK adV P : Nat → Nat} (C : CtxX dC dI cA adK adV P p s m args meth c cX8_lose 4 (some .int) RX8) {post : Int32 → St → Prop} : ∀ (v1 : Int32) (S : St) (H : Heap) (locs : List Loc) (ls : Array Slot), w_X8_lose v1 post S → VX dC dI cA P S H → va_S (PA 56 P) s.heap H locs → lv_has ls 4 [(0, .ref (P 0)), (1, .int v1)] → W p l e ({ frames := 1, cells := 0, slots := 0, locals := 21 } : Room) s m args below meth c H locs 0 0 (MQ below (va_Qi post (fun u t => VX dC dI cA P u t.heap) (PA 56 P)) args s 0 0 (PA 56 P)) (F0 m 0 ls []) := by
  have C := C
  obtain ⟨hI, hKX, ⟨hx, hb, hml, hown, hts⟩, hr, hlocks⟩ := id C
  have hK := hKX.1
  intro v1 S H locs ls h hP hS hl
  rw [w_X8_lose] at h
  refine lv_aload_n hx hb dX8_lose_0 rfl (lv_at hl 0 rfl) ?_
  refine lv_iload_n hx hb dX8_lose_1 rfl (lv_at hl 1 rfl) ?_
  refine va_callq (va_runV (As := [.int _]) (rest := []) ⟨hx, hb, hml, hown, hts⟩ (c_X8_holderAt l hI h) (cwV 1 hts gv_X8_253 rfl rfl rfl hv_X8_holderAt ⟨Nat.le_of_ble_eq_true rfl, Nat.le_of_ble_eq_true rfl⟩) (preV_X hKX hP hS (kX_lt (rfl : kdX 0 = 8)) (eX8 (rfl : kdX 0 = 8)) rfl) rfl rfl hl.1 rfl (lv_room (Nat.le_of_ble_eq_true rfl)) dX8_lose_2 ⟨Nat.le_of_ble_eq_true rfl, Nat.le_of_ble_eq_true rfl⟩) hS (fun _ _ h => h) (fun _ h => h) (fun q S1 t H locs ht _ h hB _ _ hS => ?_)
  have hP : VX dC dI cA P S1 H := by rw [← ht]; exact hB
  obtain ⟨o2, rfl, hko, h⟩ := h
  rcases o2 with _ | k3
  · replace h := h.1 rfl
    refine lv_astore_nN (lv' := [(2, .null), (0, .ref (P 0)), (1, .int v1)]) hx hb dX8_lose_5 rfl hl (by decide) rfl (fun ls hl => ?_)
    refine lv_aload_nN hx hb dX8_lose_6 rfl (lv_at hl 0 rfl) ?_
    refine lv_ifnonnullN hx hb dX8_lose_7 ?_
    refine lv_iconst (v := (-1)) hx hb dX8_lose_10 (by decide) ?_
    exact g_iret hx hb hr hlocks h hP hS dX8_lose_11
  · have hk4 := hko k3 rfl
    replace h := h.2 k3 rfl
    refine lv_astore_n (lv' := [(2, .ref (P k3)), (0, .ref (P 0)), (1, .int v1)]) hx hb dX8_lose_5 rfl hl (by decide) rfl (fun ls hl => ?_)
    refine lv_aload_n hx hb dX8_lose_6 rfl (lv_at hl 0 rfl) ?_
    refine lv_ifnonnull (tgt := 12) hx hb dX8_lose_7 (by decide) ?_
    refine lv_aload_n hx hb dX8_lose_12 rfl (lv_at hl 0 rfl) ?_
    refine g_get (v := .int (S1.1 k3 0)) hx hb hts inG_X2 hown hK hP (kX_lt hk4) (eX2 hk4) rfl 0 (by decide) G_fl_X8_260 rfl rfl dX8_lose_13 ?_
    refine lv_topi (fun x5 ex5 => ?_)
    replace h := h x5 ex5
    refine lv_istore_n (lv' := [(3, .int x5), (2, .ref (P k3)), (0, .ref (P 0)), (1, .int v1)]) hx hb dX8_lose_16 rfl hl (by decide) rfl (fun ls hl => ?_)
    refine lv_aload_n hx hb dX8_lose_17 rfl (lv_at hl 1 rfl) ?_
    refine lv_iconst (v := 0) hx hb dX8_lose_18 (by decide) ?_
    refine g_putI hx hb hts inG_X2 tyX2 tyX2_ok nmX2 hown hK hI hP hS (kX_lt hk4) (eX2 hk4) rfl 0 (by decide) G_fl_X8_260 rfl rfl (ty := .int) (by decide +kernel) rfl rfl (Nat.le_of_ble_eq_true rfl) rfl h dX8_lose_19 (fun S6 H locs h hP hS => ?_)
    refine lv_iload_n hx hb dX8_lose_22 rfl (lv_at hl 0 rfl) ?_
    exact g_iret hx hb hr hlocks h hP hS dX8_lose_23
set_option maxRecDepth 100000 in
set_option maxHeartbeats 4000000 in
theorem c_X8_lose (l : Launch) {dC : Nat → ClassId} {dI : Nat → Nat → Nat} {cA : Nat → ClassId} {adK adV P : Nat → Nat} (hI : PInj 56 P) {v1 : Int32}  {post : Int32 → St → Prop} {S : St} (h : w_X8_lose v1 post S) : Met l yX8_lose (wW yX8_lose cX8_lose 4 (some .int)) ({ frames := 1, cells := 0, slots := 0, locals := 21 } : Room) (va_Pc [.ref (P 0), .int v1] (PreX dC dI cA adK adV P S)) (va_Qi post (fun u t => VX dC dI cA P u t.heap) (PA 56 P)) 0 0 (PA 56 P) := by
  refine Met.ofW (cc := cX8_lose) (maxL := 4) (ret := (some .int)) (by decide) rfl ?_
  intro p e s m args below meth c s₁ B hml hv
  obtain ⟨rfl, hP, hKX⟩ := hv
  have hts : ∀ w ∈ G, w.before [.ref (P 0), .int v1].toArray s = true := fun w hw => atoms_spec (ws := wW yX8_lose cX8_lose 4 (some .int)) B.pre w (List.mem_cons_of_mem _ hw)
  have C : CtxX dC dI cA adK adV P p s m [.ref (P 0), .int v1].toArray meth c cX8_lose 4 (some .int) RX8 := ⟨hI, hKX, ⟨B.exec, B.bytes, hml, findClass_of_methodNamed B.named, hts⟩, B.returns, B.notSynchronized⟩
  have hS : va_S (PA 56 P) s.heap s.heap [] := va_S.rf
  have hl := lv_entry ([.ref (P 0), .int v1]) (n := 4) (Nat.le_of_ble_eq_true rfl)
  rw [lg_entry_eq]
  generalize (lg_sl ([.ref (P 0), .int v1]) ++ List.replicate (4 - (lg_sl ([.ref (P 0), .int v1])).length) Slot.unset).toArray = ls at hl ⊢
  have hl : lv_has ls 4 [(0, .ref (P 0)), (1, .int v1)] := hl
  exact e_X8_lose C _ _ _ _ _ h  hP hS hl
set_option maxRecDepth 100000 in
set_option maxHeartbeats 4000000 in
theorem e_X8_taken {p : Program} {l : Launch} {e : Env} {s : State} {m : MethodId} {args : Array Value} {below : List Frame} {meth : Method} {c : Code} {dC : Nat → ClassId} {dI : Nat → Nat → Nat} {cA : Nat → ClassId} {adK adV P : Nat → Nat} (C : CtxX dC dI cA adK adV P p s m args meth c cX8_taken 7 (some .int) RX8) {post : Int32 → St → Prop} : ∀ (v1 : Int32) (v2 : Int32) (S : St) (H : Heap) (locs : List Loc) (ls : Array Slot), w_X8_taken v1 v2 post S → VX dC dI cA P S H → va_S (PA 56 P) s.heap H locs → lv_has ls 7 [(0, .ref (P 0)), (1, .int v1), (2, .int v2)] → W p l e ({ frames := 2, cells := 0, slots := 0, locals := 40 } : Room) s m args below meth c H locs 0 0 (MQ below (va_Qi post (fun u t => VX dC dI cA P u t.heap) (PA 56 P)) args s 0 0 (PA 56 P)) (F0 m 0 ls []) := by
  have C := C
  obtain ⟨hI, hKX, ⟨hx, hb, hml, hown, hts⟩, hr, hlocks⟩ := id C
  have hK := hKX.1
  intro v1 v2 S H locs ls h hP hS hl
  rw [w_X8_taken] at h
  refine lv_aload_n hx hb dX8_taken_0 rfl (lv_at hl 0 rfl) ?_
  refine lv_iload_n hx hb dX8_taken_1 rfl (lv_at hl 1 rfl) ?_
  refine va_callq (va_runV (As := [.int _]) (rest := []) ⟨hx, hb, hml, hown, hts⟩ (c_X8_holderAt l hI h) (cwV 1 hts gv_X8_253 rfl rfl rfl hv_X8_holderAt ⟨Nat.le_of_ble_eq_true rfl, Nat.le_of_ble_eq_true rfl⟩) (preV_X hKX hP hS (kX_lt (rfl : kdX 0 = 8)) (eX8 (rfl : kdX 0 = 8)) rfl) rfl rfl hl.1 rfl (lv_room (Nat.le_of_ble_eq_true rfl)) dX8_taken_2 ⟨Nat.le_of_ble_eq_true rfl, Nat.le_of_ble_eq_true rfl⟩) hS (fun _ _ h => h) (fun _ h => h) (fun q S1 t H locs ht _ h hB _ _ hS => ?_)
  have hP : VX dC dI cA P S1 H := by rw [← ht]; exact hB
  obtain ⟨o2, rfl, hko, h⟩ := h
  rcases o2 with _ | k3
  · replace h := h.1 rfl
    refine lv_astore_nN (lv' := [(3, .null), (0, .ref (P 0)), (1, .int v1), (2, .int v2)]) hx hb dX8_taken_5 rfl hl (by decide) rfl (fun ls hl => ?_)
    refine lv_aload_nN hx hb dX8_taken_6 rfl (lv_at hl 0 rfl) ?_
    refine lv_ifnullN (tgt := 19) hx hb dX8_taken_7 (by decide) ?_
    refine lv_iconst (v := (-1)) hx hb dX8_taken_19 (by decide) ?_
    exact g_iret hx hb hr hlocks h hP hS dX8_taken_20
  · have hk4 := hko k3 rfl
    replace h := h.2 k3 rfl
    refine lv_astore_n (lv' := [(3, .ref (P k3)), (0, .ref (P 0)), (1, .int v1), (2, .int v2)]) hx hb dX8_taken_5 rfl hl (by decide) rfl (fun ls hl => ?_)
    refine lv_aload_n hx hb dX8_taken_6 rfl (lv_at hl 0 rfl) ?_
    refine lv_ifnull hx hb dX8_taken_7 ?_
    refine lv_iload_n hx hb dX8_taken_10 rfl (lv_at hl 3 rfl) ?_
    refine lv_iconst (v := 0) hx hb dX8_taken_11 (by decide) ?_
    refine lv_iconst (v := 3) hx hb dX8_taken_12 (by decide) ?_
    refine va_calli (va_runS (As := [.int _, .int _, .int _]) (rest := []) ⟨hx, hb, hml, hown, hts⟩ (c_X8_isWithin l hI h) (va_cwS 3 hts gs_X8_81 rfl rfl rfl hd_X8_isWithin ⟨Nat.le_of_ble_eq_true rfl, Nat.le_of_ble_eq_true rfl⟩) (preS_X hKX hP hS) rfl rfl hl.1 rfl (lv_room (Nat.le_of_ble_eq_true rfl)) dX8_taken_13 ⟨Nat.le_of_ble_eq_true rfl, Nat.le_of_ble_eq_true rfl⟩) hS (fun _ _ h => h) (fun _ h => h) (fun r6 S5 t H locs ht _ h hB _ _ hS => ?_)
    have hP : VX dC dI cA P S5 H := by rw [← ht]; exact hB
    refine lv_if_ne (tgt := 21) hx hb dX8_taken_16 (by decide) (fun c7 => ?_) (fun c7 => ?_)
    · replace h := h.2 c7
      refine lv_aload_n hx hb dX8_taken_21 rfl (lv_at hl 0 rfl) ?_
      refine lv_iconst (v := 1) hx hb dX8_taken_22 (by decide) ?_
      refine va_calli (va_runV (As := [.int _]) (rest := []) ⟨hx, hb, hml, hown, hts⟩ (c_X2_refusalAs l hI hk4 h) (cwV 1 hts gv_X8_263 rfl rfl rfl hv_X2_refusalAs ⟨Nat.le_of_ble_eq_true rfl, Nat.le_of_ble_eq_true rfl⟩) (preV_X hKX hP hS (kX_lt hk4) (eX2 hk4) rfl) rfl rfl hl.1 rfl (lv_room (Nat.le_of_ble_eq_true rfl)) dX8_taken_23 ⟨Nat.le_of_ble_eq_true rfl, Nat.le_of_ble_eq_true rfl⟩) hS (fun _ _ h => h) (fun _ h => h) (fun r9 S8 t H locs ht _ h hB _ _ hS => ?_)
      have hP : VX dC dI cA P S8 H := by rw [← ht]; exact hB
      refine lv_istore (lv' := [(4, .int r9), (3, .ref (P k3)), (0, .ref (P 0)), (1, .int v1), (2, .int v2)]) hx hb dX8_taken_26 hl (by decide) rfl (fun ls hl => ?_)
      refine lv_iload hx hb dX8_taken_28 (lv_at hl 0 rfl) ?_
      refine lv_if_eq (tgt := 36) hx hb dX8_taken_30 (by decide) (fun c10 => ?_) (fun c10 => ?_)
      · replace h := h.1 c10
        refine lv_aload_n hx hb dX8_taken_36 rfl (lv_at hl 1 rfl) ?_
        refine g_get (v := .ref (P (k3 + 1))) hx hb hts inG_X2 hown hK hP (kX_lt hk4) (eX2 hk4) rfl 1 (by decide) G_fl_X8_266 rfl rfl dX8_taken_37 ?_
        refine lv_astore (lv' := [(5, .ref (P (k3 + 1))), (4, .int r9), (3, .ref (P k3)), (0, .ref (P 0)), (1, .int v1), (2, .int v2)]) hx hb dX8_taken_40 hl (by decide) rfl (fun ls hl => ?_)
        refine lv_iload_n hx hb dX8_taken_42 rfl (lv_at hl 5 rfl) ?_
        refine lv_if_ne (tgt := 52) hx hb dX8_taken_43 (by decide) (fun c11 => ?_) (fun c11 => ?_)
        · replace h := h.2 c11
          refine lv_iload_n hx hb dX8_taken_52 rfl (lv_at hl 5 rfl) ?_
          refine lv_iconst (v := 1) hx hb dX8_taken_53 (by decide) ?_
          refine lv_isub hx hb dX8_taken_54 ?_
          refine lv_topi (fun x12 ex12 => ?_)
          replace h := h x12 ex12
          refine lv_istore (lv' := [(6, .int x12), (5, .ref (P (k3 + 1))), (4, .int r9), (3, .ref (P k3)), (0, .ref (P 0)), (1, .int v1), (2, .int v2)]) hx hb dX8_taken_55 hl (by decide) rfl (fun ls hl => ?_)
          refine lv_aload hx hb dX8_taken_57 (lv_at hl 1 rfl) ?_
          refine va_calli (va_runV (As := []) (rest := []) ⟨hx, hb, hml, hown, hts⟩ (c_X1_kind l hI (kd2_1 hk4) h) (cwV 0 hts gv_X8_136 rfl rfl rfl hv_X1_kind ⟨Nat.le_of_ble_eq_true rfl, Nat.le_of_ble_eq_true rfl⟩) (preV_X hKX hP hS (kX_lt (kd2_1 hk4)) (eX1 (kd2_1 hk4)) rfl) rfl rfl hl.1 rfl (lv_room (Nat.le_of_ble_eq_true rfl)) dX8_taken_59 ⟨Nat.le_of_ble_eq_true rfl, Nat.le_of_ble_eq_true rfl⟩) hS (fun _ _ h => h) (fun _ h => h) (fun r14 S13 t H locs ht _ h hB _ _ hS => ?_)
          have hP : VX dC dI cA P S13 H := by rw [← ht]; exact hB
          refine lv_iload hx hb dX8_taken_62 (lv_at hl 0 rfl) ?_
          refine lv_icmp_eq (tgt := 70) hx hb dX8_taken_64 (by decide) (fun c15 => ?_) (fun c15 => ?_)
          · replace h := h.1 c15
            refine lv_iload hx hb dX8_taken_70 (lv_at hl 0 rfl) ?_
            refine lv_iconst (v := 1) hx hb dX8_taken_72 (by decide) ?_
            refine lv_icmp_ne (tgt := 84) hx hb dX8_taken_73 (by decide) (fun c16 => ?_) (fun c16 => ?_)
            · replace h := h.2 c16
              refine lv_aload hx hb dX8_taken_84 (lv_at hl 1 rfl) ?_
              refine g_get (v := .int (S13.1 (k3 + 1) 3)) hx hb hts inG_X1 hown hK hP (kX_lt (kd2_1 hk4)) (eX1 (kd2_1 hk4)) rfl 3 (by decide) G_fl_X8_130 rfl rfl dX8_taken_86 ?_
              exact g_iret hx hb hr hlocks h hP hS dX8_taken_89
            · replace h := h.1 c16
              refine lv_aload hx hb dX8_taken_76 (lv_at hl 1 rfl) ?_
              refine g_get (v := .int (S13.1 (k3 + 1) 4)) hx hb hts inG_X1 hown hK hP (kX_lt (kd2_1 hk4)) (eX1 (kd2_1 hk4)) rfl 4 (by decide) G_fl_X8_133 rfl rfl dX8_taken_78 ?_
              refine lv_goto (tgt := 89) hx hb dX8_taken_81 (by decide) ?_
              exact g_iret hx hb hr hlocks h hP hS dX8_taken_89
          · replace h := h.2 c15
            refine lv_bipush (v := (-12)) hx hb dX8_taken_67 (by decide) ?_
            exact g_iret hx hb hr hlocks h hP hS dX8_taken_69
        · replace h := h.1 c11
          refine lv_aload hx hb dX8_taken_46 (lv_at hl 0 rfl) ?_
          refine g_get (v := .int (S8.1 (k3 + 1) 0)) hx hb hts inG_X1 hown hK hP (kX_lt (kd2_1 hk4)) (eX1 (kd2_1 hk4)) rfl 0 (by decide) G_fl_X8_101 rfl rfl dX8_taken_48 ?_
          exact g_iret hx hb hr hlocks h hP hS dX8_taken_51
      · replace h := h.2 c10
        refine lv_iload hx hb dX8_taken_33 (lv_at hl 0 rfl) ?_
        exact g_iret hx hb hr hlocks h hP hS dX8_taken_35
    · replace h := h.1 c7
      refine lv_iconst (v := (-1)) hx hb dX8_taken_19 (by decide) ?_
      exact g_iret hx hb hr hlocks h hP hS dX8_taken_20
set_option maxRecDepth 100000 in
set_option maxHeartbeats 4000000 in
theorem c_X8_taken (l : Launch) {dC : Nat → ClassId} {dI : Nat → Nat → Nat} {cA : Nat → ClassId} {adK adV P : Nat → Nat} (hI : PInj 56 P) {v1 : Int32} {v2 : Int32}  {post : Int32 → St → Prop} {S : St} (h : w_X8_taken v1 v2 post S) : Met l yX8_taken (wW yX8_taken cX8_taken 7 (some .int)) ({ frames := 2, cells := 0, slots := 0, locals := 40 } : Room) (va_Pc [.ref (P 0), .int v1, .int v2] (PreX dC dI cA adK adV P S)) (va_Qi post (fun u t => VX dC dI cA P u t.heap) (PA 56 P)) 0 0 (PA 56 P) := by
  refine Met.ofW (cc := cX8_taken) (maxL := 7) (ret := (some .int)) (by decide) rfl ?_
  intro p e s m args below meth c s₁ B hml hv
  obtain ⟨rfl, hP, hKX⟩ := hv
  have hts : ∀ w ∈ G, w.before [.ref (P 0), .int v1, .int v2].toArray s = true := fun w hw => atoms_spec (ws := wW yX8_taken cX8_taken 7 (some .int)) B.pre w (List.mem_cons_of_mem _ hw)
  have C : CtxX dC dI cA adK adV P p s m [.ref (P 0), .int v1, .int v2].toArray meth c cX8_taken 7 (some .int) RX8 := ⟨hI, hKX, ⟨B.exec, B.bytes, hml, findClass_of_methodNamed B.named, hts⟩, B.returns, B.notSynchronized⟩
  have hS : va_S (PA 56 P) s.heap s.heap [] := va_S.rf
  have hl := lv_entry ([.ref (P 0), .int v1, .int v2]) (n := 7) (Nat.le_of_ble_eq_true rfl)
  rw [lg_entry_eq]
  generalize (lg_sl ([.ref (P 0), .int v1, .int v2]) ++ List.replicate (7 - (lg_sl ([.ref (P 0), .int v1, .int v2])).length) Slot.unset).toArray = ls at hl ⊢
  have hl : lv_has ls 7 [(0, .ref (P 0)), (1, .int v1), (2, .int v2)] := hl
  exact e_X8_taken C _ _ _ _ _ _ h  hP hS hl
set_option maxRecDepth 100000 in
set_option maxHeartbeats 4000000 in
theorem e_X8_was {p : Program} {l : Launch} {e : Env} {s : State} {m : MethodId} {args : Array Value} {below : List Frame} {meth : Method} {c : Code} {dC : Nat → ClassId} {dI : Nat → Nat → Nat} {cA : Nat → ClassId} {adK adV P : Nat → Nat} (C : CtxX dC dI cA adK adV P p s m args meth c cX8_was 5 (some .int) RX8) {post : Int32 → St → Prop} : ∀ (v1 : Int32) (v2 : Int32) (S : St) (H : Heap) (locs : List Loc) (ls : Array Slot), w_X8_was v1 v2 post S → VX dC dI cA P S H → va_S (PA 56 P) s.heap H locs → lv_has ls 5 [(0, .ref (P 0)), (1, .int v1), (2, .int v2)] → W p l e ({ frames := 2, cells := 0, slots := 0, locals := 45 } : Room) s m args below meth c H locs 0 0 (MQ below (va_Qi post (fun u t => VX dC dI cA P u t.heap) (PA 56 P)) args s 0 0 (PA 56 P)) (F0 m 0 ls []) := by
  have C := C
  obtain ⟨hI, hKX, ⟨hx, hb, hml, hown, hts⟩, hr, hlocks⟩ := id C
  have hK := hKX.1
  intro v1 v2 S H locs ls h hP hS hl
  rw [w_X8_was] at h
  refine lv_aload_n hx hb dX8_was_0 rfl (lv_at hl 0 rfl) ?_
  refine lv_iload_n hx hb dX8_was_1 rfl (lv_at hl 1 rfl) ?_
  refine va_callq (va_runV (As := [.int _]) (rest := []) ⟨hx, hb, hml, hown, hts⟩ (c_X8_holderAt l hI h) (cwV 1 hts gv_X8_253 rfl rfl rfl hv_X8_holderAt ⟨Nat.le_of_ble_eq_true rfl, Nat.le_of_ble_eq_true rfl⟩) (preV_X hKX hP hS (kX_lt (rfl : kdX 0 = 8)) (eX8 (rfl : kdX 0 = 8)) rfl) rfl rfl hl.1 rfl (lv_room (Nat.le_of_ble_eq_true rfl)) dX8_was_2 ⟨Nat.le_of_ble_eq_true rfl, Nat.le_of_ble_eq_true rfl⟩) hS (fun _ _ h => h) (fun _ h => h) (fun q S1 t H locs ht _ h hB _ _ hS => ?_)
  have hP : VX dC dI cA P S1 H := by rw [← ht]; exact hB
  obtain ⟨o2, rfl, hko, h⟩ := h
  rcases o2 with _ | k3
  · replace h := h.1 rfl
    refine lv_astore_nN (lv' := [(3, .null), (0, .ref (P 0)), (1, .int v1), (2, .int v2)]) hx hb dX8_was_5 rfl hl (by decide) rfl (fun ls hl => ?_)
    refine lv_aload_nN hx hb dX8_was_6 rfl (lv_at hl 0 rfl) ?_
    refine lv_ifnullN (tgt := 21) hx hb dX8_was_7 (by decide) ?_
    refine lv_iconst (v := (-1)) hx hb dX8_was_21 (by decide) ?_
    exact g_iret hx hb hr hlocks h hP hS dX8_was_22
  · have hk4 := hko k3 rfl
    replace h := h.2 k3 rfl
    refine lv_astore_n (lv' := [(3, .ref (P k3)), (0, .ref (P 0)), (1, .int v1), (2, .int v2)]) hx hb dX8_was_5 rfl hl (by decide) rfl (fun ls hl => ?_)
    refine lv_aload_n hx hb dX8_was_6 rfl (lv_at hl 0 rfl) ?_
    refine lv_ifnull hx hb dX8_was_7 ?_
    refine lv_iload_n hx hb dX8_was_10 rfl (lv_at hl 3 rfl) ?_
    refine lv_iconst (v := 0) hx hb dX8_was_11 (by decide) ?_
    refine lv_sipush (v := 9999) hx hb dX8_was_12 (by decide) ?_
    refine va_calli (va_runS (As := [.int _, .int _, .int _]) (rest := []) ⟨hx, hb, hml, hown, hts⟩ (c_X8_isWithin l hI h) (va_cwS 3 hts gs_X8_81 rfl rfl rfl hd_X8_isWithin ⟨Nat.le_of_ble_eq_true rfl, Nat.le_of_ble_eq_true rfl⟩) (preS_X hKX hP hS) rfl rfl hl.1 rfl (lv_room (Nat.le_of_ble_eq_true rfl)) dX8_was_15 ⟨Nat.le_of_ble_eq_true rfl, Nat.le_of_ble_eq_true rfl⟩) hS (fun _ _ h => h) (fun _ h => h) (fun r6 S5 t H locs ht _ h hB _ _ hS => ?_)
    have hP : VX dC dI cA P S5 H := by rw [← ht]; exact hB
    refine lv_if_ne (tgt := 23) hx hb dX8_was_18 (by decide) (fun c7 => ?_) (fun c7 => ?_)
    · replace h := h.2 c7
      refine lv_aload_n hx hb dX8_was_23 rfl (lv_at hl 0 rfl) ?_
      refine lv_iconst (v := 1) hx hb dX8_was_24 (by decide) ?_
      refine va_calli (va_runV (As := [.int _]) (rest := []) ⟨hx, hb, hml, hown, hts⟩ (c_X2_refusalAs l hI hk4 h) (cwV 1 hts gv_X8_263 rfl rfl rfl hv_X2_refusalAs ⟨Nat.le_of_ble_eq_true rfl, Nat.le_of_ble_eq_true rfl⟩) (preV_X hKX hP hS (kX_lt hk4) (eX2 hk4) rfl) rfl rfl hl.1 rfl (lv_room (Nat.le_of_ble_eq_true rfl)) dX8_was_25 ⟨Nat.le_of_ble_eq_true rfl, Nat.le_of_ble_eq_true rfl⟩) hS (fun _ _ h => h) (fun _ h => h) (fun r9 S8 t H locs ht _ h hB _ _ hS => ?_)
      have hP : VX dC dI cA P S8 H := by rw [← ht]; exact hB
      refine lv_istore (lv' := [(4, .int r9), (3, .ref (P k3)), (0, .ref (P 0)), (1, .int v1), (2, .int v2)]) hx hb dX8_was_28 hl (by decide) rfl (fun ls hl => ?_)
      refine lv_iload hx hb dX8_was_30 (lv_at hl 0 rfl) ?_
      refine lv_if_eq (tgt := 38) hx hb dX8_was_32 (by decide) (fun c10 => ?_) (fun c10 => ?_)
      · replace h := h.1 c10
        refine lv_aload_n hx hb dX8_was_38 rfl (lv_at hl 1 rfl) ?_
        refine g_get (v := .ref (P (k3 + 1))) hx hb hts inG_X2 hown hK hP (kX_lt hk4) (eX2 hk4) rfl 1 (by decide) G_fl_X8_266 rfl rfl dX8_was_39 ?_
        refine lv_aload_n hx hb dX8_was_42 rfl (lv_at hl 1 rfl) ?_
        refine g_get (v := .ref (P (k3 + 1))) hx hb hts inG_X2 hown hK hP (kX_lt hk4) (eX2 hk4) rfl 1 (by decide) G_fl_X8_266 rfl rfl dX8_was_43 ?_
        refine lv_iload_n hx hb dX8_was_46 rfl (lv_at hl 4 rfl) ?_
        refine va_calli (va_runV (As := [.int _]) (rest := [.ref _]) ⟨hx, hb, hml, hown, hts⟩ (c_X1_restAt l hI (kd2_1 hk4) h) (cwV 1 hts gv_X8_139 rfl rfl rfl hv_X1_restAt ⟨Nat.le_of_ble_eq_true rfl, Nat.le_of_ble_eq_true rfl⟩) (preV_X hKX hP hS (kX_lt (kd2_1 hk4)) (eX1 (kd2_1 hk4)) rfl) rfl rfl hl.1 rfl (lv_room (Nat.le_of_ble_eq_true rfl)) dX8_was_47 ⟨Nat.le_of_ble_eq_true rfl, Nat.le_of_ble_eq_true rfl⟩) hS (fun _ _ h => h) (fun _ h => h) (fun r12 S11 t H locs ht _ h hB _ _ hS => ?_)
        have hP : VX dC dI cA P S11 H := by rw [← ht]; exact hB
        refine va_calli (va_runV (As := [.int _]) (rest := []) ⟨hx, hb, hml, hown, hts⟩ (c_X1_digitOf l hI (kd2_1 hk4) h) (cwV 1 hts gv_X8_142 rfl rfl rfl hv_X1_digitOf ⟨Nat.le_of_ble_eq_true rfl, Nat.le_of_ble_eq_true rfl⟩) (preV_X hKX hP hS (kX_lt (kd2_1 hk4)) (eX1 (kd2_1 hk4)) rfl) rfl rfl hl.1 rfl (lv_room (Nat.le_of_ble_eq_true rfl)) dX8_was_50 ⟨Nat.le_of_ble_eq_true rfl, Nat.le_of_ble_eq_true rfl⟩) hS (fun _ _ h => h) (fun _ h => h) (fun r14 S13 t H locs ht _ h hB _ _ hS => ?_)
        have hP : VX dC dI cA P S13 H := by rw [← ht]; exact hB
        exact g_iret hx hb hr hlocks h hP hS dX8_was_53
      · replace h := h.2 c10
        refine lv_iload hx hb dX8_was_35 (lv_at hl 0 rfl) ?_
        exact g_iret hx hb hr hlocks h hP hS dX8_was_37
    · replace h := h.1 c7
      refine lv_iconst (v := (-1)) hx hb dX8_was_21 (by decide) ?_
      exact g_iret hx hb hr hlocks h hP hS dX8_was_22
set_option maxRecDepth 100000 in
set_option maxHeartbeats 4000000 in
theorem c_X8_was (l : Launch) {dC : Nat → ClassId} {dI : Nat → Nat → Nat} {cA : Nat → ClassId} {adK adV P : Nat → Nat} (hI : PInj 56 P) {v1 : Int32} {v2 : Int32}  {post : Int32 → St → Prop} {S : St} (h : w_X8_was v1 v2 post S) : Met l yX8_was (wW yX8_was cX8_was 5 (some .int)) ({ frames := 2, cells := 0, slots := 0, locals := 45 } : Room) (va_Pc [.ref (P 0), .int v1, .int v2] (PreX dC dI cA adK adV P S)) (va_Qi post (fun u t => VX dC dI cA P u t.heap) (PA 56 P)) 0 0 (PA 56 P) := by
  refine Met.ofW (cc := cX8_was) (maxL := 5) (ret := (some .int)) (by decide) rfl ?_
  intro p e s m args below meth c s₁ B hml hv
  obtain ⟨rfl, hP, hKX⟩ := hv
  have hts : ∀ w ∈ G, w.before [.ref (P 0), .int v1, .int v2].toArray s = true := fun w hw => atoms_spec (ws := wW yX8_was cX8_was 5 (some .int)) B.pre w (List.mem_cons_of_mem _ hw)
  have C : CtxX dC dI cA adK adV P p s m [.ref (P 0), .int v1, .int v2].toArray meth c cX8_was 5 (some .int) RX8 := ⟨hI, hKX, ⟨B.exec, B.bytes, hml, findClass_of_methodNamed B.named, hts⟩, B.returns, B.notSynchronized⟩
  have hS : va_S (PA 56 P) s.heap s.heap [] := va_S.rf
  have hl := lv_entry ([.ref (P 0), .int v1, .int v2]) (n := 5) (Nat.le_of_ble_eq_true rfl)
  rw [lg_entry_eq]
  generalize (lg_sl ([.ref (P 0), .int v1, .int v2]) ++ List.replicate (5 - (lg_sl ([.ref (P 0), .int v1, .int v2])).length) Slot.unset).toArray = ls at hl ⊢
  have hl : lv_has ls 5 [(0, .ref (P 0)), (1, .int v1), (2, .int v2)] := hl
  exact e_X8_was C _ _ _ _ _ _ h  hP hS hl
set_option maxRecDepth 100000 in
set_option maxHeartbeats 4000000 in
theorem e_X8_row {p : Program} {l : Launch} {e : Env} {s : State} {m : MethodId} {args : Array Value} {below : List Frame} {meth : Method} {c : Code} {dC : Nat → ClassId} {dI : Nat → Nat → Nat} {cA : Nat → ClassId} {adK adV P : Nat → Nat} (C : CtxX dC dI cA adK adV P p s m args meth c cX8_row 4 (some .int) RX8) {post : Int32 → St → Prop} : ∀ (v1 : Int32) (v2 : Int32) (S : St) (H : Heap) (locs : List Loc) (ls : Array Slot), w_X8_row v1 v2 post S → VX dC dI cA P S H → va_S (PA 56 P) s.heap H locs → lv_has ls 4 [(0, .ref (P 0)), (1, .int v1), (2, .int v2)] → W p l e ({ frames := 2, cells := 0, slots := 0, locals := 44 } : Room) s m args below meth c H locs 0 0 (MQ below (va_Qi post (fun u t => VX dC dI cA P u t.heap) (PA 56 P)) args s 0 0 (PA 56 P)) (F0 m 0 ls []) := by
  have C := C
  obtain ⟨hI, hKX, ⟨hx, hb, hml, hown, hts⟩, hr, hlocks⟩ := id C
  have hK := hKX.1
  intro v1 v2 S H locs ls h hP hS hl
  rw [w_X8_row] at h
  refine lv_aload_n hx hb dX8_row_0 rfl (lv_at hl 0 rfl) ?_
  refine lv_iload_n hx hb dX8_row_1 rfl (lv_at hl 1 rfl) ?_
  refine va_callq (va_runV (As := [.int _]) (rest := []) ⟨hx, hb, hml, hown, hts⟩ (c_X8_holderAt l hI h) (cwV 1 hts gv_X8_253 rfl rfl rfl hv_X8_holderAt ⟨Nat.le_of_ble_eq_true rfl, Nat.le_of_ble_eq_true rfl⟩) (preV_X hKX hP hS (kX_lt (rfl : kdX 0 = 8)) (eX8 (rfl : kdX 0 = 8)) rfl) rfl rfl hl.1 rfl (lv_room (Nat.le_of_ble_eq_true rfl)) dX8_row_2 ⟨Nat.le_of_ble_eq_true rfl, Nat.le_of_ble_eq_true rfl⟩) hS (fun _ _ h => h) (fun _ h => h) (fun q S1 t H locs ht _ h hB _ _ hS => ?_)
  have hP : VX dC dI cA P S1 H := by rw [← ht]; exact hB
  obtain ⟨o2, rfl, hko, h⟩ := h
  rcases o2 with _ | k3
  · replace h := h.1 rfl
    refine lv_astore_nN (lv' := [(3, .null), (0, .ref (P 0)), (1, .int v1), (2, .int v2)]) hx hb dX8_row_5 rfl hl (by decide) rfl (fun ls hl => ?_)
    refine lv_aload_nN hx hb dX8_row_6 rfl (lv_at hl 0 rfl) ?_
    refine lv_ifnullN (tgt := 16) hx hb dX8_row_7 (by decide) ?_
    refine lv_iconst (v := (-1)) hx hb dX8_row_16 (by decide) ?_
    exact g_iret hx hb hr hlocks h hP hS dX8_row_17
  · have hk4 := hko k3 rfl
    replace h := h.2 k3 rfl
    refine lv_astore_n (lv' := [(3, .ref (P k3)), (0, .ref (P 0)), (1, .int v1), (2, .int v2)]) hx hb dX8_row_5 rfl hl (by decide) rfl (fun ls hl => ?_)
    refine lv_aload_n hx hb dX8_row_6 rfl (lv_at hl 0 rfl) ?_
    refine lv_ifnull hx hb dX8_row_7 ?_
    refine lv_iload_n hx hb dX8_row_10 rfl (lv_at hl 3 rfl) ?_
    refine lv_bipush (v := 40) hx hb dX8_row_11 (by decide) ?_
    refine lv_icmp_le (tgt := 18) hx hb dX8_row_13 (by decide) (fun c5 => ?_) (fun c5 => ?_)
    · replace h := h.1 c5
      refine lv_iload_n hx hb dX8_row_18 rfl (lv_at hl 3 rfl) ?_
      refine lv_if_ge (tgt := 25) hx hb dX8_row_19 (by decide) (fun c6 => ?_) (fun c6 => ?_)
      · replace h := h.1 c6
        refine lv_aload_n hx hb dX8_row_25 rfl (lv_at hl 0 rfl) ?_
        refine lv_iload_n hx hb dX8_row_26 rfl (lv_at hl 3 rfl) ?_
        refine va_callv (va_runV (As := [.int _]) (rest := []) ⟨hx, hb, hml, hown, hts⟩ (c_X2_holdRow l hI hk4 h) (cwV 1 hts gv_X8_269 rfl rfl rfl hv_X2_holdRow ⟨Nat.le_of_ble_eq_true rfl, Nat.le_of_ble_eq_true rfl⟩) (preV_X hKX hP hS (kX_lt hk4) (eX2 hk4) rfl) rfl rfl hl.1 rfl (lv_room (Nat.le_of_ble_eq_true rfl)) dX8_row_27 ⟨Nat.le_of_ble_eq_true rfl, Nat.le_of_ble_eq_true rfl⟩) hS (fun _ _ h => h) (fun _ h => h) (fun S7 t H locs ht _ h hB _ _ hS => ?_)
        have hP : VX dC dI cA P S7 H := by rw [← ht]; exact hB
        refine lv_iload_n hx hb dX8_row_30 rfl (lv_at hl 3 rfl) ?_
        exact g_iret hx hb hr hlocks h hP hS dX8_row_31
      · replace h := h.2 c6
        refine lv_bipush (v := (-14)) hx hb dX8_row_22 (by decide) ?_
        exact g_iret hx hb hr hlocks h hP hS dX8_row_24
    · replace h := h.2 c5
      refine lv_iconst (v := (-1)) hx hb dX8_row_16 (by decide) ?_
      exact g_iret hx hb hr hlocks h hP hS dX8_row_17
set_option maxRecDepth 100000 in
set_option maxHeartbeats 4000000 in
theorem c_X8_row (l : Launch) {dC : Nat → ClassId} {dI : Nat → Nat → Nat} {cA : Nat → ClassId} {adK adV P : Nat → Nat} (hI : PInj 56 P) {v1 : Int32} {v2 : Int32}  {post : Int32 → St → Prop} {S : St} (h : w_X8_row v1 v2 post S) : Met l yX8_row (wW yX8_row cX8_row 4 (some .int)) ({ frames := 2, cells := 0, slots := 0, locals := 44 } : Room) (va_Pc [.ref (P 0), .int v1, .int v2] (PreX dC dI cA adK adV P S)) (va_Qi post (fun u t => VX dC dI cA P u t.heap) (PA 56 P)) 0 0 (PA 56 P) := by
  refine Met.ofW (cc := cX8_row) (maxL := 4) (ret := (some .int)) (by decide) rfl ?_
  intro p e s m args below meth c s₁ B hml hv
  obtain ⟨rfl, hP, hKX⟩ := hv
  have hts : ∀ w ∈ G, w.before [.ref (P 0), .int v1, .int v2].toArray s = true := fun w hw => atoms_spec (ws := wW yX8_row cX8_row 4 (some .int)) B.pre w (List.mem_cons_of_mem _ hw)
  have C : CtxX dC dI cA adK adV P p s m [.ref (P 0), .int v1, .int v2].toArray meth c cX8_row 4 (some .int) RX8 := ⟨hI, hKX, ⟨B.exec, B.bytes, hml, findClass_of_methodNamed B.named, hts⟩, B.returns, B.notSynchronized⟩
  have hS : va_S (PA 56 P) s.heap s.heap [] := va_S.rf
  have hl := lv_entry ([.ref (P 0), .int v1, .int v2]) (n := 4) (Nat.le_of_ble_eq_true rfl)
  rw [lg_entry_eq]
  generalize (lg_sl ([.ref (P 0), .int v1, .int v2]) ++ List.replicate (4 - (lg_sl ([.ref (P 0), .int v1, .int v2])).length) Slot.unset).toArray = ls at hl ⊢
  have hl : lv_has ls 4 [(0, .ref (P 0)), (1, .int v1), (2, .int v2)] := hl
  exact e_X8_row C _ _ _ _ _ _ h  hP hS hl
set_option maxRecDepth 100000 in
set_option maxHeartbeats 4000000 in
theorem e_X8_put {p : Program} {l : Launch} {e : Env} {s : State} {m : MethodId} {args : Array Value} {below : List Frame} {meth : Method} {c : Code} {dC : Nat → ClassId} {dI : Nat → Nat → Nat} {cA : Nat → ClassId} {adK adV P : Nat → Nat} (C : CtxX dC dI cA adK adV P p s m args meth c cX8_put 6 (some .int) RX8) {post : Int32 → St → Prop} : ∀ (v1 : Int32) (v2 : Int32) (v3 : Int32) (S : St) (H : Heap) (locs : List Loc) (ls : Array Slot), w_X8_put v1 v2 v3 post S → VX dC dI cA P S H → va_S (PA 56 P) s.heap H locs → lv_has ls 6 [(0, .ref (P 0)), (1, .int v1), (2, .int v2), (3, .int v3)] → W p l e ({ frames := 2, cells := 0, slots := 0, locals := 43 } : Room) s m args below meth c H locs 0 0 (MQ below (va_Qi post (fun u t => VX dC dI cA P u t.heap) (PA 56 P)) args s 0 0 (PA 56 P)) (F0 m 0 ls []) := by
  have C := C
  obtain ⟨hI, hKX, ⟨hx, hb, hml, hown, hts⟩, hr, hlocks⟩ := id C
  have hK := hKX.1
  intro v1 v2 v3 S H locs ls h hP hS hl
  rw [w_X8_put] at h
  refine lv_aload_n hx hb dX8_put_0 rfl (lv_at hl 0 rfl) ?_
  refine lv_iload_n hx hb dX8_put_1 rfl (lv_at hl 1 rfl) ?_
  refine va_callq (va_runV (As := [.int _]) (rest := []) ⟨hx, hb, hml, hown, hts⟩ (c_X8_holderAt l hI h) (cwV 1 hts gv_X8_253 rfl rfl rfl hv_X8_holderAt ⟨Nat.le_of_ble_eq_true rfl, Nat.le_of_ble_eq_true rfl⟩) (preV_X hKX hP hS (kX_lt (rfl : kdX 0 = 8)) (eX8 (rfl : kdX 0 = 8)) rfl) rfl rfl hl.1 rfl (lv_room (Nat.le_of_ble_eq_true rfl)) dX8_put_2 ⟨Nat.le_of_ble_eq_true rfl, Nat.le_of_ble_eq_true rfl⟩) hS (fun _ _ h => h) (fun _ h => h) (fun q S1 t H locs ht _ h hB _ _ hS => ?_)
  have hP : VX dC dI cA P S1 H := by rw [← ht]; exact hB
  obtain ⟨o2, rfl, hko, h⟩ := h
  rcases o2 with _ | k3
  · replace h := h.1 rfl
    refine lv_astoreN (lv' := [(4, .null), (0, .ref (P 0)), (1, .int v1), (2, .int v2), (3, .int v3)]) hx hb dX8_put_5 hl (by decide) rfl (fun ls hl => ?_)
    refine lv_aloadN hx hb dX8_put_7 (lv_at hl 0 rfl) ?_
    refine lv_ifnonnullN hx hb dX8_put_9 ?_
    refine lv_iconst (v := (-1)) hx hb dX8_put_12 (by decide) ?_
    exact g_iret hx hb hr hlocks h hP hS dX8_put_13
  · have hk4 := hko k3 rfl
    replace h := h.2 k3 rfl
    refine lv_astore (lv' := [(4, .ref (P k3)), (0, .ref (P 0)), (1, .int v1), (2, .int v2), (3, .int v3)]) hx hb dX8_put_5 hl (by decide) rfl (fun ls hl => ?_)
    refine lv_aload hx hb dX8_put_7 (lv_at hl 0 rfl) ?_
    refine lv_ifnonnull (tgt := 14) hx hb dX8_put_9 (by decide) ?_
    refine lv_aload hx hb dX8_put_14 (lv_at hl 0 rfl) ?_
    refine lv_iconst (v := 2) hx hb dX8_put_16 (by decide) ?_
    refine va_calli (va_runV (As := [.int _]) (rest := []) ⟨hx, hb, hml, hown, hts⟩ (c_X2_refusalAs l hI hk4 h) (cwV 1 hts gv_X8_263 rfl rfl rfl hv_X2_refusalAs ⟨Nat.le_of_ble_eq_true rfl, Nat.le_of_ble_eq_true rfl⟩) (preV_X hKX hP hS (kX_lt hk4) (eX2 hk4) rfl) rfl rfl hl.1 rfl (lv_room (Nat.le_of_ble_eq_true rfl)) dX8_put_17 ⟨Nat.le_of_ble_eq_true rfl, Nat.le_of_ble_eq_true rfl⟩) hS (fun _ _ h => h) (fun _ h => h) (fun r6 S5 t H locs ht _ h hB _ _ hS => ?_)
    have hP : VX dC dI cA P S5 H := by rw [← ht]; exact hB
    refine lv_istore (lv' := [(5, .int r6), (4, .ref (P k3)), (0, .ref (P 0)), (1, .int v1), (2, .int v2), (3, .int v3)]) hx hb dX8_put_20 hl (by decide) rfl (fun ls hl => ?_)
    refine lv_iload hx hb dX8_put_22 (lv_at hl 0 rfl) ?_
    refine lv_if_eq (tgt := 30) hx hb dX8_put_24 (by decide) (fun c7 => ?_) (fun c7 => ?_)
    · replace h := h.1 c7
      refine lv_aload hx hb dX8_put_30 (lv_at hl 1 rfl) ?_
      refine lv_iload_n hx hb dX8_put_32 rfl (lv_at hl 4 rfl) ?_
      refine va_calli (va_runV (As := [.int _]) (rest := []) ⟨hx, hb, hml, hown, hts⟩ (c_X2_hasPlace l hI hk4 h) (cwV 1 hts gv_X8_272 rfl rfl rfl hv_X2_hasPlace ⟨Nat.le_of_ble_eq_true rfl, Nat.le_of_ble_eq_true rfl⟩) (preV_X hKX hP hS (kX_lt hk4) (eX2 hk4) rfl) rfl rfl hl.1 rfl (lv_room (Nat.le_of_ble_eq_true rfl)) dX8_put_33 ⟨Nat.le_of_ble_eq_true rfl, Nat.le_of_ble_eq_true rfl⟩) hS (fun _ _ h => h) (fun _ h => h) (fun r9 S8 t H locs ht _ h hB _ _ hS => ?_)
      have hP : VX dC dI cA P S8 H := by rw [← ht]; exact hB
      refine lv_if_ne (tgt := 42) hx hb dX8_put_36 (by decide) (fun c10 => ?_) (fun c10 => ?_)
      · replace h := h.2 c10
        refine lv_aload hx hb dX8_put_42 (lv_at hl 1 rfl) ?_
        refine g_get (v := .ref (P (k3 + 2))) hx hb hts inG_X2 hown hK hP (kX_lt hk4) (eX2 hk4) rfl 2 (by decide) G_fl_X8_275 rfl rfl dX8_put_44 ?_
        refine lv_iload_n hx hb dX8_put_47 rfl (lv_at hl 4 rfl) ?_
        refine lv_iload_n hx hb dX8_put_48 rfl (lv_at hl 5 rfl) ?_
        refine va_callv (va_runS (As := [.ref _, .int _, .int _]) (rest := []) ⟨hx, hb, hml, hown, hts⟩ (c_X8_setAt l hI (kd2_2 hk4) h) (va_cwS 3 hts gs_X8_175 rfl rfl rfl hd_X8_setAt ⟨Nat.le_of_ble_eq_true rfl, Nat.le_of_ble_eq_true rfl⟩) (preS_X hKX hP hS) rfl rfl hl.1 rfl (lv_room (Nat.le_of_ble_eq_true rfl)) dX8_put_49 ⟨Nat.le_of_ble_eq_true rfl, Nat.le_of_ble_eq_true rfl⟩) hS (fun _ _ h => h) (fun _ h => h) (fun S11 t H locs ht _ h hB _ _ hS => ?_)
        have hP : VX dC dI cA P S11 H := by rw [← ht]; exact hB
        refine lv_iconst (v := 1) hx hb dX8_put_52 (by decide) ?_
        exact g_iret hx hb hr hlocks h hP hS dX8_put_53
      · replace h := h.1 c10
        refine lv_bipush (v := (-13)) hx hb dX8_put_39 (by decide) ?_
        exact g_iret hx hb hr hlocks h hP hS dX8_put_41
    · replace h := h.2 c7
      refine lv_iload hx hb dX8_put_27 (lv_at hl 0 rfl) ?_
      exact g_iret hx hb hr hlocks h hP hS dX8_put_29
set_option maxRecDepth 100000 in
set_option maxHeartbeats 4000000 in
theorem c_X8_put (l : Launch) {dC : Nat → ClassId} {dI : Nat → Nat → Nat} {cA : Nat → ClassId} {adK adV P : Nat → Nat} (hI : PInj 56 P) {v1 : Int32} {v2 : Int32} {v3 : Int32}  {post : Int32 → St → Prop} {S : St} (h : w_X8_put v1 v2 v3 post S) : Met l yX8_put (wW yX8_put cX8_put 6 (some .int)) ({ frames := 2, cells := 0, slots := 0, locals := 43 } : Room) (va_Pc [.ref (P 0), .int v1, .int v2, .int v3] (PreX dC dI cA adK adV P S)) (va_Qi post (fun u t => VX dC dI cA P u t.heap) (PA 56 P)) 0 0 (PA 56 P) := by
  refine Met.ofW (cc := cX8_put) (maxL := 6) (ret := (some .int)) (by decide) rfl ?_
  intro p e s m args below meth c s₁ B hml hv
  obtain ⟨rfl, hP, hKX⟩ := hv
  have hts : ∀ w ∈ G, w.before [.ref (P 0), .int v1, .int v2, .int v3].toArray s = true := fun w hw => atoms_spec (ws := wW yX8_put cX8_put 6 (some .int)) B.pre w (List.mem_cons_of_mem _ hw)
  have C : CtxX dC dI cA adK adV P p s m [.ref (P 0), .int v1, .int v2, .int v3].toArray meth c cX8_put 6 (some .int) RX8 := ⟨hI, hKX, ⟨B.exec, B.bytes, hml, findClass_of_methodNamed B.named, hts⟩, B.returns, B.notSynchronized⟩
  have hS : va_S (PA 56 P) s.heap s.heap [] := va_S.rf
  have hl := lv_entry ([.ref (P 0), .int v1, .int v2, .int v3]) (n := 6) (Nat.le_of_ble_eq_true rfl)
  rw [lg_entry_eq]
  generalize (lg_sl ([.ref (P 0), .int v1, .int v2, .int v3]) ++ List.replicate (6 - (lg_sl ([.ref (P 0), .int v1, .int v2, .int v3])).length) Slot.unset).toArray = ls at hl ⊢
  have hl : lv_has ls 6 [(0, .ref (P 0)), (1, .int v1), (2, .int v2), (3, .int v3)] := hl
  exact e_X8_put C _ _ _ _ _ _ _ h  hP hS hl
set_option maxRecDepth 100000 in
set_option maxHeartbeats 4000000 in
theorem e_X8_get {p : Program} {l : Launch} {e : Env} {s : State} {m : MethodId} {args : Array Value} {below : List Frame} {meth : Method} {c : Code} {dC : Nat → ClassId} {dI : Nat → Nat → Nat} {cA : Nat → ClassId} {adK adV P : Nat → Nat} (C : CtxX dC dI cA adK adV P p s m args meth c cX8_get 4 (some .long) RX8) {post : Int64 → St → Prop} : ∀ (v1 : Int32) (v2 : Int32) (S : St) (H : Heap) (locs : List Loc) (ls : Array Slot), w_X8_get v1 v2 post S → VX dC dI cA P S H → va_S (PA 56 P) s.heap H locs → lv_has ls 4 [(0, .ref (P 0)), (1, .int v1), (2, .int v2)] → W p l e ({ frames := 2, cells := 0, slots := 0, locals := 43 } : Room) s m args below meth c H locs 0 0 (MQ below (va_Ql post (fun u t => VX dC dI cA P u t.heap) (PA 56 P)) args s 0 0 (PA 56 P)) (F0 m 0 ls []) := by
  have C := C
  obtain ⟨hI, hKX, ⟨hx, hb, hml, hown, hts⟩, hr, hlocks⟩ := id C
  have hK := hKX.1
  intro v1 v2 S H locs ls h hP hS hl
  rw [w_X8_get] at h
  refine lv_aload_n hx hb dX8_get_0 rfl (lv_at hl 0 rfl) ?_
  refine lv_iload_n hx hb dX8_get_1 rfl (lv_at hl 1 rfl) ?_
  refine va_callq (va_runV (As := [.int _]) (rest := []) ⟨hx, hb, hml, hown, hts⟩ (c_X8_holderAt l hI h) (cwV 1 hts gv_X8_253 rfl rfl rfl hv_X8_holderAt ⟨Nat.le_of_ble_eq_true rfl, Nat.le_of_ble_eq_true rfl⟩) (preV_X hKX hP hS (kX_lt (rfl : kdX 0 = 8)) (eX8 (rfl : kdX 0 = 8)) rfl) rfl rfl hl.1 rfl (lv_room (Nat.le_of_ble_eq_true rfl)) dX8_get_2 ⟨Nat.le_of_ble_eq_true rfl, Nat.le_of_ble_eq_true rfl⟩) hS (fun _ _ h => h) (fun _ h => h) (fun q S1 t H locs ht _ h hB _ _ hS => ?_)
  have hP : VX dC dI cA P S1 H := by rw [← ht]; exact hB
  obtain ⟨o2, rfl, hko, h⟩ := h
  rcases o2 with _ | k3
  · replace h := h.1 rfl
    refine lv_astore_nN (lv' := [(3, .null), (0, .ref (P 0)), (1, .int v1), (2, .int v2)]) hx hb dX8_get_5 rfl hl (by decide) rfl (fun ls hl => ?_)
    refine lv_aload_nN hx hb dX8_get_6 rfl (lv_at hl 0 rfl) ?_
    refine lv_ifnullN (tgt := 26) hx hb dX8_get_7 (by decide) ?_
    refine lv_ldc2 (v := (-9223372036854775808)) hx hb hown (hts _ G_co_X8_220) dX8_get_26 ?_
    exact g_lret hx hb hr hlocks h hP hS dX8_get_29
  · have hk4 := hko k3 rfl
    replace h := h.2 k3 rfl
    refine lv_astore_n (lv' := [(3, .ref (P k3)), (0, .ref (P 0)), (1, .int v1), (2, .int v2)]) hx hb dX8_get_5 rfl hl (by decide) rfl (fun ls hl => ?_)
    refine lv_aload_n hx hb dX8_get_6 rfl (lv_at hl 0 rfl) ?_
    refine lv_ifnull hx hb dX8_get_7 ?_
    refine lv_aload_n hx hb dX8_get_10 rfl (lv_at hl 0 rfl) ?_
    refine lv_iconst (v := 2) hx hb dX8_get_11 (by decide) ?_
    refine va_calli (va_runV (As := [.int _]) (rest := []) ⟨hx, hb, hml, hown, hts⟩ (c_X2_refusalAs l hI hk4 h) (cwV 1 hts gv_X8_263 rfl rfl rfl hv_X2_refusalAs ⟨Nat.le_of_ble_eq_true rfl, Nat.le_of_ble_eq_true rfl⟩) (preV_X hKX hP hS (kX_lt hk4) (eX2 hk4) rfl) rfl rfl hl.1 rfl (lv_room (Nat.le_of_ble_eq_true rfl)) dX8_get_12 ⟨Nat.le_of_ble_eq_true rfl, Nat.le_of_ble_eq_true rfl⟩) hS (fun _ _ h => h) (fun _ h => h) (fun r6 S5 t H locs ht _ h hB _ _ hS => ?_)
    have hP : VX dC dI cA P S5 H := by rw [← ht]; exact hB
    refine lv_if_ne (tgt := 26) hx hb dX8_get_15 (by decide) (fun c7 => ?_) (fun c7 => ?_)
    · replace h := h.2 c7
      refine lv_ldc2 (v := (-9223372036854775808)) hx hb hown (hts _ G_co_X8_220) dX8_get_26 ?_
      exact g_lret hx hb hr hlocks h hP hS dX8_get_29
    · replace h := h.1 c7
      refine lv_aload_n hx hb dX8_get_18 rfl (lv_at hl 0 rfl) ?_
      refine lv_iload_n hx hb dX8_get_19 rfl (lv_at hl 3 rfl) ?_
      refine va_calli (va_runV (As := [.int _]) (rest := []) ⟨hx, hb, hml, hown, hts⟩ (c_X2_hasPlace l hI hk4 h) (cwV 1 hts gv_X8_272 rfl rfl rfl hv_X2_hasPlace ⟨Nat.le_of_ble_eq_true rfl, Nat.le_of_ble_eq_true rfl⟩) (preV_X hKX hP hS (kX_lt hk4) (eX2 hk4) rfl) rfl rfl hl.1 rfl (lv_room (Nat.le_of_ble_eq_true rfl)) dX8_get_20 ⟨Nat.le_of_ble_eq_true rfl, Nat.le_of_ble_eq_true rfl⟩) hS (fun _ _ h => h) (fun _ h => h) (fun r9 S8 t H locs ht _ h hB _ _ hS => ?_)
      have hP : VX dC dI cA P S8 H := by rw [← ht]; exact hB
      refine lv_if_ne (tgt := 30) hx hb dX8_get_23 (by decide) (fun c10 => ?_) (fun c10 => ?_)
      · replace h := h.2 c10
        refine lv_aload_n hx hb dX8_get_30 rfl (lv_at hl 0 rfl) ?_
        refine g_get (v := .ref (P (k3 + 2))) hx hb hts inG_X2 hown hK hP (kX_lt hk4) (eX2 hk4) rfl 2 (by decide) G_fl_X8_275 rfl rfl dX8_get_31 ?_
        refine lv_iload_n hx hb dX8_get_34 rfl (lv_at hl 3 rfl) ?_
        refine va_calli (va_runS (As := [.ref _, .int _]) (rest := []) ⟨hx, hb, hml, hown, hts⟩ (c_X8_valueAt l hI (kd2_2 hk4) h) (va_cwS 2 hts gs_X8_216 rfl rfl rfl hd_X8_valueAt ⟨Nat.le_of_ble_eq_true rfl, Nat.le_of_ble_eq_true rfl⟩) (preS_X hKX hP hS) rfl rfl hl.1 rfl (lv_room (Nat.le_of_ble_eq_true rfl)) dX8_get_35 ⟨Nat.le_of_ble_eq_true rfl, Nat.le_of_ble_eq_true rfl⟩) hS (fun _ _ h => h) (fun _ h => h) (fun r12 S11 t H locs ht _ h hB _ _ hS => ?_)
        have hP : VX dC dI cA P S11 H := by rw [← ht]; exact hB
        refine lv_i2l hx hb dX8_get_38 rfl ?_
        exact g_lret hx hb hr hlocks h hP hS dX8_get_39
      · replace h := h.1 c10
        refine lv_ldc2 (v := (-9223372036854775808)) hx hb hown (hts _ G_co_X8_220) dX8_get_26 ?_
        exact g_lret hx hb hr hlocks h hP hS dX8_get_29
set_option maxRecDepth 100000 in
set_option maxHeartbeats 4000000 in
theorem c_X8_get (l : Launch) {dC : Nat → ClassId} {dI : Nat → Nat → Nat} {cA : Nat → ClassId} {adK adV P : Nat → Nat} (hI : PInj 56 P) {v1 : Int32} {v2 : Int32}  {post : Int64 → St → Prop} {S : St} (h : w_X8_get v1 v2 post S) : Met l yX8_get (wW yX8_get cX8_get 4 (some .long)) ({ frames := 2, cells := 0, slots := 0, locals := 43 } : Room) (va_Pc [.ref (P 0), .int v1, .int v2] (PreX dC dI cA adK adV P S)) (va_Ql post (fun u t => VX dC dI cA P u t.heap) (PA 56 P)) 0 0 (PA 56 P) := by
  refine Met.ofW (cc := cX8_get) (maxL := 4) (ret := (some .long)) (by decide) rfl ?_
  intro p e s m args below meth c s₁ B hml hv
  obtain ⟨rfl, hP, hKX⟩ := hv
  have hts : ∀ w ∈ G, w.before [.ref (P 0), .int v1, .int v2].toArray s = true := fun w hw => atoms_spec (ws := wW yX8_get cX8_get 4 (some .long)) B.pre w (List.mem_cons_of_mem _ hw)
  have C : CtxX dC dI cA adK adV P p s m [.ref (P 0), .int v1, .int v2].toArray meth c cX8_get 4 (some .long) RX8 := ⟨hI, hKX, ⟨B.exec, B.bytes, hml, findClass_of_methodNamed B.named, hts⟩, B.returns, B.notSynchronized⟩
  have hS : va_S (PA 56 P) s.heap s.heap [] := va_S.rf
  have hl := lv_entry ([.ref (P 0), .int v1, .int v2]) (n := 4) (Nat.le_of_ble_eq_true rfl)
  rw [lg_entry_eq]
  generalize (lg_sl ([.ref (P 0), .int v1, .int v2]) ++ List.replicate (4 - (lg_sl ([.ref (P 0), .int v1, .int v2])).length) Slot.unset).toArray = ls at hl ⊢
  have hl : lv_has ls 4 [(0, .ref (P 0)), (1, .int v1), (2, .int v2)] := hl
  exact e_X8_get C _ _ _ _ _ _ h  hP hS hl
set_option maxRecDepth 100000 in
set_option maxHeartbeats 4000000 in
theorem e_X8_judge {p : Program} {l : Launch} {e : Env} {s : State} {m : MethodId} {args : Array Value} {below : List Frame} {meth : Method} {c : Code} {dC : Nat → ClassId} {dI : Nat → Nat → Nat} {cA : Nat → ClassId} {adK adV P : Nat → Nat} (C : CtxX dC dI cA adK adV P p s m args meth c cX8_judge 6 (some .int) RX8) {post : Int32 → St → Prop} : ∀ (v1 : Int32) (v2 : Int32) (S : St) (H : Heap) (locs : List Loc) (ls : Array Slot), w_X8_judge v1 v2 post S → VX dC dI cA P S H → va_S (PA 56 P) s.heap H locs → lv_has ls 6 [(0, .ref (P 0)), (1, .int v1), (2, .int v2)] → W p l e ({ frames := 3, cells := 0, slots := 0, locals := 68 } : Room) s m args below meth c H locs 0 0 (MQ below (va_Qi post (fun u t => VX dC dI cA P u t.heap) (PA 56 P)) args s 0 0 (PA 56 P)) (F0 m 0 ls []) := by
  have C := C
  obtain ⟨hI, hKX, ⟨hx, hb, hml, hown, hts⟩, hr, hlocks⟩ := id C
  have hK := hKX.1
  intro v1 v2 S H locs ls h hP hS hl
  rw [w_X8_judge] at h
  refine lv_aload_n hx hb dX8_judge_0 rfl (lv_at hl 0 rfl) ?_
  refine lv_iload_n hx hb dX8_judge_1 rfl (lv_at hl 1 rfl) ?_
  refine va_callq (va_runV (As := [.int _]) (rest := []) ⟨hx, hb, hml, hown, hts⟩ (c_X8_holderAt l hI h) (cwV 1 hts gv_X8_253 rfl rfl rfl hv_X8_holderAt ⟨Nat.le_of_ble_eq_true rfl, Nat.le_of_ble_eq_true rfl⟩) (preV_X hKX hP hS (kX_lt (rfl : kdX 0 = 8)) (eX8 (rfl : kdX 0 = 8)) rfl) rfl rfl hl.1 rfl (lv_room (Nat.le_of_ble_eq_true rfl)) dX8_judge_2 ⟨Nat.le_of_ble_eq_true rfl, Nat.le_of_ble_eq_true rfl⟩) hS (fun _ _ h => h) (fun _ h => h) (fun q S1 t H locs ht _ h hB _ _ hS => ?_)
  have hP : VX dC dI cA P S1 H := by rw [← ht]; exact hB
  obtain ⟨o2, rfl, hko, h⟩ := h
  rcases o2 with _ | k3
  · replace h := h.1 rfl
    refine lv_astore_nN (lv' := [(3, .null), (0, .ref (P 0)), (1, .int v1), (2, .int v2)]) hx hb dX8_judge_5 rfl hl (by decide) rfl (fun ls hl => ?_)
    refine lv_aload_n hx hb dX8_judge_6 rfl (lv_at hl 1 rfl) ?_
    refine g_get (v := .ref (P 1)) hx hb hts inG_X8 hown hK hP (kX_lt (rfl : kdX 0 = 8)) (eX8 (rfl : kdX 0 = 8)) rfl 0 (by decide) G_fl_X8_12 rfl rfl dX8_judge_7 ?_
    refine lv_iload_n hx hb dX8_judge_10 rfl (lv_at hl 3 rfl) ?_
    refine va_callq (va_runV (As := [.int _]) (rest := []) ⟨hx, hb, hml, hown, hts⟩ (c_X6_at l hI (rfl : kdX 1 = 6) h) (cwV 1 hts gv_X8_97 rfl rfl rfl hv_X6_at ⟨Nat.le_of_ble_eq_true rfl, Nat.le_of_ble_eq_true rfl⟩) (preV_X hKX hP hS (kX_lt (rfl : kdX 1 = 6)) (eX6 (rfl : kdX 1 = 6)) rfl) rfl rfl hl.1 rfl (lv_room (Nat.le_of_ble_eq_true rfl)) dX8_judge_11 ⟨Nat.le_of_ble_eq_true rfl, Nat.le_of_ble_eq_true rfl⟩) hS (fun _ _ h => h) (fun _ h => h) (fun q S5 t H locs ht _ h hB _ _ hS => ?_)
    have hP : VX dC dI cA P S5 H := by rw [← ht]; exact hB
    obtain ⟨o6, rfl, hko, h⟩ := h
    rcases o6 with _ | k7
    · replace h := h.1 rfl
      refine lv_astoreN (lv' := [(4, .null), (3, .null), (0, .ref (P 0)), (1, .int v1), (2, .int v2)]) hx hb dX8_judge_14 hl (by decide) rfl (fun ls hl => ?_)
      refine lv_aload_nN hx hb dX8_judge_16 rfl (lv_at hl 1 rfl) ?_
      refine lv_ifnullN (tgt := 25) hx hb dX8_judge_17 (by decide) ?_
      refine lv_iconst (v := (-1)) hx hb dX8_judge_25 (by decide) ?_
      exact g_iret hx hb hr hlocks h hP hS dX8_judge_26
    · have hk8 := hko k7 rfl
      replace h := h.2 k7 rfl
      refine lv_astore (lv' := [(4, .ref (P k7)), (3, .null), (0, .ref (P 0)), (1, .int v1), (2, .int v2)]) hx hb dX8_judge_14 hl (by decide) rfl (fun ls hl => ?_)
      refine lv_aload_nN hx hb dX8_judge_16 rfl (lv_at hl 1 rfl) ?_
      refine lv_ifnullN (tgt := 25) hx hb dX8_judge_17 (by decide) ?_
      refine lv_iconst (v := (-1)) hx hb dX8_judge_25 (by decide) ?_
      exact g_iret hx hb hr hlocks h hP hS dX8_judge_26
  · have hk4 := hko k3 rfl
    replace h := h.2 k3 rfl
    refine lv_astore_n (lv' := [(3, .ref (P k3)), (0, .ref (P 0)), (1, .int v1), (2, .int v2)]) hx hb dX8_judge_5 rfl hl (by decide) rfl (fun ls hl => ?_)
    refine lv_aload_n hx hb dX8_judge_6 rfl (lv_at hl 1 rfl) ?_
    refine g_get (v := .ref (P 1)) hx hb hts inG_X8 hown hK hP (kX_lt (rfl : kdX 0 = 8)) (eX8 (rfl : kdX 0 = 8)) rfl 0 (by decide) G_fl_X8_12 rfl rfl dX8_judge_7 ?_
    refine lv_iload_n hx hb dX8_judge_10 rfl (lv_at hl 3 rfl) ?_
    refine va_callq (va_runV (As := [.int _]) (rest := []) ⟨hx, hb, hml, hown, hts⟩ (c_X6_at l hI (rfl : kdX 1 = 6) h) (cwV 1 hts gv_X8_97 rfl rfl rfl hv_X6_at ⟨Nat.le_of_ble_eq_true rfl, Nat.le_of_ble_eq_true rfl⟩) (preV_X hKX hP hS (kX_lt (rfl : kdX 1 = 6)) (eX6 (rfl : kdX 1 = 6)) rfl) rfl rfl hl.1 rfl (lv_room (Nat.le_of_ble_eq_true rfl)) dX8_judge_11 ⟨Nat.le_of_ble_eq_true rfl, Nat.le_of_ble_eq_true rfl⟩) hS (fun _ _ h => h) (fun _ h => h) (fun q S9 t H locs ht _ h hB _ _ hS => ?_)
    have hP : VX dC dI cA P S9 H := by rw [← ht]; exact hB
    obtain ⟨o10, rfl, hko, h⟩ := h
    rcases o10 with _ | k11
    · replace h := h.1 rfl
      refine lv_astoreN (lv' := [(4, .null), (3, .ref (P k3)), (0, .ref (P 0)), (1, .int v1), (2, .int v2)]) hx hb dX8_judge_14 hl (by decide) rfl (fun ls hl => ?_)
      refine lv_aload_n hx hb dX8_judge_16 rfl (lv_at hl 1 rfl) ?_
      refine lv_ifnull hx hb dX8_judge_17 ?_
      refine lv_aloadN hx hb dX8_judge_20 (lv_at hl 0 rfl) ?_
      refine lv_ifnonnullN hx hb dX8_judge_22 ?_
      refine lv_iconst (v := (-1)) hx hb dX8_judge_25 (by decide) ?_
      exact g_iret hx hb hr hlocks h hP hS dX8_judge_26
    · have hk12 := hko k11 rfl
      replace h := h.2 k11 rfl
      refine lv_astore (lv' := [(4, .ref (P k11)), (3, .ref (P k3)), (0, .ref (P 0)), (1, .int v1), (2, .int v2)]) hx hb dX8_judge_14 hl (by decide) rfl (fun ls hl => ?_)
      refine lv_aload_n hx hb dX8_judge_16 rfl (lv_at hl 1 rfl) ?_
      refine lv_ifnull hx hb dX8_judge_17 ?_
      refine lv_aload hx hb dX8_judge_20 (lv_at hl 0 rfl) ?_
      refine lv_ifnonnull (tgt := 27) hx hb dX8_judge_22 (by decide) ?_
      refine lv_aload_n hx hb dX8_judge_27 rfl (lv_at hl 1 rfl) ?_
      refine lv_iconst (v := 2) hx hb dX8_judge_28 (by decide) ?_
      refine va_calli (va_runV (As := [.int _]) (rest := []) ⟨hx, hb, hml, hown, hts⟩ (c_X2_refusalAs l hI hk4 h) (cwV 1 hts gv_X8_263 rfl rfl rfl hv_X2_refusalAs ⟨Nat.le_of_ble_eq_true rfl, Nat.le_of_ble_eq_true rfl⟩) (preV_X hKX hP hS (kX_lt hk4) (eX2 hk4) rfl) rfl rfl hl.1 rfl (lv_room (Nat.le_of_ble_eq_true rfl)) dX8_judge_29 ⟨Nat.le_of_ble_eq_true rfl, Nat.le_of_ble_eq_true rfl⟩) hS (fun _ _ h => h) (fun _ h => h) (fun r14 S13 t H locs ht _ h hB _ _ hS => ?_)
      have hP : VX dC dI cA P S13 H := by rw [← ht]; exact hB
      refine lv_istore (lv' := [(5, .int r14), (4, .ref (P k11)), (3, .ref (P k3)), (0, .ref (P 0)), (1, .int v1), (2, .int v2)]) hx hb dX8_judge_32 hl (by decide) rfl (fun ls hl => ?_)
      refine lv_iload hx hb dX8_judge_34 (lv_at hl 0 rfl) ?_
      refine lv_if_eq (tgt := 42) hx hb dX8_judge_36 (by decide) (fun c15 => ?_) (fun c15 => ?_)
      · replace h := h.1 c15
        refine lv_aload_n hx hb dX8_judge_42 rfl (lv_at hl 2 rfl) ?_
        refine lv_aload hx hb dX8_judge_43 (lv_at hl 1 rfl) ?_
        refine va_calli (va_runV (As := [.ref _]) (rest := []) ⟨hx, hb, hml, hown, hts⟩ (c_X2_firstUnlike l hI hk4 hk12 h) (cwV 1 hts gv_X8_278 rfl rfl rfl hv_X2_firstUnlike ⟨Nat.le_of_ble_eq_true rfl, Nat.le_of_ble_eq_true rfl⟩) (preV_X hKX hP hS (kX_lt hk4) (eX2 hk4) rfl) rfl rfl hl.1 rfl (lv_room (Nat.le_of_ble_eq_true rfl)) dX8_judge_45 ⟨Nat.le_of_ble_eq_true rfl, Nat.le_of_ble_eq_true rfl⟩) hS (fun _ _ h => h) (fun _ h => h) (fun r17 S16 t H locs ht _ h hB _ _ hS => ?_)
        have hP : VX dC dI cA P S16 H := by rw [← ht]; exact hB
        exact g_iret hx hb hr hlocks h hP hS dX8_judge_48
      · replace h := h.2 c15
        refine lv_iload hx hb dX8_judge_39 (lv_at hl 0 rfl) ?_
        exact g_iret hx hb hr hlocks h hP hS dX8_judge_41
set_option maxRecDepth 100000 in
set_option maxHeartbeats 4000000 in
theorem c_X8_judge (l : Launch) {dC : Nat → ClassId} {dI : Nat → Nat → Nat} {cA : Nat → ClassId} {adK adV P : Nat → Nat} (hI : PInj 56 P) {v1 : Int32} {v2 : Int32}  {post : Int32 → St → Prop} {S : St} (h : w_X8_judge v1 v2 post S) : Met l yX8_judge (wW yX8_judge cX8_judge 6 (some .int)) ({ frames := 3, cells := 0, slots := 0, locals := 68 } : Room) (va_Pc [.ref (P 0), .int v1, .int v2] (PreX dC dI cA adK adV P S)) (va_Qi post (fun u t => VX dC dI cA P u t.heap) (PA 56 P)) 0 0 (PA 56 P) := by
  refine Met.ofW (cc := cX8_judge) (maxL := 6) (ret := (some .int)) (by decide) rfl ?_
  intro p e s m args below meth c s₁ B hml hv
  obtain ⟨rfl, hP, hKX⟩ := hv
  have hts : ∀ w ∈ G, w.before [.ref (P 0), .int v1, .int v2].toArray s = true := fun w hw => atoms_spec (ws := wW yX8_judge cX8_judge 6 (some .int)) B.pre w (List.mem_cons_of_mem _ hw)
  have C : CtxX dC dI cA adK adV P p s m [.ref (P 0), .int v1, .int v2].toArray meth c cX8_judge 6 (some .int) RX8 := ⟨hI, hKX, ⟨B.exec, B.bytes, hml, findClass_of_methodNamed B.named, hts⟩, B.returns, B.notSynchronized⟩
  have hS : va_S (PA 56 P) s.heap s.heap [] := va_S.rf
  have hl := lv_entry ([.ref (P 0), .int v1, .int v2]) (n := 6) (Nat.le_of_ble_eq_true rfl)
  rw [lg_entry_eq]
  generalize (lg_sl ([.ref (P 0), .int v1, .int v2]) ++ List.replicate (6 - (lg_sl ([.ref (P 0), .int v1, .int v2])).length) Slot.unset).toArray = ls at hl ⊢
  have hl : lv_has ls 6 [(0, .ref (P 0)), (1, .int v1), (2, .int v2)] := hl
  exact e_X8_judge C _ _ _ _ _ _ h  hP hS hl
set_option maxRecDepth 100000 in
set_option maxHeartbeats 4000000 in
theorem e_X8_image {p : Program} {l : Launch} {e : Env} {s : State} {m : MethodId} {args : Array Value} {below : List Frame} {meth : Method} {c : Code} {dC : Nat → ClassId} {dI : Nat → Nat → Nat} {cA : Nat → ClassId} {adK adV P : Nat → Nat} (C : CtxX dC dI cA adK adV P p s m args meth c cX8_image 1 (some .int) RX8) {post : Int32 → St → Prop} : ∀  (S : St) (H : Heap) (locs : List Loc) (ls : Array Slot), w_X8_image  post S → VX dC dI cA P S H → va_S (PA 56 P) s.heap H locs → lv_has ls 1 [(0, .ref (P 0))] → W p l e ({ frames := 2, cells := 0, slots := 0, locals := 44 } : Room) s m args below meth c H locs 0 0 (MQ below (va_Qi post (fun u t => VX dC dI cA P u t.heap) (PA 56 P)) args s 0 0 (PA 56 P)) (F0 m 0 ls []) := by
  have C := C
  obtain ⟨hI, hKX, ⟨hx, hb, hml, hown, hts⟩, hr, hlocks⟩ := id C
  have hK := hKX.1
  intro S H locs ls h hP hS hl
  rw [w_X8_image] at h
  refine lv_aload_n hx hb dX8_image_0 rfl (lv_at hl 0 rfl) ?_
  refine g_get (v := .ref (P 11)) hx hb hts inG_X8 hown hK hP (kX_lt (rfl : kdX 0 = 8)) (eX8 (rfl : kdX 0 = 8)) rfl 6 (by decide) G_fl_X8_52 rfl rfl dX8_image_1 ?_
  refine lv_aload_n hx hb dX8_image_4 rfl (lv_at hl 0 rfl) ?_
  refine g_get (v := .ref (P 1)) hx hb hts inG_X8 hown hK hP (kX_lt (rfl : kdX 0 = 8)) (eX8 (rfl : kdX 0 = 8)) rfl 0 (by decide) G_fl_X8_12 rfl rfl dX8_image_5 ?_
  refine va_callv (va_runV (As := [.ref _]) (rest := []) ⟨hx, hb, hml, hown, hts⟩ (c_X6_becomeLike l hI (rfl : kdX 11 = 6) (rfl : kdX 1 = 6) h) (cwV 1 hts gv_X8_282 rfl rfl rfl hv_X6_becomeLike ⟨Nat.le_of_ble_eq_true rfl, Nat.le_of_ble_eq_true rfl⟩) (preV_X hKX hP hS (kX_lt (rfl : kdX 11 = 6)) (eX6 (rfl : kdX 11 = 6)) rfl) rfl rfl hl.1 rfl (lv_room (Nat.le_of_ble_eq_true rfl)) dX8_image_8 ⟨Nat.le_of_ble_eq_true rfl, Nat.le_of_ble_eq_true rfl⟩) hS (fun _ _ h => h) (fun _ h => h) (fun S1 t H locs ht _ h hB _ _ hS => ?_)
  have hP : VX dC dI cA P S1 H := by rw [← ht]; exact hB
  refine lv_aload_n hx hb dX8_image_11 rfl (lv_at hl 0 rfl) ?_
  refine g_get (v := .ref (P 24)) hx hb hts inG_X8 hown hK hP (kX_lt (rfl : kdX 0 = 8)) (eX8 (rfl : kdX 0 = 8)) rfl 7 (by decide) G_fl_X8_55 rfl rfl dX8_image_12 ?_
  refine lv_aload_n hx hb dX8_image_15 rfl (lv_at hl 0 rfl) ?_
  refine g_get (v := .ref (P 21)) hx hb hts inG_X8 hown hK hP (kX_lt (rfl : kdX 0 = 8)) (eX8 (rfl : kdX 0 = 8)) rfl 1 (by decide) G_fl_X8_21 rfl rfl dX8_image_16 ?_
  refine va_callv (va_runV (As := [.ref _]) (rest := []) ⟨hx, hb, hml, hown, hts⟩ (c_X0_becomeLike l hI (rfl : kdX 24 = 0) (rfl : kdX 21 = 0) h) (cwV 1 hts gv_X8_286 rfl rfl rfl hv_X0_becomeLike ⟨Nat.le_of_ble_eq_true rfl, Nat.le_of_ble_eq_true rfl⟩) (preV_X hKX hP hS (kX_lt (rfl : kdX 24 = 0)) (eX0 (rfl : kdX 24 = 0)) rfl) rfl rfl hl.1 rfl (lv_room (Nat.le_of_ble_eq_true rfl)) dX8_image_19 ⟨Nat.le_of_ble_eq_true rfl, Nat.le_of_ble_eq_true rfl⟩) hS (fun _ _ h => h) (fun _ h => h) (fun S2 t H locs ht _ h hB _ _ hS => ?_)
  have hP : VX dC dI cA P S2 H := by rw [← ht]; exact hB
  refine lv_aload_n hx hb dX8_image_22 rfl (lv_at hl 0 rfl) ?_
  refine lv_iconst (v := 1) hx hb dX8_image_23 (by decide) ?_
  refine g_putI hx hb hts inG_X8 tyX8 tyX8_ok nmX8 hown hK hI hP hS (kX_lt (rfl : kdX 0 = 8)) (eX8 (rfl : kdX 0 = 8)) rfl 8 (by decide) G_fl_X8_58 rfl rfl (ty := .boolean) (by decide +kernel) bz_1.1 bz_1.2 (Nat.le_of_ble_eq_true rfl) rfl h dX8_image_24 (fun S3 H locs h hP hS => ?_)
  refine lv_aload_n hx hb dX8_image_27 rfl (lv_at hl 0 rfl) ?_
  refine g_get (v := .ref (P 1)) hx hb hts inG_X8 hown hK hP (kX_lt (rfl : kdX 0 = 8)) (eX8 (rfl : kdX 0 = 8)) rfl 0 (by decide) G_fl_X8_12 rfl rfl dX8_image_28 ?_
  refine g_get (v := .int (S3.1 1 1)) hx hb hts inG_X6 hown hK hP (kX_lt (rfl : kdX 1 = 6)) (eX6 (rfl : kdX 1 = 6)) rfl 1 (by decide) G_fl_X8_289 rfl rfl dX8_image_31 ?_
  exact g_iret hx hb hr hlocks h hP hS dX8_image_34
set_option maxRecDepth 100000 in
set_option maxHeartbeats 4000000 in
theorem c_X8_image (l : Launch) {dC : Nat → ClassId} {dI : Nat → Nat → Nat} {cA : Nat → ClassId} {adK adV P : Nat → Nat} (hI : PInj 56 P)   {post : Int32 → St → Prop} {S : St} (h : w_X8_image  post S) : Met l yX8_image (wW yX8_image cX8_image 1 (some .int)) ({ frames := 2, cells := 0, slots := 0, locals := 44 } : Room) (va_Pc [.ref (P 0)] (PreX dC dI cA adK adV P S)) (va_Qi post (fun u t => VX dC dI cA P u t.heap) (PA 56 P)) 0 0 (PA 56 P) := by
  refine Met.ofW (cc := cX8_image) (maxL := 1) (ret := (some .int)) (by decide) rfl ?_
  intro p e s m args below meth c s₁ B hml hv
  obtain ⟨rfl, hP, hKX⟩ := hv
  have hts : ∀ w ∈ G, w.before [.ref (P 0)].toArray s = true := fun w hw => atoms_spec (ws := wW yX8_image cX8_image 1 (some .int)) B.pre w (List.mem_cons_of_mem _ hw)
  have C : CtxX dC dI cA adK adV P p s m [.ref (P 0)].toArray meth c cX8_image 1 (some .int) RX8 := ⟨hI, hKX, ⟨B.exec, B.bytes, hml, findClass_of_methodNamed B.named, hts⟩, B.returns, B.notSynchronized⟩
  have hS : va_S (PA 56 P) s.heap s.heap [] := va_S.rf
  have hl := lv_entry ([.ref (P 0)]) (n := 1) (Nat.le_of_ble_eq_true rfl)
  rw [lg_entry_eq]
  generalize (lg_sl ([.ref (P 0)]) ++ List.replicate (1 - (lg_sl ([.ref (P 0)])).length) Slot.unset).toArray = ls at hl ⊢
  have hl : lv_has ls 1 [(0, .ref (P 0))] := hl
  exact e_X8_image C  _ _ _ _ h  hP hS hl
set_option maxRecDepth 100000 in
set_option maxHeartbeats 4000000 in
theorem e_X8_undo {p : Program} {l : Launch} {e : Env} {s : State} {m : MethodId} {args : Array Value} {below : List Frame} {meth : Method} {c : Code} {dC : Nat → ClassId} {dI : Nat → Nat → Nat} {cA : Nat → ClassId} {adK adV P : Nat → Nat} (C : CtxX dC dI cA adK adV P p s m args meth c cX8_undo 1 (some .int) RX8) {post : Int32 → St → Prop} : ∀  (S : St) (H : Heap) (locs : List Loc) (ls : Array Slot), w_X8_undo  post S → VX dC dI cA P S H → va_S (PA 56 P) s.heap H locs → lv_has ls 1 [(0, .ref (P 0))] → W p l e ({ frames := 2, cells := 0, slots := 0, locals := 44 } : Room) s m args below meth c H locs 0 0 (MQ below (va_Qi post (fun u t => VX dC dI cA P u t.heap) (PA 56 P)) args s 0 0 (PA 56 P)) (F0 m 0 ls []) := by
  have C := C
  obtain ⟨hI, hKX, ⟨hx, hb, hml, hown, hts⟩, hr, hlocks⟩ := id C
  have hK := hKX.1
  intro S H locs ls h hP hS hl
  rw [w_X8_undo] at h
  refine lv_aload_n hx hb dX8_undo_0 rfl (lv_at hl 0 rfl) ?_
  refine g_get (v := .int (S.1 0 8)) hx hb hts inG_X8 hown hK hP (kX_lt (rfl : kdX 0 = 8)) (eX8 (rfl : kdX 0 = 8)) rfl 8 (by decide) G_fl_X8_58 rfl rfl dX8_undo_1 ?_
  refine lv_if_ne (tgt := 10) hx hb dX8_undo_4 (by decide) (fun c1 => ?_) (fun c1 => ?_)
  · replace h := h.2 c1
    refine lv_aload_n hx hb dX8_undo_10 rfl (lv_at hl 0 rfl) ?_
    refine g_get (v := .ref (P 1)) hx hb hts inG_X8 hown hK hP (kX_lt (rfl : kdX 0 = 8)) (eX8 (rfl : kdX 0 = 8)) rfl 0 (by decide) G_fl_X8_12 rfl rfl dX8_undo_11 ?_
    refine lv_aload_n hx hb dX8_undo_14 rfl (lv_at hl 0 rfl) ?_
    refine g_get (v := .ref (P 11)) hx hb hts inG_X8 hown hK hP (kX_lt (rfl : kdX 0 = 8)) (eX8 (rfl : kdX 0 = 8)) rfl 6 (by decide) G_fl_X8_52 rfl rfl dX8_undo_15 ?_
    refine va_callv (va_runV (As := [.ref _]) (rest := []) ⟨hx, hb, hml, hown, hts⟩ (c_X6_becomeLike l hI (rfl : kdX 1 = 6) (rfl : kdX 11 = 6) h) (cwV 1 hts gv_X8_282 rfl rfl rfl hv_X6_becomeLike ⟨Nat.le_of_ble_eq_true rfl, Nat.le_of_ble_eq_true rfl⟩) (preV_X hKX hP hS (kX_lt (rfl : kdX 1 = 6)) (eX6 (rfl : kdX 1 = 6)) rfl) rfl rfl hl.1 rfl (lv_room (Nat.le_of_ble_eq_true rfl)) dX8_undo_18 ⟨Nat.le_of_ble_eq_true rfl, Nat.le_of_ble_eq_true rfl⟩) hS (fun _ _ h => h) (fun _ h => h) (fun S2 t H locs ht _ h hB _ _ hS => ?_)
    have hP : VX dC dI cA P S2 H := by rw [← ht]; exact hB
    refine lv_aload_n hx hb dX8_undo_21 rfl (lv_at hl 0 rfl) ?_
    refine g_get (v := .ref (P 21)) hx hb hts inG_X8 hown hK hP (kX_lt (rfl : kdX 0 = 8)) (eX8 (rfl : kdX 0 = 8)) rfl 1 (by decide) G_fl_X8_21 rfl rfl dX8_undo_22 ?_
    refine lv_aload_n hx hb dX8_undo_25 rfl (lv_at hl 0 rfl) ?_
    refine g_get (v := .ref (P 24)) hx hb hts inG_X8 hown hK hP (kX_lt (rfl : kdX 0 = 8)) (eX8 (rfl : kdX 0 = 8)) rfl 7 (by decide) G_fl_X8_55 rfl rfl dX8_undo_26 ?_
    refine va_callv (va_runV (As := [.ref _]) (rest := []) ⟨hx, hb, hml, hown, hts⟩ (c_X0_becomeLike l hI (rfl : kdX 21 = 0) (rfl : kdX 24 = 0) h) (cwV 1 hts gv_X8_286 rfl rfl rfl hv_X0_becomeLike ⟨Nat.le_of_ble_eq_true rfl, Nat.le_of_ble_eq_true rfl⟩) (preV_X hKX hP hS (kX_lt (rfl : kdX 21 = 0)) (eX0 (rfl : kdX 21 = 0)) rfl) rfl rfl hl.1 rfl (lv_room (Nat.le_of_ble_eq_true rfl)) dX8_undo_29 ⟨Nat.le_of_ble_eq_true rfl, Nat.le_of_ble_eq_true rfl⟩) hS (fun _ _ h => h) (fun _ h => h) (fun S3 t H locs ht _ h hB _ _ hS => ?_)
    have hP : VX dC dI cA P S3 H := by rw [← ht]; exact hB
    refine lv_aload_n hx hb dX8_undo_32 rfl (lv_at hl 0 rfl) ?_
    refine g_get (v := .ref (P 1)) hx hb hts inG_X8 hown hK hP (kX_lt (rfl : kdX 0 = 8)) (eX8 (rfl : kdX 0 = 8)) rfl 0 (by decide) G_fl_X8_12 rfl rfl dX8_undo_33 ?_
    refine g_get (v := .int (S3.1 1 1)) hx hb hts inG_X6 hown hK hP (kX_lt (rfl : kdX 1 = 6)) (eX6 (rfl : kdX 1 = 6)) rfl 1 (by decide) G_fl_X8_289 rfl rfl dX8_undo_36 ?_
    exact g_iret hx hb hr hlocks h hP hS dX8_undo_39
  · replace h := h.1 c1
    refine lv_bipush (v := (-5)) hx hb dX8_undo_7 (by decide) ?_
    exact g_iret hx hb hr hlocks h hP hS dX8_undo_9
set_option maxRecDepth 100000 in
set_option maxHeartbeats 4000000 in
theorem c_X8_undo (l : Launch) {dC : Nat → ClassId} {dI : Nat → Nat → Nat} {cA : Nat → ClassId} {adK adV P : Nat → Nat} (hI : PInj 56 P)   {post : Int32 → St → Prop} {S : St} (h : w_X8_undo  post S) : Met l yX8_undo (wW yX8_undo cX8_undo 1 (some .int)) ({ frames := 2, cells := 0, slots := 0, locals := 44 } : Room) (va_Pc [.ref (P 0)] (PreX dC dI cA adK adV P S)) (va_Qi post (fun u t => VX dC dI cA P u t.heap) (PA 56 P)) 0 0 (PA 56 P) := by
  refine Met.ofW (cc := cX8_undo) (maxL := 1) (ret := (some .int)) (by decide) rfl ?_
  intro p e s m args below meth c s₁ B hml hv
  obtain ⟨rfl, hP, hKX⟩ := hv
  have hts : ∀ w ∈ G, w.before [.ref (P 0)].toArray s = true := fun w hw => atoms_spec (ws := wW yX8_undo cX8_undo 1 (some .int)) B.pre w (List.mem_cons_of_mem _ hw)
  have C : CtxX dC dI cA adK adV P p s m [.ref (P 0)].toArray meth c cX8_undo 1 (some .int) RX8 := ⟨hI, hKX, ⟨B.exec, B.bytes, hml, findClass_of_methodNamed B.named, hts⟩, B.returns, B.notSynchronized⟩
  have hS : va_S (PA 56 P) s.heap s.heap [] := va_S.rf
  have hl := lv_entry ([.ref (P 0)]) (n := 1) (Nat.le_of_ble_eq_true rfl)
  rw [lg_entry_eq]
  generalize (lg_sl ([.ref (P 0)]) ++ List.replicate (1 - (lg_sl ([.ref (P 0)])).length) Slot.unset).toArray = ls at hl ⊢
  have hl : lv_has ls 1 [(0, .ref (P 0))] := hl
  exact e_X8_undo C  _ _ _ _ h  hP hS hl
set_option maxRecDepth 100000 in
set_option maxHeartbeats 4000000 in
theorem e_X8_count {p : Program} {l : Launch} {e : Env} {s : State} {m : MethodId} {args : Array Value} {below : List Frame} {meth : Method} {c : Code} {dC : Nat → ClassId} {dI : Nat → Nat → Nat} {cA : Nat → ClassId} {adK adV P : Nat → Nat} (C : CtxX dC dI cA adK adV P p s m args meth c cX8_count 2 (some .int) RX8) {post : Int32 → St → Prop} : ∀ (v1 : Int32) (S : St) (H : Heap) (locs : List Loc) (ls : Array Slot), w_X8_count v1 post S → VX dC dI cA P S H → va_S (PA 56 P) s.heap H locs → lv_has ls 2 [(0, .ref (P 0)), (1, .int v1)] → W p l e ({ frames := 0, cells := 0, slots := 0, locals := 0 } : Room) s m args below meth c H locs 0 0 (MQ below (va_Qi post (fun u t => VX dC dI cA P u t.heap) (PA 56 P)) args s 0 0 (PA 56 P)) (F0 m 0 ls []) := by
  have C := C
  obtain ⟨hI, hKX, ⟨hx, hb, hml, hown, hts⟩, hr, hlocks⟩ := id C
  have hK := hKX.1
  intro v1 S H locs ls h hP hS hl
  rw [w_X8_count] at h
  refine lv_iload_n hx hb dX8_count_0 rfl (lv_at hl 1 rfl) ?_
  by_cases c1 : v1 = 0
  · replace h := h.1 c1
    refine lv_tableIn (off := 31) (tgt := 32) hx hb dX8_count_1 (by rw [c1]; decide) (by rw [c1]; decide) (by rw [c1]; decide) (by decide) ?_
    refine lv_aload_n hx hb dX8_count_32 rfl (lv_at hl 0 rfl) ?_
    refine g_get (v := .ref (P 1)) hx hb hts inG_X8 hown hK hP (kX_lt (rfl : kdX 0 = 8)) (eX8 (rfl : kdX 0 = 8)) rfl 0 (by decide) G_fl_X8_12 rfl rfl dX8_count_33 ?_
    refine g_get (v := .int (S.1 1 1)) hx hb hts inG_X6 hown hK hP (kX_lt (rfl : kdX 1 = 6)) (eX6 (rfl : kdX 1 = 6)) rfl 1 (by decide) G_fl_X8_289 rfl rfl dX8_count_36 ?_
    exact g_iret hx hb hr hlocks h hP hS dX8_count_39
  replace h := h.2 c1
  by_cases c2 : v1 = 1
  · replace h := h.1 c2
    refine lv_tableIn (off := 39) (tgt := 40) hx hb dX8_count_1 (by rw [c2]; decide) (by rw [c2]; decide) (by rw [c2]; decide) (by decide) ?_
    refine lv_aload_n hx hb dX8_count_40 rfl (lv_at hl 0 rfl) ?_
    refine g_get (v := .ref (P 21)) hx hb hts inG_X8 hown hK hP (kX_lt (rfl : kdX 0 = 8)) (eX8 (rfl : kdX 0 = 8)) rfl 1 (by decide) G_fl_X8_21 rfl rfl dX8_count_41 ?_
    refine g_get (v := .int (S.1 21 1)) hx hb hts inG_X0 hown hK hP (kX_lt (rfl : kdX 21 = 0)) (eX0 (rfl : kdX 21 = 0)) rfl 1 (by decide) G_fl_X8_195 rfl rfl dX8_count_44 ?_
    exact g_iret hx hb hr hlocks h hP hS dX8_count_47
  replace h := h.2 c2
  by_cases c3 : v1 = 2
  · replace h := h.1 c3
    refine lv_tableIn (off := 47) (tgt := 48) hx hb dX8_count_1 (by rw [c3]; decide) (by rw [c3]; decide) (by rw [c3]; decide) (by decide) ?_
    refine lv_aload_n hx hb dX8_count_48 rfl (lv_at hl 0 rfl) ?_
    refine g_get (v := .ref (P 21)) hx hb hts inG_X8 hown hK hP (kX_lt (rfl : kdX 0 = 8)) (eX8 (rfl : kdX 0 = 8)) rfl 1 (by decide) G_fl_X8_21 rfl rfl dX8_count_49 ?_
    refine g_get (v := .int (S.1 21 2)) hx hb hts inG_X0 hown hK hP (kX_lt (rfl : kdX 21 = 0)) (eX0 (rfl : kdX 21 = 0)) rfl 2 (by decide) G_fl_X8_290 rfl rfl dX8_count_52 ?_
    exact g_iret hx hb hr hlocks h hP hS dX8_count_55
  replace h := h.2 c3
  by_cases c4 : v1 = 3
  · replace h := h.1 c4
    refine lv_tableIn (off := 55) (tgt := 56) hx hb dX8_count_1 (by rw [c4]; decide) (by rw [c4]; decide) (by rw [c4]; decide) (by decide) ?_
    refine lv_aload_n hx hb dX8_count_56 rfl (lv_at hl 0 rfl) ?_
    refine g_get (v := .ref (P 27)) hx hb hts inG_X8 hown hK hP (kX_lt (rfl : kdX 0 = 8)) (eX8 (rfl : kdX 0 = 8)) rfl 2 (by decide) G_fl_X8_28 rfl rfl dX8_count_57 ?_
    refine g_get (v := .int (S.1 27 1)) hx hb hts inG_X7 hown hK hP (kX_lt (rfl : kdX 27 = 7)) (eX7 (rfl : kdX 27 = 7)) rfl 1 (by decide) G_fl_X8_226 rfl rfl dX8_count_60 ?_
    exact g_iret hx hb hr hlocks h hP hS dX8_count_63
  replace h := h.2 c4
  refine lv_tableOut (tgt := 64) hx hb dX8_count_1 (by have := lv_neT c1 (a := 0) (by decide); have := lv_neT c2 (a := 1) (by decide); have := lv_neT c3 (a := 2) (by decide); have := lv_neT c4 (a := 3) (by decide); omega) (by decide) ?_
  refine lv_iconst (v := (-1)) hx hb dX8_count_64 (by decide) ?_
  exact g_iret hx hb hr hlocks h hP hS dX8_count_65
set_option maxRecDepth 100000 in
set_option maxHeartbeats 4000000 in
theorem c_X8_count (l : Launch) {dC : Nat → ClassId} {dI : Nat → Nat → Nat} {cA : Nat → ClassId} {adK adV P : Nat → Nat} (hI : PInj 56 P) {v1 : Int32}  {post : Int32 → St → Prop} {S : St} (h : w_X8_count v1 post S) : Met l yX8_count (wW yX8_count cX8_count 2 (some .int)) ({ frames := 0, cells := 0, slots := 0, locals := 0 } : Room) (va_Pc [.ref (P 0), .int v1] (PreX dC dI cA adK adV P S)) (va_Qi post (fun u t => VX dC dI cA P u t.heap) (PA 56 P)) 0 0 (PA 56 P) := by
  refine Met.ofW (cc := cX8_count) (maxL := 2) (ret := (some .int)) (by decide) rfl ?_
  intro p e s m args below meth c s₁ B hml hv
  obtain ⟨rfl, hP, hKX⟩ := hv
  have hts : ∀ w ∈ G, w.before [.ref (P 0), .int v1].toArray s = true := fun w hw => atoms_spec (ws := wW yX8_count cX8_count 2 (some .int)) B.pre w (List.mem_cons_of_mem _ hw)
  have C : CtxX dC dI cA adK adV P p s m [.ref (P 0), .int v1].toArray meth c cX8_count 2 (some .int) RX8 := ⟨hI, hKX, ⟨B.exec, B.bytes, hml, findClass_of_methodNamed B.named, hts⟩, B.returns, B.notSynchronized⟩
  have hS : va_S (PA 56 P) s.heap s.heap [] := va_S.rf
  have hl := lv_entry ([.ref (P 0), .int v1]) (n := 2) (Nat.le_of_ble_eq_true rfl)
  rw [lg_entry_eq]
  generalize (lg_sl ([.ref (P 0), .int v1]) ++ List.replicate (2 - (lg_sl ([.ref (P 0), .int v1])).length) Slot.unset).toArray = ls at hl ⊢
  have hl : lv_has ls 2 [(0, .ref (P 0)), (1, .int v1)] := hl
  exact e_X8_count C _ _ _ _ _ h  hP hS hl
