set_option maxRecDepth 100000 in
set_option maxHeartbeats 4000000 in
theorem e_X9_worth {p : Program} {l : Launch} {e : Env} {s : State} {m : MethodId} {args : Array Value} {below : List Frame} {meth : Method} {c : Code} {dC : Nat → ClassId} {dI : Nat → Nat → Nat} {cA : Nat → ClassId} {P : Nat → Nat} (C : CtxM dC dI cA P p s m args meth c cX9_worth 4 (some .long) RX9) {post : Int64 → St → Prop} : ∀ (v0 : Int32) (v1 : Int32) (v2 : Int32) (v3 : Int32) (S : St) (H : Heap) (locs : List Loc) (ls : Array Slot), w_X9_worth v0 v1 v2 v3 post S → VM dC dI cA P S H → va_S (PA 25 P) s.heap H locs → lv_has ls 4 [(0, .int v0), (1, .int v1), (2, .int v2), (3, .int v3)] → W p l e ({ frames := 1, cells := 0, slots := 0, locals := 23 } : Room) s m args below meth c H locs 0 0 (MQ below (va_Ql post (fun u t => VM dC dI cA P u t.heap) (PA 25 P)) args s 0 0 (PA 25 P)) (F0 m 0 ls []) := by
  have C := C
  obtain ⟨hI, hKX, ⟨hx, hb, hml, hown, hts⟩, hr, hlocks⟩ := id C
  have hK := hKX
  intro v0 v1 v2 v3 S H locs ls h hP hS hl
  rw [w_X9_worth] at h
  refine lv_iload_n hx hb dX9_worth_0 rfl (lv_at hl 0 rfl) ?_
  by_cases c1 : v0 = 0
  · replace h := h.1 c1
    refine lv_tableIn (off := 35) (tgt := 36) hx hb dX9_worth_1 (by rw [c1]; decide) (by rw [c1]; decide) (by rw [c1]; decide) (by decide) ?_
    refine lv_iload_n hx hb dX9_worth_36 rfl (lv_at hl 1 rfl) ?_
    refine lv_i2l hx hb dX9_worth_37 rfl ?_
    exact g_lret hx hb hr hlocks h hP hS dX9_worth_38
  replace h := h.2 c1
  by_cases c2 : v0 = 1
  · replace h := h.1 c2
    refine lv_tableIn (off := 38) (tgt := 39) hx hb dX9_worth_1 (by rw [c2]; decide) (by rw [c2]; decide) (by rw [c2]; decide) (by decide) ?_
    refine lv_iload_n hx hb dX9_worth_39 rfl (lv_at hl 1 rfl) ?_
    refine lv_i2l hx hb dX9_worth_40 rfl ?_
    refine lv_iload_n hx hb dX9_worth_41 rfl (lv_at hl 2 rfl) ?_
    refine lv_i2l hx hb dX9_worth_42 rfl ?_
    refine lv_lconst (v := 1) hx hb dX9_worth_43 (by decide) ?_
    refine lv_ladd hx hb dX9_worth_44 ?_
    refine lv_lmul hx hb dX9_worth_45 ?_
    exact g_lret hx hb hr hlocks h hP hS dX9_worth_46
  replace h := h.2 c2
  by_cases c3 : v0 = 2
  · replace h := h.1 c3
    refine lv_tableIn (off := 46) (tgt := 47) hx hb dX9_worth_1 (by rw [c3]; decide) (by rw [c3]; decide) (by rw [c3]; decide) (by decide) ?_
    refine lv_iload_n hx hb dX9_worth_47 rfl (lv_at hl 2 rfl) ?_
    refine lv_iconst (v := 2) hx hb dX9_worth_48 (by decide) ?_
    refine lv_irem hx hb dX9_worth_49 (by decide) ?_
    refine lv_if_ne (tgt := 63) hx hb dX9_worth_50 (by decide) (fun c4 => ?_) (fun c4 => ?_)
    · replace h := h.2 c4
      refine lv_iload_n hx hb dX9_worth_63 rfl (lv_at hl 1 rfl) ?_
      refine lv_ineg hx hb dX9_worth_64 ?_
      refine lv_i2l hx hb dX9_worth_65 rfl ?_
      refine lv_iload_n hx hb dX9_worth_66 rfl (lv_at hl 2 rfl) ?_
      refine lv_i2l hx hb dX9_worth_67 rfl ?_
      refine lv_lconst (v := 1) hx hb dX9_worth_68 (by decide) ?_
      refine lv_ladd hx hb dX9_worth_69 ?_
      refine lv_lmul hx hb dX9_worth_70 ?_
      exact g_lret hx hb hr hlocks h hP hS dX9_worth_71
    · replace h := h.1 c4
      refine lv_iload_n hx hb dX9_worth_53 rfl (lv_at hl 1 rfl) ?_
      refine lv_i2l hx hb dX9_worth_54 rfl ?_
      refine lv_iload_n hx hb dX9_worth_55 rfl (lv_at hl 2 rfl) ?_
      refine lv_i2l hx hb dX9_worth_56 rfl ?_
      refine lv_lconst (v := 1) hx hb dX9_worth_57 (by decide) ?_
      refine lv_ladd hx hb dX9_worth_58 ?_
      refine lv_lmul hx hb dX9_worth_59 ?_
      refine lv_goto (tgt := 71) hx hb dX9_worth_60 (by decide) ?_
      exact g_lret hx hb hr hlocks h hP hS dX9_worth_71
  replace h := h.2 c3
  by_cases c5 : v0 = 3
  · replace h := h.1 c5
    refine lv_tableIn (off := 71) (tgt := 72) hx hb dX9_worth_1 (by rw [c5]; decide) (by rw [c5]; decide) (by rw [c5]; decide) (by decide) ?_
    refine lv_iload_n hx hb dX9_worth_72 rfl (lv_at hl 1 rfl) ?_
    refine lv_i2l hx hb dX9_worth_73 rfl ?_
    refine lv_iload_n hx hb dX9_worth_74 rfl (lv_at hl 1 rfl) ?_
    refine lv_i2l hx hb dX9_worth_75 rfl ?_
    refine lv_lmul hx hb dX9_worth_76 ?_
    exact g_lret hx hb hr hlocks h hP hS dX9_worth_77
  replace h := h.2 c5
  by_cases c6 : v0 = 4
  · replace h := h.1 c6
    refine lv_tableIn (off := 77) (tgt := 78) hx hb dX9_worth_1 (by rw [c6]; decide) (by rw [c6]; decide) (by rw [c6]; decide) (by decide) ?_
    refine lv_iload_n hx hb dX9_worth_78 rfl (lv_at hl 1 rfl) ?_
    refine lv_i2l hx hb dX9_worth_79 rfl ?_
    refine lv_iload_n hx hb dX9_worth_80 rfl (lv_at hl 1 rfl) ?_
    refine lv_i2l hx hb dX9_worth_81 rfl ?_
    refine lv_lmul hx hb dX9_worth_82 ?_
    refine lv_iload_n hx hb dX9_worth_83 rfl (lv_at hl 3 rfl) ?_
    refine lv_i2l hx hb dX9_worth_84 rfl ?_
    refine va_mmin_long hx hb (hml.trans hl.1.symm) hown (hts _ G_ml_X9_200) (hts _ G_st_J9_min_f86c9) (hts _ G_in_J9) (hts _ G_cd_J9_min_f86c9) (Nat.le_of_ble_eq_true rfl) (Nat.le_of_ble_eq_true rfl) (Nat.le_of_ble_eq_true rfl) (Nat.le_of_ble_eq_true rfl) dX9_worth_85 ?_
    exact g_lret hx hb hr hlocks h hP hS dX9_worth_88
  replace h := h.2 c6
  refine lv_tableOut (tgt := 89) hx hb dX9_worth_1 (by have := lv_neT c1 (a := 0) (by decide); have := lv_neT c2 (a := 1) (by decide); have := lv_neT c3 (a := 2) (by decide); have := lv_neT c5 (a := 3) (by decide); have := lv_neT c6 (a := 4) (by decide); omega) (by decide) ?_
  refine lv_iload_n hx hb dX9_worth_89 rfl (lv_at hl 1 rfl) ?_
  refine lv_iload_n hx hb dX9_worth_90 rfl (lv_at hl 3 rfl) ?_
  refine lv_icmp_le (tgt := 98) hx hb dX9_worth_91 (by decide) (fun c7 => ?_) (fun c7 => ?_)
  · replace h := h.1 c7
    refine lv_lconst (v := 0) hx hb dX9_worth_98 (by decide) ?_
    exact g_lret hx hb hr hlocks h hP hS dX9_worth_99
  · replace h := h.2 c7
    refine lv_lconst (v := 1) hx hb dX9_worth_94 (by decide) ?_
    refine lv_goto (tgt := 99) hx hb dX9_worth_95 (by decide) ?_
    exact g_lret hx hb hr hlocks h hP hS dX9_worth_99
set_option maxRecDepth 100000 in
set_option maxHeartbeats 4000000 in
theorem c_X9_worth (l : Launch) {dC : Nat → ClassId} {dI : Nat → Nat → Nat} {cA : Nat → ClassId} {P : Nat → Nat} (hI : PInj 25 P) {v0 : Int32} {v1 : Int32} {v2 : Int32} {v3 : Int32}  {post : Int64 → St → Prop} {S : St} (h : w_X9_worth v0 v1 v2 v3 post S) : Met l yX9_worth (wW yX9_worth cX9_worth 4 (some .long)) ({ frames := 1, cells := 0, slots := 0, locals := 23 } : Room) (va_Pc [.int v0, .int v1, .int v2, .int v3] (PreM dC dI cA P S)) (va_Ql post (fun u t => VM dC dI cA P u t.heap) (PA 25 P)) 0 0 (PA 25 P) := by
  refine Met.ofW (cc := cX9_worth) (maxL := 4) (ret := (some .long)) (by decide) rfl ?_
  intro p e s m args below meth c s₁ B hml hv
  obtain ⟨rfl, hP, hKX⟩ := hv
  have hts : ∀ w ∈ G, w.before [.int v0, .int v1, .int v2, .int v3].toArray s = true := fun w hw => atoms_spec (ws := wW yX9_worth cX9_worth 4 (some .long)) B.pre w (List.mem_cons_of_mem _ hw)
  have C : CtxM dC dI cA P p s m [.int v0, .int v1, .int v2, .int v3].toArray meth c cX9_worth 4 (some .long) RX9 := ⟨hI, hKX, ⟨B.exec, B.bytes, hml, findClass_of_methodNamed B.named, hts⟩, B.returns, B.notSynchronized⟩
  have hS : va_S (PA 25 P) s.heap s.heap [] := va_S.rf
  have hl := lv_entry ([.int v0, .int v1, .int v2, .int v3]) (n := 4) (Nat.le_of_ble_eq_true rfl)
  rw [lg_entry_eq]
  generalize (lg_sl ([.int v0, .int v1, .int v2, .int v3]) ++ List.replicate (4 - (lg_sl ([.int v0, .int v1, .int v2, .int v3])).length) Slot.unset).toArray = ls at hl ⊢
  have hl : lv_has ls 4 [(0, .int v0), (1, .int v1), (2, .int v2), (3, .int v3)] := hl
  exact e_X9_worth C _ _ _ _ _ _ _ _ h  hP hS hl
set_option maxRecDepth 100000 in
set_option maxHeartbeats 4000000 in
theorem b_X9_tells_47 {p : Program} {l : Launch} {e : Env} {s : State} {m : MethodId} {args : Array Value} {below : List Frame} {meth : Method} {c : Code} {dC : Nat → ClassId} {dI : Nat → Nat → Nat} {cA : Nat → ClassId} {P : Nat → Nat} (C : CtxM dC dI cA P p s m args meth c cX9_tells 7 (some .long) RX9) {post : Int64 → St → Prop}  : ∀ (n : Nat) (v2 : Int32) (v3 : Int32) (v4 : Int64) (v6 : Int32) (S : St) (H : Heap) (locs : List Loc) (ls : Array Slot), w_X9_tells_47 post n v2 v3 v4 v6 S → VM dC dI cA P S H → va_S (PA 25 P) s.heap H locs → lv_has ls 7 [(0, .ref (P 0)), (2, .int v2), (3, .int v3), (4, .long v4), (6, .int v6)] → W p l e ({ frames := 2, cells := 0, slots := 0, locals := 47 } : Room) s m args below meth c H locs 0 0 (MQ below (va_Ql post (fun u t => VM dC dI cA P u t.heap) (PA 25 P)) args s 0 0 (PA 25 P)) (F0 m 47 ls []) := by
  have C := C
  obtain ⟨hI, hKX, ⟨hx, hb, hml, hown, hts⟩, hr, hlocks⟩ := id C
  have hK := hKX
  intro n
  induction n with
  | zero =>
    intro v2 v3 v4 v6 S H locs ls h hP hS hl
    simp only [w_X9_tells_47] at h
  | succ n ih =>
    intro v2 v3 v4 v6 S H locs ls h hP hS hl
    rw [w_X9_tells_47] at h
    refine lv_iload hx hb dX9_tells_47 (lv_at hl 4 rfl) ?_
    refine lv_aload_n hx hb dX9_tells_49 rfl (lv_at hl 0 rfl) ?_
    refine g_get (v := .int (S.1 0 5)) hx hb hts inG_X9 hown hK hP (kM_lt (rfl : kdM 0 = 9)) (eM9 (rfl : kdM 0 = 9)) rfl 5 (by decide) G_fl_X9_103 rfl rfl dX9_tells_50 ?_
    refine lv_icmp_ge (tgt := 86) hx hb dX9_tells_53 (by decide) (fun c13 => ?_) (fun c13 => ?_)
    · replace h := h.1 c13
      refine lv_lload hx hb dX9_tells_86 (lv_at hl 3 rfl) ?_
      exact g_lret hx hb hr hlocks h hP hS dX9_tells_88
    · replace h := h.2 c13
      refine lv_lload hx hb dX9_tells_56 (lv_at hl 3 rfl) ?_
      refine lv_iload_n hx hb dX9_tells_58 rfl (lv_at hl 1 rfl) ?_
      refine lv_aload_n hx hb dX9_tells_59 rfl (lv_at hl 0 rfl) ?_
      refine g_get (v := .ref (P 6)) hx hb hts inG_X9 hown hK hP (kM_lt (rfl : kdM 0 = 9)) (eM9 (rfl : kdM 0 = 9)) rfl 9 (by decide) G_fl_X9_27 rfl rfl dX9_tells_60 ?_
      refine lv_aload_n hx hb dX9_tells_63 rfl (lv_at hl 0 rfl) ?_
      refine g_get (v := .int (S.1 0 4)) hx hb hts inG_X9 hown hK hP (kM_lt (rfl : kdM 0 = 9)) (eM9 (rfl : kdM 0 = 9)) rfl 4 (by decide) G_fl_X9_100 rfl rfl dX9_tells_64 ?_
      refine lv_iload hx hb dX9_tells_67 (lv_at hl 4 rfl) ?_
      refine lv_iadd hx hb dX9_tells_69 ?_
      replace h := h _ rfl
      refine g_ald hx hb hK hP (kM_lt (rfl : kdM 6 = 10)) 0 (eM10 (rfl : kdM 6 = 10)) rfl h.1 dX9_tells_70 ?_
      replace h := h.2
      refine lv_iload hx hb dX9_tells_71 (lv_at hl 4 rfl) ?_
      refine lv_iload_n hx hb dX9_tells_73 rfl (lv_at hl 2 rfl) ?_
      replace h := h _ rfl
      refine va_calll (va_runS (As := [.int _, .int _, .int _, .int _]) (rest := [.long _]) ⟨hx, hb, hml, hown, hts⟩ (c_X9_worth l hI h) (va_cwS 4 hts gs_X9_209 rfl rfl rfl hd_X9_worth ⟨Nat.le_of_ble_eq_true rfl, Nat.le_of_ble_eq_true rfl⟩) (preS_M hKX hP hS) rfl rfl hl.1 rfl (lv_room (Nat.le_of_ble_eq_true rfl)) dX9_tells_74 ⟨Nat.le_of_ble_eq_true rfl, Nat.le_of_ble_eq_true rfl⟩) hS (fun _ _ h => h) (fun _ h => h) (fun r17 S16 t H locs ht _ h hB _ _ hS => ?_)
      have hP : VM dC dI cA P S16 H := by rw [← ht]; exact hB
      refine lv_ladd hx hb dX9_tells_77 ?_
      refine lv_topl (fun x18 ex18 => ?_)
      replace h := h x18 ex18
      refine lv_lstore (lv' := [(4, .long x18), (0, .ref (P 0)), (2, .int v2), (3, .int v3), (6, .int v6)]) hx hb dX9_tells_78 hl (by decide) rfl (fun ls hl => ?_)
      obtain ⟨x19, ex19⟩ : ∃ y : Int32, y = v6 + 1 := ⟨_, rfl⟩
      replace h := h x19 ex19
      refine lv_iinc (v := x19) (lv' := [(6, .int x19), (4, .long x18), (0, .ref (P 0)), (2, .int v2), (3, .int v3)]) hx hb dX9_tells_80 hl (k := 4) rfl (by rw [ex19]; rfl) (by decide) rfl (fun ls hl => ?_)
      refine lv_goto (tgt := 47) hx hb dX9_tells_83 (by decide) ?_
      exact ih _ _ _ _ _ _ _ _ h  hP hS (lv_sub hl [2, 3, 4, 1, 0] rfl)
set_option maxRecDepth 100000 in
set_option maxHeartbeats 4000000 in
theorem e_X9_tells {p : Program} {l : Launch} {e : Env} {s : State} {m : MethodId} {args : Array Value} {below : List Frame} {meth : Method} {c : Code} {dC : Nat → ClassId} {dI : Nat → Nat → Nat} {cA : Nat → ClassId} {P : Nat → Nat} (C : CtxM dC dI cA P p s m args meth c cX9_tells 7 (some .long) RX9) {post : Int64 → St → Prop} : ∀ (v1 : Int32) (v2 : Int32) (v3 : Int32) (S : St) (H : Heap) (locs : List Loc) (ls : Array Slot), w_X9_tells v1 v2 v3 post S → VM dC dI cA P S H → va_S (PA 25 P) s.heap H locs → lv_has ls 7 [(0, .ref (P 0)), (1, .int v1), (2, .int v2), (3, .int v3)] → W p l e ({ frames := 2, cells := 0, slots := 0, locals := 47 } : Room) s m args below meth c H locs 0 0 (MQ below (va_Ql post (fun u t => VM dC dI cA P u t.heap) (PA 25 P)) args s 0 0 (PA 25 P)) (F0 m 0 ls []) := by
  have C := C
  obtain ⟨hI, hKX, ⟨hx, hb, hml, hown, hts⟩, hr, hlocks⟩ := id C
  have hK := hKX
  intro v1 v2 v3 S H locs ls h hP hS hl
  rw [w_X9_tells] at h
  refine lv_aload_n hx hb dX9_tells_0 rfl (lv_at hl 0 rfl) ?_
  refine lv_iload_n hx hb dX9_tells_1 rfl (lv_at hl 1 rfl) ?_
  refine va_calli (va_runV (As := [.int _]) (rest := []) ⟨hx, hb, hml, hown, hts⟩ (c_X9_isFraction l hI h) (cwV 1 hts gv_X9_126 rfl rfl rfl hv_X9_isFraction ⟨Nat.le_of_ble_eq_true rfl, Nat.le_of_ble_eq_true rfl⟩) (preV_M hKX hP hS (kM_lt (rfl : kdM 0 = 9)) (eM9 (rfl : kdM 0 = 9)) rfl) rfl rfl hl.1 rfl (lv_room (Nat.le_of_ble_eq_true rfl)) dX9_tells_2 ⟨Nat.le_of_ble_eq_true rfl, Nat.le_of_ble_eq_true rfl⟩) hS (fun _ _ h => h) (fun _ h => h) (fun r2 S1 t H locs ht _ h hB _ _ hS => ?_)
  have hP : VM dC dI cA P S1 H := by rw [← ht]; exact hB
  refine lv_if_eq (tgt := 32) hx hb dX9_tells_5 (by decide) (fun c3 => ?_) (fun c3 => ?_)
  · replace h := h.1 c3
    refine lv_ldc2 (v := (-9223372036854775808)) hx hb hown (hts _ G_co_X9_207) dX9_tells_32 ?_
    exact g_lret hx hb hr hlocks h hP hS dX9_tells_35
  · replace h := h.2 c3
    refine lv_iload_n hx hb dX9_tells_8 rfl (lv_at hl 2 rfl) ?_
    refine lv_i2l hx hb dX9_tells_9 rfl ?_
    refine lv_lconst (v := 0) hx hb dX9_tells_10 (by decide) ?_
    refine lv_ldc2 (v := 5) hx hb hown (hts _ G_co_X9_203) dX9_tells_11 ?_
    replace h := h _ rfl
    refine va_calli (va_runS (As := [.long _, .long _, .long _]) (rest := []) ⟨hx, hb, hml, hown, hts⟩ (c_X9_isIn l hI h) (va_cwS 3 hts gs_X9_92 rfl rfl rfl hd_X9_isIn ⟨Nat.le_of_ble_eq_true rfl, Nat.le_of_ble_eq_true rfl⟩) (preS_M hKX hP hS) rfl rfl hl.1 rfl (lv_room (Nat.le_of_ble_eq_true rfl)) dX9_tells_14 ⟨Nat.le_of_ble_eq_true rfl, Nat.le_of_ble_eq_true rfl⟩) hS (fun _ _ h => h) (fun _ h => h) (fun r6 S5 t H locs ht _ h hB _ _ hS => ?_)
    have hP : VM dC dI cA P S5 H := by rw [← ht]; exact hB
    refine lv_if_eq (tgt := 32) hx hb dX9_tells_17 (by decide) (fun c7 => ?_) (fun c7 => ?_)
    · replace h := h.1 c7
      refine lv_ldc2 (v := (-9223372036854775808)) hx hb hown (hts _ G_co_X9_207) dX9_tells_32 ?_
      exact g_lret hx hb hr hlocks h hP hS dX9_tells_35
    · replace h := h.2 c7
      refine lv_iload_n hx hb dX9_tells_20 rfl (lv_at hl 3 rfl) ?_
      refine lv_i2l hx hb dX9_tells_21 rfl ?_
      refine lv_lconst (v := 0) hx hb dX9_tells_22 (by decide) ?_
      refine lv_ldc2 (v := 99) hx hb hown (hts _ G_co_X9_205) dX9_tells_23 ?_
      replace h := h _ rfl
      refine va_calli (va_runS (As := [.long _, .long _, .long _]) (rest := []) ⟨hx, hb, hml, hown, hts⟩ (c_X9_isIn l hI h) (va_cwS 3 hts gs_X9_92 rfl rfl rfl hd_X9_isIn ⟨Nat.le_of_ble_eq_true rfl, Nat.le_of_ble_eq_true rfl⟩) (preS_M hKX hP hS) rfl rfl hl.1 rfl (lv_room (Nat.le_of_ble_eq_true rfl)) dX9_tells_26 ⟨Nat.le_of_ble_eq_true rfl, Nat.le_of_ble_eq_true rfl⟩) hS (fun _ _ h => h) (fun _ h => h) (fun r10 S9 t H locs ht _ h hB _ _ hS => ?_)
      have hP : VM dC dI cA P S9 H := by rw [← ht]; exact hB
      refine lv_if_ne (tgt := 36) hx hb dX9_tells_29 (by decide) (fun c11 => ?_) (fun c11 => ?_)
      · replace h := h.2 c11
        refine lv_aload_n hx hb dX9_tells_36 rfl (lv_at hl 0 rfl) ?_
        refine lv_iload_n hx hb dX9_tells_37 rfl (lv_at hl 1 rfl) ?_
        refine va_callv (va_runV (As := [.int _]) (rest := []) ⟨hx, hb, hml, hown, hts⟩ (c_X9_looksAt l hI h) (cwV 1 hts gv_X9_137 rfl rfl rfl hv_X9_looksAt ⟨Nat.le_of_ble_eq_true rfl, Nat.le_of_ble_eq_true rfl⟩) (preV_M hKX hP hS (kM_lt (rfl : kdM 0 = 9)) (eM9 (rfl : kdM 0 = 9)) rfl) rfl rfl hl.1 rfl (lv_room (Nat.le_of_ble_eq_true rfl)) dX9_tells_38 ⟨Nat.le_of_ble_eq_true rfl, Nat.le_of_ble_eq_true rfl⟩) hS (fun _ _ h => h) (fun _ h => h) (fun S12 t H locs ht _ h hB _ _ hS => ?_)
        have hP : VM dC dI cA P S12 H := by rw [← ht]; exact hB
        refine lv_lconst (v := 0) hx hb dX9_tells_41 (by decide) ?_
        refine lv_lstore (lv' := [(4, .long 0), (0, .ref (P 0)), (1, .int v1), (2, .int v2), (3, .int v3)]) hx hb dX9_tells_42 hl (by decide) rfl (fun ls hl => ?_)
        refine lv_iconst (v := 0) hx hb dX9_tells_44 (by decide) ?_
        refine lv_istore (lv' := [(6, .int 0), (4, .long 0), (0, .ref (P 0)), (1, .int v1), (2, .int v2), (3, .int v3)]) hx hb dX9_tells_45 hl (by decide) rfl (fun ls hl => ?_)
        obtain ⟨n20, h⟩ := h
        exact b_X9_tells_47 C n20 _ _ _ _ _ _ _ _ h  hP hS (lv_sub hl [2, 4, 5, 1, 0] rfl)
      · replace h := h.1 c11
        refine lv_ldc2 (v := (-9223372036854775808)) hx hb hown (hts _ G_co_X9_207) dX9_tells_32 ?_
        exact g_lret hx hb hr hlocks h hP hS dX9_tells_35
set_option maxRecDepth 100000 in
set_option maxHeartbeats 4000000 in
theorem c_X9_tells (l : Launch) {dC : Nat → ClassId} {dI : Nat → Nat → Nat} {cA : Nat → ClassId} {P : Nat → Nat} (hI : PInj 25 P) {v1 : Int32} {v2 : Int32} {v3 : Int32}  {post : Int64 → St → Prop} {S : St} (h : w_X9_tells v1 v2 v3 post S) : Met l yX9_tells (wW yX9_tells cX9_tells 7 (some .long)) ({ frames := 2, cells := 0, slots := 0, locals := 47 } : Room) (va_Pc [.ref (P 0), .int v1, .int v2, .int v3] (PreM dC dI cA P S)) (va_Ql post (fun u t => VM dC dI cA P u t.heap) (PA 25 P)) 0 0 (PA 25 P) := by
  refine Met.ofW (cc := cX9_tells) (maxL := 7) (ret := (some .long)) (by decide) rfl ?_
  intro p e s m args below meth c s₁ B hml hv
  obtain ⟨rfl, hP, hKX⟩ := hv
  have hts : ∀ w ∈ G, w.before [.ref (P 0), .int v1, .int v2, .int v3].toArray s = true := fun w hw => atoms_spec (ws := wW yX9_tells cX9_tells 7 (some .long)) B.pre w (List.mem_cons_of_mem _ hw)
  have C : CtxM dC dI cA P p s m [.ref (P 0), .int v1, .int v2, .int v3].toArray meth c cX9_tells 7 (some .long) RX9 := ⟨hI, hKX, ⟨B.exec, B.bytes, hml, findClass_of_methodNamed B.named, hts⟩, B.returns, B.notSynchronized⟩
  have hS : va_S (PA 25 P) s.heap s.heap [] := va_S.rf
  have hl := lv_entry ([.ref (P 0), .int v1, .int v2, .int v3]) (n := 7) (Nat.le_of_ble_eq_true rfl)
  rw [lg_entry_eq]
  generalize (lg_sl ([.ref (P 0), .int v1, .int v2, .int v3]) ++ List.replicate (7 - (lg_sl ([.ref (P 0), .int v1, .int v2, .int v3])).length) Slot.unset).toArray = ls at hl ⊢
  have hl : lv_has ls 7 [(0, .ref (P 0)), (1, .int v1), (2, .int v2), (3, .int v3)] := hl
  exact e_X9_tells C _ _ _ _ _ _ _ h  hP hS hl
set_option maxRecDepth 100000 in
set_option maxHeartbeats 4000000 in
theorem b_X9_feed_32 {p : Program} {l : Launch} {e : Env} {s : State} {m : MethodId} {args : Array Value} {below : List Frame} {meth : Method} {c : Code} {dC : Nat → ClassId} {dI : Nat → Nat → Nat} {cA : Nat → ClassId} {P : Nat → Nat} (C : CtxM dC dI cA P p s m args meth c cX9_feed 4 (some .int) RX9) {post : Int32 → St → Prop}  : ∀ (n : Nat) (v1 : Int32) (v3 : Int32) (S : St) (H : Heap) (locs : List Loc) (ls : Array Slot), w_X9_feed_32 post n v1 v3 S → VM dC dI cA P S H → va_S (PA 25 P) s.heap H locs → lv_has ls 4 [(0, .ref (P 0)), (1, .int v1), (3, .int v3)] → W p l e ({ frames := 1, cells := 0, slots := 0, locals := 25 } : Room) s m args below meth c H locs 0 0 (MQ below (va_Qi post (fun u t => VM dC dI cA P u t.heap) (PA 25 P)) args s 0 0 (PA 25 P)) (F0 m 32 ls []) := by
  have C := C
  obtain ⟨hI, hKX, ⟨hx, hb, hml, hown, hts⟩, hr, hlocks⟩ := id C
  have hK := hKX
  intro n
  induction n with
  | zero =>
    intro v1 v3 S H locs ls h hP hS hl
    simp only [w_X9_feed_32] at h
  | succ n ih =>
    intro v1 v3 S H locs ls h hP hS hl
    rw [w_X9_feed_32] at h
    refine lv_iload_n hx hb dX9_feed_32 rfl (lv_at hl 2 rfl) ?_
    refine lv_if_lt (tgt := 71) hx hb dX9_feed_33 (by decide) (fun c7 => ?_) (fun c7 => ?_)
    · replace h := h.1 c7
      refine lv_aload_n hx hb dX9_feed_71 rfl (lv_at hl 0 rfl) ?_
      refine g_get (v := .int (S.1 0 21)) hx hb hts inG_X9 hown hK hP (kM_lt (rfl : kdM 0 = 9)) (eM9 (rfl : kdM 0 = 9)) rfl 21 (by decide) G_fl_X9_215 rfl rfl dX9_feed_72 ?_
      exact g_iret hx hb hr hlocks h hP hS dX9_feed_75
    · replace h := h.2 c7
      refine lv_aload_n hx hb dX9_feed_36 rfl (lv_at hl 0 rfl) ?_
      refine g_get (v := .ref (P 13)) hx hb hts inG_X9 hown hK hP (kM_lt (rfl : kdM 0 = 9)) (eM9 (rfl : kdM 0 = 9)) rfl 20 (by decide) G_fl_X9_53 rfl rfl dX9_feed_37 ?_
      refine lv_aload_n hx hb dX9_feed_40 rfl (lv_at hl 0 rfl) ?_
      refine g_get (v := .int (S.1 0 21)) hx hb hts inG_X9 hown hK hP (kM_lt (rfl : kdM 0 = 9)) (eM9 (rfl : kdM 0 = 9)) rfl 21 (by decide) G_fl_X9_215 rfl rfl dX9_feed_41 ?_
      refine lv_iload_n hx hb dX9_feed_44 rfl (lv_at hl 1 rfl) ?_
      refine lv_bipush (v := 8) hx hb dX9_feed_45 (by decide) ?_
      refine lv_iload_n hx hb dX9_feed_47 rfl (lv_at hl 2 rfl) ?_
      refine lv_imul hx hb dX9_feed_48 ?_
      refine lv_iushr (v := iush _ _) hx hb dX9_feed_49 rfl ?_
      refine lv_sipush (v := 255) hx hb dX9_feed_50 (by decide) ?_
      refine lv_iand hx hb dX9_feed_53 ?_
      replace h := h _ rfl
      replace h := h _ rfl
      refine g_ast hx hb hK hI hP hS (kM_lt (rfl : kdM 13 = 10)) 0 (eM10 (rfl : kdM 13 = 10)) rfl h.1 h.2 dX9_feed_54 (fun S10 H locs h hP hS => ?_)
      refine lv_aload_n hx hb dX9_feed_55 rfl (lv_at hl 0 rfl) ?_
      refine lv_dup hx hb dX9_feed_56 rfl ?_
      refine g_get (v := .int (S10.1 0 21)) hx hb hts inG_X9 hown hK hP (kM_lt (rfl : kdM 0 = 9)) (eM9 (rfl : kdM 0 = 9)) rfl 21 (by decide) G_fl_X9_215 rfl rfl dX9_feed_57 ?_
      refine lv_iconst (v := 1) hx hb dX9_feed_60 (by decide) ?_
      refine lv_iadd hx hb dX9_feed_61 ?_
      replace h := h _ rfl
      refine g_putI hx hb hts inG_X9 tyX9 tyX9_ok nmX9 hown hK hI hP hS (kM_lt (rfl : kdM 0 = 9)) (eM9 (rfl : kdM 0 = 9)) rfl 21 (by decide) G_fl_X9_215 rfl rfl (ty := .int) (by decide +kernel) rfl rfl (Nat.le_of_ble_eq_true rfl) rfl h dX9_feed_62 (fun S12 H locs h hP hS => ?_)
      obtain ⟨x13, ex13⟩ : ∃ y : Int32, y = v3 + (-1) := ⟨_, rfl⟩
      replace h := h x13 ex13
      refine lv_iinc (v := x13) (lv' := [(3, .int x13), (0, .ref (P 0)), (1, .int v1)]) hx hb dX9_feed_65 hl (k := 2) rfl (by rw [ex13]; rfl) (by decide) rfl (fun ls hl => ?_)
      refine lv_goto (tgt := 32) hx hb dX9_feed_68 (by decide) ?_
      exact ih _ _ _ _ _ _ h  hP hS (lv_sub hl [1, 2, 0] rfl)
set_option maxRecDepth 100000 in
set_option maxHeartbeats 4000000 in
theorem e_X9_feed {p : Program} {l : Launch} {e : Env} {s : State} {m : MethodId} {args : Array Value} {below : List Frame} {meth : Method} {c : Code} {dC : Nat → ClassId} {dI : Nat → Nat → Nat} {cA : Nat → ClassId} {P : Nat → Nat} (C : CtxM dC dI cA P p s m args meth c cX9_feed 4 (some .int) RX9) {post : Int32 → St → Prop} : ∀ (v1 : Int32) (v2 : Int32) (S : St) (H : Heap) (locs : List Loc) (ls : Array Slot), w_X9_feed v1 v2 post S → VM dC dI cA P S H → va_S (PA 25 P) s.heap H locs → lv_has ls 4 [(0, .ref (P 0)), (1, .int v1), (2, .int v2)] → W p l e ({ frames := 1, cells := 0, slots := 0, locals := 25 } : Room) s m args below meth c H locs 0 0 (MQ below (va_Qi post (fun u t => VM dC dI cA P u t.heap) (PA 25 P)) args s 0 0 (PA 25 P)) (F0 m 0 ls []) := by
  have C := C
  obtain ⟨hI, hKX, ⟨hx, hb, hml, hown, hts⟩, hr, hlocks⟩ := id C
  have hK := hKX
  intro v1 v2 S H locs ls h hP hS hl
  rw [w_X9_feed] at h
  refine lv_iload_n hx hb dX9_feed_0 rfl (lv_at hl 2 rfl) ?_
  refine lv_i2l hx hb dX9_feed_1 rfl ?_
  refine lv_lconst (v := 1) hx hb dX9_feed_2 (by decide) ?_
  refine lv_ldc2 (v := 4) hx hb hown (hts _ G_co_X9_213) dX9_feed_3 ?_
  replace h := h _ rfl
  refine va_calli (va_runS (As := [.long _, .long _, .long _]) (rest := []) ⟨hx, hb, hml, hown, hts⟩ (c_X9_isIn l hI h) (va_cwS 3 hts gs_X9_92 rfl rfl rfl hd_X9_isIn ⟨Nat.le_of_ble_eq_true rfl, Nat.le_of_ble_eq_true rfl⟩) (preS_M hKX hP hS) rfl rfl hl.1 rfl (lv_room (Nat.le_of_ble_eq_true rfl)) dX9_feed_6 ⟨Nat.le_of_ble_eq_true rfl, Nat.le_of_ble_eq_true rfl⟩) hS (fun _ _ h => h) (fun _ h => h) (fun r3 S2 t H locs ht _ h hB _ _ hS => ?_)
  have hP : VM dC dI cA P S2 H := by rw [← ht]; exact hB
  refine lv_if_ne (tgt := 14) hx hb dX9_feed_9 (by decide) (fun c4 => ?_) (fun c4 => ?_)
  · replace h := h.2 c4
    refine lv_aload_n hx hb dX9_feed_14 rfl (lv_at hl 0 rfl) ?_
    refine g_get (v := .int (S2.1 0 21)) hx hb hts inG_X9 hown hK hP (kM_lt (rfl : kdM 0 = 9)) (eM9 (rfl : kdM 0 = 9)) rfl 21 (by decide) G_fl_X9_215 rfl rfl dX9_feed_15 ?_
    refine lv_iload_n hx hb dX9_feed_18 rfl (lv_at hl 2 rfl) ?_
    refine lv_iadd hx hb dX9_feed_19 ?_
    refine lv_bipush (v := 80) hx hb dX9_feed_20 (by decide) ?_
    refine lv_icmp_le (tgt := 28) hx hb dX9_feed_22 (by decide) (fun c5 => ?_) (fun c5 => ?_)
    · replace h := h.1 c5
      refine lv_iload_n hx hb dX9_feed_28 rfl (lv_at hl 2 rfl) ?_
      refine lv_iconst (v := 1) hx hb dX9_feed_29 (by decide) ?_
      refine lv_isub hx hb dX9_feed_30 ?_
      refine lv_topi (fun x6 ex6 => ?_)
      replace h := h x6 ex6
      refine lv_istore_n (lv' := [(3, .int x6), (0, .ref (P 0)), (1, .int v1), (2, .int v2)]) hx hb dX9_feed_31 rfl hl (by decide) rfl (fun ls hl => ?_)
      obtain ⟨n14, h⟩ := h
      exact b_X9_feed_32 C n14 _ _ _ _ _ _ h  hP hS (lv_sub hl [1, 2, 0] rfl)
    · replace h := h.2 c5
      refine lv_bipush (v := (-3)) hx hb dX9_feed_25 (by decide) ?_
      exact g_iret hx hb hr hlocks h hP hS dX9_feed_27
  · replace h := h.1 c4
    refine lv_iconst (v := (-1)) hx hb dX9_feed_12 (by decide) ?_
    exact g_iret hx hb hr hlocks h hP hS dX9_feed_13
set_option maxRecDepth 100000 in
set_option maxHeartbeats 4000000 in
theorem c_X9_feed (l : Launch) {dC : Nat → ClassId} {dI : Nat → Nat → Nat} {cA : Nat → ClassId} {P : Nat → Nat} (hI : PInj 25 P) {v1 : Int32} {v2 : Int32}  {post : Int32 → St → Prop} {S : St} (h : w_X9_feed v1 v2 post S) : Met l yX9_feed (wW yX9_feed cX9_feed 4 (some .int)) ({ frames := 1, cells := 0, slots := 0, locals := 25 } : Room) (va_Pc [.ref (P 0), .int v1, .int v2] (PreM dC dI cA P S)) (va_Qi post (fun u t => VM dC dI cA P u t.heap) (PA 25 P)) 0 0 (PA 25 P) := by
  refine Met.ofW (cc := cX9_feed) (maxL := 4) (ret := (some .int)) (by decide) rfl ?_
  intro p e s m args below meth c s₁ B hml hv
  obtain ⟨rfl, hP, hKX⟩ := hv
  have hts : ∀ w ∈ G, w.before [.ref (P 0), .int v1, .int v2].toArray s = true := fun w hw => atoms_spec (ws := wW yX9_feed cX9_feed 4 (some .int)) B.pre w (List.mem_cons_of_mem _ hw)
  have C : CtxM dC dI cA P p s m [.ref (P 0), .int v1, .int v2].toArray meth c cX9_feed 4 (some .int) RX9 := ⟨hI, hKX, ⟨B.exec, B.bytes, hml, findClass_of_methodNamed B.named, hts⟩, B.returns, B.notSynchronized⟩
  have hS : va_S (PA 25 P) s.heap s.heap [] := va_S.rf
  have hl := lv_entry ([.ref (P 0), .int v1, .int v2]) (n := 4) (Nat.le_of_ble_eq_true rfl)
  rw [lg_entry_eq]
  generalize (lg_sl ([.ref (P 0), .int v1, .int v2]) ++ List.replicate (4 - (lg_sl ([.ref (P 0), .int v1, .int v2])).length) Slot.unset).toArray = ls at hl ⊢
  have hl : lv_has ls 4 [(0, .ref (P 0)), (1, .int v1), (2, .int v2)] := hl
  exact e_X9_feed C _ _ _ _ _ _ h  hP hS hl
set_option maxRecDepth 100000 in
set_option maxHeartbeats 4000000 in
theorem e_X9_wipe {p : Program} {l : Launch} {e : Env} {s : State} {m : MethodId} {args : Array Value} {below : List Frame} {meth : Method} {c : Code} {dC : Nat → ClassId} {dI : Nat → Nat → Nat} {cA : Nat → ClassId} {P : Nat → Nat} (C : CtxM dC dI cA P p s m args meth c cX9_wipe 2 (some .int) RX9) {post : Int32 → St → Prop} : ∀  (S : St) (H : Heap) (locs : List Loc) (ls : Array Slot), w_X9_wipe  post S → VM dC dI cA P S H → va_S (PA 25 P) s.heap H locs → lv_has ls 2 [(0, .ref (P 0))] → W p l e ({ frames := 0, cells := 0, slots := 0, locals := 0 } : Room) s m args below meth c H locs 0 0 (MQ below (va_Qi post (fun u t => VM dC dI cA P u t.heap) (PA 25 P)) args s 0 0 (PA 25 P)) (F0 m 0 ls []) := by
  have C := C
  obtain ⟨hI, hKX, ⟨hx, hb, hml, hown, hts⟩, hr, hlocks⟩ := id C
  have hK := hKX
  intro S H locs ls h hP hS hl
  rw [w_X9_wipe] at h
  refine lv_aload_n hx hb dX9_wipe_0 rfl (lv_at hl 0 rfl) ?_
  refine g_get (v := .int (S.1 0 21)) hx hb hts inG_X9 hown hK hP (kM_lt (rfl : kdM 0 = 9)) (eM9 (rfl : kdM 0 = 9)) rfl 21 (by decide) G_fl_X9_215 rfl rfl dX9_wipe_1 ?_
  refine lv_topi (fun x1 ex1 => ?_)
  replace h := h x1 ex1
  refine lv_istore_n (lv' := [(1, .int x1), (0, .ref (P 0))]) hx hb dX9_wipe_4 rfl hl (by decide) rfl (fun ls hl => ?_)
  refine lv_aload_n hx hb dX9_wipe_5 rfl (lv_at hl 1 rfl) ?_
  refine lv_iconst (v := 0) hx hb dX9_wipe_6 (by decide) ?_
  refine g_putI hx hb hts inG_X9 tyX9 tyX9_ok nmX9 hown hK hI hP hS (kM_lt (rfl : kdM 0 = 9)) (eM9 (rfl : kdM 0 = 9)) rfl 21 (by decide) G_fl_X9_215 rfl rfl (ty := .int) (by decide +kernel) rfl rfl (Nat.le_of_ble_eq_true rfl) rfl h dX9_wipe_7 (fun S2 H locs h hP hS => ?_)
  refine lv_iload_n hx hb dX9_wipe_10 rfl (lv_at hl 0 rfl) ?_
  exact g_iret hx hb hr hlocks h hP hS dX9_wipe_11
set_option maxRecDepth 100000 in
set_option maxHeartbeats 4000000 in
theorem c_X9_wipe (l : Launch) {dC : Nat → ClassId} {dI : Nat → Nat → Nat} {cA : Nat → ClassId} {P : Nat → Nat} (hI : PInj 25 P)   {post : Int32 → St → Prop} {S : St} (h : w_X9_wipe  post S) : Met l yX9_wipe (wW yX9_wipe cX9_wipe 2 (some .int)) ({ frames := 0, cells := 0, slots := 0, locals := 0 } : Room) (va_Pc [.ref (P 0)] (PreM dC dI cA P S)) (va_Qi post (fun u t => VM dC dI cA P u t.heap) (PA 25 P)) 0 0 (PA 25 P) := by
  refine Met.ofW (cc := cX9_wipe) (maxL := 2) (ret := (some .int)) (by decide) rfl ?_
  intro p e s m args below meth c s₁ B hml hv
  obtain ⟨rfl, hP, hKX⟩ := hv
  have hts : ∀ w ∈ G, w.before [.ref (P 0)].toArray s = true := fun w hw => atoms_spec (ws := wW yX9_wipe cX9_wipe 2 (some .int)) B.pre w (List.mem_cons_of_mem _ hw)
  have C : CtxM dC dI cA P p s m [.ref (P 0)].toArray meth c cX9_wipe 2 (some .int) RX9 := ⟨hI, hKX, ⟨B.exec, B.bytes, hml, findClass_of_methodNamed B.named, hts⟩, B.returns, B.notSynchronized⟩
  have hS : va_S (PA 25 P) s.heap s.heap [] := va_S.rf
  have hl := lv_entry ([.ref (P 0)]) (n := 2) (Nat.le_of_ble_eq_true rfl)
  rw [lg_entry_eq]
  generalize (lg_sl ([.ref (P 0)]) ++ List.replicate (2 - (lg_sl ([.ref (P 0)])).length) Slot.unset).toArray = ls at hl ⊢
  have hl : lv_has ls 2 [(0, .ref (P 0))] := hl
  exact e_X9_wipe C  _ _ _ _ h  hP hS hl
set_option maxRecDepth 100000 in
set_option maxHeartbeats 4000000 in
theorem e_X9_isAt {p : Program} {l : Launch} {e : Env} {s : State} {m : MethodId} {args : Array Value} {below : List Frame} {meth : Method} {c : Code} {dC : Nat → ClassId} {dI : Nat → Nat → Nat} {cA : Nat → ClassId} {P : Nat → Nat} (C : CtxM dC dI cA P p s m args meth c cX9_isAt 3 (some .boolean) RX9) {post : Int32 → St → Prop} : ∀ (v1 : Int32) (v2 : Int32) (S : St) (H : Heap) (locs : List Loc) (ls : Array Slot), w_X9_isAt v1 v2 post S → VM dC dI cA P S H → va_S (PA 25 P) s.heap H locs → lv_has ls 3 [(0, .ref (P 0)), (1, .int v1), (2, .int v2)] → W p l e ({ frames := 1, cells := 0, slots := 0, locals := 25 } : Room) s m args below meth c H locs 0 0 (MQ below (va_Qi post (fun u t => VM dC dI cA P u t.heap) (PA 25 P)) args s 0 0 (PA 25 P)) (F0 m 0 ls []) := by
  have C := C
  obtain ⟨hI, hKX, ⟨hx, hb, hml, hown, hts⟩, hr, hlocks⟩ := id C
  have hK := hKX
  intro v1 v2 S H locs ls h hP hS hl
  rw [w_X9_isAt] at h
  refine lv_aload_n hx hb dX9_isAt_0 rfl (lv_at hl 0 rfl) ?_
  refine g_get (v := .int (S.1 0 23)) hx hb hts inG_X9 hown hK hP (kM_lt (rfl : kdM 0 = 9)) (eM9 (rfl : kdM 0 = 9)) rfl 23 (by decide) G_fl_X9_218 rfl rfl dX9_isAt_1 ?_
  refine lv_aload_n hx hb dX9_isAt_4 rfl (lv_at hl 0 rfl) ?_
  refine g_get (v := .int (S.1 0 22)) hx hb hts inG_X9 hown hK hP (kM_lt (rfl : kdM 0 = 9)) (eM9 (rfl : kdM 0 = 9)) rfl 22 (by decide) G_fl_X9_221 rfl rfl dX9_isAt_5 ?_
  refine lv_icmp_ge (tgt := 35) hx hb dX9_isAt_8 (by decide) (fun c1 => ?_) (fun c1 => ?_)
  · replace h := h.1 c1
    refine lv_iconst (v := 0) hx hb dX9_isAt_35 (by decide) ?_
    exact g_zret hx hb hr hlocks bz_0 h hP hS dX9_isAt_36
  · replace h := h.2 c1
    refine lv_aload_n hx hb dX9_isAt_11 rfl (lv_at hl 0 rfl) ?_
    refine g_get (v := .ref (P 13)) hx hb hts inG_X9 hown hK hP (kM_lt (rfl : kdM 0 = 9)) (eM9 (rfl : kdM 0 = 9)) rfl 20 (by decide) G_fl_X9_53 rfl rfl dX9_isAt_12 ?_
    refine lv_aload_n hx hb dX9_isAt_15 rfl (lv_at hl 0 rfl) ?_
    refine g_get (v := .int (S.1 0 23)) hx hb hts inG_X9 hown hK hP (kM_lt (rfl : kdM 0 = 9)) (eM9 (rfl : kdM 0 = 9)) rfl 23 (by decide) G_fl_X9_218 rfl rfl dX9_isAt_16 ?_
    replace h := h _ rfl
    refine g_ald hx hb hK hP (kM_lt (rfl : kdM 13 = 10)) 0 (eM10 (rfl : kdM 13 = 10)) rfl h.1 dX9_isAt_19 ?_
    replace h := h.2
    refine lv_i2l hx hb dX9_isAt_20 rfl ?_
    refine lv_iload_n hx hb dX9_isAt_21 rfl (lv_at hl 1 rfl) ?_
    refine lv_i2l hx hb dX9_isAt_22 rfl ?_
    refine lv_iload_n hx hb dX9_isAt_23 rfl (lv_at hl 2 rfl) ?_
    refine lv_i2l hx hb dX9_isAt_24 rfl ?_
    replace h := h _ rfl
    replace h := h _ rfl
    replace h := h _ rfl
    refine va_calli (va_runS (As := [.long _, .long _, .long _]) (rest := []) ⟨hx, hb, hml, hown, hts⟩ (c_X9_isIn l hI h) (va_cwS 3 hts gs_X9_92 rfl rfl rfl hd_X9_isIn ⟨Nat.le_of_ble_eq_true rfl, Nat.le_of_ble_eq_true rfl⟩) (preS_M hKX hP hS) rfl rfl hl.1 rfl (lv_room (Nat.le_of_ble_eq_true rfl)) dX9_isAt_25 ⟨Nat.le_of_ble_eq_true rfl, Nat.le_of_ble_eq_true rfl⟩) hS (fun _ _ h => h) (fun _ h => h) (fun r7 S6 t H locs ht _ h hB _ _ hS => ?_)
    have hP : VM dC dI cA P S6 H := by rw [← ht]; exact hB
    refine lv_if_eq (tgt := 35) hx hb dX9_isAt_28 (by decide) (fun c8 => ?_) (fun c8 => ?_)
    · replace h := h.1 c8
      refine lv_iconst (v := 0) hx hb dX9_isAt_35 (by decide) ?_
      exact g_zret hx hb hr hlocks bz_0 h hP hS dX9_isAt_36
    · replace h := h.2 c8
      refine lv_iconst (v := 1) hx hb dX9_isAt_31 (by decide) ?_
      refine lv_goto (tgt := 36) hx hb dX9_isAt_32 (by decide) ?_
      exact g_zret hx hb hr hlocks bz_1 h hP hS dX9_isAt_36
set_option maxRecDepth 100000 in
set_option maxHeartbeats 4000000 in
theorem c_X9_isAt (l : Launch) {dC : Nat → ClassId} {dI : Nat → Nat → Nat} {cA : Nat → ClassId} {P : Nat → Nat} (hI : PInj 25 P) {v1 : Int32} {v2 : Int32}  {post : Int32 → St → Prop} {S : St} (h : w_X9_isAt v1 v2 post S) : Met l yX9_isAt (wW yX9_isAt cX9_isAt 3 (some .boolean)) ({ frames := 1, cells := 0, slots := 0, locals := 25 } : Room) (va_Pc [.ref (P 0), .int v1, .int v2] (PreM dC dI cA P S)) (va_Qi post (fun u t => VM dC dI cA P u t.heap) (PA 25 P)) 0 0 (PA 25 P) := by
  refine Met.ofW (cc := cX9_isAt) (maxL := 3) (ret := (some .boolean)) (by decide) rfl ?_
  intro p e s m args below meth c s₁ B hml hv
  obtain ⟨rfl, hP, hKX⟩ := hv
  have hts : ∀ w ∈ G, w.before [.ref (P 0), .int v1, .int v2].toArray s = true := fun w hw => atoms_spec (ws := wW yX9_isAt cX9_isAt 3 (some .boolean)) B.pre w (List.mem_cons_of_mem _ hw)
  have C : CtxM dC dI cA P p s m [.ref (P 0), .int v1, .int v2].toArray meth c cX9_isAt 3 (some .boolean) RX9 := ⟨hI, hKX, ⟨B.exec, B.bytes, hml, findClass_of_methodNamed B.named, hts⟩, B.returns, B.notSynchronized⟩
  have hS : va_S (PA 25 P) s.heap s.heap [] := va_S.rf
  have hl := lv_entry ([.ref (P 0), .int v1, .int v2]) (n := 3) (Nat.le_of_ble_eq_true rfl)
  rw [lg_entry_eq]
  generalize (lg_sl ([.ref (P 0), .int v1, .int v2]) ++ List.replicate (3 - (lg_sl ([.ref (P 0), .int v1, .int v2])).length) Slot.unset).toArray = ls at hl ⊢
  have hl : lv_has ls 3 [(0, .ref (P 0)), (1, .int v1), (2, .int v2)] := hl
  exact e_X9_isAt C _ _ _ _ _ _ h  hP hS hl
set_option maxRecDepth 100000 in
set_option maxHeartbeats 4000000 in
theorem b_X9_wordOf_18 {p : Program} {l : Launch} {e : Env} {s : State} {m : MethodId} {args : Array Value} {below : List Frame} {meth : Method} {c : Code} {dC : Nat → ClassId} {dI : Nat → Nat → Nat} {cA : Nat → ClassId} {P : Nat → Nat} (C : CtxM dC dI cA P p s m args meth c cX9_wordOf 7 (some .int) RX9) {post : Int32 → St → Prop} {K5 : Int32 → Int32 → Int32 → Int32 → St → Prop} (hK5 : ∀ (v1 : Int32) (v2 : Int32) (v3 : Int32) (v4 : Int32) (S : St) (H : Heap) (locs : List Loc) (ls : Array Slot), K5 v1 v2 v3 v4 S → VM dC dI cA P S H → va_S (PA 25 P) s.heap H locs → lv_has ls 7 [(0, .ref (P 0)), (1, .int v1), (2, .int v2), (3, .int v3), (4, .int v4)] → W p l e ({ frames := 0, cells := 0, slots := 0, locals := 0 } : Room) s m args below meth c H locs 0 0 (MQ below (va_Qi post (fun u t => VM dC dI cA P u t.heap) (PA 25 P)) args s 0 0 (PA 25 P)) (F0 m 5 ls [])) : ∀ (n : Nat) (v1 : Int32) (v2 : Int32) (v3 : Int32) (v4 : Int32) (v5 : Int32) (v6 : Int32) (S : St) (H : Heap) (locs : List Loc) (ls : Array Slot), w_X9_wordOf_18 post K5 n v1 v2 v3 v4 v5 v6 S → VM dC dI cA P S H → va_S (PA 25 P) s.heap H locs → lv_has ls 7 [(0, .ref (P 0)), (1, .int v1), (2, .int v2), (3, .int v3), (4, .int v4), (5, .int v5), (6, .int v6)] → W p l e ({ frames := 0, cells := 0, slots := 0, locals := 0 } : Room) s m args below meth c H locs 0 0 (MQ below (va_Qi post (fun u t => VM dC dI cA P u t.heap) (PA 25 P)) args s 0 0 (PA 25 P)) (F0 m 18 ls []) := by
  have C := C
  obtain ⟨hI, hKX, ⟨hx, hb, hml, hown, hts⟩, hr, hlocks⟩ := id C
  have hK := hKX
  intro n
  induction n with
  | zero =>
    intro v1 v2 v3 v4 v5 v6 S H locs ls h hP hS hl
    simp only [w_X9_wordOf_18] at h
  | succ n ih =>
    intro v1 v2 v3 v4 v5 v6 S H locs ls h hP hS hl
    rw [w_X9_wordOf_18] at h
    refine lv_aload_n hx hb dX9_wordOf_18 rfl (lv_at hl 0 rfl) ?_
    refine g_get (v := .ref (P 10)) hx hb hts inG_X9 hown hK hP (kM_lt (rfl : kdM 0 = 9)) (eM9 (rfl : kdM 0 = 9)) rfl 17 (by decide) G_fl_X9_43 rfl rfl dX9_wordOf_19 ?_
    refine lv_iload hx hb dX9_wordOf_22 (lv_at hl 5 rfl) ?_
    refine g_cald hx hb hK hP (kM_lt (rfl : kdM 10 = 11)) 1 (eM11 (rfl : kdM 10 = 11)) rfl h.1 dX9_wordOf_24 ?_
    replace h := h.2
    refine lv_bipush (v := 32) hx hb dX9_wordOf_25 (by decide) ?_
    refine lv_icmp_eq (tgt := 79) hx hb dX9_wordOf_27 (by decide) (fun c2 => ?_) (fun c2 => ?_)
    · replace h := h.1 c2
      refine lv_iload hx hb dX9_wordOf_79 (lv_at hl 6 rfl) ?_
      refine lv_if_eq (tgt := 97) hx hb dX9_wordOf_81 (by decide) (fun c3 => ?_) (fun c3 => ?_)
      · replace h := h.1 c3
        refine lv_iload hx hb dX9_wordOf_97 (lv_at hl 5 rfl) ?_
        refine lv_iconst (v := 1) hx hb dX9_wordOf_99 (by decide) ?_
        refine lv_iadd hx hb dX9_wordOf_100 ?_
        refine lv_topi (fun x4 ex4 => ?_)
        replace h := h x4 ex4
        refine lv_istore_n (lv' := [(3, .int x4), (0, .ref (P 0)), (1, .int v1), (2, .int v2), (4, .int v4), (5, .int v5), (6, .int v6)]) hx hb dX9_wordOf_101 rfl hl (by decide) rfl (fun ls hl => ?_)
        obtain ⟨x5, ex5⟩ : ∃ y : Int32, y = v4 + 1 := ⟨_, rfl⟩
        replace h := h x5 ex5
        refine lv_iinc (v := x5) (lv' := [(4, .int x5), (3, .int x4), (0, .ref (P 0)), (1, .int v1), (2, .int v2), (5, .int v5), (6, .int v6)]) hx hb dX9_wordOf_102 hl (k := 4) rfl (by rw [ex5]; rfl) (by decide) rfl (fun ls hl => ?_)
        refine lv_goto (tgt := 5) hx hb dX9_wordOf_105 (by decide) ?_
        exact hK5 _ _ _ _ _ _ _ _ h  hP hS (lv_sub hl [2, 3, 4, 1, 0] rfl)
      · replace h := h.2 c3
        refine lv_iload hx hb dX9_wordOf_84 (lv_at hl 5 rfl) ?_
        refine lv_iload_n hx hb dX9_wordOf_86 rfl (lv_at hl 3 rfl) ?_
        refine lv_isub hx hb dX9_wordOf_87 ?_
        refine lv_iload_n hx hb dX9_wordOf_88 rfl (lv_at hl 2 rfl) ?_
        refine lv_iload_n hx hb dX9_wordOf_89 rfl (lv_at hl 1 rfl) ?_
        refine lv_isub hx hb dX9_wordOf_90 ?_
        refine lv_icmp_ne (tgt := 97) hx hb dX9_wordOf_91 (by decide) (fun c6 => ?_) (fun c6 => ?_)
        · replace h := h.2 c6
          refine lv_iload hx hb dX9_wordOf_97 (lv_at hl 5 rfl) ?_
          refine lv_iconst (v := 1) hx hb dX9_wordOf_99 (by decide) ?_
          refine lv_iadd hx hb dX9_wordOf_100 ?_
          refine lv_topi (fun x7 ex7 => ?_)
          replace h := h x7 ex7
          refine lv_istore_n (lv' := [(3, .int x7), (0, .ref (P 0)), (1, .int v1), (2, .int v2), (4, .int v4), (5, .int v5), (6, .int v6)]) hx hb dX9_wordOf_101 rfl hl (by decide) rfl (fun ls hl => ?_)
          obtain ⟨x8, ex8⟩ : ∃ y : Int32, y = v4 + 1 := ⟨_, rfl⟩
          replace h := h x8 ex8
          refine lv_iinc (v := x8) (lv' := [(4, .int x8), (3, .int x7), (0, .ref (P 0)), (1, .int v1), (2, .int v2), (5, .int v5), (6, .int v6)]) hx hb dX9_wordOf_102 hl (k := 4) rfl (by rw [ex8]; rfl) (by decide) rfl (fun ls hl => ?_)
          refine lv_goto (tgt := 5) hx hb dX9_wordOf_105 (by decide) ?_
          exact hK5 _ _ _ _ _ _ _ _ h  hP hS (lv_sub hl [2, 3, 4, 1, 0] rfl)
        · replace h := h.1 c6
          refine lv_iload hx hb dX9_wordOf_94 (lv_at hl 4 rfl) ?_
          exact g_iret hx hb hr hlocks h hP hS dX9_wordOf_96
    · replace h := h.2 c2
      refine lv_iload hx hb dX9_wordOf_30 (lv_at hl 6 rfl) ?_
      refine lv_if_eq (tgt := 70) hx hb dX9_wordOf_32 (by decide) (fun c9 => ?_) (fun c9 => ?_)
      · replace h := h.1 c9
        refine lv_iconst (v := 0) hx hb dX9_wordOf_70 (by decide) ?_
        refine lv_istore (lv' := [(6, .int 0), (0, .ref (P 0)), (1, .int v1), (2, .int v2), (3, .int v3), (4, .int v4), (5, .int v5)]) hx hb dX9_wordOf_71 hl (by decide) rfl (fun ls hl => ?_)
        obtain ⟨x10, ex10⟩ : ∃ y : Int32, y = v5 + 1 := ⟨_, rfl⟩
        replace h := h x10 ex10
        refine lv_iinc (v := x10) (lv' := [(5, .int x10), (6, .int 0), (0, .ref (P 0)), (1, .int v1), (2, .int v2), (3, .int v3), (4, .int v4)]) hx hb dX9_wordOf_73 hl (k := 6) rfl (by rw [ex10]; rfl) (by decide) rfl (fun ls hl => ?_)
        refine lv_goto (tgt := 18) hx hb dX9_wordOf_76 (by decide) ?_
        exact ih _ _ _ _ _ _ _ _ _ _ h  hP hS (lv_sub hl [2, 3, 4, 5, 6, 0, 1] rfl)
      · replace h := h.2 c9
        refine lv_iload_n hx hb dX9_wordOf_35 rfl (lv_at hl 1 rfl) ?_
        refine lv_iload hx hb dX9_wordOf_36 (lv_at hl 5 rfl) ?_
        refine lv_iadd hx hb dX9_wordOf_38 ?_
        refine lv_iload_n hx hb dX9_wordOf_39 rfl (lv_at hl 3 rfl) ?_
        refine lv_isub hx hb dX9_wordOf_40 ?_
        refine lv_iload_n hx hb dX9_wordOf_41 rfl (lv_at hl 2 rfl) ?_
        refine lv_icmp_ge (tgt := 70) hx hb dX9_wordOf_42 (by decide) (fun c11 => ?_) (fun c11 => ?_)
        · replace h := h.1 c11
          refine lv_iconst (v := 0) hx hb dX9_wordOf_70 (by decide) ?_
          refine lv_istore (lv' := [(6, .int 0), (0, .ref (P 0)), (1, .int v1), (2, .int v2), (3, .int v3), (4, .int v4), (5, .int v5)]) hx hb dX9_wordOf_71 hl (by decide) rfl (fun ls hl => ?_)
          obtain ⟨x12, ex12⟩ : ∃ y : Int32, y = v5 + 1 := ⟨_, rfl⟩
          replace h := h x12 ex12
          refine lv_iinc (v := x12) (lv' := [(5, .int x12), (6, .int 0), (0, .ref (P 0)), (1, .int v1), (2, .int v2), (3, .int v3), (4, .int v4)]) hx hb dX9_wordOf_73 hl (k := 6) rfl (by rw [ex12]; rfl) (by decide) rfl (fun ls hl => ?_)
          refine lv_goto (tgt := 18) hx hb dX9_wordOf_76 (by decide) ?_
          exact ih _ _ _ _ _ _ _ _ _ _ h  hP hS (lv_sub hl [2, 3, 4, 5, 6, 0, 1] rfl)
        · replace h := h.2 c11
          refine lv_aload_n hx hb dX9_wordOf_45 rfl (lv_at hl 0 rfl) ?_
          refine g_get (v := .ref (P 13)) hx hb hts inG_X9 hown hK hP (kM_lt (rfl : kdM 0 = 9)) (eM9 (rfl : kdM 0 = 9)) rfl 20 (by decide) G_fl_X9_53 rfl rfl dX9_wordOf_46 ?_
          refine lv_iload_n hx hb dX9_wordOf_49 rfl (lv_at hl 1 rfl) ?_
          refine lv_iload hx hb dX9_wordOf_50 (lv_at hl 5 rfl) ?_
          refine lv_iadd hx hb dX9_wordOf_52 ?_
          refine lv_iload_n hx hb dX9_wordOf_53 rfl (lv_at hl 3 rfl) ?_
          refine lv_isub hx hb dX9_wordOf_54 ?_
          replace h := h _ rfl
          refine g_ald hx hb hK hP (kM_lt (rfl : kdM 13 = 10)) 0 (eM10 (rfl : kdM 13 = 10)) rfl h.1 dX9_wordOf_55 ?_
          replace h := h.2
          refine lv_aload_n hx hb dX9_wordOf_56 rfl (lv_at hl 0 rfl) ?_
          refine g_get (v := .ref (P 10)) hx hb hts inG_X9 hown hK hP (kM_lt (rfl : kdM 0 = 9)) (eM9 (rfl : kdM 0 = 9)) rfl 17 (by decide) G_fl_X9_43 rfl rfl dX9_wordOf_57 ?_
          refine lv_iload hx hb dX9_wordOf_60 (lv_at hl 5 rfl) ?_
          refine g_cald hx hb hK hP (kM_lt (rfl : kdM 10 = 11)) 1 (eM11 (rfl : kdM 10 = 11)) rfl h.1 dX9_wordOf_62 ?_
          replace h := h.2
          refine lv_icmp_ne (tgt := 70) hx hb dX9_wordOf_63 (by decide) (fun c14 => ?_) (fun c14 => ?_)
          · replace h := h.2 c14
            refine lv_iconst (v := 0) hx hb dX9_wordOf_70 (by decide) ?_
            refine lv_istore (lv' := [(6, .int 0), (0, .ref (P 0)), (1, .int v1), (2, .int v2), (3, .int v3), (4, .int v4), (5, .int v5)]) hx hb dX9_wordOf_71 hl (by decide) rfl (fun ls hl => ?_)
            obtain ⟨x15, ex15⟩ : ∃ y : Int32, y = v5 + 1 := ⟨_, rfl⟩
            replace h := h x15 ex15
            refine lv_iinc (v := x15) (lv' := [(5, .int x15), (6, .int 0), (0, .ref (P 0)), (1, .int v1), (2, .int v2), (3, .int v3), (4, .int v4)]) hx hb dX9_wordOf_73 hl (k := 6) rfl (by rw [ex15]; rfl) (by decide) rfl (fun ls hl => ?_)
            refine lv_goto (tgt := 18) hx hb dX9_wordOf_76 (by decide) ?_
            exact ih _ _ _ _ _ _ _ _ _ _ h  hP hS (lv_sub hl [2, 3, 4, 5, 6, 0, 1] rfl)
          · replace h := h.1 c14
            refine lv_iconst (v := 1) hx hb dX9_wordOf_66 (by decide) ?_
            refine lv_goto (tgt := 71) hx hb dX9_wordOf_67 (by decide) ?_
            refine lv_istore (lv' := [(6, .int 1), (0, .ref (P 0)), (1, .int v1), (2, .int v2), (3, .int v3), (4, .int v4), (5, .int v5)]) hx hb dX9_wordOf_71 hl (by decide) rfl (fun ls hl => ?_)
            obtain ⟨x16, ex16⟩ : ∃ y : Int32, y = v5 + 1 := ⟨_, rfl⟩
            replace h := h x16 ex16
            refine lv_iinc (v := x16) (lv' := [(5, .int x16), (6, .int 1), (0, .ref (P 0)), (1, .int v1), (2, .int v2), (3, .int v3), (4, .int v4)]) hx hb dX9_wordOf_73 hl (k := 6) rfl (by rw [ex16]; rfl) (by decide) rfl (fun ls hl => ?_)
            refine lv_goto (tgt := 18) hx hb dX9_wordOf_76 (by decide) ?_
            exact ih _ _ _ _ _ _ _ _ _ _ h  hP hS (lv_sub hl [2, 3, 4, 5, 6, 0, 1] rfl)
set_option maxRecDepth 100000 in
set_option maxHeartbeats 4000000 in
theorem b_X9_wordOf_5 {p : Program} {l : Launch} {e : Env} {s : State} {m : MethodId} {args : Array Value} {below : List Frame} {meth : Method} {c : Code} {dC : Nat → ClassId} {dI : Nat → Nat → Nat} {cA : Nat → ClassId} {P : Nat → Nat} (C : CtxM dC dI cA P p s m args meth c cX9_wordOf 7 (some .int) RX9) {post : Int32 → St → Prop}  : ∀ (n : Nat) (v1 : Int32) (v2 : Int32) (v3 : Int32) (v4 : Int32) (S : St) (H : Heap) (locs : List Loc) (ls : Array Slot), w_X9_wordOf_5 post n v1 v2 v3 v4 S → VM dC dI cA P S H → va_S (PA 25 P) s.heap H locs → lv_has ls 7 [(0, .ref (P 0)), (1, .int v1), (2, .int v2), (3, .int v3), (4, .int v4)] → W p l e ({ frames := 0, cells := 0, slots := 0, locals := 0 } : Room) s m args below meth c H locs 0 0 (MQ below (va_Qi post (fun u t => VM dC dI cA P u t.heap) (PA 25 P)) args s 0 0 (PA 25 P)) (F0 m 5 ls []) := by
  have C := C
  obtain ⟨hI, hKX, ⟨hx, hb, hml, hown, hts⟩, hr, hlocks⟩ := id C
  have hK := hKX
  intro n
  induction n with
  | zero =>
    intro v1 v2 v3 v4 S H locs ls h hP hS hl
    simp only [w_X9_wordOf_5] at h
  | succ n ih =>
    intro v1 v2 v3 v4 S H locs ls h hP hS hl
    rw [w_X9_wordOf_5] at h
    refine lv_iload hx hb dX9_wordOf_5 (lv_at hl 4 rfl) ?_
    refine lv_bipush (v := 8) hx hb dX9_wordOf_7 (by decide) ?_
    refine lv_icmp_ge (tgt := 108) hx hb dX9_wordOf_9 (by decide) (fun c1 => ?_) (fun c1 => ?_)
    · replace h := h.1 c1
      refine lv_iconst (v := (-1)) hx hb dX9_wordOf_108 (by decide) ?_
      exact g_iret hx hb hr hlocks h hP hS dX9_wordOf_109
    · replace h := h.2 c1
      refine lv_iload_n hx hb dX9_wordOf_12 rfl (lv_at hl 3 rfl) ?_
      refine lv_istore (lv' := [(5, .int v3), (0, .ref (P 0)), (1, .int v1), (2, .int v2), (3, .int v3), (4, .int v4)]) hx hb dX9_wordOf_13 hl (by decide) rfl (fun ls hl => ?_)
      refine lv_iconst (v := 1) hx hb dX9_wordOf_15 (by decide) ?_
      refine lv_istore (lv' := [(6, .int 1), (5, .int v3), (0, .ref (P 0)), (1, .int v1), (2, .int v2), (3, .int v3), (4, .int v4)]) hx hb dX9_wordOf_16 hl (by decide) rfl (fun ls hl => ?_)
      obtain ⟨n17, h⟩ := h
      exact b_X9_wordOf_18 C ih n17 _ _ _ _ _ _ _ _ _ _ h  hP hS (lv_sub hl [2, 3, 4, 5, 6, 1, 0] rfl)
set_option maxRecDepth 100000 in
set_option maxHeartbeats 4000000 in
theorem e_X9_wordOf {p : Program} {l : Launch} {e : Env} {s : State} {m : MethodId} {args : Array Value} {below : List Frame} {meth : Method} {c : Code} {dC : Nat → ClassId} {dI : Nat → Nat → Nat} {cA : Nat → ClassId} {P : Nat → Nat} (C : CtxM dC dI cA P p s m args meth c cX9_wordOf 7 (some .int) RX9) {post : Int32 → St → Prop} : ∀ (v1 : Int32) (v2 : Int32) (S : St) (H : Heap) (locs : List Loc) (ls : Array Slot), w_X9_wordOf v1 v2 post S → VM dC dI cA P S H → va_S (PA 25 P) s.heap H locs → lv_has ls 7 [(0, .ref (P 0)), (1, .int v1), (2, .int v2)] → W p l e ({ frames := 0, cells := 0, slots := 0, locals := 0 } : Room) s m args below meth c H locs 0 0 (MQ below (va_Qi post (fun u t => VM dC dI cA P u t.heap) (PA 25 P)) args s 0 0 (PA 25 P)) (F0 m 0 ls []) := by
  have C := C
  obtain ⟨hI, hKX, ⟨hx, hb, hml, hown, hts⟩, hr, hlocks⟩ := id C
  have hK := hKX
  intro v1 v2 S H locs ls h hP hS hl
  rw [w_X9_wordOf] at h
  refine lv_iconst (v := 0) hx hb dX9_wordOf_0 (by decide) ?_
  refine lv_istore_n (lv' := [(3, .int 0), (0, .ref (P 0)), (1, .int v1), (2, .int v2)]) hx hb dX9_wordOf_1 rfl hl (by decide) rfl (fun ls hl => ?_)
  refine lv_iconst (v := 0) hx hb dX9_wordOf_2 (by decide) ?_
  refine lv_istore (lv' := [(4, .int 0), (3, .int 0), (0, .ref (P 0)), (1, .int v1), (2, .int v2)]) hx hb dX9_wordOf_3 hl (by decide) rfl (fun ls hl => ?_)
  obtain ⟨n18, h⟩ := h
  exact b_X9_wordOf_5 C n18 _ _ _ _ _ _ _ _ h  hP hS (lv_sub hl [2, 3, 4, 1, 0] rfl)
set_option maxRecDepth 100000 in
set_option maxHeartbeats 4000000 in
theorem c_X9_wordOf (l : Launch) {dC : Nat → ClassId} {dI : Nat → Nat → Nat} {cA : Nat → ClassId} {P : Nat → Nat} (hI : PInj 25 P) {v1 : Int32} {v2 : Int32}  {post : Int32 → St → Prop} {S : St} (h : w_X9_wordOf v1 v2 post S) : Met l yX9_wordOf (wW yX9_wordOf cX9_wordOf 7 (some .int)) ({ frames := 0, cells := 0, slots := 0, locals := 0 } : Room) (va_Pc [.ref (P 0), .int v1, .int v2] (PreM dC dI cA P S)) (va_Qi post (fun u t => VM dC dI cA P u t.heap) (PA 25 P)) 0 0 (PA 25 P) := by
  refine Met.ofW (cc := cX9_wordOf) (maxL := 7) (ret := (some .int)) (by decide) rfl ?_
  intro p e s m args below meth c s₁ B hml hv
  obtain ⟨rfl, hP, hKX⟩ := hv
  have hts : ∀ w ∈ G, w.before [.ref (P 0), .int v1, .int v2].toArray s = true := fun w hw => atoms_spec (ws := wW yX9_wordOf cX9_wordOf 7 (some .int)) B.pre w (List.mem_cons_of_mem _ hw)
  have C : CtxM dC dI cA P p s m [.ref (P 0), .int v1, .int v2].toArray meth c cX9_wordOf 7 (some .int) RX9 := ⟨hI, hKX, ⟨B.exec, B.bytes, hml, findClass_of_methodNamed B.named, hts⟩, B.returns, B.notSynchronized⟩
  have hS : va_S (PA 25 P) s.heap s.heap [] := va_S.rf
  have hl := lv_entry ([.ref (P 0), .int v1, .int v2]) (n := 7) (Nat.le_of_ble_eq_true rfl)
  rw [lg_entry_eq]
  generalize (lg_sl ([.ref (P 0), .int v1, .int v2]) ++ List.replicate (7 - (lg_sl ([.ref (P 0), .int v1, .int v2])).length) Slot.unset).toArray = ls at hl ⊢
  have hl : lv_has ls 7 [(0, .ref (P 0)), (1, .int v1), (2, .int v2)] := hl
  exact e_X9_wordOf C _ _ _ _ _ _ h  hP hS hl
set_option maxRecDepth 100000 in
set_option maxHeartbeats 4000000 in
theorem b_X9_commandOf_17 {p : Program} {l : Launch} {e : Env} {s : State} {m : MethodId} {args : Array Value} {below : List Frame} {meth : Method} {c : Code} {dC : Nat → ClassId} {dI : Nat → Nat → Nat} {cA : Nat → ClassId} {P : Nat → Nat} (C : CtxM dC dI cA P p s m args meth c cX9_commandOf 7 (some .int) RX9) {post : Int32 → St → Prop} {K5 : Int32 → Int32 → Int32 → Int32 → St → Prop} (hK5 : ∀ (v1 : Int32) (v2 : Int32) (v3 : Int32) (v4 : Int32) (S : St) (H : Heap) (locs : List Loc) (ls : Array Slot), K5 v1 v2 v3 v4 S → VM dC dI cA P S H → va_S (PA 25 P) s.heap H locs → lv_has ls 7 [(0, .ref (P 0)), (1, .int v1), (2, .int v2), (3, .int v3), (4, .int v4)] → W p l e ({ frames := 0, cells := 0, slots := 0, locals := 0 } : Room) s m args below meth c H locs 0 0 (MQ below (va_Qi post (fun u t => VM dC dI cA P u t.heap) (PA 25 P)) args s 0 0 (PA 25 P)) (F0 m 5 ls [])) : ∀ (n : Nat) (v1 : Int32) (v2 : Int32) (v3 : Int32) (v4 : Int32) (v5 : Int32) (v6 : Int32) (S : St) (H : Heap) (locs : List Loc) (ls : Array Slot), w_X9_commandOf_17 post K5 n v1 v2 v3 v4 v5 v6 S → VM dC dI cA P S H → va_S (PA 25 P) s.heap H locs → lv_has ls 7 [(0, .ref (P 0)), (1, .int v1), (2, .int v2), (3, .int v3), (4, .int v4), (5, .int v5), (6, .int v6)] → W p l e ({ frames := 0, cells := 0, slots := 0, locals := 0 } : Room) s m args below meth c H locs 0 0 (MQ below (va_Qi post (fun u t => VM dC dI cA P u t.heap) (PA 25 P)) args s 0 0 (PA 25 P)) (F0 m 17 ls []) := by
  have C := C
  obtain ⟨hI, hKX, ⟨hx, hb, hml, hown, hts⟩, hr, hlocks⟩ := id C
  have hK := hKX
  intro n
  induction n with
  | zero =>
    intro v1 v2 v3 v4 v5 v6 S H locs ls h hP hS hl
    simp only [w_X9_commandOf_17] at h
  | succ n ih =>
    intro v1 v2 v3 v4 v5 v6 S H locs ls h hP hS hl
    rw [w_X9_commandOf_17] at h
    refine lv_aload_n hx hb dX9_commandOf_17 rfl (lv_at hl 0 rfl) ?_
    refine g_get (v := .ref (P 11)) hx hb hts inG_X9 hown hK hP (kM_lt (rfl : kdM 0 = 9)) (eM9 (rfl : kdM 0 = 9)) rfl 18 (by decide) G_fl_X9_47 rfl rfl dX9_commandOf_18 ?_
    refine lv_iload hx hb dX9_commandOf_21 (lv_at hl 5 rfl) ?_
    refine g_cald hx hb hK hP (kM_lt (rfl : kdM 11 = 11)) 1 (eM11 (rfl : kdM 11 = 11)) rfl h.1 dX9_commandOf_23 ?_
    replace h := h.2
    refine lv_bipush (v := 32) hx hb dX9_commandOf_24 (by decide) ?_
    refine lv_icmp_eq (tgt := 78) hx hb dX9_commandOf_26 (by decide) (fun c2 => ?_) (fun c2 => ?_)
    · replace h := h.1 c2
      refine lv_iload hx hb dX9_commandOf_78 (lv_at hl 6 rfl) ?_
      refine lv_if_eq (tgt := 96) hx hb dX9_commandOf_80 (by decide) (fun c3 => ?_) (fun c3 => ?_)
      · replace h := h.1 c3
        refine lv_iload hx hb dX9_commandOf_96 (lv_at hl 5 rfl) ?_
        refine lv_iconst (v := 1) hx hb dX9_commandOf_98 (by decide) ?_
        refine lv_iadd hx hb dX9_commandOf_99 ?_
        refine lv_topi (fun x4 ex4 => ?_)
        replace h := h x4 ex4
        refine lv_istore_n (lv' := [(3, .int x4), (0, .ref (P 0)), (1, .int v1), (2, .int v2), (4, .int v4), (5, .int v5), (6, .int v6)]) hx hb dX9_commandOf_100 rfl hl (by decide) rfl (fun ls hl => ?_)
        obtain ⟨x5, ex5⟩ : ∃ y : Int32, y = v4 + 1 := ⟨_, rfl⟩
        replace h := h x5 ex5
        refine lv_iinc (v := x5) (lv' := [(4, .int x5), (3, .int x4), (0, .ref (P 0)), (1, .int v1), (2, .int v2), (5, .int v5), (6, .int v6)]) hx hb dX9_commandOf_101 hl (k := 4) rfl (by rw [ex5]; rfl) (by decide) rfl (fun ls hl => ?_)
        refine lv_goto (tgt := 5) hx hb dX9_commandOf_104 (by decide) ?_
        exact hK5 _ _ _ _ _ _ _ _ h  hP hS (lv_sub hl [2, 3, 4, 1, 0] rfl)
      · replace h := h.2 c3
        refine lv_iload hx hb dX9_commandOf_83 (lv_at hl 5 rfl) ?_
        refine lv_iload_n hx hb dX9_commandOf_85 rfl (lv_at hl 3 rfl) ?_
        refine lv_isub hx hb dX9_commandOf_86 ?_
        refine lv_iload_n hx hb dX9_commandOf_87 rfl (lv_at hl 2 rfl) ?_
        refine lv_iload_n hx hb dX9_commandOf_88 rfl (lv_at hl 1 rfl) ?_
        refine lv_isub hx hb dX9_commandOf_89 ?_
        refine lv_icmp_ne (tgt := 96) hx hb dX9_commandOf_90 (by decide) (fun c6 => ?_) (fun c6 => ?_)
        · replace h := h.2 c6
          refine lv_iload hx hb dX9_commandOf_96 (lv_at hl 5 rfl) ?_
          refine lv_iconst (v := 1) hx hb dX9_commandOf_98 (by decide) ?_
          refine lv_iadd hx hb dX9_commandOf_99 ?_
          refine lv_topi (fun x7 ex7 => ?_)
          replace h := h x7 ex7
          refine lv_istore_n (lv' := [(3, .int x7), (0, .ref (P 0)), (1, .int v1), (2, .int v2), (4, .int v4), (5, .int v5), (6, .int v6)]) hx hb dX9_commandOf_100 rfl hl (by decide) rfl (fun ls hl => ?_)
          obtain ⟨x8, ex8⟩ : ∃ y : Int32, y = v4 + 1 := ⟨_, rfl⟩
          replace h := h x8 ex8
          refine lv_iinc (v := x8) (lv' := [(4, .int x8), (3, .int x7), (0, .ref (P 0)), (1, .int v1), (2, .int v2), (5, .int v5), (6, .int v6)]) hx hb dX9_commandOf_101 hl (k := 4) rfl (by rw [ex8]; rfl) (by decide) rfl (fun ls hl => ?_)
          refine lv_goto (tgt := 5) hx hb dX9_commandOf_104 (by decide) ?_
          exact hK5 _ _ _ _ _ _ _ _ h  hP hS (lv_sub hl [2, 3, 4, 1, 0] rfl)
        · replace h := h.1 c6
          refine lv_iload hx hb dX9_commandOf_93 (lv_at hl 4 rfl) ?_
          exact g_iret hx hb hr hlocks h hP hS dX9_commandOf_95
    · replace h := h.2 c2
      refine lv_iload hx hb dX9_commandOf_29 (lv_at hl 6 rfl) ?_
      refine lv_if_eq (tgt := 69) hx hb dX9_commandOf_31 (by decide) (fun c9 => ?_) (fun c9 => ?_)
      · replace h := h.1 c9
        refine lv_iconst (v := 0) hx hb dX9_commandOf_69 (by decide) ?_
        refine lv_istore (lv' := [(6, .int 0), (0, .ref (P 0)), (1, .int v1), (2, .int v2), (3, .int v3), (4, .int v4), (5, .int v5)]) hx hb dX9_commandOf_70 hl (by decide) rfl (fun ls hl => ?_)
        obtain ⟨x10, ex10⟩ : ∃ y : Int32, y = v5 + 1 := ⟨_, rfl⟩
        replace h := h x10 ex10
        refine lv_iinc (v := x10) (lv' := [(5, .int x10), (6, .int 0), (0, .ref (P 0)), (1, .int v1), (2, .int v2), (3, .int v3), (4, .int v4)]) hx hb dX9_commandOf_72 hl (k := 6) rfl (by rw [ex10]; rfl) (by decide) rfl (fun ls hl => ?_)
        refine lv_goto (tgt := 17) hx hb dX9_commandOf_75 (by decide) ?_
        exact ih _ _ _ _ _ _ _ _ _ _ h  hP hS (lv_sub hl [2, 3, 4, 5, 6, 0, 1] rfl)
      · replace h := h.2 c9
        refine lv_iload_n hx hb dX9_commandOf_34 rfl (lv_at hl 1 rfl) ?_
        refine lv_iload hx hb dX9_commandOf_35 (lv_at hl 5 rfl) ?_
        refine lv_iadd hx hb dX9_commandOf_37 ?_
        refine lv_iload_n hx hb dX9_commandOf_38 rfl (lv_at hl 3 rfl) ?_
        refine lv_isub hx hb dX9_commandOf_39 ?_
        refine lv_iload_n hx hb dX9_commandOf_40 rfl (lv_at hl 2 rfl) ?_
        refine lv_icmp_ge (tgt := 69) hx hb dX9_commandOf_41 (by decide) (fun c11 => ?_) (fun c11 => ?_)
        · replace h := h.1 c11
          refine lv_iconst (v := 0) hx hb dX9_commandOf_69 (by decide) ?_
          refine lv_istore (lv' := [(6, .int 0), (0, .ref (P 0)), (1, .int v1), (2, .int v2), (3, .int v3), (4, .int v4), (5, .int v5)]) hx hb dX9_commandOf_70 hl (by decide) rfl (fun ls hl => ?_)
          obtain ⟨x12, ex12⟩ : ∃ y : Int32, y = v5 + 1 := ⟨_, rfl⟩
          replace h := h x12 ex12
          refine lv_iinc (v := x12) (lv' := [(5, .int x12), (6, .int 0), (0, .ref (P 0)), (1, .int v1), (2, .int v2), (3, .int v3), (4, .int v4)]) hx hb dX9_commandOf_72 hl (k := 6) rfl (by rw [ex12]; rfl) (by decide) rfl (fun ls hl => ?_)
          refine lv_goto (tgt := 17) hx hb dX9_commandOf_75 (by decide) ?_
          exact ih _ _ _ _ _ _ _ _ _ _ h  hP hS (lv_sub hl [2, 3, 4, 5, 6, 0, 1] rfl)
        · replace h := h.2 c11
          refine lv_aload_n hx hb dX9_commandOf_44 rfl (lv_at hl 0 rfl) ?_
          refine g_get (v := .ref (P 13)) hx hb hts inG_X9 hown hK hP (kM_lt (rfl : kdM 0 = 9)) (eM9 (rfl : kdM 0 = 9)) rfl 20 (by decide) G_fl_X9_53 rfl rfl dX9_commandOf_45 ?_
          refine lv_iload_n hx hb dX9_commandOf_48 rfl (lv_at hl 1 rfl) ?_
          refine lv_iload hx hb dX9_commandOf_49 (lv_at hl 5 rfl) ?_
          refine lv_iadd hx hb dX9_commandOf_51 ?_
          refine lv_iload_n hx hb dX9_commandOf_52 rfl (lv_at hl 3 rfl) ?_
          refine lv_isub hx hb dX9_commandOf_53 ?_
          replace h := h _ rfl
          refine g_ald hx hb hK hP (kM_lt (rfl : kdM 13 = 10)) 0 (eM10 (rfl : kdM 13 = 10)) rfl h.1 dX9_commandOf_54 ?_
          replace h := h.2
          refine lv_aload_n hx hb dX9_commandOf_55 rfl (lv_at hl 0 rfl) ?_
          refine g_get (v := .ref (P 11)) hx hb hts inG_X9 hown hK hP (kM_lt (rfl : kdM 0 = 9)) (eM9 (rfl : kdM 0 = 9)) rfl 18 (by decide) G_fl_X9_47 rfl rfl dX9_commandOf_56 ?_
          refine lv_iload hx hb dX9_commandOf_59 (lv_at hl 5 rfl) ?_
          refine g_cald hx hb hK hP (kM_lt (rfl : kdM 11 = 11)) 1 (eM11 (rfl : kdM 11 = 11)) rfl h.1 dX9_commandOf_61 ?_
          replace h := h.2
          refine lv_icmp_ne (tgt := 69) hx hb dX9_commandOf_62 (by decide) (fun c14 => ?_) (fun c14 => ?_)
          · replace h := h.2 c14
            refine lv_iconst (v := 0) hx hb dX9_commandOf_69 (by decide) ?_
            refine lv_istore (lv' := [(6, .int 0), (0, .ref (P 0)), (1, .int v1), (2, .int v2), (3, .int v3), (4, .int v4), (5, .int v5)]) hx hb dX9_commandOf_70 hl (by decide) rfl (fun ls hl => ?_)
            obtain ⟨x15, ex15⟩ : ∃ y : Int32, y = v5 + 1 := ⟨_, rfl⟩
            replace h := h x15 ex15
            refine lv_iinc (v := x15) (lv' := [(5, .int x15), (6, .int 0), (0, .ref (P 0)), (1, .int v1), (2, .int v2), (3, .int v3), (4, .int v4)]) hx hb dX9_commandOf_72 hl (k := 6) rfl (by rw [ex15]; rfl) (by decide) rfl (fun ls hl => ?_)
            refine lv_goto (tgt := 17) hx hb dX9_commandOf_75 (by decide) ?_
            exact ih _ _ _ _ _ _ _ _ _ _ h  hP hS (lv_sub hl [2, 3, 4, 5, 6, 0, 1] rfl)
          · replace h := h.1 c14
            refine lv_iconst (v := 1) hx hb dX9_commandOf_65 (by decide) ?_
            refine lv_goto (tgt := 70) hx hb dX9_commandOf_66 (by decide) ?_
            refine lv_istore (lv' := [(6, .int 1), (0, .ref (P 0)), (1, .int v1), (2, .int v2), (3, .int v3), (4, .int v4), (5, .int v5)]) hx hb dX9_commandOf_70 hl (by decide) rfl (fun ls hl => ?_)
            obtain ⟨x16, ex16⟩ : ∃ y : Int32, y = v5 + 1 := ⟨_, rfl⟩
            replace h := h x16 ex16
            refine lv_iinc (v := x16) (lv' := [(5, .int x16), (6, .int 1), (0, .ref (P 0)), (1, .int v1), (2, .int v2), (3, .int v3), (4, .int v4)]) hx hb dX9_commandOf_72 hl (k := 6) rfl (by rw [ex16]; rfl) (by decide) rfl (fun ls hl => ?_)
            refine lv_goto (tgt := 17) hx hb dX9_commandOf_75 (by decide) ?_
            exact ih _ _ _ _ _ _ _ _ _ _ h  hP hS (lv_sub hl [2, 3, 4, 5, 6, 0, 1] rfl)
set_option maxRecDepth 100000 in
set_option maxHeartbeats 4000000 in
theorem b_X9_commandOf_5 {p : Program} {l : Launch} {e : Env} {s : State} {m : MethodId} {args : Array Value} {below : List Frame} {meth : Method} {c : Code} {dC : Nat → ClassId} {dI : Nat → Nat → Nat} {cA : Nat → ClassId} {P : Nat → Nat} (C : CtxM dC dI cA P p s m args meth c cX9_commandOf 7 (some .int) RX9) {post : Int32 → St → Prop}  : ∀ (n : Nat) (v1 : Int32) (v2 : Int32) (v3 : Int32) (v4 : Int32) (S : St) (H : Heap) (locs : List Loc) (ls : Array Slot), w_X9_commandOf_5 post n v1 v2 v3 v4 S → VM dC dI cA P S H → va_S (PA 25 P) s.heap H locs → lv_has ls 7 [(0, .ref (P 0)), (1, .int v1), (2, .int v2), (3, .int v3), (4, .int v4)] → W p l e ({ frames := 0, cells := 0, slots := 0, locals := 0 } : Room) s m args below meth c H locs 0 0 (MQ below (va_Qi post (fun u t => VM dC dI cA P u t.heap) (PA 25 P)) args s 0 0 (PA 25 P)) (F0 m 5 ls []) := by
  have C := C
  obtain ⟨hI, hKX, ⟨hx, hb, hml, hown, hts⟩, hr, hlocks⟩ := id C
  have hK := hKX
  intro n
  induction n with
  | zero =>
    intro v1 v2 v3 v4 S H locs ls h hP hS hl
    simp only [w_X9_commandOf_5] at h
  | succ n ih =>
    intro v1 v2 v3 v4 S H locs ls h hP hS hl
    rw [w_X9_commandOf_5] at h
    refine lv_iload hx hb dX9_commandOf_5 (lv_at hl 4 rfl) ?_
    refine lv_iconst (v := 5) hx hb dX9_commandOf_7 (by decide) ?_
    refine lv_icmp_ge (tgt := 107) hx hb dX9_commandOf_8 (by decide) (fun c1 => ?_) (fun c1 => ?_)
    · replace h := h.1 c1
      refine lv_iconst (v := (-1)) hx hb dX9_commandOf_107 (by decide) ?_
      exact g_iret hx hb hr hlocks h hP hS dX9_commandOf_108
    · replace h := h.2 c1
      refine lv_iload_n hx hb dX9_commandOf_11 rfl (lv_at hl 3 rfl) ?_
      refine lv_istore (lv' := [(5, .int v3), (0, .ref (P 0)), (1, .int v1), (2, .int v2), (3, .int v3), (4, .int v4)]) hx hb dX9_commandOf_12 hl (by decide) rfl (fun ls hl => ?_)
      refine lv_iconst (v := 1) hx hb dX9_commandOf_14 (by decide) ?_
      refine lv_istore (lv' := [(6, .int 1), (5, .int v3), (0, .ref (P 0)), (1, .int v1), (2, .int v2), (3, .int v3), (4, .int v4)]) hx hb dX9_commandOf_15 hl (by decide) rfl (fun ls hl => ?_)
      obtain ⟨n17, h⟩ := h
      exact b_X9_commandOf_17 C ih n17 _ _ _ _ _ _ _ _ _ _ h  hP hS (lv_sub hl [2, 3, 4, 5, 6, 1, 0] rfl)
set_option maxRecDepth 100000 in
set_option maxHeartbeats 4000000 in
theorem e_X9_commandOf {p : Program} {l : Launch} {e : Env} {s : State} {m : MethodId} {args : Array Value} {below : List Frame} {meth : Method} {c : Code} {dC : Nat → ClassId} {dI : Nat → Nat → Nat} {cA : Nat → ClassId} {P : Nat → Nat} (C : CtxM dC dI cA P p s m args meth c cX9_commandOf 7 (some .int) RX9) {post : Int32 → St → Prop} : ∀ (v1 : Int32) (v2 : Int32) (S : St) (H : Heap) (locs : List Loc) (ls : Array Slot), w_X9_commandOf v1 v2 post S → VM dC dI cA P S H → va_S (PA 25 P) s.heap H locs → lv_has ls 7 [(0, .ref (P 0)), (1, .int v1), (2, .int v2)] → W p l e ({ frames := 0, cells := 0, slots := 0, locals := 0 } : Room) s m args below meth c H locs 0 0 (MQ below (va_Qi post (fun u t => VM dC dI cA P u t.heap) (PA 25 P)) args s 0 0 (PA 25 P)) (F0 m 0 ls []) := by
  have C := C
  obtain ⟨hI, hKX, ⟨hx, hb, hml, hown, hts⟩, hr, hlocks⟩ := id C
  have hK := hKX
  intro v1 v2 S H locs ls h hP hS hl
  rw [w_X9_commandOf] at h
  refine lv_iconst (v := 0) hx hb dX9_commandOf_0 (by decide) ?_
  refine lv_istore_n (lv' := [(3, .int 0), (0, .ref (P 0)), (1, .int v1), (2, .int v2)]) hx hb dX9_commandOf_1 rfl hl (by decide) rfl (fun ls hl => ?_)
  refine lv_iconst (v := 0) hx hb dX9_commandOf_2 (by decide) ?_
  refine lv_istore (lv' := [(4, .int 0), (3, .int 0), (0, .ref (P 0)), (1, .int v1), (2, .int v2)]) hx hb dX9_commandOf_3 hl (by decide) rfl (fun ls hl => ?_)
  obtain ⟨n18, h⟩ := h
  exact b_X9_commandOf_5 C n18 _ _ _ _ _ _ _ _ h  hP hS (lv_sub hl [2, 3, 4, 1, 0] rfl)
set_option maxRecDepth 100000 in
set_option maxHeartbeats 4000000 in
theorem c_X9_commandOf (l : Launch) {dC : Nat → ClassId} {dI : Nat → Nat → Nat} {cA : Nat → ClassId} {P : Nat → Nat} (hI : PInj 25 P) {v1 : Int32} {v2 : Int32}  {post : Int32 → St → Prop} {S : St} (h : w_X9_commandOf v1 v2 post S) : Met l yX9_commandOf (wW yX9_commandOf cX9_commandOf 7 (some .int)) ({ frames := 0, cells := 0, slots := 0, locals := 0 } : Room) (va_Pc [.ref (P 0), .int v1, .int v2] (PreM dC dI cA P S)) (va_Qi post (fun u t => VM dC dI cA P u t.heap) (PA 25 P)) 0 0 (PA 25 P) := by
  refine Met.ofW (cc := cX9_commandOf) (maxL := 7) (ret := (some .int)) (by decide) rfl ?_
  intro p e s m args below meth c s₁ B hml hv
  obtain ⟨rfl, hP, hKX⟩ := hv
  have hts : ∀ w ∈ G, w.before [.ref (P 0), .int v1, .int v2].toArray s = true := fun w hw => atoms_spec (ws := wW yX9_commandOf cX9_commandOf 7 (some .int)) B.pre w (List.mem_cons_of_mem _ hw)
  have C : CtxM dC dI cA P p s m [.ref (P 0), .int v1, .int v2].toArray meth c cX9_commandOf 7 (some .int) RX9 := ⟨hI, hKX, ⟨B.exec, B.bytes, hml, findClass_of_methodNamed B.named, hts⟩, B.returns, B.notSynchronized⟩
  have hS : va_S (PA 25 P) s.heap s.heap [] := va_S.rf
  have hl := lv_entry ([.ref (P 0), .int v1, .int v2]) (n := 7) (Nat.le_of_ble_eq_true rfl)
  rw [lg_entry_eq]
  generalize (lg_sl ([.ref (P 0), .int v1, .int v2]) ++ List.replicate (7 - (lg_sl ([.ref (P 0), .int v1, .int v2])).length) Slot.unset).toArray = ls at hl ⊢
  have hl : lv_has ls 7 [(0, .ref (P 0)), (1, .int v1), (2, .int v2)] := hl
  exact e_X9_commandOf C _ _ _ _ _ _ h  hP hS hl
set_option maxRecDepth 100000 in
set_option maxHeartbeats 4000000 in
theorem b_X9_thin_95 {p : Program} {l : Launch} {e : Env} {s : State} {m : MethodId} {args : Array Value} {below : List Frame} {meth : Method} {c : Code} {dC : Nat → ClassId} {dI : Nat → Nat → Nat} {cA : Nat → ClassId} {P : Nat → Nat} (C : CtxM dC dI cA P p s m args meth c cX9_thin 5 (some .int) RX9) {post : Int32 → St → Prop}  : ∀ (n : Nat) (v1 : Int32) (v2 : Int32) (v3 : Int32) (v4 : Int32) (S : St) (H : Heap) (locs : List Loc) (ls : Array Slot), w_X9_thin_95 post n v1 v2 v3 v4 S → VM dC dI cA P S H → va_S (PA 25 P) s.heap H locs → lv_has ls 5 [(0, .ref (P 0)), (1, .int v1), (2, .int v2), (3, .int v3), (4, .int v4)] → W p l e ({ frames := 3, cells := 0, slots := 0, locals := 75 } : Room) s m args below meth c H locs 0 0 (MQ below (va_Qi post (fun u t => VM dC dI cA P u t.heap) (PA 25 P)) args s 0 0 (PA 25 P)) (F0 m 95 ls []) := by
  have C := C
  obtain ⟨hI, hKX, ⟨hx, hb, hml, hown, hts⟩, hr, hlocks⟩ := id C
  have hK := hKX
  intro n
  induction n with
  | zero =>
    intro v1 v2 v3 v4 S H locs ls h hP hS hl
    simp only [w_X9_thin_95] at h
  | succ n ih =>
    intro v1 v2 v3 v4 S H locs ls h hP hS hl
    rw [w_X9_thin_95] at h
    refine lv_iload hx hb dX9_thin_95 (lv_at hl 4 rfl) ?_
    refine lv_aload_n hx hb dX9_thin_97 rfl (lv_at hl 0 rfl) ?_
    refine g_get (v := .int (S.1 0 14)) hx hb hts inG_X9 hown hK hP (kM_lt (rfl : kdM 0 = 9)) (eM9 (rfl : kdM 0 = 9)) rfl 14 (by decide) G_fl_X9_194 rfl rfl dX9_thin_98 ?_
    refine lv_icmp_ge (tgt := 142) hx hb dX9_thin_101 (by decide) (fun c11 => ?_) (fun c11 => ?_)
    · replace h := h.1 c11
      refine lv_aload_n hx hb dX9_thin_142 rfl (lv_at hl 0 rfl) ?_
      refine lv_iload_n hx hb dX9_thin_143 rfl (lv_at hl 3 rfl) ?_
      refine g_putI hx hb hts inG_X9 tyX9 tyX9_ok nmX9 hown hK hI hP hS (kM_lt (rfl : kdM 0 = 9)) (eM9 (rfl : kdM 0 = 9)) rfl 14 (by decide) G_fl_X9_194 rfl rfl (ty := .int) (by decide +kernel) rfl rfl (Nat.le_of_ble_eq_true rfl) rfl h dX9_thin_144 (fun S12 H locs h hP hS => ?_)
      refine lv_iload_n hx hb dX9_thin_147 rfl (lv_at hl 3 rfl) ?_
      exact g_iret hx hb hr hlocks h hP hS dX9_thin_148
    · replace h := h.2 c11
      refine lv_aload_n hx hb dX9_thin_104 rfl (lv_at hl 0 rfl) ?_
      refine lv_iload_n hx hb dX9_thin_105 rfl (lv_at hl 2 rfl) ?_
      refine lv_aload_n hx hb dX9_thin_106 rfl (lv_at hl 0 rfl) ?_
      refine g_get (v := .ref (P 9)) hx hb hts inG_X9 hown hK hP (kM_lt (rfl : kdM 0 = 9)) (eM9 (rfl : kdM 0 = 9)) rfl 16 (by decide) G_fl_X9_40 rfl rfl dX9_thin_107 ?_
      refine lv_iload hx hb dX9_thin_110 (lv_at hl 4 rfl) ?_
      refine g_ald hx hb hK hP (kM_lt (rfl : kdM 9 = 10)) 0 (eM10 (rfl : kdM 9 = 10)) rfl h.1 dX9_thin_112 ?_
      replace h := h.2
      replace h := h _ rfl
      refine va_calli (va_runV (As := [.int _, .int _]) (rest := []) ⟨hx, hb, hml, hown, hts⟩ (c_X9_isSo l hI h) (cwV 2 hts gv_X9_227 rfl rfl rfl hv_X9_isSo ⟨Nat.le_of_ble_eq_true rfl, Nat.le_of_ble_eq_true rfl⟩) (preV_M hKX hP hS (kM_lt (rfl : kdM 0 = 9)) (eM9 (rfl : kdM 0 = 9)) rfl) rfl rfl hl.1 rfl (lv_room (Nat.le_of_ble_eq_true rfl)) dX9_thin_113 ⟨Nat.le_of_ble_eq_true rfl, Nat.le_of_ble_eq_true rfl⟩) hS (fun _ _ h => h) (fun _ h => h) (fun r15 S14 t H locs ht _ h hB _ _ hS => ?_)
      have hP : VM dC dI cA P S14 H := by rw [← ht]; exact hB
      refine lv_iload_n hx hb dX9_thin_116 rfl (lv_at hl 1 rfl) ?_
      refine lv_icmp_eq (tgt := 136) hx hb dX9_thin_117 (by decide) (fun c16 => ?_) (fun c16 => ?_)
      · replace h := h.1 c16
        obtain ⟨x17, ex17⟩ : ∃ y : Int32, y = v4 + 1 := ⟨_, rfl⟩
        replace h := h x17 ex17
        refine lv_iinc (v := x17) (lv' := [(4, .int x17), (0, .ref (P 0)), (1, .int v1), (2, .int v2), (3, .int v3)]) hx hb dX9_thin_136 hl (k := 4) rfl (by rw [ex17]; rfl) (by decide) rfl (fun ls hl => ?_)
        refine lv_goto (tgt := 95) hx hb dX9_thin_139 (by decide) ?_
        exact ih _ _ _ _ _ _ _ _ h  hP hS (lv_sub hl [1, 2, 3, 4, 0] rfl)
      · replace h := h.2 c16
        refine lv_aload_n hx hb dX9_thin_120 rfl (lv_at hl 0 rfl) ?_
        refine g_get (v := .ref (P 9)) hx hb hts inG_X9 hown hK hP (kM_lt (rfl : kdM 0 = 9)) (eM9 (rfl : kdM 0 = 9)) rfl 16 (by decide) G_fl_X9_40 rfl rfl dX9_thin_121 ?_
        refine lv_iload_n hx hb dX9_thin_124 rfl (lv_at hl 3 rfl) ?_
        refine lv_aload_n hx hb dX9_thin_125 rfl (lv_at hl 0 rfl) ?_
        refine g_get (v := .ref (P 9)) hx hb hts inG_X9 hown hK hP (kM_lt (rfl : kdM 0 = 9)) (eM9 (rfl : kdM 0 = 9)) rfl 16 (by decide) G_fl_X9_40 rfl rfl dX9_thin_126 ?_
        refine lv_iload hx hb dX9_thin_129 (lv_at hl 4 rfl) ?_
        refine g_ald hx hb hK hP (kM_lt (rfl : kdM 9 = 10)) 0 (eM10 (rfl : kdM 9 = 10)) rfl h.1 dX9_thin_131 ?_
        replace h := h.2
        replace h := h _ rfl
        refine g_ast hx hb hK hI hP hS (kM_lt (rfl : kdM 9 = 10)) 0 (eM10 (rfl : kdM 9 = 10)) rfl h.1 h.2 dX9_thin_132 (fun S19 H locs h hP hS => ?_)
        obtain ⟨x20, ex20⟩ : ∃ y : Int32, y = v3 + 1 := ⟨_, rfl⟩
        replace h := h x20 ex20
        refine lv_iinc (v := x20) (lv' := [(3, .int x20), (0, .ref (P 0)), (1, .int v1), (2, .int v2), (4, .int v4)]) hx hb dX9_thin_133 hl (k := 3) rfl (by rw [ex20]; rfl) (by decide) rfl (fun ls hl => ?_)
        obtain ⟨x21, ex21⟩ : ∃ y : Int32, y = v4 + 1 := ⟨_, rfl⟩
        replace h := h x21 ex21
        refine lv_iinc (v := x21) (lv' := [(4, .int x21), (3, .int x20), (0, .ref (P 0)), (1, .int v1), (2, .int v2)]) hx hb dX9_thin_136 hl (k := 4) rfl (by rw [ex21]; rfl) (by decide) rfl (fun ls hl => ?_)
        refine lv_goto (tgt := 95) hx hb dX9_thin_139 (by decide) ?_
        exact ih _ _ _ _ _ _ _ _ h  hP hS (lv_sub hl [2, 3, 4, 1, 0] rfl)
set_option maxRecDepth 100000 in
set_option maxHeartbeats 4000000 in
theorem b_X9_thin_75 {p : Program} {l : Launch} {e : Env} {s : State} {m : MethodId} {args : Array Value} {below : List Frame} {meth : Method} {c : Code} {dC : Nat → ClassId} {dI : Nat → Nat → Nat} {cA : Nat → ClassId} {P : Nat → Nat} (C : CtxM dC dI cA P p s m args meth c cX9_thin 5 (some .int) RX9) {post : Int32 → St → Prop}  : ∀ (v1 : Int32) (y1 : Int32) (S : St) (H : Heap) (locs : List Loc) (ls : Array Slot), w_X9_thin_75 post v1 y1 S → VM dC dI cA P S H → va_S (PA 25 P) s.heap H locs → lv_has ls 5 [(0, .ref (P 0)), (1, .int v1)] → W p l e ({ frames := 3, cells := 0, slots := 0, locals := 75 } : Room) s m args below meth c H locs 0 0 (MQ below (va_Qi post (fun u t => VM dC dI cA P u t.heap) (PA 25 P)) args s 0 0 (PA 25 P)) (F0 m 75 ls [.int y1, .ref (P 0)]) := by
  have C := C
  obtain ⟨hI, hKX, ⟨hx, hb, hml, hown, hts⟩, hr, hlocks⟩ := id C
  have hK := hKX
  intro v1 y1 S H locs ls h hP hS hl
  rw [w_X9_thin_75] at h
  refine lv_aload_n hx hb dX9_thin_75 rfl (lv_at hl 0 rfl) ?_
  refine g_get (v := .int (S.1 0 22)) hx hb hts inG_X9 hown hK hP (kM_lt (rfl : kdM 0 = 9)) (eM9 (rfl : kdM 0 = 9)) rfl 22 (by decide) G_fl_X9_221 rfl rfl dX9_thin_76 ?_
  replace h := h _ rfl
  refine va_calli (va_runV (As := [.int _, .int _]) (rest := []) ⟨hx, hb, hml, hown, hts⟩ (c_X9_wordOf l hI h) (cwV 2 hts gv_X9_224 rfl rfl rfl hv_X9_wordOf ⟨Nat.le_of_ble_eq_true rfl, Nat.le_of_ble_eq_true rfl⟩) (preV_M hKX hP hS (kM_lt (rfl : kdM 0 = 9)) (eM9 (rfl : kdM 0 = 9)) rfl) rfl rfl hl.1 rfl (lv_room (Nat.le_of_ble_eq_true rfl)) dX9_thin_79 ⟨Nat.le_of_ble_eq_true rfl, Nat.le_of_ble_eq_true rfl⟩) hS (fun _ _ h => h) (fun _ h => h) (fun r9 S8 t H locs ht _ h hB _ _ hS => ?_)
  have hP : VM dC dI cA P S8 H := by rw [← ht]; exact hB
  refine lv_istore_n (lv' := [(2, .int r9), (0, .ref (P 0)), (1, .int v1)]) hx hb dX9_thin_82 rfl hl (by decide) rfl (fun ls hl => ?_)
  refine lv_iload_n hx hb dX9_thin_83 rfl (lv_at hl 0 rfl) ?_
  refine lv_iconst (v := (-1)) hx hb dX9_thin_84 (by decide) ?_
  refine lv_icmp_ne (tgt := 90) hx hb dX9_thin_85 (by decide) (fun c10 => ?_) (fun c10 => ?_)
  · replace h := h.2 c10
    refine lv_iconst (v := 0) hx hb dX9_thin_90 (by decide) ?_
    refine lv_istore_n (lv' := [(3, .int 0), (2, .int r9), (0, .ref (P 0)), (1, .int v1)]) hx hb dX9_thin_91 rfl hl (by decide) rfl (fun ls hl => ?_)
    refine lv_iconst (v := 0) hx hb dX9_thin_92 (by decide) ?_
    refine lv_istore (lv' := [(4, .int 0), (3, .int 0), (2, .int r9), (0, .ref (P 0)), (1, .int v1)]) hx hb dX9_thin_93 hl (by decide) rfl (fun ls hl => ?_)
    obtain ⟨n22, h⟩ := h
    exact b_X9_thin_95 C n22 _ _ _ _ _ _ _ _ h  hP hS (lv_sub hl [3, 4, 2, 1, 0] rfl)
  · replace h := h.1 c10
    refine lv_iconst (v := (-1)) hx hb dX9_thin_88 (by decide) ?_
    exact g_iret hx hb hr hlocks h hP hS dX9_thin_89
set_option maxRecDepth 100000 in
set_option maxHeartbeats 4000000 in
theorem b_X9_thin_65 {p : Program} {l : Launch} {e : Env} {s : State} {m : MethodId} {args : Array Value} {below : List Frame} {meth : Method} {c : Code} {dC : Nat → ClassId} {dI : Nat → Nat → Nat} {cA : Nat → ClassId} {P : Nat → Nat} (C : CtxM dC dI cA P p s m args meth c cX9_thin 5 (some .int) RX9) {post : Int32 → St → Prop}  : ∀ (v1 : Int32) (S : St) (H : Heap) (locs : List Loc) (ls : Array Slot), w_X9_thin_65 post v1 S → VM dC dI cA P S H → va_S (PA 25 P) s.heap H locs → lv_has ls 5 [(0, .ref (P 0)), (1, .int v1)] → W p l e ({ frames := 3, cells := 0, slots := 0, locals := 75 } : Room) s m args below meth c H locs 0 0 (MQ below (va_Qi post (fun u t => VM dC dI cA P u t.heap) (PA 25 P)) args s 0 0 (PA 25 P)) (F0 m 65 ls []) := by
  have C := C
  obtain ⟨hI, hKX, ⟨hx, hb, hml, hown, hts⟩, hr, hlocks⟩ := id C
  have hK := hKX
  intro v1 S H locs ls h hP hS hl
  rw [w_X9_thin_65] at h
  refine lv_aload_n hx hb dX9_thin_65 rfl (lv_at hl 0 rfl) ?_
  refine lv_iload_n hx hb dX9_thin_66 rfl (lv_at hl 1 rfl) ?_
  refine lv_if_eq (tgt := 74) hx hb dX9_thin_67 (by decide) (fun c6 => ?_) (fun c6 => ?_)
  · replace h := h.1 c6
    refine lv_iconst (v := 0) hx hb dX9_thin_74 (by decide) ?_
    exact b_X9_thin_75 C _ _ _ _ _ _ h  hP hS (lv_sub hl [0, 1] rfl)
  · replace h := h.2 c6
    refine lv_iconst (v := 4) hx hb dX9_thin_70 (by decide) ?_
    refine lv_goto (tgt := 75) hx hb dX9_thin_71 (by decide) ?_
    exact b_X9_thin_75 C _ _ _ _ _ _ h  hP hS (lv_sub hl [0, 1] rfl)
set_option maxRecDepth 100000 in
set_option maxHeartbeats 4000000 in
theorem b_X9_thin_29 {p : Program} {l : Launch} {e : Env} {s : State} {m : MethodId} {args : Array Value} {below : List Frame} {meth : Method} {c : Code} {dC : Nat → ClassId} {dI : Nat → Nat → Nat} {cA : Nat → ClassId} {P : Nat → Nat} (C : CtxM dC dI cA P p s m args meth c cX9_thin 5 (some .int) RX9) {post : Int32 → St → Prop}  : ∀ (n : Nat) (v1 : Int32) (v2 : Int32) (S : St) (H : Heap) (locs : List Loc) (ls : Array Slot), w_X9_thin_29 post n v1 v2 S → VM dC dI cA P S H → va_S (PA 25 P) s.heap H locs → lv_has ls 5 [(0, .ref (P 0)), (1, .int v1), (2, .int v2)] → W p l e ({ frames := 3, cells := 0, slots := 0, locals := 75 } : Room) s m args below meth c H locs 0 0 (MQ below (va_Qi post (fun u t => VM dC dI cA P u t.heap) (PA 25 P)) args s 0 0 (PA 25 P)) (F0 m 29 ls []) := by
  have C := C
  obtain ⟨hI, hKX, ⟨hx, hb, hml, hown, hts⟩, hr, hlocks⟩ := id C
  have hK := hKX
  intro n
  induction n with
  | zero =>
    intro v1 v2 S H locs ls h hP hS hl
    simp only [w_X9_thin_29] at h
  | succ n ih =>
    intro v1 v2 S H locs ls h hP hS hl
    rw [w_X9_thin_29] at h
    refine lv_iload_n hx hb dX9_thin_29 rfl (lv_at hl 2 rfl) ?_
    refine lv_iconst (v := 4) hx hb dX9_thin_30 (by decide) ?_
    refine lv_icmp_ge (tgt := 65) hx hb dX9_thin_31 (by decide) (fun c5 => ?_) (fun c5 => ?_)
    · replace h := h.1 c5
      exact b_X9_thin_65 C _ _ _ _ _ h  hP hS (lv_sub hl [0, 1] rfl)
    · replace h := h.2 c5
      refine lv_iload_n hx hb dX9_thin_34 rfl (lv_at hl 1 rfl) ?_
      refine lv_if_eq (tgt := 65) hx hb dX9_thin_35 (by decide) (fun c23 => ?_) (fun c23 => ?_)
      · replace h := h.1 c23
        exact b_X9_thin_65 C _ _ _ _ _ h  hP hS (lv_sub hl [0, 1] rfl)
      · replace h := h.2 c23
        refine lv_aload_n hx hb dX9_thin_38 rfl (lv_at hl 0 rfl) ?_
        refine g_get (v := .ref (P 13)) hx hb hts inG_X9 hown hK hP (kM_lt (rfl : kdM 0 = 9)) (eM9 (rfl : kdM 0 = 9)) rfl 20 (by decide) G_fl_X9_53 rfl rfl dX9_thin_39 ?_
        refine lv_iload_n hx hb dX9_thin_42 rfl (lv_at hl 2 rfl) ?_
        refine g_ald hx hb hK hP (kM_lt (rfl : kdM 13 = 10)) 0 (eM10 (rfl : kdM 13 = 10)) rfl h.1 dX9_thin_43 ?_
        replace h := h.2
        refine lv_aload_n hx hb dX9_thin_44 rfl (lv_at hl 0 rfl) ?_
        refine g_get (v := .ref (P 12)) hx hb hts inG_X9 hown hK hP (kM_lt (rfl : kdM 0 = 9)) (eM9 (rfl : kdM 0 = 9)) rfl 19 (by decide) G_fl_X9_50 rfl rfl dX9_thin_45 ?_
        refine lv_iload_n hx hb dX9_thin_48 rfl (lv_at hl 2 rfl) ?_
        refine g_cald hx hb hK hP (kM_lt (rfl : kdM 12 = 11)) 1 (eM11 (rfl : kdM 12 = 11)) rfl h.1 dX9_thin_49 ?_
        replace h := h.2
        refine lv_icmp_ne (tgt := 57) hx hb dX9_thin_50 (by decide) (fun c24 => ?_) (fun c24 => ?_)
        · replace h := h.2 c24
          refine lv_iconst (v := 0) hx hb dX9_thin_57 (by decide) ?_
          refine lv_istore_n (lv' := [(1, .int 0), (0, .ref (P 0)), (2, .int v2)]) hx hb dX9_thin_58 rfl hl (by decide) rfl (fun ls hl => ?_)
          obtain ⟨x25, ex25⟩ : ∃ y : Int32, y = v2 + 1 := ⟨_, rfl⟩
          replace h := h x25 ex25
          refine lv_iinc (v := x25) (lv' := [(2, .int x25), (1, .int 0), (0, .ref (P 0))]) hx hb dX9_thin_59 hl (k := 2) rfl (by rw [ex25]; rfl) (by decide) rfl (fun ls hl => ?_)
          refine lv_goto (tgt := 29) hx hb dX9_thin_62 (by decide) ?_
          exact ih _ _ _ _ _ _ h  hP hS (lv_sub hl [2, 1, 0] rfl)
        · replace h := h.1 c24
          refine lv_iconst (v := 1) hx hb dX9_thin_53 (by decide) ?_
          refine lv_goto (tgt := 58) hx hb dX9_thin_54 (by decide) ?_
          refine lv_istore_n (lv' := [(1, .int 1), (0, .ref (P 0)), (2, .int v2)]) hx hb dX9_thin_58 rfl hl (by decide) rfl (fun ls hl => ?_)
          obtain ⟨x26, ex26⟩ : ∃ y : Int32, y = v2 + 1 := ⟨_, rfl⟩
          replace h := h x26 ex26
          refine lv_iinc (v := x26) (lv' := [(2, .int x26), (1, .int 1), (0, .ref (P 0))]) hx hb dX9_thin_59 hl (k := 2) rfl (by rw [ex26]; rfl) (by decide) rfl (fun ls hl => ?_)
          refine lv_goto (tgt := 29) hx hb dX9_thin_62 (by decide) ?_
          exact ih _ _ _ _ _ _ h  hP hS (lv_sub hl [2, 1, 0] rfl)
set_option maxRecDepth 100000 in
set_option maxHeartbeats 4000000 in
theorem e_X9_thin {p : Program} {l : Launch} {e : Env} {s : State} {m : MethodId} {args : Array Value} {below : List Frame} {meth : Method} {c : Code} {dC : Nat → ClassId} {dI : Nat → Nat → Nat} {cA : Nat → ClassId} {P : Nat → Nat} (C : CtxM dC dI cA P p s m args meth c cX9_thin 5 (some .int) RX9) {post : Int32 → St → Prop} : ∀  (S : St) (H : Heap) (locs : List Loc) (ls : Array Slot), w_X9_thin  post S → VM dC dI cA P S H → va_S (PA 25 P) s.heap H locs → lv_has ls 5 [(0, .ref (P 0))] → W p l e ({ frames := 3, cells := 0, slots := 0, locals := 75 } : Room) s m args below meth c H locs 0 0 (MQ below (va_Qi post (fun u t => VM dC dI cA P u t.heap) (PA 25 P)) args s 0 0 (PA 25 P)) (F0 m 0 ls []) := by
  have C := C
  obtain ⟨hI, hKX, ⟨hx, hb, hml, hown, hts⟩, hr, hlocks⟩ := id C
  have hK := hKX
  intro S H locs ls h hP hS hl
  rw [w_X9_thin] at h
  refine lv_aload_n hx hb dX9_thin_0 rfl (lv_at hl 0 rfl) ?_
  refine lv_aload_n hx hb dX9_thin_1 rfl (lv_at hl 0 rfl) ?_
  refine g_get (v := .int (S.1 0 21)) hx hb hts inG_X9 hown hK hP (kM_lt (rfl : kdM 0 = 9)) (eM9 (rfl : kdM 0 = 9)) rfl 21 (by decide) G_fl_X9_215 rfl rfl dX9_thin_2 ?_
  replace h := h _ rfl
  refine g_putI hx hb hts inG_X9 tyX9 tyX9_ok nmX9 hown hK hI hP hS (kM_lt (rfl : kdM 0 = 9)) (eM9 (rfl : kdM 0 = 9)) rfl 22 (by decide) G_fl_X9_221 rfl rfl (ty := .int) (by decide +kernel) rfl rfl (Nat.le_of_ble_eq_true rfl) rfl h dX9_thin_5 (fun S2 H locs h hP hS => ?_)
  refine lv_aload_n hx hb dX9_thin_8 rfl (lv_at hl 0 rfl) ?_
  refine lv_iconst (v := 0) hx hb dX9_thin_9 (by decide) ?_
  refine g_putI hx hb hts inG_X9 tyX9 tyX9_ok nmX9 hown hK hI hP hS (kM_lt (rfl : kdM 0 = 9)) (eM9 (rfl : kdM 0 = 9)) rfl 21 (by decide) G_fl_X9_215 rfl rfl (ty := .int) (by decide +kernel) rfl rfl (Nat.le_of_ble_eq_true rfl) rfl h dX9_thin_10 (fun S3 H locs h hP hS => ?_)
  refine lv_aload_n hx hb dX9_thin_13 rfl (lv_at hl 0 rfl) ?_
  refine g_get (v := .int (S3.1 0 22)) hx hb hts inG_X9 hown hK hP (kM_lt (rfl : kdM 0 = 9)) (eM9 (rfl : kdM 0 = 9)) rfl 22 (by decide) G_fl_X9_221 rfl rfl dX9_thin_14 ?_
  refine lv_iconst (v := 4) hx hb dX9_thin_17 (by decide) ?_
  refine lv_icmp_lt (tgt := 25) hx hb dX9_thin_18 (by decide) (fun c4 => ?_) (fun c4 => ?_)
  · replace h := h.1 c4
    refine lv_iconst (v := 0) hx hb dX9_thin_25 (by decide) ?_
    refine lv_istore_n (lv' := [(1, .int 0), (0, .ref (P 0))]) hx hb dX9_thin_26 rfl hl (by decide) rfl (fun ls hl => ?_)
    refine lv_iconst (v := 0) hx hb dX9_thin_27 (by decide) ?_
    refine lv_istore_n (lv' := [(2, .int 0), (1, .int 0), (0, .ref (P 0))]) hx hb dX9_thin_28 rfl hl (by decide) rfl (fun ls hl => ?_)
    obtain ⟨n27, h⟩ := h
    exact b_X9_thin_29 C n27 _ _ _ _ _ _ h  hP hS (lv_sub hl [2, 1, 0] rfl)
  · replace h := h.2 c4
    refine lv_iconst (v := 1) hx hb dX9_thin_21 (by decide) ?_
    refine lv_goto (tgt := 26) hx hb dX9_thin_22 (by decide) ?_
    refine lv_istore_n (lv' := [(1, .int 1), (0, .ref (P 0))]) hx hb dX9_thin_26 rfl hl (by decide) rfl (fun ls hl => ?_)
    refine lv_iconst (v := 0) hx hb dX9_thin_27 (by decide) ?_
    refine lv_istore_n (lv' := [(2, .int 0), (1, .int 1), (0, .ref (P 0))]) hx hb dX9_thin_28 rfl hl (by decide) rfl (fun ls hl => ?_)
    obtain ⟨n28, h⟩ := h
    exact b_X9_thin_29 C n28 _ _ _ _ _ _ h  hP hS (lv_sub hl [2, 1, 0] rfl)
set_option maxRecDepth 100000 in
set_option maxHeartbeats 4000000 in
theorem c_X9_thin (l : Launch) {dC : Nat → ClassId} {dI : Nat → Nat → Nat} {cA : Nat → ClassId} {P : Nat → Nat} (hI : PInj 25 P)   {post : Int32 → St → Prop} {S : St} (h : w_X9_thin  post S) : Met l yX9_thin (wW yX9_thin cX9_thin 5 (some .int)) ({ frames := 3, cells := 0, slots := 0, locals := 75 } : Room) (va_Pc [.ref (P 0)] (PreM dC dI cA P S)) (va_Qi post (fun u t => VM dC dI cA P u t.heap) (PA 25 P)) 0 0 (PA 25 P) := by
  refine Met.ofW (cc := cX9_thin) (maxL := 5) (ret := (some .int)) (by decide) rfl ?_
  intro p e s m args below meth c s₁ B hml hv
  obtain ⟨rfl, hP, hKX⟩ := hv
  have hts : ∀ w ∈ G, w.before [.ref (P 0)].toArray s = true := fun w hw => atoms_spec (ws := wW yX9_thin cX9_thin 5 (some .int)) B.pre w (List.mem_cons_of_mem _ hw)
  have C : CtxM dC dI cA P p s m [.ref (P 0)].toArray meth c cX9_thin 5 (some .int) RX9 := ⟨hI, hKX, ⟨B.exec, B.bytes, hml, findClass_of_methodNamed B.named, hts⟩, B.returns, B.notSynchronized⟩
  have hS : va_S (PA 25 P) s.heap s.heap [] := va_S.rf
  have hl := lv_entry ([.ref (P 0)]) (n := 5) (Nat.le_of_ble_eq_true rfl)
  rw [lg_entry_eq]
  generalize (lg_sl ([.ref (P 0)]) ++ List.replicate (5 - (lg_sl ([.ref (P 0)])).length) Slot.unset).toArray = ls at hl ⊢
  have hl : lv_has ls 5 [(0, .ref (P 0))] := hl
  exact e_X9_thin C  _ _ _ _ h  hP hS hl
set_option maxRecDepth 100000 in
set_option maxHeartbeats 4000000 in
theorem e_X9_signOf {p : Program} {l : Launch} {e : Env} {s : State} {m : MethodId} {args : Array Value} {below : List Frame} {meth : Method} {c : Code} {dC : Nat → ClassId} {dI : Nat → Nat → Nat} {cA : Nat → ClassId} {P : Nat → Nat} (C : CtxM dC dI cA P p s m args meth c cX9_signOf 1 (some .int) RX9) {post : Int32 → St → Prop} : ∀ (v0 : Int32) (S : St) (H : Heap) (locs : List Loc) (ls : Array Slot), w_X9_signOf v0 post S → VM dC dI cA P S H → va_S (PA 25 P) s.heap H locs → lv_has ls 1 [(0, .int v0)] → W p l e ({ frames := 0, cells := 0, slots := 0, locals := 0 } : Room) s m args below meth c H locs 0 0 (MQ below (va_Qi post (fun u t => VM dC dI cA P u t.heap) (PA 25 P)) args s 0 0 (PA 25 P)) (F0 m 0 ls []) := by
  have C := C
  obtain ⟨hI, hKX, ⟨hx, hb, hml, hown, hts⟩, hr, hlocks⟩ := id C
  have hK := hKX
  intro v0 S H locs ls h hP hS hl
  rw [w_X9_signOf] at h
  refine lv_iload_n hx hb dX9_signOf_0 rfl (lv_at hl 0 rfl) ?_
  refine lv_bipush (v := 10) hx hb dX9_signOf_1 (by decide) ?_
  refine lv_icmp_ge (tgt := 13) hx hb dX9_signOf_3 (by decide) (fun c1 => ?_) (fun c1 => ?_)
  · replace h := h.1 c1
    refine lv_bipush (v := 97) hx hb dX9_signOf_13 (by decide) ?_
    refine lv_iload_n hx hb dX9_signOf_15 rfl (lv_at hl 0 rfl) ?_
    refine lv_iadd hx hb dX9_signOf_16 ?_
    refine lv_bipush (v := 10) hx hb dX9_signOf_17 (by decide) ?_
    refine lv_isub hx hb dX9_signOf_19 ?_
    exact g_iret hx hb hr hlocks h hP hS dX9_signOf_20
  · replace h := h.2 c1
    refine lv_bipush (v := 48) hx hb dX9_signOf_6 (by decide) ?_
    refine lv_iload_n hx hb dX9_signOf_8 rfl (lv_at hl 0 rfl) ?_
    refine lv_iadd hx hb dX9_signOf_9 ?_
    refine lv_goto (tgt := 20) hx hb dX9_signOf_10 (by decide) ?_
    exact g_iret hx hb hr hlocks h hP hS dX9_signOf_20
set_option maxRecDepth 100000 in
set_option maxHeartbeats 4000000 in
theorem c_X9_signOf (l : Launch) {dC : Nat → ClassId} {dI : Nat → Nat → Nat} {cA : Nat → ClassId} {P : Nat → Nat} (hI : PInj 25 P) {v0 : Int32}  {post : Int32 → St → Prop} {S : St} (h : w_X9_signOf v0 post S) : Met l yX9_signOf (wW yX9_signOf cX9_signOf 1 (some .int)) ({ frames := 0, cells := 0, slots := 0, locals := 0 } : Room) (va_Pc [.int v0] (PreM dC dI cA P S)) (va_Qi post (fun u t => VM dC dI cA P u t.heap) (PA 25 P)) 0 0 (PA 25 P) := by
  refine Met.ofW (cc := cX9_signOf) (maxL := 1) (ret := (some .int)) (by decide) rfl ?_
  intro p e s m args below meth c s₁ B hml hv
  obtain ⟨rfl, hP, hKX⟩ := hv
  have hts : ∀ w ∈ G, w.before [.int v0].toArray s = true := fun w hw => atoms_spec (ws := wW yX9_signOf cX9_signOf 1 (some .int)) B.pre w (List.mem_cons_of_mem _ hw)
  have C : CtxM dC dI cA P p s m [.int v0].toArray meth c cX9_signOf 1 (some .int) RX9 := ⟨hI, hKX, ⟨B.exec, B.bytes, hml, findClass_of_methodNamed B.named, hts⟩, B.returns, B.notSynchronized⟩
  have hS : va_S (PA 25 P) s.heap s.heap [] := va_S.rf
  have hl := lv_entry ([.int v0]) (n := 1) (Nat.le_of_ble_eq_true rfl)
  rw [lg_entry_eq]
  generalize (lg_sl ([.int v0]) ++ List.replicate (1 - (lg_sl ([.int v0])).length) Slot.unset).toArray = ls at hl ⊢
  have hl : lv_has ls 1 [(0, .int v0)] := hl
  exact e_X9_signOf C _ _ _ _ _ h  hP hS hl
set_option maxRecDepth 100000 in
set_option maxHeartbeats 4000000 in
theorem b_X9_wholeSize_23 {p : Program} {l : Launch} {e : Env} {s : State} {m : MethodId} {args : Array Value} {below : List Frame} {meth : Method} {c : Code} {dC : Nat → ClassId} {dI : Nat → Nat → Nat} {cA : Nat → ClassId} {P : Nat → Nat} (C : CtxM dC dI cA P p s m args meth c cX9_wholeSize 4 (some .int) RX9) {post : Int32 → St → Prop}  : ∀ (n : Nat) (v1 : Int32) (v2 : Int32) (v3 : Int32) (S : St) (H : Heap) (locs : List Loc) (ls : Array Slot), w_X9_wholeSize_23 post n v1 v2 v3 S → VM dC dI cA P S H → va_S (PA 25 P) s.heap H locs → lv_has ls 4 [(0, .ref (P 0)), (1, .int v1), (2, .int v2), (3, .int v3)] → W p l e ({ frames := 0, cells := 0, slots := 0, locals := 0 } : Room) s m args below meth c H locs 0 0 (MQ below (va_Qi post (fun u t => VM dC dI cA P u t.heap) (PA 25 P)) args s 0 0 (PA 25 P)) (F0 m 23 ls []) := by
  have C := C
  obtain ⟨hI, hKX, ⟨hx, hb, hml, hown, hts⟩, hr, hlocks⟩ := id C
  have hK := hKX
  intro n
  induction n with
  | zero =>
    intro v1 v2 v3 S H locs ls h hP hS hl
    simp only [w_X9_wholeSize_23] at h
  | succ n ih =>
    intro v1 v2 v3 S H locs ls h hP hS hl
    rw [w_X9_wholeSize_23] at h
    refine lv_iload_n hx hb dX9_wholeSize_23 rfl (lv_at hl 3 rfl) ?_
    refine lv_if_le (tgt := 42) hx hb dX9_wholeSize_24 (by decide) (fun c2 => ?_) (fun c2 => ?_)
    · replace h := h.1 c2
      refine lv_iload_n hx hb dX9_wholeSize_42 rfl (lv_at hl 2 rfl) ?_
      exact g_iret hx hb hr hlocks h hP hS dX9_wholeSize_43
    · replace h := h.2 c2
      obtain ⟨x3, ex3⟩ : ∃ y : Int32, y = v2 + 1 := ⟨_, rfl⟩
      replace h := h x3 ex3
      refine lv_iinc (v := x3) (lv' := [(2, .int x3), (0, .ref (P 0)), (1, .int v1), (3, .int v3)]) hx hb dX9_wholeSize_27 hl (k := 2) rfl (by rw [ex3]; rfl) (by decide) rfl (fun ls hl => ?_)
      refine lv_iload_n hx hb dX9_wholeSize_30 rfl (lv_at hl 3 rfl) ?_
      refine lv_aload_n hx hb dX9_wholeSize_31 rfl (lv_at hl 1 rfl) ?_
      refine g_get (v := .ref (P 3)) hx hb hts inG_X9 hown hK hP (kM_lt (rfl : kdM 0 = 9)) (eM9 (rfl : kdM 0 = 9)) rfl 3 (by decide) G_fl_X9_18 rfl rfl dX9_wholeSize_32 ?_
      refine lv_iload_n hx hb dX9_wholeSize_35 rfl (lv_at hl 2 rfl) ?_
      refine g_ald hx hb hK hP (kM_lt (rfl : kdM 3 = 10)) 0 (eM10 (rfl : kdM 3 = 10)) rfl h.1 dX9_wholeSize_36 ?_
      replace h := h.2
      refine lv_idiv hx hb dX9_wholeSize_37 h.1 ?_
      replace h := h.2
      refine lv_topi (fun x4 ex4 => ?_)
      replace h := h x4 ex4
      refine lv_istore_n (lv' := [(3, .int x4), (2, .int x3), (0, .ref (P 0)), (1, .int v1)]) hx hb dX9_wholeSize_38 rfl hl (by decide) rfl (fun ls hl => ?_)
      refine lv_goto (tgt := 23) hx hb dX9_wholeSize_39 (by decide) ?_
      exact ih _ _ _ _ _ _ _ h  hP hS (lv_sub hl [2, 3, 1, 0] rfl)
set_option maxRecDepth 100000 in
set_option maxHeartbeats 4000000 in
theorem e_X9_wholeSize {p : Program} {l : Launch} {e : Env} {s : State} {m : MethodId} {args : Array Value} {below : List Frame} {meth : Method} {c : Code} {dC : Nat → ClassId} {dI : Nat → Nat → Nat} {cA : Nat → ClassId} {P : Nat → Nat} (C : CtxM dC dI cA P p s m args meth c cX9_wholeSize 4 (some .int) RX9) {post : Int32 → St → Prop} : ∀ (v1 : Int32) (S : St) (H : Heap) (locs : List Loc) (ls : Array Slot), w_X9_wholeSize v1 post S → VM dC dI cA P S H → va_S (PA 25 P) s.heap H locs → lv_has ls 4 [(0, .ref (P 0)), (1, .int v1)] → W p l e ({ frames := 0, cells := 0, slots := 0, locals := 0 } : Room) s m args below meth c H locs 0 0 (MQ below (va_Qi post (fun u t => VM dC dI cA P u t.heap) (PA 25 P)) args s 0 0 (PA 25 P)) (F0 m 0 ls []) := by
  have C := C
  obtain ⟨hI, hKX, ⟨hx, hb, hml, hown, hts⟩, hr, hlocks⟩ := id C
  have hK := hKX
  intro v1 S H locs ls h hP hS hl
  rw [w_X9_wholeSize] at h
  refine lv_iconst (v := 1) hx hb dX9_wholeSize_0 (by decide) ?_
  refine lv_istore_n (lv' := [(2, .int 1), (0, .ref (P 0)), (1, .int v1)]) hx hb dX9_wholeSize_1 rfl hl (by decide) rfl (fun ls hl => ?_)
  refine lv_aload_n hx hb dX9_wholeSize_2 rfl (lv_at hl 1 rfl) ?_
  refine g_get (v := .ref (P 1)) hx hb hts inG_X9 hown hK hP (kM_lt (rfl : kdM 0 = 9)) (eM9 (rfl : kdM 0 = 9)) rfl 1 (by decide) G_fl_X9_11 rfl rfl dX9_wholeSize_3 ?_
  refine lv_iload_n hx hb dX9_wholeSize_6 rfl (lv_at hl 2 rfl) ?_
  refine g_ald hx hb hK hP (kM_lt (rfl : kdM 1 = 10)) 0 (eM10 (rfl : kdM 1 = 10)) rfl h.1 dX9_wholeSize_7 ?_
  replace h := h.2
  refine lv_aload_n hx hb dX9_wholeSize_8 rfl (lv_at hl 1 rfl) ?_
  refine g_get (v := .ref (P 2)) hx hb hts inG_X9 hown hK hP (kM_lt (rfl : kdM 0 = 9)) (eM9 (rfl : kdM 0 = 9)) rfl 2 (by decide) G_fl_X9_15 rfl rfl dX9_wholeSize_9 ?_
  refine lv_iload_n hx hb dX9_wholeSize_12 rfl (lv_at hl 2 rfl) ?_
  refine g_ald hx hb hK hP (kM_lt (rfl : kdM 2 = 10)) 0 (eM10 (rfl : kdM 2 = 10)) rfl h.1 dX9_wholeSize_13 ?_
  replace h := h.2
  refine lv_idiv hx hb dX9_wholeSize_14 h.1 ?_
  replace h := h.2
  refine lv_aload_n hx hb dX9_wholeSize_15 rfl (lv_at hl 1 rfl) ?_
  refine g_get (v := .ref (P 3)) hx hb hts inG_X9 hown hK hP (kM_lt (rfl : kdM 0 = 9)) (eM9 (rfl : kdM 0 = 9)) rfl 3 (by decide) G_fl_X9_18 rfl rfl dX9_wholeSize_16 ?_
  refine lv_iload_n hx hb dX9_wholeSize_19 rfl (lv_at hl 2 rfl) ?_
  refine g_ald hx hb hK hP (kM_lt (rfl : kdM 3 = 10)) 0 (eM10 (rfl : kdM 3 = 10)) rfl h.1 dX9_wholeSize_20 ?_
  replace h := h.2
  refine lv_idiv hx hb dX9_wholeSize_21 h.1 ?_
  replace h := h.2
  refine lv_topi (fun x1 ex1 => ?_)
  replace h := h x1 ex1
  refine lv_istore_n (lv' := [(3, .int x1), (2, .int 1), (0, .ref (P 0)), (1, .int v1)]) hx hb dX9_wholeSize_22 rfl hl (by decide) rfl (fun ls hl => ?_)
  obtain ⟨n5, h⟩ := h
  exact b_X9_wholeSize_23 C n5 _ _ _ _ _ _ _ h  hP hS (lv_sub hl [2, 3, 1, 0] rfl)
set_option maxRecDepth 100000 in
set_option maxHeartbeats 4000000 in
theorem c_X9_wholeSize (l : Launch) {dC : Nat → ClassId} {dI : Nat → Nat → Nat} {cA : Nat → ClassId} {P : Nat → Nat} (hI : PInj 25 P) {v1 : Int32}  {post : Int32 → St → Prop} {S : St} (h : w_X9_wholeSize v1 post S) : Met l yX9_wholeSize (wW yX9_wholeSize cX9_wholeSize 4 (some .int)) ({ frames := 0, cells := 0, slots := 0, locals := 0 } : Room) (va_Pc [.ref (P 0), .int v1] (PreM dC dI cA P S)) (va_Qi post (fun u t => VM dC dI cA P u t.heap) (PA 25 P)) 0 0 (PA 25 P) := by
  refine Met.ofW (cc := cX9_wholeSize) (maxL := 4) (ret := (some .int)) (by decide) rfl ?_
  intro p e s m args below meth c s₁ B hml hv
  obtain ⟨rfl, hP, hKX⟩ := hv
  have hts : ∀ w ∈ G, w.before [.ref (P 0), .int v1].toArray s = true := fun w hw => atoms_spec (ws := wW yX9_wholeSize cX9_wholeSize 4 (some .int)) B.pre w (List.mem_cons_of_mem _ hw)
  have C : CtxM dC dI cA P p s m [.ref (P 0), .int v1].toArray meth c cX9_wholeSize 4 (some .int) RX9 := ⟨hI, hKX, ⟨B.exec, B.bytes, hml, findClass_of_methodNamed B.named, hts⟩, B.returns, B.notSynchronized⟩
  have hS : va_S (PA 25 P) s.heap s.heap [] := va_S.rf
  have hl := lv_entry ([.ref (P 0), .int v1]) (n := 4) (Nat.le_of_ble_eq_true rfl)
  rw [lg_entry_eq]
  generalize (lg_sl ([.ref (P 0), .int v1]) ++ List.replicate (4 - (lg_sl ([.ref (P 0), .int v1])).length) Slot.unset).toArray = ls at hl ⊢
  have hl : lv_has ls 4 [(0, .ref (P 0)), (1, .int v1)] := hl
  exact e_X9_wholeSize C _ _ _ _ _ h  hP hS hl
