set_option maxRecDepth 100000 in
set_option maxHeartbeats 4000000 in
theorem b_X9_undo_88 {p : Program} {l : Launch} {e : Env} {s : State} {m : MethodId} {args : Array Value} {below : List Frame} {meth : Method} {c : Code} {dC : Nat → ClassId} {dI : Nat → Nat → Nat} {cA : Nat → ClassId} {P : Nat → Nat} (C : CtxM dC dI cA P p s m args meth c cX9_undo 2 (some .int) RX9) {post : Int32 → St → Prop}  : ∀ (n : Nat) (v1 : Int32) (S : St) (H : Heap) (locs : List Loc) (ls : Array Slot), w_X9_undo_88 post n v1 S → VM dC dI cA P S H → va_S (PA 25 P) s.heap H locs → lv_has ls 2 [(0, .ref (P 0)), (1, .int v1)] → W p l e ({ frames := 0, cells := 0, slots := 0, locals := 0 } : Room) s m args below meth c H locs 0 0 (MQ below (va_Qi post (fun u t => VM dC dI cA P u t.heap) (PA 25 P)) args s 0 0 (PA 25 P)) (F0 m 88 ls []) := by
  have C := C
  obtain ⟨hI, hKX, ⟨hx, hb, hml, hown, hts⟩, hr, hlocks⟩ := id C
  have hK := hKX
  intro n
  induction n with
  | zero =>
    intro v1 S H locs ls h hP hS hl
    simp only [w_X9_undo_88] at h
  | succ n ih =>
    intro v1 S H locs ls h hP hS hl
    rw [w_X9_undo_88] at h
    refine lv_iload_n hx hb dX9_undo_88 rfl (lv_at hl 1 rfl) ?_
    refine lv_aload_n hx hb dX9_undo_89 rfl (lv_at hl 0 rfl) ?_
    refine g_get (v := .int (S.1 0 14)) hx hb hts inG_X9 hown hK hP (kM_lt (rfl : kdM 0 = 9)) (eM9 (rfl : kdM 0 = 9)) rfl 14 (by decide) G_fl_X9_194 rfl rfl dX9_undo_90 ?_
    refine lv_icmp_ge (tgt := 114) hx hb dX9_undo_93 (by decide) (fun c9 => ?_) (fun c9 => ?_)
    · replace h := h.1 c9
      refine lv_aload_n hx hb dX9_undo_114 rfl (lv_at hl 0 rfl) ?_
      refine g_get (v := .int (S.1 0 0)) hx hb hts inG_X9 hown hK hP (kM_lt (rfl : kdM 0 = 9)) (eM9 (rfl : kdM 0 = 9)) rfl 0 (by decide) G_fl_X9_89 rfl rfl dX9_undo_115 ?_
      exact g_iret hx hb hr hlocks h hP hS dX9_undo_118
    · replace h := h.2 c9
      refine lv_aload_n hx hb dX9_undo_96 rfl (lv_at hl 0 rfl) ?_
      refine g_get (v := .ref (P 9)) hx hb hts inG_X9 hown hK hP (kM_lt (rfl : kdM 0 = 9)) (eM9 (rfl : kdM 0 = 9)) rfl 16 (by decide) G_fl_X9_40 rfl rfl dX9_undo_97 ?_
      refine lv_iload_n hx hb dX9_undo_100 rfl (lv_at hl 1 rfl) ?_
      refine lv_aload_n hx hb dX9_undo_101 rfl (lv_at hl 0 rfl) ?_
      refine g_get (v := .ref (P 24)) hx hb hts inG_X9 hown hK hP (kM_lt (rfl : kdM 0 = 9)) (eM9 (rfl : kdM 0 = 9)) rfl 43 (by decide) G_fl_X9_86 rfl rfl dX9_undo_102 ?_
      refine lv_iload_n hx hb dX9_undo_105 rfl (lv_at hl 1 rfl) ?_
      refine g_ald hx hb hK hP (kM_lt (rfl : kdM 24 = 10)) 0 (eM10 (rfl : kdM 24 = 10)) rfl h.1 dX9_undo_106 ?_
      replace h := h.2
      replace h := h _ rfl
      refine g_ast hx hb hK hI hP hS (kM_lt (rfl : kdM 9 = 10)) 0 (eM10 (rfl : kdM 9 = 10)) rfl h.1 h.2 dX9_undo_107 (fun S11 H locs h hP hS => ?_)
      obtain ⟨x12, ex12⟩ : ∃ y : Int32, y = v1 + 1 := ⟨_, rfl⟩
      replace h := h x12 ex12
      refine lv_iinc (v := x12) (lv' := [(1, .int x12), (0, .ref (P 0))]) hx hb dX9_undo_108 hl (k := 1) rfl (by rw [ex12]; rfl) (by decide) rfl (fun ls hl => ?_)
      refine lv_goto (tgt := 88) hx hb dX9_undo_111 (by decide) ?_
      exact ih _ _ _ _ _ h  hP hS (lv_sub hl [1, 0] rfl)
set_option maxRecDepth 100000 in
set_option maxHeartbeats 4000000 in
theorem b_X9_undo_20 {p : Program} {l : Launch} {e : Env} {s : State} {m : MethodId} {args : Array Value} {below : List Frame} {meth : Method} {c : Code} {dC : Nat → ClassId} {dI : Nat → Nat → Nat} {cA : Nat → ClassId} {P : Nat → Nat} (C : CtxM dC dI cA P p s m args meth c cX9_undo 2 (some .int) RX9) {post : Int32 → St → Prop}  : ∀ (n : Nat) (v1 : Int32) (S : St) (H : Heap) (locs : List Loc) (ls : Array Slot), w_X9_undo_20 post n v1 S → VM dC dI cA P S H → va_S (PA 25 P) s.heap H locs → lv_has ls 2 [(0, .ref (P 0)), (1, .int v1)] → W p l e ({ frames := 0, cells := 0, slots := 0, locals := 0 } : Room) s m args below meth c H locs 0 0 (MQ below (va_Qi post (fun u t => VM dC dI cA P u t.heap) (PA 25 P)) args s 0 0 (PA 25 P)) (F0 m 20 ls []) := by
  have C := C
  obtain ⟨hI, hKX, ⟨hx, hb, hml, hown, hts⟩, hr, hlocks⟩ := id C
  have hK := hKX
  intro n
  induction n with
  | zero =>
    intro v1 S H locs ls h hP hS hl
    simp only [w_X9_undo_20] at h
  | succ n ih =>
    intro v1 S H locs ls h hP hS hl
    rw [w_X9_undo_20] at h
    refine lv_iload_n hx hb dX9_undo_20 rfl (lv_at hl 1 rfl) ?_
    refine lv_aload_n hx hb dX9_undo_21 rfl (lv_at hl 0 rfl) ?_
    refine g_get (v := .int (S.1 0 0)) hx hb hts inG_X9 hown hK hP (kM_lt (rfl : kdM 0 = 9)) (eM9 (rfl : kdM 0 = 9)) rfl 0 (by decide) G_fl_X9_89 rfl rfl dX9_undo_22 ?_
    refine lv_icmp_ge (tgt := 70) hx hb dX9_undo_25 (by decide) (fun c4 => ?_) (fun c4 => ?_)
    · replace h := h.1 c4
      refine lv_aload_n hx hb dX9_undo_70 rfl (lv_at hl 0 rfl) ?_
      refine lv_aload_n hx hb dX9_undo_71 rfl (lv_at hl 0 rfl) ?_
      refine g_get (v := .int (S.1 0 41)) hx hb hts inG_X9 hown hK hP (kM_lt (rfl : kdM 0 = 9)) (eM9 (rfl : kdM 0 = 9)) rfl 41 (by decide) G_fl_X9_311 rfl rfl dX9_undo_72 ?_
      replace h := h _ rfl
      refine g_putI hx hb hts inG_X9 tyX9 tyX9_ok nmX9 hown hK hI hP hS (kM_lt (rfl : kdM 0 = 9)) (eM9 (rfl : kdM 0 = 9)) rfl 14 (by decide) G_fl_X9_194 rfl rfl (ty := .int) (by decide +kernel) rfl rfl (Nat.le_of_ble_eq_true rfl) rfl h dX9_undo_75 (fun S6 H locs h hP hS => ?_)
      refine lv_aload_n hx hb dX9_undo_78 rfl (lv_at hl 0 rfl) ?_
      refine lv_aload_n hx hb dX9_undo_79 rfl (lv_at hl 0 rfl) ?_
      refine g_get (v := .int (S6.1 0 42)) hx hb hts inG_X9 hown hK hP (kM_lt (rfl : kdM 0 = 9)) (eM9 (rfl : kdM 0 = 9)) rfl 42 (by decide) G_fl_X9_314 rfl rfl dX9_undo_80 ?_
      replace h := h _ rfl
      refine g_putI hx hb hts inG_X9 tyX9 tyX9_ok nmX9 hown hK hI hP hS (kM_lt (rfl : kdM 0 = 9)) (eM9 (rfl : kdM 0 = 9)) rfl 15 (by decide) G_fl_X9_36 rfl rfl (ty := .int) (by decide +kernel) rfl rfl (Nat.le_of_ble_eq_true rfl) rfl h dX9_undo_83 (fun S8 H locs h hP hS => ?_)
      refine lv_iconst (v := 0) hx hb dX9_undo_86 (by decide) ?_
      refine lv_istore_n (lv' := [(1, .int 0), (0, .ref (P 0))]) hx hb dX9_undo_87 rfl hl (by decide) rfl (fun ls hl => ?_)
      obtain ⟨n13, h⟩ := h
      exact b_X9_undo_88 C n13 _ _ _ _ _ h  hP hS (lv_sub hl [1, 0] rfl)
    · replace h := h.2 c4
      refine lv_aload_n hx hb dX9_undo_28 rfl (lv_at hl 0 rfl) ?_
      refine g_get (v := .ref (P 1)) hx hb hts inG_X9 hown hK hP (kM_lt (rfl : kdM 0 = 9)) (eM9 (rfl : kdM 0 = 9)) rfl 1 (by decide) G_fl_X9_11 rfl rfl dX9_undo_29 ?_
      refine lv_iload_n hx hb dX9_undo_32 rfl (lv_at hl 1 rfl) ?_
      refine lv_aload_n hx hb dX9_undo_33 rfl (lv_at hl 0 rfl) ?_
      refine g_get (v := .ref (P 21)) hx hb hts inG_X9 hown hK hP (kM_lt (rfl : kdM 0 = 9)) (eM9 (rfl : kdM 0 = 9)) rfl 38 (by decide) G_fl_X9_77 rfl rfl dX9_undo_34 ?_
      refine lv_iload_n hx hb dX9_undo_37 rfl (lv_at hl 1 rfl) ?_
      refine g_ald hx hb hK hP (kM_lt (rfl : kdM 21 = 10)) 0 (eM10 (rfl : kdM 21 = 10)) rfl h.1 dX9_undo_38 ?_
      replace h := h.2
      replace h := h _ rfl
      refine g_ast hx hb hK hI hP hS (kM_lt (rfl : kdM 1 = 10)) 0 (eM10 (rfl : kdM 1 = 10)) rfl h.1 h.2 dX9_undo_39 (fun S15 H locs h hP hS => ?_)
      refine lv_aload_n hx hb dX9_undo_40 rfl (lv_at hl 0 rfl) ?_
      refine g_get (v := .ref (P 2)) hx hb hts inG_X9 hown hK hP (kM_lt (rfl : kdM 0 = 9)) (eM9 (rfl : kdM 0 = 9)) rfl 2 (by decide) G_fl_X9_15 rfl rfl dX9_undo_41 ?_
      refine lv_iload_n hx hb dX9_undo_44 rfl (lv_at hl 1 rfl) ?_
      refine lv_aload_n hx hb dX9_undo_45 rfl (lv_at hl 0 rfl) ?_
      refine g_get (v := .ref (P 22)) hx hb hts inG_X9 hown hK hP (kM_lt (rfl : kdM 0 = 9)) (eM9 (rfl : kdM 0 = 9)) rfl 39 (by decide) G_fl_X9_80 rfl rfl dX9_undo_46 ?_
      refine lv_iload_n hx hb dX9_undo_49 rfl (lv_at hl 1 rfl) ?_
      refine g_ald hx hb hK hP (kM_lt (rfl : kdM 22 = 10)) 0 (eM10 (rfl : kdM 22 = 10)) rfl h.1 dX9_undo_50 ?_
      replace h := h.2
      replace h := h _ rfl
      refine g_ast hx hb hK hI hP hS (kM_lt (rfl : kdM 2 = 10)) 0 (eM10 (rfl : kdM 2 = 10)) rfl h.1 h.2 dX9_undo_51 (fun S17 H locs h hP hS => ?_)
      refine lv_aload_n hx hb dX9_undo_52 rfl (lv_at hl 0 rfl) ?_
      refine g_get (v := .ref (P 3)) hx hb hts inG_X9 hown hK hP (kM_lt (rfl : kdM 0 = 9)) (eM9 (rfl : kdM 0 = 9)) rfl 3 (by decide) G_fl_X9_18 rfl rfl dX9_undo_53 ?_
      refine lv_iload_n hx hb dX9_undo_56 rfl (lv_at hl 1 rfl) ?_
      refine lv_aload_n hx hb dX9_undo_57 rfl (lv_at hl 0 rfl) ?_
      refine g_get (v := .ref (P 23)) hx hb hts inG_X9 hown hK hP (kM_lt (rfl : kdM 0 = 9)) (eM9 (rfl : kdM 0 = 9)) rfl 40 (by decide) G_fl_X9_83 rfl rfl dX9_undo_58 ?_
      refine lv_iload_n hx hb dX9_undo_61 rfl (lv_at hl 1 rfl) ?_
      refine g_ald hx hb hK hP (kM_lt (rfl : kdM 23 = 10)) 0 (eM10 (rfl : kdM 23 = 10)) rfl h.1 dX9_undo_62 ?_
      replace h := h.2
      replace h := h _ rfl
      refine g_ast hx hb hK hI hP hS (kM_lt (rfl : kdM 3 = 10)) 0 (eM10 (rfl : kdM 3 = 10)) rfl h.1 h.2 dX9_undo_63 (fun S19 H locs h hP hS => ?_)
      obtain ⟨x20, ex20⟩ : ∃ y : Int32, y = v1 + 1 := ⟨_, rfl⟩
      replace h := h x20 ex20
      refine lv_iinc (v := x20) (lv' := [(1, .int x20), (0, .ref (P 0))]) hx hb dX9_undo_64 hl (k := 1) rfl (by rw [ex20]; rfl) (by decide) rfl (fun ls hl => ?_)
      refine lv_goto (tgt := 20) hx hb dX9_undo_67 (by decide) ?_
      exact ih _ _ _ _ _ h  hP hS (lv_sub hl [1, 0] rfl)
set_option maxRecDepth 100000 in
set_option maxHeartbeats 4000000 in
theorem e_X9_undo {p : Program} {l : Launch} {e : Env} {s : State} {m : MethodId} {args : Array Value} {below : List Frame} {meth : Method} {c : Code} {dC : Nat → ClassId} {dI : Nat → Nat → Nat} {cA : Nat → ClassId} {P : Nat → Nat} (C : CtxM dC dI cA P p s m args meth c cX9_undo 2 (some .int) RX9) {post : Int32 → St → Prop} : ∀  (S : St) (H : Heap) (locs : List Loc) (ls : Array Slot), w_X9_undo  post S → VM dC dI cA P S H → va_S (PA 25 P) s.heap H locs → lv_has ls 2 [(0, .ref (P 0))] → W p l e ({ frames := 0, cells := 0, slots := 0, locals := 0 } : Room) s m args below meth c H locs 0 0 (MQ below (va_Qi post (fun u t => VM dC dI cA P u t.heap) (PA 25 P)) args s 0 0 (PA 25 P)) (F0 m 0 ls []) := by
  have C := C
  obtain ⟨hI, hKX, ⟨hx, hb, hml, hown, hts⟩, hr, hlocks⟩ := id C
  have hK := hKX
  intro S H locs ls h hP hS hl
  rw [w_X9_undo] at h
  refine lv_aload_n hx hb dX9_undo_0 rfl (lv_at hl 0 rfl) ?_
  refine g_get (v := .int (S.1 0 36)) hx hb hts inG_X9 hown hK hP (kM_lt (rfl : kdM 0 = 9)) (eM9 (rfl : kdM 0 = 9)) rfl 36 (by decide) G_fl_X9_305 rfl rfl dX9_undo_1 ?_
  refine lv_if_ne (tgt := 10) hx hb dX9_undo_4 (by decide) (fun c1 => ?_) (fun c1 => ?_)
  · replace h := h.2 c1
    refine lv_aload_n hx hb dX9_undo_10 rfl (lv_at hl 0 rfl) ?_
    refine lv_aload_n hx hb dX9_undo_11 rfl (lv_at hl 0 rfl) ?_
    refine g_get (v := .int (S.1 0 37)) hx hb hts inG_X9 hown hK hP (kM_lt (rfl : kdM 0 = 9)) (eM9 (rfl : kdM 0 = 9)) rfl 37 (by decide) G_fl_X9_308 rfl rfl dX9_undo_12 ?_
    replace h := h _ rfl
    refine g_putI hx hb hts inG_X9 tyX9 tyX9_ok nmX9 hown hK hI hP hS (kM_lt (rfl : kdM 0 = 9)) (eM9 (rfl : kdM 0 = 9)) rfl 0 (by decide) G_fl_X9_89 rfl rfl (ty := .int) (by decide +kernel) rfl rfl (Nat.le_of_ble_eq_true rfl) rfl h dX9_undo_15 (fun S3 H locs h hP hS => ?_)
    refine lv_iconst (v := 0) hx hb dX9_undo_18 (by decide) ?_
    refine lv_istore_n (lv' := [(1, .int 0), (0, .ref (P 0))]) hx hb dX9_undo_19 rfl hl (by decide) rfl (fun ls hl => ?_)
    obtain ⟨n21, h⟩ := h
    exact b_X9_undo_20 C n21 _ _ _ _ _ h  hP hS (lv_sub hl [1, 0] rfl)
  · replace h := h.1 c1
    refine lv_bipush (v := (-5)) hx hb dX9_undo_7 (by decide) ?_
    exact g_iret hx hb hr hlocks h hP hS dX9_undo_9
set_option maxRecDepth 100000 in
set_option maxHeartbeats 4000000 in
theorem c_X9_undo (l : Launch) {dC : Nat → ClassId} {dI : Nat → Nat → Nat} {cA : Nat → ClassId} {P : Nat → Nat} (hI : PInj 25 P)   {post : Int32 → St → Prop} {S : St} (h : w_X9_undo  post S) : Met l yX9_undo (wW yX9_undo cX9_undo 2 (some .int)) ({ frames := 0, cells := 0, slots := 0, locals := 0 } : Room) (va_Pc [.ref (P 0)] (PreM dC dI cA P S)) (va_Qi post (fun u t => VM dC dI cA P u t.heap) (PA 25 P)) 0 0 (PA 25 P) := by
  refine Met.ofW (cc := cX9_undo) (maxL := 2) (ret := (some .int)) (by decide) rfl ?_
  intro p e s m args below meth c s₁ B hml hv
  obtain ⟨rfl, hP, hKX⟩ := hv
  have hts : ∀ w ∈ G, w.before [.ref (P 0)].toArray s = true := fun w hw => atoms_spec (ws := wW yX9_undo cX9_undo 2 (some .int)) B.pre w (List.mem_cons_of_mem _ hw)
  have C : CtxM dC dI cA P p s m [.ref (P 0)].toArray meth c cX9_undo 2 (some .int) RX9 := ⟨hI, hKX, ⟨B.exec, B.bytes, hml, findClass_of_methodNamed B.named, hts⟩, B.returns, B.notSynchronized⟩
  have hS : va_S (PA 25 P) s.heap s.heap [] := va_S.rf
  have hl := lv_entry ([.ref (P 0)]) (n := 2) (Nat.le_of_ble_eq_true rfl)
  rw [lg_entry_eq]
  generalize (lg_sl ([.ref (P 0)]) ++ List.replicate (2 - (lg_sl ([.ref (P 0)])).length) Slot.unset).toArray = ls at hl ⊢
  have hl : lv_has ls 2 [(0, .ref (P 0))] := hl
  exact e_X9_undo C  _ _ _ _ h  hP hS hl
set_option maxRecDepth 100000 in
set_option maxHeartbeats 4000000 in
theorem e_X9_count {p : Program} {l : Launch} {e : Env} {s : State} {m : MethodId} {args : Array Value} {below : List Frame} {meth : Method} {c : Code} {dC : Nat → ClassId} {dI : Nat → Nat → Nat} {cA : Nat → ClassId} {P : Nat → Nat} (C : CtxM dC dI cA P p s m args meth c cX9_count 2 (some .int) RX9) {post : Int32 → St → Prop} : ∀ (v1 : Int32) (S : St) (H : Heap) (locs : List Loc) (ls : Array Slot), w_X9_count v1 post S → VM dC dI cA P S H → va_S (PA 25 P) s.heap H locs → lv_has ls 2 [(0, .ref (P 0)), (1, .int v1)] → W p l e ({ frames := 0, cells := 0, slots := 0, locals := 0 } : Room) s m args below meth c H locs 0 0 (MQ below (va_Qi post (fun u t => VM dC dI cA P u t.heap) (PA 25 P)) args s 0 0 (PA 25 P)) (F0 m 0 ls []) := by
  have C := C
  obtain ⟨hI, hKX, ⟨hx, hb, hml, hown, hts⟩, hr, hlocks⟩ := id C
  have hK := hKX
  intro v1 S H locs ls h hP hS hl
  rw [w_X9_count] at h
  refine lv_iload_n hx hb dX9_count_0 rfl (lv_at hl 1 rfl) ?_
  by_cases c1 : v1 = 0
  · replace h := h.1 c1
    refine lv_tableIn (off := 31) (tgt := 32) hx hb dX9_count_1 (by rw [c1]; decide) (by rw [c1]; decide) (by rw [c1]; decide) (by decide) ?_
    refine lv_aload_n hx hb dX9_count_32 rfl (lv_at hl 0 rfl) ?_
    refine g_get (v := .int (S.1 0 0)) hx hb hts inG_X9 hown hK hP (kM_lt (rfl : kdM 0 = 9)) (eM9 (rfl : kdM 0 = 9)) rfl 0 (by decide) G_fl_X9_89 rfl rfl dX9_count_33 ?_
    exact g_iret hx hb hr hlocks h hP hS dX9_count_36
  replace h := h.2 c1
  by_cases c2 : v1 = 1
  · replace h := h.1 c2
    refine lv_tableIn (off := 36) (tgt := 37) hx hb dX9_count_1 (by rw [c2]; decide) (by rw [c2]; decide) (by rw [c2]; decide) (by decide) ?_
    refine lv_aload_n hx hb dX9_count_37 rfl (lv_at hl 0 rfl) ?_
    refine g_get (v := .int (S.1 0 14)) hx hb hts inG_X9 hown hK hP (kM_lt (rfl : kdM 0 = 9)) (eM9 (rfl : kdM 0 = 9)) rfl 14 (by decide) G_fl_X9_194 rfl rfl dX9_count_38 ?_
    exact g_iret hx hb hr hlocks h hP hS dX9_count_41
  replace h := h.2 c2
  by_cases c3 : v1 = 2
  · replace h := h.1 c3
    refine lv_tableIn (off := 41) (tgt := 42) hx hb dX9_count_1 (by rw [c3]; decide) (by rw [c3]; decide) (by rw [c3]; decide) (by decide) ?_
    refine lv_aload_n hx hb dX9_count_42 rfl (lv_at hl 0 rfl) ?_
    refine g_get (v := .int (S.1 0 15)) hx hb hts inG_X9 hown hK hP (kM_lt (rfl : kdM 0 = 9)) (eM9 (rfl : kdM 0 = 9)) rfl 15 (by decide) G_fl_X9_36 rfl rfl dX9_count_43 ?_
    exact g_iret hx hb hr hlocks h hP hS dX9_count_46
  replace h := h.2 c3
  by_cases c4 : v1 = 3
  · replace h := h.1 c4
    refine lv_tableIn (off := 46) (tgt := 47) hx hb dX9_count_1 (by rw [c4]; decide) (by rw [c4]; decide) (by rw [c4]; decide) (by decide) ?_
    refine lv_aload_n hx hb dX9_count_47 rfl (lv_at hl 0 rfl) ?_
    refine g_get (v := .int (S.1 0 21)) hx hb hts inG_X9 hown hK hP (kM_lt (rfl : kdM 0 = 9)) (eM9 (rfl : kdM 0 = 9)) rfl 21 (by decide) G_fl_X9_215 rfl rfl dX9_count_48 ?_
    exact g_iret hx hb hr hlocks h hP hS dX9_count_51
  replace h := h.2 c4
  refine lv_tableOut (tgt := 52) hx hb dX9_count_1 (by have := lv_neT c1 (a := 0) (by decide); have := lv_neT c2 (a := 1) (by decide); have := lv_neT c3 (a := 2) (by decide); have := lv_neT c4 (a := 3) (by decide); omega) (by decide) ?_
  refine lv_iconst (v := (-1)) hx hb dX9_count_52 (by decide) ?_
  exact g_iret hx hb hr hlocks h hP hS dX9_count_53
set_option maxRecDepth 100000 in
set_option maxHeartbeats 4000000 in
theorem c_X9_count (l : Launch) {dC : Nat → ClassId} {dI : Nat → Nat → Nat} {cA : Nat → ClassId} {P : Nat → Nat} (hI : PInj 25 P) {v1 : Int32}  {post : Int32 → St → Prop} {S : St} (h : w_X9_count v1 post S) : Met l yX9_count (wW yX9_count cX9_count 2 (some .int)) ({ frames := 0, cells := 0, slots := 0, locals := 0 } : Room) (va_Pc [.ref (P 0), .int v1] (PreM dC dI cA P S)) (va_Qi post (fun u t => VM dC dI cA P u t.heap) (PA 25 P)) 0 0 (PA 25 P) := by
  refine Met.ofW (cc := cX9_count) (maxL := 2) (ret := (some .int)) (by decide) rfl ?_
  intro p e s m args below meth c s₁ B hml hv
  obtain ⟨rfl, hP, hKX⟩ := hv
  have hts : ∀ w ∈ G, w.before [.ref (P 0), .int v1].toArray s = true := fun w hw => atoms_spec (ws := wW yX9_count cX9_count 2 (some .int)) B.pre w (List.mem_cons_of_mem _ hw)
  have C : CtxM dC dI cA P p s m [.ref (P 0), .int v1].toArray meth c cX9_count 2 (some .int) RX9 := ⟨hI, hKX, ⟨B.exec, B.bytes, hml, findClass_of_methodNamed B.named, hts⟩, B.returns, B.notSynchronized⟩
  have hS : va_S (PA 25 P) s.heap s.heap [] := va_S.rf
  have hl := lv_entry ([.ref (P 0), .int v1]) (n := 2) (Nat.le_of_ble_eq_true rfl)
  rw [lg_entry_eq]
  generalize (lg_sl ([.ref (P 0), .int v1]) ++ List.replicate (2 - (lg_sl ([.ref (P 0), .int v1])).length) Slot.unset).toArray = ls at hl ⊢
  have hl : lv_has ls 2 [(0, .ref (P 0)), (1, .int v1)] := hl
  exact e_X9_count C _ _ _ _ _ h  hP hS hl
