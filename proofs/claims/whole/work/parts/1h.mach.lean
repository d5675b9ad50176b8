set_option maxRecDepth 100000 in
set_option maxHeartbeats 4000000 in
theorem e_X9_isIn {p : Program} {l : Launch} {e : Env} {s : State} {m : MethodId} {args : Array Value} {below : List Frame} {meth : Method} {c : Code} {dC : Nat → ClassId} {dI : Nat → Nat → Nat} {cA : Nat → ClassId} {P : Nat → Nat} (C : CtxM dC dI cA P p s m args meth c cX9_isIn 6 (some .boolean) RX9) {post : Int32 → St → Prop} : ∀ (v0 : Int64) (v2 : Int64) (v4 : Int64) (S : St) (H : Heap) (locs : List Loc) (ls : Array Slot), w_X9_isIn v0 v2 v4 post S → VM dC dI cA P S H → va_S (PA 25 P) s.heap H locs → lv_has ls 6 [(0, .long v0), (2, .long v2), (4, .long v4)] → W p l e ({ frames := 0, cells := 0, slots := 0, locals := 0 } : Room) s m args below meth c H locs 0 0 (MQ below (va_Qi post (fun u t => VM dC dI cA P u t.heap) (PA 25 P)) args s 0 0 (PA 25 P)) (F0 m 0 ls []) := by
  have C := C
  obtain ⟨hI, hKX, ⟨hx, hb, hml, hown, hts⟩, hr, hlocks⟩ := id C
  have hK := hKX
  intro v0 v2 v4 S H locs ls h hP hS hl
  rw [w_X9_isIn] at h
  refine lv_lload_n hx hb dX9_isIn_0 rfl (lv_at hl 0 rfl) ?_
  refine lv_lload_n hx hb dX9_isIn_1 rfl (lv_at hl 1 rfl) ?_
  refine W.lcmp hx hb dX9_isIn_2 ?_
  refine lv_if_lt (tgt := 17) hx hb dX9_isIn_3 (by decide) (fun c1 => ?_) (fun c1 => ?_)
  · replace h := h.1 ((lg_cmp_lt _ _).mp c1)
    refine lv_iconst (v := 0) hx hb dX9_isIn_17 (by decide) ?_
    exact g_zret hx hb hr hlocks bz_0 h hP hS dX9_isIn_18
  · replace h := h.2 (fun z => c1 ((lg_cmp_lt _ _).mpr z))
    refine lv_lload_n hx hb dX9_isIn_6 rfl (lv_at hl 0 rfl) ?_
    refine lv_lload hx hb dX9_isIn_7 (lv_at hl 2 rfl) ?_
    refine W.lcmp hx hb dX9_isIn_9 ?_
    refine lv_if_gt (tgt := 17) hx hb dX9_isIn_10 (by decide) (fun c2 => ?_) (fun c2 => ?_)
    · replace h := h.1 ((lg_cmp_gt _ _).mp c2)
      refine lv_iconst (v := 0) hx hb dX9_isIn_17 (by decide) ?_
      exact g_zret hx hb hr hlocks bz_0 h hP hS dX9_isIn_18
    · replace h := h.2 (fun z => c2 ((lg_cmp_gt _ _).mpr z))
      refine lv_iconst (v := 1) hx hb dX9_isIn_13 (by decide) ?_
      refine lv_goto (tgt := 18) hx hb dX9_isIn_14 (by decide) ?_
      exact g_zret hx hb hr hlocks bz_1 h hP hS dX9_isIn_18
set_option maxRecDepth 100000 in
set_option maxHeartbeats 4000000 in
theorem c_X9_isIn (l : Launch) {dC : Nat → ClassId} {dI : Nat → Nat → Nat} {cA : Nat → ClassId} {P : Nat → Nat} (hI : PInj 25 P) {v0 : Int64} {v2 : Int64} {v4 : Int64}  {post : Int32 → St → Prop} {S : St} (h : w_X9_isIn v0 v2 v4 post S) : Met l yX9_isIn (wW yX9_isIn cX9_isIn 6 (some .boolean)) ({ frames := 0, cells := 0, slots := 0, locals := 0 } : Room) (va_Pc [.long v0, .long v2, .long v4] (PreM dC dI cA P S)) (va_Qi post (fun u t => VM dC dI cA P u t.heap) (PA 25 P)) 0 0 (PA 25 P) := by
  refine Met.ofW (cc := cX9_isIn) (maxL := 6) (ret := (some .boolean)) (by decide) rfl ?_
  intro p e s m args below meth c s₁ B hml hv
  obtain ⟨rfl, hP, hKX⟩ := hv
  have hts : ∀ w ∈ G, w.before [.long v0, .long v2, .long v4].toArray s = true := fun w hw => atoms_spec (ws := wW yX9_isIn cX9_isIn 6 (some .boolean)) B.pre w (List.mem_cons_of_mem _ hw)
  have C : CtxM dC dI cA P p s m [.long v0, .long v2, .long v4].toArray meth c cX9_isIn 6 (some .boolean) RX9 := ⟨hI, hKX, ⟨B.exec, B.bytes, hml, findClass_of_methodNamed B.named, hts⟩, B.returns, B.notSynchronized⟩
  have hS : va_S (PA 25 P) s.heap s.heap [] := va_S.rf
  have hl := lv_entry ([.long v0, .long v2, .long v4]) (n := 6) (Nat.le_of_ble_eq_true rfl)
  rw [lg_entry_eq]
  generalize (lg_sl ([.long v0, .long v2, .long v4]) ++ List.replicate (6 - (lg_sl ([.long v0, .long v2, .long v4])).length) Slot.unset).toArray = ls at hl ⊢
  have hl : lv_has ls 6 [(0, .long v0), (2, .long v2), (4, .long v4)] := hl
  exact e_X9_isIn C _ _ _ _ _ _ _ h  hP hS hl
set_option maxRecDepth 100000 in
set_option maxHeartbeats 4000000 in
theorem e_X9_isFraction {p : Program} {l : Launch} {e : Env} {s : State} {m : MethodId} {args : Array Value} {below : List Frame} {meth : Method} {c : Code} {dC : Nat → ClassId} {dI : Nat → Nat → Nat} {cA : Nat → ClassId} {P : Nat → Nat} (C : CtxM dC dI cA P p s m args meth c cX9_isFraction 2 (some .boolean) RX9) {post : Int32 → St → Prop} : ∀ (v1 : Int32) (S : St) (H : Heap) (locs : List Loc) (ls : Array Slot), w_X9_isFraction v1 post S → VM dC dI cA P S H → va_S (PA 25 P) s.heap H locs → lv_has ls 2 [(0, .ref (P 0)), (1, .int v1)] → W p l e ({ frames := 1, cells := 0, slots := 0, locals := 25 } : Room) s m args below meth c H locs 0 0 (MQ below (va_Qi post (fun u t => VM dC dI cA P u t.heap) (PA 25 P)) args s 0 0 (PA 25 P)) (F0 m 0 ls []) := by
  have C := C
  obtain ⟨hI, hKX, ⟨hx, hb, hml, hown, hts⟩, hr, hlocks⟩ := id C
  have hK := hKX
  intro v1 S H locs ls h hP hS hl
  rw [w_X9_isFraction] at h
  refine lv_iload_n hx hb dX9_isFraction_0 rfl (lv_at hl 1 rfl) ?_
  refine lv_i2l hx hb dX9_isFraction_1 rfl ?_
  refine lv_lconst (v := 0) hx hb dX9_isFraction_2 (by decide) ?_
  refine lv_aload_n hx hb dX9_isFraction_3 rfl (lv_at hl 0 rfl) ?_
  refine g_get (v := .int (S.1 0 0)) hx hb hts inG_X9 hown hK hP (kM_lt (rfl : kdM 0 = 9)) (eM9 (rfl : kdM 0 = 9)) rfl 0 (by decide) G_fl_X9_89 rfl rfl dX9_isFraction_4 ?_
  refine lv_iconst (v := 1) hx hb dX9_isFraction_7 (by decide) ?_
  refine lv_isub hx hb dX9_isFraction_8 ?_
  refine lv_i2l hx hb dX9_isFraction_9 rfl ?_
  replace h := h _ rfl
  replace h := h _ rfl
  refine va_calli (va_runS (As := [.long _, .long _, .long _]) (rest := []) ⟨hx, hb, hml, hown, hts⟩ (c_X9_isIn l hI h) (va_cwS 3 hts gs_X9_92 rfl rfl rfl hd_X9_isIn ⟨Nat.le_of_ble_eq_true rfl, Nat.le_of_ble_eq_true rfl⟩) (preS_M hKX hP hS) rfl rfl hl.1 rfl (lv_room (Nat.le_of_ble_eq_true rfl)) dX9_isFraction_10 ⟨Nat.le_of_ble_eq_true rfl, Nat.le_of_ble_eq_true rfl⟩) hS (fun _ _ h => h) (fun _ h => h) (fun r4 S3 t H locs ht _ h hB _ _ hS => ?_)
  have hP : VM dC dI cA P S3 H := by rw [← ht]; exact hB
  exact g_zret hx hb hr hlocks h.1 h.2 hP hS dX9_isFraction_13
set_option maxRecDepth 100000 in
set_option maxHeartbeats 4000000 in
theorem c_X9_isFraction (l : Launch) {dC : Nat → ClassId} {dI : Nat → Nat → Nat} {cA : Nat → ClassId} {P : Nat → Nat} (hI : PInj 25 P) {v1 : Int32}  {post : Int32 → St → Prop} {S : St} (h : w_X9_isFraction v1 post S) : Met l yX9_isFraction (wW yX9_isFraction cX9_isFraction 2 (some .boolean)) ({ frames := 1, cells := 0, slots := 0, locals := 25 } : Room) (va_Pc [.ref (P 0), .int v1] (PreM dC dI cA P S)) (va_Qi post (fun u t => VM dC dI cA P u t.heap) (PA 25 P)) 0 0 (PA 25 P) := by
  refine Met.ofW (cc := cX9_isFraction) (maxL := 2) (ret := (some .boolean)) (by decide) rfl ?_
  intro p e s m args below meth c s₁ B hml hv
  obtain ⟨rfl, hP, hKX⟩ := hv
  have hts : ∀ w ∈ G, w.before [.ref (P 0), .int v1].toArray s = true := fun w hw => atoms_spec (ws := wW yX9_isFraction cX9_isFraction 2 (some .boolean)) B.pre w (List.mem_cons_of_mem _ hw)
  have C : CtxM dC dI cA P p s m [.ref (P 0), .int v1].toArray meth c cX9_isFraction 2 (some .boolean) RX9 := ⟨hI, hKX, ⟨B.exec, B.bytes, hml, findClass_of_methodNamed B.named, hts⟩, B.returns, B.notSynchronized⟩
  have hS : va_S (PA 25 P) s.heap s.heap [] := va_S.rf
  have hl := lv_entry ([.ref (P 0), .int v1]) (n := 2) (Nat.le_of_ble_eq_true rfl)
  rw [lg_entry_eq]
  generalize (lg_sl ([.ref (P 0), .int v1]) ++ List.replicate (2 - (lg_sl ([.ref (P 0), .int v1])).length) Slot.unset).toArray = ls at hl ⊢
  have hl : lv_has ls 2 [(0, .ref (P 0)), (1, .int v1)] := hl
  exact e_X9_isFraction C _ _ _ _ _ h  hP hS hl
set_option maxRecDepth 100000 in
set_option maxHeartbeats 4000000 in
theorem e_X9_isBase {p : Program} {l : Launch} {e : Env} {s : State} {m : MethodId} {args : Array Value} {below : List Frame} {meth : Method} {c : Code} {dC : Nat → ClassId} {dI : Nat → Nat → Nat} {cA : Nat → ClassId} {P : Nat → Nat} (C : CtxM dC dI cA P p s m args meth c cX9_isBase 1 (some .boolean) RX9) {post : Int32 → St → Prop} : ∀ (v0 : Int32) (S : St) (H : Heap) (locs : List Loc) (ls : Array Slot), w_X9_isBase v0 post S → VM dC dI cA P S H → va_S (PA 25 P) s.heap H locs → lv_has ls 1 [(0, .int v0)] → W p l e ({ frames := 1, cells := 0, slots := 0, locals := 25 } : Room) s m args below meth c H locs 0 0 (MQ below (va_Qi post (fun u t => VM dC dI cA P u t.heap) (PA 25 P)) args s 0 0 (PA 25 P)) (F0 m 0 ls []) := by
  have C := C
  obtain ⟨hI, hKX, ⟨hx, hb, hml, hown, hts⟩, hr, hlocks⟩ := id C
  have hK := hKX
  intro v0 S H locs ls h hP hS hl
  rw [w_X9_isBase] at h
  refine lv_iload_n hx hb dX9_isBase_0 rfl (lv_at hl 0 rfl) ?_
  refine lv_i2l hx hb dX9_isBase_1 rfl ?_
  refine lv_ldc2 (v := 2) hx hb hown (hts _ G_co_X9_96) dX9_isBase_2 ?_
  refine lv_ldc2 (v := 16) hx hb hown (hts _ G_co_X9_98) dX9_isBase_5 ?_
  replace h := h _ rfl
  refine va_calli (va_runS (As := [.long _, .long _, .long _]) (rest := []) ⟨hx, hb, hml, hown, hts⟩ (c_X9_isIn l hI h) (va_cwS 3 hts gs_X9_92 rfl rfl rfl hd_X9_isIn ⟨Nat.le_of_ble_eq_true rfl, Nat.le_of_ble_eq_true rfl⟩) (preS_M hKX hP hS) rfl rfl hl.1 rfl (lv_room (Nat.le_of_ble_eq_true rfl)) dX9_isBase_8 ⟨Nat.le_of_ble_eq_true rfl, Nat.le_of_ble_eq_true rfl⟩) hS (fun _ _ h => h) (fun _ h => h) (fun r3 S2 t H locs ht _ h hB _ _ hS => ?_)
  have hP : VM dC dI cA P S2 H := by rw [← ht]; exact hB
  exact g_zret hx hb hr hlocks h.1 h.2 hP hS dX9_isBase_11
set_option maxRecDepth 100000 in
set_option maxHeartbeats 4000000 in
theorem c_X9_isBase (l : Launch) {dC : Nat → ClassId} {dI : Nat → Nat → Nat} {cA : Nat → ClassId} {P : Nat → Nat} (hI : PInj 25 P) {v0 : Int32}  {post : Int32 → St → Prop} {S : St} (h : w_X9_isBase v0 post S) : Met l yX9_isBase (wW yX9_isBase cX9_isBase 1 (some .boolean)) ({ frames := 1, cells := 0, slots := 0, locals := 25 } : Room) (va_Pc [.int v0] (PreM dC dI cA P S)) (va_Qi post (fun u t => VM dC dI cA P u t.heap) (PA 25 P)) 0 0 (PA 25 P) := by
  refine Met.ofW (cc := cX9_isBase) (maxL := 1) (ret := (some .boolean)) (by decide) rfl ?_
  intro p e s m args below meth c s₁ B hml hv
  obtain ⟨rfl, hP, hKX⟩ := hv
  have hts : ∀ w ∈ G, w.before [.int v0].toArray s = true := fun w hw => atoms_spec (ws := wW yX9_isBase cX9_isBase 1 (some .boolean)) B.pre w (List.mem_cons_of_mem _ hw)
  have C : CtxM dC dI cA P p s m [.int v0].toArray meth c cX9_isBase 1 (some .boolean) RX9 := ⟨hI, hKX, ⟨B.exec, B.bytes, hml, findClass_of_methodNamed B.named, hts⟩, B.returns, B.notSynchronized⟩
  have hS : va_S (PA 25 P) s.heap s.heap [] := va_S.rf
  have hl := lv_entry ([.int v0]) (n := 1) (Nat.le_of_ble_eq_true rfl)
  rw [lg_entry_eq]
  generalize (lg_sl ([.int v0]) ++ List.replicate (1 - (lg_sl ([.int v0])).length) Slot.unset).toArray = ls at hl ⊢
  have hl : lv_has ls 1 [(0, .int v0)] := hl
  exact e_X9_isBase C _ _ _ _ _ h  hP hS hl
set_option maxRecDepth 100000 in
set_option maxHeartbeats 4000000 in
theorem b_X9_divisor_6 {p : Program} {l : Launch} {e : Env} {s : State} {m : MethodId} {args : Array Value} {below : List Frame} {meth : Method} {c : Code} {dC : Nat → ClassId} {dI : Nat → Nat → Nat} {cA : Nat → ClassId} {P : Nat → Nat} (C : CtxM dC dI cA P p s m args meth c cX9_divisor 10 (some .long) RX9) {post : Int64 → St → Prop}  : ∀ (n : Nat) (v4 : Int64) (v6 : Int64) (S : St) (H : Heap) (locs : List Loc) (ls : Array Slot), w_X9_divisor_6 post n v4 v6 S → VM dC dI cA P S H → va_S (PA 25 P) s.heap H locs → lv_has ls 10 [(4, .long v4), (6, .long v6)] → W p l e ({ frames := 0, cells := 0, slots := 0, locals := 0 } : Room) s m args below meth c H locs 0 0 (MQ below (va_Ql post (fun u t => VM dC dI cA P u t.heap) (PA 25 P)) args s 0 0 (PA 25 P)) (F0 m 6 ls []) := by
  have C := C
  obtain ⟨hI, hKX, ⟨hx, hb, hml, hown, hts⟩, hr, hlocks⟩ := id C
  have hK := hKX
  intro n
  induction n with
  | zero =>
    intro v4 v6 S H locs ls h hP hS hl
    simp only [w_X9_divisor_6] at h
  | succ n ih =>
    intro v4 v6 S H locs ls h hP hS hl
    rw [w_X9_divisor_6] at h
    refine lv_lload hx hb dX9_divisor_6 (lv_at hl 1 rfl) ?_
    refine lv_lconst (v := 0) hx hb dX9_divisor_8 (by decide) ?_
    refine W.lcmp hx hb dX9_divisor_9 ?_
    refine lv_if_eq (tgt := 31) hx hb dX9_divisor_10 (by decide) (fun c1 => ?_) (fun c1 => ?_)
    · replace h := h.1 ((lg_cmp_eq _ _).mp c1)
      refine lv_lload hx hb dX9_divisor_31 (lv_at hl 0 rfl) ?_
      exact g_lret hx hb hr hlocks h hP hS dX9_divisor_33
    · replace h := h.2 (fun z => c1 ((lg_cmp_eq _ _).mpr z))
      refine lv_lload hx hb dX9_divisor_13 (lv_at hl 0 rfl) ?_
      refine lv_lload hx hb dX9_divisor_15 (lv_at hl 1 rfl) ?_
      refine lv_lrem hx hb dX9_divisor_17 h.1 ?_
      replace h := h.2
      refine lv_topl (fun x2 ex2 => ?_)
      replace h := h x2 ex2
      refine lv_lstore (lv' := [(8, .long x2), (4, .long v4), (6, .long v6)]) hx hb dX9_divisor_18 hl (by decide) rfl (fun ls hl => ?_)
      refine lv_lload hx hb dX9_divisor_20 (lv_at hl 2 rfl) ?_
      refine lv_lstore (lv' := [(4, .long v6), (8, .long x2), (6, .long v6)]) hx hb dX9_divisor_22 hl (by decide) rfl (fun ls hl => ?_)
      refine lv_lload hx hb dX9_divisor_24 (lv_at hl 1 rfl) ?_
      refine lv_lstore (lv' := [(6, .long x2), (4, .long v6), (8, .long x2)]) hx hb dX9_divisor_26 hl (by decide) rfl (fun ls hl => ?_)
      refine lv_goto (tgt := 6) hx hb dX9_divisor_28 (by decide) ?_
      exact ih _ _ _ _ _ _ h  hP hS (lv_sub hl [1, 0] rfl)
set_option maxRecDepth 100000 in
set_option maxHeartbeats 4000000 in
theorem e_X9_divisor {p : Program} {l : Launch} {e : Env} {s : State} {m : MethodId} {args : Array Value} {below : List Frame} {meth : Method} {c : Code} {dC : Nat → ClassId} {dI : Nat → Nat → Nat} {cA : Nat → ClassId} {P : Nat → Nat} (C : CtxM dC dI cA P p s m args meth c cX9_divisor 10 (some .long) RX9) {post : Int64 → St → Prop} : ∀ (v0 : Int64) (v2 : Int64) (S : St) (H : Heap) (locs : List Loc) (ls : Array Slot), w_X9_divisor v0 v2 post S → VM dC dI cA P S H → va_S (PA 25 P) s.heap H locs → lv_has ls 10 [(0, .long v0), (2, .long v2)] → W p l e ({ frames := 0, cells := 0, slots := 0, locals := 0 } : Room) s m args below meth c H locs 0 0 (MQ below (va_Ql post (fun u t => VM dC dI cA P u t.heap) (PA 25 P)) args s 0 0 (PA 25 P)) (F0 m 0 ls []) := by
  have C := C
  obtain ⟨hI, hKX, ⟨hx, hb, hml, hown, hts⟩, hr, hlocks⟩ := id C
  have hK := hKX
  intro v0 v2 S H locs ls h hP hS hl
  rw [w_X9_divisor] at h
  refine lv_lload_n hx hb dX9_divisor_0 rfl (lv_at hl 0 rfl) ?_
  refine lv_lstore (lv' := [(4, .long v0), (0, .long v0), (2, .long v2)]) hx hb dX9_divisor_1 hl (by decide) rfl (fun ls hl => ?_)
  refine lv_lload_n hx hb dX9_divisor_3 rfl (lv_at hl 2 rfl) ?_
  refine lv_lstore (lv' := [(6, .long v2), (4, .long v0), (0, .long v0), (2, .long v2)]) hx hb dX9_divisor_4 hl (by decide) rfl (fun ls hl => ?_)
  obtain ⟨n3, h⟩ := h
  exact b_X9_divisor_6 C n3 _ _ _ _ _ _ h  hP hS (lv_sub hl [1, 0] rfl)
set_option maxRecDepth 100000 in
set_option maxHeartbeats 4000000 in
theorem c_X9_divisor (l : Launch) {dC : Nat → ClassId} {dI : Nat → Nat → Nat} {cA : Nat → ClassId} {P : Nat → Nat} (hI : PInj 25 P) {v0 : Int64} {v2 : Int64}  {post : Int64 → St → Prop} {S : St} (h : w_X9_divisor v0 v2 post S) : Met l yX9_divisor (wW yX9_divisor cX9_divisor 10 (some .long)) ({ frames := 0, cells := 0, slots := 0, locals := 0 } : Room) (va_Pc [.long v0, .long v2] (PreM dC dI cA P S)) (va_Ql post (fun u t => VM dC dI cA P u t.heap) (PA 25 P)) 0 0 (PA 25 P) := by
  refine Met.ofW (cc := cX9_divisor) (maxL := 10) (ret := (some .long)) (by decide) rfl ?_
  intro p e s m args below meth c s₁ B hml hv
  obtain ⟨rfl, hP, hKX⟩ := hv
  have hts : ∀ w ∈ G, w.before [.long v0, .long v2].toArray s = true := fun w hw => atoms_spec (ws := wW yX9_divisor cX9_divisor 10 (some .long)) B.pre w (List.mem_cons_of_mem _ hw)
  have C : CtxM dC dI cA P p s m [.long v0, .long v2].toArray meth c cX9_divisor 10 (some .long) RX9 := ⟨hI, hKX, ⟨B.exec, B.bytes, hml, findClass_of_methodNamed B.named, hts⟩, B.returns, B.notSynchronized⟩
  have hS : va_S (PA 25 P) s.heap s.heap [] := va_S.rf
  have hl := lv_entry ([.long v0, .long v2]) (n := 10) (Nat.le_of_ble_eq_true rfl)
  rw [lg_entry_eq]
  generalize (lg_sl ([.long v0, .long v2]) ++ List.replicate (10 - (lg_sl ([.long v0, .long v2])).length) Slot.unset).toArray = ls at hl ⊢
  have hl : lv_has ls 10 [(0, .long v0), (2, .long v2)] := hl
  exact e_X9_divisor C _ _ _ _ _ _ h  hP hS hl
set_option maxRecDepth 100000 in
set_option maxHeartbeats 4000000 in
theorem b_X9_looks_33 {p : Program} {l : Launch} {e : Env} {s : State} {m : MethodId} {args : Array Value} {below : List Frame} {meth : Method} {c : Code} {dC : Nat → ClassId} {dI : Nat → Nat → Nat} {cA : Nat → ClassId} {P : Nat → Nat} (C : CtxM dC dI cA P p s m args meth c cX9_looks 7 none RX9) {post : St → Prop}  : ∀ (n : Nat) (v3 : Int32) (v4 : Int32) (v5 : Int32) (v6 : Int32) (S : St) (H : Heap) (locs : List Loc) (ls : Array Slot), w_X9_looks_33 post n v3 v4 v5 v6 S → VM dC dI cA P S H → va_S (PA 25 P) s.heap H locs → lv_has ls 7 [(0, .ref (P 0)), (3, .int v3), (4, .int v4), (5, .int v5), (6, .int v6)] → W p l e ({ frames := 0, cells := 0, slots := 0, locals := 0 } : Room) s m args below meth c H locs 0 0 (MQ below (va_Qv post (fun u t => VM dC dI cA P u t.heap) (PA 25 P)) args s 0 0 (PA 25 P)) (F0 m 33 ls []) := by
  have C := C
  obtain ⟨hI, hKX, ⟨hx, hb, hml, hown, hts⟩, hr, hlocks⟩ := id C
  have hK := hKX
  intro n
  induction n with
  | zero =>
    intro v3 v4 v5 v6 S H locs ls h hP hS hl
    simp only [w_X9_looks_33] at h
  | succ n ih =>
    intro v3 v4 v5 v6 S H locs ls h hP hS hl
    rw [w_X9_looks_33] at h
    refine lv_aload_n hx hb dX9_looks_33 rfl (lv_at hl 0 rfl) ?_
    refine g_get (v := .ref (P 4)) hx hb hts inG_X9 hown hK hP (kM_lt (rfl : kdM 0 = 9)) (eM9 (rfl : kdM 0 = 9)) rfl 7 (by decide) G_fl_X9_21 rfl rfl dX9_looks_34 ?_
    refine lv_iload hx hb dX9_looks_37 (lv_at hl 3 rfl) ?_
    refine g_ald hx hb hK hP (kM_lt (rfl : kdM 4 = 10)) 0 (eM10 (rfl : kdM 4 = 10)) rfl h.1 dX9_looks_39 ?_
    replace h := h.2
    refine lv_iconst (v := (-1)) hx hb dX9_looks_40 (by decide) ?_
    refine lv_icmp_ne (tgt := 91) hx hb dX9_looks_41 (by decide) (fun c3 => ?_) (fun c3 => ?_)
    · replace h := h.2 c3
      refine lv_aload_n hx hb dX9_looks_91 rfl (lv_at hl 0 rfl) ?_
      refine lv_aload_n hx hb dX9_looks_92 rfl (lv_at hl 0 rfl) ?_
      refine g_get (v := .ref (P 4)) hx hb hts inG_X9 hown hK hP (kM_lt (rfl : kdM 0 = 9)) (eM9 (rfl : kdM 0 = 9)) rfl 7 (by decide) G_fl_X9_21 rfl rfl dX9_looks_93 ?_
      refine lv_iload hx hb dX9_looks_96 (lv_at hl 3 rfl) ?_
      refine g_ald hx hb hK hP (kM_lt (rfl : kdM 4 = 10)) 0 (eM10 (rfl : kdM 4 = 10)) rfl h.1 dX9_looks_98 ?_
      replace h := h.2
      replace h := h _ rfl
      refine g_putI hx hb hts inG_X9 tyX9 tyX9_ok nmX9 hown hK hI hP hS (kM_lt (rfl : kdM 0 = 9)) (eM9 (rfl : kdM 0 = 9)) rfl 4 (by decide) G_fl_X9_100 rfl rfl (ty := .int) (by decide +kernel) rfl rfl (Nat.le_of_ble_eq_true rfl) rfl h dX9_looks_99 (fun S5 H locs h hP hS => ?_)
      refine lv_aload_n hx hb dX9_looks_102 rfl (lv_at hl 0 rfl) ?_
      refine lv_iload hx hb dX9_looks_103 (lv_at hl 4 rfl) ?_
      refine lv_aload_n hx hb dX9_looks_105 rfl (lv_at hl 0 rfl) ?_
      refine g_get (v := .int (S5.1 0 4)) hx hb hts inG_X9 hown hK hP (kM_lt (rfl : kdM 0 = 9)) (eM9 (rfl : kdM 0 = 9)) rfl 4 (by decide) G_fl_X9_100 rfl rfl dX9_looks_106 ?_
      refine lv_isub hx hb dX9_looks_109 ?_
      replace h := h _ rfl
      refine g_putI hx hb hts inG_X9 tyX9 tyX9_ok nmX9 hown hK hI hP hS (kM_lt (rfl : kdM 0 = 9)) (eM9 (rfl : kdM 0 = 9)) rfl 5 (by decide) G_fl_X9_103 rfl rfl (ty := .int) (by decide +kernel) rfl rfl (Nat.le_of_ble_eq_true rfl) rfl h dX9_looks_110 (fun S7 H locs h hP hS => ?_)
      refine lv_aload_n hx hb dX9_looks_113 rfl (lv_at hl 0 rfl) ?_
      refine lv_aload_n hx hb dX9_looks_114 rfl (lv_at hl 0 rfl) ?_
      refine g_get (v := .ref (P 5)) hx hb hts inG_X9 hown hK hP (kM_lt (rfl : kdM 0 = 9)) (eM9 (rfl : kdM 0 = 9)) rfl 8 (by decide) G_fl_X9_24 rfl rfl dX9_looks_115 ?_
      refine lv_aload_n hx hb dX9_looks_118 rfl (lv_at hl 0 rfl) ?_
      refine g_get (v := .int (S7.1 0 4)) hx hb hts inG_X9 hown hK hP (kM_lt (rfl : kdM 0 = 9)) (eM9 (rfl : kdM 0 = 9)) rfl 4 (by decide) G_fl_X9_100 rfl rfl dX9_looks_119 ?_
      replace h := h _ rfl
      refine g_ald hx hb hK hP (kM_lt (rfl : kdM 5 = 10)) 0 (eM10 (rfl : kdM 5 = 10)) rfl h.1 dX9_looks_122 ?_
      replace h := h.2
      refine lv_if_ne (tgt := 130) hx hb dX9_looks_123 (by decide) (fun c9 => ?_) (fun c9 => ?_)
      · replace h := h.2 c9
        refine lv_iconst (v := 0) hx hb dX9_looks_130 (by decide) ?_
        refine g_putI hx hb hts inG_X9 tyX9 tyX9_ok nmX9 hown hK hI hP hS (kM_lt (rfl : kdM 0 = 9)) (eM9 (rfl : kdM 0 = 9)) rfl 6 (by decide) G_fl_X9_106 rfl rfl (ty := .boolean) (by decide +kernel) bz_0.1 bz_0.2 (Nat.le_of_ble_eq_true rfl) rfl h dX9_looks_131 (fun S10 H locs h hP hS => ?_)
        exact g_vret hx hb hr hlocks h hP hS dX9_looks_134
      · replace h := h.1 c9
        refine lv_iconst (v := 1) hx hb dX9_looks_126 (by decide) ?_
        refine lv_goto (tgt := 131) hx hb dX9_looks_127 (by decide) ?_
        refine g_putI hx hb hts inG_X9 tyX9 tyX9_ok nmX9 hown hK hI hP hS (kM_lt (rfl : kdM 0 = 9)) (eM9 (rfl : kdM 0 = 9)) rfl 6 (by decide) G_fl_X9_106 rfl rfl (ty := .boolean) (by decide +kernel) bz_1.1 bz_1.2 (Nat.le_of_ble_eq_true rfl) rfl h dX9_looks_131 (fun S11 H locs h hP hS => ?_)
        exact g_vret hx hb hr hlocks h hP hS dX9_looks_134
    · replace h := h.1 c3
      refine lv_aload_n hx hb dX9_looks_44 rfl (lv_at hl 0 rfl) ?_
      refine g_get (v := .ref (P 4)) hx hb hts inG_X9 hown hK hP (kM_lt (rfl : kdM 0 = 9)) (eM9 (rfl : kdM 0 = 9)) rfl 7 (by decide) G_fl_X9_21 rfl rfl dX9_looks_45 ?_
      refine lv_iload hx hb dX9_looks_48 (lv_at hl 3 rfl) ?_
      refine lv_iload hx hb dX9_looks_50 (lv_at hl 4 rfl) ?_
      refine g_ast hx hb hK hI hP hS (kM_lt (rfl : kdM 4 = 10)) 0 (eM10 (rfl : kdM 4 = 10)) rfl h.1 h.2 dX9_looks_52 (fun S12 H locs h hP hS => ?_)
      refine lv_aload_n hx hb dX9_looks_53 rfl (lv_at hl 0 rfl) ?_
      refine g_get (v := .ref (P 5)) hx hb hts inG_X9 hown hK hP (kM_lt (rfl : kdM 0 = 9)) (eM9 (rfl : kdM 0 = 9)) rfl 8 (by decide) G_fl_X9_24 rfl rfl dX9_looks_54 ?_
      refine lv_iload hx hb dX9_looks_57 (lv_at hl 4 rfl) ?_
      refine lv_iload hx hb dX9_looks_59 (lv_at hl 3 rfl) ?_
      refine g_ast hx hb hK hI hP hS (kM_lt (rfl : kdM 5 = 10)) 0 (eM10 (rfl : kdM 5 = 10)) rfl h.1 h.2 dX9_looks_61 (fun S13 H locs h hP hS => ?_)
      refine lv_aload_n hx hb dX9_looks_62 rfl (lv_at hl 0 rfl) ?_
      refine g_get (v := .ref (P 6)) hx hb hts inG_X9 hown hK hP (kM_lt (rfl : kdM 0 = 9)) (eM9 (rfl : kdM 0 = 9)) rfl 9 (by decide) G_fl_X9_27 rfl rfl dX9_looks_63 ?_
      refine lv_iload hx hb dX9_looks_66 (lv_at hl 4 rfl) ?_
      refine lv_iload hx hb dX9_looks_68 (lv_at hl 3 rfl) ?_
      refine lv_iload hx hb dX9_looks_70 (lv_at hl 2 rfl) ?_
      refine lv_imul hx hb dX9_looks_72 ?_
      refine lv_iload_n hx hb dX9_looks_73 rfl (lv_at hl 1 rfl) ?_
      refine lv_idiv hx hb dX9_looks_74 h.1 ?_
      replace h := h.2
      replace h := h _ rfl
      refine g_ast hx hb hK hI hP hS (kM_lt (rfl : kdM 6 = 10)) 0 (eM10 (rfl : kdM 6 = 10)) rfl h.1 h.2 dX9_looks_75 (fun S15 H locs h hP hS => ?_)
      refine lv_iload hx hb dX9_looks_76 (lv_at hl 3 rfl) ?_
      refine lv_iload hx hb dX9_looks_78 (lv_at hl 2 rfl) ?_
      refine lv_imul hx hb dX9_looks_80 ?_
      refine lv_iload_n hx hb dX9_looks_81 rfl (lv_at hl 1 rfl) ?_
      refine lv_irem hx hb dX9_looks_82 h.1 ?_
      replace h := h.2
      refine lv_topi (fun x16 ex16 => ?_)
      replace h := h x16 ex16
      refine lv_istore (lv' := [(5, .int x16), (0, .ref (P 0)), (3, .int v3), (4, .int v4), (6, .int v6)]) hx hb dX9_looks_83 hl (by decide) rfl (fun ls hl => ?_)
      obtain ⟨x17, ex17⟩ : ∃ y : Int32, y = v6 + 1 := ⟨_, rfl⟩
      replace h := h x17 ex17
      refine lv_iinc (v := x17) (lv' := [(6, .int x17), (5, .int x16), (0, .ref (P 0)), (3, .int v3), (4, .int v4)]) hx hb dX9_looks_85 hl (k := 4) rfl (by rw [ex17]; rfl) (by decide) rfl (fun ls hl => ?_)
      refine lv_goto (tgt := 33) hx hb dX9_looks_88 (by decide) ?_
      exact ih _ _ _ _ _ _ _ _ h  hP hS (lv_sub hl [2, 3, 4, 1, 0] rfl)
set_option maxRecDepth 100000 in
set_option maxHeartbeats 4000000 in
theorem b_X9_looks_3 {p : Program} {l : Launch} {e : Env} {s : State} {m : MethodId} {args : Array Value} {below : List Frame} {meth : Method} {c : Code} {dC : Nat → ClassId} {dI : Nat → Nat → Nat} {cA : Nat → ClassId} {P : Nat → Nat} (C : CtxM dC dI cA P p s m args meth c cX9_looks 7 none RX9) {post : St → Prop}  : ∀ (n : Nat) (v1 : Int64) (v3 : Int32) (v4 : Int32) (v5 : Int32) (S : St) (H : Heap) (locs : List Loc) (ls : Array Slot), w_X9_looks_3 post n v1 v3 v4 v5 S → VM dC dI cA P S H → va_S (PA 25 P) s.heap H locs → lv_has ls 7 [(0, .ref (P 0)), (1, .long v1), (3, .int v3), (4, .int v4), (5, .int v5)] → W p l e ({ frames := 0, cells := 0, slots := 0, locals := 0 } : Room) s m args below meth c H locs 0 0 (MQ below (va_Qv post (fun u t => VM dC dI cA P u t.heap) (PA 25 P)) args s 0 0 (PA 25 P)) (F0 m 3 ls []) := by
  have C := C
  obtain ⟨hI, hKX, ⟨hx, hb, hml, hown, hts⟩, hr, hlocks⟩ := id C
  have hK := hKX
  intro n
  induction n with
  | zero =>
    intro v1 v3 v4 v5 S H locs ls h hP hS hl
    simp only [w_X9_looks_3] at h
  | succ n ih =>
    intro v1 v3 v4 v5 S H locs ls h hP hS hl
    rw [w_X9_looks_3] at h
    refine lv_iload hx hb dX9_looks_3 (lv_at hl 4 rfl) ?_
    refine lv_iload_n hx hb dX9_looks_5 rfl (lv_at hl 2 rfl) ?_
    refine lv_icmp_ge (tgt := 23) hx hb dX9_looks_6 (by decide) (fun c1 => ?_) (fun c1 => ?_)
    · replace h := h.1 c1
      refine lv_lload_n hx hb dX9_looks_23 rfl (lv_at hl 1 rfl) ?_
      refine lv_iload_n hx hb dX9_looks_24 rfl (lv_at hl 2 rfl) ?_
      refine lv_i2l hx hb dX9_looks_25 rfl ?_
      refine lv_lrem hx hb dX9_looks_26 h.1 ?_
      replace h := h.2
      refine lv_l2i hx hb dX9_looks_27 rfl ?_
      refine lv_topi (fun x2 ex2 => ?_)
      replace h := h x2 ex2
      refine lv_istore (lv' := [(5, .int x2), (0, .ref (P 0)), (1, .long v1), (3, .int v3), (4, .int v4)]) hx hb dX9_looks_28 hl (by decide) rfl (fun ls hl => ?_)
      refine lv_iconst (v := 0) hx hb dX9_looks_30 (by decide) ?_
      refine lv_istore (lv' := [(6, .int 0), (5, .int x2), (0, .ref (P 0)), (1, .long v1), (3, .int v3), (4, .int v4)]) hx hb dX9_looks_31 hl (by decide) rfl (fun ls hl => ?_)
      obtain ⟨n18, h⟩ := h
      exact b_X9_looks_33 C n18 _ _ _ _ _ _ _ _ h  hP hS (lv_sub hl [2, 4, 5, 1, 0] rfl)
    · replace h := h.2 c1
      refine lv_aload_n hx hb dX9_looks_9 rfl (lv_at hl 0 rfl) ?_
      refine g_get (v := .ref (P 4)) hx hb hts inG_X9 hown hK hP (kM_lt (rfl : kdM 0 = 9)) (eM9 (rfl : kdM 0 = 9)) rfl 7 (by decide) G_fl_X9_21 rfl rfl dX9_looks_10 ?_
      refine lv_iload hx hb dX9_looks_13 (lv_at hl 4 rfl) ?_
      refine lv_iconst (v := (-1)) hx hb dX9_looks_15 (by decide) ?_
      refine g_ast hx hb hK hI hP hS (kM_lt (rfl : kdM 4 = 10)) 0 (eM10 (rfl : kdM 4 = 10)) rfl h.1 h.2 dX9_looks_16 (fun S19 H locs h hP hS => ?_)
      obtain ⟨x20, ex20⟩ : ∃ y : Int32, y = v5 + 1 := ⟨_, rfl⟩
      replace h := h x20 ex20
      refine lv_iinc (v := x20) (lv' := [(5, .int x20), (0, .ref (P 0)), (1, .long v1), (3, .int v3), (4, .int v4)]) hx hb dX9_looks_17 hl (k := 4) rfl (by rw [ex20]; rfl) (by decide) rfl (fun ls hl => ?_)
      refine lv_goto (tgt := 3) hx hb dX9_looks_20 (by decide) ?_
      exact ih _ _ _ _ _ _ _ _ h  hP hS (lv_sub hl [1, 2, 3, 4, 0] rfl)
set_option maxRecDepth 100000 in
set_option maxHeartbeats 4000000 in
theorem e_X9_looks {p : Program} {l : Launch} {e : Env} {s : State} {m : MethodId} {args : Array Value} {below : List Frame} {meth : Method} {c : Code} {dC : Nat → ClassId} {dI : Nat → Nat → Nat} {cA : Nat → ClassId} {P : Nat → Nat} (C : CtxM dC dI cA P p s m args meth c cX9_looks 7 none RX9) {post : St → Prop} : ∀ (v1 : Int64) (v3 : Int32) (v4 : Int32) (S : St) (H : Heap) (locs : List Loc) (ls : Array Slot), w_X9_looks v1 v3 v4 post S → VM dC dI cA P S H → va_S (PA 25 P) s.heap H locs → lv_has ls 7 [(0, .ref (P 0)), (1, .long v1), (3, .int v3), (4, .int v4)] → W p l e ({ frames := 0, cells := 0, slots := 0, locals := 0 } : Room) s m args below meth c H locs 0 0 (MQ below (va_Qv post (fun u t => VM dC dI cA P u t.heap) (PA 25 P)) args s 0 0 (PA 25 P)) (F0 m 0 ls []) := by
  have C := C
  obtain ⟨hI, hKX, ⟨hx, hb, hml, hown, hts⟩, hr, hlocks⟩ := id C
  have hK := hKX
  intro v1 v3 v4 S H locs ls h hP hS hl
  rw [w_X9_looks] at h
  refine lv_iconst (v := 0) hx hb dX9_looks_0 (by decide) ?_
  refine lv_istore (lv' := [(5, .int 0), (0, .ref (P 0)), (1, .long v1), (3, .int v3), (4, .int v4)]) hx hb dX9_looks_1 hl (by decide) rfl (fun ls hl => ?_)
  obtain ⟨n21, h⟩ := h
  exact b_X9_looks_3 C n21 _ _ _ _ _ _ _ _ h  hP hS (lv_sub hl [1, 2, 3, 4, 0] rfl)
set_option maxRecDepth 100000 in
set_option maxHeartbeats 4000000 in
theorem c_X9_looks (l : Launch) {dC : Nat → ClassId} {dI : Nat → Nat → Nat} {cA : Nat → ClassId} {P : Nat → Nat} (hI : PInj 25 P) {v1 : Int64} {v3 : Int32} {v4 : Int32}  {post : St → Prop} {S : St} (h : w_X9_looks v1 v3 v4 post S) : Met l yX9_looks (wW yX9_looks cX9_looks 7 none) ({ frames := 0, cells := 0, slots := 0, locals := 0 } : Room) (va_Pc [.ref (P 0), .long v1, .int v3, .int v4] (PreM dC dI cA P S)) (va_Qv post (fun u t => VM dC dI cA P u t.heap) (PA 25 P)) 0 0 (PA 25 P) := by
  refine Met.ofW (cc := cX9_looks) (maxL := 7) (ret := none) (by decide) rfl ?_
  intro p e s m args below meth c s₁ B hml hv
  obtain ⟨rfl, hP, hKX⟩ := hv
  have hts : ∀ w ∈ G, w.before [.ref (P 0), .long v1, .int v3, .int v4].toArray s = true := fun w hw => atoms_spec (ws := wW yX9_looks cX9_looks 7 none) B.pre w (List.mem_cons_of_mem _ hw)
  have C : CtxM dC dI cA P p s m [.ref (P 0), .long v1, .int v3, .int v4].toArray meth c cX9_looks 7 none RX9 := ⟨hI, hKX, ⟨B.exec, B.bytes, hml, findClass_of_methodNamed B.named, hts⟩, B.returns, B.notSynchronized⟩
  have hS : va_S (PA 25 P) s.heap s.heap [] := va_S.rf
  have hl := lv_entry ([.ref (P 0), .long v1, .int v3, .int v4]) (n := 7) (Nat.le_of_ble_eq_true rfl)
  rw [lg_entry_eq]
  generalize (lg_sl ([.ref (P 0), .long v1, .int v3, .int v4]) ++ List.replicate (7 - (lg_sl ([.ref (P 0), .long v1, .int v3, .int v4])).length) Slot.unset).toArray = ls at hl ⊢
  have hl : lv_has ls 7 [(0, .ref (P 0)), (1, .long v1), (3, .int v3), (4, .int v4)] := hl
  exact e_X9_looks C _ _ _ _ _ _ _ h  hP hS hl
set_option maxRecDepth 100000 in
set_option maxHeartbeats 4000000 in
theorem e_X9_looksAt {p : Program} {l : Launch} {e : Env} {s : State} {m : MethodId} {args : Array Value} {below : List Frame} {meth : Method} {c : Code} {dC : Nat → ClassId} {dI : Nat → Nat → Nat} {cA : Nat → ClassId} {P : Nat → Nat} (C : CtxM dC dI cA P p s m args meth c cX9_looksAt 2 none RX9) {post : St → Prop} : ∀ (v1 : Int32) (S : St) (H : Heap) (locs : List Loc) (ls : Array Slot), w_X9_looksAt v1 post S → VM dC dI cA P S H → va_S (PA 25 P) s.heap H locs → lv_has ls 2 [(0, .ref (P 0)), (1, .int v1)] → W p l e ({ frames := 1, cells := 0, slots := 0, locals := 26 } : Room) s m args below meth c H locs 0 0 (MQ below (va_Qv post (fun u t => VM dC dI cA P u t.heap) (PA 25 P)) args s 0 0 (PA 25 P)) (F0 m 0 ls []) := by
  have C := C
  obtain ⟨hI, hKX, ⟨hx, hb, hml, hown, hts⟩, hr, hlocks⟩ := id C
  have hK := hKX
  intro v1 S H locs ls h hP hS hl
  rw [w_X9_looksAt] at h
  refine lv_aload_n hx hb dX9_looksAt_0 rfl (lv_at hl 0 rfl) ?_
  refine lv_aload_n hx hb dX9_looksAt_1 rfl (lv_at hl 0 rfl) ?_
  refine g_get (v := .ref (P 1)) hx hb hts inG_X9 hown hK hP (kM_lt (rfl : kdM 0 = 9)) (eM9 (rfl : kdM 0 = 9)) rfl 1 (by decide) G_fl_X9_11 rfl rfl dX9_looksAt_2 ?_
  refine lv_iload_n hx hb dX9_looksAt_5 rfl (lv_at hl 1 rfl) ?_
  refine g_ald hx hb hK hP (kM_lt (rfl : kdM 1 = 10)) 0 (eM10 (rfl : kdM 1 = 10)) rfl h.1 dX9_looksAt_6 ?_
  replace h := h.2
  refine lv_i2l hx hb dX9_looksAt_7 rfl ?_
  refine lv_aload_n hx hb dX9_looksAt_8 rfl (lv_at hl 0 rfl) ?_
  refine g_get (v := .ref (P 2)) hx hb hts inG_X9 hown hK hP (kM_lt (rfl : kdM 0 = 9)) (eM9 (rfl : kdM 0 = 9)) rfl 2 (by decide) G_fl_X9_15 rfl rfl dX9_looksAt_9 ?_
  refine lv_iload_n hx hb dX9_looksAt_12 rfl (lv_at hl 1 rfl) ?_
  refine g_ald hx hb hK hP (kM_lt (rfl : kdM 2 = 10)) 0 (eM10 (rfl : kdM 2 = 10)) rfl h.1 dX9_looksAt_13 ?_
  replace h := h.2
  refine lv_aload_n hx hb dX9_looksAt_14 rfl (lv_at hl 0 rfl) ?_
  refine g_get (v := .ref (P 3)) hx hb hts inG_X9 hown hK hP (kM_lt (rfl : kdM 0 = 9)) (eM9 (rfl : kdM 0 = 9)) rfl 3 (by decide) G_fl_X9_18 rfl rfl dX9_looksAt_15 ?_
  refine lv_iload_n hx hb dX9_looksAt_18 rfl (lv_at hl 1 rfl) ?_
  refine g_ald hx hb hK hP (kM_lt (rfl : kdM 3 = 10)) 0 (eM10 (rfl : kdM 3 = 10)) rfl h.1 dX9_looksAt_19 ?_
  replace h := h.2
  replace h := h _ rfl
  replace h := h _ rfl
  replace h := h _ rfl
  refine va_callv (va_runV (As := [.long _, .int _, .int _]) (rest := []) ⟨hx, hb, hml, hown, hts⟩ (c_X9_looks l hI h) (cwV 3 hts gv_X9_110 rfl rfl rfl hv_X9_looks ⟨Nat.le_of_ble_eq_true rfl, Nat.le_of_ble_eq_true rfl⟩) (preV_M hKX hP hS (kM_lt (rfl : kdM 0 = 9)) (eM9 (rfl : kdM 0 = 9)) rfl) rfl rfl hl.1 rfl (lv_room (Nat.le_of_ble_eq_true rfl)) dX9_looksAt_20 ⟨Nat.le_of_ble_eq_true rfl, Nat.le_of_ble_eq_true rfl⟩) hS (fun _ _ h => h) (fun _ h => h) (fun S4 t H locs ht _ h hB _ _ hS => ?_)
  have hP : VM dC dI cA P S4 H := by rw [← ht]; exact hB
  exact g_vret hx hb hr hlocks h hP hS dX9_looksAt_23
set_option maxRecDepth 100000 in
set_option maxHeartbeats 4000000 in
theorem c_X9_looksAt (l : Launch) {dC : Nat → ClassId} {dI : Nat → Nat → Nat} {cA : Nat → ClassId} {P : Nat → Nat} (hI : PInj 25 P) {v1 : Int32}  {post : St → Prop} {S : St} (h : w_X9_looksAt v1 post S) : Met l yX9_looksAt (wW yX9_looksAt cX9_looksAt 2 none) ({ frames := 1, cells := 0, slots := 0, locals := 26 } : Room) (va_Pc [.ref (P 0), .int v1] (PreM dC dI cA P S)) (va_Qv post (fun u t => VM dC dI cA P u t.heap) (PA 25 P)) 0 0 (PA 25 P) := by
  refine Met.ofW (cc := cX9_looksAt) (maxL := 2) (ret := none) (by decide) rfl ?_
  intro p e s m args below meth c s₁ B hml hv
  obtain ⟨rfl, hP, hKX⟩ := hv
  have hts : ∀ w ∈ G, w.before [.ref (P 0), .int v1].toArray s = true := fun w hw => atoms_spec (ws := wW yX9_looksAt cX9_looksAt 2 none) B.pre w (List.mem_cons_of_mem _ hw)
  have C : CtxM dC dI cA P p s m [.ref (P 0), .int v1].toArray meth c cX9_looksAt 2 none RX9 := ⟨hI, hKX, ⟨B.exec, B.bytes, hml, findClass_of_methodNamed B.named, hts⟩, B.returns, B.notSynchronized⟩
  have hS : va_S (PA 25 P) s.heap s.heap [] := va_S.rf
  have hl := lv_entry ([.ref (P 0), .int v1]) (n := 2) (Nat.le_of_ble_eq_true rfl)
  rw [lg_entry_eq]
  generalize (lg_sl ([.ref (P 0), .int v1]) ++ List.replicate (2 - (lg_sl ([.ref (P 0), .int v1])).length) Slot.unset).toArray = ls at hl ⊢
  have hl : lv_has ls 2 [(0, .ref (P 0)), (1, .int v1)] := hl
  exact e_X9_looksAt C _ _ _ _ _ h  hP hS hl
set_option maxRecDepth 100000 in
set_option maxHeartbeats 4000000 in
theorem e_X9_kindNow {p : Program} {l : Launch} {e : Env} {s : State} {m : MethodId} {args : Array Value} {below : List Frame} {meth : Method} {c : Code} {dC : Nat → ClassId} {dI : Nat → Nat → Nat} {cA : Nat → ClassId} {P : Nat → Nat} (C : CtxM dC dI cA P p s m args meth c cX9_kindNow 1 (some .int) RX9) {post : Int32 → St → Prop} : ∀  (S : St) (H : Heap) (locs : List Loc) (ls : Array Slot), w_X9_kindNow  post S → VM dC dI cA P S H → va_S (PA 25 P) s.heap H locs → lv_has ls 1 [(0, .ref (P 0))] → W p l e ({ frames := 0, cells := 0, slots := 0, locals := 0 } : Room) s m args below meth c H locs 0 0 (MQ below (va_Qi post (fun u t => VM dC dI cA P u t.heap) (PA 25 P)) args s 0 0 (PA 25 P)) (F0 m 0 ls []) := by
  have C := C
  obtain ⟨hI, hKX, ⟨hx, hb, hml, hown, hts⟩, hr, hlocks⟩ := id C
  have hK := hKX
  intro S H locs ls h hP hS hl
  rw [w_X9_kindNow] at h
  refine lv_aload_n hx hb dX9_kindNow_0 rfl (lv_at hl 0 rfl) ?_
  refine g_get (v := .int (S.1 0 6)) hx hb hts inG_X9 hown hK hP (kM_lt (rfl : kdM 0 = 9)) (eM9 (rfl : kdM 0 = 9)) rfl 6 (by decide) G_fl_X9_106 rfl rfl dX9_kindNow_1 ?_
  refine lv_if_eq (tgt := 11) hx hb dX9_kindNow_4 (by decide) (fun c1 => ?_) (fun c1 => ?_)
  · replace h := h.1 c1
    refine lv_aload_n hx hb dX9_kindNow_11 rfl (lv_at hl 0 rfl) ?_
    refine g_get (v := .int (S.1 0 4)) hx hb hts inG_X9 hown hK hP (kM_lt (rfl : kdM 0 = 9)) (eM9 (rfl : kdM 0 = 9)) rfl 4 (by decide) G_fl_X9_100 rfl rfl dX9_kindNow_12 ?_
    refine lv_if_ne (tgt := 22) hx hb dX9_kindNow_15 (by decide) (fun c2 => ?_) (fun c2 => ?_)
    · replace h := h.2 c2
      refine lv_iconst (v := 2) hx hb dX9_kindNow_22 (by decide) ?_
      exact g_iret hx hb hr hlocks h hP hS dX9_kindNow_23
    · replace h := h.1 c2
      refine lv_iconst (v := 1) hx hb dX9_kindNow_18 (by decide) ?_
      refine lv_goto (tgt := 23) hx hb dX9_kindNow_19 (by decide) ?_
      exact g_iret hx hb hr hlocks h hP hS dX9_kindNow_23
  · replace h := h.2 c1
    refine lv_iconst (v := 0) hx hb dX9_kindNow_7 (by decide) ?_
    refine lv_goto (tgt := 23) hx hb dX9_kindNow_8 (by decide) ?_
    exact g_iret hx hb hr hlocks h hP hS dX9_kindNow_23
set_option maxRecDepth 100000 in
set_option maxHeartbeats 4000000 in
theorem c_X9_kindNow (l : Launch) {dC : Nat → ClassId} {dI : Nat → Nat → Nat} {cA : Nat → ClassId} {P : Nat → Nat} (hI : PInj 25 P)   {post : Int32 → St → Prop} {S : St} (h : w_X9_kindNow  post S) : Met l yX9_kindNow (wW yX9_kindNow cX9_kindNow 1 (some .int)) ({ frames := 0, cells := 0, slots := 0, locals := 0 } : Room) (va_Pc [.ref (P 0)] (PreM dC dI cA P S)) (va_Qi post (fun u t => VM dC dI cA P u t.heap) (PA 25 P)) 0 0 (PA 25 P) := by
  refine Met.ofW (cc := cX9_kindNow) (maxL := 1) (ret := (some .int)) (by decide) rfl ?_
  intro p e s m args below meth c s₁ B hml hv
  obtain ⟨rfl, hP, hKX⟩ := hv
  have hts : ∀ w ∈ G, w.before [.ref (P 0)].toArray s = true := fun w hw => atoms_spec (ws := wW yX9_kindNow cX9_kindNow 1 (some .int)) B.pre w (List.mem_cons_of_mem _ hw)
  have C : CtxM dC dI cA P p s m [.ref (P 0)].toArray meth c cX9_kindNow 1 (some .int) RX9 := ⟨hI, hKX, ⟨B.exec, B.bytes, hml, findClass_of_methodNamed B.named, hts⟩, B.returns, B.notSynchronized⟩
  have hS : va_S (PA 25 P) s.heap s.heap [] := va_S.rf
  have hl := lv_entry ([.ref (P 0)]) (n := 1) (Nat.le_of_ble_eq_true rfl)
  rw [lg_entry_eq]
  generalize (lg_sl ([.ref (P 0)]) ++ List.replicate (1 - (lg_sl ([.ref (P 0)])).length) Slot.unset).toArray = ls at hl ⊢
  have hl : lv_has ls 1 [(0, .ref (P 0))] := hl
  exact e_X9_kindNow C  _ _ _ _ h  hP hS hl
set_option maxRecDepth 100000 in
set_option maxHeartbeats 4000000 in
theorem e_X9_placeOf {p : Program} {l : Launch} {e : Env} {s : State} {m : MethodId} {args : Array Value} {below : List Frame} {meth : Method} {c : Code} {dC : Nat → ClassId} {dI : Nat → Nat → Nat} {cA : Nat → ClassId} {P : Nat → Nat} (C : CtxM dC dI cA P p s m args meth c cX9_placeOf 2 (some .int) RX9) {post : Int32 → St → Prop} : ∀ (v1 : Int32) (S : St) (H : Heap) (locs : List Loc) (ls : Array Slot), w_X9_placeOf v1 post S → VM dC dI cA P S H → va_S (PA 25 P) s.heap H locs → lv_has ls 2 [(0, .ref (P 0)), (1, .int v1)] → W p l e ({ frames := 0, cells := 0, slots := 0, locals := 0 } : Room) s m args below meth c H locs 0 0 (MQ below (va_Qi post (fun u t => VM dC dI cA P u t.heap) (PA 25 P)) args s 0 0 (PA 25 P)) (F0 m 0 ls []) := by
  have C := C
  obtain ⟨hI, hKX, ⟨hx, hb, hml, hown, hts⟩, hr, hlocks⟩ := id C
  have hK := hKX
  intro v1 S H locs ls h hP hS hl
  rw [w_X9_placeOf] at h
  refine lv_iload_n hx hb dX9_placeOf_0 rfl (lv_at hl 1 rfl) ?_
  refine lv_aload_n hx hb dX9_placeOf_1 rfl (lv_at hl 0 rfl) ?_
  refine g_get (v := .int (S.1 0 4)) hx hb hts inG_X9 hown hK hP (kM_lt (rfl : kdM 0 = 9)) (eM9 (rfl : kdM 0 = 9)) rfl 4 (by decide) G_fl_X9_100 rfl rfl dX9_placeOf_2 ?_
  refine lv_icmp_ge (tgt := 12) hx hb dX9_placeOf_5 (by decide) (fun c1 => ?_) (fun c1 => ?_)
  · replace h := h.1 c1
    refine lv_aload_n hx hb dX9_placeOf_12 rfl (lv_at hl 0 rfl) ?_
    refine g_get (v := .int (S.1 0 4)) hx hb hts inG_X9 hown hK hP (kM_lt (rfl : kdM 0 = 9)) (eM9 (rfl : kdM 0 = 9)) rfl 4 (by decide) G_fl_X9_100 rfl rfl dX9_placeOf_13 ?_
    refine lv_iload_n hx hb dX9_placeOf_16 rfl (lv_at hl 1 rfl) ?_
    refine lv_aload_n hx hb dX9_placeOf_17 rfl (lv_at hl 0 rfl) ?_
    refine g_get (v := .int (S.1 0 4)) hx hb hts inG_X9 hown hK hP (kM_lt (rfl : kdM 0 = 9)) (eM9 (rfl : kdM 0 = 9)) rfl 4 (by decide) G_fl_X9_100 rfl rfl dX9_placeOf_18 ?_
    refine lv_isub hx hb dX9_placeOf_21 ?_
    refine lv_aload_n hx hb dX9_placeOf_22 rfl (lv_at hl 0 rfl) ?_
    refine g_get (v := .int (S.1 0 5)) hx hb hts inG_X9 hown hK hP (kM_lt (rfl : kdM 0 = 9)) (eM9 (rfl : kdM 0 = 9)) rfl 5 (by decide) G_fl_X9_103 rfl rfl dX9_placeOf_23 ?_
    refine lv_irem hx hb dX9_placeOf_26 h.1 ?_
    replace h := h.2
    refine lv_iadd hx hb dX9_placeOf_27 ?_
    exact g_iret hx hb hr hlocks h hP hS dX9_placeOf_28
  · replace h := h.2 c1
    refine lv_iload_n hx hb dX9_placeOf_8 rfl (lv_at hl 1 rfl) ?_
    refine lv_goto (tgt := 28) hx hb dX9_placeOf_9 (by decide) ?_
    exact g_iret hx hb hr hlocks h hP hS dX9_placeOf_28
set_option maxRecDepth 100000 in
set_option maxHeartbeats 4000000 in
theorem c_X9_placeOf (l : Launch) {dC : Nat → ClassId} {dI : Nat → Nat → Nat} {cA : Nat → ClassId} {P : Nat → Nat} (hI : PInj 25 P) {v1 : Int32}  {post : Int32 → St → Prop} {S : St} (h : w_X9_placeOf v1 post S) : Met l yX9_placeOf (wW yX9_placeOf cX9_placeOf 2 (some .int)) ({ frames := 0, cells := 0, slots := 0, locals := 0 } : Room) (va_Pc [.ref (P 0), .int v1] (PreM dC dI cA P S)) (va_Qi post (fun u t => VM dC dI cA P u t.heap) (PA 25 P)) 0 0 (PA 25 P) := by
  refine Met.ofW (cc := cX9_placeOf) (maxL := 2) (ret := (some .int)) (by decide) rfl ?_
  intro p e s m args below meth c s₁ B hml hv
  obtain ⟨rfl, hP, hKX⟩ := hv
  have hts : ∀ w ∈ G, w.before [.ref (P 0), .int v1].toArray s = true := fun w hw => atoms_spec (ws := wW yX9_placeOf cX9_placeOf 2 (some .int)) B.pre w (List.mem_cons_of_mem _ hw)
  have C : CtxM dC dI cA P p s m [.ref (P 0), .int v1].toArray meth c cX9_placeOf 2 (some .int) RX9 := ⟨hI, hKX, ⟨B.exec, B.bytes, hml, findClass_of_methodNamed B.named, hts⟩, B.returns, B.notSynchronized⟩
  have hS : va_S (PA 25 P) s.heap s.heap [] := va_S.rf
  have hl := lv_entry ([.ref (P 0), .int v1]) (n := 2) (Nat.le_of_ble_eq_true rfl)
  rw [lg_entry_eq]
  generalize (lg_sl ([.ref (P 0), .int v1]) ++ List.replicate (2 - (lg_sl ([.ref (P 0), .int v1])).length) Slot.unset).toArray = ls at hl ⊢
  have hl : lv_has ls 2 [(0, .ref (P 0)), (1, .int v1)] := hl
  exact e_X9_placeOf C _ _ _ _ _ h  hP hS hl
set_option maxRecDepth 100000 in
set_option maxHeartbeats 4000000 in
theorem e_X9_comes {p : Program} {l : Launch} {e : Env} {s : State} {m : MethodId} {args : Array Value} {below : List Frame} {meth : Method} {c : Code} {dC : Nat → ClassId} {dI : Nat → Nat → Nat} {cA : Nat → ClassId} {P : Nat → Nat} (C : CtxM dC dI cA P p s m args meth c cX9_comes 4 (some .int) RX9) {post : Int32 → St → Prop} : ∀ (v1 : Int32) (v2 : Int32) (v3 : Int32) (S : St) (H : Heap) (locs : List Loc) (ls : Array Slot), w_X9_comes v1 v2 v3 post S → VM dC dI cA P S H → va_S (PA 25 P) s.heap H locs → lv_has ls 4 [(0, .ref (P 0)), (1, .int v1), (2, .int v2), (3, .int v3)] → W p l e ({ frames := 0, cells := 0, slots := 0, locals := 0 } : Room) s m args below meth c H locs 0 0 (MQ below (va_Qi post (fun u t => VM dC dI cA P u t.heap) (PA 25 P)) args s 0 0 (PA 25 P)) (F0 m 0 ls []) := by
  have C := C
  obtain ⟨hI, hKX, ⟨hx, hb, hml, hown, hts⟩, hr, hlocks⟩ := id C
  have hK := hKX
  intro v1 v2 v3 S H locs ls h hP hS hl
  rw [w_X9_comes] at h
  refine lv_aload_n hx hb dX9_comes_0 rfl (lv_at hl 0 rfl) ?_
  refine g_get (v := .ref (P 1)) hx hb hts inG_X9 hown hK hP (kM_lt (rfl : kdM 0 = 9)) (eM9 (rfl : kdM 0 = 9)) rfl 1 (by decide) G_fl_X9_11 rfl rfl dX9_comes_1 ?_
  refine lv_aload_n hx hb dX9_comes_4 rfl (lv_at hl 0 rfl) ?_
  refine g_get (v := .int (S.1 0 0)) hx hb hts inG_X9 hown hK hP (kM_lt (rfl : kdM 0 = 9)) (eM9 (rfl : kdM 0 = 9)) rfl 0 (by decide) G_fl_X9_89 rfl rfl dX9_comes_5 ?_
  refine lv_iload_n hx hb dX9_comes_8 rfl (lv_at hl 1 rfl) ?_
  replace h := h _ rfl
  refine g_ast hx hb hK hI hP hS (kM_lt (rfl : kdM 1 = 10)) 0 (eM10 (rfl : kdM 1 = 10)) rfl h.1 h.2 dX9_comes_9 (fun S2 H locs h hP hS => ?_)
  refine lv_aload_n hx hb dX9_comes_10 rfl (lv_at hl 0 rfl) ?_
  refine g_get (v := .ref (P 2)) hx hb hts inG_X9 hown hK hP (kM_lt (rfl : kdM 0 = 9)) (eM9 (rfl : kdM 0 = 9)) rfl 2 (by decide) G_fl_X9_15 rfl rfl dX9_comes_11 ?_
  refine lv_aload_n hx hb dX9_comes_14 rfl (lv_at hl 0 rfl) ?_
  refine g_get (v := .int (S2.1 0 0)) hx hb hts inG_X9 hown hK hP (kM_lt (rfl : kdM 0 = 9)) (eM9 (rfl : kdM 0 = 9)) rfl 0 (by decide) G_fl_X9_89 rfl rfl dX9_comes_15 ?_
  refine lv_iload_n hx hb dX9_comes_18 rfl (lv_at hl 2 rfl) ?_
  replace h := h _ rfl
  refine g_ast hx hb hK hI hP hS (kM_lt (rfl : kdM 2 = 10)) 0 (eM10 (rfl : kdM 2 = 10)) rfl h.1 h.2 dX9_comes_19 (fun S4 H locs h hP hS => ?_)
  refine lv_aload_n hx hb dX9_comes_20 rfl (lv_at hl 0 rfl) ?_
  refine g_get (v := .ref (P 3)) hx hb hts inG_X9 hown hK hP (kM_lt (rfl : kdM 0 = 9)) (eM9 (rfl : kdM 0 = 9)) rfl 3 (by decide) G_fl_X9_18 rfl rfl dX9_comes_21 ?_
  refine lv_aload_n hx hb dX9_comes_24 rfl (lv_at hl 0 rfl) ?_
  refine g_get (v := .int (S4.1 0 0)) hx hb hts inG_X9 hown hK hP (kM_lt (rfl : kdM 0 = 9)) (eM9 (rfl : kdM 0 = 9)) rfl 0 (by decide) G_fl_X9_89 rfl rfl dX9_comes_25 ?_
  refine lv_iload_n hx hb dX9_comes_28 rfl (lv_at hl 3 rfl) ?_
  replace h := h _ rfl
  refine g_ast hx hb hK hI hP hS (kM_lt (rfl : kdM 3 = 10)) 0 (eM10 (rfl : kdM 3 = 10)) rfl h.1 h.2 dX9_comes_29 (fun S6 H locs h hP hS => ?_)
  refine lv_aload_n hx hb dX9_comes_30 rfl (lv_at hl 0 rfl) ?_
  refine lv_dup hx hb dX9_comes_31 rfl ?_
  refine g_get (v := .int (S6.1 0 0)) hx hb hts inG_X9 hown hK hP (kM_lt (rfl : kdM 0 = 9)) (eM9 (rfl : kdM 0 = 9)) rfl 0 (by decide) G_fl_X9_89 rfl rfl dX9_comes_32 ?_
  refine lv_iconst (v := 1) hx hb dX9_comes_35 (by decide) ?_
  refine lv_iadd hx hb dX9_comes_36 ?_
  replace h := h _ rfl
  refine g_putI hx hb hts inG_X9 tyX9 tyX9_ok nmX9 hown hK hI hP hS (kM_lt (rfl : kdM 0 = 9)) (eM9 (rfl : kdM 0 = 9)) rfl 0 (by decide) G_fl_X9_89 rfl rfl (ty := .int) (by decide +kernel) rfl rfl (Nat.le_of_ble_eq_true rfl) rfl h dX9_comes_37 (fun S8 H locs h hP hS => ?_)
  refine lv_aload_n hx hb dX9_comes_40 rfl (lv_at hl 0 rfl) ?_
  refine g_get (v := .int (S8.1 0 0)) hx hb hts inG_X9 hown hK hP (kM_lt (rfl : kdM 0 = 9)) (eM9 (rfl : kdM 0 = 9)) rfl 0 (by decide) G_fl_X9_89 rfl rfl dX9_comes_41 ?_
  refine lv_iconst (v := 1) hx hb dX9_comes_44 (by decide) ?_
  refine lv_isub hx hb dX9_comes_45 ?_
  exact g_iret hx hb hr hlocks h hP hS dX9_comes_46
set_option maxRecDepth 100000 in
set_option maxHeartbeats 4000000 in
theorem c_X9_comes (l : Launch) {dC : Nat → ClassId} {dI : Nat → Nat → Nat} {cA : Nat → ClassId} {P : Nat → Nat} (hI : PInj 25 P) {v1 : Int32} {v2 : Int32} {v3 : Int32}  {post : Int32 → St → Prop} {S : St} (h : w_X9_comes v1 v2 v3 post S) : Met l yX9_comes (wW yX9_comes cX9_comes 4 (some .int)) ({ frames := 0, cells := 0, slots := 0, locals := 0 } : Room) (va_Pc [.ref (P 0), .int v1, .int v2, .int v3] (PreM dC dI cA P S)) (va_Qi post (fun u t => VM dC dI cA P u t.heap) (PA 25 P)) 0 0 (PA 25 P) := by
  refine Met.ofW (cc := cX9_comes) (maxL := 4) (ret := (some .int)) (by decide) rfl ?_
  intro p e s m args below meth c s₁ B hml hv
  obtain ⟨rfl, hP, hKX⟩ := hv
  have hts : ∀ w ∈ G, w.before [.ref (P 0), .int v1, .int v2, .int v3].toArray s = true := fun w hw => atoms_spec (ws := wW yX9_comes cX9_comes 4 (some .int)) B.pre w (List.mem_cons_of_mem _ hw)
  have C : CtxM dC dI cA P p s m [.ref (P 0), .int v1, .int v2, .int v3].toArray meth c cX9_comes 4 (some .int) RX9 := ⟨hI, hKX, ⟨B.exec, B.bytes, hml, findClass_of_methodNamed B.named, hts⟩, B.returns, B.notSynchronized⟩
  have hS : va_S (PA 25 P) s.heap s.heap [] := va_S.rf
  have hl := lv_entry ([.ref (P 0), .int v1, .int v2, .int v3]) (n := 4) (Nat.le_of_ble_eq_true rfl)
  rw [lg_entry_eq]
  generalize (lg_sl ([.ref (P 0), .int v1, .int v2, .int v3]) ++ List.replicate (4 - (lg_sl ([.ref (P 0), .int v1, .int v2, .int v3])).length) Slot.unset).toArray = ls at hl ⊢
  have hl : lv_has ls 4 [(0, .ref (P 0)), (1, .int v1), (2, .int v2), (3, .int v3)] := hl
  exact e_X9_comes C _ _ _ _ _ _ _ h  hP hS hl
set_option maxRecDepth 100000 in
set_option maxHeartbeats 4000000 in
theorem e_X9_fraction {p : Program} {l : Launch} {e : Env} {s : State} {m : MethodId} {args : Array Value} {below : List Frame} {meth : Method} {c : Code} {dC : Nat → ClassId} {dI : Nat → Nat → Nat} {cA : Nat → ClassId} {P : Nat → Nat} (C : CtxM dC dI cA P p s m args meth c cX9_fraction 4 (some .int) RX9) {post : Int32 → St → Prop} : ∀ (v1 : Int32) (v2 : Int32) (v3 : Int32) (S : St) (H : Heap) (locs : List Loc) (ls : Array Slot), w_X9_fraction v1 v2 v3 post S → VM dC dI cA P S H → va_S (PA 25 P) s.heap H locs → lv_has ls 4 [(0, .ref (P 0)), (1, .int v1), (2, .int v2), (3, .int v3)] → W p l e ({ frames := 2, cells := 0, slots := 0, locals := 45 } : Room) s m args below meth c H locs 0 0 (MQ below (va_Qi post (fun u t => VM dC dI cA P u t.heap) (PA 25 P)) args s 0 0 (PA 25 P)) (F0 m 0 ls []) := by
  have C := C
  obtain ⟨hI, hKX, ⟨hx, hb, hml, hown, hts⟩, hr, hlocks⟩ := id C
  have hK := hKX
  intro v1 v2 v3 S H locs ls h hP hS hl
  rw [w_X9_fraction] at h
  refine lv_iload_n hx hb dX9_fraction_0 rfl (lv_at hl 1 rfl) ?_
  refine lv_i2l hx hb dX9_fraction_1 rfl ?_
  refine lv_lconst (v := 0) hx hb dX9_fraction_2 (by decide) ?_
  refine lv_ldc2 (v := 9999) hx hb hown (hts _ G_co_X9_114) dX9_fraction_3 ?_
  replace h := h _ rfl
  refine va_calli (va_runS (As := [.long _, .long _, .long _]) (rest := []) ⟨hx, hb, hml, hown, hts⟩ (c_X9_isIn l hI h) (va_cwS 3 hts gs_X9_92 rfl rfl rfl hd_X9_isIn ⟨Nat.le_of_ble_eq_true rfl, Nat.le_of_ble_eq_true rfl⟩) (preS_M hKX hP hS) rfl rfl hl.1 rfl (lv_room (Nat.le_of_ble_eq_true rfl)) dX9_fraction_6 ⟨Nat.le_of_ble_eq_true rfl, Nat.le_of_ble_eq_true rfl⟩) hS (fun _ _ h => h) (fun _ h => h) (fun r3 S2 t H locs ht _ h hB _ _ hS => ?_)
  have hP : VM dC dI cA P S2 H := by rw [← ht]; exact hB
  refine lv_if_eq (tgt := 31) hx hb dX9_fraction_9 (by decide) (fun c4 => ?_) (fun c4 => ?_)
  · replace h := h.1 c4
    refine lv_iconst (v := (-1)) hx hb dX9_fraction_31 (by decide) ?_
    exact g_iret hx hb hr hlocks h hP hS dX9_fraction_32
  · replace h := h.2 c4
    refine lv_iload_n hx hb dX9_fraction_12 rfl (lv_at hl 2 rfl) ?_
    refine lv_i2l hx hb dX9_fraction_13 rfl ?_
    refine lv_lconst (v := 1) hx hb dX9_fraction_14 (by decide) ?_
    refine lv_ldc2 (v := 999) hx hb hown (hts _ G_co_X9_116) dX9_fraction_15 ?_
    replace h := h _ rfl
    refine va_calli (va_runS (As := [.long _, .long _, .long _]) (rest := []) ⟨hx, hb, hml, hown, hts⟩ (c_X9_isIn l hI h) (va_cwS 3 hts gs_X9_92 rfl rfl rfl hd_X9_isIn ⟨Nat.le_of_ble_eq_true rfl, Nat.le_of_ble_eq_true rfl⟩) (preS_M hKX hP hS) rfl rfl hl.1 rfl (lv_room (Nat.le_of_ble_eq_true rfl)) dX9_fraction_18 ⟨Nat.le_of_ble_eq_true rfl, Nat.le_of_ble_eq_true rfl⟩) hS (fun _ _ h => h) (fun _ h => h) (fun r7 S6 t H locs ht _ h hB _ _ hS => ?_)
    have hP : VM dC dI cA P S6 H := by rw [← ht]; exact hB
    refine lv_if_eq (tgt := 31) hx hb dX9_fraction_21 (by decide) (fun c8 => ?_) (fun c8 => ?_)
    · replace h := h.1 c8
      refine lv_iconst (v := (-1)) hx hb dX9_fraction_31 (by decide) ?_
      exact g_iret hx hb hr hlocks h hP hS dX9_fraction_32
    · replace h := h.2 c8
      refine lv_iload_n hx hb dX9_fraction_24 rfl (lv_at hl 3 rfl) ?_
      refine va_calli (va_runS (As := [.int _]) (rest := []) ⟨hx, hb, hml, hown, hts⟩ (c_X9_isBase l hI h) (va_cwS 1 hts gs_X9_118 rfl rfl rfl hd_X9_isBase ⟨Nat.le_of_ble_eq_true rfl, Nat.le_of_ble_eq_true rfl⟩) (preS_M hKX hP hS) rfl rfl hl.1 rfl (lv_room (Nat.le_of_ble_eq_true rfl)) dX9_fraction_25 ⟨Nat.le_of_ble_eq_true rfl, Nat.le_of_ble_eq_true rfl⟩) hS (fun _ _ h => h) (fun _ h => h) (fun r10 S9 t H locs ht _ h hB _ _ hS => ?_)
      have hP : VM dC dI cA P S9 H := by rw [← ht]; exact hB
      refine lv_if_ne (tgt := 33) hx hb dX9_fraction_28 (by decide) (fun c11 => ?_) (fun c11 => ?_)
      · replace h := h.2 c11
        refine lv_aload_n hx hb dX9_fraction_33 rfl (lv_at hl 0 rfl) ?_
        refine g_get (v := .int (S9.1 0 0)) hx hb hts inG_X9 hown hK hP (kM_lt (rfl : kdM 0 = 9)) (eM9 (rfl : kdM 0 = 9)) rfl 0 (by decide) G_fl_X9_89 rfl rfl dX9_fraction_34 ?_
        refine lv_bipush (v := 8) hx hb dX9_fraction_37 (by decide) ?_
        refine lv_icmp_ne (tgt := 47) hx hb dX9_fraction_39 (by decide) (fun c12 => ?_) (fun c12 => ?_)
        · replace h := h.2 c12
          refine lv_aload_n hx hb dX9_fraction_47 rfl (lv_at hl 0 rfl) ?_
          refine lv_iload_n hx hb dX9_fraction_48 rfl (lv_at hl 1 rfl) ?_
          refine lv_iload_n hx hb dX9_fraction_49 rfl (lv_at hl 2 rfl) ?_
          refine lv_iload_n hx hb dX9_fraction_50 rfl (lv_at hl 3 rfl) ?_
          refine va_calli (va_runV (As := [.int _, .int _, .int _]) (rest := []) ⟨hx, hb, hml, hown, hts⟩ (c_X9_comes l hI h) (cwV 3 hts gv_X9_122 rfl rfl rfl hv_X9_comes ⟨Nat.le_of_ble_eq_true rfl, Nat.le_of_ble_eq_true rfl⟩) (preV_M hKX hP hS (kM_lt (rfl : kdM 0 = 9)) (eM9 (rfl : kdM 0 = 9)) rfl) rfl rfl hl.1 rfl (lv_room (Nat.le_of_ble_eq_true rfl)) dX9_fraction_51 ⟨Nat.le_of_ble_eq_true rfl, Nat.le_of_ble_eq_true rfl⟩) hS (fun _ _ h => h) (fun _ h => h) (fun r14 S13 t H locs ht _ h hB _ _ hS => ?_)
          have hP : VM dC dI cA P S13 H := by rw [← ht]; exact hB
          exact g_iret hx hb hr hlocks h hP hS dX9_fraction_54
        · replace h := h.1 c12
          refine lv_bipush (v := (-3)) hx hb dX9_fraction_42 (by decide) ?_
          refine lv_goto (tgt := 54) hx hb dX9_fraction_44 (by decide) ?_
          exact g_iret hx hb hr hlocks h hP hS dX9_fraction_54
      · replace h := h.1 c11
        refine lv_iconst (v := (-1)) hx hb dX9_fraction_31 (by decide) ?_
        exact g_iret hx hb hr hlocks h hP hS dX9_fraction_32
set_option maxRecDepth 100000 in
set_option maxHeartbeats 4000000 in
theorem c_X9_fraction (l : Launch) {dC : Nat → ClassId} {dI : Nat → Nat → Nat} {cA : Nat → ClassId} {P : Nat → Nat} (hI : PInj 25 P) {v1 : Int32} {v2 : Int32} {v3 : Int32}  {post : Int32 → St → Prop} {S : St} (h : w_X9_fraction v1 v2 v3 post S) : Met l yX9_fraction (wW yX9_fraction cX9_fraction 4 (some .int)) ({ frames := 2, cells := 0, slots := 0, locals := 45 } : Room) (va_Pc [.ref (P 0), .int v1, .int v2, .int v3] (PreM dC dI cA P S)) (va_Qi post (fun u t => VM dC dI cA P u t.heap) (PA 25 P)) 0 0 (PA 25 P) := by
  refine Met.ofW (cc := cX9_fraction) (maxL := 4) (ret := (some .int)) (by decide) rfl ?_
  intro p e s m args below meth c s₁ B hml hv
  obtain ⟨rfl, hP, hKX⟩ := hv
  have hts : ∀ w ∈ G, w.before [.ref (P 0), .int v1, .int v2, .int v3].toArray s = true := fun w hw => atoms_spec (ws := wW yX9_fraction cX9_fraction 4 (some .int)) B.pre w (List.mem_cons_of_mem _ hw)
  have C : CtxM dC dI cA P p s m [.ref (P 0), .int v1, .int v2, .int v3].toArray meth c cX9_fraction 4 (some .int) RX9 := ⟨hI, hKX, ⟨B.exec, B.bytes, hml, findClass_of_methodNamed B.named, hts⟩, B.returns, B.notSynchronized⟩
  have hS : va_S (PA 25 P) s.heap s.heap [] := va_S.rf
  have hl := lv_entry ([.ref (P 0), .int v1, .int v2, .int v3]) (n := 4) (Nat.le_of_ble_eq_true rfl)
  rw [lg_entry_eq]
  generalize (lg_sl ([.ref (P 0), .int v1, .int v2, .int v3]) ++ List.replicate (4 - (lg_sl ([.ref (P 0), .int v1, .int v2, .int v3])).length) Slot.unset).toArray = ls at hl ⊢
  have hl : lv_has ls 4 [(0, .ref (P 0)), (1, .int v1), (2, .int v2), (3, .int v3)] := hl
  exact e_X9_fraction C _ _ _ _ _ _ _ h  hP hS hl
set_option maxRecDepth 100000 in
set_option maxHeartbeats 4000000 in
theorem b_X9_drop_12 {p : Program} {l : Launch} {e : Env} {s : State} {m : MethodId} {args : Array Value} {below : List Frame} {meth : Method} {c : Code} {dC : Nat → ClassId} {dI : Nat → Nat → Nat} {cA : Nat → ClassId} {P : Nat → Nat} (C : CtxM dC dI cA P p s m args meth c cX9_drop 3 (some .int) RX9) {post : Int32 → St → Prop}  : ∀ (n : Nat) (v2 : Int32) (S : St) (H : Heap) (locs : List Loc) (ls : Array Slot), w_X9_drop_12 post n v2 S → VM dC dI cA P S H → va_S (PA 25 P) s.heap H locs → lv_has ls 3 [(0, .ref (P 0)), (2, .int v2)] → W p l e ({ frames := 2, cells := 0, slots := 0, locals := 46 } : Room) s m args below meth c H locs 0 0 (MQ below (va_Qi post (fun u t => VM dC dI cA P u t.heap) (PA 25 P)) args s 0 0 (PA 25 P)) (F0 m 12 ls []) := by
  have C := C
  obtain ⟨hI, hKX, ⟨hx, hb, hml, hown, hts⟩, hr, hlocks⟩ := id C
  have hK := hKX
  intro n
  induction n with
  | zero =>
    intro v2 S H locs ls h hP hS hl
    simp only [w_X9_drop_12] at h
  | succ n ih =>
    intro v2 S H locs ls h hP hS hl
    rw [w_X9_drop_12] at h
    refine lv_iload_n hx hb dX9_drop_12 rfl (lv_at hl 1 rfl) ?_
    refine lv_aload_n hx hb dX9_drop_13 rfl (lv_at hl 0 rfl) ?_
    refine g_get (v := .int (S.1 0 0)) hx hb hts inG_X9 hown hK hP (kM_lt (rfl : kdM 0 = 9)) (eM9 (rfl : kdM 0 = 9)) rfl 0 (by decide) G_fl_X9_89 rfl rfl dX9_drop_14 ?_
    refine lv_iconst (v := 1) hx hb dX9_drop_17 (by decide) ?_
    refine lv_isub hx hb dX9_drop_18 ?_
    refine lv_icmp_ge (tgt := 70) hx hb dX9_drop_19 (by decide) (fun c4 => ?_) (fun c4 => ?_)
    · replace h := h.1 c4
      refine lv_aload_n hx hb dX9_drop_70 rfl (lv_at hl 0 rfl) ?_
      refine lv_dup hx hb dX9_drop_71 rfl ?_
      refine g_get (v := .int (S.1 0 0)) hx hb hts inG_X9 hown hK hP (kM_lt (rfl : kdM 0 = 9)) (eM9 (rfl : kdM 0 = 9)) rfl 0 (by decide) G_fl_X9_89 rfl rfl dX9_drop_72 ?_
      refine lv_iconst (v := 1) hx hb dX9_drop_75 (by decide) ?_
      refine lv_isub hx hb dX9_drop_76 ?_
      replace h := h _ rfl
      refine g_putI hx hb hts inG_X9 tyX9 tyX9_ok nmX9 hown hK hI hP hS (kM_lt (rfl : kdM 0 = 9)) (eM9 (rfl : kdM 0 = 9)) rfl 0 (by decide) G_fl_X9_89 rfl rfl (ty := .int) (by decide +kernel) rfl rfl (Nat.le_of_ble_eq_true rfl) rfl h dX9_drop_77 (fun S6 H locs h hP hS => ?_)
      refine lv_aload_n hx hb dX9_drop_80 rfl (lv_at hl 0 rfl) ?_
      refine g_get (v := .int (S6.1 0 0)) hx hb hts inG_X9 hown hK hP (kM_lt (rfl : kdM 0 = 9)) (eM9 (rfl : kdM 0 = 9)) rfl 0 (by decide) G_fl_X9_89 rfl rfl dX9_drop_81 ?_
      exact g_iret hx hb hr hlocks h hP hS dX9_drop_84
    · replace h := h.2 c4
      refine lv_aload_n hx hb dX9_drop_22 rfl (lv_at hl 0 rfl) ?_
      refine g_get (v := .ref (P 1)) hx hb hts inG_X9 hown hK hP (kM_lt (rfl : kdM 0 = 9)) (eM9 (rfl : kdM 0 = 9)) rfl 1 (by decide) G_fl_X9_11 rfl rfl dX9_drop_23 ?_
      refine lv_iload_n hx hb dX9_drop_26 rfl (lv_at hl 1 rfl) ?_
      refine lv_aload_n hx hb dX9_drop_27 rfl (lv_at hl 0 rfl) ?_
      refine g_get (v := .ref (P 1)) hx hb hts inG_X9 hown hK hP (kM_lt (rfl : kdM 0 = 9)) (eM9 (rfl : kdM 0 = 9)) rfl 1 (by decide) G_fl_X9_11 rfl rfl dX9_drop_28 ?_
      refine lv_iload_n hx hb dX9_drop_31 rfl (lv_at hl 1 rfl) ?_
      refine lv_iconst (v := 1) hx hb dX9_drop_32 (by decide) ?_
      refine lv_iadd hx hb dX9_drop_33 ?_
      replace h := h _ rfl
      refine g_ald hx hb hK hP (kM_lt (rfl : kdM 1 = 10)) 0 (eM10 (rfl : kdM 1 = 10)) rfl h.1 dX9_drop_34 ?_
      replace h := h.2
      replace h := h _ rfl
      refine g_ast hx hb hK hI hP hS (kM_lt (rfl : kdM 1 = 10)) 0 (eM10 (rfl : kdM 1 = 10)) rfl h.1 h.2 dX9_drop_35 (fun S9 H locs h hP hS => ?_)
      refine lv_aload_n hx hb dX9_drop_36 rfl (lv_at hl 0 rfl) ?_
      refine g_get (v := .ref (P 2)) hx hb hts inG_X9 hown hK hP (kM_lt (rfl : kdM 0 = 9)) (eM9 (rfl : kdM 0 = 9)) rfl 2 (by decide) G_fl_X9_15 rfl rfl dX9_drop_37 ?_
      refine lv_iload_n hx hb dX9_drop_40 rfl (lv_at hl 1 rfl) ?_
      refine lv_aload_n hx hb dX9_drop_41 rfl (lv_at hl 0 rfl) ?_
      refine g_get (v := .ref (P 2)) hx hb hts inG_X9 hown hK hP (kM_lt (rfl : kdM 0 = 9)) (eM9 (rfl : kdM 0 = 9)) rfl 2 (by decide) G_fl_X9_15 rfl rfl dX9_drop_42 ?_
      refine lv_iload_n hx hb dX9_drop_45 rfl (lv_at hl 1 rfl) ?_
      refine lv_iconst (v := 1) hx hb dX9_drop_46 (by decide) ?_
      refine lv_iadd hx hb dX9_drop_47 ?_
      replace h := h _ rfl
      refine g_ald hx hb hK hP (kM_lt (rfl : kdM 2 = 10)) 0 (eM10 (rfl : kdM 2 = 10)) rfl h.1 dX9_drop_48 ?_
      replace h := h.2
      replace h := h _ rfl
      refine g_ast hx hb hK hI hP hS (kM_lt (rfl : kdM 2 = 10)) 0 (eM10 (rfl : kdM 2 = 10)) rfl h.1 h.2 dX9_drop_49 (fun S12 H locs h hP hS => ?_)
      refine lv_aload_n hx hb dX9_drop_50 rfl (lv_at hl 0 rfl) ?_
      refine g_get (v := .ref (P 3)) hx hb hts inG_X9 hown hK hP (kM_lt (rfl : kdM 0 = 9)) (eM9 (rfl : kdM 0 = 9)) rfl 3 (by decide) G_fl_X9_18 rfl rfl dX9_drop_51 ?_
      refine lv_iload_n hx hb dX9_drop_54 rfl (lv_at hl 1 rfl) ?_
      refine lv_aload_n hx hb dX9_drop_55 rfl (lv_at hl 0 rfl) ?_
      refine g_get (v := .ref (P 3)) hx hb hts inG_X9 hown hK hP (kM_lt (rfl : kdM 0 = 9)) (eM9 (rfl : kdM 0 = 9)) rfl 3 (by decide) G_fl_X9_18 rfl rfl dX9_drop_56 ?_
      refine lv_iload_n hx hb dX9_drop_59 rfl (lv_at hl 1 rfl) ?_
      refine lv_iconst (v := 1) hx hb dX9_drop_60 (by decide) ?_
      refine lv_iadd hx hb dX9_drop_61 ?_
      replace h := h _ rfl
      refine g_ald hx hb hK hP (kM_lt (rfl : kdM 3 = 10)) 0 (eM10 (rfl : kdM 3 = 10)) rfl h.1 dX9_drop_62 ?_
      replace h := h.2
      replace h := h _ rfl
      refine g_ast hx hb hK hI hP hS (kM_lt (rfl : kdM 3 = 10)) 0 (eM10 (rfl : kdM 3 = 10)) rfl h.1 h.2 dX9_drop_63 (fun S15 H locs h hP hS => ?_)
      obtain ⟨x16, ex16⟩ : ∃ y : Int32, y = v2 + 1 := ⟨_, rfl⟩
      replace h := h x16 ex16
      refine lv_iinc (v := x16) (lv' := [(2, .int x16), (0, .ref (P 0))]) hx hb dX9_drop_64 hl (k := 1) rfl (by rw [ex16]; rfl) (by decide) rfl (fun ls hl => ?_)
      refine lv_goto (tgt := 12) hx hb dX9_drop_67 (by decide) ?_
      exact ih _ _ _ _ _ h  hP hS (lv_sub hl [1, 0] rfl)
set_option maxRecDepth 100000 in
set_option maxHeartbeats 4000000 in
theorem e_X9_drop {p : Program} {l : Launch} {e : Env} {s : State} {m : MethodId} {args : Array Value} {below : List Frame} {meth : Method} {c : Code} {dC : Nat → ClassId} {dI : Nat → Nat → Nat} {cA : Nat → ClassId} {P : Nat → Nat} (C : CtxM dC dI cA P p s m args meth c cX9_drop 3 (some .int) RX9) {post : Int32 → St → Prop} : ∀ (v1 : Int32) (S : St) (H : Heap) (locs : List Loc) (ls : Array Slot), w_X9_drop v1 post S → VM dC dI cA P S H → va_S (PA 25 P) s.heap H locs → lv_has ls 3 [(0, .ref (P 0)), (1, .int v1)] → W p l e ({ frames := 2, cells := 0, slots := 0, locals := 46 } : Room) s m args below meth c H locs 0 0 (MQ below (va_Qi post (fun u t => VM dC dI cA P u t.heap) (PA 25 P)) args s 0 0 (PA 25 P)) (F0 m 0 ls []) := by
  have C := C
  obtain ⟨hI, hKX, ⟨hx, hb, hml, hown, hts⟩, hr, hlocks⟩ := id C
  have hK := hKX
  intro v1 S H locs ls h hP hS hl
  rw [w_X9_drop] at h
  refine lv_aload_n hx hb dX9_drop_0 rfl (lv_at hl 0 rfl) ?_
  refine lv_iload_n hx hb dX9_drop_1 rfl (lv_at hl 1 rfl) ?_
  refine va_calli (va_runV (As := [.int _]) (rest := []) ⟨hx, hb, hml, hown, hts⟩ (c_X9_isFraction l hI h) (cwV 1 hts gv_X9_126 rfl rfl rfl hv_X9_isFraction ⟨Nat.le_of_ble_eq_true rfl, Nat.le_of_ble_eq_true rfl⟩) (preV_M hKX hP hS (kM_lt (rfl : kdM 0 = 9)) (eM9 (rfl : kdM 0 = 9)) rfl) rfl rfl hl.1 rfl (lv_room (Nat.le_of_ble_eq_true rfl)) dX9_drop_2 ⟨Nat.le_of_ble_eq_true rfl, Nat.le_of_ble_eq_true rfl⟩) hS (fun _ _ h => h) (fun _ h => h) (fun r2 S1 t H locs ht _ h hB _ _ hS => ?_)
  have hP : VM dC dI cA P S1 H := by rw [← ht]; exact hB
  refine lv_if_ne (tgt := 10) hx hb dX9_drop_5 (by decide) (fun c3 => ?_) (fun c3 => ?_)
  · replace h := h.2 c3
    refine lv_iload_n hx hb dX9_drop_10 rfl (lv_at hl 1 rfl) ?_
    refine lv_istore_n (lv' := [(2, .int v1), (0, .ref (P 0)), (1, .int v1)]) hx hb dX9_drop_11 rfl hl (by decide) rfl (fun ls hl => ?_)
    obtain ⟨n17, h⟩ := h
    exact b_X9_drop_12 C n17 _ _ _ _ _ h  hP hS (lv_sub hl [1, 0] rfl)
  · replace h := h.1 c3
    refine lv_iconst (v := (-1)) hx hb dX9_drop_8 (by decide) ?_
    exact g_iret hx hb hr hlocks h hP hS dX9_drop_9
set_option maxRecDepth 100000 in
set_option maxHeartbeats 4000000 in
theorem c_X9_drop (l : Launch) {dC : Nat → ClassId} {dI : Nat → Nat → Nat} {cA : Nat → ClassId} {P : Nat → Nat} (hI : PInj 25 P) {v1 : Int32}  {post : Int32 → St → Prop} {S : St} (h : w_X9_drop v1 post S) : Met l yX9_drop (wW yX9_drop cX9_drop 3 (some .int)) ({ frames := 2, cells := 0, slots := 0, locals := 46 } : Room) (va_Pc [.ref (P 0), .int v1] (PreM dC dI cA P S)) (va_Qi post (fun u t => VM dC dI cA P u t.heap) (PA 25 P)) 0 0 (PA 25 P) := by
  refine Met.ofW (cc := cX9_drop) (maxL := 3) (ret := (some .int)) (by decide) rfl ?_
  intro p e s m args below meth c s₁ B hml hv
  obtain ⟨rfl, hP, hKX⟩ := hv
  have hts : ∀ w ∈ G, w.before [.ref (P 0), .int v1].toArray s = true := fun w hw => atoms_spec (ws := wW yX9_drop cX9_drop 3 (some .int)) B.pre w (List.mem_cons_of_mem _ hw)
  have C : CtxM dC dI cA P p s m [.ref (P 0), .int v1].toArray meth c cX9_drop 3 (some .int) RX9 := ⟨hI, hKX, ⟨B.exec, B.bytes, hml, findClass_of_methodNamed B.named, hts⟩, B.returns, B.notSynchronized⟩
  have hS : va_S (PA 25 P) s.heap s.heap [] := va_S.rf
  have hl := lv_entry ([.ref (P 0), .int v1]) (n := 3) (Nat.le_of_ble_eq_true rfl)
  rw [lg_entry_eq]
  generalize (lg_sl ([.ref (P 0), .int v1]) ++ List.replicate (3 - (lg_sl ([.ref (P 0), .int v1])).length) Slot.unset).toArray = ls at hl ⊢
  have hl : lv_has ls 3 [(0, .ref (P 0)), (1, .int v1)] := hl
  exact e_X9_drop C _ _ _ _ _ h  hP hS hl
set_option maxRecDepth 100000 in
set_option maxHeartbeats 4000000 in
theorem e_X9_multiply {p : Program} {l : Launch} {e : Env} {s : State} {m : MethodId} {args : Array Value} {below : List Frame} {meth : Method} {c : Code} {dC : Nat → ClassId} {dI : Nat → Nat → Nat} {cA : Nat → ClassId} {P : Nat → Nat} (C : CtxM dC dI cA P p s m args meth c cX9_multiply 3 (some .int) RX9) {post : Int32 → St → Prop} : ∀ (v1 : Int32) (v2 : Int32) (S : St) (H : Heap) (locs : List Loc) (ls : Array Slot), w_X9_multiply v1 v2 post S → VM dC dI cA P S H → va_S (PA 25 P) s.heap H locs → lv_has ls 3 [(0, .ref (P 0)), (1, .int v1), (2, .int v2)] → W p l e ({ frames := 2, cells := 0, slots := 0, locals := 46 } : Room) s m args below meth c H locs 0 0 (MQ below (va_Qi post (fun u t => VM dC dI cA P u t.heap) (PA 25 P)) args s 0 0 (PA 25 P)) (F0 m 0 ls []) := by
  have C := C
  obtain ⟨hI, hKX, ⟨hx, hb, hml, hown, hts⟩, hr, hlocks⟩ := id C
  have hK := hKX
  intro v1 v2 S H locs ls h hP hS hl
  rw [w_X9_multiply] at h
  refine lv_aload_n hx hb dX9_multiply_0 rfl (lv_at hl 0 rfl) ?_
  refine lv_iload_n hx hb dX9_multiply_1 rfl (lv_at hl 1 rfl) ?_
  refine va_calli (va_runV (As := [.int _]) (rest := []) ⟨hx, hb, hml, hown, hts⟩ (c_X9_isFraction l hI h) (cwV 1 hts gv_X9_126 rfl rfl rfl hv_X9_isFraction ⟨Nat.le_of_ble_eq_true rfl, Nat.le_of_ble_eq_true rfl⟩) (preV_M hKX hP hS (kM_lt (rfl : kdM 0 = 9)) (eM9 (rfl : kdM 0 = 9)) rfl) rfl rfl hl.1 rfl (lv_room (Nat.le_of_ble_eq_true rfl)) dX9_multiply_2 ⟨Nat.le_of_ble_eq_true rfl, Nat.le_of_ble_eq_true rfl⟩) hS (fun _ _ h => h) (fun _ h => h) (fun r2 S1 t H locs ht _ h hB _ _ hS => ?_)
  have hP : VM dC dI cA P S1 H := by rw [← ht]; exact hB
  refine lv_if_eq (tgt := 20) hx hb dX9_multiply_5 (by decide) (fun c3 => ?_) (fun c3 => ?_)
  · replace h := h.1 c3
    refine lv_iconst (v := (-1)) hx hb dX9_multiply_20 (by decide) ?_
    exact g_iret hx hb hr hlocks h hP hS dX9_multiply_21
  · replace h := h.2 c3
    refine lv_iload_n hx hb dX9_multiply_8 rfl (lv_at hl 2 rfl) ?_
    refine lv_i2l hx hb dX9_multiply_9 rfl ?_
    refine lv_lconst (v := 0) hx hb dX9_multiply_10 (by decide) ?_
    refine lv_ldc2 (v := 999) hx hb hown (hts _ G_co_X9_116) dX9_multiply_11 ?_
    replace h := h _ rfl
    refine va_calli (va_runS (As := [.long _, .long _, .long _]) (rest := []) ⟨hx, hb, hml, hown, hts⟩ (c_X9_isIn l hI h) (va_cwS 3 hts gs_X9_92 rfl rfl rfl hd_X9_isIn ⟨Nat.le_of_ble_eq_true rfl, Nat.le_of_ble_eq_true rfl⟩) (preS_M hKX hP hS) rfl rfl hl.1 rfl (lv_room (Nat.le_of_ble_eq_true rfl)) dX9_multiply_14 ⟨Nat.le_of_ble_eq_true rfl, Nat.le_of_ble_eq_true rfl⟩) hS (fun _ _ h => h) (fun _ h => h) (fun r6 S5 t H locs ht _ h hB _ _ hS => ?_)
    have hP : VM dC dI cA P S5 H := by rw [← ht]; exact hB
    refine lv_if_ne (tgt := 22) hx hb dX9_multiply_17 (by decide) (fun c7 => ?_) (fun c7 => ?_)
    · replace h := h.2 c7
      refine lv_aload_n hx hb dX9_multiply_22 rfl (lv_at hl 0 rfl) ?_
      refine g_get (v := .ref (P 1)) hx hb hts inG_X9 hown hK hP (kM_lt (rfl : kdM 0 = 9)) (eM9 (rfl : kdM 0 = 9)) rfl 1 (by decide) G_fl_X9_11 rfl rfl dX9_multiply_23 ?_
      refine lv_iload_n hx hb dX9_multiply_26 rfl (lv_at hl 1 rfl) ?_
      refine g_ald hx hb hK hP (kM_lt (rfl : kdM 1 = 10)) 0 (eM10 (rfl : kdM 1 = 10)) rfl h.1 dX9_multiply_27 ?_
      replace h := h.2
      refine lv_i2l hx hb dX9_multiply_28 rfl ?_
      refine lv_iload_n hx hb dX9_multiply_29 rfl (lv_at hl 2 rfl) ?_
      refine lv_i2l hx hb dX9_multiply_30 rfl ?_
      refine lv_lmul hx hb dX9_multiply_31 ?_
      refine lv_ldc2 (v := 9999) hx hb hown (hts _ G_co_X9_114) dX9_multiply_32 ?_
      refine W.lcmp hx hb dX9_multiply_35 ?_
      refine lv_if_le (tgt := 42) hx hb dX9_multiply_36 (by decide) (fun c8 => ?_) (fun c8 => ?_)
      · replace h := h.1 ((lg_cmp_le _ _).mp c8)
        refine lv_aload_n hx hb dX9_multiply_42 rfl (lv_at hl 0 rfl) ?_
        refine g_get (v := .ref (P 1)) hx hb hts inG_X9 hown hK hP (kM_lt (rfl : kdM 0 = 9)) (eM9 (rfl : kdM 0 = 9)) rfl 1 (by decide) G_fl_X9_11 rfl rfl dX9_multiply_43 ?_
        refine lv_iload_n hx hb dX9_multiply_46 rfl (lv_at hl 1 rfl) ?_
        refine lv_dup2_11 hx hb dX9_multiply_47 rfl rfl ?_
        refine g_ald hx hb hK hP (kM_lt (rfl : kdM 1 = 10)) 0 (eM10 (rfl : kdM 1 = 10)) rfl h.1 dX9_multiply_48 ?_
        replace h := h.2
        refine lv_iload_n hx hb dX9_multiply_49 rfl (lv_at hl 2 rfl) ?_
        refine lv_imul hx hb dX9_multiply_50 ?_
        replace h := h _ rfl
        refine g_ast hx hb hK hI hP hS (kM_lt (rfl : kdM 1 = 10)) 0 (eM10 (rfl : kdM 1 = 10)) rfl h.1 h.2 dX9_multiply_51 (fun S10 H locs h hP hS => ?_)
        refine lv_aload_n hx hb dX9_multiply_52 rfl (lv_at hl 0 rfl) ?_
        refine g_get (v := .ref (P 1)) hx hb hts inG_X9 hown hK hP (kM_lt (rfl : kdM 0 = 9)) (eM9 (rfl : kdM 0 = 9)) rfl 1 (by decide) G_fl_X9_11 rfl rfl dX9_multiply_53 ?_
        refine lv_iload_n hx hb dX9_multiply_56 rfl (lv_at hl 1 rfl) ?_
        refine g_ald hx hb hK hP (kM_lt (rfl : kdM 1 = 10)) 0 (eM10 (rfl : kdM 1 = 10)) rfl h.1 dX9_multiply_57 ?_
        replace h := h.2
        exact g_iret hx hb hr hlocks h hP hS dX9_multiply_58
      · replace h := h.2 (fun z => c8 ((lg_cmp_le _ _).mpr z))
        refine lv_bipush (v := (-6)) hx hb dX9_multiply_39 (by decide) ?_
        exact g_iret hx hb hr hlocks h hP hS dX9_multiply_41
    · replace h := h.1 c7
      refine lv_iconst (v := (-1)) hx hb dX9_multiply_20 (by decide) ?_
      exact g_iret hx hb hr hlocks h hP hS dX9_multiply_21
set_option maxRecDepth 100000 in
set_option maxHeartbeats 4000000 in
theorem c_X9_multiply (l : Launch) {dC : Nat → ClassId} {dI : Nat → Nat → Nat} {cA : Nat → ClassId} {P : Nat → Nat} (hI : PInj 25 P) {v1 : Int32} {v2 : Int32}  {post : Int32 → St → Prop} {S : St} (h : w_X9_multiply v1 v2 post S) : Met l yX9_multiply (wW yX9_multiply cX9_multiply 3 (some .int)) ({ frames := 2, cells := 0, slots := 0, locals := 46 } : Room) (va_Pc [.ref (P 0), .int v1, .int v2] (PreM dC dI cA P S)) (va_Qi post (fun u t => VM dC dI cA P u t.heap) (PA 25 P)) 0 0 (PA 25 P) := by
  refine Met.ofW (cc := cX9_multiply) (maxL := 3) (ret := (some .int)) (by decide) rfl ?_
  intro p e s m args below meth c s₁ B hml hv
  obtain ⟨rfl, hP, hKX⟩ := hv
  have hts : ∀ w ∈ G, w.before [.ref (P 0), .int v1, .int v2].toArray s = true := fun w hw => atoms_spec (ws := wW yX9_multiply cX9_multiply 3 (some .int)) B.pre w (List.mem_cons_of_mem _ hw)
  have C : CtxM dC dI cA P p s m [.ref (P 0), .int v1, .int v2].toArray meth c cX9_multiply 3 (some .int) RX9 := ⟨hI, hKX, ⟨B.exec, B.bytes, hml, findClass_of_methodNamed B.named, hts⟩, B.returns, B.notSynchronized⟩
  have hS : va_S (PA 25 P) s.heap s.heap [] := va_S.rf
  have hl := lv_entry ([.ref (P 0), .int v1, .int v2]) (n := 3) (Nat.le_of_ble_eq_true rfl)
  rw [lg_entry_eq]
  generalize (lg_sl ([.ref (P 0), .int v1, .int v2]) ++ List.replicate (3 - (lg_sl ([.ref (P 0), .int v1, .int v2])).length) Slot.unset).toArray = ls at hl ⊢
  have hl : lv_has ls 3 [(0, .ref (P 0)), (1, .int v1), (2, .int v2)] := hl
  exact e_X9_multiply C _ _ _ _ _ _ h  hP hS hl
set_option maxRecDepth 100000 in
set_option maxHeartbeats 4000000 in
theorem e_X9_comesLowest {p : Program} {l : Launch} {e : Env} {s : State} {m : MethodId} {args : Array Value} {below : List Frame} {meth : Method} {c : Code} {dC : Nat → ClassId} {dI : Nat → Nat → Nat} {cA : Nat → ClassId} {P : Nat → Nat} (C : CtxM dC dI cA P p s m args meth c cX9_comesLowest 8 (some .int) RX9) {post : Int32 → St → Prop} : ∀ (v1 : Int64) (v3 : Int64) (v5 : Int32) (S : St) (H : Heap) (locs : List Loc) (ls : Array Slot), w_X9_comesLowest v1 v3 v5 post S → VM dC dI cA P S H → va_S (PA 25 P) s.heap H locs → lv_has ls 8 [(0, .ref (P 0)), (1, .long v1), (3, .long v3), (5, .int v5)] → W p l e ({ frames := 1, cells := 0, slots := 0, locals := 29 } : Room) s m args below meth c H locs 0 0 (MQ below (va_Qi post (fun u t => VM dC dI cA P u t.heap) (PA 25 P)) args s 0 0 (PA 25 P)) (F0 m 0 ls []) := by
  have C := C
  obtain ⟨hI, hKX, ⟨hx, hb, hml, hown, hts⟩, hr, hlocks⟩ := id C
  have hK := hKX
  intro v1 v3 v5 S H locs ls h hP hS hl
  rw [w_X9_comesLowest] at h
  refine lv_lload_n hx hb dX9_comesLowest_0 rfl (lv_at hl 1 rfl) ?_
  refine lv_lload_n hx hb dX9_comesLowest_1 rfl (lv_at hl 2 rfl) ?_
  refine va_calll (va_runS (As := [.long _, .long _]) (rest := []) ⟨hx, hb, hml, hown, hts⟩ (c_X9_divisor l hI h) (va_cwS 2 hts gs_X9_129 rfl rfl rfl hd_X9_divisor ⟨Nat.le_of_ble_eq_true rfl, Nat.le_of_ble_eq_true rfl⟩) (preS_M hKX hP hS) rfl rfl hl.1 rfl (lv_room (Nat.le_of_ble_eq_true rfl)) dX9_comesLowest_2 ⟨Nat.le_of_ble_eq_true rfl, Nat.le_of_ble_eq_true rfl⟩) hS (fun _ _ h => h) (fun _ h => h) (fun r2 S1 t H locs ht _ h hB _ _ hS => ?_)
  have hP : VM dC dI cA P S1 H := by rw [← ht]; exact hB
  refine lv_lstore (lv' := [(6, .long r2), (0, .ref (P 0)), (1, .long v1), (3, .long v3), (5, .int v5)]) hx hb dX9_comesLowest_5 hl (by decide) rfl (fun ls hl => ?_)
  refine lv_lload_n hx hb dX9_comesLowest_7 rfl (lv_at hl 2 rfl) ?_
  refine lv_lload hx hb dX9_comesLowest_8 (lv_at hl 0 rfl) ?_
  refine lv_ldiv hx hb dX9_comesLowest_10 h.1 ?_
  replace h := h.2
  refine lv_ldc2 (v := 9999) hx hb hown (hts _ G_co_X9_114) dX9_comesLowest_11 ?_
  refine W.lcmp hx hb dX9_comesLowest_14 ?_
  refine lv_if_gt (tgt := 29) hx hb dX9_comesLowest_15 (by decide) (fun c3 => ?_) (fun c3 => ?_)
  · replace h := h.1 ((lg_cmp_gt _ _).mp c3)
    refine lv_bipush (v := (-6)) hx hb dX9_comesLowest_29 (by decide) ?_
    exact g_iret hx hb hr hlocks h hP hS dX9_comesLowest_31
  · replace h := h.2 (fun z => c3 ((lg_cmp_gt _ _).mpr z))
    refine lv_lload_n hx hb dX9_comesLowest_18 rfl (lv_at hl 3 rfl) ?_
    refine lv_lload hx hb dX9_comesLowest_19 (lv_at hl 0 rfl) ?_
    refine lv_ldiv hx hb dX9_comesLowest_21 h.1 ?_
    replace h := h.2
    refine lv_ldc2 (v := 999) hx hb hown (hts _ G_co_X9_116) dX9_comesLowest_22 ?_
    refine W.lcmp hx hb dX9_comesLowest_25 ?_
    refine lv_if_le (tgt := 32) hx hb dX9_comesLowest_26 (by decide) (fun c4 => ?_) (fun c4 => ?_)
    · replace h := h.1 ((lg_cmp_le _ _).mp c4)
      refine lv_aload_n hx hb dX9_comesLowest_32 rfl (lv_at hl 1 rfl) ?_
      refine g_get (v := .int (S1.1 0 0)) hx hb hts inG_X9 hown hK hP (kM_lt (rfl : kdM 0 = 9)) (eM9 (rfl : kdM 0 = 9)) rfl 0 (by decide) G_fl_X9_89 rfl rfl dX9_comesLowest_33 ?_
      refine lv_bipush (v := 8) hx hb dX9_comesLowest_36 (by decide) ?_
      refine lv_icmp_ne (tgt := 46) hx hb dX9_comesLowest_38 (by decide) (fun c5 => ?_) (fun c5 => ?_)
      · replace h := h.2 c5
        refine lv_aload_n hx hb dX9_comesLowest_46 rfl (lv_at hl 1 rfl) ?_
        refine lv_lload_n hx hb dX9_comesLowest_47 rfl (lv_at hl 2 rfl) ?_
        refine lv_lload hx hb dX9_comesLowest_48 (lv_at hl 0 rfl) ?_
        refine lv_ldiv hx hb dX9_comesLowest_50 h.1 ?_
        replace h := h.2
        refine lv_l2i hx hb dX9_comesLowest_51 rfl ?_
        refine lv_lload_n hx hb dX9_comesLowest_52 rfl (lv_at hl 3 rfl) ?_
        refine lv_lload hx hb dX9_comesLowest_53 (lv_at hl 0 rfl) ?_
        refine lv_ldiv hx hb dX9_comesLowest_55 h.1 ?_
        replace h := h.2
        refine lv_l2i hx hb dX9_comesLowest_56 rfl ?_
        refine lv_iload hx hb dX9_comesLowest_57 (lv_at hl 4 rfl) ?_
        replace h := h _ rfl
        replace h := h _ rfl
        refine va_calli (va_runV (As := [.int _, .int _, .int _]) (rest := []) ⟨hx, hb, hml, hown, hts⟩ (c_X9_comes l hI h) (cwV 3 hts gv_X9_122 rfl rfl rfl hv_X9_comes ⟨Nat.le_of_ble_eq_true rfl, Nat.le_of_ble_eq_true rfl⟩) (preV_M hKX hP hS (kM_lt (rfl : kdM 0 = 9)) (eM9 (rfl : kdM 0 = 9)) rfl) rfl rfl hl.1 rfl (lv_room (Nat.le_of_ble_eq_true rfl)) dX9_comesLowest_59 ⟨Nat.le_of_ble_eq_true rfl, Nat.le_of_ble_eq_true rfl⟩) hS (fun _ _ h => h) (fun _ h => h) (fun r9 S8 t H locs ht _ h hB _ _ hS => ?_)
        have hP : VM dC dI cA P S8 H := by rw [← ht]; exact hB
        exact g_iret hx hb hr hlocks h hP hS dX9_comesLowest_62
      · replace h := h.1 c5
        refine lv_bipush (v := (-3)) hx hb dX9_comesLowest_41 (by decide) ?_
        refine lv_goto (tgt := 62) hx hb dX9_comesLowest_43 (by decide) ?_
        exact g_iret hx hb hr hlocks h hP hS dX9_comesLowest_62
    · replace h := h.2 (fun z => c4 ((lg_cmp_le _ _).mpr z))
      refine lv_bipush (v := (-6)) hx hb dX9_comesLowest_29 (by decide) ?_
      exact g_iret hx hb hr hlocks h hP hS dX9_comesLowest_31
set_option maxRecDepth 100000 in
set_option maxHeartbeats 4000000 in
theorem c_X9_comesLowest (l : Launch) {dC : Nat → ClassId} {dI : Nat → Nat → Nat} {cA : Nat → ClassId} {P : Nat → Nat} (hI : PInj 25 P) {v1 : Int64} {v3 : Int64} {v5 : Int32}  {post : Int32 → St → Prop} {S : St} (h : w_X9_comesLowest v1 v3 v5 post S) : Met l yX9_comesLowest (wW yX9_comesLowest cX9_comesLowest 8 (some .int)) ({ frames := 1, cells := 0, slots := 0, locals := 29 } : Room) (va_Pc [.ref (P 0), .long v1, .long v3, .int v5] (PreM dC dI cA P S)) (va_Qi post (fun u t => VM dC dI cA P u t.heap) (PA 25 P)) 0 0 (PA 25 P) := by
  refine Met.ofW (cc := cX9_comesLowest) (maxL := 8) (ret := (some .int)) (by decide) rfl ?_
  intro p e s m args below meth c s₁ B hml hv
  obtain ⟨rfl, hP, hKX⟩ := hv
  have hts : ∀ w ∈ G, w.before [.ref (P 0), .long v1, .long v3, .int v5].toArray s = true := fun w hw => atoms_spec (ws := wW yX9_comesLowest cX9_comesLowest 8 (some .int)) B.pre w (List.mem_cons_of_mem _ hw)
  have C : CtxM dC dI cA P p s m [.ref (P 0), .long v1, .long v3, .int v5].toArray meth c cX9_comesLowest 8 (some .int) RX9 := ⟨hI, hKX, ⟨B.exec, B.bytes, hml, findClass_of_methodNamed B.named, hts⟩, B.returns, B.notSynchronized⟩
  have hS : va_S (PA 25 P) s.heap s.heap [] := va_S.rf
  have hl := lv_entry ([.ref (P 0), .long v1, .long v3, .int v5]) (n := 8) (Nat.le_of_ble_eq_true rfl)
  rw [lg_entry_eq]
  generalize (lg_sl ([.ref (P 0), .long v1, .long v3, .int v5]) ++ List.replicate (8 - (lg_sl ([.ref (P 0), .long v1, .long v3, .int v5])).length) Slot.unset).toArray = ls at hl ⊢
  have hl : lv_has ls 8 [(0, .ref (P 0)), (1, .long v1), (3, .long v3), (5, .int v5)] := hl
  exact e_X9_comesLowest C _ _ _ _ _ _ _ h  hP hS hl
set_option maxRecDepth 100000 in
set_option maxHeartbeats 4000000 in
theorem e_X9_sum {p : Program} {l : Launch} {e : Env} {s : State} {m : MethodId} {args : Array Value} {below : List Frame} {meth : Method} {c : Code} {dC : Nat → ClassId} {dI : Nat → Nat → Nat} {cA : Nat → ClassId} {P : Nat → Nat} (C : CtxM dC dI cA P p s m args meth c cX9_sum 5 (some .int) RX9) {post : Int32 → St → Prop} : ∀ (v1 : Int32) (v2 : Int32) (S : St) (H : Heap) (locs : List Loc) (ls : Array Slot), w_X9_sum v1 v2 post S → VM dC dI cA P S H → va_S (PA 25 P) s.heap H locs → lv_has ls 5 [(0, .ref (P 0)), (1, .int v1), (2, .int v2)] → W p l e ({ frames := 2, cells := 0, slots := 0, locals := 56 } : Room) s m args below meth c H locs 0 0 (MQ below (va_Qi post (fun u t => VM dC dI cA P u t.heap) (PA 25 P)) args s 0 0 (PA 25 P)) (F0 m 0 ls []) := by
  have C := C
  obtain ⟨hI, hKX, ⟨hx, hb, hml, hown, hts⟩, hr, hlocks⟩ := id C
  have hK := hKX
  intro v1 v2 S H locs ls h hP hS hl
  rw [w_X9_sum] at h
  refine lv_aload_n hx hb dX9_sum_0 rfl (lv_at hl 0 rfl) ?_
  refine lv_iload_n hx hb dX9_sum_1 rfl (lv_at hl 1 rfl) ?_
  refine va_calli (va_runV (As := [.int _]) (rest := []) ⟨hx, hb, hml, hown, hts⟩ (c_X9_isFraction l hI h) (cwV 1 hts gv_X9_126 rfl rfl rfl hv_X9_isFraction ⟨Nat.le_of_ble_eq_true rfl, Nat.le_of_ble_eq_true rfl⟩) (preV_M hKX hP hS (kM_lt (rfl : kdM 0 = 9)) (eM9 (rfl : kdM 0 = 9)) rfl) rfl rfl hl.1 rfl (lv_room (Nat.le_of_ble_eq_true rfl)) dX9_sum_2 ⟨Nat.le_of_ble_eq_true rfl, Nat.le_of_ble_eq_true rfl⟩) hS (fun _ _ h => h) (fun _ h => h) (fun r2 S1 t H locs ht _ h hB _ _ hS => ?_)
  have hP : VM dC dI cA P S1 H := by rw [← ht]; exact hB
  refine lv_if_eq (tgt := 16) hx hb dX9_sum_5 (by decide) (fun c3 => ?_) (fun c3 => ?_)
  · replace h := h.1 c3
    refine lv_iconst (v := (-1)) hx hb dX9_sum_16 (by decide) ?_
    exact g_iret hx hb hr hlocks h hP hS dX9_sum_17
  · replace h := h.2 c3
    refine lv_aload_n hx hb dX9_sum_8 rfl (lv_at hl 0 rfl) ?_
    refine lv_iload_n hx hb dX9_sum_9 rfl (lv_at hl 2 rfl) ?_
    refine va_calli (va_runV (As := [.int _]) (rest := []) ⟨hx, hb, hml, hown, hts⟩ (c_X9_isFraction l hI h) (cwV 1 hts gv_X9_126 rfl rfl rfl hv_X9_isFraction ⟨Nat.le_of_ble_eq_true rfl, Nat.le_of_ble_eq_true rfl⟩) (preV_M hKX hP hS (kM_lt (rfl : kdM 0 = 9)) (eM9 (rfl : kdM 0 = 9)) rfl) rfl rfl hl.1 rfl (lv_room (Nat.le_of_ble_eq_true rfl)) dX9_sum_10 ⟨Nat.le_of_ble_eq_true rfl, Nat.le_of_ble_eq_true rfl⟩) hS (fun _ _ h => h) (fun _ h => h) (fun r5 S4 t H locs ht _ h hB _ _ hS => ?_)
    have hP : VM dC dI cA P S4 H := by rw [← ht]; exact hB
    refine lv_if_ne (tgt := 18) hx hb dX9_sum_13 (by decide) (fun c6 => ?_) (fun c6 => ?_)
    · replace h := h.2 c6
      refine lv_aload_n hx hb dX9_sum_18 rfl (lv_at hl 0 rfl) ?_
      refine g_get (v := .ref (P 3)) hx hb hts inG_X9 hown hK hP (kM_lt (rfl : kdM 0 = 9)) (eM9 (rfl : kdM 0 = 9)) rfl 3 (by decide) G_fl_X9_18 rfl rfl dX9_sum_19 ?_
      refine lv_iload_n hx hb dX9_sum_22 rfl (lv_at hl 1 rfl) ?_
      refine g_ald hx hb hK hP (kM_lt (rfl : kdM 3 = 10)) 0 (eM10 (rfl : kdM 3 = 10)) rfl h.1 dX9_sum_23 ?_
      replace h := h.2
      refine lv_aload_n hx hb dX9_sum_24 rfl (lv_at hl 0 rfl) ?_
      refine g_get (v := .ref (P 3)) hx hb hts inG_X9 hown hK hP (kM_lt (rfl : kdM 0 = 9)) (eM9 (rfl : kdM 0 = 9)) rfl 3 (by decide) G_fl_X9_18 rfl rfl dX9_sum_25 ?_
      refine lv_iload_n hx hb dX9_sum_28 rfl (lv_at hl 2 rfl) ?_
      refine g_ald hx hb hK hP (kM_lt (rfl : kdM 3 = 10)) 0 (eM10 (rfl : kdM 3 = 10)) rfl h.1 dX9_sum_29 ?_
      replace h := h.2
      refine lv_icmp_eq (tgt := 36) hx hb dX9_sum_30 (by decide) (fun c7 => ?_) (fun c7 => ?_)
      · replace h := h.1 c7
        refine lv_aload_n hx hb dX9_sum_36 rfl (lv_at hl 0 rfl) ?_
        refine g_get (v := .ref (P 1)) hx hb hts inG_X9 hown hK hP (kM_lt (rfl : kdM 0 = 9)) (eM9 (rfl : kdM 0 = 9)) rfl 1 (by decide) G_fl_X9_11 rfl rfl dX9_sum_37 ?_
        refine lv_iload_n hx hb dX9_sum_40 rfl (lv_at hl 1 rfl) ?_
        refine g_ald hx hb hK hP (kM_lt (rfl : kdM 1 = 10)) 0 (eM10 (rfl : kdM 1 = 10)) rfl h.1 dX9_sum_41 ?_
        replace h := h.2
        refine lv_i2l hx hb dX9_sum_42 rfl ?_
        refine lv_aload_n hx hb dX9_sum_43 rfl (lv_at hl 0 rfl) ?_
        refine g_get (v := .ref (P 2)) hx hb hts inG_X9 hown hK hP (kM_lt (rfl : kdM 0 = 9)) (eM9 (rfl : kdM 0 = 9)) rfl 2 (by decide) G_fl_X9_15 rfl rfl dX9_sum_44 ?_
        refine lv_iload_n hx hb dX9_sum_47 rfl (lv_at hl 2 rfl) ?_
        refine g_ald hx hb hK hP (kM_lt (rfl : kdM 2 = 10)) 0 (eM10 (rfl : kdM 2 = 10)) rfl h.1 dX9_sum_48 ?_
        replace h := h.2
        refine lv_i2l hx hb dX9_sum_49 rfl ?_
        refine lv_lmul hx hb dX9_sum_50 ?_
        refine lv_aload_n hx hb dX9_sum_51 rfl (lv_at hl 0 rfl) ?_
        refine g_get (v := .ref (P 1)) hx hb hts inG_X9 hown hK hP (kM_lt (rfl : kdM 0 = 9)) (eM9 (rfl : kdM 0 = 9)) rfl 1 (by decide) G_fl_X9_11 rfl rfl dX9_sum_52 ?_
        refine lv_iload_n hx hb dX9_sum_55 rfl (lv_at hl 2 rfl) ?_
        refine g_ald hx hb hK hP (kM_lt (rfl : kdM 1 = 10)) 0 (eM10 (rfl : kdM 1 = 10)) rfl h.1 dX9_sum_56 ?_
        replace h := h.2
        refine lv_i2l hx hb dX9_sum_57 rfl ?_
        refine lv_aload_n hx hb dX9_sum_58 rfl (lv_at hl 0 rfl) ?_
        refine g_get (v := .ref (P 2)) hx hb hts inG_X9 hown hK hP (kM_lt (rfl : kdM 0 = 9)) (eM9 (rfl : kdM 0 = 9)) rfl 2 (by decide) G_fl_X9_15 rfl rfl dX9_sum_59 ?_
        refine lv_iload_n hx hb dX9_sum_62 rfl (lv_at hl 1 rfl) ?_
        refine g_ald hx hb hK hP (kM_lt (rfl : kdM 2 = 10)) 0 (eM10 (rfl : kdM 2 = 10)) rfl h.1 dX9_sum_63 ?_
        replace h := h.2
        refine lv_i2l hx hb dX9_sum_64 rfl ?_
        refine lv_lmul hx hb dX9_sum_65 ?_
        refine lv_ladd hx hb dX9_sum_66 ?_
        refine lv_topl (fun x8 ex8 => ?_)
        replace h := h x8 ex8
        refine lv_lstore_n (lv' := [(3, .long x8), (0, .ref (P 0)), (1, .int v1), (2, .int v2)]) hx hb dX9_sum_67 rfl hl (by decide) rfl (fun ls hl => ?_)
        refine lv_aload_n hx hb dX9_sum_68 rfl (lv_at hl 1 rfl) ?_
        refine lv_lload_n hx hb dX9_sum_69 rfl (lv_at hl 0 rfl) ?_
        refine lv_aload_n hx hb dX9_sum_70 rfl (lv_at hl 1 rfl) ?_
        refine g_get (v := .ref (P 2)) hx hb hts inG_X9 hown hK hP (kM_lt (rfl : kdM 0 = 9)) (eM9 (rfl : kdM 0 = 9)) rfl 2 (by decide) G_fl_X9_15 rfl rfl dX9_sum_71 ?_
        refine lv_iload_n hx hb dX9_sum_74 rfl (lv_at hl 2 rfl) ?_
        refine g_ald hx hb hK hP (kM_lt (rfl : kdM 2 = 10)) 0 (eM10 (rfl : kdM 2 = 10)) rfl h.1 dX9_sum_75 ?_
        replace h := h.2
        refine lv_i2l hx hb dX9_sum_76 rfl ?_
        refine lv_aload_n hx hb dX9_sum_77 rfl (lv_at hl 1 rfl) ?_
        refine g_get (v := .ref (P 2)) hx hb hts inG_X9 hown hK hP (kM_lt (rfl : kdM 0 = 9)) (eM9 (rfl : kdM 0 = 9)) rfl 2 (by decide) G_fl_X9_15 rfl rfl dX9_sum_78 ?_
        refine lv_iload_n hx hb dX9_sum_81 rfl (lv_at hl 3 rfl) ?_
        refine g_ald hx hb hK hP (kM_lt (rfl : kdM 2 = 10)) 0 (eM10 (rfl : kdM 2 = 10)) rfl h.1 dX9_sum_82 ?_
        replace h := h.2
        refine lv_i2l hx hb dX9_sum_83 rfl ?_
        refine lv_lmul hx hb dX9_sum_84 ?_
        refine lv_aload_n hx hb dX9_sum_85 rfl (lv_at hl 1 rfl) ?_
        refine g_get (v := .ref (P 3)) hx hb hts inG_X9 hown hK hP (kM_lt (rfl : kdM 0 = 9)) (eM9 (rfl : kdM 0 = 9)) rfl 3 (by decide) G_fl_X9_18 rfl rfl dX9_sum_86 ?_
        refine lv_iload_n hx hb dX9_sum_89 rfl (lv_at hl 2 rfl) ?_
        refine g_ald hx hb hK hP (kM_lt (rfl : kdM 3 = 10)) 0 (eM10 (rfl : kdM 3 = 10)) rfl h.1 dX9_sum_90 ?_
        replace h := h.2
        replace h := h _ rfl
        replace h := h _ rfl
        refine va_calli (va_runV (As := [.long _, .long _, .int _]) (rest := []) ⟨hx, hb, hml, hown, hts⟩ (c_X9_comesLowest l hI h) (cwV 3 hts gv_X9_133 rfl rfl rfl hv_X9_comesLowest ⟨Nat.le_of_ble_eq_true rfl, Nat.le_of_ble_eq_true rfl⟩) (preV_M hKX hP hS (kM_lt (rfl : kdM 0 = 9)) (eM9 (rfl : kdM 0 = 9)) rfl) rfl rfl hl.1 rfl (lv_room (Nat.le_of_ble_eq_true rfl)) dX9_sum_91 ⟨Nat.le_of_ble_eq_true rfl, Nat.le_of_ble_eq_true rfl⟩) hS (fun _ _ h => h) (fun _ h => h) (fun r12 S11 t H locs ht _ h hB _ _ hS => ?_)
        have hP : VM dC dI cA P S11 H := by rw [← ht]; exact hB
        exact g_iret hx hb hr hlocks h hP hS dX9_sum_94
      · replace h := h.2 c7
        refine lv_bipush (v := (-5)) hx hb dX9_sum_33 (by decide) ?_
        exact g_iret hx hb hr hlocks h hP hS dX9_sum_35
    · replace h := h.1 c6
      refine lv_iconst (v := (-1)) hx hb dX9_sum_16 (by decide) ?_
      exact g_iret hx hb hr hlocks h hP hS dX9_sum_17
set_option maxRecDepth 100000 in
set_option maxHeartbeats 4000000 in
theorem c_X9_sum (l : Launch) {dC : Nat → ClassId} {dI : Nat → Nat → Nat} {cA : Nat → ClassId} {P : Nat → Nat} (hI : PInj 25 P) {v1 : Int32} {v2 : Int32}  {post : Int32 → St → Prop} {S : St} (h : w_X9_sum v1 v2 post S) : Met l yX9_sum (wW yX9_sum cX9_sum 5 (some .int)) ({ frames := 2, cells := 0, slots := 0, locals := 56 } : Room) (va_Pc [.ref (P 0), .int v1, .int v2] (PreM dC dI cA P S)) (va_Qi post (fun u t => VM dC dI cA P u t.heap) (PA 25 P)) 0 0 (PA 25 P) := by
  refine Met.ofW (cc := cX9_sum) (maxL := 5) (ret := (some .int)) (by decide) rfl ?_
  intro p e s m args below meth c s₁ B hml hv
  obtain ⟨rfl, hP, hKX⟩ := hv
  have hts : ∀ w ∈ G, w.before [.ref (P 0), .int v1, .int v2].toArray s = true := fun w hw => atoms_spec (ws := wW yX9_sum cX9_sum 5 (some .int)) B.pre w (List.mem_cons_of_mem _ hw)
  have C : CtxM dC dI cA P p s m [.ref (P 0), .int v1, .int v2].toArray meth c cX9_sum 5 (some .int) RX9 := ⟨hI, hKX, ⟨B.exec, B.bytes, hml, findClass_of_methodNamed B.named, hts⟩, B.returns, B.notSynchronized⟩
  have hS : va_S (PA 25 P) s.heap s.heap [] := va_S.rf
  have hl := lv_entry ([.ref (P 0), .int v1, .int v2]) (n := 5) (Nat.le_of_ble_eq_true rfl)
  rw [lg_entry_eq]
  generalize (lg_sl ([.ref (P 0), .int v1, .int v2]) ++ List.replicate (5 - (lg_sl ([.ref (P 0), .int v1, .int v2])).length) Slot.unset).toArray = ls at hl ⊢
  have hl : lv_has ls 5 [(0, .ref (P 0)), (1, .int v1), (2, .int v2)] := hl
  exact e_X9_sum C _ _ _ _ _ _ h  hP hS hl
set_option maxRecDepth 100000 in
set_option maxHeartbeats 4000000 in
theorem e_X9_lowest {p : Program} {l : Launch} {e : Env} {s : State} {m : MethodId} {args : Array Value} {below : List Frame} {meth : Method} {c : Code} {dC : Nat → ClassId} {dI : Nat → Nat → Nat} {cA : Nat → ClassId} {P : Nat → Nat} (C : CtxM dC dI cA P p s m args meth c cX9_lowest 3 (some .int) RX9) {post : Int32 → St → Prop} : ∀ (v1 : Int32) (S : St) (H : Heap) (locs : List Loc) (ls : Array Slot), w_X9_lowest v1 post S → VM dC dI cA P S H → va_S (PA 25 P) s.heap H locs → lv_has ls 3 [(0, .ref (P 0)), (1, .int v1)] → W p l e ({ frames := 2, cells := 0, slots := 0, locals := 46 } : Room) s m args below meth c H locs 0 0 (MQ below (va_Qi post (fun u t => VM dC dI cA P u t.heap) (PA 25 P)) args s 0 0 (PA 25 P)) (F0 m 0 ls []) := by
  have C := C
  obtain ⟨hI, hKX, ⟨hx, hb, hml, hown, hts⟩, hr, hlocks⟩ := id C
  have hK := hKX
  intro v1 S H locs ls h hP hS hl
  rw [w_X9_lowest] at h
  refine lv_aload_n hx hb dX9_lowest_0 rfl (lv_at hl 0 rfl) ?_
  refine lv_iload_n hx hb dX9_lowest_1 rfl (lv_at hl 1 rfl) ?_
  refine va_calli (va_runV (As := [.int _]) (rest := []) ⟨hx, hb, hml, hown, hts⟩ (c_X9_isFraction l hI h) (cwV 1 hts gv_X9_126 rfl rfl rfl hv_X9_isFraction ⟨Nat.le_of_ble_eq_true rfl, Nat.le_of_ble_eq_true rfl⟩) (preV_M hKX hP hS (kM_lt (rfl : kdM 0 = 9)) (eM9 (rfl : kdM 0 = 9)) rfl) rfl rfl hl.1 rfl (lv_room (Nat.le_of_ble_eq_true rfl)) dX9_lowest_2 ⟨Nat.le_of_ble_eq_true rfl, Nat.le_of_ble_eq_true rfl⟩) hS (fun _ _ h => h) (fun _ h => h) (fun r2 S1 t H locs ht _ h hB _ _ hS => ?_)
  have hP : VM dC dI cA P S1 H := by rw [← ht]; exact hB
  refine lv_if_ne (tgt := 10) hx hb dX9_lowest_5 (by decide) (fun c3 => ?_) (fun c3 => ?_)
  · replace h := h.2 c3
    refine lv_aload_n hx hb dX9_lowest_10 rfl (lv_at hl 0 rfl) ?_
    refine g_get (v := .ref (P 1)) hx hb hts inG_X9 hown hK hP (kM_lt (rfl : kdM 0 = 9)) (eM9 (rfl : kdM 0 = 9)) rfl 1 (by decide) G_fl_X9_11 rfl rfl dX9_lowest_11 ?_
    refine lv_iload_n hx hb dX9_lowest_14 rfl (lv_at hl 1 rfl) ?_
    refine g_ald hx hb hK hP (kM_lt (rfl : kdM 1 = 10)) 0 (eM10 (rfl : kdM 1 = 10)) rfl h.1 dX9_lowest_15 ?_
    replace h := h.2
    refine lv_i2l hx hb dX9_lowest_16 rfl ?_
    refine lv_aload_n hx hb dX9_lowest_17 rfl (lv_at hl 0 rfl) ?_
    refine g_get (v := .ref (P 2)) hx hb hts inG_X9 hown hK hP (kM_lt (rfl : kdM 0 = 9)) (eM9 (rfl : kdM 0 = 9)) rfl 2 (by decide) G_fl_X9_15 rfl rfl dX9_lowest_18 ?_
    refine lv_iload_n hx hb dX9_lowest_21 rfl (lv_at hl 1 rfl) ?_
    refine g_ald hx hb hK hP (kM_lt (rfl : kdM 2 = 10)) 0 (eM10 (rfl : kdM 2 = 10)) rfl h.1 dX9_lowest_22 ?_
    replace h := h.2
    refine lv_i2l hx hb dX9_lowest_23 rfl ?_
    replace h := h _ rfl
    replace h := h _ rfl
    refine va_calll (va_runS (As := [.long _, .long _]) (rest := []) ⟨hx, hb, hml, hown, hts⟩ (c_X9_divisor l hI h) (va_cwS 2 hts gs_X9_129 rfl rfl rfl hd_X9_divisor ⟨Nat.le_of_ble_eq_true rfl, Nat.le_of_ble_eq_true rfl⟩) (preS_M hKX hP hS) rfl rfl hl.1 rfl (lv_room (Nat.le_of_ble_eq_true rfl)) dX9_lowest_24 ⟨Nat.le_of_ble_eq_true rfl, Nat.le_of_ble_eq_true rfl⟩) hS (fun _ _ h => h) (fun _ h => h) (fun r7 S6 t H locs ht _ h hB _ _ hS => ?_)
    have hP : VM dC dI cA P S6 H := by rw [← ht]; exact hB
    refine lv_l2i hx hb dX9_lowest_27 rfl ?_
    refine lv_topi (fun x8 ex8 => ?_)
    replace h := h x8 ex8
    refine lv_istore_n (lv' := [(2, .int x8), (0, .ref (P 0)), (1, .int v1)]) hx hb dX9_lowest_28 rfl hl (by decide) rfl (fun ls hl => ?_)
    refine lv_aload_n hx hb dX9_lowest_29 rfl (lv_at hl 1 rfl) ?_
    refine g_get (v := .ref (P 1)) hx hb hts inG_X9 hown hK hP (kM_lt (rfl : kdM 0 = 9)) (eM9 (rfl : kdM 0 = 9)) rfl 1 (by decide) G_fl_X9_11 rfl rfl dX9_lowest_30 ?_
    refine lv_iload_n hx hb dX9_lowest_33 rfl (lv_at hl 2 rfl) ?_
    refine lv_dup2_11 hx hb dX9_lowest_34 rfl rfl ?_
    refine g_ald hx hb hK hP (kM_lt (rfl : kdM 1 = 10)) 0 (eM10 (rfl : kdM 1 = 10)) rfl h.1 dX9_lowest_35 ?_
    replace h := h.2
    refine lv_iload_n hx hb dX9_lowest_36 rfl (lv_at hl 0 rfl) ?_
    refine lv_idiv hx hb dX9_lowest_37 h.1 ?_
    replace h := h.2
    replace h := h _ rfl
    refine g_ast hx hb hK hI hP hS (kM_lt (rfl : kdM 1 = 10)) 0 (eM10 (rfl : kdM 1 = 10)) rfl h.1 h.2 dX9_lowest_38 (fun S10 H locs h hP hS => ?_)
    refine lv_aload_n hx hb dX9_lowest_39 rfl (lv_at hl 1 rfl) ?_
    refine g_get (v := .ref (P 2)) hx hb hts inG_X9 hown hK hP (kM_lt (rfl : kdM 0 = 9)) (eM9 (rfl : kdM 0 = 9)) rfl 2 (by decide) G_fl_X9_15 rfl rfl dX9_lowest_40 ?_
    refine lv_iload_n hx hb dX9_lowest_43 rfl (lv_at hl 2 rfl) ?_
    refine lv_dup2_11 hx hb dX9_lowest_44 rfl rfl ?_
    refine g_ald hx hb hK hP (kM_lt (rfl : kdM 2 = 10)) 0 (eM10 (rfl : kdM 2 = 10)) rfl h.1 dX9_lowest_45 ?_
    replace h := h.2
    refine lv_iload_n hx hb dX9_lowest_46 rfl (lv_at hl 0 rfl) ?_
    refine lv_idiv hx hb dX9_lowest_47 h.1 ?_
    replace h := h.2
    replace h := h _ rfl
    refine g_ast hx hb hK hI hP hS (kM_lt (rfl : kdM 2 = 10)) 0 (eM10 (rfl : kdM 2 = 10)) rfl h.1 h.2 dX9_lowest_48 (fun S12 H locs h hP hS => ?_)
    refine lv_aload_n hx hb dX9_lowest_49 rfl (lv_at hl 1 rfl) ?_
    refine g_get (v := .ref (P 2)) hx hb hts inG_X9 hown hK hP (kM_lt (rfl : kdM 0 = 9)) (eM9 (rfl : kdM 0 = 9)) rfl 2 (by decide) G_fl_X9_15 rfl rfl dX9_lowest_50 ?_
    refine lv_iload_n hx hb dX9_lowest_53 rfl (lv_at hl 2 rfl) ?_
    refine g_ald hx hb hK hP (kM_lt (rfl : kdM 2 = 10)) 0 (eM10 (rfl : kdM 2 = 10)) rfl h.1 dX9_lowest_54 ?_
    replace h := h.2
    exact g_iret hx hb hr hlocks h hP hS dX9_lowest_55
  · replace h := h.1 c3
    refine lv_iconst (v := (-1)) hx hb dX9_lowest_8 (by decide) ?_
    exact g_iret hx hb hr hlocks h hP hS dX9_lowest_9
set_option maxRecDepth 100000 in
set_option maxHeartbeats 4000000 in
theorem c_X9_lowest (l : Launch) {dC : Nat → ClassId} {dI : Nat → Nat → Nat} {cA : Nat → ClassId} {P : Nat → Nat} (hI : PInj 25 P) {v1 : Int32}  {post : Int32 → St → Prop} {S : St} (h : w_X9_lowest v1 post S) : Met l yX9_lowest (wW yX9_lowest cX9_lowest 3 (some .int)) ({ frames := 2, cells := 0, slots := 0, locals := 46 } : Room) (va_Pc [.ref (P 0), .int v1] (PreM dC dI cA P S)) (va_Qi post (fun u t => VM dC dI cA P u t.heap) (PA 25 P)) 0 0 (PA 25 P) := by
  refine Met.ofW (cc := cX9_lowest) (maxL := 3) (ret := (some .int)) (by decide) rfl ?_
  intro p e s m args below meth c s₁ B hml hv
  obtain ⟨rfl, hP, hKX⟩ := hv
  have hts : ∀ w ∈ G, w.before [.ref (P 0), .int v1].toArray s = true := fun w hw => atoms_spec (ws := wW yX9_lowest cX9_lowest 3 (some .int)) B.pre w (List.mem_cons_of_mem _ hw)
  have C : CtxM dC dI cA P p s m [.ref (P 0), .int v1].toArray meth c cX9_lowest 3 (some .int) RX9 := ⟨hI, hKX, ⟨B.exec, B.bytes, hml, findClass_of_methodNamed B.named, hts⟩, B.returns, B.notSynchronized⟩
  have hS : va_S (PA 25 P) s.heap s.heap [] := va_S.rf
  have hl := lv_entry ([.ref (P 0), .int v1]) (n := 3) (Nat.le_of_ble_eq_true rfl)
  rw [lg_entry_eq]
  generalize (lg_sl ([.ref (P 0), .int v1]) ++ List.replicate (3 - (lg_sl ([.ref (P 0), .int v1])).length) Slot.unset).toArray = ls at hl ⊢
  have hl : lv_has ls 3 [(0, .ref (P 0)), (1, .int v1)] := hl
  exact e_X9_lowest C _ _ _ _ _ h  hP hS hl
set_option maxRecDepth 100000 in
set_option maxHeartbeats 4000000 in
theorem e_X9_of {p : Program} {l : Launch} {e : Env} {s : State} {m : MethodId} {args : Array Value} {below : List Frame} {meth : Method} {c : Code} {dC : Nat → ClassId} {dI : Nat → Nat → Nat} {cA : Nat → ClassId} {P : Nat → Nat} (C : CtxM dC dI cA P p s m args meth c cX9_of 3 (some .int) RX9) {post : Int32 → St → Prop} : ∀ (v1 : Int32) (v2 : Int32) (S : St) (H : Heap) (locs : List Loc) (ls : Array Slot), w_X9_of v1 v2 post S → VM dC dI cA P S H → va_S (PA 25 P) s.heap H locs → lv_has ls 3 [(0, .ref (P 0)), (1, .int v1), (2, .int v2)] → W p l e ({ frames := 2, cells := 0, slots := 0, locals := 47 } : Room) s m args below meth c H locs 0 0 (MQ below (va_Qi post (fun u t => VM dC dI cA P u t.heap) (PA 25 P)) args s 0 0 (PA 25 P)) (F0 m 0 ls []) := by
  have C := C
  obtain ⟨hI, hKX, ⟨hx, hb, hml, hown, hts⟩, hr, hlocks⟩ := id C
  have hK := hKX
  intro v1 v2 S H locs ls h hP hS hl
  rw [w_X9_of] at h
  refine lv_aload_n hx hb dX9_of_0 rfl (lv_at hl 0 rfl) ?_
  refine lv_iload_n hx hb dX9_of_1 rfl (lv_at hl 1 rfl) ?_
  refine va_calli (va_runV (As := [.int _]) (rest := []) ⟨hx, hb, hml, hown, hts⟩ (c_X9_isFraction l hI h) (cwV 1 hts gv_X9_126 rfl rfl rfl hv_X9_isFraction ⟨Nat.le_of_ble_eq_true rfl, Nat.le_of_ble_eq_true rfl⟩) (preV_M hKX hP hS (kM_lt (rfl : kdM 0 = 9)) (eM9 (rfl : kdM 0 = 9)) rfl) rfl rfl hl.1 rfl (lv_room (Nat.le_of_ble_eq_true rfl)) dX9_of_2 ⟨Nat.le_of_ble_eq_true rfl, Nat.le_of_ble_eq_true rfl⟩) hS (fun _ _ h => h) (fun _ h => h) (fun r2 S1 t H locs ht _ h hB _ _ hS => ?_)
  have hP : VM dC dI cA P S1 H := by rw [← ht]; exact hB
  refine lv_if_ne (tgt := 10) hx hb dX9_of_5 (by decide) (fun c3 => ?_) (fun c3 => ?_)
  · replace h := h.2 c3
    refine lv_aload_n hx hb dX9_of_10 rfl (lv_at hl 0 rfl) ?_
    refine lv_iload_n hx hb dX9_of_11 rfl (lv_at hl 1 rfl) ?_
    refine va_callv (va_runV (As := [.int _]) (rest := []) ⟨hx, hb, hml, hown, hts⟩ (c_X9_looksAt l hI h) (cwV 1 hts gv_X9_137 rfl rfl rfl hv_X9_looksAt ⟨Nat.le_of_ble_eq_true rfl, Nat.le_of_ble_eq_true rfl⟩) (preV_M hKX hP hS (kM_lt (rfl : kdM 0 = 9)) (eM9 (rfl : kdM 0 = 9)) rfl) rfl rfl hl.1 rfl (lv_room (Nat.le_of_ble_eq_true rfl)) dX9_of_12 ⟨Nat.le_of_ble_eq_true rfl, Nat.le_of_ble_eq_true rfl⟩) hS (fun _ _ h => h) (fun _ h => h) (fun S4 t H locs ht _ h hB _ _ hS => ?_)
    have hP : VM dC dI cA P S4 H := by rw [← ht]; exact hB
    refine lv_iload_n hx hb dX9_of_15 rfl (lv_at hl 2 rfl) ?_
    by_cases c5 : v2 = 0
    · replace h := h.1 c5
      refine lv_tableIn (off := 44) (tgt := 60) hx hb dX9_of_16 (by rw [c5]; decide) (by rw [c5]; decide) (by rw [c5]; decide) (by decide) ?_
      refine lv_aload_n hx hb dX9_of_60 rfl (lv_at hl 0 rfl) ?_
      refine g_get (v := .ref (P 1)) hx hb hts inG_X9 hown hK hP (kM_lt (rfl : kdM 0 = 9)) (eM9 (rfl : kdM 0 = 9)) rfl 1 (by decide) G_fl_X9_11 rfl rfl dX9_of_61 ?_
      refine lv_iload_n hx hb dX9_of_64 rfl (lv_at hl 1 rfl) ?_
      refine g_ald hx hb hK hP (kM_lt (rfl : kdM 1 = 10)) 0 (eM10 (rfl : kdM 1 = 10)) rfl h.1 dX9_of_65 ?_
      replace h := h.2
      exact g_iret hx hb hr hlocks h hP hS dX9_of_66
    replace h := h.2 c5
    by_cases c6 : v2 = 1
    · replace h := h.1 c6
      refine lv_tableIn (off := 51) (tgt := 67) hx hb dX9_of_16 (by rw [c6]; decide) (by rw [c6]; decide) (by rw [c6]; decide) (by decide) ?_
      refine lv_aload_n hx hb dX9_of_67 rfl (lv_at hl 0 rfl) ?_
      refine g_get (v := .ref (P 2)) hx hb hts inG_X9 hown hK hP (kM_lt (rfl : kdM 0 = 9)) (eM9 (rfl : kdM 0 = 9)) rfl 2 (by decide) G_fl_X9_15 rfl rfl dX9_of_68 ?_
      refine lv_iload_n hx hb dX9_of_71 rfl (lv_at hl 1 rfl) ?_
      refine g_ald hx hb hK hP (kM_lt (rfl : kdM 2 = 10)) 0 (eM10 (rfl : kdM 2 = 10)) rfl h.1 dX9_of_72 ?_
      replace h := h.2
      exact g_iret hx hb hr hlocks h hP hS dX9_of_73
    replace h := h.2 c6
    by_cases c7 : v2 = 2
    · replace h := h.1 c7
      refine lv_tableIn (off := 58) (tgt := 74) hx hb dX9_of_16 (by rw [c7]; decide) (by rw [c7]; decide) (by rw [c7]; decide) (by decide) ?_
      refine lv_aload_n hx hb dX9_of_74 rfl (lv_at hl 0 rfl) ?_
      refine g_get (v := .ref (P 3)) hx hb hts inG_X9 hown hK hP (kM_lt (rfl : kdM 0 = 9)) (eM9 (rfl : kdM 0 = 9)) rfl 3 (by decide) G_fl_X9_18 rfl rfl dX9_of_75 ?_
      refine lv_iload_n hx hb dX9_of_78 rfl (lv_at hl 1 rfl) ?_
      refine g_ald hx hb hK hP (kM_lt (rfl : kdM 3 = 10)) 0 (eM10 (rfl : kdM 3 = 10)) rfl h.1 dX9_of_79 ?_
      replace h := h.2
      exact g_iret hx hb hr hlocks h hP hS dX9_of_80
    replace h := h.2 c7
    by_cases c8 : v2 = 3
    · replace h := h.1 c8
      refine lv_tableIn (off := 65) (tgt := 81) hx hb dX9_of_16 (by rw [c8]; decide) (by rw [c8]; decide) (by rw [c8]; decide) (by decide) ?_
      refine lv_aload_n hx hb dX9_of_81 rfl (lv_at hl 0 rfl) ?_
      refine g_get (v := .ref (P 1)) hx hb hts inG_X9 hown hK hP (kM_lt (rfl : kdM 0 = 9)) (eM9 (rfl : kdM 0 = 9)) rfl 1 (by decide) G_fl_X9_11 rfl rfl dX9_of_82 ?_
      refine lv_iload_n hx hb dX9_of_85 rfl (lv_at hl 1 rfl) ?_
      refine g_ald hx hb hK hP (kM_lt (rfl : kdM 1 = 10)) 0 (eM10 (rfl : kdM 1 = 10)) rfl h.1 dX9_of_86 ?_
      replace h := h.2
      refine lv_aload_n hx hb dX9_of_87 rfl (lv_at hl 0 rfl) ?_
      refine g_get (v := .ref (P 2)) hx hb hts inG_X9 hown hK hP (kM_lt (rfl : kdM 0 = 9)) (eM9 (rfl : kdM 0 = 9)) rfl 2 (by decide) G_fl_X9_15 rfl rfl dX9_of_88 ?_
      refine lv_iload_n hx hb dX9_of_91 rfl (lv_at hl 1 rfl) ?_
      refine g_ald hx hb hK hP (kM_lt (rfl : kdM 2 = 10)) 0 (eM10 (rfl : kdM 2 = 10)) rfl h.1 dX9_of_92 ?_
      replace h := h.2
      refine lv_idiv hx hb dX9_of_93 h.1 ?_
      replace h := h.2
      exact g_iret hx hb hr hlocks h hP hS dX9_of_94
    replace h := h.2 c8
    by_cases c9 : v2 = 4
    · replace h := h.1 c9
      refine lv_tableIn (off := 79) (tgt := 95) hx hb dX9_of_16 (by rw [c9]; decide) (by rw [c9]; decide) (by rw [c9]; decide) (by decide) ?_
      refine lv_aload_n hx hb dX9_of_95 rfl (lv_at hl 0 rfl) ?_
      refine g_get (v := .int (S4.1 0 4)) hx hb hts inG_X9 hown hK hP (kM_lt (rfl : kdM 0 = 9)) (eM9 (rfl : kdM 0 = 9)) rfl 4 (by decide) G_fl_X9_100 rfl rfl dX9_of_96 ?_
      exact g_iret hx hb hr hlocks h hP hS dX9_of_99
    replace h := h.2 c9
    by_cases c10 : v2 = 5
    · replace h := h.1 c10
      refine lv_tableIn (off := 84) (tgt := 100) hx hb dX9_of_16 (by rw [c10]; decide) (by rw [c10]; decide) (by rw [c10]; decide) (by decide) ?_
      refine lv_aload_n hx hb dX9_of_100 rfl (lv_at hl 0 rfl) ?_
      refine g_get (v := .int (S4.1 0 5)) hx hb hts inG_X9 hown hK hP (kM_lt (rfl : kdM 0 = 9)) (eM9 (rfl : kdM 0 = 9)) rfl 5 (by decide) G_fl_X9_103 rfl rfl dX9_of_101 ?_
      exact g_iret hx hb hr hlocks h hP hS dX9_of_104
    replace h := h.2 c10
    by_cases c11 : v2 = 6
    · replace h := h.1 c11
      refine lv_tableIn (off := 89) (tgt := 105) hx hb dX9_of_16 (by rw [c11]; decide) (by rw [c11]; decide) (by rw [c11]; decide) (by decide) ?_
      refine lv_aload_n hx hb dX9_of_105 rfl (lv_at hl 0 rfl) ?_
      refine va_calli (va_runV (As := []) (rest := []) ⟨hx, hb, hml, hown, hts⟩ (c_X9_kindNow l hI h) (cwV 0 hts gv_X9_141 rfl rfl rfl hv_X9_kindNow ⟨Nat.le_of_ble_eq_true rfl, Nat.le_of_ble_eq_true rfl⟩) (preV_M hKX hP hS (kM_lt (rfl : kdM 0 = 9)) (eM9 (rfl : kdM 0 = 9)) rfl) rfl rfl hl.1 rfl (lv_room (Nat.le_of_ble_eq_true rfl)) dX9_of_106 ⟨Nat.le_of_ble_eq_true rfl, Nat.le_of_ble_eq_true rfl⟩) hS (fun _ _ h => h) (fun _ h => h) (fun r13 S12 t H locs ht _ h hB _ _ hS => ?_)
      have hP : VM dC dI cA P S12 H := by rw [← ht]; exact hB
      exact g_iret hx hb hr hlocks h hP hS dX9_of_109
    replace h := h.2 c11
    refine lv_tableOut (tgt := 110) hx hb dX9_of_16 (by have := lv_neT c5 (a := 0) (by decide); have := lv_neT c6 (a := 1) (by decide); have := lv_neT c7 (a := 2) (by decide); have := lv_neT c8 (a := 3) (by decide); have := lv_neT c9 (a := 4) (by decide); have := lv_neT c10 (a := 5) (by decide); have := lv_neT c11 (a := 6) (by decide); omega) (by decide) ?_
    refine lv_iconst (v := (-1)) hx hb dX9_of_110 (by decide) ?_
    exact g_iret hx hb hr hlocks h hP hS dX9_of_111
  · replace h := h.1 c3
    refine lv_iconst (v := (-1)) hx hb dX9_of_8 (by decide) ?_
    exact g_iret hx hb hr hlocks h hP hS dX9_of_9
set_option maxRecDepth 100000 in
set_option maxHeartbeats 4000000 in
theorem c_X9_of (l : Launch) {dC : Nat → ClassId} {dI : Nat → Nat → Nat} {cA : Nat → ClassId} {P : Nat → Nat} (hI : PInj 25 P) {v1 : Int32} {v2 : Int32}  {post : Int32 → St → Prop} {S : St} (h : w_X9_of v1 v2 post S) : Met l yX9_of (wW yX9_of cX9_of 3 (some .int)) ({ frames := 2, cells := 0, slots := 0, locals := 47 } : Room) (va_Pc [.ref (P 0), .int v1, .int v2] (PreM dC dI cA P S)) (va_Qi post (fun u t => VM dC dI cA P u t.heap) (PA 25 P)) 0 0 (PA 25 P) := by
  refine Met.ofW (cc := cX9_of) (maxL := 3) (ret := (some .int)) (by decide) rfl ?_
  intro p e s m args below meth c s₁ B hml hv
  obtain ⟨rfl, hP, hKX⟩ := hv
  have hts : ∀ w ∈ G, w.before [.ref (P 0), .int v1, .int v2].toArray s = true := fun w hw => atoms_spec (ws := wW yX9_of cX9_of 3 (some .int)) B.pre w (List.mem_cons_of_mem _ hw)
  have C : CtxM dC dI cA P p s m [.ref (P 0), .int v1, .int v2].toArray meth c cX9_of 3 (some .int) RX9 := ⟨hI, hKX, ⟨B.exec, B.bytes, hml, findClass_of_methodNamed B.named, hts⟩, B.returns, B.notSynchronized⟩
  have hS : va_S (PA 25 P) s.heap s.heap [] := va_S.rf
  have hl := lv_entry ([.ref (P 0), .int v1, .int v2]) (n := 3) (Nat.le_of_ble_eq_true rfl)
  rw [lg_entry_eq]
  generalize (lg_sl ([.ref (P 0), .int v1, .int v2]) ++ List.replicate (3 - (lg_sl ([.ref (P 0), .int v1, .int v2])).length) Slot.unset).toArray = ls at hl ⊢
  have hl : lv_has ls 3 [(0, .ref (P 0)), (1, .int v1), (2, .int v2)] := hl
  exact e_X9_of C _ _ _ _ _ _ h  hP hS hl
