set_option maxRecDepth 100000 in
set_option maxHeartbeats 4000000 in
theorem b_X9_wholeDigit_17 {p : Program} {l : Launch} {e : Env} {s : State} {m : MethodId} {args : Array Value} {below : List Frame} {meth : Method} {c : Code} {dC : Nat → ClassId} {dI : Nat → Nat → Nat} {cA : Nat → ClassId} {P : Nat → Nat} (C : CtxM dC dI cA P p s m args meth c cX9_wholeDigit 5 (some .int) RX9) {post : Int32 → St → Prop}  : ∀ (n : Nat) (v1 : Int32) (v2 : Int32) (v3 : Int32) (v4 : Int32) (S : St) (H : Heap) (locs : List Loc) (ls : Array Slot), w_X9_wholeDigit_17 post n v1 v2 v3 v4 S → VM dC dI cA P S H → va_S (PA 25 P) s.heap H locs → lv_has ls 5 [(0, .ref (P 0)), (1, .int v1), (2, .int v2), (3, .int v3), (4, .int v4)] → W p l e ({ frames := 0, cells := 0, slots := 0, locals := 0 } : Room) s m args below meth c H locs 0 0 (MQ below (va_Qi post (fun u t => VM dC dI cA P u t.heap) (PA 25 P)) args s 0 0 (PA 25 P)) (F0 m 17 ls []) := by
  have C := C
  obtain ⟨hI, hKX, ⟨hx, hb, hml, hown, hts⟩, hr, hlocks⟩ := id C
  have hK := hKX
  intro n
  induction n with
  | zero =>
    intro v1 v2 v3 v4 S H locs ls h hP hS hl
    simp only [w_X9_wholeDigit_17] at h
  | succ n ih =>
    intro v1 v2 v3 v4 S H locs ls h hP hS hl
    rw [w_X9_wholeDigit_17] at h
    refine lv_iload hx hb dX9_wholeDigit_17 (lv_at hl 4 rfl) ?_
    refine lv_iload_n hx hb dX9_wholeDigit_19 rfl (lv_at hl 2 rfl) ?_
    refine lv_icmp_ge (tgt := 38) hx hb dX9_wholeDigit_20 (by decide) (fun c2 => ?_) (fun c2 => ?_)
    · replace h := h.1 c2
      refine lv_iload_n hx hb dX9_wholeDigit_38 rfl (lv_at hl 3 rfl) ?_
      refine lv_aload_n hx hb dX9_wholeDigit_39 rfl (lv_at hl 0 rfl) ?_
      refine g_get (v := .ref (P 3)) hx hb hts inG_X9 hown hK hP (kM_lt (rfl : kdM 0 = 9)) (eM9 (rfl : kdM 0 = 9)) rfl 3 (by decide) G_fl_X9_18 rfl rfl dX9_wholeDigit_40 ?_
      refine lv_iload_n hx hb dX9_wholeDigit_43 rfl (lv_at hl 1 rfl) ?_
      refine g_ald hx hb hK hP (kM_lt (rfl : kdM 3 = 10)) 0 (eM10 (rfl : kdM 3 = 10)) rfl h.1 dX9_wholeDigit_44 ?_
      replace h := h.2
      refine lv_irem hx hb dX9_wholeDigit_45 h.1 ?_
      replace h := h.2
      exact g_iret hx hb hr hlocks h hP hS dX9_wholeDigit_46
    · replace h := h.2 c2
      refine lv_iload_n hx hb dX9_wholeDigit_23 rfl (lv_at hl 3 rfl) ?_
      refine lv_aload_n hx hb dX9_wholeDigit_24 rfl (lv_at hl 0 rfl) ?_
      refine g_get (v := .ref (P 3)) hx hb hts inG_X9 hown hK hP (kM_lt (rfl : kdM 0 = 9)) (eM9 (rfl : kdM 0 = 9)) rfl 3 (by decide) G_fl_X9_18 rfl rfl dX9_wholeDigit_25 ?_
      refine lv_iload_n hx hb dX9_wholeDigit_28 rfl (lv_at hl 1 rfl) ?_
      refine g_ald hx hb hK hP (kM_lt (rfl : kdM 3 = 10)) 0 (eM10 (rfl : kdM 3 = 10)) rfl h.1 dX9_wholeDigit_29 ?_
      replace h := h.2
      refine lv_idiv hx hb dX9_wholeDigit_30 h.1 ?_
      replace h := h.2
      refine lv_topi (fun x3 ex3 => ?_)
      replace h := h x3 ex3
      refine lv_istore_n (lv' := [(3, .int x3), (0, .ref (P 0)), (1, .int v1), (2, .int v2), (4, .int v4)]) hx hb dX9_wholeDigit_31 rfl hl (by decide) rfl (fun ls hl => ?_)
      obtain ⟨x4, ex4⟩ : ∃ y : Int32, y = v4 + 1 := ⟨_, rfl⟩
      replace h := h x4 ex4
      refine lv_iinc (v := x4) (lv' := [(4, .int x4), (3, .int x3), (0, .ref (P 0)), (1, .int v1), (2, .int v2)]) hx hb dX9_wholeDigit_32 hl (k := 4) rfl (by rw [ex4]; rfl) (by decide) rfl (fun ls hl => ?_)
      refine lv_goto (tgt := 17) hx hb dX9_wholeDigit_35 (by decide) ?_
      exact ih _ _ _ _ _ _ _ _ h  hP hS (lv_sub hl [2, 3, 4, 1, 0] rfl)
set_option maxRecDepth 100000 in
set_option maxHeartbeats 4000000 in
theorem e_X9_wholeDigit {p : Program} {l : Launch} {e : Env} {s : State} {m : MethodId} {args : Array Value} {below : List Frame} {meth : Method} {c : Code} {dC : Nat → ClassId} {dI : Nat → Nat → Nat} {cA : Nat → ClassId} {P : Nat → Nat} (C : CtxM dC dI cA P p s m args meth c cX9_wholeDigit 5 (some .int) RX9) {post : Int32 → St → Prop} : ∀ (v1 : Int32) (v2 : Int32) (S : St) (H : Heap) (locs : List Loc) (ls : Array Slot), w_X9_wholeDigit v1 v2 post S → VM dC dI cA P S H → va_S (PA 25 P) s.heap H locs → lv_has ls 5 [(0, .ref (P 0)), (1, .int v1), (2, .int v2)] → W p l e ({ frames := 0, cells := 0, slots := 0, locals := 0 } : Room) s m args below meth c H locs 0 0 (MQ below (va_Qi post (fun u t => VM dC dI cA P u t.heap) (PA 25 P)) args s 0 0 (PA 25 P)) (F0 m 0 ls []) := by
  have C := C
  obtain ⟨hI, hKX, ⟨hx, hb, hml, hown, hts⟩, hr, hlocks⟩ := id C
  have hK := hKX
  intro v1 v2 S H locs ls h hP hS hl
  rw [w_X9_wholeDigit] at h
  refine lv_aload_n hx hb dX9_wholeDigit_0 rfl (lv_at hl 0 rfl) ?_
  refine g_get (v := .ref (P 1)) hx hb hts inG_X9 hown hK hP (kM_lt (rfl : kdM 0 = 9)) (eM9 (rfl : kdM 0 = 9)) rfl 1 (by decide) G_fl_X9_11 rfl rfl dX9_wholeDigit_1 ?_
  refine lv_iload_n hx hb dX9_wholeDigit_4 rfl (lv_at hl 1 rfl) ?_
  refine g_ald hx hb hK hP (kM_lt (rfl : kdM 1 = 10)) 0 (eM10 (rfl : kdM 1 = 10)) rfl h.1 dX9_wholeDigit_5 ?_
  replace h := h.2
  refine lv_aload_n hx hb dX9_wholeDigit_6 rfl (lv_at hl 0 rfl) ?_
  refine g_get (v := .ref (P 2)) hx hb hts inG_X9 hown hK hP (kM_lt (rfl : kdM 0 = 9)) (eM9 (rfl : kdM 0 = 9)) rfl 2 (by decide) G_fl_X9_15 rfl rfl dX9_wholeDigit_7 ?_
  refine lv_iload_n hx hb dX9_wholeDigit_10 rfl (lv_at hl 1 rfl) ?_
  refine g_ald hx hb hK hP (kM_lt (rfl : kdM 2 = 10)) 0 (eM10 (rfl : kdM 2 = 10)) rfl h.1 dX9_wholeDigit_11 ?_
  replace h := h.2
  refine lv_idiv hx hb dX9_wholeDigit_12 h.1 ?_
  replace h := h.2
  refine lv_topi (fun x1 ex1 => ?_)
  replace h := h x1 ex1
  refine lv_istore_n (lv' := [(3, .int x1), (0, .ref (P 0)), (1, .int v1), (2, .int v2)]) hx hb dX9_wholeDigit_13 rfl hl (by decide) rfl (fun ls hl => ?_)
  refine lv_iconst (v := 0) hx hb dX9_wholeDigit_14 (by decide) ?_
  refine lv_istore (lv' := [(4, .int 0), (3, .int x1), (0, .ref (P 0)), (1, .int v1), (2, .int v2)]) hx hb dX9_wholeDigit_15 hl (by decide) rfl (fun ls hl => ?_)
  obtain ⟨n5, h⟩ := h
  exact b_X9_wholeDigit_17 C n5 _ _ _ _ _ _ _ _ h  hP hS (lv_sub hl [2, 3, 4, 1, 0] rfl)
set_option maxRecDepth 100000 in
set_option maxHeartbeats 4000000 in
theorem c_X9_wholeDigit (l : Launch) {dC : Nat → ClassId} {dI : Nat → Nat → Nat} {cA : Nat → ClassId} {P : Nat → Nat} (hI : PInj 25 P) {v1 : Int32} {v2 : Int32}  {post : Int32 → St → Prop} {S : St} (h : w_X9_wholeDigit v1 v2 post S) : Met l yX9_wholeDigit (wW yX9_wholeDigit cX9_wholeDigit 5 (some .int)) ({ frames := 0, cells := 0, slots := 0, locals := 0 } : Room) (va_Pc [.ref (P 0), .int v1, .int v2] (PreM dC dI cA P S)) (va_Qi post (fun u t => VM dC dI cA P u t.heap) (PA 25 P)) 0 0 (PA 25 P) := by
  refine Met.ofW (cc := cX9_wholeDigit) (maxL := 5) (ret := (some .int)) (by decide) rfl ?_
  intro p e s m args below meth c s₁ B hml hv
  obtain ⟨rfl, hP, hKX⟩ := hv
  have hts : ∀ w ∈ G, w.before [.ref (P 0), .int v1, .int v2].toArray s = true := fun w hw => atoms_spec (ws := wW yX9_wholeDigit cX9_wholeDigit 5 (some .int)) B.pre w (List.mem_cons_of_mem _ hw)
  have C : CtxM dC dI cA P p s m [.ref (P 0), .int v1, .int v2].toArray meth c cX9_wholeDigit 5 (some .int) RX9 := ⟨hI, hKX, ⟨B.exec, B.bytes, hml, findClass_of_methodNamed B.named, hts⟩, B.returns, B.notSynchronized⟩
  have hS : va_S (PA 25 P) s.heap s.heap [] := va_S.rf
  have hl := lv_entry ([.ref (P 0), .int v1, .int v2]) (n := 5) (Nat.le_of_ble_eq_true rfl)
  rw [lg_entry_eq]
  generalize (lg_sl ([.ref (P 0), .int v1, .int v2]) ++ List.replicate (5 - (lg_sl ([.ref (P 0), .int v1, .int v2])).length) Slot.unset).toArray = ls at hl ⊢
  have hl : lv_has ls 5 [(0, .ref (P 0)), (1, .int v1), (2, .int v2)] := hl
  exact e_X9_wholeDigit C _ _ _ _ _ _ h  hP hS hl
set_option maxRecDepth 100000 in
set_option maxHeartbeats 4000000 in
theorem b_X9_spell_76 {p : Program} {l : Launch} {e : Env} {s : State} {m : MethodId} {args : Array Value} {below : List Frame} {meth : Method} {c : Code} {dC : Nat → ClassId} {dI : Nat → Nat → Nat} {cA : Nat → ClassId} {P : Nat → Nat} (C : CtxM dC dI cA P p s m args meth c cX9_spell 7 (some .int) RX9) {post : Int32 → St → Prop}  : ∀ (v1 : Int32) (v2 : Int32) (v3 : Int32) (y0 : Int32) (y1 : Int32) (S : St) (H : Heap) (locs : List Loc) (ls : Array Slot), w_X9_spell_76 post v1 v2 v3 y0 y1 S → VM dC dI cA P S H → va_S (PA 25 P) s.heap H locs → lv_has ls 7 [(0, .ref (P 0)), (1, .int v1), (2, .int v2), (3, .int v3)] → W p l e ({ frames := 2, cells := 0, slots := 0, locals := 47 } : Room) s m args below meth c H locs 0 0 (MQ below (va_Qi post (fun u t => VM dC dI cA P u t.heap) (PA 25 P)) args s 0 0 (PA 25 P)) (F0 m 76 ls [.int y1, .int y0]) := by
  have C := C
  obtain ⟨hI, hKX, ⟨hx, hb, hml, hown, hts⟩, hr, hlocks⟩ := id C
  have hK := hKX
  intro v1 v2 v3 y0 y1 S H locs ls h hP hS hl
  rw [w_X9_spell_76] at h
  refine lv_iadd hx hb dX9_spell_76 ?_
  refine lv_topi (fun x11 ex11 => ?_)
  replace h := h x11 ex11
  refine lv_istore (lv' := [(5, .int x11), (0, .ref (P 0)), (1, .int v1), (2, .int v2), (3, .int v3)]) hx hb dX9_spell_77 hl (by decide) rfl (fun ls hl => ?_)
  refine lv_iload_n hx hb dX9_spell_79 rfl (lv_at hl 3 rfl) ?_
  refine lv_iconst (v := (-1)) hx hb dX9_spell_80 (by decide) ?_
  refine lv_icmp_ne (tgt := 87) hx hb dX9_spell_81 (by decide) (fun c12 => ?_) (fun c12 => ?_)
  · replace h := h.2 c12
    refine lv_iload_n hx hb dX9_spell_87 rfl (lv_at hl 3 rfl) ?_
    refine lv_iload hx hb dX9_spell_88 (lv_at hl 0 rfl) ?_
    refine lv_icmp_lt (tgt := 96) hx hb dX9_spell_90 (by decide) (fun c13 => ?_) (fun c13 => ?_)
    · replace h := h.1 c13
      refine lv_iload_n hx hb dX9_spell_96 rfl (lv_at hl 3 rfl) ?_
      refine lv_iload_n hx hb dX9_spell_97 rfl (lv_at hl 4 rfl) ?_
      refine lv_icmp_ge (tgt := 115) hx hb dX9_spell_98 (by decide) (fun c14 => ?_) (fun c14 => ?_)
      · replace h := h.1 c14
        refine lv_iload_n hx hb dX9_spell_115 rfl (lv_at hl 3 rfl) ?_
        refine lv_iload_n hx hb dX9_spell_116 rfl (lv_at hl 4 rfl) ?_
        refine lv_isub hx hb dX9_spell_117 ?_
        refine lv_iconst (v := 1) hx hb dX9_spell_118 (by decide) ?_
        refine lv_isub hx hb dX9_spell_119 ?_
        refine lv_topi (fun x15 ex15 => ?_)
        replace h := h x15 ex15
        refine lv_istore (lv' := [(6, .int x15), (5, .int x11), (0, .ref (P 0)), (1, .int v1), (2, .int v2), (3, .int v3)]) hx hb dX9_spell_120 hl (by decide) rfl (fun ls hl => ?_)
        refine lv_iload hx hb dX9_spell_122 (lv_at hl 0 rfl) ?_
        refine lv_if_ge (tgt := 130) hx hb dX9_spell_124 (by decide) (fun c16 => ?_) (fun c16 => ?_)
        · replace h := h.1 c16
          refine lv_iload hx hb dX9_spell_130 (lv_at hl 0 rfl) ?_
          refine lv_aload_n hx hb dX9_spell_132 rfl (lv_at hl 2 rfl) ?_
          refine g_get (v := .int (S.1 0 4)) hx hb hts inG_X9 hown hK hP (kM_lt (rfl : kdM 0 = 9)) (eM9 (rfl : kdM 0 = 9)) rfl 4 (by decide) G_fl_X9_100 rfl rfl dX9_spell_133 ?_
          refine lv_icmp_ge (tgt := 150) hx hb dX9_spell_136 (by decide) (fun c17 => ?_) (fun c17 => ?_)
          · replace h := h.1 c17
            refine lv_iload hx hb dX9_spell_150 (lv_at hl 0 rfl) ?_
            refine lv_aload_n hx hb dX9_spell_152 rfl (lv_at hl 2 rfl) ?_
            refine g_get (v := .int (S.1 0 4)) hx hb hts inG_X9 hown hK hP (kM_lt (rfl : kdM 0 = 9)) (eM9 (rfl : kdM 0 = 9)) rfl 4 (by decide) G_fl_X9_100 rfl rfl dX9_spell_153 ?_
            refine lv_icmp_ne (tgt := 164) hx hb dX9_spell_156 (by decide) (fun c18 => ?_) (fun c18 => ?_)
            · replace h := h.2 c18
              refine lv_iload_n hx hb dX9_spell_164 rfl (lv_at hl 4 rfl) ?_
              refine lv_iload hx hb dX9_spell_165 (lv_at hl 1 rfl) ?_
              refine lv_iconst (v := 1) hx hb dX9_spell_167 (by decide) ?_
              refine lv_isub hx hb dX9_spell_168 ?_
              refine lv_icmp_ne (tgt := 177) hx hb dX9_spell_169 (by decide) (fun c19 => ?_) (fun c19 => ?_)
              · replace h := h.2 c19
                refine lv_aload_n hx hb dX9_spell_177 rfl (lv_at hl 2 rfl) ?_
                refine g_get (v := .ref (P 6)) hx hb hts inG_X9 hown hK hP (kM_lt (rfl : kdM 0 = 9)) (eM9 (rfl : kdM 0 = 9)) rfl 9 (by decide) G_fl_X9_27 rfl rfl dX9_spell_178 ?_
                refine lv_iload hx hb dX9_spell_181 (lv_at hl 0 rfl) ?_
                refine lv_iconst (v := 1) hx hb dX9_spell_183 (by decide) ?_
                refine lv_isub hx hb dX9_spell_184 ?_
                replace h := h _ rfl
                refine g_ald hx hb hK hP (kM_lt (rfl : kdM 6 = 10)) 0 (eM10 (rfl : kdM 6 = 10)) rfl h.1 dX9_spell_185 ?_
                replace h := h.2
                replace h := h _ rfl
                refine va_calli (va_runS (As := [.int _]) (rest := []) ⟨hx, hb, hml, hown, hts⟩ (c_X9_signOf l hI h) (va_cwS 1 hts gs_X9_236 rfl rfl rfl hd_X9_signOf ⟨Nat.le_of_ble_eq_true rfl, Nat.le_of_ble_eq_true rfl⟩) (preS_M hKX hP hS) rfl rfl hl.1 rfl (lv_room (Nat.le_of_ble_eq_true rfl)) dX9_spell_186 ⟨Nat.le_of_ble_eq_true rfl, Nat.le_of_ble_eq_true rfl⟩) hS (fun _ _ h => h) (fun _ h => h) (fun r23 S22 t H locs ht _ h hB _ _ hS => ?_)
                have hP : VM dC dI cA P S22 H := by rw [← ht]; exact hB
                exact g_iret hx hb hr hlocks h hP hS dX9_spell_189
              · replace h := h.1 c19
                refine lv_bipush (v := 41) hx hb dX9_spell_172 (by decide) ?_
                refine lv_goto (tgt := 189) hx hb dX9_spell_174 (by decide) ?_
                exact g_iret hx hb hr hlocks h hP hS dX9_spell_189
            · replace h := h.1 c18
              refine lv_bipush (v := 40) hx hb dX9_spell_159 (by decide) ?_
              refine lv_goto (tgt := 189) hx hb dX9_spell_161 (by decide) ?_
              exact g_iret hx hb hr hlocks h hP hS dX9_spell_189
          · replace h := h.2 c17
            refine lv_aload_n hx hb dX9_spell_139 rfl (lv_at hl 2 rfl) ?_
            refine g_get (v := .ref (P 6)) hx hb hts inG_X9 hown hK hP (kM_lt (rfl : kdM 0 = 9)) (eM9 (rfl : kdM 0 = 9)) rfl 9 (by decide) G_fl_X9_27 rfl rfl dX9_spell_140 ?_
            refine lv_iload hx hb dX9_spell_143 (lv_at hl 0 rfl) ?_
            refine g_ald hx hb hK hP (kM_lt (rfl : kdM 6 = 10)) 0 (eM10 (rfl : kdM 6 = 10)) rfl h.1 dX9_spell_145 ?_
            replace h := h.2
            replace h := h _ rfl
            refine va_calli (va_runS (As := [.int _]) (rest := []) ⟨hx, hb, hml, hown, hts⟩ (c_X9_signOf l hI h) (va_cwS 1 hts gs_X9_236 rfl rfl rfl hd_X9_signOf ⟨Nat.le_of_ble_eq_true rfl, Nat.le_of_ble_eq_true rfl⟩) (preS_M hKX hP hS) rfl rfl hl.1 rfl (lv_room (Nat.le_of_ble_eq_true rfl)) dX9_spell_146 ⟨Nat.le_of_ble_eq_true rfl, Nat.le_of_ble_eq_true rfl⟩) hS (fun _ _ h => h) (fun _ h => h) (fun r26 S25 t H locs ht _ h hB _ _ hS => ?_)
            have hP : VM dC dI cA P S25 H := by rw [← ht]; exact hB
            exact g_iret hx hb hr hlocks h hP hS dX9_spell_149
        · replace h := h.2 c16
          refine lv_bipush (v := 46) hx hb dX9_spell_127 (by decide) ?_
          exact g_iret hx hb hr hlocks h hP hS dX9_spell_129
      · replace h := h.2 c14
        refine lv_aload_n hx hb dX9_spell_101 rfl (lv_at hl 1 rfl) ?_
        refine lv_iload_n hx hb dX9_spell_102 rfl (lv_at hl 2 rfl) ?_
        refine lv_iload_n hx hb dX9_spell_103 rfl (lv_at hl 4 rfl) ?_
        refine lv_iconst (v := 1) hx hb dX9_spell_104 (by decide) ?_
        refine lv_isub hx hb dX9_spell_105 ?_
        refine lv_iload_n hx hb dX9_spell_106 rfl (lv_at hl 3 rfl) ?_
        refine lv_isub hx hb dX9_spell_107 ?_
        replace h := h _ rfl
        refine va_calli (va_runV (As := [.int _, .int _]) (rest := []) ⟨hx, hb, hml, hown, hts⟩ (c_X9_wholeDigit l hI h) (cwV 2 hts gv_X9_233 rfl rfl rfl hv_X9_wholeDigit ⟨Nat.le_of_ble_eq_true rfl, Nat.le_of_ble_eq_true rfl⟩) (preV_M hKX hP hS (kM_lt (rfl : kdM 0 = 9)) (eM9 (rfl : kdM 0 = 9)) rfl) rfl rfl hl.1 rfl (lv_room (Nat.le_of_ble_eq_true rfl)) dX9_spell_108 ⟨Nat.le_of_ble_eq_true rfl, Nat.le_of_ble_eq_true rfl⟩) hS (fun _ _ h => h) (fun _ h => h) (fun r29 S28 t H locs ht _ h hB _ _ hS => ?_)
        have hP : VM dC dI cA P S28 H := by rw [← ht]; exact hB
        refine va_calli (va_runS (As := [.int _]) (rest := []) ⟨hx, hb, hml, hown, hts⟩ (c_X9_signOf l hI h) (va_cwS 1 hts gs_X9_236 rfl rfl rfl hd_X9_signOf ⟨Nat.le_of_ble_eq_true rfl, Nat.le_of_ble_eq_true rfl⟩) (preS_M hKX hP hS) rfl rfl hl.1 rfl (lv_room (Nat.le_of_ble_eq_true rfl)) dX9_spell_111 ⟨Nat.le_of_ble_eq_true rfl, Nat.le_of_ble_eq_true rfl⟩) hS (fun _ _ h => h) (fun _ h => h) (fun r31 S30 t H locs ht _ h hB _ _ hS => ?_)
        have hP : VM dC dI cA P S30 H := by rw [← ht]; exact hB
        exact g_iret hx hb hr hlocks h hP hS dX9_spell_114
    · replace h := h.2 c13
      refine lv_bipush (v := (-2)) hx hb dX9_spell_93 (by decide) ?_
      exact g_iret hx hb hr hlocks h hP hS dX9_spell_95
  · replace h := h.1 c12
    refine lv_iload hx hb dX9_spell_84 (lv_at hl 0 rfl) ?_
    exact g_iret hx hb hr hlocks h hP hS dX9_spell_86
set_option maxRecDepth 100000 in
set_option maxHeartbeats 4000000 in
theorem b_X9_spell_58 {p : Program} {l : Launch} {e : Env} {s : State} {m : MethodId} {args : Array Value} {below : List Frame} {meth : Method} {c : Code} {dC : Nat → ClassId} {dI : Nat → Nat → Nat} {cA : Nat → ClassId} {P : Nat → Nat} (C : CtxM dC dI cA P p s m args meth c cX9_spell 7 (some .int) RX9) {post : Int32 → St → Prop}  : ∀ (v1 : Int32) (v2 : Int32) (v3 : Int32) (y0 : Int32) (y1 : Int32) (S : St) (H : Heap) (locs : List Loc) (ls : Array Slot), w_X9_spell_58 post v1 v2 v3 y0 y1 S → VM dC dI cA P S H → va_S (PA 25 P) s.heap H locs → lv_has ls 7 [(0, .ref (P 0)), (1, .int v1), (2, .int v2), (3, .int v3)] → W p l e ({ frames := 2, cells := 0, slots := 0, locals := 47 } : Room) s m args below meth c H locs 0 0 (MQ below (va_Qi post (fun u t => VM dC dI cA P u t.heap) (PA 25 P)) args s 0 0 (PA 25 P)) (F0 m 58 ls [.int y1, .int y0]) := by
  have C := C
  obtain ⟨hI, hKX, ⟨hx, hb, hml, hown, hts⟩, hr, hlocks⟩ := id C
  have hK := hKX
  intro v1 v2 v3 y0 y1 S H locs ls h hP hS hl
  rw [w_X9_spell_58] at h
  refine lv_iadd hx hb dX9_spell_58 ?_
  refine lv_aload_n hx hb dX9_spell_59 rfl (lv_at hl 0 rfl) ?_
  refine g_get (v := .int (S.1 0 6)) hx hb hts inG_X9 hown hK hP (kM_lt (rfl : kdM 0 = 9)) (eM9 (rfl : kdM 0 = 9)) rfl 6 (by decide) G_fl_X9_106 rfl rfl dX9_spell_60 ?_
  refine lv_if_eq (tgt := 70) hx hb dX9_spell_63 (by decide) (fun c10 => ?_) (fun c10 => ?_)
  · replace h := h.1 c10
    refine lv_iconst (v := 2) hx hb dX9_spell_70 (by decide) ?_
    refine lv_aload_n hx hb dX9_spell_71 rfl (lv_at hl 0 rfl) ?_
    refine g_get (v := .int (S.1 0 5)) hx hb hts inG_X9 hown hK hP (kM_lt (rfl : kdM 0 = 9)) (eM9 (rfl : kdM 0 = 9)) rfl 5 (by decide) G_fl_X9_103 rfl rfl dX9_spell_72 ?_
    refine lv_iadd hx hb dX9_spell_75 ?_
    exact b_X9_spell_76 C _ _ _ _ _ _ _ _ _ h  hP hS (lv_sub hl [0, 1, 2, 3] rfl)
  · replace h := h.2 c10
    refine lv_iconst (v := 0) hx hb dX9_spell_66 (by decide) ?_
    refine lv_goto (tgt := 76) hx hb dX9_spell_67 (by decide) ?_
    exact b_X9_spell_76 C _ _ _ _ _ _ _ _ _ h  hP hS (lv_sub hl [0, 1, 2, 3] rfl)
set_option maxRecDepth 100000 in
set_option maxHeartbeats 4000000 in
theorem b_X9_spell_40 {p : Program} {l : Launch} {e : Env} {s : State} {m : MethodId} {args : Array Value} {below : List Frame} {meth : Method} {c : Code} {dC : Nat → ClassId} {dI : Nat → Nat → Nat} {cA : Nat → ClassId} {P : Nat → Nat} (C : CtxM dC dI cA P p s m args meth c cX9_spell 7 (some .int) RX9) {post : Int32 → St → Prop}  : ∀ (v1 : Int32) (v2 : Int32) (v3 : Int32) (y0 : Int32) (S : St) (H : Heap) (locs : List Loc) (ls : Array Slot), w_X9_spell_40 post v1 v2 v3 y0 S → VM dC dI cA P S H → va_S (PA 25 P) s.heap H locs → lv_has ls 7 [(0, .ref (P 0)), (1, .int v1), (2, .int v2), (3, .int v3)] → W p l e ({ frames := 2, cells := 0, slots := 0, locals := 47 } : Room) s m args below meth c H locs 0 0 (MQ below (va_Qi post (fun u t => VM dC dI cA P u t.heap) (PA 25 P)) args s 0 0 (PA 25 P)) (F0 m 40 ls [.int y0]) := by
  have C := C
  obtain ⟨hI, hKX, ⟨hx, hb, hml, hown, hts⟩, hr, hlocks⟩ := id C
  have hK := hKX
  intro v1 v2 v3 y0 S H locs ls h hP hS hl
  rw [w_X9_spell_40] at h
  refine lv_istore (lv' := [(4, .int y0), (0, .ref (P 0)), (1, .int v1), (2, .int v2), (3, .int v3)]) hx hb dX9_spell_40 hl (by decide) rfl (fun ls hl => ?_)
  refine lv_iload_n hx hb dX9_spell_42 rfl (lv_at hl 4 rfl) ?_
  refine lv_iload hx hb dX9_spell_43 (lv_at hl 0 rfl) ?_
  refine lv_if_eq (tgt := 57) hx hb dX9_spell_45 (by decide) (fun c9 => ?_) (fun c9 => ?_)
  · replace h := h.1 c9
    refine lv_iconst (v := 0) hx hb dX9_spell_57 (by decide) ?_
    exact b_X9_spell_58 C _ _ _ _ _ _ _ _ _ h  hP hS (lv_sub hl [1, 2, 3, 4] rfl)
  · replace h := h.2 c9
    refine lv_iconst (v := 1) hx hb dX9_spell_48 (by decide) ?_
    refine lv_aload_n hx hb dX9_spell_49 rfl (lv_at hl 1 rfl) ?_
    refine g_get (v := .int (S.1 0 4)) hx hb hts inG_X9 hown hK hP (kM_lt (rfl : kdM 0 = 9)) (eM9 (rfl : kdM 0 = 9)) rfl 4 (by decide) G_fl_X9_100 rfl rfl dX9_spell_50 ?_
    refine lv_iadd hx hb dX9_spell_53 ?_
    refine lv_goto (tgt := 58) hx hb dX9_spell_54 (by decide) ?_
    exact b_X9_spell_58 C _ _ _ _ _ _ _ _ _ h  hP hS (lv_sub hl [1, 2, 3, 4] rfl)
set_option maxRecDepth 100000 in
set_option maxHeartbeats 4000000 in
theorem e_X9_spell {p : Program} {l : Launch} {e : Env} {s : State} {m : MethodId} {args : Array Value} {below : List Frame} {meth : Method} {c : Code} {dC : Nat → ClassId} {dI : Nat → Nat → Nat} {cA : Nat → ClassId} {P : Nat → Nat} (C : CtxM dC dI cA P p s m args meth c cX9_spell 7 (some .int) RX9) {post : Int32 → St → Prop} : ∀ (v1 : Int32) (v2 : Int32) (S : St) (H : Heap) (locs : List Loc) (ls : Array Slot), w_X9_spell v1 v2 post S → VM dC dI cA P S H → va_S (PA 25 P) s.heap H locs → lv_has ls 7 [(0, .ref (P 0)), (1, .int v1), (2, .int v2)] → W p l e ({ frames := 2, cells := 0, slots := 0, locals := 47 } : Room) s m args below meth c H locs 0 0 (MQ below (va_Qi post (fun u t => VM dC dI cA P u t.heap) (PA 25 P)) args s 0 0 (PA 25 P)) (F0 m 0 ls []) := by
  have C := C
  obtain ⟨hI, hKX, ⟨hx, hb, hml, hown, hts⟩, hr, hlocks⟩ := id C
  have hK := hKX
  intro v1 v2 S H locs ls h hP hS hl
  rw [w_X9_spell] at h
  refine lv_aload_n hx hb dX9_spell_0 rfl (lv_at hl 0 rfl) ?_
  refine lv_iload_n hx hb dX9_spell_1 rfl (lv_at hl 1 rfl) ?_
  refine va_calli (va_runV (As := [.int _]) (rest := []) ⟨hx, hb, hml, hown, hts⟩ (c_X9_isFraction l hI h) (cwV 1 hts gv_X9_126 rfl rfl rfl hv_X9_isFraction ⟨Nat.le_of_ble_eq_true rfl, Nat.le_of_ble_eq_true rfl⟩) (preV_M hKX hP hS (kM_lt (rfl : kdM 0 = 9)) (eM9 (rfl : kdM 0 = 9)) rfl) rfl rfl hl.1 rfl (lv_room (Nat.le_of_ble_eq_true rfl)) dX9_spell_2 ⟨Nat.le_of_ble_eq_true rfl, Nat.le_of_ble_eq_true rfl⟩) hS (fun _ _ h => h) (fun _ h => h) (fun r2 S1 t H locs ht _ h hB _ _ hS => ?_)
  have hP : VM dC dI cA P S1 H := by rw [← ht]; exact hB
  refine lv_if_eq (tgt := 13) hx hb dX9_spell_5 (by decide) (fun c3 => ?_) (fun c3 => ?_)
  · replace h := h.1 c3
    refine lv_iconst (v := (-1)) hx hb dX9_spell_13 (by decide) ?_
    exact g_iret hx hb hr hlocks h hP hS dX9_spell_14
  · replace h := h.2 c3
    refine lv_iload_n hx hb dX9_spell_8 rfl (lv_at hl 2 rfl) ?_
    refine lv_iconst (v := (-1)) hx hb dX9_spell_9 (by decide) ?_
    refine lv_icmp_ge (tgt := 15) hx hb dX9_spell_10 (by decide) (fun c4 => ?_) (fun c4 => ?_)
    · replace h := h.1 c4
      refine lv_aload_n hx hb dX9_spell_15 rfl (lv_at hl 0 rfl) ?_
      refine lv_iload_n hx hb dX9_spell_16 rfl (lv_at hl 1 rfl) ?_
      refine va_callv (va_runV (As := [.int _]) (rest := []) ⟨hx, hb, hml, hown, hts⟩ (c_X9_looksAt l hI h) (cwV 1 hts gv_X9_137 rfl rfl rfl hv_X9_looksAt ⟨Nat.le_of_ble_eq_true rfl, Nat.le_of_ble_eq_true rfl⟩) (preV_M hKX hP hS (kM_lt (rfl : kdM 0 = 9)) (eM9 (rfl : kdM 0 = 9)) rfl) rfl rfl hl.1 rfl (lv_room (Nat.le_of_ble_eq_true rfl)) dX9_spell_17 ⟨Nat.le_of_ble_eq_true rfl, Nat.le_of_ble_eq_true rfl⟩) hS (fun _ _ h => h) (fun _ h => h) (fun S5 t H locs ht _ h hB _ _ hS => ?_)
      have hP : VM dC dI cA P S5 H := by rw [← ht]; exact hB
      refine lv_aload_n hx hb dX9_spell_20 rfl (lv_at hl 0 rfl) ?_
      refine lv_iload_n hx hb dX9_spell_21 rfl (lv_at hl 1 rfl) ?_
      refine va_calli (va_runV (As := [.int _]) (rest := []) ⟨hx, hb, hml, hown, hts⟩ (c_X9_wholeSize l hI h) (cwV 1 hts gv_X9_230 rfl rfl rfl hv_X9_wholeSize ⟨Nat.le_of_ble_eq_true rfl, Nat.le_of_ble_eq_true rfl⟩) (preV_M hKX hP hS (kM_lt (rfl : kdM 0 = 9)) (eM9 (rfl : kdM 0 = 9)) rfl) rfl rfl hl.1 rfl (lv_room (Nat.le_of_ble_eq_true rfl)) dX9_spell_22 ⟨Nat.le_of_ble_eq_true rfl, Nat.le_of_ble_eq_true rfl⟩) hS (fun _ _ h => h) (fun _ h => h) (fun r7 S6 t H locs ht _ h hB _ _ hS => ?_)
      have hP : VM dC dI cA P S6 H := by rw [← ht]; exact hB
      refine lv_istore_n (lv' := [(3, .int r7), (0, .ref (P 0)), (1, .int v1), (2, .int v2)]) hx hb dX9_spell_25 rfl hl (by decide) rfl (fun ls hl => ?_)
      refine lv_aload_n hx hb dX9_spell_26 rfl (lv_at hl 1 rfl) ?_
      refine g_get (v := .ref (P 5)) hx hb hts inG_X9 hown hK hP (kM_lt (rfl : kdM 0 = 9)) (eM9 (rfl : kdM 0 = 9)) rfl 8 (by decide) G_fl_X9_24 rfl rfl dX9_spell_27 ?_
      refine lv_iconst (v := 0) hx hb dX9_spell_30 (by decide) ?_
      refine g_ald hx hb hK hP (kM_lt (rfl : kdM 5 = 10)) 0 (eM10 (rfl : kdM 5 = 10)) rfl h.1 dX9_spell_31 ?_
      replace h := h.2
      refine lv_if_eq (tgt := 39) hx hb dX9_spell_32 (by decide) (fun c8 => ?_) (fun c8 => ?_)
      · replace h := h.1 c8
        refine lv_iconst (v := 0) hx hb dX9_spell_39 (by decide) ?_
        exact b_X9_spell_40 C _ _ _ _ _ _ _ _ h  hP hS (lv_sub hl [1, 2, 3, 0] rfl)
      · replace h := h.2 c8
        refine lv_iconst (v := 1) hx hb dX9_spell_35 (by decide) ?_
        refine lv_goto (tgt := 40) hx hb dX9_spell_36 (by decide) ?_
        exact b_X9_spell_40 C _ _ _ _ _ _ _ _ h  hP hS (lv_sub hl [1, 2, 3, 0] rfl)
    · replace h := h.2 c4
      refine lv_iconst (v := (-1)) hx hb dX9_spell_13 (by decide) ?_
      exact g_iret hx hb hr hlocks h hP hS dX9_spell_14
set_option maxRecDepth 100000 in
set_option maxHeartbeats 4000000 in
theorem c_X9_spell (l : Launch) {dC : Nat → ClassId} {dI : Nat → Nat → Nat} {cA : Nat → ClassId} {P : Nat → Nat} (hI : PInj 25 P) {v1 : Int32} {v2 : Int32}  {post : Int32 → St → Prop} {S : St} (h : w_X9_spell v1 v2 post S) : Met l yX9_spell (wW yX9_spell cX9_spell 7 (some .int)) ({ frames := 2, cells := 0, slots := 0, locals := 47 } : Room) (va_Pc [.ref (P 0), .int v1, .int v2] (PreM dC dI cA P S)) (va_Qi post (fun u t => VM dC dI cA P u t.heap) (PA 25 P)) 0 0 (PA 25 P) := by
  refine Met.ofW (cc := cX9_spell) (maxL := 7) (ret := (some .int)) (by decide) rfl ?_
  intro p e s m args below meth c s₁ B hml hv
  obtain ⟨rfl, hP, hKX⟩ := hv
  have hts : ∀ w ∈ G, w.before [.ref (P 0), .int v1, .int v2].toArray s = true := fun w hw => atoms_spec (ws := wW yX9_spell cX9_spell 7 (some .int)) B.pre w (List.mem_cons_of_mem _ hw)
  have C : CtxM dC dI cA P p s m [.ref (P 0), .int v1, .int v2].toArray meth c cX9_spell 7 (some .int) RX9 := ⟨hI, hKX, ⟨B.exec, B.bytes, hml, findClass_of_methodNamed B.named, hts⟩, B.returns, B.notSynchronized⟩
  have hS : va_S (PA 25 P) s.heap s.heap [] := va_S.rf
  have hl := lv_entry ([.ref (P 0), .int v1, .int v2]) (n := 7) (Nat.le_of_ble_eq_true rfl)
  rw [lg_entry_eq]
  generalize (lg_sl ([.ref (P 0), .int v1, .int v2]) ++ List.replicate (7 - (lg_sl ([.ref (P 0), .int v1, .int v2])).length) Slot.unset).toArray = ls at hl ⊢
  have hl : lv_has ls 7 [(0, .ref (P 0)), (1, .int v1), (2, .int v2)] := hl
  exact e_X9_spell C _ _ _ _ _ _ h  hP hS hl
set_option maxRecDepth 100000 in
set_option maxHeartbeats 4000000 in
theorem e_X9_digitAt {p : Program} {l : Launch} {e : Env} {s : State} {m : MethodId} {args : Array Value} {below : List Frame} {meth : Method} {c : Code} {dC : Nat → ClassId} {dI : Nat → Nat → Nat} {cA : Nat → ClassId} {P : Nat → Nat} (C : CtxM dC dI cA P p s m args meth c cX9_digitAt 1 (some .int) RX9) {post : Int32 → St → Prop} : ∀  (S : St) (H : Heap) (locs : List Loc) (ls : Array Slot), w_X9_digitAt  post S → VM dC dI cA P S H → va_S (PA 25 P) s.heap H locs → lv_has ls 1 [(0, .ref (P 0))] → W p l e ({ frames := 2, cells := 0, slots := 0, locals := 47 } : Room) s m args below meth c H locs 0 0 (MQ below (va_Qi post (fun u t => VM dC dI cA P u t.heap) (PA 25 P)) args s 0 0 (PA 25 P)) (F0 m 0 ls []) := by
  have C := C
  obtain ⟨hI, hKX, ⟨hx, hb, hml, hown, hts⟩, hr, hlocks⟩ := id C
  have hK := hKX
  intro S H locs ls h hP hS hl
  rw [w_X9_digitAt] at h
  refine lv_aload_n hx hb dX9_digitAt_0 rfl (lv_at hl 0 rfl) ?_
  refine lv_bipush (v := 48) hx hb dX9_digitAt_1 (by decide) ?_
  refine lv_bipush (v := 57) hx hb dX9_digitAt_3 (by decide) ?_
  refine va_calli (va_runV (As := [.int _, .int _]) (rest := []) ⟨hx, hb, hml, hown, hts⟩ (c_X9_isAt l hI h) (cwV 2 hts gv_X9_239 rfl rfl rfl hv_X9_isAt ⟨Nat.le_of_ble_eq_true rfl, Nat.le_of_ble_eq_true rfl⟩) (preV_M hKX hP hS (kM_lt (rfl : kdM 0 = 9)) (eM9 (rfl : kdM 0 = 9)) rfl) rfl rfl hl.1 rfl (lv_room (Nat.le_of_ble_eq_true rfl)) dX9_digitAt_5 ⟨Nat.le_of_ble_eq_true rfl, Nat.le_of_ble_eq_true rfl⟩) hS (fun _ _ h => h) (fun _ h => h) (fun r2 S1 t H locs ht _ h hB _ _ hS => ?_)
  have hP : VM dC dI cA P S1 H := by rw [← ht]; exact hB
  refine lv_if_eq (tgt := 26) hx hb dX9_digitAt_8 (by decide) (fun c3 => ?_) (fun c3 => ?_)
  · replace h := h.1 c3
    refine lv_aload_n hx hb dX9_digitAt_26 rfl (lv_at hl 0 rfl) ?_
    refine lv_bipush (v := 97) hx hb dX9_digitAt_27 (by decide) ?_
    refine lv_bipush (v := 102) hx hb dX9_digitAt_29 (by decide) ?_
    refine va_calli (va_runV (As := [.int _, .int _]) (rest := []) ⟨hx, hb, hml, hown, hts⟩ (c_X9_isAt l hI h) (cwV 2 hts gv_X9_239 rfl rfl rfl hv_X9_isAt ⟨Nat.le_of_ble_eq_true rfl, Nat.le_of_ble_eq_true rfl⟩) (preV_M hKX hP hS (kM_lt (rfl : kdM 0 = 9)) (eM9 (rfl : kdM 0 = 9)) rfl) rfl rfl hl.1 rfl (lv_room (Nat.le_of_ble_eq_true rfl)) dX9_digitAt_31 ⟨Nat.le_of_ble_eq_true rfl, Nat.le_of_ble_eq_true rfl⟩) hS (fun _ _ h => h) (fun _ h => h) (fun r5 S4 t H locs ht _ h hB _ _ hS => ?_)
    have hP : VM dC dI cA P S4 H := by rw [← ht]; exact hB
    refine lv_if_eq (tgt := 55) hx hb dX9_digitAt_34 (by decide) (fun c6 => ?_) (fun c6 => ?_)
    · replace h := h.1 c6
      refine lv_bipush (v := 99) hx hb dX9_digitAt_55 (by decide) ?_
      exact g_iret hx hb hr hlocks h hP hS dX9_digitAt_57
    · replace h := h.2 c6
      refine lv_aload_n hx hb dX9_digitAt_37 rfl (lv_at hl 0 rfl) ?_
      refine g_get (v := .ref (P 13)) hx hb hts inG_X9 hown hK hP (kM_lt (rfl : kdM 0 = 9)) (eM9 (rfl : kdM 0 = 9)) rfl 20 (by decide) G_fl_X9_53 rfl rfl dX9_digitAt_38 ?_
      refine lv_aload_n hx hb dX9_digitAt_41 rfl (lv_at hl 0 rfl) ?_
      refine g_get (v := .int (S4.1 0 23)) hx hb hts inG_X9 hown hK hP (kM_lt (rfl : kdM 0 = 9)) (eM9 (rfl : kdM 0 = 9)) rfl 23 (by decide) G_fl_X9_218 rfl rfl dX9_digitAt_42 ?_
      replace h := h _ rfl
      refine g_ald hx hb hK hP (kM_lt (rfl : kdM 13 = 10)) 0 (eM10 (rfl : kdM 13 = 10)) rfl h.1 dX9_digitAt_45 ?_
      replace h := h.2
      refine lv_bipush (v := 97) hx hb dX9_digitAt_46 (by decide) ?_
      refine lv_isub hx hb dX9_digitAt_48 ?_
      refine lv_bipush (v := 10) hx hb dX9_digitAt_49 (by decide) ?_
      refine lv_iadd hx hb dX9_digitAt_51 ?_
      refine lv_goto (tgt := 57) hx hb dX9_digitAt_52 (by decide) ?_
      exact g_iret hx hb hr hlocks h hP hS dX9_digitAt_57
  · replace h := h.2 c3
    refine lv_aload_n hx hb dX9_digitAt_11 rfl (lv_at hl 0 rfl) ?_
    refine g_get (v := .ref (P 13)) hx hb hts inG_X9 hown hK hP (kM_lt (rfl : kdM 0 = 9)) (eM9 (rfl : kdM 0 = 9)) rfl 20 (by decide) G_fl_X9_53 rfl rfl dX9_digitAt_12 ?_
    refine lv_aload_n hx hb dX9_digitAt_15 rfl (lv_at hl 0 rfl) ?_
    refine g_get (v := .int (S1.1 0 23)) hx hb hts inG_X9 hown hK hP (kM_lt (rfl : kdM 0 = 9)) (eM9 (rfl : kdM 0 = 9)) rfl 23 (by decide) G_fl_X9_218 rfl rfl dX9_digitAt_16 ?_
    replace h := h _ rfl
    refine g_ald hx hb hK hP (kM_lt (rfl : kdM 13 = 10)) 0 (eM10 (rfl : kdM 13 = 10)) rfl h.1 dX9_digitAt_19 ?_
    replace h := h.2
    refine lv_bipush (v := 48) hx hb dX9_digitAt_20 (by decide) ?_
    refine lv_isub hx hb dX9_digitAt_22 ?_
    refine lv_goto (tgt := 57) hx hb dX9_digitAt_23 (by decide) ?_
    exact g_iret hx hb hr hlocks h hP hS dX9_digitAt_57
set_option maxRecDepth 100000 in
set_option maxHeartbeats 4000000 in
theorem c_X9_digitAt (l : Launch) {dC : Nat → ClassId} {dI : Nat → Nat → Nat} {cA : Nat → ClassId} {P : Nat → Nat} (hI : PInj 25 P)   {post : Int32 → St → Prop} {S : St} (h : w_X9_digitAt  post S) : Met l yX9_digitAt (wW yX9_digitAt cX9_digitAt 1 (some .int)) ({ frames := 2, cells := 0, slots := 0, locals := 47 } : Room) (va_Pc [.ref (P 0)] (PreM dC dI cA P S)) (va_Qi post (fun u t => VM dC dI cA P u t.heap) (PA 25 P)) 0 0 (PA 25 P) := by
  refine Met.ofW (cc := cX9_digitAt) (maxL := 1) (ret := (some .int)) (by decide) rfl ?_
  intro p e s m args below meth c s₁ B hml hv
  obtain ⟨rfl, hP, hKX⟩ := hv
  have hts : ∀ w ∈ G, w.before [.ref (P 0)].toArray s = true := fun w hw => atoms_spec (ws := wW yX9_digitAt cX9_digitAt 1 (some .int)) B.pre w (List.mem_cons_of_mem _ hw)
  have C : CtxM dC dI cA P p s m [.ref (P 0)].toArray meth c cX9_digitAt 1 (some .int) RX9 := ⟨hI, hKX, ⟨B.exec, B.bytes, hml, findClass_of_methodNamed B.named, hts⟩, B.returns, B.notSynchronized⟩
  have hS : va_S (PA 25 P) s.heap s.heap [] := va_S.rf
  have hl := lv_entry ([.ref (P 0)]) (n := 1) (Nat.le_of_ble_eq_true rfl)
  rw [lg_entry_eq]
  generalize (lg_sl ([.ref (P 0)]) ++ List.replicate (1 - (lg_sl ([.ref (P 0)])).length) Slot.unset).toArray = ls at hl ⊢
  have hl : lv_has ls 1 [(0, .ref (P 0))] := hl
  exact e_X9_digitAt C  _ _ _ _ h  hP hS hl
set_option maxRecDepth 100000 in
set_option maxHeartbeats 4000000 in
theorem b_X9_readsDigits_15 {p : Program} {l : Launch} {e : Env} {s : State} {m : MethodId} {args : Array Value} {below : List Frame} {meth : Method} {c : Code} {dC : Nat → ClassId} {dI : Nat → Nat → Nat} {cA : Nat → ClassId} {P : Nat → Nat} (C : CtxM dC dI cA P p s m args meth c cX9_readsDigits 2 none RX9) {post : St → Prop}  : ∀ (n : Nat) (v1 : Int32) (S : St) (H : Heap) (locs : List Loc) (ls : Array Slot), w_X9_readsDigits_15 post n v1 S → VM dC dI cA P S H → va_S (PA 25 P) s.heap H locs → lv_has ls 2 [(0, .ref (P 0)), (1, .int v1)] → W p l e ({ frames := 3, cells := 0, slots := 0, locals := 67 } : Room) s m args below meth c H locs 0 0 (MQ below (va_Qv post (fun u t => VM dC dI cA P u t.heap) (PA 25 P)) args s 0 0 (PA 25 P)) (F0 m 15 ls []) := by
  have C := C
  obtain ⟨hI, hKX, ⟨hx, hb, hml, hown, hts⟩, hr, hlocks⟩ := id C
  have hK := hKX
  intro n
  induction n with
  | zero =>
    intro v1 S H locs ls h hP hS hl
    simp only [w_X9_readsDigits_15] at h
  | succ n ih =>
    intro v1 S H locs ls h hP hS hl
    rw [w_X9_readsDigits_15] at h
    refine lv_aload_n hx hb dX9_readsDigits_15 rfl (lv_at hl 0 rfl) ?_
    refine g_get (v := .int (S.1 0 26)) hx hb hts inG_X9 hown hK hP (kM_lt (rfl : kdM 0 = 9)) (eM9 (rfl : kdM 0 = 9)) rfl 26 (by decide) G_fl_X9_249 rfl rfl dX9_readsDigits_16 ?_
    refine lv_iconst (v := 4) hx hb dX9_readsDigits_19 (by decide) ?_
    refine lv_icmp_ge (tgt := 82) hx hb dX9_readsDigits_20 (by decide) (fun c4 => ?_) (fun c4 => ?_)
    · replace h := h.1 c4
      exact g_vret hx hb hr hlocks h hP hS dX9_readsDigits_82
    · replace h := h.2 c4
      refine lv_aload_n hx hb dX9_readsDigits_23 rfl (lv_at hl 0 rfl) ?_
      refine va_calli (va_runV (As := []) (rest := []) ⟨hx, hb, hml, hown, hts⟩ (c_X9_digitAt l hI h) (cwV 0 hts gv_X9_252 rfl rfl rfl hv_X9_digitAt ⟨Nat.le_of_ble_eq_true rfl, Nat.le_of_ble_eq_true rfl⟩) (preV_M hKX hP hS (kM_lt (rfl : kdM 0 = 9)) (eM9 (rfl : kdM 0 = 9)) rfl) rfl rfl hl.1 rfl (lv_room (Nat.le_of_ble_eq_true rfl)) dX9_readsDigits_24 ⟨Nat.le_of_ble_eq_true rfl, Nat.le_of_ble_eq_true rfl⟩) hS (fun _ _ h => h) (fun _ h => h) (fun r6 S5 t H locs ht _ h hB _ _ hS => ?_)
      have hP : VM dC dI cA P S5 H := by rw [← ht]; exact hB
      refine lv_iload_n hx hb dX9_readsDigits_27 rfl (lv_at hl 1 rfl) ?_
      refine lv_icmp_ge (tgt := 82) hx hb dX9_readsDigits_28 (by decide) (fun c7 => ?_) (fun c7 => ?_)
      · replace h := h.1 c7
        exact g_vret hx hb hr hlocks h hP hS dX9_readsDigits_82
      · replace h := h.2 c7
        refine lv_aload_n hx hb dX9_readsDigits_31 rfl (lv_at hl 0 rfl) ?_
        refine lv_aload_n hx hb dX9_readsDigits_32 rfl (lv_at hl 0 rfl) ?_
        refine g_get (v := .long (S5.2 0 24)) hx hb hts inG_X9 hown hK hP (kM_lt (rfl : kdM 0 = 9)) (eM9 (rfl : kdM 0 = 9)) rfl 24 (by decide) G_fl_X9_242 rfl rfl dX9_readsDigits_33 ?_
        refine lv_iload_n hx hb dX9_readsDigits_36 rfl (lv_at hl 1 rfl) ?_
        refine lv_i2l hx hb dX9_readsDigits_37 rfl ?_
        refine lv_lmul hx hb dX9_readsDigits_38 ?_
        refine lv_aload_n hx hb dX9_readsDigits_39 rfl (lv_at hl 0 rfl) ?_
        refine va_calli (va_runV (As := []) (rest := [.long _, .ref _]) ⟨hx, hb, hml, hown, hts⟩ (c_X9_digitAt l hI h) (cwV 0 hts gv_X9_252 rfl rfl rfl hv_X9_digitAt ⟨Nat.le_of_ble_eq_true rfl, Nat.le_of_ble_eq_true rfl⟩) (preV_M hKX hP hS (kM_lt (rfl : kdM 0 = 9)) (eM9 (rfl : kdM 0 = 9)) rfl) rfl rfl hl.1 rfl (lv_room (Nat.le_of_ble_eq_true rfl)) dX9_readsDigits_40 ⟨Nat.le_of_ble_eq_true rfl, Nat.le_of_ble_eq_true rfl⟩) hS (fun _ _ h => h) (fun _ h => h) (fun r9 S8 t H locs ht _ h hB _ _ hS => ?_)
        have hP : VM dC dI cA P S8 H := by rw [← ht]; exact hB
        refine lv_i2l hx hb dX9_readsDigits_43 rfl ?_
        refine lv_ladd hx hb dX9_readsDigits_44 ?_
        replace h := h _ rfl
        refine g_putL hx hb hts inG_X9 tyX9 tyX9_ok nmX9 hown hK hI hP hS (kM_lt (rfl : kdM 0 = 9)) (eM9 (rfl : kdM 0 = 9)) rfl 24 (by decide) G_fl_X9_242 rfl rfl (ty := .long) (by decide +kernel) rfl rfl (Nat.le_of_ble_eq_true rfl) rfl h dX9_readsDigits_45 (fun S11 H locs h hP hS => ?_)
        refine lv_aload_n hx hb dX9_readsDigits_48 rfl (lv_at hl 0 rfl) ?_
        refine lv_dup hx hb dX9_readsDigits_49 rfl ?_
        refine g_get (v := .long (S11.2 0 25)) hx hb hts inG_X9 hown hK hP (kM_lt (rfl : kdM 0 = 9)) (eM9 (rfl : kdM 0 = 9)) rfl 25 (by decide) G_fl_X9_246 rfl rfl dX9_readsDigits_50 ?_
        refine lv_iload_n hx hb dX9_readsDigits_53 rfl (lv_at hl 1 rfl) ?_
        refine lv_i2l hx hb dX9_readsDigits_54 rfl ?_
        refine lv_lmul hx hb dX9_readsDigits_55 ?_
        replace h := h _ rfl
        refine g_putL hx hb hts inG_X9 tyX9 tyX9_ok nmX9 hown hK hI hP hS (kM_lt (rfl : kdM 0 = 9)) (eM9 (rfl : kdM 0 = 9)) rfl 25 (by decide) G_fl_X9_246 rfl rfl (ty := .long) (by decide +kernel) rfl rfl (Nat.le_of_ble_eq_true rfl) rfl h dX9_readsDigits_56 (fun S13 H locs h hP hS => ?_)
        refine lv_aload_n hx hb dX9_readsDigits_59 rfl (lv_at hl 0 rfl) ?_
        refine lv_dup hx hb dX9_readsDigits_60 rfl ?_
        refine g_get (v := .int (S13.1 0 26)) hx hb hts inG_X9 hown hK hP (kM_lt (rfl : kdM 0 = 9)) (eM9 (rfl : kdM 0 = 9)) rfl 26 (by decide) G_fl_X9_249 rfl rfl dX9_readsDigits_61 ?_
        refine lv_iconst (v := 1) hx hb dX9_readsDigits_64 (by decide) ?_
        refine lv_iadd hx hb dX9_readsDigits_65 ?_
        replace h := h _ rfl
        refine g_putI hx hb hts inG_X9 tyX9 tyX9_ok nmX9 hown hK hI hP hS (kM_lt (rfl : kdM 0 = 9)) (eM9 (rfl : kdM 0 = 9)) rfl 26 (by decide) G_fl_X9_249 rfl rfl (ty := .int) (by decide +kernel) rfl rfl (Nat.le_of_ble_eq_true rfl) rfl h dX9_readsDigits_66 (fun S15 H locs h hP hS => ?_)
        refine lv_aload_n hx hb dX9_readsDigits_69 rfl (lv_at hl 0 rfl) ?_
        refine lv_dup hx hb dX9_readsDigits_70 rfl ?_
        refine g_get (v := .int (S15.1 0 23)) hx hb hts inG_X9 hown hK hP (kM_lt (rfl : kdM 0 = 9)) (eM9 (rfl : kdM 0 = 9)) rfl 23 (by decide) G_fl_X9_218 rfl rfl dX9_readsDigits_71 ?_
        refine lv_iconst (v := 1) hx hb dX9_readsDigits_74 (by decide) ?_
        refine lv_iadd hx hb dX9_readsDigits_75 ?_
        replace h := h _ rfl
        refine g_putI hx hb hts inG_X9 tyX9 tyX9_ok nmX9 hown hK hI hP hS (kM_lt (rfl : kdM 0 = 9)) (eM9 (rfl : kdM 0 = 9)) rfl 23 (by decide) G_fl_X9_218 rfl rfl (ty := .int) (by decide +kernel) rfl rfl (Nat.le_of_ble_eq_true rfl) rfl h dX9_readsDigits_76 (fun S17 H locs h hP hS => ?_)
        refine lv_goto (tgt := 15) hx hb dX9_readsDigits_79 (by decide) ?_
        exact ih _ _ _ _ _ h  hP hS (lv_sub hl [0, 1] rfl)
set_option maxRecDepth 100000 in
set_option maxHeartbeats 4000000 in
theorem e_X9_readsDigits {p : Program} {l : Launch} {e : Env} {s : State} {m : MethodId} {args : Array Value} {below : List Frame} {meth : Method} {c : Code} {dC : Nat → ClassId} {dI : Nat → Nat → Nat} {cA : Nat → ClassId} {P : Nat → Nat} (C : CtxM dC dI cA P p s m args meth c cX9_readsDigits 2 none RX9) {post : St → Prop} : ∀ (v1 : Int32) (S : St) (H : Heap) (locs : List Loc) (ls : Array Slot), w_X9_readsDigits v1 post S → VM dC dI cA P S H → va_S (PA 25 P) s.heap H locs → lv_has ls 2 [(0, .ref (P 0)), (1, .int v1)] → W p l e ({ frames := 3, cells := 0, slots := 0, locals := 67 } : Room) s m args below meth c H locs 0 0 (MQ below (va_Qv post (fun u t => VM dC dI cA P u t.heap) (PA 25 P)) args s 0 0 (PA 25 P)) (F0 m 0 ls []) := by
  have C := C
  obtain ⟨hI, hKX, ⟨hx, hb, hml, hown, hts⟩, hr, hlocks⟩ := id C
  have hK := hKX
  intro v1 S H locs ls h hP hS hl
  rw [w_X9_readsDigits] at h
  refine lv_aload_n hx hb dX9_readsDigits_0 rfl (lv_at hl 0 rfl) ?_
  refine lv_lconst (v := 0) hx hb dX9_readsDigits_1 (by decide) ?_
  refine g_putL hx hb hts inG_X9 tyX9 tyX9_ok nmX9 hown hK hI hP hS (kM_lt (rfl : kdM 0 = 9)) (eM9 (rfl : kdM 0 = 9)) rfl 24 (by decide) G_fl_X9_242 rfl rfl (ty := .long) (by decide +kernel) rfl rfl (Nat.le_of_ble_eq_true rfl) rfl h dX9_readsDigits_2 (fun S1 H locs h hP hS => ?_)
  refine lv_aload_n hx hb dX9_readsDigits_5 rfl (lv_at hl 0 rfl) ?_
  refine lv_lconst (v := 1) hx hb dX9_readsDigits_6 (by decide) ?_
  refine g_putL hx hb hts inG_X9 tyX9 tyX9_ok nmX9 hown hK hI hP hS (kM_lt (rfl : kdM 0 = 9)) (eM9 (rfl : kdM 0 = 9)) rfl 25 (by decide) G_fl_X9_246 rfl rfl (ty := .long) (by decide +kernel) rfl rfl (Nat.le_of_ble_eq_true rfl) rfl h dX9_readsDigits_7 (fun S2 H locs h hP hS => ?_)
  refine lv_aload_n hx hb dX9_readsDigits_10 rfl (lv_at hl 0 rfl) ?_
  refine lv_iconst (v := 0) hx hb dX9_readsDigits_11 (by decide) ?_
  refine g_putI hx hb hts inG_X9 tyX9 tyX9_ok nmX9 hown hK hI hP hS (kM_lt (rfl : kdM 0 = 9)) (eM9 (rfl : kdM 0 = 9)) rfl 26 (by decide) G_fl_X9_249 rfl rfl (ty := .int) (by decide +kernel) rfl rfl (Nat.le_of_ble_eq_true rfl) rfl h dX9_readsDigits_12 (fun S3 H locs h hP hS => ?_)
  obtain ⟨n18, h⟩ := h
  exact b_X9_readsDigits_15 C n18 _ _ _ _ _ h  hP hS (lv_sub hl [0, 1] rfl)
set_option maxRecDepth 100000 in
set_option maxHeartbeats 4000000 in
theorem c_X9_readsDigits (l : Launch) {dC : Nat → ClassId} {dI : Nat → Nat → Nat} {cA : Nat → ClassId} {P : Nat → Nat} (hI : PInj 25 P) {v1 : Int32}  {post : St → Prop} {S : St} (h : w_X9_readsDigits v1 post S) : Met l yX9_readsDigits (wW yX9_readsDigits cX9_readsDigits 2 none) ({ frames := 3, cells := 0, slots := 0, locals := 67 } : Room) (va_Pc [.ref (P 0), .int v1] (PreM dC dI cA P S)) (va_Qv post (fun u t => VM dC dI cA P u t.heap) (PA 25 P)) 0 0 (PA 25 P) := by
  refine Met.ofW (cc := cX9_readsDigits) (maxL := 2) (ret := none) (by decide) rfl ?_
  intro p e s m args below meth c s₁ B hml hv
  obtain ⟨rfl, hP, hKX⟩ := hv
  have hts : ∀ w ∈ G, w.before [.ref (P 0), .int v1].toArray s = true := fun w hw => atoms_spec (ws := wW yX9_readsDigits cX9_readsDigits 2 none) B.pre w (List.mem_cons_of_mem _ hw)
  have C : CtxM dC dI cA P p s m [.ref (P 0), .int v1].toArray meth c cX9_readsDigits 2 none RX9 := ⟨hI, hKX, ⟨B.exec, B.bytes, hml, findClass_of_methodNamed B.named, hts⟩, B.returns, B.notSynchronized⟩
  have hS : va_S (PA 25 P) s.heap s.heap [] := va_S.rf
  have hl := lv_entry ([.ref (P 0), .int v1]) (n := 2) (Nat.le_of_ble_eq_true rfl)
  rw [lg_entry_eq]
  generalize (lg_sl ([.ref (P 0), .int v1]) ++ List.replicate (2 - (lg_sl ([.ref (P 0), .int v1])).length) Slot.unset).toArray = ls at hl ⊢
  have hl : lv_has ls 2 [(0, .ref (P 0)), (1, .int v1)] := hl
  exact e_X9_readsDigits C _ _ _ _ _ h  hP hS hl
set_option maxRecDepth 100000 in
set_option maxHeartbeats 4000000 in
theorem e_X9_isNumeral {p : Program} {l : Launch} {e : Env} {s : State} {m : MethodId} {args : Array Value} {below : List Frame} {meth : Method} {c : Code} {dC : Nat → ClassId} {dI : Nat → Nat → Nat} {cA : Nat → ClassId} {P : Nat → Nat} (C : CtxM dC dI cA P p s m args meth c cX9_isNumeral 3 (some .boolean) RX9) {post : Int32 → St → Prop} : ∀ (v1 : Int32) (S : St) (H : Heap) (locs : List Loc) (ls : Array Slot), w_X9_isNumeral v1 post S → VM dC dI cA P S H → va_S (PA 25 P) s.heap H locs → lv_has ls 3 [(0, .ref (P 0)), (1, .int v1)] → W p l e ({ frames := 4, cells := 0, slots := 0, locals := 88 } : Room) s m args below meth c H locs 0 0 (MQ below (va_Qi post (fun u t => VM dC dI cA P u t.heap) (PA 25 P)) args s 0 0 (PA 25 P)) (F0 m 0 ls []) := by
  have C := C
  obtain ⟨hI, hKX, ⟨hx, hb, hml, hown, hts⟩, hr, hlocks⟩ := id C
  have hK := hKX
  intro v1 S H locs ls h hP hS hl
  rw [w_X9_isNumeral] at h
  refine lv_aload_n hx hb dX9_isNumeral_0 rfl (lv_at hl 0 rfl) ?_
  refine lv_iload_n hx hb dX9_isNumeral_1 rfl (lv_at hl 1 rfl) ?_
  refine va_callv (va_runV (As := [.int _]) (rest := []) ⟨hx, hb, hml, hown, hts⟩ (c_X9_readsDigits l hI h) (cwV 1 hts gv_X9_255 rfl rfl rfl hv_X9_readsDigits ⟨Nat.le_of_ble_eq_true rfl, Nat.le_of_ble_eq_true rfl⟩) (preV_M hKX hP hS (kM_lt (rfl : kdM 0 = 9)) (eM9 (rfl : kdM 0 = 9)) rfl) rfl rfl hl.1 rfl (lv_room (Nat.le_of_ble_eq_true rfl)) dX9_isNumeral_2 ⟨Nat.le_of_ble_eq_true rfl, Nat.le_of_ble_eq_true rfl⟩) hS (fun _ _ h => h) (fun _ h => h) (fun S1 t H locs ht _ h hB _ _ hS => ?_)
  have hP : VM dC dI cA P S1 H := by rw [← ht]; exact hB
  refine lv_aload_n hx hb dX9_isNumeral_5 rfl (lv_at hl 0 rfl) ?_
  refine g_get (v := .int (S1.1 0 26)) hx hb hts inG_X9 hown hK hP (kM_lt (rfl : kdM 0 = 9)) (eM9 (rfl : kdM 0 = 9)) rfl 26 (by decide) G_fl_X9_249 rfl rfl dX9_isNumeral_6 ?_
  refine lv_if_ne (tgt := 14) hx hb dX9_isNumeral_9 (by decide) (fun c2 => ?_) (fun c2 => ?_)
  · replace h := h.2 c2
    refine lv_aload_n hx hb dX9_isNumeral_14 rfl (lv_at hl 0 rfl) ?_
    refine lv_aload_n hx hb dX9_isNumeral_15 rfl (lv_at hl 0 rfl) ?_
    refine g_get (v := .long (S1.2 0 24)) hx hb hts inG_X9 hown hK hP (kM_lt (rfl : kdM 0 = 9)) (eM9 (rfl : kdM 0 = 9)) rfl 24 (by decide) G_fl_X9_242 rfl rfl dX9_isNumeral_16 ?_
    replace h := h _ rfl
    refine g_putL hx hb hts inG_X9 tyX9 tyX9_ok nmX9 hown hK hI hP hS (kM_lt (rfl : kdM 0 = 9)) (eM9 (rfl : kdM 0 = 9)) rfl 27 (by decide) G_fl_X9_258 rfl rfl (ty := .long) (by decide +kernel) rfl rfl (Nat.le_of_ble_eq_true rfl) rfl h dX9_isNumeral_19 (fun S4 H locs h hP hS => ?_)
    refine lv_aload_n hx hb dX9_isNumeral_22 rfl (lv_at hl 0 rfl) ?_
    refine lv_lconst (v := 1) hx hb dX9_isNumeral_23 (by decide) ?_
    refine g_putL hx hb hts inG_X9 tyX9 tyX9_ok nmX9 hown hK hI hP hS (kM_lt (rfl : kdM 0 = 9)) (eM9 (rfl : kdM 0 = 9)) rfl 28 (by decide) G_fl_X9_261 rfl rfl (ty := .long) (by decide +kernel) rfl rfl (Nat.le_of_ble_eq_true rfl) rfl h dX9_isNumeral_24 (fun S5 H locs h hP hS => ?_)
    refine lv_aload_n hx hb dX9_isNumeral_27 rfl (lv_at hl 0 rfl) ?_
    refine lv_bipush (v := 46) hx hb dX9_isNumeral_28 (by decide) ?_
    refine lv_bipush (v := 46) hx hb dX9_isNumeral_30 (by decide) ?_
    refine va_calli (va_runV (As := [.int _, .int _]) (rest := []) ⟨hx, hb, hml, hown, hts⟩ (c_X9_isAt l hI h) (cwV 2 hts gv_X9_239 rfl rfl rfl hv_X9_isAt ⟨Nat.le_of_ble_eq_true rfl, Nat.le_of_ble_eq_true rfl⟩) (preV_M hKX hP hS (kM_lt (rfl : kdM 0 = 9)) (eM9 (rfl : kdM 0 = 9)) rfl) rfl rfl hl.1 rfl (lv_room (Nat.le_of_ble_eq_true rfl)) dX9_isNumeral_32 ⟨Nat.le_of_ble_eq_true rfl, Nat.le_of_ble_eq_true rfl⟩) hS (fun _ _ h => h) (fun _ h => h) (fun r7 S6 t H locs ht _ h hB _ _ hS => ?_)
    have hP : VM dC dI cA P S6 H := by rw [← ht]; exact hB
    refine lv_if_ne (tgt := 55) hx hb dX9_isNumeral_35 (by decide) (fun c8 => ?_) (fun c8 => ?_)
    · replace h := h.2 c8
      refine lv_aload_n hx hb dX9_isNumeral_55 rfl (lv_at hl 0 rfl) ?_
      refine lv_dup hx hb dX9_isNumeral_56 rfl ?_
      refine g_get (v := .int (S6.1 0 23)) hx hb hts inG_X9 hown hK hP (kM_lt (rfl : kdM 0 = 9)) (eM9 (rfl : kdM 0 = 9)) rfl 23 (by decide) G_fl_X9_218 rfl rfl dX9_isNumeral_57 ?_
      refine lv_iconst (v := 1) hx hb dX9_isNumeral_60 (by decide) ?_
      refine lv_iadd hx hb dX9_isNumeral_61 ?_
      replace h := h _ rfl
      refine g_putI hx hb hts inG_X9 tyX9 tyX9_ok nmX9 hown hK hI hP hS (kM_lt (rfl : kdM 0 = 9)) (eM9 (rfl : kdM 0 = 9)) rfl 23 (by decide) G_fl_X9_218 rfl rfl (ty := .int) (by decide +kernel) rfl rfl (Nat.le_of_ble_eq_true rfl) rfl h dX9_isNumeral_62 (fun S10 H locs h hP hS => ?_)
      refine lv_aload_n hx hb dX9_isNumeral_65 rfl (lv_at hl 0 rfl) ?_
      refine lv_iload_n hx hb dX9_isNumeral_66 rfl (lv_at hl 1 rfl) ?_
      refine va_callv (va_runV (As := [.int _]) (rest := []) ⟨hx, hb, hml, hown, hts⟩ (c_X9_readsDigits l hI h) (cwV 1 hts gv_X9_255 rfl rfl rfl hv_X9_readsDigits ⟨Nat.le_of_ble_eq_true rfl, Nat.le_of_ble_eq_true rfl⟩) (preV_M hKX hP hS (kM_lt (rfl : kdM 0 = 9)) (eM9 (rfl : kdM 0 = 9)) rfl) rfl rfl hl.1 rfl (lv_room (Nat.le_of_ble_eq_true rfl)) dX9_isNumeral_67 ⟨Nat.le_of_ble_eq_true rfl, Nat.le_of_ble_eq_true rfl⟩) hS (fun _ _ h => h) (fun _ h => h) (fun S11 t H locs ht _ h hB _ _ hS => ?_)
      have hP : VM dC dI cA P S11 H := by rw [← ht]; exact hB
      refine lv_aload_n hx hb dX9_isNumeral_70 rfl (lv_at hl 0 rfl) ?_
      refine g_get (v := .int (S11.1 0 26)) hx hb hts inG_X9 hown hK hP (kM_lt (rfl : kdM 0 = 9)) (eM9 (rfl : kdM 0 = 9)) rfl 26 (by decide) G_fl_X9_249 rfl rfl dX9_isNumeral_71 ?_
      refine lv_topi (fun x12 ex12 => ?_)
      replace h := h x12 ex12
      refine lv_istore_n (lv' := [(2, .int x12), (0, .ref (P 0)), (1, .int v1)]) hx hb dX9_isNumeral_74 rfl hl (by decide) rfl (fun ls hl => ?_)
      refine lv_aload_n hx hb dX9_isNumeral_75 rfl (lv_at hl 1 rfl) ?_
      refine lv_aload_n hx hb dX9_isNumeral_76 rfl (lv_at hl 1 rfl) ?_
      refine g_get (v := .long (S11.2 0 27)) hx hb hts inG_X9 hown hK hP (kM_lt (rfl : kdM 0 = 9)) (eM9 (rfl : kdM 0 = 9)) rfl 27 (by decide) G_fl_X9_258 rfl rfl dX9_isNumeral_77 ?_
      refine lv_aload_n hx hb dX9_isNumeral_80 rfl (lv_at hl 1 rfl) ?_
      refine g_get (v := .long (S11.2 0 25)) hx hb hts inG_X9 hown hK hP (kM_lt (rfl : kdM 0 = 9)) (eM9 (rfl : kdM 0 = 9)) rfl 25 (by decide) G_fl_X9_246 rfl rfl dX9_isNumeral_81 ?_
      refine lv_lmul hx hb dX9_isNumeral_84 ?_
      refine lv_aload_n hx hb dX9_isNumeral_85 rfl (lv_at hl 1 rfl) ?_
      refine g_get (v := .long (S11.2 0 24)) hx hb hts inG_X9 hown hK hP (kM_lt (rfl : kdM 0 = 9)) (eM9 (rfl : kdM 0 = 9)) rfl 24 (by decide) G_fl_X9_242 rfl rfl dX9_isNumeral_86 ?_
      refine lv_ladd hx hb dX9_isNumeral_89 ?_
      replace h := h _ rfl
      refine g_putL hx hb hts inG_X9 tyX9 tyX9_ok nmX9 hown hK hI hP hS (kM_lt (rfl : kdM 0 = 9)) (eM9 (rfl : kdM 0 = 9)) rfl 27 (by decide) G_fl_X9_258 rfl rfl (ty := .long) (by decide +kernel) rfl rfl (Nat.le_of_ble_eq_true rfl) rfl h dX9_isNumeral_90 (fun S14 H locs h hP hS => ?_)
      refine lv_aload_n hx hb dX9_isNumeral_93 rfl (lv_at hl 1 rfl) ?_
      refine lv_aload_n hx hb dX9_isNumeral_94 rfl (lv_at hl 1 rfl) ?_
      refine g_get (v := .long (S14.2 0 25)) hx hb hts inG_X9 hown hK hP (kM_lt (rfl : kdM 0 = 9)) (eM9 (rfl : kdM 0 = 9)) rfl 25 (by decide) G_fl_X9_246 rfl rfl dX9_isNumeral_95 ?_
      replace h := h _ rfl
      refine g_putL hx hb hts inG_X9 tyX9 tyX9_ok nmX9 hown hK hI hP hS (kM_lt (rfl : kdM 0 = 9)) (eM9 (rfl : kdM 0 = 9)) rfl 28 (by decide) G_fl_X9_261 rfl rfl (ty := .long) (by decide +kernel) rfl rfl (Nat.le_of_ble_eq_true rfl) rfl h dX9_isNumeral_98 (fun S16 H locs h hP hS => ?_)
      refine lv_aload_n hx hb dX9_isNumeral_101 rfl (lv_at hl 1 rfl) ?_
      refine lv_bipush (v := 40) hx hb dX9_isNumeral_102 (by decide) ?_
      refine lv_bipush (v := 40) hx hb dX9_isNumeral_104 (by decide) ?_
      refine va_calli (va_runV (As := [.int _, .int _]) (rest := []) ⟨hx, hb, hml, hown, hts⟩ (c_X9_isAt l hI h) (cwV 2 hts gv_X9_239 rfl rfl rfl hv_X9_isAt ⟨Nat.le_of_ble_eq_true rfl, Nat.le_of_ble_eq_true rfl⟩) (preV_M hKX hP hS (kM_lt (rfl : kdM 0 = 9)) (eM9 (rfl : kdM 0 = 9)) rfl) rfl rfl hl.1 rfl (lv_room (Nat.le_of_ble_eq_true rfl)) dX9_isNumeral_106 ⟨Nat.le_of_ble_eq_true rfl, Nat.le_of_ble_eq_true rfl⟩) hS (fun _ _ h => h) (fun _ h => h) (fun r18 S17 t H locs ht _ h hB _ _ hS => ?_)
      have hP : VM dC dI cA P S17 H := by rw [← ht]; exact hB
      refine lv_if_ne (tgt := 133) hx hb dX9_isNumeral_109 (by decide) (fun c19 => ?_) (fun c19 => ?_)
      · replace h := h.2 c19
        refine lv_aload_n hx hb dX9_isNumeral_133 rfl (lv_at hl 1 rfl) ?_
        refine lv_dup hx hb dX9_isNumeral_134 rfl ?_
        refine g_get (v := .int (S17.1 0 23)) hx hb hts inG_X9 hown hK hP (kM_lt (rfl : kdM 0 = 9)) (eM9 (rfl : kdM 0 = 9)) rfl 23 (by decide) G_fl_X9_218 rfl rfl dX9_isNumeral_135 ?_
        refine lv_iconst (v := 1) hx hb dX9_isNumeral_138 (by decide) ?_
        refine lv_iadd hx hb dX9_isNumeral_139 ?_
        replace h := h _ rfl
        refine g_putI hx hb hts inG_X9 tyX9 tyX9_ok nmX9 hown hK hI hP hS (kM_lt (rfl : kdM 0 = 9)) (eM9 (rfl : kdM 0 = 9)) rfl 23 (by decide) G_fl_X9_218 rfl rfl (ty := .int) (by decide +kernel) rfl rfl (Nat.le_of_ble_eq_true rfl) rfl h dX9_isNumeral_140 (fun S21 H locs h hP hS => ?_)
        refine lv_aload_n hx hb dX9_isNumeral_143 rfl (lv_at hl 1 rfl) ?_
        refine lv_iload_n hx hb dX9_isNumeral_144 rfl (lv_at hl 2 rfl) ?_
        refine va_callv (va_runV (As := [.int _]) (rest := []) ⟨hx, hb, hml, hown, hts⟩ (c_X9_readsDigits l hI h) (cwV 1 hts gv_X9_255 rfl rfl rfl hv_X9_readsDigits ⟨Nat.le_of_ble_eq_true rfl, Nat.le_of_ble_eq_true rfl⟩) (preV_M hKX hP hS (kM_lt (rfl : kdM 0 = 9)) (eM9 (rfl : kdM 0 = 9)) rfl) rfl rfl hl.1 rfl (lv_room (Nat.le_of_ble_eq_true rfl)) dX9_isNumeral_145 ⟨Nat.le_of_ble_eq_true rfl, Nat.le_of_ble_eq_true rfl⟩) hS (fun _ _ h => h) (fun _ h => h) (fun S22 t H locs ht _ h hB _ _ hS => ?_)
        have hP : VM dC dI cA P S22 H := by rw [← ht]; exact hB
        refine lv_aload_n hx hb dX9_isNumeral_148 rfl (lv_at hl 1 rfl) ?_
        refine g_get (v := .int (S22.1 0 26)) hx hb hts inG_X9 hown hK hP (kM_lt (rfl : kdM 0 = 9)) (eM9 (rfl : kdM 0 = 9)) rfl 26 (by decide) G_fl_X9_249 rfl rfl dX9_isNumeral_149 ?_
        refine lv_if_eq (tgt := 166) hx hb dX9_isNumeral_152 (by decide) (fun c23 => ?_) (fun c23 => ?_)
        · replace h := h.1 c23
          refine lv_iconst (v := 0) hx hb dX9_isNumeral_166 (by decide) ?_
          exact g_zret hx hb hr hlocks bz_0 h hP hS dX9_isNumeral_167
        · replace h := h.2 c23
          refine lv_aload_n hx hb dX9_isNumeral_155 rfl (lv_at hl 1 rfl) ?_
          refine lv_bipush (v := 41) hx hb dX9_isNumeral_156 (by decide) ?_
          refine lv_bipush (v := 41) hx hb dX9_isNumeral_158 (by decide) ?_
          refine va_calli (va_runV (As := [.int _, .int _]) (rest := []) ⟨hx, hb, hml, hown, hts⟩ (c_X9_isAt l hI h) (cwV 2 hts gv_X9_239 rfl rfl rfl hv_X9_isAt ⟨Nat.le_of_ble_eq_true rfl, Nat.le_of_ble_eq_true rfl⟩) (preV_M hKX hP hS (kM_lt (rfl : kdM 0 = 9)) (eM9 (rfl : kdM 0 = 9)) rfl) rfl rfl hl.1 rfl (lv_room (Nat.le_of_ble_eq_true rfl)) dX9_isNumeral_160 ⟨Nat.le_of_ble_eq_true rfl, Nat.le_of_ble_eq_true rfl⟩) hS (fun _ _ h => h) (fun _ h => h) (fun r25 S24 t H locs ht _ h hB _ _ hS => ?_)
          have hP : VM dC dI cA P S24 H := by rw [← ht]; exact hB
          refine lv_if_ne (tgt := 168) hx hb dX9_isNumeral_163 (by decide) (fun c26 => ?_) (fun c26 => ?_)
          · replace h := h.2 c26
            refine lv_aload_n hx hb dX9_isNumeral_168 rfl (lv_at hl 1 rfl) ?_
            refine lv_dup hx hb dX9_isNumeral_169 rfl ?_
            refine g_get (v := .int (S24.1 0 23)) hx hb hts inG_X9 hown hK hP (kM_lt (rfl : kdM 0 = 9)) (eM9 (rfl : kdM 0 = 9)) rfl 23 (by decide) G_fl_X9_218 rfl rfl dX9_isNumeral_170 ?_
            refine lv_iconst (v := 1) hx hb dX9_isNumeral_173 (by decide) ?_
            refine lv_iadd hx hb dX9_isNumeral_174 ?_
            replace h := h _ rfl
            refine g_putI hx hb hts inG_X9 tyX9 tyX9_ok nmX9 hown hK hI hP hS (kM_lt (rfl : kdM 0 = 9)) (eM9 (rfl : kdM 0 = 9)) rfl 23 (by decide) G_fl_X9_218 rfl rfl (ty := .int) (by decide +kernel) rfl rfl (Nat.le_of_ble_eq_true rfl) rfl h dX9_isNumeral_175 (fun S28 H locs h hP hS => ?_)
            refine lv_aload_n hx hb dX9_isNumeral_178 rfl (lv_at hl 1 rfl) ?_
            refine lv_aload_n hx hb dX9_isNumeral_179 rfl (lv_at hl 1 rfl) ?_
            refine g_get (v := .long (S28.2 0 27)) hx hb hts inG_X9 hown hK hP (kM_lt (rfl : kdM 0 = 9)) (eM9 (rfl : kdM 0 = 9)) rfl 27 (by decide) G_fl_X9_258 rfl rfl dX9_isNumeral_180 ?_
            refine lv_aload_n hx hb dX9_isNumeral_183 rfl (lv_at hl 1 rfl) ?_
            refine g_get (v := .long (S28.2 0 25)) hx hb hts inG_X9 hown hK hP (kM_lt (rfl : kdM 0 = 9)) (eM9 (rfl : kdM 0 = 9)) rfl 25 (by decide) G_fl_X9_246 rfl rfl dX9_isNumeral_184 ?_
            refine lv_lconst (v := 1) hx hb dX9_isNumeral_187 (by decide) ?_
            refine lv_lsub hx hb dX9_isNumeral_188 ?_
            refine lv_lmul hx hb dX9_isNumeral_189 ?_
            refine lv_aload_n hx hb dX9_isNumeral_190 rfl (lv_at hl 1 rfl) ?_
            refine g_get (v := .long (S28.2 0 24)) hx hb hts inG_X9 hown hK hP (kM_lt (rfl : kdM 0 = 9)) (eM9 (rfl : kdM 0 = 9)) rfl 24 (by decide) G_fl_X9_242 rfl rfl dX9_isNumeral_191 ?_
            refine lv_ladd hx hb dX9_isNumeral_194 ?_
            replace h := h _ rfl
            refine g_putL hx hb hts inG_X9 tyX9 tyX9_ok nmX9 hown hK hI hP hS (kM_lt (rfl : kdM 0 = 9)) (eM9 (rfl : kdM 0 = 9)) rfl 27 (by decide) G_fl_X9_258 rfl rfl (ty := .long) (by decide +kernel) rfl rfl (Nat.le_of_ble_eq_true rfl) rfl h dX9_isNumeral_195 (fun S30 H locs h hP hS => ?_)
            refine lv_aload_n hx hb dX9_isNumeral_198 rfl (lv_at hl 1 rfl) ?_
            refine lv_aload_n hx hb dX9_isNumeral_199 rfl (lv_at hl 1 rfl) ?_
            refine g_get (v := .long (S30.2 0 28)) hx hb hts inG_X9 hown hK hP (kM_lt (rfl : kdM 0 = 9)) (eM9 (rfl : kdM 0 = 9)) rfl 28 (by decide) G_fl_X9_261 rfl rfl dX9_isNumeral_200 ?_
            refine lv_aload_n hx hb dX9_isNumeral_203 rfl (lv_at hl 1 rfl) ?_
            refine g_get (v := .long (S30.2 0 25)) hx hb hts inG_X9 hown hK hP (kM_lt (rfl : kdM 0 = 9)) (eM9 (rfl : kdM 0 = 9)) rfl 25 (by decide) G_fl_X9_246 rfl rfl dX9_isNumeral_204 ?_
            refine lv_lconst (v := 1) hx hb dX9_isNumeral_207 (by decide) ?_
            refine lv_lsub hx hb dX9_isNumeral_208 ?_
            refine lv_lmul hx hb dX9_isNumeral_209 ?_
            replace h := h _ rfl
            refine g_putL hx hb hts inG_X9 tyX9 tyX9_ok nmX9 hown hK hI hP hS (kM_lt (rfl : kdM 0 = 9)) (eM9 (rfl : kdM 0 = 9)) rfl 28 (by decide) G_fl_X9_261 rfl rfl (ty := .long) (by decide +kernel) rfl rfl (Nat.le_of_ble_eq_true rfl) rfl h dX9_isNumeral_210 (fun S32 H locs h hP hS => ?_)
            refine lv_aload_n hx hb dX9_isNumeral_213 rfl (lv_at hl 1 rfl) ?_
            refine g_get (v := .int (S32.1 0 23)) hx hb hts inG_X9 hown hK hP (kM_lt (rfl : kdM 0 = 9)) (eM9 (rfl : kdM 0 = 9)) rfl 23 (by decide) G_fl_X9_218 rfl rfl dX9_isNumeral_214 ?_
            refine lv_aload_n hx hb dX9_isNumeral_217 rfl (lv_at hl 1 rfl) ?_
            refine g_get (v := .int (S32.1 0 22)) hx hb hts inG_X9 hown hK hP (kM_lt (rfl : kdM 0 = 9)) (eM9 (rfl : kdM 0 = 9)) rfl 22 (by decide) G_fl_X9_221 rfl rfl dX9_isNumeral_218 ?_
            refine lv_icmp_ne (tgt := 228) hx hb dX9_isNumeral_221 (by decide) (fun c33 => ?_) (fun c33 => ?_)
            · replace h := h.2 c33
              refine lv_iconst (v := 0) hx hb dX9_isNumeral_228 (by decide) ?_
              exact g_zret hx hb hr hlocks bz_0 h hP hS dX9_isNumeral_229
            · replace h := h.1 c33
              refine lv_iconst (v := 1) hx hb dX9_isNumeral_224 (by decide) ?_
              refine lv_goto (tgt := 229) hx hb dX9_isNumeral_225 (by decide) ?_
              exact g_zret hx hb hr hlocks bz_1 h hP hS dX9_isNumeral_229
          · replace h := h.1 c26
            refine lv_iconst (v := 0) hx hb dX9_isNumeral_166 (by decide) ?_
            exact g_zret hx hb hr hlocks bz_0 h hP hS dX9_isNumeral_167
      · replace h := h.1 c19
        refine lv_iload_n hx hb dX9_isNumeral_112 rfl (lv_at hl 0 rfl) ?_
        refine lv_if_le (tgt := 131) hx hb dX9_isNumeral_113 (by decide) (fun c34 => ?_) (fun c34 => ?_)
        · replace h := h.1 c34
          refine lv_iconst (v := 0) hx hb dX9_isNumeral_131 (by decide) ?_
          exact g_zret hx hb hr hlocks bz_0 h hP hS dX9_isNumeral_132
        · replace h := h.2 c34
          refine lv_aload_n hx hb dX9_isNumeral_116 rfl (lv_at hl 1 rfl) ?_
          refine g_get (v := .int (S17.1 0 23)) hx hb hts inG_X9 hown hK hP (kM_lt (rfl : kdM 0 = 9)) (eM9 (rfl : kdM 0 = 9)) rfl 23 (by decide) G_fl_X9_218 rfl rfl dX9_isNumeral_117 ?_
          refine lv_aload_n hx hb dX9_isNumeral_120 rfl (lv_at hl 1 rfl) ?_
          refine g_get (v := .int (S17.1 0 22)) hx hb hts inG_X9 hown hK hP (kM_lt (rfl : kdM 0 = 9)) (eM9 (rfl : kdM 0 = 9)) rfl 22 (by decide) G_fl_X9_221 rfl rfl dX9_isNumeral_121 ?_
          refine lv_icmp_ne (tgt := 131) hx hb dX9_isNumeral_124 (by decide) (fun c35 => ?_) (fun c35 => ?_)
          · replace h := h.2 c35
            refine lv_iconst (v := 0) hx hb dX9_isNumeral_131 (by decide) ?_
            exact g_zret hx hb hr hlocks bz_0 h hP hS dX9_isNumeral_132
          · replace h := h.1 c35
            refine lv_iconst (v := 1) hx hb dX9_isNumeral_127 (by decide) ?_
            refine lv_goto (tgt := 132) hx hb dX9_isNumeral_128 (by decide) ?_
            exact g_zret hx hb hr hlocks bz_1 h hP hS dX9_isNumeral_132
    · replace h := h.1 c8
      refine lv_aload_n hx hb dX9_isNumeral_38 rfl (lv_at hl 0 rfl) ?_
      refine g_get (v := .int (S6.1 0 23)) hx hb hts inG_X9 hown hK hP (kM_lt (rfl : kdM 0 = 9)) (eM9 (rfl : kdM 0 = 9)) rfl 23 (by decide) G_fl_X9_218 rfl rfl dX9_isNumeral_39 ?_
      refine lv_aload_n hx hb dX9_isNumeral_42 rfl (lv_at hl 0 rfl) ?_
      refine g_get (v := .int (S6.1 0 22)) hx hb hts inG_X9 hown hK hP (kM_lt (rfl : kdM 0 = 9)) (eM9 (rfl : kdM 0 = 9)) rfl 22 (by decide) G_fl_X9_221 rfl rfl dX9_isNumeral_43 ?_
      refine lv_icmp_ne (tgt := 53) hx hb dX9_isNumeral_46 (by decide) (fun c36 => ?_) (fun c36 => ?_)
      · replace h := h.2 c36
        refine lv_iconst (v := 0) hx hb dX9_isNumeral_53 (by decide) ?_
        exact g_zret hx hb hr hlocks bz_0 h hP hS dX9_isNumeral_54
      · replace h := h.1 c36
        refine lv_iconst (v := 1) hx hb dX9_isNumeral_49 (by decide) ?_
        refine lv_goto (tgt := 54) hx hb dX9_isNumeral_50 (by decide) ?_
        exact g_zret hx hb hr hlocks bz_1 h hP hS dX9_isNumeral_54
  · replace h := h.1 c2
    refine lv_iconst (v := 0) hx hb dX9_isNumeral_12 (by decide) ?_
    exact g_zret hx hb hr hlocks bz_0 h hP hS dX9_isNumeral_13
set_option maxRecDepth 100000 in
set_option maxHeartbeats 4000000 in
theorem c_X9_isNumeral (l : Launch) {dC : Nat → ClassId} {dI : Nat → Nat → Nat} {cA : Nat → ClassId} {P : Nat → Nat} (hI : PInj 25 P) {v1 : Int32}  {post : Int32 → St → Prop} {S : St} (h : w_X9_isNumeral v1 post S) : Met l yX9_isNumeral (wW yX9_isNumeral cX9_isNumeral 3 (some .boolean)) ({ frames := 4, cells := 0, slots := 0, locals := 88 } : Room) (va_Pc [.ref (P 0), .int v1] (PreM dC dI cA P S)) (va_Qi post (fun u t => VM dC dI cA P u t.heap) (PA 25 P)) 0 0 (PA 25 P) := by
  refine Met.ofW (cc := cX9_isNumeral) (maxL := 3) (ret := (some .boolean)) (by decide) rfl ?_
  intro p e s m args below meth c s₁ B hml hv
  obtain ⟨rfl, hP, hKX⟩ := hv
  have hts : ∀ w ∈ G, w.before [.ref (P 0), .int v1].toArray s = true := fun w hw => atoms_spec (ws := wW yX9_isNumeral cX9_isNumeral 3 (some .boolean)) B.pre w (List.mem_cons_of_mem _ hw)
  have C : CtxM dC dI cA P p s m [.ref (P 0), .int v1].toArray meth c cX9_isNumeral 3 (some .boolean) RX9 := ⟨hI, hKX, ⟨B.exec, B.bytes, hml, findClass_of_methodNamed B.named, hts⟩, B.returns, B.notSynchronized⟩
  have hS : va_S (PA 25 P) s.heap s.heap [] := va_S.rf
  have hl := lv_entry ([.ref (P 0), .int v1]) (n := 3) (Nat.le_of_ble_eq_true rfl)
  rw [lg_entry_eq]
  generalize (lg_sl ([.ref (P 0), .int v1]) ++ List.replicate (3 - (lg_sl ([.ref (P 0), .int v1])).length) Slot.unset).toArray = ls at hl ⊢
  have hl : lv_has ls 3 [(0, .ref (P 0)), (1, .int v1)] := hl
  exact e_X9_isNumeral C _ _ _ _ _ h  hP hS hl
set_option maxRecDepth 100000 in
set_option maxHeartbeats 4000000 in
theorem e_X9_read {p : Program} {l : Launch} {e : Env} {s : State} {m : MethodId} {args : Array Value} {below : List Frame} {meth : Method} {c : Code} {dC : Nat → ClassId} {dI : Nat → Nat → Nat} {cA : Nat → ClassId} {P : Nat → Nat} (C : CtxM dC dI cA P p s m args meth c cX9_read 2 (some .int) RX9) {post : Int32 → St → Prop} : ∀ (v1 : Int32) (S : St) (H : Heap) (locs : List Loc) (ls : Array Slot), w_X9_read v1 post S → VM dC dI cA P S H → va_S (PA 25 P) s.heap H locs → lv_has ls 2 [(0, .ref (P 0)), (1, .int v1)] → W p l e ({ frames := 5, cells := 0, slots := 0, locals := 110 } : Room) s m args below meth c H locs 0 0 (MQ below (va_Qi post (fun u t => VM dC dI cA P u t.heap) (PA 25 P)) args s 0 0 (PA 25 P)) (F0 m 0 ls []) := by
  have C := C
  obtain ⟨hI, hKX, ⟨hx, hb, hml, hown, hts⟩, hr, hlocks⟩ := id C
  have hK := hKX
  intro v1 S H locs ls h hP hS hl
  rw [w_X9_read] at h
  refine lv_iload_n hx hb dX9_read_0 rfl (lv_at hl 1 rfl) ?_
  refine va_calli (va_runS (As := [.int _]) (rest := []) ⟨hx, hb, hml, hown, hts⟩ (c_X9_isBase l hI h) (va_cwS 1 hts gs_X9_118 rfl rfl rfl hd_X9_isBase ⟨Nat.le_of_ble_eq_true rfl, Nat.le_of_ble_eq_true rfl⟩) (preS_M hKX hP hS) rfl rfl hl.1 rfl (lv_room (Nat.le_of_ble_eq_true rfl)) dX9_read_1 ⟨Nat.le_of_ble_eq_true rfl, Nat.le_of_ble_eq_true rfl⟩) hS (fun _ _ h => h) (fun _ h => h) (fun r2 S1 t H locs ht _ h hB _ _ hS => ?_)
  have hP : VM dC dI cA P S1 H := by rw [← ht]; exact hB
  refine lv_if_ne (tgt := 9) hx hb dX9_read_4 (by decide) (fun c3 => ?_) (fun c3 => ?_)
  · replace h := h.2 c3
    refine lv_aload_n hx hb dX9_read_9 rfl (lv_at hl 0 rfl) ?_
    refine lv_aload_n hx hb dX9_read_10 rfl (lv_at hl 0 rfl) ?_
    refine g_get (v := .int (S1.1 0 21)) hx hb hts inG_X9 hown hK hP (kM_lt (rfl : kdM 0 = 9)) (eM9 (rfl : kdM 0 = 9)) rfl 21 (by decide) G_fl_X9_215 rfl rfl dX9_read_11 ?_
    replace h := h _ rfl
    refine g_putI hx hb hts inG_X9 tyX9 tyX9_ok nmX9 hown hK hI hP hS (kM_lt (rfl : kdM 0 = 9)) (eM9 (rfl : kdM 0 = 9)) rfl 22 (by decide) G_fl_X9_221 rfl rfl (ty := .int) (by decide +kernel) rfl rfl (Nat.le_of_ble_eq_true rfl) rfl h dX9_read_14 (fun S5 H locs h hP hS => ?_)
    refine lv_aload_n hx hb dX9_read_17 rfl (lv_at hl 0 rfl) ?_
    refine lv_iconst (v := 0) hx hb dX9_read_18 (by decide) ?_
    refine g_putI hx hb hts inG_X9 tyX9 tyX9_ok nmX9 hown hK hI hP hS (kM_lt (rfl : kdM 0 = 9)) (eM9 (rfl : kdM 0 = 9)) rfl 21 (by decide) G_fl_X9_215 rfl rfl (ty := .int) (by decide +kernel) rfl rfl (Nat.le_of_ble_eq_true rfl) rfl h dX9_read_19 (fun S6 H locs h hP hS => ?_)
    refine lv_aload_n hx hb dX9_read_22 rfl (lv_at hl 0 rfl) ?_
    refine lv_iconst (v := 0) hx hb dX9_read_23 (by decide) ?_
    refine g_putI hx hb hts inG_X9 tyX9 tyX9_ok nmX9 hown hK hI hP hS (kM_lt (rfl : kdM 0 = 9)) (eM9 (rfl : kdM 0 = 9)) rfl 23 (by decide) G_fl_X9_218 rfl rfl (ty := .int) (by decide +kernel) rfl rfl (Nat.le_of_ble_eq_true rfl) rfl h dX9_read_24 (fun S7 H locs h hP hS => ?_)
    refine lv_aload_n hx hb dX9_read_27 rfl (lv_at hl 0 rfl) ?_
    refine lv_iload_n hx hb dX9_read_28 rfl (lv_at hl 1 rfl) ?_
    refine va_calli (va_runV (As := [.int _]) (rest := []) ⟨hx, hb, hml, hown, hts⟩ (c_X9_isNumeral l hI h) (cwV 1 hts gv_X9_264 rfl rfl rfl hv_X9_isNumeral ⟨Nat.le_of_ble_eq_true rfl, Nat.le_of_ble_eq_true rfl⟩) (preV_M hKX hP hS (kM_lt (rfl : kdM 0 = 9)) (eM9 (rfl : kdM 0 = 9)) rfl) rfl rfl hl.1 rfl (lv_room (Nat.le_of_ble_eq_true rfl)) dX9_read_29 ⟨Nat.le_of_ble_eq_true rfl, Nat.le_of_ble_eq_true rfl⟩) hS (fun _ _ h => h) (fun _ h => h) (fun r9 S8 t H locs ht _ h hB _ _ hS => ?_)
    have hP : VM dC dI cA P S8 H := by rw [← ht]; exact hB
    refine lv_if_ne (tgt := 44) hx hb dX9_read_32 (by decide) (fun c10 => ?_) (fun c10 => ?_)
    · replace h := h.2 c10
      refine lv_aload_n hx hb dX9_read_44 rfl (lv_at hl 0 rfl) ?_
      refine lv_aload_n hx hb dX9_read_45 rfl (lv_at hl 0 rfl) ?_
      refine g_get (v := .long (S8.2 0 27)) hx hb hts inG_X9 hown hK hP (kM_lt (rfl : kdM 0 = 9)) (eM9 (rfl : kdM 0 = 9)) rfl 27 (by decide) G_fl_X9_258 rfl rfl dX9_read_46 ?_
      refine lv_aload_n hx hb dX9_read_49 rfl (lv_at hl 0 rfl) ?_
      refine g_get (v := .long (S8.2 0 28)) hx hb hts inG_X9 hown hK hP (kM_lt (rfl : kdM 0 = 9)) (eM9 (rfl : kdM 0 = 9)) rfl 28 (by decide) G_fl_X9_261 rfl rfl dX9_read_50 ?_
      refine lv_iload_n hx hb dX9_read_53 rfl (lv_at hl 1 rfl) ?_
      replace h := h _ rfl
      replace h := h _ rfl
      refine va_calli (va_runV (As := [.long _, .long _, .int _]) (rest := []) ⟨hx, hb, hml, hown, hts⟩ (c_X9_comesLowest l hI h) (cwV 3 hts gv_X9_133 rfl rfl rfl hv_X9_comesLowest ⟨Nat.le_of_ble_eq_true rfl, Nat.le_of_ble_eq_true rfl⟩) (preV_M hKX hP hS (kM_lt (rfl : kdM 0 = 9)) (eM9 (rfl : kdM 0 = 9)) rfl) rfl rfl hl.1 rfl (lv_room (Nat.le_of_ble_eq_true rfl)) dX9_read_54 ⟨Nat.le_of_ble_eq_true rfl, Nat.le_of_ble_eq_true rfl⟩) hS (fun _ _ h => h) (fun _ h => h) (fun r14 S13 t H locs ht _ h hB _ _ hS => ?_)
      have hP : VM dC dI cA P S13 H := by rw [← ht]; exact hB
      exact g_iret hx hb hr hlocks h hP hS dX9_read_57
    · replace h := h.1 c10
      refine lv_sipush (v := (-1000)) hx hb dX9_read_35 (by decide) ?_
      refine lv_aload_n hx hb dX9_read_38 rfl (lv_at hl 0 rfl) ?_
      refine g_get (v := .int (S8.1 0 23)) hx hb hts inG_X9 hown hK hP (kM_lt (rfl : kdM 0 = 9)) (eM9 (rfl : kdM 0 = 9)) rfl 23 (by decide) G_fl_X9_218 rfl rfl dX9_read_39 ?_
      refine lv_isub hx hb dX9_read_42 ?_
      exact g_iret hx hb hr hlocks h hP hS dX9_read_43
  · replace h := h.1 c3
    refine lv_iconst (v := (-1)) hx hb dX9_read_7 (by decide) ?_
    exact g_iret hx hb hr hlocks h hP hS dX9_read_8
set_option maxRecDepth 100000 in
set_option maxHeartbeats 4000000 in
theorem c_X9_read (l : Launch) {dC : Nat → ClassId} {dI : Nat → Nat → Nat} {cA : Nat → ClassId} {P : Nat → Nat} (hI : PInj 25 P) {v1 : Int32}  {post : Int32 → St → Prop} {S : St} (h : w_X9_read v1 post S) : Met l yX9_read (wW yX9_read cX9_read 2 (some .int)) ({ frames := 5, cells := 0, slots := 0, locals := 110 } : Room) (va_Pc [.ref (P 0), .int v1] (PreM dC dI cA P S)) (va_Qi post (fun u t => VM dC dI cA P u t.heap) (PA 25 P)) 0 0 (PA 25 P) := by
  refine Met.ofW (cc := cX9_read) (maxL := 2) (ret := (some .int)) (by decide) rfl ?_
  intro p e s m args below meth c s₁ B hml hv
  obtain ⟨rfl, hP, hKX⟩ := hv
  have hts : ∀ w ∈ G, w.before [.ref (P 0), .int v1].toArray s = true := fun w hw => atoms_spec (ws := wW yX9_read cX9_read 2 (some .int)) B.pre w (List.mem_cons_of_mem _ hw)
  have C : CtxM dC dI cA P p s m [.ref (P 0), .int v1].toArray meth c cX9_read 2 (some .int) RX9 := ⟨hI, hKX, ⟨B.exec, B.bytes, hml, findClass_of_methodNamed B.named, hts⟩, B.returns, B.notSynchronized⟩
  have hS : va_S (PA 25 P) s.heap s.heap [] := va_S.rf
  have hl := lv_entry ([.ref (P 0), .int v1]) (n := 2) (Nat.le_of_ble_eq_true rfl)
  rw [lg_entry_eq]
  generalize (lg_sl ([.ref (P 0), .int v1]) ++ List.replicate (2 - (lg_sl ([.ref (P 0), .int v1])).length) Slot.unset).toArray = ls at hl ⊢
  have hl : lv_has ls 2 [(0, .ref (P 0)), (1, .int v1)] := hl
  exact e_X9_read C _ _ _ _ _ h  hP hS hl
set_option maxRecDepth 100000 in
set_option maxHeartbeats 4000000 in
theorem e_X9_numbersOf {p : Program} {l : Launch} {e : Env} {s : State} {m : MethodId} {args : Array Value} {below : List Frame} {meth : Method} {c : Code} {dC : Nat → ClassId} {dI : Nat → Nat → Nat} {cA : Nat → ClassId} {P : Nat → Nat} (C : CtxM dC dI cA P p s m args meth c cX9_numbersOf 1 (some .int) RX9) {post : Int32 → St → Prop} : ∀ (v0 : Int32) (S : St) (H : Heap) (locs : List Loc) (ls : Array Slot), w_X9_numbersOf v0 post S → VM dC dI cA P S H → va_S (PA 25 P) s.heap H locs → lv_has ls 1 [(0, .int v0)] → W p l e ({ frames := 0, cells := 0, slots := 0, locals := 0 } : Room) s m args below meth c H locs 0 0 (MQ below (va_Qi post (fun u t => VM dC dI cA P u t.heap) (PA 25 P)) args s 0 0 (PA 25 P)) (F0 m 0 ls []) := by
  have C := C
  obtain ⟨hI, hKX, ⟨hx, hb, hml, hown, hts⟩, hr, hlocks⟩ := id C
  have hK := hKX
  intro v0 S H locs ls h hP hS hl
  rw [w_X9_numbersOf] at h
  refine lv_iload_n hx hb dX9_numbersOf_0 rfl (lv_at hl 0 rfl) ?_
  refine lv_if_ne (tgt := 8) hx hb dX9_numbersOf_1 (by decide) (fun c1 => ?_) (fun c1 => ?_)
  · replace h := h.2 c1
    refine lv_iload_n hx hb dX9_numbersOf_8 rfl (lv_at hl 0 rfl) ?_
    refine lv_iconst (v := 1) hx hb dX9_numbersOf_9 (by decide) ?_
    refine lv_icmp_eq (tgt := 18) hx hb dX9_numbersOf_10 (by decide) (fun c2 => ?_) (fun c2 => ?_)
    · replace h := h.1 c2
      refine lv_iconst (v := 1) hx hb dX9_numbersOf_18 (by decide) ?_
      refine lv_goto (tgt := 23) hx hb dX9_numbersOf_19 (by decide) ?_
      exact g_iret hx hb hr hlocks h hP hS dX9_numbersOf_23
    · replace h := h.2 c2
      refine lv_iload_n hx hb dX9_numbersOf_13 rfl (lv_at hl 0 rfl) ?_
      refine lv_iconst (v := 4) hx hb dX9_numbersOf_14 (by decide) ?_
      refine lv_icmp_ne (tgt := 22) hx hb dX9_numbersOf_15 (by decide) (fun c3 => ?_) (fun c3 => ?_)
      · replace h := h.2 c3
        refine lv_iconst (v := 2) hx hb dX9_numbersOf_22 (by decide) ?_
        exact g_iret hx hb hr hlocks h hP hS dX9_numbersOf_23
      · replace h := h.1 c3
        refine lv_iconst (v := 1) hx hb dX9_numbersOf_18 (by decide) ?_
        refine lv_goto (tgt := 23) hx hb dX9_numbersOf_19 (by decide) ?_
        exact g_iret hx hb hr hlocks h hP hS dX9_numbersOf_23
  · replace h := h.1 c1
    refine lv_iconst (v := 3) hx hb dX9_numbersOf_4 (by decide) ?_
    refine lv_goto (tgt := 23) hx hb dX9_numbersOf_5 (by decide) ?_
    exact g_iret hx hb hr hlocks h hP hS dX9_numbersOf_23
set_option maxRecDepth 100000 in
set_option maxHeartbeats 4000000 in
theorem c_X9_numbersOf (l : Launch) {dC : Nat → ClassId} {dI : Nat → Nat → Nat} {cA : Nat → ClassId} {P : Nat → Nat} (hI : PInj 25 P) {v0 : Int32}  {post : Int32 → St → Prop} {S : St} (h : w_X9_numbersOf v0 post S) : Met l yX9_numbersOf (wW yX9_numbersOf cX9_numbersOf 1 (some .int)) ({ frames := 0, cells := 0, slots := 0, locals := 0 } : Room) (va_Pc [.int v0] (PreM dC dI cA P S)) (va_Qi post (fun u t => VM dC dI cA P u t.heap) (PA 25 P)) 0 0 (PA 25 P) := by
  refine Met.ofW (cc := cX9_numbersOf) (maxL := 1) (ret := (some .int)) (by decide) rfl ?_
  intro p e s m args below meth c s₁ B hml hv
  obtain ⟨rfl, hP, hKX⟩ := hv
  have hts : ∀ w ∈ G, w.before [.int v0].toArray s = true := fun w hw => atoms_spec (ws := wW yX9_numbersOf cX9_numbersOf 1 (some .int)) B.pre w (List.mem_cons_of_mem _ hw)
  have C : CtxM dC dI cA P p s m [.int v0].toArray meth c cX9_numbersOf 1 (some .int) RX9 := ⟨hI, hKX, ⟨B.exec, B.bytes, hml, findClass_of_methodNamed B.named, hts⟩, B.returns, B.notSynchronized⟩
  have hS : va_S (PA 25 P) s.heap s.heap [] := va_S.rf
  have hl := lv_entry ([.int v0]) (n := 1) (Nat.le_of_ble_eq_true rfl)
  rw [lg_entry_eq]
  generalize (lg_sl ([.int v0]) ++ List.replicate (1 - (lg_sl ([.int v0])).length) Slot.unset).toArray = ls at hl ⊢
  have hl : lv_has ls 1 [(0, .int v0)] := hl
  exact e_X9_numbersOf C _ _ _ _ _ h  hP hS hl
set_option maxRecDepth 100000 in
set_option maxHeartbeats 4000000 in
theorem b_X9_command_107 {p : Program} {l : Launch} {e : Env} {s : State} {m : MethodId} {args : Array Value} {below : List Frame} {meth : Method} {c : Code} {dC : Nat → ClassId} {dI : Nat → Nat → Nat} {cA : Nat → ClassId} {P : Nat → Nat} (C : CtxM dC dI cA P p s m args meth c cX9_command 5 (some .int) RX9) {post : Int32 → St → Prop} {K53 : Int32 → Int32 → St → Prop} (hK53 : ∀ (v2 : Int32) (v3 : Int32) (S : St) (H : Heap) (locs : List Loc) (ls : Array Slot), K53 v2 v3 S → VM dC dI cA P S H → va_S (PA 25 P) s.heap H locs → lv_has ls 5 [(0, .ref (P 0)), (2, .int v2), (3, .int v3)] → W p l e ({ frames := 2, cells := 0, slots := 0, locals := 47 } : Room) s m args below meth c H locs 0 0 (MQ below (va_Qi post (fun u t => VM dC dI cA P u t.heap) (PA 25 P)) args s 0 0 (PA 25 P)) (F0 m 53 ls [])) : ∀ (n : Nat) (v2 : Int32) (v3 : Int32) (v4 : Int32) (S : St) (H : Heap) (locs : List Loc) (ls : Array Slot), w_X9_command_107 post K53 n v2 v3 v4 S → VM dC dI cA P S H → va_S (PA 25 P) s.heap H locs → lv_has ls 5 [(0, .ref (P 0)), (2, .int v2), (3, .int v3), (4, .int v4)] → W p l e ({ frames := 2, cells := 0, slots := 0, locals := 47 } : Room) s m args below meth c H locs 0 0 (MQ below (va_Qi post (fun u t => VM dC dI cA P u t.heap) (PA 25 P)) args s 0 0 (PA 25 P)) (F0 m 107 ls []) := by
  have C := C
  obtain ⟨hI, hKX, ⟨hx, hb, hml, hown, hts⟩, hr, hlocks⟩ := id C
  have hK := hKX
  intro n
  induction n with
  | zero =>
    intro v2 v3 v4 S H locs ls h hP hS hl
    simp only [w_X9_command_107] at h
  | succ n ih =>
    intro v2 v3 v4 S H locs ls h hP hS hl
    rw [w_X9_command_107] at h
    refine lv_iload hx hb dX9_command_107 (lv_at hl 3 rfl) ?_
    refine lv_iconst (v := 4) hx hb dX9_command_109 (by decide) ?_
    refine lv_icmp_ge (tgt := 168) hx hb dX9_command_110 (by decide) (fun c21 => ?_) (fun c21 => ?_)
    · replace h := h.1 c21
      obtain ⟨x22, ex22⟩ : ∃ y : Int32, y = v3 + 1 := ⟨_, rfl⟩
      replace h := h x22 ex22
      refine lv_iinc (v := x22) (lv' := [(3, .int x22), (0, .ref (P 0)), (2, .int v2), (4, .int v4)]) hx hb dX9_command_168 hl (k := 2) rfl (by rw [ex22]; rfl) (by decide) rfl (fun ls hl => ?_)
      refine lv_goto (tgt := 53) hx hb dX9_command_171 (by decide) ?_
      exact hK53 _ _ _ _ _ _ h  hP hS (lv_sub hl [1, 2, 0] rfl)
    · replace h := h.2 c21
      refine lv_aload_n hx hb dX9_command_113 rfl (lv_at hl 0 rfl) ?_
      refine lv_bipush (v := 48) hx hb dX9_command_114 (by decide) ?_
      refine lv_bipush (v := 57) hx hb dX9_command_116 (by decide) ?_
      refine va_calli (va_runV (As := [.int _, .int _]) (rest := []) ⟨hx, hb, hml, hown, hts⟩ (c_X9_isAt l hI h) (cwV 2 hts gv_X9_239 rfl rfl rfl hv_X9_isAt ⟨Nat.le_of_ble_eq_true rfl, Nat.le_of_ble_eq_true rfl⟩) (preV_M hKX hP hS (kM_lt (rfl : kdM 0 = 9)) (eM9 (rfl : kdM 0 = 9)) rfl) rfl rfl hl.1 rfl (lv_room (Nat.le_of_ble_eq_true rfl)) dX9_command_118 ⟨Nat.le_of_ble_eq_true rfl, Nat.le_of_ble_eq_true rfl⟩) hS (fun _ _ h => h) (fun _ h => h) (fun r24 S23 t H locs ht _ h hB _ _ hS => ?_)
      have hP : VM dC dI cA P S23 H := by rw [← ht]; exact hB
      refine lv_if_eq (tgt := 168) hx hb dX9_command_121 (by decide) (fun c25 => ?_) (fun c25 => ?_)
      · replace h := h.1 c25
        obtain ⟨x26, ex26⟩ : ∃ y : Int32, y = v3 + 1 := ⟨_, rfl⟩
        replace h := h x26 ex26
        refine lv_iinc (v := x26) (lv' := [(3, .int x26), (0, .ref (P 0)), (2, .int v2), (4, .int v4)]) hx hb dX9_command_168 hl (k := 2) rfl (by rw [ex26]; rfl) (by decide) rfl (fun ls hl => ?_)
        refine lv_goto (tgt := 53) hx hb dX9_command_171 (by decide) ?_
        exact hK53 _ _ _ _ _ _ h  hP hS (lv_sub hl [1, 2, 0] rfl)
      · replace h := h.2 c25
        refine lv_aload_n hx hb dX9_command_124 rfl (lv_at hl 0 rfl) ?_
        refine g_get (v := .ref (P 14)) hx hb hts inG_X9 hown hK hP (kM_lt (rfl : kdM 0 = 9)) (eM9 (rfl : kdM 0 = 9)) rfl 29 (by decide) G_fl_X9_56 rfl rfl dX9_command_125 ?_
        refine lv_iload_n hx hb dX9_command_128 rfl (lv_at hl 2 rfl) ?_
        refine lv_bipush (v := 10) hx hb dX9_command_129 (by decide) ?_
        refine lv_aload_n hx hb dX9_command_131 rfl (lv_at hl 0 rfl) ?_
        refine g_get (v := .ref (P 14)) hx hb hts inG_X9 hown hK hP (kM_lt (rfl : kdM 0 = 9)) (eM9 (rfl : kdM 0 = 9)) rfl 29 (by decide) G_fl_X9_56 rfl rfl dX9_command_132 ?_
        refine lv_iload_n hx hb dX9_command_135 rfl (lv_at hl 2 rfl) ?_
        refine g_ald hx hb hK hP (kM_lt (rfl : kdM 14 = 10)) 0 (eM10 (rfl : kdM 14 = 10)) rfl h.1 dX9_command_136 ?_
        replace h := h.2
        refine lv_imul hx hb dX9_command_137 ?_
        refine lv_aload_n hx hb dX9_command_138 rfl (lv_at hl 0 rfl) ?_
        refine g_get (v := .ref (P 13)) hx hb hts inG_X9 hown hK hP (kM_lt (rfl : kdM 0 = 9)) (eM9 (rfl : kdM 0 = 9)) rfl 20 (by decide) G_fl_X9_53 rfl rfl dX9_command_139 ?_
        refine lv_aload_n hx hb dX9_command_142 rfl (lv_at hl 0 rfl) ?_
        refine g_get (v := .int (S23.1 0 23)) hx hb hts inG_X9 hown hK hP (kM_lt (rfl : kdM 0 = 9)) (eM9 (rfl : kdM 0 = 9)) rfl 23 (by decide) G_fl_X9_218 rfl rfl dX9_command_143 ?_
        replace h := h _ rfl
        refine g_ald hx hb hK hP (kM_lt (rfl : kdM 13 = 10)) 0 (eM10 (rfl : kdM 13 = 10)) rfl h.1 dX9_command_146 ?_
        replace h := h.2
        refine lv_iadd hx hb dX9_command_147 ?_
        refine lv_bipush (v := 48) hx hb dX9_command_148 (by decide) ?_
        refine lv_isub hx hb dX9_command_150 ?_
        replace h := h _ rfl
        refine g_ast hx hb hK hI hP hS (kM_lt (rfl : kdM 14 = 10)) 0 (eM10 (rfl : kdM 14 = 10)) rfl h.1 h.2 dX9_command_151 (fun S29 H locs h hP hS => ?_)
        refine lv_aload_n hx hb dX9_command_152 rfl (lv_at hl 0 rfl) ?_
        refine lv_dup hx hb dX9_command_153 rfl ?_
        refine g_get (v := .int (S29.1 0 23)) hx hb hts inG_X9 hown hK hP (kM_lt (rfl : kdM 0 = 9)) (eM9 (rfl : kdM 0 = 9)) rfl 23 (by decide) G_fl_X9_218 rfl rfl dX9_command_154 ?_
        refine lv_iconst (v := 1) hx hb dX9_command_157 (by decide) ?_
        refine lv_iadd hx hb dX9_command_158 ?_
        replace h := h _ rfl
        refine g_putI hx hb hts inG_X9 tyX9 tyX9_ok nmX9 hown hK hI hP hS (kM_lt (rfl : kdM 0 = 9)) (eM9 (rfl : kdM 0 = 9)) rfl 23 (by decide) G_fl_X9_218 rfl rfl (ty := .int) (by decide +kernel) rfl rfl (Nat.le_of_ble_eq_true rfl) rfl h dX9_command_159 (fun S31 H locs h hP hS => ?_)
        obtain ⟨x32, ex32⟩ : ∃ y : Int32, y = v4 + 1 := ⟨_, rfl⟩
        replace h := h x32 ex32
        refine lv_iinc (v := x32) (lv' := [(4, .int x32), (0, .ref (P 0)), (2, .int v2), (3, .int v3)]) hx hb dX9_command_162 hl (k := 3) rfl (by rw [ex32]; rfl) (by decide) rfl (fun ls hl => ?_)
        refine lv_goto (tgt := 107) hx hb dX9_command_165 (by decide) ?_
        exact ih _ _ _ _ _ _ _ h  hP hS (lv_sub hl [1, 2, 3, 0] rfl)
set_option maxRecDepth 100000 in
set_option maxHeartbeats 4000000 in
theorem b_X9_command_53 {p : Program} {l : Launch} {e : Env} {s : State} {m : MethodId} {args : Array Value} {below : List Frame} {meth : Method} {c : Code} {dC : Nat → ClassId} {dI : Nat → Nat → Nat} {cA : Nat → ClassId} {P : Nat → Nat} (C : CtxM dC dI cA P p s m args meth c cX9_command 5 (some .int) RX9) {post : Int32 → St → Prop}  : ∀ (n : Nat) (v2 : Int32) (v3 : Int32) (S : St) (H : Heap) (locs : List Loc) (ls : Array Slot), w_X9_command_53 post n v2 v3 S → VM dC dI cA P S H → va_S (PA 25 P) s.heap H locs → lv_has ls 5 [(0, .ref (P 0)), (2, .int v2), (3, .int v3)] → W p l e ({ frames := 2, cells := 0, slots := 0, locals := 47 } : Room) s m args below meth c H locs 0 0 (MQ below (va_Qi post (fun u t => VM dC dI cA P u t.heap) (PA 25 P)) args s 0 0 (PA 25 P)) (F0 m 53 ls []) := by
  have C := C
  obtain ⟨hI, hKX, ⟨hx, hb, hml, hown, hts⟩, hr, hlocks⟩ := id C
  have hK := hKX
  intro n
  induction n with
  | zero =>
    intro v2 v3 S H locs ls h hP hS hl
    simp only [w_X9_command_53] at h
  | succ n ih =>
    intro v2 v3 S H locs ls h hP hS hl
    rw [w_X9_command_53] at h
    refine lv_iload_n hx hb dX9_command_53 rfl (lv_at hl 2 rfl) ?_
    refine lv_iload_n hx hb dX9_command_54 rfl (lv_at hl 1 rfl) ?_
    refine va_calli (va_runS (As := [.int _]) (rest := [.int _]) ⟨hx, hb, hml, hown, hts⟩ (c_X9_numbersOf l hI h) (va_cwS 1 hts gs_X9_270 rfl rfl rfl hd_X9_numbersOf ⟨Nat.le_of_ble_eq_true rfl, Nat.le_of_ble_eq_true rfl⟩) (preS_M hKX hP hS) rfl rfl hl.1 rfl (lv_room (Nat.le_of_ble_eq_true rfl)) dX9_command_55 ⟨Nat.le_of_ble_eq_true rfl, Nat.le_of_ble_eq_true rfl⟩) hS (fun _ _ h => h) (fun _ h => h) (fun r10 S9 t H locs ht _ h hB _ _ hS => ?_)
    have hP : VM dC dI cA P S9 H := by rw [← ht]; exact hB
    refine lv_icmp_ge (tgt := 174) hx hb dX9_command_58 (by decide) (fun c11 => ?_) (fun c11 => ?_)
    · replace h := h.1 c11
      refine lv_iload_n hx hb dX9_command_174 rfl (lv_at hl 1 rfl) ?_
      exact g_iret hx hb hr hlocks h hP hS dX9_command_175
    · replace h := h.2 c11
      refine lv_aload_n hx hb dX9_command_61 rfl (lv_at hl 0 rfl) ?_
      refine lv_bipush (v := 32) hx hb dX9_command_62 (by decide) ?_
      refine lv_bipush (v := 32) hx hb dX9_command_64 (by decide) ?_
      refine va_calli (va_runV (As := [.int _, .int _]) (rest := []) ⟨hx, hb, hml, hown, hts⟩ (c_X9_isAt l hI h) (cwV 2 hts gv_X9_239 rfl rfl rfl hv_X9_isAt ⟨Nat.le_of_ble_eq_true rfl, Nat.le_of_ble_eq_true rfl⟩) (preV_M hKX hP hS (kM_lt (rfl : kdM 0 = 9)) (eM9 (rfl : kdM 0 = 9)) rfl) rfl rfl hl.1 rfl (lv_room (Nat.le_of_ble_eq_true rfl)) dX9_command_66 ⟨Nat.le_of_ble_eq_true rfl, Nat.le_of_ble_eq_true rfl⟩) hS (fun _ _ h => h) (fun _ h => h) (fun r13 S12 t H locs ht _ h hB _ _ hS => ?_)
      have hP : VM dC dI cA P S12 H := by rw [← ht]; exact hB
      refine lv_if_ne (tgt := 74) hx hb dX9_command_69 (by decide) (fun c14 => ?_) (fun c14 => ?_)
      · replace h := h.2 c14
        refine lv_aload_n hx hb dX9_command_74 rfl (lv_at hl 0 rfl) ?_
        refine lv_dup hx hb dX9_command_75 rfl ?_
        refine g_get (v := .int (S12.1 0 23)) hx hb hts inG_X9 hown hK hP (kM_lt (rfl : kdM 0 = 9)) (eM9 (rfl : kdM 0 = 9)) rfl 23 (by decide) G_fl_X9_218 rfl rfl dX9_command_76 ?_
        refine lv_iconst (v := 1) hx hb dX9_command_79 (by decide) ?_
        refine lv_iadd hx hb dX9_command_80 ?_
        replace h := h _ rfl
        refine g_putI hx hb hts inG_X9 tyX9 tyX9_ok nmX9 hown hK hI hP hS (kM_lt (rfl : kdM 0 = 9)) (eM9 (rfl : kdM 0 = 9)) rfl 23 (by decide) G_fl_X9_218 rfl rfl (ty := .int) (by decide +kernel) rfl rfl (Nat.le_of_ble_eq_true rfl) rfl h dX9_command_81 (fun S16 H locs h hP hS => ?_)
        refine lv_aload_n hx hb dX9_command_84 rfl (lv_at hl 0 rfl) ?_
        refine lv_bipush (v := 48) hx hb dX9_command_85 (by decide) ?_
        refine lv_bipush (v := 57) hx hb dX9_command_87 (by decide) ?_
        refine va_calli (va_runV (As := [.int _, .int _]) (rest := []) ⟨hx, hb, hml, hown, hts⟩ (c_X9_isAt l hI h) (cwV 2 hts gv_X9_239 rfl rfl rfl hv_X9_isAt ⟨Nat.le_of_ble_eq_true rfl, Nat.le_of_ble_eq_true rfl⟩) (preV_M hKX hP hS (kM_lt (rfl : kdM 0 = 9)) (eM9 (rfl : kdM 0 = 9)) rfl) rfl rfl hl.1 rfl (lv_room (Nat.le_of_ble_eq_true rfl)) dX9_command_89 ⟨Nat.le_of_ble_eq_true rfl, Nat.le_of_ble_eq_true rfl⟩) hS (fun _ _ h => h) (fun _ h => h) (fun r18 S17 t H locs ht _ h hB _ _ hS => ?_)
        have hP : VM dC dI cA P S17 H := by rw [← ht]; exact hB
        refine lv_if_ne (tgt := 97) hx hb dX9_command_92 (by decide) (fun c19 => ?_) (fun c19 => ?_)
        · replace h := h.2 c19
          refine lv_aload_n hx hb dX9_command_97 rfl (lv_at hl 0 rfl) ?_
          refine g_get (v := .ref (P 14)) hx hb hts inG_X9 hown hK hP (kM_lt (rfl : kdM 0 = 9)) (eM9 (rfl : kdM 0 = 9)) rfl 29 (by decide) G_fl_X9_56 rfl rfl dX9_command_98 ?_
          refine lv_iload_n hx hb dX9_command_101 rfl (lv_at hl 2 rfl) ?_
          refine lv_iconst (v := 0) hx hb dX9_command_102 (by decide) ?_
          refine g_ast hx hb hK hI hP hS (kM_lt (rfl : kdM 14 = 10)) 0 (eM10 (rfl : kdM 14 = 10)) rfl h.1 h.2 dX9_command_103 (fun S20 H locs h hP hS => ?_)
          refine lv_iconst (v := 0) hx hb dX9_command_104 (by decide) ?_
          refine lv_istore (lv' := [(4, .int 0), (0, .ref (P 0)), (2, .int v2), (3, .int v3)]) hx hb dX9_command_105 hl (by decide) rfl (fun ls hl => ?_)
          obtain ⟨n33, h⟩ := h
          exact b_X9_command_107 C ih n33 _ _ _ _ _ _ _ h  hP hS (lv_sub hl [1, 2, 3, 0] rfl)
        · replace h := h.1 c19
          refine lv_iconst (v := (-1)) hx hb dX9_command_95 (by decide) ?_
          exact g_iret hx hb hr hlocks h hP hS dX9_command_96
      · replace h := h.1 c14
        refine lv_iconst (v := (-1)) hx hb dX9_command_72 (by decide) ?_
        exact g_iret hx hb hr hlocks h hP hS dX9_command_73
set_option maxRecDepth 100000 in
set_option maxHeartbeats 4000000 in
theorem b_X9_command_5 {p : Program} {l : Launch} {e : Env} {s : State} {m : MethodId} {args : Array Value} {below : List Frame} {meth : Method} {c : Code} {dC : Nat → ClassId} {dI : Nat → Nat → Nat} {cA : Nat → ClassId} {P : Nat → Nat} (C : CtxM dC dI cA P p s m args meth c cX9_command 5 (some .int) RX9) {post : Int32 → St → Prop}  : ∀ (n : Nat) (v1 : Int32) (S : St) (H : Heap) (locs : List Loc) (ls : Array Slot), w_X9_command_5 post n v1 S → VM dC dI cA P S H → va_S (PA 25 P) s.heap H locs → lv_has ls 5 [(0, .ref (P 0)), (1, .int v1)] → W p l e ({ frames := 2, cells := 0, slots := 0, locals := 47 } : Room) s m args below meth c H locs 0 0 (MQ below (va_Qi post (fun u t => VM dC dI cA P u t.heap) (PA 25 P)) args s 0 0 (PA 25 P)) (F0 m 5 ls []) := by
  have C := C
  obtain ⟨hI, hKX, ⟨hx, hb, hml, hown, hts⟩, hr, hlocks⟩ := id C
  have hK := hKX
  intro n
  induction n with
  | zero =>
    intro v1 S H locs ls h hP hS hl
    simp only [w_X9_command_5] at h
  | succ n ih =>
    intro v1 S H locs ls h hP hS hl
    rw [w_X9_command_5] at h
    refine lv_aload_n hx hb dX9_command_5 rfl (lv_at hl 0 rfl) ?_
    refine lv_bipush (v := 97) hx hb dX9_command_6 (by decide) ?_
    refine lv_bipush (v := 122) hx hb dX9_command_8 (by decide) ?_
    refine va_calli (va_runV (As := [.int _, .int _]) (rest := []) ⟨hx, hb, hml, hown, hts⟩ (c_X9_isAt l hI h) (cwV 2 hts gv_X9_239 rfl rfl rfl hv_X9_isAt ⟨Nat.le_of_ble_eq_true rfl, Nat.le_of_ble_eq_true rfl⟩) (preV_M hKX hP hS (kM_lt (rfl : kdM 0 = 9)) (eM9 (rfl : kdM 0 = 9)) rfl) rfl rfl hl.1 rfl (lv_room (Nat.le_of_ble_eq_true rfl)) dX9_command_10 ⟨Nat.le_of_ble_eq_true rfl, Nat.le_of_ble_eq_true rfl⟩) hS (fun _ _ h => h) (fun _ h => h) (fun r3 S2 t H locs ht _ h hB _ _ hS => ?_)
    have hP : VM dC dI cA P S2 H := by rw [← ht]; exact hB
    refine lv_if_eq (tgt := 29) hx hb dX9_command_13 (by decide) (fun c4 => ?_) (fun c4 => ?_)
    · replace h := h.1 c4
      refine lv_aload_n hx hb dX9_command_29 rfl (lv_at hl 0 rfl) ?_
      refine lv_iload_n hx hb dX9_command_30 rfl (lv_at hl 1 rfl) ?_
      refine lv_aload_n hx hb dX9_command_31 rfl (lv_at hl 0 rfl) ?_
      refine g_get (v := .int (S2.1 0 23)) hx hb hts inG_X9 hown hK hP (kM_lt (rfl : kdM 0 = 9)) (eM9 (rfl : kdM 0 = 9)) rfl 23 (by decide) G_fl_X9_218 rfl rfl dX9_command_32 ?_
      replace h := h _ rfl
      refine va_calli (va_runV (As := [.int _, .int _]) (rest := []) ⟨hx, hb, hml, hown, hts⟩ (c_X9_commandOf l hI h) (cwV 2 hts gv_X9_267 rfl rfl rfl hv_X9_commandOf ⟨Nat.le_of_ble_eq_true rfl, Nat.le_of_ble_eq_true rfl⟩) (preV_M hKX hP hS (kM_lt (rfl : kdM 0 = 9)) (eM9 (rfl : kdM 0 = 9)) rfl) rfl rfl hl.1 rfl (lv_room (Nat.le_of_ble_eq_true rfl)) dX9_command_35 ⟨Nat.le_of_ble_eq_true rfl, Nat.le_of_ble_eq_true rfl⟩) hS (fun _ _ h => h) (fun _ h => h) (fun r7 S6 t H locs ht _ h hB _ _ hS => ?_)
      have hP : VM dC dI cA P S6 H := by rw [← ht]; exact hB
      refine lv_istore_n (lv' := [(2, .int r7), (0, .ref (P 0)), (1, .int v1)]) hx hb dX9_command_38 rfl hl (by decide) rfl (fun ls hl => ?_)
      refine lv_iload_n hx hb dX9_command_39 rfl (lv_at hl 0 rfl) ?_
      refine lv_iconst (v := (-1)) hx hb dX9_command_40 (by decide) ?_
      refine lv_icmp_ne (tgt := 51) hx hb dX9_command_41 (by decide) (fun c8 => ?_) (fun c8 => ?_)
      · replace h := h.2 c8
        refine lv_iconst (v := 0) hx hb dX9_command_51 (by decide) ?_
        refine lv_istore_n (lv' := [(3, .int 0), (2, .int r7), (0, .ref (P 0)), (1, .int v1)]) hx hb dX9_command_52 rfl hl (by decide) rfl (fun ls hl => ?_)
        obtain ⟨n34, h⟩ := h
        exact b_X9_command_53 C n34 _ _ _ _ _ _ h  hP hS (lv_sub hl [2, 1, 0] rfl)
      · replace h := h.1 c8
        refine lv_aload_n hx hb dX9_command_44 rfl (lv_at hl 1 rfl) ?_
        refine lv_iload_n hx hb dX9_command_45 rfl (lv_at hl 2 rfl) ?_
        refine g_putI hx hb hts inG_X9 tyX9 tyX9_ok nmX9 hown hK hI hP hS (kM_lt (rfl : kdM 0 = 9)) (eM9 (rfl : kdM 0 = 9)) rfl 23 (by decide) G_fl_X9_218 rfl rfl (ty := .int) (by decide +kernel) rfl rfl (Nat.le_of_ble_eq_true rfl) rfl h dX9_command_46 (fun S35 H locs h hP hS => ?_)
        refine lv_iconst (v := (-1)) hx hb dX9_command_49 (by decide) ?_
        exact g_iret hx hb hr hlocks h hP hS dX9_command_50
    · replace h := h.2 c4
      refine lv_aload_n hx hb dX9_command_16 rfl (lv_at hl 0 rfl) ?_
      refine lv_dup hx hb dX9_command_17 rfl ?_
      refine g_get (v := .int (S2.1 0 23)) hx hb hts inG_X9 hown hK hP (kM_lt (rfl : kdM 0 = 9)) (eM9 (rfl : kdM 0 = 9)) rfl 23 (by decide) G_fl_X9_218 rfl rfl dX9_command_18 ?_
      refine lv_iconst (v := 1) hx hb dX9_command_21 (by decide) ?_
      refine lv_iadd hx hb dX9_command_22 ?_
      replace h := h _ rfl
      refine g_putI hx hb hts inG_X9 tyX9 tyX9_ok nmX9 hown hK hI hP hS (kM_lt (rfl : kdM 0 = 9)) (eM9 (rfl : kdM 0 = 9)) rfl 23 (by decide) G_fl_X9_218 rfl rfl (ty := .int) (by decide +kernel) rfl rfl (Nat.le_of_ble_eq_true rfl) rfl h dX9_command_23 (fun S37 H locs h hP hS => ?_)
      refine lv_goto (tgt := 5) hx hb dX9_command_26 (by decide) ?_
      exact ih _ _ _ _ _ h  hP hS (lv_sub hl [0, 1] rfl)
set_option maxRecDepth 100000 in
set_option maxHeartbeats 4000000 in
theorem e_X9_command {p : Program} {l : Launch} {e : Env} {s : State} {m : MethodId} {args : Array Value} {below : List Frame} {meth : Method} {c : Code} {dC : Nat → ClassId} {dI : Nat → Nat → Nat} {cA : Nat → ClassId} {P : Nat → Nat} (C : CtxM dC dI cA P p s m args meth c cX9_command 5 (some .int) RX9) {post : Int32 → St → Prop} : ∀  (S : St) (H : Heap) (locs : List Loc) (ls : Array Slot), w_X9_command  post S → VM dC dI cA P S H → va_S (PA 25 P) s.heap H locs → lv_has ls 5 [(0, .ref (P 0))] → W p l e ({ frames := 2, cells := 0, slots := 0, locals := 47 } : Room) s m args below meth c H locs 0 0 (MQ below (va_Qi post (fun u t => VM dC dI cA P u t.heap) (PA 25 P)) args s 0 0 (PA 25 P)) (F0 m 0 ls []) := by
  have C := C
  obtain ⟨hI, hKX, ⟨hx, hb, hml, hown, hts⟩, hr, hlocks⟩ := id C
  have hK := hKX
  intro S H locs ls h hP hS hl
  rw [w_X9_command] at h
  refine lv_aload_n hx hb dX9_command_0 rfl (lv_at hl 0 rfl) ?_
  refine g_get (v := .int (S.1 0 23)) hx hb hts inG_X9 hown hK hP (kM_lt (rfl : kdM 0 = 9)) (eM9 (rfl : kdM 0 = 9)) rfl 23 (by decide) G_fl_X9_218 rfl rfl dX9_command_1 ?_
  refine lv_topi (fun x1 ex1 => ?_)
  replace h := h x1 ex1
  refine lv_istore_n (lv' := [(1, .int x1), (0, .ref (P 0))]) hx hb dX9_command_4 rfl hl (by decide) rfl (fun ls hl => ?_)
  obtain ⟨n38, h⟩ := h
  exact b_X9_command_5 C n38 _ _ _ _ _ h  hP hS (lv_sub hl [1, 0] rfl)
set_option maxRecDepth 100000 in
set_option maxHeartbeats 4000000 in
theorem c_X9_command (l : Launch) {dC : Nat → ClassId} {dI : Nat → Nat → Nat} {cA : Nat → ClassId} {P : Nat → Nat} (hI : PInj 25 P)   {post : Int32 → St → Prop} {S : St} (h : w_X9_command  post S) : Met l yX9_command (wW yX9_command cX9_command 5 (some .int)) ({ frames := 2, cells := 0, slots := 0, locals := 47 } : Room) (va_Pc [.ref (P 0)] (PreM dC dI cA P S)) (va_Qi post (fun u t => VM dC dI cA P u t.heap) (PA 25 P)) 0 0 (PA 25 P) := by
  refine Met.ofW (cc := cX9_command) (maxL := 5) (ret := (some .int)) (by decide) rfl ?_
  intro p e s m args below meth c s₁ B hml hv
  obtain ⟨rfl, hP, hKX⟩ := hv
  have hts : ∀ w ∈ G, w.before [.ref (P 0)].toArray s = true := fun w hw => atoms_spec (ws := wW yX9_command cX9_command 5 (some .int)) B.pre w (List.mem_cons_of_mem _ hw)
  have C : CtxM dC dI cA P p s m [.ref (P 0)].toArray meth c cX9_command 5 (some .int) RX9 := ⟨hI, hKX, ⟨B.exec, B.bytes, hml, findClass_of_methodNamed B.named, hts⟩, B.returns, B.notSynchronized⟩
  have hS : va_S (PA 25 P) s.heap s.heap [] := va_S.rf
  have hl := lv_entry ([.ref (P 0)]) (n := 5) (Nat.le_of_ble_eq_true rfl)
  rw [lg_entry_eq]
  generalize (lg_sl ([.ref (P 0)]) ++ List.replicate (5 - (lg_sl ([.ref (P 0)])).length) Slot.unset).toArray = ls at hl ⊢
  have hl : lv_has ls 5 [(0, .ref (P 0))] := hl
  exact e_X9_command C  _ _ _ _ h  hP hS hl
set_option maxRecDepth 100000 in
set_option maxHeartbeats 4000000 in
theorem e_X9_done {p : Program} {l : Launch} {e : Env} {s : State} {m : MethodId} {args : Array Value} {below : List Frame} {meth : Method} {c : Code} {dC : Nat → ClassId} {dI : Nat → Nat → Nat} {cA : Nat → ClassId} {P : Nat → Nat} (C : CtxM dC dI cA P p s m args meth c cX9_done 2 (some .int) RX9) {post : Int32 → St → Prop} : ∀ (v1 : Int32) (S : St) (H : Heap) (locs : List Loc) (ls : Array Slot), w_X9_done v1 post S → VM dC dI cA P S H → va_S (PA 25 P) s.heap H locs → lv_has ls 2 [(0, .ref (P 0)), (1, .int v1)] → W p l e ({ frames := 3, cells := 0, slots := 0, locals := 80 } : Room) s m args below meth c H locs 0 0 (MQ below (va_Qi post (fun u t => VM dC dI cA P u t.heap) (PA 25 P)) args s 0 0 (PA 25 P)) (F0 m 0 ls []) := by
  have C := C
  obtain ⟨hI, hKX, ⟨hx, hb, hml, hown, hts⟩, hr, hlocks⟩ := id C
  have hK := hKX
  intro v1 S H locs ls h hP hS hl
  rw [w_X9_done] at h
  refine lv_iload_n hx hb dX9_done_0 rfl (lv_at hl 1 rfl) ?_
  by_cases c1 : v1 = 0
  · replace h := h.1 c1
    refine lv_tableIn (off := 31) (tgt := 32) hx hb dX9_done_1 (by rw [c1]; decide) (by rw [c1]; decide) (by rw [c1]; decide) (by decide) ?_
    refine lv_aload_n hx hb dX9_done_32 rfl (lv_at hl 0 rfl) ?_
    refine lv_aload_n hx hb dX9_done_33 rfl (lv_at hl 0 rfl) ?_
    refine g_get (v := .ref (P 14)) hx hb hts inG_X9 hown hK hP (kM_lt (rfl : kdM 0 = 9)) (eM9 (rfl : kdM 0 = 9)) rfl 29 (by decide) G_fl_X9_56 rfl rfl dX9_done_34 ?_
    refine lv_iconst (v := 0) hx hb dX9_done_37 (by decide) ?_
    refine g_ald hx hb hK hP (kM_lt (rfl : kdM 14 = 10)) 0 (eM10 (rfl : kdM 14 = 10)) rfl h.1 dX9_done_38 ?_
    replace h := h.2
    refine lv_aload_n hx hb dX9_done_39 rfl (lv_at hl 0 rfl) ?_
    refine g_get (v := .ref (P 14)) hx hb hts inG_X9 hown hK hP (kM_lt (rfl : kdM 0 = 9)) (eM9 (rfl : kdM 0 = 9)) rfl 29 (by decide) G_fl_X9_56 rfl rfl dX9_done_40 ?_
    refine lv_iconst (v := 1) hx hb dX9_done_43 (by decide) ?_
    refine g_ald hx hb hK hP (kM_lt (rfl : kdM 14 = 10)) 0 (eM10 (rfl : kdM 14 = 10)) rfl h.1 dX9_done_44 ?_
    replace h := h.2
    refine lv_aload_n hx hb dX9_done_45 rfl (lv_at hl 0 rfl) ?_
    refine g_get (v := .ref (P 14)) hx hb hts inG_X9 hown hK hP (kM_lt (rfl : kdM 0 = 9)) (eM9 (rfl : kdM 0 = 9)) rfl 29 (by decide) G_fl_X9_56 rfl rfl dX9_done_46 ?_
    refine lv_iconst (v := 2) hx hb dX9_done_49 (by decide) ?_
    refine g_ald hx hb hK hP (kM_lt (rfl : kdM 14 = 10)) 0 (eM10 (rfl : kdM 14 = 10)) rfl h.1 dX9_done_50 ?_
    replace h := h.2
    replace h := h _ rfl
    replace h := h _ rfl
    replace h := h _ rfl
    refine va_calli (va_runV (As := [.int _, .int _, .int _]) (rest := []) ⟨hx, hb, hml, hown, hts⟩ (c_X9_fraction l hI h) (cwV 3 hts gv_X9_273 rfl rfl rfl hv_X9_fraction ⟨Nat.le_of_ble_eq_true rfl, Nat.le_of_ble_eq_true rfl⟩) (preV_M hKX hP hS (kM_lt (rfl : kdM 0 = 9)) (eM9 (rfl : kdM 0 = 9)) rfl) rfl rfl hl.1 rfl (lv_room (Nat.le_of_ble_eq_true rfl)) dX9_done_51 ⟨Nat.le_of_ble_eq_true rfl, Nat.le_of_ble_eq_true rfl⟩) hS (fun _ _ h => h) (fun _ h => h) (fun r6 S5 t H locs ht _ h hB _ _ hS => ?_)
    have hP : VM dC dI cA P S5 H := by rw [← ht]; exact hB
    exact g_iret hx hb hr hlocks h hP hS dX9_done_54
  replace h := h.2 c1
  by_cases c7 : v1 = 1
  · replace h := h.1 c7
    refine lv_tableIn (off := 54) (tgt := 55) hx hb dX9_done_1 (by rw [c7]; decide) (by rw [c7]; decide) (by rw [c7]; decide) (by decide) ?_
    refine lv_aload_n hx hb dX9_done_55 rfl (lv_at hl 0 rfl) ?_
    refine lv_aload_n hx hb dX9_done_56 rfl (lv_at hl 0 rfl) ?_
    refine g_get (v := .ref (P 14)) hx hb hts inG_X9 hown hK hP (kM_lt (rfl : kdM 0 = 9)) (eM9 (rfl : kdM 0 = 9)) rfl 29 (by decide) G_fl_X9_56 rfl rfl dX9_done_57 ?_
    refine lv_iconst (v := 0) hx hb dX9_done_60 (by decide) ?_
    refine g_ald hx hb hK hP (kM_lt (rfl : kdM 14 = 10)) 0 (eM10 (rfl : kdM 14 = 10)) rfl h.1 dX9_done_61 ?_
    replace h := h.2
    replace h := h _ rfl
    refine va_calli (va_runV (As := [.int _]) (rest := []) ⟨hx, hb, hml, hown, hts⟩ (c_X9_drop l hI h) (cwV 1 hts gv_X9_276 rfl rfl rfl hv_X9_drop ⟨Nat.le_of_ble_eq_true rfl, Nat.le_of_ble_eq_true rfl⟩) (preV_M hKX hP hS (kM_lt (rfl : kdM 0 = 9)) (eM9 (rfl : kdM 0 = 9)) rfl) rfl rfl hl.1 rfl (lv_room (Nat.le_of_ble_eq_true rfl)) dX9_done_62 ⟨Nat.le_of_ble_eq_true rfl, Nat.le_of_ble_eq_true rfl⟩) hS (fun _ _ h => h) (fun _ h => h) (fun r10 S9 t H locs ht _ h hB _ _ hS => ?_)
    have hP : VM dC dI cA P S9 H := by rw [← ht]; exact hB
    exact g_iret hx hb hr hlocks h hP hS dX9_done_65
  replace h := h.2 c7
  by_cases c11 : v1 = 2
  · replace h := h.1 c11
    refine lv_tableIn (off := 65) (tgt := 66) hx hb dX9_done_1 (by rw [c11]; decide) (by rw [c11]; decide) (by rw [c11]; decide) (by decide) ?_
    refine lv_aload_n hx hb dX9_done_66 rfl (lv_at hl 0 rfl) ?_
    refine lv_aload_n hx hb dX9_done_67 rfl (lv_at hl 0 rfl) ?_
    refine g_get (v := .ref (P 14)) hx hb hts inG_X9 hown hK hP (kM_lt (rfl : kdM 0 = 9)) (eM9 (rfl : kdM 0 = 9)) rfl 29 (by decide) G_fl_X9_56 rfl rfl dX9_done_68 ?_
    refine lv_iconst (v := 0) hx hb dX9_done_71 (by decide) ?_
    refine g_ald hx hb hK hP (kM_lt (rfl : kdM 14 = 10)) 0 (eM10 (rfl : kdM 14 = 10)) rfl h.1 dX9_done_72 ?_
    replace h := h.2
    refine lv_aload_n hx hb dX9_done_73 rfl (lv_at hl 0 rfl) ?_
    refine g_get (v := .ref (P 14)) hx hb hts inG_X9 hown hK hP (kM_lt (rfl : kdM 0 = 9)) (eM9 (rfl : kdM 0 = 9)) rfl 29 (by decide) G_fl_X9_56 rfl rfl dX9_done_74 ?_
    refine lv_iconst (v := 1) hx hb dX9_done_77 (by decide) ?_
    refine g_ald hx hb hK hP (kM_lt (rfl : kdM 14 = 10)) 0 (eM10 (rfl : kdM 14 = 10)) rfl h.1 dX9_done_78 ?_
    replace h := h.2
    replace h := h _ rfl
    replace h := h _ rfl
    refine va_calli (va_runV (As := [.int _, .int _]) (rest := []) ⟨hx, hb, hml, hown, hts⟩ (c_X9_multiply l hI h) (cwV 2 hts gv_X9_279 rfl rfl rfl hv_X9_multiply ⟨Nat.le_of_ble_eq_true rfl, Nat.le_of_ble_eq_true rfl⟩) (preV_M hKX hP hS (kM_lt (rfl : kdM 0 = 9)) (eM9 (rfl : kdM 0 = 9)) rfl) rfl rfl hl.1 rfl (lv_room (Nat.le_of_ble_eq_true rfl)) dX9_done_79 ⟨Nat.le_of_ble_eq_true rfl, Nat.le_of_ble_eq_true rfl⟩) hS (fun _ _ h => h) (fun _ h => h) (fun r15 S14 t H locs ht _ h hB _ _ hS => ?_)
    have hP : VM dC dI cA P S14 H := by rw [← ht]; exact hB
    exact g_iret hx hb hr hlocks h hP hS dX9_done_82
  replace h := h.2 c11
  by_cases c16 : v1 = 3
  · replace h := h.1 c16
    refine lv_tableIn (off := 82) (tgt := 83) hx hb dX9_done_1 (by rw [c16]; decide) (by rw [c16]; decide) (by rw [c16]; decide) (by decide) ?_
    refine lv_aload_n hx hb dX9_done_83 rfl (lv_at hl 0 rfl) ?_
    refine lv_aload_n hx hb dX9_done_84 rfl (lv_at hl 0 rfl) ?_
    refine g_get (v := .ref (P 14)) hx hb hts inG_X9 hown hK hP (kM_lt (rfl : kdM 0 = 9)) (eM9 (rfl : kdM 0 = 9)) rfl 29 (by decide) G_fl_X9_56 rfl rfl dX9_done_85 ?_
    refine lv_iconst (v := 0) hx hb dX9_done_88 (by decide) ?_
    refine g_ald hx hb hK hP (kM_lt (rfl : kdM 14 = 10)) 0 (eM10 (rfl : kdM 14 = 10)) rfl h.1 dX9_done_89 ?_
    replace h := h.2
    refine lv_aload_n hx hb dX9_done_90 rfl (lv_at hl 0 rfl) ?_
    refine g_get (v := .ref (P 14)) hx hb hts inG_X9 hown hK hP (kM_lt (rfl : kdM 0 = 9)) (eM9 (rfl : kdM 0 = 9)) rfl 29 (by decide) G_fl_X9_56 rfl rfl dX9_done_91 ?_
    refine lv_iconst (v := 1) hx hb dX9_done_94 (by decide) ?_
    refine g_ald hx hb hK hP (kM_lt (rfl : kdM 14 = 10)) 0 (eM10 (rfl : kdM 14 = 10)) rfl h.1 dX9_done_95 ?_
    replace h := h.2
    replace h := h _ rfl
    replace h := h _ rfl
    refine va_calli (va_runV (As := [.int _, .int _]) (rest := []) ⟨hx, hb, hml, hown, hts⟩ (c_X9_sum l hI h) (cwV 2 hts gv_X9_282 rfl rfl rfl hv_X9_sum ⟨Nat.le_of_ble_eq_true rfl, Nat.le_of_ble_eq_true rfl⟩) (preV_M hKX hP hS (kM_lt (rfl : kdM 0 = 9)) (eM9 (rfl : kdM 0 = 9)) rfl) rfl rfl hl.1 rfl (lv_room (Nat.le_of_ble_eq_true rfl)) dX9_done_96 ⟨Nat.le_of_ble_eq_true rfl, Nat.le_of_ble_eq_true rfl⟩) hS (fun _ _ h => h) (fun _ h => h) (fun r20 S19 t H locs ht _ h hB _ _ hS => ?_)
    have hP : VM dC dI cA P S19 H := by rw [← ht]; exact hB
    exact g_iret hx hb hr hlocks h hP hS dX9_done_99
  replace h := h.2 c16
  refine lv_tableOut (tgt := 100) hx hb dX9_done_1 (by have := lv_neT c1 (a := 0) (by decide); have := lv_neT c7 (a := 1) (by decide); have := lv_neT c11 (a := 2) (by decide); have := lv_neT c16 (a := 3) (by decide); omega) (by decide) ?_
  refine lv_aload_n hx hb dX9_done_100 rfl (lv_at hl 0 rfl) ?_
  refine lv_aload_n hx hb dX9_done_101 rfl (lv_at hl 0 rfl) ?_
  refine g_get (v := .ref (P 14)) hx hb hts inG_X9 hown hK hP (kM_lt (rfl : kdM 0 = 9)) (eM9 (rfl : kdM 0 = 9)) rfl 29 (by decide) G_fl_X9_56 rfl rfl dX9_done_102 ?_
  refine lv_iconst (v := 0) hx hb dX9_done_105 (by decide) ?_
  refine g_ald hx hb hK hP (kM_lt (rfl : kdM 14 = 10)) 0 (eM10 (rfl : kdM 14 = 10)) rfl h.1 dX9_done_106 ?_
  replace h := h.2
  replace h := h _ rfl
  refine va_calli (va_runV (As := [.int _]) (rest := []) ⟨hx, hb, hml, hown, hts⟩ (c_X9_lowest l hI h) (cwV 1 hts gv_X9_285 rfl rfl rfl hv_X9_lowest ⟨Nat.le_of_ble_eq_true rfl, Nat.le_of_ble_eq_true rfl⟩) (preV_M hKX hP hS (kM_lt (rfl : kdM 0 = 9)) (eM9 (rfl : kdM 0 = 9)) rfl) rfl rfl hl.1 rfl (lv_room (Nat.le_of_ble_eq_true rfl)) dX9_done_107 ⟨Nat.le_of_ble_eq_true rfl, Nat.le_of_ble_eq_true rfl⟩) hS (fun _ _ h => h) (fun _ h => h) (fun r23 S22 t H locs ht _ h hB _ _ hS => ?_)
  have hP : VM dC dI cA P S22 H := by rw [← ht]; exact hB
  exact g_iret hx hb hr hlocks h hP hS dX9_done_110
set_option maxRecDepth 100000 in
set_option maxHeartbeats 4000000 in
theorem c_X9_done (l : Launch) {dC : Nat → ClassId} {dI : Nat → Nat → Nat} {cA : Nat → ClassId} {P : Nat → Nat} (hI : PInj 25 P) {v1 : Int32}  {post : Int32 → St → Prop} {S : St} (h : w_X9_done v1 post S) : Met l yX9_done (wW yX9_done cX9_done 2 (some .int)) ({ frames := 3, cells := 0, slots := 0, locals := 80 } : Room) (va_Pc [.ref (P 0), .int v1] (PreM dC dI cA P S)) (va_Qi post (fun u t => VM dC dI cA P u t.heap) (PA 25 P)) 0 0 (PA 25 P) := by
  refine Met.ofW (cc := cX9_done) (maxL := 2) (ret := (some .int)) (by decide) rfl ?_
  intro p e s m args below meth c s₁ B hml hv
  obtain ⟨rfl, hP, hKX⟩ := hv
  have hts : ∀ w ∈ G, w.before [.ref (P 0), .int v1].toArray s = true := fun w hw => atoms_spec (ws := wW yX9_done cX9_done 2 (some .int)) B.pre w (List.mem_cons_of_mem _ hw)
  have C : CtxM dC dI cA P p s m [.ref (P 0), .int v1].toArray meth c cX9_done 2 (some .int) RX9 := ⟨hI, hKX, ⟨B.exec, B.bytes, hml, findClass_of_methodNamed B.named, hts⟩, B.returns, B.notSynchronized⟩
  have hS : va_S (PA 25 P) s.heap s.heap [] := va_S.rf
  have hl := lv_entry ([.ref (P 0), .int v1]) (n := 2) (Nat.le_of_ble_eq_true rfl)
  rw [lg_entry_eq]
  generalize (lg_sl ([.ref (P 0), .int v1]) ++ List.replicate (2 - (lg_sl ([.ref (P 0), .int v1])).length) Slot.unset).toArray = ls at hl ⊢
  have hl : lv_has ls 2 [(0, .ref (P 0)), (1, .int v1)] := hl
  exact e_X9_done C _ _ _ _ _ h  hP hS hl
