set_option maxRecDepth 100000 in
set_option maxHeartbeats 4000000 in
theorem c_X8_lowest (l : Launch) {dC : Nat → ClassId} {dI : Nat → Nat → Nat} {cA : Nat → ClassId} {adK adV P : Nat → Nat} (hI : PInj 56 P) {v1 : Int32}  {post : Int32 → St → Prop} {S : St} (h : w_X8_lowest v1 post S) : Met l yX8_lowest (wW yX8_lowest cX8_lowest 5 (some .int)) ({ frames := 2, cells := 0, slots := 0, locals := 54 } : Room) (va_Pc [.ref (P 0), .int v1] (PreX dC dI cA adK adV P S)) (va_Qi post (fun u t => VX dC dI cA P u t.heap) (PA 56 P)) 0 0 (PA 56 P) := by
  refine Met.ofW (cc := cX8_lowest) (maxL := 5) (ret := (some .int)) (by decide) rfl ?_
  intro p e s m args below meth c s₁ B hml hv
  obtain ⟨rfl, hP, hKX⟩ := hv
  have hts : ∀ w ∈ G, w.before [.ref (P 0), .int v1].toArray s = true := fun w hw => atoms_spec (ws := wW yX8_lowest cX8_lowest 5 (some .int)) B.pre w (List.mem_cons_of_mem _ hw)
  have C : CtxX dC dI cA adK adV P p s m [.ref (P 0), .int v1].toArray meth c cX8_lowest 5 (some .int) RX8 := ⟨hI, hKX, ⟨B.exec, B.bytes, hml, findClass_of_methodNamed B.named, hts⟩, B.returns, B.notSynchronized⟩
  obtain ⟨hI, hKX, ⟨hx, hb, hml, hown, hts⟩, hr, hlocks⟩ := id C
  have hK := hKX.1
  have hS : va_S (PA 56 P) s.heap s.heap [] := va_S.rf
  have hl := lv_entry ([.ref (P 0), .int v1]) (n := 5) (Nat.le_of_ble_eq_true rfl)
  rw [lg_entry_eq]
  generalize (lg_sl ([.ref (P 0), .int v1]) ++ List.replicate (5 - (lg_sl ([.ref (P 0), .int v1])).length) Slot.unset).toArray = ls at hl ⊢
  have hl : lv_has ls 5 [(0, .ref (P 0)), (1, .int v1)] := hl
  rw [w_X8_lowest] at h
  refine lv_aload_n hx hb dX8_lowest_0 rfl (lv_at hl 0 rfl) ?_
  refine g_get (v := .ref (P 1)) hx hb hts inG_X8 hown hK hP (kX_lt (rfl : kdX 0 = 8)) (eX8 (rfl : kdX 0 = 8)) rfl 0 (by decide) G_fl_X8_12 rfl rfl dX8_lowest_1 ?_
  refine lv_iload_n hx hb dX8_lowest_4 rfl (lv_at hl 1 rfl) ?_
  refine va_callq (va_runV (As := [.int _]) (rest := []) ⟨hx, hb, hml, hown, hts⟩ (c_X6_at l hI (rfl : kdX 1 = 6) h) (cwV 1 hts gv_X8_97 rfl rfl rfl hv_X6_at ⟨Nat.le_of_ble_eq_true rfl, Nat.le_of_ble_eq_true rfl⟩) (preV_X hKX hP hS (kX_lt (rfl : kdX 1 = 6)) (eX6 (rfl : kdX 1 = 6)) rfl) rfl rfl hl.1 rfl (lv_room (Nat.le_of_ble_eq_true rfl)) dX8_lowest_5 ⟨Nat.le_of_ble_eq_true rfl, Nat.le_of_ble_eq_true rfl⟩) hS (fun _ _ h => h) (fun _ h => h) (fun q S1 t H locs ht _ h hB _ _ hS => ?_)
  have hP : VX dC dI cA P S1 H := by rw [← ht]; exact hB
  obtain ⟨o2, rfl, hko, h⟩ := h
  rcases o2 with _ | k3
  · replace h := h.1 rfl
    refine lv_astore_nN (lv' := [(2, .null), (0, .ref (P 0)), (1, .int v1)]) hx hb dX8_lowest_8 rfl hl (by decide) rfl (fun ls hl => ?_)
    refine lv_aload_nN hx hb dX8_lowest_9 rfl (lv_at hl 0 rfl) ?_
    refine lv_ifnonnullN hx hb dX8_lowest_10 ?_
    refine lv_iconst (v := (-1)) hx hb dX8_lowest_13 (by decide) ?_
    exact g_iret hx hb hr hlocks h hP hS dX8_lowest_14
  · have hk4 := hko k3 rfl
    replace h := h.2 k3 rfl
    refine lv_astore_n (lv' := [(2, .ref (P k3)), (0, .ref (P 0)), (1, .int v1)]) hx hb dX8_lowest_8 rfl hl (by decide) rfl (fun ls hl => ?_)
    refine lv_aload_n hx hb dX8_lowest_9 rfl (lv_at hl 0 rfl) ?_
    refine lv_ifnonnull (tgt := 15) hx hb dX8_lowest_10 (by decide) ?_
    refine lv_aload_n hx hb dX8_lowest_15 rfl (lv_at hl 0 rfl) ?_
    refine g_get (v := .int (S1.1 k3 0)) hx hb hts inG_X1 hown hK hP (kX_lt hk4) (eX1 hk4) rfl 0 (by decide) G_fl_X8_101 rfl rfl dX8_lowest_16 ?_
    refine lv_i2l hx hb dX8_lowest_19 rfl ?_
    refine lv_aload_n hx hb dX8_lowest_20 rfl (lv_at hl 0 rfl) ?_
    refine g_get (v := .int (S1.1 k3 1)) hx hb hts inG_X1 hown hK hP (kX_lt hk4) (eX1 hk4) rfl 1 (by decide) G_fl_X8_105 rfl rfl dX8_lowest_21 ?_
    refine lv_i2l hx hb dX8_lowest_24 rfl ?_
    replace h := h _ rfl
    replace h := h _ rfl
    refine va_calll (va_runS (As := [.long _, .long _]) (rest := []) ⟨hx, hb, hml, hown, hts⟩ (c_X8_commonDivisor l hI h) (va_cwS 2 hts gs_X8_119 rfl rfl rfl hd_X8_commonDivisor ⟨Nat.le_of_ble_eq_true rfl, Nat.le_of_ble_eq_true rfl⟩) (preS_X hKX hP hS) rfl rfl hl.1 rfl (lv_room (Nat.le_of_ble_eq_true rfl)) dX8_lowest_25 ⟨Nat.le_of_ble_eq_true rfl, Nat.le_of_ble_eq_true rfl⟩) hS (fun _ _ h => h) (fun _ h => h) (fun r8 S7 t H locs ht _ h hB _ _ hS => ?_)
    have hP : VX dC dI cA P S7 H := by rw [← ht]; exact hB
    refine lv_lstore_n (lv' := [(3, .long r8), (2, .ref (P k3)), (0, .ref (P 0)), (1, .int v1)]) hx hb dX8_lowest_28 rfl hl (by decide) rfl (fun ls hl => ?_)
    refine lv_aload_n hx hb dX8_lowest_29 rfl (lv_at hl 1 rfl) ?_
    refine lv_aload_n hx hb dX8_lowest_30 rfl (lv_at hl 1 rfl) ?_
    refine g_get (v := .int (S7.1 k3 0)) hx hb hts inG_X1 hown hK hP (kX_lt hk4) (eX1 hk4) rfl 0 (by decide) G_fl_X8_101 rfl rfl dX8_lowest_31 ?_
    refine lv_i2l hx hb dX8_lowest_34 rfl ?_
    refine lv_lload_n hx hb dX8_lowest_35 rfl (lv_at hl 0 rfl) ?_
    replace h := h _ rfl
    refine va_calll (va_runS (As := [.long _, .long _]) (rest := [.ref _]) ⟨hx, hb, hml, hown, hts⟩ (c_X8_quotient l hI h) (va_cwS 2 hts gs_X8_123 rfl rfl rfl hd_X8_quotient ⟨Nat.le_of_ble_eq_true rfl, Nat.le_of_ble_eq_true rfl⟩) (preS_X hKX hP hS) rfl rfl hl.1 rfl (lv_room (Nat.le_of_ble_eq_true rfl)) dX8_lowest_36 ⟨Nat.le_of_ble_eq_true rfl, Nat.le_of_ble_eq_true rfl⟩) hS (fun _ _ h => h) (fun _ h => h) (fun r11 S10 t H locs ht _ h hB _ _ hS => ?_)
    have hP : VX dC dI cA P S10 H := by rw [← ht]; exact hB
    refine lv_l2i hx hb dX8_lowest_39 rfl ?_
    refine lv_aload_n hx hb dX8_lowest_40 rfl (lv_at hl 1 rfl) ?_
    refine g_get (v := .int (S10.1 k3 1)) hx hb hts inG_X1 hown hK hP (kX_lt hk4) (eX1 hk4) rfl 1 (by decide) G_fl_X8_105 rfl rfl dX8_lowest_41 ?_
    refine lv_i2l hx hb dX8_lowest_44 rfl ?_
    refine lv_lload_n hx hb dX8_lowest_45 rfl (lv_at hl 0 rfl) ?_
    replace h := h _ rfl
    refine va_calll (va_runS (As := [.long _, .long _]) (rest := [.int _, .ref _]) ⟨hx, hb, hml, hown, hts⟩ (c_X8_quotient l hI h) (va_cwS 2 hts gs_X8_123 rfl rfl rfl hd_X8_quotient ⟨Nat.le_of_ble_eq_true rfl, Nat.le_of_ble_eq_true rfl⟩) (preS_X hKX hP hS) rfl rfl hl.1 rfl (lv_room (Nat.le_of_ble_eq_true rfl)) dX8_lowest_46 ⟨Nat.le_of_ble_eq_true rfl, Nat.le_of_ble_eq_true rfl⟩) hS (fun _ _ h => h) (fun _ h => h) (fun r14 S13 t H locs ht _ h hB _ _ hS => ?_)
    have hP : VX dC dI cA P S13 H := by rw [← ht]; exact hB
    refine lv_l2i hx hb dX8_lowest_49 rfl ?_
    refine lv_aload_n hx hb dX8_lowest_50 rfl (lv_at hl 1 rfl) ?_
    refine g_get (v := .int (S13.1 k3 2)) hx hb hts inG_X1 hown hK hP (kX_lt hk4) (eX1 hk4) rfl 2 (by decide) G_fl_X8_108 rfl rfl dX8_lowest_51 ?_
    replace h := h _ rfl
    replace h := h _ rfl
    replace h := h _ rfl
    refine va_callv (va_runV (As := [.int _, .int _, .int _]) (rest := []) ⟨hx, hb, hml, hown, hts⟩ (c_X1_become l hI hk4 h) (cwV 3 hts gv_X8_111 rfl rfl rfl hv_X1_become ⟨Nat.le_of_ble_eq_true rfl, Nat.le_of_ble_eq_true rfl⟩) (preV_X hKX hP hS (kX_lt hk4) (eX1 hk4) rfl) rfl rfl hl.1 rfl (lv_room (Nat.le_of_ble_eq_true rfl)) dX8_lowest_54 ⟨Nat.le_of_ble_eq_true rfl, Nat.le_of_ble_eq_true rfl⟩) hS (fun _ _ h => h) (fun _ h => h) (fun S18 t H locs ht _ h hB _ _ hS => ?_)
    have hP : VX dC dI cA P S18 H := by rw [← ht]; exact hB
    refine lv_aload_n hx hb dX8_lowest_57 rfl (lv_at hl 1 rfl) ?_
    refine g_get (v := .int (S18.1 k3 1)) hx hb hts inG_X1 hown hK hP (kX_lt hk4) (eX1 hk4) rfl 1 (by decide) G_fl_X8_105 rfl rfl dX8_lowest_58 ?_
    exact g_iret hx hb hr hlocks h hP hS dX8_lowest_61
set_option maxRecDepth 100000 in
set_option maxHeartbeats 4000000 in
theorem c_X8_of (l : Launch) {dC : Nat → ClassId} {dI : Nat → Nat → Nat} {cA : Nat → ClassId} {adK adV P : Nat → Nat} (hI : PInj 56 P) {v1 : Int32} {v2 : Int32}  {post : Int32 → St → Prop} {S : St} (h : w_X8_of v1 v2 post S) : Met l yX8_of (wW yX8_of cX8_of 4 (some .int)) ({ frames := 2, cells := 0, slots := 0, locals := 43 } : Room) (va_Pc [.ref (P 0), .int v1, .int v2] (PreX dC dI cA adK adV P S)) (va_Qi post (fun u t => VX dC dI cA P u t.heap) (PA 56 P)) 0 0 (PA 56 P) := by
  refine Met.ofW (cc := cX8_of) (maxL := 4) (ret := (some .int)) (by decide) rfl ?_
  intro p e s m args below meth c s₁ B hml hv
  obtain ⟨rfl, hP, hKX⟩ := hv
  have hts : ∀ w ∈ G, w.before [.ref (P 0), .int v1, .int v2].toArray s = true := fun w hw => atoms_spec (ws := wW yX8_of cX8_of 4 (some .int)) B.pre w (List.mem_cons_of_mem _ hw)
  have C : CtxX dC dI cA adK adV P p s m [.ref (P 0), .int v1, .int v2].toArray meth c cX8_of 4 (some .int) RX8 := ⟨hI, hKX, ⟨B.exec, B.bytes, hml, findClass_of_methodNamed B.named, hts⟩, B.returns, B.notSynchronized⟩
  obtain ⟨hI, hKX, ⟨hx, hb, hml, hown, hts⟩, hr, hlocks⟩ := id C
  have hK := hKX.1
  have hS : va_S (PA 56 P) s.heap s.heap [] := va_S.rf
  have hl := lv_entry ([.ref (P 0), .int v1, .int v2]) (n := 4) (Nat.le_of_ble_eq_true rfl)
  rw [lg_entry_eq]
  generalize (lg_sl ([.ref (P 0), .int v1, .int v2]) ++ List.replicate (4 - (lg_sl ([.ref (P 0), .int v1, .int v2])).length) Slot.unset).toArray = ls at hl ⊢
  have hl : lv_has ls 4 [(0, .ref (P 0)), (1, .int v1), (2, .int v2)] := hl
  rw [w_X8_of] at h
  refine lv_aload_n hx hb dX8_of_0 rfl (lv_at hl 0 rfl) ?_
  refine g_get (v := .ref (P 1)) hx hb hts inG_X8 hown hK hP (kX_lt (rfl : kdX 0 = 8)) (eX8 (rfl : kdX 0 = 8)) rfl 0 (by decide) G_fl_X8_12 rfl rfl dX8_of_1 ?_
  refine lv_iload_n hx hb dX8_of_4 rfl (lv_at hl 1 rfl) ?_
  refine va_callq (va_runV (As := [.int _]) (rest := []) ⟨hx, hb, hml, hown, hts⟩ (c_X6_at l hI (rfl : kdX 1 = 6) h) (cwV 1 hts gv_X8_97 rfl rfl rfl hv_X6_at ⟨Nat.le_of_ble_eq_true rfl, Nat.le_of_ble_eq_true rfl⟩) (preV_X hKX hP hS (kX_lt (rfl : kdX 1 = 6)) (eX6 (rfl : kdX 1 = 6)) rfl) rfl rfl hl.1 rfl (lv_room (Nat.le_of_ble_eq_true rfl)) dX8_of_5 ⟨Nat.le_of_ble_eq_true rfl, Nat.le_of_ble_eq_true rfl⟩) hS (fun _ _ h => h) (fun _ h => h) (fun q S1 t H locs ht _ h hB _ _ hS => ?_)
  have hP : VX dC dI cA P S1 H := by rw [← ht]; exact hB
  obtain ⟨o2, rfl, hko, h⟩ := h
  rcases o2 with _ | k3
  · replace h := h.1 rfl
    refine lv_astore_nN (lv' := [(3, .null), (0, .ref (P 0)), (1, .int v1), (2, .int v2)]) hx hb dX8_of_8 rfl hl (by decide) rfl (fun ls hl => ?_)
    refine lv_aload_nN hx hb dX8_of_9 rfl (lv_at hl 0 rfl) ?_
    refine lv_ifnonnullN hx hb dX8_of_10 ?_
    refine lv_iconst (v := (-1)) hx hb dX8_of_13 (by decide) ?_
    exact g_iret hx hb hr hlocks h hP hS dX8_of_14
  · have hk4 := hko k3 rfl
    replace h := h.2 k3 rfl
    refine lv_astore_n (lv' := [(3, .ref (P k3)), (0, .ref (P 0)), (1, .int v1), (2, .int v2)]) hx hb dX8_of_8 rfl hl (by decide) rfl (fun ls hl => ?_)
    refine lv_aload_n hx hb dX8_of_9 rfl (lv_at hl 0 rfl) ?_
    refine lv_ifnonnull (tgt := 15) hx hb dX8_of_10 (by decide) ?_
    refine lv_iload_n hx hb dX8_of_15 rfl (lv_at hl 3 rfl) ?_
    by_cases c5 : v2 = 0
    · replace h := h.1 c5
      refine lv_tableIn (tgt := 60) hx hb dX8_of_16 (by rw [c5]; decide) (by rw [c5]; decide) (by rw [c5]; rfl) (by decide) ?_
      refine lv_aload_n hx hb dX8_of_60 rfl (lv_at hl 0 rfl) ?_
      refine g_get (v := .int (S1.1 k3 0)) hx hb hts inG_X1 hown hK hP (kX_lt hk4) (eX1 hk4) rfl 0 (by decide) G_fl_X8_101 rfl rfl dX8_of_61 ?_
      exact g_iret hx hb hr hlocks h hP hS dX8_of_64
    replace h := h.2 c5
    by_cases c6 : v2 = 1
    · replace h := h.1 c6
      refine lv_tableIn (tgt := 65) hx hb dX8_of_16 (by rw [c6]; decide) (by rw [c6]; decide) (by rw [c6]; rfl) (by decide) ?_
      refine lv_aload_n hx hb dX8_of_65 rfl (lv_at hl 0 rfl) ?_
      refine g_get (v := .int (S1.1 k3 1)) hx hb hts inG_X1 hown hK hP (kX_lt hk4) (eX1 hk4) rfl 1 (by decide) G_fl_X8_105 rfl rfl dX8_of_66 ?_
      exact g_iret hx hb hr hlocks h hP hS dX8_of_69
    replace h := h.2 c6
    by_cases c7 : v2 = 2
    · replace h := h.1 c7
      refine lv_tableIn (tgt := 70) hx hb dX8_of_16 (by rw [c7]; decide) (by rw [c7]; decide) (by rw [c7]; rfl) (by decide) ?_
      refine lv_aload_n hx hb dX8_of_70 rfl (lv_at hl 0 rfl) ?_
      refine g_get (v := .int (S1.1 k3 2)) hx hb hts inG_X1 hown hK hP (kX_lt hk4) (eX1 hk4) rfl 2 (by decide) G_fl_X8_108 rfl rfl dX8_of_71 ?_
      exact g_iret hx hb hr hlocks h hP hS dX8_of_74
    replace h := h.2 c7
    by_cases c8 : v2 = 3
    · replace h := h.1 c8
      refine lv_tableIn (tgt := 75) hx hb dX8_of_16 (by rw [c8]; decide) (by rw [c8]; decide) (by rw [c8]; rfl) (by decide) ?_
      refine lv_aload_n hx hb dX8_of_75 rfl (lv_at hl 0 rfl) ?_
      refine va_calli (va_runV (As := []) (rest := []) ⟨hx, hb, hml, hown, hts⟩ (c_X1_whole l hI hk4 h) (cwV 0 hts gv_X8_126 rfl rfl rfl hv_X1_whole ⟨Nat.le_of_ble_eq_true rfl, Nat.le_of_ble_eq_true rfl⟩) (preV_X hKX hP hS (kX_lt hk4) (eX1 hk4) rfl) rfl rfl hl.1 rfl (lv_room (Nat.le_of_ble_eq_true rfl)) dX8_of_76 ⟨Nat.le_of_ble_eq_true rfl, Nat.le_of_ble_eq_true rfl⟩) hS (fun _ _ h => h) (fun _ h => h) (fun r10 S9 t H locs ht _ h hB _ _ hS => ?_)
      have hP : VX dC dI cA P S9 H := by rw [← ht]; exact hB
      exact g_iret hx hb hr hlocks h hP hS dX8_of_79
    replace h := h.2 c8
    by_cases c11 : v2 = 4
    · replace h := h.1 c11
      refine lv_tableIn (tgt := 80) hx hb dX8_of_16 (by rw [c11]; decide) (by rw [c11]; decide) (by rw [c11]; rfl) (by decide) ?_
      refine lv_aload_n hx hb dX8_of_80 rfl (lv_at hl 0 rfl) ?_
      refine g_get (v := .int (S1.1 k3 3)) hx hb hts inG_X1 hown hK hP (kX_lt hk4) (eX1 hk4) rfl 3 (by decide) G_fl_X8_130 rfl rfl dX8_of_81 ?_
      exact g_iret hx hb hr hlocks h hP hS dX8_of_84
    replace h := h.2 c11
    by_cases c12 : v2 = 5
    · replace h := h.1 c12
      refine lv_tableIn (tgt := 85) hx hb dX8_of_16 (by rw [c12]; decide) (by rw [c12]; decide) (by rw [c12]; rfl) (by decide) ?_
      refine lv_aload_n hx hb dX8_of_85 rfl (lv_at hl 0 rfl) ?_
      refine g_get (v := .int (S1.1 k3 4)) hx hb hts inG_X1 hown hK hP (kX_lt hk4) (eX1 hk4) rfl 4 (by decide) G_fl_X8_133 rfl rfl dX8_of_86 ?_
      exact g_iret hx hb hr hlocks h hP hS dX8_of_89
    replace h := h.2 c12
    by_cases c13 : v2 = 6
    · replace h := h.1 c13
      refine lv_tableIn (tgt := 90) hx hb dX8_of_16 (by rw [c13]; decide) (by rw [c13]; decide) (by rw [c13]; rfl) (by decide) ?_
      refine lv_aload_n hx hb dX8_of_90 rfl (lv_at hl 0 rfl) ?_
      refine va_calli (va_runV (As := []) (rest := []) ⟨hx, hb, hml, hown, hts⟩ (c_X1_kind l hI hk4 h) (cwV 0 hts gv_X8_136 rfl rfl rfl hv_X1_kind ⟨Nat.le_of_ble_eq_true rfl, Nat.le_of_ble_eq_true rfl⟩) (preV_X hKX hP hS (kX_lt hk4) (eX1 hk4) rfl) rfl rfl hl.1 rfl (lv_room (Nat.le_of_ble_eq_true rfl)) dX8_of_91 ⟨Nat.le_of_ble_eq_true rfl, Nat.le_of_ble_eq_true rfl⟩) hS (fun _ _ h => h) (fun _ h => h) (fun r15 S14 t H locs ht _ h hB _ _ hS => ?_)
      have hP : VX dC dI cA P S14 H := by rw [← ht]; exact hB
      exact g_iret hx hb hr hlocks h hP hS dX8_of_94
    replace h := h.2 c13
    refine lv_tableOut (tgt := 95) hx hb dX8_of_16 (by have := lv_neT c5 (a := 0) (by decide); have := lv_neT c6 (a := 1) (by decide); have := lv_neT c7 (a := 2) (by decide); have := lv_neT c8 (a := 3) (by decide); have := lv_neT c11 (a := 4) (by decide); have := lv_neT c12 (a := 5) (by decide); have := lv_neT c13 (a := 6) (by decide); omega) (by decide) ?_
    refine lv_iconst (v := (-1)) hx hb dX8_of_95 (by decide) ?_
    exact g_iret hx hb hr hlocks h hP hS dX8_of_96
set_option maxRecDepth 100000 in
set_option maxHeartbeats 4000000 in
theorem c_X8_digit (l : Launch) {dC : Nat → ClassId} {dI : Nat → Nat → Nat} {cA : Nat → ClassId} {adK adV P : Nat → Nat} (hI : PInj 56 P) {v1 : Int32} {v2 : Int32}  {post : Int32 → St → Prop} {S : St} (h : w_X8_digit v1 v2 post S) : Met l yX8_digit (wW yX8_digit cX8_digit 4 (some .int)) ({ frames := 2, cells := 0, slots := 0, locals := 45 } : Room) (va_Pc [.ref (P 0), .int v1, .int v2] (PreX dC dI cA adK adV P S)) (va_Qi post (fun u t => VX dC dI cA P u t.heap) (PA 56 P)) 0 0 (PA 56 P) := by
  refine Met.ofW (cc := cX8_digit) (maxL := 4) (ret := (some .int)) (by decide) rfl ?_
  intro p e s m args below meth c s₁ B hml hv
  obtain ⟨rfl, hP, hKX⟩ := hv
  have hts : ∀ w ∈ G, w.before [.ref (P 0), .int v1, .int v2].toArray s = true := fun w hw => atoms_spec (ws := wW yX8_digit cX8_digit 4 (some .int)) B.pre w (List.mem_cons_of_mem _ hw)
  have C : CtxX dC dI cA adK adV P p s m [.ref (P 0), .int v1, .int v2].toArray meth c cX8_digit 4 (some .int) RX8 := ⟨hI, hKX, ⟨B.exec, B.bytes, hml, findClass_of_methodNamed B.named, hts⟩, B.returns, B.notSynchronized⟩
  obtain ⟨hI, hKX, ⟨hx, hb, hml, hown, hts⟩, hr, hlocks⟩ := id C
  have hK := hKX.1
  have hS : va_S (PA 56 P) s.heap s.heap [] := va_S.rf
  have hl := lv_entry ([.ref (P 0), .int v1, .int v2]) (n := 4) (Nat.le_of_ble_eq_true rfl)
  rw [lg_entry_eq]
  generalize (lg_sl ([.ref (P 0), .int v1, .int v2]) ++ List.replicate (4 - (lg_sl ([.ref (P 0), .int v1, .int v2])).length) Slot.unset).toArray = ls at hl ⊢
  have hl : lv_has ls 4 [(0, .ref (P 0)), (1, .int v1), (2, .int v2)] := hl
  rw [w_X8_digit] at h
  refine lv_aload_n hx hb dX8_digit_0 rfl (lv_at hl 0 rfl) ?_
  refine g_get (v := .ref (P 1)) hx hb hts inG_X8 hown hK hP (kX_lt (rfl : kdX 0 = 8)) (eX8 (rfl : kdX 0 = 8)) rfl 0 (by decide) G_fl_X8_12 rfl rfl dX8_digit_1 ?_
  refine lv_iload_n hx hb dX8_digit_4 rfl (lv_at hl 1 rfl) ?_
  refine va_callq (va_runV (As := [.int _]) (rest := []) ⟨hx, hb, hml, hown, hts⟩ (c_X6_at l hI (rfl : kdX 1 = 6) h) (cwV 1 hts gv_X8_97 rfl rfl rfl hv_X6_at ⟨Nat.le_of_ble_eq_true rfl, Nat.le_of_ble_eq_true rfl⟩) (preV_X hKX hP hS (kX_lt (rfl : kdX 1 = 6)) (eX6 (rfl : kdX 1 = 6)) rfl) rfl rfl hl.1 rfl (lv_room (Nat.le_of_ble_eq_true rfl)) dX8_digit_5 ⟨Nat.le_of_ble_eq_true rfl, Nat.le_of_ble_eq_true rfl⟩) hS (fun _ _ h => h) (fun _ h => h) (fun q S1 t H locs ht _ h hB _ _ hS => ?_)
  have hP : VX dC dI cA P S1 H := by rw [← ht]; exact hB
  obtain ⟨o2, rfl, hko, h⟩ := h
  rcases o2 with _ | k3
  · replace h := h.1 rfl
    refine lv_astore_nN (lv' := [(3, .null), (0, .ref (P 0)), (1, .int v1), (2, .int v2)]) hx hb dX8_digit_8 rfl hl (by decide) rfl (fun ls hl => ?_)
    refine lv_aload_nN hx hb dX8_digit_9 rfl (lv_at hl 0 rfl) ?_
    refine lv_ifnullN (tgt := 24) hx hb dX8_digit_10 (by decide) ?_
    refine lv_iconst (v := (-1)) hx hb dX8_digit_24 (by decide) ?_
    exact g_iret hx hb hr hlocks h hP hS dX8_digit_25
  · have hk4 := hko k3 rfl
    replace h := h.2 k3 rfl
    refine lv_astore_n (lv' := [(3, .ref (P k3)), (0, .ref (P 0)), (1, .int v1), (2, .int v2)]) hx hb dX8_digit_8 rfl hl (by decide) rfl (fun ls hl => ?_)
    refine lv_aload_n hx hb dX8_digit_9 rfl (lv_at hl 0 rfl) ?_
    refine lv_ifnull hx hb dX8_digit_10 ?_
    refine lv_iload_n hx hb dX8_digit_13 rfl (lv_at hl 3 rfl) ?_
    refine lv_iconst (v := 0) hx hb dX8_digit_14 (by decide) ?_
    refine lv_sipush (v := 9999) hx hb dX8_digit_15 (by decide) ?_
    refine va_calli (va_runS (As := [.int _, .int _, .int _]) (rest := []) ⟨hx, hb, hml, hown, hts⟩ (c_X8_isWithin l hI h) (va_cwS 3 hts gs_X8_81 rfl rfl rfl hd_X8_isWithin ⟨Nat.le_of_ble_eq_true rfl, Nat.le_of_ble_eq_true rfl⟩) (preS_X hKX hP hS) rfl rfl hl.1 rfl (lv_room (Nat.le_of_ble_eq_true rfl)) dX8_digit_18 ⟨Nat.le_of_ble_eq_true rfl, Nat.le_of_ble_eq_true rfl⟩) hS (fun _ _ h => h) (fun _ h => h) (fun r6 S5 t H locs ht _ h hB _ _ hS => ?_)
    have hP : VX dC dI cA P S5 H := by rw [← ht]; exact hB
    refine lv_if_ne (tgt := 26) hx hb dX8_digit_21 (by decide) (fun c7 => ?_) (fun c7 => ?_)
    · replace h := h.2 c7
      refine lv_aload_n hx hb dX8_digit_26 rfl (lv_at hl 0 rfl) ?_
      refine lv_aload_n hx hb dX8_digit_27 rfl (lv_at hl 0 rfl) ?_
      refine lv_iload_n hx hb dX8_digit_28 rfl (lv_at hl 3 rfl) ?_
      refine va_calli (va_runV (As := [.int _]) (rest := [.ref _]) ⟨hx, hb, hml, hown, hts⟩ (c_X1_restAt l hI hk4 h) (cwV 1 hts gv_X8_139 rfl rfl rfl hv_X1_restAt ⟨Nat.le_of_ble_eq_true rfl, Nat.le_of_ble_eq_true rfl⟩) (preV_X hKX hP hS (kX_lt hk4) (eX1 hk4) rfl) rfl rfl hl.1 rfl (lv_room (Nat.le_of_ble_eq_true rfl)) dX8_digit_29 ⟨Nat.le_of_ble_eq_true rfl, Nat.le_of_ble_eq_true rfl⟩) hS (fun _ _ h => h) (fun _ h => h) (fun r9 S8 t H locs ht _ h hB _ _ hS => ?_)
      have hP : VX dC dI cA P S8 H := by rw [← ht]; exact hB
      refine va_calli (va_runV (As := [.int _]) (rest := []) ⟨hx, hb, hml, hown, hts⟩ (c_X1_digitOf l hI hk4 h) (cwV 1 hts gv_X8_142 rfl rfl rfl hv_X1_digitOf ⟨Nat.le_of_ble_eq_true rfl, Nat.le_of_ble_eq_true rfl⟩) (preV_X hKX hP hS (kX_lt hk4) (eX1 hk4) rfl) rfl rfl hl.1 rfl (lv_room (Nat.le_of_ble_eq_true rfl)) dX8_digit_32 ⟨Nat.le_of_ble_eq_true rfl, Nat.le_of_ble_eq_true rfl⟩) hS (fun _ _ h => h) (fun _ h => h) (fun r11 S10 t H locs ht _ h hB _ _ hS => ?_)
      have hP : VX dC dI cA P S10 H := by rw [← ht]; exact hB
      exact g_iret hx hb hr hlocks h hP hS dX8_digit_35
    · replace h := h.1 c7
      refine lv_iconst (v := (-1)) hx hb dX8_digit_24 (by decide) ?_
      exact g_iret hx hb hr hlocks h hP hS dX8_digit_25
set_option maxRecDepth 100000 in
set_option maxHeartbeats 4000000 in
theorem c_X8_rest (l : Launch) {dC : Nat → ClassId} {dI : Nat → Nat → Nat} {cA : Nat → ClassId} {adK adV P : Nat → Nat} (hI : PInj 56 P) {v1 : Int32} {v2 : Int32}  {post : Int32 → St → Prop} {S : St} (h : w_X8_rest v1 v2 post S) : Met l yX8_rest (wW yX8_rest cX8_rest 4 (some .int)) ({ frames := 2, cells := 0, slots := 0, locals := 45 } : Room) (va_Pc [.ref (P 0), .int v1, .int v2] (PreX dC dI cA adK adV P S)) (va_Qi post (fun u t => VX dC dI cA P u t.heap) (PA 56 P)) 0 0 (PA 56 P) := by
  refine Met.ofW (cc := cX8_rest) (maxL := 4) (ret := (some .int)) (by decide) rfl ?_
  intro p e s m args below meth c s₁ B hml hv
  obtain ⟨rfl, hP, hKX⟩ := hv
  have hts : ∀ w ∈ G, w.before [.ref (P 0), .int v1, .int v2].toArray s = true := fun w hw => atoms_spec (ws := wW yX8_rest cX8_rest 4 (some .int)) B.pre w (List.mem_cons_of_mem _ hw)
  have C : CtxX dC dI cA adK adV P p s m [.ref (P 0), .int v1, .int v2].toArray meth c cX8_rest 4 (some .int) RX8 := ⟨hI, hKX, ⟨B.exec, B.bytes, hml, findClass_of_methodNamed B.named, hts⟩, B.returns, B.notSynchronized⟩
  obtain ⟨hI, hKX, ⟨hx, hb, hml, hown, hts⟩, hr, hlocks⟩ := id C
  have hK := hKX.1
  have hS : va_S (PA 56 P) s.heap s.heap [] := va_S.rf
  have hl := lv_entry ([.ref (P 0), .int v1, .int v2]) (n := 4) (Nat.le_of_ble_eq_true rfl)
  rw [lg_entry_eq]
  generalize (lg_sl ([.ref (P 0), .int v1, .int v2]) ++ List.replicate (4 - (lg_sl ([.ref (P 0), .int v1, .int v2])).length) Slot.unset).toArray = ls at hl ⊢
  have hl : lv_has ls 4 [(0, .ref (P 0)), (1, .int v1), (2, .int v2)] := hl
  rw [w_X8_rest] at h
  refine lv_aload_n hx hb dX8_rest_0 rfl (lv_at hl 0 rfl) ?_
  refine g_get (v := .ref (P 1)) hx hb hts inG_X8 hown hK hP (kX_lt (rfl : kdX 0 = 8)) (eX8 (rfl : kdX 0 = 8)) rfl 0 (by decide) G_fl_X8_12 rfl rfl dX8_rest_1 ?_
  refine lv_iload_n hx hb dX8_rest_4 rfl (lv_at hl 1 rfl) ?_
  refine va_callq (va_runV (As := [.int _]) (rest := []) ⟨hx, hb, hml, hown, hts⟩ (c_X6_at l hI (rfl : kdX 1 = 6) h) (cwV 1 hts gv_X8_97 rfl rfl rfl hv_X6_at ⟨Nat.le_of_ble_eq_true rfl, Nat.le_of_ble_eq_true rfl⟩) (preV_X hKX hP hS (kX_lt (rfl : kdX 1 = 6)) (eX6 (rfl : kdX 1 = 6)) rfl) rfl rfl hl.1 rfl (lv_room (Nat.le_of_ble_eq_true rfl)) dX8_rest_5 ⟨Nat.le_of_ble_eq_true rfl, Nat.le_of_ble_eq_true rfl⟩) hS (fun _ _ h => h) (fun _ h => h) (fun q S1 t H locs ht _ h hB _ _ hS => ?_)
  have hP : VX dC dI cA P S1 H := by rw [← ht]; exact hB
  obtain ⟨o2, rfl, hko, h⟩ := h
  rcases o2 with _ | k3
  · replace h := h.1 rfl
    refine lv_astore_nN (lv' := [(3, .null), (0, .ref (P 0)), (1, .int v1), (2, .int v2)]) hx hb dX8_rest_8 rfl hl (by decide) rfl (fun ls hl => ?_)
    refine lv_aload_nN hx hb dX8_rest_9 rfl (lv_at hl 0 rfl) ?_
    refine lv_ifnullN (tgt := 24) hx hb dX8_rest_10 (by decide) ?_
    refine lv_iconst (v := (-1)) hx hb dX8_rest_24 (by decide) ?_
    exact g_iret hx hb hr hlocks h hP hS dX8_rest_25
  · have hk4 := hko k3 rfl
    replace h := h.2 k3 rfl
    refine lv_astore_n (lv' := [(3, .ref (P k3)), (0, .ref (P 0)), (1, .int v1), (2, .int v2)]) hx hb dX8_rest_8 rfl hl (by decide) rfl (fun ls hl => ?_)
    refine lv_aload_n hx hb dX8_rest_9 rfl (lv_at hl 0 rfl) ?_
    refine lv_ifnull hx hb dX8_rest_10 ?_
    refine lv_iload_n hx hb dX8_rest_13 rfl (lv_at hl 3 rfl) ?_
    refine lv_iconst (v := 0) hx hb dX8_rest_14 (by decide) ?_
    refine lv_sipush (v := 9999) hx hb dX8_rest_15 (by decide) ?_
    refine va_calli (va_runS (As := [.int _, .int _, .int _]) (rest := []) ⟨hx, hb, hml, hown, hts⟩ (c_X8_isWithin l hI h) (va_cwS 3 hts gs_X8_81 rfl rfl rfl hd_X8_isWithin ⟨Nat.le_of_ble_eq_true rfl, Nat.le_of_ble_eq_true rfl⟩) (preS_X hKX hP hS) rfl rfl hl.1 rfl (lv_room (Nat.le_of_ble_eq_true rfl)) dX8_rest_18 ⟨Nat.le_of_ble_eq_true rfl, Nat.le_of_ble_eq_true rfl⟩) hS (fun _ _ h => h) (fun _ h => h) (fun r6 S5 t H locs ht _ h hB _ _ hS => ?_)
    have hP : VX dC dI cA P S5 H := by rw [← ht]; exact hB
    refine lv_if_ne (tgt := 26) hx hb dX8_rest_21 (by decide) (fun c7 => ?_) (fun c7 => ?_)
    · replace h := h.2 c7
      refine lv_aload_n hx hb dX8_rest_26 rfl (lv_at hl 0 rfl) ?_
      refine lv_iload_n hx hb dX8_rest_27 rfl (lv_at hl 3 rfl) ?_
      refine va_calli (va_runV (As := [.int _]) (rest := []) ⟨hx, hb, hml, hown, hts⟩ (c_X1_restAt l hI hk4 h) (cwV 1 hts gv_X8_139 rfl rfl rfl hv_X1_restAt ⟨Nat.le_of_ble_eq_true rfl, Nat.le_of_ble_eq_true rfl⟩) (preV_X hKX hP hS (kX_lt hk4) (eX1 hk4) rfl) rfl rfl hl.1 rfl (lv_room (Nat.le_of_ble_eq_true rfl)) dX8_rest_28 ⟨Nat.le_of_ble_eq_true rfl, Nat.le_of_ble_eq_true rfl⟩) hS (fun _ _ h => h) (fun _ h => h) (fun r9 S8 t H locs ht _ h hB _ _ hS => ?_)
      have hP : VX dC dI cA P S8 H := by rw [← ht]; exact hB
      exact g_iret hx hb hr hlocks h hP hS dX8_rest_31
    · replace h := h.1 c7
      refine lv_iconst (v := (-1)) hx hb dX8_rest_24 (by decide) ?_
      exact g_iret hx hb hr hlocks h hP hS dX8_rest_25
set_option maxRecDepth 100000 in
set_option maxHeartbeats 4000000 in
theorem c_X8_place (l : Launch) {dC : Nat → ClassId} {dI : Nat → Nat → Nat} {cA : Nat → ClassId} {adK adV P : Nat → Nat} (hI : PInj 56 P) {v1 : Int32} {v2 : Int32}  {post : Int32 → St → Prop} {S : St} (h : w_X8_place v1 v2 post S) : Met l yX8_place (wW yX8_place cX8_place 4 (some .int)) ({ frames := 3, cells := 0, slots := 0, locals := 67 } : Room) (va_Pc [.ref (P 0), .int v1, .int v2] (PreX dC dI cA adK adV P S)) (va_Qi post (fun u t => VX dC dI cA P u t.heap) (PA 56 P)) 0 0 (PA 56 P) := by
  refine Met.ofW (cc := cX8_place) (maxL := 4) (ret := (some .int)) (by decide) rfl ?_
  intro p e s m args below meth c s₁ B hml hv
  obtain ⟨rfl, hP, hKX⟩ := hv
  have hts : ∀ w ∈ G, w.before [.ref (P 0), .int v1, .int v2].toArray s = true := fun w hw => atoms_spec (ws := wW yX8_place cX8_place 4 (some .int)) B.pre w (List.mem_cons_of_mem _ hw)
  have C : CtxX dC dI cA adK adV P p s m [.ref (P 0), .int v1, .int v2].toArray meth c cX8_place 4 (some .int) RX8 := ⟨hI, hKX, ⟨B.exec, B.bytes, hml, findClass_of_methodNamed B.named, hts⟩, B.returns, B.notSynchronized⟩
  obtain ⟨hI, hKX, ⟨hx, hb, hml, hown, hts⟩, hr, hlocks⟩ := id C
  have hK := hKX.1
  have hS : va_S (PA 56 P) s.heap s.heap [] := va_S.rf
  have hl := lv_entry ([.ref (P 0), .int v1, .int v2]) (n := 4) (Nat.le_of_ble_eq_true rfl)
  rw [lg_entry_eq]
  generalize (lg_sl ([.ref (P 0), .int v1, .int v2]) ++ List.replicate (4 - (lg_sl ([.ref (P 0), .int v1, .int v2])).length) Slot.unset).toArray = ls at hl ⊢
  have hl : lv_has ls 4 [(0, .ref (P 0)), (1, .int v1), (2, .int v2)] := hl
  rw [w_X8_place] at h
  refine lv_aload_n hx hb dX8_place_0 rfl (lv_at hl 0 rfl) ?_
  refine g_get (v := .ref (P 1)) hx hb hts inG_X8 hown hK hP (kX_lt (rfl : kdX 0 = 8)) (eX8 (rfl : kdX 0 = 8)) rfl 0 (by decide) G_fl_X8_12 rfl rfl dX8_place_1 ?_
  refine lv_iload_n hx hb dX8_place_4 rfl (lv_at hl 1 rfl) ?_
  refine va_callq (va_runV (As := [.int _]) (rest := []) ⟨hx, hb, hml, hown, hts⟩ (c_X6_at l hI (rfl : kdX 1 = 6) h) (cwV 1 hts gv_X8_97 rfl rfl rfl hv_X6_at ⟨Nat.le_of_ble_eq_true rfl, Nat.le_of_ble_eq_true rfl⟩) (preV_X hKX hP hS (kX_lt (rfl : kdX 1 = 6)) (eX6 (rfl : kdX 1 = 6)) rfl) rfl rfl hl.1 rfl (lv_room (Nat.le_of_ble_eq_true rfl)) dX8_place_5 ⟨Nat.le_of_ble_eq_true rfl, Nat.le_of_ble_eq_true rfl⟩) hS (fun _ _ h => h) (fun _ h => h) (fun q S1 t H locs ht _ h hB _ _ hS => ?_)
  have hP : VX dC dI cA P S1 H := by rw [← ht]; exact hB
  obtain ⟨o2, rfl, hko, h⟩ := h
  rcases o2 with _ | k3
  · replace h := h.1 rfl
    refine lv_astore_nN (lv' := [(3, .null), (0, .ref (P 0)), (1, .int v1), (2, .int v2)]) hx hb dX8_place_8 rfl hl (by decide) rfl (fun ls hl => ?_)
    refine lv_aload_nN hx hb dX8_place_9 rfl (lv_at hl 0 rfl) ?_
    refine lv_ifnullN (tgt := 27) hx hb dX8_place_10 (by decide) ?_
    refine lv_iconst (v := (-1)) hx hb dX8_place_27 (by decide) ?_
    exact g_iret hx hb hr hlocks h hP hS dX8_place_28
  · have hk4 := hko k3 rfl
    replace h := h.2 k3 rfl
    refine lv_astore_n (lv' := [(3, .ref (P k3)), (0, .ref (P 0)), (1, .int v1), (2, .int v2)]) hx hb dX8_place_8 rfl hl (by decide) rfl (fun ls hl => ?_)
    refine lv_aload_n hx hb dX8_place_9 rfl (lv_at hl 0 rfl) ?_
    refine lv_ifnull hx hb dX8_place_10 ?_
    refine lv_iload_n hx hb dX8_place_13 rfl (lv_at hl 3 rfl) ?_
    refine lv_iconst (v := 0) hx hb dX8_place_14 (by decide) ?_
    refine lv_aload_n hx hb dX8_place_15 rfl (lv_at hl 0 rfl) ?_
    refine g_get (v := .int (S1.1 k3 2)) hx hb hts inG_X1 hown hK hP (kX_lt hk4) (eX1 hk4) rfl 2 (by decide) G_fl_X8_108 rfl rfl dX8_place_16 ?_
    refine lv_iconst (v := 1) hx hb dX8_place_19 (by decide) ?_
    refine lv_isub hx hb dX8_place_20 ?_
    replace h := h _ rfl
    refine va_calli (va_runS (As := [.int _, .int _, .int _]) (rest := []) ⟨hx, hb, hml, hown, hts⟩ (c_X8_isWithin l hI h) (va_cwS 3 hts gs_X8_81 rfl rfl rfl hd_X8_isWithin ⟨Nat.le_of_ble_eq_true rfl, Nat.le_of_ble_eq_true rfl⟩) (preS_X hKX hP hS) rfl rfl hl.1 rfl (lv_room (Nat.le_of_ble_eq_true rfl)) dX8_place_21 ⟨Nat.le_of_ble_eq_true rfl, Nat.le_of_ble_eq_true rfl⟩) hS (fun _ _ h => h) (fun _ h => h) (fun r7 S6 t H locs ht _ h hB _ _ hS => ?_)
    have hP : VX dC dI cA P S6 H := by rw [← ht]; exact hB
    refine lv_if_ne (tgt := 29) hx hb dX8_place_24 (by decide) (fun c8 => ?_) (fun c8 => ?_)
    · replace h := h.2 c8
      refine lv_aload_n hx hb dX8_place_29 rfl (lv_at hl 0 rfl) ?_
      refine lv_iload_n hx hb dX8_place_30 rfl (lv_at hl 3 rfl) ?_
      refine va_calli (va_runV (As := [.int _]) (rest := []) ⟨hx, hb, hml, hown, hts⟩ (c_X1_placeOfDigit l hI hk4 h) (cwV 1 hts gv_X8_145 rfl rfl rfl hv_X1_placeOfDigit ⟨Nat.le_of_ble_eq_true rfl, Nat.le_of_ble_eq_true rfl⟩) (preV_X hKX hP hS (kX_lt hk4) (eX1 hk4) rfl) rfl rfl hl.1 rfl (lv_room (Nat.le_of_ble_eq_true rfl)) dX8_place_31 ⟨Nat.le_of_ble_eq_true rfl, Nat.le_of_ble_eq_true rfl⟩) hS (fun _ _ h => h) (fun _ h => h) (fun r10 S9 t H locs ht _ h hB _ _ hS => ?_)
      have hP : VX dC dI cA P S9 H := by rw [← ht]; exact hB
      exact g_iret hx hb hr hlocks h hP hS dX8_place_34
    · replace h := h.1 c8
      refine lv_iconst (v := (-1)) hx hb dX8_place_27 (by decide) ?_
      exact g_iret hx hb hr hlocks h hP hS dX8_place_28
set_option maxRecDepth 100000 in
set_option maxHeartbeats 4000000 in
theorem c_X8_block (l : Launch) {dC : Nat → ClassId} {dI : Nat → Nat → Nat} {cA : Nat → ClassId} {adK adV P : Nat → Nat} (hI : PInj 56 P) {v1 : Int32} {v2 : Int32} {v3 : Int32}  {post : Int32 → St → Prop} {S : St} (h : w_X8_block v1 v2 v3 post S) : Met l yX8_block (wW yX8_block cX8_block 5 (some .int)) ({ frames := 3, cells := 0, slots := 0, locals := 67 } : Room) (va_Pc [.ref (P 0), .int v1, .int v2, .int v3] (PreX dC dI cA adK adV P S)) (va_Qi post (fun u t => VX dC dI cA P u t.heap) (PA 56 P)) 0 0 (PA 56 P) := by
  refine Met.ofW (cc := cX8_block) (maxL := 5) (ret := (some .int)) (by decide) rfl ?_
  intro p e s m args below meth c s₁ B hml hv
  obtain ⟨rfl, hP, hKX⟩ := hv
  have hts : ∀ w ∈ G, w.before [.ref (P 0), .int v1, .int v2, .int v3].toArray s = true := fun w hw => atoms_spec (ws := wW yX8_block cX8_block 5 (some .int)) B.pre w (List.mem_cons_of_mem _ hw)
  have C : CtxX dC dI cA adK adV P p s m [.ref (P 0), .int v1, .int v2, .int v3].toArray meth c cX8_block 5 (some .int) RX8 := ⟨hI, hKX, ⟨B.exec, B.bytes, hml, findClass_of_methodNamed B.named, hts⟩, B.returns, B.notSynchronized⟩
  obtain ⟨hI, hKX, ⟨hx, hb, hml, hown, hts⟩, hr, hlocks⟩ := id C
  have hK := hKX.1
  have hS : va_S (PA 56 P) s.heap s.heap [] := va_S.rf
  have hl := lv_entry ([.ref (P 0), .int v1, .int v2, .int v3]) (n := 5) (Nat.le_of_ble_eq_true rfl)
  rw [lg_entry_eq]
  generalize (lg_sl ([.ref (P 0), .int v1, .int v2, .int v3]) ++ List.replicate (5 - (lg_sl ([.ref (P 0), .int v1, .int v2, .int v3])).length) Slot.unset).toArray = ls at hl ⊢
  have hl : lv_has ls 5 [(0, .ref (P 0)), (1, .int v1), (2, .int v2), (3, .int v3)] := hl
  rw [w_X8_block] at h
  refine lv_aload_n hx hb dX8_block_0 rfl (lv_at hl 0 rfl) ?_
  refine g_get (v := .ref (P 1)) hx hb hts inG_X8 hown hK hP (kX_lt (rfl : kdX 0 = 8)) (eX8 (rfl : kdX 0 = 8)) rfl 0 (by decide) G_fl_X8_12 rfl rfl dX8_block_1 ?_
  refine lv_iload_n hx hb dX8_block_4 rfl (lv_at hl 1 rfl) ?_
  refine va_callq (va_runV (As := [.int _]) (rest := []) ⟨hx, hb, hml, hown, hts⟩ (c_X6_at l hI (rfl : kdX 1 = 6) h) (cwV 1 hts gv_X8_97 rfl rfl rfl hv_X6_at ⟨Nat.le_of_ble_eq_true rfl, Nat.le_of_ble_eq_true rfl⟩) (preV_X hKX hP hS (kX_lt (rfl : kdX 1 = 6)) (eX6 (rfl : kdX 1 = 6)) rfl) rfl rfl hl.1 rfl (lv_room (Nat.le_of_ble_eq_true rfl)) dX8_block_5 ⟨Nat.le_of_ble_eq_true rfl, Nat.le_of_ble_eq_true rfl⟩) hS (fun _ _ h => h) (fun _ h => h) (fun q S1 t H locs ht _ h hB _ _ hS => ?_)
  have hP : VX dC dI cA P S1 H := by rw [← ht]; exact hB
  obtain ⟨o2, rfl, hko, h⟩ := h
  rcases o2 with _ | k3
  · replace h := h.1 rfl
    refine lv_astoreN (lv' := [(4, .null), (0, .ref (P 0)), (1, .int v1), (2, .int v2), (3, .int v3)]) hx hb dX8_block_8 hl (by decide) rfl (fun ls hl => ?_)
    refine lv_aloadN hx hb dX8_block_10 (lv_at hl 0 rfl) ?_
    refine lv_ifnullN (tgt := 40) hx hb dX8_block_12 (by decide) ?_
    refine lv_iconst (v := (-1)) hx hb dX8_block_40 (by decide) ?_
    exact g_iret hx hb hr hlocks h hP hS dX8_block_41
  · have hk4 := hko k3 rfl
    replace h := h.2 k3 rfl
    refine lv_astore (lv' := [(4, .ref (P k3)), (0, .ref (P 0)), (1, .int v1), (2, .int v2), (3, .int v3)]) hx hb dX8_block_8 hl (by decide) rfl (fun ls hl => ?_)
    refine lv_aload hx hb dX8_block_10 (lv_at hl 0 rfl) ?_
    refine lv_ifnull hx hb dX8_block_12 ?_
    refine lv_aload hx hb dX8_block_15 (lv_at hl 0 rfl) ?_
    refine lv_iload_n hx hb dX8_block_17 rfl (lv_at hl 3 rfl) ?_
    refine va_calli (va_runV (As := [.int _]) (rest := []) ⟨hx, hb, hml, hown, hts⟩ (c_X1_partsInto l hI hk4 h) (cwV 1 hts gv_X8_148 rfl rfl rfl hv_X1_partsInto ⟨Nat.le_of_ble_eq_true rfl, Nat.le_of_ble_eq_true rfl⟩) (preV_X hKX hP hS (kX_lt hk4) (eX1 hk4) rfl) rfl rfl hl.1 rfl (lv_room (Nat.le_of_ble_eq_true rfl)) dX8_block_18 ⟨Nat.le_of_ble_eq_true rfl, Nat.le_of_ble_eq_true rfl⟩) hS (fun _ _ h => h) (fun _ h => h) (fun r6 S5 t H locs ht _ h hB _ _ hS => ?_)
    have hP : VX dC dI cA P S5 H := by rw [← ht]; exact hB
    refine lv_if_eq (tgt := 40) hx hb dX8_block_21 (by decide) (fun c7 => ?_) (fun c7 => ?_)
    · replace h := h.1 c7
      refine lv_iconst (v := (-1)) hx hb dX8_block_40 (by decide) ?_
      exact g_iret hx hb hr hlocks h hP hS dX8_block_41
    · replace h := h.2 c7
      refine lv_iload_n hx hb dX8_block_24 rfl (lv_at hl 4 rfl) ?_
      refine lv_iconst (v := (-1)) hx hb dX8_block_25 (by decide) ?_
      refine lv_aload hx hb dX8_block_26 (lv_at hl 0 rfl) ?_
      refine lv_iload_n hx hb dX8_block_28 rfl (lv_at hl 3 rfl) ?_
      refine va_calli (va_runV (As := [.int _]) (rest := [.int _, .int _]) ⟨hx, hb, hml, hown, hts⟩ (c_X1_blockWidth l hI hk4 h) (cwV 1 hts gv_X8_151 rfl rfl rfl hv_X1_blockWidth ⟨Nat.le_of_ble_eq_true rfl, Nat.le_of_ble_eq_true rfl⟩) (preV_X hKX hP hS (kX_lt hk4) (eX1 hk4) rfl) rfl rfl hl.1 rfl (lv_room (Nat.le_of_ble_eq_true rfl)) dX8_block_29 ⟨Nat.le_of_ble_eq_true rfl, Nat.le_of_ble_eq_true rfl⟩) hS (fun _ _ h => h) (fun _ h => h) (fun r9 S8 t H locs ht _ h hB _ _ hS => ?_)
      have hP : VX dC dI cA P S8 H := by rw [← ht]; exact hB
      refine lv_iconst (v := 1) hx hb dX8_block_32 (by decide) ?_
      refine lv_isub hx hb dX8_block_33 ?_
      replace h := h _ rfl
      refine va_calli (va_runS (As := [.int _, .int _, .int _]) (rest := []) ⟨hx, hb, hml, hown, hts⟩ (c_X8_isWithin l hI h) (va_cwS 3 hts gs_X8_81 rfl rfl rfl hd_X8_isWithin ⟨Nat.le_of_ble_eq_true rfl, Nat.le_of_ble_eq_true rfl⟩) (preS_X hKX hP hS) rfl rfl hl.1 rfl (lv_room (Nat.le_of_ble_eq_true rfl)) dX8_block_34 ⟨Nat.le_of_ble_eq_true rfl, Nat.le_of_ble_eq_true rfl⟩) hS (fun _ _ h => h) (fun _ h => h) (fun r12 S11 t H locs ht _ h hB _ _ hS => ?_)
      have hP : VX dC dI cA P S11 H := by rw [← ht]; exact hB
      refine lv_if_ne (tgt := 42) hx hb dX8_block_37 (by decide) (fun c13 => ?_) (fun c13 => ?_)
      · replace h := h.2 c13
        refine lv_aload_n hx hb dX8_block_42 rfl (lv_at hl 1 rfl) ?_
        refine g_get (v := .ref (P 52)) hx hb hts inG_X8 hown hK hP (kX_lt (rfl : kdX 0 = 8)) (eX8 (rfl : kdX 0 = 8)) rfl 9 (by decide) G_fl_X8_65 rfl rfl dX8_block_43 ?_
        refine lv_aload hx hb dX8_block_46 (lv_at hl 0 rfl) ?_
        refine va_callv (va_runV (As := [.ref _]) (rest := []) ⟨hx, hb, hml, hown, hts⟩ (c_X4_load l hI hk4 h) (cwV 1 hts gv_X8_154 rfl rfl rfl hv_X4_load ⟨Nat.le_of_ble_eq_true rfl, Nat.le_of_ble_eq_true rfl⟩) (preV_X hKX hP hS (kX_lt (rfl : kdX 52 = 4)) (eX4 (rfl : kdX 52 = 4)) rfl) rfl rfl hl.1 rfl (lv_room (Nat.le_of_ble_eq_true rfl)) dX8_block_48 ⟨Nat.le_of_ble_eq_true rfl, Nat.le_of_ble_eq_true rfl⟩) hS (fun _ _ h => h) (fun _ h => h) (fun S14 t H locs ht _ h hB _ _ hS => ?_)
        have hP : VX dC dI cA P S14 H := by rw [← ht]; exact hB
        refine lv_aload_n hx hb dX8_block_51 rfl (lv_at hl 1 rfl) ?_
        refine g_get (v := .ref (P 52)) hx hb hts inG_X8 hown hK hP (kX_lt (rfl : kdX 0 = 8)) (eX8 (rfl : kdX 0 = 8)) rfl 9 (by decide) G_fl_X8_65 rfl rfl dX8_block_52 ?_
        refine lv_iload_n hx hb dX8_block_55 rfl (lv_at hl 3 rfl) ?_
        refine lv_aload hx hb dX8_block_56 (lv_at hl 0 rfl) ?_
        refine lv_iload_n hx hb dX8_block_58 rfl (lv_at hl 3 rfl) ?_
        refine va_calli (va_runV (As := [.int _]) (rest := [.int _, .ref _]) ⟨hx, hb, hml, hown, hts⟩ (c_X1_blockWidth l hI hk4 h) (cwV 1 hts gv_X8_151 rfl rfl rfl hv_X1_blockWidth ⟨Nat.le_of_ble_eq_true rfl, Nat.le_of_ble_eq_true rfl⟩) (preV_X hKX hP hS (kX_lt hk4) (eX1 hk4) rfl) rfl rfl hl.1 rfl (lv_room (Nat.le_of_ble_eq_true rfl)) dX8_block_59 ⟨Nat.le_of_ble_eq_true rfl, Nat.le_of_ble_eq_true rfl⟩) hS (fun _ _ h => h) (fun _ h => h) (fun r16 S15 t H locs ht _ h hB _ _ hS => ?_)
        have hP : VX dC dI cA P S15 H := by rw [← ht]; exact hB
        refine lv_iload_n hx hb dX8_block_62 rfl (lv_at hl 4 rfl) ?_
        refine lv_aload hx hb dX8_block_63 (lv_at hl 0 rfl) ?_
        refine g_get (v := .int (S15.1 k3 2)) hx hb hts inG_X1 hown hK hP (kX_lt hk4) (eX1 hk4) rfl 2 (by decide) G_fl_X8_108 rfl rfl dX8_block_65 ?_
        replace h := h _ rfl
        refine va_calli (va_runV (As := [.int _, .int _, .int _, .int _]) (rest := []) ⟨hx, hb, hml, hown, hts⟩ (c_X4_placeOfBlocks l hI h) (cwV 4 hts gv_X8_158 rfl rfl rfl hv_X4_placeOfBlocks ⟨Nat.le_of_ble_eq_true rfl, Nat.le_of_ble_eq_true rfl⟩) (preV_X hKX hP hS (kX_lt (rfl : kdX 52 = 4)) (eX4 (rfl : kdX 52 = 4)) rfl) rfl rfl hl.1 rfl (lv_room (Nat.le_of_ble_eq_true rfl)) dX8_block_68 ⟨Nat.le_of_ble_eq_true rfl, Nat.le_of_ble_eq_true rfl⟩) hS (fun _ _ h => h) (fun _ h => h) (fun r19 S18 t H locs ht _ h hB _ _ hS => ?_)
        have hP : VX dC dI cA P S18 H := by rw [← ht]; exact hB
        exact g_iret hx hb hr hlocks h hP hS dX8_block_71
      · replace h := h.1 c13
        refine lv_iconst (v := (-1)) hx hb dX8_block_40 (by decide) ?_
        exact g_iret hx hb hr hlocks h hP hS dX8_block_41
set_option maxRecDepth 100000 in
set_option maxHeartbeats 4000000 in
theorem c_X8_nines (l : Launch) {dC : Nat → ClassId} {dI : Nat → Nat → Nat} {cA : Nat → ClassId} {adK adV P : Nat → Nat} (hI : PInj 56 P) {v1 : Int32} {v2 : Int32}  {post : Int32 → St → Prop} {S : St} (h : w_X8_nines v1 v2 post S) : Met l yX8_nines (wW yX8_nines cX8_nines 4 (some .int)) ({ frames := 3, cells := 0, slots := 0, locals := 69 } : Room) (va_Pc [.ref (P 0), .int v1, .int v2] (PreX dC dI cA adK adV P S)) (va_Qi post (fun u t => VX dC dI cA P u t.heap) (PA 56 P)) 0 0 (PA 56 P) := by
  refine Met.ofW (cc := cX8_nines) (maxL := 4) (ret := (some .int)) (by decide) rfl ?_
  intro p e s m args below meth c s₁ B hml hv
  obtain ⟨rfl, hP, hKX⟩ := hv
  have hts : ∀ w ∈ G, w.before [.ref (P 0), .int v1, .int v2].toArray s = true := fun w hw => atoms_spec (ws := wW yX8_nines cX8_nines 4 (some .int)) B.pre w (List.mem_cons_of_mem _ hw)
  have C : CtxX dC dI cA adK adV P p s m [.ref (P 0), .int v1, .int v2].toArray meth c cX8_nines 4 (some .int) RX8 := ⟨hI, hKX, ⟨B.exec, B.bytes, hml, findClass_of_methodNamed B.named, hts⟩, B.returns, B.notSynchronized⟩
  obtain ⟨hI, hKX, ⟨hx, hb, hml, hown, hts⟩, hr, hlocks⟩ := id C
  have hK := hKX.1
  have hS : va_S (PA 56 P) s.heap s.heap [] := va_S.rf
  have hl := lv_entry ([.ref (P 0), .int v1, .int v2]) (n := 4) (Nat.le_of_ble_eq_true rfl)
  rw [lg_entry_eq]
  generalize (lg_sl ([.ref (P 0), .int v1, .int v2]) ++ List.replicate (4 - (lg_sl ([.ref (P 0), .int v1, .int v2])).length) Slot.unset).toArray = ls at hl ⊢
  have hl : lv_has ls 4 [(0, .ref (P 0)), (1, .int v1), (2, .int v2)] := hl
  rw [w_X8_nines] at h
  refine lv_aload_n hx hb dX8_nines_0 rfl (lv_at hl 0 rfl) ?_
  refine g_get (v := .ref (P 1)) hx hb hts inG_X8 hown hK hP (kX_lt (rfl : kdX 0 = 8)) (eX8 (rfl : kdX 0 = 8)) rfl 0 (by decide) G_fl_X8_12 rfl rfl dX8_nines_1 ?_
  refine lv_iload_n hx hb dX8_nines_4 rfl (lv_at hl 1 rfl) ?_
  refine va_callq (va_runV (As := [.int _]) (rest := []) ⟨hx, hb, hml, hown, hts⟩ (c_X6_at l hI (rfl : kdX 1 = 6) h) (cwV 1 hts gv_X8_97 rfl rfl rfl hv_X6_at ⟨Nat.le_of_ble_eq_true rfl, Nat.le_of_ble_eq_true rfl⟩) (preV_X hKX hP hS (kX_lt (rfl : kdX 1 = 6)) (eX6 (rfl : kdX 1 = 6)) rfl) rfl rfl hl.1 rfl (lv_room (Nat.le_of_ble_eq_true rfl)) dX8_nines_5 ⟨Nat.le_of_ble_eq_true rfl, Nat.le_of_ble_eq_true rfl⟩) hS (fun _ _ h => h) (fun _ h => h) (fun q S1 t H locs ht _ h hB _ _ hS => ?_)
  have hP : VX dC dI cA P S1 H := by rw [← ht]; exact hB
  obtain ⟨o2, rfl, hko, h⟩ := h
  rcases o2 with _ | k3
  · replace h := h.1 rfl
    refine lv_astore_nN (lv' := [(3, .null), (0, .ref (P 0)), (1, .int v1), (2, .int v2)]) hx hb dX8_nines_8 rfl hl (by decide) rfl (fun ls hl => ?_)
    refine lv_aload_nN hx hb dX8_nines_9 rfl (lv_at hl 0 rfl) ?_
    refine lv_ifnullN (tgt := 21) hx hb dX8_nines_10 (by decide) ?_
    refine lv_iconst (v := (-1)) hx hb dX8_nines_21 (by decide) ?_
    exact g_iret hx hb hr hlocks h hP hS dX8_nines_22
  · have hk4 := hko k3 rfl
    replace h := h.2 k3 rfl
    refine lv_astore_n (lv' := [(3, .ref (P k3)), (0, .ref (P 0)), (1, .int v1), (2, .int v2)]) hx hb dX8_nines_8 rfl hl (by decide) rfl (fun ls hl => ?_)
    refine lv_aload_n hx hb dX8_nines_9 rfl (lv_at hl 0 rfl) ?_
    refine lv_ifnull hx hb dX8_nines_10 ?_
    refine lv_aload_n hx hb dX8_nines_13 rfl (lv_at hl 0 rfl) ?_
    refine lv_iload_n hx hb dX8_nines_14 rfl (lv_at hl 3 rfl) ?_
    refine va_calli (va_runV (As := [.int _]) (rest := []) ⟨hx, hb, hml, hown, hts⟩ (c_X1_partsInto l hI hk4 h) (cwV 1 hts gv_X8_148 rfl rfl rfl hv_X1_partsInto ⟨Nat.le_of_ble_eq_true rfl, Nat.le_of_ble_eq_true rfl⟩) (preV_X hKX hP hS (kX_lt hk4) (eX1 hk4) rfl) rfl rfl hl.1 rfl (lv_room (Nat.le_of_ble_eq_true rfl)) dX8_nines_15 ⟨Nat.le_of_ble_eq_true rfl, Nat.le_of_ble_eq_true rfl⟩) hS (fun _ _ h => h) (fun _ h => h) (fun r6 S5 t H locs ht _ h hB _ _ hS => ?_)
    have hP : VX dC dI cA P S5 H := by rw [← ht]; exact hB
    refine lv_if_ne (tgt := 23) hx hb dX8_nines_18 (by decide) (fun c7 => ?_) (fun c7 => ?_)
    · replace h := h.2 c7
      refine lv_aload_n hx hb dX8_nines_23 rfl (lv_at hl 0 rfl) ?_
      refine lv_iload_n hx hb dX8_nines_24 rfl (lv_at hl 3 rfl) ?_
      refine va_calli (va_runV (As := [.int _]) (rest := []) ⟨hx, hb, hml, hown, hts⟩ (c_X1_ninesOfBlocks l hI hk4 h) (cwV 1 hts gv_X8_162 rfl rfl rfl hv_X1_ninesOfBlocks ⟨Nat.le_of_ble_eq_true rfl, Nat.le_of_ble_eq_true rfl⟩) (preV_X hKX hP hS (kX_lt hk4) (eX1 hk4) rfl) rfl rfl hl.1 rfl (lv_room (Nat.le_of_ble_eq_true rfl)) dX8_nines_25 ⟨Nat.le_of_ble_eq_true rfl, Nat.le_of_ble_eq_true rfl⟩) hS (fun _ _ h => h) (fun _ h => h) (fun r9 S8 t H locs ht _ h hB _ _ hS => ?_)
      have hP : VX dC dI cA P S8 H := by rw [← ht]; exact hB
      exact g_iret hx hb hr hlocks h hP hS dX8_nines_28
    · replace h := h.1 c7
      refine lv_iconst (v := (-1)) hx hb dX8_nines_21 (by decide) ?_
      exact g_iret hx hb hr hlocks h hP hS dX8_nines_22
set_option maxRecDepth 100000 in
set_option maxHeartbeats 4000000 in
theorem c_X8_shift (l : Launch) {dC : Nat → ClassId} {dI : Nat → Nat → Nat} {cA : Nat → ClassId} {adK adV P : Nat → Nat} (hI : PInj 56 P) {v1 : Int32} {v2 : Int32}  {post : Int32 → St → Prop} {S : St} (h : w_X8_shift v1 v2 post S) : Met l yX8_shift (wW yX8_shift cX8_shift 4 (some .int)) ({ frames := 2, cells := 0, slots := 0, locals := 44 } : Room) (va_Pc [.ref (P 0), .int v1, .int v2] (PreX dC dI cA adK adV P S)) (va_Qi post (fun u t => VX dC dI cA P u t.heap) (PA 56 P)) 0 0 (PA 56 P) := by
  refine Met.ofW (cc := cX8_shift) (maxL := 4) (ret := (some .int)) (by decide) rfl ?_
  intro p e s m args below meth c s₁ B hml hv
  obtain ⟨rfl, hP, hKX⟩ := hv
  have hts : ∀ w ∈ G, w.before [.ref (P 0), .int v1, .int v2].toArray s = true := fun w hw => atoms_spec (ws := wW yX8_shift cX8_shift 4 (some .int)) B.pre w (List.mem_cons_of_mem _ hw)
  have C : CtxX dC dI cA adK adV P p s m [.ref (P 0), .int v1, .int v2].toArray meth c cX8_shift 4 (some .int) RX8 := ⟨hI, hKX, ⟨B.exec, B.bytes, hml, findClass_of_methodNamed B.named, hts⟩, B.returns, B.notSynchronized⟩
  obtain ⟨hI, hKX, ⟨hx, hb, hml, hown, hts⟩, hr, hlocks⟩ := id C
  have hK := hKX.1
  have hS : va_S (PA 56 P) s.heap s.heap [] := va_S.rf
  have hl := lv_entry ([.ref (P 0), .int v1, .int v2]) (n := 4) (Nat.le_of_ble_eq_true rfl)
  rw [lg_entry_eq]
  generalize (lg_sl ([.ref (P 0), .int v1, .int v2]) ++ List.replicate (4 - (lg_sl ([.ref (P 0), .int v1, .int v2])).length) Slot.unset).toArray = ls at hl ⊢
  have hl : lv_has ls 4 [(0, .ref (P 0)), (1, .int v1), (2, .int v2)] := hl
  rw [w_X8_shift] at h
  refine lv_aload_n hx hb dX8_shift_0 rfl (lv_at hl 0 rfl) ?_
  refine g_get (v := .ref (P 1)) hx hb hts inG_X8 hown hK hP (kX_lt (rfl : kdX 0 = 8)) (eX8 (rfl : kdX 0 = 8)) rfl 0 (by decide) G_fl_X8_12 rfl rfl dX8_shift_1 ?_
  refine lv_iload_n hx hb dX8_shift_4 rfl (lv_at hl 1 rfl) ?_
  refine va_callq (va_runV (As := [.int _]) (rest := []) ⟨hx, hb, hml, hown, hts⟩ (c_X6_at l hI (rfl : kdX 1 = 6) h) (cwV 1 hts gv_X8_97 rfl rfl rfl hv_X6_at ⟨Nat.le_of_ble_eq_true rfl, Nat.le_of_ble_eq_true rfl⟩) (preV_X hKX hP hS (kX_lt (rfl : kdX 1 = 6)) (eX6 (rfl : kdX 1 = 6)) rfl) rfl rfl hl.1 rfl (lv_room (Nat.le_of_ble_eq_true rfl)) dX8_shift_5 ⟨Nat.le_of_ble_eq_true rfl, Nat.le_of_ble_eq_true rfl⟩) hS (fun _ _ h => h) (fun _ h => h) (fun q S1 t H locs ht _ h hB _ _ hS => ?_)
  have hP : VX dC dI cA P S1 H := by rw [← ht]; exact hB
  obtain ⟨o2, rfl, hko, h⟩ := h
  rcases o2 with _ | k3
  · replace h := h.1 rfl
    refine lv_astore_nN (lv' := [(3, .null), (0, .ref (P 0)), (1, .int v1), (2, .int v2)]) hx hb dX8_shift_8 rfl hl (by decide) rfl (fun ls hl => ?_)
    refine lv_aload_nN hx hb dX8_shift_9 rfl (lv_at hl 0 rfl) ?_
    refine lv_ifnullN (tgt := 24) hx hb dX8_shift_10 (by decide) ?_
    refine lv_iconst (v := (-1)) hx hb dX8_shift_24 (by decide) ?_
    exact g_iret hx hb hr hlocks h hP hS dX8_shift_25
  · have hk4 := hko k3 rfl
    replace h := h.2 k3 rfl
    refine lv_astore_n (lv' := [(3, .ref (P k3)), (0, .ref (P 0)), (1, .int v1), (2, .int v2)]) hx hb dX8_shift_8 rfl hl (by decide) rfl (fun ls hl => ?_)
    refine lv_aload_n hx hb dX8_shift_9 rfl (lv_at hl 0 rfl) ?_
    refine lv_ifnull hx hb dX8_shift_10 ?_
    refine lv_iload_n hx hb dX8_shift_13 rfl (lv_at hl 3 rfl) ?_
    refine lv_iconst (v := 1) hx hb dX8_shift_14 (by decide) ?_
    refine lv_sipush (v := 999) hx hb dX8_shift_15 (by decide) ?_
    refine va_calli (va_runS (As := [.int _, .int _, .int _]) (rest := []) ⟨hx, hb, hml, hown, hts⟩ (c_X8_isWithin l hI h) (va_cwS 3 hts gs_X8_81 rfl rfl rfl hd_X8_isWithin ⟨Nat.le_of_ble_eq_true rfl, Nat.le_of_ble_eq_true rfl⟩) (preS_X hKX hP hS) rfl rfl hl.1 rfl (lv_room (Nat.le_of_ble_eq_true rfl)) dX8_shift_18 ⟨Nat.le_of_ble_eq_true rfl, Nat.le_of_ble_eq_true rfl⟩) hS (fun _ _ h => h) (fun _ h => h) (fun r6 S5 t H locs ht _ h hB _ _ hS => ?_)
    have hP : VX dC dI cA P S5 H := by rw [← ht]; exact hB
    refine lv_if_ne (tgt := 26) hx hb dX8_shift_21 (by decide) (fun c7 => ?_) (fun c7 => ?_)
    · replace h := h.2 c7
      refine lv_aload_n hx hb dX8_shift_26 rfl (lv_at hl 0 rfl) ?_
      refine lv_aload_n hx hb dX8_shift_27 rfl (lv_at hl 0 rfl) ?_
      refine lv_iload_n hx hb dX8_shift_28 rfl (lv_at hl 3 rfl) ?_
      refine va_calli (va_runV (As := [.int _]) (rest := [.ref _]) ⟨hx, hb, hml, hown, hts⟩ (c_X1_turningRestTimes l hI hk4 h) (cwV 1 hts gv_X8_165 rfl rfl rfl hv_X1_turningRestTimes ⟨Nat.le_of_ble_eq_true rfl, Nat.le_of_ble_eq_true rfl⟩) (preV_X hKX hP hS (kX_lt hk4) (eX1 hk4) rfl) rfl rfl hl.1 rfl (lv_room (Nat.le_of_ble_eq_true rfl)) dX8_shift_29 ⟨Nat.le_of_ble_eq_true rfl, Nat.le_of_ble_eq_true rfl⟩) hS (fun _ _ h => h) (fun _ h => h) (fun r9 S8 t H locs ht _ h hB _ _ hS => ?_)
      have hP : VX dC dI cA P S8 H := by rw [← ht]; exact hB
      refine va_calli (va_runV (As := [.int _]) (rest := []) ⟨hx, hb, hml, hown, hts⟩ (c_X1_placeInPeriod l hI hk4 h) (cwV 1 hts gv_X8_168 rfl rfl rfl hv_X1_placeInPeriod ⟨Nat.le_of_ble_eq_true rfl, Nat.le_of_ble_eq_true rfl⟩) (preV_X hKX hP hS (kX_lt hk4) (eX1 hk4) rfl) rfl rfl hl.1 rfl (lv_room (Nat.le_of_ble_eq_true rfl)) dX8_shift_32 ⟨Nat.le_of_ble_eq_true rfl, Nat.le_of_ble_eq_true rfl⟩) hS (fun _ _ h => h) (fun _ h => h) (fun r11 S10 t H locs ht _ h hB _ _ hS => ?_)
      have hP : VX dC dI cA P S10 H := by rw [← ht]; exact hB
      exact g_iret hx hb hr hlocks h hP hS dX8_shift_35
    · replace h := h.1 c7
      refine lv_iconst (v := (-1)) hx hb dX8_shift_24 (by decide) ?_
      exact g_iret hx hb hr hlocks h hP hS dX8_shift_25
set_option maxRecDepth 100000 in
set_option maxHeartbeats 4000000 in
theorem b_X8_multiple_44 {p : Program} {l : Launch} {e : Env} {s : State} {m : MethodId} {args : Array Value} {below : List Frame} {meth : Method} {c : Code} {dC : Nat → ClassId} {dI : Nat → Nat → Nat} {cA : Nat → ClassId} {adK adV P : Nat → Nat} (C : CtxX dC dI cA adK adV P p s m args meth c cX8_multiple 6 (some .int) RX8) {post : Int32 → St → Prop}  : ∀ (n : Nat) (k3 : Nat) (v4 : Int32) (v5 : Int32) (S : St) (H : Heap) (locs : List Loc) (ls : Array Slot), w_X8_multiple_44 post n k3 v4 v5 S → kdX k3 = 1 → VX dC dI cA P S H → va_S (PA 56 P) s.heap H locs → lv_has ls 6 [(3, .ref (P k3)), (4, .int v4), (5, .int v5)] → W p l e ({ frames := 2, cells := 0, slots := 0, locals := 45 } : Room) s m args below meth c H locs 0 0 (MQ below (va_Qi post (fun u t => VX dC dI cA P u t.heap) (PA 56 P)) args s 0 0 (PA 56 P)) (F0 m 44 ls []) := by
  have C := C
  obtain ⟨hI, hKX, ⟨hx, hb, hml, hown, hts⟩, hr, hlocks⟩ := id C
  have hK := hKX.1
  intro n
  induction n with
  | zero =>
    intro k3 v4 v5 S H locs ls h hk3 hP hS hl
    simp only [w_X8_multiple_44] at h
  | succ n ih =>
    intro k3 v4 v5 S H locs ls h hk3 hP hS hl
    rw [w_X8_multiple_44] at h
    refine lv_iload hx hb dX8_multiple_44 (lv_at hl 2 rfl) ?_
    refine lv_sipush (v := 999) hx hb dX8_multiple_46 (by decide) ?_
    refine lv_icmp_gt (tgt := 72) hx hb dX8_multiple_49 (by decide) (fun c12 => ?_) (fun c12 => ?_)
    · replace h := h.1 c12
      refine lv_bipush (v := (-2)) hx hb dX8_multiple_72 (by decide) ?_
      exact g_iret hx hb hr hlocks h hP hS dX8_multiple_74
    · replace h := h.2 c12
      refine lv_aload_n hx hb dX8_multiple_52 rfl (lv_at hl 0 rfl) ?_
      refine lv_iload hx hb dX8_multiple_53 (lv_at hl 2 rfl) ?_
      refine va_calli (va_runV (As := [.int _]) (rest := []) ⟨hx, hb, hml, hown, hts⟩ (c_X1_turningRestTimes l hI hk3 h) (cwV 1 hts gv_X8_165 rfl rfl rfl hv_X1_turningRestTimes ⟨Nat.le_of_ble_eq_true rfl, Nat.le_of_ble_eq_true rfl⟩) (preV_X hKX hP hS (kX_lt hk3) (eX1 hk3) rfl) rfl rfl hl.1 rfl (lv_room (Nat.le_of_ble_eq_true rfl)) dX8_multiple_55 ⟨Nat.le_of_ble_eq_true rfl, Nat.le_of_ble_eq_true rfl⟩) hS (fun _ _ h => h) (fun _ h => h) (fun r14 S13 t H locs ht _ h hB _ _ hS => ?_)
      have hP : VX dC dI cA P S13 H := by rw [← ht]; exact hB
      refine lv_iload hx hb dX8_multiple_58 (lv_at hl 1 rfl) ?_
      refine lv_icmp_ne (tgt := 66) hx hb dX8_multiple_60 (by decide) (fun c15 => ?_) (fun c15 => ?_)
      · replace h := h.2 c15
        obtain ⟨x16, ex16⟩ : ∃ y : Int32, y = v5 + 1 := ⟨_, rfl⟩
        replace h := h x16 ex16
        refine lv_iinc (v := x16) (lv' := [(5, .int x16), (3, .ref (P k3)), (4, .int v4)]) hx hb dX8_multiple_66 hl (k := 2) rfl (by rw [ex16]; rfl) (by decide) rfl (fun ls hl => ?_)
        refine lv_goto (tgt := 44) hx hb dX8_multiple_69 (by decide) ?_
        exact ih _ _ _ _ _ _ _ h hk3 hP hS (lv_sub hl [1, 2, 0] rfl)
      · replace h := h.1 c15
        refine lv_iload hx hb dX8_multiple_63 (lv_at hl 2 rfl) ?_
        exact g_iret hx hb hr hlocks h hP hS dX8_multiple_65
set_option maxRecDepth 100000 in
set_option maxHeartbeats 4000000 in
theorem c_X8_multiple (l : Launch) {dC : Nat → ClassId} {dI : Nat → Nat → Nat} {cA : Nat → ClassId} {adK adV P : Nat → Nat} (hI : PInj 56 P) {v1 : Int32} {v2 : Int32}  {post : Int32 → St → Prop} {S : St} (h : w_X8_multiple v1 v2 post S) : Met l yX8_multiple (wW yX8_multiple cX8_multiple 6 (some .int)) ({ frames := 2, cells := 0, slots := 0, locals := 45 } : Room) (va_Pc [.ref (P 0), .int v1, .int v2] (PreX dC dI cA adK adV P S)) (va_Qi post (fun u t => VX dC dI cA P u t.heap) (PA 56 P)) 0 0 (PA 56 P) := by
  refine Met.ofW (cc := cX8_multiple) (maxL := 6) (ret := (some .int)) (by decide) rfl ?_
  intro p e s m args below meth c s₁ B hml hv
  obtain ⟨rfl, hP, hKX⟩ := hv
  have hts : ∀ w ∈ G, w.before [.ref (P 0), .int v1, .int v2].toArray s = true := fun w hw => atoms_spec (ws := wW yX8_multiple cX8_multiple 6 (some .int)) B.pre w (List.mem_cons_of_mem _ hw)
  have C : CtxX dC dI cA adK adV P p s m [.ref (P 0), .int v1, .int v2].toArray meth c cX8_multiple 6 (some .int) RX8 := ⟨hI, hKX, ⟨B.exec, B.bytes, hml, findClass_of_methodNamed B.named, hts⟩, B.returns, B.notSynchronized⟩
  obtain ⟨hI, hKX, ⟨hx, hb, hml, hown, hts⟩, hr, hlocks⟩ := id C
  have hK := hKX.1
  have hS : va_S (PA 56 P) s.heap s.heap [] := va_S.rf
  have hl := lv_entry ([.ref (P 0), .int v1, .int v2]) (n := 6) (Nat.le_of_ble_eq_true rfl)
  rw [lg_entry_eq]
  generalize (lg_sl ([.ref (P 0), .int v1, .int v2]) ++ List.replicate (6 - (lg_sl ([.ref (P 0), .int v1, .int v2])).length) Slot.unset).toArray = ls at hl ⊢
  have hl : lv_has ls 6 [(0, .ref (P 0)), (1, .int v1), (2, .int v2)] := hl
  rw [w_X8_multiple] at h
  refine lv_aload_n hx hb dX8_multiple_0 rfl (lv_at hl 0 rfl) ?_
  refine g_get (v := .ref (P 1)) hx hb hts inG_X8 hown hK hP (kX_lt (rfl : kdX 0 = 8)) (eX8 (rfl : kdX 0 = 8)) rfl 0 (by decide) G_fl_X8_12 rfl rfl dX8_multiple_1 ?_
  refine lv_iload_n hx hb dX8_multiple_4 rfl (lv_at hl 1 rfl) ?_
  refine va_callq (va_runV (As := [.int _]) (rest := []) ⟨hx, hb, hml, hown, hts⟩ (c_X6_at l hI (rfl : kdX 1 = 6) h) (cwV 1 hts gv_X8_97 rfl rfl rfl hv_X6_at ⟨Nat.le_of_ble_eq_true rfl, Nat.le_of_ble_eq_true rfl⟩) (preV_X hKX hP hS (kX_lt (rfl : kdX 1 = 6)) (eX6 (rfl : kdX 1 = 6)) rfl) rfl rfl hl.1 rfl (lv_room (Nat.le_of_ble_eq_true rfl)) dX8_multiple_5 ⟨Nat.le_of_ble_eq_true rfl, Nat.le_of_ble_eq_true rfl⟩) hS (fun _ _ h => h) (fun _ h => h) (fun q S1 t H locs ht _ h hB _ _ hS => ?_)
  have hP : VX dC dI cA P S1 H := by rw [← ht]; exact hB
  obtain ⟨o2, rfl, hko, h⟩ := h
  rcases o2 with _ | k3
  · replace h := h.1 rfl
    refine lv_astore_nN (lv' := [(3, .null), (0, .ref (P 0)), (1, .int v1), (2, .int v2)]) hx hb dX8_multiple_8 rfl hl (by decide) rfl (fun ls hl => ?_)
    refine lv_aload_nN hx hb dX8_multiple_9 rfl (lv_at hl 0 rfl) ?_
    refine lv_ifnullN (tgt := 27) hx hb dX8_multiple_10 (by decide) ?_
    refine lv_iconst (v := (-1)) hx hb dX8_multiple_27 (by decide) ?_
    exact g_iret hx hb hr hlocks h hP hS dX8_multiple_28
  · have hk4 := hko k3 rfl
    replace h := h.2 k3 rfl
    refine lv_astore_n (lv' := [(3, .ref (P k3)), (0, .ref (P 0)), (1, .int v1), (2, .int v2)]) hx hb dX8_multiple_8 rfl hl (by decide) rfl (fun ls hl => ?_)
    refine lv_aload_n hx hb dX8_multiple_9 rfl (lv_at hl 0 rfl) ?_
    refine lv_ifnull hx hb dX8_multiple_10 ?_
    refine lv_iload_n hx hb dX8_multiple_13 rfl (lv_at hl 3 rfl) ?_
    refine lv_iconst (v := 0) hx hb dX8_multiple_14 (by decide) ?_
    refine lv_aload_n hx hb dX8_multiple_15 rfl (lv_at hl 0 rfl) ?_
    refine g_get (v := .int (S1.1 k3 4)) hx hb hts inG_X1 hown hK hP (kX_lt hk4) (eX1 hk4) rfl 4 (by decide) G_fl_X8_133 rfl rfl dX8_multiple_16 ?_
    refine lv_iconst (v := 1) hx hb dX8_multiple_19 (by decide) ?_
    refine lv_isub hx hb dX8_multiple_20 ?_
    replace h := h _ rfl
    refine va_calli (va_runS (As := [.int _, .int _, .int _]) (rest := []) ⟨hx, hb, hml, hown, hts⟩ (c_X8_isWithin l hI h) (va_cwS 3 hts gs_X8_81 rfl rfl rfl hd_X8_isWithin ⟨Nat.le_of_ble_eq_true rfl, Nat.le_of_ble_eq_true rfl⟩) (preS_X hKX hP hS) rfl rfl hl.1 rfl (lv_room (Nat.le_of_ble_eq_true rfl)) dX8_multiple_21 ⟨Nat.le_of_ble_eq_true rfl, Nat.le_of_ble_eq_true rfl⟩) hS (fun _ _ h => h) (fun _ h => h) (fun r7 S6 t H locs ht _ h hB _ _ hS => ?_)
    have hP : VX dC dI cA P S6 H := by rw [← ht]; exact hB
    refine lv_if_ne (tgt := 29) hx hb dX8_multiple_24 (by decide) (fun c8 => ?_) (fun c8 => ?_)
    · replace h := h.2 c8
      refine lv_aload_n hx hb dX8_multiple_29 rfl (lv_at hl 0 rfl) ?_
      refine lv_aload_n hx hb dX8_multiple_30 rfl (lv_at hl 0 rfl) ?_
      refine g_get (v := .int (S6.1 k3 3)) hx hb hts inG_X1 hown hK hP (kX_lt hk4) (eX1 hk4) rfl 3 (by decide) G_fl_X8_130 rfl rfl dX8_multiple_31 ?_
      refine lv_iload_n hx hb dX8_multiple_34 rfl (lv_at hl 3 rfl) ?_
      refine lv_iadd hx hb dX8_multiple_35 ?_
      replace h := h _ rfl
      refine va_calli (va_runV (As := [.int _]) (rest := []) ⟨hx, hb, hml, hown, hts⟩ (c_X1_restAt l hI hk4 h) (cwV 1 hts gv_X8_139 rfl rfl rfl hv_X1_restAt ⟨Nat.le_of_ble_eq_true rfl, Nat.le_of_ble_eq_true rfl⟩) (preV_X hKX hP hS (kX_lt hk4) (eX1 hk4) rfl) rfl rfl hl.1 rfl (lv_room (Nat.le_of_ble_eq_true rfl)) dX8_multiple_36 ⟨Nat.le_of_ble_eq_true rfl, Nat.le_of_ble_eq_true rfl⟩) hS (fun _ _ h => h) (fun _ h => h) (fun r11 S10 t H locs ht _ h hB _ _ hS => ?_)
      have hP : VX dC dI cA P S10 H := by rw [← ht]; exact hB
      refine lv_istore (lv' := [(4, .int r11), (3, .ref (P k3)), (0, .ref (P 0)), (1, .int v1), (2, .int v2)]) hx hb dX8_multiple_39 hl (by decide) rfl (fun ls hl => ?_)
      refine lv_iconst (v := 2) hx hb dX8_multiple_41 (by decide) ?_
      refine lv_istore (lv' := [(5, .int 2), (4, .int r11), (3, .ref (P k3)), (0, .ref (P 0)), (1, .int v1), (2, .int v2)]) hx hb dX8_multiple_42 hl (by decide) rfl (fun ls hl => ?_)
      obtain ⟨n17, h⟩ := h
      exact b_X8_multiple_44 C n17 _ _ _ _ _ _ _ h hk4 hP hS (lv_sub hl [2, 1, 0] rfl)
    · replace h := h.1 c8
      refine lv_iconst (v := (-1)) hx hb dX8_multiple_27 (by decide) ?_
      exact g_iret hx hb hr hlocks h hP hS dX8_multiple_28
set_option maxRecDepth 100000 in
set_option maxHeartbeats 4000000 in
theorem b_X8_order_51 {p : Program} {l : Launch} {e : Env} {s : State} {m : MethodId} {args : Array Value} {below : List Frame} {meth : Method} {c : Code} {dC : Nat → ClassId} {dI : Nat → Nat → Nat} {cA : Nat → ClassId} {adK adV P : Nat → Nat} (C : CtxX dC dI cA adK adV P p s m args meth c cX8_order 6 (some .int) RX8) {post : Int32 → St → Prop}  : ∀ (n : Nat) (v1 : Int32) (v2 : Int32) (v3 : Int32) (v4 : Int32) (v5 : Int32) (S : St) (H : Heap) (locs : List Loc) (ls : Array Slot), w_X8_order_51 post n v1 v2 v3 v4 v5 S → VX dC dI cA P S H → va_S (PA 56 P) s.heap H locs → lv_has ls 6 [(1, .int v1), (2, .int v2), (3, .int v3), (4, .int v4), (5, .int v5)] → W p l e ({ frames := 2, cells := 0, slots := 0, locals := 42 } : Room) s m args below meth c H locs 0 0 (MQ below (va_Qi post (fun u t => VX dC dI cA P u t.heap) (PA 56 P)) args s 0 0 (PA 56 P)) (F0 m 51 ls []) := by
  have C := C
  obtain ⟨hI, hKX, ⟨hx, hb, hml, hown, hts⟩, hr, hlocks⟩ := id C
  have hK := hKX.1
  intro n
  induction n with
  | zero =>
    intro v1 v2 v3 v4 v5 S H locs ls h hP hS hl
    simp only [w_X8_order_51] at h
  | succ n ih =>
    intro v1 v2 v3 v4 v5 S H locs ls h hP hS hl
    rw [w_X8_order_51] at h
    refine lv_iload hx hb dX8_order_51 (lv_at hl 3 rfl) ?_
    refine lv_iload_n hx hb dX8_order_53 rfl (lv_at hl 2 rfl) ?_
    refine lv_icmp_eq (tgt := 79) hx hb dX8_order_54 (by decide) (fun c16 => ?_) (fun c16 => ?_)
    · replace h := h.1 c16
      refine lv_iload hx hb dX8_order_79 (lv_at hl 4 rfl) ?_
      exact g_iret hx hb hr hlocks h hP hS dX8_order_81
    · replace h := h.2 c16
      refine lv_iload hx hb dX8_order_57 (lv_at hl 4 rfl) ?_
      refine lv_iload_n hx hb dX8_order_59 rfl (lv_at hl 1 rfl) ?_
      refine lv_icmp_ge (tgt := 79) hx hb dX8_order_60 (by decide) (fun c17 => ?_) (fun c17 => ?_)
      · replace h := h.1 c17
        refine lv_iload hx hb dX8_order_79 (lv_at hl 4 rfl) ?_
        exact g_iret hx hb hr hlocks h hP hS dX8_order_81
      · replace h := h.2 c17
        refine lv_iload hx hb dX8_order_63 (lv_at hl 3 rfl) ?_
        refine lv_iload_n hx hb dX8_order_65 rfl (lv_at hl 0 rfl) ?_
        refine lv_imul hx hb dX8_order_66 ?_
        refine lv_iload_n hx hb dX8_order_67 rfl (lv_at hl 1 rfl) ?_
        replace h := h _ rfl
        refine va_calli (va_runS (As := [.int _, .int _]) (rest := []) ⟨hx, hb, hml, hown, hts⟩ (c_X8_remainder l hI h) (va_cwS 2 hts gs_X8_171 rfl rfl rfl hd_X8_remainder ⟨Nat.le_of_ble_eq_true rfl, Nat.le_of_ble_eq_true rfl⟩) (preS_X hKX hP hS) rfl rfl hl.1 rfl (lv_room (Nat.le_of_ble_eq_true rfl)) dX8_order_68 ⟨Nat.le_of_ble_eq_true rfl, Nat.le_of_ble_eq_true rfl⟩) hS (fun _ _ h => h) (fun _ h => h) (fun r20 S19 t H locs ht _ h hB _ _ hS => ?_)
        have hP : VX dC dI cA P S19 H := by rw [← ht]; exact hB
        refine lv_istore (lv' := [(4, .int r20), (1, .int v1), (2, .int v2), (3, .int v3), (5, .int v5)]) hx hb dX8_order_71 hl (by decide) rfl (fun ls hl => ?_)
        obtain ⟨x21, ex21⟩ : ∃ y : Int32, y = v5 + 1 := ⟨_, rfl⟩
        replace h := h x21 ex21
        refine lv_iinc (v := x21) (lv' := [(5, .int x21), (4, .int r20), (1, .int v1), (2, .int v2), (3, .int v3)]) hx hb dX8_order_73 hl (k := 4) rfl (by rw [ex21]; rfl) (by decide) rfl (fun ls hl => ?_)
        refine lv_goto (tgt := 51) hx hb dX8_order_76 (by decide) ?_
        exact ih _ _ _ _ _ _ _ _ _ h  hP hS (lv_sub hl [2, 3, 4, 1, 0] rfl)
set_option maxRecDepth 100000 in
set_option maxHeartbeats 4000000 in
theorem c_X8_order (l : Launch) {dC : Nat → ClassId} {dI : Nat → Nat → Nat} {cA : Nat → ClassId} {adK adV P : Nat → Nat} (hI : PInj 56 P) {v1 : Int32} {v2 : Int32}  {post : Int32 → St → Prop} {S : St} (h : w_X8_order v1 v2 post S) : Met l yX8_order (wW yX8_order cX8_order 6 (some .int)) ({ frames := 2, cells := 0, slots := 0, locals := 42 } : Room) (va_Pc [.ref (P 0), .int v1, .int v2] (PreX dC dI cA adK adV P S)) (va_Qi post (fun u t => VX dC dI cA P u t.heap) (PA 56 P)) 0 0 (PA 56 P) := by
  refine Met.ofW (cc := cX8_order) (maxL := 6) (ret := (some .int)) (by decide) rfl ?_
  intro p e s m args below meth c s₁ B hml hv
  obtain ⟨rfl, hP, hKX⟩ := hv
  have hts : ∀ w ∈ G, w.before [.ref (P 0), .int v1, .int v2].toArray s = true := fun w hw => atoms_spec (ws := wW yX8_order cX8_order 6 (some .int)) B.pre w (List.mem_cons_of_mem _ hw)
  have C : CtxX dC dI cA adK adV P p s m [.ref (P 0), .int v1, .int v2].toArray meth c cX8_order 6 (some .int) RX8 := ⟨hI, hKX, ⟨B.exec, B.bytes, hml, findClass_of_methodNamed B.named, hts⟩, B.returns, B.notSynchronized⟩
  obtain ⟨hI, hKX, ⟨hx, hb, hml, hown, hts⟩, hr, hlocks⟩ := id C
  have hK := hKX.1
  have hS : va_S (PA 56 P) s.heap s.heap [] := va_S.rf
  have hl := lv_entry ([.ref (P 0), .int v1, .int v2]) (n := 6) (Nat.le_of_ble_eq_true rfl)
  rw [lg_entry_eq]
  generalize (lg_sl ([.ref (P 0), .int v1, .int v2]) ++ List.replicate (6 - (lg_sl ([.ref (P 0), .int v1, .int v2])).length) Slot.unset).toArray = ls at hl ⊢
  have hl : lv_has ls 6 [(0, .ref (P 0)), (1, .int v1), (2, .int v2)] := hl
  rw [w_X8_order] at h
  refine lv_iload_n hx hb dX8_order_0 rfl (lv_at hl 1 rfl) ?_
  refine va_calli (va_runS (As := [.int _]) (rest := []) ⟨hx, hb, hml, hown, hts⟩ (c_X8_isBase l hI h) (va_cwS 1 hts gs_X8_85 rfl rfl rfl hd_X8_isBase ⟨Nat.le_of_ble_eq_true rfl, Nat.le_of_ble_eq_true rfl⟩) (preS_X hKX hP hS) rfl rfl hl.1 rfl (lv_room (Nat.le_of_ble_eq_true rfl)) dX8_order_1 ⟨Nat.le_of_ble_eq_true rfl, Nat.le_of_ble_eq_true rfl⟩) hS (fun _ _ h => h) (fun _ h => h) (fun r2 S1 t H locs ht _ h hB _ _ hS => ?_)
  have hP : VX dC dI cA P S1 H := by rw [← ht]; exact hB
  refine lv_if_eq (tgt := 18) hx hb dX8_order_4 (by decide) (fun c3 => ?_) (fun c3 => ?_)
  · replace h := h.1 c3
    refine lv_iconst (v := (-1)) hx hb dX8_order_18 (by decide) ?_
    exact g_iret hx hb hr hlocks h hP hS dX8_order_19
  · replace h := h.2 c3
    refine lv_iload_n hx hb dX8_order_7 rfl (lv_at hl 2 rfl) ?_
    refine lv_iconst (v := 1) hx hb dX8_order_8 (by decide) ?_
    refine lv_sipush (v := 9999) hx hb dX8_order_9 (by decide) ?_
    refine va_calli (va_runS (As := [.int _, .int _, .int _]) (rest := []) ⟨hx, hb, hml, hown, hts⟩ (c_X8_isWithin l hI h) (va_cwS 3 hts gs_X8_81 rfl rfl rfl hd_X8_isWithin ⟨Nat.le_of_ble_eq_true rfl, Nat.le_of_ble_eq_true rfl⟩) (preS_X hKX hP hS) rfl rfl hl.1 rfl (lv_room (Nat.le_of_ble_eq_true rfl)) dX8_order_12 ⟨Nat.le_of_ble_eq_true rfl, Nat.le_of_ble_eq_true rfl⟩) hS (fun _ _ h => h) (fun _ h => h) (fun r5 S4 t H locs ht _ h hB _ _ hS => ?_)
    have hP : VX dC dI cA P S4 H := by rw [← ht]; exact hB
    refine lv_if_ne (tgt := 20) hx hb dX8_order_15 (by decide) (fun c6 => ?_) (fun c6 => ?_)
    · replace h := h.2 c6
      refine lv_iload_n hx hb dX8_order_20 rfl (lv_at hl 1 rfl) ?_
      refine lv_i2l hx hb dX8_order_21 rfl ?_
      refine lv_iload_n hx hb dX8_order_22 rfl (lv_at hl 2 rfl) ?_
      refine lv_i2l hx hb dX8_order_23 rfl ?_
      replace h := h _ rfl
      replace h := h _ rfl
      refine va_calll (va_runS (As := [.long _, .long _]) (rest := []) ⟨hx, hb, hml, hown, hts⟩ (c_X8_commonDivisor l hI h) (va_cwS 2 hts gs_X8_119 rfl rfl rfl hd_X8_commonDivisor ⟨Nat.le_of_ble_eq_true rfl, Nat.le_of_ble_eq_true rfl⟩) (preS_X hKX hP hS) rfl rfl hl.1 rfl (lv_room (Nat.le_of_ble_eq_true rfl)) dX8_order_24 ⟨Nat.le_of_ble_eq_true rfl, Nat.le_of_ble_eq_true rfl⟩) hS (fun _ _ h => h) (fun _ h => h) (fun r10 S9 t H locs ht _ h hB _ _ hS => ?_)
      have hP : VX dC dI cA P S9 H := by rw [← ht]; exact hB
      refine lv_lconst (v := 1) hx hb dX8_order_27 (by decide) ?_
      refine W.lcmp hx hb dX8_order_28 ?_
      refine lv_if_le (tgt := 35) hx hb dX8_order_29 (by decide) (fun c11 => ?_) (fun c11 => ?_)
      · replace h := h.1 ((lg_cmp_le _ _).mp c11)
        refine lv_iconst (v := 1) hx hb dX8_order_35 (by decide) ?_
        refine lv_iload_n hx hb dX8_order_36 rfl (lv_at hl 2 rfl) ?_
        refine va_calli (va_runS (As := [.int _, .int _]) (rest := []) ⟨hx, hb, hml, hown, hts⟩ (c_X8_remainder l hI h) (va_cwS 2 hts gs_X8_171 rfl rfl rfl hd_X8_remainder ⟨Nat.le_of_ble_eq_true rfl, Nat.le_of_ble_eq_true rfl⟩) (preS_X hKX hP hS) rfl rfl hl.1 rfl (lv_room (Nat.le_of_ble_eq_true rfl)) dX8_order_37 ⟨Nat.le_of_ble_eq_true rfl, Nat.le_of_ble_eq_true rfl⟩) hS (fun _ _ h => h) (fun _ h => h) (fun r13 S12 t H locs ht _ h hB _ _ hS => ?_)
        have hP : VX dC dI cA P S12 H := by rw [← ht]; exact hB
        refine lv_istore_n (lv' := [(3, .int r13), (0, .ref (P 0)), (1, .int v1), (2, .int v2)]) hx hb dX8_order_40 rfl hl (by decide) rfl (fun ls hl => ?_)
        refine lv_iload_n hx hb dX8_order_41 rfl (lv_at hl 2 rfl) ?_
        refine lv_iload_n hx hb dX8_order_42 rfl (lv_at hl 3 rfl) ?_
        refine va_calli (va_runS (As := [.int _, .int _]) (rest := []) ⟨hx, hb, hml, hown, hts⟩ (c_X8_remainder l hI h) (va_cwS 2 hts gs_X8_171 rfl rfl rfl hd_X8_remainder ⟨Nat.le_of_ble_eq_true rfl, Nat.le_of_ble_eq_true rfl⟩) (preS_X hKX hP hS) rfl rfl hl.1 rfl (lv_room (Nat.le_of_ble_eq_true rfl)) dX8_order_43 ⟨Nat.le_of_ble_eq_true rfl, Nat.le_of_ble_eq_true rfl⟩) hS (fun _ _ h => h) (fun _ h => h) (fun r15 S14 t H locs ht _ h hB _ _ hS => ?_)
        have hP : VX dC dI cA P S14 H := by rw [← ht]; exact hB
        refine lv_istore (lv' := [(4, .int r15), (3, .int r13), (0, .ref (P 0)), (1, .int v1), (2, .int v2)]) hx hb dX8_order_46 hl (by decide) rfl (fun ls hl => ?_)
        refine lv_iconst (v := 1) hx hb dX8_order_48 (by decide) ?_
        refine lv_istore (lv' := [(5, .int 1), (4, .int r15), (3, .int r13), (0, .ref (P 0)), (1, .int v1), (2, .int v2)]) hx hb dX8_order_49 hl (by decide) rfl (fun ls hl => ?_)
        obtain ⟨n22, h⟩ := h
        exact b_X8_order_51 C n22 _ _ _ _ _ _ _ _ _ h  hP hS (lv_sub hl [4, 5, 2, 1, 0] rfl)
      · replace h := h.2 (fun z => c11 ((lg_cmp_le _ _).mpr z))
        refine lv_bipush (v := (-2)) hx hb dX8_order_32 (by decide) ?_
        exact g_iret hx hb hr hlocks h hP hS dX8_order_34
    · replace h := h.1 c6
      refine lv_iconst (v := (-1)) hx hb dX8_order_18 (by decide) ?_
      exact g_iret hx hb hr hlocks h hP hS dX8_order_19
set_option maxRecDepth 100000 in
set_option maxHeartbeats 4000000 in
theorem b_X8_markRing_6 {p : Program} {l : Launch} {e : Env} {s : State} {m : MethodId} {args : Array Value} {below : List Frame} {meth : Method} {c : Code} {dC : Nat → ClassId} {dI : Nat → Nat → Nat} {cA : Nat → ClassId} {adK adV P : Nat → Nat} (C : CtxX dC dI cA adK adV P p s m args meth c cX8_markRing 6 (some .int) RX8) {post : Int32 → St → Prop}  : ∀ (n : Nat) (v2 : Int32) (v3 : Int32) (v4 : Int32) (v5 : Int32) (S : St) (H : Heap) (locs : List Loc) (ls : Array Slot), w_X8_markRing_6 post n v2 v3 v4 v5 S → VX dC dI cA P S H → va_S (PA 56 P) s.heap H locs → lv_has ls 6 [(0, .ref (P 0)), (2, .int v2), (3, .int v3), (4, .int v4), (5, .int v5)] → W p l e ({ frames := 1, cells := 0, slots := 0, locals := 22 } : Room) s m args below meth c H locs 0 0 (MQ below (va_Qi post (fun u t => VX dC dI cA P u t.heap) (PA 56 P)) args s 0 0 (PA 56 P)) (F0 m 6 ls []) := by
  have C := C
  obtain ⟨hI, hKX, ⟨hx, hb, hml, hown, hts⟩, hr, hlocks⟩ := id C
  have hK := hKX.1
  intro n
  induction n with
  | zero =>
    intro v2 v3 v4 v5 S H locs ls h hP hS hl
    simp only [w_X8_markRing_6] at h
  | succ n ih =>
    intro v2 v3 v4 v5 S H locs ls h hP hS hl
    rw [w_X8_markRing_6] at h
    refine lv_iload hx hb dX8_markRing_6 (lv_at hl 4 rfl) ?_
    refine lv_iload_n hx hb dX8_markRing_8 rfl (lv_at hl 2 rfl) ?_
    refine lv_icmp_ge (tgt := 50) hx hb dX8_markRing_9 (by decide) (fun c1 => ?_) (fun c1 => ?_)
    · replace h := h.1 c1
      refine lv_iload hx hb dX8_markRing_50 (lv_at hl 4 rfl) ?_
      exact g_iret hx hb hr hlocks h hP hS dX8_markRing_52
    · replace h := h.2 c1
      refine lv_aload_n hx hb dX8_markRing_12 rfl (lv_at hl 0 rfl) ?_
      refine g_get (v := .ref (P 55)) hx hb hts inG_X8 hown hK hP (kX_lt (rfl : kdX 0 = 8)) (eX8 (rfl : kdX 0 = 8)) rfl 11 (by decide) G_fl_X8_76 rfl rfl dX8_markRing_13 ?_
      refine lv_iload hx hb dX8_markRing_16 (lv_at hl 3 rfl) ?_
      refine va_calli (va_runS (As := [.ref _, .int _]) (rest := []) ⟨hx, hb, hml, hown, hts⟩ (c_X8_valueAt l hI (rfl : kdX 55 = 10) h) (va_cwS 2 hts gs_X8_216 rfl rfl rfl hd_X8_valueAt ⟨Nat.le_of_ble_eq_true rfl, Nat.le_of_ble_eq_true rfl⟩) (preS_X hKX hP hS) rfl rfl hl.1 rfl (lv_room (Nat.le_of_ble_eq_true rfl)) dX8_markRing_18 ⟨Nat.le_of_ble_eq_true rfl, Nat.le_of_ble_eq_true rfl⟩) hS (fun _ _ h => h) (fun _ h => h) (fun r3 S2 t H locs ht _ h hB _ _ hS => ?_)
      have hP : VX dC dI cA P S2 H := by rw [← ht]; exact hB
      refine lv_if_ne (tgt := 50) hx hb dX8_markRing_21 (by decide) (fun c4 => ?_) (fun c4 => ?_)
      · replace h := h.2 c4
        refine lv_iload hx hb dX8_markRing_50 (lv_at hl 4 rfl) ?_
        exact g_iret hx hb hr hlocks h hP hS dX8_markRing_52
      · replace h := h.1 c4
        refine lv_aload_n hx hb dX8_markRing_24 rfl (lv_at hl 0 rfl) ?_
        refine g_get (v := .ref (P 55)) hx hb hts inG_X8 hown hK hP (kX_lt (rfl : kdX 0 = 8)) (eX8 (rfl : kdX 0 = 8)) rfl 11 (by decide) G_fl_X8_76 rfl rfl dX8_markRing_25 ?_
        refine lv_iload hx hb dX8_markRing_28 (lv_at hl 3 rfl) ?_
        refine lv_iconst (v := 1) hx hb dX8_markRing_30 (by decide) ?_
        refine va_callv (va_runS (As := [.ref _, .int _, .int _]) (rest := []) ⟨hx, hb, hml, hown, hts⟩ (c_X8_setAt l hI (rfl : kdX 55 = 10) h) (va_cwS 3 hts gs_X8_175 rfl rfl rfl hd_X8_setAt ⟨Nat.le_of_ble_eq_true rfl, Nat.le_of_ble_eq_true rfl⟩) (preS_X hKX hP hS) rfl rfl hl.1 rfl (lv_room (Nat.le_of_ble_eq_true rfl)) dX8_markRing_31 ⟨Nat.le_of_ble_eq_true rfl, Nat.le_of_ble_eq_true rfl⟩) hS (fun _ _ h => h) (fun _ h => h) (fun S5 t H locs ht _ h hB _ _ hS => ?_)
        have hP : VX dC dI cA P S5 H := by rw [← ht]; exact hB
        refine lv_iload hx hb dX8_markRing_34 (lv_at hl 3 rfl) ?_
        refine lv_iload_n hx hb dX8_markRing_36 rfl (lv_at hl 1 rfl) ?_
        refine lv_imul hx hb dX8_markRing_37 ?_
        refine lv_iload_n hx hb dX8_markRing_38 rfl (lv_at hl 2 rfl) ?_
        replace h := h _ rfl
        refine va_calli (va_runS (As := [.int _, .int _]) (rest := []) ⟨hx, hb, hml, hown, hts⟩ (c_X8_remainder l hI h) (va_cwS 2 hts gs_X8_171 rfl rfl rfl hd_X8_remainder ⟨Nat.le_of_ble_eq_true rfl, Nat.le_of_ble_eq_true rfl⟩) (preS_X hKX hP hS) rfl rfl hl.1 rfl (lv_room (Nat.le_of_ble_eq_true rfl)) dX8_markRing_39 ⟨Nat.le_of_ble_eq_true rfl, Nat.le_of_ble_eq_true rfl⟩) hS (fun _ _ h => h) (fun _ h => h) (fun r8 S7 t H locs ht _ h hB _ _ hS => ?_)
        have hP : VX dC dI cA P S7 H := by rw [← ht]; exact hB
        refine lv_istore (lv' := [(4, .int r8), (0, .ref (P 0)), (2, .int v2), (3, .int v3), (5, .int v5)]) hx hb dX8_markRing_42 hl (by decide) rfl (fun ls hl => ?_)
        obtain ⟨x9, ex9⟩ : ∃ y : Int32, y = v5 + 1 := ⟨_, rfl⟩
        replace h := h x9 ex9
        refine lv_iinc (v := x9) (lv' := [(5, .int x9), (4, .int r8), (0, .ref (P 0)), (2, .int v2), (3, .int v3)]) hx hb dX8_markRing_44 hl (k := 4) rfl (by rw [ex9]; rfl) (by decide) rfl (fun ls hl => ?_)
        refine lv_goto (tgt := 6) hx hb dX8_markRing_47 (by decide) ?_
        exact ih _ _ _ _ _ _ _ _ h  hP hS (lv_sub hl [2, 3, 4, 1, 0] rfl)
set_option maxRecDepth 100000 in
set_option maxHeartbeats 4000000 in
theorem c_X8_markRing (l : Launch) {dC : Nat → ClassId} {dI : Nat → Nat → Nat} {cA : Nat → ClassId} {adK adV P : Nat → Nat} (hI : PInj 56 P) {v1 : Int32} {v2 : Int32} {v3 : Int32}  {post : Int32 → St → Prop} {S : St} (h : w_X8_markRing v1 v2 v3 post S) : Met l yX8_markRing (wW yX8_markRing cX8_markRing 6 (some .int)) ({ frames := 1, cells := 0, slots := 0, locals := 22 } : Room) (va_Pc [.ref (P 0), .int v1, .int v2, .int v3] (PreX dC dI cA adK adV P S)) (va_Qi post (fun u t => VX dC dI cA P u t.heap) (PA 56 P)) 0 0 (PA 56 P) := by
  refine Met.ofW (cc := cX8_markRing) (maxL := 6) (ret := (some .int)) (by decide) rfl ?_
  intro p e s m args below meth c s₁ B hml hv
  obtain ⟨rfl, hP, hKX⟩ := hv
  have hts : ∀ w ∈ G, w.before [.ref (P 0), .int v1, .int v2, .int v3].toArray s = true := fun w hw => atoms_spec (ws := wW yX8_markRing cX8_markRing 6 (some .int)) B.pre w (List.mem_cons_of_mem _ hw)
  have C : CtxX dC dI cA adK adV P p s m [.ref (P 0), .int v1, .int v2, .int v3].toArray meth c cX8_markRing 6 (some .int) RX8 := ⟨hI, hKX, ⟨B.exec, B.bytes, hml, findClass_of_methodNamed B.named, hts⟩, B.returns, B.notSynchronized⟩
  obtain ⟨hI, hKX, ⟨hx, hb, hml, hown, hts⟩, hr, hlocks⟩ := id C
  have hK := hKX.1
  have hS : va_S (PA 56 P) s.heap s.heap [] := va_S.rf
  have hl := lv_entry ([.ref (P 0), .int v1, .int v2, .int v3]) (n := 6) (Nat.le_of_ble_eq_true rfl)
  rw [lg_entry_eq]
  generalize (lg_sl ([.ref (P 0), .int v1, .int v2, .int v3]) ++ List.replicate (6 - (lg_sl ([.ref (P 0), .int v1, .int v2, .int v3])).length) Slot.unset).toArray = ls at hl ⊢
  have hl : lv_has ls 6 [(0, .ref (P 0)), (1, .int v1), (2, .int v2), (3, .int v3)] := hl
  rw [w_X8_markRing] at h
  refine lv_iload_n hx hb dX8_markRing_0 rfl (lv_at hl 1 rfl) ?_
  refine lv_istore (lv' := [(4, .int v1), (0, .ref (P 0)), (1, .int v1), (2, .int v2), (3, .int v3)]) hx hb dX8_markRing_1 hl (by decide) rfl (fun ls hl => ?_)
  refine lv_iconst (v := 0) hx hb dX8_markRing_3 (by decide) ?_
  refine lv_istore (lv' := [(5, .int 0), (4, .int v1), (0, .ref (P 0)), (1, .int v1), (2, .int v2), (3, .int v3)]) hx hb dX8_markRing_4 hl (by decide) rfl (fun ls hl => ?_)
  obtain ⟨n10, h⟩ := h
  exact b_X8_markRing_6 C n10 _ _ _ _ _ _ _ _ h  hP hS (lv_sub hl [2, 4, 5, 1, 0] rfl)
set_option maxRecDepth 100000 in
set_option maxHeartbeats 4000000 in
theorem b_X8_cycles_106 {p : Program} {l : Launch} {e : Env} {s : State} {m : MethodId} {args : Array Value} {below : List Frame} {meth : Method} {c : Code} {dC : Nat → ClassId} {dI : Nat → Nat → Nat} {cA : Nat → ClassId} {adK adV P : Nat → Nat} (C : CtxX dC dI cA adK adV P p s m args meth c cX8_cycles 8 (some .int) RX8) {post : Int32 → St → Prop} {K78 : Int32 → Int32 → Int32 → Int32 → Int32 → Int32 → St → Prop} (hK78 : ∀ (v1 : Int32) (v2 : Int32) (v3 : Int32) (v4 : Int32) (v5 : Int32) (v6 : Int32) (S : St) (H : Heap) (locs : List Loc) (ls : Array Slot), K78 v1 v2 v3 v4 v5 v6 S → VX dC dI cA P S H → va_S (PA 56 P) s.heap H locs → lv_has ls 8 [(0, .ref (P 0)), (1, .int v1), (2, .int v2), (3, .int v3), (4, .int v4), (5, .int v5), (6, .int v6)] → W p l e ({ frames := 2, cells := 0, slots := 0, locals := 47 } : Room) s m args below meth c H locs 0 0 (MQ below (va_Qi post (fun u t => VX dC dI cA P u t.heap) (PA 56 P)) args s 0 0 (PA 56 P)) (F0 m 78 ls [])) : ∀ (v1 : Int32) (v2 : Int32) (v3 : Int32) (v5 : Int32) (v6 : Int32) (v7 : Int32) (y0 : Int32) (y1 : Int32) (S : St) (H : Heap) (locs : List Loc) (ls : Array Slot), w_X8_cycles_106 post K78 v1 v2 v3 v5 v6 v7 y0 y1 S → VX dC dI cA P S H → va_S (PA 56 P) s.heap H locs → lv_has ls 8 [(0, .ref (P 0)), (1, .int v1), (2, .int v2), (3, .int v3), (5, .int v5), (6, .int v6), (7, .int v7)] → W p l e ({ frames := 2, cells := 0, slots := 0, locals := 47 } : Room) s m args below meth c H locs 0 0 (MQ below (va_Qi post (fun u t => VX dC dI cA P u t.heap) (PA 56 P)) args s 0 0 (PA 56 P)) (F0 m 106 ls [.int y1, .int y0]) := by
  have C := C
  obtain ⟨hI, hKX, ⟨hx, hb, hml, hown, hts⟩, hr, hlocks⟩ := id C
  have hK := hKX.1
  intro v1 v2 v3 v5 v6 v7 y0 y1 S H locs ls h hP hS hl
  rw [w_X8_cycles_106] at h
  refine lv_iadd hx hb dX8_cycles_106 ?_
  refine lv_topi (fun x21 ex21 => ?_)
  replace h := h x21 ex21
  refine lv_istore (lv' := [(4, .int x21), (0, .ref (P 0)), (1, .int v1), (2, .int v2), (3, .int v3), (5, .int v5), (6, .int v6), (7, .int v7)]) hx hb dX8_cycles_107 hl (by decide) rfl (fun ls hl => ?_)
  refine lv_iload hx hb dX8_cycles_109 (lv_at hl 5 rfl) ?_
  refine lv_iload hx hb dX8_cycles_111 (lv_at hl 7 rfl) ?_
  refine va_mmax hx hb (hml.trans hl.1.symm) hown (hts _ G_ml_X8_182) (hts _ G_st_J9_max_7cf53) (hts _ G_in_J9) (hts _ G_cd_J9_max_7cf53) (Nat.le_of_ble_eq_true rfl) (Nat.le_of_ble_eq_true rfl) (Nat.le_of_ble_eq_true rfl) (Nat.le_of_ble_eq_true rfl) dX8_cycles_113 ?_
  refine lv_topi (fun x22 ex22 => ?_)
  replace h := h x22 ex22
  refine lv_istore (lv' := [(5, .int x22), (4, .int x21), (0, .ref (P 0)), (1, .int v1), (2, .int v2), (3, .int v3), (6, .int v6), (7, .int v7)]) hx hb dX8_cycles_116 hl (by decide) rfl (fun ls hl => ?_)
  obtain ⟨x23, ex23⟩ : ∃ y : Int32, y = v6 + 1 := ⟨_, rfl⟩
  replace h := h x23 ex23
  refine lv_iinc (v := x23) (lv' := [(6, .int x23), (5, .int x22), (4, .int x21), (0, .ref (P 0)), (1, .int v1), (2, .int v2), (3, .int v3), (7, .int v7)]) hx hb dX8_cycles_118 hl (k := 6) rfl (by rw [ex23]; rfl) (by decide) rfl (fun ls hl => ?_)
  refine lv_goto (tgt := 78) hx hb dX8_cycles_121 (by decide) ?_
  exact hK78 _ _ _ _ _ _ _ _ _ _ h  hP hS (lv_sub hl [3, 4, 5, 6, 2, 1, 0] rfl)
set_option maxRecDepth 100000 in
set_option maxHeartbeats 4000000 in
theorem b_X8_cycles_78 {p : Program} {l : Launch} {e : Env} {s : State} {m : MethodId} {args : Array Value} {below : List Frame} {meth : Method} {c : Code} {dC : Nat → ClassId} {dI : Nat → Nat → Nat} {cA : Nat → ClassId} {adK adV P : Nat → Nat} (C : CtxX dC dI cA adK adV P p s m args meth c cX8_cycles 8 (some .int) RX8) {post : Int32 → St → Prop}  : ∀ (n : Nat) (v1 : Int32) (v2 : Int32) (v3 : Int32) (v4 : Int32) (v5 : Int32) (v6 : Int32) (S : St) (H : Heap) (locs : List Loc) (ls : Array Slot), w_X8_cycles_78 post n v1 v2 v3 v4 v5 v6 S → VX dC dI cA P S H → va_S (PA 56 P) s.heap H locs → lv_has ls 8 [(0, .ref (P 0)), (1, .int v1), (2, .int v2), (3, .int v3), (4, .int v4), (5, .int v5), (6, .int v6)] → W p l e ({ frames := 2, cells := 0, slots := 0, locals := 47 } : Room) s m args below meth c H locs 0 0 (MQ below (va_Qi post (fun u t => VX dC dI cA P u t.heap) (PA 56 P)) args s 0 0 (PA 56 P)) (F0 m 78 ls []) := by
  have C := C
  obtain ⟨hI, hKX, ⟨hx, hb, hml, hown, hts⟩, hr, hlocks⟩ := id C
  have hK := hKX.1
  intro n
  induction n with
  | zero =>
    intro v1 v2 v3 v4 v5 v6 S H locs ls h hP hS hl
    simp only [w_X8_cycles_78] at h
  | succ n ih =>
    intro v1 v2 v3 v4 v5 v6 S H locs ls h hP hS hl
    rw [w_X8_cycles_78] at h
    refine lv_iload hx hb dX8_cycles_78 (lv_at hl 6 rfl) ?_
    refine lv_iload_n hx hb dX8_cycles_80 rfl (lv_at hl 2 rfl) ?_
    refine lv_icmp_ge (tgt := 124) hx hb dX8_cycles_81 (by decide) (fun c16 => ?_) (fun c16 => ?_)
    · replace h := h.1 c16
      refine lv_iload_n hx hb dX8_cycles_124 rfl (lv_at hl 3 rfl) ?_
      refine lv_if_ne (tgt := 133) hx hb dX8_cycles_125 (by decide) (fun c17 => ?_) (fun c17 => ?_)
      · replace h := h.2 c17
        refine lv_iload hx hb dX8_cycles_133 (lv_at hl 5 rfl) ?_
        exact g_iret hx hb hr hlocks h hP hS dX8_cycles_135
      · replace h := h.1 c17
        refine lv_iload hx hb dX8_cycles_128 (lv_at hl 4 rfl) ?_
        refine lv_goto (tgt := 135) hx hb dX8_cycles_130 (by decide) ?_
        exact g_iret hx hb hr hlocks h hP hS dX8_cycles_135
    · replace h := h.2 c16
      refine lv_aload_n hx hb dX8_cycles_84 rfl (lv_at hl 0 rfl) ?_
      refine lv_iload hx hb dX8_cycles_85 (lv_at hl 6 rfl) ?_
      refine lv_iload_n hx hb dX8_cycles_87 rfl (lv_at hl 1 rfl) ?_
      refine lv_iload_n hx hb dX8_cycles_88 rfl (lv_at hl 2 rfl) ?_
      refine va_calli (va_runV (As := [.int _, .int _, .int _]) (rest := []) ⟨hx, hb, hml, hown, hts⟩ (c_X8_markRing l hI h) (cwV 3 hts gv_X8_179 rfl rfl rfl hv_X8_markRing ⟨Nat.le_of_ble_eq_true rfl, Nat.le_of_ble_eq_true rfl⟩) (preV_X hKX hP hS (kX_lt (rfl : kdX 0 = 8)) (eX8 (rfl : kdX 0 = 8)) rfl) rfl rfl hl.1 rfl (lv_room (Nat.le_of_ble_eq_true rfl)) dX8_cycles_89 ⟨Nat.le_of_ble_eq_true rfl, Nat.le_of_ble_eq_true rfl⟩) hS (fun _ _ h => h) (fun _ h => h) (fun r19 S18 t H locs ht _ h hB _ _ hS => ?_)
      have hP : VX dC dI cA P S18 H := by rw [← ht]; exact hB
      refine lv_istore (lv' := [(7, .int r19), (0, .ref (P 0)), (1, .int v1), (2, .int v2), (3, .int v3), (4, .int v4), (5, .int v5), (6, .int v6)]) hx hb dX8_cycles_92 hl (by decide) rfl (fun ls hl => ?_)
      refine lv_iload hx hb dX8_cycles_94 (lv_at hl 5 rfl) ?_
      refine lv_iload hx hb dX8_cycles_96 (lv_at hl 0 rfl) ?_
      refine lv_if_le (tgt := 105) hx hb dX8_cycles_98 (by decide) (fun c20 => ?_) (fun c20 => ?_)
      · replace h := h.1 c20
        refine lv_iconst (v := 0) hx hb dX8_cycles_105 (by decide) ?_
        exact b_X8_cycles_106 C ih _ _ _ _ _ _ _ _ _ _ _ _ h  hP hS (lv_sub hl [1, 2, 3, 4, 6, 7, 0] rfl)
      · replace h := h.2 c20
        refine lv_iconst (v := 1) hx hb dX8_cycles_101 (by decide) ?_
        refine lv_goto (tgt := 106) hx hb dX8_cycles_102 (by decide) ?_
        exact b_X8_cycles_106 C ih _ _ _ _ _ _ _ _ _ _ _ _ h  hP hS (lv_sub hl [1, 2, 3, 4, 6, 7, 0] rfl)
set_option maxRecDepth 100000 in
set_option maxHeartbeats 4000000 in
theorem b_X8_cycles_47 {p : Program} {l : Launch} {e : Env} {s : State} {m : MethodId} {args : Array Value} {below : List Frame} {meth : Method} {c : Code} {dC : Nat → ClassId} {dI : Nat → Nat → Nat} {cA : Nat → ClassId} {adK adV P : Nat → Nat} (C : CtxX dC dI cA adK adV P p s m args meth c cX8_cycles 8 (some .int) RX8) {post : Int32 → St → Prop}  : ∀ (n : Nat) (v1 : Int32) (v2 : Int32) (v3 : Int32) (v4 : Int32) (S : St) (H : Heap) (locs : List Loc) (ls : Array Slot), w_X8_cycles_47 post n v1 v2 v3 v4 S → VX dC dI cA P S H → va_S (PA 56 P) s.heap H locs → lv_has ls 8 [(0, .ref (P 0)), (1, .int v1), (2, .int v2), (3, .int v3), (4, .int v4)] → W p l e ({ frames := 2, cells := 0, slots := 0, locals := 47 } : Room) s m args below meth c H locs 0 0 (MQ below (va_Qi post (fun u t => VX dC dI cA P u t.heap) (PA 56 P)) args s 0 0 (PA 56 P)) (F0 m 47 ls []) := by
  have C := C
  obtain ⟨hI, hKX, ⟨hx, hb, hml, hown, hts⟩, hr, hlocks⟩ := id C
  have hK := hKX.1
  intro n
  induction n with
  | zero =>
    intro v1 v2 v3 v4 S H locs ls h hP hS hl
    simp only [w_X8_cycles_47] at h
  | succ n ih =>
    intro v1 v2 v3 v4 S H locs ls h hP hS hl
    rw [w_X8_cycles_47] at h
    refine lv_iload hx hb dX8_cycles_47 (lv_at hl 4 rfl) ?_
    refine lv_iload_n hx hb dX8_cycles_49 rfl (lv_at hl 2 rfl) ?_
    refine lv_icmp_ge (tgt := 69) hx hb dX8_cycles_50 (by decide) (fun c15 => ?_) (fun c15 => ?_)
    · replace h := h.1 c15
      refine lv_iconst (v := 0) hx hb dX8_cycles_69 (by decide) ?_
      refine lv_istore (lv' := [(4, .int 0), (0, .ref (P 0)), (1, .int v1), (2, .int v2), (3, .int v3)]) hx hb dX8_cycles_70 hl (by decide) rfl (fun ls hl => ?_)
      refine lv_iconst (v := 0) hx hb dX8_cycles_72 (by decide) ?_
      refine lv_istore (lv' := [(5, .int 0), (4, .int 0), (0, .ref (P 0)), (1, .int v1), (2, .int v2), (3, .int v3)]) hx hb dX8_cycles_73 hl (by decide) rfl (fun ls hl => ?_)
      refine lv_iconst (v := 1) hx hb dX8_cycles_75 (by decide) ?_
      refine lv_istore (lv' := [(6, .int 1), (5, .int 0), (4, .int 0), (0, .ref (P 0)), (1, .int v1), (2, .int v2), (3, .int v3)]) hx hb dX8_cycles_76 hl (by decide) rfl (fun ls hl => ?_)
      obtain ⟨n24, h⟩ := h
      exact b_X8_cycles_78 C n24 _ _ _ _ _ _ _ _ _ _ h  hP hS (lv_sub hl [3, 4, 5, 6, 2, 1, 0] rfl)
    · replace h := h.2 c15
      refine lv_aload_n hx hb dX8_cycles_53 rfl (lv_at hl 0 rfl) ?_
      refine g_get (v := .ref (P 55)) hx hb hts inG_X8 hown hK hP (kX_lt (rfl : kdX 0 = 8)) (eX8 (rfl : kdX 0 = 8)) rfl 11 (by decide) G_fl_X8_76 rfl rfl dX8_cycles_54 ?_
      refine lv_iload hx hb dX8_cycles_57 (lv_at hl 4 rfl) ?_
      refine lv_iconst (v := 0) hx hb dX8_cycles_59 (by decide) ?_
      refine va_callv (va_runS (As := [.ref _, .int _, .int _]) (rest := []) ⟨hx, hb, hml, hown, hts⟩ (c_X8_setAt l hI (rfl : kdX 55 = 10) h) (va_cwS 3 hts gs_X8_175 rfl rfl rfl hd_X8_setAt ⟨Nat.le_of_ble_eq_true rfl, Nat.le_of_ble_eq_true rfl⟩) (preS_X hKX hP hS) rfl rfl hl.1 rfl (lv_room (Nat.le_of_ble_eq_true rfl)) dX8_cycles_60 ⟨Nat.le_of_ble_eq_true rfl, Nat.le_of_ble_eq_true rfl⟩) hS (fun _ _ h => h) (fun _ h => h) (fun S25 t H locs ht _ h hB _ _ hS => ?_)
      have hP : VX dC dI cA P S25 H := by rw [← ht]; exact hB
      obtain ⟨x26, ex26⟩ : ∃ y : Int32, y = v4 + 1 := ⟨_, rfl⟩
      replace h := h x26 ex26
      refine lv_iinc (v := x26) (lv' := [(4, .int x26), (0, .ref (P 0)), (1, .int v1), (2, .int v2), (3, .int v3)]) hx hb dX8_cycles_63 hl (k := 4) rfl (by rw [ex26]; rfl) (by decide) rfl (fun ls hl => ?_)
      refine lv_goto (tgt := 47) hx hb dX8_cycles_66 (by decide) ?_
      exact ih _ _ _ _ _ _ _ _ h  hP hS (lv_sub hl [1, 2, 3, 4, 0] rfl)
set_option maxRecDepth 100000 in
set_option maxHeartbeats 4000000 in
theorem c_X8_cycles (l : Launch) {dC : Nat → ClassId} {dI : Nat → Nat → Nat} {cA : Nat → ClassId} {adK adV P : Nat → Nat} (hI : PInj 56 P) {v1 : Int32} {v2 : Int32} {v3 : Int32}  {post : Int32 → St → Prop} {S : St} (h : w_X8_cycles v1 v2 v3 post S) : Met l yX8_cycles (wW yX8_cycles cX8_cycles 8 (some .int)) ({ frames := 2, cells := 0, slots := 0, locals := 47 } : Room) (va_Pc [.ref (P 0), .int v1, .int v2, .int v3] (PreX dC dI cA adK adV P S)) (va_Qi post (fun u t => VX dC dI cA P u t.heap) (PA 56 P)) 0 0 (PA 56 P) := by
  refine Met.ofW (cc := cX8_cycles) (maxL := 8) (ret := (some .int)) (by decide) rfl ?_
  intro p e s m args below meth c s₁ B hml hv
  obtain ⟨rfl, hP, hKX⟩ := hv
  have hts : ∀ w ∈ G, w.before [.ref (P 0), .int v1, .int v2, .int v3].toArray s = true := fun w hw => atoms_spec (ws := wW yX8_cycles cX8_cycles 8 (some .int)) B.pre w (List.mem_cons_of_mem _ hw)
  have C : CtxX dC dI cA adK adV P p s m [.ref (P 0), .int v1, .int v2, .int v3].toArray meth c cX8_cycles 8 (some .int) RX8 := ⟨hI, hKX, ⟨B.exec, B.bytes, hml, findClass_of_methodNamed B.named, hts⟩, B.returns, B.notSynchronized⟩
  obtain ⟨hI, hKX, ⟨hx, hb, hml, hown, hts⟩, hr, hlocks⟩ := id C
  have hK := hKX.1
  have hS : va_S (PA 56 P) s.heap s.heap [] := va_S.rf
  have hl := lv_entry ([.ref (P 0), .int v1, .int v2, .int v3]) (n := 8) (Nat.le_of_ble_eq_true rfl)
  rw [lg_entry_eq]
  generalize (lg_sl ([.ref (P 0), .int v1, .int v2, .int v3]) ++ List.replicate (8 - (lg_sl ([.ref (P 0), .int v1, .int v2, .int v3])).length) Slot.unset).toArray = ls at hl ⊢
  have hl : lv_has ls 8 [(0, .ref (P 0)), (1, .int v1), (2, .int v2), (3, .int v3)] := hl
  rw [w_X8_cycles] at h
  refine lv_iload_n hx hb dX8_cycles_0 rfl (lv_at hl 1 rfl) ?_
  refine va_calli (va_runS (As := [.int _]) (rest := []) ⟨hx, hb, hml, hown, hts⟩ (c_X8_isBase l hI h) (va_cwS 1 hts gs_X8_85 rfl rfl rfl hd_X8_isBase ⟨Nat.le_of_ble_eq_true rfl, Nat.le_of_ble_eq_true rfl⟩) (preS_X hKX hP hS) rfl rfl hl.1 rfl (lv_room (Nat.le_of_ble_eq_true rfl)) dX8_cycles_1 ⟨Nat.le_of_ble_eq_true rfl, Nat.le_of_ble_eq_true rfl⟩) hS (fun _ _ h => h) (fun _ h => h) (fun r2 S1 t H locs ht _ h hB _ _ hS => ?_)
  have hP : VX dC dI cA P S1 H := by rw [← ht]; exact hB
  refine lv_if_eq (tgt := 27) hx hb dX8_cycles_4 (by decide) (fun c3 => ?_) (fun c3 => ?_)
  · replace h := h.1 c3
    refine lv_iconst (v := (-1)) hx hb dX8_cycles_27 (by decide) ?_
    exact g_iret hx hb hr hlocks h hP hS dX8_cycles_28
  · replace h := h.2 c3
    refine lv_iload_n hx hb dX8_cycles_7 rfl (lv_at hl 2 rfl) ?_
    refine lv_iconst (v := 2) hx hb dX8_cycles_8 (by decide) ?_
    refine lv_sipush (v := 999) hx hb dX8_cycles_9 (by decide) ?_
    refine va_calli (va_runS (As := [.int _, .int _, .int _]) (rest := []) ⟨hx, hb, hml, hown, hts⟩ (c_X8_isWithin l hI h) (va_cwS 3 hts gs_X8_81 rfl rfl rfl hd_X8_isWithin ⟨Nat.le_of_ble_eq_true rfl, Nat.le_of_ble_eq_true rfl⟩) (preS_X hKX hP hS) rfl rfl hl.1 rfl (lv_room (Nat.le_of_ble_eq_true rfl)) dX8_cycles_12 ⟨Nat.le_of_ble_eq_true rfl, Nat.le_of_ble_eq_true rfl⟩) hS (fun _ _ h => h) (fun _ h => h) (fun r5 S4 t H locs ht _ h hB _ _ hS => ?_)
    have hP : VX dC dI cA P S4 H := by rw [← ht]; exact hB
    refine lv_if_eq (tgt := 27) hx hb dX8_cycles_15 (by decide) (fun c6 => ?_) (fun c6 => ?_)
    · replace h := h.1 c6
      refine lv_iconst (v := (-1)) hx hb dX8_cycles_27 (by decide) ?_
      exact g_iret hx hb hr hlocks h hP hS dX8_cycles_28
    · replace h := h.2 c6
      refine lv_iload_n hx hb dX8_cycles_18 rfl (lv_at hl 3 rfl) ?_
      refine lv_iconst (v := 0) hx hb dX8_cycles_19 (by decide) ?_
      refine lv_iconst (v := 1) hx hb dX8_cycles_20 (by decide) ?_
      refine va_calli (va_runS (As := [.int _, .int _, .int _]) (rest := []) ⟨hx, hb, hml, hown, hts⟩ (c_X8_isWithin l hI h) (va_cwS 3 hts gs_X8_81 rfl rfl rfl hd_X8_isWithin ⟨Nat.le_of_ble_eq_true rfl, Nat.le_of_ble_eq_true rfl⟩) (preS_X hKX hP hS) rfl rfl hl.1 rfl (lv_room (Nat.le_of_ble_eq_true rfl)) dX8_cycles_21 ⟨Nat.le_of_ble_eq_true rfl, Nat.le_of_ble_eq_true rfl⟩) hS (fun _ _ h => h) (fun _ h => h) (fun r8 S7 t H locs ht _ h hB _ _ hS => ?_)
      have hP : VX dC dI cA P S7 H := by rw [← ht]; exact hB
      refine lv_if_ne (tgt := 29) hx hb dX8_cycles_24 (by decide) (fun c9 => ?_) (fun c9 => ?_)
      · replace h := h.2 c9
        refine lv_iload_n hx hb dX8_cycles_29 rfl (lv_at hl 1 rfl) ?_
        refine lv_i2l hx hb dX8_cycles_30 rfl ?_
        refine lv_iload_n hx hb dX8_cycles_31 rfl (lv_at hl 2 rfl) ?_
        refine lv_i2l hx hb dX8_cycles_32 rfl ?_
        replace h := h _ rfl
        replace h := h _ rfl
        refine va_calll (va_runS (As := [.long _, .long _]) (rest := []) ⟨hx, hb, hml, hown, hts⟩ (c_X8_commonDivisor l hI h) (va_cwS 2 hts gs_X8_119 rfl rfl rfl hd_X8_commonDivisor ⟨Nat.le_of_ble_eq_true rfl, Nat.le_of_ble_eq_true rfl⟩) (preS_X hKX hP hS) rfl rfl hl.1 rfl (lv_room (Nat.le_of_ble_eq_true rfl)) dX8_cycles_33 ⟨Nat.le_of_ble_eq_true rfl, Nat.le_of_ble_eq_true rfl⟩) hS (fun _ _ h => h) (fun _ h => h) (fun r13 S12 t H locs ht _ h hB _ _ hS => ?_)
        have hP : VX dC dI cA P S12 H := by rw [← ht]; exact hB
        refine lv_lconst (v := 1) hx hb dX8_cycles_36 (by decide) ?_
        refine W.lcmp hx hb dX8_cycles_37 ?_
        refine lv_if_le (tgt := 44) hx hb dX8_cycles_38 (by decide) (fun c14 => ?_) (fun c14 => ?_)
        · replace h := h.1 ((lg_cmp_le _ _).mp c14)
          refine lv_iconst (v := 0) hx hb dX8_cycles_44 (by decide) ?_
          refine lv_istore (lv' := [(4, .int 0), (0, .ref (P 0)), (1, .int v1), (2, .int v2), (3, .int v3)]) hx hb dX8_cycles_45 hl (by decide) rfl (fun ls hl => ?_)
          obtain ⟨n27, h⟩ := h
          exact b_X8_cycles_47 C n27 _ _ _ _ _ _ _ _ h  hP hS (lv_sub hl [1, 2, 3, 4, 0] rfl)
        · replace h := h.2 (fun z => c14 ((lg_cmp_le _ _).mpr z))
          refine lv_bipush (v := (-5)) hx hb dX8_cycles_41 (by decide) ?_
          exact g_iret hx hb hr hlocks h hP hS dX8_cycles_43
      · replace h := h.1 c9
        refine lv_iconst (v := (-1)) hx hb dX8_cycles_27 (by decide) ?_
        exact g_iret hx hb hr hlocks h hP hS dX8_cycles_28
set_option maxRecDepth 100000 in
set_option maxHeartbeats 4000000 in
theorem b_X8_full_67 {p : Program} {l : Launch} {e : Env} {s : State} {m : MethodId} {args : Array Value} {below : List Frame} {meth : Method} {c : Code} {dC : Nat → ClassId} {dI : Nat → Nat → Nat} {cA : Nat → ClassId} {adK adV P : Nat → Nat} (C : CtxX dC dI cA adK adV P p s m args meth c cX8_full 10 (some .int) RX8) {post : Int32 → St → Prop}  : ∀ (n : Nat) (v1 : Int32) (v3 : Int32) (v4 : Int32) (v6 : Int32) (v7 : Int32) (v8 : Int32) (v9 : Int32) (S : St) (H : Heap) (locs : List Loc) (ls : Array Slot), w_X8_full_67 post n v1 v3 v4 v6 v7 v8 v9 S → VX dC dI cA P S H → va_S (PA 56 P) s.heap H locs → lv_has ls 10 [(0, .ref (P 0)), (1, .int v1), (3, .int v3), (4, .int v4), (6, .int v6), (7, .int v7), (8, .int v8), (9, .int v9)] → W p l e ({ frames := 2, cells := 0, slots := 0, locals := 54 } : Room) s m args below meth c H locs 0 0 (MQ below (va_Qi post (fun u t => VX dC dI cA P u t.heap) (PA 56 P)) args s 0 0 (PA 56 P)) (F0 m 67 ls []) := by
  have C := C
  obtain ⟨hI, hKX, ⟨hx, hb, hml, hown, hts⟩, hr, hlocks⟩ := id C
  have hK := hKX.1
  intro n
  induction n with
  | zero =>
    intro v1 v3 v4 v6 v7 v8 v9 S H locs ls h hP hS hl
    simp only [w_X8_full_67] at h
  | succ n ih =>
    intro v1 v3 v4 v6 v7 v8 v9 S H locs ls h hP hS hl
    rw [w_X8_full_67] at h
    refine lv_iload hx hb dX8_full_67 (lv_at hl 7 rfl) ?_
    refine lv_iload_n hx hb dX8_full_69 rfl (lv_at hl 2 rfl) ?_
    refine lv_icmp_gt (tgt := 121) hx hb dX8_full_70 (by decide) (fun c11 => ?_) (fun c11 => ?_)
    · replace h := h.1 c11
      refine lv_iload hx hb dX8_full_121 (lv_at hl 3 rfl) ?_
      refine lv_if_ne (tgt := 131) hx hb dX8_full_123 (by decide) (fun c12 => ?_) (fun c12 => ?_)
      · replace h := h.2 c12
        refine lv_iload hx hb dX8_full_131 (lv_at hl 3 rfl) ?_
        refine lv_iconst (v := 1) hx hb dX8_full_133 (by decide) ?_
        refine lv_icmp_ne (tgt := 142) hx hb dX8_full_134 (by decide) (fun c13 => ?_) (fun c13 => ?_)
        · replace h := h.2 c13
          refine lv_iload hx hb dX8_full_142 (lv_at hl 6 rfl) ?_
          exact g_iret hx hb hr hlocks h hP hS dX8_full_144
        · replace h := h.1 c13
          refine lv_iload hx hb dX8_full_137 (lv_at hl 5 rfl) ?_
          refine lv_goto (tgt := 144) hx hb dX8_full_139 (by decide) ?_
          exact g_iret hx hb hr hlocks h hP hS dX8_full_144
      · replace h := h.1 c12
        refine lv_iload hx hb dX8_full_126 (lv_at hl 4 rfl) ?_
        refine lv_goto (tgt := 144) hx hb dX8_full_128 (by decide) ?_
        exact g_iret hx hb hr hlocks h hP hS dX8_full_144
    · replace h := h.2 c11
      refine lv_aload_n hx hb dX8_full_73 rfl (lv_at hl 0 rfl) ?_
      refine g_get (v := .ref (P 54)) hx hb hts inG_X8 hown hK hP (kX_lt (rfl : kdX 0 = 8)) (eX8 (rfl : kdX 0 = 8)) rfl 10 (by decide) G_fl_X8_72 rfl rfl dX8_full_74 ?_
      refine lv_iconst (v := 1) hx hb dX8_full_77 (by decide) ?_
      refine lv_iload hx hb dX8_full_78 (lv_at hl 7 rfl) ?_
      refine lv_iload_n hx hb dX8_full_80 rfl (lv_at hl 1 rfl) ?_
      refine va_callv (va_runV (As := [.int _, .int _, .int _]) (rest := []) ⟨hx, hb, hml, hown, hts⟩ (c_X1_become l hI (rfl : kdX 54 = 1) h) (cwV 3 hts gv_X8_111 rfl rfl rfl hv_X1_become ⟨Nat.le_of_ble_eq_true rfl, Nat.le_of_ble_eq_true rfl⟩) (preV_X hKX hP hS (kX_lt (rfl : kdX 54 = 1)) (eX1 (rfl : kdX 54 = 1)) rfl) rfl rfl hl.1 rfl (lv_room (Nat.le_of_ble_eq_true rfl)) dX8_full_81 ⟨Nat.le_of_ble_eq_true rfl, Nat.le_of_ble_eq_true rfl⟩) hS (fun _ _ h => h) (fun _ h => h) (fun S14 t H locs ht _ h hB _ _ hS => ?_)
      have hP : VX dC dI cA P S14 H := by rw [← ht]; exact hB
      refine lv_aload_n hx hb dX8_full_84 rfl (lv_at hl 0 rfl) ?_
      refine g_get (v := .ref (P 54)) hx hb hts inG_X8 hown hK hP (kX_lt (rfl : kdX 0 = 8)) (eX8 (rfl : kdX 0 = 8)) rfl 10 (by decide) G_fl_X8_72 rfl rfl dX8_full_85 ?_
      refine va_calli (va_runV (As := []) (rest := []) ⟨hx, hb, hml, hown, hts⟩ (c_X1_isFullUnit l hI (rfl : kdX 54 = 1) h) (cwV 0 hts gv_X8_187 rfl rfl rfl hv_X1_isFullUnit ⟨Nat.le_of_ble_eq_true rfl, Nat.le_of_ble_eq_true rfl⟩) (preV_X hKX hP hS (kX_lt (rfl : kdX 54 = 1)) (eX1 (rfl : kdX 54 = 1)) rfl) rfl rfl hl.1 rfl (lv_room (Nat.le_of_ble_eq_true rfl)) dX8_full_88 ⟨Nat.le_of_ble_eq_true rfl, Nat.le_of_ble_eq_true rfl⟩) hS (fun _ _ h => h) (fun _ h => h) (fun r16 S15 t H locs ht _ h hB _ _ hS => ?_)
      have hP : VX dC dI cA P S15 H := by rw [← ht]; exact hB
      refine lv_if_eq (tgt := 115) hx hb dX8_full_91 (by decide) (fun c17 => ?_) (fun c17 => ?_)
      · replace h := h.1 c17
        obtain ⟨x18, ex18⟩ : ∃ y : Int32, y = v9 + 1 := ⟨_, rfl⟩
        replace h := h x18 ex18
        refine lv_iinc (v := x18) (lv' := [(9, .int x18), (0, .ref (P 0)), (1, .int v1), (3, .int v3), (4, .int v4), (6, .int v6), (7, .int v7), (8, .int v8)]) hx hb dX8_full_115 hl (k := 7) rfl (by rw [ex18]; rfl) (by decide) rfl (fun ls hl => ?_)
        refine lv_goto (tgt := 67) hx hb dX8_full_118 (by decide) ?_
        exact ih _ _ _ _ _ _ _ _ _ _ _ h  hP hS (lv_sub hl [1, 2, 3, 4, 5, 6, 7, 0] rfl)
      · replace h := h.2 c17
        refine lv_iload hx hb dX8_full_94 (lv_at hl 4 rfl) ?_
        refine lv_if_ne (tgt := 104) hx hb dX8_full_96 (by decide) (fun c19 => ?_) (fun c19 => ?_)
        · replace h := h.2 c19
          refine lv_iload hx hb dX8_full_104 (lv_at hl 5 rfl) ?_
          refine lv_istore (lv' := [(7, .int v7), (0, .ref (P 0)), (1, .int v1), (3, .int v3), (4, .int v4), (6, .int v6), (8, .int v8), (9, .int v9)]) hx hb dX8_full_106 hl (by decide) rfl (fun ls hl => ?_)
          refine lv_iload hx hb dX8_full_108 (lv_at hl 7 rfl) ?_
          refine lv_istore (lv' := [(8, .int v9), (7, .int v7), (0, .ref (P 0)), (1, .int v1), (3, .int v3), (4, .int v4), (6, .int v6), (9, .int v9)]) hx hb dX8_full_110 hl (by decide) rfl (fun ls hl => ?_)
          obtain ⟨x20, ex20⟩ : ∃ y : Int32, y = v6 + 1 := ⟨_, rfl⟩
          replace h := h x20 ex20
          refine lv_iinc (v := x20) (lv' := [(6, .int x20), (8, .int v9), (7, .int v7), (0, .ref (P 0)), (1, .int v1), (3, .int v3), (4, .int v4), (9, .int v9)]) hx hb dX8_full_112 hl (k := 6) rfl (by rw [ex20]; rfl) (by decide) rfl (fun ls hl => ?_)
          obtain ⟨x21, ex21⟩ : ∃ y : Int32, y = v9 + 1 := ⟨_, rfl⟩
          replace h := h x21 ex21
          refine lv_iinc (v := x21) (lv' := [(9, .int x21), (6, .int x20), (8, .int v9), (7, .int v7), (0, .ref (P 0)), (1, .int v1), (3, .int v3), (4, .int v4)]) hx hb dX8_full_115 hl (k := 7) rfl (by rw [ex21]; rfl) (by decide) rfl (fun ls hl => ?_)
          refine lv_goto (tgt := 67) hx hb dX8_full_118 (by decide) ?_
          exact ih _ _ _ _ _ _ _ _ _ _ _ h  hP hS (lv_sub hl [4, 5, 6, 7, 1, 3, 2, 0] rfl)
        · replace h := h.1 c19
          refine lv_iload hx hb dX8_full_99 (lv_at hl 7 rfl) ?_
          refine lv_goto (tgt := 106) hx hb dX8_full_101 (by decide) ?_
          refine lv_istore (lv' := [(7, .int v9), (0, .ref (P 0)), (1, .int v1), (3, .int v3), (4, .int v4), (6, .int v6), (8, .int v8), (9, .int v9)]) hx hb dX8_full_106 hl (by decide) rfl (fun ls hl => ?_)
          refine lv_iload hx hb dX8_full_108 (lv_at hl 7 rfl) ?_
          refine lv_istore (lv' := [(8, .int v9), (7, .int v9), (0, .ref (P 0)), (1, .int v1), (3, .int v3), (4, .int v4), (6, .int v6), (9, .int v9)]) hx hb dX8_full_110 hl (by decide) rfl (fun ls hl => ?_)
          obtain ⟨x22, ex22⟩ : ∃ y : Int32, y = v6 + 1 := ⟨_, rfl⟩
          replace h := h x22 ex22
          refine lv_iinc (v := x22) (lv' := [(6, .int x22), (8, .int v9), (7, .int v9), (0, .ref (P 0)), (1, .int v1), (3, .int v3), (4, .int v4), (9, .int v9)]) hx hb dX8_full_112 hl (k := 6) rfl (by rw [ex22]; rfl) (by decide) rfl (fun ls hl => ?_)
          obtain ⟨x23, ex23⟩ : ∃ y : Int32, y = v9 + 1 := ⟨_, rfl⟩
          replace h := h x23 ex23
          refine lv_iinc (v := x23) (lv' := [(9, .int x23), (6, .int x22), (8, .int v9), (7, .int v9), (0, .ref (P 0)), (1, .int v1), (3, .int v3), (4, .int v4)]) hx hb dX8_full_115 hl (k := 7) rfl (by rw [ex23]; rfl) (by decide) rfl (fun ls hl => ?_)
          refine lv_goto (tgt := 67) hx hb dX8_full_118 (by decide) ?_
          exact ih _ _ _ _ _ _ _ _ _ _ _ h  hP hS (lv_sub hl [4, 5, 6, 7, 1, 3, 2, 0] rfl)
set_option maxRecDepth 100000 in
set_option maxHeartbeats 4000000 in
theorem b_X8_full_27 {p : Program} {l : Launch} {e : Env} {s : State} {m : MethodId} {args : Array Value} {below : List Frame} {meth : Method} {c : Code} {dC : Nat → ClassId} {dI : Nat → Nat → Nat} {cA : Nat → ClassId} {adK adV P : Nat → Nat} (C : CtxX dC dI cA adK adV P p s m args meth c cX8_full 10 (some .int) RX8) {post : Int32 → St → Prop}  : ∀ (v1 : Int32) (v2 : Int32) (v3 : Int32) (v4 : Int32) (y0 : Int32) (S : St) (H : Heap) (locs : List Loc) (ls : Array Slot), w_X8_full_27 post v1 v2 v3 v4 y0 S → VX dC dI cA P S H → va_S (PA 56 P) s.heap H locs → lv_has ls 10 [(0, .ref (P 0)), (1, .int v1), (2, .int v2), (3, .int v3), (4, .int v4)] → W p l e ({ frames := 2, cells := 0, slots := 0, locals := 54 } : Room) s m args below meth c H locs 0 0 (MQ below (va_Qi post (fun u t => VX dC dI cA P u t.heap) (PA 56 P)) args s 0 0 (PA 56 P)) (F0 m 27 ls [.int y0]) := by
  have C := C
  obtain ⟨hI, hKX, ⟨hx, hb, hml, hown, hts⟩, hr, hlocks⟩ := id C
  have hK := hKX.1
  intro v1 v2 v3 v4 y0 S H locs ls h hP hS hl
  rw [w_X8_full_27] at h
  refine lv_istore (lv' := [(5, .int y0), (0, .ref (P 0)), (1, .int v1), (2, .int v2), (3, .int v3), (4, .int v4)]) hx hb dX8_full_27 hl (by decide) rfl (fun ls hl => ?_)
  refine lv_iload_n hx hb dX8_full_29 rfl (lv_at hl 2 rfl) ?_
  refine va_calli (va_runS (As := [.int _]) (rest := []) ⟨hx, hb, hml, hown, hts⟩ (c_X8_isBase l hI h) (va_cwS 1 hts gs_X8_85 rfl rfl rfl hd_X8_isBase ⟨Nat.le_of_ble_eq_true rfl, Nat.le_of_ble_eq_true rfl⟩) (preS_X hKX hP hS) rfl rfl hl.1 rfl (lv_room (Nat.le_of_ble_eq_true rfl)) dX8_full_30 ⟨Nat.le_of_ble_eq_true rfl, Nat.le_of_ble_eq_true rfl⟩) hS (fun _ _ h => h) (fun _ h => h) (fun r5 S4 t H locs ht _ h hB _ _ hS => ?_)
  have hP : VX dC dI cA P S4 H := by rw [← ht]; exact hB
  refine lv_if_eq (tgt := 51) hx hb dX8_full_33 (by decide) (fun c6 => ?_) (fun c6 => ?_)
  · replace h := h.1 c6
    refine lv_iconst (v := (-1)) hx hb dX8_full_51 (by decide) ?_
    exact g_iret hx hb hr hlocks h hP hS dX8_full_52
  · replace h := h.2 c6
    refine lv_iload hx hb dX8_full_36 (lv_at hl 0 rfl) ?_
    refine lv_if_eq (tgt := 51) hx hb dX8_full_38 (by decide) (fun c7 => ?_) (fun c7 => ?_)
    · replace h := h.1 c7
      refine lv_iconst (v := (-1)) hx hb dX8_full_51 (by decide) ?_
      exact g_iret hx hb hr hlocks h hP hS dX8_full_52
    · replace h := h.2 c7
      refine lv_iload hx hb dX8_full_41 (lv_at hl 5 rfl) ?_
      refine lv_iconst (v := 0) hx hb dX8_full_43 (by decide) ?_
      refine lv_iconst (v := 2) hx hb dX8_full_44 (by decide) ?_
      refine va_calli (va_runS (As := [.int _, .int _, .int _]) (rest := []) ⟨hx, hb, hml, hown, hts⟩ (c_X8_isWithin l hI h) (va_cwS 3 hts gs_X8_81 rfl rfl rfl hd_X8_isWithin ⟨Nat.le_of_ble_eq_true rfl, Nat.le_of_ble_eq_true rfl⟩) (preS_X hKX hP hS) rfl rfl hl.1 rfl (lv_room (Nat.le_of_ble_eq_true rfl)) dX8_full_45 ⟨Nat.le_of_ble_eq_true rfl, Nat.le_of_ble_eq_true rfl⟩) hS (fun _ _ h => h) (fun _ h => h) (fun r9 S8 t H locs ht _ h hB _ _ hS => ?_)
      have hP : VX dC dI cA P S8 H := by rw [← ht]; exact hB
      refine lv_if_ne (tgt := 53) hx hb dX8_full_48 (by decide) (fun c10 => ?_) (fun c10 => ?_)
      · replace h := h.2 c10
        refine lv_iconst (v := 0) hx hb dX8_full_53 (by decide) ?_
        refine lv_istore (lv' := [(6, .int 0), (5, .int y0), (0, .ref (P 0)), (1, .int v1), (2, .int v2), (3, .int v3), (4, .int v4)]) hx hb dX8_full_54 hl (by decide) rfl (fun ls hl => ?_)
        refine lv_bipush (v := (-2)) hx hb dX8_full_56 (by decide) ?_
        refine lv_istore (lv' := [(7, .int (-2)), (6, .int 0), (5, .int y0), (0, .ref (P 0)), (1, .int v1), (2, .int v2), (3, .int v3), (4, .int v4)]) hx hb dX8_full_58 hl (by decide) rfl (fun ls hl => ?_)
        refine lv_bipush (v := (-2)) hx hb dX8_full_60 (by decide) ?_
        refine lv_istore (lv' := [(8, .int (-2)), (7, .int (-2)), (6, .int 0), (5, .int y0), (0, .ref (P 0)), (1, .int v1), (2, .int v2), (3, .int v3), (4, .int v4)]) hx hb dX8_full_62 hl (by decide) rfl (fun ls hl => ?_)
        refine lv_iload_n hx hb dX8_full_64 rfl (lv_at hl 6 rfl) ?_
        refine lv_istore (lv' := [(9, .int v2), (8, .int (-2)), (7, .int (-2)), (6, .int 0), (5, .int y0), (0, .ref (P 0)), (1, .int v1), (2, .int v2), (3, .int v3), (4, .int v4)]) hx hb dX8_full_65 hl (by decide) rfl (fun ls hl => ?_)
        obtain ⟨n24, h⟩ := h
        exact b_X8_full_67 C n24 _ _ _ _ _ _ _ _ _ _ _ h  hP hS (lv_sub hl [5, 6, 8, 9, 3, 2, 1, 0] rfl)
      · replace h := h.1 c10
        refine lv_iconst (v := (-1)) hx hb dX8_full_51 (by decide) ?_
        exact g_iret hx hb hr hlocks h hP hS dX8_full_52
set_option maxRecDepth 100000 in
set_option maxHeartbeats 4000000 in
theorem b_X8_full_26 {p : Program} {l : Launch} {e : Env} {s : State} {m : MethodId} {args : Array Value} {below : List Frame} {meth : Method} {c : Code} {dC : Nat → ClassId} {dI : Nat → Nat → Nat} {cA : Nat → ClassId} {adK adV P : Nat → Nat} (C : CtxX dC dI cA adK adV P p s m args meth c cX8_full 10 (some .int) RX8) {post : Int32 → St → Prop}  : ∀ (v1 : Int32) (v2 : Int32) (v3 : Int32) (v4 : Int32) (S : St) (H : Heap) (locs : List Loc) (ls : Array Slot), w_X8_full_26 post v1 v2 v3 v4 S → VX dC dI cA P S H → va_S (PA 56 P) s.heap H locs → lv_has ls 10 [(0, .ref (P 0)), (1, .int v1), (2, .int v2), (3, .int v3), (4, .int v4)] → W p l e ({ frames := 2, cells := 0, slots := 0, locals := 54 } : Room) s m args below meth c H locs 0 0 (MQ below (va_Qi post (fun u t => VX dC dI cA P u t.heap) (PA 56 P)) args s 0 0 (PA 56 P)) (F0 m 26 ls []) := by
  have C := C
  obtain ⟨hI, hKX, ⟨hx, hb, hml, hown, hts⟩, hr, hlocks⟩ := id C
  have hK := hKX.1
  intro v1 v2 v3 v4 S H locs ls h hP hS hl
  rw [w_X8_full_26] at h
  refine lv_iconst (v := 0) hx hb dX8_full_26 (by decide) ?_
  exact b_X8_full_27 C _ _ _ _ _ _ _ _ _ h  hP hS (lv_sub hl [0, 1, 2, 3, 4] rfl)
set_option maxRecDepth 100000 in
set_option maxHeartbeats 4000000 in
theorem c_X8_full (l : Launch) {dC : Nat → ClassId} {dI : Nat → Nat → Nat} {cA : Nat → ClassId} {adK adV P : Nat → Nat} (hI : PInj 56 P) {v1 : Int32} {v2 : Int32} {v3 : Int32} {v4 : Int32}  {post : Int32 → St → Prop} {S : St} (h : w_X8_full v1 v2 v3 v4 post S) : Met l yX8_full (wW yX8_full cX8_full 10 (some .int)) ({ frames := 2, cells := 0, slots := 0, locals := 54 } : Room) (va_Pc [.ref (P 0), .int v1, .int v2, .int v3, .int v4] (PreX dC dI cA adK adV P S)) (va_Qi post (fun u t => VX dC dI cA P u t.heap) (PA 56 P)) 0 0 (PA 56 P) := by
  refine Met.ofW (cc := cX8_full) (maxL := 10) (ret := (some .int)) (by decide) rfl ?_
  intro p e s m args below meth c s₁ B hml hv
  obtain ⟨rfl, hP, hKX⟩ := hv
  have hts : ∀ w ∈ G, w.before [.ref (P 0), .int v1, .int v2, .int v3, .int v4].toArray s = true := fun w hw => atoms_spec (ws := wW yX8_full cX8_full 10 (some .int)) B.pre w (List.mem_cons_of_mem _ hw)
  have C : CtxX dC dI cA adK adV P p s m [.ref (P 0), .int v1, .int v2, .int v3, .int v4].toArray meth c cX8_full 10 (some .int) RX8 := ⟨hI, hKX, ⟨B.exec, B.bytes, hml, findClass_of_methodNamed B.named, hts⟩, B.returns, B.notSynchronized⟩
  obtain ⟨hI, hKX, ⟨hx, hb, hml, hown, hts⟩, hr, hlocks⟩ := id C
  have hK := hKX.1
  have hS : va_S (PA 56 P) s.heap s.heap [] := va_S.rf
  have hl := lv_entry ([.ref (P 0), .int v1, .int v2, .int v3, .int v4]) (n := 10) (Nat.le_of_ble_eq_true rfl)
  rw [lg_entry_eq]
  generalize (lg_sl ([.ref (P 0), .int v1, .int v2, .int v3, .int v4]) ++ List.replicate (10 - (lg_sl ([.ref (P 0), .int v1, .int v2, .int v3, .int v4])).length) Slot.unset).toArray = ls at hl ⊢
  have hl : lv_has ls 10 [(0, .ref (P 0)), (1, .int v1), (2, .int v2), (3, .int v3), (4, .int v4)] := hl
  rw [w_X8_full] at h
  refine lv_iload_n hx hb dX8_full_0 rfl (lv_at hl 2 rfl) ?_
  refine lv_iconst (v := 2) hx hb dX8_full_1 (by decide) ?_
  refine lv_sipush (v := 999) hx hb dX8_full_2 (by decide) ?_
  refine va_calli (va_runS (As := [.int _, .int _, .int _]) (rest := []) ⟨hx, hb, hml, hown, hts⟩ (c_X8_isWithin l hI h) (va_cwS 3 hts gs_X8_81 rfl rfl rfl hd_X8_isWithin ⟨Nat.le_of_ble_eq_true rfl, Nat.le_of_ble_eq_true rfl⟩) (preS_X hKX hP hS) rfl rfl hl.1 rfl (lv_room (Nat.le_of_ble_eq_true rfl)) dX8_full_5 ⟨Nat.le_of_ble_eq_true rfl, Nat.le_of_ble_eq_true rfl⟩) hS (fun _ _ h => h) (fun _ h => h) (fun r2 S1 t H locs ht _ h hB _ _ hS => ?_)
  have hP : VX dC dI cA P S1 H := by rw [← ht]; exact hB
  refine lv_if_eq (tgt := 26) hx hb dX8_full_8 (by decide) (fun c3 => ?_) (fun c3 => ?_)
  · replace h := h.1 c3
    exact b_X8_full_26 C _ _ _ _ _ _ _ _ h  hP hS (lv_sub hl [0, 1, 2, 3, 4] rfl)
  · replace h := h.2 c3
    refine lv_iload_n hx hb dX8_full_11 rfl (lv_at hl 3 rfl) ?_
    refine lv_iload_n hx hb dX8_full_12 rfl (lv_at hl 2 rfl) ?_
    refine lv_sipush (v := 999) hx hb dX8_full_13 (by decide) ?_
    refine va_calli (va_runS (As := [.int _, .int _, .int _]) (rest := []) ⟨hx, hb, hml, hown, hts⟩ (c_X8_isWithin l hI h) (va_cwS 3 hts gs_X8_81 rfl rfl rfl hd_X8_isWithin ⟨Nat.le_of_ble_eq_true rfl, Nat.le_of_ble_eq_true rfl⟩) (preS_X hKX hP hS) rfl rfl hl.1 rfl (lv_room (Nat.le_of_ble_eq_true rfl)) dX8_full_16 ⟨Nat.le_of_ble_eq_true rfl, Nat.le_of_ble_eq_true rfl⟩) hS (fun _ _ h => h) (fun _ h => h) (fun r26 S25 t H locs ht _ h hB _ _ hS => ?_)
    have hP : VX dC dI cA P S25 H := by rw [← ht]; exact hB
    refine lv_if_eq (tgt := 26) hx hb dX8_full_19 (by decide) (fun c27 => ?_) (fun c27 => ?_)
    · replace h := h.1 c27
      exact b_X8_full_26 C _ _ _ _ _ _ _ _ h  hP hS (lv_sub hl [0, 1, 2, 3, 4] rfl)
    · replace h := h.2 c27
      refine lv_iconst (v := 1) hx hb dX8_full_22 (by decide) ?_
      refine lv_goto (tgt := 27) hx hb dX8_full_23 (by decide) ?_
      exact b_X8_full_27 C _ _ _ _ _ _ _ _ _ h  hP hS (lv_sub hl [0, 1, 2, 3, 4] rfl)
