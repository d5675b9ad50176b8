set_option maxRecDepth 100000 in
set_option maxHeartbeats 4000000 in
theorem c_X8_judge (l : Launch) {dC : Nat → ClassId} {dI : Nat → Nat → Nat} {cA : Nat → ClassId} {adK adV P : Nat → Nat} (hI : PInj 56 P) {v1 : Int32} {v2 : Int32}  {post : Int32 → St → Prop} {S : St} (h : w_X8_judge v1 v2 post S) : Met l yX8_judge (wW yX8_judge cX8_judge 6 (some .int)) ({ frames := 3, cells := 0, slots := 0, locals := 68 } : Room) (va_Pc [.ref (P 0), .int v1, .int v2] (PreX dC dI cA adK adV P S)) (va_Qi post (fun u t => VX dC dI cA P u t.heap) (PA 56 P)) 0 0 (PA 56 P) := by
  refine Met.ofW (cc := cX8_judge) (maxL := 6) (ret := (some .int)) (by decide) rfl ?_
  intro p e s m args below meth c s₁ B hml hv
  obtain ⟨rfl, hP, hKX⟩ := hv
  have hts : ∀ w ∈ G, w.before [.ref (P 0), .int v1, .int v2].toArray s = true := fun w hw => atoms_spec (ws := wW yX8_judge cX8_judge 6 (some .int)) B.pre w (List.mem_cons_of_mem _ hw)
  have C : CtxX dC dI cA adK adV P p s m [.ref (P 0), .int v1, .int v2].toArray meth c cX8_judge 6 (some .int) RX8 := ⟨hI, hKX, ⟨B.exec, B.bytes, hml, findClass_of_methodNamed B.named, hts⟩, B.returns, B.notSynchronized⟩
  obtain ⟨hI, hKX, ⟨hx, hb, hml, hown, hts⟩, hr, hlocks⟩ := id C
  have hK := hKX.1
  have hS : va_S (PA 56 P) s.heap s.heap [] := va_S.rf
  have hl := lv_entry ([.ref (P 0), .int v1, .int v2]) (n := 6) (Nat.le_of_ble_eq_true rfl)
  rw [lg_entry_eq]
  generalize (lg_sl ([.ref (P 0), .int v1, .int v2]) ++ List.replicate (6 - (lg_sl ([.ref (P 0), .int v1, .int v2])).length) Slot.unset).toArray = ls at hl ⊢
  have hl : lv_has ls 6 [(0, .ref (P 0)), (1, .int v1), (2, .int v2)] := hl
  rw [w_X8_judge] at h
  refine lv_aload_n hx hb dX8_judge_0 rfl (lv_at hl 0 rfl) ?_
  refine lv_iload_n hx hb dX8_judge_1 rfl (lv_at hl 1 rfl) ?_
  refine va_callq (va_runV (As := [.int _]) (rest := []) ⟨hx, hb, hml, hown, hts⟩ (c_X8_holderAt l hI h) (cwV 1 hts gv_X8_253 rfl rfl rfl hv_X8_holderAt ⟨Nat.le_of_ble_eq_true rfl, Nat.le_of_ble_eq_true rfl⟩) (preV_X hKX hP hS (kX_lt (rfl : kdX 0 = 8)) (eX8 (rfl : kdX 0 = 8)) rfl) rfl rfl hl.1 rfl (lv_room (Nat.le_of_ble_eq_true rfl)) dX8_judge_2 ⟨Nat.le_of_ble_eq_true rfl, Nat.le_of_ble_eq_true rfl⟩) hS (fun _ _ h => h) (fun _ h => h) (fun q S1 t H locs ht _ h hB _ _ hS => ?_)
  have hP : VX dC dI cA P S1 H := by rw [← ht]; exact hB
  obtain ⟨o2, rfl, hko, h⟩ := h
  rcases o2 with _ | k3
  · replace h := h.1 rfl
    refine lv_astore_nN (lv' := [(3, .null), (0, .ref (P 0)), (1, .int v1), (2, .int v2)]) hx hb dX8_judge_5 rfl hl (by decide) rfl (fun ls hl => ?_)
    refine lv_aload_n hx hb dX8_judge_6 rfl (lv_at hl 1 rfl) ?_
    refine g_get (v := .ref (P 1)) hx hb hts inG_X8 hown hK hP (kX_lt (rfl : kdX 0 = 8)) (eX8 (rfl : kdX 0 = 8)) rfl 0 (by decide) G_fl_X8_12 rfl rfl dX8_judge_7 ?_
    refine lv_iload_n hx hb dX8_judge_10 rfl (lv_at hl 3 rfl) ?_
    refine va_callq (va_runV (As := [.int _]) (rest := []) ⟨hx, hb, hml, hown, hts⟩ (c_X6_at l hI (rfl : kdX 1 = 6) h) (cwV 1 hts gv_X8_97 rfl rfl rfl hv_X6_at ⟨Nat.le_of_ble_eq_true rfl, Nat.le_of_ble_eq_true rfl⟩) (preV_X hKX hP hS (kX_lt (rfl : kdX 1 = 6)) (eX6 (rfl : kdX 1 = 6)) rfl) rfl rfl hl.1 rfl (lv_room (Nat.le_of_ble_eq_true rfl)) dX8_judge_11 ⟨Nat.le_of_ble_eq_true rfl, Nat.le_of_ble_eq_true rfl⟩) hS (fun _ _ h => h) (fun _ h => h) (fun q S5 t H locs ht _ h hB _ _ hS => ?_)
    have hP : VX dC dI cA P S5 H := by rw [← ht]; exact hB
    obtain ⟨o6, rfl, hko, h⟩ := h
    rcases o6 with _ | k7
    · replace h := h.1 rfl
      refine lv_astoreN (lv' := [(4, .null), (3, .null), (0, .ref (P 0)), (1, .int v1), (2, .int v2)]) hx hb dX8_judge_14 hl (by decide) rfl (fun ls hl => ?_)
      refine lv_aload_nN hx hb dX8_judge_16 rfl (lv_at hl 1 rfl) ?_
      refine lv_ifnullN (tgt := 25) hx hb dX8_judge_17 (by decide) ?_
      refine lv_iconst (v := (-1)) hx hb dX8_judge_25 (by decide) ?_
      exact g_iret hx hb hr hlocks h hP hS dX8_judge_26
    · have hk8 := hko k7 rfl
      replace h := h.2 k7 rfl
      refine lv_astore (lv' := [(4, .ref (P k7)), (3, .null), (0, .ref (P 0)), (1, .int v1), (2, .int v2)]) hx hb dX8_judge_14 hl (by decide) rfl (fun ls hl => ?_)
      refine lv_aload_nN hx hb dX8_judge_16 rfl (lv_at hl 1 rfl) ?_
      refine lv_ifnullN (tgt := 25) hx hb dX8_judge_17 (by decide) ?_
      refine lv_iconst (v := (-1)) hx hb dX8_judge_25 (by decide) ?_
      exact g_iret hx hb hr hlocks h hP hS dX8_judge_26
  · have hk4 := hko k3 rfl
    replace h := h.2 k3 rfl
    refine lv_astore_n (lv' := [(3, .ref (P k3)), (0, .ref (P 0)), (1, .int v1), (2, .int v2)]) hx hb dX8_judge_5 rfl hl (by decide) rfl (fun ls hl => ?_)
    refine lv_aload_n hx hb dX8_judge_6 rfl (lv_at hl 1 rfl) ?_
    refine g_get (v := .ref (P 1)) hx hb hts inG_X8 hown hK hP (kX_lt (rfl : kdX 0 = 8)) (eX8 (rfl : kdX 0 = 8)) rfl 0 (by decide) G_fl_X8_12 rfl rfl dX8_judge_7 ?_
    refine lv_iload_n hx hb dX8_judge_10 rfl (lv_at hl 3 rfl) ?_
    refine va_callq (va_runV (As := [.int _]) (rest := []) ⟨hx, hb, hml, hown, hts⟩ (c_X6_at l hI (rfl : kdX 1 = 6) h) (cwV 1 hts gv_X8_97 rfl rfl rfl hv_X6_at ⟨Nat.le_of_ble_eq_true rfl, Nat.le_of_ble_eq_true rfl⟩) (preV_X hKX hP hS (kX_lt (rfl : kdX 1 = 6)) (eX6 (rfl : kdX 1 = 6)) rfl) rfl rfl hl.1 rfl (lv_room (Nat.le_of_ble_eq_true rfl)) dX8_judge_11 ⟨Nat.le_of_ble_eq_true rfl, Nat.le_of_ble_eq_true rfl⟩) hS (fun _ _ h => h) (fun _ h => h) (fun q S9 t H locs ht _ h hB _ _ hS => ?_)
    have hP : VX dC dI cA P S9 H := by rw [← ht]; exact hB
    obtain ⟨o10, rfl, hko, h⟩ := h
    rcases o10 with _ | k11
    · replace h := h.1 rfl
      refine lv_astoreN (lv' := [(4, .null), (3, .ref (P k3)), (0, .ref (P 0)), (1, .int v1), (2, .int v2)]) hx hb dX8_judge_14 hl (by decide) rfl (fun ls hl => ?_)
      refine lv_aload_n hx hb dX8_judge_16 rfl (lv_at hl 1 rfl) ?_
      refine lv_ifnull hx hb dX8_judge_17 ?_
      refine lv_aloadN hx hb dX8_judge_20 (lv_at hl 0 rfl) ?_
      refine lv_ifnonnullN hx hb dX8_judge_22 ?_
      refine lv_iconst (v := (-1)) hx hb dX8_judge_25 (by decide) ?_
      exact g_iret hx hb hr hlocks h hP hS dX8_judge_26
    · have hk12 := hko k11 rfl
      replace h := h.2 k11 rfl
      refine lv_astore (lv' := [(4, .ref (P k11)), (3, .ref (P k3)), (0, .ref (P 0)), (1, .int v1), (2, .int v2)]) hx hb dX8_judge_14 hl (by decide) rfl (fun ls hl => ?_)
      refine lv_aload_n hx hb dX8_judge_16 rfl (lv_at hl 1 rfl) ?_
      refine lv_ifnull hx hb dX8_judge_17 ?_
      refine lv_aload hx hb dX8_judge_20 (lv_at hl 0 rfl) ?_
      refine lv_ifnonnull (tgt := 27) hx hb dX8_judge_22 (by decide) ?_
      refine lv_aload_n hx hb dX8_judge_27 rfl (lv_at hl 1 rfl) ?_
      refine lv_iconst (v := 2) hx hb dX8_judge_28 (by decide) ?_
      refine va_calli (va_runV (As := [.int _]) (rest := []) ⟨hx, hb, hml, hown, hts⟩ (c_X2_refusalAs l hI hk4 h) (cwV 1 hts gv_X8_263 rfl rfl rfl hv_X2_refusalAs ⟨Nat.le_of_ble_eq_true rfl, Nat.le_of_ble_eq_true rfl⟩) (preV_X hKX hP hS (kX_lt hk4) (eX2 hk4) rfl) rfl rfl hl.1 rfl (lv_room (Nat.le_of_ble_eq_true rfl)) dX8_judge_29 ⟨Nat.le_of_ble_eq_true rfl, Nat.le_of_ble_eq_true rfl⟩) hS (fun _ _ h => h) (fun _ h => h) (fun r14 S13 t H locs ht _ h hB _ _ hS => ?_)
      have hP : VX dC dI cA P S13 H := by rw [← ht]; exact hB
      refine lv_istore (lv' := [(5, .int r14), (4, .ref (P k11)), (3, .ref (P k3)), (0, .ref (P 0)), (1, .int v1), (2, .int v2)]) hx hb dX8_judge_32 hl (by decide) rfl (fun ls hl => ?_)
      refine lv_iload hx hb dX8_judge_34 (lv_at hl 0 rfl) ?_
      refine lv_if_eq (tgt := 42) hx hb dX8_judge_36 (by decide) (fun c15 => ?_) (fun c15 => ?_)
      · replace h := h.1 c15
        refine lv_aload_n hx hb dX8_judge_42 rfl (lv_at hl 2 rfl) ?_
        refine lv_aload hx hb dX8_judge_43 (lv_at hl 1 rfl) ?_
        refine va_calli (va_runV (As := [.ref _]) (rest := []) ⟨hx, hb, hml, hown, hts⟩ (c_X2_firstUnlike l hI hk4 hk12 h) (cwV 1 hts gv_X8_278 rfl rfl rfl hv_X2_firstUnlike ⟨Nat.le_of_ble_eq_true rfl, Nat.le_of_ble_eq_true rfl⟩) (preV_X hKX hP hS (kX_lt hk4) (eX2 hk4) rfl) rfl rfl hl.1 rfl (lv_room (Nat.le_of_ble_eq_true rfl)) dX8_judge_45 ⟨Nat.le_of_ble_eq_true rfl, Nat.le_of_ble_eq_true rfl⟩) hS (fun _ _ h => h) (fun _ h => h) (fun r17 S16 t H locs ht _ h hB _ _ hS => ?_)
        have hP : VX dC dI cA P S16 H := by rw [← ht]; exact hB
        exact g_iret hx hb hr hlocks h hP hS dX8_judge_48
      · replace h := h.2 c15
        refine lv_iload hx hb dX8_judge_39 (lv_at hl 0 rfl) ?_
        exact g_iret hx hb hr hlocks h hP hS dX8_judge_41
set_option maxRecDepth 100000 in
set_option maxHeartbeats 4000000 in
theorem c_X8_image (l : Launch) {dC : Nat → ClassId} {dI : Nat → Nat → Nat} {cA : Nat → ClassId} {adK adV P : Nat → Nat} (hI : PInj 56 P)   {post : Int32 → St → Prop} {S : St} (h : w_X8_image  post S) : Met l yX8_image (wW yX8_image cX8_image 1 (some .int)) ({ frames := 2, cells := 0, slots := 0, locals := 44 } : Room) (va_Pc [.ref (P 0)] (PreX dC dI cA adK adV P S)) (va_Qi post (fun u t => VX dC dI cA P u t.heap) (PA 56 P)) 0 0 (PA 56 P) := by
  refine Met.ofW (cc := cX8_image) (maxL := 1) (ret := (some .int)) (by decide) rfl ?_
  intro p e s m args below meth c s₁ B hml hv
  obtain ⟨rfl, hP, hKX⟩ := hv
  have hts : ∀ w ∈ G, w.before [.ref (P 0)].toArray s = true := fun w hw => atoms_spec (ws := wW yX8_image cX8_image 1 (some .int)) B.pre w (List.mem_cons_of_mem _ hw)
  have C : CtxX dC dI cA adK adV P p s m [.ref (P 0)].toArray meth c cX8_image 1 (some .int) RX8 := ⟨hI, hKX, ⟨B.exec, B.bytes, hml, findClass_of_methodNamed B.named, hts⟩, B.returns, B.notSynchronized⟩
  obtain ⟨hI, hKX, ⟨hx, hb, hml, hown, hts⟩, hr, hlocks⟩ := id C
  have hK := hKX.1
  have hS : va_S (PA 56 P) s.heap s.heap [] := va_S.rf
  have hl := lv_entry ([.ref (P 0)]) (n := 1) (Nat.le_of_ble_eq_true rfl)
  rw [lg_entry_eq]
  generalize (lg_sl ([.ref (P 0)]) ++ List.replicate (1 - (lg_sl ([.ref (P 0)])).length) Slot.unset).toArray = ls at hl ⊢
  have hl : lv_has ls 1 [(0, .ref (P 0))] := hl
  rw [w_X8_image] at h
  refine lv_aload_n hx hb dX8_image_0 rfl (lv_at hl 0 rfl) ?_
  refine g_get (v := .ref (P 11)) hx hb hts inG_X8 hown hK hP (kX_lt (rfl : kdX 0 = 8)) (eX8 (rfl : kdX 0 = 8)) rfl 6 (by decide) G_fl_X8_52 rfl rfl dX8_image_1 ?_
  refine lv_aload_n hx hb dX8_image_4 rfl (lv_at hl 0 rfl) ?_
  refine g_get (v := .ref (P 1)) hx hb hts inG_X8 hown hK hP (kX_lt (rfl : kdX 0 = 8)) (eX8 (rfl : kdX 0 = 8)) rfl 0 (by decide) G_fl_X8_12 rfl rfl dX8_image_5 ?_
  refine va_callv (va_runV (As := [.ref _]) (rest := []) ⟨hx, hb, hml, hown, hts⟩ (c_X6_becomeLike l hI (rfl : kdX 11 = 6) (rfl : kdX 1 = 6) h) (cwV 1 hts gv_X8_282 rfl rfl rfl hv_X6_becomeLike ⟨Nat.le_of_ble_eq_true rfl, Nat.le_of_ble_eq_true rfl⟩) (preV_X hKX hP hS (kX_lt (rfl : kdX 11 = 6)) (eX6 (rfl : kdX 11 = 6)) rfl) rfl rfl hl.1 rfl (lv_room (Nat.le_of_ble_eq_true rfl)) dX8_image_8 ⟨Nat.le_of_ble_eq_true rfl, Nat.le_of_ble_eq_true rfl⟩) hS (fun _ _ h => h) (fun _ h => h) (fun S1 t H locs ht _ h hB _ _ hS => ?_)
  have hP : VX dC dI cA P S1 H := by rw [← ht]; exact hB
  refine lv_aload_n hx hb dX8_image_11 rfl (lv_at hl 0 rfl) ?_
  refine g_get (v := .ref (P 24)) hx hb hts inG_X8 hown hK hP (kX_lt (rfl : kdX 0 = 8)) (eX8 (rfl : kdX 0 = 8)) rfl 7 (by decide) G_fl_X8_55 rfl rfl dX8_image_12 ?_
  refine lv_aload_n hx hb dX8_image_15 rfl (lv_at hl 0 rfl) ?_
  refine g_get (v := .ref (P 21)) hx hb hts inG_X8 hown hK hP (kX_lt (rfl : kdX 0 = 8)) (eX8 (rfl : kdX 0 = 8)) rfl 1 (by decide) G_fl_X8_21 rfl rfl dX8_image_16 ?_
  refine va_callv (va_runV (As := [.ref _]) (rest := []) ⟨hx, hb, hml, hown, hts⟩ (c_X0_becomeLike l hI (rfl : kdX 24 = 0) (rfl : kdX 21 = 0) h) (cwV 1 hts gv_X8_286 rfl rfl rfl hv_X0_becomeLike ⟨Nat.le_of_ble_eq_true rfl, Nat.le_of_ble_eq_true rfl⟩) (preV_X hKX hP hS (kX_lt (rfl : kdX 24 = 0)) (eX0 (rfl : kdX 24 = 0)) rfl) rfl rfl hl.1 rfl (lv_room (Nat.le_of_ble_eq_true rfl)) dX8_image_19 ⟨Nat.le_of_ble_eq_true rfl, Nat.le_of_ble_eq_true rfl⟩) hS (fun _ _ h => h) (fun _ h => h) (fun S2 t H locs ht _ h hB _ _ hS => ?_)
  have hP : VX dC dI cA P S2 H := by rw [← ht]; exact hB
  refine lv_aload_n hx hb dX8_image_22 rfl (lv_at hl 0 rfl) ?_
  refine lv_iconst (v := 1) hx hb dX8_image_23 (by decide) ?_
  refine g_putI hx hb hts inG_X8 tyX8 tyX8_ok nmX8 hown hK hI hP hS (kX_lt (rfl : kdX 0 = 8)) (eX8 (rfl : kdX 0 = 8)) rfl 8 (by decide) G_fl_X8_58 rfl rfl (ty := .boolean) (by decide +kernel) bz_1.1 bz_1.2 (Nat.le_of_ble_eq_true rfl) rfl h dX8_image_24 (fun S3 H locs h hP hS => ?_)
  refine lv_aload_n hx hb dX8_image_27 rfl (lv_at hl 0 rfl) ?_
  refine g_get (v := .ref (P 1)) hx hb hts inG_X8 hown hK hP (kX_lt (rfl : kdX 0 = 8)) (eX8 (rfl : kdX 0 = 8)) rfl 0 (by decide) G_fl_X8_12 rfl rfl dX8_image_28 ?_
  refine g_get (v := .int (S3.1 1 1)) hx hb hts inG_X6 hown hK hP (kX_lt (rfl : kdX 1 = 6)) (eX6 (rfl : kdX 1 = 6)) rfl 1 (by decide) G_fl_X8_289 rfl rfl dX8_image_31 ?_
  exact g_iret hx hb hr hlocks h hP hS dX8_image_34
set_option maxRecDepth 100000 in
set_option maxHeartbeats 4000000 in
theorem c_X8_undo (l : Launch) {dC : Nat → ClassId} {dI : Nat → Nat → Nat} {cA : Nat → ClassId} {adK adV P : Nat → Nat} (hI : PInj 56 P)   {post : Int32 → St → Prop} {S : St} (h : w_X8_undo  post S) : Met l yX8_undo (wW yX8_undo cX8_undo 1 (some .int)) ({ frames := 2, cells := 0, slots := 0, locals := 44 } : Room) (va_Pc [.ref (P 0)] (PreX dC dI cA adK adV P S)) (va_Qi post (fun u t => VX dC dI cA P u t.heap) (PA 56 P)) 0 0 (PA 56 P) := by
  refine Met.ofW (cc := cX8_undo) (maxL := 1) (ret := (some .int)) (by decide) rfl ?_
  intro p e s m args below meth c s₁ B hml hv
  obtain ⟨rfl, hP, hKX⟩ := hv
  have hts : ∀ w ∈ G, w.before [.ref (P 0)].toArray s = true := fun w hw => atoms_spec (ws := wW yX8_undo cX8_undo 1 (some .int)) B.pre w (List.mem_cons_of_mem _ hw)
  have C : CtxX dC dI cA adK adV P p s m [.ref (P 0)].toArray meth c cX8_undo 1 (some .int) RX8 := ⟨hI, hKX, ⟨B.exec, B.bytes, hml, findClass_of_methodNamed B.named, hts⟩, B.returns, B.notSynchronized⟩
  obtain ⟨hI, hKX, ⟨hx, hb, hml, hown, hts⟩, hr, hlocks⟩ := id C
  have hK := hKX.1
  have hS : va_S (PA 56 P) s.heap s.heap [] := va_S.rf
  have hl := lv_entry ([.ref (P 0)]) (n := 1) (Nat.le_of_ble_eq_true rfl)
  rw [lg_entry_eq]
  generalize (lg_sl ([.ref (P 0)]) ++ List.replicate (1 - (lg_sl ([.ref (P 0)])).length) Slot.unset).toArray = ls at hl ⊢
  have hl : lv_has ls 1 [(0, .ref (P 0))] := hl
  rw [w_X8_undo] at h
  refine lv_aload_n hx hb dX8_undo_0 rfl (lv_at hl 0 rfl) ?_
  refine g_get (v := .int (S.1 0 8)) hx hb hts inG_X8 hown hK hP (kX_lt (rfl : kdX 0 = 8)) (eX8 (rfl : kdX 0 = 8)) rfl 8 (by decide) G_fl_X8_58 rfl rfl dX8_undo_1 ?_
  refine lv_if_ne (tgt := 10) hx hb dX8_undo_4 (by decide) (fun c1 => ?_) (fun c1 => ?_)
  · replace h := h.2 c1
    refine lv_aload_n hx hb dX8_undo_10 rfl (lv_at hl 0 rfl) ?_
    refine g_get (v := .ref (P 1)) hx hb hts inG_X8 hown hK hP (kX_lt (rfl : kdX 0 = 8)) (eX8 (rfl : kdX 0 = 8)) rfl 0 (by decide) G_fl_X8_12 rfl rfl dX8_undo_11 ?_
    refine lv_aload_n hx hb dX8_undo_14 rfl (lv_at hl 0 rfl) ?_
    refine g_get (v := .ref (P 11)) hx hb hts inG_X8 hown hK hP (kX_lt (rfl : kdX 0 = 8)) (eX8 (rfl : kdX 0 = 8)) rfl 6 (by decide) G_fl_X8_52 rfl rfl dX8_undo_15 ?_
    refine va_callv (va_runV (As := [.ref _]) (rest := []) ⟨hx, hb, hml, hown, hts⟩ (c_X6_becomeLike l hI (rfl : kdX 1 = 6) (rfl : kdX 11 = 6) h) (cwV 1 hts gv_X8_282 rfl rfl rfl hv_X6_becomeLike ⟨Nat.le_of_ble_eq_true rfl, Nat.le_of_ble_eq_true rfl⟩) (preV_X hKX hP hS (kX_lt (rfl : kdX 1 = 6)) (eX6 (rfl : kdX 1 = 6)) rfl) rfl rfl hl.1 rfl (lv_room (Nat.le_of_ble_eq_true rfl)) dX8_undo_18 ⟨Nat.le_of_ble_eq_true rfl, Nat.le_of_ble_eq_true rfl⟩) hS (fun _ _ h => h) (fun _ h => h) (fun S2 t H locs ht _ h hB _ _ hS => ?_)
    have hP : VX dC dI cA P S2 H := by rw [← ht]; exact hB
    refine lv_aload_n hx hb dX8_undo_21 rfl (lv_at hl 0 rfl) ?_
    refine g_get (v := .ref (P 21)) hx hb hts inG_X8 hown hK hP (kX_lt (rfl : kdX 0 = 8)) (eX8 (rfl : kdX 0 = 8)) rfl 1 (by decide) G_fl_X8_21 rfl rfl dX8_undo_22 ?_
    refine lv_aload_n hx hb dX8_undo_25 rfl (lv_at hl 0 rfl) ?_
    refine g_get (v := .ref (P 24)) hx hb hts inG_X8 hown hK hP (kX_lt (rfl : kdX 0 = 8)) (eX8 (rfl : kdX 0 = 8)) rfl 7 (by decide) G_fl_X8_55 rfl rfl dX8_undo_26 ?_
    refine va_callv (va_runV (As := [.ref _]) (rest := []) ⟨hx, hb, hml, hown, hts⟩ (c_X0_becomeLike l hI (rfl : kdX 21 = 0) (rfl : kdX 24 = 0) h) (cwV 1 hts gv_X8_286 rfl rfl rfl hv_X0_becomeLike ⟨Nat.le_of_ble_eq_true rfl, Nat.le_of_ble_eq_true rfl⟩) (preV_X hKX hP hS (kX_lt (rfl : kdX 21 = 0)) (eX0 (rfl : kdX 21 = 0)) rfl) rfl rfl hl.1 rfl (lv_room (Nat.le_of_ble_eq_true rfl)) dX8_undo_29 ⟨Nat.le_of_ble_eq_true rfl, Nat.le_of_ble_eq_true rfl⟩) hS (fun _ _ h => h) (fun _ h => h) (fun S3 t H locs ht _ h hB _ _ hS => ?_)
    have hP : VX dC dI cA P S3 H := by rw [← ht]; exact hB
    refine lv_aload_n hx hb dX8_undo_32 rfl (lv_at hl 0 rfl) ?_
    refine g_get (v := .ref (P 1)) hx hb hts inG_X8 hown hK hP (kX_lt (rfl : kdX 0 = 8)) (eX8 (rfl : kdX 0 = 8)) rfl 0 (by decide) G_fl_X8_12 rfl rfl dX8_undo_33 ?_
    refine g_get (v := .int (S3.1 1 1)) hx hb hts inG_X6 hown hK hP (kX_lt (rfl : kdX 1 = 6)) (eX6 (rfl : kdX 1 = 6)) rfl 1 (by decide) G_fl_X8_289 rfl rfl dX8_undo_36 ?_
    exact g_iret hx hb hr hlocks h hP hS dX8_undo_39
  · replace h := h.1 c1
    refine lv_bipush (v := (-5)) hx hb dX8_undo_7 (by decide) ?_
    exact g_iret hx hb hr hlocks h hP hS dX8_undo_9
set_option maxRecDepth 100000 in
set_option maxHeartbeats 4000000 in
theorem c_X8_count (l : Launch) {dC : Nat → ClassId} {dI : Nat → Nat → Nat} {cA : Nat → ClassId} {adK adV P : Nat → Nat} (hI : PInj 56 P) {v1 : Int32}  {post : Int32 → St → Prop} {S : St} (h : w_X8_count v1 post S) : Met l yX8_count (wW yX8_count cX8_count 2 (some .int)) ({ frames := 0, cells := 0, slots := 0, locals := 0 } : Room) (va_Pc [.ref (P 0), .int v1] (PreX dC dI cA adK adV P S)) (va_Qi post (fun u t => VX dC dI cA P u t.heap) (PA 56 P)) 0 0 (PA 56 P) := by
  refine Met.ofW (cc := cX8_count) (maxL := 2) (ret := (some .int)) (by decide) rfl ?_
  intro p e s m args below meth c s₁ B hml hv
  obtain ⟨rfl, hP, hKX⟩ := hv
  have hts : ∀ w ∈ G, w.before [.ref (P 0), .int v1].toArray s = true := fun w hw => atoms_spec (ws := wW yX8_count cX8_count 2 (some .int)) B.pre w (List.mem_cons_of_mem _ hw)
  have C : CtxX dC dI cA adK adV P p s m [.ref (P 0), .int v1].toArray meth c cX8_count 2 (some .int) RX8 := ⟨hI, hKX, ⟨B.exec, B.bytes, hml, findClass_of_methodNamed B.named, hts⟩, B.returns, B.notSynchronized⟩
  obtain ⟨hI, hKX, ⟨hx, hb, hml, hown, hts⟩, hr, hlocks⟩ := id C
  have hK := hKX.1
  have hS : va_S (PA 56 P) s.heap s.heap [] := va_S.rf
  have hl := lv_entry ([.ref (P 0), .int v1]) (n := 2) (Nat.le_of_ble_eq_true rfl)
  rw [lg_entry_eq]
  generalize (lg_sl ([.ref (P 0), .int v1]) ++ List.replicate (2 - (lg_sl ([.ref (P 0), .int v1])).length) Slot.unset).toArray = ls at hl ⊢
  have hl : lv_has ls 2 [(0, .ref (P 0)), (1, .int v1)] := hl
  rw [w_X8_count] at h
  refine lv_iload_n hx hb dX8_count_0 rfl (lv_at hl 1 rfl) ?_
  by_cases c1 : v1 = 0
  · replace h := h.1 c1
    refine lv_tableIn (tgt := 32) hx hb dX8_count_1 (by rw [c1]; decide) (by rw [c1]; decide) (by rw [c1]; rfl) (by decide) ?_
    refine lv_aload_n hx hb dX8_count_32 rfl (lv_at hl 0 rfl) ?_
    refine g_get (v := .ref (P 1)) hx hb hts inG_X8 hown hK hP (kX_lt (rfl : kdX 0 = 8)) (eX8 (rfl : kdX 0 = 8)) rfl 0 (by decide) G_fl_X8_12 rfl rfl dX8_count_33 ?_
    refine g_get (v := .int (S.1 1 1)) hx hb hts inG_X6 hown hK hP (kX_lt (rfl : kdX 1 = 6)) (eX6 (rfl : kdX 1 = 6)) rfl 1 (by decide) G_fl_X8_289 rfl rfl dX8_count_36 ?_
    exact g_iret hx hb hr hlocks h hP hS dX8_count_39
  replace h := h.2 c1
  by_cases c2 : v1 = 1
  · replace h := h.1 c2
    refine lv_tableIn (tgt := 40) hx hb dX8_count_1 (by rw [c2]; decide) (by rw [c2]; decide) (by rw [c2]; rfl) (by decide) ?_
    refine lv_aload_n hx hb dX8_count_40 rfl (lv_at hl 0 rfl) ?_
    refine g_get (v := .ref (P 21)) hx hb hts inG_X8 hown hK hP (kX_lt (rfl : kdX 0 = 8)) (eX8 (rfl : kdX 0 = 8)) rfl 1 (by decide) G_fl_X8_21 rfl rfl dX8_count_41 ?_
    refine g_get (v := .int (S.1 21 1)) hx hb hts inG_X0 hown hK hP (kX_lt (rfl : kdX 21 = 0)) (eX0 (rfl : kdX 21 = 0)) rfl 1 (by decide) G_fl_X8_195 rfl rfl dX8_count_44 ?_
    exact g_iret hx hb hr hlocks h hP hS dX8_count_47
  replace h := h.2 c2
  by_cases c3 : v1 = 2
  · replace h := h.1 c3
    refine lv_tableIn (tgt := 48) hx hb dX8_count_1 (by rw [c3]; decide) (by rw [c3]; decide) (by rw [c3]; rfl) (by decide) ?_
    refine lv_aload_n hx hb dX8_count_48 rfl (lv_at hl 0 rfl) ?_
    refine g_get (v := .ref (P 21)) hx hb hts inG_X8 hown hK hP (kX_lt (rfl : kdX 0 = 8)) (eX8 (rfl : kdX 0 = 8)) rfl 1 (by decide) G_fl_X8_21 rfl rfl dX8_count_49 ?_
    refine g_get (v := .int (S.1 21 2)) hx hb hts inG_X0 hown hK hP (kX_lt (rfl : kdX 21 = 0)) (eX0 (rfl : kdX 21 = 0)) rfl 2 (by decide) G_fl_X8_290 rfl rfl dX8_count_52 ?_
    exact g_iret hx hb hr hlocks h hP hS dX8_count_55
  replace h := h.2 c3
  by_cases c4 : v1 = 3
  · replace h := h.1 c4
    refine lv_tableIn (tgt := 56) hx hb dX8_count_1 (by rw [c4]; decide) (by rw [c4]; decide) (by rw [c4]; rfl) (by decide) ?_
    refine lv_aload_n hx hb dX8_count_56 rfl (lv_at hl 0 rfl) ?_
    refine g_get (v := .ref (P 27)) hx hb hts inG_X8 hown hK hP (kX_lt (rfl : kdX 0 = 8)) (eX8 (rfl : kdX 0 = 8)) rfl 2 (by decide) G_fl_X8_28 rfl rfl dX8_count_57 ?_
    refine g_get (v := .int (S.1 27 1)) hx hb hts inG_X7 hown hK hP (kX_lt (rfl : kdX 27 = 7)) (eX7 (rfl : kdX 27 = 7)) rfl 1 (by decide) G_fl_X8_226 rfl rfl dX8_count_60 ?_
    exact g_iret hx hb hr hlocks h hP hS dX8_count_63
  replace h := h.2 c4
  refine lv_tableOut (tgt := 64) hx hb dX8_count_1 (by have := lv_neT c1 (a := 0) (by decide); have := lv_neT c2 (a := 1) (by decide); have := lv_neT c3 (a := 2) (by decide); have := lv_neT c4 (a := 3) (by decide); omega) (by decide) ?_
  refine lv_iconst (v := (-1)) hx hb dX8_count_64 (by decide) ?_
  exact g_iret hx hb hr hlocks h hP hS dX8_count_65
