/-! constructors: what is there behind them -/
def nw1 (cA : Nat → ClassId) (h : Nat) (u : Unit) : va_W := [(h, .inr (1, [.int 0, .int 1, .int 10, .int 0, .int 1, .int 0, .int 1]))]
def nw0 (cA : Nat → ClassId) (h : Nat) (u : Nat × Nat) : va_W := [(h, .inr (0, [.ref u.1, .int 0, .int 10, .ref u.2])), (u.1, .inl (cA 0, 399, .inl (fun _ => 0))), (u.2, .inr (1, [.int 0, .int 1, .int 10, .int 0, .int 1, .int 0, .int 1]))]
def nw7 (cA : Nat → ClassId) (h : Nat) (u : Nat) : va_W := [(h, .inr (7, [.ref u, .int 0, .int 0, .long 0])), (u, .inl (cA 0, 80, .inl (fun _ => 0)))]
def nw3 (cA : Nat → ClassId) (h : Nat) (u : Unit) : va_W := [(h, .inr (3, [.long 0, .long 1]))]
def nw5 (cA : Nat → ClassId) (h : Nat) (u : Nat × Nat) : va_W := [(h, .inr (5, [.ref u.1, .ref u.2, .int 0])), (u.1, .inl (cA 0, 14, .inl (fun _ => 0))), (u.2, .inl (cA 0, 42, .inl (fun _ => 0)))]
def nw2 (cA : Nat → ClassId) (h : Nat) (u : Nat × Nat) : va_W := [(h, .inr (2, [.int 0, .ref u.1, .ref u.2, .int 0])), (u.1, .inr (1, [.int 0, .int 1, .int 10, .int 0, .int 1, .int 0, .int 1])), (u.2, .inl (cA 0, 40, .inl (fun _ => 0)))]
def nw4 (cA : Nat → ClassId) (h : Nat) (u : Nat) : va_W := [(h, .inr (4, [.ref u, .int 0])), (u, .inl (cA 0, 999, .inl (fun _ => 0)))]
def nw6 (cA : Nat → ClassId) (h : Nat) (u : Nat × (Nat → Nat)) : va_W := (h, .inr (6, [.ref u.1, .int 0])) :: (u.1, .inl (cA 2, 8, .inr (.inr (.inr (.inr (fun j => some (u.2 j))))))) :: plX (fun q => nw1 cA q ()) 8 u.2
theorem df_X0 : ∀ j, j < 4 → defaultValue (tyX0 j) = vp_V [.null, .int 0, .int 0, .null] j := by
  intro j hj
  rcases (show j = 0 ∨ j = 1 ∨ j = 2 ∨ j = 3 by omega) with rfl | rfl | rfl | rfl <;> rfl
theorem df_X1 : ∀ j, j < 7 → defaultValue (tyX1 j) = vp_V [.int 0, .int 0, .int 0, .int 0, .int 0, .int 0, .int 0] j := by
  intro j hj
  rcases (show j = 0 ∨ j = 1 ∨ j = 2 ∨ j = 3 ∨ j = 4 ∨ j = 5 ∨ j = 6 by omega) with rfl | rfl | rfl | rfl | rfl | rfl | rfl <;> rfl
theorem df_X2 : ∀ j, j < 4 → defaultValue (tyX2 j) = vp_V [.int 0, .null, .null, .int 0] j := by
  intro j hj
  rcases (show j = 0 ∨ j = 1 ∨ j = 2 ∨ j = 3 by omega) with rfl | rfl | rfl | rfl <;> rfl
theorem df_X3 : ∀ j, j < 2 → defaultValue (tyX3 j) = vp_V [.long 0, .long 0] j := by
  intro j hj
  rcases (show j = 0 ∨ j = 1 by omega) with rfl | rfl <;> rfl
theorem df_X4 : ∀ j, j < 2 → defaultValue (tyX4 j) = vp_V [.null, .int 0] j := by
  intro j hj
  rcases (show j = 0 ∨ j = 1 by omega) with rfl | rfl <;> rfl
theorem df_X5 : ∀ j, j < 3 → defaultValue (tyX5 j) = vp_V [.null, .null, .int 0] j := by
  intro j hj
  rcases (show j = 0 ∨ j = 1 ∨ j = 2 by omega) with rfl | rfl | rfl <;> rfl
theorem df_X6 : ∀ j, j < 2 → defaultValue (tyX6 j) = vp_V [.null, .int 0] j := by
  intro j hj
  rcases (show j = 0 ∨ j = 1 by omega) with rfl | rfl <;> rfl
theorem df_X7 : ∀ j, j < 4 → defaultValue (tyX7 j) = vp_V [.null, .int 0, .int 0, .long 0] j := by
  intro j hj
  rcases (show j = 0 ∨ j = 1 ∨ j = 2 ∨ j = 3 by omega) with rfl | rfl | rfl | rfl <;> rfl
theorem df_X8 : ∀ j, j < 12 → defaultValue (tyX8 j) = vp_V [.null, .null, .null, .null, .null, .null, .null, .null, .int 0, .null, .null, .null] j := by
  intro j hj
  rcases (show j = 0 ∨ j = 1 ∨ j = 2 ∨ j = 3 ∨ j = 4 ∨ j = 5 ∨ j = 6 ∨ j = 7 ∨ j = 8 ∨ j = 9 ∨ j = 10 ∨ j = 11 by omega) with rfl | rfl | rfl | rfl | rfl | rfl | rfl | rfl | rfl | rfl | rfl | rfl <;> rfl
theorem df_X9 : ∀ j, j < 44 → defaultValue (tyX9 j) = vp_V [.int 0, .null, .null, .null, .int 0, .int 0, .int 0, .null, .null, .null, .null, .int 0, .null, .int 0, .int 0, .int 0, .null, .null, .null, .null, .null, .int 0, .int 0, .int 0, .long 0, .long 0, .int 0, .long 0, .long 0, .null, .null, .null, .null, .null, .null, .null, .int 0, .int 0, .null, .null, .null, .int 0, .int 0, .null] j := by
  intro j hj
  rcases (show j = 0 ∨ j = 1 ∨ j = 2 ∨ j = 3 ∨ j = 4 ∨ j = 5 ∨ j = 6 ∨ j = 7 ∨ j = 8 ∨ j = 9 ∨ j = 10 ∨ j = 11 ∨ j = 12 ∨ j = 13 ∨ j = 14 ∨ j = 15 ∨ j = 16 ∨ j = 17 ∨ j = 18 ∨ j = 19 ∨ j = 20 ∨ j = 21 ∨ j = 22 ∨ j = 23 ∨ j = 24 ∨ j = 25 ∨ j = 26 ∨ j = 27 ∨ j = 28 ∨ j = 29 ∨ j = 30 ∨ j = 31 ∨ j = 32 ∨ j = 33 ∨ j = 34 ∨ j = 35 ∨ j = 36 ∨ j = 37 ∨ j = 38 ∨ j = 39 ∨ j = 40 ∨ j = 41 ∨ j = 42 ∨ j = 43 by omega) with rfl | rfl | rfl | rfl | rfl | rfl | rfl | rfl | rfl | rfl | rfl | rfl | rfl | rfl | rfl | rfl | rfl | rfl | rfl | rfl | rfl | rfl | rfl | rfl | rfl | rfl | rfl | rfl | rfl | rfl | rfl | rfl | rfl | rfl | rfl | rfl | rfl | rfl | rfl | rfl | rfl | rfl | rfl | rfl <;> rfl
theorem har_int {args : Array Value} {s : State} (hts : ∀ w ∈ G, w.before args s = true) : (Cond.arrayClass .int).before args s = true := hts _ (mem_G 138 (by decide +kernel) (by decide +kernel))
theorem har_char {args : Array Value} {s : State} (hts : ∀ w ∈ G, w.before args s = true) : (Cond.arrayClass .char).before args s = true := hts _ (mem_G 942 (by decide +kernel) (by decide +kernel))
set_option maxRecDepth 100000 in
set_option maxHeartbeats 4000000 in
theorem c_X1_init (l : Launch) {dC : Nat → ClassId} {dI : Nat → Nat → Nat} {cA : Nat → ClassId} (h0 sz : Nat) : Met l yX1_init (wW yX1_init cX1_init 1 none) ({ frames := 1, cells := 0, slots := 0, locals := 12 } : Room) (va_Pc [.ref h0] (fun U => U.heap.size = sz ∧ va_P (dC, dI) vwCl [(h0, .inr (1, [.int 0, .int 0, .int 0, .int 0, .int 0, .int 0, .int 0]))] U.heap ∧ KN dC dI cA U)) (va_Qv (fun _ => True) (fun u t => va_P (dC, dI) vwCl (nw1 cA h0 u) t.heap ∧ va_D (va_A [(h0, .inr (1, [.int 0, .int 0, .int 0, .int 0, .int 0, .int 0, .int 0]))] sz) (nw1 cA h0 u)) (va_A [(h0, .inr (1, [.int 0, .int 0, .int 0, .int 0, .int 0, .int 0, .int 0]))] sz)) 0 0 (va_A [(h0, .inr (1, [.int 0, .int 0, .int 0, .int 0, .int 0, .int 0, .int 0]))] sz) := by
  refine Met.ofW (cc := cX1_init) (maxL := 1) (ret := none) (by decide) rfl ?_
  intro p e s m args below meth c s₁ B hml hv
  obtain ⟨rfl, hsz, hP, hKN⟩ := hv
  have hK := hKN.1
  have hts : ∀ w ∈ G, w.before [.ref h0].toArray s = true := fun w hw => atoms_spec (ws := wW yX1_init cX1_init 1 none) B.pre w (List.mem_cons_of_mem _ hw)
  have hx := B.exec
  have hb := B.bytes
  have hr := B.returns
  have hown : s.vm.findClass RX1 = some m.cls := findClass_of_methodNamed B.named
  have hlocks := B.notSynchronized
  have hin : meth.name = "<init>" := (name_of_methodNamed B.named B.method).1
  subst hsz
  have hD : va_D (va_A [(h0, .inr (1, [.int 0, .int 0, .int 0, .int 0, .int 0, .int 0, .int 0]))] s.heap.size) [(h0, .inr (1, [.int 0, .int 0, .int 0, .int 0, .int 0, .int 0, .int 0]))] := D_one _ _
  generalize hAe : va_A [(h0, .inr (1, [.int 0, .int 0, .int 0, .int 0, .int 0, .int 0, .int 0]))] s.heap.size = A at hD ⊢
  have hA : ∀ q : Nat, s.heap.size ≤ q → A q := fun q h => by rw [← hAe]; exact Or.inr h
  have hS : va_S A s.heap s.heap [] := va_S.rf
  have hl := lv_entry ([.ref h0]) (n := 1) (Nat.le_of_ble_eq_true rfl)
  rw [lg_entry_eq]
  generalize (lg_sl ([.ref h0]) ++ List.replicate (1 - (lg_sl ([.ref h0])).length) Slot.unset).toArray = ls at hl ⊢
  have hl : lv_has ls 1 [(0, .ref h0)] := hl
  refine lv_aload_n hx hb dX1_init_0 rfl (lv_at hl 0 rfl) ?_
  refine W.objInit hx hb hown (hts _ G_ml_X1_3) (hts _ G_im_objectInit) (hts _ G_cd_objectInit) rfl (by rw [hml]; exact hl.1) rfl dX1_init_1 (Nat.le_of_ble_eq_true rfl) (Nat.le_of_ble_eq_true rfl) ?_
  refine W.eq (g2 := F0 m 4 ls []) rfl ?_
  have hP : va_P (dC, dI) vwCl ((h0, .inr (1, [.int 0, .int 0, .int 0, .int 0, .int 0, .int 0, .int 0])) :: ([] : va_W)) s.heap := hP
  have hD : va_D A ((h0, .inr (1, [.int 0, .int 0, .int 0, .int 0, .int 0, .int 0, .int 0])) :: ([] : va_W)) := hD
  refine lv_aload_n hx hb dX1_init_4 rfl (lv_at hl 0 rfl) ?_
  refine lv_iconst (v := 0) hx hb dX1_init_5 (by decide) ?_
  refine va_put (ci := 1) (v := .int 0) (ty := .int) (C := RX1) (T := TX1) (N := 7) hx hb hts inG_X1 tyX1 tyX1_ok nmX1 hown hK hP hD hS 0 rfl rfl 0 (by decide) (hts _ G_fl_X1_9) (fun _ z => z) rfl (by decide +kernel) rfl rfl (Nat.le_of_ble_eq_true rfl) dX1_init_6 (fun H locs hP hD hS => ?_)
  have hP : va_P (dC, dI) vwCl (((h0, .inr (1, [.int 0, .int 0, .int 0, .int 0, .int 0, .int 0, .int 0])) :: ([] : va_W))) H := hP
  have hD : va_D A (((h0, .inr (1, [.int 0, .int 0, .int 0, .int 0, .int 0, .int 0, .int 0])) :: ([] : va_W))) := hD
  refine lv_aload_n hx hb dX1_init_9 rfl (lv_at hl 0 rfl) ?_
  refine lv_iconst (v := 1) hx hb dX1_init_10 (by decide) ?_
  refine va_put (ci := 1) (v := .int 1) (ty := .int) (C := RX1) (T := TX1) (N := 7) hx hb hts inG_X1 tyX1 tyX1_ok nmX1 hown hK hP hD hS 0 rfl rfl 1 (by decide) (hts _ G_fl_X1_15) (fun _ z => z) rfl (by decide +kernel) rfl rfl (Nat.le_of_ble_eq_true rfl) dX1_init_11 (fun H locs hP hD hS => ?_)
  have hP : va_P (dC, dI) vwCl (((h0, .inr (1, [.int 0, .int 1, .int 0, .int 0, .int 0, .int 0, .int 0])) :: ([] : va_W))) H := hP
  have hD : va_D A (((h0, .inr (1, [.int 0, .int 1, .int 0, .int 0, .int 0, .int 0, .int 0])) :: ([] : va_W))) := hD
  refine lv_aload_n hx hb dX1_init_14 rfl (lv_at hl 0 rfl) ?_
  refine lv_bipush (v := 10) hx hb dX1_init_15 (by decide) ?_
  refine va_put (ci := 1) (v := .int 10) (ty := .int) (C := RX1) (T := TX1) (N := 7) hx hb hts inG_X1 tyX1 tyX1_ok nmX1 hown hK hP hD hS 0 rfl rfl 2 (by decide) (hts _ G_fl_X1_18) (fun _ z => z) rfl (by decide +kernel) rfl rfl (Nat.le_of_ble_eq_true rfl) dX1_init_17 (fun H locs hP hD hS => ?_)
  have hP : va_P (dC, dI) vwCl (((h0, .inr (1, [.int 0, .int 1, .int 10, .int 0, .int 0, .int 0, .int 0])) :: ([] : va_W))) H := hP
  have hD : va_D A (((h0, .inr (1, [.int 0, .int 1, .int 10, .int 0, .int 0, .int 0, .int 0])) :: ([] : va_W))) := hD
  refine lv_aload_n hx hb dX1_init_20 rfl (lv_at hl 0 rfl) ?_
  refine lv_iconst (v := 0) hx hb dX1_init_21 (by decide) ?_
  refine va_put (ci := 1) (v := .int 0) (ty := .int) (C := RX1) (T := TX1) (N := 7) hx hb hts inG_X1 tyX1 tyX1_ok nmX1 hown hK hP hD hS 0 rfl rfl 3 (by decide) (hts _ G_fl_X1_21) (fun _ z => z) rfl (by decide +kernel) rfl rfl (Nat.le_of_ble_eq_true rfl) dX1_init_22 (fun H locs hP hD hS => ?_)
  have hP : va_P (dC, dI) vwCl (((h0, .inr (1, [.int 0, .int 1, .int 10, .int 0, .int 0, .int 0, .int 0])) :: ([] : va_W))) H := hP
  have hD : va_D A (((h0, .inr (1, [.int 0, .int 1, .int 10, .int 0, .int 0, .int 0, .int 0])) :: ([] : va_W))) := hD
  refine lv_aload_n hx hb dX1_init_25 rfl (lv_at hl 0 rfl) ?_
  refine lv_iconst (v := 1) hx hb dX1_init_26 (by decide) ?_
  refine va_put (ci := 1) (v := .int 1) (ty := .int) (C := RX1) (T := TX1) (N := 7) hx hb hts inG_X1 tyX1 tyX1_ok nmX1 hown hK hP hD hS 0 rfl rfl 4 (by decide) (hts _ G_fl_X1_24) (fun _ z => z) rfl (by decide +kernel) rfl rfl (Nat.le_of_ble_eq_true rfl) dX1_init_27 (fun H locs hP hD hS => ?_)
  have hP : va_P (dC, dI) vwCl (((h0, .inr (1, [.int 0, .int 1, .int 10, .int 0, .int 1, .int 0, .int 0])) :: ([] : va_W))) H := hP
  have hD : va_D A (((h0, .inr (1, [.int 0, .int 1, .int 10, .int 0, .int 1, .int 0, .int 0])) :: ([] : va_W))) := hD
  refine lv_aload_n hx hb dX1_init_30 rfl (lv_at hl 0 rfl) ?_
  refine lv_iconst (v := 0) hx hb dX1_init_31 (by decide) ?_
  refine va_put (ci := 1) (v := .int 0) (ty := .int) (C := RX1) (T := TX1) (N := 7) hx hb hts inG_X1 tyX1 tyX1_ok nmX1 hown hK hP hD hS 0 rfl rfl 5 (by decide) (hts _ G_fl_X1_27) (fun _ z => z) rfl (by decide +kernel) rfl rfl (Nat.le_of_ble_eq_true rfl) dX1_init_32 (fun H locs hP hD hS => ?_)
  have hP : va_P (dC, dI) vwCl (((h0, .inr (1, [.int 0, .int 1, .int 10, .int 0, .int 1, .int 0, .int 0])) :: ([] : va_W))) H := hP
  have hD : va_D A (((h0, .inr (1, [.int 0, .int 1, .int 10, .int 0, .int 1, .int 0, .int 0])) :: ([] : va_W))) := hD
  refine lv_aload_n hx hb dX1_init_35 rfl (lv_at hl 0 rfl) ?_
  refine lv_iconst (v := 1) hx hb dX1_init_36 (by decide) ?_
  refine va_put (ci := 1) (v := .int 1) (ty := .int) (C := RX1) (T := TX1) (N := 7) hx hb hts inG_X1 tyX1 tyX1_ok nmX1 hown hK hP hD hS 0 rfl rfl 6 (by decide) (hts _ G_fl_X1_30) (fun _ z => z) rfl (by decide +kernel) rfl rfl (Nat.le_of_ble_eq_true rfl) dX1_init_37 (fun H locs hP hD hS => ?_)
  have hP : va_P (dC, dI) vwCl (((h0, .inr (1, [.int 0, .int 1, .int 10, .int 0, .int 1, .int 0, .int 1])) :: ([] : va_W))) H := hP
  have hD : va_D A (((h0, .inr (1, [.int 0, .int 1, .int 10, .int 0, .int 1, .int 0, .int 1])) :: ([] : va_W))) := hD
  refine W.widen (k := 0) (n := 0) (Nat.le_of_ble_eq_true rfl) (Nat.le_of_ble_eq_true rfl) ?_
  exact W.vret hx hb hr (fun t ht hW => ⟨⟨(), rfl, trivial, by rw [ht]; exact hP, hD⟩, hS.F ht⟩) hS.2.2 dX1_init_40
set_option maxRecDepth 100000 in
set_option maxHeartbeats 4000000 in
theorem c_X3_init (l : Launch) {dC : Nat → ClassId} {dI : Nat → Nat → Nat} {cA : Nat → ClassId} (h0 sz : Nat) : Met l yX3_init (wW yX3_init cX3_init 1 none) ({ frames := 1, cells := 0, slots := 0, locals := 12 } : Room) (va_Pc [.ref h0] (fun U => U.heap.size = sz ∧ va_P (dC, dI) vwCl [(h0, .inr (3, [.long 0, .long 0]))] U.heap ∧ KN dC dI cA U)) (va_Qv (fun _ => True) (fun u t => va_P (dC, dI) vwCl (nw3 cA h0 u) t.heap ∧ va_D (va_A [(h0, .inr (3, [.long 0, .long 0]))] sz) (nw3 cA h0 u)) (va_A [(h0, .inr (3, [.long 0, .long 0]))] sz)) 0 0 (va_A [(h0, .inr (3, [.long 0, .long 0]))] sz) := by
  refine Met.ofW (cc := cX3_init) (maxL := 1) (ret := none) (by decide) rfl ?_
  intro p e s m args below meth c s₁ B hml hv
  obtain ⟨rfl, hsz, hP, hKN⟩ := hv
  have hK := hKN.1
  have hts : ∀ w ∈ G, w.before [.ref h0].toArray s = true := fun w hw => atoms_spec (ws := wW yX3_init cX3_init 1 none) B.pre w (List.mem_cons_of_mem _ hw)
  have hx := B.exec
  have hb := B.bytes
  have hr := B.returns
  have hown : s.vm.findClass RX3 = some m.cls := findClass_of_methodNamed B.named
  have hlocks := B.notSynchronized
  have hin : meth.name = "<init>" := (name_of_methodNamed B.named B.method).1
  subst hsz
  have hD : va_D (va_A [(h0, .inr (3, [.long 0, .long 0]))] s.heap.size) [(h0, .inr (3, [.long 0, .long 0]))] := D_one _ _
  generalize hAe : va_A [(h0, .inr (3, [.long 0, .long 0]))] s.heap.size = A at hD ⊢
  have hA : ∀ q : Nat, s.heap.size ≤ q → A q := fun q h => by rw [← hAe]; exact Or.inr h
  have hS : va_S A s.heap s.heap [] := va_S.rf
  have hl := lv_entry ([.ref h0]) (n := 1) (Nat.le_of_ble_eq_true rfl)
  rw [lg_entry_eq]
  generalize (lg_sl ([.ref h0]) ++ List.replicate (1 - (lg_sl ([.ref h0])).length) Slot.unset).toArray = ls at hl ⊢
  have hl : lv_has ls 1 [(0, .ref h0)] := hl
  refine lv_aload_n hx hb dX3_init_0 rfl (lv_at hl 0 rfl) ?_
  refine W.objInit hx hb hown (hts _ G_ml_X3_3) (hts _ G_im_objectInit) (hts _ G_cd_objectInit) rfl (by rw [hml]; exact hl.1) rfl dX3_init_1 (Nat.le_of_ble_eq_true rfl) (Nat.le_of_ble_eq_true rfl) ?_
  refine W.eq (g2 := F0 m 4 ls []) rfl ?_
  have hP : va_P (dC, dI) vwCl ((h0, .inr (3, [.long 0, .long 0])) :: ([] : va_W)) s.heap := hP
  have hD : va_D A ((h0, .inr (3, [.long 0, .long 0])) :: ([] : va_W)) := hD
  refine lv_aload_n hx hb dX3_init_4 rfl (lv_at hl 0 rfl) ?_
  refine lv_lconst (v := 0) hx hb dX3_init_5 (by decide) ?_
  refine va_put (ci := 3) (v := .long 0) (ty := .long) (C := RX3) (T := TX3) (N := 2) hx hb hts inG_X3 tyX3 tyX3_ok nmX3 hown hK hP hD hS 0 rfl rfl 0 (by decide) (hts _ G_fl_X3_9) (fun _ z => z) rfl (by decide +kernel) rfl rfl (Nat.le_of_ble_eq_true rfl) dX3_init_6 (fun H locs hP hD hS => ?_)
  have hP : va_P (dC, dI) vwCl (((h0, .inr (3, [.long 0, .long 0])) :: ([] : va_W))) H := hP
  have hD : va_D A (((h0, .inr (3, [.long 0, .long 0])) :: ([] : va_W))) := hD
  refine lv_aload_n hx hb dX3_init_9 rfl (lv_at hl 0 rfl) ?_
  refine lv_lconst (v := 1) hx hb dX3_init_10 (by decide) ?_
  refine va_put (ci := 3) (v := .long 1) (ty := .long) (C := RX3) (T := TX3) (N := 2) hx hb hts inG_X3 tyX3 tyX3_ok nmX3 hown hK hP hD hS 0 rfl rfl 1 (by decide) (hts _ G_fl_X3_15) (fun _ z => z) rfl (by decide +kernel) rfl rfl (Nat.le_of_ble_eq_true rfl) dX3_init_11 (fun H locs hP hD hS => ?_)
  have hP : va_P (dC, dI) vwCl (((h0, .inr (3, [.long 0, .long 1])) :: ([] : va_W))) H := hP
  have hD : va_D A (((h0, .inr (3, [.long 0, .long 1])) :: ([] : va_W))) := hD
  refine W.widen (k := 0) (n := 0) (Nat.le_of_ble_eq_true rfl) (Nat.le_of_ble_eq_true rfl) ?_
  exact W.vret hx hb hr (fun t ht hW => ⟨⟨(), rfl, trivial, by rw [ht]; exact hP, hD⟩, hS.F ht⟩) hS.2.2 dX3_init_14
set_option maxRecDepth 100000 in
set_option maxHeartbeats 4000000 in
theorem c_X4_init (l : Launch) {dC : Nat → ClassId} {dI : Nat → Nat → Nat} {cA : Nat → ClassId} (h0 sz : Nat) : Met l yX4_init (wW yX4_init cX4_init 1 none) ({ frames := 1, cells := 1, slots := 999, locals := 12 } : Room) (va_Pc [.ref h0] (fun U => U.heap.size = sz ∧ va_P (dC, dI) vwCl [(h0, .inr (4, [.null, .int 0]))] U.heap ∧ KN dC dI cA U)) (va_Qv (fun _ => True) (fun u t => va_P (dC, dI) vwCl (nw4 cA h0 u) t.heap ∧ va_D (va_A [(h0, .inr (4, [.null, .int 0]))] sz) (nw4 cA h0 u)) (va_A [(h0, .inr (4, [.null, .int 0]))] sz)) 1 999 (va_A [(h0, .inr (4, [.null, .int 0]))] sz) := by
  refine Met.ofW (cc := cX4_init) (maxL := 1) (ret := none) (by decide) rfl ?_
  intro p e s m args below meth c s₁ B hml hv
  obtain ⟨rfl, hsz, hP, hKN⟩ := hv
  have hK := hKN.1
  have hts : ∀ w ∈ G, w.before [.ref h0].toArray s = true := fun w hw => atoms_spec (ws := wW yX4_init cX4_init 1 none) B.pre w (List.mem_cons_of_mem _ hw)
  have hx := B.exec
  have hb := B.bytes
  have hr := B.returns
  have hown : s.vm.findClass RX4 = some m.cls := findClass_of_methodNamed B.named
  have hlocks := B.notSynchronized
  have hin : meth.name = "<init>" := (name_of_methodNamed B.named B.method).1
  subst hsz
  have hD : va_D (va_A [(h0, .inr (4, [.null, .int 0]))] s.heap.size) [(h0, .inr (4, [.null, .int 0]))] := D_one _ _
  generalize hAe : va_A [(h0, .inr (4, [.null, .int 0]))] s.heap.size = A at hD ⊢
  have hA : ∀ q : Nat, s.heap.size ≤ q → A q := fun q h => by rw [← hAe]; exact Or.inr h
  have hS : va_S A s.heap s.heap [] := va_S.rf
  have hl := lv_entry ([.ref h0]) (n := 1) (Nat.le_of_ble_eq_true rfl)
  rw [lg_entry_eq]
  generalize (lg_sl ([.ref h0]) ++ List.replicate (1 - (lg_sl ([.ref h0])).length) Slot.unset).toArray = ls at hl ⊢
  have hl : lv_has ls 1 [(0, .ref h0)] := hl
  refine lv_aload_n hx hb dX4_init_0 rfl (lv_at hl 0 rfl) ?_
  refine W.objInit hx hb hown (hts _ G_ml_X4_3) (hts _ G_im_objectInit) (hts _ G_cd_objectInit) rfl (by rw [hml]; exact hl.1) rfl dX4_init_1 (Nat.le_of_ble_eq_true rfl) (Nat.le_of_ble_eq_true rfl) ?_
  refine W.eq (g2 := F0 m 4 ls []) rfl ?_
  have hP : va_P (dC, dI) vwCl ((h0, .inr (4, [.null, .int 0])) :: ([] : va_W)) s.heap := hP
  have hD : va_D A ((h0, .inr (4, [.null, .int 0])) :: ([] : va_W)) := hD
  refine lv_aload_n hx hb dX4_init_4 rfl (lv_at hl 0 rfl) ?_
  refine lv_sipush (v := 999) hx hb dX4_init_5 (by decide) ?_
  refine k_newI (N' := 999) hx hb (har_int hts) hK hP hD hS hA (by decide) (by decide) (Nat.le_of_ble_eq_true rfl) (Nat.le_of_ble_eq_true rfl) (Nat.le_of_ble_eq_true rfl) dX4_init_8 (fun q1 H hP hD hS => ?_)
  obtain ⟨R1, hR1⟩ : ∃ r : va_W, r = ([] : va_W) ++ [(q1, .inl (cA 0, 999, .inl (fun _ => 0)))] := ⟨_, rfl⟩
  have hP : va_P (dC, dI) vwCl ((h0, .inr (4, [.null, .int 0])) :: R1) H := by rw [hR1]; exact hP
  have hD : va_D A ((h0, .inr (4, [.null, .int 0])) :: R1) := by rw [hR1]; exact hD
  refine va_putF (ci := 4) (v := .ref q1) (ty := .array .int) (C := RX4) (T := TX4) (N := 2) hx hb hts inG_X4 tyX4 tyX4_ok nmX4 hown hK hP hD hS 0 rfl rfl 0 (by decide) (hts _ G_fl_X4_9) (fun _ z => z) rfl hin rfl (by decide +kernel) rfl rfl (Nat.le_of_ble_eq_true rfl) dX4_init_10 (fun H locs hP hD hS => ?_)
  have hP : va_P (dC, dI) vwCl (((h0, .inr (4, [.ref q1, .int 0])) :: R1)) H := hP
  have hD : va_D A (((h0, .inr (4, [.ref q1, .int 0])) :: R1)) := hD
  refine lv_aload_n hx hb dX4_init_13 rfl (lv_at hl 0 rfl) ?_
  refine lv_iconst (v := 0) hx hb dX4_init_14 (by decide) ?_
  refine va_put (ci := 4) (v := .int 0) (ty := .int) (C := RX4) (T := TX4) (N := 2) hx hb hts inG_X4 tyX4 tyX4_ok nmX4 hown hK hP hD hS 0 rfl rfl 1 (by decide) (hts _ G_fl_X4_15) (fun _ z => z) rfl (by decide +kernel) rfl rfl (Nat.le_of_ble_eq_true rfl) dX4_init_15 (fun H locs hP hD hS => ?_)
  have hP : va_P (dC, dI) vwCl (((h0, .inr (4, [.ref q1, .int 0])) :: R1)) H := hP
  have hD : va_D A (((h0, .inr (4, [.ref q1, .int 0])) :: R1)) := hD
  subst hR1
  refine W.widen (k := 1) (n := 999) (Nat.le_of_ble_eq_true rfl) (Nat.le_of_ble_eq_true rfl) ?_
  exact W.vret hx hb hr (fun t ht hW => ⟨⟨q1, rfl, trivial, by rw [ht]; exact hP, hD⟩, hS.F ht⟩) hS.2.2 dX4_init_18
set_option maxRecDepth 100000 in
set_option maxHeartbeats 4000000 in
theorem c_X7_init (l : Launch) {dC : Nat → ClassId} {dI : Nat → Nat → Nat} {cA : Nat → ClassId} (h0 sz : Nat) : Met l yX7_init (wW yX7_init cX7_init 1 none) ({ frames := 1, cells := 1, slots := 80, locals := 12 } : Room) (va_Pc [.ref h0] (fun U => U.heap.size = sz ∧ va_P (dC, dI) vwCl [(h0, .inr (7, [.null, .int 0, .int 0, .long 0]))] U.heap ∧ KN dC dI cA U)) (va_Qv (fun _ => True) (fun u t => va_P (dC, dI) vwCl (nw7 cA h0 u) t.heap ∧ va_D (va_A [(h0, .inr (7, [.null, .int 0, .int 0, .long 0]))] sz) (nw7 cA h0 u)) (va_A [(h0, .inr (7, [.null, .int 0, .int 0, .long 0]))] sz)) 1 80 (va_A [(h0, .inr (7, [.null, .int 0, .int 0, .long 0]))] sz) := by
  refine Met.ofW (cc := cX7_init) (maxL := 1) (ret := none) (by decide) rfl ?_
  intro p e s m args below meth c s₁ B hml hv
  obtain ⟨rfl, hsz, hP, hKN⟩ := hv
  have hK := hKN.1
  have hts : ∀ w ∈ G, w.before [.ref h0].toArray s = true := fun w hw => atoms_spec (ws := wW yX7_init cX7_init 1 none) B.pre w (List.mem_cons_of_mem _ hw)
  have hx := B.exec
  have hb := B.bytes
  have hr := B.returns
  have hown : s.vm.findClass RX7 = some m.cls := findClass_of_methodNamed B.named
  have hlocks := B.notSynchronized
  have hin : meth.name = "<init>" := (name_of_methodNamed B.named B.method).1
  subst hsz
  have hD : va_D (va_A [(h0, .inr (7, [.null, .int 0, .int 0, .long 0]))] s.heap.size) [(h0, .inr (7, [.null, .int 0, .int 0, .long 0]))] := D_one _ _
  generalize hAe : va_A [(h0, .inr (7, [.null, .int 0, .int 0, .long 0]))] s.heap.size = A at hD ⊢
  have hA : ∀ q : Nat, s.heap.size ≤ q → A q := fun q h => by rw [← hAe]; exact Or.inr h
  have hS : va_S A s.heap s.heap [] := va_S.rf
  have hl := lv_entry ([.ref h0]) (n := 1) (Nat.le_of_ble_eq_true rfl)
  rw [lg_entry_eq]
  generalize (lg_sl ([.ref h0]) ++ List.replicate (1 - (lg_sl ([.ref h0])).length) Slot.unset).toArray = ls at hl ⊢
  have hl : lv_has ls 1 [(0, .ref h0)] := hl
  refine lv_aload_n hx hb dX7_init_0 rfl (lv_at hl 0 rfl) ?_
  refine W.objInit hx hb hown (hts _ G_ml_X7_3) (hts _ G_im_objectInit) (hts _ G_cd_objectInit) rfl (by rw [hml]; exact hl.1) rfl dX7_init_1 (Nat.le_of_ble_eq_true rfl) (Nat.le_of_ble_eq_true rfl) ?_
  refine W.eq (g2 := F0 m 4 ls []) rfl ?_
  have hP : va_P (dC, dI) vwCl ((h0, .inr (7, [.null, .int 0, .int 0, .long 0])) :: ([] : va_W)) s.heap := hP
  have hD : va_D A ((h0, .inr (7, [.null, .int 0, .int 0, .long 0])) :: ([] : va_W)) := hD
  refine lv_aload_n hx hb dX7_init_4 rfl (lv_at hl 0 rfl) ?_
  refine lv_bipush (v := 80) hx hb dX7_init_5 (by decide) ?_
  refine k_newI (N' := 80) hx hb (har_int hts) hK hP hD hS hA (by decide) (by decide) (Nat.le_of_ble_eq_true rfl) (Nat.le_of_ble_eq_true rfl) (Nat.le_of_ble_eq_true rfl) dX7_init_7 (fun q1 H hP hD hS => ?_)
  obtain ⟨R1, hR1⟩ : ∃ r : va_W, r = ([] : va_W) ++ [(q1, .inl (cA 0, 80, .inl (fun _ => 0)))] := ⟨_, rfl⟩
  have hP : va_P (dC, dI) vwCl ((h0, .inr (7, [.null, .int 0, .int 0, .long 0])) :: R1) H := by rw [hR1]; exact hP
  have hD : va_D A ((h0, .inr (7, [.null, .int 0, .int 0, .long 0])) :: R1) := by rw [hR1]; exact hD
  refine va_putF (ci := 7) (v := .ref q1) (ty := .array .int) (C := RX7) (T := TX7) (N := 4) hx hb hts inG_X7 tyX7 tyX7_ok nmX7 hown hK hP hD hS 0 rfl rfl 0 (by decide) (hts _ G_fl_X7_9) (fun _ z => z) rfl hin rfl (by decide +kernel) rfl rfl (Nat.le_of_ble_eq_true rfl) dX7_init_9 (fun H locs hP hD hS => ?_)
  have hP : va_P (dC, dI) vwCl (((h0, .inr (7, [.ref q1, .int 0, .int 0, .long 0])) :: R1)) H := hP
  have hD : va_D A (((h0, .inr (7, [.ref q1, .int 0, .int 0, .long 0])) :: R1)) := hD
  refine lv_aload_n hx hb dX7_init_12 rfl (lv_at hl 0 rfl) ?_
  refine lv_iconst (v := 0) hx hb dX7_init_13 (by decide) ?_
  refine va_put (ci := 7) (v := .int 0) (ty := .int) (C := RX7) (T := TX7) (N := 4) hx hb hts inG_X7 tyX7 tyX7_ok nmX7 hown hK hP hD hS 0 rfl rfl 1 (by decide) (hts _ G_fl_X7_15) (fun _ z => z) rfl (by decide +kernel) rfl rfl (Nat.le_of_ble_eq_true rfl) dX7_init_14 (fun H locs hP hD hS => ?_)
  have hP : va_P (dC, dI) vwCl (((h0, .inr (7, [.ref q1, .int 0, .int 0, .long 0])) :: R1)) H := hP
  have hD : va_D A (((h0, .inr (7, [.ref q1, .int 0, .int 0, .long 0])) :: R1)) := hD
  refine lv_aload_n hx hb dX7_init_17 rfl (lv_at hl 0 rfl) ?_
  refine lv_iconst (v := 0) hx hb dX7_init_18 (by decide) ?_
  refine va_put (ci := 7) (v := .int 0) (ty := .int) (C := RX7) (T := TX7) (N := 4) hx hb hts inG_X7 tyX7 tyX7_ok nmX7 hown hK hP hD hS 0 rfl rfl 2 (by decide) (hts _ G_fl_X7_19) (fun _ z => z) rfl (by decide +kernel) rfl rfl (Nat.le_of_ble_eq_true rfl) dX7_init_19 (fun H locs hP hD hS => ?_)
  have hP : va_P (dC, dI) vwCl (((h0, .inr (7, [.ref q1, .int 0, .int 0, .long 0])) :: R1)) H := hP
  have hD : va_D A (((h0, .inr (7, [.ref q1, .int 0, .int 0, .long 0])) :: R1)) := hD
  refine lv_aload_n hx hb dX7_init_22 rfl (lv_at hl 0 rfl) ?_
  refine lv_lconst (v := 0) hx hb dX7_init_23 (by decide) ?_
  refine va_put (ci := 7) (v := .long 0) (ty := .long) (C := RX7) (T := TX7) (N := 4) hx hb hts inG_X7 tyX7 tyX7_ok nmX7 hown hK hP hD hS 0 rfl rfl 3 (by decide) (hts _ G_fl_X7_22) (fun _ z => z) rfl (by decide +kernel) rfl rfl (Nat.le_of_ble_eq_true rfl) dX7_init_24 (fun H locs hP hD hS => ?_)
  have hP : va_P (dC, dI) vwCl (((h0, .inr (7, [.ref q1, .int 0, .int 0, .long 0])) :: R1)) H := hP
  have hD : va_D A (((h0, .inr (7, [.ref q1, .int 0, .int 0, .long 0])) :: R1)) := hD
  subst hR1
  refine W.widen (k := 1) (n := 80) (Nat.le_of_ble_eq_true rfl) (Nat.le_of_ble_eq_true rfl) ?_
  exact W.vret hx hb hr (fun t ht hW => ⟨⟨q1, rfl, trivial, by rw [ht]; exact hP, hD⟩, hS.F ht⟩) hS.2.2 dX7_init_27
set_option maxRecDepth 100000 in
set_option maxHeartbeats 4000000 in
theorem c_X5_init (l : Launch) {dC : Nat → ClassId} {dI : Nat → Nat → Nat} {cA : Nat → ClassId} (h0 sz : Nat) : Met l yX5_init (wW yX5_init cX5_init 1 none) ({ frames := 1, cells := 2, slots := 56, locals := 12 } : Room) (va_Pc [.ref h0] (fun U => U.heap.size = sz ∧ va_P (dC, dI) vwCl [(h0, .inr (5, [.null, .null, .int 0]))] U.heap ∧ KN dC dI cA U)) (va_Qv (fun _ => True) (fun u t => va_P (dC, dI) vwCl (nw5 cA h0 u) t.heap ∧ va_D (va_A [(h0, .inr (5, [.null, .null, .int 0]))] sz) (nw5 cA h0 u)) (va_A [(h0, .inr (5, [.null, .null, .int 0]))] sz)) 2 56 (va_A [(h0, .inr (5, [.null, .null, .int 0]))] sz) := by
  refine Met.ofW (cc := cX5_init) (maxL := 1) (ret := none) (by decide) rfl ?_
  intro p e s m args below meth c s₁ B hml hv
  obtain ⟨rfl, hsz, hP, hKN⟩ := hv
  have hK := hKN.1
  have hts : ∀ w ∈ G, w.before [.ref h0].toArray s = true := fun w hw => atoms_spec (ws := wW yX5_init cX5_init 1 none) B.pre w (List.mem_cons_of_mem _ hw)
  have hx := B.exec
  have hb := B.bytes
  have hr := B.returns
  have hown : s.vm.findClass RX5 = some m.cls := findClass_of_methodNamed B.named
  have hlocks := B.notSynchronized
  have hin : meth.name = "<init>" := (name_of_methodNamed B.named B.method).1
  subst hsz
  have hD : va_D (va_A [(h0, .inr (5, [.null, .null, .int 0]))] s.heap.size) [(h0, .inr (5, [.null, .null, .int 0]))] := D_one _ _
  generalize hAe : va_A [(h0, .inr (5, [.null, .null, .int 0]))] s.heap.size = A at hD ⊢
  have hA : ∀ q : Nat, s.heap.size ≤ q → A q := fun q h => by rw [← hAe]; exact Or.inr h
  have hS : va_S A s.heap s.heap [] := va_S.rf
  have hl := lv_entry ([.ref h0]) (n := 1) (Nat.le_of_ble_eq_true rfl)
  rw [lg_entry_eq]
  generalize (lg_sl ([.ref h0]) ++ List.replicate (1 - (lg_sl ([.ref h0])).length) Slot.unset).toArray = ls at hl ⊢
  have hl : lv_has ls 1 [(0, .ref h0)] := hl
  refine lv_aload_n hx hb dX5_init_0 rfl (lv_at hl 0 rfl) ?_
  refine W.objInit hx hb hown (hts _ G_ml_X5_3) (hts _ G_im_objectInit) (hts _ G_cd_objectInit) rfl (by rw [hml]; exact hl.1) rfl dX5_init_1 (Nat.le_of_ble_eq_true rfl) (Nat.le_of_ble_eq_true rfl) ?_
  refine W.eq (g2 := F0 m 4 ls []) rfl ?_
  have hP : va_P (dC, dI) vwCl ((h0, .inr (5, [.null, .null, .int 0])) :: ([] : va_W)) s.heap := hP
  have hD : va_D A ((h0, .inr (5, [.null, .null, .int 0])) :: ([] : va_W)) := hD
  refine lv_aload_n hx hb dX5_init_4 rfl (lv_at hl 0 rfl) ?_
  refine lv_bipush (v := 14) hx hb dX5_init_5 (by decide) ?_
  refine k_newI (N' := 14) hx hb (har_int hts) hK hP hD hS hA (by decide) (by decide) (Nat.le_of_ble_eq_true rfl) (Nat.le_of_ble_eq_true rfl) (Nat.le_of_ble_eq_true rfl) dX5_init_7 (fun q1 H hP hD hS => ?_)
  obtain ⟨R1, hR1⟩ : ∃ r : va_W, r = ([] : va_W) ++ [(q1, .inl (cA 0, 14, .inl (fun _ => 0)))] := ⟨_, rfl⟩
  have hP : va_P (dC, dI) vwCl ((h0, .inr (5, [.null, .null, .int 0])) :: R1) H := by rw [hR1]; exact hP
  have hD : va_D A ((h0, .inr (5, [.null, .null, .int 0])) :: R1) := by rw [hR1]; exact hD
  refine va_putF (ci := 5) (v := .ref q1) (ty := .array .int) (C := RX5) (T := TX5) (N := 3) hx hb hts inG_X5 tyX5 tyX5_ok nmX5 hown hK hP hD hS 0 rfl rfl 0 (by decide) (hts _ G_fl_X5_11) (fun _ z => z) rfl hin rfl (by decide +kernel) rfl rfl (Nat.le_of_ble_eq_true rfl) dX5_init_9 (fun H locs hP hD hS => ?_)
  have hP : va_P (dC, dI) vwCl (((h0, .inr (5, [.ref q1, .null, .int 0])) :: R1)) H := hP
  have hD : va_D A (((h0, .inr (5, [.ref q1, .null, .int 0])) :: R1)) := hD
  refine lv_aload_n hx hb dX5_init_12 rfl (lv_at hl 0 rfl) ?_
  refine lv_bipush (v := 42) hx hb dX5_init_13 (by decide) ?_
  refine k_newI (N' := 42) hx hb (har_int hts) hK hP hD hS hA (by decide) (by decide) (Nat.le_of_ble_eq_true rfl) (Nat.le_of_ble_eq_true rfl) (Nat.le_of_ble_eq_true rfl) dX5_init_15 (fun q2 H hP hD hS => ?_)
  obtain ⟨R2, hR2⟩ : ∃ r : va_W, r = R1 ++ [(q2, .inl (cA 0, 42, .inl (fun _ => 0)))] := ⟨_, rfl⟩
  have hP : va_P (dC, dI) vwCl ((h0, .inr (5, [.ref q1, .null, .int 0])) :: R2) H := by rw [hR2]; exact hP
  have hD : va_D A ((h0, .inr (5, [.ref q1, .null, .int 0])) :: R2) := by rw [hR2]; exact hD
  refine va_putF (ci := 5) (v := .ref q2) (ty := .array .int) (C := RX5) (T := TX5) (N := 3) hx hb hts inG_X5 tyX5 tyX5_ok nmX5 hown hK hP hD hS 0 rfl rfl 1 (by decide) (hts _ G_fl_X5_15) (fun _ z => z) rfl hin rfl (by decide +kernel) rfl rfl (Nat.le_of_ble_eq_true rfl) dX5_init_17 (fun H locs hP hD hS => ?_)
  have hP : va_P (dC, dI) vwCl (((h0, .inr (5, [.ref q1, .ref q2, .int 0])) :: R2)) H := hP
  have hD : va_D A (((h0, .inr (5, [.ref q1, .ref q2, .int 0])) :: R2)) := hD
  refine lv_aload_n hx hb dX5_init_20 rfl (lv_at hl 0 rfl) ?_
  refine lv_iconst (v := 0) hx hb dX5_init_21 (by decide) ?_
  refine va_put (ci := 5) (v := .int 0) (ty := .int) (C := RX5) (T := TX5) (N := 3) hx hb hts inG_X5 tyX5 tyX5_ok nmX5 hown hK hP hD hS 0 rfl rfl 2 (by decide) (hts _ G_fl_X5_18) (fun _ z => z) rfl (by decide +kernel) rfl rfl (Nat.le_of_ble_eq_true rfl) dX5_init_22 (fun H locs hP hD hS => ?_)
  have hP : va_P (dC, dI) vwCl (((h0, .inr (5, [.ref q1, .ref q2, .int 0])) :: R2)) H := hP
  have hD : va_D A (((h0, .inr (5, [.ref q1, .ref q2, .int 0])) :: R2)) := hD
  subst hR1 hR2
  refine W.widen (k := 2) (n := 56) (Nat.le_of_ble_eq_true rfl) (Nat.le_of_ble_eq_true rfl) ?_
  exact W.vret hx hb hr (fun t ht hW => ⟨⟨(q1, q2), rfl, trivial, by rw [ht]; exact hP, hD⟩, hS.F ht⟩) hS.2.2 dX5_init_25
set_option maxRecDepth 100000 in
set_option maxHeartbeats 4000000 in
theorem c_X0_init (l : Launch) {dC : Nat → ClassId} {dI : Nat → Nat → Nat} {cA : Nat → ClassId} (h0 sz : Nat) : Met l yX0_init (wW yX0_init cX0_init 1 none) ({ frames := 2, cells := 2, slots := 406, locals := 32 } : Room) (va_Pc [.ref h0] (fun U => U.heap.size = sz ∧ va_P (dC, dI) vwCl [(h0, .inr (0, [.null, .int 0, .int 0, .null]))] U.heap ∧ KN dC dI cA U)) (va_Qv (fun _ => True) (fun u t => va_P (dC, dI) vwCl (nw0 cA h0 u) t.heap ∧ va_D (va_A [(h0, .inr (0, [.null, .int 0, .int 0, .null]))] sz) (nw0 cA h0 u)) (va_A [(h0, .inr (0, [.null, .int 0, .int 0, .null]))] sz)) 2 406 (va_A [(h0, .inr (0, [.null, .int 0, .int 0, .null]))] sz) := by
  refine Met.ofW (cc := cX0_init) (maxL := 1) (ret := none) (by decide) rfl ?_
  intro p e s m args below meth c s₁ B hml hv
  obtain ⟨rfl, hsz, hP, hKN⟩ := hv
  have hK := hKN.1
  have hts : ∀ w ∈ G, w.before [.ref h0].toArray s = true := fun w hw => atoms_spec (ws := wW yX0_init cX0_init 1 none) B.pre w (List.mem_cons_of_mem _ hw)
  have hx := B.exec
  have hb := B.bytes
  have hr := B.returns
  have hown : s.vm.findClass RX0 = some m.cls := findClass_of_methodNamed B.named
  have hlocks := B.notSynchronized
  have hin : meth.name = "<init>" := (name_of_methodNamed B.named B.method).1
  subst hsz
  have hD : va_D (va_A [(h0, .inr (0, [.null, .int 0, .int 0, .null]))] s.heap.size) [(h0, .inr (0, [.null, .int 0, .int 0, .null]))] := D_one _ _
  generalize hAe : va_A [(h0, .inr (0, [.null, .int 0, .int 0, .null]))] s.heap.size = A at hD ⊢
  have hA : ∀ q : Nat, s.heap.size ≤ q → A q := fun q h => by rw [← hAe]; exact Or.inr h
  have hS : va_S A s.heap s.heap [] := va_S.rf
  have hl := lv_entry ([.ref h0]) (n := 1) (Nat.le_of_ble_eq_true rfl)
  rw [lg_entry_eq]
  generalize (lg_sl ([.ref h0]) ++ List.replicate (1 - (lg_sl ([.ref h0])).length) Slot.unset).toArray = ls at hl ⊢
  have hl : lv_has ls 1 [(0, .ref h0)] := hl
  refine lv_aload_n hx hb dX0_init_0 rfl (lv_at hl 0 rfl) ?_
  refine W.objInit hx hb hown (hts _ G_ml_X0_3) (hts _ G_im_objectInit) (hts _ G_cd_objectInit) rfl (by rw [hml]; exact hl.1) rfl dX0_init_1 (Nat.le_of_ble_eq_true rfl) (Nat.le_of_ble_eq_true rfl) ?_
  refine W.eq (g2 := F0 m 4 ls []) rfl ?_
  have hP : va_P (dC, dI) vwCl ((h0, .inr (0, [.null, .int 0, .int 0, .null])) :: ([] : va_W)) s.heap := hP
  have hD : va_D A ((h0, .inr (0, [.null, .int 0, .int 0, .null])) :: ([] : va_W)) := hD
  refine lv_aload_n hx hb dX0_init_4 rfl (lv_at hl 0 rfl) ?_
  refine lv_sipush (v := 399) hx hb dX0_init_5 (by decide) ?_
  refine k_newI (N' := 399) hx hb (har_int hts) hK hP hD hS hA (by decide) (by decide) (Nat.le_of_ble_eq_true rfl) (Nat.le_of_ble_eq_true rfl) (Nat.le_of_ble_eq_true rfl) dX0_init_8 (fun q1 H hP hD hS => ?_)
  obtain ⟨R1, hR1⟩ : ∃ r : va_W, r = ([] : va_W) ++ [(q1, .inl (cA 0, 399, .inl (fun _ => 0)))] := ⟨_, rfl⟩
  have hP : va_P (dC, dI) vwCl ((h0, .inr (0, [.null, .int 0, .int 0, .null])) :: R1) H := by rw [hR1]; exact hP
  have hD : va_D A ((h0, .inr (0, [.null, .int 0, .int 0, .null])) :: R1) := by rw [hR1]; exact hD
  refine va_putF (ci := 0) (v := .ref q1) (ty := .array .int) (C := RX0) (T := TX0) (N := 4) hx hb hts inG_X0 tyX0 tyX0_ok nmX0 hown hK hP hD hS 0 rfl rfl 0 (by decide) (hts _ G_fl_X0_9) (fun _ z => z) rfl hin rfl (by decide +kernel) rfl rfl (Nat.le_of_ble_eq_true rfl) dX0_init_10 (fun H locs hP hD hS => ?_)
  have hP : va_P (dC, dI) vwCl (((h0, .inr (0, [.ref q1, .int 0, .int 0, .null])) :: R1)) H := hP
  have hD : va_D A (((h0, .inr (0, [.ref q1, .int 0, .int 0, .null])) :: R1)) := hD
  refine lv_aload_n hx hb dX0_init_13 rfl (lv_at hl 0 rfl) ?_
  refine lv_iconst (v := 0) hx hb dX0_init_14 (by decide) ?_
  refine va_put (ci := 0) (v := .int 0) (ty := .int) (C := RX0) (T := TX0) (N := 4) hx hb hts inG_X0 tyX0 tyX0_ok nmX0 hown hK hP hD hS 0 rfl rfl 1 (by decide) (hts _ G_fl_X0_15) (fun _ z => z) rfl (by decide +kernel) rfl rfl (Nat.le_of_ble_eq_true rfl) dX0_init_15 (fun H locs hP hD hS => ?_)
  have hP : va_P (dC, dI) vwCl (((h0, .inr (0, [.ref q1, .int 0, .int 0, .null])) :: R1)) H := hP
  have hD : va_D A (((h0, .inr (0, [.ref q1, .int 0, .int 0, .null])) :: R1)) := hD
  refine lv_aload_n hx hb dX0_init_18 rfl (lv_at hl 0 rfl) ?_
  refine lv_bipush (v := 10) hx hb dX0_init_19 (by decide) ?_
  refine va_put (ci := 0) (v := .int 10) (ty := .int) (C := RX0) (T := TX0) (N := 4) hx hb hts inG_X0 tyX0 tyX0_ok nmX0 hown hK hP hD hS 0 rfl rfl 2 (by decide) (hts _ G_fl_X0_19) (fun _ z => z) rfl (by decide +kernel) rfl rfl (Nat.le_of_ble_eq_true rfl) dX0_init_21 (fun H locs hP hD hS => ?_)
  have hP : va_P (dC, dI) vwCl (((h0, .inr (0, [.ref q1, .int 0, .int 10, .null])) :: R1)) H := hP
  have hD : va_D A (((h0, .inr (0, [.ref q1, .int 0, .int 10, .null])) :: R1)) := hD
  refine lv_aload_n hx hb dX0_init_24 rfl (lv_at hl 0 rfl) ?_
  refine va_new (ci := 1) (fs := [.int 0, .int 0, .int 0, .int 0, .int 0, .int 0, .int 0]) (C := RX1) (T := TX1) (N := 7) hx hb hts inG_X1 tyX1 tyX1_ok hown (hts _ G_kl_X0_22) (hts _ G_is_X1) (hts _ G_in_X1) hK hP hD hS hA rfl df_X1 (Nat.le_of_ble_eq_true rfl) (Nat.le_of_ble_eq_true rfl) dX0_init_25 (fun q2 H hP hD hS => ?_)
  refine lv_dup hx hb dX0_init_28 rfl ?_
  refine n_init (x := (q2, .inr (1, [.int 0, .int 0, .int 0, .int 0, .int 0, .int 0, .int 0]))) (wc := nw1 cA q2) (va_runIN (As := []) (rest := [.ref q2, .ref h0]) ⟨hx, hb, hml, hown, hts⟩ (c_X1_init l q2 H.size) ⟨va_cnB 0 hts (good_W G_cd_X1_init) rfl rfl rfl (hKN.2.1 1 _ rfl) (hts _ G_in_X1) hd_X1_init ⟨Nat.le_of_ble_eq_true rfl, Nat.le_of_ble_eq_true rfl⟩, rfl, hts _ G_im_X1_init⟩ (pre_init hP hKN) rfl rfl hl.1 rfl (lv_room (Nat.le_of_ble_eq_true rfl)) dX0_init_29 ⟨Nat.le_of_ble_eq_true rfl, Nat.le_of_ble_eq_true rfl⟩) hP hD hS hA (fun uq2 H locs _ hP hD hS => ?_)
  obtain ⟨R2, hR2⟩ : ∃ r : va_W, r = R1 ++ nw1 cA q2 uq2 := ⟨_, rfl⟩
  have hP : va_P (dC, dI) vwCl ((h0, .inr (0, [.ref q1, .int 0, .int 10, .null])) :: R2) H := by rw [hR2]; exact hP
  have hD : va_D A ((h0, .inr (0, [.ref q1, .int 0, .int 10, .null])) :: R2) := by rw [hR2]; exact hD
  refine va_putF (ci := 0) (v := .ref q2) (ty := .object "TurningFractions$Fraction") (C := RX0) (T := TX0) (N := 4) hx hb hts inG_X0 tyX0 tyX0_ok nmX0 hown hK hP hD hS 0 rfl rfl 3 (by decide) (hts _ G_fl_X0_25) (fun _ z => z) rfl hin rfl (by decide +kernel) rfl rfl (Nat.le_of_ble_eq_true rfl) dX0_init_32 (fun H locs hP hD hS => ?_)
  have hP : va_P (dC, dI) vwCl (((h0, .inr (0, [.ref q1, .int 0, .int 10, .ref q2])) :: R2)) H := hP
  have hD : va_D A (((h0, .inr (0, [.ref q1, .int 0, .int 10, .ref q2])) :: R2)) := hD
  subst hR1 hR2
  refine W.widen (k := 2) (n := 406) (Nat.le_of_ble_eq_true rfl) (Nat.le_of_ble_eq_true rfl) ?_
  exact W.vret hx hb hr (fun t ht hW => ⟨⟨(q1, q2), rfl, trivial, by rw [ht]; exact hP, hD⟩, hS.F ht⟩) hS.2.2 dX0_init_35
set_option maxRecDepth 100000 in
set_option maxHeartbeats 4000000 in
theorem c_X2_init (l : Launch) {dC : Nat → ClassId} {dI : Nat → Nat → Nat} {cA : Nat → ClassId} (h0 sz : Nat) : Met l yX2_init (wW yX2_init cX2_init 1 none) ({ frames := 2, cells := 2, slots := 47, locals := 32 } : Room) (va_Pc [.ref h0] (fun U => U.heap.size = sz ∧ va_P (dC, dI) vwCl [(h0, .inr (2, [.int 0, .null, .null, .int 0]))] U.heap ∧ KN dC dI cA U)) (va_Qv (fun _ => True) (fun u t => va_P (dC, dI) vwCl (nw2 cA h0 u) t.heap ∧ va_D (va_A [(h0, .inr (2, [.int 0, .null, .null, .int 0]))] sz) (nw2 cA h0 u)) (va_A [(h0, .inr (2, [.int 0, .null, .null, .int 0]))] sz)) 2 47 (va_A [(h0, .inr (2, [.int 0, .null, .null, .int 0]))] sz) := by
  refine Met.ofW (cc := cX2_init) (maxL := 1) (ret := none) (by decide) rfl ?_
  intro p e s m args below meth c s₁ B hml hv
  obtain ⟨rfl, hsz, hP, hKN⟩ := hv
  have hK := hKN.1
  have hts : ∀ w ∈ G, w.before [.ref h0].toArray s = true := fun w hw => atoms_spec (ws := wW yX2_init cX2_init 1 none) B.pre w (List.mem_cons_of_mem _ hw)
  have hx := B.exec
  have hb := B.bytes
  have hr := B.returns
  have hown : s.vm.findClass RX2 = some m.cls := findClass_of_methodNamed B.named
  have hlocks := B.notSynchronized
  have hin : meth.name = "<init>" := (name_of_methodNamed B.named B.method).1
  subst hsz
  have hD : va_D (va_A [(h0, .inr (2, [.int 0, .null, .null, .int 0]))] s.heap.size) [(h0, .inr (2, [.int 0, .null, .null, .int 0]))] := D_one _ _
  generalize hAe : va_A [(h0, .inr (2, [.int 0, .null, .null, .int 0]))] s.heap.size = A at hD ⊢
  have hA : ∀ q : Nat, s.heap.size ≤ q → A q := fun q h => by rw [← hAe]; exact Or.inr h
  have hS : va_S A s.heap s.heap [] := va_S.rf
  have hl := lv_entry ([.ref h0]) (n := 1) (Nat.le_of_ble_eq_true rfl)
  rw [lg_entry_eq]
  generalize (lg_sl ([.ref h0]) ++ List.replicate (1 - (lg_sl ([.ref h0])).length) Slot.unset).toArray = ls at hl ⊢
  have hl : lv_has ls 1 [(0, .ref h0)] := hl
  refine lv_aload_n hx hb dX2_init_0 rfl (lv_at hl 0 rfl) ?_
  refine W.objInit hx hb hown (hts _ G_ml_X2_3) (hts _ G_im_objectInit) (hts _ G_cd_objectInit) rfl (by rw [hml]; exact hl.1) rfl dX2_init_1 (Nat.le_of_ble_eq_true rfl) (Nat.le_of_ble_eq_true rfl) ?_
  refine W.eq (g2 := F0 m 4 ls []) rfl ?_
  have hP : va_P (dC, dI) vwCl ((h0, .inr (2, [.int 0, .null, .null, .int 0])) :: ([] : va_W)) s.heap := hP
  have hD : va_D A ((h0, .inr (2, [.int 0, .null, .null, .int 0])) :: ([] : va_W)) := hD
  refine lv_aload_n hx hb dX2_init_4 rfl (lv_at hl 0 rfl) ?_
  refine lv_iconst (v := 0) hx hb dX2_init_5 (by decide) ?_
  refine va_put (ci := 2) (v := .int 0) (ty := .int) (C := RX2) (T := TX2) (N := 4) hx hb hts inG_X2 tyX2 tyX2_ok nmX2 hown hK hP hD hS 0 rfl rfl 0 (by decide) (hts _ G_fl_X2_9) (fun _ z => z) rfl (by decide +kernel) rfl rfl (Nat.le_of_ble_eq_true rfl) dX2_init_6 (fun H locs hP hD hS => ?_)
  have hP : va_P (dC, dI) vwCl (((h0, .inr (2, [.int 0, .null, .null, .int 0])) :: ([] : va_W))) H := hP
  have hD : va_D A (((h0, .inr (2, [.int 0, .null, .null, .int 0])) :: ([] : va_W))) := hD
  refine lv_aload_n hx hb dX2_init_9 rfl (lv_at hl 0 rfl) ?_
  refine va_new (ci := 1) (fs := [.int 0, .int 0, .int 0, .int 0, .int 0, .int 0, .int 0]) (C := RX1) (T := TX1) (N := 7) hx hb hts inG_X1 tyX1 tyX1_ok hown (hts _ G_kl_X2_15) (hts _ G_is_X1) (hts _ G_in_X1) hK hP hD hS hA rfl df_X1 (Nat.le_of_ble_eq_true rfl) (Nat.le_of_ble_eq_true rfl) dX2_init_10 (fun q1 H hP hD hS => ?_)
  refine lv_dup hx hb dX2_init_13 rfl ?_
  refine n_init (x := (q1, .inr (1, [.int 0, .int 0, .int 0, .int 0, .int 0, .int 0, .int 0]))) (wc := nw1 cA q1) (va_runIN (As := []) (rest := [.ref q1, .ref h0]) ⟨hx, hb, hml, hown, hts⟩ (c_X1_init l q1 H.size) ⟨va_cnB 0 hts (good_W G_cd_X1_init) rfl rfl rfl (hKN.2.1 2 _ rfl) (hts _ G_in_X1) hd_X1_init ⟨Nat.le_of_ble_eq_true rfl, Nat.le_of_ble_eq_true rfl⟩, rfl, hts _ G_im_X1_init⟩ (pre_init hP hKN) rfl rfl hl.1 rfl (lv_room (Nat.le_of_ble_eq_true rfl)) dX2_init_14 ⟨Nat.le_of_ble_eq_true rfl, Nat.le_of_ble_eq_true rfl⟩) hP hD hS hA (fun uq1 H locs _ hP hD hS => ?_)
  obtain ⟨R1, hR1⟩ : ∃ r : va_W, r = ([] : va_W) ++ nw1 cA q1 uq1 := ⟨_, rfl⟩
  have hP : va_P (dC, dI) vwCl ((h0, .inr (2, [.int 0, .null, .null, .int 0])) :: R1) H := by rw [hR1]; exact hP
  have hD : va_D A ((h0, .inr (2, [.int 0, .null, .null, .int 0])) :: R1) := by rw [hR1]; exact hD
  refine va_putF (ci := 2) (v := .ref q1) (ty := .object "TurningFractions$Fraction") (C := RX2) (T := TX2) (N := 4) hx hb hts inG_X2 tyX2 tyX2_ok nmX2 hown hK hP hD hS 0 rfl rfl 1 (by decide) (hts _ G_fl_X2_18) (fun _ z => z) rfl hin rfl (by decide +kernel) rfl rfl (Nat.le_of_ble_eq_true rfl) dX2_init_17 (fun H locs hP hD hS => ?_)
  have hP : va_P (dC, dI) vwCl (((h0, .inr (2, [.int 0, .ref q1, .null, .int 0])) :: R1)) H := hP
  have hD : va_D A (((h0, .inr (2, [.int 0, .ref q1, .null, .int 0])) :: R1)) := hD
  refine lv_aload_n hx hb dX2_init_20 rfl (lv_at hl 0 rfl) ?_
  refine lv_bipush (v := 40) hx hb dX2_init_21 (by decide) ?_
  refine k_newI (N' := 40) hx hb (har_int hts) hK hP hD hS hA (by decide) (by decide) (Nat.le_of_ble_eq_true rfl) (Nat.le_of_ble_eq_true rfl) (Nat.le_of_ble_eq_true rfl) dX2_init_23 (fun q2 H hP hD hS => ?_)
  obtain ⟨R2, hR2⟩ : ∃ r : va_W, r = R1 ++ [(q2, .inl (cA 0, 40, .inl (fun _ => 0)))] := ⟨_, rfl⟩
  have hP : va_P (dC, dI) vwCl ((h0, .inr (2, [.int 0, .ref q1, .null, .int 0])) :: R2) H := by rw [hR2]; exact hP
  have hD : va_D A ((h0, .inr (2, [.int 0, .ref q1, .null, .int 0])) :: R2) := by rw [hR2]; exact hD
  refine va_putF (ci := 2) (v := .ref q2) (ty := .array .int) (C := RX2) (T := TX2) (N := 4) hx hb hts inG_X2 tyX2 tyX2_ok nmX2 hown hK hP hD hS 0 rfl rfl 2 (by decide) (hts _ G_fl_X2_22) (fun _ z => z) rfl hin rfl (by decide +kernel) rfl rfl (Nat.le_of_ble_eq_true rfl) dX2_init_25 (fun H locs hP hD hS => ?_)
  have hP : va_P (dC, dI) vwCl (((h0, .inr (2, [.int 0, .ref q1, .ref q2, .int 0])) :: R2)) H := hP
  have hD : va_D A (((h0, .inr (2, [.int 0, .ref q1, .ref q2, .int 0])) :: R2)) := hD
  refine lv_aload_n hx hb dX2_init_28 rfl (lv_at hl 0 rfl) ?_
  refine lv_iconst (v := 0) hx hb dX2_init_29 (by decide) ?_
  refine va_put (ci := 2) (v := .int 0) (ty := .int) (C := RX2) (T := TX2) (N := 4) hx hb hts inG_X2 tyX2 tyX2_ok nmX2 hown hK hP hD hS 0 rfl rfl 3 (by decide) (hts _ G_fl_X2_26) (fun _ z => z) rfl (by decide +kernel) rfl rfl (Nat.le_of_ble_eq_true rfl) dX2_init_30 (fun H locs hP hD hS => ?_)
  have hP : va_P (dC, dI) vwCl (((h0, .inr (2, [.int 0, .ref q1, .ref q2, .int 0])) :: R2)) H := hP
  have hD : va_D A (((h0, .inr (2, [.int 0, .ref q1, .ref q2, .int 0])) :: R2)) := hD
  subst hR1 hR2
  refine W.widen (k := 2) (n := 47) (Nat.le_of_ble_eq_true rfl) (Nat.le_of_ble_eq_true rfl) ?_
  exact W.vret hx hb hr (fun t ht hW => ⟨⟨(q1, q2), rfl, trivial, by rw [ht]; exact hP, hD⟩, hS.F ht⟩) hS.2.2 dX2_init_33
