set_option maxRecDepth 100000 in
set_option maxHeartbeats 4000000 in
theorem loop_X8 (l : Launch) {p : Program} {e : Env} {R : Room} {s : State} {m : MethodId} {args : Array Value} {below : List Frame} {meth : Method} {c : Code} {Q : State → Prop} {dC : Nat → ClassId} {dI : Nat → Nat → Nat} {cA : Nat → ClassId} {A : Nat → Prop} (hx : p.tables.exec = Jvm.exec) (hb : c.code = cX8_init) (hml : c.maxLocals = 2) (hown : s.vm.findClass RX8 = some m.cls) (hts : ∀ w ∈ G, w.before args s = true) (hKN : KN dC dI cA s) (hA : ∀ q, s.heap.size ≤ q → A q) (hR : 55 ≤ R.cells ∧ 3417 ≤ R.slots ∧ 3 ≤ R.frames ∧ 52 ≤ R.locals) {h0 qa : Nat} {fs : List Value} (hfa : fs[5]? = some (.ref qa)) {rs : va_W}
    (kk : ∀ (U : Nat → Nat × Nat × Nat) (f : Nat → Option Nat) (H : Heap) (locs : List Loc) (ls : Array Slot), (∀ j, j < 6 → f j = some ((U j).1)) → va_P (dC, dI) vwCl ((h0, .inr (8, fs)) :: (qa, .inl (cA 3, 6, .inr (.inr (.inr (.inr f))))) :: (rs ++ plX (fun v => nw2 cA v.1 v.2) 6 U)) H → va_D A ((h0, .inr (8, fs)) :: (qa, .inl (cA 3, 6, .inr (.inr (.inr (.inr f))))) :: (rs ++ plX (fun v => nw2 cA v.1 v.2) 6 U)) → va_S A s.heap H locs → W p l e R s m args below meth c H locs 55 3417 Q (F0 m 156 ls [])) :
    ∀ (n i : Nat) (U : Nat → Nat × Nat × Nat) (f : Nat → Option Nat) (H : Heap) (locs : List Loc) (ls : Array Slot) (cs sl : Nat), i + n = 6 → cs = 37 + 3 * i → sl = 3111 + 51 * i → (∀ j, j < i → f j = some ((U j).1)) → va_P (dC, dI) vwCl ((h0, .inr (8, fs)) :: (qa, .inl (cA 3, 6, .inr (.inr (.inr (.inr f))))) :: (rs ++ plX (fun v => nw2 cA v.1 v.2) i U)) H → va_D A ((h0, .inr (8, fs)) :: (qa, .inl (cA 3, 6, .inr (.inr (.inr (.inr f))))) :: (rs ++ plX (fun v => nw2 cA v.1 v.2) i U)) → va_S A s.heap H locs → lv_has ls 2 [(1, .int (nI i)), (0, .ref h0)] → W p l e R s m args below meth c H locs cs sl Q (F0 m 128 ls []) := by
  have hK := hKN.1
  obtain ⟨hR1, hR2, hR3, hR4⟩ := hR
  intro n
  induction n with
  | zero =>
    intro i U f H locs ls cs sl h1 h2 h3 hf hP hD hS hl
    obtain rfl : i = 6 := by omega
    obtain rfl : cs = 55 := by omega
    obtain rfl : sl = 3417 := by omega
    refine lv_iload_n hx hb dX8_init_128 rfl (lv_at hl 0 rfl) ?_
    refine lv_aload_n hx hb dX8_init_129 rfl (lv_at hl 1 rfl) ?_
    refine va_get (ci := 8) (v := .ref qa) (C := RX8) (T := TX8) (N := 12) hx hb hts inG_X8 hown hK hP 0 rfl rfl 5 (by decide) (hts _ G_fl_X8_48) (fun _ z => z) hfa dX8_init_130 ?_
    refine va_alen (v := nI 6) hx hb hK hP 1 3 rfl rfl rfl dX8_init_133 ?_
    refine lv_icmp_ge (tgt := 156) hx hb dX8_init_134 (by decide) (fun _ => kk U f H locs ls hf hP hD hS) (fun c1 => absurd ((nI_leI (a := 6) (by omega) (by omega)).mpr (Nat.le_refl _)) c1)
  | succ n ih =>
    intro i U f H locs ls cs sl h1 h2 h3 hf hP hD hS hl
    refine lv_iload_n hx hb dX8_init_128 rfl (lv_at hl 0 rfl) ?_
    refine lv_aload_n hx hb dX8_init_129 rfl (lv_at hl 1 rfl) ?_
    refine va_get (ci := 8) (v := .ref qa) (C := RX8) (T := TX8) (N := 12) hx hb hts inG_X8 hown hK hP 0 rfl rfl 5 (by decide) (hts _ G_fl_X8_48) (fun _ z => z) hfa dX8_init_130 ?_
    refine va_alen (v := nI 6) hx hb hK hP 1 3 rfl rfl rfl dX8_init_133 ?_
    refine lv_icmp_ge (tgt := 156) hx hb dX8_init_134 (by decide) (fun c1 => absurd ((nI_leI (a := 6) (by omega) (by omega)).mp c1) (by omega)) (fun _ => ?_)
    refine lv_aload_n hx hb dX8_init_137 rfl (lv_at hl 1 rfl) ?_
    refine va_get (ci := 8) (v := .ref qa) (C := RX8) (T := TX8) (N := 12) hx hb hts inG_X8 hown hK hP 0 rfl rfl 5 (by decide) (hts _ G_fl_X8_48) (fun _ z => z) hfa dX8_init_138 ?_
    refine lv_iload_n hx hb dX8_init_141 rfl (lv_at hl 0 rfl) ?_
    refine va_new (ci := 2) (fs := [.int 0, .null, .null, .int 0]) (C := RX2) (T := TX2) (N := 4) hx hb hts inG_X2 tyX2 tyX2_ok hown (hts _ G_kl_X8_46) (hts _ G_is_X2) (hts _ G_in_X2) hK hP hD hS hA rfl df_X2 (by omega) (by omega) dX8_init_142 (fun q H hP hD hS => ?_)
    refine lv_dup hx hb dX8_init_145 rfl ?_
    refine n_init (x := (q, .inr (2, [.int 0, .null, .null, .int 0]))) (wc := nw2 cA q) (va_runIN (As := []) (rest := [.ref q, .int (nI i), .ref qa]) ⟨hx, hb, hml, hown, hts⟩ (c_X2_init l q H.size) ⟨va_cnB 0 hts (good_W G_cd_X2_init) rfl rfl rfl (hKN.2.1 9 _ rfl) (hts _ G_in_X2) hd_X2_init ⟨by show 2 + 1 ≤ _; omega, by show 8 + (1 + 11) + 32 ≤ _; omega⟩, rfl, hts _ G_im_X2_init⟩ (pre_init hP hKN) rfl rfl hl.1 rfl (lv_room (Nat.le_of_ble_eq_true rfl)) dX8_init_146 ⟨by omega, by omega⟩) hP hD hS hA (fun u H locs _ hP hD hS => ?_)
    have hv : (((h0, .inr (8, fs)) :: (qa, .inl (cA 3, 6, .inr (.inr (.inr (.inr f))))) :: (rs ++ plX (fun v => nw2 cA v.1 v.2) i U)) ++ nw2 cA q u : va_W)[(rs ++ plX (fun v => nw2 cA v.1 v.2) i U).length + 2]? = some (q, .inr (2, [.int 0, .ref u.1, .ref u.2, .int 0])) := by
      show ((rs ++ plX (fun v => nw2 cA v.1 v.2) i U) ++ nw2 cA q u : va_W)[(rs ++ plX (fun v => nw2 cA v.1 v.2) i U).length]? = _
      rw [List.getElem?_append_right (Nat.le_refl _), Nat.sub_self]; rfl
    refine va_astq (r := (RX2, TX2, 4)) hx hb hK hP hD hS 1 3 _ 2 rfl rfl hv rfl (vp_in_nI (by omega) (by omega)) dX8_init_149 (fun H locs hP hD hS => ?_)
    rw [nI_clamp (show i < 2 ^ 31 by omega)] at hP hD
    have hP : va_P (dC, dI) vwCl ((h0, .inr (8, fs)) :: (qa, .inl (cA 3, 6, .inr (.inr (.inr (.inr (va_up f i (some q))))))) :: (rs ++ plX (fun v => nw2 cA v.1 v.2) (i + 1) (va_up U i (q, u)))) H := by rw [plX_up, ← List.append_assoc]; exact hP
    have hD : va_D A ((h0, .inr (8, fs)) :: (qa, .inl (cA 3, 6, .inr (.inr (.inr (.inr (va_up f i (some q))))))) :: (rs ++ plX (fun v => nw2 cA v.1 v.2) (i + 1) (va_up U i (q, u)))) := by rw [plX_up, ← List.append_assoc]; exact hD
    refine lv_iinc (v := nI (i + 1)) (lv' := [(1, .int (nI (i + 1))), (0, .ref h0)]) hx hb dX8_init_150 hl (k := 0) rfl (by rw [show Int32.ofInt 1 = 1 from rfl]; exact nI_1 i) (by decide) rfl (fun ls hl => ?_)
    refine lv_goto (tgt := 128) hx hb dX8_init_153 (by decide) ?_
    refine ih (i + 1) (va_up U i (q, u)) (va_up f i (some q)) H locs ls _ _ (by omega) (by omega) (by omega) (fun j hj => ?_) hP hD hS hl
    by_cases z : j = i
    · subst z; rw [up_s, up_s]
    · rw [up_n _ _ _ _ z, up_n _ _ _ _ z]; exact hf j (by omega)
set_option maxRecDepth 100000 in
set_option maxHeartbeats 4000000 in
theorem c_X8_init (l : Launch) {dC : Nat → ClassId} {dI : Nat → Nat → Nat} {cA : Nat → ClassId} (h0 sz : Nat) : Met l yX8_init (wW yX8_init cX8_init 2 none) ({ frames := 3, cells := 55, slots := 3417, locals := 53 } : Room) (va_Pc [.ref h0] (fun U => U.heap.size = sz ∧ va_P (dC, dI) vwCl [(h0, .inr (8, [.null, .null, .null, .null, .null, .null, .null, .null, .int 0, .null, .null, .null]))] U.heap ∧ KN dC dI cA U)) (va_Qv (fun u : Nat → Nat => u 0 = h0) (fun u t => va_P (dC, dI) vwCl (wsL 56 (encX u cA) u S0X) t.heap ∧ va_D (va_A [(h0, .inr (8, [.null, .null, .null, .null, .null, .null, .null, .null, .int 0, .null, .null, .null]))] sz) (wsL 56 (encX u cA) u S0X)) (va_A [(h0, .inr (8, [.null, .null, .null, .null, .null, .null, .null, .null, .int 0, .null, .null, .null]))] sz)) 55 3417 (va_A [(h0, .inr (8, [.null, .null, .null, .null, .null, .null, .null, .null, .int 0, .null, .null, .null]))] sz) := by
  refine Met.ofW (cc := cX8_init) (maxL := 2) (ret := none) (by decide) rfl ?_
  intro p e s m args below meth c s₁ B hml hv
  obtain ⟨rfl, hsz, hP, hKN⟩ := hv
  have hK := hKN.1
  have hts : ∀ w ∈ G, w.before [.ref h0].toArray s = true := fun w hw => atoms_spec (ws := wW yX8_init cX8_init 2 none) B.pre w (List.mem_cons_of_mem _ hw)
  have hx := B.exec
  have hb := B.bytes
  have hr := B.returns
  have hown : s.vm.findClass RX8 = some m.cls := findClass_of_methodNamed B.named
  have hlocks := B.notSynchronized
  have hin : meth.name = "<init>" := (name_of_methodNamed B.named B.method).1
  subst hsz
  have hD : va_D (va_A [(h0, .inr (8, [.null, .null, .null, .null, .null, .null, .null, .null, .int 0, .null, .null, .null]))] s.heap.size) [(h0, .inr (8, [.null, .null, .null, .null, .null, .null, .null, .null, .int 0, .null, .null, .null]))] := D_one _ _
  generalize hAe : va_A [(h0, .inr (8, [.null, .null, .null, .null, .null, .null, .null, .null, .int 0, .null, .null, .null]))] s.heap.size = A at hD ⊢
  have hA : ∀ q : Nat, s.heap.size ≤ q → A q := fun q h => by rw [← hAe]; exact Or.inr h
  have hS : va_S A s.heap s.heap [] := va_S.rf
  have hl := lv_entry ([.ref h0]) (n := 2) (Nat.le_of_ble_eq_true rfl)
  rw [lg_entry_eq]
  generalize (lg_sl ([.ref h0]) ++ List.replicate (2 - (lg_sl ([.ref h0])).length) Slot.unset).toArray = ls at hl ⊢
  have hl : lv_has ls 2 [(0, .ref h0)] := hl
  refine lv_aload_n hx hb dX8_init_0 rfl (lv_at hl 0 rfl) ?_
  refine W.objInit hx hb hown (hts _ G_ml_X8_3) (hts _ G_im_objectInit) (hts _ G_cd_objectInit) rfl (by rw [hml]; exact hl.1) rfl dX8_init_1 (Nat.le_of_ble_eq_true rfl) (Nat.le_of_ble_eq_true rfl) ?_
  refine W.eq (g2 := F0 m 4 ls []) rfl ?_
  have hP : va_P (dC, dI) vwCl ((h0, .inr (8, [.null, .null, .null, .null, .null, .null, .null, .null, .int 0, .null, .null, .null])) :: ([] : va_W)) s.heap := hP
  have hD : va_D A ((h0, .inr (8, [.null, .null, .null, .null, .null, .null, .null, .null, .int 0, .null, .null, .null])) :: ([] : va_W)) := hD
  refine lv_aload_n hx hb dX8_init_4 rfl (lv_at hl 0 rfl) ?_
  refine va_new (ci := 6) (fs := [.null, .int 0]) (C := RX6) (T := TX6) (N := 2) hx hb hts inG_X6 tyX6 tyX6_ok hown (hts _ G_kl_X8_9) (hts _ G_is_X6) (hts _ G_in_X6) hK hP hD hS hA rfl df_X6 (Nat.le_of_ble_eq_true rfl) (Nat.le_of_ble_eq_true rfl) dX8_init_5 (fun q1 H hP hD hS => ?_)
  refine lv_dup hx hb dX8_init_8 rfl ?_
  refine n_init (x := (q1, .inr (6, [.null, .int 0]))) (wc := nw6 cA q1) (va_runI (As := []) (rest := [.ref q1, .ref h0]) ⟨hx, hb, hml, hown, hts⟩ (c_X6_init l q1 H.size) (cwI 0 hts (good_W G_cd_X6_init) rfl rfl rfl (hts _ G_in_X6) (hts _ G_ml_X8_11) (hts _ G_im_X6_init) rfl hd_X6_init ⟨Nat.le_of_ble_eq_true rfl, Nat.le_of_ble_eq_true rfl⟩) (pre_init hP hKN) rfl rfl hl.1 rfl (lv_room (Nat.le_of_ble_eq_true rfl)) dX8_init_9 ⟨Nat.le_of_ble_eq_true rfl, Nat.le_of_ble_eq_true rfl⟩) hP hD hS hA (fun uq1 H locs _ hP hD hS => ?_)
  obtain ⟨R1, hR1⟩ : ∃ r : va_W, r = ([] : va_W) ++ nw6 cA q1 uq1 := ⟨_, rfl⟩
  have hP : va_P (dC, dI) vwCl ((h0, .inr (8, [.null, .null, .null, .null, .null, .null, .null, .null, .int 0, .null, .null, .null])) :: R1) H := by rw [hR1]; exact hP
  have hD : va_D A ((h0, .inr (8, [.null, .null, .null, .null, .null, .null, .null, .null, .int 0, .null, .null, .null])) :: R1) := by rw [hR1]; exact hD
  refine va_putF (ci := 8) (v := .ref q1) (ty := .object "TurningFractions$Shelf") (C := RX8) (T := TX8) (N := 12) hx hb hts inG_X8 tyX8 tyX8_ok nmX8 hown hK hP hD hS 0 rfl rfl 0 (by decide) (hts _ G_fl_X8_12) (fun _ z => z) rfl hin rfl (by decide +kernel) rfl rfl (Nat.le_of_ble_eq_true rfl) dX8_init_12 (fun H locs hP hD hS => ?_)
  have hP : va_P (dC, dI) vwCl (((h0, .inr (8, [.ref q1, .null, .null, .null, .null, .null, .null, .null, .int 0, .null, .null, .null])) :: R1)) H := hP
  have hD : va_D A (((h0, .inr (8, [.ref q1, .null, .null, .null, .null, .null, .null, .null, .int 0, .null, .null, .null])) :: R1)) := hD
  refine lv_aload_n hx hb dX8_init_15 rfl (lv_at hl 0 rfl) ?_
  refine va_new (ci := 0) (fs := [.null, .int 0, .int 0, .null]) (C := RX0) (T := TX0) (N := 4) hx hb hts inG_X0 tyX0 tyX0_ok hown (hts _ G_kl_X8_18) (hts _ G_is_X0) (hts _ G_in_X0) hK hP hD hS hA rfl df_X0 (Nat.le_of_ble_eq_true rfl) (Nat.le_of_ble_eq_true rfl) dX8_init_16 (fun q2 H hP hD hS => ?_)
  refine lv_dup hx hb dX8_init_19 rfl ?_
  refine n_init (x := (q2, .inr (0, [.null, .int 0, .int 0, .null]))) (wc := nw0 cA q2) (va_runIN (As := []) (rest := [.ref q2, .ref h0]) ⟨hx, hb, hml, hown, hts⟩ (c_X0_init l q2 H.size) ⟨va_cnB 0 hts (good_W G_cd_X0_init) rfl rfl rfl (hKN.2.1 3 _ rfl) (hts _ G_in_X0) hd_X0_init ⟨Nat.le_of_ble_eq_true rfl, Nat.le_of_ble_eq_true rfl⟩, rfl, hts _ G_im_X0_init⟩ (pre_init hP hKN) rfl rfl hl.1 rfl (lv_room (Nat.le_of_ble_eq_true rfl)) dX8_init_20 ⟨Nat.le_of_ble_eq_true rfl, Nat.le_of_ble_eq_true rfl⟩) hP hD hS hA (fun uq2 H locs _ hP hD hS => ?_)
  obtain ⟨R2, hR2⟩ : ∃ r : va_W, r = R1 ++ nw0 cA q2 uq2 := ⟨_, rfl⟩
  have hP : va_P (dC, dI) vwCl ((h0, .inr (8, [.ref q1, .null, .null, .null, .null, .null, .null, .null, .int 0, .null, .null, .null])) :: R2) H := by rw [hR2]; exact hP
  have hD : va_D A ((h0, .inr (8, [.ref q1, .null, .null, .null, .null, .null, .null, .null, .int 0, .null, .null, .null])) :: R2) := by rw [hR2]; exact hD
  refine va_putF (ci := 8) (v := .ref q2) (ty := .object "TurningFractions$Denominators") (C := RX8) (T := TX8) (N := 12) hx hb hts inG_X8 tyX8 tyX8_ok nmX8 hown hK hP hD hS 0 rfl rfl 1 (by decide) (hts _ G_fl_X8_21) (fun _ z => z) rfl hin rfl (by decide +kernel) rfl rfl (Nat.le_of_ble_eq_true rfl) dX8_init_23 (fun H locs hP hD hS => ?_)
  have hP : va_P (dC, dI) vwCl (((h0, .inr (8, [.ref q1, .ref q2, .null, .null, .null, .null, .null, .null, .int 0, .null, .null, .null])) :: R2)) H := hP
  have hD : va_D A (((h0, .inr (8, [.ref q1, .ref q2, .null, .null, .null, .null, .null, .null, .int 0, .null, .null, .null])) :: R2)) := hD
  refine lv_aload_n hx hb dX8_init_26 rfl (lv_at hl 0 rfl) ?_
  refine va_new (ci := 7) (fs := [.null, .int 0, .int 0, .long 0]) (C := RX7) (T := TX7) (N := 4) hx hb hts inG_X7 tyX7 tyX7_ok hown (hts _ G_kl_X8_25) (hts _ G_is_X7) (hts _ G_in_X7) hK hP hD hS hA rfl df_X7 (Nat.le_of_ble_eq_true rfl) (Nat.le_of_ble_eq_true rfl) dX8_init_27 (fun q3 H hP hD hS => ?_)
  refine lv_dup hx hb dX8_init_30 rfl ?_
  refine n_init (x := (q3, .inr (7, [.null, .int 0, .int 0, .long 0]))) (wc := nw7 cA q3) (va_runIN (As := []) (rest := [.ref q3, .ref h0]) ⟨hx, hb, hml, hown, hts⟩ (c_X7_init l q3 H.size) ⟨va_cnB 0 hts (good_W G_cd_X7_init) rfl rfl rfl (hKN.2.1 4 _ rfl) (hts _ G_in_X7) hd_X7_init ⟨Nat.le_of_ble_eq_true rfl, Nat.le_of_ble_eq_true rfl⟩, rfl, hts _ G_im_X7_init⟩ (pre_init hP hKN) rfl rfl hl.1 rfl (lv_room (Nat.le_of_ble_eq_true rfl)) dX8_init_31 ⟨Nat.le_of_ble_eq_true rfl, Nat.le_of_ble_eq_true rfl⟩) hP hD hS hA (fun uq3 H locs _ hP hD hS => ?_)
  obtain ⟨R3, hR3⟩ : ∃ r : va_W, r = R2 ++ nw7 cA q3 uq3 := ⟨_, rfl⟩
  have hP : va_P (dC, dI) vwCl ((h0, .inr (8, [.ref q1, .ref q2, .null, .null, .null, .null, .null, .null, .int 0, .null, .null, .null])) :: R3) H := by rw [hR3]; exact hP
  have hD : va_D A ((h0, .inr (8, [.ref q1, .ref q2, .null, .null, .null, .null, .null, .null, .int 0, .null, .null, .null])) :: R3) := by rw [hR3]; exact hD
  refine va_putF (ci := 8) (v := .ref q3) (ty := .object "TurningFractions$Tape") (C := RX8) (T := TX8) (N := 12) hx hb hts inG_X8 tyX8 tyX8_ok nmX8 hown hK hP hD hS 0 rfl rfl 2 (by decide) (hts _ G_fl_X8_28) (fun _ z => z) rfl hin rfl (by decide +kernel) rfl rfl (Nat.le_of_ble_eq_true rfl) dX8_init_34 (fun H locs hP hD hS => ?_)
  have hP : va_P (dC, dI) vwCl (((h0, .inr (8, [.ref q1, .ref q2, .ref q3, .null, .null, .null, .null, .null, .int 0, .null, .null, .null])) :: R3)) H := hP
  have hD : va_D A (((h0, .inr (8, [.ref q1, .ref q2, .ref q3, .null, .null, .null, .null, .null, .int 0, .null, .null, .null])) :: R3)) := hD
  refine lv_aload_n hx hb dX8_init_37 rfl (lv_at hl 0 rfl) ?_
  refine va_new (ci := 3) (fs := [.long 0, .long 0]) (C := RX3) (T := TX3) (N := 2) hx hb hts inG_X3 tyX3 tyX3_ok hown (hts _ G_kl_X8_32) (hts _ G_is_X3) (hts _ G_in_X3) hK hP hD hS hA rfl df_X3 (Nat.le_of_ble_eq_true rfl) (Nat.le_of_ble_eq_true rfl) dX8_init_38 (fun q4 H hP hD hS => ?_)
  refine lv_dup hx hb dX8_init_41 rfl ?_
  refine n_init (x := (q4, .inr (3, [.long 0, .long 0]))) (wc := nw3 cA q4) (va_runIN (As := []) (rest := [.ref q4, .ref h0]) ⟨hx, hb, hml, hown, hts⟩ (c_X3_init l q4 H.size) ⟨va_cnB 0 hts (good_W G_cd_X3_init) rfl rfl rfl (hKN.2.1 5 _ rfl) (hts _ G_in_X3) hd_X3_init ⟨Nat.le_of_ble_eq_true rfl, Nat.le_of_ble_eq_true rfl⟩, rfl, hts _ G_im_X3_init⟩ (pre_init hP hKN) rfl rfl hl.1 rfl (lv_room (Nat.le_of_ble_eq_true rfl)) dX8_init_42 ⟨Nat.le_of_ble_eq_true rfl, Nat.le_of_ble_eq_true rfl⟩) hP hD hS hA (fun uq4 H locs _ hP hD hS => ?_)
  obtain ⟨R4, hR4⟩ : ∃ r : va_W, r = R3 ++ nw3 cA q4 uq4 := ⟨_, rfl⟩
  have hP : va_P (dC, dI) vwCl ((h0, .inr (8, [.ref q1, .ref q2, .ref q3, .null, .null, .null, .null, .null, .int 0, .null, .null, .null])) :: R4) H := by rw [hR4]; exact hP
  have hD : va_D A ((h0, .inr (8, [.ref q1, .ref q2, .ref q3, .null, .null, .null, .null, .null, .int 0, .null, .null, .null])) :: R4) := by rw [hR4]; exact hD
  refine va_putF (ci := 8) (v := .ref q4) (ty := .object "TurningFractions$Numeral") (C := RX8) (T := TX8) (N := 12) hx hb hts inG_X8 tyX8 tyX8_ok nmX8 hown hK hP hD hS 0 rfl rfl 3 (by decide) (hts _ G_fl_X8_35) (fun _ z => z) rfl hin rfl (by decide +kernel) rfl rfl (Nat.le_of_ble_eq_true rfl) dX8_init_45 (fun H locs hP hD hS => ?_)
  have hP : va_P (dC, dI) vwCl (((h0, .inr (8, [.ref q1, .ref q2, .ref q3, .ref q4, .null, .null, .null, .null, .int 0, .null, .null, .null])) :: R4)) H := hP
  have hD : va_D A (((h0, .inr (8, [.ref q1, .ref q2, .ref q3, .ref q4, .null, .null, .null, .null, .int 0, .null, .null, .null])) :: R4)) := hD
  refine lv_aload_n hx hb dX8_init_48 rfl (lv_at hl 0 rfl) ?_
  refine va_new (ci := 5) (fs := [.null, .null, .int 0]) (C := RX5) (T := TX5) (N := 3) hx hb hts inG_X5 tyX5 tyX5_ok hown (hts _ G_kl_X8_39) (hts _ G_is_X5) (hts _ G_in_X5) hK hP hD hS hA rfl df_X5 (Nat.le_of_ble_eq_true rfl) (Nat.le_of_ble_eq_true rfl) dX8_init_49 (fun q5 H hP hD hS => ?_)
  refine lv_dup hx hb dX8_init_52 rfl ?_
  refine n_init (x := (q5, .inr (5, [.null, .null, .int 0]))) (wc := nw5 cA q5) (va_runIN (As := []) (rest := [.ref q5, .ref h0]) ⟨hx, hb, hml, hown, hts⟩ (c_X5_init l q5 H.size) ⟨va_cnB 0 hts (good_W G_cd_X5_init) rfl rfl rfl (hKN.2.1 6 _ rfl) (hts _ G_in_X5) hd_X5_init ⟨Nat.le_of_ble_eq_true rfl, Nat.le_of_ble_eq_true rfl⟩, rfl, hts _ G_im_X5_init⟩ (pre_init hP hKN) rfl rfl hl.1 rfl (lv_room (Nat.le_of_ble_eq_true rfl)) dX8_init_53 ⟨Nat.le_of_ble_eq_true rfl, Nat.le_of_ble_eq_true rfl⟩) hP hD hS hA (fun uq5 H locs _ hP hD hS => ?_)
  obtain ⟨R5, hR5⟩ : ∃ r : va_W, r = R4 ++ nw5 cA q5 uq5 := ⟨_, rfl⟩
  have hP : va_P (dC, dI) vwCl ((h0, .inr (8, [.ref q1, .ref q2, .ref q3, .ref q4, .null, .null, .null, .null, .int 0, .null, .null, .null])) :: R5) H := by rw [hR5]; exact hP
  have hD : va_D A ((h0, .inr (8, [.ref q1, .ref q2, .ref q3, .ref q4, .null, .null, .null, .null, .int 0, .null, .null, .null])) :: R5) := by rw [hR5]; exact hD
  refine va_putF (ci := 8) (v := .ref q5) (ty := .object "TurningFractions$Script") (C := RX8) (T := TX8) (N := 12) hx hb hts inG_X8 tyX8 tyX8_ok nmX8 hown hK hP hD hS 0 rfl rfl 4 (by decide) (hts _ G_fl_X8_42) (fun _ z => z) rfl hin rfl (by decide +kernel) rfl rfl (Nat.le_of_ble_eq_true rfl) dX8_init_56 (fun H locs hP hD hS => ?_)
  have hP : va_P (dC, dI) vwCl (((h0, .inr (8, [.ref q1, .ref q2, .ref q3, .ref q4, .ref q5, .null, .null, .null, .int 0, .null, .null, .null])) :: R5)) H := hP
  have hD : va_D A (((h0, .inr (8, [.ref q1, .ref q2, .ref q3, .ref q4, .ref q5, .null, .null, .null, .int 0, .null, .null, .null])) :: R5)) := hD
  refine lv_aload_n hx hb dX8_init_59 rfl (lv_at hl 0 rfl) ?_
  refine lv_bipush (v := 6) hx hb dX8_init_60 (by decide) ?_
  refine k_newQ (N' := 6) hx hb hown (hts _ G_kl_X8_46) hKN.2.2.2 hK hP hD hS hA 3 (by decide) rfl (by decide) (by decide) (Nat.le_of_ble_eq_true rfl) (Nat.le_of_ble_eq_true rfl) (Nat.le_of_ble_eq_true rfl) dX8_init_62 (fun q6 H hP hD hS => ?_)
  have hP : va_P (dC, dI) vwCl ((h0, .inr (8, [.ref q1, .ref q2, .ref q3, .ref q4, .ref q5, .null, .null, .null, .int 0, .null, .null, .null])) :: (q6, .inl (cA 3, 6, .inr (.inr (.inr (.inr (fun _ => none)))))) :: R5) H := va_P.swap (a := [(h0, .inr (8, [.ref q1, .ref q2, .ref q3, .ref q4, .ref q5, .null, .null, .null, .int 0, .null, .null, .null]))]) (b := R5) (c := [(q6, .inl (cA 3, 6, .inr (.inr (.inr (.inr (fun _ => none))))))]) hP
  have hD : va_D A ((h0, .inr (8, [.ref q1, .ref q2, .ref q3, .ref q4, .ref q5, .null, .null, .null, .int 0, .null, .null, .null])) :: (q6, .inl (cA 3, 6, .inr (.inr (.inr (.inr (fun _ => none)))))) :: R5) := va_D.swap (a := [(h0, .inr (8, [.ref q1, .ref q2, .ref q3, .ref q4, .ref q5, .null, .null, .null, .int 0, .null, .null, .null]))]) (b := R5) (c := [(q6, .inl (cA 3, 6, .inr (.inr (.inr (.inr (fun _ => none))))))]) hD
  refine va_putF (ci := 8) (v := .ref q6) (ty := .array (.object "TurningFractions$Holder")) (C := RX8) (T := TX8) (N := 12) hx hb hts inG_X8 tyX8 tyX8_ok nmX8 hown hK hP hD hS 0 rfl rfl 5 (by decide) (hts _ G_fl_X8_48) (fun _ z => z) rfl hin rfl (by decide +kernel) rfl rfl (Nat.le_of_ble_eq_true rfl) dX8_init_65 (fun H locs hP hD hS => ?_)
  have hP : va_P (dC, dI) vwCl (((h0, .inr (8, [.ref q1, .ref q2, .ref q3, .ref q4, .ref q5, .ref q6, .null, .null, .int 0, .null, .null, .null])) :: (q6, .inl (cA 3, 6, .inr (.inr (.inr (.inr (fun _ => none)))))) :: R5)) H := hP
  have hD : va_D A (((h0, .inr (8, [.ref q1, .ref q2, .ref q3, .ref q4, .ref q5, .ref q6, .null, .null, .int 0, .null, .null, .null])) :: (q6, .inl (cA 3, 6, .inr (.inr (.inr (.inr (fun _ => none)))))) :: R5)) := hD
  refine lv_aload_n hx hb dX8_init_68 rfl (lv_at hl 0 rfl) ?_
  refine va_new (ci := 6) (fs := [.null, .int 0]) (C := RX6) (T := TX6) (N := 2) hx hb hts inG_X6 tyX6 tyX6_ok hown (hts _ G_kl_X8_9) (hts _ G_is_X6) (hts _ G_in_X6) hK hP hD hS hA rfl df_X6 (Nat.le_of_ble_eq_true rfl) (Nat.le_of_ble_eq_true rfl) dX8_init_69 (fun q7 H hP hD hS => ?_)
  refine lv_dup hx hb dX8_init_72 rfl ?_
  refine n_init (x := (q7, .inr (6, [.null, .int 0]))) (wc := nw6 cA q7) (va_runI (As := []) (rest := [.ref q7, .ref h0]) ⟨hx, hb, hml, hown, hts⟩ (c_X6_init l q7 H.size) (cwI 0 hts (good_W G_cd_X6_init) rfl rfl rfl (hts _ G_in_X6) (hts _ G_ml_X8_11) (hts _ G_im_X6_init) rfl hd_X6_init ⟨Nat.le_of_ble_eq_true rfl, Nat.le_of_ble_eq_true rfl⟩) (pre_init hP hKN) rfl rfl hl.1 rfl (lv_room (Nat.le_of_ble_eq_true rfl)) dX8_init_73 ⟨Nat.le_of_ble_eq_true rfl, Nat.le_of_ble_eq_true rfl⟩) hP hD hS hA (fun uq7 H locs _ hP hD hS => ?_)
  obtain ⟨R6, hR6⟩ : ∃ r : va_W, r = R5 ++ nw6 cA q7 uq7 := ⟨_, rfl⟩
  have hP : va_P (dC, dI) vwCl ((h0, .inr (8, [.ref q1, .ref q2, .ref q3, .ref q4, .ref q5, .ref q6, .null, .null, .int 0, .null, .null, .null])) :: (q6, .inl (cA 3, 6, .inr (.inr (.inr (.inr (fun _ => none)))))) :: R6) H := by rw [hR6]; exact hP
  have hD : va_D A ((h0, .inr (8, [.ref q1, .ref q2, .ref q3, .ref q4, .ref q5, .ref q6, .null, .null, .int 0, .null, .null, .null])) :: (q6, .inl (cA 3, 6, .inr (.inr (.inr (.inr (fun _ => none)))))) :: R6) := by rw [hR6]; exact hD
  refine va_putF (ci := 8) (v := .ref q7) (ty := .object "TurningFractions$Shelf") (C := RX8) (T := TX8) (N := 12) hx hb hts inG_X8 tyX8 tyX8_ok nmX8 hown hK hP hD hS 0 rfl rfl 6 (by decide) (hts _ G_fl_X8_52) (fun _ z => z) rfl hin rfl (by decide +kernel) rfl rfl (Nat.le_of_ble_eq_true rfl) dX8_init_76 (fun H locs hP hD hS => ?_)
  have hP : va_P (dC, dI) vwCl (((h0, .inr (8, [.ref q1, .ref q2, .ref q3, .ref q4, .ref q5, .ref q6, .ref q7, .null, .int 0, .null, .null, .null])) :: (q6, .inl (cA 3, 6, .inr (.inr (.inr (.inr (fun _ => none)))))) :: R6)) H := hP
  have hD : va_D A (((h0, .inr (8, [.ref q1, .ref q2, .ref q3, .ref q4, .ref q5, .ref q6, .ref q7, .null, .int 0, .null, .null, .null])) :: (q6, .inl (cA 3, 6, .inr (.inr (.inr (.inr (fun _ => none)))))) :: R6)) := hD
  refine lv_aload_n hx hb dX8_init_79 rfl (lv_at hl 0 rfl) ?_
  refine va_new (ci := 0) (fs := [.null, .int 0, .int 0, .null]) (C := RX0) (T := TX0) (N := 4) hx hb hts inG_X0 tyX0 tyX0_ok hown (hts _ G_kl_X8_18) (hts _ G_is_X0) (hts _ G_in_X0) hK hP hD hS hA rfl df_X0 (Nat.le_of_ble_eq_true rfl) (Nat.le_of_ble_eq_true rfl) dX8_init_80 (fun q8 H hP hD hS => ?_)
  refine lv_dup hx hb dX8_init_83 rfl ?_
  refine n_init (x := (q8, .inr (0, [.null, .int 0, .int 0, .null]))) (wc := nw0 cA q8) (va_runIN (As := []) (rest := [.ref q8, .ref h0]) ⟨hx, hb, hml, hown, hts⟩ (c_X0_init l q8 H.size) ⟨va_cnB 0 hts (good_W G_cd_X0_init) rfl rfl rfl (hKN.2.1 3 _ rfl) (hts _ G_in_X0) hd_X0_init ⟨Nat.le_of_ble_eq_true rfl, Nat.le_of_ble_eq_true rfl⟩, rfl, hts _ G_im_X0_init⟩ (pre_init hP hKN) rfl rfl hl.1 rfl (lv_room (Nat.le_of_ble_eq_true rfl)) dX8_init_84 ⟨Nat.le_of_ble_eq_true rfl, Nat.le_of_ble_eq_true rfl⟩) hP hD hS hA (fun uq8 H locs _ hP hD hS => ?_)
  obtain ⟨R7, hR7⟩ : ∃ r : va_W, r = R6 ++ nw0 cA q8 uq8 := ⟨_, rfl⟩
  have hP : va_P (dC, dI) vwCl ((h0, .inr (8, [.ref q1, .ref q2, .ref q3, .ref q4, .ref q5, .ref q6, .ref q7, .null, .int 0, .null, .null, .null])) :: (q6, .inl (cA 3, 6, .inr (.inr (.inr (.inr (fun _ => none)))))) :: R7) H := by rw [hR7]; exact hP
  have hD : va_D A ((h0, .inr (8, [.ref q1, .ref q2, .ref q3, .ref q4, .ref q5, .ref q6, .ref q7, .null, .int 0, .null, .null, .null])) :: (q6, .inl (cA 3, 6, .inr (.inr (.inr (.inr (fun _ => none)))))) :: R7) := by rw [hR7]; exact hD
  refine va_putF (ci := 8) (v := .ref q8) (ty := .object "TurningFractions$Denominators") (C := RX8) (T := TX8) (N := 12) hx hb hts inG_X8 tyX8 tyX8_ok nmX8 hown hK hP hD hS 0 rfl rfl 7 (by decide) (hts _ G_fl_X8_55) (fun _ z => z) rfl hin rfl (by decide +kernel) rfl rfl (Nat.le_of_ble_eq_true rfl) dX8_init_87 (fun H locs hP hD hS => ?_)
  have hP : va_P (dC, dI) vwCl (((h0, .inr (8, [.ref q1, .ref q2, .ref q3, .ref q4, .ref q5, .ref q6, .ref q7, .ref q8, .int 0, .null, .null, .null])) :: (q6, .inl (cA 3, 6, .inr (.inr (.inr (.inr (fun _ => none)))))) :: R7)) H := hP
  have hD : va_D A (((h0, .inr (8, [.ref q1, .ref q2, .ref q3, .ref q4, .ref q5, .ref q6, .ref q7, .ref q8, .int 0, .null, .null, .null])) :: (q6, .inl (cA 3, 6, .inr (.inr (.inr (.inr (fun _ => none)))))) :: R7)) := hD
  refine lv_aload_n hx hb dX8_init_90 rfl (lv_at hl 0 rfl) ?_
  refine lv_iconst (v := 0) hx hb dX8_init_91 (by decide) ?_
  refine va_put (ci := 8) (v := .int 0) (ty := .boolean) (C := RX8) (T := TX8) (N := 12) hx hb hts inG_X8 tyX8 tyX8_ok nmX8 hown hK hP hD hS 0 rfl rfl 8 (by decide) (hts _ G_fl_X8_58) (fun _ z => z) rfl (by decide +kernel) bz_0.1 bz_0.2 (Nat.le_of_ble_eq_true rfl) dX8_init_92 (fun H locs hP hD hS => ?_)
  have hP : va_P (dC, dI) vwCl (((h0, .inr (8, [.ref q1, .ref q2, .ref q3, .ref q4, .ref q5, .ref q6, .ref q7, .ref q8, .int 0, .null, .null, .null])) :: (q6, .inl (cA 3, 6, .inr (.inr (.inr (.inr (fun _ => none)))))) :: R7)) H := hP
  have hD : va_D A (((h0, .inr (8, [.ref q1, .ref q2, .ref q3, .ref q4, .ref q5, .ref q6, .ref q7, .ref q8, .int 0, .null, .null, .null])) :: (q6, .inl (cA 3, 6, .inr (.inr (.inr (.inr (fun _ => none)))))) :: R7)) := hD
  refine lv_aload_n hx hb dX8_init_95 rfl (lv_at hl 0 rfl) ?_
  refine va_new (ci := 4) (fs := [.null, .int 0]) (C := RX4) (T := TX4) (N := 2) hx hb hts inG_X4 tyX4 tyX4_ok hown (hts _ G_kl_X8_62) (hts _ G_is_X4) (hts _ G_in_X4) hK hP hD hS hA rfl df_X4 (Nat.le_of_ble_eq_true rfl) (Nat.le_of_ble_eq_true rfl) dX8_init_96 (fun q9 H hP hD hS => ?_)
  refine lv_dup hx hb dX8_init_99 rfl ?_
  refine n_init (x := (q9, .inr (4, [.null, .int 0]))) (wc := nw4 cA q9) (va_runIN (As := []) (rest := [.ref q9, .ref h0]) ⟨hx, hb, hml, hown, hts⟩ (c_X4_init l q9 H.size) ⟨va_cnB 0 hts (good_W G_cd_X4_init) rfl rfl rfl (hKN.2.1 7 _ rfl) (hts _ G_in_X4) hd_X4_init ⟨Nat.le_of_ble_eq_true rfl, Nat.le_of_ble_eq_true rfl⟩, rfl, hts _ G_im_X4_init⟩ (pre_init hP hKN) rfl rfl hl.1 rfl (lv_room (Nat.le_of_ble_eq_true rfl)) dX8_init_100 ⟨Nat.le_of_ble_eq_true rfl, Nat.le_of_ble_eq_true rfl⟩) hP hD hS hA (fun uq9 H locs _ hP hD hS => ?_)
  obtain ⟨R8, hR8⟩ : ∃ r : va_W, r = R7 ++ nw4 cA q9 uq9 := ⟨_, rfl⟩
  have hP : va_P (dC, dI) vwCl ((h0, .inr (8, [.ref q1, .ref q2, .ref q3, .ref q4, .ref q5, .ref q6, .ref q7, .ref q8, .int 0, .null, .null, .null])) :: (q6, .inl (cA 3, 6, .inr (.inr (.inr (.inr (fun _ => none)))))) :: R8) H := by rw [hR8]; exact hP
  have hD : va_D A ((h0, .inr (8, [.ref q1, .ref q2, .ref q3, .ref q4, .ref q5, .ref q6, .ref q7, .ref q8, .int 0, .null, .null, .null])) :: (q6, .inl (cA 3, 6, .inr (.inr (.inr (.inr (fun _ => none)))))) :: R8) := by rw [hR8]; exact hD
  refine va_putF (ci := 8) (v := .ref q9) (ty := .object "TurningFractions$Period") (C := RX8) (T := TX8) (N := 12) hx hb hts inG_X8 tyX8 tyX8_ok nmX8 hown hK hP hD hS 0 rfl rfl 9 (by decide) (hts _ G_fl_X8_65) (fun _ z => z) rfl hin rfl (by decide +kernel) rfl rfl (Nat.le_of_ble_eq_true rfl) dX8_init_103 (fun H locs hP hD hS => ?_)
  have hP : va_P (dC, dI) vwCl (((h0, .inr (8, [.ref q1, .ref q2, .ref q3, .ref q4, .ref q5, .ref q6, .ref q7, .ref q8, .int 0, .ref q9, .null, .null])) :: (q6, .inl (cA 3, 6, .inr (.inr (.inr (.inr (fun _ => none)))))) :: R8)) H := hP
  have hD : va_D A (((h0, .inr (8, [.ref q1, .ref q2, .ref q3, .ref q4, .ref q5, .ref q6, .ref q7, .ref q8, .int 0, .ref q9, .null, .null])) :: (q6, .inl (cA 3, 6, .inr (.inr (.inr (.inr (fun _ => none)))))) :: R8)) := hD
  refine lv_aload_n hx hb dX8_init_106 rfl (lv_at hl 0 rfl) ?_
  refine va_new (ci := 1) (fs := [.int 0, .int 0, .int 0, .int 0, .int 0, .int 0, .int 0]) (C := RX1) (T := TX1) (N := 7) hx hb hts inG_X1 tyX1 tyX1_ok hown (hts _ G_kl_X8_69) (hts _ G_is_X1) (hts _ G_in_X1) hK hP hD hS hA rfl df_X1 (Nat.le_of_ble_eq_true rfl) (Nat.le_of_ble_eq_true rfl) dX8_init_107 (fun q10 H hP hD hS => ?_)
  refine lv_dup hx hb dX8_init_110 rfl ?_
  refine n_init (x := (q10, .inr (1, [.int 0, .int 0, .int 0, .int 0, .int 0, .int 0, .int 0]))) (wc := nw1 cA q10) (va_runIN (As := []) (rest := [.ref q10, .ref h0]) ⟨hx, hb, hml, hown, hts⟩ (c_X1_init l q10 H.size) ⟨va_cnB 0 hts (good_W G_cd_X1_init) rfl rfl rfl (hKN.2.1 8 _ rfl) (hts _ G_in_X1) hd_X1_init ⟨Nat.le_of_ble_eq_true rfl, Nat.le_of_ble_eq_true rfl⟩, rfl, hts _ G_im_X1_init⟩ (pre_init hP hKN) rfl rfl hl.1 rfl (lv_room (Nat.le_of_ble_eq_true rfl)) dX8_init_111 ⟨Nat.le_of_ble_eq_true rfl, Nat.le_of_ble_eq_true rfl⟩) hP hD hS hA (fun uq10 H locs _ hP hD hS => ?_)
  obtain ⟨R9, hR9⟩ : ∃ r : va_W, r = R8 ++ nw1 cA q10 uq10 := ⟨_, rfl⟩
  have hP : va_P (dC, dI) vwCl ((h0, .inr (8, [.ref q1, .ref q2, .ref q3, .ref q4, .ref q5, .ref q6, .ref q7, .ref q8, .int 0, .ref q9, .null, .null])) :: (q6, .inl (cA 3, 6, .inr (.inr (.inr (.inr (fun _ => none)))))) :: R9) H := by rw [hR9]; exact hP
  have hD : va_D A ((h0, .inr (8, [.ref q1, .ref q2, .ref q3, .ref q4, .ref q5, .ref q6, .ref q7, .ref q8, .int 0, .ref q9, .null, .null])) :: (q6, .inl (cA 3, 6, .inr (.inr (.inr (.inr (fun _ => none)))))) :: R9) := by rw [hR9]; exact hD
  refine va_putF (ci := 8) (v := .ref q10) (ty := .object "TurningFractions$Fraction") (C := RX8) (T := TX8) (N := 12) hx hb hts inG_X8 tyX8 tyX8_ok nmX8 hown hK hP hD hS 0 rfl rfl 10 (by decide) (hts _ G_fl_X8_72) (fun _ z => z) rfl hin rfl (by decide +kernel) rfl rfl (Nat.le_of_ble_eq_true rfl) dX8_init_114 (fun H locs hP hD hS => ?_)
  have hP : va_P (dC, dI) vwCl (((h0, .inr (8, [.ref q1, .ref q2, .ref q3, .ref q4, .ref q5, .ref q6, .ref q7, .ref q8, .int 0, .ref q9, .ref q10, .null])) :: (q6, .inl (cA 3, 6, .inr (.inr (.inr (.inr (fun _ => none)))))) :: R9)) H := hP
  have hD : va_D A (((h0, .inr (8, [.ref q1, .ref q2, .ref q3, .ref q4, .ref q5, .ref q6, .ref q7, .ref q8, .int 0, .ref q9, .ref q10, .null])) :: (q6, .inl (cA 3, 6, .inr (.inr (.inr (.inr (fun _ => none)))))) :: R9)) := hD
  refine lv_aload_n hx hb dX8_init_117 rfl (lv_at hl 0 rfl) ?_
  refine lv_sipush (v := 1000) hx hb dX8_init_118 (by decide) ?_
  refine k_newI (N' := 1000) hx hb (har_int hts) hK hP hD hS hA (by decide) (by decide) (Nat.le_of_ble_eq_true rfl) (Nat.le_of_ble_eq_true rfl) (Nat.le_of_ble_eq_true rfl) dX8_init_121 (fun q11 H hP hD hS => ?_)
  obtain ⟨R10, hR10⟩ : ∃ r : va_W, r = R9 ++ [(q11, .inl (cA 0, 1000, .inl (fun _ => 0)))] := ⟨_, rfl⟩
  have hP : va_P (dC, dI) vwCl ((h0, .inr (8, [.ref q1, .ref q2, .ref q3, .ref q4, .ref q5, .ref q6, .ref q7, .ref q8, .int 0, .ref q9, .ref q10, .null])) :: (q6, .inl (cA 3, 6, .inr (.inr (.inr (.inr (fun _ => none)))))) :: R10) H := by rw [hR10]; exact hP
  have hD : va_D A ((h0, .inr (8, [.ref q1, .ref q2, .ref q3, .ref q4, .ref q5, .ref q6, .ref q7, .ref q8, .int 0, .ref q9, .ref q10, .null])) :: (q6, .inl (cA 3, 6, .inr (.inr (.inr (.inr (fun _ => none)))))) :: R10) := by rw [hR10]; exact hD
  refine va_putF (ci := 8) (v := .ref q11) (ty := .array .int) (C := RX8) (T := TX8) (N := 12) hx hb hts inG_X8 tyX8 tyX8_ok nmX8 hown hK hP hD hS 0 rfl rfl 11 (by decide) (hts _ G_fl_X8_76) (fun _ z => z) rfl hin rfl (by decide +kernel) rfl rfl (Nat.le_of_ble_eq_true rfl) dX8_init_123 (fun H locs hP hD hS => ?_)
  have hP : va_P (dC, dI) vwCl (((h0, .inr (8, [.ref q1, .ref q2, .ref q3, .ref q4, .ref q5, .ref q6, .ref q7, .ref q8, .int 0, .ref q9, .ref q10, .ref q11])) :: (q6, .inl (cA 3, 6, .inr (.inr (.inr (.inr (fun _ => none)))))) :: R10)) H := hP
  have hD : va_D A (((h0, .inr (8, [.ref q1, .ref q2, .ref q3, .ref q4, .ref q5, .ref q6, .ref q7, .ref q8, .int 0, .ref q9, .ref q10, .ref q11])) :: (q6, .inl (cA 3, 6, .inr (.inr (.inr (.inr (fun _ => none)))))) :: R10)) := hD
  refine lv_iconst (v := 0) hx hb dX8_init_126 (by decide) ?_
  refine lv_istore_n (lv' := [(1, .int 0), (0, .ref h0)]) hx hb dX8_init_127 rfl hl (by decide) rfl (fun ls hl => ?_)
  refine W.widen (k := 37) (n := 3111) (Nat.le_of_ble_eq_true rfl) (Nat.le_of_ble_eq_true rfl) ?_
  refine loop_X8 l hx hb hml hown hts hKN hA ⟨Nat.le_of_ble_eq_true rfl, Nat.le_of_ble_eq_true rfl, Nat.le_of_ble_eq_true rfl, Nat.le_of_ble_eq_true rfl⟩ rfl (rs := R10) (fun U f H locs ls hf hP hD hS => ?_) 6 0 (fun _ => (0, 0, 0)) (fun _ => none) H locs ls _ _ rfl rfl rfl (fun j hj => absurd hj (Nat.not_lt_zero j)) (by rw [plX, List.append_nil]; exact hP) (by rw [plX, List.append_nil]; exact hD) hS hl
  have hP := P_rf (g := fun j => some (U j).1) hP hf
  have hD := D_rf (y := .inl (cA 3, 6, .inr (.inr (.inr (.inr (fun j => some (U j).1)))))) hD
  subst hR1 hR2 hR3 hR4 hR5 hR6 hR7 hR8 hR9 hR10
  obtain ⟨P, hPd⟩ : ∃ P : Nat → Nat, P = fun k => ([h0, q1, uq1.1, uq1.2 0, uq1.2 1, uq1.2 2, uq1.2 3, uq1.2 4, uq1.2 5, uq1.2 6, uq1.2 7, q7, uq7.1, uq7.2 0, uq7.2 1, uq7.2 2, uq7.2 3, uq7.2 4, uq7.2 5, uq7.2 6, uq7.2 7, q2, uq2.1, uq2.2, q8, uq8.1, uq8.2, q3, uq3, q4, q5, uq5.1, uq5.2, q6, (U 0).1, (U 0).2.1, (U 0).2.2, (U 1).1, (U 1).2.1, (U 1).2.2, (U 2).1, (U 2).2.1, (U 2).2.2, (U 3).1, (U 3).2.1, (U 3).2.2, (U 4).1, (U 4).2.1, (U 4).2.2, (U 5).1, (U 5).2.1, (U 5).2.2, q9, uq9, q10, q11] : List Nat).getD k 0 := ⟨_, rfl⟩
  refine (fun hfin : va_P (dC, dI) vwCl (wsL 56 (encX P cA) P S0X) H ∧ va_D A (wsL 56 (encX P cA) P S0X) => ?_) (to_wsL hP hD (fun k => ([0, 2, 3, 4, 5, 6, 7, 8, 9, 10, 11, 21, 22, 23, 24, 25, 26, 27, 28, 29, 30, 12, 13, 14, 31, 32, 33, 15, 16, 17, 18, 19, 20, 1, 38, 39, 40, 41, 42, 43, 44, 45, 46, 47, 48, 49, 50, 51, 52, 53, 54, 55, 34, 35, 36, 37] : List Nat).getD k 0) (fun k hk => ?_) (by decide +kernel))
  · refine W.widen (k := 55) (n := 3417) (Nat.le_of_ble_eq_true rfl) (Nat.le_of_ble_eq_true rfl) ?_
    exact W.vret hx hb hr (fun t ht hW => ⟨⟨P, rfl, by rw [hPd]; rfl, by rw [ht]; exact hfin.1, hfin.2⟩, hS.F ht⟩) hS.2.2 dX8_init_156
  · subst hPd
    match k, hk with
    | 0, _ => exact ⟨_, rfl, Or.inl rfl⟩
    | 1, _ => exact ⟨_, rfl, Or.inl rfl⟩
    | 2, _ => exact ⟨_, rfl, Or.inr ⟨_, _, _, _, rfl, rfl, fun j hj => match j, hj with | 0, _ => rfl | 1, _ => rfl | 2, _ => rfl | 3, _ => rfl | 4, _ => rfl | 5, _ => rfl | 6, _ => rfl | 7, _ => rfl | j + 8, h => absurd h (by omega)⟩⟩
    | 3, _ => exact ⟨_, rfl, Or.inl rfl⟩
    | 4, _ => exact ⟨_, rfl, Or.inl rfl⟩
    | 5, _ => exact ⟨_, rfl, Or.inl rfl⟩
    | 6, _ => exact ⟨_, rfl, Or.inl rfl⟩
    | 7, _ => exact ⟨_, rfl, Or.inl rfl⟩
    | 8, _ => exact ⟨_, rfl, Or.inl rfl⟩
    | 9, _ => exact ⟨_, rfl, Or.inl rfl⟩
    | 10, _ => exact ⟨_, rfl, Or.inl rfl⟩
    | 11, _ => exact ⟨_, rfl, Or.inl rfl⟩
    | 12, _ => exact ⟨_, rfl, Or.inr ⟨_, _, _, _, rfl, rfl, fun j hj => match j, hj with | 0, _ => rfl | 1, _ => rfl | 2, _ => rfl | 3, _ => rfl | 4, _ => rfl | 5, _ => rfl | 6, _ => rfl | 7, _ => rfl | j + 8, h => absurd h (by omega)⟩⟩
    | 13, _ => exact ⟨_, rfl, Or.inl rfl⟩
    | 14, _ => exact ⟨_, rfl, Or.inl rfl⟩
    | 15, _ => exact ⟨_, rfl, Or.inl rfl⟩
    | 16, _ => exact ⟨_, rfl, Or.inl rfl⟩
    | 17, _ => exact ⟨_, rfl, Or.inl rfl⟩
    | 18, _ => exact ⟨_, rfl, Or.inl rfl⟩
    | 19, _ => exact ⟨_, rfl, Or.inl rfl⟩
    | 20, _ => exact ⟨_, rfl, Or.inl rfl⟩
    | 21, _ => exact ⟨_, rfl, Or.inl rfl⟩
    | 22, _ => exact ⟨_, rfl, Or.inl rfl⟩
    | 23, _ => exact ⟨_, rfl, Or.inl rfl⟩
    | 24, _ => exact ⟨_, rfl, Or.inl rfl⟩
    | 25, _ => exact ⟨_, rfl, Or.inl rfl⟩
    | 26, _ => exact ⟨_, rfl, Or.inl rfl⟩
    | 27, _ => exact ⟨_, rfl, Or.inl rfl⟩
    | 28, _ => exact ⟨_, rfl, Or.inl rfl⟩
    | 29, _ => exact ⟨_, rfl, Or.inl rfl⟩
    | 30, _ => exact ⟨_, rfl, Or.inl rfl⟩
    | 31, _ => exact ⟨_, rfl, Or.inl rfl⟩
    | 32, _ => exact ⟨_, rfl, Or.inl rfl⟩
    | 33, _ => exact ⟨_, rfl, Or.inr ⟨_, _, _, _, rfl, rfl, fun j hj => match j, hj with | 0, _ => rfl | 1, _ => rfl | 2, _ => rfl | 3, _ => rfl | 4, _ => rfl | 5, _ => rfl | j + 6, h => absurd h (by omega)⟩⟩
    | 34, _ => exact ⟨_, rfl, Or.inl rfl⟩
    | 35, _ => exact ⟨_, rfl, Or.inl rfl⟩
    | 36, _ => exact ⟨_, rfl, Or.inl rfl⟩
    | 37, _ => exact ⟨_, rfl, Or.inl rfl⟩
    | 38, _ => exact ⟨_, rfl, Or.inl rfl⟩
    | 39, _ => exact ⟨_, rfl, Or.inl rfl⟩
    | 40, _ => exact ⟨_, rfl, Or.inl rfl⟩
    | 41, _ => exact ⟨_, rfl, Or.inl rfl⟩
    | 42, _ => exact ⟨_, rfl, Or.inl rfl⟩
    | 43, _ => exact ⟨_, rfl, Or.inl rfl⟩
    | 44, _ => exact ⟨_, rfl, Or.inl rfl⟩
    | 45, _ => exact ⟨_, rfl, Or.inl rfl⟩
    | 46, _ => exact ⟨_, rfl, Or.inl rfl⟩
    | 47, _ => exact ⟨_, rfl, Or.inl rfl⟩
    | 48, _ => exact ⟨_, rfl, Or.inl rfl⟩
    | 49, _ => exact ⟨_, rfl, Or.inl rfl⟩
    | 50, _ => exact ⟨_, rfl, Or.inl rfl⟩
    | 51, _ => exact ⟨_, rfl, Or.inl rfl⟩
    | 52, _ => exact ⟨_, rfl, Or.inl rfl⟩
    | 53, _ => exact ⟨_, rfl, Or.inl rfl⟩
    | 54, _ => exact ⟨_, rfl, Or.inl rfl⟩
    | 55, _ => exact ⟨_, rfl, Or.inl rfl⟩
    | k + 56, h => exact absurd h (by omega)
