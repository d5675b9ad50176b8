set_option maxRecDepth 100000 in
set_option maxHeartbeats 4000000 in
theorem loop_X6 (l : Launch) {p : Program} {e : Env} {R : Room} {s : State} {m : MethodId} {args : Array Value} {below : List Frame} {meth : Method} {c : Code} {Q : State → Prop} {dC : Nat → ClassId} {dI : Nat → Nat → Nat} {cA : Nat → ClassId} {A : Nat → Prop} (hx : p.tables.exec = Jvm.exec) (hb : c.code = cX6_init) (hml : c.maxLocals = 2) (hown : s.vm.findClass RX6 = some m.cls) (hts : ∀ w ∈ G, w.before args s = true) (hKN : KN dC dI cA s) (hA : ∀ q, s.heap.size ≤ q → A q) (hR : 9 ≤ R.cells ∧ 64 ≤ R.slots ∧ 2 ≤ R.frames ∧ 32 ≤ R.locals) {h0 qa : Nat} {fs : List Value} (hfa : fs[0]? = some (.ref qa)) {rs : va_W}
    (kk : ∀ (U : Nat → Nat) (f : Nat → Option Nat) (H : Heap) (locs : List Loc) (ls : Array Slot), (∀ j, j < 8 → f j = some (U j)) → va_P (dC, dI) vwCl ((h0, .inr (6, fs)) :: (qa, .inl (cA 2, 8, .inr (.inr (.inr (.inr f))))) :: (rs ++ plX (fun q => nw1 cA q ()) 8 U)) H → va_D A ((h0, .inr (6, fs)) :: (qa, .inl (cA 2, 8, .inr (.inr (.inr (.inr f))))) :: (rs ++ plX (fun q => nw1 cA q ()) 8 U)) → va_S A s.heap H locs → W p l e R s m args below meth c H locs 9 64 Q (F0 m 48 ls [])) :
    ∀ (n i : Nat) (U : Nat → Nat) (f : Nat → Option Nat) (H : Heap) (locs : List Loc) (ls : Array Slot) (cs sl : Nat), i + n = 8 → cs = 1 + 1 * i → sl = 8 + 7 * i → (∀ j, j < i → f j = some (U j)) → va_P (dC, dI) vwCl ((h0, .inr (6, fs)) :: (qa, .inl (cA 2, 8, .inr (.inr (.inr (.inr f))))) :: (rs ++ plX (fun q => nw1 cA q ()) i U)) H → va_D A ((h0, .inr (6, fs)) :: (qa, .inl (cA 2, 8, .inr (.inr (.inr (.inr f))))) :: (rs ++ plX (fun q => nw1 cA q ()) i U)) → va_S A s.heap H locs → lv_has ls 2 [(1, .int (nI i)), (0, .ref h0)] → W p l e R s m args below meth c H locs cs sl Q (F0 m 20 ls []) := by
  have hK := hKN.1
  obtain ⟨hR1, hR2, hR3, hR4⟩ := hR
  intro n
  induction n with
  | zero =>
    intro i U f H locs ls cs sl h1 h2 h3 hf hP hD hS hl
    obtain rfl : i = 8 := by omega
    obtain rfl : cs = 9 := by omega
    obtain rfl : sl = 64 := by omega
    refine lv_iload_n hx hb dX6_init_20 rfl (lv_at hl 0 rfl) ?_
    refine lv_aload_n hx hb dX6_init_21 rfl (lv_at hl 1 rfl) ?_
    refine va_get (ci := 6) (v := .ref qa) (C := RX6) (T := TX6) (N := 2) hx hb hts inG_X6 hown hK hP 0 rfl rfl 0 (by decide) (hts _ G_fl_X6_11) (fun _ z => z) hfa dX6_init_22 ?_
    refine va_alen (v := nI 8) hx hb hK hP 1 2 rfl rfl rfl dX6_init_25 ?_
    refine lv_icmp_ge (tgt := 48) hx hb dX6_init_26 (by decide) (fun _ => kk U f H locs ls hf hP hD hS) (fun c1 => absurd ((nI_leI (a := 8) (by omega) (by omega)).mpr (Nat.le_refl _)) c1)
  | succ n ih =>
    intro i U f H locs ls cs sl h1 h2 h3 hf hP hD hS hl
    refine lv_iload_n hx hb dX6_init_20 rfl (lv_at hl 0 rfl) ?_
    refine lv_aload_n hx hb dX6_init_21 rfl (lv_at hl 1 rfl) ?_
    refine va_get (ci := 6) (v := .ref qa) (C := RX6) (T := TX6) (N := 2) hx hb hts inG_X6 hown hK hP 0 rfl rfl 0 (by decide) (hts _ G_fl_X6_11) (fun _ z => z) hfa dX6_init_22 ?_
    refine va_alen (v := nI 8) hx hb hK hP 1 2 rfl rfl rfl dX6_init_25 ?_
    refine lv_icmp_ge (tgt := 48) hx hb dX6_init_26 (by decide) (fun c1 => absurd ((nI_leI (a := 8) (by omega) (by omega)).mp c1) (by omega)) (fun _ => ?_)
    refine lv_aload_n hx hb dX6_init_29 rfl (lv_at hl 1 rfl) ?_
    refine va_get (ci := 6) (v := .ref qa) (C := RX6) (T := TX6) (N := 2) hx hb hts inG_X6 hown hK hP 0 rfl rfl 0 (by decide) (hts _ G_fl_X6_11) (fun _ z => z) hfa dX6_init_30 ?_
    refine lv_iload_n hx hb dX6_init_33 rfl (lv_at hl 0 rfl) ?_
    refine va_new (ci := 1) (fs := [.int 0, .int 0, .int 0, .int 0, .int 0, .int 0, .int 0]) (C := RX1) (T := TX1) (N := 7) hx hb hts inG_X1 tyX1 tyX1_ok hown (hts _ G_kl_X6_9) (hts _ G_is_X1) (hts _ G_in_X1) hK hP hD hS hA rfl df_X1 (by omega) (by omega) dX6_init_34 (fun q H hP hD hS => ?_)
    refine lv_dup hx hb dX6_init_37 rfl ?_
    refine n_init (x := (q, .inr (1, [.int 0, .int 0, .int 0, .int 0, .int 0, .int 0, .int 0]))) (wc := nw1 cA q) (va_runIN (As := []) (rest := [.ref q, .int (nI i), .ref qa]) ⟨hx, hb, hml, hown, hts⟩ (c_X1_init l q H.size) ⟨va_cnB 0 hts (good_W G_cd_X1_init) rfl rfl rfl (hKN.2.1 0 _ rfl) (hts _ G_in_X1) hd_X1_init ⟨by show 1 + 1 ≤ _; omega, by show 8 + (1 + 11) + 12 ≤ _; omega⟩, rfl, hts _ G_im_X1_init⟩ (pre_init hP hKN) rfl rfl hl.1 rfl (lv_room (Nat.le_of_ble_eq_true rfl)) dX6_init_38 ⟨by omega, by omega⟩) hP hD hS hA (fun u H locs _ hP hD hS => ?_)
    have hv : (((h0, .inr (6, fs)) :: (qa, .inl (cA 2, 8, .inr (.inr (.inr (.inr f))))) :: (rs ++ plX (fun q => nw1 cA q ()) i U)) ++ nw1 cA q u : va_W)[(rs ++ plX (fun q => nw1 cA q ()) i U).length + 2]? = some (q, .inr (1, [.int 0, .int 1, .int 10, .int 0, .int 1, .int 0, .int 1])) := by
      show ((rs ++ plX (fun q => nw1 cA q ()) i U) ++ nw1 cA q u : va_W)[(rs ++ plX (fun q => nw1 cA q ()) i U).length]? = _
      rw [List.getElem?_append_right (Nat.le_refl _), Nat.sub_self]; rfl
    refine va_astq (r := (RX1, TX1, 7)) hx hb hK hP hD hS 1 2 _ 1 rfl rfl hv rfl (vp_in_nI (by omega) (by omega)) dX6_init_41 (fun H locs hP hD hS => ?_)
    rw [nI_clamp (show i < 2 ^ 31 by omega)] at hP hD
    have hP : va_P (dC, dI) vwCl ((h0, .inr (6, fs)) :: (qa, .inl (cA 2, 8, .inr (.inr (.inr (.inr (va_up f i (some q))))))) :: (rs ++ plX (fun q => nw1 cA q ()) (i + 1) (va_up U i q))) H := by rw [plX_up, ← List.append_assoc]; exact hP
    have hD : va_D A ((h0, .inr (6, fs)) :: (qa, .inl (cA 2, 8, .inr (.inr (.inr (.inr (va_up f i (some q))))))) :: (rs ++ plX (fun q => nw1 cA q ()) (i + 1) (va_up U i q))) := by rw [plX_up, ← List.append_assoc]; exact hD
    refine lv_iinc (v := nI (i + 1)) (lv' := [(1, .int (nI (i + 1))), (0, .ref h0)]) hx hb dX6_init_42 hl (k := 0) rfl (by rw [show Int32.ofInt 1 = 1 from rfl]; exact nI_1 i) (by decide) rfl (fun ls hl => ?_)
    refine lv_goto (tgt := 20) hx hb dX6_init_45 (by decide) ?_
    refine ih (i + 1) (va_up U i q) (va_up f i (some q)) H locs ls _ _ (by omega) (by omega) (by omega) (fun j hj => ?_) hP hD hS hl
    by_cases z : j = i
    · subst z; rw [up_s, up_s]
    · rw [up_n _ _ _ _ z, up_n _ _ _ _ z]; exact hf j (by omega)
set_option maxRecDepth 100000 in
set_option maxHeartbeats 4000000 in
theorem c_X6_init (l : Launch) {dC : Nat → ClassId} {dI : Nat → Nat → Nat} {cA : Nat → ClassId} (h0 sz : Nat) : Met l yX6_init (wW yX6_init cX6_init 2 none) ({ frames := 2, cells := 9, slots := 64, locals := 32 } : Room) (va_Pc [.ref h0] (fun U => U.heap.size = sz ∧ va_P (dC, dI) vwCl [(h0, .inr (6, [.null, .int 0]))] U.heap ∧ KN dC dI cA U)) (va_Qv (fun _ => True) (fun u t => va_P (dC, dI) vwCl (nw6 cA h0 u) t.heap ∧ va_D (va_A [(h0, .inr (6, [.null, .int 0]))] sz) (nw6 cA h0 u)) (va_A [(h0, .inr (6, [.null, .int 0]))] sz)) 9 64 (va_A [(h0, .inr (6, [.null, .int 0]))] sz) := by
  refine Met.ofW (cc := cX6_init) (maxL := 2) (ret := none) (by decide) rfl ?_
  intro p e s m args below meth c s₁ B hml hv
  obtain ⟨rfl, hsz, hP, hKN⟩ := hv
  have hK := hKN.1
  have hts : ∀ w ∈ G, w.before [.ref h0].toArray s = true := fun w hw => atoms_spec (ws := wW yX6_init cX6_init 2 none) B.pre w (List.mem_cons_of_mem _ hw)
  have hx := B.exec
  have hb := B.bytes
  have hr := B.returns
  have hown : s.vm.findClass RX6 = some m.cls := findClass_of_methodNamed B.named
  have hlocks := B.notSynchronized
  have hin : meth.name = "<init>" := (name_of_methodNamed B.named B.method).1
  subst hsz
  have hD : va_D (va_A [(h0, .inr (6, [.null, .int 0]))] s.heap.size) [(h0, .inr (6, [.null, .int 0]))] := D_one _ _
  generalize hAe : va_A [(h0, .inr (6, [.null, .int 0]))] s.heap.size = A at hD ⊢
  have hA : ∀ q : Nat, s.heap.size ≤ q → A q := fun q h => by rw [← hAe]; exact Or.inr h
  have hS : va_S A s.heap s.heap [] := va_S.rf
  have hl := lv_entry ([.ref h0]) (n := 2) (Nat.le_of_ble_eq_true rfl)
  rw [lg_entry_eq]
  generalize (lg_sl ([.ref h0]) ++ List.replicate (2 - (lg_sl ([.ref h0])).length) Slot.unset).toArray = ls at hl ⊢
  have hl : lv_has ls 2 [(0, .ref h0)] := hl
  refine lv_aload_n hx hb dX6_init_0 rfl (lv_at hl 0 rfl) ?_
  refine W.objInit hx hb hown (hts _ G_ml_X6_3) (hts _ G_im_objectInit) (hts _ G_cd_objectInit) rfl (by rw [hml]; exact hl.1) rfl dX6_init_1 (Nat.le_of_ble_eq_true rfl) (Nat.le_of_ble_eq_true rfl) ?_
  refine W.eq (g2 := F0 m 4 ls []) rfl ?_
  have hP : va_P (dC, dI) vwCl ((h0, .inr (6, [.null, .int 0])) :: ([] : va_W)) s.heap := hP
  have hD : va_D A ((h0, .inr (6, [.null, .int 0])) :: ([] : va_W)) := hD
  refine lv_aload_n hx hb dX6_init_4 rfl (lv_at hl 0 rfl) ?_
  refine lv_bipush (v := 8) hx hb dX6_init_5 (by decide) ?_
  refine k_newQ (N' := 8) hx hb hown (hts _ G_kl_X6_9) hKN.2.2.1 hK hP hD hS hA 2 (by decide) rfl (by decide) (by decide) (Nat.le_of_ble_eq_true rfl) (Nat.le_of_ble_eq_true rfl) (Nat.le_of_ble_eq_true rfl) dX6_init_7 (fun q1 H hP hD hS => ?_)
  have hP : va_P (dC, dI) vwCl ((h0, .inr (6, [.null, .int 0])) :: (q1, .inl (cA 2, 8, .inr (.inr (.inr (.inr (fun _ => none)))))) :: ([] : va_W)) H := va_P.swap (a := [(h0, .inr (6, [.null, .int 0]))]) (b := ([] : va_W)) (c := [(q1, .inl (cA 2, 8, .inr (.inr (.inr (.inr (fun _ => none))))))]) hP
  have hD : va_D A ((h0, .inr (6, [.null, .int 0])) :: (q1, .inl (cA 2, 8, .inr (.inr (.inr (.inr (fun _ => none)))))) :: ([] : va_W)) := va_D.swap (a := [(h0, .inr (6, [.null, .int 0]))]) (b := ([] : va_W)) (c := [(q1, .inl (cA 2, 8, .inr (.inr (.inr (.inr (fun _ => none))))))]) hD
  refine va_putF (ci := 6) (v := .ref q1) (ty := .array (.object "TurningFractions$Fraction")) (C := RX6) (T := TX6) (N := 2) hx hb hts inG_X6 tyX6 tyX6_ok nmX6 hown hK hP hD hS 0 rfl rfl 0 (by decide) (hts _ G_fl_X6_11) (fun _ z => z) rfl hin rfl (by decide +kernel) rfl rfl (Nat.le_of_ble_eq_true rfl) dX6_init_10 (fun H locs hP hD hS => ?_)
  have hP : va_P (dC, dI) vwCl (((h0, .inr (6, [.ref q1, .int 0])) :: (q1, .inl (cA 2, 8, .inr (.inr (.inr (.inr (fun _ => none)))))) :: ([] : va_W))) H := hP
  have hD : va_D A (((h0, .inr (6, [.ref q1, .int 0])) :: (q1, .inl (cA 2, 8, .inr (.inr (.inr (.inr (fun _ => none)))))) :: ([] : va_W))) := hD
  refine lv_aload_n hx hb dX6_init_13 rfl (lv_at hl 0 rfl) ?_
  refine lv_iconst (v := 0) hx hb dX6_init_14 (by decide) ?_
  refine va_put (ci := 6) (v := .int 0) (ty := .int) (C := RX6) (T := TX6) (N := 2) hx hb hts inG_X6 tyX6 tyX6_ok nmX6 hown hK hP hD hS 0 rfl rfl 1 (by decide) (hts _ G_fl_X6_17) (fun _ z => z) rfl (by decide +kernel) rfl rfl (Nat.le_of_ble_eq_true rfl) dX6_init_15 (fun H locs hP hD hS => ?_)
  have hP : va_P (dC, dI) vwCl (((h0, .inr (6, [.ref q1, .int 0])) :: (q1, .inl (cA 2, 8, .inr (.inr (.inr (.inr (fun _ => none)))))) :: ([] : va_W))) H := hP
  have hD : va_D A (((h0, .inr (6, [.ref q1, .int 0])) :: (q1, .inl (cA 2, 8, .inr (.inr (.inr (.inr (fun _ => none)))))) :: ([] : va_W))) := hD
  refine lv_iconst (v := 0) hx hb dX6_init_18 (by decide) ?_
  refine lv_istore_n (lv' := [(1, .int 0), (0, .ref h0)]) hx hb dX6_init_19 rfl hl (by decide) rfl (fun ls hl => ?_)
  refine W.widen (k := 1) (n := 8) (Nat.le_of_ble_eq_true rfl) (Nat.le_of_ble_eq_true rfl) ?_
  refine loop_X6 l hx hb hml hown hts hKN hA ⟨Nat.le_of_ble_eq_true rfl, Nat.le_of_ble_eq_true rfl, Nat.le_of_ble_eq_true rfl, Nat.le_of_ble_eq_true rfl⟩ rfl (rs := []) (fun U f H locs ls hf hP hD hS => ?_) 8 0 (fun _ => 0) (fun _ => none) H locs ls _ _ rfl rfl rfl (fun j hj => absurd hj (Nat.not_lt_zero j)) hP hD hS hl
  have hP := P_rf (g := fun j => some (U j)) hP hf
  have hD := D_rf (y := .inl (cA 2, 8, .inr (.inr (.inr (.inr (fun j => some (U j))))))) hD
  exact W.vret hx hb hr (fun t ht hW => ⟨⟨(q1, U), rfl, trivial, by rw [ht]; exact hP, hD⟩, hS.F ht⟩) hS.2.2 dX6_init_48
theorem to_wsL {N : Nat} {E : wE} {P : Nat → Nat} {S : St} {D : va_G} {cl : List vw_C} {A : Nat → Prop} {H : Heap} {ws : va_W} (hP : va_P D cl ws H) (hD : va_D A ws) (g : Nat → Nat) (hg : ∀ k, k < N → ∃ x : va_E, ws[g k]? = some (P k, x) ∧ (x = E k (S.1 k) (S.2 k) ∨ ∃ (cX : ClassId) (n : Nat) (f f2 : Nat → Option Nat), x = .inl (cX, n, .inr (.inr (.inr (.inr f)))) ∧ E k (S.1 k) (S.2 k) = .inl (cX, n, .inr (.inr (.inr (.inr f2)))) ∧ ∀ j, j < n → f j = f2 j)) (hi : ∀ i j, i < N → j < N → g i = g j → i = j) : va_P D cl (wsL N E P S) H ∧ va_D A (wsL N E P S) := by
  refine ⟨fun k q hk => ?_, fun i j u v hu hv e => ?_, fun k q hk => ?_⟩
  · obtain ⟨h1, rfl⟩ := ws_some hk
    obtain ⟨x, hx, hc⟩ := hg k h1
    have h2 := hP _ _ hx
    rcases hc with rfl | ⟨cX, n, f, f2, rfl, h4, h5⟩
    · exact h2
    · rw [h4]
      have h3 : H[P k]? = some (vp_cell cX (n, .inr (.inr (.inr (.inr f))))) := h2
      show H[P k]? = some (vp_cell cX (n, .inr (.inr (.inr (.inr f2)))))
      rw [h3, vp_cell_q, vp_cell_q]
      unfold arrV
      congr 3
      funext j
      show va_rf (f j.val) = va_rf (f2 j.val)
      rw [h5 j.val j.isLt]
  · obtain ⟨h1, rfl⟩ := ws_some hu
    obtain ⟨h2, rfl⟩ := ws_some hv
    obtain ⟨x, hx, -⟩ := hg i h1
    obtain ⟨y, hy, -⟩ := hg j h2
    exact hi i j h1 h2 (hD.1 _ _ _ _ hx hy e)
  · obtain ⟨h1, rfl⟩ := ws_some hk
    obtain ⟨x, hx, -⟩ := hg k h1
    exact hD.2 (g k) (P k, x) hx
theorem wsL_D {N : Nat} {E : wE} {P : Nat → Nat} {S : St} {A : Nat → Prop} (h : va_D A (wsL N E P S)) : PInj N P ∧ ∀ k, k < N → A (P k) :=
  ⟨fun i j hi hj e => h.1 i j _ _ (ws_at hi rfl) (ws_at hj rfl) e, fun k hk => h.2 k _ (ws_at hk rfl)⟩
/-- what X and M hold at the first -/
def S0X : St := (fun k => match kdX k with
  | 1 => fun i => ([0, 1, 10, 0, 1, 0, 1] : List Int32).getD i 0
  | 0 => fun i => if i = 2 then 10 else 0
  | _ => fun _ => 0, fun k => match kdX k with
  | 3 => fun i => if i = 1 then 1 else 0
  | _ => fun _ => 0)
def S0M : St := (fun k => match k with
  | 0 => fun i => if i = 15 then 10 else 0
  | 10 => tbl cW 41
  | 11 => tbl cC 21
  | 12 => tbl cN 4
  | _ => fun _ => 0, fun _ => fun _ => 0)
