/-! the law from its entry -/
theorem nest_in {l : List (String × Nat × MethodName × String)} (is : List Nat) (h : is.map (fun i => lw_tbl[i]?) = l.map (fun q => some (Cond.methodLinkNest q.1 q.2.1 q.2.2.1 q.2.2.2))) : ∀ (i : Nat) (q : String × Nat × MethodName × String), l[i]? = some q → Cond.methodLinkNest q.1 q.2.1 q.2.2.1 q.2.2.2 ∈ lw_tbl := by
  intro i q hq
  have h1 : some (Cond.methodLinkNest q.1 q.2.1 q.2.2.1 q.2.2.2) ∈ is.map (fun i => lw_tbl[i]?) := by rw [h]; exact List.mem_map.mpr ⟨q, List.mem_of_getElem? hq, rfl⟩
  obtain ⟨j, -, hj⟩ := List.mem_map.mp h1
  exact List.mem_of_getElem? hj
theorem nestL_in : ∀ (i : Nat) (q : String × Nat × MethodName × String), nestL[i]? = some q → Cond.methodLinkNest q.1 q.2.1 q.2.2.1 q.2.2.2 ∈ lw_tbl := nest_in [291, 294, 297, 356, 398, 408, 416, 419, 420, 480, 504, 566, 576, 607, 653, 658, 695, 710, 757, 766, 780] (by decide +kernel)
theorem nestN_in : ∀ (i : Nat) (q : String × Nat × MethodName × String), nestN[i]? = some q → Cond.methodLinkNest q.1 q.2.1 q.2.2.1 q.2.2.2 ∈ lw_tbl := nest_in [72, 121, 219, 116, 141, 166, 181, 200, 212, 214] (by decide +kernel)
theorem strL_in : ∀ (i : Nat) (q : String × Nat × String), strL[i]? = some q → Cond.stringRef q.1 q.2.1 q.2.2 ∈ lw_tbl := by
  intro i q hq
  have h : ([485, 549, 550, 551, 552, 553, 554, 555, 556, 689, 690, 691, 692, 693] : List Nat).map (fun i => lw_tbl[i]?) = strL.map (fun q => some (Cond.stringRef q.1 q.2.1 q.2.2)) := by decide +kernel
  have h1 : some (Cond.stringRef q.1 q.2.1 q.2.2) ∈ ([485, 549, 550, 551, 552, 553, 554, 555, 556, 689, 690, 691, 692, 693] : List Nat).map (fun i => lw_tbl[i]?) := by rw [h]; exact List.mem_map.mpr ⟨q, List.mem_of_getElem? hq, rfl⟩
  obtain ⟨j, -, hj⟩ := List.mem_map.mp h1
  exact List.mem_of_getElem? hj
/-- the String constants as terms -/
def tmL (i : Nat) : Term := Term.string (strL.getD i ("", 0, "")).1 (strL.getD i ("", 0, "")).2.1
theorem str_given {args : Array Value} {s : State} (hgv : (Jvm.Cond.and given_1 narrow_1).before args s = true) {A : Nat → Prop} (hA : ∀ a : Nat, a < s.heap.size → ¬ A a) : ∃ adK adV : Nat → Nat, vk_S 14 sLen sByt adK adV A s s.heap ∧ ∀ i : Nat, i < 14 → (tmL i).eval args s none [] s = some (.ref (adK i)) := by
  have hs := flat_of_before _ hgv
  have m1 : ∀ i : Nat, i < 14 → Cond.exactly (tmL i) "java/lang/String" ∈ flatC (Jvm.Cond.and given_1 narrow_1) := fun i hi => of_decide_eq_true (List.all_eq_true.mp (show (List.range 14).all (fun i => decide (Cond.exactly (tmL i) "java/lang/String" ∈ flatC (Jvm.Cond.and given_1 narrow_1))) = true by decide +kernel) i (List.mem_range.mpr hi))
  have m2 : ∀ i : Nat, i < 14 → Cond.eq (.field (tmL i) "java/lang/String" "coder" "B") (.int 0) ∈ flatC (Jvm.Cond.and given_1 narrow_1) := fun i hi => of_decide_eq_true (List.all_eq_true.mp (show (List.range 14).all (fun i => decide (Cond.eq (.field (tmL i) "java/lang/String" "coder" "B") (.int 0) ∈ flatC (Jvm.Cond.and given_1 narrow_1))) = true by decide +kernel) i (List.mem_range.mpr hi))
  have m3 : ∀ i : Nat, i < 14 → Cond.arrayOf (.field (tmL i) "java/lang/String" "value" "[B") .byte ∈ flatC (Jvm.Cond.and given_1 narrow_1) := fun i hi => of_decide_eq_true (List.all_eq_true.mp (show (List.range 14).all (fun i => decide (Cond.arrayOf (.field (tmL i) "java/lang/String" "value" "[B") .byte ∈ flatC (Jvm.Cond.and given_1 narrow_1))) = true by decide +kernel) i (List.mem_range.mpr hi))
  have m4 : ∀ i : Nat, i < 14 → Cond.eq (.length (.field (tmL i) "java/lang/String" "value" "[B")) (.int (Int32.ofNat (sLen.getD i 0))) ∈ flatC (Jvm.Cond.and given_1 narrow_1) := fun i hi => of_decide_eq_true (List.all_eq_true.mp (show (List.range 14).all (fun i => decide (Cond.eq (.length (.field (tmL i) "java/lang/String" "value" "[B")) (.int (Int32.ofNat (sLen.getD i 0))) ∈ flatC (Jvm.Cond.and given_1 narrow_1))) = true by decide +kernel) i (List.mem_range.mpr hi))
  have m5 : ∀ i : Nat, i < 14 → ∀ j : Nat, j < sLen.getD i 0 → Cond.eq (.elem (.field (tmL i) "java/lang/String" "value" "[B") (.int (Int32.ofNat j))) (.int ((sByt.getD i []).getD j 0)) ∈ flatC (Jvm.Cond.and given_1 narrow_1) := fun i hi j hj => of_decide_eq_true (List.all_eq_true.mp (List.all_eq_true.mp (show (List.range 14).all (fun i => (List.range (sLen.getD i 0)).all (fun j => decide (Cond.eq (.elem (.field (tmL i) "java/lang/String" "value" "[B") (.int (Int32.ofNat j))) (.int ((sByt.getD i []).getD j 0)) ∈ flatC (Jvm.Cond.and given_1 narrow_1)))) = true by decide +kernel) i (List.mem_range.mpr hi)) j (List.mem_range.mpr hj))
  have m6 : ∀ i : Nat, i < 14 → ∀ j : Nat, j < 14 → i < j → Cond.not (Cond.eq (tmL i) (tmL j)) ∈ flatC (Jvm.Cond.and given_1 narrow_1) := fun i hi j hj hij => by
    have h := List.all_eq_true.mp (List.all_eq_true.mp (show (List.range 14).all (fun i => (List.range 14).all (fun j => decide (j ≤ i) || decide ((flatC (Jvm.Cond.and given_1 narrow_1))[([0, 25, 34, 45, 56, 68, 80, 94, 110, 125, 142, 159, 177, 196, 0, 0, 35, 46, 57, 69, 81, 95, 111, 126, 143, 160, 178, 197, 0, 0, 0, 47, 58, 70, 82, 96, 112, 127, 144, 161, 179, 198, 0, 0, 0, 0, 59, 71, 83, 97, 113, 128, 145, 162, 180, 199, 0, 0, 0, 0, 0, 72, 84, 98, 114, 129, 146, 163, 181, 200, 0, 0, 0, 0, 0, 0, 85, 99, 115, 130, 147, 164, 182, 201, 0, 0, 0, 0, 0, 0, 0, 100, 116, 131, 148, 165, 183, 202, 0, 0, 0, 0, 0, 0, 0, 0, 117, 132, 149, 166, 184, 203, 0, 0, 0, 0, 0, 0, 0, 0, 0, 133, 150, 167, 185, 204, 0, 0, 0, 0, 0, 0, 0, 0, 0, 0, 151, 168, 186, 205, 0, 0, 0, 0, 0, 0, 0, 0, 0, 0, 0, 169, 187, 206, 0, 0, 0, 0, 0, 0, 0, 0, 0, 0, 0, 0, 188, 207, 0, 0, 0, 0, 0, 0, 0, 0, 0, 0, 0, 0, 0, 208, 0, 0, 0, 0, 0, 0, 0, 0, 0, 0, 0, 0, 0, 0] : List Nat).getD (14 * i + j) 0]? = some (Cond.not (Cond.eq (tmL i) (tmL j)))))) = true by decide +kernel) i (List.mem_range.mpr hi)) j (List.mem_range.mpr hj)
    simp only [Bool.or_eq_true, decide_eq_true_eq] at h
    rcases h with h | h
    · omega
    · exact List.mem_of_getElem? h
  refine vk_Sof (tm := tmL) (fun i hi => sc_small i hi) (fun i hi => hs _ (m1 i hi)) (fun i hi => hs _ (m2 i hi)) (fun i hi => hs _ (m3 i hi)) (fun i hi => hs _ (m4 i hi)) (fun i hi j hj => hs _ (m5 i hi j hj)) (fun i j hi hj hij => ?_) hA
  rcases Nat.lt_or_ge i j with q | q
  · exact Or.inl (hs _ (m6 i hi j hj q))
  · exact Or.inr (hs _ (m6 j hj i hi (by omega)))
theorem D_right {A : Nat → Prop} {a b : va_W} (h : va_D A (a ++ b)) : va_D A b :=
  ⟨fun i j p q hi hj e => by
    have := h.1 (a.length + i) (a.length + j) p q (by rw [List.getElem?_append_right (by omega), Nat.add_sub_cancel_left]; exact hi) (by rw [List.getElem?_append_right (by omega), Nat.add_sub_cancel_left]; exact hj) e
    omega, fun k q hk => h.2 (a.length + k) q (by rw [List.getElem?_append_right (by omega), Nat.add_sub_cancel_left]; exact hk)⟩
theorem in_tbl (i : Nat) {w : Cond} (h : lw_tbl[i]? = some w) : w ∈ lw_tbl := List.mem_of_getElem? h
theorem arrK {args : Array Value} {s : State} {ty : FieldType} (h : (Cond.arrayClass ty).before args s = true) : ∃ c : ClassId, ArrOfT s c ty ∧ s.vm.findClass ("[" ++ ty.toString) = some c := by
  obtain ⟨c, k, comp, h1, h2, h3⟩ := Cond.arrayClass_spec h
  exact ⟨c, fun n z => ⟨fun j q => (by cases q), k, h2, comp, h3⟩, h1⟩
theorem arrO {args : Array Value} {s : State} {C : String} (h : (Cond.arrayOver (.object C)).before args s = true) : ∃ c : ClassId, ArrOfT s c (.object C) ∧ va_RA s c (.object C) := by
  obtain ⟨comp, c, k, h1, -, h3, h4, h5⟩ := Cond.arrayOver_spec h
  exact ⟨c, fun n z => ⟨fun j q => (by cases q), k, h3, comp, h4⟩, k, comp, h3, h4, h1, h5⟩
set_option maxRecDepth 100000 in
set_option maxHeartbeats 4000000 in
theorem world_start {p : Program} {s : State} {m : MethodId} {meth : Method} {c : Code} {b L : Nat} {xs : Nat → Int32} (C0 : lw_At p s m meth c b L xs) : ∃ (dC : Nat → ClassId) (dI : Nat → Nat → Nat) (cA : Nat → ClassId) (adK adV : Nat → Nat), KL dC dI cA adK adV (fun q => s.heap.size ≤ q) s ∧ KN dC dI cA s := by
  obtain ⟨hx, hb, hr, hml, hown, hts, hX, hbl, hlocks, hgv⟩ := C0
  obtain ⟨c0, i0, k0⟩ := u_known (C := RX0) (T := TX0) (N := 4) (n := 4) hts (fun w h => G_tbl (inG_X0 w h)) (hts _ (G_tbl G_is_X0))
  obtain ⟨c1, i1, k1⟩ := u_known (C := RX1) (T := TX1) (N := 7) (n := 7) hts (fun w h => G_tbl (inG_X1 w h)) (hts _ (G_tbl G_is_X1))
  obtain ⟨c2, i2, k2⟩ := u_known (C := RX2) (T := TX2) (N := 4) (n := 4) hts (fun w h => G_tbl (inG_X2 w h)) (hts _ (G_tbl G_is_X2))
  obtain ⟨c3, i3, k3⟩ := u_known (C := RX3) (T := TX3) (N := 2) (n := 2) hts (fun w h => G_tbl (inG_X3 w h)) (hts _ (G_tbl G_is_X3))
  obtain ⟨c4, i4, k4⟩ := u_known (C := RX4) (T := TX4) (N := 2) (n := 2) hts (fun w h => G_tbl (inG_X4 w h)) (hts _ (G_tbl G_is_X4))
  obtain ⟨c5, i5, k5⟩ := u_known (C := RX5) (T := TX5) (N := 3) (n := 3) hts (fun w h => G_tbl (inG_X5 w h)) (hts _ (G_tbl G_is_X5))
  obtain ⟨c6, i6, k6⟩ := u_known (C := RX6) (T := TX6) (N := 2) (n := 2) hts (fun w h => G_tbl (inG_X6 w h)) (hts _ (G_tbl G_is_X6))
  obtain ⟨c7, i7, k7⟩ := u_known (C := RX7) (T := TX7) (N := 4) (n := 4) hts (fun w h => G_tbl (inG_X7 w h)) (hts _ (G_tbl G_is_X7))
  obtain ⟨c8, i8, k8⟩ := u_known (C := RX8) (T := TX8) (N := 12) (n := 12) hts (fun w h => G_tbl (inG_X8 w h)) (hts _ (G_tbl G_is_X8))
  obtain ⟨c9, i9, k9⟩ := u_known (C := RX9) (T := TX9) (N := 44) (n := 44) hts (fun w h => G_tbl (inG_X9 w h)) (hts _ (G_tbl G_is_X9))
  obtain ⟨a0, r0, f0⟩ := arrK (hts _ (in_tbl 138 (by decide +kernel)) : (Cond.arrayClass .int).before #[Value.ref b] s = true)
  obtain ⟨a1, r1, f1⟩ := arrK (hts _ (in_tbl 942 (by decide +kernel)) : (Cond.arrayClass .char).before #[Value.ref b] s = true)
  have w2 : (Cond.arrayOver (.object RX1)).before #[Value.ref b] s = true := hts _ (in_tbl 70 (by decide +kernel))
  have w3 : (Cond.arrayOver (.object RX2)).before #[Value.ref b] s = true := hts _ (in_tbl 197 (by decide +kernel))
  obtain ⟨a2, r2, f2⟩ := arrO w2
  obtain ⟨a3, r3, f3⟩ := arrO w3
  have hA : ∀ a : Nat, a < s.heap.size → ¬ (fun q : Nat => s.heap.size ≤ q) a := fun a h q => Nat.not_le.mpr h q
  obtain ⟨adK, adV, hS, hE⟩ := str_given hgv hA
  have hs := flat_of_before _ hgv
  have hKc : va_K (fun k => ([c0, c1, c2, c3, c4, c5, c6, c7, c8, c9] : List ClassId).getD k c0, fun k => ([i0, i1, i2, i3, i4, i5, i6, i7, i8, i9] : List (Nat → Nat)).getD k i0) vwCl (tyl (fun k => ([a0, a1, a2, a3] : List ClassId).getD k a0)) s := by
    refine ⟨fun k q hq => ?_, fun k q hq => ?_⟩
    · match k, hq with
      | 0, hq => cases hq; exact k0
      | 1, hq => cases hq; exact k1
      | 2, hq => cases hq; exact k2
      | 3, hq => cases hq; exact k3
      | 4, hq => cases hq; exact k4
      | 5, hq => cases hq; exact k5
      | 6, hq => cases hq; exact k6
      | 7, hq => cases hq; exact k7
      | 8, hq => cases hq; exact k8
      | 9, hq => cases hq; exact k9
      | k + 10, hq => exact absurd (List.getElem?_eq_some_iff.mp hq).1 (by show ¬ k + 10 < 10; omega)
    · match k, hq with
      | 0, hq => cases hq; exact ⟨r0, f0⟩
      | 1, hq => cases hq; exact ⟨r1, f1⟩
      | 2, hq => cases hq; exact ⟨r2, f2⟩
      | 3, hq => cases hq; exact ⟨r3, f3⟩
      | k + 4, hq => exact absurd (List.getElem?_eq_some_iff.mp hq).1 (by show ¬ k + 4 < 4; omega)
  refine ⟨_, _, _, adK, adV, ⟨hKc, fun i q hq => va_Nw.of rfl (hts _ (nestL_in i q hq)), fun i q hq => ?_, hS, ?_, ?_⟩, hKc, fun i q hq => va_Nw.of rfl (hts _ (nestN_in i q hq)), va_AO.of w2, va_AO.of w3⟩
  · have hi : i < 14 := (List.getElem?_eq_some_iff.mp hq).1
    have he := hE i hi
    have et : tmL i = Term.string q.1 q.2.1 := by unfold tmL; rw [List.getD_eq_getElem?_getD, hq]; rfl
    rw [et] at he
    exact vk_R.of (hts _ (strL_in i q hq)) he
  · exact va_Zof (hts _ (in_tbl 499 (by decide +kernel))) (hts _ (in_tbl 51 (by decide +kernel))) (va_eqt (hs (Cond.eq (.static "java/lang/String" "COMPACT_STRINGS" "Z") (.int 1)) (by decide +kernel))) hA
  · exact va_Zqof (hts _ (in_tbl 520 (by decide +kernel))) (hts _ (in_tbl 53 (by decide +kernel))) (hs (Cond.isRef (.static "jdk/internal/util/Preconditions" "SIOOBE_FORMATTER" "Ljava/util/function/BiFunction;")) (by decide +kernel)) hA
/-- all that is held at the first -/
def zS : TA := ((0, fun _ => 0, fun _ => 0, fun _ => 0), (0, 10, fun _ => 0), (0, fun _ => 0), fun _ => (0, 0, 0, 0, 0, fun _ => 0), none)
theorem ok_zS : okA zS := ⟨⟨by show 0 ≤ 8; omega, fun k hk => absurd hk (Nat.not_lt_zero k)⟩, ⟨by show 0 ≤ 399; omega, by show 2 ≤ 10; omega, by show 10 < 17; omega, fun i hi => absurd hi (Nat.not_lt_zero i)⟩, ⟨by show 0 ≤ 80; omega, fun i hi => absurd hi (Nat.not_lt_zero i)⟩, fun h _ => ⟨by show 0 ≤ 2; omega, fun e => absurd e (by show ¬ 0 = 1; omega), fun e => absurd e (by show ¬ 0 = 2; omega)⟩, trivial⟩
theorem xa_zS : XA S0X zS := by
  refine ⟨⟨rfl, fun k hk => absurd hk (Nat.not_lt_zero k)⟩, ⟨rfl, rfl, fun i hi => absurd hi (Nat.not_lt_zero i)⟩, ⟨rfl, fun i hi => absurd hi (Nat.not_lt_zero i)⟩, fun h hh => ⟨?_, fun e => absurd e (by show ¬ 0 = 1; omega), fun e => absurd e (by show ¬ 0 = 2; omega)⟩, rfl⟩
  match h, hh with
  | 0, _ => rfl
  | 1, _ => rfl
  | 2, _ => rfl
  | 3, _ => rfl
  | 4, _ => rfl
  | 5, _ => rfl
  | h + 6, hh => exact absurd hh (by omega)
theorem ma_zS : MA S0M zS := by
  refine ⟨⟨rfl, fun k hk => absurd hk (Nat.not_lt_zero k)⟩, ⟨rfl, rfl, fun i hi => absurd hi (Nat.not_lt_zero i)⟩, ⟨rfl, fun i hi => absurd hi (Nat.not_lt_zero i)⟩, fun h hh => ⟨rfl, fun e => absurd e (by show ¬ 0 = 1; omega), fun e => absurd e (by show ¬ 0 = 2; omega)⟩, rfl, fun i hi => ?_, fun i hi => ?_, fun i hi => ?_⟩
  · show tbl cW 41 i = _; unfold tbl; rw [if_pos hi]
  · show tbl cC 21 i = _; unfold tbl; rw [if_pos hi]
  · show tbl cN 4 i = _; unfold tbl; rw [if_pos hi]
set_option maxRecDepth 100000 in
set_option maxHeartbeats 4000000 in
theorem whole_start {p : Program} {e : Env} {s : State} {m : MethodId} {below : List Frame} {meth : Method} {c : Code} (l : Launch) (hflags : l.flags = flags0) {b L : Nat} {xs : Nat → Int32} (hL : L ≤ 2560) (C0 : lw_At p s m meth c b L xs) : W p l e room_1 s m #[Value.ref b] below meth c s.heap [] 0 0 (lw_Z below #[Value.ref b] s) (entryFrame m ([Value.ref b] : List Value).toArray 4) := by
  obtain ⟨dC, dI, cA, adK, adV, hKL, hKN⟩ := world_start C0
  obtain ⟨hx, hb, hr, hml, hown0, hts0, hX, hbl, hlocks, hgv⟩ := id C0
  have hts : ∀ w ∈ G, w.before #[Value.ref b] s = true := fun w hw => hts0 w (G_tbl hw)
  have hown : s.vm.findClass RL = some m.cls := hown0
  have hK := hKL.1
  have hA : ∀ q : Nat, s.heap.size ≤ q → (fun q : Nat => s.heap.size ≤ q) q := fun _ h => h
  have hS : va_S (fun q : Nat => s.heap.size ≤ q) s.heap s.heap [] := va_S.rf
  have hP : va_P (dC, dI) vwCl ([] : va_W) s.heap := fun k q h => by simp at h
  have hD : va_D (fun q : Nat => s.heap.size ≤ q) ([] : va_W) := ⟨fun i j p q h => by simp at h, fun k q h => by simp at h⟩
  have hl := lv_entry ([.ref b]) (n := 4) (Nat.le_of_ble_eq_true rfl)
  rw [lg_entry_eq]
  generalize (lg_sl ([.ref b]) ++ List.replicate (4 - (lg_sl ([.ref b])).length) Slot.unset).toArray = ls at hl ⊢
  have hl : lv_has ls 4 [(0, .ref b)] := hl
  refine va_new (ci := 8) (fs := [.null, .null, .null, .null, .null, .null, .null, .null, .int 0, .null, .null, .null]) (C := RX8) (T := TX8) (N := 12) hx hb hts inG_X8 tyX8 tyX8_ok hown (hts _ G_kl_L_7) (hts _ G_is_X8) (hts _ G_in_X8) hK hP hD hS hA rfl df_X8 (Nat.le_of_ble_eq_true rfl) (Nat.le_of_ble_eq_true rfl) dL_law_0 (fun q1 H hP hD hS => ?_)
  refine lv_dup hx hb dL_law_3 rfl ?_
  refine n_init (x := (q1, .inr (8, [.null, .null, .null, .null, .null, .null, .null, .null, .int 0, .null, .null, .null]))) (va_runI (As := []) (rest := [.ref q1]) ⟨hx, hb, hml, hown, hts⟩ (c_X8_init l q1 H.size) (cwI 0 hts (good_W G_cd_X8_init) rfl rfl rfl (hts _ G_in_X8) (hts _ G_ml_L_9) (hts _ G_im_X8_init) rfl hd_X8_init ⟨Nat.le_of_ble_eq_true rfl, Nat.le_of_ble_eq_true rfl⟩) (pre_init hP hKN) rfl rfl hl.1 rfl (lv_room (Nat.le_of_ble_eq_true rfl)) dL_law_4 ⟨Nat.le_of_ble_eq_true rfl, Nat.le_of_ble_eq_true rfl⟩) hP hD hS hA (fun P H locs hP0 hP hD hS => ?_)
  refine lv_astore_n (lv' := [(1, .ref q1), (0, .ref b)]) hx hb dL_law_7 rfl hl (by decide) rfl (fun ls hl => ?_)
  refine va_new (ci := 9) (fs := [.int 0, .null, .null, .null, .int 0, .int 0, .int 0, .null, .null, .null, .null, .int 0, .null, .int 0, .int 0, .int 0, .null, .null, .null, .null, .null, .int 0, .int 0, .int 0, .long 0, .long 0, .int 0, .long 0, .long 0, .null, .null, .null, .null, .null, .null, .null, .int 0, .int 0, .null, .null, .null, .int 0, .int 0, .null]) (C := RX9) (T := TX9) (N := 44) hx hb hts inG_X9 tyX9 tyX9_ok hown (hts _ G_kl_L_10) (hts _ G_is_X9) (hts _ G_in_X9) hK hP hD hS hA rfl df_X9 (Nat.le_of_ble_eq_true rfl) (Nat.le_of_ble_eq_true rfl) dL_law_8 (fun q2 H hP hD hS => ?_)
  refine lv_dup hx hb dL_law_11 rfl ?_
  refine n_init (x := (q2, .inr (9, [.int 0, .null, .null, .null, .int 0, .int 0, .int 0, .null, .null, .null, .null, .int 0, .null, .int 0, .int 0, .int 0, .null, .null, .null, .null, .null, .int 0, .int 0, .int 0, .long 0, .long 0, .int 0, .long 0, .long 0, .null, .null, .null, .null, .null, .null, .null, .int 0, .int 0, .null, .null, .null, .int 0, .int 0, .null]))) (va_runI (As := []) (rest := [.ref q2]) ⟨hx, hb, hml, hown, hts⟩ (c_X9_init l q2 H.size) (cwI 0 hts (good_W G_cd_X9_init) rfl rfl rfl (hts _ G_in_X9) (hts _ G_ml_L_12) (hts _ G_im_X9_init) rfl hd_X9_init ⟨Nat.le_of_ble_eq_true rfl, Nat.le_of_ble_eq_true rfl⟩) (pre_init hP hKN) rfl rfl hl.1 rfl (lv_room (Nat.le_of_ble_eq_true rfl)) dL_law_12 ⟨Nat.le_of_ble_eq_true rfl, Nat.le_of_ble_eq_true rfl⟩) hP hD hS hA (fun Q H locs hQ0 hP hD hS => ?_)
  refine lv_astore_n (lv' := [(2, .ref q2), (1, .ref q1), (0, .ref b)]) hx hb dL_law_15 rfl hl (by decide) rfl (fun ls hl => ?_)
  refine lv_iconst (v := 0) hx hb dL_law_16 (by decide) ?_
  refine lv_istore_n (lv' := [(3, .int 0), (2, .ref q2), (1, .ref q1), (0, .ref b)]) hx hb dL_law_17 rfl hl (by decide) rfl (fun ls hl => ?_)
  have hP1 : va_P (dC, dI) vwCl (wsL 56 (encX P cA) P S0X ++ wsL 25 (encM Q cA) Q S0M) H := hP
  have hD1 : va_D (fun q : Nat => s.heap.size ≤ q) (wsL 56 (encX P cA) P S0X ++ wsL 25 (encM Q cA) Q S0M) := hD
  have dX := wsL_D (D_left hD1)
  have dM := wsL_D (D_right hD1)
  have hap : ∀ i j, i < 56 → j < 25 → P i ≠ Q j := fun i j hi hj e => by
    have h1 : (wsL 56 (encX P cA) P S0X ++ wsL 25 (encM Q cA) Q S0M)[i]? = some (P i, encX P cA i (S0X.1 i) (S0X.2 i)) := by rw [List.getElem?_append_left (by simpa [wsL] using hi)]; exact ws_at hi rfl
    have h2 : (wsL 56 (encX P cA) P S0X ++ wsL 25 (encM Q cA) Q S0M)[56 + j]? = some (Q j, encM Q cA j (S0M.1 j) (S0M.2 j)) := by rw [List.getElem?_append_right (by simp [wsL])]; simp only [wsL, List.length_map, List.length_range, Nat.add_sub_cancel_left]; exact ws_at (S := S0M) hj rfl
    have := hD1.1 _ _ _ _ h1 h2 e
    omega
  have hPQ : PQ P Q s.heap.size := ⟨dX.1, dM.1, hap, dX.2, dM.2⟩
  refine W.widen (k := 81) (n := 9740) (Nat.le_of_ble_eq_true rfl) (Nat.le_of_ble_eq_true rfl) ?_
  have hl : lv_has ls 4 [(3, .int (nI 0)), (2, .ref (Q 0)), (1, .ref (P 0)), (0, .ref b)] := by rw [hP0, hQ0]; exact hl
  exact law_loop hL C0 hKL hPQ (L + 1) 0 zS S0X S0M H locs ls (by omega) (by omega) ok_zS xa_zS ma_zS (P_left hP1) (P_right hP1) hS hl
