/-! constructors: rows -/
def nestN : List (String × Nat × MethodName × String) := [(RX6, 21, yX1_init, "TurningFractions"), (RX0, 24, yX1_init, "TurningFractions"), (RX2, 17, yX1_init, "TurningFractions"), (RX8, 20, yX0_init, "TurningFractions"), (RX8, 27, yX7_init, "TurningFractions"), (RX8, 34, yX3_init, "TurningFractions"), (RX8, 41, yX5_init, "TurningFractions"), (RX8, 64, yX4_init, "TurningFractions"), (RX8, 71, yX1_init, "TurningFractions"), (RX8, 80, yX2_init, "TurningFractions")]
def KN (dC : Nat → ClassId) (dI : Nat → Nat → Nat) (cA : Nat → ClassId) (U : State) : Prop := va_K (dC, dI) vwCl (tyl cA) U ∧ (∀ (i : Nat) (q : String × Nat × MethodName × String), nestN[i]? = some q → va_Nw (.methodLinkNest q.1 q.2.1 q.2.2.1 q.2.2.2) U) ∧ va_AO RX1 U ∧ va_AO RX2 U
theorem KN.calling {dC : Nat → ClassId} {dI : Nat → Nat → Nat} {cA : Nat → ClassId} {U : State} (h : KN dC dI cA U) (g : JFrame) (mk : MethodId) (a : Array Value) : KN dC dI cA (U.calling g mk a) := by
  obtain ⟨h1, h2, h3, h4⟩ := h
  have al : U.vm.Alike (U.calling g mk a).vm := Vm.Alike.refl U.vm
  exact ⟨h1.moved al, fun i q hq => (h2 i q hq).same rfl rfl, va_AO.moved al h3, va_AO.moved al h4⟩
theorem KN.go {dC : Nat → ClassId} {dI : Nat → Nat → Nat} {cA : Nat → ClassId} {s U : State} (h : KN dC dI cA s) (hW : s.WarmedH U.vm) : KN dC dI cA U := by
  obtain ⟨h1, h2, h3, h4⟩ := h
  exact ⟨h1.moved hW.alike, fun i q hq => (h2 i q hq).warmM hW, va_AO.moved hW.alike h3, va_AO.moved hW.alike h4⟩
theorem P_left {D : va_G} {cl : List vw_C} {a b : va_W} {H : Heap} (h : va_P D cl (a ++ b) H) : va_P D cl a H := fun k q hk => h k q (by rw [List.getElem?_append_left (List.getElem?_eq_some_iff.mp hk).1]; exact hk)
theorem P_right {D : va_G} {cl : List vw_C} {a b : va_W} {H : Heap} (h : va_P D cl (a ++ b) H) : va_P D cl b H := fun k q hk => h (a.length + k) q (by rw [List.getElem?_append_right (by omega), Nat.add_sub_cancel_left]; exact hk)
theorem D_left {A : Nat → Prop} {a b : va_W} (h : va_D A (a ++ b)) : va_D A a :=
  ⟨fun i j p q hi hj e => h.1 i j p q (by rw [List.getElem?_append_left (List.getElem?_eq_some_iff.mp hi).1]; exact hi) (by rw [List.getElem?_append_left (List.getElem?_eq_some_iff.mp hj).1]; exact hj) e, fun k q hk => h.2 k q (by rw [List.getElem?_append_left (List.getElem?_eq_some_iff.mp hk).1]; exact hk)⟩
theorem D_one (x : Nat × va_E) (sz : Nat) : va_D (va_A [x] sz) [x] := by
  refine ⟨fun i j p q hi hj _ => ?_, fun k q hk => va_A.in hk⟩
  have h1 := (List.getElem?_eq_some_iff.mp hi).1
  have h2 := (List.getElem?_eq_some_iff.mp hj).1
  simp only [List.length_cons, List.length_nil] at h1 h2
  omega
theorem jn {A0 : Nat → Prop} {D : va_G} {cl : List vw_C} {wr wc w1 : va_W} {H H1 : Heap} (hP : va_P D cl (wr ++ wc) H) (hD : va_D A0 (wr ++ wc)) (hk : ∀ q : Nat, q < H.size → ¬ va_A wc H.size q → H1[q]? = H[q]?) (hF : ∀ q, va_A wc H.size q → A0 q) (hP1 : va_P D cl w1 H1) (hD1 : va_D (va_A wc H.size) w1) : va_P D cl (wr ++ w1) H1 ∧ va_D A0 (wr ++ w1) := by
  have out : ∀ (k : Nat) (q : Nat × va_E), wr[k]? = some q → q.1 < H.size ∧ ¬ va_A wc H.size q.1 := by
    intro k q hq
    have hl : k < wr.length := (List.getElem?_eq_some_iff.mp hq).1
    have h1 : (wr ++ wc)[k]? = some q := by rw [List.getElem?_append_left hl]; exact hq
    have hs := (hP k q h1).lt
    refine ⟨hs, fun z => ?_⟩
    rcases z with ⟨j, e, hj⟩ | z
    · have h2 : (wr ++ wc)[wr.length + j]? = some (q.1, e) := by rw [List.getElem?_append_right (by omega), Nat.add_sub_cancel_left]; exact hj
      have := hD.1 _ _ _ _ h1 h2 rfl
      omega
    · omega
  exact ⟨va_P.app (fun k q hq => ((P_left hP) k q hq).kept (hk q.1 (out k q hq).1 (out k q hq).2)) hP1, va_D.app (D_left hD) (hD1.weaken (fun k q _ h => hF q.1 h)) (fun i j x y hx hy e => (out i x hx).2 (by rw [e]; exact hD1.2 j y hy))⟩
theorem F_last {A0 : Nat → Prop} {ws : va_W} {x : Nat × va_E} {H0 H : Heap} (hD : va_D A0 (ws ++ [x])) (hz : H0.size ≤ H.size) (hA : ∀ q, H0.size ≤ q → A0 q) : ∀ q, va_A [x] H.size q → A0 q := by
  intro q h
  rcases h with ⟨k, e, hk⟩ | h
  · exact hD.2 (ws.length + k) (q, e) (by rw [List.getElem?_append_right (by omega), Nat.add_sub_cancel_left]; exact hk)
  · exact hA q (by omega)
/-- an array of references, its cells told otherwise -/
theorem P_rf {D : va_G} {cl : List vw_C} {o : Nat × va_E} {rs : va_W} {q n : Nat} {cX : ClassId} {f g : Nat → Option Nat} {H : Heap} (h : va_P D cl (o :: (q, .inl (cX, n, .inr (.inr (.inr (.inr f))))) :: rs) H) (hfg : ∀ j, j < n → f j = g j) : va_P D cl (o :: (q, .inl (cX, n, .inr (.inr (.inr (.inr g))))) :: rs) H := by
  intro k x hk
  match k, hk with
  | 0, hk => exact h 0 x hk
  | 1, hk =>
    cases hk
    have h1 : H[q]? = some (vp_cell cX (n, .inr (.inr (.inr (.inr f))))) := h 1 _ rfl
    show H[q]? = some (vp_cell cX (n, .inr (.inr (.inr (.inr g)))))
    rw [h1, vp_cell_q, vp_cell_q]
    unfold arrV
    congr 3
    funext j
    show va_rf (f j.val) = va_rf (g j.val)
    rw [hfg j.val j.isLt]
  | k + 2, hk => exact h (k + 2) x hk
theorem D_rf {A : Nat → Prop} {o : Nat × va_E} {rs : va_W} {q : Nat} {x y : va_E} (h : va_D A (o :: (q, x) :: rs)) : va_D A (o :: (q, y) :: rs) := h.set (p := 1) (a := q) (e0 := x) (e := y) rfl
def plX {β : Type} (w : β → va_W) : Nat → (Nat → β) → va_W
  | 0, _ => []
  | i + 1, U => plX w i U ++ w (U i)
theorem plX_eq {β : Type} (w : β → va_W) : ∀ (i : Nat) (U V : Nat → β), (∀ j, j < i → U j = V j) → plX w i U = plX w i V := by
  intro i
  induction i with
  | zero => intro U V _; rfl
  | succ i ih =>
    intro U V h
    rw [plX, plX, ih U V (fun j hj => h j (by omega)), h i (by omega)]
theorem plX_up {β : Type} (w : β → va_W) (i : Nat) (U : Nat → β) (u : β) : plX w (i + 1) (va_up U i u) = plX w i U ++ w u := by
  rw [plX, plX_eq w i (va_up U i u) U (fun j hj => by simp [va_up, show j ≠ i by omega])]
  simp [va_up]
def tbl (L : List Nat) (k : Nat) : Nat → Int32 := fun j => if j < k then nI (L.getD j 0) else 0
theorem tbl_up (L : List Nat) (k : Nat) : upd (tbl L k) k (nI (L.getD k 0)) = tbl L (k + 1) := by
  funext j
  unfold tbl upd
  by_cases q : j = k
  · subst q; simp
  · by_cases z : j < k
    · simp [q, z, show j < k + 1 by omega]
    · simp [q, z, show ¬ j < k + 1 by omega]
section NEW
variable {p : Program} {l : Launch} {e : Env} {R : Room} {s : State} {m : MethodId} {args : Array Value} {below : List Frame} {meth : Method} {c : Code} {H : Heap} {locs : List Loc} {cells slots : Nat} {Q : State → Prop}
variable {cc : ByteArray} {pc : Nat} {ls : Array Slot} {rest : List Value} {dC : Nat → ClassId} {dI : Nat → Nat → Nat} {cA : Nat → ClassId} {A : Nat → Prop} {ws : va_W}
theorem pre_init {q : Nat} {x : va_E} (hP : va_P (dC, dI) vwCl (ws ++ [(q, x)]) H) (hKN : KN dC dI cA s) : PreS s H (va_Pc [.ref q] (fun U => U.heap.size = H.size ∧ va_P (dC, dI) vwCl [(q, x)] U.heap ∧ KN dC dI cA U)) [.ref q] :=
  ⟨fun a U g mk r => ⟨r.1, r.2.1, r.2.2.1, r.2.2.2.calling g mk a⟩, fun U hU hW => ⟨rfl, by rw [hU], by rw [hU]; exact P_right hP, hKN.go hW⟩⟩
theorem n_init {β : Type} {post : β → Prop} {x : Nat × va_E} {wc : β → va_W} {mc ms : Nat} {st0 : List Value} {a : Array Value} (hr : va_Run p l e R s m args below meth c H locs cells slots mc ms (F0 m pc ls st0) rest (va_Qv post (fun u t => va_P (dC, dI) vwCl (wc u) t.heap ∧ va_D (va_A [x] H.size) (wc u)) (va_A [x] H.size) a) (va_A [x] H.size)) (hP : va_P (dC, dI) vwCl (ws ++ [x]) H) (hD : va_D A (ws ++ [x])) (hS : va_S A s.heap H locs) (hA : ∀ q, s.heap.size ≤ q → A q)
    (kk : ∀ (u : β) (H1 : Heap) (locs1 : List Loc), post u → va_P (dC, dI) vwCl (ws ++ wc u) H1 → va_D A (ws ++ wc u) → va_S A s.heap H1 locs1 → W p l e R s m args below meth c H1 locs1 (cells + mc) (slots + ms) Q (F0 m (pc + 3) ls rest)) : W p l e R s m args below meth c H locs cells slots Q (F0 m pc ls st0) := by
  have hF := F_last hD hS.1 hA
  refine va_callv hr hS (fun q _ h => hF q h) hF (fun u t H1 locs1 ht hvm hw hB hz1 hk1 hS1 => ?_)
  obtain ⟨hP1, hD1⟩ := hB
  rw [ht] at hP1
  obtain ⟨hP2, hD2⟩ := jn hP hD hk1 hF hP1 hD1
  exact kk u H1 locs1 hw hP2 hD2 hS1
theorem k_newI (hx : p.tables.exec = Jvm.exec) (hb : c.code = cc) (harr : (Cond.arrayClass .int).before args s = true) (hK : va_K (dC, dI) vwCl (tyl cA) s) (hP : va_P (dC, dI) vwCl ws H) (hD : va_D A ws) (hS : va_S A s.heap H locs) (hA : ∀ q, s.heap.size ≤ q → A q) {n : Int32} {N' : Nat} (hn : ¬ n < 0) (hN : n.toNatClampNeg = N') (hbytes : N' * 4 ≤ 536870912) (hcells : cells + 1 ≤ R.cells) (hslots : slots + N' ≤ R.slots) (hdg : decode cc pc = .ok (.newarray .int, 2))
    (kk : ∀ (q : Nat) (H1 : Heap), va_P (dC, dI) vwCl (ws ++ [(q, .inl (cA 0, N', .inl (fun _ => 0)))]) H1 → va_D A (ws ++ [(q, .inl (cA 0, N', .inl (fun _ => 0)))]) → va_S A s.heap H1 locs → W p l e R s m args below meth c H1 locs (cells + 1) (slots + N') Q (F0 m (pc + 2) ls (.ref q :: rest))) : W p l e R s m args below meth c H locs cells slots Q (F0 m pc ls (.int n :: rest)) := by
  refine va_newa (ty := .int) (atype := .int) (a0 := (N', .inl (fun _ => 0))) hx hb harr rfl hK hP hD hS hA (fun _ => rfl) hn hN hbytes hcells hslots hdg (fun q c1 H1 hK1 hP1 hD1 hS1 => ?_)
  have h1 : s.vm.findClass ("[" ++ FieldType.int.toString) = some (cA 0) := (hK1.2 0 _ rfl).2
  have h2 : s.vm.findClass ("[" ++ FieldType.int.toString) = some c1 := (hK1.2 4 _ rfl).2
  have e : c1 = cA 0 := Option.some.inj (h2.symm.trans h1)
  subst e
  exact kk q H1 hP1 hD1 hS1
theorem k_newC (hx : p.tables.exec = Jvm.exec) (hb : c.code = cc) (harr : (Cond.arrayClass .char).before args s = true) (hK : va_K (dC, dI) vwCl (tyl cA) s) (hP : va_P (dC, dI) vwCl ws H) (hD : va_D A ws) (hS : va_S A s.heap H locs) (hA : ∀ q, s.heap.size ≤ q → A q) {n : Int32} {N' : Nat} (L : List Nat) (hn : ¬ n < 0) (hN : n.toNatClampNeg = N') (hbytes : N' * 2 ≤ 536870912) (hcells : cells + 1 ≤ R.cells) (hslots : slots + N' ≤ R.slots) (hdg : decode cc pc = .ok (.newarray .char, 2))
    (kk : ∀ (q : Nat) (H1 : Heap), va_P (dC, dI) vwCl (ws ++ [(q, .inl (cA 1, N', .inl (tbl L 0)))]) H1 → va_D A (ws ++ [(q, .inl (cA 1, N', .inl (tbl L 0)))]) → va_S A s.heap H1 locs → W p l e R s m args below meth c H1 locs (cells + 1) (slots + N') Q (F0 m (pc + 2) ls (.ref q :: rest))) : W p l e R s m args below meth c H locs cells slots Q (F0 m pc ls (.int n :: rest)) := by
  have etbl0 : tbl L 0 = fun _ => 0 := by funext j; simp [tbl]
  rw [etbl0] at kk
  refine va_newa (ty := .char) (atype := .char) (a0 := (N', .inl (fun _ => 0))) hx hb harr rfl hK hP hD hS hA (fun _ => rfl) hn hN hbytes hcells hslots hdg (fun q c1 H1 hK1 hP1 hD1 hS1 => ?_)
  have h1 : s.vm.findClass ("[" ++ FieldType.char.toString) = some (cA 1) := (hK1.2 1 _ rfl).2
  have h2 : s.vm.findClass ("[" ++ FieldType.char.toString) = some c1 := (hK1.2 4 _ rfl).2
  have e : c1 = cA 1 := Option.some.inj (h2.symm.trans h1)
  subst e
  exact kk q H1 hP1 hD1 hS1
theorem k_newQ (hx : p.tables.exec = Jvm.exec) (hb : c.code = cc) {own C : String} {index : Nat} (hown : s.vm.findClass own = some m.cls) (hclink : (Cond.classLink own index C).before args s = true) (hover : va_AO C s) (hK : va_K (dC, dI) vwCl (tyl cA) s) (hP : va_P (dC, dI) vwCl ws H) (hD : va_D A ws) (hS : va_S A s.heap H locs) (hA : ∀ q, s.heap.size ≤ q → A q) (t0 : Nat) (h4 : t0 < 4) (ht : (tyl cA)[t0]? = some (cA t0, .object C)) {n : Int32} {N' : Nat} (hn : ¬ n < 0) (hN : n.toNatClampNeg = N') (hbytes : N' * 4 ≤ 536870912) (hcells : cells + 1 ≤ R.cells) (hslots : slots + N' ≤ R.slots) (hdg : decode cc pc = .ok (.anewarray index, 3))
    (kk : ∀ (q : Nat) (H1 : Heap), va_P (dC, dI) vwCl (ws ++ [(q, .inl (cA t0, N', .inr (.inr (.inr (.inr (fun _ => none))))))]) H1 → va_D A (ws ++ [(q, .inl (cA t0, N', .inr (.inr (.inr (.inr (fun _ => none))))))]) → va_S A s.heap H1 locs → W p l e R s m args below meth c H1 locs (cells + 1) (slots + N') Q (F0 m (pc + 3) ls (.ref q :: rest))) : W p l e R s m args below meth c H locs cells slots Q (F0 m pc ls (.int n :: rest)) := by
  refine va_newq hx hb hown hclink hover hK hP hD hS hA hn hN hbytes hcells hslots hdg (fun q c1 H1 hK1 hP1 hD1 hS1 => ?_)
  obtain ⟨-, -, -, -, -, h1⟩ := (hK1.2 t0 (cA t0, .object C) (by rw [List.getElem?_append_left (show t0 < (tyl cA).length from h4)]; exact ht)).2
  obtain ⟨-, -, -, -, -, h2⟩ := (hK1.2 4 (c1, .object C) rfl).2
  have e : c1 = cA t0 := Option.some.inj (h2.symm.trans h1)
  subst e
  exact kk q H1 hP1 hD1 hS1
theorem k_cst (hx : p.tables.exec = Jvm.exec) (hb : c.code = cc) (hK : va_K (dC, dI) vwCl (tyl cA) s) {q n k : Nat} {L : List Nat} (hP : va_P (dC, dI) vwCl (ws ++ [(q, .inl (cA 1, n, .inl (tbl L k)))]) H) (hD : va_D A (ws ++ [(q, .inl (cA 1, n, .inl (tbl L k)))])) (hS : va_S A s.heap H locs) (hkn : k < n) (hn : n < 2 ^ 31) (hv : vp_nar .char (nI (L.getD k 0)) = nI (L.getD k 0)) (hdg : decode cc pc = .ok (.castore, 1))
    (kk : ∀ (H1 : Heap) (locs1 : List Loc), va_P (dC, dI) vwCl (ws ++ [(q, .inl (cA 1, n, .inl (tbl L (k + 1))))]) H1 → va_D A (ws ++ [(q, .inl (cA 1, n, .inl (tbl L (k + 1))))]) → va_S A s.heap H1 locs1 → W p l e R s m args below meth c H1 locs1 cells slots Q (F0 m (pc + 1) ls rest)) : W p l e R s m args below meth c H locs cells slots Q (F0 m pc ls (.int (nI (L.getD k 0)) :: .int (nI k) :: .ref q :: rest)) := by
  refine va_cast (cA := cA 1) (n := n) (f := tbl L k) hx hb hK hP hD hS ws.length 1 (by simp) rfl (vp_in_nI hkn hn) hdg (fun H1 locs1 hP1 hD1 hS1 => ?_)
  rw [hv, nI_clamp (by omega), tbl_up, List.set_append_right _ _ (Nat.le_refl _), Nat.sub_self] at hP1 hD1
  exact kk H1 locs1 hP1 hD1 hS1
theorem k_c1 (hx : p.tables.exec = Jvm.exec) (hb : c.code = cc) (hK : va_K (dC, dI) vwCl (tyl cA) s) {q n : Nat} (k : Nat) {L : List Nat} {ni nv : Int} (hP : va_P (dC, dI) vwCl (ws ++ [(q, .inl (cA 1, n, .inl (tbl L k)))]) H) (hD : va_D A (ws ++ [(q, .inl (cA 1, n, .inl (tbl L k)))])) (hS : va_S A s.heap H locs) (hkn : k < n) (hn : n < 2 ^ 31) (hi : Int32.ofInt ni = nI k) (hw : (Int8.ofInt nv).toInt32 = nI (L.getD k 0)) (hv : vp_nar .char (nI (L.getD k 0)) = nI (L.getD k 0)) (d0 : decode cc pc = .ok (.dup, 1)) (d1 : decode cc (pc + 1) = .ok (.iconst ni, 1)) (d2 : decode cc (pc + 2) = .ok (.bipush nv, 2)) (d3 : decode cc (pc + 4) = .ok (.castore, 1))
    (kk : ∀ (H1 : Heap) (locs1 : List Loc), va_P (dC, dI) vwCl (ws ++ [(q, .inl (cA 1, n, .inl (tbl L (k + 1))))]) H1 → va_D A (ws ++ [(q, .inl (cA 1, n, .inl (tbl L (k + 1))))]) → va_S A s.heap H1 locs1 → W p l e R s m args below meth c H1 locs1 cells slots Q (F0 m (pc + 5) ls (.ref q :: rest))) : W p l e R s m args below meth c H locs cells slots Q (F0 m pc ls (.ref q :: rest)) := by
  refine lv_dup hx hb d0 rfl ?_
  refine lv_iconst (v := nI k) hx hb d1 hi ?_
  refine lv_bipush (v := nI (L.getD k 0)) hx hb d2 hw ?_
  exact k_cst hx hb hK hP hD hS hkn hn hv d3 kk
theorem k_c2 (hx : p.tables.exec = Jvm.exec) (hb : c.code = cc) (hK : va_K (dC, dI) vwCl (tyl cA) s) {q n : Nat} (k : Nat) {L : List Nat} {ni nv : Int} (hP : va_P (dC, dI) vwCl (ws ++ [(q, .inl (cA 1, n, .inl (tbl L k)))]) H) (hD : va_D A (ws ++ [(q, .inl (cA 1, n, .inl (tbl L k)))])) (hS : va_S A s.heap H locs) (hkn : k < n) (hn : n < 2 ^ 31) (hi : (Int8.ofInt ni).toInt32 = nI k) (hw : (Int8.ofInt nv).toInt32 = nI (L.getD k 0)) (hv : vp_nar .char (nI (L.getD k 0)) = nI (L.getD k 0)) (d0 : decode cc pc = .ok (.dup, 1)) (d1 : decode cc (pc + 1) = .ok (.bipush ni, 2)) (d2 : decode cc (pc + 3) = .ok (.bipush nv, 2)) (d3 : decode cc (pc + 5) = .ok (.castore, 1))
    (kk : ∀ (H1 : Heap) (locs1 : List Loc), va_P (dC, dI) vwCl (ws ++ [(q, .inl (cA 1, n, .inl (tbl L (k + 1))))]) H1 → va_D A (ws ++ [(q, .inl (cA 1, n, .inl (tbl L (k + 1))))]) → va_S A s.heap H1 locs1 → W p l e R s m args below meth c H1 locs1 cells slots Q (F0 m (pc + 6) ls (.ref q :: rest))) : W p l e R s m args below meth c H locs cells slots Q (F0 m pc ls (.ref q :: rest)) := by
  refine lv_dup hx hb d0 rfl ?_
  refine lv_bipush (v := nI k) hx hb d1 hi ?_
  refine lv_bipush (v := nI (L.getD k 0)) hx hb d2 hw ?_
  exact k_cst hx hb hK hP hD hS hkn hn hv d3 kk
end NEW
