/-! THE CLAIM OUT OF ONE WALK OF THE LAW'S BODY. Your part is whole_start (and what it stands on); all else here is the same for every law, but numbers. -/
def R_law : String := "TurningFractionsLaw"
def lw_P (b : Addr) (xs : List Int32) (args : Array Value) (s : State) : Prop := args = #[.ref b] ∧ s.IntsAt b xs ∧ xs.length ≤ 2560 ∧ (Jvm.Cond.and given_1 narrow_1).before args s = true
def lw_Q (_ : Array Value) (s : State) (o : Outcome) (t : State) : Prop := o = .returned (some (.int 1)) ∧ Framed s o t [] 600000 7302250
def lw_Z (below : List Frame) (a : Array Value) (s : State) : State → Prop := fun t => ∃ o, t.status = .running ∧ Ended t below o ∧ lw_Q a s o t
/-- the law's own end, with 1 on the stack, nothing written that was there before, its room as the claim has it -/
theorem lw_ret {p : Program} {l : Launch} {e : Env} {s : State} {m : MethodId} {below : List Frame} {meth : Method} {c : Code} {b : Nat} (hx : p.tables.exec = Jvm.exec) (hb : c.code = code) (hr : meth.sig.returnType = ret) (hlocks : meth.locks = false) {pc : Nat} {H : Heap} {ls : Array Slot} (hdg : decode code pc = .ok (.ireturn, 1)) : W p l e room_1 s m #[Value.ref b] below meth c H [] 600000 7302250 (lw_Z below #[Value.ref b] s) (F0 m pc ls [.int 1]) := by
  intro T hT X
  obtain ⟨fs, hret, hrun, hended, hW, hframe⟩ := X.leave (v := some (.int 1)) (hlocks := hlocks) (fun h => by rw [hr] at h; cases h)
  have hmeth' : T.vm.method? m = some meth := X.method'
  refine ⟨T.setFrames fs, ?_, .returned (some (.int 1)), hrun, hended, rfl, ⟨_, rfl⟩, hW, hframe⟩
  jvm_step X.here [X.here.top, hx, hb, hdg, hmeth', hr, ret, narrow_b1]
  (try refine ⟨rfl, ?_⟩); (try refine ⟨rfl, ?_⟩)
  first | (intro acts; rw [hret _ acts rfl rfl rfl]) | rw [hret _ _ rfl rfl rfl]
  exact Steps.refl _
/-- what holds at the law's entry: the machine, the code, the tables' words (any of lw_tbl by 'hts w (by decide +kernel)'), the script of L ints xs at the cell b, what the Statement gives of the start (any of its parts by flat_of_before) -/
def lw_At (p : Program) (s : State) (m : MethodId) (meth : Method) (c : Code) (b L : Nat) (xs : Nat → Int32) : Prop :=
  p.tables.exec = Jvm.exec ∧ c.code = code ∧ meth.sig.returnType = ret ∧ c.maxLocals = 4 ∧ s.vm.findClass R_law = some m.cls ∧ (∀ w ∈ lw_tbl, w.before #[Value.ref b] s = true) ∧ va_X b L xs s s.heap ∧ b < s.heap.size ∧ meth.locks = false ∧ (Jvm.Cond.and given_1 narrow_1).before #[Value.ref b] s = true
/-! the law: rows -/
def KL (dC : Nat → ClassId) (dI : Nat → Nat → Nat) (cA : Nat → ClassId) (adK adV : Nat → Nat) (A : Nat → Prop) (U : State) : Prop := va_K (dC, dI) vwCl (tyl cA) U ∧ (∀ (i : Nat) (q : String × Nat × MethodName × String), nestL[i]? = some q → va_Nw (.methodLinkNest q.1 q.2.1 q.2.2.1 q.2.2.2) U) ∧ (∀ (i : Nat) (q : String × Nat × String), strL[i]? = some q → vk_R q.1 q.2.1 q.2.2 (adK i) U) ∧ vk_S 14 sLen sByt adK adV A U U.heap ∧ va_Z "java/lang/String" "COMPACT_STRINGS" "Z" (.int 1) A U U.heap ∧ va_Zq "jdk/internal/util/Preconditions" "SIOOBE_FORMATTER" "Ljava/util/function/BiFunction;" A U U.heap
theorem KL.go {dC : Nat → ClassId} {dI : Nat → Nat → Nat} {cA : Nat → ClassId} {adK adV P : Nat → Nat} {A : Nat → Prop} {s U : State} {H : Heap} {locs : List Loc} (h : KL dC dI cA adK adV A s) (hW : s.WarmedH U.vm) (hS : va_S A s.heap H locs) (hU : U.heap = H) (hA : ∀ q, PA 56 P q → A q) : KX dC dI cA adK adV P U := by
  obtain ⟨h1, h2, h3, h4, h5, h6⟩ := h
  subst hU
  exact ⟨h1.moved hW.alike, fun i q hq => (h2 i q hq).warmM hW, fun i q hq => (h3 i q hq).warm hW, ((vk_S.moved hW.alike h4).kept hS.2.1).narrow hA, ((va_Z.moved hW.alike h5).kept hS.2.1).narrow hA, ((va_Zq.moved hW.alike h6).kept hS.2.1).narrow hA⟩
def PQ (P Q : Nat → Nat) (sz : Nat) : Prop := PInj 56 P ∧ PInj 25 Q ∧ (∀ i j, i < 56 → j < 25 → P i ≠ Q j) ∧ (∀ k, k < 56 → sz ≤ P k) ∧ ∀ k, k < 25 → sz ≤ Q k
theorem PQ.inP {P Q : Nat → Nat} {sz : Nat} (h : PQ P Q sz) : ∀ q, PA 56 P q → sz ≤ q := fun q ⟨k, hk, e⟩ => by subst e; exact h.2.2.2.1 k hk
theorem PQ.inQ {P Q : Nat → Nat} {sz : Nat} (h : PQ P Q sz) : ∀ q, PA 25 Q q → sz ≤ q := fun q ⟨k, hk, e⟩ => by subst e; exact h.2.2.2.2 k hk
section LAW
variable {p : Program} {l : Launch} {e : Env} {R : Room} {s : State} {m : MethodId} {args : Array Value} {below : List Frame} {meth : Method} {c : Code} {H : Heap} {locs : List Loc} {cells slots : Nat} {Qz : State → Prop}
variable {pc : Nat} {ls : Array Slot} {rest st0 : List Value} {dC : Nat → ClassId} {dI : Nat → Nat → Nat} {cA : Nat → ClassId} {adK adV P Q : Nat → Nat} {S Sm : St} {As : List Value} {a : Array Value}
theorem preXL (hKL : KL dC dI cA adK adV (fun q => s.heap.size ≤ q) s) (hP : VX dC dI cA P S H) (hS : va_S (fun q => s.heap.size ≤ q) s.heap H locs) (hPQ : PQ P Q s.heap.size) : PreV s H RX8 (P 0) (va_Pc (.ref (P 0) :: As) (PreX dC dI cA adK adV P S)) As :=
  ⟨fun a U g mk q => ⟨q.1, q.2.1, q.2.2.calling g mk a⟩, va_recv (ci := 8) (q0 := 0) hKL.1 hP rfl (ws_at (by decide) (eX8 rfl _ _)), fun U hU hW => ⟨rfl, by rw [hU]; exact hP, hKL.go hW hS hU hPQ.inP⟩⟩
theorem preML (hK : va_K (dC, dI) vwCl (tyl cA) s) (hP : VM dC dI cA Q Sm H) : PreV s H RX9 (Q 0) (va_Pc (.ref (Q 0) :: As) (PreM dC dI cA Q Sm)) As :=
  ⟨fun a U g mk q => ⟨q.1, q.2.1, va_K.moved (Vm.Alike.refl U.vm) q.2.2⟩, va_recv (ci := 9) (q0 := 0) hK hP rfl (ws_at (by decide) (eM9 rfl _ _)), fun U hU hW => ⟨rfl, by rw [hU]; exact hP, va_K.moved hW.alike hK⟩⟩
theorem keepM (hPQ : PQ P Q s.heap.size) (hVM : VM dC dI cA Q Sm H) {H1 : Heap} (hk1 : ∀ q : Nat, q < H.size → ¬ PA 56 P q → H1[q]? = H[q]?) : VM dC dI cA Q Sm H1 := va_P.kept hVM (fun k q hk => by
  obtain ⟨h1, rfl⟩ := ws_some hk
  exact hk1 _ (hVM k _ hk).lt (fun ⟨j, hj, e⟩ => hPQ.2.2.1 j k hj h1 e.symm))
theorem keepX (hPQ : PQ P Q s.heap.size) (hVX : VX dC dI cA P S H) {H1 : Heap} (hk1 : ∀ q : Nat, q < H.size → ¬ PA 25 Q q → H1[q]? = H[q]?) : VX dC dI cA P S H1 := va_P.kept hVX (fun k q hk => by
  obtain ⟨h1, rfl⟩ := ws_some hk
  exact hk1 _ (hVX k _ hk).lt (fun ⟨j, hj, e⟩ => hPQ.2.2.1 k j h1 hj e))
theorem law_xi {post : Int32 → St → Prop} (hPQ : PQ P Q s.heap.size) (hVM : VM dC dI cA Q Sm H) (hS : va_S (fun q => s.heap.size ≤ q) s.heap H locs) (hr : va_Run p l e R s m args below meth c H locs cells slots 0 0 (F0 m pc ls st0) rest (va_Qi post (fun u t => VX dC dI cA P u t.heap) (PA 56 P) a) (PA 56 P))
    (kk : ∀ (r : Int32) (S1 : St) (H1 : Heap) (locs1 : List Loc), post r S1 → VX dC dI cA P S1 H1 → VM dC dI cA Q Sm H1 → va_S (fun q => s.heap.size ≤ q) s.heap H1 locs1 → W p l e R s m args below meth c H1 locs1 cells slots Qz (F0 m (pc + 3) ls (.int r :: rest))) : W p l e R s m args below meth c H locs cells slots Qz (F0 m pc ls st0) :=
  va_calli hr hS (fun q _ h => hPQ.inP q h) (fun q h => hPQ.inP q h) (fun r u t H1 locs1 ht _ hw hB _ hk1 hS1 => kk r u H1 locs1 hw (by rw [← ht]; exact hB) (keepM hPQ hVM hk1) hS1)
theorem law_xl {post : Int64 → St → Prop} (hPQ : PQ P Q s.heap.size) (hVM : VM dC dI cA Q Sm H) (hS : va_S (fun q => s.heap.size ≤ q) s.heap H locs) (hr : va_Run p l e R s m args below meth c H locs cells slots 0 0 (F0 m pc ls st0) rest (va_Ql post (fun u t => VX dC dI cA P u t.heap) (PA 56 P) a) (PA 56 P))
    (kk : ∀ (r : Int64) (S1 : St) (H1 : Heap) (locs1 : List Loc), post r S1 → VX dC dI cA P S1 H1 → VM dC dI cA Q Sm H1 → va_S (fun q => s.heap.size ≤ q) s.heap H1 locs1 → W p l e R s m args below meth c H1 locs1 cells slots Qz (F0 m (pc + 3) ls (.long r :: rest))) : W p l e R s m args below meth c H locs cells slots Qz (F0 m pc ls st0) :=
  va_calll hr hS (fun q _ h => hPQ.inP q h) (fun q h => hPQ.inP q h) (fun r u t H1 locs1 ht _ hw hB _ hk1 hS1 => kk r u H1 locs1 hw (by rw [← ht]; exact hB) (keepM hPQ hVM hk1) hS1)
theorem law_mi {post : Int32 → St → Prop} (hPQ : PQ P Q s.heap.size) (hVX : VX dC dI cA P S H) (hS : va_S (fun q => s.heap.size ≤ q) s.heap H locs) (hr : va_Run p l e R s m args below meth c H locs cells slots 0 0 (F0 m pc ls st0) rest (va_Qi post (fun u t => VM dC dI cA Q u t.heap) (PA 25 Q) a) (PA 25 Q))
    (kk : ∀ (r : Int32) (S1 : St) (H1 : Heap) (locs1 : List Loc), post r S1 → VX dC dI cA P S H1 → VM dC dI cA Q S1 H1 → va_S (fun q => s.heap.size ≤ q) s.heap H1 locs1 → W p l e R s m args below meth c H1 locs1 cells slots Qz (F0 m (pc + 3) ls (.int r :: rest))) : W p l e R s m args below meth c H locs cells slots Qz (F0 m pc ls st0) :=
  va_calli hr hS (fun q _ h => hPQ.inQ q h) (fun q h => hPQ.inQ q h) (fun r u t H1 locs1 ht _ hw hB _ hk1 hS1 => kk r u H1 locs1 hw (keepX hPQ hVX hk1) (by rw [← ht]; exact hB) hS1)
theorem law_ml {post : Int64 → St → Prop} (hPQ : PQ P Q s.heap.size) (hVX : VX dC dI cA P S H) (hS : va_S (fun q => s.heap.size ≤ q) s.heap H locs) (hr : va_Run p l e R s m args below meth c H locs cells slots 0 0 (F0 m pc ls st0) rest (va_Ql post (fun u t => VM dC dI cA Q u t.heap) (PA 25 Q) a) (PA 25 Q))
    (kk : ∀ (r : Int64) (S1 : St) (H1 : Heap) (locs1 : List Loc), post r S1 → VX dC dI cA P S H1 → VM dC dI cA Q S1 H1 → va_S (fun q => s.heap.size ≤ q) s.heap H1 locs1 → W p l e R s m args below meth c H1 locs1 cells slots Qz (F0 m (pc + 3) ls (.long r :: rest))) : W p l e R s m args below meth c H locs cells slots Qz (F0 m pc ls st0) :=
  va_calll hr hS (fun q _ h => hPQ.inQ q h) (fun q h => hPQ.inQ q h) (fun r u t H1 locs1 ht _ hw hB _ hk1 hS1 => kk r u H1 locs1 hw (keepX hPQ hVX hk1) (by rw [← ht]; exact hB) hS1)
end LAW
