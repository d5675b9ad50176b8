/-! words: one list of all that the tables say and that a callee may be given -/
def G : List Cond := lw_tbl.filter goodWord
theorem mem_G {w : Cond} (i : Nat) (h : lw_tbl[i]? = some w) (hg : goodWord w = true) : w ∈ G := List.mem_filter.mpr ⟨List.mem_of_getElem? h, hg⟩
theorem G_tbl {w : Cond} (h : w ∈ G) : w ∈ lw_tbl := (List.mem_filter.mp h).1
theorem good_G {w : Cond} (h : w ∈ G) : w ∈ G ∧ ((w.onTables && w.keeps) = true ∨ ∃ ty, w = .arrayClass ty) := ⟨h, good_of_word (List.mem_filter.mp h).2⟩
abbrev wW (y : MethodName) (b : ByteArray) (n : Nat) (r : Option FieldType) : List Cond := Cond.code y b n r :: G
theorem good_W {y : MethodName} {b : ByteArray} {n : Nat} {r : Option FieldType} (h5 : Cond.code y b n r ∈ G) : GoodIn G (wW y b n r) := by
  intro w h
  rcases List.mem_cons.mp h with h | h
  · subst h; exact good_G h5
  · exact good_G h
theorem good_V {own C : String} {idx : Nat} {y : MethodName} {b : ByteArray} {n : Nat} {r : Option FieldType} (h1 : Cond.methodLink own idx y ∈ G) (h2 : Cond.instanceMethod y ∈ G) (h3 : Cond.selects C y y ∈ G) (h4 : Cond.initialized C ∈ G) (h5 : Cond.code y b n r ∈ G) : GoodIn G (wsV own idx C y (wW y b n r)) := by
  intro w h
  unfold wsV at h
  rcases List.mem_append.mp h with h | h
  · simp only [List.mem_cons, List.not_mem_nil, or_false] at h
    rcases h with h | h | h | h
    · subst h; exact good_G h1
    · subst h; exact good_G h2
    · subst h; exact good_G h3
    · subst h; exact good_G h4
  · exact good_W h5 w h
theorem good_S {own : String} {idx : Nat} {y : MethodName} {b : ByteArray} {n : Nat} {r : Option FieldType} (h1 : Cond.methodLink own idx y ∈ G) (h2 : Cond.static y ∈ G) (h4 : Cond.initialized y.cls ∈ G) (h5 : Cond.code y b n r ∈ G) : GoodIn G (va_wsS own idx y (wW y b n r)) := by
  intro w h
  unfold va_wsS at h
  rcases List.mem_append.mp h with h | h
  · simp only [List.mem_cons, List.not_mem_nil, or_false] at h
    rcases h with h | h | h
    · subst h; exact good_G h1
    · subst h; exact good_G h2
    · subst h; exact good_G h4
  · exact good_W h5 w h
section RWS
variable {p : Program} {l : Launch} {e : Env} {R : Room} {s : State} {m : MethodId} {args : Array Value} {below : List Frame} {meth : Method} {c : Code} {H : Heap} {locs : List Loc} {cells slots : Nat} {Q : State → Prop}
variable {cc : ByteArray} {pc : Nat} {ls : Array Slot} {rest : List Value} {D : va_G} {tys : List (ClassId × FieldType)} {N : Nat} {E : wE} {P : Nat → Nat} {S : St} {k : Nat}
theorem g_get (hx : p.tables.exec = Jvm.exec) (hb : c.code = cc) {own C : String} {T : u_T} {n ci index : Nat} (hts : ∀ w ∈ G, w.before args s = true) (hin : ∀ w ∈ u_ws C T n, w ∈ G) (hown : s.vm.findClass own = some m.cls) (hK : va_K D vwCl tys s) (hP : va_P D vwCl (wsL N E P S) H) (hk : k < N) {fl : (Nat → Int32) → (Nat → Int64) → List Value} (he : ∀ f g, E k f g = .inr (ci, fl f g)) (hc : vwCl[ci]? = some (C, T, n)) (i : Nat) (hi : i < n) (hl : Cond.fieldLink own index C (T i).2.1 (T i).2.2.1 ∈ G) (hTC : (T i).1 = C) {v : Value} (hv : (fl (S.1 k) (S.2 k))[i]? = some v) (hdg : decode cc pc = .ok (.getfield index, 3))
    (kk : W p l e R s m args below meth c H locs cells slots Q (F0 m (pc + 3) ls (v :: rest))) : W p l e R s m args below meth c H locs cells slots Q (F0 m pc ls (.ref (P k) :: rest)) :=
  va_get (own := own) (C := C) (T := T) (N := n) (ref := C) hx hb hts hin hown hK hP k (ws_at hk (he _ _)) hc i hi (hts _ hl) (fun x h => by rw [hTC] at h; exact h) hv hdg kk
theorem g_putI (hx : p.tables.exec = Jvm.exec) (hb : c.code = cc) {own C : String} {T : u_T} {n ci index : Nat} (hts : ∀ w ∈ G, w.before args s = true) (hin : ∀ w ∈ u_ws C T n, w ∈ G) (ty0 : Nat → FieldType) (hty : ∀ k, k < n → parseFieldDescriptor (T k).2.2.1 = some (ty0 k)) (hnm : ∀ a, a < n → ∀ b, b < n → a ≠ b → (T a).2.1 ≠ (T b).2.1) (hown : s.vm.findClass own = some m.cls) (hK : va_K D vwCl tys s) (hI : PInj N P) (hP : va_P D vwCl (wsL N E P S) H) (hS : va_S (PA N P) s.heap H locs) (hk : k < N) {fl : (Nat → Int32) → (Nat → Int64) → List Value} (he : ∀ f g, E k f g = .inr (ci, fl f g)) (hc : vwCl[ci]? = some (C, T, n)) (i : Nat) (hi : i < n) (hl : Cond.fieldLink own index C (T i).2.1 (T i).2.2.1 ∈ G) (hTC : (T i).1 = C) (hfin : (T i).2.2.2 = false) {ty : FieldType} {x : Int32} (hd : parseFieldDescriptor (T i).2.2.1 = some ty) (hn : narrow ty (.int x) = .int x) (hfit : fits ty (.int x) = true) (hlen : i < (fl (S.1 k) (S.2 k)).length) (hset : fl (upd (S.1 k) i x) (S.2 k) = (fl (S.1 k) (S.2 k)).set i (.int x)) {B : St → Prop} (h : ∀ S1 : St, S1 = sI S k i x → B S1)
    (hdg : decode cc pc = .ok (.putfield index, 3)) (kk : ∀ (S1 : St) (H1 : Heap) (locs1 : List Loc), B S1 → va_P D vwCl (wsL N E P S1) H1 → va_S (PA N P) s.heap H1 locs1 → W p l e R s m args below meth c H1 locs1 cells slots Q (F0 m (pc + 3) ls rest)) : W p l e R s m args below meth c H locs cells slots Q (F0 m pc ls (.int x :: .ref (P k) :: rest)) := by
  have hw : (wsL N E P S).set k (P k, .inr (ci, (fl (S.1 k) (S.2 k)).set i (.int x))) = wsL N E P (sI S k i x) := ws_up hk (by rw [he, sI_k, sI_2, hset]) (sI_o S k i x)
  refine va_put (own := own) (C := C) (T := T) (N := n) (ref := C) hx hb hts hin ty0 hty hnm hown hK hP (ws_D hI) hS k (ws_at hk (he _ _)) hc i hi (hts _ hl) (fun x h => by rw [hTC] at h; exact h) hfin hd hn hfit hlen hdg (fun H1 locs1 hP1 _ hS1 => ?_)
  rw [hw] at hP1
  exact kk _ H1 locs1 (h _ rfl) hP1 hS1
theorem g_putL (hx : p.tables.exec = Jvm.exec) (hb : c.code = cc) {own C : String} {T : u_T} {n ci index : Nat} (hts : ∀ w ∈ G, w.before args s = true) (hin : ∀ w ∈ u_ws C T n, w ∈ G) (ty0 : Nat → FieldType) (hty : ∀ k, k < n → parseFieldDescriptor (T k).2.2.1 = some (ty0 k)) (hnm : ∀ a, a < n → ∀ b, b < n → a ≠ b → (T a).2.1 ≠ (T b).2.1) (hown : s.vm.findClass own = some m.cls) (hK : va_K D vwCl tys s) (hI : PInj N P) (hP : va_P D vwCl (wsL N E P S) H) (hS : va_S (PA N P) s.heap H locs) (hk : k < N) {fl : (Nat → Int32) → (Nat → Int64) → List Value} (he : ∀ f g, E k f g = .inr (ci, fl f g)) (hc : vwCl[ci]? = some (C, T, n)) (i : Nat) (hi : i < n) (hl : Cond.fieldLink own index C (T i).2.1 (T i).2.2.1 ∈ G) (hTC : (T i).1 = C) (hfin : (T i).2.2.2 = false) {ty : FieldType} {x : Int64} (hd : parseFieldDescriptor (T i).2.2.1 = some ty) (hn : narrow ty (.long x) = .long x) (hfit : fits ty (.long x) = true) (hlen : i < (fl (S.1 k) (S.2 k)).length) (hset : fl (S.1 k) (va_up (S.2 k) i x) = (fl (S.1 k) (S.2 k)).set i (.long x)) {B : St → Prop} (h : ∀ S1 : St, S1 = sL S k i x → B S1)
    (hdg : decode cc pc = .ok (.putfield index, 3)) (kk : ∀ (S1 : St) (H1 : Heap) (locs1 : List Loc), B S1 → va_P D vwCl (wsL N E P S1) H1 → va_S (PA N P) s.heap H1 locs1 → W p l e R s m args below meth c H1 locs1 cells slots Q (F0 m (pc + 3) ls rest)) : W p l e R s m args below meth c H locs cells slots Q (F0 m pc ls (.long x :: .ref (P k) :: rest)) := by
  have hw : (wsL N E P S).set k (P k, .inr (ci, (fl (S.1 k) (S.2 k)).set i (.long x))) = wsL N E P (sL S k i x) := ws_up hk (by rw [he, sL_k, sL_1, hset]) (sL_o S k i x)
  refine va_put (own := own) (C := C) (T := T) (N := n) (ref := C) hx hb hts hin ty0 hty hnm hown hK hP (ws_D hI) hS k (ws_at hk (he _ _)) hc i hi (hts _ hl) (fun x h => by rw [hTC] at h; exact h) hfin hd hn hfit hlen hdg (fun H1 locs1 hP1 _ hS1 => ?_)
  rw [hw] at hP1
  exact kk _ H1 locs1 (h _ rfl) hP1 hS1
theorem g_ald (hx : p.tables.exec = Jvm.exec) (hb : c.code = cc) (hK : va_K D vwCl tys s) (hP : va_P D vwCl (wsL N E P S) H) (hk : k < N) {cA : ClassId} {n : Nat} (t0 : Nat) (he : ∀ f g, E k f g = .inl (cA, n, .inl f)) (ht : tys[t0]? = some (cA, .int)) {i : Int32} (hin : vp_in i n) (hdg : decode cc pc = .ok (.iaload, 1))
    (kk : W p l e R s m args below meth c H locs cells slots Q (F0 m (pc + 1) ls (.int (S.1 k i.toNatClampNeg) :: rest))) : W p l e R s m args below meth c H locs cells slots Q (F0 m pc ls (.int i :: .ref (P k) :: rest)) :=
  va_iald hx hb hK hP k t0 (ws_at hk (he _ _)) ht hin hdg kk
theorem g_cald (hx : p.tables.exec = Jvm.exec) (hb : c.code = cc) (hK : va_K D vwCl tys s) (hP : va_P D vwCl (wsL N E P S) H) (hk : k < N) {cA : ClassId} {n : Nat} (t0 : Nat) (he : ∀ f g, E k f g = .inl (cA, n, .inl f)) (ht : tys[t0]? = some (cA, .char)) {i : Int32} (hin : vp_in i n) (hdg : decode cc pc = .ok (.caload, 1))
    (kk : W p l e R s m args below meth c H locs cells slots Q (F0 m (pc + 1) ls (.int (S.1 k i.toNatClampNeg) :: rest))) : W p l e R s m args below meth c H locs cells slots Q (F0 m pc ls (.int i :: .ref (P k) :: rest)) :=
  va_cald hx hb hK hP k t0 (ws_at hk (he _ _)) ht hin hdg kk
theorem g_ast (hx : p.tables.exec = Jvm.exec) (hb : c.code = cc) (hK : va_K D vwCl tys s) (hI : PInj N P) (hP : va_P D vwCl (wsL N E P S) H) (hS : va_S (PA N P) s.heap H locs) (hk : k < N) {cA : ClassId} {n : Nat} (t0 : Nat) (he : ∀ f g, E k f g = .inl (cA, n, .inl f)) (ht : tys[t0]? = some (cA, .int)) {i x : Int32} (hin : vp_in i n) {B : St → Prop} (h : ∀ S1 : St, S1 = sI S k i.toNatClampNeg x → B S1) (hdg : decode cc pc = .ok (.iastore, 1))
    (kk : ∀ (S1 : St) (H1 : Heap) (locs1 : List Loc), B S1 → va_P D vwCl (wsL N E P S1) H1 → va_S (PA N P) s.heap H1 locs1 → W p l e R s m args below meth c H1 locs1 cells slots Q (F0 m (pc + 1) ls rest)) : W p l e R s m args below meth c H locs cells slots Q (F0 m pc ls (.int x :: .int i :: .ref (P k) :: rest)) := by
  have hw : (wsL N E P S).set k (P k, .inl (cA, n, .inl (upd (S.1 k) i.toNatClampNeg x))) = wsL N E P (sI S k i.toNatClampNeg x) := ws_up hk (by rw [he, sI_k]) (sI_o S k _ x)
  refine va_iast hx hb hK hP (ws_D hI) hS k t0 (ws_at hk (he _ _)) ht hin hdg (fun H1 locs1 hP1 _ hS1 => ?_)
  rw [hw] at hP1
  exact kk _ H1 locs1 (h _ rfl) hP1 hS1
theorem g_alen (hx : p.tables.exec = Jvm.exec) (hb : c.code = cc) (hK : va_K D vwCl tys s) (hP : va_P D vwCl (wsL N E P S) H) (hk : k < N) {cA : ClassId} {n : Nat} {ty : FieldType} (t0 : Nat) {z : (Nat → Int32) → (Nat → Int64) → ((Nat → Int32) ⊕ (Nat → Int64) ⊕ (Nat → UInt32) ⊕ (Nat → UInt64) ⊕ (Nat → Option Nat))} (he : ∀ f g, E k f g = .inl (cA, n, z f g)) (ht : tys[t0]? = some (cA, ty)) (hdg : decode cc pc = .ok (.arraylength, 1))
    (kk : W p l e R s m args below meth c H locs cells slots Q (F0 m (pc + 1) ls (.int (nI n) :: rest))) : W p l e R s m args below meth c H locs cells slots Q (F0 m pc ls (.ref (P k) :: rest)) :=
  va_alen hx hb hK hP k t0 (ws_at hk (he _ _)) ht rfl hdg kk
theorem g_aldq (hx : p.tables.exec = Jvm.exec) (hb : c.code = cc) (hK : va_K D vwCl tys s) (hP : va_P D vwCl (wsL N E P S) H) (hk : k < N) {cA : ClassId} {C : String} {n : Nat} (t0 : Nat) {r : Nat → Nat} (he : ∀ f g, E k f g = .inl (cA, n, .inr (.inr (.inr (.inr (fun j => some (r j))))))) (ht : tys[t0]? = some (cA, .object C)) {i : Int32} (hin : vp_in i n) (hdg : decode cc pc = .ok (.aaload, 1))
    (kk : W p l e R s m args below meth c H locs cells slots Q (F0 m (pc + 1) ls (.ref (r i.toNatClampNeg) :: rest))) : W p l e R s m args below meth c H locs cells slots Q (F0 m pc ls (.int i :: .ref (P k) :: rest)) :=
  va_aldq hx hb hK hP k t0 (ws_at hk (he _ _)) ht hin hdg kk
section RET
variable {A : Nat → Prop}
theorem g_iret (hx : p.tables.exec = Jvm.exec) (hb : c.code = cc) (hr : meth.sig.returnType = some .int) (hlocks : meth.locks = false) {post : Int32 → St → Prop} {v : Int32} (h : post v S) (hP : va_P D vwCl (wsL N E P S) H) (hS : va_S A s.heap H locs) (hdg : decode cc pc = .ok (.ireturn, 1)) : W p l e R s m args below meth c H locs cells slots (MQ below (va_Qi post (fun u t => va_P D vwCl (wsL N E P u) t.heap) A) args s cells slots A) (F0 m pc ls [.int v]) :=
  W.iret hx hb hr (fun t ht _ => ⟨⟨v, S, rfl, h, by subst ht; exact hP⟩, hS.F ht⟩) hS.2.2 hdg hlocks
theorem g_zret (hx : p.tables.exec = Jvm.exec) (hb : c.code = cc) (hr : meth.sig.returnType = some .boolean) (hlocks : meth.locks = false) {post : Int32 → St → Prop} {v : Int32} (hz : bz v) (h : post v S) (hP : va_P D vwCl (wsL N E P S) H) (hS : va_S A s.heap H locs) (hdg : decode cc pc = .ok (.ireturn, 1)) : W p l e R s m args below meth c H locs cells slots (MQ below (va_Qi post (fun u t => va_P D vwCl (wsL N E P u) t.heap) A) args s cells slots A) (F0 m pc ls [.int v]) :=
  W.zret hx hb hr hz.1 (fun t ht _ => ⟨⟨v, S, rfl, h, by subst ht; exact hP⟩, hS.F ht⟩) hS.2.2 hdg hlocks
theorem g_lret (hx : p.tables.exec = Jvm.exec) (hb : c.code = cc) (hr : meth.sig.returnType = some .long) (hlocks : meth.locks = false) {post : Int64 → St → Prop} {v : Int64} (h : post v S) (hP : va_P D vwCl (wsL N E P S) H) (hS : va_S A s.heap H locs) (hdg : decode cc pc = .ok (.lreturn, 1)) : W p l e R s m args below meth c H locs cells slots (MQ below (va_Ql post (fun u t => va_P D vwCl (wsL N E P u) t.heap) A) args s cells slots A) (F0 m pc ls [.long v]) :=
  W.lret hx hb hr (fun t ht _ => ⟨⟨v, S, rfl, h, by subst ht; exact hP⟩, hS.F ht⟩) hS.2.2 hdg hlocks
theorem g_vret (hx : p.tables.exec = Jvm.exec) (hb : c.code = cc) (hr : meth.sig.returnType = none) (hlocks : meth.locks = false) {post : St → Prop} (h : post S) (hP : va_P D vwCl (wsL N E P S) H) (hS : va_S A s.heap H locs) (hdg : decode cc pc = .ok (.return_, 1)) : W p l e R s m args below meth c H locs cells slots (MQ below (va_Qv post (fun u t => va_P D vwCl (wsL N E P u) t.heap) A) args s cells slots A) (F0 m pc ls []) :=
  W.vret hx hb hr (fun t ht _ => ⟨⟨S, rfl, h, by subst ht; exact hP⟩, hS.F ht⟩) hS.2.2 hdg hlocks
theorem g_aret (hx : p.tables.exec = Jvm.exec) (hb : c.code = cc) {rt : String} (hr : meth.sig.returnType = some (.object rt)) (hlocks : meth.locks = false) {post : Option Nat → St → Prop} {v : Option Nat} (h : post v S) (hP : va_P D vwCl (wsL N E P S) H) (hS : va_S A s.heap H locs) (hdg : decode cc pc = .ok (.areturn, 1)) : W p l e R s m args below meth c H locs cells slots (MQ below (va_Qq post (fun u t => va_P D vwCl (wsL N E P u) t.heap) A) args s cells slots A) (F0 m pc ls [va_rf v]) :=
  W.aret (rt := .object rt) hx hb hr (Or.inl ⟨rt, rfl⟩) (va_rf_or v) (fun t ht _ => ⟨⟨v, S, rfl, h, by subst ht; exact hP⟩, hS.F ht⟩) hS.2.2 hdg hlocks
end RET
end RWS
