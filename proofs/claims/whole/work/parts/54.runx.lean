/-! run: X -/
abbrev scC (j : Nat) : Prop := j = 27 ∨ j = 30 ∨ j = 31 ∨ j = 32
theorem x_takeLetters {S : St} {T : TT} {i : Nat} {post : St → Prop} (hT : TpX S T i) (ok : okTT T) (hi : i ≤ T.1) (h : ∀ S' : St, TpX S' T (lte T (T.1 - i) i) → Fx sc7 S S' → post S') : w_X7_takeLetters post S := by
  have h8 := ok.1
  unfold w_X7_takeLetters
  have loop : ∀ n i (S1 : St), i + n = T.1 → TpX S1 T i → Fx sc7 S S1 → (∀ S' : St, TpX S' T (lte T n i) → Fx sc7 S S' → post S') → w_X7_takeLetters_0 post (n + 1) S1 := by
    intro n
    induction n with
    | zero =>
      intro i S1 h1 t hx hh
      rw [lte] at hh
      rw [w_X7_takeLetters_0, t.1.1, t.2]
      exact pk_le T.1 i (fun _ => hh S1 t hx) (fun y => by omega)
    | succ n ih =>
      intro i S1 h1 t hx hh
      rw [lte] at hh
      rw [w_X7_takeLetters_0]
      have eb : byA T i = nI (T.2 i) := by unfold byA; rw [if_pos (by omega)]
      have hb := ok.2 i (by omega)
      refine pk_le T.1 i (fun y => by omega) (fun y => nm_r t.2 (x_byteAt t.1 ok (by omega) ?_)) (hx := t.1.1) (hy := t.2)
      rw [eb]
      refine s_within (lo := 97) (hi := 122) (fun a1 a2 => br_f (by decide) (nm_r (e' := nI (i + 1)) (by rw [t.2]; exact nI_1 i) (nm_e ?_))) (fun a => br_t rfl ?_)
      · rw [cif_pos (show isL T i from ⟨y, a1, a2⟩)] at hh
        refine ih (i + 1) _ (by omega) ⟨⟨?_, fun j hj => ?_⟩, sI_s _ _ _ _⟩ (Fx.I hx rfl) hh
        · rw [sI_n _ _ _ _ _ (by decide)]; exact t.1.1
        · rw [sI_x _ _ _ _ _ _ (by decide)]; exact t.1.2 j hj
      · rw [cif_neg (fun z : isL T i => by have := z.2; omega)] at hh
        exact hh S1 t hx
  exact ⟨T.1 - i + 1, loop (T.1 - i) i S (by omega) hT Fx.rf h⟩
theorem x_cmdText {S : St} {k : Nat} {post : Nat → St → Prop} (hk : k < 5) (h : post (k + 9) S) : w_X5_wordText (nI k) post S := by
  unfold w_X5_wordText
  refine pk_eq k 0 (fun q => by subst q; exact h) (fun q => ?_)
  refine pk_eq k 1 (fun q => by subst q; exact h) (fun q => ?_)
  refine pk_eq k 2 (fun q => by subst q; exact h) (fun q => ?_)
  refine pk_eq k 3 (fun q => by subst q; exact h) (fun q => ?_)
  have : k = 4 := by omega
  subst this
  exact h
theorem x_wordBetween {S : St} {T : TT} {i j : Nat} {post : Int32 → St → Prop} (hT : TpX S T j) (ok : okTT T) (hi : i ≤ j) (hj : j ≤ T.1) (h : post (wrd T i j 9 5 0) S) : w_X5_wordBetween (nI i) post S := by
  have h8 := ok.1
  unfold w_X5_wordBetween
  have loop : ∀ n k, k + n = 5 → wrd T i j 9 n k = wrd T i j 9 5 0 → w_X5_wordBetween_2 post (n + 1) (nI i) (nI k) S := by
    intro n
    induction n with
    | zero =>
      intro k h1 he
      rw [wrd] at he
      rw [w_X5_wordBetween_2]
      exact pk_le 5 k (fun _ => by rw [he]; exact h) (fun y => by omega)
    | succ n ih =>
      intro k h1 he
      rw [wrd] at he
      rw [w_X5_wordBetween_2]
      refine pk_le 5 k (fun y => by omega) (fun y => x_cmdText y (nm_r hT.2 (x_bears hT.1 ok (by omega) hi (by omega) (fun z => br_f (by decide) ?_) (fun z => br_t rfl ?_))))
      · rw [show k + 9 = 9 + k by omega] at z
        rw [cif_pos z] at he
        rw [he]; exact h
      · rw [show k + 9 = 9 + k by omega] at z
        rw [cif_neg z] at he
        exact nm_r (e' := nI (k + 1)) (nI_1 k) (ih (k + 1) (by omega) he)
  exact ⟨6, loop 5 0 rfl rfl⟩
theorem x_numbersOf {S : St} {w : Nat} {post : Int32 → St → Prop} (hw : w < 5) (h : post (nI (nOf w)) S) : w_X5_numbersOf (nI w) post S := by
  unfold w_X5_numbersOf
  refine pk_eq w 0 (fun q => by subst q; exact h) (fun q => ?_)
  refine pk_eq w 1 (fun q => by subst q; exact h) (fun q => ?_)
  refine pk_eq w 2 (fun q => by subst q; exact h) (fun q => ?_)
  refine pk_eq w 3 (fun q => by subst q; exact h) (fun q => ?_)
  have : w = 4 := by omega
  subst this
  exact h
def XC (S : St) (T : TT) (c : Nat) (post : Int32 → St → Prop) (r : Nat ⊕ (Nat × Nat × (Nat → Nat))) : Prop := ∀ S' : St, Fx scC S S' → S'.1 30 2 = nI c → (∀ j, j < c → S'.1 31 j = S.1 31 j) → (∀ j, j < c * 3 → S'.1 32 j = S.1 32 j) → XT S' T → (∀ p, r = .inl p → S'.1 27 2 = S'.1 27 2 → p ≤ T.1 → post (nI p) S') ∧ ∀ w e f, r = .inr (w, e, f) → S'.1 27 2 = nI e → S'.1 31 c = nI w → (∀ k, k < nOf w → S'.1 32 (c * 3 + k) = nI (f k)) → post (-1) S'
theorem x_nums {S0 : St} {T : TT} {c w : Nat} {post : Int32 → St → Prop} (ok : okTT T) (hw : w < 5) (hc : c < 14) : ∀ n k i f r (S : St), k + n = nOf w → n < r → i ≤ T.1 → TpX S T i → Fx scC S0 S → S.1 30 2 = nI c → (∀ j, j < c → S.1 31 j = S0.1 31 j) → (∀ j, j < c * 3 → S.1 32 j = S0.1 32 j) → S.1 31 c = nI w → (∀ u, u < k → S.1 32 (c * 3 + u) = nI (f u)) → XC S0 T c post (pcE w (pn T n k i f)) → w_X5_parseCommand_37 post r (nI w) (nI k) S := by
  have h8 := ok.1
  have hn := nOf_in w
  intro n
  induction n with
  | zero =>
    intro k i f r S h1 h2 h3 t hx s2 s31 s32 sw su hh
    obtain ⟨r, rfl⟩ : ∃ j, r = j + 1 := ⟨r - 1, by omega⟩
    rw [pn] at hh
    rw [w_X5_parseCommand_37]
    refine x_numbersOf hw (pk_le (nOf w) k (fun _ => ?_) (fun y => by omega))
    exact (hh S hx s2 s31 s32 t.1).2 w i f rfl t.2 sw (fun u hu => su u (by omega))
  | succ n ih =>
    intro k i f r S h1 h2 h3 t hx s2 s31 s32 sw su hh
    obtain ⟨r, rfl⟩ : ∃ j, r = j + 1 := ⟨r - 1, by omega⟩
    rw [pn] at hh
    rw [w_X5_parseCommand_37]
    refine x_numbersOf hw (pk_le (nOf w) k (fun y => by omega) (fun y => nm_e ?_))
    have t0 : TpX (sL S 27 3 0) T i := ⟨⟨t.1.1, t.1.2⟩, t.2⟩
    have hx0 : Fx scC S0 (sL S 27 3 0) := Fx.L hx (Or.inl rfl)
    refine x_takes (c := 32) t0 ok (by omega) (by omega) (fun z S1 t1 e1 hx1 => br_f (by decide) ?_) (fun z => br_t rfl ?_)
    · rw [cif_pos z] at hh
      have hz := z.1
      have hin := tkd_in T 10 (by omega) 4 (i + 1) 0 0 (by omega)
      refine x_takeDigits (g := 10) (x := 0) t1 ok (by decide) (by decide) (by omega) (by decide) (by rw [e1]; simp [sL_2]; rfl) (fun S2 t2 e2 hx2 => ?_)
      have hx3 : Fx scC S0 S2 := hx0.tr ((hx1.tr hx2).mo (fun j e => Or.inl e))
      have o : ∀ j, j ≠ 27 → S2.1 j = S.1 j := fun j hj => by rw [(hx2 j hj).1, (hx1 j hj).1, sL_1]
      generalize tkd T 10 4 (i + 1) 0 0 = p at *
      refine pk_eq p.1 0 (fun q => ?_) (fun q => ?_)
      · rw [if_pos q] at hh
        rw [t2.2, q, Nat.add_zero]
        exact (hh S2 hx3 (by rw [o 30 (by decide)]; exact s2) (fun j hj => by rw [o 31 (by decide)]; exact s31 j hj) (fun j hj => by rw [o 32 (by decide)]; exact s32 j hj) t2.1).1 (i + 1) rfl rfl (by omega)
      · rw [if_neg q] at hh
        refine nm_r (e' := nI (c * 3 + k)) (by rw [o 30 (by decide), s2, show (3 : Int32) = nI 3 from rfl, pk_mul, nI_add]) (nm_r (e' := nI p.2) (by rw [e2]; exact toI _) (s_setAt (by show c * 3 + k < 42; omega) (by decide) (nm_r (e' := nI (k + 1)) (nI_1 k) ?_)))
        refine ih (k + 1) (i + 1 + p.1) (va_up f k p.2) r _ (by omega) (by omega) (by omega) ⟨⟨?_, fun j hj => ?_⟩, ?_⟩ (Fx.I hx3 (Or.inr (Or.inr (Or.inr rfl)))) ?_ (fun j hj => ?_) (fun j hj => ?_) ?_ (fun u hu => ?_) hh
        · rw [sI_x _ _ _ _ _ _ (by decide)]; exact t2.1.1
        · rw [sI_x _ _ _ _ _ _ (by decide)]; exact t2.1.2 j hj
        · rw [sI_x _ _ _ _ _ _ (by decide)]; exact t2.2
        · rw [sI_x _ _ _ _ _ _ (by decide), o 30 (by decide)]; exact s2
        · rw [sI_x _ _ _ _ _ _ (by decide), o 31 (by decide)]; exact s31 j hj
        · rw [sI_n _ _ _ _ _ (by omega), o 32 (by decide)]; exact s32 j hj
        · rw [sI_x _ _ _ _ _ _ (by decide), o 31 (by decide)]; exact sw
        · by_cases x : u = k
          · subst x; rw [sI_s, up_s]
          · rw [sI_n _ _ _ _ _ (by omega), o 32 (by decide), su u (by omega)]; simp [va_up, x]
    · rw [cif_neg z] at hh
      rw [t0.2]
      exact (hh _ hx0 s2 s31 s32 t0.1).1 i rfl rfl h3
theorem x_command {S : St} {T : TT} {i c : Nat} {post : Int32 → St → Prop} (hT : TpX S T i) (ok : okTT T) (hi : i ≤ T.1) (hc : c < 14) (h2 : S.1 30 2 = nI c) (h : XC S T c post (pcm T i)) : w_X5_parseCommand post S := by
  have h8 := ok.1
  have hl := lte_in T (T.1 - i) i (by omega)
  unfold w_X5_parseCommand
  unfold pcm at h
  refine nm_r hT.2 (x_takeLetters hT ok hi (fun S1 t1 hx1 => x_wordBetween t1 ok hl.1 hl.2 ?_))
  have hx2 : Fx scC S S1 := hx1.mo (fun j e => Or.inl e)
  refine ⟨fun q => ?_, fun q => ?_⟩
  · rw [cif_pos q] at h
    exact (h S1 hx2 (by rw [(hx1 30 (by decide)).1]; exact h2) (fun j _ => by rw [(hx1 31 (by decide)).1]) (fun j _ => by rw [(hx1 32 (by decide)).1]) t1.1).1 i rfl rfl hi
  · rw [cif_neg q] at h
    rcases wrd_is T i (lte T (T.1 - i) i) 9 5 0 with z | ⟨m, m1, m2, m3⟩
    · exact absurd z q
    have m3' : wrC T i = nI m := m3
    rw [m3', cl_nI (by omega)] at h
    rw [m3]
    have hn := nOf_in m
    refine nm_r (e' := nI c) (by rw [(hx1 30 (by decide)).1]; exact h2) (s_setAt (by show c < 14; omega) (by decide) ⟨nOf m + 1, ?_⟩)
    refine x_nums ok (by omega) hc (nOf m) 0 _ (fun _ => 0) _ _ (by omega) (by omega) hl.2 ⟨⟨?_, fun j hj => ?_⟩, ?_⟩ (Fx.I hx2 (Or.inr (Or.inr (Or.inl rfl)))) ?_ (fun j hj => ?_) (fun j hj => ?_) (sI_s _ _ _ _) (fun u hu => absurd hu (Nat.not_lt_zero u)) h
    · rw [sI_x _ _ _ _ _ _ (by decide)]; exact t1.1.1
    · rw [sI_x _ _ _ _ _ _ (by decide)]; exact t1.1.2 j hj
    · rw [sI_x _ _ _ _ _ _ (by decide)]; exact t1.2
    · rw [sI_x _ _ _ _ _ _ (by decide), (hx1 30 (by decide)).1]; exact h2
    · rw [sI_n _ _ _ _ _ (by omega), (hx1 31 (by decide)).1]
    · rw [sI_x _ _ _ _ _ _ (by decide), (hx1 32 (by decide)).1]
def PrX (S : St) (l : List (Nat × (Nat → Nat))) : Prop := S.1 30 2 = nI l.length ∧ ∀ n w f, l[n]? = some (w, f) → S.1 31 n = nI w ∧ ∀ k, k < nOf w → S.1 32 (n * 3 + k) = nI (f k)
theorem PrX.snoc {S S' : St} {l : List (Nat × (Nat → Nat))} {w : Nat} {f : Nat → Nat} (h : PrX S l) (h2 : S'.1 30 2 = nI (l.length + 1)) (o31 : ∀ j, j < l.length → S'.1 31 j = S.1 31 j) (o32 : ∀ j, j < l.length * 3 → S'.1 32 j = S.1 32 j) (e31 : S'.1 31 l.length = nI w) (e32 : ∀ k, k < nOf w → S'.1 32 (l.length * 3 + k) = nI (f k)) : PrX S' (l ++ [(w, f)]) := by
  refine ⟨by rw [h2]; simp, fun n w2 f2 e => ?_⟩
  rcases Nat.lt_or_ge n l.length with q | q
  · rw [List.getElem?_append_left q] at e
    have := h.2 n w2 f2 e
    have hn := nOf_in w2
    refine ⟨by rw [o31 n q]; exact this.1, fun k hk => by rw [o32 _ (by omega)]; exact this.2 k hk⟩
  · rw [List.getElem?_append_right q] at e
    have e0 : n - l.length = 0 := by
      have := (List.getElem?_eq_some_iff.mp e).1
      simpa using this
    rw [e0] at e
    simp only [List.getElem?_cons_zero, Option.some.injEq, Prod.mk.injEq] at e
    obtain ⟨rfl, rfl⟩ := e
    have : n = l.length := by omega
    subst this
    exact ⟨e31, e32⟩
def XS (S : St) (T : TT) (post : Int32 → St → Prop) (r : Nat ⊕ List (Nat × (Nat → Nat))) : Prop := ∀ S' : St, Fx scC S S' → XT S' T → (∀ p, r = .inl p → p ≤ T.1 → post (nI p) S') ∧ ∀ l, r = .inr l → PrX S' l → post (-1) S'
theorem x_script {S : St} {T : TT} {post : Int32 → St → Prop} (hT : XT S T) (ok : okTT T) (h : XS S T post (psc T 14 0)) : w_X5_parse post S := by
  have h8 := ok.1
  unfold w_X5_parse
  have loop : ∀ n i (acc : List (Nat × (Nat → Nat))) (S1 : St), acc.length + n = 14 → 6 * acc.length ≤ i → i ≤ T.1 → TpX S1 T i → PrX S1 acc → Fx scC S S1 → (∀ p, psc T n i = .inl p → psc T 14 0 = .inl p) → (∀ l, psc T n i = .inr l → psc T 14 0 = .inr (acc ++ l)) → w_X5_parse_10 post (n + 1) S1 := by
    intro n
    induction n with
    | zero => intro i acc S1 h1 h2 h3; omega
    | succ n ih =>
      intro i acc S1 h1 h2 h3 t hP hx g1 g2
      rw [psc] at g1 g2
      have hin := pcm_in T i h3
      rw [w_X5_parse_10]
      refine pk_le 14 acc.length (fun y => by omega) (fun y => x_command t ok h3 y hP.1 ?_) (hy := hP.1)
      intro S2 hx2 e2 o31 o32 t2
      have hx3 : Fx scC S S2 := hx.tr hx2
      refine ⟨fun p e _ hp => br_f (nI_ne_m1 (by omega)) ?_, fun w e f er ea e31 e32 => br_t rfl (nm_r (e' := nI (acc.length + 1)) (by rw [e2]; exact nI_1 _) (nm_e ?_))⟩
      · rw [e] at g1
        exact (h S2 hx3 t2).1 p (g1 p rfl) hp
      · rw [er] at g1 g2 hin
        obtain ⟨w1, w2, w3⟩ := hin.2 w e f rfl
        rw [psE] at g1 g2
        have hP2 : PrX (sI S2 30 2 (nI (acc.length + 1))) (acc ++ [(w, f)]) := PrX.snoc (S := S1) hP (sI_s _ _ _ _) (fun j hj => by rw [sI_x _ _ _ _ _ _ (by decide)]; exact o31 j hj) (fun j hj => by rw [sI_x _ _ _ _ _ _ (by decide)]; exact o32 j hj) (by rw [sI_x _ _ _ _ _ _ (by decide)]; exact e31) (fun k hk => by rw [sI_x _ _ _ _ _ _ (by decide)]; exact e32 k hk)
        have t3 : TpX (sI S2 30 2 (nI (acc.length + 1))) T e := ⟨⟨by rw [sI_x _ _ _ _ _ _ (by decide)]; exact t2.1, fun j hj => by rw [sI_x _ _ _ _ _ _ (by decide)]; exact t2.2 j hj⟩, by rw [sI_x _ _ _ _ _ _ (by decide)]; exact ea⟩
        have hx4 : Fx scC S (sI S2 30 2 (nI (acc.length + 1))) := Fx.I hx3 (Or.inr (Or.inl rfl))
        generalize sI S2 30 2 (nI (acc.length + 1)) = S3 at *
        unfold w_X7_isAtEnd
        refine pk_lt e T.1 (fun y => br_t rfl ?_) (fun y => br_f (by decide) ?_) (hx := t3.2) (hy := t3.1.1)
        · simp only [show ¬ e = T.1 by omega, if_false] at g1 g2
          refine x_takes (c := 59) t3 ok (by omega) (by omega) (fun z S4 t4 e4 hx5 => br_f (by decide) ?_) (fun z => br_t rfl ?_)
          · rw [cif_pos z] at g1 g2
            refine ih (e + 1) (acc ++ [(w, f)]) S4 (by simp; omega) (by simp; omega) (by have := z.1; omega) t4 ⟨?_, fun m w2 f2 em => ?_⟩ (hx4.tr (hx5.mo (fun j q => Or.inl q))) (fun p ep => g1 p (by rw [ep]; rfl)) (fun l el => ?_)
            · rw [(hx5 30 (by decide)).1]; exact hP2.1
            · rw [(hx5 31 (by decide)).1, (hx5 32 (by decide)).1]; exact hP2.2 m w2 f2 em
            · rw [g2 ((w, f) :: l) (by rw [el]; rfl)]; simp
          · rw [cif_neg z] at g1
            rw [t3.2]
            exact (h S3 hx4 t3.1).1 e (g1 e rfl) w3
        · simp only [show e = T.1 by omega, if_true] at g2
          exact (h S3 hx4 t3.1).2 _ (g2 _ rfl) hP2
  refine nm_e (nm_e ⟨15, loop 14 0 [] _ rfl (by simp) (Nat.zero_le _) ⟨⟨?_, fun j hj => ?_⟩, ?_⟩ ⟨sI_s _ _ _ _, fun n w f e => by simp at e⟩ (Fx.I (Fx.I Fx.rf (Or.inl rfl)) (Or.inr (Or.inl rfl))) (fun p e => e) (fun l e => by rw [e]; rfl)⟩)
  · simp [sI_1]; exact hT.1
  · simp [sI_1]; exact hT.2 j hj
  · simp [sI_1]; rfl
