/-! run: the model -/
abbrev scCm (j : Nat) : Prop := j = 14
abbrev scCe (i : Nat) : Prop := i = 23
theorem TpM.to {S S' : St} {T : TT} {i j : Nat} (h : TpM S T i) (hx : Fm scCm scCe S S') (e : S'.1 0 23 = nI j) : TpM S' T j :=
  ⟨by rw [hx.2 22 (by decide)]; exact h.1, fun u hu => by rw [hx.1 13 (by decide) (by decide)]; exact h.2.1 u hu, e⟩
def MX (S : St) (T : TT) (post : Int32 → St → Prop) (r : Nat ⊕ (Nat × Nat × (Nat → Nat))) : Prop := ∀ S' : St, Fm scCm scCe S S' → (∀ p, r = .inl p → p ≤ T.1 → S'.1 0 23 = nI p → post (-1) S') ∧ ∀ w e f, r = .inr (w, e, f) → S'.1 0 23 = nI e → (∀ k, k < nOf w → S'.1 14 k = nI (f k)) → post (nI w) S'
theorem m_numbersOf {S : St} {w : Nat} {post : Int32 → St → Prop} (hw : w < 5) (h : post (nI (nOf w)) S) : w_X9_numbersOf (nI w) post S := by
  unfold w_X9_numbersOf
  unfold nOf at h
  refine pk_eq w 0 (fun q => ?_) (fun q => ?_)
  · rw [if_pos q] at h; exact h
  rw [if_neg q] at h
  refine pk_eq w 1 (fun q => ?_) (fun q => ?_)
  · rw [if_pos q] at h; exact h
  rw [if_neg q] at h
  refine pk_eq w 4 (fun q => ?_) (fun q => ?_)
  · rw [if_pos q] at h; exact h
  rw [if_neg q] at h
  exact h
theorem dgv_ten (T : TT) (i : Nat) : dgv T i < 10 ↔ i < T.1 ∧ 48 ≤ T.2 i ∧ T.2 i ≤ 57 := by
  unfold dgv
  by_cases q : i < T.1
  · rw [if_pos q]
    by_cases z : 48 ≤ T.2 i ∧ T.2 i ≤ 57
    · rw [if_pos z]; omega
    · rw [if_neg z]
      by_cases y : 97 ≤ T.2 i ∧ T.2 i ≤ 102
      · rw [if_pos y]; omega
      · rw [if_neg y]; omega
  · rw [if_neg q]; omega
theorem dgv_tenV (T : TT) (i : Nat) (h : dgv T i < 10) : dgv T i = T.2 i - 48 := by
  have q := (dgv_ten T i).mp h
  unfold dgv
  rw [if_pos q.1, if_pos q.2]
theorem m_figs {S0 : St} {T : TT} {w k : Nat} {post : Int32 → St → Prop} {K53 : Int32 → Int32 → St → Prop} (ok : okTT T) (hk : k < 3) : ∀ n c i x r (S : St), c + n = 4 → n < r → i ≤ T.1 → TpM S T i → Fm scCm scCe S0 S → S.1 14 k = nI x → (∀ u, u < k → S.1 14 u = S0.1 14 u) → (∀ S' : St, Fm scCm scCe S0 S' → TpM S' T (i + ((tkd T 10 n i c x).1 - c)) → S'.1 14 k = nI (tkd T 10 n i c x).2 → (∀ u, u < k → S'.1 14 u = S0.1 14 u) → K53 (nI w) (nI (k + 1)) S') → w_X9_command_107 post K53 r (nI w) (nI k) (nI c) S := by
  have h8 := ok.1
  intro n
  induction n with
  | zero =>
    intro c i x r S h1 h2 h3 t hx e14 eu hh
    obtain ⟨r, rfl⟩ : ∃ j, r = j + 1 := ⟨r - 1, by omega⟩
    rw [tkd] at hh
    rw [w_X9_command_107]
    refine pk_le 4 c (fun _ => nm_r (e' := nI (k + 1)) (nI_1 k) (hh S hx ?_ e14 eu)) (fun y => by omega)
    rw [show i + ((c, x).1 - c) = i by simp]
    exact t
  | succ n ih =>
    intro c i x r S h1 h2 h3 t hx e14 eu hh
    obtain ⟨r, rfl⟩ : ∃ j, r = j + 1 := ⟨r - 1, by omega⟩
    rw [tkd] at hh
    rw [w_X9_command_107]
    refine pk_le 4 c (fun y => by omega) (fun y => m_isAt (lo := 48) (hi := 57) t ok (by omega) (by omega) (by omega) (fun z => br_f (by decide) ⟨in_nI hk, nm_r t.2.2 ⟨in_nI (by omega), ?_⟩⟩) (fun z => br_t rfl (nm_r (e' := nI (k + 1)) (nI_1 k) ?_)))
    · have hd : dgv T i < 10 := (dgv_ten T i).mpr z
      have hv := dgv_tenV T i hd
      have hle := tkd_le T 10 n (i + 1) (c + 1) (x * 10 + dgv T i)
      rw [if_pos hd] at hh
      rw [nI_clamp (show k < 2 ^ 31 by omega), nI_clamp (show i < 2 ^ 31 by omega), e14, t.2.1 i z.1]
      refine nm_r (e' := nI (x * 10 + dgv T i)) ?_ ⟨in_nI hk, nm_e (nm_r (e' := nI (i + 1)) (by rw [sI_x _ _ _ _ _ _ (by decide), t.2.2]; exact nI_1 i) (nm_e (nm_r (e' := nI (c + 1)) (nI_1 c) ?_)))⟩
      · rw [show (10 : Int32) = nI 10 from rfl, show (48 : Int32) = nI 48 from rfl, pk_mul, nI_add, pk_sub (by omega), hv]
        congr 1
        omega
      · have hx2 : Fm scCm scCe S0 (sI (sI S 14 k (nI (x * 10 + dgv T i))) 0 23 (nI (i + 1))) := Fm.F (Fm.A hx rfl (by decide)) rfl
        refine ih (c + 1) (i + 1) (x * 10 + dgv T i) r _ (by omega) (by omega) (by omega) ?_ hx2 ?_ (fun u hu => ?_) (fun S' a1 a2 a3 a4 => hh S' a1 ?_ a3 a4)
        · exact t.to (Fm.F (Fm.A Fm.rf rfl (by decide)) rfl) (sI_s _ _ _ _)
        · rw [sI_x _ _ _ _ _ _ (by decide), sI_s]
        · rw [sI_x _ _ _ _ _ _ (by decide), sI_n _ _ _ _ _ (by omega)]; exact eu u hu
        · rw [show i + ((tkd T 10 n (i + 1) (c + 1) (x * 10 + dgv T i)).1 - c) = i + 1 + ((tkd T 10 n (i + 1) (c + 1) (x * 10 + dgv T i)).1 - (c + 1)) by omega]
          exact a2
    · rw [if_neg (fun q => z ((dgv_ten T i).mp q))] at hh
      refine hh S hx ?_ e14 eu
      rw [show i + ((c, x).1 - c) = i by simp]
      exact t
theorem m_nums {S0 : St} {T : TT} {w : Nat} {post : Int32 → St → Prop} (ok : okTT T) (hw : w < 5) : ∀ n k i f r (S : St), k + n = nOf w → n < r → i ≤ T.1 → TpM S T i → Fm scCm scCe S0 S → (∀ u, u < k → S.1 14 u = nI (f u)) → MX S0 T post (pcE w (pn T n k i f)) → w_X9_command_53 post r (nI w) (nI k) S := by
  have h8 := ok.1
  have hn := nOf_in w
  intro n
  induction n with
  | zero =>
    intro k i f r S h1 h2 h3 t hx su hh
    obtain ⟨r, rfl⟩ : ∃ j, r = j + 1 := ⟨r - 1, by omega⟩
    rw [pn] at hh
    rw [w_X9_command_53]
    refine m_numbersOf hw (pk_le (nOf w) k (fun _ => ?_) (fun y => by omega))
    exact (hh S hx).2 w i f rfl t.2.2 (fun u hu => su u (by omega))
  | succ n ih =>
    intro k i f r S h1 h2 h3 t hx su hh
    obtain ⟨r, rfl⟩ : ∃ j, r = j + 1 := ⟨r - 1, by omega⟩
    rw [pn] at hh
    rw [w_X9_command_53]
    refine m_numbersOf hw (pk_le (nOf w) k (fun y => by omega) (fun y => m_isC (c := 32) t ok (by omega) (by omega) (fun z => br_f (by decide) ?_) (fun z => br_t rfl ?_)))
    · rw [cif_pos z] at hh
      have hz := z.1
      have hin := tkd_in T 10 (by omega) 4 (i + 1) 0 0 (by omega)
      have hx1 : Fm scCm scCe S0 (sI S 0 23 (nI (i + 1))) := Fm.F hx rfl
      have t1 : TpM (sI S 0 23 (nI (i + 1))) T (i + 1) := t.to (Fm.F Fm.rf rfl) (sI_s _ _ _ _)
      have eu : ∀ u, (sI S 0 23 (nI (i + 1))).1 14 u = S.1 14 u := fun u => sI_x _ _ _ _ _ _ (by decide)
      refine nm_r (e' := nI (i + 1)) (by rw [t.2.2]; exact nI_1 i) (nm_e ?_)
      generalize sI S 0 23 (nI (i + 1)) = S1 at *
      have hfirst : (tkd T 10 4 (i + 1) 0 0).1 = 0 ↔ ¬ dgv T (i + 1) < 10 := by
        rw [tkd]
        by_cases q : dgv T (i + 1) < 10
        · rw [if_pos q]
          have := tkd_le T 10 3 (i + 1 + 1) (0 + 1) (0 * 10 + dgv T (i + 1))
          exact ⟨fun e => by omega, fun e => absurd q e⟩
        · rw [if_neg q]; exact ⟨fun _ => q, fun _ => rfl⟩
      refine m_isAt (lo := 48) (hi := 57) t1 ok (by omega) (by omega) (by omega) (fun y => br_f (by decide) ⟨in_nI (by omega), ?_⟩) (fun y => br_t rfl ?_)
      · rw [if_neg (fun q => hfirst.mp q ((dgv_ten T _).mpr y))] at hh
        rw [nI_clamp (show k < 2 ^ 31 by omega)]
        refine nm_e ⟨5, ?_⟩
        refine m_figs (S0 := sI S1 14 k 0) ok (by omega) 4 0 (i + 1) 0 5 _ rfl (by omega) (by omega) (t1.to (Fm.A Fm.rf rfl (by decide)) (by rw [sI_x _ _ _ _ _ _ (by decide)]; exact t1.2.2)) Fm.rf (sI_s _ _ _ _) (fun _ _ => rfl) (fun S2 a1 a2 a3 a4 => ?_)
        rw [Nat.sub_zero] at hin a2
        refine ih (k + 1) _ _ r S2 (by omega) (by omega) hin a2 ((Fm.A hx1 rfl (by decide)).tr a1) (fun u hu => ?_) hh
        by_cases x : u = k
        · subst x; rw [a3, up_s]
        · rw [a4 u (by omega), sI_n _ _ _ _ _ x, eu, su u (by omega)]; simp [va_up, x]
      · rw [if_pos (hfirst.mpr (fun q => y ((dgv_ten T _).mp q)))] at hh
        exact (hh S1 hx1).1 (i + 1) rfl (by omega) t1.2.2
    · rw [cif_neg z] at hh
      exact (hh S hx).1 i rfl h3 t.2.2
theorem m_command {S : St} {T : TT} {i : Nat} {post : Int32 → St → Prop} (hT : TpM S T i) (ok : okTT T) (hC : MC S) (hi : i ≤ T.1) (h : MX S T post (pcm T i)) : w_X9_command post S := by
  have h8 := ok.1
  have hl := lte_in T (T.1 - i) i (by omega)
  unfold w_X9_command
  unfold pcm at h
  have loop : ∀ n j (S1 : St), j + n = T.1 → TpM S1 T j → Fm scCm scCe S S1 → lte T n j = lte T (T.1 - i) i → w_X9_command_5 post (n + 1) (nI i) S1 := by
    have fin : ∀ j (S1 : St), TpM S1 T j → Fm scCm scCe S S1 → j = lte T (T.1 - i) i → ∀ x5 : Int32, x5 = S1.1 0 23 → w_X9_commandOf (nI i) x5 (fun r7 S6 => ((r7 = (-1) → (∀ S35 : St, S35 = sI S6 0 23 (nI i) → (post (-1) S35))) ∧ (¬ r7 = (-1) → (∃ j : Nat, w_X9_command_53 post j r7 0 S6)))) S1 := by
      intro j S1 t hx e
      subst e
      refine nm_r t.2.2 (m_commandOf t.2.1 ok (hC.cp (fun u u1 u2 => hx.1 u (by omega) (by unfold scCm; omega))) hl.1 hl.2 ⟨fun q => nm_e ?_, fun q => ?_⟩)
      · have q : wrC T i = -1 := q
        rw [cif_pos q] at h
        exact (h _ (Fm.F hx rfl)).1 i rfl hi (sI_s _ _ _ _)
      · have q : ¬ wrC T i = -1 := q
        rw [cif_neg q] at h
        rcases wrd_is T i (lte T (T.1 - i) i) 9 5 0 with z | ⟨m, m1, m2, m3⟩
        · exact absurd z q
        have m3' : wrC T i = nI m := m3
        rw [m3', cl_nI (by omega)] at h
        rw [m3]
        exact ⟨nOf m + 1, m_nums ok (by omega) (nOf m) 0 _ (fun _ => 0) _ S1 (by omega) (by omega) hl.2 t hx (fun u hu => absurd hu (Nat.not_lt_zero u)) h⟩
    intro n
    induction n with
    | zero =>
      intro j S1 h1 t hx he
      rw [lte] at he
      rw [w_X9_command_5]
      exact m_isAt (lo := 97) (hi := 122) t ok (by omega) (by omega) (by omega) (fun z => by omega) (fun z => br_t rfl (fin j S1 t hx he))
    | succ n ih =>
      intro j S1 h1 t hx he
      rw [lte] at he
      rw [w_X9_command_5]
      refine m_isAt (lo := 97) (hi := 122) t ok (by omega) (by omega) (by omega) (fun z => br_f (by decide) (nm_r (e' := nI (j + 1)) (by rw [t.2.2]; exact nI_1 j) (nm_e ?_))) (fun z => br_t rfl (fin j S1 t hx ?_))
      · rw [cif_pos (show isL T j from z)] at he
        exact ih (j + 1) _ (by omega) (t.to (Fm.F Fm.rf rfl) (sI_s _ _ _ _)) (Fm.F hx rfl) he
      · rw [cif_neg (show ¬ isL T j from z)] at he
        exact he
  exact nm_r hT.2.2 ⟨T.1 - i + 1, loop (T.1 - i) i S (by omega) hT Fm.rf rfl⟩
theorem m_done {S : St} {F : TF} {w : Nat} {f : Nat → Nat} {post : Int32 → St → Prop} (hM : MF S F) (ok : okTF F) (hw : w < 5) (e : ∀ k, k < nOf w → S.1 14 k = nI (f k)) (h : ∀ S' : St, MF S' (q_cmd F w f).2 → Fm E1 (fun i => i = 0) S S' → post (q_cmd F w f).1 S') : w_X9_done (nI w) post S := by
  have c0 : Int32.toNatClampNeg 0 = 0 := rfl
  have c1 : Int32.toNatClampNeg 1 = 1 := by decide
  have c2 : Int32.toNatClampNeg 2 = 2 := by decide
  have i0 : vp_in 0 3 := in_nI (n := 0) (by omega)
  have i1 : vp_in 1 3 := in_nI (n := 1) (by omega)
  have i2 : vp_in 2 3 := in_nI (n := 2) (by omega)
  unfold w_X9_done
  rw [c0, c1, c2]
  unfold q_cmd at h
  refine pk_eq w 0 (fun q => ?_) (fun q => ?_)
  · subst q
    rw [if_pos rfl] at h
    exact ⟨i0, i1, i2, nm_r (e 0 (by decide)) (nm_r (e 1 (by decide)) (nm_r (e 2 (by decide)) (m_fraction hM ok h)))⟩
  rw [if_neg q] at h
  refine pk_eq w 1 (fun q => ?_) (fun q => ?_)
  · subst q
    rw [if_pos rfl] at h
    exact ⟨i0, nm_r (e 0 (by decide)) (m_drop hM ok h)⟩
  rw [if_neg q] at h
  refine pk_eq w 2 (fun q => ?_) (fun q => ?_)
  · subst q
    rw [if_pos rfl] at h
    exact ⟨i0, i1, nm_r (e 0 (by decide)) (nm_r (e 1 (by decide)) (m_multiply hM ok h))⟩
  rw [if_neg q] at h
  refine pk_eq w 3 (fun q => ?_) (fun q => ?_)
  · subst q
    rw [if_pos rfl] at h
    exact ⟨i0, i1, nm_r (e 0 (by decide)) (nm_r (e 1 (by decide)) (m_sum hM ok h))⟩
  rw [if_neg q] at h
  have : w = 4 := by omega
  subst this
  exact ⟨i0, nm_r (e 0 (by decide)) (m_lowest hM ok h)⟩
abbrev scRm (j : Nat) : Prop := j = 1 ∨ j = 2 ∨ j = 3 ∨ j = 14
abbrev scRe2 (i : Nat) : Prop := i = 0 ∨ i = 21 ∨ i = 22 ∨ i = 23
theorem m_run {S : St} {F : TF} {T : TT} {post : Int32 → St → Prop} (hM : MF S F) (ok : okTF F) (hT : MT S T) (okt : okTT T) (hC : MC S) (h : ∀ S' : St, MF S' (q_run F T).2.1 → MT S' (q_run F T).2.2 → Fm scRm scRe2 S S' → post (q_run F T).1 S') : w_X9_run post S := by
  have h8 := okt.1
  unfold w_X9_run
  unfold q_run at h
  refine nm_r hT.1 (nm_e (nm_e (nm_e ?_)))
  have hx0 : Fm scRm scRe2 S (sI (sI (sI S 0 22 (nI T.1)) 0 21 0) 0 23 0) := Fm.F (Fm.F (Fm.F Fm.rf (by simp [scRe2])) (by simp [scRe2])) (by simp [scRe2])
  have t0 : TpM (sI (sI (sI S 0 22 (nI T.1)) 0 21 0) 0 23 0) T 0 := ⟨by simp [sI_1], fun j hj => by simp [sI_1]; exact hT.2 j hj, sI_s _ _ _ _⟩
  have f0 : (sI (sI (sI S 0 22 (nI T.1)) 0 21 0) 0 23 0).1 0 21 = nI 0 := by simp [sI_1]; rfl
  have m0 : MF (sI (sI (sI S 0 22 (nI T.1)) 0 21 0) 0 23 0) F := hM.cp (by simp [sI_1]) (by funext i; simp [sI_1]) (by funext i; simp [sI_1]) (by funext i; simp [sI_1])
  have c0 : MC (sI (sI (sI S 0 22 (nI T.1)) 0 21 0) 0 23 0) := hC.cp (fun j j1 j2 => by funext i; repeat rw [sI_x _ _ _ _ _ _ (by omega)])
  generalize sI (sI (sI S 0 22 (nI T.1)) 0 21 0) 0 23 0 = S0 at *
  have mt0 : ∀ S2 : St, S2.1 0 21 = nI 0 → MT S2 (0, T.2) := fun S2 e => ⟨e, fun i hi => absurd hi (Nat.not_lt_zero i)⟩
  have up : ∀ {S1 S2 : St}, Fm scCm scCe S1 S2 → Fm scRm scRe2 S1 S2 := fun hx => hx.mo (fun j e => by show _ ∨ _; unfold scCm at e; omega) (fun i e => by show _ ∨ _; unfold scCe at e; omega)
  have second : ∀ (L : List (Nat × (Nat → Nat))), psc T 14 0 = .inr L → ∀ n i d (l : List (Nat × (Nat → Nat))) r (G : TF) (S1 : St), psc T n i = .inr l → d + l.length = L.length → n + 1 < r → i ≤ T.1 → okTF G → MF S1 G → TpM S1 T i → MC S1 → S1.1 0 21 = nI 0 → Fm scRm scRe2 S S1 → doL l G d = doL L F 0 → w_X9_run_103 post r (nI L.length) (nI d) S1 := by
    intro L eL
    have hLl := ((psc_in T 14 0 (Nat.zero_le _)).2 L eL).1
    rw [eL] at h
    intro n
    induction n with
    | zero => intro i d l r G S1 h1; simp [psc] at h1
    | succ n ih =>
      intro i d l r G S1 h1 h2 h3 h4 okG hG t c hz hx he
      obtain ⟨r, rfl⟩ : ∃ j, r = j + 2 := ⟨r - 2, by omega⟩
      have hin := pcm_in T i h4
      rw [psc] at h1
      cases hp : pcm T i with
      | inl p => rw [hp, psE] at h1; simp at h1
      | inr q =>
        obtain ⟨w1, w2, w3⟩ := hin.2 q.1 q.2.1 q.2.2 hp
        rw [hp, psE] at h1
        obtain ⟨l2, hl2, hcase⟩ : ∃ l2, l = (q.1, q.2.2) :: l2 ∧ ((q.2.1 = T.1 ∧ l2 = []) ∨ (q.2.1 < T.1 ∧ psc T n (q.2.1 + 1) = .inr l2)) := by
          by_cases z : q.2.1 = T.1
          · rw [if_pos z] at h1
            simp only [Sum.inr.injEq] at h1
            exact ⟨[], h1.symm, Or.inl ⟨z, rfl⟩⟩
          · rw [if_neg z] at h1
            by_cases y : isC T q.2.1 59
            · rw [cif_pos y] at h1
              cases hs : psc T n (q.2.1 + 1) with
              | inl p => rw [hs, psL] at h1; simp at h1
              | inr l2 =>
                rw [hs, psL] at h1
                simp only [Sum.inr.injEq] at h1
                exact ⟨l2, h1.symm, Or.inr ⟨y.1, rfl⟩⟩
            · rw [cif_neg y] at h1; simp at h1
        subst hl2
        simp only [List.length_cons] at h2
        rw [doL] at he
        rw [w_X9_run_103]
        refine pk_le L.length d (fun y => by omega) (fun y => m_command t okt c h4 ?_)
        intro S2 hx2
        refine ⟨fun p ep => by rw [hp] at ep; simp at ep, fun w e f ew ea e14 => ?_⟩
        rw [hp] at ew
        simp only [Sum.inr.injEq] at ew
        subst ew
        have hG2 : MF S2 G := hG.cp (hx2.2 0 (by decide)) (hx2.1 1 (by decide) (by decide)) (hx2.1 2 (by decide) (by decide)) (hx2.1 3 (by decide) (by decide))
        refine m_done hG2 okG w1 e14 (fun S3 hG3 hx3 => ?_)
        have hxd : Fm scRm scRe2 S S3 := (hx.tr (up hx2)).tr (hx3.mo (fun j e => by show _ ∨ _; unfold E1 at e; omega) (fun i e => Or.inl e))
        have t3 : TpM S3 T e := by
          have t2 := t.to hx2 ea
          exact ⟨by rw [hx3.2 22 (by decide)]; exact t2.1, fun u hu => by rw [hx3.1 13 (by decide) (by decide)]; exact t2.2.1 u hu, by rw [hx3.2 23 (by decide)]; exact t2.2.2⟩
        have z3 : S3.1 0 21 = nI 0 := by rw [hx3.2 21 (by decide), hx2.2 21 (by decide)]; exact hz
        have c3 : MC S3 := c.cp (fun j j1 j2 => by rw [hx3.1 j (by omega) (by unfold E1; omega), hx2.1 j (by omega) (by unfold scCm; omega)])
        refine ⟨fun q => ?_, fun q => ?_⟩
        · have q' : 0 ≤ (q_cmd G w f).1 := q
          rw [if_pos q'] at he
          refine nm_r (e' := nI (e + 1)) (by rw [t3.2.2]; exact nI_1 e) (nm_e (nm_r (e' := nI (d + 1)) (nI_1 d) ?_))
          have t4 : TpM (sI S3 0 23 (nI (e + 1))) T (e + 1) := t3.to (Fm.F Fm.rf rfl) (sI_s _ _ _ _)
          have hx4 : Fm scRm scRe2 S (sI S3 0 23 (nI (e + 1))) := Fm.F hxd (by simp [scRe2])
          have z4 : (sI S3 0 23 (nI (e + 1))).1 0 21 = nI 0 := by rw [sI_n _ _ _ _ _ (by decide)]; exact z3
          have g4 : MF (sI S3 0 23 (nI (e + 1))) (q_cmd G w f).2 := hG3.cp (sI_n _ _ _ _ _ (by decide)) (by funext u; exact sI_x _ _ _ _ _ _ (by decide)) (by funext u; exact sI_x _ _ _ _ _ _ (by decide)) (by funext u; exact sI_x _ _ _ _ _ _ (by decide))
          have c4 : MC (sI S3 0 23 (nI (e + 1))) := c3.cp (fun j j1 j2 => by funext u; exact sI_x _ _ _ _ _ _ (by omega))
          rcases hcase with ⟨y1, y2⟩ | ⟨y1, y2⟩
          · subst y2
            rw [doL] at he
            rw [w_X9_run_103]
            simp only [List.length_nil] at h2
            refine pk_le L.length (d + 1) (fun _ => ?_) (fun y => by omega)
            have e1 : (rnR F (.inr L)).1 = nI L.length := by show (doL L F 0).1 = _; rw [← he]; show nI (d + 1) = _; rw [show d + 1 = L.length by omega]
            have e2 : (rnR F (.inr L)).2 = (q_cmd G w f).2 := by show (doL L F 0).2 = _; rw [← he]
            rw [← e1]
            exact h _ (by rw [e2]; exact g4) (mt0 _ z4) hx4
          · exact ih (e + 1) (d + 1) l2 (r + 1) _ _ y2 (by omega) (by omega) (by have y1 : e < T.1 := y1; omega) (ok_cmd okG _ _) g4 t4 c4 z4 hx4 he
        · have q' : ¬ 0 ≤ (q_cmd G w f).1 := q
          rw [if_neg q'] at he
          have e1 : (rnR F (.inr L)).1 = -2000 - nI d := by show (doL L F 0).1 = _; rw [← he]
          have e2 : (rnR F (.inr L)).2 = (q_cmd G w f).2 := by show (doL L F 0).2 = _; rw [← he]
          rw [← e1]
          exact h S3 (by rw [e2]; exact hG3) (mt0 S3 z3) hxd
  have first : ∀ n i d (S1 : St), d + n = 14 → 6 * d ≤ i → i ≤ T.1 → TpM S1 T i → Fm scCm scCe S0 S1 → (∀ p, psc T n i = .inl p → psc T 14 0 = .inl p) → (∀ l, psc T n i = .inr l → ∃ L, psc T 14 0 = .inr L ∧ L.length = d + l.length) → w_X9_run_22 post (n + 2) 1 (nI d) S1 := by
    intro n
    induction n with
    | zero => intro i d S1 h1 h2 h3; omega
    | succ n ih =>
      intro i d S1 h1 h2 h3 t hx g1 g2
      rw [psc] at g1 g2
      have hin := pcm_in T i h3
      have c1 : MC S1 := c0.cp (fun j j1 j2 => hx.1 j (by omega) (by unfold scCm; omega))
      have bad : ∀ p (S2 : St), psc T 14 0 = .inl p → S2.1 0 23 = nI p → Fm scCm scCe S0 S2 → post (-1000 - S2.1 0 23) S2 := fun p S2 e e23 hx2 => by
        rw [e] at h
        rw [e23]
        refine h S2 (m0.cp (hx2.2 0 (by decide)) (hx2.1 1 (by decide) (by decide)) (hx2.1 2 (by decide) (by decide)) (hx2.1 3 (by decide) (by decide))) (mt0 S2 (by rw [hx2.2 21 (by decide)]; exact f0)) (hx0.tr (up hx2))
      rw [w_X9_run_22]
      refine br_f (by decide) (m_command t okt c1 h3 ?_)
      intro S2 hx2
      have hx3 := hx.tr hx2
      refine ⟨fun p e hp e23 => br_t rfl ?_, fun w e f er ea _ => ?_⟩
      · rw [e] at g1
        exact bad p S2 (g1 p rfl) e23 hx3
      · rw [er] at g1 g2 hin
        obtain ⟨w1, w2, w3⟩ := hin.2 w e f rfl
        rw [psE] at g1 g2
        have t2 := t.to hx2 ea
        refine br_f (nI_ne_m1 (by omega)) (nm_r (e' := nI (d + 1)) (nI_1 d) (m_isC (c := 59) t2 okt (by omega) (by omega) (fun z => br_f (by decide) (nm_r (e' := nI (e + 1)) (by rw [t2.2.2]; exact nI_1 e) (nm_e ?_))) (fun z => br_t rfl (nm_r (e' := nI e) (by rw [t2.2.2]; exact nI_add e 0) (nm_e ?_)))))
        · have hz := z.1
          simp only [show ¬ e = T.1 by omega, if_false] at g1 g2
          rw [cif_pos z] at g1 g2
          refine ih (e + 1) (d + 1) _ (by omega) (by omega) (by omega) (t2.to (Fm.F Fm.rf rfl) (sI_s _ _ _ _)) (Fm.F hx3 rfl) (fun p ep => g1 p (by rw [ep]; rfl)) (fun l el => ?_)
          obtain ⟨L, eL, hL⟩ := g2 ((w, f) :: l) (by rw [el]; rfl)
          exact ⟨L, eL, by rw [hL]; simp only [List.length_cons]; omega⟩
        · rw [w_X9_run_22]
          have t3 : TpM (sI S2 0 23 (nI e)) T e := t2.to (Fm.F Fm.rf rfl) (sI_s _ _ _ _)
          have hx4 : Fm scCm scCe S0 (sI S2 0 23 (nI e)) := Fm.F hx3 rfl
          generalize sI S2 0 23 (nI e) = S3 at *
          refine br_t rfl (pk_le T.1 e (fun y => ?_) (fun y => ?_) (hx := t3.1) (hy := t3.2.2))
          · simp only [show e = T.1 by omega, if_true] at g2
            obtain ⟨L, eL, hL⟩ := g2 _ rfl
            simp only [List.length_cons, List.length_nil] at hL
            refine nm_e ⟨16, ?_⟩
            rw [show nI (d + 1) = nI L.length by rw [hL]]
            have hx5 : Fm scRm scRe2 S (sI S3 0 23 0) := Fm.F (hx0.tr (up hx4)) (by simp [scRe2])
            refine second L eL 14 0 0 L 16 F _ eL (by omega) (by omega) (Nat.zero_le _) ok ?_ (t3.to (j := 0) (Fm.F Fm.rf rfl) (sI_s _ _ _ _)) ?_ ?_ hx5 rfl
            · exact m0.cp (by rw [sI_n _ _ _ _ _ (by decide), hx4.2 0 (by decide)]) (by funext u; rw [sI_x _ _ _ _ _ _ (by decide), hx4.1 1 (by decide) (by decide)]) (by funext u; rw [sI_x _ _ _ _ _ _ (by decide), hx4.1 2 (by decide) (by decide)]) (by funext u; rw [sI_x _ _ _ _ _ _ (by decide), hx4.1 3 (by decide) (by decide)])
            · exact c0.cp (fun j j1 j2 => by funext u; rw [sI_x _ _ _ _ _ _ (by omega), hx4.1 j (by omega) (by unfold scCm; omega)])
            · rw [sI_n _ _ _ _ _ (by decide), hx4.2 21 (by decide)]; exact f0
          · simp only [show ¬ e = T.1 by omega, if_false] at g1
            rw [cif_neg z] at g1
            exact bad e S3 (g1 e rfl) t3.2.2 hx4
  exact ⟨16, first 14 0 0 S0 rfl (by omega) (Nat.zero_le _) t0 Fm.rf (fun p e => e) (fun l e => ⟨l, e, by simp⟩)⟩
