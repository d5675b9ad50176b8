/-! scripts: what is read -/
def isL (T : TT) (i : Nat) : Prop := i < T.1 ∧ 97 ≤ T.2 i ∧ T.2 i ≤ 122
noncomputable def lte (T : TT) : Nat → Nat → Nat
  | 0, i => i
  | n + 1, i => cif (isL T i) (lte T n (i + 1)) i
theorem lte_in (T : TT) : ∀ n i, i + n = T.1 → i ≤ lte T n i ∧ lte T n i ≤ T.1 := by
  intro n
  induction n with
  | zero => intro i h; rw [lte]; omega
  | succ n ih =>
    intro i h
    rw [lte]
    by_cases q : isL T i
    · rw [cif_pos q]; have := ih (i + 1) (by omega); omega
    · rw [cif_neg q]; omega
def nOf (w : Nat) : Nat := if w = 0 then 3 else if w = 1 then 1 else if w = 4 then 1 else 2
theorem nOf_in (w : Nat) : 1 ≤ nOf w ∧ nOf w ≤ 3 := by
  unfold nOf
  by_cases a : w = 0
  · rw [if_pos a]; omega
  · rw [if_neg a]
    by_cases b : w = 1
    · rw [if_pos b]; omega
    · rw [if_neg b]
      by_cases c : w = 4
      · rw [if_pos c]; omega
      · rw [if_neg c]; omega
noncomputable def pn (T : TT) : Nat → Nat → Nat → (Nat → Nat) → Nat ⊕ (Nat × (Nat → Nat))
  | 0, _, i, w => .inr (i, w)
  | n + 1, k, i, w => cif (isC T i 32) (if (tkd T 10 4 (i + 1) 0 0).1 = 0 then .inl (i + 1) else pn T n (k + 1) (i + 1 + (tkd T 10 4 (i + 1) 0 0).1) (va_up w k (tkd T 10 4 (i + 1) 0 0).2)) (.inl i)
theorem pn_in (T : TT) : ∀ n k i w, i ≤ T.1 → (∀ p, pn T n k i w = .inl p → p ≤ T.1) ∧ ∀ e f, pn T n k i w = .inr (e, f) → i + 2 * n ≤ e ∧ e ≤ T.1 := by
  intro n
  induction n with
  | zero =>
    intro k i w h
    rw [pn]
    refine ⟨fun p e => by simp at e, fun e f h2 => ?_⟩
    simp only [Sum.inr.injEq, Prod.mk.injEq] at h2
    omega
  | succ n ih =>
    intro k i w h
    rw [pn]
    by_cases q : isC T i 32
    · rw [cif_pos q]
      have q1 := q.1
      by_cases z : (tkd T 10 4 (i + 1) 0 0).1 = 0
      · rw [if_pos z]
        refine ⟨fun p e => ?_, fun e f h2 => by simp at h2⟩
        simp only [Sum.inl.injEq] at e
        omega
      · rw [if_neg z]
        have hin := tkd_in T 10 (by omega) 4 (i + 1) 0 0 (by omega)
        obtain ⟨a, b⟩ := ih (k + 1) (i + 1 + (tkd T 10 4 (i + 1) 0 0).1) (va_up w k (tkd T 10 4 (i + 1) 0 0).2) (by omega)
        exact ⟨a, fun e f h2 => by have := b e f h2; omega⟩
    · rw [cif_neg q]
      refine ⟨fun p e => ?_, fun e f h2 => by simp at h2⟩
      simp only [Sum.inl.injEq] at e
      omega
def pcE (w : Nat) : Nat ⊕ (Nat × (Nat → Nat)) → Nat ⊕ (Nat × Nat × (Nat → Nat))
  | .inl p => .inl p
  | .inr q => .inr (w, q.1, q.2)
noncomputable abbrev wrC (T : TT) (i : Nat) : Int32 := wrd T i (lte T (T.1 - i) i) 9 5 0
noncomputable def pcm (T : TT) (i : Nat) : Nat ⊕ (Nat × Nat × (Nat → Nat)) := cif (wrC T i = -1) (.inl i) (pcE (cl (wrC T i)) (pn T (nOf (cl (wrC T i))) 0 (lte T (T.1 - i) i) (fun _ => 0)))
theorem wrd_brs (T : TT) (i j a : Nat) : ∀ n k m, wrd T i j a n k = nI m → m < 100 → k + n < 100 → brs T i j (a + m) ∧ k ≤ m ∧ m < k + n := by
  intro n
  induction n with
  | zero => intro k m h hm _; exact absurd h.symm (nI_ne_m1 (by omega))
  | succ n ih =>
    intro k m h hm hk
    rw [wrd] at h
    by_cases q : brs T i j (a + k)
    · rw [cif_pos q] at h
      have e : k = m := nI_inj h
      subst e
      exact ⟨q, by omega, by omega⟩
    · rw [cif_neg q] at h
      have := ih (k + 1) m h hm (by omega)
      exact ⟨this.1, by omega, by omega⟩
theorem pcm_in (T : TT) (i : Nat) (hi : i ≤ T.1) : (∀ p, pcm T i = .inl p → p ≤ T.1) ∧ ∀ w e f, pcm T i = .inr (w, e, f) → w < 5 ∧ i + 5 ≤ e ∧ e ≤ T.1 := by
  have hl := lte_in T (T.1 - i) i (by omega)
  unfold pcm
  by_cases q : wrC T i = -1
  · rw [cif_pos q]
    refine ⟨fun p e => ?_, fun w e f h2 => by simp at h2⟩
    simp only [Sum.inl.injEq] at e
    omega
  · rw [cif_neg q]
    rcases wrd_is T i (lte T (T.1 - i) i) 9 5 0 with z | ⟨m, m1, m2, m3⟩
    · exact absurd z q
    have m3 : wrC T i = nI m := m3
    have hb := (wrd_brs T i (lte T (T.1 - i) i) 9 5 0 m m3 (by omega) (by omega)).1
    have h3 : 3 ≤ sLen.getD (9 + m) 0 := by
      have := List.all_eq_true.mp (show (List.range 5).all (fun m => decide (3 ≤ sLen.getD (9 + m) 0)) = true by decide +kernel) m (List.mem_range.mpr (by omega))
      simpa using this
    have hb1 := hb.1
    rw [m3, cl_nI (by omega)]
    obtain ⟨a, b⟩ := pn_in T (nOf m) 0 (lte T (T.1 - i) i) (fun _ => 0) (by omega)
    have hn := nOf_in m
    generalize pn T (nOf m) 0 (lte T (T.1 - i) i) (fun _ => 0) = r at *
    cases r with
    | inl p => exact ⟨fun p2 e => by simp only [pcE, Sum.inl.injEq] at e; have := a p rfl; omega, fun w e f h2 => by simp [pcE] at h2⟩
    | inr t =>
      refine ⟨fun p2 e => by simp [pcE] at e, fun w e f h2 => ?_⟩
      simp only [pcE, Sum.inr.injEq, Prod.mk.injEq] at h2
      have := b t.1 t.2 rfl
      omega
def psL (c : Nat × (Nat → Nat)) : Nat ⊕ List (Nat × (Nat → Nat)) → Nat ⊕ List (Nat × (Nat → Nat))
  | .inl p => .inl p
  | .inr l => .inr (c :: l)
noncomputable def psE (T : TT) (r : Nat → Nat ⊕ List (Nat × (Nat → Nat))) : Nat ⊕ (Nat × Nat × (Nat → Nat)) → Nat ⊕ List (Nat × (Nat → Nat))
  | .inl p => .inl p
  | .inr q => if q.2.1 = T.1 then .inr [(q.1, q.2.2)] else cif (isC T q.2.1 59) (psL (q.1, q.2.2) (r (q.2.1 + 1))) (.inl q.2.1)
noncomputable def psc (T : TT) : Nat → Nat → Nat ⊕ List (Nat × (Nat → Nat))
  | 0, i => .inl i
  | n + 1, i => psE T (fun j => psc T n j) (pcm T i)
theorem psc_in (T : TT) : ∀ n i, i ≤ T.1 → (∀ p, psc T n i = .inl p → p ≤ T.1) ∧ ∀ l, psc T n i = .inr l → l.length ≤ n ∧ ∀ c ∈ l, c.1 < 5 := by
  intro n
  induction n with
  | zero =>
    intro i h
    rw [psc]
    refine ⟨fun p e => ?_, fun l e => by simp at e⟩
    simp only [Sum.inl.injEq] at e
    omega
  | succ n ih =>
    intro i h
    rw [psc]
    obtain ⟨a, b⟩ := pcm_in T i h
    generalize pcm T i = r at *
    cases r with
    | inl p =>
      rw [psE]
      refine ⟨fun p2 e => ?_, fun l e => by simp at e⟩
      simp only [Sum.inl.injEq] at e
      have := a p rfl
      omega
    | inr q =>
      obtain ⟨b1, b2, b3⟩ := b q.1 q.2.1 q.2.2 rfl
      rw [psE]
      by_cases z : q.2.1 = T.1
      · rw [if_pos z]
        refine ⟨fun p e => by simp at e, fun l e => ?_⟩
        simp only [Sum.inr.injEq] at e
        subst e
        refine ⟨by simp, fun c hc => ?_⟩
        simp only [List.mem_singleton] at hc
        subst hc
        exact b1
      · rw [if_neg z]
        by_cases y : isC T q.2.1 59
        · rw [cif_pos y]
          obtain ⟨c, d⟩ := ih (q.2.1 + 1) (by have := y.1; omega)
          generalize psc T n (q.2.1 + 1) = t at *
          cases t with
          | inl p =>
            rw [psL]
            exact ⟨fun p2 e => c p2 e, fun l e => by simp at e⟩
          | inr l2 =>
            rw [psL]
            refine ⟨fun p2 e => by simp at e, fun l e => ?_⟩
            simp only [Sum.inr.injEq] at e
            subst e
            obtain ⟨d1, d2⟩ := d l2 rfl
            refine ⟨by simp only [List.length_cons]; omega, fun c hc => ?_⟩
            rcases List.mem_cons.mp hc with x | x
            · subst x; exact b1
            · exact d2 c x
        · rw [cif_neg y]
          refine ⟨fun p e => ?_, fun l e => by simp at e⟩
          simp only [Sum.inl.injEq] at e
          omega
/-! what is done -/
noncomputable def q_cmd (F : TF) (w : Nat) (f : Nat → Nat) : Int32 × TF := if w = 0 then q_fraction F (nI (f 0)) (nI (f 1)) (nI (f 2)) else if w = 1 then q_drop F (nI (f 0)) else if w = 2 then q_multiply F (nI (f 0)) (nI (f 1)) else if w = 3 then q_sum F (nI (f 0)) (nI (f 1)) else q_lowest F (nI (f 0))
theorem ok_cmd {F : TF} (ok : okTF F) (w : Nat) (f : Nat → Nat) : okTF (q_cmd F w f).2 := by
  unfold q_cmd
  by_cases a : w = 0
  · rw [if_pos a]; exact ok_fraction ok _ _ _
  rw [if_neg a]
  by_cases b : w = 1
  · rw [if_pos b]; exact ok_drop ok _
  rw [if_neg b]
  by_cases c : w = 2
  · rw [if_pos c]; exact ok_multiply ok _ _
  rw [if_neg c]
  by_cases d : w = 3
  · rw [if_pos d]; exact ok_sum ok _ _
  rw [if_neg d]; exact ok_lowest ok _
noncomputable def doL : List (Nat × (Nat → Nat)) → TF → Nat → Int32 × TF
  | [], F, d => (nI d, F)
  | c :: l, F, d => if 0 ≤ (q_cmd F c.1 c.2).1 then doL l (q_cmd F c.1 c.2).2 (d + 1) else (-2000 - nI d, (q_cmd F c.1 c.2).2)
theorem ok_doL : ∀ (l : List (Nat × (Nat → Nat))) (F : TF) (d : Nat), okTF F → okTF (doL l F d).2 := by
  intro l
  induction l with
  | nil => intro F d ok; exact ok
  | cons c l ih =>
    intro F d ok
    rw [doL]
    by_cases q : 0 ≤ (q_cmd F c.1 c.2).1
    · rw [if_pos q]; exact ih _ _ (ok_cmd ok _ _)
    · rw [if_neg q]; show okTF (q_cmd F c.1 c.2).2; exact ok_cmd ok _ _
noncomputable def rnR (F : TF) : Nat ⊕ List (Nat × (Nat → Nat)) → Int32 × TF
  | .inl p => (-1000 - nI p, F)
  | .inr l => doL l F 0
noncomputable def q_run (F : TF) (T : TT) : Int32 × TF × TT := ((rnR F (psc T 14 0)).1, (rnR F (psc T 14 0)).2, (0, T.2))
theorem ok_run {F : TF} (ok : okTF F) (T : TT) : okTF (q_run F T).2.1 ∧ okTT (q_run F T).2.2 := by
  refine ⟨?_, by show 0 ≤ 80; omega, fun i hi => absurd hi (Nat.not_lt_zero i)⟩
  show okTF (rnR F (psc T 14 0)).2
  cases psc T 14 0 with
  | inl p => exact ok
  | inr l => exact ok_doL l F 0 ok
