/-! words on the tape: X -/
def brs (T : TT) (i j k : Nat) : Prop := j = i + sLen.getD k 0 ∧ ∀ t, t < sLen.getD k 0 → byA T (i + t) = sChr k t
theorem x_bears {S : St} {T : TT} {i j k : Nat} {post : Int32 → St → Prop} (hT : XT S T) (ok : okTT T) (hk : k < 14) (hij : i ≤ j) (hj : j < 2 ^ 20) (f : brs T i j k → post 1 S) (n : ¬ brs T i j k → post 0 S) : w_X7_bears (nI i) (nI j) k post S := by
  have hl := sc_small k hk
  unfold w_X7_bears
  rw [pk_sub hij]
  refine pk_eq (j - i) (sLen.getD k 0) (fun q => ⟨sLen.getD k 0 + 1, ?_⟩) (fun q => n (fun z => q (by have := z.1; omega)))
  have loop : ∀ m t, t + m = sLen.getD k 0 → (∀ u, u < t → byA T (i + u) = sChr k u) → w_X7_bears_15 post (m + 1) (nI i) k (nI t) S := by
    intro m
    induction m with
    | zero =>
      intro t h1 h2
      rw [w_X7_bears_15]
      exact pk_le (sLen.getD k 0) t (fun _ => f ⟨by omega, fun u hu => h2 u (by omega)⟩) (fun y => by omega)
    | succ m ih =>
      intro t h1 h2
      rw [w_X7_bears_15]
      refine pk_le (sLen.getD k 0) t (fun y => by omega) (fun y => nm_r (nI_add i t) (x_byteAt hT ok (by omega) ⟨in_nI (by omega), ?_⟩))
      rw [nI_clamp (show t < 2 ^ 31 by omega)]
      refine ⟨fun z => nm_r (e' := nI (t + 1)) (nI_1 t) (ih (t + 1) (by omega) (fun u hu => ?_)), fun z => n (fun w => z (w.2 t (by omega)))⟩
      rcases Nat.lt_or_ge u t with x | x
      · exact h2 u x
      · have : u = t := by omega
        subst this; exact z
  exact loop (sLen.getD k 0) 0 (by omega) (fun u hu => by omega)
theorem x_wordText {S : St} {k : Nat} {post : Nat → St → Prop} (hk : k < 8) (h : post (k + 1) S) : w_X0_wordText (nI k) post S := by
  unfold w_X0_wordText
  refine pk_eq k 0 (fun q => by subst q; exact h) (fun q => ?_)
  refine pk_eq k 1 (fun q => by subst q; exact h) (fun q => ?_)
  refine pk_eq k 2 (fun q => by subst q; exact h) (fun q => ?_)
  refine pk_eq k 3 (fun q => by subst q; exact h) (fun q => ?_)
  refine pk_eq k 4 (fun q => by subst q; exact h) (fun q => ?_)
  refine pk_eq k 5 (fun q => by subst q; exact h) (fun q => ?_)
  refine pk_eq k 6 (fun q => by subst q; exact h) (fun q => ?_)
  have : k = 7 := by omega
  subst this
  exact h
/-- the first word of those from a on, of n, that stands between i and j: its number, or -1 -/
noncomputable def wrd (T : TT) (i j a : Nat) : Nat → Nat → Int32
  | 0, _ => -1
  | n + 1, k => cif (brs T i j (a + k)) (nI k) (wrd T i j a n (k + 1))
theorem x_wordOn {S : St} {T : TT} {i : Nat} {post : Int32 → St → Prop} (hT : XT S T) (ok : okTT T) (hi : i ≤ T.1) (h : post (wrd T i T.1 1 8 0) S) : w_X0_wordOn (nI i) post S := by
  have h8 := ok.1
  unfold w_X0_wordOn
  have loop : ∀ n k, k + n = 8 → wrd T i T.1 1 n k = wrd T i T.1 1 8 0 → w_X0_wordOn_2 post (n + 1) (nI i) (nI k) S := by
    intro n
    induction n with
    | zero =>
      intro k h1 he
      rw [wrd] at he
      rw [w_X0_wordOn_2]
      exact pk_le 8 k (fun _ => by rw [he]; exact h) (fun y => by omega)
    | succ n ih =>
      intro k h1 he
      rw [wrd] at he
      rw [w_X0_wordOn_2]
      refine pk_le 8 k (fun y => by omega) (fun y => x_wordText y (nm_r hT.1 (x_bears hT ok (by omega) hi (by omega) (fun z => br_f (by decide) ?_) (fun z => br_t rfl ?_))))
      · rw [show k + 1 = 1 + k by omega] at z
        rw [cif_pos z] at he
        rw [he]; exact h
      · rw [show k + 1 = 1 + k by omega] at z
        rw [cif_neg z] at he
        exact nm_r (e' := nI (k + 1)) (nI_1 k) (ih (k + 1) (by omega) he)
  exact ⟨9, loop 8 0 rfl rfl⟩
/-! thin, X -/
noncomputable def q_thin (L : TL) (T : TT) : Int32 × TL × TT := cif (brs T 0 4 0) (cif (wrd T 4 T.1 1 8 0 = -1) (-1, L, (0, T.2)) (nI (thn (keP L.2.1 (cl (wrd T 4 T.1 1 8 0)) 0) L.1 0 0 L.2.2).1, ((thn (keP L.2.1 (cl (wrd T 4 T.1 1 8 0)) 0) L.1 0 0 L.2.2).1, L.2.1, (thn (keP L.2.1 (cl (wrd T 4 T.1 1 8 0)) 0) L.1 0 0 L.2.2).2), (0, T.2))) (cif (wrd T 0 T.1 1 8 0 = -1) (-1, L, (0, T.2)) (nI (thn (keP L.2.1 (cl (wrd T 0 T.1 1 8 0)) 1) L.1 0 0 L.2.2).1, ((thn (keP L.2.1 (cl (wrd T 0 T.1 1 8 0)) 1) L.1 0 0 L.2.2).1, L.2.1, (thn (keP L.2.1 (cl (wrd T 0 T.1 1 8 0)) 1) L.1 0 0 L.2.2).2), (0, T.2)))
theorem wrd_is (T : TT) (i j a : Nat) : ∀ n k, wrd T i j a n k = -1 ∨ ∃ m, k ≤ m ∧ m < k + n ∧ wrd T i j a n k = nI m := by
  intro n
  induction n with
  | zero => intro k; exact Or.inl rfl
  | succ n ih =>
    intro k
    rw [wrd]
    by_cases q : brs T i j (a + k)
    · rw [cif_pos q]; exact Or.inr ⟨k, by omega, by omega, rfl⟩
    · rw [cif_neg q]
      rcases ih (k + 1) with z | ⟨m, m1, m2, m3⟩
      · exact Or.inl z
      · exact Or.inr ⟨m, by omega, by omega, m3⟩
abbrev scX (j : Nat) : Prop := j = 21 ∨ j = 22 ∨ j = 23 ∨ j = 27 ∨ j = 28
theorem x_thin {S : St} {L : TL} {T : TT} {post : Int32 → St → Prop} (hX : XL S 21 L) (okl : okTL L) (hT : XT S T) (okt : okTT T) (h : ∀ S' : St, XL S' 21 (q_thin L T).2.1 → XT S' (q_thin L T).2.2 → Fx scX S S' → post (q_thin L T).1 S') : w_X8_thin post S := by
  have h8 := okt.1
  unfold w_X8_thin
  have step : ∀ i (v fl : Int32), i ≤ T.1 → ((v = 0 ∧ fl = 1) ∨ (v ≠ 0 ∧ fl = 0)) → (∀ S' : St, XL S' 21 (cif (wrd T i T.1 1 8 0 = -1) (-1, L, (0, T.2)) (nI (thn (keP L.2.1 (cl (wrd T i T.1 1 8 0)) fl) L.1 0 0 L.2.2).1, ((thn (keP L.2.1 (cl (wrd T i T.1 1 8 0)) fl) L.1 0 0 L.2.2).1, L.2.1, (thn (keP L.2.1 (cl (wrd T i T.1 1 8 0)) fl) L.1 0 0 L.2.2).2), ((0, T.2) : TT)) : Int32 × TL × TT).2.1 → XT S' (0, T.2) → Fx scX S S' → post (cif (wrd T i T.1 1 8 0 = -1) (-1, L, (0, T.2)) (nI (thn (keP L.2.1 (cl (wrd T i T.1 1 8 0)) fl) L.1 0 0 L.2.2).1, ((thn (keP L.2.1 (cl (wrd T i T.1 1 8 0)) fl) L.1 0 0 L.2.2).1, L.2.1, (thn (keP L.2.1 (cl (wrd T i T.1 1 8 0)) fl) L.1 0 0 L.2.2).2), ((0, T.2) : TT)) : Int32 × TL × TT).1 S') → w_X8_thin_25 post v (nI i) S := by
    intro i v fl hi hv hh
    unfold w_X8_thin_25
    refine x_wordOn hT okt hi (x_clear (T := T) (fun S1 hT1 hx1 => ?_))
    have hX1 : XL S1 21 L := hX.cp (hx1 21 (by decide)).1 (hx1 22 (by decide)).1
    have hxa : Fx scX S S1 := hx1.mo (fun j e => by show _ ∨ _; unfold scT at e; omega)
    refine ⟨fun q => ?_, fun q => ?_⟩
    · rw [cif_pos q] at hh
      exact hh S1 hX1 hT1 hxa
    · rw [cif_neg q] at hh
      rcases wrd_is T i T.1 1 8 0 with z | ⟨m, m1, m2, m3⟩
      · exact absurd z q
      rw [m3, cl_nI (by omega)] at hh
      rw [m3]
      have fin : ∀ S2 : St, XL S2 21 ((thn (keP L.2.1 m fl) L.1 0 0 L.2.2).1, L.2.1, (thn (keP L.2.1 m fl) L.1 0 0 L.2.2).2) → Fx scW S1 S2 → post (S2.1 21 1) S2 := fun S2 hL2 hx2 => by
        rw [hL2.1]
        refine hh S2 hL2 (hT1.cp ?_ ?_) (hxa.tr (hx2.mo (fun j e => by show _ ∨ _; unfold scW at e; omega)))
        · rw [(hx2 27 (by decide)).1]
        · rw [(hx2 28 (by decide)).1]
      rcases hv with ⟨rfl, rfl⟩ | ⟨hv, rfl⟩
      · exact br_t rfl (x_keepOnly hX1 okl (by omega) (Or.inl rfl) fin)
      · exact br_f hv (x_keepOnly hX1 okl (by omega) (Or.inr rfl) fin)
  unfold q_thin at h
  refine x_bears (i := 0) (j := 4) hT okt (by omega) (by omega) (by omega) (fun q => br_f (by decide) ?_) (fun q => br_t rfl ?_)
  · rw [cif_pos q] at h
    have h3 : 4 ≤ T.1 := by
      have := q.2 3 (by decide)
      unfold byA at this
      by_cases z : 0 + 3 < T.1
      · omega
      · rw [if_neg z] at this; exact absurd this (by decide)
    refine step 4 1 0 h3 (Or.inr ⟨by decide, rfl⟩) (fun S' a1 a2 a3 => h S' a1 ?_ a3)
    by_cases z : wrd T 4 T.1 1 8 0 = -1
    · rw [cif_pos z]; exact a2
    · rw [cif_neg z]; exact a2
  · rw [cif_neg q] at h
    refine step 0 0 1 (by omega) (Or.inl ⟨rfl, rfl⟩) (fun S' a1 a2 a3 => h S' a1 ?_ a3)
    by_cases z : wrd T 0 T.1 1 8 0 = -1
    · rw [cif_pos z]; exact a2
    · rw [cif_neg z]; exact a2
theorem ok_thin {L : TL} (ok : okTL L) {T : TT} (okt : okTT T) : okTL (q_thin L T).2.1 ∧ okTT (q_thin L T).2.2 := by
  have e0 : okTT (0, T.2) := ⟨by show 0 ≤ 80; omega, fun i hi => absurd hi (Nat.not_lt_zero i)⟩
  have e1 : ∀ P : Nat → Prop, okTL ((thn P L.1 0 0 L.2.2).1, L.2.1, (thn P L.1 0 0 L.2.2).2) := fun P => by
    obtain ⟨h1, h2, h3, h4⟩ := ok
    obtain ⟨g1, g2⟩ := thn_ok P L.1 L.1 0 0 L.2.2 (by omega) (by omega) h4
    exact ⟨by show (thn P L.1 0 0 L.2.2).1 ≤ 399; omega, h2, h3, fun i hi => g2 i (by have hi : i < (thn P L.1 0 0 L.2.2).1 := hi; omega)⟩
  unfold q_thin
  by_cases q : brs T 0 4 0
  · rw [cif_pos q]
    by_cases z : wrd T 4 T.1 1 8 0 = -1
    · rw [cif_pos z]; exact ⟨ok, e0⟩
    · rw [cif_neg z]; exact ⟨e1 _, e0⟩
  · rw [cif_neg q]
    by_cases z : wrd T 0 T.1 1 8 0 = -1
    · rw [cif_pos z]; exact ⟨ok, e0⟩
    · rw [cif_neg z]; exact ⟨e1 _, e0⟩
