/-! words on the tape: X -/
def brs (T : TT) (i j k : Nat) : Prop := j = i + sLen.getD k 0 ∧ ∀ t, t < sLen.getD k 0 → byA T (i + t) = sChr k t
theorem x_bears {S : St} {T : TT} {i j k : Nat} {post : Int32 → St → Prop} (hT : XT S T) (ok : okTT T) (hk : k < 14) (hij : i ≤ j) (hj : j < 2 ^ 20) (f : brs T i j k → post 1 S) (n : ¬ brs T i j k → post 0 S) : w_X7_bears (nI i) (nI j) k post S := by
  have hl := sc_small k hk
  unfold w_X7_bears
  rw [pk_sub hij]
  refine pk_eq (j - i) (sLen.getD k 0) (fun q => ⟨sLen.getD k 0 + 1, ?_⟩) (fun q => n (fun z => q (by have := z.1; omega)))
  have loop : ∀ m t, t + m = sLen.getD k 0 → (∀ u, u < t → byA T (i + u) = sChr k u) → w_X7_bears_15 post (m + 1) (nI i) k (nI t) S := by
    intro m
    induction m with
    | zero =>
      intro t h1 h2
      rw [w_X7_bears_15]
      exact pk_le (sLen.getD k 0) t (fun _ => f ⟨by omega, fun u hu => h2 u (by omega)⟩) (fun y => by omega)
    | succ m ih =>
      intro t h1 h2
      rw [w_X7_bears_15]
      refine pk_le (sLen.getD k 0) t (fun y => by omega) (fun y => nm_r (nI_add i t) (x_byteAt hT ok (by omega) ⟨in_nI (by omega), ?_⟩))
      rw [nI_clamp (show t < 2 ^ 31 by omega)]
      refine ⟨fun z => nm_r (e' := nI (t + 1)) (nI_1 t) (ih (t + 1) (by omega) (fun u hu => ?_)), fun z => n (fun w => z (w.2 t (by omega)))⟩
      rcases Nat.lt_or_ge u t with x | x
      · exact h2 u x
      · have : u = t := by omega
        subst this; exact z
  exact loop (sLen.getD k 0) 0 (by omega) (fun u hu => by omega)
theorem x_wordText {S : St} {k : Nat} {post : Nat → St → Prop} (hk : k < 8) (h : post (k + 1) S) : w_X0_wordText (nI k) post S := by
  unfold w_X0_wordText
  refine pk_eq k 0 (fun q => by subst q; exact h) (fun q => ?_)
  refine pk_eq k 1 (fun q => by subst q; exact h) (fun q => ?_)
  refine pk_eq k 2 (fun q => by subst q; exact h) (fun q => ?_)
  refine pk_eq k 3 (fun q => by subst q; exact h) (fun q => ?_)
  refine pk_eq k 4 (fun q => by subst q; exact h) (fun q => ?_)
  refine pk_eq k 5 (fun q => by subst q; exact h) (fun q => ?_)
  refine pk_eq k 6 (fun q => by subst q; exact h) (fun q => ?_)
  have : k = 7 := by omega
  subst this
  exact h
/-- the first word of those from a on, of n, that stands between i and j: its number, or -1 -/
noncomputable def wrd (T : TT) (i j a : Nat) : Nat → Nat → Int32
  | 0, _ => -1
  | n + 1, k => cif (brs T i j (a + k)) (nI k) (wrd T i j a n (k + 1))
theorem x_wordOn {S : St} {T : TT} {i : Nat} {post : Int32 → St → Prop} (hT : XT S T) (ok : okTT T) (hi : i ≤ T.1) (h : post (wrd T i T.1 1 8 0) S) : w_X0_wordOn (nI i) post S := by
  have h8 := ok.1
  unfold w_X0_wordOn
  have loop : ∀ n k, k + n = 8 → wrd T i T.1 1 n k = wrd T i T.1 1 8 0 → w_X0_wordOn_2 post (n + 1) (nI i) (nI k) S := by
    intro n
    induction n with
    | zero =>
      intro k h1 he
      rw [wrd] at he
      rw [w_X0_wordOn_2]
      exact pk_le 8 k (fun _ => by rw [he]; exact h) (fun y => by omega)
    | succ n ih =>
      intro k h1 he
      rw [wrd] at he
      rw [w_X0_wordOn_2]
      refine pk_le 8 k (fun y => by omega) (fun y => x_wordText y (nm_r hT.1 (x_bears hT ok (by omega) hi (by omega) (fun z => br_f (by decide) ?_) (fun z => br_t rfl ?_))))
      · rw [show k + 1 = 1 + k by omega] at z
        rw [cif_pos z] at he
        rw [he]; exact h
      · rw [show k + 1 = 1 + k by omega] at z
        rw [cif_neg z] at he
        exact nm_r (e' := nI (k + 1)) (nI_1 k) (ih (k + 1) (by omega) he)
  exact ⟨9, loop 8 0 rfl rfl⟩
