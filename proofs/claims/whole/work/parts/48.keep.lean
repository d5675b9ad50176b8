/-! those of the list that are kept -/
noncomputable def thn (P : Nat → Prop) : Nat → Nat → Nat → (Nat → Nat) → Nat × (Nat → Nat)
  | 0, _, o, l => (o, l)
  | n + 1, i, o, l => cif (P (l i)) (thn P n (i + 1) (o + 1) (va_up l o (l i))) (thn P n (i + 1) o l)
theorem thn_ok (P : Nat → Prop) (m : Nat) : ∀ n i o l, i + n = m → o ≤ i → (∀ j, j < m → 2 ≤ l j ∧ l j ≤ 400) → (thn P n i o l).1 ≤ m ∧ ∀ j, j < m → 2 ≤ (thn P n i o l).2 j ∧ (thn P n i o l).2 j ≤ 400 := by
  intro n
  induction n with
  | zero => intro i o l h1 h2 h3; rw [thn]; exact ⟨by show o ≤ m; omega, h3⟩
  | succ n ih =>
    intro i o l h1 h2 h3
    rw [thn]
    by_cases q : P (l i)
    · rw [cif_pos q]
      refine ih (i + 1) (o + 1) _ (by omega) (by omega) (fun j hj => ?_)
      by_cases z : j = o
      · subst z; rw [up_s]; exact h3 i (by omega)
      · rw [show va_up l o (l i) j = l j by simp [va_up, z]]; exact h3 j hj
    · rw [cif_neg q]
      exact ih (i + 1) o l (by omega) (by omega) h3
abbrev scW (j : Nat) : Prop := j = 21 ∨ j = 22 ∨ j = 23
def keP (g k : Nat) (fl : Int32) (x : Nat) : Prop := if fl = 1 then soP g k x else ¬ soP g k x
theorem x_keepOnly {S : St} {L : TL} {k : Nat} {fl : Int32} {post : St → Prop} (hX : XL S 21 L) (ok : okTL L) (hk : k < 8) (hfl : fl = 1 ∨ fl = 0) (h : ∀ S' : St, XL S' 21 ((thn (keP L.2.1 k fl) L.1 0 0 L.2.2).1, L.2.1, (thn (keP L.2.1 k fl) L.1 0 0 L.2.2).2) → Fx scW S S' → post S') : w_X0_keepOnly 21 (nI k) fl post S := by
  obtain ⟨k1, k2, k3, k4⟩ := ok
  unfold w_X0_keepOnly
  have loop : ∀ n i o (l : Nat → Nat) r (T : St), i + n = L.1 → n < r → o ≤ i → (∀ j, j < L.1 → 2 ≤ l j ∧ l j ≤ 400) → T.1 21 1 = nI L.1 → T.1 21 2 = nI L.2.1 → (∀ j, j < L.1 → T.1 22 j = nI (l j)) → Fx scW S T → thn (keP L.2.1 k fl) n i o l = thn (keP L.2.1 k fl) L.1 0 0 L.2.2 → w_X0_keepOnly_5 post r 21 (nI k) fl (nI o) (nI i) T := by
    intro n
    induction n with
    | zero =>
      intro i o l r T h1 h2 h3 hl t1 t2 t3 hx he
      obtain ⟨r, rfl⟩ : ∃ j, r = j + 1 := ⟨r - 1, by omega⟩
      rw [thn] at he
      rw [← he] at h
      rw [w_X0_keepOnly_5, t1]
      refine pk_le L.1 i (fun _ => nm_e (h _ ⟨sI_s _ _ _ _, ?_, fun j hj => ?_⟩ (Fx.I hx (Or.inl rfl)))) (fun y => by omega)
      · rw [sI_n _ _ _ _ _ (by decide)]; exact t2
      · have hj : j < o := hj
        rw [sI_x _ _ _ _ _ _ (by decide)]; exact t3 j (by omega)
    | succ n ih =>
      intro i o l r T h1 h2 h3 hl t1 t2 t3 hx he
      obtain ⟨r, rfl⟩ : ∃ j, r = j + 1 := ⟨r - 1, by omega⟩
      rw [thn] at he
      rw [w_X0_keepOnly_5, t1]
      refine pk_le L.1 i (fun y => by omega) (fun y => s_valueAt (by show i < 399; omega) (by decide) ?_)
      rw [t3 i y]
      have hli := hl i y
      have skip : ¬ keP L.2.1 k fl (l i) → ∀ T2 : St, Fx sc23 T T2 → w_X0_keepOnly_5 post r 21 (nI k) fl (nI o) (nI (i + 1)) T2 := fun q T2 hx2 => by
        rw [cif_neg q] at he
        refine ih (i + 1) o l r T2 (by omega) (by omega) (by omega) hl ?_ ?_ (fun j hj => ?_) (hx.tr (hx2.mo (fun j e => Or.inr (Or.inr e)))) he
        · rw [(hx2 21 (by decide)).1]; exact t1
        · rw [(hx2 21 (by decide)).1]; exact t2
        · rw [(hx2 22 (by decide)).1]; exact t3 j hj
      have keep : keP L.2.1 k fl (l i) → ∀ T2 : St, Fx sc23 T T2 → w_X8_setAt 22 (nI o) (nI (l i)) (fun S9 => (∀ x10 : Int32, x10 = nI o + 1 → (∀ x11 : Int32, x11 = nI i + 1 → (w_X0_keepOnly_5 post r 21 (nI k) fl x10 x11 S9)))) T2 := fun q T2 hx2 => by
        rw [cif_pos q] at he
        refine s_setAt (by show o < 399; omega) (by decide) (nm_r (e' := nI (o + 1)) (nI_1 o) (nm_r (e' := nI (i + 1)) (nI_1 i) (ih (i + 1) (o + 1) _ r _ (by omega) (by omega) (by omega) (fun j hj => ?_) ?_ ?_ (fun j hj => ?_) (Fx.I (hx.tr (hx2.mo (fun j e => Or.inr (Or.inr e)))) (Or.inr (Or.inl rfl))) he)))
        · by_cases z : j = o
          · subst z; rw [up_s]; exact hli
          · rw [show va_up l o (l i) j = l j by simp [va_up, z]]; exact hl j hj
        · rw [sI_x _ _ _ _ _ _ (by decide), (hx2 21 (by decide)).1]; exact t1
        · rw [sI_x _ _ _ _ _ _ (by decide), (hx2 21 (by decide)).1]; exact t2
        · by_cases z : j = o
          · subst z; rw [sI_s, up_s]
          · rw [sI_n _ _ _ _ _ z, (hx2 22 (by decide)).1, t3 j hj]; simp [va_up, z]
      refine x_isSo t2 k2 k3 hk hli.1 hli.2 (fun q T2 hx2 => ?_) (fun q T2 hx2 => ?_)
      · rcases hfl with rfl | rfl
        · exact br_t rfl (keep (by unfold keP; rw [if_pos rfl]; exact q) T2 hx2)
        · exact br_f (by decide) (nm_r (e' := nI (i + 1)) (nI_1 i) (skip (by unfold keP; rw [if_neg (by decide)]; exact fun z => z q) T2 hx2))
      · rcases hfl with rfl | rfl
        · exact br_f (by decide) (nm_r (e' := nI (i + 1)) (nI_1 i) (skip (by unfold keP; rw [if_pos rfl]; exact q) T2 hx2))
        · exact br_t rfl (keep (by unfold keP; rw [if_neg (by decide)]; exact q) T2 hx2)
  exact ⟨L.1 + 1, loop L.1 0 0 L.2.2 _ S (by omega) (by omega) (by omega) k4 hX.1 hX.2.1 hX.2.2 Fx.rf rfl⟩
