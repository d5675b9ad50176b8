abbrev scWm (j : Nat) : Prop := j = 4 ∨ j = 5 ∨ j = 6 ∨ j = 7 ∨ j = 9
abbrev scWe (i : Nat) : Prop := i = 4 ∨ i = 5 ∨ i = 6 ∨ i = 11 ∨ i = 14
theorem m_keepOnly {S : St} {L : TL} {k : Nat} {fl nf : Int32} {post : Int32 → St → Prop} (hM : ML S L) (ok : okTL L) (hk : k < 8) (hfl : (fl = 1 ∧ nf = 0) ∨ (fl = 0 ∧ nf = 1)) (h : ∀ S' : St, ML S' ((thn (keP L.2.1 k fl) L.1 0 0 L.2.2).1, L.2.1, (thn (keP L.2.1 k fl) L.1 0 0 L.2.2).2) → Fm scWm scWe S S' → post (nI (thn (keP L.2.1 k fl) L.1 0 0 L.2.2).1) S') : ∃ j, w_X9_thin_95 post j nf (nI k) 0 0 S := by
  obtain ⟨k1, k2, k3, k4⟩ := ok
  have hB : ∀ j, scB j → scWm j := fun j e => by show _ ∨ _; unfold scB at e; omega
  have hE : ∀ j, scE j → scWe j := fun j e => by show _ ∨ _; unfold scE at e; omega
  have loop : ∀ n i o (l : Nat → Nat) r (T : St), i + n = L.1 → n < r → o ≤ i → (∀ j, j < L.1 → 2 ≤ l j ∧ l j ≤ 400) → T.1 0 14 = nI L.1 → T.1 0 15 = nI L.2.1 → (∀ j, j < L.1 → T.1 9 j = nI (l j)) → Fm scWm scWe S T → thn (keP L.2.1 k fl) n i o l = thn (keP L.2.1 k fl) L.1 0 0 L.2.2 → w_X9_thin_95 post r nf (nI k) (nI o) (nI i) T := by
    intro n
    induction n with
    | zero =>
      intro i o l r T h1 h2 h3 hl t1 t2 t3 hx he
      obtain ⟨r, rfl⟩ : ∃ j, r = j + 1 := ⟨r - 1, by omega⟩
      rw [thn] at he
      rw [← he] at h
      rw [w_X9_thin_95, t1]
      refine pk_le L.1 i (fun _ => nm_e (h _ ⟨sI_s _ _ _ _, ?_, fun j hj => ?_⟩ (Fm.F hx (by simp [scWe])))) (fun y => by omega)
      · rw [sI_n _ _ _ _ _ (by decide)]; exact t2
      · have hj : j < o := hj
        rw [sI_x _ _ _ _ _ _ (by decide)]; exact t3 j (by omega)
    | succ n ih =>
      intro i o l r T h1 h2 h3 hl t1 t2 t3 hx he
      obtain ⟨r, rfl⟩ : ∃ j, r = j + 1 := ⟨r - 1, by omega⟩
      rw [thn] at he
      rw [w_X9_thin_95, t1]
      refine pk_le L.1 i (fun y => by omega) (fun y => ⟨in_nI (by omega), ?_⟩)
      rw [nI_clamp (show i < 2 ^ 31 by omega), t3 i y]
      have hli := hl i y
      have skip : ¬ keP L.2.1 k fl (l i) → ∀ T2 : St, Fm scB scE T T2 → w_X9_thin_95 post r nf (nI k) (nI o) (nI (i + 1)) T2 := fun q T2 hx2 => by
        rw [cif_neg q] at he
        refine ih (i + 1) o l r T2 (by omega) (by omega) (by omega) hl ?_ ?_ (fun j hj => ?_) (hx.tr (hx2.mo hB hE)) he
        · rw [hx2.2 14 (by simp [scE])]; exact t1
        · rw [hx2.2 15 (by simp [scE])]; exact t2
        · rw [hx2.1 9 (by decide) (by simp [scB])]; exact t3 j hj
      have keep : keP L.2.1 k fl (l i) → ∀ T2 : St, Fm scB scE T T2 → (vp_in (nI i) 400 ∧ (∀ x18 : Int32, x18 = (T2.1 9 i) → (vp_in (nI o) 400 ∧ (∀ S19 : St, S19 = sI T2 9 (Int32.toNatClampNeg (nI o)) x18 → (∀ x20 : Int32, x20 = nI o + 1 → (∀ x21 : Int32, x21 = nI i + 1 → (w_X9_thin_95 post r nf (nI k) x20 x21 S19))))))) := fun q T2 hx2 => by
        rw [cif_pos q] at he
        have e9 : ∀ j, T2.1 9 j = T.1 9 j := fun j => by rw [hx2.1 9 (by decide) (by simp [scB])]
        refine ⟨in_nI (by omega), nm_r (e' := nI (l i)) (by rw [e9, t3 i y]) ⟨in_nI (by omega), ?_⟩⟩
        rw [nI_clamp (show o < 2 ^ 31 by omega)]
        refine nm_e (nm_r (e' := nI (o + 1)) (nI_1 o) (nm_r (e' := nI (i + 1)) (nI_1 i) (ih (i + 1) (o + 1) _ r _ (by omega) (by omega) (by omega) (fun j hj => ?_) ?_ ?_ (fun j hj => ?_) (Fm.A (hx.tr (hx2.mo hB hE)) (by simp [scWm]) (by decide)) he)))
        · by_cases z : j = o
          · subst z; rw [up_s]; exact hli
          · rw [show va_up l o (l i) j = l j by simp [va_up, z]]; exact hl j hj
        · rw [sI_x _ _ _ _ _ _ (by decide), hx2.2 14 (by simp [scE])]; exact t1
        · rw [sI_x _ _ _ _ _ _ (by decide), hx2.2 15 (by simp [scE])]; exact t2
        · by_cases z : j = o
          · subst z; rw [sI_s, up_s]
          · rw [sI_n _ _ _ _ _ z, e9, t3 j hj]; simp [va_up, z]
      refine nm_e (m_isSo t2 k2 k3 hk hli.1 hli.2 (fun q T2 hx2 => ?_) (fun q T2 hx2 => ?_))
      · rcases hfl with ⟨rfl, rfl⟩ | ⟨rfl, rfl⟩
        · exact br_f (by decide) (keep (by unfold keP; rw [if_pos rfl]; exact q) T2 hx2)
        · exact br_t rfl (nm_r (e' := nI (i + 1)) (nI_1 i) (skip (by unfold keP; rw [if_neg (by decide)]; exact fun z => z q) T2 hx2))
      · rcases hfl with ⟨rfl, rfl⟩ | ⟨rfl, rfl⟩
        · exact br_t rfl (nm_r (e' := nI (i + 1)) (nI_1 i) (skip (by unfold keP; rw [if_pos rfl]; exact q) T2 hx2))
        · exact br_f (by decide) (keep (by unfold keP; rw [if_neg (by decide)]; exact q) T2 hx2)
  exact ⟨L.1 + 1, loop L.1 0 0 L.2.2 _ S (by omega) (by omega) (by omega) k4 hM.1 hM.2.1 hM.2.2 Fm.rf rfl⟩
