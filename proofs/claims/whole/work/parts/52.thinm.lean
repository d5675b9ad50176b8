/-! thin, the model -/
abbrev scXe (i : Nat) : Prop := i = 4 ∨ i = 5 ∨ i = 6 ∨ i = 11 ∨ i = 14 ∨ i = 21 ∨ i = 22
theorem m_thin {S : St} {L : TL} {T : TT} {post : Int32 → St → Prop} (hM : ML S L) (okl : okTL L) (hT : MT S T) (okt : okTT T) (hC : MC S) (h : ∀ S' : St, ML S' (q_thin L T).2.1 → MT S' (q_thin L T).2.2 → Fm scWm scXe S S' → post (q_thin L T).1 S') : w_X9_thin post S := by
  have h8 := okt.1
  unfold w_X9_thin
  refine nm_r hT.1 (nm_e (nm_e ?_))
  have hx0 : Fm scWm scXe S (sI (sI S 0 22 (nI T.1)) 0 21 0) := Fm.F (Fm.F Fm.rf (by simp [scXe])) (by simp [scXe])
  have t22 : (sI (sI S 0 22 (nI T.1)) 0 21 0).1 0 22 = nI T.1 := by simp [sI_1]
  have t21 : (sI (sI S 0 22 (nI T.1)) 0 21 0).1 0 21 = nI 0 := by simp [sI_1]; rfl
  have t13 : ∀ u, u < T.1 → (sI (sI S 0 22 (nI T.1)) 0 21 0).1 13 u = nI (T.2 u) := fun u hu => by simp [sI_1]; exact hT.2 u hu
  have m0 : ML (sI (sI S 0 22 (nI T.1)) 0 21 0) L := hM.cp (by simp [sI_1]) (by simp [sI_1]) (by funext i; simp [sI_1])
  have c0 : MC (sI (sI S 0 22 (nI T.1)) 0 21 0) := hC.cp (fun j j1 j2 => by funext i; repeat rw [sI_x _ _ _ _ _ _ (by omega)])
  generalize sI (sI S 0 22 (nI T.1)) 0 21 0 = S1 at *
  have mt0 : ∀ S2 : St, S2.1 0 21 = nI 0 → MT S2 (0, T.2) := fun S2 e => ⟨e, fun i hi => absurd hi (Nat.not_lt_zero i)⟩
  have step : ∀ i (nf fl : Int32), i ≤ T.1 → ((fl = 1 ∧ nf = 0) ∨ (fl = 0 ∧ nf = 1)) → (∀ S' : St, ML S' (cif (wrd T i T.1 1 8 0 = -1) (-1, L, (0, T.2)) (nI (thn (keP L.2.1 (cl (wrd T i T.1 1 8 0)) fl) L.1 0 0 L.2.2).1, ((thn (keP L.2.1 (cl (wrd T i T.1 1 8 0)) fl) L.1 0 0 L.2.2).1, L.2.1, (thn (keP L.2.1 (cl (wrd T i T.1 1 8 0)) fl) L.1 0 0 L.2.2).2), ((0, T.2) : TT)) : Int32 × TL × TT).2.1 → MT S' (0, T.2) → Fm scWm scXe S S' → post (cif (wrd T i T.1 1 8 0 = -1) (-1, L, (0, T.2)) (nI (thn (keP L.2.1 (cl (wrd T i T.1 1 8 0)) fl) L.1 0 0 L.2.2).1, ((thn (keP L.2.1 (cl (wrd T i T.1 1 8 0)) fl) L.1 0 0 L.2.2).1, L.2.1, (thn (keP L.2.1 (cl (wrd T i T.1 1 8 0)) fl) L.1 0 0 L.2.2).2), ((0, T.2) : TT)) : Int32 × TL × TT).1 S') → w_X9_thin_75 post nf (nI i) S1 := by
    intro i nf fl hi hv hh
    unfold w_X9_thin_75
    refine nm_r t22 (m_wordOf t13 okt c0 hi (Nat.le_refl _) ?_)
    refine ⟨fun q => ?_, fun q => ?_⟩
    · rw [cif_pos q] at hh
      exact hh S1 m0 (mt0 S1 t21) hx0
    · rw [cif_neg q] at hh
      rcases wrd_is T i T.1 1 8 0 with z | ⟨m, m1, m2, m3⟩
      · exact absurd z q
      rw [m3, cl_nI (by omega)] at hh
      rw [m3]
      refine m_keepOnly m0 okl (by omega) hv (fun S2 hL2 hx2 => hh S2 hL2 (mt0 S2 ?_) (hx0.tr (hx2.mo (fun _ e => e) (fun j e => by show _ ∨ _; unfold scWe at e; omega))))
      rw [hx2.2 21 (by unfold scWe; omega)]; exact t21
  have yes : brs T 0 4 0 → w_X9_thin_65 post 1 S1 := fun q => by
    unfold q_thin at h
    rw [cif_pos q] at h
    have h3 : 4 ≤ T.1 := by
      have := q.2 3 (by decide)
      unfold byA at this
      by_cases z : 0 + 3 < T.1
      · omega
      · rw [if_neg z] at this; exact absurd this (by decide)
    unfold w_X9_thin_65
    refine br_f (by decide) (step 4 1 0 h3 (Or.inr ⟨rfl, rfl⟩) (fun S' a1 a2 a3 => h S' a1 ?_ a3))
    by_cases z : wrd T 4 T.1 1 8 0 = -1
    · rw [cif_pos z]; exact a2
    · rw [cif_neg z]; exact a2
  have no : ¬ brs T 0 4 0 → w_X9_thin_65 post 0 S1 := fun q => by
    unfold q_thin at h
    rw [cif_neg q] at h
    unfold w_X9_thin_65
    refine br_t rfl (step 0 0 1 (by omega) (Or.inl ⟨rfl, rfl⟩) (fun S' a1 a2 a3 => h S' a1 ?_ a3))
    by_cases z : wrd T 0 T.1 1 8 0 = -1
    · rw [cif_pos z]; exact a2
    · rw [cif_neg z]; exact a2
  have cN_tab : ∀ t, t < 4 → nI (cN.getD t 0) = sChr 0 t := by decide
  have loop : ∀ m t (fl : Int32), t + m = 4 → 4 ≤ T.1 → ((fl = 1 ∧ ∀ u, u < t → byA T (0 + u) = sChr 0 u) ∨ (fl = 0 ∧ ¬ brs T 0 4 0)) → w_X9_thin_29 post (m + 1) fl (nI t) S1 := by
    intro m
    induction m with
    | zero =>
      intro t fl h1 h2 h3
      rw [w_X9_thin_29]
      refine pk_le 4 t (fun _ => ?_) (fun y => by omega)
      rcases h3 with ⟨rfl, h3⟩ | ⟨rfl, h3⟩
      · exact yes ⟨rfl, fun u hu => h3 u (by have : sLen.getD 0 0 = 4 := rfl; omega)⟩
      · exact no h3
    | succ m ih =>
      intro t fl h1 h2 h3
      rw [w_X9_thin_29]
      refine pk_le 4 t (fun y => by omega) (fun y => ?_)
      rcases h3 with ⟨rfl, h3⟩ | ⟨rfl, h3⟩
      · refine br_f (by decide) ⟨in_nI (by omega), in_nI (by omega), ?_⟩
        rw [nI_clamp (show t < 2 ^ 31 by omega), t13 _ (by omega), c0.2.2 t y, cN_tab t y]
        have eb : byA T (0 + t) = nI (T.2 t) := by unfold byA; rw [if_pos (by omega), Nat.zero_add]
        refine ⟨fun z => nm_r (e' := nI (t + 1)) (nI_1 t) (ih (t + 1) 1 (by omega) h2 (Or.inl ⟨rfl, fun u hu => ?_⟩)), fun z => nm_r (e' := nI (t + 1)) (nI_1 t) (ih (t + 1) 0 (by omega) h2 (Or.inr ⟨rfl, fun w => z ?_⟩))⟩
        · rcases Nat.lt_or_ge u t with x | x
          · exact h3 u x
          · have : u = t := by omega
            subst this
            rw [eb, z]
        · have := w.2 t (by have : sLen.getD 0 0 = 4 := rfl; omega)
          rw [eb] at this
          exact this
      · exact br_t rfl (no h3)
  rw [t22]
  refine pk_lt T.1 4 (fun q => ⟨1, ?_⟩) (fun q => ⟨5, loop 4 0 1 rfl q (Or.inl ⟨rfl, fun u hu => absurd hu (Nat.not_lt_zero u)⟩)⟩)
  rw [w_X9_thin_29]
  refine br_f (by decide) (br_t rfl (no (fun z => ?_)))
  have := z.2 3 (by decide)
  unfold byA at this
  rw [if_neg (by omega)] at this
  exact absurd this (by decide)
