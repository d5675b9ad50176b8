/-! words on the tape: the model -/
def bgW (k : Nat) : Nat := ([0, 5, 10, 16, 21, 26, 30, 35, 41] : List Nat).getD k 0
def bgC (k : Nat) : Nat := ([0, 4, 9, 13, 17, 21] : List Nat).getD k 0
theorem mW_tab : ∀ k, k < 8 → bgW k + sLen.getD (k + 1) 0 < 41 ∧ cW.getD (bgW k + sLen.getD (k + 1) 0) 0 = 32 ∧ bgW (k + 1) = bgW k + sLen.getD (k + 1) 0 + 1 ∧ ∀ t, t < sLen.getD (k + 1) 0 → cW.getD (bgW k + t) 0 ≠ 32 ∧ cW.getD (bgW k + t) 0 < 256 ∧ nI (cW.getD (bgW k + t) 0) = sChr (k + 1) t := by
  intro k hk
  have h := List.all_eq_true.mp (show (List.range 8).all (fun k => decide (bgW k + sLen.getD (k + 1) 0 < 41) && decide (cW.getD (bgW k + sLen.getD (k + 1) 0) 0 = 32) && decide (bgW (k + 1) = bgW k + sLen.getD (k + 1) 0 + 1) && (List.range (sLen.getD (k + 1) 0)).all (fun t => decide (cW.getD (bgW k + t) 0 ≠ 32) && decide (cW.getD (bgW k + t) 0 < 256) && decide (nI (cW.getD (bgW k + t) 0) = sChr (k + 1) t))) = true by decide +kernel) k (List.mem_range.mpr hk)
  simp only [Bool.and_eq_true, decide_eq_true_eq, List.all_eq_true, List.mem_range] at h
  exact ⟨h.1.1.1, h.1.1.2, h.1.2, fun t ht => by have := h.2 t ht; exact ⟨this.1.1, this.1.2, this.2⟩⟩
theorem m_oneW {S : St} {T : TT} {i j k : Nat} {post : Int32 → St → Prop} {K5 : Int32 → Int32 → Int32 → Int32 → St → Prop} (hT : ∀ u, u < T.1 → S.1 13 u = nI (T.2 u)) (ok : okTT T) (hC : ∀ u, u < 41 → S.1 10 u = nI (cW.getD u 0)) (hk : k < 8) (hij : i ≤ j) (hj : j ≤ T.1) (f : brs T i j (k + 1) → post (nI k) S) (n : ¬ brs T i j (k + 1) → K5 (nI i) (nI j) (nI (bgW (k + 1))) (nI (k + 1)) S) : ∃ r, w_X9_wordOf_18 post K5 r (nI i) (nI j) (nI (bgW k)) (nI k) (nI (bgW k)) 1 S := by
  have h8 := ok.1
  obtain ⟨l1, l2, l3, l4⟩ := mW_tab k hk
  have loop : ∀ m t (fl : Int32), t + m = sLen.getD (k + 1) 0 → ((fl = 1 ∧ ∀ u, u < t → i + u < j ∧ byA T (i + u) = sChr (k + 1) u) ∨ (fl = 0 ∧ ¬ brs T i j (k + 1))) → w_X9_wordOf_18 post K5 (m + 1) (nI i) (nI j) (nI (bgW k)) (nI k) (nI (bgW k + t)) fl S := by
    intro m
    induction m with
    | zero =>
      intro t fl h1 h2
      have et : t = sLen.getD (k + 1) 0 := by omega
      rw [w_X9_wordOf_18]
      refine ⟨in_nI (by omega), ?_⟩
      rw [nI_clamp (show bgW k + t < 2 ^ 31 by omega), hC _ (by omega), et, l2]
      have go : ¬ brs T i j (k + 1) → ∀ x4 : Int32, x4 = nI (bgW k + sLen.getD (k + 1) 0) + 1 → ∀ x5 : Int32, x5 = nI k + 1 → K5 (nI i) (nI j) x4 x5 S := fun q => nm_r (e' := nI (bgW (k + 1))) (by rw [l3]; exact nI_1 _) (nm_r (e' := nI (k + 1)) (nI_1 k) (n q))
      refine br_t rfl ?_
      rcases h2 with ⟨rfl, h2⟩ | ⟨rfl, h2⟩
      · refine br_f (by decide) ?_
        rw [pk_sub (show bgW k ≤ bgW k + sLen.getD (k + 1) 0 by omega), pk_sub hij]
        refine pk_eq (bgW k + sLen.getD (k + 1) 0 - bgW k) (j - i) (fun q => f ⟨by omega, fun u hu => (h2 u (by omega)).2⟩) (fun q => go (fun z => q (by have := z.1; omega)))
      · exact br_t rfl (go h2)
    | succ m ih =>
      intro t fl h1 h2
      obtain ⟨c1, c2, c3⟩ := l4 t (by omega)
      rw [w_X9_wordOf_18]
      refine ⟨in_nI (by omega), ?_⟩
      rw [nI_clamp (show bgW k + t < 2 ^ 31 by omega), hC _ (by omega)]
      refine br_f (fun z => c1 (nI_inj (b := 32) z)) ?_
      have nxt : ∀ fl2 : Int32, ((fl2 = 1 ∧ ∀ u, u < t + 1 → i + u < j ∧ byA T (i + u) = sChr (k + 1) u) ∨ (fl2 = 0 ∧ ¬ brs T i j (k + 1))) → ∀ x10 : Int32, x10 = nI (bgW k + t) + 1 → w_X9_wordOf_18 post K5 (m + 1) (nI i) (nI j) (nI (bgW k)) (nI k) x10 fl2 S := fun fl2 q => nm_r (e' := nI (bgW k + (t + 1))) (nI_1 _) (ih (t + 1) fl2 (by omega) q)
      rcases h2 with ⟨rfl, h2⟩ | ⟨rfl, h2⟩
      · refine br_f (by decide) ?_
        rw [nI_add, pk_sub (show bgW k ≤ i + (bgW k + t) by omega), show i + (bgW k + t) - bgW k = i + t by omega]
        refine pk_le j (i + t) (fun q => nxt 0 (Or.inr ⟨rfl, fun z => by have := z.1; omega⟩)) (fun q => nm_e ⟨in_nI (by omega), in_nI (by omega), ?_⟩)
        rw [nI_clamp (show i + t < 2 ^ 31 by omega), hT _ (by omega)]
        have eb : byA T (i + t) = nI (T.2 (i + t)) := by unfold byA; rw [if_pos (by omega)]
        refine ⟨fun z => nxt 1 (Or.inl ⟨rfl, fun u hu => ?_⟩), fun z => nxt 0 (Or.inr ⟨rfl, fun w => z ?_⟩)⟩
        · rcases Nat.lt_or_ge u t with x | x
          · exact h2 u x
          · have : u = t := by omega
            subst this
            exact ⟨q, by rw [eb, z, c3]⟩
        · have := w.2 t (by omega)
          rw [eb, ← c3] at this
          exact this
      · exact br_t rfl (nxt 0 (Or.inr ⟨rfl, h2⟩))
  exact ⟨sLen.getD (k + 1) 0 + 1, loop (sLen.getD (k + 1) 0) 0 1 (by omega) (Or.inl ⟨rfl, fun u hu => absurd hu (Nat.not_lt_zero u)⟩)⟩
theorem m_wordOf {S : St} {T : TT} {i j : Nat} {post : Int32 → St → Prop} (hT : ∀ u, u < T.1 → S.1 13 u = nI (T.2 u)) (ok : okTT T) (hC : MC S) (hij : i ≤ j) (hj : j ≤ T.1) (h : post (wrd T i j 1 8 0) S) : w_X9_wordOf (nI i) (nI j) post S := by
  unfold w_X9_wordOf
  have loop : ∀ n k, k + n = 8 → wrd T i j 1 n k = wrd T i j 1 8 0 → w_X9_wordOf_5 post (n + 1) (nI i) (nI j) (nI (bgW k)) (nI k) S := by
    intro n
    induction n with
    | zero =>
      intro k h1 he
      rw [wrd] at he
      rw [w_X9_wordOf_5]
      exact pk_le 8 k (fun _ => by rw [he]; exact h) (fun y => by omega)
    | succ n ih =>
      intro k h1 he
      rw [wrd] at he
      rw [w_X9_wordOf_5]
      refine pk_le 8 k (fun y => by omega) (fun y => m_oneW hT ok hC.1 y hij hj (fun z => ?_) (fun z => ?_))
      · rw [Nat.add_comm] at z
        rw [cif_pos z] at he
        rw [he]; exact h
      · rw [Nat.add_comm] at z
        rw [cif_neg z] at he
        exact ih (k + 1) (by omega) he
  exact ⟨8 + 1, loop 8 0 (by omega) rfl⟩
theorem mC_tab : ∀ k, k < 5 → bgC k + sLen.getD (k + 9) 0 < 21 ∧ cC.getD (bgC k + sLen.getD (k + 9) 0) 0 = 32 ∧ bgC (k + 1) = bgC k + sLen.getD (k + 9) 0 + 1 ∧ ∀ t, t < sLen.getD (k + 9) 0 → cC.getD (bgC k + t) 0 ≠ 32 ∧ cC.getD (bgC k + t) 0 < 256 ∧ nI (cC.getD (bgC k + t) 0) = sChr (k + 9) t := by
  intro k hk
  have h := List.all_eq_true.mp (show (List.range 5).all (fun k => decide (bgC k + sLen.getD (k + 9) 0 < 21) && decide (cC.getD (bgC k + sLen.getD (k + 9) 0) 0 = 32) && decide (bgC (k + 1) = bgC k + sLen.getD (k + 9) 0 + 1) && (List.range (sLen.getD (k + 9) 0)).all (fun t => decide (cC.getD (bgC k + t) 0 ≠ 32) && decide (cC.getD (bgC k + t) 0 < 256) && decide (nI (cC.getD (bgC k + t) 0) = sChr (k + 9) t))) = true by decide +kernel) k (List.mem_range.mpr hk)
  simp only [Bool.and_eq_true, decide_eq_true_eq, List.all_eq_true, List.mem_range] at h
  exact ⟨h.1.1.1, h.1.1.2, h.1.2, fun t ht => by have := h.2 t ht; exact ⟨this.1.1, this.1.2, this.2⟩⟩
theorem m_oneC {S : St} {T : TT} {i j k : Nat} {post : Int32 → St → Prop} {K5 : Int32 → Int32 → Int32 → Int32 → St → Prop} (hT : ∀ u, u < T.1 → S.1 13 u = nI (T.2 u)) (ok : okTT T) (hC : ∀ u, u < 21 → S.1 11 u = nI (cC.getD u 0)) (hk : k < 5) (hij : i ≤ j) (hj : j ≤ T.1) (f : brs T i j (k + 9) → post (nI k) S) (n : ¬ brs T i j (k + 9) → K5 (nI i) (nI j) (nI (bgC (k + 1))) (nI (k + 1)) S) : ∃ r, w_X9_commandOf_17 post K5 r (nI i) (nI j) (nI (bgC k)) (nI k) (nI (bgC k)) 1 S := by
  have h8 := ok.1
  obtain ⟨l1, l2, l3, l4⟩ := mC_tab k hk
  have loop : ∀ m t (fl : Int32), t + m = sLen.getD (k + 9) 0 → ((fl = 1 ∧ ∀ u, u < t → i + u < j ∧ byA T (i + u) = sChr (k + 9) u) ∨ (fl = 0 ∧ ¬ brs T i j (k + 9))) → w_X9_commandOf_17 post K5 (m + 1) (nI i) (nI j) (nI (bgC k)) (nI k) (nI (bgC k + t)) fl S := by
    intro m
    induction m with
    | zero =>
      intro t fl h1 h2
      have et : t = sLen.getD (k + 9) 0 := by omega
      rw [w_X9_commandOf_17]
      refine ⟨in_nI (by omega), ?_⟩
      rw [nI_clamp (show bgC k + t < 2 ^ 31 by omega), hC _ (by omega), et, l2]
      have go : ¬ brs T i j (k + 9) → ∀ x4 : Int32, x4 = nI (bgC k + sLen.getD (k + 9) 0) + 1 → ∀ x5 : Int32, x5 = nI k + 1 → K5 (nI i) (nI j) x4 x5 S := fun q => nm_r (e' := nI (bgC (k + 1))) (by rw [l3]; exact nI_1 _) (nm_r (e' := nI (k + 1)) (nI_1 k) (n q))
      refine br_t rfl ?_
      rcases h2 with ⟨rfl, h2⟩ | ⟨rfl, h2⟩
      · refine br_f (by decide) ?_
        rw [pk_sub (show bgC k ≤ bgC k + sLen.getD (k + 9) 0 by omega), pk_sub hij]
        refine pk_eq (bgC k + sLen.getD (k + 9) 0 - bgC k) (j - i) (fun q => f ⟨by omega, fun u hu => (h2 u (by omega)).2⟩) (fun q => go (fun z => q (by have := z.1; omega)))
      · exact br_t rfl (go h2)
    | succ m ih =>
      intro t fl h1 h2
      obtain ⟨c1, c2, c3⟩ := l4 t (by omega)
      rw [w_X9_commandOf_17]
      refine ⟨in_nI (by omega), ?_⟩
      rw [nI_clamp (show bgC k + t < 2 ^ 31 by omega), hC _ (by omega)]
      refine br_f (fun z => c1 (nI_inj (b := 32) z)) ?_
      have nxt : ∀ fl2 : Int32, ((fl2 = 1 ∧ ∀ u, u < t + 1 → i + u < j ∧ byA T (i + u) = sChr (k + 9) u) ∨ (fl2 = 0 ∧ ¬ brs T i j (k + 9))) → ∀ x10 : Int32, x10 = nI (bgC k + t) + 1 → w_X9_commandOf_17 post K5 (m + 1) (nI i) (nI j) (nI (bgC k)) (nI k) x10 fl2 S := fun fl2 q => nm_r (e' := nI (bgC k + (t + 1))) (nI_1 _) (ih (t + 1) fl2 (by omega) q)
      rcases h2 with ⟨rfl, h2⟩ | ⟨rfl, h2⟩
      · refine br_f (by decide) ?_
        rw [nI_add, pk_sub (show bgC k ≤ i + (bgC k + t) by omega), show i + (bgC k + t) - bgC k = i + t by omega]
        refine pk_le j (i + t) (fun q => nxt 0 (Or.inr ⟨rfl, fun z => by have := z.1; omega⟩)) (fun q => nm_e ⟨in_nI (by omega), in_nI (by omega), ?_⟩)
        rw [nI_clamp (show i + t < 2 ^ 31 by omega), hT _ (by omega)]
        have eb : byA T (i + t) = nI (T.2 (i + t)) := by unfold byA; rw [if_pos (by omega)]
        refine ⟨fun z => nxt 1 (Or.inl ⟨rfl, fun u hu => ?_⟩), fun z => nxt 0 (Or.inr ⟨rfl, fun w => z ?_⟩)⟩
        · rcases Nat.lt_or_ge u t with x | x
          · exact h2 u x
          · have : u = t := by omega
            subst this
            exact ⟨q, by rw [eb, z, c3]⟩
        · have := w.2 t (by omega)
          rw [eb, ← c3] at this
          exact this
      · exact br_t rfl (nxt 0 (Or.inr ⟨rfl, h2⟩))
  exact ⟨sLen.getD (k + 9) 0 + 1, loop (sLen.getD (k + 9) 0) 0 1 (by omega) (Or.inl ⟨rfl, fun u hu => absurd hu (Nat.not_lt_zero u)⟩)⟩
theorem m_commandOf {S : St} {T : TT} {i j : Nat} {post : Int32 → St → Prop} (hT : ∀ u, u < T.1 → S.1 13 u = nI (T.2 u)) (ok : okTT T) (hC : MC S) (hij : i ≤ j) (hj : j ≤ T.1) (h : post (wrd T i j 9 5 0) S) : w_X9_commandOf (nI i) (nI j) post S := by
  unfold w_X9_commandOf
  have loop : ∀ n k, k + n = 5 → wrd T i j 9 n k = wrd T i j 9 5 0 → w_X9_commandOf_5 post (n + 1) (nI i) (nI j) (nI (bgC k)) (nI k) S := by
    intro n
    induction n with
    | zero =>
      intro k h1 he
      rw [wrd] at he
      rw [w_X9_commandOf_5]
      exact pk_le 5 k (fun _ => by rw [he]; exact h) (fun y => by omega)
    | succ n ih =>
      intro k h1 he
      rw [wrd] at he
      rw [w_X9_commandOf_5]
      refine pk_le 5 k (fun y => by omega) (fun y => m_oneC hT ok hC.2.1 y hij hj (fun z => ?_) (fun z => ?_))
      · rw [Nat.add_comm] at z
        rw [cif_pos z] at he
        rw [he]; exact h
      · rw [Nat.add_comm] at z
        rw [cif_neg z] at he
        exact ih (k + 1) (by omega) he
  exact ⟨5 + 1, loop 5 0 (by omega) rfl⟩
