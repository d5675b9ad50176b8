/-! image, undo -/
theorem s_copy1 {S : St} {k k1 : Nat} {post : St → Prop} (hk : k1 ≠ k) (h : ∀ S' : St, (∀ i, i < 7 → S'.1 k i = S.1 k1 i) → Fx (fun j => j = k) S S' → post S') : w_X1_becomeLike k k1 post S := by
  unfold w_X1_becomeLike
  refine nm_r (e' := S.1 k1 0) rfl (nm_e (nm_r (e' := S.1 k1 1) (by simp [sI_1, hk]) (nm_e (nm_r (e' := S.1 k1 2) (by simp [sI_1, hk]) (nm_e (nm_r (e' := S.1 k1 3) (by simp [sI_1, hk]) (nm_e (nm_r (e' := S.1 k1 4) (by simp [sI_1, hk]) (nm_e (nm_r (e' := S.1 k1 5) (by simp [sI_1, hk]) (nm_e (nm_r (e' := S.1 k1 6) (by simp [sI_1, hk]) (nm_e (h _ (fun i hi => ?_) ?_))))))))))))))
  · rcases (show i = 0 ∨ i = 1 ∨ i = 2 ∨ i = 3 ∨ i = 4 ∨ i = 5 ∨ i = 6 by omega) with e | e | e | e | e | e | e <;> subst e <;> simp [sI_1]
  · exact Fx.I (Fx.I (Fx.I (Fx.I (Fx.I (Fx.I (Fx.I Fx.rf rfl) rfl) rfl) rfl) rfl) rfl) rfl
theorem FrX.cp7 {S S' : St} {k k' a b g : Nat} (h : FrX S k a b g) (e : ∀ i, i < 7 → S'.1 k' i = S.1 k i) : FrX S' k' a b g := by
  unfold FrX at h ⊢
  rw [e 0 (by omega), e 1 (by omega), e 2 (by omega), e 3 (by omega), e 4 (by omega), e 5 (by omega), e 6 (by omega)]
  exact h
theorem x_shelfCopy {S : St} {c d : Nat} {F : TF} {post : St → Prop} (hX : XF S d F) (ok : F.1 ≤ 8) (hcd : c + 10 ≤ d ∨ d + 10 ≤ c) (h : ∀ S' : St, XF S' c F → Fx (fun j => c ≤ j ∧ j < c + 10) S S' → post S') : w_X6_becomeLike c d post S := by
  unfold w_X6_becomeLike
  have loop : ∀ n k (T : St), k + n = 8 → (∀ j, j < k → ∀ i, i < 7 → T.1 (c + 1 + 1 + j) i = S.1 (d + 1 + 1 + j) i) → Fx (fun j => c ≤ j ∧ j < c + 10) S T → w_X6_becomeLike_2 post (n + 1) c d (nI k) T := by
    intro n
    induction n with
    | zero =>
      intro k T h1 h2 hx
      rw [w_X6_becomeLike_2]
      refine pk_le 8 k (fun _ => nm_r (e' := nI F.1) ?_ (nm_e (h _ ⟨sI_s _ _ _ _, fun j hj => ?_⟩ (Fx.I hx (by omega))))) (fun y => by omega)
      · rw [(hx d (by omega)).1]; exact hX.1
      · exact (hX.2 j hj).cp7 (fun i hi => by rw [sI_x _ _ _ _ _ _ (by omega)]; exact h2 j (by omega) i hi)
    | succ n ih =>
      intro k T h1 h2 hx
      rw [w_X6_becomeLike_2]
      refine pk_le 8 k (fun y => by omega) (fun y => pk_le 8 k (fun y => by omega) (fun _ => ⟨in_nI y, in_nI y, ?_⟩))
      rw [nI_clamp (show k < 2 ^ 31 by omega)]
      refine s_copy1 (by omega) (fun T2 t1 hx2 => nm_r (e' := nI (k + 1)) (nI_1 k) (ih (k + 1) T2 (by omega) (fun j hj i hi => ?_) (hx.tr (hx2.mo (fun j e => by omega)))))
      by_cases e : j = k
      · subst e
        rw [t1 i hi, (hx (d + 1 + 1 + j) (by omega)).1]
      · rw [(hx2 (c + 1 + 1 + j) (by omega)).1]
        exact h2 j (by omega) i hi
  exact ⟨9, loop 8 0 S (by omega) (fun j hj => by omega) Fx.rf⟩
theorem x_denCopy {S : St} {c d : Nat} {L : TL} {post : St → Prop} (hX : XL S d L) (ok : okTL L) (hcd : c + 2 ≤ d ∨ d + 2 ≤ c) (ac : alX (c + 1) = 399) (ad : alX (d + 1) = 399) (h : ∀ S' : St, XL S' c L → Fx (fun j => j = c ∨ j = c + 1) S S' → post S') : w_X0_becomeLike c d post S := by
  have h3 := ok.1
  unfold w_X0_becomeLike
  refine nm_r (e' := nI L.2.1) hX.2.1 (nm_e (nm_r (e' := nI L.1) (by rw [sI_x _ _ _ _ _ _ (by omega)]; exact hX.1) (nm_e ⟨L.1 + 1, ?_⟩)))
  have loop : ∀ n k (T : St), k + n = L.1 → T.1 c 1 = nI L.1 → T.1 c 2 = nI L.2.1 → (∀ i, i < k → T.1 (c + 1) i = nI (L.2.2 i)) → Fx (fun j => j = c ∨ j = c + 1) S T → w_X0_becomeLike_18 post (n + 1) c d (nI k) T := by
    intro n
    induction n with
    | zero =>
      intro k T h1 t1 t2 t3 hx
      rw [w_X0_becomeLike_18, t1]
      exact pk_le L.1 k (fun _ => h T ⟨t1, t2, fun i hi => t3 i (by omega)⟩ hx) (fun y => by omega)
    | succ n ih =>
      intro k T h1 t1 t2 t3 hx
      rw [w_X0_becomeLike_18, t1]
      refine pk_le L.1 k (fun y => by omega) (fun y => s_valueAt (by omega) (by omega) (s_setAt (by omega) (by omega) (nm_r (e' := nI (k + 1)) (nI_1 k) (ih (k + 1) _ (by omega) ?_ ?_ (fun i hi => ?_) (Fx.I hx (Or.inr rfl))))))
      · rw [sI_x _ _ _ _ _ _ (by omega)]; exact t1
      · rw [sI_x _ _ _ _ _ _ (by omega)]; exact t2
      · by_cases e : i = k
        · subst e
          rw [sI_s, (hx (d + 1) (by omega)).1, hX.2.2 i y]
        · rw [sI_n _ _ _ _ _ e]; exact t3 i (by omega)
  exact loop L.1 0 _ (by omega) (sI_s _ _ _ _) (by rw [sI_n _ _ _ _ _ (by decide), sI_s]) (fun i hi => by omega) (Fx.I (Fx.I Fx.rf (Or.inl rfl)) (Or.inl rfl))
abbrev scK (j : Nat) : Prop := j = 0 ∨ (11 ≤ j ∧ j < 21) ∨ j = 24 ∨ j = 25
theorem x_image {S : St} {F : TF} {L : TL} {post : Int32 → St → Prop} (hF : XF S 1 F) (okf : okTF F) (hL : XL S 21 L) (okl : okTL L) (h : ∀ S' : St, XK S' (some (F, L)) → Fx scK S S' → post (nI F.1) S') : w_X8_image post S := by
  unfold w_X8_image
  refine x_shelfCopy hF okf.1 (by omega) (fun S1 hF1 hx1 => ?_)
  refine x_denCopy (hL.cp (hx1 21 (by omega)).1 (hx1 22 (by omega)).1) okl (by omega) rfl rfl (fun S2 hL2 hx2 => nm_e ?_)
  have e : (sI S2 0 8 1).1 1 1 = nI F.1 := by rw [sI_x _ _ _ _ _ _ (by decide), (hx2 1 (by omega)).1, (hx1 1 (by omega)).1]; exact hF.1
  rw [e]
  refine h _ ⟨sI_s _ _ _ _, ?_, ?_⟩ (Fx.I ((hx1.mo (fun j e => by show j = 0 ∨ _; omega)).tr (hx2.mo (fun j e => by show j = 0 ∨ _; omega))) (Or.inl rfl))
  · exact hF1.cp okf.1 (fun j j1 j2 => by rw [(sI_o S2 0 8 1 j (by omega)).1, (hx2 j (by omega)).1])
  · exact hL2.cp (sI_o S2 0 8 1 24 (by decide)).1 (sI_o S2 0 8 1 25 (by decide)).1
abbrev scKm (j : Nat) : Prop := 21 ≤ j ∧ j < 25
abbrev scKe (i : Nat) : Prop := i = 36 ∨ i = 37 ∨ i = 41 ∨ i = 42
theorem m_image {S : St} {F : TF} {L : TL} {post : Int32 → St → Prop} (hF : MF S F) (okf : okTF F) (hL : ML S L) (okl : okTL L) (h : ∀ S' : St, MK S' (some (F, L)) → Fm scKm scKe S S' → post (nI F.1) S') : w_X9_image post S := by
  have h8 := okf.1
  have h3 := okl.1
  unfold w_X9_image
  refine nm_e (nm_r (e' := nI F.1) (by rw [sI_n _ _ _ _ _ (by decide)]; exact hF.1) (nm_e ⟨F.1 + 1, ?_⟩))
  have second : ∀ n i (T : St), i + n = L.1 → T.1 0 36 = 1 → T.1 0 37 = nI F.1 → T.1 0 41 = nI L.1 → T.1 0 42 = nI L.2.1 → (∀ k, k < F.1 → T.1 21 k = nI (F.2.1 k) ∧ T.1 22 k = nI (F.2.2.1 k) ∧ T.1 23 k = nI (F.2.2.2 k)) → (∀ j, j < i → T.1 24 j = nI (L.2.2 j)) → Fm scKm scKe S T → w_X9_image_83 post (n + 1) (nI i) T := by
    intro n
    induction n with
    | zero =>
      intro i T h1 t1 t2 t3 t4 t5 t6 hx
      rw [w_X9_image_83, hx.2 14 (by simp [scKe]), hL.1, hx.2 0 (by simp [scKe]), hF.1]
      exact pk_le L.1 i (fun _ => h T ⟨t1, t2, t5, t3, t4, fun j hj => t6 j (by have hj : j < L.1 := hj; omega)⟩ hx) (fun y => by omega)
    | succ n ih =>
      intro i T h1 t1 t2 t3 t4 t5 t6 hx
      rw [w_X9_image_83, hx.2 14 (by simp [scKe]), hL.1]
      refine pk_le L.1 i (fun y => by omega) (fun y => ⟨in_nI (by omega), ?_⟩)
      rw [nI_clamp (show i < 2 ^ 31 by omega), hx.1 9 (by decide) (by simp [scKm]), hL.2.2 i y]
      refine nm_e ⟨in_nI (by omega), nm_e (nm_r (e' := nI (i + 1)) (nI_1 i) (ih (i + 1) _ (by omega) ?_ ?_ ?_ ?_ (fun k hk => ?_) (fun j hj => ?_) (Fm.A hx (by simp [scKm]) (by decide))))⟩
      · rw [sI_x _ _ _ _ _ _ (by decide)]; exact t1
      · rw [sI_x _ _ _ _ _ _ (by decide)]; exact t2
      · rw [sI_x _ _ _ _ _ _ (by decide)]; exact t3
      · rw [sI_x _ _ _ _ _ _ (by decide)]; exact t4
      · rw [sI_x _ _ _ _ _ _ (by decide), sI_x _ _ _ _ _ _ (by decide), sI_x _ _ _ _ _ _ (by decide)]; exact t5 k hk
      · by_cases e : j = i
        · subst e; rw [sI_s]
        · rw [sI_n _ _ _ _ _ e]; exact t6 j (by omega)
  have first : ∀ n i (T : St), i + n = F.1 → T.1 0 36 = 1 → T.1 0 37 = nI F.1 → (∀ k, k < i → T.1 21 k = nI (F.2.1 k) ∧ T.1 22 k = nI (F.2.2.1 k) ∧ T.1 23 k = nI (F.2.2.2 k)) → Fm scKm scKe S T → w_X9_image_15 post (n + 1) (nI i) T := by
    intro n
    induction n with
    | zero =>
      intro i T h1 t1 t2 t5 hx
      rw [w_X9_image_15, hx.2 0 (by simp [scKe]), hF.1]
      refine pk_le F.1 i (fun _ => nm_r (e' := nI L.1) (by rw [hx.2 14 (by simp [scKe])]; exact hL.1) (nm_e (nm_r (e' := nI L.2.1) (by rw [sI_n _ _ _ _ _ (by decide), hx.2 15 (by simp [scKe])]; exact hL.2.1) (nm_e ⟨L.1 + 1, ?_⟩)))) (fun y => by omega)
      refine second L.1 0 _ (by omega) (by simp [sI_1, t1]) (by simp [sI_1, t2]) (by simp [sI_1]) (by simp [sI_1]) (fun k hk => ?_) (fun j hj => by omega) (Fm.F (Fm.F hx (by simp [scKe])) (by simp [scKe]))
      have := t5 k (by omega)
      simp [sI_1, this]
    | succ n ih =>
      intro i T h1 t1 t2 t5 hx
      have iv : vp_in (nI i) 8 := in_nI (by omega)
      obtain ⟨e1, e2, e3⟩ := hF.2 i (by omega)
      rw [w_X9_image_15, hx.2 0 (by simp [scKe]), hF.1, nI_clamp (show i < 2 ^ 31 by omega)]
      refine pk_le F.1 i (fun y => by omega) (fun y => ⟨iv, nm_r (e' := nI (F.2.1 i)) (by rw [hx.1 1 (by decide) (by simp [scKm])]; exact e1) ⟨iv, nm_e ⟨iv, nm_r (e' := nI (F.2.2.1 i)) (by rw [sI_x _ _ _ _ _ _ (by decide), hx.1 2 (by decide) (by simp [scKm])]; exact e2) ⟨iv, nm_e ⟨iv, nm_r (e' := nI (F.2.2.2 i)) (by rw [sI_x _ _ _ _ _ _ (by decide), sI_x _ _ _ _ _ _ (by decide), hx.1 3 (by decide) (by simp [scKm])]; exact e3) ⟨iv, nm_e (nm_r (e' := nI (i + 1)) (nI_1 i) (ih (i + 1) _ (by omega) (by simp [sI_1, t1]) (by simp [sI_1, t2]) (fun k hk => ?_) (Fm.A (Fm.A (Fm.A hx (by simp [scKm]) (by decide)) (by simp [scKm]) (by decide)) (by simp [scKm]) (by decide))))⟩⟩⟩⟩⟩⟩)
      by_cases e : k = i
      · subst e; simp [sI_1]
      · have := t5 k (by omega)
        simp [sI_1, e, this]
  exact first F.1 0 _ (by omega) (by simp [sI_1]) (by simp [sI_1]) (fun k hk => by omega) (Fm.F (Fm.F Fm.rf (by simp [scKe])) (by simp [scKe]))
def q_undo (F : TF) (L : TL) : TK → Int32 × TF × TL
  | none => (-5, F, L)
  | some q => (nI q.1.1, q.1, q.2)
abbrev scV (j : Nat) : Prop := (1 ≤ j ∧ j < 11) ∨ j = 21 ∨ j = 22
theorem x_undo {S : St} {F : TF} {L : TL} {K : TK} {post : Int32 → St → Prop} (hF : XF S 1 F) (hL : XL S 21 L) (hK : XK S K) (okk : okTK K) (h : ∀ S' : St, XF S' 1 (q_undo F L K).2.1 → XL S' 21 (q_undo F L K).2.2 → Fx scV S S' → post (q_undo F L K).1 S') : w_X8_undo post S := by
  unfold w_X8_undo
  cases K with
  | none =>
    have hK : S.1 0 8 = 0 := hK
    exact br_t hK (h S hF hL Fx.rf)
  | some q =>
    obtain ⟨k1, k2, k3⟩ := hK
    refine br_f (by rw [k1]; decide) (x_shelfCopy k2 okk.1.1 (by omega) (fun S1 hF1 hx1 => ?_))
    refine x_denCopy (k3.cp (hx1 24 (by omega)).1 (hx1 25 (by omega)).1) okk.2 (by omega) rfl rfl (fun S2 hL2 hx2 => ?_)
    have hF2 := hF1.cp okk.1.1 (fun j j1 j2 => (hx2 j (by omega)).1)
    rw [hF2.1]
    exact h S2 hF2 hL2 ((hx1.mo (fun j e => by show _ ∨ _; omega)).tr (hx2.mo (fun j e => by show _ ∨ _; omega)))
abbrev scVm (j : Nat) : Prop := j = 1 ∨ j = 2 ∨ j = 3 ∨ j = 9
abbrev scVe (i : Nat) : Prop := i = 0 ∨ i = 14 ∨ i = 15
theorem m_undo {S : St} {F : TF} {L : TL} {K : TK} {post : Int32 → St → Prop} (hF : MF S F) (hL : ML S L) (hK : MK S K) (okk : okTK K) (h : ∀ S' : St, MF S' (q_undo F L K).2.1 → ML S' (q_undo F L K).2.2 → Fm scVm scVe S S' → post (q_undo F L K).1 S') : w_X9_undo post S := by
  unfold w_X9_undo
  cases K with
  | none =>
    have hK : S.1 0 36 = 0 := hK
    exact br_t hK (h S hF hL Fm.rf)
  | some q =>
    obtain ⟨k1, k2, k3, k4, k5, k6⟩ := hK
    have h8 := okk.1.1
    have h3 := okk.2.1
    refine br_f (by rw [k1]; decide) (nm_r (e' := nI q.1.1) k2 (nm_e ⟨q.1.1 + 1, ?_⟩))
    have second : ∀ n i (T : St), i + n = q.2.1 → T.1 0 0 = nI q.1.1 → T.1 0 14 = nI q.2.1 → T.1 0 15 = nI q.2.2.1 → (∀ k, k < q.1.1 → T.1 1 k = nI (q.1.2.1 k) ∧ T.1 2 k = nI (q.1.2.2.1 k) ∧ T.1 3 k = nI (q.1.2.2.2 k)) → (∀ j, j < i → T.1 9 j = nI (q.2.2.2 j)) → Fm scVm scVe S T → w_X9_undo_88 post (n + 1) (nI i) T := by
      intro n
      induction n with
      | zero =>
        intro i T h1 t2 t3 t4 t5 t6 hx
        rw [w_X9_undo_88, t3, t2]
        exact pk_le q.2.1 i (fun _ => h T ⟨t2, t5⟩ ⟨t3, t4, fun j hj => t6 j (by have hj : j < q.2.1 := hj; omega)⟩ hx) (fun y => by omega)
      | succ n ih =>
        intro i T h1 t2 t3 t4 t5 t6 hx
        rw [w_X9_undo_88, t3]
        refine pk_le q.2.1 i (fun y => by omega) (fun y => ⟨in_nI (by omega), ?_⟩)
        rw [nI_clamp (show i < 2 ^ 31 by omega), hx.1 24 (by decide) (by simp [scVm]), k6 i y]
        refine nm_e ⟨in_nI (by omega), nm_e (nm_r (e' := nI (i + 1)) (nI_1 i) (ih (i + 1) _ (by omega) ?_ ?_ ?_ (fun k hk => ?_) (fun j hj => ?_) (Fm.A hx (by simp [scVm]) (by decide))))⟩
        · rw [sI_x _ _ _ _ _ _ (by decide)]; exact t2
        · rw [sI_x _ _ _ _ _ _ (by decide)]; exact t3
        · rw [sI_x _ _ _ _ _ _ (by decide)]; exact t4
        · rw [sI_x _ _ _ _ _ _ (by decide), sI_x _ _ _ _ _ _ (by decide), sI_x _ _ _ _ _ _ (by decide)]; exact t5 k hk
        · by_cases e : j = i
          · subst e; rw [sI_s]
          · rw [sI_n _ _ _ _ _ e]; exact t6 j (by omega)
    have first : ∀ n i (T : St), i + n = q.1.1 → T.1 0 0 = nI q.1.1 → (∀ k, k < i → T.1 1 k = nI (q.1.2.1 k) ∧ T.1 2 k = nI (q.1.2.2.1 k) ∧ T.1 3 k = nI (q.1.2.2.2 k)) → Fm scVm scVe S T → w_X9_undo_20 post (n + 1) (nI i) T := by
      intro n
      induction n with
      | zero =>
        intro i T h1 t2 t5 hx
        rw [w_X9_undo_20, t2]
        refine pk_le q.1.1 i (fun _ => nm_r (e' := nI q.2.1) (by rw [hx.2 41 (by simp [scVe])]; exact k4) (nm_e (nm_r (e' := nI q.2.2.1) (by rw [sI_n _ _ _ _ _ (by decide), hx.2 42 (by simp [scVe])]; exact k5) (nm_e ⟨q.2.1 + 1, ?_⟩)))) (fun y => by omega)
        refine second q.2.1 0 _ (by omega) (by simp [sI_1, t2]) (by simp [sI_1]) (by simp [sI_1]) (fun k hk => ?_) (fun j hj => by omega) (Fm.F (Fm.F hx (by simp [scVe])) (by simp [scVe]))
        have := t5 k (by omega)
        simp [sI_1, this]
      | succ n ih =>
        intro i T h1 t2 t5 hx
        have iv : vp_in (nI i) 8 := in_nI (by omega)
        obtain ⟨e1, e2, e3⟩ := k3 i (by omega)
        rw [w_X9_undo_20, t2, nI_clamp (show i < 2 ^ 31 by omega)]
        refine pk_le q.1.1 i (fun y => by omega) (fun y => ⟨iv, nm_r (e' := nI (q.1.2.1 i)) (by rw [hx.1 21 (by decide) (by simp [scVm])]; exact e1) ⟨iv, nm_e ⟨iv, nm_r (e' := nI (q.1.2.2.1 i)) (by rw [sI_x _ _ _ _ _ _ (by decide), hx.1 22 (by decide) (by simp [scVm])]; exact e2) ⟨iv, nm_e ⟨iv, nm_r (e' := nI (q.1.2.2.2 i)) (by rw [sI_x _ _ _ _ _ _ (by decide), sI_x _ _ _ _ _ _ (by decide), hx.1 23 (by decide) (by simp [scVm])]; exact e3) ⟨iv, nm_e (nm_r (e' := nI (i + 1)) (nI_1 i) (ih (i + 1) _ (by omega) (by simp [sI_1, t2]) (fun k hk => ?_) (Fm.A (Fm.A (Fm.A hx (by simp [scVm]) (by decide)) (by simp [scVm]) (by decide)) (by simp [scVm]) (by decide))))⟩⟩⟩⟩⟩⟩)
        by_cases e : k = i
        · subst e; simp [sI_1]
        · have := t5 k (by omega)
          simp [sI_1, e, this]
    exact first q.1.1 0 _ (by omega) (sI_s _ _ _ _) (fun k hk => by omega) (Fm.F Fm.rf (by simp [scVe]))
