theorem iF.no {F : TF} {v : Int32} (h : ∀ k, k < F.1 → v ≠ nI k) : ¬ iF F v := fun ⟨k, hk, e⟩ => h k hk e
theorem cl_nI {k : Nat} (h : k < 2 ^ 31) : cl (nI k) = k := nI_clamp h
/-! drop -/
noncomputable def q_drop (F : TF) (v : Int32) : Int32 × TF := cif (iF F v) (nI (F.1 - 1), dropF F (cl v)) (-1, F)
theorem ok_drop {F : TF} (ok : okTF F) (v : Int32) : okTF (q_drop F v).2 := by
  unfold q_drop
  by_cases h : iF F v
  · rw [cif_pos h]
    obtain ⟨k, hk, rfl⟩ := h
    have := ok.1
    show okTF (dropF F (cl (nI k)))
    rw [cl_nI (by omega)]
    exact ok_dropF ok hk
  · rw [cif_neg h]; exact ok
theorem x_drop {S : St} {F : TF} {v : Int32} {post : Int32 → St → Prop} (hX : XF S 1 F) (ok : okTF F) (h : ∀ S' : St, XF S' 1 (q_drop F v).2 → Fx D1 S S' → post (q_drop F v).1 S') : w_X8_drop v post S := by
  have h8 := ok.1
  unfold w_X8_drop w_X6_takeAway
  refine x_at hX ok.1 (fun k hk e => ⟨fun e => by simp at e, fun _ _ => ?_⟩) (fun n => ⟨fun _ => ?_, fun k e => by simp at e⟩)
  · subst e
    unfold q_drop at h
    rw [cif_pos ⟨k, hk, rfl⟩, cl_nI (by omega)] at h
    have loop : ∀ n i (T : St), k ≤ i → i < F.1 → F.1 ≤ i + n → T.1 1 1 = nI F.1 → (∀ j, j < i → FrX T (1 + 1 + 1 + j) (if j < k then F.2.1 j else F.2.1 (j + 1)) (if j < k then F.2.2.1 j else F.2.2.1 (j + 1)) (if j < k then F.2.2.2 j else F.2.2.2 (j + 1))) → (∀ j, i ≤ j → j < F.1 → FrX T (1 + 1 + 1 + j) (F.2.1 j) (F.2.2.1 j) (F.2.2.2 j)) → Fx D1 S T → w_X6_takeAway_12 post n 1 (nI i) T := by
      intro n
      induction n with
      | zero => intro i T h1 h2 h3; omega
      | succ n ih =>
        intro i T h1 h2 h3 t1 t2 t3 hx
        rw [w_X6_takeAway_12, t1, nI_1]
        have fin : F.1 ≤ i + 1 → ∀ x6 : Int32, x6 = nI F.1 - 1 → ∀ S7 : St, S7 = sI T 1 1 x6 → post (S7.1 1 1) S7 := by
          intro q
          refine nm_r (e' := nI (F.1 - 1)) (pk_sub (a := F.1) (b := 1) (by omega)) (nm_e ?_)
          rw [sI_s]
          refine h _ ⟨sI_s _ _ _ _, fun j hj => ?_⟩ (Fx.I hx (by show 1 ≤ 1 ∧ 1 < 11; omega))
          have hj : j < F.1 - 1 := hj
          exact (t2 j (by omega)).cp (sI_o T 1 1 _ _ (by omega)).1
        refine pk_le F.1 (i + 1) (fun q => fin q) (fun q => ?_)
        refine pk_le 8 (i + 1) (fun q => by omega) (fun q2 => ⟨in_nI (by omega), ?_⟩)
        refine nm_e ⟨in_nI q2, ?_⟩
        rw [nI_clamp (show i < 2 ^ 31 by omega), nI_clamp (show i + 1 < 2 ^ 31 by omega)]
        refine s_becomeLike (t3 (i + 1) (by omega) q) (by omega) (fun T' hF hx' => nm_e ?_)
        have keep : ∀ j, j ≠ i → T'.1 (1 + 1 + 1 + j) = T.1 (1 + 1 + 1 + j) := fun j hj => (hx' _ (by omega)).1
        refine ih (i + 1) T' (by omega) q (by omega) (by rw [(hx' 1 (by omega)).1]; exact t1) (fun j hj => ?_) (fun j hj hj2 => (t3 j (by omega) hj2).cp (keep j (by omega))) (hx.tr (hx'.mo (fun j e => by show 1 ≤ j ∧ j < 11; omega)))
        by_cases e : j = i
        · subst e
          rw [if_neg (by omega), if_neg (by omega), if_neg (by omega)]
          exact hF
        · exact (t2 j (by omega)).cp (keep j e)
    refine ⟨F.1 - k, loop _ k S (Nat.le_refl k) hk (by omega) hX.1 (fun j hj => ?_) (fun j _ hj => hX.2 j hj) Fx.rf⟩
    rw [if_pos hj, if_pos hj, if_pos hj]
    exact hX.2 j (by omega)
  · unfold q_drop at h
    rw [cif_neg (iF.no n)] at h
    exact h S hX Fx.rf
theorem m_drop {S : St} {F : TF} {v : Int32} {post : Int32 → St → Prop} (hM : MF S F) (ok : okTF F) (h : ∀ S' : St, MF S' (q_drop F v).2 → Fm E1 (fun i => i = 0) S S' → post (q_drop F v).1 S') : w_X9_drop v post S := by
  have h8 := ok.1
  unfold w_X9_drop
  refine m_isFraction hM ok.1 (fun k hk e => br_f (by decide) ?_) (fun n => br_t rfl ?_)
  · subst e
    unfold q_drop at h
    rw [cif_pos ⟨k, hk, rfl⟩, cl_nI (by omega)] at h
    have loop : ∀ n i (T : St), k ≤ i → i < F.1 → F.1 ≤ i + n → T.1 0 0 = nI F.1 → (∀ j, j < i → T.1 1 j = nI (if j < k then F.2.1 j else F.2.1 (j + 1)) ∧ T.1 2 j = nI (if j < k then F.2.2.1 j else F.2.2.1 (j + 1)) ∧ T.1 3 j = nI (if j < k then F.2.2.2 j else F.2.2.2 (j + 1))) → (∀ j, i ≤ j → j < F.1 → T.1 1 j = nI (F.2.1 j) ∧ T.1 2 j = nI (F.2.2.1 j) ∧ T.1 3 j = nI (F.2.2.2 j)) → Fm E1 (fun i => i = 0) S T → w_X9_drop_12 post n (nI i) T := by
      intro n
      induction n with
      | zero => intro i T h1 h2 h3; omega
      | succ n ih =>
        intro i T h1 h2 h3 t1 t2 t3 hx
        rw [w_X9_drop_12, t1, show nI F.1 - 1 = nI (F.1 - 1) from pk_sub (a := F.1) (b := 1) (by omega), show nI i + 1 = nI (i + 1) from nI_1 i]
        refine pk_le (F.1 - 1) i (fun q => ?_) (fun q => ?_)
        · refine nm_e (nm_e ?_)
          rw [sI_s]
          refine h _ ⟨sI_s _ _ _ _, fun j hj => ?_⟩ (Fm.F hx rfl)
          have hj : j < F.1 - 1 := hj
          rw [sI_x _ _ _ _ _ _ (by decide), sI_x _ _ _ _ _ _ (by decide), sI_x _ _ _ _ _ _ (by decide)]
          exact t2 j (by omega)
        · have e1 := t3 (i + 1) (by omega) (by omega)
          refine nm_e ⟨in_nI (by omega), ?_⟩
          rw [nI_clamp (show i + 1 < 2 ^ 31 by omega), nI_clamp (show i < 2 ^ 31 by omega)]
          refine nm_r e1.1 ⟨in_nI (by omega), nm_e (nm_e ⟨in_nI (by omega), ?_⟩)⟩
          rw [nI_clamp (show i + 1 < 2 ^ 31 by omega)]
          refine nm_r (e' := nI (F.2.2.1 (i + 1))) (by simp [sI_1, e1]) ⟨in_nI (by omega), nm_e (nm_e ⟨in_nI (by omega), ?_⟩)⟩
          rw [nI_clamp (show i + 1 < 2 ^ 31 by omega)]
          refine nm_r (e' := nI (F.2.2.2 (i + 1))) (by simp [sI_1, e1]) ⟨in_nI (by omega), nm_e (nm_e ?_)⟩
          refine ih (i + 1) _ (by omega) (by omega) (by omega) (by simp [sI_1, t1]) (fun j hj => ?_) (fun j hj hj2 => ?_) (Fm.A (Fm.A (Fm.A hx (Or.inl rfl) (by decide)) (Or.inr (Or.inl rfl)) (by decide)) (Or.inr (Or.inr rfl)) (by decide))
          · by_cases e : j = i
            · subst e
              rw [if_neg (by omega), if_neg (by omega), if_neg (by omega)]
              simp [sI_1]
            · have hh := t2 j (by omega)
              simp [sI_1, e, hh]
          · have hh := t3 j (by omega) hj2
            have ne : j ≠ i := by omega
            simp [sI_1, ne, hh]
    refine ⟨F.1 - k, loop _ k S (Nat.le_refl k) hk (by omega) hM.1 (fun j hj => ?_) (fun j _ hj => hM.2 j hj) Fm.rf⟩
    rw [if_pos hj, if_pos hj, if_pos hj]
    exact hM.2 j (by omega)
  · unfold q_drop at h
    rw [cif_neg (iF.no n)] at h
    exact h S hM Fm.rf
theorem XF.set {S S' : St} {F : TF} {k a b g : Nat} (hX : XF S 1 F) (hk : k < F.1) (hF : FrX S' (1 + 1 + 1 + k) a b g) (hx : Fx (fun j => j = 1 + 1 + 1 + k) S S') : XF S' 1 (setF F k a b g) := by
  refine ⟨by rw [(hx 1 (by omega)).1]; exact hX.1, fun j hj => ?_⟩
  have hj : j < F.1 := hj
  show FrX S' (1 + 1 + 1 + j) (va_up F.2.1 k a j) (va_up F.2.2.1 k b j) (va_up F.2.2.2 k g j)
  by_cases e : j = k
  · rw [e, up_s, up_s, up_s]; exact hF
  · rw [up_n _ _ _ _ e, up_n _ _ _ _ e, up_n _ _ _ _ e]
    exact (hX.2 j hj).cp (hx _ (by omega)).1
/-! multiply -/
def okm (m : Int32) : Prop := 0 ≤ m ∧ m ≤ 999
noncomputable def q_multiply (F : TF) (v m : Int32) : Int32 × TF := cif (iF F v ∧ okm m) (if 9999 < F.2.1 (cl v) * cl m then (-6, F) else (nI (F.2.1 (cl v) * cl m), setF F (cl v) (F.2.1 (cl v) * cl m) (F.2.2.1 (cl v)) (F.2.2.2 (cl v)))) (-1, F)
theorem ok_multiply {F : TF} (ok : okTF F) (v m : Int32) : okTF (q_multiply F v m).2 := by
  unfold q_multiply
  by_cases h : iF F v ∧ okm m
  · rw [cif_pos h]
    obtain ⟨⟨k, hk, rfl⟩, -⟩ := h
    have h8 := ok.1
    rw [cl_nI (by omega)]
    by_cases q : 9999 < F.2.1 k * cl m
    · rw [if_pos q]; exact ok
    · rw [if_neg q]
      have o := ok.2 k hk
      exact ok_setF ok k ⟨by omega, o.2⟩
  · rw [cif_neg h]; exact ok
theorem x_multiply {S : St} {F : TF} {v m : Int32} {post : Int32 → St → Prop} (hX : XF S 1 F) (ok : okTF F) (h : ∀ S' : St, XF S' 1 (q_multiply F v m).2 → Fx D1 S S' → post (q_multiply F v m).1 S') : w_X8_multiply v m post S := by
  have h8 := ok.1
  have bad : ¬ (iF F v ∧ okm m) → post (-1) S := fun q => by
    unfold q_multiply at h
    rw [cif_neg q] at h
    exact h S hX Fx.rf
  unfold w_X8_multiply
  refine x_at hX ok.1 (fun k hk e => ⟨fun e => by simp at e, fun k3 e3 => ?_⟩) (fun n => ⟨fun _ => bad (fun q => iF.no n q.1), fun k e => by simp at e⟩)
  cases e3
  refine s_isWithin (fun a1 a2 => br_f (by decide) ?_) (fun a => br_t rfl (bad (fun q => ?_)))
  · obtain ⟨n, -, hn, rfl⟩ := i_between (l := 0) (h := 999) rfl rfl a1 a2
    subst e
    unfold q_multiply at h
    rw [cif_pos ⟨⟨k, hk, rfl⟩, a1, a2⟩, cl_nI (by omega), cl_nI (by omega)] at h
    have hF := hX.2 k hk
    have o := ok.2 k hk
    have hm : F.2.1 k * n ≤ 10000 * 999 := mul_bd (by have := o.1; omega) hn
    refine nm_r (e' := nI (F.2.1 k * n)) (by rw [hF.1, pk_mul]) (pk_le _ 9999 (fun q => ?_) (fun q => ?_))
    · rw [if_neg (by omega)] at h
      refine nm_r hF.2.1 (nm_r hF.2.2.1 (s_become ⟨by omega, o.2⟩ (fun S' hF' hx => ?_)))
      exact h S' (hX.set hk hF' hx) (hx.mo (fun j e => by show 1 ≤ j ∧ j < 11; omega))
    · rw [if_pos q] at h
      exact h S hX Fx.rf
  · rcases a with a | a
    · exact absurd q.2.1 (Int32.not_le.mpr a)
    · exact absurd q.2.2 (Int32.not_le.mpr a)
theorem m_multiply {S : St} {F : TF} {v m : Int32} {post : Int32 → St → Prop} (hM : MF S F) (ok : okTF F) (h : ∀ S' : St, MF S' (q_multiply F v m).2 → Fm E1 (fun i => i = 0) S S' → post (q_multiply F v m).1 S') : w_X9_multiply v m post S := by
  have h8 := ok.1
  have bad : ¬ (iF F v ∧ okm m) → post (-1) S := fun q => by
    unfold q_multiply at h
    rw [cif_neg q] at h
    exact h S hM Fm.rf
  unfold w_X9_multiply
  refine m_isFraction hM ok.1 (fun k hk e => br_f (by decide) ?_) (fun n => br_t rfl (bad (fun q => iF.no n q.1)))
  refine nm_e (m_in (lo := 0) (hi := 999) (by decide) (by decide) (fun a1 a2 => br_f (by decide) ?_) (fun a => br_t rfl (bad (fun q => ?_))))
  · obtain ⟨n, -, hn, rfl⟩ := i_between (l := 0) (h := 999) rfl rfl a1 a2
    subst e
    unfold q_multiply at h
    rw [cif_pos ⟨⟨k, hk, rfl⟩, a1, a2⟩, cl_nI (by omega), cl_nI (by omega)] at h
    obtain ⟨e1, e2, e3⟩ := hM.2 k hk
    have o := ok.2 k hk
    have hm : F.2.1 k * n ≤ 10000 * 999 := mul_bd (by have := o.1; omega) hn
    rw [nI_clamp (show k < 2 ^ 31 by omega), e1, toL (by have := o.1; omega), toL (by omega), lN_mul]
    refine ⟨in_nI (by omega), pl_le _ 9999 (fun q => ?_) (fun q => ?_)⟩
    · rw [if_neg (by omega)] at h
      refine ⟨in_nI (by omega), nm_r (e' := nI (F.2.1 k * n)) (pk_mul _ _) ⟨in_nI (by omega), nm_e ⟨in_nI (by omega), ?_⟩⟩⟩
      rw [sI_s]
      refine h _ ⟨by rw [sI_x _ _ _ _ _ _ (by decide)]; exact hM.1, fun j hj => ?_⟩ (Fm.A Fm.rf (Or.inl rfl) (by decide))
      have hj : j < F.1 := hj
      show _ = nI (va_up F.2.1 k _ j) ∧ _ = nI (va_up F.2.2.1 k _ j) ∧ _ = nI (va_up F.2.2.2 k _ j)
      by_cases e : j = k
      · subst e; simp [sI_1, va_up, e2, e3]
      · have hh := hM.2 j hj
        simp [sI_1, va_up, e, hh]
    · rw [if_pos q] at h
      exact h S hM Fm.rf
  · rcases a with a | a
    · exact absurd q.2.1 (Int32.not_le.mpr a)
    · exact absurd q.2.2 (Int32.not_le.mpr a)
