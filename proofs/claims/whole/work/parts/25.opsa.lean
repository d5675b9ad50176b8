/-! fraction, drop, multiply, sum, lowest: both sides against one function -/
noncomputable def cif {α : Type} (P : Prop) (a b : α) : α := @ite α P (Classical.propDecidable P) a b
theorem cif_pos {α : Type} {P : Prop} {a b : α} (h : P) : cif P a b = a := by unfold cif; exact if_pos h
theorem cif_neg {α : Type} {P : Prop} {a b : α} (h : ¬ P) : cif P a b = b := by unfold cif; exact if_neg h
abbrev cl (v : Int32) : Nat := v.toNatClampNeg
theorem up_s {α : Type} (f : Nat → α) (k : Nat) (v : α) : va_up f k v k = v := by simp [va_up]
theorem up_n {α : Type} (f : Nat → α) (k j : Nat) (v : α) (h : j ≠ k) : va_up f k v j = f j := by simp [va_up, h]
def iF (F : TF) (v : Int32) : Prop := ∃ k, k < F.1 ∧ v = nI k
def addF (F : TF) (a b g : Nat) : TF := (F.1 + 1, va_up F.2.1 F.1 a, va_up F.2.2.1 F.1 b, va_up F.2.2.2 F.1 g)
def setF (F : TF) (k a b g : Nat) : TF := (F.1, va_up F.2.1 k a, va_up F.2.2.1 k b, va_up F.2.2.2 k g)
def dropF (F : TF) (k : Nat) : TF := (F.1 - 1, fun j => if j < k then F.2.1 j else F.2.1 (j + 1), fun j => if j < k then F.2.2.1 j else F.2.2.1 (j + 1), fun j => if j < k then F.2.2.2 j else F.2.2.2 (j + 1))
theorem ok_addF {F : TF} (ok : okTF F) (h : F.1 < 8) {a b g : Nat} (o : okF a b g) : okTF (addF F a b g) := by
  refine ⟨show F.1 + 1 ≤ 8 by omega, fun k hk => ?_⟩
  have hk : k < F.1 + 1 := hk
  show okF (va_up F.2.1 F.1 a k) (va_up F.2.2.1 F.1 b k) (va_up F.2.2.2 F.1 g k)
  by_cases e : k = F.1
  · rw [e, up_s, up_s, up_s]; exact o
  · rw [up_n _ _ _ _ e, up_n _ _ _ _ e, up_n _ _ _ _ e]; exact ok.2 k (by omega)
theorem ok_setF {F : TF} (ok : okTF F) (k : Nat) {a b g : Nat} (o : okF a b g) : okTF (setF F k a b g) := by
  refine ⟨ok.1, fun j hj => ?_⟩
  have hj : j < F.1 := hj
  show okF (va_up F.2.1 k a j) (va_up F.2.2.1 k b j) (va_up F.2.2.2 k g j)
  by_cases e : j = k
  · rw [e, up_s, up_s, up_s]; exact o
  · rw [up_n _ _ _ _ e, up_n _ _ _ _ e, up_n _ _ _ _ e]; exact ok.2 j hj
theorem ok_dropF {F : TF} (ok : okTF F) {k : Nat} (hk : k < F.1) : okTF (dropF F k) := by
  refine ⟨Nat.le_trans (Nat.sub_le _ _) ok.1, fun j hj => ?_⟩
  have hj : j < F.1 - 1 := hj
  show okF (if j < k then F.2.1 j else F.2.1 (j + 1)) (if j < k then F.2.2.1 j else F.2.2.1 (j + 1)) (if j < k then F.2.2.2 j else F.2.2.2 (j + 1))
  by_cases e : j < k
  · rw [if_pos e, if_pos e, if_pos e]; exact ok.2 j (by omega)
  · rw [if_neg e, if_neg e, if_neg e]; exact ok.2 (j + 1) (by omega)
abbrev D1 (j : Nat) : Prop := 1 ≤ j ∧ j < 11
abbrev E1 (j : Nat) : Prop := j = 1 ∨ j = 2 ∨ j = 3
theorem x_add {S : St} {F : TF} {a b g : Nat} {post : Int32 → St → Prop} (hX : XF S 1 F) (ok : okTF F) (o : okF a b g) (full : F.1 = 8 → post (-3) S) (f : F.1 < 8 → ∀ S' : St, XF S' 1 (addF F a b g) → Fx D1 S S' → post (nI F.1) S') : w_X6_add 1 (nI a) (nI b) (nI g) post S := by
  have h8 := ok.1
  unfold w_X6_add
  rw [hX.1]
  refine pk_lt F.1 8 (fun q => nm_e ⟨in_nI q, ?_⟩) (fun q => full (by omega))
  rw [nI_clamp (show F.1 < 2 ^ 31 by omega)]
  refine s_become o (fun S' hF hx => ?_)
  have e11 : S'.1 1 = S.1 1 := (hx 1 (by omega)).1
  refine nm_r (e' := nI (F.1 + 1)) (by rw [e11, hX.1]; exact nI_1 _) (nm_e ?_)
  rw [sI_s, show nI (F.1 + 1) - 1 = nI F.1 from pk_sub (a := F.1 + 1) (b := 1) (by omega)]
  refine f q _ ⟨sI_s _ _ _ _, fun k hk => ?_⟩ (Fx.I (hx.mo (fun j e => by show 1 ≤ j ∧ j < 11; omega)) (by show 1 ≤ 1 ∧ 1 < 11; omega))
  have hk : k < F.1 + 1 := hk
  show FrX _ (1 + 1 + 1 + k) (va_up F.2.1 F.1 a k) (va_up F.2.2.1 F.1 b k) (va_up F.2.2.2 F.1 g k)
  have hc : (sI S' 1 1 (nI (F.1 + 1))).1 (1 + 1 + 1 + k) = S'.1 (1 + 1 + 1 + k) := (sI_o S' 1 1 _ _ (by omega)).1
  by_cases e : k = F.1
  · rw [e, up_s, up_s, up_s]
    rw [e] at hc
    exact hF.cp hc
  · rw [up_n _ _ _ _ e, up_n _ _ _ _ e, up_n _ _ _ _ e]
    exact (hX.2 k (by omega)).cp (hc.trans (hx _ (by omega)).1)
theorem m_comes {S : St} {F : TF} {a b g : Nat} {post : Int32 → St → Prop} (hM : MF S F) (h8 : F.1 < 8) (f : ∀ S' : St, MF S' (addF F a b g) → Fm E1 (fun i => i = 0) S S' → post (nI F.1) S') : w_X9_comes (nI a) (nI b) (nI g) post S := by
  unfold w_X9_comes
  refine nm_r hM.1 ⟨in_nI h8, ?_⟩
  rw [nI_clamp (show F.1 < 2 ^ 31 by omega)]
  refine nm_e (nm_r (e' := nI F.1) (by rw [sI_x _ _ _ _ _ _ (by decide)]; exact hM.1) ⟨in_nI h8, ?_⟩)
  rw [nI_clamp (show F.1 < 2 ^ 31 by omega)]
  refine nm_e (nm_r (e' := nI F.1) (by rw [sI_x _ _ _ _ _ _ (by decide), sI_x _ _ _ _ _ _ (by decide)]; exact hM.1) ⟨in_nI h8, ?_⟩)
  rw [nI_clamp (show F.1 < 2 ^ 31 by omega)]
  refine nm_e (nm_r (e' := nI (F.1 + 1)) (by rw [sI_x _ _ _ _ _ _ (by decide), sI_x _ _ _ _ _ _ (by decide), sI_x _ _ _ _ _ _ (by decide), hM.1]; exact nI_1 _) (nm_e ?_))
  rw [sI_s, show nI (F.1 + 1) - 1 = nI F.1 from pk_sub (a := F.1 + 1) (b := 1) (by omega)]
  refine f _ ⟨sI_s _ _ _ _, fun k hk => ?_⟩ (Fm.F (Fm.A (Fm.A (Fm.A Fm.rf (Or.inl rfl) (by decide)) (Or.inr (Or.inl rfl)) (by decide)) (Or.inr (Or.inr rfl)) (by decide)) rfl)
  have hk : k < F.1 + 1 := hk
  show _ = nI (va_up F.2.1 F.1 a k) ∧ _ = nI (va_up F.2.2.1 F.1 b k) ∧ _ = nI (va_up F.2.2.2 F.1 g k)
  by_cases e : k = F.1
  · rw [e]; simp [sI_1, va_up]
  · have hh := hM.2 k (by omega)
    simp [sI_1, va_up, e, hh]
/-! fraction -/
def vF (v1 v2 v3 : Int32) : Prop := (0 ≤ v1 ∧ v1 ≤ 9999) ∧ (1 ≤ v2 ∧ v2 ≤ 999) ∧ ∃ g, 2 ≤ g ∧ g < 17 ∧ v3 = nI g
noncomputable def q_fraction (F : TF) (v1 v2 v3 : Int32) : Int32 × TF := cif (vF v1 v2 v3) (if F.1 = 8 then (-3, F) else (nI F.1, addF F (cl v1) (cl v2) (cl v3))) (-1, F)
theorem vF.nums {v1 v2 v3 : Int32} (h : vF v1 v2 v3) : okF (cl v1) (cl v2) (cl v3) ∧ v1 = nI (cl v1) ∧ v2 = nI (cl v2) ∧ v3 = nI (cl v3) := by
  obtain ⟨⟨h1, h2⟩, ⟨h3, h4⟩, g, h5, h6, rfl⟩ := h
  obtain ⟨a, -, ha, rfl⟩ := i_between (l := 0) (h := 9999) rfl rfl h1 h2
  obtain ⟨b, hb, hb2, rfl⟩ := i_between (l := 1) (h := 999) rfl rfl h3 h4
  show okF (nI a).toNatClampNeg (nI b).toNatClampNeg (nI g).toNatClampNeg ∧ nI a = nI (nI a).toNatClampNeg ∧ nI b = nI (nI b).toNatClampNeg ∧ nI g = nI (nI g).toNatClampNeg
  rw [nI_clamp (show a < 2 ^ 31 by omega), nI_clamp (show b < 2 ^ 31 by omega), nI_clamp (show g < 2 ^ 31 by omega)]
  exact ⟨⟨by omega, by omega, by omega, h5, h6⟩, rfl, rfl, rfl⟩
theorem ok_fraction {F : TF} (ok : okTF F) (v1 v2 v3 : Int32) : okTF (q_fraction F v1 v2 v3).2 := by
  unfold q_fraction
  by_cases h : vF v1 v2 v3
  · rw [cif_pos h]
    by_cases e : F.1 = 8
    · rw [if_pos e]; exact ok
    · rw [if_neg e]; exact ok_addF ok (by have := ok.1; omega) h.nums.1
  · rw [cif_neg h]; exact ok
theorem x_fraction {S : St} {F : TF} {v1 v2 v3 : Int32} {post : Int32 → St → Prop} (hX : XF S 1 F) (ok : okTF F) (h : ∀ S' : St, XF S' 1 (q_fraction F v1 v2 v3).2 → Fx D1 S S' → post (q_fraction F v1 v2 v3).1 S') : w_X8_fraction v1 v2 v3 post S := by
  have bad : ¬ vF v1 v2 v3 → post (-1) S := fun q => by
    unfold q_fraction at h
    rw [cif_neg q] at h
    exact h S hX Fx.rf
  unfold w_X8_fraction
  refine s_isWithin (fun a1 a2 => br_f (by decide) ?_) (fun a => br_t rfl (bad (fun q => ?_)))
  · refine s_isWithin (fun b1 b2 => br_f (by decide) ?_) (fun b => br_t rfl (bad (fun q => ?_)))
    · refine s_isBase (fun g g1 g2 e => br_f (by decide) ?_) (fun g => br_t rfl (bad (fun q => ?_)))
      · have hv : vF v1 v2 v3 := ⟨⟨a1, a2⟩, ⟨b1, b2⟩, g, g1, g2, e⟩
        obtain ⟨o, e1, e2, e3⟩ := hv.nums
        unfold q_fraction at h
        rw [cif_pos hv] at h
        rw [e1, e2, e3]
        refine x_add hX ok o (fun q => ?_) (fun q S' hF hx => ?_)
        · rw [if_pos q] at h; exact h S hX Fx.rf
        · rw [if_neg (by omega)] at h; exact h S' hF hx
      · obtain ⟨-, -, g', g1, g2, e⟩ := q
        exact g g' g1 g2 e
    · rcases b with b | b
      · exact absurd q.2.1.1 (Int32.not_le.mpr b)
      · exact absurd q.2.1.2 (Int32.not_le.mpr b)
  · rcases a with a | a
    · exact absurd q.1.1 (Int32.not_le.mpr a)
    · exact absurd q.1.2 (Int32.not_le.mpr a)
theorem m_fraction {S : St} {F : TF} {v1 v2 v3 : Int32} {post : Int32 → St → Prop} (hM : MF S F) (ok : okTF F) (h : ∀ S' : St, MF S' (q_fraction F v1 v2 v3).2 → Fm E1 (fun i => i = 0) S S' → post (q_fraction F v1 v2 v3).1 S') : w_X9_fraction v1 v2 v3 post S := by
  have bad : ¬ vF v1 v2 v3 → post (-1) S := fun q => by
    unfold q_fraction at h
    rw [cif_neg q] at h
    exact h S hM Fm.rf
  have h8 := ok.1
  unfold w_X9_fraction
  refine nm_e (m_in (lo := 0) (hi := 9999) (by decide) (by decide) (fun a1 a2 => br_f (by decide) ?_) (fun a => br_t rfl (bad (fun q => ?_))))
  · refine nm_e (m_in (lo := 1) (hi := 999) (by decide) (by decide) (fun b1 b2 => br_f (by decide) ?_) (fun b => br_t rfl (bad (fun q => ?_))))
    · refine m_isBase (fun g g1 g2 e => br_f (by decide) ?_) (fun g => br_t rfl (bad (fun q => ?_)))
      · have hv : vF v1 v2 v3 := ⟨⟨a1, a2⟩, ⟨b1, b2⟩, g, g1, g2, e⟩
        obtain ⟨o, e1, e2, e3⟩ := hv.nums
        unfold q_fraction at h
        rw [cif_pos hv] at h
        rw [hM.1]
        refine pk_eq F.1 8 (fun q => ?_) (fun q => ?_)
        · rw [if_pos q] at h; exact h S hM Fm.rf
        · rw [if_neg q] at h
          rw [e1, e2, e3]
          exact m_comes hM (by omega) h
      · obtain ⟨-, -, g', g1, g2, e⟩ := q
        exact g g' g1 g2 e
    · rcases b with b | b
      · exact absurd q.2.1.1 (Int32.not_le.mpr b)
      · exact absurd q.2.1.2 (Int32.not_le.mpr b)
  · rcases a with a | a
    · exact absurd q.1.1 (Int32.not_le.mpr a)
    · exact absurd q.1.2 (Int32.not_le.mpr a)
