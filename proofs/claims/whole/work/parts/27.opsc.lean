/-! lowest terms, sum, lowest -/
def addLow (F : TF) (a b g : Nat) : Int32 × TF := if 9999 < a / Nat.gcd a b ∨ 999 < b / Nat.gcd a b then (-6, F) else if F.1 = 8 then (-3, F) else (nI F.1, addF F (a / Nat.gcd a b) (b / Nat.gcd a b) g)
theorem ok_addLow {F : TF} (ok : okTF F) {a b g : Nat} (hb : 0 < b) (hg : 2 ≤ g) (hg2 : g < 17) : okTF (addLow F a b g).2 := by
  unfold addLow
  by_cases h : 9999 < a / Nat.gcd a b ∨ 999 < b / Nat.gcd a b
  · rw [if_pos h]; exact ok
  · rw [if_neg h]
    by_cases e : F.1 = 8
    · rw [if_pos e]; exact ok
    · rw [if_neg e]
      have hp : 0 < b / Nat.gcd a b := Nat.div_pos (Nat.le_of_dvd hb (Nat.gcd_dvd_right a b)) (Nat.gcd_pos_of_pos_right _ hb)
      exact ok_addF ok (by have := ok.1; omega) ⟨by omega, hp, by omega, hg, hg2⟩
theorem x_addLow {S : St} {F : TF} {a b g : Nat} {post : Int32 → St → Prop} (hX : XF S 1 F) (ok : okTF F) (ha : a < 2 ^ 62) (hb : 0 < b) (hb2 : b < 2 ^ 62) (hg : 2 ≤ g) (hg2 : g < 17) (h : ∀ S' : St, XF S' 1 (addLow F a b g).2 → Fx D1 S S' → post (addLow F a b g).1 S') : w_X8_addInLowestTerms (lN a) (lN b) (nI g) post S := by
  have hd := Nat.gcd_pos_of_pos_right a hb
  have hp : 0 < b / Nat.gcd a b := Nat.div_pos (Nat.le_of_dvd hb (Nat.gcd_dvd_right a b)) hd
  have hd2 : Nat.gcd a b ≤ b := Nat.le_of_dvd hb (Nat.gcd_dvd_right a b)
  have q1 : a / Nat.gcd a b ≤ a := Nat.div_le_self _ _
  have q2 : b / Nat.gcd a b ≤ b := Nat.div_le_self _ _
  unfold addLow at h
  unfold w_X8_addInLowestTerms
  refine s_gcd ha hb2 (s_quotient hd (s_quotient hd ?_))
  refine pl_lt 9999 (a / Nat.gcd a b) (fun q => ?_) (fun q => ?_)
  · rw [if_pos (Or.inl q)] at h
    exact h S hX Fx.rf
  · refine pl_le (b / Nat.gcd a b) 999 (fun z => ?_) (fun z => ?_)
    · rw [if_neg (by omega)] at h
      refine nm_r (toI _) (nm_r (toI _) (x_add hX ok ⟨by omega, hp, by omega, hg, hg2⟩ (fun e => ?_) (fun e S' hF hx => ?_)))
      · rw [if_pos e] at h; exact h S hX Fx.rf
      · rw [if_neg (by omega)] at h; exact h S' hF hx
    · rw [if_pos (Or.inr z)] at h
      exact h S hX Fx.rf
theorem m_addLow {S : St} {F : TF} {a b g : Nat} {post : Int32 → St → Prop} (hM : MF S F) (ok : okTF F) (ha : a < 2 ^ 62) (hb : 0 < b) (hb2 : b < 2 ^ 62) (h : ∀ S' : St, MF S' (addLow F a b g).2 → Fm E1 (fun i => i = 0) S S' → post (addLow F a b g).1 S') : w_X9_comesLowest (lN a) (lN b) (nI g) post S := by
  have h8 := ok.1
  have hd := Nat.gcd_pos_of_pos_right a hb
  have hd2 : Nat.gcd a b ≤ b := Nat.le_of_dvd hb (Nat.gcd_dvd_right a b)
  have q1 : a / Nat.gcd a b ≤ a := Nat.div_le_self _ _
  have q2 : b / Nat.gcd a b ≤ b := Nat.div_le_self _ _
  have hz := lN_ne0 hd (show Nat.gcd a b < 2 ^ 63 by omega)
  unfold addLow at h
  unfold w_X9_comesLowest
  refine s_divisor (by omega) (by omega) ⟨hz, ?_⟩
  rw [pk_lDiv (by omega) hd (by omega), pk_lDiv (by omega) hd (by omega), hM.1]
  refine pl_lt 9999 (a / Nat.gcd a b) (fun q => ?_) (fun q => ⟨hz, ?_⟩)
  · rw [if_pos (Or.inl q)] at h
    exact h S hM Fm.rf
  · refine pl_le (b / Nat.gcd a b) 999 (fun z => ?_) (fun z => ?_)
    · rw [if_neg (by omega)] at h
      refine pk_eq F.1 8 (fun e => ?_) (fun e => ⟨hz, hz, ?_⟩)
      · rw [if_pos e] at h; exact h S hM Fm.rf
      · rw [if_neg e] at h
        exact nm_r (toI _) (nm_r (toI _) (m_comes hM (by omega) h))
    · rw [if_pos (Or.inr z)] at h
      exact h S hM Fm.rf
/-! sum -/
noncomputable def q_sum (F : TF) (v w : Int32) : Int32 × TF := cif (iF F v ∧ iF F w) (if F.2.2.2 (cl v) = F.2.2.2 (cl w) then addLow F (F.2.1 (cl v) * F.2.2.1 (cl w) + F.2.1 (cl w) * F.2.2.1 (cl v)) (F.2.2.1 (cl v) * F.2.2.1 (cl w)) (F.2.2.2 (cl v)) else (-5, F)) (-1, F)
theorem ok_sum {F : TF} (ok : okTF F) (v w : Int32) : okTF (q_sum F v w).2 := by
  unfold q_sum
  by_cases h : iF F v ∧ iF F w
  · rw [cif_pos h]
    obtain ⟨⟨k, hk, rfl⟩, ⟨j, hj, rfl⟩⟩ := h
    have h8 := ok.1
    rw [cl_nI (by omega), cl_nI (by omega)]
    by_cases q : F.2.2.2 k = F.2.2.2 j
    · rw [if_pos q]
      exact ok_addLow ok (Nat.mul_pos (ok.2 k hk).2.1 (ok.2 j hj).2.1) (ok.2 k hk).2.2.2.1 (ok.2 k hk).2.2.2.2
    · rw [if_neg q]; exact ok
  · rw [cif_neg h]; exact ok
theorem x_sum {S : St} {F : TF} {v w : Int32} {post : Int32 → St → Prop} (hX : XF S 1 F) (ok : okTF F) (h : ∀ S' : St, XF S' 1 (q_sum F v w).2 → Fx D1 S S' → post (q_sum F v w).1 S') : w_X8_sum v w post S := by
  have h8 := ok.1
  have bad : ¬ (iF F v ∧ iF F w) → post (-1) S := fun q => by
    unfold q_sum at h
    rw [cif_neg q] at h
    exact h S hX Fx.rf
  unfold w_X8_sum
  refine x_at hX ok.1 (fun k hk e => ⟨fun e => by simp at e, fun k3 e3 => ?_⟩) (fun n => ⟨fun _ => ?_, fun k e => by simp at e⟩)
  · cases e3
    refine x_at hX ok.1 (fun j hj e' => ⟨fun e => by simp at e, fun k4 e4 => ?_⟩) (fun n => ⟨fun _ => bad (fun q => iF.no n q.2), fun k e => by simp at e⟩)
    cases e4
    subst e; subst e'
    unfold q_sum at h
    rw [cif_pos ⟨⟨k, hk, rfl⟩, ⟨j, hj, rfl⟩⟩, cl_nI (by omega), cl_nI (by omega)] at h
    have f1 := hX.2 k hk
    have f2 := hX.2 j hj
    have o1 := ok.2 k hk
    have o2 := ok.2 j hj
    have m1 : F.2.1 k * F.2.2.1 j ≤ 10000 * 1000 := mul_bd (by have := o1.1; omega) (by have := o2.2.2.1; omega)
    have m2 : F.2.1 j * F.2.2.1 k ≤ 10000 * 1000 := mul_bd (by have := o2.1; omega) (by have := o1.2.2.1; omega)
    have m3 : F.2.2.1 k * F.2.2.1 j ≤ 1000 * 1000 := mul_bd (by have := o1.2.2.1; omega) (by have := o2.2.2.1; omega)
    rw [f1.2.2.1, f2.2.2.1, f1.1, f2.1, f1.2.1, f2.2.1, pk_mul, pk_mul, pk_mul, nI_add]
    refine pk_eq (F.2.2.2 k) (F.2.2.2 j) (fun q => ?_) (fun q => ?_) (ha := by have := o1.2.2.2.2; omega) (hb := by have := o2.2.2.2.2; omega)
    · rw [if_pos q] at h
      refine nm_e (nm_r (toL (by omega)) (nm_r (toL (by omega)) (nm_e ?_)))
      exact x_addLow hX ok (by omega) (Nat.mul_pos o1.2.1 o2.2.1) (by omega) o1.2.2.2.1 o1.2.2.2.2 h
    · rw [if_neg q] at h
      exact h S hX Fx.rf
  · exact x_at hX ok.1 (fun j hj e' => ⟨fun e => by simp at e, fun k4 e4 => bad (fun q => iF.no n q.1)⟩) (fun _ => ⟨fun _ => bad (fun q => iF.no n q.1), fun k e => by simp at e⟩)
theorem m_sum {S : St} {F : TF} {v w : Int32} {post : Int32 → St → Prop} (hM : MF S F) (ok : okTF F) (h : ∀ S' : St, MF S' (q_sum F v w).2 → Fm E1 (fun i => i = 0) S S' → post (q_sum F v w).1 S') : w_X9_sum v w post S := by
  have h8 := ok.1
  have bad : ¬ (iF F v ∧ iF F w) → post (-1) S := fun q => by
    unfold q_sum at h
    rw [cif_neg q] at h
    exact h S hM Fm.rf
  unfold w_X9_sum
  refine m_isFraction hM ok.1 (fun k hk e => br_f (by decide) ?_) (fun n => br_t rfl (bad (fun q => iF.no n q.1)))
  refine m_isFraction hM ok.1 (fun j hj e' => br_f (by decide) ?_) (fun n => br_t rfl (bad (fun q => iF.no n q.2)))
  subst e; subst e'
  unfold q_sum at h
  rw [cif_pos ⟨⟨k, hk, rfl⟩, ⟨j, hj, rfl⟩⟩, cl_nI (by omega), cl_nI (by omega)] at h
  obtain ⟨f1, f2, f3⟩ := hM.2 k hk
  obtain ⟨g1, g2, g3⟩ := hM.2 j hj
  have o1 := ok.2 k hk
  have o2 := ok.2 j hj
  have ak := o1.1
  have bk := o1.2.2.1
  have gk := o1.2.2.2.2
  have aj := o2.1
  have bj := o2.2.2.1
  have gj := o2.2.2.2.2
  have m1 : F.2.1 k * F.2.2.1 j ≤ 10000 * 1000 := mul_bd (by omega) (by omega)
  have m2 : F.2.1 j * F.2.2.1 k ≤ 10000 * 1000 := mul_bd (by omega) (by omega)
  have m3 : F.2.2.1 k * F.2.2.1 j ≤ 1000 * 1000 := mul_bd (by omega) (by omega)
  rw [nI_clamp (show k < 2 ^ 31 by omega), nI_clamp (show j < 2 ^ 31 by omega), f1, f2, f3, g1, g2, g3, toL (by omega), toL (by omega), toL (by omega), toL (by omega), lN_mul, lN_mul, lN_mul, lN_add]
  have ik : vp_in (nI k) 8 := in_nI (by omega)
  have ij : vp_in (nI j) 8 := in_nI (by omega)
  refine ⟨ik, ij, pk_eq (F.2.2.2 k) (F.2.2.2 j) (fun q => ?_) (fun q => ?_)⟩
  · rw [if_pos q] at h
    refine ⟨ik, ij, ij, ik, nm_e ⟨ik, ij, ik, nm_e (nm_e ?_)⟩⟩
    exact m_addLow hM ok (by omega) (Nat.mul_pos o1.2.1 o2.2.1) (by omega) h
  · rw [if_neg q] at h
    exact h S hM Fm.rf
/-! lowest -/
noncomputable def q_lowest (F : TF) (v : Int32) : Int32 × TF := cif (iF F v) (nI (F.2.2.1 (cl v) / Nat.gcd (F.2.1 (cl v)) (F.2.2.1 (cl v))), setF F (cl v) (F.2.1 (cl v) / Nat.gcd (F.2.1 (cl v)) (F.2.2.1 (cl v))) (F.2.2.1 (cl v) / Nat.gcd (F.2.1 (cl v)) (F.2.2.1 (cl v))) (F.2.2.2 (cl v))) (-1, F)
theorem okF.low {a b g : Nat} (o : okF a b g) : 0 < Nat.gcd a b ∧ Nat.gcd a b ≤ b ∧ okF (a / Nat.gcd a b) (b / Nat.gcd a b) g := by
  have hd := Nat.gcd_pos_of_pos_right a o.2.1
  have hp : 0 < b / Nat.gcd a b := Nat.div_pos (Nat.le_of_dvd o.2.1 (Nat.gcd_dvd_right a b)) hd
  have q1 : a / Nat.gcd a b ≤ a := Nat.div_le_self _ _
  have q2 : b / Nat.gcd a b ≤ b := Nat.div_le_self _ _
  have h1 := o.1
  have h2 := o.2.2.1
  exact ⟨hd, Nat.le_of_dvd o.2.1 (Nat.gcd_dvd_right a b), by omega, hp, by omega, o.2.2.2⟩
theorem ok_lowest {F : TF} (ok : okTF F) (v : Int32) : okTF (q_lowest F v).2 := by
  unfold q_lowest
  by_cases h : iF F v
  · rw [cif_pos h]
    obtain ⟨k, hk, rfl⟩ := h
    have h8 := ok.1
    rw [cl_nI (by omega)]
    exact ok_setF ok k (ok.2 k hk).low.2.2
  · rw [cif_neg h]; exact ok
theorem x_lowest {S : St} {F : TF} {v : Int32} {post : Int32 → St → Prop} (hX : XF S 1 F) (ok : okTF F) (h : ∀ S' : St, XF S' 1 (q_lowest F v).2 → Fx D1 S S' → post (q_lowest F v).1 S') : w_X8_lowest v post S := by
  have h8 := ok.1
  unfold w_X8_lowest
  refine x_at hX ok.1 (fun k hk e => ⟨fun e => by simp at e, fun k3 e3 => ?_⟩) (fun n => ⟨fun _ => ?_, fun k e => by simp at e⟩)
  · cases e3
    subst e
    unfold q_lowest at h
    rw [cif_pos ⟨k, hk, rfl⟩, cl_nI (by omega)] at h
    have hF := hX.2 k hk
    have o := ok.2 k hk
    obtain ⟨hd, hd2, o2⟩ := o.low
    have h1 := o.1
    have h2 := o.2.2.1
    refine nm_r (e' := lN (F.2.1 k)) (by rw [hF.1]; exact toL (by omega)) (nm_r (e' := lN (F.2.2.1 k)) (by rw [hF.2.1]; exact toL (by omega)) (s_gcd (by omega) (by omega) ?_))
    refine nm_r (e' := lN (F.2.1 k)) (by rw [hF.1]; exact toL (by omega)) (s_quotient hd ?_)
    refine nm_r (e' := lN (F.2.2.1 k)) (by rw [hF.2.1]; exact toL (by omega)) (s_quotient hd ?_)
    refine nm_r (toI _) (nm_r (toI _) (nm_r hF.2.2.1 (s_become o2 (fun S' hF' hx => ?_))))
    rw [hF'.2.1]
    exact h S' (hX.set hk hF' hx) (hx.mo (fun j e => by show 1 ≤ j ∧ j < 11; omega))
  · unfold q_lowest at h
    rw [cif_neg (iF.no n)] at h
    exact h S hX Fx.rf
theorem m_lowest {S : St} {F : TF} {v : Int32} {post : Int32 → St → Prop} (hM : MF S F) (ok : okTF F) (h : ∀ S' : St, MF S' (q_lowest F v).2 → Fm E1 (fun i => i = 0) S S' → post (q_lowest F v).1 S') : w_X9_lowest v post S := by
  have h8 := ok.1
  unfold w_X9_lowest
  refine m_isFraction hM ok.1 (fun k hk e => br_f (by decide) ?_) (fun n => br_t rfl ?_)
  · subst e
    unfold q_lowest at h
    rw [cif_pos ⟨k, hk, rfl⟩, cl_nI (by omega)] at h
    obtain ⟨e1, e2, e3⟩ := hM.2 k hk
    have o := ok.2 k hk
    obtain ⟨hd, hd2, o2⟩ := o.low
    have h1 := o.1
    have h2 := o.2.2.1
    have ik : vp_in (nI k) 8 := in_nI (by omega)
    rw [nI_clamp (show k < 2 ^ 31 by omega)]
    refine ⟨ik, ik, nm_r (e' := lN (F.2.1 k)) (by rw [e1]; exact toL (by omega)) (nm_r (e' := lN (F.2.2.1 k)) (by rw [e2]; exact toL (by omega)) (s_divisor (by omega) (by omega) ?_))⟩
    have hz := nI_ne0 hd (show Nat.gcd (F.2.1 k) (F.2.2.1 k) < 2 ^ 31 by omega)
    refine nm_r (toI _) ⟨ik, hz, nm_r (e' := nI (F.2.1 k / Nat.gcd (F.2.1 k) (F.2.2.1 k))) (by rw [e1, pk_div (by omega) hd (by omega)]) ⟨ik, nm_e ⟨ik, hz, ?_⟩⟩⟩
    refine nm_r (e' := nI (F.2.2.1 k / Nat.gcd (F.2.1 k) (F.2.2.1 k))) (by rw [sI_x _ _ _ _ _ _ (by decide), e2, pk_div (by omega) hd (by omega)]) ⟨ik, nm_e ⟨ik, ?_⟩⟩
    rw [sI_s]
    refine h _ ⟨by simp [sI_1]; exact hM.1, fun j hj => ?_⟩ (Fm.A (Fm.A Fm.rf (Or.inl rfl) (by decide)) (Or.inr (Or.inl rfl)) (by decide))
    have hj : j < F.1 := hj
    show _ = nI (va_up F.2.1 k _ j) ∧ _ = nI (va_up F.2.2.1 k _ j) ∧ _ = nI (va_up F.2.2.2 k _ j)
    by_cases e : j = k
    · subst e; simp [sI_1, va_up, e3]
    · have hh := hM.2 j hj
      simp [sI_1, va_up, e, hh]
  · unfold q_lowest at h
    rw [cif_neg (iF.no n)] at h
    exact h S hM Fm.rf
