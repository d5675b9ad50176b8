/-! read -/
theorem tpm_next {S : St} {T : TT} {i : Nat} (h : TpM S T i) : TpM (sI S 0 23 (nI (i + 1))) T (i + 1) :=
  ⟨by rw [sI_n _ _ _ _ _ (by decide)]; exact h.1, fun j hj => by rw [sI_x _ _ _ _ _ _ (by decide)]; exact h.2.1 j hj, sI_s _ _ _ _⟩
theorem m_numeral {S : St} {T : TT} {g : Nat} {post : Int32 → St → Prop} (hT : TpM S T 0) (ok : okTT T) (hg : 2 ≤ g) (hg2 : g < 17) (h : MG S post (rdN T g)) : w_X9_isNumeral (nI g) post S := by
  have h8 := ok.1
  have hc := tkd_le T g 4 0 0 0
  have hin := tkd_in T g hg2 4 0 0 0 (Nat.zero_le _)
  unfold w_X9_isNumeral
  refine m_readsDigits hT ok hg hg2 (Nat.zero_le _) (fun S1 t1 t2 t3 t4 t5 t6 hx => ?_)
  unfold rdN at h
  simp only [Nat.zero_add, Nat.sub_zero] at hin t1
  have hin2 : (tkd T g 4 0 0 0).1 + 1 ≤ T.1 → (tkd T g 4 0 0 0).1 + 1 + ((tkd T g 4 ((tkd T g 4 0 0 0).1 + 1) 0 0).1 - 0) ≤ T.1 := fun z => tkd_in T g hg2 4 _ 0 0 z
  have hc2 := tkd_le T g 4 ((tkd T g 4 0 0 0).1 + 1) 0 0
  have hl := tkd_lin T g 4 ((tkd T g 4 0 0 0).1 + 1) 0 (tkd T g 4 0 0 0).2 0 0
  simp only [Nat.pow_zero, Nat.mul_one, Nat.add_zero, Nat.zero_add, Nat.sub_zero] at hl
  rw [hl.1, hl.2] at h
  clear hl
  generalize tkd T g 4 0 0 0 = p at *
  refine pk_eq p.1 0 (fun q => ?_) (fun q => ?_) (hx := t2)
  · rw [if_pos q] at h
    exact (h S1 hx).1 0 rfl (by omega) (by rw [t1.2.2, q])
  · rw [if_neg q] at h
    refine nm_r t3 (nm_e (nm_e ?_))
    have hx1 : Fm sc0 scRe S (sL (sL S1 0 27 (lN p.2)) 0 28 1) := hx
    refine m_isC (c := 46) (T := T) (i := p.1) t1 ok (by omega) (by omega) (fun z => br_f (by decide) ?_) (fun z => br_t rfl ?_)
    · rw [cif_pos z] at h
      have hz := z.1
      refine nm_r (e' := nI (p.1 + 1)) (by show S1.1 0 23 + 1 = _; rw [t1.2.2]; exact nI_1 _) (nm_e ?_)
      refine m_readsDigits (tpm_next (show TpM (sL (sL S1 0 27 (lN p.2)) 0 28 1) T p.1 from t1)) ok hg hg2 (by omega) (fun S2 u1 u2 u3 u4 u5 u6 hy => ?_)
      have hx2 : Fm sc0 scRe S S2 := (Fm.F hx1 (Or.inl rfl)).tr hy
      have hin3 := hin2 (by omega)
      have u5' : S2.2 0 27 = lN p.2 := by rw [u5]; simp [sL_2, sI_2]
      generalize tkd T g 4 (p.1 + 1) 0 0 = p2 at *
      refine nm_r u2 (nm_r (e' := lN (p.2 * g ^ p2.1 + p2.2)) (by rw [u5', u4, u3, lN_mul, lN_add]) (nm_e (nm_r (e' := lN (g ^ p2.1)) (by simp only [sL_2]; rw [if_neg (by decide)]; exact u4) (nm_e ?_))))
      have u7 : TpM (sL (sL S2 0 27 (lN (p.2 * g ^ p2.1 + p2.2))) 0 28 (lN (g ^ p2.1))) T (p.1 + 1 + p2.1) := u1
      have hx3 : Fm sc0 scRe S (sL (sL S2 0 27 (lN (p.2 * g ^ p2.1 + p2.2))) 0 28 (lN (g ^ p2.1))) := hx2
      have v27 : (sL (sL S2 0 27 (lN (p.2 * g ^ p2.1 + p2.2))) 0 28 (lN (g ^ p2.1))).2 0 27 = lN (p.2 * g ^ p2.1 + p2.2) := by simp [sL_2]
      have v28 : (sL (sL S2 0 27 (lN (p.2 * g ^ p2.1 + p2.2))) 0 28 (lN (g ^ p2.1))).2 0 28 = lN (g ^ p2.1) := by simp [sL_2]
      generalize sL (sL S2 0 27 (lN (p.2 * g ^ p2.1 + p2.2))) 0 28 (lN (g ^ p2.1)) = S3 at *
      unfold rdF at h
      refine m_isC (c := 40) u7 ok (by omega) (by omega) (fun y => br_f (by decide) ?_) (fun y => br_t rfl ?_)
      · rw [cif_pos y] at h
        have hy2 := y.1
        refine nm_r (e' := nI (p.1 + 1 + p2.1 + 1)) (by rw [u7.2.2]; exact nI_1 _) (nm_e ?_)
        unfold rdP at h
        have hin4 := tkd_in T g hg2 4 (p.1 + 1 + p2.1 + 1) 0 0 (by omega)
        have hc4 := tkd_le T g 4 (p.1 + 1 + p2.1 + 1) 0 0
        refine m_readsDigits (tpm_next u7) ok hg hg2 (by omega) (fun S4 w1 w2 w3 w4 w5 w6 hw => ?_)
        have hx4 : Fm sc0 scRe S S4 := (Fm.F hx3 (Or.inl rfl)).tr hw
        have w5' : S4.2 0 27 = lN (p.2 * g ^ p2.1 + p2.2) := by rw [w5, sI_2]; exact v27
        have w6' : S4.2 0 28 = lN (g ^ p2.1) := by rw [w6, sI_2]; exact v28
        generalize tkd T g 4 (p.1 + 1 + p2.1 + 1) 0 0 = p3 at *
        refine pk_eq p3.1 0 (fun r => ?_) (fun r => ?_) (hx := w2)
        · rw [if_pos r] at h
          exact (h S4 hx4).1 _ rfl (by omega) (by rw [w1.2.2, r])
        · rw [if_neg r] at h
          refine m_isC (c := 41) w1 ok (by omega) (by omega) (fun x => br_f (by decide) ?_) (fun x => br_t rfl ?_)
          · rw [cif_pos x] at h
            have hp : 0 < g ^ p3.1 := Nat.pow_pos (by omega)
            have e1 : lN (g ^ p3.1) - 1 = lN (g ^ p3.1 - 1) := lN_sub (a := g ^ p3.1) (b := 1) hp
            have w1' := tpm_next w1
            refine nm_r (e' := nI (p.1 + 1 + p2.1 + 1 + p3.1 + 1)) (by rw [w1.2.2]; exact nI_1 _) (nm_e (nm_r (e' := lN ((p.2 * g ^ p2.1 + p2.2) * (g ^ p3.1 - 1) + p3.2)) (by rw [sI_2, w5', w4, w3, e1, lN_mul, lN_add]) (nm_e (nm_r (e' := lN (g ^ p2.1 * (g ^ p3.1 - 1))) (by simp only [sL_2, sI_2]; rw [if_neg (by decide), if_neg (by decide), w6', w4, e1, lN_mul]) (nm_e ?_)))))
            exact m_end (S0 := S) (i := p.1 + 1 + p2.1 + 1 + p3.1 + 1) w1' ok (by have := x.1; omega) (by simp [sL_2]) (by simp [sL_2]) (Fm.L (Fm.L (Fm.F hx4 (Or.inl rfl)))) h
          · rw [cif_neg x] at h
            exact (h S4 hx4).1 _ rfl (by omega) w1.2.2
      · rw [cif_neg y] at h
        refine pk_le p2.1 0 (fun r => ?_) (fun r => ?_)
        · rw [if_pos (by omega)] at h
          exact (h S3 hx3).1 _ rfl (by omega) u7.2.2
        · rw [if_neg (by omega)] at h
          exact m_end (S0 := S) u7 ok (by omega) v27 v28 hx3 h
    · rw [cif_neg z] at h
      exact m_end (S0 := S) (i := p.1) (b := 1) (show TpM (sL (sL S1 0 27 (lN p.2)) 0 28 1) T p.1 from t1) ok (by omega) (by simp [sL_2]) (by simp [sL_2]; rfl) hx1 h
