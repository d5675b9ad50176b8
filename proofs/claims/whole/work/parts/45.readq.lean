/-! read, both sides -/
theorem rdE_bd {T : TT} {i x y a b : Nat} (h : rdE T i x y = .inr (a, b)) : a = x ∧ b = y := by
  unfold rdE at h
  by_cases q : i = T.1
  · rw [if_pos q] at h
    simp only [Sum.inr.injEq, Prod.mk.injEq] at h
    exact ⟨h.1.symm, h.2.symm⟩
  · rw [if_neg q] at h; simp at h
theorem rdN_bd {T : TT} {g a b : Nat} (hg : 2 ≤ g) (hg2 : g < 17) (h : rdN T g = .inr (a, b)) : a < 2 ^ 62 ∧ 0 < b ∧ b < 2 ^ 62 := by
  have hc := tkd_le T g 4 0 0 0
  have hlt := tkd_lt T g 4 0 0 0 0 (by simp)
  unfold rdN at h
  have hc2 := tkd_le T g 4 ((tkd T g 4 0 0 0).1 + 1) 0 (tkd T g 4 0 0 0).2
  have hlt2 := tkd_lt T g 4 ((tkd T g 4 0 0 0).1 + 1) 0 (tkd T g 4 0 0 0).2 _ hlt
  generalize tkd T g 4 0 0 0 = p at *
  generalize tkd T g 4 (p.1 + 1) 0 p.2 = p2 at *
  have b1 : p.2 < 17 ^ 4 := Nat.lt_of_lt_of_le hlt (pow_bd hg2 (by omega))
  have b2 : p2.2 < 17 ^ 8 := Nat.lt_of_lt_of_le hlt2 (pow_bd hg2 (by omega))
  have g0 : 0 < g ^ p2.1 := Nat.pow_pos (by omega)
  have g1 : g ^ p2.1 ≤ 17 ^ 4 := pow_bd hg2 (by omega)
  by_cases q : p.1 = 0
  · rw [if_pos q] at h; simp at h
  rw [if_neg q] at h
  by_cases z : isC T p.1 46
  · rw [cif_pos z] at h
    unfold rdF at h
    by_cases y : isC T (p.1 + 1 + p2.1) 40
    · rw [cif_pos y] at h
      unfold rdP at h
      have hc3 := tkd_le T g 4 (p.1 + 1 + p2.1 + 1) 0 0
      have hlt3 := tkd_lt T g 4 (p.1 + 1 + p2.1 + 1) 0 0 0 (by simp)
      generalize tkd T g 4 (p.1 + 1 + p2.1 + 1) 0 0 = p3 at *
      have b3 : p3.2 < 17 ^ 4 := Nat.lt_of_lt_of_le hlt3 (pow_bd hg2 (by omega))
      by_cases r : p3.1 = 0
      · rw [if_pos r] at h; simp at h
      rw [if_neg r] at h
      by_cases x : isC T (p.1 + 1 + p2.1 + 1 + p3.1) 41
      · rw [cif_pos x] at h
        obtain ⟨rfl, rfl⟩ := rdE_bd h
        have g3 : g ^ p3.1 ≤ 17 ^ 4 := pow_bd hg2 (by omega)
        have g4 : g ^ 1 ≤ g ^ p3.1 := Nat.pow_le_pow_right (by omega) (by omega)
        rw [Nat.pow_one] at g4
        have m1 : p2.2 * (g ^ p3.1 - 1) ≤ 17 ^ 8 * 17 ^ 4 := mul_bd (by omega) (by omega)
        have m2 : g ^ p2.1 * (g ^ p3.1 - 1) ≤ 17 ^ 4 * 17 ^ 4 := mul_bd (by omega) (by omega)
        exact ⟨by omega, Nat.mul_pos g0 (by omega), by omega⟩
      · rw [cif_neg x] at h; simp at h
    · rw [cif_neg y] at h
      by_cases r : p2.1 = 0
      · rw [if_pos r] at h; simp at h
      · rw [if_neg r] at h
        obtain ⟨rfl, rfl⟩ := rdE_bd h
        exact ⟨by omega, g0, by omega⟩
  · rw [cif_neg z] at h
    obtain ⟨rfl, rfl⟩ := rdE_bd h
    exact ⟨by omega, by omega, by omega⟩
def rdR (F : TF) (g : Nat) : Nat ⊕ (Nat × Nat) → Int32 × TF
  | .inl p => (-1000 - nI p, F)
  | .inr ab => addLow F ab.1 ab.2 g
noncomputable def q_read (F : TF) (T : TT) (v : Int32) : Int32 × TF × TT := cif (isB v) ((rdR F (cl v) (rdN T (cl v))).1, (rdR F (cl v) (rdN T (cl v))).2, (0, T.2)) (-1, F, T)
theorem ok_read {F : TF} (ok : okTF F) (T : TT) (v : Int32) (okt : okTT T) : okTF (q_read F T v).2.1 ∧ okTT (q_read F T v).2.2 := by
  unfold q_read
  by_cases h : isB v
  · rw [cif_pos h]
    obtain ⟨g, g1, g2, rfl⟩ := h
    rw [cl_nI (by omega)]
    refine ⟨?_, ⟨by show 0 ≤ 80; omega, fun i hi => absurd hi (Nat.not_lt_zero i)⟩⟩
    cases e : rdN T g with
    | inl p => exact ok
    | inr ab => exact ok_addLow ok (rdN_bd (a := ab.1) (b := ab.2) g1 g2 e).2.1 g1 g2
  · rw [cif_neg h]; exact ⟨ok, okt⟩
abbrev scRx (j : Nat) : Prop := (1 ≤ j ∧ j < 11) ∨ j = 27 ∨ j = 28 ∨ j = 29
theorem x_read {S : St} {F : TF} {T : TT} {v : Int32} {post : Int32 → St → Prop} (hX : XF S 1 F) (ok : okTF F) (hT : XT S T) (okt : okTT T) (h : ∀ S' : St, XF S' 1 (q_read F T v).2.1 → XT S' (q_read F T v).2.2 → Fx scRx S S' → post (q_read F T v).1 S') : w_X8_read v post S := by
  unfold w_X8_read
  refine s_isBase (fun g g1 g2 eg => br_f (by decide) ?_) (fun z => br_t rfl ?_)
  · subst eg
    unfold q_read at h
    rw [cif_pos ⟨g, g1, g2, rfl⟩, cl_nI (by omega)] at h
    refine x_parse hT okt g1 g2 (fun S1 hT1 hx1 => ⟨fun p e hp => ?_, fun a b e e0 e1 => ?_⟩)
    · rw [e] at h
      refine x_clear (T := T) (fun S2 hT2 hx2 => br_f (fun z => nI_ne_m1 (by omega) z) (h S2 ?_ hT2 ?_))
      · exact hX.cp ok.1 (fun j j1 j2 => by rw [(hx2 j (by omega)).1, (hx1 j (by omega)).1])
      · exact (hx1.mo (fun j e => by show _ ∨ _; omega)).tr (hx2.mo (fun j e => by show _ ∨ _; omega))
    · rw [e] at h
      obtain ⟨b1, b2, b3⟩ := rdN_bd g1 g2 e
      refine x_clear (T := T) (fun S2 hT2 hx2 => br_t rfl (nm_r (e' := lN a) (by rw [(hx2 29 (by omega)).2]; exact e0) (nm_r (e' := lN b) (by rw [(hx2 29 (by omega)).2]; exact e1) ?_)))
      have hX2 := hX.cp ok.1 (fun j j1 j2 => by rw [(hx2 j (by omega)).1, (hx1 j (by omega)).1] : ∀ j, 1 ≤ j → j < 1 + 10 → S2.1 j = S.1 j)
      refine x_addLow hX2 ok b1 b2 b3 g1 g2 (fun S3 hX3 hx3 => h S3 hX3 (hT2.cp ?_ ?_) (((hx1.mo (fun j e => by show _ ∨ _; omega)).tr (hx2.mo (fun j e => by show _ ∨ _; omega))).tr (hx3.mo (fun j e => by show _ ∨ _; omega))))
      · rw [(hx3 27 (by omega)).1]
      · rw [(hx3 28 (by omega)).1]
  · unfold q_read at h
    rw [cif_neg (isB.no z)] at h
    exact h S hX hT Fx.rf
abbrev scRn (i : Nat) : Prop := i = 0 ∨ i = 21 ∨ i = 22 ∨ i = 23 ∨ i = 26
theorem m_read {S : St} {F : TF} {T : TT} {v : Int32} {post : Int32 → St → Prop} (hM : MF S F) (ok : okTF F) (hT : MT S T) (okt : okTT T) (h : ∀ S' : St, MF S' (q_read F T v).2.1 → MT S' (q_read F T v).2.2 → Fm E1 scRn S S' → post (q_read F T v).1 S') : w_X9_read v post S := by
  unfold w_X9_read
  refine m_isBase (fun g g1 g2 eg => br_f (by decide) ?_) (fun z => br_t rfl ?_)
  · subst eg
    unfold q_read at h
    rw [cif_pos ⟨g, g1, g2, rfl⟩, cl_nI (by omega)] at h
    refine nm_r hT.1 (nm_e (nm_e (nm_e ?_)))
    have hx0 : Fm E1 scRn S (sI (sI (sI S 0 22 (nI T.1)) 0 21 0) 0 23 0) := Fm.F (Fm.F (Fm.F Fm.rf (by simp [scRn])) (by simp [scRn])) (by simp [scRn])
    have t0 : TpM (sI (sI (sI S 0 22 (nI T.1)) 0 21 0) 0 23 0) T 0 := ⟨by simp [sI_1], fun j hj => by simp [sI_1]; exact hT.2 j hj, sI_s _ _ _ _⟩
    have f0 : (sI (sI (sI S 0 22 (nI T.1)) 0 21 0) 0 23 0).1 0 21 = 0 := by simp [sI_1]
    have m0 : MF (sI (sI (sI S 0 22 (nI T.1)) 0 21 0) 0 23 0) F := hM.cp (by simp [sI_1]) (by funext i; simp [sI_1]) (by funext i; simp [sI_1]) (by funext i; simp [sI_1])
    generalize sI (sI (sI S 0 22 (nI T.1)) 0 21 0) 0 23 0 = S0 at *
    refine m_numeral t0 okt g1 g2 (fun S1 hx1 => ⟨fun p e hp ep => ?_, fun a b e e0 e1 => ?_⟩)
    · rw [e] at h
      have hx2 : Fm E1 scRn S S1 := hx0.tr (hx1.mo (fun _ e => e.elim) (fun i e => by show _ ∨ _; omega))
      have m1 : MF S1 F := m0.cp (hx1.2 0 (by omega)) (hx1.1 1 (by decide) (fun e => e)) (hx1.1 2 (by decide) (fun e => e)) (hx1.1 3 (by decide) (fun e => e))
      refine br_t rfl ?_
      rw [ep]
      exact h S1 m1 ⟨by rw [hx1.2 21 (by omega), f0]; rfl, fun i hi => absurd hi (Nat.not_lt_zero i)⟩ hx2
    · rw [e] at h
      obtain ⟨b1, b2, b3⟩ := rdN_bd g1 g2 e
      have hx2 : Fm E1 scRn S S1 := hx0.tr (hx1.mo (fun _ e => e.elim) (fun i e => by show _ ∨ _; omega))
      have m1 : MF S1 F := m0.cp (hx1.2 0 (by omega)) (hx1.1 1 (by decide) (fun e => e)) (hx1.1 2 (by decide) (fun e => e)) (hx1.1 3 (by decide) (fun e => e))
      refine br_f (by decide) (nm_r e0 (nm_r e1 (m_addLow m1 ok b1 b2 b3 (fun S2 hM2 hx3 => h S2 hM2 ⟨?_, fun i hi => absurd hi (Nat.not_lt_zero i)⟩ (hx2.tr (hx3.mo (fun _ e => e) (fun i e => by show _ ∨ _; omega)))))))
      rw [hx3.2 21 (by omega), hx1.2 21 (by omega), f0]; rfl
  · unfold q_read at h
    rw [cif_neg (isB.no z)] at h
    exact h S hM hT Fm.rf
