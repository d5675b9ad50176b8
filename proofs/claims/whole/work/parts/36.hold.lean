/-! holders -/
def iH (v : Int32) : Prop := ∃ n, n < 6 ∧ v = nI n
theorem x_holderAt {S : St} {v : Int32} {post : Option Nat → St → Prop} (f : ∀ n, n < 6 → v = nI n → post (some (33 + 1 + 3 * n)) S) (g : ¬ iH v → post none S) : w_X8_holderAt v post S := by
  unfold w_X8_holderAt
  rcases i_or v with h | ⟨k, hk, rfl⟩
  · exact br_t h (g (fun ⟨n, hn, e⟩ => by rw [e] at h; exact nI_pos (by omega) h))
  · refine br_f (nI_pos hk) (pk_le 6 k (fun q => g (fun ⟨n, hn, e⟩ => by have := nI_inj e; omega)) (fun q => ⟨in_nI q, ?_⟩))
    rw [nI_clamp hk]
    exact f k q rfl
theorem m_isHolder {S : St} {v : Int32} {post : Int32 → St → Prop} (f : ∀ n, n < 6 → v = nI n → post 1 S) (g : ¬ iH v → post 0 S) : w_X9_isHolder v post S := by
  unfold w_X9_isHolder
  refine nm_e (m_in (lo := 0) (hi := 5) (by decide) (by decide) (fun a1 a2 => ⟨bz_1, ?_⟩) (fun a => ⟨bz_0, g (fun ⟨n, hn, e⟩ => i_outside (l := 0) (h := 5) rfl rfl a (Nat.zero_le n) (by omega) (by omega) e)⟩))
  obtain ⟨n, -, n2, rfl⟩ := i_between (l := 0) (h := 5) rfl rfl a1 a2
  exact f n (by omega) rfl
theorem i_less {v : Int32} {l : Nat} (hl : l < 2 ^ 30) (h1 : 0 ≤ v) (h2 : v ≤ nI l - 1) : ∃ n, n < l ∧ v = nI n := by
  rcases i_or v with h | ⟨k, hk, rfl⟩
  · exact absurd h (Int32.not_lt.mpr h1)
  · refine ⟨k, ?_, rfl⟩
    rw [Int32.le_iff_toInt_le, nI_toInt hk, show nI l - 1 = nI l - nI 1 from rfl, pk_sub_toInt (by omega) (by omega)] at h2
    omega
theorem i_nless {v : Int32} {l n : Nat} (hl : l < 2 ^ 30) (h : v < 0 ∨ nI l - 1 < v) (hn : n < l) : v ≠ nI n := by
  intro e
  subst e
  rcases h with h | h
  · exact nI_pos (by omega) h
  · rw [Int32.lt_iff_toInt_lt, nI_toInt (by omega), show nI l - 1 = nI l - nI 1 from rfl, pk_sub_toInt (by omega) (by omega)] at h
    omega
theorem xh_set {S S' : St} {H : TH} {h : Nat} {t : Nat × Nat × Nat × Nat × Nat × (Nat → Int32)} (hX : XH S H) (hf : ∀ j, 34 ≤ j → j < 52 → j ≠ 33 + 1 + 3 * h → j ≠ 33 + 1 + 3 * h + 1 → j ≠ 33 + 1 + 3 * h + 2 → S'.1 j = S.1 j) (n1 : S'.1 (33 + 1 + 3 * h) 0 = nI t.1) (n2 : t.1 = 1 → FrX S' (33 + 1 + 3 * h + 1) t.2.1 t.2.2.1 t.2.2.2.1) (n3 : t.1 = 2 → S'.1 (33 + 1 + 3 * h) 3 = nI t.2.2.2.2.1 ∧ ∀ i, i < t.2.2.2.2.1 → S'.1 (33 + 1 + 3 * h + 2) i = t.2.2.2.2.2 i) : XH S' (va_up H h t) := by
  intro k hk
  by_cases e : k = h
  · subst e
    rw [up_s]
    exact ⟨n1, n2, n3⟩
  · have e2 : va_up H h t k = H k := by simp [va_up, e]
    rw [e2]
    obtain ⟨h1, h2, h3⟩ := hX k hk
    have f0 := hf (33 + 1 + 3 * k) (by omega) (by omega) (by omega) (by omega) (by omega)
    have f1 := hf (33 + 1 + 3 * k + 1) (by omega) (by omega) (by omega) (by omega) (by omega)
    have f2 := hf (33 + 1 + 3 * k + 2) (by omega) (by omega) (by omega) (by omega) (by omega)
    rw [f0, f2]
    exact ⟨h1, fun q => (h2 q).cp f1, h3⟩
theorem mh_set {S S' : St} {H : TH} {h : Nat} {t : Nat × Nat × Nat × Nat × Nat × (Nat → Int32)} (hM : MH S H) (hok : okTH H) (hf : ∀ k, k < 6 → k ≠ h → S'.1 15 k = S.1 15 k ∧ S'.1 16 k = S.1 16 k ∧ S'.1 17 k = S.1 17 k ∧ S'.1 18 k = S.1 18 k ∧ S'.1 19 k = S.1 19 k ∧ ∀ i, i < 40 → S'.1 20 (40 * k + i) = S.1 20 (40 * k + i)) (n1 : S'.1 15 h = nI t.1) (n2 : t.1 = 1 → S'.1 16 h = nI t.2.1 ∧ S'.1 17 h = nI t.2.2.1 ∧ S'.1 18 h = nI t.2.2.2.1) (n3 : t.1 = 2 → S'.1 19 h = nI t.2.2.2.2.1 ∧ ∀ i, i < t.2.2.2.2.1 → S'.1 20 (40 * h + i) = t.2.2.2.2.2 i) : MH S' (va_up H h t) := by
  intro k hk
  by_cases e : k = h
  · subst e
    rw [up_s]
    exact ⟨n1, n2, n3⟩
  · have e2 : va_up H h t k = H k := by simp [va_up, e]
    rw [e2]
    obtain ⟨h1, h2, h3⟩ := hM k hk
    obtain ⟨g1, g2, g3, g4, g5, g6⟩ := hf k hk e
    rw [g1, g2, g3, g4, g5]
    refine ⟨h1, h2, fun q => ⟨(h3 q).1, fun i hi => ?_⟩⟩
    rw [g6 i (by have := (hok k hk).2.2 q; omega)]
    exact (h3 q).2 i hi
theorem ok_setH {H : TH} (ok : okTH H) (h : Nat) {t : Nat × Nat × Nat × Nat × Nat × (Nat → Int32)} (h1 : t.1 ≤ 2) (h2 : t.1 = 1 → okF t.2.1 t.2.2.1 t.2.2.2.1) (h3 : t.1 = 2 → t.2.2.2.2.1 ≤ 40) : okTH (va_up H h t) := by
  intro k hk
  by_cases e : k = h
  · subst e; rw [up_s]; exact ⟨h1, h2, h3⟩
  · rw [show va_up H h t k = H k by simp [va_up, e]]; exact ok k hk
/-- a held fraction is looked at -/
abbrev scHm (j : Nat) : Prop := j = 4 ∨ j = 5 ∨ j = 6 ∨ j = 15 ∨ j = 16 ∨ j = 17 ∨ j = 18 ∨ j = 19 ∨ j = 20
theorem D_H : ∀ j, scD j → scHm j := fun j e => by unfold scD at e; show j = 4 ∨ j = 5 ∨ j = 6 ∨ j = 15 ∨ j = 16 ∨ j = 17 ∨ j = 18 ∨ j = 19 ∨ j = 20; omega
abbrev scH (j : Nat) : Prop := 34 ≤ j ∧ j < 52
theorem m_looksHeld {S : St} {h a b g : Nat} {post : St → Prop} (e1 : S.1 16 h = nI a) (e2 : S.1 17 h = nI b) (e3 : S.1 18 h = nI g) (hh : h < 6) (ok : okF a b g) (hp : ∀ S' : St, LkM S' a b g → Fm scD scD S S' → post S') : w_X9_looksHeld (nI h) post S := by
  unfold w_X9_looksHeld
  rw [nI_clamp (show h < 2 ^ 31 by omega), e1, e2, e3]
  have := ok.1
  exact ⟨in_nI (by omega), in_nI (by omega), in_nI (by omega), nm_r (toL (by omega)) (nm_e (nm_e (s_looks (by omega) ok.2.1 ok.2.2.1 ok.2.2.2.1 ok.2.2.2.2 hp)))⟩
/-! hold -/
noncomputable def q_hold (F : TF) (H : TH) (v w : Int32) : Int32 × TH := cif (iH v ∧ iF F w) (nI (kdN (F.2.2.1 (cl w)) (F.2.2.2 (cl w)) (F.2.1 (cl w))), va_up H (cl v) (1, F.2.1 (cl w), F.2.2.1 (cl w), F.2.2.2 (cl w), 0, fun _ => 0)) (-1, H)
theorem ok_hold {F : TF} {H : TH} (okf : okTF F) (ok : okTH H) (v w : Int32) : okTH (q_hold F H v w).2 := by
  unfold q_hold
  by_cases h : iH v ∧ iF F w
  · rw [cif_pos h]
    obtain ⟨-, k, hk, rfl⟩ := h
    have h8 := okf.1
    rw [cl_nI (by omega)]
    exact ok_setH ok _ (by show 1 ≤ 2; omega) (fun _ => okf.2 k hk) (fun e => by simp at e)
  · rw [cif_neg h]; exact ok
theorem x_hold {S : St} {F : TF} {H : TH} {v w : Int32} {post : Int32 → St → Prop} (hX : XF S 1 F) (okf : okTF F) (hH : XH S H) (h : ∀ S' : St, XH S' (q_hold F H v w).2 → Fx scH S S' → post (q_hold F H v w).1 S') : w_X8_hold v w post S := by
  have h8 := okf.1
  have bad : ¬ (iH v ∧ iF F w) → post (-1) S := fun q => by
    unfold q_hold at h
    rw [cif_neg q] at h
    exact h S hH Fx.rf
  unfold w_X8_hold
  refine x_holderAt (fun n hn en => ⟨fun e => by simp at e, fun k3 e3 => ?_⟩) (fun q => ⟨fun _ => ?_, fun k e => by simp at e⟩)
  · cases e3
    refine x_at hX okf.1 (fun k hk e => ⟨fun e => by simp at e, fun k4 e4 => ?_⟩) (fun z => ⟨fun _ => bad (fun y => iF.no z y.2), fun k e => by simp at e⟩)
    cases e4
    unfold q_hold at h
    rw [cif_pos ⟨⟨n, hn, en⟩, ⟨k, hk, e⟩⟩, en, e, cl_nI (by omega), cl_nI (by omega)] at h
    have hF := hX.2 k hk
    have o := okf.2 k hk
    unfold w_X2_holdFraction
    refine nm_e (s_becomeLike (hF.cp (sI_o S _ _ _ _ (by omega)).1) (by omega) (fun S2 hF2 hx => ?_))
    have hF3 : FrX S2 (1 + 1 + 1 + k) (F.2.1 k) (F.2.2.1 k) (F.2.2.2 k) := (hF.cp (sI_o S (33 + 1 + 3 * n) 0 1 (1 + 1 + 1 + k) (by omega)).1).cp (hx _ (by omega)).1
    refine s_kind hF3 o (h S2 ?_ ?_)
    · refine xh_set hH (fun j j1 j2 j3 j4 j5 => ?_) ?_ (fun _ => hF2) (fun e => by simp at e)
      · rw [(hx j j4).1]; exact (sI_o S _ _ _ j j3).1
      · rw [(hx (33 + 1 + 3 * n) (by omega)).1, sI_s]; rfl
    · refine Fx.tr (Fx.I Fx.rf (by show 34 ≤ _ ∧ _ < 52; omega)) (hx.mo (fun j e => by show 34 ≤ j ∧ j < 52; omega))
  · exact x_at hX okf.1 (fun k hk e => ⟨fun e => by simp at e, fun _ _ => bad (fun y => q y.1)⟩) (fun _ => ⟨fun _ => bad (fun y => q y.1), fun k e => by simp at e⟩)
theorem m_hold {S : St} {F : TF} {H : TH} {v w : Int32} {post : Int32 → St → Prop} (hM : MF S F) (okf : okTF F) (hH : MH S H) (ok : okTH H) (h : ∀ S' : St, MH S' (q_hold F H v w).2 → Fm scHm scD S S' → post (q_hold F H v w).1 S') : w_X9_hold v w post S := by
  have h8 := okf.1
  have bad : ¬ (iH v ∧ iF F w) → post (-1) S := fun q => by
    unfold q_hold at h
    rw [cif_neg q] at h
    exact h S hH Fm.rf
  unfold w_X9_hold
  refine m_isHolder (fun n hn en => br_f (by decide) ?_) (fun q => br_t rfl (bad (fun y => q y.1)))
  refine m_isFraction hM okf.1 (fun k hk e => br_f (by decide) ?_) (fun z => br_t rfl (bad (fun y => iF.no z y.2)))
  unfold q_hold at h
  rw [cif_pos ⟨⟨n, hn, en⟩, ⟨k, hk, e⟩⟩, en, e, cl_nI (by omega), cl_nI (by omega)] at h
  obtain ⟨e1, e2, e3⟩ := hM.2 k hk
  have o := okf.2 k hk
  have ik : vp_in (nI k) 8 := in_nI (by omega)
  have ih : vp_in (nI n) 6 := in_nI (by omega)
  rw [en, e, nI_clamp (show k < 2 ^ 31 by omega), nI_clamp (show n < 2 ^ 31 by omega)]
  refine ⟨ih, nm_e ⟨ik, nm_r (e' := nI (F.2.1 k)) (by rw [sI_x _ _ _ _ _ _ (by decide)]; exact e1) ⟨ih, nm_e ⟨ik, nm_r (e' := nI (F.2.2.1 k)) (by rw [sI_x _ _ _ _ _ _ (by decide), sI_x _ _ _ _ _ _ (by decide)]; exact e2) ⟨ih, nm_e ⟨ik, nm_r (e' := nI (F.2.2.2 k)) (by rw [sI_x _ _ _ _ _ _ (by decide), sI_x _ _ _ _ _ _ (by decide), sI_x _ _ _ _ _ _ (by decide)]; exact e3) ⟨ih, nm_e ?_⟩⟩⟩⟩⟩⟩⟩
  generalize hT : sI (sI (sI (sI S 15 n 1) 16 n (nI (F.2.1 k))) 17 n (nI (F.2.2.1 k))) 18 n (nI (F.2.2.2 k)) = T
  have t15 : T.1 15 n = 1 := by rw [← hT]; simp [sI_1]
  have t16 : T.1 16 n = nI (F.2.1 k) := by rw [← hT]; simp [sI_1]
  have t17 : T.1 17 n = nI (F.2.2.1 k) := by rw [← hT]; simp [sI_1]
  have t18 : T.1 18 n = nI (F.2.2.2 k) := by rw [← hT]; simp [sI_1]
  have hxT : Fm scHm scD S T := by
    rw [← hT]
    exact Fm.A (Fm.A (Fm.A (Fm.A Fm.rf (by simp [scHm]) (by decide)) (by simp [scHm]) (by decide)) (by simp [scHm]) (by decide)) (by simp [scHm]) (by decide)
  refine m_looksHeld t16 t17 t18 hn o (fun S2 hL hx => m_kindNow hL (h S2 ?_ (hxT.tr (hx.mo D_H (fun _ e => e)))))
  have c : ∀ j, 15 ≤ j → S2.1 j = T.1 j := fun j hj => hx.1 j (by omega) (by unfold scD; omega)
  refine mh_set hH ok (fun q q1 q2 => ?_) (by rw [c 15 (by omega), t15]; rfl) (fun _ => by rw [c 16 (by omega), c 17 (by omega), c 18 (by omega)]; exact ⟨t16, t17, t18⟩) (fun e => by simp at e)
  rw [c 15 (by omega), c 16 (by omega), c 17 (by omega), c 18 (by omega), c 19 (by omega), c 20 (by omega), ← hT]
  simp [sI_1, q2]
/-! lose -/
noncomputable def q_lose (H : TH) (v : Int32) : Int32 × TH := cif (iH v) (nI (H (cl v)).1, va_up H (cl v) (0, (H (cl v)).2)) (-1, H)
theorem ok_lose {H : TH} (ok : okTH H) (v : Int32) : okTH (q_lose H v).2 := by
  unfold q_lose
  by_cases h : iH v
  · rw [cif_pos h]
    exact ok_setH ok _ (by show 0 ≤ 2; omega) (fun e => by simp at e) (fun e => by simp at e)
  · rw [cif_neg h]; exact ok
theorem x_lose {S : St} {H : TH} {v : Int32} {post : Int32 → St → Prop} (hH : XH S H) (h : ∀ S' : St, XH S' (q_lose H v).2 → Fx scH S S' → post (q_lose H v).1 S') : w_X8_lose v post S := by
  unfold w_X8_lose
  refine x_holderAt (fun n hn en => ⟨fun e => by simp at e, fun k3 e3 => ?_⟩) (fun q => ⟨fun _ => ?_, fun k e => by simp at e⟩)
  · cases e3
    unfold q_lose at h
    rw [cif_pos ⟨n, hn, en⟩, en, cl_nI (by omega)] at h
    refine nm_r (hH n hn).1 (nm_e (h _ ?_ (Fx.I Fx.rf (by show 34 ≤ _ ∧ _ < 52; omega))))
    exact xh_set hH (fun j j1 j2 j3 j4 j5 => (sI_o S _ _ _ j j3).1) (sI_s _ _ _ _) (fun e => by simp at e) (fun e => by simp at e)
  · unfold q_lose at h
    rw [cif_neg q] at h
    exact h S hH Fx.rf
theorem m_lose {S : St} {H : TH} {v : Int32} {post : Int32 → St → Prop} (hH : MH S H) (ok : okTH H) (h : ∀ S' : St, MH S' (q_lose H v).2 → Fm scHm scD S S' → post (q_lose H v).1 S') : w_X9_lose v post S := by
  unfold w_X9_lose
  refine m_isHolder (fun n hn en => br_f (by decide) ?_) (fun q => br_t rfl ?_)
  · unfold q_lose at h
    rw [cif_pos ⟨n, hn, en⟩, en, cl_nI (by omega)] at h
    rw [en, nI_clamp (show n < 2 ^ 31 by omega)]
    refine ⟨in_nI (by omega), nm_r (hH n hn).1 ⟨in_nI (by omega), nm_e (h _ ?_ (Fm.A Fm.rf (by simp [scHm]) (by decide)))⟩⟩
    refine mh_set hH ok (fun q q1 q2 => ?_) (sI_s _ _ _ _) (fun e => by simp at e) (fun e => by simp at e)
    simp [sI_1, q2]
  · unfold q_lose at h
    rw [cif_neg q] at h
    exact h S hH Fm.rf
