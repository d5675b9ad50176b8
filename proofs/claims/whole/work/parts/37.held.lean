/-! why not -/
def refu (k t : Nat) : Int32 := if k = 0 then -11 else if k = t then 0 else -12
theorem x_refusal {S : St} {H : TH} {n t : Nat} {post : Int32 → St → Prop} (hH : XH S H) (ok : okTH H) (hn : n < 6) (ht : t < 100) (h : post (refu (H n).1 t) S) : w_X2_refusalAs (33 + 1 + 3 * n) (nI t) post S := by
  have := (ok n hn).1
  unfold w_X2_refusalAs
  rw [(hH n hn).1]
  unfold refu at h
  refine pk_eq (H n).1 0 (fun q => by rw [if_pos q] at h; exact h) (fun q => ?_)
  rw [if_neg q] at h
  exact pk_eq (H n).1 t (fun q => by rw [if_pos q] at h; exact h) (fun q => by rw [if_neg q] at h; exact h)
theorem m_whyNot {S : St} {H : TH} {n t : Nat} {post : Int32 → St → Prop} (hH : MH S H) (ok : okTH H) (hn : n < 6) (ht : t < 100) (h : post (refu (H n).1 t) S) : w_X9_whyNot (nI n) (nI t) post S := by
  have := (ok n hn).1
  unfold w_X9_whyNot
  rw [nI_clamp (show n < 2 ^ 31 by omega), (hH n hn).1]
  unfold refu at h
  refine ⟨in_nI (by omega), pk_eq (H n).1 0 (fun q => by rw [if_pos q] at h; exact h) (fun q => ?_)⟩
  rw [if_neg q] at h
  exact ⟨in_nI (by omega), pk_eq (H n).1 t (fun q => by rw [if_pos q] at h; exact h) (fun q => by rw [if_neg q] at h; exact h)⟩
theorem refu_0 {k t : Nat} (h : refu k t = 0) (ht : t ≠ 0) : k = t := by
  unfold refu at h
  by_cases q : k = 0
  · rw [if_pos q] at h; exact absurd h (by decide)
  · rw [if_neg q] at h
    by_cases z : k = t
    · exact z
    · rw [if_neg z] at h; exact absurd h (by decide)
theorem refu_y (t : Nat) (ht : t ≠ 0) : refu t t = 0 := by unfold refu; rw [if_neg ht, if_pos rfl]
/-! taken -/
def takV (a b g w : Nat) : Int32 := if w = 0 then nI a else if kdN b g a = w - 1 then (if w = 2 then nI (ln b g a) else nI (hd b g a)) else -12
noncomputable def q_taken (H : TH) (v w : Int32) : Int32 := cif (iH v ∧ ∃ k, k ≤ 3 ∧ w = nI k) (if refu (H (cl v)).1 1 = 0 then takV (H (cl v)).2.1 (H (cl v)).2.2.1 (H (cl v)).2.2.2.1 (cl w) else refu (H (cl v)).1 1) (-1)
theorem kdN_le (b g a : Nat) : kdN b g a ≤ 2 := by
  unfold kdN
  by_cases h : rs b g a (hd b g a) = 0
  · rw [if_pos h]; omega
  · rw [if_neg h]
    by_cases z : hd b g a = 0
    · rw [if_pos z]; omega
    · rw [if_neg z]; omega
theorem x_taken {S : St} {H : TH} {v w : Int32} {post : Int32 → St → Prop} (hH : XH S H) (ok : okTH H) (h : post (q_taken H v w) S) : w_X8_taken v w post S := by
  have bad : ¬ (iH v ∧ ∃ k, k ≤ 3 ∧ w = nI k) → post (-1) S := fun q => by
    unfold q_taken at h
    rw [cif_neg q] at h
    exact h
  unfold w_X8_taken
  refine x_holderAt (fun n hn en => ⟨fun e => by simp at e, fun k3 e3 => ?_⟩) (fun q => ⟨fun _ => bad (fun y => q y.1), fun k e => by simp at e⟩)
  cases e3
  refine s_isWithin (fun a1 a2 => br_f (by decide) ?_) (fun a => br_t rfl (bad (fun q => by obtain ⟨-, ⟨k, k1, e⟩⟩ := q; exact i_outside (l := 0) (h := 3) rfl rfl a (Nat.zero_le k) k1 (by omega) e)))
  obtain ⟨k, -, k2, rfl⟩ := i_between (l := 0) (h := 3) rfl rfl a1 a2
  unfold q_taken at h
  rw [cif_pos ⟨⟨n, hn, en⟩, ⟨k, k2, rfl⟩⟩, en, cl_nI (by omega), cl_nI (by omega)] at h
  refine x_refusal (t := 1) hH ok hn (by omega) ⟨fun q => ?_, fun q => ?_⟩
  · rw [if_pos q] at h
    have hF := (hH n hn).2.1 (refu_0 q (by omega))
    have o := (ok n hn).2.1 (refu_0 q (by omega))
    unfold takV at h
    refine pk_eq k 0 (fun z => ?_) (fun z => ?_)
    · rw [if_pos z] at h; rw [hF.1]; exact h
    · rw [if_neg z] at h
      refine nm_r (e' := nI (k - 1)) (pk_sub (b := 1) (by omega)) (s_kind hF o ?_)
      have := kdN_le (H n).2.2.1 (H n).2.2.2.1 (H n).2.1
      refine pk_eq (kdN (H n).2.2.1 (H n).2.2.2.1 (H n).2.1) (k - 1) (fun y => ?_) (fun y => ?_)
      · rw [if_pos y] at h
        refine pk_eq (k - 1) 1 (fun x => ?_) (fun x => ?_)
        · rw [if_pos (by omega)] at h; rw [hF.2.2.2.2.1]; exact h
        · rw [if_neg (by omega)] at h; rw [hF.2.2.2.1]; exact h
      · rw [if_neg y] at h; exact h
  · rw [if_neg q] at h
    exact h
theorem m_taken {S : St} {H : TH} {v w : Int32} {post : Int32 → St → Prop} (hH : MH S H) (ok : okTH H) (h : ∀ S' : St, Fm scD scD S S' → post (q_taken H v w) S') : w_X9_taken v w post S := by
  have bad : ¬ (iH v ∧ ∃ k, k ≤ 3 ∧ w = nI k) → post (-1) S := fun q => by
    have h := h S Fm.rf
    unfold q_taken at h
    rw [cif_neg q] at h
    exact h
  unfold w_X9_taken
  refine m_isHolder (fun n hn en => br_f (by decide) ?_) (fun q => br_t rfl (bad (fun y => q y.1)))
  refine nm_e (m_in (lo := 0) (hi := 3) (by decide) (by decide) (fun a1 a2 => br_f (by decide) ?_) (fun a => br_t rfl (bad (fun q => by obtain ⟨-, ⟨k, k1, e⟩⟩ := q; exact i_outside (l := 0) (h := 3) rfl rfl a (Nat.zero_le k) k1 (by omega) e))))
  obtain ⟨k, -, k2, rfl⟩ := i_between (l := 0) (h := 3) rfl rfl a1 a2
  unfold q_taken at h
  rw [cif_pos ⟨⟨n, hn, en⟩, ⟨k, k2, rfl⟩⟩, en, cl_nI (by omega), cl_nI (by omega)] at h
  rw [en]
  refine m_whyNot (t := 1) hH ok hn (by omega) ⟨fun q => ?_, fun q => ?_⟩
  · rw [if_pos q] at h
    obtain ⟨e1, e2, e3⟩ := (hH n hn).2.1 (refu_0 q (by omega))
    have o := (ok n hn).2.1 (refu_0 q (by omega))
    refine m_looksHeld e1 e2 e3 hn o (fun T hL hx => ?_)
    have h := h T hx
    unfold takV at h
    refine pk_le k 0 (fun z => ?_) (fun z => m_kindNow hL ?_)
    · rw [if_pos (by omega)] at h
      unfold w_X9_taken_56
      refine br_t (by rw [show k = 0 by omega]; rfl) ⟨in_nI (by omega), ?_⟩
      rw [nI_clamp (show n < 2 ^ 31 by omega), hx.1 16 (by decide) (by simp [scD]), e1]
      exact h
    · rw [if_neg (by omega)] at h
      have := kdN_le (H n).2.2.1 (H n).2.2.2.1 (H n).2.1
      rw [show nI k - 1 = nI (k - 1) from pk_sub (a := k) (b := 1) (by omega)]
      refine pk_eq (kdN (H n).2.2.1 (H n).2.2.2.1 (H n).2.1) (k - 1) (fun y => ?_) (fun y => ?_)
      · rw [if_pos y] at h
        unfold w_X9_taken_56
        refine pk_eq k 0 (fun x => by omega) (fun _ => pk_eq k 2 (fun x => ?_) (fun x => ?_))
        · rw [if_pos x] at h; rw [hL.2.1]; exact h
        · rw [if_neg x] at h; rw [hL.1]; exact h
      · rw [if_neg y] at h; exact h
  · rw [if_neg q] at h
    exact h S Fm.rf
/-! was -/
noncomputable def q_was (H : TH) (v w : Int32) : Int32 := cif (iH v ∧ ∃ k, k ≤ 9999 ∧ w = nI k) (if refu (H (cl v)).1 1 = 0 then nI (dg (H (cl v)).2.2.1 (H (cl v)).2.2.2.1 (H (cl v)).2.1 (cl w)) else refu (H (cl v)).1 1) (-1)
theorem x_was {S : St} {H : TH} {v w : Int32} {post : Int32 → St → Prop} (hH : XH S H) (ok : okTH H) (h : post (q_was H v w) S) : w_X8_was v w post S := by
  have bad : ¬ (iH v ∧ ∃ k, k ≤ 9999 ∧ w = nI k) → post (-1) S := fun q => by
    unfold q_was at h
    rw [cif_neg q] at h
    exact h
  unfold w_X8_was
  refine x_holderAt (fun n hn en => ⟨fun e => by simp at e, fun k3 e3 => ?_⟩) (fun q => ⟨fun _ => bad (fun y => q y.1), fun k e => by simp at e⟩)
  cases e3
  refine s_isWithin (fun a1 a2 => br_f (by decide) ?_) (fun a => br_t rfl (bad (fun q => by obtain ⟨-, ⟨k, k1, e⟩⟩ := q; exact i_outside (l := 0) (h := 9999) rfl rfl a (Nat.zero_le k) k1 (by omega) e)))
  obtain ⟨k, -, k2, rfl⟩ := i_between (l := 0) (h := 9999) rfl rfl a1 a2
  unfold q_was at h
  rw [cif_pos ⟨⟨n, hn, en⟩, ⟨k, k2, rfl⟩⟩, en, cl_nI (by omega), cl_nI (by omega)] at h
  refine x_refusal (t := 1) hH ok hn (by omega) ⟨fun q => ?_, fun q => ?_⟩
  · rw [if_pos q] at h
    have hF := (hH n hn).2.1 (refu_0 q (by omega))
    have o := (ok n hn).2.1 (refu_0 q (by omega))
    exact s_restAt hF o (by omega) (s_digitOf hF o h)
  · rw [if_neg q] at h
    exact h
theorem m_was {S : St} {H : TH} {v w : Int32} {post : Int32 → St → Prop} (hH : MH S H) (ok : okTH H) (h : ∀ S' : St, Fm scD scD S S' → post (q_was H v w) S') : w_X9_was v w post S := by
  have bad : ¬ (iH v ∧ ∃ k, k ≤ 9999 ∧ w = nI k) → post (-1) S := fun q => by
    have h := h S Fm.rf
    unfold q_was at h
    rw [cif_neg q] at h
    exact h
  unfold w_X9_was
  refine m_isHolder (fun n hn en => br_f (by decide) ?_) (fun q => br_t rfl (bad (fun y => q y.1)))
  refine nm_e (m_in (lo := 0) (hi := 9999) (by decide) (by decide) (fun a1 a2 => br_f (by decide) ?_) (fun a => br_t rfl (bad (fun q => by obtain ⟨-, ⟨k, k1, e⟩⟩ := q; exact i_outside (l := 0) (h := 9999) rfl rfl a (Nat.zero_le k) k1 (by omega) e))))
  obtain ⟨k, -, k2, rfl⟩ := i_between (l := 0) (h := 9999) rfl rfl a1 a2
  unfold q_was at h
  rw [cif_pos ⟨⟨n, hn, en⟩, ⟨k, k2, rfl⟩⟩, en, cl_nI (by omega), cl_nI (by omega)] at h
  rw [en]
  refine m_whyNot (t := 1) hH ok hn (by omega) ⟨fun q => ?_, fun q => ?_⟩
  · rw [if_pos q] at h
    obtain ⟨e1, e2, e3⟩ := (hH n hn).2.1 (refu_0 q (by omega))
    have o := (ok n hn).2.1 (refu_0 q (by omega))
    refine m_looksHeld e1 e2 e3 hn o (fun T hL hx => ?_)
    have h := h T hx
    obtain ⟨o1, o2, o3, o4, o5⟩ := o
    have hpl := plc_lt (H n).2.2.1 (H n).2.2.2.1 (H n).2.1 k
    have hll := hd_ln_le o2 o3 o4 o5 (H n).2.1
    refine m_placeOf hL o2 o3 o4 o5 (by omega) ⟨in_nI (by omega), ?_⟩
    rw [nI_clamp (by omega), (hL.2.2.2 _ hpl).2, dg_plc o2 o3 o4 o5]
    exact h
  · rw [if_neg q] at h
    exact h S Fm.rf
/-! row -/
noncomputable def q_row (H : TH) (v w : Int32) : Int32 × TH := cif (iH v ∧ w ≤ 40) (cif (0 ≤ w) (w, va_up H (cl v) (2, 0, 0, 0, cl w, fun _ => 0)) (-14, H)) (-1, H)
theorem i_row {w : Int32} (h1 : w ≤ 40) (h2 : 0 ≤ w) : ∃ n, n ≤ 40 ∧ w = nI n := by
  obtain ⟨n, -, n2, e⟩ := i_between (l := 0) (h := 40) rfl rfl h2 h1
  exact ⟨n, n2, e⟩
theorem ok_row {H : TH} (ok : okTH H) (v w : Int32) : okTH (q_row H v w).2 := by
  unfold q_row
  by_cases h : iH v ∧ w ≤ 40
  · rw [cif_pos h]
    by_cases z : 0 ≤ w
    · rw [cif_pos z]
      obtain ⟨n, n1, rfl⟩ := i_row h.2 z
      rw [cl_nI (show n < 2 ^ 31 by omega)]
      exact ok_setH ok _ (by show 2 ≤ 2; omega) (fun e => by simp at e) (fun _ => n1)
    · rw [cif_neg z]; exact ok
  · rw [cif_neg h]; exact ok
theorem x_row {S : St} {H : TH} {v w : Int32} {post : Int32 → St → Prop} (hH : XH S H) (h : ∀ S' : St, XH S' (q_row H v w).2 → Fx scH S S' → post (q_row H v w).1 S') : w_X8_row v w post S := by
  unfold w_X8_row
  refine x_holderAt (fun n hn en => ⟨fun e => by simp at e, fun k3 e3 => ?_⟩) (fun q => ⟨fun _ => ?_, fun k e => by simp at e⟩)
  · cases e3
    unfold q_row at h
    refine ⟨fun q => ?_, fun q => ?_⟩
    · rw [cif_pos ⟨⟨n, hn, en⟩, q⟩] at h
      refine ⟨fun z => ?_, fun z => ?_⟩
      · rw [cif_pos z] at h
        obtain ⟨m, m1, rfl⟩ := i_row q z
        rw [cl_nI (show m < 2 ^ 31 by omega), en, cl_nI (by omega)] at h
        unfold w_X2_holdRow
        refine nm_e (nm_e ⟨m + 1, ?_⟩)
        have loop : ∀ r i (T : St), i ≤ m → m < i + r → T.1 (33 + 1 + 3 * n) 0 = 2 → T.1 (33 + 1 + 3 * n) 3 = nI m → (∀ j, j < i → T.1 (33 + 1 + 3 * n + 2) j = 0) → Fx scH S T → (∀ j, j ≠ 33 + 1 + 3 * n → j ≠ 33 + 1 + 3 * n + 2 → T.1 j = S.1 j) → w_X2_holdRow_12 (fun S7 => post (nI m) S7) r (33 + 1 + 3 * n) (nI m) (nI i) T := by
          intro r
          induction r with
          | zero => intro i T h1 h2; omega
          | succ r ih =>
            intro i T h1 h2 t1 t2 t3 hx ho
            rw [w_X2_holdRow_12]
            refine pk_le m i (fun y => ?_) (fun y => ?_)
            · exact h T (xh_set hH (fun j _ _ j3 _ j5 => ho j j3 j5) t1 (fun e => by simp at e) (fun _ => ⟨t2, fun j hj => t3 j (by have hj : j < m := hj; omega)⟩)) hx
            · have al : ∀ n, n < 6 → alX (33 + 1 + 3 * n + 2) = 40 := by decide
              refine s_setAt (by rw [al n hn]; omega) (by rw [al n hn]; omega) (nm_r (e' := nI (i + 1)) (nI_1 i) (ih (i + 1) _ y (by omega) ?_ ?_ (fun j hj => ?_) (Fx.I hx (by show 34 ≤ _ ∧ _ < 52; omega)) (fun j j1 j2 => ?_)))
              · rw [sI_x _ _ _ _ _ _ (by omega)]; exact t1
              · rw [sI_x _ _ _ _ _ _ (by omega)]; exact t2
              · by_cases x : j = i
                · subst x; rw [sI_s]
                · rw [sI_n _ _ _ _ _ x]; exact t3 j (by omega)
              · rw [(sI_o T _ _ _ j j2).1]; exact ho j j1 j2
        exact loop (m + 1) 0 _ (Nat.zero_le _) (by omega) (by rw [sI_n _ _ _ _ _ (by decide), sI_s]) (sI_s _ _ _ _) (fun j hj => by omega) (Fx.I (Fx.I Fx.rf (by show 34 ≤ _ ∧ _ < 52; omega)) (by show 34 ≤ _ ∧ _ < 52; omega)) (fun j j1 j2 => by rw [(sI_o _ _ _ _ j j1).1, (sI_o _ _ _ _ j j1).1])
      · rw [cif_neg z] at h
        exact h S hH Fx.rf
    · rw [cif_neg (fun y => q y.2)] at h
      exact h S hH Fx.rf
  · unfold q_row at h
    rw [cif_neg (fun y => q y.1)] at h
    exact h S hH Fx.rf
theorem m_row {S : St} {H : TH} {v w : Int32} {post : Int32 → St → Prop} (hH : MH S H) (ok : okTH H) (h : ∀ S' : St, MH S' (q_row H v w).2 → Fm scHm scD S S' → post (q_row H v w).1 S') : w_X9_row v w post S := by
  unfold w_X9_row
  refine m_isHolder (fun n hn en => br_f (by decide) ?_) (fun q => br_t rfl ?_)
  · unfold q_row at h
    refine ⟨fun q => ?_, fun q => ?_⟩
    · rw [cif_pos ⟨⟨n, hn, en⟩, q⟩] at h
      refine ⟨fun z => ?_, fun z => ?_⟩
      · rw [cif_pos z] at h
        obtain ⟨m, m1, rfl⟩ := i_row q z
        rw [cl_nI (show m < 2 ^ 31 by omega), en, cl_nI (by omega)] at h
        rw [en, nI_clamp (show n < 2 ^ 31 by omega)]
        refine ⟨in_nI (by omega), nm_e ⟨in_nI (by omega), nm_e ⟨41, ?_⟩⟩⟩
        have loop : ∀ r i (T : St), i ≤ 40 → 40 < i + r → T.1 15 n = 2 → T.1 19 n = nI m → (∀ j, j < i → T.1 20 (40 * n + j) = 0) → Fm scHm scD S T → (∀ k, k < 6 → k ≠ n → T.1 15 k = S.1 15 k ∧ T.1 16 k = S.1 16 k ∧ T.1 17 k = S.1 17 k ∧ T.1 18 k = S.1 18 k ∧ T.1 19 k = S.1 19 k ∧ ∀ i, i < 40 → T.1 20 (40 * k + i) = S.1 20 (40 * k + i)) → w_X9_row_38 post r (nI n) (nI m) (nI i) T := by
          intro r
          induction r with
          | zero => intro i T h1 h2; omega
          | succ r ih =>
            intro i T h1 h2 t1 t2 t3 hx ho
            rw [w_X9_row_38]
            refine pk_le 40 i (fun y => ?_) (fun y => ?_)
            · exact h T (mh_set hH ok ho t1 (fun e => by simp at e) (fun _ => ⟨t2, fun j hj => t3 j (by have hj : j < m := hj; omega)⟩)) hx
            · refine nm_r (e' := nI (40 * n + i)) (by rw [show (40 : Int32) = nI 40 from rfl, pk_mul, nI_add]) ⟨in_nI (by omega), ?_⟩
              rw [nI_clamp (by omega)]
              refine nm_e (nm_r (e' := nI (i + 1)) (nI_1 i) (ih (i + 1) _ y (by omega) ?_ ?_ (fun j hj => ?_) (Fm.A hx (by simp [scHm]) (by decide)) (fun k k1 k2 => ?_)))
              · rw [sI_x _ _ _ _ _ _ (by decide)]; exact t1
              · rw [sI_x _ _ _ _ _ _ (by decide)]; exact t2
              · by_cases x : j = i
                · subst x; rw [sI_s]
                · rw [sI_n _ _ _ _ _ (by omega)]; exact t3 j (by omega)
              · obtain ⟨g1, g2, g3, g4, g5, g6⟩ := ho k k1 k2
                refine ⟨by rw [sI_x _ _ _ _ _ _ (by decide)]; exact g1, by rw [sI_x _ _ _ _ _ _ (by decide)]; exact g2, by rw [sI_x _ _ _ _ _ _ (by decide)]; exact g3, by rw [sI_x _ _ _ _ _ _ (by decide)]; exact g4, by rw [sI_x _ _ _ _ _ _ (by decide)]; exact g5, fun j hj => ?_⟩
                rw [sI_n _ _ _ _ _ (by omega)]; exact g6 j hj
        refine loop 41 0 _ (Nat.zero_le _) (by omega) (by simp [sI_1]) (by simp [sI_1]) (fun j hj => by omega) (Fm.A (Fm.A Fm.rf (by simp [scHm]) (by decide)) (by simp [scHm]) (by decide)) (fun k k1 k2 => ?_)
        simp [sI_1, k2]
      · rw [cif_neg z] at h
        exact h S hH Fm.rf
    · rw [cif_neg (fun y => q y.2)] at h
      exact h S hH Fm.rf
  · unfold q_row at h
    rw [cif_neg (fun y => q y.1)] at h
    exact h S hH Fm.rf
