/-! of, digit, rest, place -/
theorem lsf_is {p : Nat → Bool} {n i : Nat} (hi : i < n) (h : p i = true) (m : ∀ j, j < i → p j = false) : lsf p n 0 = i := by
  have h1 := lsf_yes p n 0 ⟨i, by omega, by omega, h⟩
  have h2 := lsf_no p n 0 i (by omega)
  rcases Nat.lt_trichotomy (lsf p n 0) i with q | q | q
  · rw [m _ q] at h1; simp at h1
  · exact q
  · rw [h2 q] at h; simp at h
theorem lsf_nn (p : Nat → Bool) : ∀ n i, (∀ j, i ≤ j → j < i + n → p j = false) → lsf p n i = i + n := by
  intro n
  induction n with
  | zero => intro i _; rfl
  | succ n ih =>
    intro i h
    rw [lsf, if_neg (by rw [h i (by omega) (by omega)]; simp), ih (i + 1) (fun j h1 h2 => h j (by omega) (by omega))]
    omega
def ofV (a b g : Nat) (w : Int32) : Int32 := if w = 0 then nI a else if w = 1 then nI b else if w = 2 then nI g else if w = 3 then nI (a / b) else if w = 4 then nI (hd b g a) else if w = 5 then nI (ln b g a) else if w = 6 then nI (kdN b g a) else -1
noncomputable def q_of (F : TF) (v w : Int32) : Int32 := cif (iF F v) (ofV (F.2.1 (cl v)) (F.2.2.1 (cl v)) (F.2.2.2 (cl v)) w) (-1)
theorem x_of {S : St} {F : TF} {v w : Int32} {post : Int32 → St → Prop} (hX : XF S 1 F) (ok : okTF F) (h : post (q_of F v w) S) : w_X8_of v w post S := by
  have h8 := ok.1
  unfold w_X8_of
  refine x_at hX ok.1 (fun k hk e => ⟨fun e => by simp at e, fun k3 e3 => ?_⟩) (fun n => ⟨fun _ => ?_, fun k e => by simp at e⟩)
  · cases e3
    subst e
    unfold q_of at h
    rw [cif_pos ⟨k, hk, rfl⟩, cl_nI (by omega)] at h
    have hF := hX.2 k hk
    have o := ok.2 k hk
    unfold ofV at h
    rw [hF.1, hF.2.1, hF.2.2.1, hF.2.2.2.1, hF.2.2.2.2.1]
    refine ⟨fun q => by rw [if_pos q] at h; exact h, fun q => ?_⟩
    rw [if_neg q] at h
    refine ⟨fun q => by rw [if_pos q] at h; exact h, fun q => ?_⟩
    rw [if_neg q] at h
    refine ⟨fun q => by rw [if_pos q] at h; exact h, fun q => ?_⟩
    rw [if_neg q] at h
    refine ⟨fun q => by rw [if_pos q] at h; exact s_whole hF o h, fun q => ?_⟩
    rw [if_neg q] at h
    refine ⟨fun q => by rw [if_pos q] at h; exact h, fun q => ?_⟩
    rw [if_neg q] at h
    refine ⟨fun q => by rw [if_pos q] at h; exact h, fun q => ?_⟩
    rw [if_neg q] at h
    refine ⟨fun q => by rw [if_pos q] at h; exact s_kind hF o h, fun q => ?_⟩
    rw [if_neg q] at h
    exact h
  · unfold q_of at h
    rw [cif_neg (iF.no n)] at h
    exact h
theorem Fm.MF {S S' : St} {F : TF} (hM : MF S F) (h : Fm scD scD S S') : MF S' F := hM.cp (h.2 0 (by simp [scD])) (h.1 1 (by decide) (by simp [scD])) (h.1 2 (by decide) (by simp [scD])) (h.1 3 (by decide) (by simp [scD]))
theorem m_of {S : St} {F : TF} {v w : Int32} {post : Int32 → St → Prop} (hM : MF S F) (ok : okTF F) (h : ∀ S' : St, Fm scD scD S S' → post (q_of F v w) S') : w_X9_of v w post S := by
  have h8 := ok.1
  unfold w_X9_of
  refine m_isFraction hM ok.1 (fun k hk e => br_f (by decide) ?_) (fun n => br_t rfl ?_)
  · subst e
    unfold q_of at h
    rw [cif_pos ⟨k, hk, rfl⟩, cl_nI (by omega)] at h
    refine m_looksAt hM ok hk (fun S' hL hx => ?_)
    have h := h S' hx
    have o := ok.2 k hk
    obtain ⟨e1, e2, e3⟩ := (Fm.MF hM hx).2 k hk
    have ik : vp_in (nI k) 8 := in_nI (by omega)
    rw [nI_clamp (show k < 2 ^ 31 by omega), e1, e2, e3, hL.1, hL.2.1]
    unfold ofV at h
    refine ⟨fun q => by rw [if_pos q] at h; exact ⟨ik, h⟩, fun q => ?_⟩
    rw [if_neg q] at h
    refine ⟨fun q => by rw [if_pos q] at h; exact ⟨ik, h⟩, fun q => ?_⟩
    rw [if_neg q] at h
    refine ⟨fun q => by rw [if_pos q] at h; exact ⟨ik, h⟩, fun q => ?_⟩
    rw [if_neg q] at h
    refine ⟨fun q => ?_, fun q => ?_⟩
    · rw [if_pos q] at h
      have := o.1
      have := o.2.2.1
      refine ⟨ik, ik, nI_ne0 o.2.1 (by omega), ?_⟩
      rw [pk_div (by omega) o.2.1 (by omega)]
      exact h
    rw [if_neg q] at h
    refine ⟨fun q => by rw [if_pos q] at h; exact h, fun q => ?_⟩
    rw [if_neg q] at h
    refine ⟨fun q => by rw [if_pos q] at h; exact h, fun q => ?_⟩
    rw [if_neg q] at h
    refine ⟨fun q => by rw [if_pos q] at h; exact m_kindNow hL h, fun q => ?_⟩
    rw [if_neg q] at h
    exact h
  · unfold q_of at h
    rw [cif_neg (iF.no n)] at h
    exact h S Fm.rf
/-! digit, rest -/
def oki (i : Int32) : Prop := 0 ≤ i ∧ i ≤ 9999
noncomputable def q_digit (F : TF) (v i : Int32) : Int32 := cif (iF F v ∧ oki i) (nI (dg (F.2.2.1 (cl v)) (F.2.2.2 (cl v)) (F.2.1 (cl v)) (cl i))) (-1)
noncomputable def q_rest (F : TF) (v i : Int32) : Int32 := cif (iF F v ∧ oki i) (nI (rs (F.2.2.1 (cl v)) (F.2.2.2 (cl v)) (F.2.1 (cl v)) (cl i))) (-1)
theorem oki.no {i : Int32} (a : i < 0 ∨ 9999 < i) : ¬ oki i := fun q => by
  rcases a with a | a
  · exact absurd q.1 (Int32.not_le.mpr a)
  · exact absurd q.2 (Int32.not_le.mpr a)
theorem x_digit {S : St} {F : TF} {v i : Int32} {post : Int32 → St → Prop} (hX : XF S 1 F) (ok : okTF F) (h : post (q_digit F v i) S) : w_X8_digit v i post S := by
  have h8 := ok.1
  have bad : ¬ (iF F v ∧ oki i) → post (-1) S := fun q => by
    unfold q_digit at h
    rw [cif_neg q] at h
    exact h
  unfold w_X8_digit
  refine x_at hX ok.1 (fun k hk e => ⟨fun e => by simp at e, fun k3 e3 => ?_⟩) (fun n => ⟨fun _ => bad (fun q => iF.no n q.1), fun k e => by simp at e⟩)
  cases e3
  refine s_isWithin (fun a1 a2 => br_f (by decide) ?_) (fun a => br_t rfl (bad (fun q => oki.no a q.2)))
  obtain ⟨n, -, hn, rfl⟩ := i_between (l := 0) (h := 9999) rfl rfl a1 a2
  subst e
  unfold q_digit at h
  rw [cif_pos ⟨⟨k, hk, rfl⟩, a1, a2⟩, cl_nI (by omega), cl_nI (by omega)] at h
  exact s_restAt (hX.2 k hk) (ok.2 k hk) (by omega) (s_digitOf (hX.2 k hk) (ok.2 k hk) h)
theorem x_rest {S : St} {F : TF} {v i : Int32} {post : Int32 → St → Prop} (hX : XF S 1 F) (ok : okTF F) (h : post (q_rest F v i) S) : w_X8_rest v i post S := by
  have h8 := ok.1
  have bad : ¬ (iF F v ∧ oki i) → post (-1) S := fun q => by
    unfold q_rest at h
    rw [cif_neg q] at h
    exact h
  unfold w_X8_rest
  refine x_at hX ok.1 (fun k hk e => ⟨fun e => by simp at e, fun k3 e3 => ?_⟩) (fun n => ⟨fun _ => bad (fun q => iF.no n q.1), fun k e => by simp at e⟩)
  cases e3
  refine s_isWithin (fun a1 a2 => br_f (by decide) ?_) (fun a => br_t rfl (bad (fun q => oki.no a q.2)))
  obtain ⟨n, -, hn, rfl⟩ := i_between (l := 0) (h := 9999) rfl rfl a1 a2
  subst e
  unfold q_rest at h
  rw [cif_pos ⟨⟨k, hk, rfl⟩, a1, a2⟩, cl_nI (by omega), cl_nI (by omega)] at h
  exact s_restAt (hX.2 k hk) (ok.2 k hk) (by omega) h
theorem m_digit {S : St} {F : TF} {v i : Int32} {post : Int32 → St → Prop} (hM : MF S F) (ok : okTF F) (h : ∀ S' : St, Fm scD scD S S' → post (q_digit F v i) S') : w_X9_digit v i post S := by
  have h8 := ok.1
  have bad : ¬ (iF F v ∧ oki i) → post (-1) S := fun q => by
    unfold q_digit at h
    rw [cif_neg q] at h
    exact h S Fm.rf
  unfold w_X9_digit
  refine m_isFraction hM ok.1 (fun k hk e => br_f (by decide) ?_) (fun n => br_t rfl (bad (fun q => iF.no n q.1)))
  refine nm_e (m_in (lo := 0) (hi := 9999) (by decide) (by decide) (fun a1 a2 => br_f (by decide) ?_) (fun a => br_t rfl (bad (fun q => oki.no a q.2))))
  obtain ⟨n, -, hn, rfl⟩ := i_between (l := 0) (h := 9999) rfl rfl a1 a2
  subst e
  unfold q_digit at h
  rw [cif_pos ⟨⟨k, hk, rfl⟩, a1, a2⟩, cl_nI (by omega), cl_nI (by omega)] at h
  obtain ⟨o1, o2, o3, o4, o5⟩ := ok.2 k hk
  have hl := hd_ln_le o2 o3 o4 o5 (F.2.1 k)
  have hp := plc_lt (F.2.2.1 k) (F.2.2.2 k) (F.2.1 k) n
  refine m_looksAt hM ok hk (fun S' hL hx => m_placeOf hL o2 o3 o4 o5 (by omega) ⟨in_nI (by omega), ?_⟩)
  rw [nI_clamp (by omega), (hL.2.2.2 _ hp).2, dg_plc o2 o3 o4 o5]
  exact h S' hx
theorem m_rest {S : St} {F : TF} {v i : Int32} {post : Int32 → St → Prop} (hM : MF S F) (ok : okTF F) (h : ∀ S' : St, Fm scD scD S S' → post (q_rest F v i) S') : w_X9_rest v i post S := by
  have h8 := ok.1
  have bad : ¬ (iF F v ∧ oki i) → post (-1) S := fun q => by
    unfold q_rest at h
    rw [cif_neg q] at h
    exact h S Fm.rf
  unfold w_X9_rest
  refine m_isFraction hM ok.1 (fun k hk e => br_f (by decide) ?_) (fun n => br_t rfl (bad (fun q => iF.no n q.1)))
  refine nm_e (m_in (lo := 0) (hi := 9999) (by decide) (by decide) (fun a1 a2 => br_f (by decide) ?_) (fun a => br_t rfl (bad (fun q => oki.no a q.2))))
  obtain ⟨n, -, hn, rfl⟩ := i_between (l := 0) (h := 9999) rfl rfl a1 a2
  subst e
  unfold q_rest at h
  rw [cif_pos ⟨⟨k, hk, rfl⟩, a1, a2⟩, cl_nI (by omega), cl_nI (by omega)] at h
  obtain ⟨o1, o2, o3, o4, o5⟩ := ok.2 k hk
  have hl := hd_ln_le o2 o3 o4 o5 (F.2.1 k)
  have hp := plc_lt (F.2.2.1 k) (F.2.2.2 k) (F.2.1 k) n
  refine m_looksAt hM ok hk (fun S' hL hx => m_placeOf hL o2 o3 o4 o5 (by omega) ⟨in_nI (by omega), ?_⟩)
  rw [nI_clamp (by omega), (hL.2.2.2 _ hp).1, rs_plc o2 o3 o4 o5]
  exact h S' hx
/-! place -/
def okd (g : Nat) (d : Int32) : Prop := ∃ n, n < g ∧ d = nI n
def plV (b g a d : Nat) : Int32 := if lsf (fun i => dg b g a i == d) (hd b g a + ln b g a) 0 < hd b g a + ln b g a then nI (lsf (fun i => dg b g a i == d) (hd b g a + ln b g a) 0) else -2
noncomputable def q_place (F : TF) (v d : Int32) : Int32 := cif (iF F v ∧ okd (F.2.2.2 (cl v)) d) (plV (F.2.2.1 (cl v)) (F.2.2.2 (cl v)) (F.2.1 (cl v)) (cl d)) (-1)
theorem plV_f {b g a d i : Nat} (hi : i < hd b g a + ln b g a) (h : dg b g a i = d) (m : ∀ j, j < i → dg b g a j ≠ d) : plV b g a d = nI i := by
  unfold plV
  rw [lsf_is hi (by simpa using h) (fun j hj => by simpa using m j hj), if_pos hi]
theorem plV_n {b g a d : Nat} (m : ∀ j, j < hd b g a + ln b g a → dg b g a j ≠ d) : plV b g a d = -2 := by
  unfold plV
  rw [lsf_nn _ _ 0 (fun j _ hj => by simpa using m j (by omega)), if_neg (by omega)]
theorem x_place {S : St} {F : TF} {v d : Int32} {post : Int32 → St → Prop} (hX : XF S 1 F) (ok : okTF F) (h : post (q_place F v d) S) : w_X8_place v d post S := by
  have h8 := ok.1
  have bad : ¬ (iF F v ∧ okd (F.2.2.2 (cl v)) d) → post (-1) S := fun q => by
    unfold q_place at h
    rw [cif_neg q] at h
    exact h
  unfold w_X8_place
  refine x_at hX ok.1 (fun k hk e => ⟨fun e => by simp at e, fun k3 e3 => ?_⟩) (fun n => ⟨fun _ => bad (fun q => iF.no n q.1), fun k e => by simp at e⟩)
  cases e3
  have hF := hX.2 k hk
  have o := ok.2 k hk
  have hg := o.2.2.2.1
  have hg2 := o.2.2.2.2
  refine nm_r (e' := nI (F.2.2.2 k - 1)) (by rw [hF.2.2.1]; exact pk_sub (a := F.2.2.2 k) (b := 1) (by omega)) (s_isWithin (fun a1 a2 => br_f (by decide) ?_) (fun a => br_t rfl (bad (fun q => ?_))))
  · obtain ⟨n, -, hn, rfl⟩ := i_between (l := 0) rfl rfl a1 a2
    subst e
    unfold q_place at h
    rw [cif_pos ⟨⟨k, hk, rfl⟩, by rw [cl_nI (by omega)]; exact ⟨n, by omega, rfl⟩⟩, cl_nI (by omega), cl_nI (by omega)] at h
    refine s_placeOfDigit hF o (by omega) (fun i hi e m => ?_) (fun m => ?_)
    · rw [plV_f hi e m] at h; exact h
    · rw [plV_n m] at h; exact h
  · obtain ⟨-, n, hn, en⟩ := q
    subst e
    rw [cl_nI (by omega)] at hn
    exact i_outside (l := 0) rfl rfl a (Nat.zero_le n) (by omega) (by omega) en
theorem m_place {S : St} {F : TF} {v d : Int32} {post : Int32 → St → Prop} (hM : MF S F) (ok : okTF F) (h : ∀ S' : St, Fm scD scD S S' → post (q_place F v d) S') : w_X9_place v d post S := by
  have h8 := ok.1
  have bad : ¬ (iF F v ∧ okd (F.2.2.2 (cl v)) d) → post (-1) S := fun q => by
    unfold q_place at h
    rw [cif_neg q] at h
    exact h S Fm.rf
  unfold w_X9_place
  refine m_isFraction hM ok.1 (fun k hk e => br_f (by decide) ?_) (fun n => br_t rfl (bad (fun q => iF.no n q.1)))
  obtain ⟨o1, o2, o3, o4, o5⟩ := ok.2 k hk
  subst e
  rw [nI_clamp (show k < 2 ^ 31 by omega), (hM.2 k hk).2.2]
  refine ⟨in_nI (by omega), nm_e (nm_e ?_)⟩
  rw [show nI (F.2.2.2 k) - 1 = nI (F.2.2.2 k - 1) from pk_sub (a := F.2.2.2 k) (b := 1) (by omega)]
  refine m_in (lo := 0) (hi := nI (F.2.2.2 k - 1)) (by decide) rfl (fun a1 a2 => br_f (by decide) ?_) (fun a => br_t rfl (bad (fun q => ?_)))
  · obtain ⟨n, -, hn, rfl⟩ := i_between (l := 0) rfl rfl a1 a2
    unfold q_place at h
    rw [cif_pos ⟨⟨k, hk, rfl⟩, by rw [cl_nI (by omega)]; exact ⟨n, by omega, rfl⟩⟩, cl_nI (by omega), cl_nI (by omega)] at h
    have hl := hd_ln_le o2 o3 o4 o5 (F.2.1 k)
    refine m_looksAt hM ok hk (fun S' hL hx => ?_)
    have h := h S' hx
    have loop : ∀ q i, i ≤ hd (F.2.2.1 k) (F.2.2.2 k) (F.2.1 k) + ln (F.2.2.1 k) (F.2.2.2 k) (F.2.1 k) → hd (F.2.2.1 k) (F.2.2.2 k) (F.2.1 k) + ln (F.2.2.1 k) (F.2.2.2 k) (F.2.1 k) < i + q → (∀ j, j < i → dg (F.2.2.1 k) (F.2.2.2 k) (F.2.1 k) j ≠ n) → w_X9_place_35 post q (nI n) (nI i) S' := by
      intro q
      induction q with
      | zero => intro i h1 h2; omega
      | succ q ih =>
        intro i h1 h2 h3
        rw [w_X9_place_35, hL.1, hL.2.1, nI_add, nI_clamp (show i < 2 ^ 31 by omega)]
        refine pk_le (hd (F.2.2.1 k) (F.2.2.2 k) (F.2.1 k) + ln (F.2.2.1 k) (F.2.2.2 k) (F.2.1 k)) i (fun z => ?_) (fun z => ⟨in_nI (by omega), ?_⟩)
        · rw [plV_n (fun j hj => h3 j (by omega))] at h; exact h
        · have hdl := dg_lt o2 (show 0 < F.2.2.2 k by omega) (F.2.1 k) i
          rw [(hL.2.2.2 i z).2]
          refine pk_eq _ n (fun e => ?_) (fun e => nm_r (e' := nI (i + 1)) (nI_1 i) (ih (i + 1) z (by omega) (fun j hj => ?_)))
          · rw [plV_f z e h3] at h; exact h
          · rcases Nat.lt_or_ge j i with y | y
            · exact h3 j y
            · have : j = i := by omega
              subst this; exact e
    exact ⟨_, loop (hd (F.2.2.1 k) (F.2.2.2 k) (F.2.1 k) + ln (F.2.2.1 k) (F.2.2.2 k) (F.2.1 k) + 1) 0 (Nat.zero_le _) (by omega) (fun j hj => by omega)⟩
  · obtain ⟨-, n, hn, en⟩ := q
    rw [cl_nI (by omega)] at hn
    exact i_outside (l := 0) rfl rfl a (Nat.zero_le n) (by omega) (by omega) en
