/-! put, get, judge -/
theorem x_hasPlace {S : St} {H : TH} {n : Nat} {w : Int32} {post : Int32 → St → Prop} (hH : XH S H) (ok : okTH H) (hn : n < 6) (h2 : (H n).1 = 2) (f : ∀ k, k < (H n).2.2.2.2.1 → w = nI k → post 1 S) (g : (∀ k, k < (H n).2.2.2.2.1 → w ≠ nI k) → post 0 S) : w_X2_hasPlace (33 + 1 + 3 * n) w post S := by
  have hl := (ok n hn).2.2 h2
  unfold w_X2_hasPlace
  refine nm_e (s_isWithin (fun a1 a2 => ⟨bz_1, ?_⟩) (fun a => ⟨bz_0, ?_⟩))
  · rw [((hH n hn).2.2 h2).1] at a2
    obtain ⟨k, k1, k2⟩ := i_less (by omega) a1 a2
    exact f k k1 k2
  · rw [((hH n hn).2.2 h2).1] at a
    exact g (fun k hk => i_nless (by omega) a hk)
noncomputable def q_put (H : TH) (v w x : Int32) : Int32 × TH := cif (iH v) (if refu (H (cl v)).1 2 = 0 then cif (∃ k, k < (H (cl v)).2.2.2.2.1 ∧ w = nI k) (1, va_up H (cl v) (2, 0, 0, 0, (H (cl v)).2.2.2.2.1, va_up (H (cl v)).2.2.2.2.2 (cl w) x)) (-13, H) else (refu (H (cl v)).1 2, H)) (-1, H)
theorem ok_put {H : TH} (ok : okTH H) (v w x : Int32) : okTH (q_put H v w x).2 := by
  unfold q_put
  by_cases h : iH v
  · rw [cif_pos h]
    obtain ⟨n, hn, rfl⟩ := h
    rw [cl_nI (by omega)]
    by_cases z : refu (H n).1 2 = 0
    · rw [if_pos z]
      by_cases y : ∃ k, k < (H n).2.2.2.2.1 ∧ w = nI k
      · rw [cif_pos y]
        exact ok_setH ok _ (by show 2 ≤ 2; omega) (fun e => by simp at e) (fun _ => (ok n hn).2.2 (refu_0 z (by omega)))
      · rw [cif_neg y]; exact ok
    · rw [if_neg z]; exact ok
  · rw [cif_neg h]; exact ok
theorem x_put {S : St} {H : TH} {v w x : Int32} {post : Int32 → St → Prop} (hH : XH S H) (ok : okTH H) (h : ∀ S' : St, XH S' (q_put H v w x).2 → Fx scH S S' → post (q_put H v w x).1 S') : w_X8_put v w x post S := by
  unfold w_X8_put
  refine x_holderAt (fun n hn en => ⟨fun e => by simp at e, fun k3 e3 => ?_⟩) (fun q => ⟨fun _ => ?_, fun k e => by simp at e⟩)
  · cases e3
    unfold q_put at h
    rw [cif_pos ⟨n, hn, en⟩, en, cl_nI (by omega)] at h
    refine x_refusal (t := 2) hH ok hn (by omega) ⟨fun q => ?_, fun q => ?_⟩
    · rw [if_pos q] at h
      have h2 := refu_0 q (by omega)
      have hl := (ok n hn).2.2 h2
      obtain ⟨r1, r2⟩ := (hH n hn).2.2 h2
      refine x_hasPlace hH ok hn h2 (fun k hk e => br_f (by decide) ?_) (fun z => br_t rfl ?_)
      · rw [cif_pos ⟨k, hk, e⟩, e, cl_nI (by omega)] at h
        rw [e]
        have al : ∀ n, n < 6 → alX (33 + 1 + 3 * n + 2) = 40 := by decide
        refine s_setAt (by rw [al n hn]; omega) (by rw [al n hn]; omega) (h _ (xh_set hH (fun j _ _ _ _ j5 => (sI_o S _ _ _ j j5).1) ?_ (fun e => by simp at e) (fun _ => ⟨?_, fun j hj => ?_⟩)) (Fx.I Fx.rf (by show 34 ≤ _ ∧ _ < 52; omega)))
        · rw [sI_x _ _ _ _ _ _ (by omega), (hH n hn).1, h2]
        · rw [sI_x _ _ _ _ _ _ (by omega)]; exact r1
        · have hj : j < (H n).2.2.2.2.1 := hj
          show _ = va_up (H n).2.2.2.2.2 k x j
          by_cases y : j = k
          · subst y; rw [sI_s, up_s]
          · rw [sI_n _ _ _ _ _ y, r2 j hj]; simp [va_up, y]
      · rw [cif_neg (fun ⟨k, k1, k2⟩ => z k k1 k2)] at h
        exact h S hH Fx.rf
    · rw [if_neg q] at h
      exact h S hH Fx.rf
  · unfold q_put at h
    rw [cif_neg q] at h
    exact h S hH Fx.rf
theorem m_put {S : St} {H : TH} {v w x : Int32} {post : Int32 → St → Prop} (hH : MH S H) (ok : okTH H) (h : ∀ S' : St, MH S' (q_put H v w x).2 → Fm scHm scD S S' → post (q_put H v w x).1 S') : w_X9_put v w x post S := by
  unfold w_X9_put
  refine m_isHolder (fun n hn en => br_f (by decide) ?_) (fun q => br_t rfl ?_)
  · unfold q_put at h
    rw [cif_pos ⟨n, hn, en⟩, en, cl_nI (by omega)] at h
    rw [en]
    refine m_whyNot (t := 2) hH ok hn (by omega) ⟨fun q => ?_, fun q => ?_⟩
    · rw [if_pos q] at h
      have h2 := refu_0 q (by omega)
      have hl := (ok n hn).2.2 h2
      obtain ⟨r1, r2⟩ := (hH n hn).2.2 h2
      rw [nI_clamp (show n < 2 ^ 31 by omega), r1]
      refine ⟨in_nI (by omega), nm_e (nm_e (m_in (lo := 0) (by decide) rfl (fun a1 a2 => br_f (by decide) ?_) (fun a => br_t rfl ?_)))⟩
      · obtain ⟨k, hk, e⟩ := i_less (by omega) a1 a2
        rw [cif_pos ⟨k, hk, e⟩, e, cl_nI (by omega)] at h
        rw [e]
        refine nm_r (e' := nI (40 * n + k)) (by rw [show (40 : Int32) = nI 40 from rfl, pk_mul, nI_add]) ⟨in_nI (by omega), ?_⟩
        rw [nI_clamp (by omega)]
        refine nm_e (h _ (mh_set hH ok (fun k' k1 k2 => ?_) ?_ (fun e => by simp at e) (fun _ => ⟨?_, fun j hj => ?_⟩)) (Fm.A Fm.rf (by simp [scHm]) (by decide)))
        · refine ⟨by rw [sI_x _ _ _ _ _ _ (by decide)], by rw [sI_x _ _ _ _ _ _ (by decide)], by rw [sI_x _ _ _ _ _ _ (by decide)], by rw [sI_x _ _ _ _ _ _ (by decide)], by rw [sI_x _ _ _ _ _ _ (by decide)], fun j hj => ?_⟩
          rw [sI_n _ _ _ _ _ (by omega)]
        · rw [sI_x _ _ _ _ _ _ (by decide), (hH n hn).1, h2]
        · rw [sI_x _ _ _ _ _ _ (by decide)]; exact r1
        · have hj : j < (H n).2.2.2.2.1 := hj
          show _ = va_up (H n).2.2.2.2.2 k x j
          by_cases y : j = k
          · subst y; rw [sI_s, up_s]
          · rw [sI_n _ _ _ _ _ (by omega), r2 j hj]; simp [va_up, y]
      · rw [cif_neg (fun ⟨k, k1, k2⟩ => i_nless (by omega) a k1 k2)] at h
        exact h S hH Fm.rf
    · rw [if_neg q] at h
      exact h S hH Fm.rf
  · unfold q_put at h
    rw [cif_neg q] at h
    exact h S hH Fm.rf
noncomputable def q_get (H : TH) (v w : Int32) : Int64 := cif (iH v ∧ (H (cl v)).1 = 2 ∧ ∃ k, k < (H (cl v)).2.2.2.2.1 ∧ w = nI k) (Int32.toInt64 ((H (cl v)).2.2.2.2.2 (cl w))) (-9223372036854775808)
theorem x_get {S : St} {H : TH} {v w : Int32} {post : Int64 → St → Prop} (hH : XH S H) (ok : okTH H) (h : post (q_get H v w) S) : w_X8_get v w post S := by
  unfold q_get at h
  unfold w_X8_get
  refine x_holderAt (fun n hn en => ⟨fun e => by simp at e, fun k3 e3 => ?_⟩) (fun q => ⟨fun _ => ?_, fun k e => by simp at e⟩)
  · cases e3
    rw [en, cl_nI (show n < 2 ^ 31 by omega)] at h
    refine x_refusal (t := 2) hH ok hn (by omega) ⟨fun q => ?_, fun q => ?_⟩
    · have h2 := refu_0 q (by omega)
      have hl := (ok n hn).2.2 h2
      obtain ⟨r1, r2⟩ := (hH n hn).2.2 h2
      refine x_hasPlace hH ok hn h2 (fun k hk e => br_f (by decide) ?_) (fun z => br_t rfl ?_)
      · rw [cif_pos ⟨⟨n, hn, rfl⟩, h2, k, hk, e⟩, e, cl_nI (by omega)] at h
        rw [e]
        have al : ∀ n, n < 6 → alX (33 + 1 + 3 * n + 2) = 40 := by decide
        refine s_valueAt (by rw [al n hn]; omega) (by rw [al n hn]; omega) ?_
        rw [r2 k hk]; exact h
      · rw [cif_neg (fun ⟨_, _, k, k1, k2⟩ => z k k1 k2)] at h
        exact h
    · rw [cif_neg (fun ⟨_, y, _⟩ => q (by rw [y]; exact refu_y 2 (by omega)))] at h
      exact h
  · rw [cif_neg (fun y => q y.1)] at h
    exact h
theorem m_get {S : St} {H : TH} {v w : Int32} {post : Int64 → St → Prop} (hH : MH S H) (ok : okTH H) (h : post (q_get H v w) S) : w_X9_get v w post S := by
  unfold q_get at h
  unfold w_X9_get
  refine m_isHolder (fun n hn en => br_f (by decide) ?_) (fun q => br_t rfl ?_)
  · rw [en, cl_nI (show n < 2 ^ 31 by omega)] at h
    rw [en, nI_clamp (show n < 2 ^ 31 by omega), (hH n hn).1]
    have := (ok n hn).1
    refine ⟨in_nI (by omega), pk_eq (H n).1 2 (fun h2 => ⟨in_nI (by omega), ?_⟩) (fun q => ?_)⟩
    · have hl := (ok n hn).2.2 h2
      obtain ⟨r1, r2⟩ := (hH n hn).2.2 h2
      rw [r1]
      refine nm_e (nm_e (m_in (lo := 0) (by decide) rfl (fun a1 a2 => br_f (by decide) ?_) (fun a => br_t rfl ?_)))
      · obtain ⟨k, hk, e⟩ := i_less (by omega) a1 a2
        rw [cif_pos ⟨⟨n, hn, rfl⟩, h2, k, hk, e⟩, e, cl_nI (by omega)] at h
        rw [e]
        refine nm_r (e' := nI (40 * n + k)) (by rw [show (40 : Int32) = nI 40 from rfl, pk_mul, nI_add]) ⟨in_nI (by omega), ?_⟩
        rw [nI_clamp (by omega), r2 k hk]; exact h
      · rw [cif_neg (fun ⟨_, _, k, k1, k2⟩ => i_nless (by omega) a k1 k2)] at h
        exact h
    · rw [cif_neg (fun ⟨_, y, _⟩ => q y)] at h
      exact h
  · rw [cif_neg (fun y => q y.1)] at h
    exact h
def jdgV (b g a n : Nat) (f : Nat → Int32) : Int32 := fnd (fun i => !(f i == nI (dg b g a i))) n
noncomputable def q_judge (F : TF) (H : TH) (v w : Int32) : Int32 := cif (iH v ∧ iF F w) (if refu (H (cl v)).1 2 = 0 then jdgV (F.2.2.1 (cl w)) (F.2.2.2 (cl w)) (F.2.1 (cl w)) (H (cl v)).2.2.2.2.1 (H (cl v)).2.2.2.2.2 else refu (H (cl v)).1 2) (-1)
theorem x_judge {S : St} {F : TF} {H : TH} {v w : Int32} {post : Int32 → St → Prop} (hX : XF S 1 F) (okf : okTF F) (hH : XH S H) (ok : okTH H) (h : post (q_judge F H v w) S) : w_X8_judge v w post S := by
  have h8 := okf.1
  unfold q_judge at h
  unfold w_X8_judge
  refine x_holderAt (fun n hn en => ⟨fun e => by simp at e, fun k3 e3 => ?_⟩) (fun q => ⟨fun _ => ?_, fun k e => by simp at e⟩)
  · cases e3
    refine x_at hX okf.1 (fun k hk e => ⟨fun e => by simp at e, fun k4 e4 => ?_⟩) (fun z => ⟨fun _ => by rw [cif_neg (fun y => iF.no z y.2)] at h; exact h, fun k e => by simp at e⟩)
    cases e4
    rw [cif_pos ⟨⟨n, hn, en⟩, ⟨k, hk, e⟩⟩, en, e, cl_nI (by omega), cl_nI (by omega)] at h
    have hF := hX.2 k hk
    have o := okf.2 k hk
    refine x_refusal (t := 2) hH ok hn (by omega) ⟨fun q => ?_, fun q => ?_⟩
    · rw [if_pos q] at h
      have h2 := refu_0 q (by omega)
      have hl := (ok n hn).2.2 h2
      obtain ⟨r1, r2⟩ := (hH n hn).2.2 h2
      unfold jdgV at h
      unfold w_X2_firstUnlike
      generalize F.2.1 k = a at *
      generalize F.2.2.1 k = b at *
      generalize F.2.2.2 k = g at *
      generalize (H n).2.2.2.2.1 = l at *
      generalize (H n).2.2.2.2.2 = f at *
      refine s_restAt (i := 0) hF o (by omega) ⟨l + 1, ?_⟩
      have al : ∀ n, n < 6 → alX (33 + 1 + 3 * n + 2) = 40 := by decide
      have loop : ∀ t i r, i + t = l → t < r → (if lsf (fun i => !(f i == nI (dg b g a i))) t i = l then (-2 : Int32) else nI (lsf (fun i => !(f i == nI (dg b g a i))) t i)) = fnd (fun i => !(f i == nI (dg b g a i))) l → w_X2_firstUnlike_8 post r (33 + 1 + 3 * n) (1 + 1 + 1 + k) (nI (rs b g a i)) (nI i) S := by
        intro t
        induction t with
        | zero =>
          intro i r h1 h2 h3
          obtain ⟨r, rfl⟩ : ∃ j, r = j + 1 := ⟨r - 1, by omega⟩
          rw [lsf, if_pos (by omega)] at h3
          rw [w_X2_firstUnlike_8, r1]
          exact pk_le l i (fun _ => by rw [h3]; exact h) (fun y => by omega)
        | succ t ih =>
          intro i r h1 h2 h3
          obtain ⟨r, rfl⟩ : ∃ j, r = j + 1 := ⟨r - 1, by omega⟩
          rw [w_X2_firstUnlike_8, r1]
          refine pk_le l i (fun y => by omega) (fun y => s_valueAt (by rw [al n hn]; omega) (by rw [al n hn]; omega) (s_digitOf hF o ?_))
          rw [r2 i y]
          refine ⟨fun z => ?_, fun z => ?_⟩
          · rw [lsf_f (by simp [z])] at h3
            exact s_restAfter hF o (nm_r (e' := nI (i + 1)) (nI_1 i) (ih (i + 1) r (by omega) (by omega) h3))
          · rw [lsf_t (by simp [z]), if_neg (by omega)] at h3
            rw [h3]; exact h
      exact loop l 0 _ (by omega) (by omega) rfl
    · rw [if_neg q] at h
      exact h
  · rw [cif_neg (fun y => q y.1)] at h
    exact x_at hX okf.1 (fun k hk e => ⟨fun e => by simp at e, fun _ _ => h⟩) (fun _ => ⟨fun _ => h, fun k e => by simp at e⟩)
theorem m_judge {S : St} {F : TF} {H : TH} {v w : Int32} {post : Int32 → St → Prop} (hM : MF S F) (okf : okTF F) (hH : MH S H) (ok : okTH H) (h : ∀ S' : St, Fm scD scD S S' → post (q_judge F H v w) S') : w_X9_judge v w post S := by
  have h8 := okf.1
  unfold q_judge at h
  unfold w_X9_judge
  refine m_isHolder (fun n hn en => br_f (by decide) ?_) (fun q => br_t rfl (by have h := h S Fm.rf; rw [cif_neg (fun y => q y.1)] at h; exact h))
  refine m_isFraction hM okf.1 (fun k hk e => br_f (by decide) ?_) (fun z => br_t rfl (by have h := h S Fm.rf; rw [cif_neg (fun y => iF.no z y.2)] at h; exact h))
  rw [cif_pos ⟨⟨n, hn, en⟩, ⟨k, hk, e⟩⟩, en, e, cl_nI (by omega), cl_nI (by omega)] at h
  rw [en, e]
  refine m_whyNot (t := 2) hH ok hn (by omega) ⟨fun q => ?_, fun q => ?_⟩
  · rw [if_pos q] at h
    have h2 := refu_0 q (by omega)
    have hl := (ok n hn).2.2 h2
    obtain ⟨o1, o2, o3, o4, o5⟩ := okf.2 k hk
    refine m_looksAt hM okf hk (fun T hL hx => ⟨(H n).2.2.2.2.1 + 1, ?_⟩)
    have h := h T hx
    obtain ⟨r1, r2⟩ := (hH n hn).2.2 h2
    rw [← hx.1 19 (by decide) (by simp [scD])] at r1
    rw [← hx.1 20 (by decide) (by simp [scD])] at r2
    unfold jdgV at h
    generalize F.2.1 k = a at *
    generalize F.2.2.1 k = b at *
    generalize F.2.2.2 k = g at *
    generalize (H n).2.2.2.2.1 = l at *
    generalize (H n).2.2.2.2.2 = f at *
    have hll := hd_ln_le o2 o3 o4 o5 a
    have loop : ∀ t i r, i + t = l → t < r → (if lsf (fun i => !(f i == nI (dg b g a i))) t i = l then (-2 : Int32) else nI (lsf (fun i => !(f i == nI (dg b g a i))) t i)) = fnd (fun i => !(f i == nI (dg b g a i))) l → w_X9_judge_38 post r (nI n) (nI i) T := by
      intro t
      induction t with
      | zero =>
        intro i r h1 h2 h3
        obtain ⟨r, rfl⟩ : ∃ j, r = j + 1 := ⟨r - 1, by omega⟩
        rw [lsf, if_pos (by omega)] at h3
        rw [w_X9_judge_38, nI_clamp (show n < 2 ^ 31 by omega), r1]
        exact ⟨in_nI (by omega), pk_le l i (fun _ => by rw [h3]; exact h) (fun y => by omega)⟩
      | succ t ih =>
        intro i r h1 h2 h3
        obtain ⟨r, rfl⟩ : ∃ j, r = j + 1 := ⟨r - 1, by omega⟩
        have hpl := plc_lt b g a i
        rw [w_X9_judge_38, nI_clamp (show n < 2 ^ 31 by omega), r1]
        refine ⟨in_nI (by omega), pk_le l i (fun y => by omega) (fun y => nm_r (e' := nI (40 * n + i)) (by rw [show (40 : Int32) = nI 40 from rfl, pk_mul, nI_add]) ⟨in_nI (by omega), m_placeOf hL o2 o3 o4 o5 (by omega) ⟨in_nI (by omega), ?_⟩⟩)⟩
        rw [nI_clamp (by omega), nI_clamp (by omega), r2 i y, (hL.2.2.2 _ hpl).2, dg_plc o2 o3 o4 o5]
        refine ⟨fun z => ?_, fun z => ?_⟩
        · rw [lsf_f (by simp [z])] at h3
          exact nm_r (e' := nI (i + 1)) (nI_1 i) (ih (i + 1) r (by omega) (by omega) h3)
        · rw [lsf_t (by simp [z]), if_neg (by omega)] at h3
          rw [h3]; exact h
    exact loop l 0 _ (by omega) (by omega) rfl
  · rw [if_neg q] at h
    exact h S Fm.rf
