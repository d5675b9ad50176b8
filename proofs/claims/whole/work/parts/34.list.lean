/-! list, listed, count -/
def isB (v : Int32) : Prop := ∃ g, 2 ≤ g ∧ g < 17 ∧ v = nI g
theorem isB.no {v : Int32} (n : ∀ g, 2 ≤ g → g < 17 → v ≠ nI g) : ¬ isB v := fun ⟨g, g1, g2, e⟩ => n g g1 g2 e
noncomputable def q_list (L : TL) (v w : Int32) : Int32 × TL := cif ((∃ n, 2 ≤ n ∧ n ≤ 400 ∧ v = nI n) ∧ isB w) (nI (cl v - 1), (cl v - 1, cl w, fun i => i + 2)) (-1, L)
theorem ok_list {L : TL} (ok : okTL L) (v w : Int32) : okTL (q_list L v w).2 := by
  unfold q_list
  by_cases h : (∃ n, 2 ≤ n ∧ n ≤ 400 ∧ v = nI n) ∧ isB w
  · rw [cif_pos h]
    obtain ⟨⟨n, n1, n2, rfl⟩, ⟨g, g1, g2, rfl⟩⟩ := h
    rw [cl_nI (by omega), cl_nI (by omega)]
    exact ⟨by show n - 1 ≤ 399; omega, g1, g2, fun i hi => by have hi : i < n - 1 := hi; exact ⟨by show 2 ≤ i + 2; omega, by show i + 2 ≤ 400; omega⟩⟩
  · rw [cif_neg h]; exact ok
abbrev scL (j : Nat) : Prop := j = 21 ∨ j = 22
abbrev scLm (j : Nat) : Prop := j = 9
abbrev scLe (i : Nat) : Prop := i = 14 ∨ i = 15
theorem x_list {S : St} {L : TL} {v w : Int32} {post : Int32 → St → Prop} (hX : XL S 21 L) (h : ∀ S' : St, XL S' 21 (q_list L v w).2 → Fx scL S S' → post (q_list L v w).1 S') : w_X8_list v w post S := by
  have bad : ¬ ((∃ n, 2 ≤ n ∧ n ≤ 400 ∧ v = nI n) ∧ isB w) → post (-1) S := fun q => by
    unfold q_list at h
    rw [cif_neg q] at h
    exact h S hX Fx.rf
  unfold w_X8_list
  refine s_isWithin (fun a1 a2 => br_f (by decide) ?_) (fun a => br_t rfl (bad (fun q => by obtain ⟨⟨n, n1, n2, e⟩, -⟩ := q; exact i_outside (l := 2) (h := 400) rfl rfl a n1 n2 (by omega) e)))
  obtain ⟨n, n1, n2, rfl⟩ := i_between (l := 2) (h := 400) rfl rfl a1 a2
  refine s_isBase (fun g g1 g2 eg => br_f (by decide) ?_) (fun z => br_t rfl (bad (fun q => isB.no z q.2)))
  subst eg
  unfold q_list at h
  rw [cif_pos ⟨⟨n, n1, n2, rfl⟩, ⟨g, g1, g2, rfl⟩⟩, cl_nI (by omega), cl_nI (by omega)] at h
  unfold w_X0_fillTo
  refine nm_e (nm_r (e' := nI (n - 1)) (pk_sub (b := 1) (by omega)) (nm_e ⟨n, ?_⟩))
  have loop : ∀ r i (T : St), i ≤ n - 1 → n - 1 < i + r → T.1 21 1 = nI (n - 1) → T.1 21 2 = nI g → (∀ j, j < i → T.1 22 j = nI (j + 2)) → Fx scL S T → w_X0_fillTo_14 (fun S7 => post (S7.1 21 1) S7) r 21 (nI i) T := by
    intro r
    induction r with
    | zero => intro i T h1 h2; omega
    | succ r ih =>
      intro i T h1 h2 t1 t2 t3 hx
      rw [w_X0_fillTo_14, t1]
      refine pk_le (n - 1) i (fun q => ?_) (fun q => ?_)
      · exact h T ⟨t1, t2, fun j hj => t3 j (by have hj : j < n - 1 := hj; omega)⟩ hx
      · refine nm_r (e' := nI (i + 2)) (nI_add i 2) (s_setAt (by show i < 399; omega) (by decide) (nm_r (e' := nI (i + 1)) (nI_1 i) (ih (i + 1) _ q (by omega) ?_ ?_ (fun j hj => ?_) (Fx.I hx (Or.inr rfl)))))
        · rw [sI_x _ _ _ _ _ _ (by decide)]; exact t1
        · rw [sI_x _ _ _ _ _ _ (by decide)]; exact t2
        · by_cases z : j = i
          · subst z; rw [sI_s]
          · rw [sI_n _ _ _ _ _ z]; exact t3 j (by omega)
  exact loop n 0 _ (Nat.zero_le _) (by omega) (sI_s _ _ _ _) (by rw [sI_n _ _ _ _ _ (by decide), sI_s]) (fun j hj => by omega) (Fx.I (Fx.I Fx.rf (Or.inl rfl)) (Or.inl rfl))
theorem m_list {S : St} {L : TL} {v w : Int32} {post : Int32 → St → Prop} (hM : ML S L) (h : ∀ S' : St, ML S' (q_list L v w).2 → Fm scLm scLe S S' → post (q_list L v w).1 S') : w_X9_list v w post S := by
  have bad : ¬ ((∃ n, 2 ≤ n ∧ n ≤ 400 ∧ v = nI n) ∧ isB w) → post (-1) S := fun q => by
    unfold q_list at h
    rw [cif_neg q] at h
    exact h S hM Fm.rf
  unfold w_X9_list
  refine nm_e (m_in (lo := 2) (hi := 400) (by decide) (by decide) (fun a1 a2 => br_f (by decide) ?_) (fun a => br_t rfl (bad (fun q => by obtain ⟨⟨n, n1, n2, e⟩, -⟩ := q; exact i_outside (l := 2) (h := 400) rfl rfl a n1 n2 (by omega) e))))
  obtain ⟨n, n1, n2, rfl⟩ := i_between (l := 2) (h := 400) rfl rfl a1 a2
  refine m_isBase (fun g g1 g2 eg => br_f (by decide) ?_) (fun z => br_t rfl (bad (fun q => isB.no z q.2)))
  subst eg
  unfold q_list at h
  rw [cif_pos ⟨⟨n, n1, n2, rfl⟩, ⟨g, g1, g2, rfl⟩⟩, cl_nI (by omega), cl_nI (by omega)] at h
  refine nm_e (nm_e ⟨n, ?_⟩)
  have loop : ∀ r i (T : St), i ≤ n - 1 → n - 1 < i + r → T.1 0 14 = nI i → T.1 0 15 = nI g → (∀ j, j < i → T.1 9 j = nI (j + 2)) → Fm scLm scLe S T → w_X9_list_35 post r (nI n) (nI (i + 2)) T := by
    intro r
    induction r with
    | zero => intro i T h1 h2; omega
    | succ r ih =>
      intro i T h1 h2 t1 t2 t3 hx
      rw [w_X9_list_35, t1]
      refine pk_lt n (i + 2) (fun q => ?_) (fun q => ?_)
      · have : i = n - 1 := by omega
        subst this
        exact h T ⟨t1, t2, fun j hj => t3 j hj⟩ hx
      · refine nm_e ⟨in_nI (by omega), ?_⟩
        rw [nI_clamp (show i < 2 ^ 31 by omega)]
        refine nm_e (nm_r (e' := nI (i + 1)) (by rw [sI_x _ _ _ _ _ _ (by decide), t1, nI_1]) (nm_e (nm_r (e' := nI (i + 1 + 2)) (nI_1 (i + 2)) (ih (i + 1) _ (by omega) (by omega) (sI_s _ _ _ _) ?_ (fun j hj => ?_) (Fm.F (Fm.A hx rfl (by decide)) (Or.inl rfl))))))
        · rw [sI_n _ _ _ _ _ (by decide), sI_x _ _ _ _ _ _ (by decide)]; exact t2
        · rw [sI_x _ _ _ _ _ _ (by decide)]
          by_cases z : j = i
          · subst z; rw [sI_s]
          · rw [sI_n _ _ _ _ _ z]; exact t3 j (by omega)
  exact loop n 0 _ (Nat.zero_le _) (by omega) (by rw [sI_n _ _ _ _ _ (by decide), sI_s]; rfl) (sI_s _ _ _ _) (fun j hj => by omega) (Fm.F (Fm.F Fm.rf (Or.inl rfl)) (Or.inr rfl))
noncomputable def q_listed (L : TL) (v : Int32) : Int32 := cif (∃ n, n < L.1 ∧ v = nI n) (nI (L.2.2 (cl v))) (if 0 ≤ v then -2 else -1)
theorem q_listed_at {L : TL} {n : Nat} (h : n < L.1) (hn : n < 2 ^ 31) : q_listed L (nI n) = nI (L.2.2 n) := by
  unfold q_listed
  rw [cif_pos ⟨n, h, rfl⟩, cl_nI hn]
theorem x_listed {S : St} {L : TL} {v : Int32} {post : Int32 → St → Prop} (hX : XL S 21 L) (ok : okTL L) (h : post (q_listed L v) S) : w_X8_listed v post S := by
  have h3 := ok.1
  unfold w_X8_listed
  rw [hX.1]
  refine ⟨fun q => ?_, fun q => ?_⟩
  · obtain ⟨n, hn, rfl⟩ : ∃ n : Nat, n < 2 ^ 31 ∧ v = nI n := nI_of (Int32.not_lt.mpr q)
    refine pk_le L.1 n (fun z => ?_) (fun z => s_valueAt (by show n < 399; omega) (by decide) ?_)
    · unfold q_listed at h
      rw [cif_neg (fun ⟨m, m1, m2⟩ => by have := nI_inj m2; omega), if_pos q] at h
      exact h
    · rw [q_listed_at z hn] at h
      rw [hX.2.2 n z]; exact h
  · unfold q_listed at h
    rw [cif_neg (fun ⟨m, m1, m2⟩ => q (by rw [m2]; exact Int32.not_lt.mp (nI_pos (by omega)))), if_neg q] at h
    exact h
theorem m_listed {S : St} {L : TL} {v : Int32} {post : Int32 → St → Prop} (hM : ML S L) (ok : okTL L) (h : post (q_listed L v) S) : w_X9_listed v post S := by
  have h3 := ok.1
  unfold w_X9_listed
  rw [hM.1]
  refine ⟨fun q => ?_, fun q => ?_⟩
  · obtain ⟨n, hn, rfl⟩ : ∃ n : Nat, n < 2 ^ 31 ∧ v = nI n := nI_of (Int32.not_lt.mpr q)
    refine pk_le L.1 n (fun z => ?_) (fun z => ⟨in_nI (by omega), ?_⟩)
    · unfold q_listed at h
      rw [cif_neg (fun ⟨m, m1, m2⟩ => by have := nI_inj m2; omega), if_pos q] at h
      exact h
    · rw [q_listed_at z hn] at h
      rw [nI_clamp hn, hM.2.2 n z]; exact h
  · unfold q_listed at h
    rw [cif_neg (fun ⟨m, m1, m2⟩ => q (by rw [m2]; exact Int32.not_lt.mp (nI_pos (by omega)))), if_neg q] at h
    exact h
def q_count (F : TF) (L : TL) (T : TT) (v : Int32) : Int32 := if v = 0 then nI F.1 else if v = 1 then nI L.1 else if v = 2 then nI L.2.1 else if v = 3 then nI T.1 else -1
theorem x_count {S : St} {F : TF} {L : TL} {T : TT} {v : Int32} {post : Int32 → St → Prop} (hF : XF S 1 F) (hL : XL S 21 L) (hT : XT S T) (h : post (q_count F L T v) S) : w_X8_count v post S := by
  unfold w_X8_count
  unfold q_count at h
  rw [hF.1, hL.1, hL.2.1, hT.1]
  refine ⟨fun q => by rw [if_pos q] at h; exact h, fun q => ?_⟩
  rw [if_neg q] at h
  refine ⟨fun q => by rw [if_pos q] at h; exact h, fun q => ?_⟩
  rw [if_neg q] at h
  refine ⟨fun q => by rw [if_pos q] at h; exact h, fun q => ?_⟩
  rw [if_neg q] at h
  refine ⟨fun q => by rw [if_pos q] at h; exact h, fun q => ?_⟩
  rw [if_neg q] at h
  exact h
theorem m_count {S : St} {F : TF} {L : TL} {T : TT} {v : Int32} {post : Int32 → St → Prop} (hF : MF S F) (hL : ML S L) (hT : MT S T) (h : post (q_count F L T v) S) : w_X9_count v post S := by
  unfold w_X9_count
  unfold q_count at h
  rw [hF.1, hL.1, hL.2.1, hT.1]
  refine ⟨fun q => by rw [if_pos q] at h; exact h, fun q => ?_⟩
  rw [if_neg q] at h
  refine ⟨fun q => by rw [if_pos q] at h; exact h, fun q => ?_⟩
  rw [if_neg q] at h
  refine ⟨fun q => by rw [if_pos q] at h; exact h, fun q => ?_⟩
  rw [if_neg q] at h
  refine ⟨fun q => by rw [if_pos q] at h; exact h, fun q => ?_⟩
  rw [if_neg q] at h
  exact h
/-! feed, wipe -/
theorem and255 (x : Int32) : ∃ n, n < 256 ∧ x &&& 255 = nI n := by
  have h1 : (x &&& 255).toBitVec.toNat < 256 := by
    rw [Int32.toBitVec_and, BitVec.toNat_and]
    have : x.toBitVec.toNat &&& (255 : Int32).toBitVec.toNat ≤ (255 : Int32).toBitVec.toNat := Nat.and_le_right
    have e : (255 : Int32).toBitVec.toNat = 255 := by decide
    omega
  have h2 : (x &&& 255).toInt = ((x &&& 255).toBitVec.toNat : Int) := by
    show (x &&& 255).toBitVec.toInt = _
    rw [BitVec.toInt_eq_toNat_of_lt (by omega)]
  refine ⟨(x &&& 255).toBitVec.toNat, h1, ?_⟩
  rw [← Int32.toInt_inj, h2, nI_toInt (by omega)]
def byt (v : Int32) (i : Nat) : Nat := cl ((iush v (8 * nI i)) &&& 255)
theorem byt_is (v : Int32) (i : Nat) : byt v i < 256 ∧ (iush v (8 * nI i)) &&& 255 = nI (byt v i) := by
  obtain ⟨n, h1, h2⟩ := and255 (iush v (8 * nI i))
  unfold byt
  rw [h2, cl_nI (by omega)]
  exact ⟨h1, rfl⟩
def fdT (T : TT) (v : Int32) : Nat → TT
  | 0 => T
  | n + 1 => fdT (T.1 + 1, va_up T.2 T.1 (byt v n)) v n
theorem ok_fdT (v : Int32) : ∀ n (T : TT), okTT T → T.1 + n ≤ 80 → okTT (fdT T v n) ∧ (fdT T v n).1 = T.1 + n := by
  intro n
  induction n with
  | zero => intro T ok _; exact ⟨ok, rfl⟩
  | succ n ih =>
    intro T ok h
    rw [fdT]
    have := ih (T.1 + 1, va_up T.2 T.1 (byt v n)) ⟨by show T.1 + 1 ≤ 80; omega, fun i hi => by
      have hi : i < T.1 + 1 := hi
      show va_up T.2 T.1 (byt v n) i < 256
      by_cases z : i = T.1
      · rw [z, up_s]; exact (byt_is v n).1
      · rw [show va_up T.2 T.1 (byt v n) i = T.2 i by simp [va_up, z]]; exact ok.2 i (by omega)⟩ (by show T.1 + 1 + n ≤ 80; omega)
    exact ⟨this.1, by rw [this.2]; show T.1 + 1 + n = T.1 + (n + 1); omega⟩
noncomputable def q_feed (T : TT) (v w : Int32) : Int32 × TT := cif (∃ n, 1 ≤ n ∧ n ≤ 4 ∧ w = nI n) (if T.1 + cl w ≤ 80 then (nI (T.1 + cl w), fdT T v (cl w)) else (-3, T)) (-1, T)
theorem ok_feed {T : TT} (ok : okTT T) (v w : Int32) : okTT (q_feed T v w).2 := by
  unfold q_feed
  by_cases h : ∃ n, 1 ≤ n ∧ n ≤ 4 ∧ w = nI n
  · rw [cif_pos h]
    by_cases z : T.1 + cl w ≤ 80
    · rw [if_pos z]; exact (ok_fdT v (cl w) T ok z).1
    · rw [if_neg z]; exact ok
  · rw [cif_neg h]; exact ok
abbrev scT (j : Nat) : Prop := j = 27 ∨ j = 28
abbrev scTm (j : Nat) : Prop := j = 13
abbrev scTe (i : Nat) : Prop := i = 21
theorem x_feed {S : St} {T : TT} {v w : Int32} {post : Int32 → St → Prop} (hX : XT S T) (ok : okTT T) (h : ∀ S' : St, XT S' (q_feed T v w).2 → Fx scT S S' → post (q_feed T v w).1 S') : w_X8_feed v w post S := by
  have h8 := ok.1
  unfold w_X8_feed
  refine s_isWithin (fun a1 a2 => br_f (by decide) ?_) (fun a => br_t rfl ?_)
  · obtain ⟨n, n1, n2, rfl⟩ := i_between (l := 1) (h := 4) rfl rfl a1 a2
    unfold q_feed at h
    rw [cif_pos ⟨n, n1, n2, rfl⟩, cl_nI (by omega)] at h
    rw [hX.1, nI_add]
    refine pk_le (T.1 + n) 80 (fun q => ?_) (fun q => ?_)
    · rw [if_pos q] at h
      refine nm_r (e' := nI (n - 1)) (pk_sub (b := 1) (by omega)) ⟨n + 2, ?_⟩
      have stop : ∀ r (T' : TT) (S' : St), XT S' T' → T' = fdT T v n → Fx scT S S' → w_X8_feed_32 post (r + 1) v (-1) S' := by
        intro r T' S' hT hT2 hx
        rw [w_X8_feed_32]
        refine br_t (by decide) ?_
        have e := (ok_fdT v n T ok q).2
        have := h S' (hT2 ▸ hT) hx
        rw [hT.1, hT2, e]
        exact this
      have step : ∀ r i (T' : TT) (S' : St), XT S' T' → T'.1 < 80 → i < 4 → Fx scT S S' → (∀ S2 : St, XT S2 (T'.1 + 1, va_up T'.2 T'.1 (byt v i)) → Fx scT S S2 → w_X8_feed_32 post r v (nI i + (-1)) S2) → w_X8_feed_32 post (r + 1) v (nI i) S' := by
        intro r i T' S' hT hT2 hi hx hp
        rw [w_X8_feed_32]
        refine br_f (nI_pos (by omega)) (nm_r (byt_is v i).2 ?_)
        unfold w_X7_add
        rw [hT.1]
        refine pk_le 80 T'.1 (fun z => by omega) (fun z => nm_e (s_setAt (by show T'.1 < 80; omega) (by decide) (nm_r (e' := nI (T'.1 + 1)) (by rw [sI_x _ _ _ _ _ _ (by decide), hT.1, nI_1]) (nm_e (nm_e (hp _ ⟨sI_s _ _ _ _, fun j hj => ?_⟩ (Fx.I (Fx.I hx (Or.inr rfl)) (Or.inl rfl))))))))
        rw [sI_x _ _ _ _ _ _ (by decide)]
        have hj : j < T'.1 + 1 := hj
        show _ = nI (va_up T'.2 T'.1 (byt v i) j)
        by_cases y : j = T'.1
        · rw [y, sI_s, up_s]
        · rw [sI_n _ _ _ _ _ y, hT.2 j (by omega)]; simp [va_up, y]
      have key : ∀ i r (T' : TT) (S' : St), i < n → i + 2 < r → T'.1 + (i + 1) ≤ 80 → XT S' T' → fdT T' v (i + 1) = fdT T v n → Fx scT S S' → w_X8_feed_32 post r v (nI i) S' := by
        intro i
        induction i with
        | zero =>
          intro r T' S' h1 h2 h3 hT hT2 hx
          obtain ⟨r, rfl⟩ : ∃ j, r = j + 1 + 1 := ⟨r - 2, by omega⟩
          exact step _ 0 T' S' hT (by omega) (by omega) hx (fun S2 hS hx2 => stop r _ S2 hS hT2 hx2)
        | succ i ih =>
          intro r T' S' h1 h2 h3 hT hT2 hx
          obtain ⟨r, rfl⟩ : ∃ j, r = j + 1 := ⟨r - 1, by omega⟩
          refine step _ (i + 1) T' S' hT (by omega) (by omega) hx (fun S2 hS hx2 => ?_)
          rw [pk_m1]
          exact ih r _ S2 (by omega) (by omega) (by show T'.1 + 1 + (i + 1) ≤ 80; omega) hS hT2 hx2
      exact key (n - 1) (n + 2) T S (by omega) (by omega) (by omega) hX (by rw [show n - 1 + 1 = n by omega]) Fx.rf
    · rw [if_neg (by omega)] at h
      exact h S hX Fx.rf
  · unfold q_feed at h
    rw [cif_neg (fun ⟨n, n1, n2, e⟩ => i_outside (l := 1) (h := 4) rfl rfl a n1 n2 (by omega) e)] at h
    exact h S hX Fx.rf
theorem m_feed {S : St} {T : TT} {v w : Int32} {post : Int32 → St → Prop} (hM : MT S T) (ok : okTT T) (h : ∀ S' : St, MT S' (q_feed T v w).2 → Fm scTm scTe S S' → post (q_feed T v w).1 S') : w_X9_feed v w post S := by
  have h8 := ok.1
  unfold w_X9_feed
  refine nm_e (m_in (lo := 1) (hi := 4) (by decide) (by decide) (fun a1 a2 => br_f (by decide) ?_) (fun a => br_t rfl ?_))
  · obtain ⟨n, n1, n2, rfl⟩ := i_between (l := 1) (h := 4) rfl rfl a1 a2
    unfold q_feed at h
    rw [cif_pos ⟨n, n1, n2, rfl⟩, cl_nI (by omega)] at h
    rw [hM.1, nI_add]
    refine pk_le (T.1 + n) 80 (fun q => ?_) (fun q => ?_)
    · rw [if_pos q] at h
      refine nm_r (e' := nI (n - 1)) (pk_sub (b := 1) (by omega)) ⟨n + 2, ?_⟩
      have stop : ∀ r (T' : TT) (S' : St), MT S' T' → T' = fdT T v n → Fm scTm scTe S S' → w_X9_feed_32 post (r + 1) v (-1) S' := by
        intro r T' S' hT hT2 hx
        rw [w_X9_feed_32]
        refine br_t (by decide) ?_
        have e := (ok_fdT v n T ok q).2
        have := h S' (hT2 ▸ hT) hx
        rw [hT.1, hT2, e]
        exact this
      have step : ∀ r i (T' : TT) (S' : St), MT S' T' → T'.1 < 80 → i < 4 → Fm scTm scTe S S' → (∀ S2 : St, MT S2 (T'.1 + 1, va_up T'.2 T'.1 (byt v i)) → Fm scTm scTe S S2 → w_X9_feed_32 post r v (nI i + (-1)) S2) → w_X9_feed_32 post (r + 1) v (nI i) S' := by
        intro r i T' S' hT hT2 hi hx hp
        rw [w_X9_feed_32]
        refine br_f (nI_pos (by omega)) (nm_r hT.1 (nm_r (byt_is v i).2 ⟨in_nI (by omega), ?_⟩))
        rw [nI_clamp (show T'.1 < 2 ^ 31 by omega)]
        refine nm_e (nm_r (e' := nI (T'.1 + 1)) (by rw [sI_x _ _ _ _ _ _ (by decide), hT.1, nI_1]) (nm_e (nm_e (hp _ ⟨sI_s _ _ _ _, fun j hj => ?_⟩ (Fm.F (Fm.A hx rfl (by decide)) rfl)))))
        rw [sI_x _ _ _ _ _ _ (by decide)]
        have hj : j < T'.1 + 1 := hj
        show _ = nI (va_up T'.2 T'.1 (byt v i) j)
        by_cases y : j = T'.1
        · rw [y, sI_s, up_s]
        · rw [sI_n _ _ _ _ _ y, hT.2 j (by omega)]; simp [va_up, y]
      have key : ∀ i r (T' : TT) (S' : St), i < n → i + 2 < r → T'.1 + (i + 1) ≤ 80 → MT S' T' → fdT T' v (i + 1) = fdT T v n → Fm scTm scTe S S' → w_X9_feed_32 post r v (nI i) S' := by
        intro i
        induction i with
        | zero =>
          intro r T' S' h1 h2 h3 hT hT2 hx
          obtain ⟨r, rfl⟩ : ∃ j, r = j + 1 + 1 := ⟨r - 2, by omega⟩
          exact step _ 0 T' S' hT (by omega) (by omega) hx (fun S2 hS hx2 => stop r _ S2 hS hT2 hx2)
        | succ i ih =>
          intro r T' S' h1 h2 h3 hT hT2 hx
          obtain ⟨r, rfl⟩ : ∃ j, r = j + 1 := ⟨r - 1, by omega⟩
          refine step _ (i + 1) T' S' hT (by omega) (by omega) hx (fun S2 hS hx2 => ?_)
          rw [pk_m1]
          exact ih r _ S2 (by omega) (by omega) (by show T'.1 + 1 + (i + 1) ≤ 80; omega) hS hT2 hx2
      exact key (n - 1) (n + 2) T S (by omega) (by omega) (by omega) hM (by rw [show n - 1 + 1 = n by omega]) Fm.rf
    · rw [if_neg (by omega)] at h
      exact h S hM Fm.rf
  · unfold q_feed at h
    rw [cif_neg (fun ⟨n, n1, n2, e⟩ => i_outside (l := 1) (h := 4) rfl rfl a n1 n2 (by omega) e)] at h
    exact h S hM Fm.rf
theorem x_clear {S : St} {T : TT} {post : St → Prop} (h : ∀ S' : St, XT S' (0, T.2) → Fx scT S S' → post S') : w_X7_clear post S := by
  unfold w_X7_clear
  exact nm_e (h _ ⟨sI_s _ _ _ _, fun i hi => absurd hi (Nat.not_lt_zero i)⟩ (Fx.I Fx.rf (Or.inl rfl)))
theorem x_wipe {S : St} {T : TT} {post : Int32 → St → Prop} (hX : XT S T) (h : ∀ S' : St, XT S' (0, T.2) → Fx scT S S' → post (nI T.1) S') : w_X8_wipe post S := by
  unfold w_X8_wipe
  exact nm_r hX.1 (x_clear h)
theorem m_wipe {S : St} {T : TT} {post : Int32 → St → Prop} (hM : MT S T) (h : ∀ S' : St, MT S' (0, T.2) → Fm scTm scTe S S' → post (nI T.1) S') : w_X9_wipe post S := by
  unfold w_X9_wipe
  exact nm_r hM.1 (nm_e (h _ ⟨sI_s _ _ _ _, fun i hi => absurd hi (Nat.not_lt_zero i)⟩ (Fm.F Fm.rf rfl)))
