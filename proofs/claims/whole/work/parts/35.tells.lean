/-! tells -/
theorem l_neg {n : Nat} (h : n < 2 ^ 31) : Int32.toInt64 (-(nI n)) = -(lN n) := by
  rw [← toL h, ← Int64.toInt_inj, Int32.toInt_toInt64, sb_negT h, Int64.toInt_neg, Int32.toInt_toInt64, nI_toInt h]
  rw [Int.bmod_def]
  omega
def wth (t i d v : Nat) : Int64 := if t = 0 then lN d else if t = 1 then lN (d * (i + 1)) else if t = 2 then (if i % 2 = 0 then lN (d * (i + 1)) else -(lN (d * (i + 1)))) else if t = 3 then lN (d * d) else if t = 4 then (if v < d * d then lN v else lN (d * d)) else if d ≤ v then 0 else 1
def sumW (b g a t v : Nat) : Nat → Int64
  | 0 => 0
  | i + 1 => sumW b g a t v i + wth t i (dg b g a (hd b g a + i)) v
def okTe (F : TF) (x t v : Int32) : Prop := iF F x ∧ (∃ n, n ≤ 5 ∧ t = nI n) ∧ ∃ n, n ≤ 99 ∧ v = nI n
noncomputable def q_tells (F : TF) (x t v : Int32) : Int64 := cif (okTe F x t v) (sumW (F.2.2.1 (cl x)) (F.2.2.2 (cl x)) (F.2.1 (cl x)) (cl t) (cl v) (lnF F x)) (-9223372036854775808)
theorem x_worth {S : St} {t i d v : Nat} {post : Int64 → St → Prop} (ht : t ≤ 5) (hi : i < 1000) (hd : d < 17) (hv : v < 100) (h : post (wth t i d v) S) : w_X4_worth (nI t) (nI i) (nI d) (nI v) (fun r S' => post (Int32.toInt64 r) S') S := by
  have m1 : d * (i + 1) ≤ 17 * 1000 := mul_bd (by omega) (by omega)
  have m2 : d * d ≤ 17 * 17 := mul_bd (by omega) (by omega)
  unfold w_X4_worth
  unfold wth at h
  refine pk_eq t 0 (fun z => ?_) (fun z => ?_)
  · rw [if_pos z] at h; rw [toL (by omega)]; exact h
  rw [if_neg z] at h
  refine pk_eq t 1 (fun z => ?_) (fun z => ?_)
  · rw [if_pos z] at h; rw [nI_1, pk_mul, toL (by omega)]; exact h
  rw [if_neg z] at h
  refine pk_eq t 2 (fun z => ?_) (fun z => ?_)
  · rw [if_pos z] at h
    rw [show jr (nI i) 2 = nI (i % 2) from jr_nI (d := 2) (by omega) (by omega) (by omega)]
    have := Nat.mod_lt i (show 0 < 2 by omega)
    refine pk_eq (i % 2) 0 (fun y => ?_) (fun y => ?_)
    · rw [if_pos y] at h; rw [nI_1, pk_mul, toL (by omega)]; exact h
    · rw [if_neg y] at h; rw [nI_1, Int32.neg_mul, pk_mul, l_neg (by omega)]; exact h
  rw [if_neg z] at h
  refine pk_eq t 3 (fun z => ?_) (fun z => ?_)
  · rw [if_pos z] at h; rw [pk_mul, toL (by omega)]; exact h
  rw [if_neg z] at h
  refine pk_eq t 4 (fun z => ?_) (fun z => ?_)
  · rw [if_pos z] at h
    rw [pk_mul]
    by_cases y : v < d * d
    · rw [if_pos y] at h
      rw [if_pos ((nI_ltI (by omega) (by omega)).mpr y), toL (by omega)]; exact h
    · rw [if_neg y] at h
      rw [if_neg (fun w => y ((nI_ltI (by omega) (by omega)).mp w)), toL (by omega)]; exact h
  rw [if_neg z] at h
  refine pk_eq t 5 (fun _ => ?_) (fun z => by omega)
  refine pk_le d v (fun y => ?_) (fun y => ?_)
  · rw [if_pos y] at h; exact h
  · rw [if_neg (by omega)] at h; exact h
theorem m_worth {S : St} {t i d v : Nat} {post : Int64 → St → Prop} (ht : t ≤ 5) (hi : i < 1000) (hd : d < 17) (hv : v < 100) (h : post (wth t i d v) S) : w_X9_worth (nI t) (nI d) (nI i) (nI v) post S := by
  have m1 : d * (i + 1) ≤ 17 * 1000 := mul_bd (by omega) (by omega)
  have m2 : d * d ≤ 17 * 17 := mul_bd (by omega) (by omega)
  have e1 : lN d * (lN i + 1) = lN (d * (i + 1)) := by rw [show (1 : Int64) = lN 1 from rfl, lN_add, lN_mul]
  unfold w_X9_worth
  unfold wth at h
  rw [toL (show d < 2 ^ 31 by omega), toL (show i < 2 ^ 31 by omega), toL (show v < 2 ^ 31 by omega), e1, l_neg (by omega), Int64.neg_mul, e1, lN_mul]
  refine pk_eq t 0 (fun z => ?_) (fun z => ?_)
  · rw [if_pos z] at h; exact h
  rw [if_neg z] at h
  refine pk_eq t 1 (fun z => ?_) (fun z => ?_)
  · rw [if_pos z] at h; exact h
  rw [if_neg z] at h
  refine pk_eq t 2 (fun z => ?_) (fun z => ?_)
  · rw [if_pos z] at h
    rw [show jr (nI i) 2 = nI (i % 2) from jr_nI (d := 2) (by omega) (by omega) (by omega)]
    have := Nat.mod_lt i (show 0 < 2 by omega)
    refine pk_eq (i % 2) 0 (fun y => ?_) (fun y => ?_)
    · rw [if_pos y] at h; exact h
    · rw [if_neg y] at h; exact h
  rw [if_neg z] at h
  refine pk_eq t 3 (fun z => ?_) (fun z => ?_)
  · rw [if_pos z] at h; exact h
  rw [if_neg z] at h
  refine pk_eq t 4 (fun z => ?_) (fun z => ?_)
  · rw [if_pos z] at h
    by_cases y : v < d * d
    · rw [if_pos y] at h
      rw [if_pos ((pk_lLT (by omega) (by omega)).mpr y)]; exact h
    · rw [if_neg y] at h
      rw [if_neg (fun w => y ((pk_lLT (by omega) (by omega)).mp w))]; exact h
  rw [if_neg z] at h
  refine pk_le d v (fun y => ?_) (fun y => ?_)
  · rw [if_pos y] at h; exact h
  · rw [if_neg (by omega)] at h; exact h
theorem x_tells {S : St} {F : TF} {x t v : Int32} {post : Int64 → St → Prop} (hX : XF S 1 F) (ok : okTF F) (h : ∀ S' : St, Fx scP S S' → post (q_tells F x t v) S') : w_X8_tells x t v post S := by
  have h8 := ok.1
  have bad : ¬ okTe F x t v → post (-9223372036854775808) S := fun q => by
    have h := h S Fx.rf
    unfold q_tells at h
    rw [cif_neg q] at h
    exact h
  unfold w_X8_tells
  refine x_at hX ok.1 (fun k hk e => ⟨fun e => by simp at e, fun k3 e3 => ?_⟩) (fun n => ⟨fun _ => bad (fun q => iF.no n q.1), fun k e => by simp at e⟩)
  cases e3
  have hF := hX.2 k hk
  have o := ok.2 k hk
  have hll := o.hl
  have hb2 := o.2.2.1
  have hp := ln_pos (F.2.2.1 k) (F.2.2.2 k) (F.2.1 k)
  refine s_isWithin (fun a1 a2 => br_f (by decide) ?_) (fun a => br_t rfl (bad (fun q => by obtain ⟨-, ⟨n, n1, e⟩, -⟩ := q; exact i_outside (l := 0) (h := 5) rfl rfl a (Nat.zero_le n) n1 (by omega) e)))
  obtain ⟨n, -, n2, rfl⟩ := i_between (l := 0) (h := 5) rfl rfl a1 a2
  refine s_isWithin (fun a1 a2 => br_f (by decide) ?_) (fun a => br_t rfl (bad (fun q => by obtain ⟨-, -, ⟨n, n1, e⟩⟩ := q; exact i_outside (l := 0) (h := 99) rfl rfl a (Nat.zero_le n) n1 (by omega) e)))
  obtain ⟨m, -, m2, rfl⟩ := i_between (l := 0) (h := 99) rfl rfl a1 a2
  unfold q_tells lnF at h
  rw [cif_pos ⟨⟨k, hk, e⟩, ⟨n, n2, rfl⟩, ⟨m, m2, rfl⟩⟩, e, cl_nI (by omega), cl_nI (by omega), cl_nI (by omega)] at h
  refine s_load hF o (by omega) (by omega) (fun S' hL hx => ?_)
  have h := h S' hx
  generalize F.2.1 k = a at *
  generalize F.2.2.1 k = b at *
  generalize F.2.2.2 k = g at *
  unfold w_X4_worthTogether
  have loop : ∀ r i, i ≤ ln b g a → ln b g a < i + r → w_X4_worthTogether_5 post r (nI n) (nI m) (sumW b g a n m i) (nI i) S' := by
    intro r
    induction r with
    | zero => intro i h1 h2; omega
    | succ r ih =>
      intro i h1 h2
      rw [w_X4_worthTogether_5, hL.1]
      refine pk_le (ln b g a) i (fun q => ?_) (fun q => s_valueAt (by show i < 999; omega) (by decide) ?_)
      · have : i = ln b g a := by omega
        subst this
        exact h
      · rw [hL.2 i q]
        have hdl := dg_lt o.2.1 (show 0 < g by have := o.2.2.2.1; omega) a (hd b g a + i)
        have := o.2.2.2.2
        exact x_worth (post := fun w S4 => ∀ x6 : Int64, x6 = (sumW b g a n m i + w) → ∀ x7 : Int32, x7 = nI i + 1 → w_X4_worthTogether_5 post r (nI n) (nI m) x6 x7 S4) n2 (by omega) (by omega) (by omega) (nm_r (e' := sumW b g a n m (i + 1)) (by rw [sumW]) (nm_r (e' := nI (i + 1)) (nI_1 i) (ih (i + 1) q (by omega))))
  exact ⟨ln b g a + 1, loop _ 0 (Nat.zero_le _) (by omega)⟩
theorem m_tells {S : St} {F : TF} {x t v : Int32} {post : Int64 → St → Prop} (hM : MF S F) (ok : okTF F) (h : ∀ S' : St, Fm scD scD S S' → post (q_tells F x t v) S') : w_X9_tells x t v post S := by
  have h8 := ok.1
  have bad : ¬ okTe F x t v → post (-9223372036854775808) S := fun q => by
    have h := h S Fm.rf
    unfold q_tells at h
    rw [cif_neg q] at h
    exact h
  unfold w_X9_tells
  refine m_isFraction hM ok.1 (fun k hk e => br_f (by decide) ?_) (fun n => br_t rfl (bad (fun q => iF.no n q.1)))
  have o := ok.2 k hk
  have hll := o.hl
  have hb2 := o.2.2.1
  have hp := ln_pos (F.2.2.1 k) (F.2.2.2 k) (F.2.1 k)
  refine nm_e (m_in (lo := 0) (hi := 5) (by decide) (by decide) (fun a1 a2 => br_f (by decide) ?_) (fun a => br_t rfl (bad (fun q => by obtain ⟨-, ⟨n, n1, e⟩, -⟩ := q; exact i_outside (l := 0) (h := 5) rfl rfl a (Nat.zero_le n) n1 (by omega) e))))
  obtain ⟨n, -, n2, rfl⟩ := i_between (l := 0) (h := 5) rfl rfl a1 a2
  refine nm_e (m_in (lo := 0) (hi := 99) (by decide) (by decide) (fun a1 a2 => br_f (by decide) ?_) (fun a => br_t rfl (bad (fun q => by obtain ⟨-, -, ⟨n, n1, e⟩⟩ := q; exact i_outside (l := 0) (h := 99) rfl rfl a (Nat.zero_le n) n1 (by omega) e))))
  obtain ⟨m, -, m2, rfl⟩ := i_between (l := 0) (h := 99) rfl rfl a1 a2
  unfold q_tells lnF at h
  rw [cif_pos ⟨⟨k, hk, e⟩, ⟨n, n2, rfl⟩, ⟨m, m2, rfl⟩⟩, e, cl_nI (by omega), cl_nI (by omega), cl_nI (by omega)] at h
  rw [e]
  refine m_looksAt hM ok hk (fun S' hL hx => ?_)
  have h := h S' hx
  generalize F.2.1 k = a at *
  generalize F.2.2.1 k = b at *
  generalize F.2.2.2 k = g at *
  have loop : ∀ r i, i ≤ ln b g a → ln b g a < i + r → w_X9_tells_47 post r (nI n) (nI m) (sumW b g a n m i) (nI i) S' := by
    intro r
    induction r with
    | zero => intro i h1 h2; omega
    | succ r ih =>
      intro i h1 h2
      rw [w_X9_tells_47, hL.2.1, hL.1]
      refine pk_le (ln b g a) i (fun q => ?_) (fun q => nm_r (nI_add _ _) ⟨in_nI (by omega), ?_⟩)
      · have : i = ln b g a := by omega
        subst this
        exact h
      · have hdl := dg_lt o.2.1 (show 0 < g by have := o.2.2.2.1; omega) a (hd b g a + i)
        have := o.2.2.2.2
        rw [nI_clamp (by omega), (hL.2.2.2 _ (by omega)).2]
        exact nm_e (m_worth n2 (by omega) (by omega) (by omega) (nm_r (e' := sumW b g a n m (i + 1)) (by rw [sumW]) (nm_r (e' := nI (i + 1)) (nI_1 i) (ih (i + 1) q (by omega)))))
  exact ⟨ln b g a + 1, loop _ 0 (Nat.zero_le _) (by omega)⟩
