/-! blocks of a period -/
def csum (b g a w j : Nat) : Nat → Nat
  | 0 => 0
  | n + 1 => csum b g a w j n + dg b g a (hd b g a + (w * n + (w - 1 - j)))
def car (b g a k w : Nat) : Nat → Nat
  | 0 => 0
  | j + 1 => (car b g a k w j + csum b g a w j k) / g
def sm (b g a k w j : Nat) : Nat := (car b g a k w j + csum b g a w j k) % g
theorem csum_le {b g : Nat} (hb : 0 < b) (hg : 2 ≤ g) (a w j : Nat) : ∀ n, csum b g a w j n + n ≤ n * g := by
  intro n
  induction n with
  | zero => simp [csum]
  | succ n ih =>
    rw [csum, Nat.succ_mul]
    have := dg_lt hb (show 0 < g by omega) a (hd b g a + (w * n + (w - 1 - j)))
    omega
theorem car_le {b g : Nat} (hb : 0 < b) (hg : 2 ≤ g) (a k w : Nat) : ∀ j, car b g a k w j ≤ k := by
  intro j
  induction j with
  | zero => simp [car]
  | succ j ih =>
    rw [car]
    have h := csum_le hb hg a w j k
    have h2 : (car b g a k w j + csum b g a w j k) / g ≤ (k * g) / g := Nat.div_le_div_right (by omega)
    rwa [Nat.mul_div_cancel _ (by omega)] at h2
theorem col_le {b g : Nat} (hb : 0 < b) (hg : 2 ≤ g) (a k w j : Nat) : car b g a k w j + csum b g a w j k ≤ k * g := by
  have := csum_le hb hg a w j k
  have := car_le hb hg a k w j
  omega
theorem csum_mono (b g a w j : Nat) : ∀ n m, n ≤ m → csum b g a w j n ≤ csum b g a w j m := by
  intro n m h
  induction m with
  | zero => have : n = 0 := by omega
            subst this; exact Nat.le_refl _
  | succ m ih =>
    rcases Nat.lt_or_ge n (m + 1) with q | q
    · exact Nat.le_trans (ih (by omega)) (by rw [csum]; omega)
    · have : n = m + 1 := by omega
      subst this; exact Nat.le_refl _
/-- a place in the period of a block's digit -/
theorem blk_in {l k w n j : Nat} (hl : w * k = l) (hn : n < k) (hj : j < w) : w * n + (w - 1 - j) < l := by
  have h1 : w * n + w ≤ w * k := by
    have := Nat.mul_le_mul_left w (show n + 1 ≤ k by omega)
    rw [Nat.mul_add, Nat.mul_one] at this
    exact this
  omega
abbrev scP (j : Nat) : Prop := j = 52 ∨ j = 53
theorem alX53 : alX 53 = 999 := rfl
def Ld (S : St) (a b g : Nat) : Prop := S.1 52 1 = nI (ln b g a) ∧ ∀ i, i < ln b g a → S.1 53 i = nI (dg b g a (hd b g a + i))
theorem s_load {S : St} {k a b g : Nat} {post : St → Prop} (hF : FrX S k a b g) (ok : okF a b g) (hk : k ≠ 52) (hk2 : k ≠ 53) (h : ∀ S' : St, Ld S' a b g → Fx scP S S' → post S') : w_X4_load k post S := by
  have hl := ok.hl
  have hp := ln_pos b g a
  have hb2 := ok.2.2.1
  unfold w_X4_load
  refine nm_r hF.2.2.2.2.1 (nm_e (nm_r (e' := nI (rs b g a (hd b g a))) (by rw [sI_x _ _ _ _ _ _ hk]; exact hF.2.2.2.2.2.1) ?_))
  have loop : ∀ n i (T : St), i ≤ ln b g a → ln b g a < i + n → FrX T k a b g → T.1 52 1 = nI (ln b g a) → (∀ j, j < i → T.1 53 j = nI (dg b g a (hd b g a + j))) → Fx scP S T → w_X4_load_15 post n k (nI (rs b g a (hd b g a + i))) (nI i) T := by
    intro n
    induction n with
    | zero => intro i T h1 h2; omega
    | succ n ih =>
      intro i T h1 h2 t0 t1 t2 hx
      rw [w_X4_load_15, t1]
      refine pk_le (ln b g a) i (fun q => ?_) (fun q => ?_)
      · exact h T ⟨t1, fun j hj => t2 j (by omega)⟩ hx
      · refine s_digitOf t0 ok (s_setAt (by rw [alX53]; omega) (by decide) ?_)
        have t0' : FrX (sI T 53 i (nI (dg b g a (hd b g a + i)))) k a b g := t0.cp (sI_o T 53 i _ k hk2).1
        refine s_restAfter t0' ok (nm_r (e' := nI (i + 1)) (nI_1 i) (ih (i + 1) _ q (by omega) t0' (by rw [sI_x _ _ _ _ _ _ (by decide)]; exact t1) (fun j hj => ?_) (Fx.I hx (Or.inr rfl))))
        by_cases e : j = i
        · subst e; rw [sI_s]
        · rw [sI_n _ _ _ _ _ e]; exact t2 j (by omega)
  exact ⟨_, loop (ln b g a + 1) 0 _ (Nat.zero_le _) (by omega) (hF.cp (sI_o S 52 1 _ k hk).1) (sI_s _ _ _ _) (fun j hj => by omega) (Fx.I Fx.rf (Or.inl rfl))⟩
/-- what stands at a place of the blocks' sum; over, for -1 -/
def blkV (b g a k w : Nat) (j : Int32) : Int32 := if j = -1 then nI (car b g a k w w) else nI (sm b g a k w (cl j))
theorem s_placeOfBlocks {S : St} {a b g k w : Nat} {v : Int32} {post : Int32 → St → Prop} (hL : Ld S a b g) (ok : okF a b g) (hk : 0 < k) (hl : w * k = ln b g a) (hw : 0 < w) (hv : v = -1 ∨ ∃ n, n < w ∧ v = nI n) (h : post (blkV b g a k w v) S) : w_X4_placeOfBlocks (nI k) (nI w) v (nI g) post S := by
  have hll := ok.hl
  have hb2 := ok.2.2.1
  have hb := ok.2.1
  have hg := ok.2.2.2.1
  have hg2 := ok.2.2.2.2
  have hkl : k ≤ ln b g a := by rw [← hl]; exact Nat.le_mul_of_pos_left k hw
  have hwl : w ≤ ln b g a := by rw [← hl]; exact Nat.le_mul_of_pos_right w hk
  have hkg : k * g ≤ 1000 * 17 := mul_bd (by omega) (by omega)
  unfold w_X4_placeOfBlocks
  have outer : ∀ n c, c ≤ w → w < c + n → (∀ m, v = nI m → m < w → c ≤ m) → w_X4_placeOfBlocks_6 post n (nI k) (nI w) v (nI g) (nI (car b g a k w c)) (nI c) S := by
    intro n
    induction n with
    | zero => intro c h1 h2; omega
    | succ n ih =>
      intro c h1 h2 h3
      rw [w_X4_placeOfBlocks_6]
      refine pk_le w c (fun q => ?_) (fun q => ?_)
      · have : c = w := by omega
        subst this
        have : v = -1 := by
          rcases hv with e | ⟨m, hm, e⟩
          · exact e
          · have := h3 m e hm; omega
        unfold blkV at h
        rw [if_pos this] at h
        exact h
      · have inner : ∀ r t, t ≤ k → k < t + r → w_X4_placeOfBlocks_19 post (fun v1 v2 v3 v4 v5 v6 S => w_X4_placeOfBlocks_6 post n v1 v2 v3 v4 v5 v6 S) r (nI k) (nI w) v (nI g) (nI c) (nI (car b g a k w c + csum b g a w c t)) (nI (t + 1)) S := by
          intro r
          induction r with
          | zero => intro t h1 h2; omega
          | succ r ihr =>
            intro t g1 g2
            have hcs := csum_mono b g a w c t k g1
            have hcl := col_le hb hg a k w c
            rw [w_X4_placeOfBlocks_19]
            refine pk_lt k (t + 1) (fun z => ?_) (fun z => ?_)
            · have : t = k := by omega
              subst this
              by_cases e : v = nI c
              · refine br_t e.symm (s_remainder (by omega) ?_)
                have hne : ¬ v = -1 := fun z => by rw [e] at z; exact nI_ne_m1 (by omega) z
                unfold blkV at h
                rw [if_neg hne, e, cl_nI (by omega)] at h
                exact h
              · refine br_f (fun z => e z.symm) (nm_r (toL (by omega)) (nm_r (toL (by omega)) (s_quotient (by omega) (nm_r (toI _) (nm_r (e' := nI (c + 1)) (nI_1 c) ?_)))))
                refine ih (c + 1) (by omega) (by omega) (fun m em hm => ?_)
                have := h3 m em hm
                rcases Nat.lt_or_ge c m with y | y
                · exact y
                · have : m = c := by omega
                  subst this
                  exact absurd em e
            · have hin := blk_in hl (show t < k by omega) q
              have hm : (t + 1) * w = w * t + w := by rw [Nat.mul_comm, Nat.mul_add, Nat.mul_one]
              refine nm_r (e' := nI (w * t + (w - 1 - c))) (by
                rw [pk_mul, hm, show nI (w * t + w) - 1 = nI (w * t + w - 1) from pk_sub (a := w * t + w) (b := 1) (by omega), pk_sub (by omega)]
                congr 1; omega) (s_valueAt (by rw [alX53]; omega) (by decide) ?_)
              rw [hL.2 _ hin]
              refine nm_r (e' := nI (car b g a k w c + csum b g a w c (t + 1))) (by rw [nI_add, csum]; congr 1; omega) (nm_r (e' := nI (t + 1 + 1)) (nI_1 (t + 1)) (ihr (t + 1) (by omega) (by omega)))
        exact ⟨_, inner (k + 1) 0 (Nat.zero_le _) (by omega)⟩
  exact ⟨_, outer (w + 1) 0 (Nat.zero_le _) (by omega) (fun m _ _ => Nat.zero_le m)⟩
/-! M's blocks -/
def BkM (S : St) (b g a k w : Nat) : Prop := S.1 0 11 = nI (car b g a k w w) ∧ ∀ j, j < w → S.1 7 j = nI (sm b g a k w j)
theorem m_blocks {S : St} {a b g k w : Nat} {post : St → Prop} (hL : LkM S a b g) (hb : 0 < b) (hb2 : b < 1000) (hg : 2 ≤ g) (hg2 : g < 17) (hk : 0 < k) (hl : w * k = ln b g a) (hw : 0 < w) (h : ∀ S' : St, LkM S' a b g → BkM S' b g a k w → Fm (fun j => j = 7) (fun i => i = 11) S S' → post S') : w_X9_blocks (nI k) (nI g) post S := by
  have hll := hd_ln_le hb hb2 hg hg2 a
  have h9 := hd_le b g a
  have hkl : k ≤ ln b g a := by rw [← hl]; exact Nat.le_mul_of_pos_left k hw
  have hwl : w ≤ ln b g a := by rw [← hl]; exact Nat.le_mul_of_pos_right w hk
  have hkg : k * g ≤ 1000 * 17 := mul_bd (by omega) (by omega)
  have hwk : ln b g a / k = w := by rw [← hl]; exact Nat.mul_div_cancel w hk
  unfold w_X9_blocks
  rw [hL.2.1]
  refine ⟨nI_ne0 hk (by omega), nm_r (e' := nI w) (by rw [pk_div (by omega) hk (by omega), hwk]) ?_⟩
  have keepL : ∀ T : St, Fm (fun j => j = 7) (fun i => i = 11) S T → LkM T a b g := fun T hx => by
    obtain ⟨l1, l2, l3, l4⟩ := hL
    refine ⟨by rw [hx.2 4 (by decide)]; exact l1, by rw [hx.2 5 (by decide)]; exact l2, by rw [hx.2 6 (by decide)]; exact l3, fun i hi => ?_⟩
    rw [hx.1 5 (by decide) (by decide), hx.1 6 (by decide) (by decide)]
    exact l4 i hi
  have outer : ∀ n c (T : St), c ≤ w → w < c + n → (∀ j, j < c → T.1 7 j = nI (sm b g a k w j)) → Fm (fun j => j = 7) (fun i => i = 11) S T → w_X9_blocks_13 post n (nI k) (nI g) (nI w) (nI (car b g a k w c)) (nI c) T := by
    intro n
    induction n with
    | zero => intro c T h1 h2; omega
    | succ n ih =>
      intro c T h1 h2 t hx
      have hLT := keepL T hx
      rw [w_X9_blocks_13]
      refine pk_le w c (fun q => ?_) (fun q => ?_)
      · have : c = w := by omega
        subst this
        have hx' : Fm (fun j => j = 7) (fun i => i = 11) S (sI T 0 11 (nI (car b g a k c c))) := Fm.F hx rfl
        exact nm_e (h _ (keepL _ hx') ⟨sI_s _ _ _ _, fun j hj => by rw [sI_x _ _ _ _ _ _ (by decide)]; exact t j hj⟩ hx')
      · have inner : ∀ r t1, t1 ≤ k → k < t1 + r → w_X9_blocks_26 post (fun v1 v2 v3 v4 v5 S => w_X9_blocks_13 post n v1 v2 v3 v4 v5 S) r (nI k) (nI g) (nI w) (nI c) (nI (car b g a k w c + csum b g a w c t1)) (nI t1) T := by
          intro r
          induction r with
          | zero => intro t1 h1 h2; omega
          | succ r ihr =>
            intro t1 g1 g2
            have hcs := csum_mono b g a w c t1 k g1
            have hcl := col_le hb hg a k w c
            rw [w_X9_blocks_26]
            refine pk_le k t1 (fun z => ?_) (fun z => ?_)
            · have : t1 = k := by omega
              subst this
              refine ⟨nI_ne0 (by omega) (by omega), nm_r (e' := nI (sm b g a t1 w c)) (jr_nI (by omega) (by omega) (by omega)) ⟨in_nI (by omega), ?_⟩⟩
              rw [nI_clamp (show c < 2 ^ 31 by omega)]
              refine nm_e ⟨nI_ne0 (by omega) (by omega), nm_r (e' := nI (car b g a t1 w (c + 1))) (pk_div (by omega) (by omega) (by omega)) (nm_r (e' := nI (c + 1)) (nI_1 c) ?_)⟩
              refine ih (c + 1) _ (by omega) (by omega) (fun j hj => ?_) (Fm.A hx rfl (by decide))
              by_cases e : j = c
              · subst e; rw [sI_s]
              · rw [sI_n _ _ _ _ _ e]; exact t j (by omega)
            · have hin := blk_in hl (show t1 < k by omega) q
              rw [hLT.1]
              refine nm_r (e' := nI (hd b g a + (w * t1 + (w - 1 - c)))) (by
                rw [pk_mul, nI_add, nI_add, show nI (hd b g a + w * t1 + w) - 1 = nI (hd b g a + w * t1 + w - 1) from pk_sub (a := hd b g a + w * t1 + w) (b := 1) (by omega), pk_sub (by omega)]
                congr 1; omega) ⟨in_nI (by omega), ?_⟩
              rw [nI_clamp (by omega), (hLT.2.2.2 _ (by omega)).2]
              refine nm_r (e' := nI (car b g a k w c + csum b g a w c (t1 + 1))) (by rw [nI_add, csum]; congr 1; omega) (nm_r (e' := nI (t1 + 1)) (nI_1 t1) (ihr (t1 + 1) (by omega) (by omega)))
        exact ⟨_, inner (k + 1) 0 (Nat.zero_le _) (by omega)⟩
  exact ⟨_, outer (w + 1) 0 S (Nat.zero_le _) (by omega) (fun j hj => by omega) Fm.rf⟩
/-! block -/
def okk (l : Nat) (x : Int32) : Prop := ∃ n, 1 ≤ n ∧ n ≤ l ∧ l % n = 0 ∧ x = nI n
def okj (w : Nat) (v : Int32) : Prop := v = -1 ∨ ∃ n, n < w ∧ v = nI n
def lnF (F : TF) (v : Int32) : Nat := ln (F.2.2.1 (cl v)) (F.2.2.2 (cl v)) (F.2.1 (cl v))
noncomputable def q_block (F : TF) (v k j : Int32) : Int32 := cif (iF F v ∧ okk (lnF F v) k ∧ okj (lnF F v / cl k) j) (blkV (F.2.2.1 (cl v)) (F.2.2.2 (cl v)) (F.2.1 (cl v)) (cl k) (lnF F v / cl k) j) (-1)
theorem okj_of {w : Nat} {v hi : Int32} (hw : 0 < w) (hw2 : w < 2 ^ 30) (e : hi = nI (w - 1)) (h1 : (-1) ≤ v) (h2 : v ≤ hi) : okj w v := by
  subst e
  rcases i_or v with z | ⟨n, hn, rfl⟩
  · left
    rw [← Int32.toInt_inj]
    rw [Int32.le_iff_toInt_le] at h1
    rw [Int32.lt_iff_toInt_lt] at z
    have q1 : ((-1 : Int32)).toInt = -1 := by decide
    have q2 : ((0 : Int32)).toInt = 0 := by decide
    omega
  · right
    have := (nI_leI hn (by omega)).mp h2
    exact ⟨n, by omega, rfl⟩
theorem okj_no {w : Nat} {v hi : Int32} (hw : 0 < w) (hw2 : w < 2 ^ 30) (e : hi = nI (w - 1)) (h : v < (-1) ∨ hi < v) : ¬ okj w v := by
  subst e
  rintro (rfl | ⟨n, hn, rfl⟩)
  · rcases h with h | h
    · exact absurd h (by decide)
    · rw [Int32.lt_iff_toInt_lt, nI_toInt (by omega)] at h
      have q1 : ((-1 : Int32)).toInt = -1 := by decide
      omega
  · rcases h with h | h
    · rw [Int32.lt_iff_toInt_lt, nI_toInt (by omega)] at h
      have q1 : ((-1 : Int32)).toInt = -1 := by decide
      omega
    · have := (nI_ltI (by omega) (by omega)).mp h
      omega
theorem div_of {l n : Nat} (h1 : 1 ≤ n) (h2 : n ≤ l) (h3 : l % n = 0) : l / n * n = l ∧ 0 < l / n := ⟨Nat.div_mul_cancel (Nat.dvd_of_mod_eq_zero h3), Nat.div_pos h2 (by omega)⟩
theorem x_block {S : St} {F : TF} {v x j : Int32} {post : Int32 → St → Prop} (hX : XF S 1 F) (ok : okTF F) (h : ∀ S' : St, Fx scP S S' → post (q_block F v x j) S') : w_X8_block v x j post S := by
  have h8 := ok.1
  have bad : ¬ (iF F v ∧ okk (lnF F v) x ∧ okj (lnF F v / cl x) j) → post (-1) S := fun q => by
    unfold q_block at h
    rw [cif_neg q] at h
    exact h S Fx.rf
  unfold w_X8_block
  refine x_at hX ok.1 (fun k hk e => ⟨fun e => by simp at e, fun k3 e3 => ?_⟩) (fun n => ⟨fun _ => bad (fun q => iF.no n q.1), fun k e => by simp at e⟩)
  cases e3
  have hF := hX.2 k hk
  have o := ok.2 k hk
  have hll := o.hl
  have hb2 := o.2.2.1
  have eL : lnF F v = ln (F.2.2.1 k) (F.2.2.2 k) (F.2.1 k) := by unfold lnF; rw [e, cl_nI (by omega)]
  refine s_partsInto hF o (fun n n1 n2 n3 en => br_f (by decide) ?_) (fun n => br_t rfl (bad (fun q => ?_)))
  · subst en
    obtain ⟨d1, d2⟩ := div_of n1 n2 n3
    have d3 : ln (F.2.2.1 k) (F.2.2.2 k) (F.2.1 k) / n ≤ ln (F.2.2.1 k) (F.2.2.2 k) (F.2.1 k) := Nat.div_le_self _ _
    refine s_blockWidth hF o n1 (by omega) (nm_r (e' := nI (ln (F.2.2.1 k) (F.2.2.2 k) (F.2.1 k) / n - 1)) (pk_sub (b := 1) (by omega)) ?_)
    refine s_isWithin (fun a1 a2 => br_f (by decide) ?_) (fun a => br_t rfl (bad (fun q => ?_)))
    · have hj := okj_of d2 (by omega) rfl a1 a2
      unfold q_block at h
      rw [cif_pos ⟨⟨k, hk, e⟩, by rw [eL]; exact ⟨n, n1, n2, n3, rfl⟩, by rw [eL, cl_nI (by omega)]; exact hj⟩, eL, cl_nI (show n < 2 ^ 31 by omega), e, cl_nI (by omega)] at h
      refine s_load hF o (by omega) (by omega) (fun S' hL hx => ?_)
      have hF' := hF.cp (hx (1 + 1 + 1 + k) (by show ¬ (1 + 1 + 1 + k = 52 ∨ 1 + 1 + 1 + k = 53); omega)).1
      refine s_blockWidth hF' o n1 (by omega) (nm_r hF'.2.2.1 ?_)
      exact s_placeOfBlocks hL o n1 d1 d2 hj (h S' hx)
    · have := q.2.2
      rw [eL, cl_nI (by omega)] at this
      exact okj_no d2 (by omega) rfl a this
  · have := q.2.1
    rw [eL] at this
    obtain ⟨m, m1, m2, m3, em⟩ := this
    exact n m m1 m2 m3 em
theorem m_isParted {S : St} {a b g : Nat} {x : Int32} {post : Int32 → St → Prop} (hL : LkM S a b g) (hb : 0 < b) (hb2 : b < 1000) (hg : 2 ≤ g) (hg2 : g < 17) (f : ∀ n, 1 ≤ n → n ≤ ln b g a → ln b g a % n = 0 → x = nI n → post 1 S) (n : (∀ n, 1 ≤ n → n ≤ ln b g a → ln b g a % n = 0 → x ≠ nI n) → post 0 S) : w_X9_isParted x post S := by
  have hll := hd_ln_le hb hb2 hg hg2 a
  unfold w_X9_isParted
  rw [hL.2.1]
  refine nm_e (nm_e (m_in (lo := 1) (hi := nI (ln b g a)) (by decide) rfl (fun a1 a2 => br_f (by decide) ?_) (fun o => br_t rfl (n (fun m m1 m2 m3 e => ?_)))))
  · obtain ⟨m, m1, m2, rfl⟩ := i_between (l := 1) rfl rfl a1 a2
    refine ⟨nI_ne0 m1 (by omega), ?_⟩
    rw [hL.2.1, jr_nI (by omega) m1 (by omega)]
    have hm := Nat.mod_lt (ln b g a) m1
    refine pk_eq (ln b g a % m) 0 (fun z => f m m1 m2 z rfl) (fun z => n (fun q q1 q2 q3 e => ?_))
    have := nI_inj e
    subst this
    exact z q3
  · exact i_outside (l := 1) rfl rfl o m1 m2 (by omega) e
abbrev scB (j : Nat) : Prop := j = 4 ∨ j = 5 ∨ j = 6 ∨ j = 7
abbrev scE (i : Nat) : Prop := i = 4 ∨ i = 5 ∨ i = 6 ∨ i = 11
theorem m_block {S : St} {F : TF} {v x j : Int32} {post : Int32 → St → Prop} (hM : MF S F) (ok : okTF F) (h : ∀ S' : St, Fm scB scE S S' → post (q_block F v x j) S') : w_X9_block v x j post S := by
  have h8 := ok.1
  have bad : ¬ (iF F v ∧ okk (lnF F v) x ∧ okj (lnF F v / cl x) j) → ∀ S', Fm scB scE S S' → post (-1) S' := fun q => by
    unfold q_block at h
    rw [cif_neg q] at h
    exact h
  unfold w_X9_block
  refine m_isFraction hM ok.1 (fun k hk e => br_f (by decide) ?_) (fun n => br_t rfl (bad (fun q => iF.no n q.1) S Fm.rf))
  obtain ⟨o1, o2, o3, o4, o5⟩ := ok.2 k hk
  have hll := hd_ln_le o2 o3 o4 o5 (F.2.1 k)
  have eL : lnF F v = ln (F.2.2.1 k) (F.2.2.2 k) (F.2.1 k) := by unfold lnF; rw [e, cl_nI (by omega)]
  rw [e]
  refine m_looksAt hM ok hk (fun S1 hL hx => ?_)
  have hxB : Fm scB scE S S1 := hx.mo (fun j e => by show j = 4 ∨ j = 5 ∨ j = 6 ∨ j = 7; unfold scD at e; omega) (fun i e => by show i = 4 ∨ i = 5 ∨ i = 6 ∨ i = 11; unfold scD at e; omega)
  refine m_isParted hL o2 o3 o4 o5 (fun n n1 n2 n3 en => br_f (by decide) ?_) (fun n => br_t rfl (bad (fun q => ?_) S1 hxB))
  · subst en
    obtain ⟨d1, d2⟩ := div_of n1 n2 n3
    have d3 : ln (F.2.2.1 k) (F.2.2.2 k) (F.2.1 k) / n ≤ ln (F.2.2.1 k) (F.2.2.2 k) (F.2.1 k) := Nat.div_le_self _ _
    rw [hL.2.1, pk_div (by omega) n1 (by omega), show nI (ln (F.2.2.1 k) (F.2.2.2 k) (F.2.1 k) / n) - 1 = nI (ln (F.2.2.1 k) (F.2.2.2 k) (F.2.1 k) / n - 1) from pk_sub (b := 1) (by omega), nI_clamp (show k < 2 ^ 31 by omega)]
    refine ⟨nI_ne0 n1 (by omega), nm_e (nm_e (m_in (lo := -1) (by decide) rfl (fun a1 a2 => br_f (by decide) ?_) (fun a => br_t rfl (bad (fun q => ?_) S1 hxB))))⟩
    · have hj := okj_of d2 (by omega) rfl a1 a2
      unfold q_block at h
      rw [cif_pos ⟨⟨k, hk, e⟩, by rw [eL]; exact ⟨n, n1, n2, n3, rfl⟩, by rw [eL, cl_nI (by omega)]; exact hj⟩, eL, cl_nI (show n < 2 ^ 31 by omega), e, cl_nI (by omega)] at h
      refine ⟨in_nI (by omega), nm_r ((Fm.MF hM hx).2 k hk).2.2 (m_blocks hL o2 o3 o4 o5 n1 d1 d2 (fun S2 hL2 hB hx2 => ?_))⟩
      have hx3 : Fm scB scE S S2 := hxB.tr (hx2.mo (fun j e => by show j = 4 ∨ j = 5 ∨ j = 6 ∨ j = 7; omega) (fun i e => by show i = 4 ∨ i = 5 ∨ i = 6 ∨ i = 11; omega))
      have h := h S2 hx3
      unfold blkV at h
      refine ⟨fun q => ?_, fun q => ?_⟩
      · rw [if_pos q] at h
        rw [hB.1]; exact h
      · rw [if_neg q] at h
        rcases hj with hj | ⟨m, hm, rfl⟩
        · exact absurd hj q
        · rw [nI_clamp (by omega), hB.2 m hm]
          rw [cl_nI (by omega)] at h
          exact ⟨in_nI (by omega), h⟩
    · have := q.2.2
      rw [eL, cl_nI (by omega)] at this
      exact okj_no d2 (by omega) rfl a this
  · have := q.2.1
    rw [eL] at this
    obtain ⟨m, m1, m2, m3, em⟩ := this
    exact n m m1 m2 m3 em
