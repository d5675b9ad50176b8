/-! shift, multiple -/
theorem lsf_t {p : Nat → Bool} {n i : Nat} (h : p i = true) : lsf p (n + 1) i = i := by rw [lsf, if_pos h]
theorem lsf_f {p : Nat → Bool} {n i : Nat} (h : p i = false) : lsf p (n + 1) i = lsf p n (i + 1) := by rw [lsf, if_neg (by simp [h])]
def fnd (p : Nat → Bool) (n : Nat) : Int32 := if lsf p n 0 = n then -2 else nI (lsf p n 0)
theorem fnd_yes {p : Nat → Bool} {n i : Nat} (hi : i < n) (h : p i = true) (m : ∀ j, j < i → p j = false) : fnd p n = nI i := by
  unfold fnd
  rw [lsf_is hi h m, if_neg (by omega)]
theorem fnd_no {p : Nat → Bool} {n : Nat} (m : ∀ j, j < n → p j = false) : fnd p n = -2 := by
  unfold fnd
  rw [lsf_nn p n 0 (fun j _ h => m j (by omega)), if_pos (by omega)]
def trn (b g a m : Nat) : Nat := rs b g (m * a) (hd b g (m * a))
def shV (b g a m : Nat) : Int32 := fnd (fun s => rs b g a (hd b g a + s) == trn b g a m) (ln b g a)
theorem shV_yes {a b g m s : Nat} (ok : okF a b g) (hs : s < ln b g a) (h : rs b g a (hd b g a + s) = trn b g a m) : shV b g a m = nI s := by
  refine fnd_yes hs (by simp [h]) (fun j hj => ?_)
  have : rs b g a (hd b g a + j) ≠ trn b g a m := fun e => by
    have := ring_inj ok.2.1 ok.2.2.1 ok.2.2.2.1 ok.2.2.2.2 a (show j < ln b g a by omega) hs (e.trans h.symm)
    omega
  simp [this]
theorem shV_no {a b g m : Nat} (h : ∀ s, s < ln b g a → rs b g a (hd b g a + s) ≠ trn b g a m) : shV b g a m = -2 :=
  fnd_no (fun j hj => by simp [h j hj])
theorem trn_lt {a b g m : Nat} (ok : okF a b g) : trn b g a m < 1000 := by
  have := rs_lt ok.2.1 g (m * a) (hd b g (m * a))
  have := ok.2.2.1
  unfold trn
  omega
noncomputable def q_shift (F : TF) (v m : Int32) : Int32 := cif (iF F v ∧ ∃ n, 1 ≤ n ∧ n ≤ 999 ∧ m = nI n) (shV (F.2.2.1 (cl v)) (F.2.2.2 (cl v)) (F.2.1 (cl v)) (cl m)) (-1)
theorem x_shift {S : St} {F : TF} {v m : Int32} {post : Int32 → St → Prop} (hX : XF S 1 F) (ok : okTF F) (h : post (q_shift F v m) S) : w_X8_shift v m post S := by
  have h8 := ok.1
  have bad : ¬ (iF F v ∧ ∃ n, 1 ≤ n ∧ n ≤ 999 ∧ m = nI n) → post (-1) S := fun q => by
    unfold q_shift at h
    rw [cif_neg q] at h
    exact h
  unfold w_X8_shift
  refine x_at hX ok.1 (fun k hk e => ⟨fun e => by simp at e, fun k3 e3 => ?_⟩) (fun n => ⟨fun _ => bad (fun q => iF.no n q.1), fun k e => by simp at e⟩)
  cases e3
  have hF := hX.2 k hk
  have o := ok.2 k hk
  refine s_isWithin (fun a1 a2 => br_f (by decide) ?_) (fun a => br_t rfl (bad (fun q => ?_)))
  · obtain ⟨n, n1, n2, rfl⟩ := i_between (l := 1) (h := 999) rfl rfl a1 a2
    unfold q_shift at h
    rw [cif_pos ⟨⟨k, hk, e⟩, ⟨n, n1, n2, rfl⟩⟩, e, cl_nI (by omega), cl_nI (by omega)] at h
    refine s_turningRestTimes hF o (by omega) ?_
    have := trn_lt (m := n) o
    refine s_placeInPeriod hF o (x := trn _ _ _ n) (by omega) (fun s s1 s2 => ?_) (fun s1 => ?_)
    · rw [shV_yes o s1 s2] at h; exact h
    · rw [shV_no s1] at h; exact h
  · obtain ⟨n, n1, n2, en⟩ := q.2
    exact i_outside (l := 1) (h := 999) rfl rfl a n1 n2 (by omega) en
abbrev scR (j : Nat) : Prop := j = 4 ∨ j = 5 ∨ j = 6 ∨ j = 8
abbrev scG (i : Nat) : Prop := i = 4 ∨ i = 5 ∨ i = 6 ∨ i = 13
theorem D_R : ∀ j, scD j → scR j := fun j e => by unfold scD at e; show j = 4 ∨ j = 5 ∨ j = 6 ∨ j = 8; omega
theorem D_G : ∀ j, scD j → scG j := fun j e => by unfold scD at e; show j = 4 ∨ j = 5 ∨ j = 6 ∨ j = 13; omega
def RgM (S : St) (b g a : Nat) : Prop := S.1 0 13 = nI (ln b g a) ∧ ∀ i, i < ln b g a → S.1 8 i = nI (rs b g a (hd b g a + i))
theorem RgM.cp {S S' : St} {b g a : Nat} (h : RgM S b g a) (hx : Fm scD scD S S') : RgM S' b g a := by
  unfold RgM at h ⊢
  rw [hx.2 13 (by simp [scD]), hx.1 8 (by decide) (by simp [scD])]
  exact h
theorem fm_MF2 {S S' : St} {F : TF} (hM : MF S F) (h : Fm scR scG S S') : MF S' F := hM.cp (h.2 0 (by simp [scG])) (h.1 1 (by decide) (by simp [scR])) (h.1 2 (by decide) (by simp [scR])) (h.1 3 (by decide) (by simp [scR]))
theorem m_keepsRing {S : St} {F : TF} {k : Nat} {post : St → Prop} (hM : MF S F) (ok : okTF F) (hk : k < F.1) (h : ∀ S' : St, RgM S' (F.2.2.1 k) (F.2.2.2 k) (F.2.1 k) → Fm scR scG S S' → post S') : w_X9_keepsRing (nI k) post S := by
  obtain ⟨o1, o2, o3, o4, o5⟩ := ok.2 k hk
  have hll := hd_ln_le o2 o3 o4 o5 (F.2.1 k)
  unfold w_X9_keepsRing
  refine m_looksAt hM ok hk (fun S1 hL hx => ?_)
  generalize F.2.1 k = a at *
  generalize F.2.2.1 k = b at *
  generalize F.2.2.2 k = g at *
  refine nm_r hL.2.1 (nm_e ?_)
  have loop : ∀ n i (T : St), i ≤ ln b g a → ln b g a < i + n → LkM T a b g → T.1 0 13 = nI (ln b g a) → (∀ j, j < i → T.1 8 j = nI (rs b g a (hd b g a + j))) → Fm scR scG S T → w_X9_keepsRing_15 post n (nI i) T := by
    intro n
    induction n with
    | zero => intro i T h1 h2; omega
    | succ n ih =>
      intro i T h1 h2 t1 t2 t3 t4
      rw [w_X9_keepsRing_15, t1.2.1, t1.1]
      refine pk_le (ln b g a) i (fun q => ?_) (fun q => ?_)
      · exact h T ⟨t2, fun j hj => t3 j (by omega)⟩ t4
      · refine nm_r (nI_add _ _) ⟨in_nI (by omega), ?_⟩
        rw [nI_clamp (by omega), (t1.2.2.2 _ (show hd b g a + i < _ by omega)).1, nI_clamp (by omega)]
        refine nm_e ⟨in_nI (by omega), nm_e (nm_r (e' := nI (i + 1)) (nI_1 i) (ih (i + 1) _ q (by omega) ?_ ?_ (fun j hj => ?_) (Fm.A t4 (Or.inr (Or.inr (Or.inr rfl))) (by decide))))⟩
        · obtain ⟨l1, l2, l3, l4⟩ := t1
          exact ⟨by rw [sI_x _ _ _ _ _ _ (by decide)]; exact l1, by rw [sI_x _ _ _ _ _ _ (by decide)]; exact l2, by rw [sI_x _ _ _ _ _ _ (by decide)]; exact l3, fun j hj => by rw [sI_x _ _ _ _ _ _ (by decide), sI_x _ _ _ _ _ _ (by decide)]; exact l4 j hj⟩
        · rw [sI_x _ _ _ _ _ _ (by decide)]; exact t2
        · by_cases e : j = i
          · subst e; rw [sI_s]
          · rw [sI_n _ _ _ _ _ e]; exact t3 j (by omega)
  refine ⟨ln b g a + 1, loop _ 0 _ (Nat.zero_le _) (by omega) ?_ (sI_s _ _ _ _) (fun j hj => by omega) (Fm.F (hx.mo D_R D_G) (Or.inr (Or.inr (Or.inr rfl))))⟩
  obtain ⟨l1, l2, l3, l4⟩ := hL
  exact ⟨by rw [sI_n _ _ _ _ _ (by decide)]; exact l1, by rw [sI_n _ _ _ _ _ (by decide)]; exact l2, by rw [sI_n _ _ _ _ _ (by decide)]; exact l3, fun j hj => by rw [sI_x _ _ _ _ _ _ (by decide), sI_x _ _ _ _ _ _ (by decide)]; exact l4 j hj⟩
theorem m_shiftNow {S : St} {F : TF} {k m : Nat} {post : Int32 → St → Prop} (hM : MF S F) (ok : okTF F) (hk : k < F.1) (hR : RgM S (F.2.2.1 k) (F.2.2.2 k) (F.2.1 k)) (hm : m < 1000) (h : ∀ S' : St, Fm scD scD S S' → post (shV (F.2.2.1 k) (F.2.2.2 k) (F.2.1 k) m) S') : w_X9_shiftNow (nI k) (nI m) post S := by
  obtain ⟨e1, e2, e3⟩ := hM.2 k hk
  have h8 := ok.1
  have o := ok.2 k hk
  have hll := o.hl
  have h9 := hd_le (F.2.2.1 k) (F.2.2.2 k) (m * F.2.1 k)
  unfold w_X9_shiftNow
  rw [nI_clamp (show k < 2 ^ 31 by omega), e1, e2, e3]
  generalize F.2.1 k = a at *
  generalize F.2.2.1 k = b at *
  generalize F.2.2.2 k = g at *
  have hma : m * a ≤ 1000 * 10000 := mul_bd (by omega) (by have := o.1; omega)
  have hb2 := o.2.2.1
  refine ⟨in_nI (by omega), in_nI (by omega), in_nI (by omega), nm_r (e' := lN (m * a)) (by rw [toL (by omega), toL (by have := o.1; omega), lN_mul]) (nm_e (nm_e ?_))⟩
  refine s_looks (by omega) o.2.1 o.2.2.1 o.2.2.2.1 o.2.2.2.2 (fun T hL hx => ?_)
  have hR' := hR.cp hx
  have h := h T hx
  have hp2 := ln_pos b g (m * a)
  have eT : T.1 5 (hd b g (m * a)) = nI (trn b g a m) := (hL.2.2.2 _ (by omega)).1
  have tl := trn_lt (m := m) o
  have loop : ∀ n i, i ≤ ln b g a → ln b g a < i + n → (∀ s, s < i → rs b g a (hd b g a + s) ≠ trn b g a m) → w_X9_shiftNow_28 post n (nI i) T := by
    intro n
    induction n with
    | zero => intro i h1 h2; omega
    | succ n ih =>
      intro i h1 h2 h3
      rw [w_X9_shiftNow_28, hR'.1]
      refine pk_le (ln b g a) i (fun q => ?_) (fun q => ⟨in_nI (by omega), nm_r hL.1 ⟨in_nI (by omega), ?_⟩⟩)
      · rw [shV_no (fun s hs => h3 s (by omega))] at h
        exact h
      · rw [nI_clamp (show i < 2 ^ 31 by omega), nI_clamp (show hd b g (m * a) < 2 ^ 31 by omega), hR'.2 i q, eT]
        have hrl := rs_lt o.2.1 g a (hd b g a + i)
        refine pk_eq (rs b g a (hd b g a + i)) (trn b g a m) (fun z => ?_) (fun z => ?_)
        · rw [shV_yes o q z] at h; exact h
        · refine nm_r (e' := nI (i + 1)) (nI_1 i) (ih (i + 1) q (by omega) (fun s hs => ?_))
          rcases Nat.lt_or_ge s i with y | y
          · exact h3 s y
          · have : s = i := by omega
            subst this; exact z
  exact ⟨ln b g a + 1, loop _ 0 (Nat.zero_le _) (by omega) (fun s hs => by omega)⟩
theorem m_shift {S : St} {F : TF} {v m : Int32} {post : Int32 → St → Prop} (hM : MF S F) (ok : okTF F) (h : ∀ S' : St, Fm scR scG S S' → post (q_shift F v m) S') : w_X9_shift v m post S := by
  have h8 := ok.1
  have bad : ¬ (iF F v ∧ ∃ n, 1 ≤ n ∧ n ≤ 999 ∧ m = nI n) → post (-1) S := fun q => by
    have h := h S Fm.rf
    unfold q_shift at h
    rw [cif_neg q] at h
    exact h
  unfold w_X9_shift
  refine m_isFraction hM ok.1 (fun k hk e => br_f (by decide) ?_) (fun n => br_t rfl (bad (fun q => iF.no n q.1)))
  refine nm_e (m_in (lo := 1) (hi := 999) (by decide) (by decide) (fun a1 a2 => br_f (by decide) ?_) (fun a => br_t rfl (bad (fun q => ?_))))
  · obtain ⟨n, n1, n2, rfl⟩ := i_between (l := 1) (h := 999) rfl rfl a1 a2
    unfold q_shift at h
    rw [cif_pos ⟨⟨k, hk, e⟩, ⟨n, n1, n2, rfl⟩⟩, e, cl_nI (by omega), cl_nI (by omega)] at h
    rw [e]
    refine m_keepsRing hM ok hk (fun S1 hR hx => ?_)
    refine m_shiftNow (fm_MF2 hM hx) ok hk hR (by omega) (fun S2 hx2 => h S2 (hx.tr (hx2.mo D_R D_G)))
  · obtain ⟨n, n1, n2, en⟩ := q.2
    exact i_outside (l := 1) (h := 999) rfl rfl a n1 n2 (by omega) en
/-! multiple -/
def mulV (b g a s : Nat) : Int32 := if lsf (fun m => trn b g a m == rs b g a (hd b g a + s)) 998 2 = 1000 then -2 else nI (lsf (fun m => trn b g a m == rs b g a (hd b g a + s)) 998 2)
noncomputable def q_multiple (F : TF) (v s : Int32) : Int32 := cif (iF F v ∧ ∃ n, n < lnF F v ∧ s = nI n) (mulV (F.2.2.1 (cl v)) (F.2.2.2 (cl v)) (F.2.1 (cl v)) (cl s)) (-1)
theorem x_multiple {S : St} {F : TF} {v s : Int32} {post : Int32 → St → Prop} (hX : XF S 1 F) (ok : okTF F) (h : post (q_multiple F v s) S) : w_X8_multiple v s post S := by
  have h8 := ok.1
  have bad : ¬ (iF F v ∧ ∃ n, n < lnF F v ∧ s = nI n) → post (-1) S := fun q => by
    unfold q_multiple at h
    rw [cif_neg q] at h
    exact h
  unfold w_X8_multiple
  refine x_at hX ok.1 (fun k hk e => ⟨fun e => by simp at e, fun k3 e3 => ?_⟩) (fun n => ⟨fun _ => bad (fun q => iF.no n q.1), fun k e => by simp at e⟩)
  cases e3
  have hF := hX.2 k hk
  have o := ok.2 k hk
  have hll := o.hl
  have hb2 := o.2.2.1
  have hp := ln_pos (F.2.2.1 k) (F.2.2.2 k) (F.2.1 k)
  have eL : lnF F v = ln (F.2.2.1 k) (F.2.2.2 k) (F.2.1 k) := by unfold lnF; rw [e, cl_nI (by omega)]
  rw [hF.2.2.2.2.1]
  refine nm_r (e' := nI (ln (F.2.2.1 k) (F.2.2.2 k) (F.2.1 k) - 1)) (pk_sub (b := 1) (by omega)) (s_isWithin (fun a1 a2 => br_f (by decide) ?_) (fun a => br_t rfl (bad (fun q => ?_))))
  · obtain ⟨n, n1, n2, rfl⟩ := i_between (l := 0) rfl rfl a1 a2
    unfold q_multiple at h
    rw [cif_pos ⟨⟨k, hk, e⟩, ⟨n, by omega, rfl⟩⟩, e, cl_nI (by omega), cl_nI (by omega)] at h
    generalize F.2.1 k = a at *
    generalize F.2.2.1 k = b at *
    generalize F.2.2.2 k = g at *
    refine nm_r (e' := nI (hd b g a + n)) (by rw [hF.2.2.2.1, nI_add]) (s_restAt hF o (by omega) ?_)
    have hrl := rs_lt o.2.1 g a (hd b g a + n)
    have loop : ∀ t i r, i + t = 1000 → t < r → (if lsf (fun m => trn b g a m == rs b g a (hd b g a + n)) t i = 1000 then (-2 : Int32) else nI (lsf (fun m => trn b g a m == rs b g a (hd b g a + n)) t i)) = mulV b g a n → w_X8_multiple_44 post r (1 + 1 + 1 + k) (nI (rs b g a (hd b g a + n))) (nI i) S := by
      intro t
      induction t with
      | zero =>
        intro i r h1 h2 h3
        obtain ⟨r, rfl⟩ : ∃ j, r = j + 1 := ⟨r - 1, by omega⟩
        rw [w_X8_multiple_44]
        rw [lsf, if_pos (by omega)] at h3
        refine pk_lt 999 i (fun _ => ?_) (fun q => by omega)
        rw [h3]; exact h
      | succ t ih =>
        intro i r h1 h2 h3
        obtain ⟨r, rfl⟩ : ∃ j, r = j + 1 := ⟨r - 1, by omega⟩
        rw [w_X8_multiple_44]
        refine pk_lt 999 i (fun q => by omega) (fun q => s_turningRestTimes hF o (by omega) ?_)
        have tl := trn_lt (m := i) o
        refine pk_eq (trn b g a i) (rs b g a (hd b g a + n)) (fun z => ?_) (fun z => ?_)
        · rw [lsf_t (by simp [z]), if_neg (by omega)] at h3
          rw [h3]; exact h
        · rw [lsf_f (by simp [z])] at h3
          exact nm_r (e' := nI (i + 1)) (nI_1 i) (ih (i + 1) r (by omega) (by omega) h3)
    exact ⟨1000, loop 998 2 1000 (by omega) (by omega) rfl⟩
  · obtain ⟨n, n1, en⟩ := q.2
    exact i_outside (l := 0) rfl rfl a (Nat.zero_le n) (by omega) (by omega) en
theorem shV_is {a b g m n : Nat} (ok : okF a b g) (hn : n < ln b g a) : shV b g a m = nI n ↔ trn b g a m = rs b g a (hd b g a + n) := by
  have hll := ok.hl
  have hb2 := ok.2.2.1
  constructor
  · intro e
    by_cases z : ∃ s, s < ln b g a ∧ rs b g a (hd b g a + s) = trn b g a m
    · obtain ⟨s, s1, s2⟩ := z
      rw [shV_yes ok s1 s2] at e
      have := nI_inj e
      subst this
      exact s2.symm
    · rw [shV_no (fun s s1 s2 => z ⟨s, s1, s2⟩)] at e
      have h1 := nI_toInt (show n < 2 ^ 31 by omega)
      rw [← e] at h1
      have h2 : ((-2 : Int32)).toInt = -2 := by decide
      omega
  · intro e
    exact shV_yes ok hn e.symm
theorem m_multiple {S : St} {F : TF} {v s : Int32} {post : Int32 → St → Prop} (hM : MF S F) (ok : okTF F) (h : ∀ S' : St, Fm scR scG S S' → post (q_multiple F v s) S') : w_X9_multiple v s post S := by
  have h8 := ok.1
  have bad : ¬ (iF F v ∧ ∃ n, n < lnF F v ∧ s = nI n) → ∀ S', Fm scR scG S S' → post (-1) S' := fun q S' hx => by
    have h := h S' hx
    unfold q_multiple at h
    rw [cif_neg q] at h
    exact h
  unfold w_X9_multiple
  refine m_isFraction hM ok.1 (fun k hk e => br_f (by decide) ?_) (fun n => br_t rfl (bad (fun q => iF.no n q.1) S Fm.rf))
  have o := ok.2 k hk
  have hll := o.hl
  have hb2 := o.2.2.1
  have hp := ln_pos (F.2.2.1 k) (F.2.2.2 k) (F.2.1 k)
  have eL : lnF F v = ln (F.2.2.1 k) (F.2.2.2 k) (F.2.1 k) := by unfold lnF; rw [e, cl_nI (by omega)]
  rw [e]
  refine m_keepsRing hM ok hk (fun S1 hR hx => ?_)
  rw [hR.1, show nI (ln (F.2.2.1 k) (F.2.2.2 k) (F.2.1 k)) - 1 = nI (ln (F.2.2.1 k) (F.2.2.2 k) (F.2.1 k) - 1) from pk_sub (b := 1) (by omega)]
  refine nm_e (nm_e (m_in (lo := 0) (by decide) rfl (fun a1 a2 => br_f (by decide) ?_) (fun a => br_t rfl (bad (fun q => ?_) S1 hx))))
  · obtain ⟨n, n1, n2, rfl⟩ := i_between (l := 0) rfl rfl a1 a2
    unfold q_multiple at h
    rw [cif_pos ⟨⟨k, hk, e⟩, ⟨n, by omega, rfl⟩⟩, e, cl_nI (by omega), cl_nI (by omega)] at h
    have loop : ∀ t i r (T : St), i + t = 1000 → t < r → RgM T (F.2.2.1 k) (F.2.2.2 k) (F.2.1 k) → Fm scR scG S T → (if lsf (fun m => trn (F.2.2.1 k) (F.2.2.2 k) (F.2.1 k) m == rs (F.2.2.1 k) (F.2.2.2 k) (F.2.1 k) (hd (F.2.2.1 k) (F.2.2.2 k) (F.2.1 k) + n)) t i = 1000 then (-2 : Int32) else nI (lsf (fun m => trn (F.2.2.1 k) (F.2.2.2 k) (F.2.1 k) m == rs (F.2.2.1 k) (F.2.2.2 k) (F.2.1 k) (hd (F.2.2.1 k) (F.2.2.2 k) (F.2.1 k) + n)) t i)) = mulV (F.2.2.1 k) (F.2.2.2 k) (F.2.1 k) n → w_X9_multiple_35 post r (nI k) (nI n) (nI i) T := by
      intro t
      induction t with
      | zero =>
        intro i r T h1 h2 hRT hxT h3
        obtain ⟨r, rfl⟩ : ∃ j, r = j + 1 := ⟨r - 1, by omega⟩
        rw [w_X9_multiple_35]
        rw [lsf, if_pos (by omega)] at h3
        refine pk_lt 999 i (fun _ => ?_) (fun q => by omega)
        rw [h3]; exact h T hxT
      | succ t ih =>
        intro i r T h1 h2 hRT hxT h3
        obtain ⟨r, rfl⟩ : ∃ j, r = j + 1 := ⟨r - 1, by omega⟩
        rw [w_X9_multiple_35]
        refine pk_lt 999 i (fun q => by omega) (fun q => m_shiftNow (fm_MF2 hM hxT) ok hk hRT (by omega) (fun T2 hx2 => ?_))
        have hx3 := hxT.tr (hx2.mo D_R D_G)
        have hs := shV_is (m := i) o (show n < ln (F.2.2.1 k) (F.2.2.2 k) (F.2.1 k) by omega)
        refine ⟨fun z => ?_, fun z => ?_⟩
        · rw [lsf_t (by simp [hs.mp z]), if_neg (by omega)] at h3
          rw [h3]; exact h T2 hx3
        · rw [lsf_f (by simp; exact fun y => z (hs.mpr y))] at h3
          exact nm_r (e' := nI (i + 1)) (nI_1 i) (ih (i + 1) r T2 (by omega) (by omega) (hRT.cp hx2) hx3 h3)
    exact ⟨1000, loop 998 2 1000 S1 (by omega) (by omega) hR hx rfl⟩
  · obtain ⟨n, n1, en⟩ := q.2
    exact i_outside (l := 0) rfl rfl a (Nat.zero_le n) (by omega) (by omega) en
