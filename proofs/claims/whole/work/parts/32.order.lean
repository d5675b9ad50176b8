/-! order -/
theorem cop_cancel {b g x y : Nat} (hc : Nat.gcd g b = 1) (hx : x < b) (hy : y < b) (h : x * g % b = y * g % b) : x = y := by
  have key : ∀ u v : Nat, u < b → v ≤ u → u * g % b = v * g % b → u = v := by
    intro u v hu hvu he
    have h1 : (u * g - v * g) % b = 0 := Nat.sub_mod_eq_zero_of_mod_eq he
    rw [← Nat.sub_mul] at h1
    have h2 : b ∣ (u - v) * g := Nat.dvd_of_mod_eq_zero h1
    have h5 : b ∣ u - v := Nat.Coprime.dvd_of_dvd_mul_right (by rw [Nat.gcd_comm] at hc; exact hc) h2
    have h7 : u - v = 0 := Nat.eq_zero_of_dvd_of_lt h5 (by omega)
    omega
  rcases Nat.le_total y x with q | q
  · exact key x y hx q h
  · exact (key y x hy q h.symm).symm
theorem cop_back {b g : Nat} (hb : 0 < b) (hc : Nat.gcd g b = 1) (a : Nat) : ∀ i d, rs b g a i = rs b g a (i + d) → rs b g a 0 = rs b g a d := by
  intro i
  induction i with
  | zero => intro d h; rw [Nat.zero_add] at h; exact h
  | succ i ih =>
    intro d h
    refine ih d (cop_cancel hc (rs_lt hb g a _) (rs_lt hb g a _) ?_)
    rw [← rs_succ, ← rs_succ, show i + d + 1 = i + 1 + d by omega]
    exact h
theorem ord_ex {b g : Nat} (hb : 0 < b) (hc : Nat.gcd g b = 1) : ∃ k, 1 ≤ k ∧ k < 1 + b ∧ rs b g 1 k = rs b g 1 0 := by
  obtain ⟨i, j, h1, h2, h3⟩ := php b (fun i => rs b g 1 i) (fun i _ => rs_lt hb g 1 _)
  exact ⟨j - i, by omega, by omega, (cop_back hb hc 1 i (j - i) (by rw [show i + (j - i) = j by omega]; exact h3)).symm⟩
def ordV (b g : Nat) : Nat := lsf (fun k => rs b g 1 k == rs b g 1 0) b 1
noncomputable def q_order (v w : Int32) : Int32 := cif ((∃ g, 2 ≤ g ∧ g < 17 ∧ v = nI g) ∧ ∃ b, 1 ≤ b ∧ b ≤ 9999 ∧ w = nI b) (if Nat.gcd (cl v) (cl w) ≤ 1 then nI (ordV (cl w) (cl v)) else -2) (-1)
theorem ord_p {b g : Nat} (hb : 0 < b) (hc : Nat.gcd g b = 1) : 1 ≤ ordV b g ∧ ordV b g ≤ b ∧ rs b g 1 (ordV b g) = rs b g 1 0 ∧ ∀ i, 1 ≤ i → i < ordV b g → rs b g 1 i ≠ rs b g 1 0 := by
  obtain ⟨k, h1, h2, h3⟩ := ord_ex hb hc
  have hno : ∀ i, 1 ≤ i → i < ordV b g → rs b g 1 i ≠ rs b g 1 0 := fun i a1 a2 => by
    have := lsf_no (fun k => rs b g 1 k == rs b g 1 0) b 1 i a1 a2
    simpa using this
  have hy := lsf_yes (fun k => rs b g 1 k == rs b g 1 0) b 1 ⟨k, h1, h2, by simpa using h3⟩
  refine ⟨(lsf_le _ _ _).1, ?_, by simpa [ordV] using hy, hno⟩
  rcases Nat.lt_or_ge b (ordV b g) with q | q
  · exact absurd h3 (hno k h1 (by omega))
  · exact q
theorem cop_of {g b : Nat} (hg : 0 < g) (h : Nat.gcd g b ≤ 1) : Nat.gcd g b = 1 := by
  have := Nat.gcd_pos_of_pos_left b hg
  omega
theorem x_order {S : St} {v w : Int32} {post : Int32 → St → Prop} (h : post (q_order v w) S) : w_X8_order v w post S := by
  have bad : ¬ ((∃ g, 2 ≤ g ∧ g < 17 ∧ v = nI g) ∧ ∃ b, 1 ≤ b ∧ b ≤ 9999 ∧ w = nI b) → post (-1) S := fun q => by
    unfold q_order at h
    rw [cif_neg q] at h
    exact h
  unfold w_X8_order
  refine s_isBase (fun g g1 g2 eg => br_f (by decide) ?_) (fun n => br_t rfl (bad (fun q => by obtain ⟨⟨g, g1, g2, e⟩, -⟩ := q; exact n g g1 g2 e)))
  refine s_isWithin (fun a1 a2 => br_f (by decide) ?_) (fun a => br_t rfl (bad (fun q => ?_)))
  · obtain ⟨b, b1, b2, rfl⟩ := i_between (l := 1) (h := 9999) rfl rfl a1 a2
    subst eg
    unfold q_order at h
    rw [cif_pos ⟨⟨g, g1, g2, rfl⟩, ⟨b, b1, b2, rfl⟩⟩, cl_nI (by omega), cl_nI (by omega)] at h
    refine nm_r (toL (by omega)) (nm_r (toL (by omega)) (s_gcd (by omega) (by omega) ?_))
    have hgb : Nat.gcd g b ≤ g := Nat.le_of_dvd (by omega) (Nat.gcd_dvd_left g b)
    refine pl_le (Nat.gcd g b) 1 (fun q => ?_) (fun q => ?_)
    · rw [if_pos q] at h
      have hc := cop_of (by omega) q
      refine s_remainder (a := 1) (by omega) (s_remainder (by omega) ?_)
      have hbd : ∀ i, rs b g 1 i < b := fun i => rs_lt (by omega) g 1 i
      obtain ⟨oo1, oo2, oo3, oo4⟩ := ord_p (b := b) (g := g) (by omega) hc
      have r0 : 1 % b = rs b g 1 0 := (rs_zero b g 1).symm
      have r1 : g % b = rs b g 1 1 := by unfold rs; simp
      rw [r0, r1]
      have key : ∀ n i, 1 ≤ i → i ≤ ordV b g → ordV b g < i + n → w_X8_order_51 post n (nI g) (nI b) (nI (rs b g 1 0)) (nI (rs b g 1 i)) (nI i) S := by
        intro n
        induction n with
        | zero => intro i h1 h2 h3; omega
        | succ n ih =>
          intro i h1 h2 h3
          rw [w_X8_order_51]
          have e1 := hbd i
          have e2 := hbd 0
          rcases Nat.lt_or_ge i (ordV b g) with z | z
          · refine br_f (fun e => oo4 i h1 z (nI_inj e)) ?_
            have hm : rs b g 1 i * g ≤ 10000 * 17 := mul_bd (by omega) (by omega)
            refine pk_le b i (fun y => by omega) (fun y => nm_r (pk_mul _ _) (s_remainder (by omega) ?_))
            rw [← rs_succ]
            exact nm_r (e' := nI (i + 1)) (nI_1 i) (ih (i + 1) (by omega) z (by omega))
          · have : i = ordV b g := by omega
            subst this
            exact br_t (by rw [oo3]) h
      exact ⟨b + 1, key _ 1 (Nat.le_refl _) oo1 (by omega)⟩
    · rw [if_neg (by omega)] at h
      exact h
  · obtain ⟨-, n, n1, n2, en⟩ := q
    exact i_outside (l := 1) (h := 9999) rfl rfl a n1 n2 (by omega) en
theorem m_order {S : St} {v w : Int32} {post : Int32 → St → Prop} (h : post (q_order v w) S) : w_X9_order v w post S := by
  have bad : ¬ ((∃ g, 2 ≤ g ∧ g < 17 ∧ v = nI g) ∧ ∃ b, 1 ≤ b ∧ b ≤ 9999 ∧ w = nI b) → post (-1) S := fun q => by
    unfold q_order at h
    rw [cif_neg q] at h
    exact h
  unfold w_X9_order
  refine m_isBase (fun g g1 g2 eg => br_f (by decide) ?_) (fun n => br_t rfl (bad (fun q => by obtain ⟨⟨g, g1, g2, e⟩, -⟩ := q; exact n g g1 g2 e)))
  refine nm_e (m_in (lo := 1) (hi := 9999) (by decide) (by decide) (fun a1 a2 => br_f (by decide) ?_) (fun a => br_t rfl (bad (fun q => ?_))))
  · obtain ⟨b, b1, b2, rfl⟩ := i_between (l := 1) (h := 9999) rfl rfl a1 a2
    subst eg
    unfold q_order at h
    rw [cif_pos ⟨⟨g, g1, g2, rfl⟩, ⟨b, b1, b2, rfl⟩⟩, cl_nI (by omega), cl_nI (by omega)] at h
    refine nm_r (toL (by omega)) (nm_r (toL (by omega)) (s_divisor (by omega) (by omega) ?_))
    have hgb : Nat.gcd g b ≤ g := Nat.le_of_dvd (by omega) (Nat.gcd_dvd_left g b)
    have hz := nI_ne0 (show 0 < b by omega) (by omega)
    refine pl_le (Nat.gcd g b) 1 (fun q => ⟨hz, ?_⟩) (fun q => ?_)
    · rw [if_pos q] at h
      have hc := cop_of (by omega) q
      have hbd : ∀ i, rs b g 1 i < b := fun i => rs_lt (by omega) g 1 i
      obtain ⟨oo1, oo2, oo3, oo4⟩ := ord_p (b := b) (g := g) (by omega) hc
      have r0 : jr 1 (nI b) = nI (rs b g 1 0) := by rw [rs_zero]; exact jr_nI (a := 1) (by omega) (by omega) (by omega)
      have r1 : g % b = rs b g 1 1 := by unfold rs; simp
      rw [jr_nI (by omega) (by omega) (by omega), r1]
      have key : ∀ n i, 1 ≤ i → i ≤ ordV b g → ordV b g < i + n → w_X9_order_43 post n (nI g) (nI b) (nI i) (nI (rs b g 1 i)) S := by
        intro n
        induction n with
        | zero => intro i h1 h2 h3; omega
        | succ n ih =>
          intro i h1 h2 h3
          rw [w_X9_order_43, r0]
          have e1 := hbd i
          have e2 := hbd 0
          refine ⟨hz, ?_⟩
          rcases Nat.lt_or_ge i (ordV b g) with z | z
          · refine br_f (fun e => oo4 i h1 z (nI_inj e)) ⟨hz, ?_⟩
            have hm : rs b g 1 i * g ≤ 10000 * 17 := mul_bd (by omega) (by omega)
            rw [pk_mul, jr_nI (by omega) (by omega) (by omega), ← rs_succ]
            exact nm_e (nm_r (e' := nI (i + 1)) (nI_1 i) (ih (i + 1) (by omega) z (by omega)))
          · have : i = ordV b g := by omega
            subst this
            exact br_t (by rw [oo3]) h
      exact nm_e ⟨b + 1, key _ 1 (Nat.le_refl _) oo1 (by omega)⟩
    · rw [if_neg (by omega)] at h
      exact h
  · obtain ⟨-, n, n1, n2, en⟩ := q
    exact i_outside (l := 1) (h := 9999) rfl rfl a n1 n2 (by omega) en
/-! full -/
noncomputable def ful (g : Nat) : Nat → Nat → Nat → Int32 → Int32 → Nat × Int32 × Int32
  | 0, _, c, f, l => (c, f, l)
  | n + 1, b, c, f, l => cif (isFullN b g 1) (ful g n (b + 1) (c + 1) (if c = 0 then nI b else f) (nI b)) (ful g n (b + 1) c f l)
noncomputable def fulV (g b n : Nat) (w : Int32) : Int32 := if w = 0 then nI (ful g n b 0 (-2) (-2)).1 else if w = 1 then (ful g n b 0 (-2) (-2)).2.1 else (ful g n b 0 (-2) (-2)).2.2
def okFul (v f t w : Int32) : Prop := (∃ g, 2 ≤ g ∧ g < 17 ∧ v = nI g) ∧ (∃ a b, 2 ≤ a ∧ a ≤ b ∧ b ≤ 999 ∧ f = nI a ∧ t = nI b) ∧ ∃ k, k ≤ 2 ∧ w = nI k
noncomputable def q_full (v f t w : Int32) : Int32 := cif (okFul v f t w) (fulV (cl v) (cl f) (cl t + 1 - cl f) w) (-1)
abbrev scU (j : Nat) : Prop := j = 54
theorem x_full {S : St} {v f t w : Int32} {post : Int32 → St → Prop} (h : ∀ S' : St, Fx scU S S' → post (q_full v f t w) S') : w_X8_full v f t w post S := by
  have bad : ¬ okFul v f t w → post (-1) S := fun q => by
    have h := h S Fx.rf
    unfold q_full at h
    rw [cif_neg q] at h
    exact h
  unfold w_X8_full w_X8_full_26
  have stop : ¬ (∃ a b, 2 ≤ a ∧ a ≤ b ∧ b ≤ 999 ∧ f = nI a ∧ t = nI b) → w_X8_full_27 post v f t w 0 S := fun q => by
    have b' := bad (fun z => q z.2.1)
    unfold w_X8_full_27
    exact s_isBase (fun g g1 g2 eg => br_f (by decide) (br_t rfl b')) (fun n => br_t rfl b')
  refine s_isWithin (fun a1 a2 => br_f (by decide) ?_) (fun a => br_t rfl (stop (fun q => ?_)))
  · obtain ⟨a, f1, f2, rfl⟩ := i_between (l := 2) (h := 999) rfl rfl a1 a2
    refine s_isWithin (fun a1 a2 => br_f (by decide) ?_) (fun z => br_t rfl (stop (fun q => ?_)))
    · obtain ⟨b, t1, t2, rfl⟩ := i_between (l := a) (h := 999) rfl rfl a1 a2
      unfold w_X8_full_27
      refine s_isBase (fun g g1 g2 eg => br_f (by decide) (br_f (by decide) ?_)) (fun n => br_t rfl (bad (fun q => by obtain ⟨⟨g, g1, g2, e⟩, -⟩ := q; exact n g g1 g2 e)))
      refine s_isWithin (fun a1 a2 => br_f (by decide) ?_) (fun z => br_t rfl (bad (fun q => ?_)))
      · obtain ⟨k, -, k2, rfl⟩ := i_between (l := 0) (h := 2) rfl rfl a1 a2
        subst eg
        unfold q_full at h
        rw [cif_pos ⟨⟨g, g1, g2, rfl⟩, ⟨a, b, f1, t1, t2, rfl, rfl⟩, ⟨k, k2, rfl⟩⟩, cl_nI (by omega), cl_nI (by omega), cl_nI (by omega)] at h
        have key : ∀ n x c (u l : Int32) r (T : St), x + n = b + 1 → n < r → c + n < 2000 → 2 ≤ x → Fx scU S T → ful g n x c u l = ful g (b + 1 - a) a 0 (-2) (-2) → w_X8_full_67 post r (nI g) (nI b) (nI k) (nI c) u l (nI x) T := by
          intro n
          induction n with
          | zero =>
            intro x c u l r T h1 h2 h3 h4 hx he
            obtain ⟨r, rfl⟩ : ∃ j, r = j + 1 := ⟨r - 1, by omega⟩
            have h := h T hx
            unfold fulV at h
            rw [← he, ful] at h
            rw [w_X8_full_67]
            refine pk_lt b x (fun _ => ⟨fun q => ?_, fun q => ?_⟩) (fun q => by omega)
            · rw [if_pos q] at h; exact h
            · rw [if_neg q] at h
              refine ⟨fun q => ?_, fun q => ?_⟩
              · rw [if_pos q] at h; exact h
              · rw [if_neg q] at h; exact h
          | succ n ih =>
            intro x c u l r T h1 h2 h3 h4 hx he
            obtain ⟨r, rfl⟩ : ∃ j, r = j + 1 := ⟨r - 1, by omega⟩
            rw [w_X8_full_67]
            rw [ful] at he
            have o : okF 1 x g := ⟨by omega, by omega, by omega, g1, g2⟩
            refine pk_lt b x (fun q => by omega) (fun q => s_become (a := 1) o (fun T2 hF hx2 => s_isFullUnit hF o (fun z => br_f (by decide) ?_) (fun z => br_t rfl ?_)))
            · rw [cif_pos z] at he
              have hx3 : Fx scU S T2 := hx.tr hx2
              refine pk_eq c 0 (fun y => ?_) (fun y => ?_)
              · rw [if_pos y] at he
                exact nm_r (e' := nI (c + 1)) (nI_1 c) (nm_r (e' := nI (x + 1)) (nI_1 x) (ih (x + 1) (c + 1) _ _ r T2 (by omega) (by omega) (by omega) (by omega) hx3 he))
              · rw [if_neg y] at he
                exact nm_r (e' := nI (c + 1)) (nI_1 c) (nm_r (e' := nI (x + 1)) (nI_1 x) (ih (x + 1) (c + 1) _ _ r T2 (by omega) (by omega) (by omega) (by omega) hx3 he))
            · rw [cif_neg z] at he
              exact nm_r (e' := nI (x + 1)) (nI_1 x) (ih (x + 1) c _ _ r T2 (by omega) (by omega) (by omega) (by omega) (hx.tr hx2) he)
        exact ⟨b + 2 - a, key (b + 1 - a) a 0 (-2) (-2) _ S (by omega) (by omega) (by omega) f1 Fx.rf rfl⟩
      · obtain ⟨-, -, k, k2, ek⟩ := q
        exact i_outside (l := 0) (h := 2) rfl rfl z (Nat.zero_le k) k2 (by omega) ek
    · obtain ⟨a', b, q1, q2, q3, q4, q5⟩ := q
      have := nI_inj q4
      subst this
      exact i_outside (l := a) (h := 999) rfl rfl z q2 q3 (by omega) q5
  · obtain ⟨a', b, q1, q2, q3, q4, q5⟩ := q
    exact i_outside (l := 2) (h := 999) rfl rfl a q1 (by omega) (by omega) q4
theorem m_full {S : St} {v f t w : Int32} {post : Int32 → St → Prop} (h : ∀ S' : St, Fm scD scD S S' → post (q_full v f t w) S') : w_X9_full v f t w post S := by
  have bad : ¬ okFul v f t w → post (-1) S := fun q => by
    have h := h S Fm.rf
    unfold q_full at h
    rw [cif_neg q] at h
    exact h
  unfold w_X9_full
  refine m_isBase (fun g g1 g2 eg => br_f (by decide) ?_) (fun n => br_t rfl (bad (fun q => by obtain ⟨⟨g, g1, g2, e⟩, -⟩ := q; exact n g g1 g2 e)))
  refine nm_e (m_in (lo := 2) (hi := 999) (by decide) (by decide) (fun a1 a2 => br_f (by decide) ?_) (fun a => br_t rfl (bad (fun q => ?_))))
  · obtain ⟨a, f1, f2, rfl⟩ := i_between (l := 2) (h := 999) rfl rfl a1 a2
    refine nm_e (nm_e (m_in (lo := nI a) (hi := 999) rfl (by decide) (fun a1 a2 => br_f (by decide) ?_) (fun z => br_t rfl (bad (fun q => ?_)))))
    · obtain ⟨b, t1, t2, rfl⟩ := i_between (l := a) (h := 999) rfl rfl a1 a2
      refine nm_e (m_in (lo := 0) (hi := 2) (by decide) (by decide) (fun a1 a2 => br_f (by decide) ?_) (fun z => br_t rfl (bad (fun q => ?_))))
      · obtain ⟨k, -, k2, rfl⟩ := i_between (l := 0) (h := 2) rfl rfl a1 a2
        subst eg
        unfold q_full at h
        rw [cif_pos ⟨⟨g, g1, g2, rfl⟩, ⟨a, b, f1, t1, t2, rfl, rfl⟩, ⟨k, k2, rfl⟩⟩, cl_nI (by omega), cl_nI (by omega), cl_nI (by omega)] at h
        have key : ∀ n x c (u l : Int32) r (T : St), x + n = b + 1 → n < r → c + n < 2000 → 2 ≤ x → Fm scD scD S T → ful g n x c u l = ful g (b + 1 - a) a 0 (-2) (-2) → w_X9_full_63 post r (nI g) (nI b) (nI k) (nI c) u l (nI x) T := by
          intro n
          induction n with
          | zero =>
            intro x c u l r T h1 h2 h3 h4 hx he
            obtain ⟨r, rfl⟩ : ∃ j, r = j + 1 := ⟨r - 1, by omega⟩
            have h := h T hx
            unfold fulV at h
            rw [← he, ful] at h
            rw [w_X9_full_63]
            refine pk_lt b x (fun _ => ⟨fun q => ?_, fun q => ?_⟩) (fun q => by omega)
            · rw [if_pos q] at h; exact h
            · rw [if_neg q] at h
              refine ⟨fun q => ?_, fun q => ?_⟩
              · rw [if_pos q] at h; exact h
              · rw [if_neg q] at h; exact h
          | succ n ih =>
            intro x c u l r T h1 h2 h3 h4 hx he
            obtain ⟨r, rfl⟩ : ∃ j, r = j + 1 := ⟨r - 1, by omega⟩
            rw [w_X9_full_63]
            rw [ful] at he
            have o : okF 1 x g := ⟨by omega, by omega, by omega, g1, g2⟩
            have hll := o.hl
            refine pk_lt b x (fun q => by omega) (fun q => ?_)
            unfold w_X9_isFull
            refine s_looks (a := 1) (by omega) o.2.1 o.2.2.1 g1 g2 (fun T2 hL hx2 => ?_)
            have hx3 : Fm scD scD S T2 := hx.tr hx2
            have no : ¬ isFullN x g 1 → w_X9_full_63 post r (nI g) (nI b) (nI k) (nI c) u l (nI (x + 1)) T2 := fun z => by
              rw [cif_neg z] at he
              exact ih (x + 1) c _ _ r T2 (by omega) (by omega) (by omega) (by omega) hx3 he
            rw [hL.2.2.1, hL.2.1, show nI x - 1 = nI (x - 1) from pk_sub (a := x) (b := 1) (by omega)]
            by_cases e : rs x g 1 (hd x g 1) = 0
            · rw [if_pos e]
              exact br_f (by decide) (br_t rfl (nm_r (e' := nI (x + 1)) (nI_1 x) (no (fun z => z.1 e))))
            · rw [if_neg e]
              refine br_t rfl (pk_eq (ln x g 1) (x - 1) (fun y => br_f (by decide) ?_) (fun y => br_t rfl (nm_r (e' := nI (x + 1)) (nI_1 x) (no (fun z => y (by have := z.2; omega))))))
              have z : isFullN x g 1 := ⟨e, by omega⟩
              rw [cif_pos z] at he
              refine pk_eq c 0 (fun y => ?_) (fun y => ?_)
              · rw [if_pos y] at he
                exact nm_r (e' := nI (c + 1)) (nI_1 c) (nm_r (e' := nI (x + 1)) (nI_1 x) (ih (x + 1) (c + 1) _ _ r T2 (by omega) (by omega) (by omega) (by omega) hx3 he))
              · rw [if_neg y] at he
                exact nm_r (e' := nI (c + 1)) (nI_1 c) (nm_r (e' := nI (x + 1)) (nI_1 x) (ih (x + 1) (c + 1) _ _ r T2 (by omega) (by omega) (by omega) (by omega) hx3 he))
        exact ⟨b + 2 - a, key (b + 1 - a) a 0 (-2) (-2) _ S (by omega) (by omega) (by omega) f1 Fm.rf rfl⟩
      · obtain ⟨-, -, k, k2, ek⟩ := q
        exact i_outside (l := 0) (h := 2) rfl rfl z (Nat.zero_le k) k2 (by omega) ek
    · obtain ⟨-, ⟨a', b, q1, q2, q3, q4, q5⟩, -⟩ := q
      have := nI_inj q4
      subst this
      exact i_outside (l := a) (h := 999) rfl rfl z q2 q3 (by omega) q5
  · obtain ⟨-, ⟨a', b, q1, q2, q3, q4, q5⟩, -⟩ := q
    exact i_outside (l := 2) (h := 999) rfl rfl a q1 (by omega) (by omega) q4
