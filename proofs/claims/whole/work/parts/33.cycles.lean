/-! cycles -/
def wk (b g : Nat) : Nat → (Nat → Bool) → Nat → Nat → Nat × (Nat → Bool)
  | 0, R, _, i => (i, R)
  | n + 1, R, x, i => if R x = true then (i, R) else wk b g n (va_up R x true) (x * g % b) (i + 1)
def cyc (b g : Nat) : Nat → Nat → (Nat → Bool) → Nat → Nat → Nat × Nat
  | 0, _, _, c, l => (c, l)
  | n + 1, x, R, c, l => cyc b g n (x + 1) (wk b g b R x 0).2 (c + if (wk b g b R x 0).1 = 0 then 0 else 1) (if l < (wk b g b R x 0).1 then (wk b g b R x 0).1 else l)
theorem wk_le (b g : Nat) : ∀ n R x i, (wk b g n R x i).1 ≤ i + n := by
  intro n
  induction n with
  | zero => intro R x i; exact Nat.le_refl _
  | succ n ih =>
    intro R x i
    rw [wk]
    by_cases h : R x = true
    · rw [if_pos h]; simp
    · rw [if_neg h]; have := ih (va_up R x true) (x * g % b) (i + 1); omega
def cycV (b g : Nat) (w : Int32) : Int32 := if w = 0 then nI (cyc b g (b - 1) 1 (fun _ => false) 0 0).1 else nI (cyc b g (b - 1) 1 (fun _ => false) 0 0).2
def okCy (v t w : Int32) : Prop := (∃ g, 2 ≤ g ∧ g < 17 ∧ v = nI g) ∧ (∃ b, 2 ≤ b ∧ b ≤ 999 ∧ t = nI b) ∧ ∃ k, k ≤ 1 ∧ w = nI k
noncomputable def q_cycles (v t w : Int32) : Int32 := cif (okCy v t w) (if Nat.gcd (cl v) (cl t) ≤ 1 then cycV (cl t) (cl v) w else -5) (-1)
abbrev scN (j : Nat) : Prop := j = 55
theorem x_cycles {S : St} {v t w : Int32} {post : Int32 → St → Prop} (h : ∀ S' : St, Fx scN S S' → post (q_cycles v t w) S') : w_X8_cycles v t w post S := by
  have bad : ¬ okCy v t w → post (-1) S := fun q => by
    have h := h S Fx.rf
    unfold q_cycles at h
    rw [cif_neg q] at h
    exact h
  unfold w_X8_cycles
  refine s_isBase (fun g g1 g2 eg => br_f (by decide) ?_) (fun n => br_t rfl (bad (fun q => by obtain ⟨⟨g, g1, g2, e⟩, -⟩ := q; exact n g g1 g2 e)))
  refine s_isWithin (fun a1 a2 => br_f (by decide) ?_) (fun a => br_t rfl (bad (fun q => by obtain ⟨-, ⟨n, n1, n2, en⟩, -⟩ := q; exact i_outside (l := 2) (h := 999) rfl rfl a n1 n2 (by omega) en)))
  obtain ⟨b, b1, b2, rfl⟩ := i_between (l := 2) (h := 999) rfl rfl a1 a2
  refine s_isWithin (fun a1 a2 => br_f (by decide) ?_) (fun a => br_t rfl (bad (fun q => by obtain ⟨-, -, ⟨n, n2, en⟩⟩ := q; exact i_outside (l := 0) (h := 1) rfl rfl a (Nat.zero_le n) n2 (by omega) en)))
  obtain ⟨k, -, k2, rfl⟩ := i_between (l := 0) (h := 1) rfl rfl a1 a2
  subst eg
  unfold q_cycles at h
  rw [cif_pos ⟨⟨g, g1, g2, rfl⟩, ⟨b, b1, b2, rfl⟩, ⟨k, k2, rfl⟩⟩, cl_nI (by omega), cl_nI (by omega)] at h
  refine nm_r (toL (by omega)) (nm_r (toL (by omega)) (s_gcd (by omega) (by omega) ?_))
  have hgb : Nat.gcd g b ≤ g := Nat.le_of_dvd (by omega) (Nat.gcd_dvd_left g b)
  refine pl_le (Nat.gcd g b) 1 (fun q => ?_) (fun q => by rw [if_neg (by omega)] at h; exact h S Fx.rf)
  rw [if_pos q] at h
  have mark : ∀ n R x i r (T : St) (p : Int32 → St → Prop), i + n = b → n < r → x < b → (∀ y, y < b → T.1 55 y = if R y = true then 1 else 0) → (∀ T' : St, (∀ y, y < b → T'.1 55 y = if (wk b g n R x i).2 y = true then 1 else 0) → Fx scN T T' → p (nI (wk b g n R x i).1) T') → w_X8_markRing_6 p r (nI g) (nI b) (nI x) (nI i) T := by
    intro n
    induction n with
    | zero =>
      intro R x i r T p h1 h2 hx hR hp
      obtain ⟨r, rfl⟩ : ∃ j, r = j + 1 := ⟨r - 1, by omega⟩
      rw [w_X8_markRing_6]
      exact pk_le b i (fun _ => hp T hR Fx.rf) (fun q => by omega)
    | succ n ih =>
      intro R x i r T p h1 h2 hx hR hp
      obtain ⟨r, rfl⟩ : ∃ j, r = j + 1 := ⟨r - 1, by omega⟩
      rw [w_X8_markRing_6]
      rw [wk] at hp
      refine pk_le b i (fun q => by omega) (fun q => s_valueAt (by show x < 1000; omega) (by decide) ?_)
      rw [hR x hx]
      by_cases e : R x = true
      · rw [if_pos e] at hp ⊢
        exact br_f (by decide) (hp T hR Fx.rf)
      · rw [if_neg e] at hp ⊢
        have hm : x * g ≤ 1000 * 17 := mul_bd (by omega) (by omega)
        refine br_t rfl (s_setAt (by show x < 1000; omega) (by decide) (nm_r (pk_mul _ _) (s_remainder (by omega) (nm_r (e' := nI (i + 1)) (nI_1 i) (ih (va_up R x true) _ (i + 1) r _ p (by omega) (by omega) (Nat.mod_lt _ (by omega)) (fun y hy => ?_) (fun T' hT' hx' => hp T' hT' ((fx_sI (D := scN) rfl).tr hx')))))))
        by_cases z : y = x
        · subst z; rw [sI_s, up_s]; rfl
        · rw [sI_n _ _ _ _ _ z, hR y hy]; simp [va_up, z]
  have second : ∀ n x R c l r (T : St), x + n = b → n < r → (∀ y, y < b → T.1 55 y = if R y = true then 1 else 0) → Fx scN S T → c + n < 2000 → l ≤ b → cyc b g n x R c l = cyc b g (b - 1) 1 (fun _ => false) 0 0 → w_X8_cycles_78 post r (nI g) (nI b) (nI k) (nI c) (nI l) (nI x) T := by
    intro n
    induction n with
    | zero =>
      intro x R c l r T h1 h2 hR hx hc hl he
      obtain ⟨r, rfl⟩ : ∃ j, r = j + 1 := ⟨r - 1, by omega⟩
      have h := h T hx
      unfold cycV at h
      rw [← he, cyc] at h
      rw [w_X8_cycles_78]
      refine pk_le b x (fun _ => ⟨fun q => ?_, fun q => ?_⟩) (fun q => by omega)
      · rw [if_pos q] at h; exact h
      · rw [if_neg q] at h; exact h
    | succ n ih =>
      intro x R c l r T h1 h2 hR hx hc hl he
      obtain ⟨r, rfl⟩ : ∃ j, r = j + 1 := ⟨r - 1, by omega⟩
      rw [w_X8_cycles_78]
      rw [cyc] at he
      refine pk_le b x (fun q => by omega) (fun q => ?_)
      unfold w_X8_markRing
      refine ⟨b + 1, mark b R x 0 _ T _ (by omega) (by omega) (by omega) hR (fun T' hT' hx' => ?_)⟩
      have hs := wk_le b g b R x 0
      generalize wk b g b R x 0 = sR at *
      have hx3 := hx.tr hx'
      have fin : ∀ d : Nat, (if sR.1 = 0 then 0 else 1) = d → w_X8_cycles_106 post (fun v1 v2 v3 v4 v5 v6 S => w_X8_cycles_78 post r v1 v2 v3 v4 v5 v6 S) (nI g) (nI b) (nI k) (nI l) (nI x) (nI sR.1) (nI c) (nI d) T' := by
        intro d hd
        unfold w_X8_cycles_106
        rw [hd] at he
        have hd1 : d ≤ 1 := by
          by_cases z : sR.1 = 0
          · rw [if_pos z] at hd; omega
          · rw [if_neg z] at hd; omega
        refine nm_r (nI_add _ _) (nm_r (e' := nI (if l < sR.1 then sR.1 else l)) ?_ (nm_r (e' := nI (x + 1)) (nI_1 x) (ih (x + 1) _ _ _ r T' (by omega) (by omega) hT' hx3 (by omega) ?_ he)))
        · by_cases z : l < sR.1
          · rw [if_pos z, if_pos ((nI_ltI (by omega) (by omega)).mpr z)]
          · rw [if_neg z, if_neg (fun y => z ((nI_ltI (by omega) (by omega)).mp y))]
        · by_cases z : l < sR.1
          · rw [if_pos z]; omega
          · rw [if_neg z]; exact hl
      refine pk_le sR.1 0 (fun z => ?_) (fun z => ?_)
      · exact fin 0 (by rw [if_pos (by omega)])
      · exact fin 1 (by rw [if_neg (by omega)])
  have first : ∀ n i r (T : St), i + n = b → n < r → (∀ y, y < i → T.1 55 y = 0) → Fx scN S T → w_X8_cycles_47 post r (nI g) (nI b) (nI k) (nI i) T := by
    intro n
    induction n with
    | zero =>
      intro i r T h1 h2 h3 hx
      obtain ⟨r, rfl⟩ : ∃ j, r = j + 1 := ⟨r - 1, by omega⟩
      rw [w_X8_cycles_47]
      exact pk_le b i (fun _ => ⟨b + 1, second (b - 1) 1 (fun _ => false) 0 0 _ T (by omega) (by omega) (fun y hy => by rw [h3 y (by omega)]; rfl) hx (by omega) (by omega) rfl⟩) (fun q => by omega)
    | succ n ih =>
      intro i r T h1 h2 h3 hx
      obtain ⟨r, rfl⟩ : ∃ j, r = j + 1 := ⟨r - 1, by omega⟩
      rw [w_X8_cycles_47]
      refine pk_le b i (fun q => by omega) (fun q => s_setAt (by show i < 1000; omega) (by decide) (nm_r (e' := nI (i + 1)) (nI_1 i) (ih (i + 1) r _ (by omega) (by omega) (fun y hy => ?_) (Fx.I hx rfl))))
      by_cases z : y = i
      · subst z; rw [sI_s]
      · rw [sI_n _ _ _ _ _ z]; exact h3 y (by omega)
  exact ⟨b + 1, first b 0 _ S (by omega) (by omega) (fun y hy => by omega) Fx.rf⟩
theorem m_cycles {S : St} {v t w : Int32} {post : Int32 → St → Prop} (h : ∀ S' : St, Fm scD scD S S' → post (q_cycles v t w) S') : w_X9_cycles v t w post S := by
  have bad : ¬ okCy v t w → post (-1) S := fun q => by
    have h := h S Fm.rf
    unfold q_cycles at h
    rw [cif_neg q] at h
    exact h
  unfold w_X9_cycles
  refine m_isBase (fun g g1 g2 eg => br_f (by decide) ?_) (fun n => br_t rfl (bad (fun q => by obtain ⟨⟨g, g1, g2, e⟩, -⟩ := q; exact n g g1 g2 e)))
  refine nm_e (m_in (lo := 2) (hi := 999) (by decide) (by decide) (fun a1 a2 => br_f (by decide) ?_) (fun a => br_t rfl (bad (fun q => by obtain ⟨-, ⟨n, n1, n2, en⟩, -⟩ := q; exact i_outside (l := 2) (h := 999) rfl rfl a n1 n2 (by omega) en))))
  obtain ⟨b, b1, b2, rfl⟩ := i_between (l := 2) (h := 999) rfl rfl a1 a2
  refine nm_e (m_in (lo := 0) (hi := 1) (by decide) (by decide) (fun a1 a2 => br_f (by decide) ?_) (fun a => br_t rfl (bad (fun q => by obtain ⟨-, -, ⟨n, n2, en⟩⟩ := q; exact i_outside (l := 0) (h := 1) rfl rfl a (Nat.zero_le n) n2 (by omega) en))))
  obtain ⟨k, -, k2, rfl⟩ := i_between (l := 0) (h := 1) rfl rfl a1 a2
  subst eg
  unfold q_cycles at h
  rw [cif_pos ⟨⟨g, g1, g2, rfl⟩, ⟨b, b1, b2, rfl⟩, ⟨k, k2, rfl⟩⟩, cl_nI (by omega), cl_nI (by omega)] at h
  refine nm_r (toL (by omega)) (nm_r (toL (by omega)) (s_divisor (by omega) (by omega) ?_))
  have hgb : Nat.gcd g b ≤ g := Nat.le_of_dvd (by omega) (Nat.gcd_dvd_left g b)
  refine pl_le (Nat.gcd g b) 1 (fun q => ?_) (fun q => by rw [if_neg (by omega)] at h; exact h S Fm.rf)
  rw [if_pos q] at h
  have hz := nI_ne0 (show 0 < b by omega) (by omega)
  have mark : ∀ (K : Int32 → Int32 → Int32 → Int32 → Int32 → Int32 → St → Prop) (l : Nat) (x0 c : Nat), l ≤ b → ∀ n R i r (T : St), i + n = b → n + 1 < r → (∀ y, y < b → T.1 4 y = if R y = true then 0 else -1) → (∀ j, j < i → R (rs b g x0 j) = true) → (∀ p q, p < q → q < i → rs b g x0 p ≠ rs b g x0 q) → Fm scD scD S T → (∀ T' : St, (∀ y, y < b → T'.1 4 y = if (wk b g n R (rs b g x0 i) i).2 y = true then 0 else -1) → Fm scD scD S T' → K (nI g) (nI b) (nI k) (nI (c + if (wk b g n R (rs b g x0 i) i).1 = 0 then 0 else 1)) (nI (if l < (wk b g n R (rs b g x0 i) i).1 then (wk b g n R (rs b g x0 i) i).1 else l)) (nI (x0 + 1)) T') → w_X9_cycles_93 post K r (nI g) (nI b) (nI k) (nI c) (nI l) (nI x0) (nI i) (nI (rs b g x0 i)) T := by
    intro K l x0 c hl
    have stop : ∀ i (T : St) r, i ≤ b → T.1 4 (rs b g x0 i) = 0 → K (nI g) (nI b) (nI k) (nI (c + if i = 0 then 0 else 1)) (nI (if l < i then i else l)) (nI (x0 + 1)) T → w_X9_cycles_93 post K (r + 1) (nI g) (nI b) (nI k) (nI c) (nI l) (nI x0) (nI i) (nI (rs b g x0 i)) T := by
      intro i T r hi h0 hK
      have hr := rs_lt (show 0 < b by omega) g x0 i
      rw [w_X9_cycles_93, nI_clamp (show rs b g x0 i < 2 ^ 31 by omega), h0]
      have e2 : (if nI l < nI i then nI i else nI l) = nI (if l < i then i else l) := by
        by_cases z : l < i
        · rw [if_pos z, if_pos ((nI_ltI (by omega) (by omega)).mpr z)]
        · rw [if_neg z, if_neg (fun y => z ((nI_ltI (by omega) (by omega)).mp y))]
      refine ⟨in_nI (by omega), br_f (by decide) (pk_le i 0 (fun z => ?_) (fun z => ?_))⟩
      · unfold w_X9_cycles_138
        rw [if_pos (show i = 0 by omega)] at hK
        exact nm_r (e' := nI (c + 0)) (nI_add c 0) (nm_r e2 (nm_r (e' := nI (x0 + 1)) (nI_1 x0) hK))
      · unfold w_X9_cycles_138
        rw [if_neg (show ¬ i = 0 by omega)] at hK
        exact nm_r (e' := nI (c + 1)) (nI_add c 1) (nm_r e2 (nm_r (e' := nI (x0 + 1)) (nI_1 x0) hK))
    intro n
    induction n with
    | zero =>
      intro R i r T h1 h2 hR hj hd hx hp
      obtain ⟨r, rfl⟩ : ∃ j, r = j + 1 := ⟨r - 1, by omega⟩
      have hr := rs_lt (show 0 < b by omega) g x0 i
      refine stop i T r (by omega) ?_ (hp T hR hx)
      obtain ⟨p, q, p1, p2, p3⟩ := php b (fun i => rs b g x0 i) (fun i _ => rs_lt (by omega) g x0 i)
      have hq : q = i := by
        rcases Nat.lt_or_ge q i with z | z
        · exact absurd p3 (hd p q p1 z)
        · omega
      subst hq
      have p3 : rs b g x0 p = rs b g x0 q := p3
      rw [hR _ hr, ← p3, if_pos (hj p p1)]
    | succ n ih =>
      intro R i r T h1 h2 hR hj hd hx hp
      obtain ⟨r, rfl⟩ : ∃ j, r = j + 1 := ⟨r - 1, by omega⟩
      have hr := rs_lt (show 0 < b by omega) g x0 i
      rw [wk] at hp
      by_cases e : R (rs b g x0 i) = true
      · rw [if_pos e] at hp
        exact stop i T r (by omega) (by rw [hR _ hr, if_pos e]) (hp T hR hx)
      · rw [if_neg e, ← rs_succ] at hp
        have hm : rs b g x0 i * g ≤ 1000 * 17 := mul_bd (by omega) (by omega)
        rw [w_X9_cycles_93, nI_clamp (show rs b g x0 i < 2 ^ 31 by omega), hR _ hr, if_neg e]
        refine ⟨in_nI (by omega), br_t rfl ⟨in_nI (by omega), nm_e (nm_r (e' := nI (i + 1)) (nI_1 i) ⟨hz, nm_r (e' := nI (rs b g x0 (i + 1))) (by rw [pk_mul, jr_nI (by omega) (by omega) (by omega), rs_succ]) (ih (va_up R (rs b g x0 i) true) (i + 1) r _ (by omega) (by omega) (fun y hy => ?_) (fun j hj' => ?_) (fun p q pq hq => ?_) (Fm.A hx (Or.inl rfl) (by decide)) hp)⟩)⟩⟩
        · by_cases z : y = rs b g x0 i
          · subst z; rw [sI_s, up_s]; rfl
          · rw [sI_n _ _ _ _ _ z, hR y hy]; simp [va_up, z]
        · by_cases z : rs b g x0 j = rs b g x0 i
          · rw [z, up_s]
          · rcases Nat.lt_or_ge j i with y | y
            · simp [va_up, z, hj j y]
            · exact absurd (by rw [show j = i by omega]) z
        · rcases Nat.lt_or_ge q i with y | y
          · exact hd p q pq y
          · have : q = i := by omega
            subst this
            intro z
            exact e (z ▸ hj p pq)
  have second : ∀ n x R c l r (T : St), x + n = b → n < r → (∀ y, y < b → T.1 4 y = if R y = true then 0 else -1) → Fm scD scD S T → c + n < 2000 → l ≤ b → cyc b g n x R c l = cyc b g (b - 1) 1 (fun _ => false) 0 0 → w_X9_cycles_80 post r (nI g) (nI b) (nI k) (nI c) (nI l) (nI x) T := by
    intro n
    induction n with
    | zero =>
      intro x R c l r T h1 h2 hR hx hc hl he
      obtain ⟨r, rfl⟩ : ∃ j, r = j + 1 := ⟨r - 1, by omega⟩
      have h := h T hx
      unfold cycV at h
      rw [← he, cyc] at h
      rw [w_X9_cycles_80]
      refine pk_le b x (fun _ => ⟨fun q => ?_, fun q => ?_⟩) (fun q => by omega)
      · rw [if_pos q] at h; exact h
      · rw [if_neg q] at h; exact h
    | succ n ih =>
      intro x R c l r T h1 h2 hR hx hc hl he
      obtain ⟨r, rfl⟩ : ∃ j, r = j + 1 := ⟨r - 1, by omega⟩
      rw [w_X9_cycles_80]
      rw [cyc] at he
      refine pk_le b x (fun q => by omega) (fun q => ⟨b + 2, ?_⟩)
      have ex : rs b g x 0 = x := by rw [rs_zero, Nat.mod_eq_of_lt (by omega)]
      have hm := mark (fun v1 v2 v3 v4 v5 v6 S => w_X9_cycles_80 post r v1 v2 v3 v4 v5 v6 S) l x c hl b R 0 (b + 2) T (by omega) (by omega) hR (fun j hj => by omega) (fun p q _ hq => by omega) hx
      rw [ex] at hm
      refine hm (fun T' hT' hx' => ?_)
      have hs := wk_le b g b R x 0
      refine ih (x + 1) _ _ _ r T' (by omega) (by omega) hT' hx' ?_ ?_ he
      · by_cases z : (wk b g b R x 0).1 = 0
        · rw [if_pos z]; omega
        · rw [if_neg z]; omega
      · by_cases z : l < (wk b g b R x 0).1
        · rw [if_pos z]; omega
        · rw [if_neg z]; exact hl
  have first : ∀ n i r (T : St), i + n = b → n < r → (∀ y, y < i → T.1 4 y = -1) → Fm scD scD S T → w_X9_cycles_51 post r (nI g) (nI b) (nI k) (nI i) T := by
    intro n
    induction n with
    | zero =>
      intro i r T h1 h2 h3 hx
      obtain ⟨r, rfl⟩ : ∃ j, r = j + 1 := ⟨r - 1, by omega⟩
      rw [w_X9_cycles_51]
      exact pk_le b i (fun _ => ⟨b + 1, second (b - 1) 1 (fun _ => false) 0 0 _ T (by omega) (by omega) (fun y hy => by rw [h3 y (by omega)]; rfl) hx (by omega) (by omega) rfl⟩) (fun q => by omega)
    | succ n ih =>
      intro i r T h1 h2 h3 hx
      obtain ⟨r, rfl⟩ : ∃ j, r = j + 1 := ⟨r - 1, by omega⟩
      rw [w_X9_cycles_51]
      rw [nI_clamp (show i < 2 ^ 31 by omega)]
      refine pk_le b i (fun q => by omega) (fun q => ⟨in_nI (by omega), nm_e (nm_r (e' := nI (i + 1)) (nI_1 i) (ih (i + 1) r _ (by omega) (by omega) (fun y hy => ?_) (Fm.A hx (Or.inl rfl) (by decide))))⟩)
      by_cases z : y = i
      · subst z; rw [sI_s]
      · rw [sI_n _ _ _ _ _ z]; exact h3 y (by omega)
  exact ⟨b + 1, first b 0 _ S (by omega) (by omega) (fun y hy => by omega) Fm.rf⟩
