/-! nines: the blocks' sum in numbers -/
def vv (b g a p : Nat) : Nat → Nat
  | 0 => 0
  | w + 1 => vv b g a p w * g + dg b g a (p + w)
theorem vv_rs (b g a p : Nat) : ∀ w, rs b g a p * g ^ w = b * vv b g a p w + rs b g a (p + w) := by
  intro w
  induction w with
  | zero => simp [vv]
  | succ w ih =>
    have h := rs_dg (b := b) g a (p + w)
    rw [vv, Nat.pow_succ, ← Nat.mul_assoc, ih, show p + (w + 1) = p + w + 1 from rfl]
    grind
/-- digits f, from the lowest on, as a number -/
def ds (f : Nat → Nat) (g : Nat) : Nat → Nat
  | 0 => 0
  | c + 1 => ds f g c + f c * g ^ c
theorem ds_con {f f' : Nat → Nat} (g : Nat) : ∀ n, (∀ c, c < n → f c = f' c) → ds f g n = ds f' g n := by
  intro n
  induction n with
  | zero => intro _; rfl
  | succ n ih =>
    intro h
    rw [ds, ds, ih (fun c hc => h c (by omega)), h n (by omega)]
theorem ds_sh (f : Nat → Nat) (g : Nat) : ∀ n, ds f g (n + 1) = f 0 + g * ds (fun c => f (c + 1)) g n := by
  intro n
  induction n with
  | zero => simp [ds]
  | succ n ih =>
    rw [ds, ih, ds, Nat.pow_succ]
    grind
theorem ds_add (f f' : Nat → Nat) (g : Nat) : ∀ n, ds (fun c => f c + f' c) g n = ds f g n + ds f' g n := by
  intro n
  induction n with
  | zero => rfl
  | succ n ih =>
    rw [ds, ih, ds, ds]
    grind
theorem ds_0 (g : Nat) : ∀ n, ds (fun _ => 0) g n = 0 := by
  intro n
  induction n with
  | zero => rfl
  | succ n ih => rw [ds, ih]; simp
theorem ds_lt {f : Nat → Nat} {g : Nat} (hg : 0 < g) : ∀ n, (∀ c, c < n → f c < g) → ds f g n < g ^ n := by
  intro n
  induction n with
  | zero => intro _; simp [ds]
  | succ n ih =>
    intro h
    have h1 := ih (fun c hc => h c (by omega))
    have h2 : (f n + 1) * g ^ n ≤ g * g ^ n := Nat.mul_le_mul_right _ (h n (by omega))
    rw [Nat.succ_mul] at h2
    rw [ds, Nat.pow_succ, Nat.mul_comm (g ^ n) g]
    omega
theorem vv_ds (b g a p : Nat) : ∀ w, vv b g a p w = ds (fun c => dg b g a (p + (w - 1 - c))) g w := by
  intro w
  induction w with
  | zero => rfl
  | succ w ih =>
    rw [vv, ds_sh, ih, Nat.mul_comm, Nat.add_comm]
    congr 2
    exact ds_con g w (fun c hc => by congr 2; omega)
def sv (b g a w : Nat) : Nat → Nat
  | 0 => 0
  | n + 1 => sv b g a w n + vv b g a (hd b g a + w * n) w
def tb (b g a w : Nat) : Nat → Nat
  | 0 => 0
  | n + 1 => tb b g a w n + rs b g a (hd b g a + w * n)
theorem sv_cs (b g a w : Nat) : ∀ k, ds (fun c => csum b g a w c k) g w = sv b g a w k := by
  intro k
  induction k with
  | zero => exact ds_0 g w
  | succ k ih =>
    rw [sv, ← ih, vv_ds, ← ds_add]
    exact ds_con g w (fun c _ => by rw [csum, Nat.add_assoc])
theorem ds_car {g : Nat} (b a k w : Nat) : ∀ j, ds (fun c => csum b g a w c k) g j = ds (fun c => sm b g a k w c) g j + car b g a k w j * g ^ j := by
  intro j
  induction j with
  | zero => simp [ds, car]
  | succ j ih =>
    have h := Nat.div_add_mod (car b g a k w j + csum b g a w j k) g
    rw [ds, ds, ih, car, Nat.pow_succ]
    unfold sm
    grind
theorem sv_tb {b g : Nat} (a w : Nat) : ∀ n, b * sv b g a w n + (tb b g a w n + rs b g a (hd b g a + w * n)) = g ^ w * tb b g a w n + rs b g a (hd b g a) := by
  intro n
  induction n with
  | zero => simp [sv, tb]
  | succ n ih =>
    have h := vv_rs b g a (hd b g a + w * n) w
    rw [sv, tb, Nat.mul_succ, ← Nat.add_assoc]
    grind
theorem tog_tb {b g : Nat} (a : Nat) {w : Nat} (hw : 0 < w) : ∀ n, tog b g a w (w * n) = tb b g a w n := by
  intro n
  induction n with
  | zero => rfl
  | succ n ih =>
    have key : ∀ t, t < w → tog b g a w (w * n + t + 1) = tb b g a w n + rs b g a (hd b g a + w * n) := by
      intro t
      induction t with
      | zero =>
        intro _
        rw [tog, ih, if_pos (by simp)]
      | succ t iht =>
        intro ht
        rw [tog, ← Nat.add_assoc, iht (by omega), if_neg (by rw [Nat.add_assoc, Nat.mul_add_mod, Nat.mod_eq_of_lt ht]; omega), Nat.add_zero]
    have := key (w - 1) (by omega)
    rw [show w * n + (w - 1) + 1 = w * (n + 1) by rw [Nat.mul_succ]; omega] at this
    rw [this, tb]
/-- the whole sum, over included -/
theorem sum_T {b g : Nat} (hb : 0 < b) (hb2 : b < 1000) (hg : 2 ≤ g) (hg2 : g < 17) (a : Nat) {k w : Nat} (hw : 0 < w) (hl : w * k = ln b g a) : b * (ds (fun c => sm b g a k w c) g w + car b g a k w w * g ^ w) = (g ^ w - 1) * tog b g a w (ln b g a) := by
  have h := sv_tb (b := b) (g := g) a w k
  rw [hl, ln_per hb hb2 hg hg2 a] at h
  rw [← ds_car, sv_cs, ← hl, tog_tb a hw, Nat.sub_mul, Nat.one_mul]
  omega
def ninesV (b g a w : Nat) : Int32 := if tog b g a w (ln b g a) % b = 0 then nI (tog b g a w (ln b g a) / b) else -2
theorem nines_yes {b g a w n s : Nat} (hb : 0 < b) (hG : 2 ≤ g ^ w) (h : b * s = (g ^ w - 1) * tog b g a w (ln b g a)) (e : s = (g ^ w - 1) * n) : ninesV b g a w = nI n := by
  have h2 : tog b g a w (ln b g a) = b * n := by
    refine Nat.eq_of_mul_eq_mul_left (show 0 < g ^ w - 1 by omega) ?_
    rw [← h, e]
    grind
  unfold ninesV
  rw [h2, if_pos (Nat.mul_mod_right b n), Nat.mul_div_cancel_left n hb]
theorem nines_no {b g a w s : Nat} (hb : 0 < b) (h : b * s = (g ^ w - 1) * tog b g a w (ln b g a)) (e : ∀ n, s ≠ (g ^ w - 1) * n) : ninesV b g a w = -2 := by
  unfold ninesV
  rw [if_neg ?_]
  intro z
  obtain ⟨n, hn⟩ := Nat.dvd_of_mod_eq_zero z
  refine e n (Nat.eq_of_mul_eq_mul_left hb ?_)
  rw [h, hn]
  grind

/-! nines: the two sides -/
theorem m_smallNines {S : St} {b g a k w : Nat} {post : Int32 → St → Prop} (hB : BkM S b g a k w) (hb : 0 < b) (hb2 : b < 1000) (hg : 2 ≤ g) (hg2 : g < 17) (hk : k < 1000) (hw : 0 < w) (hw2 : w < 1000) (hl : w * k = ln b g a) (hG : g ^ w < 1000000) (h : post (ninesV b g a w) S) : w_X9_smallNines (nI w) (nI g) (lN (g ^ w - 1)) post S := by
  have hG2 : 2 ≤ g ^ w := Nat.le_trans hg (by have := Nat.pow_le_pow_right (show 0 < g by omega) hw; rwa [Nat.pow_one] at this)
  have hT := sum_T hb hb2 hg hg2 a hw hl
  have hL : ds (fun c => sm b g a k w c) g w < g ^ w := ds_lt (by omega) w (fun c _ => Nat.mod_lt _ (by omega))
  have hc := car_le hb hg a k w w
  have hov : car b g a k w w * g ^ w ≤ 1000 * 1000000 := mul_bd (by omega) (by omega)
  unfold w_X9_smallNines
  refine nm_r (e' := nI (w - 1)) (pk_sub (b := 1) (by omega)) ⟨w + 1, ?_⟩
  have fin : ∀ n, 0 < n → w_X9_smallNines_8 post n (nI g) (lN (g ^ w - 1)) (lN (ds (fun c => sm b g a k w c) g w)) (-1) S := by
    intro n hn
    obtain ⟨n, rfl⟩ : ∃ j, n = j + 1 := ⟨n - 1, by omega⟩
    rw [w_X9_smallNines_8]
    refine br_t (by decide) ?_
    have hz := lN_ne0 (show 0 < g ^ w - 1 by omega) (by omega)
    have e1 : lN (g ^ w - 1) + 1 = lN (g ^ w) := by
      rw [show (1 : Int64) = lN 1 from rfl, lN_add]; congr 1; omega
    refine nm_r (e' := lN (ds (fun c => sm b g a k w c) g w + car b g a k w w * g ^ w)) (by rw [hB.1, toL (by omega), e1, lN_mul, lN_add]) ⟨hz, ?_⟩
    rw [jrl_lN (by omega) (by omega) (by omega), pk_lDiv (by omega) (by omega) (by omega), toI]
    have hm := Nat.mod_lt (ds (fun c => sm b g a k w c) g w + car b g a k w w * g ^ w) (show 0 < g ^ w - 1 by omega)
    refine pl_eq ((ds (fun c => sm b g a k w c) g w + car b g a k w w * g ^ w) % (g ^ w - 1)) 0 (fun q => ⟨hz, ?_⟩) (fun q => ?_)
    · rw [nines_yes hb hG2 hT (Nat.mul_div_cancel' (Nat.dvd_of_mod_eq_zero q)).symm] at h
      exact h
    · rw [nines_no hb hT (fun n e => q (by rw [e]; exact Nat.mul_mod_right _ _))] at h
      exact h
  have key : ∀ c, c < w → ∀ n v, c + 1 < n → v * g ^ (c + 1) + ds (fun c => sm b g a k w c) g (c + 1) = ds (fun c => sm b g a k w c) g w → w_X9_smallNines_8 post n (nI g) (lN (g ^ w - 1)) (lN v) (nI c) S := by
    have pre : ∀ c v, c < w → v * g ^ (c + 1) + ds (fun c => sm b g a k w c) g (c + 1) = ds (fun c => sm b g a k w c) g w → v < 1000000 ∧ (v * g + sm b g a k w c) * g ^ c + ds (fun c => sm b g a k w c) g c = ds (fun c => sm b g a k w c) g w := by
      intro c v hc e
      have hp : 0 < g ^ (c + 1) := Nat.pow_pos (by omega)
      have h1 : v * 1 ≤ v * g ^ (c + 1) := Nat.mul_le_mul_left v hp
      refine ⟨by omega, ?_⟩
      rw [← e, ds, Nat.pow_succ]
      grind
    intro c
    induction c with
    | zero =>
      intro hc n v hn e
      obtain ⟨n, rfl⟩ : ∃ j, n = j + 1 := ⟨n - 1, by omega⟩
      obtain ⟨p1, p2⟩ := pre 0 v hc e
      have hs : sm b g a k w 0 < g := Nat.mod_lt _ (by omega)
      rw [w_X9_smallNines_8]
      refine br_f (by decide) ⟨in_nI (by omega), ?_⟩
      refine nm_r (e' := lN (v * g + sm b g a k w 0)) (by rw [show Int32.toNatClampNeg (nI 0) = 0 from rfl, hB.2 0 hw, toL (by omega), toL (by omega), lN_mul, lN_add]) (nm_r (e' := -1) (by decide) ?_)
      simp only [Nat.pow_zero, Nat.mul_one, ds, Nat.add_zero] at p2
      rw [p2]
      exact fin n (by omega)
    | succ c ih =>
      intro hc n v hn e
      obtain ⟨n, rfl⟩ : ∃ j, n = j + 1 := ⟨n - 1, by omega⟩
      obtain ⟨p1, p2⟩ := pre (c + 1) v hc e
      have hs : sm b g a k w (c + 1) < g := Nat.mod_lt _ (by omega)
      rw [w_X9_smallNines_8]
      refine br_f (nI_pos (by omega)) ⟨in_nI (by omega), ?_⟩
      refine nm_r (e' := lN (v * g + sm b g a k w (c + 1))) (by rw [nI_clamp (by omega), hB.2 (c + 1) hc, toL (by omega), toL (by omega), lN_mul, lN_add]) (nm_r (e' := nI c) (by rw [show (nI (c + 1) : Int32) + -1 = nI (c + 1) - 1 by rw [Int32.sub_eq_add_neg]]; exact pk_sub (a := c + 1) (b := 1) (by omega)) ?_)
      exact ih (by omega) n _ (by omega) p2
  exact key (w - 1) (by omega) (w + 1) 0 (by omega) (by rw [show w - 1 + 1 = w by omega]; simp)

theorem m_greatNines {S : St} {b g a k w : Nat} {post : Int32 → St → Prop} (hB : BkM S b g a k w) (hb : 0 < b) (hb2 : b < 1000) (hg : 2 ≤ g) (hg2 : g < 17) (hk : k < 1000) (hw : 0 < w) (hw2 : w < 1000) (hl : w * k = ln b g a) (hG : 1000000 ≤ g ^ w) (h : post (ninesV b g a w) S) : w_X9_greatNines (nI w) (nI g) post S := by
  have hT := sum_T hb hb2 hg hg2 a hw hl
  have hc := car_le hb hg a k w w
  generalize hO : car b g a k w w = O at hT hc
  have hlt : ∀ i, ds (fun c => sm b g a k w c) g i < g ^ i := fun i => ds_lt (by omega) i (fun c _ => Nat.mod_lt _ (by omega))
  have hgp : ∀ i, 0 < g ^ i := fun i => Nat.pow_pos (by omega)
  generalize hA : (fun c => sm b g a k w c) = f at hT hlt
  have hf : ∀ c, f c < g := fun c => by rw [← hA]; exact Nat.mod_lt _ (by omega)
  have hfe : ∀ c, f c = sm b g a k w c := fun c => by rw [← hA]
  have hd : ∀ i, (ds f g i + O) / g ^ i < 2000 := fun i => by
    have h1 : (ds f g i + O) / g ^ i ≤ (g ^ i + O) / g ^ i := Nat.div_le_div_right (by have := hlt i; omega)
    rw [Nat.add_div_left _ (hgp i)] at h1
    have h2 := Nat.div_le_self O (g ^ i)
    omega
  have hds : ∀ i, ds f g i + O + f i * g ^ i = ds f g (i + 1) + O := fun i => by rw [ds]; omega
  have hnx : ∀ i, f i + (ds f g i + O) / g ^ i = (ds f g (i + 1) + O) / g ^ i := fun i => by
    rw [← hds, Nat.add_mul_div_right _ _ (hgp i), Nat.add_comm]
  have hnd : ∀ i, (ds f g (i + 1) + O) / g ^ i / g = (ds f g (i + 1) + O) / g ^ (i + 1) := fun i => by
    rw [Nat.div_div_eq_div_mul, Nat.pow_succ]
  have htop : ∀ i, (ds f g (i + 1) + O) % g ^ (i + 1) = g ^ (i + 1) - 1 ↔ (ds f g i + O) % g ^ i = g ^ i - 1 ∧ (ds f g (i + 1) + O) / g ^ i % g = g - 1 := fun i => by
    have e1 : (ds f g (i + 1) + O) % g ^ i = (ds f g i + O) % g ^ i := by rw [← hds, Nat.add_mul_mod_self_right]
    rw [Nat.pow_succ, Nat.mod_mul, e1]
    have h1 := Nat.mod_lt (ds f g i + O) (hgp i)
    have h2 := Nat.mod_lt ((ds f g (i + 1) + O) / g ^ i) (show 0 < g by omega)
    generalize (ds f g i + O) % g ^ i = m at h1
    generalize (ds f g (i + 1) + O) / g ^ i % g = d at h2
    have hp := hgp i
    generalize g ^ i = G at h1 hp
    constructor
    · intro z
      have h3 : G * d ≤ G * (g - 1) := Nat.mul_le_mul_left G (by omega)
      have h4 : G * g = G * (g - 1) + G := by
        conv => lhs; rw [show g = g - 1 + 1 by omega, Nat.mul_succ]
      have h5 : m = G - 1 := by omega
      refine ⟨h5, ?_⟩
      have : G * d = G * (g - 1) := by omega
      exact Nat.eq_of_mul_eq_mul_left hp this
    · rintro ⟨rfl, rfl⟩
      have h4 : G * g = G * (g - 1) + G := by
        conv => lhs; rw [show g = g - 1 + 1 by omega, Nat.mul_succ]
      omega
  have body : ∀ n i (x4 x5 : Int32), i ≤ w → w < i + n → ((x4 = 1 ∧ ds f g i = 0 ∧ O = 0) ∨ (x4 = 0 ∧ ¬ (ds f g i = 0 ∧ O = 0))) → ((x5 = 1 ∧ (ds f g i + O) % g ^ i = g ^ i - 1) ∨ (x5 = 0 ∧ ¬ (ds f g i + O) % g ^ i = g ^ i - 1)) → w_X9_greatNines_25 post n (nI w) (nI g) (nI ((ds f g i + O) / g ^ i)) x4 x5 (nI i) S := by
    intro n
    induction n with
    | zero => intro i x4 x5 h1 h2; omega
    | succ n ih =>
      intro i x4 x5 h1 h2 h4 h5
      rw [w_X9_greatNines_25]
      refine pk_le w i (fun q => ?_) (fun q => ?_)
      · have : i = w := by omega
        subst this
        have hG2 : 2 ≤ g ^ i := by omega
        have hli := hlt i
        have no : ¬ ds f g i + O = g ^ i - 1 → ¬ (ds f g i = 0 ∧ O = 0) → post (-2) S := fun z1 z2 => by
          rw [nines_no hb hT (fun n e => ?_)] at h
          · exact h
          · have h7 : ds f g i + O + O * (g ^ i - 1) = (g ^ i - 1) * n := by
              rw [← e]
              have : O * g ^ i = O * (g ^ i - 1) + O := by
                conv => lhs; rw [show g ^ i = g ^ i - 1 + 1 by omega, Nat.mul_succ]
              omega
            have h8 : (ds f g i + O) % (g ^ i - 1) = 0 := by
              have h9 := congrArg (· % (g ^ i - 1)) h7
              simpa using h9
            obtain ⟨q, hq⟩ := Nat.dvd_of_mod_eq_zero h8
            rcases q with _ | _ | q
            · omega
            · omega
            · have : (g ^ i - 1) * 2 ≤ (g ^ i - 1) * (q + 1 + 1) := Nat.mul_le_mul_left _ (by omega)
              omega
        rcases h4 with ⟨rfl, h6, h7⟩ | ⟨rfl, h6⟩
        · refine br_f (by decide) ?_
          rw [nines_yes (n := 0) hb hG2 hT (by rw [h6, h7]; simp)] at h
          exact h
        · refine br_t rfl ?_
          rcases h5 with ⟨rfl, h8⟩ | ⟨rfl, h8⟩
          · refine br_f (by decide) ?_
            have := hd i
            refine pk_eq ((ds f g i + O) / g ^ i) 0 (fun z => ?_) (fun z => no (fun y => z (by rw [y]; exact Nat.div_eq_of_lt (by omega))) h6)
            have h9 := Nat.div_add_mod (ds f g i + O) (g ^ i)
            rw [z, h8] at h9
            rw [hB.1, hO]
            rw [nines_yes (n := O + 1) hb hG2 hT (by
              have : O * g ^ i = O * (g ^ i - 1) + O := by
                conv => lhs; rw [show g ^ i = g ^ i - 1 + 1 by omega, Nat.mul_succ]
              rw [Nat.mul_comm (g ^ i - 1), Nat.succ_mul]
              omega)] at h
            exact nI_1 O ▸ h
          · refine br_t rfl (no (fun y => h8 ?_) h6)
            rw [y, Nat.mod_eq_of_lt (by omega)]
      · have hr := hd i
        have hr2 := hd (i + 1)
        have hfi := hf i
        have step : ∀ y0 : Int32, ((y0 = 1 ∧ ds f g (i + 1) = 0 ∧ O = 0) ∨ (y0 = 0 ∧ ¬ (ds f g (i + 1) = 0 ∧ O = 0))) → w_X9_greatNines_51 post (fun v1 v2 v3 v4 v5 v6 S => w_X9_greatNines_25 post n v1 v2 v3 v4 v5 v6 S) (nI w) (nI g) (nI ((ds f g i + O) / g ^ i)) x5 (nI i) y0 S := by
          intro y0 hy
          unfold w_X9_greatNines_51
          rw [nI_clamp (show i < 2 ^ 31 by omega), hB.2 i q, ← hfe, nI_add, hnx]
          have hbd : (ds f g (i + 1) + O) / g ^ i < 2 ^ 30 := by rw [← hnx]; omega
          have hz := nI_ne0 (show 0 < g by omega) (by omega)
          refine ⟨in_nI (by omega), nm_e ⟨hz, nm_r (e' := nI ((ds f g (i + 1) + O) / g ^ (i + 1))) (by rw [pk_div (by omega) (by omega) (by omega), hnd]) ?_⟩⟩
          have ht := htop i
          rcases h5 with ⟨rfl, h8⟩ | ⟨rfl, h8⟩
          · refine br_f (by decide) ⟨hz, ?_⟩
            rw [jr_nI (by omega) (by omega) (by omega), show nI g - 1 = nI (g - 1) from pk_sub (a := g) (b := 1) (by omega)]
            have hm := Nat.mod_lt ((ds f g (i + 1) + O) / g ^ i) (show 0 < g by omega)
            refine pk_eq ((ds f g (i + 1) + O) / g ^ i % g) (g - 1) (fun z => ?_) (fun z => ?_)
            · exact nm_r (e' := nI (i + 1)) (nI_1 i) (ih (i + 1) _ _ q (by omega) hy (Or.inl ⟨rfl, ht.mpr ⟨h8, z⟩⟩))
            · exact nm_r (e' := nI (i + 1)) (nI_1 i) (ih (i + 1) _ _ q (by omega) hy (Or.inr ⟨rfl, fun y => z (ht.mp y).2⟩))
          · exact br_t rfl (nm_r (e' := nI (i + 1)) (nI_1 i) (ih (i + 1) _ _ q (by omega) hy (Or.inr ⟨rfl, fun y => h8 (ht.mp y).1⟩)))
        have h0 : ds f g (i + 1) = 0 ↔ ds f g i = 0 ∧ f i = 0 := by
          rw [ds]
          have := hgp i
          constructor
          · intro z
            refine ⟨by omega, ?_⟩
            have z2 : f i * g ^ i = 0 := by omega
            rcases Nat.mul_eq_zero.mp z2 with z2 | z2
            · exact z2
            · omega
          · rintro ⟨z1, z2⟩
            rw [z1, z2]; simp
        rcases h4 with ⟨rfl, h6, h7⟩ | ⟨rfl, h6⟩
        · refine br_f (by decide) ⟨in_nI (by omega), ?_⟩
          rw [nI_clamp (show i < 2 ^ 31 by omega), hB.2 i q, ← hfe]
          refine pk_eq (f i) 0 (fun z => step 1 (Or.inl ⟨rfl, h0.mpr ⟨h6, z⟩, h7⟩)) (fun z => ?_)
          unfold w_X9_greatNines_50
          exact step 0 (Or.inr ⟨rfl, fun y => z (h0.mp y.1).2⟩)
        · refine br_t rfl ?_
          unfold w_X9_greatNines_50
          exact step 0 (Or.inr ⟨rfl, fun y => h6 ⟨(h0.mp y.1).1, y.2⟩⟩)
  unfold w_X9_greatNines
  rw [hB.1, hO]
  have go : ∀ x4 : Int32, ((x4 = 1 ∧ ds f g 0 = 0 ∧ O = 0) ∨ (x4 = 0 ∧ ¬ (ds f g 0 = 0 ∧ O = 0))) → w_X9_greatNines_25 post (w + 1) (nI w) (nI g) (nI O) x4 1 (nI 0) S := fun x4 h4 => by
    have := body (w + 1) 0 x4 1 (Nat.zero_le _) (by omega) h4 (Or.inl ⟨rfl, by simp [Nat.mod_one]⟩)
    simpa [ds] using this
  refine nm_e (pk_eq O 0 (fun z => ⟨w + 1, ?_⟩) (fun z => ⟨w + 1, ?_⟩))
  · exact go 1 (Or.inl ⟨rfl, rfl, z⟩)
  · exact go 0 (Or.inr ⟨rfl, fun y => z y.2⟩)
theorem m_ninesNow {S : St} {b g a k w : Nat} {post : Int32 → St → Prop} (hL : LkM S a b g) (hb : 0 < b) (hb2 : b < 1000) (hg : 2 ≤ g) (hg2 : g < 17) (hk : 0 < k) (hl : w * k = ln b g a) (hw : 0 < w) (h : ∀ S' : St, LkM S' a b g → Fm (fun j => j = 7) (fun i => i = 11) S S' → post (ninesV b g a w) S') : w_X9_ninesNow (nI k) (nI g) post S := by
  have hll := hd_ln_le hb hb2 hg hg2 a
  have hkl : k ≤ ln b g a := by rw [← hl]; exact Nat.le_mul_of_pos_left k hw
  have hwl : w ≤ ln b g a := by rw [← hl]; exact Nat.le_mul_of_pos_right w hk
  have hwk : ln b g a / k = w := by rw [← hl]; exact Nat.mul_div_cancel w hk
  unfold w_X9_ninesNow
  refine m_blocks hL hb hb2 hg hg2 hk hl hw (fun T hLT hB hx => ?_)
  have h := h T hLT hx
  rw [hLT.2.1]
  refine ⟨nI_ne0 hk (by omega), nm_r (e' := nI w) (by rw [pk_div (by omega) hk (by omega), hwk]) ⟨w + 1, ?_⟩⟩
  have fin : ∀ i, i ≤ w → (w ≤ i ∨ 1000000 ≤ g ^ i) → g ^ i < 2 ^ 40 → w_X9_ninesNow_47 post (nI g) (nI w) (lN (g ^ i)) T := by
    intro i hi h1 h2
    unfold w_X9_ninesNow_47
    refine pl_le 1000000 (g ^ i) (fun q => ?_) (fun q => ?_)
    · exact m_greatNines hB hb hb2 hg hg2 (by omega) hw (by omega) hl (Nat.le_trans q (Nat.pow_le_pow_right (by omega) hi)) h
    · have : i = w := by omega
      subst this
      have hp : 0 < g ^ i := Nat.pow_pos (by omega)
      refine nm_r (e' := lN (g ^ i - 1)) ?_ (m_smallNines hB hb hb2 hg hg2 (by omega) hw (by omega) hl q h)
      exact lN_sub (a := g ^ i) (b := 1) (by omega)
  have key : ∀ n i, i ≤ w → w < i + n → g ^ i < 2 ^ 40 → w_X9_ninesNow_19 post n (nI g) (nI w) (lN (g ^ i)) (nI i) T := by
    intro n
    induction n with
    | zero => intro i h1 h2; omega
    | succ n ih =>
      intro i h1 h2 h3
      rw [w_X9_ninesNow_19]
      refine pk_le w i (fun q => fin i h1 (Or.inl q) h3) (fun q => ?_)
      refine pl_le 1000000 (g ^ i) (fun z => fin i h1 (Or.inr z) h3) (fun z => ?_)
      have hm : g ^ i * g ≤ 1000000 * 17 := mul_bd (by omega) (by omega)
      refine nm_r (e' := lN (g ^ (i + 1))) (by rw [toL (by omega), lN_mul, Nat.pow_succ]) (nm_r (e' := nI (i + 1)) (nI_1 i) (ih (i + 1) q (by omega) (by rw [Nat.pow_succ]; omega)))
  have := key (w + 1) 0 (Nat.zero_le _) (by omega) (by simp)
  rw [Nat.pow_zero] at this
  exact this

noncomputable def q_nines (F : TF) (v k : Int32) : Int32 := cif (iF F v ∧ okk (lnF F v) k) (ninesV (F.2.2.1 (cl v)) (F.2.2.2 (cl v)) (F.2.1 (cl v)) (lnF F v / cl k)) (-1)
theorem x_nines {S : St} {F : TF} {v x : Int32} {post : Int32 → St → Prop} (hX : XF S 1 F) (ok : okTF F) (h : post (q_nines F v x) S) : w_X8_nines v x post S := by
  have h8 := ok.1
  have bad : ¬ (iF F v ∧ okk (lnF F v) x) → post (-1) S := fun q => by
    unfold q_nines at h
    rw [cif_neg q] at h
    exact h
  unfold w_X8_nines
  refine x_at hX ok.1 (fun k hk e => ⟨fun e => by simp at e, fun k3 e3 => ?_⟩) (fun n => ⟨fun _ => bad (fun q => iF.no n q.1), fun k e => by simp at e⟩)
  cases e3
  have hF := hX.2 k hk
  have o := ok.2 k hk
  have hll := o.hl
  have hb2 := o.2.2.1
  have eL : lnF F v = ln (F.2.2.1 k) (F.2.2.2 k) (F.2.1 k) := by unfold lnF; rw [e, cl_nI (by omega)]
  refine s_partsInto hF o (fun n n1 n2 n3 en => br_f (by decide) ?_) (fun n => br_t rfl (bad (fun q => ?_)))
  · subst en
    unfold q_nines at h
    rw [cif_pos ⟨⟨k, hk, e⟩, by rw [eL]; exact ⟨n, n1, n2, n3, rfl⟩⟩, eL, cl_nI (show n < 2 ^ 31 by omega), e, cl_nI (by omega)] at h
    unfold ninesV at h
    refine s_ninesOfBlocks hF o (by omega) n2 (fun z => ?_) (fun z => ?_)
    · rw [if_pos z] at h; exact h
    · rw [if_neg z] at h; exact h
  · have := q.2
    rw [eL] at this
    obtain ⟨m, m1, m2, m3, em⟩ := this
    exact n m m1 m2 m3 em
theorem m_nines {S : St} {F : TF} {v x : Int32} {post : Int32 → St → Prop} (hM : MF S F) (ok : okTF F) (h : ∀ S' : St, Fm scB scE S S' → post (q_nines F v x) S') : w_X9_nines v x post S := by
  have h8 := ok.1
  have bad : ¬ (iF F v ∧ okk (lnF F v) x) → ∀ S', Fm scB scE S S' → post (-1) S' := fun q => by
    unfold q_nines at h
    rw [cif_neg q] at h
    exact h
  unfold w_X9_nines
  refine m_isFraction hM ok.1 (fun k hk e => br_f (by decide) ?_) (fun n => br_t rfl (bad (fun q => iF.no n q.1) S Fm.rf))
  obtain ⟨o1, o2, o3, o4, o5⟩ := ok.2 k hk
  have hll := hd_ln_le o2 o3 o4 o5 (F.2.1 k)
  have eL : lnF F v = ln (F.2.2.1 k) (F.2.2.2 k) (F.2.1 k) := by unfold lnF; rw [e, cl_nI (by omega)]
  rw [e]
  refine m_looksAt hM ok hk (fun S1 hL hx => ?_)
  have hxB : Fm scB scE S S1 := hx.mo (fun j e => by show j = 4 ∨ j = 5 ∨ j = 6 ∨ j = 7; unfold scD at e; omega) (fun i e => by show i = 4 ∨ i = 5 ∨ i = 6 ∨ i = 11; unfold scD at e; omega)
  refine m_isParted hL o2 o3 o4 o5 (fun n n1 n2 n3 en => br_f (by decide) ?_) (fun n => br_t rfl (bad (fun q => ?_) S1 hxB))
  · subst en
    obtain ⟨d1, d2⟩ := div_of n1 n2 n3
    unfold q_nines at h
    rw [cif_pos ⟨⟨k, hk, e⟩, by rw [eL]; exact ⟨n, n1, n2, n3, rfl⟩⟩, eL, cl_nI (show n < 2 ^ 31 by omega), e, cl_nI (by omega)] at h
    rw [nI_clamp (show k < 2 ^ 31 by omega)]
    refine ⟨in_nI (by omega), nm_r ((Fm.MF hM hx).2 k hk).2.2 (m_ninesNow hL o2 o3 o4 o5 n1 d1 d2 (fun S2 hL2 hx2 => ?_))⟩
    exact h S2 (hxB.tr (hx2.mo (fun j e => by show j = 4 ∨ j = 5 ∨ j = 6 ∨ j = 7; omega) (fun i e => by show i = 4 ∨ i = 5 ∨ i = 6 ∨ i = 11; omega)))
  · have := q.2
    rw [eL] at this
    obtain ⟨m, m1, m2, m3, em⟩ := this
    exact n m m1 m2 m3 em
