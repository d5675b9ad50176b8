/-! small rows over numbers that are whole and not below 0 -/
theorem jr_nI {a d : Nat} (ha : a < 2 ^ 31) (h0 : 0 < d) (hd : d < 2 ^ 31) : jr (nI a) (nI d) = nI (a % d) := pk_rem ha h0 hd
theorem jrl_lN {a d : Nat} (ha : a < 2 ^ 63) (h0 : 0 < d) (hd : d < 2 ^ 63) : jrl (lN a) (lN d) = lN (a % d) := pk_lRem ha h0 hd
theorem lN_ne0 {n : Nat} (h0 : 0 < n) (h : n < 2 ^ 63) : ¬ lN n = 0 := fun e => by
  have := (pk_lEQ (a := n) (b := 0) h (by decide)).mp e
  omega
theorem toL {n : Nat} (h : n < 2 ^ 31) : Int32.toInt64 (nI n) = lN n := nI_l h
theorem toI (n : Nat) : Int64.toInt32 (lN n) = nI n := lN_i n
theorem nI_inj {a b : Nat} (h : nI a = nI b) (ha : a < 2 ^ 31 := by omega) (hb : b < 2 ^ 31 := by omega) : a = b := (nI_eq ha hb).mp h
theorem nI_nn {n : Nat} (h : n < 2 ^ 31) : ¬ nI n < 0 := nI_pos h
/-- an int is a number of these or below 0 -/
theorem i_or (x : Int32) : x < 0 ∨ ∃ n : Nat, n < 2 ^ 31 ∧ x = nI n := by
  by_cases h : x < 0
  · exact Or.inl h
  · exact Or.inr (nI_of h)
theorem neg_le {x : Int32} (h : x < 0) {n : Nat} (hn : n < 2 ^ 31) : x < nI n := by
  rw [Int32.lt_iff_toInt_lt] at h ⊢
  rw [nI_toInt hn]
  have : (0 : Int32).toInt = 0 := by decide
  omega
theorem pl_le {x y : Int64} {A B : Prop} (a b : Nat) (f : a ≤ b → A) (g : b < a → B) (hx : x = lN a := by rfl) (hy : y = lN b := by rfl) (ha : a < 2 ^ 63 := by omega) (hb : b < 2 ^ 63 := by omega) : (x ≤ y → A) ∧ (¬ x ≤ y → B) := by
  subst hx hy
  rw [pk_lLE ha hb]
  exact ⟨f, fun z => g (by omega)⟩
theorem pl_lt {x y : Int64} {A B : Prop} (a b : Nat) (f : a < b → A) (g : b ≤ a → B) (hx : x = lN a := by rfl) (hy : y = lN b := by rfl) (ha : a < 2 ^ 63 := by omega) (hb : b < 2 ^ 63 := by omega) : (x < y → A) ∧ (¬ x < y → B) := by
  subst hx hy
  rw [pk_lLT ha hb]
  exact ⟨f, fun z => g (by omega)⟩
theorem pl_eq {x y : Int64} {A B : Prop} (a b : Nat) (f : a = b → A) (g : a ≠ b → B) (hx : x = lN a := by rfl) (hy : y = lN b := by rfl) (ha : a < 2 ^ 63 := by omega) (hb : b < 2 ^ 63 := by omega) : (x = y → A) ∧ (¬ x = y → B) := by
  subst hx hy
  rw [pk_lEQ ha hb]
  exact ⟨f, g⟩
/-! frames over the two functions -/
def Fx (D : Nat → Prop) (S S' : St) : Prop := ∀ j, ¬ D j → S'.1 j = S.1 j ∧ S'.2 j = S.2 j
theorem Fx.rf {D : Nat → Prop} {S : St} : Fx D S S := fun _ _ => ⟨rfl, rfl⟩
theorem Fx.tr {D : Nat → Prop} {S S1 S2 : St} (h : Fx D S S1) (h2 : Fx D S1 S2) : Fx D S S2 := fun j q => ⟨(h2 j q).1.trans (h j q).1, (h2 j q).2.trans (h j q).2⟩
theorem Fx.mo {D D' : Nat → Prop} {S S' : St} (h : Fx D S S') (hD : ∀ j, D j → D' j) : Fx D' S S' := fun j q => h j (fun z => q (hD j z))
theorem fx_sI {D : Nat → Prop} {S : St} {k i : Nat} {v : Int32} (h : D k) : Fx D S (sI S k i v) := fun j q => sI_o S k i v j (fun e => q (e ▸ h))
theorem fx_sL {D : Nat → Prop} {S : St} {k i : Nat} {v : Int64} (h : D k) : Fx D S (sL S k i v) := fun j q => sL_o S k i v j (fun e => q (e ▸ h))
theorem Fx.I {D : Nat → Prop} {S S1 : St} {k i : Nat} {v : Int32} (h : Fx D S S1) (hk : D k) : Fx D S (sI S1 k i v) := h.tr (fx_sI hk)
theorem Fx.L {D : Nat → Prop} {S S1 : St} {k i : Nat} {v : Int64} (h : Fx D S S1) (hk : D k) : Fx D S (sL S1 k i v) := h.tr (fx_sL hk)
theorem sI_s (S : St) (k i : Nat) (v : Int32) : (sI S k i v).1 k i = v := by simp [sI_1]
theorem sI_n (S : St) (k i j : Nat) (v : Int32) (h : j ≠ i) : (sI S k i v).1 k j = S.1 k j := by simp [sI_1, h]
theorem sI_x (S : St) (k i a j : Nat) (v : Int32) (h : a ≠ k) : (sI S k i v).1 a j = S.1 a j := by simp [sI_1, h]
/-! functions that touch nothing -/
theorem s_remainder {a d : Nat} {post : Int32 → St → Prop} {S : St} (h0 : 0 < d) (h : post (nI (a % d)) S) (ha : a < 2 ^ 31 := by omega) (hd : d < 2 ^ 31 := by omega) : w_X8_remainder (nI a) (nI d) post S := by
  unfold w_X8_remainder
  refine br_f (nI_ne0 h0 hd) ⟨nI_ne0 h0 hd, ?_⟩
  rw [jr_nI ha h0 hd]
  exact h
theorem s_quotient {a d : Nat} {post : Int64 → St → Prop} {S : St} (h0 : 0 < d) (h : post (lN (a / d)) S) (ha : a < 2 ^ 63 := by omega) (hd : d < 2 ^ 63 := by omega) : w_X8_quotient (lN a) (lN d) post S := by
  unfold w_X8_quotient
  refine br_f (lN_ne0 h0 hd) ⟨lN_ne0 h0 hd, ?_⟩
  rw [pk_lDiv ha h0 hd]
  exact h
theorem s_isWithin {x lo hi : Int32} {post : Int32 → St → Prop} {S : St} (f : lo ≤ x → x ≤ hi → post 1 S) (g : (x < lo ∨ hi < x) → post 0 S) : w_X8_isWithin x lo hi post S := by
  unfold w_X8_isWithin
  refine ⟨fun h => g (Or.inl h), fun h => ⟨fun h2 => g (Or.inr h2), fun h2 => f (Int32.not_lt.mp h) (Int32.not_lt.mp h2)⟩⟩
theorem s_within {x lo hi : Nat} {post : Int32 → St → Prop} {S : St} (f : lo ≤ x → x ≤ hi → post 1 S) (g : (x < lo ∨ hi < x) → post 0 S) (hx : x < 2 ^ 31 := by omega) (hl : lo < 2 ^ 31 := by omega) (hh : hi < 2 ^ 31 := by omega) : w_X8_isWithin (nI x) (nI lo) (nI hi) post S := by
  refine s_isWithin (fun h1 h2 => f ((nI_leI hl hx).mp h1) ((nI_leI hx hh).mp h2)) (fun h => g ?_)
  rcases h with h | h
  · exact Or.inl ((nI_ltI hx hl).mp h)
  · exact Or.inr ((nI_ltI hh hx).mp h)
theorem s_valueAt {k i : Nat} {post : Int32 → St → Prop} {S : St} (hi : i < alX k) (hk : alX k < 2 ^ 31) (h : post (S.1 k i) S) : w_X8_valueAt k (nI i) post S := by
  unfold w_X8_valueAt
  refine br_f (nI_pos (by omega)) (br_f (nI_ge hi hk) ⟨vp_in_nI hi hk, ?_⟩)
  rw [nI_clamp (by omega)]
  exact h
theorem s_setAt {k i : Nat} {v : Int32} {post : St → Prop} {S : St} (hi : i < alX k) (hk : alX k < 2 ^ 31) (h : post (sI S k i v)) : w_X8_setAt k (nI i) v post S := by
  unfold w_X8_setAt
  refine br_f (nI_pos (by omega)) (br_f (nI_ge hi hk) ⟨vp_in_nI hi hk, ?_⟩)
  rw [nI_clamp (by omega)]
  exact nm_e h
theorem s_power {g e : Nat} {post : Int64 → St → Prop} {S : St} (hg : g < 2 ^ 31) (he : e < 2 ^ 31) (h : post (lN (g ^ e)) S) : w_X8_power (nI g) (nI e) post S := by
  unfold w_X8_power
  refine ⟨e + 1, ?_⟩
  have key : ∀ n i, i ≤ e → e < i + n → w_X8_power_5 post n (nI g) (nI e) (lN (g ^ i)) (nI i) S := by
    intro n
    induction n with
    | zero => intro i h1 h2; omega
    | succ n ih =>
      intro i h1 h2
      rw [w_X8_power_5]
      refine pk_le e i (fun q => ?_) (fun q => ?_)
      · have : i = e := by omega
        subst this
        exact h
      · refine nm_r (e' := lN (g ^ (i + 1))) (by rw [toL hg, lN_mul, Nat.pow_succ]) (nm_r (e' := nI (i + 1)) (nI_1 i) ?_)
        exact ih (i + 1) q (by omega)
  exact key (e + 1) 0 (Nat.zero_le _) (by omega)
theorem gcd_steps {post : Int64 → St → Prop} {S : St} : ∀ (n x y c k : Nat), x < 2 ^ 63 → y < 2 ^ n → n ≤ 62 → 2 * n + c < 1000 → 2 * n + 1 < k → post (lN (Nat.gcd x y)) S → w_X8_commonDivisor_9 post k (lN x) (lN y) (nI c) S := by
  have stop : ∀ (x k c : Nat), c < 1000 → 0 < k → post (lN (Nat.gcd x 0)) S → w_X8_commonDivisor_9 post k (lN x) (lN 0) (nI c) S := by
    intro x k c hc hk h
    obtain ⟨k, rfl⟩ : ∃ j, k = j + 1 := ⟨k - 1, by omega⟩
    rw [w_X8_commonDivisor_9]
    rw [Nat.gcd_zero_right] at h
    exact pk_le 1000 c (fun q => by omega) (fun _ => br_t rfl h)
  have step : ∀ (x y k c : Nat), c < 1000 → x < 2 ^ 63 → 0 < y → y < 2 ^ 63 → w_X8_commonDivisor_9 post k (lN y) (lN (x % y)) (nI (c + 1)) S → w_X8_commonDivisor_9 post (k + 1) (lN x) (lN y) (nI c) S := by
    intro x y k c hc hx h0 hy h
    rw [w_X8_commonDivisor_9]
    refine pk_le 1000 c (fun q => by omega) (fun _ => br_f (lN_ne0 h0 hy) ⟨lN_ne0 h0 hy, nm_r (e' := lN (x % y)) (jrl_lN hx h0 hy) (nm_r (e' := nI (c + 1)) (nI_1 c) h)⟩)
  intro n
  induction n with
  | zero =>
    intro x y c k hx hy hn hc hk h
    have : y = 0 := by omega
    subst this
    exact stop x k c (by omega) (by omega) h
  | succ n ih =>
    intro x y c k hx hy hn hc hk h
    have hp : 2 ^ n ≤ 2 ^ 62 := Nat.pow_le_pow_right (by omega) (by omega)
    have hp1 : 2 ^ (n + 1) = 2 * 2 ^ n := by rw [Nat.pow_succ]; omega
    have hy63 : y < 2 ^ 63 := Nat.lt_of_lt_of_le hy (Nat.pow_le_pow_right (by omega) (by omega))
    rcases Nat.eq_zero_or_pos y with q | q
    · subst q
      exact stop x k c (by omega) (by omega) h
    · obtain ⟨k, rfl⟩ : ∃ j, k = j + 1 := ⟨k - 1, by omega⟩
      have hr : x % y < y := Nat.mod_lt _ q
      rw [Nat.gcd_comm, Nat.gcd_rec, Nat.gcd_comm] at h
      refine step x y k c (by omega) hx q hy63 ?_
      rcases Nat.eq_zero_or_pos (x % y) with z | z
      · rw [z] at h ⊢
        exact stop y k (c + 1) (by omega) (by omega) h
      · obtain ⟨k, rfl⟩ : ∃ j, k = j + 1 := ⟨k - 1, by omega⟩
        rw [Nat.gcd_comm, Nat.gcd_rec, Nat.gcd_comm] at h
        refine step y (x % y) k (c + 1) (by omega) hy63 z (by omega) ?_
        refine ih (x % y) (y % (x % y)) (c + 2) k (by omega) ?_ (by omega) (by omega) (by omega) h
        have h2 : y % (x % y) < x % y := Nat.mod_lt _ z
        have h3 := Nat.div_add_mod y (x % y)
        have h4 : 1 ≤ y / (x % y) := (Nat.le_div_iff_mul_le z).mpr (by omega)
        have h5 : (x % y) * 1 ≤ (x % y) * (y / (x % y)) := Nat.mul_le_mul_left _ h4
        omega
theorem s_gcd {x y : Nat} {post : Int64 → St → Prop} {S : St} (hx : x < 2 ^ 62) (hy : y < 2 ^ 62) (h : post (lN (Nat.gcd x y)) S) : w_X8_commonDivisor (lN x) (lN y) post S := by
  unfold w_X8_commonDivisor
  exact ⟨200, gcd_steps 62 x y 0 200 (by omega) hy (by omega) (by omega) (by omega) h⟩
theorem s_divisor {x y : Nat} {post : Int64 → St → Prop} {S : St} (hx : x < 2 ^ 63) (hy : y < 2 ^ 63) (h : post (lN (Nat.gcd x y)) S) : w_X9_divisor (lN x) (lN y) post S := by
  unfold w_X9_divisor
  have key : ∀ n x y, x < 2 ^ 63 → y < n → y < 2 ^ 63 → post (lN (Nat.gcd x y)) S → w_X9_divisor_6 post n (lN x) (lN y) S := by
    intro n
    induction n with
    | zero => intro x y _ h2; exact absurd h2 (Nat.not_lt_zero _)
    | succ n ih =>
      intro x y hx hy h63 h
      rw [w_X9_divisor_6]
      refine pl_eq y 0 (fun q => ?_) (fun q => ⟨lN_ne0 (by omega) h63, nm_r (e' := lN (x % y)) (jrl_lN hx (by omega) h63) ?_⟩)
      · subst q
        rw [Nat.gcd_zero_right] at h
        exact h
      · have hr : x % y < y := Nat.mod_lt _ (by omega)
        rw [Nat.gcd_comm, Nat.gcd_rec, Nat.gcd_comm] at h
        exact ih y (x % y) h63 (by omega) (by omega) h
  exact ⟨y + 1, key (y + 1) x y hx (by omega) hy h⟩
