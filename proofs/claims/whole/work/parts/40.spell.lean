/-! spell -/
def dgc (g : Nat) : Nat → Nat → Nat → Nat
  | 0, _, c => c
  | n + 1, x, c => if x = 0 then c else dgc g n (x / g) (c + 1)
theorem dgc_le (g : Nat) : ∀ n x c, c ≤ dgc g n x c ∧ dgc g n x c ≤ c + n := by
  intro n
  induction n with
  | zero => intro x c; rw [dgc]; omega
  | succ n ih =>
    intro x c
    rw [dgc]
    by_cases h : x = 0
    · rw [if_pos h]; omega
    · rw [if_neg h]; have := ih (x / g) (c + 1); omega
def wsz (b g a : Nat) : Nat := dgc g 14 (a / b / g) 1
def spL (b g a : Nat) : Nat := wsz b g a + (if rs b g a 0 = 0 then 0 else 1 + hd b g a) + (if rs b g a (hd b g a) = 0 then 0 else 2 + ln b g a)
def sgn (d : Nat) : Int32 := if 10 ≤ d then nI (97 + d - 10) else nI (48 + d)
def spB (b g a n : Nat) : Int32 := if n < wsz b g a then sgn (a / b / g ^ (wsz b g a - 1 - n) % g) else if n = wsz b g a then 46 else if n - wsz b g a - 1 < hd b g a then sgn (dg b g a (n - wsz b g a - 1)) else if n - wsz b g a - 1 = hd b g a then 40 else if hd b g a + ln b g a < n - wsz b g a - 1 then 41 else sgn (dg b g a (n - wsz b g a - 1 - 1))
theorem half_lt {x g n : Nat} (hg : 2 ≤ g) (h : x < 2 ^ (n + 1)) : x / g < 2 ^ n := by
  rw [Nat.div_lt_iff_lt_mul (by omega)]
  have : 2 ^ n * 2 ≤ 2 ^ n * g := Nat.mul_le_mul_left _ hg
  rw [Nat.pow_succ] at h
  omega
theorem x_sign {S : St} {d : Nat} {post : Int32 → St → Prop} (hd : d < 100) (h : post (sgn d) S) : w_X1_signOf (nI d) post S := by
  unfold w_X1_signOf
  unfold sgn at h
  refine pk_le 10 d (fun q => ?_) (fun q => ?_)
  · rw [if_pos q] at h
    rw [show (97 : Int32) + nI d - 10 = nI (97 + d) - nI 10 from by rw [← nI_add]; rfl, pk_sub (by omega)]; exact h
  · rw [if_neg (by omega)] at h
    rw [show (48 : Int32) + nI d = nI (48 + d) from nI_add 48 d]; exact h
theorem m_sign {S : St} {d : Nat} {post : Int32 → St → Prop} (hd : d < 100) (h : post (sgn d) S) : w_X9_signOf (nI d) post S := by
  unfold w_X9_signOf
  unfold sgn at h
  refine pk_le 10 d (fun q => ?_) (fun q => ?_)
  · rw [if_pos q] at h
    rw [show (97 : Int32) + nI d - 10 = nI (97 + d) - nI 10 from by rw [← nI_add]; rfl, pk_sub (by omega)]; exact h
  · rw [if_neg (by omega)] at h
    rw [show (48 : Int32) + nI d = nI (48 + d) from nI_add 48 d]; exact h
theorem x_wholeDigits {S : St} {k a b g : Nat} {post : Int32 → St → Prop} (hF : FrX S k a b g) (ok : okF a b g) (h : post (nI (wsz b g a)) S) : w_X1_wholeDigits k post S := by
  have ha := ok.1
  have hg := ok.2.2.2.1
  have hg2 := ok.2.2.2.2
  have hw : a / b ≤ a := Nat.div_le_self _ _
  unfold w_X1_wholeDigits
  refine s_whole hF ok (nm_r (toL (by omega)) (nm_r (e' := lN g) (by rw [hF.2.2.1]; exact toL (by omega)) (s_quotient (by omega) ⟨16, ?_⟩)))
  have loop : ∀ n x c r, x < 2 ^ n → n ≤ 14 → n < r → c + n < 1000 → post (nI (dgc g n x c)) S → w_X1_wholeDigits_16 post r k (lN x) (nI c) S := by
    intro n
    induction n with
    | zero =>
      intro x c r h1 h0 h2 h3 h4
      obtain ⟨r, rfl⟩ : ∃ j, r = j + 1 := ⟨r - 1, by omega⟩
      rw [w_X1_wholeDigits_16]
      exact pl_le x 0 (fun _ => h4) (fun y => by omega)
    | succ n ih =>
      intro x c r h1 h0 h2 h3 h4
      obtain ⟨r, rfl⟩ : ∃ j, r = j + 1 := ⟨r - 1, by omega⟩
      have hp : 2 ^ (n + 1) ≤ 2 ^ 14 := Nat.pow_le_pow_right (by omega) h0
      rw [w_X1_wholeDigits_16]
      rw [dgc] at h4
      refine pl_le x 0 (fun y => by rw [if_pos (by omega)] at h4; exact h4) (fun y => pk_le 1000 c (fun z => by omega) (fun _ => ?_))
      rw [if_neg (by omega)] at h4
      exact nm_r (e' := lN g) (by rw [hF.2.2.1]; exact toL (by omega)) (s_quotient (by omega) (nm_r (e' := nI (c + 1)) (nI_1 c) (ih (x / g) (c + 1) r (half_lt hg h1) (by omega) (by omega) (by omega) h4)))
  have h0 : a / b / g ≤ a / b := Nat.div_le_self _ _
  exact loop 14 _ 1 16 (by omega) (by omega) (by omega) (by omega) h
theorem wsz_le (b g a : Nat) : 1 ≤ wsz b g a ∧ wsz b g a ≤ 15 := by
  have := dgc_le g 14 (a / b / g) 1
  unfold wsz
  omega
theorem x_spelledLength {S : St} {k a b g : Nat} {post : Int32 → St → Prop} (hF : FrX S k a b g) (ok : okF a b g) (h : post (nI (spL b g a)) S) : w_X1_spelledLength k post S := by
  have hb2 := ok.2.2.1
  have ha := ok.1
  have hrl := rs_lt ok.2.1 g a 0
  unfold spL at h
  have tail : ∀ v : Nat, wsz b g a + (if rs b g a 0 = 0 then 0 else 1 + hd b g a) = v → w_X1_spelledLength_28 post k (nI v) S := by
    intro v hv
    rw [hv] at h
    unfold w_X1_spelledLength_28
    refine s_ends hF ok (fun q => br_f (by decide) ?_) (fun q => br_t rfl ?_)
    · rw [if_pos q] at h; exact h
    · rw [if_neg q] at h
      refine nm_r (e' := nI (v + (2 + ln b g a))) (by rw [hF.2.2.2.2.1, show (2 : Int32) = nI 2 from rfl, nI_add, nI_add]) h
  unfold w_X1_spelledLength
  refine x_wholeDigits hF ok ?_
  rw [hF.1, hF.2.1]
  refine nm_e (nm_e (s_remainder ok.2.1 ?_))
  rw [← rs_zero b g a]
  refine pk_eq (rs b g a 0) 0 (fun q => tail _ (by rw [if_pos q]; rfl)) (fun q => ?_)
  exact nm_r (e' := nI (wsz b g a + (1 + hd b g a))) (by rw [hF.2.2.2.1, show (1 : Int32) = nI 1 from rfl, nI_add, nI_add]) (tail _ (by rw [if_neg q]))
theorem x_wholeDigit {S : St} {k a b g n : Nat} {post : Int32 → St → Prop} (hF : FrX S k a b g) (ok : okF a b g) (hn : n < 100) (h : post (nI (a / b / g ^ n % g)) S) : w_X1_wholeDigit k (nI n) post S := by
  have ha := ok.1
  have hg := ok.2.2.2.1
  have hg2 := ok.2.2.2.2
  have hw : a / b ≤ a := Nat.div_le_self _ _
  have hq : ∀ i, a / b / g ^ i < 10000 := fun i => by have := Nat.div_le_self (a / b) (g ^ i); omega
  unfold w_X1_wholeDigit
  refine s_whole hF ok (nm_r (toL (by omega)) ⟨n + 1, ?_⟩)
  have loop : ∀ t i, i + t = n → w_X1_wholeDigit_9 post (t + 1) k (nI n) (lN (a / b / g ^ i)) (nI i) S := by
    intro t
    induction t with
    | zero =>
      intro i h1
      have : i = n := by omega
      subst this
      have := hq i
      rw [w_X1_wholeDigit_9]
      exact pk_le i i (fun _ => nm_r (toI _) (nm_r hF.2.2.1 (s_remainder (by omega) h))) (fun y => by omega)
    | succ t ih =>
      intro i h1
      have := hq i
      rw [w_X1_wholeDigit_9]
      refine pk_le n i (fun y => by omega) (fun _ => nm_r (e' := lN g) (by rw [hF.2.2.1]; exact toL (by omega)) (s_quotient (by omega) (nm_r (e' := nI (i + 1)) (nI_1 i) ?_)))
      rw [Nat.div_div_eq_div_mul, ← Nat.pow_succ]
      exact ih (i + 1) (by omega)
  have := loop n 0 (by omega)
  rw [Nat.pow_zero, Nat.div_one] at this
  exact this
theorem x_spelledByte {S : St} {k a b g n : Nat} {post : Int32 → St → Prop} (hF : FrX S k a b g) (ok : okF a b g) (hn : n < 100000) (h : post (spB b g a n) S) : w_X1_spelledByte k (nI n) post S := by
  have hll := ok.hl
  have hb2 := ok.2.2.1
  have hg2 := ok.2.2.2.2
  obtain ⟨w1, w2⟩ := wsz_le b g a
  have hdl : ∀ i, dg b g a i < g := fun i => dg_lt ok.2.1 (by have := ok.2.2.2.1; omega) a i
  unfold spB at h
  unfold w_X1_spelledByte
  refine x_wholeDigits hF ok ?_
  rw [hF.2.2.2.1, hF.2.2.2.2.1, nI_add]
  refine pk_le (wsz b g a) n (fun q => ?_) (fun q => ?_)
  · rw [if_neg (by omega)] at h
    refine pk_eq n (wsz b g a) (fun z => by rw [if_pos z] at h; exact h) (fun z => ?_)
    rw [if_neg z] at h
    refine nm_r (e' := nI (n - wsz b g a - 1)) (by rw [pk_sub q]; exact pk_sub (b := 1) (by omega)) ?_
    have hj : n - wsz b g a - 1 < 100000 := by omega
    generalize n - wsz b g a - 1 = j at h hj ⊢
    refine pk_le (hd b g a) j (fun y => ?_) (fun y => ?_) (hb := by omega)
    · rw [if_neg (by omega)] at h
      refine pk_eq j (hd b g a) (fun x => by rw [if_pos x] at h; exact h) (fun x => ?_) (ha := by omega)
      rw [if_neg x] at h
      refine pk_lt (hd b g a + ln b g a) j (fun t => by rw [if_pos t] at h; exact h) (fun t => ?_) (hb := by omega)
      rw [if_neg (by omega)] at h
      exact nm_r (e' := nI (j - 1)) (pk_sub (b := 1) (by omega)) (s_restAt hF ok (by omega) (s_digitOf hF ok (x_sign (by have := hdl (j - 1); omega) h)))
    · rw [if_pos y] at h
      exact s_restAt hF ok (by omega) (s_digitOf hF ok (x_sign (by have := hdl j; omega) h))
  · rw [if_pos q] at h
    refine nm_r (e' := nI (wsz b g a - 1 - n)) (by rw [show nI (wsz b g a) - 1 = nI (wsz b g a - 1) from pk_sub (b := 1) (by omega), pk_sub (by omega)]) (x_wholeDigit hF ok (by omega) (x_sign ?_ h))
    have := Nat.mod_lt (a / b / g ^ (wsz b g a - 1 - n)) (show 0 < g by have := ok.2.2.2.1; omega)
    omega
theorem i_m1 {v : Int32} (h : (-1) ≤ v) : v = -1 ∨ ∃ n, n < 2 ^ 31 ∧ v = nI n := by
  rcases i_or v with z | z
  · left
    rw [← Int32.toInt_inj]
    rw [Int32.le_iff_toInt_le] at h
    rw [Int32.lt_iff_toInt_lt] at z
    have q1 : ((-1 : Int32)).toInt = -1 := by decide
    have q2 : ((0 : Int32)).toInt = 0 := by decide
    omega
  · exact Or.inr z
theorem spL_le {a b g : Nat} (ok : okF a b g) : spL b g a < 2000 := by
  have hll := ok.hl
  have hb2 := ok.2.2.1
  obtain ⟨w1, w2⟩ := wsz_le b g a
  unfold spL
  by_cases h1 : rs b g a 0 = 0
  · by_cases h2 : rs b g a (hd b g a) = 0
    · rw [if_pos h1, if_pos h2]; omega
    · rw [if_pos h1, if_neg h2]; omega
  · by_cases h2 : rs b g a (hd b g a) = 0
    · rw [if_neg h1, if_pos h2]; omega
    · rw [if_neg h1, if_neg h2]; omega
noncomputable def q_spell (F : TF) (v w : Int32) : Int32 := cif (iF F v ∧ (-1) ≤ w) (if w = -1 then nI (spL (F.2.2.1 (cl v)) (F.2.2.2 (cl v)) (F.2.1 (cl v))) else if cl w < spL (F.2.2.1 (cl v)) (F.2.2.2 (cl v)) (F.2.1 (cl v)) then spB (F.2.2.1 (cl v)) (F.2.2.2 (cl v)) (F.2.1 (cl v)) (cl w) else -2) (-1)
theorem x_spell {S : St} {F : TF} {v w : Int32} {post : Int32 → St → Prop} (hX : XF S 1 F) (ok : okTF F) (h : post (q_spell F v w) S) : w_X8_spell v w post S := by
  have h8 := ok.1
  unfold q_spell at h
  unfold w_X8_spell
  refine x_at hX ok.1 (fun k hk e => ⟨fun e => by simp at e, fun k3 e3 => ?_⟩) (fun n => ⟨fun _ => by rw [cif_neg (fun q => iF.no n q.1)] at h; exact h, fun k e => by simp at e⟩)
  cases e3
  have hF := hX.2 k hk
  have o := ok.2 k hk
  refine ⟨fun q => x_spelledLength hF o ?_, fun q => by rw [cif_neg (fun z => q z.2)] at h; exact h⟩
  rw [cif_pos ⟨⟨k, hk, e⟩, q⟩, e, cl_nI (by omega)] at h
  have hl := spL_le o
  refine ⟨fun z => by rw [if_pos z] at h; exact h, fun z => ?_⟩
  rw [if_neg z] at h
  rcases i_m1 q with y | ⟨n, hn, rfl⟩
  · exact absurd y z
  · rw [cl_nI hn] at h
    refine pk_le (spL (F.2.2.1 k) (F.2.2.2 k) (F.2.1 k)) n (fun y => by rw [if_neg (by omega)] at h; exact h) (fun y => ?_)
    rw [if_pos y] at h
    exact x_spelledByte hF o (by omega) h
theorem m_wholeSize {S : St} {F : TF} {k : Nat} {post : Int32 → St → Prop} (hM : MF S F) (ok : okTF F) (hk : k < F.1) (h : post (nI (wsz (F.2.2.1 k) (F.2.2.2 k) (F.2.1 k))) S) : w_X9_wholeSize (nI k) post S := by
  obtain ⟨e1, e2, e3⟩ := hM.2 k hk
  have h8 := ok.1
  obtain ⟨o1, o2, o3, o4, o5⟩ := ok.2 k hk
  have ik : vp_in (nI k) 8 := in_nI (by omega)
  unfold w_X9_wholeSize
  rw [nI_clamp (show k < 2 ^ 31 by omega), e1, e2, e3]
  generalize F.2.1 k = a at *
  generalize F.2.2.1 k = b at *
  generalize F.2.2.2 k = g at *
  have hw : a / b ≤ a := Nat.div_le_self _ _
  have hw2 : a / b / g ≤ a / b := Nat.div_le_self _ _
  refine ⟨ik, ik, nI_ne0 o2 (by omega), ik, nI_ne0 (by omega) (by omega), nm_r (e' := nI (a / b / g)) (by rw [pk_div (by omega) o2 (by omega), pk_div (by omega) (by omega) (by omega)]) ⟨16, ?_⟩⟩
  have loop : ∀ n x c r, x < 2 ^ n → n ≤ 14 → n < r → c + n < 1000 → post (nI (dgc g n x c)) S → w_X9_wholeSize_23 post r (nI k) (nI c) (nI x) S := by
    intro n
    induction n with
    | zero =>
      intro x c r h1 h0 h2 h3 h4
      obtain ⟨r, rfl⟩ : ∃ j, r = j + 1 := ⟨r - 1, by omega⟩
      rw [w_X9_wholeSize_23]
      exact pk_le x 0 (fun _ => h4) (fun y => by omega)
    | succ n ih =>
      intro x c r h1 h0 h2 h3 h4
      obtain ⟨r, rfl⟩ : ∃ j, r = j + 1 := ⟨r - 1, by omega⟩
      have hp : 2 ^ (n + 1) ≤ 2 ^ 14 := Nat.pow_le_pow_right (by omega) h0
      rw [w_X9_wholeSize_23]
      rw [dgc] at h4
      rw [nI_clamp (show k < 2 ^ 31 by omega), e3]
      refine pk_le x 0 (fun y => by rw [if_pos (by omega)] at h4; exact h4) (fun y => nm_r (e' := nI (c + 1)) (nI_1 c) ⟨ik, nI_ne0 (by omega) (by omega), nm_r (e' := nI (x / g)) (pk_div (by omega) (by omega) (by omega)) ?_⟩)
      rw [if_neg (by omega)] at h4
      exact ih (x / g) (c + 1) r (half_lt o4 h1) (by omega) (by omega) (by omega) h4
  exact loop 14 _ 1 16 (by omega) (by omega) (by omega) (by omega) h
theorem m_wholeDigit {S : St} {F : TF} {k n : Nat} {post : Int32 → St → Prop} (hM : MF S F) (ok : okTF F) (hk : k < F.1) (hn : n < 100) (h : post (nI (F.2.1 k / F.2.2.1 k / F.2.2.2 k ^ n % F.2.2.2 k)) S) : w_X9_wholeDigit (nI k) (nI n) post S := by
  obtain ⟨e1, e2, e3⟩ := hM.2 k hk
  have h8 := ok.1
  obtain ⟨o1, o2, o3, o4, o5⟩ := ok.2 k hk
  have ik : vp_in (nI k) 8 := in_nI (by omega)
  unfold w_X9_wholeDigit
  rw [nI_clamp (show k < 2 ^ 31 by omega), e1, e2]
  generalize F.2.1 k = a at *
  generalize F.2.2.1 k = b at *
  generalize F.2.2.2 k = g at *
  have hw : a / b ≤ a := Nat.div_le_self _ _
  have hq : ∀ i, a / b / g ^ i < 10000 := fun i => by have := Nat.div_le_self (a / b) (g ^ i); omega
  have hz := nI_ne0 (show 0 < g by omega) (by omega)
  refine ⟨ik, ik, nI_ne0 o2 (by omega), nm_r (e' := nI (a / b)) (pk_div (by omega) o2 (by omega)) ⟨n + 1, ?_⟩⟩
  have loop : ∀ t i, i + t = n → w_X9_wholeDigit_17 post (t + 1) (nI k) (nI n) (nI (a / b / g ^ i)) (nI i) S := by
    intro t
    induction t with
    | zero =>
      intro i h1
      have : i = n := by omega
      subst this
      have := hq i
      rw [w_X9_wholeDigit_17, nI_clamp (show k < 2 ^ 31 by omega), e3]
      refine pk_le i i (fun _ => ⟨ik, hz, ?_⟩) (fun y => by omega)
      rw [jr_nI (by omega) (by omega) (by omega)]
      exact h
    | succ t ih =>
      intro i h1
      have := hq i
      rw [w_X9_wholeDigit_17, nI_clamp (show k < 2 ^ 31 by omega), e3]
      refine pk_le n i (fun y => by omega) (fun _ => ⟨ik, hz, nm_r (e' := nI (a / b / g ^ (i + 1))) (by rw [pk_div (by omega) (by omega) (by omega), Nat.div_div_eq_div_mul, ← Nat.pow_succ]) (nm_r (e' := nI (i + 1)) (nI_1 i) (ih (i + 1) (by omega)))⟩)
  have := loop n 0 (by omega)
  rw [Nat.pow_zero, Nat.div_one] at this
  exact this
theorem m_spell {S : St} {F : TF} {v w : Int32} {post : Int32 → St → Prop} (hM : MF S F) (ok : okTF F) (h : ∀ S' : St, Fm scD scD S S' → post (q_spell F v w) S') : w_X9_spell v w post S := by
  have h8 := ok.1
  unfold q_spell at h
  unfold w_X9_spell
  refine m_isFraction hM ok.1 (fun k hk e => br_f (by decide) ?_) (fun n => br_t rfl (by have h := h S Fm.rf; rw [cif_neg (fun q => iF.no n q.1)] at h; exact h))
  refine ⟨fun q => ?_, fun q => by have h := h S Fm.rf; rw [cif_neg (fun z => q z.2)] at h; exact h⟩
  rw [cif_pos ⟨⟨k, hk, e⟩, q⟩, e, cl_nI (by omega)] at h
  rw [e]
  have o := ok.2 k hk
  have hl := spL_le o
  refine m_looksAt hM ok hk (fun T hL hx => ?_)
  have h := h T hx
  have hMT := Fm.MF hM hx
  refine m_wholeSize hMT ok hk ⟨in_nI (n := 0) (by omega), ?_⟩
  have hp := ln_pos (F.2.2.1 k) (F.2.2.2 k) (F.2.1 k)
  have e5 : T.1 5 (Int32.toNatClampNeg 0) = nI (rs (F.2.2.1 k) (F.2.2.2 k) (F.2.1 k) 0) := (hL.2.2.2 0 (by omega)).1
  rw [e5]
  have hwd : ∀ n, n < 100 → ∀ p : Int32 → St → Prop, p (nI (F.2.1 k / F.2.2.1 k / F.2.2.2 k ^ n % F.2.2.2 k)) T → w_X9_wholeDigit (nI k) (nI n) p T := fun n hn p hp => m_wholeDigit hMT ok hk hn hp
  generalize F.2.1 k = a at *
  generalize F.2.2.1 k = b at *
  generalize F.2.2.2 k = g at *
  have hll := o.hl
  have hb2 := o.2.2.1
  have hg2 := o.2.2.2.2
  obtain ⟨w1, w2⟩ := wsz_le b g a
  have hrl := rs_lt o.2.1 g a 0
  have hdl : ∀ i, dg b g a i < g := fun i => dg_lt o.2.1 (by have := o.2.2.2.1; omega) a i
  have last : ∀ y0 y1 : Int32, y0 + y1 = nI (spL b g a) → w_X9_spell_76 post (nI k) w (nI (wsz b g a)) y0 y1 T := by
    intro y0 y1 hy
    unfold w_X9_spell_76
    refine nm_r hy ⟨fun z => by rw [if_pos z] at h; exact h, fun z => ?_⟩
    rw [if_neg z] at h
    rcases i_m1 q with y | ⟨n, hn, rfl⟩
    · exact absurd y z
    rw [cl_nI hn] at h
    refine pk_lt n (spL b g a) (fun y => ?_) (fun y => by rw [if_neg (by omega)] at h; exact h)
    rw [if_pos y] at h
    unfold spB at h
    refine pk_le (wsz b g a) n (fun x => ?_) (fun x => ?_)
    · rw [if_neg (by omega)] at h
      by_cases z2 : n = wsz b g a
      · rw [if_pos z2] at h
        refine nm_r (e' := -1) (by rw [z2, pk_sub (Nat.le_refl _), Nat.sub_self]; decide) (br_f (by decide) h)
      · rw [if_neg z2] at h
        refine nm_r (e' := nI (n - wsz b g a - 1)) (by rw [pk_sub x]; exact pk_sub (b := 1) (by omega)) ?_
        refine br_t (Int32.not_lt.mp (nI_pos (by omega))) ?_
        rw [hL.1]
        refine pk_le (hd b g a) (n - wsz b g a - 1) (fun t => ?_) (fun t => ?_)
        · rw [if_neg (by omega)] at h
          refine pk_eq (n - wsz b g a - 1) (hd b g a) (fun u => by rw [if_pos u] at h; exact h) (fun u => ?_)
          rw [if_neg u] at h
          have hsp : spL b g a = wsz b g a + (1 + hd b g a) + (2 + ln b g a) := by
            unfold spL at y ⊢
            by_cases s1 : rs b g a (hd b g a) = 0
            · rw [if_pos s1] at y
              by_cases s2 : rs b g a 0 = 0
              · rw [if_pos s2] at y; omega
              · rw [if_neg s2] at y; omega
            · by_cases s2 : rs b g a 0 = 0
              · rw [if_neg s1, if_pos s2] at y
                exfalso
                have : hd b g a = 0 := by
                  rcases Nat.eq_zero_or_pos (hd b g a) with r | r
                  · exact r
                  · exact absurd (by rw [s2]; exact Nat.dvd_zero _) (hd_min b g a 0 r)
                rw [this] at s1
                exact s1 s2
              · rw [if_neg s1, if_neg s2]
          rw [show nI (spL b g a) - 1 = nI (spL b g a - 1) from pk_sub (b := 1) (by omega)]
          refine pk_eq n (spL b g a - 1) (fun r => ?_) (fun r => ?_)
          · rw [if_pos (by omega)] at h; exact h
          · rw [if_neg (by omega)] at h
            refine nm_r (e' := nI (n - wsz b g a - 1 - 1)) (pk_sub (b := 1) (by omega)) ⟨in_nI (by omega), ?_⟩
            rw [nI_clamp (by omega), (hL.2.2.2 _ (by omega)).2]
            exact nm_e (m_sign (by have := hdl (n - wsz b g a - 1 - 1); omega) h)
        · rw [if_pos t] at h
          refine ⟨in_nI (by omega), ?_⟩
          rw [nI_clamp (by omega), (hL.2.2.2 _ (by omega)).2]
          exact nm_e (m_sign (by have := hdl (n - wsz b g a - 1); omega) h)
    · rw [if_pos x] at h
      refine nm_r (e' := nI (wsz b g a - 1 - n)) (by rw [show nI (wsz b g a) - 1 = nI (wsz b g a - 1) from pk_sub (b := 1) (by omega), pk_sub (by omega)]) (hwd _ (by omega) _ (m_sign ?_ h))
      have := Nat.mod_lt (a / b / g ^ (wsz b g a - 1 - n)) (show 0 < g by have := o.2.2.2.1; omega)
      omega
  have mid : ∀ y0 y1 : Int32, y0 + y1 = nI (wsz b g a + (if rs b g a 0 = 0 then 0 else 1 + hd b g a)) → w_X9_spell_58 post (nI k) w (nI (wsz b g a)) y0 y1 T := by
    intro y0 y1 hy
    unfold w_X9_spell_58
    rw [hL.2.2.1, hL.2.1, hy]
    by_cases s1 : rs b g a (hd b g a) = 0
    · rw [if_pos s1]
      exact br_f (by decide) (last _ _ (by unfold spL; rw [if_pos s1]; exact nI_add _ 0))
    · rw [if_neg s1]
      exact br_t rfl (last _ _ (by unfold spL; rw [if_neg s1, show (2 : Int32) = nI 2 from rfl, nI_add, nI_add]))
  refine pk_eq (rs b g a 0) 0 (fun s => ?_) (fun s => ?_)
  · unfold w_X9_spell_40
    exact br_t rfl (mid _ _ (by rw [if_pos s]; exact nI_add _ 0))
  · unfold w_X9_spell_40
    exact br_f (by decide) (mid _ _ (by rw [if_neg s, hL.1, show (1 : Int32) = nI 1 from rfl, nI_add, nI_add]))
