/-! X's Fraction -/
def okF (a b g : Nat) : Prop := a < 10000 ∧ 0 < b ∧ b < 1000 ∧ 2 ≤ g ∧ g < 17
def FrX (S : St) (k a b g : Nat) : Prop := S.1 k 0 = nI a ∧ S.1 k 1 = nI b ∧ S.1 k 2 = nI g ∧ S.1 k 3 = nI (hd b g a) ∧ S.1 k 4 = nI (ln b g a) ∧ S.1 k 5 = nI (rs b g a (hd b g a)) ∧ S.1 k 6 = nI (fd b g)
def kdN (b g a : Nat) : Nat := if rs b g a (hd b g a) = 0 then 0 else if hd b g a = 0 then 1 else 2
theorem FrX.cp {S S' : St} {k k' a b g : Nat} (h : FrX S k a b g) (e : S'.1 k' = S.1 k) : FrX S' k' a b g := by
  unfold FrX at h ⊢
  rw [e]; exact h
theorem fd_le {b g : Nat} (hb : 0 < b) : fd b g ≤ b := Nat.le_of_dvd hb (fd_b b g)
theorem mul_bd {x y A B : Nat} (hx : x ≤ A) (hy : y ≤ B) : x * y ≤ A * B := Nat.mul_le_mul hx hy
section
variable {a b g : Nat}
theorem okF.hl (h : okF a b g) : hd b g a + ln b g a ≤ b := hd_ln_le h.2.1 h.2.2.1 h.2.2.2.1 h.2.2.2.2 a
/-- restAfter of any rest -/
theorem s_restAfter0 {S : St} {k x : Nat} {post : Int32 → St → Prop} (e1 : S.1 k 1 = nI b) (e2 : S.1 k 2 = nI g) (hb : 0 < b) (hb2 : b < 1000) (hg2 : g < 17) (hx : x < b) (h : post (nI (x * g % b)) S) : w_X1_restAfter k (nI x) post S := by
  unfold w_X1_restAfter
  rw [e1, e2]
  have hm : x * g ≤ 1000 * 17 := mul_bd (by omega) (by omega)
  refine br_f (nI_ne0 hb (by omega)) ⟨nI_ne0 hb (by omega), ?_⟩
  rw [pk_mul, jr_nI (by omega) hb (by omega)]
  exact h
theorem s_restAfter {S : St} {k i : Nat} {post : Int32 → St → Prop} (hF : FrX S k a b g) (ok : okF a b g) (h : post (nI (rs b g a (i + 1))) S) : w_X1_restAfter k (nI (rs b g a i)) post S :=
  s_restAfter0 hF.2.1 hF.2.2.1 ok.2.1 ok.2.2.1 ok.2.2.2.2 (rs_lt ok.2.1 g a i) (by rw [← rs_succ]; exact h)
theorem s_digitOf {S : St} {k i : Nat} {post : Int32 → St → Prop} (hF : FrX S k a b g) (ok : okF a b g) (h : post (nI (dg b g a i)) S) : w_X1_digitOf k (nI (rs b g a i)) post S := by
  obtain ⟨-, e1, e2, -⟩ := hF
  have hx := rs_lt ok.2.1 g a i
  have hm : rs b g a i * g ≤ 1000 * 17 := mul_bd (by have := ok.2.2.1; omega) (by have := ok.2.2.2.2; omega)
  have hb := ok.2.2.1
  unfold w_X1_digitOf
  rw [e1, e2]
  refine nm_r (e' := lN (rs b g a i * g)) (by rw [pk_mul, toL (by omega)]) (nm_r (e' := lN b) (toL (by omega)) ?_)
  refine s_quotient ok.2.1 ?_ (by omega) (by omega)
  rw [toI]
  exact h
theorem s_turns0 {S : St} {k x d : Nat} {post : Int32 → St → Prop} (e6 : S.1 k 6 = nI d) (h0 : 0 < d) (hd : d < 1000) (hx : x < 2 ^ 31) (f : d ∣ x → post 1 S) (n : ¬ d ∣ x → post 0 S) : w_X1_turns k (nI x) post S := by
  unfold w_X1_turns
  rw [e6]
  refine br_f (nI_ne0 h0 (by omega)) ⟨nI_ne0 h0 (by omega), ?_⟩
  rw [jr_nI hx h0 (by omega)]
  have hm : x % d < d := Nat.mod_lt _ h0
  exact pk_eq (x % d) 0 (fun q => f (Nat.dvd_of_mod_eq_zero q)) (fun q => n (fun z => q (Nat.mod_eq_zero_of_dvd z)))
theorem s_ends {S : St} {k : Nat} {post : Int32 → St → Prop} (hF : FrX S k a b g) (ok : okF a b g) (f : rs b g a (hd b g a) = 0 → post 1 S) (n : rs b g a (hd b g a) ≠ 0 → post 0 S) : w_X1_ends k post S := by
  unfold w_X1_ends
  rw [hF.2.2.2.2.2.1]
  have := rs_lt ok.2.1 g a (hd b g a)
  have := ok.2.2.1
  exact pk_eq _ 0 f n
theorem s_kind {S : St} {k : Nat} {post : Int32 → St → Prop} (hF : FrX S k a b g) (ok : okF a b g) (h : post (nI (kdN b g a)) S) : w_X1_kind k post S := by
  unfold w_X1_kind
  unfold kdN at h
  refine s_ends hF ok (fun q => ?_) (fun q => ?_)
  · rw [if_pos q] at h
    exact br_f (by decide) h
  · rw [if_neg q] at h
    refine br_t rfl ?_
    rw [hF.2.2.2.1]
    have := hd_le b g a
    refine pk_eq (hd b g a) 0 (fun z => ?_) (fun z => ?_)
    · rw [if_pos z] at h; exact h
    · rw [if_neg z] at h; exact h
/-- whether 1 by b is full; of any fraction: does it not end, and is its length b less 1 -/
def isFullN (b g a : Nat) : Prop := rs b g a (hd b g a) ≠ 0 ∧ ln b g a + 1 = b
theorem s_isFullUnit {S : St} {k : Nat} {post : Int32 → St → Prop} (hF : FrX S k a b g) (ok : okF a b g) (f : isFullN b g a → post 1 S) (n : ¬ isFullN b g a → post 0 S) : w_X1_isFullUnit k post S := by
  have hb := ok.2.1
  have hb2 := ok.2.2.1
  have hl := ok.hl
  have hp := ln_pos b g a
  unfold w_X1_isFullUnit
  refine s_ends hF ok (fun q => ?_) (fun q => ?_)
  · exact br_f (by decide) (n (fun z => z.1 q))
  · refine br_t rfl ?_
    rw [hF.2.1, hF.2.2.2.2.1, show nI b - 1 = nI (b - 1) from pk_sub (a := b) (b := 1) (by omega)]
    exact pk_eq (ln b g a) (b - 1) (fun z => f ⟨q, by omega⟩) (fun z => n (fun y => z (by have := y.2; omega)))
theorem s_restAt {S : St} {k i : Nat} {post : Int32 → St → Prop} (hF : FrX S k a b g) (ok : okF a b g) (hi : i < 2 ^ 30) (h : post (nI (rs b g a i)) S) : w_X1_restAt k (nI i) post S := by
  have hb := ok.2.1
  have hb2 := ok.2.2.1
  have hl := ok.hl
  have h9 := hd_le b g a
  have hp := ln_pos b g a
  have loop : ∀ (t : Nat), t < 2 ^ 30 → post (nI (rs b g a t)) S → w_X1_restAt_30 post k (nI t) S := by
    intro t ht hpost
    unfold w_X1_restAt_30
    rw [hF.1, hF.2.1]
    refine nm_e (nm_e (s_remainder hb ?_ (by have := ok.1; omega)))
    rw [← rs_zero b g a]
    have key : ∀ n i, i ≤ t → t < i + n → w_X1_restAt_46 post n k (nI t) (nI (rs b g a i)) (nI i) S := by
      intro n
      induction n with
      | zero => intro i h1 h2; omega
      | succ n ih =>
        intro i h1 h2
        rw [w_X1_restAt_46]
        refine pk_le t i (fun q => ?_) (fun q => ?_)
        · have : i = t := by omega
          subst this
          exact hpost
        · exact s_restAfter hF ok (nm_r (e' := nI (i + 1)) (nI_1 i) (ih (i + 1) q (by omega)))
    exact ⟨t + 1, key (t + 1) 0 (Nat.zero_le _) (by omega)⟩
  unfold w_X1_restAt
  rw [hF.2.2.2.1, hF.2.2.2.2.1]
  refine pk_le (hd b g a) i (fun q => ?_) (fun q => ?_)
  · refine nm_r (e' := nI (i - hd b g a)) (pk_sub q) (nm_e (s_remainder hp ?_))
    rw [nI_add]
    have hm := Nat.mod_lt (i - hd b g a) hp
    refine loop _ (by omega) ?_
    have e : hd b g a + (i - hd b g a) % ln b g a = plc b g a i := by unfold plc; rw [if_neg (by omega)]
    rw [e, rs_plc hb hb2 ok.2.2.2.1 ok.2.2.2.2]
    exact h
  · exact loop i hi h
theorem s_whole {S : St} {k : Nat} {post : Int32 → St → Prop} (hF : FrX S k a b g) (ok : okF a b g) (h : post (nI (a / b)) S) : w_X1_whole k post S := by
  have ha := ok.1
  have hb2 := ok.2.2.1
  unfold w_X1_whole
  rw [hF.1, hF.2.1]
  refine nm_r (e' := lN a) (toL (by omega)) (nm_r (e' := lN b) (toL (by omega)) (s_quotient ok.2.1 ?_))
  rw [toI]
  exact h
/-- the least place of a digit -/
def plD (b g a d n : Nat) : Nat → Nat → Option Nat
  | 0, _ => none
  | m + 1, i => if n ≤ i then none else if dg b g a i = d then some i else plD b g a d n m (i + 1)
theorem s_placeOfDigit {S : St} {k d : Nat} {post : Int32 → St → Prop} (hF : FrX S k a b g) (ok : okF a b g) (hdd : d < 2 ^ 30) (f : ∀ i, i < hd b g a + ln b g a → dg b g a i = d → (∀ j, j < i → dg b g a j ≠ d) → post (nI i) S) (n : (∀ j, j < hd b g a + ln b g a → dg b g a j ≠ d) → post (-2) S) : w_X1_placeOfDigit k (nI d) post S := by
  have hb := ok.2.1
  have hb2 := ok.2.2.1
  have hl := ok.hl
  unfold w_X1_placeOfDigit
  rw [hF.1, hF.2.1]
  refine nm_e (nm_e (s_remainder hb ?_ (by have := ok.1; omega)))
  rw [← rs_zero b g a]
  have key : ∀ m i, i ≤ hd b g a + ln b g a → hd b g a + ln b g a < i + m → (∀ j, j < i → dg b g a j ≠ d) → w_X1_placeOfDigit_14 post m k (nI d) (nI (rs b g a i)) (nI i) S := by
    intro m
    induction m with
    | zero => intro i h1 h2; omega
    | succ m ih =>
      intro i h1 h2 h3
      rw [w_X1_placeOfDigit_14, hF.2.2.2.1, hF.2.2.2.2.1, nI_add]
      refine pk_le (hd b g a + ln b g a) i (fun q => ?_) (fun q => ?_)
      · exact n (fun j hj => h3 j (by omega))
      · refine s_digitOf hF ok ?_
        have hdl := dg_lt hb (show 0 < g by have := ok.2.2.2.1; omega) a i
        have := ok.2.2.2.2
        refine pk_eq (dg b g a i) d (fun e => f i q e h3) (fun e => ?_)
        exact s_restAfter hF ok (nm_r (e' := nI (i + 1)) (nI_1 i) (ih (i + 1) q (by omega) (fun j hj => by
          rcases Nat.lt_or_ge j i with z | z
          · exact h3 j z
          · have : j = i := by omega
            subst this; exact e)))
  exact ⟨hd b g a + ln b g a + 1, key _ 0 (Nat.zero_le _) (by omega) (fun j hj => by omega)⟩
theorem s_partsInto {S : St} {k : Nat} {x : Int32} {post : Int32 → St → Prop} (hF : FrX S k a b g) (ok : okF a b g) (f : ∀ n, 1 ≤ n → n ≤ ln b g a → ln b g a % n = 0 → x = nI n → post 1 S) (n : (∀ n, 1 ≤ n → n ≤ ln b g a → ln b g a % n = 0 → x ≠ nI n) → post 0 S) : w_X1_partsInto k x post S := by
  have hb2 := ok.2.2.1
  have hl := ok.hl
  unfold w_X1_partsInto
  rw [hF.2.2.2.2.1]
  refine nm_e ?_
  rcases i_or x with hx | ⟨y, hy, rfl⟩
  · refine s_isWithin (fun h1 _ => absurd h1 (Int32.not_le.mpr (neg_le hx (n := 1) (by decide)))) (fun _ => br_t rfl (n (fun m h1 h2 _ e => ?_)))
    rw [e] at hx
    exact nI_pos (by omega) hx
  · refine s_within (lo := 1) (fun h1 h2 => ?_) (fun h1 => ?_)
    · refine br_f (by decide) ?_
      refine nm_r hF.2.2.2.2.1 (s_remainder h1 ?_)
      have hm := Nat.mod_lt (ln b g a) h1
      refine pk_eq (ln b g a % y) 0 (fun z => f y h1 h2 z rfl) (fun z => n (fun m g1 g2 g3 e => ?_))
      have := nI_inj e
      subst this
      exact z g3
    · refine br_t rfl (n (fun m g1 g2 g3 e => ?_))
      have := nI_inj e
      omega
theorem s_blockWidth {S : St} {k n : Nat} {post : Int32 → St → Prop} (hF : FrX S k a b g) (ok : okF a b g) (h0 : 0 < n) (hn : n < 2 ^ 31) (h : post (nI (ln b g a / n)) S) : w_X1_blockWidth k (nI n) post S := by
  have hb2 := ok.2.2.1
  have hl := ok.hl
  unfold w_X1_blockWidth
  rw [hF.2.2.2.2.1]
  refine nm_r (e' := lN (ln b g a)) (toL (by omega)) (nm_r (e' := lN n) (toL hn) (s_quotient h0 ?_))
  rw [toI]
  exact h
/-- the rests with which blocks of a width begin, of the first i places, together -/
def tog (b g a w : Nat) : Nat → Nat
  | 0 => 0
  | i + 1 => tog b g a w i + if i % w = 0 then rs b g a (hd b g a + i) else 0
theorem tog_le {b : Nat} (hb : 0 < b) (g a w : Nat) : ∀ i, tog b g a w i ≤ i * b := by
  intro i
  induction i with
  | zero => simp [tog]
  | succ i ih =>
    rw [tog, Nat.succ_mul]
    have := rs_lt hb g a (hd b g a + i)
    by_cases q : i % w = 0
    · rw [if_pos q]; omega
    · rw [if_neg q]; omega
theorem s_ninesOfBlocks {S : St} {k n : Nat} {post : Int32 → St → Prop} (hF : FrX S k a b g) (ok : okF a b g) (h0 : 0 < n) (hn : n ≤ ln b g a) (f : tog b g a (ln b g a / n) (ln b g a) % b = 0 → post (nI (tog b g a (ln b g a / n) (ln b g a) / b)) S) (m : tog b g a (ln b g a / n) (ln b g a) % b ≠ 0 → post (-2) S) : w_X1_ninesOfBlocks k (nI n) post S := by
  have hb := ok.2.1
  have hb2 := ok.2.2.1
  have hl := ok.hl
  have hw : 0 < ln b g a / n := Nat.div_pos hn h0
  have hw2 : ln b g a / n ≤ ln b g a := Nat.div_le_self _ _
  have hT : ∀ i, i ≤ ln b g a → tog b g a (ln b g a / n) i ≤ 1000 * 1000 := fun i hi => Nat.le_trans (tog_le hb g a _ i) (mul_bd (by omega) (by omega))
  unfold w_X1_ninesOfBlocks
  refine s_blockWidth hF ok h0 (by omega) ?_
  rw [hF.2.2.2.2.2.1]
  refine nm_e ?_
  have key : ∀ q i, i ≤ ln b g a → ln b g a < i + q → w_X1_ninesOfBlocks_17 post q k (nI (ln b g a / n)) (nI (tog b g a (ln b g a / n) i)) (nI (rs b g a (hd b g a + i))) (nI i) S := by
    intro q
    induction q with
    | zero => intro i h1 h2; omega
    | succ q ih =>
      intro i h1 h2
      rw [w_X1_ninesOfBlocks_17, hF.2.1, hF.2.2.2.2.1]
      refine pk_le (ln b g a) i (fun z => ?_) (fun z => ?_)
      · have hi : i = ln b g a := by omega
        subst hi
        have hTT := hT _ (Nat.le_refl _)
        refine nm_e (s_remainder hb ?_)
        have hm := Nat.mod_lt (tog b g a (ln b g a / n) (ln b g a)) hb
        refine pk_eq (tog b g a (ln b g a / n) (ln b g a) % b) 0 (fun z => ?_) (fun z => m z)
        refine nm_r (e' := lN (tog b g a (ln b g a / n) (ln b g a))) (toL (by omega)) (nm_r (e' := lN b) (by rw [hF.2.1]; exact toL (by omega)) (s_quotient hb ?_))
        rw [toI]
        exact f z
      · refine s_remainder hw ?_
        have hm := Nat.mod_lt i hw
        have go : ∀ y : Nat, tog b g a (ln b g a / n) i + y = tog b g a (ln b g a / n) (i + 1) → w_X1_ninesOfBlocks_42 post (fun k0 v2 v3 v4 v5 S => w_X1_ninesOfBlocks_17 post q k0 v2 v3 v4 v5 S) k (nI (ln b g a / n)) (nI (rs b g a (hd b g a + i))) (nI i) (nI (tog b g a (ln b g a / n) i)) (nI y) S := by
          intro y hy
          unfold w_X1_ninesOfBlocks_42
          refine nm_r (e' := nI (tog b g a (ln b g a / n) (i + 1))) (by rw [nI_add, hy]) ?_
          refine s_restAfter hF ok (nm_r (e' := nI (i + 1)) (nI_1 i) ?_)
          exact ih (i + 1) z (by omega)
        refine pk_eq (i % (ln b g a / n)) 0 (fun e => ?_) (fun e => ?_)
        · exact go _ (by rw [tog, if_pos e])
        · exact go 0 (by rw [tog, if_neg e])
  exact ⟨ln b g a + 1, key _ 0 (Nat.zero_le _) (by omega)⟩
theorem s_turningRestTimes {S : St} {k m : Nat} {post : Int32 → St → Prop} (hF : FrX S k a b g) (ok : okF a b g) (hm : m < 1000) (h : post (nI (rs b g (m * a) (hd b g (m * a)))) S) : w_X1_turningRestTimes k (nI m) post S := by
  have hb := ok.2.1
  have hb2 := ok.2.2.1
  have hma : m * a ≤ 1000 * 10000 := mul_bd (by omega) (by have := ok.1; omega)
  have h9 := hd_le b g (m * a)
  unfold w_X1_turningRestTimes
  rw [hF.1, hF.2.1]
  refine nm_r (e' := nI (m * a)) (pk_mul m a) (nm_e (s_remainder hb ?_))
  rw [← rs_zero b g (m * a)]
  have key : ∀ n i, i ≤ hd b g (m * a) → hd b g (m * a) < i + n → w_X1_turningRestTimes_16 post n k (nI (rs b g (m * a) i)) (nI i) S := by
    intro n
    induction n with
    | zero => intro i h1 h2; omega
    | succ n ih =>
      intro i h1 h2
      have hr := rs_lt hb g (m * a) i
      rw [w_X1_turningRestTimes_16, hF.2.1]
      have hbi : hd b g (m * a) < b := by
        have := hd_ln_le hb hb2 ok.2.2.2.1 ok.2.2.2.2 (m * a)
        have := ln_pos b g (m * a)
        omega
      refine pk_le b i (fun q => by omega) (fun q => ?_)
      refine s_turns0 hF.2.2.2.2.2.2 (fd_pos hb g) (by have := fd_le (g := g) hb; omega) (by omega) (fun d => ?_) (fun d => ?_)
      · refine br_f (by decide) ?_
        have : i = hd b g (m * a) := by
          rcases Nat.lt_or_ge i (hd b g (m * a)) with z | z
          · exact absurd d (hd_min b g (m * a) i z)
          · omega
        subst this
        exact h
      · refine br_t rfl ?_
        refine s_restAfter0 hF.2.1 hF.2.2.1 hb hb2 ok.2.2.2.2 hr ?_
        rw [← rs_succ]
        refine nm_r (e' := nI (i + 1)) (nI_1 i) (ih (i + 1) ?_ (by omega))
        rcases Nat.lt_or_ge i (hd b g (m * a)) with z | z
        · exact z
        · have : i = hd b g (m * a) := by omega
          subst this
          exact absurd (hd_dvd b g (m * a)) d
  exact ⟨hd b g (m * a) + 1, key _ 0 (Nat.zero_le _) (by omega)⟩
theorem s_placeInPeriod {S : St} {k x : Nat} {post : Int32 → St → Prop} (hF : FrX S k a b g) (ok : okF a b g) (hx : x < 2 ^ 31) (f : ∀ s, s < ln b g a → rs b g a (hd b g a + s) = x → post (nI s) S) (n : (∀ s, s < ln b g a → rs b g a (hd b g a + s) ≠ x) → post (-2) S) : w_X1_placeInPeriod k (nI x) post S := by
  have hb := ok.2.1
  have hb2 := ok.2.2.1
  have hl := ok.hl
  unfold w_X1_placeInPeriod
  rw [hF.2.2.2.2.2.1]
  refine nm_e ?_
  have key : ∀ m s, s ≤ ln b g a → ln b g a < s + m → (∀ t, t < s → rs b g a (hd b g a + t) ≠ x) → w_X1_placeInPeriod_7 post m k (nI x) (nI (rs b g a (hd b g a + s))) (nI s) S := by
    intro m
    induction m with
    | zero => intro s h1 h2; omega
    | succ m ih =>
      intro s h1 h2 h3
      have hr := rs_lt hb g a (hd b g a + s)
      rw [w_X1_placeInPeriod_7, hF.2.2.2.2.1]
      refine pk_le (ln b g a) s (fun q => ?_) (fun q => ?_)
      · exact n (fun t ht => h3 t (by omega))
      · refine pk_eq (rs b g a (hd b g a + s)) x (fun e => f s q e) (fun e => ?_)
        refine s_restAfter hF ok (nm_r (e' := nI (s + 1)) (nI_1 s) (ih (s + 1) q (by omega) (fun t ht => ?_)))
        rcases Nat.lt_or_ge t s with z | z
        · exact h3 t z
        · have : t = s := by omega
          subst this; exact e
  exact ⟨ln b g a + 1, key _ 0 (Nat.zero_le _) (by omega) (fun t ht => by omega)⟩
/-- become: the object is that fraction then, all else stays -/
theorem s_become {S : St} {k : Nat} {post : St → Prop} (ok : okF a b g) (h : ∀ S' : St, FrX S' k a b g → Fx (fun j => j = k) S S' → post S') : w_X1_become k (nI a) (nI b) (nI g) post S := by
  have ha := ok.1
  have hb := ok.2.1
  have hb2 := ok.2.2.1
  have hg := ok.2.2.2.1
  have hg2 := ok.2.2.2.2
  have hl := ok.hl
  have h9 := hd_le b g a
  have hp := ln_pos b g a
  have hpw : g ^ 9 ≤ 17 ^ 9 := Nat.pow_le_pow_left (by omega) 9
  have hfd := fd_le (g := g) hb
  unfold w_X1_become
  refine nm_e (nm_e (nm_e (nm_r (e' := nI g) (by simp [sI_1]) (s_power (e := 9) (by omega) (by omega) (nm_r (e' := lN b) (by simp [sI_1]; exact toL (by omega)) (s_gcd (by omega) (by omega) ?_))))))
  refine nm_r (e' := nI (fd b g)) (toI _) (nm_e (nm_e (nm_r (e' := nI a) (by simp [sI_1]) (nm_r (e' := nI b) (by simp [sI_1]) (s_remainder hb ?_)))))
  rw [← rs_zero b g a]
  refine nm_e ?_
  -- the state ahead of the first loop, with the place and the rest
  have base : ∀ (T : St) (i r : Nat), T.1 k 0 = nI a → T.1 k 1 = nI b → T.1 k 2 = nI g → T.1 k 3 = nI i → T.1 k 5 = nI r → T.1 k 6 = nI (fd b g) → True := fun _ _ _ _ _ _ _ _ _ => trivial
  have two : ∀ (n i : Nat) (T : St), 1 ≤ i → i ≤ ln b g a → ln b g a < i + n → T.1 k 0 = nI a → T.1 k 1 = nI b → T.1 k 2 = nI g → T.1 k 3 = nI (hd b g a) → T.1 k 4 = nI i → T.1 k 5 = nI (rs b g a (hd b g a)) → T.1 k 6 = nI (fd b g) → Fx (fun j => j = k) S T → w_X1_become_119 post n k (nI (rs b g a (hd b g a + i))) T := by
    intro n
    induction n with
    | zero => intro i T h1 h2 h3; omega
    | succ n ih =>
      intro i T h1 h2 h3 t0 t1 t2 t3 t4 t5 t6 hx
      have r1 := rs_lt hb g a (hd b g a + i)
      have r2 := rs_lt hb g a (hd b g a)
      have fin : i = ln b g a → post T := fun e => h T ⟨t0, t1, t2, t3, by rw [t4, e], t5, t6⟩ hx
      rw [w_X1_become_119, t1, t4, t5]
      refine pk_le b i (fun q => fin (by omega)) (fun q => ?_)
      refine pk_eq _ _ (fun e => ?_) (fun e => ?_)
      · refine fin ?_
        rcases Nat.lt_or_ge i (ln b g a) with z | z
        · exact absurd e (ln_min b g a i h1 z)
        · omega
      · have hi : i < ln b g a := by
          rcases Nat.lt_or_ge i (ln b g a) with z | z
          · exact z
          · have : i = ln b g a := by omega
            subst this
            exact absurd (ln_per hb hb2 hg hg2 a) e
        refine s_restAfter0 t1 t2 hb hb2 hg2 r1 ?_
        rw [← rs_succ, t4]
        refine nm_r (e' := nI (i + 1)) (nI_1 i) (nm_e ?_)
        refine ih (i + 1) _ (by omega) hi (by omega) ?_ ?_ ?_ ?_ ?_ ?_ ?_ (hx.tr (fx_sI rfl))
        · rw [sI_n _ _ _ _ _ (by decide)]; exact t0
        · rw [sI_n _ _ _ _ _ (by decide)]; exact t1
        · rw [sI_n _ _ _ _ _ (by decide)]; exact t2
        · rw [sI_n _ _ _ _ _ (by decide)]; exact t3
        · rw [sI_s]
        · rw [sI_n _ _ _ _ _ (by decide)]; exact t5
        · rw [sI_n _ _ _ _ _ (by decide)]; exact t6
  have mid : ∀ (T : St), T.1 k 0 = nI a → T.1 k 1 = nI b → T.1 k 2 = nI g → T.1 k 3 = nI (hd b g a) → T.1 k 5 = nI (rs b g a (hd b g a)) → T.1 k 6 = nI (fd b g) → Fx (fun j => j = k) S T → w_X1_become_104 post k T := by
    intro T t0 t1 t2 t3 t5 t6 hx
    have r2 := rs_lt hb g a (hd b g a)
    unfold w_X1_become_104
    refine nm_e (nm_r (e' := nI (rs b g a (hd b g a))) (by rw [sI_n _ _ _ _ _ (by decide)]; exact t5) ?_)
    refine s_restAfter0 (b := b) (g := g) (by rw [sI_n _ _ _ _ _ (by decide)]; exact t1) (by rw [sI_n _ _ _ _ _ (by decide)]; exact t2) hb hb2 hg2 r2 ?_
    rw [← rs_succ]
    refine ⟨ln b g a, two (ln b g a) 1 _ (Nat.le_refl 1) hp (by omega) ?_ ?_ ?_ ?_ ?_ ?_ ?_ (hx.tr (fx_sI rfl))⟩
    · rw [sI_n _ _ _ _ _ (by decide)]; exact t0
    · rw [sI_n _ _ _ _ _ (by decide)]; exact t1
    · rw [sI_n _ _ _ _ _ (by decide)]; exact t2
    · rw [sI_n _ _ _ _ _ (by decide)]; exact t3
    · rw [sI_s]; rfl
    · rw [sI_n _ _ _ _ _ (by decide)]; exact t5
    · rw [sI_n _ _ _ _ _ (by decide)]; exact t6
  have one : ∀ (n i : Nat) (T : St), i ≤ hd b g a → hd b g a < i + n → T.1 k 0 = nI a → T.1 k 1 = nI b → T.1 k 2 = nI g → T.1 k 3 = nI i → T.1 k 5 = nI (rs b g a i) → T.1 k 6 = nI (fd b g) → Fx (fun j => j = k) S T → w_X1_become_57 post n k T := by
    intro n
    induction n with
    | zero => intro i T h1 h2; omega
    | succ n ih =>
      intro i T h1 h2 t0 t1 t2 t3 t5 t6 hx
      have r1 := rs_lt hb g a i
      rw [w_X1_become_57, t1, t3, t5]
      refine pk_le b i (fun q => by omega) (fun q => nm_e ?_)
      refine s_turns0 t6 (fd_pos hb g) (by omega) (by omega) (fun d => ?_) (fun d => ?_)
      · have e : i = hd b g a := by
          rcases Nat.lt_or_ge i (hd b g a) with z | z
          · exact absurd d (hd_min b g a i z)
          · omega
        subst e
        exact br_f (by decide) (mid T t0 t1 t2 t3 t5 t6 hx)
      · refine br_t rfl ?_
        have hi : i < hd b g a := by
          rcases Nat.lt_or_ge i (hd b g a) with z | z
          · exact z
          · have : i = hd b g a := by omega
            subst this
            exact absurd (hd_dvd b g a) d
        rw [t5]
        refine nm_e (s_restAfter0 t1 t2 hb hb2 hg2 r1 ?_)
        rw [← rs_succ]
        refine nm_e (nm_r (e' := nI (i + 1)) (by rw [sI_n _ _ _ _ _ (by decide), t3]; exact nI_1 i) (nm_e ?_))
        refine ih (i + 1) _ hi (by omega) ?_ ?_ ?_ ?_ ?_ ?_ ((hx.tr (fx_sI rfl)).tr (fx_sI rfl))
        · rw [sI_n _ _ _ _ _ (by decide), sI_n _ _ _ _ _ (by decide)]; exact t0
        · rw [sI_n _ _ _ _ _ (by decide), sI_n _ _ _ _ _ (by decide)]; exact t1
        · rw [sI_n _ _ _ _ _ (by decide), sI_n _ _ _ _ _ (by decide)]; exact t2
        · rw [sI_s]
        · rw [sI_n _ _ _ _ _ (by decide), sI_s]
        · rw [sI_n _ _ _ _ _ (by decide), sI_n _ _ _ _ _ (by decide)]; exact t6
  refine ⟨hd b g a + 1, one _ 0 _ (Nat.zero_le _) (by omega) ?_ ?_ ?_ ?_ ?_ ?_ ?_⟩
  · simp [sI_1]
  · simp [sI_1]
  · simp [sI_1]
  · simp [sI_1]; rfl
  · simp [sI_1]
  · simp [sI_1]
  · exact Fx.I (Fx.I (Fx.I (Fx.I (Fx.I (Fx.I (Fx.rf) rfl) rfl) rfl) rfl) rfl) rfl
theorem s_becomeLike {S : St} {k k1 : Nat} {post : St → Prop} (hF : FrX S k1 a b g) (hk : k1 ≠ k) (h : ∀ S' : St, FrX S' k a b g → Fx (fun j => j = k) S S' → post S') : w_X1_becomeLike k k1 post S := by
  obtain ⟨e0, e1, e2, e3, e4, e5, e6⟩ := hF
  unfold w_X1_becomeLike
  refine nm_r e0 (nm_e (nm_r (e' := nI b) (by simp [sI_1, hk, e1]) (nm_e (nm_r (e' := nI g) (by simp [sI_1, hk, e2]) (nm_e (nm_r (e' := nI (hd b g a)) (by simp [sI_1, hk, e3]) (nm_e (nm_r (e' := nI (ln b g a)) (by simp [sI_1, hk, e4]) (nm_e (nm_r (e' := nI (rs b g a (hd b g a))) (by simp [sI_1, hk, e5]) (nm_e (nm_r (e' := nI (fd b g)) (by simp [sI_1, hk, e6]) (nm_e ?_)))))))))))))
  refine h _ ⟨?_, ?_, ?_, ?_, ?_, ?_, ?_⟩ (Fx.I (Fx.I (Fx.I (Fx.I (Fx.I (Fx.I (Fx.I (Fx.rf) rfl) rfl) rfl) rfl) rfl) rfl) rfl)
  all_goals simp [sI_1]
end
