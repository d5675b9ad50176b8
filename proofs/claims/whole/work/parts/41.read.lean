/-! the tape read: digits -/
def dgv (T : TT) (i : Nat) : Nat := if i < T.1 then (if 48 ≤ T.2 i ∧ T.2 i ≤ 57 then T.2 i - 48 else if 97 ≤ T.2 i ∧ T.2 i ≤ 102 then T.2 i - 97 + 10 else 99) else 99
def tkd (T : TT) (g : Nat) : Nat → Nat → Nat → Nat → Nat × Nat
  | 0, _, c, x => (c, x)
  | n + 1, i, c, x => if dgv T i < g then tkd T g n (i + 1) (c + 1) (x * g + dgv T i) else (c, x)
theorem tkd_le (T : TT) (g : Nat) : ∀ n i c x, c ≤ (tkd T g n i c x).1 ∧ (tkd T g n i c x).1 ≤ c + n := by
  intro n
  induction n with
  | zero => intro i c x; rw [tkd]; exact ⟨Nat.le_refl _, Nat.le_refl _⟩
  | succ n ih =>
    intro i c x
    rw [tkd]
    by_cases h : dgv T i < g
    · rw [if_pos h]; have := ih (i + 1) (c + 1) (x * g + dgv T i); omega
    · rw [if_neg h]; exact ⟨Nat.le_refl _, by show c ≤ c + (n + 1); omega⟩
theorem dgv_in (T : TT) (i : Nat) (h : dgv T i < 99) : i < T.1 := by
  unfold dgv at h
  by_cases q : i < T.1
  · exact q
  · rw [if_neg q] at h; omega
theorem tkd_in (T : TT) (g : Nat) (hg2 : g < 17) : ∀ n i c x, i ≤ T.1 → i + ((tkd T g n i c x).1 - c) ≤ T.1 := by
  intro n
  induction n with
  | zero => intro i c x h; rw [tkd]; show i + (c - c) ≤ T.1; omega
  | succ n ih =>
    intro i c x h
    rw [tkd]
    by_cases q : dgv T i < g
    · rw [if_pos q]
      have := dgv_in T i (by omega)
      have h2 := ih (i + 1) (c + 1) (x * g + dgv T i) (by omega)
      have h3 := tkd_le T g n (i + 1) (c + 1) (x * g + dgv T i)
      omega
    · rw [if_neg q]; show i + (c - c) ≤ T.1; omega
theorem tkd_lin (T : TT) (g : Nat) : ∀ n i c x y k, (tkd T g n i c (x * g ^ k + y)).1 = (tkd T g n i c y).1 ∧ (tkd T g n i c (x * g ^ k + y)).2 = x * g ^ (k + ((tkd T g n i c y).1 - c)) + (tkd T g n i c y).2 := by
  intro n
  induction n with
  | zero => intro i c x y k; rw [tkd, tkd]; simp
  | succ n ih =>
    intro i c x y k
    rw [tkd, tkd]
    by_cases q : dgv T i < g
    · rw [if_pos q, if_pos q]
      have e : (x * g ^ k + y) * g + dgv T i = x * g ^ (k + 1) + (y * g + dgv T i) := by rw [Nat.pow_succ]; grind
      rw [e]
      have h := ih (i + 1) (c + 1) x (y * g + dgv T i) (k + 1)
      have h3 := tkd_le T g n (i + 1) (c + 1) (y * g + dgv T i)
      refine ⟨h.1, ?_⟩
      rw [h.2]
      congr 3
      omega
    · rw [if_neg q, if_neg q]; simp
theorem tkd_lt (T : TT) (g : Nat) : ∀ n i c x k, x < g ^ k → (tkd T g n i c x).2 < g ^ (k + ((tkd T g n i c x).1 - c)) := by
  intro n
  induction n with
  | zero => intro i c x k h; rw [tkd]; simpa using h
  | succ n ih =>
    intro i c x k h
    rw [tkd]
    by_cases q : dgv T i < g
    · rw [if_pos q]
      have h3 := tkd_le T g n (i + 1) (c + 1) (x * g + dgv T i)
      have e : (x + 1) * g ≤ g ^ k * g := Nat.mul_le_mul_right g h
      rw [Nat.succ_mul] at e
      have := ih (i + 1) (c + 1) (x * g + dgv T i) (k + 1) (by rw [Nat.pow_succ]; omega)
      rw [show k + ((tkd T g n (i + 1) (c + 1) (x * g + dgv T i)).1 - c) = k + 1 + ((tkd T g n (i + 1) (c + 1) (x * g + dgv T i)).1 - (c + 1)) by omega]
      exact this
    · rw [if_neg q]; simpa using h
/-! X's tape -/
def TpX (S : St) (T : TT) (i : Nat) : Prop := XT S T ∧ S.1 27 2 = nI i
def byA (T : TT) (i : Nat) : Int32 := if i < T.1 then nI (T.2 i) else -1
theorem x_byteAt {S : St} {T : TT} {i : Nat} {post : Int32 → St → Prop} (hT : XT S T) (ok : okTT T) (hi : i < 2 ^ 30) (h : post (byA T i) S) : w_X7_byteAt (nI i) post S := by
  have h8 := ok.1
  unfold w_X7_byteAt
  rw [hT.1]
  unfold byA at h
  refine br_f (nI_pos (by omega)) (pk_le T.1 i (fun q => ?_) (fun q => s_valueAt (by show i < 80; omega) (by decide) ?_))
  · rw [if_neg (by omega)] at h; exact h
  · rw [if_pos q] at h; rw [hT.2 i q]; exact h
theorem x_digitOn {S : St} {T : TT} {i g : Nat} {post : Int32 → St → Prop} (hT : XT S T) (ok : okTT T) (hi : i < 2 ^ 30) (f : dgv T i < 99 → post (nI (dgv T i)) S) (n : dgv T i = 99 → post (-1) S) : w_X7_digitOn (nI i) post S := by
  unfold w_X7_digitOn
  refine x_byteAt hT ok hi ?_
  unfold byA
  unfold dgv at f n
  by_cases q : i < T.1
  · have hb := ok.2 i q
    rw [if_pos q]
    rw [if_pos q] at f n
    refine s_within (lo := 48) (hi := 57) (fun a1 a2 => br_f (by decide) ?_) (fun a => br_t rfl ?_)
    · rw [if_pos ⟨a1, a2⟩] at f
      rw [show nI (T.2 i) - 48 = nI (T.2 i - 48) from pk_sub (b := 48) a1]
      exact f (by omega)
    · rw [if_neg (by omega)] at f n
      refine s_within (lo := 97) (hi := 102) (fun a1 a2 => br_f (by decide) ?_) (fun a => br_t rfl ?_)
      · rw [if_pos ⟨a1, a2⟩] at f
        rw [show nI (T.2 i) - 97 = nI (T.2 i - 97) from pk_sub (b := 97) a1, show (10 : Int32) = nI 10 from rfl, nI_add]
        exact f (by omega)
      · rw [if_neg (by omega)] at n
        exact n rfl
  · rw [if_neg q]
    rw [if_neg q] at n
    refine s_isWithin (fun a1 _ => absurd a1 (by decide)) (fun _ => br_t rfl (s_isWithin (fun a1 _ => absurd a1 (by decide)) (fun _ => br_t rfl (n rfl))))
theorem sL_s (S : St) (k i : Nat) (v : Int64) : (sL S k i v).2 k i = v := by simp [sL_2]
abbrev sc7 (j : Nat) : Prop := j = 27
theorem x_takeDigits {S : St} {T : TT} {i g x : Nat} {post : Int32 → St → Prop} (hT : TpX S T i) (ok : okTT T) (hg : 2 ≤ g) (hg2 : g < 17) (hi : i ≤ T.1) (hx : x < g ^ 4) (hn : S.2 27 3 = lN x) (h : ∀ S' : St, TpX S' T (i + (tkd T g 4 i 0 x).1) → S'.2 27 3 = lN (tkd T g 4 i 0 x).2 → Fx sc7 S S' → post (nI (tkd T g 4 i 0 x).1) S') : w_X7_takeDigits (nI g) post S := by
  have h8 := ok.1
  have hp : g ^ 4 ≤ 17 ^ 4 := Nat.pow_le_pow_left (by omega) 4
  unfold w_X7_takeDigits
  have loop : ∀ n c x r (S1 : St), c + n = 4 → n < r → i + c ≤ T.1 → x < g ^ (4 + c) → TpX S1 T (i + c) → S1.2 27 3 = lN x → Fx sc7 S S1 → (∀ S' : St, TpX S' T (i + (tkd T g n (i + c) c x).1) → S'.2 27 3 = lN (tkd T g n (i + c) c x).2 → Fx sc7 S S' → post (nI (tkd T g n (i + c) c x).1) S') → w_X7_takeDigits_2 post r (nI g) (nI c) S1 := by
    intro n
    induction n with
    | zero =>
      intro c x r S1 h1 h2 h3 h4 h5 h6 h7 hh
      obtain ⟨r, rfl⟩ : ∃ j, r = j + 1 := ⟨r - 1, by omega⟩
      rw [w_X7_takeDigits_2]
      exact pk_le 4 c (fun _ => hh S1 h5 h6 h7) (fun y => by omega)
    | succ n ih =>
      intro c x r S1 h1 h2 h3 h4 h5 h6 h7 hh
      obtain ⟨r, rfl⟩ : ∃ j, r = j + 1 := ⟨r - 1, by omega⟩
      rw [w_X7_takeDigits_2]
      rw [tkd] at hh
      refine pk_le 4 c (fun y => by omega) (fun y => nm_r h5.2 ?_)
      have eg : nI g - 1 = nI (g - 1) := pk_sub (a := g) (b := 1) (by omega)
      refine x_digitOn (g := g) h5.1 ok (by omega) (fun d => nm_r eg ?_) (fun d => nm_r eg ?_)
      · refine s_within (lo := 0) (fun _ a2 => br_f (by decide) (nm_r h5.2 ?_)) (fun a => br_t rfl ?_)
        · have dl : dgv T (i + c) < g := by omega
          rw [if_pos dl] at hh
          have hin := dgv_in T (i + c) (by omega)
          have p8 : g ^ (4 + c) ≤ 17 ^ 8 := Nat.le_trans (Nat.pow_le_pow_left (by omega) _) (Nat.pow_le_pow_right (by omega) (by omega))
          have m1 : (x + 1) * g ≤ g ^ (4 + c) * g := Nat.mul_le_mul_right g h4
          rw [Nat.succ_mul] at m1
          refine x_digitOn (g := g) h5.1 ok (by omega) (fun _ => ?_) (fun d2 => by omega)
          refine nm_r (e' := lN (x * g + dgv T (i + c))) (by rw [h6, toL (by omega), toL (by omega), lN_mul, lN_add]) (nm_e (nm_r (e' := nI (i + (c + 1))) (by show S1.1 27 2 + 1 = _; rw [h5.2]; exact nI_1 (i + c)) (nm_e (nm_r (e' := nI (c + 1)) (nI_1 c) ?_))))
          refine ih (c + 1) (x * g + dgv T (i + c)) r _ (by omega) (by omega) (by omega) (by rw [show 4 + (c + 1) = 4 + c + 1 by omega, Nat.pow_succ]; omega) ⟨⟨?_, fun j hj => ?_⟩, sI_s _ _ _ _⟩ ?_ (Fx.I (Fx.L h7 rfl) rfl) hh
          · rw [sI_n _ _ _ _ _ (by decide)]; exact h5.1.1
          · rw [sI_x _ _ _ _ _ _ (by decide)]; exact h5.1.2 j hj
          · exact sL_s S1 27 3 _
        · rw [if_neg (by omega)] at hh
          exact hh S1 h5 h6 h7
      · refine s_isWithin (fun a1 _ => absurd a1 (by decide)) (fun _ => br_t rfl ?_)
        rw [if_neg (by omega)] at hh
        exact hh S1 h5 h6 h7
  exact ⟨5, loop 4 0 x 5 S (by omega) (by omega) (by omega) (by simpa using hx) hT hn Fx.rf h⟩
def isC (T : TT) (i c : Nat) : Prop := i < T.1 ∧ T.2 i = c
theorem x_takes {S : St} {T : TT} {i c : Nat} {post : Int32 → St → Prop} (hT : TpX S T i) (ok : okTT T) (hi : i < 2 ^ 30) (hc : c < 256) (f : isC T i c → ∀ S' : St, TpX S' T (i + 1) → S'.2 = S.2 → Fx sc7 S S' → post 1 S') (n : ¬ isC T i c → post 0 S) : w_X7_takes (nI c) post S := by
  unfold w_X7_takes
  refine nm_r hT.2 (x_byteAt hT.1 ok hi ?_)
  unfold byA
  by_cases q : i < T.1
  · have hb := ok.2 i q
    rw [if_pos q]
    refine pk_eq (T.2 i) c (fun z => nm_r (e' := nI (i + 1)) (by rw [hT.2]; exact nI_1 i) (nm_e (f ⟨q, z⟩ _ ⟨⟨?_, fun j hj => ?_⟩, sI_s _ _ _ _⟩ rfl (Fx.I Fx.rf rfl)))) (fun z => n (fun y => z y.2))
    · rw [sI_n _ _ _ _ _ (by decide)]; exact hT.1.1
    · rw [sI_x _ _ _ _ _ _ (by decide)]; exact hT.1.2 j hj
  · rw [if_neg q]
    exact br_f (fun e => nI_ne_m1 (n := c) (by omega) e.symm) (n (fun y => q y.1))
