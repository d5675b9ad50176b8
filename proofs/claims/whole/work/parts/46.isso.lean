/-! what a number is -/
def prm (x : Nat) : Nat → Nat → Bool
  | 0, _ => true
  | n + 1, d => if x < d * d then true else if x % d = 0 then false else prm x n (d + 1)
theorem x_isPrime {S : St} {x : Nat} {post : Int32 → St → Prop} (h2 : 2 ≤ x) (hx : x ≤ 400) (f : prm x 20 2 = true → post 1 S) (g : prm x 20 2 = false → post 0 S) : w_X8_isPrime (nI x) post S := by
  unfold w_X8_isPrime
  refine ⟨21, ?_⟩
  have loop : ∀ n d r, d + n = 22 → 2 ≤ d → n < r → prm x n d = prm x 20 2 → w_X8_isPrime_2 post r (nI x) (nI d) S := by
    intro n
    induction n with
    | zero =>
      intro d r h1 h3 h4 he
      obtain ⟨r, rfl⟩ : ∃ j, r = j + 1 := ⟨r - 1, by omega⟩
      have : d = 22 := by omega
      subst this
      rw [prm] at he
      rw [w_X8_isPrime_2, pk_mul]
      exact pk_lt x (22 * 22) (fun _ => pk_le x 1 (fun q => by omega) (fun _ => f he.symm)) (fun q => by omega)
    | succ n ih =>
      intro d r h1 h3 h4 he
      obtain ⟨r, rfl⟩ : ∃ j, r = j + 1 := ⟨r - 1, by omega⟩
      have hd : d * d ≤ 22 * 22 := mul_bd (by omega) (by omega)
      rw [w_X8_isPrime_2, pk_mul]
      rw [prm] at he
      refine pk_lt x (d * d) (fun q => pk_le x 1 (fun q => by omega) (fun _ => ?_)) (fun q => s_remainder (by omega) ?_)
      · rw [if_pos q] at he; exact f he.symm
      · rw [if_neg (by omega)] at he
        have hm := Nat.mod_lt x (show 0 < d by omega)
        refine pk_eq (x % d) 0 (fun z => ?_) (fun z => ?_)
        · rw [if_pos z] at he; exact g he.symm
        · rw [if_neg z] at he
          exact nm_r (e' := nI (d + 1)) (nI_1 d) (ih (d + 1) r (by omega) (by omega) (by omega) he)
  exact loop 20 2 21 rfl (by omega) (by omega) rfl
theorem m_isPrime {S : St} {x : Nat} {post : Int32 → St → Prop} (hx : x ≤ 400) (f : prm x 20 2 = true → post 1 S) (g : prm x 20 2 = false → post 0 S) : w_X9_isPrime (nI x) post S := by
  unfold w_X9_isPrime
  refine ⟨21, ?_⟩
  have loop : ∀ n d r, d + n = 22 → 2 ≤ d → n < r → prm x n d = prm x 20 2 → w_X9_isPrime_2 post r (nI x) (nI d) S := by
    intro n
    induction n with
    | zero =>
      intro d r h1 h3 h4 he
      obtain ⟨r, rfl⟩ : ∃ j, r = j + 1 := ⟨r - 1, by omega⟩
      have : d = 22 := by omega
      subst this
      rw [prm] at he
      rw [w_X9_isPrime_2, pk_mul]
      exact pk_lt x (22 * 22) (fun _ => f he.symm) (fun q => by omega)
    | succ n ih =>
      intro d r h1 h3 h4 he
      obtain ⟨r, rfl⟩ : ∃ j, r = j + 1 := ⟨r - 1, by omega⟩
      have hd : d * d ≤ 22 * 22 := mul_bd (by omega) (by omega)
      rw [w_X9_isPrime_2, pk_mul]
      rw [prm] at he
      refine pk_lt x (d * d) (fun q => ?_) (fun q => ⟨nI_ne0 (by omega) (by omega), ?_⟩)
      · rw [if_pos q] at he; exact f he.symm
      · rw [if_neg (by omega)] at he
        rw [jr_nI (by omega) (by omega) (by omega)]
        have hm := Nat.mod_lt x (show 0 < d by omega)
        refine pk_eq (x % d) 0 (fun z => ?_) (fun z => ?_)
        · rw [if_pos z] at he; exact g he.symm
        · rw [if_neg z] at he
          exact nm_r (e' := nI (d + 1)) (nI_1 d) (ih (d + 1) r (by omega) (by omega) (by omega) he)
  exact loop 20 2 21 rfl (by omega) (by omega) rfl
def soP (g k x : Nat) : Prop := if k = 0 then rs x g 1 (hd x g 1) = 0 else if k = 1 then kdN x g 1 = 1 else if k = 2 then kdN x g 1 = 2 else if k = 3 then isFullN x g 1 else if k = 4 then (rs x g 1 (hd x g 1) ≠ 0 ∧ ln x g 1 % 2 = 0) else if k = 5 then (rs x g 1 (hd x g 1) ≠ 0 ∧ ln x g 1 % 2 ≠ 0) else if k = 6 then (rs x g 1 (hd x g 1) ≠ 0 ∧ ln x g 1 % 2 = 0 ∧ ninesV x g 1 (ln x g 1 / 2) = 1) else prm x 20 2 = true
theorem m_isSo {S : St} {g k x : Nat} {post : Int32 → St → Prop} (e0 : S.1 0 15 = nI g) (hg : 2 ≤ g) (hg2 : g < 17) (hk : k < 8) (h2 : 2 ≤ x) (hx : x ≤ 400) (f : soP g k x → ∀ S' : St, Fm scB scE S S' → post 1 S') (n : ¬ soP g k x → ∀ S' : St, Fm scB scE S S' → post 0 S') : w_X9_isSo (nI k) (nI x) post S := by
  unfold w_X9_isSo
  rw [e0]
  refine nm_e (s_looks (a := 1) (by omega) (by omega) (by omega) hg hg2 (fun T hL hx1 => ?_))
  have hxB : Fm scB scE S T := hx1.mo (fun j e => by show j = 4 ∨ j = 5 ∨ j = 6 ∨ j = 7; unfold scD at e; omega) (fun i e => by show i = 4 ∨ i = 5 ∨ i = 6 ∨ i = 11; unfold scD at e; omega)
  have hll := hd_ln_le (show 0 < x by omega) (by omega) hg hg2 1
  have hp := ln_pos x g 1
  have hkd := kdN_le x g 1
  have e5 : T.1 0 15 = nI g := by rw [hx1.2 15 (by unfold scD; omega)]; exact e0
  unfold soP at f n
  have jr2 : jr (nI (ln x g 1)) 2 = nI (ln x g 1 % 2) := jr_nI (d := 2) (by omega) (by omega) (by omega)
  have hm2 := Nat.mod_lt (ln x g 1) (show 0 < 2 by omega)
  rw [hL.2.2.1, hL.2.1, jr2]
  refine pk_eq k 0 (fun q => ?_) (fun q => ?_)
  · rw [if_pos q] at f n
    by_cases z : rs x g 1 (hd x g 1) = 0
    · rw [if_pos z]; exact ⟨bz_1, f z T hxB⟩
    · rw [if_neg z]; exact ⟨bz_0, n z T hxB⟩
  rw [if_neg q] at f n
  refine pk_eq k 1 (fun q => m_kindNow hL ?_) (fun q => ?_)
  · rw [if_pos q] at f n
    exact pk_eq (kdN x g 1) 1 (fun z => f z T hxB) (fun z => n z T hxB)
  rw [if_neg q] at f n
  refine pk_eq k 2 (fun q => m_kindNow hL ?_) (fun q => ?_)
  · rw [if_pos q] at f n
    exact pk_eq (kdN x g 1) 2 (fun z => f z T hxB) (fun z => n z T hxB)
  rw [if_neg q] at f n
  refine pk_eq k 3 (fun q => ?_) (fun q => ?_)
  · rw [if_pos q] at f n
    rw [show nI x - 1 = nI (x - 1) from pk_sub (a := x) (b := 1) (by omega)]
    by_cases z : rs x g 1 (hd x g 1) = 0
    · rw [if_pos z]; exact br_f (by decide) (n (fun y => y.1 z) T hxB)
    · rw [if_neg z]
      exact br_t rfl (pk_eq (ln x g 1) (x - 1) (fun y => f ⟨z, by omega⟩ T hxB) (fun y => n (fun w => y (by have := w.2; omega)) T hxB))
  rw [if_neg q] at f n
  refine pk_eq k 4 (fun q => ?_) (fun q => ?_)
  · rw [if_pos q] at f n
    by_cases z : rs x g 1 (hd x g 1) = 0
    · rw [if_pos z]; exact br_f (by decide) (n (fun y => y.1 z) T hxB)
    · rw [if_neg z]
      exact br_t rfl (pk_eq (ln x g 1 % 2) 0 (fun y => f ⟨z, y⟩ T hxB) (fun y => n (fun w => y w.2) T hxB))
  rw [if_neg q] at f n
  refine pk_eq k 5 (fun q => ?_) (fun q => ?_)
  · rw [if_pos q] at f n
    by_cases z : rs x g 1 (hd x g 1) = 0
    · rw [if_pos z]; exact br_f (by decide) (n (fun y => y.1 z) T hxB)
    · rw [if_neg z]
      exact br_t rfl (pk_eq (ln x g 1 % 2) 1 (fun y => f ⟨z, by omega⟩ T hxB) (fun y => n (fun w => y (by have := w.2; omega)) T hxB))
  rw [if_neg q] at f n
  refine pk_eq k 6 (fun q => ?_) (fun q => ?_)
  · rw [if_pos q] at f n
    by_cases z : rs x g 1 (hd x g 1) = 0
    · rw [if_pos z]; exact br_f (by decide) (n (fun y => y.1 z) T hxB)
    · rw [if_neg z]
      refine br_t rfl (pk_eq (ln x g 1 % 2) 0 (fun y => nm_r e5 ?_) (fun y => n (fun w => y w.2.1) T hxB))
      have hw : ln x g 1 / 2 * 2 = ln x g 1 := Nat.div_mul_cancel (Nat.dvd_of_mod_eq_zero y)
      refine m_ninesNow (k := 2) (w := ln x g 1 / 2) hL (by omega) (by omega) hg hg2 (by omega) hw (by omega) (fun T2 _ hx2 => ?_)
      have hx3 : Fm scB scE S T2 := hxB.tr (hx2.mo (fun j e => by show j = 4 ∨ j = 5 ∨ j = 6 ∨ j = 7; omega) (fun i e => by show i = 4 ∨ i = 5 ∨ i = 6 ∨ i = 11; omega))
      exact ⟨fun w => f ⟨z, y, w⟩ T2 hx3, fun w => n (fun v => w v.2.2) T2 hx3⟩
  · rw [if_neg q] at f n
    refine m_isPrime hx (fun z => ⟨bz_1, f z T hxB⟩) (fun z => ⟨bz_0, n (fun y => by rw [z] at y; cases y) T hxB⟩)
