/-! what the two objects hold, told by numbers -/
theorem wd_lt (a b : Int32) : Int32.toInt64 a < Int32.toInt64 b ↔ a < b := by
  rw [Int64.lt_iff_toInt_lt, Int32.lt_iff_toInt_lt, Int32.toInt_toInt64, Int32.toInt_toInt64]
theorem wd_le (a b : Int32) : Int32.toInt64 a ≤ Int32.toInt64 b ↔ a ≤ b := by
  rw [Int64.le_iff_toInt_le, Int32.le_iff_toInt_le, Int32.toInt_toInt64, Int32.toInt_toInt64]
abbrev TF : Type := Nat × (Nat → Nat) × (Nat → Nat) × (Nat → Nat)
abbrev TL : Type := Nat × Nat × (Nat → Nat)
abbrev TT : Type := Nat × (Nat → Nat)
abbrev TH : Type := Nat → Nat × Nat × Nat × Nat × Nat × (Nat → Int32)
abbrev TK : Type := Option (TF × TL)
def okTF (F : TF) : Prop := F.1 ≤ 8 ∧ ∀ k, k < F.1 → okF (F.2.1 k) (F.2.2.1 k) (F.2.2.2 k)
def okTL (L : TL) : Prop := L.1 ≤ 399 ∧ 2 ≤ L.2.1 ∧ L.2.1 < 17 ∧ ∀ i, i < L.1 → 2 ≤ L.2.2 i ∧ L.2.2 i ≤ 400
def okTT (T : TT) : Prop := T.1 ≤ 80 ∧ ∀ i, i < T.1 → T.2 i < 256
def okTH (H : TH) : Prop := ∀ h, h < 6 → (H h).1 ≤ 2 ∧ ((H h).1 = 1 → okF (H h).2.1 (H h).2.2.1 (H h).2.2.2.1) ∧ ((H h).1 = 2 → (H h).2.2.2.2.1 ≤ 40)
def okTK : TK → Prop
  | none => True
  | some q => okTF q.1 ∧ okTL q.2
def XF (S : St) (c : Nat) (F : TF) : Prop := S.1 c 1 = nI F.1 ∧ ∀ k, k < F.1 → FrX S (c + 1 + 1 + k) (F.2.1 k) (F.2.2.1 k) (F.2.2.2 k)
def XL (S : St) (c : Nat) (L : TL) : Prop := S.1 c 1 = nI L.1 ∧ S.1 c 2 = nI L.2.1 ∧ ∀ i, i < L.1 → S.1 (c + 1) i = nI (L.2.2 i)
def XT (S : St) (T : TT) : Prop := S.1 27 1 = nI T.1 ∧ ∀ i, i < T.1 → S.1 28 i = nI (T.2 i)
def XH (S : St) (H : TH) : Prop := ∀ h, h < 6 → S.1 (33 + 1 + 3 * h) 0 = nI (H h).1 ∧ ((H h).1 = 1 → FrX S (33 + 1 + 3 * h + 1) (H h).2.1 (H h).2.2.1 (H h).2.2.2.1) ∧ ((H h).1 = 2 → S.1 (33 + 1 + 3 * h) 3 = nI (H h).2.2.2.2.1 ∧ ∀ i, i < (H h).2.2.2.2.1 → S.1 (33 + 1 + 3 * h + 2) i = (H h).2.2.2.2.2 i)
def XK (S : St) : TK → Prop
  | none => S.1 0 8 = 0
  | some q => S.1 0 8 = 1 ∧ XF S 11 q.1 ∧ XL S 24 q.2
def MF (S : St) (F : TF) : Prop := S.1 0 0 = nI F.1 ∧ ∀ k, k < F.1 → S.1 1 k = nI (F.2.1 k) ∧ S.1 2 k = nI (F.2.2.1 k) ∧ S.1 3 k = nI (F.2.2.2 k)
def ML (S : St) (L : TL) : Prop := S.1 0 14 = nI L.1 ∧ S.1 0 15 = nI L.2.1 ∧ ∀ i, i < L.1 → S.1 9 i = nI (L.2.2 i)
def MT (S : St) (T : TT) : Prop := S.1 0 21 = nI T.1 ∧ ∀ i, i < T.1 → S.1 13 i = nI (T.2 i)
def MH (S : St) (H : TH) : Prop := ∀ h, h < 6 → S.1 15 h = nI (H h).1 ∧ ((H h).1 = 1 → S.1 16 h = nI (H h).2.1 ∧ S.1 17 h = nI (H h).2.2.1 ∧ S.1 18 h = nI (H h).2.2.2.1) ∧ ((H h).1 = 2 → S.1 19 h = nI (H h).2.2.2.2.1 ∧ ∀ i, i < (H h).2.2.2.2.1 → S.1 20 (40 * h + i) = (H h).2.2.2.2.2 i)
def MK (S : St) : TK → Prop
  | none => S.1 0 36 = 0
  | some q => S.1 0 36 = 1 ∧ S.1 0 37 = nI q.1.1 ∧ (∀ k, k < q.1.1 → S.1 21 k = nI (q.1.2.1 k) ∧ S.1 22 k = nI (q.1.2.2.1 k) ∧ S.1 23 k = nI (q.1.2.2.2 k)) ∧ S.1 0 41 = nI q.2.1 ∧ S.1 0 42 = nI q.2.2.1 ∧ ∀ i, i < q.2.1 → S.1 24 i = nI (q.2.2.2 i)
def cW : List Nat := [101, 110, 100, 115, 32, 112, 117, 114, 101, 32, 109, 105, 120, 101, 100, 32, 102, 117, 108, 108, 32, 101, 118, 101, 110, 32, 111, 100, 100, 32, 104, 97, 108, 102, 32, 112, 114, 105, 109, 101, 32]
def cC : List Nat := [110, 101, 119, 32, 100, 114, 111, 112, 32, 109, 117, 108, 32, 115, 117, 109, 32, 108, 111, 119, 32]
def cN : List Nat := [110, 111, 116, 32]
def MC (S : St) : Prop := (∀ i, i < 41 → S.1 10 i = nI (cW.getD i 0)) ∧ (∀ i, i < 21 → S.1 11 i = nI (cC.getD i 0)) ∧ ∀ i, i < 4 → S.1 12 i = nI (cN.getD i 0)
theorem XF.cp {S S' : St} {c : Nat} {F : TF} (h : XF S c F) (hF : F.1 ≤ 8) (e : ∀ j, c ≤ j → j < c + 10 → S'.1 j = S.1 j) : XF S' c F :=
  ⟨by rw [e c (by omega) (by omega)]; exact h.1, fun k hk => (h.2 k hk).cp (e _ (by omega) (by omega))⟩
theorem XL.cp {S S' : St} {c : Nat} {L : TL} (h : XL S c L) (e : S'.1 c = S.1 c) (e2 : S'.1 (c + 1) = S.1 (c + 1)) : XL S' c L := by
  unfold XL at h ⊢
  rw [e, e2]; exact h
theorem XT.cp {S S' : St} {T : TT} (h : XT S T) (e : S'.1 27 1 = S.1 27 1) (e2 : S'.1 28 = S.1 28) : XT S' T := by
  unfold XT at h ⊢
  rw [e, e2]; exact h
theorem XH.cp {S S' : St} {H : TH} (h : XH S H) (e : ∀ j, 34 ≤ j → j < 52 → S'.1 j = S.1 j) : XH S' H := fun i hi => by
  obtain ⟨h1, h2, h3⟩ := h i hi
  exact ⟨by rw [e _ (by omega) (by omega)]; exact h1, fun q => (h2 q).cp (e _ (by omega) (by omega)), fun q => by rw [e _ (by omega) (by omega), e _ (by omega) (by omega)]; exact h3 q⟩
theorem XK.cp {S S' : St} {K : TK} (ok : okTK K) (h : XK S K) (e : S'.1 0 8 = S.1 0 8) (e1 : ∀ j, 11 ≤ j → j < 21 → S'.1 j = S.1 j) (e2 : S'.1 24 = S.1 24) (e3 : S'.1 25 = S.1 25) : XK S' K := by
  cases K with
  | none => show S'.1 0 8 = 0; rw [e]; exact h
  | some q => exact ⟨by rw [e]; exact h.1, h.2.1.cp ok.1.1 (fun j a b => e1 j a (by omega)), h.2.2.cp e2 e3⟩
theorem MF.cp {S S' : St} {F : TF} (h : MF S F) (e : S'.1 0 0 = S.1 0 0) (e1 : S'.1 1 = S.1 1) (e2 : S'.1 2 = S.1 2) (e3 : S'.1 3 = S.1 3) : MF S' F := by
  unfold MF at h ⊢
  rw [e, e1, e2, e3]; exact h
theorem ML.cp {S S' : St} {L : TL} (h : ML S L) (e : S'.1 0 14 = S.1 0 14) (e1 : S'.1 0 15 = S.1 0 15) (e2 : S'.1 9 = S.1 9) : ML S' L := by
  unfold ML at h ⊢
  rw [e, e1, e2]; exact h
theorem MT.cp {S S' : St} {T : TT} (h : MT S T) (e : S'.1 0 21 = S.1 0 21) (e1 : S'.1 13 = S.1 13) : MT S' T := by
  unfold MT at h ⊢
  rw [e, e1]; exact h
theorem MH.cp {S S' : St} {H : TH} (h : MH S H) (e : ∀ j, 15 ≤ j → j < 21 → S'.1 j = S.1 j) : MH S' H := by
  unfold MH at h ⊢
  rw [e 15 (by omega) (by omega), e 16 (by omega) (by omega), e 17 (by omega) (by omega), e 18 (by omega) (by omega), e 19 (by omega) (by omega), e 20 (by omega) (by omega)]; exact h
theorem MK.cp {S S' : St} {K : TK} (h : MK S K) (e : ∀ i, (i = 36 ∨ i = 37 ∨ i = 41 ∨ i = 42) → S'.1 0 i = S.1 0 i) (e1 : ∀ j, 21 ≤ j → j < 25 → S'.1 j = S.1 j) : MK S' K := by
  cases K with
  | none => show S'.1 0 36 = 0; rw [e 36 (by omega)]; exact h
  | some q =>
    obtain ⟨h1, h2, h3, h4, h5, h6⟩ := h
    refine ⟨by rw [e 36 (by omega)]; exact h1, by rw [e 37 (by omega)]; exact h2, fun k hk => ?_, by rw [e 41 (by omega)]; exact h4, by rw [e 42 (by omega)]; exact h5, fun i hi => ?_⟩
    · rw [e1 21 (by omega) (by omega), e1 22 (by omega) (by omega), e1 23 (by omega) (by omega)]; exact h3 k hk
    · rw [e1 24 (by omega) (by omega)]; exact h6 i hi
theorem MC.cp {S S' : St} (h : MC S) (e : ∀ j, 10 ≤ j → j < 13 → S'.1 j = S.1 j) : MC S' := by
  unfold MC at h ⊢
  rw [e 10 (by omega) (by omega), e 11 (by omega) (by omega), e 12 (by omega) (by omega)]; exact h
/-! the two sides' first questions -/
theorem x_at {S : St} {c : Nat} {F : TF} {v : Int32} {post : Option Nat → St → Prop} (hX : XF S c F) (ok : F.1 ≤ 8) (f : ∀ k, k < F.1 → v = nI k → post (some (c + 1 + 1 + k)) S) (n : (∀ k, k < F.1 → v ≠ nI k) → post none S) : w_X6_at c v post S := by
  unfold w_X6_at
  rw [hX.1]
  rcases i_or v with h | ⟨k, hk, rfl⟩
  · exact br_t h (n (fun k hk e => by rw [e] at h; exact nI_pos (by omega) h))
  · refine br_f (nI_pos hk) (pk_le F.1 k (fun q => n (fun j hj e => by have := nI_inj e; omega)) (fun q => ?_))
    refine pk_le 8 k (fun q => by omega) (fun q2 => ⟨in_nI q2, ?_⟩)
    rw [nI_clamp hk]
    exact f k q rfl
theorem m_in {v lo hi : Int32} {l64 h64 : Int64} {post : Int32 → St → Prop} {S : St} (el : Int32.toInt64 lo = l64) (eh : Int32.toInt64 hi = h64) (f : lo ≤ v → v ≤ hi → post 1 S) (g : (v < lo ∨ hi < v) → post 0 S) : w_X9_isIn (Int32.toInt64 v) l64 h64 post S := by
  subst el eh
  unfold w_X9_isIn
  rw [wd_lt, wd_lt]
  exact ⟨fun h => g (Or.inl h), fun h => ⟨fun h2 => g (Or.inr h2), fun h2 => f (Int32.not_lt.mp h) (Int32.not_lt.mp h2)⟩⟩
theorem m_isFraction {S : St} {F : TF} {v : Int32} {post : Int32 → St → Prop} (hM : MF S F) (ok : F.1 ≤ 8) (f : ∀ k, k < F.1 → v = nI k → post 1 S) (n : (∀ k, k < F.1 → v ≠ nI k) → post 0 S) : w_X9_isFraction v post S := by
  unfold w_X9_isFraction
  rw [hM.1]
  refine nm_e (nm_e (m_in (lo := 0) (by decide) rfl (fun h1 h2 => ⟨bz_1, ?_⟩) (fun h => ⟨bz_0, ?_⟩)))
  · rcases i_or v with h | ⟨k, hk, rfl⟩
    · exact absurd h (Int32.not_lt.mpr h1)
    · refine f k ?_ rfl
      rw [Int32.le_iff_toInt_le, nI_toInt hk, show nI F.1 - 1 = nI F.1 - nI 1 from rfl, pk_sub_toInt (by omega) (by omega)] at h2
      omega
  · refine n (fun k hk e => ?_)
    subst e
    rcases h with h | h
    · exact nI_pos (by omega) h
    · rw [Int32.lt_iff_toInt_lt, nI_toInt (by omega), show nI F.1 - 1 = nI F.1 - nI 1 from rfl, pk_sub_toInt (by omega) (by omega)] at h
      omega
theorem s_isBase {v : Int32} {post : Int32 → St → Prop} {S : St} (f : ∀ g, 2 ≤ g → g < 17 → v = nI g → post 1 S) (n : (∀ g, 2 ≤ g → g < 17 → v ≠ nI g) → post 0 S) : w_X8_isBase v post S := by
  unfold w_X8_isBase
  refine s_isWithin (fun h1 h2 => ⟨bz_1, ?_⟩) (fun h => ⟨bz_0, n (fun g a b e => ?_)⟩)
  · obtain ⟨g, hg, rfl⟩ := nI_of2 (M := 16) (n := 16) (by decide) (fun z => by
      have : (2 : Int32) < 0 := Int32.lt_of_le_of_lt h1 z
      exact absurd this (by decide)) h2
    exact f g ((nI_leI (a := 2) (by omega) (by omega)).mp h1) (by omega) rfl
  · subst e
    rcases h with h | h
    · have := (nI_ltI (b := 2) (by omega) (by omega)).mp h; omega
    · have := (nI_ltI (a := 16) (by omega) (by omega)).mp h; omega
theorem m_isBase {v : Int32} {post : Int32 → St → Prop} {S : St} (f : ∀ g, 2 ≤ g → g < 17 → v = nI g → post 1 S) (n : (∀ g, 2 ≤ g → g < 17 → v ≠ nI g) → post 0 S) : w_X9_isBase v post S := by
  unfold w_X9_isBase
  refine nm_e (m_in (lo := 2) (hi := 16) (by decide) (by decide) (fun h1 h2 => ⟨bz_1, ?_⟩) (fun h => ⟨bz_0, n (fun g a b e => ?_)⟩))
  · obtain ⟨g, hg, rfl⟩ := nI_of2 (M := 16) (n := 16) (by decide) (fun z => by
      have : (2 : Int32) < 0 := Int32.lt_of_le_of_lt h1 z
      exact absurd this (by decide)) h2
    exact f g ((nI_leI (a := 2) (by omega) (by omega)).mp h1) (by omega) rfl
  · subst e
    rcases h with h | h
    · have := (nI_ltI (b := 2) (by omega) (by omega)).mp h; omega
    · have := (nI_ltI (a := 16) (by omega) (by omega)).mp h; omega
/-- an int between two numbers is such a number -/
theorem i_between {v lo hi : Int32} {l h : Nat} (el : lo = nI l) (eh : hi = nI h) (h1 : lo ≤ v) (h2 : v ≤ hi) (hl : l < 2 ^ 31 := by omega) (hh : h < 2 ^ 31 := by omega) : ∃ n, l ≤ n ∧ n ≤ h ∧ v = nI n := by
  subst el eh
  rcases i_or v with z | ⟨n, hn, rfl⟩
  · exact absurd (Int32.lt_of_le_of_lt h1 z) (nI_pos hl)
  · exact ⟨n, (nI_leI hl hn).mp h1, (nI_leI hn hh).mp h2, rfl⟩
theorem i_outside {v lo hi : Int32} {l h n : Nat} (el : lo = nI l) (eh : hi = nI h) (o : v < lo ∨ hi < v) (h1 : l ≤ n) (h2 : n ≤ h) (hh : h < 2 ^ 31 := by omega) : v ≠ nI n := by
  subst el eh
  intro e
  subst e
  rcases o with o | o
  · have := (nI_ltI (by omega) (by omega)).mp o; omega
  · have := (nI_ltI (by omega) (by omega)).mp o; omega
theorem m_looksAt {S : St} {F : TF} {k : Nat} {post : St → Prop} (hM : MF S F) (ok : okTF F) (hk : k < F.1) (h : ∀ S' : St, LkM S' (F.2.1 k) (F.2.2.1 k) (F.2.2.2 k) → Fm scD scD S S' → post S') : w_X9_looksAt (nI k) post S := by
  obtain ⟨e1, e2, e3⟩ := hM.2 k hk
  have h8 := ok.1
  have o := ok.2 k hk
  unfold w_X9_looksAt
  rw [nI_clamp (show k < 2 ^ 31 by omega), e1, e2, e3]
  refine ⟨in_nI (by omega), in_nI (by omega), in_nI (by omega), ?_⟩
  exact nm_r (e' := lN (F.2.1 k)) (toL (by have := o.1; omega)) (nm_e (nm_e (s_looks (by have := o.1; omega) o.2.1 o.2.2.1 o.2.2.2.1 o.2.2.2.2 h)))
theorem m_kindNow {S : St} {a b g : Nat} {post : Int32 → St → Prop} (hL : LkM S a b g) (h : post (nI (kdN b g a)) S) : w_X9_kindNow post S := by
  have h9 := hd_le b g a
  unfold w_X9_kindNow
  unfold kdN at h
  rw [hL.2.2.1, hL.1]
  by_cases q : rs b g a (hd b g a) = 0
  · rw [if_pos q] at h ⊢
    exact br_f (by decide) h
  · rw [if_neg q] at h ⊢
    refine br_t rfl (pk_eq (hd b g a) 0 (fun z => ?_) (fun z => ?_))
    · rw [if_pos z] at h; exact h
    · rw [if_neg z] at h; exact h
theorem m_placeOf {S : St} {a b g i : Nat} {post : Int32 → St → Prop} (hL : LkM S a b g) (hb : 0 < b) (hb2 : b < 1000) (hg : 2 ≤ g) (hg2 : g < 17) (hi : i < 2 ^ 30) (h : post (nI (plc b g a i)) S) : w_X9_placeOf (nI i) post S := by
  have h9 := hd_le b g a
  have hp := ln_pos b g a
  have hl := hd_ln_le hb hb2 hg hg2 a
  unfold w_X9_placeOf
  unfold plc at h
  rw [hL.1, hL.2.1]
  refine pk_le (hd b g a) i (fun q => ⟨nI_ne0 hp (by omega), ?_⟩) (fun q => ?_)
  · rw [if_neg (by omega)] at h
    rw [pk_sub q, jr_nI (by omega) hp (by omega), nI_add]
    exact h
  · rw [if_pos q] at h
    exact h
