/-! M's looks: rests and digits in rows -/
def Fm (D E : Nat → Prop) (S S' : St) : Prop := (∀ j, j ≠ 0 → ¬ D j → S'.1 j = S.1 j) ∧ ∀ i, ¬ E i → S'.1 0 i = S.1 0 i
theorem Fm.rf {D E : Nat → Prop} {S : St} : Fm D E S S := ⟨fun _ _ _ => rfl, fun _ _ => rfl⟩
theorem Fm.tr {D E : Nat → Prop} {S S1 S2 : St} (h : Fm D E S S1) (h2 : Fm D E S1 S2) : Fm D E S S2 := ⟨fun j a q => (h2.1 j a q).trans (h.1 j a q), fun i q => (h2.2 i q).trans (h.2 i q)⟩
theorem Fm.mo {D D' E E' : Nat → Prop} {S S' : St} (h : Fm D E S S') (hD : ∀ j, D j → D' j) (hE : ∀ i, E i → E' i) : Fm D' E' S S' := ⟨fun j a q => h.1 j a (fun z => q (hD j z)), fun i q => h.2 i (fun z => q (hE i z))⟩
/-- a row is written -/
theorem Fm.A {D E : Nat → Prop} {S S1 : St} {k i : Nat} {v : Int32} (h : Fm D E S S1) (hk : D k) (k0 : k ≠ 0) : Fm D E S (sI S1 k i v) :=
  ⟨fun j a q => ((sI_o S1 k i v j (fun e => q (e ▸ hk))).1).trans (h.1 j a q), fun j q => (sI_x S1 k i 0 j v (Ne.symm k0)).trans (h.2 j q)⟩
/-- a field is written -/
theorem Fm.F {D E : Nat → Prop} {S S1 : St} {i : Nat} {v : Int32} (h : Fm D E S S1) (hi : E i) : Fm D E S (sI S1 0 i v) :=
  ⟨fun j a q => ((sI_o S1 0 i v j a).1).trans (h.1 j a q), fun j q => (sI_n S1 0 i j v (fun e => q (e ▸ hi))).trans (h.2 j q)⟩
theorem Fm.L {D E : Nat → Prop} {S S1 : St} {k i : Nat} {v : Int64} (h : Fm D E S S1) : Fm D E S (sL S1 k i v) := h
theorem nI_ne_m1 {n : Nat} (h : n < 2 ^ 31) : ¬ nI n = -1 := fun e => by
  have h1 := nI_toInt h
  rw [e] at h1
  have h2 : ((-1 : Int32)).toInt = -1 := by decide
  omega
theorem in_nI {n N : Nat} (h : n < N) (hN : N < 2 ^ 31 := by omega) : vp_in (nI n) N := vp_in_nI h hN
def LkM (S : St) (a b g : Nat) : Prop := S.1 0 4 = nI (hd b g a) ∧ S.1 0 5 = nI (ln b g a) ∧ S.1 0 6 = (if rs b g a (hd b g a) = 0 then 1 else 0) ∧ ∀ i, i < hd b g a + ln b g a → S.1 5 i = nI (rs b g a i) ∧ S.1 6 i = nI (dg b g a i)
abbrev scD (j : Nat) : Prop := j = 4 ∨ j = 5 ∨ j = 6
theorem s_looks {S : St} {a b g : Nat} {post : St → Prop} (ha : a < 2 ^ 62) (hb : 0 < b) (hb2 : b < 1000) (hg : 2 ≤ g) (hg2 : g < 17) (h : ∀ S' : St, LkM S' a b g → Fm scD scD S S' → post S') : w_X9_looks (lN a) (nI b) (nI g) post S := by
  have hhl := hd_ln_le hb hb2 hg hg2 a
  have hp := ln_pos b g a
  have second : ∀ n i (T : St), i ≤ hd b g a + ln b g a → hd b g a + ln b g a < i + n → Fm scD scD S T → (∀ j, j < i → T.1 4 (rs b g a j) = nI j) → (∀ r, r < b → (∀ j, j < i → rs b g a j ≠ r) → T.1 4 r = -1) → (∀ j, j < i → T.1 5 j = nI (rs b g a j) ∧ T.1 6 j = nI (dg b g a j)) → w_X9_looks_33 post n (nI b) (nI g) (nI (rs b g a i)) (nI i) T := by
    intro n
    induction n with
    | zero => intro i T h1 h2; omega
    | succ n ih =>
      intro i T h1 h2 hf hs hn hr
      have hri := rs_lt hb g a i
      have hm : rs b g a i * g ≤ 1000 * 17 := mul_bd (by omega) (by omega)
      rw [w_X9_looks_33, nI_clamp (show rs b g a i < 2 ^ 31 by omega)]
      refine ⟨in_nI (by omega), ?_⟩
      rcases Nat.lt_or_ge i (hd b g a + ln b g a) with q | q
      · have e := hn _ hri (fun j hj => rs_inj hb hb2 hg hg2 a hj (by omega))
        rw [e, nI_clamp (show i < 2 ^ 31 by omega)]
        refine br_t rfl ⟨in_nI (by omega), nm_e ⟨in_nI (by omega), nm_e ⟨nI_ne0 hb (by omega), ?_⟩⟩⟩
        refine nm_r (e' := nI (dg b g a i)) (by rw [pk_mul, pk_div (by omega) hb (by omega)]; rfl) ⟨in_nI (by omega), nm_e ⟨nI_ne0 hb (by omega), ?_⟩⟩
        refine nm_r (e' := nI (rs b g a (i + 1))) (by rw [pk_mul, jr_nI (by omega) hb (by omega), rs_succ]) (nm_r (e' := nI (i + 1)) (nI_1 i) ?_)
        refine ih (i + 1) _ q (by omega) (Fm.A (Fm.A (Fm.A hf (Or.inl rfl) (by decide)) (Or.inr (Or.inl rfl)) (by decide)) (Or.inr (Or.inr rfl)) (by decide)) ?_ ?_ ?_
        · intro j hj
          rw [sI_x _ _ _ _ _ _ (by decide), sI_x _ _ _ _ _ _ (by decide)]
          rcases Nat.lt_or_ge j i with z | z
          · rw [sI_n _ _ _ _ _ (rs_inj hb hb2 hg hg2 a z (by omega))]
            exact hs j z
          · have : j = i := by omega
            subst this
            rw [sI_s]
        · intro r hr1 hr2
          rw [sI_x _ _ _ _ _ _ (by decide), sI_x _ _ _ _ _ _ (by decide), sI_n _ _ _ _ _ (Ne.symm (hr2 i (by omega)))]
          exact hn r hr1 (fun j hj => hr2 j (by omega))
        · intro j hj
          rcases Nat.lt_or_ge j i with z | z
          · rw [sI_x _ _ _ _ _ _ (by decide), sI_n _ 5 _ _ _ (by omega), sI_x _ _ _ _ _ _ (by decide), sI_n _ 6 _ _ _ (by omega), sI_x _ _ _ _ _ _ (by decide), sI_x _ _ _ _ _ _ (by decide)]
            exact hr j z
          · have : j = i := by omega
            subst this
            rw [sI_x _ _ _ _ _ _ (by decide), sI_s, sI_s]
            exact ⟨rfl, rfl⟩
      · have hi : i = hd b g a + ln b g a := by omega
        have er : rs b g a i = rs b g a (hd b g a) := by rw [hi]; exact ln_per hb hb2 hg hg2 a
        have e := hs (hd b g a) (by omega)
        rw [er, e]
        refine br_f (nI_ne_m1 (by omega)) ⟨in_nI (by have := rs_lt hb g a (hd b g a); omega), nm_e (nm_e ?_)⟩
        refine nm_r (e' := nI (ln b g a)) (by rw [sI_s, pk_sub (by omega)]; congr 1; omega) (nm_e (nm_r (e' := nI (hd b g a)) (by rw [sI_n _ _ _ _ _ (by decide), sI_s]) ⟨in_nI (by omega), ?_⟩))
        rw [nI_clamp (show hd b g a < 2 ^ 31 by omega), sI_x _ _ _ _ _ _ (by decide), sI_x _ _ _ _ _ _ (by decide), (hr (hd b g a) (by omega)).1]
        have fin : ∀ v : Int32, v = (if rs b g a (hd b g a) = 0 then 1 else 0) → post (sI (sI (sI T 0 4 (nI (hd b g a))) 0 5 (nI (ln b g a))) 0 6 v) := by
          intro v hv
          refine h _ ⟨?_, ?_, ?_, ?_⟩ (Fm.F (Fm.F (Fm.F hf (Or.inl rfl)) (Or.inr (Or.inl rfl))) (Or.inr (Or.inr rfl)))
          · rw [sI_n _ _ _ _ _ (by decide), sI_n _ _ _ _ _ (by decide), sI_s]
          · rw [sI_n _ _ _ _ _ (by decide), sI_s]
          · rw [sI_s, hv]
          · intro j hj
            rw [sI_x _ _ _ _ _ _ (by decide), sI_x _ _ _ _ _ _ (by decide), sI_x _ _ _ _ _ _ (by decide), sI_x _ _ _ _ _ _ (by decide), sI_x _ _ _ _ _ _ (by decide), sI_x _ _ _ _ _ _ (by decide)]
            exact hr j (by omega)
        have hr2 := rs_lt hb g a (hd b g a)
        refine pk_eq (rs b g a (hd b g a)) 0 (fun z => nm_e (fin 1 (by rw [if_pos z]))) (fun z => nm_e (fin 0 (by rw [if_neg z])))
  have first : ∀ n i (T : St), i ≤ b → b < i + n → Fm scD scD S T → (∀ r, r < i → T.1 4 r = -1) → w_X9_looks_3 post n (lN a) (nI b) (nI g) (nI i) T := by
    intro n
    induction n with
    | zero => intro i T h1 h2; omega
    | succ n ih =>
      intro i T h1 h2 hf hs
      rw [w_X9_looks_3]
      refine pk_le b i (fun q => ?_) (fun q => ?_)
      · rw [toL (show b < 2 ^ 31 by omega)]
        refine ⟨lN_ne0 hb (by omega), nm_r (e' := nI (rs b g a 0)) (by rw [jrl_lN (by omega) hb (by omega), toI, rs_zero]) ?_⟩
        exact ⟨hd b g a + ln b g a + 1, second _ 0 T (Nat.zero_le _) (by omega) hf (fun j hj => by omega) (fun r hr _ => hs r (by omega)) (fun j hj => by omega)⟩
      · rw [nI_clamp (show i < 2 ^ 31 by omega)]
        refine ⟨in_nI (by omega), nm_e (nm_r (e' := nI (i + 1)) (nI_1 i) (ih (i + 1) _ q (by omega) (Fm.A hf (Or.inl rfl) (by decide)) (fun r hr => ?_)))⟩
        rcases Nat.lt_or_ge r i with z | z
        · rw [sI_n _ _ _ _ _ (by omega)]; exact hs r z
        · have : r = i := by omega
          subst this
          rw [sI_s]
  unfold w_X9_looks
  exact ⟨b + 1, first _ 0 S (Nat.zero_le _) (by omega) Fm.rf (fun r hr => by omega)⟩
