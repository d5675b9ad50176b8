/-! numerals: the model -/
def TpM (S : St) (T : TT) (i : Nat) : Prop := S.1 0 22 = nI T.1 ∧ (∀ j, j < T.1 → S.1 13 j = nI (T.2 j)) ∧ S.1 0 23 = nI i
abbrev sc0 (_ : Nat) : Prop := False
abbrev scRe (i : Nat) : Prop := i = 23 ∨ i = 26
theorem m_isAt {S : St} {T : TT} {i lo hi : Nat} {post : Int32 → St → Prop} (hT : TpM S T i) (ok : okTT T) (hi2 : i < 2 ^ 30) (hlo : lo < 2 ^ 30) (hhi : hi < 2 ^ 30) (f : i < T.1 ∧ lo ≤ T.2 i ∧ T.2 i ≤ hi → post 1 S) (n : ¬ (i < T.1 ∧ lo ≤ T.2 i ∧ T.2 i ≤ hi) → post 0 S) : w_X9_isAt (nI lo) (nI hi) post S := by
  have h8 := ok.1
  unfold w_X9_isAt
  rw [hT.1, hT.2.2]
  refine pk_le T.1 i (fun q => n (fun z => by omega)) (fun q => nm_e ⟨in_nI (by omega), ?_⟩)
  rw [nI_clamp (by omega), hT.2.1 i q]
  have hb := ok.2 i q
  refine nm_e (nm_e (nm_e (m_in rfl rfl (fun a1 a2 => br_f (by decide) ?_) (fun a => br_t rfl ?_))))
  · exact f ⟨q, (nI_leI (by omega) (by omega)).mp a1, (nI_leI (by omega) (by omega)).mp a2⟩
  · refine n (fun z => ?_)
    rcases a with a | a
    · have := (nI_ltI (by omega) (by omega)).mp a; omega
    · have := (nI_ltI (by omega) (by omega)).mp a; omega
theorem m_isC {S : St} {T : TT} {i c : Nat} {post : Int32 → St → Prop} (hT : TpM S T i) (ok : okTT T) (hi2 : i < 2 ^ 30) (hc : c < 256) (f : isC T i c → post 1 S) (n : ¬ isC T i c → post 0 S) : w_X9_isAt (nI c) (nI c) post S :=
  m_isAt hT ok hi2 (by omega) (by omega) (fun z => f ⟨z.1, by omega⟩) (fun z => n (fun y => z ⟨y.1, by have := y.2; omega, by have := y.2; omega⟩))
theorem m_digitAt {S : St} {T : TT} {i : Nat} {post : Int32 → St → Prop} (hT : TpM S T i) (ok : okTT T) (hi : i < 2 ^ 30) (h : post (nI (dgv T i)) S) : w_X9_digitAt post S := by
  have h8 := ok.1
  unfold dgv at h
  unfold w_X9_digitAt
  refine m_isAt (lo := 48) (hi := 57) hT ok hi (by omega) (by omega) (fun z => br_f (by decide) (nm_r hT.2.2 ⟨in_nI (by omega), ?_⟩)) (fun z => br_t rfl ?_)
  · rw [if_pos z.1, if_pos z.2] at h
    rw [nI_clamp (by omega), hT.2.1 i z.1, show nI (T.2 i) - 48 = nI (T.2 i - 48) from pk_sub (b := 48) z.2.1]
    exact h
  · refine m_isAt (lo := 97) (hi := 102) hT ok hi (by omega) (by omega) (fun y => br_f (by decide) (nm_r hT.2.2 ⟨in_nI (by omega), ?_⟩)) (fun y => br_t rfl ?_)
    · rw [if_pos y.1, if_neg (by omega), if_pos y.2] at h
      rw [nI_clamp (by omega), hT.2.1 i y.1, show nI (T.2 i) - 97 = nI (T.2 i - 97) from pk_sub (b := 97) y.2.1, show (10 : Int32) = nI 10 from rfl, nI_add]
      exact h
    · by_cases q : i < T.1
      · rw [if_pos q, if_neg (by omega), if_neg (by omega)] at h; exact h
      · rw [if_neg q] at h; exact h
theorem dgv_le (T : TT) (i : Nat) : dgv T i ≤ 99 := by
  unfold dgv
  by_cases q : i < T.1
  · rw [if_pos q]
    by_cases z : 48 ≤ T.2 i ∧ T.2 i ≤ 57
    · rw [if_pos z]; omega
    · rw [if_neg z]
      by_cases y : 97 ≤ T.2 i ∧ T.2 i ≤ 102
      · rw [if_pos y]; omega
      · rw [if_neg y]; omega
  · rw [if_neg q]; omega
theorem m_readsDigits {S : St} {T : TT} {i g : Nat} {post : St → Prop} (hT : TpM S T i) (ok : okTT T) (hg : 2 ≤ g) (hg2 : g < 17) (hi : i ≤ T.1) (h : ∀ S' : St, TpM S' T (i + (tkd T g 4 i 0 0).1) → S'.1 0 26 = nI (tkd T g 4 i 0 0).1 → S'.2 0 24 = lN (tkd T g 4 i 0 0).2 → S'.2 0 25 = lN (g ^ (tkd T g 4 i 0 0).1) → S'.2 0 27 = S.2 0 27 → S'.2 0 28 = S.2 0 28 → Fm sc0 scRe S S' → post S') : w_X9_readsDigits (nI g) post S := by
  have h8 := ok.1
  unfold w_X9_readsDigits
  have loop : ∀ n c x r (S1 : St), c + n = 4 → n < r → i + c ≤ T.1 → TpM S1 T (i + c) → S1.1 0 26 = nI c → S1.2 0 24 = lN x → S1.2 0 25 = lN (g ^ c) → S1.2 0 27 = S.2 0 27 → S1.2 0 28 = S.2 0 28 → Fm sc0 scRe S S1 → tkd T g n (i + c) c x = tkd T g 4 i 0 0 → w_X9_readsDigits_15 post r (nI g) S1 := by
    intro n
    induction n with
    | zero =>
      intro c x r S1 h1 h2 h3 t1 t2 t3 t4 t5 t6 hx he
      obtain ⟨r, rfl⟩ : ∃ j, r = j + 1 := ⟨r - 1, by omega⟩
      rw [tkd] at he
      rw [← he] at h
      rw [w_X9_readsDigits_15, t2]
      exact pk_le 4 c (fun _ => h S1 t1 t2 t3 t4 t5 t6 hx) (fun y => by omega)
    | succ n ih =>
      intro c x r S1 h1 h2 h3 t1 t2 t3 t4 t5 t6 hx he
      obtain ⟨r, rfl⟩ : ∃ j, r = j + 1 := ⟨r - 1, by omega⟩
      have hd := dgv_le T (i + c)
      rw [tkd] at he
      rw [w_X9_readsDigits_15, t2]
      refine pk_le 4 c (fun y => by omega) (fun y => m_digitAt t1 ok (by omega) (pk_le g (dgv T (i + c)) (fun q => ?_) (fun q => ?_)))
      · rw [if_neg (by omega)] at he
        rw [← he] at h
        exact h S1 t1 t2 t3 t4 t5 t6 hx
      · rw [if_pos q] at he
        have hin := dgv_in T (i + c) (by omega)
        refine m_digitAt t1 ok (by omega) ?_
        refine nm_r (e' := lN (x * g + dgv T (i + c))) (by rw [t3, toL (by omega), toL (by omega), lN_mul, lN_add]) (nm_e (nm_r (e' := lN (g ^ (c + 1))) (by simp only [sL_2]; rw [if_neg (by decide), t4, toL (by omega), lN_mul, Nat.pow_succ]) (nm_e (nm_r (e' := nI (c + 1)) (by show S1.1 0 26 + 1 = _; rw [t2]; exact nI_1 c) (nm_e (nm_r (e' := nI (i + (c + 1))) (by rw [sI_n _ _ _ _ _ (by decide)]; show S1.1 0 23 + 1 = _; rw [t1.2.2]; exact nI_1 (i + c)) (nm_e ?_)))))))
        refine ih (c + 1) (x * g + dgv T (i + c)) r _ (by omega) (by omega) (by omega) ⟨?_, fun j hj => ?_, sI_s _ _ _ _⟩ ?_ ?_ ?_ ?_ ?_ (Fm.F (Fm.F (Fm.L (Fm.L hx)) (Or.inr rfl)) (Or.inl rfl)) he
        · rw [sI_n _ _ _ _ _ (by decide), sI_n _ _ _ _ _ (by decide)]; exact t1.1
        · rw [sI_x _ _ _ _ _ _ (by decide), sI_x _ _ _ _ _ _ (by decide)]; exact t1.2.1 j hj
        · rw [sI_n _ _ _ _ _ (by decide), sI_s]
        · simp [sL_2, sI_2]
        · simp [sL_2, sI_2]
        · simp [sL_2, sI_2]; exact t5
        · simp [sL_2, sI_2]; exact t6
  refine nm_e (nm_e (nm_e ⟨5, loop 4 0 0 5 _ (by omega) (by omega) (by omega) ⟨?_, fun j hj => ?_, ?_⟩ (sI_s _ _ _ _) ?_ ?_ ?_ ?_ (Fm.F (Fm.L (Fm.L Fm.rf)) (Or.inr rfl)) rfl⟩))
  · rw [sI_n _ _ _ _ _ (by decide)]; exact hT.1
  · rw [sI_x _ _ _ _ _ _ (by decide)]; exact hT.2.1 j hj
  · rw [sI_n _ _ _ _ _ (by decide)]; exact hT.2.2
  · simp [sL_2, sI_2]; rfl
  · simp [sL_2, sI_2]; rfl
  · simp [sL_2, sI_2]
  · simp [sL_2, sI_2]
def MG (S : St) (post : Int32 → St → Prop) (r : Nat ⊕ (Nat × Nat)) : Prop := ∀ S' : St, Fm sc0 scRe S S' → (∀ p, r = .inl p → p < 1000 → S'.1 0 23 = nI p → post 0 S') ∧ ∀ a b, r = .inr (a, b) → S'.2 0 27 = lN a → S'.2 0 28 = lN b → post 1 S'
theorem m_end {S0 S : St} {T : TT} {i a b : Nat} {post : Int32 → St → Prop} (hT : TpM S T i) (ok : okTT T) (hi : i ≤ T.1) (e0 : S.2 0 27 = lN a) (e1 : S.2 0 28 = lN b) (hx : Fm sc0 scRe S0 S) (h : MG S0 post (rdE T i a b)) : (((S.1 0 23) = (S.1 0 22) → (post 1 S)) ∧ (¬ (S.1 0 23) = (S.1 0 22) → (post 0 S))) := by
  have h8 := ok.1
  obtain ⟨h1, h2⟩ := h S hx
  unfold rdE at h1 h2
  rw [hT.2.2, hT.1]
  refine pk_eq i T.1 (fun q => ?_) (fun q => ?_)
  · exact h2 a b (by rw [if_pos q]) e0 e1
  · exact h1 i (by rw [if_neg q]) (by omega) hT.2.2
