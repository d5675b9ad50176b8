/-! run: what X does -/
theorem x_doCommand {S : St} {F : TF} {n w : Nat} {f : Nat → Nat} {post : Int32 → St → Prop} (hX : XF S 1 F) (ok : okTF F) (hn : n < 14) (hw : w < 5) (e31 : S.1 31 n = nI w) (e32 : ∀ k, k < nOf w → S.1 32 (n * 3 + k) = nI (f k)) (h : ∀ S' : St, XF S' 1 (q_cmd F w f).2 → Fx D1 S S' → post (q_cmd F w f).1 S') : w_X8_doCommand (nI n) post S := by
  have num : ∀ (k : Nat) (p : Int32 → St → Prop), k < 3 → p (S.1 32 (n * 3 + k)) S → w_X5_number (nI n) (nI k) p S := fun k p hk hp => by
    unfold w_X5_number
    exact nm_r (e' := nI (n * 3 + k)) (by rw [show (3 : Int32) = nI 3 from rfl, pk_mul, nI_add]) (s_valueAt (by show n * 3 + k < 42; omega) (by decide) hp)
  unfold w_X8_doCommand
  refine num 0 _ (by omega) (num 1 _ (by omega) ?_)
  unfold w_X5_word
  refine s_valueAt (by show n < 14; omega) (by decide) ?_
  rw [e31]
  unfold q_cmd at h
  refine pk_eq w 0 (fun q => ?_) (fun q => ?_)
  · subst q
    rw [if_pos rfl] at h
    refine num 2 _ (by omega) ?_
    rw [e32 0 (by decide), e32 1 (by decide), e32 2 (by decide)]
    exact x_fraction hX ok h
  rw [if_neg q] at h
  refine pk_eq w 1 (fun q => ?_) (fun q => ?_)
  · subst q
    rw [if_pos rfl] at h
    rw [e32 0 (by decide)]
    exact x_drop hX ok h
  rw [if_neg q] at h
  refine pk_eq w 2 (fun q => ?_) (fun q => ?_)
  · subst q
    rw [if_pos rfl] at h
    rw [e32 0 (by decide), e32 1 (by decide)]
    exact x_multiply hX ok h
  rw [if_neg q] at h
  refine pk_eq w 3 (fun q => ?_) (fun q => ?_)
  · subst q
    rw [if_pos rfl] at h
    rw [e32 0 (by decide), e32 1 (by decide)]
    exact x_sum hX ok h
  rw [if_neg q] at h
  refine pk_eq w 4 (fun q => ?_) (fun q => ?_)
  · subst q
    rw [e32 0 (by decide)]
    exact x_lowest hX ok h
  · omega
abbrev scRu (j : Nat) : Prop := (1 ≤ j ∧ j < 11) ∨ j = 27 ∨ j = 28 ∨ j = 30 ∨ j = 31 ∨ j = 32
theorem x_run {S : St} {F : TF} {T : TT} {post : Int32 → St → Prop} (hX : XF S 1 F) (ok : okTF F) (hT : XT S T) (okt : okTT T) (h : ∀ S' : St, XF S' 1 (q_run F T).2.1 → XT S' (q_run F T).2.2 → Fx scRu S S' → post (q_run F T).1 S') : w_X8_run post S := by
  have h8 := okt.1
  have hin := psc_in T 14 0 (Nat.zero_le _)
  unfold w_X8_run
  unfold q_run at h
  refine x_script hT okt (fun S1 hx1 hT1 => ⟨fun p e hp => ?_, fun l e hP => ?_⟩)
  · rw [e] at h
    refine x_clear (T := T) (fun S2 hT2 hx2 => br_f (fun z => nI_ne_m1 (by omega) z) (h S2 ?_ hT2 ?_))
    · exact hX.cp ok.1 (fun j j1 j2 => by rw [(hx2 j (by unfold scT; omega)).1, (hx1 j (by unfold scC; omega)).1])
    · exact (hx1.mo (fun j e => by show _ ∨ _; unfold scC at e; omega)).tr (hx2.mo (fun j e => by show _ ∨ _; unfold scT at e; omega))
  · rw [e] at h
    obtain ⟨l1, l2⟩ := hin.2 l e
    have loop : ∀ (r : List (Nat × (Nat → Nat))) (d n : Nat) (G : TF) (S3 : St), okTF G → XF S3 1 G → PrX S3 l → XT S3 (0, T.2) → Fx scRu S S3 → d + r.length = l.length → r.length < n → l.drop d = r → doL r G d = doL l F 0 → w_X8_run_32 post n (nI d) S3 := by
      intro r
      induction r with
      | nil =>
        intro d n G S3 okG hG hPl hT3 hx3 h1 h2 h3 h4
        obtain ⟨n, rfl⟩ : ∃ j, n = j + 1 := ⟨n - 1, by simp only [List.length_nil] at h2; omega⟩
        simp only [List.length_nil] at h1
        rw [w_X8_run_32, hPl.1]
        rw [doL] at h4
        refine pk_le l.length d (fun _ => ?_) (fun y => by omega)
        have e1 : (rnR F (.inr l)).1 = nI l.length := by show (doL l F 0).1 = _; rw [← h4]; show nI d = _; rw [show d = l.length by omega]
        have e2 : (rnR F (.inr l)).2 = G := by show (doL l F 0).2 = _; rw [← h4]
        rw [← e1]
        exact h S3 (by rw [e2]; exact hG) hT3 hx3
      | cons c r ih =>
        intro d n G S3 okG hG hPl hT3 hx3 h1 h2 h3 h4
        simp only [List.length_cons] at h1 h2
        obtain ⟨n, rfl⟩ : ∃ j, n = j + 1 := ⟨n - 1, by omega⟩
        have hd : l[d]? = some (c.1, c.2) := by
          have := List.getElem?_drop (xs := l) (i := d) (j := 0)
          rw [h3] at this
          simpa using this.symm
        have hm : c ∈ l := List.mem_of_getElem? hd
        obtain ⟨p1, p2⟩ := hPl.2 d c.1 c.2 hd
        rw [w_X8_run_32]
        refine pk_le l.length d (fun y => by omega) (fun y => x_doCommand hG okG (by omega) (l2 c hm) p1 p2 (fun S4 hG4 hx4 => ?_)) (hx := hPl.1)
        have hx5 : Fx scRu S S4 := hx3.tr (hx4.mo (fun j e => Or.inl e))
        have hT4 : XT S4 (0, T.2) := hT3.cp (by rw [(hx4 27 (by decide)).1]) (by rw [(hx4 28 (by decide)).1])
        rw [doL] at h4
        refine ⟨fun q => nm_r (e' := nI (d + 1)) (nI_1 d) ?_, fun q => ?_⟩
        · rw [if_pos q] at h4
          refine ih (d + 1) n _ S4 (ok_cmd okG _ _) hG4 ⟨?_, fun m w f em => ?_⟩ hT4 hx5 (by omega) (by omega) ?_ h4
          · rw [(hx4 30 (by decide)).1]; exact hPl.1
          · rw [(hx4 31 (by decide)).1, (hx4 32 (by decide)).1]; exact hPl.2 m w f em
          · rw [← List.drop_drop, h3]; rfl
        · rw [if_neg q] at h4
          have e1 : (rnR F (.inr l)).1 = -2000 - nI d := by show (doL l F 0).1 = _; rw [← h4]
          have e2 : (rnR F (.inr l)).2 = (q_cmd G c.1 c.2).2 := by show (doL l F 0).2 = _; rw [← h4]
          rw [← e1]
          exact h S4 (by rw [e2]; exact hG4) hT4 hx5
    refine x_clear (T := T) (fun S2 hT2 hx2 => br_t rfl ⟨l.length + 1, loop l 0 _ F S2 ok ?_ ⟨?_, fun m w f em => ?_⟩ hT2 ?_ (by omega) (by omega) rfl rfl⟩)
    · exact hX.cp ok.1 (fun j j1 j2 => by rw [(hx2 j (by unfold scT; omega)).1, (hx1 j (by unfold scC; omega)).1])
    · rw [(hx2 30 (by decide)).1]; exact hP.1
    · rw [(hx2 31 (by decide)).1, (hx2 32 (by decide)).1]; exact hP.2 m w f em
    · exact (hx1.mo (fun j e => by show _ ∨ _; unfold scC at e; omega)).tr (hx2.mo (fun j e => by show _ ∨ _; unfold scT at e; omega))
