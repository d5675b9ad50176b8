/-! numerals: the text in numbers -/
def rdE (T : TT) (i a b : Nat) : Nat ⊕ (Nat × Nat) := if i = T.1 then .inr (a, b) else .inl i
noncomputable def rdP (T : TT) (g i x d : Nat) : Nat ⊕ (Nat × Nat) := if (tkd T g 4 i 0 0).1 = 0 then .inl i else cif (isC T (i + (tkd T g 4 i 0 0).1) 41) (rdE T (i + (tkd T g 4 i 0 0).1 + 1) (x * (g ^ (tkd T g 4 i 0 0).1 - 1) + (tkd T g 4 i 0 0).2) (d * (g ^ (tkd T g 4 i 0 0).1 - 1))) (.inl (i + (tkd T g 4 i 0 0).1))
noncomputable def rdF (T : TT) (g i c x : Nat) : Nat ⊕ (Nat × Nat) := cif (isC T i 40) (rdP T g (i + 1) x (g ^ c)) (if c = 0 then .inl i else rdE T i x (g ^ c))
noncomputable def rdN (T : TT) (g : Nat) : Nat ⊕ (Nat × Nat) := if (tkd T g 4 0 0 0).1 = 0 then .inl 0 else cif (isC T (tkd T g 4 0 0 0).1 46) (rdF T g ((tkd T g 4 0 0 0).1 + 1 + (tkd T g 4 ((tkd T g 4 0 0 0).1 + 1) 0 (tkd T g 4 0 0 0).2).1) (tkd T g 4 ((tkd T g 4 0 0 0).1 + 1) 0 (tkd T g 4 0 0 0).2).1 (tkd T g 4 ((tkd T g 4 0 0 0).1 + 1) 0 (tkd T g 4 0 0 0).2).2) (rdE T (tkd T g 4 0 0 0).1 (tkd T g 4 0 0 0).2 1)
abbrev scRd (j : Nat) : Prop := j = 27 ∨ j = 29
/-- how a reading of r goes on -/
def XG (S : St) (T : TT) (post : Int32 → St → Prop) (r : Nat ⊕ (Nat × Nat)) : Prop := ∀ S' : St, XT S' T → Fx scRd S S' → (∀ p, r = .inl p → p < 1000 → post (nI p) S') ∧ ∀ a b, r = .inr (a, b) → S'.2 29 0 = lN a → S'.2 29 1 = lN b → post (-1) S'
theorem x_end {S0 S : St} {T : TT} {i a b : Nat} {post : Int32 → St → Prop} (hT : TpX S T i) (ok : okTT T) (hi : i ≤ T.1) (e0 : S.2 29 0 = lN a) (e1 : S.2 29 1 = lN b) (hx : Fx scRd S0 S) (h : XG S0 T post (rdE T i a b)) : w_X3_parse_103 post S := by
  have h8 := ok.1
  obtain ⟨h1, h2⟩ := h S hT.1 hx
  unfold rdE at h1 h2
  unfold w_X3_parse_103 w_X7_isAtEnd
  rw [hT.2, hT.1.1]
  refine pk_lt i T.1 (fun q => br_t rfl ?_) (fun q => br_f (by decide) ?_)
  · rw [hT.2]
    exact h1 i (by rw [if_neg (by omega)]) (by omega)
  · exact h2 a b (by rw [if_pos (by omega)]) e0 e1
theorem pow_bd {g n m : Nat} (hg2 : g < 17) (hn : n ≤ m) : g ^ n ≤ 17 ^ m := Nat.le_trans (Nat.pow_le_pow_left (by omega) n) (Nat.pow_le_pow_right (by omega) hn)
theorem x_period {S0 S : St} {T : TT} {i x d g : Nat} {post : Int32 → St → Prop} (hT : TpX S T i) (ok : okTT T) (hi : i ≤ T.1) (hg : 2 ≤ g) (hg2 : g < 17) (e0 : S.2 29 0 = lN x) (e1 : S.2 29 1 = lN d) (hx : Fx scRd S0 S) (h : XG S0 T post (rdP T g i x d)) : w_X3_takesPeriod (nI g) (fun r17 S16 => ((r17 = 0 → (post (S16.1 27 2) S16)) ∧ (¬ r17 = 0 → (w_X3_parse_103 post S16)))) S := by
  have h8 := ok.1
  have hc := tkd_le T g 4 i 0 0
  have hin := tkd_in T g hg2 4 i 0 0 hi
  unfold w_X3_takesPeriod
  refine nm_e (x_takeDigits (T := T) (i := i) (x := 0) ⟨⟨hT.1.1, hT.1.2⟩, hT.2⟩ ok hg hg2 hi (Nat.pow_pos (by omega)) (sL_s S 27 3 0) (fun S1 t1 t2 hx1 => ?_))
  have hx2 : Fx scRd S0 S1 := (Fx.L hx (Or.inl rfl)).tr (hx1.mo (fun j e => Or.inl e))
  unfold rdP at h
  have k0 : S1.2 29 0 = lN x := by rw [(hx1 29 (by decide)).2, ← e0]; simp [sL_2]
  have k1 : S1.2 29 1 = lN d := by rw [(hx1 29 (by decide)).2, ← e1]; simp [sL_2]
  generalize tkd T g 4 i 0 0 = p at *
  refine pk_eq p.1 0 (fun q => br_t rfl ?_) (fun q => ?_)
  · rw [if_pos q] at h
    rw [t1.2, q]
    exact (h S1 t1.1 hx2).1 i rfl (by omega)
  · rw [if_neg q] at h
    refine x_takes (c := 41) t1 ok (by omega) (by omega) (fun z S2 t3 t4 hx3 => br_f (by decide) ?_) (fun z => br_t rfl (br_t rfl ?_))
    · rw [cif_pos z] at h
      have hx4 : Fx scRd S0 S2 := hx2.tr (hx3.mo (fun j e => Or.inl e))
      refine s_power (by omega) (by omega) ?_
      have hp : 0 < g ^ p.1 := Nat.pow_pos (by omega)
      have e1' : lN (g ^ p.1) - 1 = lN (g ^ p.1 - 1) := lN_sub (a := g ^ p.1) (b := 1) hp
      refine nm_r e1' (nm_r (e' := lN (x * (g ^ p.1 - 1) + p.2)) (by rw [t4, k0, t2, lN_mul, lN_add]) (nm_e (nm_r (e' := lN (d * (g ^ p.1 - 1))) (by simp only [sL_2]; rw [if_neg (by decide), t4, k1, lN_mul]) (nm_e (br_f (by decide) ?_)))))
      refine x_end (S0 := S0) (i := i + p.1 + 1) ⟨⟨t3.1.1, t3.1.2⟩, t3.2⟩ ok (by have := z.1; omega) (by simp [sL_2]) (by simp [sL_2]) (Fx.L (Fx.L hx4 (Or.inr rfl)) (Or.inr rfl)) h
    · rw [cif_neg z] at h
      rw [t1.2]
      exact (h S1 t1.1 hx2).1 _ rfl (by omega)
theorem x_parse77 {S0 S : St} {T : TT} {i x d g : Nat} {v : Int32} {post : Int32 → St → Prop} (hT : TpX S T i) (ok : okTT T) (hi : i ≤ T.1) (hg : 2 ≤ g) (hg2 : g < 17) (e0 : S.2 27 3 = lN x) (e1 : S.2 29 1 = lN d) (hx : Fx scRd S0 S) (h0 : v = 0 → XG S0 T post (rdE T i x d)) (h1 : v ≠ 0 → XG S0 T post (rdP T g i x d)) : w_X3_parse_77 post (nI g) v S := by
  unfold w_X3_parse_77
  refine nm_r e0 (nm_e ⟨fun q => ?_, fun q => ?_⟩)
  · exact x_end (S0 := S0) (i := i) ⟨⟨hT.1.1, hT.1.2⟩, hT.2⟩ ok hi (sL_s S 29 0 _) (by simp [sL_2, e1]) (Fx.L hx (Or.inr rfl)) (h0 q)
  · exact x_period (S0 := S0) (i := i) ⟨⟨hT.1.1, hT.1.2⟩, hT.2⟩ ok hi hg hg2 (sL_s S 29 0 _) (by simp [sL_2, e1]) (Fx.L hx (Or.inr rfl)) (h1 q)
theorem x_parse {S : St} {T : TT} {g : Nat} {post : Int32 → St → Prop} (hT : XT S T) (ok : okTT T) (hg : 2 ≤ g) (hg2 : g < 17) (h : XG S T post (rdN T g)) : w_X3_parse (nI g) post S := by
  have h8 := ok.1
  have hc := tkd_le T g 4 0 0 0
  have hin := tkd_in T g hg2 4 0 0 0 (Nat.zero_le _)
  have hlt := tkd_lt T g 4 0 0 0 0 (by simp)
  unfold w_X3_parse
  refine nm_e (nm_e (nm_e (x_takeDigits (T := T) (i := 0) (x := 0) ⟨⟨?_, fun j hj => ?_⟩, by simp [sL_1, sI_1]; rfl⟩ ok hg hg2 (Nat.zero_le _) (Nat.pow_pos (by omega)) (by simp [sL_2]; rfl) (fun S1 t1 t2 hx1 => ?_))))
  · simp [sL_1, sI_1]; exact hT.1
  · simp [sL_1, sI_1]; exact hT.2 j hj
  have hx2 : Fx scRd S S1 := (Fx.L (Fx.L (Fx.I Fx.rf (Or.inl rfl)) (Or.inl rfl)) (Or.inr rfl)).tr (hx1.mo (fun j e => Or.inl e))
  have k1 : S1.2 29 1 = lN 1 := by rw [(hx1 29 (by decide)).2]; simp [sL_2]; rfl
  unfold rdN at h
  simp only [Nat.zero_add, Nat.sub_zero] at hin hlt t1
  generalize tkd T g 4 0 0 0 = p at *
  refine pk_eq p.1 0 (fun q => ?_) (fun q => ?_)
  · rw [if_pos q] at h
    rw [t1.2, q]
    exact (h S1 t1.1 hx2).1 0 rfl (by omega)
  · rw [if_neg q] at h
    refine x_takes (c := 46) t1 ok (by omega) (by omega) (fun z S2 t3 t4 hx3 => br_f (by decide) ?_) (fun z => br_t rfl ?_)
    · rw [cif_pos z] at h
      have hx4 : Fx scRd S S2 := hx2.tr (hx3.mo (fun j e => Or.inl e))
      have hz := z.1
      have hc2 := tkd_le T g 4 (p.1 + 1) 0 p.2
      have hin2 := tkd_in T g hg2 4 (p.1 + 1) 0 p.2 (by omega)
      refine x_takeDigits t3 ok hg hg2 (by omega) (Nat.lt_of_lt_of_le hlt (Nat.pow_le_pow_right (by omega) (by omega))) (by rw [t4]; exact t2) (fun S3 t5 t6 hx5 => ?_)
      have hx6 : Fx scRd S S3 := hx4.tr (hx5.mo (fun j e => Or.inl e))
      generalize tkd T g 4 (p.1 + 1) 0 p.2 = p2 at *
      refine s_power (by omega) (by omega) (nm_e ?_)
      have t7 : TpX (sL S3 29 1 (lN (g ^ p2.1))) T (p.1 + 1 + p2.1) := ⟨⟨t5.1.1, t5.1.2⟩, t5.2⟩
      have hx7 : Fx scRd S (sL S3 29 1 (lN (g ^ p2.1))) := Fx.L hx6 (Or.inr rfl)
      unfold rdF at h
      refine x_takes (c := 40) t7 ok (by omega) (by omega) (fun y S4 t8 t9 hx8 => ?_) (fun y => ?_)
      · rw [cif_pos y] at h
        have hy := y.1
        have fin := x_parse77 (S0 := S) (v := 1) (x := p2.2) (d := g ^ p2.1) t8 ok (by omega) hg hg2 (by rw [t9]; simp [sL_2, t6]) (by rw [t9]; simp [sL_2]) (hx7.tr (hx8.mo (fun j e => Or.inl e))) (fun e => absurd e (by decide)) (fun _ => h)
        refine ⟨fun _ => br_f (by decide) fin, fun _ => fin⟩
      · rw [cif_neg y] at h
        refine pk_eq p2.1 0 (fun w => br_t rfl ?_) (fun w => ?_)
        · rw [if_pos w] at h
          rw [t7.2]
          exact (h _ t7.1 hx7).1 _ rfl (by omega)
        · rw [if_neg w] at h
          exact x_parse77 (S0 := S) (v := 0) (x := p2.2) (d := g ^ p2.1) t7 ok (by omega) hg hg2 (by simp [sL_2, t6]) (by simp [sL_2]) hx7 (fun _ => h) (fun e => absurd rfl e)
    · rw [cif_neg z] at h
      exact x_parse77 (S0 := S) (v := 0) (x := p.2) (d := 1) t1 ok (by omega) hg hg2 t2 k1 hx2 (fun _ => h) (fun e => absurd rfl e)
