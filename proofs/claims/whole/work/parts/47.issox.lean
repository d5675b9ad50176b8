abbrev sc23 (j : Nat) : Prop := j = 23
theorem x_isSo {S : St} {g k x : Nat} {post : Int32 → St → Prop} (e0 : S.1 21 2 = nI g) (hg : 2 ≤ g) (hg2 : g < 17) (hk : k < 8) (h2 : 2 ≤ x) (hx : x ≤ 400) (f : soP g k x → ∀ S' : St, Fx sc23 S S' → post 1 S') (n : ¬ soP g k x → ∀ S' : St, Fx sc23 S S' → post 0 S') : w_X0_isSo 21 (nI k) (nI x) post S := by
  have o : okF 1 x g := ⟨by omega, by omega, by omega, hg, hg2⟩
  have hll := o.hl
  have hp := ln_pos x g 1
  have hkd := kdN_le x g 1
  unfold w_X0_isSo
  refine nm_r e0 (s_become (a := 1) o (fun T hF hx1 => ?_))
  have f := fun z => f z T hx1
  have n := fun z => n z T hx1
  rw [hF.2.2.2.2.1]
  have jr2 : jr (nI (ln x g 1)) 2 = nI (ln x g 1 % 2) := jr_nI (d := 2) (by omega) (by omega) (by omega)
  have hm2 := Nat.mod_lt (ln x g 1) (show 0 < 2 by omega)
  rw [jr2]
  have body : ∀ y0 : Int32, ((y0 = 1 ∧ ln x g 1 % 2 = 0) ∨ (y0 = 0 ∧ ln x g 1 % 2 ≠ 0)) → w_X0_isSo_30 post 21 (nI k) (nI x) y0 T := by
    intro y0 hy
    unfold w_X0_isSo_30
    unfold soP at f n
    refine pk_eq k 0 (fun q => ?_) (fun q => ?_)
    · rw [if_pos q] at f n
      exact s_ends hF o (fun z => ⟨bz_1, f z⟩) (fun z => ⟨bz_0, n z⟩)
    rw [if_neg q] at f n
    refine pk_eq k 1 (fun q => s_kind hF o ?_) (fun q => ?_)
    · rw [if_pos q] at f n
      exact pk_eq (kdN x g 1) 1 (fun z => f z) (fun z => n z)
    rw [if_neg q] at f n
    refine pk_eq k 2 (fun q => s_kind hF o ?_) (fun q => ?_)
    · rw [if_pos q] at f n
      exact pk_eq (kdN x g 1) 2 (fun z => f z) (fun z => n z)
    rw [if_neg q] at f n
    refine pk_eq k 3 (fun q => ?_) (fun q => ?_)
    · rw [if_pos q] at f n
      exact s_isFullUnit hF o (fun z => ⟨bz_1, f z⟩) (fun z => ⟨bz_0, n z⟩)
    rw [if_neg q] at f n
    refine pk_eq k 4 (fun q => ?_) (fun q => ?_)
    · rw [if_pos q] at f n
      refine s_ends hF o (fun z => br_f (by decide) (n (fun y => y.1 z))) (fun z => br_t rfl ?_)
      rcases hy with ⟨rfl, y⟩ | ⟨rfl, y⟩
      · exact br_f (by decide) (f ⟨z, y⟩)
      · exact br_t rfl (n (fun w => y w.2))
    rw [if_neg q] at f n
    refine pk_eq k 5 (fun q => ?_) (fun q => ?_)
    · rw [if_pos q] at f n
      refine s_ends hF o (fun z => br_f (by decide) (n (fun y => y.1 z))) (fun z => br_t rfl ?_)
      rcases hy with ⟨rfl, y⟩ | ⟨rfl, y⟩
      · exact br_f (by decide) (n (fun w => w.2 y))
      · exact br_t rfl (f ⟨z, y⟩)
    rw [if_neg q] at f n
    refine pk_eq k 6 (fun q => ?_) (fun q => ?_)
    · rw [if_pos q] at f n
      refine s_ends hF o (fun z => br_f (by decide) (n (fun y => y.1 z))) (fun z => br_t rfl ?_)
      rcases hy with ⟨rfl, y⟩ | ⟨rfl, y⟩
      · refine br_f (by decide) (s_ninesOfBlocks (n := 2) hF o (by omega) (by omega) (fun w => ?_) (fun w => ?_))
        · have e : ninesV x g 1 (ln x g 1 / 2) = nI (tog x g 1 (ln x g 1 / 2) (ln x g 1) / x) := by unfold ninesV; rw [if_pos w]
          rw [e] at f n
          exact ⟨fun v => f ⟨z, y, v⟩, fun v => n (fun u => v u.2.2)⟩
        · have e : ninesV x g 1 (ln x g 1 / 2) = -2 := by unfold ninesV; rw [if_neg w]
          rw [e] at f n
          exact br_f (by decide) (n (fun u => absurd u.2.2 (by decide)))
      · exact br_t rfl (n (fun w => y w.2.1))
    rw [if_neg q] at f n
    refine pk_eq k 7 (fun q => ?_) (fun q => by omega)
    exact x_isPrime h2 hx (fun z => ⟨bz_1, f z⟩) (fun z => ⟨bz_0, n (fun y => by rw [z] at y; cases y)⟩)
  refine pk_eq (ln x g 1 % 2) 0 (fun z => body 1 (Or.inl ⟨rfl, z⟩)) (fun z => body 0 (Or.inr ⟨rfl, z⟩))
