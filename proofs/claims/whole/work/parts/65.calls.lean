/-! every call, over all that the two objects hold -/
abbrev TA : Type := TF × TL × TT × TH × TK
def okA (z : TA) : Prop := okTF z.1 ∧ okTL z.2.1 ∧ okTT z.2.2.1 ∧ okTH z.2.2.2.1 ∧ okTK z.2.2.2.2
def XA (S : St) (z : TA) : Prop := XF S 1 z.1 ∧ XL S 21 z.2.1 ∧ XT S z.2.2.1 ∧ XH S z.2.2.2.1 ∧ XK S z.2.2.2.2
def MA (S : St) (z : TA) : Prop := MF S z.1 ∧ ML S z.2.1 ∧ MT S z.2.2.1 ∧ MH S z.2.2.2.1 ∧ MK S z.2.2.2.2 ∧ MC S
section KEEP
variable {S S' : St} {D E : Nat → Prop}
theorem kXF {F : TF} (h : XF S 1 F) (ok : okTF F) (hx : Fx D S S') (hd : ∀ j, 1 ≤ j → j < 11 → ¬ D j) : XF S' 1 F := h.cp ok.1 (fun j a b => (hx j (hd j a b)).1)
theorem kXL {L : TL} (h : XL S 21 L) (hx : Fx D S S') (h1 : ¬ D 21) (h2 : ¬ D 22) : XL S' 21 L := h.cp (hx 21 h1).1 (hx 22 h2).1
theorem kXT {T : TT} (h : XT S T) (hx : Fx D S S') (h1 : ¬ D 27) (h2 : ¬ D 28) : XT S' T := h.cp (by rw [(hx 27 h1).1]) (hx 28 h2).1
theorem kXH {H : TH} (h : XH S H) (hx : Fx D S S') (hd : ∀ j, 34 ≤ j → j < 52 → ¬ D j) : XH S' H := h.cp (fun j a b => (hx j (hd j a b)).1)
theorem kXK {K : TK} (h : XK S K) (ok : okTK K) (hx : Fx D S S') (h0 : ¬ D 0) (hd : ∀ j, 11 ≤ j → j < 21 → ¬ D j) (h1 : ¬ D 24) (h2 : ¬ D 25) : XK S' K := h.cp ok (by rw [(hx 0 h0).1]) (fun j a b => (hx j (hd j a b)).1) (hx 24 h1).1 (hx 25 h2).1
theorem kMF {F : TF} (h : MF S F) (hx : Fm D E S S') (h0 : ¬ E 0) (h1 : ¬ D 1) (h2 : ¬ D 2) (h3 : ¬ D 3) : MF S' F := h.cp (hx.2 0 h0) (hx.1 1 (by decide) h1) (hx.1 2 (by decide) h2) (hx.1 3 (by decide) h3)
theorem kML {L : TL} (h : ML S L) (hx : Fm D E S S') (h0 : ¬ E 14) (h1 : ¬ E 15) (h2 : ¬ D 9) : ML S' L := h.cp (hx.2 14 h0) (hx.2 15 h1) (hx.1 9 (by decide) h2)
theorem kMT {T : TT} (h : MT S T) (hx : Fm D E S S') (h0 : ¬ E 21) (h1 : ¬ D 13) : MT S' T := h.cp (hx.2 21 h0) (hx.1 13 (by decide) h1)
theorem kMH {H : TH} (h : MH S H) (hx : Fm D E S S') (hd : ∀ j, 15 ≤ j → j < 21 → ¬ D j) : MH S' H := h.cp (fun j a b => hx.1 j (by omega) (hd j a b))
theorem kMK {K : TK} (h : MK S K) (hx : Fm D E S S') (h1 : ¬ E 36) (h2 : ¬ E 37) (h3 : ¬ E 41) (h4 : ¬ E 42) (hd : ∀ j, 21 ≤ j → j < 25 → ¬ D j) : MK S' K := h.cp (fun i e => by
  rcases e with rfl | rfl | rfl | rfl
  · exact hx.2 36 h1
  · exact hx.2 37 h2
  · exact hx.2 41 h3
  · exact hx.2 42 h4) (fun j a b => hx.1 j (by omega) (hd j a b))
theorem kMC (h : MC S) (hx : Fm D E S S') (hd : ∀ j, 10 ≤ j → j < 13 → ¬ D j) : MC S' := h.cp (fun j a b => hx.1 j (by omega) (hd j a b))
end KEEP
noncomputable def ra_fraction (z : TA) (v1 v2 v3 : Int32) : Int32 × TA := ((q_fraction z.1 v1 v2 v3).1, ((q_fraction z.1 v1 v2 v3).2, z.2.1, z.2.2.1, z.2.2.2.1, z.2.2.2.2))
theorem ka_fraction {z : TA} (ok : okA z) (v1 v2 v3 : Int32) : okA (ra_fraction z v1 v2 v3).2 := by
  obtain ⟨F, L, T, H, K⟩ := z
  obtain ⟨o1, o2, o3, o4, o5⟩ := ok
  exact ⟨ok_fraction o1 _ _ _, o2, o3, o4, o5⟩
theorem xa_fraction {S : St} {z : TA} (ok : okA z) (h : XA S z) (v1 v2 v3 : Int32) : w_X8_fraction v1 v2 v3 (fun r S' => r = (ra_fraction z v1 v2 v3).1 ∧ XA S' (ra_fraction z v1 v2 v3).2) S := by
  obtain ⟨F, L, T, H, K⟩ := z
  obtain ⟨o1, o2, o3, o4, o5⟩ := ok
  obtain ⟨h1, h2, h3, h4, h5⟩ := h
  exact x_fraction h1 o1 (fun S' a0 hx => ⟨rfl, a0, kXL h2 hx (by first | decide | simp) (by first | decide | simp), kXT h3 hx (by first | decide | simp) (by first | decide | simp), kXH h4 hx (fun j a b e => by unfold D1 at e; omega), kXK h5 o5 hx (by first | decide | simp) (fun j a b e => by unfold D1 at e; omega) (by first | decide | simp) (by first | decide | simp)⟩)
theorem ma_fraction {S : St} {z : TA} (ok : okA z) (h : MA S z) (v1 v2 v3 : Int32) : w_X9_fraction v1 v2 v3 (fun r S' => r = (ra_fraction z v1 v2 v3).1 ∧ MA S' (ra_fraction z v1 v2 v3).2) S := by
  obtain ⟨F, L, T, H, K⟩ := z
  obtain ⟨o1, o2, o3, o4, o5⟩ := ok
  obtain ⟨h1, h2, h3, h4, h5, h6⟩ := h
  exact m_fraction h1 o1 (fun S' a0 hx => ⟨rfl, a0, kML h2 hx (by first | decide | simp) (by first | decide | simp) (by first | decide | simp), kMT h3 hx (by first | decide | simp) (by first | decide | simp), kMH h4 hx (fun j a b e => by unfold E1 at e; omega), kMK h5 hx (by first | decide | simp) (by first | decide | simp) (by first | decide | simp) (by first | decide | simp) (fun j a b e => by unfold E1 at e; omega), kMC h6 hx (fun j a b e => by unfold E1 at e; omega)⟩)
noncomputable def ra_drop (z : TA) (v : Int32) : Int32 × TA := ((q_drop z.1 v).1, ((q_drop z.1 v).2, z.2.1, z.2.2.1, z.2.2.2.1, z.2.2.2.2))
theorem ka_drop {z : TA} (ok : okA z) (v : Int32) : okA (ra_drop z v).2 := by
  obtain ⟨F, L, T, H, K⟩ := z
  obtain ⟨o1, o2, o3, o4, o5⟩ := ok
  exact ⟨ok_drop o1 _, o2, o3, o4, o5⟩
theorem xa_drop {S : St} {z : TA} (ok : okA z) (h : XA S z) (v : Int32) : w_X8_drop v (fun r S' => r = (ra_drop z v).1 ∧ XA S' (ra_drop z v).2) S := by
  obtain ⟨F, L, T, H, K⟩ := z
  obtain ⟨o1, o2, o3, o4, o5⟩ := ok
  obtain ⟨h1, h2, h3, h4, h5⟩ := h
  exact x_drop h1 o1 (fun S' a0 hx => ⟨rfl, a0, kXL h2 hx (by first | decide | simp) (by first | decide | simp), kXT h3 hx (by first | decide | simp) (by first | decide | simp), kXH h4 hx (fun j a b e => by unfold D1 at e; omega), kXK h5 o5 hx (by first | decide | simp) (fun j a b e => by unfold D1 at e; omega) (by first | decide | simp) (by first | decide | simp)⟩)
theorem ma_drop {S : St} {z : TA} (ok : okA z) (h : MA S z) (v : Int32) : w_X9_drop v (fun r S' => r = (ra_drop z v).1 ∧ MA S' (ra_drop z v).2) S := by
  obtain ⟨F, L, T, H, K⟩ := z
  obtain ⟨o1, o2, o3, o4, o5⟩ := ok
  obtain ⟨h1, h2, h3, h4, h5, h6⟩ := h
  exact m_drop h1 o1 (fun S' a0 hx => ⟨rfl, a0, kML h2 hx (by first | decide | simp) (by first | decide | simp) (by first | decide | simp), kMT h3 hx (by first | decide | simp) (by first | decide | simp), kMH h4 hx (fun j a b e => by unfold E1 at e; omega), kMK h5 hx (by first | decide | simp) (by first | decide | simp) (by first | decide | simp) (by first | decide | simp) (fun j a b e => by unfold E1 at e; omega), kMC h6 hx (fun j a b e => by unfold E1 at e; omega)⟩)
noncomputable def ra_multiply (z : TA) (v m : Int32) : Int32 × TA := ((q_multiply z.1 v m).1, ((q_multiply z.1 v m).2, z.2.1, z.2.2.1, z.2.2.2.1, z.2.2.2.2))
theorem ka_multiply {z : TA} (ok : okA z) (v m : Int32) : okA (ra_multiply z v m).2 := by
  obtain ⟨F, L, T, H, K⟩ := z
  obtain ⟨o1, o2, o3, o4, o5⟩ := ok
  exact ⟨ok_multiply o1 _ _, o2, o3, o4, o5⟩
theorem xa_multiply {S : St} {z : TA} (ok : okA z) (h : XA S z) (v m : Int32) : w_X8_multiply v m (fun r S' => r = (ra_multiply z v m).1 ∧ XA S' (ra_multiply z v m).2) S := by
  obtain ⟨F, L, T, H, K⟩ := z
  obtain ⟨o1, o2, o3, o4, o5⟩ := ok
  obtain ⟨h1, h2, h3, h4, h5⟩ := h
  exact x_multiply h1 o1 (fun S' a0 hx => ⟨rfl, a0, kXL h2 hx (by first | decide | simp) (by first | decide | simp), kXT h3 hx (by first | decide | simp) (by first | decide | simp), kXH h4 hx (fun j a b e => by unfold D1 at e; omega), kXK h5 o5 hx (by first | decide | simp) (fun j a b e => by unfold D1 at e; omega) (by first | decide | simp) (by first | decide | simp)⟩)
theorem ma_multiply {S : St} {z : TA} (ok : okA z) (h : MA S z) (v m : Int32) : w_X9_multiply v m (fun r S' => r = (ra_multiply z v m).1 ∧ MA S' (ra_multiply z v m).2) S := by
  obtain ⟨F, L, T, H, K⟩ := z
  obtain ⟨o1, o2, o3, o4, o5⟩ := ok
  obtain ⟨h1, h2, h3, h4, h5, h6⟩ := h
  exact m_multiply h1 o1 (fun S' a0 hx => ⟨rfl, a0, kML h2 hx (by first | decide | simp) (by first | decide | simp) (by first | decide | simp), kMT h3 hx (by first | decide | simp) (by first | decide | simp), kMH h4 hx (fun j a b e => by unfold E1 at e; omega), kMK h5 hx (by first | decide | simp) (by first | decide | simp) (by first | decide | simp) (by first | decide | simp) (fun j a b e => by unfold E1 at e; omega), kMC h6 hx (fun j a b e => by unfold E1 at e; omega)⟩)
noncomputable def ra_sum (z : TA) (v w : Int32) : Int32 × TA := ((q_sum z.1 v w).1, ((q_sum z.1 v w).2, z.2.1, z.2.2.1, z.2.2.2.1, z.2.2.2.2))
theorem ka_sum {z : TA} (ok : okA z) (v w : Int32) : okA (ra_sum z v w).2 := by
  obtain ⟨F, L, T, H, K⟩ := z
  obtain ⟨o1, o2, o3, o4, o5⟩ := ok
  exact ⟨ok_sum o1 _ _, o2, o3, o4, o5⟩
theorem xa_sum {S : St} {z : TA} (ok : okA z) (h : XA S z) (v w : Int32) : w_X8_sum v w (fun r S' => r = (ra_sum z v w).1 ∧ XA S' (ra_sum z v w).2) S := by
  obtain ⟨F, L, T, H, K⟩ := z
  obtain ⟨o1, o2, o3, o4, o5⟩ := ok
  obtain ⟨h1, h2, h3, h4, h5⟩ := h
  exact x_sum h1 o1 (fun S' a0 hx => ⟨rfl, a0, kXL h2 hx (by first | decide | simp) (by first | decide | simp), kXT h3 hx (by first | decide | simp) (by first | decide | simp), kXH h4 hx (fun j a b e => by unfold D1 at e; omega), kXK h5 o5 hx (by first | decide | simp) (fun j a b e => by unfold D1 at e; omega) (by first | decide | simp) (by first | decide | simp)⟩)
theorem ma_sum {S : St} {z : TA} (ok : okA z) (h : MA S z) (v w : Int32) : w_X9_sum v w (fun r S' => r = (ra_sum z v w).1 ∧ MA S' (ra_sum z v w).2) S := by
  obtain ⟨F, L, T, H, K⟩ := z
  obtain ⟨o1, o2, o3, o4, o5⟩ := ok
  obtain ⟨h1, h2, h3, h4, h5, h6⟩ := h
  exact m_sum h1 o1 (fun S' a0 hx => ⟨rfl, a0, kML h2 hx (by first | decide | simp) (by first | decide | simp) (by first | decide | simp), kMT h3 hx (by first | decide | simp) (by first | decide | simp), kMH h4 hx (fun j a b e => by unfold E1 at e; omega), kMK h5 hx (by first | decide | simp) (by first | decide | simp) (by first | decide | simp) (by first | decide | simp) (fun j a b e => by unfold E1 at e; omega), kMC h6 hx (fun j a b e => by unfold E1 at e; omega)⟩)
noncomputable def ra_lowest (z : TA) (v : Int32) : Int32 × TA := ((q_lowest z.1 v).1, ((q_lowest z.1 v).2, z.2.1, z.2.2.1, z.2.2.2.1, z.2.2.2.2))
theorem ka_lowest {z : TA} (ok : okA z) (v : Int32) : okA (ra_lowest z v).2 := by
  obtain ⟨F, L, T, H, K⟩ := z
  obtain ⟨o1, o2, o3, o4, o5⟩ := ok
  exact ⟨ok_lowest o1 _, o2, o3, o4, o5⟩
theorem xa_lowest {S : St} {z : TA} (ok : okA z) (h : XA S z) (v : Int32) : w_X8_lowest v (fun r S' => r = (ra_lowest z v).1 ∧ XA S' (ra_lowest z v).2) S := by
  obtain ⟨F, L, T, H, K⟩ := z
  obtain ⟨o1, o2, o3, o4, o5⟩ := ok
  obtain ⟨h1, h2, h3, h4, h5⟩ := h
  exact x_lowest h1 o1 (fun S' a0 hx => ⟨rfl, a0, kXL h2 hx (by first | decide | simp) (by first | decide | simp), kXT h3 hx (by first | decide | simp) (by first | decide | simp), kXH h4 hx (fun j a b e => by unfold D1 at e; omega), kXK h5 o5 hx (by first | decide | simp) (fun j a b e => by unfold D1 at e; omega) (by first | decide | simp) (by first | decide | simp)⟩)
theorem ma_lowest {S : St} {z : TA} (ok : okA z) (h : MA S z) (v : Int32) : w_X9_lowest v (fun r S' => r = (ra_lowest z v).1 ∧ MA S' (ra_lowest z v).2) S := by
  obtain ⟨F, L, T, H, K⟩ := z
  obtain ⟨o1, o2, o3, o4, o5⟩ := ok
  obtain ⟨h1, h2, h3, h4, h5, h6⟩ := h
  exact m_lowest h1 o1 (fun S' a0 hx => ⟨rfl, a0, kML h2 hx (by first | decide | simp) (by first | decide | simp) (by first | decide | simp), kMT h3 hx (by first | decide | simp) (by first | decide | simp), kMH h4 hx (fun j a b e => by unfold E1 at e; omega), kMK h5 hx (by first | decide | simp) (by first | decide | simp) (by first | decide | simp) (by first | decide | simp) (fun j a b e => by unfold E1 at e; omega), kMC h6 hx (fun j a b e => by unfold E1 at e; omega)⟩)
noncomputable def ra_of (z : TA) (v w : Int32) : Int32 × TA := ((q_of z.1 v w), (z.1, z.2.1, z.2.2.1, z.2.2.2.1, z.2.2.2.2))
theorem ka_of {z : TA} (ok : okA z) (v w : Int32) : okA (ra_of z v w).2 := by
  obtain ⟨F, L, T, H, K⟩ := z
  obtain ⟨o1, o2, o3, o4, o5⟩ := ok
  exact ⟨o1, o2, o3, o4, o5⟩
theorem xa_of {S : St} {z : TA} (ok : okA z) (h : XA S z) (v w : Int32) : w_X8_of v w (fun r S' => r = (ra_of z v w).1 ∧ XA S' (ra_of z v w).2) S := by
  obtain ⟨F, L, T, H, K⟩ := z
  obtain ⟨o1, o2, o3, o4, o5⟩ := ok
  obtain ⟨h1, h2, h3, h4, h5⟩ := h
  exact x_of h1 o1 ⟨rfl, h1, h2, h3, h4, h5⟩
theorem ma_of {S : St} {z : TA} (ok : okA z) (h : MA S z) (v w : Int32) : w_X9_of v w (fun r S' => r = (ra_of z v w).1 ∧ MA S' (ra_of z v w).2) S := by
  obtain ⟨F, L, T, H, K⟩ := z
  obtain ⟨o1, o2, o3, o4, o5⟩ := ok
  obtain ⟨h1, h2, h3, h4, h5, h6⟩ := h
  exact m_of h1 o1 (fun S'  hx => ⟨rfl, kMF h1 hx (by first | decide | simp) (by first | decide | simp) (by first | decide | simp) (by first | decide | simp), kML h2 hx (by first | decide | simp) (by first | decide | simp) (by first | decide | simp), kMT h3 hx (by first | decide | simp) (by first | decide | simp), kMH h4 hx (fun j a b e => by unfold scD at e; omega), kMK h5 hx (by first | decide | simp) (by first | decide | simp) (by first | decide | simp) (by first | decide | simp) (fun j a b e => by unfold scD at e; omega), kMC h6 hx (fun j a b e => by unfold scD at e; omega)⟩)
noncomputable def ra_digit (z : TA) (v i : Int32) : Int32 × TA := ((q_digit z.1 v i), (z.1, z.2.1, z.2.2.1, z.2.2.2.1, z.2.2.2.2))
theorem ka_digit {z : TA} (ok : okA z) (v i : Int32) : okA (ra_digit z v i).2 := by
  obtain ⟨F, L, T, H, K⟩ := z
  obtain ⟨o1, o2, o3, o4, o5⟩ := ok
  exact ⟨o1, o2, o3, o4, o5⟩
theorem xa_digit {S : St} {z : TA} (ok : okA z) (h : XA S z) (v i : Int32) : w_X8_digit v i (fun r S' => r = (ra_digit z v i).1 ∧ XA S' (ra_digit z v i).2) S := by
  obtain ⟨F, L, T, H, K⟩ := z
  obtain ⟨o1, o2, o3, o4, o5⟩ := ok
  obtain ⟨h1, h2, h3, h4, h5⟩ := h
  exact x_digit h1 o1 ⟨rfl, h1, h2, h3, h4, h5⟩
theorem ma_digit {S : St} {z : TA} (ok : okA z) (h : MA S z) (v i : Int32) : w_X9_digit v i (fun r S' => r = (ra_digit z v i).1 ∧ MA S' (ra_digit z v i).2) S := by
  obtain ⟨F, L, T, H, K⟩ := z
  obtain ⟨o1, o2, o3, o4, o5⟩ := ok
  obtain ⟨h1, h2, h3, h4, h5, h6⟩ := h
  exact m_digit h1 o1 (fun S'  hx => ⟨rfl, kMF h1 hx (by first | decide | simp) (by first | decide | simp) (by first | decide | simp) (by first | decide | simp), kML h2 hx (by first | decide | simp) (by first | decide | simp) (by first | decide | simp), kMT h3 hx (by first | decide | simp) (by first | decide | simp), kMH h4 hx (fun j a b e => by unfold scD at e; omega), kMK h5 hx (by first | decide | simp) (by first | decide | simp) (by first | decide | simp) (by first | decide | simp) (fun j a b e => by unfold scD at e; omega), kMC h6 hx (fun j a b e => by unfold scD at e; omega)⟩)
noncomputable def ra_rest (z : TA) (v i : Int32) : Int32 × TA := ((q_rest z.1 v i), (z.1, z.2.1, z.2.2.1, z.2.2.2.1, z.2.2.2.2))
theorem ka_rest {z : TA} (ok : okA z) (v i : Int32) : okA (ra_rest z v i).2 := by
  obtain ⟨F, L, T, H, K⟩ := z
  obtain ⟨o1, o2, o3, o4, o5⟩ := ok
  exact ⟨o1, o2, o3, o4, o5⟩
theorem xa_rest {S : St} {z : TA} (ok : okA z) (h : XA S z) (v i : Int32) : w_X8_rest v i (fun r S' => r = (ra_rest z v i).1 ∧ XA S' (ra_rest z v i).2) S := by
  obtain ⟨F, L, T, H, K⟩ := z
  obtain ⟨o1, o2, o3, o4, o5⟩ := ok
  obtain ⟨h1, h2, h3, h4, h5⟩ := h
  exact x_rest h1 o1 ⟨rfl, h1, h2, h3, h4, h5⟩
theorem ma_rest {S : St} {z : TA} (ok : okA z) (h : MA S z) (v i : Int32) : w_X9_rest v i (fun r S' => r = (ra_rest z v i).1 ∧ MA S' (ra_rest z v i).2) S := by
  obtain ⟨F, L, T, H, K⟩ := z
  obtain ⟨o1, o2, o3, o4, o5⟩ := ok
  obtain ⟨h1, h2, h3, h4, h5, h6⟩ := h
  exact m_rest h1 o1 (fun S'  hx => ⟨rfl, kMF h1 hx (by first | decide | simp) (by first | decide | simp) (by first | decide | simp) (by first | decide | simp), kML h2 hx (by first | decide | simp) (by first | decide | simp) (by first | decide | simp), kMT h3 hx (by first | decide | simp) (by first | decide | simp), kMH h4 hx (fun j a b e => by unfold scD at e; omega), kMK h5 hx (by first | decide | simp) (by first | decide | simp) (by first | decide | simp) (by first | decide | simp) (fun j a b e => by unfold scD at e; omega), kMC h6 hx (fun j a b e => by unfold scD at e; omega)⟩)
noncomputable def ra_place (z : TA) (v d : Int32) : Int32 × TA := ((q_place z.1 v d), (z.1, z.2.1, z.2.2.1, z.2.2.2.1, z.2.2.2.2))
theorem ka_place {z : TA} (ok : okA z) (v d : Int32) : okA (ra_place z v d).2 := by
  obtain ⟨F, L, T, H, K⟩ := z
  obtain ⟨o1, o2, o3, o4, o5⟩ := ok
  exact ⟨o1, o2, o3, o4, o5⟩
theorem xa_place {S : St} {z : TA} (ok : okA z) (h : XA S z) (v d : Int32) : w_X8_place v d (fun r S' => r = (ra_place z v d).1 ∧ XA S' (ra_place z v d).2) S := by
  obtain ⟨F, L, T, H, K⟩ := z
  obtain ⟨o1, o2, o3, o4, o5⟩ := ok
  obtain ⟨h1, h2, h3, h4, h5⟩ := h
  exact x_place h1 o1 ⟨rfl, h1, h2, h3, h4, h5⟩
theorem ma_place {S : St} {z : TA} (ok : okA z) (h : MA S z) (v d : Int32) : w_X9_place v d (fun r S' => r = (ra_place z v d).1 ∧ MA S' (ra_place z v d).2) S := by
  obtain ⟨F, L, T, H, K⟩ := z
  obtain ⟨o1, o2, o3, o4, o5⟩ := ok
  obtain ⟨h1, h2, h3, h4, h5, h6⟩ := h
  exact m_place h1 o1 (fun S'  hx => ⟨rfl, kMF h1 hx (by first | decide | simp) (by first | decide | simp) (by first | decide | simp) (by first | decide | simp), kML h2 hx (by first | decide | simp) (by first | decide | simp) (by first | decide | simp), kMT h3 hx (by first | decide | simp) (by first | decide | simp), kMH h4 hx (fun j a b e => by unfold scD at e; omega), kMK h5 hx (by first | decide | simp) (by first | decide | simp) (by first | decide | simp) (by first | decide | simp) (fun j a b e => by unfold scD at e; omega), kMC h6 hx (fun j a b e => by unfold scD at e; omega)⟩)
noncomputable def ra_block (z : TA) (v x j : Int32) : Int32 × TA := ((q_block z.1 v x j), (z.1, z.2.1, z.2.2.1, z.2.2.2.1, z.2.2.2.2))
theorem ka_block {z : TA} (ok : okA z) (v x j : Int32) : okA (ra_block z v x j).2 := by
  obtain ⟨F, L, T, H, K⟩ := z
  obtain ⟨o1, o2, o3, o4, o5⟩ := ok
  exact ⟨o1, o2, o3, o4, o5⟩
theorem xa_block {S : St} {z : TA} (ok : okA z) (h : XA S z) (v x j : Int32) : w_X8_block v x j (fun r S' => r = (ra_block z v x j).1 ∧ XA S' (ra_block z v x j).2) S := by
  obtain ⟨F, L, T, H, K⟩ := z
  obtain ⟨o1, o2, o3, o4, o5⟩ := ok
  obtain ⟨h1, h2, h3, h4, h5⟩ := h
  exact x_block h1 o1 (fun S'  hx => ⟨rfl, kXF h1 o1 hx (fun j a b e => by unfold scP at e; omega), kXL h2 hx (by first | decide | simp) (by first | decide | simp), kXT h3 hx (by first | decide | simp) (by first | decide | simp), kXH h4 hx (fun j a b e => by unfold scP at e; omega), kXK h5 o5 hx (by first | decide | simp) (fun j a b e => by unfold scP at e; omega) (by first | decide | simp) (by first | decide | simp)⟩)
theorem ma_block {S : St} {z : TA} (ok : okA z) (h : MA S z) (v x j : Int32) : w_X9_block v x j (fun r S' => r = (ra_block z v x j).1 ∧ MA S' (ra_block z v x j).2) S := by
  obtain ⟨F, L, T, H, K⟩ := z
  obtain ⟨o1, o2, o3, o4, o5⟩ := ok
  obtain ⟨h1, h2, h3, h4, h5, h6⟩ := h
  exact m_block h1 o1 (fun S'  hx => ⟨rfl, kMF h1 hx (by first | decide | simp) (by first | decide | simp) (by first | decide | simp) (by first | decide | simp), kML h2 hx (by first | decide | simp) (by first | decide | simp) (by first | decide | simp), kMT h3 hx (by first | decide | simp) (by first | decide | simp), kMH h4 hx (fun j a b e => by unfold scB at e; omega), kMK h5 hx (by first | decide | simp) (by first | decide | simp) (by first | decide | simp) (by first | decide | simp) (fun j a b e => by unfold scB at e; omega), kMC h6 hx (fun j a b e => by unfold scB at e; omega)⟩)
noncomputable def ra_nines (z : TA) (v x : Int32) : Int32 × TA := ((q_nines z.1 v x), (z.1, z.2.1, z.2.2.1, z.2.2.2.1, z.2.2.2.2))
theorem ka_nines {z : TA} (ok : okA z) (v x : Int32) : okA (ra_nines z v x).2 := by
  obtain ⟨F, L, T, H, K⟩ := z
  obtain ⟨o1, o2, o3, o4, o5⟩ := ok
  exact ⟨o1, o2, o3, o4, o5⟩
theorem xa_nines {S : St} {z : TA} (ok : okA z) (h : XA S z) (v x : Int32) : w_X8_nines v x (fun r S' => r = (ra_nines z v x).1 ∧ XA S' (ra_nines z v x).2) S := by
  obtain ⟨F, L, T, H, K⟩ := z
  obtain ⟨o1, o2, o3, o4, o5⟩ := ok
  obtain ⟨h1, h2, h3, h4, h5⟩ := h
  exact x_nines h1 o1 ⟨rfl, h1, h2, h3, h4, h5⟩
theorem ma_nines {S : St} {z : TA} (ok : okA z) (h : MA S z) (v x : Int32) : w_X9_nines v x (fun r S' => r = (ra_nines z v x).1 ∧ MA S' (ra_nines z v x).2) S := by
  obtain ⟨F, L, T, H, K⟩ := z
  obtain ⟨o1, o2, o3, o4, o5⟩ := ok
  obtain ⟨h1, h2, h3, h4, h5, h6⟩ := h
  exact m_nines h1 o1 (fun S'  hx => ⟨rfl, kMF h1 hx (by first | decide | simp) (by first | decide | simp) (by first | decide | simp) (by first | decide | simp), kML h2 hx (by first | decide | simp) (by first | decide | simp) (by first | decide | simp), kMT h3 hx (by first | decide | simp) (by first | decide | simp), kMH h4 hx (fun j a b e => by unfold scB at e; omega), kMK h5 hx (by first | decide | simp) (by first | decide | simp) (by first | decide | simp) (by first | decide | simp) (fun j a b e => by unfold scB at e; omega), kMC h6 hx (fun j a b e => by unfold scB at e; omega)⟩)
noncomputable def ra_shift (z : TA) (v m : Int32) : Int32 × TA := ((q_shift z.1 v m), (z.1, z.2.1, z.2.2.1, z.2.2.2.1, z.2.2.2.2))
theorem ka_shift {z : TA} (ok : okA z) (v m : Int32) : okA (ra_shift z v m).2 := by
  obtain ⟨F, L, T, H, K⟩ := z
  obtain ⟨o1, o2, o3, o4, o5⟩ := ok
  exact ⟨o1, o2, o3, o4, o5⟩
theorem xa_shift {S : St} {z : TA} (ok : okA z) (h : XA S z) (v m : Int32) : w_X8_shift v m (fun r S' => r = (ra_shift z v m).1 ∧ XA S' (ra_shift z v m).2) S := by
  obtain ⟨F, L, T, H, K⟩ := z
  obtain ⟨o1, o2, o3, o4, o5⟩ := ok
  obtain ⟨h1, h2, h3, h4, h5⟩ := h
  exact x_shift h1 o1 ⟨rfl, h1, h2, h3, h4, h5⟩
theorem ma_shift {S : St} {z : TA} (ok : okA z) (h : MA S z) (v m : Int32) : w_X9_shift v m (fun r S' => r = (ra_shift z v m).1 ∧ MA S' (ra_shift z v m).2) S := by
  obtain ⟨F, L, T, H, K⟩ := z
  obtain ⟨o1, o2, o3, o4, o5⟩ := ok
  obtain ⟨h1, h2, h3, h4, h5, h6⟩ := h
  exact m_shift h1 o1 (fun S'  hx => ⟨rfl, kMF h1 hx (by first | decide | simp) (by first | decide | simp) (by first | decide | simp) (by first | decide | simp), kML h2 hx (by first | decide | simp) (by first | decide | simp) (by first | decide | simp), kMT h3 hx (by first | decide | simp) (by first | decide | simp), kMH h4 hx (fun j a b e => by unfold scR at e; omega), kMK h5 hx (by first | decide | simp) (by first | decide | simp) (by first | decide | simp) (by first | decide | simp) (fun j a b e => by unfold scR at e; omega), kMC h6 hx (fun j a b e => by unfold scR at e; omega)⟩)
noncomputable def ra_multiple (z : TA) (v s : Int32) : Int32 × TA := ((q_multiple z.1 v s), (z.1, z.2.1, z.2.2.1, z.2.2.2.1, z.2.2.2.2))
theorem ka_multiple {z : TA} (ok : okA z) (v s : Int32) : okA (ra_multiple z v s).2 := by
  obtain ⟨F, L, T, H, K⟩ := z
  obtain ⟨o1, o2, o3, o4, o5⟩ := ok
  exact ⟨o1, o2, o3, o4, o5⟩
theorem xa_multiple {S : St} {z : TA} (ok : okA z) (h : XA S z) (v s : Int32) : w_X8_multiple v s (fun r S' => r = (ra_multiple z v s).1 ∧ XA S' (ra_multiple z v s).2) S := by
  obtain ⟨F, L, T, H, K⟩ := z
  obtain ⟨o1, o2, o3, o4, o5⟩ := ok
  obtain ⟨h1, h2, h3, h4, h5⟩ := h
  exact x_multiple h1 o1 ⟨rfl, h1, h2, h3, h4, h5⟩
theorem ma_multiple {S : St} {z : TA} (ok : okA z) (h : MA S z) (v s : Int32) : w_X9_multiple v s (fun r S' => r = (ra_multiple z v s).1 ∧ MA S' (ra_multiple z v s).2) S := by
  obtain ⟨F, L, T, H, K⟩ := z
  obtain ⟨o1, o2, o3, o4, o5⟩ := ok
  obtain ⟨h1, h2, h3, h4, h5, h6⟩ := h
  exact m_multiple h1 o1 (fun S'  hx => ⟨rfl, kMF h1 hx (by first | decide | simp) (by first | decide | simp) (by first | decide | simp) (by first | decide | simp), kML h2 hx (by first | decide | simp) (by first | decide | simp) (by first | decide | simp), kMT h3 hx (by first | decide | simp) (by first | decide | simp), kMH h4 hx (fun j a b e => by unfold scR at e; omega), kMK h5 hx (by first | decide | simp) (by first | decide | simp) (by first | decide | simp) (by first | decide | simp) (fun j a b e => by unfold scR at e; omega), kMC h6 hx (fun j a b e => by unfold scR at e; omega)⟩)
noncomputable def ra_order (z : TA) (v w : Int32) : Int32 × TA := ((q_order v w), (z.1, z.2.1, z.2.2.1, z.2.2.2.1, z.2.2.2.2))
theorem ka_order {z : TA} (ok : okA z) (v w : Int32) : okA (ra_order z v w).2 := by
  obtain ⟨F, L, T, H, K⟩ := z
  obtain ⟨o1, o2, o3, o4, o5⟩ := ok
  exact ⟨o1, o2, o3, o4, o5⟩
theorem xa_order {S : St} {z : TA} (ok : okA z) (h : XA S z) (v w : Int32) : w_X8_order v w (fun r S' => r = (ra_order z v w).1 ∧ XA S' (ra_order z v w).2) S := by
  obtain ⟨F, L, T, H, K⟩ := z
  obtain ⟨o1, o2, o3, o4, o5⟩ := ok
  obtain ⟨h1, h2, h3, h4, h5⟩ := h
  exact x_order  ⟨rfl, h1, h2, h3, h4, h5⟩
theorem ma_order {S : St} {z : TA} (ok : okA z) (h : MA S z) (v w : Int32) : w_X9_order v w (fun r S' => r = (ra_order z v w).1 ∧ MA S' (ra_order z v w).2) S := by
  obtain ⟨F, L, T, H, K⟩ := z
  obtain ⟨o1, o2, o3, o4, o5⟩ := ok
  obtain ⟨h1, h2, h3, h4, h5, h6⟩ := h
  exact m_order  ⟨rfl, h1, h2, h3, h4, h5, h6⟩
noncomputable def ra_cycles (z : TA) (v t w : Int32) : Int32 × TA := ((q_cycles v t w), (z.1, z.2.1, z.2.2.1, z.2.2.2.1, z.2.2.2.2))
theorem ka_cycles {z : TA} (ok : okA z) (v t w : Int32) : okA (ra_cycles z v t w).2 := by
  obtain ⟨F, L, T, H, K⟩ := z
  obtain ⟨o1, o2, o3, o4, o5⟩ := ok
  exact ⟨o1, o2, o3, o4, o5⟩
theorem xa_cycles {S : St} {z : TA} (ok : okA z) (h : XA S z) (v t w : Int32) : w_X8_cycles v t w (fun r S' => r = (ra_cycles z v t w).1 ∧ XA S' (ra_cycles z v t w).2) S := by
  obtain ⟨F, L, T, H, K⟩ := z
  obtain ⟨o1, o2, o3, o4, o5⟩ := ok
  obtain ⟨h1, h2, h3, h4, h5⟩ := h
  exact x_cycles  (fun S'  hx => ⟨rfl, kXF h1 o1 hx (fun j a b e => by unfold scN at e; omega), kXL h2 hx (by first | decide | simp) (by first | decide | simp), kXT h3 hx (by first | decide | simp) (by first | decide | simp), kXH h4 hx (fun j a b e => by unfold scN at e; omega), kXK h5 o5 hx (by first | decide | simp) (fun j a b e => by unfold scN at e; omega) (by first | decide | simp) (by first | decide | simp)⟩)
theorem ma_cycles {S : St} {z : TA} (ok : okA z) (h : MA S z) (v t w : Int32) : w_X9_cycles v t w (fun r S' => r = (ra_cycles z v t w).1 ∧ MA S' (ra_cycles z v t w).2) S := by
  obtain ⟨F, L, T, H, K⟩ := z
  obtain ⟨o1, o2, o3, o4, o5⟩ := ok
  obtain ⟨h1, h2, h3, h4, h5, h6⟩ := h
  exact m_cycles  (fun S'  hx => ⟨rfl, kMF h1 hx (by first | decide | simp) (by first | decide | simp) (by first | decide | simp) (by first | decide | simp), kML h2 hx (by first | decide | simp) (by first | decide | simp) (by first | decide | simp), kMT h3 hx (by first | decide | simp) (by first | decide | simp), kMH h4 hx (fun j a b e => by unfold scD at e; omega), kMK h5 hx (by first | decide | simp) (by first | decide | simp) (by first | decide | simp) (by first | decide | simp) (fun j a b e => by unfold scD at e; omega), kMC h6 hx (fun j a b e => by unfold scD at e; omega)⟩)
noncomputable def ra_full (z : TA) (v f t w : Int32) : Int32 × TA := ((q_full v f t w), (z.1, z.2.1, z.2.2.1, z.2.2.2.1, z.2.2.2.2))
theorem ka_full {z : TA} (ok : okA z) (v f t w : Int32) : okA (ra_full z v f t w).2 := by
  obtain ⟨F, L, T, H, K⟩ := z
  obtain ⟨o1, o2, o3, o4, o5⟩ := ok
  exact ⟨o1, o2, o3, o4, o5⟩
theorem xa_full {S : St} {z : TA} (ok : okA z) (h : XA S z) (v f t w : Int32) : w_X8_full v f t w (fun r S' => r = (ra_full z v f t w).1 ∧ XA S' (ra_full z v f t w).2) S := by
  obtain ⟨F, L, T, H, K⟩ := z
  obtain ⟨o1, o2, o3, o4, o5⟩ := ok
  obtain ⟨h1, h2, h3, h4, h5⟩ := h
  exact x_full  (fun S'  hx => ⟨rfl, kXF h1 o1 hx (fun j a b e => by unfold scU at e; omega), kXL h2 hx (by first | decide | simp) (by first | decide | simp), kXT h3 hx (by first | decide | simp) (by first | decide | simp), kXH h4 hx (fun j a b e => by unfold scU at e; omega), kXK h5 o5 hx (by first | decide | simp) (fun j a b e => by unfold scU at e; omega) (by first | decide | simp) (by first | decide | simp)⟩)
theorem ma_full {S : St} {z : TA} (ok : okA z) (h : MA S z) (v f t w : Int32) : w_X9_full v f t w (fun r S' => r = (ra_full z v f t w).1 ∧ MA S' (ra_full z v f t w).2) S := by
  obtain ⟨F, L, T, H, K⟩ := z
  obtain ⟨o1, o2, o3, o4, o5⟩ := ok
  obtain ⟨h1, h2, h3, h4, h5, h6⟩ := h
  exact m_full  (fun S'  hx => ⟨rfl, kMF h1 hx (by first | decide | simp) (by first | decide | simp) (by first | decide | simp) (by first | decide | simp), kML h2 hx (by first | decide | simp) (by first | decide | simp) (by first | decide | simp), kMT h3 hx (by first | decide | simp) (by first | decide | simp), kMH h4 hx (fun j a b e => by unfold scD at e; omega), kMK h5 hx (by first | decide | simp) (by first | decide | simp) (by first | decide | simp) (by first | decide | simp) (fun j a b e => by unfold scD at e; omega), kMC h6 hx (fun j a b e => by unfold scD at e; omega)⟩)
noncomputable def ra_list (z : TA) (v w : Int32) : Int32 × TA := ((q_list z.2.1 v w).1, (z.1, (q_list z.2.1 v w).2, z.2.2.1, z.2.2.2.1, z.2.2.2.2))
theorem ka_list {z : TA} (ok : okA z) (v w : Int32) : okA (ra_list z v w).2 := by
  obtain ⟨F, L, T, H, K⟩ := z
  obtain ⟨o1, o2, o3, o4, o5⟩ := ok
  exact ⟨o1, ok_list o2 _ _, o3, o4, o5⟩
theorem xa_list {S : St} {z : TA} (ok : okA z) (h : XA S z) (v w : Int32) : w_X8_list v w (fun r S' => r = (ra_list z v w).1 ∧ XA S' (ra_list z v w).2) S := by
  obtain ⟨F, L, T, H, K⟩ := z
  obtain ⟨o1, o2, o3, o4, o5⟩ := ok
  obtain ⟨h1, h2, h3, h4, h5⟩ := h
  exact x_list h2 (fun S' a1 hx => ⟨rfl, kXF h1 o1 hx (fun j a b e => by unfold scL at e; omega), a1, kXT h3 hx (by first | decide | simp) (by first | decide | simp), kXH h4 hx (fun j a b e => by unfold scL at e; omega), kXK h5 o5 hx (by first | decide | simp) (fun j a b e => by unfold scL at e; omega) (by first | decide | simp) (by first | decide | simp)⟩)
theorem ma_list {S : St} {z : TA} (ok : okA z) (h : MA S z) (v w : Int32) : w_X9_list v w (fun r S' => r = (ra_list z v w).1 ∧ MA S' (ra_list z v w).2) S := by
  obtain ⟨F, L, T, H, K⟩ := z
  obtain ⟨o1, o2, o3, o4, o5⟩ := ok
  obtain ⟨h1, h2, h3, h4, h5, h6⟩ := h
  exact m_list h2 (fun S' a1 hx => ⟨rfl, kMF h1 hx (by first | decide | simp) (by first | decide | simp) (by first | decide | simp) (by first | decide | simp), a1, kMT h3 hx (by first | decide | simp) (by first | decide | simp), kMH h4 hx (fun j a b e => by unfold scLm at e; omega), kMK h5 hx (by first | decide | simp) (by first | decide | simp) (by first | decide | simp) (by first | decide | simp) (fun j a b e => by unfold scLm at e; omega), kMC h6 hx (fun j a b e => by unfold scLm at e; omega)⟩)
noncomputable def ra_thin (z : TA) : Int32 × TA := ((q_thin z.2.1 z.2.2.1).1, (z.1, (q_thin z.2.1 z.2.2.1).2.1, (q_thin z.2.1 z.2.2.1).2.2, z.2.2.2.1, z.2.2.2.2))
theorem ka_thin {z : TA} (ok : okA z) : okA (ra_thin z ).2 := by
  obtain ⟨F, L, T, H, K⟩ := z
  obtain ⟨o1, o2, o3, o4, o5⟩ := ok
  exact ⟨o1, (ok_thin o2 o3).1, (ok_thin o2 o3).2, o4, o5⟩
theorem xa_thin {S : St} {z : TA} (ok : okA z) (h : XA S z) : w_X8_thin  (fun r S' => r = (ra_thin z ).1 ∧ XA S' (ra_thin z ).2) S := by
  obtain ⟨F, L, T, H, K⟩ := z
  obtain ⟨o1, o2, o3, o4, o5⟩ := ok
  obtain ⟨h1, h2, h3, h4, h5⟩ := h
  exact x_thin h2 o2 h3 o3 (fun S' a1 a2 hx => ⟨rfl, kXF h1 o1 hx (fun j a b e => by unfold scX at e; omega), a1, a2, kXH h4 hx (fun j a b e => by unfold scX at e; omega), kXK h5 o5 hx (by first | decide | simp) (fun j a b e => by unfold scX at e; omega) (by first | decide | simp) (by first | decide | simp)⟩)
theorem ma_thin {S : St} {z : TA} (ok : okA z) (h : MA S z) : w_X9_thin  (fun r S' => r = (ra_thin z ).1 ∧ MA S' (ra_thin z ).2) S := by
  obtain ⟨F, L, T, H, K⟩ := z
  obtain ⟨o1, o2, o3, o4, o5⟩ := ok
  obtain ⟨h1, h2, h3, h4, h5, h6⟩ := h
  exact m_thin h2 o2 h3 o3 h6 (fun S' a1 a2 hx => ⟨rfl, kMF h1 hx (by first | decide | simp) (by first | decide | simp) (by first | decide | simp) (by first | decide | simp), a1, a2, kMH h4 hx (fun j a b e => by unfold scWm at e; omega), kMK h5 hx (by first | decide | simp) (by first | decide | simp) (by first | decide | simp) (by first | decide | simp) (fun j a b e => by unfold scWm at e; omega), kMC h6 hx (fun j a b e => by unfold scWm at e; omega)⟩)
noncomputable def ra_listed (z : TA) (v : Int32) : Int32 × TA := ((q_listed z.2.1 v), (z.1, z.2.1, z.2.2.1, z.2.2.2.1, z.2.2.2.2))
theorem ka_listed {z : TA} (ok : okA z) (v : Int32) : okA (ra_listed z v).2 := by
  obtain ⟨F, L, T, H, K⟩ := z
  obtain ⟨o1, o2, o3, o4, o5⟩ := ok
  exact ⟨o1, o2, o3, o4, o5⟩
theorem xa_listed {S : St} {z : TA} (ok : okA z) (h : XA S z) (v : Int32) : w_X8_listed v (fun r S' => r = (ra_listed z v).1 ∧ XA S' (ra_listed z v).2) S := by
  obtain ⟨F, L, T, H, K⟩ := z
  obtain ⟨o1, o2, o3, o4, o5⟩ := ok
  obtain ⟨h1, h2, h3, h4, h5⟩ := h
  exact x_listed h2 o2 ⟨rfl, h1, h2, h3, h4, h5⟩
theorem ma_listed {S : St} {z : TA} (ok : okA z) (h : MA S z) (v : Int32) : w_X9_listed v (fun r S' => r = (ra_listed z v).1 ∧ MA S' (ra_listed z v).2) S := by
  obtain ⟨F, L, T, H, K⟩ := z
  obtain ⟨o1, o2, o3, o4, o5⟩ := ok
  obtain ⟨h1, h2, h3, h4, h5, h6⟩ := h
  exact m_listed h2 o2 ⟨rfl, h1, h2, h3, h4, h5, h6⟩
noncomputable def ra_tells (z : TA) (x t v : Int32) : Int64 × TA := ((q_tells z.1 x t v), (z.1, z.2.1, z.2.2.1, z.2.2.2.1, z.2.2.2.2))
theorem ka_tells {z : TA} (ok : okA z) (x t v : Int32) : okA (ra_tells z x t v).2 := by
  obtain ⟨F, L, T, H, K⟩ := z
  obtain ⟨o1, o2, o3, o4, o5⟩ := ok
  exact ⟨o1, o2, o3, o4, o5⟩
theorem xa_tells {S : St} {z : TA} (ok : okA z) (h : XA S z) (x t v : Int32) : w_X8_tells x t v (fun r S' => r = (ra_tells z x t v).1 ∧ XA S' (ra_tells z x t v).2) S := by
  obtain ⟨F, L, T, H, K⟩ := z
  obtain ⟨o1, o2, o3, o4, o5⟩ := ok
  obtain ⟨h1, h2, h3, h4, h5⟩ := h
  exact x_tells h1 o1 (fun S'  hx => ⟨rfl, kXF h1 o1 hx (fun j a b e => by unfold scP at e; omega), kXL h2 hx (by first | decide | simp) (by first | decide | simp), kXT h3 hx (by first | decide | simp) (by first | decide | simp), kXH h4 hx (fun j a b e => by unfold scP at e; omega), kXK h5 o5 hx (by first | decide | simp) (fun j a b e => by unfold scP at e; omega) (by first | decide | simp) (by first | decide | simp)⟩)
theorem ma_tells {S : St} {z : TA} (ok : okA z) (h : MA S z) (x t v : Int32) : w_X9_tells x t v (fun r S' => r = (ra_tells z x t v).1 ∧ MA S' (ra_tells z x t v).2) S := by
  obtain ⟨F, L, T, H, K⟩ := z
  obtain ⟨o1, o2, o3, o4, o5⟩ := ok
  obtain ⟨h1, h2, h3, h4, h5, h6⟩ := h
  exact m_tells h1 o1 (fun S'  hx => ⟨rfl, kMF h1 hx (by first | decide | simp) (by first | decide | simp) (by first | decide | simp) (by first | decide | simp), kML h2 hx (by first | decide | simp) (by first | decide | simp) (by first | decide | simp), kMT h3 hx (by first | decide | simp) (by first | decide | simp), kMH h4 hx (fun j a b e => by unfold scD at e; omega), kMK h5 hx (by first | decide | simp) (by first | decide | simp) (by first | decide | simp) (by first | decide | simp) (fun j a b e => by unfold scD at e; omega), kMC h6 hx (fun j a b e => by unfold scD at e; omega)⟩)
noncomputable def ra_feed (z : TA) (v w : Int32) : Int32 × TA := ((q_feed z.2.2.1 v w).1, (z.1, z.2.1, (q_feed z.2.2.1 v w).2, z.2.2.2.1, z.2.2.2.2))
theorem ka_feed {z : TA} (ok : okA z) (v w : Int32) : okA (ra_feed z v w).2 := by
  obtain ⟨F, L, T, H, K⟩ := z
  obtain ⟨o1, o2, o3, o4, o5⟩ := ok
  exact ⟨o1, o2, ok_feed o3 _ _, o4, o5⟩
theorem xa_feed {S : St} {z : TA} (ok : okA z) (h : XA S z) (v w : Int32) : w_X8_feed v w (fun r S' => r = (ra_feed z v w).1 ∧ XA S' (ra_feed z v w).2) S := by
  obtain ⟨F, L, T, H, K⟩ := z
  obtain ⟨o1, o2, o3, o4, o5⟩ := ok
  obtain ⟨h1, h2, h3, h4, h5⟩ := h
  exact x_feed h3 o3 (fun S' a2 hx => ⟨rfl, kXF h1 o1 hx (fun j a b e => by unfold scT at e; omega), kXL h2 hx (by first | decide | simp) (by first | decide | simp), a2, kXH h4 hx (fun j a b e => by unfold scT at e; omega), kXK h5 o5 hx (by first | decide | simp) (fun j a b e => by unfold scT at e; omega) (by first | decide | simp) (by first | decide | simp)⟩)
theorem ma_feed {S : St} {z : TA} (ok : okA z) (h : MA S z) (v w : Int32) : w_X9_feed v w (fun r S' => r = (ra_feed z v w).1 ∧ MA S' (ra_feed z v w).2) S := by
  obtain ⟨F, L, T, H, K⟩ := z
  obtain ⟨o1, o2, o3, o4, o5⟩ := ok
  obtain ⟨h1, h2, h3, h4, h5, h6⟩ := h
  exact m_feed h3 o3 (fun S' a2 hx => ⟨rfl, kMF h1 hx (by first | decide | simp) (by first | decide | simp) (by first | decide | simp) (by first | decide | simp), kML h2 hx (by first | decide | simp) (by first | decide | simp) (by first | decide | simp), a2, kMH h4 hx (fun j a b e => by unfold scTm at e; omega), kMK h5 hx (by first | decide | simp) (by first | decide | simp) (by first | decide | simp) (by first | decide | simp) (fun j a b e => by unfold scTm at e; omega), kMC h6 hx (fun j a b e => by unfold scTm at e; omega)⟩)
noncomputable def ra_wipe (z : TA) : Int32 × TA := ((nI z.2.2.1.1), (z.1, z.2.1, (0, z.2.2.1.2), z.2.2.2.1, z.2.2.2.2))
theorem ka_wipe {z : TA} (ok : okA z) : okA (ra_wipe z ).2 := by
  obtain ⟨F, L, T, H, K⟩ := z
  obtain ⟨o1, o2, o3, o4, o5⟩ := ok
  exact ⟨o1, o2, ⟨by show 0 ≤ 80; omega, fun i hi => absurd hi (Nat.not_lt_zero i)⟩, o4, o5⟩
theorem xa_wipe {S : St} {z : TA} (ok : okA z) (h : XA S z) : w_X8_wipe  (fun r S' => r = (ra_wipe z ).1 ∧ XA S' (ra_wipe z ).2) S := by
  obtain ⟨F, L, T, H, K⟩ := z
  obtain ⟨o1, o2, o3, o4, o5⟩ := ok
  obtain ⟨h1, h2, h3, h4, h5⟩ := h
  exact x_wipe h3 (fun S' a2 hx => ⟨rfl, kXF h1 o1 hx (fun j a b e => by unfold scT at e; omega), kXL h2 hx (by first | decide | simp) (by first | decide | simp), a2, kXH h4 hx (fun j a b e => by unfold scT at e; omega), kXK h5 o5 hx (by first | decide | simp) (fun j a b e => by unfold scT at e; omega) (by first | decide | simp) (by first | decide | simp)⟩)
theorem ma_wipe {S : St} {z : TA} (ok : okA z) (h : MA S z) : w_X9_wipe  (fun r S' => r = (ra_wipe z ).1 ∧ MA S' (ra_wipe z ).2) S := by
  obtain ⟨F, L, T, H, K⟩ := z
  obtain ⟨o1, o2, o3, o4, o5⟩ := ok
  obtain ⟨h1, h2, h3, h4, h5, h6⟩ := h
  exact m_wipe h3 (fun S' a2 hx => ⟨rfl, kMF h1 hx (by first | decide | simp) (by first | decide | simp) (by first | decide | simp) (by first | decide | simp), kML h2 hx (by first | decide | simp) (by first | decide | simp) (by first | decide | simp), a2, kMH h4 hx (fun j a b e => by unfold scTm at e; omega), kMK h5 hx (by first | decide | simp) (by first | decide | simp) (by first | decide | simp) (by first | decide | simp) (fun j a b e => by unfold scTm at e; omega), kMC h6 hx (fun j a b e => by unfold scTm at e; omega)⟩)
noncomputable def ra_spell (z : TA) (v w : Int32) : Int32 × TA := ((q_spell z.1 v w), (z.1, z.2.1, z.2.2.1, z.2.2.2.1, z.2.2.2.2))
theorem ka_spell {z : TA} (ok : okA z) (v w : Int32) : okA (ra_spell z v w).2 := by
  obtain ⟨F, L, T, H, K⟩ := z
  obtain ⟨o1, o2, o3, o4, o5⟩ := ok
  exact ⟨o1, o2, o3, o4, o5⟩
theorem xa_spell {S : St} {z : TA} (ok : okA z) (h : XA S z) (v w : Int32) : w_X8_spell v w (fun r S' => r = (ra_spell z v w).1 ∧ XA S' (ra_spell z v w).2) S := by
  obtain ⟨F, L, T, H, K⟩ := z
  obtain ⟨o1, o2, o3, o4, o5⟩ := ok
  obtain ⟨h1, h2, h3, h4, h5⟩ := h
  exact x_spell h1 o1 ⟨rfl, h1, h2, h3, h4, h5⟩
theorem ma_spell {S : St} {z : TA} (ok : okA z) (h : MA S z) (v w : Int32) : w_X9_spell v w (fun r S' => r = (ra_spell z v w).1 ∧ MA S' (ra_spell z v w).2) S := by
  obtain ⟨F, L, T, H, K⟩ := z
  obtain ⟨o1, o2, o3, o4, o5⟩ := ok
  obtain ⟨h1, h2, h3, h4, h5, h6⟩ := h
  exact m_spell h1 o1 (fun S'  hx => ⟨rfl, kMF h1 hx (by first | decide | simp) (by first | decide | simp) (by first | decide | simp) (by first | decide | simp), kML h2 hx (by first | decide | simp) (by first | decide | simp) (by first | decide | simp), kMT h3 hx (by first | decide | simp) (by first | decide | simp), kMH h4 hx (fun j a b e => by unfold scD at e; omega), kMK h5 hx (by first | decide | simp) (by first | decide | simp) (by first | decide | simp) (by first | decide | simp) (fun j a b e => by unfold scD at e; omega), kMC h6 hx (fun j a b e => by unfold scD at e; omega)⟩)
noncomputable def ra_read (z : TA) (v : Int32) : Int32 × TA := ((q_read z.1 z.2.2.1 v).1, ((q_read z.1 z.2.2.1 v).2.1, z.2.1, (q_read z.1 z.2.2.1 v).2.2, z.2.2.2.1, z.2.2.2.2))
theorem ka_read {z : TA} (ok : okA z) (v : Int32) : okA (ra_read z v).2 := by
  obtain ⟨F, L, T, H, K⟩ := z
  obtain ⟨o1, o2, o3, o4, o5⟩ := ok
  exact ⟨(ok_read o1 T _ o3).1, o2, (ok_read o1 T _ o3).2, o4, o5⟩
theorem xa_read {S : St} {z : TA} (ok : okA z) (h : XA S z) (v : Int32) : w_X8_read v (fun r S' => r = (ra_read z v).1 ∧ XA S' (ra_read z v).2) S := by
  obtain ⟨F, L, T, H, K⟩ := z
  obtain ⟨o1, o2, o3, o4, o5⟩ := ok
  obtain ⟨h1, h2, h3, h4, h5⟩ := h
  exact x_read h1 o1 h3 o3 (fun S' a0 a2 hx => ⟨rfl, a0, kXL h2 hx (by first | decide | simp) (by first | decide | simp), a2, kXH h4 hx (fun j a b e => by unfold scRx at e; omega), kXK h5 o5 hx (by first | decide | simp) (fun j a b e => by unfold scRx at e; omega) (by first | decide | simp) (by first | decide | simp)⟩)
theorem ma_read {S : St} {z : TA} (ok : okA z) (h : MA S z) (v : Int32) : w_X9_read v (fun r S' => r = (ra_read z v).1 ∧ MA S' (ra_read z v).2) S := by
  obtain ⟨F, L, T, H, K⟩ := z
  obtain ⟨o1, o2, o3, o4, o5⟩ := ok
  obtain ⟨h1, h2, h3, h4, h5, h6⟩ := h
  exact m_read h1 o1 h3 o3 (fun S' a0 a2 hx => ⟨rfl, a0, kML h2 hx (by first | decide | simp) (by first | decide | simp) (by first | decide | simp), a2, kMH h4 hx (fun j a b e => by unfold E1 at e; omega), kMK h5 hx (by first | decide | simp) (by first | decide | simp) (by first | decide | simp) (by first | decide | simp) (fun j a b e => by unfold E1 at e; omega), kMC h6 hx (fun j a b e => by unfold E1 at e; omega)⟩)
noncomputable def ra_run (z : TA) : Int32 × TA := ((q_run z.1 z.2.2.1).1, ((q_run z.1 z.2.2.1).2.1, z.2.1, (q_run z.1 z.2.2.1).2.2, z.2.2.2.1, z.2.2.2.2))
theorem ka_run {z : TA} (ok : okA z) : okA (ra_run z ).2 := by
  obtain ⟨F, L, T, H, K⟩ := z
  obtain ⟨o1, o2, o3, o4, o5⟩ := ok
  exact ⟨(ok_run o1 T).1, o2, (ok_run o1 T).2, o4, o5⟩
theorem xa_run {S : St} {z : TA} (ok : okA z) (h : XA S z) : w_X8_run  (fun r S' => r = (ra_run z ).1 ∧ XA S' (ra_run z ).2) S := by
  obtain ⟨F, L, T, H, K⟩ := z
  obtain ⟨o1, o2, o3, o4, o5⟩ := ok
  obtain ⟨h1, h2, h3, h4, h5⟩ := h
  exact x_run h1 o1 h3 o3 (fun S' a0 a2 hx => ⟨rfl, a0, kXL h2 hx (by first | decide | simp) (by first | decide | simp), a2, kXH h4 hx (fun j a b e => by unfold scRu at e; omega), kXK h5 o5 hx (by first | decide | simp) (fun j a b e => by unfold scRu at e; omega) (by first | decide | simp) (by first | decide | simp)⟩)
theorem ma_run {S : St} {z : TA} (ok : okA z) (h : MA S z) : w_X9_run  (fun r S' => r = (ra_run z ).1 ∧ MA S' (ra_run z ).2) S := by
  obtain ⟨F, L, T, H, K⟩ := z
  obtain ⟨o1, o2, o3, o4, o5⟩ := ok
  obtain ⟨h1, h2, h3, h4, h5, h6⟩ := h
  exact m_run h1 o1 h3 o3 h6 (fun S' a0 a2 hx => ⟨rfl, a0, kML h2 hx (by first | decide | simp) (by first | decide | simp) (by first | decide | simp), a2, kMH h4 hx (fun j a b e => by unfold scRm at e; omega), kMK h5 hx (by first | decide | simp) (by first | decide | simp) (by first | decide | simp) (by first | decide | simp) (fun j a b e => by unfold scRm at e; omega), kMC h6 hx (fun j a b e => by unfold scRm at e; omega)⟩)
noncomputable def ra_hold (z : TA) (v w : Int32) : Int32 × TA := ((q_hold z.1 z.2.2.2.1 v w).1, (z.1, z.2.1, z.2.2.1, (q_hold z.1 z.2.2.2.1 v w).2, z.2.2.2.2))
theorem ka_hold {z : TA} (ok : okA z) (v w : Int32) : okA (ra_hold z v w).2 := by
  obtain ⟨F, L, T, H, K⟩ := z
  obtain ⟨o1, o2, o3, o4, o5⟩ := ok
  exact ⟨o1, o2, o3, ok_hold o1 o4 _ _, o5⟩
theorem xa_hold {S : St} {z : TA} (ok : okA z) (h : XA S z) (v w : Int32) : w_X8_hold v w (fun r S' => r = (ra_hold z v w).1 ∧ XA S' (ra_hold z v w).2) S := by
  obtain ⟨F, L, T, H, K⟩ := z
  obtain ⟨o1, o2, o3, o4, o5⟩ := ok
  obtain ⟨h1, h2, h3, h4, h5⟩ := h
  exact x_hold h1 o1 h4 (fun S' a3 hx => ⟨rfl, kXF h1 o1 hx (fun j a b e => by unfold scH at e; omega), kXL h2 hx (by first | decide | simp) (by first | decide | simp), kXT h3 hx (by first | decide | simp) (by first | decide | simp), a3, kXK h5 o5 hx (by first | decide | simp) (fun j a b e => by unfold scH at e; omega) (by first | decide | simp) (by first | decide | simp)⟩)
theorem ma_hold {S : St} {z : TA} (ok : okA z) (h : MA S z) (v w : Int32) : w_X9_hold v w (fun r S' => r = (ra_hold z v w).1 ∧ MA S' (ra_hold z v w).2) S := by
  obtain ⟨F, L, T, H, K⟩ := z
  obtain ⟨o1, o2, o3, o4, o5⟩ := ok
  obtain ⟨h1, h2, h3, h4, h5, h6⟩ := h
  exact m_hold h1 o1 h4 o4 (fun S' a3 hx => ⟨rfl, kMF h1 hx (by first | decide | simp) (by first | decide | simp) (by first | decide | simp) (by first | decide | simp), kML h2 hx (by first | decide | simp) (by first | decide | simp) (by first | decide | simp), kMT h3 hx (by first | decide | simp) (by first | decide | simp), a3, kMK h5 hx (by first | decide | simp) (by first | decide | simp) (by first | decide | simp) (by first | decide | simp) (fun j a b e => by unfold scHm at e; omega), kMC h6 hx (fun j a b e => by unfold scHm at e; omega)⟩)
noncomputable def ra_lose (z : TA) (v : Int32) : Int32 × TA := ((q_lose z.2.2.2.1 v).1, (z.1, z.2.1, z.2.2.1, (q_lose z.2.2.2.1 v).2, z.2.2.2.2))
theorem ka_lose {z : TA} (ok : okA z) (v : Int32) : okA (ra_lose z v).2 := by
  obtain ⟨F, L, T, H, K⟩ := z
  obtain ⟨o1, o2, o3, o4, o5⟩ := ok
  exact ⟨o1, o2, o3, ok_lose o4 _, o5⟩
theorem xa_lose {S : St} {z : TA} (ok : okA z) (h : XA S z) (v : Int32) : w_X8_lose v (fun r S' => r = (ra_lose z v).1 ∧ XA S' (ra_lose z v).2) S := by
  obtain ⟨F, L, T, H, K⟩ := z
  obtain ⟨o1, o2, o3, o4, o5⟩ := ok
  obtain ⟨h1, h2, h3, h4, h5⟩ := h
  exact x_lose h4 (fun S' a3 hx => ⟨rfl, kXF h1 o1 hx (fun j a b e => by unfold scH at e; omega), kXL h2 hx (by first | decide | simp) (by first | decide | simp), kXT h3 hx (by first | decide | simp) (by first | decide | simp), a3, kXK h5 o5 hx (by first | decide | simp) (fun j a b e => by unfold scH at e; omega) (by first | decide | simp) (by first | decide | simp)⟩)
theorem ma_lose {S : St} {z : TA} (ok : okA z) (h : MA S z) (v : Int32) : w_X9_lose v (fun r S' => r = (ra_lose z v).1 ∧ MA S' (ra_lose z v).2) S := by
  obtain ⟨F, L, T, H, K⟩ := z
  obtain ⟨o1, o2, o3, o4, o5⟩ := ok
  obtain ⟨h1, h2, h3, h4, h5, h6⟩ := h
  exact m_lose h4 o4 (fun S' a3 hx => ⟨rfl, kMF h1 hx (by first | decide | simp) (by first | decide | simp) (by first | decide | simp) (by first | decide | simp), kML h2 hx (by first | decide | simp) (by first | decide | simp) (by first | decide | simp), kMT h3 hx (by first | decide | simp) (by first | decide | simp), a3, kMK h5 hx (by first | decide | simp) (by first | decide | simp) (by first | decide | simp) (by first | decide | simp) (fun j a b e => by unfold scHm at e; omega), kMC h6 hx (fun j a b e => by unfold scHm at e; omega)⟩)
noncomputable def ra_taken (z : TA) (v w : Int32) : Int32 × TA := ((q_taken z.2.2.2.1 v w), (z.1, z.2.1, z.2.2.1, z.2.2.2.1, z.2.2.2.2))
theorem ka_taken {z : TA} (ok : okA z) (v w : Int32) : okA (ra_taken z v w).2 := by
  obtain ⟨F, L, T, H, K⟩ := z
  obtain ⟨o1, o2, o3, o4, o5⟩ := ok
  exact ⟨o1, o2, o3, o4, o5⟩
theorem xa_taken {S : St} {z : TA} (ok : okA z) (h : XA S z) (v w : Int32) : w_X8_taken v w (fun r S' => r = (ra_taken z v w).1 ∧ XA S' (ra_taken z v w).2) S := by
  obtain ⟨F, L, T, H, K⟩ := z
  obtain ⟨o1, o2, o3, o4, o5⟩ := ok
  obtain ⟨h1, h2, h3, h4, h5⟩ := h
  exact x_taken h4 o4 ⟨rfl, h1, h2, h3, h4, h5⟩
theorem ma_taken {S : St} {z : TA} (ok : okA z) (h : MA S z) (v w : Int32) : w_X9_taken v w (fun r S' => r = (ra_taken z v w).1 ∧ MA S' (ra_taken z v w).2) S := by
  obtain ⟨F, L, T, H, K⟩ := z
  obtain ⟨o1, o2, o3, o4, o5⟩ := ok
  obtain ⟨h1, h2, h3, h4, h5, h6⟩ := h
  exact m_taken h4 o4 (fun S'  hx => ⟨rfl, kMF h1 hx (by first | decide | simp) (by first | decide | simp) (by first | decide | simp) (by first | decide | simp), kML h2 hx (by first | decide | simp) (by first | decide | simp) (by first | decide | simp), kMT h3 hx (by first | decide | simp) (by first | decide | simp), kMH h4 hx (fun j a b e => by unfold scD at e; omega), kMK h5 hx (by first | decide | simp) (by first | decide | simp) (by first | decide | simp) (by first | decide | simp) (fun j a b e => by unfold scD at e; omega), kMC h6 hx (fun j a b e => by unfold scD at e; omega)⟩)
noncomputable def ra_was (z : TA) (v w : Int32) : Int32 × TA := ((q_was z.2.2.2.1 v w), (z.1, z.2.1, z.2.2.1, z.2.2.2.1, z.2.2.2.2))
theorem ka_was {z : TA} (ok : okA z) (v w : Int32) : okA (ra_was z v w).2 := by
  obtain ⟨F, L, T, H, K⟩ := z
  obtain ⟨o1, o2, o3, o4, o5⟩ := ok
  exact ⟨o1, o2, o3, o4, o5⟩
theorem xa_was {S : St} {z : TA} (ok : okA z) (h : XA S z) (v w : Int32) : w_X8_was v w (fun r S' => r = (ra_was z v w).1 ∧ XA S' (ra_was z v w).2) S := by
  obtain ⟨F, L, T, H, K⟩ := z
  obtain ⟨o1, o2, o3, o4, o5⟩ := ok
  obtain ⟨h1, h2, h3, h4, h5⟩ := h
  exact x_was h4 o4 ⟨rfl, h1, h2, h3, h4, h5⟩
theorem ma_was {S : St} {z : TA} (ok : okA z) (h : MA S z) (v w : Int32) : w_X9_was v w (fun r S' => r = (ra_was z v w).1 ∧ MA S' (ra_was z v w).2) S := by
  obtain ⟨F, L, T, H, K⟩ := z
  obtain ⟨o1, o2, o3, o4, o5⟩ := ok
  obtain ⟨h1, h2, h3, h4, h5, h6⟩ := h
  exact m_was h4 o4 (fun S'  hx => ⟨rfl, kMF h1 hx (by first | decide | simp) (by first | decide | simp) (by first | decide | simp) (by first | decide | simp), kML h2 hx (by first | decide | simp) (by first | decide | simp) (by first | decide | simp), kMT h3 hx (by first | decide | simp) (by first | decide | simp), kMH h4 hx (fun j a b e => by unfold scD at e; omega), kMK h5 hx (by first | decide | simp) (by first | decide | simp) (by first | decide | simp) (by first | decide | simp) (fun j a b e => by unfold scD at e; omega), kMC h6 hx (fun j a b e => by unfold scD at e; omega)⟩)
noncomputable def ra_row (z : TA) (v w : Int32) : Int32 × TA := ((q_row z.2.2.2.1 v w).1, (z.1, z.2.1, z.2.2.1, (q_row z.2.2.2.1 v w).2, z.2.2.2.2))
theorem ka_row {z : TA} (ok : okA z) (v w : Int32) : okA (ra_row z v w).2 := by
  obtain ⟨F, L, T, H, K⟩ := z
  obtain ⟨o1, o2, o3, o4, o5⟩ := ok
  exact ⟨o1, o2, o3, ok_row o4 _ _, o5⟩
theorem xa_row {S : St} {z : TA} (ok : okA z) (h : XA S z) (v w : Int32) : w_X8_row v w (fun r S' => r = (ra_row z v w).1 ∧ XA S' (ra_row z v w).2) S := by
  obtain ⟨F, L, T, H, K⟩ := z
  obtain ⟨o1, o2, o3, o4, o5⟩ := ok
  obtain ⟨h1, h2, h3, h4, h5⟩ := h
  exact x_row h4 (fun S' a3 hx => ⟨rfl, kXF h1 o1 hx (fun j a b e => by unfold scH at e; omega), kXL h2 hx (by first | decide | simp) (by first | decide | simp), kXT h3 hx (by first | decide | simp) (by first | decide | simp), a3, kXK h5 o5 hx (by first | decide | simp) (fun j a b e => by unfold scH at e; omega) (by first | decide | simp) (by first | decide | simp)⟩)
theorem ma_row {S : St} {z : TA} (ok : okA z) (h : MA S z) (v w : Int32) : w_X9_row v w (fun r S' => r = (ra_row z v w).1 ∧ MA S' (ra_row z v w).2) S := by
  obtain ⟨F, L, T, H, K⟩ := z
  obtain ⟨o1, o2, o3, o4, o5⟩ := ok
  obtain ⟨h1, h2, h3, h4, h5, h6⟩ := h
  exact m_row h4 o4 (fun S' a3 hx => ⟨rfl, kMF h1 hx (by first | decide | simp) (by first | decide | simp) (by first | decide | simp) (by first | decide | simp), kML h2 hx (by first | decide | simp) (by first | decide | simp) (by first | decide | simp), kMT h3 hx (by first | decide | simp) (by first | decide | simp), a3, kMK h5 hx (by first | decide | simp) (by first | decide | simp) (by first | decide | simp) (by first | decide | simp) (fun j a b e => by unfold scHm at e; omega), kMC h6 hx (fun j a b e => by unfold scHm at e; omega)⟩)
noncomputable def ra_put (z : TA) (v w x : Int32) : Int32 × TA := ((q_put z.2.2.2.1 v w x).1, (z.1, z.2.1, z.2.2.1, (q_put z.2.2.2.1 v w x).2, z.2.2.2.2))
theorem ka_put {z : TA} (ok : okA z) (v w x : Int32) : okA (ra_put z v w x).2 := by
  obtain ⟨F, L, T, H, K⟩ := z
  obtain ⟨o1, o2, o3, o4, o5⟩ := ok
  exact ⟨o1, o2, o3, ok_put o4 _ _ _, o5⟩
theorem xa_put {S : St} {z : TA} (ok : okA z) (h : XA S z) (v w x : Int32) : w_X8_put v w x (fun r S' => r = (ra_put z v w x).1 ∧ XA S' (ra_put z v w x).2) S := by
  obtain ⟨F, L, T, H, K⟩ := z
  obtain ⟨o1, o2, o3, o4, o5⟩ := ok
  obtain ⟨h1, h2, h3, h4, h5⟩ := h
  exact x_put h4 o4 (fun S' a3 hx => ⟨rfl, kXF h1 o1 hx (fun j a b e => by unfold scH at e; omega), kXL h2 hx (by first | decide | simp) (by first | decide | simp), kXT h3 hx (by first | decide | simp) (by first | decide | simp), a3, kXK h5 o5 hx (by first | decide | simp) (fun j a b e => by unfold scH at e; omega) (by first | decide | simp) (by first | decide | simp)⟩)
theorem ma_put {S : St} {z : TA} (ok : okA z) (h : MA S z) (v w x : Int32) : w_X9_put v w x (fun r S' => r = (ra_put z v w x).1 ∧ MA S' (ra_put z v w x).2) S := by
  obtain ⟨F, L, T, H, K⟩ := z
  obtain ⟨o1, o2, o3, o4, o5⟩ := ok
  obtain ⟨h1, h2, h3, h4, h5, h6⟩ := h
  exact m_put h4 o4 (fun S' a3 hx => ⟨rfl, kMF h1 hx (by first | decide | simp) (by first | decide | simp) (by first | decide | simp) (by first | decide | simp), kML h2 hx (by first | decide | simp) (by first | decide | simp) (by first | decide | simp), kMT h3 hx (by first | decide | simp) (by first | decide | simp), a3, kMK h5 hx (by first | decide | simp) (by first | decide | simp) (by first | decide | simp) (by first | decide | simp) (fun j a b e => by unfold scHm at e; omega), kMC h6 hx (fun j a b e => by unfold scHm at e; omega)⟩)
noncomputable def ra_get (z : TA) (v w : Int32) : Int64 × TA := ((q_get z.2.2.2.1 v w), (z.1, z.2.1, z.2.2.1, z.2.2.2.1, z.2.2.2.2))
theorem ka_get {z : TA} (ok : okA z) (v w : Int32) : okA (ra_get z v w).2 := by
  obtain ⟨F, L, T, H, K⟩ := z
  obtain ⟨o1, o2, o3, o4, o5⟩ := ok
  exact ⟨o1, o2, o3, o4, o5⟩
theorem xa_get {S : St} {z : TA} (ok : okA z) (h : XA S z) (v w : Int32) : w_X8_get v w (fun r S' => r = (ra_get z v w).1 ∧ XA S' (ra_get z v w).2) S := by
  obtain ⟨F, L, T, H, K⟩ := z
  obtain ⟨o1, o2, o3, o4, o5⟩ := ok
  obtain ⟨h1, h2, h3, h4, h5⟩ := h
  exact x_get h4 o4 ⟨rfl, h1, h2, h3, h4, h5⟩
theorem ma_get {S : St} {z : TA} (ok : okA z) (h : MA S z) (v w : Int32) : w_X9_get v w (fun r S' => r = (ra_get z v w).1 ∧ MA S' (ra_get z v w).2) S := by
  obtain ⟨F, L, T, H, K⟩ := z
  obtain ⟨o1, o2, o3, o4, o5⟩ := ok
  obtain ⟨h1, h2, h3, h4, h5, h6⟩ := h
  exact m_get h4 o4 ⟨rfl, h1, h2, h3, h4, h5, h6⟩
noncomputable def ra_judge (z : TA) (v w : Int32) : Int32 × TA := ((q_judge z.1 z.2.2.2.1 v w), (z.1, z.2.1, z.2.2.1, z.2.2.2.1, z.2.2.2.2))
theorem ka_judge {z : TA} (ok : okA z) (v w : Int32) : okA (ra_judge z v w).2 := by
  obtain ⟨F, L, T, H, K⟩ := z
  obtain ⟨o1, o2, o3, o4, o5⟩ := ok
  exact ⟨o1, o2, o3, o4, o5⟩
theorem xa_judge {S : St} {z : TA} (ok : okA z) (h : XA S z) (v w : Int32) : w_X8_judge v w (fun r S' => r = (ra_judge z v w).1 ∧ XA S' (ra_judge z v w).2) S := by
  obtain ⟨F, L, T, H, K⟩ := z
  obtain ⟨o1, o2, o3, o4, o5⟩ := ok
  obtain ⟨h1, h2, h3, h4, h5⟩ := h
  exact x_judge h1 o1 h4 o4 ⟨rfl, h1, h2, h3, h4, h5⟩
theorem ma_judge {S : St} {z : TA} (ok : okA z) (h : MA S z) (v w : Int32) : w_X9_judge v w (fun r S' => r = (ra_judge z v w).1 ∧ MA S' (ra_judge z v w).2) S := by
  obtain ⟨F, L, T, H, K⟩ := z
  obtain ⟨o1, o2, o3, o4, o5⟩ := ok
  obtain ⟨h1, h2, h3, h4, h5, h6⟩ := h
  exact m_judge h1 o1 h4 o4 (fun S'  hx => ⟨rfl, kMF h1 hx (by first | decide | simp) (by first | decide | simp) (by first | decide | simp) (by first | decide | simp), kML h2 hx (by first | decide | simp) (by first | decide | simp) (by first | decide | simp), kMT h3 hx (by first | decide | simp) (by first | decide | simp), kMH h4 hx (fun j a b e => by unfold scD at e; omega), kMK h5 hx (by first | decide | simp) (by first | decide | simp) (by first | decide | simp) (by first | decide | simp) (fun j a b e => by unfold scD at e; omega), kMC h6 hx (fun j a b e => by unfold scD at e; omega)⟩)
noncomputable def ra_image (z : TA) : Int32 × TA := ((nI z.1.1), (z.1, z.2.1, z.2.2.1, z.2.2.2.1, (some (z.1, z.2.1))))
theorem ka_image {z : TA} (ok : okA z) : okA (ra_image z ).2 := by
  obtain ⟨F, L, T, H, K⟩ := z
  obtain ⟨o1, o2, o3, o4, o5⟩ := ok
  exact ⟨o1, o2, o3, o4, ⟨o1, o2⟩⟩
theorem xa_image {S : St} {z : TA} (ok : okA z) (h : XA S z) : w_X8_image  (fun r S' => r = (ra_image z ).1 ∧ XA S' (ra_image z ).2) S := by
  obtain ⟨F, L, T, H, K⟩ := z
  obtain ⟨o1, o2, o3, o4, o5⟩ := ok
  obtain ⟨h1, h2, h3, h4, h5⟩ := h
  exact x_image h1 o1 h2 o2 (fun S' a4 hx => ⟨rfl, kXF h1 o1 hx (fun j a b e => by unfold scK at e; omega), kXL h2 hx (by first | decide | simp) (by first | decide | simp), kXT h3 hx (by first | decide | simp) (by first | decide | simp), kXH h4 hx (fun j a b e => by unfold scK at e; omega), a4⟩)
theorem ma_image {S : St} {z : TA} (ok : okA z) (h : MA S z) : w_X9_image  (fun r S' => r = (ra_image z ).1 ∧ MA S' (ra_image z ).2) S := by
  obtain ⟨F, L, T, H, K⟩ := z
  obtain ⟨o1, o2, o3, o4, o5⟩ := ok
  obtain ⟨h1, h2, h3, h4, h5, h6⟩ := h
  exact m_image h1 o1 h2 o2 (fun S' a4 hx => ⟨rfl, kMF h1 hx (by first | decide | simp) (by first | decide | simp) (by first | decide | simp) (by first | decide | simp), kML h2 hx (by first | decide | simp) (by first | decide | simp) (by first | decide | simp), kMT h3 hx (by first | decide | simp) (by first | decide | simp), kMH h4 hx (fun j a b e => by unfold scKm at e; omega), a4, kMC h6 hx (fun j a b e => by unfold scKm at e; omega)⟩)
noncomputable def ra_undo (z : TA) : Int32 × TA := ((q_undo z.1 z.2.1 z.2.2.2.2).1, ((q_undo z.1 z.2.1 z.2.2.2.2).2.1, (q_undo z.1 z.2.1 z.2.2.2.2).2.2, z.2.2.1, z.2.2.2.1, z.2.2.2.2))
theorem ka_undo {z : TA} (ok : okA z) : okA (ra_undo z ).2 := by
  obtain ⟨F, L, T, H, K⟩ := z
  obtain ⟨o1, o2, o3, o4, o5⟩ := ok
  cases K with
  | none => exact ⟨o1, o2, o3, o4, o5⟩
  | some q => exact ⟨o5.1, o5.2, o3, o4, o5⟩
theorem xa_undo {S : St} {z : TA} (ok : okA z) (h : XA S z) : w_X8_undo  (fun r S' => r = (ra_undo z ).1 ∧ XA S' (ra_undo z ).2) S := by
  obtain ⟨F, L, T, H, K⟩ := z
  obtain ⟨o1, o2, o3, o4, o5⟩ := ok
  obtain ⟨h1, h2, h3, h4, h5⟩ := h
  exact x_undo h1 h2 h5 o5 (fun S' a0 a1 hx => ⟨rfl, a0, a1, kXT h3 hx (by first | decide | simp) (by first | decide | simp), kXH h4 hx (fun j a b e => by unfold scV at e; omega), kXK h5 o5 hx (by first | decide | simp) (fun j a b e => by unfold scV at e; omega) (by first | decide | simp) (by first | decide | simp)⟩)
theorem ma_undo {S : St} {z : TA} (ok : okA z) (h : MA S z) : w_X9_undo  (fun r S' => r = (ra_undo z ).1 ∧ MA S' (ra_undo z ).2) S := by
  obtain ⟨F, L, T, H, K⟩ := z
  obtain ⟨o1, o2, o3, o4, o5⟩ := ok
  obtain ⟨h1, h2, h3, h4, h5, h6⟩ := h
  exact m_undo h1 h2 h5 o5 (fun S' a0 a1 hx => ⟨rfl, a0, a1, kMT h3 hx (by first | decide | simp) (by first | decide | simp), kMH h4 hx (fun j a b e => by unfold scVm at e; omega), kMK h5 hx (by first | decide | simp) (by first | decide | simp) (by first | decide | simp) (by first | decide | simp) (fun j a b e => by unfold scVm at e; omega), kMC h6 hx (fun j a b e => by unfold scVm at e; omega)⟩)
noncomputable def ra_count (z : TA) (v : Int32) : Int32 × TA := ((q_count z.1 z.2.1 z.2.2.1 v), (z.1, z.2.1, z.2.2.1, z.2.2.2.1, z.2.2.2.2))
theorem ka_count {z : TA} (ok : okA z) (v : Int32) : okA (ra_count z v).2 := by
  obtain ⟨F, L, T, H, K⟩ := z
  obtain ⟨o1, o2, o3, o4, o5⟩ := ok
  exact ⟨o1, o2, o3, o4, o5⟩
theorem xa_count {S : St} {z : TA} (ok : okA z) (h : XA S z) (v : Int32) : w_X8_count v (fun r S' => r = (ra_count z v).1 ∧ XA S' (ra_count z v).2) S := by
  obtain ⟨F, L, T, H, K⟩ := z
  obtain ⟨o1, o2, o3, o4, o5⟩ := ok
  obtain ⟨h1, h2, h3, h4, h5⟩ := h
  exact x_count h1 h2 h3 ⟨rfl, h1, h2, h3, h4, h5⟩
theorem ma_count {S : St} {z : TA} (ok : okA z) (h : MA S z) (v : Int32) : w_X9_count v (fun r S' => r = (ra_count z v).1 ∧ MA S' (ra_count z v).2) S := by
  obtain ⟨F, L, T, H, K⟩ := z
  obtain ⟨o1, o2, o3, o4, o5⟩ := ok
  obtain ⟨h1, h2, h3, h4, h5, h6⟩ := h
  exact m_count h1 h2 h3 ⟨rfl, h1, h2, h3, h4, h5, h6⟩
