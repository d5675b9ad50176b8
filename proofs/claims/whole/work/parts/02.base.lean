/-! the picture of the worlds: cells by number, addresses by a function that keeps them apart, contents by two functions of numbers -/
abbrev wE : Type := Nat → (Nat → Int32) → (Nat → Int64) → va_E
abbrev St : Type := (Nat → Nat → Int32) × (Nat → Nat → Int64)
def sI (S : St) (k i : Nat) (v : Int32) : St := (va_up S.1 k (upd (S.1 k) i v), S.2)
def sL (S : St) (k i : Nat) (v : Int64) : St := (S.1, va_up S.2 k (va_up (S.2 k) i v))
def wsL (N : Nat) (E : wE) (P : Nat → Nat) (S : St) : va_W := (List.range N).map fun k => (P k, E k (S.1 k) (S.2 k))
def PA (N : Nat) (P : Nat → Nat) : Nat → Prop := fun q => ∃ k, k < N ∧ q = P k
def PInj (N : Nat) (P : Nat → Nat) : Prop := ∀ i j, i < N → j < N → P i = P j → i = j
theorem ws_at {N : Nat} {E : wE} {P : Nat → Nat} {S : St} {k : Nat} (h : k < N) {e : va_E} (he : E k (S.1 k) (S.2 k) = e) : (wsL N E P S)[k]? = some (P k, e) := by
  subst he
  simp [wsL, h]
theorem ws_some {N : Nat} {E : wE} {P : Nat → Nat} {S : St} {k : Nat} {q : Nat × va_E} (h : (wsL N E P S)[k]? = some q) : k < N ∧ q = (P k, E k (S.1 k) (S.2 k)) := by
  have hk : k < N := by
    have := (List.getElem?_eq_some_iff.mp h).1
    simpa [wsL] using this
  rw [ws_at hk rfl] at h
  exact ⟨hk, (Option.some.inj h).symm⟩
theorem ws_D {N : Nat} {E : wE} {P : Nat → Nat} {S : St} (hI : PInj N P) : va_D (PA N P) (wsL N E P S) := by
  refine ⟨fun i j p q hi hj hpq => ?_, fun k q hk => ?_⟩
  · obtain ⟨h1, rfl⟩ := ws_some hi
    obtain ⟨h2, rfl⟩ := ws_some hj
    exact hI i j h1 h2 hpq
  · obtain ⟨h1, rfl⟩ := ws_some hk
    exact ⟨k, h1, rfl⟩
theorem ws_up {N : Nat} {E : wE} {P : Nat → Nat} {S S' : St} {k : Nat} {e : va_E} (hk : k < N) (he : E k (S'.1 k) (S'.2 k) = e) (ho : ∀ j, j ≠ k → S'.1 j = S.1 j ∧ S'.2 j = S.2 j) : (wsL N E P S).set k (P k, e) = wsL N E P S' := by
  apply List.ext_getElem?
  intro j
  by_cases hj : j < N
  · rw [ws_at (S := S') hj rfl]
    by_cases hjk : j = k
    · subst hjk
      rw [List.getElem?_set_self (by simpa [wsL] using hk), he]
    · rw [List.getElem?_set_ne (Ne.symm hjk), ws_at hj rfl, (ho j hjk).1, (ho j hjk).2]
  · rw [List.getElem?_eq_none (by simpa [wsL] using Nat.le_of_not_lt hj), List.getElem?_eq_none (by simpa [wsL] using Nat.le_of_not_lt hj)]
theorem sI_o (S : St) (k i : Nat) (v : Int32) : ∀ j, j ≠ k → (sI S k i v).1 j = S.1 j ∧ (sI S k i v).2 j = S.2 j := fun j h => ⟨by show va_up S.1 k _ j = _; simp [va_up, h], rfl⟩
theorem sL_o (S : St) (k i : Nat) (v : Int64) : ∀ j, j ≠ k → (sL S k i v).1 j = S.1 j ∧ (sL S k i v).2 j = S.2 j := fun j h => ⟨rfl, by show va_up S.2 k _ j = _; simp [va_up, h]⟩
theorem sI_k (S : St) (k i : Nat) (v : Int32) : (sI S k i v).1 k = upd (S.1 k) i v := by show va_up S.1 k _ k = _; simp [va_up]
theorem sL_k (S : St) (k i : Nat) (v : Int64) : (sL S k i v).2 k = va_up (S.2 k) i v := by show va_up S.2 k _ k = _; simp [va_up]
theorem sI_1 (S : St) (k i a b : Nat) (v : Int32) : (sI S k i v).1 a b = if a = k ∧ b = i then v else S.1 a b := by
  by_cases h : a = k
  · subst h
    rw [sI_k]
    simp [upd]
  · rw [(sI_o S k i v a h).1]
    simp [h]
theorem sI_2 (S : St) (k i : Nat) (v : Int32) : (sI S k i v).2 = S.2 := rfl
theorem sL_1 (S : St) (k i : Nat) (v : Int64) : (sL S k i v).1 = S.1 := rfl
theorem sL_2 (S : St) (k i a b : Nat) (v : Int64) : (sL S k i v).2 a b = if a = k ∧ b = i then v else S.2 a b := by
  by_cases h : a = k
  · subst h
    rw [sL_k]
    simp [va_up]
  · rw [(sL_o S k i v a h).2]
    simp [h]
abbrev jr (x y : Int32) : Int32 := x - x / y * y
abbrev jrl (x y : Int64) : Int64 := x - x / y * y
def bz (v : Int32) : Prop := narrow .boolean (.int v) = .int v ∧ fits .boolean (.int v) = true
theorem bz_0 : bz 0 := by constructor <;> decide
theorem bz_1 : bz 1 := by constructor <;> decide
/-- X's cells -/
def kdX (k : Nat) : Nat := ([8, 6, 12, 1, 1, 1, 1, 1, 1, 1, 1, 6, 12, 1, 1, 1, 1, 1, 1, 1, 1, 0, 10, 1, 0, 10, 1, 7, 10, 3, 5, 10, 10, 13, 2, 1, 10, 2, 1, 10, 2, 1, 10, 2, 1, 10, 2, 1, 10, 2, 1, 10, 4, 10, 1, 10] : List Nat).getD k 99
def alX (k : Nat) : Nat := ([0, 0, 8, 0, 0, 0, 0, 0, 0, 0, 0, 0, 8, 0, 0, 0, 0, 0, 0, 0, 0, 0, 399, 0, 0, 399, 0, 0, 80, 0, 0, 14, 42, 6, 0, 0, 40, 0, 0, 40, 0, 0, 40, 0, 0, 40, 0, 0, 40, 0, 0, 40, 0, 999, 0, 1000] : List Nat).getD k 0
def flX0 (P : Nat → Nat) (k : Nat) (f : Nat → Int32) (g : Nat → Int64) : List Value := [.ref (P (k + 1)), .int (f 1), .int (f 2), .ref (P (k + 2))]
def flX1 (P : Nat → Nat) (k : Nat) (f : Nat → Int32) (g : Nat → Int64) : List Value := [.int (f 0), .int (f 1), .int (f 2), .int (f 3), .int (f 4), .int (f 5), .int (f 6)]
def flX2 (P : Nat → Nat) (k : Nat) (f : Nat → Int32) (g : Nat → Int64) : List Value := [.int (f 0), .ref (P (k + 1)), .ref (P (k + 2)), .int (f 3)]
def flX3 (P : Nat → Nat) (k : Nat) (f : Nat → Int32) (g : Nat → Int64) : List Value := [.long (g 0), .long (g 1)]
def flX4 (P : Nat → Nat) (k : Nat) (f : Nat → Int32) (g : Nat → Int64) : List Value := [.ref (P 53), .int (f 1)]
def flX5 (P : Nat → Nat) (k : Nat) (f : Nat → Int32) (g : Nat → Int64) : List Value := [.ref (P 31), .ref (P 32), .int (f 2)]
def flX6 (P : Nat → Nat) (k : Nat) (f : Nat → Int32) (g : Nat → Int64) : List Value := [.ref (P (k + 1)), .int (f 1)]
def flX7 (P : Nat → Nat) (k : Nat) (f : Nat → Int32) (g : Nat → Int64) : List Value := [.ref (P 28), .int (f 1), .int (f 2), .long (g 3)]
def flX8 (P : Nat → Nat) (k : Nat) (f : Nat → Int32) (g : Nat → Int64) : List Value := [.ref (P 1), .ref (P 21), .ref (P 27), .ref (P 29), .ref (P 30), .ref (P 33), .ref (P 11), .ref (P 24), .int (f 8), .ref (P 52), .ref (P 54), .ref (P 55)]
def encX (P : Nat → Nat) (cA : Nat → ClassId) : wE := fun k f g => match kdX k with
  | 0 => .inr (0, flX0 P k f g)
  | 1 => .inr (1, flX1 P k f g)
  | 2 => .inr (2, flX2 P k f g)
  | 3 => .inr (3, flX3 P k f g)
  | 4 => .inr (4, flX4 P k f g)
  | 5 => .inr (5, flX5 P k f g)
  | 6 => .inr (6, flX6 P k f g)
  | 7 => .inr (7, flX7 P k f g)
  | 8 => .inr (8, flX8 P k f g)
  | 10 => .inl (cA 0, alX k, .inl f)
  | 12 => .inl (cA 2, 8, .inr (.inr (.inr (.inr (fun j => some (P (k + 1 + j)))))))
  | 13 => .inl (cA 3, 6, .inr (.inr (.inr (.inr (fun j => some (P (k + 1 + 3 * j)))))))
  | _ => .inr (99, [])
theorem eX0 {P : Nat → Nat} {cA : Nat → ClassId} {k : Nat} (h : kdX k = 0) (f : Nat → Int32) (g : Nat → Int64) : encX P cA k f g = .inr (0, flX0 P k f g) := by unfold encX; rw [h]; rfl
theorem eX1 {P : Nat → Nat} {cA : Nat → ClassId} {k : Nat} (h : kdX k = 1) (f : Nat → Int32) (g : Nat → Int64) : encX P cA k f g = .inr (1, flX1 P k f g) := by unfold encX; rw [h]; rfl
theorem eX2 {P : Nat → Nat} {cA : Nat → ClassId} {k : Nat} (h : kdX k = 2) (f : Nat → Int32) (g : Nat → Int64) : encX P cA k f g = .inr (2, flX2 P k f g) := by unfold encX; rw [h]; rfl
theorem eX3 {P : Nat → Nat} {cA : Nat → ClassId} {k : Nat} (h : kdX k = 3) (f : Nat → Int32) (g : Nat → Int64) : encX P cA k f g = .inr (3, flX3 P k f g) := by unfold encX; rw [h]; rfl
theorem eX4 {P : Nat → Nat} {cA : Nat → ClassId} {k : Nat} (h : kdX k = 4) (f : Nat → Int32) (g : Nat → Int64) : encX P cA k f g = .inr (4, flX4 P k f g) := by unfold encX; rw [h]; rfl
theorem eX5 {P : Nat → Nat} {cA : Nat → ClassId} {k : Nat} (h : kdX k = 5) (f : Nat → Int32) (g : Nat → Int64) : encX P cA k f g = .inr (5, flX5 P k f g) := by unfold encX; rw [h]; rfl
theorem eX6 {P : Nat → Nat} {cA : Nat → ClassId} {k : Nat} (h : kdX k = 6) (f : Nat → Int32) (g : Nat → Int64) : encX P cA k f g = .inr (6, flX6 P k f g) := by unfold encX; rw [h]; rfl
theorem eX7 {P : Nat → Nat} {cA : Nat → ClassId} {k : Nat} (h : kdX k = 7) (f : Nat → Int32) (g : Nat → Int64) : encX P cA k f g = .inr (7, flX7 P k f g) := by unfold encX; rw [h]; rfl
theorem eX8 {P : Nat → Nat} {cA : Nat → ClassId} {k : Nat} (h : kdX k = 8) (f : Nat → Int32) (g : Nat → Int64) : encX P cA k f g = .inr (8, flX8 P k f g) := by unfold encX; rw [h]; rfl
theorem eX10 {P : Nat → Nat} {cA : Nat → ClassId} {k : Nat} (h : kdX k = 10) (f : Nat → Int32) (g : Nat → Int64) : encX P cA k f g = .inl (cA 0, alX k, .inl f) := by unfold encX; rw [h]; rfl
theorem eX12 {P : Nat → Nat} {cA : Nat → ClassId} {k : Nat} (h : kdX k = 12) (f : Nat → Int32) (g : Nat → Int64) : encX P cA k f g = .inl (cA 2, 8, .inr (.inr (.inr (.inr (fun j => some (P (k + 1 + j))))))) := by unfold encX; rw [h]; rfl
theorem eX13 {P : Nat → Nat} {cA : Nat → ClassId} {k : Nat} (h : kdX k = 13) (f : Nat → Int32) (g : Nat → Int64) : encX P cA k f g = .inl (cA 3, 6, .inr (.inr (.inr (.inr (fun j => some (P (k + 1 + 3 * j))))))) := by unfold encX; rw [h]; rfl
theorem kX_lt {k c : Nat} (h : kdX k = c) (hc : c ≠ 99 := by decide) : k < 56 := by
  rcases Nat.lt_or_ge k 56 with q | q
  · exact q
  · refine absurd ?_ hc
    rw [← h]
    show List.getD _ k 99 = 99
    rw [List.getD_eq_getElem?_getD, List.getElem?_eq_none (by simpa using q)]
    rfl
theorem kX_all (Q : Nat → Bool) (h : (List.range 56).all Q = true) {k : Nat} (hk : k < 56) : Q k = true := List.all_eq_true.mp h k (List.mem_range.mpr hk)
theorem kd0_1 {k : Nat} (h : kdX k = 0) : kdX (k + 1) = 10 := by
  have := kX_all (fun k => kdX k != 0 || kdX (k + 1) == 10) (by decide +kernel) (kX_lt h)
  simpa [h] using this
theorem kd0_2 {k : Nat} (h : kdX k = 0) : kdX (k + 2) = 1 := by
  have := kX_all (fun k => kdX k != 0 || kdX (k + 2) == 1) (by decide +kernel) (kX_lt h)
  simpa [h] using this
theorem kd2_1 {k : Nat} (h : kdX k = 2) : kdX (k + 1) = 1 := by
  have := kX_all (fun k => kdX k != 2 || kdX (k + 1) == 1) (by decide +kernel) (kX_lt h)
  simpa [h] using this
theorem kd2_2 {k : Nat} (h : kdX k = 2) : kdX (k + 2) = 10 := by
  have := kX_all (fun k => kdX k != 2 || kdX (k + 2) == 10) (by decide +kernel) (kX_lt h)
  simpa [h] using this
theorem kd6_1 {k : Nat} (h : kdX k = 6) : kdX (k + 1) = 12 := by
  have := kX_all (fun k => kdX k != 6 || kdX (k + 1) == 12) (by decide +kernel) (kX_lt h)
  simpa [h] using this
theorem vp_in_lt {i : Int32} {n : Nat} (h : vp_in i n) : i.toNatClampNeg < n := Nat.not_le.mp fun q => h (Or.inr q)
theorem kd12_e {k : Nat} (h : kdX k = 12) {i : Int32} (hi : vp_in i 8) : kdX (k + 1 + i.toNatClampNeg) = 1 := by
  have h1 := kX_all (fun k => kdX k != 12 || (List.range 8).all fun j => kdX (k + 1 + j) == 1) (by decide +kernel) (kX_lt h)
  have h2 : (List.range 8).all (fun j => kdX (k + 1 + j) == 1) = true := by simpa [h] using h1
  have h3 := List.all_eq_true.mp h2 _ (List.mem_range.mpr (vp_in_lt hi))
  simpa using h3
theorem kd13_e {k : Nat} (h : kdX k = 13) {i : Int32} (hi : vp_in i 6) : kdX (k + 1 + 3 * i.toNatClampNeg) = 2 := by
  have h1 := kX_all (fun k => kdX k != 13 || (List.range 6).all fun j => kdX (k + 1 + 3 * j) == 2) (by decide +kernel) (kX_lt h)
  have h2 : (List.range 6).all (fun j => kdX (k + 1 + 3 * j) == 2) = true := by simpa [h] using h1
  have h3 := List.all_eq_true.mp h2 _ (List.mem_range.mpr (vp_in_lt hi))
  simpa using h3
/-- M's cells -/
def kdM (k : Nat) : Nat := ([9, 10, 10, 10, 10, 10, 10, 10, 10, 10, 11, 11, 11, 10, 10, 10, 10, 10, 10, 10, 10, 10, 10, 10, 10] : List Nat).getD k 99
def alM (k : Nat) : Nat := ([0, 8, 8, 8, 1000, 1000, 1000, 1000, 1000, 400, 41, 21, 4, 80, 3, 6, 6, 6, 6, 6, 240, 8, 8, 8, 400] : List Nat).getD k 0
def flM9 (P : Nat → Nat) (k : Nat) (f : Nat → Int32) (g : Nat → Int64) : List Value := [.int (f 0), .ref (P 1), .ref (P 2), .ref (P 3), .int (f 4), .int (f 5), .int (f 6), .ref (P 4), .ref (P 5), .ref (P 6), .ref (P 7), .int (f 11), .ref (P 8), .int (f 13), .int (f 14), .int (f 15), .ref (P 9), .ref (P 10), .ref (P 11), .ref (P 12), .ref (P 13), .int (f 21), .int (f 22), .int (f 23), .long (g 24), .long (g 25), .int (f 26), .long (g 27), .long (g 28), .ref (P 14), .ref (P 15), .ref (P 16), .ref (P 17), .ref (P 18), .ref (P 19), .ref (P 20), .int (f 36), .int (f 37), .ref (P 21), .ref (P 22), .ref (P 23), .int (f 41), .int (f 42), .ref (P 24)]
def encM (P : Nat → Nat) (cA : Nat → ClassId) : wE := fun k f g => match kdM k with
  | 9 => .inr (9, flM9 P k f g)
  | 10 => .inl (cA 0, alM k, .inl f)
  | 11 => .inl (cA 1, alM k, .inl f)
  | _ => .inr (99, [])
theorem eM9 {P : Nat → Nat} {cA : Nat → ClassId} {k : Nat} (h : kdM k = 9) (f : Nat → Int32) (g : Nat → Int64) : encM P cA k f g = .inr (9, flM9 P k f g) := by unfold encM; rw [h]; rfl
theorem eM10 {P : Nat → Nat} {cA : Nat → ClassId} {k : Nat} (h : kdM k = 10) (f : Nat → Int32) (g : Nat → Int64) : encM P cA k f g = .inl (cA 0, alM k, .inl f) := by unfold encM; rw [h]; rfl
theorem eM11 {P : Nat → Nat} {cA : Nat → ClassId} {k : Nat} (h : kdM k = 11) (f : Nat → Int32) (g : Nat → Int64) : encM P cA k f g = .inl (cA 1, alM k, .inl f) := by unfold encM; rw [h]; rfl
theorem kM_lt {k c : Nat} (h : kdM k = c) (hc : c ≠ 99 := by decide) : k < 25 := by
  rcases Nat.lt_or_ge k 25 with q | q
  · exact q
  · refine absurd ?_ hc
    rw [← h]
    show List.getD _ k 99 = 99
    rw [List.getD_eq_getElem?_getD, List.getElem?_eq_none (by simpa using q)]
    rfl
