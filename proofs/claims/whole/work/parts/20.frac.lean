/-! rests and digits of a by b in base g: where they come again -/
def rs (b g a i : Nat) : Nat := a * g ^ i % b
def dg (b g a i : Nat) : Nat := rs b g a i * g / b
theorem rs_zero (b g a : Nat) : rs b g a 0 = a % b := by simp [rs]
theorem rs_add (b g a i j : Nat) : rs b g a (i + j) = rs b g a i * g ^ j % b := by
  unfold rs
  rw [Nat.pow_add, ← Nat.mul_assoc]
  conv => rhs; rw [Nat.mul_mod, Nat.mod_mod, ← Nat.mul_mod]
theorem rs_succ (b g a i : Nat) : rs b g a (i + 1) = rs b g a i * g % b := by
  rw [rs_add]; simp
theorem rs_lt {b : Nat} (hb : 0 < b) (g a i : Nat) : rs b g a i < b := Nat.mod_lt _ hb
theorem rs_dg {b : Nat} (g a i : Nat) : rs b g a i * g = dg b g a i * b + rs b g a (i + 1) := by
  rw [rs_succ]; unfold dg
  have := Nat.div_add_mod (rs b g a i * g) b
  rw [Nat.mul_comm b] at this
  omega
theorem dg_lt {b g : Nat} (hb : 0 < b) (hg : 0 < g) (a i : Nat) : dg b g a i < g := by
  unfold dg
  rw [Nat.div_lt_iff_lt_mul hb]
  rw [Nat.mul_comm g b]
  exact Nat.mul_lt_mul_of_pos_right (rs_lt hb g a i) hg
def fd (b g : Nat) : Nat := Nat.gcd b (g ^ 9)
theorem fd_b (b g : Nat) : fd b g ∣ b := Nat.gcd_dvd_left _ _
theorem fd_g (b g : Nat) : fd b g ∣ g ^ 9 := Nat.gcd_dvd_right _ _
theorem fd_pos {b : Nat} (hb : 0 < b) (g : Nat) : 0 < fd b g := Nat.gcd_pos_of_pos_left _ hb
theorem fd_cop {b g : Nat} (hb : 0 < b) (hb2 : b < 1000) (hg : 2 ≤ g) (hg2 : g < 17) : Nat.gcd (b / fd b g) g = 1 := by
  have h1 := List.all_eq_true.mp (show (List.range 1000).all (fun b => (List.range 17).all (fun g => decide (b = 0) || decide (g < 2) || decide (Nat.gcd (b / Nat.gcd b (g ^ 9)) g = 1))) = true by decide +kernel) b (List.mem_range.mpr hb2)
  have h2 := List.all_eq_true.mp h1 g (List.mem_range.mpr hg2)
  simp only [Bool.or_eq_true, decide_eq_true_eq] at h2
  rcases h2 with (h2 | h2) | h2
  · omega
  · omega
  · exact h2
theorem fd_next {b g a i : Nat} (h : fd b g ∣ rs b g a i) (j : Nat) : fd b g ∣ rs b g a (i + j) := by
  rw [rs_add]
  exact (Nat.dvd_mod_iff (fd_b b g)).mpr (Nat.dvd_trans h (Nat.dvd_mul_right _ _))
theorem fd_nine (b g a : Nat) : fd b g ∣ rs b g a 9 := by
  unfold rs
  exact (Nat.dvd_mod_iff (fd_b b g)).mpr (Nat.dvd_trans (fd_g b g) (Nat.dvd_mul_left _ _))
theorem rs_cancel {b g x y : Nat} (hb : 0 < b) (hb2 : b < 1000) (hg : 2 ≤ g) (hg2 : g < 17) (hx : x < b) (hy : y < b) (dx : fd b g ∣ x) (dy : fd b g ∣ y) (h : x * g % b = y * g % b) : x = y := by
  have key : ∀ u v : Nat, u < b → fd b g ∣ u → fd b g ∣ v → v ≤ u → u * g % b = v * g % b → u = v := by
    intro u v hu du dv hvu he
    have h1 : (u * g - v * g) % b = 0 := Nat.sub_mod_eq_zero_of_mod_eq he
    rw [← Nat.sub_mul] at h1
    have h2 : b ∣ (u - v) * g := Nat.dvd_of_mod_eq_zero h1
    obtain ⟨z, hz⟩ := Nat.dvd_sub du dv
    have hbe : fd b g * (b / fd b g) = b := Nat.mul_div_cancel' (fd_b b g)
    rw [hz] at h2
    have h3 : fd b g * (b / fd b g) ∣ fd b g * (z * g) := by rw [hbe, ← Nat.mul_assoc]; exact h2
    have h4 : (b / fd b g) ∣ z * g := Nat.dvd_of_mul_dvd_mul_left (fd_pos hb g) h3
    have h5 : (b / fd b g) ∣ z := Nat.Coprime.dvd_of_dvd_mul_right (fd_cop hb hb2 hg hg2) h4
    have h6 : b ∣ u - v := by
      rw [hz, ← hbe]
      have := Nat.mul_dvd_mul_left (fd b g) h5
      rw [hbe] at this ⊢
      exact this
    have h7 : u - v = 0 := Nat.eq_zero_of_dvd_of_lt h6 (by omega)
    omega
  rcases Nat.le_total y x with q | q
  · exact key x y hx dx dy q h
  · exact (key y x hy dy dx q h.symm).symm
theorem php (n : Nat) : ∀ (f : Nat → Nat), (∀ i, i ≤ n → f i < n) → ∃ i j, i < j ∧ j ≤ n ∧ f i = f j := by
  induction n with
  | zero => intro f h; exact absurd (h 0 (Nat.le_refl 0)) (by omega)
  | succ n ih =>
    intro f h
    by_cases e : ∃ i, i ≤ n ∧ f i = f (n + 1)
    · obtain ⟨i, h1, h2⟩ := e
      exact ⟨i, n + 1, by omega, Nat.le_refl _, h2⟩
    · have ne : ∀ i, i ≤ n → f i ≠ f (n + 1) := fun i h1 h2 => e ⟨i, h1, h2⟩
      obtain ⟨i, j, h1, h2, h3⟩ := ih (fun i => if f i = n then f (n + 1) else f i) (fun i hi => by
        have g1 := h i (by omega)
        have g2 := h (n + 1) (Nat.le_refl _)
        have g3 := ne i hi
        show (if f i = n then f (n + 1) else f i) < n
        by_cases q : f i = n
        · rw [if_pos q]; omega
        · rw [if_neg q]; omega)
      refine ⟨i, j, h1, by omega, ?_⟩
      have g1 := ne i (by omega)
      have g2 := ne j h2
      have h3 : (if f i = n then f (n + 1) else f i) = (if f j = n then f (n + 1) else f j) := h3
      by_cases q1 : f i = n
      · by_cases q2 : f j = n
        · omega
        · rw [if_pos q1, if_neg q2] at h3; omega
      · by_cases q2 : f j = n
        · rw [if_neg q1, if_pos q2] at h3; omega
        · rw [if_neg q1, if_neg q2] at h3; exact h3
/-- the least place from i on, in n steps, at which p holds -/
def lsf (p : Nat → Bool) : Nat → Nat → Nat
  | 0, i => i
  | n + 1, i => if p i = true then i else lsf p n (i + 1)
theorem lsf_le (p : Nat → Bool) : ∀ n i, i ≤ lsf p n i ∧ lsf p n i ≤ i + n := by
  intro n
  induction n with
  | zero => intro i; simp [lsf]
  | succ n ih =>
    intro i
    rw [lsf]
    by_cases h : p i = true
    · rw [if_pos h]; omega
    · rw [if_neg h]; have := ih (i + 1); omega
theorem lsf_no (p : Nat → Bool) : ∀ n i j, i ≤ j → j < lsf p n i → p j = false := by
  intro n
  induction n with
  | zero => intro i j h1 h2; simp [lsf] at h2; omega
  | succ n ih =>
    intro i j h1 h2
    rw [lsf] at h2
    by_cases h : p i = true
    · rw [if_pos h] at h2; omega
    · rw [if_neg h] at h2
      rcases Nat.lt_or_ge i j with q | q
      · exact ih (i + 1) j q h2
      · have : j = i := by omega
        subst this
        simpa using h
theorem lsf_yes (p : Nat → Bool) : ∀ n i, (∃ j, i ≤ j ∧ j < i + n ∧ p j = true) → p (lsf p n i) = true := by
  intro n
  induction n with
  | zero => intro i h; obtain ⟨j, h1, h2, -⟩ := h; omega
  | succ n ih =>
    intro i h
    rw [lsf]
    by_cases q : p i = true
    · rw [if_pos q]; exact q
    · rw [if_neg q]
      obtain ⟨j, h1, h2, h3⟩ := h
      refine ih (i + 1) ⟨j, ?_, by omega, h3⟩
      rcases Nat.lt_or_ge i j with z | z
      · exact z
      · have : j = i := by omega
        subst this
        exact absurd h3 q
def hd (b g a : Nat) : Nat := lsf (fun i => rs b g a i % fd b g == 0) 10 0
def ln (b g a : Nat) : Nat := lsf (fun k => rs b g a (hd b g a + k) == rs b g a (hd b g a)) b 1
theorem hd_dvd (b g a : Nat) : fd b g ∣ rs b g a (hd b g a) := by
  have := lsf_yes (fun i => rs b g a i % fd b g == 0) 10 0 ⟨9, by omega, by omega, by simpa using Nat.mod_eq_zero_of_dvd (fd_nine b g a)⟩
  exact Nat.dvd_of_mod_eq_zero (by simpa [hd] using this)
theorem hd_min (b g a j : Nat) (h : j < hd b g a) : ¬ fd b g ∣ rs b g a j := by
  have := lsf_no (fun i => rs b g a i % fd b g == 0) 10 0 j (by omega) h
  intro q
  rw [Nat.mod_eq_zero_of_dvd q] at this
  simp at this
theorem hd_le (b g a : Nat) : hd b g a ≤ 9 := by
  rcases Nat.lt_or_ge 9 (hd b g a) with q | q
  · exact absurd (fd_nine b g a) (hd_min b g a 9 q)
  · exact q
theorem rs_back {b g : Nat} (hb : 0 < b) (hb2 : b < 1000) (hg : 2 ≤ g) (hg2 : g < 17) (a : Nat) : ∀ (i d : Nat), rs b g a (hd b g a + i) = rs b g a (hd b g a + i + d) → rs b g a (hd b g a) = rs b g a (hd b g a + d) := by
  intro i
  induction i with
  | zero => intro d h; exact h
  | succ i ih =>
    intro d h
    refine ih d (rs_cancel hb hb2 hg hg2 (rs_lt hb g a _) (rs_lt hb g a _) (fd_next (hd_dvd b g a) i) (by rw [Nat.add_assoc]; exact fd_next (hd_dvd b g a) (i + d)) ?_)
    rw [← rs_succ, ← rs_succ]
    have e : hd b g a + i + d + 1 = hd b g a + (i + 1) + d := by omega
    rw [e]
    exact h
theorem ln_ex {b g : Nat} (hb : 0 < b) (hb2 : b < 1000) (hg : 2 ≤ g) (hg2 : g < 17) (a : Nat) : ∃ k, 1 ≤ k ∧ k < 1 + b ∧ rs b g a (hd b g a + k) = rs b g a (hd b g a) := by
  obtain ⟨i, j, h1, h2, h3⟩ := php b (fun i => rs b g a (hd b g a + i)) (fun i _ => rs_lt hb g a _)
  have e : hd b g a + i + (j - i) = hd b g a + j := by omega
  exact ⟨j - i, by omega, by omega, (rs_back hb hb2 hg hg2 a i (j - i) (by rw [e]; exact h3)).symm⟩
theorem ln_per {b g : Nat} (hb : 0 < b) (hb2 : b < 1000) (hg : 2 ≤ g) (hg2 : g < 17) (a : Nat) : rs b g a (hd b g a + ln b g a) = rs b g a (hd b g a) := by
  obtain ⟨k, h1, h2, h3⟩ := ln_ex hb hb2 hg hg2 a
  have := lsf_yes (fun k => rs b g a (hd b g a + k) == rs b g a (hd b g a)) b 1 ⟨k, h1, h2, by simpa using h3⟩
  simpa [ln] using this
theorem ln_pos (b g a : Nat) : 1 ≤ ln b g a := (lsf_le _ _ _).1
theorem ln_min (b g a k : Nat) (h1 : 1 ≤ k) (h2 : k < ln b g a) : rs b g a (hd b g a + k) ≠ rs b g a (hd b g a) := by
  have := lsf_no (fun k => rs b g a (hd b g a + k) == rs b g a (hd b g a)) b 1 k h1 h2
  simpa using this
theorem rs_round {b g : Nat} (a i d : Nat) (h : rs b g a (i + d) = rs b g a i) : ∀ n, rs b g a (i + n * d) = rs b g a i := by
  intro n
  induction n with
  | zero => simp
  | succ n ih =>
    rw [Nat.succ_mul, ← Nat.add_assoc, rs_add, ih, ← rs_add, h]
theorem rs_inj {b g : Nat} (hb : 0 < b) (hb2 : b < 1000) (hg : 2 ≤ g) (hg2 : g < 17) (a : Nat) {i j : Nat} (hij : i < j) (hj : j < hd b g a + ln b g a) : rs b g a i ≠ rs b g a j := by
  intro h
  have ej : j = i + (j - i) := by omega
  rcases Nat.lt_or_ge i (hd b g a) with q | q
  · have h1 := rs_round a i (j - i) (by rw [← ej]; exact h.symm) (hd b g a)
    have h2 : hd b g a ≤ i + hd b g a * (j - i) := by
      have : hd b g a * 1 ≤ hd b g a * (j - i) := Nat.mul_le_mul_left _ (by omega)
      omega
    have h3 := fd_next (hd_dvd b g a) (i + hd b g a * (j - i) - hd b g a)
    rw [show hd b g a + (i + hd b g a * (j - i) - hd b g a) = i + hd b g a * (j - i) by omega, h1] at h3
    exact hd_min b g a i q h3
  · have h1 := rs_back hb hb2 hg hg2 a (i - hd b g a) (j - i) (by rw [show hd b g a + (i - hd b g a) = i by omega, ← ej]; exact h)
    exact ln_min b g a (j - i) (by omega) (by omega) h1.symm
theorem hd_ln_le {b g : Nat} (hb : 0 < b) (hb2 : b < 1000) (hg : 2 ≤ g) (hg2 : g < 17) (a : Nat) : hd b g a + ln b g a ≤ b := by
  rcases Nat.lt_or_ge b (hd b g a + ln b g a) with q | q
  · obtain ⟨i, j, h1, h2, h3⟩ := php b (fun i => rs b g a i) (fun i _ => rs_lt hb g a _)
    exact absurd h3 (rs_inj hb hb2 hg hg2 a h1 (by omega))
  · exact q
theorem rs_ln {b g : Nat} (hb : 0 < b) (hb2 : b < 1000) (hg : 2 ≤ g) (hg2 : g < 17) (a : Nat) (i : Nat) (h : hd b g a ≤ i) : rs b g a (i + ln b g a) = rs b g a i := by
  have e : i + ln b g a = hd b g a + ln b g a + (i - hd b g a) := by omega
  rw [e, rs_add, ln_per hb hb2 hg hg2 a, ← rs_add, show hd b g a + (i - hd b g a) = i by omega]
/-- the place in what is kept of rests, of any place -/
def plc (b g a i : Nat) : Nat := if i < hd b g a then i else hd b g a + (i - hd b g a) % ln b g a
theorem plc_lt (b g a i : Nat) : plc b g a i < hd b g a + ln b g a := by
  unfold plc
  have := ln_pos b g a
  by_cases q : i < hd b g a
  · rw [if_pos q]; omega
  · rw [if_neg q]; have := Nat.mod_lt (i - hd b g a) (ln_pos b g a); omega
theorem rs_plc {b g : Nat} (hb : 0 < b) (hb2 : b < 1000) (hg : 2 ≤ g) (hg2 : g < 17) (a : Nat) (i : Nat) : rs b g a (plc b g a i) = rs b g a i := by
  unfold plc
  by_cases q : i < hd b g a
  · rw [if_pos q]
  · rw [if_neg q]
    have h1 := rs_round a (hd b g a + (i - hd b g a) % ln b g a) (ln b g a) (rs_ln hb hb2 hg hg2 a _ (by omega)) ((i - hd b g a) / ln b g a)
    rw [← h1]
    congr 1
    have := Nat.div_add_mod (i - hd b g a) (ln b g a)
    rw [Nat.mul_comm] at this
    omega
theorem dg_plc {b g : Nat} (hb : 0 < b) (hb2 : b < 1000) (hg : 2 ≤ g) (hg2 : g < 17) (a : Nat) (i : Nat) : dg b g a (plc b g a i) = dg b g a i := by
  unfold dg
  rw [rs_plc hb hb2 hg hg2 a i]
/-- a rest that comes again: it stands in the ring, at one place -/
theorem turn_in {b g : Nat} (hb : 0 < b) (hb2 : b < 1000) (hg : 2 ≤ g) (hg2 : g < 17) (a : Nat) {x : Nat} {i : Nat} (hx : rs b g a i = x) (hd0 : fd b g ∣ x) : ∃ s, s < ln b g a ∧ rs b g a (hd b g a + s) = x := by
  rcases Nat.lt_or_ge i (hd b g a) with q | q
  · exact absurd (hx ▸ hd0) (hd_min b g a i q)
  · refine ⟨(i - hd b g a) % ln b g a, Nat.mod_lt _ (ln_pos b g a), ?_⟩
    rw [← hx, ← rs_plc hb hb2 hg hg2 a i]
    unfold plc
    rw [if_neg (by omega)]
theorem ring_inj {b g : Nat} (hb : 0 < b) (hb2 : b < 1000) (hg : 2 ≤ g) (hg2 : g < 17) (a : Nat) {s t : Nat} (hs : s < ln b g a) (ht : t < ln b g a) (h : rs b g a (hd b g a + s) = rs b g a (hd b g a + t)) : s = t := by
  rcases Nat.lt_trichotomy s t with q | q | q
  · exact absurd h (rs_inj hb hb2 hg hg2 a (by omega) (by omega))
  · exact q
  · exact absurd h.symm (rs_inj hb hb2 hg hg2 a (by omega) (by omega))
