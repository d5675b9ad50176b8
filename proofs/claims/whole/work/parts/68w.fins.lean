set_option maxRecDepth 100000 in
set_option maxHeartbeats 4000000 in
theorem fin_M {dC : Nat → ClassId} {dI : Nat → Nat → Nat} {cA : Nat → ClassId} {A : Nat → Prop} {H : Heap} {a0 a1 a2 a3 a4 a5 a6 a7 a8 a9 a10 a11 a12 a13 a14 a15 a16 a17 a18 a19 a20 a21 a22 a23 a24 : Nat} (hP : va_P (dC, dI) vwCl [(a0, .inr (9, [.int 0, .ref a1, .ref a2, .ref a3, .int 0, .int 0, .int 0, .ref a4, .ref a5, .ref a6, .ref a7, .int 0, .ref a8, .int 0, .int 0, .int 10, .ref a9, .ref a10, .ref a11, .ref a12, .ref a13, .int 0, .int 0, .int 0, .long 0, .long 0, .int 0, .long 0, .long 0, .ref a14, .ref a15, .ref a16, .ref a17, .ref a18, .ref a19, .ref a20, .int 0, .int 0, .ref a21, .ref a22, .ref a23, .int 0, .int 0, .ref a24])), (a1, .inl (cA 0, 8, .inl (fun _ => 0))), (a2, .inl (cA 0, 8, .inl (fun _ => 0))), (a3, .inl (cA 0, 8, .inl (fun _ => 0))), (a4, .inl (cA 0, 1000, .inl (fun _ => 0))), (a5, .inl (cA 0, 1000, .inl (fun _ => 0))), (a6, .inl (cA 0, 1000, .inl (fun _ => 0))), (a7, .inl (cA 0, 1000, .inl (fun _ => 0))), (a8, .inl (cA 0, 1000, .inl (fun _ => 0))), (a9, .inl (cA 0, 400, .inl (fun _ => 0))), (a10, .inl (cA 1, 41, .inl (tbl cW 41))), (a11, .inl (cA 1, 21, .inl (tbl cC 21))), (a12, .inl (cA 1, 4, .inl (tbl cN 4))), (a13, .inl (cA 0, 80, .inl (fun _ => 0))), (a14, .inl (cA 0, 3, .inl (fun _ => 0))), (a15, .inl (cA 0, 6, .inl (fun _ => 0))), (a16, .inl (cA 0, 6, .inl (fun _ => 0))), (a17, .inl (cA 0, 6, .inl (fun _ => 0))), (a18, .inl (cA 0, 6, .inl (fun _ => 0))), (a19, .inl (cA 0, 6, .inl (fun _ => 0))), (a20, .inl (cA 0, 240, .inl (fun _ => 0))), (a21, .inl (cA 0, 8, .inl (fun _ => 0))), (a22, .inl (cA 0, 8, .inl (fun _ => 0))), (a23, .inl (cA 0, 8, .inl (fun _ => 0))), (a24, .inl (cA 0, 400, .inl (fun _ => 0)))] H) (hD : va_D A [(a0, .inr (9, [.int 0, .ref a1, .ref a2, .ref a3, .int 0, .int 0, .int 0, .ref a4, .ref a5, .ref a6, .ref a7, .int 0, .ref a8, .int 0, .int 0, .int 10, .ref a9, .ref a10, .ref a11, .ref a12, .ref a13, .int 0, .int 0, .int 0, .long 0, .long 0, .int 0, .long 0, .long 0, .ref a14, .ref a15, .ref a16, .ref a17, .ref a18, .ref a19, .ref a20, .int 0, .int 0, .ref a21, .ref a22, .ref a23, .int 0, .int 0, .ref a24])), (a1, .inl (cA 0, 8, .inl (fun _ => 0))), (a2, .inl (cA 0, 8, .inl (fun _ => 0))), (a3, .inl (cA 0, 8, .inl (fun _ => 0))), (a4, .inl (cA 0, 1000, .inl (fun _ => 0))), (a5, .inl (cA 0, 1000, .inl (fun _ => 0))), (a6, .inl (cA 0, 1000, .inl (fun _ => 0))), (a7, .inl (cA 0, 1000, .inl (fun _ => 0))), (a8, .inl (cA 0, 1000, .inl (fun _ => 0))), (a9, .inl (cA 0, 400, .inl (fun _ => 0))), (a10, .inl (cA 1, 41, .inl (tbl cW 41))), (a11, .inl (cA 1, 21, .inl (tbl cC 21))), (a12, .inl (cA 1, 4, .inl (tbl cN 4))), (a13, .inl (cA 0, 80, .inl (fun _ => 0))), (a14, .inl (cA 0, 3, .inl (fun _ => 0))), (a15, .inl (cA 0, 6, .inl (fun _ => 0))), (a16, .inl (cA 0, 6, .inl (fun _ => 0))), (a17, .inl (cA 0, 6, .inl (fun _ => 0))), (a18, .inl (cA 0, 6, .inl (fun _ => 0))), (a19, .inl (cA 0, 6, .inl (fun _ => 0))), (a20, .inl (cA 0, 240, .inl (fun _ => 0))), (a21, .inl (cA 0, 8, .inl (fun _ => 0))), (a22, .inl (cA 0, 8, .inl (fun _ => 0))), (a23, .inl (cA 0, 8, .inl (fun _ => 0))), (a24, .inl (cA 0, 400, .inl (fun _ => 0)))]) : ∃ P : Nat → Nat, P 0 = a0 ∧ va_P (dC, dI) vwCl (wsL 25 (encM P cA) P S0M) H ∧ va_D A (wsL 25 (encM P cA) P S0M) := by
  refine ⟨fun k => ([a0, a1, a2, a3, a4, a5, a6, a7, a8, a9, a10, a11, a12, a13, a14, a15, a16, a17, a18, a19, a20, a21, a22, a23, a24] : List Nat).getD k 0, rfl, ?_⟩
  refine to_wsL hP hD (fun k => k) (fun k hk => ?_) (fun _ _ _ _ z => z)
  match k, hk with
  | 0, _ => exact ⟨_, rfl, Or.inl rfl⟩
  | 1, _ => exact ⟨_, rfl, Or.inl rfl⟩
  | 2, _ => exact ⟨_, rfl, Or.inl rfl⟩
  | 3, _ => exact ⟨_, rfl, Or.inl rfl⟩
  | 4, _ => exact ⟨_, rfl, Or.inl rfl⟩
  | 5, _ => exact ⟨_, rfl, Or.inl rfl⟩
  | 6, _ => exact ⟨_, rfl, Or.inl rfl⟩
  | 7, _ => exact ⟨_, rfl, Or.inl rfl⟩
  | 8, _ => exact ⟨_, rfl, Or.inl rfl⟩
  | 9, _ => exact ⟨_, rfl, Or.inl rfl⟩
  | 10, _ => exact ⟨_, rfl, Or.inl rfl⟩
  | 11, _ => exact ⟨_, rfl, Or.inl rfl⟩
  | 12, _ => exact ⟨_, rfl, Or.inl rfl⟩
  | 13, _ => exact ⟨_, rfl, Or.inl rfl⟩
  | 14, _ => exact ⟨_, rfl, Or.inl rfl⟩
  | 15, _ => exact ⟨_, rfl, Or.inl rfl⟩
  | 16, _ => exact ⟨_, rfl, Or.inl rfl⟩
  | 17, _ => exact ⟨_, rfl, Or.inl rfl⟩
  | 18, _ => exact ⟨_, rfl, Or.inl rfl⟩
  | 19, _ => exact ⟨_, rfl, Or.inl rfl⟩
  | 20, _ => exact ⟨_, rfl, Or.inl rfl⟩
  | 21, _ => exact ⟨_, rfl, Or.inl rfl⟩
  | 22, _ => exact ⟨_, rfl, Or.inl rfl⟩
  | 23, _ => exact ⟨_, rfl, Or.inl rfl⟩
  | 24, _ => exact ⟨_, rfl, Or.inl rfl⟩
  | k + 25, h => exact absurd h (by omega)
set_option maxRecDepth 100000 in
set_option maxHeartbeats 4000000 in
theorem fin_X {dC : Nat → ClassId} {dI : Nat → Nat → Nat} {cA : Nat → ClassId} {A : Nat → Prop} {H : Heap} {a0 a1 a2 a3 a4 a5 a6 a7 a8 a9 a10 a11 a12 a13 a14 a15 a16 a17 a18 a19 a20 a21 a22 a23 a24 a25 a26 a27 a28 a29 a30 a31 a32 a33 a34 a35 a36 a37 a38 a39 a40 a41 a42 a43 a44 a45 a46 a47 a48 a49 a50 a51 a52 a53 a54 a55 : Nat} {f1 f2 f3 : Nat → Nat} (hP : va_P (dC, dI) vwCl [(a0, .inr (8, [.ref (a1), .ref (a21), .ref (a27), .ref (a29), .ref (a30), .ref (a33), .ref (a11), .ref (a24), .int 0, .ref (a52), .ref (a54), .ref (a55)])), (a33, .inl (cA 3, 6, .inr (.inr (.inr (.inr (fun j => some (f3 j))))))), (a1, .inr (6, [.ref (a2), .int 0])), (a2, .inl (cA 2, 8, .inr (.inr (.inr (.inr (fun j => some (f1 j))))))), (a3, .inr (1, [.int 0, .int 1, .int 10, .int 0, .int 1, .int 0, .int 1])), (a4, .inr (1, [.int 0, .int 1, .int 10, .int 0, .int 1, .int 0, .int 1])), (a5, .inr (1, [.int 0, .int 1, .int 10, .int 0, .int 1, .int 0, .int 1])), (a6, .inr (1, [.int 0, .int 1, .int 10, .int 0, .int 1, .int 0, .int 1])), (a7, .inr (1, [.int 0, .int 1, .int 10, .int 0, .int 1, .int 0, .int 1])), (a8, .inr (1, [.int 0, .int 1, .int 10, .int 0, .int 1, .int 0, .int 1])), (a9, .inr (1, [.int 0, .int 1, .int 10, .int 0, .int 1, .int 0, .int 1])), (a10, .inr (1, [.int 0, .int 1, .int 10, .int 0, .int 1, .int 0, .int 1])), (a21, .inr (0, [.ref (a22), .int 0, .int 10, .ref (a23)])), (a22, .inl (cA 0, 399, .inl (fun _ => 0))), (a23, .inr (1, [.int 0, .int 1, .int 10, .int 0, .int 1, .int 0, .int 1])), (a27, .inr (7, [.ref (a28), .int 0, .int 0, .long 0])), (a28, .inl (cA 0, 80, .inl (fun _ => 0))), (a29, .inr (3, [.long 0, .long 1])), (a30, .inr (5, [.ref (a31), .ref (a32), .int 0])), (a31, .inl (cA 0, 14, .inl (fun _ => 0))), (a32, .inl (cA 0, 42, .inl (fun _ => 0))), (a11, .inr (6, [.ref (a12), .int 0])), (a12, .inl (cA 2, 8, .inr (.inr (.inr (.inr (fun j => some (f2 j))))))), (a13, .inr (1, [.int 0, .int 1, .int 10, .int 0, .int 1, .int 0, .int 1])), (a14, .inr (1, [.int 0, .int 1, .int 10, .int 0, .int 1, .int 0, .int 1])), (a15, .inr (1, [.int 0, .int 1, .int 10, .int 0, .int 1, .int 0, .int 1])), (a16, .inr (1, [.int 0, .int 1, .int 10, .int 0, .int 1, .int 0, .int 1])), (a17, .inr (1, [.int 0, .int 1, .int 10, .int 0, .int 1, .int 0, .int 1])), (a18, .inr (1, [.int 0, .int 1, .int 10, .int 0, .int 1, .int 0, .int 1])), (a19, .inr (1, [.int 0, .int 1, .int 10, .int 0, .int 1, .int 0, .int 1])), (a20, .inr (1, [.int 0, .int 1, .int 10, .int 0, .int 1, .int 0, .int 1])), (a24, .inr (0, [.ref (a25), .int 0, .int 10, .ref (a26)])), (a25, .inl (cA 0, 399, .inl (fun _ => 0))), (a26, .inr (1, [.int 0, .int 1, .int 10, .int 0, .int 1, .int 0, .int 1])), (a52, .inr (4, [.ref (a53), .int 0])), (a53, .inl (cA 0, 999, .inl (fun _ => 0))), (a54, .inr (1, [.int 0, .int 1, .int 10, .int 0, .int 1, .int 0, .int 1])), (a55, .inl (cA 0, 1000, .inl (fun _ => 0))), (a34, .inr (2, [.int 0, .ref (a35), .ref (a36), .int 0])), (a35, .inr (1, [.int 0, .int 1, .int 10, .int 0, .int 1, .int 0, .int 1])), (a36, .inl (cA 0, 40, .inl (fun _ => 0))), (a37, .inr (2, [.int 0, .ref (a38), .ref (a39), .int 0])), (a38, .inr (1, [.int 0, .int 1, .int 10, .int 0, .int 1, .int 0, .int 1])), (a39, .inl (cA 0, 40, .inl (fun _ => 0))), (a40, .inr (2, [.int 0, .ref (a41), .ref (a42), .int 0])), (a41, .inr (1, [.int 0, .int 1, .int 10, .int 0, .int 1, .int 0, .int 1])), (a42, .inl (cA 0, 40, .inl (fun _ => 0))), (a43, .inr (2, [.int 0, .ref (a44), .ref (a45), .int 0])), (a44, .inr (1, [.int 0, .int 1, .int 10, .int 0, .int 1, .int 0, .int 1])), (a45, .inl (cA 0, 40, .inl (fun _ => 0))), (a46, .inr (2, [.int 0, .ref (a47), .ref (a48), .int 0])), (a47, .inr (1, [.int 0, .int 1, .int 10, .int 0, .int 1, .int 0, .int 1])), (a48, .inl (cA 0, 40, .inl (fun _ => 0))), (a49, .inr (2, [.int 0, .ref (a50), .ref (a51), .int 0])), (a50, .inr (1, [.int 0, .int 1, .int 10, .int 0, .int 1, .int 0, .int 1])), (a51, .inl (cA 0, 40, .inl (fun _ => 0)))] H) (hD : va_D A [(a0, .inr (8, [.ref (a1), .ref (a21), .ref (a27), .ref (a29), .ref (a30), .ref (a33), .ref (a11), .ref (a24), .int 0, .ref (a52), .ref (a54), .ref (a55)])), (a33, .inl (cA 3, 6, .inr (.inr (.inr (.inr (fun j => some (f3 j))))))), (a1, .inr (6, [.ref (a2), .int 0])), (a2, .inl (cA 2, 8, .inr (.inr (.inr (.inr (fun j => some (f1 j))))))), (a3, .inr (1, [.int 0, .int 1, .int 10, .int 0, .int 1, .int 0, .int 1])), (a4, .inr (1, [.int 0, .int 1, .int 10, .int 0, .int 1, .int 0, .int 1])), (a5, .inr (1, [.int 0, .int 1, .int 10, .int 0, .int 1, .int 0, .int 1])), (a6, .inr (1, [.int 0, .int 1, .int 10, .int 0, .int 1, .int 0, .int 1])), (a7, .inr (1, [.int 0, .int 1, .int 10, .int 0, .int 1, .int 0, .int 1])), (a8, .inr (1, [.int 0, .int 1, .int 10, .int 0, .int 1, .int 0, .int 1])), (a9, .inr (1, [.int 0, .int 1, .int 10, .int 0, .int 1, .int 0, .int 1])), (a10, .inr (1, [.int 0, .int 1, .int 10, .int 0, .int 1, .int 0, .int 1])), (a21, .inr (0, [.ref (a22), .int 0, .int 10, .ref (a23)])), (a22, .inl (cA 0, 399, .inl (fun _ => 0))), (a23, .inr (1, [.int 0, .int 1, .int 10, .int 0, .int 1, .int 0, .int 1])), (a27, .inr (7, [.ref (a28), .int 0, .int 0, .long 0])), (a28, .inl (cA 0, 80, .inl (fun _ => 0))), (a29, .inr (3, [.long 0, .long 1])), (a30, .inr (5, [.ref (a31), .ref (a32), .int 0])), (a31, .inl (cA 0, 14, .inl (fun _ => 0))), (a32, .inl (cA 0, 42, .inl (fun _ => 0))), (a11, .inr (6, [.ref (a12), .int 0])), (a12, .inl (cA 2, 8, .inr (.inr (.inr (.inr (fun j => some (f2 j))))))), (a13, .inr (1, [.int 0, .int 1, .int 10, .int 0, .int 1, .int 0, .int 1])), (a14, .inr (1, [.int 0, .int 1, .int 10, .int 0, .int 1, .int 0, .int 1])), (a15, .inr (1, [.int 0, .int 1, .int 10, .int 0, .int 1, .int 0, .int 1])), (a16, .inr (1, [.int 0, .int 1, .int 10, .int 0, .int 1, .int 0, .int 1])), (a17, .inr (1, [.int 0, .int 1, .int 10, .int 0, .int 1, .int 0, .int 1])), (a18, .inr (1, [.int 0, .int 1, .int 10, .int 0, .int 1, .int 0, .int 1])), (a19, .inr (1, [.int 0, .int 1, .int 10, .int 0, .int 1, .int 0, .int 1])), (a20, .inr (1, [.int 0, .int 1, .int 10, .int 0, .int 1, .int 0, .int 1])), (a24, .inr (0, [.ref (a25), .int 0, .int 10, .ref (a26)])), (a25, .inl (cA 0, 399, .inl (fun _ => 0))), (a26, .inr (1, [.int 0, .int 1, .int 10, .int 0, .int 1, .int 0, .int 1])), (a52, .inr (4, [.ref (a53), .int 0])), (a53, .inl (cA 0, 999, .inl (fun _ => 0))), (a54, .inr (1, [.int 0, .int 1, .int 10, .int 0, .int 1, .int 0, .int 1])), (a55, .inl (cA 0, 1000, .inl (fun _ => 0))), (a34, .inr (2, [.int 0, .ref (a35), .ref (a36), .int 0])), (a35, .inr (1, [.int 0, .int 1, .int 10, .int 0, .int 1, .int 0, .int 1])), (a36, .inl (cA 0, 40, .inl (fun _ => 0))), (a37, .inr (2, [.int 0, .ref (a38), .ref (a39), .int 0])), (a38, .inr (1, [.int 0, .int 1, .int 10, .int 0, .int 1, .int 0, .int 1])), (a39, .inl (cA 0, 40, .inl (fun _ => 0))), (a40, .inr (2, [.int 0, .ref (a41), .ref (a42), .int 0])), (a41, .inr (1, [.int 0, .int 1, .int 10, .int 0, .int 1, .int 0, .int 1])), (a42, .inl (cA 0, 40, .inl (fun _ => 0))), (a43, .inr (2, [.int 0, .ref (a44), .ref (a45), .int 0])), (a44, .inr (1, [.int 0, .int 1, .int 10, .int 0, .int 1, .int 0, .int 1])), (a45, .inl (cA 0, 40, .inl (fun _ => 0))), (a46, .inr (2, [.int 0, .ref (a47), .ref (a48), .int 0])), (a47, .inr (1, [.int 0, .int 1, .int 10, .int 0, .int 1, .int 0, .int 1])), (a48, .inl (cA 0, 40, .inl (fun _ => 0))), (a49, .inr (2, [.int 0, .ref (a50), .ref (a51), .int 0])), (a50, .inr (1, [.int 0, .int 1, .int 10, .int 0, .int 1, .int 0, .int 1])), (a51, .inl (cA 0, 40, .inl (fun _ => 0)))]) (e1 : ∀ j, j < 8 → f1 j = ([a3, a4, a5, a6, a7, a8, a9, a10] : List Nat).getD j 0) (e2 : ∀ j, j < 8 → f2 j = ([a13, a14, a15, a16, a17, a18, a19, a20] : List Nat).getD j 0) (e3 : ∀ j, j < 6 → f3 j = ([a34, a37, a40, a43, a46, a49] : List Nat).getD j 0) : ∃ P : Nat → Nat, P 0 = a0 ∧ va_P (dC, dI) vwCl (wsL 56 (encX P cA) P S0X) H ∧ va_D A (wsL 56 (encX P cA) P S0X) := by
  refine ⟨fun k => ([a0, a1, a2, a3, a4, a5, a6, a7, a8, a9, a10, a11, a12, a13, a14, a15, a16, a17, a18, a19, a20, a21, a22, a23, a24, a25, a26, a27, a28, a29, a30, a31, a32, a33, a34, a35, a36, a37, a38, a39, a40, a41, a42, a43, a44, a45, a46, a47, a48, a49, a50, a51, a52, a53, a54, a55] : List Nat).getD k 0, rfl, ?_⟩
  refine to_wsL hP hD (fun k => ([0, 2, 3, 4, 5, 6, 7, 8, 9, 10, 11, 21, 22, 23, 24, 25, 26, 27, 28, 29, 30, 12, 13, 14, 31, 32, 33, 15, 16, 17, 18, 19, 20, 1, 38, 39, 40, 41, 42, 43, 44, 45, 46, 47, 48, 49, 50, 51, 52, 53, 54, 55, 34, 35, 36, 37] : List Nat).getD k 0) (fun k hk => ?_) (fun i j hi hj => (show ∀ i, i < 56 → ∀ j, j < 56 → ([0, 2, 3, 4, 5, 6, 7, 8, 9, 10, 11, 21, 22, 23, 24, 25, 26, 27, 28, 29, 30, 12, 13, 14, 31, 32, 33, 15, 16, 17, 18, 19, 20, 1, 38, 39, 40, 41, 42, 43, 44, 45, 46, 47, 48, 49, 50, 51, 52, 53, 54, 55, 34, 35, 36, 37] : List Nat).getD i 0 = ([0, 2, 3, 4, 5, 6, 7, 8, 9, 10, 11, 21, 22, 23, 24, 25, 26, 27, 28, 29, 30, 12, 13, 14, 31, 32, 33, 15, 16, 17, 18, 19, 20, 1, 38, 39, 40, 41, 42, 43, 44, 45, 46, 47, 48, 49, 50, 51, 52, 53, 54, 55, 34, 35, 36, 37] : List Nat).getD j 0 → i = j by decide +kernel) i hi j hj)
  match k, hk with
  | 0, _ => exact ⟨_, rfl, Or.inl rfl⟩
  | 1, _ => exact ⟨_, rfl, Or.inl rfl⟩
  | 2, _ => exact ⟨_, rfl, Or.inr ⟨_, _, _, _, rfl, rfl, fun j hj => (congrArg some (e1 j hj)).trans (match j, hj with | 0, _ => rfl | 1, _ => rfl | 2, _ => rfl | 3, _ => rfl | 4, _ => rfl | 5, _ => rfl | 6, _ => rfl | 7, _ => rfl | j + 8, h => absurd h (by omega))⟩⟩
  | 3, _ => exact ⟨_, rfl, Or.inl rfl⟩
  | 4, _ => exact ⟨_, rfl, Or.inl rfl⟩
  | 5, _ => exact ⟨_, rfl, Or.inl rfl⟩
  | 6, _ => exact ⟨_, rfl, Or.inl rfl⟩
  | 7, _ => exact ⟨_, rfl, Or.inl rfl⟩
  | 8, _ => exact ⟨_, rfl, Or.inl rfl⟩
  | 9, _ => exact ⟨_, rfl, Or.inl rfl⟩
  | 10, _ => exact ⟨_, rfl, Or.inl rfl⟩
  | 11, _ => exact ⟨_, rfl, Or.inl rfl⟩
  | 12, _ => exact ⟨_, rfl, Or.inr ⟨_, _, _, _, rfl, rfl, fun j hj => (congrArg some (e2 j hj)).trans (match j, hj with | 0, _ => rfl | 1, _ => rfl | 2, _ => rfl | 3, _ => rfl | 4, _ => rfl | 5, _ => rfl | 6, _ => rfl | 7, _ => rfl | j + 8, h => absurd h (by omega))⟩⟩
  | 13, _ => exact ⟨_, rfl, Or.inl rfl⟩
  | 14, _ => exact ⟨_, rfl, Or.inl rfl⟩
  | 15, _ => exact ⟨_, rfl, Or.inl rfl⟩
  | 16, _ => exact ⟨_, rfl, Or.inl rfl⟩
  | 17, _ => exact ⟨_, rfl, Or.inl rfl⟩
  | 18, _ => exact ⟨_, rfl, Or.inl rfl⟩
  | 19, _ => exact ⟨_, rfl, Or.inl rfl⟩
  | 20, _ => exact ⟨_, rfl, Or.inl rfl⟩
  | 21, _ => exact ⟨_, rfl, Or.inl rfl⟩
  | 22, _ => exact ⟨_, rfl, Or.inl rfl⟩
  | 23, _ => exact ⟨_, rfl, Or.inl rfl⟩
  | 24, _ => exact ⟨_, rfl, Or.inl rfl⟩
  | 25, _ => exact ⟨_, rfl, Or.inl rfl⟩
  | 26, _ => exact ⟨_, rfl, Or.inl rfl⟩
  | 27, _ => exact ⟨_, rfl, Or.inl rfl⟩
  | 28, _ => exact ⟨_, rfl, Or.inl rfl⟩
  | 29, _ => exact ⟨_, rfl, Or.inl rfl⟩
  | 30, _ => exact ⟨_, rfl, Or.inl rfl⟩
  | 31, _ => exact ⟨_, rfl, Or.inl rfl⟩
  | 32, _ => exact ⟨_, rfl, Or.inl rfl⟩
  | 33, _ => exact ⟨_, rfl, Or.inr ⟨_, _, _, _, rfl, rfl, fun j hj => (congrArg some (e3 j hj)).trans (match j, hj with | 0, _ => rfl | 1, _ => rfl | 2, _ => rfl | 3, _ => rfl | 4, _ => rfl | 5, _ => rfl | j + 6, h => absurd h (by omega))⟩⟩
  | 34, _ => exact ⟨_, rfl, Or.inl rfl⟩
  | 35, _ => exact ⟨_, rfl, Or.inl rfl⟩
  | 36, _ => exact ⟨_, rfl, Or.inl rfl⟩
  | 37, _ => exact ⟨_, rfl, Or.inl rfl⟩
  | 38, _ => exact ⟨_, rfl, Or.inl rfl⟩
  | 39, _ => exact ⟨_, rfl, Or.inl rfl⟩
  | 40, _ => exact ⟨_, rfl, Or.inl rfl⟩
  | 41, _ => exact ⟨_, rfl, Or.inl rfl⟩
  | 42, _ => exact ⟨_, rfl, Or.inl rfl⟩
  | 43, _ => exact ⟨_, rfl, Or.inl rfl⟩
  | 44, _ => exact ⟨_, rfl, Or.inl rfl⟩
  | 45, _ => exact ⟨_, rfl, Or.inl rfl⟩
  | 46, _ => exact ⟨_, rfl, Or.inl rfl⟩
  | 47, _ => exact ⟨_, rfl, Or.inl rfl⟩
  | 48, _ => exact ⟨_, rfl, Or.inl rfl⟩
  | 49, _ => exact ⟨_, rfl, Or.inl rfl⟩
  | 50, _ => exact ⟨_, rfl, Or.inl rfl⟩
  | 51, _ => exact ⟨_, rfl, Or.inl rfl⟩
  | 52, _ => exact ⟨_, rfl, Or.inl rfl⟩
  | 53, _ => exact ⟨_, rfl, Or.inl rfl⟩
  | 54, _ => exact ⟨_, rfl, Or.inl rfl⟩
  | 55, _ => exact ⟨_, rfl, Or.inl rfl⟩
  | k + 56, h => exact absurd h (by omega)
