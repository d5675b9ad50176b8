set_option maxRecDepth 100000 in
set_option maxHeartbeats 4000000 in
theorem law_loop {p : Program} {l : Launch} {e : Env} {s : State} {m : MethodId} {below : List Frame} {meth : Method} {c : Code} {b L : Nat} {xs : Nat → Int32} {dC : Nat → ClassId} {dI : Nat → Nat → Nat} {cA : Nat → ClassId} {adK adV P Q : Nat → Nat} (hL : L ≤ 2560) (C0 : lw_At p s m meth c b L xs) (hKL : KL dC dI cA adK adV (fun q => s.heap.size ≤ q) s) (hPQ : PQ P Q s.heap.size) : ∀ (n i : Nat) (z : TA) (S Sm : St) (H : Heap) (locs : List Loc) (ls : Array Slot), i < 2 ^ 20 → L < i + 5 * n + 5 → okA z → XA S z → MA Sm z → VX dC dI cA P S H → VM dC dI cA Q Sm H → va_S (fun q => s.heap.size ≤ q) s.heap H locs → lv_has ls 4 [(3, .int (nI i)), (2, .ref (Q 0)), (1, .ref (P 0)), (0, .ref b)] → W p l e room_1 s m #[Value.ref b] below meth c H locs 81 9740 (lw_Z below #[Value.ref b] s) (F0 m 18 ls []) := by
  obtain ⟨hx, hb, hr, hml, hown, hts0, hX, hbl, hlocks, hgv⟩ := id C0
  have hbA : ¬ (fun q : Nat => s.heap.size ≤ q) b := Nat.not_le.mpr hbl
  have hlt : ∀ i : Nat, i < 2 ^ 20 → (nI L - 5 < nI i ↔ L < i + 5) := fun i h => by
    rw [Int32.lt_iff_toInt_lt, nI_toInt (by omega), show nI L - 5 = nI L - nI 5 from rfl, pk_sub_toInt (by omega) (by omega)]
    omega
  have out_ : ∀ (H : Heap) (locs : List Loc) (ls : Array Slot), va_S (fun q => s.heap.size ≤ q) s.heap H locs → W p l e room_1 s m #[Value.ref b] below meth c H locs 81 9740 (lw_Z below #[Value.ref b] s) (F0 m 1298 ls []) := fun H locs ls hS => by
    refine lv_iconst (v := 1) hx hb dL_law_1298 (by decide) ?_
    refine va_forget (fun q hq => hS.2.2 q hq) ?_
    refine W.widen (k := 600000) (n := 7302250) (Nat.le_of_ble_eq_true rfl) (Nat.le_of_ble_eq_true rfl) ?_
    exact lw_ret hx hb hr hlocks dL_law_1299
  intro n
  induction n with
  | zero =>
    intro i z S Sm H locs ls hi20 hn ok hx1 hm1 hVX hVM hS hl
    refine lv_iload_n hx hb dL_law_18 rfl (lv_at hl 0 rfl) ?_
    refine lv_aload_n hx hb dL_law_19 rfl (lv_at hl 3 rfl) ?_
    refine va_slen hx hb hX hbl hbA hS dL_law_20 ?_
    refine lv_iconst (v := 5) hx hb dL_law_21 (by decide) ?_
    refine lv_isub hx hb dL_law_22 ?_
    exact lv_icmp_gt (tgt := 1298) hx hb dL_law_23 (by decide) (fun _ => out_ H locs ls hS) (fun c9 => absurd ((hlt i hi20).mpr (by omega)) c9)
  | succ n ih =>
    intro i z S Sm H locs ls hi20 hn ok hx1 hm1 hVX hVM hS hl
    refine lv_iload_n hx hb dL_law_18 rfl (lv_at hl 0 rfl) ?_
    refine lv_aload_n hx hb dL_law_19 rfl (lv_at hl 3 rfl) ?_
    refine va_slen hx hb hX hbl hbA hS dL_law_20 ?_
    refine lv_iconst (v := 5) hx hb dL_law_21 (by decide) ?_
    refine lv_isub hx hb dL_law_22 ?_
    refine lv_icmp_gt (tgt := 1298) hx hb dL_law_23 (by decide) (fun _ => out_ H locs ls hS) (fun c9 => ?_)
    have hi : i + 5 ≤ L := by
      rcases Nat.lt_or_ge L (i + 5) with q | q
      · exact absurd ((hlt i hi20).mpr q) c9
      · exact q
    have kk : ∀ (z : TA) (S Sm : St) (H : Heap) (locs : List Loc), okA z → XA S z → MA Sm z → VX dC dI cA P S H → VM dC dI cA Q Sm H → va_S (fun q => s.heap.size ≤ q) s.heap H locs → W p l e room_1 s m #[Value.ref b] below meth c H locs 81 9740 (lw_Z below #[Value.ref b] s) (F0 m 1292 ls []) := by
      intro z S Sm H locs ok hx1 hm1 hVX hVM hS
      refine lv_iinc (v := nI (i + 5)) (lv' := [(3, .int (nI (i + 5))), (2, .ref (Q 0)), (1, .ref (P 0)), (0, .ref b)]) hx hb dL_law_1292 hl (k := 0) rfl (by rw [show Int32.ofInt 5 = nI 5 from rfl]; exact nI_add i 5) (by decide) rfl (fun ls hl => ?_)
      refine lv_goto (tgt := 18) hx hb dL_law_1295 (by decide) ?_
      exact ih (i + 5) z S Sm H locs ls (by omega) (by omega) ok hx1 hm1 hVX hVM hS hl
    refine lv_aload_n hx hb dL_law_26 rfl (lv_at hl 3 rfl) ?_
    refine lv_iload_n hx hb dL_law_27 rfl (lv_at hl 0 rfl) ?_
    refine va_sld hx hb hX hbl hbA hS (vp_in_nI (by omega) (by omega)) dL_law_28 ?_
    refine lv_bipush (v := 63) hx hb dL_law_29 (by decide) ?_
    refine lv_iand hx hb dL_law_31 ?_
    refine lv_topi (fun y _ => ?_)
    by_cases hy : y.toInt < 0 ∨ 35 < y.toInt
    · exact lv_tableOut (tgt := 1292) hx hb dL_law_32 hy (by decide) (kk z S Sm H locs ok hx1 hm1 hVX hVM hS)
    · obtain ⟨k, hk, hyk⟩ : ∃ k : Nat, k < 36 ∧ y.toInt = (k : Int) := ⟨y.toInt.toNat, by omega, by omega⟩
      match k, hk, hyk with
      | 0, _, hyk => exact lv_tableIn (off := 160) (tgt := 192) hx hb dL_law_32 (by rw [hyk]; decide) (by rw [hyk]; decide) (by rw [hyk]; rfl) (by decide) (law_c0 hL C0 hKL hPQ hi ok hx1 hm1 hVX hVM hS hl kk)
      | 1, _, hyk => exact lv_tableIn (off := 203) (tgt := 235) hx hb dL_law_32 (by rw [hyk]; decide) (by rw [hyk]; decide) (by rw [hyk]; rfl) (by decide) (law_c1 hL C0 hKL hPQ hi ok hx1 hm1 hVX hVM hS hl kk)
      | 2, _, hyk => exact lv_tableIn (off := 226) (tgt := 258) hx hb dL_law_32 (by rw [hyk]; decide) (by rw [hyk]; decide) (by rw [hyk]; rfl) (by decide) (law_c2 hL C0 hKL hPQ hi ok hx1 hm1 hVX hVM hS hl kk)
      | 3, _, hyk => exact lv_tableIn (off := 259) (tgt := 291) hx hb dL_law_32 (by rw [hyk]; decide) (by rw [hyk]; decide) (by rw [hyk]; rfl) (by decide) (law_c3 hL C0 hKL hPQ hi ok hx1 hm1 hVX hVM hS hl kk)
      | 4, _, hyk => exact lv_tableIn (off := 292) (tgt := 324) hx hb dL_law_32 (by rw [hyk]; decide) (by rw [hyk]; decide) (by rw [hyk]; rfl) (by decide) (law_c4 hL C0 hKL hPQ hi ok hx1 hm1 hVX hVM hS hl kk)
      | 5, _, hyk => exact lv_tableIn (off := 315) (tgt := 347) hx hb dL_law_32 (by rw [hyk]; decide) (by rw [hyk]; decide) (by rw [hyk]; rfl) (by decide) (law_c5 hL C0 hKL hPQ hi ok hx1 hm1 hVX hVM hS hl kk)
      | 6, _, hyk => exact lv_tableIn (off := 348) (tgt := 380) hx hb dL_law_32 (by rw [hyk]; decide) (by rw [hyk]; decide) (by rw [hyk]; rfl) (by decide) (law_c6 hL C0 hKL hPQ hi ok hx1 hm1 hVX hVM hS hl kk)
      | 7, _, hyk => exact lv_tableIn (off := 381) (tgt := 413) hx hb dL_law_32 (by rw [hyk]; decide) (by rw [hyk]; decide) (by rw [hyk]; rfl) (by decide) (law_c7 hL C0 hKL hPQ hi ok hx1 hm1 hVX hVM hS hl kk)
      | 8, _, hyk => exact lv_tableIn (off := 414) (tgt := 446) hx hb dL_law_32 (by rw [hyk]; decide) (by rw [hyk]; decide) (by rw [hyk]; rfl) (by decide) (law_c8 hL C0 hKL hPQ hi ok hx1 hm1 hVX hVM hS hl kk)
      | 9, _, hyk => exact lv_tableIn (off := 447) (tgt := 479) hx hb dL_law_32 (by rw [hyk]; decide) (by rw [hyk]; decide) (by rw [hyk]; rfl) (by decide) (law_c9 hL C0 hKL hPQ hi ok hx1 hm1 hVX hVM hS hl kk)
      | 10, _, hyk => exact lv_tableIn (off := 490) (tgt := 522) hx hb dL_law_32 (by rw [hyk]; decide) (by rw [hyk]; decide) (by rw [hyk]; rfl) (by decide) (law_c10 hL C0 hKL hPQ hi ok hx1 hm1 hVX hVM hS hl kk)
      | 11, _, hyk => exact lv_tableIn (off := 523) (tgt := 555) hx hb dL_law_32 (by rw [hyk]; decide) (by rw [hyk]; decide) (by rw [hyk]; rfl) (by decide) (law_c11 hL C0 hKL hPQ hi ok hx1 hm1 hVX hVM hS hl kk)
      | 12, _, hyk => exact lv_tableIn (off := 556) (tgt := 588) hx hb dL_law_32 (by rw [hyk]; decide) (by rw [hyk]; decide) (by rw [hyk]; rfl) (by decide) (law_c12 hL C0 hKL hPQ hi ok hx1 hm1 hVX hVM hS hl kk)
      | 13, _, hyk => exact lv_tableIn (off := 589) (tgt := 621) hx hb dL_law_32 (by rw [hyk]; decide) (by rw [hyk]; decide) (by rw [hyk]; rfl) (by decide) (law_c13 hL C0 hKL hPQ hi ok hx1 hm1 hVX hVM hS hl kk)
      | 14, _, hyk => exact lv_tableIn (off := 622) (tgt := 654) hx hb dL_law_32 (by rw [hyk]; decide) (by rw [hyk]; decide) (by rw [hyk]; rfl) (by decide) (law_c14 hL C0 hKL hPQ hi ok hx1 hm1 hVX hVM hS hl kk)
      | 15, _, hyk => exact lv_tableIn (off := 665) (tgt := 697) hx hb dL_law_32 (by rw [hyk]; decide) (by rw [hyk]; decide) (by rw [hyk]; rfl) (by decide) (law_c15 hL C0 hKL hPQ hi ok hx1 hm1 hVX hVM hS hl kk)
      | 16, _, hyk => exact lv_tableIn (off := 718) (tgt := 750) hx hb dL_law_32 (by rw [hyk]; decide) (by rw [hyk]; decide) (by rw [hyk]; rfl) (by decide) (law_c16 hL C0 hKL hPQ hi ok hx1 hm1 hVX hVM hS hl kk)
      | 17, _, hyk => exact lv_tableIn (off := 751) (tgt := 783) hx hb dL_law_32 (by rw [hyk]; decide) (by rw [hyk]; decide) (by rw [hyk]; rfl) (by decide) (law_c17 hL C0 hKL hPQ hi ok hx1 hm1 hVX hVM hS hl kk)
      | 18, _, hyk => exact lv_tableIn (off := 764) (tgt := 796) hx hb dL_law_32 (by rw [hyk]; decide) (by rw [hyk]; decide) (by rw [hyk]; rfl) (by decide) (law_c18 hL C0 hKL hPQ hi ok hx1 hm1 hVX hVM hS hl kk)
      | 19, _, hyk => exact lv_tableIn (off := 787) (tgt := 819) hx hb dL_law_32 (by rw [hyk]; decide) (by rw [hyk]; decide) (by rw [hyk]; rfl) (by decide) (law_c19 hL C0 hKL hPQ hi ok hx1 hm1 hVX hVM hS hl kk)
      | 20, _, hyk => exact lv_tableIn (off := 831) (tgt := 863) hx hb dL_law_32 (by rw [hyk]; decide) (by rw [hyk]; decide) (by rw [hyk]; rfl) (by decide) (law_c20 hL C0 hKL hPQ hi ok hx1 hm1 hVX hVM hS hl kk)
      | 21, _, hyk => exact lv_tableIn (off := 864) (tgt := 896) hx hb dL_law_32 (by rw [hyk]; decide) (by rw [hyk]; decide) (by rw [hyk]; rfl) (by decide) (law_c21 hL C0 hKL hPQ hi ok hx1 hm1 hVX hVM hS hl kk)
      | 22, _, hyk => exact lv_tableIn (off := 877) (tgt := 909) hx hb dL_law_32 (by rw [hyk]; decide) (by rw [hyk]; decide) (by rw [hyk]; rfl) (by decide) (law_c22 hL C0 hKL hPQ hi ok hx1 hm1 hVX hVM hS hl kk)
      | 23, _, hyk => exact lv_tableIn (off := 910) (tgt := 942) hx hb dL_law_32 (by rw [hyk]; decide) (by rw [hyk]; decide) (by rw [hyk]; rfl) (by decide) (law_c23 hL C0 hKL hPQ hi ok hx1 hm1 hVX hVM hS hl kk)
      | 24, _, hyk => exact lv_tableIn (off := 933) (tgt := 965) hx hb dL_law_32 (by rw [hyk]; decide) (by rw [hyk]; decide) (by rw [hyk]; rfl) (by decide) (law_c24 hL C0 hKL hPQ hi ok hx1 hm1 hVX hVM hS hl kk)
      | 25, _, hyk => exact lv_tableIn (off := 946) (tgt := 978) hx hb dL_law_32 (by rw [hyk]; decide) (by rw [hyk]; decide) (by rw [hyk]; rfl) (by decide) (law_c25 hL C0 hKL hPQ hi ok hx1 hm1 hVX hVM hS hl kk)
      | 26, _, hyk => exact lv_tableIn (off := 979) (tgt := 1011) hx hb dL_law_32 (by rw [hyk]; decide) (by rw [hyk]; decide) (by rw [hyk]; rfl) (by decide) (law_c26 hL C0 hKL hPQ hi ok hx1 hm1 hVX hVM hS hl kk)
      | 27, _, hyk => exact lv_tableIn (off := 1002) (tgt := 1034) hx hb dL_law_32 (by rw [hyk]; decide) (by rw [hyk]; decide) (by rw [hyk]; rfl) (by decide) (law_c27 hL C0 hKL hPQ hi ok hx1 hm1 hVX hVM hS hl kk)
      | 28, _, hyk => exact lv_tableIn (off := 1035) (tgt := 1067) hx hb dL_law_32 (by rw [hyk]; decide) (by rw [hyk]; decide) (by rw [hyk]; rfl) (by decide) (law_c28 hL C0 hKL hPQ hi ok hx1 hm1 hVX hVM hS hl kk)
      | 29, _, hyk => exact lv_tableIn (off := 1068) (tgt := 1100) hx hb dL_law_32 (by rw [hyk]; decide) (by rw [hyk]; decide) (by rw [hyk]; rfl) (by decide) (law_c29 hL C0 hKL hPQ hi ok hx1 hm1 hVX hVM hS hl kk)
      | 30, _, hyk => exact lv_tableIn (off := 1101) (tgt := 1133) hx hb dL_law_32 (by rw [hyk]; decide) (by rw [hyk]; decide) (by rw [hyk]; rfl) (by decide) (law_c30 hL C0 hKL hPQ hi ok hx1 hm1 hVX hVM hS hl kk)
      | 31, _, hyk => exact lv_tableIn (off := 1144) (tgt := 1176) hx hb dL_law_32 (by rw [hyk]; decide) (by rw [hyk]; decide) (by rw [hyk]; rfl) (by decide) (law_c31 hL C0 hKL hPQ hi ok hx1 hm1 hVX hVM hS hl kk)
      | 32, _, hyk => exact lv_tableIn (off := 1178) (tgt := 1210) hx hb dL_law_32 (by rw [hyk]; decide) (by rw [hyk]; decide) (by rw [hyk]; rfl) (by decide) (law_c32 hL C0 hKL hPQ hi ok hx1 hm1 hVX hVM hS hl kk)
      | 33, _, hyk => exact lv_tableIn (off := 1211) (tgt := 1243) hx hb dL_law_32 (by rw [hyk]; decide) (by rw [hyk]; decide) (by rw [hyk]; rfl) (by decide) (law_c33 hL C0 hKL hPQ hi ok hx1 hm1 hVX hVM hS hl kk)
      | 34, _, hyk => exact lv_tableIn (off := 1224) (tgt := 1256) hx hb dL_law_32 (by rw [hyk]; decide) (by rw [hyk]; decide) (by rw [hyk]; rfl) (by decide) (law_c34 hL C0 hKL hPQ hi ok hx1 hm1 hVX hVM hS hl kk)
      | 35, _, hyk => exact lv_tableIn (off := 1237) (tgt := 1269) hx hb dL_law_32 (by rw [hyk]; decide) (by rw [hyk]; decide) (by rw [hyk]; rfl) (by decide) (law_c35 hL C0 hKL hPQ hi ok hx1 hm1 hVX hVM hS hl kk)
      | k + 36, h, _ => exact absurd h (by omega)
