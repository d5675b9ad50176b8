section
-- ===== PART A: goes FIRST, ahead of the names: the tables' words, and 'selects' of the private methods out of them =====
/-- a private method of a class that the tables say can be made, by its rows of tables_1 -/
def lw_okq (q : MethodName × Nat) : Prop := (q.1.cls ≠ "java/lang/invoke/MethodHandle" ∧ q.1.cls ≠ "java/lang/invoke/VarHandle") ∧ Cond.instantiable q.1.cls q.2 ∈ tables_1 ∧ Cond.privateMethod q.1 ∈ tables_1 ∧ Cond.instanceMethod q.1 ∈ tables_1
theorem lw_p0 : lw_okq (⟨"TurningFractions$Fraction", "turns", "(I)Z"⟩, 7) := ⟨⟨by decide +kernel, by decide +kernel⟩, List.mem_of_getElem? (i := 32) (by decide +kernel), List.mem_of_getElem? (i := 262) (by decide +kernel), List.mem_of_getElem? (i := 263) (by decide +kernel)⟩
theorem lw_p1 : lw_okq (⟨"TurningFractions", "addInLowestTerms", "(JJI)I"⟩, 12) := ⟨⟨by decide +kernel, by decide +kernel⟩, List.mem_of_getElem? (i := 17) (by decide +kernel), List.mem_of_getElem? (i := 296) (by decide +kernel), List.mem_of_getElem? (i := 297) (by decide +kernel)⟩
theorem lw_p2 : lw_okq (⟨"TurningFractions", "markRing", "(III)I"⟩, 12) := ⟨⟨by decide +kernel, by decide +kernel⟩, List.mem_of_getElem? (i := 17) (by decide +kernel), List.mem_of_getElem? (i := 418) (by decide +kernel), List.mem_of_getElem? (i := 419) (by decide +kernel)⟩
theorem lw_p3 : lw_okq (⟨"TurningFractions$Denominators", "isSo", "(II)Z"⟩, 4) := ⟨⟨by decide +kernel, by decide +kernel⟩, List.mem_of_getElem? (i := 76) (by decide +kernel), List.mem_of_getElem? (i := 529) (by decide +kernel), List.mem_of_getElem? (i := 530) (by decide +kernel)⟩
theorem lw_p4 : lw_okq (⟨"TurningFractions$Fraction", "wholeDigits", "()I"⟩, 7) := ⟨⟨by decide +kernel, by decide +kernel⟩, List.mem_of_getElem? (i := 32) (by decide +kernel), List.mem_of_getElem? (i := 582) (by decide +kernel), List.mem_of_getElem? (i := 583) (by decide +kernel)⟩
theorem lw_p5 : lw_okq (⟨"TurningFractions$Fraction", "wholeDigit", "(I)I"⟩, 7) := ⟨⟨by decide +kernel, by decide +kernel⟩, List.mem_of_getElem? (i := 32) (by decide +kernel), List.mem_of_getElem? (i := 591) (by decide +kernel), List.mem_of_getElem? (i := 592) (by decide +kernel)⟩
theorem lw_p6 : lw_okq (⟨"TurningFractions$Tape", "digitOn", "(I)I"⟩, 4) := ⟨⟨by decide +kernel, by decide +kernel⟩, List.mem_of_getElem? (i := 101) (by decide +kernel), List.mem_of_getElem? (i := 611) (by decide +kernel), List.mem_of_getElem? (i := 612) (by decide +kernel)⟩
theorem lw_p7 : lw_okq (⟨"TurningFractions$Numeral", "takesPeriod", "(LTurningFractions$Tape;I)Z"⟩, 2) := ⟨⟨by decide +kernel, by decide +kernel⟩, List.mem_of_getElem? (i := 126) (by decide +kernel), List.mem_of_getElem? (i := 621) (by decide +kernel), List.mem_of_getElem? (i := 622) (by decide +kernel)⟩
theorem lw_p8 : lw_okq (⟨"TurningFractions$Script", "parseCommand", "(LTurningFractions$Tape;)I"⟩, 3) := ⟨⟨by decide +kernel, by decide +kernel⟩, List.mem_of_getElem? (i := 141) (by decide +kernel), List.mem_of_getElem? (i := 637) (by decide +kernel), List.mem_of_getElem? (i := 638) (by decide +kernel)⟩
theorem lw_p9 : lw_okq (⟨"TurningFractions", "doCommand", "(I)I"⟩, 12) := ⟨⟨by decide +kernel, by decide +kernel⟩, List.mem_of_getElem? (i := 17) (by decide +kernel), List.mem_of_getElem? (i := 664) (by decide +kernel), List.mem_of_getElem? (i := 665) (by decide +kernel)⟩
theorem lw_p10 : lw_okq (⟨"TurningFractions", "holderAt", "(I)LTurningFractions$Holder;"⟩, 12) := ⟨⟨by decide +kernel, by decide +kernel⟩, List.mem_of_getElem? (i := 17) (by decide +kernel), List.mem_of_getElem? (i := 686) (by decide +kernel), List.mem_of_getElem? (i := 687) (by decide +kernel)⟩
theorem lw_p11 : lw_okq (⟨"TurningFractionsModel", "comes", "(III)I"⟩, 44) := ⟨⟨by decide +kernel, by decide +kernel⟩, List.mem_of_getElem? (i := 765) (by decide +kernel), List.mem_of_getElem? (i := 919) (by decide +kernel), List.mem_of_getElem? (i := 920) (by decide +kernel)⟩
theorem lw_p12 : lw_okq (⟨"TurningFractionsModel", "isFraction", "(I)Z"⟩, 44) := ⟨⟨by decide +kernel, by decide +kernel⟩, List.mem_of_getElem? (i := 765) (by decide +kernel), List.mem_of_getElem? (i := 927) (by decide +kernel), List.mem_of_getElem? (i := 928) (by decide +kernel)⟩
theorem lw_p13 : lw_okq (⟨"TurningFractionsModel", "comesLowest", "(JJI)I"⟩, 44) := ⟨⟨by decide +kernel, by decide +kernel⟩, List.mem_of_getElem? (i := 765) (by decide +kernel), List.mem_of_getElem? (i := 939) (by decide +kernel), List.mem_of_getElem? (i := 940) (by decide +kernel)⟩
theorem lw_p14 : lw_okq (⟨"TurningFractionsModel", "looksAt", "(I)V"⟩, 44) := ⟨⟨by decide +kernel, by decide +kernel⟩, List.mem_of_getElem? (i := 765) (by decide +kernel), List.mem_of_getElem? (i := 954) (by decide +kernel), List.mem_of_getElem? (i := 955) (by decide +kernel)⟩
theorem lw_p15 : lw_okq (⟨"TurningFractionsModel", "looks", "(JII)V"⟩, 44) := ⟨⟨by decide +kernel, by decide +kernel⟩, List.mem_of_getElem? (i := 765) (by decide +kernel), List.mem_of_getElem? (i := 958) (by decide +kernel), List.mem_of_getElem? (i := 959) (by decide +kernel)⟩
def lw_privs_1 : List (MethodName × Nat) := [(⟨"TurningFractions$Fraction", "turns", "(I)Z"⟩, 7), (⟨"TurningFractions", "addInLowestTerms", "(JJI)I"⟩, 12), (⟨"TurningFractions", "markRing", "(III)I"⟩, 12), (⟨"TurningFractions$Denominators", "isSo", "(II)Z"⟩, 4), (⟨"TurningFractions$Fraction", "wholeDigits", "()I"⟩, 7), (⟨"TurningFractions$Fraction", "wholeDigit", "(I)I"⟩, 7), (⟨"TurningFractions$Tape", "digitOn", "(I)I"⟩, 4), (⟨"TurningFractions$Numeral", "takesPeriod", "(LTurningFractions$Tape;I)Z"⟩, 2), (⟨"TurningFractions$Script", "parseCommand", "(LTurningFractions$Tape;)I"⟩, 3), (⟨"TurningFractions", "doCommand", "(I)I"⟩, 12), (⟨"TurningFractions", "holderAt", "(I)LTurningFractions$Holder;"⟩, 12), (⟨"TurningFractionsModel", "comes", "(III)I"⟩, 44), (⟨"TurningFractionsModel", "isFraction", "(I)Z"⟩, 44), (⟨"TurningFractionsModel", "comesLowest", "(JJI)I"⟩, 44), (⟨"TurningFractionsModel", "looksAt", "(I)V"⟩, 44), (⟨"TurningFractionsModel", "looks", "(JII)V"⟩, 44)]
theorem lw_r1 : ∀ q ∈ lw_privs_1, lw_okq q := List.forall_mem_cons.mpr ⟨lw_p0, List.forall_mem_cons.mpr ⟨lw_p1, List.forall_mem_cons.mpr ⟨lw_p2, List.forall_mem_cons.mpr ⟨lw_p3, List.forall_mem_cons.mpr ⟨lw_p4, List.forall_mem_cons.mpr ⟨lw_p5, List.forall_mem_cons.mpr ⟨lw_p6, List.forall_mem_cons.mpr ⟨lw_p7, List.forall_mem_cons.mpr ⟨lw_p8, List.forall_mem_cons.mpr ⟨lw_p9, List.forall_mem_cons.mpr ⟨lw_p10, List.forall_mem_cons.mpr ⟨lw_p11, List.forall_mem_cons.mpr ⟨lw_p12, List.forall_mem_cons.mpr ⟨lw_p13, List.forall_mem_cons.mpr ⟨lw_p14, List.forall_mem_cons.mpr ⟨lw_p15, fun _ h => absurd h List.not_mem_nil⟩⟩⟩⟩⟩⟩⟩⟩⟩⟩⟩⟩⟩⟩⟩⟩
theorem lw_p16 : lw_okq (⟨"TurningFractionsModel", "kindNow", "()I"⟩, 44) := ⟨⟨by decide +kernel, by decide +kernel⟩, List.mem_of_getElem? (i := 765) (by decide +kernel), List.mem_of_getElem? (i := 962) (by decide +kernel), List.mem_of_getElem? (i := 963) (by decide +kernel)⟩
theorem lw_p17 : lw_okq (⟨"TurningFractionsModel", "placeOf", "(I)I"⟩, 44) := ⟨⟨by decide +kernel, by decide +kernel⟩, List.mem_of_getElem? (i := 765) (by decide +kernel), List.mem_of_getElem? (i := 970) (by decide +kernel), List.mem_of_getElem? (i := 971) (by decide +kernel)⟩
theorem lw_p18 : lw_okq (⟨"TurningFractionsModel", "isParted", "(I)Z"⟩, 44) := ⟨⟨by decide +kernel, by decide +kernel⟩, List.mem_of_getElem? (i := 765) (by decide +kernel), List.mem_of_getElem? (i := 986) (by decide +kernel), List.mem_of_getElem? (i := 987) (by decide +kernel)⟩
theorem lw_p19 : lw_okq (⟨"TurningFractionsModel", "blocks", "(II)V"⟩, 44) := ⟨⟨by decide +kernel, by decide +kernel⟩, List.mem_of_getElem? (i := 765) (by decide +kernel), List.mem_of_getElem? (i := 991) (by decide +kernel), List.mem_of_getElem? (i := 992) (by decide +kernel)⟩
theorem lw_p20 : lw_okq (⟨"TurningFractionsModel", "ninesNow", "(II)I"⟩, 44) := ⟨⟨by decide +kernel, by decide +kernel⟩, List.mem_of_getElem? (i := 765) (by decide +kernel), List.mem_of_getElem? (i := 999) (by decide +kernel), List.mem_of_getElem? (i := 1000) (by decide +kernel)⟩
theorem lw_p21 : lw_okq (⟨"TurningFractionsModel", "smallNines", "(IIJ)I"⟩, 44) := ⟨⟨by decide +kernel, by decide +kernel⟩, List.mem_of_getElem? (i := 765) (by decide +kernel), List.mem_of_getElem? (i := 1004) (by decide +kernel), List.mem_of_getElem? (i := 1005) (by decide +kernel)⟩
theorem lw_p22 : lw_okq (⟨"TurningFractionsModel", "greatNines", "(II)I"⟩, 44) := ⟨⟨by decide +kernel, by decide +kernel⟩, List.mem_of_getElem? (i := 765) (by decide +kernel), List.mem_of_getElem? (i := 1008) (by decide +kernel), List.mem_of_getElem? (i := 1009) (by decide +kernel)⟩
theorem lw_p23 : lw_okq (⟨"TurningFractionsModel", "keepsRing", "(I)V"⟩, 44) := ⟨⟨by decide +kernel, by decide +kernel⟩, List.mem_of_getElem? (i := 765) (by decide +kernel), List.mem_of_getElem? (i := 1016) (by decide +kernel), List.mem_of_getElem? (i := 1017) (by decide +kernel)⟩
theorem lw_p24 : lw_okq (⟨"TurningFractionsModel", "shiftNow", "(II)I"⟩, 44) := ⟨⟨by decide +kernel, by decide +kernel⟩, List.mem_of_getElem? (i := 765) (by decide +kernel), List.mem_of_getElem? (i := 1020) (by decide +kernel), List.mem_of_getElem? (i := 1021) (by decide +kernel)⟩
theorem lw_p25 : lw_okq (⟨"TurningFractionsModel", "isFull", "(II)Z"⟩, 44) := ⟨⟨by decide +kernel, by decide +kernel⟩, List.mem_of_getElem? (i := 765) (by decide +kernel), List.mem_of_getElem? (i := 1041) (by decide +kernel), List.mem_of_getElem? (i := 1042) (by decide +kernel)⟩
theorem lw_p26 : lw_okq (⟨"TurningFractionsModel", "wordOf", "(II)I"⟩, 44) := ⟨⟨by decide +kernel, by decide +kernel⟩, List.mem_of_getElem? (i := 765) (by decide +kernel), List.mem_of_getElem? (i := 1080) (by decide +kernel), List.mem_of_getElem? (i := 1081) (by decide +kernel)⟩
theorem lw_p27 : lw_okq (⟨"TurningFractionsModel", "isSo", "(II)Z"⟩, 44) := ⟨⟨by decide +kernel, by decide +kernel⟩, List.mem_of_getElem? (i := 765) (by decide +kernel), List.mem_of_getElem? (i := 1084) (by decide +kernel), List.mem_of_getElem? (i := 1085) (by decide +kernel)⟩
theorem lw_p28 : lw_okq (⟨"TurningFractionsModel", "wholeSize", "(I)I"⟩, 44) := ⟨⟨by decide +kernel, by decide +kernel⟩, List.mem_of_getElem? (i := 765) (by decide +kernel), List.mem_of_getElem? (i := 1095) (by decide +kernel), List.mem_of_getElem? (i := 1096) (by decide +kernel)⟩
theorem lw_p29 : lw_okq (⟨"TurningFractionsModel", "wholeDigit", "(II)I"⟩, 44) := ⟨⟨by decide +kernel, by decide +kernel⟩, List.mem_of_getElem? (i := 765) (by decide +kernel), List.mem_of_getElem? (i := 1099) (by decide +kernel), List.mem_of_getElem? (i := 1100) (by decide +kernel)⟩
theorem lw_p30 : lw_okq (⟨"TurningFractionsModel", "isNumeral", "(I)Z"⟩, 44) := ⟨⟨by decide +kernel, by decide +kernel⟩, List.mem_of_getElem? (i := 765) (by decide +kernel), List.mem_of_getElem? (i := 1110) (by decide +kernel), List.mem_of_getElem? (i := 1111) (by decide +kernel)⟩
theorem lw_p31 : lw_okq (⟨"TurningFractionsModel", "readsDigits", "(I)V"⟩, 44) := ⟨⟨by decide +kernel, by decide +kernel⟩, List.mem_of_getElem? (i := 765) (by decide +kernel), List.mem_of_getElem? (i := 1114) (by decide +kernel), List.mem_of_getElem? (i := 1115) (by decide +kernel)⟩
def lw_privs_2 : List (MethodName × Nat) := [(⟨"TurningFractionsModel", "kindNow", "()I"⟩, 44), (⟨"TurningFractionsModel", "placeOf", "(I)I"⟩, 44), (⟨"TurningFractionsModel", "isParted", "(I)Z"⟩, 44), (⟨"TurningFractionsModel", "blocks", "(II)V"⟩, 44), (⟨"TurningFractionsModel", "ninesNow", "(II)I"⟩, 44), (⟨"TurningFractionsModel", "smallNines", "(IIJ)I"⟩, 44), (⟨"TurningFractionsModel", "greatNines", "(II)I"⟩, 44), (⟨"TurningFractionsModel", "keepsRing", "(I)V"⟩, 44), (⟨"TurningFractionsModel", "shiftNow", "(II)I"⟩, 44), (⟨"TurningFractionsModel", "isFull", "(II)Z"⟩, 44), (⟨"TurningFractionsModel", "wordOf", "(II)I"⟩, 44), (⟨"TurningFractionsModel", "isSo", "(II)Z"⟩, 44), (⟨"TurningFractionsModel", "wholeSize", "(I)I"⟩, 44), (⟨"TurningFractionsModel", "wholeDigit", "(II)I"⟩, 44), (⟨"TurningFractionsModel", "isNumeral", "(I)Z"⟩, 44), (⟨"TurningFractionsModel", "readsDigits", "(I)V"⟩, 44)]
theorem lw_r2 : ∀ q ∈ lw_privs_2, lw_okq q := List.forall_mem_cons.mpr ⟨lw_p16, List.forall_mem_cons.mpr ⟨lw_p17, List.forall_mem_cons.mpr ⟨lw_p18, List.forall_mem_cons.mpr ⟨lw_p19, List.forall_mem_cons.mpr ⟨lw_p20, List.forall_mem_cons.mpr ⟨lw_p21, List.forall_mem_cons.mpr ⟨lw_p22, List.forall_mem_cons.mpr ⟨lw_p23, List.forall_mem_cons.mpr ⟨lw_p24, List.forall_mem_cons.mpr ⟨lw_p25, List.forall_mem_cons.mpr ⟨lw_p26, List.forall_mem_cons.mpr ⟨lw_p27, List.forall_mem_cons.mpr ⟨lw_p28, List.forall_mem_cons.mpr ⟨lw_p29, List.forall_mem_cons.mpr ⟨lw_p30, List.forall_mem_cons.mpr ⟨lw_p31, fun _ h => absurd h List.not_mem_nil⟩⟩⟩⟩⟩⟩⟩⟩⟩⟩⟩⟩⟩⟩⟩⟩
theorem lw_p32 : lw_okq (⟨"TurningFractionsModel", "digitAt", "()I"⟩, 44) := ⟨⟨by decide +kernel, by decide +kernel⟩, List.mem_of_getElem? (i := 765) (by decide +kernel), List.mem_of_getElem? (i := 1118) (by decide +kernel), List.mem_of_getElem? (i := 1119) (by decide +kernel)⟩
theorem lw_p33 : lw_okq (⟨"TurningFractionsModel", "isAt", "(II)Z"⟩, 44) := ⟨⟨by decide +kernel, by decide +kernel⟩, List.mem_of_getElem? (i := 765) (by decide +kernel), List.mem_of_getElem? (i := 1122) (by decide +kernel), List.mem_of_getElem? (i := 1123) (by decide +kernel)⟩
theorem lw_p34 : lw_okq (⟨"TurningFractionsModel", "command", "()I"⟩, 44) := ⟨⟨by decide +kernel, by decide +kernel⟩, List.mem_of_getElem? (i := 765) (by decide +kernel), List.mem_of_getElem? (i := 1130) (by decide +kernel), List.mem_of_getElem? (i := 1131) (by decide +kernel)⟩
theorem lw_p35 : lw_okq (⟨"TurningFractionsModel", "commandOf", "(II)I"⟩, 44) := ⟨⟨by decide +kernel, by decide +kernel⟩, List.mem_of_getElem? (i := 765) (by decide +kernel), List.mem_of_getElem? (i := 1134) (by decide +kernel), List.mem_of_getElem? (i := 1135) (by decide +kernel)⟩
theorem lw_p36 : lw_okq (⟨"TurningFractionsModel", "done", "(I)I"⟩, 44) := ⟨⟨by decide +kernel, by decide +kernel⟩, List.mem_of_getElem? (i := 765) (by decide +kernel), List.mem_of_getElem? (i := 1141) (by decide +kernel), List.mem_of_getElem? (i := 1142) (by decide +kernel)⟩
theorem lw_p37 : lw_okq (⟨"TurningFractionsModel", "looksHeld", "(I)V"⟩, 44) := ⟨⟨by decide +kernel, by decide +kernel⟩, List.mem_of_getElem? (i := 765) (by decide +kernel), List.mem_of_getElem? (i := 1157) (by decide +kernel), List.mem_of_getElem? (i := 1158) (by decide +kernel)⟩
theorem lw_p38 : lw_okq (⟨"TurningFractionsModel", "whyNot", "(II)I"⟩, 44) := ⟨⟨by decide +kernel, by decide +kernel⟩, List.mem_of_getElem? (i := 765) (by decide +kernel), List.mem_of_getElem? (i := 1170) (by decide +kernel), List.mem_of_getElem? (i := 1171) (by decide +kernel)⟩
def lw_privs_3 : List (MethodName × Nat) := [(⟨"TurningFractionsModel", "digitAt", "()I"⟩, 44), (⟨"TurningFractionsModel", "isAt", "(II)Z"⟩, 44), (⟨"TurningFractionsModel", "command", "()I"⟩, 44), (⟨"TurningFractionsModel", "commandOf", "(II)I"⟩, 44), (⟨"TurningFractionsModel", "done", "(I)I"⟩, 44), (⟨"TurningFractionsModel", "looksHeld", "(I)V"⟩, 44), (⟨"TurningFractionsModel", "whyNot", "(II)I"⟩, 44)]
theorem lw_r3 : ∀ q ∈ lw_privs_3, lw_okq q := List.forall_mem_cons.mpr ⟨lw_p32, List.forall_mem_cons.mpr ⟨lw_p33, List.forall_mem_cons.mpr ⟨lw_p34, List.forall_mem_cons.mpr ⟨lw_p35, List.forall_mem_cons.mpr ⟨lw_p36, List.forall_mem_cons.mpr ⟨lw_p37, List.forall_mem_cons.mpr ⟨lw_p38, fun _ h => absurd h List.not_mem_nil⟩⟩⟩⟩⟩⟩⟩
def lw_privs : List (MethodName × Nat) := lw_privs_1 ++ (lw_privs_2 ++ (lw_privs_3))
def lw_tbl : List Cond := k2_sels lw_privs ++ tables_1
theorem lw_privs_ok : ∀ q ∈ lw_privs, lw_okq q := by
  show ∀ q ∈ lw_privs_1 ++ (lw_privs_2 ++ (lw_privs_3)), lw_okq q
  exact List.forall_mem_append.mpr ⟨lw_r1, List.forall_mem_append.mpr ⟨lw_r2, lw_r3⟩⟩
end
section
def RX0 : String := "TurningFractions$Denominators"
def TX0 : u_T := fun k => match k with
  | 0 => ("TurningFractions$Denominators", "numbers", "[I", true)
  | 1 => ("TurningFractions$Denominators", "length", "I", false)
  | 2 => ("TurningFractions$Denominators", "base", "I", false)
  | _ => ("TurningFractions$Denominators", "unit", "LTurningFractions$Fraction;", true)
def tyX0 : Nat → FieldType := fun k => match k with
  | 0 => .array .int
  | 1 => .int
  | 2 => .int
  | _ => .object "TurningFractions$Fraction"
abbrev wsX00 : List Cond := u_ws RX0 TX0 4
theorem nmX0 : ∀ a, a < 4 → ∀ b, b < 4 → a ≠ b → (TX0 a).2.1 ≠ (TX0 b).2.1 := by decide +kernel
theorem tyX0_ok : ∀ k, k < 4 → parseFieldDescriptor (TX0 k).2.2.1 = some (tyX0 k) := by decide +kernel
abbrev cX0_init : ByteArray := prog_2_method_1_code
def yX0_init : MethodName := ⟨RX0, "<init>", "()V"⟩
abbrev cX0_fillTo : ByteArray := prog_2_method_2_code
def yX0_fillTo : MethodName := ⟨RX0, "fillTo", "(II)V"⟩
abbrev cX0_becomeLike : ByteArray := prog_2_method_3_code
def yX0_becomeLike : MethodName := ⟨RX0, "becomeLike", "(LTurningFractions$Denominators;)V"⟩
abbrev cX0_wordOn : ByteArray := prog_2_method_4_code
def yX0_wordOn : MethodName := ⟨RX0, "wordOn", "(LTurningFractions$Tape;I)I"⟩
abbrev cX0_wordText : ByteArray := prog_2_method_5_code
def yX0_wordText : MethodName := ⟨RX0, "wordText", "(I)Ljava/lang/String;"⟩
abbrev cX0_keepOnly : ByteArray := prog_2_method_6_code
def yX0_keepOnly : MethodName := ⟨RX0, "keepOnly", "(IZ)V"⟩
abbrev cX0_isSo : ByteArray := prog_2_method_7_code
def yX0_isSo : MethodName := ⟨RX0, "isSo", "(II)Z"⟩
def RX1 : String := "TurningFractions$Fraction"
def TX1 : u_T := fun k => match k with
  | 0 => ("TurningFractions$Fraction", "a", "I", false)
  | 1 => ("TurningFractions$Fraction", "b", "I", false)
  | 2 => ("TurningFractions$Fraction", "base", "I", false)
  | 3 => ("TurningFractions$Fraction", "head", "I", false)
  | 4 => ("TurningFractions$Fraction", "length", "I", false)
  | 5 => ("TurningFractions$Fraction", "turningRest", "I", false)
  | _ => ("TurningFractions$Fraction", "fading", "I", false)
def tyX1 : Nat → FieldType := fun k => match k with
  | 0 => .int
  | 1 => .int
  | 2 => .int
  | 3 => .int
  | 4 => .int
  | 5 => .int
  | _ => .int
abbrev wsX10 : List Cond := u_ws RX1 TX1 7
theorem nmX1 : ∀ a, a < 7 → ∀ b, b < 7 → a ≠ b → (TX1 a).2.1 ≠ (TX1 b).2.1 := by decide +kernel
theorem tyX1_ok : ∀ k, k < 7 → parseFieldDescriptor (TX1 k).2.2.1 = some (tyX1 k) := by decide +kernel
abbrev cX1_init : ByteArray := prog_3_method_1_code
def yX1_init : MethodName := ⟨RX1, "<init>", "()V"⟩
abbrev cX1_become : ByteArray := prog_3_method_2_code
def yX1_become : MethodName := ⟨RX1, "become", "(III)V"⟩
abbrev cX1_becomeLike : ByteArray := prog_3_method_3_code
def yX1_becomeLike : MethodName := ⟨RX1, "becomeLike", "(LTurningFractions$Fraction;)V"⟩
abbrev cX1_turns : ByteArray := prog_3_method_4_code
def yX1_turns : MethodName := ⟨RX1, "turns", "(I)Z"⟩
abbrev cX1_restAfter : ByteArray := prog_3_method_5_code
def yX1_restAfter : MethodName := ⟨RX1, "restAfter", "(I)I"⟩
abbrev cX1_digitOf : ByteArray := prog_3_method_6_code
def yX1_digitOf : MethodName := ⟨RX1, "digitOf", "(I)I"⟩
abbrev cX1_restAt : ByteArray := prog_3_method_7_code
def yX1_restAt : MethodName := ⟨RX1, "restAt", "(I)I"⟩
abbrev cX1_whole : ByteArray := prog_3_method_8_code
def yX1_whole : MethodName := ⟨RX1, "whole", "()I"⟩
abbrev cX1_ends : ByteArray := prog_3_method_9_code
def yX1_ends : MethodName := ⟨RX1, "ends", "()Z"⟩
abbrev cX1_kind : ByteArray := prog_3_method_10_code
def yX1_kind : MethodName := ⟨RX1, "kind", "()I"⟩
abbrev cX1_isFullUnit : ByteArray := prog_3_method_11_code
def yX1_isFullUnit : MethodName := ⟨RX1, "isFullUnit", "()Z"⟩
abbrev cX1_placeOfDigit : ByteArray := prog_3_method_12_code
def yX1_placeOfDigit : MethodName := ⟨RX1, "placeOfDigit", "(I)I"⟩
abbrev cX1_partsInto : ByteArray := prog_3_method_13_code
def yX1_partsInto : MethodName := ⟨RX1, "partsInto", "(I)Z"⟩
abbrev cX1_blockWidth : ByteArray := prog_3_method_14_code
def yX1_blockWidth : MethodName := ⟨RX1, "blockWidth", "(I)I"⟩
abbrev cX1_ninesOfBlocks : ByteArray := prog_3_method_15_code
def yX1_ninesOfBlocks : MethodName := ⟨RX1, "ninesOfBlocks", "(I)I"⟩
abbrev cX1_turningRestTimes : ByteArray := prog_3_method_16_code
def yX1_turningRestTimes : MethodName := ⟨RX1, "turningRestTimes", "(I)I"⟩
abbrev cX1_placeInPeriod : ByteArray := prog_3_method_17_code
def yX1_placeInPeriod : MethodName := ⟨RX1, "placeInPeriod", "(I)I"⟩
abbrev cX1_spelledLength : ByteArray := prog_3_method_18_code
def yX1_spelledLength : MethodName := ⟨RX1, "spelledLength", "()I"⟩
abbrev cX1_spelledByte : ByteArray := prog_3_method_19_code
def yX1_spelledByte : MethodName := ⟨RX1, "spelledByte", "(I)I"⟩
abbrev cX1_wholeDigits : ByteArray := prog_3_method_20_code
def yX1_wholeDigits : MethodName := ⟨RX1, "wholeDigits", "()I"⟩
abbrev cX1_wholeDigit : ByteArray := prog_3_method_21_code
def yX1_wholeDigit : MethodName := ⟨RX1, "wholeDigit", "(I)I"⟩
abbrev cX1_signOf : ByteArray := prog_3_method_22_code
def yX1_signOf : MethodName := ⟨RX1, "signOf", "(I)I"⟩
def RX2 : String := "TurningFractions$Holder"
def TX2 : u_T := fun k => match k with
  | 0 => ("TurningFractions$Holder", "held", "I", false)
  | 1 => ("TurningFractions$Holder", "fraction", "LTurningFractions$Fraction;", true)
  | 2 => ("TurningFractions$Holder", "row", "[I", true)
  | _ => ("TurningFractions$Holder", "rowLength", "I", false)
def tyX2 : Nat → FieldType := fun k => match k with
  | 0 => .int
  | 1 => .object "TurningFractions$Fraction"
  | 2 => .array .int
  | _ => .int
abbrev wsX20 : List Cond := u_ws RX2 TX2 4
theorem nmX2 : ∀ a, a < 4 → ∀ b, b < 4 → a ≠ b → (TX2 a).2.1 ≠ (TX2 b).2.1 := by decide +kernel
theorem tyX2_ok : ∀ k, k < 4 → parseFieldDescriptor (TX2 k).2.2.1 = some (tyX2 k) := by decide +kernel
abbrev cX2_init : ByteArray := prog_4_method_1_code
def yX2_init : MethodName := ⟨RX2, "<init>", "()V"⟩
abbrev cX2_holdFraction : ByteArray := prog_4_method_2_code
def yX2_holdFraction : MethodName := ⟨RX2, "holdFraction", "(LTurningFractions$Fraction;)V"⟩
abbrev cX2_holdRow : ByteArray := prog_4_method_3_code
def yX2_holdRow : MethodName := ⟨RX2, "holdRow", "(I)V"⟩
abbrev cX2_refusalAs : ByteArray := prog_4_method_4_code
def yX2_refusalAs : MethodName := ⟨RX2, "refusalAs", "(I)I"⟩
abbrev cX2_hasPlace : ByteArray := prog_4_method_5_code
def yX2_hasPlace : MethodName := ⟨RX2, "hasPlace", "(I)Z"⟩
abbrev cX2_firstUnlike : ByteArray := prog_4_method_6_code
def yX2_firstUnlike : MethodName := ⟨RX2, "firstUnlike", "(LTurningFractions$Fraction;)I"⟩
def RX3 : String := "TurningFractions$Numeral"
def TX3 : u_T := fun k => match k with
  | 0 => ("TurningFractions$Numeral", "a", "J", false)
  | _ => ("TurningFractions$Numeral", "b", "J", false)
def tyX3 : Nat → FieldType := fun k => match k with
  | 0 => .long
  | _ => .long
abbrev wsX30 : List Cond := u_ws RX3 TX3 2
theorem nmX3 : ∀ a, a < 2 → ∀ b, b < 2 → a ≠ b → (TX3 a).2.1 ≠ (TX3 b).2.1 := by decide +kernel
theorem tyX3_ok : ∀ k, k < 2 → parseFieldDescriptor (TX3 k).2.2.1 = some (tyX3 k) := by decide +kernel
abbrev cX3_init : ByteArray := prog_5_method_1_code
def yX3_init : MethodName := ⟨RX3, "<init>", "()V"⟩
abbrev cX3_parse : ByteArray := prog_5_method_2_code
def yX3_parse : MethodName := ⟨RX3, "parse", "(LTurningFractions$Tape;I)I"⟩
abbrev cX3_takesPeriod : ByteArray := prog_5_method_3_code
def yX3_takesPeriod : MethodName := ⟨RX3, "takesPeriod", "(LTurningFractions$Tape;I)Z"⟩
def RX4 : String := "TurningFractions$Period"
def TX4 : u_T := fun k => match k with
  | 0 => ("TurningFractions$Period", "digits", "[I", true)
  | _ => ("TurningFractions$Period", "length", "I", false)
def tyX4 : Nat → FieldType := fun k => match k with
  | 0 => .array .int
  | _ => .int
abbrev wsX40 : List Cond := u_ws RX4 TX4 2
theorem nmX4 : ∀ a, a < 2 → ∀ b, b < 2 → a ≠ b → (TX4 a).2.1 ≠ (TX4 b).2.1 := by decide +kernel
theorem tyX4_ok : ∀ k, k < 2 → parseFieldDescriptor (TX4 k).2.2.1 = some (tyX4 k) := by decide +kernel
abbrev cX4_init : ByteArray := prog_6_method_1_code
def yX4_init : MethodName := ⟨RX4, "<init>", "()V"⟩
abbrev cX4_load : ByteArray := prog_6_method_2_code
def yX4_load : MethodName := ⟨RX4, "load", "(LTurningFractions$Fraction;)V"⟩
abbrev cX4_placeOfBlocks : ByteArray := prog_6_method_3_code
def yX4_placeOfBlocks : MethodName := ⟨RX4, "placeOfBlocks", "(IIII)I"⟩
abbrev cX4_worthTogether : ByteArray := prog_6_method_4_code
def yX4_worthTogether : MethodName := ⟨RX4, "worthTogether", "(II)J"⟩
abbrev cX4_worth : ByteArray := prog_6_method_5_code
def yX4_worth : MethodName := ⟨RX4, "worth", "(IIII)I"⟩
def RX5 : String := "TurningFractions$Script"
def TX5 : u_T := fun k => match k with
  | 0 => ("TurningFractions$Script", "words", "[I", true)
  | 1 => ("TurningFractions$Script", "numbers", "[I", true)
  | _ => ("TurningFractions$Script", "commands", "I", false)
def tyX5 : Nat → FieldType := fun k => match k with
  | 0 => .array .int
  | 1 => .array .int
  | _ => .int
abbrev wsX50 : List Cond := u_ws RX5 TX5 3
theorem nmX5 : ∀ a, a < 3 → ∀ b, b < 3 → a ≠ b → (TX5 a).2.1 ≠ (TX5 b).2.1 := by decide +kernel
theorem tyX5_ok : ∀ k, k < 3 → parseFieldDescriptor (TX5 k).2.2.1 = some (tyX5 k) := by decide +kernel
abbrev cX5_init : ByteArray := prog_7_method_1_code
def yX5_init : MethodName := ⟨RX5, "<init>", "()V"⟩
abbrev cX5_word : ByteArray := prog_7_method_2_code
def yX5_word : MethodName := ⟨RX5, "word", "(I)I"⟩
abbrev cX5_number : ByteArray := prog_7_method_3_code
def yX5_number : MethodName := ⟨RX5, "number", "(II)I"⟩
abbrev cX5_parse : ByteArray := prog_7_method_4_code
def yX5_parse : MethodName := ⟨RX5, "parse", "(LTurningFractions$Tape;)I"⟩
abbrev cX5_parseCommand : ByteArray := prog_7_method_5_code
def yX5_parseCommand : MethodName := ⟨RX5, "parseCommand", "(LTurningFractions$Tape;)I"⟩
abbrev cX5_wordBetween : ByteArray := prog_7_method_6_code
def yX5_wordBetween : MethodName := ⟨RX5, "wordBetween", "(LTurningFractions$Tape;I)I"⟩
abbrev cX5_wordText : ByteArray := prog_7_method_7_code
def yX5_wordText : MethodName := ⟨RX5, "wordText", "(I)Ljava/lang/String;"⟩
abbrev cX5_numbersOf : ByteArray := prog_7_method_8_code
def yX5_numbersOf : MethodName := ⟨RX5, "numbersOf", "(I)I"⟩
def RX6 : String := "TurningFractions$Shelf"
def TX6 : u_T := fun k => match k with
  | 0 => ("TurningFractions$Shelf", "places", "[LTurningFractions$Fraction;", true)
  | _ => ("TurningFractions$Shelf", "length", "I", false)
def tyX6 : Nat → FieldType := fun k => match k with
  | 0 => .array (.object "TurningFractions$Fraction")
  | _ => .int
abbrev wsX60 : List Cond := u_ws RX6 TX6 2
theorem nmX6 : ∀ a, a < 2 → ∀ b, b < 2 → a ≠ b → (TX6 a).2.1 ≠ (TX6 b).2.1 := by decide +kernel
theorem tyX6_ok : ∀ k, k < 2 → parseFieldDescriptor (TX6 k).2.2.1 = some (tyX6 k) := by decide +kernel
abbrev cX6_init : ByteArray := prog_8_method_1_code
def yX6_init : MethodName := ⟨RX6, "<init>", "()V"⟩
abbrev cX6_at : ByteArray := prog_8_method_2_code
def yX6_at : MethodName := ⟨RX6, "at", "(I)LTurningFractions$Fraction;"⟩
abbrev cX6_add : ByteArray := prog_8_method_3_code
def yX6_add : MethodName := ⟨RX6, "add", "(III)I"⟩
abbrev cX6_takeAway : ByteArray := prog_8_method_4_code
def yX6_takeAway : MethodName := ⟨RX6, "takeAway", "(I)I"⟩
abbrev cX6_becomeLike : ByteArray := prog_8_method_5_code
def yX6_becomeLike : MethodName := ⟨RX6, "becomeLike", "(LTurningFractions$Shelf;)V"⟩
def RX7 : String := "TurningFractions$Tape"
def TX7 : u_T := fun k => match k with
  | 0 => ("TurningFractions$Tape", "bytes", "[I", true)
  | 1 => ("TurningFractions$Tape", "length", "I", false)
  | 2 => ("TurningFractions$Tape", "at", "I", false)
  | _ => ("TurningFractions$Tape", "number", "J", false)
def tyX7 : Nat → FieldType := fun k => match k with
  | 0 => .array .int
  | 1 => .int
  | 2 => .int
  | _ => .long
abbrev wsX70 : List Cond := u_ws RX7 TX7 4
theorem nmX7 : ∀ a, a < 4 → ∀ b, b < 4 → a ≠ b → (TX7 a).2.1 ≠ (TX7 b).2.1 := by decide +kernel
theorem tyX7_ok : ∀ k, k < 4 → parseFieldDescriptor (TX7 k).2.2.1 = some (tyX7 k) := by decide +kernel
abbrev cX7_init : ByteArray := prog_9_method_1_code
def yX7_init : MethodName := ⟨RX7, "<init>", "()V"⟩
abbrev cX7_add : ByteArray := prog_9_method_2_code
def yX7_add : MethodName := ⟨RX7, "add", "(I)V"⟩
abbrev cX7_clear : ByteArray := prog_9_method_3_code
def yX7_clear : MethodName := ⟨RX7, "clear", "()V"⟩
abbrev cX7_byteAt : ByteArray := prog_9_method_4_code
def yX7_byteAt : MethodName := ⟨RX7, "byteAt", "(I)I"⟩
abbrev cX7_bears : ByteArray := prog_9_method_5_code
def yX7_bears : MethodName := ⟨RX7, "bears", "(IILjava/lang/String;)Z"⟩
abbrev cX7_isAtEnd : ByteArray := prog_9_method_6_code
def yX7_isAtEnd : MethodName := ⟨RX7, "isAtEnd", "()Z"⟩
abbrev cX7_takes : ByteArray := prog_9_method_7_code
def yX7_takes : MethodName := ⟨RX7, "takes", "(C)Z"⟩
abbrev cX7_takeLetters : ByteArray := prog_9_method_8_code
def yX7_takeLetters : MethodName := ⟨RX7, "takeLetters", "()V"⟩
abbrev cX7_takeDigits : ByteArray := prog_9_method_9_code
def yX7_takeDigits : MethodName := ⟨RX7, "takeDigits", "(I)I"⟩
abbrev cX7_digitOn : ByteArray := prog_9_method_10_code
def yX7_digitOn : MethodName := ⟨RX7, "digitOn", "(I)I"⟩
def RX8 : String := "TurningFractions"
def TX8 : u_T := fun k => match k with
  | 0 => ("TurningFractions", "fractions", "LTurningFractions$Shelf;", true)
  | 1 => ("TurningFractions", "denominators", "LTurningFractions$Denominators;", true)
  | 2 => ("TurningFractions", "tape", "LTurningFractions$Tape;", true)
  | 3 => ("TurningFractions", "numeral", "LTurningFractions$Numeral;", true)
  | 4 => ("TurningFractions", "script", "LTurningFractions$Script;", true)
  | 5 => ("TurningFractions", "holders", "[LTurningFractions$Holder;", true)
  | 6 => ("TurningFractions", "keptFractions", "LTurningFractions$Shelf;", true)
  | 7 => ("TurningFractions", "keptDenominators", "LTurningFractions$Denominators;", true)
  | 8 => ("TurningFractions", "imageIsKept", "Z", false)
  | 9 => ("TurningFractions", "period", "LTurningFractions$Period;", true)
  | 10 => ("TurningFractions", "unit", "LTurningFractions$Fraction;", true)
  | _ => ("TurningFractions", "ringed", "[I", true)
def tyX8 : Nat → FieldType := fun k => match k with
  | 0 => .object "TurningFractions$Shelf"
  | 1 => .object "TurningFractions$Denominators"
  | 2 => .object "TurningFractions$Tape"
  | 3 => .object "TurningFractions$Numeral"
  | 4 => .object "TurningFractions$Script"
  | 5 => .array (.object "TurningFractions$Holder")
  | 6 => .object "TurningFractions$Shelf"
  | 7 => .object "TurningFractions$Denominators"
  | 8 => .boolean
  | 9 => .object "TurningFractions$Period"
  | 10 => .object "TurningFractions$Fraction"
  | _ => .array .int
abbrev wsX80 : List Cond := u_ws RX8 TX8 12
theorem nmX8 : ∀ a, a < 12 → ∀ b, b < 12 → a ≠ b → (TX8 a).2.1 ≠ (TX8 b).2.1 := by decide +kernel
theorem tyX8_ok : ∀ k, k < 12 → parseFieldDescriptor (TX8 k).2.2.1 = some (tyX8 k) := by decide +kernel
abbrev cX8_init : ByteArray := prog_1_method_1_code
def yX8_init : MethodName := ⟨RX8, "<init>", "()V"⟩
abbrev cX8_fraction : ByteArray := prog_1_method_2_code
def yX8_fraction : MethodName := ⟨RX8, "fraction", "(III)I"⟩
abbrev cX8_drop : ByteArray := prog_1_method_3_code
def yX8_drop : MethodName := ⟨RX8, "drop", "(I)I"⟩
abbrev cX8_multiply : ByteArray := prog_1_method_4_code
def yX8_multiply : MethodName := ⟨RX8, "multiply", "(II)I"⟩
abbrev cX8_sum : ByteArray := prog_1_method_5_code
def yX8_sum : MethodName := ⟨RX8, "sum", "(II)I"⟩
abbrev cX8_lowest : ByteArray := prog_1_method_6_code
def yX8_lowest : MethodName := ⟨RX8, "lowest", "(I)I"⟩
abbrev cX8_of : ByteArray := prog_1_method_7_code
def yX8_of : MethodName := ⟨RX8, "of", "(II)I"⟩
abbrev cX8_digit : ByteArray := prog_1_method_8_code
def yX8_digit : MethodName := ⟨RX8, "digit", "(II)I"⟩
abbrev cX8_rest : ByteArray := prog_1_method_9_code
def yX8_rest : MethodName := ⟨RX8, "rest", "(II)I"⟩
abbrev cX8_place : ByteArray := prog_1_method_10_code
def yX8_place : MethodName := ⟨RX8, "place", "(II)I"⟩
abbrev cX8_block : ByteArray := prog_1_method_11_code
def yX8_block : MethodName := ⟨RX8, "block", "(III)I"⟩
abbrev cX8_nines : ByteArray := prog_1_method_12_code
def yX8_nines : MethodName := ⟨RX8, "nines", "(II)I"⟩
abbrev cX8_shift : ByteArray := prog_1_method_13_code
def yX8_shift : MethodName := ⟨RX8, "shift", "(II)I"⟩
abbrev cX8_multiple : ByteArray := prog_1_method_14_code
def yX8_multiple : MethodName := ⟨RX8, "multiple", "(II)I"⟩
abbrev cX8_order : ByteArray := prog_1_method_15_code
def yX8_order : MethodName := ⟨RX8, "order", "(II)I"⟩
abbrev cX8_cycles : ByteArray := prog_1_method_16_code
def yX8_cycles : MethodName := ⟨RX8, "cycles", "(III)I"⟩
abbrev cX8_full : ByteArray := prog_1_method_17_code
def yX8_full : MethodName := ⟨RX8, "full", "(IIII)I"⟩
abbrev cX8_list : ByteArray := prog_1_method_18_code
def yX8_list : MethodName := ⟨RX8, "list", "(II)I"⟩
abbrev cX8_thin : ByteArray := prog_1_method_19_code
def yX8_thin : MethodName := ⟨RX8, "thin", "()I"⟩
abbrev cX8_listed : ByteArray := prog_1_method_20_code
def yX8_listed : MethodName := ⟨RX8, "listed", "(I)I"⟩
abbrev cX8_tells : ByteArray := prog_1_method_21_code
def yX8_tells : MethodName := ⟨RX8, "tells", "(III)J"⟩
abbrev cX8_feed : ByteArray := prog_1_method_22_code
def yX8_feed : MethodName := ⟨RX8, "feed", "(II)I"⟩
abbrev cX8_wipe : ByteArray := prog_1_method_23_code
def yX8_wipe : MethodName := ⟨RX8, "wipe", "()I"⟩
abbrev cX8_spell : ByteArray := prog_1_method_24_code
def yX8_spell : MethodName := ⟨RX8, "spell", "(II)I"⟩
abbrev cX8_read : ByteArray := prog_1_method_25_code
def yX8_read : MethodName := ⟨RX8, "read", "(I)I"⟩
abbrev cX8_run : ByteArray := prog_1_method_26_code
def yX8_run : MethodName := ⟨RX8, "run", "()I"⟩
abbrev cX8_hold : ByteArray := prog_1_method_27_code
def yX8_hold : MethodName := ⟨RX8, "hold", "(II)I"⟩
abbrev cX8_lose : ByteArray := prog_1_method_28_code
def yX8_lose : MethodName := ⟨RX8, "lose", "(I)I"⟩
abbrev cX8_taken : ByteArray := prog_1_method_29_code
def yX8_taken : MethodName := ⟨RX8, "taken", "(II)I"⟩
abbrev cX8_was : ByteArray := prog_1_method_30_code
def yX8_was : MethodName := ⟨RX8, "was", "(II)I"⟩
abbrev cX8_row : ByteArray := prog_1_method_31_code
def yX8_row : MethodName := ⟨RX8, "row", "(II)I"⟩
abbrev cX8_put : ByteArray := prog_1_method_32_code
def yX8_put : MethodName := ⟨RX8, "put", "(III)I"⟩
abbrev cX8_get : ByteArray := prog_1_method_33_code
def yX8_get : MethodName := ⟨RX8, "get", "(II)J"⟩
abbrev cX8_judge : ByteArray := prog_1_method_34_code
def yX8_judge : MethodName := ⟨RX8, "judge", "(II)I"⟩
abbrev cX8_image : ByteArray := prog_1_method_35_code
def yX8_image : MethodName := ⟨RX8, "image", "()I"⟩
abbrev cX8_undo : ByteArray := prog_1_method_36_code
def yX8_undo : MethodName := ⟨RX8, "undo", "()I"⟩
abbrev cX8_count : ByteArray := prog_1_method_37_code
def yX8_count : MethodName := ⟨RX8, "count", "(I)I"⟩
abbrev cX8_addInLowestTerms : ByteArray := prog_1_method_38_code
def yX8_addInLowestTerms : MethodName := ⟨RX8, "addInLowestTerms", "(JJI)I"⟩
abbrev cX8_markRing : ByteArray := prog_1_method_39_code
def yX8_markRing : MethodName := ⟨RX8, "markRing", "(III)I"⟩
abbrev cX8_doCommand : ByteArray := prog_1_method_40_code
def yX8_doCommand : MethodName := ⟨RX8, "doCommand", "(I)I"⟩
abbrev cX8_holderAt : ByteArray := prog_1_method_41_code
def yX8_holderAt : MethodName := ⟨RX8, "holderAt", "(I)LTurningFractions$Holder;"⟩
abbrev cX8_isWithin : ByteArray := prog_1_method_42_code
def yX8_isWithin : MethodName := ⟨RX8, "isWithin", "(III)Z"⟩
abbrev cX8_isBase : ByteArray := prog_1_method_43_code
def yX8_isBase : MethodName := ⟨RX8, "isBase", "(I)Z"⟩
abbrev cX8_isPrime : ByteArray := prog_1_method_44_code
def yX8_isPrime : MethodName := ⟨RX8, "isPrime", "(I)Z"⟩
abbrev cX8_commonDivisor : ByteArray := prog_1_method_45_code
def yX8_commonDivisor : MethodName := ⟨RX8, "commonDivisor", "(JJ)J"⟩
abbrev cX8_power : ByteArray := prog_1_method_46_code
def yX8_power : MethodName := ⟨RX8, "power", "(II)J"⟩
abbrev cX8_remainder : ByteArray := prog_1_method_47_code
def yX8_remainder : MethodName := ⟨RX8, "remainder", "(II)I"⟩
abbrev cX8_quotient : ByteArray := prog_1_method_48_code
def yX8_quotient : MethodName := ⟨RX8, "quotient", "(JJ)J"⟩
abbrev cX8_valueAt : ByteArray := prog_1_method_49_code
def yX8_valueAt : MethodName := ⟨RX8, "valueAt", "([II)I"⟩
abbrev cX8_setAt : ByteArray := prog_1_method_50_code
def yX8_setAt : MethodName := ⟨RX8, "setAt", "([III)V"⟩
def RX9 : String := "TurningFractionsModel"
def TX9 : u_T := fun k => match k with
  | 0 => ("TurningFractionsModel", "many", "I", false)
  | 1 => ("TurningFractionsModel", "as", "[I", true)
  | 2 => ("TurningFractionsModel", "bs", "[I", true)
  | 3 => ("TurningFractionsModel", "bases", "[I", true)
  | 4 => ("TurningFractionsModel", "head", "I", false)
  | 5 => ("TurningFractionsModel", "length", "I", false)
  | 6 => ("TurningFractionsModel", "isEnding", "Z", false)
  | 7 => ("TurningFractionsModel", "seen", "[I", true)
  | 8 => ("TurningFractionsModel", "rests", "[I", true)
  | 9 => ("TurningFractionsModel", "digits", "[I", true)
  | 10 => ("TurningFractionsModel", "sums", "[I", true)
  | 11 => ("TurningFractionsModel", "over", "I", false)
  | 12 => ("TurningFractionsModel", "ring", "[I", true)
  | 13 => ("TurningFractionsModel", "ringLength", "I", false)
  | 14 => ("TurningFractionsModel", "listMany", "I", false)
  | 15 => ("TurningFractionsModel", "listBase", "I", false)
  | 16 => ("TurningFractionsModel", "list", "[I", true)
  | 17 => ("TurningFractionsModel", "words", "[C", true)
  | 18 => ("TurningFractionsModel", "commands", "[C", true)
  | 19 => ("TurningFractionsModel", "nots", "[C", true)
  | 20 => ("TurningFractionsModel", "tape", "[I", true)
  | 21 => ("TurningFractionsModel", "taped", "I", false)
  | 22 => ("TurningFractionsModel", "size", "I", false)
  | 23 => ("TurningFractionsModel", "at", "I", false)
  | 24 => ("TurningFractionsModel", "made", "J", false)
  | 25 => ("TurningFractionsModel", "power", "J", false)
  | 26 => ("TurningFractionsModel", "figures", "I", false)
  | 27 => ("TurningFractionsModel", "above", "J", false)
  | 28 => ("TurningFractionsModel", "below", "J", false)
  | 29 => ("TurningFractionsModel", "told", "[I", true)
  | 30 => ("TurningFractionsModel", "holds", "[I", true)
  | 31 => ("TurningFractionsModel", "heldAs", "[I", true)
  | 32 => ("TurningFractionsModel", "heldBs", "[I", true)
  | 33 => ("TurningFractionsModel", "heldBases", "[I", true)
  | 34 => ("TurningFractionsModel", "rowSizes", "[I", true)
  | 35 => ("TurningFractionsModel", "items", "[I", true)
  | 36 => ("TurningFractionsModel", "isKept", "Z", false)
  | 37 => ("TurningFractionsModel", "keptMany", "I", false)
  | 38 => ("TurningFractionsModel", "keptAs", "[I", true)
  | 39 => ("TurningFractionsModel", "keptBs", "[I", true)
  | 40 => ("TurningFractionsModel", "keptBases", "[I", true)
  | 41 => ("TurningFractionsModel", "keptListMany", "I", false)
  | 42 => ("TurningFractionsModel", "keptListBase", "I", false)
  | _ => ("TurningFractionsModel", "keptList", "[I", true)
def tyX9 : Nat → FieldType := fun k => match k with
  | 0 => .int
  | 1 => .array .int
  | 2 => .array .int
  | 3 => .array .int
  | 4 => .int
  | 5 => .int
  | 6 => .boolean
  | 7 => .array .int
  | 8 => .array .int
  | 9 => .array .int
  | 10 => .array .int
  | 11 => .int
  | 12 => .array .int
  | 13 => .int
  | 14 => .int
  | 15 => .int
  | 16 => .array .int
  | 17 => .array .char
  | 18 => .array .char
  | 19 => .array .char
  | 20 => .array .int
  | 21 => .int
  | 22 => .int
  | 23 => .int
  | 24 => .long
  | 25 => .long
  | 26 => .int
  | 27 => .long
  | 28 => .long
  | 29 => .array .int
  | 30 => .array .int
  | 31 => .array .int
  | 32 => .array .int
  | 33 => .array .int
  | 34 => .array .int
  | 35 => .array .int
  | 36 => .boolean
  | 37 => .int
  | 38 => .array .int
  | 39 => .array .int
  | 40 => .array .int
  | 41 => .int
  | 42 => .int
  | _ => .array .int
abbrev wsX90 : List Cond := u_ws RX9 TX9 44
theorem nmX9 : ∀ a, a < 44 → ∀ b, b < 44 → a ≠ b → (TX9 a).2.1 ≠ (TX9 b).2.1 := by decide +kernel
theorem tyX9_ok : ∀ k, k < 44 → parseFieldDescriptor (TX9 k).2.2.1 = some (tyX9 k) := by decide +kernel
abbrev cX9_init : ByteArray := prog_11_method_1_code
def yX9_init : MethodName := ⟨RX9, "<init>", "()V"⟩
abbrev cX9_isIn : ByteArray := prog_11_method_2_code
def yX9_isIn : MethodName := ⟨RX9, "isIn", "(JJJ)Z"⟩
abbrev cX9_isFraction : ByteArray := prog_11_method_3_code
def yX9_isFraction : MethodName := ⟨RX9, "isFraction", "(I)Z"⟩
abbrev cX9_isBase : ByteArray := prog_11_method_4_code
def yX9_isBase : MethodName := ⟨RX9, "isBase", "(I)Z"⟩
abbrev cX9_divisor : ByteArray := prog_11_method_5_code
def yX9_divisor : MethodName := ⟨RX9, "divisor", "(JJ)J"⟩
abbrev cX9_looks : ByteArray := prog_11_method_6_code
def yX9_looks : MethodName := ⟨RX9, "looks", "(JII)V"⟩
abbrev cX9_looksAt : ByteArray := prog_11_method_7_code
def yX9_looksAt : MethodName := ⟨RX9, "looksAt", "(I)V"⟩
abbrev cX9_kindNow : ByteArray := prog_11_method_8_code
def yX9_kindNow : MethodName := ⟨RX9, "kindNow", "()I"⟩
abbrev cX9_placeOf : ByteArray := prog_11_method_9_code
def yX9_placeOf : MethodName := ⟨RX9, "placeOf", "(I)I"⟩
abbrev cX9_comes : ByteArray := prog_11_method_10_code
def yX9_comes : MethodName := ⟨RX9, "comes", "(III)I"⟩
abbrev cX9_fraction : ByteArray := prog_11_method_11_code
def yX9_fraction : MethodName := ⟨RX9, "fraction", "(III)I"⟩
abbrev cX9_drop : ByteArray := prog_11_method_12_code
def yX9_drop : MethodName := ⟨RX9, "drop", "(I)I"⟩
abbrev cX9_multiply : ByteArray := prog_11_method_13_code
def yX9_multiply : MethodName := ⟨RX9, "multiply", "(II)I"⟩
abbrev cX9_comesLowest : ByteArray := prog_11_method_14_code
def yX9_comesLowest : MethodName := ⟨RX9, "comesLowest", "(JJI)I"⟩
abbrev cX9_sum : ByteArray := prog_11_method_15_code
def yX9_sum : MethodName := ⟨RX9, "sum", "(II)I"⟩
abbrev cX9_lowest : ByteArray := prog_11_method_16_code
def yX9_lowest : MethodName := ⟨RX9, "lowest", "(I)I"⟩
abbrev cX9_of : ByteArray := prog_11_method_17_code
def yX9_of : MethodName := ⟨RX9, "of", "(II)I"⟩
abbrev cX9_digit : ByteArray := prog_11_method_18_code
def yX9_digit : MethodName := ⟨RX9, "digit", "(II)I"⟩
abbrev cX9_rest : ByteArray := prog_11_method_19_code
def yX9_rest : MethodName := ⟨RX9, "rest", "(II)I"⟩
abbrev cX9_place : ByteArray := prog_11_method_20_code
def yX9_place : MethodName := ⟨RX9, "place", "(II)I"⟩
abbrev cX9_isParted : ByteArray := prog_11_method_21_code
def yX9_isParted : MethodName := ⟨RX9, "isParted", "(I)Z"⟩
abbrev cX9_blocks : ByteArray := prog_11_method_22_code
def yX9_blocks : MethodName := ⟨RX9, "blocks", "(II)V"⟩
abbrev cX9_block : ByteArray := prog_11_method_23_code
def yX9_block : MethodName := ⟨RX9, "block", "(III)I"⟩
abbrev cX9_smallNines : ByteArray := prog_11_method_24_code
def yX9_smallNines : MethodName := ⟨RX9, "smallNines", "(IIJ)I"⟩
abbrev cX9_greatNines : ByteArray := prog_11_method_25_code
def yX9_greatNines : MethodName := ⟨RX9, "greatNines", "(II)I"⟩
abbrev cX9_ninesNow : ByteArray := prog_11_method_26_code
def yX9_ninesNow : MethodName := ⟨RX9, "ninesNow", "(II)I"⟩
abbrev cX9_nines : ByteArray := prog_11_method_27_code
def yX9_nines : MethodName := ⟨RX9, "nines", "(II)I"⟩
abbrev cX9_keepsRing : ByteArray := prog_11_method_28_code
def yX9_keepsRing : MethodName := ⟨RX9, "keepsRing", "(I)V"⟩
abbrev cX9_shiftNow : ByteArray := prog_11_method_29_code
def yX9_shiftNow : MethodName := ⟨RX9, "shiftNow", "(II)I"⟩
abbrev cX9_shift : ByteArray := prog_11_method_30_code
def yX9_shift : MethodName := ⟨RX9, "shift", "(II)I"⟩
abbrev cX9_multiple : ByteArray := prog_11_method_31_code
def yX9_multiple : MethodName := ⟨RX9, "multiple", "(II)I"⟩
abbrev cX9_order : ByteArray := prog_11_method_32_code
def yX9_order : MethodName := ⟨RX9, "order", "(II)I"⟩
abbrev cX9_cycles : ByteArray := prog_11_method_33_code
def yX9_cycles : MethodName := ⟨RX9, "cycles", "(III)I"⟩
abbrev cX9_isFull : ByteArray := prog_11_method_34_code
def yX9_isFull : MethodName := ⟨RX9, "isFull", "(II)Z"⟩
abbrev cX9_full : ByteArray := prog_11_method_35_code
def yX9_full : MethodName := ⟨RX9, "full", "(IIII)I"⟩
abbrev cX9_list : ByteArray := prog_11_method_36_code
def yX9_list : MethodName := ⟨RX9, "list", "(II)I"⟩
abbrev cX9_isPrime : ByteArray := prog_11_method_37_code
def yX9_isPrime : MethodName := ⟨RX9, "isPrime", "(I)Z"⟩
abbrev cX9_isSo : ByteArray := prog_11_method_38_code
def yX9_isSo : MethodName := ⟨RX9, "isSo", "(II)Z"⟩
abbrev cX9_listed : ByteArray := prog_11_method_39_code
def yX9_listed : MethodName := ⟨RX9, "listed", "(I)I"⟩
abbrev cX9_worth : ByteArray := prog_11_method_40_code
def yX9_worth : MethodName := ⟨RX9, "worth", "(IIII)J"⟩
abbrev cX9_tells : ByteArray := prog_11_method_41_code
def yX9_tells : MethodName := ⟨RX9, "tells", "(III)J"⟩
abbrev cX9_feed : ByteArray := prog_11_method_42_code
def yX9_feed : MethodName := ⟨RX9, "feed", "(II)I"⟩
abbrev cX9_wipe : ByteArray := prog_11_method_43_code
def yX9_wipe : MethodName := ⟨RX9, "wipe", "()I"⟩
abbrev cX9_isAt : ByteArray := prog_11_method_44_code
def yX9_isAt : MethodName := ⟨RX9, "isAt", "(II)Z"⟩
abbrev cX9_wordOf : ByteArray := prog_11_method_45_code
def yX9_wordOf : MethodName := ⟨RX9, "wordOf", "(II)I"⟩
abbrev cX9_commandOf : ByteArray := prog_11_method_46_code
def yX9_commandOf : MethodName := ⟨RX9, "commandOf", "(II)I"⟩
abbrev cX9_thin : ByteArray := prog_11_method_47_code
def yX9_thin : MethodName := ⟨RX9, "thin", "()I"⟩
abbrev cX9_signOf : ByteArray := prog_11_method_48_code
def yX9_signOf : MethodName := ⟨RX9, "signOf", "(I)I"⟩
abbrev cX9_wholeSize : ByteArray := prog_11_method_49_code
def yX9_wholeSize : MethodName := ⟨RX9, "wholeSize", "(I)I"⟩
abbrev cX9_wholeDigit : ByteArray := prog_11_method_50_code
def yX9_wholeDigit : MethodName := ⟨RX9, "wholeDigit", "(II)I"⟩
abbrev cX9_spell : ByteArray := prog_11_method_51_code
def yX9_spell : MethodName := ⟨RX9, "spell", "(II)I"⟩
abbrev cX9_digitAt : ByteArray := prog_11_method_52_code
def yX9_digitAt : MethodName := ⟨RX9, "digitAt", "()I"⟩
abbrev cX9_readsDigits : ByteArray := prog_11_method_53_code
def yX9_readsDigits : MethodName := ⟨RX9, "readsDigits", "(I)V"⟩
abbrev cX9_isNumeral : ByteArray := prog_11_method_54_code
def yX9_isNumeral : MethodName := ⟨RX9, "isNumeral", "(I)Z"⟩
abbrev cX9_read : ByteArray := prog_11_method_55_code
def yX9_read : MethodName := ⟨RX9, "read", "(I)I"⟩
abbrev cX9_numbersOf : ByteArray := prog_11_method_56_code
def yX9_numbersOf : MethodName := ⟨RX9, "numbersOf", "(I)I"⟩
abbrev cX9_command : ByteArray := prog_11_method_57_code
def yX9_command : MethodName := ⟨RX9, "command", "()I"⟩
abbrev cX9_done : ByteArray := prog_11_method_58_code
def yX9_done : MethodName := ⟨RX9, "done", "(I)I"⟩
abbrev cX9_run : ByteArray := prog_11_method_59_code
def yX9_run : MethodName := ⟨RX9, "run", "()I"⟩
abbrev cX9_isHolder : ByteArray := prog_11_method_60_code
def yX9_isHolder : MethodName := ⟨RX9, "isHolder", "(I)Z"⟩
abbrev cX9_looksHeld : ByteArray := prog_11_method_61_code
def yX9_looksHeld : MethodName := ⟨RX9, "looksHeld", "(I)V"⟩
abbrev cX9_hold : ByteArray := prog_11_method_62_code
def yX9_hold : MethodName := ⟨RX9, "hold", "(II)I"⟩
abbrev cX9_lose : ByteArray := prog_11_method_63_code
def yX9_lose : MethodName := ⟨RX9, "lose", "(I)I"⟩
abbrev cX9_whyNot : ByteArray := prog_11_method_64_code
def yX9_whyNot : MethodName := ⟨RX9, "whyNot", "(II)I"⟩
abbrev cX9_taken : ByteArray := prog_11_method_65_code
def yX9_taken : MethodName := ⟨RX9, "taken", "(II)I"⟩
abbrev cX9_was : ByteArray := prog_11_method_66_code
def yX9_was : MethodName := ⟨RX9, "was", "(II)I"⟩
abbrev cX9_row : ByteArray := prog_11_method_67_code
def yX9_row : MethodName := ⟨RX9, "row", "(II)I"⟩
abbrev cX9_put : ByteArray := prog_11_method_68_code
def yX9_put : MethodName := ⟨RX9, "put", "(III)I"⟩
abbrev cX9_get : ByteArray := prog_11_method_69_code
def yX9_get : MethodName := ⟨RX9, "get", "(II)J"⟩
abbrev cX9_judge : ByteArray := prog_11_method_70_code
def yX9_judge : MethodName := ⟨RX9, "judge", "(II)I"⟩
abbrev cX9_image : ByteArray := prog_11_method_71_code
def yX9_image : MethodName := ⟨RX9, "image", "()I"⟩
abbrev cX9_undo : ByteArray := prog_11_method_72_code
def yX9_undo : MethodName := ⟨RX9, "undo", "()I"⟩
abbrev cX9_count : ByteArray := prog_11_method_73_code
def yX9_count : MethodName := ⟨RX9, "count", "(I)I"⟩
def RJ9 : String := "java/lang/Math"
def TJ9 : u_T := fun k => match k with
  | _ => ("", "", "", false)
def tyJ9 : Nat → FieldType := fun k => match k with
  | _ => .int
abbrev wsJ90 : List Cond := u_ws RJ9 TJ9 0
theorem nmJ9 : ∀ a, a < 0 → ∀ b, b < 0 → a ≠ b → (TJ9 a).2.1 ≠ (TJ9 b).2.1 := by decide +kernel
theorem tyJ9_ok : ∀ k, k < 0 → parseFieldDescriptor (TJ9 k).2.2.1 = some (tyJ9 k) := by decide +kernel
abbrev cJ9_max_7cf53 : ByteArray := prog_12_method_65_code
def yJ9_max_7cf53 : MethodName := ⟨RJ9, "max", "(II)I"⟩
abbrev cJ9_min_7cf53 : ByteArray := prog_12_method_69_code
def yJ9_min_7cf53 : MethodName := ⟨RJ9, "min", "(II)I"⟩
abbrev cJ9_min_f86c9 : ByteArray := prog_12_method_70_code
def yJ9_min_f86c9 : MethodName := ⟨RJ9, "min", "(JJ)J"⟩
def RJ0 : String := "java/lang/String"
def TJ0 : u_T := fun k => match k with
  | _ => ("", "", "", false)
def tyJ0 : Nat → FieldType := fun k => match k with
  | _ => .int
abbrev wsJ00 : List Cond := u_ws RJ0 TJ0 0
theorem nmJ0 : ∀ a, a < 0 → ∀ b, b < 0 → a ≠ b → (TJ0 a).2.1 ≠ (TJ0 b).2.1 := by decide +kernel
theorem tyJ0_ok : ∀ k, k < 0 → parseFieldDescriptor (TJ0 k).2.2.1 = some (tyJ0 k) := by decide +kernel
abbrev cJ0_length_8abf5 : ByteArray := prog_13_method_54_code
def yJ0_length_8abf5 : MethodName := ⟨RJ0, "length", "()I"⟩
abbrev cJ0_charAt_5068e : ByteArray := prog_13_method_56_code
def yJ0_charAt_5068e : MethodName := ⟨RJ0, "charAt", "(I)C"⟩
abbrev cJ0_coder_7d493 : ByteArray := prog_13_method_152_code
def yJ0_coder_7d493 : MethodName := ⟨RJ0, "coder", "()B"⟩
abbrev cJ0_isLatin1_aae02 : ByteArray := prog_13_method_154_code
def yJ0_isLatin1_aae02 : MethodName := ⟨RJ0, "isLatin1", "()Z"⟩
abbrev cJ0_checkIndex_df160 : ByteArray := prog_13_method_155_code
def yJ0_checkIndex_df160 : MethodName := ⟨RJ0, "checkIndex", "(II)V"⟩
def RJ1 : String := "java/lang/StringLatin1"
def TJ1 : u_T := fun k => match k with
  | _ => ("", "", "", false)
def tyJ1 : Nat → FieldType := fun k => match k with
  | _ => .int
abbrev wsJ10 : List Cond := u_ws RJ1 TJ1 0
theorem nmJ1 : ∀ a, a < 0 → ∀ b, b < 0 → a ≠ b → (TJ1 a).2.1 ≠ (TJ1 b).2.1 := by decide +kernel
theorem tyJ1_ok : ∀ k, k < 0 → parseFieldDescriptor (TJ1 k).2.2.1 = some (tyJ1 k) := by decide +kernel
abbrev cJ1_charAt_3b067 : ByteArray := prog_14_method_2_code
def yJ1_charAt_3b067 : MethodName := ⟨RJ1, "charAt", "([BI)C"⟩
def RJ2 : String := "java/lang/StringUTF16"
def TJ2 : u_T := fun k => match k with
  | _ => ("", "", "", false)
def tyJ2 : Nat → FieldType := fun k => match k with
  | _ => .int
abbrev wsJ20 : List Cond := u_ws RJ2 TJ2 0
theorem nmJ2 : ∀ a, a < 0 → ∀ b, b < 0 → a ≠ b → (TJ2 a).2.1 ≠ (TJ2 b).2.1 := by decide +kernel
theorem tyJ2_ok : ∀ k, k < 0 → parseFieldDescriptor (TJ2 k).2.2.1 = some (tyJ2 k) := by decide +kernel
abbrev cJ2_getChar_3b067 : ByteArray := prog_15_method_5_code
def yJ2_getChar_3b067 : MethodName := ⟨RJ2, "getChar", "([BI)C"⟩
abbrev cJ2_length_9d52b : ByteArray := prog_15_method_6_code
def yJ2_length_9d52b : MethodName := ⟨RJ2, "length", "([B)I"⟩
abbrev cJ2_charAt_3b067 : ByteArray := prog_15_method_83_code
def yJ2_charAt_3b067 : MethodName := ⟨RJ2, "charAt", "([BI)C"⟩
abbrev cJ2_checkIndex_2214a : ByteArray := prog_15_method_91_code
def yJ2_checkIndex_2214a : MethodName := ⟨RJ2, "checkIndex", "(I[B)V"⟩
def RJ3 : String := "jdk/internal/util/Preconditions"
def TJ3 : u_T := fun k => match k with
  | _ => ("", "", "", false)
def tyJ3 : Nat → FieldType := fun k => match k with
  | _ => .int
abbrev wsJ30 : List Cond := u_ws RJ3 TJ3 0
theorem nmJ3 : ∀ a, a < 0 → ∀ b, b < 0 → a ≠ b → (TJ3 a).2.1 ≠ (TJ3 b).2.1 := by decide +kernel
theorem tyJ3_ok : ∀ k, k < 0 → parseFieldDescriptor (TJ3 k).2.2.1 = some (tyJ3 k) := by decide +kernel
abbrev cJ3_checkIndex_8e157 : ByteArray := prog_16_method_11_code
def yJ3_checkIndex_8e157 : MethodName := ⟨RJ3, "checkIndex", "(IILjava/util/function/BiFunction;)I"⟩
def RL : String := "TurningFractionsLaw"
abbrev cL_law : ByteArray := code
def yL_law : MethodName := ⟨RL, "law", "([I)Z"⟩
abbrev vwCl : List vw_C := [(RX0, TX0, 4), (RX1, TX1, 7), (RX2, TX2, 4), (RX3, TX3, 2), (RX4, TX4, 2), (RX5, TX5, 3), (RX6, TX6, 2), (RX7, TX7, 4), (RX8, TX8, 12), (RX9, TX9, 44)]
end
section
theorem dX0_init_0 : decode cX0_init 0 = .ok (.aload_n 0, 1) := by decide +kernel
theorem dX0_init_1 : decode cX0_init 1 = .ok (.invokespecial 3, 3) := by decide +kernel
theorem dX0_init_4 : decode cX0_init 4 = .ok (.aload_n 0, 1) := by decide +kernel
theorem dX0_init_5 : decode cX0_init 5 = .ok (.sipush 399, 3) := by decide +kernel
theorem dX0_init_8 : decode cX0_init 8 = .ok (.newarray .int, 2) := by decide +kernel
theorem dX0_init_10 : decode cX0_init 10 = .ok (.putfield 9, 3) := by decide +kernel
theorem dX0_init_13 : decode cX0_init 13 = .ok (.aload_n 0, 1) := by decide +kernel
theorem dX0_init_14 : decode cX0_init 14 = .ok (.iconst 0, 1) := by decide +kernel
theorem dX0_init_15 : decode cX0_init 15 = .ok (.putfield 15, 3) := by decide +kernel
theorem dX0_init_18 : decode cX0_init 18 = .ok (.aload_n 0, 1) := by decide +kernel
theorem dX0_init_19 : decode cX0_init 19 = .ok (.bipush 10, 2) := by decide +kernel
theorem dX0_init_21 : decode cX0_init 21 = .ok (.putfield 19, 3) := by decide +kernel
theorem dX0_init_24 : decode cX0_init 24 = .ok (.aload_n 0, 1) := by decide +kernel
theorem dX0_init_25 : decode cX0_init 25 = .ok (.new 22, 3) := by decide +kernel
theorem dX0_init_28 : decode cX0_init 28 = .ok (.dup, 1) := by decide +kernel
theorem dX0_init_29 : decode cX0_init 29 = .ok (.invokespecial 24, 3) := by decide +kernel
theorem dX0_init_32 : decode cX0_init 32 = .ok (.putfield 25, 3) := by decide +kernel
theorem dX0_init_35 : decode cX0_init 35 = .ok (.return_, 1) := by decide +kernel
theorem dX0_fillTo_0 : decode cX0_fillTo 0 = .ok (.aload_n 0, 1) := by decide +kernel
theorem dX0_fillTo_1 : decode cX0_fillTo 1 = .ok (.iload_n 2, 1) := by decide +kernel
theorem dX0_fillTo_2 : decode cX0_fillTo 2 = .ok (.putfield 19, 3) := by decide +kernel
theorem dX0_fillTo_5 : decode cX0_fillTo 5 = .ok (.aload_n 0, 1) := by decide +kernel
theorem dX0_fillTo_6 : decode cX0_fillTo 6 = .ok (.iload_n 1, 1) := by decide +kernel
theorem dX0_fillTo_7 : decode cX0_fillTo 7 = .ok (.iconst 1, 1) := by decide +kernel
theorem dX0_fillTo_8 : decode cX0_fillTo 8 = .ok (.isub, 1) := by decide +kernel
theorem dX0_fillTo_9 : decode cX0_fillTo 9 = .ok (.putfield 15, 3) := by decide +kernel
theorem dX0_fillTo_12 : decode cX0_fillTo 12 = .ok (.iconst 0, 1) := by decide +kernel
theorem dX0_fillTo_13 : decode cX0_fillTo 13 = .ok (.istore_n 3, 1) := by decide +kernel
theorem dX0_fillTo_14 : decode cX0_fillTo 14 = .ok (.iload_n 3, 1) := by decide +kernel
theorem dX0_fillTo_15 : decode cX0_fillTo 15 = .ok (.aload_n 0, 1) := by decide +kernel
theorem dX0_fillTo_16 : decode cX0_fillTo 16 = .ok (.getfield 15, 3) := by decide +kernel
theorem dX0_fillTo_19 : decode cX0_fillTo 19 = .ok (.if_icmp .ge 20, 3) := by decide +kernel
theorem dX0_fillTo_22 : decode cX0_fillTo 22 = .ok (.aload_n 0, 1) := by decide +kernel
theorem dX0_fillTo_23 : decode cX0_fillTo 23 = .ok (.getfield 9, 3) := by decide +kernel
theorem dX0_fillTo_26 : decode cX0_fillTo 26 = .ok (.iload_n 3, 1) := by decide +kernel
theorem dX0_fillTo_27 : decode cX0_fillTo 27 = .ok (.iload_n 3, 1) := by decide +kernel
theorem dX0_fillTo_28 : decode cX0_fillTo 28 = .ok (.iconst 2, 1) := by decide +kernel
theorem dX0_fillTo_29 : decode cX0_fillTo 29 = .ok (.iadd, 1) := by decide +kernel
theorem dX0_fillTo_30 : decode cX0_fillTo 30 = .ok (.invokestatic 29, 3) := by decide +kernel
theorem dX0_fillTo_33 : decode cX0_fillTo 33 = .ok (.iinc 3 1, 3) := by decide +kernel
theorem dX0_fillTo_36 : decode cX0_fillTo 36 = .ok (.goto (-22), 3) := by decide +kernel
theorem dX0_fillTo_39 : decode cX0_fillTo 39 = .ok (.return_, 1) := by decide +kernel
theorem dX0_becomeLike_0 : decode cX0_becomeLike 0 = .ok (.aload_n 0, 1) := by decide +kernel
theorem dX0_becomeLike_1 : decode cX0_becomeLike 1 = .ok (.aload_n 1, 1) := by decide +kernel
theorem dX0_becomeLike_2 : decode cX0_becomeLike 2 = .ok (.getfield 19, 3) := by decide +kernel
theorem dX0_becomeLike_5 : decode cX0_becomeLike 5 = .ok (.putfield 19, 3) := by decide +kernel
theorem dX0_becomeLike_8 : decode cX0_becomeLike 8 = .ok (.aload_n 0, 1) := by decide +kernel
theorem dX0_becomeLike_9 : decode cX0_becomeLike 9 = .ok (.aload_n 1, 1) := by decide +kernel
theorem dX0_becomeLike_10 : decode cX0_becomeLike 10 = .ok (.getfield 15, 3) := by decide +kernel
theorem dX0_becomeLike_13 : decode cX0_becomeLike 13 = .ok (.putfield 15, 3) := by decide +kernel
theorem dX0_becomeLike_16 : decode cX0_becomeLike 16 = .ok (.iconst 0, 1) := by decide +kernel
theorem dX0_becomeLike_17 : decode cX0_becomeLike 17 = .ok (.istore_n 2, 1) := by decide +kernel
theorem dX0_becomeLike_18 : decode cX0_becomeLike 18 = .ok (.iload_n 2, 1) := by decide +kernel
theorem dX0_becomeLike_19 : decode cX0_becomeLike 19 = .ok (.aload_n 0, 1) := by decide +kernel
theorem dX0_becomeLike_20 : decode cX0_becomeLike 20 = .ok (.getfield 15, 3) := by decide +kernel
theorem dX0_becomeLike_23 : decode cX0_becomeLike 23 = .ok (.if_icmp .ge 25, 3) := by decide +kernel
theorem dX0_becomeLike_26 : decode cX0_becomeLike 26 = .ok (.aload_n 0, 1) := by decide +kernel
theorem dX0_becomeLike_27 : decode cX0_becomeLike 27 = .ok (.getfield 9, 3) := by decide +kernel
theorem dX0_becomeLike_30 : decode cX0_becomeLike 30 = .ok (.iload_n 2, 1) := by decide +kernel
theorem dX0_becomeLike_31 : decode cX0_becomeLike 31 = .ok (.aload_n 1, 1) := by decide +kernel
theorem dX0_becomeLike_32 : decode cX0_becomeLike 32 = .ok (.getfield 9, 3) := by decide +kernel
theorem dX0_becomeLike_35 : decode cX0_becomeLike 35 = .ok (.iload_n 2, 1) := by decide +kernel
theorem dX0_becomeLike_36 : decode cX0_becomeLike 36 = .ok (.invokestatic 33, 3) := by decide +kernel
theorem dX0_becomeLike_39 : decode cX0_becomeLike 39 = .ok (.invokestatic 29, 3) := by decide +kernel
theorem dX0_becomeLike_42 : decode cX0_becomeLike 42 = .ok (.iinc 2 1, 3) := by decide +kernel
theorem dX0_becomeLike_45 : decode cX0_becomeLike 45 = .ok (.goto (-27), 3) := by decide +kernel
theorem dX0_becomeLike_48 : decode cX0_becomeLike 48 = .ok (.return_, 1) := by decide +kernel
theorem dX0_wordOn_0 : decode cX0_wordOn 0 = .ok (.iconst 0, 1) := by decide +kernel
theorem dX0_wordOn_1 : decode cX0_wordOn 1 = .ok (.istore_n 2, 1) := by decide +kernel
theorem dX0_wordOn_2 : decode cX0_wordOn 2 = .ok (.iload_n 2, 1) := by decide +kernel
theorem dX0_wordOn_3 : decode cX0_wordOn 3 = .ok (.bipush 8, 2) := by decide +kernel
theorem dX0_wordOn_5 : decode cX0_wordOn 5 = .ok (.if_icmp .ge 27, 3) := by decide +kernel
theorem dX0_wordOn_8 : decode cX0_wordOn 8 = .ok (.aload_n 0, 1) := by decide +kernel
theorem dX0_wordOn_9 : decode cX0_wordOn 9 = .ok (.iload_n 1, 1) := by decide +kernel
theorem dX0_wordOn_10 : decode cX0_wordOn 10 = .ok (.aload_n 0, 1) := by decide +kernel
theorem dX0_wordOn_11 : decode cX0_wordOn 11 = .ok (.getfield 37, 3) := by decide +kernel
theorem dX0_wordOn_14 : decode cX0_wordOn 14 = .ok (.iload_n 2, 1) := by decide +kernel
theorem dX0_wordOn_15 : decode cX0_wordOn 15 = .ok (.invokestatic 40, 3) := by decide +kernel
theorem dX0_wordOn_18 : decode cX0_wordOn 18 = .ok (.invokevirtual 44, 3) := by decide +kernel
theorem dX0_wordOn_21 : decode cX0_wordOn 21 = .ok (.ifCond .eq 5, 3) := by decide +kernel
theorem dX0_wordOn_24 : decode cX0_wordOn 24 = .ok (.iload_n 2, 1) := by decide +kernel
theorem dX0_wordOn_25 : decode cX0_wordOn 25 = .ok (.ireturn, 1) := by decide +kernel
theorem dX0_wordOn_26 : decode cX0_wordOn 26 = .ok (.iinc 2 1, 3) := by decide +kernel
theorem dX0_wordOn_29 : decode cX0_wordOn 29 = .ok (.goto (-27), 3) := by decide +kernel
theorem dX0_wordOn_32 : decode cX0_wordOn 32 = .ok (.iconst (-1), 1) := by decide +kernel
theorem dX0_wordOn_33 : decode cX0_wordOn 33 = .ok (.ireturn, 1) := by decide +kernel
theorem dX0_wordText_0 : decode cX0_wordText 0 = .ok (.iload_n 0, 1) := by decide +kernel
theorem dX0_wordText_1 : decode cX0_wordText 1 = .ok (.tableswitch 64 0 6 #[43, 46, 49, 52, 55, 58, 61], 43) := by decide +kernel
theorem dX0_wordText_44 : decode cX0_wordText 44 = .ok (.ldc 48, 2) := by decide +kernel
theorem dX0_wordText_46 : decode cX0_wordText 46 = .ok (.areturn, 1) := by decide +kernel
theorem dX0_wordText_47 : decode cX0_wordText 47 = .ok (.ldc 50, 2) := by decide +kernel
theorem dX0_wordText_49 : decode cX0_wordText 49 = .ok (.areturn, 1) := by decide +kernel
theorem dX0_wordText_50 : decode cX0_wordText 50 = .ok (.ldc 52, 2) := by decide +kernel
theorem dX0_wordText_52 : decode cX0_wordText 52 = .ok (.areturn, 1) := by decide +kernel
theorem dX0_wordText_53 : decode cX0_wordText 53 = .ok (.ldc 54, 2) := by decide +kernel
theorem dX0_wordText_55 : decode cX0_wordText 55 = .ok (.areturn, 1) := by decide +kernel
theorem dX0_wordText_56 : decode cX0_wordText 56 = .ok (.ldc 56, 2) := by decide +kernel
theorem dX0_wordText_58 : decode cX0_wordText 58 = .ok (.areturn, 1) := by decide +kernel
theorem dX0_wordText_59 : decode cX0_wordText 59 = .ok (.ldc 58, 2) := by decide +kernel
theorem dX0_wordText_61 : decode cX0_wordText 61 = .ok (.areturn, 1) := by decide +kernel
theorem dX0_wordText_62 : decode cX0_wordText 62 = .ok (.ldc 60, 2) := by decide +kernel
theorem dX0_wordText_64 : decode cX0_wordText 64 = .ok (.areturn, 1) := by decide +kernel
theorem dX0_wordText_65 : decode cX0_wordText 65 = .ok (.ldc 62, 2) := by decide +kernel
theorem dX0_wordText_67 : decode cX0_wordText 67 = .ok (.areturn, 1) := by decide +kernel
theorem dX0_keepOnly_0 : decode cX0_keepOnly 0 = .ok (.iconst 0, 1) := by decide +kernel
theorem dX0_keepOnly_1 : decode cX0_keepOnly 1 = .ok (.istore_n 3, 1) := by decide +kernel
theorem dX0_keepOnly_2 : decode cX0_keepOnly 2 = .ok (.iconst 0, 1) := by decide +kernel
theorem dX0_keepOnly_3 : decode cX0_keepOnly 3 = .ok (.istore 4, 2) := by decide +kernel
theorem dX0_keepOnly_5 : decode cX0_keepOnly 5 = .ok (.iload 4, 2) := by decide +kernel
theorem dX0_keepOnly_7 : decode cX0_keepOnly 7 = .ok (.aload_n 0, 1) := by decide +kernel
theorem dX0_keepOnly_8 : decode cX0_keepOnly 8 = .ok (.getfield 15, 3) := by decide +kernel
theorem dX0_keepOnly_11 : decode cX0_keepOnly 11 = .ok (.if_icmp .ge 44, 3) := by decide +kernel
theorem dX0_keepOnly_14 : decode cX0_keepOnly 14 = .ok (.aload_n 0, 1) := by decide +kernel
theorem dX0_keepOnly_15 : decode cX0_keepOnly 15 = .ok (.getfield 9, 3) := by decide +kernel
theorem dX0_keepOnly_18 : decode cX0_keepOnly 18 = .ok (.iload 4, 2) := by decide +kernel
theorem dX0_keepOnly_20 : decode cX0_keepOnly 20 = .ok (.invokestatic 33, 3) := by decide +kernel
theorem dX0_keepOnly_23 : decode cX0_keepOnly 23 = .ok (.istore 5, 2) := by decide +kernel
theorem dX0_keepOnly_25 : decode cX0_keepOnly 25 = .ok (.aload_n 0, 1) := by decide +kernel
theorem dX0_keepOnly_26 : decode cX0_keepOnly 26 = .ok (.iload_n 1, 1) := by decide +kernel
theorem dX0_keepOnly_27 : decode cX0_keepOnly 27 = .ok (.iload 5, 2) := by decide +kernel
theorem dX0_keepOnly_29 : decode cX0_keepOnly 29 = .ok (.invokevirtual 64, 3) := by decide +kernel
theorem dX0_keepOnly_32 : decode cX0_keepOnly 32 = .ok (.iload_n 2, 1) := by decide +kernel
theorem dX0_keepOnly_33 : decode cX0_keepOnly 33 = .ok (.if_icmp .ne 16, 3) := by decide +kernel
theorem dX0_keepOnly_36 : decode cX0_keepOnly 36 = .ok (.aload_n 0, 1) := by decide +kernel
theorem dX0_keepOnly_37 : decode cX0_keepOnly 37 = .ok (.getfield 9, 3) := by decide +kernel
theorem dX0_keepOnly_40 : decode cX0_keepOnly 40 = .ok (.iload_n 3, 1) := by decide +kernel
theorem dX0_keepOnly_41 : decode cX0_keepOnly 41 = .ok (.iload 5, 2) := by decide +kernel
theorem dX0_keepOnly_43 : decode cX0_keepOnly 43 = .ok (.invokestatic 29, 3) := by decide +kernel
theorem dX0_keepOnly_46 : decode cX0_keepOnly 46 = .ok (.iinc 3 1, 3) := by decide +kernel
theorem dX0_keepOnly_49 : decode cX0_keepOnly 49 = .ok (.iinc 4 1, 3) := by decide +kernel
theorem dX0_keepOnly_52 : decode cX0_keepOnly 52 = .ok (.goto (-47), 3) := by decide +kernel
theorem dX0_keepOnly_55 : decode cX0_keepOnly 55 = .ok (.aload_n 0, 1) := by decide +kernel
theorem dX0_keepOnly_56 : decode cX0_keepOnly 56 = .ok (.iload_n 3, 1) := by decide +kernel
theorem dX0_keepOnly_57 : decode cX0_keepOnly 57 = .ok (.putfield 15, 3) := by decide +kernel
theorem dX0_keepOnly_60 : decode cX0_keepOnly 60 = .ok (.return_, 1) := by decide +kernel
theorem dX0_isSo_0 : decode cX0_isSo 0 = .ok (.aload_n 0, 1) := by decide +kernel
theorem dX0_isSo_1 : decode cX0_isSo 1 = .ok (.getfield 25, 3) := by decide +kernel
theorem dX0_isSo_4 : decode cX0_isSo 4 = .ok (.iconst 1, 1) := by decide +kernel
theorem dX0_isSo_5 : decode cX0_isSo 5 = .ok (.iload_n 2, 1) := by decide +kernel
theorem dX0_isSo_6 : decode cX0_isSo 6 = .ok (.aload_n 0, 1) := by decide +kernel
theorem dX0_isSo_7 : decode cX0_isSo 7 = .ok (.getfield 19, 3) := by decide +kernel
theorem dX0_isSo_10 : decode cX0_isSo 10 = .ok (.invokevirtual 68, 3) := by decide +kernel
theorem dX0_isSo_13 : decode cX0_isSo 13 = .ok (.aload_n 0, 1) := by decide +kernel
theorem dX0_isSo_14 : decode cX0_isSo 14 = .ok (.getfield 25, 3) := by decide +kernel
theorem dX0_isSo_17 : decode cX0_isSo 17 = .ok (.getfield 72, 3) := by decide +kernel
theorem dX0_isSo_20 : decode cX0_isSo 20 = .ok (.iconst 2, 1) := by decide +kernel
theorem dX0_isSo_21 : decode cX0_isSo 21 = .ok (.irem, 1) := by decide +kernel
theorem dX0_isSo_22 : decode cX0_isSo 22 = .ok (.ifCond .ne 7, 3) := by decide +kernel
theorem dX0_isSo_25 : decode cX0_isSo 25 = .ok (.iconst 1, 1) := by decide +kernel
theorem dX0_isSo_26 : decode cX0_isSo 26 = .ok (.goto 4, 3) := by decide +kernel
theorem dX0_isSo_29 : decode cX0_isSo 29 = .ok (.iconst 0, 1) := by decide +kernel
theorem dX0_isSo_30 : decode cX0_isSo 30 = .ok (.istore_n 3, 1) := by decide +kernel
theorem dX0_isSo_31 : decode cX0_isSo 31 = .ok (.iload_n 1, 1) := by decide +kernel
theorem dX0_isSo_32 : decode cX0_isSo 32 = .ok (.tableswitch 175 0 7 #[48, 56, 73, 90, 98, 118, 138, 170], 48) := by decide +kernel
theorem dX0_isSo_80 : decode cX0_isSo 80 = .ok (.aload_n 0, 1) := by decide +kernel
theorem dX0_isSo_81 : decode cX0_isSo 81 = .ok (.getfield 25, 3) := by decide +kernel
theorem dX0_isSo_84 : decode cX0_isSo 84 = .ok (.invokevirtual 73, 3) := by decide +kernel
theorem dX0_isSo_87 : decode cX0_isSo 87 = .ok (.ireturn, 1) := by decide +kernel
theorem dX0_isSo_88 : decode cX0_isSo 88 = .ok (.aload_n 0, 1) := by decide +kernel
theorem dX0_isSo_89 : decode cX0_isSo 89 = .ok (.getfield 25, 3) := by decide +kernel
theorem dX0_isSo_92 : decode cX0_isSo 92 = .ok (.invokevirtual 76, 3) := by decide +kernel
theorem dX0_isSo_95 : decode cX0_isSo 95 = .ok (.iconst 1, 1) := by decide +kernel
theorem dX0_isSo_96 : decode cX0_isSo 96 = .ok (.if_icmp .ne 7, 3) := by decide +kernel
theorem dX0_isSo_99 : decode cX0_isSo 99 = .ok (.iconst 1, 1) := by decide +kernel
theorem dX0_isSo_100 : decode cX0_isSo 100 = .ok (.goto 4, 3) := by decide +kernel
theorem dX0_isSo_103 : decode cX0_isSo 103 = .ok (.iconst 0, 1) := by decide +kernel
theorem dX0_isSo_104 : decode cX0_isSo 104 = .ok (.ireturn, 1) := by decide +kernel
theorem dX0_isSo_105 : decode cX0_isSo 105 = .ok (.aload_n 0, 1) := by decide +kernel
theorem dX0_isSo_106 : decode cX0_isSo 106 = .ok (.getfield 25, 3) := by decide +kernel
theorem dX0_isSo_109 : decode cX0_isSo 109 = .ok (.invokevirtual 76, 3) := by decide +kernel
theorem dX0_isSo_112 : decode cX0_isSo 112 = .ok (.iconst 2, 1) := by decide +kernel
theorem dX0_isSo_113 : decode cX0_isSo 113 = .ok (.if_icmp .ne 7, 3) := by decide +kernel
theorem dX0_isSo_116 : decode cX0_isSo 116 = .ok (.iconst 1, 1) := by decide +kernel
theorem dX0_isSo_117 : decode cX0_isSo 117 = .ok (.goto 4, 3) := by decide +kernel
theorem dX0_isSo_120 : decode cX0_isSo 120 = .ok (.iconst 0, 1) := by decide +kernel
theorem dX0_isSo_121 : decode cX0_isSo 121 = .ok (.ireturn, 1) := by decide +kernel
theorem dX0_isSo_122 : decode cX0_isSo 122 = .ok (.aload_n 0, 1) := by decide +kernel
theorem dX0_isSo_123 : decode cX0_isSo 123 = .ok (.getfield 25, 3) := by decide +kernel
theorem dX0_isSo_126 : decode cX0_isSo 126 = .ok (.invokevirtual 80, 3) := by decide +kernel
theorem dX0_isSo_129 : decode cX0_isSo 129 = .ok (.ireturn, 1) := by decide +kernel
theorem dX0_isSo_130 : decode cX0_isSo 130 = .ok (.aload_n 0, 1) := by decide +kernel
theorem dX0_isSo_131 : decode cX0_isSo 131 = .ok (.getfield 25, 3) := by decide +kernel
theorem dX0_isSo_134 : decode cX0_isSo 134 = .ok (.invokevirtual 73, 3) := by decide +kernel
theorem dX0_isSo_137 : decode cX0_isSo 137 = .ok (.ifCond .ne 11, 3) := by decide +kernel
theorem dX0_isSo_140 : decode cX0_isSo 140 = .ok (.iload_n 3, 1) := by decide +kernel
theorem dX0_isSo_141 : decode cX0_isSo 141 = .ok (.ifCond .eq 7, 3) := by decide +kernel
theorem dX0_isSo_144 : decode cX0_isSo 144 = .ok (.iconst 1, 1) := by decide +kernel
theorem dX0_isSo_145 : decode cX0_isSo 145 = .ok (.goto 4, 3) := by decide +kernel
theorem dX0_isSo_148 : decode cX0_isSo 148 = .ok (.iconst 0, 1) := by decide +kernel
theorem dX0_isSo_149 : decode cX0_isSo 149 = .ok (.ireturn, 1) := by decide +kernel
theorem dX0_isSo_150 : decode cX0_isSo 150 = .ok (.aload_n 0, 1) := by decide +kernel
theorem dX0_isSo_151 : decode cX0_isSo 151 = .ok (.getfield 25, 3) := by decide +kernel
theorem dX0_isSo_154 : decode cX0_isSo 154 = .ok (.invokevirtual 73, 3) := by decide +kernel
theorem dX0_isSo_157 : decode cX0_isSo 157 = .ok (.ifCond .ne 11, 3) := by decide +kernel
theorem dX0_isSo_160 : decode cX0_isSo 160 = .ok (.iload_n 3, 1) := by decide +kernel
theorem dX0_isSo_161 : decode cX0_isSo 161 = .ok (.ifCond .ne 7, 3) := by decide +kernel
theorem dX0_isSo_164 : decode cX0_isSo 164 = .ok (.iconst 1, 1) := by decide +kernel
theorem dX0_isSo_165 : decode cX0_isSo 165 = .ok (.goto 4, 3) := by decide +kernel
theorem dX0_isSo_168 : decode cX0_isSo 168 = .ok (.iconst 0, 1) := by decide +kernel
theorem dX0_isSo_169 : decode cX0_isSo 169 = .ok (.ireturn, 1) := by decide +kernel
theorem dX0_isSo_170 : decode cX0_isSo 170 = .ok (.aload_n 0, 1) := by decide +kernel
theorem dX0_isSo_171 : decode cX0_isSo 171 = .ok (.getfield 25, 3) := by decide +kernel
theorem dX0_isSo_174 : decode cX0_isSo 174 = .ok (.invokevirtual 73, 3) := by decide +kernel
theorem dX0_isSo_177 : decode cX0_isSo 177 = .ok (.ifCond .ne 23, 3) := by decide +kernel
theorem dX0_isSo_180 : decode cX0_isSo 180 = .ok (.iload_n 3, 1) := by decide +kernel
theorem dX0_isSo_181 : decode cX0_isSo 181 = .ok (.ifCond .eq 19, 3) := by decide +kernel
theorem dX0_isSo_184 : decode cX0_isSo 184 = .ok (.aload_n 0, 1) := by decide +kernel
theorem dX0_isSo_185 : decode cX0_isSo 185 = .ok (.getfield 25, 3) := by decide +kernel
theorem dX0_isSo_188 : decode cX0_isSo 188 = .ok (.iconst 2, 1) := by decide +kernel
theorem dX0_isSo_189 : decode cX0_isSo 189 = .ok (.invokevirtual 83, 3) := by decide +kernel
theorem dX0_isSo_192 : decode cX0_isSo 192 = .ok (.iconst 1, 1) := by decide +kernel
theorem dX0_isSo_193 : decode cX0_isSo 193 = .ok (.if_icmp .ne 7, 3) := by decide +kernel
theorem dX0_isSo_196 : decode cX0_isSo 196 = .ok (.iconst 1, 1) := by decide +kernel
theorem dX0_isSo_197 : decode cX0_isSo 197 = .ok (.goto 4, 3) := by decide +kernel
theorem dX0_isSo_200 : decode cX0_isSo 200 = .ok (.iconst 0, 1) := by decide +kernel
theorem dX0_isSo_201 : decode cX0_isSo 201 = .ok (.ireturn, 1) := by decide +kernel
theorem dX0_isSo_202 : decode cX0_isSo 202 = .ok (.iload_n 2, 1) := by decide +kernel
theorem dX0_isSo_203 : decode cX0_isSo 203 = .ok (.invokestatic 87, 3) := by decide +kernel
theorem dX0_isSo_206 : decode cX0_isSo 206 = .ok (.ireturn, 1) := by decide +kernel
theorem dX0_isSo_207 : decode cX0_isSo 207 = .ok (.iconst 0, 1) := by decide +kernel
theorem dX0_isSo_208 : decode cX0_isSo 208 = .ok (.ireturn, 1) := by decide +kernel
theorem dX1_init_0 : decode cX1_init 0 = .ok (.aload_n 0, 1) := by decide +kernel
theorem dX1_init_1 : decode cX1_init 1 = .ok (.invokespecial 3, 3) := by decide +kernel
theorem dX1_init_4 : decode cX1_init 4 = .ok (.aload_n 0, 1) := by decide +kernel
theorem dX1_init_5 : decode cX1_init 5 = .ok (.iconst 0, 1) := by decide +kernel
theorem dX1_init_6 : decode cX1_init 6 = .ok (.putfield 9, 3) := by decide +kernel
theorem dX1_init_9 : decode cX1_init 9 = .ok (.aload_n 0, 1) := by decide +kernel
theorem dX1_init_10 : decode cX1_init 10 = .ok (.iconst 1, 1) := by decide +kernel
theorem dX1_init_11 : decode cX1_init 11 = .ok (.putfield 15, 3) := by decide +kernel
theorem dX1_init_14 : decode cX1_init 14 = .ok (.aload_n 0, 1) := by decide +kernel
theorem dX1_init_15 : decode cX1_init 15 = .ok (.bipush 10, 2) := by decide +kernel
theorem dX1_init_17 : decode cX1_init 17 = .ok (.putfield 18, 3) := by decide +kernel
theorem dX1_init_20 : decode cX1_init 20 = .ok (.aload_n 0, 1) := by decide +kernel
theorem dX1_init_21 : decode cX1_init 21 = .ok (.iconst 0, 1) := by decide +kernel
theorem dX1_init_22 : decode cX1_init 22 = .ok (.putfield 21, 3) := by decide +kernel
theorem dX1_init_25 : decode cX1_init 25 = .ok (.aload_n 0, 1) := by decide +kernel
theorem dX1_init_26 : decode cX1_init 26 = .ok (.iconst 1, 1) := by decide +kernel
theorem dX1_init_27 : decode cX1_init 27 = .ok (.putfield 24, 3) := by decide +kernel
theorem dX1_init_30 : decode cX1_init 30 = .ok (.aload_n 0, 1) := by decide +kernel
theorem dX1_init_31 : decode cX1_init 31 = .ok (.iconst 0, 1) := by decide +kernel
theorem dX1_init_32 : decode cX1_init 32 = .ok (.putfield 27, 3) := by decide +kernel
theorem dX1_init_35 : decode cX1_init 35 = .ok (.aload_n 0, 1) := by decide +kernel
theorem dX1_init_36 : decode cX1_init 36 = .ok (.iconst 1, 1) := by decide +kernel
theorem dX1_init_37 : decode cX1_init 37 = .ok (.putfield 30, 3) := by decide +kernel
theorem dX1_init_40 : decode cX1_init 40 = .ok (.return_, 1) := by decide +kernel
theorem dX1_become_0 : decode cX1_become 0 = .ok (.aload_n 0, 1) := by decide +kernel
theorem dX1_become_1 : decode cX1_become 1 = .ok (.iload_n 1, 1) := by decide +kernel
theorem dX1_become_2 : decode cX1_become 2 = .ok (.putfield 9, 3) := by decide +kernel
theorem dX1_become_5 : decode cX1_become 5 = .ok (.aload_n 0, 1) := by decide +kernel
theorem dX1_become_6 : decode cX1_become 6 = .ok (.iload_n 2, 1) := by decide +kernel
theorem dX1_become_7 : decode cX1_become 7 = .ok (.putfield 15, 3) := by decide +kernel
theorem dX1_become_10 : decode cX1_become 10 = .ok (.aload_n 0, 1) := by decide +kernel
theorem dX1_become_11 : decode cX1_become 11 = .ok (.iload_n 3, 1) := by decide +kernel
theorem dX1_become_12 : decode cX1_become 12 = .ok (.putfield 18, 3) := by decide +kernel
theorem dX1_become_15 : decode cX1_become 15 = .ok (.aload_n 0, 1) := by decide +kernel
theorem dX1_become_16 : decode cX1_become 16 = .ok (.aload_n 0, 1) := by decide +kernel
theorem dX1_become_17 : decode cX1_become 17 = .ok (.getfield 15, 3) := by decide +kernel
theorem dX1_become_20 : decode cX1_become 20 = .ok (.i2l, 1) := by decide +kernel
theorem dX1_become_21 : decode cX1_become 21 = .ok (.aload_n 0, 1) := by decide +kernel
theorem dX1_become_22 : decode cX1_become 22 = .ok (.getfield 18, 3) := by decide +kernel
theorem dX1_become_25 : decode cX1_become 25 = .ok (.bipush 9, 2) := by decide +kernel
theorem dX1_become_27 : decode cX1_become 27 = .ok (.invokestatic 33, 3) := by decide +kernel
theorem dX1_become_30 : decode cX1_become 30 = .ok (.invokestatic 37, 3) := by decide +kernel
theorem dX1_become_33 : decode cX1_become 33 = .ok (.l2i, 1) := by decide +kernel
theorem dX1_become_34 : decode cX1_become 34 = .ok (.putfield 30, 3) := by decide +kernel
theorem dX1_become_37 : decode cX1_become 37 = .ok (.aload_n 0, 1) := by decide +kernel
theorem dX1_become_38 : decode cX1_become 38 = .ok (.iconst 0, 1) := by decide +kernel
theorem dX1_become_39 : decode cX1_become 39 = .ok (.putfield 21, 3) := by decide +kernel
theorem dX1_become_42 : decode cX1_become 42 = .ok (.aload_n 0, 1) := by decide +kernel
theorem dX1_become_43 : decode cX1_become 43 = .ok (.aload_n 0, 1) := by decide +kernel
theorem dX1_become_44 : decode cX1_become 44 = .ok (.getfield 9, 3) := by decide +kernel
theorem dX1_become_47 : decode cX1_become 47 = .ok (.aload_n 0, 1) := by decide +kernel
theorem dX1_become_48 : decode cX1_become 48 = .ok (.getfield 15, 3) := by decide +kernel
theorem dX1_become_51 : decode cX1_become 51 = .ok (.invokestatic 41, 3) := by decide +kernel
theorem dX1_become_54 : decode cX1_become 54 = .ok (.putfield 27, 3) := by decide +kernel
theorem dX1_become_57 : decode cX1_become 57 = .ok (.aload_n 0, 1) := by decide +kernel
theorem dX1_become_58 : decode cX1_become 58 = .ok (.getfield 21, 3) := by decide +kernel
theorem dX1_become_61 : decode cX1_become 61 = .ok (.aload_n 0, 1) := by decide +kernel
theorem dX1_become_62 : decode cX1_become 62 = .ok (.getfield 15, 3) := by decide +kernel
theorem dX1_become_65 : decode cX1_become 65 = .ok (.if_icmp .ge 39, 3) := by decide +kernel
theorem dX1_become_68 : decode cX1_become 68 = .ok (.aload_n 0, 1) := by decide +kernel
theorem dX1_become_69 : decode cX1_become 69 = .ok (.aload_n 0, 1) := by decide +kernel
theorem dX1_become_70 : decode cX1_become 70 = .ok (.getfield 27, 3) := by decide +kernel
theorem dX1_become_73 : decode cX1_become 73 = .ok (.invokevirtual 45, 3) := by decide +kernel
theorem dX1_become_76 : decode cX1_become 76 = .ok (.ifCond .ne 28, 3) := by decide +kernel
theorem dX1_become_79 : decode cX1_become 79 = .ok (.aload_n 0, 1) := by decide +kernel
theorem dX1_become_80 : decode cX1_become 80 = .ok (.aload_n 0, 1) := by decide +kernel
theorem dX1_become_81 : decode cX1_become 81 = .ok (.aload_n 0, 1) := by decide +kernel
theorem dX1_become_82 : decode cX1_become 82 = .ok (.getfield 27, 3) := by decide +kernel
theorem dX1_become_85 : decode cX1_become 85 = .ok (.invokevirtual 49, 3) := by decide +kernel
theorem dX1_become_88 : decode cX1_become 88 = .ok (.putfield 27, 3) := by decide +kernel
theorem dX1_become_91 : decode cX1_become 91 = .ok (.aload_n 0, 1) := by decide +kernel
theorem dX1_become_92 : decode cX1_become 92 = .ok (.dup, 1) := by decide +kernel
theorem dX1_become_93 : decode cX1_become 93 = .ok (.getfield 21, 3) := by decide +kernel
theorem dX1_become_96 : decode cX1_become 96 = .ok (.iconst 1, 1) := by decide +kernel
theorem dX1_become_97 : decode cX1_become 97 = .ok (.iadd, 1) := by decide +kernel
theorem dX1_become_98 : decode cX1_become 98 = .ok (.putfield 21, 3) := by decide +kernel
theorem dX1_become_101 : decode cX1_become 101 = .ok (.goto (-44), 3) := by decide +kernel
theorem dX1_become_104 : decode cX1_become 104 = .ok (.aload_n 0, 1) := by decide +kernel
theorem dX1_become_105 : decode cX1_become 105 = .ok (.iconst 1, 1) := by decide +kernel
theorem dX1_become_106 : decode cX1_become 106 = .ok (.putfield 24, 3) := by decide +kernel
theorem dX1_become_109 : decode cX1_become 109 = .ok (.aload_n 0, 1) := by decide +kernel
theorem dX1_become_110 : decode cX1_become 110 = .ok (.aload_n 0, 1) := by decide +kernel
theorem dX1_become_111 : decode cX1_become 111 = .ok (.getfield 27, 3) := by decide +kernel
theorem dX1_become_114 : decode cX1_become 114 = .ok (.invokevirtual 49, 3) := by decide +kernel
theorem dX1_become_117 : decode cX1_become 117 = .ok (.istore 4, 2) := by decide +kernel
theorem dX1_become_119 : decode cX1_become 119 = .ok (.aload_n 0, 1) := by decide +kernel
theorem dX1_become_120 : decode cX1_become 120 = .ok (.getfield 24, 3) := by decide +kernel
theorem dX1_become_123 : decode cX1_become 123 = .ok (.aload_n 0, 1) := by decide +kernel
theorem dX1_become_124 : decode cX1_become 124 = .ok (.getfield 15, 3) := by decide +kernel
theorem dX1_become_127 : decode cX1_become 127 = .ok (.if_icmp .ge 33, 3) := by decide +kernel
theorem dX1_become_130 : decode cX1_become 130 = .ok (.iload 4, 2) := by decide +kernel
theorem dX1_become_132 : decode cX1_become 132 = .ok (.aload_n 0, 1) := by decide +kernel
theorem dX1_become_133 : decode cX1_become 133 = .ok (.getfield 27, 3) := by decide +kernel
theorem dX1_become_136 : decode cX1_become 136 = .ok (.if_icmp .eq 24, 3) := by decide +kernel
theorem dX1_become_139 : decode cX1_become 139 = .ok (.aload_n 0, 1) := by decide +kernel
theorem dX1_become_140 : decode cX1_become 140 = .ok (.iload 4, 2) := by decide +kernel
theorem dX1_become_142 : decode cX1_become 142 = .ok (.invokevirtual 49, 3) := by decide +kernel
theorem dX1_become_145 : decode cX1_become 145 = .ok (.istore 4, 2) := by decide +kernel
theorem dX1_become_147 : decode cX1_become 147 = .ok (.aload_n 0, 1) := by decide +kernel
theorem dX1_become_148 : decode cX1_become 148 = .ok (.dup, 1) := by decide +kernel
theorem dX1_become_149 : decode cX1_become 149 = .ok (.getfield 24, 3) := by decide +kernel
theorem dX1_become_152 : decode cX1_become 152 = .ok (.iconst 1, 1) := by decide +kernel
theorem dX1_become_153 : decode cX1_become 153 = .ok (.iadd, 1) := by decide +kernel
theorem dX1_become_154 : decode cX1_become 154 = .ok (.putfield 24, 3) := by decide +kernel
theorem dX1_become_157 : decode cX1_become 157 = .ok (.goto (-38), 3) := by decide +kernel
theorem dX1_become_160 : decode cX1_become 160 = .ok (.return_, 1) := by decide +kernel
theorem dX1_becomeLike_0 : decode cX1_becomeLike 0 = .ok (.aload_n 0, 1) := by decide +kernel
theorem dX1_becomeLike_1 : decode cX1_becomeLike 1 = .ok (.aload_n 1, 1) := by decide +kernel
theorem dX1_becomeLike_2 : decode cX1_becomeLike 2 = .ok (.getfield 9, 3) := by decide +kernel
theorem dX1_becomeLike_5 : decode cX1_becomeLike 5 = .ok (.putfield 9, 3) := by decide +kernel
theorem dX1_becomeLike_8 : decode cX1_becomeLike 8 = .ok (.aload_n 0, 1) := by decide +kernel
theorem dX1_becomeLike_9 : decode cX1_becomeLike 9 = .ok (.aload_n 1, 1) := by decide +kernel
theorem dX1_becomeLike_10 : decode cX1_becomeLike 10 = .ok (.getfield 15, 3) := by decide +kernel
theorem dX1_becomeLike_13 : decode cX1_becomeLike 13 = .ok (.putfield 15, 3) := by decide +kernel
theorem dX1_becomeLike_16 : decode cX1_becomeLike 16 = .ok (.aload_n 0, 1) := by decide +kernel
theorem dX1_becomeLike_17 : decode cX1_becomeLike 17 = .ok (.aload_n 1, 1) := by decide +kernel
theorem dX1_becomeLike_18 : decode cX1_becomeLike 18 = .ok (.getfield 18, 3) := by decide +kernel
theorem dX1_becomeLike_21 : decode cX1_becomeLike 21 = .ok (.putfield 18, 3) := by decide +kernel
theorem dX1_becomeLike_24 : decode cX1_becomeLike 24 = .ok (.aload_n 0, 1) := by decide +kernel
theorem dX1_becomeLike_25 : decode cX1_becomeLike 25 = .ok (.aload_n 1, 1) := by decide +kernel
theorem dX1_becomeLike_26 : decode cX1_becomeLike 26 = .ok (.getfield 21, 3) := by decide +kernel
theorem dX1_becomeLike_29 : decode cX1_becomeLike 29 = .ok (.putfield 21, 3) := by decide +kernel
theorem dX1_becomeLike_32 : decode cX1_becomeLike 32 = .ok (.aload_n 0, 1) := by decide +kernel
theorem dX1_becomeLike_33 : decode cX1_becomeLike 33 = .ok (.aload_n 1, 1) := by decide +kernel
theorem dX1_becomeLike_34 : decode cX1_becomeLike 34 = .ok (.getfield 24, 3) := by decide +kernel
theorem dX1_becomeLike_37 : decode cX1_becomeLike 37 = .ok (.putfield 24, 3) := by decide +kernel
theorem dX1_becomeLike_40 : decode cX1_becomeLike 40 = .ok (.aload_n 0, 1) := by decide +kernel
theorem dX1_becomeLike_41 : decode cX1_becomeLike 41 = .ok (.aload_n 1, 1) := by decide +kernel
theorem dX1_becomeLike_42 : decode cX1_becomeLike 42 = .ok (.getfield 27, 3) := by decide +kernel
theorem dX1_becomeLike_45 : decode cX1_becomeLike 45 = .ok (.putfield 27, 3) := by decide +kernel
theorem dX1_becomeLike_48 : decode cX1_becomeLike 48 = .ok (.aload_n 0, 1) := by decide +kernel
theorem dX1_becomeLike_49 : decode cX1_becomeLike 49 = .ok (.aload_n 1, 1) := by decide +kernel
theorem dX1_becomeLike_50 : decode cX1_becomeLike 50 = .ok (.getfield 30, 3) := by decide +kernel
theorem dX1_becomeLike_53 : decode cX1_becomeLike 53 = .ok (.putfield 30, 3) := by decide +kernel
theorem dX1_becomeLike_56 : decode cX1_becomeLike 56 = .ok (.return_, 1) := by decide +kernel
theorem dX1_turns_0 : decode cX1_turns 0 = .ok (.aload_n 0, 1) := by decide +kernel
theorem dX1_turns_1 : decode cX1_turns 1 = .ok (.getfield 30, 3) := by decide +kernel
theorem dX1_turns_4 : decode cX1_turns 4 = .ok (.ifCond .eq 12, 3) := by decide +kernel
theorem dX1_turns_7 : decode cX1_turns 7 = .ok (.iload_n 1, 1) := by decide +kernel
theorem dX1_turns_8 : decode cX1_turns 8 = .ok (.aload_n 0, 1) := by decide +kernel
theorem dX1_turns_9 : decode cX1_turns 9 = .ok (.getfield 30, 3) := by decide +kernel
theorem dX1_turns_12 : decode cX1_turns 12 = .ok (.irem, 1) := by decide +kernel
theorem dX1_turns_13 : decode cX1_turns 13 = .ok (.ifCond .ne 7, 3) := by decide +kernel
theorem dX1_turns_16 : decode cX1_turns 16 = .ok (.iconst 1, 1) := by decide +kernel
theorem dX1_turns_17 : decode cX1_turns 17 = .ok (.goto 4, 3) := by decide +kernel
theorem dX1_turns_20 : decode cX1_turns 20 = .ok (.iconst 0, 1) := by decide +kernel
theorem dX1_turns_21 : decode cX1_turns 21 = .ok (.ireturn, 1) := by decide +kernel
theorem dX1_restAfter_0 : decode cX1_restAfter 0 = .ok (.aload_n 0, 1) := by decide +kernel
theorem dX1_restAfter_1 : decode cX1_restAfter 1 = .ok (.getfield 15, 3) := by decide +kernel
theorem dX1_restAfter_4 : decode cX1_restAfter 4 = .ok (.ifCond .ne 7, 3) := by decide +kernel
theorem dX1_restAfter_7 : decode cX1_restAfter 7 = .ok (.iconst 0, 1) := by decide +kernel
theorem dX1_restAfter_8 : decode cX1_restAfter 8 = .ok (.goto 14, 3) := by decide +kernel
theorem dX1_restAfter_11 : decode cX1_restAfter 11 = .ok (.iload_n 1, 1) := by decide +kernel
theorem dX1_restAfter_12 : decode cX1_restAfter 12 = .ok (.aload_n 0, 1) := by decide +kernel
theorem dX1_restAfter_13 : decode cX1_restAfter 13 = .ok (.getfield 18, 3) := by decide +kernel
theorem dX1_restAfter_16 : decode cX1_restAfter 16 = .ok (.imul, 1) := by decide +kernel
theorem dX1_restAfter_17 : decode cX1_restAfter 17 = .ok (.aload_n 0, 1) := by decide +kernel
theorem dX1_restAfter_18 : decode cX1_restAfter 18 = .ok (.getfield 15, 3) := by decide +kernel
theorem dX1_restAfter_21 : decode cX1_restAfter 21 = .ok (.irem, 1) := by decide +kernel
theorem dX1_restAfter_22 : decode cX1_restAfter 22 = .ok (.ireturn, 1) := by decide +kernel
theorem dX1_digitOf_0 : decode cX1_digitOf 0 = .ok (.iload_n 1, 1) := by decide +kernel
theorem dX1_digitOf_1 : decode cX1_digitOf 1 = .ok (.aload_n 0, 1) := by decide +kernel
theorem dX1_digitOf_2 : decode cX1_digitOf 2 = .ok (.getfield 18, 3) := by decide +kernel
theorem dX1_digitOf_5 : decode cX1_digitOf 5 = .ok (.imul, 1) := by decide +kernel
theorem dX1_digitOf_6 : decode cX1_digitOf 6 = .ok (.i2l, 1) := by decide +kernel
theorem dX1_digitOf_7 : decode cX1_digitOf 7 = .ok (.aload_n 0, 1) := by decide +kernel
theorem dX1_digitOf_8 : decode cX1_digitOf 8 = .ok (.getfield 15, 3) := by decide +kernel
theorem dX1_digitOf_11 : decode cX1_digitOf 11 = .ok (.i2l, 1) := by decide +kernel
theorem dX1_digitOf_12 : decode cX1_digitOf 12 = .ok (.invokestatic 53, 3) := by decide +kernel
theorem dX1_digitOf_15 : decode cX1_digitOf 15 = .ok (.l2i, 1) := by decide +kernel
theorem dX1_digitOf_16 : decode cX1_digitOf 16 = .ok (.ireturn, 1) := by decide +kernel
theorem dX1_restAt_0 : decode cX1_restAt 0 = .ok (.iload_n 1, 1) := by decide +kernel
theorem dX1_restAt_1 : decode cX1_restAt 1 = .ok (.aload_n 0, 1) := by decide +kernel
theorem dX1_restAt_2 : decode cX1_restAt 2 = .ok (.getfield 21, 3) := by decide +kernel
theorem dX1_restAt_5 : decode cX1_restAt 5 = .ok (.if_icmp .ge 7, 3) := by decide +kernel
theorem dX1_restAt_8 : decode cX1_restAt 8 = .ok (.iload_n 1, 1) := by decide +kernel
theorem dX1_restAt_9 : decode cX1_restAt 9 = .ok (.goto 21, 3) := by decide +kernel
theorem dX1_restAt_12 : decode cX1_restAt 12 = .ok (.aload_n 0, 1) := by decide +kernel
theorem dX1_restAt_13 : decode cX1_restAt 13 = .ok (.getfield 21, 3) := by decide +kernel
theorem dX1_restAt_16 : decode cX1_restAt 16 = .ok (.iload_n 1, 1) := by decide +kernel
theorem dX1_restAt_17 : decode cX1_restAt 17 = .ok (.aload_n 0, 1) := by decide +kernel
theorem dX1_restAt_18 : decode cX1_restAt 18 = .ok (.getfield 21, 3) := by decide +kernel
theorem dX1_restAt_21 : decode cX1_restAt 21 = .ok (.isub, 1) := by decide +kernel
theorem dX1_restAt_22 : decode cX1_restAt 22 = .ok (.aload_n 0, 1) := by decide +kernel
theorem dX1_restAt_23 : decode cX1_restAt 23 = .ok (.getfield 24, 3) := by decide +kernel
theorem dX1_restAt_26 : decode cX1_restAt 26 = .ok (.invokestatic 41, 3) := by decide +kernel
theorem dX1_restAt_29 : decode cX1_restAt 29 = .ok (.iadd, 1) := by decide +kernel
theorem dX1_restAt_30 : decode cX1_restAt 30 = .ok (.istore_n 2, 1) := by decide +kernel
theorem dX1_restAt_31 : decode cX1_restAt 31 = .ok (.aload_n 0, 1) := by decide +kernel
theorem dX1_restAt_32 : decode cX1_restAt 32 = .ok (.getfield 9, 3) := by decide +kernel
theorem dX1_restAt_35 : decode cX1_restAt 35 = .ok (.aload_n 0, 1) := by decide +kernel
theorem dX1_restAt_36 : decode cX1_restAt 36 = .ok (.getfield 15, 3) := by decide +kernel
theorem dX1_restAt_39 : decode cX1_restAt 39 = .ok (.invokestatic 41, 3) := by decide +kernel
theorem dX1_restAt_42 : decode cX1_restAt 42 = .ok (.istore_n 3, 1) := by decide +kernel
theorem dX1_restAt_43 : decode cX1_restAt 43 = .ok (.iconst 0, 1) := by decide +kernel
theorem dX1_restAt_44 : decode cX1_restAt 44 = .ok (.istore 4, 2) := by decide +kernel
theorem dX1_restAt_46 : decode cX1_restAt 46 = .ok (.iload 4, 2) := by decide +kernel
theorem dX1_restAt_48 : decode cX1_restAt 48 = .ok (.iload_n 2, 1) := by decide +kernel
theorem dX1_restAt_49 : decode cX1_restAt 49 = .ok (.if_icmp .ge 15, 3) := by decide +kernel
theorem dX1_restAt_52 : decode cX1_restAt 52 = .ok (.aload_n 0, 1) := by decide +kernel
theorem dX1_restAt_53 : decode cX1_restAt 53 = .ok (.iload_n 3, 1) := by decide +kernel
theorem dX1_restAt_54 : decode cX1_restAt 54 = .ok (.invokevirtual 49, 3) := by decide +kernel
theorem dX1_restAt_57 : decode cX1_restAt 57 = .ok (.istore_n 3, 1) := by decide +kernel
theorem dX1_restAt_58 : decode cX1_restAt 58 = .ok (.iinc 4 1, 3) := by decide +kernel
theorem dX1_restAt_61 : decode cX1_restAt 61 = .ok (.goto (-15), 3) := by decide +kernel
theorem dX1_restAt_64 : decode cX1_restAt 64 = .ok (.iload_n 3, 1) := by decide +kernel
theorem dX1_restAt_65 : decode cX1_restAt 65 = .ok (.ireturn, 1) := by decide +kernel
theorem dX1_whole_0 : decode cX1_whole 0 = .ok (.aload_n 0, 1) := by decide +kernel
theorem dX1_whole_1 : decode cX1_whole 1 = .ok (.getfield 9, 3) := by decide +kernel
theorem dX1_whole_4 : decode cX1_whole 4 = .ok (.i2l, 1) := by decide +kernel
theorem dX1_whole_5 : decode cX1_whole 5 = .ok (.aload_n 0, 1) := by decide +kernel
theorem dX1_whole_6 : decode cX1_whole 6 = .ok (.getfield 15, 3) := by decide +kernel
theorem dX1_whole_9 : decode cX1_whole 9 = .ok (.i2l, 1) := by decide +kernel
theorem dX1_whole_10 : decode cX1_whole 10 = .ok (.invokestatic 53, 3) := by decide +kernel
theorem dX1_whole_13 : decode cX1_whole 13 = .ok (.l2i, 1) := by decide +kernel
theorem dX1_whole_14 : decode cX1_whole 14 = .ok (.ireturn, 1) := by decide +kernel
theorem dX1_ends_0 : decode cX1_ends 0 = .ok (.aload_n 0, 1) := by decide +kernel
theorem dX1_ends_1 : decode cX1_ends 1 = .ok (.getfield 27, 3) := by decide +kernel
theorem dX1_ends_4 : decode cX1_ends 4 = .ok (.ifCond .ne 7, 3) := by decide +kernel
theorem dX1_ends_7 : decode cX1_ends 7 = .ok (.iconst 1, 1) := by decide +kernel
theorem dX1_ends_8 : decode cX1_ends 8 = .ok (.goto 4, 3) := by decide +kernel
theorem dX1_ends_11 : decode cX1_ends 11 = .ok (.iconst 0, 1) := by decide +kernel
theorem dX1_ends_12 : decode cX1_ends 12 = .ok (.ireturn, 1) := by decide +kernel
theorem dX1_kind_0 : decode cX1_kind 0 = .ok (.aload_n 0, 1) := by decide +kernel
theorem dX1_kind_1 : decode cX1_kind 1 = .ok (.invokevirtual 56, 3) := by decide +kernel
theorem dX1_kind_4 : decode cX1_kind 4 = .ok (.ifCond .eq 5, 3) := by decide +kernel
theorem dX1_kind_7 : decode cX1_kind 7 = .ok (.iconst 0, 1) := by decide +kernel
theorem dX1_kind_8 : decode cX1_kind 8 = .ok (.ireturn, 1) := by decide +kernel
theorem dX1_kind_9 : decode cX1_kind 9 = .ok (.aload_n 0, 1) := by decide +kernel
theorem dX1_kind_10 : decode cX1_kind 10 = .ok (.getfield 21, 3) := by decide +kernel
theorem dX1_kind_13 : decode cX1_kind 13 = .ok (.ifCond .ne 7, 3) := by decide +kernel
theorem dX1_kind_16 : decode cX1_kind 16 = .ok (.iconst 1, 1) := by decide +kernel
theorem dX1_kind_17 : decode cX1_kind 17 = .ok (.goto 4, 3) := by decide +kernel
theorem dX1_kind_20 : decode cX1_kind 20 = .ok (.iconst 2, 1) := by decide +kernel
theorem dX1_kind_21 : decode cX1_kind 21 = .ok (.ireturn, 1) := by decide +kernel
theorem dX1_isFullUnit_0 : decode cX1_isFullUnit 0 = .ok (.aload_n 0, 1) := by decide +kernel
theorem dX1_isFullUnit_1 : decode cX1_isFullUnit 1 = .ok (.invokevirtual 56, 3) := by decide +kernel
theorem dX1_isFullUnit_4 : decode cX1_isFullUnit 4 = .ok (.ifCond .ne 20, 3) := by decide +kernel
theorem dX1_isFullUnit_7 : decode cX1_isFullUnit 7 = .ok (.aload_n 0, 1) := by decide +kernel
theorem dX1_isFullUnit_8 : decode cX1_isFullUnit 8 = .ok (.getfield 24, 3) := by decide +kernel
theorem dX1_isFullUnit_11 : decode cX1_isFullUnit 11 = .ok (.aload_n 0, 1) := by decide +kernel
theorem dX1_isFullUnit_12 : decode cX1_isFullUnit 12 = .ok (.getfield 15, 3) := by decide +kernel
theorem dX1_isFullUnit_15 : decode cX1_isFullUnit 15 = .ok (.iconst 1, 1) := by decide +kernel
theorem dX1_isFullUnit_16 : decode cX1_isFullUnit 16 = .ok (.isub, 1) := by decide +kernel
theorem dX1_isFullUnit_17 : decode cX1_isFullUnit 17 = .ok (.if_icmp .ne 7, 3) := by decide +kernel
theorem dX1_isFullUnit_20 : decode cX1_isFullUnit 20 = .ok (.iconst 1, 1) := by decide +kernel
theorem dX1_isFullUnit_21 : decode cX1_isFullUnit 21 = .ok (.goto 4, 3) := by decide +kernel
theorem dX1_isFullUnit_24 : decode cX1_isFullUnit 24 = .ok (.iconst 0, 1) := by decide +kernel
theorem dX1_isFullUnit_25 : decode cX1_isFullUnit 25 = .ok (.ireturn, 1) := by decide +kernel
theorem dX1_placeOfDigit_0 : decode cX1_placeOfDigit 0 = .ok (.aload_n 0, 1) := by decide +kernel
theorem dX1_placeOfDigit_1 : decode cX1_placeOfDigit 1 = .ok (.getfield 9, 3) := by decide +kernel
theorem dX1_placeOfDigit_4 : decode cX1_placeOfDigit 4 = .ok (.aload_n 0, 1) := by decide +kernel
theorem dX1_placeOfDigit_5 : decode cX1_placeOfDigit 5 = .ok (.getfield 15, 3) := by decide +kernel
theorem dX1_placeOfDigit_8 : decode cX1_placeOfDigit 8 = .ok (.invokestatic 41, 3) := by decide +kernel
theorem dX1_placeOfDigit_11 : decode cX1_placeOfDigit 11 = .ok (.istore_n 2, 1) := by decide +kernel
theorem dX1_placeOfDigit_12 : decode cX1_placeOfDigit 12 = .ok (.iconst 0, 1) := by decide +kernel
theorem dX1_placeOfDigit_13 : decode cX1_placeOfDigit 13 = .ok (.istore_n 3, 1) := by decide +kernel
theorem dX1_placeOfDigit_14 : decode cX1_placeOfDigit 14 = .ok (.iload_n 3, 1) := by decide +kernel
theorem dX1_placeOfDigit_15 : decode cX1_placeOfDigit 15 = .ok (.aload_n 0, 1) := by decide +kernel
theorem dX1_placeOfDigit_16 : decode cX1_placeOfDigit 16 = .ok (.getfield 21, 3) := by decide +kernel
theorem dX1_placeOfDigit_19 : decode cX1_placeOfDigit 19 = .ok (.aload_n 0, 1) := by decide +kernel
theorem dX1_placeOfDigit_20 : decode cX1_placeOfDigit 20 = .ok (.getfield 24, 3) := by decide +kernel
theorem dX1_placeOfDigit_23 : decode cX1_placeOfDigit 23 = .ok (.iadd, 1) := by decide +kernel
theorem dX1_placeOfDigit_24 : decode cX1_placeOfDigit 24 = .ok (.if_icmp .ge 26, 3) := by decide +kernel
theorem dX1_placeOfDigit_27 : decode cX1_placeOfDigit 27 = .ok (.aload_n 0, 1) := by decide +kernel
theorem dX1_placeOfDigit_28 : decode cX1_placeOfDigit 28 = .ok (.iload_n 2, 1) := by decide +kernel
theorem dX1_placeOfDigit_29 : decode cX1_placeOfDigit 29 = .ok (.invokevirtual 60, 3) := by decide +kernel
theorem dX1_placeOfDigit_32 : decode cX1_placeOfDigit 32 = .ok (.iload_n 1, 1) := by decide +kernel
theorem dX1_placeOfDigit_33 : decode cX1_placeOfDigit 33 = .ok (.if_icmp .ne 5, 3) := by decide +kernel
theorem dX1_placeOfDigit_36 : decode cX1_placeOfDigit 36 = .ok (.iload_n 3, 1) := by decide +kernel
theorem dX1_placeOfDigit_37 : decode cX1_placeOfDigit 37 = .ok (.ireturn, 1) := by decide +kernel
theorem dX1_placeOfDigit_38 : decode cX1_placeOfDigit 38 = .ok (.aload_n 0, 1) := by decide +kernel
theorem dX1_placeOfDigit_39 : decode cX1_placeOfDigit 39 = .ok (.iload_n 2, 1) := by decide +kernel
theorem dX1_placeOfDigit_40 : decode cX1_placeOfDigit 40 = .ok (.invokevirtual 49, 3) := by decide +kernel
theorem dX1_placeOfDigit_43 : decode cX1_placeOfDigit 43 = .ok (.istore_n 2, 1) := by decide +kernel
theorem dX1_placeOfDigit_44 : decode cX1_placeOfDigit 44 = .ok (.iinc 3 1, 3) := by decide +kernel
theorem dX1_placeOfDigit_47 : decode cX1_placeOfDigit 47 = .ok (.goto (-33), 3) := by decide +kernel
theorem dX1_placeOfDigit_50 : decode cX1_placeOfDigit 50 = .ok (.bipush (-2), 2) := by decide +kernel
theorem dX1_placeOfDigit_52 : decode cX1_placeOfDigit 52 = .ok (.ireturn, 1) := by decide +kernel
theorem dX1_partsInto_0 : decode cX1_partsInto 0 = .ok (.iload_n 1, 1) := by decide +kernel
theorem dX1_partsInto_1 : decode cX1_partsInto 1 = .ok (.iconst 1, 1) := by decide +kernel
theorem dX1_partsInto_2 : decode cX1_partsInto 2 = .ok (.aload_n 0, 1) := by decide +kernel
theorem dX1_partsInto_3 : decode cX1_partsInto 3 = .ok (.getfield 24, 3) := by decide +kernel
theorem dX1_partsInto_6 : decode cX1_partsInto 6 = .ok (.invokestatic 63, 3) := by decide +kernel
theorem dX1_partsInto_9 : decode cX1_partsInto 9 = .ok (.ifCond .eq 18, 3) := by decide +kernel
theorem dX1_partsInto_12 : decode cX1_partsInto 12 = .ok (.aload_n 0, 1) := by decide +kernel
theorem dX1_partsInto_13 : decode cX1_partsInto 13 = .ok (.getfield 24, 3) := by decide +kernel
theorem dX1_partsInto_16 : decode cX1_partsInto 16 = .ok (.iload_n 1, 1) := by decide +kernel
theorem dX1_partsInto_17 : decode cX1_partsInto 17 = .ok (.invokestatic 41, 3) := by decide +kernel
theorem dX1_partsInto_20 : decode cX1_partsInto 20 = .ok (.ifCond .ne 7, 3) := by decide +kernel
theorem dX1_partsInto_23 : decode cX1_partsInto 23 = .ok (.iconst 1, 1) := by decide +kernel
theorem dX1_partsInto_24 : decode cX1_partsInto 24 = .ok (.goto 4, 3) := by decide +kernel
theorem dX1_partsInto_27 : decode cX1_partsInto 27 = .ok (.iconst 0, 1) := by decide +kernel
theorem dX1_partsInto_28 : decode cX1_partsInto 28 = .ok (.ireturn, 1) := by decide +kernel
theorem dX1_blockWidth_0 : decode cX1_blockWidth 0 = .ok (.aload_n 0, 1) := by decide +kernel
theorem dX1_blockWidth_1 : decode cX1_blockWidth 1 = .ok (.getfield 24, 3) := by decide +kernel
theorem dX1_blockWidth_4 : decode cX1_blockWidth 4 = .ok (.i2l, 1) := by decide +kernel
theorem dX1_blockWidth_5 : decode cX1_blockWidth 5 = .ok (.iload_n 1, 1) := by decide +kernel
theorem dX1_blockWidth_6 : decode cX1_blockWidth 6 = .ok (.i2l, 1) := by decide +kernel
theorem dX1_blockWidth_7 : decode cX1_blockWidth 7 = .ok (.invokestatic 53, 3) := by decide +kernel
theorem dX1_blockWidth_10 : decode cX1_blockWidth 10 = .ok (.l2i, 1) := by decide +kernel
theorem dX1_blockWidth_11 : decode cX1_blockWidth 11 = .ok (.ireturn, 1) := by decide +kernel
theorem dX1_ninesOfBlocks_0 : decode cX1_ninesOfBlocks 0 = .ok (.aload_n 0, 1) := by decide +kernel
theorem dX1_ninesOfBlocks_1 : decode cX1_ninesOfBlocks 1 = .ok (.iload_n 1, 1) := by decide +kernel
theorem dX1_ninesOfBlocks_2 : decode cX1_ninesOfBlocks 2 = .ok (.invokevirtual 67, 3) := by decide +kernel
theorem dX1_ninesOfBlocks_5 : decode cX1_ninesOfBlocks 5 = .ok (.istore_n 2, 1) := by decide +kernel
theorem dX1_ninesOfBlocks_6 : decode cX1_ninesOfBlocks 6 = .ok (.iconst 0, 1) := by decide +kernel
theorem dX1_ninesOfBlocks_7 : decode cX1_ninesOfBlocks 7 = .ok (.istore_n 3, 1) := by decide +kernel
theorem dX1_ninesOfBlocks_8 : decode cX1_ninesOfBlocks 8 = .ok (.aload_n 0, 1) := by decide +kernel
theorem dX1_ninesOfBlocks_9 : decode cX1_ninesOfBlocks 9 = .ok (.getfield 27, 3) := by decide +kernel
theorem dX1_ninesOfBlocks_12 : decode cX1_ninesOfBlocks 12 = .ok (.istore 4, 2) := by decide +kernel
theorem dX1_ninesOfBlocks_14 : decode cX1_ninesOfBlocks 14 = .ok (.iconst 0, 1) := by decide +kernel
theorem dX1_ninesOfBlocks_15 : decode cX1_ninesOfBlocks 15 = .ok (.istore 5, 2) := by decide +kernel
theorem dX1_ninesOfBlocks_17 : decode cX1_ninesOfBlocks 17 = .ok (.iload 5, 2) := by decide +kernel
theorem dX1_ninesOfBlocks_19 : decode cX1_ninesOfBlocks 19 = .ok (.aload_n 0, 1) := by decide +kernel
theorem dX1_ninesOfBlocks_20 : decode cX1_ninesOfBlocks 20 = .ok (.getfield 24, 3) := by decide +kernel
theorem dX1_ninesOfBlocks_23 : decode cX1_ninesOfBlocks 23 = .ok (.if_icmp .ge 35, 3) := by decide +kernel
theorem dX1_ninesOfBlocks_26 : decode cX1_ninesOfBlocks 26 = .ok (.iload_n 3, 1) := by decide +kernel
theorem dX1_ninesOfBlocks_27 : decode cX1_ninesOfBlocks 27 = .ok (.iload 5, 2) := by decide +kernel
theorem dX1_ninesOfBlocks_29 : decode cX1_ninesOfBlocks 29 = .ok (.iload_n 2, 1) := by decide +kernel
theorem dX1_ninesOfBlocks_30 : decode cX1_ninesOfBlocks 30 = .ok (.invokestatic 41, 3) := by decide +kernel
theorem dX1_ninesOfBlocks_33 : decode cX1_ninesOfBlocks 33 = .ok (.ifCond .ne 8, 3) := by decide +kernel
theorem dX1_ninesOfBlocks_36 : decode cX1_ninesOfBlocks 36 = .ok (.iload 4, 2) := by decide +kernel
theorem dX1_ninesOfBlocks_38 : decode cX1_ninesOfBlocks 38 = .ok (.goto 4, 3) := by decide +kernel
theorem dX1_ninesOfBlocks_41 : decode cX1_ninesOfBlocks 41 = .ok (.iconst 0, 1) := by decide +kernel
theorem dX1_ninesOfBlocks_42 : decode cX1_ninesOfBlocks 42 = .ok (.iadd, 1) := by decide +kernel
theorem dX1_ninesOfBlocks_43 : decode cX1_ninesOfBlocks 43 = .ok (.istore_n 3, 1) := by decide +kernel
theorem dX1_ninesOfBlocks_44 : decode cX1_ninesOfBlocks 44 = .ok (.aload_n 0, 1) := by decide +kernel
theorem dX1_ninesOfBlocks_45 : decode cX1_ninesOfBlocks 45 = .ok (.iload 4, 2) := by decide +kernel
theorem dX1_ninesOfBlocks_47 : decode cX1_ninesOfBlocks 47 = .ok (.invokevirtual 49, 3) := by decide +kernel
theorem dX1_ninesOfBlocks_50 : decode cX1_ninesOfBlocks 50 = .ok (.istore 4, 2) := by decide +kernel
theorem dX1_ninesOfBlocks_52 : decode cX1_ninesOfBlocks 52 = .ok (.iinc 5 1, 3) := by decide +kernel
theorem dX1_ninesOfBlocks_55 : decode cX1_ninesOfBlocks 55 = .ok (.goto (-38), 3) := by decide +kernel
theorem dX1_ninesOfBlocks_58 : decode cX1_ninesOfBlocks 58 = .ok (.iload_n 3, 1) := by decide +kernel
theorem dX1_ninesOfBlocks_59 : decode cX1_ninesOfBlocks 59 = .ok (.aload_n 0, 1) := by decide +kernel
theorem dX1_ninesOfBlocks_60 : decode cX1_ninesOfBlocks 60 = .ok (.getfield 15, 3) := by decide +kernel
theorem dX1_ninesOfBlocks_63 : decode cX1_ninesOfBlocks 63 = .ok (.invokestatic 41, 3) := by decide +kernel
theorem dX1_ninesOfBlocks_66 : decode cX1_ninesOfBlocks 66 = .ok (.ifCond .ne 17, 3) := by decide +kernel
theorem dX1_ninesOfBlocks_69 : decode cX1_ninesOfBlocks 69 = .ok (.iload_n 3, 1) := by decide +kernel
theorem dX1_ninesOfBlocks_70 : decode cX1_ninesOfBlocks 70 = .ok (.i2l, 1) := by decide +kernel
theorem dX1_ninesOfBlocks_71 : decode cX1_ninesOfBlocks 71 = .ok (.aload_n 0, 1) := by decide +kernel
theorem dX1_ninesOfBlocks_72 : decode cX1_ninesOfBlocks 72 = .ok (.getfield 15, 3) := by decide +kernel
theorem dX1_ninesOfBlocks_75 : decode cX1_ninesOfBlocks 75 = .ok (.i2l, 1) := by decide +kernel
theorem dX1_ninesOfBlocks_76 : decode cX1_ninesOfBlocks 76 = .ok (.invokestatic 53, 3) := by decide +kernel
theorem dX1_ninesOfBlocks_79 : decode cX1_ninesOfBlocks 79 = .ok (.l2i, 1) := by decide +kernel
theorem dX1_ninesOfBlocks_80 : decode cX1_ninesOfBlocks 80 = .ok (.goto 5, 3) := by decide +kernel
theorem dX1_ninesOfBlocks_83 : decode cX1_ninesOfBlocks 83 = .ok (.bipush (-2), 2) := by decide +kernel
theorem dX1_ninesOfBlocks_85 : decode cX1_ninesOfBlocks 85 = .ok (.ireturn, 1) := by decide +kernel
theorem dX1_turningRestTimes_0 : decode cX1_turningRestTimes 0 = .ok (.iload_n 1, 1) := by decide +kernel
theorem dX1_turningRestTimes_1 : decode cX1_turningRestTimes 1 = .ok (.aload_n 0, 1) := by decide +kernel
theorem dX1_turningRestTimes_2 : decode cX1_turningRestTimes 2 = .ok (.getfield 9, 3) := by decide +kernel
theorem dX1_turningRestTimes_5 : decode cX1_turningRestTimes 5 = .ok (.imul, 1) := by decide +kernel
theorem dX1_turningRestTimes_6 : decode cX1_turningRestTimes 6 = .ok (.aload_n 0, 1) := by decide +kernel
theorem dX1_turningRestTimes_7 : decode cX1_turningRestTimes 7 = .ok (.getfield 15, 3) := by decide +kernel
theorem dX1_turningRestTimes_10 : decode cX1_turningRestTimes 10 = .ok (.invokestatic 41, 3) := by decide +kernel
theorem dX1_turningRestTimes_13 : decode cX1_turningRestTimes 13 = .ok (.istore_n 2, 1) := by decide +kernel
theorem dX1_turningRestTimes_14 : decode cX1_turningRestTimes 14 = .ok (.iconst 0, 1) := by decide +kernel
theorem dX1_turningRestTimes_15 : decode cX1_turningRestTimes 15 = .ok (.istore_n 3, 1) := by decide +kernel
theorem dX1_turningRestTimes_16 : decode cX1_turningRestTimes 16 = .ok (.iload_n 3, 1) := by decide +kernel
theorem dX1_turningRestTimes_17 : decode cX1_turningRestTimes 17 = .ok (.aload_n 0, 1) := by decide +kernel
theorem dX1_turningRestTimes_18 : decode cX1_turningRestTimes 18 = .ok (.getfield 15, 3) := by decide +kernel
theorem dX1_turningRestTimes_21 : decode cX1_turningRestTimes 21 = .ok (.if_icmp .ge 23, 3) := by decide +kernel
theorem dX1_turningRestTimes_24 : decode cX1_turningRestTimes 24 = .ok (.aload_n 0, 1) := by decide +kernel
theorem dX1_turningRestTimes_25 : decode cX1_turningRestTimes 25 = .ok (.iload_n 2, 1) := by decide +kernel
theorem dX1_turningRestTimes_26 : decode cX1_turningRestTimes 26 = .ok (.invokevirtual 45, 3) := by decide +kernel
theorem dX1_turningRestTimes_29 : decode cX1_turningRestTimes 29 = .ok (.ifCond .ne 15, 3) := by decide +kernel
theorem dX1_turningRestTimes_32 : decode cX1_turningRestTimes 32 = .ok (.aload_n 0, 1) := by decide +kernel
theorem dX1_turningRestTimes_33 : decode cX1_turningRestTimes 33 = .ok (.iload_n 2, 1) := by decide +kernel
theorem dX1_turningRestTimes_34 : decode cX1_turningRestTimes 34 = .ok (.invokevirtual 49, 3) := by decide +kernel
theorem dX1_turningRestTimes_37 : decode cX1_turningRestTimes 37 = .ok (.istore_n 2, 1) := by decide +kernel
theorem dX1_turningRestTimes_38 : decode cX1_turningRestTimes 38 = .ok (.iinc 3 1, 3) := by decide +kernel
theorem dX1_turningRestTimes_41 : decode cX1_turningRestTimes 41 = .ok (.goto (-25), 3) := by decide +kernel
theorem dX1_turningRestTimes_44 : decode cX1_turningRestTimes 44 = .ok (.iload_n 2, 1) := by decide +kernel
theorem dX1_turningRestTimes_45 : decode cX1_turningRestTimes 45 = .ok (.ireturn, 1) := by decide +kernel
theorem dX1_placeInPeriod_0 : decode cX1_placeInPeriod 0 = .ok (.aload_n 0, 1) := by decide +kernel
theorem dX1_placeInPeriod_1 : decode cX1_placeInPeriod 1 = .ok (.getfield 27, 3) := by decide +kernel
theorem dX1_placeInPeriod_4 : decode cX1_placeInPeriod 4 = .ok (.istore_n 2, 1) := by decide +kernel
theorem dX1_placeInPeriod_5 : decode cX1_placeInPeriod 5 = .ok (.iconst 0, 1) := by decide +kernel
theorem dX1_placeInPeriod_6 : decode cX1_placeInPeriod 6 = .ok (.istore_n 3, 1) := by decide +kernel
theorem dX1_placeInPeriod_7 : decode cX1_placeInPeriod 7 = .ok (.iload_n 3, 1) := by decide +kernel
theorem dX1_placeInPeriod_8 : decode cX1_placeInPeriod 8 = .ok (.aload_n 0, 1) := by decide +kernel
theorem dX1_placeInPeriod_9 : decode cX1_placeInPeriod 9 = .ok (.getfield 24, 3) := by decide +kernel
theorem dX1_placeInPeriod_12 : decode cX1_placeInPeriod 12 = .ok (.if_icmp .ge 22, 3) := by decide +kernel
theorem dX1_placeInPeriod_15 : decode cX1_placeInPeriod 15 = .ok (.iload_n 2, 1) := by decide +kernel
theorem dX1_placeInPeriod_16 : decode cX1_placeInPeriod 16 = .ok (.iload_n 1, 1) := by decide +kernel
theorem dX1_placeInPeriod_17 : decode cX1_placeInPeriod 17 = .ok (.if_icmp .ne 5, 3) := by decide +kernel
theorem dX1_placeInPeriod_20 : decode cX1_placeInPeriod 20 = .ok (.iload_n 3, 1) := by decide +kernel
theorem dX1_placeInPeriod_21 : decode cX1_placeInPeriod 21 = .ok (.ireturn, 1) := by decide +kernel
theorem dX1_placeInPeriod_22 : decode cX1_placeInPeriod 22 = .ok (.aload_n 0, 1) := by decide +kernel
theorem dX1_placeInPeriod_23 : decode cX1_placeInPeriod 23 = .ok (.iload_n 2, 1) := by decide +kernel
theorem dX1_placeInPeriod_24 : decode cX1_placeInPeriod 24 = .ok (.invokevirtual 49, 3) := by decide +kernel
theorem dX1_placeInPeriod_27 : decode cX1_placeInPeriod 27 = .ok (.istore_n 2, 1) := by decide +kernel
theorem dX1_placeInPeriod_28 : decode cX1_placeInPeriod 28 = .ok (.iinc 3 1, 3) := by decide +kernel
theorem dX1_placeInPeriod_31 : decode cX1_placeInPeriod 31 = .ok (.goto (-24), 3) := by decide +kernel
theorem dX1_placeInPeriod_34 : decode cX1_placeInPeriod 34 = .ok (.bipush (-2), 2) := by decide +kernel
theorem dX1_placeInPeriod_36 : decode cX1_placeInPeriod 36 = .ok (.ireturn, 1) := by decide +kernel
theorem dX1_spelledLength_0 : decode cX1_spelledLength 0 = .ok (.aload_n 0, 1) := by decide +kernel
theorem dX1_spelledLength_1 : decode cX1_spelledLength 1 = .ok (.invokevirtual 70, 3) := by decide +kernel
theorem dX1_spelledLength_4 : decode cX1_spelledLength 4 = .ok (.istore_n 1, 1) := by decide +kernel
theorem dX1_spelledLength_5 : decode cX1_spelledLength 5 = .ok (.aload_n 0, 1) := by decide +kernel
theorem dX1_spelledLength_6 : decode cX1_spelledLength 6 = .ok (.getfield 9, 3) := by decide +kernel
theorem dX1_spelledLength_9 : decode cX1_spelledLength 9 = .ok (.aload_n 0, 1) := by decide +kernel
theorem dX1_spelledLength_10 : decode cX1_spelledLength 10 = .ok (.getfield 15, 3) := by decide +kernel
theorem dX1_spelledLength_13 : decode cX1_spelledLength 13 = .ok (.invokestatic 41, 3) := by decide +kernel
theorem dX1_spelledLength_16 : decode cX1_spelledLength 16 = .ok (.ifCond .eq 12, 3) := by decide +kernel
theorem dX1_spelledLength_19 : decode cX1_spelledLength 19 = .ok (.iload_n 1, 1) := by decide +kernel
theorem dX1_spelledLength_20 : decode cX1_spelledLength 20 = .ok (.iconst 1, 1) := by decide +kernel
theorem dX1_spelledLength_21 : decode cX1_spelledLength 21 = .ok (.aload_n 0, 1) := by decide +kernel
theorem dX1_spelledLength_22 : decode cX1_spelledLength 22 = .ok (.getfield 21, 3) := by decide +kernel
theorem dX1_spelledLength_25 : decode cX1_spelledLength 25 = .ok (.iadd, 1) := by decide +kernel
theorem dX1_spelledLength_26 : decode cX1_spelledLength 26 = .ok (.iadd, 1) := by decide +kernel
theorem dX1_spelledLength_27 : decode cX1_spelledLength 27 = .ok (.istore_n 1, 1) := by decide +kernel
theorem dX1_spelledLength_28 : decode cX1_spelledLength 28 = .ok (.aload_n 0, 1) := by decide +kernel
theorem dX1_spelledLength_29 : decode cX1_spelledLength 29 = .ok (.invokevirtual 56, 3) := by decide +kernel
theorem dX1_spelledLength_32 : decode cX1_spelledLength 32 = .ok (.ifCond .ne 12, 3) := by decide +kernel
theorem dX1_spelledLength_35 : decode cX1_spelledLength 35 = .ok (.iload_n 1, 1) := by decide +kernel
theorem dX1_spelledLength_36 : decode cX1_spelledLength 36 = .ok (.iconst 2, 1) := by decide +kernel
theorem dX1_spelledLength_37 : decode cX1_spelledLength 37 = .ok (.aload_n 0, 1) := by decide +kernel
theorem dX1_spelledLength_38 : decode cX1_spelledLength 38 = .ok (.getfield 24, 3) := by decide +kernel
theorem dX1_spelledLength_41 : decode cX1_spelledLength 41 = .ok (.iadd, 1) := by decide +kernel
theorem dX1_spelledLength_42 : decode cX1_spelledLength 42 = .ok (.iadd, 1) := by decide +kernel
theorem dX1_spelledLength_43 : decode cX1_spelledLength 43 = .ok (.istore_n 1, 1) := by decide +kernel
theorem dX1_spelledLength_44 : decode cX1_spelledLength 44 = .ok (.iload_n 1, 1) := by decide +kernel
theorem dX1_spelledLength_45 : decode cX1_spelledLength 45 = .ok (.ireturn, 1) := by decide +kernel
theorem dX1_spelledByte_0 : decode cX1_spelledByte 0 = .ok (.aload_n 0, 1) := by decide +kernel
theorem dX1_spelledByte_1 : decode cX1_spelledByte 1 = .ok (.invokevirtual 70, 3) := by decide +kernel
theorem dX1_spelledByte_4 : decode cX1_spelledByte 4 = .ok (.istore_n 2, 1) := by decide +kernel
theorem dX1_spelledByte_5 : decode cX1_spelledByte 5 = .ok (.iload_n 1, 1) := by decide +kernel
theorem dX1_spelledByte_6 : decode cX1_spelledByte 6 = .ok (.iload_n 2, 1) := by decide +kernel
theorem dX1_spelledByte_7 : decode cX1_spelledByte 7 = .ok (.if_icmp .ge 16, 3) := by decide +kernel
theorem dX1_spelledByte_10 : decode cX1_spelledByte 10 = .ok (.aload_n 0, 1) := by decide +kernel
theorem dX1_spelledByte_11 : decode cX1_spelledByte 11 = .ok (.iload_n 2, 1) := by decide +kernel
theorem dX1_spelledByte_12 : decode cX1_spelledByte 12 = .ok (.iconst 1, 1) := by decide +kernel
theorem dX1_spelledByte_13 : decode cX1_spelledByte 13 = .ok (.isub, 1) := by decide +kernel
theorem dX1_spelledByte_14 : decode cX1_spelledByte 14 = .ok (.iload_n 1, 1) := by decide +kernel
theorem dX1_spelledByte_15 : decode cX1_spelledByte 15 = .ok (.isub, 1) := by decide +kernel
theorem dX1_spelledByte_16 : decode cX1_spelledByte 16 = .ok (.invokevirtual 74, 3) := by decide +kernel
theorem dX1_spelledByte_19 : decode cX1_spelledByte 19 = .ok (.invokestatic 77, 3) := by decide +kernel
theorem dX1_spelledByte_22 : decode cX1_spelledByte 22 = .ok (.ireturn, 1) := by decide +kernel
theorem dX1_spelledByte_23 : decode cX1_spelledByte 23 = .ok (.iload_n 1, 1) := by decide +kernel
theorem dX1_spelledByte_24 : decode cX1_spelledByte 24 = .ok (.iload_n 2, 1) := by decide +kernel
theorem dX1_spelledByte_25 : decode cX1_spelledByte 25 = .ok (.if_icmp .ne 6, 3) := by decide +kernel
theorem dX1_spelledByte_28 : decode cX1_spelledByte 28 = .ok (.bipush 46, 2) := by decide +kernel
theorem dX1_spelledByte_30 : decode cX1_spelledByte 30 = .ok (.ireturn, 1) := by decide +kernel
theorem dX1_spelledByte_31 : decode cX1_spelledByte 31 = .ok (.iload_n 1, 1) := by decide +kernel
theorem dX1_spelledByte_32 : decode cX1_spelledByte 32 = .ok (.iload_n 2, 1) := by decide +kernel
theorem dX1_spelledByte_33 : decode cX1_spelledByte 33 = .ok (.isub, 1) := by decide +kernel
theorem dX1_spelledByte_34 : decode cX1_spelledByte 34 = .ok (.iconst 1, 1) := by decide +kernel
theorem dX1_spelledByte_35 : decode cX1_spelledByte 35 = .ok (.isub, 1) := by decide +kernel
theorem dX1_spelledByte_36 : decode cX1_spelledByte 36 = .ok (.istore_n 3, 1) := by decide +kernel
theorem dX1_spelledByte_37 : decode cX1_spelledByte 37 = .ok (.iload_n 3, 1) := by decide +kernel
theorem dX1_spelledByte_38 : decode cX1_spelledByte 38 = .ok (.aload_n 0, 1) := by decide +kernel
theorem dX1_spelledByte_39 : decode cX1_spelledByte 39 = .ok (.getfield 21, 3) := by decide +kernel
theorem dX1_spelledByte_42 : decode cX1_spelledByte 42 = .ok (.if_icmp .ge 16, 3) := by decide +kernel
theorem dX1_spelledByte_45 : decode cX1_spelledByte 45 = .ok (.aload_n 0, 1) := by decide +kernel
theorem dX1_spelledByte_46 : decode cX1_spelledByte 46 = .ok (.aload_n 0, 1) := by decide +kernel
theorem dX1_spelledByte_47 : decode cX1_spelledByte 47 = .ok (.iload_n 3, 1) := by decide +kernel
theorem dX1_spelledByte_48 : decode cX1_spelledByte 48 = .ok (.invokevirtual 80, 3) := by decide +kernel
theorem dX1_spelledByte_51 : decode cX1_spelledByte 51 = .ok (.invokevirtual 60, 3) := by decide +kernel
theorem dX1_spelledByte_54 : decode cX1_spelledByte 54 = .ok (.invokestatic 77, 3) := by decide +kernel
theorem dX1_spelledByte_57 : decode cX1_spelledByte 57 = .ok (.ireturn, 1) := by decide +kernel
theorem dX1_spelledByte_58 : decode cX1_spelledByte 58 = .ok (.iload_n 3, 1) := by decide +kernel
theorem dX1_spelledByte_59 : decode cX1_spelledByte 59 = .ok (.aload_n 0, 1) := by decide +kernel
theorem dX1_spelledByte_60 : decode cX1_spelledByte 60 = .ok (.getfield 21, 3) := by decide +kernel
theorem dX1_spelledByte_63 : decode cX1_spelledByte 63 = .ok (.if_icmp .ne 6, 3) := by decide +kernel
theorem dX1_spelledByte_66 : decode cX1_spelledByte 66 = .ok (.bipush 40, 2) := by decide +kernel
theorem dX1_spelledByte_68 : decode cX1_spelledByte 68 = .ok (.ireturn, 1) := by decide +kernel
theorem dX1_spelledByte_69 : decode cX1_spelledByte 69 = .ok (.iload_n 3, 1) := by decide +kernel
theorem dX1_spelledByte_70 : decode cX1_spelledByte 70 = .ok (.aload_n 0, 1) := by decide +kernel
theorem dX1_spelledByte_71 : decode cX1_spelledByte 71 = .ok (.getfield 21, 3) := by decide +kernel
theorem dX1_spelledByte_74 : decode cX1_spelledByte 74 = .ok (.aload_n 0, 1) := by decide +kernel
theorem dX1_spelledByte_75 : decode cX1_spelledByte 75 = .ok (.getfield 24, 3) := by decide +kernel
theorem dX1_spelledByte_78 : decode cX1_spelledByte 78 = .ok (.iadd, 1) := by decide +kernel
theorem dX1_spelledByte_79 : decode cX1_spelledByte 79 = .ok (.if_icmp .gt 20, 3) := by decide +kernel
theorem dX1_spelledByte_82 : decode cX1_spelledByte 82 = .ok (.aload_n 0, 1) := by decide +kernel
theorem dX1_spelledByte_83 : decode cX1_spelledByte 83 = .ok (.aload_n 0, 1) := by decide +kernel
theorem dX1_spelledByte_84 : decode cX1_spelledByte 84 = .ok (.iload_n 3, 1) := by decide +kernel
theorem dX1_spelledByte_85 : decode cX1_spelledByte 85 = .ok (.iconst 1, 1) := by decide +kernel
theorem dX1_spelledByte_86 : decode cX1_spelledByte 86 = .ok (.isub, 1) := by decide +kernel
theorem dX1_spelledByte_87 : decode cX1_spelledByte 87 = .ok (.invokevirtual 80, 3) := by decide +kernel
theorem dX1_spelledByte_90 : decode cX1_spelledByte 90 = .ok (.invokevirtual 60, 3) := by decide +kernel
theorem dX1_spelledByte_93 : decode cX1_spelledByte 93 = .ok (.invokestatic 77, 3) := by decide +kernel
theorem dX1_spelledByte_96 : decode cX1_spelledByte 96 = .ok (.goto 5, 3) := by decide +kernel
theorem dX1_spelledByte_99 : decode cX1_spelledByte 99 = .ok (.bipush 41, 2) := by decide +kernel
theorem dX1_spelledByte_101 : decode cX1_spelledByte 101 = .ok (.ireturn, 1) := by decide +kernel
theorem dX1_wholeDigits_0 : decode cX1_wholeDigits 0 = .ok (.aload_n 0, 1) := by decide +kernel
theorem dX1_wholeDigits_1 : decode cX1_wholeDigits 1 = .ok (.invokevirtual 83, 3) := by decide +kernel
theorem dX1_wholeDigits_4 : decode cX1_wholeDigits 4 = .ok (.i2l, 1) := by decide +kernel
theorem dX1_wholeDigits_5 : decode cX1_wholeDigits 5 = .ok (.aload_n 0, 1) := by decide +kernel
theorem dX1_wholeDigits_6 : decode cX1_wholeDigits 6 = .ok (.getfield 18, 3) := by decide +kernel
theorem dX1_wholeDigits_9 : decode cX1_wholeDigits 9 = .ok (.i2l, 1) := by decide +kernel
theorem dX1_wholeDigits_10 : decode cX1_wholeDigits 10 = .ok (.invokestatic 53, 3) := by decide +kernel
theorem dX1_wholeDigits_13 : decode cX1_wholeDigits 13 = .ok (.lstore_n 1, 1) := by decide +kernel
theorem dX1_wholeDigits_14 : decode cX1_wholeDigits 14 = .ok (.iconst 1, 1) := by decide +kernel
theorem dX1_wholeDigits_15 : decode cX1_wholeDigits 15 = .ok (.istore_n 3, 1) := by decide +kernel
theorem dX1_wholeDigits_16 : decode cX1_wholeDigits 16 = .ok (.lload_n 1, 1) := by decide +kernel
theorem dX1_wholeDigits_17 : decode cX1_wholeDigits 17 = .ok (.lconst 0, 1) := by decide +kernel
theorem dX1_wholeDigits_18 : decode cX1_wholeDigits 18 = .ok (.lcmp, 1) := by decide +kernel
theorem dX1_wholeDigits_19 : decode cX1_wholeDigits 19 = .ok (.ifCond .le 26, 3) := by decide +kernel
theorem dX1_wholeDigits_22 : decode cX1_wholeDigits 22 = .ok (.iload_n 3, 1) := by decide +kernel
theorem dX1_wholeDigits_23 : decode cX1_wholeDigits 23 = .ok (.sipush 1000, 3) := by decide +kernel
theorem dX1_wholeDigits_26 : decode cX1_wholeDigits 26 = .ok (.if_icmp .ge 19, 3) := by decide +kernel
theorem dX1_wholeDigits_29 : decode cX1_wholeDigits 29 = .ok (.lload_n 1, 1) := by decide +kernel
theorem dX1_wholeDigits_30 : decode cX1_wholeDigits 30 = .ok (.aload_n 0, 1) := by decide +kernel
theorem dX1_wholeDigits_31 : decode cX1_wholeDigits 31 = .ok (.getfield 18, 3) := by decide +kernel
theorem dX1_wholeDigits_34 : decode cX1_wholeDigits 34 = .ok (.i2l, 1) := by decide +kernel
theorem dX1_wholeDigits_35 : decode cX1_wholeDigits 35 = .ok (.invokestatic 53, 3) := by decide +kernel
theorem dX1_wholeDigits_38 : decode cX1_wholeDigits 38 = .ok (.lstore_n 1, 1) := by decide +kernel
theorem dX1_wholeDigits_39 : decode cX1_wholeDigits 39 = .ok (.iinc 3 1, 3) := by decide +kernel
theorem dX1_wholeDigits_42 : decode cX1_wholeDigits 42 = .ok (.goto (-26), 3) := by decide +kernel
theorem dX1_wholeDigits_45 : decode cX1_wholeDigits 45 = .ok (.iload_n 3, 1) := by decide +kernel
theorem dX1_wholeDigits_46 : decode cX1_wholeDigits 46 = .ok (.ireturn, 1) := by decide +kernel
theorem dX1_wholeDigit_0 : decode cX1_wholeDigit 0 = .ok (.aload_n 0, 1) := by decide +kernel
theorem dX1_wholeDigit_1 : decode cX1_wholeDigit 1 = .ok (.invokevirtual 83, 3) := by decide +kernel
theorem dX1_wholeDigit_4 : decode cX1_wholeDigit 4 = .ok (.i2l, 1) := by decide +kernel
theorem dX1_wholeDigit_5 : decode cX1_wholeDigit 5 = .ok (.lstore_n 2, 1) := by decide +kernel
theorem dX1_wholeDigit_6 : decode cX1_wholeDigit 6 = .ok (.iconst 0, 1) := by decide +kernel
theorem dX1_wholeDigit_7 : decode cX1_wholeDigit 7 = .ok (.istore 4, 2) := by decide +kernel
theorem dX1_wholeDigit_9 : decode cX1_wholeDigit 9 = .ok (.iload 4, 2) := by decide +kernel
theorem dX1_wholeDigit_11 : decode cX1_wholeDigit 11 = .ok (.iload_n 1, 1) := by decide +kernel
theorem dX1_wholeDigit_12 : decode cX1_wholeDigit 12 = .ok (.if_icmp .ge 19, 3) := by decide +kernel
theorem dX1_wholeDigit_15 : decode cX1_wholeDigit 15 = .ok (.lload_n 2, 1) := by decide +kernel
theorem dX1_wholeDigit_16 : decode cX1_wholeDigit 16 = .ok (.aload_n 0, 1) := by decide +kernel
theorem dX1_wholeDigit_17 : decode cX1_wholeDigit 17 = .ok (.getfield 18, 3) := by decide +kernel
theorem dX1_wholeDigit_20 : decode cX1_wholeDigit 20 = .ok (.i2l, 1) := by decide +kernel
theorem dX1_wholeDigit_21 : decode cX1_wholeDigit 21 = .ok (.invokestatic 53, 3) := by decide +kernel
theorem dX1_wholeDigit_24 : decode cX1_wholeDigit 24 = .ok (.lstore_n 2, 1) := by decide +kernel
theorem dX1_wholeDigit_25 : decode cX1_wholeDigit 25 = .ok (.iinc 4 1, 3) := by decide +kernel
theorem dX1_wholeDigit_28 : decode cX1_wholeDigit 28 = .ok (.goto (-19), 3) := by decide +kernel
theorem dX1_wholeDigit_31 : decode cX1_wholeDigit 31 = .ok (.lload_n 2, 1) := by decide +kernel
theorem dX1_wholeDigit_32 : decode cX1_wholeDigit 32 = .ok (.l2i, 1) := by decide +kernel
theorem dX1_wholeDigit_33 : decode cX1_wholeDigit 33 = .ok (.aload_n 0, 1) := by decide +kernel
theorem dX1_wholeDigit_34 : decode cX1_wholeDigit 34 = .ok (.getfield 18, 3) := by decide +kernel
theorem dX1_wholeDigit_37 : decode cX1_wholeDigit 37 = .ok (.invokestatic 41, 3) := by decide +kernel
theorem dX1_wholeDigit_40 : decode cX1_wholeDigit 40 = .ok (.ireturn, 1) := by decide +kernel
theorem dX1_signOf_0 : decode cX1_signOf 0 = .ok (.iload_n 0, 1) := by decide +kernel
theorem dX1_signOf_1 : decode cX1_signOf 1 = .ok (.bipush 10, 2) := by decide +kernel
theorem dX1_signOf_3 : decode cX1_signOf 3 = .ok (.if_icmp .ge 10, 3) := by decide +kernel
theorem dX1_signOf_6 : decode cX1_signOf 6 = .ok (.bipush 48, 2) := by decide +kernel
theorem dX1_signOf_8 : decode cX1_signOf 8 = .ok (.iload_n 0, 1) := by decide +kernel
theorem dX1_signOf_9 : decode cX1_signOf 9 = .ok (.iadd, 1) := by decide +kernel
theorem dX1_signOf_10 : decode cX1_signOf 10 = .ok (.goto 10, 3) := by decide +kernel
theorem dX1_signOf_13 : decode cX1_signOf 13 = .ok (.bipush 97, 2) := by decide +kernel
theorem dX1_signOf_15 : decode cX1_signOf 15 = .ok (.iload_n 0, 1) := by decide +kernel
theorem dX1_signOf_16 : decode cX1_signOf 16 = .ok (.iadd, 1) := by decide +kernel
theorem dX1_signOf_17 : decode cX1_signOf 17 = .ok (.bipush 10, 2) := by decide +kernel
theorem dX1_signOf_19 : decode cX1_signOf 19 = .ok (.isub, 1) := by decide +kernel
theorem dX1_signOf_20 : decode cX1_signOf 20 = .ok (.ireturn, 1) := by decide +kernel
theorem dX2_init_0 : decode cX2_init 0 = .ok (.aload_n 0, 1) := by decide +kernel
theorem dX2_init_1 : decode cX2_init 1 = .ok (.invokespecial 3, 3) := by decide +kernel
theorem dX2_init_4 : decode cX2_init 4 = .ok (.aload_n 0, 1) := by decide +kernel
theorem dX2_init_5 : decode cX2_init 5 = .ok (.iconst 0, 1) := by decide +kernel
theorem dX2_init_6 : decode cX2_init 6 = .ok (.putfield 9, 3) := by decide +kernel
theorem dX2_init_9 : decode cX2_init 9 = .ok (.aload_n 0, 1) := by decide +kernel
theorem dX2_init_10 : decode cX2_init 10 = .ok (.new 15, 3) := by decide +kernel
theorem dX2_init_13 : decode cX2_init 13 = .ok (.dup, 1) := by decide +kernel
theorem dX2_init_14 : decode cX2_init 14 = .ok (.invokespecial 17, 3) := by decide +kernel
theorem dX2_init_17 : decode cX2_init 17 = .ok (.putfield 18, 3) := by decide +kernel
theorem dX2_init_20 : decode cX2_init 20 = .ok (.aload_n 0, 1) := by decide +kernel
theorem dX2_init_21 : decode cX2_init 21 = .ok (.bipush 40, 2) := by decide +kernel
theorem dX2_init_23 : decode cX2_init 23 = .ok (.newarray .int, 2) := by decide +kernel
theorem dX2_init_25 : decode cX2_init 25 = .ok (.putfield 22, 3) := by decide +kernel
theorem dX2_init_28 : decode cX2_init 28 = .ok (.aload_n 0, 1) := by decide +kernel
theorem dX2_init_29 : decode cX2_init 29 = .ok (.iconst 0, 1) := by decide +kernel
theorem dX2_init_30 : decode cX2_init 30 = .ok (.putfield 26, 3) := by decide +kernel
theorem dX2_init_33 : decode cX2_init 33 = .ok (.return_, 1) := by decide +kernel
theorem dX2_holdFraction_0 : decode cX2_holdFraction 0 = .ok (.aload_n 0, 1) := by decide +kernel
theorem dX2_holdFraction_1 : decode cX2_holdFraction 1 = .ok (.iconst 1, 1) := by decide +kernel
theorem dX2_holdFraction_2 : decode cX2_holdFraction 2 = .ok (.putfield 9, 3) := by decide +kernel
theorem dX2_holdFraction_5 : decode cX2_holdFraction 5 = .ok (.aload_n 0, 1) := by decide +kernel
theorem dX2_holdFraction_6 : decode cX2_holdFraction 6 = .ok (.getfield 18, 3) := by decide +kernel
theorem dX2_holdFraction_9 : decode cX2_holdFraction 9 = .ok (.aload_n 1, 1) := by decide +kernel
theorem dX2_holdFraction_10 : decode cX2_holdFraction 10 = .ok (.invokevirtual 29, 3) := by decide +kernel
theorem dX2_holdFraction_13 : decode cX2_holdFraction 13 = .ok (.return_, 1) := by decide +kernel
theorem dX2_holdRow_0 : decode cX2_holdRow 0 = .ok (.aload_n 0, 1) := by decide +kernel
theorem dX2_holdRow_1 : decode cX2_holdRow 1 = .ok (.iconst 2, 1) := by decide +kernel
theorem dX2_holdRow_2 : decode cX2_holdRow 2 = .ok (.putfield 9, 3) := by decide +kernel
theorem dX2_holdRow_5 : decode cX2_holdRow 5 = .ok (.aload_n 0, 1) := by decide +kernel
theorem dX2_holdRow_6 : decode cX2_holdRow 6 = .ok (.iload_n 1, 1) := by decide +kernel
theorem dX2_holdRow_7 : decode cX2_holdRow 7 = .ok (.putfield 26, 3) := by decide +kernel
theorem dX2_holdRow_10 : decode cX2_holdRow 10 = .ok (.iconst 0, 1) := by decide +kernel
theorem dX2_holdRow_11 : decode cX2_holdRow 11 = .ok (.istore_n 2, 1) := by decide +kernel
theorem dX2_holdRow_12 : decode cX2_holdRow 12 = .ok (.iload_n 2, 1) := by decide +kernel
theorem dX2_holdRow_13 : decode cX2_holdRow 13 = .ok (.iload_n 1, 1) := by decide +kernel
theorem dX2_holdRow_14 : decode cX2_holdRow 14 = .ok (.if_icmp .ge 18, 3) := by decide +kernel
theorem dX2_holdRow_17 : decode cX2_holdRow 17 = .ok (.aload_n 0, 1) := by decide +kernel
theorem dX2_holdRow_18 : decode cX2_holdRow 18 = .ok (.getfield 22, 3) := by decide +kernel
theorem dX2_holdRow_21 : decode cX2_holdRow 21 = .ok (.iload_n 2, 1) := by decide +kernel
theorem dX2_holdRow_22 : decode cX2_holdRow 22 = .ok (.iconst 0, 1) := by decide +kernel
theorem dX2_holdRow_23 : decode cX2_holdRow 23 = .ok (.invokestatic 33, 3) := by decide +kernel
theorem dX2_holdRow_26 : decode cX2_holdRow 26 = .ok (.iinc 2 1, 3) := by decide +kernel
theorem dX2_holdRow_29 : decode cX2_holdRow 29 = .ok (.goto (-17), 3) := by decide +kernel
theorem dX2_holdRow_32 : decode cX2_holdRow 32 = .ok (.return_, 1) := by decide +kernel
theorem dX2_refusalAs_0 : decode cX2_refusalAs 0 = .ok (.aload_n 0, 1) := by decide +kernel
theorem dX2_refusalAs_1 : decode cX2_refusalAs 1 = .ok (.getfield 9, 3) := by decide +kernel
theorem dX2_refusalAs_4 : decode cX2_refusalAs 4 = .ok (.ifCond .ne 6, 3) := by decide +kernel
theorem dX2_refusalAs_7 : decode cX2_refusalAs 7 = .ok (.bipush (-11), 2) := by decide +kernel
theorem dX2_refusalAs_9 : decode cX2_refusalAs 9 = .ok (.ireturn, 1) := by decide +kernel
theorem dX2_refusalAs_10 : decode cX2_refusalAs 10 = .ok (.aload_n 0, 1) := by decide +kernel
theorem dX2_refusalAs_11 : decode cX2_refusalAs 11 = .ok (.getfield 9, 3) := by decide +kernel
theorem dX2_refusalAs_14 : decode cX2_refusalAs 14 = .ok (.iload_n 1, 1) := by decide +kernel
theorem dX2_refusalAs_15 : decode cX2_refusalAs 15 = .ok (.if_icmp .ne 7, 3) := by decide +kernel
theorem dX2_refusalAs_18 : decode cX2_refusalAs 18 = .ok (.iconst 0, 1) := by decide +kernel
theorem dX2_refusalAs_19 : decode cX2_refusalAs 19 = .ok (.goto 5, 3) := by decide +kernel
theorem dX2_refusalAs_22 : decode cX2_refusalAs 22 = .ok (.bipush (-12), 2) := by decide +kernel
theorem dX2_refusalAs_24 : decode cX2_refusalAs 24 = .ok (.ireturn, 1) := by decide +kernel
theorem dX2_hasPlace_0 : decode cX2_hasPlace 0 = .ok (.iload_n 1, 1) := by decide +kernel
theorem dX2_hasPlace_1 : decode cX2_hasPlace 1 = .ok (.iconst 0, 1) := by decide +kernel
theorem dX2_hasPlace_2 : decode cX2_hasPlace 2 = .ok (.aload_n 0, 1) := by decide +kernel
theorem dX2_hasPlace_3 : decode cX2_hasPlace 3 = .ok (.getfield 26, 3) := by decide +kernel
theorem dX2_hasPlace_6 : decode cX2_hasPlace 6 = .ok (.iconst 1, 1) := by decide +kernel
theorem dX2_hasPlace_7 : decode cX2_hasPlace 7 = .ok (.isub, 1) := by decide +kernel
theorem dX2_hasPlace_8 : decode cX2_hasPlace 8 = .ok (.invokestatic 37, 3) := by decide +kernel
theorem dX2_hasPlace_11 : decode cX2_hasPlace 11 = .ok (.ireturn, 1) := by decide +kernel
theorem dX2_firstUnlike_0 : decode cX2_firstUnlike 0 = .ok (.aload_n 1, 1) := by decide +kernel
theorem dX2_firstUnlike_1 : decode cX2_firstUnlike 1 = .ok (.iconst 0, 1) := by decide +kernel
theorem dX2_firstUnlike_2 : decode cX2_firstUnlike 2 = .ok (.invokevirtual 41, 3) := by decide +kernel
theorem dX2_firstUnlike_5 : decode cX2_firstUnlike 5 = .ok (.istore_n 2, 1) := by decide +kernel
theorem dX2_firstUnlike_6 : decode cX2_firstUnlike 6 = .ok (.iconst 0, 1) := by decide +kernel
theorem dX2_firstUnlike_7 : decode cX2_firstUnlike 7 = .ok (.istore_n 3, 1) := by decide +kernel
theorem dX2_firstUnlike_8 : decode cX2_firstUnlike 8 = .ok (.iload_n 3, 1) := by decide +kernel
theorem dX2_firstUnlike_9 : decode cX2_firstUnlike 9 = .ok (.aload_n 0, 1) := by decide +kernel
theorem dX2_firstUnlike_10 : decode cX2_firstUnlike 10 = .ok (.getfield 26, 3) := by decide +kernel
theorem dX2_firstUnlike_13 : decode cX2_firstUnlike 13 = .ok (.if_icmp .ge 33, 3) := by decide +kernel
theorem dX2_firstUnlike_16 : decode cX2_firstUnlike 16 = .ok (.aload_n 0, 1) := by decide +kernel
theorem dX2_firstUnlike_17 : decode cX2_firstUnlike 17 = .ok (.getfield 22, 3) := by decide +kernel
theorem dX2_firstUnlike_20 : decode cX2_firstUnlike 20 = .ok (.iload_n 3, 1) := by decide +kernel
theorem dX2_firstUnlike_21 : decode cX2_firstUnlike 21 = .ok (.invokestatic 45, 3) := by decide +kernel
theorem dX2_firstUnlike_24 : decode cX2_firstUnlike 24 = .ok (.aload_n 1, 1) := by decide +kernel
theorem dX2_firstUnlike_25 : decode cX2_firstUnlike 25 = .ok (.iload_n 2, 1) := by decide +kernel
theorem dX2_firstUnlike_26 : decode cX2_firstUnlike 26 = .ok (.invokevirtual 49, 3) := by decide +kernel
theorem dX2_firstUnlike_29 : decode cX2_firstUnlike 29 = .ok (.if_icmp .eq 5, 3) := by decide +kernel
theorem dX2_firstUnlike_32 : decode cX2_firstUnlike 32 = .ok (.iload_n 3, 1) := by decide +kernel
theorem dX2_firstUnlike_33 : decode cX2_firstUnlike 33 = .ok (.ireturn, 1) := by decide +kernel
theorem dX2_firstUnlike_34 : decode cX2_firstUnlike 34 = .ok (.aload_n 1, 1) := by decide +kernel
theorem dX2_firstUnlike_35 : decode cX2_firstUnlike 35 = .ok (.iload_n 2, 1) := by decide +kernel
theorem dX2_firstUnlike_36 : decode cX2_firstUnlike 36 = .ok (.invokevirtual 52, 3) := by decide +kernel
theorem dX2_firstUnlike_39 : decode cX2_firstUnlike 39 = .ok (.istore_n 2, 1) := by decide +kernel
theorem dX2_firstUnlike_40 : decode cX2_firstUnlike 40 = .ok (.iinc 3 1, 3) := by decide +kernel
theorem dX2_firstUnlike_43 : decode cX2_firstUnlike 43 = .ok (.goto (-35), 3) := by decide +kernel
theorem dX2_firstUnlike_46 : decode cX2_firstUnlike 46 = .ok (.bipush (-2), 2) := by decide +kernel
theorem dX2_firstUnlike_48 : decode cX2_firstUnlike 48 = .ok (.ireturn, 1) := by decide +kernel
theorem dX3_init_0 : decode cX3_init 0 = .ok (.aload_n 0, 1) := by decide +kernel
theorem dX3_init_1 : decode cX3_init 1 = .ok (.invokespecial 3, 3) := by decide +kernel
theorem dX3_init_4 : decode cX3_init 4 = .ok (.aload_n 0, 1) := by decide +kernel
theorem dX3_init_5 : decode cX3_init 5 = .ok (.lconst 0, 1) := by decide +kernel
theorem dX3_init_6 : decode cX3_init 6 = .ok (.putfield 9, 3) := by decide +kernel
theorem dX3_init_9 : decode cX3_init 9 = .ok (.aload_n 0, 1) := by decide +kernel
theorem dX3_init_10 : decode cX3_init 10 = .ok (.lconst 1, 1) := by decide +kernel
theorem dX3_init_11 : decode cX3_init 11 = .ok (.putfield 15, 3) := by decide +kernel
theorem dX3_init_14 : decode cX3_init 14 = .ok (.return_, 1) := by decide +kernel
theorem dX3_parse_0 : decode cX3_parse 0 = .ok (.aload_n 1, 1) := by decide +kernel
theorem dX3_parse_1 : decode cX3_parse 1 = .ok (.iconst 0, 1) := by decide +kernel
theorem dX3_parse_2 : decode cX3_parse 2 = .ok (.putfield 18, 3) := by decide +kernel
theorem dX3_parse_5 : decode cX3_parse 5 = .ok (.aload_n 1, 1) := by decide +kernel
theorem dX3_parse_6 : decode cX3_parse 6 = .ok (.lconst 0, 1) := by decide +kernel
theorem dX3_parse_7 : decode cX3_parse 7 = .ok (.putfield 24, 3) := by decide +kernel
theorem dX3_parse_10 : decode cX3_parse 10 = .ok (.aload_n 0, 1) := by decide +kernel
theorem dX3_parse_11 : decode cX3_parse 11 = .ok (.lconst 1, 1) := by decide +kernel
theorem dX3_parse_12 : decode cX3_parse 12 = .ok (.putfield 15, 3) := by decide +kernel
theorem dX3_parse_15 : decode cX3_parse 15 = .ok (.aload_n 1, 1) := by decide +kernel
theorem dX3_parse_16 : decode cX3_parse 16 = .ok (.iload_n 2, 1) := by decide +kernel
theorem dX3_parse_17 : decode cX3_parse 17 = .ok (.invokevirtual 27, 3) := by decide +kernel
theorem dX3_parse_20 : decode cX3_parse 20 = .ok (.ifCond .ne 8, 3) := by decide +kernel
theorem dX3_parse_23 : decode cX3_parse 23 = .ok (.aload_n 1, 1) := by decide +kernel
theorem dX3_parse_24 : decode cX3_parse 24 = .ok (.getfield 18, 3) := by decide +kernel
theorem dX3_parse_27 : decode cX3_parse 27 = .ok (.ireturn, 1) := by decide +kernel
theorem dX3_parse_28 : decode cX3_parse 28 = .ok (.iconst 0, 1) := by decide +kernel
theorem dX3_parse_29 : decode cX3_parse 29 = .ok (.istore_n 3, 1) := by decide +kernel
theorem dX3_parse_30 : decode cX3_parse 30 = .ok (.aload_n 1, 1) := by decide +kernel
theorem dX3_parse_31 : decode cX3_parse 31 = .ok (.bipush 46, 2) := by decide +kernel
theorem dX3_parse_33 : decode cX3_parse 33 = .ok (.invokevirtual 31, 3) := by decide +kernel
theorem dX3_parse_36 : decode cX3_parse 36 = .ok (.ifCond .eq 41, 3) := by decide +kernel
theorem dX3_parse_39 : decode cX3_parse 39 = .ok (.aload_n 1, 1) := by decide +kernel
theorem dX3_parse_40 : decode cX3_parse 40 = .ok (.iload_n 2, 1) := by decide +kernel
theorem dX3_parse_41 : decode cX3_parse 41 = .ok (.invokevirtual 27, 3) := by decide +kernel
theorem dX3_parse_44 : decode cX3_parse 44 = .ok (.istore 4, 2) := by decide +kernel
theorem dX3_parse_46 : decode cX3_parse 46 = .ok (.aload_n 0, 1) := by decide +kernel
theorem dX3_parse_47 : decode cX3_parse 47 = .ok (.iload_n 2, 1) := by decide +kernel
theorem dX3_parse_48 : decode cX3_parse 48 = .ok (.iload 4, 2) := by decide +kernel
theorem dX3_parse_50 : decode cX3_parse 50 = .ok (.invokestatic 35, 3) := by decide +kernel
theorem dX3_parse_53 : decode cX3_parse 53 = .ok (.putfield 15, 3) := by decide +kernel
theorem dX3_parse_56 : decode cX3_parse 56 = .ok (.aload_n 1, 1) := by decide +kernel
theorem dX3_parse_57 : decode cX3_parse 57 = .ok (.bipush 40, 2) := by decide +kernel
theorem dX3_parse_59 : decode cX3_parse 59 = .ok (.invokevirtual 31, 3) := by decide +kernel
theorem dX3_parse_62 : decode cX3_parse 62 = .ok (.istore_n 3, 1) := by decide +kernel
theorem dX3_parse_63 : decode cX3_parse 63 = .ok (.iload 4, 2) := by decide +kernel
theorem dX3_parse_65 : decode cX3_parse 65 = .ok (.ifCond .ne 12, 3) := by decide +kernel
theorem dX3_parse_68 : decode cX3_parse 68 = .ok (.iload_n 3, 1) := by decide +kernel
theorem dX3_parse_69 : decode cX3_parse 69 = .ok (.ifCond .ne 8, 3) := by decide +kernel
theorem dX3_parse_72 : decode cX3_parse 72 = .ok (.aload_n 1, 1) := by decide +kernel
theorem dX3_parse_73 : decode cX3_parse 73 = .ok (.getfield 18, 3) := by decide +kernel
theorem dX3_parse_76 : decode cX3_parse 76 = .ok (.ireturn, 1) := by decide +kernel
theorem dX3_parse_77 : decode cX3_parse 77 = .ok (.aload_n 0, 1) := by decide +kernel
theorem dX3_parse_78 : decode cX3_parse 78 = .ok (.aload_n 1, 1) := by decide +kernel
theorem dX3_parse_79 : decode cX3_parse 79 = .ok (.getfield 24, 3) := by decide +kernel
theorem dX3_parse_82 : decode cX3_parse 82 = .ok (.putfield 9, 3) := by decide +kernel
theorem dX3_parse_85 : decode cX3_parse 85 = .ok (.iload_n 3, 1) := by decide +kernel
theorem dX3_parse_86 : decode cX3_parse 86 = .ok (.ifCond .eq 17, 3) := by decide +kernel
theorem dX3_parse_89 : decode cX3_parse 89 = .ok (.aload_n 0, 1) := by decide +kernel
theorem dX3_parse_90 : decode cX3_parse 90 = .ok (.aload_n 1, 1) := by decide +kernel
theorem dX3_parse_91 : decode cX3_parse 91 = .ok (.iload_n 2, 1) := by decide +kernel
theorem dX3_parse_92 : decode cX3_parse 92 = .ok (.invokevirtual 39, 3) := by decide +kernel
theorem dX3_parse_95 : decode cX3_parse 95 = .ok (.ifCond .ne 8, 3) := by decide +kernel
theorem dX3_parse_98 : decode cX3_parse 98 = .ok (.aload_n 1, 1) := by decide +kernel
theorem dX3_parse_99 : decode cX3_parse 99 = .ok (.getfield 18, 3) := by decide +kernel
theorem dX3_parse_102 : decode cX3_parse 102 = .ok (.ireturn, 1) := by decide +kernel
theorem dX3_parse_103 : decode cX3_parse 103 = .ok (.aload_n 1, 1) := by decide +kernel
theorem dX3_parse_104 : decode cX3_parse 104 = .ok (.invokevirtual 43, 3) := by decide +kernel
theorem dX3_parse_107 : decode cX3_parse 107 = .ok (.ifCond .eq 7, 3) := by decide +kernel
theorem dX3_parse_110 : decode cX3_parse 110 = .ok (.iconst (-1), 1) := by decide +kernel
theorem dX3_parse_111 : decode cX3_parse 111 = .ok (.goto 7, 3) := by decide +kernel
theorem dX3_parse_114 : decode cX3_parse 114 = .ok (.aload_n 1, 1) := by decide +kernel
theorem dX3_parse_115 : decode cX3_parse 115 = .ok (.getfield 18, 3) := by decide +kernel
theorem dX3_parse_118 : decode cX3_parse 118 = .ok (.ireturn, 1) := by decide +kernel
theorem dX3_takesPeriod_0 : decode cX3_takesPeriod 0 = .ok (.aload_n 1, 1) := by decide +kernel
theorem dX3_takesPeriod_1 : decode cX3_takesPeriod 1 = .ok (.lconst 0, 1) := by decide +kernel
theorem dX3_takesPeriod_2 : decode cX3_takesPeriod 2 = .ok (.putfield 24, 3) := by decide +kernel
theorem dX3_takesPeriod_5 : decode cX3_takesPeriod 5 = .ok (.aload_n 1, 1) := by decide +kernel
theorem dX3_takesPeriod_6 : decode cX3_takesPeriod 6 = .ok (.iload_n 2, 1) := by decide +kernel
theorem dX3_takesPeriod_7 : decode cX3_takesPeriod 7 = .ok (.invokevirtual 27, 3) := by decide +kernel
theorem dX3_takesPeriod_10 : decode cX3_takesPeriod 10 = .ok (.istore_n 3, 1) := by decide +kernel
theorem dX3_takesPeriod_11 : decode cX3_takesPeriod 11 = .ok (.iload_n 3, 1) := by decide +kernel
theorem dX3_takesPeriod_12 : decode cX3_takesPeriod 12 = .ok (.ifCond .eq 12, 3) := by decide +kernel
theorem dX3_takesPeriod_15 : decode cX3_takesPeriod 15 = .ok (.aload_n 1, 1) := by decide +kernel
theorem dX3_takesPeriod_16 : decode cX3_takesPeriod 16 = .ok (.bipush 41, 2) := by decide +kernel
theorem dX3_takesPeriod_18 : decode cX3_takesPeriod 18 = .ok (.invokevirtual 31, 3) := by decide +kernel
theorem dX3_takesPeriod_21 : decode cX3_takesPeriod 21 = .ok (.ifCond .ne 5, 3) := by decide +kernel
theorem dX3_takesPeriod_24 : decode cX3_takesPeriod 24 = .ok (.iconst 0, 1) := by decide +kernel
theorem dX3_takesPeriod_25 : decode cX3_takesPeriod 25 = .ok (.ireturn, 1) := by decide +kernel
theorem dX3_takesPeriod_26 : decode cX3_takesPeriod 26 = .ok (.iload_n 2, 1) := by decide +kernel
theorem dX3_takesPeriod_27 : decode cX3_takesPeriod 27 = .ok (.iload_n 3, 1) := by decide +kernel
theorem dX3_takesPeriod_28 : decode cX3_takesPeriod 28 = .ok (.invokestatic 35, 3) := by decide +kernel
theorem dX3_takesPeriod_31 : decode cX3_takesPeriod 31 = .ok (.lconst 1, 1) := by decide +kernel
theorem dX3_takesPeriod_32 : decode cX3_takesPeriod 32 = .ok (.lsub, 1) := by decide +kernel
theorem dX3_takesPeriod_33 : decode cX3_takesPeriod 33 = .ok (.lstore 4, 2) := by decide +kernel
theorem dX3_takesPeriod_35 : decode cX3_takesPeriod 35 = .ok (.aload_n 0, 1) := by decide +kernel
theorem dX3_takesPeriod_36 : decode cX3_takesPeriod 36 = .ok (.aload_n 0, 1) := by decide +kernel
theorem dX3_takesPeriod_37 : decode cX3_takesPeriod 37 = .ok (.getfield 9, 3) := by decide +kernel
theorem dX3_takesPeriod_40 : decode cX3_takesPeriod 40 = .ok (.lload 4, 2) := by decide +kernel
theorem dX3_takesPeriod_42 : decode cX3_takesPeriod 42 = .ok (.lmul, 1) := by decide +kernel
theorem dX3_takesPeriod_43 : decode cX3_takesPeriod 43 = .ok (.aload_n 1, 1) := by decide +kernel
theorem dX3_takesPeriod_44 : decode cX3_takesPeriod 44 = .ok (.getfield 24, 3) := by decide +kernel
theorem dX3_takesPeriod_47 : decode cX3_takesPeriod 47 = .ok (.ladd, 1) := by decide +kernel
theorem dX3_takesPeriod_48 : decode cX3_takesPeriod 48 = .ok (.putfield 9, 3) := by decide +kernel
theorem dX3_takesPeriod_51 : decode cX3_takesPeriod 51 = .ok (.aload_n 0, 1) := by decide +kernel
theorem dX3_takesPeriod_52 : decode cX3_takesPeriod 52 = .ok (.aload_n 0, 1) := by decide +kernel
theorem dX3_takesPeriod_53 : decode cX3_takesPeriod 53 = .ok (.getfield 15, 3) := by decide +kernel
theorem dX3_takesPeriod_56 : decode cX3_takesPeriod 56 = .ok (.lload 4, 2) := by decide +kernel
theorem dX3_takesPeriod_58 : decode cX3_takesPeriod 58 = .ok (.lmul, 1) := by decide +kernel
theorem dX3_takesPeriod_59 : decode cX3_takesPeriod 59 = .ok (.putfield 15, 3) := by decide +kernel
theorem dX3_takesPeriod_62 : decode cX3_takesPeriod 62 = .ok (.iconst 1, 1) := by decide +kernel
theorem dX3_takesPeriod_63 : decode cX3_takesPeriod 63 = .ok (.ireturn, 1) := by decide +kernel
theorem dX4_init_0 : decode cX4_init 0 = .ok (.aload_n 0, 1) := by decide +kernel
theorem dX4_init_1 : decode cX4_init 1 = .ok (.invokespecial 3, 3) := by decide +kernel
theorem dX4_init_4 : decode cX4_init 4 = .ok (.aload_n 0, 1) := by decide +kernel
theorem dX4_init_5 : decode cX4_init 5 = .ok (.sipush 999, 3) := by decide +kernel
theorem dX4_init_8 : decode cX4_init 8 = .ok (.newarray .int, 2) := by decide +kernel
theorem dX4_init_10 : decode cX4_init 10 = .ok (.putfield 9, 3) := by decide +kernel
theorem dX4_init_13 : decode cX4_init 13 = .ok (.aload_n 0, 1) := by decide +kernel
theorem dX4_init_14 : decode cX4_init 14 = .ok (.iconst 0, 1) := by decide +kernel
theorem dX4_init_15 : decode cX4_init 15 = .ok (.putfield 15, 3) := by decide +kernel
theorem dX4_init_18 : decode cX4_init 18 = .ok (.return_, 1) := by decide +kernel
theorem dX4_load_0 : decode cX4_load 0 = .ok (.aload_n 0, 1) := by decide +kernel
theorem dX4_load_1 : decode cX4_load 1 = .ok (.aload_n 1, 1) := by decide +kernel
theorem dX4_load_2 : decode cX4_load 2 = .ok (.getfield 19, 3) := by decide +kernel
theorem dX4_load_5 : decode cX4_load 5 = .ok (.putfield 15, 3) := by decide +kernel
theorem dX4_load_8 : decode cX4_load 8 = .ok (.aload_n 1, 1) := by decide +kernel
theorem dX4_load_9 : decode cX4_load 9 = .ok (.getfield 22, 3) := by decide +kernel
theorem dX4_load_12 : decode cX4_load 12 = .ok (.istore_n 2, 1) := by decide +kernel
theorem dX4_load_13 : decode cX4_load 13 = .ok (.iconst 0, 1) := by decide +kernel
theorem dX4_load_14 : decode cX4_load 14 = .ok (.istore_n 3, 1) := by decide +kernel
theorem dX4_load_15 : decode cX4_load 15 = .ok (.iload_n 3, 1) := by decide +kernel
theorem dX4_load_16 : decode cX4_load 16 = .ok (.aload_n 0, 1) := by decide +kernel
theorem dX4_load_17 : decode cX4_load 17 = .ok (.getfield 15, 3) := by decide +kernel
theorem dX4_load_20 : decode cX4_load 20 = .ok (.if_icmp .ge 28, 3) := by decide +kernel
theorem dX4_load_23 : decode cX4_load 23 = .ok (.aload_n 0, 1) := by decide +kernel
theorem dX4_load_24 : decode cX4_load 24 = .ok (.getfield 9, 3) := by decide +kernel
theorem dX4_load_27 : decode cX4_load 27 = .ok (.iload_n 3, 1) := by decide +kernel
theorem dX4_load_28 : decode cX4_load 28 = .ok (.aload_n 1, 1) := by decide +kernel
theorem dX4_load_29 : decode cX4_load 29 = .ok (.iload_n 2, 1) := by decide +kernel
theorem dX4_load_30 : decode cX4_load 30 = .ok (.invokevirtual 25, 3) := by decide +kernel
theorem dX4_load_33 : decode cX4_load 33 = .ok (.invokestatic 29, 3) := by decide +kernel
theorem dX4_load_36 : decode cX4_load 36 = .ok (.aload_n 1, 1) := by decide +kernel
theorem dX4_load_37 : decode cX4_load 37 = .ok (.iload_n 2, 1) := by decide +kernel
theorem dX4_load_38 : decode cX4_load 38 = .ok (.invokevirtual 33, 3) := by decide +kernel
theorem dX4_load_41 : decode cX4_load 41 = .ok (.istore_n 2, 1) := by decide +kernel
theorem dX4_load_42 : decode cX4_load 42 = .ok (.iinc 3 1, 3) := by decide +kernel
theorem dX4_load_45 : decode cX4_load 45 = .ok (.goto (-30), 3) := by decide +kernel
theorem dX4_load_48 : decode cX4_load 48 = .ok (.return_, 1) := by decide +kernel
theorem dX4_placeOfBlocks_0 : decode cX4_placeOfBlocks 0 = .ok (.iconst 0, 1) := by decide +kernel
theorem dX4_placeOfBlocks_1 : decode cX4_placeOfBlocks 1 = .ok (.istore 5, 2) := by decide +kernel
theorem dX4_placeOfBlocks_3 : decode cX4_placeOfBlocks 3 = .ok (.iconst 0, 1) := by decide +kernel
theorem dX4_placeOfBlocks_4 : decode cX4_placeOfBlocks 4 = .ok (.istore 6, 2) := by decide +kernel
theorem dX4_placeOfBlocks_6 : decode cX4_placeOfBlocks 6 = .ok (.iload 6, 2) := by decide +kernel
theorem dX4_placeOfBlocks_8 : decode cX4_placeOfBlocks 8 = .ok (.iload_n 2, 1) := by decide +kernel
theorem dX4_placeOfBlocks_9 : decode cX4_placeOfBlocks 9 = .ok (.if_icmp .ge 75, 3) := by decide +kernel
theorem dX4_placeOfBlocks_12 : decode cX4_placeOfBlocks 12 = .ok (.iload 5, 2) := by decide +kernel
theorem dX4_placeOfBlocks_14 : decode cX4_placeOfBlocks 14 = .ok (.istore 7, 2) := by decide +kernel
theorem dX4_placeOfBlocks_16 : decode cX4_placeOfBlocks 16 = .ok (.iconst 1, 1) := by decide +kernel
theorem dX4_placeOfBlocks_17 : decode cX4_placeOfBlocks 17 = .ok (.istore 8, 2) := by decide +kernel
theorem dX4_placeOfBlocks_19 : decode cX4_placeOfBlocks 19 = .ok (.iload 8, 2) := by decide +kernel
theorem dX4_placeOfBlocks_21 : decode cX4_placeOfBlocks 21 = .ok (.iload_n 1, 1) := by decide +kernel
theorem dX4_placeOfBlocks_22 : decode cX4_placeOfBlocks 22 = .ok (.if_icmp .gt 30, 3) := by decide +kernel
theorem dX4_placeOfBlocks_25 : decode cX4_placeOfBlocks 25 = .ok (.iload 7, 2) := by decide +kernel
theorem dX4_placeOfBlocks_27 : decode cX4_placeOfBlocks 27 = .ok (.aload_n 0, 1) := by decide +kernel
theorem dX4_placeOfBlocks_28 : decode cX4_placeOfBlocks 28 = .ok (.getfield 9, 3) := by decide +kernel
theorem dX4_placeOfBlocks_31 : decode cX4_placeOfBlocks 31 = .ok (.iload 8, 2) := by decide +kernel
theorem dX4_placeOfBlocks_33 : decode cX4_placeOfBlocks 33 = .ok (.iload_n 2, 1) := by decide +kernel
theorem dX4_placeOfBlocks_34 : decode cX4_placeOfBlocks 34 = .ok (.imul, 1) := by decide +kernel
theorem dX4_placeOfBlocks_35 : decode cX4_placeOfBlocks 35 = .ok (.iconst 1, 1) := by decide +kernel
theorem dX4_placeOfBlocks_36 : decode cX4_placeOfBlocks 36 = .ok (.isub, 1) := by decide +kernel
theorem dX4_placeOfBlocks_37 : decode cX4_placeOfBlocks 37 = .ok (.iload 6, 2) := by decide +kernel
theorem dX4_placeOfBlocks_39 : decode cX4_placeOfBlocks 39 = .ok (.isub, 1) := by decide +kernel
theorem dX4_placeOfBlocks_40 : decode cX4_placeOfBlocks 40 = .ok (.invokestatic 36, 3) := by decide +kernel
theorem dX4_placeOfBlocks_43 : decode cX4_placeOfBlocks 43 = .ok (.iadd, 1) := by decide +kernel
theorem dX4_placeOfBlocks_44 : decode cX4_placeOfBlocks 44 = .ok (.istore 7, 2) := by decide +kernel
theorem dX4_placeOfBlocks_46 : decode cX4_placeOfBlocks 46 = .ok (.iinc 8 1, 3) := by decide +kernel
theorem dX4_placeOfBlocks_49 : decode cX4_placeOfBlocks 49 = .ok (.goto (-30), 3) := by decide +kernel
theorem dX4_placeOfBlocks_52 : decode cX4_placeOfBlocks 52 = .ok (.iload 6, 2) := by decide +kernel
theorem dX4_placeOfBlocks_54 : decode cX4_placeOfBlocks 54 = .ok (.iload_n 3, 1) := by decide +kernel
theorem dX4_placeOfBlocks_55 : decode cX4_placeOfBlocks 55 = .ok (.if_icmp .ne 11, 3) := by decide +kernel
theorem dX4_placeOfBlocks_58 : decode cX4_placeOfBlocks 58 = .ok (.iload 7, 2) := by decide +kernel
theorem dX4_placeOfBlocks_60 : decode cX4_placeOfBlocks 60 = .ok (.iload 4, 2) := by decide +kernel
theorem dX4_placeOfBlocks_62 : decode cX4_placeOfBlocks 62 = .ok (.invokestatic 40, 3) := by decide +kernel
theorem dX4_placeOfBlocks_65 : decode cX4_placeOfBlocks 65 = .ok (.ireturn, 1) := by decide +kernel
theorem dX4_placeOfBlocks_66 : decode cX4_placeOfBlocks 66 = .ok (.iload 7, 2) := by decide +kernel
theorem dX4_placeOfBlocks_68 : decode cX4_placeOfBlocks 68 = .ok (.i2l, 1) := by decide +kernel
theorem dX4_placeOfBlocks_69 : decode cX4_placeOfBlocks 69 = .ok (.iload 4, 2) := by decide +kernel
theorem dX4_placeOfBlocks_71 : decode cX4_placeOfBlocks 71 = .ok (.i2l, 1) := by decide +kernel
theorem dX4_placeOfBlocks_72 : decode cX4_placeOfBlocks 72 = .ok (.invokestatic 44, 3) := by decide +kernel
theorem dX4_placeOfBlocks_75 : decode cX4_placeOfBlocks 75 = .ok (.l2i, 1) := by decide +kernel
theorem dX4_placeOfBlocks_76 : decode cX4_placeOfBlocks 76 = .ok (.istore 5, 2) := by decide +kernel
theorem dX4_placeOfBlocks_78 : decode cX4_placeOfBlocks 78 = .ok (.iinc 6 1, 3) := by decide +kernel
theorem dX4_placeOfBlocks_81 : decode cX4_placeOfBlocks 81 = .ok (.goto (-75), 3) := by decide +kernel
theorem dX4_placeOfBlocks_84 : decode cX4_placeOfBlocks 84 = .ok (.iload 5, 2) := by decide +kernel
theorem dX4_placeOfBlocks_86 : decode cX4_placeOfBlocks 86 = .ok (.ireturn, 1) := by decide +kernel
theorem dX4_worthTogether_0 : decode cX4_worthTogether 0 = .ok (.lconst 0, 1) := by decide +kernel
theorem dX4_worthTogether_1 : decode cX4_worthTogether 1 = .ok (.lstore_n 3, 1) := by decide +kernel
theorem dX4_worthTogether_2 : decode cX4_worthTogether 2 = .ok (.iconst 0, 1) := by decide +kernel
theorem dX4_worthTogether_3 : decode cX4_worthTogether 3 = .ok (.istore 5, 2) := by decide +kernel
theorem dX4_worthTogether_5 : decode cX4_worthTogether 5 = .ok (.iload 5, 2) := by decide +kernel
theorem dX4_worthTogether_7 : decode cX4_worthTogether 7 = .ok (.aload_n 0, 1) := by decide +kernel
theorem dX4_worthTogether_8 : decode cX4_worthTogether 8 = .ok (.getfield 15, 3) := by decide +kernel
theorem dX4_worthTogether_11 : decode cX4_worthTogether 11 = .ok (.if_icmp .ge 29, 3) := by decide +kernel
theorem dX4_worthTogether_14 : decode cX4_worthTogether 14 = .ok (.lload_n 3, 1) := by decide +kernel
theorem dX4_worthTogether_15 : decode cX4_worthTogether 15 = .ok (.iload_n 1, 1) := by decide +kernel
theorem dX4_worthTogether_16 : decode cX4_worthTogether 16 = .ok (.iload 5, 2) := by decide +kernel
theorem dX4_worthTogether_18 : decode cX4_worthTogether 18 = .ok (.aload_n 0, 1) := by decide +kernel
theorem dX4_worthTogether_19 : decode cX4_worthTogether 19 = .ok (.getfield 9, 3) := by decide +kernel
theorem dX4_worthTogether_22 : decode cX4_worthTogether 22 = .ok (.iload 5, 2) := by decide +kernel
theorem dX4_worthTogether_24 : decode cX4_worthTogether 24 = .ok (.invokestatic 36, 3) := by decide +kernel
theorem dX4_worthTogether_27 : decode cX4_worthTogether 27 = .ok (.iload_n 2, 1) := by decide +kernel
theorem dX4_worthTogether_28 : decode cX4_worthTogether 28 = .ok (.invokestatic 48, 3) := by decide +kernel
theorem dX4_worthTogether_31 : decode cX4_worthTogether 31 = .ok (.i2l, 1) := by decide +kernel
theorem dX4_worthTogether_32 : decode cX4_worthTogether 32 = .ok (.ladd, 1) := by decide +kernel
theorem dX4_worthTogether_33 : decode cX4_worthTogether 33 = .ok (.lstore_n 3, 1) := by decide +kernel
theorem dX4_worthTogether_34 : decode cX4_worthTogether 34 = .ok (.iinc 5 1, 3) := by decide +kernel
theorem dX4_worthTogether_37 : decode cX4_worthTogether 37 = .ok (.goto (-32), 3) := by decide +kernel
theorem dX4_worthTogether_40 : decode cX4_worthTogether 40 = .ok (.lload_n 3, 1) := by decide +kernel
theorem dX4_worthTogether_41 : decode cX4_worthTogether 41 = .ok (.lreturn, 1) := by decide +kernel
theorem dX4_worth_0 : decode cX4_worth 0 = .ok (.iload_n 0, 1) := by decide +kernel
theorem dX4_worth_1 : decode cX4_worth 1 = .ok (.tableswitch 91 0 5 #[39, 41, 47, 68, 72, 80], 39) := by decide +kernel
theorem dX4_worth_40 : decode cX4_worth 40 = .ok (.iload_n 2, 1) := by decide +kernel
theorem dX4_worth_41 : decode cX4_worth 41 = .ok (.ireturn, 1) := by decide +kernel
theorem dX4_worth_42 : decode cX4_worth 42 = .ok (.iload_n 2, 1) := by decide +kernel
theorem dX4_worth_43 : decode cX4_worth 43 = .ok (.iload_n 1, 1) := by decide +kernel
theorem dX4_worth_44 : decode cX4_worth 44 = .ok (.iconst 1, 1) := by decide +kernel
theorem dX4_worth_45 : decode cX4_worth 45 = .ok (.iadd, 1) := by decide +kernel
theorem dX4_worth_46 : decode cX4_worth 46 = .ok (.imul, 1) := by decide +kernel
theorem dX4_worth_47 : decode cX4_worth 47 = .ok (.ireturn, 1) := by decide +kernel
theorem dX4_worth_48 : decode cX4_worth 48 = .ok (.iload_n 1, 1) := by decide +kernel
theorem dX4_worth_49 : decode cX4_worth 49 = .ok (.iconst 2, 1) := by decide +kernel
theorem dX4_worth_50 : decode cX4_worth 50 = .ok (.irem, 1) := by decide +kernel
theorem dX4_worth_51 : decode cX4_worth 51 = .ok (.ifCond .ne 11, 3) := by decide +kernel
theorem dX4_worth_54 : decode cX4_worth 54 = .ok (.iload_n 2, 1) := by decide +kernel
theorem dX4_worth_55 : decode cX4_worth 55 = .ok (.iload_n 1, 1) := by decide +kernel
theorem dX4_worth_56 : decode cX4_worth 56 = .ok (.iconst 1, 1) := by decide +kernel
theorem dX4_worth_57 : decode cX4_worth 57 = .ok (.iadd, 1) := by decide +kernel
theorem dX4_worth_58 : decode cX4_worth 58 = .ok (.imul, 1) := by decide +kernel
theorem dX4_worth_59 : decode cX4_worth 59 = .ok (.goto 9, 3) := by decide +kernel
theorem dX4_worth_62 : decode cX4_worth 62 = .ok (.iload_n 2, 1) := by decide +kernel
theorem dX4_worth_63 : decode cX4_worth 63 = .ok (.ineg, 1) := by decide +kernel
theorem dX4_worth_64 : decode cX4_worth 64 = .ok (.iload_n 1, 1) := by decide +kernel
theorem dX4_worth_65 : decode cX4_worth 65 = .ok (.iconst 1, 1) := by decide +kernel
theorem dX4_worth_66 : decode cX4_worth 66 = .ok (.iadd, 1) := by decide +kernel
theorem dX4_worth_67 : decode cX4_worth 67 = .ok (.imul, 1) := by decide +kernel
theorem dX4_worth_68 : decode cX4_worth 68 = .ok (.ireturn, 1) := by decide +kernel
theorem dX4_worth_69 : decode cX4_worth 69 = .ok (.iload_n 2, 1) := by decide +kernel
theorem dX4_worth_70 : decode cX4_worth 70 = .ok (.iload_n 2, 1) := by decide +kernel
theorem dX4_worth_71 : decode cX4_worth 71 = .ok (.imul, 1) := by decide +kernel
theorem dX4_worth_72 : decode cX4_worth 72 = .ok (.ireturn, 1) := by decide +kernel
theorem dX4_worth_73 : decode cX4_worth 73 = .ok (.iload_n 2, 1) := by decide +kernel
theorem dX4_worth_74 : decode cX4_worth 74 = .ok (.iload_n 2, 1) := by decide +kernel
theorem dX4_worth_75 : decode cX4_worth 75 = .ok (.imul, 1) := by decide +kernel
theorem dX4_worth_76 : decode cX4_worth 76 = .ok (.iload_n 3, 1) := by decide +kernel
theorem dX4_worth_77 : decode cX4_worth 77 = .ok (.invokestatic 52, 3) := by decide +kernel
theorem dX4_worth_80 : decode cX4_worth 80 = .ok (.ireturn, 1) := by decide +kernel
theorem dX4_worth_81 : decode cX4_worth 81 = .ok (.iload_n 2, 1) := by decide +kernel
theorem dX4_worth_82 : decode cX4_worth 82 = .ok (.iload_n 3, 1) := by decide +kernel
theorem dX4_worth_83 : decode cX4_worth 83 = .ok (.if_icmp .le 7, 3) := by decide +kernel
theorem dX4_worth_86 : decode cX4_worth 86 = .ok (.iconst 1, 1) := by decide +kernel
theorem dX4_worth_87 : decode cX4_worth 87 = .ok (.goto 4, 3) := by decide +kernel
theorem dX4_worth_90 : decode cX4_worth 90 = .ok (.iconst 0, 1) := by decide +kernel
theorem dX4_worth_91 : decode cX4_worth 91 = .ok (.ireturn, 1) := by decide +kernel
theorem dX4_worth_92 : decode cX4_worth 92 = .ok (.iconst 0, 1) := by decide +kernel
theorem dX4_worth_93 : decode cX4_worth 93 = .ok (.ireturn, 1) := by decide +kernel
theorem dX5_init_0 : decode cX5_init 0 = .ok (.aload_n 0, 1) := by decide +kernel
theorem dX5_init_1 : decode cX5_init 1 = .ok (.invokespecial 3, 3) := by decide +kernel
theorem dX5_init_4 : decode cX5_init 4 = .ok (.aload_n 0, 1) := by decide +kernel
theorem dX5_init_5 : decode cX5_init 5 = .ok (.bipush 14, 2) := by decide +kernel
theorem dX5_init_7 : decode cX5_init 7 = .ok (.newarray .int, 2) := by decide +kernel
theorem dX5_init_9 : decode cX5_init 9 = .ok (.putfield 11, 3) := by decide +kernel
theorem dX5_init_12 : decode cX5_init 12 = .ok (.aload_n 0, 1) := by decide +kernel
theorem dX5_init_13 : decode cX5_init 13 = .ok (.bipush 42, 2) := by decide +kernel
theorem dX5_init_15 : decode cX5_init 15 = .ok (.newarray .int, 2) := by decide +kernel
theorem dX5_init_17 : decode cX5_init 17 = .ok (.putfield 15, 3) := by decide +kernel
theorem dX5_init_20 : decode cX5_init 20 = .ok (.aload_n 0, 1) := by decide +kernel
theorem dX5_init_21 : decode cX5_init 21 = .ok (.iconst 0, 1) := by decide +kernel
theorem dX5_init_22 : decode cX5_init 22 = .ok (.putfield 18, 3) := by decide +kernel
theorem dX5_init_25 : decode cX5_init 25 = .ok (.return_, 1) := by decide +kernel
theorem dX5_word_0 : decode cX5_word 0 = .ok (.aload_n 0, 1) := by decide +kernel
theorem dX5_word_1 : decode cX5_word 1 = .ok (.getfield 11, 3) := by decide +kernel
theorem dX5_word_4 : decode cX5_word 4 = .ok (.iload_n 1, 1) := by decide +kernel
theorem dX5_word_5 : decode cX5_word 5 = .ok (.invokestatic 22, 3) := by decide +kernel
theorem dX5_word_8 : decode cX5_word 8 = .ok (.ireturn, 1) := by decide +kernel
theorem dX5_number_0 : decode cX5_number 0 = .ok (.aload_n 0, 1) := by decide +kernel
theorem dX5_number_1 : decode cX5_number 1 = .ok (.getfield 15, 3) := by decide +kernel
theorem dX5_number_4 : decode cX5_number 4 = .ok (.iload_n 1, 1) := by decide +kernel
theorem dX5_number_5 : decode cX5_number 5 = .ok (.iconst 3, 1) := by decide +kernel
theorem dX5_number_6 : decode cX5_number 6 = .ok (.imul, 1) := by decide +kernel
theorem dX5_number_7 : decode cX5_number 7 = .ok (.iload_n 2, 1) := by decide +kernel
theorem dX5_number_8 : decode cX5_number 8 = .ok (.iadd, 1) := by decide +kernel
theorem dX5_number_9 : decode cX5_number 9 = .ok (.invokestatic 22, 3) := by decide +kernel
theorem dX5_number_12 : decode cX5_number 12 = .ok (.ireturn, 1) := by decide +kernel
theorem dX5_parse_0 : decode cX5_parse 0 = .ok (.aload_n 1, 1) := by decide +kernel
theorem dX5_parse_1 : decode cX5_parse 1 = .ok (.iconst 0, 1) := by decide +kernel
theorem dX5_parse_2 : decode cX5_parse 2 = .ok (.putfield 26, 3) := by decide +kernel
theorem dX5_parse_5 : decode cX5_parse 5 = .ok (.aload_n 0, 1) := by decide +kernel
theorem dX5_parse_6 : decode cX5_parse 6 = .ok (.iconst 0, 1) := by decide +kernel
theorem dX5_parse_7 : decode cX5_parse 7 = .ok (.putfield 18, 3) := by decide +kernel
theorem dX5_parse_10 : decode cX5_parse 10 = .ok (.aload_n 0, 1) := by decide +kernel
theorem dX5_parse_11 : decode cX5_parse 11 = .ok (.getfield 18, 3) := by decide +kernel
theorem dX5_parse_14 : decode cX5_parse 14 = .ok (.bipush 14, 2) := by decide +kernel
theorem dX5_parse_16 : decode cX5_parse 16 = .ok (.if_icmp .ge 52, 3) := by decide +kernel
theorem dX5_parse_19 : decode cX5_parse 19 = .ok (.aload_n 0, 1) := by decide +kernel
theorem dX5_parse_20 : decode cX5_parse 20 = .ok (.aload_n 1, 1) := by decide +kernel
theorem dX5_parse_21 : decode cX5_parse 21 = .ok (.invokevirtual 31, 3) := by decide +kernel
theorem dX5_parse_24 : decode cX5_parse 24 = .ok (.istore_n 2, 1) := by decide +kernel
theorem dX5_parse_25 : decode cX5_parse 25 = .ok (.iload_n 2, 1) := by decide +kernel
theorem dX5_parse_26 : decode cX5_parse 26 = .ok (.iconst (-1), 1) := by decide +kernel
theorem dX5_parse_27 : decode cX5_parse 27 = .ok (.if_icmp .eq 5, 3) := by decide +kernel
theorem dX5_parse_30 : decode cX5_parse 30 = .ok (.iload_n 2, 1) := by decide +kernel
theorem dX5_parse_31 : decode cX5_parse 31 = .ok (.ireturn, 1) := by decide +kernel
theorem dX5_parse_32 : decode cX5_parse 32 = .ok (.aload_n 0, 1) := by decide +kernel
theorem dX5_parse_33 : decode cX5_parse 33 = .ok (.dup, 1) := by decide +kernel
theorem dX5_parse_34 : decode cX5_parse 34 = .ok (.getfield 18, 3) := by decide +kernel
theorem dX5_parse_37 : decode cX5_parse 37 = .ok (.iconst 1, 1) := by decide +kernel
theorem dX5_parse_38 : decode cX5_parse 38 = .ok (.iadd, 1) := by decide +kernel
theorem dX5_parse_39 : decode cX5_parse 39 = .ok (.putfield 18, 3) := by decide +kernel
theorem dX5_parse_42 : decode cX5_parse 42 = .ok (.aload_n 1, 1) := by decide +kernel
theorem dX5_parse_43 : decode cX5_parse 43 = .ok (.invokevirtual 35, 3) := by decide +kernel
theorem dX5_parse_46 : decode cX5_parse 46 = .ok (.ifCond .eq 5, 3) := by decide +kernel
theorem dX5_parse_49 : decode cX5_parse 49 = .ok (.iconst (-1), 1) := by decide +kernel
theorem dX5_parse_50 : decode cX5_parse 50 = .ok (.ireturn, 1) := by decide +kernel
theorem dX5_parse_51 : decode cX5_parse 51 = .ok (.aload_n 1, 1) := by decide +kernel
theorem dX5_parse_52 : decode cX5_parse 52 = .ok (.bipush 59, 2) := by decide +kernel
theorem dX5_parse_54 : decode cX5_parse 54 = .ok (.invokevirtual 39, 3) := by decide +kernel
theorem dX5_parse_57 : decode cX5_parse 57 = .ok (.ifCond .ne 8, 3) := by decide +kernel
theorem dX5_parse_60 : decode cX5_parse 60 = .ok (.aload_n 1, 1) := by decide +kernel
theorem dX5_parse_61 : decode cX5_parse 61 = .ok (.getfield 26, 3) := by decide +kernel
theorem dX5_parse_64 : decode cX5_parse 64 = .ok (.ireturn, 1) := by decide +kernel
theorem dX5_parse_65 : decode cX5_parse 65 = .ok (.goto (-55), 3) := by decide +kernel
theorem dX5_parse_68 : decode cX5_parse 68 = .ok (.aload_n 1, 1) := by decide +kernel
theorem dX5_parse_69 : decode cX5_parse 69 = .ok (.getfield 26, 3) := by decide +kernel
theorem dX5_parse_72 : decode cX5_parse 72 = .ok (.ireturn, 1) := by decide +kernel
theorem dX5_parseCommand_0 : decode cX5_parseCommand 0 = .ok (.aload_n 1, 1) := by decide +kernel
theorem dX5_parseCommand_1 : decode cX5_parseCommand 1 = .ok (.getfield 26, 3) := by decide +kernel
theorem dX5_parseCommand_4 : decode cX5_parseCommand 4 = .ok (.istore_n 2, 1) := by decide +kernel
theorem dX5_parseCommand_5 : decode cX5_parseCommand 5 = .ok (.aload_n 1, 1) := by decide +kernel
theorem dX5_parseCommand_6 : decode cX5_parseCommand 6 = .ok (.invokevirtual 43, 3) := by decide +kernel
theorem dX5_parseCommand_9 : decode cX5_parseCommand 9 = .ok (.aload_n 1, 1) := by decide +kernel
theorem dX5_parseCommand_10 : decode cX5_parseCommand 10 = .ok (.iload_n 2, 1) := by decide +kernel
theorem dX5_parseCommand_11 : decode cX5_parseCommand 11 = .ok (.invokestatic 46, 3) := by decide +kernel
theorem dX5_parseCommand_14 : decode cX5_parseCommand 14 = .ok (.istore_n 3, 1) := by decide +kernel
theorem dX5_parseCommand_15 : decode cX5_parseCommand 15 = .ok (.iload_n 3, 1) := by decide +kernel
theorem dX5_parseCommand_16 : decode cX5_parseCommand 16 = .ok (.iconst (-1), 1) := by decide +kernel
theorem dX5_parseCommand_17 : decode cX5_parseCommand 17 = .ok (.if_icmp .ne 5, 3) := by decide +kernel
theorem dX5_parseCommand_20 : decode cX5_parseCommand 20 = .ok (.iload_n 2, 1) := by decide +kernel
theorem dX5_parseCommand_21 : decode cX5_parseCommand 21 = .ok (.ireturn, 1) := by decide +kernel
theorem dX5_parseCommand_22 : decode cX5_parseCommand 22 = .ok (.aload_n 0, 1) := by decide +kernel
theorem dX5_parseCommand_23 : decode cX5_parseCommand 23 = .ok (.getfield 11, 3) := by decide +kernel
theorem dX5_parseCommand_26 : decode cX5_parseCommand 26 = .ok (.aload_n 0, 1) := by decide +kernel
theorem dX5_parseCommand_27 : decode cX5_parseCommand 27 = .ok (.getfield 18, 3) := by decide +kernel
theorem dX5_parseCommand_30 : decode cX5_parseCommand 30 = .ok (.iload_n 3, 1) := by decide +kernel
theorem dX5_parseCommand_31 : decode cX5_parseCommand 31 = .ok (.invokestatic 50, 3) := by decide +kernel
theorem dX5_parseCommand_34 : decode cX5_parseCommand 34 = .ok (.iconst 0, 1) := by decide +kernel
theorem dX5_parseCommand_35 : decode cX5_parseCommand 35 = .ok (.istore 4, 2) := by decide +kernel
theorem dX5_parseCommand_37 : decode cX5_parseCommand 37 = .ok (.iload 4, 2) := by decide +kernel
theorem dX5_parseCommand_39 : decode cX5_parseCommand 39 = .ok (.iload_n 3, 1) := by decide +kernel
theorem dX5_parseCommand_40 : decode cX5_parseCommand 40 = .ok (.invokestatic 54, 3) := by decide +kernel
theorem dX5_parseCommand_43 : decode cX5_parseCommand 43 = .ok (.if_icmp .ge 58, 3) := by decide +kernel
theorem dX5_parseCommand_46 : decode cX5_parseCommand 46 = .ok (.aload_n 1, 1) := by decide +kernel
theorem dX5_parseCommand_47 : decode cX5_parseCommand 47 = .ok (.lconst 0, 1) := by decide +kernel
theorem dX5_parseCommand_48 : decode cX5_parseCommand 48 = .ok (.putfield 58, 3) := by decide +kernel
theorem dX5_parseCommand_51 : decode cX5_parseCommand 51 = .ok (.aload_n 1, 1) := by decide +kernel
theorem dX5_parseCommand_52 : decode cX5_parseCommand 52 = .ok (.bipush 32, 2) := by decide +kernel
theorem dX5_parseCommand_54 : decode cX5_parseCommand 54 = .ok (.invokevirtual 39, 3) := by decide +kernel
theorem dX5_parseCommand_57 : decode cX5_parseCommand 57 = .ok (.ifCond .eq 12, 3) := by decide +kernel
theorem dX5_parseCommand_60 : decode cX5_parseCommand 60 = .ok (.aload_n 1, 1) := by decide +kernel
theorem dX5_parseCommand_61 : decode cX5_parseCommand 61 = .ok (.bipush 10, 2) := by decide +kernel
theorem dX5_parseCommand_63 : decode cX5_parseCommand 63 = .ok (.invokevirtual 62, 3) := by decide +kernel
theorem dX5_parseCommand_66 : decode cX5_parseCommand 66 = .ok (.ifCond .ne 8, 3) := by decide +kernel
theorem dX5_parseCommand_69 : decode cX5_parseCommand 69 = .ok (.aload_n 1, 1) := by decide +kernel
theorem dX5_parseCommand_70 : decode cX5_parseCommand 70 = .ok (.getfield 26, 3) := by decide +kernel
theorem dX5_parseCommand_73 : decode cX5_parseCommand 73 = .ok (.ireturn, 1) := by decide +kernel
theorem dX5_parseCommand_74 : decode cX5_parseCommand 74 = .ok (.aload_n 0, 1) := by decide +kernel
theorem dX5_parseCommand_75 : decode cX5_parseCommand 75 = .ok (.getfield 15, 3) := by decide +kernel
theorem dX5_parseCommand_78 : decode cX5_parseCommand 78 = .ok (.aload_n 0, 1) := by decide +kernel
theorem dX5_parseCommand_79 : decode cX5_parseCommand 79 = .ok (.getfield 18, 3) := by decide +kernel
theorem dX5_parseCommand_82 : decode cX5_parseCommand 82 = .ok (.iconst 3, 1) := by decide +kernel
theorem dX5_parseCommand_83 : decode cX5_parseCommand 83 = .ok (.imul, 1) := by decide +kernel
theorem dX5_parseCommand_84 : decode cX5_parseCommand 84 = .ok (.iload 4, 2) := by decide +kernel
theorem dX5_parseCommand_86 : decode cX5_parseCommand 86 = .ok (.iadd, 1) := by decide +kernel
theorem dX5_parseCommand_87 : decode cX5_parseCommand 87 = .ok (.aload_n 1, 1) := by decide +kernel
theorem dX5_parseCommand_88 : decode cX5_parseCommand 88 = .ok (.getfield 58, 3) := by decide +kernel
theorem dX5_parseCommand_91 : decode cX5_parseCommand 91 = .ok (.l2i, 1) := by decide +kernel
theorem dX5_parseCommand_92 : decode cX5_parseCommand 92 = .ok (.invokestatic 50, 3) := by decide +kernel
theorem dX5_parseCommand_95 : decode cX5_parseCommand 95 = .ok (.iinc 4 1, 3) := by decide +kernel
theorem dX5_parseCommand_98 : decode cX5_parseCommand 98 = .ok (.goto (-61), 3) := by decide +kernel
theorem dX5_parseCommand_101 : decode cX5_parseCommand 101 = .ok (.iconst (-1), 1) := by decide +kernel
theorem dX5_parseCommand_102 : decode cX5_parseCommand 102 = .ok (.ireturn, 1) := by decide +kernel
theorem dX5_wordBetween_0 : decode cX5_wordBetween 0 = .ok (.iconst 0, 1) := by decide +kernel
theorem dX5_wordBetween_1 : decode cX5_wordBetween 1 = .ok (.istore_n 2, 1) := by decide +kernel
theorem dX5_wordBetween_2 : decode cX5_wordBetween 2 = .ok (.iload_n 2, 1) := by decide +kernel
theorem dX5_wordBetween_3 : decode cX5_wordBetween 3 = .ok (.iconst 5, 1) := by decide +kernel
theorem dX5_wordBetween_4 : decode cX5_wordBetween 4 = .ok (.if_icmp .ge 27, 3) := by decide +kernel
theorem dX5_wordBetween_7 : decode cX5_wordBetween 7 = .ok (.aload_n 0, 1) := by decide +kernel
theorem dX5_wordBetween_8 : decode cX5_wordBetween 8 = .ok (.iload_n 1, 1) := by decide +kernel
theorem dX5_wordBetween_9 : decode cX5_wordBetween 9 = .ok (.aload_n 0, 1) := by decide +kernel
theorem dX5_wordBetween_10 : decode cX5_wordBetween 10 = .ok (.getfield 26, 3) := by decide +kernel
theorem dX5_wordBetween_13 : decode cX5_wordBetween 13 = .ok (.iload_n 2, 1) := by decide +kernel
theorem dX5_wordBetween_14 : decode cX5_wordBetween 14 = .ok (.invokestatic 65, 3) := by decide +kernel
theorem dX5_wordBetween_17 : decode cX5_wordBetween 17 = .ok (.invokevirtual 69, 3) := by decide +kernel
theorem dX5_wordBetween_20 : decode cX5_wordBetween 20 = .ok (.ifCond .eq 5, 3) := by decide +kernel
theorem dX5_wordBetween_23 : decode cX5_wordBetween 23 = .ok (.iload_n 2, 1) := by decide +kernel
theorem dX5_wordBetween_24 : decode cX5_wordBetween 24 = .ok (.ireturn, 1) := by decide +kernel
theorem dX5_wordBetween_25 : decode cX5_wordBetween 25 = .ok (.iinc 2 1, 3) := by decide +kernel
theorem dX5_wordBetween_28 : decode cX5_wordBetween 28 = .ok (.goto (-26), 3) := by decide +kernel
theorem dX5_wordBetween_31 : decode cX5_wordBetween 31 = .ok (.iconst (-1), 1) := by decide +kernel
theorem dX5_wordBetween_32 : decode cX5_wordBetween 32 = .ok (.ireturn, 1) := by decide +kernel
theorem dX5_wordText_0 : decode cX5_wordText 0 = .ok (.iload_n 0, 1) := by decide +kernel
theorem dX5_wordText_1 : decode cX5_wordText 1 = .ok (.tableswitch 43 0 3 #[31, 34, 37, 40], 31) := by decide +kernel
theorem dX5_wordText_32 : decode cX5_wordText 32 = .ok (.ldc 73, 2) := by decide +kernel
theorem dX5_wordText_34 : decode cX5_wordText 34 = .ok (.areturn, 1) := by decide +kernel
theorem dX5_wordText_35 : decode cX5_wordText 35 = .ok (.ldc 75, 2) := by decide +kernel
theorem dX5_wordText_37 : decode cX5_wordText 37 = .ok (.areturn, 1) := by decide +kernel
theorem dX5_wordText_38 : decode cX5_wordText 38 = .ok (.ldc 77, 2) := by decide +kernel
theorem dX5_wordText_40 : decode cX5_wordText 40 = .ok (.areturn, 1) := by decide +kernel
theorem dX5_wordText_41 : decode cX5_wordText 41 = .ok (.ldc 79, 2) := by decide +kernel
theorem dX5_wordText_43 : decode cX5_wordText 43 = .ok (.areturn, 1) := by decide +kernel
theorem dX5_wordText_44 : decode cX5_wordText 44 = .ok (.ldc 81, 2) := by decide +kernel
theorem dX5_wordText_46 : decode cX5_wordText 46 = .ok (.areturn, 1) := by decide +kernel
theorem dX5_numbersOf_0 : decode cX5_numbersOf 0 = .ok (.iload_n 0, 1) := by decide +kernel
theorem dX5_numbersOf_1 : decode cX5_numbersOf 1 = .ok (.tableswitch 35 0 3 #[31, 35, 33, 33], 31) := by decide +kernel
theorem dX5_numbersOf_32 : decode cX5_numbersOf 32 = .ok (.iconst 3, 1) := by decide +kernel
theorem dX5_numbersOf_33 : decode cX5_numbersOf 33 = .ok (.ireturn, 1) := by decide +kernel
theorem dX5_numbersOf_34 : decode cX5_numbersOf 34 = .ok (.iconst 2, 1) := by decide +kernel
theorem dX5_numbersOf_35 : decode cX5_numbersOf 35 = .ok (.ireturn, 1) := by decide +kernel
theorem dX5_numbersOf_36 : decode cX5_numbersOf 36 = .ok (.iconst 1, 1) := by decide +kernel
theorem dX5_numbersOf_37 : decode cX5_numbersOf 37 = .ok (.ireturn, 1) := by decide +kernel
theorem dX6_init_0 : decode cX6_init 0 = .ok (.aload_n 0, 1) := by decide +kernel
theorem dX6_init_1 : decode cX6_init 1 = .ok (.invokespecial 3, 3) := by decide +kernel
theorem dX6_init_4 : decode cX6_init 4 = .ok (.aload_n 0, 1) := by decide +kernel
theorem dX6_init_5 : decode cX6_init 5 = .ok (.bipush 8, 2) := by decide +kernel
theorem dX6_init_7 : decode cX6_init 7 = .ok (.anewarray 9, 3) := by decide +kernel
theorem dX6_init_10 : decode cX6_init 10 = .ok (.putfield 11, 3) := by decide +kernel
theorem dX6_init_13 : decode cX6_init 13 = .ok (.aload_n 0, 1) := by decide +kernel
theorem dX6_init_14 : decode cX6_init 14 = .ok (.iconst 0, 1) := by decide +kernel
theorem dX6_init_15 : decode cX6_init 15 = .ok (.putfield 17, 3) := by decide +kernel
theorem dX6_init_18 : decode cX6_init 18 = .ok (.iconst 0, 1) := by decide +kernel
theorem dX6_init_19 : decode cX6_init 19 = .ok (.istore_n 1, 1) := by decide +kernel
theorem dX6_init_20 : decode cX6_init 20 = .ok (.iload_n 1, 1) := by decide +kernel
theorem dX6_init_21 : decode cX6_init 21 = .ok (.aload_n 0, 1) := by decide +kernel
theorem dX6_init_22 : decode cX6_init 22 = .ok (.getfield 11, 3) := by decide +kernel
theorem dX6_init_25 : decode cX6_init 25 = .ok (.arraylength, 1) := by decide +kernel
theorem dX6_init_26 : decode cX6_init 26 = .ok (.if_icmp .ge 22, 3) := by decide +kernel
theorem dX6_init_29 : decode cX6_init 29 = .ok (.aload_n 0, 1) := by decide +kernel
theorem dX6_init_30 : decode cX6_init 30 = .ok (.getfield 11, 3) := by decide +kernel
theorem dX6_init_33 : decode cX6_init 33 = .ok (.iload_n 1, 1) := by decide +kernel
theorem dX6_init_34 : decode cX6_init 34 = .ok (.new 9, 3) := by decide +kernel
theorem dX6_init_37 : decode cX6_init 37 = .ok (.dup, 1) := by decide +kernel
theorem dX6_init_38 : decode cX6_init 38 = .ok (.invokespecial 21, 3) := by decide +kernel
theorem dX6_init_41 : decode cX6_init 41 = .ok (.aastore, 1) := by decide +kernel
theorem dX6_init_42 : decode cX6_init 42 = .ok (.iinc 1 1, 3) := by decide +kernel
theorem dX6_init_45 : decode cX6_init 45 = .ok (.goto (-25), 3) := by decide +kernel
theorem dX6_init_48 : decode cX6_init 48 = .ok (.return_, 1) := by decide +kernel
theorem dX6_at_0 : decode cX6_at 0 = .ok (.iload_n 1, 1) := by decide +kernel
theorem dX6_at_1 : decode cX6_at 1 = .ok (.ifCond .lt 29, 3) := by decide +kernel
theorem dX6_at_4 : decode cX6_at 4 = .ok (.iload_n 1, 1) := by decide +kernel
theorem dX6_at_5 : decode cX6_at 5 = .ok (.aload_n 0, 1) := by decide +kernel
theorem dX6_at_6 : decode cX6_at 6 = .ok (.getfield 17, 3) := by decide +kernel
theorem dX6_at_9 : decode cX6_at 9 = .ok (.if_icmp .ge 21, 3) := by decide +kernel
theorem dX6_at_12 : decode cX6_at 12 = .ok (.iload_n 1, 1) := by decide +kernel
theorem dX6_at_13 : decode cX6_at 13 = .ok (.aload_n 0, 1) := by decide +kernel
theorem dX6_at_14 : decode cX6_at 14 = .ok (.getfield 11, 3) := by decide +kernel
theorem dX6_at_17 : decode cX6_at 17 = .ok (.arraylength, 1) := by decide +kernel
theorem dX6_at_18 : decode cX6_at 18 = .ok (.if_icmp .ge 12, 3) := by decide +kernel
theorem dX6_at_21 : decode cX6_at 21 = .ok (.aload_n 0, 1) := by decide +kernel
theorem dX6_at_22 : decode cX6_at 22 = .ok (.getfield 11, 3) := by decide +kernel
theorem dX6_at_25 : decode cX6_at 25 = .ok (.iload_n 1, 1) := by decide +kernel
theorem dX6_at_26 : decode cX6_at 26 = .ok (.aaload, 1) := by decide +kernel
theorem dX6_at_27 : decode cX6_at 27 = .ok (.goto 4, 3) := by decide +kernel
theorem dX6_at_30 : decode cX6_at 30 = .ok (.aconst_null, 1) := by decide +kernel
theorem dX6_at_31 : decode cX6_at 31 = .ok (.areturn, 1) := by decide +kernel
theorem dX6_add_0 : decode cX6_add 0 = .ok (.aload_n 0, 1) := by decide +kernel
theorem dX6_add_1 : decode cX6_add 1 = .ok (.getfield 17, 3) := by decide +kernel
theorem dX6_add_4 : decode cX6_add 4 = .ok (.aload_n 0, 1) := by decide +kernel
theorem dX6_add_5 : decode cX6_add 5 = .ok (.getfield 11, 3) := by decide +kernel
theorem dX6_add_8 : decode cX6_add 8 = .ok (.arraylength, 1) := by decide +kernel
theorem dX6_add_9 : decode cX6_add 9 = .ok (.if_icmp .lt 6, 3) := by decide +kernel
theorem dX6_add_12 : decode cX6_add 12 = .ok (.bipush (-3), 2) := by decide +kernel
theorem dX6_add_14 : decode cX6_add 14 = .ok (.ireturn, 1) := by decide +kernel
theorem dX6_add_15 : decode cX6_add 15 = .ok (.aload_n 0, 1) := by decide +kernel
theorem dX6_add_16 : decode cX6_add 16 = .ok (.getfield 11, 3) := by decide +kernel
theorem dX6_add_19 : decode cX6_add 19 = .ok (.aload_n 0, 1) := by decide +kernel
theorem dX6_add_20 : decode cX6_add 20 = .ok (.getfield 17, 3) := by decide +kernel
theorem dX6_add_23 : decode cX6_add 23 = .ok (.aaload, 1) := by decide +kernel
theorem dX6_add_24 : decode cX6_add 24 = .ok (.iload_n 1, 1) := by decide +kernel
theorem dX6_add_25 : decode cX6_add 25 = .ok (.iload_n 2, 1) := by decide +kernel
theorem dX6_add_26 : decode cX6_add 26 = .ok (.iload_n 3, 1) := by decide +kernel
theorem dX6_add_27 : decode cX6_add 27 = .ok (.invokevirtual 22, 3) := by decide +kernel
theorem dX6_add_30 : decode cX6_add 30 = .ok (.aload_n 0, 1) := by decide +kernel
theorem dX6_add_31 : decode cX6_add 31 = .ok (.dup, 1) := by decide +kernel
theorem dX6_add_32 : decode cX6_add 32 = .ok (.getfield 17, 3) := by decide +kernel
theorem dX6_add_35 : decode cX6_add 35 = .ok (.iconst 1, 1) := by decide +kernel
theorem dX6_add_36 : decode cX6_add 36 = .ok (.iadd, 1) := by decide +kernel
theorem dX6_add_37 : decode cX6_add 37 = .ok (.putfield 17, 3) := by decide +kernel
theorem dX6_add_40 : decode cX6_add 40 = .ok (.aload_n 0, 1) := by decide +kernel
theorem dX6_add_41 : decode cX6_add 41 = .ok (.getfield 17, 3) := by decide +kernel
theorem dX6_add_44 : decode cX6_add 44 = .ok (.iconst 1, 1) := by decide +kernel
theorem dX6_add_45 : decode cX6_add 45 = .ok (.isub, 1) := by decide +kernel
theorem dX6_add_46 : decode cX6_add 46 = .ok (.ireturn, 1) := by decide +kernel
theorem dX6_takeAway_0 : decode cX6_takeAway 0 = .ok (.aload_n 0, 1) := by decide +kernel
theorem dX6_takeAway_1 : decode cX6_takeAway 1 = .ok (.iload_n 1, 1) := by decide +kernel
theorem dX6_takeAway_2 : decode cX6_takeAway 2 = .ok (.invokevirtual 26, 3) := by decide +kernel
theorem dX6_takeAway_5 : decode cX6_takeAway 5 = .ok (.ifnonnull 5, 3) := by decide +kernel
theorem dX6_takeAway_8 : decode cX6_takeAway 8 = .ok (.iconst (-1), 1) := by decide +kernel
theorem dX6_takeAway_9 : decode cX6_takeAway 9 = .ok (.ireturn, 1) := by decide +kernel
theorem dX6_takeAway_10 : decode cX6_takeAway 10 = .ok (.iload_n 1, 1) := by decide +kernel
theorem dX6_takeAway_11 : decode cX6_takeAway 11 = .ok (.istore_n 2, 1) := by decide +kernel
theorem dX6_takeAway_12 : decode cX6_takeAway 12 = .ok (.iload_n 2, 1) := by decide +kernel
theorem dX6_takeAway_13 : decode cX6_takeAway 13 = .ok (.iconst 1, 1) := by decide +kernel
theorem dX6_takeAway_14 : decode cX6_takeAway 14 = .ok (.iadd, 1) := by decide +kernel
theorem dX6_takeAway_15 : decode cX6_takeAway 15 = .ok (.aload_n 0, 1) := by decide +kernel
theorem dX6_takeAway_16 : decode cX6_takeAway 16 = .ok (.getfield 17, 3) := by decide +kernel
theorem dX6_takeAway_19 : decode cX6_takeAway 19 = .ok (.if_icmp .ge 37, 3) := by decide +kernel
theorem dX6_takeAway_22 : decode cX6_takeAway 22 = .ok (.iload_n 2, 1) := by decide +kernel
theorem dX6_takeAway_23 : decode cX6_takeAway 23 = .ok (.iconst 1, 1) := by decide +kernel
theorem dX6_takeAway_24 : decode cX6_takeAway 24 = .ok (.iadd, 1) := by decide +kernel
theorem dX6_takeAway_25 : decode cX6_takeAway 25 = .ok (.aload_n 0, 1) := by decide +kernel
theorem dX6_takeAway_26 : decode cX6_takeAway 26 = .ok (.getfield 11, 3) := by decide +kernel
theorem dX6_takeAway_29 : decode cX6_takeAway 29 = .ok (.arraylength, 1) := by decide +kernel
theorem dX6_takeAway_30 : decode cX6_takeAway 30 = .ok (.if_icmp .ge 26, 3) := by decide +kernel
theorem dX6_takeAway_33 : decode cX6_takeAway 33 = .ok (.aload_n 0, 1) := by decide +kernel
theorem dX6_takeAway_34 : decode cX6_takeAway 34 = .ok (.getfield 11, 3) := by decide +kernel
theorem dX6_takeAway_37 : decode cX6_takeAway 37 = .ok (.iload_n 2, 1) := by decide +kernel
theorem dX6_takeAway_38 : decode cX6_takeAway 38 = .ok (.aaload, 1) := by decide +kernel
theorem dX6_takeAway_39 : decode cX6_takeAway 39 = .ok (.aload_n 0, 1) := by decide +kernel
theorem dX6_takeAway_40 : decode cX6_takeAway 40 = .ok (.getfield 11, 3) := by decide +kernel
theorem dX6_takeAway_43 : decode cX6_takeAway 43 = .ok (.iload_n 2, 1) := by decide +kernel
theorem dX6_takeAway_44 : decode cX6_takeAway 44 = .ok (.iconst 1, 1) := by decide +kernel
theorem dX6_takeAway_45 : decode cX6_takeAway 45 = .ok (.iadd, 1) := by decide +kernel
theorem dX6_takeAway_46 : decode cX6_takeAway 46 = .ok (.aaload, 1) := by decide +kernel
theorem dX6_takeAway_47 : decode cX6_takeAway 47 = .ok (.invokevirtual 30, 3) := by decide +kernel
theorem dX6_takeAway_50 : decode cX6_takeAway 50 = .ok (.iinc 2 1, 3) := by decide +kernel
theorem dX6_takeAway_53 : decode cX6_takeAway 53 = .ok (.goto (-41), 3) := by decide +kernel
theorem dX6_takeAway_56 : decode cX6_takeAway 56 = .ok (.aload_n 0, 1) := by decide +kernel
theorem dX6_takeAway_57 : decode cX6_takeAway 57 = .ok (.dup, 1) := by decide +kernel
theorem dX6_takeAway_58 : decode cX6_takeAway 58 = .ok (.getfield 17, 3) := by decide +kernel
theorem dX6_takeAway_61 : decode cX6_takeAway 61 = .ok (.iconst 1, 1) := by decide +kernel
theorem dX6_takeAway_62 : decode cX6_takeAway 62 = .ok (.isub, 1) := by decide +kernel
theorem dX6_takeAway_63 : decode cX6_takeAway 63 = .ok (.putfield 17, 3) := by decide +kernel
theorem dX6_takeAway_66 : decode cX6_takeAway 66 = .ok (.aload_n 0, 1) := by decide +kernel
theorem dX6_takeAway_67 : decode cX6_takeAway 67 = .ok (.getfield 17, 3) := by decide +kernel
theorem dX6_takeAway_70 : decode cX6_takeAway 70 = .ok (.ireturn, 1) := by decide +kernel
theorem dX6_becomeLike_0 : decode cX6_becomeLike 0 = .ok (.iconst 0, 1) := by decide +kernel
theorem dX6_becomeLike_1 : decode cX6_becomeLike 1 = .ok (.istore_n 2, 1) := by decide +kernel
theorem dX6_becomeLike_2 : decode cX6_becomeLike 2 = .ok (.iload_n 2, 1) := by decide +kernel
theorem dX6_becomeLike_3 : decode cX6_becomeLike 3 = .ok (.aload_n 0, 1) := by decide +kernel
theorem dX6_becomeLike_4 : decode cX6_becomeLike 4 = .ok (.getfield 11, 3) := by decide +kernel
theorem dX6_becomeLike_7 : decode cX6_becomeLike 7 = .ok (.arraylength, 1) := by decide +kernel
theorem dX6_becomeLike_8 : decode cX6_becomeLike 8 = .ok (.if_icmp .ge 33, 3) := by decide +kernel
theorem dX6_becomeLike_11 : decode cX6_becomeLike 11 = .ok (.iload_n 2, 1) := by decide +kernel
theorem dX6_becomeLike_12 : decode cX6_becomeLike 12 = .ok (.aload_n 1, 1) := by decide +kernel
theorem dX6_becomeLike_13 : decode cX6_becomeLike 13 = .ok (.getfield 11, 3) := by decide +kernel
theorem dX6_becomeLike_16 : decode cX6_becomeLike 16 = .ok (.arraylength, 1) := by decide +kernel
theorem dX6_becomeLike_17 : decode cX6_becomeLike 17 = .ok (.if_icmp .ge 24, 3) := by decide +kernel
theorem dX6_becomeLike_20 : decode cX6_becomeLike 20 = .ok (.aload_n 0, 1) := by decide +kernel
theorem dX6_becomeLike_21 : decode cX6_becomeLike 21 = .ok (.getfield 11, 3) := by decide +kernel
theorem dX6_becomeLike_24 : decode cX6_becomeLike 24 = .ok (.iload_n 2, 1) := by decide +kernel
theorem dX6_becomeLike_25 : decode cX6_becomeLike 25 = .ok (.aaload, 1) := by decide +kernel
theorem dX6_becomeLike_26 : decode cX6_becomeLike 26 = .ok (.aload_n 1, 1) := by decide +kernel
theorem dX6_becomeLike_27 : decode cX6_becomeLike 27 = .ok (.getfield 11, 3) := by decide +kernel
theorem dX6_becomeLike_30 : decode cX6_becomeLike 30 = .ok (.iload_n 2, 1) := by decide +kernel
theorem dX6_becomeLike_31 : decode cX6_becomeLike 31 = .ok (.aaload, 1) := by decide +kernel
theorem dX6_becomeLike_32 : decode cX6_becomeLike 32 = .ok (.invokevirtual 30, 3) := by decide +kernel
theorem dX6_becomeLike_35 : decode cX6_becomeLike 35 = .ok (.iinc 2 1, 3) := by decide +kernel
theorem dX6_becomeLike_38 : decode cX6_becomeLike 38 = .ok (.goto (-36), 3) := by decide +kernel
theorem dX6_becomeLike_41 : decode cX6_becomeLike 41 = .ok (.aload_n 0, 1) := by decide +kernel
theorem dX6_becomeLike_42 : decode cX6_becomeLike 42 = .ok (.aload_n 1, 1) := by decide +kernel
theorem dX6_becomeLike_43 : decode cX6_becomeLike 43 = .ok (.getfield 17, 3) := by decide +kernel
theorem dX6_becomeLike_46 : decode cX6_becomeLike 46 = .ok (.putfield 17, 3) := by decide +kernel
theorem dX6_becomeLike_49 : decode cX6_becomeLike 49 = .ok (.return_, 1) := by decide +kernel
theorem dX7_init_0 : decode cX7_init 0 = .ok (.aload_n 0, 1) := by decide +kernel
theorem dX7_init_1 : decode cX7_init 1 = .ok (.invokespecial 3, 3) := by decide +kernel
theorem dX7_init_4 : decode cX7_init 4 = .ok (.aload_n 0, 1) := by decide +kernel
theorem dX7_init_5 : decode cX7_init 5 = .ok (.bipush 80, 2) := by decide +kernel
theorem dX7_init_7 : decode cX7_init 7 = .ok (.newarray .int, 2) := by decide +kernel
theorem dX7_init_9 : decode cX7_init 9 = .ok (.putfield 9, 3) := by decide +kernel
theorem dX7_init_12 : decode cX7_init 12 = .ok (.aload_n 0, 1) := by decide +kernel
theorem dX7_init_13 : decode cX7_init 13 = .ok (.iconst 0, 1) := by decide +kernel
theorem dX7_init_14 : decode cX7_init 14 = .ok (.putfield 15, 3) := by decide +kernel
theorem dX7_init_17 : decode cX7_init 17 = .ok (.aload_n 0, 1) := by decide +kernel
theorem dX7_init_18 : decode cX7_init 18 = .ok (.iconst 0, 1) := by decide +kernel
theorem dX7_init_19 : decode cX7_init 19 = .ok (.putfield 19, 3) := by decide +kernel
theorem dX7_init_22 : decode cX7_init 22 = .ok (.aload_n 0, 1) := by decide +kernel
theorem dX7_init_23 : decode cX7_init 23 = .ok (.lconst 0, 1) := by decide +kernel
theorem dX7_init_24 : decode cX7_init 24 = .ok (.putfield 22, 3) := by decide +kernel
theorem dX7_init_27 : decode cX7_init 27 = .ok (.return_, 1) := by decide +kernel
theorem dX7_add_0 : decode cX7_add 0 = .ok (.aload_n 0, 1) := by decide +kernel
theorem dX7_add_1 : decode cX7_add 1 = .ok (.getfield 15, 3) := by decide +kernel
theorem dX7_add_4 : decode cX7_add 4 = .ok (.aload_n 0, 1) := by decide +kernel
theorem dX7_add_5 : decode cX7_add 5 = .ok (.getfield 9, 3) := by decide +kernel
theorem dX7_add_8 : decode cX7_add 8 = .ok (.arraylength, 1) := by decide +kernel
theorem dX7_add_9 : decode cX7_add 9 = .ok (.if_icmp .ge 25, 3) := by decide +kernel
theorem dX7_add_12 : decode cX7_add 12 = .ok (.aload_n 0, 1) := by decide +kernel
theorem dX7_add_13 : decode cX7_add 13 = .ok (.getfield 9, 3) := by decide +kernel
theorem dX7_add_16 : decode cX7_add 16 = .ok (.aload_n 0, 1) := by decide +kernel
theorem dX7_add_17 : decode cX7_add 17 = .ok (.getfield 15, 3) := by decide +kernel
theorem dX7_add_20 : decode cX7_add 20 = .ok (.iload_n 1, 1) := by decide +kernel
theorem dX7_add_21 : decode cX7_add 21 = .ok (.invokestatic 26, 3) := by decide +kernel
theorem dX7_add_24 : decode cX7_add 24 = .ok (.aload_n 0, 1) := by decide +kernel
theorem dX7_add_25 : decode cX7_add 25 = .ok (.dup, 1) := by decide +kernel
theorem dX7_add_26 : decode cX7_add 26 = .ok (.getfield 15, 3) := by decide +kernel
theorem dX7_add_29 : decode cX7_add 29 = .ok (.iconst 1, 1) := by decide +kernel
theorem dX7_add_30 : decode cX7_add 30 = .ok (.iadd, 1) := by decide +kernel
theorem dX7_add_31 : decode cX7_add 31 = .ok (.putfield 15, 3) := by decide +kernel
theorem dX7_add_34 : decode cX7_add 34 = .ok (.return_, 1) := by decide +kernel
theorem dX7_clear_0 : decode cX7_clear 0 = .ok (.aload_n 0, 1) := by decide +kernel
theorem dX7_clear_1 : decode cX7_clear 1 = .ok (.iconst 0, 1) := by decide +kernel
theorem dX7_clear_2 : decode cX7_clear 2 = .ok (.putfield 15, 3) := by decide +kernel
theorem dX7_clear_5 : decode cX7_clear 5 = .ok (.return_, 1) := by decide +kernel
theorem dX7_byteAt_0 : decode cX7_byteAt 0 = .ok (.iload_n 1, 1) := by decide +kernel
theorem dX7_byteAt_1 : decode cX7_byteAt 1 = .ok (.ifCond .lt 22, 3) := by decide +kernel
theorem dX7_byteAt_4 : decode cX7_byteAt 4 = .ok (.iload_n 1, 1) := by decide +kernel
theorem dX7_byteAt_5 : decode cX7_byteAt 5 = .ok (.aload_n 0, 1) := by decide +kernel
theorem dX7_byteAt_6 : decode cX7_byteAt 6 = .ok (.getfield 15, 3) := by decide +kernel
theorem dX7_byteAt_9 : decode cX7_byteAt 9 = .ok (.if_icmp .ge 14, 3) := by decide +kernel
theorem dX7_byteAt_12 : decode cX7_byteAt 12 = .ok (.aload_n 0, 1) := by decide +kernel
theorem dX7_byteAt_13 : decode cX7_byteAt 13 = .ok (.getfield 9, 3) := by decide +kernel
theorem dX7_byteAt_16 : decode cX7_byteAt 16 = .ok (.iload_n 1, 1) := by decide +kernel
theorem dX7_byteAt_17 : decode cX7_byteAt 17 = .ok (.invokestatic 30, 3) := by decide +kernel
theorem dX7_byteAt_20 : decode cX7_byteAt 20 = .ok (.goto 4, 3) := by decide +kernel
theorem dX7_byteAt_23 : decode cX7_byteAt 23 = .ok (.iconst (-1), 1) := by decide +kernel
theorem dX7_byteAt_24 : decode cX7_byteAt 24 = .ok (.ireturn, 1) := by decide +kernel
theorem dX7_bears_0 : decode cX7_bears 0 = .ok (.iload_n 2, 1) := by decide +kernel
theorem dX7_bears_1 : decode cX7_bears 1 = .ok (.iload_n 1, 1) := by decide +kernel
theorem dX7_bears_2 : decode cX7_bears 2 = .ok (.isub, 1) := by decide +kernel
theorem dX7_bears_3 : decode cX7_bears 3 = .ok (.aload_n 3, 1) := by decide +kernel
theorem dX7_bears_4 : decode cX7_bears 4 = .ok (.invokevirtual 34, 3) := by decide +kernel
theorem dX7_bears_7 : decode cX7_bears 7 = .ok (.if_icmp .eq 5, 3) := by decide +kernel
theorem dX7_bears_10 : decode cX7_bears 10 = .ok (.iconst 0, 1) := by decide +kernel
theorem dX7_bears_11 : decode cX7_bears 11 = .ok (.ireturn, 1) := by decide +kernel
theorem dX7_bears_12 : decode cX7_bears 12 = .ok (.iconst 0, 1) := by decide +kernel
theorem dX7_bears_13 : decode cX7_bears 13 = .ok (.istore 4, 2) := by decide +kernel
theorem dX7_bears_15 : decode cX7_bears 15 = .ok (.iload 4, 2) := by decide +kernel
theorem dX7_bears_17 : decode cX7_bears 17 = .ok (.aload_n 3, 1) := by decide +kernel
theorem dX7_bears_18 : decode cX7_bears 18 = .ok (.invokevirtual 34, 3) := by decide +kernel
theorem dX7_bears_21 : decode cX7_bears 21 = .ok (.if_icmp .ge 28, 3) := by decide +kernel
theorem dX7_bears_24 : decode cX7_bears 24 = .ok (.aload_n 0, 1) := by decide +kernel
theorem dX7_bears_25 : decode cX7_bears 25 = .ok (.iload_n 1, 1) := by decide +kernel
theorem dX7_bears_26 : decode cX7_bears 26 = .ok (.iload 4, 2) := by decide +kernel
theorem dX7_bears_28 : decode cX7_bears 28 = .ok (.iadd, 1) := by decide +kernel
theorem dX7_bears_29 : decode cX7_bears 29 = .ok (.invokevirtual 39, 3) := by decide +kernel
theorem dX7_bears_32 : decode cX7_bears 32 = .ok (.aload_n 3, 1) := by decide +kernel
theorem dX7_bears_33 : decode cX7_bears 33 = .ok (.iload 4, 2) := by decide +kernel
theorem dX7_bears_35 : decode cX7_bears 35 = .ok (.invokevirtual 43, 3) := by decide +kernel
theorem dX7_bears_38 : decode cX7_bears 38 = .ok (.if_icmp .eq 5, 3) := by decide +kernel
theorem dX7_bears_41 : decode cX7_bears 41 = .ok (.iconst 0, 1) := by decide +kernel
theorem dX7_bears_42 : decode cX7_bears 42 = .ok (.ireturn, 1) := by decide +kernel
theorem dX7_bears_43 : decode cX7_bears 43 = .ok (.iinc 4 1, 3) := by decide +kernel
theorem dX7_bears_46 : decode cX7_bears 46 = .ok (.goto (-31), 3) := by decide +kernel
theorem dX7_bears_49 : decode cX7_bears 49 = .ok (.iconst 1, 1) := by decide +kernel
theorem dX7_bears_50 : decode cX7_bears 50 = .ok (.ireturn, 1) := by decide +kernel
theorem dX7_isAtEnd_0 : decode cX7_isAtEnd 0 = .ok (.aload_n 0, 1) := by decide +kernel
theorem dX7_isAtEnd_1 : decode cX7_isAtEnd 1 = .ok (.getfield 19, 3) := by decide +kernel
theorem dX7_isAtEnd_4 : decode cX7_isAtEnd 4 = .ok (.aload_n 0, 1) := by decide +kernel
theorem dX7_isAtEnd_5 : decode cX7_isAtEnd 5 = .ok (.getfield 15, 3) := by decide +kernel
theorem dX7_isAtEnd_8 : decode cX7_isAtEnd 8 = .ok (.if_icmp .lt 7, 3) := by decide +kernel
theorem dX7_isAtEnd_11 : decode cX7_isAtEnd 11 = .ok (.iconst 1, 1) := by decide +kernel
theorem dX7_isAtEnd_12 : decode cX7_isAtEnd 12 = .ok (.goto 4, 3) := by decide +kernel
theorem dX7_isAtEnd_15 : decode cX7_isAtEnd 15 = .ok (.iconst 0, 1) := by decide +kernel
theorem dX7_isAtEnd_16 : decode cX7_isAtEnd 16 = .ok (.ireturn, 1) := by decide +kernel
theorem dX7_takes_0 : decode cX7_takes 0 = .ok (.aload_n 0, 1) := by decide +kernel
theorem dX7_takes_1 : decode cX7_takes 1 = .ok (.aload_n 0, 1) := by decide +kernel
theorem dX7_takes_2 : decode cX7_takes 2 = .ok (.getfield 19, 3) := by decide +kernel
theorem dX7_takes_5 : decode cX7_takes 5 = .ok (.invokevirtual 39, 3) := by decide +kernel
theorem dX7_takes_8 : decode cX7_takes 8 = .ok (.iload_n 1, 1) := by decide +kernel
theorem dX7_takes_9 : decode cX7_takes 9 = .ok (.if_icmp .eq 5, 3) := by decide +kernel
theorem dX7_takes_12 : decode cX7_takes 12 = .ok (.iconst 0, 1) := by decide +kernel
theorem dX7_takes_13 : decode cX7_takes 13 = .ok (.ireturn, 1) := by decide +kernel
theorem dX7_takes_14 : decode cX7_takes 14 = .ok (.aload_n 0, 1) := by decide +kernel
theorem dX7_takes_15 : decode cX7_takes 15 = .ok (.dup, 1) := by decide +kernel
theorem dX7_takes_16 : decode cX7_takes 16 = .ok (.getfield 19, 3) := by decide +kernel
theorem dX7_takes_19 : decode cX7_takes 19 = .ok (.iconst 1, 1) := by decide +kernel
theorem dX7_takes_20 : decode cX7_takes 20 = .ok (.iadd, 1) := by decide +kernel
theorem dX7_takes_21 : decode cX7_takes 21 = .ok (.putfield 19, 3) := by decide +kernel
theorem dX7_takes_24 : decode cX7_takes 24 = .ok (.iconst 1, 1) := by decide +kernel
theorem dX7_takes_25 : decode cX7_takes 25 = .ok (.ireturn, 1) := by decide +kernel
theorem dX7_takeLetters_0 : decode cX7_takeLetters 0 = .ok (.aload_n 0, 1) := by decide +kernel
theorem dX7_takeLetters_1 : decode cX7_takeLetters 1 = .ok (.getfield 19, 3) := by decide +kernel
theorem dX7_takeLetters_4 : decode cX7_takeLetters 4 = .ok (.aload_n 0, 1) := by decide +kernel
theorem dX7_takeLetters_5 : decode cX7_takeLetters 5 = .ok (.getfield 15, 3) := by decide +kernel
theorem dX7_takeLetters_8 : decode cX7_takeLetters 8 = .ok (.if_icmp .ge 34, 3) := by decide +kernel
theorem dX7_takeLetters_11 : decode cX7_takeLetters 11 = .ok (.aload_n 0, 1) := by decide +kernel
theorem dX7_takeLetters_12 : decode cX7_takeLetters 12 = .ok (.aload_n 0, 1) := by decide +kernel
theorem dX7_takeLetters_13 : decode cX7_takeLetters 13 = .ok (.getfield 19, 3) := by decide +kernel
theorem dX7_takeLetters_16 : decode cX7_takeLetters 16 = .ok (.invokevirtual 39, 3) := by decide +kernel
theorem dX7_takeLetters_19 : decode cX7_takeLetters 19 = .ok (.bipush 97, 2) := by decide +kernel
theorem dX7_takeLetters_21 : decode cX7_takeLetters 21 = .ok (.bipush 122, 2) := by decide +kernel
theorem dX7_takeLetters_23 : decode cX7_takeLetters 23 = .ok (.invokestatic 47, 3) := by decide +kernel
theorem dX7_takeLetters_26 : decode cX7_takeLetters 26 = .ok (.ifCond .eq 16, 3) := by decide +kernel
theorem dX7_takeLetters_29 : decode cX7_takeLetters 29 = .ok (.aload_n 0, 1) := by decide +kernel
theorem dX7_takeLetters_30 : decode cX7_takeLetters 30 = .ok (.dup, 1) := by decide +kernel
theorem dX7_takeLetters_31 : decode cX7_takeLetters 31 = .ok (.getfield 19, 3) := by decide +kernel
theorem dX7_takeLetters_34 : decode cX7_takeLetters 34 = .ok (.iconst 1, 1) := by decide +kernel
theorem dX7_takeLetters_35 : decode cX7_takeLetters 35 = .ok (.iadd, 1) := by decide +kernel
theorem dX7_takeLetters_36 : decode cX7_takeLetters 36 = .ok (.putfield 19, 3) := by decide +kernel
theorem dX7_takeLetters_39 : decode cX7_takeLetters 39 = .ok (.goto (-39), 3) := by decide +kernel
theorem dX7_takeLetters_42 : decode cX7_takeLetters 42 = .ok (.return_, 1) := by decide +kernel
theorem dX7_takeDigits_0 : decode cX7_takeDigits 0 = .ok (.iconst 0, 1) := by decide +kernel
theorem dX7_takeDigits_1 : decode cX7_takeDigits 1 = .ok (.istore_n 2, 1) := by decide +kernel
theorem dX7_takeDigits_2 : decode cX7_takeDigits 2 = .ok (.iload_n 2, 1) := by decide +kernel
theorem dX7_takeDigits_3 : decode cX7_takeDigits 3 = .ok (.iconst 4, 1) := by decide +kernel
theorem dX7_takeDigits_4 : decode cX7_takeDigits 4 = .ok (.if_icmp .ge 58, 3) := by decide +kernel
theorem dX7_takeDigits_7 : decode cX7_takeDigits 7 = .ok (.aload_n 0, 1) := by decide +kernel
theorem dX7_takeDigits_8 : decode cX7_takeDigits 8 = .ok (.aload_n 0, 1) := by decide +kernel
theorem dX7_takeDigits_9 : decode cX7_takeDigits 9 = .ok (.getfield 19, 3) := by decide +kernel
theorem dX7_takeDigits_12 : decode cX7_takeDigits 12 = .ok (.invokevirtual 51, 3) := by decide +kernel
theorem dX7_takeDigits_15 : decode cX7_takeDigits 15 = .ok (.iconst 0, 1) := by decide +kernel
theorem dX7_takeDigits_16 : decode cX7_takeDigits 16 = .ok (.iload_n 1, 1) := by decide +kernel
theorem dX7_takeDigits_17 : decode cX7_takeDigits 17 = .ok (.iconst 1, 1) := by decide +kernel
theorem dX7_takeDigits_18 : decode cX7_takeDigits 18 = .ok (.isub, 1) := by decide +kernel
theorem dX7_takeDigits_19 : decode cX7_takeDigits 19 = .ok (.invokestatic 47, 3) := by decide +kernel
theorem dX7_takeDigits_22 : decode cX7_takeDigits 22 = .ok (.ifCond .eq 40, 3) := by decide +kernel
theorem dX7_takeDigits_25 : decode cX7_takeDigits 25 = .ok (.aload_n 0, 1) := by decide +kernel
theorem dX7_takeDigits_26 : decode cX7_takeDigits 26 = .ok (.aload_n 0, 1) := by decide +kernel
theorem dX7_takeDigits_27 : decode cX7_takeDigits 27 = .ok (.getfield 22, 3) := by decide +kernel
theorem dX7_takeDigits_30 : decode cX7_takeDigits 30 = .ok (.iload_n 1, 1) := by decide +kernel
theorem dX7_takeDigits_31 : decode cX7_takeDigits 31 = .ok (.i2l, 1) := by decide +kernel
theorem dX7_takeDigits_32 : decode cX7_takeDigits 32 = .ok (.lmul, 1) := by decide +kernel
theorem dX7_takeDigits_33 : decode cX7_takeDigits 33 = .ok (.aload_n 0, 1) := by decide +kernel
theorem dX7_takeDigits_34 : decode cX7_takeDigits 34 = .ok (.aload_n 0, 1) := by decide +kernel
theorem dX7_takeDigits_35 : decode cX7_takeDigits 35 = .ok (.getfield 19, 3) := by decide +kernel
theorem dX7_takeDigits_38 : decode cX7_takeDigits 38 = .ok (.invokevirtual 51, 3) := by decide +kernel
theorem dX7_takeDigits_41 : decode cX7_takeDigits 41 = .ok (.i2l, 1) := by decide +kernel
theorem dX7_takeDigits_42 : decode cX7_takeDigits 42 = .ok (.ladd, 1) := by decide +kernel
theorem dX7_takeDigits_43 : decode cX7_takeDigits 43 = .ok (.putfield 22, 3) := by decide +kernel
theorem dX7_takeDigits_46 : decode cX7_takeDigits 46 = .ok (.aload_n 0, 1) := by decide +kernel
theorem dX7_takeDigits_47 : decode cX7_takeDigits 47 = .ok (.dup, 1) := by decide +kernel
theorem dX7_takeDigits_48 : decode cX7_takeDigits 48 = .ok (.getfield 19, 3) := by decide +kernel
theorem dX7_takeDigits_51 : decode cX7_takeDigits 51 = .ok (.iconst 1, 1) := by decide +kernel
theorem dX7_takeDigits_52 : decode cX7_takeDigits 52 = .ok (.iadd, 1) := by decide +kernel
theorem dX7_takeDigits_53 : decode cX7_takeDigits 53 = .ok (.putfield 19, 3) := by decide +kernel
theorem dX7_takeDigits_56 : decode cX7_takeDigits 56 = .ok (.iinc 2 1, 3) := by decide +kernel
theorem dX7_takeDigits_59 : decode cX7_takeDigits 59 = .ok (.goto (-57), 3) := by decide +kernel
theorem dX7_takeDigits_62 : decode cX7_takeDigits 62 = .ok (.iload_n 2, 1) := by decide +kernel
theorem dX7_takeDigits_63 : decode cX7_takeDigits 63 = .ok (.ireturn, 1) := by decide +kernel
theorem dX7_digitOn_0 : decode cX7_digitOn 0 = .ok (.aload_n 0, 1) := by decide +kernel
theorem dX7_digitOn_1 : decode cX7_digitOn 1 = .ok (.iload_n 1, 1) := by decide +kernel
theorem dX7_digitOn_2 : decode cX7_digitOn 2 = .ok (.invokevirtual 39, 3) := by decide +kernel
theorem dX7_digitOn_5 : decode cX7_digitOn 5 = .ok (.istore_n 2, 1) := by decide +kernel
theorem dX7_digitOn_6 : decode cX7_digitOn 6 = .ok (.iload_n 2, 1) := by decide +kernel
theorem dX7_digitOn_7 : decode cX7_digitOn 7 = .ok (.bipush 48, 2) := by decide +kernel
theorem dX7_digitOn_9 : decode cX7_digitOn 9 = .ok (.bipush 57, 2) := by decide +kernel
theorem dX7_digitOn_11 : decode cX7_digitOn 11 = .ok (.invokestatic 47, 3) := by decide +kernel
theorem dX7_digitOn_14 : decode cX7_digitOn 14 = .ok (.ifCond .eq 8, 3) := by decide +kernel
theorem dX7_digitOn_17 : decode cX7_digitOn 17 = .ok (.iload_n 2, 1) := by decide +kernel
theorem dX7_digitOn_18 : decode cX7_digitOn 18 = .ok (.bipush 48, 2) := by decide +kernel
theorem dX7_digitOn_20 : decode cX7_digitOn 20 = .ok (.isub, 1) := by decide +kernel
theorem dX7_digitOn_21 : decode cX7_digitOn 21 = .ok (.ireturn, 1) := by decide +kernel
theorem dX7_digitOn_22 : decode cX7_digitOn 22 = .ok (.iload_n 2, 1) := by decide +kernel
theorem dX7_digitOn_23 : decode cX7_digitOn 23 = .ok (.bipush 97, 2) := by decide +kernel
theorem dX7_digitOn_25 : decode cX7_digitOn 25 = .ok (.bipush 102, 2) := by decide +kernel
theorem dX7_digitOn_27 : decode cX7_digitOn 27 = .ok (.invokestatic 47, 3) := by decide +kernel
theorem dX7_digitOn_30 : decode cX7_digitOn 30 = .ok (.ifCond .eq 13, 3) := by decide +kernel
theorem dX7_digitOn_33 : decode cX7_digitOn 33 = .ok (.iload_n 2, 1) := by decide +kernel
theorem dX7_digitOn_34 : decode cX7_digitOn 34 = .ok (.bipush 97, 2) := by decide +kernel
theorem dX7_digitOn_36 : decode cX7_digitOn 36 = .ok (.isub, 1) := by decide +kernel
theorem dX7_digitOn_37 : decode cX7_digitOn 37 = .ok (.bipush 10, 2) := by decide +kernel
theorem dX7_digitOn_39 : decode cX7_digitOn 39 = .ok (.iadd, 1) := by decide +kernel
theorem dX7_digitOn_40 : decode cX7_digitOn 40 = .ok (.goto 4, 3) := by decide +kernel
theorem dX7_digitOn_43 : decode cX7_digitOn 43 = .ok (.iconst (-1), 1) := by decide +kernel
theorem dX7_digitOn_44 : decode cX7_digitOn 44 = .ok (.ireturn, 1) := by decide +kernel
theorem dX8_init_0 : decode cX8_init 0 = .ok (.aload_n 0, 1) := by decide +kernel
theorem dX8_init_1 : decode cX8_init 1 = .ok (.invokespecial 3, 3) := by decide +kernel
theorem dX8_init_4 : decode cX8_init 4 = .ok (.aload_n 0, 1) := by decide +kernel
theorem dX8_init_5 : decode cX8_init 5 = .ok (.new 9, 3) := by decide +kernel
theorem dX8_init_8 : decode cX8_init 8 = .ok (.dup, 1) := by decide +kernel
theorem dX8_init_9 : decode cX8_init 9 = .ok (.invokespecial 11, 3) := by decide +kernel
theorem dX8_init_12 : decode cX8_init 12 = .ok (.putfield 12, 3) := by decide +kernel
theorem dX8_init_15 : decode cX8_init 15 = .ok (.aload_n 0, 1) := by decide +kernel
theorem dX8_init_16 : decode cX8_init 16 = .ok (.new 18, 3) := by decide +kernel
theorem dX8_init_19 : decode cX8_init 19 = .ok (.dup, 1) := by decide +kernel
theorem dX8_init_20 : decode cX8_init 20 = .ok (.invokespecial 20, 3) := by decide +kernel
theorem dX8_init_23 : decode cX8_init 23 = .ok (.putfield 21, 3) := by decide +kernel
theorem dX8_init_26 : decode cX8_init 26 = .ok (.aload_n 0, 1) := by decide +kernel
theorem dX8_init_27 : decode cX8_init 27 = .ok (.new 25, 3) := by decide +kernel
theorem dX8_init_30 : decode cX8_init 30 = .ok (.dup, 1) := by decide +kernel
theorem dX8_init_31 : decode cX8_init 31 = .ok (.invokespecial 27, 3) := by decide +kernel
theorem dX8_init_34 : decode cX8_init 34 = .ok (.putfield 28, 3) := by decide +kernel
theorem dX8_init_37 : decode cX8_init 37 = .ok (.aload_n 0, 1) := by decide +kernel
theorem dX8_init_38 : decode cX8_init 38 = .ok (.new 32, 3) := by decide +kernel
theorem dX8_init_41 : decode cX8_init 41 = .ok (.dup, 1) := by decide +kernel
theorem dX8_init_42 : decode cX8_init 42 = .ok (.invokespecial 34, 3) := by decide +kernel
theorem dX8_init_45 : decode cX8_init 45 = .ok (.putfield 35, 3) := by decide +kernel
theorem dX8_init_48 : decode cX8_init 48 = .ok (.aload_n 0, 1) := by decide +kernel
theorem dX8_init_49 : decode cX8_init 49 = .ok (.new 39, 3) := by decide +kernel
theorem dX8_init_52 : decode cX8_init 52 = .ok (.dup, 1) := by decide +kernel
theorem dX8_init_53 : decode cX8_init 53 = .ok (.invokespecial 41, 3) := by decide +kernel
theorem dX8_init_56 : decode cX8_init 56 = .ok (.putfield 42, 3) := by decide +kernel
theorem dX8_init_59 : decode cX8_init 59 = .ok (.aload_n 0, 1) := by decide +kernel
theorem dX8_init_60 : decode cX8_init 60 = .ok (.bipush 6, 2) := by decide +kernel
theorem dX8_init_62 : decode cX8_init 62 = .ok (.anewarray 46, 3) := by decide +kernel
theorem dX8_init_65 : decode cX8_init 65 = .ok (.putfield 48, 3) := by decide +kernel
theorem dX8_init_68 : decode cX8_init 68 = .ok (.aload_n 0, 1) := by decide +kernel
theorem dX8_init_69 : decode cX8_init 69 = .ok (.new 9, 3) := by decide +kernel
theorem dX8_init_72 : decode cX8_init 72 = .ok (.dup, 1) := by decide +kernel
theorem dX8_init_73 : decode cX8_init 73 = .ok (.invokespecial 11, 3) := by decide +kernel
theorem dX8_init_76 : decode cX8_init 76 = .ok (.putfield 52, 3) := by decide +kernel
theorem dX8_init_79 : decode cX8_init 79 = .ok (.aload_n 0, 1) := by decide +kernel
theorem dX8_init_80 : decode cX8_init 80 = .ok (.new 18, 3) := by decide +kernel
theorem dX8_init_83 : decode cX8_init 83 = .ok (.dup, 1) := by decide +kernel
theorem dX8_init_84 : decode cX8_init 84 = .ok (.invokespecial 20, 3) := by decide +kernel
theorem dX8_init_87 : decode cX8_init 87 = .ok (.putfield 55, 3) := by decide +kernel
theorem dX8_init_90 : decode cX8_init 90 = .ok (.aload_n 0, 1) := by decide +kernel
theorem dX8_init_91 : decode cX8_init 91 = .ok (.iconst 0, 1) := by decide +kernel
theorem dX8_init_92 : decode cX8_init 92 = .ok (.putfield 58, 3) := by decide +kernel
theorem dX8_init_95 : decode cX8_init 95 = .ok (.aload_n 0, 1) := by decide +kernel
theorem dX8_init_96 : decode cX8_init 96 = .ok (.new 62, 3) := by decide +kernel
theorem dX8_init_99 : decode cX8_init 99 = .ok (.dup, 1) := by decide +kernel
theorem dX8_init_100 : decode cX8_init 100 = .ok (.invokespecial 64, 3) := by decide +kernel
theorem dX8_init_103 : decode cX8_init 103 = .ok (.putfield 65, 3) := by decide +kernel
theorem dX8_init_106 : decode cX8_init 106 = .ok (.aload_n 0, 1) := by decide +kernel
theorem dX8_init_107 : decode cX8_init 107 = .ok (.new 69, 3) := by decide +kernel
theorem dX8_init_110 : decode cX8_init 110 = .ok (.dup, 1) := by decide +kernel
theorem dX8_init_111 : decode cX8_init 111 = .ok (.invokespecial 71, 3) := by decide +kernel
theorem dX8_init_114 : decode cX8_init 114 = .ok (.putfield 72, 3) := by decide +kernel
theorem dX8_init_117 : decode cX8_init 117 = .ok (.aload_n 0, 1) := by decide +kernel
theorem dX8_init_118 : decode cX8_init 118 = .ok (.sipush 1000, 3) := by decide +kernel
theorem dX8_init_121 : decode cX8_init 121 = .ok (.newarray .int, 2) := by decide +kernel
theorem dX8_init_123 : decode cX8_init 123 = .ok (.putfield 76, 3) := by decide +kernel
theorem dX8_init_126 : decode cX8_init 126 = .ok (.iconst 0, 1) := by decide +kernel
theorem dX8_init_127 : decode cX8_init 127 = .ok (.istore_n 1, 1) := by decide +kernel
theorem dX8_init_128 : decode cX8_init 128 = .ok (.iload_n 1, 1) := by decide +kernel
theorem dX8_init_129 : decode cX8_init 129 = .ok (.aload_n 0, 1) := by decide +kernel
theorem dX8_init_130 : decode cX8_init 130 = .ok (.getfield 48, 3) := by decide +kernel
theorem dX8_init_133 : decode cX8_init 133 = .ok (.arraylength, 1) := by decide +kernel
theorem dX8_init_134 : decode cX8_init 134 = .ok (.if_icmp .ge 22, 3) := by decide +kernel
theorem dX8_init_137 : decode cX8_init 137 = .ok (.aload_n 0, 1) := by decide +kernel
theorem dX8_init_138 : decode cX8_init 138 = .ok (.getfield 48, 3) := by decide +kernel
theorem dX8_init_141 : decode cX8_init 141 = .ok (.iload_n 1, 1) := by decide +kernel
theorem dX8_init_142 : decode cX8_init 142 = .ok (.new 46, 3) := by decide +kernel
theorem dX8_init_145 : decode cX8_init 145 = .ok (.dup, 1) := by decide +kernel
theorem dX8_init_146 : decode cX8_init 146 = .ok (.invokespecial 80, 3) := by decide +kernel
theorem dX8_init_149 : decode cX8_init 149 = .ok (.aastore, 1) := by decide +kernel
theorem dX8_init_150 : decode cX8_init 150 = .ok (.iinc 1 1, 3) := by decide +kernel
theorem dX8_init_153 : decode cX8_init 153 = .ok (.goto (-25), 3) := by decide +kernel
theorem dX8_init_156 : decode cX8_init 156 = .ok (.return_, 1) := by decide +kernel
theorem dX8_fraction_0 : decode cX8_fraction 0 = .ok (.iload_n 1, 1) := by decide +kernel
theorem dX8_fraction_1 : decode cX8_fraction 1 = .ok (.iconst 0, 1) := by decide +kernel
theorem dX8_fraction_2 : decode cX8_fraction 2 = .ok (.sipush 9999, 3) := by decide +kernel
theorem dX8_fraction_5 : decode cX8_fraction 5 = .ok (.invokestatic 81, 3) := by decide +kernel
theorem dX8_fraction_8 : decode cX8_fraction 8 = .ok (.ifCond .eq 21, 3) := by decide +kernel
theorem dX8_fraction_11 : decode cX8_fraction 11 = .ok (.iload_n 2, 1) := by decide +kernel
theorem dX8_fraction_12 : decode cX8_fraction 12 = .ok (.iconst 1, 1) := by decide +kernel
theorem dX8_fraction_13 : decode cX8_fraction 13 = .ok (.sipush 999, 3) := by decide +kernel
theorem dX8_fraction_16 : decode cX8_fraction 16 = .ok (.invokestatic 81, 3) := by decide +kernel
theorem dX8_fraction_19 : decode cX8_fraction 19 = .ok (.ifCond .eq 10, 3) := by decide +kernel
theorem dX8_fraction_22 : decode cX8_fraction 22 = .ok (.iload_n 3, 1) := by decide +kernel
theorem dX8_fraction_23 : decode cX8_fraction 23 = .ok (.invokestatic 85, 3) := by decide +kernel
theorem dX8_fraction_26 : decode cX8_fraction 26 = .ok (.ifCond .ne 5, 3) := by decide +kernel
theorem dX8_fraction_29 : decode cX8_fraction 29 = .ok (.iconst (-1), 1) := by decide +kernel
theorem dX8_fraction_30 : decode cX8_fraction 30 = .ok (.ireturn, 1) := by decide +kernel
theorem dX8_fraction_31 : decode cX8_fraction 31 = .ok (.aload_n 0, 1) := by decide +kernel
theorem dX8_fraction_32 : decode cX8_fraction 32 = .ok (.getfield 12, 3) := by decide +kernel
theorem dX8_fraction_35 : decode cX8_fraction 35 = .ok (.iload_n 1, 1) := by decide +kernel
theorem dX8_fraction_36 : decode cX8_fraction 36 = .ok (.iload_n 2, 1) := by decide +kernel
theorem dX8_fraction_37 : decode cX8_fraction 37 = .ok (.iload_n 3, 1) := by decide +kernel
theorem dX8_fraction_38 : decode cX8_fraction 38 = .ok (.invokevirtual 89, 3) := by decide +kernel
theorem dX8_fraction_41 : decode cX8_fraction 41 = .ok (.ireturn, 1) := by decide +kernel
theorem dX8_drop_0 : decode cX8_drop 0 = .ok (.aload_n 0, 1) := by decide +kernel
theorem dX8_drop_1 : decode cX8_drop 1 = .ok (.getfield 12, 3) := by decide +kernel
theorem dX8_drop_4 : decode cX8_drop 4 = .ok (.iload_n 1, 1) := by decide +kernel
theorem dX8_drop_5 : decode cX8_drop 5 = .ok (.invokevirtual 93, 3) := by decide +kernel
theorem dX8_drop_8 : decode cX8_drop 8 = .ok (.ireturn, 1) := by decide +kernel
theorem dX8_multiply_0 : decode cX8_multiply 0 = .ok (.aload_n 0, 1) := by decide +kernel
theorem dX8_multiply_1 : decode cX8_multiply 1 = .ok (.getfield 12, 3) := by decide +kernel
theorem dX8_multiply_4 : decode cX8_multiply 4 = .ok (.iload_n 1, 1) := by decide +kernel
theorem dX8_multiply_5 : decode cX8_multiply 5 = .ok (.invokevirtual 97, 3) := by decide +kernel
theorem dX8_multiply_8 : decode cX8_multiply 8 = .ok (.astore_n 3, 1) := by decide +kernel
theorem dX8_multiply_9 : decode cX8_multiply 9 = .ok (.aload_n 3, 1) := by decide +kernel
theorem dX8_multiply_10 : decode cX8_multiply 10 = .ok (.ifnull 14, 3) := by decide +kernel
theorem dX8_multiply_13 : decode cX8_multiply 13 = .ok (.iload_n 2, 1) := by decide +kernel
theorem dX8_multiply_14 : decode cX8_multiply 14 = .ok (.iconst 0, 1) := by decide +kernel
theorem dX8_multiply_15 : decode cX8_multiply 15 = .ok (.sipush 999, 3) := by decide +kernel
theorem dX8_multiply_18 : decode cX8_multiply 18 = .ok (.invokestatic 81, 3) := by decide +kernel
theorem dX8_multiply_21 : decode cX8_multiply 21 = .ok (.ifCond .ne 5, 3) := by decide +kernel
theorem dX8_multiply_24 : decode cX8_multiply 24 = .ok (.iconst (-1), 1) := by decide +kernel
theorem dX8_multiply_25 : decode cX8_multiply 25 = .ok (.ireturn, 1) := by decide +kernel
theorem dX8_multiply_26 : decode cX8_multiply 26 = .ok (.aload_n 3, 1) := by decide +kernel
theorem dX8_multiply_27 : decode cX8_multiply 27 = .ok (.getfield 101, 3) := by decide +kernel
theorem dX8_multiply_30 : decode cX8_multiply 30 = .ok (.iload_n 2, 1) := by decide +kernel
theorem dX8_multiply_31 : decode cX8_multiply 31 = .ok (.imul, 1) := by decide +kernel
theorem dX8_multiply_32 : decode cX8_multiply 32 = .ok (.istore 4, 2) := by decide +kernel
theorem dX8_multiply_34 : decode cX8_multiply 34 = .ok (.iload 4, 2) := by decide +kernel
theorem dX8_multiply_36 : decode cX8_multiply 36 = .ok (.sipush 9999, 3) := by decide +kernel
theorem dX8_multiply_39 : decode cX8_multiply 39 = .ok (.if_icmp .le 6, 3) := by decide +kernel
theorem dX8_multiply_42 : decode cX8_multiply 42 = .ok (.bipush (-6), 2) := by decide +kernel
theorem dX8_multiply_44 : decode cX8_multiply 44 = .ok (.ireturn, 1) := by decide +kernel
theorem dX8_multiply_45 : decode cX8_multiply 45 = .ok (.aload_n 3, 1) := by decide +kernel
theorem dX8_multiply_46 : decode cX8_multiply 46 = .ok (.iload 4, 2) := by decide +kernel
theorem dX8_multiply_48 : decode cX8_multiply 48 = .ok (.aload_n 3, 1) := by decide +kernel
theorem dX8_multiply_49 : decode cX8_multiply 49 = .ok (.getfield 105, 3) := by decide +kernel
theorem dX8_multiply_52 : decode cX8_multiply 52 = .ok (.aload_n 3, 1) := by decide +kernel
theorem dX8_multiply_53 : decode cX8_multiply 53 = .ok (.getfield 108, 3) := by decide +kernel
theorem dX8_multiply_56 : decode cX8_multiply 56 = .ok (.invokevirtual 111, 3) := by decide +kernel
theorem dX8_multiply_59 : decode cX8_multiply 59 = .ok (.iload 4, 2) := by decide +kernel
theorem dX8_multiply_61 : decode cX8_multiply 61 = .ok (.ireturn, 1) := by decide +kernel
theorem dX8_sum_0 : decode cX8_sum 0 = .ok (.aload_n 0, 1) := by decide +kernel
theorem dX8_sum_1 : decode cX8_sum 1 = .ok (.getfield 12, 3) := by decide +kernel
theorem dX8_sum_4 : decode cX8_sum 4 = .ok (.iload_n 1, 1) := by decide +kernel
theorem dX8_sum_5 : decode cX8_sum 5 = .ok (.invokevirtual 97, 3) := by decide +kernel
theorem dX8_sum_8 : decode cX8_sum 8 = .ok (.astore_n 3, 1) := by decide +kernel
theorem dX8_sum_9 : decode cX8_sum 9 = .ok (.aload_n 0, 1) := by decide +kernel
theorem dX8_sum_10 : decode cX8_sum 10 = .ok (.getfield 12, 3) := by decide +kernel
theorem dX8_sum_13 : decode cX8_sum 13 = .ok (.iload_n 2, 1) := by decide +kernel
theorem dX8_sum_14 : decode cX8_sum 14 = .ok (.invokevirtual 97, 3) := by decide +kernel
theorem dX8_sum_17 : decode cX8_sum 17 = .ok (.astore 4, 2) := by decide +kernel
theorem dX8_sum_19 : decode cX8_sum 19 = .ok (.aload_n 3, 1) := by decide +kernel
theorem dX8_sum_20 : decode cX8_sum 20 = .ok (.ifnull 8, 3) := by decide +kernel
theorem dX8_sum_23 : decode cX8_sum 23 = .ok (.aload 4, 2) := by decide +kernel
theorem dX8_sum_25 : decode cX8_sum 25 = .ok (.ifnonnull 5, 3) := by decide +kernel
theorem dX8_sum_28 : decode cX8_sum 28 = .ok (.iconst (-1), 1) := by decide +kernel
theorem dX8_sum_29 : decode cX8_sum 29 = .ok (.ireturn, 1) := by decide +kernel
theorem dX8_sum_30 : decode cX8_sum 30 = .ok (.aload_n 3, 1) := by decide +kernel
theorem dX8_sum_31 : decode cX8_sum 31 = .ok (.getfield 108, 3) := by decide +kernel
theorem dX8_sum_34 : decode cX8_sum 34 = .ok (.aload 4, 2) := by decide +kernel
theorem dX8_sum_36 : decode cX8_sum 36 = .ok (.getfield 108, 3) := by decide +kernel
theorem dX8_sum_39 : decode cX8_sum 39 = .ok (.if_icmp .eq 6, 3) := by decide +kernel
theorem dX8_sum_42 : decode cX8_sum 42 = .ok (.bipush (-5), 2) := by decide +kernel
theorem dX8_sum_44 : decode cX8_sum 44 = .ok (.ireturn, 1) := by decide +kernel
theorem dX8_sum_45 : decode cX8_sum 45 = .ok (.aload_n 3, 1) := by decide +kernel
theorem dX8_sum_46 : decode cX8_sum 46 = .ok (.getfield 101, 3) := by decide +kernel
theorem dX8_sum_49 : decode cX8_sum 49 = .ok (.aload 4, 2) := by decide +kernel
theorem dX8_sum_51 : decode cX8_sum 51 = .ok (.getfield 105, 3) := by decide +kernel
theorem dX8_sum_54 : decode cX8_sum 54 = .ok (.imul, 1) := by decide +kernel
theorem dX8_sum_55 : decode cX8_sum 55 = .ok (.aload 4, 2) := by decide +kernel
theorem dX8_sum_57 : decode cX8_sum 57 = .ok (.getfield 101, 3) := by decide +kernel
theorem dX8_sum_60 : decode cX8_sum 60 = .ok (.aload_n 3, 1) := by decide +kernel
theorem dX8_sum_61 : decode cX8_sum 61 = .ok (.getfield 105, 3) := by decide +kernel
theorem dX8_sum_64 : decode cX8_sum 64 = .ok (.imul, 1) := by decide +kernel
theorem dX8_sum_65 : decode cX8_sum 65 = .ok (.iadd, 1) := by decide +kernel
theorem dX8_sum_66 : decode cX8_sum 66 = .ok (.istore 5, 2) := by decide +kernel
theorem dX8_sum_68 : decode cX8_sum 68 = .ok (.aload_n 0, 1) := by decide +kernel
theorem dX8_sum_69 : decode cX8_sum 69 = .ok (.iload 5, 2) := by decide +kernel
theorem dX8_sum_71 : decode cX8_sum 71 = .ok (.i2l, 1) := by decide +kernel
theorem dX8_sum_72 : decode cX8_sum 72 = .ok (.aload_n 3, 1) := by decide +kernel
theorem dX8_sum_73 : decode cX8_sum 73 = .ok (.getfield 105, 3) := by decide +kernel
theorem dX8_sum_76 : decode cX8_sum 76 = .ok (.aload 4, 2) := by decide +kernel
theorem dX8_sum_78 : decode cX8_sum 78 = .ok (.getfield 105, 3) := by decide +kernel
theorem dX8_sum_81 : decode cX8_sum 81 = .ok (.imul, 1) := by decide +kernel
theorem dX8_sum_82 : decode cX8_sum 82 = .ok (.i2l, 1) := by decide +kernel
theorem dX8_sum_83 : decode cX8_sum 83 = .ok (.aload_n 3, 1) := by decide +kernel
theorem dX8_sum_84 : decode cX8_sum 84 = .ok (.getfield 108, 3) := by decide +kernel
theorem dX8_sum_87 : decode cX8_sum 87 = .ok (.invokevirtual 115, 3) := by decide +kernel
theorem dX8_sum_90 : decode cX8_sum 90 = .ok (.ireturn, 1) := by decide +kernel
theorem dX8_lowest_0 : decode cX8_lowest 0 = .ok (.aload_n 0, 1) := by decide +kernel
theorem dX8_lowest_1 : decode cX8_lowest 1 = .ok (.getfield 12, 3) := by decide +kernel
theorem dX8_lowest_4 : decode cX8_lowest 4 = .ok (.iload_n 1, 1) := by decide +kernel
theorem dX8_lowest_5 : decode cX8_lowest 5 = .ok (.invokevirtual 97, 3) := by decide +kernel
theorem dX8_lowest_8 : decode cX8_lowest 8 = .ok (.astore_n 2, 1) := by decide +kernel
theorem dX8_lowest_9 : decode cX8_lowest 9 = .ok (.aload_n 2, 1) := by decide +kernel
theorem dX8_lowest_10 : decode cX8_lowest 10 = .ok (.ifnonnull 5, 3) := by decide +kernel
theorem dX8_lowest_13 : decode cX8_lowest 13 = .ok (.iconst (-1), 1) := by decide +kernel
theorem dX8_lowest_14 : decode cX8_lowest 14 = .ok (.ireturn, 1) := by decide +kernel
theorem dX8_lowest_15 : decode cX8_lowest 15 = .ok (.aload_n 2, 1) := by decide +kernel
theorem dX8_lowest_16 : decode cX8_lowest 16 = .ok (.getfield 101, 3) := by decide +kernel
theorem dX8_lowest_19 : decode cX8_lowest 19 = .ok (.i2l, 1) := by decide +kernel
theorem dX8_lowest_20 : decode cX8_lowest 20 = .ok (.aload_n 2, 1) := by decide +kernel
theorem dX8_lowest_21 : decode cX8_lowest 21 = .ok (.getfield 105, 3) := by decide +kernel
theorem dX8_lowest_24 : decode cX8_lowest 24 = .ok (.i2l, 1) := by decide +kernel
theorem dX8_lowest_25 : decode cX8_lowest 25 = .ok (.invokestatic 119, 3) := by decide +kernel
theorem dX8_lowest_28 : decode cX8_lowest 28 = .ok (.lstore_n 3, 1) := by decide +kernel
theorem dX8_lowest_29 : decode cX8_lowest 29 = .ok (.aload_n 2, 1) := by decide +kernel
theorem dX8_lowest_30 : decode cX8_lowest 30 = .ok (.aload_n 2, 1) := by decide +kernel
theorem dX8_lowest_31 : decode cX8_lowest 31 = .ok (.getfield 101, 3) := by decide +kernel
theorem dX8_lowest_34 : decode cX8_lowest 34 = .ok (.i2l, 1) := by decide +kernel
theorem dX8_lowest_35 : decode cX8_lowest 35 = .ok (.lload_n 3, 1) := by decide +kernel
theorem dX8_lowest_36 : decode cX8_lowest 36 = .ok (.invokestatic 123, 3) := by decide +kernel
theorem dX8_lowest_39 : decode cX8_lowest 39 = .ok (.l2i, 1) := by decide +kernel
theorem dX8_lowest_40 : decode cX8_lowest 40 = .ok (.aload_n 2, 1) := by decide +kernel
theorem dX8_lowest_41 : decode cX8_lowest 41 = .ok (.getfield 105, 3) := by decide +kernel
theorem dX8_lowest_44 : decode cX8_lowest 44 = .ok (.i2l, 1) := by decide +kernel
theorem dX8_lowest_45 : decode cX8_lowest 45 = .ok (.lload_n 3, 1) := by decide +kernel
theorem dX8_lowest_46 : decode cX8_lowest 46 = .ok (.invokestatic 123, 3) := by decide +kernel
theorem dX8_lowest_49 : decode cX8_lowest 49 = .ok (.l2i, 1) := by decide +kernel
theorem dX8_lowest_50 : decode cX8_lowest 50 = .ok (.aload_n 2, 1) := by decide +kernel
theorem dX8_lowest_51 : decode cX8_lowest 51 = .ok (.getfield 108, 3) := by decide +kernel
theorem dX8_lowest_54 : decode cX8_lowest 54 = .ok (.invokevirtual 111, 3) := by decide +kernel
theorem dX8_lowest_57 : decode cX8_lowest 57 = .ok (.aload_n 2, 1) := by decide +kernel
theorem dX8_lowest_58 : decode cX8_lowest 58 = .ok (.getfield 105, 3) := by decide +kernel
theorem dX8_lowest_61 : decode cX8_lowest 61 = .ok (.ireturn, 1) := by decide +kernel
theorem dX8_of_0 : decode cX8_of 0 = .ok (.aload_n 0, 1) := by decide +kernel
theorem dX8_of_1 : decode cX8_of 1 = .ok (.getfield 12, 3) := by decide +kernel
theorem dX8_of_4 : decode cX8_of 4 = .ok (.iload_n 1, 1) := by decide +kernel
theorem dX8_of_5 : decode cX8_of 5 = .ok (.invokevirtual 97, 3) := by decide +kernel
theorem dX8_of_8 : decode cX8_of 8 = .ok (.astore_n 3, 1) := by decide +kernel
theorem dX8_of_9 : decode cX8_of 9 = .ok (.aload_n 3, 1) := by decide +kernel
theorem dX8_of_10 : decode cX8_of 10 = .ok (.ifnonnull 5, 3) := by decide +kernel
theorem dX8_of_13 : decode cX8_of 13 = .ok (.iconst (-1), 1) := by decide +kernel
theorem dX8_of_14 : decode cX8_of 14 = .ok (.ireturn, 1) := by decide +kernel
theorem dX8_of_15 : decode cX8_of 15 = .ok (.iload_n 2, 1) := by decide +kernel
theorem dX8_of_16 : decode cX8_of 16 = .ok (.tableswitch 79 0 6 #[44, 49, 54, 59, 64, 69, 74], 44) := by decide +kernel
theorem dX8_of_60 : decode cX8_of 60 = .ok (.aload_n 3, 1) := by decide +kernel
theorem dX8_of_61 : decode cX8_of 61 = .ok (.getfield 101, 3) := by decide +kernel
theorem dX8_of_64 : decode cX8_of 64 = .ok (.ireturn, 1) := by decide +kernel
theorem dX8_of_65 : decode cX8_of 65 = .ok (.aload_n 3, 1) := by decide +kernel
theorem dX8_of_66 : decode cX8_of 66 = .ok (.getfield 105, 3) := by decide +kernel
theorem dX8_of_69 : decode cX8_of 69 = .ok (.ireturn, 1) := by decide +kernel
theorem dX8_of_70 : decode cX8_of 70 = .ok (.aload_n 3, 1) := by decide +kernel
theorem dX8_of_71 : decode cX8_of 71 = .ok (.getfield 108, 3) := by decide +kernel
theorem dX8_of_74 : decode cX8_of 74 = .ok (.ireturn, 1) := by decide +kernel
theorem dX8_of_75 : decode cX8_of 75 = .ok (.aload_n 3, 1) := by decide +kernel
theorem dX8_of_76 : decode cX8_of 76 = .ok (.invokevirtual 126, 3) := by decide +kernel
theorem dX8_of_79 : decode cX8_of 79 = .ok (.ireturn, 1) := by decide +kernel
theorem dX8_of_80 : decode cX8_of 80 = .ok (.aload_n 3, 1) := by decide +kernel
theorem dX8_of_81 : decode cX8_of 81 = .ok (.getfield 130, 3) := by decide +kernel
theorem dX8_of_84 : decode cX8_of 84 = .ok (.ireturn, 1) := by decide +kernel
theorem dX8_of_85 : decode cX8_of 85 = .ok (.aload_n 3, 1) := by decide +kernel
theorem dX8_of_86 : decode cX8_of 86 = .ok (.getfield 133, 3) := by decide +kernel
theorem dX8_of_89 : decode cX8_of 89 = .ok (.ireturn, 1) := by decide +kernel
theorem dX8_of_90 : decode cX8_of 90 = .ok (.aload_n 3, 1) := by decide +kernel
theorem dX8_of_91 : decode cX8_of 91 = .ok (.invokevirtual 136, 3) := by decide +kernel
theorem dX8_of_94 : decode cX8_of 94 = .ok (.ireturn, 1) := by decide +kernel
theorem dX8_of_95 : decode cX8_of 95 = .ok (.iconst (-1), 1) := by decide +kernel
theorem dX8_of_96 : decode cX8_of 96 = .ok (.ireturn, 1) := by decide +kernel
theorem dX8_digit_0 : decode cX8_digit 0 = .ok (.aload_n 0, 1) := by decide +kernel
theorem dX8_digit_1 : decode cX8_digit 1 = .ok (.getfield 12, 3) := by decide +kernel
theorem dX8_digit_4 : decode cX8_digit 4 = .ok (.iload_n 1, 1) := by decide +kernel
theorem dX8_digit_5 : decode cX8_digit 5 = .ok (.invokevirtual 97, 3) := by decide +kernel
theorem dX8_digit_8 : decode cX8_digit 8 = .ok (.astore_n 3, 1) := by decide +kernel
theorem dX8_digit_9 : decode cX8_digit 9 = .ok (.aload_n 3, 1) := by decide +kernel
theorem dX8_digit_10 : decode cX8_digit 10 = .ok (.ifnull 14, 3) := by decide +kernel
theorem dX8_digit_13 : decode cX8_digit 13 = .ok (.iload_n 2, 1) := by decide +kernel
theorem dX8_digit_14 : decode cX8_digit 14 = .ok (.iconst 0, 1) := by decide +kernel
theorem dX8_digit_15 : decode cX8_digit 15 = .ok (.sipush 9999, 3) := by decide +kernel
theorem dX8_digit_18 : decode cX8_digit 18 = .ok (.invokestatic 81, 3) := by decide +kernel
theorem dX8_digit_21 : decode cX8_digit 21 = .ok (.ifCond .ne 5, 3) := by decide +kernel
theorem dX8_digit_24 : decode cX8_digit 24 = .ok (.iconst (-1), 1) := by decide +kernel
theorem dX8_digit_25 : decode cX8_digit 25 = .ok (.ireturn, 1) := by decide +kernel
theorem dX8_digit_26 : decode cX8_digit 26 = .ok (.aload_n 3, 1) := by decide +kernel
theorem dX8_digit_27 : decode cX8_digit 27 = .ok (.aload_n 3, 1) := by decide +kernel
theorem dX8_digit_28 : decode cX8_digit 28 = .ok (.iload_n 2, 1) := by decide +kernel
theorem dX8_digit_29 : decode cX8_digit 29 = .ok (.invokevirtual 139, 3) := by decide +kernel
theorem dX8_digit_32 : decode cX8_digit 32 = .ok (.invokevirtual 142, 3) := by decide +kernel
theorem dX8_digit_35 : decode cX8_digit 35 = .ok (.ireturn, 1) := by decide +kernel
theorem dX8_rest_0 : decode cX8_rest 0 = .ok (.aload_n 0, 1) := by decide +kernel
end
section
theorem dX8_rest_1 : decode cX8_rest 1 = .ok (.getfield 12, 3) := by decide +kernel
theorem dX8_rest_4 : decode cX8_rest 4 = .ok (.iload_n 1, 1) := by decide +kernel
theorem dX8_rest_5 : decode cX8_rest 5 = .ok (.invokevirtual 97, 3) := by decide +kernel
theorem dX8_rest_8 : decode cX8_rest 8 = .ok (.astore_n 3, 1) := by decide +kernel
theorem dX8_rest_9 : decode cX8_rest 9 = .ok (.aload_n 3, 1) := by decide +kernel
theorem dX8_rest_10 : decode cX8_rest 10 = .ok (.ifnull 14, 3) := by decide +kernel
theorem dX8_rest_13 : decode cX8_rest 13 = .ok (.iload_n 2, 1) := by decide +kernel
theorem dX8_rest_14 : decode cX8_rest 14 = .ok (.iconst 0, 1) := by decide +kernel
theorem dX8_rest_15 : decode cX8_rest 15 = .ok (.sipush 9999, 3) := by decide +kernel
theorem dX8_rest_18 : decode cX8_rest 18 = .ok (.invokestatic 81, 3) := by decide +kernel
theorem dX8_rest_21 : decode cX8_rest 21 = .ok (.ifCond .ne 5, 3) := by decide +kernel
theorem dX8_rest_24 : decode cX8_rest 24 = .ok (.iconst (-1), 1) := by decide +kernel
theorem dX8_rest_25 : decode cX8_rest 25 = .ok (.ireturn, 1) := by decide +kernel
theorem dX8_rest_26 : decode cX8_rest 26 = .ok (.aload_n 3, 1) := by decide +kernel
theorem dX8_rest_27 : decode cX8_rest 27 = .ok (.iload_n 2, 1) := by decide +kernel
theorem dX8_rest_28 : decode cX8_rest 28 = .ok (.invokevirtual 139, 3) := by decide +kernel
theorem dX8_rest_31 : decode cX8_rest 31 = .ok (.ireturn, 1) := by decide +kernel
theorem dX8_place_0 : decode cX8_place 0 = .ok (.aload_n 0, 1) := by decide +kernel
theorem dX8_place_1 : decode cX8_place 1 = .ok (.getfield 12, 3) := by decide +kernel
theorem dX8_place_4 : decode cX8_place 4 = .ok (.iload_n 1, 1) := by decide +kernel
theorem dX8_place_5 : decode cX8_place 5 = .ok (.invokevirtual 97, 3) := by decide +kernel
theorem dX8_place_8 : decode cX8_place 8 = .ok (.astore_n 3, 1) := by decide +kernel
theorem dX8_place_9 : decode cX8_place 9 = .ok (.aload_n 3, 1) := by decide +kernel
theorem dX8_place_10 : decode cX8_place 10 = .ok (.ifnull 17, 3) := by decide +kernel
theorem dX8_place_13 : decode cX8_place 13 = .ok (.iload_n 2, 1) := by decide +kernel
theorem dX8_place_14 : decode cX8_place 14 = .ok (.iconst 0, 1) := by decide +kernel
theorem dX8_place_15 : decode cX8_place 15 = .ok (.aload_n 3, 1) := by decide +kernel
theorem dX8_place_16 : decode cX8_place 16 = .ok (.getfield 108, 3) := by decide +kernel
theorem dX8_place_19 : decode cX8_place 19 = .ok (.iconst 1, 1) := by decide +kernel
theorem dX8_place_20 : decode cX8_place 20 = .ok (.isub, 1) := by decide +kernel
theorem dX8_place_21 : decode cX8_place 21 = .ok (.invokestatic 81, 3) := by decide +kernel
theorem dX8_place_24 : decode cX8_place 24 = .ok (.ifCond .ne 5, 3) := by decide +kernel
theorem dX8_place_27 : decode cX8_place 27 = .ok (.iconst (-1), 1) := by decide +kernel
theorem dX8_place_28 : decode cX8_place 28 = .ok (.ireturn, 1) := by decide +kernel
theorem dX8_place_29 : decode cX8_place 29 = .ok (.aload_n 3, 1) := by decide +kernel
theorem dX8_place_30 : decode cX8_place 30 = .ok (.iload_n 2, 1) := by decide +kernel
theorem dX8_place_31 : decode cX8_place 31 = .ok (.invokevirtual 145, 3) := by decide +kernel
theorem dX8_place_34 : decode cX8_place 34 = .ok (.ireturn, 1) := by decide +kernel
theorem dX8_block_0 : decode cX8_block 0 = .ok (.aload_n 0, 1) := by decide +kernel
theorem dX8_block_1 : decode cX8_block 1 = .ok (.getfield 12, 3) := by decide +kernel
theorem dX8_block_4 : decode cX8_block 4 = .ok (.iload_n 1, 1) := by decide +kernel
theorem dX8_block_5 : decode cX8_block 5 = .ok (.invokevirtual 97, 3) := by decide +kernel
theorem dX8_block_8 : decode cX8_block 8 = .ok (.astore 4, 2) := by decide +kernel
theorem dX8_block_10 : decode cX8_block 10 = .ok (.aload 4, 2) := by decide +kernel
theorem dX8_block_12 : decode cX8_block 12 = .ok (.ifnull 28, 3) := by decide +kernel
theorem dX8_block_15 : decode cX8_block 15 = .ok (.aload 4, 2) := by decide +kernel
theorem dX8_block_17 : decode cX8_block 17 = .ok (.iload_n 2, 1) := by decide +kernel
theorem dX8_block_18 : decode cX8_block 18 = .ok (.invokevirtual 148, 3) := by decide +kernel
theorem dX8_block_21 : decode cX8_block 21 = .ok (.ifCond .eq 19, 3) := by decide +kernel
theorem dX8_block_24 : decode cX8_block 24 = .ok (.iload_n 3, 1) := by decide +kernel
theorem dX8_block_25 : decode cX8_block 25 = .ok (.iconst (-1), 1) := by decide +kernel
theorem dX8_block_26 : decode cX8_block 26 = .ok (.aload 4, 2) := by decide +kernel
theorem dX8_block_28 : decode cX8_block 28 = .ok (.iload_n 2, 1) := by decide +kernel
theorem dX8_block_29 : decode cX8_block 29 = .ok (.invokevirtual 151, 3) := by decide +kernel
theorem dX8_block_32 : decode cX8_block 32 = .ok (.iconst 1, 1) := by decide +kernel
theorem dX8_block_33 : decode cX8_block 33 = .ok (.isub, 1) := by decide +kernel
theorem dX8_block_34 : decode cX8_block 34 = .ok (.invokestatic 81, 3) := by decide +kernel
theorem dX8_block_37 : decode cX8_block 37 = .ok (.ifCond .ne 5, 3) := by decide +kernel
theorem dX8_block_40 : decode cX8_block 40 = .ok (.iconst (-1), 1) := by decide +kernel
theorem dX8_block_41 : decode cX8_block 41 = .ok (.ireturn, 1) := by decide +kernel
theorem dX8_block_42 : decode cX8_block 42 = .ok (.aload_n 0, 1) := by decide +kernel
theorem dX8_block_43 : decode cX8_block 43 = .ok (.getfield 65, 3) := by decide +kernel
theorem dX8_block_46 : decode cX8_block 46 = .ok (.aload 4, 2) := by decide +kernel
theorem dX8_block_48 : decode cX8_block 48 = .ok (.invokevirtual 154, 3) := by decide +kernel
theorem dX8_block_51 : decode cX8_block 51 = .ok (.aload_n 0, 1) := by decide +kernel
theorem dX8_block_52 : decode cX8_block 52 = .ok (.getfield 65, 3) := by decide +kernel
theorem dX8_block_55 : decode cX8_block 55 = .ok (.iload_n 2, 1) := by decide +kernel
theorem dX8_block_56 : decode cX8_block 56 = .ok (.aload 4, 2) := by decide +kernel
theorem dX8_block_58 : decode cX8_block 58 = .ok (.iload_n 2, 1) := by decide +kernel
theorem dX8_block_59 : decode cX8_block 59 = .ok (.invokevirtual 151, 3) := by decide +kernel
theorem dX8_block_62 : decode cX8_block 62 = .ok (.iload_n 3, 1) := by decide +kernel
theorem dX8_block_63 : decode cX8_block 63 = .ok (.aload 4, 2) := by decide +kernel
theorem dX8_block_65 : decode cX8_block 65 = .ok (.getfield 108, 3) := by decide +kernel
theorem dX8_block_68 : decode cX8_block 68 = .ok (.invokevirtual 158, 3) := by decide +kernel
theorem dX8_block_71 : decode cX8_block 71 = .ok (.ireturn, 1) := by decide +kernel
theorem dX8_nines_0 : decode cX8_nines 0 = .ok (.aload_n 0, 1) := by decide +kernel
theorem dX8_nines_1 : decode cX8_nines 1 = .ok (.getfield 12, 3) := by decide +kernel
theorem dX8_nines_4 : decode cX8_nines 4 = .ok (.iload_n 1, 1) := by decide +kernel
theorem dX8_nines_5 : decode cX8_nines 5 = .ok (.invokevirtual 97, 3) := by decide +kernel
theorem dX8_nines_8 : decode cX8_nines 8 = .ok (.astore_n 3, 1) := by decide +kernel
theorem dX8_nines_9 : decode cX8_nines 9 = .ok (.aload_n 3, 1) := by decide +kernel
theorem dX8_nines_10 : decode cX8_nines 10 = .ok (.ifnull 11, 3) := by decide +kernel
theorem dX8_nines_13 : decode cX8_nines 13 = .ok (.aload_n 3, 1) := by decide +kernel
theorem dX8_nines_14 : decode cX8_nines 14 = .ok (.iload_n 2, 1) := by decide +kernel
theorem dX8_nines_15 : decode cX8_nines 15 = .ok (.invokevirtual 148, 3) := by decide +kernel
theorem dX8_nines_18 : decode cX8_nines 18 = .ok (.ifCond .ne 5, 3) := by decide +kernel
theorem dX8_nines_21 : decode cX8_nines 21 = .ok (.iconst (-1), 1) := by decide +kernel
theorem dX8_nines_22 : decode cX8_nines 22 = .ok (.ireturn, 1) := by decide +kernel
theorem dX8_nines_23 : decode cX8_nines 23 = .ok (.aload_n 3, 1) := by decide +kernel
theorem dX8_nines_24 : decode cX8_nines 24 = .ok (.iload_n 2, 1) := by decide +kernel
theorem dX8_nines_25 : decode cX8_nines 25 = .ok (.invokevirtual 162, 3) := by decide +kernel
theorem dX8_nines_28 : decode cX8_nines 28 = .ok (.ireturn, 1) := by decide +kernel
theorem dX8_shift_0 : decode cX8_shift 0 = .ok (.aload_n 0, 1) := by decide +kernel
theorem dX8_shift_1 : decode cX8_shift 1 = .ok (.getfield 12, 3) := by decide +kernel
theorem dX8_shift_4 : decode cX8_shift 4 = .ok (.iload_n 1, 1) := by decide +kernel
theorem dX8_shift_5 : decode cX8_shift 5 = .ok (.invokevirtual 97, 3) := by decide +kernel
theorem dX8_shift_8 : decode cX8_shift 8 = .ok (.astore_n 3, 1) := by decide +kernel
theorem dX8_shift_9 : decode cX8_shift 9 = .ok (.aload_n 3, 1) := by decide +kernel
theorem dX8_shift_10 : decode cX8_shift 10 = .ok (.ifnull 14, 3) := by decide +kernel
theorem dX8_shift_13 : decode cX8_shift 13 = .ok (.iload_n 2, 1) := by decide +kernel
theorem dX8_shift_14 : decode cX8_shift 14 = .ok (.iconst 1, 1) := by decide +kernel
theorem dX8_shift_15 : decode cX8_shift 15 = .ok (.sipush 999, 3) := by decide +kernel
theorem dX8_shift_18 : decode cX8_shift 18 = .ok (.invokestatic 81, 3) := by decide +kernel
theorem dX8_shift_21 : decode cX8_shift 21 = .ok (.ifCond .ne 5, 3) := by decide +kernel
theorem dX8_shift_24 : decode cX8_shift 24 = .ok (.iconst (-1), 1) := by decide +kernel
theorem dX8_shift_25 : decode cX8_shift 25 = .ok (.ireturn, 1) := by decide +kernel
theorem dX8_shift_26 : decode cX8_shift 26 = .ok (.aload_n 3, 1) := by decide +kernel
theorem dX8_shift_27 : decode cX8_shift 27 = .ok (.aload_n 3, 1) := by decide +kernel
theorem dX8_shift_28 : decode cX8_shift 28 = .ok (.iload_n 2, 1) := by decide +kernel
theorem dX8_shift_29 : decode cX8_shift 29 = .ok (.invokevirtual 165, 3) := by decide +kernel
theorem dX8_shift_32 : decode cX8_shift 32 = .ok (.invokevirtual 168, 3) := by decide +kernel
theorem dX8_shift_35 : decode cX8_shift 35 = .ok (.ireturn, 1) := by decide +kernel
theorem dX8_multiple_0 : decode cX8_multiple 0 = .ok (.aload_n 0, 1) := by decide +kernel
theorem dX8_multiple_1 : decode cX8_multiple 1 = .ok (.getfield 12, 3) := by decide +kernel
theorem dX8_multiple_4 : decode cX8_multiple 4 = .ok (.iload_n 1, 1) := by decide +kernel
theorem dX8_multiple_5 : decode cX8_multiple 5 = .ok (.invokevirtual 97, 3) := by decide +kernel
theorem dX8_multiple_8 : decode cX8_multiple 8 = .ok (.astore_n 3, 1) := by decide +kernel
theorem dX8_multiple_9 : decode cX8_multiple 9 = .ok (.aload_n 3, 1) := by decide +kernel
theorem dX8_multiple_10 : decode cX8_multiple 10 = .ok (.ifnull 17, 3) := by decide +kernel
theorem dX8_multiple_13 : decode cX8_multiple 13 = .ok (.iload_n 2, 1) := by decide +kernel
theorem dX8_multiple_14 : decode cX8_multiple 14 = .ok (.iconst 0, 1) := by decide +kernel
theorem dX8_multiple_15 : decode cX8_multiple 15 = .ok (.aload_n 3, 1) := by decide +kernel
theorem dX8_multiple_16 : decode cX8_multiple 16 = .ok (.getfield 133, 3) := by decide +kernel
theorem dX8_multiple_19 : decode cX8_multiple 19 = .ok (.iconst 1, 1) := by decide +kernel
theorem dX8_multiple_20 : decode cX8_multiple 20 = .ok (.isub, 1) := by decide +kernel
theorem dX8_multiple_21 : decode cX8_multiple 21 = .ok (.invokestatic 81, 3) := by decide +kernel
theorem dX8_multiple_24 : decode cX8_multiple 24 = .ok (.ifCond .ne 5, 3) := by decide +kernel
theorem dX8_multiple_27 : decode cX8_multiple 27 = .ok (.iconst (-1), 1) := by decide +kernel
theorem dX8_multiple_28 : decode cX8_multiple 28 = .ok (.ireturn, 1) := by decide +kernel
theorem dX8_multiple_29 : decode cX8_multiple 29 = .ok (.aload_n 3, 1) := by decide +kernel
theorem dX8_multiple_30 : decode cX8_multiple 30 = .ok (.aload_n 3, 1) := by decide +kernel
theorem dX8_multiple_31 : decode cX8_multiple 31 = .ok (.getfield 130, 3) := by decide +kernel
theorem dX8_multiple_34 : decode cX8_multiple 34 = .ok (.iload_n 2, 1) := by decide +kernel
theorem dX8_multiple_35 : decode cX8_multiple 35 = .ok (.iadd, 1) := by decide +kernel
theorem dX8_multiple_36 : decode cX8_multiple 36 = .ok (.invokevirtual 139, 3) := by decide +kernel
theorem dX8_multiple_39 : decode cX8_multiple 39 = .ok (.istore 4, 2) := by decide +kernel
theorem dX8_multiple_41 : decode cX8_multiple 41 = .ok (.iconst 2, 1) := by decide +kernel
theorem dX8_multiple_42 : decode cX8_multiple 42 = .ok (.istore 5, 2) := by decide +kernel
theorem dX8_multiple_44 : decode cX8_multiple 44 = .ok (.iload 5, 2) := by decide +kernel
theorem dX8_multiple_46 : decode cX8_multiple 46 = .ok (.sipush 999, 3) := by decide +kernel
theorem dX8_multiple_49 : decode cX8_multiple 49 = .ok (.if_icmp .gt 23, 3) := by decide +kernel
theorem dX8_multiple_52 : decode cX8_multiple 52 = .ok (.aload_n 3, 1) := by decide +kernel
theorem dX8_multiple_53 : decode cX8_multiple 53 = .ok (.iload 5, 2) := by decide +kernel
theorem dX8_multiple_55 : decode cX8_multiple 55 = .ok (.invokevirtual 165, 3) := by decide +kernel
theorem dX8_multiple_58 : decode cX8_multiple 58 = .ok (.iload 4, 2) := by decide +kernel
theorem dX8_multiple_60 : decode cX8_multiple 60 = .ok (.if_icmp .ne 6, 3) := by decide +kernel
theorem dX8_multiple_63 : decode cX8_multiple 63 = .ok (.iload 5, 2) := by decide +kernel
theorem dX8_multiple_65 : decode cX8_multiple 65 = .ok (.ireturn, 1) := by decide +kernel
theorem dX8_multiple_66 : decode cX8_multiple 66 = .ok (.iinc 5 1, 3) := by decide +kernel
theorem dX8_multiple_69 : decode cX8_multiple 69 = .ok (.goto (-25), 3) := by decide +kernel
theorem dX8_multiple_72 : decode cX8_multiple 72 = .ok (.bipush (-2), 2) := by decide +kernel
theorem dX8_multiple_74 : decode cX8_multiple 74 = .ok (.ireturn, 1) := by decide +kernel
theorem dX8_order_0 : decode cX8_order 0 = .ok (.iload_n 1, 1) := by decide +kernel
theorem dX8_order_1 : decode cX8_order 1 = .ok (.invokestatic 85, 3) := by decide +kernel
theorem dX8_order_4 : decode cX8_order 4 = .ok (.ifCond .eq 14, 3) := by decide +kernel
theorem dX8_order_7 : decode cX8_order 7 = .ok (.iload_n 2, 1) := by decide +kernel
theorem dX8_order_8 : decode cX8_order 8 = .ok (.iconst 1, 1) := by decide +kernel
theorem dX8_order_9 : decode cX8_order 9 = .ok (.sipush 9999, 3) := by decide +kernel
theorem dX8_order_12 : decode cX8_order 12 = .ok (.invokestatic 81, 3) := by decide +kernel
theorem dX8_order_15 : decode cX8_order 15 = .ok (.ifCond .ne 5, 3) := by decide +kernel
theorem dX8_order_18 : decode cX8_order 18 = .ok (.iconst (-1), 1) := by decide +kernel
theorem dX8_order_19 : decode cX8_order 19 = .ok (.ireturn, 1) := by decide +kernel
theorem dX8_order_20 : decode cX8_order 20 = .ok (.iload_n 1, 1) := by decide +kernel
theorem dX8_order_21 : decode cX8_order 21 = .ok (.i2l, 1) := by decide +kernel
theorem dX8_order_22 : decode cX8_order 22 = .ok (.iload_n 2, 1) := by decide +kernel
theorem dX8_order_23 : decode cX8_order 23 = .ok (.i2l, 1) := by decide +kernel
theorem dX8_order_24 : decode cX8_order 24 = .ok (.invokestatic 119, 3) := by decide +kernel
theorem dX8_order_27 : decode cX8_order 27 = .ok (.lconst 1, 1) := by decide +kernel
theorem dX8_order_28 : decode cX8_order 28 = .ok (.lcmp, 1) := by decide +kernel
theorem dX8_order_29 : decode cX8_order 29 = .ok (.ifCond .le 6, 3) := by decide +kernel
theorem dX8_order_32 : decode cX8_order 32 = .ok (.bipush (-2), 2) := by decide +kernel
theorem dX8_order_34 : decode cX8_order 34 = .ok (.ireturn, 1) := by decide +kernel
theorem dX8_order_35 : decode cX8_order 35 = .ok (.iconst 1, 1) := by decide +kernel
theorem dX8_order_36 : decode cX8_order 36 = .ok (.iload_n 2, 1) := by decide +kernel
theorem dX8_order_37 : decode cX8_order 37 = .ok (.invokestatic 171, 3) := by decide +kernel
theorem dX8_order_40 : decode cX8_order 40 = .ok (.istore_n 3, 1) := by decide +kernel
theorem dX8_order_41 : decode cX8_order 41 = .ok (.iload_n 1, 1) := by decide +kernel
theorem dX8_order_42 : decode cX8_order 42 = .ok (.iload_n 2, 1) := by decide +kernel
theorem dX8_order_43 : decode cX8_order 43 = .ok (.invokestatic 171, 3) := by decide +kernel
theorem dX8_order_46 : decode cX8_order 46 = .ok (.istore 4, 2) := by decide +kernel
theorem dX8_order_48 : decode cX8_order 48 = .ok (.iconst 1, 1) := by decide +kernel
theorem dX8_order_49 : decode cX8_order 49 = .ok (.istore 5, 2) := by decide +kernel
theorem dX8_order_51 : decode cX8_order 51 = .ok (.iload 4, 2) := by decide +kernel
theorem dX8_order_53 : decode cX8_order 53 = .ok (.iload_n 3, 1) := by decide +kernel
theorem dX8_order_54 : decode cX8_order 54 = .ok (.if_icmp .eq 25, 3) := by decide +kernel
theorem dX8_order_57 : decode cX8_order 57 = .ok (.iload 5, 2) := by decide +kernel
theorem dX8_order_59 : decode cX8_order 59 = .ok (.iload_n 2, 1) := by decide +kernel
theorem dX8_order_60 : decode cX8_order 60 = .ok (.if_icmp .ge 19, 3) := by decide +kernel
theorem dX8_order_63 : decode cX8_order 63 = .ok (.iload 4, 2) := by decide +kernel
theorem dX8_order_65 : decode cX8_order 65 = .ok (.iload_n 1, 1) := by decide +kernel
theorem dX8_order_66 : decode cX8_order 66 = .ok (.imul, 1) := by decide +kernel
theorem dX8_order_67 : decode cX8_order 67 = .ok (.iload_n 2, 1) := by decide +kernel
theorem dX8_order_68 : decode cX8_order 68 = .ok (.invokestatic 171, 3) := by decide +kernel
theorem dX8_order_71 : decode cX8_order 71 = .ok (.istore 4, 2) := by decide +kernel
theorem dX8_order_73 : decode cX8_order 73 = .ok (.iinc 5 1, 3) := by decide +kernel
theorem dX8_order_76 : decode cX8_order 76 = .ok (.goto (-25), 3) := by decide +kernel
theorem dX8_order_79 : decode cX8_order 79 = .ok (.iload 5, 2) := by decide +kernel
theorem dX8_order_81 : decode cX8_order 81 = .ok (.ireturn, 1) := by decide +kernel
theorem dX8_cycles_0 : decode cX8_cycles 0 = .ok (.iload_n 1, 1) := by decide +kernel
theorem dX8_cycles_1 : decode cX8_cycles 1 = .ok (.invokestatic 85, 3) := by decide +kernel
theorem dX8_cycles_4 : decode cX8_cycles 4 = .ok (.ifCond .eq 23, 3) := by decide +kernel
theorem dX8_cycles_7 : decode cX8_cycles 7 = .ok (.iload_n 2, 1) := by decide +kernel
theorem dX8_cycles_8 : decode cX8_cycles 8 = .ok (.iconst 2, 1) := by decide +kernel
theorem dX8_cycles_9 : decode cX8_cycles 9 = .ok (.sipush 999, 3) := by decide +kernel
theorem dX8_cycles_12 : decode cX8_cycles 12 = .ok (.invokestatic 81, 3) := by decide +kernel
theorem dX8_cycles_15 : decode cX8_cycles 15 = .ok (.ifCond .eq 12, 3) := by decide +kernel
theorem dX8_cycles_18 : decode cX8_cycles 18 = .ok (.iload_n 3, 1) := by decide +kernel
theorem dX8_cycles_19 : decode cX8_cycles 19 = .ok (.iconst 0, 1) := by decide +kernel
theorem dX8_cycles_20 : decode cX8_cycles 20 = .ok (.iconst 1, 1) := by decide +kernel
theorem dX8_cycles_21 : decode cX8_cycles 21 = .ok (.invokestatic 81, 3) := by decide +kernel
theorem dX8_cycles_24 : decode cX8_cycles 24 = .ok (.ifCond .ne 5, 3) := by decide +kernel
theorem dX8_cycles_27 : decode cX8_cycles 27 = .ok (.iconst (-1), 1) := by decide +kernel
theorem dX8_cycles_28 : decode cX8_cycles 28 = .ok (.ireturn, 1) := by decide +kernel
theorem dX8_cycles_29 : decode cX8_cycles 29 = .ok (.iload_n 1, 1) := by decide +kernel
theorem dX8_cycles_30 : decode cX8_cycles 30 = .ok (.i2l, 1) := by decide +kernel
theorem dX8_cycles_31 : decode cX8_cycles 31 = .ok (.iload_n 2, 1) := by decide +kernel
theorem dX8_cycles_32 : decode cX8_cycles 32 = .ok (.i2l, 1) := by decide +kernel
theorem dX8_cycles_33 : decode cX8_cycles 33 = .ok (.invokestatic 119, 3) := by decide +kernel
theorem dX8_cycles_36 : decode cX8_cycles 36 = .ok (.lconst 1, 1) := by decide +kernel
theorem dX8_cycles_37 : decode cX8_cycles 37 = .ok (.lcmp, 1) := by decide +kernel
theorem dX8_cycles_38 : decode cX8_cycles 38 = .ok (.ifCond .le 6, 3) := by decide +kernel
theorem dX8_cycles_41 : decode cX8_cycles 41 = .ok (.bipush (-5), 2) := by decide +kernel
theorem dX8_cycles_43 : decode cX8_cycles 43 = .ok (.ireturn, 1) := by decide +kernel
theorem dX8_cycles_44 : decode cX8_cycles 44 = .ok (.iconst 0, 1) := by decide +kernel
theorem dX8_cycles_45 : decode cX8_cycles 45 = .ok (.istore 4, 2) := by decide +kernel
theorem dX8_cycles_47 : decode cX8_cycles 47 = .ok (.iload 4, 2) := by decide +kernel
theorem dX8_cycles_49 : decode cX8_cycles 49 = .ok (.iload_n 2, 1) := by decide +kernel
theorem dX8_cycles_50 : decode cX8_cycles 50 = .ok (.if_icmp .ge 19, 3) := by decide +kernel
theorem dX8_cycles_53 : decode cX8_cycles 53 = .ok (.aload_n 0, 1) := by decide +kernel
theorem dX8_cycles_54 : decode cX8_cycles 54 = .ok (.getfield 76, 3) := by decide +kernel
theorem dX8_cycles_57 : decode cX8_cycles 57 = .ok (.iload 4, 2) := by decide +kernel
theorem dX8_cycles_59 : decode cX8_cycles 59 = .ok (.iconst 0, 1) := by decide +kernel
theorem dX8_cycles_60 : decode cX8_cycles 60 = .ok (.invokestatic 175, 3) := by decide +kernel
theorem dX8_cycles_63 : decode cX8_cycles 63 = .ok (.iinc 4 1, 3) := by decide +kernel
theorem dX8_cycles_66 : decode cX8_cycles 66 = .ok (.goto (-19), 3) := by decide +kernel
theorem dX8_cycles_69 : decode cX8_cycles 69 = .ok (.iconst 0, 1) := by decide +kernel
theorem dX8_cycles_70 : decode cX8_cycles 70 = .ok (.istore 4, 2) := by decide +kernel
theorem dX8_cycles_72 : decode cX8_cycles 72 = .ok (.iconst 0, 1) := by decide +kernel
theorem dX8_cycles_73 : decode cX8_cycles 73 = .ok (.istore 5, 2) := by decide +kernel
theorem dX8_cycles_75 : decode cX8_cycles 75 = .ok (.iconst 1, 1) := by decide +kernel
theorem dX8_cycles_76 : decode cX8_cycles 76 = .ok (.istore 6, 2) := by decide +kernel
theorem dX8_cycles_78 : decode cX8_cycles 78 = .ok (.iload 6, 2) := by decide +kernel
theorem dX8_cycles_80 : decode cX8_cycles 80 = .ok (.iload_n 2, 1) := by decide +kernel
theorem dX8_cycles_81 : decode cX8_cycles 81 = .ok (.if_icmp .ge 43, 3) := by decide +kernel
theorem dX8_cycles_84 : decode cX8_cycles 84 = .ok (.aload_n 0, 1) := by decide +kernel
theorem dX8_cycles_85 : decode cX8_cycles 85 = .ok (.iload 6, 2) := by decide +kernel
theorem dX8_cycles_87 : decode cX8_cycles 87 = .ok (.iload_n 1, 1) := by decide +kernel
theorem dX8_cycles_88 : decode cX8_cycles 88 = .ok (.iload_n 2, 1) := by decide +kernel
theorem dX8_cycles_89 : decode cX8_cycles 89 = .ok (.invokevirtual 179, 3) := by decide +kernel
theorem dX8_cycles_92 : decode cX8_cycles 92 = .ok (.istore 7, 2) := by decide +kernel
theorem dX8_cycles_94 : decode cX8_cycles 94 = .ok (.iload 4, 2) := by decide +kernel
theorem dX8_cycles_96 : decode cX8_cycles 96 = .ok (.iload 7, 2) := by decide +kernel
theorem dX8_cycles_98 : decode cX8_cycles 98 = .ok (.ifCond .le 7, 3) := by decide +kernel
theorem dX8_cycles_101 : decode cX8_cycles 101 = .ok (.iconst 1, 1) := by decide +kernel
theorem dX8_cycles_102 : decode cX8_cycles 102 = .ok (.goto 4, 3) := by decide +kernel
theorem dX8_cycles_105 : decode cX8_cycles 105 = .ok (.iconst 0, 1) := by decide +kernel
theorem dX8_cycles_106 : decode cX8_cycles 106 = .ok (.iadd, 1) := by decide +kernel
theorem dX8_cycles_107 : decode cX8_cycles 107 = .ok (.istore 4, 2) := by decide +kernel
theorem dX8_cycles_109 : decode cX8_cycles 109 = .ok (.iload 5, 2) := by decide +kernel
theorem dX8_cycles_111 : decode cX8_cycles 111 = .ok (.iload 7, 2) := by decide +kernel
theorem dX8_cycles_113 : decode cX8_cycles 113 = .ok (.invokestatic 182, 3) := by decide +kernel
theorem dX8_cycles_116 : decode cX8_cycles 116 = .ok (.istore 5, 2) := by decide +kernel
theorem dX8_cycles_118 : decode cX8_cycles 118 = .ok (.iinc 6 1, 3) := by decide +kernel
theorem dX8_cycles_121 : decode cX8_cycles 121 = .ok (.goto (-43), 3) := by decide +kernel
theorem dX8_cycles_124 : decode cX8_cycles 124 = .ok (.iload_n 3, 1) := by decide +kernel
theorem dX8_cycles_125 : decode cX8_cycles 125 = .ok (.ifCond .ne 8, 3) := by decide +kernel
theorem dX8_cycles_128 : decode cX8_cycles 128 = .ok (.iload 4, 2) := by decide +kernel
theorem dX8_cycles_130 : decode cX8_cycles 130 = .ok (.goto 5, 3) := by decide +kernel
theorem dX8_cycles_133 : decode cX8_cycles 133 = .ok (.iload 5, 2) := by decide +kernel
theorem dX8_cycles_135 : decode cX8_cycles 135 = .ok (.ireturn, 1) := by decide +kernel
theorem dX8_full_0 : decode cX8_full 0 = .ok (.iload_n 2, 1) := by decide +kernel
theorem dX8_full_1 : decode cX8_full 1 = .ok (.iconst 2, 1) := by decide +kernel
theorem dX8_full_2 : decode cX8_full 2 = .ok (.sipush 999, 3) := by decide +kernel
theorem dX8_full_5 : decode cX8_full 5 = .ok (.invokestatic 81, 3) := by decide +kernel
theorem dX8_full_8 : decode cX8_full 8 = .ok (.ifCond .eq 18, 3) := by decide +kernel
theorem dX8_full_11 : decode cX8_full 11 = .ok (.iload_n 3, 1) := by decide +kernel
theorem dX8_full_12 : decode cX8_full 12 = .ok (.iload_n 2, 1) := by decide +kernel
theorem dX8_full_13 : decode cX8_full 13 = .ok (.sipush 999, 3) := by decide +kernel
theorem dX8_full_16 : decode cX8_full 16 = .ok (.invokestatic 81, 3) := by decide +kernel
theorem dX8_full_19 : decode cX8_full 19 = .ok (.ifCond .eq 7, 3) := by decide +kernel
theorem dX8_full_22 : decode cX8_full 22 = .ok (.iconst 1, 1) := by decide +kernel
theorem dX8_full_23 : decode cX8_full 23 = .ok (.goto 4, 3) := by decide +kernel
theorem dX8_full_26 : decode cX8_full 26 = .ok (.iconst 0, 1) := by decide +kernel
theorem dX8_full_27 : decode cX8_full 27 = .ok (.istore 5, 2) := by decide +kernel
theorem dX8_full_29 : decode cX8_full 29 = .ok (.iload_n 1, 1) := by decide +kernel
theorem dX8_full_30 : decode cX8_full 30 = .ok (.invokestatic 85, 3) := by decide +kernel
theorem dX8_full_33 : decode cX8_full 33 = .ok (.ifCond .eq 18, 3) := by decide +kernel
theorem dX8_full_36 : decode cX8_full 36 = .ok (.iload 5, 2) := by decide +kernel
theorem dX8_full_38 : decode cX8_full 38 = .ok (.ifCond .eq 13, 3) := by decide +kernel
theorem dX8_full_41 : decode cX8_full 41 = .ok (.iload 4, 2) := by decide +kernel
theorem dX8_full_43 : decode cX8_full 43 = .ok (.iconst 0, 1) := by decide +kernel
theorem dX8_full_44 : decode cX8_full 44 = .ok (.iconst 2, 1) := by decide +kernel
theorem dX8_full_45 : decode cX8_full 45 = .ok (.invokestatic 81, 3) := by decide +kernel
theorem dX8_full_48 : decode cX8_full 48 = .ok (.ifCond .ne 5, 3) := by decide +kernel
theorem dX8_full_51 : decode cX8_full 51 = .ok (.iconst (-1), 1) := by decide +kernel
theorem dX8_full_52 : decode cX8_full 52 = .ok (.ireturn, 1) := by decide +kernel
theorem dX8_full_53 : decode cX8_full 53 = .ok (.iconst 0, 1) := by decide +kernel
theorem dX8_full_54 : decode cX8_full 54 = .ok (.istore 6, 2) := by decide +kernel
theorem dX8_full_56 : decode cX8_full 56 = .ok (.bipush (-2), 2) := by decide +kernel
theorem dX8_full_58 : decode cX8_full 58 = .ok (.istore 7, 2) := by decide +kernel
theorem dX8_full_60 : decode cX8_full 60 = .ok (.bipush (-2), 2) := by decide +kernel
theorem dX8_full_62 : decode cX8_full 62 = .ok (.istore 8, 2) := by decide +kernel
theorem dX8_full_64 : decode cX8_full 64 = .ok (.iload_n 2, 1) := by decide +kernel
theorem dX8_full_65 : decode cX8_full 65 = .ok (.istore 9, 2) := by decide +kernel
theorem dX8_full_67 : decode cX8_full 67 = .ok (.iload 9, 2) := by decide +kernel
theorem dX8_full_69 : decode cX8_full 69 = .ok (.iload_n 3, 1) := by decide +kernel
theorem dX8_full_70 : decode cX8_full 70 = .ok (.if_icmp .gt 51, 3) := by decide +kernel
theorem dX8_full_73 : decode cX8_full 73 = .ok (.aload_n 0, 1) := by decide +kernel
theorem dX8_full_74 : decode cX8_full 74 = .ok (.getfield 72, 3) := by decide +kernel
theorem dX8_full_77 : decode cX8_full 77 = .ok (.iconst 1, 1) := by decide +kernel
theorem dX8_full_78 : decode cX8_full 78 = .ok (.iload 9, 2) := by decide +kernel
theorem dX8_full_80 : decode cX8_full 80 = .ok (.iload_n 1, 1) := by decide +kernel
theorem dX8_full_81 : decode cX8_full 81 = .ok (.invokevirtual 111, 3) := by decide +kernel
theorem dX8_full_84 : decode cX8_full 84 = .ok (.aload_n 0, 1) := by decide +kernel
theorem dX8_full_85 : decode cX8_full 85 = .ok (.getfield 72, 3) := by decide +kernel
theorem dX8_full_88 : decode cX8_full 88 = .ok (.invokevirtual 187, 3) := by decide +kernel
theorem dX8_full_91 : decode cX8_full 91 = .ok (.ifCond .eq 24, 3) := by decide +kernel
theorem dX8_full_94 : decode cX8_full 94 = .ok (.iload 6, 2) := by decide +kernel
theorem dX8_full_96 : decode cX8_full 96 = .ok (.ifCond .ne 8, 3) := by decide +kernel
theorem dX8_full_99 : decode cX8_full 99 = .ok (.iload 9, 2) := by decide +kernel
theorem dX8_full_101 : decode cX8_full 101 = .ok (.goto 5, 3) := by decide +kernel
theorem dX8_full_104 : decode cX8_full 104 = .ok (.iload 7, 2) := by decide +kernel
theorem dX8_full_106 : decode cX8_full 106 = .ok (.istore 7, 2) := by decide +kernel
theorem dX8_full_108 : decode cX8_full 108 = .ok (.iload 9, 2) := by decide +kernel
theorem dX8_full_110 : decode cX8_full 110 = .ok (.istore 8, 2) := by decide +kernel
theorem dX8_full_112 : decode cX8_full 112 = .ok (.iinc 6 1, 3) := by decide +kernel
theorem dX8_full_115 : decode cX8_full 115 = .ok (.iinc 9 1, 3) := by decide +kernel
theorem dX8_full_118 : decode cX8_full 118 = .ok (.goto (-51), 3) := by decide +kernel
theorem dX8_full_121 : decode cX8_full 121 = .ok (.iload 4, 2) := by decide +kernel
theorem dX8_full_123 : decode cX8_full 123 = .ok (.ifCond .ne 8, 3) := by decide +kernel
theorem dX8_full_126 : decode cX8_full 126 = .ok (.iload 6, 2) := by decide +kernel
theorem dX8_full_128 : decode cX8_full 128 = .ok (.goto 16, 3) := by decide +kernel
theorem dX8_full_131 : decode cX8_full 131 = .ok (.iload 4, 2) := by decide +kernel
theorem dX8_full_133 : decode cX8_full 133 = .ok (.iconst 1, 1) := by decide +kernel
theorem dX8_full_134 : decode cX8_full 134 = .ok (.if_icmp .ne 8, 3) := by decide +kernel
theorem dX8_full_137 : decode cX8_full 137 = .ok (.iload 7, 2) := by decide +kernel
theorem dX8_full_139 : decode cX8_full 139 = .ok (.goto 5, 3) := by decide +kernel
theorem dX8_full_142 : decode cX8_full 142 = .ok (.iload 8, 2) := by decide +kernel
theorem dX8_full_144 : decode cX8_full 144 = .ok (.ireturn, 1) := by decide +kernel
theorem dX8_list_0 : decode cX8_list 0 = .ok (.iload_n 1, 1) := by decide +kernel
theorem dX8_list_1 : decode cX8_list 1 = .ok (.iconst 2, 1) := by decide +kernel
theorem dX8_list_2 : decode cX8_list 2 = .ok (.sipush 400, 3) := by decide +kernel
theorem dX8_list_5 : decode cX8_list 5 = .ok (.invokestatic 81, 3) := by decide +kernel
theorem dX8_list_8 : decode cX8_list 8 = .ok (.ifCond .eq 10, 3) := by decide +kernel
theorem dX8_list_11 : decode cX8_list 11 = .ok (.iload_n 2, 1) := by decide +kernel
theorem dX8_list_12 : decode cX8_list 12 = .ok (.invokestatic 85, 3) := by decide +kernel
theorem dX8_list_15 : decode cX8_list 15 = .ok (.ifCond .ne 5, 3) := by decide +kernel
theorem dX8_list_18 : decode cX8_list 18 = .ok (.iconst (-1), 1) := by decide +kernel
theorem dX8_list_19 : decode cX8_list 19 = .ok (.ireturn, 1) := by decide +kernel
theorem dX8_list_20 : decode cX8_list 20 = .ok (.aload_n 0, 1) := by decide +kernel
theorem dX8_list_21 : decode cX8_list 21 = .ok (.getfield 21, 3) := by decide +kernel
theorem dX8_list_24 : decode cX8_list 24 = .ok (.iload_n 1, 1) := by decide +kernel
theorem dX8_list_25 : decode cX8_list 25 = .ok (.iload_n 2, 1) := by decide +kernel
theorem dX8_list_26 : decode cX8_list 26 = .ok (.invokevirtual 191, 3) := by decide +kernel
theorem dX8_list_29 : decode cX8_list 29 = .ok (.aload_n 0, 1) := by decide +kernel
theorem dX8_list_30 : decode cX8_list 30 = .ok (.getfield 21, 3) := by decide +kernel
theorem dX8_list_33 : decode cX8_list 33 = .ok (.getfield 195, 3) := by decide +kernel
theorem dX8_list_36 : decode cX8_list 36 = .ok (.ireturn, 1) := by decide +kernel
theorem dX8_thin_0 : decode cX8_thin 0 = .ok (.aload_n 0, 1) := by decide +kernel
theorem dX8_thin_1 : decode cX8_thin 1 = .ok (.getfield 28, 3) := by decide +kernel
theorem dX8_thin_4 : decode cX8_thin 4 = .ok (.iconst 0, 1) := by decide +kernel
theorem dX8_thin_5 : decode cX8_thin 5 = .ok (.iconst 4, 1) := by decide +kernel
theorem dX8_thin_6 : decode cX8_thin 6 = .ok (.ldc 196, 2) := by decide +kernel
theorem dX8_thin_8 : decode cX8_thin 8 = .ok (.invokevirtual 198, 3) := by decide +kernel
theorem dX8_thin_11 : decode cX8_thin 11 = .ok (.istore_n 1, 1) := by decide +kernel
theorem dX8_thin_12 : decode cX8_thin 12 = .ok (.aload_n 0, 1) := by decide +kernel
theorem dX8_thin_13 : decode cX8_thin 13 = .ok (.getfield 28, 3) := by decide +kernel
theorem dX8_thin_16 : decode cX8_thin 16 = .ok (.iload_n 1, 1) := by decide +kernel
theorem dX8_thin_17 : decode cX8_thin 17 = .ok (.ifCond .eq 7, 3) := by decide +kernel
theorem dX8_thin_20 : decode cX8_thin 20 = .ok (.iconst 4, 1) := by decide +kernel
theorem dX8_thin_21 : decode cX8_thin 21 = .ok (.goto 4, 3) := by decide +kernel
theorem dX8_thin_24 : decode cX8_thin 24 = .ok (.iconst 0, 1) := by decide +kernel
theorem dX8_thin_25 : decode cX8_thin 25 = .ok (.invokestatic 202, 3) := by decide +kernel
theorem dX8_thin_28 : decode cX8_thin 28 = .ok (.istore_n 2, 1) := by decide +kernel
theorem dX8_thin_29 : decode cX8_thin 29 = .ok (.aload_n 0, 1) := by decide +kernel
theorem dX8_thin_30 : decode cX8_thin 30 = .ok (.getfield 28, 3) := by decide +kernel
theorem dX8_thin_33 : decode cX8_thin 33 = .ok (.invokevirtual 206, 3) := by decide +kernel
theorem dX8_thin_36 : decode cX8_thin 36 = .ok (.iload_n 2, 1) := by decide +kernel
theorem dX8_thin_37 : decode cX8_thin 37 = .ok (.iconst (-1), 1) := by decide +kernel
theorem dX8_thin_38 : decode cX8_thin 38 = .ok (.if_icmp .ne 5, 3) := by decide +kernel
theorem dX8_thin_41 : decode cX8_thin 41 = .ok (.iconst (-1), 1) := by decide +kernel
theorem dX8_thin_42 : decode cX8_thin 42 = .ok (.ireturn, 1) := by decide +kernel
theorem dX8_thin_43 : decode cX8_thin 43 = .ok (.aload_n 0, 1) := by decide +kernel
theorem dX8_thin_44 : decode cX8_thin 44 = .ok (.getfield 21, 3) := by decide +kernel
theorem dX8_thin_47 : decode cX8_thin 47 = .ok (.iload_n 2, 1) := by decide +kernel
theorem dX8_thin_48 : decode cX8_thin 48 = .ok (.iload_n 1, 1) := by decide +kernel
theorem dX8_thin_49 : decode cX8_thin 49 = .ok (.ifCond .ne 7, 3) := by decide +kernel
theorem dX8_thin_52 : decode cX8_thin 52 = .ok (.iconst 1, 1) := by decide +kernel
theorem dX8_thin_53 : decode cX8_thin 53 = .ok (.goto 4, 3) := by decide +kernel
theorem dX8_thin_56 : decode cX8_thin 56 = .ok (.iconst 0, 1) := by decide +kernel
theorem dX8_thin_57 : decode cX8_thin 57 = .ok (.invokevirtual 209, 3) := by decide +kernel
theorem dX8_thin_60 : decode cX8_thin 60 = .ok (.aload_n 0, 1) := by decide +kernel
theorem dX8_thin_61 : decode cX8_thin 61 = .ok (.getfield 21, 3) := by decide +kernel
theorem dX8_thin_64 : decode cX8_thin 64 = .ok (.getfield 195, 3) := by decide +kernel
theorem dX8_thin_67 : decode cX8_thin 67 = .ok (.ireturn, 1) := by decide +kernel
theorem dX8_listed_0 : decode cX8_listed 0 = .ok (.iload_n 1, 1) := by decide +kernel
theorem dX8_listed_1 : decode cX8_listed 1 = .ok (.ifCond .ge 5, 3) := by decide +kernel
theorem dX8_listed_4 : decode cX8_listed 4 = .ok (.iconst (-1), 1) := by decide +kernel
theorem dX8_listed_5 : decode cX8_listed 5 = .ok (.ireturn, 1) := by decide +kernel
theorem dX8_listed_6 : decode cX8_listed 6 = .ok (.iload_n 1, 1) := by decide +kernel
theorem dX8_listed_7 : decode cX8_listed 7 = .ok (.aload_n 0, 1) := by decide +kernel
theorem dX8_listed_8 : decode cX8_listed 8 = .ok (.getfield 21, 3) := by decide +kernel
theorem dX8_listed_11 : decode cX8_listed 11 = .ok (.getfield 195, 3) := by decide +kernel
theorem dX8_listed_14 : decode cX8_listed 14 = .ok (.if_icmp .ge 17, 3) := by decide +kernel
theorem dX8_listed_17 : decode cX8_listed 17 = .ok (.aload_n 0, 1) := by decide +kernel
theorem dX8_listed_18 : decode cX8_listed 18 = .ok (.getfield 21, 3) := by decide +kernel
theorem dX8_listed_21 : decode cX8_listed 21 = .ok (.getfield 213, 3) := by decide +kernel
theorem dX8_listed_24 : decode cX8_listed 24 = .ok (.iload_n 1, 1) := by decide +kernel
theorem dX8_listed_25 : decode cX8_listed 25 = .ok (.invokestatic 216, 3) := by decide +kernel
theorem dX8_listed_28 : decode cX8_listed 28 = .ok (.goto 5, 3) := by decide +kernel
theorem dX8_listed_31 : decode cX8_listed 31 = .ok (.bipush (-2), 2) := by decide +kernel
theorem dX8_listed_33 : decode cX8_listed 33 = .ok (.ireturn, 1) := by decide +kernel
theorem dX8_tells_0 : decode cX8_tells 0 = .ok (.aload_n 0, 1) := by decide +kernel
theorem dX8_tells_1 : decode cX8_tells 1 = .ok (.getfield 12, 3) := by decide +kernel
theorem dX8_tells_4 : decode cX8_tells 4 = .ok (.iload_n 1, 1) := by decide +kernel
theorem dX8_tells_5 : decode cX8_tells 5 = .ok (.invokevirtual 97, 3) := by decide +kernel
theorem dX8_tells_8 : decode cX8_tells 8 = .ok (.astore 4, 2) := by decide +kernel
theorem dX8_tells_10 : decode cX8_tells 10 = .ok (.aload 4, 2) := by decide +kernel
theorem dX8_tells_12 : decode cX8_tells 12 = .ok (.ifnull 22, 3) := by decide +kernel
theorem dX8_tells_15 : decode cX8_tells 15 = .ok (.iload_n 2, 1) := by decide +kernel
theorem dX8_tells_16 : decode cX8_tells 16 = .ok (.iconst 0, 1) := by decide +kernel
theorem dX8_tells_17 : decode cX8_tells 17 = .ok (.iconst 5, 1) := by decide +kernel
theorem dX8_tells_18 : decode cX8_tells 18 = .ok (.invokestatic 81, 3) := by decide +kernel
theorem dX8_tells_21 : decode cX8_tells 21 = .ok (.ifCond .eq 13, 3) := by decide +kernel
theorem dX8_tells_24 : decode cX8_tells 24 = .ok (.iload_n 3, 1) := by decide +kernel
theorem dX8_tells_25 : decode cX8_tells 25 = .ok (.iconst 0, 1) := by decide +kernel
theorem dX8_tells_26 : decode cX8_tells 26 = .ok (.bipush 99, 2) := by decide +kernel
theorem dX8_tells_28 : decode cX8_tells 28 = .ok (.invokestatic 81, 3) := by decide +kernel
theorem dX8_tells_31 : decode cX8_tells 31 = .ok (.ifCond .ne 7, 3) := by decide +kernel
theorem dX8_tells_34 : decode cX8_tells 34 = .ok (.ldc2_w 220, 3) := by decide +kernel
theorem dX8_tells_37 : decode cX8_tells 37 = .ok (.lreturn, 1) := by decide +kernel
theorem dX8_tells_38 : decode cX8_tells 38 = .ok (.aload_n 0, 1) := by decide +kernel
theorem dX8_tells_39 : decode cX8_tells 39 = .ok (.getfield 65, 3) := by decide +kernel
theorem dX8_tells_42 : decode cX8_tells 42 = .ok (.aload 4, 2) := by decide +kernel
theorem dX8_tells_44 : decode cX8_tells 44 = .ok (.invokevirtual 154, 3) := by decide +kernel
theorem dX8_tells_47 : decode cX8_tells 47 = .ok (.aload_n 0, 1) := by decide +kernel
theorem dX8_tells_48 : decode cX8_tells 48 = .ok (.getfield 65, 3) := by decide +kernel
theorem dX8_tells_51 : decode cX8_tells 51 = .ok (.iload_n 2, 1) := by decide +kernel
theorem dX8_tells_52 : decode cX8_tells 52 = .ok (.iload_n 3, 1) := by decide +kernel
theorem dX8_tells_53 : decode cX8_tells 53 = .ok (.invokevirtual 222, 3) := by decide +kernel
theorem dX8_tells_56 : decode cX8_tells 56 = .ok (.lreturn, 1) := by decide +kernel
theorem dX8_feed_0 : decode cX8_feed 0 = .ok (.iload_n 2, 1) := by decide +kernel
theorem dX8_feed_1 : decode cX8_feed 1 = .ok (.iconst 1, 1) := by decide +kernel
theorem dX8_feed_2 : decode cX8_feed 2 = .ok (.iconst 4, 1) := by decide +kernel
theorem dX8_feed_3 : decode cX8_feed 3 = .ok (.invokestatic 81, 3) := by decide +kernel
theorem dX8_feed_6 : decode cX8_feed 6 = .ok (.ifCond .ne 5, 3) := by decide +kernel
theorem dX8_feed_9 : decode cX8_feed 9 = .ok (.iconst (-1), 1) := by decide +kernel
theorem dX8_feed_10 : decode cX8_feed 10 = .ok (.ireturn, 1) := by decide +kernel
theorem dX8_feed_11 : decode cX8_feed 11 = .ok (.aload_n 0, 1) := by decide +kernel
theorem dX8_feed_12 : decode cX8_feed 12 = .ok (.getfield 28, 3) := by decide +kernel
theorem dX8_feed_15 : decode cX8_feed 15 = .ok (.getfield 226, 3) := by decide +kernel
theorem dX8_feed_18 : decode cX8_feed 18 = .ok (.iload_n 2, 1) := by decide +kernel
theorem dX8_feed_19 : decode cX8_feed 19 = .ok (.iadd, 1) := by decide +kernel
theorem dX8_feed_20 : decode cX8_feed 20 = .ok (.bipush 80, 2) := by decide +kernel
theorem dX8_feed_22 : decode cX8_feed 22 = .ok (.if_icmp .le 6, 3) := by decide +kernel
theorem dX8_feed_25 : decode cX8_feed 25 = .ok (.bipush (-3), 2) := by decide +kernel
theorem dX8_feed_27 : decode cX8_feed 27 = .ok (.ireturn, 1) := by decide +kernel
theorem dX8_feed_28 : decode cX8_feed 28 = .ok (.iload_n 2, 1) := by decide +kernel
theorem dX8_feed_29 : decode cX8_feed 29 = .ok (.iconst 1, 1) := by decide +kernel
theorem dX8_feed_30 : decode cX8_feed 30 = .ok (.isub, 1) := by decide +kernel
theorem dX8_feed_31 : decode cX8_feed 31 = .ok (.istore_n 3, 1) := by decide +kernel
theorem dX8_feed_32 : decode cX8_feed 32 = .ok (.iload_n 3, 1) := by decide +kernel
theorem dX8_feed_33 : decode cX8_feed 33 = .ok (.ifCond .lt 26, 3) := by decide +kernel
theorem dX8_feed_36 : decode cX8_feed 36 = .ok (.aload_n 0, 1) := by decide +kernel
theorem dX8_feed_37 : decode cX8_feed 37 = .ok (.getfield 28, 3) := by decide +kernel
theorem dX8_feed_40 : decode cX8_feed 40 = .ok (.iload_n 1, 1) := by decide +kernel
theorem dX8_feed_41 : decode cX8_feed 41 = .ok (.bipush 8, 2) := by decide +kernel
theorem dX8_feed_43 : decode cX8_feed 43 = .ok (.iload_n 3, 1) := by decide +kernel
theorem dX8_feed_44 : decode cX8_feed 44 = .ok (.imul, 1) := by decide +kernel
theorem dX8_feed_45 : decode cX8_feed 45 = .ok (.iushr, 1) := by decide +kernel
theorem dX8_feed_46 : decode cX8_feed 46 = .ok (.sipush 255, 3) := by decide +kernel
theorem dX8_feed_49 : decode cX8_feed 49 = .ok (.iand, 1) := by decide +kernel
theorem dX8_feed_50 : decode cX8_feed 50 = .ok (.invokevirtual 227, 3) := by decide +kernel
theorem dX8_feed_53 : decode cX8_feed 53 = .ok (.iinc 3 (-1), 3) := by decide +kernel
theorem dX8_feed_56 : decode cX8_feed 56 = .ok (.goto (-24), 3) := by decide +kernel
theorem dX8_feed_59 : decode cX8_feed 59 = .ok (.aload_n 0, 1) := by decide +kernel
theorem dX8_feed_60 : decode cX8_feed 60 = .ok (.getfield 28, 3) := by decide +kernel
theorem dX8_feed_63 : decode cX8_feed 63 = .ok (.getfield 226, 3) := by decide +kernel
theorem dX8_feed_66 : decode cX8_feed 66 = .ok (.ireturn, 1) := by decide +kernel
theorem dX8_wipe_0 : decode cX8_wipe 0 = .ok (.aload_n 0, 1) := by decide +kernel
theorem dX8_wipe_1 : decode cX8_wipe 1 = .ok (.getfield 28, 3) := by decide +kernel
theorem dX8_wipe_4 : decode cX8_wipe 4 = .ok (.getfield 226, 3) := by decide +kernel
theorem dX8_wipe_7 : decode cX8_wipe 7 = .ok (.istore_n 1, 1) := by decide +kernel
theorem dX8_wipe_8 : decode cX8_wipe 8 = .ok (.aload_n 0, 1) := by decide +kernel
theorem dX8_wipe_9 : decode cX8_wipe 9 = .ok (.getfield 28, 3) := by decide +kernel
theorem dX8_wipe_12 : decode cX8_wipe 12 = .ok (.invokevirtual 206, 3) := by decide +kernel
theorem dX8_wipe_15 : decode cX8_wipe 15 = .ok (.iload_n 1, 1) := by decide +kernel
theorem dX8_wipe_16 : decode cX8_wipe 16 = .ok (.ireturn, 1) := by decide +kernel
theorem dX8_spell_0 : decode cX8_spell 0 = .ok (.aload_n 0, 1) := by decide +kernel
theorem dX8_spell_1 : decode cX8_spell 1 = .ok (.getfield 12, 3) := by decide +kernel
theorem dX8_spell_4 : decode cX8_spell 4 = .ok (.iload_n 1, 1) := by decide +kernel
theorem dX8_spell_5 : decode cX8_spell 5 = .ok (.invokevirtual 97, 3) := by decide +kernel
theorem dX8_spell_8 : decode cX8_spell 8 = .ok (.astore_n 3, 1) := by decide +kernel
theorem dX8_spell_9 : decode cX8_spell 9 = .ok (.aload_n 3, 1) := by decide +kernel
theorem dX8_spell_10 : decode cX8_spell 10 = .ok (.ifnull 8, 3) := by decide +kernel
theorem dX8_spell_13 : decode cX8_spell 13 = .ok (.iload_n 2, 1) := by decide +kernel
theorem dX8_spell_14 : decode cX8_spell 14 = .ok (.iconst (-1), 1) := by decide +kernel
theorem dX8_spell_15 : decode cX8_spell 15 = .ok (.if_icmp .ge 5, 3) := by decide +kernel
theorem dX8_spell_18 : decode cX8_spell 18 = .ok (.iconst (-1), 1) := by decide +kernel
theorem dX8_spell_19 : decode cX8_spell 19 = .ok (.ireturn, 1) := by decide +kernel
theorem dX8_spell_20 : decode cX8_spell 20 = .ok (.aload_n 3, 1) := by decide +kernel
theorem dX8_spell_21 : decode cX8_spell 21 = .ok (.invokevirtual 230, 3) := by decide +kernel
theorem dX8_spell_24 : decode cX8_spell 24 = .ok (.istore 4, 2) := by decide +kernel
theorem dX8_spell_26 : decode cX8_spell 26 = .ok (.iload_n 2, 1) := by decide +kernel
theorem dX8_spell_27 : decode cX8_spell 27 = .ok (.iconst (-1), 1) := by decide +kernel
theorem dX8_spell_28 : decode cX8_spell 28 = .ok (.if_icmp .ne 6, 3) := by decide +kernel
theorem dX8_spell_31 : decode cX8_spell 31 = .ok (.iload 4, 2) := by decide +kernel
theorem dX8_spell_33 : decode cX8_spell 33 = .ok (.ireturn, 1) := by decide +kernel
theorem dX8_spell_34 : decode cX8_spell 34 = .ok (.iload_n 2, 1) := by decide +kernel
theorem dX8_spell_35 : decode cX8_spell 35 = .ok (.iload 4, 2) := by decide +kernel
theorem dX8_spell_37 : decode cX8_spell 37 = .ok (.if_icmp .ge 11, 3) := by decide +kernel
theorem dX8_spell_40 : decode cX8_spell 40 = .ok (.aload_n 3, 1) := by decide +kernel
theorem dX8_spell_41 : decode cX8_spell 41 = .ok (.iload_n 2, 1) := by decide +kernel
theorem dX8_spell_42 : decode cX8_spell 42 = .ok (.invokevirtual 233, 3) := by decide +kernel
theorem dX8_spell_45 : decode cX8_spell 45 = .ok (.goto 5, 3) := by decide +kernel
theorem dX8_spell_48 : decode cX8_spell 48 = .ok (.bipush (-2), 2) := by decide +kernel
theorem dX8_spell_50 : decode cX8_spell 50 = .ok (.ireturn, 1) := by decide +kernel
theorem dX8_read_0 : decode cX8_read 0 = .ok (.iload_n 1, 1) := by decide +kernel
theorem dX8_read_1 : decode cX8_read 1 = .ok (.invokestatic 85, 3) := by decide +kernel
theorem dX8_read_4 : decode cX8_read 4 = .ok (.ifCond .ne 5, 3) := by decide +kernel
theorem dX8_read_7 : decode cX8_read 7 = .ok (.iconst (-1), 1) := by decide +kernel
theorem dX8_read_8 : decode cX8_read 8 = .ok (.ireturn, 1) := by decide +kernel
theorem dX8_read_9 : decode cX8_read 9 = .ok (.aload_n 0, 1) := by decide +kernel
theorem dX8_read_10 : decode cX8_read 10 = .ok (.getfield 35, 3) := by decide +kernel
theorem dX8_read_13 : decode cX8_read 13 = .ok (.aload_n 0, 1) := by decide +kernel
theorem dX8_read_14 : decode cX8_read 14 = .ok (.getfield 28, 3) := by decide +kernel
theorem dX8_read_17 : decode cX8_read 17 = .ok (.iload_n 1, 1) := by decide +kernel
theorem dX8_read_18 : decode cX8_read 18 = .ok (.invokevirtual 236, 3) := by decide +kernel
theorem dX8_read_21 : decode cX8_read 21 = .ok (.istore_n 2, 1) := by decide +kernel
theorem dX8_read_22 : decode cX8_read 22 = .ok (.aload_n 0, 1) := by decide +kernel
theorem dX8_read_23 : decode cX8_read 23 = .ok (.getfield 28, 3) := by decide +kernel
theorem dX8_read_26 : decode cX8_read 26 = .ok (.invokevirtual 206, 3) := by decide +kernel
theorem dX8_read_29 : decode cX8_read 29 = .ok (.iload_n 2, 1) := by decide +kernel
theorem dX8_read_30 : decode cX8_read 30 = .ok (.iconst (-1), 1) := by decide +kernel
theorem dX8_read_31 : decode cX8_read 31 = .ok (.if_icmp .eq 9, 3) := by decide +kernel
theorem dX8_read_34 : decode cX8_read 34 = .ok (.sipush (-1000), 3) := by decide +kernel
theorem dX8_read_37 : decode cX8_read 37 = .ok (.iload_n 2, 1) := by decide +kernel
theorem dX8_read_38 : decode cX8_read 38 = .ok (.isub, 1) := by decide +kernel
theorem dX8_read_39 : decode cX8_read 39 = .ok (.ireturn, 1) := by decide +kernel
theorem dX8_read_40 : decode cX8_read 40 = .ok (.aload_n 0, 1) := by decide +kernel
theorem dX8_read_41 : decode cX8_read 41 = .ok (.aload_n 0, 1) := by decide +kernel
theorem dX8_read_42 : decode cX8_read 42 = .ok (.getfield 35, 3) := by decide +kernel
theorem dX8_read_45 : decode cX8_read 45 = .ok (.getfield 239, 3) := by decide +kernel
theorem dX8_read_48 : decode cX8_read 48 = .ok (.aload_n 0, 1) := by decide +kernel
theorem dX8_read_49 : decode cX8_read 49 = .ok (.getfield 35, 3) := by decide +kernel
theorem dX8_read_52 : decode cX8_read 52 = .ok (.getfield 242, 3) := by decide +kernel
theorem dX8_read_55 : decode cX8_read 55 = .ok (.iload_n 1, 1) := by decide +kernel
theorem dX8_read_56 : decode cX8_read 56 = .ok (.invokevirtual 115, 3) := by decide +kernel
theorem dX8_read_59 : decode cX8_read 59 = .ok (.ireturn, 1) := by decide +kernel
theorem dX8_run_0 : decode cX8_run 0 = .ok (.aload_n 0, 1) := by decide +kernel
theorem dX8_run_1 : decode cX8_run 1 = .ok (.getfield 42, 3) := by decide +kernel
theorem dX8_run_4 : decode cX8_run 4 = .ok (.aload_n 0, 1) := by decide +kernel
theorem dX8_run_5 : decode cX8_run 5 = .ok (.getfield 28, 3) := by decide +kernel
theorem dX8_run_8 : decode cX8_run 8 = .ok (.invokevirtual 244, 3) := by decide +kernel
theorem dX8_run_11 : decode cX8_run 11 = .ok (.istore_n 1, 1) := by decide +kernel
theorem dX8_run_12 : decode cX8_run 12 = .ok (.aload_n 0, 1) := by decide +kernel
theorem dX8_run_13 : decode cX8_run 13 = .ok (.getfield 28, 3) := by decide +kernel
theorem dX8_run_16 : decode cX8_run 16 = .ok (.invokevirtual 206, 3) := by decide +kernel
theorem dX8_run_19 : decode cX8_run 19 = .ok (.iload_n 1, 1) := by decide +kernel
theorem dX8_run_20 : decode cX8_run 20 = .ok (.iconst (-1), 1) := by decide +kernel
theorem dX8_run_21 : decode cX8_run 21 = .ok (.if_icmp .eq 9, 3) := by decide +kernel
theorem dX8_run_24 : decode cX8_run 24 = .ok (.sipush (-1000), 3) := by decide +kernel
theorem dX8_run_27 : decode cX8_run 27 = .ok (.iload_n 1, 1) := by decide +kernel
theorem dX8_run_28 : decode cX8_run 28 = .ok (.isub, 1) := by decide +kernel
theorem dX8_run_29 : decode cX8_run 29 = .ok (.ireturn, 1) := by decide +kernel
theorem dX8_run_30 : decode cX8_run 30 = .ok (.iconst 0, 1) := by decide +kernel
theorem dX8_run_31 : decode cX8_run 31 = .ok (.istore_n 2, 1) := by decide +kernel
theorem dX8_run_32 : decode cX8_run 32 = .ok (.iload_n 2, 1) := by decide +kernel
theorem dX8_run_33 : decode cX8_run 33 = .ok (.aload_n 0, 1) := by decide +kernel
theorem dX8_run_34 : decode cX8_run 34 = .ok (.getfield 42, 3) := by decide +kernel
theorem dX8_run_37 : decode cX8_run 37 = .ok (.getfield 247, 3) := by decide +kernel
theorem dX8_run_40 : decode cX8_run 40 = .ok (.if_icmp .ge 23, 3) := by decide +kernel
theorem dX8_run_43 : decode cX8_run 43 = .ok (.aload_n 0, 1) := by decide +kernel
theorem dX8_run_44 : decode cX8_run 44 = .ok (.iload_n 2, 1) := by decide +kernel
theorem dX8_run_45 : decode cX8_run 45 = .ok (.invokevirtual 250, 3) := by decide +kernel
theorem dX8_run_48 : decode cX8_run 48 = .ok (.ifCond .ge 9, 3) := by decide +kernel
theorem dX8_run_51 : decode cX8_run 51 = .ok (.sipush (-2000), 3) := by decide +kernel
theorem dX8_run_54 : decode cX8_run 54 = .ok (.iload_n 2, 1) := by decide +kernel
theorem dX8_run_55 : decode cX8_run 55 = .ok (.isub, 1) := by decide +kernel
theorem dX8_run_56 : decode cX8_run 56 = .ok (.ireturn, 1) := by decide +kernel
theorem dX8_run_57 : decode cX8_run 57 = .ok (.iinc 2 1, 3) := by decide +kernel
theorem dX8_run_60 : decode cX8_run 60 = .ok (.goto (-28), 3) := by decide +kernel
theorem dX8_run_63 : decode cX8_run 63 = .ok (.aload_n 0, 1) := by decide +kernel
theorem dX8_run_64 : decode cX8_run 64 = .ok (.getfield 42, 3) := by decide +kernel
theorem dX8_run_67 : decode cX8_run 67 = .ok (.getfield 247, 3) := by decide +kernel
theorem dX8_run_70 : decode cX8_run 70 = .ok (.ireturn, 1) := by decide +kernel
theorem dX8_hold_0 : decode cX8_hold 0 = .ok (.aload_n 0, 1) := by decide +kernel
theorem dX8_hold_1 : decode cX8_hold 1 = .ok (.iload_n 1, 1) := by decide +kernel
theorem dX8_hold_2 : decode cX8_hold 2 = .ok (.invokevirtual 253, 3) := by decide +kernel
theorem dX8_hold_5 : decode cX8_hold 5 = .ok (.astore_n 3, 1) := by decide +kernel
theorem dX8_hold_6 : decode cX8_hold 6 = .ok (.aload_n 0, 1) := by decide +kernel
theorem dX8_hold_7 : decode cX8_hold 7 = .ok (.getfield 12, 3) := by decide +kernel
theorem dX8_hold_10 : decode cX8_hold 10 = .ok (.iload_n 2, 1) := by decide +kernel
theorem dX8_hold_11 : decode cX8_hold 11 = .ok (.invokevirtual 97, 3) := by decide +kernel
theorem dX8_hold_14 : decode cX8_hold 14 = .ok (.astore 4, 2) := by decide +kernel
theorem dX8_hold_16 : decode cX8_hold 16 = .ok (.aload_n 3, 1) := by decide +kernel
theorem dX8_hold_17 : decode cX8_hold 17 = .ok (.ifnull 8, 3) := by decide +kernel
theorem dX8_hold_20 : decode cX8_hold 20 = .ok (.aload 4, 2) := by decide +kernel
theorem dX8_hold_22 : decode cX8_hold 22 = .ok (.ifnonnull 5, 3) := by decide +kernel
theorem dX8_hold_25 : decode cX8_hold 25 = .ok (.iconst (-1), 1) := by decide +kernel
theorem dX8_hold_26 : decode cX8_hold 26 = .ok (.ireturn, 1) := by decide +kernel
theorem dX8_hold_27 : decode cX8_hold 27 = .ok (.aload_n 3, 1) := by decide +kernel
theorem dX8_hold_28 : decode cX8_hold 28 = .ok (.aload 4, 2) := by decide +kernel
theorem dX8_hold_30 : decode cX8_hold 30 = .ok (.invokevirtual 257, 3) := by decide +kernel
theorem dX8_hold_33 : decode cX8_hold 33 = .ok (.aload 4, 2) := by decide +kernel
theorem dX8_hold_35 : decode cX8_hold 35 = .ok (.invokevirtual 136, 3) := by decide +kernel
theorem dX8_hold_38 : decode cX8_hold 38 = .ok (.ireturn, 1) := by decide +kernel
theorem dX8_lose_0 : decode cX8_lose 0 = .ok (.aload_n 0, 1) := by decide +kernel
theorem dX8_lose_1 : decode cX8_lose 1 = .ok (.iload_n 1, 1) := by decide +kernel
theorem dX8_lose_2 : decode cX8_lose 2 = .ok (.invokevirtual 253, 3) := by decide +kernel
theorem dX8_lose_5 : decode cX8_lose 5 = .ok (.astore_n 2, 1) := by decide +kernel
theorem dX8_lose_6 : decode cX8_lose 6 = .ok (.aload_n 2, 1) := by decide +kernel
theorem dX8_lose_7 : decode cX8_lose 7 = .ok (.ifnonnull 5, 3) := by decide +kernel
theorem dX8_lose_10 : decode cX8_lose 10 = .ok (.iconst (-1), 1) := by decide +kernel
theorem dX8_lose_11 : decode cX8_lose 11 = .ok (.ireturn, 1) := by decide +kernel
theorem dX8_lose_12 : decode cX8_lose 12 = .ok (.aload_n 2, 1) := by decide +kernel
theorem dX8_lose_13 : decode cX8_lose 13 = .ok (.getfield 260, 3) := by decide +kernel
theorem dX8_lose_16 : decode cX8_lose 16 = .ok (.istore_n 3, 1) := by decide +kernel
theorem dX8_lose_17 : decode cX8_lose 17 = .ok (.aload_n 2, 1) := by decide +kernel
theorem dX8_lose_18 : decode cX8_lose 18 = .ok (.iconst 0, 1) := by decide +kernel
theorem dX8_lose_19 : decode cX8_lose 19 = .ok (.putfield 260, 3) := by decide +kernel
theorem dX8_lose_22 : decode cX8_lose 22 = .ok (.iload_n 3, 1) := by decide +kernel
theorem dX8_lose_23 : decode cX8_lose 23 = .ok (.ireturn, 1) := by decide +kernel
theorem dX8_taken_0 : decode cX8_taken 0 = .ok (.aload_n 0, 1) := by decide +kernel
theorem dX8_taken_1 : decode cX8_taken 1 = .ok (.iload_n 1, 1) := by decide +kernel
theorem dX8_taken_2 : decode cX8_taken 2 = .ok (.invokevirtual 253, 3) := by decide +kernel
theorem dX8_taken_5 : decode cX8_taken 5 = .ok (.astore_n 3, 1) := by decide +kernel
theorem dX8_taken_6 : decode cX8_taken 6 = .ok (.aload_n 3, 1) := by decide +kernel
theorem dX8_taken_7 : decode cX8_taken 7 = .ok (.ifnull 12, 3) := by decide +kernel
theorem dX8_taken_10 : decode cX8_taken 10 = .ok (.iload_n 2, 1) := by decide +kernel
theorem dX8_taken_11 : decode cX8_taken 11 = .ok (.iconst 0, 1) := by decide +kernel
theorem dX8_taken_12 : decode cX8_taken 12 = .ok (.iconst 3, 1) := by decide +kernel
theorem dX8_taken_13 : decode cX8_taken 13 = .ok (.invokestatic 81, 3) := by decide +kernel
theorem dX8_taken_16 : decode cX8_taken 16 = .ok (.ifCond .ne 5, 3) := by decide +kernel
theorem dX8_taken_19 : decode cX8_taken 19 = .ok (.iconst (-1), 1) := by decide +kernel
theorem dX8_taken_20 : decode cX8_taken 20 = .ok (.ireturn, 1) := by decide +kernel
theorem dX8_taken_21 : decode cX8_taken 21 = .ok (.aload_n 3, 1) := by decide +kernel
theorem dX8_taken_22 : decode cX8_taken 22 = .ok (.iconst 1, 1) := by decide +kernel
theorem dX8_taken_23 : decode cX8_taken 23 = .ok (.invokevirtual 263, 3) := by decide +kernel
theorem dX8_taken_26 : decode cX8_taken 26 = .ok (.istore 4, 2) := by decide +kernel
theorem dX8_taken_28 : decode cX8_taken 28 = .ok (.iload 4, 2) := by decide +kernel
theorem dX8_taken_30 : decode cX8_taken 30 = .ok (.ifCond .eq 6, 3) := by decide +kernel
theorem dX8_taken_33 : decode cX8_taken 33 = .ok (.iload 4, 2) := by decide +kernel
theorem dX8_taken_35 : decode cX8_taken 35 = .ok (.ireturn, 1) := by decide +kernel
theorem dX8_taken_36 : decode cX8_taken 36 = .ok (.aload_n 3, 1) := by decide +kernel
theorem dX8_taken_37 : decode cX8_taken 37 = .ok (.getfield 266, 3) := by decide +kernel
theorem dX8_taken_40 : decode cX8_taken 40 = .ok (.astore 5, 2) := by decide +kernel
theorem dX8_taken_42 : decode cX8_taken 42 = .ok (.iload_n 2, 1) := by decide +kernel
theorem dX8_taken_43 : decode cX8_taken 43 = .ok (.ifCond .ne 9, 3) := by decide +kernel
theorem dX8_taken_46 : decode cX8_taken 46 = .ok (.aload 5, 2) := by decide +kernel
theorem dX8_taken_48 : decode cX8_taken 48 = .ok (.getfield 101, 3) := by decide +kernel
theorem dX8_taken_51 : decode cX8_taken 51 = .ok (.ireturn, 1) := by decide +kernel
theorem dX8_taken_52 : decode cX8_taken 52 = .ok (.iload_n 2, 1) := by decide +kernel
theorem dX8_taken_53 : decode cX8_taken 53 = .ok (.iconst 1, 1) := by decide +kernel
theorem dX8_taken_54 : decode cX8_taken 54 = .ok (.isub, 1) := by decide +kernel
theorem dX8_taken_55 : decode cX8_taken 55 = .ok (.istore 6, 2) := by decide +kernel
theorem dX8_taken_57 : decode cX8_taken 57 = .ok (.aload 5, 2) := by decide +kernel
theorem dX8_taken_59 : decode cX8_taken 59 = .ok (.invokevirtual 136, 3) := by decide +kernel
theorem dX8_taken_62 : decode cX8_taken 62 = .ok (.iload 6, 2) := by decide +kernel
theorem dX8_taken_64 : decode cX8_taken 64 = .ok (.if_icmp .eq 6, 3) := by decide +kernel
theorem dX8_taken_67 : decode cX8_taken 67 = .ok (.bipush (-12), 2) := by decide +kernel
theorem dX8_taken_69 : decode cX8_taken 69 = .ok (.ireturn, 1) := by decide +kernel
theorem dX8_taken_70 : decode cX8_taken 70 = .ok (.iload 6, 2) := by decide +kernel
theorem dX8_taken_72 : decode cX8_taken 72 = .ok (.iconst 1, 1) := by decide +kernel
theorem dX8_taken_73 : decode cX8_taken 73 = .ok (.if_icmp .ne 11, 3) := by decide +kernel
theorem dX8_taken_76 : decode cX8_taken 76 = .ok (.aload 5, 2) := by decide +kernel
theorem dX8_taken_78 : decode cX8_taken 78 = .ok (.getfield 133, 3) := by decide +kernel
theorem dX8_taken_81 : decode cX8_taken 81 = .ok (.goto 8, 3) := by decide +kernel
theorem dX8_taken_84 : decode cX8_taken 84 = .ok (.aload 5, 2) := by decide +kernel
theorem dX8_taken_86 : decode cX8_taken 86 = .ok (.getfield 130, 3) := by decide +kernel
theorem dX8_taken_89 : decode cX8_taken 89 = .ok (.ireturn, 1) := by decide +kernel
theorem dX8_was_0 : decode cX8_was 0 = .ok (.aload_n 0, 1) := by decide +kernel
theorem dX8_was_1 : decode cX8_was 1 = .ok (.iload_n 1, 1) := by decide +kernel
theorem dX8_was_2 : decode cX8_was 2 = .ok (.invokevirtual 253, 3) := by decide +kernel
theorem dX8_was_5 : decode cX8_was 5 = .ok (.astore_n 3, 1) := by decide +kernel
theorem dX8_was_6 : decode cX8_was 6 = .ok (.aload_n 3, 1) := by decide +kernel
theorem dX8_was_7 : decode cX8_was 7 = .ok (.ifnull 14, 3) := by decide +kernel
theorem dX8_was_10 : decode cX8_was 10 = .ok (.iload_n 2, 1) := by decide +kernel
theorem dX8_was_11 : decode cX8_was 11 = .ok (.iconst 0, 1) := by decide +kernel
theorem dX8_was_12 : decode cX8_was 12 = .ok (.sipush 9999, 3) := by decide +kernel
theorem dX8_was_15 : decode cX8_was 15 = .ok (.invokestatic 81, 3) := by decide +kernel
theorem dX8_was_18 : decode cX8_was 18 = .ok (.ifCond .ne 5, 3) := by decide +kernel
theorem dX8_was_21 : decode cX8_was 21 = .ok (.iconst (-1), 1) := by decide +kernel
theorem dX8_was_22 : decode cX8_was 22 = .ok (.ireturn, 1) := by decide +kernel
theorem dX8_was_23 : decode cX8_was 23 = .ok (.aload_n 3, 1) := by decide +kernel
theorem dX8_was_24 : decode cX8_was 24 = .ok (.iconst 1, 1) := by decide +kernel
theorem dX8_was_25 : decode cX8_was 25 = .ok (.invokevirtual 263, 3) := by decide +kernel
theorem dX8_was_28 : decode cX8_was 28 = .ok (.istore 4, 2) := by decide +kernel
theorem dX8_was_30 : decode cX8_was 30 = .ok (.iload 4, 2) := by decide +kernel
theorem dX8_was_32 : decode cX8_was 32 = .ok (.ifCond .eq 6, 3) := by decide +kernel
theorem dX8_was_35 : decode cX8_was 35 = .ok (.iload 4, 2) := by decide +kernel
theorem dX8_was_37 : decode cX8_was 37 = .ok (.ireturn, 1) := by decide +kernel
theorem dX8_was_38 : decode cX8_was 38 = .ok (.aload_n 3, 1) := by decide +kernel
theorem dX8_was_39 : decode cX8_was 39 = .ok (.getfield 266, 3) := by decide +kernel
theorem dX8_was_42 : decode cX8_was 42 = .ok (.aload_n 3, 1) := by decide +kernel
theorem dX8_was_43 : decode cX8_was 43 = .ok (.getfield 266, 3) := by decide +kernel
theorem dX8_was_46 : decode cX8_was 46 = .ok (.iload_n 2, 1) := by decide +kernel
theorem dX8_was_47 : decode cX8_was 47 = .ok (.invokevirtual 139, 3) := by decide +kernel
theorem dX8_was_50 : decode cX8_was 50 = .ok (.invokevirtual 142, 3) := by decide +kernel
theorem dX8_was_53 : decode cX8_was 53 = .ok (.ireturn, 1) := by decide +kernel
theorem dX8_row_0 : decode cX8_row 0 = .ok (.aload_n 0, 1) := by decide +kernel
theorem dX8_row_1 : decode cX8_row 1 = .ok (.iload_n 1, 1) := by decide +kernel
theorem dX8_row_2 : decode cX8_row 2 = .ok (.invokevirtual 253, 3) := by decide +kernel
theorem dX8_row_5 : decode cX8_row 5 = .ok (.astore_n 3, 1) := by decide +kernel
theorem dX8_row_6 : decode cX8_row 6 = .ok (.aload_n 3, 1) := by decide +kernel
theorem dX8_row_7 : decode cX8_row 7 = .ok (.ifnull 9, 3) := by decide +kernel
theorem dX8_row_10 : decode cX8_row 10 = .ok (.iload_n 2, 1) := by decide +kernel
theorem dX8_row_11 : decode cX8_row 11 = .ok (.bipush 40, 2) := by decide +kernel
theorem dX8_row_13 : decode cX8_row 13 = .ok (.if_icmp .le 5, 3) := by decide +kernel
theorem dX8_row_16 : decode cX8_row 16 = .ok (.iconst (-1), 1) := by decide +kernel
theorem dX8_row_17 : decode cX8_row 17 = .ok (.ireturn, 1) := by decide +kernel
theorem dX8_row_18 : decode cX8_row 18 = .ok (.iload_n 2, 1) := by decide +kernel
theorem dX8_row_19 : decode cX8_row 19 = .ok (.ifCond .ge 6, 3) := by decide +kernel
theorem dX8_row_22 : decode cX8_row 22 = .ok (.bipush (-14), 2) := by decide +kernel
theorem dX8_row_24 : decode cX8_row 24 = .ok (.ireturn, 1) := by decide +kernel
theorem dX8_row_25 : decode cX8_row 25 = .ok (.aload_n 3, 1) := by decide +kernel
theorem dX8_row_26 : decode cX8_row 26 = .ok (.iload_n 2, 1) := by decide +kernel
theorem dX8_row_27 : decode cX8_row 27 = .ok (.invokevirtual 269, 3) := by decide +kernel
theorem dX8_row_30 : decode cX8_row 30 = .ok (.iload_n 2, 1) := by decide +kernel
theorem dX8_row_31 : decode cX8_row 31 = .ok (.ireturn, 1) := by decide +kernel
theorem dX8_put_0 : decode cX8_put 0 = .ok (.aload_n 0, 1) := by decide +kernel
theorem dX8_put_1 : decode cX8_put 1 = .ok (.iload_n 1, 1) := by decide +kernel
theorem dX8_put_2 : decode cX8_put 2 = .ok (.invokevirtual 253, 3) := by decide +kernel
theorem dX8_put_5 : decode cX8_put 5 = .ok (.astore 4, 2) := by decide +kernel
theorem dX8_put_7 : decode cX8_put 7 = .ok (.aload 4, 2) := by decide +kernel
theorem dX8_put_9 : decode cX8_put 9 = .ok (.ifnonnull 5, 3) := by decide +kernel
theorem dX8_put_12 : decode cX8_put 12 = .ok (.iconst (-1), 1) := by decide +kernel
theorem dX8_put_13 : decode cX8_put 13 = .ok (.ireturn, 1) := by decide +kernel
theorem dX8_put_14 : decode cX8_put 14 = .ok (.aload 4, 2) := by decide +kernel
theorem dX8_put_16 : decode cX8_put 16 = .ok (.iconst 2, 1) := by decide +kernel
theorem dX8_put_17 : decode cX8_put 17 = .ok (.invokevirtual 263, 3) := by decide +kernel
theorem dX8_put_20 : decode cX8_put 20 = .ok (.istore 5, 2) := by decide +kernel
theorem dX8_put_22 : decode cX8_put 22 = .ok (.iload 5, 2) := by decide +kernel
theorem dX8_put_24 : decode cX8_put 24 = .ok (.ifCond .eq 6, 3) := by decide +kernel
theorem dX8_put_27 : decode cX8_put 27 = .ok (.iload 5, 2) := by decide +kernel
theorem dX8_put_29 : decode cX8_put 29 = .ok (.ireturn, 1) := by decide +kernel
theorem dX8_put_30 : decode cX8_put 30 = .ok (.aload 4, 2) := by decide +kernel
theorem dX8_put_32 : decode cX8_put 32 = .ok (.iload_n 2, 1) := by decide +kernel
theorem dX8_put_33 : decode cX8_put 33 = .ok (.invokevirtual 272, 3) := by decide +kernel
theorem dX8_put_36 : decode cX8_put 36 = .ok (.ifCond .ne 6, 3) := by decide +kernel
theorem dX8_put_39 : decode cX8_put 39 = .ok (.bipush (-13), 2) := by decide +kernel
theorem dX8_put_41 : decode cX8_put 41 = .ok (.ireturn, 1) := by decide +kernel
theorem dX8_put_42 : decode cX8_put 42 = .ok (.aload 4, 2) := by decide +kernel
theorem dX8_put_44 : decode cX8_put 44 = .ok (.getfield 275, 3) := by decide +kernel
theorem dX8_put_47 : decode cX8_put 47 = .ok (.iload_n 2, 1) := by decide +kernel
theorem dX8_put_48 : decode cX8_put 48 = .ok (.iload_n 3, 1) := by decide +kernel
theorem dX8_put_49 : decode cX8_put 49 = .ok (.invokestatic 175, 3) := by decide +kernel
theorem dX8_put_52 : decode cX8_put 52 = .ok (.iconst 1, 1) := by decide +kernel
theorem dX8_put_53 : decode cX8_put 53 = .ok (.ireturn, 1) := by decide +kernel
theorem dX8_get_0 : decode cX8_get 0 = .ok (.aload_n 0, 1) := by decide +kernel
theorem dX8_get_1 : decode cX8_get 1 = .ok (.iload_n 1, 1) := by decide +kernel
theorem dX8_get_2 : decode cX8_get 2 = .ok (.invokevirtual 253, 3) := by decide +kernel
theorem dX8_get_5 : decode cX8_get 5 = .ok (.astore_n 3, 1) := by decide +kernel
theorem dX8_get_6 : decode cX8_get 6 = .ok (.aload_n 3, 1) := by decide +kernel
theorem dX8_get_7 : decode cX8_get 7 = .ok (.ifnull 19, 3) := by decide +kernel
theorem dX8_get_10 : decode cX8_get 10 = .ok (.aload_n 3, 1) := by decide +kernel
theorem dX8_get_11 : decode cX8_get 11 = .ok (.iconst 2, 1) := by decide +kernel
theorem dX8_get_12 : decode cX8_get 12 = .ok (.invokevirtual 263, 3) := by decide +kernel
theorem dX8_get_15 : decode cX8_get 15 = .ok (.ifCond .ne 11, 3) := by decide +kernel
theorem dX8_get_18 : decode cX8_get 18 = .ok (.aload_n 3, 1) := by decide +kernel
theorem dX8_get_19 : decode cX8_get 19 = .ok (.iload_n 2, 1) := by decide +kernel
theorem dX8_get_20 : decode cX8_get 20 = .ok (.invokevirtual 272, 3) := by decide +kernel
theorem dX8_get_23 : decode cX8_get 23 = .ok (.ifCond .ne 7, 3) := by decide +kernel
theorem dX8_get_26 : decode cX8_get 26 = .ok (.ldc2_w 220, 3) := by decide +kernel
theorem dX8_get_29 : decode cX8_get 29 = .ok (.lreturn, 1) := by decide +kernel
theorem dX8_get_30 : decode cX8_get 30 = .ok (.aload_n 3, 1) := by decide +kernel
theorem dX8_get_31 : decode cX8_get 31 = .ok (.getfield 275, 3) := by decide +kernel
theorem dX8_get_34 : decode cX8_get 34 = .ok (.iload_n 2, 1) := by decide +kernel
theorem dX8_get_35 : decode cX8_get 35 = .ok (.invokestatic 216, 3) := by decide +kernel
theorem dX8_get_38 : decode cX8_get 38 = .ok (.i2l, 1) := by decide +kernel
theorem dX8_get_39 : decode cX8_get 39 = .ok (.lreturn, 1) := by decide +kernel
theorem dX8_judge_0 : decode cX8_judge 0 = .ok (.aload_n 0, 1) := by decide +kernel
theorem dX8_judge_1 : decode cX8_judge 1 = .ok (.iload_n 1, 1) := by decide +kernel
theorem dX8_judge_2 : decode cX8_judge 2 = .ok (.invokevirtual 253, 3) := by decide +kernel
theorem dX8_judge_5 : decode cX8_judge 5 = .ok (.astore_n 3, 1) := by decide +kernel
theorem dX8_judge_6 : decode cX8_judge 6 = .ok (.aload_n 0, 1) := by decide +kernel
theorem dX8_judge_7 : decode cX8_judge 7 = .ok (.getfield 12, 3) := by decide +kernel
theorem dX8_judge_10 : decode cX8_judge 10 = .ok (.iload_n 2, 1) := by decide +kernel
theorem dX8_judge_11 : decode cX8_judge 11 = .ok (.invokevirtual 97, 3) := by decide +kernel
theorem dX8_judge_14 : decode cX8_judge 14 = .ok (.astore 4, 2) := by decide +kernel
theorem dX8_judge_16 : decode cX8_judge 16 = .ok (.aload_n 3, 1) := by decide +kernel
theorem dX8_judge_17 : decode cX8_judge 17 = .ok (.ifnull 8, 3) := by decide +kernel
theorem dX8_judge_20 : decode cX8_judge 20 = .ok (.aload 4, 2) := by decide +kernel
theorem dX8_judge_22 : decode cX8_judge 22 = .ok (.ifnonnull 5, 3) := by decide +kernel
theorem dX8_judge_25 : decode cX8_judge 25 = .ok (.iconst (-1), 1) := by decide +kernel
theorem dX8_judge_26 : decode cX8_judge 26 = .ok (.ireturn, 1) := by decide +kernel
theorem dX8_judge_27 : decode cX8_judge 27 = .ok (.aload_n 3, 1) := by decide +kernel
theorem dX8_judge_28 : decode cX8_judge 28 = .ok (.iconst 2, 1) := by decide +kernel
theorem dX8_judge_29 : decode cX8_judge 29 = .ok (.invokevirtual 263, 3) := by decide +kernel
theorem dX8_judge_32 : decode cX8_judge 32 = .ok (.istore 5, 2) := by decide +kernel
theorem dX8_judge_34 : decode cX8_judge 34 = .ok (.iload 5, 2) := by decide +kernel
theorem dX8_judge_36 : decode cX8_judge 36 = .ok (.ifCond .eq 6, 3) := by decide +kernel
theorem dX8_judge_39 : decode cX8_judge 39 = .ok (.iload 5, 2) := by decide +kernel
theorem dX8_judge_41 : decode cX8_judge 41 = .ok (.ireturn, 1) := by decide +kernel
theorem dX8_judge_42 : decode cX8_judge 42 = .ok (.aload_n 3, 1) := by decide +kernel
theorem dX8_judge_43 : decode cX8_judge 43 = .ok (.aload 4, 2) := by decide +kernel
theorem dX8_judge_45 : decode cX8_judge 45 = .ok (.invokevirtual 278, 3) := by decide +kernel
theorem dX8_judge_48 : decode cX8_judge 48 = .ok (.ireturn, 1) := by decide +kernel
theorem dX8_image_0 : decode cX8_image 0 = .ok (.aload_n 0, 1) := by decide +kernel
theorem dX8_image_1 : decode cX8_image 1 = .ok (.getfield 52, 3) := by decide +kernel
theorem dX8_image_4 : decode cX8_image 4 = .ok (.aload_n 0, 1) := by decide +kernel
theorem dX8_image_5 : decode cX8_image 5 = .ok (.getfield 12, 3) := by decide +kernel
theorem dX8_image_8 : decode cX8_image 8 = .ok (.invokevirtual 282, 3) := by decide +kernel
theorem dX8_image_11 : decode cX8_image 11 = .ok (.aload_n 0, 1) := by decide +kernel
theorem dX8_image_12 : decode cX8_image 12 = .ok (.getfield 55, 3) := by decide +kernel
theorem dX8_image_15 : decode cX8_image 15 = .ok (.aload_n 0, 1) := by decide +kernel
theorem dX8_image_16 : decode cX8_image 16 = .ok (.getfield 21, 3) := by decide +kernel
theorem dX8_image_19 : decode cX8_image 19 = .ok (.invokevirtual 286, 3) := by decide +kernel
theorem dX8_image_22 : decode cX8_image 22 = .ok (.aload_n 0, 1) := by decide +kernel
theorem dX8_image_23 : decode cX8_image 23 = .ok (.iconst 1, 1) := by decide +kernel
theorem dX8_image_24 : decode cX8_image 24 = .ok (.putfield 58, 3) := by decide +kernel
theorem dX8_image_27 : decode cX8_image 27 = .ok (.aload_n 0, 1) := by decide +kernel
theorem dX8_image_28 : decode cX8_image 28 = .ok (.getfield 12, 3) := by decide +kernel
theorem dX8_image_31 : decode cX8_image 31 = .ok (.getfield 289, 3) := by decide +kernel
theorem dX8_image_34 : decode cX8_image 34 = .ok (.ireturn, 1) := by decide +kernel
theorem dX8_undo_0 : decode cX8_undo 0 = .ok (.aload_n 0, 1) := by decide +kernel
theorem dX8_undo_1 : decode cX8_undo 1 = .ok (.getfield 58, 3) := by decide +kernel
theorem dX8_undo_4 : decode cX8_undo 4 = .ok (.ifCond .ne 6, 3) := by decide +kernel
theorem dX8_undo_7 : decode cX8_undo 7 = .ok (.bipush (-5), 2) := by decide +kernel
theorem dX8_undo_9 : decode cX8_undo 9 = .ok (.ireturn, 1) := by decide +kernel
theorem dX8_undo_10 : decode cX8_undo 10 = .ok (.aload_n 0, 1) := by decide +kernel
theorem dX8_undo_11 : decode cX8_undo 11 = .ok (.getfield 12, 3) := by decide +kernel
theorem dX8_undo_14 : decode cX8_undo 14 = .ok (.aload_n 0, 1) := by decide +kernel
theorem dX8_undo_15 : decode cX8_undo 15 = .ok (.getfield 52, 3) := by decide +kernel
theorem dX8_undo_18 : decode cX8_undo 18 = .ok (.invokevirtual 282, 3) := by decide +kernel
theorem dX8_undo_21 : decode cX8_undo 21 = .ok (.aload_n 0, 1) := by decide +kernel
theorem dX8_undo_22 : decode cX8_undo 22 = .ok (.getfield 21, 3) := by decide +kernel
theorem dX8_undo_25 : decode cX8_undo 25 = .ok (.aload_n 0, 1) := by decide +kernel
theorem dX8_undo_26 : decode cX8_undo 26 = .ok (.getfield 55, 3) := by decide +kernel
theorem dX8_undo_29 : decode cX8_undo 29 = .ok (.invokevirtual 286, 3) := by decide +kernel
theorem dX8_undo_32 : decode cX8_undo 32 = .ok (.aload_n 0, 1) := by decide +kernel
theorem dX8_undo_33 : decode cX8_undo 33 = .ok (.getfield 12, 3) := by decide +kernel
theorem dX8_undo_36 : decode cX8_undo 36 = .ok (.getfield 289, 3) := by decide +kernel
theorem dX8_undo_39 : decode cX8_undo 39 = .ok (.ireturn, 1) := by decide +kernel
theorem dX8_count_0 : decode cX8_count 0 = .ok (.iload_n 1, 1) := by decide +kernel
theorem dX8_count_1 : decode cX8_count 1 = .ok (.tableswitch 63 0 3 #[31, 39, 47, 55], 31) := by decide +kernel
theorem dX8_count_32 : decode cX8_count 32 = .ok (.aload_n 0, 1) := by decide +kernel
theorem dX8_count_33 : decode cX8_count 33 = .ok (.getfield 12, 3) := by decide +kernel
theorem dX8_count_36 : decode cX8_count 36 = .ok (.getfield 289, 3) := by decide +kernel
theorem dX8_count_39 : decode cX8_count 39 = .ok (.ireturn, 1) := by decide +kernel
theorem dX8_count_40 : decode cX8_count 40 = .ok (.aload_n 0, 1) := by decide +kernel
theorem dX8_count_41 : decode cX8_count 41 = .ok (.getfield 21, 3) := by decide +kernel
theorem dX8_count_44 : decode cX8_count 44 = .ok (.getfield 195, 3) := by decide +kernel
theorem dX8_count_47 : decode cX8_count 47 = .ok (.ireturn, 1) := by decide +kernel
theorem dX8_count_48 : decode cX8_count 48 = .ok (.aload_n 0, 1) := by decide +kernel
theorem dX8_count_49 : decode cX8_count 49 = .ok (.getfield 21, 3) := by decide +kernel
theorem dX8_count_52 : decode cX8_count 52 = .ok (.getfield 290, 3) := by decide +kernel
theorem dX8_count_55 : decode cX8_count 55 = .ok (.ireturn, 1) := by decide +kernel
theorem dX8_count_56 : decode cX8_count 56 = .ok (.aload_n 0, 1) := by decide +kernel
theorem dX8_count_57 : decode cX8_count 57 = .ok (.getfield 28, 3) := by decide +kernel
theorem dX8_count_60 : decode cX8_count 60 = .ok (.getfield 226, 3) := by decide +kernel
theorem dX8_count_63 : decode cX8_count 63 = .ok (.ireturn, 1) := by decide +kernel
theorem dX8_count_64 : decode cX8_count 64 = .ok (.iconst (-1), 1) := by decide +kernel
theorem dX8_count_65 : decode cX8_count 65 = .ok (.ireturn, 1) := by decide +kernel
theorem dX8_addInLowestTerms_0 : decode cX8_addInLowestTerms 0 = .ok (.lload_n 1, 1) := by decide +kernel
theorem dX8_addInLowestTerms_1 : decode cX8_addInLowestTerms 1 = .ok (.lload_n 3, 1) := by decide +kernel
theorem dX8_addInLowestTerms_2 : decode cX8_addInLowestTerms 2 = .ok (.invokestatic 119, 3) := by decide +kernel
theorem dX8_addInLowestTerms_5 : decode cX8_addInLowestTerms 5 = .ok (.lstore 6, 2) := by decide +kernel
theorem dX8_addInLowestTerms_7 : decode cX8_addInLowestTerms 7 = .ok (.lload_n 1, 1) := by decide +kernel
theorem dX8_addInLowestTerms_8 : decode cX8_addInLowestTerms 8 = .ok (.lload 6, 2) := by decide +kernel
theorem dX8_addInLowestTerms_10 : decode cX8_addInLowestTerms 10 = .ok (.invokestatic 123, 3) := by decide +kernel
theorem dX8_addInLowestTerms_13 : decode cX8_addInLowestTerms 13 = .ok (.lstore 8, 2) := by decide +kernel
theorem dX8_addInLowestTerms_15 : decode cX8_addInLowestTerms 15 = .ok (.lload_n 3, 1) := by decide +kernel
theorem dX8_addInLowestTerms_16 : decode cX8_addInLowestTerms 16 = .ok (.lload 6, 2) := by decide +kernel
theorem dX8_addInLowestTerms_18 : decode cX8_addInLowestTerms 18 = .ok (.invokestatic 123, 3) := by decide +kernel
theorem dX8_addInLowestTerms_21 : decode cX8_addInLowestTerms 21 = .ok (.lstore 10, 2) := by decide +kernel
theorem dX8_addInLowestTerms_23 : decode cX8_addInLowestTerms 23 = .ok (.lload 8, 2) := by decide +kernel
theorem dX8_addInLowestTerms_25 : decode cX8_addInLowestTerms 25 = .ok (.ldc2_w 291, 3) := by decide +kernel
theorem dX8_addInLowestTerms_28 : decode cX8_addInLowestTerms 28 = .ok (.lcmp, 1) := by decide +kernel
theorem dX8_addInLowestTerms_29 : decode cX8_addInLowestTerms 29 = .ok (.ifCond .gt 12, 3) := by decide +kernel
theorem dX8_addInLowestTerms_32 : decode cX8_addInLowestTerms 32 = .ok (.lload 10, 2) := by decide +kernel
theorem dX8_addInLowestTerms_34 : decode cX8_addInLowestTerms 34 = .ok (.ldc2_w 293, 3) := by decide +kernel
theorem dX8_addInLowestTerms_37 : decode cX8_addInLowestTerms 37 = .ok (.lcmp, 1) := by decide +kernel
theorem dX8_addInLowestTerms_38 : decode cX8_addInLowestTerms 38 = .ok (.ifCond .le 6, 3) := by decide +kernel
theorem dX8_addInLowestTerms_41 : decode cX8_addInLowestTerms 41 = .ok (.bipush (-6), 2) := by decide +kernel
theorem dX8_addInLowestTerms_43 : decode cX8_addInLowestTerms 43 = .ok (.ireturn, 1) := by decide +kernel
theorem dX8_addInLowestTerms_44 : decode cX8_addInLowestTerms 44 = .ok (.aload_n 0, 1) := by decide +kernel
theorem dX8_addInLowestTerms_45 : decode cX8_addInLowestTerms 45 = .ok (.getfield 12, 3) := by decide +kernel
theorem dX8_addInLowestTerms_48 : decode cX8_addInLowestTerms 48 = .ok (.lload 8, 2) := by decide +kernel
theorem dX8_addInLowestTerms_50 : decode cX8_addInLowestTerms 50 = .ok (.l2i, 1) := by decide +kernel
theorem dX8_addInLowestTerms_51 : decode cX8_addInLowestTerms 51 = .ok (.lload 10, 2) := by decide +kernel
theorem dX8_addInLowestTerms_53 : decode cX8_addInLowestTerms 53 = .ok (.l2i, 1) := by decide +kernel
theorem dX8_addInLowestTerms_54 : decode cX8_addInLowestTerms 54 = .ok (.iload 5, 2) := by decide +kernel
theorem dX8_addInLowestTerms_56 : decode cX8_addInLowestTerms 56 = .ok (.invokevirtual 89, 3) := by decide +kernel
theorem dX8_addInLowestTerms_59 : decode cX8_addInLowestTerms 59 = .ok (.ireturn, 1) := by decide +kernel
theorem dX8_markRing_0 : decode cX8_markRing 0 = .ok (.iload_n 1, 1) := by decide +kernel
theorem dX8_markRing_1 : decode cX8_markRing 1 = .ok (.istore 4, 2) := by decide +kernel
theorem dX8_markRing_3 : decode cX8_markRing 3 = .ok (.iconst 0, 1) := by decide +kernel
theorem dX8_markRing_4 : decode cX8_markRing 4 = .ok (.istore 5, 2) := by decide +kernel
theorem dX8_markRing_6 : decode cX8_markRing 6 = .ok (.iload 5, 2) := by decide +kernel
theorem dX8_markRing_8 : decode cX8_markRing 8 = .ok (.iload_n 3, 1) := by decide +kernel
theorem dX8_markRing_9 : decode cX8_markRing 9 = .ok (.if_icmp .ge 41, 3) := by decide +kernel
theorem dX8_markRing_12 : decode cX8_markRing 12 = .ok (.aload_n 0, 1) := by decide +kernel
theorem dX8_markRing_13 : decode cX8_markRing 13 = .ok (.getfield 76, 3) := by decide +kernel
theorem dX8_markRing_16 : decode cX8_markRing 16 = .ok (.iload 4, 2) := by decide +kernel
theorem dX8_markRing_18 : decode cX8_markRing 18 = .ok (.invokestatic 216, 3) := by decide +kernel
theorem dX8_markRing_21 : decode cX8_markRing 21 = .ok (.ifCond .ne 29, 3) := by decide +kernel
theorem dX8_markRing_24 : decode cX8_markRing 24 = .ok (.aload_n 0, 1) := by decide +kernel
theorem dX8_markRing_25 : decode cX8_markRing 25 = .ok (.getfield 76, 3) := by decide +kernel
theorem dX8_markRing_28 : decode cX8_markRing 28 = .ok (.iload 4, 2) := by decide +kernel
theorem dX8_markRing_30 : decode cX8_markRing 30 = .ok (.iconst 1, 1) := by decide +kernel
theorem dX8_markRing_31 : decode cX8_markRing 31 = .ok (.invokestatic 175, 3) := by decide +kernel
theorem dX8_markRing_34 : decode cX8_markRing 34 = .ok (.iload 4, 2) := by decide +kernel
theorem dX8_markRing_36 : decode cX8_markRing 36 = .ok (.iload_n 2, 1) := by decide +kernel
theorem dX8_markRing_37 : decode cX8_markRing 37 = .ok (.imul, 1) := by decide +kernel
theorem dX8_markRing_38 : decode cX8_markRing 38 = .ok (.iload_n 3, 1) := by decide +kernel
theorem dX8_markRing_39 : decode cX8_markRing 39 = .ok (.invokestatic 171, 3) := by decide +kernel
theorem dX8_markRing_42 : decode cX8_markRing 42 = .ok (.istore 4, 2) := by decide +kernel
theorem dX8_markRing_44 : decode cX8_markRing 44 = .ok (.iinc 5 1, 3) := by decide +kernel
theorem dX8_markRing_47 : decode cX8_markRing 47 = .ok (.goto (-41), 3) := by decide +kernel
theorem dX8_markRing_50 : decode cX8_markRing 50 = .ok (.iload 5, 2) := by decide +kernel
theorem dX8_markRing_52 : decode cX8_markRing 52 = .ok (.ireturn, 1) := by decide +kernel
theorem dX8_doCommand_0 : decode cX8_doCommand 0 = .ok (.aload_n 0, 1) := by decide +kernel
theorem dX8_doCommand_1 : decode cX8_doCommand 1 = .ok (.getfield 42, 3) := by decide +kernel
theorem dX8_doCommand_4 : decode cX8_doCommand 4 = .ok (.iload_n 1, 1) := by decide +kernel
theorem dX8_doCommand_5 : decode cX8_doCommand 5 = .ok (.iconst 0, 1) := by decide +kernel
theorem dX8_doCommand_6 : decode cX8_doCommand 6 = .ok (.invokevirtual 295, 3) := by decide +kernel
theorem dX8_doCommand_9 : decode cX8_doCommand 9 = .ok (.istore_n 2, 1) := by decide +kernel
theorem dX8_doCommand_10 : decode cX8_doCommand 10 = .ok (.aload_n 0, 1) := by decide +kernel
theorem dX8_doCommand_11 : decode cX8_doCommand 11 = .ok (.getfield 42, 3) := by decide +kernel
theorem dX8_doCommand_14 : decode cX8_doCommand 14 = .ok (.iload_n 1, 1) := by decide +kernel
theorem dX8_doCommand_15 : decode cX8_doCommand 15 = .ok (.iconst 1, 1) := by decide +kernel
theorem dX8_doCommand_16 : decode cX8_doCommand 16 = .ok (.invokevirtual 295, 3) := by decide +kernel
theorem dX8_doCommand_19 : decode cX8_doCommand 19 = .ok (.istore_n 3, 1) := by decide +kernel
theorem dX8_doCommand_20 : decode cX8_doCommand 20 = .ok (.aload_n 0, 1) := by decide +kernel
theorem dX8_doCommand_21 : decode cX8_doCommand 21 = .ok (.getfield 42, 3) := by decide +kernel
theorem dX8_doCommand_24 : decode cX8_doCommand 24 = .ok (.iload_n 1, 1) := by decide +kernel
theorem dX8_doCommand_25 : decode cX8_doCommand 25 = .ok (.invokevirtual 298, 3) := by decide +kernel
theorem dX8_doCommand_28 : decode cX8_doCommand 28 = .ok (.tableswitch 78 0 4 #[36, 52, 58, 65, 72], 36) := by decide +kernel
theorem dX8_doCommand_64 : decode cX8_doCommand 64 = .ok (.aload_n 0, 1) := by decide +kernel
theorem dX8_doCommand_65 : decode cX8_doCommand 65 = .ok (.iload_n 2, 1) := by decide +kernel
theorem dX8_doCommand_66 : decode cX8_doCommand 66 = .ok (.iload_n 3, 1) := by decide +kernel
theorem dX8_doCommand_67 : decode cX8_doCommand 67 = .ok (.aload_n 0, 1) := by decide +kernel
theorem dX8_doCommand_68 : decode cX8_doCommand 68 = .ok (.getfield 42, 3) := by decide +kernel
theorem dX8_doCommand_71 : decode cX8_doCommand 71 = .ok (.iload_n 1, 1) := by decide +kernel
theorem dX8_doCommand_72 : decode cX8_doCommand 72 = .ok (.iconst 2, 1) := by decide +kernel
theorem dX8_doCommand_73 : decode cX8_doCommand 73 = .ok (.invokevirtual 295, 3) := by decide +kernel
theorem dX8_doCommand_76 : decode cX8_doCommand 76 = .ok (.invokevirtual 301, 3) := by decide +kernel
theorem dX8_doCommand_79 : decode cX8_doCommand 79 = .ok (.ireturn, 1) := by decide +kernel
theorem dX8_doCommand_80 : decode cX8_doCommand 80 = .ok (.aload_n 0, 1) := by decide +kernel
theorem dX8_doCommand_81 : decode cX8_doCommand 81 = .ok (.iload_n 2, 1) := by decide +kernel
theorem dX8_doCommand_82 : decode cX8_doCommand 82 = .ok (.invokevirtual 303, 3) := by decide +kernel
theorem dX8_doCommand_85 : decode cX8_doCommand 85 = .ok (.ireturn, 1) := by decide +kernel
theorem dX8_doCommand_86 : decode cX8_doCommand 86 = .ok (.aload_n 0, 1) := by decide +kernel
theorem dX8_doCommand_87 : decode cX8_doCommand 87 = .ok (.iload_n 2, 1) := by decide +kernel
theorem dX8_doCommand_88 : decode cX8_doCommand 88 = .ok (.iload_n 3, 1) := by decide +kernel
theorem dX8_doCommand_89 : decode cX8_doCommand 89 = .ok (.invokevirtual 306, 3) := by decide +kernel
theorem dX8_doCommand_92 : decode cX8_doCommand 92 = .ok (.ireturn, 1) := by decide +kernel
theorem dX8_doCommand_93 : decode cX8_doCommand 93 = .ok (.aload_n 0, 1) := by decide +kernel
theorem dX8_doCommand_94 : decode cX8_doCommand 94 = .ok (.iload_n 2, 1) := by decide +kernel
theorem dX8_doCommand_95 : decode cX8_doCommand 95 = .ok (.iload_n 3, 1) := by decide +kernel
theorem dX8_doCommand_96 : decode cX8_doCommand 96 = .ok (.invokevirtual 309, 3) := by decide +kernel
theorem dX8_doCommand_99 : decode cX8_doCommand 99 = .ok (.ireturn, 1) := by decide +kernel
theorem dX8_doCommand_100 : decode cX8_doCommand 100 = .ok (.aload_n 0, 1) := by decide +kernel
theorem dX8_doCommand_101 : decode cX8_doCommand 101 = .ok (.iload_n 2, 1) := by decide +kernel
theorem dX8_doCommand_102 : decode cX8_doCommand 102 = .ok (.invokevirtual 312, 3) := by decide +kernel
theorem dX8_doCommand_105 : decode cX8_doCommand 105 = .ok (.ireturn, 1) := by decide +kernel
theorem dX8_doCommand_106 : decode cX8_doCommand 106 = .ok (.iconst (-1), 1) := by decide +kernel
theorem dX8_doCommand_107 : decode cX8_doCommand 107 = .ok (.ireturn, 1) := by decide +kernel
theorem dX8_holderAt_0 : decode cX8_holderAt 0 = .ok (.iload_n 1, 1) := by decide +kernel
theorem dX8_holderAt_1 : decode cX8_holderAt 1 = .ok (.ifCond .lt 21, 3) := by decide +kernel
theorem dX8_holderAt_4 : decode cX8_holderAt 4 = .ok (.iload_n 1, 1) := by decide +kernel
theorem dX8_holderAt_5 : decode cX8_holderAt 5 = .ok (.aload_n 0, 1) := by decide +kernel
theorem dX8_holderAt_6 : decode cX8_holderAt 6 = .ok (.getfield 48, 3) := by decide +kernel
theorem dX8_holderAt_9 : decode cX8_holderAt 9 = .ok (.arraylength, 1) := by decide +kernel
theorem dX8_holderAt_10 : decode cX8_holderAt 10 = .ok (.if_icmp .ge 12, 3) := by decide +kernel
theorem dX8_holderAt_13 : decode cX8_holderAt 13 = .ok (.aload_n 0, 1) := by decide +kernel
theorem dX8_holderAt_14 : decode cX8_holderAt 14 = .ok (.getfield 48, 3) := by decide +kernel
theorem dX8_holderAt_17 : decode cX8_holderAt 17 = .ok (.iload_n 1, 1) := by decide +kernel
theorem dX8_holderAt_18 : decode cX8_holderAt 18 = .ok (.aaload, 1) := by decide +kernel
theorem dX8_holderAt_19 : decode cX8_holderAt 19 = .ok (.goto 4, 3) := by decide +kernel
theorem dX8_holderAt_22 : decode cX8_holderAt 22 = .ok (.aconst_null, 1) := by decide +kernel
theorem dX8_holderAt_23 : decode cX8_holderAt 23 = .ok (.areturn, 1) := by decide +kernel
theorem dX8_isWithin_0 : decode cX8_isWithin 0 = .ok (.iload_n 0, 1) := by decide +kernel
theorem dX8_isWithin_1 : decode cX8_isWithin 1 = .ok (.iload_n 1, 1) := by decide +kernel
theorem dX8_isWithin_2 : decode cX8_isWithin 2 = .ok (.if_icmp .lt 12, 3) := by decide +kernel
theorem dX8_isWithin_5 : decode cX8_isWithin 5 = .ok (.iload_n 0, 1) := by decide +kernel
theorem dX8_isWithin_6 : decode cX8_isWithin 6 = .ok (.iload_n 2, 1) := by decide +kernel
theorem dX8_isWithin_7 : decode cX8_isWithin 7 = .ok (.if_icmp .gt 7, 3) := by decide +kernel
theorem dX8_isWithin_10 : decode cX8_isWithin 10 = .ok (.iconst 1, 1) := by decide +kernel
theorem dX8_isWithin_11 : decode cX8_isWithin 11 = .ok (.goto 4, 3) := by decide +kernel
theorem dX8_isWithin_14 : decode cX8_isWithin 14 = .ok (.iconst 0, 1) := by decide +kernel
theorem dX8_isWithin_15 : decode cX8_isWithin 15 = .ok (.ireturn, 1) := by decide +kernel
theorem dX8_isBase_0 : decode cX8_isBase 0 = .ok (.iload_n 0, 1) := by decide +kernel
theorem dX8_isBase_1 : decode cX8_isBase 1 = .ok (.iconst 2, 1) := by decide +kernel
theorem dX8_isBase_2 : decode cX8_isBase 2 = .ok (.bipush 16, 2) := by decide +kernel
theorem dX8_isBase_4 : decode cX8_isBase 4 = .ok (.invokestatic 81, 3) := by decide +kernel
theorem dX8_isBase_7 : decode cX8_isBase 7 = .ok (.ireturn, 1) := by decide +kernel
theorem dX8_isPrime_0 : decode cX8_isPrime 0 = .ok (.iconst 2, 1) := by decide +kernel
theorem dX8_isPrime_1 : decode cX8_isPrime 1 = .ok (.istore_n 1, 1) := by decide +kernel
theorem dX8_isPrime_2 : decode cX8_isPrime 2 = .ok (.iload_n 1, 1) := by decide +kernel
theorem dX8_isPrime_3 : decode cX8_isPrime 3 = .ok (.iload_n 1, 1) := by decide +kernel
theorem dX8_isPrime_4 : decode cX8_isPrime 4 = .ok (.imul, 1) := by decide +kernel
theorem dX8_isPrime_5 : decode cX8_isPrime 5 = .ok (.iload_n 0, 1) := by decide +kernel
theorem dX8_isPrime_6 : decode cX8_isPrime 6 = .ok (.if_icmp .gt 19, 3) := by decide +kernel
theorem dX8_isPrime_9 : decode cX8_isPrime 9 = .ok (.iload_n 0, 1) := by decide +kernel
theorem dX8_isPrime_10 : decode cX8_isPrime 10 = .ok (.iload_n 1, 1) := by decide +kernel
theorem dX8_isPrime_11 : decode cX8_isPrime 11 = .ok (.invokestatic 171, 3) := by decide +kernel
theorem dX8_isPrime_14 : decode cX8_isPrime 14 = .ok (.ifCond .ne 5, 3) := by decide +kernel
theorem dX8_isPrime_17 : decode cX8_isPrime 17 = .ok (.iconst 0, 1) := by decide +kernel
theorem dX8_isPrime_18 : decode cX8_isPrime 18 = .ok (.ireturn, 1) := by decide +kernel
theorem dX8_isPrime_19 : decode cX8_isPrime 19 = .ok (.iinc 1 1, 3) := by decide +kernel
theorem dX8_isPrime_22 : decode cX8_isPrime 22 = .ok (.goto (-20), 3) := by decide +kernel
theorem dX8_isPrime_25 : decode cX8_isPrime 25 = .ok (.iload_n 0, 1) := by decide +kernel
theorem dX8_isPrime_26 : decode cX8_isPrime 26 = .ok (.iconst 1, 1) := by decide +kernel
theorem dX8_isPrime_27 : decode cX8_isPrime 27 = .ok (.if_icmp .le 7, 3) := by decide +kernel
theorem dX8_isPrime_30 : decode cX8_isPrime 30 = .ok (.iconst 1, 1) := by decide +kernel
theorem dX8_isPrime_31 : decode cX8_isPrime 31 = .ok (.goto 4, 3) := by decide +kernel
theorem dX8_isPrime_34 : decode cX8_isPrime 34 = .ok (.iconst 0, 1) := by decide +kernel
theorem dX8_isPrime_35 : decode cX8_isPrime 35 = .ok (.ireturn, 1) := by decide +kernel
theorem dX8_commonDivisor_0 : decode cX8_commonDivisor 0 = .ok (.lload_n 0, 1) := by decide +kernel
theorem dX8_commonDivisor_1 : decode cX8_commonDivisor 1 = .ok (.lstore 4, 2) := by decide +kernel
theorem dX8_commonDivisor_3 : decode cX8_commonDivisor 3 = .ok (.lload_n 2, 1) := by decide +kernel
theorem dX8_commonDivisor_4 : decode cX8_commonDivisor 4 = .ok (.lstore 6, 2) := by decide +kernel
theorem dX8_commonDivisor_6 : decode cX8_commonDivisor 6 = .ok (.iconst 0, 1) := by decide +kernel
theorem dX8_commonDivisor_7 : decode cX8_commonDivisor 7 = .ok (.istore 8, 2) := by decide +kernel
theorem dX8_commonDivisor_9 : decode cX8_commonDivisor 9 = .ok (.iload 8, 2) := by decide +kernel
theorem dX8_commonDivisor_11 : decode cX8_commonDivisor 11 = .ok (.sipush 1000, 3) := by decide +kernel
theorem dX8_commonDivisor_14 : decode cX8_commonDivisor 14 = .ok (.if_icmp .ge 31, 3) := by decide +kernel
theorem dX8_commonDivisor_17 : decode cX8_commonDivisor 17 = .ok (.lload 6, 2) := by decide +kernel
theorem dX8_commonDivisor_19 : decode cX8_commonDivisor 19 = .ok (.lconst 0, 1) := by decide +kernel
theorem dX8_commonDivisor_20 : decode cX8_commonDivisor 20 = .ok (.lcmp, 1) := by decide +kernel
theorem dX8_commonDivisor_21 : decode cX8_commonDivisor 21 = .ok (.ifCond .eq 24, 3) := by decide +kernel
theorem dX8_commonDivisor_24 : decode cX8_commonDivisor 24 = .ok (.lload 4, 2) := by decide +kernel
theorem dX8_commonDivisor_26 : decode cX8_commonDivisor 26 = .ok (.lload 6, 2) := by decide +kernel
theorem dX8_commonDivisor_28 : decode cX8_commonDivisor 28 = .ok (.lrem, 1) := by decide +kernel
theorem dX8_commonDivisor_29 : decode cX8_commonDivisor 29 = .ok (.lstore 9, 2) := by decide +kernel
theorem dX8_commonDivisor_31 : decode cX8_commonDivisor 31 = .ok (.lload 6, 2) := by decide +kernel
theorem dX8_commonDivisor_33 : decode cX8_commonDivisor 33 = .ok (.lstore 4, 2) := by decide +kernel
theorem dX8_commonDivisor_35 : decode cX8_commonDivisor 35 = .ok (.lload 9, 2) := by decide +kernel
theorem dX8_commonDivisor_37 : decode cX8_commonDivisor 37 = .ok (.lstore 6, 2) := by decide +kernel
theorem dX8_commonDivisor_39 : decode cX8_commonDivisor 39 = .ok (.iinc 8 1, 3) := by decide +kernel
theorem dX8_commonDivisor_42 : decode cX8_commonDivisor 42 = .ok (.goto (-33), 3) := by decide +kernel
theorem dX8_commonDivisor_45 : decode cX8_commonDivisor 45 = .ok (.lload 4, 2) := by decide +kernel
theorem dX8_commonDivisor_47 : decode cX8_commonDivisor 47 = .ok (.lreturn, 1) := by decide +kernel
theorem dX8_power_0 : decode cX8_power 0 = .ok (.lconst 1, 1) := by decide +kernel
theorem dX8_power_1 : decode cX8_power 1 = .ok (.lstore_n 2, 1) := by decide +kernel
theorem dX8_power_2 : decode cX8_power 2 = .ok (.iconst 0, 1) := by decide +kernel
theorem dX8_power_3 : decode cX8_power 3 = .ok (.istore 4, 2) := by decide +kernel
theorem dX8_power_5 : decode cX8_power 5 = .ok (.iload 4, 2) := by decide +kernel
theorem dX8_power_7 : decode cX8_power 7 = .ok (.iload_n 1, 1) := by decide +kernel
theorem dX8_power_8 : decode cX8_power 8 = .ok (.if_icmp .ge 14, 3) := by decide +kernel
theorem dX8_power_11 : decode cX8_power 11 = .ok (.lload_n 2, 1) := by decide +kernel
theorem dX8_power_12 : decode cX8_power 12 = .ok (.iload_n 0, 1) := by decide +kernel
theorem dX8_power_13 : decode cX8_power 13 = .ok (.i2l, 1) := by decide +kernel
theorem dX8_power_14 : decode cX8_power 14 = .ok (.lmul, 1) := by decide +kernel
theorem dX8_power_15 : decode cX8_power 15 = .ok (.lstore_n 2, 1) := by decide +kernel
theorem dX8_power_16 : decode cX8_power 16 = .ok (.iinc 4 1, 3) := by decide +kernel
theorem dX8_power_19 : decode cX8_power 19 = .ok (.goto (-14), 3) := by decide +kernel
theorem dX8_power_22 : decode cX8_power 22 = .ok (.lload_n 2, 1) := by decide +kernel
theorem dX8_power_23 : decode cX8_power 23 = .ok (.lreturn, 1) := by decide +kernel
theorem dX8_remainder_0 : decode cX8_remainder 0 = .ok (.iload_n 1, 1) := by decide +kernel
theorem dX8_remainder_1 : decode cX8_remainder 1 = .ok (.ifCond .ne 7, 3) := by decide +kernel
theorem dX8_remainder_4 : decode cX8_remainder 4 = .ok (.iconst 0, 1) := by decide +kernel
theorem dX8_remainder_5 : decode cX8_remainder 5 = .ok (.goto 6, 3) := by decide +kernel
theorem dX8_remainder_8 : decode cX8_remainder 8 = .ok (.iload_n 0, 1) := by decide +kernel
theorem dX8_remainder_9 : decode cX8_remainder 9 = .ok (.iload_n 1, 1) := by decide +kernel
theorem dX8_remainder_10 : decode cX8_remainder 10 = .ok (.irem, 1) := by decide +kernel
theorem dX8_remainder_11 : decode cX8_remainder 11 = .ok (.ireturn, 1) := by decide +kernel
theorem dX8_quotient_0 : decode cX8_quotient 0 = .ok (.lload_n 2, 1) := by decide +kernel
theorem dX8_quotient_1 : decode cX8_quotient 1 = .ok (.lconst 0, 1) := by decide +kernel
theorem dX8_quotient_2 : decode cX8_quotient 2 = .ok (.lcmp, 1) := by decide +kernel
theorem dX8_quotient_3 : decode cX8_quotient 3 = .ok (.ifCond .ne 7, 3) := by decide +kernel
theorem dX8_quotient_6 : decode cX8_quotient 6 = .ok (.lconst 0, 1) := by decide +kernel
theorem dX8_quotient_7 : decode cX8_quotient 7 = .ok (.goto 6, 3) := by decide +kernel
theorem dX8_quotient_10 : decode cX8_quotient 10 = .ok (.lload_n 0, 1) := by decide +kernel
theorem dX8_quotient_11 : decode cX8_quotient 11 = .ok (.lload_n 2, 1) := by decide +kernel
theorem dX8_quotient_12 : decode cX8_quotient 12 = .ok (.ldiv, 1) := by decide +kernel
theorem dX8_quotient_13 : decode cX8_quotient 13 = .ok (.lreturn, 1) := by decide +kernel
theorem dX8_valueAt_0 : decode cX8_valueAt 0 = .ok (.iload_n 1, 1) := by decide +kernel
theorem dX8_valueAt_1 : decode cX8_valueAt 1 = .ok (.ifCond .lt 15, 3) := by decide +kernel
theorem dX8_valueAt_4 : decode cX8_valueAt 4 = .ok (.iload_n 1, 1) := by decide +kernel
theorem dX8_valueAt_5 : decode cX8_valueAt 5 = .ok (.aload_n 0, 1) := by decide +kernel
theorem dX8_valueAt_6 : decode cX8_valueAt 6 = .ok (.arraylength, 1) := by decide +kernel
theorem dX8_valueAt_7 : decode cX8_valueAt 7 = .ok (.if_icmp .ge 9, 3) := by decide +kernel
theorem dX8_valueAt_10 : decode cX8_valueAt 10 = .ok (.aload_n 0, 1) := by decide +kernel
theorem dX8_valueAt_11 : decode cX8_valueAt 11 = .ok (.iload_n 1, 1) := by decide +kernel
theorem dX8_valueAt_12 : decode cX8_valueAt 12 = .ok (.iaload, 1) := by decide +kernel
theorem dX8_valueAt_13 : decode cX8_valueAt 13 = .ok (.goto 4, 3) := by decide +kernel
theorem dX8_valueAt_16 : decode cX8_valueAt 16 = .ok (.iconst 0, 1) := by decide +kernel
theorem dX8_valueAt_17 : decode cX8_valueAt 17 = .ok (.ireturn, 1) := by decide +kernel
theorem dX8_setAt_0 : decode cX8_setAt 0 = .ok (.iload_n 1, 1) := by decide +kernel
theorem dX8_setAt_1 : decode cX8_setAt 1 = .ok (.ifCond .lt 13, 3) := by decide +kernel
theorem dX8_setAt_4 : decode cX8_setAt 4 = .ok (.iload_n 1, 1) := by decide +kernel
theorem dX8_setAt_5 : decode cX8_setAt 5 = .ok (.aload_n 0, 1) := by decide +kernel
theorem dX8_setAt_6 : decode cX8_setAt 6 = .ok (.arraylength, 1) := by decide +kernel
theorem dX8_setAt_7 : decode cX8_setAt 7 = .ok (.if_icmp .ge 7, 3) := by decide +kernel
theorem dX8_setAt_10 : decode cX8_setAt 10 = .ok (.aload_n 0, 1) := by decide +kernel
theorem dX8_setAt_11 : decode cX8_setAt 11 = .ok (.iload_n 1, 1) := by decide +kernel
theorem dX8_setAt_12 : decode cX8_setAt 12 = .ok (.iload_n 2, 1) := by decide +kernel
theorem dX8_setAt_13 : decode cX8_setAt 13 = .ok (.iastore, 1) := by decide +kernel
theorem dX8_setAt_14 : decode cX8_setAt 14 = .ok (.return_, 1) := by decide +kernel
theorem dX9_init_0 : decode cX9_init 0 = .ok (.aload_n 0, 1) := by decide +kernel
theorem dX9_init_1 : decode cX9_init 1 = .ok (.invokespecial 3, 3) := by decide +kernel
theorem dX9_init_4 : decode cX9_init 4 = .ok (.aload_n 0, 1) := by decide +kernel
theorem dX9_init_5 : decode cX9_init 5 = .ok (.bipush 8, 2) := by decide +kernel
theorem dX9_init_7 : decode cX9_init 7 = .ok (.newarray .int, 2) := by decide +kernel
theorem dX9_init_9 : decode cX9_init 9 = .ok (.putfield 11, 3) := by decide +kernel
theorem dX9_init_12 : decode cX9_init 12 = .ok (.aload_n 0, 1) := by decide +kernel
theorem dX9_init_13 : decode cX9_init 13 = .ok (.bipush 8, 2) := by decide +kernel
theorem dX9_init_15 : decode cX9_init 15 = .ok (.newarray .int, 2) := by decide +kernel
theorem dX9_init_17 : decode cX9_init 17 = .ok (.putfield 15, 3) := by decide +kernel
theorem dX9_init_20 : decode cX9_init 20 = .ok (.aload_n 0, 1) := by decide +kernel
theorem dX9_init_21 : decode cX9_init 21 = .ok (.bipush 8, 2) := by decide +kernel
theorem dX9_init_23 : decode cX9_init 23 = .ok (.newarray .int, 2) := by decide +kernel
theorem dX9_init_25 : decode cX9_init 25 = .ok (.putfield 18, 3) := by decide +kernel
theorem dX9_init_28 : decode cX9_init 28 = .ok (.aload_n 0, 1) := by decide +kernel
theorem dX9_init_29 : decode cX9_init 29 = .ok (.sipush 1000, 3) := by decide +kernel
theorem dX9_init_32 : decode cX9_init 32 = .ok (.newarray .int, 2) := by decide +kernel
theorem dX9_init_34 : decode cX9_init 34 = .ok (.putfield 21, 3) := by decide +kernel
theorem dX9_init_37 : decode cX9_init 37 = .ok (.aload_n 0, 1) := by decide +kernel
theorem dX9_init_38 : decode cX9_init 38 = .ok (.sipush 1000, 3) := by decide +kernel
theorem dX9_init_41 : decode cX9_init 41 = .ok (.newarray .int, 2) := by decide +kernel
theorem dX9_init_43 : decode cX9_init 43 = .ok (.putfield 24, 3) := by decide +kernel
theorem dX9_init_46 : decode cX9_init 46 = .ok (.aload_n 0, 1) := by decide +kernel
theorem dX9_init_47 : decode cX9_init 47 = .ok (.sipush 1000, 3) := by decide +kernel
theorem dX9_init_50 : decode cX9_init 50 = .ok (.newarray .int, 2) := by decide +kernel
theorem dX9_init_52 : decode cX9_init 52 = .ok (.putfield 27, 3) := by decide +kernel
theorem dX9_init_55 : decode cX9_init 55 = .ok (.aload_n 0, 1) := by decide +kernel
theorem dX9_init_56 : decode cX9_init 56 = .ok (.sipush 1000, 3) := by decide +kernel
theorem dX9_init_59 : decode cX9_init 59 = .ok (.newarray .int, 2) := by decide +kernel
theorem dX9_init_61 : decode cX9_init 61 = .ok (.putfield 30, 3) := by decide +kernel
theorem dX9_init_64 : decode cX9_init 64 = .ok (.aload_n 0, 1) := by decide +kernel
theorem dX9_init_65 : decode cX9_init 65 = .ok (.sipush 1000, 3) := by decide +kernel
theorem dX9_init_68 : decode cX9_init 68 = .ok (.newarray .int, 2) := by decide +kernel
theorem dX9_init_70 : decode cX9_init 70 = .ok (.putfield 33, 3) := by decide +kernel
theorem dX9_init_73 : decode cX9_init 73 = .ok (.aload_n 0, 1) := by decide +kernel
theorem dX9_init_74 : decode cX9_init 74 = .ok (.bipush 10, 2) := by decide +kernel
theorem dX9_init_76 : decode cX9_init 76 = .ok (.putfield 36, 3) := by decide +kernel
theorem dX9_init_79 : decode cX9_init 79 = .ok (.aload_n 0, 1) := by decide +kernel
theorem dX9_init_80 : decode cX9_init 80 = .ok (.sipush 400, 3) := by decide +kernel
theorem dX9_init_83 : decode cX9_init 83 = .ok (.newarray .int, 2) := by decide +kernel
theorem dX9_init_85 : decode cX9_init 85 = .ok (.putfield 40, 3) := by decide +kernel
theorem dX9_init_88 : decode cX9_init 88 = .ok (.aload_n 0, 1) := by decide +kernel
theorem dX9_init_89 : decode cX9_init 89 = .ok (.bipush 41, 2) := by decide +kernel
theorem dX9_init_91 : decode cX9_init 91 = .ok (.newarray .char, 2) := by decide +kernel
theorem dX9_init_93 : decode cX9_init 93 = .ok (.dup, 1) := by decide +kernel
theorem dX9_init_94 : decode cX9_init 94 = .ok (.iconst 0, 1) := by decide +kernel
theorem dX9_init_95 : decode cX9_init 95 = .ok (.bipush 101, 2) := by decide +kernel
theorem dX9_init_97 : decode cX9_init 97 = .ok (.castore, 1) := by decide +kernel
theorem dX9_init_98 : decode cX9_init 98 = .ok (.dup, 1) := by decide +kernel
theorem dX9_init_99 : decode cX9_init 99 = .ok (.iconst 1, 1) := by decide +kernel
theorem dX9_init_100 : decode cX9_init 100 = .ok (.bipush 110, 2) := by decide +kernel
theorem dX9_init_102 : decode cX9_init 102 = .ok (.castore, 1) := by decide +kernel
theorem dX9_init_103 : decode cX9_init 103 = .ok (.dup, 1) := by decide +kernel
theorem dX9_init_104 : decode cX9_init 104 = .ok (.iconst 2, 1) := by decide +kernel
theorem dX9_init_105 : decode cX9_init 105 = .ok (.bipush 100, 2) := by decide +kernel
theorem dX9_init_107 : decode cX9_init 107 = .ok (.castore, 1) := by decide +kernel
theorem dX9_init_108 : decode cX9_init 108 = .ok (.dup, 1) := by decide +kernel
theorem dX9_init_109 : decode cX9_init 109 = .ok (.iconst 3, 1) := by decide +kernel
theorem dX9_init_110 : decode cX9_init 110 = .ok (.bipush 115, 2) := by decide +kernel
theorem dX9_init_112 : decode cX9_init 112 = .ok (.castore, 1) := by decide +kernel
theorem dX9_init_113 : decode cX9_init 113 = .ok (.dup, 1) := by decide +kernel
theorem dX9_init_114 : decode cX9_init 114 = .ok (.iconst 4, 1) := by decide +kernel
theorem dX9_init_115 : decode cX9_init 115 = .ok (.bipush 32, 2) := by decide +kernel
theorem dX9_init_117 : decode cX9_init 117 = .ok (.castore, 1) := by decide +kernel
theorem dX9_init_118 : decode cX9_init 118 = .ok (.dup, 1) := by decide +kernel
theorem dX9_init_119 : decode cX9_init 119 = .ok (.iconst 5, 1) := by decide +kernel
theorem dX9_init_120 : decode cX9_init 120 = .ok (.bipush 112, 2) := by decide +kernel
theorem dX9_init_122 : decode cX9_init 122 = .ok (.castore, 1) := by decide +kernel
theorem dX9_init_123 : decode cX9_init 123 = .ok (.dup, 1) := by decide +kernel
theorem dX9_init_124 : decode cX9_init 124 = .ok (.bipush 6, 2) := by decide +kernel
theorem dX9_init_126 : decode cX9_init 126 = .ok (.bipush 117, 2) := by decide +kernel
theorem dX9_init_128 : decode cX9_init 128 = .ok (.castore, 1) := by decide +kernel
theorem dX9_init_129 : decode cX9_init 129 = .ok (.dup, 1) := by decide +kernel
theorem dX9_init_130 : decode cX9_init 130 = .ok (.bipush 7, 2) := by decide +kernel
theorem dX9_init_132 : decode cX9_init 132 = .ok (.bipush 114, 2) := by decide +kernel
theorem dX9_init_134 : decode cX9_init 134 = .ok (.castore, 1) := by decide +kernel
theorem dX9_init_135 : decode cX9_init 135 = .ok (.dup, 1) := by decide +kernel
theorem dX9_init_136 : decode cX9_init 136 = .ok (.bipush 8, 2) := by decide +kernel
theorem dX9_init_138 : decode cX9_init 138 = .ok (.bipush 101, 2) := by decide +kernel
theorem dX9_init_140 : decode cX9_init 140 = .ok (.castore, 1) := by decide +kernel
theorem dX9_init_141 : decode cX9_init 141 = .ok (.dup, 1) := by decide +kernel
theorem dX9_init_142 : decode cX9_init 142 = .ok (.bipush 9, 2) := by decide +kernel
theorem dX9_init_144 : decode cX9_init 144 = .ok (.bipush 32, 2) := by decide +kernel
theorem dX9_init_146 : decode cX9_init 146 = .ok (.castore, 1) := by decide +kernel
theorem dX9_init_147 : decode cX9_init 147 = .ok (.dup, 1) := by decide +kernel
theorem dX9_init_148 : decode cX9_init 148 = .ok (.bipush 10, 2) := by decide +kernel
theorem dX9_init_150 : decode cX9_init 150 = .ok (.bipush 109, 2) := by decide +kernel
theorem dX9_init_152 : decode cX9_init 152 = .ok (.castore, 1) := by decide +kernel
theorem dX9_init_153 : decode cX9_init 153 = .ok (.dup, 1) := by decide +kernel
theorem dX9_init_154 : decode cX9_init 154 = .ok (.bipush 11, 2) := by decide +kernel
theorem dX9_init_156 : decode cX9_init 156 = .ok (.bipush 105, 2) := by decide +kernel
theorem dX9_init_158 : decode cX9_init 158 = .ok (.castore, 1) := by decide +kernel
theorem dX9_init_159 : decode cX9_init 159 = .ok (.dup, 1) := by decide +kernel
theorem dX9_init_160 : decode cX9_init 160 = .ok (.bipush 12, 2) := by decide +kernel
theorem dX9_init_162 : decode cX9_init 162 = .ok (.bipush 120, 2) := by decide +kernel
theorem dX9_init_164 : decode cX9_init 164 = .ok (.castore, 1) := by decide +kernel
theorem dX9_init_165 : decode cX9_init 165 = .ok (.dup, 1) := by decide +kernel
theorem dX9_init_166 : decode cX9_init 166 = .ok (.bipush 13, 2) := by decide +kernel
theorem dX9_init_168 : decode cX9_init 168 = .ok (.bipush 101, 2) := by decide +kernel
theorem dX9_init_170 : decode cX9_init 170 = .ok (.castore, 1) := by decide +kernel
theorem dX9_init_171 : decode cX9_init 171 = .ok (.dup, 1) := by decide +kernel
theorem dX9_init_172 : decode cX9_init 172 = .ok (.bipush 14, 2) := by decide +kernel
theorem dX9_init_174 : decode cX9_init 174 = .ok (.bipush 100, 2) := by decide +kernel
theorem dX9_init_176 : decode cX9_init 176 = .ok (.castore, 1) := by decide +kernel
theorem dX9_init_177 : decode cX9_init 177 = .ok (.dup, 1) := by decide +kernel
theorem dX9_init_178 : decode cX9_init 178 = .ok (.bipush 15, 2) := by decide +kernel
theorem dX9_init_180 : decode cX9_init 180 = .ok (.bipush 32, 2) := by decide +kernel
theorem dX9_init_182 : decode cX9_init 182 = .ok (.castore, 1) := by decide +kernel
theorem dX9_init_183 : decode cX9_init 183 = .ok (.dup, 1) := by decide +kernel
theorem dX9_init_184 : decode cX9_init 184 = .ok (.bipush 16, 2) := by decide +kernel
theorem dX9_init_186 : decode cX9_init 186 = .ok (.bipush 102, 2) := by decide +kernel
theorem dX9_init_188 : decode cX9_init 188 = .ok (.castore, 1) := by decide +kernel
theorem dX9_init_189 : decode cX9_init 189 = .ok (.dup, 1) := by decide +kernel
theorem dX9_init_190 : decode cX9_init 190 = .ok (.bipush 17, 2) := by decide +kernel
theorem dX9_init_192 : decode cX9_init 192 = .ok (.bipush 117, 2) := by decide +kernel
theorem dX9_init_194 : decode cX9_init 194 = .ok (.castore, 1) := by decide +kernel
theorem dX9_init_195 : decode cX9_init 195 = .ok (.dup, 1) := by decide +kernel
theorem dX9_init_196 : decode cX9_init 196 = .ok (.bipush 18, 2) := by decide +kernel
theorem dX9_init_198 : decode cX9_init 198 = .ok (.bipush 108, 2) := by decide +kernel
theorem dX9_init_200 : decode cX9_init 200 = .ok (.castore, 1) := by decide +kernel
theorem dX9_init_201 : decode cX9_init 201 = .ok (.dup, 1) := by decide +kernel
theorem dX9_init_202 : decode cX9_init 202 = .ok (.bipush 19, 2) := by decide +kernel
theorem dX9_init_204 : decode cX9_init 204 = .ok (.bipush 108, 2) := by decide +kernel
theorem dX9_init_206 : decode cX9_init 206 = .ok (.castore, 1) := by decide +kernel
theorem dX9_init_207 : decode cX9_init 207 = .ok (.dup, 1) := by decide +kernel
theorem dX9_init_208 : decode cX9_init 208 = .ok (.bipush 20, 2) := by decide +kernel
theorem dX9_init_210 : decode cX9_init 210 = .ok (.bipush 32, 2) := by decide +kernel
theorem dX9_init_212 : decode cX9_init 212 = .ok (.castore, 1) := by decide +kernel
theorem dX9_init_213 : decode cX9_init 213 = .ok (.dup, 1) := by decide +kernel
theorem dX9_init_214 : decode cX9_init 214 = .ok (.bipush 21, 2) := by decide +kernel
theorem dX9_init_216 : decode cX9_init 216 = .ok (.bipush 101, 2) := by decide +kernel
theorem dX9_init_218 : decode cX9_init 218 = .ok (.castore, 1) := by decide +kernel
theorem dX9_init_219 : decode cX9_init 219 = .ok (.dup, 1) := by decide +kernel
theorem dX9_init_220 : decode cX9_init 220 = .ok (.bipush 22, 2) := by decide +kernel
theorem dX9_init_222 : decode cX9_init 222 = .ok (.bipush 118, 2) := by decide +kernel
theorem dX9_init_224 : decode cX9_init 224 = .ok (.castore, 1) := by decide +kernel
theorem dX9_init_225 : decode cX9_init 225 = .ok (.dup, 1) := by decide +kernel
theorem dX9_init_226 : decode cX9_init 226 = .ok (.bipush 23, 2) := by decide +kernel
theorem dX9_init_228 : decode cX9_init 228 = .ok (.bipush 101, 2) := by decide +kernel
theorem dX9_init_230 : decode cX9_init 230 = .ok (.castore, 1) := by decide +kernel
theorem dX9_init_231 : decode cX9_init 231 = .ok (.dup, 1) := by decide +kernel
theorem dX9_init_232 : decode cX9_init 232 = .ok (.bipush 24, 2) := by decide +kernel
theorem dX9_init_234 : decode cX9_init 234 = .ok (.bipush 110, 2) := by decide +kernel
theorem dX9_init_236 : decode cX9_init 236 = .ok (.castore, 1) := by decide +kernel
theorem dX9_init_237 : decode cX9_init 237 = .ok (.dup, 1) := by decide +kernel
theorem dX9_init_238 : decode cX9_init 238 = .ok (.bipush 25, 2) := by decide +kernel
theorem dX9_init_240 : decode cX9_init 240 = .ok (.bipush 32, 2) := by decide +kernel
theorem dX9_init_242 : decode cX9_init 242 = .ok (.castore, 1) := by decide +kernel
theorem dX9_init_243 : decode cX9_init 243 = .ok (.dup, 1) := by decide +kernel
theorem dX9_init_244 : decode cX9_init 244 = .ok (.bipush 26, 2) := by decide +kernel
theorem dX9_init_246 : decode cX9_init 246 = .ok (.bipush 111, 2) := by decide +kernel
theorem dX9_init_248 : decode cX9_init 248 = .ok (.castore, 1) := by decide +kernel
theorem dX9_init_249 : decode cX9_init 249 = .ok (.dup, 1) := by decide +kernel
theorem dX9_init_250 : decode cX9_init 250 = .ok (.bipush 27, 2) := by decide +kernel
theorem dX9_init_252 : decode cX9_init 252 = .ok (.bipush 100, 2) := by decide +kernel
theorem dX9_init_254 : decode cX9_init 254 = .ok (.castore, 1) := by decide +kernel
theorem dX9_init_255 : decode cX9_init 255 = .ok (.dup, 1) := by decide +kernel
theorem dX9_init_256 : decode cX9_init 256 = .ok (.bipush 28, 2) := by decide +kernel
theorem dX9_init_258 : decode cX9_init 258 = .ok (.bipush 100, 2) := by decide +kernel
theorem dX9_init_260 : decode cX9_init 260 = .ok (.castore, 1) := by decide +kernel
theorem dX9_init_261 : decode cX9_init 261 = .ok (.dup, 1) := by decide +kernel
theorem dX9_init_262 : decode cX9_init 262 = .ok (.bipush 29, 2) := by decide +kernel
theorem dX9_init_264 : decode cX9_init 264 = .ok (.bipush 32, 2) := by decide +kernel
theorem dX9_init_266 : decode cX9_init 266 = .ok (.castore, 1) := by decide +kernel
theorem dX9_init_267 : decode cX9_init 267 = .ok (.dup, 1) := by decide +kernel
theorem dX9_init_268 : decode cX9_init 268 = .ok (.bipush 30, 2) := by decide +kernel
theorem dX9_init_270 : decode cX9_init 270 = .ok (.bipush 104, 2) := by decide +kernel
theorem dX9_init_272 : decode cX9_init 272 = .ok (.castore, 1) := by decide +kernel
theorem dX9_init_273 : decode cX9_init 273 = .ok (.dup, 1) := by decide +kernel
theorem dX9_init_274 : decode cX9_init 274 = .ok (.bipush 31, 2) := by decide +kernel
theorem dX9_init_276 : decode cX9_init 276 = .ok (.bipush 97, 2) := by decide +kernel
theorem dX9_init_278 : decode cX9_init 278 = .ok (.castore, 1) := by decide +kernel
theorem dX9_init_279 : decode cX9_init 279 = .ok (.dup, 1) := by decide +kernel
theorem dX9_init_280 : decode cX9_init 280 = .ok (.bipush 32, 2) := by decide +kernel
theorem dX9_init_282 : decode cX9_init 282 = .ok (.bipush 108, 2) := by decide +kernel
theorem dX9_init_284 : decode cX9_init 284 = .ok (.castore, 1) := by decide +kernel
theorem dX9_init_285 : decode cX9_init 285 = .ok (.dup, 1) := by decide +kernel
theorem dX9_init_286 : decode cX9_init 286 = .ok (.bipush 33, 2) := by decide +kernel
theorem dX9_init_288 : decode cX9_init 288 = .ok (.bipush 102, 2) := by decide +kernel
theorem dX9_init_290 : decode cX9_init 290 = .ok (.castore, 1) := by decide +kernel
theorem dX9_init_291 : decode cX9_init 291 = .ok (.dup, 1) := by decide +kernel
theorem dX9_init_292 : decode cX9_init 292 = .ok (.bipush 34, 2) := by decide +kernel
theorem dX9_init_294 : decode cX9_init 294 = .ok (.bipush 32, 2) := by decide +kernel
theorem dX9_init_296 : decode cX9_init 296 = .ok (.castore, 1) := by decide +kernel
theorem dX9_init_297 : decode cX9_init 297 = .ok (.dup, 1) := by decide +kernel
theorem dX9_init_298 : decode cX9_init 298 = .ok (.bipush 35, 2) := by decide +kernel
theorem dX9_init_300 : decode cX9_init 300 = .ok (.bipush 112, 2) := by decide +kernel
theorem dX9_init_302 : decode cX9_init 302 = .ok (.castore, 1) := by decide +kernel
theorem dX9_init_303 : decode cX9_init 303 = .ok (.dup, 1) := by decide +kernel
theorem dX9_init_304 : decode cX9_init 304 = .ok (.bipush 36, 2) := by decide +kernel
theorem dX9_init_306 : decode cX9_init 306 = .ok (.bipush 114, 2) := by decide +kernel
theorem dX9_init_308 : decode cX9_init 308 = .ok (.castore, 1) := by decide +kernel
theorem dX9_init_309 : decode cX9_init 309 = .ok (.dup, 1) := by decide +kernel
theorem dX9_init_310 : decode cX9_init 310 = .ok (.bipush 37, 2) := by decide +kernel
theorem dX9_init_312 : decode cX9_init 312 = .ok (.bipush 105, 2) := by decide +kernel
theorem dX9_init_314 : decode cX9_init 314 = .ok (.castore, 1) := by decide +kernel
theorem dX9_init_315 : decode cX9_init 315 = .ok (.dup, 1) := by decide +kernel
theorem dX9_init_316 : decode cX9_init 316 = .ok (.bipush 38, 2) := by decide +kernel
theorem dX9_init_318 : decode cX9_init 318 = .ok (.bipush 109, 2) := by decide +kernel
theorem dX9_init_320 : decode cX9_init 320 = .ok (.castore, 1) := by decide +kernel
theorem dX9_init_321 : decode cX9_init 321 = .ok (.dup, 1) := by decide +kernel
theorem dX9_init_322 : decode cX9_init 322 = .ok (.bipush 39, 2) := by decide +kernel
theorem dX9_init_324 : decode cX9_init 324 = .ok (.bipush 101, 2) := by decide +kernel
theorem dX9_init_326 : decode cX9_init 326 = .ok (.castore, 1) := by decide +kernel
theorem dX9_init_327 : decode cX9_init 327 = .ok (.dup, 1) := by decide +kernel
theorem dX9_init_328 : decode cX9_init 328 = .ok (.bipush 40, 2) := by decide +kernel
theorem dX9_init_330 : decode cX9_init 330 = .ok (.bipush 32, 2) := by decide +kernel
theorem dX9_init_332 : decode cX9_init 332 = .ok (.castore, 1) := by decide +kernel
theorem dX9_init_333 : decode cX9_init 333 = .ok (.putfield 43, 3) := by decide +kernel
theorem dX9_init_336 : decode cX9_init 336 = .ok (.aload_n 0, 1) := by decide +kernel
theorem dX9_init_337 : decode cX9_init 337 = .ok (.bipush 21, 2) := by decide +kernel
theorem dX9_init_339 : decode cX9_init 339 = .ok (.newarray .char, 2) := by decide +kernel
theorem dX9_init_341 : decode cX9_init 341 = .ok (.dup, 1) := by decide +kernel
theorem dX9_init_342 : decode cX9_init 342 = .ok (.iconst 0, 1) := by decide +kernel
theorem dX9_init_343 : decode cX9_init 343 = .ok (.bipush 110, 2) := by decide +kernel
theorem dX9_init_345 : decode cX9_init 345 = .ok (.castore, 1) := by decide +kernel
theorem dX9_init_346 : decode cX9_init 346 = .ok (.dup, 1) := by decide +kernel
theorem dX9_init_347 : decode cX9_init 347 = .ok (.iconst 1, 1) := by decide +kernel
theorem dX9_init_348 : decode cX9_init 348 = .ok (.bipush 101, 2) := by decide +kernel
theorem dX9_init_350 : decode cX9_init 350 = .ok (.castore, 1) := by decide +kernel
theorem dX9_init_351 : decode cX9_init 351 = .ok (.dup, 1) := by decide +kernel
theorem dX9_init_352 : decode cX9_init 352 = .ok (.iconst 2, 1) := by decide +kernel
theorem dX9_init_353 : decode cX9_init 353 = .ok (.bipush 119, 2) := by decide +kernel
theorem dX9_init_355 : decode cX9_init 355 = .ok (.castore, 1) := by decide +kernel
theorem dX9_init_356 : decode cX9_init 356 = .ok (.dup, 1) := by decide +kernel
theorem dX9_init_357 : decode cX9_init 357 = .ok (.iconst 3, 1) := by decide +kernel
theorem dX9_init_358 : decode cX9_init 358 = .ok (.bipush 32, 2) := by decide +kernel
theorem dX9_init_360 : decode cX9_init 360 = .ok (.castore, 1) := by decide +kernel
theorem dX9_init_361 : decode cX9_init 361 = .ok (.dup, 1) := by decide +kernel
theorem dX9_init_362 : decode cX9_init 362 = .ok (.iconst 4, 1) := by decide +kernel
theorem dX9_init_363 : decode cX9_init 363 = .ok (.bipush 100, 2) := by decide +kernel
theorem dX9_init_365 : decode cX9_init 365 = .ok (.castore, 1) := by decide +kernel
theorem dX9_init_366 : decode cX9_init 366 = .ok (.dup, 1) := by decide +kernel
theorem dX9_init_367 : decode cX9_init 367 = .ok (.iconst 5, 1) := by decide +kernel
theorem dX9_init_368 : decode cX9_init 368 = .ok (.bipush 114, 2) := by decide +kernel
theorem dX9_init_370 : decode cX9_init 370 = .ok (.castore, 1) := by decide +kernel
theorem dX9_init_371 : decode cX9_init 371 = .ok (.dup, 1) := by decide +kernel
theorem dX9_init_372 : decode cX9_init 372 = .ok (.bipush 6, 2) := by decide +kernel
theorem dX9_init_374 : decode cX9_init 374 = .ok (.bipush 111, 2) := by decide +kernel
theorem dX9_init_376 : decode cX9_init 376 = .ok (.castore, 1) := by decide +kernel
theorem dX9_init_377 : decode cX9_init 377 = .ok (.dup, 1) := by decide +kernel
theorem dX9_init_378 : decode cX9_init 378 = .ok (.bipush 7, 2) := by decide +kernel
theorem dX9_init_380 : decode cX9_init 380 = .ok (.bipush 112, 2) := by decide +kernel
theorem dX9_init_382 : decode cX9_init 382 = .ok (.castore, 1) := by decide +kernel
theorem dX9_init_383 : decode cX9_init 383 = .ok (.dup, 1) := by decide +kernel
theorem dX9_init_384 : decode cX9_init 384 = .ok (.bipush 8, 2) := by decide +kernel
theorem dX9_init_386 : decode cX9_init 386 = .ok (.bipush 32, 2) := by decide +kernel
theorem dX9_init_388 : decode cX9_init 388 = .ok (.castore, 1) := by decide +kernel
theorem dX9_init_389 : decode cX9_init 389 = .ok (.dup, 1) := by decide +kernel
theorem dX9_init_390 : decode cX9_init 390 = .ok (.bipush 9, 2) := by decide +kernel
theorem dX9_init_392 : decode cX9_init 392 = .ok (.bipush 109, 2) := by decide +kernel
theorem dX9_init_394 : decode cX9_init 394 = .ok (.castore, 1) := by decide +kernel
theorem dX9_init_395 : decode cX9_init 395 = .ok (.dup, 1) := by decide +kernel
theorem dX9_init_396 : decode cX9_init 396 = .ok (.bipush 10, 2) := by decide +kernel
theorem dX9_init_398 : decode cX9_init 398 = .ok (.bipush 117, 2) := by decide +kernel
theorem dX9_init_400 : decode cX9_init 400 = .ok (.castore, 1) := by decide +kernel
theorem dX9_init_401 : decode cX9_init 401 = .ok (.dup, 1) := by decide +kernel
theorem dX9_init_402 : decode cX9_init 402 = .ok (.bipush 11, 2) := by decide +kernel
theorem dX9_init_404 : decode cX9_init 404 = .ok (.bipush 108, 2) := by decide +kernel
theorem dX9_init_406 : decode cX9_init 406 = .ok (.castore, 1) := by decide +kernel
theorem dX9_init_407 : decode cX9_init 407 = .ok (.dup, 1) := by decide +kernel
theorem dX9_init_408 : decode cX9_init 408 = .ok (.bipush 12, 2) := by decide +kernel
theorem dX9_init_410 : decode cX9_init 410 = .ok (.bipush 32, 2) := by decide +kernel
theorem dX9_init_412 : decode cX9_init 412 = .ok (.castore, 1) := by decide +kernel
theorem dX9_init_413 : decode cX9_init 413 = .ok (.dup, 1) := by decide +kernel
theorem dX9_init_414 : decode cX9_init 414 = .ok (.bipush 13, 2) := by decide +kernel
theorem dX9_init_416 : decode cX9_init 416 = .ok (.bipush 115, 2) := by decide +kernel
theorem dX9_init_418 : decode cX9_init 418 = .ok (.castore, 1) := by decide +kernel
theorem dX9_init_419 : decode cX9_init 419 = .ok (.dup, 1) := by decide +kernel
theorem dX9_init_420 : decode cX9_init 420 = .ok (.bipush 14, 2) := by decide +kernel
theorem dX9_init_422 : decode cX9_init 422 = .ok (.bipush 117, 2) := by decide +kernel
theorem dX9_init_424 : decode cX9_init 424 = .ok (.castore, 1) := by decide +kernel
theorem dX9_init_425 : decode cX9_init 425 = .ok (.dup, 1) := by decide +kernel
theorem dX9_init_426 : decode cX9_init 426 = .ok (.bipush 15, 2) := by decide +kernel
theorem dX9_init_428 : decode cX9_init 428 = .ok (.bipush 109, 2) := by decide +kernel
theorem dX9_init_430 : decode cX9_init 430 = .ok (.castore, 1) := by decide +kernel
theorem dX9_init_431 : decode cX9_init 431 = .ok (.dup, 1) := by decide +kernel
theorem dX9_init_432 : decode cX9_init 432 = .ok (.bipush 16, 2) := by decide +kernel
theorem dX9_init_434 : decode cX9_init 434 = .ok (.bipush 32, 2) := by decide +kernel
theorem dX9_init_436 : decode cX9_init 436 = .ok (.castore, 1) := by decide +kernel
theorem dX9_init_437 : decode cX9_init 437 = .ok (.dup, 1) := by decide +kernel
theorem dX9_init_438 : decode cX9_init 438 = .ok (.bipush 17, 2) := by decide +kernel
theorem dX9_init_440 : decode cX9_init 440 = .ok (.bipush 108, 2) := by decide +kernel
theorem dX9_init_442 : decode cX9_init 442 = .ok (.castore, 1) := by decide +kernel
theorem dX9_init_443 : decode cX9_init 443 = .ok (.dup, 1) := by decide +kernel
theorem dX9_init_444 : decode cX9_init 444 = .ok (.bipush 18, 2) := by decide +kernel
theorem dX9_init_446 : decode cX9_init 446 = .ok (.bipush 111, 2) := by decide +kernel
theorem dX9_init_448 : decode cX9_init 448 = .ok (.castore, 1) := by decide +kernel
theorem dX9_init_449 : decode cX9_init 449 = .ok (.dup, 1) := by decide +kernel
theorem dX9_init_450 : decode cX9_init 450 = .ok (.bipush 19, 2) := by decide +kernel
theorem dX9_init_452 : decode cX9_init 452 = .ok (.bipush 119, 2) := by decide +kernel
theorem dX9_init_454 : decode cX9_init 454 = .ok (.castore, 1) := by decide +kernel
theorem dX9_init_455 : decode cX9_init 455 = .ok (.dup, 1) := by decide +kernel
theorem dX9_init_456 : decode cX9_init 456 = .ok (.bipush 20, 2) := by decide +kernel
theorem dX9_init_458 : decode cX9_init 458 = .ok (.bipush 32, 2) := by decide +kernel
theorem dX9_init_460 : decode cX9_init 460 = .ok (.castore, 1) := by decide +kernel
theorem dX9_init_461 : decode cX9_init 461 = .ok (.putfield 47, 3) := by decide +kernel
theorem dX9_init_464 : decode cX9_init 464 = .ok (.aload_n 0, 1) := by decide +kernel
theorem dX9_init_465 : decode cX9_init 465 = .ok (.iconst 4, 1) := by decide +kernel
theorem dX9_init_466 : decode cX9_init 466 = .ok (.newarray .char, 2) := by decide +kernel
theorem dX9_init_468 : decode cX9_init 468 = .ok (.dup, 1) := by decide +kernel
theorem dX9_init_469 : decode cX9_init 469 = .ok (.iconst 0, 1) := by decide +kernel
theorem dX9_init_470 : decode cX9_init 470 = .ok (.bipush 110, 2) := by decide +kernel
theorem dX9_init_472 : decode cX9_init 472 = .ok (.castore, 1) := by decide +kernel
theorem dX9_init_473 : decode cX9_init 473 = .ok (.dup, 1) := by decide +kernel
theorem dX9_init_474 : decode cX9_init 474 = .ok (.iconst 1, 1) := by decide +kernel
theorem dX9_init_475 : decode cX9_init 475 = .ok (.bipush 111, 2) := by decide +kernel
theorem dX9_init_477 : decode cX9_init 477 = .ok (.castore, 1) := by decide +kernel
theorem dX9_init_478 : decode cX9_init 478 = .ok (.dup, 1) := by decide +kernel
theorem dX9_init_479 : decode cX9_init 479 = .ok (.iconst 2, 1) := by decide +kernel
theorem dX9_init_480 : decode cX9_init 480 = .ok (.bipush 116, 2) := by decide +kernel
theorem dX9_init_482 : decode cX9_init 482 = .ok (.castore, 1) := by decide +kernel
theorem dX9_init_483 : decode cX9_init 483 = .ok (.dup, 1) := by decide +kernel
theorem dX9_init_484 : decode cX9_init 484 = .ok (.iconst 3, 1) := by decide +kernel
theorem dX9_init_485 : decode cX9_init 485 = .ok (.bipush 32, 2) := by decide +kernel
theorem dX9_init_487 : decode cX9_init 487 = .ok (.castore, 1) := by decide +kernel
theorem dX9_init_488 : decode cX9_init 488 = .ok (.putfield 50, 3) := by decide +kernel
theorem dX9_init_491 : decode cX9_init 491 = .ok (.aload_n 0, 1) := by decide +kernel
theorem dX9_init_492 : decode cX9_init 492 = .ok (.bipush 80, 2) := by decide +kernel
theorem dX9_init_494 : decode cX9_init 494 = .ok (.newarray .int, 2) := by decide +kernel
theorem dX9_init_496 : decode cX9_init 496 = .ok (.putfield 53, 3) := by decide +kernel
theorem dX9_init_499 : decode cX9_init 499 = .ok (.aload_n 0, 1) := by decide +kernel
theorem dX9_init_500 : decode cX9_init 500 = .ok (.iconst 3, 1) := by decide +kernel
theorem dX9_init_501 : decode cX9_init 501 = .ok (.newarray .int, 2) := by decide +kernel
theorem dX9_init_503 : decode cX9_init 503 = .ok (.putfield 56, 3) := by decide +kernel
theorem dX9_init_506 : decode cX9_init 506 = .ok (.aload_n 0, 1) := by decide +kernel
theorem dX9_init_507 : decode cX9_init 507 = .ok (.bipush 6, 2) := by decide +kernel
theorem dX9_init_509 : decode cX9_init 509 = .ok (.newarray .int, 2) := by decide +kernel
theorem dX9_init_511 : decode cX9_init 511 = .ok (.putfield 59, 3) := by decide +kernel
theorem dX9_init_514 : decode cX9_init 514 = .ok (.aload_n 0, 1) := by decide +kernel
theorem dX9_init_515 : decode cX9_init 515 = .ok (.bipush 6, 2) := by decide +kernel
theorem dX9_init_517 : decode cX9_init 517 = .ok (.newarray .int, 2) := by decide +kernel
theorem dX9_init_519 : decode cX9_init 519 = .ok (.putfield 62, 3) := by decide +kernel
theorem dX9_init_522 : decode cX9_init 522 = .ok (.aload_n 0, 1) := by decide +kernel
theorem dX9_init_523 : decode cX9_init 523 = .ok (.bipush 6, 2) := by decide +kernel
theorem dX9_init_525 : decode cX9_init 525 = .ok (.newarray .int, 2) := by decide +kernel
theorem dX9_init_527 : decode cX9_init 527 = .ok (.putfield 65, 3) := by decide +kernel
theorem dX9_init_530 : decode cX9_init 530 = .ok (.aload_n 0, 1) := by decide +kernel
theorem dX9_init_531 : decode cX9_init 531 = .ok (.bipush 6, 2) := by decide +kernel
theorem dX9_init_533 : decode cX9_init 533 = .ok (.newarray .int, 2) := by decide +kernel
theorem dX9_init_535 : decode cX9_init 535 = .ok (.putfield 68, 3) := by decide +kernel
theorem dX9_init_538 : decode cX9_init 538 = .ok (.aload_n 0, 1) := by decide +kernel
theorem dX9_init_539 : decode cX9_init 539 = .ok (.bipush 6, 2) := by decide +kernel
theorem dX9_init_541 : decode cX9_init 541 = .ok (.newarray .int, 2) := by decide +kernel
theorem dX9_init_543 : decode cX9_init 543 = .ok (.putfield 71, 3) := by decide +kernel
theorem dX9_init_546 : decode cX9_init 546 = .ok (.aload_n 0, 1) := by decide +kernel
theorem dX9_init_547 : decode cX9_init 547 = .ok (.sipush 240, 3) := by decide +kernel
theorem dX9_init_550 : decode cX9_init 550 = .ok (.newarray .int, 2) := by decide +kernel
theorem dX9_init_552 : decode cX9_init 552 = .ok (.putfield 74, 3) := by decide +kernel
theorem dX9_init_555 : decode cX9_init 555 = .ok (.aload_n 0, 1) := by decide +kernel
theorem dX9_init_556 : decode cX9_init 556 = .ok (.bipush 8, 2) := by decide +kernel
theorem dX9_init_558 : decode cX9_init 558 = .ok (.newarray .int, 2) := by decide +kernel
theorem dX9_init_560 : decode cX9_init 560 = .ok (.putfield 77, 3) := by decide +kernel
theorem dX9_init_563 : decode cX9_init 563 = .ok (.aload_n 0, 1) := by decide +kernel
theorem dX9_init_564 : decode cX9_init 564 = .ok (.bipush 8, 2) := by decide +kernel
theorem dX9_init_566 : decode cX9_init 566 = .ok (.newarray .int, 2) := by decide +kernel
theorem dX9_init_568 : decode cX9_init 568 = .ok (.putfield 80, 3) := by decide +kernel
theorem dX9_init_571 : decode cX9_init 571 = .ok (.aload_n 0, 1) := by decide +kernel
theorem dX9_init_572 : decode cX9_init 572 = .ok (.bipush 8, 2) := by decide +kernel
theorem dX9_init_574 : decode cX9_init 574 = .ok (.newarray .int, 2) := by decide +kernel
theorem dX9_init_576 : decode cX9_init 576 = .ok (.putfield 83, 3) := by decide +kernel
theorem dX9_init_579 : decode cX9_init 579 = .ok (.aload_n 0, 1) := by decide +kernel
theorem dX9_init_580 : decode cX9_init 580 = .ok (.sipush 400, 3) := by decide +kernel
theorem dX9_init_583 : decode cX9_init 583 = .ok (.newarray .int, 2) := by decide +kernel
theorem dX9_init_585 : decode cX9_init 585 = .ok (.putfield 86, 3) := by decide +kernel
theorem dX9_init_588 : decode cX9_init 588 = .ok (.return_, 1) := by decide +kernel
theorem dX9_isIn_0 : decode cX9_isIn 0 = .ok (.lload_n 0, 1) := by decide +kernel
theorem dX9_isIn_1 : decode cX9_isIn 1 = .ok (.lload_n 2, 1) := by decide +kernel
theorem dX9_isIn_2 : decode cX9_isIn 2 = .ok (.lcmp, 1) := by decide +kernel
theorem dX9_isIn_3 : decode cX9_isIn 3 = .ok (.ifCond .lt 14, 3) := by decide +kernel
theorem dX9_isIn_6 : decode cX9_isIn 6 = .ok (.lload_n 0, 1) := by decide +kernel
theorem dX9_isIn_7 : decode cX9_isIn 7 = .ok (.lload 4, 2) := by decide +kernel
theorem dX9_isIn_9 : decode cX9_isIn 9 = .ok (.lcmp, 1) := by decide +kernel
theorem dX9_isIn_10 : decode cX9_isIn 10 = .ok (.ifCond .gt 7, 3) := by decide +kernel
theorem dX9_isIn_13 : decode cX9_isIn 13 = .ok (.iconst 1, 1) := by decide +kernel
theorem dX9_isIn_14 : decode cX9_isIn 14 = .ok (.goto 4, 3) := by decide +kernel
theorem dX9_isIn_17 : decode cX9_isIn 17 = .ok (.iconst 0, 1) := by decide +kernel
theorem dX9_isIn_18 : decode cX9_isIn 18 = .ok (.ireturn, 1) := by decide +kernel
theorem dX9_isFraction_0 : decode cX9_isFraction 0 = .ok (.iload_n 1, 1) := by decide +kernel
theorem dX9_isFraction_1 : decode cX9_isFraction 1 = .ok (.i2l, 1) := by decide +kernel
theorem dX9_isFraction_2 : decode cX9_isFraction 2 = .ok (.lconst 0, 1) := by decide +kernel
theorem dX9_isFraction_3 : decode cX9_isFraction 3 = .ok (.aload_n 0, 1) := by decide +kernel
theorem dX9_isFraction_4 : decode cX9_isFraction 4 = .ok (.getfield 89, 3) := by decide +kernel
theorem dX9_isFraction_7 : decode cX9_isFraction 7 = .ok (.iconst 1, 1) := by decide +kernel
theorem dX9_isFraction_8 : decode cX9_isFraction 8 = .ok (.isub, 1) := by decide +kernel
theorem dX9_isFraction_9 : decode cX9_isFraction 9 = .ok (.i2l, 1) := by decide +kernel
theorem dX9_isFraction_10 : decode cX9_isFraction 10 = .ok (.invokestatic 92, 3) := by decide +kernel
theorem dX9_isFraction_13 : decode cX9_isFraction 13 = .ok (.ireturn, 1) := by decide +kernel
theorem dX9_isBase_0 : decode cX9_isBase 0 = .ok (.iload_n 0, 1) := by decide +kernel
theorem dX9_isBase_1 : decode cX9_isBase 1 = .ok (.i2l, 1) := by decide +kernel
theorem dX9_isBase_2 : decode cX9_isBase 2 = .ok (.ldc2_w 96, 3) := by decide +kernel
theorem dX9_isBase_5 : decode cX9_isBase 5 = .ok (.ldc2_w 98, 3) := by decide +kernel
theorem dX9_isBase_8 : decode cX9_isBase 8 = .ok (.invokestatic 92, 3) := by decide +kernel
theorem dX9_isBase_11 : decode cX9_isBase 11 = .ok (.ireturn, 1) := by decide +kernel
theorem dX9_divisor_0 : decode cX9_divisor 0 = .ok (.lload_n 0, 1) := by decide +kernel
theorem dX9_divisor_1 : decode cX9_divisor 1 = .ok (.lstore 4, 2) := by decide +kernel
theorem dX9_divisor_3 : decode cX9_divisor 3 = .ok (.lload_n 2, 1) := by decide +kernel
theorem dX9_divisor_4 : decode cX9_divisor 4 = .ok (.lstore 6, 2) := by decide +kernel
theorem dX9_divisor_6 : decode cX9_divisor 6 = .ok (.lload 6, 2) := by decide +kernel
theorem dX9_divisor_8 : decode cX9_divisor 8 = .ok (.lconst 0, 1) := by decide +kernel
theorem dX9_divisor_9 : decode cX9_divisor 9 = .ok (.lcmp, 1) := by decide +kernel
theorem dX9_divisor_10 : decode cX9_divisor 10 = .ok (.ifCond .eq 21, 3) := by decide +kernel
theorem dX9_divisor_13 : decode cX9_divisor 13 = .ok (.lload 4, 2) := by decide +kernel
theorem dX9_divisor_15 : decode cX9_divisor 15 = .ok (.lload 6, 2) := by decide +kernel
theorem dX9_divisor_17 : decode cX9_divisor 17 = .ok (.lrem, 1) := by decide +kernel
theorem dX9_divisor_18 : decode cX9_divisor 18 = .ok (.lstore 8, 2) := by decide +kernel
theorem dX9_divisor_20 : decode cX9_divisor 20 = .ok (.lload 6, 2) := by decide +kernel
theorem dX9_divisor_22 : decode cX9_divisor 22 = .ok (.lstore 4, 2) := by decide +kernel
theorem dX9_divisor_24 : decode cX9_divisor 24 = .ok (.lload 8, 2) := by decide +kernel
theorem dX9_divisor_26 : decode cX9_divisor 26 = .ok (.lstore 6, 2) := by decide +kernel
theorem dX9_divisor_28 : decode cX9_divisor 28 = .ok (.goto (-22), 3) := by decide +kernel
theorem dX9_divisor_31 : decode cX9_divisor 31 = .ok (.lload 4, 2) := by decide +kernel
theorem dX9_divisor_33 : decode cX9_divisor 33 = .ok (.lreturn, 1) := by decide +kernel
theorem dX9_looks_0 : decode cX9_looks 0 = .ok (.iconst 0, 1) := by decide +kernel
theorem dX9_looks_1 : decode cX9_looks 1 = .ok (.istore 5, 2) := by decide +kernel
theorem dX9_looks_3 : decode cX9_looks 3 = .ok (.iload 5, 2) := by decide +kernel
theorem dX9_looks_5 : decode cX9_looks 5 = .ok (.iload_n 3, 1) := by decide +kernel
theorem dX9_looks_6 : decode cX9_looks 6 = .ok (.if_icmp .ge 17, 3) := by decide +kernel
theorem dX9_looks_9 : decode cX9_looks 9 = .ok (.aload_n 0, 1) := by decide +kernel
theorem dX9_looks_10 : decode cX9_looks 10 = .ok (.getfield 21, 3) := by decide +kernel
theorem dX9_looks_13 : decode cX9_looks 13 = .ok (.iload 5, 2) := by decide +kernel
theorem dX9_looks_15 : decode cX9_looks 15 = .ok (.iconst (-1), 1) := by decide +kernel
theorem dX9_looks_16 : decode cX9_looks 16 = .ok (.iastore, 1) := by decide +kernel
theorem dX9_looks_17 : decode cX9_looks 17 = .ok (.iinc 5 1, 3) := by decide +kernel
theorem dX9_looks_20 : decode cX9_looks 20 = .ok (.goto (-17), 3) := by decide +kernel
theorem dX9_looks_23 : decode cX9_looks 23 = .ok (.lload_n 1, 1) := by decide +kernel
theorem dX9_looks_24 : decode cX9_looks 24 = .ok (.iload_n 3, 1) := by decide +kernel
theorem dX9_looks_25 : decode cX9_looks 25 = .ok (.i2l, 1) := by decide +kernel
theorem dX9_looks_26 : decode cX9_looks 26 = .ok (.lrem, 1) := by decide +kernel
theorem dX9_looks_27 : decode cX9_looks 27 = .ok (.l2i, 1) := by decide +kernel
theorem dX9_looks_28 : decode cX9_looks 28 = .ok (.istore 5, 2) := by decide +kernel
theorem dX9_looks_30 : decode cX9_looks 30 = .ok (.iconst 0, 1) := by decide +kernel
theorem dX9_looks_31 : decode cX9_looks 31 = .ok (.istore 6, 2) := by decide +kernel
theorem dX9_looks_33 : decode cX9_looks 33 = .ok (.aload_n 0, 1) := by decide +kernel
theorem dX9_looks_34 : decode cX9_looks 34 = .ok (.getfield 21, 3) := by decide +kernel
theorem dX9_looks_37 : decode cX9_looks 37 = .ok (.iload 5, 2) := by decide +kernel
theorem dX9_looks_39 : decode cX9_looks 39 = .ok (.iaload, 1) := by decide +kernel
theorem dX9_looks_40 : decode cX9_looks 40 = .ok (.iconst (-1), 1) := by decide +kernel
theorem dX9_looks_41 : decode cX9_looks 41 = .ok (.if_icmp .ne 50, 3) := by decide +kernel
theorem dX9_looks_44 : decode cX9_looks 44 = .ok (.aload_n 0, 1) := by decide +kernel
theorem dX9_looks_45 : decode cX9_looks 45 = .ok (.getfield 21, 3) := by decide +kernel
theorem dX9_looks_48 : decode cX9_looks 48 = .ok (.iload 5, 2) := by decide +kernel
theorem dX9_looks_50 : decode cX9_looks 50 = .ok (.iload 6, 2) := by decide +kernel
theorem dX9_looks_52 : decode cX9_looks 52 = .ok (.iastore, 1) := by decide +kernel
theorem dX9_looks_53 : decode cX9_looks 53 = .ok (.aload_n 0, 1) := by decide +kernel
theorem dX9_looks_54 : decode cX9_looks 54 = .ok (.getfield 24, 3) := by decide +kernel
theorem dX9_looks_57 : decode cX9_looks 57 = .ok (.iload 6, 2) := by decide +kernel
theorem dX9_looks_59 : decode cX9_looks 59 = .ok (.iload 5, 2) := by decide +kernel
theorem dX9_looks_61 : decode cX9_looks 61 = .ok (.iastore, 1) := by decide +kernel
theorem dX9_looks_62 : decode cX9_looks 62 = .ok (.aload_n 0, 1) := by decide +kernel
theorem dX9_looks_63 : decode cX9_looks 63 = .ok (.getfield 27, 3) := by decide +kernel
theorem dX9_looks_66 : decode cX9_looks 66 = .ok (.iload 6, 2) := by decide +kernel
theorem dX9_looks_68 : decode cX9_looks 68 = .ok (.iload 5, 2) := by decide +kernel
theorem dX9_looks_70 : decode cX9_looks 70 = .ok (.iload 4, 2) := by decide +kernel
theorem dX9_looks_72 : decode cX9_looks 72 = .ok (.imul, 1) := by decide +kernel
theorem dX9_looks_73 : decode cX9_looks 73 = .ok (.iload_n 3, 1) := by decide +kernel
theorem dX9_looks_74 : decode cX9_looks 74 = .ok (.idiv, 1) := by decide +kernel
theorem dX9_looks_75 : decode cX9_looks 75 = .ok (.iastore, 1) := by decide +kernel
theorem dX9_looks_76 : decode cX9_looks 76 = .ok (.iload 5, 2) := by decide +kernel
theorem dX9_looks_78 : decode cX9_looks 78 = .ok (.iload 4, 2) := by decide +kernel
theorem dX9_looks_80 : decode cX9_looks 80 = .ok (.imul, 1) := by decide +kernel
theorem dX9_looks_81 : decode cX9_looks 81 = .ok (.iload_n 3, 1) := by decide +kernel
theorem dX9_looks_82 : decode cX9_looks 82 = .ok (.irem, 1) := by decide +kernel
theorem dX9_looks_83 : decode cX9_looks 83 = .ok (.istore 5, 2) := by decide +kernel
theorem dX9_looks_85 : decode cX9_looks 85 = .ok (.iinc 6 1, 3) := by decide +kernel
theorem dX9_looks_88 : decode cX9_looks 88 = .ok (.goto (-55), 3) := by decide +kernel
theorem dX9_looks_91 : decode cX9_looks 91 = .ok (.aload_n 0, 1) := by decide +kernel
theorem dX9_looks_92 : decode cX9_looks 92 = .ok (.aload_n 0, 1) := by decide +kernel
theorem dX9_looks_93 : decode cX9_looks 93 = .ok (.getfield 21, 3) := by decide +kernel
theorem dX9_looks_96 : decode cX9_looks 96 = .ok (.iload 5, 2) := by decide +kernel
theorem dX9_looks_98 : decode cX9_looks 98 = .ok (.iaload, 1) := by decide +kernel
theorem dX9_looks_99 : decode cX9_looks 99 = .ok (.putfield 100, 3) := by decide +kernel
theorem dX9_looks_102 : decode cX9_looks 102 = .ok (.aload_n 0, 1) := by decide +kernel
theorem dX9_looks_103 : decode cX9_looks 103 = .ok (.iload 6, 2) := by decide +kernel
theorem dX9_looks_105 : decode cX9_looks 105 = .ok (.aload_n 0, 1) := by decide +kernel
theorem dX9_looks_106 : decode cX9_looks 106 = .ok (.getfield 100, 3) := by decide +kernel
theorem dX9_looks_109 : decode cX9_looks 109 = .ok (.isub, 1) := by decide +kernel
theorem dX9_looks_110 : decode cX9_looks 110 = .ok (.putfield 103, 3) := by decide +kernel
theorem dX9_looks_113 : decode cX9_looks 113 = .ok (.aload_n 0, 1) := by decide +kernel
theorem dX9_looks_114 : decode cX9_looks 114 = .ok (.aload_n 0, 1) := by decide +kernel
theorem dX9_looks_115 : decode cX9_looks 115 = .ok (.getfield 24, 3) := by decide +kernel
theorem dX9_looks_118 : decode cX9_looks 118 = .ok (.aload_n 0, 1) := by decide +kernel
theorem dX9_looks_119 : decode cX9_looks 119 = .ok (.getfield 100, 3) := by decide +kernel
theorem dX9_looks_122 : decode cX9_looks 122 = .ok (.iaload, 1) := by decide +kernel
theorem dX9_looks_123 : decode cX9_looks 123 = .ok (.ifCond .ne 7, 3) := by decide +kernel
theorem dX9_looks_126 : decode cX9_looks 126 = .ok (.iconst 1, 1) := by decide +kernel
theorem dX9_looks_127 : decode cX9_looks 127 = .ok (.goto 4, 3) := by decide +kernel
theorem dX9_looks_130 : decode cX9_looks 130 = .ok (.iconst 0, 1) := by decide +kernel
theorem dX9_looks_131 : decode cX9_looks 131 = .ok (.putfield 106, 3) := by decide +kernel
theorem dX9_looks_134 : decode cX9_looks 134 = .ok (.return_, 1) := by decide +kernel
theorem dX9_looksAt_0 : decode cX9_looksAt 0 = .ok (.aload_n 0, 1) := by decide +kernel
theorem dX9_looksAt_1 : decode cX9_looksAt 1 = .ok (.aload_n 0, 1) := by decide +kernel
theorem dX9_looksAt_2 : decode cX9_looksAt 2 = .ok (.getfield 11, 3) := by decide +kernel
theorem dX9_looksAt_5 : decode cX9_looksAt 5 = .ok (.iload_n 1, 1) := by decide +kernel
theorem dX9_looksAt_6 : decode cX9_looksAt 6 = .ok (.iaload, 1) := by decide +kernel
theorem dX9_looksAt_7 : decode cX9_looksAt 7 = .ok (.i2l, 1) := by decide +kernel
theorem dX9_looksAt_8 : decode cX9_looksAt 8 = .ok (.aload_n 0, 1) := by decide +kernel
theorem dX9_looksAt_9 : decode cX9_looksAt 9 = .ok (.getfield 15, 3) := by decide +kernel
theorem dX9_looksAt_12 : decode cX9_looksAt 12 = .ok (.iload_n 1, 1) := by decide +kernel
theorem dX9_looksAt_13 : decode cX9_looksAt 13 = .ok (.iaload, 1) := by decide +kernel
theorem dX9_looksAt_14 : decode cX9_looksAt 14 = .ok (.aload_n 0, 1) := by decide +kernel
theorem dX9_looksAt_15 : decode cX9_looksAt 15 = .ok (.getfield 18, 3) := by decide +kernel
theorem dX9_looksAt_18 : decode cX9_looksAt 18 = .ok (.iload_n 1, 1) := by decide +kernel
theorem dX9_looksAt_19 : decode cX9_looksAt 19 = .ok (.iaload, 1) := by decide +kernel
theorem dX9_looksAt_20 : decode cX9_looksAt 20 = .ok (.invokevirtual 110, 3) := by decide +kernel
theorem dX9_looksAt_23 : decode cX9_looksAt 23 = .ok (.return_, 1) := by decide +kernel
theorem dX9_kindNow_0 : decode cX9_kindNow 0 = .ok (.aload_n 0, 1) := by decide +kernel
theorem dX9_kindNow_1 : decode cX9_kindNow 1 = .ok (.getfield 106, 3) := by decide +kernel
theorem dX9_kindNow_4 : decode cX9_kindNow 4 = .ok (.ifCond .eq 7, 3) := by decide +kernel
theorem dX9_kindNow_7 : decode cX9_kindNow 7 = .ok (.iconst 0, 1) := by decide +kernel
theorem dX9_kindNow_8 : decode cX9_kindNow 8 = .ok (.goto 15, 3) := by decide +kernel
theorem dX9_kindNow_11 : decode cX9_kindNow 11 = .ok (.aload_n 0, 1) := by decide +kernel
theorem dX9_kindNow_12 : decode cX9_kindNow 12 = .ok (.getfield 100, 3) := by decide +kernel
theorem dX9_kindNow_15 : decode cX9_kindNow 15 = .ok (.ifCond .ne 7, 3) := by decide +kernel
theorem dX9_kindNow_18 : decode cX9_kindNow 18 = .ok (.iconst 1, 1) := by decide +kernel
theorem dX9_kindNow_19 : decode cX9_kindNow 19 = .ok (.goto 4, 3) := by decide +kernel
theorem dX9_kindNow_22 : decode cX9_kindNow 22 = .ok (.iconst 2, 1) := by decide +kernel
theorem dX9_kindNow_23 : decode cX9_kindNow 23 = .ok (.ireturn, 1) := by decide +kernel
theorem dX9_placeOf_0 : decode cX9_placeOf 0 = .ok (.iload_n 1, 1) := by decide +kernel
theorem dX9_placeOf_1 : decode cX9_placeOf 1 = .ok (.aload_n 0, 1) := by decide +kernel
theorem dX9_placeOf_2 : decode cX9_placeOf 2 = .ok (.getfield 100, 3) := by decide +kernel
theorem dX9_placeOf_5 : decode cX9_placeOf 5 = .ok (.if_icmp .ge 7, 3) := by decide +kernel
theorem dX9_placeOf_8 : decode cX9_placeOf 8 = .ok (.iload_n 1, 1) := by decide +kernel
theorem dX9_placeOf_9 : decode cX9_placeOf 9 = .ok (.goto 19, 3) := by decide +kernel
theorem dX9_placeOf_12 : decode cX9_placeOf 12 = .ok (.aload_n 0, 1) := by decide +kernel
theorem dX9_placeOf_13 : decode cX9_placeOf 13 = .ok (.getfield 100, 3) := by decide +kernel
theorem dX9_placeOf_16 : decode cX9_placeOf 16 = .ok (.iload_n 1, 1) := by decide +kernel
theorem dX9_placeOf_17 : decode cX9_placeOf 17 = .ok (.aload_n 0, 1) := by decide +kernel
theorem dX9_placeOf_18 : decode cX9_placeOf 18 = .ok (.getfield 100, 3) := by decide +kernel
theorem dX9_placeOf_21 : decode cX9_placeOf 21 = .ok (.isub, 1) := by decide +kernel
theorem dX9_placeOf_22 : decode cX9_placeOf 22 = .ok (.aload_n 0, 1) := by decide +kernel
theorem dX9_placeOf_23 : decode cX9_placeOf 23 = .ok (.getfield 103, 3) := by decide +kernel
theorem dX9_placeOf_26 : decode cX9_placeOf 26 = .ok (.irem, 1) := by decide +kernel
theorem dX9_placeOf_27 : decode cX9_placeOf 27 = .ok (.iadd, 1) := by decide +kernel
theorem dX9_placeOf_28 : decode cX9_placeOf 28 = .ok (.ireturn, 1) := by decide +kernel
theorem dX9_comes_0 : decode cX9_comes 0 = .ok (.aload_n 0, 1) := by decide +kernel
theorem dX9_comes_1 : decode cX9_comes 1 = .ok (.getfield 11, 3) := by decide +kernel
theorem dX9_comes_4 : decode cX9_comes 4 = .ok (.aload_n 0, 1) := by decide +kernel
theorem dX9_comes_5 : decode cX9_comes 5 = .ok (.getfield 89, 3) := by decide +kernel
theorem dX9_comes_8 : decode cX9_comes 8 = .ok (.iload_n 1, 1) := by decide +kernel
theorem dX9_comes_9 : decode cX9_comes 9 = .ok (.iastore, 1) := by decide +kernel
theorem dX9_comes_10 : decode cX9_comes 10 = .ok (.aload_n 0, 1) := by decide +kernel
theorem dX9_comes_11 : decode cX9_comes 11 = .ok (.getfield 15, 3) := by decide +kernel
theorem dX9_comes_14 : decode cX9_comes 14 = .ok (.aload_n 0, 1) := by decide +kernel
theorem dX9_comes_15 : decode cX9_comes 15 = .ok (.getfield 89, 3) := by decide +kernel
theorem dX9_comes_18 : decode cX9_comes 18 = .ok (.iload_n 2, 1) := by decide +kernel
theorem dX9_comes_19 : decode cX9_comes 19 = .ok (.iastore, 1) := by decide +kernel
theorem dX9_comes_20 : decode cX9_comes 20 = .ok (.aload_n 0, 1) := by decide +kernel
theorem dX9_comes_21 : decode cX9_comes 21 = .ok (.getfield 18, 3) := by decide +kernel
theorem dX9_comes_24 : decode cX9_comes 24 = .ok (.aload_n 0, 1) := by decide +kernel
theorem dX9_comes_25 : decode cX9_comes 25 = .ok (.getfield 89, 3) := by decide +kernel
theorem dX9_comes_28 : decode cX9_comes 28 = .ok (.iload_n 3, 1) := by decide +kernel
theorem dX9_comes_29 : decode cX9_comes 29 = .ok (.iastore, 1) := by decide +kernel
theorem dX9_comes_30 : decode cX9_comes 30 = .ok (.aload_n 0, 1) := by decide +kernel
theorem dX9_comes_31 : decode cX9_comes 31 = .ok (.dup, 1) := by decide +kernel
theorem dX9_comes_32 : decode cX9_comes 32 = .ok (.getfield 89, 3) := by decide +kernel
theorem dX9_comes_35 : decode cX9_comes 35 = .ok (.iconst 1, 1) := by decide +kernel
theorem dX9_comes_36 : decode cX9_comes 36 = .ok (.iadd, 1) := by decide +kernel
theorem dX9_comes_37 : decode cX9_comes 37 = .ok (.putfield 89, 3) := by decide +kernel
theorem dX9_comes_40 : decode cX9_comes 40 = .ok (.aload_n 0, 1) := by decide +kernel
theorem dX9_comes_41 : decode cX9_comes 41 = .ok (.getfield 89, 3) := by decide +kernel
theorem dX9_comes_44 : decode cX9_comes 44 = .ok (.iconst 1, 1) := by decide +kernel
theorem dX9_comes_45 : decode cX9_comes 45 = .ok (.isub, 1) := by decide +kernel
theorem dX9_comes_46 : decode cX9_comes 46 = .ok (.ireturn, 1) := by decide +kernel
theorem dX9_fraction_0 : decode cX9_fraction 0 = .ok (.iload_n 1, 1) := by decide +kernel
theorem dX9_fraction_1 : decode cX9_fraction 1 = .ok (.i2l, 1) := by decide +kernel
theorem dX9_fraction_2 : decode cX9_fraction 2 = .ok (.lconst 0, 1) := by decide +kernel
theorem dX9_fraction_3 : decode cX9_fraction 3 = .ok (.ldc2_w 114, 3) := by decide +kernel
theorem dX9_fraction_6 : decode cX9_fraction 6 = .ok (.invokestatic 92, 3) := by decide +kernel
theorem dX9_fraction_9 : decode cX9_fraction 9 = .ok (.ifCond .eq 22, 3) := by decide +kernel
theorem dX9_fraction_12 : decode cX9_fraction 12 = .ok (.iload_n 2, 1) := by decide +kernel
theorem dX9_fraction_13 : decode cX9_fraction 13 = .ok (.i2l, 1) := by decide +kernel
theorem dX9_fraction_14 : decode cX9_fraction 14 = .ok (.lconst 1, 1) := by decide +kernel
theorem dX9_fraction_15 : decode cX9_fraction 15 = .ok (.ldc2_w 116, 3) := by decide +kernel
theorem dX9_fraction_18 : decode cX9_fraction 18 = .ok (.invokestatic 92, 3) := by decide +kernel
theorem dX9_fraction_21 : decode cX9_fraction 21 = .ok (.ifCond .eq 10, 3) := by decide +kernel
theorem dX9_fraction_24 : decode cX9_fraction 24 = .ok (.iload_n 3, 1) := by decide +kernel
theorem dX9_fraction_25 : decode cX9_fraction 25 = .ok (.invokestatic 118, 3) := by decide +kernel
theorem dX9_fraction_28 : decode cX9_fraction 28 = .ok (.ifCond .ne 5, 3) := by decide +kernel
theorem dX9_fraction_31 : decode cX9_fraction 31 = .ok (.iconst (-1), 1) := by decide +kernel
theorem dX9_fraction_32 : decode cX9_fraction 32 = .ok (.ireturn, 1) := by decide +kernel
theorem dX9_fraction_33 : decode cX9_fraction 33 = .ok (.aload_n 0, 1) := by decide +kernel
theorem dX9_fraction_34 : decode cX9_fraction 34 = .ok (.getfield 89, 3) := by decide +kernel
theorem dX9_fraction_37 : decode cX9_fraction 37 = .ok (.bipush 8, 2) := by decide +kernel
theorem dX9_fraction_39 : decode cX9_fraction 39 = .ok (.if_icmp .ne 8, 3) := by decide +kernel
theorem dX9_fraction_42 : decode cX9_fraction 42 = .ok (.bipush (-3), 2) := by decide +kernel
theorem dX9_fraction_44 : decode cX9_fraction 44 = .ok (.goto 10, 3) := by decide +kernel
theorem dX9_fraction_47 : decode cX9_fraction 47 = .ok (.aload_n 0, 1) := by decide +kernel
theorem dX9_fraction_48 : decode cX9_fraction 48 = .ok (.iload_n 1, 1) := by decide +kernel
theorem dX9_fraction_49 : decode cX9_fraction 49 = .ok (.iload_n 2, 1) := by decide +kernel
theorem dX9_fraction_50 : decode cX9_fraction 50 = .ok (.iload_n 3, 1) := by decide +kernel
theorem dX9_fraction_51 : decode cX9_fraction 51 = .ok (.invokevirtual 122, 3) := by decide +kernel
theorem dX9_fraction_54 : decode cX9_fraction 54 = .ok (.ireturn, 1) := by decide +kernel
theorem dX9_drop_0 : decode cX9_drop 0 = .ok (.aload_n 0, 1) := by decide +kernel
theorem dX9_drop_1 : decode cX9_drop 1 = .ok (.iload_n 1, 1) := by decide +kernel
theorem dX9_drop_2 : decode cX9_drop 2 = .ok (.invokevirtual 126, 3) := by decide +kernel
theorem dX9_drop_5 : decode cX9_drop 5 = .ok (.ifCond .ne 5, 3) := by decide +kernel
theorem dX9_drop_8 : decode cX9_drop 8 = .ok (.iconst (-1), 1) := by decide +kernel
theorem dX9_drop_9 : decode cX9_drop 9 = .ok (.ireturn, 1) := by decide +kernel
theorem dX9_drop_10 : decode cX9_drop 10 = .ok (.iload_n 1, 1) := by decide +kernel
theorem dX9_drop_11 : decode cX9_drop 11 = .ok (.istore_n 2, 1) := by decide +kernel
theorem dX9_drop_12 : decode cX9_drop 12 = .ok (.iload_n 2, 1) := by decide +kernel
theorem dX9_drop_13 : decode cX9_drop 13 = .ok (.aload_n 0, 1) := by decide +kernel
theorem dX9_drop_14 : decode cX9_drop 14 = .ok (.getfield 89, 3) := by decide +kernel
theorem dX9_drop_17 : decode cX9_drop 17 = .ok (.iconst 1, 1) := by decide +kernel
theorem dX9_drop_18 : decode cX9_drop 18 = .ok (.isub, 1) := by decide +kernel
theorem dX9_drop_19 : decode cX9_drop 19 = .ok (.if_icmp .ge 51, 3) := by decide +kernel
theorem dX9_drop_22 : decode cX9_drop 22 = .ok (.aload_n 0, 1) := by decide +kernel
theorem dX9_drop_23 : decode cX9_drop 23 = .ok (.getfield 11, 3) := by decide +kernel
theorem dX9_drop_26 : decode cX9_drop 26 = .ok (.iload_n 2, 1) := by decide +kernel
theorem dX9_drop_27 : decode cX9_drop 27 = .ok (.aload_n 0, 1) := by decide +kernel
theorem dX9_drop_28 : decode cX9_drop 28 = .ok (.getfield 11, 3) := by decide +kernel
theorem dX9_drop_31 : decode cX9_drop 31 = .ok (.iload_n 2, 1) := by decide +kernel
theorem dX9_drop_32 : decode cX9_drop 32 = .ok (.iconst 1, 1) := by decide +kernel
theorem dX9_drop_33 : decode cX9_drop 33 = .ok (.iadd, 1) := by decide +kernel
theorem dX9_drop_34 : decode cX9_drop 34 = .ok (.iaload, 1) := by decide +kernel
theorem dX9_drop_35 : decode cX9_drop 35 = .ok (.iastore, 1) := by decide +kernel
theorem dX9_drop_36 : decode cX9_drop 36 = .ok (.aload_n 0, 1) := by decide +kernel
theorem dX9_drop_37 : decode cX9_drop 37 = .ok (.getfield 15, 3) := by decide +kernel
theorem dX9_drop_40 : decode cX9_drop 40 = .ok (.iload_n 2, 1) := by decide +kernel
theorem dX9_drop_41 : decode cX9_drop 41 = .ok (.aload_n 0, 1) := by decide +kernel
theorem dX9_drop_42 : decode cX9_drop 42 = .ok (.getfield 15, 3) := by decide +kernel
theorem dX9_drop_45 : decode cX9_drop 45 = .ok (.iload_n 2, 1) := by decide +kernel
theorem dX9_drop_46 : decode cX9_drop 46 = .ok (.iconst 1, 1) := by decide +kernel
theorem dX9_drop_47 : decode cX9_drop 47 = .ok (.iadd, 1) := by decide +kernel
theorem dX9_drop_48 : decode cX9_drop 48 = .ok (.iaload, 1) := by decide +kernel
theorem dX9_drop_49 : decode cX9_drop 49 = .ok (.iastore, 1) := by decide +kernel
theorem dX9_drop_50 : decode cX9_drop 50 = .ok (.aload_n 0, 1) := by decide +kernel
theorem dX9_drop_51 : decode cX9_drop 51 = .ok (.getfield 18, 3) := by decide +kernel
theorem dX9_drop_54 : decode cX9_drop 54 = .ok (.iload_n 2, 1) := by decide +kernel
theorem dX9_drop_55 : decode cX9_drop 55 = .ok (.aload_n 0, 1) := by decide +kernel
theorem dX9_drop_56 : decode cX9_drop 56 = .ok (.getfield 18, 3) := by decide +kernel
theorem dX9_drop_59 : decode cX9_drop 59 = .ok (.iload_n 2, 1) := by decide +kernel
theorem dX9_drop_60 : decode cX9_drop 60 = .ok (.iconst 1, 1) := by decide +kernel
theorem dX9_drop_61 : decode cX9_drop 61 = .ok (.iadd, 1) := by decide +kernel
theorem dX9_drop_62 : decode cX9_drop 62 = .ok (.iaload, 1) := by decide +kernel
theorem dX9_drop_63 : decode cX9_drop 63 = .ok (.iastore, 1) := by decide +kernel
theorem dX9_drop_64 : decode cX9_drop 64 = .ok (.iinc 2 1, 3) := by decide +kernel
theorem dX9_drop_67 : decode cX9_drop 67 = .ok (.goto (-55), 3) := by decide +kernel
theorem dX9_drop_70 : decode cX9_drop 70 = .ok (.aload_n 0, 1) := by decide +kernel
theorem dX9_drop_71 : decode cX9_drop 71 = .ok (.dup, 1) := by decide +kernel
theorem dX9_drop_72 : decode cX9_drop 72 = .ok (.getfield 89, 3) := by decide +kernel
theorem dX9_drop_75 : decode cX9_drop 75 = .ok (.iconst 1, 1) := by decide +kernel
theorem dX9_drop_76 : decode cX9_drop 76 = .ok (.isub, 1) := by decide +kernel
theorem dX9_drop_77 : decode cX9_drop 77 = .ok (.putfield 89, 3) := by decide +kernel
theorem dX9_drop_80 : decode cX9_drop 80 = .ok (.aload_n 0, 1) := by decide +kernel
theorem dX9_drop_81 : decode cX9_drop 81 = .ok (.getfield 89, 3) := by decide +kernel
theorem dX9_drop_84 : decode cX9_drop 84 = .ok (.ireturn, 1) := by decide +kernel
theorem dX9_multiply_0 : decode cX9_multiply 0 = .ok (.aload_n 0, 1) := by decide +kernel
theorem dX9_multiply_1 : decode cX9_multiply 1 = .ok (.iload_n 1, 1) := by decide +kernel
theorem dX9_multiply_2 : decode cX9_multiply 2 = .ok (.invokevirtual 126, 3) := by decide +kernel
theorem dX9_multiply_5 : decode cX9_multiply 5 = .ok (.ifCond .eq 15, 3) := by decide +kernel
theorem dX9_multiply_8 : decode cX9_multiply 8 = .ok (.iload_n 2, 1) := by decide +kernel
theorem dX9_multiply_9 : decode cX9_multiply 9 = .ok (.i2l, 1) := by decide +kernel
theorem dX9_multiply_10 : decode cX9_multiply 10 = .ok (.lconst 0, 1) := by decide +kernel
theorem dX9_multiply_11 : decode cX9_multiply 11 = .ok (.ldc2_w 116, 3) := by decide +kernel
theorem dX9_multiply_14 : decode cX9_multiply 14 = .ok (.invokestatic 92, 3) := by decide +kernel
theorem dX9_multiply_17 : decode cX9_multiply 17 = .ok (.ifCond .ne 5, 3) := by decide +kernel
theorem dX9_multiply_20 : decode cX9_multiply 20 = .ok (.iconst (-1), 1) := by decide +kernel
theorem dX9_multiply_21 : decode cX9_multiply 21 = .ok (.ireturn, 1) := by decide +kernel
theorem dX9_multiply_22 : decode cX9_multiply 22 = .ok (.aload_n 0, 1) := by decide +kernel
theorem dX9_multiply_23 : decode cX9_multiply 23 = .ok (.getfield 11, 3) := by decide +kernel
theorem dX9_multiply_26 : decode cX9_multiply 26 = .ok (.iload_n 1, 1) := by decide +kernel
theorem dX9_multiply_27 : decode cX9_multiply 27 = .ok (.iaload, 1) := by decide +kernel
theorem dX9_multiply_28 : decode cX9_multiply 28 = .ok (.i2l, 1) := by decide +kernel
theorem dX9_multiply_29 : decode cX9_multiply 29 = .ok (.iload_n 2, 1) := by decide +kernel
theorem dX9_multiply_30 : decode cX9_multiply 30 = .ok (.i2l, 1) := by decide +kernel
theorem dX9_multiply_31 : decode cX9_multiply 31 = .ok (.lmul, 1) := by decide +kernel
theorem dX9_multiply_32 : decode cX9_multiply 32 = .ok (.ldc2_w 114, 3) := by decide +kernel
theorem dX9_multiply_35 : decode cX9_multiply 35 = .ok (.lcmp, 1) := by decide +kernel
theorem dX9_multiply_36 : decode cX9_multiply 36 = .ok (.ifCond .le 6, 3) := by decide +kernel
theorem dX9_multiply_39 : decode cX9_multiply 39 = .ok (.bipush (-6), 2) := by decide +kernel
theorem dX9_multiply_41 : decode cX9_multiply 41 = .ok (.ireturn, 1) := by decide +kernel
theorem dX9_multiply_42 : decode cX9_multiply 42 = .ok (.aload_n 0, 1) := by decide +kernel
theorem dX9_multiply_43 : decode cX9_multiply 43 = .ok (.getfield 11, 3) := by decide +kernel
theorem dX9_multiply_46 : decode cX9_multiply 46 = .ok (.iload_n 1, 1) := by decide +kernel
theorem dX9_multiply_47 : decode cX9_multiply 47 = .ok (.dup2, 1) := by decide +kernel
theorem dX9_multiply_48 : decode cX9_multiply 48 = .ok (.iaload, 1) := by decide +kernel
theorem dX9_multiply_49 : decode cX9_multiply 49 = .ok (.iload_n 2, 1) := by decide +kernel
theorem dX9_multiply_50 : decode cX9_multiply 50 = .ok (.imul, 1) := by decide +kernel
theorem dX9_multiply_51 : decode cX9_multiply 51 = .ok (.iastore, 1) := by decide +kernel
theorem dX9_multiply_52 : decode cX9_multiply 52 = .ok (.aload_n 0, 1) := by decide +kernel
theorem dX9_multiply_53 : decode cX9_multiply 53 = .ok (.getfield 11, 3) := by decide +kernel
theorem dX9_multiply_56 : decode cX9_multiply 56 = .ok (.iload_n 1, 1) := by decide +kernel
theorem dX9_multiply_57 : decode cX9_multiply 57 = .ok (.iaload, 1) := by decide +kernel
theorem dX9_multiply_58 : decode cX9_multiply 58 = .ok (.ireturn, 1) := by decide +kernel
theorem dX9_comesLowest_0 : decode cX9_comesLowest 0 = .ok (.lload_n 1, 1) := by decide +kernel
theorem dX9_comesLowest_1 : decode cX9_comesLowest 1 = .ok (.lload_n 3, 1) := by decide +kernel
theorem dX9_comesLowest_2 : decode cX9_comesLowest 2 = .ok (.invokestatic 129, 3) := by decide +kernel
theorem dX9_comesLowest_5 : decode cX9_comesLowest 5 = .ok (.lstore 6, 2) := by decide +kernel
theorem dX9_comesLowest_7 : decode cX9_comesLowest 7 = .ok (.lload_n 1, 1) := by decide +kernel
theorem dX9_comesLowest_8 : decode cX9_comesLowest 8 = .ok (.lload 6, 2) := by decide +kernel
theorem dX9_comesLowest_10 : decode cX9_comesLowest 10 = .ok (.ldiv, 1) := by decide +kernel
theorem dX9_comesLowest_11 : decode cX9_comesLowest 11 = .ok (.ldc2_w 114, 3) := by decide +kernel
theorem dX9_comesLowest_14 : decode cX9_comesLowest 14 = .ok (.lcmp, 1) := by decide +kernel
theorem dX9_comesLowest_15 : decode cX9_comesLowest 15 = .ok (.ifCond .gt 14, 3) := by decide +kernel
theorem dX9_comesLowest_18 : decode cX9_comesLowest 18 = .ok (.lload_n 3, 1) := by decide +kernel
theorem dX9_comesLowest_19 : decode cX9_comesLowest 19 = .ok (.lload 6, 2) := by decide +kernel
theorem dX9_comesLowest_21 : decode cX9_comesLowest 21 = .ok (.ldiv, 1) := by decide +kernel
theorem dX9_comesLowest_22 : decode cX9_comesLowest 22 = .ok (.ldc2_w 116, 3) := by decide +kernel
theorem dX9_comesLowest_25 : decode cX9_comesLowest 25 = .ok (.lcmp, 1) := by decide +kernel
theorem dX9_comesLowest_26 : decode cX9_comesLowest 26 = .ok (.ifCond .le 6, 3) := by decide +kernel
theorem dX9_comesLowest_29 : decode cX9_comesLowest 29 = .ok (.bipush (-6), 2) := by decide +kernel
theorem dX9_comesLowest_31 : decode cX9_comesLowest 31 = .ok (.ireturn, 1) := by decide +kernel
theorem dX9_comesLowest_32 : decode cX9_comesLowest 32 = .ok (.aload_n 0, 1) := by decide +kernel
theorem dX9_comesLowest_33 : decode cX9_comesLowest 33 = .ok (.getfield 89, 3) := by decide +kernel
theorem dX9_comesLowest_36 : decode cX9_comesLowest 36 = .ok (.bipush 8, 2) := by decide +kernel
theorem dX9_comesLowest_38 : decode cX9_comesLowest 38 = .ok (.if_icmp .ne 8, 3) := by decide +kernel
theorem dX9_comesLowest_41 : decode cX9_comesLowest 41 = .ok (.bipush (-3), 2) := by decide +kernel
theorem dX9_comesLowest_43 : decode cX9_comesLowest 43 = .ok (.goto 19, 3) := by decide +kernel
theorem dX9_comesLowest_46 : decode cX9_comesLowest 46 = .ok (.aload_n 0, 1) := by decide +kernel
theorem dX9_comesLowest_47 : decode cX9_comesLowest 47 = .ok (.lload_n 1, 1) := by decide +kernel
theorem dX9_comesLowest_48 : decode cX9_comesLowest 48 = .ok (.lload 6, 2) := by decide +kernel
theorem dX9_comesLowest_50 : decode cX9_comesLowest 50 = .ok (.ldiv, 1) := by decide +kernel
theorem dX9_comesLowest_51 : decode cX9_comesLowest 51 = .ok (.l2i, 1) := by decide +kernel
theorem dX9_comesLowest_52 : decode cX9_comesLowest 52 = .ok (.lload_n 3, 1) := by decide +kernel
theorem dX9_comesLowest_53 : decode cX9_comesLowest 53 = .ok (.lload 6, 2) := by decide +kernel
theorem dX9_comesLowest_55 : decode cX9_comesLowest 55 = .ok (.ldiv, 1) := by decide +kernel
theorem dX9_comesLowest_56 : decode cX9_comesLowest 56 = .ok (.l2i, 1) := by decide +kernel
theorem dX9_comesLowest_57 : decode cX9_comesLowest 57 = .ok (.iload 5, 2) := by decide +kernel
theorem dX9_comesLowest_59 : decode cX9_comesLowest 59 = .ok (.invokevirtual 122, 3) := by decide +kernel
theorem dX9_comesLowest_62 : decode cX9_comesLowest 62 = .ok (.ireturn, 1) := by decide +kernel
theorem dX9_sum_0 : decode cX9_sum 0 = .ok (.aload_n 0, 1) := by decide +kernel
theorem dX9_sum_1 : decode cX9_sum 1 = .ok (.iload_n 1, 1) := by decide +kernel
theorem dX9_sum_2 : decode cX9_sum 2 = .ok (.invokevirtual 126, 3) := by decide +kernel
theorem dX9_sum_5 : decode cX9_sum 5 = .ok (.ifCond .eq 11, 3) := by decide +kernel
theorem dX9_sum_8 : decode cX9_sum 8 = .ok (.aload_n 0, 1) := by decide +kernel
theorem dX9_sum_9 : decode cX9_sum 9 = .ok (.iload_n 2, 1) := by decide +kernel
theorem dX9_sum_10 : decode cX9_sum 10 = .ok (.invokevirtual 126, 3) := by decide +kernel
theorem dX9_sum_13 : decode cX9_sum 13 = .ok (.ifCond .ne 5, 3) := by decide +kernel
theorem dX9_sum_16 : decode cX9_sum 16 = .ok (.iconst (-1), 1) := by decide +kernel
theorem dX9_sum_17 : decode cX9_sum 17 = .ok (.ireturn, 1) := by decide +kernel
theorem dX9_sum_18 : decode cX9_sum 18 = .ok (.aload_n 0, 1) := by decide +kernel
theorem dX9_sum_19 : decode cX9_sum 19 = .ok (.getfield 18, 3) := by decide +kernel
theorem dX9_sum_22 : decode cX9_sum 22 = .ok (.iload_n 1, 1) := by decide +kernel
theorem dX9_sum_23 : decode cX9_sum 23 = .ok (.iaload, 1) := by decide +kernel
theorem dX9_sum_24 : decode cX9_sum 24 = .ok (.aload_n 0, 1) := by decide +kernel
theorem dX9_sum_25 : decode cX9_sum 25 = .ok (.getfield 18, 3) := by decide +kernel
theorem dX9_sum_28 : decode cX9_sum 28 = .ok (.iload_n 2, 1) := by decide +kernel
theorem dX9_sum_29 : decode cX9_sum 29 = .ok (.iaload, 1) := by decide +kernel
theorem dX9_sum_30 : decode cX9_sum 30 = .ok (.if_icmp .eq 6, 3) := by decide +kernel
theorem dX9_sum_33 : decode cX9_sum 33 = .ok (.bipush (-5), 2) := by decide +kernel
theorem dX9_sum_35 : decode cX9_sum 35 = .ok (.ireturn, 1) := by decide +kernel
theorem dX9_sum_36 : decode cX9_sum 36 = .ok (.aload_n 0, 1) := by decide +kernel
theorem dX9_sum_37 : decode cX9_sum 37 = .ok (.getfield 11, 3) := by decide +kernel
theorem dX9_sum_40 : decode cX9_sum 40 = .ok (.iload_n 1, 1) := by decide +kernel
theorem dX9_sum_41 : decode cX9_sum 41 = .ok (.iaload, 1) := by decide +kernel
theorem dX9_sum_42 : decode cX9_sum 42 = .ok (.i2l, 1) := by decide +kernel
theorem dX9_sum_43 : decode cX9_sum 43 = .ok (.aload_n 0, 1) := by decide +kernel
theorem dX9_sum_44 : decode cX9_sum 44 = .ok (.getfield 15, 3) := by decide +kernel
theorem dX9_sum_47 : decode cX9_sum 47 = .ok (.iload_n 2, 1) := by decide +kernel
theorem dX9_sum_48 : decode cX9_sum 48 = .ok (.iaload, 1) := by decide +kernel
theorem dX9_sum_49 : decode cX9_sum 49 = .ok (.i2l, 1) := by decide +kernel
theorem dX9_sum_50 : decode cX9_sum 50 = .ok (.lmul, 1) := by decide +kernel
theorem dX9_sum_51 : decode cX9_sum 51 = .ok (.aload_n 0, 1) := by decide +kernel
theorem dX9_sum_52 : decode cX9_sum 52 = .ok (.getfield 11, 3) := by decide +kernel
theorem dX9_sum_55 : decode cX9_sum 55 = .ok (.iload_n 2, 1) := by decide +kernel
theorem dX9_sum_56 : decode cX9_sum 56 = .ok (.iaload, 1) := by decide +kernel
theorem dX9_sum_57 : decode cX9_sum 57 = .ok (.i2l, 1) := by decide +kernel
theorem dX9_sum_58 : decode cX9_sum 58 = .ok (.aload_n 0, 1) := by decide +kernel
theorem dX9_sum_59 : decode cX9_sum 59 = .ok (.getfield 15, 3) := by decide +kernel
theorem dX9_sum_62 : decode cX9_sum 62 = .ok (.iload_n 1, 1) := by decide +kernel
theorem dX9_sum_63 : decode cX9_sum 63 = .ok (.iaload, 1) := by decide +kernel
theorem dX9_sum_64 : decode cX9_sum 64 = .ok (.i2l, 1) := by decide +kernel
theorem dX9_sum_65 : decode cX9_sum 65 = .ok (.lmul, 1) := by decide +kernel
theorem dX9_sum_66 : decode cX9_sum 66 = .ok (.ladd, 1) := by decide +kernel
theorem dX9_sum_67 : decode cX9_sum 67 = .ok (.lstore_n 3, 1) := by decide +kernel
theorem dX9_sum_68 : decode cX9_sum 68 = .ok (.aload_n 0, 1) := by decide +kernel
theorem dX9_sum_69 : decode cX9_sum 69 = .ok (.lload_n 3, 1) := by decide +kernel
theorem dX9_sum_70 : decode cX9_sum 70 = .ok (.aload_n 0, 1) := by decide +kernel
theorem dX9_sum_71 : decode cX9_sum 71 = .ok (.getfield 15, 3) := by decide +kernel
theorem dX9_sum_74 : decode cX9_sum 74 = .ok (.iload_n 1, 1) := by decide +kernel
theorem dX9_sum_75 : decode cX9_sum 75 = .ok (.iaload, 1) := by decide +kernel
theorem dX9_sum_76 : decode cX9_sum 76 = .ok (.i2l, 1) := by decide +kernel
theorem dX9_sum_77 : decode cX9_sum 77 = .ok (.aload_n 0, 1) := by decide +kernel
theorem dX9_sum_78 : decode cX9_sum 78 = .ok (.getfield 15, 3) := by decide +kernel
theorem dX9_sum_81 : decode cX9_sum 81 = .ok (.iload_n 2, 1) := by decide +kernel
theorem dX9_sum_82 : decode cX9_sum 82 = .ok (.iaload, 1) := by decide +kernel
theorem dX9_sum_83 : decode cX9_sum 83 = .ok (.i2l, 1) := by decide +kernel
theorem dX9_sum_84 : decode cX9_sum 84 = .ok (.lmul, 1) := by decide +kernel
theorem dX9_sum_85 : decode cX9_sum 85 = .ok (.aload_n 0, 1) := by decide +kernel
theorem dX9_sum_86 : decode cX9_sum 86 = .ok (.getfield 18, 3) := by decide +kernel
theorem dX9_sum_89 : decode cX9_sum 89 = .ok (.iload_n 1, 1) := by decide +kernel
theorem dX9_sum_90 : decode cX9_sum 90 = .ok (.iaload, 1) := by decide +kernel
theorem dX9_sum_91 : decode cX9_sum 91 = .ok (.invokevirtual 133, 3) := by decide +kernel
theorem dX9_sum_94 : decode cX9_sum 94 = .ok (.ireturn, 1) := by decide +kernel
theorem dX9_lowest_0 : decode cX9_lowest 0 = .ok (.aload_n 0, 1) := by decide +kernel
theorem dX9_lowest_1 : decode cX9_lowest 1 = .ok (.iload_n 1, 1) := by decide +kernel
theorem dX9_lowest_2 : decode cX9_lowest 2 = .ok (.invokevirtual 126, 3) := by decide +kernel
theorem dX9_lowest_5 : decode cX9_lowest 5 = .ok (.ifCond .ne 5, 3) := by decide +kernel
theorem dX9_lowest_8 : decode cX9_lowest 8 = .ok (.iconst (-1), 1) := by decide +kernel
theorem dX9_lowest_9 : decode cX9_lowest 9 = .ok (.ireturn, 1) := by decide +kernel
theorem dX9_lowest_10 : decode cX9_lowest 10 = .ok (.aload_n 0, 1) := by decide +kernel
theorem dX9_lowest_11 : decode cX9_lowest 11 = .ok (.getfield 11, 3) := by decide +kernel
theorem dX9_lowest_14 : decode cX9_lowest 14 = .ok (.iload_n 1, 1) := by decide +kernel
theorem dX9_lowest_15 : decode cX9_lowest 15 = .ok (.iaload, 1) := by decide +kernel
theorem dX9_lowest_16 : decode cX9_lowest 16 = .ok (.i2l, 1) := by decide +kernel
theorem dX9_lowest_17 : decode cX9_lowest 17 = .ok (.aload_n 0, 1) := by decide +kernel
theorem dX9_lowest_18 : decode cX9_lowest 18 = .ok (.getfield 15, 3) := by decide +kernel
theorem dX9_lowest_21 : decode cX9_lowest 21 = .ok (.iload_n 1, 1) := by decide +kernel
theorem dX9_lowest_22 : decode cX9_lowest 22 = .ok (.iaload, 1) := by decide +kernel
theorem dX9_lowest_23 : decode cX9_lowest 23 = .ok (.i2l, 1) := by decide +kernel
theorem dX9_lowest_24 : decode cX9_lowest 24 = .ok (.invokestatic 129, 3) := by decide +kernel
theorem dX9_lowest_27 : decode cX9_lowest 27 = .ok (.l2i, 1) := by decide +kernel
theorem dX9_lowest_28 : decode cX9_lowest 28 = .ok (.istore_n 2, 1) := by decide +kernel
theorem dX9_lowest_29 : decode cX9_lowest 29 = .ok (.aload_n 0, 1) := by decide +kernel
theorem dX9_lowest_30 : decode cX9_lowest 30 = .ok (.getfield 11, 3) := by decide +kernel
theorem dX9_lowest_33 : decode cX9_lowest 33 = .ok (.iload_n 1, 1) := by decide +kernel
end
section
theorem dX9_lowest_34 : decode cX9_lowest 34 = .ok (.dup2, 1) := by decide +kernel
theorem dX9_lowest_35 : decode cX9_lowest 35 = .ok (.iaload, 1) := by decide +kernel
theorem dX9_lowest_36 : decode cX9_lowest 36 = .ok (.iload_n 2, 1) := by decide +kernel
theorem dX9_lowest_37 : decode cX9_lowest 37 = .ok (.idiv, 1) := by decide +kernel
theorem dX9_lowest_38 : decode cX9_lowest 38 = .ok (.iastore, 1) := by decide +kernel
theorem dX9_lowest_39 : decode cX9_lowest 39 = .ok (.aload_n 0, 1) := by decide +kernel
theorem dX9_lowest_40 : decode cX9_lowest 40 = .ok (.getfield 15, 3) := by decide +kernel
theorem dX9_lowest_43 : decode cX9_lowest 43 = .ok (.iload_n 1, 1) := by decide +kernel
theorem dX9_lowest_44 : decode cX9_lowest 44 = .ok (.dup2, 1) := by decide +kernel
theorem dX9_lowest_45 : decode cX9_lowest 45 = .ok (.iaload, 1) := by decide +kernel
theorem dX9_lowest_46 : decode cX9_lowest 46 = .ok (.iload_n 2, 1) := by decide +kernel
theorem dX9_lowest_47 : decode cX9_lowest 47 = .ok (.idiv, 1) := by decide +kernel
theorem dX9_lowest_48 : decode cX9_lowest 48 = .ok (.iastore, 1) := by decide +kernel
theorem dX9_lowest_49 : decode cX9_lowest 49 = .ok (.aload_n 0, 1) := by decide +kernel
theorem dX9_lowest_50 : decode cX9_lowest 50 = .ok (.getfield 15, 3) := by decide +kernel
theorem dX9_lowest_53 : decode cX9_lowest 53 = .ok (.iload_n 1, 1) := by decide +kernel
theorem dX9_lowest_54 : decode cX9_lowest 54 = .ok (.iaload, 1) := by decide +kernel
theorem dX9_lowest_55 : decode cX9_lowest 55 = .ok (.ireturn, 1) := by decide +kernel
theorem dX9_of_0 : decode cX9_of 0 = .ok (.aload_n 0, 1) := by decide +kernel
theorem dX9_of_1 : decode cX9_of 1 = .ok (.iload_n 1, 1) := by decide +kernel
theorem dX9_of_2 : decode cX9_of 2 = .ok (.invokevirtual 126, 3) := by decide +kernel
theorem dX9_of_5 : decode cX9_of 5 = .ok (.ifCond .ne 5, 3) := by decide +kernel
theorem dX9_of_8 : decode cX9_of 8 = .ok (.iconst (-1), 1) := by decide +kernel
theorem dX9_of_9 : decode cX9_of 9 = .ok (.ireturn, 1) := by decide +kernel
theorem dX9_of_10 : decode cX9_of 10 = .ok (.aload_n 0, 1) := by decide +kernel
theorem dX9_of_11 : decode cX9_of 11 = .ok (.iload_n 1, 1) := by decide +kernel
theorem dX9_of_12 : decode cX9_of 12 = .ok (.invokevirtual 137, 3) := by decide +kernel
theorem dX9_of_15 : decode cX9_of 15 = .ok (.iload_n 2, 1) := by decide +kernel
theorem dX9_of_16 : decode cX9_of 16 = .ok (.tableswitch 94 0 6 #[44, 51, 58, 65, 79, 84, 89], 44) := by decide +kernel
theorem dX9_of_60 : decode cX9_of 60 = .ok (.aload_n 0, 1) := by decide +kernel
theorem dX9_of_61 : decode cX9_of 61 = .ok (.getfield 11, 3) := by decide +kernel
theorem dX9_of_64 : decode cX9_of 64 = .ok (.iload_n 1, 1) := by decide +kernel
theorem dX9_of_65 : decode cX9_of 65 = .ok (.iaload, 1) := by decide +kernel
theorem dX9_of_66 : decode cX9_of 66 = .ok (.ireturn, 1) := by decide +kernel
theorem dX9_of_67 : decode cX9_of 67 = .ok (.aload_n 0, 1) := by decide +kernel
theorem dX9_of_68 : decode cX9_of 68 = .ok (.getfield 15, 3) := by decide +kernel
theorem dX9_of_71 : decode cX9_of 71 = .ok (.iload_n 1, 1) := by decide +kernel
theorem dX9_of_72 : decode cX9_of 72 = .ok (.iaload, 1) := by decide +kernel
theorem dX9_of_73 : decode cX9_of 73 = .ok (.ireturn, 1) := by decide +kernel
theorem dX9_of_74 : decode cX9_of 74 = .ok (.aload_n 0, 1) := by decide +kernel
theorem dX9_of_75 : decode cX9_of 75 = .ok (.getfield 18, 3) := by decide +kernel
theorem dX9_of_78 : decode cX9_of 78 = .ok (.iload_n 1, 1) := by decide +kernel
theorem dX9_of_79 : decode cX9_of 79 = .ok (.iaload, 1) := by decide +kernel
theorem dX9_of_80 : decode cX9_of 80 = .ok (.ireturn, 1) := by decide +kernel
theorem dX9_of_81 : decode cX9_of 81 = .ok (.aload_n 0, 1) := by decide +kernel
theorem dX9_of_82 : decode cX9_of 82 = .ok (.getfield 11, 3) := by decide +kernel
theorem dX9_of_85 : decode cX9_of 85 = .ok (.iload_n 1, 1) := by decide +kernel
theorem dX9_of_86 : decode cX9_of 86 = .ok (.iaload, 1) := by decide +kernel
theorem dX9_of_87 : decode cX9_of 87 = .ok (.aload_n 0, 1) := by decide +kernel
theorem dX9_of_88 : decode cX9_of 88 = .ok (.getfield 15, 3) := by decide +kernel
theorem dX9_of_91 : decode cX9_of 91 = .ok (.iload_n 1, 1) := by decide +kernel
theorem dX9_of_92 : decode cX9_of 92 = .ok (.iaload, 1) := by decide +kernel
theorem dX9_of_93 : decode cX9_of 93 = .ok (.idiv, 1) := by decide +kernel
theorem dX9_of_94 : decode cX9_of 94 = .ok (.ireturn, 1) := by decide +kernel
theorem dX9_of_95 : decode cX9_of 95 = .ok (.aload_n 0, 1) := by decide +kernel
theorem dX9_of_96 : decode cX9_of 96 = .ok (.getfield 100, 3) := by decide +kernel
theorem dX9_of_99 : decode cX9_of 99 = .ok (.ireturn, 1) := by decide +kernel
theorem dX9_of_100 : decode cX9_of 100 = .ok (.aload_n 0, 1) := by decide +kernel
theorem dX9_of_101 : decode cX9_of 101 = .ok (.getfield 103, 3) := by decide +kernel
theorem dX9_of_104 : decode cX9_of 104 = .ok (.ireturn, 1) := by decide +kernel
theorem dX9_of_105 : decode cX9_of 105 = .ok (.aload_n 0, 1) := by decide +kernel
theorem dX9_of_106 : decode cX9_of 106 = .ok (.invokevirtual 141, 3) := by decide +kernel
theorem dX9_of_109 : decode cX9_of 109 = .ok (.ireturn, 1) := by decide +kernel
theorem dX9_of_110 : decode cX9_of 110 = .ok (.iconst (-1), 1) := by decide +kernel
theorem dX9_of_111 : decode cX9_of 111 = .ok (.ireturn, 1) := by decide +kernel
theorem dX9_digit_0 : decode cX9_digit 0 = .ok (.aload_n 0, 1) := by decide +kernel
theorem dX9_digit_1 : decode cX9_digit 1 = .ok (.iload_n 1, 1) := by decide +kernel
theorem dX9_digit_2 : decode cX9_digit 2 = .ok (.invokevirtual 126, 3) := by decide +kernel
theorem dX9_digit_5 : decode cX9_digit 5 = .ok (.ifCond .eq 15, 3) := by decide +kernel
theorem dX9_digit_8 : decode cX9_digit 8 = .ok (.iload_n 2, 1) := by decide +kernel
theorem dX9_digit_9 : decode cX9_digit 9 = .ok (.i2l, 1) := by decide +kernel
theorem dX9_digit_10 : decode cX9_digit 10 = .ok (.lconst 0, 1) := by decide +kernel
theorem dX9_digit_11 : decode cX9_digit 11 = .ok (.ldc2_w 114, 3) := by decide +kernel
theorem dX9_digit_14 : decode cX9_digit 14 = .ok (.invokestatic 92, 3) := by decide +kernel
theorem dX9_digit_17 : decode cX9_digit 17 = .ok (.ifCond .ne 5, 3) := by decide +kernel
theorem dX9_digit_20 : decode cX9_digit 20 = .ok (.iconst (-1), 1) := by decide +kernel
theorem dX9_digit_21 : decode cX9_digit 21 = .ok (.ireturn, 1) := by decide +kernel
theorem dX9_digit_22 : decode cX9_digit 22 = .ok (.aload_n 0, 1) := by decide +kernel
theorem dX9_digit_23 : decode cX9_digit 23 = .ok (.iload_n 1, 1) := by decide +kernel
theorem dX9_digit_24 : decode cX9_digit 24 = .ok (.invokevirtual 137, 3) := by decide +kernel
theorem dX9_digit_27 : decode cX9_digit 27 = .ok (.aload_n 0, 1) := by decide +kernel
theorem dX9_digit_28 : decode cX9_digit 28 = .ok (.getfield 27, 3) := by decide +kernel
theorem dX9_digit_31 : decode cX9_digit 31 = .ok (.aload_n 0, 1) := by decide +kernel
theorem dX9_digit_32 : decode cX9_digit 32 = .ok (.iload_n 2, 1) := by decide +kernel
theorem dX9_digit_33 : decode cX9_digit 33 = .ok (.invokevirtual 145, 3) := by decide +kernel
theorem dX9_digit_36 : decode cX9_digit 36 = .ok (.iaload, 1) := by decide +kernel
theorem dX9_digit_37 : decode cX9_digit 37 = .ok (.ireturn, 1) := by decide +kernel
theorem dX9_rest_0 : decode cX9_rest 0 = .ok (.aload_n 0, 1) := by decide +kernel
theorem dX9_rest_1 : decode cX9_rest 1 = .ok (.iload_n 1, 1) := by decide +kernel
theorem dX9_rest_2 : decode cX9_rest 2 = .ok (.invokevirtual 126, 3) := by decide +kernel
theorem dX9_rest_5 : decode cX9_rest 5 = .ok (.ifCond .eq 15, 3) := by decide +kernel
theorem dX9_rest_8 : decode cX9_rest 8 = .ok (.iload_n 2, 1) := by decide +kernel
theorem dX9_rest_9 : decode cX9_rest 9 = .ok (.i2l, 1) := by decide +kernel
theorem dX9_rest_10 : decode cX9_rest 10 = .ok (.lconst 0, 1) := by decide +kernel
theorem dX9_rest_11 : decode cX9_rest 11 = .ok (.ldc2_w 114, 3) := by decide +kernel
theorem dX9_rest_14 : decode cX9_rest 14 = .ok (.invokestatic 92, 3) := by decide +kernel
theorem dX9_rest_17 : decode cX9_rest 17 = .ok (.ifCond .ne 5, 3) := by decide +kernel
theorem dX9_rest_20 : decode cX9_rest 20 = .ok (.iconst (-1), 1) := by decide +kernel
theorem dX9_rest_21 : decode cX9_rest 21 = .ok (.ireturn, 1) := by decide +kernel
theorem dX9_rest_22 : decode cX9_rest 22 = .ok (.aload_n 0, 1) := by decide +kernel
theorem dX9_rest_23 : decode cX9_rest 23 = .ok (.iload_n 1, 1) := by decide +kernel
theorem dX9_rest_24 : decode cX9_rest 24 = .ok (.invokevirtual 137, 3) := by decide +kernel
theorem dX9_rest_27 : decode cX9_rest 27 = .ok (.aload_n 0, 1) := by decide +kernel
theorem dX9_rest_28 : decode cX9_rest 28 = .ok (.getfield 24, 3) := by decide +kernel
theorem dX9_rest_31 : decode cX9_rest 31 = .ok (.aload_n 0, 1) := by decide +kernel
theorem dX9_rest_32 : decode cX9_rest 32 = .ok (.iload_n 2, 1) := by decide +kernel
theorem dX9_rest_33 : decode cX9_rest 33 = .ok (.invokevirtual 145, 3) := by decide +kernel
theorem dX9_rest_36 : decode cX9_rest 36 = .ok (.iaload, 1) := by decide +kernel
theorem dX9_rest_37 : decode cX9_rest 37 = .ok (.ireturn, 1) := by decide +kernel
theorem dX9_place_0 : decode cX9_place 0 = .ok (.aload_n 0, 1) := by decide +kernel
theorem dX9_place_1 : decode cX9_place 1 = .ok (.iload_n 1, 1) := by decide +kernel
theorem dX9_place_2 : decode cX9_place 2 = .ok (.invokevirtual 126, 3) := by decide +kernel
theorem dX9_place_5 : decode cX9_place 5 = .ok (.ifCond .eq 21, 3) := by decide +kernel
theorem dX9_place_8 : decode cX9_place 8 = .ok (.iload_n 2, 1) := by decide +kernel
theorem dX9_place_9 : decode cX9_place 9 = .ok (.i2l, 1) := by decide +kernel
theorem dX9_place_10 : decode cX9_place 10 = .ok (.lconst 0, 1) := by decide +kernel
theorem dX9_place_11 : decode cX9_place 11 = .ok (.aload_n 0, 1) := by decide +kernel
theorem dX9_place_12 : decode cX9_place 12 = .ok (.getfield 18, 3) := by decide +kernel
theorem dX9_place_15 : decode cX9_place 15 = .ok (.iload_n 1, 1) := by decide +kernel
theorem dX9_place_16 : decode cX9_place 16 = .ok (.iaload, 1) := by decide +kernel
theorem dX9_place_17 : decode cX9_place 17 = .ok (.iconst 1, 1) := by decide +kernel
theorem dX9_place_18 : decode cX9_place 18 = .ok (.isub, 1) := by decide +kernel
theorem dX9_place_19 : decode cX9_place 19 = .ok (.i2l, 1) := by decide +kernel
theorem dX9_place_20 : decode cX9_place 20 = .ok (.invokestatic 92, 3) := by decide +kernel
theorem dX9_place_23 : decode cX9_place 23 = .ok (.ifCond .ne 5, 3) := by decide +kernel
theorem dX9_place_26 : decode cX9_place 26 = .ok (.iconst (-1), 1) := by decide +kernel
theorem dX9_place_27 : decode cX9_place 27 = .ok (.ireturn, 1) := by decide +kernel
theorem dX9_place_28 : decode cX9_place 28 = .ok (.aload_n 0, 1) := by decide +kernel
theorem dX9_place_29 : decode cX9_place 29 = .ok (.iload_n 1, 1) := by decide +kernel
theorem dX9_place_30 : decode cX9_place 30 = .ok (.invokevirtual 137, 3) := by decide +kernel
theorem dX9_place_33 : decode cX9_place 33 = .ok (.iconst 0, 1) := by decide +kernel
theorem dX9_place_34 : decode cX9_place 34 = .ok (.istore_n 3, 1) := by decide +kernel
theorem dX9_place_35 : decode cX9_place 35 = .ok (.iload_n 3, 1) := by decide +kernel
theorem dX9_place_36 : decode cX9_place 36 = .ok (.aload_n 0, 1) := by decide +kernel
theorem dX9_place_37 : decode cX9_place 37 = .ok (.getfield 100, 3) := by decide +kernel
theorem dX9_place_40 : decode cX9_place 40 = .ok (.aload_n 0, 1) := by decide +kernel
theorem dX9_place_41 : decode cX9_place 41 = .ok (.getfield 103, 3) := by decide +kernel
theorem dX9_place_44 : decode cX9_place 44 = .ok (.iadd, 1) := by decide +kernel
theorem dX9_place_45 : decode cX9_place 45 = .ok (.if_icmp .ge 21, 3) := by decide +kernel
theorem dX9_place_48 : decode cX9_place 48 = .ok (.aload_n 0, 1) := by decide +kernel
theorem dX9_place_49 : decode cX9_place 49 = .ok (.getfield 27, 3) := by decide +kernel
theorem dX9_place_52 : decode cX9_place 52 = .ok (.iload_n 3, 1) := by decide +kernel
theorem dX9_place_53 : decode cX9_place 53 = .ok (.iaload, 1) := by decide +kernel
theorem dX9_place_54 : decode cX9_place 54 = .ok (.iload_n 2, 1) := by decide +kernel
theorem dX9_place_55 : decode cX9_place 55 = .ok (.if_icmp .ne 5, 3) := by decide +kernel
theorem dX9_place_58 : decode cX9_place 58 = .ok (.iload_n 3, 1) := by decide +kernel
theorem dX9_place_59 : decode cX9_place 59 = .ok (.ireturn, 1) := by decide +kernel
theorem dX9_place_60 : decode cX9_place 60 = .ok (.iinc 3 1, 3) := by decide +kernel
theorem dX9_place_63 : decode cX9_place 63 = .ok (.goto (-28), 3) := by decide +kernel
theorem dX9_place_66 : decode cX9_place 66 = .ok (.bipush (-2), 2) := by decide +kernel
theorem dX9_place_68 : decode cX9_place 68 = .ok (.ireturn, 1) := by decide +kernel
theorem dX9_isParted_0 : decode cX9_isParted 0 = .ok (.iload_n 1, 1) := by decide +kernel
theorem dX9_isParted_1 : decode cX9_isParted 1 = .ok (.i2l, 1) := by decide +kernel
theorem dX9_isParted_2 : decode cX9_isParted 2 = .ok (.lconst 1, 1) := by decide +kernel
theorem dX9_isParted_3 : decode cX9_isParted 3 = .ok (.aload_n 0, 1) := by decide +kernel
theorem dX9_isParted_4 : decode cX9_isParted 4 = .ok (.getfield 103, 3) := by decide +kernel
theorem dX9_isParted_7 : decode cX9_isParted 7 = .ok (.i2l, 1) := by decide +kernel
theorem dX9_isParted_8 : decode cX9_isParted 8 = .ok (.invokestatic 92, 3) := by decide +kernel
theorem dX9_isParted_11 : decode cX9_isParted 11 = .ok (.ifCond .eq 16, 3) := by decide +kernel
theorem dX9_isParted_14 : decode cX9_isParted 14 = .ok (.aload_n 0, 1) := by decide +kernel
theorem dX9_isParted_15 : decode cX9_isParted 15 = .ok (.getfield 103, 3) := by decide +kernel
theorem dX9_isParted_18 : decode cX9_isParted 18 = .ok (.iload_n 1, 1) := by decide +kernel
theorem dX9_isParted_19 : decode cX9_isParted 19 = .ok (.irem, 1) := by decide +kernel
theorem dX9_isParted_20 : decode cX9_isParted 20 = .ok (.ifCond .ne 7, 3) := by decide +kernel
theorem dX9_isParted_23 : decode cX9_isParted 23 = .ok (.iconst 1, 1) := by decide +kernel
theorem dX9_isParted_24 : decode cX9_isParted 24 = .ok (.goto 4, 3) := by decide +kernel
theorem dX9_isParted_27 : decode cX9_isParted 27 = .ok (.iconst 0, 1) := by decide +kernel
theorem dX9_isParted_28 : decode cX9_isParted 28 = .ok (.ireturn, 1) := by decide +kernel
theorem dX9_blocks_0 : decode cX9_blocks 0 = .ok (.aload_n 0, 1) := by decide +kernel
theorem dX9_blocks_1 : decode cX9_blocks 1 = .ok (.getfield 103, 3) := by decide +kernel
theorem dX9_blocks_4 : decode cX9_blocks 4 = .ok (.iload_n 1, 1) := by decide +kernel
theorem dX9_blocks_5 : decode cX9_blocks 5 = .ok (.idiv, 1) := by decide +kernel
theorem dX9_blocks_6 : decode cX9_blocks 6 = .ok (.istore_n 3, 1) := by decide +kernel
theorem dX9_blocks_7 : decode cX9_blocks 7 = .ok (.iconst 0, 1) := by decide +kernel
theorem dX9_blocks_8 : decode cX9_blocks 8 = .ok (.istore 4, 2) := by decide +kernel
theorem dX9_blocks_10 : decode cX9_blocks 10 = .ok (.iconst 0, 1) := by decide +kernel
theorem dX9_blocks_11 : decode cX9_blocks 11 = .ok (.istore 5, 2) := by decide +kernel
theorem dX9_blocks_13 : decode cX9_blocks 13 = .ok (.iload 5, 2) := by decide +kernel
theorem dX9_blocks_15 : decode cX9_blocks 15 = .ok (.iload_n 3, 1) := by decide +kernel
theorem dX9_blocks_16 : decode cX9_blocks 16 = .ok (.if_icmp .ge 71, 3) := by decide +kernel
theorem dX9_blocks_19 : decode cX9_blocks 19 = .ok (.iload 4, 2) := by decide +kernel
theorem dX9_blocks_21 : decode cX9_blocks 21 = .ok (.istore 6, 2) := by decide +kernel
theorem dX9_blocks_23 : decode cX9_blocks 23 = .ok (.iconst 0, 1) := by decide +kernel
theorem dX9_blocks_24 : decode cX9_blocks 24 = .ok (.istore 7, 2) := by decide +kernel
theorem dX9_blocks_26 : decode cX9_blocks 26 = .ok (.iload 7, 2) := by decide +kernel
theorem dX9_blocks_28 : decode cX9_blocks 28 = .ok (.iload_n 1, 1) := by decide +kernel
theorem dX9_blocks_29 : decode cX9_blocks 29 = .ok (.if_icmp .ge 35, 3) := by decide +kernel
theorem dX9_blocks_32 : decode cX9_blocks 32 = .ok (.iload 6, 2) := by decide +kernel
theorem dX9_blocks_34 : decode cX9_blocks 34 = .ok (.aload_n 0, 1) := by decide +kernel
theorem dX9_blocks_35 : decode cX9_blocks 35 = .ok (.getfield 27, 3) := by decide +kernel
theorem dX9_blocks_38 : decode cX9_blocks 38 = .ok (.aload_n 0, 1) := by decide +kernel
theorem dX9_blocks_39 : decode cX9_blocks 39 = .ok (.getfield 100, 3) := by decide +kernel
theorem dX9_blocks_42 : decode cX9_blocks 42 = .ok (.iload_n 3, 1) := by decide +kernel
theorem dX9_blocks_43 : decode cX9_blocks 43 = .ok (.iload 7, 2) := by decide +kernel
theorem dX9_blocks_45 : decode cX9_blocks 45 = .ok (.imul, 1) := by decide +kernel
theorem dX9_blocks_46 : decode cX9_blocks 46 = .ok (.iadd, 1) := by decide +kernel
theorem dX9_blocks_47 : decode cX9_blocks 47 = .ok (.iload_n 3, 1) := by decide +kernel
theorem dX9_blocks_48 : decode cX9_blocks 48 = .ok (.iadd, 1) := by decide +kernel
theorem dX9_blocks_49 : decode cX9_blocks 49 = .ok (.iconst 1, 1) := by decide +kernel
theorem dX9_blocks_50 : decode cX9_blocks 50 = .ok (.isub, 1) := by decide +kernel
theorem dX9_blocks_51 : decode cX9_blocks 51 = .ok (.iload 5, 2) := by decide +kernel
theorem dX9_blocks_53 : decode cX9_blocks 53 = .ok (.isub, 1) := by decide +kernel
theorem dX9_blocks_54 : decode cX9_blocks 54 = .ok (.iaload, 1) := by decide +kernel
theorem dX9_blocks_55 : decode cX9_blocks 55 = .ok (.iadd, 1) := by decide +kernel
theorem dX9_blocks_56 : decode cX9_blocks 56 = .ok (.istore 6, 2) := by decide +kernel
theorem dX9_blocks_58 : decode cX9_blocks 58 = .ok (.iinc 7 1, 3) := by decide +kernel
theorem dX9_blocks_61 : decode cX9_blocks 61 = .ok (.goto (-35), 3) := by decide +kernel
theorem dX9_blocks_64 : decode cX9_blocks 64 = .ok (.aload_n 0, 1) := by decide +kernel
theorem dX9_blocks_65 : decode cX9_blocks 65 = .ok (.getfield 30, 3) := by decide +kernel
theorem dX9_blocks_68 : decode cX9_blocks 68 = .ok (.iload 5, 2) := by decide +kernel
theorem dX9_blocks_70 : decode cX9_blocks 70 = .ok (.iload 6, 2) := by decide +kernel
theorem dX9_blocks_72 : decode cX9_blocks 72 = .ok (.iload_n 2, 1) := by decide +kernel
theorem dX9_blocks_73 : decode cX9_blocks 73 = .ok (.irem, 1) := by decide +kernel
theorem dX9_blocks_74 : decode cX9_blocks 74 = .ok (.iastore, 1) := by decide +kernel
theorem dX9_blocks_75 : decode cX9_blocks 75 = .ok (.iload 6, 2) := by decide +kernel
theorem dX9_blocks_77 : decode cX9_blocks 77 = .ok (.iload_n 2, 1) := by decide +kernel
theorem dX9_blocks_78 : decode cX9_blocks 78 = .ok (.idiv, 1) := by decide +kernel
theorem dX9_blocks_79 : decode cX9_blocks 79 = .ok (.istore 4, 2) := by decide +kernel
theorem dX9_blocks_81 : decode cX9_blocks 81 = .ok (.iinc 5 1, 3) := by decide +kernel
theorem dX9_blocks_84 : decode cX9_blocks 84 = .ok (.goto (-71), 3) := by decide +kernel
theorem dX9_blocks_87 : decode cX9_blocks 87 = .ok (.aload_n 0, 1) := by decide +kernel
theorem dX9_blocks_88 : decode cX9_blocks 88 = .ok (.iload 4, 2) := by decide +kernel
theorem dX9_blocks_90 : decode cX9_blocks 90 = .ok (.putfield 149, 3) := by decide +kernel
theorem dX9_blocks_93 : decode cX9_blocks 93 = .ok (.return_, 1) := by decide +kernel
theorem dX9_block_0 : decode cX9_block 0 = .ok (.aload_n 0, 1) := by decide +kernel
theorem dX9_block_1 : decode cX9_block 1 = .ok (.iload_n 1, 1) := by decide +kernel
theorem dX9_block_2 : decode cX9_block 2 = .ok (.invokevirtual 126, 3) := by decide +kernel
theorem dX9_block_5 : decode cX9_block 5 = .ok (.ifCond .ne 5, 3) := by decide +kernel
theorem dX9_block_8 : decode cX9_block 8 = .ok (.iconst (-1), 1) := by decide +kernel
theorem dX9_block_9 : decode cX9_block 9 = .ok (.ireturn, 1) := by decide +kernel
theorem dX9_block_10 : decode cX9_block 10 = .ok (.aload_n 0, 1) := by decide +kernel
theorem dX9_block_11 : decode cX9_block 11 = .ok (.iload_n 1, 1) := by decide +kernel
theorem dX9_block_12 : decode cX9_block 12 = .ok (.invokevirtual 137, 3) := by decide +kernel
theorem dX9_block_15 : decode cX9_block 15 = .ok (.aload_n 0, 1) := by decide +kernel
theorem dX9_block_16 : decode cX9_block 16 = .ok (.iload_n 2, 1) := by decide +kernel
theorem dX9_block_17 : decode cX9_block 17 = .ok (.invokevirtual 152, 3) := by decide +kernel
theorem dX9_block_20 : decode cX9_block 20 = .ok (.ifCond .eq 23, 3) := by decide +kernel
theorem dX9_block_23 : decode cX9_block 23 = .ok (.iload_n 3, 1) := by decide +kernel
theorem dX9_block_24 : decode cX9_block 24 = .ok (.i2l, 1) := by decide +kernel
theorem dX9_block_25 : decode cX9_block 25 = .ok (.ldc2_w 155, 3) := by decide +kernel
theorem dX9_block_28 : decode cX9_block 28 = .ok (.aload_n 0, 1) := by decide +kernel
theorem dX9_block_29 : decode cX9_block 29 = .ok (.getfield 103, 3) := by decide +kernel
theorem dX9_block_32 : decode cX9_block 32 = .ok (.iload_n 2, 1) := by decide +kernel
theorem dX9_block_33 : decode cX9_block 33 = .ok (.idiv, 1) := by decide +kernel
theorem dX9_block_34 : decode cX9_block 34 = .ok (.iconst 1, 1) := by decide +kernel
theorem dX9_block_35 : decode cX9_block 35 = .ok (.isub, 1) := by decide +kernel
theorem dX9_block_36 : decode cX9_block 36 = .ok (.i2l, 1) := by decide +kernel
theorem dX9_block_37 : decode cX9_block 37 = .ok (.invokestatic 92, 3) := by decide +kernel
theorem dX9_block_40 : decode cX9_block 40 = .ok (.ifCond .ne 5, 3) := by decide +kernel
theorem dX9_block_43 : decode cX9_block 43 = .ok (.iconst (-1), 1) := by decide +kernel
theorem dX9_block_44 : decode cX9_block 44 = .ok (.ireturn, 1) := by decide +kernel
theorem dX9_block_45 : decode cX9_block 45 = .ok (.aload_n 0, 1) := by decide +kernel
theorem dX9_block_46 : decode cX9_block 46 = .ok (.iload_n 2, 1) := by decide +kernel
theorem dX9_block_47 : decode cX9_block 47 = .ok (.aload_n 0, 1) := by decide +kernel
theorem dX9_block_48 : decode cX9_block 48 = .ok (.getfield 18, 3) := by decide +kernel
theorem dX9_block_51 : decode cX9_block 51 = .ok (.iload_n 1, 1) := by decide +kernel
theorem dX9_block_52 : decode cX9_block 52 = .ok (.iaload, 1) := by decide +kernel
theorem dX9_block_53 : decode cX9_block 53 = .ok (.invokevirtual 157, 3) := by decide +kernel
theorem dX9_block_56 : decode cX9_block 56 = .ok (.iload_n 3, 1) := by decide +kernel
theorem dX9_block_57 : decode cX9_block 57 = .ok (.iconst (-1), 1) := by decide +kernel
theorem dX9_block_58 : decode cX9_block 58 = .ok (.if_icmp .ne 10, 3) := by decide +kernel
theorem dX9_block_61 : decode cX9_block 61 = .ok (.aload_n 0, 1) := by decide +kernel
theorem dX9_block_62 : decode cX9_block 62 = .ok (.getfield 149, 3) := by decide +kernel
theorem dX9_block_65 : decode cX9_block 65 = .ok (.goto 9, 3) := by decide +kernel
theorem dX9_block_68 : decode cX9_block 68 = .ok (.aload_n 0, 1) := by decide +kernel
theorem dX9_block_69 : decode cX9_block 69 = .ok (.getfield 30, 3) := by decide +kernel
theorem dX9_block_72 : decode cX9_block 72 = .ok (.iload_n 3, 1) := by decide +kernel
theorem dX9_block_73 : decode cX9_block 73 = .ok (.iaload, 1) := by decide +kernel
theorem dX9_block_74 : decode cX9_block 74 = .ok (.ireturn, 1) := by decide +kernel
theorem dX9_smallNines_0 : decode cX9_smallNines 0 = .ok (.lconst 0, 1) := by decide +kernel
theorem dX9_smallNines_1 : decode cX9_smallNines 1 = .ok (.lstore 5, 2) := by decide +kernel
theorem dX9_smallNines_3 : decode cX9_smallNines 3 = .ok (.iload_n 1, 1) := by decide +kernel
theorem dX9_smallNines_4 : decode cX9_smallNines 4 = .ok (.iconst 1, 1) := by decide +kernel
theorem dX9_smallNines_5 : decode cX9_smallNines 5 = .ok (.isub, 1) := by decide +kernel
theorem dX9_smallNines_6 : decode cX9_smallNines 6 = .ok (.istore 7, 2) := by decide +kernel
theorem dX9_smallNines_8 : decode cX9_smallNines 8 = .ok (.iload 7, 2) := by decide +kernel
theorem dX9_smallNines_10 : decode cX9_smallNines 10 = .ok (.ifCond .lt 25, 3) := by decide +kernel
theorem dX9_smallNines_13 : decode cX9_smallNines 13 = .ok (.lload 5, 2) := by decide +kernel
theorem dX9_smallNines_15 : decode cX9_smallNines 15 = .ok (.iload_n 2, 1) := by decide +kernel
theorem dX9_smallNines_16 : decode cX9_smallNines 16 = .ok (.i2l, 1) := by decide +kernel
theorem dX9_smallNines_17 : decode cX9_smallNines 17 = .ok (.lmul, 1) := by decide +kernel
theorem dX9_smallNines_18 : decode cX9_smallNines 18 = .ok (.aload_n 0, 1) := by decide +kernel
theorem dX9_smallNines_19 : decode cX9_smallNines 19 = .ok (.getfield 30, 3) := by decide +kernel
theorem dX9_smallNines_22 : decode cX9_smallNines 22 = .ok (.iload 7, 2) := by decide +kernel
theorem dX9_smallNines_24 : decode cX9_smallNines 24 = .ok (.iaload, 1) := by decide +kernel
theorem dX9_smallNines_25 : decode cX9_smallNines 25 = .ok (.i2l, 1) := by decide +kernel
theorem dX9_smallNines_26 : decode cX9_smallNines 26 = .ok (.ladd, 1) := by decide +kernel
theorem dX9_smallNines_27 : decode cX9_smallNines 27 = .ok (.lstore 5, 2) := by decide +kernel
theorem dX9_smallNines_29 : decode cX9_smallNines 29 = .ok (.iinc 7 (-1), 3) := by decide +kernel
theorem dX9_smallNines_32 : decode cX9_smallNines 32 = .ok (.goto (-24), 3) := by decide +kernel
theorem dX9_smallNines_35 : decode cX9_smallNines 35 = .ok (.lload 5, 2) := by decide +kernel
theorem dX9_smallNines_37 : decode cX9_smallNines 37 = .ok (.aload_n 0, 1) := by decide +kernel
theorem dX9_smallNines_38 : decode cX9_smallNines 38 = .ok (.getfield 149, 3) := by decide +kernel
theorem dX9_smallNines_41 : decode cX9_smallNines 41 = .ok (.i2l, 1) := by decide +kernel
theorem dX9_smallNines_42 : decode cX9_smallNines 42 = .ok (.lload_n 3, 1) := by decide +kernel
theorem dX9_smallNines_43 : decode cX9_smallNines 43 = .ok (.lconst 1, 1) := by decide +kernel
theorem dX9_smallNines_44 : decode cX9_smallNines 44 = .ok (.ladd, 1) := by decide +kernel
theorem dX9_smallNines_45 : decode cX9_smallNines 45 = .ok (.lmul, 1) := by decide +kernel
theorem dX9_smallNines_46 : decode cX9_smallNines 46 = .ok (.ladd, 1) := by decide +kernel
theorem dX9_smallNines_47 : decode cX9_smallNines 47 = .ok (.lstore 5, 2) := by decide +kernel
theorem dX9_smallNines_49 : decode cX9_smallNines 49 = .ok (.lload 5, 2) := by decide +kernel
theorem dX9_smallNines_51 : decode cX9_smallNines 51 = .ok (.lload_n 3, 1) := by decide +kernel
theorem dX9_smallNines_52 : decode cX9_smallNines 52 = .ok (.lrem, 1) := by decide +kernel
theorem dX9_smallNines_53 : decode cX9_smallNines 53 = .ok (.lconst 0, 1) := by decide +kernel
theorem dX9_smallNines_54 : decode cX9_smallNines 54 = .ok (.lcmp, 1) := by decide +kernel
theorem dX9_smallNines_55 : decode cX9_smallNines 55 = .ok (.ifCond .ne 11, 3) := by decide +kernel
theorem dX9_smallNines_58 : decode cX9_smallNines 58 = .ok (.lload 5, 2) := by decide +kernel
theorem dX9_smallNines_60 : decode cX9_smallNines 60 = .ok (.lload_n 3, 1) := by decide +kernel
theorem dX9_smallNines_61 : decode cX9_smallNines 61 = .ok (.ldiv, 1) := by decide +kernel
theorem dX9_smallNines_62 : decode cX9_smallNines 62 = .ok (.l2i, 1) := by decide +kernel
theorem dX9_smallNines_63 : decode cX9_smallNines 63 = .ok (.goto 5, 3) := by decide +kernel
theorem dX9_smallNines_66 : decode cX9_smallNines 66 = .ok (.bipush (-2), 2) := by decide +kernel
theorem dX9_smallNines_68 : decode cX9_smallNines 68 = .ok (.ireturn, 1) := by decide +kernel
theorem dX9_greatNines_0 : decode cX9_greatNines 0 = .ok (.aload_n 0, 1) := by decide +kernel
theorem dX9_greatNines_1 : decode cX9_greatNines 1 = .ok (.getfield 149, 3) := by decide +kernel
theorem dX9_greatNines_4 : decode cX9_greatNines 4 = .ok (.istore_n 3, 1) := by decide +kernel
theorem dX9_greatNines_5 : decode cX9_greatNines 5 = .ok (.aload_n 0, 1) := by decide +kernel
theorem dX9_greatNines_6 : decode cX9_greatNines 6 = .ok (.getfield 149, 3) := by decide +kernel
theorem dX9_greatNines_9 : decode cX9_greatNines 9 = .ok (.ifCond .ne 7, 3) := by decide +kernel
theorem dX9_greatNines_12 : decode cX9_greatNines 12 = .ok (.iconst 1, 1) := by decide +kernel
theorem dX9_greatNines_13 : decode cX9_greatNines 13 = .ok (.goto 4, 3) := by decide +kernel
theorem dX9_greatNines_16 : decode cX9_greatNines 16 = .ok (.iconst 0, 1) := by decide +kernel
theorem dX9_greatNines_17 : decode cX9_greatNines 17 = .ok (.istore 4, 2) := by decide +kernel
theorem dX9_greatNines_19 : decode cX9_greatNines 19 = .ok (.iconst 1, 1) := by decide +kernel
theorem dX9_greatNines_20 : decode cX9_greatNines 20 = .ok (.istore 5, 2) := by decide +kernel
theorem dX9_greatNines_22 : decode cX9_greatNines 22 = .ok (.iconst 0, 1) := by decide +kernel
theorem dX9_greatNines_23 : decode cX9_greatNines 23 = .ok (.istore 6, 2) := by decide +kernel
theorem dX9_greatNines_25 : decode cX9_greatNines 25 = .ok (.iload 6, 2) := by decide +kernel
theorem dX9_greatNines_27 : decode cX9_greatNines 27 = .ok (.iload_n 1, 1) := by decide +kernel
theorem dX9_greatNines_28 : decode cX9_greatNines 28 = .ok (.if_icmp .ge 69, 3) := by decide +kernel
theorem dX9_greatNines_31 : decode cX9_greatNines 31 = .ok (.iload 4, 2) := by decide +kernel
theorem dX9_greatNines_33 : decode cX9_greatNines 33 = .ok (.ifCond .eq 17, 3) := by decide +kernel
theorem dX9_greatNines_36 : decode cX9_greatNines 36 = .ok (.aload_n 0, 1) := by decide +kernel
theorem dX9_greatNines_37 : decode cX9_greatNines 37 = .ok (.getfield 30, 3) := by decide +kernel
theorem dX9_greatNines_40 : decode cX9_greatNines 40 = .ok (.iload 6, 2) := by decide +kernel
theorem dX9_greatNines_42 : decode cX9_greatNines 42 = .ok (.iaload, 1) := by decide +kernel
theorem dX9_greatNines_43 : decode cX9_greatNines 43 = .ok (.ifCond .ne 7, 3) := by decide +kernel
theorem dX9_greatNines_46 : decode cX9_greatNines 46 = .ok (.iconst 1, 1) := by decide +kernel
theorem dX9_greatNines_47 : decode cX9_greatNines 47 = .ok (.goto 4, 3) := by decide +kernel
theorem dX9_greatNines_50 : decode cX9_greatNines 50 = .ok (.iconst 0, 1) := by decide +kernel
theorem dX9_greatNines_51 : decode cX9_greatNines 51 = .ok (.istore 4, 2) := by decide +kernel
theorem dX9_greatNines_53 : decode cX9_greatNines 53 = .ok (.aload_n 0, 1) := by decide +kernel
theorem dX9_greatNines_54 : decode cX9_greatNines 54 = .ok (.getfield 30, 3) := by decide +kernel
theorem dX9_greatNines_57 : decode cX9_greatNines 57 = .ok (.iload 6, 2) := by decide +kernel
theorem dX9_greatNines_59 : decode cX9_greatNines 59 = .ok (.iaload, 1) := by decide +kernel
theorem dX9_greatNines_60 : decode cX9_greatNines 60 = .ok (.iload_n 3, 1) := by decide +kernel
theorem dX9_greatNines_61 : decode cX9_greatNines 61 = .ok (.iadd, 1) := by decide +kernel
theorem dX9_greatNines_62 : decode cX9_greatNines 62 = .ok (.istore 7, 2) := by decide +kernel
theorem dX9_greatNines_64 : decode cX9_greatNines 64 = .ok (.iload 7, 2) := by decide +kernel
theorem dX9_greatNines_66 : decode cX9_greatNines 66 = .ok (.iload_n 2, 1) := by decide +kernel
theorem dX9_greatNines_67 : decode cX9_greatNines 67 = .ok (.idiv, 1) := by decide +kernel
theorem dX9_greatNines_68 : decode cX9_greatNines 68 = .ok (.istore_n 3, 1) := by decide +kernel
theorem dX9_greatNines_69 : decode cX9_greatNines 69 = .ok (.iload 5, 2) := by decide +kernel
theorem dX9_greatNines_71 : decode cX9_greatNines 71 = .ok (.ifCond .eq 17, 3) := by decide +kernel
theorem dX9_greatNines_74 : decode cX9_greatNines 74 = .ok (.iload 7, 2) := by decide +kernel
theorem dX9_greatNines_76 : decode cX9_greatNines 76 = .ok (.iload_n 2, 1) := by decide +kernel
theorem dX9_greatNines_77 : decode cX9_greatNines 77 = .ok (.irem, 1) := by decide +kernel
theorem dX9_greatNines_78 : decode cX9_greatNines 78 = .ok (.iload_n 2, 1) := by decide +kernel
theorem dX9_greatNines_79 : decode cX9_greatNines 79 = .ok (.iconst 1, 1) := by decide +kernel
theorem dX9_greatNines_80 : decode cX9_greatNines 80 = .ok (.isub, 1) := by decide +kernel
theorem dX9_greatNines_81 : decode cX9_greatNines 81 = .ok (.if_icmp .ne 7, 3) := by decide +kernel
theorem dX9_greatNines_84 : decode cX9_greatNines 84 = .ok (.iconst 1, 1) := by decide +kernel
theorem dX9_greatNines_85 : decode cX9_greatNines 85 = .ok (.goto 4, 3) := by decide +kernel
theorem dX9_greatNines_88 : decode cX9_greatNines 88 = .ok (.iconst 0, 1) := by decide +kernel
theorem dX9_greatNines_89 : decode cX9_greatNines 89 = .ok (.istore 5, 2) := by decide +kernel
theorem dX9_greatNines_91 : decode cX9_greatNines 91 = .ok (.iinc 6 1, 3) := by decide +kernel
theorem dX9_greatNines_94 : decode cX9_greatNines 94 = .ok (.goto (-69), 3) := by decide +kernel
theorem dX9_greatNines_97 : decode cX9_greatNines 97 = .ok (.iload 4, 2) := by decide +kernel
theorem dX9_greatNines_99 : decode cX9_greatNines 99 = .ok (.ifCond .eq 7, 3) := by decide +kernel
theorem dX9_greatNines_102 : decode cX9_greatNines 102 = .ok (.iconst 0, 1) := by decide +kernel
theorem dX9_greatNines_103 : decode cX9_greatNines 103 = .ok (.goto 23, 3) := by decide +kernel
theorem dX9_greatNines_106 : decode cX9_greatNines 106 = .ok (.iload 5, 2) := by decide +kernel
theorem dX9_greatNines_108 : decode cX9_greatNines 108 = .ok (.ifCond .eq 16, 3) := by decide +kernel
theorem dX9_greatNines_111 : decode cX9_greatNines 111 = .ok (.iload_n 3, 1) := by decide +kernel
theorem dX9_greatNines_112 : decode cX9_greatNines 112 = .ok (.ifCond .ne 12, 3) := by decide +kernel
theorem dX9_greatNines_115 : decode cX9_greatNines 115 = .ok (.aload_n 0, 1) := by decide +kernel
theorem dX9_greatNines_116 : decode cX9_greatNines 116 = .ok (.getfield 149, 3) := by decide +kernel
theorem dX9_greatNines_119 : decode cX9_greatNines 119 = .ok (.iconst 1, 1) := by decide +kernel
theorem dX9_greatNines_120 : decode cX9_greatNines 120 = .ok (.iadd, 1) := by decide +kernel
theorem dX9_greatNines_121 : decode cX9_greatNines 121 = .ok (.goto 5, 3) := by decide +kernel
theorem dX9_greatNines_124 : decode cX9_greatNines 124 = .ok (.bipush (-2), 2) := by decide +kernel
theorem dX9_greatNines_126 : decode cX9_greatNines 126 = .ok (.ireturn, 1) := by decide +kernel
theorem dX9_ninesNow_0 : decode cX9_ninesNow 0 = .ok (.aload_n 0, 1) := by decide +kernel
theorem dX9_ninesNow_1 : decode cX9_ninesNow 1 = .ok (.iload_n 1, 1) := by decide +kernel
theorem dX9_ninesNow_2 : decode cX9_ninesNow 2 = .ok (.iload_n 2, 1) := by decide +kernel
theorem dX9_ninesNow_3 : decode cX9_ninesNow 3 = .ok (.invokevirtual 157, 3) := by decide +kernel
theorem dX9_ninesNow_6 : decode cX9_ninesNow 6 = .ok (.aload_n 0, 1) := by decide +kernel
theorem dX9_ninesNow_7 : decode cX9_ninesNow 7 = .ok (.getfield 103, 3) := by decide +kernel
theorem dX9_ninesNow_10 : decode cX9_ninesNow 10 = .ok (.iload_n 1, 1) := by decide +kernel
theorem dX9_ninesNow_11 : decode cX9_ninesNow 11 = .ok (.idiv, 1) := by decide +kernel
theorem dX9_ninesNow_12 : decode cX9_ninesNow 12 = .ok (.istore_n 3, 1) := by decide +kernel
theorem dX9_ninesNow_13 : decode cX9_ninesNow 13 = .ok (.lconst 1, 1) := by decide +kernel
theorem dX9_ninesNow_14 : decode cX9_ninesNow 14 = .ok (.lstore 4, 2) := by decide +kernel
theorem dX9_ninesNow_16 : decode cX9_ninesNow 16 = .ok (.iconst 0, 1) := by decide +kernel
theorem dX9_ninesNow_17 : decode cX9_ninesNow 17 = .ok (.istore 6, 2) := by decide +kernel
theorem dX9_ninesNow_19 : decode cX9_ninesNow 19 = .ok (.iload 6, 2) := by decide +kernel
theorem dX9_ninesNow_21 : decode cX9_ninesNow 21 = .ok (.iload_n 3, 1) := by decide +kernel
theorem dX9_ninesNow_22 : decode cX9_ninesNow 22 = .ok (.if_icmp .ge 25, 3) := by decide +kernel
theorem dX9_ninesNow_25 : decode cX9_ninesNow 25 = .ok (.lload 4, 2) := by decide +kernel
theorem dX9_ninesNow_27 : decode cX9_ninesNow 27 = .ok (.ldc2_w 161, 3) := by decide +kernel
theorem dX9_ninesNow_30 : decode cX9_ninesNow 30 = .ok (.lcmp, 1) := by decide +kernel
theorem dX9_ninesNow_31 : decode cX9_ninesNow 31 = .ok (.ifCond .ge 16, 3) := by decide +kernel
theorem dX9_ninesNow_34 : decode cX9_ninesNow 34 = .ok (.lload 4, 2) := by decide +kernel
theorem dX9_ninesNow_36 : decode cX9_ninesNow 36 = .ok (.iload_n 2, 1) := by decide +kernel
theorem dX9_ninesNow_37 : decode cX9_ninesNow 37 = .ok (.i2l, 1) := by decide +kernel
theorem dX9_ninesNow_38 : decode cX9_ninesNow 38 = .ok (.lmul, 1) := by decide +kernel
theorem dX9_ninesNow_39 : decode cX9_ninesNow 39 = .ok (.lstore 4, 2) := by decide +kernel
theorem dX9_ninesNow_41 : decode cX9_ninesNow 41 = .ok (.iinc 6 1, 3) := by decide +kernel
theorem dX9_ninesNow_44 : decode cX9_ninesNow 44 = .ok (.goto (-25), 3) := by decide +kernel
theorem dX9_ninesNow_47 : decode cX9_ninesNow 47 = .ok (.lload 4, 2) := by decide +kernel
theorem dX9_ninesNow_49 : decode cX9_ninesNow 49 = .ok (.ldc2_w 161, 3) := by decide +kernel
theorem dX9_ninesNow_52 : decode cX9_ninesNow 52 = .ok (.lcmp, 1) := by decide +kernel
theorem dX9_ninesNow_53 : decode cX9_ninesNow 53 = .ok (.ifCond .ge 16, 3) := by decide +kernel
theorem dX9_ninesNow_56 : decode cX9_ninesNow 56 = .ok (.aload_n 0, 1) := by decide +kernel
theorem dX9_ninesNow_57 : decode cX9_ninesNow 57 = .ok (.iload_n 3, 1) := by decide +kernel
theorem dX9_ninesNow_58 : decode cX9_ninesNow 58 = .ok (.iload_n 2, 1) := by decide +kernel
theorem dX9_ninesNow_59 : decode cX9_ninesNow 59 = .ok (.lload 4, 2) := by decide +kernel
theorem dX9_ninesNow_61 : decode cX9_ninesNow 61 = .ok (.lconst 1, 1) := by decide +kernel
theorem dX9_ninesNow_62 : decode cX9_ninesNow 62 = .ok (.lsub, 1) := by decide +kernel
theorem dX9_ninesNow_63 : decode cX9_ninesNow 63 = .ok (.invokevirtual 163, 3) := by decide +kernel
theorem dX9_ninesNow_66 : decode cX9_ninesNow 66 = .ok (.goto 9, 3) := by decide +kernel
theorem dX9_ninesNow_69 : decode cX9_ninesNow 69 = .ok (.aload_n 0, 1) := by decide +kernel
theorem dX9_ninesNow_70 : decode cX9_ninesNow 70 = .ok (.iload_n 3, 1) := by decide +kernel
theorem dX9_ninesNow_71 : decode cX9_ninesNow 71 = .ok (.iload_n 2, 1) := by decide +kernel
theorem dX9_ninesNow_72 : decode cX9_ninesNow 72 = .ok (.invokevirtual 167, 3) := by decide +kernel
theorem dX9_ninesNow_75 : decode cX9_ninesNow 75 = .ok (.ireturn, 1) := by decide +kernel
theorem dX9_nines_0 : decode cX9_nines 0 = .ok (.aload_n 0, 1) := by decide +kernel
theorem dX9_nines_1 : decode cX9_nines 1 = .ok (.iload_n 1, 1) := by decide +kernel
theorem dX9_nines_2 : decode cX9_nines 2 = .ok (.invokevirtual 126, 3) := by decide +kernel
theorem dX9_nines_5 : decode cX9_nines 5 = .ok (.ifCond .ne 5, 3) := by decide +kernel
theorem dX9_nines_8 : decode cX9_nines 8 = .ok (.iconst (-1), 1) := by decide +kernel
theorem dX9_nines_9 : decode cX9_nines 9 = .ok (.ireturn, 1) := by decide +kernel
theorem dX9_nines_10 : decode cX9_nines 10 = .ok (.aload_n 0, 1) := by decide +kernel
theorem dX9_nines_11 : decode cX9_nines 11 = .ok (.iload_n 1, 1) := by decide +kernel
theorem dX9_nines_12 : decode cX9_nines 12 = .ok (.invokevirtual 137, 3) := by decide +kernel
theorem dX9_nines_15 : decode cX9_nines 15 = .ok (.aload_n 0, 1) := by decide +kernel
theorem dX9_nines_16 : decode cX9_nines 16 = .ok (.iload_n 2, 1) := by decide +kernel
theorem dX9_nines_17 : decode cX9_nines 17 = .ok (.invokevirtual 152, 3) := by decide +kernel
theorem dX9_nines_20 : decode cX9_nines 20 = .ok (.ifCond .eq 17, 3) := by decide +kernel
theorem dX9_nines_23 : decode cX9_nines 23 = .ok (.aload_n 0, 1) := by decide +kernel
theorem dX9_nines_24 : decode cX9_nines 24 = .ok (.iload_n 2, 1) := by decide +kernel
theorem dX9_nines_25 : decode cX9_nines 25 = .ok (.aload_n 0, 1) := by decide +kernel
theorem dX9_nines_26 : decode cX9_nines 26 = .ok (.getfield 18, 3) := by decide +kernel
theorem dX9_nines_29 : decode cX9_nines 29 = .ok (.iload_n 1, 1) := by decide +kernel
theorem dX9_nines_30 : decode cX9_nines 30 = .ok (.iaload, 1) := by decide +kernel
theorem dX9_nines_31 : decode cX9_nines 31 = .ok (.invokevirtual 171, 3) := by decide +kernel
theorem dX9_nines_34 : decode cX9_nines 34 = .ok (.goto 4, 3) := by decide +kernel
theorem dX9_nines_37 : decode cX9_nines 37 = .ok (.iconst (-1), 1) := by decide +kernel
theorem dX9_nines_38 : decode cX9_nines 38 = .ok (.ireturn, 1) := by decide +kernel
theorem dX9_keepsRing_0 : decode cX9_keepsRing 0 = .ok (.aload_n 0, 1) := by decide +kernel
theorem dX9_keepsRing_1 : decode cX9_keepsRing 1 = .ok (.iload_n 1, 1) := by decide +kernel
theorem dX9_keepsRing_2 : decode cX9_keepsRing 2 = .ok (.invokevirtual 137, 3) := by decide +kernel
theorem dX9_keepsRing_5 : decode cX9_keepsRing 5 = .ok (.aload_n 0, 1) := by decide +kernel
theorem dX9_keepsRing_6 : decode cX9_keepsRing 6 = .ok (.aload_n 0, 1) := by decide +kernel
theorem dX9_keepsRing_7 : decode cX9_keepsRing 7 = .ok (.getfield 103, 3) := by decide +kernel
theorem dX9_keepsRing_10 : decode cX9_keepsRing 10 = .ok (.putfield 174, 3) := by decide +kernel
theorem dX9_keepsRing_13 : decode cX9_keepsRing 13 = .ok (.iconst 0, 1) := by decide +kernel
theorem dX9_keepsRing_14 : decode cX9_keepsRing 14 = .ok (.istore_n 2, 1) := by decide +kernel
theorem dX9_keepsRing_15 : decode cX9_keepsRing 15 = .ok (.iload_n 2, 1) := by decide +kernel
theorem dX9_keepsRing_16 : decode cX9_keepsRing 16 = .ok (.aload_n 0, 1) := by decide +kernel
theorem dX9_keepsRing_17 : decode cX9_keepsRing 17 = .ok (.getfield 103, 3) := by decide +kernel
theorem dX9_keepsRing_20 : decode cX9_keepsRing 20 = .ok (.if_icmp .ge 26, 3) := by decide +kernel
theorem dX9_keepsRing_23 : decode cX9_keepsRing 23 = .ok (.aload_n 0, 1) := by decide +kernel
theorem dX9_keepsRing_24 : decode cX9_keepsRing 24 = .ok (.getfield 33, 3) := by decide +kernel
theorem dX9_keepsRing_27 : decode cX9_keepsRing 27 = .ok (.iload_n 2, 1) := by decide +kernel
theorem dX9_keepsRing_28 : decode cX9_keepsRing 28 = .ok (.aload_n 0, 1) := by decide +kernel
theorem dX9_keepsRing_29 : decode cX9_keepsRing 29 = .ok (.getfield 24, 3) := by decide +kernel
theorem dX9_keepsRing_32 : decode cX9_keepsRing 32 = .ok (.aload_n 0, 1) := by decide +kernel
theorem dX9_keepsRing_33 : decode cX9_keepsRing 33 = .ok (.getfield 100, 3) := by decide +kernel
theorem dX9_keepsRing_36 : decode cX9_keepsRing 36 = .ok (.iload_n 2, 1) := by decide +kernel
theorem dX9_keepsRing_37 : decode cX9_keepsRing 37 = .ok (.iadd, 1) := by decide +kernel
theorem dX9_keepsRing_38 : decode cX9_keepsRing 38 = .ok (.iaload, 1) := by decide +kernel
theorem dX9_keepsRing_39 : decode cX9_keepsRing 39 = .ok (.iastore, 1) := by decide +kernel
theorem dX9_keepsRing_40 : decode cX9_keepsRing 40 = .ok (.iinc 2 1, 3) := by decide +kernel
theorem dX9_keepsRing_43 : decode cX9_keepsRing 43 = .ok (.goto (-28), 3) := by decide +kernel
theorem dX9_keepsRing_46 : decode cX9_keepsRing 46 = .ok (.return_, 1) := by decide +kernel
theorem dX9_shiftNow_0 : decode cX9_shiftNow 0 = .ok (.aload_n 0, 1) := by decide +kernel
theorem dX9_shiftNow_1 : decode cX9_shiftNow 1 = .ok (.iload_n 2, 1) := by decide +kernel
theorem dX9_shiftNow_2 : decode cX9_shiftNow 2 = .ok (.i2l, 1) := by decide +kernel
theorem dX9_shiftNow_3 : decode cX9_shiftNow 3 = .ok (.aload_n 0, 1) := by decide +kernel
theorem dX9_shiftNow_4 : decode cX9_shiftNow 4 = .ok (.getfield 11, 3) := by decide +kernel
theorem dX9_shiftNow_7 : decode cX9_shiftNow 7 = .ok (.iload_n 1, 1) := by decide +kernel
theorem dX9_shiftNow_8 : decode cX9_shiftNow 8 = .ok (.iaload, 1) := by decide +kernel
theorem dX9_shiftNow_9 : decode cX9_shiftNow 9 = .ok (.i2l, 1) := by decide +kernel
theorem dX9_shiftNow_10 : decode cX9_shiftNow 10 = .ok (.lmul, 1) := by decide +kernel
theorem dX9_shiftNow_11 : decode cX9_shiftNow 11 = .ok (.aload_n 0, 1) := by decide +kernel
theorem dX9_shiftNow_12 : decode cX9_shiftNow 12 = .ok (.getfield 15, 3) := by decide +kernel
theorem dX9_shiftNow_15 : decode cX9_shiftNow 15 = .ok (.iload_n 1, 1) := by decide +kernel
theorem dX9_shiftNow_16 : decode cX9_shiftNow 16 = .ok (.iaload, 1) := by decide +kernel
theorem dX9_shiftNow_17 : decode cX9_shiftNow 17 = .ok (.aload_n 0, 1) := by decide +kernel
theorem dX9_shiftNow_18 : decode cX9_shiftNow 18 = .ok (.getfield 18, 3) := by decide +kernel
theorem dX9_shiftNow_21 : decode cX9_shiftNow 21 = .ok (.iload_n 1, 1) := by decide +kernel
theorem dX9_shiftNow_22 : decode cX9_shiftNow 22 = .ok (.iaload, 1) := by decide +kernel
theorem dX9_shiftNow_23 : decode cX9_shiftNow 23 = .ok (.invokevirtual 110, 3) := by decide +kernel
theorem dX9_shiftNow_26 : decode cX9_shiftNow 26 = .ok (.iconst 0, 1) := by decide +kernel
theorem dX9_shiftNow_27 : decode cX9_shiftNow 27 = .ok (.istore_n 3, 1) := by decide +kernel
theorem dX9_shiftNow_28 : decode cX9_shiftNow 28 = .ok (.iload_n 3, 1) := by decide +kernel
theorem dX9_shiftNow_29 : decode cX9_shiftNow 29 = .ok (.aload_n 0, 1) := by decide +kernel
theorem dX9_shiftNow_30 : decode cX9_shiftNow 30 = .ok (.getfield 174, 3) := by decide +kernel
theorem dX9_shiftNow_33 : decode cX9_shiftNow 33 = .ok (.if_icmp .ge 29, 3) := by decide +kernel
theorem dX9_shiftNow_36 : decode cX9_shiftNow 36 = .ok (.aload_n 0, 1) := by decide +kernel
theorem dX9_shiftNow_37 : decode cX9_shiftNow 37 = .ok (.getfield 33, 3) := by decide +kernel
theorem dX9_shiftNow_40 : decode cX9_shiftNow 40 = .ok (.iload_n 3, 1) := by decide +kernel
theorem dX9_shiftNow_41 : decode cX9_shiftNow 41 = .ok (.iaload, 1) := by decide +kernel
theorem dX9_shiftNow_42 : decode cX9_shiftNow 42 = .ok (.aload_n 0, 1) := by decide +kernel
theorem dX9_shiftNow_43 : decode cX9_shiftNow 43 = .ok (.getfield 24, 3) := by decide +kernel
theorem dX9_shiftNow_46 : decode cX9_shiftNow 46 = .ok (.aload_n 0, 1) := by decide +kernel
theorem dX9_shiftNow_47 : decode cX9_shiftNow 47 = .ok (.getfield 100, 3) := by decide +kernel
theorem dX9_shiftNow_50 : decode cX9_shiftNow 50 = .ok (.iaload, 1) := by decide +kernel
theorem dX9_shiftNow_51 : decode cX9_shiftNow 51 = .ok (.if_icmp .ne 5, 3) := by decide +kernel
theorem dX9_shiftNow_54 : decode cX9_shiftNow 54 = .ok (.iload_n 3, 1) := by decide +kernel
theorem dX9_shiftNow_55 : decode cX9_shiftNow 55 = .ok (.ireturn, 1) := by decide +kernel
theorem dX9_shiftNow_56 : decode cX9_shiftNow 56 = .ok (.iinc 3 1, 3) := by decide +kernel
theorem dX9_shiftNow_59 : decode cX9_shiftNow 59 = .ok (.goto (-31), 3) := by decide +kernel
theorem dX9_shiftNow_62 : decode cX9_shiftNow 62 = .ok (.bipush (-2), 2) := by decide +kernel
theorem dX9_shiftNow_64 : decode cX9_shiftNow 64 = .ok (.ireturn, 1) := by decide +kernel
theorem dX9_shift_0 : decode cX9_shift 0 = .ok (.aload_n 0, 1) := by decide +kernel
theorem dX9_shift_1 : decode cX9_shift 1 = .ok (.iload_n 1, 1) := by decide +kernel
theorem dX9_shift_2 : decode cX9_shift 2 = .ok (.invokevirtual 126, 3) := by decide +kernel
theorem dX9_shift_5 : decode cX9_shift 5 = .ok (.ifCond .eq 15, 3) := by decide +kernel
theorem dX9_shift_8 : decode cX9_shift 8 = .ok (.iload_n 2, 1) := by decide +kernel
theorem dX9_shift_9 : decode cX9_shift 9 = .ok (.i2l, 1) := by decide +kernel
theorem dX9_shift_10 : decode cX9_shift 10 = .ok (.lconst 1, 1) := by decide +kernel
theorem dX9_shift_11 : decode cX9_shift 11 = .ok (.ldc2_w 116, 3) := by decide +kernel
theorem dX9_shift_14 : decode cX9_shift 14 = .ok (.invokestatic 92, 3) := by decide +kernel
theorem dX9_shift_17 : decode cX9_shift 17 = .ok (.ifCond .ne 5, 3) := by decide +kernel
theorem dX9_shift_20 : decode cX9_shift 20 = .ok (.iconst (-1), 1) := by decide +kernel
theorem dX9_shift_21 : decode cX9_shift 21 = .ok (.ireturn, 1) := by decide +kernel
theorem dX9_shift_22 : decode cX9_shift 22 = .ok (.aload_n 0, 1) := by decide +kernel
theorem dX9_shift_23 : decode cX9_shift 23 = .ok (.iload_n 1, 1) := by decide +kernel
theorem dX9_shift_24 : decode cX9_shift 24 = .ok (.invokevirtual 177, 3) := by decide +kernel
theorem dX9_shift_27 : decode cX9_shift 27 = .ok (.aload_n 0, 1) := by decide +kernel
theorem dX9_shift_28 : decode cX9_shift 28 = .ok (.iload_n 1, 1) := by decide +kernel
theorem dX9_shift_29 : decode cX9_shift 29 = .ok (.iload_n 2, 1) := by decide +kernel
theorem dX9_shift_30 : decode cX9_shift 30 = .ok (.invokevirtual 180, 3) := by decide +kernel
theorem dX9_shift_33 : decode cX9_shift 33 = .ok (.ireturn, 1) := by decide +kernel
theorem dX9_multiple_0 : decode cX9_multiple 0 = .ok (.aload_n 0, 1) := by decide +kernel
theorem dX9_multiple_1 : decode cX9_multiple 1 = .ok (.iload_n 1, 1) := by decide +kernel
theorem dX9_multiple_2 : decode cX9_multiple 2 = .ok (.invokevirtual 126, 3) := by decide +kernel
theorem dX9_multiple_5 : decode cX9_multiple 5 = .ok (.ifCond .ne 5, 3) := by decide +kernel
theorem dX9_multiple_8 : decode cX9_multiple 8 = .ok (.iconst (-1), 1) := by decide +kernel
theorem dX9_multiple_9 : decode cX9_multiple 9 = .ok (.ireturn, 1) := by decide +kernel
theorem dX9_multiple_10 : decode cX9_multiple 10 = .ok (.aload_n 0, 1) := by decide +kernel
theorem dX9_multiple_11 : decode cX9_multiple 11 = .ok (.iload_n 1, 1) := by decide +kernel
theorem dX9_multiple_12 : decode cX9_multiple 12 = .ok (.invokevirtual 177, 3) := by decide +kernel
theorem dX9_multiple_15 : decode cX9_multiple 15 = .ok (.iload_n 2, 1) := by decide +kernel
theorem dX9_multiple_16 : decode cX9_multiple 16 = .ok (.i2l, 1) := by decide +kernel
theorem dX9_multiple_17 : decode cX9_multiple 17 = .ok (.lconst 0, 1) := by decide +kernel
theorem dX9_multiple_18 : decode cX9_multiple 18 = .ok (.aload_n 0, 1) := by decide +kernel
theorem dX9_multiple_19 : decode cX9_multiple 19 = .ok (.getfield 174, 3) := by decide +kernel
theorem dX9_multiple_22 : decode cX9_multiple 22 = .ok (.iconst 1, 1) := by decide +kernel
theorem dX9_multiple_23 : decode cX9_multiple 23 = .ok (.isub, 1) := by decide +kernel
theorem dX9_multiple_24 : decode cX9_multiple 24 = .ok (.i2l, 1) := by decide +kernel
theorem dX9_multiple_25 : decode cX9_multiple 25 = .ok (.invokestatic 92, 3) := by decide +kernel
theorem dX9_multiple_28 : decode cX9_multiple 28 = .ok (.ifCond .ne 5, 3) := by decide +kernel
theorem dX9_multiple_31 : decode cX9_multiple 31 = .ok (.iconst (-1), 1) := by decide +kernel
theorem dX9_multiple_32 : decode cX9_multiple 32 = .ok (.ireturn, 1) := by decide +kernel
theorem dX9_multiple_33 : decode cX9_multiple 33 = .ok (.iconst 2, 1) := by decide +kernel
theorem dX9_multiple_34 : decode cX9_multiple 34 = .ok (.istore_n 3, 1) := by decide +kernel
theorem dX9_multiple_35 : decode cX9_multiple 35 = .ok (.iload_n 3, 1) := by decide +kernel
theorem dX9_multiple_36 : decode cX9_multiple 36 = .ok (.sipush 999, 3) := by decide +kernel
theorem dX9_multiple_39 : decode cX9_multiple 39 = .ok (.if_icmp .gt 21, 3) := by decide +kernel
theorem dX9_multiple_42 : decode cX9_multiple 42 = .ok (.aload_n 0, 1) := by decide +kernel
theorem dX9_multiple_43 : decode cX9_multiple 43 = .ok (.iload_n 1, 1) := by decide +kernel
theorem dX9_multiple_44 : decode cX9_multiple 44 = .ok (.iload_n 3, 1) := by decide +kernel
theorem dX9_multiple_45 : decode cX9_multiple 45 = .ok (.invokevirtual 180, 3) := by decide +kernel
theorem dX9_multiple_48 : decode cX9_multiple 48 = .ok (.iload_n 2, 1) := by decide +kernel
theorem dX9_multiple_49 : decode cX9_multiple 49 = .ok (.if_icmp .ne 5, 3) := by decide +kernel
theorem dX9_multiple_52 : decode cX9_multiple 52 = .ok (.iload_n 3, 1) := by decide +kernel
theorem dX9_multiple_53 : decode cX9_multiple 53 = .ok (.ireturn, 1) := by decide +kernel
theorem dX9_multiple_54 : decode cX9_multiple 54 = .ok (.iinc 3 1, 3) := by decide +kernel
theorem dX9_multiple_57 : decode cX9_multiple 57 = .ok (.goto (-22), 3) := by decide +kernel
theorem dX9_multiple_60 : decode cX9_multiple 60 = .ok (.bipush (-2), 2) := by decide +kernel
theorem dX9_multiple_62 : decode cX9_multiple 62 = .ok (.ireturn, 1) := by decide +kernel
theorem dX9_order_0 : decode cX9_order 0 = .ok (.iload_n 1, 1) := by decide +kernel
theorem dX9_order_1 : decode cX9_order 1 = .ok (.invokestatic 118, 3) := by decide +kernel
theorem dX9_order_4 : decode cX9_order 4 = .ok (.ifCond .eq 15, 3) := by decide +kernel
theorem dX9_order_7 : decode cX9_order 7 = .ok (.iload_n 2, 1) := by decide +kernel
theorem dX9_order_8 : decode cX9_order 8 = .ok (.i2l, 1) := by decide +kernel
theorem dX9_order_9 : decode cX9_order 9 = .ok (.lconst 1, 1) := by decide +kernel
theorem dX9_order_10 : decode cX9_order 10 = .ok (.ldc2_w 114, 3) := by decide +kernel
theorem dX9_order_13 : decode cX9_order 13 = .ok (.invokestatic 92, 3) := by decide +kernel
theorem dX9_order_16 : decode cX9_order 16 = .ok (.ifCond .ne 5, 3) := by decide +kernel
theorem dX9_order_19 : decode cX9_order 19 = .ok (.iconst (-1), 1) := by decide +kernel
theorem dX9_order_20 : decode cX9_order 20 = .ok (.ireturn, 1) := by decide +kernel
theorem dX9_order_21 : decode cX9_order 21 = .ok (.iload_n 1, 1) := by decide +kernel
theorem dX9_order_22 : decode cX9_order 22 = .ok (.i2l, 1) := by decide +kernel
theorem dX9_order_23 : decode cX9_order 23 = .ok (.iload_n 2, 1) := by decide +kernel
theorem dX9_order_24 : decode cX9_order 24 = .ok (.i2l, 1) := by decide +kernel
theorem dX9_order_25 : decode cX9_order 25 = .ok (.invokestatic 129, 3) := by decide +kernel
theorem dX9_order_28 : decode cX9_order 28 = .ok (.lconst 1, 1) := by decide +kernel
theorem dX9_order_29 : decode cX9_order 29 = .ok (.lcmp, 1) := by decide +kernel
theorem dX9_order_30 : decode cX9_order 30 = .ok (.ifCond .le 6, 3) := by decide +kernel
theorem dX9_order_33 : decode cX9_order 33 = .ok (.bipush (-2), 2) := by decide +kernel
theorem dX9_order_35 : decode cX9_order 35 = .ok (.ireturn, 1) := by decide +kernel
theorem dX9_order_36 : decode cX9_order 36 = .ok (.iconst 1, 1) := by decide +kernel
theorem dX9_order_37 : decode cX9_order 37 = .ok (.istore_n 3, 1) := by decide +kernel
theorem dX9_order_38 : decode cX9_order 38 = .ok (.iload_n 1, 1) := by decide +kernel
theorem dX9_order_39 : decode cX9_order 39 = .ok (.iload_n 2, 1) := by decide +kernel
theorem dX9_order_40 : decode cX9_order 40 = .ok (.irem, 1) := by decide +kernel
theorem dX9_order_41 : decode cX9_order 41 = .ok (.istore 4, 2) := by decide +kernel
theorem dX9_order_43 : decode cX9_order 43 = .ok (.iload 4, 2) := by decide +kernel
theorem dX9_order_45 : decode cX9_order 45 = .ok (.iconst 1, 1) := by decide +kernel
theorem dX9_order_46 : decode cX9_order 46 = .ok (.iload_n 2, 1) := by decide +kernel
theorem dX9_order_47 : decode cX9_order 47 = .ok (.irem, 1) := by decide +kernel
theorem dX9_order_48 : decode cX9_order 48 = .ok (.if_icmp .eq 17, 3) := by decide +kernel
theorem dX9_order_51 : decode cX9_order 51 = .ok (.iload 4, 2) := by decide +kernel
theorem dX9_order_53 : decode cX9_order 53 = .ok (.iload_n 1, 1) := by decide +kernel
theorem dX9_order_54 : decode cX9_order 54 = .ok (.imul, 1) := by decide +kernel
theorem dX9_order_55 : decode cX9_order 55 = .ok (.iload_n 2, 1) := by decide +kernel
theorem dX9_order_56 : decode cX9_order 56 = .ok (.irem, 1) := by decide +kernel
theorem dX9_order_57 : decode cX9_order 57 = .ok (.istore 4, 2) := by decide +kernel
theorem dX9_order_59 : decode cX9_order 59 = .ok (.iinc 3 1, 3) := by decide +kernel
theorem dX9_order_62 : decode cX9_order 62 = .ok (.goto (-19), 3) := by decide +kernel
theorem dX9_order_65 : decode cX9_order 65 = .ok (.iload_n 3, 1) := by decide +kernel
theorem dX9_order_66 : decode cX9_order 66 = .ok (.ireturn, 1) := by decide +kernel
theorem dX9_cycles_0 : decode cX9_cycles 0 = .ok (.iload_n 1, 1) := by decide +kernel
theorem dX9_cycles_1 : decode cX9_cycles 1 = .ok (.invokestatic 118, 3) := by decide +kernel
theorem dX9_cycles_4 : decode cX9_cycles 4 = .ok (.ifCond .eq 27, 3) := by decide +kernel
theorem dX9_cycles_7 : decode cX9_cycles 7 = .ok (.iload_n 2, 1) := by decide +kernel
theorem dX9_cycles_8 : decode cX9_cycles 8 = .ok (.i2l, 1) := by decide +kernel
theorem dX9_cycles_9 : decode cX9_cycles 9 = .ok (.ldc2_w 96, 3) := by decide +kernel
theorem dX9_cycles_12 : decode cX9_cycles 12 = .ok (.ldc2_w 116, 3) := by decide +kernel
theorem dX9_cycles_15 : decode cX9_cycles 15 = .ok (.invokestatic 92, 3) := by decide +kernel
theorem dX9_cycles_18 : decode cX9_cycles 18 = .ok (.ifCond .eq 13, 3) := by decide +kernel
theorem dX9_cycles_21 : decode cX9_cycles 21 = .ok (.iload_n 3, 1) := by decide +kernel
theorem dX9_cycles_22 : decode cX9_cycles 22 = .ok (.i2l, 1) := by decide +kernel
theorem dX9_cycles_23 : decode cX9_cycles 23 = .ok (.lconst 0, 1) := by decide +kernel
theorem dX9_cycles_24 : decode cX9_cycles 24 = .ok (.lconst 1, 1) := by decide +kernel
theorem dX9_cycles_25 : decode cX9_cycles 25 = .ok (.invokestatic 92, 3) := by decide +kernel
theorem dX9_cycles_28 : decode cX9_cycles 28 = .ok (.ifCond .ne 5, 3) := by decide +kernel
theorem dX9_cycles_31 : decode cX9_cycles 31 = .ok (.iconst (-1), 1) := by decide +kernel
theorem dX9_cycles_32 : decode cX9_cycles 32 = .ok (.ireturn, 1) := by decide +kernel
theorem dX9_cycles_33 : decode cX9_cycles 33 = .ok (.iload_n 1, 1) := by decide +kernel
theorem dX9_cycles_34 : decode cX9_cycles 34 = .ok (.i2l, 1) := by decide +kernel
theorem dX9_cycles_35 : decode cX9_cycles 35 = .ok (.iload_n 2, 1) := by decide +kernel
theorem dX9_cycles_36 : decode cX9_cycles 36 = .ok (.i2l, 1) := by decide +kernel
theorem dX9_cycles_37 : decode cX9_cycles 37 = .ok (.invokestatic 129, 3) := by decide +kernel
theorem dX9_cycles_40 : decode cX9_cycles 40 = .ok (.lconst 1, 1) := by decide +kernel
theorem dX9_cycles_41 : decode cX9_cycles 41 = .ok (.lcmp, 1) := by decide +kernel
theorem dX9_cycles_42 : decode cX9_cycles 42 = .ok (.ifCond .le 6, 3) := by decide +kernel
theorem dX9_cycles_45 : decode cX9_cycles 45 = .ok (.bipush (-5), 2) := by decide +kernel
theorem dX9_cycles_47 : decode cX9_cycles 47 = .ok (.ireturn, 1) := by decide +kernel
theorem dX9_cycles_48 : decode cX9_cycles 48 = .ok (.iconst 0, 1) := by decide +kernel
theorem dX9_cycles_49 : decode cX9_cycles 49 = .ok (.istore 4, 2) := by decide +kernel
theorem dX9_cycles_51 : decode cX9_cycles 51 = .ok (.iload 4, 2) := by decide +kernel
theorem dX9_cycles_53 : decode cX9_cycles 53 = .ok (.iload_n 2, 1) := by decide +kernel
theorem dX9_cycles_54 : decode cX9_cycles 54 = .ok (.if_icmp .ge 17, 3) := by decide +kernel
theorem dX9_cycles_57 : decode cX9_cycles 57 = .ok (.aload_n 0, 1) := by decide +kernel
theorem dX9_cycles_58 : decode cX9_cycles 58 = .ok (.getfield 21, 3) := by decide +kernel
theorem dX9_cycles_61 : decode cX9_cycles 61 = .ok (.iload 4, 2) := by decide +kernel
theorem dX9_cycles_63 : decode cX9_cycles 63 = .ok (.iconst (-1), 1) := by decide +kernel
theorem dX9_cycles_64 : decode cX9_cycles 64 = .ok (.iastore, 1) := by decide +kernel
theorem dX9_cycles_65 : decode cX9_cycles 65 = .ok (.iinc 4 1, 3) := by decide +kernel
theorem dX9_cycles_68 : decode cX9_cycles 68 = .ok (.goto (-17), 3) := by decide +kernel
theorem dX9_cycles_71 : decode cX9_cycles 71 = .ok (.iconst 0, 1) := by decide +kernel
theorem dX9_cycles_72 : decode cX9_cycles 72 = .ok (.istore 4, 2) := by decide +kernel
theorem dX9_cycles_74 : decode cX9_cycles 74 = .ok (.iconst 0, 1) := by decide +kernel
theorem dX9_cycles_75 : decode cX9_cycles 75 = .ok (.istore 5, 2) := by decide +kernel
theorem dX9_cycles_77 : decode cX9_cycles 77 = .ok (.iconst 1, 1) := by decide +kernel
theorem dX9_cycles_78 : decode cX9_cycles 78 = .ok (.istore 6, 2) := by decide +kernel
theorem dX9_cycles_80 : decode cX9_cycles 80 = .ok (.iload 6, 2) := by decide +kernel
theorem dX9_cycles_82 : decode cX9_cycles 82 = .ok (.iload_n 2, 1) := by decide +kernel
theorem dX9_cycles_83 : decode cX9_cycles 83 = .ok (.if_icmp .ge 73, 3) := by decide +kernel
theorem dX9_cycles_86 : decode cX9_cycles 86 = .ok (.iconst 0, 1) := by decide +kernel
theorem dX9_cycles_87 : decode cX9_cycles 87 = .ok (.istore 7, 2) := by decide +kernel
theorem dX9_cycles_89 : decode cX9_cycles 89 = .ok (.iload 6, 2) := by decide +kernel
theorem dX9_cycles_91 : decode cX9_cycles 91 = .ok (.istore 8, 2) := by decide +kernel
theorem dX9_cycles_93 : decode cX9_cycles 93 = .ok (.aload_n 0, 1) := by decide +kernel
theorem dX9_cycles_94 : decode cX9_cycles 94 = .ok (.getfield 21, 3) := by decide +kernel
theorem dX9_cycles_97 : decode cX9_cycles 97 = .ok (.iload 8, 2) := by decide +kernel
theorem dX9_cycles_99 : decode cX9_cycles 99 = .ok (.iaload, 1) := by decide +kernel
theorem dX9_cycles_100 : decode cX9_cycles 100 = .ok (.iconst (-1), 1) := by decide +kernel
theorem dX9_cycles_101 : decode cX9_cycles 101 = .ok (.if_icmp .ne 25, 3) := by decide +kernel
theorem dX9_cycles_104 : decode cX9_cycles 104 = .ok (.aload_n 0, 1) := by decide +kernel
theorem dX9_cycles_105 : decode cX9_cycles 105 = .ok (.getfield 21, 3) := by decide +kernel
theorem dX9_cycles_108 : decode cX9_cycles 108 = .ok (.iload 8, 2) := by decide +kernel
theorem dX9_cycles_110 : decode cX9_cycles 110 = .ok (.iconst 0, 1) := by decide +kernel
theorem dX9_cycles_111 : decode cX9_cycles 111 = .ok (.iastore, 1) := by decide +kernel
theorem dX9_cycles_112 : decode cX9_cycles 112 = .ok (.iinc 7 1, 3) := by decide +kernel
theorem dX9_cycles_115 : decode cX9_cycles 115 = .ok (.iload 8, 2) := by decide +kernel
theorem dX9_cycles_117 : decode cX9_cycles 117 = .ok (.iload_n 1, 1) := by decide +kernel
theorem dX9_cycles_118 : decode cX9_cycles 118 = .ok (.imul, 1) := by decide +kernel
theorem dX9_cycles_119 : decode cX9_cycles 119 = .ok (.iload_n 2, 1) := by decide +kernel
theorem dX9_cycles_120 : decode cX9_cycles 120 = .ok (.irem, 1) := by decide +kernel
theorem dX9_cycles_121 : decode cX9_cycles 121 = .ok (.istore 8, 2) := by decide +kernel
theorem dX9_cycles_123 : decode cX9_cycles 123 = .ok (.goto (-30), 3) := by decide +kernel
theorem dX9_cycles_126 : decode cX9_cycles 126 = .ok (.iload 4, 2) := by decide +kernel
theorem dX9_cycles_128 : decode cX9_cycles 128 = .ok (.iload 7, 2) := by decide +kernel
theorem dX9_cycles_130 : decode cX9_cycles 130 = .ok (.ifCond .le 7, 3) := by decide +kernel
theorem dX9_cycles_133 : decode cX9_cycles 133 = .ok (.iconst 1, 1) := by decide +kernel
theorem dX9_cycles_134 : decode cX9_cycles 134 = .ok (.goto 4, 3) := by decide +kernel
theorem dX9_cycles_137 : decode cX9_cycles 137 = .ok (.iconst 0, 1) := by decide +kernel
theorem dX9_cycles_138 : decode cX9_cycles 138 = .ok (.iadd, 1) := by decide +kernel
theorem dX9_cycles_139 : decode cX9_cycles 139 = .ok (.istore 4, 2) := by decide +kernel
theorem dX9_cycles_141 : decode cX9_cycles 141 = .ok (.iload 5, 2) := by decide +kernel
theorem dX9_cycles_143 : decode cX9_cycles 143 = .ok (.iload 7, 2) := by decide +kernel
theorem dX9_cycles_145 : decode cX9_cycles 145 = .ok (.invokestatic 183, 3) := by decide +kernel
theorem dX9_cycles_148 : decode cX9_cycles 148 = .ok (.istore 5, 2) := by decide +kernel
theorem dX9_cycles_150 : decode cX9_cycles 150 = .ok (.iinc 6 1, 3) := by decide +kernel
theorem dX9_cycles_153 : decode cX9_cycles 153 = .ok (.goto (-73), 3) := by decide +kernel
theorem dX9_cycles_156 : decode cX9_cycles 156 = .ok (.iload_n 3, 1) := by decide +kernel
theorem dX9_cycles_157 : decode cX9_cycles 157 = .ok (.ifCond .ne 8, 3) := by decide +kernel
theorem dX9_cycles_160 : decode cX9_cycles 160 = .ok (.iload 4, 2) := by decide +kernel
theorem dX9_cycles_162 : decode cX9_cycles 162 = .ok (.goto 5, 3) := by decide +kernel
theorem dX9_cycles_165 : decode cX9_cycles 165 = .ok (.iload 5, 2) := by decide +kernel
theorem dX9_cycles_167 : decode cX9_cycles 167 = .ok (.ireturn, 1) := by decide +kernel
theorem dX9_isFull_0 : decode cX9_isFull 0 = .ok (.aload_n 0, 1) := by decide +kernel
theorem dX9_isFull_1 : decode cX9_isFull 1 = .ok (.lconst 1, 1) := by decide +kernel
theorem dX9_isFull_2 : decode cX9_isFull 2 = .ok (.iload_n 2, 1) := by decide +kernel
theorem dX9_isFull_3 : decode cX9_isFull 3 = .ok (.iload_n 1, 1) := by decide +kernel
theorem dX9_isFull_4 : decode cX9_isFull 4 = .ok (.invokevirtual 110, 3) := by decide +kernel
theorem dX9_isFull_7 : decode cX9_isFull 7 = .ok (.aload_n 0, 1) := by decide +kernel
theorem dX9_isFull_8 : decode cX9_isFull 8 = .ok (.getfield 106, 3) := by decide +kernel
theorem dX9_isFull_11 : decode cX9_isFull 11 = .ok (.ifCond .ne 17, 3) := by decide +kernel
theorem dX9_isFull_14 : decode cX9_isFull 14 = .ok (.aload_n 0, 1) := by decide +kernel
theorem dX9_isFull_15 : decode cX9_isFull 15 = .ok (.getfield 103, 3) := by decide +kernel
theorem dX9_isFull_18 : decode cX9_isFull 18 = .ok (.iload_n 2, 1) := by decide +kernel
theorem dX9_isFull_19 : decode cX9_isFull 19 = .ok (.iconst 1, 1) := by decide +kernel
theorem dX9_isFull_20 : decode cX9_isFull 20 = .ok (.isub, 1) := by decide +kernel
theorem dX9_isFull_21 : decode cX9_isFull 21 = .ok (.if_icmp .ne 7, 3) := by decide +kernel
theorem dX9_isFull_24 : decode cX9_isFull 24 = .ok (.iconst 1, 1) := by decide +kernel
theorem dX9_isFull_25 : decode cX9_isFull 25 = .ok (.goto 4, 3) := by decide +kernel
theorem dX9_isFull_28 : decode cX9_isFull 28 = .ok (.iconst 0, 1) := by decide +kernel
theorem dX9_isFull_29 : decode cX9_isFull 29 = .ok (.ireturn, 1) := by decide +kernel
theorem dX9_full_0 : decode cX9_full 0 = .ok (.iload_n 1, 1) := by decide +kernel
theorem dX9_full_1 : decode cX9_full 1 = .ok (.invokestatic 118, 3) := by decide +kernel
theorem dX9_full_4 : decode cX9_full 4 = .ok (.ifCond .eq 43, 3) := by decide +kernel
theorem dX9_full_7 : decode cX9_full 7 = .ok (.iload_n 2, 1) := by decide +kernel
theorem dX9_full_8 : decode cX9_full 8 = .ok (.i2l, 1) := by decide +kernel
theorem dX9_full_9 : decode cX9_full 9 = .ok (.ldc2_w 96, 3) := by decide +kernel
theorem dX9_full_12 : decode cX9_full 12 = .ok (.ldc2_w 116, 3) := by decide +kernel
theorem dX9_full_15 : decode cX9_full 15 = .ok (.invokestatic 92, 3) := by decide +kernel
theorem dX9_full_18 : decode cX9_full 18 = .ok (.ifCond .eq 29, 3) := by decide +kernel
theorem dX9_full_21 : decode cX9_full 21 = .ok (.iload_n 3, 1) := by decide +kernel
theorem dX9_full_22 : decode cX9_full 22 = .ok (.i2l, 1) := by decide +kernel
theorem dX9_full_23 : decode cX9_full 23 = .ok (.iload_n 2, 1) := by decide +kernel
theorem dX9_full_24 : decode cX9_full 24 = .ok (.i2l, 1) := by decide +kernel
theorem dX9_full_25 : decode cX9_full 25 = .ok (.ldc2_w 116, 3) := by decide +kernel
theorem dX9_full_28 : decode cX9_full 28 = .ok (.invokestatic 92, 3) := by decide +kernel
theorem dX9_full_31 : decode cX9_full 31 = .ok (.ifCond .eq 16, 3) := by decide +kernel
theorem dX9_full_34 : decode cX9_full 34 = .ok (.iload 4, 2) := by decide +kernel
theorem dX9_full_36 : decode cX9_full 36 = .ok (.i2l, 1) := by decide +kernel
theorem dX9_full_37 : decode cX9_full 37 = .ok (.lconst 0, 1) := by decide +kernel
theorem dX9_full_38 : decode cX9_full 38 = .ok (.ldc2_w 96, 3) := by decide +kernel
theorem dX9_full_41 : decode cX9_full 41 = .ok (.invokestatic 92, 3) := by decide +kernel
theorem dX9_full_44 : decode cX9_full 44 = .ok (.ifCond .ne 5, 3) := by decide +kernel
theorem dX9_full_47 : decode cX9_full 47 = .ok (.iconst (-1), 1) := by decide +kernel
theorem dX9_full_48 : decode cX9_full 48 = .ok (.ireturn, 1) := by decide +kernel
theorem dX9_full_49 : decode cX9_full 49 = .ok (.iconst 0, 1) := by decide +kernel
theorem dX9_full_50 : decode cX9_full 50 = .ok (.istore 5, 2) := by decide +kernel
theorem dX9_full_52 : decode cX9_full 52 = .ok (.bipush (-2), 2) := by decide +kernel
theorem dX9_full_54 : decode cX9_full 54 = .ok (.istore 6, 2) := by decide +kernel
theorem dX9_full_56 : decode cX9_full 56 = .ok (.bipush (-2), 2) := by decide +kernel
theorem dX9_full_58 : decode cX9_full 58 = .ok (.istore 7, 2) := by decide +kernel
theorem dX9_full_60 : decode cX9_full 60 = .ok (.iload_n 2, 1) := by decide +kernel
theorem dX9_full_61 : decode cX9_full 61 = .ok (.istore 8, 2) := by decide +kernel
theorem dX9_full_63 : decode cX9_full 63 = .ok (.iload 8, 2) := by decide +kernel
theorem dX9_full_65 : decode cX9_full 65 = .ok (.iload_n 3, 1) := by decide +kernel
theorem dX9_full_66 : decode cX9_full 66 = .ok (.if_icmp .gt 40, 3) := by decide +kernel
theorem dX9_full_69 : decode cX9_full 69 = .ok (.aload_n 0, 1) := by decide +kernel
theorem dX9_full_70 : decode cX9_full 70 = .ok (.iload_n 1, 1) := by decide +kernel
theorem dX9_full_71 : decode cX9_full 71 = .ok (.iload 8, 2) := by decide +kernel
theorem dX9_full_73 : decode cX9_full 73 = .ok (.invokevirtual 188, 3) := by decide +kernel
theorem dX9_full_76 : decode cX9_full 76 = .ok (.ifCond .eq 24, 3) := by decide +kernel
theorem dX9_full_79 : decode cX9_full 79 = .ok (.iload 5, 2) := by decide +kernel
theorem dX9_full_81 : decode cX9_full 81 = .ok (.ifCond .ne 8, 3) := by decide +kernel
theorem dX9_full_84 : decode cX9_full 84 = .ok (.iload 8, 2) := by decide +kernel
theorem dX9_full_86 : decode cX9_full 86 = .ok (.goto 5, 3) := by decide +kernel
theorem dX9_full_89 : decode cX9_full 89 = .ok (.iload 6, 2) := by decide +kernel
theorem dX9_full_91 : decode cX9_full 91 = .ok (.istore 6, 2) := by decide +kernel
theorem dX9_full_93 : decode cX9_full 93 = .ok (.iload 8, 2) := by decide +kernel
theorem dX9_full_95 : decode cX9_full 95 = .ok (.istore 7, 2) := by decide +kernel
theorem dX9_full_97 : decode cX9_full 97 = .ok (.iinc 5 1, 3) := by decide +kernel
theorem dX9_full_100 : decode cX9_full 100 = .ok (.iinc 8 1, 3) := by decide +kernel
theorem dX9_full_103 : decode cX9_full 103 = .ok (.goto (-40), 3) := by decide +kernel
theorem dX9_full_106 : decode cX9_full 106 = .ok (.iload 4, 2) := by decide +kernel
theorem dX9_full_108 : decode cX9_full 108 = .ok (.ifCond .ne 8, 3) := by decide +kernel
theorem dX9_full_111 : decode cX9_full 111 = .ok (.iload 5, 2) := by decide +kernel
theorem dX9_full_113 : decode cX9_full 113 = .ok (.goto 16, 3) := by decide +kernel
theorem dX9_full_116 : decode cX9_full 116 = .ok (.iload 4, 2) := by decide +kernel
theorem dX9_full_118 : decode cX9_full 118 = .ok (.iconst 1, 1) := by decide +kernel
theorem dX9_full_119 : decode cX9_full 119 = .ok (.if_icmp .ne 8, 3) := by decide +kernel
theorem dX9_full_122 : decode cX9_full 122 = .ok (.iload 6, 2) := by decide +kernel
theorem dX9_full_124 : decode cX9_full 124 = .ok (.goto 5, 3) := by decide +kernel
theorem dX9_full_127 : decode cX9_full 127 = .ok (.iload 7, 2) := by decide +kernel
theorem dX9_full_129 : decode cX9_full 129 = .ok (.ireturn, 1) := by decide +kernel
theorem dX9_list_0 : decode cX9_list 0 = .ok (.iload_n 1, 1) := by decide +kernel
theorem dX9_list_1 : decode cX9_list 1 = .ok (.i2l, 1) := by decide +kernel
theorem dX9_list_2 : decode cX9_list 2 = .ok (.ldc2_w 96, 3) := by decide +kernel
theorem dX9_list_5 : decode cX9_list 5 = .ok (.ldc2_w 192, 3) := by decide +kernel
theorem dX9_list_8 : decode cX9_list 8 = .ok (.invokestatic 92, 3) := by decide +kernel
theorem dX9_list_11 : decode cX9_list 11 = .ok (.ifCond .eq 10, 3) := by decide +kernel
theorem dX9_list_14 : decode cX9_list 14 = .ok (.iload_n 2, 1) := by decide +kernel
theorem dX9_list_15 : decode cX9_list 15 = .ok (.invokestatic 118, 3) := by decide +kernel
theorem dX9_list_18 : decode cX9_list 18 = .ok (.ifCond .ne 5, 3) := by decide +kernel
theorem dX9_list_21 : decode cX9_list 21 = .ok (.iconst (-1), 1) := by decide +kernel
theorem dX9_list_22 : decode cX9_list 22 = .ok (.ireturn, 1) := by decide +kernel
theorem dX9_list_23 : decode cX9_list 23 = .ok (.aload_n 0, 1) := by decide +kernel
theorem dX9_list_24 : decode cX9_list 24 = .ok (.iconst 0, 1) := by decide +kernel
theorem dX9_list_25 : decode cX9_list 25 = .ok (.putfield 194, 3) := by decide +kernel
theorem dX9_list_28 : decode cX9_list 28 = .ok (.aload_n 0, 1) := by decide +kernel
theorem dX9_list_29 : decode cX9_list 29 = .ok (.iload_n 2, 1) := by decide +kernel
theorem dX9_list_30 : decode cX9_list 30 = .ok (.putfield 36, 3) := by decide +kernel
theorem dX9_list_33 : decode cX9_list 33 = .ok (.iconst 2, 1) := by decide +kernel
theorem dX9_list_34 : decode cX9_list 34 = .ok (.istore_n 3, 1) := by decide +kernel
theorem dX9_list_35 : decode cX9_list 35 = .ok (.iload_n 3, 1) := by decide +kernel
theorem dX9_list_36 : decode cX9_list 36 = .ok (.iload_n 1, 1) := by decide +kernel
theorem dX9_list_37 : decode cX9_list 37 = .ok (.if_icmp .gt 29, 3) := by decide +kernel
theorem dX9_list_40 : decode cX9_list 40 = .ok (.aload_n 0, 1) := by decide +kernel
theorem dX9_list_41 : decode cX9_list 41 = .ok (.getfield 40, 3) := by decide +kernel
theorem dX9_list_44 : decode cX9_list 44 = .ok (.aload_n 0, 1) := by decide +kernel
theorem dX9_list_45 : decode cX9_list 45 = .ok (.getfield 194, 3) := by decide +kernel
theorem dX9_list_48 : decode cX9_list 48 = .ok (.iload_n 3, 1) := by decide +kernel
theorem dX9_list_49 : decode cX9_list 49 = .ok (.iastore, 1) := by decide +kernel
theorem dX9_list_50 : decode cX9_list 50 = .ok (.aload_n 0, 1) := by decide +kernel
theorem dX9_list_51 : decode cX9_list 51 = .ok (.dup, 1) := by decide +kernel
theorem dX9_list_52 : decode cX9_list 52 = .ok (.getfield 194, 3) := by decide +kernel
theorem dX9_list_55 : decode cX9_list 55 = .ok (.iconst 1, 1) := by decide +kernel
theorem dX9_list_56 : decode cX9_list 56 = .ok (.iadd, 1) := by decide +kernel
theorem dX9_list_57 : decode cX9_list 57 = .ok (.putfield 194, 3) := by decide +kernel
theorem dX9_list_60 : decode cX9_list 60 = .ok (.iinc 3 1, 3) := by decide +kernel
theorem dX9_list_63 : decode cX9_list 63 = .ok (.goto (-28), 3) := by decide +kernel
theorem dX9_list_66 : decode cX9_list 66 = .ok (.aload_n 0, 1) := by decide +kernel
theorem dX9_list_67 : decode cX9_list 67 = .ok (.getfield 194, 3) := by decide +kernel
theorem dX9_list_70 : decode cX9_list 70 = .ok (.ireturn, 1) := by decide +kernel
theorem dX9_isPrime_0 : decode cX9_isPrime 0 = .ok (.iconst 2, 1) := by decide +kernel
theorem dX9_isPrime_1 : decode cX9_isPrime 1 = .ok (.istore_n 1, 1) := by decide +kernel
theorem dX9_isPrime_2 : decode cX9_isPrime 2 = .ok (.iload_n 1, 1) := by decide +kernel
theorem dX9_isPrime_3 : decode cX9_isPrime 3 = .ok (.iload_n 1, 1) := by decide +kernel
theorem dX9_isPrime_4 : decode cX9_isPrime 4 = .ok (.imul, 1) := by decide +kernel
theorem dX9_isPrime_5 : decode cX9_isPrime 5 = .ok (.iload_n 0, 1) := by decide +kernel
theorem dX9_isPrime_6 : decode cX9_isPrime 6 = .ok (.if_icmp .gt 17, 3) := by decide +kernel
theorem dX9_isPrime_9 : decode cX9_isPrime 9 = .ok (.iload_n 0, 1) := by decide +kernel
theorem dX9_isPrime_10 : decode cX9_isPrime 10 = .ok (.iload_n 1, 1) := by decide +kernel
theorem dX9_isPrime_11 : decode cX9_isPrime 11 = .ok (.irem, 1) := by decide +kernel
theorem dX9_isPrime_12 : decode cX9_isPrime 12 = .ok (.ifCond .ne 5, 3) := by decide +kernel
theorem dX9_isPrime_15 : decode cX9_isPrime 15 = .ok (.iconst 0, 1) := by decide +kernel
theorem dX9_isPrime_16 : decode cX9_isPrime 16 = .ok (.ireturn, 1) := by decide +kernel
theorem dX9_isPrime_17 : decode cX9_isPrime 17 = .ok (.iinc 1 1, 3) := by decide +kernel
theorem dX9_isPrime_20 : decode cX9_isPrime 20 = .ok (.goto (-18), 3) := by decide +kernel
theorem dX9_isPrime_23 : decode cX9_isPrime 23 = .ok (.iconst 1, 1) := by decide +kernel
theorem dX9_isPrime_24 : decode cX9_isPrime 24 = .ok (.ireturn, 1) := by decide +kernel
theorem dX9_isSo_0 : decode cX9_isSo 0 = .ok (.aload_n 0, 1) := by decide +kernel
theorem dX9_isSo_1 : decode cX9_isSo 1 = .ok (.lconst 1, 1) := by decide +kernel
theorem dX9_isSo_2 : decode cX9_isSo 2 = .ok (.iload_n 2, 1) := by decide +kernel
theorem dX9_isSo_3 : decode cX9_isSo 3 = .ok (.aload_n 0, 1) := by decide +kernel
theorem dX9_isSo_4 : decode cX9_isSo 4 = .ok (.getfield 36, 3) := by decide +kernel
theorem dX9_isSo_7 : decode cX9_isSo 7 = .ok (.invokevirtual 110, 3) := by decide +kernel
theorem dX9_isSo_10 : decode cX9_isSo 10 = .ok (.iload_n 1, 1) := by decide +kernel
theorem dX9_isSo_11 : decode cX9_isSo 11 = .ok (.tableswitch 177 0 6 #[41, 46, 60, 74, 97, 119, 142], 41) := by decide +kernel
theorem dX9_isSo_52 : decode cX9_isSo 52 = .ok (.aload_n 0, 1) := by decide +kernel
theorem dX9_isSo_53 : decode cX9_isSo 53 = .ok (.getfield 106, 3) := by decide +kernel
theorem dX9_isSo_56 : decode cX9_isSo 56 = .ok (.ireturn, 1) := by decide +kernel
theorem dX9_isSo_57 : decode cX9_isSo 57 = .ok (.aload_n 0, 1) := by decide +kernel
theorem dX9_isSo_58 : decode cX9_isSo 58 = .ok (.invokevirtual 141, 3) := by decide +kernel
theorem dX9_isSo_61 : decode cX9_isSo 61 = .ok (.iconst 1, 1) := by decide +kernel
theorem dX9_isSo_62 : decode cX9_isSo 62 = .ok (.if_icmp .ne 7, 3) := by decide +kernel
theorem dX9_isSo_65 : decode cX9_isSo 65 = .ok (.iconst 1, 1) := by decide +kernel
theorem dX9_isSo_66 : decode cX9_isSo 66 = .ok (.goto 4, 3) := by decide +kernel
theorem dX9_isSo_69 : decode cX9_isSo 69 = .ok (.iconst 0, 1) := by decide +kernel
theorem dX9_isSo_70 : decode cX9_isSo 70 = .ok (.ireturn, 1) := by decide +kernel
theorem dX9_isSo_71 : decode cX9_isSo 71 = .ok (.aload_n 0, 1) := by decide +kernel
theorem dX9_isSo_72 : decode cX9_isSo 72 = .ok (.invokevirtual 141, 3) := by decide +kernel
theorem dX9_isSo_75 : decode cX9_isSo 75 = .ok (.iconst 2, 1) := by decide +kernel
theorem dX9_isSo_76 : decode cX9_isSo 76 = .ok (.if_icmp .ne 7, 3) := by decide +kernel
theorem dX9_isSo_79 : decode cX9_isSo 79 = .ok (.iconst 1, 1) := by decide +kernel
theorem dX9_isSo_80 : decode cX9_isSo 80 = .ok (.goto 4, 3) := by decide +kernel
theorem dX9_isSo_83 : decode cX9_isSo 83 = .ok (.iconst 0, 1) := by decide +kernel
theorem dX9_isSo_84 : decode cX9_isSo 84 = .ok (.ireturn, 1) := by decide +kernel
theorem dX9_isSo_85 : decode cX9_isSo 85 = .ok (.aload_n 0, 1) := by decide +kernel
theorem dX9_isSo_86 : decode cX9_isSo 86 = .ok (.getfield 106, 3) := by decide +kernel
theorem dX9_isSo_89 : decode cX9_isSo 89 = .ok (.ifCond .ne 17, 3) := by decide +kernel
theorem dX9_isSo_92 : decode cX9_isSo 92 = .ok (.aload_n 0, 1) := by decide +kernel
theorem dX9_isSo_93 : decode cX9_isSo 93 = .ok (.getfield 103, 3) := by decide +kernel
theorem dX9_isSo_96 : decode cX9_isSo 96 = .ok (.iload_n 2, 1) := by decide +kernel
theorem dX9_isSo_97 : decode cX9_isSo 97 = .ok (.iconst 1, 1) := by decide +kernel
theorem dX9_isSo_98 : decode cX9_isSo 98 = .ok (.isub, 1) := by decide +kernel
theorem dX9_isSo_99 : decode cX9_isSo 99 = .ok (.if_icmp .ne 7, 3) := by decide +kernel
theorem dX9_isSo_102 : decode cX9_isSo 102 = .ok (.iconst 1, 1) := by decide +kernel
theorem dX9_isSo_103 : decode cX9_isSo 103 = .ok (.goto 4, 3) := by decide +kernel
theorem dX9_isSo_106 : decode cX9_isSo 106 = .ok (.iconst 0, 1) := by decide +kernel
theorem dX9_isSo_107 : decode cX9_isSo 107 = .ok (.ireturn, 1) := by decide +kernel
theorem dX9_isSo_108 : decode cX9_isSo 108 = .ok (.aload_n 0, 1) := by decide +kernel
theorem dX9_isSo_109 : decode cX9_isSo 109 = .ok (.getfield 106, 3) := by decide +kernel
theorem dX9_isSo_112 : decode cX9_isSo 112 = .ok (.ifCond .ne 16, 3) := by decide +kernel
theorem dX9_isSo_115 : decode cX9_isSo 115 = .ok (.aload_n 0, 1) := by decide +kernel
theorem dX9_isSo_116 : decode cX9_isSo 116 = .ok (.getfield 103, 3) := by decide +kernel
theorem dX9_isSo_119 : decode cX9_isSo 119 = .ok (.iconst 2, 1) := by decide +kernel
theorem dX9_isSo_120 : decode cX9_isSo 120 = .ok (.irem, 1) := by decide +kernel
theorem dX9_isSo_121 : decode cX9_isSo 121 = .ok (.ifCond .ne 7, 3) := by decide +kernel
theorem dX9_isSo_124 : decode cX9_isSo 124 = .ok (.iconst 1, 1) := by decide +kernel
theorem dX9_isSo_125 : decode cX9_isSo 125 = .ok (.goto 4, 3) := by decide +kernel
theorem dX9_isSo_128 : decode cX9_isSo 128 = .ok (.iconst 0, 1) := by decide +kernel
theorem dX9_isSo_129 : decode cX9_isSo 129 = .ok (.ireturn, 1) := by decide +kernel
theorem dX9_isSo_130 : decode cX9_isSo 130 = .ok (.aload_n 0, 1) := by decide +kernel
theorem dX9_isSo_131 : decode cX9_isSo 131 = .ok (.getfield 106, 3) := by decide +kernel
theorem dX9_isSo_134 : decode cX9_isSo 134 = .ok (.ifCond .ne 17, 3) := by decide +kernel
theorem dX9_isSo_137 : decode cX9_isSo 137 = .ok (.aload_n 0, 1) := by decide +kernel
theorem dX9_isSo_138 : decode cX9_isSo 138 = .ok (.getfield 103, 3) := by decide +kernel
theorem dX9_isSo_141 : decode cX9_isSo 141 = .ok (.iconst 2, 1) := by decide +kernel
theorem dX9_isSo_142 : decode cX9_isSo 142 = .ok (.irem, 1) := by decide +kernel
theorem dX9_isSo_143 : decode cX9_isSo 143 = .ok (.iconst 1, 1) := by decide +kernel
theorem dX9_isSo_144 : decode cX9_isSo 144 = .ok (.if_icmp .ne 7, 3) := by decide +kernel
theorem dX9_isSo_147 : decode cX9_isSo 147 = .ok (.iconst 1, 1) := by decide +kernel
theorem dX9_isSo_148 : decode cX9_isSo 148 = .ok (.goto 4, 3) := by decide +kernel
theorem dX9_isSo_151 : decode cX9_isSo 151 = .ok (.iconst 0, 1) := by decide +kernel
theorem dX9_isSo_152 : decode cX9_isSo 152 = .ok (.ireturn, 1) := by decide +kernel
theorem dX9_isSo_153 : decode cX9_isSo 153 = .ok (.aload_n 0, 1) := by decide +kernel
theorem dX9_isSo_154 : decode cX9_isSo 154 = .ok (.getfield 106, 3) := by decide +kernel
theorem dX9_isSo_157 : decode cX9_isSo 157 = .ok (.ifCond .ne 29, 3) := by decide +kernel
theorem dX9_isSo_160 : decode cX9_isSo 160 = .ok (.aload_n 0, 1) := by decide +kernel
theorem dX9_isSo_161 : decode cX9_isSo 161 = .ok (.getfield 103, 3) := by decide +kernel
theorem dX9_isSo_164 : decode cX9_isSo 164 = .ok (.iconst 2, 1) := by decide +kernel
theorem dX9_isSo_165 : decode cX9_isSo 165 = .ok (.irem, 1) := by decide +kernel
theorem dX9_isSo_166 : decode cX9_isSo 166 = .ok (.ifCond .ne 20, 3) := by decide +kernel
theorem dX9_isSo_169 : decode cX9_isSo 169 = .ok (.aload_n 0, 1) := by decide +kernel
theorem dX9_isSo_170 : decode cX9_isSo 170 = .ok (.iconst 2, 1) := by decide +kernel
theorem dX9_isSo_171 : decode cX9_isSo 171 = .ok (.aload_n 0, 1) := by decide +kernel
theorem dX9_isSo_172 : decode cX9_isSo 172 = .ok (.getfield 36, 3) := by decide +kernel
theorem dX9_isSo_175 : decode cX9_isSo 175 = .ok (.invokevirtual 171, 3) := by decide +kernel
theorem dX9_isSo_178 : decode cX9_isSo 178 = .ok (.iconst 1, 1) := by decide +kernel
theorem dX9_isSo_179 : decode cX9_isSo 179 = .ok (.if_icmp .ne 7, 3) := by decide +kernel
theorem dX9_isSo_182 : decode cX9_isSo 182 = .ok (.iconst 1, 1) := by decide +kernel
theorem dX9_isSo_183 : decode cX9_isSo 183 = .ok (.goto 4, 3) := by decide +kernel
theorem dX9_isSo_186 : decode cX9_isSo 186 = .ok (.iconst 0, 1) := by decide +kernel
theorem dX9_isSo_187 : decode cX9_isSo 187 = .ok (.ireturn, 1) := by decide +kernel
theorem dX9_isSo_188 : decode cX9_isSo 188 = .ok (.iload_n 2, 1) := by decide +kernel
theorem dX9_isSo_189 : decode cX9_isSo 189 = .ok (.invokestatic 197, 3) := by decide +kernel
theorem dX9_isSo_192 : decode cX9_isSo 192 = .ok (.ireturn, 1) := by decide +kernel
theorem dX9_listed_0 : decode cX9_listed 0 = .ok (.iload_n 1, 1) := by decide +kernel
theorem dX9_listed_1 : decode cX9_listed 1 = .ok (.ifCond .ge 5, 3) := by decide +kernel
theorem dX9_listed_4 : decode cX9_listed 4 = .ok (.iconst (-1), 1) := by decide +kernel
theorem dX9_listed_5 : decode cX9_listed 5 = .ok (.ireturn, 1) := by decide +kernel
theorem dX9_listed_6 : decode cX9_listed 6 = .ok (.iload_n 1, 1) := by decide +kernel
theorem dX9_listed_7 : decode cX9_listed 7 = .ok (.aload_n 0, 1) := by decide +kernel
theorem dX9_listed_8 : decode cX9_listed 8 = .ok (.getfield 194, 3) := by decide +kernel
theorem dX9_listed_11 : decode cX9_listed 11 = .ok (.if_icmp .ge 12, 3) := by decide +kernel
theorem dX9_listed_14 : decode cX9_listed 14 = .ok (.aload_n 0, 1) := by decide +kernel
theorem dX9_listed_15 : decode cX9_listed 15 = .ok (.getfield 40, 3) := by decide +kernel
theorem dX9_listed_18 : decode cX9_listed 18 = .ok (.iload_n 1, 1) := by decide +kernel
theorem dX9_listed_19 : decode cX9_listed 19 = .ok (.iaload, 1) := by decide +kernel
theorem dX9_listed_20 : decode cX9_listed 20 = .ok (.goto 5, 3) := by decide +kernel
theorem dX9_listed_23 : decode cX9_listed 23 = .ok (.bipush (-2), 2) := by decide +kernel
theorem dX9_listed_25 : decode cX9_listed 25 = .ok (.ireturn, 1) := by decide +kernel
theorem dX9_worth_0 : decode cX9_worth 0 = .ok (.iload_n 0, 1) := by decide +kernel
theorem dX9_worth_1 : decode cX9_worth 1 = .ok (.tableswitch 88 0 4 #[35, 38, 46, 71, 77], 35) := by decide +kernel
theorem dX9_worth_36 : decode cX9_worth 36 = .ok (.iload_n 1, 1) := by decide +kernel
theorem dX9_worth_37 : decode cX9_worth 37 = .ok (.i2l, 1) := by decide +kernel
theorem dX9_worth_38 : decode cX9_worth 38 = .ok (.lreturn, 1) := by decide +kernel
theorem dX9_worth_39 : decode cX9_worth 39 = .ok (.iload_n 1, 1) := by decide +kernel
theorem dX9_worth_40 : decode cX9_worth 40 = .ok (.i2l, 1) := by decide +kernel
theorem dX9_worth_41 : decode cX9_worth 41 = .ok (.iload_n 2, 1) := by decide +kernel
theorem dX9_worth_42 : decode cX9_worth 42 = .ok (.i2l, 1) := by decide +kernel
theorem dX9_worth_43 : decode cX9_worth 43 = .ok (.lconst 1, 1) := by decide +kernel
theorem dX9_worth_44 : decode cX9_worth 44 = .ok (.ladd, 1) := by decide +kernel
theorem dX9_worth_45 : decode cX9_worth 45 = .ok (.lmul, 1) := by decide +kernel
theorem dX9_worth_46 : decode cX9_worth 46 = .ok (.lreturn, 1) := by decide +kernel
theorem dX9_worth_47 : decode cX9_worth 47 = .ok (.iload_n 2, 1) := by decide +kernel
theorem dX9_worth_48 : decode cX9_worth 48 = .ok (.iconst 2, 1) := by decide +kernel
theorem dX9_worth_49 : decode cX9_worth 49 = .ok (.irem, 1) := by decide +kernel
theorem dX9_worth_50 : decode cX9_worth 50 = .ok (.ifCond .ne 13, 3) := by decide +kernel
theorem dX9_worth_53 : decode cX9_worth 53 = .ok (.iload_n 1, 1) := by decide +kernel
theorem dX9_worth_54 : decode cX9_worth 54 = .ok (.i2l, 1) := by decide +kernel
theorem dX9_worth_55 : decode cX9_worth 55 = .ok (.iload_n 2, 1) := by decide +kernel
theorem dX9_worth_56 : decode cX9_worth 56 = .ok (.i2l, 1) := by decide +kernel
theorem dX9_worth_57 : decode cX9_worth 57 = .ok (.lconst 1, 1) := by decide +kernel
theorem dX9_worth_58 : decode cX9_worth 58 = .ok (.ladd, 1) := by decide +kernel
theorem dX9_worth_59 : decode cX9_worth 59 = .ok (.lmul, 1) := by decide +kernel
theorem dX9_worth_60 : decode cX9_worth 60 = .ok (.goto 11, 3) := by decide +kernel
theorem dX9_worth_63 : decode cX9_worth 63 = .ok (.iload_n 1, 1) := by decide +kernel
theorem dX9_worth_64 : decode cX9_worth 64 = .ok (.ineg, 1) := by decide +kernel
theorem dX9_worth_65 : decode cX9_worth 65 = .ok (.i2l, 1) := by decide +kernel
theorem dX9_worth_66 : decode cX9_worth 66 = .ok (.iload_n 2, 1) := by decide +kernel
theorem dX9_worth_67 : decode cX9_worth 67 = .ok (.i2l, 1) := by decide +kernel
theorem dX9_worth_68 : decode cX9_worth 68 = .ok (.lconst 1, 1) := by decide +kernel
theorem dX9_worth_69 : decode cX9_worth 69 = .ok (.ladd, 1) := by decide +kernel
theorem dX9_worth_70 : decode cX9_worth 70 = .ok (.lmul, 1) := by decide +kernel
theorem dX9_worth_71 : decode cX9_worth 71 = .ok (.lreturn, 1) := by decide +kernel
theorem dX9_worth_72 : decode cX9_worth 72 = .ok (.iload_n 1, 1) := by decide +kernel
theorem dX9_worth_73 : decode cX9_worth 73 = .ok (.i2l, 1) := by decide +kernel
theorem dX9_worth_74 : decode cX9_worth 74 = .ok (.iload_n 1, 1) := by decide +kernel
theorem dX9_worth_75 : decode cX9_worth 75 = .ok (.i2l, 1) := by decide +kernel
theorem dX9_worth_76 : decode cX9_worth 76 = .ok (.lmul, 1) := by decide +kernel
theorem dX9_worth_77 : decode cX9_worth 77 = .ok (.lreturn, 1) := by decide +kernel
theorem dX9_worth_78 : decode cX9_worth 78 = .ok (.iload_n 1, 1) := by decide +kernel
theorem dX9_worth_79 : decode cX9_worth 79 = .ok (.i2l, 1) := by decide +kernel
theorem dX9_worth_80 : decode cX9_worth 80 = .ok (.iload_n 1, 1) := by decide +kernel
theorem dX9_worth_81 : decode cX9_worth 81 = .ok (.i2l, 1) := by decide +kernel
theorem dX9_worth_82 : decode cX9_worth 82 = .ok (.lmul, 1) := by decide +kernel
theorem dX9_worth_83 : decode cX9_worth 83 = .ok (.iload_n 3, 1) := by decide +kernel
theorem dX9_worth_84 : decode cX9_worth 84 = .ok (.i2l, 1) := by decide +kernel
theorem dX9_worth_85 : decode cX9_worth 85 = .ok (.invokestatic 200, 3) := by decide +kernel
theorem dX9_worth_88 : decode cX9_worth 88 = .ok (.lreturn, 1) := by decide +kernel
theorem dX9_worth_89 : decode cX9_worth 89 = .ok (.iload_n 1, 1) := by decide +kernel
theorem dX9_worth_90 : decode cX9_worth 90 = .ok (.iload_n 3, 1) := by decide +kernel
theorem dX9_worth_91 : decode cX9_worth 91 = .ok (.if_icmp .le 7, 3) := by decide +kernel
theorem dX9_worth_94 : decode cX9_worth 94 = .ok (.lconst 1, 1) := by decide +kernel
theorem dX9_worth_95 : decode cX9_worth 95 = .ok (.goto 4, 3) := by decide +kernel
theorem dX9_worth_98 : decode cX9_worth 98 = .ok (.lconst 0, 1) := by decide +kernel
theorem dX9_worth_99 : decode cX9_worth 99 = .ok (.lreturn, 1) := by decide +kernel
theorem dX9_tells_0 : decode cX9_tells 0 = .ok (.aload_n 0, 1) := by decide +kernel
theorem dX9_tells_1 : decode cX9_tells 1 = .ok (.iload_n 1, 1) := by decide +kernel
theorem dX9_tells_2 : decode cX9_tells 2 = .ok (.invokevirtual 126, 3) := by decide +kernel
theorem dX9_tells_5 : decode cX9_tells 5 = .ok (.ifCond .eq 27, 3) := by decide +kernel
theorem dX9_tells_8 : decode cX9_tells 8 = .ok (.iload_n 2, 1) := by decide +kernel
theorem dX9_tells_9 : decode cX9_tells 9 = .ok (.i2l, 1) := by decide +kernel
theorem dX9_tells_10 : decode cX9_tells 10 = .ok (.lconst 0, 1) := by decide +kernel
theorem dX9_tells_11 : decode cX9_tells 11 = .ok (.ldc2_w 203, 3) := by decide +kernel
theorem dX9_tells_14 : decode cX9_tells 14 = .ok (.invokestatic 92, 3) := by decide +kernel
theorem dX9_tells_17 : decode cX9_tells 17 = .ok (.ifCond .eq 15, 3) := by decide +kernel
theorem dX9_tells_20 : decode cX9_tells 20 = .ok (.iload_n 3, 1) := by decide +kernel
theorem dX9_tells_21 : decode cX9_tells 21 = .ok (.i2l, 1) := by decide +kernel
theorem dX9_tells_22 : decode cX9_tells 22 = .ok (.lconst 0, 1) := by decide +kernel
theorem dX9_tells_23 : decode cX9_tells 23 = .ok (.ldc2_w 205, 3) := by decide +kernel
theorem dX9_tells_26 : decode cX9_tells 26 = .ok (.invokestatic 92, 3) := by decide +kernel
theorem dX9_tells_29 : decode cX9_tells 29 = .ok (.ifCond .ne 7, 3) := by decide +kernel
theorem dX9_tells_32 : decode cX9_tells 32 = .ok (.ldc2_w 207, 3) := by decide +kernel
theorem dX9_tells_35 : decode cX9_tells 35 = .ok (.lreturn, 1) := by decide +kernel
theorem dX9_tells_36 : decode cX9_tells 36 = .ok (.aload_n 0, 1) := by decide +kernel
theorem dX9_tells_37 : decode cX9_tells 37 = .ok (.iload_n 1, 1) := by decide +kernel
theorem dX9_tells_38 : decode cX9_tells 38 = .ok (.invokevirtual 137, 3) := by decide +kernel
theorem dX9_tells_41 : decode cX9_tells 41 = .ok (.lconst 0, 1) := by decide +kernel
theorem dX9_tells_42 : decode cX9_tells 42 = .ok (.lstore 4, 2) := by decide +kernel
theorem dX9_tells_44 : decode cX9_tells 44 = .ok (.iconst 0, 1) := by decide +kernel
theorem dX9_tells_45 : decode cX9_tells 45 = .ok (.istore 6, 2) := by decide +kernel
theorem dX9_tells_47 : decode cX9_tells 47 = .ok (.iload 6, 2) := by decide +kernel
theorem dX9_tells_49 : decode cX9_tells 49 = .ok (.aload_n 0, 1) := by decide +kernel
theorem dX9_tells_50 : decode cX9_tells 50 = .ok (.getfield 103, 3) := by decide +kernel
theorem dX9_tells_53 : decode cX9_tells 53 = .ok (.if_icmp .ge 33, 3) := by decide +kernel
theorem dX9_tells_56 : decode cX9_tells 56 = .ok (.lload 4, 2) := by decide +kernel
theorem dX9_tells_58 : decode cX9_tells 58 = .ok (.iload_n 2, 1) := by decide +kernel
theorem dX9_tells_59 : decode cX9_tells 59 = .ok (.aload_n 0, 1) := by decide +kernel
theorem dX9_tells_60 : decode cX9_tells 60 = .ok (.getfield 27, 3) := by decide +kernel
theorem dX9_tells_63 : decode cX9_tells 63 = .ok (.aload_n 0, 1) := by decide +kernel
theorem dX9_tells_64 : decode cX9_tells 64 = .ok (.getfield 100, 3) := by decide +kernel
theorem dX9_tells_67 : decode cX9_tells 67 = .ok (.iload 6, 2) := by decide +kernel
theorem dX9_tells_69 : decode cX9_tells 69 = .ok (.iadd, 1) := by decide +kernel
theorem dX9_tells_70 : decode cX9_tells 70 = .ok (.iaload, 1) := by decide +kernel
theorem dX9_tells_71 : decode cX9_tells 71 = .ok (.iload 6, 2) := by decide +kernel
theorem dX9_tells_73 : decode cX9_tells 73 = .ok (.iload_n 3, 1) := by decide +kernel
theorem dX9_tells_74 : decode cX9_tells 74 = .ok (.invokestatic 209, 3) := by decide +kernel
theorem dX9_tells_77 : decode cX9_tells 77 = .ok (.ladd, 1) := by decide +kernel
theorem dX9_tells_78 : decode cX9_tells 78 = .ok (.lstore 4, 2) := by decide +kernel
theorem dX9_tells_80 : decode cX9_tells 80 = .ok (.iinc 6 1, 3) := by decide +kernel
theorem dX9_tells_83 : decode cX9_tells 83 = .ok (.goto (-36), 3) := by decide +kernel
theorem dX9_tells_86 : decode cX9_tells 86 = .ok (.lload 4, 2) := by decide +kernel
theorem dX9_tells_88 : decode cX9_tells 88 = .ok (.lreturn, 1) := by decide +kernel
theorem dX9_feed_0 : decode cX9_feed 0 = .ok (.iload_n 2, 1) := by decide +kernel
theorem dX9_feed_1 : decode cX9_feed 1 = .ok (.i2l, 1) := by decide +kernel
theorem dX9_feed_2 : decode cX9_feed 2 = .ok (.lconst 1, 1) := by decide +kernel
theorem dX9_feed_3 : decode cX9_feed 3 = .ok (.ldc2_w 213, 3) := by decide +kernel
theorem dX9_feed_6 : decode cX9_feed 6 = .ok (.invokestatic 92, 3) := by decide +kernel
theorem dX9_feed_9 : decode cX9_feed 9 = .ok (.ifCond .ne 5, 3) := by decide +kernel
theorem dX9_feed_12 : decode cX9_feed 12 = .ok (.iconst (-1), 1) := by decide +kernel
theorem dX9_feed_13 : decode cX9_feed 13 = .ok (.ireturn, 1) := by decide +kernel
theorem dX9_feed_14 : decode cX9_feed 14 = .ok (.aload_n 0, 1) := by decide +kernel
theorem dX9_feed_15 : decode cX9_feed 15 = .ok (.getfield 215, 3) := by decide +kernel
theorem dX9_feed_18 : decode cX9_feed 18 = .ok (.iload_n 2, 1) := by decide +kernel
theorem dX9_feed_19 : decode cX9_feed 19 = .ok (.iadd, 1) := by decide +kernel
theorem dX9_feed_20 : decode cX9_feed 20 = .ok (.bipush 80, 2) := by decide +kernel
theorem dX9_feed_22 : decode cX9_feed 22 = .ok (.if_icmp .le 6, 3) := by decide +kernel
theorem dX9_feed_25 : decode cX9_feed 25 = .ok (.bipush (-3), 2) := by decide +kernel
theorem dX9_feed_27 : decode cX9_feed 27 = .ok (.ireturn, 1) := by decide +kernel
theorem dX9_feed_28 : decode cX9_feed 28 = .ok (.iload_n 2, 1) := by decide +kernel
theorem dX9_feed_29 : decode cX9_feed 29 = .ok (.iconst 1, 1) := by decide +kernel
theorem dX9_feed_30 : decode cX9_feed 30 = .ok (.isub, 1) := by decide +kernel
theorem dX9_feed_31 : decode cX9_feed 31 = .ok (.istore_n 3, 1) := by decide +kernel
theorem dX9_feed_32 : decode cX9_feed 32 = .ok (.iload_n 3, 1) := by decide +kernel
theorem dX9_feed_33 : decode cX9_feed 33 = .ok (.ifCond .lt 38, 3) := by decide +kernel
theorem dX9_feed_36 : decode cX9_feed 36 = .ok (.aload_n 0, 1) := by decide +kernel
theorem dX9_feed_37 : decode cX9_feed 37 = .ok (.getfield 53, 3) := by decide +kernel
theorem dX9_feed_40 : decode cX9_feed 40 = .ok (.aload_n 0, 1) := by decide +kernel
theorem dX9_feed_41 : decode cX9_feed 41 = .ok (.getfield 215, 3) := by decide +kernel
theorem dX9_feed_44 : decode cX9_feed 44 = .ok (.iload_n 1, 1) := by decide +kernel
theorem dX9_feed_45 : decode cX9_feed 45 = .ok (.bipush 8, 2) := by decide +kernel
theorem dX9_feed_47 : decode cX9_feed 47 = .ok (.iload_n 3, 1) := by decide +kernel
theorem dX9_feed_48 : decode cX9_feed 48 = .ok (.imul, 1) := by decide +kernel
theorem dX9_feed_49 : decode cX9_feed 49 = .ok (.iushr, 1) := by decide +kernel
theorem dX9_feed_50 : decode cX9_feed 50 = .ok (.sipush 255, 3) := by decide +kernel
theorem dX9_feed_53 : decode cX9_feed 53 = .ok (.iand, 1) := by decide +kernel
theorem dX9_feed_54 : decode cX9_feed 54 = .ok (.iastore, 1) := by decide +kernel
theorem dX9_feed_55 : decode cX9_feed 55 = .ok (.aload_n 0, 1) := by decide +kernel
theorem dX9_feed_56 : decode cX9_feed 56 = .ok (.dup, 1) := by decide +kernel
theorem dX9_feed_57 : decode cX9_feed 57 = .ok (.getfield 215, 3) := by decide +kernel
theorem dX9_feed_60 : decode cX9_feed 60 = .ok (.iconst 1, 1) := by decide +kernel
theorem dX9_feed_61 : decode cX9_feed 61 = .ok (.iadd, 1) := by decide +kernel
theorem dX9_feed_62 : decode cX9_feed 62 = .ok (.putfield 215, 3) := by decide +kernel
theorem dX9_feed_65 : decode cX9_feed 65 = .ok (.iinc 3 (-1), 3) := by decide +kernel
theorem dX9_feed_68 : decode cX9_feed 68 = .ok (.goto (-36), 3) := by decide +kernel
theorem dX9_feed_71 : decode cX9_feed 71 = .ok (.aload_n 0, 1) := by decide +kernel
theorem dX9_feed_72 : decode cX9_feed 72 = .ok (.getfield 215, 3) := by decide +kernel
theorem dX9_feed_75 : decode cX9_feed 75 = .ok (.ireturn, 1) := by decide +kernel
theorem dX9_wipe_0 : decode cX9_wipe 0 = .ok (.aload_n 0, 1) := by decide +kernel
theorem dX9_wipe_1 : decode cX9_wipe 1 = .ok (.getfield 215, 3) := by decide +kernel
theorem dX9_wipe_4 : decode cX9_wipe 4 = .ok (.istore_n 1, 1) := by decide +kernel
theorem dX9_wipe_5 : decode cX9_wipe 5 = .ok (.aload_n 0, 1) := by decide +kernel
theorem dX9_wipe_6 : decode cX9_wipe 6 = .ok (.iconst 0, 1) := by decide +kernel
theorem dX9_wipe_7 : decode cX9_wipe 7 = .ok (.putfield 215, 3) := by decide +kernel
theorem dX9_wipe_10 : decode cX9_wipe 10 = .ok (.iload_n 1, 1) := by decide +kernel
theorem dX9_wipe_11 : decode cX9_wipe 11 = .ok (.ireturn, 1) := by decide +kernel
theorem dX9_isAt_0 : decode cX9_isAt 0 = .ok (.aload_n 0, 1) := by decide +kernel
theorem dX9_isAt_1 : decode cX9_isAt 1 = .ok (.getfield 218, 3) := by decide +kernel
theorem dX9_isAt_4 : decode cX9_isAt 4 = .ok (.aload_n 0, 1) := by decide +kernel
theorem dX9_isAt_5 : decode cX9_isAt 5 = .ok (.getfield 221, 3) := by decide +kernel
theorem dX9_isAt_8 : decode cX9_isAt 8 = .ok (.if_icmp .ge 27, 3) := by decide +kernel
theorem dX9_isAt_11 : decode cX9_isAt 11 = .ok (.aload_n 0, 1) := by decide +kernel
theorem dX9_isAt_12 : decode cX9_isAt 12 = .ok (.getfield 53, 3) := by decide +kernel
theorem dX9_isAt_15 : decode cX9_isAt 15 = .ok (.aload_n 0, 1) := by decide +kernel
theorem dX9_isAt_16 : decode cX9_isAt 16 = .ok (.getfield 218, 3) := by decide +kernel
theorem dX9_isAt_19 : decode cX9_isAt 19 = .ok (.iaload, 1) := by decide +kernel
theorem dX9_isAt_20 : decode cX9_isAt 20 = .ok (.i2l, 1) := by decide +kernel
theorem dX9_isAt_21 : decode cX9_isAt 21 = .ok (.iload_n 1, 1) := by decide +kernel
theorem dX9_isAt_22 : decode cX9_isAt 22 = .ok (.i2l, 1) := by decide +kernel
theorem dX9_isAt_23 : decode cX9_isAt 23 = .ok (.iload_n 2, 1) := by decide +kernel
theorem dX9_isAt_24 : decode cX9_isAt 24 = .ok (.i2l, 1) := by decide +kernel
theorem dX9_isAt_25 : decode cX9_isAt 25 = .ok (.invokestatic 92, 3) := by decide +kernel
theorem dX9_isAt_28 : decode cX9_isAt 28 = .ok (.ifCond .eq 7, 3) := by decide +kernel
theorem dX9_isAt_31 : decode cX9_isAt 31 = .ok (.iconst 1, 1) := by decide +kernel
theorem dX9_isAt_32 : decode cX9_isAt 32 = .ok (.goto 4, 3) := by decide +kernel
theorem dX9_isAt_35 : decode cX9_isAt 35 = .ok (.iconst 0, 1) := by decide +kernel
theorem dX9_isAt_36 : decode cX9_isAt 36 = .ok (.ireturn, 1) := by decide +kernel
theorem dX9_wordOf_0 : decode cX9_wordOf 0 = .ok (.iconst 0, 1) := by decide +kernel
theorem dX9_wordOf_1 : decode cX9_wordOf 1 = .ok (.istore_n 3, 1) := by decide +kernel
theorem dX9_wordOf_2 : decode cX9_wordOf 2 = .ok (.iconst 0, 1) := by decide +kernel
theorem dX9_wordOf_3 : decode cX9_wordOf 3 = .ok (.istore 4, 2) := by decide +kernel
theorem dX9_wordOf_5 : decode cX9_wordOf 5 = .ok (.iload 4, 2) := by decide +kernel
theorem dX9_wordOf_7 : decode cX9_wordOf 7 = .ok (.bipush 8, 2) := by decide +kernel
theorem dX9_wordOf_9 : decode cX9_wordOf 9 = .ok (.if_icmp .ge 99, 3) := by decide +kernel
theorem dX9_wordOf_12 : decode cX9_wordOf 12 = .ok (.iload_n 3, 1) := by decide +kernel
theorem dX9_wordOf_13 : decode cX9_wordOf 13 = .ok (.istore 5, 2) := by decide +kernel
theorem dX9_wordOf_15 : decode cX9_wordOf 15 = .ok (.iconst 1, 1) := by decide +kernel
theorem dX9_wordOf_16 : decode cX9_wordOf 16 = .ok (.istore 6, 2) := by decide +kernel
theorem dX9_wordOf_18 : decode cX9_wordOf 18 = .ok (.aload_n 0, 1) := by decide +kernel
theorem dX9_wordOf_19 : decode cX9_wordOf 19 = .ok (.getfield 43, 3) := by decide +kernel
theorem dX9_wordOf_22 : decode cX9_wordOf 22 = .ok (.iload 5, 2) := by decide +kernel
theorem dX9_wordOf_24 : decode cX9_wordOf 24 = .ok (.caload, 1) := by decide +kernel
theorem dX9_wordOf_25 : decode cX9_wordOf 25 = .ok (.bipush 32, 2) := by decide +kernel
theorem dX9_wordOf_27 : decode cX9_wordOf 27 = .ok (.if_icmp .eq 52, 3) := by decide +kernel
theorem dX9_wordOf_30 : decode cX9_wordOf 30 = .ok (.iload 6, 2) := by decide +kernel
theorem dX9_wordOf_32 : decode cX9_wordOf 32 = .ok (.ifCond .eq 38, 3) := by decide +kernel
theorem dX9_wordOf_35 : decode cX9_wordOf 35 = .ok (.iload_n 1, 1) := by decide +kernel
theorem dX9_wordOf_36 : decode cX9_wordOf 36 = .ok (.iload 5, 2) := by decide +kernel
theorem dX9_wordOf_38 : decode cX9_wordOf 38 = .ok (.iadd, 1) := by decide +kernel
theorem dX9_wordOf_39 : decode cX9_wordOf 39 = .ok (.iload_n 3, 1) := by decide +kernel
theorem dX9_wordOf_40 : decode cX9_wordOf 40 = .ok (.isub, 1) := by decide +kernel
theorem dX9_wordOf_41 : decode cX9_wordOf 41 = .ok (.iload_n 2, 1) := by decide +kernel
theorem dX9_wordOf_42 : decode cX9_wordOf 42 = .ok (.if_icmp .ge 28, 3) := by decide +kernel
theorem dX9_wordOf_45 : decode cX9_wordOf 45 = .ok (.aload_n 0, 1) := by decide +kernel
theorem dX9_wordOf_46 : decode cX9_wordOf 46 = .ok (.getfield 53, 3) := by decide +kernel
theorem dX9_wordOf_49 : decode cX9_wordOf 49 = .ok (.iload_n 1, 1) := by decide +kernel
theorem dX9_wordOf_50 : decode cX9_wordOf 50 = .ok (.iload 5, 2) := by decide +kernel
theorem dX9_wordOf_52 : decode cX9_wordOf 52 = .ok (.iadd, 1) := by decide +kernel
theorem dX9_wordOf_53 : decode cX9_wordOf 53 = .ok (.iload_n 3, 1) := by decide +kernel
theorem dX9_wordOf_54 : decode cX9_wordOf 54 = .ok (.isub, 1) := by decide +kernel
theorem dX9_wordOf_55 : decode cX9_wordOf 55 = .ok (.iaload, 1) := by decide +kernel
theorem dX9_wordOf_56 : decode cX9_wordOf 56 = .ok (.aload_n 0, 1) := by decide +kernel
theorem dX9_wordOf_57 : decode cX9_wordOf 57 = .ok (.getfield 43, 3) := by decide +kernel
theorem dX9_wordOf_60 : decode cX9_wordOf 60 = .ok (.iload 5, 2) := by decide +kernel
theorem dX9_wordOf_62 : decode cX9_wordOf 62 = .ok (.caload, 1) := by decide +kernel
theorem dX9_wordOf_63 : decode cX9_wordOf 63 = .ok (.if_icmp .ne 7, 3) := by decide +kernel
theorem dX9_wordOf_66 : decode cX9_wordOf 66 = .ok (.iconst 1, 1) := by decide +kernel
theorem dX9_wordOf_67 : decode cX9_wordOf 67 = .ok (.goto 4, 3) := by decide +kernel
theorem dX9_wordOf_70 : decode cX9_wordOf 70 = .ok (.iconst 0, 1) := by decide +kernel
theorem dX9_wordOf_71 : decode cX9_wordOf 71 = .ok (.istore 6, 2) := by decide +kernel
theorem dX9_wordOf_73 : decode cX9_wordOf 73 = .ok (.iinc 5 1, 3) := by decide +kernel
theorem dX9_wordOf_76 : decode cX9_wordOf 76 = .ok (.goto (-58), 3) := by decide +kernel
theorem dX9_wordOf_79 : decode cX9_wordOf 79 = .ok (.iload 6, 2) := by decide +kernel
theorem dX9_wordOf_81 : decode cX9_wordOf 81 = .ok (.ifCond .eq 16, 3) := by decide +kernel
theorem dX9_wordOf_84 : decode cX9_wordOf 84 = .ok (.iload 5, 2) := by decide +kernel
theorem dX9_wordOf_86 : decode cX9_wordOf 86 = .ok (.iload_n 3, 1) := by decide +kernel
theorem dX9_wordOf_87 : decode cX9_wordOf 87 = .ok (.isub, 1) := by decide +kernel
theorem dX9_wordOf_88 : decode cX9_wordOf 88 = .ok (.iload_n 2, 1) := by decide +kernel
theorem dX9_wordOf_89 : decode cX9_wordOf 89 = .ok (.iload_n 1, 1) := by decide +kernel
theorem dX9_wordOf_90 : decode cX9_wordOf 90 = .ok (.isub, 1) := by decide +kernel
theorem dX9_wordOf_91 : decode cX9_wordOf 91 = .ok (.if_icmp .ne 6, 3) := by decide +kernel
theorem dX9_wordOf_94 : decode cX9_wordOf 94 = .ok (.iload 4, 2) := by decide +kernel
theorem dX9_wordOf_96 : decode cX9_wordOf 96 = .ok (.ireturn, 1) := by decide +kernel
theorem dX9_wordOf_97 : decode cX9_wordOf 97 = .ok (.iload 5, 2) := by decide +kernel
theorem dX9_wordOf_99 : decode cX9_wordOf 99 = .ok (.iconst 1, 1) := by decide +kernel
theorem dX9_wordOf_100 : decode cX9_wordOf 100 = .ok (.iadd, 1) := by decide +kernel
theorem dX9_wordOf_101 : decode cX9_wordOf 101 = .ok (.istore_n 3, 1) := by decide +kernel
theorem dX9_wordOf_102 : decode cX9_wordOf 102 = .ok (.iinc 4 1, 3) := by decide +kernel
theorem dX9_wordOf_105 : decode cX9_wordOf 105 = .ok (.goto (-100), 3) := by decide +kernel
theorem dX9_wordOf_108 : decode cX9_wordOf 108 = .ok (.iconst (-1), 1) := by decide +kernel
theorem dX9_wordOf_109 : decode cX9_wordOf 109 = .ok (.ireturn, 1) := by decide +kernel
theorem dX9_commandOf_0 : decode cX9_commandOf 0 = .ok (.iconst 0, 1) := by decide +kernel
theorem dX9_commandOf_1 : decode cX9_commandOf 1 = .ok (.istore_n 3, 1) := by decide +kernel
theorem dX9_commandOf_2 : decode cX9_commandOf 2 = .ok (.iconst 0, 1) := by decide +kernel
theorem dX9_commandOf_3 : decode cX9_commandOf 3 = .ok (.istore 4, 2) := by decide +kernel
theorem dX9_commandOf_5 : decode cX9_commandOf 5 = .ok (.iload 4, 2) := by decide +kernel
theorem dX9_commandOf_7 : decode cX9_commandOf 7 = .ok (.iconst 5, 1) := by decide +kernel
theorem dX9_commandOf_8 : decode cX9_commandOf 8 = .ok (.if_icmp .ge 99, 3) := by decide +kernel
theorem dX9_commandOf_11 : decode cX9_commandOf 11 = .ok (.iload_n 3, 1) := by decide +kernel
theorem dX9_commandOf_12 : decode cX9_commandOf 12 = .ok (.istore 5, 2) := by decide +kernel
theorem dX9_commandOf_14 : decode cX9_commandOf 14 = .ok (.iconst 1, 1) := by decide +kernel
theorem dX9_commandOf_15 : decode cX9_commandOf 15 = .ok (.istore 6, 2) := by decide +kernel
theorem dX9_commandOf_17 : decode cX9_commandOf 17 = .ok (.aload_n 0, 1) := by decide +kernel
theorem dX9_commandOf_18 : decode cX9_commandOf 18 = .ok (.getfield 47, 3) := by decide +kernel
theorem dX9_commandOf_21 : decode cX9_commandOf 21 = .ok (.iload 5, 2) := by decide +kernel
theorem dX9_commandOf_23 : decode cX9_commandOf 23 = .ok (.caload, 1) := by decide +kernel
theorem dX9_commandOf_24 : decode cX9_commandOf 24 = .ok (.bipush 32, 2) := by decide +kernel
theorem dX9_commandOf_26 : decode cX9_commandOf 26 = .ok (.if_icmp .eq 52, 3) := by decide +kernel
theorem dX9_commandOf_29 : decode cX9_commandOf 29 = .ok (.iload 6, 2) := by decide +kernel
theorem dX9_commandOf_31 : decode cX9_commandOf 31 = .ok (.ifCond .eq 38, 3) := by decide +kernel
theorem dX9_commandOf_34 : decode cX9_commandOf 34 = .ok (.iload_n 1, 1) := by decide +kernel
theorem dX9_commandOf_35 : decode cX9_commandOf 35 = .ok (.iload 5, 2) := by decide +kernel
theorem dX9_commandOf_37 : decode cX9_commandOf 37 = .ok (.iadd, 1) := by decide +kernel
theorem dX9_commandOf_38 : decode cX9_commandOf 38 = .ok (.iload_n 3, 1) := by decide +kernel
theorem dX9_commandOf_39 : decode cX9_commandOf 39 = .ok (.isub, 1) := by decide +kernel
theorem dX9_commandOf_40 : decode cX9_commandOf 40 = .ok (.iload_n 2, 1) := by decide +kernel
theorem dX9_commandOf_41 : decode cX9_commandOf 41 = .ok (.if_icmp .ge 28, 3) := by decide +kernel
theorem dX9_commandOf_44 : decode cX9_commandOf 44 = .ok (.aload_n 0, 1) := by decide +kernel
theorem dX9_commandOf_45 : decode cX9_commandOf 45 = .ok (.getfield 53, 3) := by decide +kernel
theorem dX9_commandOf_48 : decode cX9_commandOf 48 = .ok (.iload_n 1, 1) := by decide +kernel
theorem dX9_commandOf_49 : decode cX9_commandOf 49 = .ok (.iload 5, 2) := by decide +kernel
theorem dX9_commandOf_51 : decode cX9_commandOf 51 = .ok (.iadd, 1) := by decide +kernel
theorem dX9_commandOf_52 : decode cX9_commandOf 52 = .ok (.iload_n 3, 1) := by decide +kernel
theorem dX9_commandOf_53 : decode cX9_commandOf 53 = .ok (.isub, 1) := by decide +kernel
theorem dX9_commandOf_54 : decode cX9_commandOf 54 = .ok (.iaload, 1) := by decide +kernel
theorem dX9_commandOf_55 : decode cX9_commandOf 55 = .ok (.aload_n 0, 1) := by decide +kernel
theorem dX9_commandOf_56 : decode cX9_commandOf 56 = .ok (.getfield 47, 3) := by decide +kernel
theorem dX9_commandOf_59 : decode cX9_commandOf 59 = .ok (.iload 5, 2) := by decide +kernel
theorem dX9_commandOf_61 : decode cX9_commandOf 61 = .ok (.caload, 1) := by decide +kernel
theorem dX9_commandOf_62 : decode cX9_commandOf 62 = .ok (.if_icmp .ne 7, 3) := by decide +kernel
theorem dX9_commandOf_65 : decode cX9_commandOf 65 = .ok (.iconst 1, 1) := by decide +kernel
theorem dX9_commandOf_66 : decode cX9_commandOf 66 = .ok (.goto 4, 3) := by decide +kernel
theorem dX9_commandOf_69 : decode cX9_commandOf 69 = .ok (.iconst 0, 1) := by decide +kernel
theorem dX9_commandOf_70 : decode cX9_commandOf 70 = .ok (.istore 6, 2) := by decide +kernel
theorem dX9_commandOf_72 : decode cX9_commandOf 72 = .ok (.iinc 5 1, 3) := by decide +kernel
theorem dX9_commandOf_75 : decode cX9_commandOf 75 = .ok (.goto (-58), 3) := by decide +kernel
theorem dX9_commandOf_78 : decode cX9_commandOf 78 = .ok (.iload 6, 2) := by decide +kernel
theorem dX9_commandOf_80 : decode cX9_commandOf 80 = .ok (.ifCond .eq 16, 3) := by decide +kernel
theorem dX9_commandOf_83 : decode cX9_commandOf 83 = .ok (.iload 5, 2) := by decide +kernel
theorem dX9_commandOf_85 : decode cX9_commandOf 85 = .ok (.iload_n 3, 1) := by decide +kernel
theorem dX9_commandOf_86 : decode cX9_commandOf 86 = .ok (.isub, 1) := by decide +kernel
theorem dX9_commandOf_87 : decode cX9_commandOf 87 = .ok (.iload_n 2, 1) := by decide +kernel
theorem dX9_commandOf_88 : decode cX9_commandOf 88 = .ok (.iload_n 1, 1) := by decide +kernel
theorem dX9_commandOf_89 : decode cX9_commandOf 89 = .ok (.isub, 1) := by decide +kernel
theorem dX9_commandOf_90 : decode cX9_commandOf 90 = .ok (.if_icmp .ne 6, 3) := by decide +kernel
theorem dX9_commandOf_93 : decode cX9_commandOf 93 = .ok (.iload 4, 2) := by decide +kernel
theorem dX9_commandOf_95 : decode cX9_commandOf 95 = .ok (.ireturn, 1) := by decide +kernel
theorem dX9_commandOf_96 : decode cX9_commandOf 96 = .ok (.iload 5, 2) := by decide +kernel
theorem dX9_commandOf_98 : decode cX9_commandOf 98 = .ok (.iconst 1, 1) := by decide +kernel
theorem dX9_commandOf_99 : decode cX9_commandOf 99 = .ok (.iadd, 1) := by decide +kernel
theorem dX9_commandOf_100 : decode cX9_commandOf 100 = .ok (.istore_n 3, 1) := by decide +kernel
theorem dX9_commandOf_101 : decode cX9_commandOf 101 = .ok (.iinc 4 1, 3) := by decide +kernel
theorem dX9_commandOf_104 : decode cX9_commandOf 104 = .ok (.goto (-99), 3) := by decide +kernel
theorem dX9_commandOf_107 : decode cX9_commandOf 107 = .ok (.iconst (-1), 1) := by decide +kernel
theorem dX9_commandOf_108 : decode cX9_commandOf 108 = .ok (.ireturn, 1) := by decide +kernel
theorem dX9_thin_0 : decode cX9_thin 0 = .ok (.aload_n 0, 1) := by decide +kernel
theorem dX9_thin_1 : decode cX9_thin 1 = .ok (.aload_n 0, 1) := by decide +kernel
theorem dX9_thin_2 : decode cX9_thin 2 = .ok (.getfield 215, 3) := by decide +kernel
theorem dX9_thin_5 : decode cX9_thin 5 = .ok (.putfield 221, 3) := by decide +kernel
theorem dX9_thin_8 : decode cX9_thin 8 = .ok (.aload_n 0, 1) := by decide +kernel
theorem dX9_thin_9 : decode cX9_thin 9 = .ok (.iconst 0, 1) := by decide +kernel
theorem dX9_thin_10 : decode cX9_thin 10 = .ok (.putfield 215, 3) := by decide +kernel
theorem dX9_thin_13 : decode cX9_thin 13 = .ok (.aload_n 0, 1) := by decide +kernel
theorem dX9_thin_14 : decode cX9_thin 14 = .ok (.getfield 221, 3) := by decide +kernel
theorem dX9_thin_17 : decode cX9_thin 17 = .ok (.iconst 4, 1) := by decide +kernel
theorem dX9_thin_18 : decode cX9_thin 18 = .ok (.if_icmp .lt 7, 3) := by decide +kernel
theorem dX9_thin_21 : decode cX9_thin 21 = .ok (.iconst 1, 1) := by decide +kernel
theorem dX9_thin_22 : decode cX9_thin 22 = .ok (.goto 4, 3) := by decide +kernel
theorem dX9_thin_25 : decode cX9_thin 25 = .ok (.iconst 0, 1) := by decide +kernel
theorem dX9_thin_26 : decode cX9_thin 26 = .ok (.istore_n 1, 1) := by decide +kernel
theorem dX9_thin_27 : decode cX9_thin 27 = .ok (.iconst 0, 1) := by decide +kernel
theorem dX9_thin_28 : decode cX9_thin 28 = .ok (.istore_n 2, 1) := by decide +kernel
theorem dX9_thin_29 : decode cX9_thin 29 = .ok (.iload_n 2, 1) := by decide +kernel
theorem dX9_thin_30 : decode cX9_thin 30 = .ok (.iconst 4, 1) := by decide +kernel
theorem dX9_thin_31 : decode cX9_thin 31 = .ok (.if_icmp .ge 34, 3) := by decide +kernel
theorem dX9_thin_34 : decode cX9_thin 34 = .ok (.iload_n 1, 1) := by decide +kernel
theorem dX9_thin_35 : decode cX9_thin 35 = .ok (.ifCond .eq 30, 3) := by decide +kernel
theorem dX9_thin_38 : decode cX9_thin 38 = .ok (.aload_n 0, 1) := by decide +kernel
theorem dX9_thin_39 : decode cX9_thin 39 = .ok (.getfield 53, 3) := by decide +kernel
theorem dX9_thin_42 : decode cX9_thin 42 = .ok (.iload_n 2, 1) := by decide +kernel
theorem dX9_thin_43 : decode cX9_thin 43 = .ok (.iaload, 1) := by decide +kernel
theorem dX9_thin_44 : decode cX9_thin 44 = .ok (.aload_n 0, 1) := by decide +kernel
theorem dX9_thin_45 : decode cX9_thin 45 = .ok (.getfield 50, 3) := by decide +kernel
theorem dX9_thin_48 : decode cX9_thin 48 = .ok (.iload_n 2, 1) := by decide +kernel
theorem dX9_thin_49 : decode cX9_thin 49 = .ok (.caload, 1) := by decide +kernel
theorem dX9_thin_50 : decode cX9_thin 50 = .ok (.if_icmp .ne 7, 3) := by decide +kernel
theorem dX9_thin_53 : decode cX9_thin 53 = .ok (.iconst 1, 1) := by decide +kernel
theorem dX9_thin_54 : decode cX9_thin 54 = .ok (.goto 4, 3) := by decide +kernel
theorem dX9_thin_57 : decode cX9_thin 57 = .ok (.iconst 0, 1) := by decide +kernel
theorem dX9_thin_58 : decode cX9_thin 58 = .ok (.istore_n 1, 1) := by decide +kernel
theorem dX9_thin_59 : decode cX9_thin 59 = .ok (.iinc 2 1, 3) := by decide +kernel
theorem dX9_thin_62 : decode cX9_thin 62 = .ok (.goto (-33), 3) := by decide +kernel
theorem dX9_thin_65 : decode cX9_thin 65 = .ok (.aload_n 0, 1) := by decide +kernel
theorem dX9_thin_66 : decode cX9_thin 66 = .ok (.iload_n 1, 1) := by decide +kernel
theorem dX9_thin_67 : decode cX9_thin 67 = .ok (.ifCond .eq 7, 3) := by decide +kernel
theorem dX9_thin_70 : decode cX9_thin 70 = .ok (.iconst 4, 1) := by decide +kernel
theorem dX9_thin_71 : decode cX9_thin 71 = .ok (.goto 4, 3) := by decide +kernel
theorem dX9_thin_74 : decode cX9_thin 74 = .ok (.iconst 0, 1) := by decide +kernel
theorem dX9_thin_75 : decode cX9_thin 75 = .ok (.aload_n 0, 1) := by decide +kernel
theorem dX9_thin_76 : decode cX9_thin 76 = .ok (.getfield 221, 3) := by decide +kernel
theorem dX9_thin_79 : decode cX9_thin 79 = .ok (.invokevirtual 224, 3) := by decide +kernel
theorem dX9_thin_82 : decode cX9_thin 82 = .ok (.istore_n 2, 1) := by decide +kernel
theorem dX9_thin_83 : decode cX9_thin 83 = .ok (.iload_n 2, 1) := by decide +kernel
theorem dX9_thin_84 : decode cX9_thin 84 = .ok (.iconst (-1), 1) := by decide +kernel
theorem dX9_thin_85 : decode cX9_thin 85 = .ok (.if_icmp .ne 5, 3) := by decide +kernel
theorem dX9_thin_88 : decode cX9_thin 88 = .ok (.iconst (-1), 1) := by decide +kernel
theorem dX9_thin_89 : decode cX9_thin 89 = .ok (.ireturn, 1) := by decide +kernel
theorem dX9_thin_90 : decode cX9_thin 90 = .ok (.iconst 0, 1) := by decide +kernel
theorem dX9_thin_91 : decode cX9_thin 91 = .ok (.istore_n 3, 1) := by decide +kernel
theorem dX9_thin_92 : decode cX9_thin 92 = .ok (.iconst 0, 1) := by decide +kernel
theorem dX9_thin_93 : decode cX9_thin 93 = .ok (.istore 4, 2) := by decide +kernel
theorem dX9_thin_95 : decode cX9_thin 95 = .ok (.iload 4, 2) := by decide +kernel
theorem dX9_thin_97 : decode cX9_thin 97 = .ok (.aload_n 0, 1) := by decide +kernel
theorem dX9_thin_98 : decode cX9_thin 98 = .ok (.getfield 194, 3) := by decide +kernel
theorem dX9_thin_101 : decode cX9_thin 101 = .ok (.if_icmp .ge 41, 3) := by decide +kernel
theorem dX9_thin_104 : decode cX9_thin 104 = .ok (.aload_n 0, 1) := by decide +kernel
theorem dX9_thin_105 : decode cX9_thin 105 = .ok (.iload_n 2, 1) := by decide +kernel
theorem dX9_thin_106 : decode cX9_thin 106 = .ok (.aload_n 0, 1) := by decide +kernel
theorem dX9_thin_107 : decode cX9_thin 107 = .ok (.getfield 40, 3) := by decide +kernel
theorem dX9_thin_110 : decode cX9_thin 110 = .ok (.iload 4, 2) := by decide +kernel
theorem dX9_thin_112 : decode cX9_thin 112 = .ok (.iaload, 1) := by decide +kernel
theorem dX9_thin_113 : decode cX9_thin 113 = .ok (.invokevirtual 227, 3) := by decide +kernel
theorem dX9_thin_116 : decode cX9_thin 116 = .ok (.iload_n 1, 1) := by decide +kernel
theorem dX9_thin_117 : decode cX9_thin 117 = .ok (.if_icmp .eq 19, 3) := by decide +kernel
theorem dX9_thin_120 : decode cX9_thin 120 = .ok (.aload_n 0, 1) := by decide +kernel
theorem dX9_thin_121 : decode cX9_thin 121 = .ok (.getfield 40, 3) := by decide +kernel
theorem dX9_thin_124 : decode cX9_thin 124 = .ok (.iload_n 3, 1) := by decide +kernel
theorem dX9_thin_125 : decode cX9_thin 125 = .ok (.aload_n 0, 1) := by decide +kernel
theorem dX9_thin_126 : decode cX9_thin 126 = .ok (.getfield 40, 3) := by decide +kernel
theorem dX9_thin_129 : decode cX9_thin 129 = .ok (.iload 4, 2) := by decide +kernel
theorem dX9_thin_131 : decode cX9_thin 131 = .ok (.iaload, 1) := by decide +kernel
theorem dX9_thin_132 : decode cX9_thin 132 = .ok (.iastore, 1) := by decide +kernel
theorem dX9_thin_133 : decode cX9_thin 133 = .ok (.iinc 3 1, 3) := by decide +kernel
theorem dX9_thin_136 : decode cX9_thin 136 = .ok (.iinc 4 1, 3) := by decide +kernel
theorem dX9_thin_139 : decode cX9_thin 139 = .ok (.goto (-44), 3) := by decide +kernel
theorem dX9_thin_142 : decode cX9_thin 142 = .ok (.aload_n 0, 1) := by decide +kernel
theorem dX9_thin_143 : decode cX9_thin 143 = .ok (.iload_n 3, 1) := by decide +kernel
theorem dX9_thin_144 : decode cX9_thin 144 = .ok (.putfield 194, 3) := by decide +kernel
theorem dX9_thin_147 : decode cX9_thin 147 = .ok (.iload_n 3, 1) := by decide +kernel
theorem dX9_thin_148 : decode cX9_thin 148 = .ok (.ireturn, 1) := by decide +kernel
theorem dX9_signOf_0 : decode cX9_signOf 0 = .ok (.iload_n 0, 1) := by decide +kernel
theorem dX9_signOf_1 : decode cX9_signOf 1 = .ok (.bipush 10, 2) := by decide +kernel
theorem dX9_signOf_3 : decode cX9_signOf 3 = .ok (.if_icmp .ge 10, 3) := by decide +kernel
theorem dX9_signOf_6 : decode cX9_signOf 6 = .ok (.bipush 48, 2) := by decide +kernel
theorem dX9_signOf_8 : decode cX9_signOf 8 = .ok (.iload_n 0, 1) := by decide +kernel
theorem dX9_signOf_9 : decode cX9_signOf 9 = .ok (.iadd, 1) := by decide +kernel
theorem dX9_signOf_10 : decode cX9_signOf 10 = .ok (.goto 10, 3) := by decide +kernel
theorem dX9_signOf_13 : decode cX9_signOf 13 = .ok (.bipush 97, 2) := by decide +kernel
theorem dX9_signOf_15 : decode cX9_signOf 15 = .ok (.iload_n 0, 1) := by decide +kernel
theorem dX9_signOf_16 : decode cX9_signOf 16 = .ok (.iadd, 1) := by decide +kernel
theorem dX9_signOf_17 : decode cX9_signOf 17 = .ok (.bipush 10, 2) := by decide +kernel
theorem dX9_signOf_19 : decode cX9_signOf 19 = .ok (.isub, 1) := by decide +kernel
theorem dX9_signOf_20 : decode cX9_signOf 20 = .ok (.ireturn, 1) := by decide +kernel
theorem dX9_wholeSize_0 : decode cX9_wholeSize 0 = .ok (.iconst 1, 1) := by decide +kernel
theorem dX9_wholeSize_1 : decode cX9_wholeSize 1 = .ok (.istore_n 2, 1) := by decide +kernel
theorem dX9_wholeSize_2 : decode cX9_wholeSize 2 = .ok (.aload_n 0, 1) := by decide +kernel
theorem dX9_wholeSize_3 : decode cX9_wholeSize 3 = .ok (.getfield 11, 3) := by decide +kernel
theorem dX9_wholeSize_6 : decode cX9_wholeSize 6 = .ok (.iload_n 1, 1) := by decide +kernel
theorem dX9_wholeSize_7 : decode cX9_wholeSize 7 = .ok (.iaload, 1) := by decide +kernel
theorem dX9_wholeSize_8 : decode cX9_wholeSize 8 = .ok (.aload_n 0, 1) := by decide +kernel
theorem dX9_wholeSize_9 : decode cX9_wholeSize 9 = .ok (.getfield 15, 3) := by decide +kernel
theorem dX9_wholeSize_12 : decode cX9_wholeSize 12 = .ok (.iload_n 1, 1) := by decide +kernel
theorem dX9_wholeSize_13 : decode cX9_wholeSize 13 = .ok (.iaload, 1) := by decide +kernel
theorem dX9_wholeSize_14 : decode cX9_wholeSize 14 = .ok (.idiv, 1) := by decide +kernel
theorem dX9_wholeSize_15 : decode cX9_wholeSize 15 = .ok (.aload_n 0, 1) := by decide +kernel
theorem dX9_wholeSize_16 : decode cX9_wholeSize 16 = .ok (.getfield 18, 3) := by decide +kernel
theorem dX9_wholeSize_19 : decode cX9_wholeSize 19 = .ok (.iload_n 1, 1) := by decide +kernel
theorem dX9_wholeSize_20 : decode cX9_wholeSize 20 = .ok (.iaload, 1) := by decide +kernel
theorem dX9_wholeSize_21 : decode cX9_wholeSize 21 = .ok (.idiv, 1) := by decide +kernel
theorem dX9_wholeSize_22 : decode cX9_wholeSize 22 = .ok (.istore_n 3, 1) := by decide +kernel
theorem dX9_wholeSize_23 : decode cX9_wholeSize 23 = .ok (.iload_n 3, 1) := by decide +kernel
theorem dX9_wholeSize_24 : decode cX9_wholeSize 24 = .ok (.ifCond .le 18, 3) := by decide +kernel
theorem dX9_wholeSize_27 : decode cX9_wholeSize 27 = .ok (.iinc 2 1, 3) := by decide +kernel
theorem dX9_wholeSize_30 : decode cX9_wholeSize 30 = .ok (.iload_n 3, 1) := by decide +kernel
theorem dX9_wholeSize_31 : decode cX9_wholeSize 31 = .ok (.aload_n 0, 1) := by decide +kernel
theorem dX9_wholeSize_32 : decode cX9_wholeSize 32 = .ok (.getfield 18, 3) := by decide +kernel
theorem dX9_wholeSize_35 : decode cX9_wholeSize 35 = .ok (.iload_n 1, 1) := by decide +kernel
theorem dX9_wholeSize_36 : decode cX9_wholeSize 36 = .ok (.iaload, 1) := by decide +kernel
theorem dX9_wholeSize_37 : decode cX9_wholeSize 37 = .ok (.idiv, 1) := by decide +kernel
theorem dX9_wholeSize_38 : decode cX9_wholeSize 38 = .ok (.istore_n 3, 1) := by decide +kernel
theorem dX9_wholeSize_39 : decode cX9_wholeSize 39 = .ok (.goto (-16), 3) := by decide +kernel
theorem dX9_wholeSize_42 : decode cX9_wholeSize 42 = .ok (.iload_n 2, 1) := by decide +kernel
theorem dX9_wholeSize_43 : decode cX9_wholeSize 43 = .ok (.ireturn, 1) := by decide +kernel
theorem dX9_wholeDigit_0 : decode cX9_wholeDigit 0 = .ok (.aload_n 0, 1) := by decide +kernel
theorem dX9_wholeDigit_1 : decode cX9_wholeDigit 1 = .ok (.getfield 11, 3) := by decide +kernel
theorem dX9_wholeDigit_4 : decode cX9_wholeDigit 4 = .ok (.iload_n 1, 1) := by decide +kernel
theorem dX9_wholeDigit_5 : decode cX9_wholeDigit 5 = .ok (.iaload, 1) := by decide +kernel
theorem dX9_wholeDigit_6 : decode cX9_wholeDigit 6 = .ok (.aload_n 0, 1) := by decide +kernel
theorem dX9_wholeDigit_7 : decode cX9_wholeDigit 7 = .ok (.getfield 15, 3) := by decide +kernel
theorem dX9_wholeDigit_10 : decode cX9_wholeDigit 10 = .ok (.iload_n 1, 1) := by decide +kernel
theorem dX9_wholeDigit_11 : decode cX9_wholeDigit 11 = .ok (.iaload, 1) := by decide +kernel
theorem dX9_wholeDigit_12 : decode cX9_wholeDigit 12 = .ok (.idiv, 1) := by decide +kernel
theorem dX9_wholeDigit_13 : decode cX9_wholeDigit 13 = .ok (.istore_n 3, 1) := by decide +kernel
theorem dX9_wholeDigit_14 : decode cX9_wholeDigit 14 = .ok (.iconst 0, 1) := by decide +kernel
theorem dX9_wholeDigit_15 : decode cX9_wholeDigit 15 = .ok (.istore 4, 2) := by decide +kernel
theorem dX9_wholeDigit_17 : decode cX9_wholeDigit 17 = .ok (.iload 4, 2) := by decide +kernel
theorem dX9_wholeDigit_19 : decode cX9_wholeDigit 19 = .ok (.iload_n 2, 1) := by decide +kernel
theorem dX9_wholeDigit_20 : decode cX9_wholeDigit 20 = .ok (.if_icmp .ge 18, 3) := by decide +kernel
theorem dX9_wholeDigit_23 : decode cX9_wholeDigit 23 = .ok (.iload_n 3, 1) := by decide +kernel
theorem dX9_wholeDigit_24 : decode cX9_wholeDigit 24 = .ok (.aload_n 0, 1) := by decide +kernel
theorem dX9_wholeDigit_25 : decode cX9_wholeDigit 25 = .ok (.getfield 18, 3) := by decide +kernel
theorem dX9_wholeDigit_28 : decode cX9_wholeDigit 28 = .ok (.iload_n 1, 1) := by decide +kernel
theorem dX9_wholeDigit_29 : decode cX9_wholeDigit 29 = .ok (.iaload, 1) := by decide +kernel
theorem dX9_wholeDigit_30 : decode cX9_wholeDigit 30 = .ok (.idiv, 1) := by decide +kernel
theorem dX9_wholeDigit_31 : decode cX9_wholeDigit 31 = .ok (.istore_n 3, 1) := by decide +kernel
theorem dX9_wholeDigit_32 : decode cX9_wholeDigit 32 = .ok (.iinc 4 1, 3) := by decide +kernel
theorem dX9_wholeDigit_35 : decode cX9_wholeDigit 35 = .ok (.goto (-18), 3) := by decide +kernel
theorem dX9_wholeDigit_38 : decode cX9_wholeDigit 38 = .ok (.iload_n 3, 1) := by decide +kernel
theorem dX9_wholeDigit_39 : decode cX9_wholeDigit 39 = .ok (.aload_n 0, 1) := by decide +kernel
theorem dX9_wholeDigit_40 : decode cX9_wholeDigit 40 = .ok (.getfield 18, 3) := by decide +kernel
theorem dX9_wholeDigit_43 : decode cX9_wholeDigit 43 = .ok (.iload_n 1, 1) := by decide +kernel
theorem dX9_wholeDigit_44 : decode cX9_wholeDigit 44 = .ok (.iaload, 1) := by decide +kernel
theorem dX9_wholeDigit_45 : decode cX9_wholeDigit 45 = .ok (.irem, 1) := by decide +kernel
theorem dX9_wholeDigit_46 : decode cX9_wholeDigit 46 = .ok (.ireturn, 1) := by decide +kernel
theorem dX9_spell_0 : decode cX9_spell 0 = .ok (.aload_n 0, 1) := by decide +kernel
theorem dX9_spell_1 : decode cX9_spell 1 = .ok (.iload_n 1, 1) := by decide +kernel
theorem dX9_spell_2 : decode cX9_spell 2 = .ok (.invokevirtual 126, 3) := by decide +kernel
theorem dX9_spell_5 : decode cX9_spell 5 = .ok (.ifCond .eq 8, 3) := by decide +kernel
theorem dX9_spell_8 : decode cX9_spell 8 = .ok (.iload_n 2, 1) := by decide +kernel
theorem dX9_spell_9 : decode cX9_spell 9 = .ok (.iconst (-1), 1) := by decide +kernel
theorem dX9_spell_10 : decode cX9_spell 10 = .ok (.if_icmp .ge 5, 3) := by decide +kernel
theorem dX9_spell_13 : decode cX9_spell 13 = .ok (.iconst (-1), 1) := by decide +kernel
theorem dX9_spell_14 : decode cX9_spell 14 = .ok (.ireturn, 1) := by decide +kernel
theorem dX9_spell_15 : decode cX9_spell 15 = .ok (.aload_n 0, 1) := by decide +kernel
theorem dX9_spell_16 : decode cX9_spell 16 = .ok (.iload_n 1, 1) := by decide +kernel
theorem dX9_spell_17 : decode cX9_spell 17 = .ok (.invokevirtual 137, 3) := by decide +kernel
theorem dX9_spell_20 : decode cX9_spell 20 = .ok (.aload_n 0, 1) := by decide +kernel
theorem dX9_spell_21 : decode cX9_spell 21 = .ok (.iload_n 1, 1) := by decide +kernel
theorem dX9_spell_22 : decode cX9_spell 22 = .ok (.invokevirtual 230, 3) := by decide +kernel
theorem dX9_spell_25 : decode cX9_spell 25 = .ok (.istore_n 3, 1) := by decide +kernel
theorem dX9_spell_26 : decode cX9_spell 26 = .ok (.aload_n 0, 1) := by decide +kernel
theorem dX9_spell_27 : decode cX9_spell 27 = .ok (.getfield 24, 3) := by decide +kernel
theorem dX9_spell_30 : decode cX9_spell 30 = .ok (.iconst 0, 1) := by decide +kernel
theorem dX9_spell_31 : decode cX9_spell 31 = .ok (.iaload, 1) := by decide +kernel
theorem dX9_spell_32 : decode cX9_spell 32 = .ok (.ifCond .eq 7, 3) := by decide +kernel
theorem dX9_spell_35 : decode cX9_spell 35 = .ok (.iconst 1, 1) := by decide +kernel
theorem dX9_spell_36 : decode cX9_spell 36 = .ok (.goto 4, 3) := by decide +kernel
theorem dX9_spell_39 : decode cX9_spell 39 = .ok (.iconst 0, 1) := by decide +kernel
theorem dX9_spell_40 : decode cX9_spell 40 = .ok (.istore 4, 2) := by decide +kernel
theorem dX9_spell_42 : decode cX9_spell 42 = .ok (.iload_n 3, 1) := by decide +kernel
theorem dX9_spell_43 : decode cX9_spell 43 = .ok (.iload 4, 2) := by decide +kernel
theorem dX9_spell_45 : decode cX9_spell 45 = .ok (.ifCond .eq 12, 3) := by decide +kernel
theorem dX9_spell_48 : decode cX9_spell 48 = .ok (.iconst 1, 1) := by decide +kernel
theorem dX9_spell_49 : decode cX9_spell 49 = .ok (.aload_n 0, 1) := by decide +kernel
theorem dX9_spell_50 : decode cX9_spell 50 = .ok (.getfield 100, 3) := by decide +kernel
theorem dX9_spell_53 : decode cX9_spell 53 = .ok (.iadd, 1) := by decide +kernel
theorem dX9_spell_54 : decode cX9_spell 54 = .ok (.goto 4, 3) := by decide +kernel
theorem dX9_spell_57 : decode cX9_spell 57 = .ok (.iconst 0, 1) := by decide +kernel
theorem dX9_spell_58 : decode cX9_spell 58 = .ok (.iadd, 1) := by decide +kernel
theorem dX9_spell_59 : decode cX9_spell 59 = .ok (.aload_n 0, 1) := by decide +kernel
theorem dX9_spell_60 : decode cX9_spell 60 = .ok (.getfield 106, 3) := by decide +kernel
theorem dX9_spell_63 : decode cX9_spell 63 = .ok (.ifCond .eq 7, 3) := by decide +kernel
theorem dX9_spell_66 : decode cX9_spell 66 = .ok (.iconst 0, 1) := by decide +kernel
theorem dX9_spell_67 : decode cX9_spell 67 = .ok (.goto 9, 3) := by decide +kernel
theorem dX9_spell_70 : decode cX9_spell 70 = .ok (.iconst 2, 1) := by decide +kernel
theorem dX9_spell_71 : decode cX9_spell 71 = .ok (.aload_n 0, 1) := by decide +kernel
theorem dX9_spell_72 : decode cX9_spell 72 = .ok (.getfield 103, 3) := by decide +kernel
theorem dX9_spell_75 : decode cX9_spell 75 = .ok (.iadd, 1) := by decide +kernel
theorem dX9_spell_76 : decode cX9_spell 76 = .ok (.iadd, 1) := by decide +kernel
theorem dX9_spell_77 : decode cX9_spell 77 = .ok (.istore 5, 2) := by decide +kernel
theorem dX9_spell_79 : decode cX9_spell 79 = .ok (.iload_n 2, 1) := by decide +kernel
theorem dX9_spell_80 : decode cX9_spell 80 = .ok (.iconst (-1), 1) := by decide +kernel
theorem dX9_spell_81 : decode cX9_spell 81 = .ok (.if_icmp .ne 6, 3) := by decide +kernel
theorem dX9_spell_84 : decode cX9_spell 84 = .ok (.iload 5, 2) := by decide +kernel
theorem dX9_spell_86 : decode cX9_spell 86 = .ok (.ireturn, 1) := by decide +kernel
theorem dX9_spell_87 : decode cX9_spell 87 = .ok (.iload_n 2, 1) := by decide +kernel
theorem dX9_spell_88 : decode cX9_spell 88 = .ok (.iload 5, 2) := by decide +kernel
theorem dX9_spell_90 : decode cX9_spell 90 = .ok (.if_icmp .lt 6, 3) := by decide +kernel
theorem dX9_spell_93 : decode cX9_spell 93 = .ok (.bipush (-2), 2) := by decide +kernel
theorem dX9_spell_95 : decode cX9_spell 95 = .ok (.ireturn, 1) := by decide +kernel
theorem dX9_spell_96 : decode cX9_spell 96 = .ok (.iload_n 2, 1) := by decide +kernel
theorem dX9_spell_97 : decode cX9_spell 97 = .ok (.iload_n 3, 1) := by decide +kernel
theorem dX9_spell_98 : decode cX9_spell 98 = .ok (.if_icmp .ge 17, 3) := by decide +kernel
theorem dX9_spell_101 : decode cX9_spell 101 = .ok (.aload_n 0, 1) := by decide +kernel
theorem dX9_spell_102 : decode cX9_spell 102 = .ok (.iload_n 1, 1) := by decide +kernel
theorem dX9_spell_103 : decode cX9_spell 103 = .ok (.iload_n 3, 1) := by decide +kernel
theorem dX9_spell_104 : decode cX9_spell 104 = .ok (.iconst 1, 1) := by decide +kernel
theorem dX9_spell_105 : decode cX9_spell 105 = .ok (.isub, 1) := by decide +kernel
theorem dX9_spell_106 : decode cX9_spell 106 = .ok (.iload_n 2, 1) := by decide +kernel
theorem dX9_spell_107 : decode cX9_spell 107 = .ok (.isub, 1) := by decide +kernel
theorem dX9_spell_108 : decode cX9_spell 108 = .ok (.invokevirtual 233, 3) := by decide +kernel
theorem dX9_spell_111 : decode cX9_spell 111 = .ok (.invokestatic 236, 3) := by decide +kernel
theorem dX9_spell_114 : decode cX9_spell 114 = .ok (.ireturn, 1) := by decide +kernel
theorem dX9_spell_115 : decode cX9_spell 115 = .ok (.iload_n 2, 1) := by decide +kernel
theorem dX9_spell_116 : decode cX9_spell 116 = .ok (.iload_n 3, 1) := by decide +kernel
theorem dX9_spell_117 : decode cX9_spell 117 = .ok (.isub, 1) := by decide +kernel
theorem dX9_spell_118 : decode cX9_spell 118 = .ok (.iconst 1, 1) := by decide +kernel
theorem dX9_spell_119 : decode cX9_spell 119 = .ok (.isub, 1) := by decide +kernel
theorem dX9_spell_120 : decode cX9_spell 120 = .ok (.istore 6, 2) := by decide +kernel
theorem dX9_spell_122 : decode cX9_spell 122 = .ok (.iload 6, 2) := by decide +kernel
theorem dX9_spell_124 : decode cX9_spell 124 = .ok (.ifCond .ge 6, 3) := by decide +kernel
theorem dX9_spell_127 : decode cX9_spell 127 = .ok (.bipush 46, 2) := by decide +kernel
theorem dX9_spell_129 : decode cX9_spell 129 = .ok (.ireturn, 1) := by decide +kernel
theorem dX9_spell_130 : decode cX9_spell 130 = .ok (.iload 6, 2) := by decide +kernel
theorem dX9_spell_132 : decode cX9_spell 132 = .ok (.aload_n 0, 1) := by decide +kernel
theorem dX9_spell_133 : decode cX9_spell 133 = .ok (.getfield 100, 3) := by decide +kernel
theorem dX9_spell_136 : decode cX9_spell 136 = .ok (.if_icmp .ge 14, 3) := by decide +kernel
theorem dX9_spell_139 : decode cX9_spell 139 = .ok (.aload_n 0, 1) := by decide +kernel
theorem dX9_spell_140 : decode cX9_spell 140 = .ok (.getfield 27, 3) := by decide +kernel
theorem dX9_spell_143 : decode cX9_spell 143 = .ok (.iload 6, 2) := by decide +kernel
theorem dX9_spell_145 : decode cX9_spell 145 = .ok (.iaload, 1) := by decide +kernel
theorem dX9_spell_146 : decode cX9_spell 146 = .ok (.invokestatic 236, 3) := by decide +kernel
theorem dX9_spell_149 : decode cX9_spell 149 = .ok (.ireturn, 1) := by decide +kernel
theorem dX9_spell_150 : decode cX9_spell 150 = .ok (.iload 6, 2) := by decide +kernel
theorem dX9_spell_152 : decode cX9_spell 152 = .ok (.aload_n 0, 1) := by decide +kernel
theorem dX9_spell_153 : decode cX9_spell 153 = .ok (.getfield 100, 3) := by decide +kernel
theorem dX9_spell_156 : decode cX9_spell 156 = .ok (.if_icmp .ne 8, 3) := by decide +kernel
theorem dX9_spell_159 : decode cX9_spell 159 = .ok (.bipush 40, 2) := by decide +kernel
theorem dX9_spell_161 : decode cX9_spell 161 = .ok (.goto 28, 3) := by decide +kernel
theorem dX9_spell_164 : decode cX9_spell 164 = .ok (.iload_n 2, 1) := by decide +kernel
theorem dX9_spell_165 : decode cX9_spell 165 = .ok (.iload 5, 2) := by decide +kernel
theorem dX9_spell_167 : decode cX9_spell 167 = .ok (.iconst 1, 1) := by decide +kernel
theorem dX9_spell_168 : decode cX9_spell 168 = .ok (.isub, 1) := by decide +kernel
theorem dX9_spell_169 : decode cX9_spell 169 = .ok (.if_icmp .ne 8, 3) := by decide +kernel
theorem dX9_spell_172 : decode cX9_spell 172 = .ok (.bipush 41, 2) := by decide +kernel
theorem dX9_spell_174 : decode cX9_spell 174 = .ok (.goto 15, 3) := by decide +kernel
theorem dX9_spell_177 : decode cX9_spell 177 = .ok (.aload_n 0, 1) := by decide +kernel
theorem dX9_spell_178 : decode cX9_spell 178 = .ok (.getfield 27, 3) := by decide +kernel
theorem dX9_spell_181 : decode cX9_spell 181 = .ok (.iload 6, 2) := by decide +kernel
theorem dX9_spell_183 : decode cX9_spell 183 = .ok (.iconst 1, 1) := by decide +kernel
theorem dX9_spell_184 : decode cX9_spell 184 = .ok (.isub, 1) := by decide +kernel
theorem dX9_spell_185 : decode cX9_spell 185 = .ok (.iaload, 1) := by decide +kernel
theorem dX9_spell_186 : decode cX9_spell 186 = .ok (.invokestatic 236, 3) := by decide +kernel
theorem dX9_spell_189 : decode cX9_spell 189 = .ok (.ireturn, 1) := by decide +kernel
theorem dX9_digitAt_0 : decode cX9_digitAt 0 = .ok (.aload_n 0, 1) := by decide +kernel
theorem dX9_digitAt_1 : decode cX9_digitAt 1 = .ok (.bipush 48, 2) := by decide +kernel
theorem dX9_digitAt_3 : decode cX9_digitAt 3 = .ok (.bipush 57, 2) := by decide +kernel
theorem dX9_digitAt_5 : decode cX9_digitAt 5 = .ok (.invokevirtual 239, 3) := by decide +kernel
theorem dX9_digitAt_8 : decode cX9_digitAt 8 = .ok (.ifCond .eq 18, 3) := by decide +kernel
theorem dX9_digitAt_11 : decode cX9_digitAt 11 = .ok (.aload_n 0, 1) := by decide +kernel
theorem dX9_digitAt_12 : decode cX9_digitAt 12 = .ok (.getfield 53, 3) := by decide +kernel
theorem dX9_digitAt_15 : decode cX9_digitAt 15 = .ok (.aload_n 0, 1) := by decide +kernel
theorem dX9_digitAt_16 : decode cX9_digitAt 16 = .ok (.getfield 218, 3) := by decide +kernel
theorem dX9_digitAt_19 : decode cX9_digitAt 19 = .ok (.iaload, 1) := by decide +kernel
theorem dX9_digitAt_20 : decode cX9_digitAt 20 = .ok (.bipush 48, 2) := by decide +kernel
theorem dX9_digitAt_22 : decode cX9_digitAt 22 = .ok (.isub, 1) := by decide +kernel
theorem dX9_digitAt_23 : decode cX9_digitAt 23 = .ok (.goto 34, 3) := by decide +kernel
theorem dX9_digitAt_26 : decode cX9_digitAt 26 = .ok (.aload_n 0, 1) := by decide +kernel
theorem dX9_digitAt_27 : decode cX9_digitAt 27 = .ok (.bipush 97, 2) := by decide +kernel
theorem dX9_digitAt_29 : decode cX9_digitAt 29 = .ok (.bipush 102, 2) := by decide +kernel
theorem dX9_digitAt_31 : decode cX9_digitAt 31 = .ok (.invokevirtual 239, 3) := by decide +kernel
theorem dX9_digitAt_34 : decode cX9_digitAt 34 = .ok (.ifCond .eq 21, 3) := by decide +kernel
theorem dX9_digitAt_37 : decode cX9_digitAt 37 = .ok (.aload_n 0, 1) := by decide +kernel
theorem dX9_digitAt_38 : decode cX9_digitAt 38 = .ok (.getfield 53, 3) := by decide +kernel
theorem dX9_digitAt_41 : decode cX9_digitAt 41 = .ok (.aload_n 0, 1) := by decide +kernel
theorem dX9_digitAt_42 : decode cX9_digitAt 42 = .ok (.getfield 218, 3) := by decide +kernel
theorem dX9_digitAt_45 : decode cX9_digitAt 45 = .ok (.iaload, 1) := by decide +kernel
theorem dX9_digitAt_46 : decode cX9_digitAt 46 = .ok (.bipush 97, 2) := by decide +kernel
theorem dX9_digitAt_48 : decode cX9_digitAt 48 = .ok (.isub, 1) := by decide +kernel
theorem dX9_digitAt_49 : decode cX9_digitAt 49 = .ok (.bipush 10, 2) := by decide +kernel
theorem dX9_digitAt_51 : decode cX9_digitAt 51 = .ok (.iadd, 1) := by decide +kernel
theorem dX9_digitAt_52 : decode cX9_digitAt 52 = .ok (.goto 5, 3) := by decide +kernel
theorem dX9_digitAt_55 : decode cX9_digitAt 55 = .ok (.bipush 99, 2) := by decide +kernel
theorem dX9_digitAt_57 : decode cX9_digitAt 57 = .ok (.ireturn, 1) := by decide +kernel
theorem dX9_readsDigits_0 : decode cX9_readsDigits 0 = .ok (.aload_n 0, 1) := by decide +kernel
theorem dX9_readsDigits_1 : decode cX9_readsDigits 1 = .ok (.lconst 0, 1) := by decide +kernel
theorem dX9_readsDigits_2 : decode cX9_readsDigits 2 = .ok (.putfield 242, 3) := by decide +kernel
theorem dX9_readsDigits_5 : decode cX9_readsDigits 5 = .ok (.aload_n 0, 1) := by decide +kernel
theorem dX9_readsDigits_6 : decode cX9_readsDigits 6 = .ok (.lconst 1, 1) := by decide +kernel
theorem dX9_readsDigits_7 : decode cX9_readsDigits 7 = .ok (.putfield 246, 3) := by decide +kernel
theorem dX9_readsDigits_10 : decode cX9_readsDigits 10 = .ok (.aload_n 0, 1) := by decide +kernel
theorem dX9_readsDigits_11 : decode cX9_readsDigits 11 = .ok (.iconst 0, 1) := by decide +kernel
theorem dX9_readsDigits_12 : decode cX9_readsDigits 12 = .ok (.putfield 249, 3) := by decide +kernel
theorem dX9_readsDigits_15 : decode cX9_readsDigits 15 = .ok (.aload_n 0, 1) := by decide +kernel
theorem dX9_readsDigits_16 : decode cX9_readsDigits 16 = .ok (.getfield 249, 3) := by decide +kernel
theorem dX9_readsDigits_19 : decode cX9_readsDigits 19 = .ok (.iconst 4, 1) := by decide +kernel
theorem dX9_readsDigits_20 : decode cX9_readsDigits 20 = .ok (.if_icmp .ge 62, 3) := by decide +kernel
theorem dX9_readsDigits_23 : decode cX9_readsDigits 23 = .ok (.aload_n 0, 1) := by decide +kernel
theorem dX9_readsDigits_24 : decode cX9_readsDigits 24 = .ok (.invokevirtual 252, 3) := by decide +kernel
theorem dX9_readsDigits_27 : decode cX9_readsDigits 27 = .ok (.iload_n 1, 1) := by decide +kernel
theorem dX9_readsDigits_28 : decode cX9_readsDigits 28 = .ok (.if_icmp .ge 54, 3) := by decide +kernel
theorem dX9_readsDigits_31 : decode cX9_readsDigits 31 = .ok (.aload_n 0, 1) := by decide +kernel
theorem dX9_readsDigits_32 : decode cX9_readsDigits 32 = .ok (.aload_n 0, 1) := by decide +kernel
theorem dX9_readsDigits_33 : decode cX9_readsDigits 33 = .ok (.getfield 242, 3) := by decide +kernel
theorem dX9_readsDigits_36 : decode cX9_readsDigits 36 = .ok (.iload_n 1, 1) := by decide +kernel
theorem dX9_readsDigits_37 : decode cX9_readsDigits 37 = .ok (.i2l, 1) := by decide +kernel
theorem dX9_readsDigits_38 : decode cX9_readsDigits 38 = .ok (.lmul, 1) := by decide +kernel
theorem dX9_readsDigits_39 : decode cX9_readsDigits 39 = .ok (.aload_n 0, 1) := by decide +kernel
theorem dX9_readsDigits_40 : decode cX9_readsDigits 40 = .ok (.invokevirtual 252, 3) := by decide +kernel
theorem dX9_readsDigits_43 : decode cX9_readsDigits 43 = .ok (.i2l, 1) := by decide +kernel
theorem dX9_readsDigits_44 : decode cX9_readsDigits 44 = .ok (.ladd, 1) := by decide +kernel
theorem dX9_readsDigits_45 : decode cX9_readsDigits 45 = .ok (.putfield 242, 3) := by decide +kernel
theorem dX9_readsDigits_48 : decode cX9_readsDigits 48 = .ok (.aload_n 0, 1) := by decide +kernel
theorem dX9_readsDigits_49 : decode cX9_readsDigits 49 = .ok (.dup, 1) := by decide +kernel
theorem dX9_readsDigits_50 : decode cX9_readsDigits 50 = .ok (.getfield 246, 3) := by decide +kernel
theorem dX9_readsDigits_53 : decode cX9_readsDigits 53 = .ok (.iload_n 1, 1) := by decide +kernel
theorem dX9_readsDigits_54 : decode cX9_readsDigits 54 = .ok (.i2l, 1) := by decide +kernel
theorem dX9_readsDigits_55 : decode cX9_readsDigits 55 = .ok (.lmul, 1) := by decide +kernel
theorem dX9_readsDigits_56 : decode cX9_readsDigits 56 = .ok (.putfield 246, 3) := by decide +kernel
theorem dX9_readsDigits_59 : decode cX9_readsDigits 59 = .ok (.aload_n 0, 1) := by decide +kernel
theorem dX9_readsDigits_60 : decode cX9_readsDigits 60 = .ok (.dup, 1) := by decide +kernel
theorem dX9_readsDigits_61 : decode cX9_readsDigits 61 = .ok (.getfield 249, 3) := by decide +kernel
theorem dX9_readsDigits_64 : decode cX9_readsDigits 64 = .ok (.iconst 1, 1) := by decide +kernel
theorem dX9_readsDigits_65 : decode cX9_readsDigits 65 = .ok (.iadd, 1) := by decide +kernel
theorem dX9_readsDigits_66 : decode cX9_readsDigits 66 = .ok (.putfield 249, 3) := by decide +kernel
theorem dX9_readsDigits_69 : decode cX9_readsDigits 69 = .ok (.aload_n 0, 1) := by decide +kernel
theorem dX9_readsDigits_70 : decode cX9_readsDigits 70 = .ok (.dup, 1) := by decide +kernel
theorem dX9_readsDigits_71 : decode cX9_readsDigits 71 = .ok (.getfield 218, 3) := by decide +kernel
theorem dX9_readsDigits_74 : decode cX9_readsDigits 74 = .ok (.iconst 1, 1) := by decide +kernel
theorem dX9_readsDigits_75 : decode cX9_readsDigits 75 = .ok (.iadd, 1) := by decide +kernel
theorem dX9_readsDigits_76 : decode cX9_readsDigits 76 = .ok (.putfield 218, 3) := by decide +kernel
theorem dX9_readsDigits_79 : decode cX9_readsDigits 79 = .ok (.goto (-64), 3) := by decide +kernel
theorem dX9_readsDigits_82 : decode cX9_readsDigits 82 = .ok (.return_, 1) := by decide +kernel
theorem dX9_isNumeral_0 : decode cX9_isNumeral 0 = .ok (.aload_n 0, 1) := by decide +kernel
theorem dX9_isNumeral_1 : decode cX9_isNumeral 1 = .ok (.iload_n 1, 1) := by decide +kernel
theorem dX9_isNumeral_2 : decode cX9_isNumeral 2 = .ok (.invokevirtual 255, 3) := by decide +kernel
theorem dX9_isNumeral_5 : decode cX9_isNumeral 5 = .ok (.aload_n 0, 1) := by decide +kernel
theorem dX9_isNumeral_6 : decode cX9_isNumeral 6 = .ok (.getfield 249, 3) := by decide +kernel
theorem dX9_isNumeral_9 : decode cX9_isNumeral 9 = .ok (.ifCond .ne 5, 3) := by decide +kernel
theorem dX9_isNumeral_12 : decode cX9_isNumeral 12 = .ok (.iconst 0, 1) := by decide +kernel
theorem dX9_isNumeral_13 : decode cX9_isNumeral 13 = .ok (.ireturn, 1) := by decide +kernel
theorem dX9_isNumeral_14 : decode cX9_isNumeral 14 = .ok (.aload_n 0, 1) := by decide +kernel
theorem dX9_isNumeral_15 : decode cX9_isNumeral 15 = .ok (.aload_n 0, 1) := by decide +kernel
theorem dX9_isNumeral_16 : decode cX9_isNumeral 16 = .ok (.getfield 242, 3) := by decide +kernel
theorem dX9_isNumeral_19 : decode cX9_isNumeral 19 = .ok (.putfield 258, 3) := by decide +kernel
theorem dX9_isNumeral_22 : decode cX9_isNumeral 22 = .ok (.aload_n 0, 1) := by decide +kernel
theorem dX9_isNumeral_23 : decode cX9_isNumeral 23 = .ok (.lconst 1, 1) := by decide +kernel
theorem dX9_isNumeral_24 : decode cX9_isNumeral 24 = .ok (.putfield 261, 3) := by decide +kernel
theorem dX9_isNumeral_27 : decode cX9_isNumeral 27 = .ok (.aload_n 0, 1) := by decide +kernel
theorem dX9_isNumeral_28 : decode cX9_isNumeral 28 = .ok (.bipush 46, 2) := by decide +kernel
theorem dX9_isNumeral_30 : decode cX9_isNumeral 30 = .ok (.bipush 46, 2) := by decide +kernel
theorem dX9_isNumeral_32 : decode cX9_isNumeral 32 = .ok (.invokevirtual 239, 3) := by decide +kernel
theorem dX9_isNumeral_35 : decode cX9_isNumeral 35 = .ok (.ifCond .ne 20, 3) := by decide +kernel
theorem dX9_isNumeral_38 : decode cX9_isNumeral 38 = .ok (.aload_n 0, 1) := by decide +kernel
theorem dX9_isNumeral_39 : decode cX9_isNumeral 39 = .ok (.getfield 218, 3) := by decide +kernel
theorem dX9_isNumeral_42 : decode cX9_isNumeral 42 = .ok (.aload_n 0, 1) := by decide +kernel
theorem dX9_isNumeral_43 : decode cX9_isNumeral 43 = .ok (.getfield 221, 3) := by decide +kernel
theorem dX9_isNumeral_46 : decode cX9_isNumeral 46 = .ok (.if_icmp .ne 7, 3) := by decide +kernel
theorem dX9_isNumeral_49 : decode cX9_isNumeral 49 = .ok (.iconst 1, 1) := by decide +kernel
theorem dX9_isNumeral_50 : decode cX9_isNumeral 50 = .ok (.goto 4, 3) := by decide +kernel
theorem dX9_isNumeral_53 : decode cX9_isNumeral 53 = .ok (.iconst 0, 1) := by decide +kernel
theorem dX9_isNumeral_54 : decode cX9_isNumeral 54 = .ok (.ireturn, 1) := by decide +kernel
theorem dX9_isNumeral_55 : decode cX9_isNumeral 55 = .ok (.aload_n 0, 1) := by decide +kernel
theorem dX9_isNumeral_56 : decode cX9_isNumeral 56 = .ok (.dup, 1) := by decide +kernel
theorem dX9_isNumeral_57 : decode cX9_isNumeral 57 = .ok (.getfield 218, 3) := by decide +kernel
theorem dX9_isNumeral_60 : decode cX9_isNumeral 60 = .ok (.iconst 1, 1) := by decide +kernel
theorem dX9_isNumeral_61 : decode cX9_isNumeral 61 = .ok (.iadd, 1) := by decide +kernel
theorem dX9_isNumeral_62 : decode cX9_isNumeral 62 = .ok (.putfield 218, 3) := by decide +kernel
theorem dX9_isNumeral_65 : decode cX9_isNumeral 65 = .ok (.aload_n 0, 1) := by decide +kernel
theorem dX9_isNumeral_66 : decode cX9_isNumeral 66 = .ok (.iload_n 1, 1) := by decide +kernel
theorem dX9_isNumeral_67 : decode cX9_isNumeral 67 = .ok (.invokevirtual 255, 3) := by decide +kernel
theorem dX9_isNumeral_70 : decode cX9_isNumeral 70 = .ok (.aload_n 0, 1) := by decide +kernel
theorem dX9_isNumeral_71 : decode cX9_isNumeral 71 = .ok (.getfield 249, 3) := by decide +kernel
theorem dX9_isNumeral_74 : decode cX9_isNumeral 74 = .ok (.istore_n 2, 1) := by decide +kernel
theorem dX9_isNumeral_75 : decode cX9_isNumeral 75 = .ok (.aload_n 0, 1) := by decide +kernel
theorem dX9_isNumeral_76 : decode cX9_isNumeral 76 = .ok (.aload_n 0, 1) := by decide +kernel
theorem dX9_isNumeral_77 : decode cX9_isNumeral 77 = .ok (.getfield 258, 3) := by decide +kernel
theorem dX9_isNumeral_80 : decode cX9_isNumeral 80 = .ok (.aload_n 0, 1) := by decide +kernel
theorem dX9_isNumeral_81 : decode cX9_isNumeral 81 = .ok (.getfield 246, 3) := by decide +kernel
theorem dX9_isNumeral_84 : decode cX9_isNumeral 84 = .ok (.lmul, 1) := by decide +kernel
theorem dX9_isNumeral_85 : decode cX9_isNumeral 85 = .ok (.aload_n 0, 1) := by decide +kernel
theorem dX9_isNumeral_86 : decode cX9_isNumeral 86 = .ok (.getfield 242, 3) := by decide +kernel
theorem dX9_isNumeral_89 : decode cX9_isNumeral 89 = .ok (.ladd, 1) := by decide +kernel
theorem dX9_isNumeral_90 : decode cX9_isNumeral 90 = .ok (.putfield 258, 3) := by decide +kernel
theorem dX9_isNumeral_93 : decode cX9_isNumeral 93 = .ok (.aload_n 0, 1) := by decide +kernel
theorem dX9_isNumeral_94 : decode cX9_isNumeral 94 = .ok (.aload_n 0, 1) := by decide +kernel
theorem dX9_isNumeral_95 : decode cX9_isNumeral 95 = .ok (.getfield 246, 3) := by decide +kernel
theorem dX9_isNumeral_98 : decode cX9_isNumeral 98 = .ok (.putfield 261, 3) := by decide +kernel
theorem dX9_isNumeral_101 : decode cX9_isNumeral 101 = .ok (.aload_n 0, 1) := by decide +kernel
theorem dX9_isNumeral_102 : decode cX9_isNumeral 102 = .ok (.bipush 40, 2) := by decide +kernel
theorem dX9_isNumeral_104 : decode cX9_isNumeral 104 = .ok (.bipush 40, 2) := by decide +kernel
theorem dX9_isNumeral_106 : decode cX9_isNumeral 106 = .ok (.invokevirtual 239, 3) := by decide +kernel
theorem dX9_isNumeral_109 : decode cX9_isNumeral 109 = .ok (.ifCond .ne 24, 3) := by decide +kernel
theorem dX9_isNumeral_112 : decode cX9_isNumeral 112 = .ok (.iload_n 2, 1) := by decide +kernel
theorem dX9_isNumeral_113 : decode cX9_isNumeral 113 = .ok (.ifCond .le 18, 3) := by decide +kernel
theorem dX9_isNumeral_116 : decode cX9_isNumeral 116 = .ok (.aload_n 0, 1) := by decide +kernel
theorem dX9_isNumeral_117 : decode cX9_isNumeral 117 = .ok (.getfield 218, 3) := by decide +kernel
theorem dX9_isNumeral_120 : decode cX9_isNumeral 120 = .ok (.aload_n 0, 1) := by decide +kernel
theorem dX9_isNumeral_121 : decode cX9_isNumeral 121 = .ok (.getfield 221, 3) := by decide +kernel
theorem dX9_isNumeral_124 : decode cX9_isNumeral 124 = .ok (.if_icmp .ne 7, 3) := by decide +kernel
theorem dX9_isNumeral_127 : decode cX9_isNumeral 127 = .ok (.iconst 1, 1) := by decide +kernel
theorem dX9_isNumeral_128 : decode cX9_isNumeral 128 = .ok (.goto 4, 3) := by decide +kernel
theorem dX9_isNumeral_131 : decode cX9_isNumeral 131 = .ok (.iconst 0, 1) := by decide +kernel
theorem dX9_isNumeral_132 : decode cX9_isNumeral 132 = .ok (.ireturn, 1) := by decide +kernel
theorem dX9_isNumeral_133 : decode cX9_isNumeral 133 = .ok (.aload_n 0, 1) := by decide +kernel
theorem dX9_isNumeral_134 : decode cX9_isNumeral 134 = .ok (.dup, 1) := by decide +kernel
theorem dX9_isNumeral_135 : decode cX9_isNumeral 135 = .ok (.getfield 218, 3) := by decide +kernel
theorem dX9_isNumeral_138 : decode cX9_isNumeral 138 = .ok (.iconst 1, 1) := by decide +kernel
theorem dX9_isNumeral_139 : decode cX9_isNumeral 139 = .ok (.iadd, 1) := by decide +kernel
theorem dX9_isNumeral_140 : decode cX9_isNumeral 140 = .ok (.putfield 218, 3) := by decide +kernel
theorem dX9_isNumeral_143 : decode cX9_isNumeral 143 = .ok (.aload_n 0, 1) := by decide +kernel
theorem dX9_isNumeral_144 : decode cX9_isNumeral 144 = .ok (.iload_n 1, 1) := by decide +kernel
theorem dX9_isNumeral_145 : decode cX9_isNumeral 145 = .ok (.invokevirtual 255, 3) := by decide +kernel
theorem dX9_isNumeral_148 : decode cX9_isNumeral 148 = .ok (.aload_n 0, 1) := by decide +kernel
theorem dX9_isNumeral_149 : decode cX9_isNumeral 149 = .ok (.getfield 249, 3) := by decide +kernel
theorem dX9_isNumeral_152 : decode cX9_isNumeral 152 = .ok (.ifCond .eq 14, 3) := by decide +kernel
theorem dX9_isNumeral_155 : decode cX9_isNumeral 155 = .ok (.aload_n 0, 1) := by decide +kernel
theorem dX9_isNumeral_156 : decode cX9_isNumeral 156 = .ok (.bipush 41, 2) := by decide +kernel
theorem dX9_isNumeral_158 : decode cX9_isNumeral 158 = .ok (.bipush 41, 2) := by decide +kernel
theorem dX9_isNumeral_160 : decode cX9_isNumeral 160 = .ok (.invokevirtual 239, 3) := by decide +kernel
theorem dX9_isNumeral_163 : decode cX9_isNumeral 163 = .ok (.ifCond .ne 5, 3) := by decide +kernel
theorem dX9_isNumeral_166 : decode cX9_isNumeral 166 = .ok (.iconst 0, 1) := by decide +kernel
theorem dX9_isNumeral_167 : decode cX9_isNumeral 167 = .ok (.ireturn, 1) := by decide +kernel
theorem dX9_isNumeral_168 : decode cX9_isNumeral 168 = .ok (.aload_n 0, 1) := by decide +kernel
theorem dX9_isNumeral_169 : decode cX9_isNumeral 169 = .ok (.dup, 1) := by decide +kernel
theorem dX9_isNumeral_170 : decode cX9_isNumeral 170 = .ok (.getfield 218, 3) := by decide +kernel
theorem dX9_isNumeral_173 : decode cX9_isNumeral 173 = .ok (.iconst 1, 1) := by decide +kernel
theorem dX9_isNumeral_174 : decode cX9_isNumeral 174 = .ok (.iadd, 1) := by decide +kernel
theorem dX9_isNumeral_175 : decode cX9_isNumeral 175 = .ok (.putfield 218, 3) := by decide +kernel
theorem dX9_isNumeral_178 : decode cX9_isNumeral 178 = .ok (.aload_n 0, 1) := by decide +kernel
theorem dX9_isNumeral_179 : decode cX9_isNumeral 179 = .ok (.aload_n 0, 1) := by decide +kernel
theorem dX9_isNumeral_180 : decode cX9_isNumeral 180 = .ok (.getfield 258, 3) := by decide +kernel
theorem dX9_isNumeral_183 : decode cX9_isNumeral 183 = .ok (.aload_n 0, 1) := by decide +kernel
theorem dX9_isNumeral_184 : decode cX9_isNumeral 184 = .ok (.getfield 246, 3) := by decide +kernel
theorem dX9_isNumeral_187 : decode cX9_isNumeral 187 = .ok (.lconst 1, 1) := by decide +kernel
theorem dX9_isNumeral_188 : decode cX9_isNumeral 188 = .ok (.lsub, 1) := by decide +kernel
theorem dX9_isNumeral_189 : decode cX9_isNumeral 189 = .ok (.lmul, 1) := by decide +kernel
theorem dX9_isNumeral_190 : decode cX9_isNumeral 190 = .ok (.aload_n 0, 1) := by decide +kernel
theorem dX9_isNumeral_191 : decode cX9_isNumeral 191 = .ok (.getfield 242, 3) := by decide +kernel
theorem dX9_isNumeral_194 : decode cX9_isNumeral 194 = .ok (.ladd, 1) := by decide +kernel
theorem dX9_isNumeral_195 : decode cX9_isNumeral 195 = .ok (.putfield 258, 3) := by decide +kernel
theorem dX9_isNumeral_198 : decode cX9_isNumeral 198 = .ok (.aload_n 0, 1) := by decide +kernel
theorem dX9_isNumeral_199 : decode cX9_isNumeral 199 = .ok (.aload_n 0, 1) := by decide +kernel
theorem dX9_isNumeral_200 : decode cX9_isNumeral 200 = .ok (.getfield 261, 3) := by decide +kernel
theorem dX9_isNumeral_203 : decode cX9_isNumeral 203 = .ok (.aload_n 0, 1) := by decide +kernel
theorem dX9_isNumeral_204 : decode cX9_isNumeral 204 = .ok (.getfield 246, 3) := by decide +kernel
theorem dX9_isNumeral_207 : decode cX9_isNumeral 207 = .ok (.lconst 1, 1) := by decide +kernel
theorem dX9_isNumeral_208 : decode cX9_isNumeral 208 = .ok (.lsub, 1) := by decide +kernel
theorem dX9_isNumeral_209 : decode cX9_isNumeral 209 = .ok (.lmul, 1) := by decide +kernel
theorem dX9_isNumeral_210 : decode cX9_isNumeral 210 = .ok (.putfield 261, 3) := by decide +kernel
theorem dX9_isNumeral_213 : decode cX9_isNumeral 213 = .ok (.aload_n 0, 1) := by decide +kernel
theorem dX9_isNumeral_214 : decode cX9_isNumeral 214 = .ok (.getfield 218, 3) := by decide +kernel
theorem dX9_isNumeral_217 : decode cX9_isNumeral 217 = .ok (.aload_n 0, 1) := by decide +kernel
theorem dX9_isNumeral_218 : decode cX9_isNumeral 218 = .ok (.getfield 221, 3) := by decide +kernel
theorem dX9_isNumeral_221 : decode cX9_isNumeral 221 = .ok (.if_icmp .ne 7, 3) := by decide +kernel
theorem dX9_isNumeral_224 : decode cX9_isNumeral 224 = .ok (.iconst 1, 1) := by decide +kernel
theorem dX9_isNumeral_225 : decode cX9_isNumeral 225 = .ok (.goto 4, 3) := by decide +kernel
theorem dX9_isNumeral_228 : decode cX9_isNumeral 228 = .ok (.iconst 0, 1) := by decide +kernel
theorem dX9_isNumeral_229 : decode cX9_isNumeral 229 = .ok (.ireturn, 1) := by decide +kernel
theorem dX9_read_0 : decode cX9_read 0 = .ok (.iload_n 1, 1) := by decide +kernel
theorem dX9_read_1 : decode cX9_read 1 = .ok (.invokestatic 118, 3) := by decide +kernel
theorem dX9_read_4 : decode cX9_read 4 = .ok (.ifCond .ne 5, 3) := by decide +kernel
theorem dX9_read_7 : decode cX9_read 7 = .ok (.iconst (-1), 1) := by decide +kernel
theorem dX9_read_8 : decode cX9_read 8 = .ok (.ireturn, 1) := by decide +kernel
theorem dX9_read_9 : decode cX9_read 9 = .ok (.aload_n 0, 1) := by decide +kernel
theorem dX9_read_10 : decode cX9_read 10 = .ok (.aload_n 0, 1) := by decide +kernel
theorem dX9_read_11 : decode cX9_read 11 = .ok (.getfield 215, 3) := by decide +kernel
theorem dX9_read_14 : decode cX9_read 14 = .ok (.putfield 221, 3) := by decide +kernel
theorem dX9_read_17 : decode cX9_read 17 = .ok (.aload_n 0, 1) := by decide +kernel
theorem dX9_read_18 : decode cX9_read 18 = .ok (.iconst 0, 1) := by decide +kernel
theorem dX9_read_19 : decode cX9_read 19 = .ok (.putfield 215, 3) := by decide +kernel
theorem dX9_read_22 : decode cX9_read 22 = .ok (.aload_n 0, 1) := by decide +kernel
theorem dX9_read_23 : decode cX9_read 23 = .ok (.iconst 0, 1) := by decide +kernel
theorem dX9_read_24 : decode cX9_read 24 = .ok (.putfield 218, 3) := by decide +kernel
theorem dX9_read_27 : decode cX9_read 27 = .ok (.aload_n 0, 1) := by decide +kernel
theorem dX9_read_28 : decode cX9_read 28 = .ok (.iload_n 1, 1) := by decide +kernel
theorem dX9_read_29 : decode cX9_read 29 = .ok (.invokevirtual 264, 3) := by decide +kernel
theorem dX9_read_32 : decode cX9_read 32 = .ok (.ifCond .ne 12, 3) := by decide +kernel
theorem dX9_read_35 : decode cX9_read 35 = .ok (.sipush (-1000), 3) := by decide +kernel
theorem dX9_read_38 : decode cX9_read 38 = .ok (.aload_n 0, 1) := by decide +kernel
theorem dX9_read_39 : decode cX9_read 39 = .ok (.getfield 218, 3) := by decide +kernel
theorem dX9_read_42 : decode cX9_read 42 = .ok (.isub, 1) := by decide +kernel
theorem dX9_read_43 : decode cX9_read 43 = .ok (.ireturn, 1) := by decide +kernel
theorem dX9_read_44 : decode cX9_read 44 = .ok (.aload_n 0, 1) := by decide +kernel
theorem dX9_read_45 : decode cX9_read 45 = .ok (.aload_n 0, 1) := by decide +kernel
theorem dX9_read_46 : decode cX9_read 46 = .ok (.getfield 258, 3) := by decide +kernel
theorem dX9_read_49 : decode cX9_read 49 = .ok (.aload_n 0, 1) := by decide +kernel
theorem dX9_read_50 : decode cX9_read 50 = .ok (.getfield 261, 3) := by decide +kernel
theorem dX9_read_53 : decode cX9_read 53 = .ok (.iload_n 1, 1) := by decide +kernel
theorem dX9_read_54 : decode cX9_read 54 = .ok (.invokevirtual 133, 3) := by decide +kernel
theorem dX9_read_57 : decode cX9_read 57 = .ok (.ireturn, 1) := by decide +kernel
theorem dX9_numbersOf_0 : decode cX9_numbersOf 0 = .ok (.iload_n 0, 1) := by decide +kernel
theorem dX9_numbersOf_1 : decode cX9_numbersOf 1 = .ok (.ifCond .ne 7, 3) := by decide +kernel
theorem dX9_numbersOf_4 : decode cX9_numbersOf 4 = .ok (.iconst 3, 1) := by decide +kernel
theorem dX9_numbersOf_5 : decode cX9_numbersOf 5 = .ok (.goto 18, 3) := by decide +kernel
theorem dX9_numbersOf_8 : decode cX9_numbersOf 8 = .ok (.iload_n 0, 1) := by decide +kernel
theorem dX9_numbersOf_9 : decode cX9_numbersOf 9 = .ok (.iconst 1, 1) := by decide +kernel
theorem dX9_numbersOf_10 : decode cX9_numbersOf 10 = .ok (.if_icmp .eq 8, 3) := by decide +kernel
theorem dX9_numbersOf_13 : decode cX9_numbersOf 13 = .ok (.iload_n 0, 1) := by decide +kernel
theorem dX9_numbersOf_14 : decode cX9_numbersOf 14 = .ok (.iconst 4, 1) := by decide +kernel
theorem dX9_numbersOf_15 : decode cX9_numbersOf 15 = .ok (.if_icmp .ne 7, 3) := by decide +kernel
theorem dX9_numbersOf_18 : decode cX9_numbersOf 18 = .ok (.iconst 1, 1) := by decide +kernel
theorem dX9_numbersOf_19 : decode cX9_numbersOf 19 = .ok (.goto 4, 3) := by decide +kernel
theorem dX9_numbersOf_22 : decode cX9_numbersOf 22 = .ok (.iconst 2, 1) := by decide +kernel
theorem dX9_numbersOf_23 : decode cX9_numbersOf 23 = .ok (.ireturn, 1) := by decide +kernel
theorem dX9_command_0 : decode cX9_command 0 = .ok (.aload_n 0, 1) := by decide +kernel
theorem dX9_command_1 : decode cX9_command 1 = .ok (.getfield 218, 3) := by decide +kernel
theorem dX9_command_4 : decode cX9_command 4 = .ok (.istore_n 1, 1) := by decide +kernel
theorem dX9_command_5 : decode cX9_command 5 = .ok (.aload_n 0, 1) := by decide +kernel
theorem dX9_command_6 : decode cX9_command 6 = .ok (.bipush 97, 2) := by decide +kernel
theorem dX9_command_8 : decode cX9_command 8 = .ok (.bipush 122, 2) := by decide +kernel
theorem dX9_command_10 : decode cX9_command 10 = .ok (.invokevirtual 239, 3) := by decide +kernel
theorem dX9_command_13 : decode cX9_command 13 = .ok (.ifCond .eq 16, 3) := by decide +kernel
theorem dX9_command_16 : decode cX9_command 16 = .ok (.aload_n 0, 1) := by decide +kernel
theorem dX9_command_17 : decode cX9_command 17 = .ok (.dup, 1) := by decide +kernel
theorem dX9_command_18 : decode cX9_command 18 = .ok (.getfield 218, 3) := by decide +kernel
theorem dX9_command_21 : decode cX9_command 21 = .ok (.iconst 1, 1) := by decide +kernel
theorem dX9_command_22 : decode cX9_command 22 = .ok (.iadd, 1) := by decide +kernel
theorem dX9_command_23 : decode cX9_command 23 = .ok (.putfield 218, 3) := by decide +kernel
theorem dX9_command_26 : decode cX9_command 26 = .ok (.goto (-21), 3) := by decide +kernel
theorem dX9_command_29 : decode cX9_command 29 = .ok (.aload_n 0, 1) := by decide +kernel
theorem dX9_command_30 : decode cX9_command 30 = .ok (.iload_n 1, 1) := by decide +kernel
theorem dX9_command_31 : decode cX9_command 31 = .ok (.aload_n 0, 1) := by decide +kernel
theorem dX9_command_32 : decode cX9_command 32 = .ok (.getfield 218, 3) := by decide +kernel
theorem dX9_command_35 : decode cX9_command 35 = .ok (.invokevirtual 267, 3) := by decide +kernel
theorem dX9_command_38 : decode cX9_command 38 = .ok (.istore_n 2, 1) := by decide +kernel
theorem dX9_command_39 : decode cX9_command 39 = .ok (.iload_n 2, 1) := by decide +kernel
theorem dX9_command_40 : decode cX9_command 40 = .ok (.iconst (-1), 1) := by decide +kernel
theorem dX9_command_41 : decode cX9_command 41 = .ok (.if_icmp .ne 10, 3) := by decide +kernel
theorem dX9_command_44 : decode cX9_command 44 = .ok (.aload_n 0, 1) := by decide +kernel
theorem dX9_command_45 : decode cX9_command 45 = .ok (.iload_n 1, 1) := by decide +kernel
theorem dX9_command_46 : decode cX9_command 46 = .ok (.putfield 218, 3) := by decide +kernel
theorem dX9_command_49 : decode cX9_command 49 = .ok (.iconst (-1), 1) := by decide +kernel
theorem dX9_command_50 : decode cX9_command 50 = .ok (.ireturn, 1) := by decide +kernel
theorem dX9_command_51 : decode cX9_command 51 = .ok (.iconst 0, 1) := by decide +kernel
theorem dX9_command_52 : decode cX9_command 52 = .ok (.istore_n 3, 1) := by decide +kernel
theorem dX9_command_53 : decode cX9_command 53 = .ok (.iload_n 3, 1) := by decide +kernel
theorem dX9_command_54 : decode cX9_command 54 = .ok (.iload_n 2, 1) := by decide +kernel
theorem dX9_command_55 : decode cX9_command 55 = .ok (.invokestatic 270, 3) := by decide +kernel
theorem dX9_command_58 : decode cX9_command 58 = .ok (.if_icmp .ge 116, 3) := by decide +kernel
theorem dX9_command_61 : decode cX9_command 61 = .ok (.aload_n 0, 1) := by decide +kernel
theorem dX9_command_62 : decode cX9_command 62 = .ok (.bipush 32, 2) := by decide +kernel
theorem dX9_command_64 : decode cX9_command 64 = .ok (.bipush 32, 2) := by decide +kernel
theorem dX9_command_66 : decode cX9_command 66 = .ok (.invokevirtual 239, 3) := by decide +kernel
theorem dX9_command_69 : decode cX9_command 69 = .ok (.ifCond .ne 5, 3) := by decide +kernel
theorem dX9_command_72 : decode cX9_command 72 = .ok (.iconst (-1), 1) := by decide +kernel
theorem dX9_command_73 : decode cX9_command 73 = .ok (.ireturn, 1) := by decide +kernel
theorem dX9_command_74 : decode cX9_command 74 = .ok (.aload_n 0, 1) := by decide +kernel
theorem dX9_command_75 : decode cX9_command 75 = .ok (.dup, 1) := by decide +kernel
theorem dX9_command_76 : decode cX9_command 76 = .ok (.getfield 218, 3) := by decide +kernel
theorem dX9_command_79 : decode cX9_command 79 = .ok (.iconst 1, 1) := by decide +kernel
theorem dX9_command_80 : decode cX9_command 80 = .ok (.iadd, 1) := by decide +kernel
theorem dX9_command_81 : decode cX9_command 81 = .ok (.putfield 218, 3) := by decide +kernel
theorem dX9_command_84 : decode cX9_command 84 = .ok (.aload_n 0, 1) := by decide +kernel
theorem dX9_command_85 : decode cX9_command 85 = .ok (.bipush 48, 2) := by decide +kernel
theorem dX9_command_87 : decode cX9_command 87 = .ok (.bipush 57, 2) := by decide +kernel
theorem dX9_command_89 : decode cX9_command 89 = .ok (.invokevirtual 239, 3) := by decide +kernel
theorem dX9_command_92 : decode cX9_command 92 = .ok (.ifCond .ne 5, 3) := by decide +kernel
theorem dX9_command_95 : decode cX9_command 95 = .ok (.iconst (-1), 1) := by decide +kernel
theorem dX9_command_96 : decode cX9_command 96 = .ok (.ireturn, 1) := by decide +kernel
theorem dX9_command_97 : decode cX9_command 97 = .ok (.aload_n 0, 1) := by decide +kernel
theorem dX9_command_98 : decode cX9_command 98 = .ok (.getfield 56, 3) := by decide +kernel
theorem dX9_command_101 : decode cX9_command 101 = .ok (.iload_n 3, 1) := by decide +kernel
theorem dX9_command_102 : decode cX9_command 102 = .ok (.iconst 0, 1) := by decide +kernel
theorem dX9_command_103 : decode cX9_command 103 = .ok (.iastore, 1) := by decide +kernel
theorem dX9_command_104 : decode cX9_command 104 = .ok (.iconst 0, 1) := by decide +kernel
theorem dX9_command_105 : decode cX9_command 105 = .ok (.istore 4, 2) := by decide +kernel
theorem dX9_command_107 : decode cX9_command 107 = .ok (.iload 4, 2) := by decide +kernel
theorem dX9_command_109 : decode cX9_command 109 = .ok (.iconst 4, 1) := by decide +kernel
theorem dX9_command_110 : decode cX9_command 110 = .ok (.if_icmp .ge 58, 3) := by decide +kernel
theorem dX9_command_113 : decode cX9_command 113 = .ok (.aload_n 0, 1) := by decide +kernel
theorem dX9_command_114 : decode cX9_command 114 = .ok (.bipush 48, 2) := by decide +kernel
theorem dX9_command_116 : decode cX9_command 116 = .ok (.bipush 57, 2) := by decide +kernel
theorem dX9_command_118 : decode cX9_command 118 = .ok (.invokevirtual 239, 3) := by decide +kernel
theorem dX9_command_121 : decode cX9_command 121 = .ok (.ifCond .eq 47, 3) := by decide +kernel
theorem dX9_command_124 : decode cX9_command 124 = .ok (.aload_n 0, 1) := by decide +kernel
theorem dX9_command_125 : decode cX9_command 125 = .ok (.getfield 56, 3) := by decide +kernel
theorem dX9_command_128 : decode cX9_command 128 = .ok (.iload_n 3, 1) := by decide +kernel
theorem dX9_command_129 : decode cX9_command 129 = .ok (.bipush 10, 2) := by decide +kernel
theorem dX9_command_131 : decode cX9_command 131 = .ok (.aload_n 0, 1) := by decide +kernel
theorem dX9_command_132 : decode cX9_command 132 = .ok (.getfield 56, 3) := by decide +kernel
theorem dX9_command_135 : decode cX9_command 135 = .ok (.iload_n 3, 1) := by decide +kernel
theorem dX9_command_136 : decode cX9_command 136 = .ok (.iaload, 1) := by decide +kernel
theorem dX9_command_137 : decode cX9_command 137 = .ok (.imul, 1) := by decide +kernel
theorem dX9_command_138 : decode cX9_command 138 = .ok (.aload_n 0, 1) := by decide +kernel
theorem dX9_command_139 : decode cX9_command 139 = .ok (.getfield 53, 3) := by decide +kernel
theorem dX9_command_142 : decode cX9_command 142 = .ok (.aload_n 0, 1) := by decide +kernel
theorem dX9_command_143 : decode cX9_command 143 = .ok (.getfield 218, 3) := by decide +kernel
theorem dX9_command_146 : decode cX9_command 146 = .ok (.iaload, 1) := by decide +kernel
theorem dX9_command_147 : decode cX9_command 147 = .ok (.iadd, 1) := by decide +kernel
theorem dX9_command_148 : decode cX9_command 148 = .ok (.bipush 48, 2) := by decide +kernel
theorem dX9_command_150 : decode cX9_command 150 = .ok (.isub, 1) := by decide +kernel
theorem dX9_command_151 : decode cX9_command 151 = .ok (.iastore, 1) := by decide +kernel
theorem dX9_command_152 : decode cX9_command 152 = .ok (.aload_n 0, 1) := by decide +kernel
theorem dX9_command_153 : decode cX9_command 153 = .ok (.dup, 1) := by decide +kernel
theorem dX9_command_154 : decode cX9_command 154 = .ok (.getfield 218, 3) := by decide +kernel
theorem dX9_command_157 : decode cX9_command 157 = .ok (.iconst 1, 1) := by decide +kernel
theorem dX9_command_158 : decode cX9_command 158 = .ok (.iadd, 1) := by decide +kernel
theorem dX9_command_159 : decode cX9_command 159 = .ok (.putfield 218, 3) := by decide +kernel
theorem dX9_command_162 : decode cX9_command 162 = .ok (.iinc 4 1, 3) := by decide +kernel
theorem dX9_command_165 : decode cX9_command 165 = .ok (.goto (-58), 3) := by decide +kernel
theorem dX9_command_168 : decode cX9_command 168 = .ok (.iinc 3 1, 3) := by decide +kernel
theorem dX9_command_171 : decode cX9_command 171 = .ok (.goto (-118), 3) := by decide +kernel
theorem dX9_command_174 : decode cX9_command 174 = .ok (.iload_n 2, 1) := by decide +kernel
theorem dX9_command_175 : decode cX9_command 175 = .ok (.ireturn, 1) := by decide +kernel
theorem dX9_done_0 : decode cX9_done 0 = .ok (.iload_n 1, 1) := by decide +kernel
theorem dX9_done_1 : decode cX9_done 1 = .ok (.tableswitch 99 0 3 #[31, 54, 65, 82], 31) := by decide +kernel
theorem dX9_done_32 : decode cX9_done 32 = .ok (.aload_n 0, 1) := by decide +kernel
theorem dX9_done_33 : decode cX9_done 33 = .ok (.aload_n 0, 1) := by decide +kernel
theorem dX9_done_34 : decode cX9_done 34 = .ok (.getfield 56, 3) := by decide +kernel
theorem dX9_done_37 : decode cX9_done 37 = .ok (.iconst 0, 1) := by decide +kernel
theorem dX9_done_38 : decode cX9_done 38 = .ok (.iaload, 1) := by decide +kernel
theorem dX9_done_39 : decode cX9_done 39 = .ok (.aload_n 0, 1) := by decide +kernel
theorem dX9_done_40 : decode cX9_done 40 = .ok (.getfield 56, 3) := by decide +kernel
theorem dX9_done_43 : decode cX9_done 43 = .ok (.iconst 1, 1) := by decide +kernel
theorem dX9_done_44 : decode cX9_done 44 = .ok (.iaload, 1) := by decide +kernel
theorem dX9_done_45 : decode cX9_done 45 = .ok (.aload_n 0, 1) := by decide +kernel
theorem dX9_done_46 : decode cX9_done 46 = .ok (.getfield 56, 3) := by decide +kernel
theorem dX9_done_49 : decode cX9_done 49 = .ok (.iconst 2, 1) := by decide +kernel
theorem dX9_done_50 : decode cX9_done 50 = .ok (.iaload, 1) := by decide +kernel
theorem dX9_done_51 : decode cX9_done 51 = .ok (.invokevirtual 273, 3) := by decide +kernel
theorem dX9_done_54 : decode cX9_done 54 = .ok (.ireturn, 1) := by decide +kernel
theorem dX9_done_55 : decode cX9_done 55 = .ok (.aload_n 0, 1) := by decide +kernel
theorem dX9_done_56 : decode cX9_done 56 = .ok (.aload_n 0, 1) := by decide +kernel
theorem dX9_done_57 : decode cX9_done 57 = .ok (.getfield 56, 3) := by decide +kernel
theorem dX9_done_60 : decode cX9_done 60 = .ok (.iconst 0, 1) := by decide +kernel
theorem dX9_done_61 : decode cX9_done 61 = .ok (.iaload, 1) := by decide +kernel
theorem dX9_done_62 : decode cX9_done 62 = .ok (.invokevirtual 276, 3) := by decide +kernel
theorem dX9_done_65 : decode cX9_done 65 = .ok (.ireturn, 1) := by decide +kernel
theorem dX9_done_66 : decode cX9_done 66 = .ok (.aload_n 0, 1) := by decide +kernel
theorem dX9_done_67 : decode cX9_done 67 = .ok (.aload_n 0, 1) := by decide +kernel
theorem dX9_done_68 : decode cX9_done 68 = .ok (.getfield 56, 3) := by decide +kernel
theorem dX9_done_71 : decode cX9_done 71 = .ok (.iconst 0, 1) := by decide +kernel
theorem dX9_done_72 : decode cX9_done 72 = .ok (.iaload, 1) := by decide +kernel
theorem dX9_done_73 : decode cX9_done 73 = .ok (.aload_n 0, 1) := by decide +kernel
end
section
theorem dX9_done_74 : decode cX9_done 74 = .ok (.getfield 56, 3) := by decide +kernel
theorem dX9_done_77 : decode cX9_done 77 = .ok (.iconst 1, 1) := by decide +kernel
theorem dX9_done_78 : decode cX9_done 78 = .ok (.iaload, 1) := by decide +kernel
theorem dX9_done_79 : decode cX9_done 79 = .ok (.invokevirtual 279, 3) := by decide +kernel
theorem dX9_done_82 : decode cX9_done 82 = .ok (.ireturn, 1) := by decide +kernel
theorem dX9_done_83 : decode cX9_done 83 = .ok (.aload_n 0, 1) := by decide +kernel
theorem dX9_done_84 : decode cX9_done 84 = .ok (.aload_n 0, 1) := by decide +kernel
theorem dX9_done_85 : decode cX9_done 85 = .ok (.getfield 56, 3) := by decide +kernel
theorem dX9_done_88 : decode cX9_done 88 = .ok (.iconst 0, 1) := by decide +kernel
theorem dX9_done_89 : decode cX9_done 89 = .ok (.iaload, 1) := by decide +kernel
theorem dX9_done_90 : decode cX9_done 90 = .ok (.aload_n 0, 1) := by decide +kernel
theorem dX9_done_91 : decode cX9_done 91 = .ok (.getfield 56, 3) := by decide +kernel
theorem dX9_done_94 : decode cX9_done 94 = .ok (.iconst 1, 1) := by decide +kernel
theorem dX9_done_95 : decode cX9_done 95 = .ok (.iaload, 1) := by decide +kernel
theorem dX9_done_96 : decode cX9_done 96 = .ok (.invokevirtual 282, 3) := by decide +kernel
theorem dX9_done_99 : decode cX9_done 99 = .ok (.ireturn, 1) := by decide +kernel
theorem dX9_done_100 : decode cX9_done 100 = .ok (.aload_n 0, 1) := by decide +kernel
theorem dX9_done_101 : decode cX9_done 101 = .ok (.aload_n 0, 1) := by decide +kernel
theorem dX9_done_102 : decode cX9_done 102 = .ok (.getfield 56, 3) := by decide +kernel
theorem dX9_done_105 : decode cX9_done 105 = .ok (.iconst 0, 1) := by decide +kernel
theorem dX9_done_106 : decode cX9_done 106 = .ok (.iaload, 1) := by decide +kernel
theorem dX9_done_107 : decode cX9_done 107 = .ok (.invokevirtual 285, 3) := by decide +kernel
theorem dX9_done_110 : decode cX9_done 110 = .ok (.ireturn, 1) := by decide +kernel
theorem dX9_run_0 : decode cX9_run 0 = .ok (.aload_n 0, 1) := by decide +kernel
theorem dX9_run_1 : decode cX9_run 1 = .ok (.aload_n 0, 1) := by decide +kernel
theorem dX9_run_2 : decode cX9_run 2 = .ok (.getfield 215, 3) := by decide +kernel
theorem dX9_run_5 : decode cX9_run 5 = .ok (.putfield 221, 3) := by decide +kernel
theorem dX9_run_8 : decode cX9_run 8 = .ok (.aload_n 0, 1) := by decide +kernel
theorem dX9_run_9 : decode cX9_run 9 = .ok (.iconst 0, 1) := by decide +kernel
theorem dX9_run_10 : decode cX9_run 10 = .ok (.putfield 215, 3) := by decide +kernel
theorem dX9_run_13 : decode cX9_run 13 = .ok (.aload_n 0, 1) := by decide +kernel
theorem dX9_run_14 : decode cX9_run 14 = .ok (.iconst 0, 1) := by decide +kernel
theorem dX9_run_15 : decode cX9_run 15 = .ok (.putfield 218, 3) := by decide +kernel
theorem dX9_run_18 : decode cX9_run 18 = .ok (.iconst 1, 1) := by decide +kernel
theorem dX9_run_19 : decode cX9_run 19 = .ok (.istore_n 1, 1) := by decide +kernel
theorem dX9_run_20 : decode cX9_run 20 = .ok (.iconst 0, 1) := by decide +kernel
theorem dX9_run_21 : decode cX9_run 21 = .ok (.istore_n 2, 1) := by decide +kernel
theorem dX9_run_22 : decode cX9_run 22 = .ok (.iload_n 1, 1) := by decide +kernel
theorem dX9_run_23 : decode cX9_run 23 = .ok (.ifCond .eq 53, 3) := by decide +kernel
theorem dX9_run_26 : decode cX9_run 26 = .ok (.aload_n 0, 1) := by decide +kernel
theorem dX9_run_27 : decode cX9_run 27 = .ok (.invokevirtual 288, 3) := by decide +kernel
theorem dX9_run_30 : decode cX9_run 30 = .ok (.iconst (-1), 1) := by decide +kernel
theorem dX9_run_31 : decode cX9_run 31 = .ok (.if_icmp .ne 12, 3) := by decide +kernel
theorem dX9_run_34 : decode cX9_run 34 = .ok (.sipush (-1000), 3) := by decide +kernel
theorem dX9_run_37 : decode cX9_run 37 = .ok (.aload_n 0, 1) := by decide +kernel
theorem dX9_run_38 : decode cX9_run 38 = .ok (.getfield 218, 3) := by decide +kernel
theorem dX9_run_41 : decode cX9_run 41 = .ok (.isub, 1) := by decide +kernel
theorem dX9_run_42 : decode cX9_run 42 = .ok (.ireturn, 1) := by decide +kernel
theorem dX9_run_43 : decode cX9_run 43 = .ok (.iinc 2 1, 3) := by decide +kernel
theorem dX9_run_46 : decode cX9_run 46 = .ok (.aload_n 0, 1) := by decide +kernel
theorem dX9_run_47 : decode cX9_run 47 = .ok (.bipush 59, 2) := by decide +kernel
theorem dX9_run_49 : decode cX9_run 49 = .ok (.bipush 59, 2) := by decide +kernel
theorem dX9_run_51 : decode cX9_run 51 = .ok (.invokevirtual 239, 3) := by decide +kernel
theorem dX9_run_54 : decode cX9_run 54 = .ok (.istore_n 1, 1) := by decide +kernel
theorem dX9_run_55 : decode cX9_run 55 = .ok (.aload_n 0, 1) := by decide +kernel
theorem dX9_run_56 : decode cX9_run 56 = .ok (.dup, 1) := by decide +kernel
theorem dX9_run_57 : decode cX9_run 57 = .ok (.getfield 218, 3) := by decide +kernel
theorem dX9_run_60 : decode cX9_run 60 = .ok (.iload_n 1, 1) := by decide +kernel
theorem dX9_run_61 : decode cX9_run 61 = .ok (.ifCond .eq 7, 3) := by decide +kernel
theorem dX9_run_64 : decode cX9_run 64 = .ok (.iconst 1, 1) := by decide +kernel
theorem dX9_run_65 : decode cX9_run 65 = .ok (.goto 4, 3) := by decide +kernel
theorem dX9_run_68 : decode cX9_run 68 = .ok (.iconst 0, 1) := by decide +kernel
theorem dX9_run_69 : decode cX9_run 69 = .ok (.iadd, 1) := by decide +kernel
theorem dX9_run_70 : decode cX9_run 70 = .ok (.putfield 218, 3) := by decide +kernel
theorem dX9_run_73 : decode cX9_run 73 = .ok (.goto (-51), 3) := by decide +kernel
theorem dX9_run_76 : decode cX9_run 76 = .ok (.aload_n 0, 1) := by decide +kernel
theorem dX9_run_77 : decode cX9_run 77 = .ok (.getfield 218, 3) := by decide +kernel
theorem dX9_run_80 : decode cX9_run 80 = .ok (.aload_n 0, 1) := by decide +kernel
theorem dX9_run_81 : decode cX9_run 81 = .ok (.getfield 221, 3) := by decide +kernel
theorem dX9_run_84 : decode cX9_run 84 = .ok (.if_icmp .ge 12, 3) := by decide +kernel
theorem dX9_run_87 : decode cX9_run 87 = .ok (.sipush (-1000), 3) := by decide +kernel
theorem dX9_run_90 : decode cX9_run 90 = .ok (.aload_n 0, 1) := by decide +kernel
theorem dX9_run_91 : decode cX9_run 91 = .ok (.getfield 218, 3) := by decide +kernel
theorem dX9_run_94 : decode cX9_run 94 = .ok (.isub, 1) := by decide +kernel
theorem dX9_run_95 : decode cX9_run 95 = .ok (.ireturn, 1) := by decide +kernel
theorem dX9_run_96 : decode cX9_run 96 = .ok (.aload_n 0, 1) := by decide +kernel
theorem dX9_run_97 : decode cX9_run 97 = .ok (.iconst 0, 1) := by decide +kernel
theorem dX9_run_98 : decode cX9_run 98 = .ok (.putfield 218, 3) := by decide +kernel
theorem dX9_run_101 : decode cX9_run 101 = .ok (.iconst 0, 1) := by decide +kernel
theorem dX9_run_102 : decode cX9_run 102 = .ok (.istore_n 3, 1) := by decide +kernel
theorem dX9_run_103 : decode cX9_run 103 = .ok (.iload_n 3, 1) := by decide +kernel
theorem dX9_run_104 : decode cX9_run 104 = .ok (.iload_n 2, 1) := by decide +kernel
theorem dX9_run_105 : decode cX9_run 105 = .ok (.if_icmp .ge 36, 3) := by decide +kernel
theorem dX9_run_108 : decode cX9_run 108 = .ok (.aload_n 0, 1) := by decide +kernel
theorem dX9_run_109 : decode cX9_run 109 = .ok (.aload_n 0, 1) := by decide +kernel
theorem dX9_run_110 : decode cX9_run 110 = .ok (.invokevirtual 288, 3) := by decide +kernel
theorem dX9_run_113 : decode cX9_run 113 = .ok (.invokevirtual 291, 3) := by decide +kernel
theorem dX9_run_116 : decode cX9_run 116 = .ok (.ifCond .ge 9, 3) := by decide +kernel
theorem dX9_run_119 : decode cX9_run 119 = .ok (.sipush (-2000), 3) := by decide +kernel
theorem dX9_run_122 : decode cX9_run 122 = .ok (.iload_n 3, 1) := by decide +kernel
theorem dX9_run_123 : decode cX9_run 123 = .ok (.isub, 1) := by decide +kernel
theorem dX9_run_124 : decode cX9_run 124 = .ok (.ireturn, 1) := by decide +kernel
theorem dX9_run_125 : decode cX9_run 125 = .ok (.aload_n 0, 1) := by decide +kernel
theorem dX9_run_126 : decode cX9_run 126 = .ok (.dup, 1) := by decide +kernel
theorem dX9_run_127 : decode cX9_run 127 = .ok (.getfield 218, 3) := by decide +kernel
theorem dX9_run_130 : decode cX9_run 130 = .ok (.iconst 1, 1) := by decide +kernel
theorem dX9_run_131 : decode cX9_run 131 = .ok (.iadd, 1) := by decide +kernel
theorem dX9_run_132 : decode cX9_run 132 = .ok (.putfield 218, 3) := by decide +kernel
theorem dX9_run_135 : decode cX9_run 135 = .ok (.iinc 3 1, 3) := by decide +kernel
theorem dX9_run_138 : decode cX9_run 138 = .ok (.goto (-35), 3) := by decide +kernel
theorem dX9_run_141 : decode cX9_run 141 = .ok (.iload_n 2, 1) := by decide +kernel
theorem dX9_run_142 : decode cX9_run 142 = .ok (.ireturn, 1) := by decide +kernel
theorem dX9_isHolder_0 : decode cX9_isHolder 0 = .ok (.iload_n 0, 1) := by decide +kernel
theorem dX9_isHolder_1 : decode cX9_isHolder 1 = .ok (.i2l, 1) := by decide +kernel
theorem dX9_isHolder_2 : decode cX9_isHolder 2 = .ok (.lconst 0, 1) := by decide +kernel
theorem dX9_isHolder_3 : decode cX9_isHolder 3 = .ok (.ldc2_w 203, 3) := by decide +kernel
theorem dX9_isHolder_6 : decode cX9_isHolder 6 = .ok (.invokestatic 92, 3) := by decide +kernel
theorem dX9_isHolder_9 : decode cX9_isHolder 9 = .ok (.ireturn, 1) := by decide +kernel
theorem dX9_looksHeld_0 : decode cX9_looksHeld 0 = .ok (.aload_n 0, 1) := by decide +kernel
theorem dX9_looksHeld_1 : decode cX9_looksHeld 1 = .ok (.aload_n 0, 1) := by decide +kernel
theorem dX9_looksHeld_2 : decode cX9_looksHeld 2 = .ok (.getfield 62, 3) := by decide +kernel
theorem dX9_looksHeld_5 : decode cX9_looksHeld 5 = .ok (.iload_n 1, 1) := by decide +kernel
theorem dX9_looksHeld_6 : decode cX9_looksHeld 6 = .ok (.iaload, 1) := by decide +kernel
theorem dX9_looksHeld_7 : decode cX9_looksHeld 7 = .ok (.i2l, 1) := by decide +kernel
theorem dX9_looksHeld_8 : decode cX9_looksHeld 8 = .ok (.aload_n 0, 1) := by decide +kernel
theorem dX9_looksHeld_9 : decode cX9_looksHeld 9 = .ok (.getfield 65, 3) := by decide +kernel
theorem dX9_looksHeld_12 : decode cX9_looksHeld 12 = .ok (.iload_n 1, 1) := by decide +kernel
theorem dX9_looksHeld_13 : decode cX9_looksHeld 13 = .ok (.iaload, 1) := by decide +kernel
theorem dX9_looksHeld_14 : decode cX9_looksHeld 14 = .ok (.aload_n 0, 1) := by decide +kernel
theorem dX9_looksHeld_15 : decode cX9_looksHeld 15 = .ok (.getfield 68, 3) := by decide +kernel
theorem dX9_looksHeld_18 : decode cX9_looksHeld 18 = .ok (.iload_n 1, 1) := by decide +kernel
theorem dX9_looksHeld_19 : decode cX9_looksHeld 19 = .ok (.iaload, 1) := by decide +kernel
theorem dX9_looksHeld_20 : decode cX9_looksHeld 20 = .ok (.invokevirtual 110, 3) := by decide +kernel
theorem dX9_looksHeld_23 : decode cX9_looksHeld 23 = .ok (.return_, 1) := by decide +kernel
theorem dX9_hold_0 : decode cX9_hold 0 = .ok (.iload_n 1, 1) := by decide +kernel
theorem dX9_hold_1 : decode cX9_hold 1 = .ok (.invokestatic 294, 3) := by decide +kernel
theorem dX9_hold_4 : decode cX9_hold 4 = .ok (.ifCond .eq 11, 3) := by decide +kernel
theorem dX9_hold_7 : decode cX9_hold 7 = .ok (.aload_n 0, 1) := by decide +kernel
theorem dX9_hold_8 : decode cX9_hold 8 = .ok (.iload_n 2, 1) := by decide +kernel
theorem dX9_hold_9 : decode cX9_hold 9 = .ok (.invokevirtual 126, 3) := by decide +kernel
theorem dX9_hold_12 : decode cX9_hold 12 = .ok (.ifCond .ne 5, 3) := by decide +kernel
theorem dX9_hold_15 : decode cX9_hold 15 = .ok (.iconst (-1), 1) := by decide +kernel
theorem dX9_hold_16 : decode cX9_hold 16 = .ok (.ireturn, 1) := by decide +kernel
theorem dX9_hold_17 : decode cX9_hold 17 = .ok (.aload_n 0, 1) := by decide +kernel
theorem dX9_hold_18 : decode cX9_hold 18 = .ok (.getfield 59, 3) := by decide +kernel
theorem dX9_hold_21 : decode cX9_hold 21 = .ok (.iload_n 1, 1) := by decide +kernel
theorem dX9_hold_22 : decode cX9_hold 22 = .ok (.iconst 1, 1) := by decide +kernel
theorem dX9_hold_23 : decode cX9_hold 23 = .ok (.iastore, 1) := by decide +kernel
theorem dX9_hold_24 : decode cX9_hold 24 = .ok (.aload_n 0, 1) := by decide +kernel
theorem dX9_hold_25 : decode cX9_hold 25 = .ok (.getfield 62, 3) := by decide +kernel
theorem dX9_hold_28 : decode cX9_hold 28 = .ok (.iload_n 1, 1) := by decide +kernel
theorem dX9_hold_29 : decode cX9_hold 29 = .ok (.aload_n 0, 1) := by decide +kernel
theorem dX9_hold_30 : decode cX9_hold 30 = .ok (.getfield 11, 3) := by decide +kernel
theorem dX9_hold_33 : decode cX9_hold 33 = .ok (.iload_n 2, 1) := by decide +kernel
theorem dX9_hold_34 : decode cX9_hold 34 = .ok (.iaload, 1) := by decide +kernel
theorem dX9_hold_35 : decode cX9_hold 35 = .ok (.iastore, 1) := by decide +kernel
theorem dX9_hold_36 : decode cX9_hold 36 = .ok (.aload_n 0, 1) := by decide +kernel
theorem dX9_hold_37 : decode cX9_hold 37 = .ok (.getfield 65, 3) := by decide +kernel
theorem dX9_hold_40 : decode cX9_hold 40 = .ok (.iload_n 1, 1) := by decide +kernel
theorem dX9_hold_41 : decode cX9_hold 41 = .ok (.aload_n 0, 1) := by decide +kernel
theorem dX9_hold_42 : decode cX9_hold 42 = .ok (.getfield 15, 3) := by decide +kernel
theorem dX9_hold_45 : decode cX9_hold 45 = .ok (.iload_n 2, 1) := by decide +kernel
theorem dX9_hold_46 : decode cX9_hold 46 = .ok (.iaload, 1) := by decide +kernel
theorem dX9_hold_47 : decode cX9_hold 47 = .ok (.iastore, 1) := by decide +kernel
theorem dX9_hold_48 : decode cX9_hold 48 = .ok (.aload_n 0, 1) := by decide +kernel
theorem dX9_hold_49 : decode cX9_hold 49 = .ok (.getfield 68, 3) := by decide +kernel
theorem dX9_hold_52 : decode cX9_hold 52 = .ok (.iload_n 1, 1) := by decide +kernel
theorem dX9_hold_53 : decode cX9_hold 53 = .ok (.aload_n 0, 1) := by decide +kernel
theorem dX9_hold_54 : decode cX9_hold 54 = .ok (.getfield 18, 3) := by decide +kernel
theorem dX9_hold_57 : decode cX9_hold 57 = .ok (.iload_n 2, 1) := by decide +kernel
theorem dX9_hold_58 : decode cX9_hold 58 = .ok (.iaload, 1) := by decide +kernel
theorem dX9_hold_59 : decode cX9_hold 59 = .ok (.iastore, 1) := by decide +kernel
theorem dX9_hold_60 : decode cX9_hold 60 = .ok (.aload_n 0, 1) := by decide +kernel
theorem dX9_hold_61 : decode cX9_hold 61 = .ok (.iload_n 1, 1) := by decide +kernel
theorem dX9_hold_62 : decode cX9_hold 62 = .ok (.invokevirtual 297, 3) := by decide +kernel
theorem dX9_hold_65 : decode cX9_hold 65 = .ok (.aload_n 0, 1) := by decide +kernel
theorem dX9_hold_66 : decode cX9_hold 66 = .ok (.invokevirtual 141, 3) := by decide +kernel
theorem dX9_hold_69 : decode cX9_hold 69 = .ok (.ireturn, 1) := by decide +kernel
theorem dX9_lose_0 : decode cX9_lose 0 = .ok (.iload_n 1, 1) := by decide +kernel
theorem dX9_lose_1 : decode cX9_lose 1 = .ok (.invokestatic 294, 3) := by decide +kernel
theorem dX9_lose_4 : decode cX9_lose 4 = .ok (.ifCond .ne 5, 3) := by decide +kernel
theorem dX9_lose_7 : decode cX9_lose 7 = .ok (.iconst (-1), 1) := by decide +kernel
theorem dX9_lose_8 : decode cX9_lose 8 = .ok (.ireturn, 1) := by decide +kernel
theorem dX9_lose_9 : decode cX9_lose 9 = .ok (.aload_n 0, 1) := by decide +kernel
theorem dX9_lose_10 : decode cX9_lose 10 = .ok (.getfield 59, 3) := by decide +kernel
theorem dX9_lose_13 : decode cX9_lose 13 = .ok (.iload_n 1, 1) := by decide +kernel
theorem dX9_lose_14 : decode cX9_lose 14 = .ok (.iaload, 1) := by decide +kernel
theorem dX9_lose_15 : decode cX9_lose 15 = .ok (.istore_n 2, 1) := by decide +kernel
theorem dX9_lose_16 : decode cX9_lose 16 = .ok (.aload_n 0, 1) := by decide +kernel
theorem dX9_lose_17 : decode cX9_lose 17 = .ok (.getfield 59, 3) := by decide +kernel
theorem dX9_lose_20 : decode cX9_lose 20 = .ok (.iload_n 1, 1) := by decide +kernel
theorem dX9_lose_21 : decode cX9_lose 21 = .ok (.iconst 0, 1) := by decide +kernel
theorem dX9_lose_22 : decode cX9_lose 22 = .ok (.iastore, 1) := by decide +kernel
theorem dX9_lose_23 : decode cX9_lose 23 = .ok (.iload_n 2, 1) := by decide +kernel
theorem dX9_lose_24 : decode cX9_lose 24 = .ok (.ireturn, 1) := by decide +kernel
theorem dX9_whyNot_0 : decode cX9_whyNot 0 = .ok (.aload_n 0, 1) := by decide +kernel
theorem dX9_whyNot_1 : decode cX9_whyNot 1 = .ok (.getfield 59, 3) := by decide +kernel
theorem dX9_whyNot_4 : decode cX9_whyNot 4 = .ok (.iload_n 1, 1) := by decide +kernel
theorem dX9_whyNot_5 : decode cX9_whyNot 5 = .ok (.iaload, 1) := by decide +kernel
theorem dX9_whyNot_6 : decode cX9_whyNot 6 = .ok (.ifCond .ne 8, 3) := by decide +kernel
theorem dX9_whyNot_9 : decode cX9_whyNot 9 = .ok (.bipush (-11), 2) := by decide +kernel
theorem dX9_whyNot_11 : decode cX9_whyNot 11 = .ok (.goto 19, 3) := by decide +kernel
theorem dX9_whyNot_14 : decode cX9_whyNot 14 = .ok (.aload_n 0, 1) := by decide +kernel
theorem dX9_whyNot_15 : decode cX9_whyNot 15 = .ok (.getfield 59, 3) := by decide +kernel
theorem dX9_whyNot_18 : decode cX9_whyNot 18 = .ok (.iload_n 1, 1) := by decide +kernel
theorem dX9_whyNot_19 : decode cX9_whyNot 19 = .ok (.iaload, 1) := by decide +kernel
theorem dX9_whyNot_20 : decode cX9_whyNot 20 = .ok (.iload_n 2, 1) := by decide +kernel
theorem dX9_whyNot_21 : decode cX9_whyNot 21 = .ok (.if_icmp .ne 7, 3) := by decide +kernel
theorem dX9_whyNot_24 : decode cX9_whyNot 24 = .ok (.iconst 0, 1) := by decide +kernel
theorem dX9_whyNot_25 : decode cX9_whyNot 25 = .ok (.goto 5, 3) := by decide +kernel
theorem dX9_whyNot_28 : decode cX9_whyNot 28 = .ok (.bipush (-12), 2) := by decide +kernel
theorem dX9_whyNot_30 : decode cX9_whyNot 30 = .ok (.ireturn, 1) := by decide +kernel
theorem dX9_taken_0 : decode cX9_taken 0 = .ok (.iload_n 1, 1) := by decide +kernel
theorem dX9_taken_1 : decode cX9_taken 1 = .ok (.invokestatic 294, 3) := by decide +kernel
theorem dX9_taken_4 : decode cX9_taken 4 = .ok (.ifCond .eq 15, 3) := by decide +kernel
theorem dX9_taken_7 : decode cX9_taken 7 = .ok (.iload_n 2, 1) := by decide +kernel
theorem dX9_taken_8 : decode cX9_taken 8 = .ok (.i2l, 1) := by decide +kernel
theorem dX9_taken_9 : decode cX9_taken 9 = .ok (.lconst 0, 1) := by decide +kernel
theorem dX9_taken_10 : decode cX9_taken 10 = .ok (.ldc2_w 300, 3) := by decide +kernel
theorem dX9_taken_13 : decode cX9_taken 13 = .ok (.invokestatic 92, 3) := by decide +kernel
theorem dX9_taken_16 : decode cX9_taken 16 = .ok (.ifCond .ne 5, 3) := by decide +kernel
theorem dX9_taken_19 : decode cX9_taken 19 = .ok (.iconst (-1), 1) := by decide +kernel
theorem dX9_taken_20 : decode cX9_taken 20 = .ok (.ireturn, 1) := by decide +kernel
theorem dX9_taken_21 : decode cX9_taken 21 = .ok (.aload_n 0, 1) := by decide +kernel
theorem dX9_taken_22 : decode cX9_taken 22 = .ok (.iload_n 1, 1) := by decide +kernel
theorem dX9_taken_23 : decode cX9_taken 23 = .ok (.iconst 1, 1) := by decide +kernel
theorem dX9_taken_24 : decode cX9_taken 24 = .ok (.invokevirtual 302, 3) := by decide +kernel
theorem dX9_taken_27 : decode cX9_taken 27 = .ok (.istore_n 3, 1) := by decide +kernel
theorem dX9_taken_28 : decode cX9_taken 28 = .ok (.iload_n 3, 1) := by decide +kernel
theorem dX9_taken_29 : decode cX9_taken 29 = .ok (.ifCond .eq 5, 3) := by decide +kernel
theorem dX9_taken_32 : decode cX9_taken 32 = .ok (.iload_n 3, 1) := by decide +kernel
theorem dX9_taken_33 : decode cX9_taken 33 = .ok (.ireturn, 1) := by decide +kernel
theorem dX9_taken_34 : decode cX9_taken 34 = .ok (.aload_n 0, 1) := by decide +kernel
theorem dX9_taken_35 : decode cX9_taken 35 = .ok (.iload_n 1, 1) := by decide +kernel
theorem dX9_taken_36 : decode cX9_taken 36 = .ok (.invokevirtual 297, 3) := by decide +kernel
theorem dX9_taken_39 : decode cX9_taken 39 = .ok (.iload_n 2, 1) := by decide +kernel
theorem dX9_taken_40 : decode cX9_taken 40 = .ok (.ifCond .le 16, 3) := by decide +kernel
theorem dX9_taken_43 : decode cX9_taken 43 = .ok (.aload_n 0, 1) := by decide +kernel
theorem dX9_taken_44 : decode cX9_taken 44 = .ok (.invokevirtual 141, 3) := by decide +kernel
theorem dX9_taken_47 : decode cX9_taken 47 = .ok (.iload_n 2, 1) := by decide +kernel
theorem dX9_taken_48 : decode cX9_taken 48 = .ok (.iconst 1, 1) := by decide +kernel
theorem dX9_taken_49 : decode cX9_taken 49 = .ok (.isub, 1) := by decide +kernel
theorem dX9_taken_50 : decode cX9_taken 50 = .ok (.if_icmp .eq 6, 3) := by decide +kernel
theorem dX9_taken_53 : decode cX9_taken 53 = .ok (.bipush (-12), 2) := by decide +kernel
theorem dX9_taken_55 : decode cX9_taken 55 = .ok (.ireturn, 1) := by decide +kernel
theorem dX9_taken_56 : decode cX9_taken 56 = .ok (.iload_n 2, 1) := by decide +kernel
theorem dX9_taken_57 : decode cX9_taken 57 = .ok (.ifCond .ne 12, 3) := by decide +kernel
theorem dX9_taken_60 : decode cX9_taken 60 = .ok (.aload_n 0, 1) := by decide +kernel
theorem dX9_taken_61 : decode cX9_taken 61 = .ok (.getfield 62, 3) := by decide +kernel
theorem dX9_taken_64 : decode cX9_taken 64 = .ok (.iload_n 1, 1) := by decide +kernel
theorem dX9_taken_65 : decode cX9_taken 65 = .ok (.iaload, 1) := by decide +kernel
theorem dX9_taken_66 : decode cX9_taken 66 = .ok (.goto 19, 3) := by decide +kernel
theorem dX9_taken_69 : decode cX9_taken 69 = .ok (.iload_n 2, 1) := by decide +kernel
theorem dX9_taken_70 : decode cX9_taken 70 = .ok (.iconst 2, 1) := by decide +kernel
theorem dX9_taken_71 : decode cX9_taken 71 = .ok (.if_icmp .ne 10, 3) := by decide +kernel
theorem dX9_taken_74 : decode cX9_taken 74 = .ok (.aload_n 0, 1) := by decide +kernel
theorem dX9_taken_75 : decode cX9_taken 75 = .ok (.getfield 103, 3) := by decide +kernel
theorem dX9_taken_78 : decode cX9_taken 78 = .ok (.goto 7, 3) := by decide +kernel
theorem dX9_taken_81 : decode cX9_taken 81 = .ok (.aload_n 0, 1) := by decide +kernel
theorem dX9_taken_82 : decode cX9_taken 82 = .ok (.getfield 100, 3) := by decide +kernel
theorem dX9_taken_85 : decode cX9_taken 85 = .ok (.ireturn, 1) := by decide +kernel
theorem dX9_was_0 : decode cX9_was 0 = .ok (.iload_n 1, 1) := by decide +kernel
theorem dX9_was_1 : decode cX9_was 1 = .ok (.invokestatic 294, 3) := by decide +kernel
theorem dX9_was_4 : decode cX9_was 4 = .ok (.ifCond .eq 15, 3) := by decide +kernel
theorem dX9_was_7 : decode cX9_was 7 = .ok (.iload_n 2, 1) := by decide +kernel
theorem dX9_was_8 : decode cX9_was 8 = .ok (.i2l, 1) := by decide +kernel
theorem dX9_was_9 : decode cX9_was 9 = .ok (.lconst 0, 1) := by decide +kernel
theorem dX9_was_10 : decode cX9_was 10 = .ok (.ldc2_w 114, 3) := by decide +kernel
theorem dX9_was_13 : decode cX9_was 13 = .ok (.invokestatic 92, 3) := by decide +kernel
theorem dX9_was_16 : decode cX9_was 16 = .ok (.ifCond .ne 5, 3) := by decide +kernel
theorem dX9_was_19 : decode cX9_was 19 = .ok (.iconst (-1), 1) := by decide +kernel
theorem dX9_was_20 : decode cX9_was 20 = .ok (.ireturn, 1) := by decide +kernel
theorem dX9_was_21 : decode cX9_was 21 = .ok (.aload_n 0, 1) := by decide +kernel
theorem dX9_was_22 : decode cX9_was 22 = .ok (.iload_n 1, 1) := by decide +kernel
theorem dX9_was_23 : decode cX9_was 23 = .ok (.iconst 1, 1) := by decide +kernel
theorem dX9_was_24 : decode cX9_was 24 = .ok (.invokevirtual 302, 3) := by decide +kernel
theorem dX9_was_27 : decode cX9_was 27 = .ok (.istore_n 3, 1) := by decide +kernel
theorem dX9_was_28 : decode cX9_was 28 = .ok (.iload_n 3, 1) := by decide +kernel
theorem dX9_was_29 : decode cX9_was 29 = .ok (.ifCond .eq 5, 3) := by decide +kernel
theorem dX9_was_32 : decode cX9_was 32 = .ok (.iload_n 3, 1) := by decide +kernel
theorem dX9_was_33 : decode cX9_was 33 = .ok (.ireturn, 1) := by decide +kernel
theorem dX9_was_34 : decode cX9_was 34 = .ok (.aload_n 0, 1) := by decide +kernel
theorem dX9_was_35 : decode cX9_was 35 = .ok (.iload_n 1, 1) := by decide +kernel
theorem dX9_was_36 : decode cX9_was 36 = .ok (.invokevirtual 297, 3) := by decide +kernel
theorem dX9_was_39 : decode cX9_was 39 = .ok (.aload_n 0, 1) := by decide +kernel
theorem dX9_was_40 : decode cX9_was 40 = .ok (.getfield 27, 3) := by decide +kernel
theorem dX9_was_43 : decode cX9_was 43 = .ok (.aload_n 0, 1) := by decide +kernel
theorem dX9_was_44 : decode cX9_was 44 = .ok (.iload_n 2, 1) := by decide +kernel
theorem dX9_was_45 : decode cX9_was 45 = .ok (.invokevirtual 145, 3) := by decide +kernel
theorem dX9_was_48 : decode cX9_was 48 = .ok (.iaload, 1) := by decide +kernel
theorem dX9_was_49 : decode cX9_was 49 = .ok (.ireturn, 1) := by decide +kernel
theorem dX9_row_0 : decode cX9_row 0 = .ok (.iload_n 1, 1) := by decide +kernel
theorem dX9_row_1 : decode cX9_row 1 = .ok (.invokestatic 294, 3) := by decide +kernel
theorem dX9_row_4 : decode cX9_row 4 = .ok (.ifCond .eq 9, 3) := by decide +kernel
theorem dX9_row_7 : decode cX9_row 7 = .ok (.iload_n 2, 1) := by decide +kernel
theorem dX9_row_8 : decode cX9_row 8 = .ok (.bipush 40, 2) := by decide +kernel
theorem dX9_row_10 : decode cX9_row 10 = .ok (.if_icmp .le 5, 3) := by decide +kernel
theorem dX9_row_13 : decode cX9_row 13 = .ok (.iconst (-1), 1) := by decide +kernel
theorem dX9_row_14 : decode cX9_row 14 = .ok (.ireturn, 1) := by decide +kernel
theorem dX9_row_15 : decode cX9_row 15 = .ok (.iload_n 2, 1) := by decide +kernel
theorem dX9_row_16 : decode cX9_row 16 = .ok (.ifCond .ge 6, 3) := by decide +kernel
theorem dX9_row_19 : decode cX9_row 19 = .ok (.bipush (-14), 2) := by decide +kernel
theorem dX9_row_21 : decode cX9_row 21 = .ok (.ireturn, 1) := by decide +kernel
theorem dX9_row_22 : decode cX9_row 22 = .ok (.aload_n 0, 1) := by decide +kernel
theorem dX9_row_23 : decode cX9_row 23 = .ok (.getfield 59, 3) := by decide +kernel
theorem dX9_row_26 : decode cX9_row 26 = .ok (.iload_n 1, 1) := by decide +kernel
theorem dX9_row_27 : decode cX9_row 27 = .ok (.iconst 2, 1) := by decide +kernel
theorem dX9_row_28 : decode cX9_row 28 = .ok (.iastore, 1) := by decide +kernel
theorem dX9_row_29 : decode cX9_row 29 = .ok (.aload_n 0, 1) := by decide +kernel
theorem dX9_row_30 : decode cX9_row 30 = .ok (.getfield 71, 3) := by decide +kernel
theorem dX9_row_33 : decode cX9_row 33 = .ok (.iload_n 1, 1) := by decide +kernel
theorem dX9_row_34 : decode cX9_row 34 = .ok (.iload_n 2, 1) := by decide +kernel
theorem dX9_row_35 : decode cX9_row 35 = .ok (.iastore, 1) := by decide +kernel
theorem dX9_row_36 : decode cX9_row 36 = .ok (.iconst 0, 1) := by decide +kernel
theorem dX9_row_37 : decode cX9_row 37 = .ok (.istore_n 3, 1) := by decide +kernel
theorem dX9_row_38 : decode cX9_row 38 = .ok (.iload_n 3, 1) := by decide +kernel
theorem dX9_row_39 : decode cX9_row 39 = .ok (.bipush 40, 2) := by decide +kernel
theorem dX9_row_41 : decode cX9_row 41 = .ok (.if_icmp .ge 21, 3) := by decide +kernel
theorem dX9_row_44 : decode cX9_row 44 = .ok (.aload_n 0, 1) := by decide +kernel
theorem dX9_row_45 : decode cX9_row 45 = .ok (.getfield 74, 3) := by decide +kernel
theorem dX9_row_48 : decode cX9_row 48 = .ok (.bipush 40, 2) := by decide +kernel
theorem dX9_row_50 : decode cX9_row 50 = .ok (.iload_n 1, 1) := by decide +kernel
theorem dX9_row_51 : decode cX9_row 51 = .ok (.imul, 1) := by decide +kernel
theorem dX9_row_52 : decode cX9_row 52 = .ok (.iload_n 3, 1) := by decide +kernel
theorem dX9_row_53 : decode cX9_row 53 = .ok (.iadd, 1) := by decide +kernel
theorem dX9_row_54 : decode cX9_row 54 = .ok (.iconst 0, 1) := by decide +kernel
theorem dX9_row_55 : decode cX9_row 55 = .ok (.iastore, 1) := by decide +kernel
theorem dX9_row_56 : decode cX9_row 56 = .ok (.iinc 3 1, 3) := by decide +kernel
theorem dX9_row_59 : decode cX9_row 59 = .ok (.goto (-21), 3) := by decide +kernel
theorem dX9_row_62 : decode cX9_row 62 = .ok (.iload_n 2, 1) := by decide +kernel
theorem dX9_row_63 : decode cX9_row 63 = .ok (.ireturn, 1) := by decide +kernel
theorem dX9_put_0 : decode cX9_put 0 = .ok (.iload_n 1, 1) := by decide +kernel
theorem dX9_put_1 : decode cX9_put 1 = .ok (.invokestatic 294, 3) := by decide +kernel
theorem dX9_put_4 : decode cX9_put 4 = .ok (.ifCond .ne 5, 3) := by decide +kernel
theorem dX9_put_7 : decode cX9_put 7 = .ok (.iconst (-1), 1) := by decide +kernel
theorem dX9_put_8 : decode cX9_put 8 = .ok (.ireturn, 1) := by decide +kernel
theorem dX9_put_9 : decode cX9_put 9 = .ok (.aload_n 0, 1) := by decide +kernel
theorem dX9_put_10 : decode cX9_put 10 = .ok (.iload_n 1, 1) := by decide +kernel
theorem dX9_put_11 : decode cX9_put 11 = .ok (.iconst 2, 1) := by decide +kernel
theorem dX9_put_12 : decode cX9_put 12 = .ok (.invokevirtual 302, 3) := by decide +kernel
theorem dX9_put_15 : decode cX9_put 15 = .ok (.istore 4, 2) := by decide +kernel
theorem dX9_put_17 : decode cX9_put 17 = .ok (.iload 4, 2) := by decide +kernel
theorem dX9_put_19 : decode cX9_put 19 = .ok (.ifCond .eq 6, 3) := by decide +kernel
theorem dX9_put_22 : decode cX9_put 22 = .ok (.iload 4, 2) := by decide +kernel
theorem dX9_put_24 : decode cX9_put 24 = .ok (.ireturn, 1) := by decide +kernel
theorem dX9_put_25 : decode cX9_put 25 = .ok (.iload_n 2, 1) := by decide +kernel
theorem dX9_put_26 : decode cX9_put 26 = .ok (.i2l, 1) := by decide +kernel
theorem dX9_put_27 : decode cX9_put 27 = .ok (.lconst 0, 1) := by decide +kernel
theorem dX9_put_28 : decode cX9_put 28 = .ok (.aload_n 0, 1) := by decide +kernel
theorem dX9_put_29 : decode cX9_put 29 = .ok (.getfield 71, 3) := by decide +kernel
theorem dX9_put_32 : decode cX9_put 32 = .ok (.iload_n 1, 1) := by decide +kernel
theorem dX9_put_33 : decode cX9_put 33 = .ok (.iaload, 1) := by decide +kernel
theorem dX9_put_34 : decode cX9_put 34 = .ok (.iconst 1, 1) := by decide +kernel
theorem dX9_put_35 : decode cX9_put 35 = .ok (.isub, 1) := by decide +kernel
theorem dX9_put_36 : decode cX9_put 36 = .ok (.i2l, 1) := by decide +kernel
theorem dX9_put_37 : decode cX9_put 37 = .ok (.invokestatic 92, 3) := by decide +kernel
theorem dX9_put_40 : decode cX9_put 40 = .ok (.ifCond .ne 6, 3) := by decide +kernel
theorem dX9_put_43 : decode cX9_put 43 = .ok (.bipush (-13), 2) := by decide +kernel
theorem dX9_put_45 : decode cX9_put 45 = .ok (.ireturn, 1) := by decide +kernel
theorem dX9_put_46 : decode cX9_put 46 = .ok (.aload_n 0, 1) := by decide +kernel
theorem dX9_put_47 : decode cX9_put 47 = .ok (.getfield 74, 3) := by decide +kernel
theorem dX9_put_50 : decode cX9_put 50 = .ok (.bipush 40, 2) := by decide +kernel
theorem dX9_put_52 : decode cX9_put 52 = .ok (.iload_n 1, 1) := by decide +kernel
theorem dX9_put_53 : decode cX9_put 53 = .ok (.imul, 1) := by decide +kernel
theorem dX9_put_54 : decode cX9_put 54 = .ok (.iload_n 2, 1) := by decide +kernel
theorem dX9_put_55 : decode cX9_put 55 = .ok (.iadd, 1) := by decide +kernel
theorem dX9_put_56 : decode cX9_put 56 = .ok (.iload_n 3, 1) := by decide +kernel
theorem dX9_put_57 : decode cX9_put 57 = .ok (.iastore, 1) := by decide +kernel
theorem dX9_put_58 : decode cX9_put 58 = .ok (.iconst 1, 1) := by decide +kernel
theorem dX9_put_59 : decode cX9_put 59 = .ok (.ireturn, 1) := by decide +kernel
theorem dX9_get_0 : decode cX9_get 0 = .ok (.iload_n 1, 1) := by decide +kernel
theorem dX9_get_1 : decode cX9_get 1 = .ok (.invokestatic 294, 3) := by decide +kernel
theorem dX9_get_4 : decode cX9_get 4 = .ok (.ifCond .eq 46, 3) := by decide +kernel
theorem dX9_get_7 : decode cX9_get 7 = .ok (.aload_n 0, 1) := by decide +kernel
theorem dX9_get_8 : decode cX9_get 8 = .ok (.getfield 59, 3) := by decide +kernel
theorem dX9_get_11 : decode cX9_get 11 = .ok (.iload_n 1, 1) := by decide +kernel
theorem dX9_get_12 : decode cX9_get 12 = .ok (.iaload, 1) := by decide +kernel
theorem dX9_get_13 : decode cX9_get 13 = .ok (.iconst 2, 1) := by decide +kernel
theorem dX9_get_14 : decode cX9_get 14 = .ok (.if_icmp .ne 36, 3) := by decide +kernel
theorem dX9_get_17 : decode cX9_get 17 = .ok (.iload_n 2, 1) := by decide +kernel
theorem dX9_get_18 : decode cX9_get 18 = .ok (.i2l, 1) := by decide +kernel
theorem dX9_get_19 : decode cX9_get 19 = .ok (.lconst 0, 1) := by decide +kernel
theorem dX9_get_20 : decode cX9_get 20 = .ok (.aload_n 0, 1) := by decide +kernel
theorem dX9_get_21 : decode cX9_get 21 = .ok (.getfield 71, 3) := by decide +kernel
theorem dX9_get_24 : decode cX9_get 24 = .ok (.iload_n 1, 1) := by decide +kernel
theorem dX9_get_25 : decode cX9_get 25 = .ok (.iaload, 1) := by decide +kernel
theorem dX9_get_26 : decode cX9_get 26 = .ok (.iconst 1, 1) := by decide +kernel
theorem dX9_get_27 : decode cX9_get 27 = .ok (.isub, 1) := by decide +kernel
theorem dX9_get_28 : decode cX9_get 28 = .ok (.i2l, 1) := by decide +kernel
theorem dX9_get_29 : decode cX9_get 29 = .ok (.invokestatic 92, 3) := by decide +kernel
theorem dX9_get_32 : decode cX9_get 32 = .ok (.ifCond .eq 18, 3) := by decide +kernel
theorem dX9_get_35 : decode cX9_get 35 = .ok (.aload_n 0, 1) := by decide +kernel
theorem dX9_get_36 : decode cX9_get 36 = .ok (.getfield 74, 3) := by decide +kernel
theorem dX9_get_39 : decode cX9_get 39 = .ok (.bipush 40, 2) := by decide +kernel
theorem dX9_get_41 : decode cX9_get 41 = .ok (.iload_n 1, 1) := by decide +kernel
theorem dX9_get_42 : decode cX9_get 42 = .ok (.imul, 1) := by decide +kernel
theorem dX9_get_43 : decode cX9_get 43 = .ok (.iload_n 2, 1) := by decide +kernel
theorem dX9_get_44 : decode cX9_get 44 = .ok (.iadd, 1) := by decide +kernel
theorem dX9_get_45 : decode cX9_get 45 = .ok (.iaload, 1) := by decide +kernel
theorem dX9_get_46 : decode cX9_get 46 = .ok (.i2l, 1) := by decide +kernel
theorem dX9_get_47 : decode cX9_get 47 = .ok (.goto 6, 3) := by decide +kernel
theorem dX9_get_50 : decode cX9_get 50 = .ok (.ldc2_w 207, 3) := by decide +kernel
theorem dX9_get_53 : decode cX9_get 53 = .ok (.lreturn, 1) := by decide +kernel
theorem dX9_judge_0 : decode cX9_judge 0 = .ok (.iload_n 1, 1) := by decide +kernel
theorem dX9_judge_1 : decode cX9_judge 1 = .ok (.invokestatic 294, 3) := by decide +kernel
theorem dX9_judge_4 : decode cX9_judge 4 = .ok (.ifCond .eq 11, 3) := by decide +kernel
theorem dX9_judge_7 : decode cX9_judge 7 = .ok (.aload_n 0, 1) := by decide +kernel
theorem dX9_judge_8 : decode cX9_judge 8 = .ok (.iload_n 2, 1) := by decide +kernel
theorem dX9_judge_9 : decode cX9_judge 9 = .ok (.invokevirtual 126, 3) := by decide +kernel
theorem dX9_judge_12 : decode cX9_judge 12 = .ok (.ifCond .ne 5, 3) := by decide +kernel
theorem dX9_judge_15 : decode cX9_judge 15 = .ok (.iconst (-1), 1) := by decide +kernel
theorem dX9_judge_16 : decode cX9_judge 16 = .ok (.ireturn, 1) := by decide +kernel
theorem dX9_judge_17 : decode cX9_judge 17 = .ok (.aload_n 0, 1) := by decide +kernel
theorem dX9_judge_18 : decode cX9_judge 18 = .ok (.iload_n 1, 1) := by decide +kernel
theorem dX9_judge_19 : decode cX9_judge 19 = .ok (.iconst 2, 1) := by decide +kernel
theorem dX9_judge_20 : decode cX9_judge 20 = .ok (.invokevirtual 302, 3) := by decide +kernel
theorem dX9_judge_23 : decode cX9_judge 23 = .ok (.istore_n 3, 1) := by decide +kernel
theorem dX9_judge_24 : decode cX9_judge 24 = .ok (.iload_n 3, 1) := by decide +kernel
theorem dX9_judge_25 : decode cX9_judge 25 = .ok (.ifCond .eq 5, 3) := by decide +kernel
theorem dX9_judge_28 : decode cX9_judge 28 = .ok (.iload_n 3, 1) := by decide +kernel
theorem dX9_judge_29 : decode cX9_judge 29 = .ok (.ireturn, 1) := by decide +kernel
theorem dX9_judge_30 : decode cX9_judge 30 = .ok (.aload_n 0, 1) := by decide +kernel
theorem dX9_judge_31 : decode cX9_judge 31 = .ok (.iload_n 2, 1) := by decide +kernel
theorem dX9_judge_32 : decode cX9_judge 32 = .ok (.invokevirtual 137, 3) := by decide +kernel
theorem dX9_judge_35 : decode cX9_judge 35 = .ok (.iconst 0, 1) := by decide +kernel
theorem dX9_judge_36 : decode cX9_judge 36 = .ok (.istore 4, 2) := by decide +kernel
theorem dX9_judge_38 : decode cX9_judge 38 = .ok (.iload 4, 2) := by decide +kernel
theorem dX9_judge_40 : decode cX9_judge 40 = .ok (.aload_n 0, 1) := by decide +kernel
theorem dX9_judge_41 : decode cX9_judge 41 = .ok (.getfield 71, 3) := by decide +kernel
theorem dX9_judge_44 : decode cX9_judge 44 = .ok (.iload_n 1, 1) := by decide +kernel
theorem dX9_judge_45 : decode cX9_judge 45 = .ok (.iaload, 1) := by decide +kernel
theorem dX9_judge_46 : decode cX9_judge 46 = .ok (.if_icmp .ge 38, 3) := by decide +kernel
theorem dX9_judge_49 : decode cX9_judge 49 = .ok (.aload_n 0, 1) := by decide +kernel
theorem dX9_judge_50 : decode cX9_judge 50 = .ok (.getfield 74, 3) := by decide +kernel
theorem dX9_judge_53 : decode cX9_judge 53 = .ok (.bipush 40, 2) := by decide +kernel
theorem dX9_judge_55 : decode cX9_judge 55 = .ok (.iload_n 1, 1) := by decide +kernel
theorem dX9_judge_56 : decode cX9_judge 56 = .ok (.imul, 1) := by decide +kernel
theorem dX9_judge_57 : decode cX9_judge 57 = .ok (.iload 4, 2) := by decide +kernel
theorem dX9_judge_59 : decode cX9_judge 59 = .ok (.iadd, 1) := by decide +kernel
theorem dX9_judge_60 : decode cX9_judge 60 = .ok (.iaload, 1) := by decide +kernel
theorem dX9_judge_61 : decode cX9_judge 61 = .ok (.aload_n 0, 1) := by decide +kernel
theorem dX9_judge_62 : decode cX9_judge 62 = .ok (.getfield 27, 3) := by decide +kernel
theorem dX9_judge_65 : decode cX9_judge 65 = .ok (.aload_n 0, 1) := by decide +kernel
theorem dX9_judge_66 : decode cX9_judge 66 = .ok (.iload 4, 2) := by decide +kernel
theorem dX9_judge_68 : decode cX9_judge 68 = .ok (.invokevirtual 145, 3) := by decide +kernel
theorem dX9_judge_71 : decode cX9_judge 71 = .ok (.iaload, 1) := by decide +kernel
theorem dX9_judge_72 : decode cX9_judge 72 = .ok (.if_icmp .eq 6, 3) := by decide +kernel
theorem dX9_judge_75 : decode cX9_judge 75 = .ok (.iload 4, 2) := by decide +kernel
theorem dX9_judge_77 : decode cX9_judge 77 = .ok (.ireturn, 1) := by decide +kernel
theorem dX9_judge_78 : decode cX9_judge 78 = .ok (.iinc 4 1, 3) := by decide +kernel
theorem dX9_judge_81 : decode cX9_judge 81 = .ok (.goto (-43), 3) := by decide +kernel
theorem dX9_judge_84 : decode cX9_judge 84 = .ok (.bipush (-2), 2) := by decide +kernel
theorem dX9_judge_86 : decode cX9_judge 86 = .ok (.ireturn, 1) := by decide +kernel
theorem dX9_image_0 : decode cX9_image 0 = .ok (.aload_n 0, 1) := by decide +kernel
theorem dX9_image_1 : decode cX9_image 1 = .ok (.iconst 1, 1) := by decide +kernel
theorem dX9_image_2 : decode cX9_image 2 = .ok (.putfield 305, 3) := by decide +kernel
theorem dX9_image_5 : decode cX9_image 5 = .ok (.aload_n 0, 1) := by decide +kernel
theorem dX9_image_6 : decode cX9_image 6 = .ok (.aload_n 0, 1) := by decide +kernel
theorem dX9_image_7 : decode cX9_image 7 = .ok (.getfield 89, 3) := by decide +kernel
theorem dX9_image_10 : decode cX9_image 10 = .ok (.putfield 308, 3) := by decide +kernel
theorem dX9_image_13 : decode cX9_image 13 = .ok (.iconst 0, 1) := by decide +kernel
theorem dX9_image_14 : decode cX9_image 14 = .ok (.istore_n 1, 1) := by decide +kernel
theorem dX9_image_15 : decode cX9_image 15 = .ok (.iload_n 1, 1) := by decide +kernel
theorem dX9_image_16 : decode cX9_image 16 = .ok (.aload_n 0, 1) := by decide +kernel
theorem dX9_image_17 : decode cX9_image 17 = .ok (.getfield 89, 3) := by decide +kernel
theorem dX9_image_20 : decode cX9_image 20 = .ok (.if_icmp .ge 45, 3) := by decide +kernel
theorem dX9_image_23 : decode cX9_image 23 = .ok (.aload_n 0, 1) := by decide +kernel
theorem dX9_image_24 : decode cX9_image 24 = .ok (.getfield 77, 3) := by decide +kernel
theorem dX9_image_27 : decode cX9_image 27 = .ok (.iload_n 1, 1) := by decide +kernel
theorem dX9_image_28 : decode cX9_image 28 = .ok (.aload_n 0, 1) := by decide +kernel
theorem dX9_image_29 : decode cX9_image 29 = .ok (.getfield 11, 3) := by decide +kernel
theorem dX9_image_32 : decode cX9_image 32 = .ok (.iload_n 1, 1) := by decide +kernel
theorem dX9_image_33 : decode cX9_image 33 = .ok (.iaload, 1) := by decide +kernel
theorem dX9_image_34 : decode cX9_image 34 = .ok (.iastore, 1) := by decide +kernel
theorem dX9_image_35 : decode cX9_image 35 = .ok (.aload_n 0, 1) := by decide +kernel
theorem dX9_image_36 : decode cX9_image 36 = .ok (.getfield 80, 3) := by decide +kernel
theorem dX9_image_39 : decode cX9_image 39 = .ok (.iload_n 1, 1) := by decide +kernel
theorem dX9_image_40 : decode cX9_image 40 = .ok (.aload_n 0, 1) := by decide +kernel
theorem dX9_image_41 : decode cX9_image 41 = .ok (.getfield 15, 3) := by decide +kernel
theorem dX9_image_44 : decode cX9_image 44 = .ok (.iload_n 1, 1) := by decide +kernel
theorem dX9_image_45 : decode cX9_image 45 = .ok (.iaload, 1) := by decide +kernel
theorem dX9_image_46 : decode cX9_image 46 = .ok (.iastore, 1) := by decide +kernel
theorem dX9_image_47 : decode cX9_image 47 = .ok (.aload_n 0, 1) := by decide +kernel
theorem dX9_image_48 : decode cX9_image 48 = .ok (.getfield 83, 3) := by decide +kernel
theorem dX9_image_51 : decode cX9_image 51 = .ok (.iload_n 1, 1) := by decide +kernel
theorem dX9_image_52 : decode cX9_image 52 = .ok (.aload_n 0, 1) := by decide +kernel
theorem dX9_image_53 : decode cX9_image 53 = .ok (.getfield 18, 3) := by decide +kernel
theorem dX9_image_56 : decode cX9_image 56 = .ok (.iload_n 1, 1) := by decide +kernel
theorem dX9_image_57 : decode cX9_image 57 = .ok (.iaload, 1) := by decide +kernel
theorem dX9_image_58 : decode cX9_image 58 = .ok (.iastore, 1) := by decide +kernel
theorem dX9_image_59 : decode cX9_image 59 = .ok (.iinc 1 1, 3) := by decide +kernel
theorem dX9_image_62 : decode cX9_image 62 = .ok (.goto (-47), 3) := by decide +kernel
theorem dX9_image_65 : decode cX9_image 65 = .ok (.aload_n 0, 1) := by decide +kernel
theorem dX9_image_66 : decode cX9_image 66 = .ok (.aload_n 0, 1) := by decide +kernel
theorem dX9_image_67 : decode cX9_image 67 = .ok (.getfield 194, 3) := by decide +kernel
theorem dX9_image_70 : decode cX9_image 70 = .ok (.putfield 311, 3) := by decide +kernel
theorem dX9_image_73 : decode cX9_image 73 = .ok (.aload_n 0, 1) := by decide +kernel
theorem dX9_image_74 : decode cX9_image 74 = .ok (.aload_n 0, 1) := by decide +kernel
theorem dX9_image_75 : decode cX9_image 75 = .ok (.getfield 36, 3) := by decide +kernel
theorem dX9_image_78 : decode cX9_image 78 = .ok (.putfield 314, 3) := by decide +kernel
theorem dX9_image_81 : decode cX9_image 81 = .ok (.iconst 0, 1) := by decide +kernel
theorem dX9_image_82 : decode cX9_image 82 = .ok (.istore_n 1, 1) := by decide +kernel
theorem dX9_image_83 : decode cX9_image 83 = .ok (.iload_n 1, 1) := by decide +kernel
theorem dX9_image_84 : decode cX9_image 84 = .ok (.aload_n 0, 1) := by decide +kernel
theorem dX9_image_85 : decode cX9_image 85 = .ok (.getfield 194, 3) := by decide +kernel
theorem dX9_image_88 : decode cX9_image 88 = .ok (.if_icmp .ge 21, 3) := by decide +kernel
theorem dX9_image_91 : decode cX9_image 91 = .ok (.aload_n 0, 1) := by decide +kernel
theorem dX9_image_92 : decode cX9_image 92 = .ok (.getfield 86, 3) := by decide +kernel
theorem dX9_image_95 : decode cX9_image 95 = .ok (.iload_n 1, 1) := by decide +kernel
theorem dX9_image_96 : decode cX9_image 96 = .ok (.aload_n 0, 1) := by decide +kernel
theorem dX9_image_97 : decode cX9_image 97 = .ok (.getfield 40, 3) := by decide +kernel
theorem dX9_image_100 : decode cX9_image 100 = .ok (.iload_n 1, 1) := by decide +kernel
theorem dX9_image_101 : decode cX9_image 101 = .ok (.iaload, 1) := by decide +kernel
theorem dX9_image_102 : decode cX9_image 102 = .ok (.iastore, 1) := by decide +kernel
theorem dX9_image_103 : decode cX9_image 103 = .ok (.iinc 1 1, 3) := by decide +kernel
theorem dX9_image_106 : decode cX9_image 106 = .ok (.goto (-23), 3) := by decide +kernel
theorem dX9_image_109 : decode cX9_image 109 = .ok (.aload_n 0, 1) := by decide +kernel
theorem dX9_image_110 : decode cX9_image 110 = .ok (.getfield 89, 3) := by decide +kernel
theorem dX9_image_113 : decode cX9_image 113 = .ok (.ireturn, 1) := by decide +kernel
theorem dX9_undo_0 : decode cX9_undo 0 = .ok (.aload_n 0, 1) := by decide +kernel
theorem dX9_undo_1 : decode cX9_undo 1 = .ok (.getfield 305, 3) := by decide +kernel
theorem dX9_undo_4 : decode cX9_undo 4 = .ok (.ifCond .ne 6, 3) := by decide +kernel
theorem dX9_undo_7 : decode cX9_undo 7 = .ok (.bipush (-5), 2) := by decide +kernel
theorem dX9_undo_9 : decode cX9_undo 9 = .ok (.ireturn, 1) := by decide +kernel
theorem dX9_undo_10 : decode cX9_undo 10 = .ok (.aload_n 0, 1) := by decide +kernel
theorem dX9_undo_11 : decode cX9_undo 11 = .ok (.aload_n 0, 1) := by decide +kernel
theorem dX9_undo_12 : decode cX9_undo 12 = .ok (.getfield 308, 3) := by decide +kernel
theorem dX9_undo_15 : decode cX9_undo 15 = .ok (.putfield 89, 3) := by decide +kernel
theorem dX9_undo_18 : decode cX9_undo 18 = .ok (.iconst 0, 1) := by decide +kernel
theorem dX9_undo_19 : decode cX9_undo 19 = .ok (.istore_n 1, 1) := by decide +kernel
theorem dX9_undo_20 : decode cX9_undo 20 = .ok (.iload_n 1, 1) := by decide +kernel
theorem dX9_undo_21 : decode cX9_undo 21 = .ok (.aload_n 0, 1) := by decide +kernel
theorem dX9_undo_22 : decode cX9_undo 22 = .ok (.getfield 89, 3) := by decide +kernel
theorem dX9_undo_25 : decode cX9_undo 25 = .ok (.if_icmp .ge 45, 3) := by decide +kernel
theorem dX9_undo_28 : decode cX9_undo 28 = .ok (.aload_n 0, 1) := by decide +kernel
theorem dX9_undo_29 : decode cX9_undo 29 = .ok (.getfield 11, 3) := by decide +kernel
theorem dX9_undo_32 : decode cX9_undo 32 = .ok (.iload_n 1, 1) := by decide +kernel
theorem dX9_undo_33 : decode cX9_undo 33 = .ok (.aload_n 0, 1) := by decide +kernel
theorem dX9_undo_34 : decode cX9_undo 34 = .ok (.getfield 77, 3) := by decide +kernel
theorem dX9_undo_37 : decode cX9_undo 37 = .ok (.iload_n 1, 1) := by decide +kernel
theorem dX9_undo_38 : decode cX9_undo 38 = .ok (.iaload, 1) := by decide +kernel
theorem dX9_undo_39 : decode cX9_undo 39 = .ok (.iastore, 1) := by decide +kernel
theorem dX9_undo_40 : decode cX9_undo 40 = .ok (.aload_n 0, 1) := by decide +kernel
theorem dX9_undo_41 : decode cX9_undo 41 = .ok (.getfield 15, 3) := by decide +kernel
theorem dX9_undo_44 : decode cX9_undo 44 = .ok (.iload_n 1, 1) := by decide +kernel
theorem dX9_undo_45 : decode cX9_undo 45 = .ok (.aload_n 0, 1) := by decide +kernel
theorem dX9_undo_46 : decode cX9_undo 46 = .ok (.getfield 80, 3) := by decide +kernel
theorem dX9_undo_49 : decode cX9_undo 49 = .ok (.iload_n 1, 1) := by decide +kernel
theorem dX9_undo_50 : decode cX9_undo 50 = .ok (.iaload, 1) := by decide +kernel
theorem dX9_undo_51 : decode cX9_undo 51 = .ok (.iastore, 1) := by decide +kernel
theorem dX9_undo_52 : decode cX9_undo 52 = .ok (.aload_n 0, 1) := by decide +kernel
theorem dX9_undo_53 : decode cX9_undo 53 = .ok (.getfield 18, 3) := by decide +kernel
theorem dX9_undo_56 : decode cX9_undo 56 = .ok (.iload_n 1, 1) := by decide +kernel
theorem dX9_undo_57 : decode cX9_undo 57 = .ok (.aload_n 0, 1) := by decide +kernel
theorem dX9_undo_58 : decode cX9_undo 58 = .ok (.getfield 83, 3) := by decide +kernel
theorem dX9_undo_61 : decode cX9_undo 61 = .ok (.iload_n 1, 1) := by decide +kernel
theorem dX9_undo_62 : decode cX9_undo 62 = .ok (.iaload, 1) := by decide +kernel
theorem dX9_undo_63 : decode cX9_undo 63 = .ok (.iastore, 1) := by decide +kernel
theorem dX9_undo_64 : decode cX9_undo 64 = .ok (.iinc 1 1, 3) := by decide +kernel
theorem dX9_undo_67 : decode cX9_undo 67 = .ok (.goto (-47), 3) := by decide +kernel
theorem dX9_undo_70 : decode cX9_undo 70 = .ok (.aload_n 0, 1) := by decide +kernel
theorem dX9_undo_71 : decode cX9_undo 71 = .ok (.aload_n 0, 1) := by decide +kernel
theorem dX9_undo_72 : decode cX9_undo 72 = .ok (.getfield 311, 3) := by decide +kernel
theorem dX9_undo_75 : decode cX9_undo 75 = .ok (.putfield 194, 3) := by decide +kernel
theorem dX9_undo_78 : decode cX9_undo 78 = .ok (.aload_n 0, 1) := by decide +kernel
theorem dX9_undo_79 : decode cX9_undo 79 = .ok (.aload_n 0, 1) := by decide +kernel
theorem dX9_undo_80 : decode cX9_undo 80 = .ok (.getfield 314, 3) := by decide +kernel
theorem dX9_undo_83 : decode cX9_undo 83 = .ok (.putfield 36, 3) := by decide +kernel
theorem dX9_undo_86 : decode cX9_undo 86 = .ok (.iconst 0, 1) := by decide +kernel
theorem dX9_undo_87 : decode cX9_undo 87 = .ok (.istore_n 1, 1) := by decide +kernel
theorem dX9_undo_88 : decode cX9_undo 88 = .ok (.iload_n 1, 1) := by decide +kernel
theorem dX9_undo_89 : decode cX9_undo 89 = .ok (.aload_n 0, 1) := by decide +kernel
theorem dX9_undo_90 : decode cX9_undo 90 = .ok (.getfield 194, 3) := by decide +kernel
theorem dX9_undo_93 : decode cX9_undo 93 = .ok (.if_icmp .ge 21, 3) := by decide +kernel
theorem dX9_undo_96 : decode cX9_undo 96 = .ok (.aload_n 0, 1) := by decide +kernel
theorem dX9_undo_97 : decode cX9_undo 97 = .ok (.getfield 40, 3) := by decide +kernel
theorem dX9_undo_100 : decode cX9_undo 100 = .ok (.iload_n 1, 1) := by decide +kernel
theorem dX9_undo_101 : decode cX9_undo 101 = .ok (.aload_n 0, 1) := by decide +kernel
theorem dX9_undo_102 : decode cX9_undo 102 = .ok (.getfield 86, 3) := by decide +kernel
theorem dX9_undo_105 : decode cX9_undo 105 = .ok (.iload_n 1, 1) := by decide +kernel
theorem dX9_undo_106 : decode cX9_undo 106 = .ok (.iaload, 1) := by decide +kernel
theorem dX9_undo_107 : decode cX9_undo 107 = .ok (.iastore, 1) := by decide +kernel
theorem dX9_undo_108 : decode cX9_undo 108 = .ok (.iinc 1 1, 3) := by decide +kernel
theorem dX9_undo_111 : decode cX9_undo 111 = .ok (.goto (-23), 3) := by decide +kernel
theorem dX9_undo_114 : decode cX9_undo 114 = .ok (.aload_n 0, 1) := by decide +kernel
theorem dX9_undo_115 : decode cX9_undo 115 = .ok (.getfield 89, 3) := by decide +kernel
theorem dX9_undo_118 : decode cX9_undo 118 = .ok (.ireturn, 1) := by decide +kernel
theorem dX9_count_0 : decode cX9_count 0 = .ok (.iload_n 1, 1) := by decide +kernel
theorem dX9_count_1 : decode cX9_count 1 = .ok (.tableswitch 51 0 3 #[31, 36, 41, 46], 31) := by decide +kernel
theorem dX9_count_32 : decode cX9_count 32 = .ok (.aload_n 0, 1) := by decide +kernel
theorem dX9_count_33 : decode cX9_count 33 = .ok (.getfield 89, 3) := by decide +kernel
theorem dX9_count_36 : decode cX9_count 36 = .ok (.ireturn, 1) := by decide +kernel
theorem dX9_count_37 : decode cX9_count 37 = .ok (.aload_n 0, 1) := by decide +kernel
theorem dX9_count_38 : decode cX9_count 38 = .ok (.getfield 194, 3) := by decide +kernel
theorem dX9_count_41 : decode cX9_count 41 = .ok (.ireturn, 1) := by decide +kernel
theorem dX9_count_42 : decode cX9_count 42 = .ok (.aload_n 0, 1) := by decide +kernel
theorem dX9_count_43 : decode cX9_count 43 = .ok (.getfield 36, 3) := by decide +kernel
theorem dX9_count_46 : decode cX9_count 46 = .ok (.ireturn, 1) := by decide +kernel
theorem dX9_count_47 : decode cX9_count 47 = .ok (.aload_n 0, 1) := by decide +kernel
theorem dX9_count_48 : decode cX9_count 48 = .ok (.getfield 215, 3) := by decide +kernel
theorem dX9_count_51 : decode cX9_count 51 = .ok (.ireturn, 1) := by decide +kernel
theorem dX9_count_52 : decode cX9_count 52 = .ok (.iconst (-1), 1) := by decide +kernel
theorem dX9_count_53 : decode cX9_count 53 = .ok (.ireturn, 1) := by decide +kernel
theorem dJ9_max_7cf53_0 : decode cJ9_max_7cf53 0 = .ok (.iload_n 0, 1) := by decide +kernel
theorem dJ9_max_7cf53_1 : decode cJ9_max_7cf53 1 = .ok (.iload_n 1, 1) := by decide +kernel
theorem dJ9_max_7cf53_2 : decode cJ9_max_7cf53 2 = .ok (.if_icmp .lt 7, 3) := by decide +kernel
theorem dJ9_max_7cf53_5 : decode cJ9_max_7cf53 5 = .ok (.iload_n 0, 1) := by decide +kernel
theorem dJ9_max_7cf53_6 : decode cJ9_max_7cf53 6 = .ok (.goto 4, 3) := by decide +kernel
theorem dJ9_max_7cf53_9 : decode cJ9_max_7cf53 9 = .ok (.iload_n 1, 1) := by decide +kernel
theorem dJ9_max_7cf53_10 : decode cJ9_max_7cf53 10 = .ok (.ireturn, 1) := by decide +kernel
theorem dJ9_min_7cf53_0 : decode cJ9_min_7cf53 0 = .ok (.iload_n 0, 1) := by decide +kernel
theorem dJ9_min_7cf53_1 : decode cJ9_min_7cf53 1 = .ok (.iload_n 1, 1) := by decide +kernel
theorem dJ9_min_7cf53_2 : decode cJ9_min_7cf53 2 = .ok (.if_icmp .gt 7, 3) := by decide +kernel
theorem dJ9_min_7cf53_5 : decode cJ9_min_7cf53 5 = .ok (.iload_n 0, 1) := by decide +kernel
theorem dJ9_min_7cf53_6 : decode cJ9_min_7cf53 6 = .ok (.goto 4, 3) := by decide +kernel
theorem dJ9_min_7cf53_9 : decode cJ9_min_7cf53 9 = .ok (.iload_n 1, 1) := by decide +kernel
theorem dJ9_min_7cf53_10 : decode cJ9_min_7cf53 10 = .ok (.ireturn, 1) := by decide +kernel
theorem dJ9_min_f86c9_0 : decode cJ9_min_f86c9 0 = .ok (.lload_n 0, 1) := by decide +kernel
theorem dJ9_min_f86c9_1 : decode cJ9_min_f86c9 1 = .ok (.lload_n 2, 1) := by decide +kernel
theorem dJ9_min_f86c9_2 : decode cJ9_min_f86c9 2 = .ok (.lcmp, 1) := by decide +kernel
theorem dJ9_min_f86c9_3 : decode cJ9_min_f86c9 3 = .ok (.ifCond .gt 7, 3) := by decide +kernel
theorem dJ9_min_f86c9_6 : decode cJ9_min_f86c9 6 = .ok (.lload_n 0, 1) := by decide +kernel
theorem dJ9_min_f86c9_7 : decode cJ9_min_f86c9 7 = .ok (.goto 4, 3) := by decide +kernel
theorem dJ9_min_f86c9_10 : decode cJ9_min_f86c9 10 = .ok (.lload_n 2, 1) := by decide +kernel
theorem dJ9_min_f86c9_11 : decode cJ9_min_f86c9 11 = .ok (.lreturn, 1) := by decide +kernel
theorem dJ0_length_8abf5_0 : decode cJ0_length_8abf5 0 = .ok (.aload_n 0, 1) := by decide +kernel
theorem dJ0_length_8abf5_1 : decode cJ0_length_8abf5 1 = .ok (.getfield 9, 3) := by decide +kernel
theorem dJ0_length_8abf5_4 : decode cJ0_length_8abf5 4 = .ok (.arraylength, 1) := by decide +kernel
theorem dJ0_length_8abf5_5 : decode cJ0_length_8abf5 5 = .ok (.aload_n 0, 1) := by decide +kernel
theorem dJ0_length_8abf5_6 : decode cJ0_length_8abf5 6 = .ok (.invokevirtual 335, 3) := by decide +kernel
theorem dJ0_length_8abf5_9 : decode cJ0_length_8abf5 9 = .ok (.ishr, 1) := by decide +kernel
theorem dJ0_length_8abf5_10 : decode cJ0_length_8abf5 10 = .ok (.ireturn, 1) := by decide +kernel
theorem dJ0_charAt_5068e_0 : decode cJ0_charAt_5068e 0 = .ok (.aload_n 0, 1) := by decide +kernel
theorem dJ0_charAt_5068e_1 : decode cJ0_charAt_5068e 1 = .ok (.invokevirtual 492, 3) := by decide +kernel
theorem dJ0_charAt_5068e_4 : decode cJ0_charAt_5068e 4 = .ok (.ifCond .eq 12, 3) := by decide +kernel
theorem dJ0_charAt_5068e_7 : decode cJ0_charAt_5068e 7 = .ok (.aload_n 0, 1) := by decide +kernel
theorem dJ0_charAt_5068e_8 : decode cJ0_charAt_5068e 8 = .ok (.getfield 9, 3) := by decide +kernel
theorem dJ0_charAt_5068e_11 : decode cJ0_charAt_5068e 11 = .ok (.iload_n 1, 1) := by decide +kernel
theorem dJ0_charAt_5068e_12 : decode cJ0_charAt_5068e 12 = .ok (.invokestatic 495, 3) := by decide +kernel
theorem dJ0_charAt_5068e_15 : decode cJ0_charAt_5068e 15 = .ok (.ireturn, 1) := by decide +kernel
theorem dJ0_charAt_5068e_16 : decode cJ0_charAt_5068e 16 = .ok (.aload_n 0, 1) := by decide +kernel
theorem dJ0_charAt_5068e_17 : decode cJ0_charAt_5068e 17 = .ok (.getfield 9, 3) := by decide +kernel
theorem dJ0_charAt_5068e_20 : decode cJ0_charAt_5068e 20 = .ok (.iload_n 1, 1) := by decide +kernel
theorem dJ0_charAt_5068e_21 : decode cJ0_charAt_5068e 21 = .ok (.invokestatic 498, 3) := by decide +kernel
theorem dJ0_charAt_5068e_24 : decode cJ0_charAt_5068e 24 = .ok (.ireturn, 1) := by decide +kernel
theorem dJ0_coder_7d493_0 : decode cJ0_coder_7d493 0 = .ok (.getstatic 38, 3) := by decide +kernel
theorem dJ0_coder_7d493_3 : decode cJ0_coder_7d493 3 = .ok (.ifCond .eq 10, 3) := by decide +kernel
theorem dJ0_coder_7d493_6 : decode cJ0_coder_7d493 6 = .ok (.aload_n 0, 1) := by decide +kernel
theorem dJ0_coder_7d493_7 : decode cJ0_coder_7d493 7 = .ok (.getfield 15, 3) := by decide +kernel
theorem dJ0_coder_7d493_10 : decode cJ0_coder_7d493 10 = .ok (.goto 4, 3) := by decide +kernel
theorem dJ0_coder_7d493_13 : decode cJ0_coder_7d493 13 = .ok (.iconst 1, 1) := by decide +kernel
theorem dJ0_coder_7d493_14 : decode cJ0_coder_7d493 14 = .ok (.ireturn, 1) := by decide +kernel
theorem dJ0_isLatin1_aae02_0 : decode cJ0_isLatin1_aae02 0 = .ok (.getstatic 38, 3) := by decide +kernel
theorem dJ0_isLatin1_aae02_3 : decode cJ0_isLatin1_aae02 3 = .ok (.ifCond .eq 14, 3) := by decide +kernel
theorem dJ0_isLatin1_aae02_6 : decode cJ0_isLatin1_aae02 6 = .ok (.aload_n 0, 1) := by decide +kernel
theorem dJ0_isLatin1_aae02_7 : decode cJ0_isLatin1_aae02 7 = .ok (.getfield 15, 3) := by decide +kernel
theorem dJ0_isLatin1_aae02_10 : decode cJ0_isLatin1_aae02 10 = .ok (.ifCond .ne 7, 3) := by decide +kernel
theorem dJ0_isLatin1_aae02_13 : decode cJ0_isLatin1_aae02 13 = .ok (.iconst 1, 1) := by decide +kernel
theorem dJ0_isLatin1_aae02_14 : decode cJ0_isLatin1_aae02 14 = .ok (.goto 4, 3) := by decide +kernel
theorem dJ0_isLatin1_aae02_17 : decode cJ0_isLatin1_aae02 17 = .ok (.iconst 0, 1) := by decide +kernel
theorem dJ0_isLatin1_aae02_18 : decode cJ0_isLatin1_aae02 18 = .ok (.ireturn, 1) := by decide +kernel
theorem dJ0_checkIndex_df160_0 : decode cJ0_checkIndex_df160 0 = .ok (.iload_n 0, 1) := by decide +kernel
theorem dJ0_checkIndex_df160_1 : decode cJ0_checkIndex_df160 1 = .ok (.iload_n 1, 1) := by decide +kernel
theorem dJ0_checkIndex_df160_2 : decode cJ0_checkIndex_df160 2 = .ok (.getstatic 1053, 3) := by decide +kernel
theorem dJ0_checkIndex_df160_5 : decode cJ0_checkIndex_df160 5 = .ok (.invokestatic 1059, 3) := by decide +kernel
theorem dJ0_checkIndex_df160_8 : decode cJ0_checkIndex_df160 8 = .ok (.pop, 1) := by decide +kernel
theorem dJ0_checkIndex_df160_9 : decode cJ0_checkIndex_df160 9 = .ok (.return_, 1) := by decide +kernel
theorem dJ1_charAt_3b067_0 : decode cJ1_charAt_3b067 0 = .ok (.iload_n 1, 1) := by decide +kernel
theorem dJ1_charAt_3b067_1 : decode cJ1_charAt_3b067 1 = .ok (.aload_n 0, 1) := by decide +kernel
theorem dJ1_charAt_3b067_2 : decode cJ1_charAt_3b067 2 = .ok (.arraylength, 1) := by decide +kernel
theorem dJ1_charAt_3b067_3 : decode cJ1_charAt_3b067 3 = .ok (.invokestatic 9, 3) := by decide +kernel
theorem dJ1_charAt_3b067_6 : decode cJ1_charAt_3b067 6 = .ok (.aload_n 0, 1) := by decide +kernel
theorem dJ1_charAt_3b067_7 : decode cJ1_charAt_3b067 7 = .ok (.iload_n 1, 1) := by decide +kernel
theorem dJ1_charAt_3b067_8 : decode cJ1_charAt_3b067 8 = .ok (.baload, 1) := by decide +kernel
theorem dJ1_charAt_3b067_9 : decode cJ1_charAt_3b067 9 = .ok (.sipush 255, 3) := by decide +kernel
theorem dJ1_charAt_3b067_12 : decode cJ1_charAt_3b067 12 = .ok (.iand, 1) := by decide +kernel
theorem dJ1_charAt_3b067_13 : decode cJ1_charAt_3b067 13 = .ok (.i2c, 1) := by decide +kernel
theorem dJ1_charAt_3b067_14 : decode cJ1_charAt_3b067 14 = .ok (.ireturn, 1) := by decide +kernel
theorem dJ2_getChar_3b067_0 : decode cJ2_getChar_3b067 0 = .ok (.getstatic 44, 3) := by decide +kernel
theorem dJ2_getChar_3b067_3 : decode cJ2_getChar_3b067 3 = .ok (.ifCond .ne 25, 3) := by decide +kernel
theorem dJ2_getChar_3b067_6 : decode cJ2_getChar_3b067 6 = .ok (.iload_n 1, 1) := by decide +kernel
theorem dJ2_getChar_3b067_7 : decode cJ2_getChar_3b067 7 = .ok (.ifCond .lt 11, 3) := by decide +kernel
theorem dJ2_getChar_3b067_10 : decode cJ2_getChar_3b067 10 = .ok (.iload_n 1, 1) := by decide +kernel
theorem dJ2_getChar_3b067_11 : decode cJ2_getChar_3b067 11 = .ok (.aload_n 0, 1) := by decide +kernel
theorem dJ2_getChar_3b067_12 : decode cJ2_getChar_3b067 12 = .ok (.invokestatic 48, 3) := by decide +kernel
theorem dJ2_getChar_3b067_15 : decode cJ2_getChar_3b067 15 = .ok (.if_icmp .lt 13, 3) := by decide +kernel
theorem dJ2_getChar_3b067_18 : decode cJ2_getChar_3b067 18 = .ok (.new 52, 3) := by decide +kernel
theorem dJ2_getChar_3b067_21 : decode cJ2_getChar_3b067 21 = .ok (.dup, 1) := by decide +kernel
theorem dJ2_getChar_3b067_22 : decode cJ2_getChar_3b067 22 = .ok (.ldc 54, 2) := by decide +kernel
theorem dJ2_getChar_3b067_24 : decode cJ2_getChar_3b067 24 = .ok (.invokespecial 56, 3) := by decide +kernel
theorem dJ2_getChar_3b067_27 : decode cJ2_getChar_3b067 27 = .ok (.athrow, 1) := by decide +kernel
theorem dJ2_getChar_3b067_28 : decode cJ2_getChar_3b067 28 = .ok (.iload_n 1, 1) := by decide +kernel
theorem dJ2_getChar_3b067_29 : decode cJ2_getChar_3b067 29 = .ok (.iconst 1, 1) := by decide +kernel
theorem dJ2_getChar_3b067_30 : decode cJ2_getChar_3b067 30 = .ok (.ishl, 1) := by decide +kernel
theorem dJ2_getChar_3b067_31 : decode cJ2_getChar_3b067 31 = .ok (.istore_n 1, 1) := by decide +kernel
theorem dJ2_getChar_3b067_32 : decode cJ2_getChar_3b067 32 = .ok (.aload_n 0, 1) := by decide +kernel
theorem dJ2_getChar_3b067_33 : decode cJ2_getChar_3b067 33 = .ok (.iload_n 1, 1) := by decide +kernel
theorem dJ2_getChar_3b067_34 : decode cJ2_getChar_3b067 34 = .ok (.iinc 1 1, 3) := by decide +kernel
theorem dJ2_getChar_3b067_37 : decode cJ2_getChar_3b067 37 = .ok (.baload, 1) := by decide +kernel
theorem dJ2_getChar_3b067_38 : decode cJ2_getChar_3b067 38 = .ok (.sipush 255, 3) := by decide +kernel
theorem dJ2_getChar_3b067_41 : decode cJ2_getChar_3b067 41 = .ok (.iand, 1) := by decide +kernel
theorem dJ2_getChar_3b067_42 : decode cJ2_getChar_3b067 42 = .ok (.getstatic 59, 3) := by decide +kernel
theorem dJ2_getChar_3b067_45 : decode cJ2_getChar_3b067 45 = .ok (.ishl, 1) := by decide +kernel
theorem dJ2_getChar_3b067_46 : decode cJ2_getChar_3b067 46 = .ok (.aload_n 0, 1) := by decide +kernel
theorem dJ2_getChar_3b067_47 : decode cJ2_getChar_3b067 47 = .ok (.iload_n 1, 1) := by decide +kernel
theorem dJ2_getChar_3b067_48 : decode cJ2_getChar_3b067 48 = .ok (.baload, 1) := by decide +kernel
theorem dJ2_getChar_3b067_49 : decode cJ2_getChar_3b067 49 = .ok (.sipush 255, 3) := by decide +kernel
theorem dJ2_getChar_3b067_52 : decode cJ2_getChar_3b067 52 = .ok (.iand, 1) := by decide +kernel
theorem dJ2_getChar_3b067_53 : decode cJ2_getChar_3b067 53 = .ok (.getstatic 63, 3) := by decide +kernel
theorem dJ2_getChar_3b067_56 : decode cJ2_getChar_3b067 56 = .ok (.ishl, 1) := by decide +kernel
theorem dJ2_getChar_3b067_57 : decode cJ2_getChar_3b067 57 = .ok (.ior, 1) := by decide +kernel
theorem dJ2_getChar_3b067_58 : decode cJ2_getChar_3b067 58 = .ok (.i2c, 1) := by decide +kernel
theorem dJ2_getChar_3b067_59 : decode cJ2_getChar_3b067 59 = .ok (.ireturn, 1) := by decide +kernel
theorem dJ2_length_9d52b_0 : decode cJ2_length_9d52b 0 = .ok (.aload_n 0, 1) := by decide +kernel
theorem dJ2_length_9d52b_1 : decode cJ2_length_9d52b 1 = .ok (.arraylength, 1) := by decide +kernel
theorem dJ2_length_9d52b_2 : decode cJ2_length_9d52b 2 = .ok (.iconst 1, 1) := by decide +kernel
theorem dJ2_length_9d52b_3 : decode cJ2_length_9d52b 3 = .ok (.ishr, 1) := by decide +kernel
theorem dJ2_length_9d52b_4 : decode cJ2_length_9d52b 4 = .ok (.ireturn, 1) := by decide +kernel
theorem dJ2_charAt_3b067_0 : decode cJ2_charAt_3b067 0 = .ok (.iload_n 1, 1) := by decide +kernel
theorem dJ2_charAt_3b067_1 : decode cJ2_charAt_3b067 1 = .ok (.aload_n 0, 1) := by decide +kernel
theorem dJ2_charAt_3b067_2 : decode cJ2_charAt_3b067 2 = .ok (.invokestatic 67, 3) := by decide +kernel
theorem dJ2_charAt_3b067_5 : decode cJ2_charAt_3b067 5 = .ok (.aload_n 0, 1) := by decide +kernel
theorem dJ2_charAt_3b067_6 : decode cJ2_charAt_3b067 6 = .ok (.iload_n 1, 1) := by decide +kernel
theorem dJ2_charAt_3b067_7 : decode cJ2_charAt_3b067 7 = .ok (.invokestatic 71, 3) := by decide +kernel
theorem dJ2_charAt_3b067_10 : decode cJ2_charAt_3b067 10 = .ok (.ireturn, 1) := by decide +kernel
theorem dJ2_checkIndex_2214a_0 : decode cJ2_checkIndex_2214a 0 = .ok (.iload_n 0, 1) := by decide +kernel
theorem dJ2_checkIndex_2214a_1 : decode cJ2_checkIndex_2214a 1 = .ok (.aload_n 1, 1) := by decide +kernel
theorem dJ2_checkIndex_2214a_2 : decode cJ2_checkIndex_2214a 2 = .ok (.invokestatic 48, 3) := by decide +kernel
theorem dJ2_checkIndex_2214a_5 : decode cJ2_checkIndex_2214a 5 = .ok (.invokestatic 414, 3) := by decide +kernel
theorem dJ2_checkIndex_2214a_8 : decode cJ2_checkIndex_2214a 8 = .ok (.return_, 1) := by decide +kernel
theorem dJ3_checkIndex_8e157_0 : decode cJ3_checkIndex_8e157 0 = .ok (.iload_n 0, 1) := by decide +kernel
theorem dJ3_checkIndex_8e157_1 : decode cJ3_checkIndex_8e157 1 = .ok (.ifCond .lt 8, 3) := by decide +kernel
theorem dJ3_checkIndex_8e157_4 : decode cJ3_checkIndex_8e157 4 = .ok (.iload_n 0, 1) := by decide +kernel
theorem dJ3_checkIndex_8e157_5 : decode cJ3_checkIndex_8e157 5 = .ok (.iload_n 1, 1) := by decide +kernel
theorem dJ3_checkIndex_8e157_6 : decode cJ3_checkIndex_8e157 6 = .ok (.if_icmp .lt 10, 3) := by decide +kernel
theorem dJ3_checkIndex_8e157_9 : decode cJ3_checkIndex_8e157 9 = .ok (.aload_n 2, 1) := by decide +kernel
theorem dJ3_checkIndex_8e157_10 : decode cJ3_checkIndex_8e157 10 = .ok (.iload_n 0, 1) := by decide +kernel
theorem dJ3_checkIndex_8e157_11 : decode cJ3_checkIndex_8e157 11 = .ok (.iload_n 1, 1) := by decide +kernel
theorem dJ3_checkIndex_8e157_12 : decode cJ3_checkIndex_8e157 12 = .ok (.invokestatic 95, 3) := by decide +kernel
theorem dJ3_checkIndex_8e157_15 : decode cJ3_checkIndex_8e157 15 = .ok (.athrow, 1) := by decide +kernel
theorem dJ3_checkIndex_8e157_16 : decode cJ3_checkIndex_8e157 16 = .ok (.iload_n 0, 1) := by decide +kernel
theorem dJ3_checkIndex_8e157_17 : decode cJ3_checkIndex_8e157 17 = .ok (.ireturn, 1) := by decide +kernel
theorem dL_law_0 : decode cL_law 0 = .ok (.new 7, 3) := by decide +kernel
theorem dL_law_3 : decode cL_law 3 = .ok (.dup, 1) := by decide +kernel
theorem dL_law_4 : decode cL_law 4 = .ok (.invokespecial 9, 3) := by decide +kernel
theorem dL_law_7 : decode cL_law 7 = .ok (.astore_n 1, 1) := by decide +kernel
theorem dL_law_8 : decode cL_law 8 = .ok (.new 10, 3) := by decide +kernel
theorem dL_law_11 : decode cL_law 11 = .ok (.dup, 1) := by decide +kernel
theorem dL_law_12 : decode cL_law 12 = .ok (.invokespecial 12, 3) := by decide +kernel
theorem dL_law_15 : decode cL_law 15 = .ok (.astore_n 2, 1) := by decide +kernel
theorem dL_law_16 : decode cL_law 16 = .ok (.iconst 0, 1) := by decide +kernel
theorem dL_law_17 : decode cL_law 17 = .ok (.istore_n 3, 1) := by decide +kernel
theorem dL_law_18 : decode cL_law 18 = .ok (.iload_n 3, 1) := by decide +kernel
theorem dL_law_19 : decode cL_law 19 = .ok (.aload_n 0, 1) := by decide +kernel
theorem dL_law_20 : decode cL_law 20 = .ok (.arraylength, 1) := by decide +kernel
theorem dL_law_21 : decode cL_law 21 = .ok (.iconst 5, 1) := by decide +kernel
theorem dL_law_22 : decode cL_law 22 = .ok (.isub, 1) := by decide +kernel
theorem dL_law_23 : decode cL_law 23 = .ok (.if_icmp .gt 1275, 3) := by decide +kernel
theorem dL_law_26 : decode cL_law 26 = .ok (.aload_n 0, 1) := by decide +kernel
theorem dL_law_27 : decode cL_law 27 = .ok (.iload_n 3, 1) := by decide +kernel
theorem dL_law_28 : decode cL_law 28 = .ok (.iaload, 1) := by decide +kernel
theorem dL_law_29 : decode cL_law 29 = .ok (.bipush 63, 2) := by decide +kernel
theorem dL_law_31 : decode cL_law 31 = .ok (.iand, 1) := by decide +kernel
theorem dL_law_32 : decode cL_law 32 = .ok (.tableswitch 1260 0 35 #[160, 203, 226, 259, 292, 315, 348, 381, 414, 447, 490, 523, 556, 589, 622, 665, 718, 751, 764, 787, 831, 864, 877, 910, 933, 946, 979, 1002, 1035, 1068, 1101, 1144, 1178, 1211, 1224, 1237], 160) := by decide +kernel
theorem dL_law_192 : decode cL_law 192 = .ok (.aload_n 1, 1) := by decide +kernel
theorem dL_law_193 : decode cL_law 193 = .ok (.aload_n 0, 1) := by decide +kernel
theorem dL_law_194 : decode cL_law 194 = .ok (.iload_n 3, 1) := by decide +kernel
theorem dL_law_195 : decode cL_law 195 = .ok (.iconst 1, 1) := by decide +kernel
theorem dL_law_196 : decode cL_law 196 = .ok (.iadd, 1) := by decide +kernel
theorem dL_law_197 : decode cL_law 197 = .ok (.iaload, 1) := by decide +kernel
theorem dL_law_198 : decode cL_law 198 = .ok (.aload_n 0, 1) := by decide +kernel
theorem dL_law_199 : decode cL_law 199 = .ok (.iload_n 3, 1) := by decide +kernel
theorem dL_law_200 : decode cL_law 200 = .ok (.iconst 2, 1) := by decide +kernel
theorem dL_law_201 : decode cL_law 201 = .ok (.iadd, 1) := by decide +kernel
theorem dL_law_202 : decode cL_law 202 = .ok (.iaload, 1) := by decide +kernel
theorem dL_law_203 : decode cL_law 203 = .ok (.aload_n 0, 1) := by decide +kernel
theorem dL_law_204 : decode cL_law 204 = .ok (.iload_n 3, 1) := by decide +kernel
theorem dL_law_205 : decode cL_law 205 = .ok (.iconst 3, 1) := by decide +kernel
theorem dL_law_206 : decode cL_law 206 = .ok (.iadd, 1) := by decide +kernel
theorem dL_law_207 : decode cL_law 207 = .ok (.iaload, 1) := by decide +kernel
theorem dL_law_208 : decode cL_law 208 = .ok (.invokevirtual 13, 3) := by decide +kernel
theorem dL_law_211 : decode cL_law 211 = .ok (.aload_n 2, 1) := by decide +kernel
theorem dL_law_212 : decode cL_law 212 = .ok (.aload_n 0, 1) := by decide +kernel
theorem dL_law_213 : decode cL_law 213 = .ok (.iload_n 3, 1) := by decide +kernel
theorem dL_law_214 : decode cL_law 214 = .ok (.iconst 1, 1) := by decide +kernel
theorem dL_law_215 : decode cL_law 215 = .ok (.iadd, 1) := by decide +kernel
theorem dL_law_216 : decode cL_law 216 = .ok (.iaload, 1) := by decide +kernel
theorem dL_law_217 : decode cL_law 217 = .ok (.aload_n 0, 1) := by decide +kernel
theorem dL_law_218 : decode cL_law 218 = .ok (.iload_n 3, 1) := by decide +kernel
theorem dL_law_219 : decode cL_law 219 = .ok (.iconst 2, 1) := by decide +kernel
theorem dL_law_220 : decode cL_law 220 = .ok (.iadd, 1) := by decide +kernel
theorem dL_law_221 : decode cL_law 221 = .ok (.iaload, 1) := by decide +kernel
theorem dL_law_222 : decode cL_law 222 = .ok (.aload_n 0, 1) := by decide +kernel
theorem dL_law_223 : decode cL_law 223 = .ok (.iload_n 3, 1) := by decide +kernel
theorem dL_law_224 : decode cL_law 224 = .ok (.iconst 3, 1) := by decide +kernel
theorem dL_law_225 : decode cL_law 225 = .ok (.iadd, 1) := by decide +kernel
theorem dL_law_226 : decode cL_law 226 = .ok (.iaload, 1) := by decide +kernel
theorem dL_law_227 : decode cL_law 227 = .ok (.invokevirtual 17, 3) := by decide +kernel
theorem dL_law_230 : decode cL_law 230 = .ok (.if_icmp .eq 1062, 3) := by decide +kernel
theorem dL_law_233 : decode cL_law 233 = .ok (.iconst 0, 1) := by decide +kernel
theorem dL_law_234 : decode cL_law 234 = .ok (.ireturn, 1) := by decide +kernel
theorem dL_law_235 : decode cL_law 235 = .ok (.aload_n 1, 1) := by decide +kernel
theorem dL_law_236 : decode cL_law 236 = .ok (.aload_n 0, 1) := by decide +kernel
theorem dL_law_237 : decode cL_law 237 = .ok (.iload_n 3, 1) := by decide +kernel
theorem dL_law_238 : decode cL_law 238 = .ok (.iconst 1, 1) := by decide +kernel
theorem dL_law_239 : decode cL_law 239 = .ok (.iadd, 1) := by decide +kernel
theorem dL_law_240 : decode cL_law 240 = .ok (.iaload, 1) := by decide +kernel
theorem dL_law_241 : decode cL_law 241 = .ok (.invokevirtual 18, 3) := by decide +kernel
theorem dL_law_244 : decode cL_law 244 = .ok (.aload_n 2, 1) := by decide +kernel
theorem dL_law_245 : decode cL_law 245 = .ok (.aload_n 0, 1) := by decide +kernel
theorem dL_law_246 : decode cL_law 246 = .ok (.iload_n 3, 1) := by decide +kernel
theorem dL_law_247 : decode cL_law 247 = .ok (.iconst 1, 1) := by decide +kernel
theorem dL_law_248 : decode cL_law 248 = .ok (.iadd, 1) := by decide +kernel
theorem dL_law_249 : decode cL_law 249 = .ok (.iaload, 1) := by decide +kernel
theorem dL_law_250 : decode cL_law 250 = .ok (.invokevirtual 22, 3) := by decide +kernel
theorem dL_law_253 : decode cL_law 253 = .ok (.if_icmp .eq 1039, 3) := by decide +kernel
theorem dL_law_256 : decode cL_law 256 = .ok (.iconst 0, 1) := by decide +kernel
theorem dL_law_257 : decode cL_law 257 = .ok (.ireturn, 1) := by decide +kernel
theorem dL_law_258 : decode cL_law 258 = .ok (.aload_n 1, 1) := by decide +kernel
theorem dL_law_259 : decode cL_law 259 = .ok (.aload_n 0, 1) := by decide +kernel
theorem dL_law_260 : decode cL_law 260 = .ok (.iload_n 3, 1) := by decide +kernel
theorem dL_law_261 : decode cL_law 261 = .ok (.iconst 1, 1) := by decide +kernel
theorem dL_law_262 : decode cL_law 262 = .ok (.iadd, 1) := by decide +kernel
theorem dL_law_263 : decode cL_law 263 = .ok (.iaload, 1) := by decide +kernel
theorem dL_law_264 : decode cL_law 264 = .ok (.aload_n 0, 1) := by decide +kernel
theorem dL_law_265 : decode cL_law 265 = .ok (.iload_n 3, 1) := by decide +kernel
theorem dL_law_266 : decode cL_law 266 = .ok (.iconst 2, 1) := by decide +kernel
theorem dL_law_267 : decode cL_law 267 = .ok (.iadd, 1) := by decide +kernel
theorem dL_law_268 : decode cL_law 268 = .ok (.iaload, 1) := by decide +kernel
theorem dL_law_269 : decode cL_law 269 = .ok (.invokevirtual 23, 3) := by decide +kernel
theorem dL_law_272 : decode cL_law 272 = .ok (.aload_n 2, 1) := by decide +kernel
theorem dL_law_273 : decode cL_law 273 = .ok (.aload_n 0, 1) := by decide +kernel
theorem dL_law_274 : decode cL_law 274 = .ok (.iload_n 3, 1) := by decide +kernel
theorem dL_law_275 : decode cL_law 275 = .ok (.iconst 1, 1) := by decide +kernel
theorem dL_law_276 : decode cL_law 276 = .ok (.iadd, 1) := by decide +kernel
theorem dL_law_277 : decode cL_law 277 = .ok (.iaload, 1) := by decide +kernel
theorem dL_law_278 : decode cL_law 278 = .ok (.aload_n 0, 1) := by decide +kernel
theorem dL_law_279 : decode cL_law 279 = .ok (.iload_n 3, 1) := by decide +kernel
theorem dL_law_280 : decode cL_law 280 = .ok (.iconst 2, 1) := by decide +kernel
theorem dL_law_281 : decode cL_law 281 = .ok (.iadd, 1) := by decide +kernel
theorem dL_law_282 : decode cL_law 282 = .ok (.iaload, 1) := by decide +kernel
theorem dL_law_283 : decode cL_law 283 = .ok (.invokevirtual 27, 3) := by decide +kernel
theorem dL_law_286 : decode cL_law 286 = .ok (.if_icmp .eq 1006, 3) := by decide +kernel
theorem dL_law_289 : decode cL_law 289 = .ok (.iconst 0, 1) := by decide +kernel
theorem dL_law_290 : decode cL_law 290 = .ok (.ireturn, 1) := by decide +kernel
theorem dL_law_291 : decode cL_law 291 = .ok (.aload_n 1, 1) := by decide +kernel
theorem dL_law_292 : decode cL_law 292 = .ok (.aload_n 0, 1) := by decide +kernel
theorem dL_law_293 : decode cL_law 293 = .ok (.iload_n 3, 1) := by decide +kernel
theorem dL_law_294 : decode cL_law 294 = .ok (.iconst 1, 1) := by decide +kernel
theorem dL_law_295 : decode cL_law 295 = .ok (.iadd, 1) := by decide +kernel
theorem dL_law_296 : decode cL_law 296 = .ok (.iaload, 1) := by decide +kernel
theorem dL_law_297 : decode cL_law 297 = .ok (.aload_n 0, 1) := by decide +kernel
theorem dL_law_298 : decode cL_law 298 = .ok (.iload_n 3, 1) := by decide +kernel
theorem dL_law_299 : decode cL_law 299 = .ok (.iconst 2, 1) := by decide +kernel
theorem dL_law_300 : decode cL_law 300 = .ok (.iadd, 1) := by decide +kernel
theorem dL_law_301 : decode cL_law 301 = .ok (.iaload, 1) := by decide +kernel
theorem dL_law_302 : decode cL_law 302 = .ok (.invokevirtual 28, 3) := by decide +kernel
theorem dL_law_305 : decode cL_law 305 = .ok (.aload_n 2, 1) := by decide +kernel
theorem dL_law_306 : decode cL_law 306 = .ok (.aload_n 0, 1) := by decide +kernel
theorem dL_law_307 : decode cL_law 307 = .ok (.iload_n 3, 1) := by decide +kernel
theorem dL_law_308 : decode cL_law 308 = .ok (.iconst 1, 1) := by decide +kernel
theorem dL_law_309 : decode cL_law 309 = .ok (.iadd, 1) := by decide +kernel
theorem dL_law_310 : decode cL_law 310 = .ok (.iaload, 1) := by decide +kernel
theorem dL_law_311 : decode cL_law 311 = .ok (.aload_n 0, 1) := by decide +kernel
theorem dL_law_312 : decode cL_law 312 = .ok (.iload_n 3, 1) := by decide +kernel
theorem dL_law_313 : decode cL_law 313 = .ok (.iconst 2, 1) := by decide +kernel
theorem dL_law_314 : decode cL_law 314 = .ok (.iadd, 1) := by decide +kernel
theorem dL_law_315 : decode cL_law 315 = .ok (.iaload, 1) := by decide +kernel
theorem dL_law_316 : decode cL_law 316 = .ok (.invokevirtual 31, 3) := by decide +kernel
theorem dL_law_319 : decode cL_law 319 = .ok (.if_icmp .eq 973, 3) := by decide +kernel
theorem dL_law_322 : decode cL_law 322 = .ok (.iconst 0, 1) := by decide +kernel
theorem dL_law_323 : decode cL_law 323 = .ok (.ireturn, 1) := by decide +kernel
theorem dL_law_324 : decode cL_law 324 = .ok (.aload_n 1, 1) := by decide +kernel
theorem dL_law_325 : decode cL_law 325 = .ok (.aload_n 0, 1) := by decide +kernel
theorem dL_law_326 : decode cL_law 326 = .ok (.iload_n 3, 1) := by decide +kernel
theorem dL_law_327 : decode cL_law 327 = .ok (.iconst 1, 1) := by decide +kernel
theorem dL_law_328 : decode cL_law 328 = .ok (.iadd, 1) := by decide +kernel
theorem dL_law_329 : decode cL_law 329 = .ok (.iaload, 1) := by decide +kernel
theorem dL_law_330 : decode cL_law 330 = .ok (.invokevirtual 32, 3) := by decide +kernel
theorem dL_law_333 : decode cL_law 333 = .ok (.aload_n 2, 1) := by decide +kernel
theorem dL_law_334 : decode cL_law 334 = .ok (.aload_n 0, 1) := by decide +kernel
theorem dL_law_335 : decode cL_law 335 = .ok (.iload_n 3, 1) := by decide +kernel
theorem dL_law_336 : decode cL_law 336 = .ok (.iconst 1, 1) := by decide +kernel
theorem dL_law_337 : decode cL_law 337 = .ok (.iadd, 1) := by decide +kernel
theorem dL_law_338 : decode cL_law 338 = .ok (.iaload, 1) := by decide +kernel
theorem dL_law_339 : decode cL_law 339 = .ok (.invokevirtual 35, 3) := by decide +kernel
theorem dL_law_342 : decode cL_law 342 = .ok (.if_icmp .eq 950, 3) := by decide +kernel
theorem dL_law_345 : decode cL_law 345 = .ok (.iconst 0, 1) := by decide +kernel
theorem dL_law_346 : decode cL_law 346 = .ok (.ireturn, 1) := by decide +kernel
theorem dL_law_347 : decode cL_law 347 = .ok (.aload_n 1, 1) := by decide +kernel
theorem dL_law_348 : decode cL_law 348 = .ok (.aload_n 0, 1) := by decide +kernel
theorem dL_law_349 : decode cL_law 349 = .ok (.iload_n 3, 1) := by decide +kernel
theorem dL_law_350 : decode cL_law 350 = .ok (.iconst 1, 1) := by decide +kernel
theorem dL_law_351 : decode cL_law 351 = .ok (.iadd, 1) := by decide +kernel
theorem dL_law_352 : decode cL_law 352 = .ok (.iaload, 1) := by decide +kernel
theorem dL_law_353 : decode cL_law 353 = .ok (.aload_n 0, 1) := by decide +kernel
theorem dL_law_354 : decode cL_law 354 = .ok (.iload_n 3, 1) := by decide +kernel
theorem dL_law_355 : decode cL_law 355 = .ok (.iconst 2, 1) := by decide +kernel
theorem dL_law_356 : decode cL_law 356 = .ok (.iadd, 1) := by decide +kernel
theorem dL_law_357 : decode cL_law 357 = .ok (.iaload, 1) := by decide +kernel
theorem dL_law_358 : decode cL_law 358 = .ok (.invokevirtual 36, 3) := by decide +kernel
theorem dL_law_361 : decode cL_law 361 = .ok (.aload_n 2, 1) := by decide +kernel
theorem dL_law_362 : decode cL_law 362 = .ok (.aload_n 0, 1) := by decide +kernel
theorem dL_law_363 : decode cL_law 363 = .ok (.iload_n 3, 1) := by decide +kernel
theorem dL_law_364 : decode cL_law 364 = .ok (.iconst 1, 1) := by decide +kernel
theorem dL_law_365 : decode cL_law 365 = .ok (.iadd, 1) := by decide +kernel
theorem dL_law_366 : decode cL_law 366 = .ok (.iaload, 1) := by decide +kernel
theorem dL_law_367 : decode cL_law 367 = .ok (.aload_n 0, 1) := by decide +kernel
theorem dL_law_368 : decode cL_law 368 = .ok (.iload_n 3, 1) := by decide +kernel
theorem dL_law_369 : decode cL_law 369 = .ok (.iconst 2, 1) := by decide +kernel
theorem dL_law_370 : decode cL_law 370 = .ok (.iadd, 1) := by decide +kernel
theorem dL_law_371 : decode cL_law 371 = .ok (.iaload, 1) := by decide +kernel
theorem dL_law_372 : decode cL_law 372 = .ok (.invokevirtual 39, 3) := by decide +kernel
theorem dL_law_375 : decode cL_law 375 = .ok (.if_icmp .eq 917, 3) := by decide +kernel
theorem dL_law_378 : decode cL_law 378 = .ok (.iconst 0, 1) := by decide +kernel
theorem dL_law_379 : decode cL_law 379 = .ok (.ireturn, 1) := by decide +kernel
theorem dL_law_380 : decode cL_law 380 = .ok (.aload_n 1, 1) := by decide +kernel
theorem dL_law_381 : decode cL_law 381 = .ok (.aload_n 0, 1) := by decide +kernel
theorem dL_law_382 : decode cL_law 382 = .ok (.iload_n 3, 1) := by decide +kernel
theorem dL_law_383 : decode cL_law 383 = .ok (.iconst 1, 1) := by decide +kernel
theorem dL_law_384 : decode cL_law 384 = .ok (.iadd, 1) := by decide +kernel
theorem dL_law_385 : decode cL_law 385 = .ok (.iaload, 1) := by decide +kernel
theorem dL_law_386 : decode cL_law 386 = .ok (.aload_n 0, 1) := by decide +kernel
theorem dL_law_387 : decode cL_law 387 = .ok (.iload_n 3, 1) := by decide +kernel
theorem dL_law_388 : decode cL_law 388 = .ok (.iconst 2, 1) := by decide +kernel
theorem dL_law_389 : decode cL_law 389 = .ok (.iadd, 1) := by decide +kernel
theorem dL_law_390 : decode cL_law 390 = .ok (.iaload, 1) := by decide +kernel
theorem dL_law_391 : decode cL_law 391 = .ok (.invokevirtual 40, 3) := by decide +kernel
theorem dL_law_394 : decode cL_law 394 = .ok (.aload_n 2, 1) := by decide +kernel
theorem dL_law_395 : decode cL_law 395 = .ok (.aload_n 0, 1) := by decide +kernel
theorem dL_law_396 : decode cL_law 396 = .ok (.iload_n 3, 1) := by decide +kernel
theorem dL_law_397 : decode cL_law 397 = .ok (.iconst 1, 1) := by decide +kernel
theorem dL_law_398 : decode cL_law 398 = .ok (.iadd, 1) := by decide +kernel
theorem dL_law_399 : decode cL_law 399 = .ok (.iaload, 1) := by decide +kernel
theorem dL_law_400 : decode cL_law 400 = .ok (.aload_n 0, 1) := by decide +kernel
theorem dL_law_401 : decode cL_law 401 = .ok (.iload_n 3, 1) := by decide +kernel
theorem dL_law_402 : decode cL_law 402 = .ok (.iconst 2, 1) := by decide +kernel
theorem dL_law_403 : decode cL_law 403 = .ok (.iadd, 1) := by decide +kernel
theorem dL_law_404 : decode cL_law 404 = .ok (.iaload, 1) := by decide +kernel
theorem dL_law_405 : decode cL_law 405 = .ok (.invokevirtual 43, 3) := by decide +kernel
theorem dL_law_408 : decode cL_law 408 = .ok (.if_icmp .eq 884, 3) := by decide +kernel
theorem dL_law_411 : decode cL_law 411 = .ok (.iconst 0, 1) := by decide +kernel
theorem dL_law_412 : decode cL_law 412 = .ok (.ireturn, 1) := by decide +kernel
theorem dL_law_413 : decode cL_law 413 = .ok (.aload_n 1, 1) := by decide +kernel
theorem dL_law_414 : decode cL_law 414 = .ok (.aload_n 0, 1) := by decide +kernel
theorem dL_law_415 : decode cL_law 415 = .ok (.iload_n 3, 1) := by decide +kernel
theorem dL_law_416 : decode cL_law 416 = .ok (.iconst 1, 1) := by decide +kernel
theorem dL_law_417 : decode cL_law 417 = .ok (.iadd, 1) := by decide +kernel
theorem dL_law_418 : decode cL_law 418 = .ok (.iaload, 1) := by decide +kernel
theorem dL_law_419 : decode cL_law 419 = .ok (.aload_n 0, 1) := by decide +kernel
theorem dL_law_420 : decode cL_law 420 = .ok (.iload_n 3, 1) := by decide +kernel
theorem dL_law_421 : decode cL_law 421 = .ok (.iconst 2, 1) := by decide +kernel
theorem dL_law_422 : decode cL_law 422 = .ok (.iadd, 1) := by decide +kernel
theorem dL_law_423 : decode cL_law 423 = .ok (.iaload, 1) := by decide +kernel
theorem dL_law_424 : decode cL_law 424 = .ok (.invokevirtual 44, 3) := by decide +kernel
theorem dL_law_427 : decode cL_law 427 = .ok (.aload_n 2, 1) := by decide +kernel
theorem dL_law_428 : decode cL_law 428 = .ok (.aload_n 0, 1) := by decide +kernel
theorem dL_law_429 : decode cL_law 429 = .ok (.iload_n 3, 1) := by decide +kernel
theorem dL_law_430 : decode cL_law 430 = .ok (.iconst 1, 1) := by decide +kernel
theorem dL_law_431 : decode cL_law 431 = .ok (.iadd, 1) := by decide +kernel
theorem dL_law_432 : decode cL_law 432 = .ok (.iaload, 1) := by decide +kernel
theorem dL_law_433 : decode cL_law 433 = .ok (.aload_n 0, 1) := by decide +kernel
theorem dL_law_434 : decode cL_law 434 = .ok (.iload_n 3, 1) := by decide +kernel
theorem dL_law_435 : decode cL_law 435 = .ok (.iconst 2, 1) := by decide +kernel
theorem dL_law_436 : decode cL_law 436 = .ok (.iadd, 1) := by decide +kernel
theorem dL_law_437 : decode cL_law 437 = .ok (.iaload, 1) := by decide +kernel
theorem dL_law_438 : decode cL_law 438 = .ok (.invokevirtual 47, 3) := by decide +kernel
theorem dL_law_441 : decode cL_law 441 = .ok (.if_icmp .eq 851, 3) := by decide +kernel
theorem dL_law_444 : decode cL_law 444 = .ok (.iconst 0, 1) := by decide +kernel
theorem dL_law_445 : decode cL_law 445 = .ok (.ireturn, 1) := by decide +kernel
theorem dL_law_446 : decode cL_law 446 = .ok (.aload_n 1, 1) := by decide +kernel
theorem dL_law_447 : decode cL_law 447 = .ok (.aload_n 0, 1) := by decide +kernel
theorem dL_law_448 : decode cL_law 448 = .ok (.iload_n 3, 1) := by decide +kernel
theorem dL_law_449 : decode cL_law 449 = .ok (.iconst 1, 1) := by decide +kernel
theorem dL_law_450 : decode cL_law 450 = .ok (.iadd, 1) := by decide +kernel
theorem dL_law_451 : decode cL_law 451 = .ok (.iaload, 1) := by decide +kernel
theorem dL_law_452 : decode cL_law 452 = .ok (.aload_n 0, 1) := by decide +kernel
theorem dL_law_453 : decode cL_law 453 = .ok (.iload_n 3, 1) := by decide +kernel
theorem dL_law_454 : decode cL_law 454 = .ok (.iconst 2, 1) := by decide +kernel
theorem dL_law_455 : decode cL_law 455 = .ok (.iadd, 1) := by decide +kernel
theorem dL_law_456 : decode cL_law 456 = .ok (.iaload, 1) := by decide +kernel
theorem dL_law_457 : decode cL_law 457 = .ok (.invokevirtual 48, 3) := by decide +kernel
theorem dL_law_460 : decode cL_law 460 = .ok (.aload_n 2, 1) := by decide +kernel
theorem dL_law_461 : decode cL_law 461 = .ok (.aload_n 0, 1) := by decide +kernel
theorem dL_law_462 : decode cL_law 462 = .ok (.iload_n 3, 1) := by decide +kernel
theorem dL_law_463 : decode cL_law 463 = .ok (.iconst 1, 1) := by decide +kernel
theorem dL_law_464 : decode cL_law 464 = .ok (.iadd, 1) := by decide +kernel
theorem dL_law_465 : decode cL_law 465 = .ok (.iaload, 1) := by decide +kernel
theorem dL_law_466 : decode cL_law 466 = .ok (.aload_n 0, 1) := by decide +kernel
theorem dL_law_467 : decode cL_law 467 = .ok (.iload_n 3, 1) := by decide +kernel
theorem dL_law_468 : decode cL_law 468 = .ok (.iconst 2, 1) := by decide +kernel
theorem dL_law_469 : decode cL_law 469 = .ok (.iadd, 1) := by decide +kernel
theorem dL_law_470 : decode cL_law 470 = .ok (.iaload, 1) := by decide +kernel
theorem dL_law_471 : decode cL_law 471 = .ok (.invokevirtual 51, 3) := by decide +kernel
theorem dL_law_474 : decode cL_law 474 = .ok (.if_icmp .eq 818, 3) := by decide +kernel
theorem dL_law_477 : decode cL_law 477 = .ok (.iconst 0, 1) := by decide +kernel
theorem dL_law_478 : decode cL_law 478 = .ok (.ireturn, 1) := by decide +kernel
theorem dL_law_479 : decode cL_law 479 = .ok (.aload_n 1, 1) := by decide +kernel
theorem dL_law_480 : decode cL_law 480 = .ok (.aload_n 0, 1) := by decide +kernel
theorem dL_law_481 : decode cL_law 481 = .ok (.iload_n 3, 1) := by decide +kernel
theorem dL_law_482 : decode cL_law 482 = .ok (.iconst 1, 1) := by decide +kernel
theorem dL_law_483 : decode cL_law 483 = .ok (.iadd, 1) := by decide +kernel
theorem dL_law_484 : decode cL_law 484 = .ok (.iaload, 1) := by decide +kernel
theorem dL_law_485 : decode cL_law 485 = .ok (.aload_n 0, 1) := by decide +kernel
theorem dL_law_486 : decode cL_law 486 = .ok (.iload_n 3, 1) := by decide +kernel
theorem dL_law_487 : decode cL_law 487 = .ok (.iconst 2, 1) := by decide +kernel
theorem dL_law_488 : decode cL_law 488 = .ok (.iadd, 1) := by decide +kernel
theorem dL_law_489 : decode cL_law 489 = .ok (.iaload, 1) := by decide +kernel
theorem dL_law_490 : decode cL_law 490 = .ok (.aload_n 0, 1) := by decide +kernel
theorem dL_law_491 : decode cL_law 491 = .ok (.iload_n 3, 1) := by decide +kernel
theorem dL_law_492 : decode cL_law 492 = .ok (.iconst 3, 1) := by decide +kernel
theorem dL_law_493 : decode cL_law 493 = .ok (.iadd, 1) := by decide +kernel
theorem dL_law_494 : decode cL_law 494 = .ok (.iaload, 1) := by decide +kernel
theorem dL_law_495 : decode cL_law 495 = .ok (.invokevirtual 52, 3) := by decide +kernel
theorem dL_law_498 : decode cL_law 498 = .ok (.aload_n 2, 1) := by decide +kernel
theorem dL_law_499 : decode cL_law 499 = .ok (.aload_n 0, 1) := by decide +kernel
theorem dL_law_500 : decode cL_law 500 = .ok (.iload_n 3, 1) := by decide +kernel
theorem dL_law_501 : decode cL_law 501 = .ok (.iconst 1, 1) := by decide +kernel
theorem dL_law_502 : decode cL_law 502 = .ok (.iadd, 1) := by decide +kernel
theorem dL_law_503 : decode cL_law 503 = .ok (.iaload, 1) := by decide +kernel
theorem dL_law_504 : decode cL_law 504 = .ok (.aload_n 0, 1) := by decide +kernel
theorem dL_law_505 : decode cL_law 505 = .ok (.iload_n 3, 1) := by decide +kernel
theorem dL_law_506 : decode cL_law 506 = .ok (.iconst 2, 1) := by decide +kernel
theorem dL_law_507 : decode cL_law 507 = .ok (.iadd, 1) := by decide +kernel
theorem dL_law_508 : decode cL_law 508 = .ok (.iaload, 1) := by decide +kernel
theorem dL_law_509 : decode cL_law 509 = .ok (.aload_n 0, 1) := by decide +kernel
theorem dL_law_510 : decode cL_law 510 = .ok (.iload_n 3, 1) := by decide +kernel
theorem dL_law_511 : decode cL_law 511 = .ok (.iconst 3, 1) := by decide +kernel
theorem dL_law_512 : decode cL_law 512 = .ok (.iadd, 1) := by decide +kernel
theorem dL_law_513 : decode cL_law 513 = .ok (.iaload, 1) := by decide +kernel
theorem dL_law_514 : decode cL_law 514 = .ok (.invokevirtual 55, 3) := by decide +kernel
theorem dL_law_517 : decode cL_law 517 = .ok (.if_icmp .eq 775, 3) := by decide +kernel
theorem dL_law_520 : decode cL_law 520 = .ok (.iconst 0, 1) := by decide +kernel
theorem dL_law_521 : decode cL_law 521 = .ok (.ireturn, 1) := by decide +kernel
theorem dL_law_522 : decode cL_law 522 = .ok (.aload_n 1, 1) := by decide +kernel
theorem dL_law_523 : decode cL_law 523 = .ok (.aload_n 0, 1) := by decide +kernel
theorem dL_law_524 : decode cL_law 524 = .ok (.iload_n 3, 1) := by decide +kernel
theorem dL_law_525 : decode cL_law 525 = .ok (.iconst 1, 1) := by decide +kernel
theorem dL_law_526 : decode cL_law 526 = .ok (.iadd, 1) := by decide +kernel
theorem dL_law_527 : decode cL_law 527 = .ok (.iaload, 1) := by decide +kernel
theorem dL_law_528 : decode cL_law 528 = .ok (.aload_n 0, 1) := by decide +kernel
theorem dL_law_529 : decode cL_law 529 = .ok (.iload_n 3, 1) := by decide +kernel
theorem dL_law_530 : decode cL_law 530 = .ok (.iconst 2, 1) := by decide +kernel
theorem dL_law_531 : decode cL_law 531 = .ok (.iadd, 1) := by decide +kernel
theorem dL_law_532 : decode cL_law 532 = .ok (.iaload, 1) := by decide +kernel
theorem dL_law_533 : decode cL_law 533 = .ok (.invokevirtual 56, 3) := by decide +kernel
theorem dL_law_536 : decode cL_law 536 = .ok (.aload_n 2, 1) := by decide +kernel
theorem dL_law_537 : decode cL_law 537 = .ok (.aload_n 0, 1) := by decide +kernel
theorem dL_law_538 : decode cL_law 538 = .ok (.iload_n 3, 1) := by decide +kernel
theorem dL_law_539 : decode cL_law 539 = .ok (.iconst 1, 1) := by decide +kernel
theorem dL_law_540 : decode cL_law 540 = .ok (.iadd, 1) := by decide +kernel
theorem dL_law_541 : decode cL_law 541 = .ok (.iaload, 1) := by decide +kernel
theorem dL_law_542 : decode cL_law 542 = .ok (.aload_n 0, 1) := by decide +kernel
theorem dL_law_543 : decode cL_law 543 = .ok (.iload_n 3, 1) := by decide +kernel
theorem dL_law_544 : decode cL_law 544 = .ok (.iconst 2, 1) := by decide +kernel
theorem dL_law_545 : decode cL_law 545 = .ok (.iadd, 1) := by decide +kernel
theorem dL_law_546 : decode cL_law 546 = .ok (.iaload, 1) := by decide +kernel
theorem dL_law_547 : decode cL_law 547 = .ok (.invokevirtual 59, 3) := by decide +kernel
theorem dL_law_550 : decode cL_law 550 = .ok (.if_icmp .eq 742, 3) := by decide +kernel
theorem dL_law_553 : decode cL_law 553 = .ok (.iconst 0, 1) := by decide +kernel
theorem dL_law_554 : decode cL_law 554 = .ok (.ireturn, 1) := by decide +kernel
theorem dL_law_555 : decode cL_law 555 = .ok (.aload_n 1, 1) := by decide +kernel
theorem dL_law_556 : decode cL_law 556 = .ok (.aload_n 0, 1) := by decide +kernel
theorem dL_law_557 : decode cL_law 557 = .ok (.iload_n 3, 1) := by decide +kernel
theorem dL_law_558 : decode cL_law 558 = .ok (.iconst 1, 1) := by decide +kernel
theorem dL_law_559 : decode cL_law 559 = .ok (.iadd, 1) := by decide +kernel
theorem dL_law_560 : decode cL_law 560 = .ok (.iaload, 1) := by decide +kernel
theorem dL_law_561 : decode cL_law 561 = .ok (.aload_n 0, 1) := by decide +kernel
theorem dL_law_562 : decode cL_law 562 = .ok (.iload_n 3, 1) := by decide +kernel
theorem dL_law_563 : decode cL_law 563 = .ok (.iconst 2, 1) := by decide +kernel
theorem dL_law_564 : decode cL_law 564 = .ok (.iadd, 1) := by decide +kernel
theorem dL_law_565 : decode cL_law 565 = .ok (.iaload, 1) := by decide +kernel
theorem dL_law_566 : decode cL_law 566 = .ok (.invokevirtual 60, 3) := by decide +kernel
theorem dL_law_569 : decode cL_law 569 = .ok (.aload_n 2, 1) := by decide +kernel
theorem dL_law_570 : decode cL_law 570 = .ok (.aload_n 0, 1) := by decide +kernel
theorem dL_law_571 : decode cL_law 571 = .ok (.iload_n 3, 1) := by decide +kernel
theorem dL_law_572 : decode cL_law 572 = .ok (.iconst 1, 1) := by decide +kernel
theorem dL_law_573 : decode cL_law 573 = .ok (.iadd, 1) := by decide +kernel
theorem dL_law_574 : decode cL_law 574 = .ok (.iaload, 1) := by decide +kernel
theorem dL_law_575 : decode cL_law 575 = .ok (.aload_n 0, 1) := by decide +kernel
theorem dL_law_576 : decode cL_law 576 = .ok (.iload_n 3, 1) := by decide +kernel
theorem dL_law_577 : decode cL_law 577 = .ok (.iconst 2, 1) := by decide +kernel
theorem dL_law_578 : decode cL_law 578 = .ok (.iadd, 1) := by decide +kernel
theorem dL_law_579 : decode cL_law 579 = .ok (.iaload, 1) := by decide +kernel
theorem dL_law_580 : decode cL_law 580 = .ok (.invokevirtual 63, 3) := by decide +kernel
theorem dL_law_583 : decode cL_law 583 = .ok (.if_icmp .eq 709, 3) := by decide +kernel
theorem dL_law_586 : decode cL_law 586 = .ok (.iconst 0, 1) := by decide +kernel
theorem dL_law_587 : decode cL_law 587 = .ok (.ireturn, 1) := by decide +kernel
theorem dL_law_588 : decode cL_law 588 = .ok (.aload_n 1, 1) := by decide +kernel
theorem dL_law_589 : decode cL_law 589 = .ok (.aload_n 0, 1) := by decide +kernel
theorem dL_law_590 : decode cL_law 590 = .ok (.iload_n 3, 1) := by decide +kernel
theorem dL_law_591 : decode cL_law 591 = .ok (.iconst 1, 1) := by decide +kernel
theorem dL_law_592 : decode cL_law 592 = .ok (.iadd, 1) := by decide +kernel
theorem dL_law_593 : decode cL_law 593 = .ok (.iaload, 1) := by decide +kernel
theorem dL_law_594 : decode cL_law 594 = .ok (.aload_n 0, 1) := by decide +kernel
theorem dL_law_595 : decode cL_law 595 = .ok (.iload_n 3, 1) := by decide +kernel
theorem dL_law_596 : decode cL_law 596 = .ok (.iconst 2, 1) := by decide +kernel
theorem dL_law_597 : decode cL_law 597 = .ok (.iadd, 1) := by decide +kernel
theorem dL_law_598 : decode cL_law 598 = .ok (.iaload, 1) := by decide +kernel
theorem dL_law_599 : decode cL_law 599 = .ok (.invokevirtual 64, 3) := by decide +kernel
theorem dL_law_602 : decode cL_law 602 = .ok (.aload_n 2, 1) := by decide +kernel
theorem dL_law_603 : decode cL_law 603 = .ok (.aload_n 0, 1) := by decide +kernel
theorem dL_law_604 : decode cL_law 604 = .ok (.iload_n 3, 1) := by decide +kernel
theorem dL_law_605 : decode cL_law 605 = .ok (.iconst 1, 1) := by decide +kernel
theorem dL_law_606 : decode cL_law 606 = .ok (.iadd, 1) := by decide +kernel
theorem dL_law_607 : decode cL_law 607 = .ok (.iaload, 1) := by decide +kernel
theorem dL_law_608 : decode cL_law 608 = .ok (.aload_n 0, 1) := by decide +kernel
theorem dL_law_609 : decode cL_law 609 = .ok (.iload_n 3, 1) := by decide +kernel
theorem dL_law_610 : decode cL_law 610 = .ok (.iconst 2, 1) := by decide +kernel
theorem dL_law_611 : decode cL_law 611 = .ok (.iadd, 1) := by decide +kernel
theorem dL_law_612 : decode cL_law 612 = .ok (.iaload, 1) := by decide +kernel
theorem dL_law_613 : decode cL_law 613 = .ok (.invokevirtual 67, 3) := by decide +kernel
theorem dL_law_616 : decode cL_law 616 = .ok (.if_icmp .eq 676, 3) := by decide +kernel
theorem dL_law_619 : decode cL_law 619 = .ok (.iconst 0, 1) := by decide +kernel
theorem dL_law_620 : decode cL_law 620 = .ok (.ireturn, 1) := by decide +kernel
theorem dL_law_621 : decode cL_law 621 = .ok (.aload_n 1, 1) := by decide +kernel
theorem dL_law_622 : decode cL_law 622 = .ok (.aload_n 0, 1) := by decide +kernel
theorem dL_law_623 : decode cL_law 623 = .ok (.iload_n 3, 1) := by decide +kernel
theorem dL_law_624 : decode cL_law 624 = .ok (.iconst 1, 1) := by decide +kernel
theorem dL_law_625 : decode cL_law 625 = .ok (.iadd, 1) := by decide +kernel
theorem dL_law_626 : decode cL_law 626 = .ok (.iaload, 1) := by decide +kernel
theorem dL_law_627 : decode cL_law 627 = .ok (.aload_n 0, 1) := by decide +kernel
theorem dL_law_628 : decode cL_law 628 = .ok (.iload_n 3, 1) := by decide +kernel
theorem dL_law_629 : decode cL_law 629 = .ok (.iconst 2, 1) := by decide +kernel
theorem dL_law_630 : decode cL_law 630 = .ok (.iadd, 1) := by decide +kernel
theorem dL_law_631 : decode cL_law 631 = .ok (.iaload, 1) := by decide +kernel
theorem dL_law_632 : decode cL_law 632 = .ok (.invokevirtual 68, 3) := by decide +kernel
theorem dL_law_635 : decode cL_law 635 = .ok (.aload_n 2, 1) := by decide +kernel
theorem dL_law_636 : decode cL_law 636 = .ok (.aload_n 0, 1) := by decide +kernel
theorem dL_law_637 : decode cL_law 637 = .ok (.iload_n 3, 1) := by decide +kernel
theorem dL_law_638 : decode cL_law 638 = .ok (.iconst 1, 1) := by decide +kernel
theorem dL_law_639 : decode cL_law 639 = .ok (.iadd, 1) := by decide +kernel
theorem dL_law_640 : decode cL_law 640 = .ok (.iaload, 1) := by decide +kernel
theorem dL_law_641 : decode cL_law 641 = .ok (.aload_n 0, 1) := by decide +kernel
theorem dL_law_642 : decode cL_law 642 = .ok (.iload_n 3, 1) := by decide +kernel
theorem dL_law_643 : decode cL_law 643 = .ok (.iconst 2, 1) := by decide +kernel
theorem dL_law_644 : decode cL_law 644 = .ok (.iadd, 1) := by decide +kernel
theorem dL_law_645 : decode cL_law 645 = .ok (.iaload, 1) := by decide +kernel
theorem dL_law_646 : decode cL_law 646 = .ok (.invokevirtual 71, 3) := by decide +kernel
theorem dL_law_649 : decode cL_law 649 = .ok (.if_icmp .eq 643, 3) := by decide +kernel
theorem dL_law_652 : decode cL_law 652 = .ok (.iconst 0, 1) := by decide +kernel
theorem dL_law_653 : decode cL_law 653 = .ok (.ireturn, 1) := by decide +kernel
theorem dL_law_654 : decode cL_law 654 = .ok (.aload_n 1, 1) := by decide +kernel
theorem dL_law_655 : decode cL_law 655 = .ok (.aload_n 0, 1) := by decide +kernel
theorem dL_law_656 : decode cL_law 656 = .ok (.iload_n 3, 1) := by decide +kernel
theorem dL_law_657 : decode cL_law 657 = .ok (.iconst 1, 1) := by decide +kernel
theorem dL_law_658 : decode cL_law 658 = .ok (.iadd, 1) := by decide +kernel
theorem dL_law_659 : decode cL_law 659 = .ok (.iaload, 1) := by decide +kernel
theorem dL_law_660 : decode cL_law 660 = .ok (.aload_n 0, 1) := by decide +kernel
theorem dL_law_661 : decode cL_law 661 = .ok (.iload_n 3, 1) := by decide +kernel
theorem dL_law_662 : decode cL_law 662 = .ok (.iconst 2, 1) := by decide +kernel
theorem dL_law_663 : decode cL_law 663 = .ok (.iadd, 1) := by decide +kernel
theorem dL_law_664 : decode cL_law 664 = .ok (.iaload, 1) := by decide +kernel
theorem dL_law_665 : decode cL_law 665 = .ok (.aload_n 0, 1) := by decide +kernel
theorem dL_law_666 : decode cL_law 666 = .ok (.iload_n 3, 1) := by decide +kernel
theorem dL_law_667 : decode cL_law 667 = .ok (.iconst 3, 1) := by decide +kernel
theorem dL_law_668 : decode cL_law 668 = .ok (.iadd, 1) := by decide +kernel
theorem dL_law_669 : decode cL_law 669 = .ok (.iaload, 1) := by decide +kernel
theorem dL_law_670 : decode cL_law 670 = .ok (.invokevirtual 72, 3) := by decide +kernel
theorem dL_law_673 : decode cL_law 673 = .ok (.aload_n 2, 1) := by decide +kernel
theorem dL_law_674 : decode cL_law 674 = .ok (.aload_n 0, 1) := by decide +kernel
theorem dL_law_675 : decode cL_law 675 = .ok (.iload_n 3, 1) := by decide +kernel
theorem dL_law_676 : decode cL_law 676 = .ok (.iconst 1, 1) := by decide +kernel
theorem dL_law_677 : decode cL_law 677 = .ok (.iadd, 1) := by decide +kernel
theorem dL_law_678 : decode cL_law 678 = .ok (.iaload, 1) := by decide +kernel
theorem dL_law_679 : decode cL_law 679 = .ok (.aload_n 0, 1) := by decide +kernel
theorem dL_law_680 : decode cL_law 680 = .ok (.iload_n 3, 1) := by decide +kernel
theorem dL_law_681 : decode cL_law 681 = .ok (.iconst 2, 1) := by decide +kernel
theorem dL_law_682 : decode cL_law 682 = .ok (.iadd, 1) := by decide +kernel
theorem dL_law_683 : decode cL_law 683 = .ok (.iaload, 1) := by decide +kernel
theorem dL_law_684 : decode cL_law 684 = .ok (.aload_n 0, 1) := by decide +kernel
theorem dL_law_685 : decode cL_law 685 = .ok (.iload_n 3, 1) := by decide +kernel
theorem dL_law_686 : decode cL_law 686 = .ok (.iconst 3, 1) := by decide +kernel
theorem dL_law_687 : decode cL_law 687 = .ok (.iadd, 1) := by decide +kernel
theorem dL_law_688 : decode cL_law 688 = .ok (.iaload, 1) := by decide +kernel
theorem dL_law_689 : decode cL_law 689 = .ok (.invokevirtual 75, 3) := by decide +kernel
theorem dL_law_692 : decode cL_law 692 = .ok (.if_icmp .eq 600, 3) := by decide +kernel
theorem dL_law_695 : decode cL_law 695 = .ok (.iconst 0, 1) := by decide +kernel
theorem dL_law_696 : decode cL_law 696 = .ok (.ireturn, 1) := by decide +kernel
theorem dL_law_697 : decode cL_law 697 = .ok (.aload_n 1, 1) := by decide +kernel
theorem dL_law_698 : decode cL_law 698 = .ok (.aload_n 0, 1) := by decide +kernel
theorem dL_law_699 : decode cL_law 699 = .ok (.iload_n 3, 1) := by decide +kernel
theorem dL_law_700 : decode cL_law 700 = .ok (.iconst 1, 1) := by decide +kernel
theorem dL_law_701 : decode cL_law 701 = .ok (.iadd, 1) := by decide +kernel
theorem dL_law_702 : decode cL_law 702 = .ok (.iaload, 1) := by decide +kernel
theorem dL_law_703 : decode cL_law 703 = .ok (.aload_n 0, 1) := by decide +kernel
theorem dL_law_704 : decode cL_law 704 = .ok (.iload_n 3, 1) := by decide +kernel
theorem dL_law_705 : decode cL_law 705 = .ok (.iconst 2, 1) := by decide +kernel
theorem dL_law_706 : decode cL_law 706 = .ok (.iadd, 1) := by decide +kernel
theorem dL_law_707 : decode cL_law 707 = .ok (.iaload, 1) := by decide +kernel
theorem dL_law_708 : decode cL_law 708 = .ok (.aload_n 0, 1) := by decide +kernel
theorem dL_law_709 : decode cL_law 709 = .ok (.iload_n 3, 1) := by decide +kernel
theorem dL_law_710 : decode cL_law 710 = .ok (.iconst 3, 1) := by decide +kernel
theorem dL_law_711 : decode cL_law 711 = .ok (.iadd, 1) := by decide +kernel
theorem dL_law_712 : decode cL_law 712 = .ok (.iaload, 1) := by decide +kernel
theorem dL_law_713 : decode cL_law 713 = .ok (.aload_n 0, 1) := by decide +kernel
theorem dL_law_714 : decode cL_law 714 = .ok (.iload_n 3, 1) := by decide +kernel
theorem dL_law_715 : decode cL_law 715 = .ok (.iconst 4, 1) := by decide +kernel
theorem dL_law_716 : decode cL_law 716 = .ok (.iadd, 1) := by decide +kernel
theorem dL_law_717 : decode cL_law 717 = .ok (.iaload, 1) := by decide +kernel
theorem dL_law_718 : decode cL_law 718 = .ok (.invokevirtual 76, 3) := by decide +kernel
theorem dL_law_721 : decode cL_law 721 = .ok (.aload_n 2, 1) := by decide +kernel
theorem dL_law_722 : decode cL_law 722 = .ok (.aload_n 0, 1) := by decide +kernel
theorem dL_law_723 : decode cL_law 723 = .ok (.iload_n 3, 1) := by decide +kernel
theorem dL_law_724 : decode cL_law 724 = .ok (.iconst 1, 1) := by decide +kernel
theorem dL_law_725 : decode cL_law 725 = .ok (.iadd, 1) := by decide +kernel
theorem dL_law_726 : decode cL_law 726 = .ok (.iaload, 1) := by decide +kernel
theorem dL_law_727 : decode cL_law 727 = .ok (.aload_n 0, 1) := by decide +kernel
theorem dL_law_728 : decode cL_law 728 = .ok (.iload_n 3, 1) := by decide +kernel
theorem dL_law_729 : decode cL_law 729 = .ok (.iconst 2, 1) := by decide +kernel
theorem dL_law_730 : decode cL_law 730 = .ok (.iadd, 1) := by decide +kernel
theorem dL_law_731 : decode cL_law 731 = .ok (.iaload, 1) := by decide +kernel
theorem dL_law_732 : decode cL_law 732 = .ok (.aload_n 0, 1) := by decide +kernel
theorem dL_law_733 : decode cL_law 733 = .ok (.iload_n 3, 1) := by decide +kernel
theorem dL_law_734 : decode cL_law 734 = .ok (.iconst 3, 1) := by decide +kernel
theorem dL_law_735 : decode cL_law 735 = .ok (.iadd, 1) := by decide +kernel
theorem dL_law_736 : decode cL_law 736 = .ok (.iaload, 1) := by decide +kernel
theorem dL_law_737 : decode cL_law 737 = .ok (.aload_n 0, 1) := by decide +kernel
theorem dL_law_738 : decode cL_law 738 = .ok (.iload_n 3, 1) := by decide +kernel
theorem dL_law_739 : decode cL_law 739 = .ok (.iconst 4, 1) := by decide +kernel
theorem dL_law_740 : decode cL_law 740 = .ok (.iadd, 1) := by decide +kernel
theorem dL_law_741 : decode cL_law 741 = .ok (.iaload, 1) := by decide +kernel
theorem dL_law_742 : decode cL_law 742 = .ok (.invokevirtual 80, 3) := by decide +kernel
theorem dL_law_745 : decode cL_law 745 = .ok (.if_icmp .eq 547, 3) := by decide +kernel
theorem dL_law_748 : decode cL_law 748 = .ok (.iconst 0, 1) := by decide +kernel
theorem dL_law_749 : decode cL_law 749 = .ok (.ireturn, 1) := by decide +kernel
theorem dL_law_750 : decode cL_law 750 = .ok (.aload_n 1, 1) := by decide +kernel
theorem dL_law_751 : decode cL_law 751 = .ok (.aload_n 0, 1) := by decide +kernel
theorem dL_law_752 : decode cL_law 752 = .ok (.iload_n 3, 1) := by decide +kernel
theorem dL_law_753 : decode cL_law 753 = .ok (.iconst 1, 1) := by decide +kernel
theorem dL_law_754 : decode cL_law 754 = .ok (.iadd, 1) := by decide +kernel
theorem dL_law_755 : decode cL_law 755 = .ok (.iaload, 1) := by decide +kernel
theorem dL_law_756 : decode cL_law 756 = .ok (.aload_n 0, 1) := by decide +kernel
theorem dL_law_757 : decode cL_law 757 = .ok (.iload_n 3, 1) := by decide +kernel
theorem dL_law_758 : decode cL_law 758 = .ok (.iconst 2, 1) := by decide +kernel
theorem dL_law_759 : decode cL_law 759 = .ok (.iadd, 1) := by decide +kernel
theorem dL_law_760 : decode cL_law 760 = .ok (.iaload, 1) := by decide +kernel
theorem dL_law_761 : decode cL_law 761 = .ok (.invokevirtual 81, 3) := by decide +kernel
theorem dL_law_764 : decode cL_law 764 = .ok (.aload_n 2, 1) := by decide +kernel
theorem dL_law_765 : decode cL_law 765 = .ok (.aload_n 0, 1) := by decide +kernel
theorem dL_law_766 : decode cL_law 766 = .ok (.iload_n 3, 1) := by decide +kernel
theorem dL_law_767 : decode cL_law 767 = .ok (.iconst 1, 1) := by decide +kernel
theorem dL_law_768 : decode cL_law 768 = .ok (.iadd, 1) := by decide +kernel
theorem dL_law_769 : decode cL_law 769 = .ok (.iaload, 1) := by decide +kernel
theorem dL_law_770 : decode cL_law 770 = .ok (.aload_n 0, 1) := by decide +kernel
theorem dL_law_771 : decode cL_law 771 = .ok (.iload_n 3, 1) := by decide +kernel
theorem dL_law_772 : decode cL_law 772 = .ok (.iconst 2, 1) := by decide +kernel
theorem dL_law_773 : decode cL_law 773 = .ok (.iadd, 1) := by decide +kernel
theorem dL_law_774 : decode cL_law 774 = .ok (.iaload, 1) := by decide +kernel
theorem dL_law_775 : decode cL_law 775 = .ok (.invokevirtual 84, 3) := by decide +kernel
theorem dL_law_778 : decode cL_law 778 = .ok (.if_icmp .eq 514, 3) := by decide +kernel
theorem dL_law_781 : decode cL_law 781 = .ok (.iconst 0, 1) := by decide +kernel
theorem dL_law_782 : decode cL_law 782 = .ok (.ireturn, 1) := by decide +kernel
theorem dL_law_783 : decode cL_law 783 = .ok (.aload_n 1, 1) := by decide +kernel
theorem dL_law_784 : decode cL_law 784 = .ok (.invokevirtual 85, 3) := by decide +kernel
theorem dL_law_787 : decode cL_law 787 = .ok (.aload_n 2, 1) := by decide +kernel
theorem dL_law_788 : decode cL_law 788 = .ok (.invokevirtual 89, 3) := by decide +kernel
theorem dL_law_791 : decode cL_law 791 = .ok (.if_icmp .eq 501, 3) := by decide +kernel
theorem dL_law_794 : decode cL_law 794 = .ok (.iconst 0, 1) := by decide +kernel
theorem dL_law_795 : decode cL_law 795 = .ok (.ireturn, 1) := by decide +kernel
theorem dL_law_796 : decode cL_law 796 = .ok (.aload_n 1, 1) := by decide +kernel
theorem dL_law_797 : decode cL_law 797 = .ok (.aload_n 0, 1) := by decide +kernel
theorem dL_law_798 : decode cL_law 798 = .ok (.iload_n 3, 1) := by decide +kernel
theorem dL_law_799 : decode cL_law 799 = .ok (.iconst 1, 1) := by decide +kernel
theorem dL_law_800 : decode cL_law 800 = .ok (.iadd, 1) := by decide +kernel
theorem dL_law_801 : decode cL_law 801 = .ok (.iaload, 1) := by decide +kernel
theorem dL_law_802 : decode cL_law 802 = .ok (.invokevirtual 90, 3) := by decide +kernel
theorem dL_law_805 : decode cL_law 805 = .ok (.aload_n 2, 1) := by decide +kernel
theorem dL_law_806 : decode cL_law 806 = .ok (.aload_n 0, 1) := by decide +kernel
theorem dL_law_807 : decode cL_law 807 = .ok (.iload_n 3, 1) := by decide +kernel
theorem dL_law_808 : decode cL_law 808 = .ok (.iconst 1, 1) := by decide +kernel
theorem dL_law_809 : decode cL_law 809 = .ok (.iadd, 1) := by decide +kernel
theorem dL_law_810 : decode cL_law 810 = .ok (.iaload, 1) := by decide +kernel
theorem dL_law_811 : decode cL_law 811 = .ok (.invokevirtual 93, 3) := by decide +kernel
theorem dL_law_814 : decode cL_law 814 = .ok (.if_icmp .eq 478, 3) := by decide +kernel
theorem dL_law_817 : decode cL_law 817 = .ok (.iconst 0, 1) := by decide +kernel
theorem dL_law_818 : decode cL_law 818 = .ok (.ireturn, 1) := by decide +kernel
theorem dL_law_819 : decode cL_law 819 = .ok (.aload_n 1, 1) := by decide +kernel
theorem dL_law_820 : decode cL_law 820 = .ok (.aload_n 0, 1) := by decide +kernel
theorem dL_law_821 : decode cL_law 821 = .ok (.iload_n 3, 1) := by decide +kernel
theorem dL_law_822 : decode cL_law 822 = .ok (.iconst 1, 1) := by decide +kernel
theorem dL_law_823 : decode cL_law 823 = .ok (.iadd, 1) := by decide +kernel
theorem dL_law_824 : decode cL_law 824 = .ok (.iaload, 1) := by decide +kernel
theorem dL_law_825 : decode cL_law 825 = .ok (.aload_n 0, 1) := by decide +kernel
theorem dL_law_826 : decode cL_law 826 = .ok (.iload_n 3, 1) := by decide +kernel
theorem dL_law_827 : decode cL_law 827 = .ok (.iconst 2, 1) := by decide +kernel
theorem dL_law_828 : decode cL_law 828 = .ok (.iadd, 1) := by decide +kernel
theorem dL_law_829 : decode cL_law 829 = .ok (.iaload, 1) := by decide +kernel
theorem dL_law_830 : decode cL_law 830 = .ok (.aload_n 0, 1) := by decide +kernel
theorem dL_law_831 : decode cL_law 831 = .ok (.iload_n 3, 1) := by decide +kernel
theorem dL_law_832 : decode cL_law 832 = .ok (.iconst 3, 1) := by decide +kernel
theorem dL_law_833 : decode cL_law 833 = .ok (.iadd, 1) := by decide +kernel
theorem dL_law_834 : decode cL_law 834 = .ok (.iaload, 1) := by decide +kernel
theorem dL_law_835 : decode cL_law 835 = .ok (.invokevirtual 94, 3) := by decide +kernel
theorem dL_law_838 : decode cL_law 838 = .ok (.aload_n 2, 1) := by decide +kernel
theorem dL_law_839 : decode cL_law 839 = .ok (.aload_n 0, 1) := by decide +kernel
theorem dL_law_840 : decode cL_law 840 = .ok (.iload_n 3, 1) := by decide +kernel
theorem dL_law_841 : decode cL_law 841 = .ok (.iconst 1, 1) := by decide +kernel
theorem dL_law_842 : decode cL_law 842 = .ok (.iadd, 1) := by decide +kernel
theorem dL_law_843 : decode cL_law 843 = .ok (.iaload, 1) := by decide +kernel
theorem dL_law_844 : decode cL_law 844 = .ok (.aload_n 0, 1) := by decide +kernel
theorem dL_law_845 : decode cL_law 845 = .ok (.iload_n 3, 1) := by decide +kernel
theorem dL_law_846 : decode cL_law 846 = .ok (.iconst 2, 1) := by decide +kernel
theorem dL_law_847 : decode cL_law 847 = .ok (.iadd, 1) := by decide +kernel
theorem dL_law_848 : decode cL_law 848 = .ok (.iaload, 1) := by decide +kernel
theorem dL_law_849 : decode cL_law 849 = .ok (.aload_n 0, 1) := by decide +kernel
theorem dL_law_850 : decode cL_law 850 = .ok (.iload_n 3, 1) := by decide +kernel
theorem dL_law_851 : decode cL_law 851 = .ok (.iconst 3, 1) := by decide +kernel
theorem dL_law_852 : decode cL_law 852 = .ok (.iadd, 1) := by decide +kernel
theorem dL_law_853 : decode cL_law 853 = .ok (.iaload, 1) := by decide +kernel
theorem dL_law_854 : decode cL_law 854 = .ok (.invokevirtual 98, 3) := by decide +kernel
theorem dL_law_857 : decode cL_law 857 = .ok (.lcmp, 1) := by decide +kernel
theorem dL_law_858 : decode cL_law 858 = .ok (.ifCond .eq 434, 3) := by decide +kernel
theorem dL_law_861 : decode cL_law 861 = .ok (.iconst 0, 1) := by decide +kernel
theorem dL_law_862 : decode cL_law 862 = .ok (.ireturn, 1) := by decide +kernel
theorem dL_law_863 : decode cL_law 863 = .ok (.aload_n 1, 1) := by decide +kernel
theorem dL_law_864 : decode cL_law 864 = .ok (.aload_n 0, 1) := by decide +kernel
theorem dL_law_865 : decode cL_law 865 = .ok (.iload_n 3, 1) := by decide +kernel
theorem dL_law_866 : decode cL_law 866 = .ok (.iconst 1, 1) := by decide +kernel
theorem dL_law_867 : decode cL_law 867 = .ok (.iadd, 1) := by decide +kernel
theorem dL_law_868 : decode cL_law 868 = .ok (.iaload, 1) := by decide +kernel
theorem dL_law_869 : decode cL_law 869 = .ok (.aload_n 0, 1) := by decide +kernel
theorem dL_law_870 : decode cL_law 870 = .ok (.iload_n 3, 1) := by decide +kernel
theorem dL_law_871 : decode cL_law 871 = .ok (.iconst 2, 1) := by decide +kernel
theorem dL_law_872 : decode cL_law 872 = .ok (.iadd, 1) := by decide +kernel
theorem dL_law_873 : decode cL_law 873 = .ok (.iaload, 1) := by decide +kernel
theorem dL_law_874 : decode cL_law 874 = .ok (.invokevirtual 99, 3) := by decide +kernel
theorem dL_law_877 : decode cL_law 877 = .ok (.aload_n 2, 1) := by decide +kernel
theorem dL_law_878 : decode cL_law 878 = .ok (.aload_n 0, 1) := by decide +kernel
theorem dL_law_879 : decode cL_law 879 = .ok (.iload_n 3, 1) := by decide +kernel
theorem dL_law_880 : decode cL_law 880 = .ok (.iconst 1, 1) := by decide +kernel
theorem dL_law_881 : decode cL_law 881 = .ok (.iadd, 1) := by decide +kernel
theorem dL_law_882 : decode cL_law 882 = .ok (.iaload, 1) := by decide +kernel
theorem dL_law_883 : decode cL_law 883 = .ok (.aload_n 0, 1) := by decide +kernel
theorem dL_law_884 : decode cL_law 884 = .ok (.iload_n 3, 1) := by decide +kernel
theorem dL_law_885 : decode cL_law 885 = .ok (.iconst 2, 1) := by decide +kernel
theorem dL_law_886 : decode cL_law 886 = .ok (.iadd, 1) := by decide +kernel
theorem dL_law_887 : decode cL_law 887 = .ok (.iaload, 1) := by decide +kernel
theorem dL_law_888 : decode cL_law 888 = .ok (.invokevirtual 102, 3) := by decide +kernel
theorem dL_law_891 : decode cL_law 891 = .ok (.if_icmp .eq 401, 3) := by decide +kernel
theorem dL_law_894 : decode cL_law 894 = .ok (.iconst 0, 1) := by decide +kernel
theorem dL_law_895 : decode cL_law 895 = .ok (.ireturn, 1) := by decide +kernel
theorem dL_law_896 : decode cL_law 896 = .ok (.aload_n 1, 1) := by decide +kernel
theorem dL_law_897 : decode cL_law 897 = .ok (.invokevirtual 103, 3) := by decide +kernel
theorem dL_law_900 : decode cL_law 900 = .ok (.aload_n 2, 1) := by decide +kernel
theorem dL_law_901 : decode cL_law 901 = .ok (.invokevirtual 106, 3) := by decide +kernel
theorem dL_law_904 : decode cL_law 904 = .ok (.if_icmp .eq 388, 3) := by decide +kernel
theorem dL_law_907 : decode cL_law 907 = .ok (.iconst 0, 1) := by decide +kernel
theorem dL_law_908 : decode cL_law 908 = .ok (.ireturn, 1) := by decide +kernel
theorem dL_law_909 : decode cL_law 909 = .ok (.aload_n 1, 1) := by decide +kernel
theorem dL_law_910 : decode cL_law 910 = .ok (.aload_n 0, 1) := by decide +kernel
theorem dL_law_911 : decode cL_law 911 = .ok (.iload_n 3, 1) := by decide +kernel
theorem dL_law_912 : decode cL_law 912 = .ok (.iconst 1, 1) := by decide +kernel
theorem dL_law_913 : decode cL_law 913 = .ok (.iadd, 1) := by decide +kernel
theorem dL_law_914 : decode cL_law 914 = .ok (.iaload, 1) := by decide +kernel
theorem dL_law_915 : decode cL_law 915 = .ok (.aload_n 0, 1) := by decide +kernel
theorem dL_law_916 : decode cL_law 916 = .ok (.iload_n 3, 1) := by decide +kernel
theorem dL_law_917 : decode cL_law 917 = .ok (.iconst 2, 1) := by decide +kernel
theorem dL_law_918 : decode cL_law 918 = .ok (.iadd, 1) := by decide +kernel
theorem dL_law_919 : decode cL_law 919 = .ok (.iaload, 1) := by decide +kernel
theorem dL_law_920 : decode cL_law 920 = .ok (.invokevirtual 107, 3) := by decide +kernel
theorem dL_law_923 : decode cL_law 923 = .ok (.aload_n 2, 1) := by decide +kernel
theorem dL_law_924 : decode cL_law 924 = .ok (.aload_n 0, 1) := by decide +kernel
theorem dL_law_925 : decode cL_law 925 = .ok (.iload_n 3, 1) := by decide +kernel
theorem dL_law_926 : decode cL_law 926 = .ok (.iconst 1, 1) := by decide +kernel
theorem dL_law_927 : decode cL_law 927 = .ok (.iadd, 1) := by decide +kernel
theorem dL_law_928 : decode cL_law 928 = .ok (.iaload, 1) := by decide +kernel
theorem dL_law_929 : decode cL_law 929 = .ok (.aload_n 0, 1) := by decide +kernel
theorem dL_law_930 : decode cL_law 930 = .ok (.iload_n 3, 1) := by decide +kernel
theorem dL_law_931 : decode cL_law 931 = .ok (.iconst 2, 1) := by decide +kernel
theorem dL_law_932 : decode cL_law 932 = .ok (.iadd, 1) := by decide +kernel
theorem dL_law_933 : decode cL_law 933 = .ok (.iaload, 1) := by decide +kernel
theorem dL_law_934 : decode cL_law 934 = .ok (.invokevirtual 110, 3) := by decide +kernel
theorem dL_law_937 : decode cL_law 937 = .ok (.if_icmp .eq 355, 3) := by decide +kernel
theorem dL_law_940 : decode cL_law 940 = .ok (.iconst 0, 1) := by decide +kernel
theorem dL_law_941 : decode cL_law 941 = .ok (.ireturn, 1) := by decide +kernel
theorem dL_law_942 : decode cL_law 942 = .ok (.aload_n 1, 1) := by decide +kernel
theorem dL_law_943 : decode cL_law 943 = .ok (.aload_n 0, 1) := by decide +kernel
theorem dL_law_944 : decode cL_law 944 = .ok (.iload_n 3, 1) := by decide +kernel
theorem dL_law_945 : decode cL_law 945 = .ok (.iconst 1, 1) := by decide +kernel
theorem dL_law_946 : decode cL_law 946 = .ok (.iadd, 1) := by decide +kernel
theorem dL_law_947 : decode cL_law 947 = .ok (.iaload, 1) := by decide +kernel
theorem dL_law_948 : decode cL_law 948 = .ok (.invokevirtual 111, 3) := by decide +kernel
theorem dL_law_951 : decode cL_law 951 = .ok (.aload_n 2, 1) := by decide +kernel
theorem dL_law_952 : decode cL_law 952 = .ok (.aload_n 0, 1) := by decide +kernel
theorem dL_law_953 : decode cL_law 953 = .ok (.iload_n 3, 1) := by decide +kernel
theorem dL_law_954 : decode cL_law 954 = .ok (.iconst 1, 1) := by decide +kernel
theorem dL_law_955 : decode cL_law 955 = .ok (.iadd, 1) := by decide +kernel
theorem dL_law_956 : decode cL_law 956 = .ok (.iaload, 1) := by decide +kernel
theorem dL_law_957 : decode cL_law 957 = .ok (.invokevirtual 114, 3) := by decide +kernel
theorem dL_law_960 : decode cL_law 960 = .ok (.if_icmp .eq 332, 3) := by decide +kernel
theorem dL_law_963 : decode cL_law 963 = .ok (.iconst 0, 1) := by decide +kernel
theorem dL_law_964 : decode cL_law 964 = .ok (.ireturn, 1) := by decide +kernel
theorem dL_law_965 : decode cL_law 965 = .ok (.aload_n 1, 1) := by decide +kernel
theorem dL_law_966 : decode cL_law 966 = .ok (.invokevirtual 115, 3) := by decide +kernel
theorem dL_law_969 : decode cL_law 969 = .ok (.aload_n 2, 1) := by decide +kernel
theorem dL_law_970 : decode cL_law 970 = .ok (.invokevirtual 118, 3) := by decide +kernel
theorem dL_law_973 : decode cL_law 973 = .ok (.if_icmp .eq 319, 3) := by decide +kernel
theorem dL_law_976 : decode cL_law 976 = .ok (.iconst 0, 1) := by decide +kernel
theorem dL_law_977 : decode cL_law 977 = .ok (.ireturn, 1) := by decide +kernel
theorem dL_law_978 : decode cL_law 978 = .ok (.aload_n 1, 1) := by decide +kernel
theorem dL_law_979 : decode cL_law 979 = .ok (.aload_n 0, 1) := by decide +kernel
theorem dL_law_980 : decode cL_law 980 = .ok (.iload_n 3, 1) := by decide +kernel
theorem dL_law_981 : decode cL_law 981 = .ok (.iconst 1, 1) := by decide +kernel
theorem dL_law_982 : decode cL_law 982 = .ok (.iadd, 1) := by decide +kernel
theorem dL_law_983 : decode cL_law 983 = .ok (.iaload, 1) := by decide +kernel
theorem dL_law_984 : decode cL_law 984 = .ok (.aload_n 0, 1) := by decide +kernel
theorem dL_law_985 : decode cL_law 985 = .ok (.iload_n 3, 1) := by decide +kernel
theorem dL_law_986 : decode cL_law 986 = .ok (.iconst 2, 1) := by decide +kernel
theorem dL_law_987 : decode cL_law 987 = .ok (.iadd, 1) := by decide +kernel
theorem dL_law_988 : decode cL_law 988 = .ok (.iaload, 1) := by decide +kernel
theorem dL_law_989 : decode cL_law 989 = .ok (.invokevirtual 119, 3) := by decide +kernel
theorem dL_law_992 : decode cL_law 992 = .ok (.aload_n 2, 1) := by decide +kernel
theorem dL_law_993 : decode cL_law 993 = .ok (.aload_n 0, 1) := by decide +kernel
theorem dL_law_994 : decode cL_law 994 = .ok (.iload_n 3, 1) := by decide +kernel
theorem dL_law_995 : decode cL_law 995 = .ok (.iconst 1, 1) := by decide +kernel
theorem dL_law_996 : decode cL_law 996 = .ok (.iadd, 1) := by decide +kernel
theorem dL_law_997 : decode cL_law 997 = .ok (.iaload, 1) := by decide +kernel
theorem dL_law_998 : decode cL_law 998 = .ok (.aload_n 0, 1) := by decide +kernel
theorem dL_law_999 : decode cL_law 999 = .ok (.iload_n 3, 1) := by decide +kernel
theorem dL_law_1000 : decode cL_law 1000 = .ok (.iconst 2, 1) := by decide +kernel
theorem dL_law_1001 : decode cL_law 1001 = .ok (.iadd, 1) := by decide +kernel
theorem dL_law_1002 : decode cL_law 1002 = .ok (.iaload, 1) := by decide +kernel
theorem dL_law_1003 : decode cL_law 1003 = .ok (.invokevirtual 122, 3) := by decide +kernel
theorem dL_law_1006 : decode cL_law 1006 = .ok (.if_icmp .eq 286, 3) := by decide +kernel
theorem dL_law_1009 : decode cL_law 1009 = .ok (.iconst 0, 1) := by decide +kernel
theorem dL_law_1010 : decode cL_law 1010 = .ok (.ireturn, 1) := by decide +kernel
theorem dL_law_1011 : decode cL_law 1011 = .ok (.aload_n 1, 1) := by decide +kernel
theorem dL_law_1012 : decode cL_law 1012 = .ok (.aload_n 0, 1) := by decide +kernel
theorem dL_law_1013 : decode cL_law 1013 = .ok (.iload_n 3, 1) := by decide +kernel
theorem dL_law_1014 : decode cL_law 1014 = .ok (.iconst 1, 1) := by decide +kernel
theorem dL_law_1015 : decode cL_law 1015 = .ok (.iadd, 1) := by decide +kernel
theorem dL_law_1016 : decode cL_law 1016 = .ok (.iaload, 1) := by decide +kernel
theorem dL_law_1017 : decode cL_law 1017 = .ok (.invokevirtual 123, 3) := by decide +kernel
theorem dL_law_1020 : decode cL_law 1020 = .ok (.aload_n 2, 1) := by decide +kernel
theorem dL_law_1021 : decode cL_law 1021 = .ok (.aload_n 0, 1) := by decide +kernel
theorem dL_law_1022 : decode cL_law 1022 = .ok (.iload_n 3, 1) := by decide +kernel
theorem dL_law_1023 : decode cL_law 1023 = .ok (.iconst 1, 1) := by decide +kernel
theorem dL_law_1024 : decode cL_law 1024 = .ok (.iadd, 1) := by decide +kernel
theorem dL_law_1025 : decode cL_law 1025 = .ok (.iaload, 1) := by decide +kernel
theorem dL_law_1026 : decode cL_law 1026 = .ok (.invokevirtual 126, 3) := by decide +kernel
theorem dL_law_1029 : decode cL_law 1029 = .ok (.if_icmp .eq 263, 3) := by decide +kernel
theorem dL_law_1032 : decode cL_law 1032 = .ok (.iconst 0, 1) := by decide +kernel
theorem dL_law_1033 : decode cL_law 1033 = .ok (.ireturn, 1) := by decide +kernel
theorem dL_law_1034 : decode cL_law 1034 = .ok (.aload_n 1, 1) := by decide +kernel
theorem dL_law_1035 : decode cL_law 1035 = .ok (.aload_n 0, 1) := by decide +kernel
theorem dL_law_1036 : decode cL_law 1036 = .ok (.iload_n 3, 1) := by decide +kernel
theorem dL_law_1037 : decode cL_law 1037 = .ok (.iconst 1, 1) := by decide +kernel
theorem dL_law_1038 : decode cL_law 1038 = .ok (.iadd, 1) := by decide +kernel
theorem dL_law_1039 : decode cL_law 1039 = .ok (.iaload, 1) := by decide +kernel
theorem dL_law_1040 : decode cL_law 1040 = .ok (.aload_n 0, 1) := by decide +kernel
theorem dL_law_1041 : decode cL_law 1041 = .ok (.iload_n 3, 1) := by decide +kernel
theorem dL_law_1042 : decode cL_law 1042 = .ok (.iconst 2, 1) := by decide +kernel
theorem dL_law_1043 : decode cL_law 1043 = .ok (.iadd, 1) := by decide +kernel
theorem dL_law_1044 : decode cL_law 1044 = .ok (.iaload, 1) := by decide +kernel
theorem dL_law_1045 : decode cL_law 1045 = .ok (.invokevirtual 127, 3) := by decide +kernel
theorem dL_law_1048 : decode cL_law 1048 = .ok (.aload_n 2, 1) := by decide +kernel
theorem dL_law_1049 : decode cL_law 1049 = .ok (.aload_n 0, 1) := by decide +kernel
theorem dL_law_1050 : decode cL_law 1050 = .ok (.iload_n 3, 1) := by decide +kernel
theorem dL_law_1051 : decode cL_law 1051 = .ok (.iconst 1, 1) := by decide +kernel
theorem dL_law_1052 : decode cL_law 1052 = .ok (.iadd, 1) := by decide +kernel
theorem dL_law_1053 : decode cL_law 1053 = .ok (.iaload, 1) := by decide +kernel
theorem dL_law_1054 : decode cL_law 1054 = .ok (.aload_n 0, 1) := by decide +kernel
theorem dL_law_1055 : decode cL_law 1055 = .ok (.iload_n 3, 1) := by decide +kernel
theorem dL_law_1056 : decode cL_law 1056 = .ok (.iconst 2, 1) := by decide +kernel
theorem dL_law_1057 : decode cL_law 1057 = .ok (.iadd, 1) := by decide +kernel
theorem dL_law_1058 : decode cL_law 1058 = .ok (.iaload, 1) := by decide +kernel
theorem dL_law_1059 : decode cL_law 1059 = .ok (.invokevirtual 130, 3) := by decide +kernel
theorem dL_law_1062 : decode cL_law 1062 = .ok (.if_icmp .eq 230, 3) := by decide +kernel
theorem dL_law_1065 : decode cL_law 1065 = .ok (.iconst 0, 1) := by decide +kernel
theorem dL_law_1066 : decode cL_law 1066 = .ok (.ireturn, 1) := by decide +kernel
theorem dL_law_1067 : decode cL_law 1067 = .ok (.aload_n 1, 1) := by decide +kernel
theorem dL_law_1068 : decode cL_law 1068 = .ok (.aload_n 0, 1) := by decide +kernel
theorem dL_law_1069 : decode cL_law 1069 = .ok (.iload_n 3, 1) := by decide +kernel
theorem dL_law_1070 : decode cL_law 1070 = .ok (.iconst 1, 1) := by decide +kernel
theorem dL_law_1071 : decode cL_law 1071 = .ok (.iadd, 1) := by decide +kernel
theorem dL_law_1072 : decode cL_law 1072 = .ok (.iaload, 1) := by decide +kernel
theorem dL_law_1073 : decode cL_law 1073 = .ok (.aload_n 0, 1) := by decide +kernel
theorem dL_law_1074 : decode cL_law 1074 = .ok (.iload_n 3, 1) := by decide +kernel
theorem dL_law_1075 : decode cL_law 1075 = .ok (.iconst 2, 1) := by decide +kernel
theorem dL_law_1076 : decode cL_law 1076 = .ok (.iadd, 1) := by decide +kernel
theorem dL_law_1077 : decode cL_law 1077 = .ok (.iaload, 1) := by decide +kernel
theorem dL_law_1078 : decode cL_law 1078 = .ok (.invokevirtual 131, 3) := by decide +kernel
theorem dL_law_1081 : decode cL_law 1081 = .ok (.aload_n 2, 1) := by decide +kernel
theorem dL_law_1082 : decode cL_law 1082 = .ok (.aload_n 0, 1) := by decide +kernel
theorem dL_law_1083 : decode cL_law 1083 = .ok (.iload_n 3, 1) := by decide +kernel
theorem dL_law_1084 : decode cL_law 1084 = .ok (.iconst 1, 1) := by decide +kernel
theorem dL_law_1085 : decode cL_law 1085 = .ok (.iadd, 1) := by decide +kernel
theorem dL_law_1086 : decode cL_law 1086 = .ok (.iaload, 1) := by decide +kernel
theorem dL_law_1087 : decode cL_law 1087 = .ok (.aload_n 0, 1) := by decide +kernel
theorem dL_law_1088 : decode cL_law 1088 = .ok (.iload_n 3, 1) := by decide +kernel
theorem dL_law_1089 : decode cL_law 1089 = .ok (.iconst 2, 1) := by decide +kernel
theorem dL_law_1090 : decode cL_law 1090 = .ok (.iadd, 1) := by decide +kernel
theorem dL_law_1091 : decode cL_law 1091 = .ok (.iaload, 1) := by decide +kernel
theorem dL_law_1092 : decode cL_law 1092 = .ok (.invokevirtual 134, 3) := by decide +kernel
theorem dL_law_1095 : decode cL_law 1095 = .ok (.if_icmp .eq 197, 3) := by decide +kernel
theorem dL_law_1098 : decode cL_law 1098 = .ok (.iconst 0, 1) := by decide +kernel
theorem dL_law_1099 : decode cL_law 1099 = .ok (.ireturn, 1) := by decide +kernel
theorem dL_law_1100 : decode cL_law 1100 = .ok (.aload_n 1, 1) := by decide +kernel
theorem dL_law_1101 : decode cL_law 1101 = .ok (.aload_n 0, 1) := by decide +kernel
theorem dL_law_1102 : decode cL_law 1102 = .ok (.iload_n 3, 1) := by decide +kernel
theorem dL_law_1103 : decode cL_law 1103 = .ok (.iconst 1, 1) := by decide +kernel
theorem dL_law_1104 : decode cL_law 1104 = .ok (.iadd, 1) := by decide +kernel
theorem dL_law_1105 : decode cL_law 1105 = .ok (.iaload, 1) := by decide +kernel
theorem dL_law_1106 : decode cL_law 1106 = .ok (.aload_n 0, 1) := by decide +kernel
theorem dL_law_1107 : decode cL_law 1107 = .ok (.iload_n 3, 1) := by decide +kernel
theorem dL_law_1108 : decode cL_law 1108 = .ok (.iconst 2, 1) := by decide +kernel
theorem dL_law_1109 : decode cL_law 1109 = .ok (.iadd, 1) := by decide +kernel
theorem dL_law_1110 : decode cL_law 1110 = .ok (.iaload, 1) := by decide +kernel
theorem dL_law_1111 : decode cL_law 1111 = .ok (.invokevirtual 135, 3) := by decide +kernel
theorem dL_law_1114 : decode cL_law 1114 = .ok (.aload_n 2, 1) := by decide +kernel
theorem dL_law_1115 : decode cL_law 1115 = .ok (.aload_n 0, 1) := by decide +kernel
theorem dL_law_1116 : decode cL_law 1116 = .ok (.iload_n 3, 1) := by decide +kernel
theorem dL_law_1117 : decode cL_law 1117 = .ok (.iconst 1, 1) := by decide +kernel
theorem dL_law_1118 : decode cL_law 1118 = .ok (.iadd, 1) := by decide +kernel
theorem dL_law_1119 : decode cL_law 1119 = .ok (.iaload, 1) := by decide +kernel
theorem dL_law_1120 : decode cL_law 1120 = .ok (.aload_n 0, 1) := by decide +kernel
theorem dL_law_1121 : decode cL_law 1121 = .ok (.iload_n 3, 1) := by decide +kernel
theorem dL_law_1122 : decode cL_law 1122 = .ok (.iconst 2, 1) := by decide +kernel
theorem dL_law_1123 : decode cL_law 1123 = .ok (.iadd, 1) := by decide +kernel
theorem dL_law_1124 : decode cL_law 1124 = .ok (.iaload, 1) := by decide +kernel
theorem dL_law_1125 : decode cL_law 1125 = .ok (.invokevirtual 138, 3) := by decide +kernel
theorem dL_law_1128 : decode cL_law 1128 = .ok (.if_icmp .eq 164, 3) := by decide +kernel
theorem dL_law_1131 : decode cL_law 1131 = .ok (.iconst 0, 1) := by decide +kernel
theorem dL_law_1132 : decode cL_law 1132 = .ok (.ireturn, 1) := by decide +kernel
theorem dL_law_1133 : decode cL_law 1133 = .ok (.aload_n 1, 1) := by decide +kernel
theorem dL_law_1134 : decode cL_law 1134 = .ok (.aload_n 0, 1) := by decide +kernel
theorem dL_law_1135 : decode cL_law 1135 = .ok (.iload_n 3, 1) := by decide +kernel
theorem dL_law_1136 : decode cL_law 1136 = .ok (.iconst 1, 1) := by decide +kernel
theorem dL_law_1137 : decode cL_law 1137 = .ok (.iadd, 1) := by decide +kernel
theorem dL_law_1138 : decode cL_law 1138 = .ok (.iaload, 1) := by decide +kernel
theorem dL_law_1139 : decode cL_law 1139 = .ok (.aload_n 0, 1) := by decide +kernel
theorem dL_law_1140 : decode cL_law 1140 = .ok (.iload_n 3, 1) := by decide +kernel
theorem dL_law_1141 : decode cL_law 1141 = .ok (.iconst 2, 1) := by decide +kernel
theorem dL_law_1142 : decode cL_law 1142 = .ok (.iadd, 1) := by decide +kernel
theorem dL_law_1143 : decode cL_law 1143 = .ok (.iaload, 1) := by decide +kernel
theorem dL_law_1144 : decode cL_law 1144 = .ok (.aload_n 0, 1) := by decide +kernel
theorem dL_law_1145 : decode cL_law 1145 = .ok (.iload_n 3, 1) := by decide +kernel
theorem dL_law_1146 : decode cL_law 1146 = .ok (.iconst 3, 1) := by decide +kernel
theorem dL_law_1147 : decode cL_law 1147 = .ok (.iadd, 1) := by decide +kernel
theorem dL_law_1148 : decode cL_law 1148 = .ok (.iaload, 1) := by decide +kernel
theorem dL_law_1149 : decode cL_law 1149 = .ok (.invokevirtual 139, 3) := by decide +kernel
theorem dL_law_1152 : decode cL_law 1152 = .ok (.aload_n 2, 1) := by decide +kernel
theorem dL_law_1153 : decode cL_law 1153 = .ok (.aload_n 0, 1) := by decide +kernel
theorem dL_law_1154 : decode cL_law 1154 = .ok (.iload_n 3, 1) := by decide +kernel
theorem dL_law_1155 : decode cL_law 1155 = .ok (.iconst 1, 1) := by decide +kernel
theorem dL_law_1156 : decode cL_law 1156 = .ok (.iadd, 1) := by decide +kernel
theorem dL_law_1157 : decode cL_law 1157 = .ok (.iaload, 1) := by decide +kernel
theorem dL_law_1158 : decode cL_law 1158 = .ok (.aload_n 0, 1) := by decide +kernel
theorem dL_law_1159 : decode cL_law 1159 = .ok (.iload_n 3, 1) := by decide +kernel
theorem dL_law_1160 : decode cL_law 1160 = .ok (.iconst 2, 1) := by decide +kernel
theorem dL_law_1161 : decode cL_law 1161 = .ok (.iadd, 1) := by decide +kernel
theorem dL_law_1162 : decode cL_law 1162 = .ok (.iaload, 1) := by decide +kernel
theorem dL_law_1163 : decode cL_law 1163 = .ok (.aload_n 0, 1) := by decide +kernel
theorem dL_law_1164 : decode cL_law 1164 = .ok (.iload_n 3, 1) := by decide +kernel
theorem dL_law_1165 : decode cL_law 1165 = .ok (.iconst 3, 1) := by decide +kernel
theorem dL_law_1166 : decode cL_law 1166 = .ok (.iadd, 1) := by decide +kernel
theorem dL_law_1167 : decode cL_law 1167 = .ok (.iaload, 1) := by decide +kernel
theorem dL_law_1168 : decode cL_law 1168 = .ok (.invokevirtual 142, 3) := by decide +kernel
theorem dL_law_1171 : decode cL_law 1171 = .ok (.if_icmp .eq 121, 3) := by decide +kernel
theorem dL_law_1174 : decode cL_law 1174 = .ok (.iconst 0, 1) := by decide +kernel
theorem dL_law_1175 : decode cL_law 1175 = .ok (.ireturn, 1) := by decide +kernel
theorem dL_law_1176 : decode cL_law 1176 = .ok (.aload_n 1, 1) := by decide +kernel
theorem dL_law_1177 : decode cL_law 1177 = .ok (.aload_n 0, 1) := by decide +kernel
theorem dL_law_1178 : decode cL_law 1178 = .ok (.iload_n 3, 1) := by decide +kernel
theorem dL_law_1179 : decode cL_law 1179 = .ok (.iconst 1, 1) := by decide +kernel
theorem dL_law_1180 : decode cL_law 1180 = .ok (.iadd, 1) := by decide +kernel
theorem dL_law_1181 : decode cL_law 1181 = .ok (.iaload, 1) := by decide +kernel
theorem dL_law_1182 : decode cL_law 1182 = .ok (.aload_n 0, 1) := by decide +kernel
theorem dL_law_1183 : decode cL_law 1183 = .ok (.iload_n 3, 1) := by decide +kernel
theorem dL_law_1184 : decode cL_law 1184 = .ok (.iconst 2, 1) := by decide +kernel
theorem dL_law_1185 : decode cL_law 1185 = .ok (.iadd, 1) := by decide +kernel
theorem dL_law_1186 : decode cL_law 1186 = .ok (.iaload, 1) := by decide +kernel
theorem dL_law_1187 : decode cL_law 1187 = .ok (.invokevirtual 143, 3) := by decide +kernel
theorem dL_law_1190 : decode cL_law 1190 = .ok (.aload_n 2, 1) := by decide +kernel
theorem dL_law_1191 : decode cL_law 1191 = .ok (.aload_n 0, 1) := by decide +kernel
theorem dL_law_1192 : decode cL_law 1192 = .ok (.iload_n 3, 1) := by decide +kernel
theorem dL_law_1193 : decode cL_law 1193 = .ok (.iconst 1, 1) := by decide +kernel
theorem dL_law_1194 : decode cL_law 1194 = .ok (.iadd, 1) := by decide +kernel
theorem dL_law_1195 : decode cL_law 1195 = .ok (.iaload, 1) := by decide +kernel
theorem dL_law_1196 : decode cL_law 1196 = .ok (.aload_n 0, 1) := by decide +kernel
theorem dL_law_1197 : decode cL_law 1197 = .ok (.iload_n 3, 1) := by decide +kernel
theorem dL_law_1198 : decode cL_law 1198 = .ok (.iconst 2, 1) := by decide +kernel
theorem dL_law_1199 : decode cL_law 1199 = .ok (.iadd, 1) := by decide +kernel
theorem dL_law_1200 : decode cL_law 1200 = .ok (.iaload, 1) := by decide +kernel
theorem dL_law_1201 : decode cL_law 1201 = .ok (.invokevirtual 147, 3) := by decide +kernel
theorem dL_law_1204 : decode cL_law 1204 = .ok (.lcmp, 1) := by decide +kernel
theorem dL_law_1205 : decode cL_law 1205 = .ok (.ifCond .eq 87, 3) := by decide +kernel
theorem dL_law_1208 : decode cL_law 1208 = .ok (.iconst 0, 1) := by decide +kernel
theorem dL_law_1209 : decode cL_law 1209 = .ok (.ireturn, 1) := by decide +kernel
theorem dL_law_1210 : decode cL_law 1210 = .ok (.aload_n 1, 1) := by decide +kernel
theorem dL_law_1211 : decode cL_law 1211 = .ok (.aload_n 0, 1) := by decide +kernel
theorem dL_law_1212 : decode cL_law 1212 = .ok (.iload_n 3, 1) := by decide +kernel
theorem dL_law_1213 : decode cL_law 1213 = .ok (.iconst 1, 1) := by decide +kernel
theorem dL_law_1214 : decode cL_law 1214 = .ok (.iadd, 1) := by decide +kernel
theorem dL_law_1215 : decode cL_law 1215 = .ok (.iaload, 1) := by decide +kernel
theorem dL_law_1216 : decode cL_law 1216 = .ok (.aload_n 0, 1) := by decide +kernel
theorem dL_law_1217 : decode cL_law 1217 = .ok (.iload_n 3, 1) := by decide +kernel
theorem dL_law_1218 : decode cL_law 1218 = .ok (.iconst 2, 1) := by decide +kernel
theorem dL_law_1219 : decode cL_law 1219 = .ok (.iadd, 1) := by decide +kernel
theorem dL_law_1220 : decode cL_law 1220 = .ok (.iaload, 1) := by decide +kernel
theorem dL_law_1221 : decode cL_law 1221 = .ok (.invokevirtual 148, 3) := by decide +kernel
theorem dL_law_1224 : decode cL_law 1224 = .ok (.aload_n 2, 1) := by decide +kernel
theorem dL_law_1225 : decode cL_law 1225 = .ok (.aload_n 0, 1) := by decide +kernel
theorem dL_law_1226 : decode cL_law 1226 = .ok (.iload_n 3, 1) := by decide +kernel
theorem dL_law_1227 : decode cL_law 1227 = .ok (.iconst 1, 1) := by decide +kernel
theorem dL_law_1228 : decode cL_law 1228 = .ok (.iadd, 1) := by decide +kernel
theorem dL_law_1229 : decode cL_law 1229 = .ok (.iaload, 1) := by decide +kernel
theorem dL_law_1230 : decode cL_law 1230 = .ok (.aload_n 0, 1) := by decide +kernel
theorem dL_law_1231 : decode cL_law 1231 = .ok (.iload_n 3, 1) := by decide +kernel
theorem dL_law_1232 : decode cL_law 1232 = .ok (.iconst 2, 1) := by decide +kernel
theorem dL_law_1233 : decode cL_law 1233 = .ok (.iadd, 1) := by decide +kernel
theorem dL_law_1234 : decode cL_law 1234 = .ok (.iaload, 1) := by decide +kernel
theorem dL_law_1235 : decode cL_law 1235 = .ok (.invokevirtual 151, 3) := by decide +kernel
theorem dL_law_1238 : decode cL_law 1238 = .ok (.if_icmp .eq 54, 3) := by decide +kernel
theorem dL_law_1241 : decode cL_law 1241 = .ok (.iconst 0, 1) := by decide +kernel
theorem dL_law_1242 : decode cL_law 1242 = .ok (.ireturn, 1) := by decide +kernel
theorem dL_law_1243 : decode cL_law 1243 = .ok (.aload_n 1, 1) := by decide +kernel
theorem dL_law_1244 : decode cL_law 1244 = .ok (.invokevirtual 152, 3) := by decide +kernel
theorem dL_law_1247 : decode cL_law 1247 = .ok (.aload_n 2, 1) := by decide +kernel
theorem dL_law_1248 : decode cL_law 1248 = .ok (.invokevirtual 155, 3) := by decide +kernel
theorem dL_law_1251 : decode cL_law 1251 = .ok (.if_icmp .eq 41, 3) := by decide +kernel
theorem dL_law_1254 : decode cL_law 1254 = .ok (.iconst 0, 1) := by decide +kernel
theorem dL_law_1255 : decode cL_law 1255 = .ok (.ireturn, 1) := by decide +kernel
theorem dL_law_1256 : decode cL_law 1256 = .ok (.aload_n 1, 1) := by decide +kernel
theorem dL_law_1257 : decode cL_law 1257 = .ok (.invokevirtual 156, 3) := by decide +kernel
theorem dL_law_1260 : decode cL_law 1260 = .ok (.aload_n 2, 1) := by decide +kernel
theorem dL_law_1261 : decode cL_law 1261 = .ok (.invokevirtual 159, 3) := by decide +kernel
theorem dL_law_1264 : decode cL_law 1264 = .ok (.if_icmp .eq 28, 3) := by decide +kernel
theorem dL_law_1267 : decode cL_law 1267 = .ok (.iconst 0, 1) := by decide +kernel
theorem dL_law_1268 : decode cL_law 1268 = .ok (.ireturn, 1) := by decide +kernel
theorem dL_law_1269 : decode cL_law 1269 = .ok (.aload_n 1, 1) := by decide +kernel
theorem dL_law_1270 : decode cL_law 1270 = .ok (.aload_n 0, 1) := by decide +kernel
theorem dL_law_1271 : decode cL_law 1271 = .ok (.iload_n 3, 1) := by decide +kernel
theorem dL_law_1272 : decode cL_law 1272 = .ok (.iconst 1, 1) := by decide +kernel
theorem dL_law_1273 : decode cL_law 1273 = .ok (.iadd, 1) := by decide +kernel
theorem dL_law_1274 : decode cL_law 1274 = .ok (.iaload, 1) := by decide +kernel
theorem dL_law_1275 : decode cL_law 1275 = .ok (.invokevirtual 160, 3) := by decide +kernel
theorem dL_law_1278 : decode cL_law 1278 = .ok (.aload_n 2, 1) := by decide +kernel
theorem dL_law_1279 : decode cL_law 1279 = .ok (.aload_n 0, 1) := by decide +kernel
theorem dL_law_1280 : decode cL_law 1280 = .ok (.iload_n 3, 1) := by decide +kernel
theorem dL_law_1281 : decode cL_law 1281 = .ok (.iconst 1, 1) := by decide +kernel
theorem dL_law_1282 : decode cL_law 1282 = .ok (.iadd, 1) := by decide +kernel
theorem dL_law_1283 : decode cL_law 1283 = .ok (.iaload, 1) := by decide +kernel
theorem dL_law_1284 : decode cL_law 1284 = .ok (.invokevirtual 163, 3) := by decide +kernel
theorem dL_law_1287 : decode cL_law 1287 = .ok (.if_icmp .eq 5, 3) := by decide +kernel
theorem dL_law_1290 : decode cL_law 1290 = .ok (.iconst 0, 1) := by decide +kernel
theorem dL_law_1291 : decode cL_law 1291 = .ok (.ireturn, 1) := by decide +kernel
theorem dL_law_1292 : decode cL_law 1292 = .ok (.iinc 3 5, 3) := by decide +kernel
theorem dL_law_1295 : decode cL_law 1295 = .ok (.goto (-1277), 3) := by decide +kernel
theorem dL_law_1298 : decode cL_law 1298 = .ok (.iconst 1, 1) := by decide +kernel
theorem dL_law_1299 : decode cL_law 1299 = .ok (.ireturn, 1) := by decide +kernel
end
section
/-! the picture of the worlds: cells by number, addresses by a function that keeps them apart, contents by two functions of numbers -/
abbrev wE : Type := Nat → (Nat → Int32) → (Nat → Int64) → va_E
abbrev St : Type := (Nat → Nat → Int32) × (Nat → Nat → Int64)
def sI (S : St) (k i : Nat) (v : Int32) : St := (va_up S.1 k (upd (S.1 k) i v), S.2)
def sL (S : St) (k i : Nat) (v : Int64) : St := (S.1, va_up S.2 k (va_up (S.2 k) i v))
def wsL (N : Nat) (E : wE) (P : Nat → Nat) (S : St) : va_W := (List.range N).map fun k => (P k, E k (S.1 k) (S.2 k))
def PA (N : Nat) (P : Nat → Nat) : Nat → Prop := fun q => ∃ k, k < N ∧ q = P k
def PInj (N : Nat) (P : Nat → Nat) : Prop := ∀ i j, i < N → j < N → P i = P j → i = j
theorem ws_at {N : Nat} {E : wE} {P : Nat → Nat} {S : St} {k : Nat} (h : k < N) {e : va_E} (he : E k (S.1 k) (S.2 k) = e) : (wsL N E P S)[k]? = some (P k, e) := by
  subst he
  simp [wsL, h]
theorem ws_some {N : Nat} {E : wE} {P : Nat → Nat} {S : St} {k : Nat} {q : Nat × va_E} (h : (wsL N E P S)[k]? = some q) : k < N ∧ q = (P k, E k (S.1 k) (S.2 k)) := by
  have hk : k < N := by
    have := (List.getElem?_eq_some_iff.mp h).1
    simpa [wsL] using this
  rw [ws_at hk rfl] at h
  exact ⟨hk, (Option.some.inj h).symm⟩
theorem ws_D {N : Nat} {E : wE} {P : Nat → Nat} {S : St} (hI : PInj N P) : va_D (PA N P) (wsL N E P S) := by
  refine ⟨fun i j p q hi hj hpq => ?_, fun k q hk => ?_⟩
  · obtain ⟨h1, rfl⟩ := ws_some hi
    obtain ⟨h2, rfl⟩ := ws_some hj
    exact hI i j h1 h2 hpq
  · obtain ⟨h1, rfl⟩ := ws_some hk
    exact ⟨k, h1, rfl⟩
theorem ws_up {N : Nat} {E : wE} {P : Nat → Nat} {S S' : St} {k : Nat} {e : va_E} (hk : k < N) (he : E k (S'.1 k) (S'.2 k) = e) (ho : ∀ j, j ≠ k → S'.1 j = S.1 j ∧ S'.2 j = S.2 j) : (wsL N E P S).set k (P k, e) = wsL N E P S' := by
  apply List.ext_getElem?
  intro j
  by_cases hj : j < N
  · rw [ws_at (S := S') hj rfl]
    by_cases hjk : j = k
    · subst hjk
      rw [List.getElem?_set_self (by simpa [wsL] using hk), he]
    · rw [List.getElem?_set_ne (Ne.symm hjk), ws_at hj rfl, (ho j hjk).1, (ho j hjk).2]
  · rw [List.getElem?_eq_none (by simpa [wsL] using Nat.le_of_not_lt hj), List.getElem?_eq_none (by simpa [wsL] using Nat.le_of_not_lt hj)]
theorem sI_o (S : St) (k i : Nat) (v : Int32) : ∀ j, j ≠ k → (sI S k i v).1 j = S.1 j ∧ (sI S k i v).2 j = S.2 j := fun j h => ⟨by show va_up S.1 k _ j = _; simp [va_up, h], rfl⟩
theorem sL_o (S : St) (k i : Nat) (v : Int64) : ∀ j, j ≠ k → (sL S k i v).1 j = S.1 j ∧ (sL S k i v).2 j = S.2 j := fun j h => ⟨rfl, by show va_up S.2 k _ j = _; simp [va_up, h]⟩
theorem sI_k (S : St) (k i : Nat) (v : Int32) : (sI S k i v).1 k = upd (S.1 k) i v := by show va_up S.1 k _ k = _; simp [va_up]
theorem sL_k (S : St) (k i : Nat) (v : Int64) : (sL S k i v).2 k = va_up (S.2 k) i v := by show va_up S.2 k _ k = _; simp [va_up]
theorem sI_1 (S : St) (k i a b : Nat) (v : Int32) : (sI S k i v).1 a b = if a = k ∧ b = i then v else S.1 a b := by
  by_cases h : a = k
  · subst h
    rw [sI_k]
    simp [upd]
  · rw [(sI_o S k i v a h).1]
    simp [h]
theorem sI_2 (S : St) (k i : Nat) (v : Int32) : (sI S k i v).2 = S.2 := rfl
theorem sL_1 (S : St) (k i : Nat) (v : Int64) : (sL S k i v).1 = S.1 := rfl
theorem sL_2 (S : St) (k i a b : Nat) (v : Int64) : (sL S k i v).2 a b = if a = k ∧ b = i then v else S.2 a b := by
  by_cases h : a = k
  · subst h
    rw [sL_k]
    simp [va_up]
  · rw [(sL_o S k i v a h).2]
    simp [h]
abbrev jr (x y : Int32) : Int32 := x - x / y * y
abbrev jrl (x y : Int64) : Int64 := x - x / y * y
def bz (v : Int32) : Prop := narrow .boolean (.int v) = .int v ∧ fits .boolean (.int v) = true
theorem bz_0 : bz 0 := by constructor <;> decide
theorem bz_1 : bz 1 := by constructor <;> decide
/-- X's cells -/
def kdX (k : Nat) : Nat := ([8, 6, 12, 1, 1, 1, 1, 1, 1, 1, 1, 6, 12, 1, 1, 1, 1, 1, 1, 1, 1, 0, 10, 1, 0, 10, 1, 7, 10, 3, 5, 10, 10, 13, 2, 1, 10, 2, 1, 10, 2, 1, 10, 2, 1, 10, 2, 1, 10, 2, 1, 10, 4, 10, 1, 10] : List Nat).getD k 99
def alX (k : Nat) : Nat := ([0, 0, 8, 0, 0, 0, 0, 0, 0, 0, 0, 0, 8, 0, 0, 0, 0, 0, 0, 0, 0, 0, 399, 0, 0, 399, 0, 0, 80, 0, 0, 14, 42, 6, 0, 0, 40, 0, 0, 40, 0, 0, 40, 0, 0, 40, 0, 0, 40, 0, 0, 40, 0, 999, 0, 1000] : List Nat).getD k 0
def flX0 (P : Nat → Nat) (k : Nat) (f : Nat → Int32) (g : Nat → Int64) : List Value := [.ref (P (k + 1)), .int (f 1), .int (f 2), .ref (P (k + 2))]
def flX1 (P : Nat → Nat) (k : Nat) (f : Nat → Int32) (g : Nat → Int64) : List Value := [.int (f 0), .int (f 1), .int (f 2), .int (f 3), .int (f 4), .int (f 5), .int (f 6)]
def flX2 (P : Nat → Nat) (k : Nat) (f : Nat → Int32) (g : Nat → Int64) : List Value := [.int (f 0), .ref (P (k + 1)), .ref (P (k + 2)), .int (f 3)]
def flX3 (P : Nat → Nat) (k : Nat) (f : Nat → Int32) (g : Nat → Int64) : List Value := [.long (g 0), .long (g 1)]
def flX4 (P : Nat → Nat) (k : Nat) (f : Nat → Int32) (g : Nat → Int64) : List Value := [.ref (P 53), .int (f 1)]
def flX5 (P : Nat → Nat) (k : Nat) (f : Nat → Int32) (g : Nat → Int64) : List Value := [.ref (P 31), .ref (P 32), .int (f 2)]
def flX6 (P : Nat → Nat) (k : Nat) (f : Nat → Int32) (g : Nat → Int64) : List Value := [.ref (P (k + 1)), .int (f 1)]
def flX7 (P : Nat → Nat) (k : Nat) (f : Nat → Int32) (g : Nat → Int64) : List Value := [.ref (P 28), .int (f 1), .int (f 2), .long (g 3)]
def flX8 (P : Nat → Nat) (k : Nat) (f : Nat → Int32) (g : Nat → Int64) : List Value := [.ref (P 1), .ref (P 21), .ref (P 27), .ref (P 29), .ref (P 30), .ref (P 33), .ref (P 11), .ref (P 24), .int (f 8), .ref (P 52), .ref (P 54), .ref (P 55)]
def encX (P : Nat → Nat) (cA : Nat → ClassId) : wE := fun k f g => match kdX k with
  | 0 => .inr (0, flX0 P k f g)
  | 1 => .inr (1, flX1 P k f g)
  | 2 => .inr (2, flX2 P k f g)
  | 3 => .inr (3, flX3 P k f g)
  | 4 => .inr (4, flX4 P k f g)
  | 5 => .inr (5, flX5 P k f g)
  | 6 => .inr (6, flX6 P k f g)
  | 7 => .inr (7, flX7 P k f g)
  | 8 => .inr (8, flX8 P k f g)
  | 10 => .inl (cA 0, alX k, .inl f)
  | 12 => .inl (cA 2, 8, .inr (.inr (.inr (.inr (fun j => some (P (k + 1 + j)))))))
  | 13 => .inl (cA 3, 6, .inr (.inr (.inr (.inr (fun j => some (P (k + 1 + 3 * j)))))))
  | _ => .inr (99, [])
theorem eX0 {P : Nat → Nat} {cA : Nat → ClassId} {k : Nat} (h : kdX k = 0) (f : Nat → Int32) (g : Nat → Int64) : encX P cA k f g = .inr (0, flX0 P k f g) := by unfold encX; rw [h]; rfl
theorem eX1 {P : Nat → Nat} {cA : Nat → ClassId} {k : Nat} (h : kdX k = 1) (f : Nat → Int32) (g : Nat → Int64) : encX P cA k f g = .inr (1, flX1 P k f g) := by unfold encX; rw [h]; rfl
theorem eX2 {P : Nat → Nat} {cA : Nat → ClassId} {k : Nat} (h : kdX k = 2) (f : Nat → Int32) (g : Nat → Int64) : encX P cA k f g = .inr (2, flX2 P k f g) := by unfold encX; rw [h]; rfl
theorem eX3 {P : Nat → Nat} {cA : Nat → ClassId} {k : Nat} (h : kdX k = 3) (f : Nat → Int32) (g : Nat → Int64) : encX P cA k f g = .inr (3, flX3 P k f g) := by unfold encX; rw [h]; rfl
theorem eX4 {P : Nat → Nat} {cA : Nat → ClassId} {k : Nat} (h : kdX k = 4) (f : Nat → Int32) (g : Nat → Int64) : encX P cA k f g = .inr (4, flX4 P k f g) := by unfold encX; rw [h]; rfl
theorem eX5 {P : Nat → Nat} {cA : Nat → ClassId} {k : Nat} (h : kdX k = 5) (f : Nat → Int32) (g : Nat → Int64) : encX P cA k f g = .inr (5, flX5 P k f g) := by unfold encX; rw [h]; rfl
theorem eX6 {P : Nat → Nat} {cA : Nat → ClassId} {k : Nat} (h : kdX k = 6) (f : Nat → Int32) (g : Nat → Int64) : encX P cA k f g = .inr (6, flX6 P k f g) := by unfold encX; rw [h]; rfl
theorem eX7 {P : Nat → Nat} {cA : Nat → ClassId} {k : Nat} (h : kdX k = 7) (f : Nat → Int32) (g : Nat → Int64) : encX P cA k f g = .inr (7, flX7 P k f g) := by unfold encX; rw [h]; rfl
theorem eX8 {P : Nat → Nat} {cA : Nat → ClassId} {k : Nat} (h : kdX k = 8) (f : Nat → Int32) (g : Nat → Int64) : encX P cA k f g = .inr (8, flX8 P k f g) := by unfold encX; rw [h]; rfl
theorem eX10 {P : Nat → Nat} {cA : Nat → ClassId} {k : Nat} (h : kdX k = 10) (f : Nat → Int32) (g : Nat → Int64) : encX P cA k f g = .inl (cA 0, alX k, .inl f) := by unfold encX; rw [h]; rfl
theorem eX12 {P : Nat → Nat} {cA : Nat → ClassId} {k : Nat} (h : kdX k = 12) (f : Nat → Int32) (g : Nat → Int64) : encX P cA k f g = .inl (cA 2, 8, .inr (.inr (.inr (.inr (fun j => some (P (k + 1 + j))))))) := by unfold encX; rw [h]; rfl
theorem eX13 {P : Nat → Nat} {cA : Nat → ClassId} {k : Nat} (h : kdX k = 13) (f : Nat → Int32) (g : Nat → Int64) : encX P cA k f g = .inl (cA 3, 6, .inr (.inr (.inr (.inr (fun j => some (P (k + 1 + 3 * j))))))) := by unfold encX; rw [h]; rfl
theorem kX_lt {k c : Nat} (h : kdX k = c) (hc : c ≠ 99 := by decide) : k < 56 := by
  rcases Nat.lt_or_ge k 56 with q | q
  · exact q
  · refine absurd ?_ hc
    rw [← h]
    show List.getD _ k 99 = 99
    rw [List.getD_eq_getElem?_getD, List.getElem?_eq_none (by simpa using q)]
    rfl
theorem kX_all (Q : Nat → Bool) (h : (List.range 56).all Q = true) {k : Nat} (hk : k < 56) : Q k = true := List.all_eq_true.mp h k (List.mem_range.mpr hk)
theorem kd0_1 {k : Nat} (h : kdX k = 0) : kdX (k + 1) = 10 := by
  have := kX_all (fun k => kdX k != 0 || kdX (k + 1) == 10) (by decide +kernel) (kX_lt h)
  simpa [h] using this
theorem kd0_2 {k : Nat} (h : kdX k = 0) : kdX (k + 2) = 1 := by
  have := kX_all (fun k => kdX k != 0 || kdX (k + 2) == 1) (by decide +kernel) (kX_lt h)
  simpa [h] using this
theorem kd2_1 {k : Nat} (h : kdX k = 2) : kdX (k + 1) = 1 := by
  have := kX_all (fun k => kdX k != 2 || kdX (k + 1) == 1) (by decide +kernel) (kX_lt h)
  simpa [h] using this
theorem kd2_2 {k : Nat} (h : kdX k = 2) : kdX (k + 2) = 10 := by
  have := kX_all (fun k => kdX k != 2 || kdX (k + 2) == 10) (by decide +kernel) (kX_lt h)
  simpa [h] using this
theorem kd6_1 {k : Nat} (h : kdX k = 6) : kdX (k + 1) = 12 := by
  have := kX_all (fun k => kdX k != 6 || kdX (k + 1) == 12) (by decide +kernel) (kX_lt h)
  simpa [h] using this
theorem vp_in_lt {i : Int32} {n : Nat} (h : vp_in i n) : i.toNatClampNeg < n := Nat.not_le.mp fun q => h (Or.inr q)
theorem kd12_e {k : Nat} (h : kdX k = 12) {i : Int32} (hi : vp_in i 8) : kdX (k + 1 + i.toNatClampNeg) = 1 := by
  have h1 := kX_all (fun k => kdX k != 12 || (List.range 8).all fun j => kdX (k + 1 + j) == 1) (by decide +kernel) (kX_lt h)
  have h2 : (List.range 8).all (fun j => kdX (k + 1 + j) == 1) = true := by simpa [h] using h1
  have h3 := List.all_eq_true.mp h2 _ (List.mem_range.mpr (vp_in_lt hi))
  simpa using h3
theorem kd13_e {k : Nat} (h : kdX k = 13) {i : Int32} (hi : vp_in i 6) : kdX (k + 1 + 3 * i.toNatClampNeg) = 2 := by
  have h1 := kX_all (fun k => kdX k != 13 || (List.range 6).all fun j => kdX (k + 1 + 3 * j) == 2) (by decide +kernel) (kX_lt h)
  have h2 : (List.range 6).all (fun j => kdX (k + 1 + 3 * j) == 2) = true := by simpa [h] using h1
  have h3 := List.all_eq_true.mp h2 _ (List.mem_range.mpr (vp_in_lt hi))
  simpa using h3
/-- M's cells -/
def kdM (k : Nat) : Nat := ([9, 10, 10, 10, 10, 10, 10, 10, 10, 10, 11, 11, 11, 10, 10, 10, 10, 10, 10, 10, 10, 10, 10, 10, 10] : List Nat).getD k 99
def alM (k : Nat) : Nat := ([0, 8, 8, 8, 1000, 1000, 1000, 1000, 1000, 400, 41, 21, 4, 80, 3, 6, 6, 6, 6, 6, 240, 8, 8, 8, 400] : List Nat).getD k 0
def flM9 (P : Nat → Nat) (k : Nat) (f : Nat → Int32) (g : Nat → Int64) : List Value := [.int (f 0), .ref (P 1), .ref (P 2), .ref (P 3), .int (f 4), .int (f 5), .int (f 6), .ref (P 4), .ref (P 5), .ref (P 6), .ref (P 7), .int (f 11), .ref (P 8), .int (f 13), .int (f 14), .int (f 15), .ref (P 9), .ref (P 10), .ref (P 11), .ref (P 12), .ref (P 13), .int (f 21), .int (f 22), .int (f 23), .long (g 24), .long (g 25), .int (f 26), .long (g 27), .long (g 28), .ref (P 14), .ref (P 15), .ref (P 16), .ref (P 17), .ref (P 18), .ref (P 19), .ref (P 20), .int (f 36), .int (f 37), .ref (P 21), .ref (P 22), .ref (P 23), .int (f 41), .int (f 42), .ref (P 24)]
def encM (P : Nat → Nat) (cA : Nat → ClassId) : wE := fun k f g => match kdM k with
  | 9 => .inr (9, flM9 P k f g)
  | 10 => .inl (cA 0, alM k, .inl f)
  | 11 => .inl (cA 1, alM k, .inl f)
  | _ => .inr (99, [])
theorem eM9 {P : Nat → Nat} {cA : Nat → ClassId} {k : Nat} (h : kdM k = 9) (f : Nat → Int32) (g : Nat → Int64) : encM P cA k f g = .inr (9, flM9 P k f g) := by unfold encM; rw [h]; rfl
theorem eM10 {P : Nat → Nat} {cA : Nat → ClassId} {k : Nat} (h : kdM k = 10) (f : Nat → Int32) (g : Nat → Int64) : encM P cA k f g = .inl (cA 0, alM k, .inl f) := by unfold encM; rw [h]; rfl
theorem eM11 {P : Nat → Nat} {cA : Nat → ClassId} {k : Nat} (h : kdM k = 11) (f : Nat → Int32) (g : Nat → Int64) : encM P cA k f g = .inl (cA 1, alM k, .inl f) := by unfold encM; rw [h]; rfl
theorem kM_lt {k c : Nat} (h : kdM k = c) (hc : c ≠ 99 := by decide) : k < 25 := by
  rcases Nat.lt_or_ge k 25 with q | q
  · exact q
  · refine absurd ?_ hc
    rw [← h]
    show List.getD _ k 99 = 99
    rw [List.getD_eq_getElem?_getD, List.getElem?_eq_none (by simpa using q)]
    rfl
end
section
/-! words: one list of all that the tables say and that a callee may be given -/
def G : List Cond := lw_tbl.filter goodWord
theorem mem_G {w : Cond} (i : Nat) (h : lw_tbl[i]? = some w) (hg : goodWord w = true) : w ∈ G := List.mem_filter.mpr ⟨List.mem_of_getElem? h, hg⟩
theorem G_tbl {w : Cond} (h : w ∈ G) : w ∈ lw_tbl := (List.mem_filter.mp h).1
theorem good_G {w : Cond} (h : w ∈ G) : w ∈ G ∧ ((w.onTables && w.keeps) = true ∨ ∃ ty, w = .arrayClass ty) := ⟨h, good_of_word (List.mem_filter.mp h).2⟩
abbrev wW (y : MethodName) (b : ByteArray) (n : Nat) (r : Option FieldType) : List Cond := Cond.code y b n r :: G
theorem good_W {y : MethodName} {b : ByteArray} {n : Nat} {r : Option FieldType} (h5 : Cond.code y b n r ∈ G) : GoodIn G (wW y b n r) := by
  intro w h
  rcases List.mem_cons.mp h with h | h
  · subst h; exact good_G h5
  · exact good_G h
theorem good_V {own C : String} {idx : Nat} {y : MethodName} {b : ByteArray} {n : Nat} {r : Option FieldType} (h1 : Cond.methodLink own idx y ∈ G) (h2 : Cond.instanceMethod y ∈ G) (h3 : Cond.selects C y y ∈ G) (h4 : Cond.initialized C ∈ G) (h5 : Cond.code y b n r ∈ G) : GoodIn G (wsV own idx C y (wW y b n r)) := by
  intro w h
  unfold wsV at h
  rcases List.mem_append.mp h with h | h
  · simp only [List.mem_cons, List.not_mem_nil, or_false] at h
    rcases h with h | h | h | h
    · subst h; exact good_G h1
    · subst h; exact good_G h2
    · subst h; exact good_G h3
    · subst h; exact good_G h4
  · exact good_W h5 w h
theorem good_S {own : String} {idx : Nat} {y : MethodName} {b : ByteArray} {n : Nat} {r : Option FieldType} (h1 : Cond.methodLink own idx y ∈ G) (h2 : Cond.static y ∈ G) (h4 : Cond.initialized y.cls ∈ G) (h5 : Cond.code y b n r ∈ G) : GoodIn G (va_wsS own idx y (wW y b n r)) := by
  intro w h
  unfold va_wsS at h
  rcases List.mem_append.mp h with h | h
  · simp only [List.mem_cons, List.not_mem_nil, or_false] at h
    rcases h with h | h | h
    · subst h; exact good_G h1
    · subst h; exact good_G h2
    · subst h; exact good_G h4
  · exact good_W h5 w h
section RWS
variable {p : Program} {l : Launch} {e : Env} {R : Room} {s : State} {m : MethodId} {args : Array Value} {below : List Frame} {meth : Method} {c : Code} {H : Heap} {locs : List Loc} {cells slots : Nat} {Q : State → Prop}
variable {cc : ByteArray} {pc : Nat} {ls : Array Slot} {rest : List Value} {D : va_G} {tys : List (ClassId × FieldType)} {N : Nat} {E : wE} {P : Nat → Nat} {S : St} {k : Nat}
theorem g_get (hx : p.tables.exec = Jvm.exec) (hb : c.code = cc) {own C : String} {T : u_T} {n ci index : Nat} (hts : ∀ w ∈ G, w.before args s = true) (hin : ∀ w ∈ u_ws C T n, w ∈ G) (hown : s.vm.findClass own = some m.cls) (hK : va_K D vwCl tys s) (hP : va_P D vwCl (wsL N E P S) H) (hk : k < N) {fl : (Nat → Int32) → (Nat → Int64) → List Value} (he : ∀ f g, E k f g = .inr (ci, fl f g)) (hc : vwCl[ci]? = some (C, T, n)) (i : Nat) (hi : i < n) (hl : Cond.fieldLink own index C (T i).2.1 (T i).2.2.1 ∈ G) (hTC : (T i).1 = C) {v : Value} (hv : (fl (S.1 k) (S.2 k))[i]? = some v) (hdg : decode cc pc = .ok (.getfield index, 3))
    (kk : W p l e R s m args below meth c H locs cells slots Q (F0 m (pc + 3) ls (v :: rest))) : W p l e R s m args below meth c H locs cells slots Q (F0 m pc ls (.ref (P k) :: rest)) :=
  va_get (own := own) (C := C) (T := T) (N := n) (ref := C) hx hb hts hin hown hK hP k (ws_at hk (he _ _)) hc i hi (hts _ hl) (fun x h => by rw [hTC] at h; exact h) hv hdg kk
theorem g_putI (hx : p.tables.exec = Jvm.exec) (hb : c.code = cc) {own C : String} {T : u_T} {n ci index : Nat} (hts : ∀ w ∈ G, w.before args s = true) (hin : ∀ w ∈ u_ws C T n, w ∈ G) (ty0 : Nat → FieldType) (hty : ∀ k, k < n → parseFieldDescriptor (T k).2.2.1 = some (ty0 k)) (hnm : ∀ a, a < n → ∀ b, b < n → a ≠ b → (T a).2.1 ≠ (T b).2.1) (hown : s.vm.findClass own = some m.cls) (hK : va_K D vwCl tys s) (hI : PInj N P) (hP : va_P D vwCl (wsL N E P S) H) (hS : va_S (PA N P) s.heap H locs) (hk : k < N) {fl : (Nat → Int32) → (Nat → Int64) → List Value} (he : ∀ f g, E k f g = .inr (ci, fl f g)) (hc : vwCl[ci]? = some (C, T, n)) (i : Nat) (hi : i < n) (hl : Cond.fieldLink own index C (T i).2.1 (T i).2.2.1 ∈ G) (hTC : (T i).1 = C) (hfin : (T i).2.2.2 = false) {ty : FieldType} {x : Int32} (hd : parseFieldDescriptor (T i).2.2.1 = some ty) (hn : narrow ty (.int x) = .int x) (hfit : fits ty (.int x) = true) (hlen : i < (fl (S.1 k) (S.2 k)).length) (hset : fl (upd (S.1 k) i x) (S.2 k) = (fl (S.1 k) (S.2 k)).set i (.int x)) {B : St → Prop} (h : ∀ S1 : St, S1 = sI S k i x → B S1)
    (hdg : decode cc pc = .ok (.putfield index, 3)) (kk : ∀ (S1 : St) (H1 : Heap) (locs1 : List Loc), B S1 → va_P D vwCl (wsL N E P S1) H1 → va_S (PA N P) s.heap H1 locs1 → W p l e R s m args below meth c H1 locs1 cells slots Q (F0 m (pc + 3) ls rest)) : W p l e R s m args below meth c H locs cells slots Q (F0 m pc ls (.int x :: .ref (P k) :: rest)) := by
  have hw : (wsL N E P S).set k (P k, .inr (ci, (fl (S.1 k) (S.2 k)).set i (.int x))) = wsL N E P (sI S k i x) := ws_up hk (by rw [he, sI_k, sI_2, hset]) (sI_o S k i x)
  refine va_put (own := own) (C := C) (T := T) (N := n) (ref := C) hx hb hts hin ty0 hty hnm hown hK hP (ws_D hI) hS k (ws_at hk (he _ _)) hc i hi (hts _ hl) (fun x h => by rw [hTC] at h; exact h) hfin hd hn hfit hlen hdg (fun H1 locs1 hP1 _ hS1 => ?_)
  rw [hw] at hP1
  exact kk _ H1 locs1 (h _ rfl) hP1 hS1
theorem g_putL (hx : p.tables.exec = Jvm.exec) (hb : c.code = cc) {own C : String} {T : u_T} {n ci index : Nat} (hts : ∀ w ∈ G, w.before args s = true) (hin : ∀ w ∈ u_ws C T n, w ∈ G) (ty0 : Nat → FieldType) (hty : ∀ k, k < n → parseFieldDescriptor (T k).2.2.1 = some (ty0 k)) (hnm : ∀ a, a < n → ∀ b, b < n → a ≠ b → (T a).2.1 ≠ (T b).2.1) (hown : s.vm.findClass own = some m.cls) (hK : va_K D vwCl tys s) (hI : PInj N P) (hP : va_P D vwCl (wsL N E P S) H) (hS : va_S (PA N P) s.heap H locs) (hk : k < N) {fl : (Nat → Int32) → (Nat → Int64) → List Value} (he : ∀ f g, E k f g = .inr (ci, fl f g)) (hc : vwCl[ci]? = some (C, T, n)) (i : Nat) (hi : i < n) (hl : Cond.fieldLink own index C (T i).2.1 (T i).2.2.1 ∈ G) (hTC : (T i).1 = C) (hfin : (T i).2.2.2 = false) {ty : FieldType} {x : Int64} (hd : parseFieldDescriptor (T i).2.2.1 = some ty) (hn : narrow ty (.long x) = .long x) (hfit : fits ty (.long x) = true) (hlen : i < (fl (S.1 k) (S.2 k)).length) (hset : fl (S.1 k) (va_up (S.2 k) i x) = (fl (S.1 k) (S.2 k)).set i (.long x)) {B : St → Prop} (h : ∀ S1 : St, S1 = sL S k i x → B S1)
    (hdg : decode cc pc = .ok (.putfield index, 3)) (kk : ∀ (S1 : St) (H1 : Heap) (locs1 : List Loc), B S1 → va_P D vwCl (wsL N E P S1) H1 → va_S (PA N P) s.heap H1 locs1 → W p l e R s m args below meth c H1 locs1 cells slots Q (F0 m (pc + 3) ls rest)) : W p l e R s m args below meth c H locs cells slots Q (F0 m pc ls (.long x :: .ref (P k) :: rest)) := by
  have hw : (wsL N E P S).set k (P k, .inr (ci, (fl (S.1 k) (S.2 k)).set i (.long x))) = wsL N E P (sL S k i x) := ws_up hk (by rw [he, sL_k, sL_1, hset]) (sL_o S k i x)
  refine va_put (own := own) (C := C) (T := T) (N := n) (ref := C) hx hb hts hin ty0 hty hnm hown hK hP (ws_D hI) hS k (ws_at hk (he _ _)) hc i hi (hts _ hl) (fun x h => by rw [hTC] at h; exact h) hfin hd hn hfit hlen hdg (fun H1 locs1 hP1 _ hS1 => ?_)
  rw [hw] at hP1
  exact kk _ H1 locs1 (h _ rfl) hP1 hS1
theorem g_ald (hx : p.tables.exec = Jvm.exec) (hb : c.code = cc) (hK : va_K D vwCl tys s) (hP : va_P D vwCl (wsL N E P S) H) (hk : k < N) {cA : ClassId} {n : Nat} (t0 : Nat) (he : ∀ f g, E k f g = .inl (cA, n, .inl f)) (ht : tys[t0]? = some (cA, .int)) {i : Int32} (hin : vp_in i n) (hdg : decode cc pc = .ok (.iaload, 1))
    (kk : W p l e R s m args below meth c H locs cells slots Q (F0 m (pc + 1) ls (.int (S.1 k i.toNatClampNeg) :: rest))) : W p l e R s m args below meth c H locs cells slots Q (F0 m pc ls (.int i :: .ref (P k) :: rest)) :=
  va_iald hx hb hK hP k t0 (ws_at hk (he _ _)) ht hin hdg kk
theorem g_cald (hx : p.tables.exec = Jvm.exec) (hb : c.code = cc) (hK : va_K D vwCl tys s) (hP : va_P D vwCl (wsL N E P S) H) (hk : k < N) {cA : ClassId} {n : Nat} (t0 : Nat) (he : ∀ f g, E k f g = .inl (cA, n, .inl f)) (ht : tys[t0]? = some (cA, .char)) {i : Int32} (hin : vp_in i n) (hdg : decode cc pc = .ok (.caload, 1))
    (kk : W p l e R s m args below meth c H locs cells slots Q (F0 m (pc + 1) ls (.int (S.1 k i.toNatClampNeg) :: rest))) : W p l e R s m args below meth c H locs cells slots Q (F0 m pc ls (.int i :: .ref (P k) :: rest)) :=
  va_cald hx hb hK hP k t0 (ws_at hk (he _ _)) ht hin hdg kk
theorem g_ast (hx : p.tables.exec = Jvm.exec) (hb : c.code = cc) (hK : va_K D vwCl tys s) (hI : PInj N P) (hP : va_P D vwCl (wsL N E P S) H) (hS : va_S (PA N P) s.heap H locs) (hk : k < N) {cA : ClassId} {n : Nat} (t0 : Nat) (he : ∀ f g, E k f g = .inl (cA, n, .inl f)) (ht : tys[t0]? = some (cA, .int)) {i x : Int32} (hin : vp_in i n) {B : St → Prop} (h : ∀ S1 : St, S1 = sI S k i.toNatClampNeg x → B S1) (hdg : decode cc pc = .ok (.iastore, 1))
    (kk : ∀ (S1 : St) (H1 : Heap) (locs1 : List Loc), B S1 → va_P D vwCl (wsL N E P S1) H1 → va_S (PA N P) s.heap H1 locs1 → W p l e R s m args below meth c H1 locs1 cells slots Q (F0 m (pc + 1) ls rest)) : W p l e R s m args below meth c H locs cells slots Q (F0 m pc ls (.int x :: .int i :: .ref (P k) :: rest)) := by
  have hw : (wsL N E P S).set k (P k, .inl (cA, n, .inl (upd (S.1 k) i.toNatClampNeg x))) = wsL N E P (sI S k i.toNatClampNeg x) := ws_up hk (by rw [he, sI_k]) (sI_o S k _ x)
  refine va_iast hx hb hK hP (ws_D hI) hS k t0 (ws_at hk (he _ _)) ht hin hdg (fun H1 locs1 hP1 _ hS1 => ?_)
  rw [hw] at hP1
  exact kk _ H1 locs1 (h _ rfl) hP1 hS1
theorem g_alen (hx : p.tables.exec = Jvm.exec) (hb : c.code = cc) (hK : va_K D vwCl tys s) (hP : va_P D vwCl (wsL N E P S) H) (hk : k < N) {cA : ClassId} {n : Nat} {ty : FieldType} (t0 : Nat) {z : (Nat → Int32) → (Nat → Int64) → ((Nat → Int32) ⊕ (Nat → Int64) ⊕ (Nat → UInt32) ⊕ (Nat → UInt64) ⊕ (Nat → Option Nat))} (he : ∀ f g, E k f g = .inl (cA, n, z f g)) (ht : tys[t0]? = some (cA, ty)) (hdg : decode cc pc = .ok (.arraylength, 1))
    (kk : W p l e R s m args below meth c H locs cells slots Q (F0 m (pc + 1) ls (.int (nI n) :: rest))) : W p l e R s m args below meth c H locs cells slots Q (F0 m pc ls (.ref (P k) :: rest)) :=
  va_alen hx hb hK hP k t0 (ws_at hk (he _ _)) ht rfl hdg kk
theorem g_aldq (hx : p.tables.exec = Jvm.exec) (hb : c.code = cc) (hK : va_K D vwCl tys s) (hP : va_P D vwCl (wsL N E P S) H) (hk : k < N) {cA : ClassId} {C : String} {n : Nat} (t0 : Nat) {r : Nat → Nat} (he : ∀ f g, E k f g = .inl (cA, n, .inr (.inr (.inr (.inr (fun j => some (r j))))))) (ht : tys[t0]? = some (cA, .object C)) {i : Int32} (hin : vp_in i n) (hdg : decode cc pc = .ok (.aaload, 1))
    (kk : W p l e R s m args below meth c H locs cells slots Q (F0 m (pc + 1) ls (.ref (r i.toNatClampNeg) :: rest))) : W p l e R s m args below meth c H locs cells slots Q (F0 m pc ls (.int i :: .ref (P k) :: rest)) :=
  va_aldq hx hb hK hP k t0 (ws_at hk (he _ _)) ht hin hdg kk
section RET
variable {A : Nat → Prop}
theorem g_iret (hx : p.tables.exec = Jvm.exec) (hb : c.code = cc) (hr : meth.sig.returnType = some .int) (hlocks : meth.locks = false) {post : Int32 → St → Prop} {v : Int32} (h : post v S) (hP : va_P D vwCl (wsL N E P S) H) (hS : va_S A s.heap H locs) (hdg : decode cc pc = .ok (.ireturn, 1)) : W p l e R s m args below meth c H locs cells slots (MQ below (va_Qi post (fun u t => va_P D vwCl (wsL N E P u) t.heap) A) args s cells slots A) (F0 m pc ls [.int v]) :=
  W.iret hx hb hr (fun t ht _ => ⟨⟨v, S, rfl, h, by subst ht; exact hP⟩, hS.F ht⟩) hS.2.2 hdg hlocks
theorem g_zret (hx : p.tables.exec = Jvm.exec) (hb : c.code = cc) (hr : meth.sig.returnType = some .boolean) (hlocks : meth.locks = false) {post : Int32 → St → Prop} {v : Int32} (hz : bz v) (h : post v S) (hP : va_P D vwCl (wsL N E P S) H) (hS : va_S A s.heap H locs) (hdg : decode cc pc = .ok (.ireturn, 1)) : W p l e R s m args below meth c H locs cells slots (MQ below (va_Qi post (fun u t => va_P D vwCl (wsL N E P u) t.heap) A) args s cells slots A) (F0 m pc ls [.int v]) :=
  W.zret hx hb hr hz.1 (fun t ht _ => ⟨⟨v, S, rfl, h, by subst ht; exact hP⟩, hS.F ht⟩) hS.2.2 hdg hlocks
theorem g_lret (hx : p.tables.exec = Jvm.exec) (hb : c.code = cc) (hr : meth.sig.returnType = some .long) (hlocks : meth.locks = false) {post : Int64 → St → Prop} {v : Int64} (h : post v S) (hP : va_P D vwCl (wsL N E P S) H) (hS : va_S A s.heap H locs) (hdg : decode cc pc = .ok (.lreturn, 1)) : W p l e R s m args below meth c H locs cells slots (MQ below (va_Ql post (fun u t => va_P D vwCl (wsL N E P u) t.heap) A) args s cells slots A) (F0 m pc ls [.long v]) :=
  W.lret hx hb hr (fun t ht _ => ⟨⟨v, S, rfl, h, by subst ht; exact hP⟩, hS.F ht⟩) hS.2.2 hdg hlocks
theorem g_vret (hx : p.tables.exec = Jvm.exec) (hb : c.code = cc) (hr : meth.sig.returnType = none) (hlocks : meth.locks = false) {post : St → Prop} (h : post S) (hP : va_P D vwCl (wsL N E P S) H) (hS : va_S A s.heap H locs) (hdg : decode cc pc = .ok (.return_, 1)) : W p l e R s m args below meth c H locs cells slots (MQ below (va_Qv post (fun u t => va_P D vwCl (wsL N E P u) t.heap) A) args s cells slots A) (F0 m pc ls []) :=
  W.vret hx hb hr (fun t ht _ => ⟨⟨S, rfl, h, by subst ht; exact hP⟩, hS.F ht⟩) hS.2.2 hdg hlocks
theorem g_aret (hx : p.tables.exec = Jvm.exec) (hb : c.code = cc) {rt : String} (hr : meth.sig.returnType = some (.object rt)) (hlocks : meth.locks = false) {post : Option Nat → St → Prop} {v : Option Nat} (h : post v S) (hP : va_P D vwCl (wsL N E P S) H) (hS : va_S A s.heap H locs) (hdg : decode cc pc = .ok (.areturn, 1)) : W p l e R s m args below meth c H locs cells slots (MQ below (va_Qq post (fun u t => va_P D vwCl (wsL N E P u) t.heap) A) args s cells slots A) (F0 m pc ls [va_rf v]) :=
  W.aret (rt := .object rt) hx hb hr (Or.inl ⟨rt, rfl⟩) (va_rf_or v) (fun t ht _ => ⟨⟨v, S, rfl, h, by subst ht; exact hP⟩, hS.F ht⟩) hS.2.2 hdg hlocks
end RET
end RWS
end
section
theorem mem_Gs {ws : List Cond} (is : List Nat) (h : is.map (fun i => lw_tbl[i]?) = ws.map some) (hg : ws.all goodWord = true) : ∀ w ∈ ws, w ∈ G := by
  intro w hw
  have h1 : some w ∈ is.map (fun i => lw_tbl[i]?) := by rw [h]; exact List.mem_map.mpr ⟨w, hw, rfl⟩
  obtain ⟨i, -, hi⟩ := List.mem_map.mp h1
  exact mem_G i hi (List.all_eq_true.mp hg w hw)
theorem G_se_X1_turns : Cond.selects RX1 yX1_turns yX1_turns ∈ G := mem_G 0 (by decide +kernel) (by decide +kernel)
theorem G_se_X8_addInLowestTerms : Cond.selects RX8 yX8_addInLowestTerms yX8_addInLowestTerms ∈ G := mem_G 1 (by decide +kernel) (by decide +kernel)
theorem G_se_X8_markRing : Cond.selects RX8 yX8_markRing yX8_markRing ∈ G := mem_G 2 (by decide +kernel) (by decide +kernel)
theorem G_se_X0_isSo : Cond.selects RX0 yX0_isSo yX0_isSo ∈ G := mem_G 3 (by decide +kernel) (by decide +kernel)
theorem G_se_X1_wholeDigits : Cond.selects RX1 yX1_wholeDigits yX1_wholeDigits ∈ G := mem_G 4 (by decide +kernel) (by decide +kernel)
theorem G_se_X1_wholeDigit : Cond.selects RX1 yX1_wholeDigit yX1_wholeDigit ∈ G := mem_G 5 (by decide +kernel) (by decide +kernel)
theorem G_se_X7_digitOn : Cond.selects RX7 yX7_digitOn yX7_digitOn ∈ G := mem_G 6 (by decide +kernel) (by decide +kernel)
theorem G_se_X3_takesPeriod : Cond.selects RX3 yX3_takesPeriod yX3_takesPeriod ∈ G := mem_G 7 (by decide +kernel) (by decide +kernel)
theorem G_se_X5_parseCommand : Cond.selects RX5 yX5_parseCommand yX5_parseCommand ∈ G := mem_G 8 (by decide +kernel) (by decide +kernel)
theorem G_se_X8_doCommand : Cond.selects RX8 yX8_doCommand yX8_doCommand ∈ G := mem_G 9 (by decide +kernel) (by decide +kernel)
theorem G_se_X8_holderAt : Cond.selects RX8 yX8_holderAt yX8_holderAt ∈ G := mem_G 10 (by decide +kernel) (by decide +kernel)
theorem G_se_X9_comes : Cond.selects RX9 yX9_comes yX9_comes ∈ G := mem_G 11 (by decide +kernel) (by decide +kernel)
theorem G_se_X9_isFraction : Cond.selects RX9 yX9_isFraction yX9_isFraction ∈ G := mem_G 12 (by decide +kernel) (by decide +kernel)
theorem G_se_X9_comesLowest : Cond.selects RX9 yX9_comesLowest yX9_comesLowest ∈ G := mem_G 13 (by decide +kernel) (by decide +kernel)
theorem G_se_X9_looksAt : Cond.selects RX9 yX9_looksAt yX9_looksAt ∈ G := mem_G 14 (by decide +kernel) (by decide +kernel)
theorem G_se_X9_looks : Cond.selects RX9 yX9_looks yX9_looks ∈ G := mem_G 15 (by decide +kernel) (by decide +kernel)
theorem G_se_X9_kindNow : Cond.selects RX9 yX9_kindNow yX9_kindNow ∈ G := mem_G 16 (by decide +kernel) (by decide +kernel)
theorem G_se_X9_placeOf : Cond.selects RX9 yX9_placeOf yX9_placeOf ∈ G := mem_G 17 (by decide +kernel) (by decide +kernel)
theorem G_se_X9_isParted : Cond.selects RX9 yX9_isParted yX9_isParted ∈ G := mem_G 18 (by decide +kernel) (by decide +kernel)
theorem G_se_X9_blocks : Cond.selects RX9 yX9_blocks yX9_blocks ∈ G := mem_G 19 (by decide +kernel) (by decide +kernel)
theorem G_se_X9_ninesNow : Cond.selects RX9 yX9_ninesNow yX9_ninesNow ∈ G := mem_G 20 (by decide +kernel) (by decide +kernel)
theorem G_se_X9_smallNines : Cond.selects RX9 yX9_smallNines yX9_smallNines ∈ G := mem_G 21 (by decide +kernel) (by decide +kernel)
theorem G_se_X9_greatNines : Cond.selects RX9 yX9_greatNines yX9_greatNines ∈ G := mem_G 22 (by decide +kernel) (by decide +kernel)
theorem G_se_X9_keepsRing : Cond.selects RX9 yX9_keepsRing yX9_keepsRing ∈ G := mem_G 23 (by decide +kernel) (by decide +kernel)
theorem G_se_X9_shiftNow : Cond.selects RX9 yX9_shiftNow yX9_shiftNow ∈ G := mem_G 24 (by decide +kernel) (by decide +kernel)
theorem G_se_X9_isFull : Cond.selects RX9 yX9_isFull yX9_isFull ∈ G := mem_G 25 (by decide +kernel) (by decide +kernel)
theorem G_se_X9_wordOf : Cond.selects RX9 yX9_wordOf yX9_wordOf ∈ G := mem_G 26 (by decide +kernel) (by decide +kernel)
theorem G_se_X9_isSo : Cond.selects RX9 yX9_isSo yX9_isSo ∈ G := mem_G 27 (by decide +kernel) (by decide +kernel)
theorem G_se_X9_wholeSize : Cond.selects RX9 yX9_wholeSize yX9_wholeSize ∈ G := mem_G 28 (by decide +kernel) (by decide +kernel)
theorem G_se_X9_wholeDigit : Cond.selects RX9 yX9_wholeDigit yX9_wholeDigit ∈ G := mem_G 29 (by decide +kernel) (by decide +kernel)
theorem G_se_X9_isNumeral : Cond.selects RX9 yX9_isNumeral yX9_isNumeral ∈ G := mem_G 30 (by decide +kernel) (by decide +kernel)
theorem G_se_X9_readsDigits : Cond.selects RX9 yX9_readsDigits yX9_readsDigits ∈ G := mem_G 31 (by decide +kernel) (by decide +kernel)
theorem G_se_X9_digitAt : Cond.selects RX9 yX9_digitAt yX9_digitAt ∈ G := mem_G 32 (by decide +kernel) (by decide +kernel)
theorem G_se_X9_isAt : Cond.selects RX9 yX9_isAt yX9_isAt ∈ G := mem_G 33 (by decide +kernel) (by decide +kernel)
theorem G_se_X9_command : Cond.selects RX9 yX9_command yX9_command ∈ G := mem_G 34 (by decide +kernel) (by decide +kernel)
theorem G_se_X9_commandOf : Cond.selects RX9 yX9_commandOf yX9_commandOf ∈ G := mem_G 35 (by decide +kernel) (by decide +kernel)
theorem G_se_X9_done : Cond.selects RX9 yX9_done yX9_done ∈ G := mem_G 36 (by decide +kernel) (by decide +kernel)
theorem G_se_X9_looksHeld : Cond.selects RX9 yX9_looksHeld yX9_looksHeld ∈ G := mem_G 37 (by decide +kernel) (by decide +kernel)
theorem G_se_X9_whyNot : Cond.selects RX9 yX9_whyNot yX9_whyNot ∈ G := mem_G 38 (by decide +kernel) (by decide +kernel)
theorem G_in_L : Cond.initialized RL ∈ G := mem_G 39 (by decide +kernel) (by decide +kernel)
theorem G_in_X8 : Cond.initialized RX8 ∈ G := mem_G 40 (by decide +kernel) (by decide +kernel)
theorem G_in_X6 : Cond.initialized RX6 ∈ G := mem_G 41 (by decide +kernel) (by decide +kernel)
theorem G_in_X1 : Cond.initialized RX1 ∈ G := mem_G 42 (by decide +kernel) (by decide +kernel)
theorem G_in_X0 : Cond.initialized RX0 ∈ G := mem_G 43 (by decide +kernel) (by decide +kernel)
theorem G_in_X7 : Cond.initialized RX7 ∈ G := mem_G 44 (by decide +kernel) (by decide +kernel)
theorem G_in_X3 : Cond.initialized RX3 ∈ G := mem_G 45 (by decide +kernel) (by decide +kernel)
theorem G_in_X5 : Cond.initialized RX5 ∈ G := mem_G 46 (by decide +kernel) (by decide +kernel)
theorem G_in_X4 : Cond.initialized RX4 ∈ G := mem_G 47 (by decide +kernel) (by decide +kernel)
theorem G_in_X2 : Cond.initialized RX2 ∈ G := mem_G 48 (by decide +kernel) (by decide +kernel)
theorem G_in_X9 : Cond.initialized RX9 ∈ G := mem_G 49 (by decide +kernel) (by decide +kernel)
theorem G_in_J9 : Cond.initialized RJ9 ∈ G := mem_G 50 (by decide +kernel) (by decide +kernel)
theorem G_in_J0 : Cond.initialized RJ0 ∈ G := mem_G 51 (by decide +kernel) (by decide +kernel)
theorem G_in_J1 : Cond.initialized RJ1 ∈ G := mem_G 52 (by decide +kernel) (by decide +kernel)
theorem G_in_J3 : Cond.initialized RJ3 ∈ G := mem_G 53 (by decide +kernel) (by decide +kernel)
theorem G_in_J2 : Cond.initialized RJ2 ∈ G := mem_G 54 (by decide +kernel) (by decide +kernel)
theorem G_kl_L_7 : Cond.classLink RL 7 RX8 ∈ G := mem_G 55 (by decide +kernel) (by decide +kernel)
theorem G_is_X8 : Cond.instantiable RX8 12 ∈ G := mem_G 56 (by decide +kernel) (by decide +kernel)
theorem G_ml_L_9 : Cond.methodLink RL 9 yX8_init ∈ G := mem_G 57 (by decide +kernel) (by decide +kernel)
theorem G_im_X8_init : Cond.instanceMethod yX8_init ∈ G := mem_G 58 (by decide +kernel) (by decide +kernel)
theorem G_cd_X8_init : Cond.code yX8_init cX8_init 2 none ∈ G := mem_G 59 (by decide +kernel) (by decide +kernel)
theorem G_ml_X8_3 : Cond.methodLink RX8 3 objectInit ∈ G := mem_G 60 (by decide +kernel) (by decide +kernel)
theorem G_im_objectInit : Cond.instanceMethod objectInit ∈ G := mem_G 61 (by decide +kernel) (by decide +kernel)
theorem G_cd_objectInit : Cond.code objectInit ⟨#[0xb1]⟩ 1 none ∈ G := mem_G 62 (by decide +kernel) (by decide +kernel)
theorem G_kl_X8_9 : Cond.classLink RX8 9 RX6 ∈ G := mem_G 63 (by decide +kernel) (by decide +kernel)
theorem G_is_X6 : Cond.instantiable RX6 2 ∈ G := mem_G 64 (by decide +kernel) (by decide +kernel)
theorem G_ml_X8_11 : Cond.methodLink RX8 11 yX6_init ∈ G := mem_G 65 (by decide +kernel) (by decide +kernel)
theorem G_im_X6_init : Cond.instanceMethod yX6_init ∈ G := mem_G 66 (by decide +kernel) (by decide +kernel)
theorem G_cd_X6_init : Cond.code yX6_init cX6_init 2 none ∈ G := mem_G 67 (by decide +kernel) (by decide +kernel)
theorem G_ml_X6_3 : Cond.methodLink RX6 3 objectInit ∈ G := mem_G 68 (by decide +kernel) (by decide +kernel)
theorem G_kl_X6_9 : Cond.classLink RX6 9 RX1 ∈ G := mem_G 69 (by decide +kernel) (by decide +kernel)
theorem G_is_X1 : Cond.instantiable RX1 7 ∈ G := mem_G 71 (by decide +kernel) (by decide +kernel)
theorem G_im_X1_init : Cond.instanceMethod yX1_init ∈ G := mem_G 73 (by decide +kernel) (by decide +kernel)
theorem G_cd_X1_init : Cond.code yX1_init cX1_init 1 none ∈ G := mem_G 74 (by decide +kernel) (by decide +kernel)
theorem G_ml_X1_3 : Cond.methodLink RX1 3 objectInit ∈ G := mem_G 75 (by decide +kernel) (by decide +kernel)
theorem G_fl_X1_9 : Cond.fieldLink RX1 9 "TurningFractions$Fraction" "a" "I" ∈ G := mem_G 76 (by decide +kernel) (by decide +kernel)
theorem G_fl_X8_101 : Cond.fieldLink RX8 101 "TurningFractions$Fraction" "a" "I" ∈ G := mem_G 77 (by decide +kernel) (by decide +kernel)
theorem G_fl_X1_15 : Cond.fieldLink RX1 15 "TurningFractions$Fraction" "b" "I" ∈ G := mem_G 78 (by decide +kernel) (by decide +kernel)
theorem G_fl_X8_105 : Cond.fieldLink RX8 105 "TurningFractions$Fraction" "b" "I" ∈ G := mem_G 79 (by decide +kernel) (by decide +kernel)
theorem G_fl_X1_18 : Cond.fieldLink RX1 18 "TurningFractions$Fraction" "base" "I" ∈ G := mem_G 80 (by decide +kernel) (by decide +kernel)
theorem G_fl_X8_108 : Cond.fieldLink RX8 108 "TurningFractions$Fraction" "base" "I" ∈ G := mem_G 81 (by decide +kernel) (by decide +kernel)
theorem G_fl_X1_21 : Cond.fieldLink RX1 21 "TurningFractions$Fraction" "head" "I" ∈ G := mem_G 82 (by decide +kernel) (by decide +kernel)
theorem G_fl_X8_130 : Cond.fieldLink RX8 130 "TurningFractions$Fraction" "head" "I" ∈ G := mem_G 83 (by decide +kernel) (by decide +kernel)
theorem G_fl_X1_24 : Cond.fieldLink RX1 24 "TurningFractions$Fraction" "length" "I" ∈ G := mem_G 84 (by decide +kernel) (by decide +kernel)
theorem G_fl_X4_19 : Cond.fieldLink RX4 19 "TurningFractions$Fraction" "length" "I" ∈ G := mem_G 85 (by decide +kernel) (by decide +kernel)
theorem G_fl_X0_72 : Cond.fieldLink RX0 72 "TurningFractions$Fraction" "length" "I" ∈ G := mem_G 86 (by decide +kernel) (by decide +kernel)
theorem G_fl_X8_133 : Cond.fieldLink RX8 133 "TurningFractions$Fraction" "length" "I" ∈ G := mem_G 87 (by decide +kernel) (by decide +kernel)
theorem G_fl_X1_27 : Cond.fieldLink RX1 27 "TurningFractions$Fraction" "turningRest" "I" ∈ G := mem_G 88 (by decide +kernel) (by decide +kernel)
theorem G_fl_X4_22 : Cond.fieldLink RX4 22 "TurningFractions$Fraction" "turningRest" "I" ∈ G := mem_G 89 (by decide +kernel) (by decide +kernel)
theorem G_fl_X1_30 : Cond.fieldLink RX1 30 "TurningFractions$Fraction" "fading" "I" ∈ G := mem_G 90 (by decide +kernel) (by decide +kernel)
theorem G_fl_X6_11 : Cond.fieldLink RX6 11 "TurningFractions$Shelf" "places" "[LTurningFractions$Fraction;" ∈ G := mem_G 106 (by decide +kernel) (by decide +kernel)
theorem G_fl_X6_17 : Cond.fieldLink RX6 17 "TurningFractions$Shelf" "length" "I" ∈ G := mem_G 107 (by decide +kernel) (by decide +kernel)
theorem G_fl_X8_289 : Cond.fieldLink RX8 289 "TurningFractions$Shelf" "length" "I" ∈ G := mem_G 108 (by decide +kernel) (by decide +kernel)
theorem G_kl_X8_18 : Cond.classLink RX8 18 RX0 ∈ G := mem_G 114 (by decide +kernel) (by decide +kernel)
theorem G_is_X0 : Cond.instantiable RX0 4 ∈ G := mem_G 115 (by decide +kernel) (by decide +kernel)
theorem G_im_X0_init : Cond.instanceMethod yX0_init ∈ G := mem_G 117 (by decide +kernel) (by decide +kernel)
theorem G_cd_X0_init : Cond.code yX0_init cX0_init 1 none ∈ G := mem_G 118 (by decide +kernel) (by decide +kernel)
theorem G_ml_X0_3 : Cond.methodLink RX0 3 objectInit ∈ G := mem_G 119 (by decide +kernel) (by decide +kernel)
theorem G_kl_X0_22 : Cond.classLink RX0 22 RX1 ∈ G := mem_G 120 (by decide +kernel) (by decide +kernel)
theorem G_fl_X0_9 : Cond.fieldLink RX0 9 "TurningFractions$Denominators" "numbers" "[I" ∈ G := mem_G 122 (by decide +kernel) (by decide +kernel)
theorem G_fl_X8_213 : Cond.fieldLink RX8 213 "TurningFractions$Denominators" "numbers" "[I" ∈ G := mem_G 123 (by decide +kernel) (by decide +kernel)
theorem G_fl_X0_15 : Cond.fieldLink RX0 15 "TurningFractions$Denominators" "length" "I" ∈ G := mem_G 124 (by decide +kernel) (by decide +kernel)
theorem G_fl_X8_195 : Cond.fieldLink RX8 195 "TurningFractions$Denominators" "length" "I" ∈ G := mem_G 125 (by decide +kernel) (by decide +kernel)
theorem G_fl_X0_19 : Cond.fieldLink RX0 19 "TurningFractions$Denominators" "base" "I" ∈ G := mem_G 126 (by decide +kernel) (by decide +kernel)
theorem G_fl_X8_290 : Cond.fieldLink RX8 290 "TurningFractions$Denominators" "base" "I" ∈ G := mem_G 127 (by decide +kernel) (by decide +kernel)
theorem G_fl_X0_25 : Cond.fieldLink RX0 25 "TurningFractions$Denominators" "unit" "LTurningFractions$Fraction;" ∈ G := mem_G 128 (by decide +kernel) (by decide +kernel)
theorem G_kl_X8_25 : Cond.classLink RX8 25 RX7 ∈ G := mem_G 139 (by decide +kernel) (by decide +kernel)
theorem G_is_X7 : Cond.instantiable RX7 4 ∈ G := mem_G 140 (by decide +kernel) (by decide +kernel)
theorem G_im_X7_init : Cond.instanceMethod yX7_init ∈ G := mem_G 142 (by decide +kernel) (by decide +kernel)
theorem G_cd_X7_init : Cond.code yX7_init cX7_init 1 none ∈ G := mem_G 143 (by decide +kernel) (by decide +kernel)
theorem G_ml_X7_3 : Cond.methodLink RX7 3 objectInit ∈ G := mem_G 144 (by decide +kernel) (by decide +kernel)
theorem G_fl_X7_9 : Cond.fieldLink RX7 9 "TurningFractions$Tape" "bytes" "[I" ∈ G := mem_G 145 (by decide +kernel) (by decide +kernel)
theorem G_fl_X7_15 : Cond.fieldLink RX7 15 "TurningFractions$Tape" "length" "I" ∈ G := mem_G 146 (by decide +kernel) (by decide +kernel)
theorem G_fl_X0_37 : Cond.fieldLink RX0 37 "TurningFractions$Tape" "length" "I" ∈ G := mem_G 147 (by decide +kernel) (by decide +kernel)
theorem G_fl_X8_226 : Cond.fieldLink RX8 226 "TurningFractions$Tape" "length" "I" ∈ G := mem_G 148 (by decide +kernel) (by decide +kernel)
theorem G_fl_X7_19 : Cond.fieldLink RX7 19 "TurningFractions$Tape" "at" "I" ∈ G := mem_G 149 (by decide +kernel) (by decide +kernel)
theorem G_fl_X3_18 : Cond.fieldLink RX3 18 "TurningFractions$Tape" "at" "I" ∈ G := mem_G 150 (by decide +kernel) (by decide +kernel)
theorem G_fl_X5_26 : Cond.fieldLink RX5 26 "TurningFractions$Tape" "at" "I" ∈ G := mem_G 151 (by decide +kernel) (by decide +kernel)
theorem G_fl_X7_22 : Cond.fieldLink RX7 22 "TurningFractions$Tape" "number" "J" ∈ G := mem_G 152 (by decide +kernel) (by decide +kernel)
theorem G_fl_X3_24 : Cond.fieldLink RX3 24 "TurningFractions$Tape" "number" "J" ∈ G := mem_G 153 (by decide +kernel) (by decide +kernel)
theorem G_fl_X5_58 : Cond.fieldLink RX5 58 "TurningFractions$Tape" "number" "J" ∈ G := mem_G 154 (by decide +kernel) (by decide +kernel)
theorem G_kl_X8_32 : Cond.classLink RX8 32 RX3 ∈ G := mem_G 164 (by decide +kernel) (by decide +kernel)
theorem G_is_X3 : Cond.instantiable RX3 2 ∈ G := mem_G 165 (by decide +kernel) (by decide +kernel)
theorem G_im_X3_init : Cond.instanceMethod yX3_init ∈ G := mem_G 167 (by decide +kernel) (by decide +kernel)
theorem G_cd_X3_init : Cond.code yX3_init cX3_init 1 none ∈ G := mem_G 168 (by decide +kernel) (by decide +kernel)
theorem G_ml_X3_3 : Cond.methodLink RX3 3 objectInit ∈ G := mem_G 169 (by decide +kernel) (by decide +kernel)
theorem G_fl_X3_9 : Cond.fieldLink RX3 9 "TurningFractions$Numeral" "a" "J" ∈ G := mem_G 170 (by decide +kernel) (by decide +kernel)
theorem G_fl_X8_239 : Cond.fieldLink RX8 239 "TurningFractions$Numeral" "a" "J" ∈ G := mem_G 171 (by decide +kernel) (by decide +kernel)
theorem G_fl_X3_15 : Cond.fieldLink RX3 15 "TurningFractions$Numeral" "b" "J" ∈ G := mem_G 172 (by decide +kernel) (by decide +kernel)
theorem G_fl_X8_242 : Cond.fieldLink RX8 242 "TurningFractions$Numeral" "b" "J" ∈ G := mem_G 173 (by decide +kernel) (by decide +kernel)
theorem G_kl_X8_39 : Cond.classLink RX8 39 RX5 ∈ G := mem_G 179 (by decide +kernel) (by decide +kernel)
theorem G_is_X5 : Cond.instantiable RX5 3 ∈ G := mem_G 180 (by decide +kernel) (by decide +kernel)
theorem G_im_X5_init : Cond.instanceMethod yX5_init ∈ G := mem_G 182 (by decide +kernel) (by decide +kernel)
theorem G_cd_X5_init : Cond.code yX5_init cX5_init 1 none ∈ G := mem_G 183 (by decide +kernel) (by decide +kernel)
theorem G_ml_X5_3 : Cond.methodLink RX5 3 objectInit ∈ G := mem_G 184 (by decide +kernel) (by decide +kernel)
theorem G_fl_X5_11 : Cond.fieldLink RX5 11 "TurningFractions$Script" "words" "[I" ∈ G := mem_G 185 (by decide +kernel) (by decide +kernel)
theorem G_fl_X5_15 : Cond.fieldLink RX5 15 "TurningFractions$Script" "numbers" "[I" ∈ G := mem_G 186 (by decide +kernel) (by decide +kernel)
theorem G_fl_X5_18 : Cond.fieldLink RX5 18 "TurningFractions$Script" "commands" "I" ∈ G := mem_G 187 (by decide +kernel) (by decide +kernel)
theorem G_fl_X8_247 : Cond.fieldLink RX8 247 "TurningFractions$Script" "commands" "I" ∈ G := mem_G 188 (by decide +kernel) (by decide +kernel)
theorem G_kl_X8_46 : Cond.classLink RX8 46 RX2 ∈ G := mem_G 196 (by decide +kernel) (by decide +kernel)
theorem G_kl_X8_62 : Cond.classLink RX8 62 RX4 ∈ G := mem_G 198 (by decide +kernel) (by decide +kernel)
theorem G_is_X4 : Cond.instantiable RX4 2 ∈ G := mem_G 199 (by decide +kernel) (by decide +kernel)
theorem G_im_X4_init : Cond.instanceMethod yX4_init ∈ G := mem_G 201 (by decide +kernel) (by decide +kernel)
theorem G_cd_X4_init : Cond.code yX4_init cX4_init 1 none ∈ G := mem_G 202 (by decide +kernel) (by decide +kernel)
theorem G_ml_X4_3 : Cond.methodLink RX4 3 objectInit ∈ G := mem_G 203 (by decide +kernel) (by decide +kernel)
theorem G_fl_X4_9 : Cond.fieldLink RX4 9 "TurningFractions$Period" "digits" "[I" ∈ G := mem_G 204 (by decide +kernel) (by decide +kernel)
theorem G_fl_X4_15 : Cond.fieldLink RX4 15 "TurningFractions$Period" "length" "I" ∈ G := mem_G 205 (by decide +kernel) (by decide +kernel)
theorem G_kl_X8_69 : Cond.classLink RX8 69 RX1 ∈ G := mem_G 211 (by decide +kernel) (by decide +kernel)
theorem G_is_X2 : Cond.instantiable RX2 4 ∈ G := mem_G 213 (by decide +kernel) (by decide +kernel)
theorem G_im_X2_init : Cond.instanceMethod yX2_init ∈ G := mem_G 215 (by decide +kernel) (by decide +kernel)
theorem G_cd_X2_init : Cond.code yX2_init cX2_init 1 none ∈ G := mem_G 216 (by decide +kernel) (by decide +kernel)
theorem G_ml_X2_3 : Cond.methodLink RX2 3 objectInit ∈ G := mem_G 217 (by decide +kernel) (by decide +kernel)
theorem G_kl_X2_15 : Cond.classLink RX2 15 RX1 ∈ G := mem_G 218 (by decide +kernel) (by decide +kernel)
theorem G_fl_X2_9 : Cond.fieldLink RX2 9 "TurningFractions$Holder" "held" "I" ∈ G := mem_G 220 (by decide +kernel) (by decide +kernel)
theorem G_fl_X8_260 : Cond.fieldLink RX8 260 "TurningFractions$Holder" "held" "I" ∈ G := mem_G 221 (by decide +kernel) (by decide +kernel)
theorem G_fl_X2_18 : Cond.fieldLink RX2 18 "TurningFractions$Holder" "fraction" "LTurningFractions$Fraction;" ∈ G := mem_G 222 (by decide +kernel) (by decide +kernel)
theorem G_fl_X8_266 : Cond.fieldLink RX8 266 "TurningFractions$Holder" "fraction" "LTurningFractions$Fraction;" ∈ G := mem_G 223 (by decide +kernel) (by decide +kernel)
theorem G_fl_X2_22 : Cond.fieldLink RX2 22 "TurningFractions$Holder" "row" "[I" ∈ G := mem_G 224 (by decide +kernel) (by decide +kernel)
theorem G_fl_X8_275 : Cond.fieldLink RX8 275 "TurningFractions$Holder" "row" "[I" ∈ G := mem_G 225 (by decide +kernel) (by decide +kernel)
theorem G_fl_X2_26 : Cond.fieldLink RX2 26 "TurningFractions$Holder" "rowLength" "I" ∈ G := mem_G 226 (by decide +kernel) (by decide +kernel)
theorem G_fl_X8_12 : Cond.fieldLink RX8 12 "TurningFractions" "fractions" "LTurningFractions$Shelf;" ∈ G := mem_G 236 (by decide +kernel) (by decide +kernel)
theorem G_fl_X8_21 : Cond.fieldLink RX8 21 "TurningFractions" "denominators" "LTurningFractions$Denominators;" ∈ G := mem_G 237 (by decide +kernel) (by decide +kernel)
theorem G_fl_X8_28 : Cond.fieldLink RX8 28 "TurningFractions" "tape" "LTurningFractions$Tape;" ∈ G := mem_G 238 (by decide +kernel) (by decide +kernel)
theorem G_fl_X8_35 : Cond.fieldLink RX8 35 "TurningFractions" "numeral" "LTurningFractions$Numeral;" ∈ G := mem_G 239 (by decide +kernel) (by decide +kernel)
theorem G_fl_X8_42 : Cond.fieldLink RX8 42 "TurningFractions" "script" "LTurningFractions$Script;" ∈ G := mem_G 240 (by decide +kernel) (by decide +kernel)
theorem G_fl_X8_48 : Cond.fieldLink RX8 48 "TurningFractions" "holders" "[LTurningFractions$Holder;" ∈ G := mem_G 241 (by decide +kernel) (by decide +kernel)
theorem G_fl_X8_52 : Cond.fieldLink RX8 52 "TurningFractions" "keptFractions" "LTurningFractions$Shelf;" ∈ G := mem_G 242 (by decide +kernel) (by decide +kernel)
theorem G_fl_X8_55 : Cond.fieldLink RX8 55 "TurningFractions" "keptDenominators" "LTurningFractions$Denominators;" ∈ G := mem_G 243 (by decide +kernel) (by decide +kernel)
theorem G_fl_X8_58 : Cond.fieldLink RX8 58 "TurningFractions" "imageIsKept" "Z" ∈ G := mem_G 244 (by decide +kernel) (by decide +kernel)
theorem G_fl_X8_65 : Cond.fieldLink RX8 65 "TurningFractions" "period" "LTurningFractions$Period;" ∈ G := mem_G 245 (by decide +kernel) (by decide +kernel)
theorem G_fl_X8_72 : Cond.fieldLink RX8 72 "TurningFractions" "unit" "LTurningFractions$Fraction;" ∈ G := mem_G 246 (by decide +kernel) (by decide +kernel)
theorem G_fl_X8_76 : Cond.fieldLink RX8 76 "TurningFractions" "ringed" "[I" ∈ G := mem_G 247 (by decide +kernel) (by decide +kernel)
theorem G_ml_L_13 : Cond.methodLink RL 13 yX8_fraction ∈ G := mem_G 273 (by decide +kernel) (by decide +kernel)
theorem G_im_X8_fraction : Cond.instanceMethod yX8_fraction ∈ G := mem_G 274 (by decide +kernel) (by decide +kernel)
theorem G_se_X8_fraction : Cond.selects RX8 yX8_fraction yX8_fraction ∈ G := mem_G 275 (by decide +kernel) (by decide +kernel)
theorem G_cd_X8_fraction : Cond.code yX8_fraction cX8_fraction 4 (some .int) ∈ G := mem_G 276 (by decide +kernel) (by decide +kernel)
theorem G_ml_X8_81 : Cond.methodLink RX8 81 yX8_isWithin ∈ G := mem_G 277 (by decide +kernel) (by decide +kernel)
theorem G_st_X8_isWithin : Cond.static yX8_isWithin ∈ G := mem_G 278 (by decide +kernel) (by decide +kernel)
theorem G_cd_X8_isWithin : Cond.code yX8_isWithin cX8_isWithin 3 (some .boolean) ∈ G := mem_G 279 (by decide +kernel) (by decide +kernel)
theorem G_ml_X8_85 : Cond.methodLink RX8 85 yX8_isBase ∈ G := mem_G 280 (by decide +kernel) (by decide +kernel)
theorem G_st_X8_isBase : Cond.static yX8_isBase ∈ G := mem_G 281 (by decide +kernel) (by decide +kernel)
theorem G_cd_X8_isBase : Cond.code yX8_isBase cX8_isBase 1 (some .boolean) ∈ G := mem_G 282 (by decide +kernel) (by decide +kernel)
theorem G_ml_X8_89 : Cond.methodLink RX8 89 yX6_add ∈ G := mem_G 283 (by decide +kernel) (by decide +kernel)
theorem G_im_X6_add : Cond.instanceMethod yX6_add ∈ G := mem_G 284 (by decide +kernel) (by decide +kernel)
theorem G_se_X6_add : Cond.selects RX6 yX6_add yX6_add ∈ G := mem_G 285 (by decide +kernel) (by decide +kernel)
theorem G_cd_X6_add : Cond.code yX6_add cX6_add 4 (some .int) ∈ G := mem_G 286 (by decide +kernel) (by decide +kernel)
theorem G_ml_X6_22 : Cond.methodLink RX6 22 yX1_become ∈ G := mem_G 287 (by decide +kernel) (by decide +kernel)
theorem G_im_X1_become : Cond.instanceMethod yX1_become ∈ G := mem_G 288 (by decide +kernel) (by decide +kernel)
theorem G_se_X1_become : Cond.selects RX1 yX1_become yX1_become ∈ G := mem_G 289 (by decide +kernel) (by decide +kernel)
theorem G_cd_X1_become : Cond.code yX1_become cX1_become 5 none ∈ G := mem_G 290 (by decide +kernel) (by decide +kernel)
theorem G_st_X8_power : Cond.static yX8_power ∈ G := mem_G 292 (by decide +kernel) (by decide +kernel)
theorem G_cd_X8_power : Cond.code yX8_power cX8_power 5 (some .long) ∈ G := mem_G 293 (by decide +kernel) (by decide +kernel)
theorem G_st_X8_commonDivisor : Cond.static yX8_commonDivisor ∈ G := mem_G 295 (by decide +kernel) (by decide +kernel)
theorem G_cd_X8_commonDivisor : Cond.code yX8_commonDivisor cX8_commonDivisor 11 (some .long) ∈ G := mem_G 296 (by decide +kernel) (by decide +kernel)
theorem G_st_X8_remainder : Cond.static yX8_remainder ∈ G := mem_G 298 (by decide +kernel) (by decide +kernel)
theorem G_cd_X8_remainder : Cond.code yX8_remainder cX8_remainder 2 (some .int) ∈ G := mem_G 299 (by decide +kernel) (by decide +kernel)
theorem G_ml_X1_45 : Cond.methodLink RX1 45 yX1_turns ∈ G := mem_G 300 (by decide +kernel) (by decide +kernel)
theorem G_im_X1_turns : Cond.instanceMethod yX1_turns ∈ G := mem_G 302 (by decide +kernel) (by decide +kernel)
theorem G_cd_X1_turns : Cond.code yX1_turns cX1_turns 2 (some .boolean) ∈ G := mem_G 303 (by decide +kernel) (by decide +kernel)
theorem G_ml_X1_49 : Cond.methodLink RX1 49 yX1_restAfter ∈ G := mem_G 304 (by decide +kernel) (by decide +kernel)
theorem G_im_X1_restAfter : Cond.instanceMethod yX1_restAfter ∈ G := mem_G 305 (by decide +kernel) (by decide +kernel)
theorem G_se_X1_restAfter : Cond.selects RX1 yX1_restAfter yX1_restAfter ∈ G := mem_G 306 (by decide +kernel) (by decide +kernel)
theorem G_cd_X1_restAfter : Cond.code yX1_restAfter cX1_restAfter 2 (some .int) ∈ G := mem_G 307 (by decide +kernel) (by decide +kernel)
theorem G_ml_L_18 : Cond.methodLink RL 18 yX8_drop ∈ G := mem_G 308 (by decide +kernel) (by decide +kernel)
theorem G_im_X8_drop : Cond.instanceMethod yX8_drop ∈ G := mem_G 309 (by decide +kernel) (by decide +kernel)
theorem G_se_X8_drop : Cond.selects RX8 yX8_drop yX8_drop ∈ G := mem_G 310 (by decide +kernel) (by decide +kernel)
theorem G_cd_X8_drop : Cond.code yX8_drop cX8_drop 2 (some .int) ∈ G := mem_G 311 (by decide +kernel) (by decide +kernel)
theorem G_ml_X8_93 : Cond.methodLink RX8 93 yX6_takeAway ∈ G := mem_G 312 (by decide +kernel) (by decide +kernel)
theorem G_im_X6_takeAway : Cond.instanceMethod yX6_takeAway ∈ G := mem_G 313 (by decide +kernel) (by decide +kernel)
theorem G_se_X6_takeAway : Cond.selects RX6 yX6_takeAway yX6_takeAway ∈ G := mem_G 314 (by decide +kernel) (by decide +kernel)
theorem G_cd_X6_takeAway : Cond.code yX6_takeAway cX6_takeAway 3 (some .int) ∈ G := mem_G 315 (by decide +kernel) (by decide +kernel)
theorem G_ml_X6_26 : Cond.methodLink RX6 26 yX6_at ∈ G := mem_G 316 (by decide +kernel) (by decide +kernel)
theorem G_im_X6_at : Cond.instanceMethod yX6_at ∈ G := mem_G 317 (by decide +kernel) (by decide +kernel)
theorem G_se_X6_at : Cond.selects RX6 yX6_at yX6_at ∈ G := mem_G 318 (by decide +kernel) (by decide +kernel)
theorem G_cd_X6_at : Cond.code yX6_at cX6_at 2 (some (.object "TurningFractions$Fraction")) ∈ G := mem_G 319 (by decide +kernel) (by decide +kernel)
theorem G_ml_X6_30 : Cond.methodLink RX6 30 yX1_becomeLike ∈ G := mem_G 320 (by decide +kernel) (by decide +kernel)
theorem G_im_X1_becomeLike : Cond.instanceMethod yX1_becomeLike ∈ G := mem_G 321 (by decide +kernel) (by decide +kernel)
theorem G_se_X1_becomeLike : Cond.selects RX1 yX1_becomeLike yX1_becomeLike ∈ G := mem_G 322 (by decide +kernel) (by decide +kernel)
theorem G_cd_X1_becomeLike : Cond.code yX1_becomeLike cX1_becomeLike 2 none ∈ G := mem_G 323 (by decide +kernel) (by decide +kernel)
theorem G_ml_L_23 : Cond.methodLink RL 23 yX8_multiply ∈ G := mem_G 324 (by decide +kernel) (by decide +kernel)
theorem G_im_X8_multiply : Cond.instanceMethod yX8_multiply ∈ G := mem_G 325 (by decide +kernel) (by decide +kernel)
theorem G_se_X8_multiply : Cond.selects RX8 yX8_multiply yX8_multiply ∈ G := mem_G 326 (by decide +kernel) (by decide +kernel)
theorem G_cd_X8_multiply : Cond.code yX8_multiply cX8_multiply 5 (some .int) ∈ G := mem_G 327 (by decide +kernel) (by decide +kernel)
theorem G_ml_X8_97 : Cond.methodLink RX8 97 yX6_at ∈ G := mem_G 328 (by decide +kernel) (by decide +kernel)
theorem G_ml_X8_111 : Cond.methodLink RX8 111 yX1_become ∈ G := mem_G 329 (by decide +kernel) (by decide +kernel)
theorem G_ml_L_28 : Cond.methodLink RL 28 yX8_sum ∈ G := mem_G 330 (by decide +kernel) (by decide +kernel)
theorem G_im_X8_sum : Cond.instanceMethod yX8_sum ∈ G := mem_G 331 (by decide +kernel) (by decide +kernel)
theorem G_se_X8_sum : Cond.selects RX8 yX8_sum yX8_sum ∈ G := mem_G 332 (by decide +kernel) (by decide +kernel)
theorem G_cd_X8_sum : Cond.code yX8_sum cX8_sum 6 (some .int) ∈ G := mem_G 333 (by decide +kernel) (by decide +kernel)
theorem G_ml_X8_115 : Cond.methodLink RX8 115 yX8_addInLowestTerms ∈ G := mem_G 334 (by decide +kernel) (by decide +kernel)
theorem G_im_X8_addInLowestTerms : Cond.instanceMethod yX8_addInLowestTerms ∈ G := mem_G 336 (by decide +kernel) (by decide +kernel)
theorem G_cd_X8_addInLowestTerms : Cond.code yX8_addInLowestTerms cX8_addInLowestTerms 12 (some .int) ∈ G := mem_G 337 (by decide +kernel) (by decide +kernel)
theorem G_ml_X8_119 : Cond.methodLink RX8 119 yX8_commonDivisor ∈ G := mem_G 338 (by decide +kernel) (by decide +kernel)
theorem G_ml_X8_123 : Cond.methodLink RX8 123 yX8_quotient ∈ G := mem_G 339 (by decide +kernel) (by decide +kernel)
theorem G_st_X8_quotient : Cond.static yX8_quotient ∈ G := mem_G 340 (by decide +kernel) (by decide +kernel)
theorem G_cd_X8_quotient : Cond.code yX8_quotient cX8_quotient 4 (some .long) ∈ G := mem_G 341 (by decide +kernel) (by decide +kernel)
theorem G_co_X8_291 : Cond.constantLong RX8 291 (9999 : Int64) ∈ G := mem_G 342 (by decide +kernel) (by decide +kernel)
theorem G_co_X8_293 : Cond.constantLong RX8 293 (999 : Int64) ∈ G := mem_G 343 (by decide +kernel) (by decide +kernel)
theorem G_ml_L_32 : Cond.methodLink RL 32 yX8_lowest ∈ G := mem_G 344 (by decide +kernel) (by decide +kernel)
theorem G_im_X8_lowest : Cond.instanceMethod yX8_lowest ∈ G := mem_G 345 (by decide +kernel) (by decide +kernel)
theorem G_se_X8_lowest : Cond.selects RX8 yX8_lowest yX8_lowest ∈ G := mem_G 346 (by decide +kernel) (by decide +kernel)
theorem G_cd_X8_lowest : Cond.code yX8_lowest cX8_lowest 5 (some .int) ∈ G := mem_G 347 (by decide +kernel) (by decide +kernel)
theorem G_ml_L_36 : Cond.methodLink RL 36 yX8_of ∈ G := mem_G 348 (by decide +kernel) (by decide +kernel)
theorem G_im_X8_of : Cond.instanceMethod yX8_of ∈ G := mem_G 349 (by decide +kernel) (by decide +kernel)
theorem G_se_X8_of : Cond.selects RX8 yX8_of yX8_of ∈ G := mem_G 350 (by decide +kernel) (by decide +kernel)
theorem G_cd_X8_of : Cond.code yX8_of cX8_of 4 (some .int) ∈ G := mem_G 351 (by decide +kernel) (by decide +kernel)
theorem G_ml_X8_126 : Cond.methodLink RX8 126 yX1_whole ∈ G := mem_G 352 (by decide +kernel) (by decide +kernel)
theorem G_im_X1_whole : Cond.instanceMethod yX1_whole ∈ G := mem_G 353 (by decide +kernel) (by decide +kernel)
theorem G_se_X1_whole : Cond.selects RX1 yX1_whole yX1_whole ∈ G := mem_G 354 (by decide +kernel) (by decide +kernel)
theorem G_cd_X1_whole : Cond.code yX1_whole cX1_whole 1 (some .int) ∈ G := mem_G 355 (by decide +kernel) (by decide +kernel)
theorem G_ml_X8_136 : Cond.methodLink RX8 136 yX1_kind ∈ G := mem_G 357 (by decide +kernel) (by decide +kernel)
theorem G_im_X1_kind : Cond.instanceMethod yX1_kind ∈ G := mem_G 358 (by decide +kernel) (by decide +kernel)
theorem G_se_X1_kind : Cond.selects RX1 yX1_kind yX1_kind ∈ G := mem_G 359 (by decide +kernel) (by decide +kernel)
theorem G_cd_X1_kind : Cond.code yX1_kind cX1_kind 1 (some .int) ∈ G := mem_G 360 (by decide +kernel) (by decide +kernel)
theorem G_ml_X1_56 : Cond.methodLink RX1 56 yX1_ends ∈ G := mem_G 361 (by decide +kernel) (by decide +kernel)
theorem G_im_X1_ends : Cond.instanceMethod yX1_ends ∈ G := mem_G 362 (by decide +kernel) (by decide +kernel)
theorem G_se_X1_ends : Cond.selects RX1 yX1_ends yX1_ends ∈ G := mem_G 363 (by decide +kernel) (by decide +kernel)
theorem G_cd_X1_ends : Cond.code yX1_ends cX1_ends 1 (some .boolean) ∈ G := mem_G 364 (by decide +kernel) (by decide +kernel)
theorem G_ml_L_40 : Cond.methodLink RL 40 yX8_digit ∈ G := mem_G 365 (by decide +kernel) (by decide +kernel)
theorem G_im_X8_digit : Cond.instanceMethod yX8_digit ∈ G := mem_G 366 (by decide +kernel) (by decide +kernel)
theorem G_se_X8_digit : Cond.selects RX8 yX8_digit yX8_digit ∈ G := mem_G 367 (by decide +kernel) (by decide +kernel)
theorem G_cd_X8_digit : Cond.code yX8_digit cX8_digit 4 (some .int) ∈ G := mem_G 368 (by decide +kernel) (by decide +kernel)
theorem G_ml_X8_139 : Cond.methodLink RX8 139 yX1_restAt ∈ G := mem_G 369 (by decide +kernel) (by decide +kernel)
theorem G_im_X1_restAt : Cond.instanceMethod yX1_restAt ∈ G := mem_G 370 (by decide +kernel) (by decide +kernel)
theorem G_se_X1_restAt : Cond.selects RX1 yX1_restAt yX1_restAt ∈ G := mem_G 371 (by decide +kernel) (by decide +kernel)
theorem G_cd_X1_restAt : Cond.code yX1_restAt cX1_restAt 5 (some .int) ∈ G := mem_G 372 (by decide +kernel) (by decide +kernel)
theorem G_ml_X8_142 : Cond.methodLink RX8 142 yX1_digitOf ∈ G := mem_G 373 (by decide +kernel) (by decide +kernel)
theorem G_im_X1_digitOf : Cond.instanceMethod yX1_digitOf ∈ G := mem_G 374 (by decide +kernel) (by decide +kernel)
theorem G_se_X1_digitOf : Cond.selects RX1 yX1_digitOf yX1_digitOf ∈ G := mem_G 375 (by decide +kernel) (by decide +kernel)
theorem G_cd_X1_digitOf : Cond.code yX1_digitOf cX1_digitOf 2 (some .int) ∈ G := mem_G 376 (by decide +kernel) (by decide +kernel)
theorem G_ml_L_44 : Cond.methodLink RL 44 yX8_rest ∈ G := mem_G 377 (by decide +kernel) (by decide +kernel)
theorem G_im_X8_rest : Cond.instanceMethod yX8_rest ∈ G := mem_G 378 (by decide +kernel) (by decide +kernel)
theorem G_se_X8_rest : Cond.selects RX8 yX8_rest yX8_rest ∈ G := mem_G 379 (by decide +kernel) (by decide +kernel)
theorem G_cd_X8_rest : Cond.code yX8_rest cX8_rest 4 (some .int) ∈ G := mem_G 380 (by decide +kernel) (by decide +kernel)
theorem G_ml_L_48 : Cond.methodLink RL 48 yX8_place ∈ G := mem_G 381 (by decide +kernel) (by decide +kernel)
theorem G_im_X8_place : Cond.instanceMethod yX8_place ∈ G := mem_G 382 (by decide +kernel) (by decide +kernel)
theorem G_se_X8_place : Cond.selects RX8 yX8_place yX8_place ∈ G := mem_G 383 (by decide +kernel) (by decide +kernel)
theorem G_cd_X8_place : Cond.code yX8_place cX8_place 4 (some .int) ∈ G := mem_G 384 (by decide +kernel) (by decide +kernel)
theorem G_ml_X8_145 : Cond.methodLink RX8 145 yX1_placeOfDigit ∈ G := mem_G 385 (by decide +kernel) (by decide +kernel)
theorem G_im_X1_placeOfDigit : Cond.instanceMethod yX1_placeOfDigit ∈ G := mem_G 386 (by decide +kernel) (by decide +kernel)
theorem G_se_X1_placeOfDigit : Cond.selects RX1 yX1_placeOfDigit yX1_placeOfDigit ∈ G := mem_G 387 (by decide +kernel) (by decide +kernel)
theorem G_cd_X1_placeOfDigit : Cond.code yX1_placeOfDigit cX1_placeOfDigit 4 (some .int) ∈ G := mem_G 388 (by decide +kernel) (by decide +kernel)
theorem G_ml_X1_60 : Cond.methodLink RX1 60 yX1_digitOf ∈ G := mem_G 389 (by decide +kernel) (by decide +kernel)
theorem G_ml_L_52 : Cond.methodLink RL 52 yX8_block ∈ G := mem_G 390 (by decide +kernel) (by decide +kernel)
theorem G_im_X8_block : Cond.instanceMethod yX8_block ∈ G := mem_G 391 (by decide +kernel) (by decide +kernel)
theorem G_se_X8_block : Cond.selects RX8 yX8_block yX8_block ∈ G := mem_G 392 (by decide +kernel) (by decide +kernel)
theorem G_cd_X8_block : Cond.code yX8_block cX8_block 5 (some .int) ∈ G := mem_G 393 (by decide +kernel) (by decide +kernel)
theorem G_ml_X8_148 : Cond.methodLink RX8 148 yX1_partsInto ∈ G := mem_G 394 (by decide +kernel) (by decide +kernel)
theorem G_im_X1_partsInto : Cond.instanceMethod yX1_partsInto ∈ G := mem_G 395 (by decide +kernel) (by decide +kernel)
theorem G_se_X1_partsInto : Cond.selects RX1 yX1_partsInto yX1_partsInto ∈ G := mem_G 396 (by decide +kernel) (by decide +kernel)
theorem G_cd_X1_partsInto : Cond.code yX1_partsInto cX1_partsInto 2 (some .boolean) ∈ G := mem_G 397 (by decide +kernel) (by decide +kernel)
theorem G_ml_X8_151 : Cond.methodLink RX8 151 yX1_blockWidth ∈ G := mem_G 399 (by decide +kernel) (by decide +kernel)
theorem G_im_X1_blockWidth : Cond.instanceMethod yX1_blockWidth ∈ G := mem_G 400 (by decide +kernel) (by decide +kernel)
theorem G_se_X1_blockWidth : Cond.selects RX1 yX1_blockWidth yX1_blockWidth ∈ G := mem_G 401 (by decide +kernel) (by decide +kernel)
theorem G_cd_X1_blockWidth : Cond.code yX1_blockWidth cX1_blockWidth 2 (some .int) ∈ G := mem_G 402 (by decide +kernel) (by decide +kernel)
theorem G_ml_X8_154 : Cond.methodLink RX8 154 yX4_load ∈ G := mem_G 403 (by decide +kernel) (by decide +kernel)
theorem G_im_X4_load : Cond.instanceMethod yX4_load ∈ G := mem_G 404 (by decide +kernel) (by decide +kernel)
theorem G_se_X4_load : Cond.selects RX4 yX4_load yX4_load ∈ G := mem_G 405 (by decide +kernel) (by decide +kernel)
theorem G_cd_X4_load : Cond.code yX4_load cX4_load 4 none ∈ G := mem_G 406 (by decide +kernel) (by decide +kernel)
theorem G_ml_X4_25 : Cond.methodLink RX4 25 yX1_digitOf ∈ G := mem_G 407 (by decide +kernel) (by decide +kernel)
theorem G_st_X8_setAt : Cond.static yX8_setAt ∈ G := mem_G 409 (by decide +kernel) (by decide +kernel)
theorem G_cd_X8_setAt : Cond.code yX8_setAt cX8_setAt 3 none ∈ G := mem_G 410 (by decide +kernel) (by decide +kernel)
theorem G_ml_X4_33 : Cond.methodLink RX4 33 yX1_restAfter ∈ G := mem_G 411 (by decide +kernel) (by decide +kernel)
theorem G_ml_X8_158 : Cond.methodLink RX8 158 yX4_placeOfBlocks ∈ G := mem_G 412 (by decide +kernel) (by decide +kernel)
theorem G_im_X4_placeOfBlocks : Cond.instanceMethod yX4_placeOfBlocks ∈ G := mem_G 413 (by decide +kernel) (by decide +kernel)
theorem G_se_X4_placeOfBlocks : Cond.selects RX4 yX4_placeOfBlocks yX4_placeOfBlocks ∈ G := mem_G 414 (by decide +kernel) (by decide +kernel)
theorem G_cd_X4_placeOfBlocks : Cond.code yX4_placeOfBlocks cX4_placeOfBlocks 9 (some .int) ∈ G := mem_G 415 (by decide +kernel) (by decide +kernel)
theorem G_st_X8_valueAt : Cond.static yX8_valueAt ∈ G := mem_G 417 (by decide +kernel) (by decide +kernel)
theorem G_cd_X8_valueAt : Cond.code yX8_valueAt cX8_valueAt 2 (some .int) ∈ G := mem_G 418 (by decide +kernel) (by decide +kernel)
theorem G_ml_L_56 : Cond.methodLink RL 56 yX8_nines ∈ G := mem_G 421 (by decide +kernel) (by decide +kernel)
theorem G_im_X8_nines : Cond.instanceMethod yX8_nines ∈ G := mem_G 422 (by decide +kernel) (by decide +kernel)
theorem G_se_X8_nines : Cond.selects RX8 yX8_nines yX8_nines ∈ G := mem_G 423 (by decide +kernel) (by decide +kernel)
theorem G_cd_X8_nines : Cond.code yX8_nines cX8_nines 4 (some .int) ∈ G := mem_G 424 (by decide +kernel) (by decide +kernel)
theorem G_ml_X8_162 : Cond.methodLink RX8 162 yX1_ninesOfBlocks ∈ G := mem_G 425 (by decide +kernel) (by decide +kernel)
theorem G_im_X1_ninesOfBlocks : Cond.instanceMethod yX1_ninesOfBlocks ∈ G := mem_G 426 (by decide +kernel) (by decide +kernel)
theorem G_se_X1_ninesOfBlocks : Cond.selects RX1 yX1_ninesOfBlocks yX1_ninesOfBlocks ∈ G := mem_G 427 (by decide +kernel) (by decide +kernel)
theorem G_cd_X1_ninesOfBlocks : Cond.code yX1_ninesOfBlocks cX1_ninesOfBlocks 6 (some .int) ∈ G := mem_G 428 (by decide +kernel) (by decide +kernel)
theorem G_ml_X1_67 : Cond.methodLink RX1 67 yX1_blockWidth ∈ G := mem_G 429 (by decide +kernel) (by decide +kernel)
theorem G_ml_L_60 : Cond.methodLink RL 60 yX8_shift ∈ G := mem_G 430 (by decide +kernel) (by decide +kernel)
theorem G_im_X8_shift : Cond.instanceMethod yX8_shift ∈ G := mem_G 431 (by decide +kernel) (by decide +kernel)
theorem G_se_X8_shift : Cond.selects RX8 yX8_shift yX8_shift ∈ G := mem_G 432 (by decide +kernel) (by decide +kernel)
theorem G_cd_X8_shift : Cond.code yX8_shift cX8_shift 4 (some .int) ∈ G := mem_G 433 (by decide +kernel) (by decide +kernel)
theorem G_ml_X8_165 : Cond.methodLink RX8 165 yX1_turningRestTimes ∈ G := mem_G 434 (by decide +kernel) (by decide +kernel)
theorem G_im_X1_turningRestTimes : Cond.instanceMethod yX1_turningRestTimes ∈ G := mem_G 435 (by decide +kernel) (by decide +kernel)
theorem G_se_X1_turningRestTimes : Cond.selects RX1 yX1_turningRestTimes yX1_turningRestTimes ∈ G := mem_G 436 (by decide +kernel) (by decide +kernel)
theorem G_cd_X1_turningRestTimes : Cond.code yX1_turningRestTimes cX1_turningRestTimes 4 (some .int) ∈ G := mem_G 437 (by decide +kernel) (by decide +kernel)
theorem G_ml_X8_168 : Cond.methodLink RX8 168 yX1_placeInPeriod ∈ G := mem_G 438 (by decide +kernel) (by decide +kernel)
theorem G_im_X1_placeInPeriod : Cond.instanceMethod yX1_placeInPeriod ∈ G := mem_G 439 (by decide +kernel) (by decide +kernel)
theorem G_se_X1_placeInPeriod : Cond.selects RX1 yX1_placeInPeriod yX1_placeInPeriod ∈ G := mem_G 440 (by decide +kernel) (by decide +kernel)
theorem G_cd_X1_placeInPeriod : Cond.code yX1_placeInPeriod cX1_placeInPeriod 4 (some .int) ∈ G := mem_G 441 (by decide +kernel) (by decide +kernel)
theorem G_ml_L_64 : Cond.methodLink RL 64 yX8_multiple ∈ G := mem_G 442 (by decide +kernel) (by decide +kernel)
theorem G_im_X8_multiple : Cond.instanceMethod yX8_multiple ∈ G := mem_G 443 (by decide +kernel) (by decide +kernel)
theorem G_se_X8_multiple : Cond.selects RX8 yX8_multiple yX8_multiple ∈ G := mem_G 444 (by decide +kernel) (by decide +kernel)
theorem G_cd_X8_multiple : Cond.code yX8_multiple cX8_multiple 6 (some .int) ∈ G := mem_G 445 (by decide +kernel) (by decide +kernel)
theorem G_ml_L_68 : Cond.methodLink RL 68 yX8_order ∈ G := mem_G 446 (by decide +kernel) (by decide +kernel)
theorem G_im_X8_order : Cond.instanceMethod yX8_order ∈ G := mem_G 447 (by decide +kernel) (by decide +kernel)
theorem G_se_X8_order : Cond.selects RX8 yX8_order yX8_order ∈ G := mem_G 448 (by decide +kernel) (by decide +kernel)
theorem G_cd_X8_order : Cond.code yX8_order cX8_order 6 (some .int) ∈ G := mem_G 449 (by decide +kernel) (by decide +kernel)
theorem G_ml_X8_171 : Cond.methodLink RX8 171 yX8_remainder ∈ G := mem_G 450 (by decide +kernel) (by decide +kernel)
theorem G_ml_L_72 : Cond.methodLink RL 72 yX8_cycles ∈ G := mem_G 451 (by decide +kernel) (by decide +kernel)
theorem G_im_X8_cycles : Cond.instanceMethod yX8_cycles ∈ G := mem_G 452 (by decide +kernel) (by decide +kernel)
theorem G_se_X8_cycles : Cond.selects RX8 yX8_cycles yX8_cycles ∈ G := mem_G 453 (by decide +kernel) (by decide +kernel)
theorem G_cd_X8_cycles : Cond.code yX8_cycles cX8_cycles 8 (some .int) ∈ G := mem_G 454 (by decide +kernel) (by decide +kernel)
theorem G_ml_X8_175 : Cond.methodLink RX8 175 yX8_setAt ∈ G := mem_G 455 (by decide +kernel) (by decide +kernel)
theorem G_ml_X8_179 : Cond.methodLink RX8 179 yX8_markRing ∈ G := mem_G 456 (by decide +kernel) (by decide +kernel)
theorem G_im_X8_markRing : Cond.instanceMethod yX8_markRing ∈ G := mem_G 458 (by decide +kernel) (by decide +kernel)
theorem G_cd_X8_markRing : Cond.code yX8_markRing cX8_markRing 6 (some .int) ∈ G := mem_G 459 (by decide +kernel) (by decide +kernel)
theorem G_ml_X8_216 : Cond.methodLink RX8 216 yX8_valueAt ∈ G := mem_G 460 (by decide +kernel) (by decide +kernel)
theorem G_ml_X8_182 : Cond.methodLink RX8 182 yJ9_max_7cf53 ∈ G := mem_G 461 (by decide +kernel) (by decide +kernel)
theorem G_st_J9_max_7cf53 : Cond.static yJ9_max_7cf53 ∈ G := mem_G 462 (by decide +kernel) (by decide +kernel)
theorem G_cd_J9_max_7cf53 : Cond.code yJ9_max_7cf53 cJ9_max_7cf53 2 (some .int) ∈ G := mem_G 463 (by decide +kernel) (by decide +kernel)
theorem G_ml_L_76 : Cond.methodLink RL 76 yX8_full ∈ G := mem_G 464 (by decide +kernel) (by decide +kernel)
theorem G_im_X8_full : Cond.instanceMethod yX8_full ∈ G := mem_G 465 (by decide +kernel) (by decide +kernel)
theorem G_se_X8_full : Cond.selects RX8 yX8_full yX8_full ∈ G := mem_G 466 (by decide +kernel) (by decide +kernel)
theorem G_cd_X8_full : Cond.code yX8_full cX8_full 10 (some .int) ∈ G := mem_G 467 (by decide +kernel) (by decide +kernel)
theorem G_ml_X8_187 : Cond.methodLink RX8 187 yX1_isFullUnit ∈ G := mem_G 468 (by decide +kernel) (by decide +kernel)
theorem G_im_X1_isFullUnit : Cond.instanceMethod yX1_isFullUnit ∈ G := mem_G 469 (by decide +kernel) (by decide +kernel)
theorem G_se_X1_isFullUnit : Cond.selects RX1 yX1_isFullUnit yX1_isFullUnit ∈ G := mem_G 470 (by decide +kernel) (by decide +kernel)
theorem G_cd_X1_isFullUnit : Cond.code yX1_isFullUnit cX1_isFullUnit 1 (some .boolean) ∈ G := mem_G 471 (by decide +kernel) (by decide +kernel)
theorem G_ml_L_81 : Cond.methodLink RL 81 yX8_list ∈ G := mem_G 472 (by decide +kernel) (by decide +kernel)
theorem G_im_X8_list : Cond.instanceMethod yX8_list ∈ G := mem_G 473 (by decide +kernel) (by decide +kernel)
theorem G_se_X8_list : Cond.selects RX8 yX8_list yX8_list ∈ G := mem_G 474 (by decide +kernel) (by decide +kernel)
theorem G_cd_X8_list : Cond.code yX8_list cX8_list 3 (some .int) ∈ G := mem_G 475 (by decide +kernel) (by decide +kernel)
theorem G_ml_X8_191 : Cond.methodLink RX8 191 yX0_fillTo ∈ G := mem_G 476 (by decide +kernel) (by decide +kernel)
theorem G_im_X0_fillTo : Cond.instanceMethod yX0_fillTo ∈ G := mem_G 477 (by decide +kernel) (by decide +kernel)
theorem G_se_X0_fillTo : Cond.selects RX0 yX0_fillTo yX0_fillTo ∈ G := mem_G 478 (by decide +kernel) (by decide +kernel)
theorem G_cd_X0_fillTo : Cond.code yX0_fillTo cX0_fillTo 4 none ∈ G := mem_G 479 (by decide +kernel) (by decide +kernel)
theorem G_ml_L_85 : Cond.methodLink RL 85 yX8_thin ∈ G := mem_G 481 (by decide +kernel) (by decide +kernel)
theorem G_im_X8_thin : Cond.instanceMethod yX8_thin ∈ G := mem_G 482 (by decide +kernel) (by decide +kernel)
theorem G_se_X8_thin : Cond.selects RX8 yX8_thin yX8_thin ∈ G := mem_G 483 (by decide +kernel) (by decide +kernel)
theorem G_cd_X8_thin : Cond.code yX8_thin cX8_thin 3 (some .int) ∈ G := mem_G 484 (by decide +kernel) (by decide +kernel)
theorem G_ml_X8_198 : Cond.methodLink RX8 198 yX7_bears ∈ G := mem_G 486 (by decide +kernel) (by decide +kernel)
theorem G_im_X7_bears : Cond.instanceMethod yX7_bears ∈ G := mem_G 487 (by decide +kernel) (by decide +kernel)
theorem G_se_X7_bears : Cond.selects RX7 yX7_bears yX7_bears ∈ G := mem_G 488 (by decide +kernel) (by decide +kernel)
theorem G_cd_X7_bears : Cond.code yX7_bears cX7_bears 5 (some .boolean) ∈ G := mem_G 489 (by decide +kernel) (by decide +kernel)
theorem G_ml_X7_34 : Cond.methodLink RX7 34 yJ0_length_8abf5 ∈ G := mem_G 490 (by decide +kernel) (by decide +kernel)
theorem G_im_J0_length_8abf5 : Cond.instanceMethod yJ0_length_8abf5 ∈ G := mem_G 491 (by decide +kernel) (by decide +kernel)
theorem G_se_J0_length_8abf5 : Cond.selects RJ0 yJ0_length_8abf5 yJ0_length_8abf5 ∈ G := mem_G 492 (by decide +kernel) (by decide +kernel)
theorem G_cd_J0_length_8abf5 : Cond.code yJ0_length_8abf5 cJ0_length_8abf5 1 (some .int) ∈ G := mem_G 493 (by decide +kernel) (by decide +kernel)
theorem G_ml_J0_335 : Cond.methodLink RJ0 335 yJ0_coder_7d493 ∈ G := mem_G 494 (by decide +kernel) (by decide +kernel)
theorem G_im_J0_coder_7d493 : Cond.instanceMethod yJ0_coder_7d493 ∈ G := mem_G 495 (by decide +kernel) (by decide +kernel)
theorem G_se_J0_coder_7d493 : Cond.selects RJ0 yJ0_coder_7d493 yJ0_coder_7d493 ∈ G := mem_G 496 (by decide +kernel) (by decide +kernel)
theorem G_cd_J0_coder_7d493 : Cond.code yJ0_coder_7d493 cJ0_coder_7d493 1 (some .byte) ∈ G := mem_G 497 (by decide +kernel) (by decide +kernel)
theorem G_fl_J0_38 : Cond.fieldLink RJ0 38 "java/lang/String" "COMPACT_STRINGS" "Z" ∈ G := mem_G 498 (by decide +kernel) (by decide +kernel)
theorem G_ml_X7_39 : Cond.methodLink RX7 39 yX7_byteAt ∈ G := mem_G 500 (by decide +kernel) (by decide +kernel)
theorem G_im_X7_byteAt : Cond.instanceMethod yX7_byteAt ∈ G := mem_G 501 (by decide +kernel) (by decide +kernel)
theorem G_se_X7_byteAt : Cond.selects RX7 yX7_byteAt yX7_byteAt ∈ G := mem_G 502 (by decide +kernel) (by decide +kernel)
theorem G_cd_X7_byteAt : Cond.code yX7_byteAt cX7_byteAt 2 (some .int) ∈ G := mem_G 503 (by decide +kernel) (by decide +kernel)
theorem G_ml_X7_43 : Cond.methodLink RX7 43 yJ0_charAt_5068e ∈ G := mem_G 505 (by decide +kernel) (by decide +kernel)
theorem G_im_J0_charAt_5068e : Cond.instanceMethod yJ0_charAt_5068e ∈ G := mem_G 506 (by decide +kernel) (by decide +kernel)
theorem G_se_J0_charAt_5068e : Cond.selects RJ0 yJ0_charAt_5068e yJ0_charAt_5068e ∈ G := mem_G 507 (by decide +kernel) (by decide +kernel)
theorem G_cd_J0_charAt_5068e : Cond.code yJ0_charAt_5068e cJ0_charAt_5068e 2 (some .char) ∈ G := mem_G 508 (by decide +kernel) (by decide +kernel)
theorem G_ml_J0_492 : Cond.methodLink RJ0 492 yJ0_isLatin1_aae02 ∈ G := mem_G 509 (by decide +kernel) (by decide +kernel)
theorem G_im_J0_isLatin1_aae02 : Cond.instanceMethod yJ0_isLatin1_aae02 ∈ G := mem_G 510 (by decide +kernel) (by decide +kernel)
theorem G_se_J0_isLatin1_aae02 : Cond.selects RJ0 yJ0_isLatin1_aae02 yJ0_isLatin1_aae02 ∈ G := mem_G 511 (by decide +kernel) (by decide +kernel)
theorem G_cd_J0_isLatin1_aae02 : Cond.code yJ0_isLatin1_aae02 cJ0_isLatin1_aae02 1 (some .boolean) ∈ G := mem_G 512 (by decide +kernel) (by decide +kernel)
theorem G_ml_J0_495 : Cond.methodLink RJ0 495 yJ1_charAt_3b067 ∈ G := mem_G 513 (by decide +kernel) (by decide +kernel)
theorem G_st_J1_charAt_3b067 : Cond.static yJ1_charAt_3b067 ∈ G := mem_G 514 (by decide +kernel) (by decide +kernel)
theorem G_cd_J1_charAt_3b067 : Cond.code yJ1_charAt_3b067 cJ1_charAt_3b067 2 (some .char) ∈ G := mem_G 515 (by decide +kernel) (by decide +kernel)
theorem G_ml_J1_9 : Cond.methodLink RJ1 9 yJ0_checkIndex_df160 ∈ G := mem_G 516 (by decide +kernel) (by decide +kernel)
theorem G_st_J0_checkIndex_df160 : Cond.static yJ0_checkIndex_df160 ∈ G := mem_G 517 (by decide +kernel) (by decide +kernel)
theorem G_cd_J0_checkIndex_df160 : Cond.code yJ0_checkIndex_df160 cJ0_checkIndex_df160 2 none ∈ G := mem_G 518 (by decide +kernel) (by decide +kernel)
theorem G_fl_J0_1053 : Cond.fieldLink RJ0 1053 "jdk/internal/util/Preconditions" "SIOOBE_FORMATTER" "Ljava/util/function/BiFunction;" ∈ G := mem_G 519 (by decide +kernel) (by decide +kernel)
theorem G_ml_J0_1059 : Cond.methodLink RJ0 1059 yJ3_checkIndex_8e157 ∈ G := mem_G 521 (by decide +kernel) (by decide +kernel)
theorem G_st_J3_checkIndex_8e157 : Cond.static yJ3_checkIndex_8e157 ∈ G := mem_G 522 (by decide +kernel) (by decide +kernel)
theorem G_cd_J3_checkIndex_8e157 : Cond.code yJ3_checkIndex_8e157 cJ3_checkIndex_8e157 3 (some .int) ∈ G := mem_G 523 (by decide +kernel) (by decide +kernel)
theorem G_ml_J0_498 : Cond.methodLink RJ0 498 yJ2_charAt_3b067 ∈ G := mem_G 524 (by decide +kernel) (by decide +kernel)
theorem G_st_J2_charAt_3b067 : Cond.static yJ2_charAt_3b067 ∈ G := mem_G 525 (by decide +kernel) (by decide +kernel)
theorem G_cd_J2_charAt_3b067 : Cond.code yJ2_charAt_3b067 cJ2_charAt_3b067 2 (some .char) ∈ G := mem_G 526 (by decide +kernel) (by decide +kernel)
theorem G_ml_J2_67 : Cond.methodLink RJ2 67 yJ2_checkIndex_2214a ∈ G := mem_G 527 (by decide +kernel) (by decide +kernel)
theorem G_st_J2_checkIndex_2214a : Cond.static yJ2_checkIndex_2214a ∈ G := mem_G 528 (by decide +kernel) (by decide +kernel)
theorem G_cd_J2_checkIndex_2214a : Cond.code yJ2_checkIndex_2214a cJ2_checkIndex_2214a 2 none ∈ G := mem_G 529 (by decide +kernel) (by decide +kernel)
theorem G_ml_J2_48 : Cond.methodLink RJ2 48 yJ2_length_9d52b ∈ G := mem_G 530 (by decide +kernel) (by decide +kernel)
theorem G_st_J2_length_9d52b : Cond.static yJ2_length_9d52b ∈ G := mem_G 531 (by decide +kernel) (by decide +kernel)
theorem G_cd_J2_length_9d52b : Cond.code yJ2_length_9d52b cJ2_length_9d52b 1 (some .int) ∈ G := mem_G 532 (by decide +kernel) (by decide +kernel)
theorem G_ml_J2_414 : Cond.methodLink RJ2 414 yJ0_checkIndex_df160 ∈ G := mem_G 533 (by decide +kernel) (by decide +kernel)
theorem G_ml_J2_71 : Cond.methodLink RJ2 71 yJ2_getChar_3b067 ∈ G := mem_G 534 (by decide +kernel) (by decide +kernel)
theorem G_st_J2_getChar_3b067 : Cond.static yJ2_getChar_3b067 ∈ G := mem_G 535 (by decide +kernel) (by decide +kernel)
theorem G_cd_J2_getChar_3b067 : Cond.code yJ2_getChar_3b067 cJ2_getChar_3b067 2 (some .char) ∈ G := mem_G 536 (by decide +kernel) (by decide +kernel)
theorem G_fl_J2_44 : Cond.fieldLink RJ2 44 "java/lang/StringUTF16" "$assertionsDisabled" "Z" ∈ G := mem_G 537 (by decide +kernel) (by decide +kernel)
theorem G_fl_J2_59 : Cond.fieldLink RJ2 59 "java/lang/StringUTF16" "HI_BYTE_SHIFT" "I" ∈ G := mem_G 539 (by decide +kernel) (by decide +kernel)
theorem G_fl_J2_63 : Cond.fieldLink RJ2 63 "java/lang/StringUTF16" "LO_BYTE_SHIFT" "I" ∈ G := mem_G 541 (by decide +kernel) (by decide +kernel)
theorem G_ml_X8_202 : Cond.methodLink RX8 202 yX0_wordOn ∈ G := mem_G 543 (by decide +kernel) (by decide +kernel)
theorem G_st_X0_wordOn : Cond.static yX0_wordOn ∈ G := mem_G 544 (by decide +kernel) (by decide +kernel)
theorem G_cd_X0_wordOn : Cond.code yX0_wordOn cX0_wordOn 3 (some .int) ∈ G := mem_G 545 (by decide +kernel) (by decide +kernel)
theorem G_ml_X0_40 : Cond.methodLink RX0 40 yX0_wordText ∈ G := mem_G 546 (by decide +kernel) (by decide +kernel)
theorem G_st_X0_wordText : Cond.static yX0_wordText ∈ G := mem_G 547 (by decide +kernel) (by decide +kernel)
theorem G_cd_X0_wordText : Cond.code yX0_wordText cX0_wordText 1 (some (.object "java/lang/String")) ∈ G := mem_G 548 (by decide +kernel) (by decide +kernel)
theorem G_ml_X0_44 : Cond.methodLink RX0 44 yX7_bears ∈ G := mem_G 557 (by decide +kernel) (by decide +kernel)
theorem G_ml_X8_206 : Cond.methodLink RX8 206 yX7_clear ∈ G := mem_G 558 (by decide +kernel) (by decide +kernel)
theorem G_im_X7_clear : Cond.instanceMethod yX7_clear ∈ G := mem_G 559 (by decide +kernel) (by decide +kernel)
theorem G_se_X7_clear : Cond.selects RX7 yX7_clear yX7_clear ∈ G := mem_G 560 (by decide +kernel) (by decide +kernel)
theorem G_cd_X7_clear : Cond.code yX7_clear cX7_clear 1 none ∈ G := mem_G 561 (by decide +kernel) (by decide +kernel)
theorem G_ml_X8_209 : Cond.methodLink RX8 209 yX0_keepOnly ∈ G := mem_G 562 (by decide +kernel) (by decide +kernel)
theorem G_im_X0_keepOnly : Cond.instanceMethod yX0_keepOnly ∈ G := mem_G 563 (by decide +kernel) (by decide +kernel)
theorem G_se_X0_keepOnly : Cond.selects RX0 yX0_keepOnly yX0_keepOnly ∈ G := mem_G 564 (by decide +kernel) (by decide +kernel)
theorem G_cd_X0_keepOnly : Cond.code yX0_keepOnly cX0_keepOnly 6 none ∈ G := mem_G 565 (by decide +kernel) (by decide +kernel)
theorem G_ml_X0_64 : Cond.methodLink RX0 64 yX0_isSo ∈ G := mem_G 567 (by decide +kernel) (by decide +kernel)
theorem G_im_X0_isSo : Cond.instanceMethod yX0_isSo ∈ G := mem_G 569 (by decide +kernel) (by decide +kernel)
theorem G_cd_X0_isSo : Cond.code yX0_isSo cX0_isSo 4 (some .boolean) ∈ G := mem_G 570 (by decide +kernel) (by decide +kernel)
theorem G_ml_X0_68 : Cond.methodLink RX0 68 yX1_become ∈ G := mem_G 571 (by decide +kernel) (by decide +kernel)
theorem G_ml_X0_73 : Cond.methodLink RX0 73 yX1_ends ∈ G := mem_G 572 (by decide +kernel) (by decide +kernel)
theorem G_ml_X0_76 : Cond.methodLink RX0 76 yX1_kind ∈ G := mem_G 573 (by decide +kernel) (by decide +kernel)
theorem G_ml_X0_80 : Cond.methodLink RX0 80 yX1_isFullUnit ∈ G := mem_G 574 (by decide +kernel) (by decide +kernel)
theorem G_ml_X0_83 : Cond.methodLink RX0 83 yX1_ninesOfBlocks ∈ G := mem_G 575 (by decide +kernel) (by decide +kernel)
theorem G_st_X8_isPrime : Cond.static yX8_isPrime ∈ G := mem_G 577 (by decide +kernel) (by decide +kernel)
theorem G_cd_X8_isPrime : Cond.code yX8_isPrime cX8_isPrime 2 (some .boolean) ∈ G := mem_G 578 (by decide +kernel) (by decide +kernel)
theorem G_ml_L_90 : Cond.methodLink RL 90 yX8_listed ∈ G := mem_G 580 (by decide +kernel) (by decide +kernel)
theorem G_im_X8_listed : Cond.instanceMethod yX8_listed ∈ G := mem_G 581 (by decide +kernel) (by decide +kernel)
theorem G_se_X8_listed : Cond.selects RX8 yX8_listed yX8_listed ∈ G := mem_G 582 (by decide +kernel) (by decide +kernel)
theorem G_cd_X8_listed : Cond.code yX8_listed cX8_listed 2 (some .int) ∈ G := mem_G 583 (by decide +kernel) (by decide +kernel)
theorem G_ml_L_94 : Cond.methodLink RL 94 yX8_tells ∈ G := mem_G 584 (by decide +kernel) (by decide +kernel)
theorem G_im_X8_tells : Cond.instanceMethod yX8_tells ∈ G := mem_G 585 (by decide +kernel) (by decide +kernel)
theorem G_se_X8_tells : Cond.selects RX8 yX8_tells yX8_tells ∈ G := mem_G 586 (by decide +kernel) (by decide +kernel)
theorem G_cd_X8_tells : Cond.code yX8_tells cX8_tells 5 (some .long) ∈ G := mem_G 587 (by decide +kernel) (by decide +kernel)
theorem G_co_X8_220 : Cond.constantLong RX8 220 (-9223372036854775808 : Int64) ∈ G := mem_G 588 (by decide +kernel) (by decide +kernel)
theorem G_ml_X8_222 : Cond.methodLink RX8 222 yX4_worthTogether ∈ G := mem_G 589 (by decide +kernel) (by decide +kernel)
theorem G_im_X4_worthTogether : Cond.instanceMethod yX4_worthTogether ∈ G := mem_G 590 (by decide +kernel) (by decide +kernel)
theorem G_se_X4_worthTogether : Cond.selects RX4 yX4_worthTogether yX4_worthTogether ∈ G := mem_G 591 (by decide +kernel) (by decide +kernel)
theorem G_cd_X4_worthTogether : Cond.code yX4_worthTogether cX4_worthTogether 6 (some .long) ∈ G := mem_G 592 (by decide +kernel) (by decide +kernel)
theorem G_ml_X4_48 : Cond.methodLink RX4 48 yX4_worth ∈ G := mem_G 593 (by decide +kernel) (by decide +kernel)
theorem G_st_X4_worth : Cond.static yX4_worth ∈ G := mem_G 594 (by decide +kernel) (by decide +kernel)
theorem G_cd_X4_worth : Cond.code yX4_worth cX4_worth 4 (some .int) ∈ G := mem_G 595 (by decide +kernel) (by decide +kernel)
theorem G_ml_X4_52 : Cond.methodLink RX4 52 yJ9_min_7cf53 ∈ G := mem_G 596 (by decide +kernel) (by decide +kernel)
theorem G_st_J9_min_7cf53 : Cond.static yJ9_min_7cf53 ∈ G := mem_G 597 (by decide +kernel) (by decide +kernel)
theorem G_cd_J9_min_7cf53 : Cond.code yJ9_min_7cf53 cJ9_min_7cf53 2 (some .int) ∈ G := mem_G 598 (by decide +kernel) (by decide +kernel)
theorem G_ml_L_99 : Cond.methodLink RL 99 yX8_feed ∈ G := mem_G 599 (by decide +kernel) (by decide +kernel)
theorem G_im_X8_feed : Cond.instanceMethod yX8_feed ∈ G := mem_G 600 (by decide +kernel) (by decide +kernel)
theorem G_se_X8_feed : Cond.selects RX8 yX8_feed yX8_feed ∈ G := mem_G 601 (by decide +kernel) (by decide +kernel)
theorem G_cd_X8_feed : Cond.code yX8_feed cX8_feed 4 (some .int) ∈ G := mem_G 602 (by decide +kernel) (by decide +kernel)
theorem G_ml_X8_227 : Cond.methodLink RX8 227 yX7_add ∈ G := mem_G 603 (by decide +kernel) (by decide +kernel)
theorem G_im_X7_add : Cond.instanceMethod yX7_add ∈ G := mem_G 604 (by decide +kernel) (by decide +kernel)
theorem G_se_X7_add : Cond.selects RX7 yX7_add yX7_add ∈ G := mem_G 605 (by decide +kernel) (by decide +kernel)
theorem G_cd_X7_add : Cond.code yX7_add cX7_add 2 none ∈ G := mem_G 606 (by decide +kernel) (by decide +kernel)
theorem G_ml_L_103 : Cond.methodLink RL 103 yX8_wipe ∈ G := mem_G 608 (by decide +kernel) (by decide +kernel)
theorem G_im_X8_wipe : Cond.instanceMethod yX8_wipe ∈ G := mem_G 609 (by decide +kernel) (by decide +kernel)
theorem G_se_X8_wipe : Cond.selects RX8 yX8_wipe yX8_wipe ∈ G := mem_G 610 (by decide +kernel) (by decide +kernel)
theorem G_cd_X8_wipe : Cond.code yX8_wipe cX8_wipe 2 (some .int) ∈ G := mem_G 611 (by decide +kernel) (by decide +kernel)
theorem G_ml_L_107 : Cond.methodLink RL 107 yX8_spell ∈ G := mem_G 612 (by decide +kernel) (by decide +kernel)
theorem G_im_X8_spell : Cond.instanceMethod yX8_spell ∈ G := mem_G 613 (by decide +kernel) (by decide +kernel)
theorem G_se_X8_spell : Cond.selects RX8 yX8_spell yX8_spell ∈ G := mem_G 614 (by decide +kernel) (by decide +kernel)
theorem G_cd_X8_spell : Cond.code yX8_spell cX8_spell 5 (some .int) ∈ G := mem_G 615 (by decide +kernel) (by decide +kernel)
theorem G_ml_X8_230 : Cond.methodLink RX8 230 yX1_spelledLength ∈ G := mem_G 616 (by decide +kernel) (by decide +kernel)
theorem G_im_X1_spelledLength : Cond.instanceMethod yX1_spelledLength ∈ G := mem_G 617 (by decide +kernel) (by decide +kernel)
theorem G_se_X1_spelledLength : Cond.selects RX1 yX1_spelledLength yX1_spelledLength ∈ G := mem_G 618 (by decide +kernel) (by decide +kernel)
theorem G_cd_X1_spelledLength : Cond.code yX1_spelledLength cX1_spelledLength 2 (some .int) ∈ G := mem_G 619 (by decide +kernel) (by decide +kernel)
theorem G_ml_X1_70 : Cond.methodLink RX1 70 yX1_wholeDigits ∈ G := mem_G 620 (by decide +kernel) (by decide +kernel)
theorem G_im_X1_wholeDigits : Cond.instanceMethod yX1_wholeDigits ∈ G := mem_G 622 (by decide +kernel) (by decide +kernel)
theorem G_cd_X1_wholeDigits : Cond.code yX1_wholeDigits cX1_wholeDigits 4 (some .int) ∈ G := mem_G 623 (by decide +kernel) (by decide +kernel)
theorem G_ml_X1_83 : Cond.methodLink RX1 83 yX1_whole ∈ G := mem_G 624 (by decide +kernel) (by decide +kernel)
theorem G_ml_X8_233 : Cond.methodLink RX8 233 yX1_spelledByte ∈ G := mem_G 625 (by decide +kernel) (by decide +kernel)
theorem G_im_X1_spelledByte : Cond.instanceMethod yX1_spelledByte ∈ G := mem_G 626 (by decide +kernel) (by decide +kernel)
theorem G_se_X1_spelledByte : Cond.selects RX1 yX1_spelledByte yX1_spelledByte ∈ G := mem_G 627 (by decide +kernel) (by decide +kernel)
theorem G_cd_X1_spelledByte : Cond.code yX1_spelledByte cX1_spelledByte 4 (some .int) ∈ G := mem_G 628 (by decide +kernel) (by decide +kernel)
theorem G_ml_X1_74 : Cond.methodLink RX1 74 yX1_wholeDigit ∈ G := mem_G 629 (by decide +kernel) (by decide +kernel)
theorem G_im_X1_wholeDigit : Cond.instanceMethod yX1_wholeDigit ∈ G := mem_G 631 (by decide +kernel) (by decide +kernel)
theorem G_cd_X1_wholeDigit : Cond.code yX1_wholeDigit cX1_wholeDigit 5 (some .int) ∈ G := mem_G 632 (by decide +kernel) (by decide +kernel)
theorem G_ml_X1_77 : Cond.methodLink RX1 77 yX1_signOf ∈ G := mem_G 633 (by decide +kernel) (by decide +kernel)
theorem G_st_X1_signOf : Cond.static yX1_signOf ∈ G := mem_G 634 (by decide +kernel) (by decide +kernel)
theorem G_cd_X1_signOf : Cond.code yX1_signOf cX1_signOf 1 (some .int) ∈ G := mem_G 635 (by decide +kernel) (by decide +kernel)
theorem G_ml_X1_80 : Cond.methodLink RX1 80 yX1_restAt ∈ G := mem_G 636 (by decide +kernel) (by decide +kernel)
theorem G_ml_L_111 : Cond.methodLink RL 111 yX8_read ∈ G := mem_G 637 (by decide +kernel) (by decide +kernel)
theorem G_im_X8_read : Cond.instanceMethod yX8_read ∈ G := mem_G 638 (by decide +kernel) (by decide +kernel)
theorem G_se_X8_read : Cond.selects RX8 yX8_read yX8_read ∈ G := mem_G 639 (by decide +kernel) (by decide +kernel)
theorem G_cd_X8_read : Cond.code yX8_read cX8_read 3 (some .int) ∈ G := mem_G 640 (by decide +kernel) (by decide +kernel)
theorem G_ml_X8_236 : Cond.methodLink RX8 236 yX3_parse ∈ G := mem_G 641 (by decide +kernel) (by decide +kernel)
theorem G_im_X3_parse : Cond.instanceMethod yX3_parse ∈ G := mem_G 642 (by decide +kernel) (by decide +kernel)
theorem G_se_X3_parse : Cond.selects RX3 yX3_parse yX3_parse ∈ G := mem_G 643 (by decide +kernel) (by decide +kernel)
theorem G_cd_X3_parse : Cond.code yX3_parse cX3_parse 5 (some .int) ∈ G := mem_G 644 (by decide +kernel) (by decide +kernel)
theorem G_ml_X3_27 : Cond.methodLink RX3 27 yX7_takeDigits ∈ G := mem_G 645 (by decide +kernel) (by decide +kernel)
theorem G_im_X7_takeDigits : Cond.instanceMethod yX7_takeDigits ∈ G := mem_G 646 (by decide +kernel) (by decide +kernel)
theorem G_se_X7_takeDigits : Cond.selects RX7 yX7_takeDigits yX7_takeDigits ∈ G := mem_G 647 (by decide +kernel) (by decide +kernel)
theorem G_cd_X7_takeDigits : Cond.code yX7_takeDigits cX7_takeDigits 3 (some .int) ∈ G := mem_G 648 (by decide +kernel) (by decide +kernel)
theorem G_ml_X7_51 : Cond.methodLink RX7 51 yX7_digitOn ∈ G := mem_G 649 (by decide +kernel) (by decide +kernel)
theorem G_im_X7_digitOn : Cond.instanceMethod yX7_digitOn ∈ G := mem_G 651 (by decide +kernel) (by decide +kernel)
theorem G_cd_X7_digitOn : Cond.code yX7_digitOn cX7_digitOn 3 (some .int) ∈ G := mem_G 652 (by decide +kernel) (by decide +kernel)
theorem G_ml_X3_31 : Cond.methodLink RX3 31 yX7_takes ∈ G := mem_G 654 (by decide +kernel) (by decide +kernel)
theorem G_im_X7_takes : Cond.instanceMethod yX7_takes ∈ G := mem_G 655 (by decide +kernel) (by decide +kernel)
theorem G_se_X7_takes : Cond.selects RX7 yX7_takes yX7_takes ∈ G := mem_G 656 (by decide +kernel) (by decide +kernel)
theorem G_cd_X7_takes : Cond.code yX7_takes cX7_takes 2 (some .boolean) ∈ G := mem_G 657 (by decide +kernel) (by decide +kernel)
theorem G_ml_X3_39 : Cond.methodLink RX3 39 yX3_takesPeriod ∈ G := mem_G 659 (by decide +kernel) (by decide +kernel)
theorem G_im_X3_takesPeriod : Cond.instanceMethod yX3_takesPeriod ∈ G := mem_G 661 (by decide +kernel) (by decide +kernel)
theorem G_cd_X3_takesPeriod : Cond.code yX3_takesPeriod cX3_takesPeriod 6 (some .boolean) ∈ G := mem_G 662 (by decide +kernel) (by decide +kernel)
theorem G_ml_X3_43 : Cond.methodLink RX3 43 yX7_isAtEnd ∈ G := mem_G 663 (by decide +kernel) (by decide +kernel)
theorem G_im_X7_isAtEnd : Cond.instanceMethod yX7_isAtEnd ∈ G := mem_G 664 (by decide +kernel) (by decide +kernel)
theorem G_se_X7_isAtEnd : Cond.selects RX7 yX7_isAtEnd yX7_isAtEnd ∈ G := mem_G 665 (by decide +kernel) (by decide +kernel)
theorem G_cd_X7_isAtEnd : Cond.code yX7_isAtEnd cX7_isAtEnd 1 (some .boolean) ∈ G := mem_G 666 (by decide +kernel) (by decide +kernel)
theorem G_ml_L_115 : Cond.methodLink RL 115 yX8_run ∈ G := mem_G 667 (by decide +kernel) (by decide +kernel)
theorem G_im_X8_run : Cond.instanceMethod yX8_run ∈ G := mem_G 668 (by decide +kernel) (by decide +kernel)
theorem G_se_X8_run : Cond.selects RX8 yX8_run yX8_run ∈ G := mem_G 669 (by decide +kernel) (by decide +kernel)
theorem G_cd_X8_run : Cond.code yX8_run cX8_run 3 (some .int) ∈ G := mem_G 670 (by decide +kernel) (by decide +kernel)
theorem G_ml_X8_244 : Cond.methodLink RX8 244 yX5_parse ∈ G := mem_G 671 (by decide +kernel) (by decide +kernel)
theorem G_im_X5_parse : Cond.instanceMethod yX5_parse ∈ G := mem_G 672 (by decide +kernel) (by decide +kernel)
theorem G_se_X5_parse : Cond.selects RX5 yX5_parse yX5_parse ∈ G := mem_G 673 (by decide +kernel) (by decide +kernel)
theorem G_cd_X5_parse : Cond.code yX5_parse cX5_parse 3 (some .int) ∈ G := mem_G 674 (by decide +kernel) (by decide +kernel)
theorem G_ml_X5_31 : Cond.methodLink RX5 31 yX5_parseCommand ∈ G := mem_G 675 (by decide +kernel) (by decide +kernel)
theorem G_im_X5_parseCommand : Cond.instanceMethod yX5_parseCommand ∈ G := mem_G 677 (by decide +kernel) (by decide +kernel)
theorem G_cd_X5_parseCommand : Cond.code yX5_parseCommand cX5_parseCommand 5 (some .int) ∈ G := mem_G 678 (by decide +kernel) (by decide +kernel)
theorem G_ml_X5_43 : Cond.methodLink RX5 43 yX7_takeLetters ∈ G := mem_G 679 (by decide +kernel) (by decide +kernel)
theorem G_im_X7_takeLetters : Cond.instanceMethod yX7_takeLetters ∈ G := mem_G 680 (by decide +kernel) (by decide +kernel)
theorem G_se_X7_takeLetters : Cond.selects RX7 yX7_takeLetters yX7_takeLetters ∈ G := mem_G 681 (by decide +kernel) (by decide +kernel)
theorem G_cd_X7_takeLetters : Cond.code yX7_takeLetters cX7_takeLetters 1 none ∈ G := mem_G 682 (by decide +kernel) (by decide +kernel)
theorem G_ml_X5_46 : Cond.methodLink RX5 46 yX5_wordBetween ∈ G := mem_G 683 (by decide +kernel) (by decide +kernel)
theorem G_st_X5_wordBetween : Cond.static yX5_wordBetween ∈ G := mem_G 684 (by decide +kernel) (by decide +kernel)
theorem G_cd_X5_wordBetween : Cond.code yX5_wordBetween cX5_wordBetween 3 (some .int) ∈ G := mem_G 685 (by decide +kernel) (by decide +kernel)
theorem G_ml_X5_65 : Cond.methodLink RX5 65 yX5_wordText ∈ G := mem_G 686 (by decide +kernel) (by decide +kernel)
theorem G_st_X5_wordText : Cond.static yX5_wordText ∈ G := mem_G 687 (by decide +kernel) (by decide +kernel)
theorem G_cd_X5_wordText : Cond.code yX5_wordText cX5_wordText 1 (some (.object "java/lang/String")) ∈ G := mem_G 688 (by decide +kernel) (by decide +kernel)
theorem G_ml_X5_69 : Cond.methodLink RX5 69 yX7_bears ∈ G := mem_G 694 (by decide +kernel) (by decide +kernel)
theorem G_ml_X5_54 : Cond.methodLink RX5 54 yX5_numbersOf ∈ G := mem_G 696 (by decide +kernel) (by decide +kernel)
theorem G_st_X5_numbersOf : Cond.static yX5_numbersOf ∈ G := mem_G 697 (by decide +kernel) (by decide +kernel)
theorem G_cd_X5_numbersOf : Cond.code yX5_numbersOf cX5_numbersOf 1 (some .int) ∈ G := mem_G 698 (by decide +kernel) (by decide +kernel)
theorem G_ml_X5_39 : Cond.methodLink RX5 39 yX7_takes ∈ G := mem_G 699 (by decide +kernel) (by decide +kernel)
theorem G_ml_X5_62 : Cond.methodLink RX5 62 yX7_takeDigits ∈ G := mem_G 700 (by decide +kernel) (by decide +kernel)
theorem G_ml_X5_35 : Cond.methodLink RX5 35 yX7_isAtEnd ∈ G := mem_G 701 (by decide +kernel) (by decide +kernel)
theorem G_ml_X8_250 : Cond.methodLink RX8 250 yX8_doCommand ∈ G := mem_G 702 (by decide +kernel) (by decide +kernel)
theorem G_im_X8_doCommand : Cond.instanceMethod yX8_doCommand ∈ G := mem_G 704 (by decide +kernel) (by decide +kernel)
theorem G_cd_X8_doCommand : Cond.code yX8_doCommand cX8_doCommand 4 (some .int) ∈ G := mem_G 705 (by decide +kernel) (by decide +kernel)
theorem G_ml_X8_295 : Cond.methodLink RX8 295 yX5_number ∈ G := mem_G 706 (by decide +kernel) (by decide +kernel)
theorem G_im_X5_number : Cond.instanceMethod yX5_number ∈ G := mem_G 707 (by decide +kernel) (by decide +kernel)
theorem G_se_X5_number : Cond.selects RX5 yX5_number yX5_number ∈ G := mem_G 708 (by decide +kernel) (by decide +kernel)
theorem G_cd_X5_number : Cond.code yX5_number cX5_number 3 (some .int) ∈ G := mem_G 709 (by decide +kernel) (by decide +kernel)
theorem G_ml_X8_298 : Cond.methodLink RX8 298 yX5_word ∈ G := mem_G 711 (by decide +kernel) (by decide +kernel)
theorem G_im_X5_word : Cond.instanceMethod yX5_word ∈ G := mem_G 712 (by decide +kernel) (by decide +kernel)
theorem G_se_X5_word : Cond.selects RX5 yX5_word yX5_word ∈ G := mem_G 713 (by decide +kernel) (by decide +kernel)
theorem G_cd_X5_word : Cond.code yX5_word cX5_word 2 (some .int) ∈ G := mem_G 714 (by decide +kernel) (by decide +kernel)
theorem G_ml_X8_301 : Cond.methodLink RX8 301 yX8_fraction ∈ G := mem_G 715 (by decide +kernel) (by decide +kernel)
theorem G_ml_X8_303 : Cond.methodLink RX8 303 yX8_drop ∈ G := mem_G 716 (by decide +kernel) (by decide +kernel)
theorem G_ml_X8_306 : Cond.methodLink RX8 306 yX8_multiply ∈ G := mem_G 717 (by decide +kernel) (by decide +kernel)
theorem G_ml_X8_309 : Cond.methodLink RX8 309 yX8_sum ∈ G := mem_G 718 (by decide +kernel) (by decide +kernel)
theorem G_ml_X8_312 : Cond.methodLink RX8 312 yX8_lowest ∈ G := mem_G 719 (by decide +kernel) (by decide +kernel)
theorem G_ml_L_119 : Cond.methodLink RL 119 yX8_hold ∈ G := mem_G 720 (by decide +kernel) (by decide +kernel)
theorem G_im_X8_hold : Cond.instanceMethod yX8_hold ∈ G := mem_G 721 (by decide +kernel) (by decide +kernel)
theorem G_se_X8_hold : Cond.selects RX8 yX8_hold yX8_hold ∈ G := mem_G 722 (by decide +kernel) (by decide +kernel)
theorem G_cd_X8_hold : Cond.code yX8_hold cX8_hold 5 (some .int) ∈ G := mem_G 723 (by decide +kernel) (by decide +kernel)
theorem G_ml_X8_253 : Cond.methodLink RX8 253 yX8_holderAt ∈ G := mem_G 724 (by decide +kernel) (by decide +kernel)
theorem G_im_X8_holderAt : Cond.instanceMethod yX8_holderAt ∈ G := mem_G 726 (by decide +kernel) (by decide +kernel)
theorem G_cd_X8_holderAt : Cond.code yX8_holderAt cX8_holderAt 2 (some (.object "TurningFractions$Holder")) ∈ G := mem_G 727 (by decide +kernel) (by decide +kernel)
theorem G_ml_X8_257 : Cond.methodLink RX8 257 yX2_holdFraction ∈ G := mem_G 728 (by decide +kernel) (by decide +kernel)
theorem G_im_X2_holdFraction : Cond.instanceMethod yX2_holdFraction ∈ G := mem_G 729 (by decide +kernel) (by decide +kernel)
theorem G_se_X2_holdFraction : Cond.selects RX2 yX2_holdFraction yX2_holdFraction ∈ G := mem_G 730 (by decide +kernel) (by decide +kernel)
theorem G_cd_X2_holdFraction : Cond.code yX2_holdFraction cX2_holdFraction 2 none ∈ G := mem_G 731 (by decide +kernel) (by decide +kernel)
theorem G_ml_X2_29 : Cond.methodLink RX2 29 yX1_becomeLike ∈ G := mem_G 732 (by decide +kernel) (by decide +kernel)
theorem G_ml_L_123 : Cond.methodLink RL 123 yX8_lose ∈ G := mem_G 733 (by decide +kernel) (by decide +kernel)
theorem G_im_X8_lose : Cond.instanceMethod yX8_lose ∈ G := mem_G 734 (by decide +kernel) (by decide +kernel)
theorem G_se_X8_lose : Cond.selects RX8 yX8_lose yX8_lose ∈ G := mem_G 735 (by decide +kernel) (by decide +kernel)
theorem G_cd_X8_lose : Cond.code yX8_lose cX8_lose 4 (some .int) ∈ G := mem_G 736 (by decide +kernel) (by decide +kernel)
theorem G_ml_L_127 : Cond.methodLink RL 127 yX8_taken ∈ G := mem_G 737 (by decide +kernel) (by decide +kernel)
theorem G_im_X8_taken : Cond.instanceMethod yX8_taken ∈ G := mem_G 738 (by decide +kernel) (by decide +kernel)
theorem G_se_X8_taken : Cond.selects RX8 yX8_taken yX8_taken ∈ G := mem_G 739 (by decide +kernel) (by decide +kernel)
theorem G_cd_X8_taken : Cond.code yX8_taken cX8_taken 7 (some .int) ∈ G := mem_G 740 (by decide +kernel) (by decide +kernel)
theorem G_ml_X8_263 : Cond.methodLink RX8 263 yX2_refusalAs ∈ G := mem_G 741 (by decide +kernel) (by decide +kernel)
theorem G_im_X2_refusalAs : Cond.instanceMethod yX2_refusalAs ∈ G := mem_G 742 (by decide +kernel) (by decide +kernel)
theorem G_se_X2_refusalAs : Cond.selects RX2 yX2_refusalAs yX2_refusalAs ∈ G := mem_G 743 (by decide +kernel) (by decide +kernel)
theorem G_cd_X2_refusalAs : Cond.code yX2_refusalAs cX2_refusalAs 2 (some .int) ∈ G := mem_G 744 (by decide +kernel) (by decide +kernel)
theorem G_ml_L_131 : Cond.methodLink RL 131 yX8_was ∈ G := mem_G 745 (by decide +kernel) (by decide +kernel)
theorem G_im_X8_was : Cond.instanceMethod yX8_was ∈ G := mem_G 746 (by decide +kernel) (by decide +kernel)
theorem G_se_X8_was : Cond.selects RX8 yX8_was yX8_was ∈ G := mem_G 747 (by decide +kernel) (by decide +kernel)
theorem G_cd_X8_was : Cond.code yX8_was cX8_was 5 (some .int) ∈ G := mem_G 748 (by decide +kernel) (by decide +kernel)
theorem G_ml_L_135 : Cond.methodLink RL 135 yX8_row ∈ G := mem_G 749 (by decide +kernel) (by decide +kernel)
theorem G_im_X8_row : Cond.instanceMethod yX8_row ∈ G := mem_G 750 (by decide +kernel) (by decide +kernel)
theorem G_se_X8_row : Cond.selects RX8 yX8_row yX8_row ∈ G := mem_G 751 (by decide +kernel) (by decide +kernel)
theorem G_cd_X8_row : Cond.code yX8_row cX8_row 4 (some .int) ∈ G := mem_G 752 (by decide +kernel) (by decide +kernel)
theorem G_ml_X8_269 : Cond.methodLink RX8 269 yX2_holdRow ∈ G := mem_G 753 (by decide +kernel) (by decide +kernel)
theorem G_im_X2_holdRow : Cond.instanceMethod yX2_holdRow ∈ G := mem_G 754 (by decide +kernel) (by decide +kernel)
theorem G_se_X2_holdRow : Cond.selects RX2 yX2_holdRow yX2_holdRow ∈ G := mem_G 755 (by decide +kernel) (by decide +kernel)
theorem G_cd_X2_holdRow : Cond.code yX2_holdRow cX2_holdRow 3 none ∈ G := mem_G 756 (by decide +kernel) (by decide +kernel)
theorem G_ml_L_139 : Cond.methodLink RL 139 yX8_put ∈ G := mem_G 758 (by decide +kernel) (by decide +kernel)
theorem G_im_X8_put : Cond.instanceMethod yX8_put ∈ G := mem_G 759 (by decide +kernel) (by decide +kernel)
theorem G_se_X8_put : Cond.selects RX8 yX8_put yX8_put ∈ G := mem_G 760 (by decide +kernel) (by decide +kernel)
theorem G_cd_X8_put : Cond.code yX8_put cX8_put 6 (some .int) ∈ G := mem_G 761 (by decide +kernel) (by decide +kernel)
theorem G_ml_X8_272 : Cond.methodLink RX8 272 yX2_hasPlace ∈ G := mem_G 762 (by decide +kernel) (by decide +kernel)
theorem G_im_X2_hasPlace : Cond.instanceMethod yX2_hasPlace ∈ G := mem_G 763 (by decide +kernel) (by decide +kernel)
theorem G_se_X2_hasPlace : Cond.selects RX2 yX2_hasPlace yX2_hasPlace ∈ G := mem_G 764 (by decide +kernel) (by decide +kernel)
theorem G_cd_X2_hasPlace : Cond.code yX2_hasPlace cX2_hasPlace 2 (some .boolean) ∈ G := mem_G 765 (by decide +kernel) (by decide +kernel)
theorem G_ml_L_143 : Cond.methodLink RL 143 yX8_get ∈ G := mem_G 767 (by decide +kernel) (by decide +kernel)
theorem G_im_X8_get : Cond.instanceMethod yX8_get ∈ G := mem_G 768 (by decide +kernel) (by decide +kernel)
theorem G_se_X8_get : Cond.selects RX8 yX8_get yX8_get ∈ G := mem_G 769 (by decide +kernel) (by decide +kernel)
theorem G_cd_X8_get : Cond.code yX8_get cX8_get 4 (some .long) ∈ G := mem_G 770 (by decide +kernel) (by decide +kernel)
theorem G_ml_L_148 : Cond.methodLink RL 148 yX8_judge ∈ G := mem_G 771 (by decide +kernel) (by decide +kernel)
theorem G_im_X8_judge : Cond.instanceMethod yX8_judge ∈ G := mem_G 772 (by decide +kernel) (by decide +kernel)
theorem G_se_X8_judge : Cond.selects RX8 yX8_judge yX8_judge ∈ G := mem_G 773 (by decide +kernel) (by decide +kernel)
theorem G_cd_X8_judge : Cond.code yX8_judge cX8_judge 6 (some .int) ∈ G := mem_G 774 (by decide +kernel) (by decide +kernel)
theorem G_ml_X8_278 : Cond.methodLink RX8 278 yX2_firstUnlike ∈ G := mem_G 775 (by decide +kernel) (by decide +kernel)
theorem G_im_X2_firstUnlike : Cond.instanceMethod yX2_firstUnlike ∈ G := mem_G 776 (by decide +kernel) (by decide +kernel)
theorem G_se_X2_firstUnlike : Cond.selects RX2 yX2_firstUnlike yX2_firstUnlike ∈ G := mem_G 777 (by decide +kernel) (by decide +kernel)
theorem G_cd_X2_firstUnlike : Cond.code yX2_firstUnlike cX2_firstUnlike 4 (some .int) ∈ G := mem_G 778 (by decide +kernel) (by decide +kernel)
theorem G_ml_X2_41 : Cond.methodLink RX2 41 yX1_restAt ∈ G := mem_G 779 (by decide +kernel) (by decide +kernel)
theorem G_ml_X2_49 : Cond.methodLink RX2 49 yX1_digitOf ∈ G := mem_G 781 (by decide +kernel) (by decide +kernel)
theorem G_ml_X2_52 : Cond.methodLink RX2 52 yX1_restAfter ∈ G := mem_G 782 (by decide +kernel) (by decide +kernel)
theorem G_ml_L_152 : Cond.methodLink RL 152 yX8_image ∈ G := mem_G 783 (by decide +kernel) (by decide +kernel)
theorem G_im_X8_image : Cond.instanceMethod yX8_image ∈ G := mem_G 784 (by decide +kernel) (by decide +kernel)
theorem G_se_X8_image : Cond.selects RX8 yX8_image yX8_image ∈ G := mem_G 785 (by decide +kernel) (by decide +kernel)
theorem G_cd_X8_image : Cond.code yX8_image cX8_image 1 (some .int) ∈ G := mem_G 786 (by decide +kernel) (by decide +kernel)
theorem G_ml_X8_282 : Cond.methodLink RX8 282 yX6_becomeLike ∈ G := mem_G 787 (by decide +kernel) (by decide +kernel)
theorem G_im_X6_becomeLike : Cond.instanceMethod yX6_becomeLike ∈ G := mem_G 788 (by decide +kernel) (by decide +kernel)
theorem G_se_X6_becomeLike : Cond.selects RX6 yX6_becomeLike yX6_becomeLike ∈ G := mem_G 789 (by decide +kernel) (by decide +kernel)
theorem G_cd_X6_becomeLike : Cond.code yX6_becomeLike cX6_becomeLike 3 none ∈ G := mem_G 790 (by decide +kernel) (by decide +kernel)
theorem G_ml_X8_286 : Cond.methodLink RX8 286 yX0_becomeLike ∈ G := mem_G 791 (by decide +kernel) (by decide +kernel)
theorem G_im_X0_becomeLike : Cond.instanceMethod yX0_becomeLike ∈ G := mem_G 792 (by decide +kernel) (by decide +kernel)
theorem G_se_X0_becomeLike : Cond.selects RX0 yX0_becomeLike yX0_becomeLike ∈ G := mem_G 793 (by decide +kernel) (by decide +kernel)
theorem G_cd_X0_becomeLike : Cond.code yX0_becomeLike cX0_becomeLike 3 none ∈ G := mem_G 794 (by decide +kernel) (by decide +kernel)
theorem G_ml_L_156 : Cond.methodLink RL 156 yX8_undo ∈ G := mem_G 795 (by decide +kernel) (by decide +kernel)
theorem G_im_X8_undo : Cond.instanceMethod yX8_undo ∈ G := mem_G 796 (by decide +kernel) (by decide +kernel)
theorem G_se_X8_undo : Cond.selects RX8 yX8_undo yX8_undo ∈ G := mem_G 797 (by decide +kernel) (by decide +kernel)
theorem G_cd_X8_undo : Cond.code yX8_undo cX8_undo 1 (some .int) ∈ G := mem_G 798 (by decide +kernel) (by decide +kernel)
theorem G_ml_L_160 : Cond.methodLink RL 160 yX8_count ∈ G := mem_G 799 (by decide +kernel) (by decide +kernel)
theorem G_im_X8_count : Cond.instanceMethod yX8_count ∈ G := mem_G 800 (by decide +kernel) (by decide +kernel)
theorem G_se_X8_count : Cond.selects RX8 yX8_count yX8_count ∈ G := mem_G 801 (by decide +kernel) (by decide +kernel)
theorem G_cd_X8_count : Cond.code yX8_count cX8_count 2 (some .int) ∈ G := mem_G 802 (by decide +kernel) (by decide +kernel)
theorem G_kl_L_10 : Cond.classLink RL 10 RX9 ∈ G := mem_G 803 (by decide +kernel) (by decide +kernel)
theorem G_is_X9 : Cond.instantiable RX9 44 ∈ G := mem_G 804 (by decide +kernel) (by decide +kernel)
theorem G_ml_L_12 : Cond.methodLink RL 12 yX9_init ∈ G := mem_G 805 (by decide +kernel) (by decide +kernel)
theorem G_im_X9_init : Cond.instanceMethod yX9_init ∈ G := mem_G 806 (by decide +kernel) (by decide +kernel)
theorem G_cd_X9_init : Cond.code yX9_init cX9_init 1 none ∈ G := mem_G 807 (by decide +kernel) (by decide +kernel)
theorem G_ml_X9_3 : Cond.methodLink RX9 3 objectInit ∈ G := mem_G 808 (by decide +kernel) (by decide +kernel)
theorem G_fl_X9_89 : Cond.fieldLink RX9 89 "TurningFractionsModel" "many" "I" ∈ G := mem_G 809 (by decide +kernel) (by decide +kernel)
theorem G_fl_X9_11 : Cond.fieldLink RX9 11 "TurningFractionsModel" "as" "[I" ∈ G := mem_G 810 (by decide +kernel) (by decide +kernel)
theorem G_fl_X9_15 : Cond.fieldLink RX9 15 "TurningFractionsModel" "bs" "[I" ∈ G := mem_G 811 (by decide +kernel) (by decide +kernel)
theorem G_fl_X9_18 : Cond.fieldLink RX9 18 "TurningFractionsModel" "bases" "[I" ∈ G := mem_G 812 (by decide +kernel) (by decide +kernel)
theorem G_fl_X9_100 : Cond.fieldLink RX9 100 "TurningFractionsModel" "head" "I" ∈ G := mem_G 813 (by decide +kernel) (by decide +kernel)
theorem G_fl_X9_103 : Cond.fieldLink RX9 103 "TurningFractionsModel" "length" "I" ∈ G := mem_G 814 (by decide +kernel) (by decide +kernel)
theorem G_fl_X9_106 : Cond.fieldLink RX9 106 "TurningFractionsModel" "isEnding" "Z" ∈ G := mem_G 815 (by decide +kernel) (by decide +kernel)
theorem G_fl_X9_21 : Cond.fieldLink RX9 21 "TurningFractionsModel" "seen" "[I" ∈ G := mem_G 816 (by decide +kernel) (by decide +kernel)
theorem G_fl_X9_24 : Cond.fieldLink RX9 24 "TurningFractionsModel" "rests" "[I" ∈ G := mem_G 817 (by decide +kernel) (by decide +kernel)
theorem G_fl_X9_27 : Cond.fieldLink RX9 27 "TurningFractionsModel" "digits" "[I" ∈ G := mem_G 818 (by decide +kernel) (by decide +kernel)
theorem G_fl_X9_30 : Cond.fieldLink RX9 30 "TurningFractionsModel" "sums" "[I" ∈ G := mem_G 819 (by decide +kernel) (by decide +kernel)
theorem G_fl_X9_149 : Cond.fieldLink RX9 149 "TurningFractionsModel" "over" "I" ∈ G := mem_G 820 (by decide +kernel) (by decide +kernel)
theorem G_fl_X9_33 : Cond.fieldLink RX9 33 "TurningFractionsModel" "ring" "[I" ∈ G := mem_G 821 (by decide +kernel) (by decide +kernel)
theorem G_fl_X9_174 : Cond.fieldLink RX9 174 "TurningFractionsModel" "ringLength" "I" ∈ G := mem_G 822 (by decide +kernel) (by decide +kernel)
theorem G_fl_X9_194 : Cond.fieldLink RX9 194 "TurningFractionsModel" "listMany" "I" ∈ G := mem_G 823 (by decide +kernel) (by decide +kernel)
theorem G_fl_X9_36 : Cond.fieldLink RX9 36 "TurningFractionsModel" "listBase" "I" ∈ G := mem_G 824 (by decide +kernel) (by decide +kernel)
theorem G_fl_X9_40 : Cond.fieldLink RX9 40 "TurningFractionsModel" "list" "[I" ∈ G := mem_G 825 (by decide +kernel) (by decide +kernel)
theorem G_fl_X9_43 : Cond.fieldLink RX9 43 "TurningFractionsModel" "words" "[C" ∈ G := mem_G 826 (by decide +kernel) (by decide +kernel)
theorem G_fl_X9_47 : Cond.fieldLink RX9 47 "TurningFractionsModel" "commands" "[C" ∈ G := mem_G 827 (by decide +kernel) (by decide +kernel)
theorem G_fl_X9_50 : Cond.fieldLink RX9 50 "TurningFractionsModel" "nots" "[C" ∈ G := mem_G 828 (by decide +kernel) (by decide +kernel)
theorem G_fl_X9_53 : Cond.fieldLink RX9 53 "TurningFractionsModel" "tape" "[I" ∈ G := mem_G 829 (by decide +kernel) (by decide +kernel)
theorem G_fl_X9_215 : Cond.fieldLink RX9 215 "TurningFractionsModel" "taped" "I" ∈ G := mem_G 830 (by decide +kernel) (by decide +kernel)
theorem G_fl_X9_221 : Cond.fieldLink RX9 221 "TurningFractionsModel" "size" "I" ∈ G := mem_G 831 (by decide +kernel) (by decide +kernel)
theorem G_fl_X9_218 : Cond.fieldLink RX9 218 "TurningFractionsModel" "at" "I" ∈ G := mem_G 832 (by decide +kernel) (by decide +kernel)
theorem G_fl_X9_242 : Cond.fieldLink RX9 242 "TurningFractionsModel" "made" "J" ∈ G := mem_G 833 (by decide +kernel) (by decide +kernel)
theorem G_fl_X9_246 : Cond.fieldLink RX9 246 "TurningFractionsModel" "power" "J" ∈ G := mem_G 834 (by decide +kernel) (by decide +kernel)
theorem G_fl_X9_249 : Cond.fieldLink RX9 249 "TurningFractionsModel" "figures" "I" ∈ G := mem_G 835 (by decide +kernel) (by decide +kernel)
theorem G_fl_X9_258 : Cond.fieldLink RX9 258 "TurningFractionsModel" "above" "J" ∈ G := mem_G 836 (by decide +kernel) (by decide +kernel)
theorem G_fl_X9_261 : Cond.fieldLink RX9 261 "TurningFractionsModel" "below" "J" ∈ G := mem_G 837 (by decide +kernel) (by decide +kernel)
theorem G_fl_X9_56 : Cond.fieldLink RX9 56 "TurningFractionsModel" "told" "[I" ∈ G := mem_G 838 (by decide +kernel) (by decide +kernel)
theorem G_fl_X9_59 : Cond.fieldLink RX9 59 "TurningFractionsModel" "holds" "[I" ∈ G := mem_G 839 (by decide +kernel) (by decide +kernel)
theorem G_fl_X9_62 : Cond.fieldLink RX9 62 "TurningFractionsModel" "heldAs" "[I" ∈ G := mem_G 840 (by decide +kernel) (by decide +kernel)
theorem G_fl_X9_65 : Cond.fieldLink RX9 65 "TurningFractionsModel" "heldBs" "[I" ∈ G := mem_G 841 (by decide +kernel) (by decide +kernel)
theorem G_fl_X9_68 : Cond.fieldLink RX9 68 "TurningFractionsModel" "heldBases" "[I" ∈ G := mem_G 842 (by decide +kernel) (by decide +kernel)
theorem G_fl_X9_71 : Cond.fieldLink RX9 71 "TurningFractionsModel" "rowSizes" "[I" ∈ G := mem_G 843 (by decide +kernel) (by decide +kernel)
theorem G_fl_X9_74 : Cond.fieldLink RX9 74 "TurningFractionsModel" "items" "[I" ∈ G := mem_G 844 (by decide +kernel) (by decide +kernel)
theorem G_fl_X9_305 : Cond.fieldLink RX9 305 "TurningFractionsModel" "isKept" "Z" ∈ G := mem_G 845 (by decide +kernel) (by decide +kernel)
theorem G_fl_X9_308 : Cond.fieldLink RX9 308 "TurningFractionsModel" "keptMany" "I" ∈ G := mem_G 846 (by decide +kernel) (by decide +kernel)
theorem G_fl_X9_77 : Cond.fieldLink RX9 77 "TurningFractionsModel" "keptAs" "[I" ∈ G := mem_G 847 (by decide +kernel) (by decide +kernel)
theorem G_fl_X9_80 : Cond.fieldLink RX9 80 "TurningFractionsModel" "keptBs" "[I" ∈ G := mem_G 848 (by decide +kernel) (by decide +kernel)
theorem G_fl_X9_83 : Cond.fieldLink RX9 83 "TurningFractionsModel" "keptBases" "[I" ∈ G := mem_G 849 (by decide +kernel) (by decide +kernel)
theorem G_fl_X9_311 : Cond.fieldLink RX9 311 "TurningFractionsModel" "keptListMany" "I" ∈ G := mem_G 850 (by decide +kernel) (by decide +kernel)
theorem G_fl_X9_314 : Cond.fieldLink RX9 314 "TurningFractionsModel" "keptListBase" "I" ∈ G := mem_G 851 (by decide +kernel) (by decide +kernel)
theorem G_fl_X9_86 : Cond.fieldLink RX9 86 "TurningFractionsModel" "keptList" "[I" ∈ G := mem_G 852 (by decide +kernel) (by decide +kernel)
theorem G_ml_L_17 : Cond.methodLink RL 17 yX9_fraction ∈ G := mem_G 943 (by decide +kernel) (by decide +kernel)
theorem G_im_X9_fraction : Cond.instanceMethod yX9_fraction ∈ G := mem_G 944 (by decide +kernel) (by decide +kernel)
theorem G_se_X9_fraction : Cond.selects RX9 yX9_fraction yX9_fraction ∈ G := mem_G 945 (by decide +kernel) (by decide +kernel)
theorem G_cd_X9_fraction : Cond.code yX9_fraction cX9_fraction 4 (some .int) ∈ G := mem_G 946 (by decide +kernel) (by decide +kernel)
theorem G_co_X9_114 : Cond.constantLong RX9 114 (9999 : Int64) ∈ G := mem_G 947 (by decide +kernel) (by decide +kernel)
theorem G_ml_X9_92 : Cond.methodLink RX9 92 yX9_isIn ∈ G := mem_G 948 (by decide +kernel) (by decide +kernel)
theorem G_st_X9_isIn : Cond.static yX9_isIn ∈ G := mem_G 949 (by decide +kernel) (by decide +kernel)
theorem G_cd_X9_isIn : Cond.code yX9_isIn cX9_isIn 6 (some .boolean) ∈ G := mem_G 950 (by decide +kernel) (by decide +kernel)
theorem G_co_X9_116 : Cond.constantLong RX9 116 (999 : Int64) ∈ G := mem_G 951 (by decide +kernel) (by decide +kernel)
theorem G_ml_X9_118 : Cond.methodLink RX9 118 yX9_isBase ∈ G := mem_G 952 (by decide +kernel) (by decide +kernel)
theorem G_st_X9_isBase : Cond.static yX9_isBase ∈ G := mem_G 953 (by decide +kernel) (by decide +kernel)
theorem G_cd_X9_isBase : Cond.code yX9_isBase cX9_isBase 1 (some .boolean) ∈ G := mem_G 954 (by decide +kernel) (by decide +kernel)
theorem G_co_X9_96 : Cond.constantLong RX9 96 (2 : Int64) ∈ G := mem_G 955 (by decide +kernel) (by decide +kernel)
theorem G_co_X9_98 : Cond.constantLong RX9 98 (16 : Int64) ∈ G := mem_G 956 (by decide +kernel) (by decide +kernel)
theorem G_ml_X9_122 : Cond.methodLink RX9 122 yX9_comes ∈ G := mem_G 957 (by decide +kernel) (by decide +kernel)
theorem G_im_X9_comes : Cond.instanceMethod yX9_comes ∈ G := mem_G 959 (by decide +kernel) (by decide +kernel)
theorem G_cd_X9_comes : Cond.code yX9_comes cX9_comes 4 (some .int) ∈ G := mem_G 960 (by decide +kernel) (by decide +kernel)
theorem G_ml_L_22 : Cond.methodLink RL 22 yX9_drop ∈ G := mem_G 961 (by decide +kernel) (by decide +kernel)
theorem G_im_X9_drop : Cond.instanceMethod yX9_drop ∈ G := mem_G 962 (by decide +kernel) (by decide +kernel)
theorem G_se_X9_drop : Cond.selects RX9 yX9_drop yX9_drop ∈ G := mem_G 963 (by decide +kernel) (by decide +kernel)
theorem G_cd_X9_drop : Cond.code yX9_drop cX9_drop 3 (some .int) ∈ G := mem_G 964 (by decide +kernel) (by decide +kernel)
theorem G_ml_X9_126 : Cond.methodLink RX9 126 yX9_isFraction ∈ G := mem_G 965 (by decide +kernel) (by decide +kernel)
theorem G_im_X9_isFraction : Cond.instanceMethod yX9_isFraction ∈ G := mem_G 967 (by decide +kernel) (by decide +kernel)
theorem G_cd_X9_isFraction : Cond.code yX9_isFraction cX9_isFraction 2 (some .boolean) ∈ G := mem_G 968 (by decide +kernel) (by decide +kernel)
theorem G_ml_L_27 : Cond.methodLink RL 27 yX9_multiply ∈ G := mem_G 969 (by decide +kernel) (by decide +kernel)
theorem G_im_X9_multiply : Cond.instanceMethod yX9_multiply ∈ G := mem_G 970 (by decide +kernel) (by decide +kernel)
theorem G_se_X9_multiply : Cond.selects RX9 yX9_multiply yX9_multiply ∈ G := mem_G 971 (by decide +kernel) (by decide +kernel)
theorem G_cd_X9_multiply : Cond.code yX9_multiply cX9_multiply 3 (some .int) ∈ G := mem_G 972 (by decide +kernel) (by decide +kernel)
theorem G_ml_L_31 : Cond.methodLink RL 31 yX9_sum ∈ G := mem_G 973 (by decide +kernel) (by decide +kernel)
theorem G_im_X9_sum : Cond.instanceMethod yX9_sum ∈ G := mem_G 974 (by decide +kernel) (by decide +kernel)
theorem G_se_X9_sum : Cond.selects RX9 yX9_sum yX9_sum ∈ G := mem_G 975 (by decide +kernel) (by decide +kernel)
theorem G_cd_X9_sum : Cond.code yX9_sum cX9_sum 5 (some .int) ∈ G := mem_G 976 (by decide +kernel) (by decide +kernel)
theorem G_ml_X9_133 : Cond.methodLink RX9 133 yX9_comesLowest ∈ G := mem_G 977 (by decide +kernel) (by decide +kernel)
theorem G_im_X9_comesLowest : Cond.instanceMethod yX9_comesLowest ∈ G := mem_G 979 (by decide +kernel) (by decide +kernel)
theorem G_cd_X9_comesLowest : Cond.code yX9_comesLowest cX9_comesLowest 8 (some .int) ∈ G := mem_G 980 (by decide +kernel) (by decide +kernel)
theorem G_ml_X9_129 : Cond.methodLink RX9 129 yX9_divisor ∈ G := mem_G 981 (by decide +kernel) (by decide +kernel)
theorem G_st_X9_divisor : Cond.static yX9_divisor ∈ G := mem_G 982 (by decide +kernel) (by decide +kernel)
theorem G_cd_X9_divisor : Cond.code yX9_divisor cX9_divisor 10 (some .long) ∈ G := mem_G 983 (by decide +kernel) (by decide +kernel)
theorem G_ml_L_35 : Cond.methodLink RL 35 yX9_lowest ∈ G := mem_G 984 (by decide +kernel) (by decide +kernel)
theorem G_im_X9_lowest : Cond.instanceMethod yX9_lowest ∈ G := mem_G 985 (by decide +kernel) (by decide +kernel)
theorem G_se_X9_lowest : Cond.selects RX9 yX9_lowest yX9_lowest ∈ G := mem_G 986 (by decide +kernel) (by decide +kernel)
theorem G_cd_X9_lowest : Cond.code yX9_lowest cX9_lowest 3 (some .int) ∈ G := mem_G 987 (by decide +kernel) (by decide +kernel)
theorem G_ml_L_39 : Cond.methodLink RL 39 yX9_of ∈ G := mem_G 988 (by decide +kernel) (by decide +kernel)
theorem G_im_X9_of : Cond.instanceMethod yX9_of ∈ G := mem_G 989 (by decide +kernel) (by decide +kernel)
theorem G_se_X9_of : Cond.selects RX9 yX9_of yX9_of ∈ G := mem_G 990 (by decide +kernel) (by decide +kernel)
theorem G_cd_X9_of : Cond.code yX9_of cX9_of 3 (some .int) ∈ G := mem_G 991 (by decide +kernel) (by decide +kernel)
theorem G_ml_X9_137 : Cond.methodLink RX9 137 yX9_looksAt ∈ G := mem_G 992 (by decide +kernel) (by decide +kernel)
theorem G_im_X9_looksAt : Cond.instanceMethod yX9_looksAt ∈ G := mem_G 994 (by decide +kernel) (by decide +kernel)
theorem G_cd_X9_looksAt : Cond.code yX9_looksAt cX9_looksAt 2 none ∈ G := mem_G 995 (by decide +kernel) (by decide +kernel)
theorem G_ml_X9_110 : Cond.methodLink RX9 110 yX9_looks ∈ G := mem_G 996 (by decide +kernel) (by decide +kernel)
theorem G_im_X9_looks : Cond.instanceMethod yX9_looks ∈ G := mem_G 998 (by decide +kernel) (by decide +kernel)
theorem G_cd_X9_looks : Cond.code yX9_looks cX9_looks 7 none ∈ G := mem_G 999 (by decide +kernel) (by decide +kernel)
theorem G_ml_X9_141 : Cond.methodLink RX9 141 yX9_kindNow ∈ G := mem_G 1000 (by decide +kernel) (by decide +kernel)
theorem G_im_X9_kindNow : Cond.instanceMethod yX9_kindNow ∈ G := mem_G 1002 (by decide +kernel) (by decide +kernel)
theorem G_cd_X9_kindNow : Cond.code yX9_kindNow cX9_kindNow 1 (some .int) ∈ G := mem_G 1003 (by decide +kernel) (by decide +kernel)
theorem G_ml_L_43 : Cond.methodLink RL 43 yX9_digit ∈ G := mem_G 1004 (by decide +kernel) (by decide +kernel)
theorem G_im_X9_digit : Cond.instanceMethod yX9_digit ∈ G := mem_G 1005 (by decide +kernel) (by decide +kernel)
theorem G_se_X9_digit : Cond.selects RX9 yX9_digit yX9_digit ∈ G := mem_G 1006 (by decide +kernel) (by decide +kernel)
theorem G_cd_X9_digit : Cond.code yX9_digit cX9_digit 3 (some .int) ∈ G := mem_G 1007 (by decide +kernel) (by decide +kernel)
theorem G_ml_X9_145 : Cond.methodLink RX9 145 yX9_placeOf ∈ G := mem_G 1008 (by decide +kernel) (by decide +kernel)
theorem G_im_X9_placeOf : Cond.instanceMethod yX9_placeOf ∈ G := mem_G 1010 (by decide +kernel) (by decide +kernel)
theorem G_cd_X9_placeOf : Cond.code yX9_placeOf cX9_placeOf 2 (some .int) ∈ G := mem_G 1011 (by decide +kernel) (by decide +kernel)
theorem G_ml_L_47 : Cond.methodLink RL 47 yX9_rest ∈ G := mem_G 1012 (by decide +kernel) (by decide +kernel)
theorem G_im_X9_rest : Cond.instanceMethod yX9_rest ∈ G := mem_G 1013 (by decide +kernel) (by decide +kernel)
theorem G_se_X9_rest : Cond.selects RX9 yX9_rest yX9_rest ∈ G := mem_G 1014 (by decide +kernel) (by decide +kernel)
theorem G_cd_X9_rest : Cond.code yX9_rest cX9_rest 3 (some .int) ∈ G := mem_G 1015 (by decide +kernel) (by decide +kernel)
theorem G_ml_L_51 : Cond.methodLink RL 51 yX9_place ∈ G := mem_G 1016 (by decide +kernel) (by decide +kernel)
theorem G_im_X9_place : Cond.instanceMethod yX9_place ∈ G := mem_G 1017 (by decide +kernel) (by decide +kernel)
theorem G_se_X9_place : Cond.selects RX9 yX9_place yX9_place ∈ G := mem_G 1018 (by decide +kernel) (by decide +kernel)
theorem G_cd_X9_place : Cond.code yX9_place cX9_place 4 (some .int) ∈ G := mem_G 1019 (by decide +kernel) (by decide +kernel)
theorem G_ml_L_55 : Cond.methodLink RL 55 yX9_block ∈ G := mem_G 1020 (by decide +kernel) (by decide +kernel)
theorem G_im_X9_block : Cond.instanceMethod yX9_block ∈ G := mem_G 1021 (by decide +kernel) (by decide +kernel)
theorem G_se_X9_block : Cond.selects RX9 yX9_block yX9_block ∈ G := mem_G 1022 (by decide +kernel) (by decide +kernel)
theorem G_cd_X9_block : Cond.code yX9_block cX9_block 4 (some .int) ∈ G := mem_G 1023 (by decide +kernel) (by decide +kernel)
theorem G_ml_X9_152 : Cond.methodLink RX9 152 yX9_isParted ∈ G := mem_G 1024 (by decide +kernel) (by decide +kernel)
theorem G_im_X9_isParted : Cond.instanceMethod yX9_isParted ∈ G := mem_G 1026 (by decide +kernel) (by decide +kernel)
theorem G_cd_X9_isParted : Cond.code yX9_isParted cX9_isParted 2 (some .boolean) ∈ G := mem_G 1027 (by decide +kernel) (by decide +kernel)
theorem G_co_X9_155 : Cond.constantLong RX9 155 (-1 : Int64) ∈ G := mem_G 1028 (by decide +kernel) (by decide +kernel)
theorem G_ml_X9_157 : Cond.methodLink RX9 157 yX9_blocks ∈ G := mem_G 1029 (by decide +kernel) (by decide +kernel)
theorem G_im_X9_blocks : Cond.instanceMethod yX9_blocks ∈ G := mem_G 1031 (by decide +kernel) (by decide +kernel)
theorem G_cd_X9_blocks : Cond.code yX9_blocks cX9_blocks 8 none ∈ G := mem_G 1032 (by decide +kernel) (by decide +kernel)
theorem G_ml_L_59 : Cond.methodLink RL 59 yX9_nines ∈ G := mem_G 1033 (by decide +kernel) (by decide +kernel)
theorem G_im_X9_nines : Cond.instanceMethod yX9_nines ∈ G := mem_G 1034 (by decide +kernel) (by decide +kernel)
theorem G_se_X9_nines : Cond.selects RX9 yX9_nines yX9_nines ∈ G := mem_G 1035 (by decide +kernel) (by decide +kernel)
theorem G_cd_X9_nines : Cond.code yX9_nines cX9_nines 3 (some .int) ∈ G := mem_G 1036 (by decide +kernel) (by decide +kernel)
theorem G_ml_X9_171 : Cond.methodLink RX9 171 yX9_ninesNow ∈ G := mem_G 1037 (by decide +kernel) (by decide +kernel)
theorem G_im_X9_ninesNow : Cond.instanceMethod yX9_ninesNow ∈ G := mem_G 1039 (by decide +kernel) (by decide +kernel)
theorem G_cd_X9_ninesNow : Cond.code yX9_ninesNow cX9_ninesNow 7 (some .int) ∈ G := mem_G 1040 (by decide +kernel) (by decide +kernel)
theorem G_co_X9_161 : Cond.constantLong RX9 161 (1000000 : Int64) ∈ G := mem_G 1041 (by decide +kernel) (by decide +kernel)
theorem G_ml_X9_163 : Cond.methodLink RX9 163 yX9_smallNines ∈ G := mem_G 1042 (by decide +kernel) (by decide +kernel)
theorem G_im_X9_smallNines : Cond.instanceMethod yX9_smallNines ∈ G := mem_G 1044 (by decide +kernel) (by decide +kernel)
theorem G_cd_X9_smallNines : Cond.code yX9_smallNines cX9_smallNines 8 (some .int) ∈ G := mem_G 1045 (by decide +kernel) (by decide +kernel)
theorem G_ml_X9_167 : Cond.methodLink RX9 167 yX9_greatNines ∈ G := mem_G 1046 (by decide +kernel) (by decide +kernel)
theorem G_im_X9_greatNines : Cond.instanceMethod yX9_greatNines ∈ G := mem_G 1048 (by decide +kernel) (by decide +kernel)
theorem G_cd_X9_greatNines : Cond.code yX9_greatNines cX9_greatNines 8 (some .int) ∈ G := mem_G 1049 (by decide +kernel) (by decide +kernel)
theorem G_ml_L_63 : Cond.methodLink RL 63 yX9_shift ∈ G := mem_G 1050 (by decide +kernel) (by decide +kernel)
theorem G_im_X9_shift : Cond.instanceMethod yX9_shift ∈ G := mem_G 1051 (by decide +kernel) (by decide +kernel)
theorem G_se_X9_shift : Cond.selects RX9 yX9_shift yX9_shift ∈ G := mem_G 1052 (by decide +kernel) (by decide +kernel)
theorem G_cd_X9_shift : Cond.code yX9_shift cX9_shift 3 (some .int) ∈ G := mem_G 1053 (by decide +kernel) (by decide +kernel)
theorem G_ml_X9_177 : Cond.methodLink RX9 177 yX9_keepsRing ∈ G := mem_G 1054 (by decide +kernel) (by decide +kernel)
theorem G_im_X9_keepsRing : Cond.instanceMethod yX9_keepsRing ∈ G := mem_G 1056 (by decide +kernel) (by decide +kernel)
theorem G_cd_X9_keepsRing : Cond.code yX9_keepsRing cX9_keepsRing 3 none ∈ G := mem_G 1057 (by decide +kernel) (by decide +kernel)
theorem G_ml_X9_180 : Cond.methodLink RX9 180 yX9_shiftNow ∈ G := mem_G 1058 (by decide +kernel) (by decide +kernel)
theorem G_im_X9_shiftNow : Cond.instanceMethod yX9_shiftNow ∈ G := mem_G 1060 (by decide +kernel) (by decide +kernel)
theorem G_cd_X9_shiftNow : Cond.code yX9_shiftNow cX9_shiftNow 4 (some .int) ∈ G := mem_G 1061 (by decide +kernel) (by decide +kernel)
theorem G_ml_L_67 : Cond.methodLink RL 67 yX9_multiple ∈ G := mem_G 1062 (by decide +kernel) (by decide +kernel)
theorem G_im_X9_multiple : Cond.instanceMethod yX9_multiple ∈ G := mem_G 1063 (by decide +kernel) (by decide +kernel)
theorem G_se_X9_multiple : Cond.selects RX9 yX9_multiple yX9_multiple ∈ G := mem_G 1064 (by decide +kernel) (by decide +kernel)
theorem G_cd_X9_multiple : Cond.code yX9_multiple cX9_multiple 4 (some .int) ∈ G := mem_G 1065 (by decide +kernel) (by decide +kernel)
theorem G_ml_L_71 : Cond.methodLink RL 71 yX9_order ∈ G := mem_G 1066 (by decide +kernel) (by decide +kernel)
theorem G_im_X9_order : Cond.instanceMethod yX9_order ∈ G := mem_G 1067 (by decide +kernel) (by decide +kernel)
theorem G_se_X9_order : Cond.selects RX9 yX9_order yX9_order ∈ G := mem_G 1068 (by decide +kernel) (by decide +kernel)
theorem G_cd_X9_order : Cond.code yX9_order cX9_order 5 (some .int) ∈ G := mem_G 1069 (by decide +kernel) (by decide +kernel)
theorem G_ml_L_75 : Cond.methodLink RL 75 yX9_cycles ∈ G := mem_G 1070 (by decide +kernel) (by decide +kernel)
theorem G_im_X9_cycles : Cond.instanceMethod yX9_cycles ∈ G := mem_G 1071 (by decide +kernel) (by decide +kernel)
theorem G_se_X9_cycles : Cond.selects RX9 yX9_cycles yX9_cycles ∈ G := mem_G 1072 (by decide +kernel) (by decide +kernel)
theorem G_cd_X9_cycles : Cond.code yX9_cycles cX9_cycles 9 (some .int) ∈ G := mem_G 1073 (by decide +kernel) (by decide +kernel)
theorem G_ml_X9_183 : Cond.methodLink RX9 183 yJ9_max_7cf53 ∈ G := mem_G 1074 (by decide +kernel) (by decide +kernel)
theorem G_ml_L_80 : Cond.methodLink RL 80 yX9_full ∈ G := mem_G 1075 (by decide +kernel) (by decide +kernel)
theorem G_im_X9_full : Cond.instanceMethod yX9_full ∈ G := mem_G 1076 (by decide +kernel) (by decide +kernel)
theorem G_se_X9_full : Cond.selects RX9 yX9_full yX9_full ∈ G := mem_G 1077 (by decide +kernel) (by decide +kernel)
theorem G_cd_X9_full : Cond.code yX9_full cX9_full 9 (some .int) ∈ G := mem_G 1078 (by decide +kernel) (by decide +kernel)
theorem G_ml_X9_188 : Cond.methodLink RX9 188 yX9_isFull ∈ G := mem_G 1079 (by decide +kernel) (by decide +kernel)
theorem G_im_X9_isFull : Cond.instanceMethod yX9_isFull ∈ G := mem_G 1081 (by decide +kernel) (by decide +kernel)
theorem G_cd_X9_isFull : Cond.code yX9_isFull cX9_isFull 3 (some .boolean) ∈ G := mem_G 1082 (by decide +kernel) (by decide +kernel)
theorem G_ml_L_84 : Cond.methodLink RL 84 yX9_list ∈ G := mem_G 1083 (by decide +kernel) (by decide +kernel)
theorem G_im_X9_list : Cond.instanceMethod yX9_list ∈ G := mem_G 1084 (by decide +kernel) (by decide +kernel)
theorem G_se_X9_list : Cond.selects RX9 yX9_list yX9_list ∈ G := mem_G 1085 (by decide +kernel) (by decide +kernel)
theorem G_cd_X9_list : Cond.code yX9_list cX9_list 4 (some .int) ∈ G := mem_G 1086 (by decide +kernel) (by decide +kernel)
theorem G_co_X9_192 : Cond.constantLong RX9 192 (400 : Int64) ∈ G := mem_G 1087 (by decide +kernel) (by decide +kernel)
theorem G_ml_L_93 : Cond.methodLink RL 93 yX9_listed ∈ G := mem_G 1088 (by decide +kernel) (by decide +kernel)
theorem G_im_X9_listed : Cond.instanceMethod yX9_listed ∈ G := mem_G 1089 (by decide +kernel) (by decide +kernel)
theorem G_se_X9_listed : Cond.selects RX9 yX9_listed yX9_listed ∈ G := mem_G 1090 (by decide +kernel) (by decide +kernel)
theorem G_cd_X9_listed : Cond.code yX9_listed cX9_listed 2 (some .int) ∈ G := mem_G 1091 (by decide +kernel) (by decide +kernel)
theorem G_ml_L_98 : Cond.methodLink RL 98 yX9_tells ∈ G := mem_G 1092 (by decide +kernel) (by decide +kernel)
theorem G_im_X9_tells : Cond.instanceMethod yX9_tells ∈ G := mem_G 1093 (by decide +kernel) (by decide +kernel)
theorem G_se_X9_tells : Cond.selects RX9 yX9_tells yX9_tells ∈ G := mem_G 1094 (by decide +kernel) (by decide +kernel)
theorem G_cd_X9_tells : Cond.code yX9_tells cX9_tells 7 (some .long) ∈ G := mem_G 1095 (by decide +kernel) (by decide +kernel)
theorem G_co_X9_203 : Cond.constantLong RX9 203 (5 : Int64) ∈ G := mem_G 1096 (by decide +kernel) (by decide +kernel)
theorem G_co_X9_205 : Cond.constantLong RX9 205 (99 : Int64) ∈ G := mem_G 1097 (by decide +kernel) (by decide +kernel)
theorem G_co_X9_207 : Cond.constantLong RX9 207 (-9223372036854775808 : Int64) ∈ G := mem_G 1098 (by decide +kernel) (by decide +kernel)
theorem G_ml_X9_209 : Cond.methodLink RX9 209 yX9_worth ∈ G := mem_G 1099 (by decide +kernel) (by decide +kernel)
theorem G_st_X9_worth : Cond.static yX9_worth ∈ G := mem_G 1100 (by decide +kernel) (by decide +kernel)
theorem G_cd_X9_worth : Cond.code yX9_worth cX9_worth 4 (some .long) ∈ G := mem_G 1101 (by decide +kernel) (by decide +kernel)
theorem G_ml_X9_200 : Cond.methodLink RX9 200 yJ9_min_f86c9 ∈ G := mem_G 1102 (by decide +kernel) (by decide +kernel)
theorem G_st_J9_min_f86c9 : Cond.static yJ9_min_f86c9 ∈ G := mem_G 1103 (by decide +kernel) (by decide +kernel)
theorem G_cd_J9_min_f86c9 : Cond.code yJ9_min_f86c9 cJ9_min_f86c9 4 (some .long) ∈ G := mem_G 1104 (by decide +kernel) (by decide +kernel)
theorem G_ml_L_102 : Cond.methodLink RL 102 yX9_feed ∈ G := mem_G 1105 (by decide +kernel) (by decide +kernel)
theorem G_im_X9_feed : Cond.instanceMethod yX9_feed ∈ G := mem_G 1106 (by decide +kernel) (by decide +kernel)
theorem G_se_X9_feed : Cond.selects RX9 yX9_feed yX9_feed ∈ G := mem_G 1107 (by decide +kernel) (by decide +kernel)
theorem G_cd_X9_feed : Cond.code yX9_feed cX9_feed 4 (some .int) ∈ G := mem_G 1108 (by decide +kernel) (by decide +kernel)
theorem G_co_X9_213 : Cond.constantLong RX9 213 (4 : Int64) ∈ G := mem_G 1109 (by decide +kernel) (by decide +kernel)
theorem G_ml_L_106 : Cond.methodLink RL 106 yX9_wipe ∈ G := mem_G 1110 (by decide +kernel) (by decide +kernel)
theorem G_im_X9_wipe : Cond.instanceMethod yX9_wipe ∈ G := mem_G 1111 (by decide +kernel) (by decide +kernel)
theorem G_se_X9_wipe : Cond.selects RX9 yX9_wipe yX9_wipe ∈ G := mem_G 1112 (by decide +kernel) (by decide +kernel)
theorem G_cd_X9_wipe : Cond.code yX9_wipe cX9_wipe 2 (some .int) ∈ G := mem_G 1113 (by decide +kernel) (by decide +kernel)
theorem G_ml_L_89 : Cond.methodLink RL 89 yX9_thin ∈ G := mem_G 1114 (by decide +kernel) (by decide +kernel)
theorem G_im_X9_thin : Cond.instanceMethod yX9_thin ∈ G := mem_G 1115 (by decide +kernel) (by decide +kernel)
theorem G_se_X9_thin : Cond.selects RX9 yX9_thin yX9_thin ∈ G := mem_G 1116 (by decide +kernel) (by decide +kernel)
theorem G_cd_X9_thin : Cond.code yX9_thin cX9_thin 5 (some .int) ∈ G := mem_G 1117 (by decide +kernel) (by decide +kernel)
theorem G_ml_X9_224 : Cond.methodLink RX9 224 yX9_wordOf ∈ G := mem_G 1118 (by decide +kernel) (by decide +kernel)
theorem G_im_X9_wordOf : Cond.instanceMethod yX9_wordOf ∈ G := mem_G 1120 (by decide +kernel) (by decide +kernel)
theorem G_cd_X9_wordOf : Cond.code yX9_wordOf cX9_wordOf 7 (some .int) ∈ G := mem_G 1121 (by decide +kernel) (by decide +kernel)
theorem G_ml_X9_227 : Cond.methodLink RX9 227 yX9_isSo ∈ G := mem_G 1122 (by decide +kernel) (by decide +kernel)
theorem G_im_X9_isSo : Cond.instanceMethod yX9_isSo ∈ G := mem_G 1124 (by decide +kernel) (by decide +kernel)
theorem G_cd_X9_isSo : Cond.code yX9_isSo cX9_isSo 3 (some .boolean) ∈ G := mem_G 1125 (by decide +kernel) (by decide +kernel)
theorem G_ml_X9_197 : Cond.methodLink RX9 197 yX9_isPrime ∈ G := mem_G 1126 (by decide +kernel) (by decide +kernel)
theorem G_st_X9_isPrime : Cond.static yX9_isPrime ∈ G := mem_G 1127 (by decide +kernel) (by decide +kernel)
theorem G_cd_X9_isPrime : Cond.code yX9_isPrime cX9_isPrime 2 (some .boolean) ∈ G := mem_G 1128 (by decide +kernel) (by decide +kernel)
theorem G_ml_L_110 : Cond.methodLink RL 110 yX9_spell ∈ G := mem_G 1129 (by decide +kernel) (by decide +kernel)
theorem G_im_X9_spell : Cond.instanceMethod yX9_spell ∈ G := mem_G 1130 (by decide +kernel) (by decide +kernel)
theorem G_se_X9_spell : Cond.selects RX9 yX9_spell yX9_spell ∈ G := mem_G 1131 (by decide +kernel) (by decide +kernel)
theorem G_cd_X9_spell : Cond.code yX9_spell cX9_spell 7 (some .int) ∈ G := mem_G 1132 (by decide +kernel) (by decide +kernel)
theorem G_ml_X9_230 : Cond.methodLink RX9 230 yX9_wholeSize ∈ G := mem_G 1133 (by decide +kernel) (by decide +kernel)
theorem G_im_X9_wholeSize : Cond.instanceMethod yX9_wholeSize ∈ G := mem_G 1135 (by decide +kernel) (by decide +kernel)
theorem G_cd_X9_wholeSize : Cond.code yX9_wholeSize cX9_wholeSize 4 (some .int) ∈ G := mem_G 1136 (by decide +kernel) (by decide +kernel)
theorem G_ml_X9_233 : Cond.methodLink RX9 233 yX9_wholeDigit ∈ G := mem_G 1137 (by decide +kernel) (by decide +kernel)
theorem G_im_X9_wholeDigit : Cond.instanceMethod yX9_wholeDigit ∈ G := mem_G 1139 (by decide +kernel) (by decide +kernel)
theorem G_cd_X9_wholeDigit : Cond.code yX9_wholeDigit cX9_wholeDigit 5 (some .int) ∈ G := mem_G 1140 (by decide +kernel) (by decide +kernel)
theorem G_ml_X9_236 : Cond.methodLink RX9 236 yX9_signOf ∈ G := mem_G 1141 (by decide +kernel) (by decide +kernel)
theorem G_st_X9_signOf : Cond.static yX9_signOf ∈ G := mem_G 1142 (by decide +kernel) (by decide +kernel)
theorem G_cd_X9_signOf : Cond.code yX9_signOf cX9_signOf 1 (some .int) ∈ G := mem_G 1143 (by decide +kernel) (by decide +kernel)
theorem G_ml_L_114 : Cond.methodLink RL 114 yX9_read ∈ G := mem_G 1144 (by decide +kernel) (by decide +kernel)
theorem G_im_X9_read : Cond.instanceMethod yX9_read ∈ G := mem_G 1145 (by decide +kernel) (by decide +kernel)
theorem G_se_X9_read : Cond.selects RX9 yX9_read yX9_read ∈ G := mem_G 1146 (by decide +kernel) (by decide +kernel)
theorem G_cd_X9_read : Cond.code yX9_read cX9_read 2 (some .int) ∈ G := mem_G 1147 (by decide +kernel) (by decide +kernel)
theorem G_ml_X9_264 : Cond.methodLink RX9 264 yX9_isNumeral ∈ G := mem_G 1148 (by decide +kernel) (by decide +kernel)
theorem G_im_X9_isNumeral : Cond.instanceMethod yX9_isNumeral ∈ G := mem_G 1150 (by decide +kernel) (by decide +kernel)
theorem G_cd_X9_isNumeral : Cond.code yX9_isNumeral cX9_isNumeral 3 (some .boolean) ∈ G := mem_G 1151 (by decide +kernel) (by decide +kernel)
theorem G_ml_X9_255 : Cond.methodLink RX9 255 yX9_readsDigits ∈ G := mem_G 1152 (by decide +kernel) (by decide +kernel)
theorem G_im_X9_readsDigits : Cond.instanceMethod yX9_readsDigits ∈ G := mem_G 1154 (by decide +kernel) (by decide +kernel)
theorem G_cd_X9_readsDigits : Cond.code yX9_readsDigits cX9_readsDigits 2 none ∈ G := mem_G 1155 (by decide +kernel) (by decide +kernel)
theorem G_ml_X9_252 : Cond.methodLink RX9 252 yX9_digitAt ∈ G := mem_G 1156 (by decide +kernel) (by decide +kernel)
theorem G_im_X9_digitAt : Cond.instanceMethod yX9_digitAt ∈ G := mem_G 1158 (by decide +kernel) (by decide +kernel)
theorem G_cd_X9_digitAt : Cond.code yX9_digitAt cX9_digitAt 1 (some .int) ∈ G := mem_G 1159 (by decide +kernel) (by decide +kernel)
theorem G_ml_X9_239 : Cond.methodLink RX9 239 yX9_isAt ∈ G := mem_G 1160 (by decide +kernel) (by decide +kernel)
theorem G_im_X9_isAt : Cond.instanceMethod yX9_isAt ∈ G := mem_G 1162 (by decide +kernel) (by decide +kernel)
theorem G_cd_X9_isAt : Cond.code yX9_isAt cX9_isAt 3 (some .boolean) ∈ G := mem_G 1163 (by decide +kernel) (by decide +kernel)
theorem G_ml_L_118 : Cond.methodLink RL 118 yX9_run ∈ G := mem_G 1164 (by decide +kernel) (by decide +kernel)
theorem G_im_X9_run : Cond.instanceMethod yX9_run ∈ G := mem_G 1165 (by decide +kernel) (by decide +kernel)
theorem G_se_X9_run : Cond.selects RX9 yX9_run yX9_run ∈ G := mem_G 1166 (by decide +kernel) (by decide +kernel)
theorem G_cd_X9_run : Cond.code yX9_run cX9_run 4 (some .int) ∈ G := mem_G 1167 (by decide +kernel) (by decide +kernel)
theorem G_ml_X9_288 : Cond.methodLink RX9 288 yX9_command ∈ G := mem_G 1168 (by decide +kernel) (by decide +kernel)
theorem G_im_X9_command : Cond.instanceMethod yX9_command ∈ G := mem_G 1170 (by decide +kernel) (by decide +kernel)
theorem G_cd_X9_command : Cond.code yX9_command cX9_command 5 (some .int) ∈ G := mem_G 1171 (by decide +kernel) (by decide +kernel)
theorem G_ml_X9_267 : Cond.methodLink RX9 267 yX9_commandOf ∈ G := mem_G 1172 (by decide +kernel) (by decide +kernel)
theorem G_im_X9_commandOf : Cond.instanceMethod yX9_commandOf ∈ G := mem_G 1174 (by decide +kernel) (by decide +kernel)
theorem G_cd_X9_commandOf : Cond.code yX9_commandOf cX9_commandOf 7 (some .int) ∈ G := mem_G 1175 (by decide +kernel) (by decide +kernel)
theorem G_ml_X9_270 : Cond.methodLink RX9 270 yX9_numbersOf ∈ G := mem_G 1176 (by decide +kernel) (by decide +kernel)
theorem G_st_X9_numbersOf : Cond.static yX9_numbersOf ∈ G := mem_G 1177 (by decide +kernel) (by decide +kernel)
theorem G_cd_X9_numbersOf : Cond.code yX9_numbersOf cX9_numbersOf 1 (some .int) ∈ G := mem_G 1178 (by decide +kernel) (by decide +kernel)
theorem G_ml_X9_291 : Cond.methodLink RX9 291 yX9_done ∈ G := mem_G 1179 (by decide +kernel) (by decide +kernel)
theorem G_im_X9_done : Cond.instanceMethod yX9_done ∈ G := mem_G 1181 (by decide +kernel) (by decide +kernel)
theorem G_cd_X9_done : Cond.code yX9_done cX9_done 2 (some .int) ∈ G := mem_G 1182 (by decide +kernel) (by decide +kernel)
theorem G_ml_X9_273 : Cond.methodLink RX9 273 yX9_fraction ∈ G := mem_G 1183 (by decide +kernel) (by decide +kernel)
theorem G_ml_X9_276 : Cond.methodLink RX9 276 yX9_drop ∈ G := mem_G 1184 (by decide +kernel) (by decide +kernel)
theorem G_ml_X9_279 : Cond.methodLink RX9 279 yX9_multiply ∈ G := mem_G 1185 (by decide +kernel) (by decide +kernel)
theorem G_ml_X9_282 : Cond.methodLink RX9 282 yX9_sum ∈ G := mem_G 1186 (by decide +kernel) (by decide +kernel)
theorem G_ml_X9_285 : Cond.methodLink RX9 285 yX9_lowest ∈ G := mem_G 1187 (by decide +kernel) (by decide +kernel)
theorem G_ml_L_122 : Cond.methodLink RL 122 yX9_hold ∈ G := mem_G 1188 (by decide +kernel) (by decide +kernel)
theorem G_im_X9_hold : Cond.instanceMethod yX9_hold ∈ G := mem_G 1189 (by decide +kernel) (by decide +kernel)
theorem G_se_X9_hold : Cond.selects RX9 yX9_hold yX9_hold ∈ G := mem_G 1190 (by decide +kernel) (by decide +kernel)
theorem G_cd_X9_hold : Cond.code yX9_hold cX9_hold 3 (some .int) ∈ G := mem_G 1191 (by decide +kernel) (by decide +kernel)
theorem G_ml_X9_294 : Cond.methodLink RX9 294 yX9_isHolder ∈ G := mem_G 1192 (by decide +kernel) (by decide +kernel)
theorem G_st_X9_isHolder : Cond.static yX9_isHolder ∈ G := mem_G 1193 (by decide +kernel) (by decide +kernel)
theorem G_cd_X9_isHolder : Cond.code yX9_isHolder cX9_isHolder 1 (some .boolean) ∈ G := mem_G 1194 (by decide +kernel) (by decide +kernel)
theorem G_ml_X9_297 : Cond.methodLink RX9 297 yX9_looksHeld ∈ G := mem_G 1195 (by decide +kernel) (by decide +kernel)
theorem G_im_X9_looksHeld : Cond.instanceMethod yX9_looksHeld ∈ G := mem_G 1197 (by decide +kernel) (by decide +kernel)
theorem G_cd_X9_looksHeld : Cond.code yX9_looksHeld cX9_looksHeld 2 none ∈ G := mem_G 1198 (by decide +kernel) (by decide +kernel)
theorem G_ml_L_126 : Cond.methodLink RL 126 yX9_lose ∈ G := mem_G 1199 (by decide +kernel) (by decide +kernel)
theorem G_im_X9_lose : Cond.instanceMethod yX9_lose ∈ G := mem_G 1200 (by decide +kernel) (by decide +kernel)
theorem G_se_X9_lose : Cond.selects RX9 yX9_lose yX9_lose ∈ G := mem_G 1201 (by decide +kernel) (by decide +kernel)
theorem G_cd_X9_lose : Cond.code yX9_lose cX9_lose 3 (some .int) ∈ G := mem_G 1202 (by decide +kernel) (by decide +kernel)
theorem G_ml_L_130 : Cond.methodLink RL 130 yX9_taken ∈ G := mem_G 1203 (by decide +kernel) (by decide +kernel)
theorem G_im_X9_taken : Cond.instanceMethod yX9_taken ∈ G := mem_G 1204 (by decide +kernel) (by decide +kernel)
theorem G_se_X9_taken : Cond.selects RX9 yX9_taken yX9_taken ∈ G := mem_G 1205 (by decide +kernel) (by decide +kernel)
theorem G_cd_X9_taken : Cond.code yX9_taken cX9_taken 4 (some .int) ∈ G := mem_G 1206 (by decide +kernel) (by decide +kernel)
theorem G_co_X9_300 : Cond.constantLong RX9 300 (3 : Int64) ∈ G := mem_G 1207 (by decide +kernel) (by decide +kernel)
theorem G_ml_X9_302 : Cond.methodLink RX9 302 yX9_whyNot ∈ G := mem_G 1208 (by decide +kernel) (by decide +kernel)
theorem G_im_X9_whyNot : Cond.instanceMethod yX9_whyNot ∈ G := mem_G 1210 (by decide +kernel) (by decide +kernel)
theorem G_cd_X9_whyNot : Cond.code yX9_whyNot cX9_whyNot 3 (some .int) ∈ G := mem_G 1211 (by decide +kernel) (by decide +kernel)
theorem G_ml_L_134 : Cond.methodLink RL 134 yX9_was ∈ G := mem_G 1212 (by decide +kernel) (by decide +kernel)
theorem G_im_X9_was : Cond.instanceMethod yX9_was ∈ G := mem_G 1213 (by decide +kernel) (by decide +kernel)
theorem G_se_X9_was : Cond.selects RX9 yX9_was yX9_was ∈ G := mem_G 1214 (by decide +kernel) (by decide +kernel)
theorem G_cd_X9_was : Cond.code yX9_was cX9_was 4 (some .int) ∈ G := mem_G 1215 (by decide +kernel) (by decide +kernel)
theorem G_ml_L_138 : Cond.methodLink RL 138 yX9_row ∈ G := mem_G 1216 (by decide +kernel) (by decide +kernel)
theorem G_im_X9_row : Cond.instanceMethod yX9_row ∈ G := mem_G 1217 (by decide +kernel) (by decide +kernel)
theorem G_se_X9_row : Cond.selects RX9 yX9_row yX9_row ∈ G := mem_G 1218 (by decide +kernel) (by decide +kernel)
theorem G_cd_X9_row : Cond.code yX9_row cX9_row 4 (some .int) ∈ G := mem_G 1219 (by decide +kernel) (by decide +kernel)
theorem G_ml_L_142 : Cond.methodLink RL 142 yX9_put ∈ G := mem_G 1220 (by decide +kernel) (by decide +kernel)
theorem G_im_X9_put : Cond.instanceMethod yX9_put ∈ G := mem_G 1221 (by decide +kernel) (by decide +kernel)
theorem G_se_X9_put : Cond.selects RX9 yX9_put yX9_put ∈ G := mem_G 1222 (by decide +kernel) (by decide +kernel)
theorem G_cd_X9_put : Cond.code yX9_put cX9_put 5 (some .int) ∈ G := mem_G 1223 (by decide +kernel) (by decide +kernel)
theorem G_ml_L_147 : Cond.methodLink RL 147 yX9_get ∈ G := mem_G 1224 (by decide +kernel) (by decide +kernel)
theorem G_im_X9_get : Cond.instanceMethod yX9_get ∈ G := mem_G 1225 (by decide +kernel) (by decide +kernel)
theorem G_se_X9_get : Cond.selects RX9 yX9_get yX9_get ∈ G := mem_G 1226 (by decide +kernel) (by decide +kernel)
theorem G_cd_X9_get : Cond.code yX9_get cX9_get 3 (some .long) ∈ G := mem_G 1227 (by decide +kernel) (by decide +kernel)
theorem G_ml_L_151 : Cond.methodLink RL 151 yX9_judge ∈ G := mem_G 1228 (by decide +kernel) (by decide +kernel)
theorem G_im_X9_judge : Cond.instanceMethod yX9_judge ∈ G := mem_G 1229 (by decide +kernel) (by decide +kernel)
theorem G_se_X9_judge : Cond.selects RX9 yX9_judge yX9_judge ∈ G := mem_G 1230 (by decide +kernel) (by decide +kernel)
theorem G_cd_X9_judge : Cond.code yX9_judge cX9_judge 5 (some .int) ∈ G := mem_G 1231 (by decide +kernel) (by decide +kernel)
theorem G_ml_L_155 : Cond.methodLink RL 155 yX9_image ∈ G := mem_G 1232 (by decide +kernel) (by decide +kernel)
theorem G_im_X9_image : Cond.instanceMethod yX9_image ∈ G := mem_G 1233 (by decide +kernel) (by decide +kernel)
theorem G_se_X9_image : Cond.selects RX9 yX9_image yX9_image ∈ G := mem_G 1234 (by decide +kernel) (by decide +kernel)
theorem G_cd_X9_image : Cond.code yX9_image cX9_image 2 (some .int) ∈ G := mem_G 1235 (by decide +kernel) (by decide +kernel)
theorem G_ml_L_159 : Cond.methodLink RL 159 yX9_undo ∈ G := mem_G 1236 (by decide +kernel) (by decide +kernel)
theorem G_im_X9_undo : Cond.instanceMethod yX9_undo ∈ G := mem_G 1237 (by decide +kernel) (by decide +kernel)
theorem G_se_X9_undo : Cond.selects RX9 yX9_undo yX9_undo ∈ G := mem_G 1238 (by decide +kernel) (by decide +kernel)
theorem G_cd_X9_undo : Cond.code yX9_undo cX9_undo 2 (some .int) ∈ G := mem_G 1239 (by decide +kernel) (by decide +kernel)
theorem G_ml_L_163 : Cond.methodLink RL 163 yX9_count ∈ G := mem_G 1240 (by decide +kernel) (by decide +kernel)
theorem G_im_X9_count : Cond.instanceMethod yX9_count ∈ G := mem_G 1241 (by decide +kernel) (by decide +kernel)
theorem G_se_X9_count : Cond.selects RX9 yX9_count yX9_count ∈ G := mem_G 1242 (by decide +kernel) (by decide +kernel)
theorem G_cd_X9_count : Cond.code yX9_count cX9_count 2 (some .int) ∈ G := mem_G 1243 (by decide +kernel) (by decide +kernel)
theorem G_fl_J0_9 : Cond.fieldLink RJ0 9 "java/lang/String" "value" "[B" ∈ G := mem_G 1244 (by decide +kernel) (by decide +kernel)
theorem G_fl_J0_15 : Cond.fieldLink RJ0 15 "java/lang/String" "coder" "B" ∈ G := mem_G 1245 (by decide +kernel) (by decide +kernel)
theorem inG_X0 : ∀ w ∈ wsX00, w ∈ G := mem_Gs [129, 131, 133, 135] (by decide +kernel) (by decide +kernel)
theorem inG_X1 : ∀ w ∈ wsX10, w ∈ G := mem_Gs [91, 93, 95, 97, 99, 101, 103] (by decide +kernel) (by decide +kernel)
theorem inG_X2 : ∀ w ∈ wsX20, w ∈ G := mem_Gs [227, 229, 231, 233] (by decide +kernel) (by decide +kernel)
theorem inG_X3 : ∀ w ∈ wsX30, w ∈ G := mem_Gs [174, 176] (by decide +kernel) (by decide +kernel)
theorem inG_X4 : ∀ w ∈ wsX40, w ∈ G := mem_Gs [206, 208] (by decide +kernel) (by decide +kernel)
theorem inG_X5 : ∀ w ∈ wsX50, w ∈ G := mem_Gs [189, 191, 193] (by decide +kernel) (by decide +kernel)
theorem inG_X6 : ∀ w ∈ wsX60, w ∈ G := mem_Gs [109, 111] (by decide +kernel) (by decide +kernel)
theorem inG_X7 : ∀ w ∈ wsX70, w ∈ G := mem_Gs [155, 157, 159, 161] (by decide +kernel) (by decide +kernel)
theorem inG_X8 : ∀ w ∈ wsX80, w ∈ G := mem_Gs [248, 250, 252, 254, 256, 258, 260, 262, 264, 266, 268, 270] (by decide +kernel) (by decide +kernel)
theorem inG_X9 : ∀ w ∈ wsX90, w ∈ G := mem_Gs [853, 855, 857, 859, 861, 863, 865, 867, 869, 871, 873, 875, 877, 879, 881, 883, 885, 887, 889, 891, 893, 895, 897, 899, 901, 903, 905, 907, 909, 911, 913, 915, 917, 919, 921, 923, 925, 927, 929, 931, 933, 935, 937, 939] (by decide +kernel) (by decide +kernel)
theorem gv_L_13 : GoodIn G (wsV RL 13 RX8 yX8_fraction (wW yX8_fraction cX8_fraction 4 (some .int))) := good_V G_ml_L_13 G_im_X8_fraction G_se_X8_fraction G_in_X8 G_cd_X8_fraction
theorem gs_X8_81 : GoodIn G (va_wsS RX8 81 yX8_isWithin (wW yX8_isWithin cX8_isWithin 3 (some .boolean))) := good_S G_ml_X8_81 G_st_X8_isWithin G_in_X8 G_cd_X8_isWithin
theorem gs_X8_85 : GoodIn G (va_wsS RX8 85 yX8_isBase (wW yX8_isBase cX8_isBase 1 (some .boolean))) := good_S G_ml_X8_85 G_st_X8_isBase G_in_X8 G_cd_X8_isBase
theorem gv_X8_89 : GoodIn G (wsV RX8 89 RX6 yX6_add (wW yX6_add cX6_add 4 (some .int))) := good_V G_ml_X8_89 G_im_X6_add G_se_X6_add G_in_X6 G_cd_X6_add
theorem gv_X6_22 : GoodIn G (wsV RX6 22 RX1 yX1_become (wW yX1_become cX1_become 5 none)) := good_V G_ml_X6_22 G_im_X1_become G_se_X1_become G_in_X1 G_cd_X1_become
theorem gv_X1_45 : GoodIn G (wsV RX1 45 RX1 yX1_turns (wW yX1_turns cX1_turns 2 (some .boolean))) := good_V G_ml_X1_45 G_im_X1_turns G_se_X1_turns G_in_X1 G_cd_X1_turns
theorem gv_X1_49 : GoodIn G (wsV RX1 49 RX1 yX1_restAfter (wW yX1_restAfter cX1_restAfter 2 (some .int))) := good_V G_ml_X1_49 G_im_X1_restAfter G_se_X1_restAfter G_in_X1 G_cd_X1_restAfter
theorem gv_L_18 : GoodIn G (wsV RL 18 RX8 yX8_drop (wW yX8_drop cX8_drop 2 (some .int))) := good_V G_ml_L_18 G_im_X8_drop G_se_X8_drop G_in_X8 G_cd_X8_drop
theorem gv_X8_93 : GoodIn G (wsV RX8 93 RX6 yX6_takeAway (wW yX6_takeAway cX6_takeAway 3 (some .int))) := good_V G_ml_X8_93 G_im_X6_takeAway G_se_X6_takeAway G_in_X6 G_cd_X6_takeAway
theorem gv_X6_26 : GoodIn G (wsV RX6 26 RX6 yX6_at (wW yX6_at cX6_at 2 (some (.object "TurningFractions$Fraction")))) := good_V G_ml_X6_26 G_im_X6_at G_se_X6_at G_in_X6 G_cd_X6_at
theorem gv_X6_30 : GoodIn G (wsV RX6 30 RX1 yX1_becomeLike (wW yX1_becomeLike cX1_becomeLike 2 none)) := good_V G_ml_X6_30 G_im_X1_becomeLike G_se_X1_becomeLike G_in_X1 G_cd_X1_becomeLike
theorem gv_L_23 : GoodIn G (wsV RL 23 RX8 yX8_multiply (wW yX8_multiply cX8_multiply 5 (some .int))) := good_V G_ml_L_23 G_im_X8_multiply G_se_X8_multiply G_in_X8 G_cd_X8_multiply
theorem gv_X8_97 : GoodIn G (wsV RX8 97 RX6 yX6_at (wW yX6_at cX6_at 2 (some (.object "TurningFractions$Fraction")))) := good_V G_ml_X8_97 G_im_X6_at G_se_X6_at G_in_X6 G_cd_X6_at
theorem gv_X8_111 : GoodIn G (wsV RX8 111 RX1 yX1_become (wW yX1_become cX1_become 5 none)) := good_V G_ml_X8_111 G_im_X1_become G_se_X1_become G_in_X1 G_cd_X1_become
theorem gv_L_28 : GoodIn G (wsV RL 28 RX8 yX8_sum (wW yX8_sum cX8_sum 6 (some .int))) := good_V G_ml_L_28 G_im_X8_sum G_se_X8_sum G_in_X8 G_cd_X8_sum
theorem gv_X8_115 : GoodIn G (wsV RX8 115 RX8 yX8_addInLowestTerms (wW yX8_addInLowestTerms cX8_addInLowestTerms 12 (some .int))) := good_V G_ml_X8_115 G_im_X8_addInLowestTerms G_se_X8_addInLowestTerms G_in_X8 G_cd_X8_addInLowestTerms
theorem gs_X8_119 : GoodIn G (va_wsS RX8 119 yX8_commonDivisor (wW yX8_commonDivisor cX8_commonDivisor 11 (some .long))) := good_S G_ml_X8_119 G_st_X8_commonDivisor G_in_X8 G_cd_X8_commonDivisor
theorem gs_X8_123 : GoodIn G (va_wsS RX8 123 yX8_quotient (wW yX8_quotient cX8_quotient 4 (some .long))) := good_S G_ml_X8_123 G_st_X8_quotient G_in_X8 G_cd_X8_quotient
theorem gv_L_32 : GoodIn G (wsV RL 32 RX8 yX8_lowest (wW yX8_lowest cX8_lowest 5 (some .int))) := good_V G_ml_L_32 G_im_X8_lowest G_se_X8_lowest G_in_X8 G_cd_X8_lowest
theorem gv_L_36 : GoodIn G (wsV RL 36 RX8 yX8_of (wW yX8_of cX8_of 4 (some .int))) := good_V G_ml_L_36 G_im_X8_of G_se_X8_of G_in_X8 G_cd_X8_of
theorem gv_X8_126 : GoodIn G (wsV RX8 126 RX1 yX1_whole (wW yX1_whole cX1_whole 1 (some .int))) := good_V G_ml_X8_126 G_im_X1_whole G_se_X1_whole G_in_X1 G_cd_X1_whole
theorem gv_X8_136 : GoodIn G (wsV RX8 136 RX1 yX1_kind (wW yX1_kind cX1_kind 1 (some .int))) := good_V G_ml_X8_136 G_im_X1_kind G_se_X1_kind G_in_X1 G_cd_X1_kind
theorem gv_X1_56 : GoodIn G (wsV RX1 56 RX1 yX1_ends (wW yX1_ends cX1_ends 1 (some .boolean))) := good_V G_ml_X1_56 G_im_X1_ends G_se_X1_ends G_in_X1 G_cd_X1_ends
theorem gv_L_40 : GoodIn G (wsV RL 40 RX8 yX8_digit (wW yX8_digit cX8_digit 4 (some .int))) := good_V G_ml_L_40 G_im_X8_digit G_se_X8_digit G_in_X8 G_cd_X8_digit
theorem gv_X8_139 : GoodIn G (wsV RX8 139 RX1 yX1_restAt (wW yX1_restAt cX1_restAt 5 (some .int))) := good_V G_ml_X8_139 G_im_X1_restAt G_se_X1_restAt G_in_X1 G_cd_X1_restAt
theorem gv_X8_142 : GoodIn G (wsV RX8 142 RX1 yX1_digitOf (wW yX1_digitOf cX1_digitOf 2 (some .int))) := good_V G_ml_X8_142 G_im_X1_digitOf G_se_X1_digitOf G_in_X1 G_cd_X1_digitOf
theorem gv_L_44 : GoodIn G (wsV RL 44 RX8 yX8_rest (wW yX8_rest cX8_rest 4 (some .int))) := good_V G_ml_L_44 G_im_X8_rest G_se_X8_rest G_in_X8 G_cd_X8_rest
theorem gv_L_48 : GoodIn G (wsV RL 48 RX8 yX8_place (wW yX8_place cX8_place 4 (some .int))) := good_V G_ml_L_48 G_im_X8_place G_se_X8_place G_in_X8 G_cd_X8_place
theorem gv_X8_145 : GoodIn G (wsV RX8 145 RX1 yX1_placeOfDigit (wW yX1_placeOfDigit cX1_placeOfDigit 4 (some .int))) := good_V G_ml_X8_145 G_im_X1_placeOfDigit G_se_X1_placeOfDigit G_in_X1 G_cd_X1_placeOfDigit
theorem gv_X1_60 : GoodIn G (wsV RX1 60 RX1 yX1_digitOf (wW yX1_digitOf cX1_digitOf 2 (some .int))) := good_V G_ml_X1_60 G_im_X1_digitOf G_se_X1_digitOf G_in_X1 G_cd_X1_digitOf
theorem gv_L_52 : GoodIn G (wsV RL 52 RX8 yX8_block (wW yX8_block cX8_block 5 (some .int))) := good_V G_ml_L_52 G_im_X8_block G_se_X8_block G_in_X8 G_cd_X8_block
theorem gv_X8_148 : GoodIn G (wsV RX8 148 RX1 yX1_partsInto (wW yX1_partsInto cX1_partsInto 2 (some .boolean))) := good_V G_ml_X8_148 G_im_X1_partsInto G_se_X1_partsInto G_in_X1 G_cd_X1_partsInto
theorem gv_X8_151 : GoodIn G (wsV RX8 151 RX1 yX1_blockWidth (wW yX1_blockWidth cX1_blockWidth 2 (some .int))) := good_V G_ml_X8_151 G_im_X1_blockWidth G_se_X1_blockWidth G_in_X1 G_cd_X1_blockWidth
theorem gv_X8_154 : GoodIn G (wsV RX8 154 RX4 yX4_load (wW yX4_load cX4_load 4 none)) := good_V G_ml_X8_154 G_im_X4_load G_se_X4_load G_in_X4 G_cd_X4_load
theorem gv_X4_25 : GoodIn G (wsV RX4 25 RX1 yX1_digitOf (wW yX1_digitOf cX1_digitOf 2 (some .int))) := good_V G_ml_X4_25 G_im_X1_digitOf G_se_X1_digitOf G_in_X1 G_cd_X1_digitOf
theorem gv_X4_33 : GoodIn G (wsV RX4 33 RX1 yX1_restAfter (wW yX1_restAfter cX1_restAfter 2 (some .int))) := good_V G_ml_X4_33 G_im_X1_restAfter G_se_X1_restAfter G_in_X1 G_cd_X1_restAfter
theorem gv_X8_158 : GoodIn G (wsV RX8 158 RX4 yX4_placeOfBlocks (wW yX4_placeOfBlocks cX4_placeOfBlocks 9 (some .int))) := good_V G_ml_X8_158 G_im_X4_placeOfBlocks G_se_X4_placeOfBlocks G_in_X4 G_cd_X4_placeOfBlocks
theorem gv_L_56 : GoodIn G (wsV RL 56 RX8 yX8_nines (wW yX8_nines cX8_nines 4 (some .int))) := good_V G_ml_L_56 G_im_X8_nines G_se_X8_nines G_in_X8 G_cd_X8_nines
theorem gv_X8_162 : GoodIn G (wsV RX8 162 RX1 yX1_ninesOfBlocks (wW yX1_ninesOfBlocks cX1_ninesOfBlocks 6 (some .int))) := good_V G_ml_X8_162 G_im_X1_ninesOfBlocks G_se_X1_ninesOfBlocks G_in_X1 G_cd_X1_ninesOfBlocks
theorem gv_X1_67 : GoodIn G (wsV RX1 67 RX1 yX1_blockWidth (wW yX1_blockWidth cX1_blockWidth 2 (some .int))) := good_V G_ml_X1_67 G_im_X1_blockWidth G_se_X1_blockWidth G_in_X1 G_cd_X1_blockWidth
theorem gv_L_60 : GoodIn G (wsV RL 60 RX8 yX8_shift (wW yX8_shift cX8_shift 4 (some .int))) := good_V G_ml_L_60 G_im_X8_shift G_se_X8_shift G_in_X8 G_cd_X8_shift
theorem gv_X8_165 : GoodIn G (wsV RX8 165 RX1 yX1_turningRestTimes (wW yX1_turningRestTimes cX1_turningRestTimes 4 (some .int))) := good_V G_ml_X8_165 G_im_X1_turningRestTimes G_se_X1_turningRestTimes G_in_X1 G_cd_X1_turningRestTimes
theorem gv_X8_168 : GoodIn G (wsV RX8 168 RX1 yX1_placeInPeriod (wW yX1_placeInPeriod cX1_placeInPeriod 4 (some .int))) := good_V G_ml_X8_168 G_im_X1_placeInPeriod G_se_X1_placeInPeriod G_in_X1 G_cd_X1_placeInPeriod
theorem gv_L_64 : GoodIn G (wsV RL 64 RX8 yX8_multiple (wW yX8_multiple cX8_multiple 6 (some .int))) := good_V G_ml_L_64 G_im_X8_multiple G_se_X8_multiple G_in_X8 G_cd_X8_multiple
theorem gv_L_68 : GoodIn G (wsV RL 68 RX8 yX8_order (wW yX8_order cX8_order 6 (some .int))) := good_V G_ml_L_68 G_im_X8_order G_se_X8_order G_in_X8 G_cd_X8_order
theorem gs_X8_171 : GoodIn G (va_wsS RX8 171 yX8_remainder (wW yX8_remainder cX8_remainder 2 (some .int))) := good_S G_ml_X8_171 G_st_X8_remainder G_in_X8 G_cd_X8_remainder
theorem gv_L_72 : GoodIn G (wsV RL 72 RX8 yX8_cycles (wW yX8_cycles cX8_cycles 8 (some .int))) := good_V G_ml_L_72 G_im_X8_cycles G_se_X8_cycles G_in_X8 G_cd_X8_cycles
theorem gs_X8_175 : GoodIn G (va_wsS RX8 175 yX8_setAt (wW yX8_setAt cX8_setAt 3 none)) := good_S G_ml_X8_175 G_st_X8_setAt G_in_X8 G_cd_X8_setAt
theorem gv_X8_179 : GoodIn G (wsV RX8 179 RX8 yX8_markRing (wW yX8_markRing cX8_markRing 6 (some .int))) := good_V G_ml_X8_179 G_im_X8_markRing G_se_X8_markRing G_in_X8 G_cd_X8_markRing
theorem gs_X8_216 : GoodIn G (va_wsS RX8 216 yX8_valueAt (wW yX8_valueAt cX8_valueAt 2 (some .int))) := good_S G_ml_X8_216 G_st_X8_valueAt G_in_X8 G_cd_X8_valueAt
theorem gs_X8_182 : GoodIn G (va_wsS RX8 182 yJ9_max_7cf53 (wW yJ9_max_7cf53 cJ9_max_7cf53 2 (some .int))) := good_S G_ml_X8_182 G_st_J9_max_7cf53 G_in_J9 G_cd_J9_max_7cf53
theorem gv_L_76 : GoodIn G (wsV RL 76 RX8 yX8_full (wW yX8_full cX8_full 10 (some .int))) := good_V G_ml_L_76 G_im_X8_full G_se_X8_full G_in_X8 G_cd_X8_full
theorem gv_X8_187 : GoodIn G (wsV RX8 187 RX1 yX1_isFullUnit (wW yX1_isFullUnit cX1_isFullUnit 1 (some .boolean))) := good_V G_ml_X8_187 G_im_X1_isFullUnit G_se_X1_isFullUnit G_in_X1 G_cd_X1_isFullUnit
theorem gv_L_81 : GoodIn G (wsV RL 81 RX8 yX8_list (wW yX8_list cX8_list 3 (some .int))) := good_V G_ml_L_81 G_im_X8_list G_se_X8_list G_in_X8 G_cd_X8_list
theorem gv_X8_191 : GoodIn G (wsV RX8 191 RX0 yX0_fillTo (wW yX0_fillTo cX0_fillTo 4 none)) := good_V G_ml_X8_191 G_im_X0_fillTo G_se_X0_fillTo G_in_X0 G_cd_X0_fillTo
theorem gv_L_85 : GoodIn G (wsV RL 85 RX8 yX8_thin (wW yX8_thin cX8_thin 3 (some .int))) := good_V G_ml_L_85 G_im_X8_thin G_se_X8_thin G_in_X8 G_cd_X8_thin
theorem gv_X8_198 : GoodIn G (wsV RX8 198 RX7 yX7_bears (wW yX7_bears cX7_bears 5 (some .boolean))) := good_V G_ml_X8_198 G_im_X7_bears G_se_X7_bears G_in_X7 G_cd_X7_bears
theorem gv_X7_34 : GoodIn G (wsV RX7 34 RJ0 yJ0_length_8abf5 (wW yJ0_length_8abf5 cJ0_length_8abf5 1 (some .int))) := good_V G_ml_X7_34 G_im_J0_length_8abf5 G_se_J0_length_8abf5 G_in_J0 G_cd_J0_length_8abf5
theorem gv_J0_335 : GoodIn G (wsV RJ0 335 RJ0 yJ0_coder_7d493 (wW yJ0_coder_7d493 cJ0_coder_7d493 1 (some .byte))) := good_V G_ml_J0_335 G_im_J0_coder_7d493 G_se_J0_coder_7d493 G_in_J0 G_cd_J0_coder_7d493
theorem gv_X7_39 : GoodIn G (wsV RX7 39 RX7 yX7_byteAt (wW yX7_byteAt cX7_byteAt 2 (some .int))) := good_V G_ml_X7_39 G_im_X7_byteAt G_se_X7_byteAt G_in_X7 G_cd_X7_byteAt
theorem gv_X7_43 : GoodIn G (wsV RX7 43 RJ0 yJ0_charAt_5068e (wW yJ0_charAt_5068e cJ0_charAt_5068e 2 (some .char))) := good_V G_ml_X7_43 G_im_J0_charAt_5068e G_se_J0_charAt_5068e G_in_J0 G_cd_J0_charAt_5068e
theorem gv_J0_492 : GoodIn G (wsV RJ0 492 RJ0 yJ0_isLatin1_aae02 (wW yJ0_isLatin1_aae02 cJ0_isLatin1_aae02 1 (some .boolean))) := good_V G_ml_J0_492 G_im_J0_isLatin1_aae02 G_se_J0_isLatin1_aae02 G_in_J0 G_cd_J0_isLatin1_aae02
theorem gs_J0_495 : GoodIn G (va_wsS RJ0 495 yJ1_charAt_3b067 (wW yJ1_charAt_3b067 cJ1_charAt_3b067 2 (some .char))) := good_S G_ml_J0_495 G_st_J1_charAt_3b067 G_in_J1 G_cd_J1_charAt_3b067
theorem gs_J1_9 : GoodIn G (va_wsS RJ1 9 yJ0_checkIndex_df160 (wW yJ0_checkIndex_df160 cJ0_checkIndex_df160 2 none)) := good_S G_ml_J1_9 G_st_J0_checkIndex_df160 G_in_J0 G_cd_J0_checkIndex_df160
theorem gs_J0_1059 : GoodIn G (va_wsS RJ0 1059 yJ3_checkIndex_8e157 (wW yJ3_checkIndex_8e157 cJ3_checkIndex_8e157 3 (some .int))) := good_S G_ml_J0_1059 G_st_J3_checkIndex_8e157 G_in_J3 G_cd_J3_checkIndex_8e157
theorem gs_J0_498 : GoodIn G (va_wsS RJ0 498 yJ2_charAt_3b067 (wW yJ2_charAt_3b067 cJ2_charAt_3b067 2 (some .char))) := good_S G_ml_J0_498 G_st_J2_charAt_3b067 G_in_J2 G_cd_J2_charAt_3b067
theorem gs_J2_67 : GoodIn G (va_wsS RJ2 67 yJ2_checkIndex_2214a (wW yJ2_checkIndex_2214a cJ2_checkIndex_2214a 2 none)) := good_S G_ml_J2_67 G_st_J2_checkIndex_2214a G_in_J2 G_cd_J2_checkIndex_2214a
theorem gs_J2_48 : GoodIn G (va_wsS RJ2 48 yJ2_length_9d52b (wW yJ2_length_9d52b cJ2_length_9d52b 1 (some .int))) := good_S G_ml_J2_48 G_st_J2_length_9d52b G_in_J2 G_cd_J2_length_9d52b
theorem gs_J2_414 : GoodIn G (va_wsS RJ2 414 yJ0_checkIndex_df160 (wW yJ0_checkIndex_df160 cJ0_checkIndex_df160 2 none)) := good_S G_ml_J2_414 G_st_J0_checkIndex_df160 G_in_J0 G_cd_J0_checkIndex_df160
theorem gs_J2_71 : GoodIn G (va_wsS RJ2 71 yJ2_getChar_3b067 (wW yJ2_getChar_3b067 cJ2_getChar_3b067 2 (some .char))) := good_S G_ml_J2_71 G_st_J2_getChar_3b067 G_in_J2 G_cd_J2_getChar_3b067
theorem gs_X8_202 : GoodIn G (va_wsS RX8 202 yX0_wordOn (wW yX0_wordOn cX0_wordOn 3 (some .int))) := good_S G_ml_X8_202 G_st_X0_wordOn G_in_X0 G_cd_X0_wordOn
theorem gs_X0_40 : GoodIn G (va_wsS RX0 40 yX0_wordText (wW yX0_wordText cX0_wordText 1 (some (.object "java/lang/String")))) := good_S G_ml_X0_40 G_st_X0_wordText G_in_X0 G_cd_X0_wordText
theorem gv_X0_44 : GoodIn G (wsV RX0 44 RX7 yX7_bears (wW yX7_bears cX7_bears 5 (some .boolean))) := good_V G_ml_X0_44 G_im_X7_bears G_se_X7_bears G_in_X7 G_cd_X7_bears
theorem gv_X8_206 : GoodIn G (wsV RX8 206 RX7 yX7_clear (wW yX7_clear cX7_clear 1 none)) := good_V G_ml_X8_206 G_im_X7_clear G_se_X7_clear G_in_X7 G_cd_X7_clear
theorem gv_X8_209 : GoodIn G (wsV RX8 209 RX0 yX0_keepOnly (wW yX0_keepOnly cX0_keepOnly 6 none)) := good_V G_ml_X8_209 G_im_X0_keepOnly G_se_X0_keepOnly G_in_X0 G_cd_X0_keepOnly
theorem gv_X0_64 : GoodIn G (wsV RX0 64 RX0 yX0_isSo (wW yX0_isSo cX0_isSo 4 (some .boolean))) := good_V G_ml_X0_64 G_im_X0_isSo G_se_X0_isSo G_in_X0 G_cd_X0_isSo
theorem gv_X0_68 : GoodIn G (wsV RX0 68 RX1 yX1_become (wW yX1_become cX1_become 5 none)) := good_V G_ml_X0_68 G_im_X1_become G_se_X1_become G_in_X1 G_cd_X1_become
theorem gv_X0_73 : GoodIn G (wsV RX0 73 RX1 yX1_ends (wW yX1_ends cX1_ends 1 (some .boolean))) := good_V G_ml_X0_73 G_im_X1_ends G_se_X1_ends G_in_X1 G_cd_X1_ends
theorem gv_X0_76 : GoodIn G (wsV RX0 76 RX1 yX1_kind (wW yX1_kind cX1_kind 1 (some .int))) := good_V G_ml_X0_76 G_im_X1_kind G_se_X1_kind G_in_X1 G_cd_X1_kind
theorem gv_X0_80 : GoodIn G (wsV RX0 80 RX1 yX1_isFullUnit (wW yX1_isFullUnit cX1_isFullUnit 1 (some .boolean))) := good_V G_ml_X0_80 G_im_X1_isFullUnit G_se_X1_isFullUnit G_in_X1 G_cd_X1_isFullUnit
theorem gv_X0_83 : GoodIn G (wsV RX0 83 RX1 yX1_ninesOfBlocks (wW yX1_ninesOfBlocks cX1_ninesOfBlocks 6 (some .int))) := good_V G_ml_X0_83 G_im_X1_ninesOfBlocks G_se_X1_ninesOfBlocks G_in_X1 G_cd_X1_ninesOfBlocks
theorem gv_L_90 : GoodIn G (wsV RL 90 RX8 yX8_listed (wW yX8_listed cX8_listed 2 (some .int))) := good_V G_ml_L_90 G_im_X8_listed G_se_X8_listed G_in_X8 G_cd_X8_listed
theorem gv_L_94 : GoodIn G (wsV RL 94 RX8 yX8_tells (wW yX8_tells cX8_tells 5 (some .long))) := good_V G_ml_L_94 G_im_X8_tells G_se_X8_tells G_in_X8 G_cd_X8_tells
theorem gv_X8_222 : GoodIn G (wsV RX8 222 RX4 yX4_worthTogether (wW yX4_worthTogether cX4_worthTogether 6 (some .long))) := good_V G_ml_X8_222 G_im_X4_worthTogether G_se_X4_worthTogether G_in_X4 G_cd_X4_worthTogether
theorem gs_X4_48 : GoodIn G (va_wsS RX4 48 yX4_worth (wW yX4_worth cX4_worth 4 (some .int))) := good_S G_ml_X4_48 G_st_X4_worth G_in_X4 G_cd_X4_worth
theorem gs_X4_52 : GoodIn G (va_wsS RX4 52 yJ9_min_7cf53 (wW yJ9_min_7cf53 cJ9_min_7cf53 2 (some .int))) := good_S G_ml_X4_52 G_st_J9_min_7cf53 G_in_J9 G_cd_J9_min_7cf53
theorem gv_L_99 : GoodIn G (wsV RL 99 RX8 yX8_feed (wW yX8_feed cX8_feed 4 (some .int))) := good_V G_ml_L_99 G_im_X8_feed G_se_X8_feed G_in_X8 G_cd_X8_feed
theorem gv_X8_227 : GoodIn G (wsV RX8 227 RX7 yX7_add (wW yX7_add cX7_add 2 none)) := good_V G_ml_X8_227 G_im_X7_add G_se_X7_add G_in_X7 G_cd_X7_add
theorem gv_L_103 : GoodIn G (wsV RL 103 RX8 yX8_wipe (wW yX8_wipe cX8_wipe 2 (some .int))) := good_V G_ml_L_103 G_im_X8_wipe G_se_X8_wipe G_in_X8 G_cd_X8_wipe
theorem gv_L_107 : GoodIn G (wsV RL 107 RX8 yX8_spell (wW yX8_spell cX8_spell 5 (some .int))) := good_V G_ml_L_107 G_im_X8_spell G_se_X8_spell G_in_X8 G_cd_X8_spell
theorem gv_X8_230 : GoodIn G (wsV RX8 230 RX1 yX1_spelledLength (wW yX1_spelledLength cX1_spelledLength 2 (some .int))) := good_V G_ml_X8_230 G_im_X1_spelledLength G_se_X1_spelledLength G_in_X1 G_cd_X1_spelledLength
theorem gv_X1_70 : GoodIn G (wsV RX1 70 RX1 yX1_wholeDigits (wW yX1_wholeDigits cX1_wholeDigits 4 (some .int))) := good_V G_ml_X1_70 G_im_X1_wholeDigits G_se_X1_wholeDigits G_in_X1 G_cd_X1_wholeDigits
theorem gv_X1_83 : GoodIn G (wsV RX1 83 RX1 yX1_whole (wW yX1_whole cX1_whole 1 (some .int))) := good_V G_ml_X1_83 G_im_X1_whole G_se_X1_whole G_in_X1 G_cd_X1_whole
theorem gv_X8_233 : GoodIn G (wsV RX8 233 RX1 yX1_spelledByte (wW yX1_spelledByte cX1_spelledByte 4 (some .int))) := good_V G_ml_X8_233 G_im_X1_spelledByte G_se_X1_spelledByte G_in_X1 G_cd_X1_spelledByte
theorem gv_X1_74 : GoodIn G (wsV RX1 74 RX1 yX1_wholeDigit (wW yX1_wholeDigit cX1_wholeDigit 5 (some .int))) := good_V G_ml_X1_74 G_im_X1_wholeDigit G_se_X1_wholeDigit G_in_X1 G_cd_X1_wholeDigit
theorem gs_X1_77 : GoodIn G (va_wsS RX1 77 yX1_signOf (wW yX1_signOf cX1_signOf 1 (some .int))) := good_S G_ml_X1_77 G_st_X1_signOf G_in_X1 G_cd_X1_signOf
theorem gv_X1_80 : GoodIn G (wsV RX1 80 RX1 yX1_restAt (wW yX1_restAt cX1_restAt 5 (some .int))) := good_V G_ml_X1_80 G_im_X1_restAt G_se_X1_restAt G_in_X1 G_cd_X1_restAt
theorem gv_L_111 : GoodIn G (wsV RL 111 RX8 yX8_read (wW yX8_read cX8_read 3 (some .int))) := good_V G_ml_L_111 G_im_X8_read G_se_X8_read G_in_X8 G_cd_X8_read
theorem gv_X8_236 : GoodIn G (wsV RX8 236 RX3 yX3_parse (wW yX3_parse cX3_parse 5 (some .int))) := good_V G_ml_X8_236 G_im_X3_parse G_se_X3_parse G_in_X3 G_cd_X3_parse
theorem gv_X3_27 : GoodIn G (wsV RX3 27 RX7 yX7_takeDigits (wW yX7_takeDigits cX7_takeDigits 3 (some .int))) := good_V G_ml_X3_27 G_im_X7_takeDigits G_se_X7_takeDigits G_in_X7 G_cd_X7_takeDigits
theorem gv_X7_51 : GoodIn G (wsV RX7 51 RX7 yX7_digitOn (wW yX7_digitOn cX7_digitOn 3 (some .int))) := good_V G_ml_X7_51 G_im_X7_digitOn G_se_X7_digitOn G_in_X7 G_cd_X7_digitOn
theorem gv_X3_31 : GoodIn G (wsV RX3 31 RX7 yX7_takes (wW yX7_takes cX7_takes 2 (some .boolean))) := good_V G_ml_X3_31 G_im_X7_takes G_se_X7_takes G_in_X7 G_cd_X7_takes
theorem gv_X3_39 : GoodIn G (wsV RX3 39 RX3 yX3_takesPeriod (wW yX3_takesPeriod cX3_takesPeriod 6 (some .boolean))) := good_V G_ml_X3_39 G_im_X3_takesPeriod G_se_X3_takesPeriod G_in_X3 G_cd_X3_takesPeriod
theorem gv_X3_43 : GoodIn G (wsV RX3 43 RX7 yX7_isAtEnd (wW yX7_isAtEnd cX7_isAtEnd 1 (some .boolean))) := good_V G_ml_X3_43 G_im_X7_isAtEnd G_se_X7_isAtEnd G_in_X7 G_cd_X7_isAtEnd
theorem gv_L_115 : GoodIn G (wsV RL 115 RX8 yX8_run (wW yX8_run cX8_run 3 (some .int))) := good_V G_ml_L_115 G_im_X8_run G_se_X8_run G_in_X8 G_cd_X8_run
theorem gv_X8_244 : GoodIn G (wsV RX8 244 RX5 yX5_parse (wW yX5_parse cX5_parse 3 (some .int))) := good_V G_ml_X8_244 G_im_X5_parse G_se_X5_parse G_in_X5 G_cd_X5_parse
theorem gv_X5_31 : GoodIn G (wsV RX5 31 RX5 yX5_parseCommand (wW yX5_parseCommand cX5_parseCommand 5 (some .int))) := good_V G_ml_X5_31 G_im_X5_parseCommand G_se_X5_parseCommand G_in_X5 G_cd_X5_parseCommand
theorem gv_X5_43 : GoodIn G (wsV RX5 43 RX7 yX7_takeLetters (wW yX7_takeLetters cX7_takeLetters 1 none)) := good_V G_ml_X5_43 G_im_X7_takeLetters G_se_X7_takeLetters G_in_X7 G_cd_X7_takeLetters
theorem gs_X5_46 : GoodIn G (va_wsS RX5 46 yX5_wordBetween (wW yX5_wordBetween cX5_wordBetween 3 (some .int))) := good_S G_ml_X5_46 G_st_X5_wordBetween G_in_X5 G_cd_X5_wordBetween
theorem gs_X5_65 : GoodIn G (va_wsS RX5 65 yX5_wordText (wW yX5_wordText cX5_wordText 1 (some (.object "java/lang/String")))) := good_S G_ml_X5_65 G_st_X5_wordText G_in_X5 G_cd_X5_wordText
theorem gv_X5_69 : GoodIn G (wsV RX5 69 RX7 yX7_bears (wW yX7_bears cX7_bears 5 (some .boolean))) := good_V G_ml_X5_69 G_im_X7_bears G_se_X7_bears G_in_X7 G_cd_X7_bears
theorem gs_X5_54 : GoodIn G (va_wsS RX5 54 yX5_numbersOf (wW yX5_numbersOf cX5_numbersOf 1 (some .int))) := good_S G_ml_X5_54 G_st_X5_numbersOf G_in_X5 G_cd_X5_numbersOf
theorem gv_X5_39 : GoodIn G (wsV RX5 39 RX7 yX7_takes (wW yX7_takes cX7_takes 2 (some .boolean))) := good_V G_ml_X5_39 G_im_X7_takes G_se_X7_takes G_in_X7 G_cd_X7_takes
theorem gv_X5_62 : GoodIn G (wsV RX5 62 RX7 yX7_takeDigits (wW yX7_takeDigits cX7_takeDigits 3 (some .int))) := good_V G_ml_X5_62 G_im_X7_takeDigits G_se_X7_takeDigits G_in_X7 G_cd_X7_takeDigits
theorem gv_X5_35 : GoodIn G (wsV RX5 35 RX7 yX7_isAtEnd (wW yX7_isAtEnd cX7_isAtEnd 1 (some .boolean))) := good_V G_ml_X5_35 G_im_X7_isAtEnd G_se_X7_isAtEnd G_in_X7 G_cd_X7_isAtEnd
theorem gv_X8_250 : GoodIn G (wsV RX8 250 RX8 yX8_doCommand (wW yX8_doCommand cX8_doCommand 4 (some .int))) := good_V G_ml_X8_250 G_im_X8_doCommand G_se_X8_doCommand G_in_X8 G_cd_X8_doCommand
theorem gv_X8_295 : GoodIn G (wsV RX8 295 RX5 yX5_number (wW yX5_number cX5_number 3 (some .int))) := good_V G_ml_X8_295 G_im_X5_number G_se_X5_number G_in_X5 G_cd_X5_number
theorem gv_X8_298 : GoodIn G (wsV RX8 298 RX5 yX5_word (wW yX5_word cX5_word 2 (some .int))) := good_V G_ml_X8_298 G_im_X5_word G_se_X5_word G_in_X5 G_cd_X5_word
theorem gv_X8_301 : GoodIn G (wsV RX8 301 RX8 yX8_fraction (wW yX8_fraction cX8_fraction 4 (some .int))) := good_V G_ml_X8_301 G_im_X8_fraction G_se_X8_fraction G_in_X8 G_cd_X8_fraction
theorem gv_X8_303 : GoodIn G (wsV RX8 303 RX8 yX8_drop (wW yX8_drop cX8_drop 2 (some .int))) := good_V G_ml_X8_303 G_im_X8_drop G_se_X8_drop G_in_X8 G_cd_X8_drop
theorem gv_X8_306 : GoodIn G (wsV RX8 306 RX8 yX8_multiply (wW yX8_multiply cX8_multiply 5 (some .int))) := good_V G_ml_X8_306 G_im_X8_multiply G_se_X8_multiply G_in_X8 G_cd_X8_multiply
theorem gv_X8_309 : GoodIn G (wsV RX8 309 RX8 yX8_sum (wW yX8_sum cX8_sum 6 (some .int))) := good_V G_ml_X8_309 G_im_X8_sum G_se_X8_sum G_in_X8 G_cd_X8_sum
theorem gv_X8_312 : GoodIn G (wsV RX8 312 RX8 yX8_lowest (wW yX8_lowest cX8_lowest 5 (some .int))) := good_V G_ml_X8_312 G_im_X8_lowest G_se_X8_lowest G_in_X8 G_cd_X8_lowest
theorem gv_L_119 : GoodIn G (wsV RL 119 RX8 yX8_hold (wW yX8_hold cX8_hold 5 (some .int))) := good_V G_ml_L_119 G_im_X8_hold G_se_X8_hold G_in_X8 G_cd_X8_hold
theorem gv_X8_253 : GoodIn G (wsV RX8 253 RX8 yX8_holderAt (wW yX8_holderAt cX8_holderAt 2 (some (.object "TurningFractions$Holder")))) := good_V G_ml_X8_253 G_im_X8_holderAt G_se_X8_holderAt G_in_X8 G_cd_X8_holderAt
theorem gv_X8_257 : GoodIn G (wsV RX8 257 RX2 yX2_holdFraction (wW yX2_holdFraction cX2_holdFraction 2 none)) := good_V G_ml_X8_257 G_im_X2_holdFraction G_se_X2_holdFraction G_in_X2 G_cd_X2_holdFraction
theorem gv_X2_29 : GoodIn G (wsV RX2 29 RX1 yX1_becomeLike (wW yX1_becomeLike cX1_becomeLike 2 none)) := good_V G_ml_X2_29 G_im_X1_becomeLike G_se_X1_becomeLike G_in_X1 G_cd_X1_becomeLike
theorem gv_L_123 : GoodIn G (wsV RL 123 RX8 yX8_lose (wW yX8_lose cX8_lose 4 (some .int))) := good_V G_ml_L_123 G_im_X8_lose G_se_X8_lose G_in_X8 G_cd_X8_lose
theorem gv_L_127 : GoodIn G (wsV RL 127 RX8 yX8_taken (wW yX8_taken cX8_taken 7 (some .int))) := good_V G_ml_L_127 G_im_X8_taken G_se_X8_taken G_in_X8 G_cd_X8_taken
theorem gv_X8_263 : GoodIn G (wsV RX8 263 RX2 yX2_refusalAs (wW yX2_refusalAs cX2_refusalAs 2 (some .int))) := good_V G_ml_X8_263 G_im_X2_refusalAs G_se_X2_refusalAs G_in_X2 G_cd_X2_refusalAs
theorem gv_L_131 : GoodIn G (wsV RL 131 RX8 yX8_was (wW yX8_was cX8_was 5 (some .int))) := good_V G_ml_L_131 G_im_X8_was G_se_X8_was G_in_X8 G_cd_X8_was
theorem gv_L_135 : GoodIn G (wsV RL 135 RX8 yX8_row (wW yX8_row cX8_row 4 (some .int))) := good_V G_ml_L_135 G_im_X8_row G_se_X8_row G_in_X8 G_cd_X8_row
theorem gv_X8_269 : GoodIn G (wsV RX8 269 RX2 yX2_holdRow (wW yX2_holdRow cX2_holdRow 3 none)) := good_V G_ml_X8_269 G_im_X2_holdRow G_se_X2_holdRow G_in_X2 G_cd_X2_holdRow
theorem gv_L_139 : GoodIn G (wsV RL 139 RX8 yX8_put (wW yX8_put cX8_put 6 (some .int))) := good_V G_ml_L_139 G_im_X8_put G_se_X8_put G_in_X8 G_cd_X8_put
theorem gv_X8_272 : GoodIn G (wsV RX8 272 RX2 yX2_hasPlace (wW yX2_hasPlace cX2_hasPlace 2 (some .boolean))) := good_V G_ml_X8_272 G_im_X2_hasPlace G_se_X2_hasPlace G_in_X2 G_cd_X2_hasPlace
theorem gv_L_143 : GoodIn G (wsV RL 143 RX8 yX8_get (wW yX8_get cX8_get 4 (some .long))) := good_V G_ml_L_143 G_im_X8_get G_se_X8_get G_in_X8 G_cd_X8_get
theorem gv_L_148 : GoodIn G (wsV RL 148 RX8 yX8_judge (wW yX8_judge cX8_judge 6 (some .int))) := good_V G_ml_L_148 G_im_X8_judge G_se_X8_judge G_in_X8 G_cd_X8_judge
theorem gv_X8_278 : GoodIn G (wsV RX8 278 RX2 yX2_firstUnlike (wW yX2_firstUnlike cX2_firstUnlike 4 (some .int))) := good_V G_ml_X8_278 G_im_X2_firstUnlike G_se_X2_firstUnlike G_in_X2 G_cd_X2_firstUnlike
theorem gv_X2_41 : GoodIn G (wsV RX2 41 RX1 yX1_restAt (wW yX1_restAt cX1_restAt 5 (some .int))) := good_V G_ml_X2_41 G_im_X1_restAt G_se_X1_restAt G_in_X1 G_cd_X1_restAt
theorem gv_X2_49 : GoodIn G (wsV RX2 49 RX1 yX1_digitOf (wW yX1_digitOf cX1_digitOf 2 (some .int))) := good_V G_ml_X2_49 G_im_X1_digitOf G_se_X1_digitOf G_in_X1 G_cd_X1_digitOf
theorem gv_X2_52 : GoodIn G (wsV RX2 52 RX1 yX1_restAfter (wW yX1_restAfter cX1_restAfter 2 (some .int))) := good_V G_ml_X2_52 G_im_X1_restAfter G_se_X1_restAfter G_in_X1 G_cd_X1_restAfter
theorem gv_L_152 : GoodIn G (wsV RL 152 RX8 yX8_image (wW yX8_image cX8_image 1 (some .int))) := good_V G_ml_L_152 G_im_X8_image G_se_X8_image G_in_X8 G_cd_X8_image
theorem gv_X8_282 : GoodIn G (wsV RX8 282 RX6 yX6_becomeLike (wW yX6_becomeLike cX6_becomeLike 3 none)) := good_V G_ml_X8_282 G_im_X6_becomeLike G_se_X6_becomeLike G_in_X6 G_cd_X6_becomeLike
theorem gv_X8_286 : GoodIn G (wsV RX8 286 RX0 yX0_becomeLike (wW yX0_becomeLike cX0_becomeLike 3 none)) := good_V G_ml_X8_286 G_im_X0_becomeLike G_se_X0_becomeLike G_in_X0 G_cd_X0_becomeLike
theorem gv_L_156 : GoodIn G (wsV RL 156 RX8 yX8_undo (wW yX8_undo cX8_undo 1 (some .int))) := good_V G_ml_L_156 G_im_X8_undo G_se_X8_undo G_in_X8 G_cd_X8_undo
theorem gv_L_160 : GoodIn G (wsV RL 160 RX8 yX8_count (wW yX8_count cX8_count 2 (some .int))) := good_V G_ml_L_160 G_im_X8_count G_se_X8_count G_in_X8 G_cd_X8_count
theorem gv_L_17 : GoodIn G (wsV RL 17 RX9 yX9_fraction (wW yX9_fraction cX9_fraction 4 (some .int))) := good_V G_ml_L_17 G_im_X9_fraction G_se_X9_fraction G_in_X9 G_cd_X9_fraction
theorem gs_X9_92 : GoodIn G (va_wsS RX9 92 yX9_isIn (wW yX9_isIn cX9_isIn 6 (some .boolean))) := good_S G_ml_X9_92 G_st_X9_isIn G_in_X9 G_cd_X9_isIn
theorem gs_X9_118 : GoodIn G (va_wsS RX9 118 yX9_isBase (wW yX9_isBase cX9_isBase 1 (some .boolean))) := good_S G_ml_X9_118 G_st_X9_isBase G_in_X9 G_cd_X9_isBase
theorem gv_X9_122 : GoodIn G (wsV RX9 122 RX9 yX9_comes (wW yX9_comes cX9_comes 4 (some .int))) := good_V G_ml_X9_122 G_im_X9_comes G_se_X9_comes G_in_X9 G_cd_X9_comes
theorem gv_L_22 : GoodIn G (wsV RL 22 RX9 yX9_drop (wW yX9_drop cX9_drop 3 (some .int))) := good_V G_ml_L_22 G_im_X9_drop G_se_X9_drop G_in_X9 G_cd_X9_drop
theorem gv_X9_126 : GoodIn G (wsV RX9 126 RX9 yX9_isFraction (wW yX9_isFraction cX9_isFraction 2 (some .boolean))) := good_V G_ml_X9_126 G_im_X9_isFraction G_se_X9_isFraction G_in_X9 G_cd_X9_isFraction
theorem gv_L_27 : GoodIn G (wsV RL 27 RX9 yX9_multiply (wW yX9_multiply cX9_multiply 3 (some .int))) := good_V G_ml_L_27 G_im_X9_multiply G_se_X9_multiply G_in_X9 G_cd_X9_multiply
theorem gv_L_31 : GoodIn G (wsV RL 31 RX9 yX9_sum (wW yX9_sum cX9_sum 5 (some .int))) := good_V G_ml_L_31 G_im_X9_sum G_se_X9_sum G_in_X9 G_cd_X9_sum
theorem gv_X9_133 : GoodIn G (wsV RX9 133 RX9 yX9_comesLowest (wW yX9_comesLowest cX9_comesLowest 8 (some .int))) := good_V G_ml_X9_133 G_im_X9_comesLowest G_se_X9_comesLowest G_in_X9 G_cd_X9_comesLowest
theorem gs_X9_129 : GoodIn G (va_wsS RX9 129 yX9_divisor (wW yX9_divisor cX9_divisor 10 (some .long))) := good_S G_ml_X9_129 G_st_X9_divisor G_in_X9 G_cd_X9_divisor
theorem gv_L_35 : GoodIn G (wsV RL 35 RX9 yX9_lowest (wW yX9_lowest cX9_lowest 3 (some .int))) := good_V G_ml_L_35 G_im_X9_lowest G_se_X9_lowest G_in_X9 G_cd_X9_lowest
theorem gv_L_39 : GoodIn G (wsV RL 39 RX9 yX9_of (wW yX9_of cX9_of 3 (some .int))) := good_V G_ml_L_39 G_im_X9_of G_se_X9_of G_in_X9 G_cd_X9_of
theorem gv_X9_137 : GoodIn G (wsV RX9 137 RX9 yX9_looksAt (wW yX9_looksAt cX9_looksAt 2 none)) := good_V G_ml_X9_137 G_im_X9_looksAt G_se_X9_looksAt G_in_X9 G_cd_X9_looksAt
theorem gv_X9_110 : GoodIn G (wsV RX9 110 RX9 yX9_looks (wW yX9_looks cX9_looks 7 none)) := good_V G_ml_X9_110 G_im_X9_looks G_se_X9_looks G_in_X9 G_cd_X9_looks
theorem gv_X9_141 : GoodIn G (wsV RX9 141 RX9 yX9_kindNow (wW yX9_kindNow cX9_kindNow 1 (some .int))) := good_V G_ml_X9_141 G_im_X9_kindNow G_se_X9_kindNow G_in_X9 G_cd_X9_kindNow
theorem gv_L_43 : GoodIn G (wsV RL 43 RX9 yX9_digit (wW yX9_digit cX9_digit 3 (some .int))) := good_V G_ml_L_43 G_im_X9_digit G_se_X9_digit G_in_X9 G_cd_X9_digit
theorem gv_X9_145 : GoodIn G (wsV RX9 145 RX9 yX9_placeOf (wW yX9_placeOf cX9_placeOf 2 (some .int))) := good_V G_ml_X9_145 G_im_X9_placeOf G_se_X9_placeOf G_in_X9 G_cd_X9_placeOf
theorem gv_L_47 : GoodIn G (wsV RL 47 RX9 yX9_rest (wW yX9_rest cX9_rest 3 (some .int))) := good_V G_ml_L_47 G_im_X9_rest G_se_X9_rest G_in_X9 G_cd_X9_rest
theorem gv_L_51 : GoodIn G (wsV RL 51 RX9 yX9_place (wW yX9_place cX9_place 4 (some .int))) := good_V G_ml_L_51 G_im_X9_place G_se_X9_place G_in_X9 G_cd_X9_place
theorem gv_L_55 : GoodIn G (wsV RL 55 RX9 yX9_block (wW yX9_block cX9_block 4 (some .int))) := good_V G_ml_L_55 G_im_X9_block G_se_X9_block G_in_X9 G_cd_X9_block
theorem gv_X9_152 : GoodIn G (wsV RX9 152 RX9 yX9_isParted (wW yX9_isParted cX9_isParted 2 (some .boolean))) := good_V G_ml_X9_152 G_im_X9_isParted G_se_X9_isParted G_in_X9 G_cd_X9_isParted
theorem gv_X9_157 : GoodIn G (wsV RX9 157 RX9 yX9_blocks (wW yX9_blocks cX9_blocks 8 none)) := good_V G_ml_X9_157 G_im_X9_blocks G_se_X9_blocks G_in_X9 G_cd_X9_blocks
theorem gv_L_59 : GoodIn G (wsV RL 59 RX9 yX9_nines (wW yX9_nines cX9_nines 3 (some .int))) := good_V G_ml_L_59 G_im_X9_nines G_se_X9_nines G_in_X9 G_cd_X9_nines
theorem gv_X9_171 : GoodIn G (wsV RX9 171 RX9 yX9_ninesNow (wW yX9_ninesNow cX9_ninesNow 7 (some .int))) := good_V G_ml_X9_171 G_im_X9_ninesNow G_se_X9_ninesNow G_in_X9 G_cd_X9_ninesNow
theorem gv_X9_163 : GoodIn G (wsV RX9 163 RX9 yX9_smallNines (wW yX9_smallNines cX9_smallNines 8 (some .int))) := good_V G_ml_X9_163 G_im_X9_smallNines G_se_X9_smallNines G_in_X9 G_cd_X9_smallNines
theorem gv_X9_167 : GoodIn G (wsV RX9 167 RX9 yX9_greatNines (wW yX9_greatNines cX9_greatNines 8 (some .int))) := good_V G_ml_X9_167 G_im_X9_greatNines G_se_X9_greatNines G_in_X9 G_cd_X9_greatNines
theorem gv_L_63 : GoodIn G (wsV RL 63 RX9 yX9_shift (wW yX9_shift cX9_shift 3 (some .int))) := good_V G_ml_L_63 G_im_X9_shift G_se_X9_shift G_in_X9 G_cd_X9_shift
theorem gv_X9_177 : GoodIn G (wsV RX9 177 RX9 yX9_keepsRing (wW yX9_keepsRing cX9_keepsRing 3 none)) := good_V G_ml_X9_177 G_im_X9_keepsRing G_se_X9_keepsRing G_in_X9 G_cd_X9_keepsRing
theorem gv_X9_180 : GoodIn G (wsV RX9 180 RX9 yX9_shiftNow (wW yX9_shiftNow cX9_shiftNow 4 (some .int))) := good_V G_ml_X9_180 G_im_X9_shiftNow G_se_X9_shiftNow G_in_X9 G_cd_X9_shiftNow
theorem gv_L_67 : GoodIn G (wsV RL 67 RX9 yX9_multiple (wW yX9_multiple cX9_multiple 4 (some .int))) := good_V G_ml_L_67 G_im_X9_multiple G_se_X9_multiple G_in_X9 G_cd_X9_multiple
theorem gv_L_71 : GoodIn G (wsV RL 71 RX9 yX9_order (wW yX9_order cX9_order 5 (some .int))) := good_V G_ml_L_71 G_im_X9_order G_se_X9_order G_in_X9 G_cd_X9_order
theorem gv_L_75 : GoodIn G (wsV RL 75 RX9 yX9_cycles (wW yX9_cycles cX9_cycles 9 (some .int))) := good_V G_ml_L_75 G_im_X9_cycles G_se_X9_cycles G_in_X9 G_cd_X9_cycles
theorem gs_X9_183 : GoodIn G (va_wsS RX9 183 yJ9_max_7cf53 (wW yJ9_max_7cf53 cJ9_max_7cf53 2 (some .int))) := good_S G_ml_X9_183 G_st_J9_max_7cf53 G_in_J9 G_cd_J9_max_7cf53
theorem gv_L_80 : GoodIn G (wsV RL 80 RX9 yX9_full (wW yX9_full cX9_full 9 (some .int))) := good_V G_ml_L_80 G_im_X9_full G_se_X9_full G_in_X9 G_cd_X9_full
theorem gv_X9_188 : GoodIn G (wsV RX9 188 RX9 yX9_isFull (wW yX9_isFull cX9_isFull 3 (some .boolean))) := good_V G_ml_X9_188 G_im_X9_isFull G_se_X9_isFull G_in_X9 G_cd_X9_isFull
theorem gv_L_84 : GoodIn G (wsV RL 84 RX9 yX9_list (wW yX9_list cX9_list 4 (some .int))) := good_V G_ml_L_84 G_im_X9_list G_se_X9_list G_in_X9 G_cd_X9_list
theorem gv_L_93 : GoodIn G (wsV RL 93 RX9 yX9_listed (wW yX9_listed cX9_listed 2 (some .int))) := good_V G_ml_L_93 G_im_X9_listed G_se_X9_listed G_in_X9 G_cd_X9_listed
theorem gv_L_98 : GoodIn G (wsV RL 98 RX9 yX9_tells (wW yX9_tells cX9_tells 7 (some .long))) := good_V G_ml_L_98 G_im_X9_tells G_se_X9_tells G_in_X9 G_cd_X9_tells
theorem gs_X9_209 : GoodIn G (va_wsS RX9 209 yX9_worth (wW yX9_worth cX9_worth 4 (some .long))) := good_S G_ml_X9_209 G_st_X9_worth G_in_X9 G_cd_X9_worth
theorem gs_X9_200 : GoodIn G (va_wsS RX9 200 yJ9_min_f86c9 (wW yJ9_min_f86c9 cJ9_min_f86c9 4 (some .long))) := good_S G_ml_X9_200 G_st_J9_min_f86c9 G_in_J9 G_cd_J9_min_f86c9
theorem gv_L_102 : GoodIn G (wsV RL 102 RX9 yX9_feed (wW yX9_feed cX9_feed 4 (some .int))) := good_V G_ml_L_102 G_im_X9_feed G_se_X9_feed G_in_X9 G_cd_X9_feed
theorem gv_L_106 : GoodIn G (wsV RL 106 RX9 yX9_wipe (wW yX9_wipe cX9_wipe 2 (some .int))) := good_V G_ml_L_106 G_im_X9_wipe G_se_X9_wipe G_in_X9 G_cd_X9_wipe
theorem gv_L_89 : GoodIn G (wsV RL 89 RX9 yX9_thin (wW yX9_thin cX9_thin 5 (some .int))) := good_V G_ml_L_89 G_im_X9_thin G_se_X9_thin G_in_X9 G_cd_X9_thin
theorem gv_X9_224 : GoodIn G (wsV RX9 224 RX9 yX9_wordOf (wW yX9_wordOf cX9_wordOf 7 (some .int))) := good_V G_ml_X9_224 G_im_X9_wordOf G_se_X9_wordOf G_in_X9 G_cd_X9_wordOf
theorem gv_X9_227 : GoodIn G (wsV RX9 227 RX9 yX9_isSo (wW yX9_isSo cX9_isSo 3 (some .boolean))) := good_V G_ml_X9_227 G_im_X9_isSo G_se_X9_isSo G_in_X9 G_cd_X9_isSo
theorem gs_X9_197 : GoodIn G (va_wsS RX9 197 yX9_isPrime (wW yX9_isPrime cX9_isPrime 2 (some .boolean))) := good_S G_ml_X9_197 G_st_X9_isPrime G_in_X9 G_cd_X9_isPrime
theorem gv_L_110 : GoodIn G (wsV RL 110 RX9 yX9_spell (wW yX9_spell cX9_spell 7 (some .int))) := good_V G_ml_L_110 G_im_X9_spell G_se_X9_spell G_in_X9 G_cd_X9_spell
theorem gv_X9_230 : GoodIn G (wsV RX9 230 RX9 yX9_wholeSize (wW yX9_wholeSize cX9_wholeSize 4 (some .int))) := good_V G_ml_X9_230 G_im_X9_wholeSize G_se_X9_wholeSize G_in_X9 G_cd_X9_wholeSize
theorem gv_X9_233 : GoodIn G (wsV RX9 233 RX9 yX9_wholeDigit (wW yX9_wholeDigit cX9_wholeDigit 5 (some .int))) := good_V G_ml_X9_233 G_im_X9_wholeDigit G_se_X9_wholeDigit G_in_X9 G_cd_X9_wholeDigit
theorem gs_X9_236 : GoodIn G (va_wsS RX9 236 yX9_signOf (wW yX9_signOf cX9_signOf 1 (some .int))) := good_S G_ml_X9_236 G_st_X9_signOf G_in_X9 G_cd_X9_signOf
theorem gv_L_114 : GoodIn G (wsV RL 114 RX9 yX9_read (wW yX9_read cX9_read 2 (some .int))) := good_V G_ml_L_114 G_im_X9_read G_se_X9_read G_in_X9 G_cd_X9_read
theorem gv_X9_264 : GoodIn G (wsV RX9 264 RX9 yX9_isNumeral (wW yX9_isNumeral cX9_isNumeral 3 (some .boolean))) := good_V G_ml_X9_264 G_im_X9_isNumeral G_se_X9_isNumeral G_in_X9 G_cd_X9_isNumeral
theorem gv_X9_255 : GoodIn G (wsV RX9 255 RX9 yX9_readsDigits (wW yX9_readsDigits cX9_readsDigits 2 none)) := good_V G_ml_X9_255 G_im_X9_readsDigits G_se_X9_readsDigits G_in_X9 G_cd_X9_readsDigits
theorem gv_X9_252 : GoodIn G (wsV RX9 252 RX9 yX9_digitAt (wW yX9_digitAt cX9_digitAt 1 (some .int))) := good_V G_ml_X9_252 G_im_X9_digitAt G_se_X9_digitAt G_in_X9 G_cd_X9_digitAt
theorem gv_X9_239 : GoodIn G (wsV RX9 239 RX9 yX9_isAt (wW yX9_isAt cX9_isAt 3 (some .boolean))) := good_V G_ml_X9_239 G_im_X9_isAt G_se_X9_isAt G_in_X9 G_cd_X9_isAt
theorem gv_L_118 : GoodIn G (wsV RL 118 RX9 yX9_run (wW yX9_run cX9_run 4 (some .int))) := good_V G_ml_L_118 G_im_X9_run G_se_X9_run G_in_X9 G_cd_X9_run
theorem gv_X9_288 : GoodIn G (wsV RX9 288 RX9 yX9_command (wW yX9_command cX9_command 5 (some .int))) := good_V G_ml_X9_288 G_im_X9_command G_se_X9_command G_in_X9 G_cd_X9_command
theorem gv_X9_267 : GoodIn G (wsV RX9 267 RX9 yX9_commandOf (wW yX9_commandOf cX9_commandOf 7 (some .int))) := good_V G_ml_X9_267 G_im_X9_commandOf G_se_X9_commandOf G_in_X9 G_cd_X9_commandOf
theorem gs_X9_270 : GoodIn G (va_wsS RX9 270 yX9_numbersOf (wW yX9_numbersOf cX9_numbersOf 1 (some .int))) := good_S G_ml_X9_270 G_st_X9_numbersOf G_in_X9 G_cd_X9_numbersOf
theorem gv_X9_291 : GoodIn G (wsV RX9 291 RX9 yX9_done (wW yX9_done cX9_done 2 (some .int))) := good_V G_ml_X9_291 G_im_X9_done G_se_X9_done G_in_X9 G_cd_X9_done
theorem gv_X9_273 : GoodIn G (wsV RX9 273 RX9 yX9_fraction (wW yX9_fraction cX9_fraction 4 (some .int))) := good_V G_ml_X9_273 G_im_X9_fraction G_se_X9_fraction G_in_X9 G_cd_X9_fraction
theorem gv_X9_276 : GoodIn G (wsV RX9 276 RX9 yX9_drop (wW yX9_drop cX9_drop 3 (some .int))) := good_V G_ml_X9_276 G_im_X9_drop G_se_X9_drop G_in_X9 G_cd_X9_drop
theorem gv_X9_279 : GoodIn G (wsV RX9 279 RX9 yX9_multiply (wW yX9_multiply cX9_multiply 3 (some .int))) := good_V G_ml_X9_279 G_im_X9_multiply G_se_X9_multiply G_in_X9 G_cd_X9_multiply
theorem gv_X9_282 : GoodIn G (wsV RX9 282 RX9 yX9_sum (wW yX9_sum cX9_sum 5 (some .int))) := good_V G_ml_X9_282 G_im_X9_sum G_se_X9_sum G_in_X9 G_cd_X9_sum
theorem gv_X9_285 : GoodIn G (wsV RX9 285 RX9 yX9_lowest (wW yX9_lowest cX9_lowest 3 (some .int))) := good_V G_ml_X9_285 G_im_X9_lowest G_se_X9_lowest G_in_X9 G_cd_X9_lowest
theorem gv_L_122 : GoodIn G (wsV RL 122 RX9 yX9_hold (wW yX9_hold cX9_hold 3 (some .int))) := good_V G_ml_L_122 G_im_X9_hold G_se_X9_hold G_in_X9 G_cd_X9_hold
theorem gs_X9_294 : GoodIn G (va_wsS RX9 294 yX9_isHolder (wW yX9_isHolder cX9_isHolder 1 (some .boolean))) := good_S G_ml_X9_294 G_st_X9_isHolder G_in_X9 G_cd_X9_isHolder
theorem gv_X9_297 : GoodIn G (wsV RX9 297 RX9 yX9_looksHeld (wW yX9_looksHeld cX9_looksHeld 2 none)) := good_V G_ml_X9_297 G_im_X9_looksHeld G_se_X9_looksHeld G_in_X9 G_cd_X9_looksHeld
theorem gv_L_126 : GoodIn G (wsV RL 126 RX9 yX9_lose (wW yX9_lose cX9_lose 3 (some .int))) := good_V G_ml_L_126 G_im_X9_lose G_se_X9_lose G_in_X9 G_cd_X9_lose
theorem gv_L_130 : GoodIn G (wsV RL 130 RX9 yX9_taken (wW yX9_taken cX9_taken 4 (some .int))) := good_V G_ml_L_130 G_im_X9_taken G_se_X9_taken G_in_X9 G_cd_X9_taken
theorem gv_X9_302 : GoodIn G (wsV RX9 302 RX9 yX9_whyNot (wW yX9_whyNot cX9_whyNot 3 (some .int))) := good_V G_ml_X9_302 G_im_X9_whyNot G_se_X9_whyNot G_in_X9 G_cd_X9_whyNot
theorem gv_L_134 : GoodIn G (wsV RL 134 RX9 yX9_was (wW yX9_was cX9_was 4 (some .int))) := good_V G_ml_L_134 G_im_X9_was G_se_X9_was G_in_X9 G_cd_X9_was
theorem gv_L_138 : GoodIn G (wsV RL 138 RX9 yX9_row (wW yX9_row cX9_row 4 (some .int))) := good_V G_ml_L_138 G_im_X9_row G_se_X9_row G_in_X9 G_cd_X9_row
theorem gv_L_142 : GoodIn G (wsV RL 142 RX9 yX9_put (wW yX9_put cX9_put 5 (some .int))) := good_V G_ml_L_142 G_im_X9_put G_se_X9_put G_in_X9 G_cd_X9_put
theorem gv_L_147 : GoodIn G (wsV RL 147 RX9 yX9_get (wW yX9_get cX9_get 3 (some .long))) := good_V G_ml_L_147 G_im_X9_get G_se_X9_get G_in_X9 G_cd_X9_get
theorem gv_L_151 : GoodIn G (wsV RL 151 RX9 yX9_judge (wW yX9_judge cX9_judge 5 (some .int))) := good_V G_ml_L_151 G_im_X9_judge G_se_X9_judge G_in_X9 G_cd_X9_judge
theorem gv_L_155 : GoodIn G (wsV RL 155 RX9 yX9_image (wW yX9_image cX9_image 2 (some .int))) := good_V G_ml_L_155 G_im_X9_image G_se_X9_image G_in_X9 G_cd_X9_image
theorem gv_L_159 : GoodIn G (wsV RL 159 RX9 yX9_undo (wW yX9_undo cX9_undo 2 (some .int))) := good_V G_ml_L_159 G_im_X9_undo G_se_X9_undo G_in_X9 G_cd_X9_undo
theorem gv_L_163 : GoodIn G (wsV RL 163 RX9 yX9_count (wW yX9_count cX9_count 2 (some .int))) := good_V G_ml_L_163 G_im_X9_count G_se_X9_count G_in_X9 G_cd_X9_count
theorem hd_X0_init : yX0_init.cls ≠ "java/lang/invoke/MethodHandle" ∧ yX0_init.cls ≠ "java/lang/invoke/VarHandle" ∧ (parseMethodDescriptor yX0_init.desc).map (fun d => d.parameters.length) = some 0 := by decide +kernel
theorem hv_X0_init : yX0_init.cls = RX0 ∧ yX0_init.cls ≠ "java/lang/invoke/MethodHandle" ∧ yX0_init.cls ≠ "java/lang/invoke/VarHandle" ∧ (parseMethodDescriptor yX0_init.desc).map (fun d => d.parameters.length) = some 0 := ⟨rfl, hd_X0_init⟩
theorem hd_X0_fillTo : yX0_fillTo.cls ≠ "java/lang/invoke/MethodHandle" ∧ yX0_fillTo.cls ≠ "java/lang/invoke/VarHandle" ∧ (parseMethodDescriptor yX0_fillTo.desc).map (fun d => d.parameters.length) = some 2 := by decide +kernel
theorem hv_X0_fillTo : yX0_fillTo.cls = RX0 ∧ yX0_fillTo.cls ≠ "java/lang/invoke/MethodHandle" ∧ yX0_fillTo.cls ≠ "java/lang/invoke/VarHandle" ∧ (parseMethodDescriptor yX0_fillTo.desc).map (fun d => d.parameters.length) = some 2 := ⟨rfl, hd_X0_fillTo⟩
theorem hd_X0_becomeLike : yX0_becomeLike.cls ≠ "java/lang/invoke/MethodHandle" ∧ yX0_becomeLike.cls ≠ "java/lang/invoke/VarHandle" ∧ (parseMethodDescriptor yX0_becomeLike.desc).map (fun d => d.parameters.length) = some 1 := by decide +kernel
theorem hv_X0_becomeLike : yX0_becomeLike.cls = RX0 ∧ yX0_becomeLike.cls ≠ "java/lang/invoke/MethodHandle" ∧ yX0_becomeLike.cls ≠ "java/lang/invoke/VarHandle" ∧ (parseMethodDescriptor yX0_becomeLike.desc).map (fun d => d.parameters.length) = some 1 := ⟨rfl, hd_X0_becomeLike⟩
theorem hd_X0_wordOn : yX0_wordOn.cls ≠ "java/lang/invoke/MethodHandle" ∧ yX0_wordOn.cls ≠ "java/lang/invoke/VarHandle" ∧ (parseMethodDescriptor yX0_wordOn.desc).map (fun d => d.parameters.length) = some 2 := by decide +kernel
theorem hd_X0_wordText : yX0_wordText.cls ≠ "java/lang/invoke/MethodHandle" ∧ yX0_wordText.cls ≠ "java/lang/invoke/VarHandle" ∧ (parseMethodDescriptor yX0_wordText.desc).map (fun d => d.parameters.length) = some 1 := by decide +kernel
theorem hd_X0_keepOnly : yX0_keepOnly.cls ≠ "java/lang/invoke/MethodHandle" ∧ yX0_keepOnly.cls ≠ "java/lang/invoke/VarHandle" ∧ (parseMethodDescriptor yX0_keepOnly.desc).map (fun d => d.parameters.length) = some 2 := by decide +kernel
theorem hv_X0_keepOnly : yX0_keepOnly.cls = RX0 ∧ yX0_keepOnly.cls ≠ "java/lang/invoke/MethodHandle" ∧ yX0_keepOnly.cls ≠ "java/lang/invoke/VarHandle" ∧ (parseMethodDescriptor yX0_keepOnly.desc).map (fun d => d.parameters.length) = some 2 := ⟨rfl, hd_X0_keepOnly⟩
theorem hd_X0_isSo : yX0_isSo.cls ≠ "java/lang/invoke/MethodHandle" ∧ yX0_isSo.cls ≠ "java/lang/invoke/VarHandle" ∧ (parseMethodDescriptor yX0_isSo.desc).map (fun d => d.parameters.length) = some 2 := by decide +kernel
theorem hv_X0_isSo : yX0_isSo.cls = RX0 ∧ yX0_isSo.cls ≠ "java/lang/invoke/MethodHandle" ∧ yX0_isSo.cls ≠ "java/lang/invoke/VarHandle" ∧ (parseMethodDescriptor yX0_isSo.desc).map (fun d => d.parameters.length) = some 2 := ⟨rfl, hd_X0_isSo⟩
theorem hd_X1_init : yX1_init.cls ≠ "java/lang/invoke/MethodHandle" ∧ yX1_init.cls ≠ "java/lang/invoke/VarHandle" ∧ (parseMethodDescriptor yX1_init.desc).map (fun d => d.parameters.length) = some 0 := by decide +kernel
theorem hv_X1_init : yX1_init.cls = RX1 ∧ yX1_init.cls ≠ "java/lang/invoke/MethodHandle" ∧ yX1_init.cls ≠ "java/lang/invoke/VarHandle" ∧ (parseMethodDescriptor yX1_init.desc).map (fun d => d.parameters.length) = some 0 := ⟨rfl, hd_X1_init⟩
theorem hd_X1_become : yX1_become.cls ≠ "java/lang/invoke/MethodHandle" ∧ yX1_become.cls ≠ "java/lang/invoke/VarHandle" ∧ (parseMethodDescriptor yX1_become.desc).map (fun d => d.parameters.length) = some 3 := by decide +kernel
theorem hv_X1_become : yX1_become.cls = RX1 ∧ yX1_become.cls ≠ "java/lang/invoke/MethodHandle" ∧ yX1_become.cls ≠ "java/lang/invoke/VarHandle" ∧ (parseMethodDescriptor yX1_become.desc).map (fun d => d.parameters.length) = some 3 := ⟨rfl, hd_X1_become⟩
theorem hd_X1_becomeLike : yX1_becomeLike.cls ≠ "java/lang/invoke/MethodHandle" ∧ yX1_becomeLike.cls ≠ "java/lang/invoke/VarHandle" ∧ (parseMethodDescriptor yX1_becomeLike.desc).map (fun d => d.parameters.length) = some 1 := by decide +kernel
theorem hv_X1_becomeLike : yX1_becomeLike.cls = RX1 ∧ yX1_becomeLike.cls ≠ "java/lang/invoke/MethodHandle" ∧ yX1_becomeLike.cls ≠ "java/lang/invoke/VarHandle" ∧ (parseMethodDescriptor yX1_becomeLike.desc).map (fun d => d.parameters.length) = some 1 := ⟨rfl, hd_X1_becomeLike⟩
theorem hd_X1_turns : yX1_turns.cls ≠ "java/lang/invoke/MethodHandle" ∧ yX1_turns.cls ≠ "java/lang/invoke/VarHandle" ∧ (parseMethodDescriptor yX1_turns.desc).map (fun d => d.parameters.length) = some 1 := by decide +kernel
theorem hv_X1_turns : yX1_turns.cls = RX1 ∧ yX1_turns.cls ≠ "java/lang/invoke/MethodHandle" ∧ yX1_turns.cls ≠ "java/lang/invoke/VarHandle" ∧ (parseMethodDescriptor yX1_turns.desc).map (fun d => d.parameters.length) = some 1 := ⟨rfl, hd_X1_turns⟩
theorem hd_X1_restAfter : yX1_restAfter.cls ≠ "java/lang/invoke/MethodHandle" ∧ yX1_restAfter.cls ≠ "java/lang/invoke/VarHandle" ∧ (parseMethodDescriptor yX1_restAfter.desc).map (fun d => d.parameters.length) = some 1 := by decide +kernel
theorem hv_X1_restAfter : yX1_restAfter.cls = RX1 ∧ yX1_restAfter.cls ≠ "java/lang/invoke/MethodHandle" ∧ yX1_restAfter.cls ≠ "java/lang/invoke/VarHandle" ∧ (parseMethodDescriptor yX1_restAfter.desc).map (fun d => d.parameters.length) = some 1 := ⟨rfl, hd_X1_restAfter⟩
theorem hd_X1_digitOf : yX1_digitOf.cls ≠ "java/lang/invoke/MethodHandle" ∧ yX1_digitOf.cls ≠ "java/lang/invoke/VarHandle" ∧ (parseMethodDescriptor yX1_digitOf.desc).map (fun d => d.parameters.length) = some 1 := by decide +kernel
theorem hv_X1_digitOf : yX1_digitOf.cls = RX1 ∧ yX1_digitOf.cls ≠ "java/lang/invoke/MethodHandle" ∧ yX1_digitOf.cls ≠ "java/lang/invoke/VarHandle" ∧ (parseMethodDescriptor yX1_digitOf.desc).map (fun d => d.parameters.length) = some 1 := ⟨rfl, hd_X1_digitOf⟩
theorem hd_X1_restAt : yX1_restAt.cls ≠ "java/lang/invoke/MethodHandle" ∧ yX1_restAt.cls ≠ "java/lang/invoke/VarHandle" ∧ (parseMethodDescriptor yX1_restAt.desc).map (fun d => d.parameters.length) = some 1 := by decide +kernel
theorem hv_X1_restAt : yX1_restAt.cls = RX1 ∧ yX1_restAt.cls ≠ "java/lang/invoke/MethodHandle" ∧ yX1_restAt.cls ≠ "java/lang/invoke/VarHandle" ∧ (parseMethodDescriptor yX1_restAt.desc).map (fun d => d.parameters.length) = some 1 := ⟨rfl, hd_X1_restAt⟩
theorem hd_X1_whole : yX1_whole.cls ≠ "java/lang/invoke/MethodHandle" ∧ yX1_whole.cls ≠ "java/lang/invoke/VarHandle" ∧ (parseMethodDescriptor yX1_whole.desc).map (fun d => d.parameters.length) = some 0 := by decide +kernel
theorem hv_X1_whole : yX1_whole.cls = RX1 ∧ yX1_whole.cls ≠ "java/lang/invoke/MethodHandle" ∧ yX1_whole.cls ≠ "java/lang/invoke/VarHandle" ∧ (parseMethodDescriptor yX1_whole.desc).map (fun d => d.parameters.length) = some 0 := ⟨rfl, hd_X1_whole⟩
theorem hd_X1_ends : yX1_ends.cls ≠ "java/lang/invoke/MethodHandle" ∧ yX1_ends.cls ≠ "java/lang/invoke/VarHandle" ∧ (parseMethodDescriptor yX1_ends.desc).map (fun d => d.parameters.length) = some 0 := by decide +kernel
theorem hv_X1_ends : yX1_ends.cls = RX1 ∧ yX1_ends.cls ≠ "java/lang/invoke/MethodHandle" ∧ yX1_ends.cls ≠ "java/lang/invoke/VarHandle" ∧ (parseMethodDescriptor yX1_ends.desc).map (fun d => d.parameters.length) = some 0 := ⟨rfl, hd_X1_ends⟩
theorem hd_X1_kind : yX1_kind.cls ≠ "java/lang/invoke/MethodHandle" ∧ yX1_kind.cls ≠ "java/lang/invoke/VarHandle" ∧ (parseMethodDescriptor yX1_kind.desc).map (fun d => d.parameters.length) = some 0 := by decide +kernel
theorem hv_X1_kind : yX1_kind.cls = RX1 ∧ yX1_kind.cls ≠ "java/lang/invoke/MethodHandle" ∧ yX1_kind.cls ≠ "java/lang/invoke/VarHandle" ∧ (parseMethodDescriptor yX1_kind.desc).map (fun d => d.parameters.length) = some 0 := ⟨rfl, hd_X1_kind⟩
theorem hd_X1_isFullUnit : yX1_isFullUnit.cls ≠ "java/lang/invoke/MethodHandle" ∧ yX1_isFullUnit.cls ≠ "java/lang/invoke/VarHandle" ∧ (parseMethodDescriptor yX1_isFullUnit.desc).map (fun d => d.parameters.length) = some 0 := by decide +kernel
theorem hv_X1_isFullUnit : yX1_isFullUnit.cls = RX1 ∧ yX1_isFullUnit.cls ≠ "java/lang/invoke/MethodHandle" ∧ yX1_isFullUnit.cls ≠ "java/lang/invoke/VarHandle" ∧ (parseMethodDescriptor yX1_isFullUnit.desc).map (fun d => d.parameters.length) = some 0 := ⟨rfl, hd_X1_isFullUnit⟩
theorem hd_X1_placeOfDigit : yX1_placeOfDigit.cls ≠ "java/lang/invoke/MethodHandle" ∧ yX1_placeOfDigit.cls ≠ "java/lang/invoke/VarHandle" ∧ (parseMethodDescriptor yX1_placeOfDigit.desc).map (fun d => d.parameters.length) = some 1 := by decide +kernel
theorem hv_X1_placeOfDigit : yX1_placeOfDigit.cls = RX1 ∧ yX1_placeOfDigit.cls ≠ "java/lang/invoke/MethodHandle" ∧ yX1_placeOfDigit.cls ≠ "java/lang/invoke/VarHandle" ∧ (parseMethodDescriptor yX1_placeOfDigit.desc).map (fun d => d.parameters.length) = some 1 := ⟨rfl, hd_X1_placeOfDigit⟩
theorem hd_X1_partsInto : yX1_partsInto.cls ≠ "java/lang/invoke/MethodHandle" ∧ yX1_partsInto.cls ≠ "java/lang/invoke/VarHandle" ∧ (parseMethodDescriptor yX1_partsInto.desc).map (fun d => d.parameters.length) = some 1 := by decide +kernel
theorem hv_X1_partsInto : yX1_partsInto.cls = RX1 ∧ yX1_partsInto.cls ≠ "java/lang/invoke/MethodHandle" ∧ yX1_partsInto.cls ≠ "java/lang/invoke/VarHandle" ∧ (parseMethodDescriptor yX1_partsInto.desc).map (fun d => d.parameters.length) = some 1 := ⟨rfl, hd_X1_partsInto⟩
theorem hd_X1_blockWidth : yX1_blockWidth.cls ≠ "java/lang/invoke/MethodHandle" ∧ yX1_blockWidth.cls ≠ "java/lang/invoke/VarHandle" ∧ (parseMethodDescriptor yX1_blockWidth.desc).map (fun d => d.parameters.length) = some 1 := by decide +kernel
theorem hv_X1_blockWidth : yX1_blockWidth.cls = RX1 ∧ yX1_blockWidth.cls ≠ "java/lang/invoke/MethodHandle" ∧ yX1_blockWidth.cls ≠ "java/lang/invoke/VarHandle" ∧ (parseMethodDescriptor yX1_blockWidth.desc).map (fun d => d.parameters.length) = some 1 := ⟨rfl, hd_X1_blockWidth⟩
theorem hd_X1_ninesOfBlocks : yX1_ninesOfBlocks.cls ≠ "java/lang/invoke/MethodHandle" ∧ yX1_ninesOfBlocks.cls ≠ "java/lang/invoke/VarHandle" ∧ (parseMethodDescriptor yX1_ninesOfBlocks.desc).map (fun d => d.parameters.length) = some 1 := by decide +kernel
theorem hv_X1_ninesOfBlocks : yX1_ninesOfBlocks.cls = RX1 ∧ yX1_ninesOfBlocks.cls ≠ "java/lang/invoke/MethodHandle" ∧ yX1_ninesOfBlocks.cls ≠ "java/lang/invoke/VarHandle" ∧ (parseMethodDescriptor yX1_ninesOfBlocks.desc).map (fun d => d.parameters.length) = some 1 := ⟨rfl, hd_X1_ninesOfBlocks⟩
theorem hd_X1_turningRestTimes : yX1_turningRestTimes.cls ≠ "java/lang/invoke/MethodHandle" ∧ yX1_turningRestTimes.cls ≠ "java/lang/invoke/VarHandle" ∧ (parseMethodDescriptor yX1_turningRestTimes.desc).map (fun d => d.parameters.length) = some 1 := by decide +kernel
theorem hv_X1_turningRestTimes : yX1_turningRestTimes.cls = RX1 ∧ yX1_turningRestTimes.cls ≠ "java/lang/invoke/MethodHandle" ∧ yX1_turningRestTimes.cls ≠ "java/lang/invoke/VarHandle" ∧ (parseMethodDescriptor yX1_turningRestTimes.desc).map (fun d => d.parameters.length) = some 1 := ⟨rfl, hd_X1_turningRestTimes⟩
theorem hd_X1_placeInPeriod : yX1_placeInPeriod.cls ≠ "java/lang/invoke/MethodHandle" ∧ yX1_placeInPeriod.cls ≠ "java/lang/invoke/VarHandle" ∧ (parseMethodDescriptor yX1_placeInPeriod.desc).map (fun d => d.parameters.length) = some 1 := by decide +kernel
theorem hv_X1_placeInPeriod : yX1_placeInPeriod.cls = RX1 ∧ yX1_placeInPeriod.cls ≠ "java/lang/invoke/MethodHandle" ∧ yX1_placeInPeriod.cls ≠ "java/lang/invoke/VarHandle" ∧ (parseMethodDescriptor yX1_placeInPeriod.desc).map (fun d => d.parameters.length) = some 1 := ⟨rfl, hd_X1_placeInPeriod⟩
theorem hd_X1_spelledLength : yX1_spelledLength.cls ≠ "java/lang/invoke/MethodHandle" ∧ yX1_spelledLength.cls ≠ "java/lang/invoke/VarHandle" ∧ (parseMethodDescriptor yX1_spelledLength.desc).map (fun d => d.parameters.length) = some 0 := by decide +kernel
theorem hv_X1_spelledLength : yX1_spelledLength.cls = RX1 ∧ yX1_spelledLength.cls ≠ "java/lang/invoke/MethodHandle" ∧ yX1_spelledLength.cls ≠ "java/lang/invoke/VarHandle" ∧ (parseMethodDescriptor yX1_spelledLength.desc).map (fun d => d.parameters.length) = some 0 := ⟨rfl, hd_X1_spelledLength⟩
theorem hd_X1_spelledByte : yX1_spelledByte.cls ≠ "java/lang/invoke/MethodHandle" ∧ yX1_spelledByte.cls ≠ "java/lang/invoke/VarHandle" ∧ (parseMethodDescriptor yX1_spelledByte.desc).map (fun d => d.parameters.length) = some 1 := by decide +kernel
theorem hv_X1_spelledByte : yX1_spelledByte.cls = RX1 ∧ yX1_spelledByte.cls ≠ "java/lang/invoke/MethodHandle" ∧ yX1_spelledByte.cls ≠ "java/lang/invoke/VarHandle" ∧ (parseMethodDescriptor yX1_spelledByte.desc).map (fun d => d.parameters.length) = some 1 := ⟨rfl, hd_X1_spelledByte⟩
theorem hd_X1_wholeDigits : yX1_wholeDigits.cls ≠ "java/lang/invoke/MethodHandle" ∧ yX1_wholeDigits.cls ≠ "java/lang/invoke/VarHandle" ∧ (parseMethodDescriptor yX1_wholeDigits.desc).map (fun d => d.parameters.length) = some 0 := by decide +kernel
theorem hv_X1_wholeDigits : yX1_wholeDigits.cls = RX1 ∧ yX1_wholeDigits.cls ≠ "java/lang/invoke/MethodHandle" ∧ yX1_wholeDigits.cls ≠ "java/lang/invoke/VarHandle" ∧ (parseMethodDescriptor yX1_wholeDigits.desc).map (fun d => d.parameters.length) = some 0 := ⟨rfl, hd_X1_wholeDigits⟩
theorem hd_X1_wholeDigit : yX1_wholeDigit.cls ≠ "java/lang/invoke/MethodHandle" ∧ yX1_wholeDigit.cls ≠ "java/lang/invoke/VarHandle" ∧ (parseMethodDescriptor yX1_wholeDigit.desc).map (fun d => d.parameters.length) = some 1 := by decide +kernel
theorem hv_X1_wholeDigit : yX1_wholeDigit.cls = RX1 ∧ yX1_wholeDigit.cls ≠ "java/lang/invoke/MethodHandle" ∧ yX1_wholeDigit.cls ≠ "java/lang/invoke/VarHandle" ∧ (parseMethodDescriptor yX1_wholeDigit.desc).map (fun d => d.parameters.length) = some 1 := ⟨rfl, hd_X1_wholeDigit⟩
theorem hd_X1_signOf : yX1_signOf.cls ≠ "java/lang/invoke/MethodHandle" ∧ yX1_signOf.cls ≠ "java/lang/invoke/VarHandle" ∧ (parseMethodDescriptor yX1_signOf.desc).map (fun d => d.parameters.length) = some 1 := by decide +kernel
theorem hd_X2_init : yX2_init.cls ≠ "java/lang/invoke/MethodHandle" ∧ yX2_init.cls ≠ "java/lang/invoke/VarHandle" ∧ (parseMethodDescriptor yX2_init.desc).map (fun d => d.parameters.length) = some 0 := by decide +kernel
theorem hv_X2_init : yX2_init.cls = RX2 ∧ yX2_init.cls ≠ "java/lang/invoke/MethodHandle" ∧ yX2_init.cls ≠ "java/lang/invoke/VarHandle" ∧ (parseMethodDescriptor yX2_init.desc).map (fun d => d.parameters.length) = some 0 := ⟨rfl, hd_X2_init⟩
theorem hd_X2_holdFraction : yX2_holdFraction.cls ≠ "java/lang/invoke/MethodHandle" ∧ yX2_holdFraction.cls ≠ "java/lang/invoke/VarHandle" ∧ (parseMethodDescriptor yX2_holdFraction.desc).map (fun d => d.parameters.length) = some 1 := by decide +kernel
theorem hv_X2_holdFraction : yX2_holdFraction.cls = RX2 ∧ yX2_holdFraction.cls ≠ "java/lang/invoke/MethodHandle" ∧ yX2_holdFraction.cls ≠ "java/lang/invoke/VarHandle" ∧ (parseMethodDescriptor yX2_holdFraction.desc).map (fun d => d.parameters.length) = some 1 := ⟨rfl, hd_X2_holdFraction⟩
theorem hd_X2_holdRow : yX2_holdRow.cls ≠ "java/lang/invoke/MethodHandle" ∧ yX2_holdRow.cls ≠ "java/lang/invoke/VarHandle" ∧ (parseMethodDescriptor yX2_holdRow.desc).map (fun d => d.parameters.length) = some 1 := by decide +kernel
theorem hv_X2_holdRow : yX2_holdRow.cls = RX2 ∧ yX2_holdRow.cls ≠ "java/lang/invoke/MethodHandle" ∧ yX2_holdRow.cls ≠ "java/lang/invoke/VarHandle" ∧ (parseMethodDescriptor yX2_holdRow.desc).map (fun d => d.parameters.length) = some 1 := ⟨rfl, hd_X2_holdRow⟩
theorem hd_X2_refusalAs : yX2_refusalAs.cls ≠ "java/lang/invoke/MethodHandle" ∧ yX2_refusalAs.cls ≠ "java/lang/invoke/VarHandle" ∧ (parseMethodDescriptor yX2_refusalAs.desc).map (fun d => d.parameters.length) = some 1 := by decide +kernel
theorem hv_X2_refusalAs : yX2_refusalAs.cls = RX2 ∧ yX2_refusalAs.cls ≠ "java/lang/invoke/MethodHandle" ∧ yX2_refusalAs.cls ≠ "java/lang/invoke/VarHandle" ∧ (parseMethodDescriptor yX2_refusalAs.desc).map (fun d => d.parameters.length) = some 1 := ⟨rfl, hd_X2_refusalAs⟩
theorem hd_X2_hasPlace : yX2_hasPlace.cls ≠ "java/lang/invoke/MethodHandle" ∧ yX2_hasPlace.cls ≠ "java/lang/invoke/VarHandle" ∧ (parseMethodDescriptor yX2_hasPlace.desc).map (fun d => d.parameters.length) = some 1 := by decide +kernel
theorem hv_X2_hasPlace : yX2_hasPlace.cls = RX2 ∧ yX2_hasPlace.cls ≠ "java/lang/invoke/MethodHandle" ∧ yX2_hasPlace.cls ≠ "java/lang/invoke/VarHandle" ∧ (parseMethodDescriptor yX2_hasPlace.desc).map (fun d => d.parameters.length) = some 1 := ⟨rfl, hd_X2_hasPlace⟩
theorem hd_X2_firstUnlike : yX2_firstUnlike.cls ≠ "java/lang/invoke/MethodHandle" ∧ yX2_firstUnlike.cls ≠ "java/lang/invoke/VarHandle" ∧ (parseMethodDescriptor yX2_firstUnlike.desc).map (fun d => d.parameters.length) = some 1 := by decide +kernel
theorem hv_X2_firstUnlike : yX2_firstUnlike.cls = RX2 ∧ yX2_firstUnlike.cls ≠ "java/lang/invoke/MethodHandle" ∧ yX2_firstUnlike.cls ≠ "java/lang/invoke/VarHandle" ∧ (parseMethodDescriptor yX2_firstUnlike.desc).map (fun d => d.parameters.length) = some 1 := ⟨rfl, hd_X2_firstUnlike⟩
theorem hd_X3_init : yX3_init.cls ≠ "java/lang/invoke/MethodHandle" ∧ yX3_init.cls ≠ "java/lang/invoke/VarHandle" ∧ (parseMethodDescriptor yX3_init.desc).map (fun d => d.parameters.length) = some 0 := by decide +kernel
theorem hv_X3_init : yX3_init.cls = RX3 ∧ yX3_init.cls ≠ "java/lang/invoke/MethodHandle" ∧ yX3_init.cls ≠ "java/lang/invoke/VarHandle" ∧ (parseMethodDescriptor yX3_init.desc).map (fun d => d.parameters.length) = some 0 := ⟨rfl, hd_X3_init⟩
theorem hd_X3_parse : yX3_parse.cls ≠ "java/lang/invoke/MethodHandle" ∧ yX3_parse.cls ≠ "java/lang/invoke/VarHandle" ∧ (parseMethodDescriptor yX3_parse.desc).map (fun d => d.parameters.length) = some 2 := by decide +kernel
theorem hv_X3_parse : yX3_parse.cls = RX3 ∧ yX3_parse.cls ≠ "java/lang/invoke/MethodHandle" ∧ yX3_parse.cls ≠ "java/lang/invoke/VarHandle" ∧ (parseMethodDescriptor yX3_parse.desc).map (fun d => d.parameters.length) = some 2 := ⟨rfl, hd_X3_parse⟩
theorem hd_X3_takesPeriod : yX3_takesPeriod.cls ≠ "java/lang/invoke/MethodHandle" ∧ yX3_takesPeriod.cls ≠ "java/lang/invoke/VarHandle" ∧ (parseMethodDescriptor yX3_takesPeriod.desc).map (fun d => d.parameters.length) = some 2 := by decide +kernel
theorem hv_X3_takesPeriod : yX3_takesPeriod.cls = RX3 ∧ yX3_takesPeriod.cls ≠ "java/lang/invoke/MethodHandle" ∧ yX3_takesPeriod.cls ≠ "java/lang/invoke/VarHandle" ∧ (parseMethodDescriptor yX3_takesPeriod.desc).map (fun d => d.parameters.length) = some 2 := ⟨rfl, hd_X3_takesPeriod⟩
theorem hd_X4_init : yX4_init.cls ≠ "java/lang/invoke/MethodHandle" ∧ yX4_init.cls ≠ "java/lang/invoke/VarHandle" ∧ (parseMethodDescriptor yX4_init.desc).map (fun d => d.parameters.length) = some 0 := by decide +kernel
theorem hv_X4_init : yX4_init.cls = RX4 ∧ yX4_init.cls ≠ "java/lang/invoke/MethodHandle" ∧ yX4_init.cls ≠ "java/lang/invoke/VarHandle" ∧ (parseMethodDescriptor yX4_init.desc).map (fun d => d.parameters.length) = some 0 := ⟨rfl, hd_X4_init⟩
theorem hd_X4_load : yX4_load.cls ≠ "java/lang/invoke/MethodHandle" ∧ yX4_load.cls ≠ "java/lang/invoke/VarHandle" ∧ (parseMethodDescriptor yX4_load.desc).map (fun d => d.parameters.length) = some 1 := by decide +kernel
theorem hv_X4_load : yX4_load.cls = RX4 ∧ yX4_load.cls ≠ "java/lang/invoke/MethodHandle" ∧ yX4_load.cls ≠ "java/lang/invoke/VarHandle" ∧ (parseMethodDescriptor yX4_load.desc).map (fun d => d.parameters.length) = some 1 := ⟨rfl, hd_X4_load⟩
theorem hd_X4_placeOfBlocks : yX4_placeOfBlocks.cls ≠ "java/lang/invoke/MethodHandle" ∧ yX4_placeOfBlocks.cls ≠ "java/lang/invoke/VarHandle" ∧ (parseMethodDescriptor yX4_placeOfBlocks.desc).map (fun d => d.parameters.length) = some 4 := by decide +kernel
theorem hv_X4_placeOfBlocks : yX4_placeOfBlocks.cls = RX4 ∧ yX4_placeOfBlocks.cls ≠ "java/lang/invoke/MethodHandle" ∧ yX4_placeOfBlocks.cls ≠ "java/lang/invoke/VarHandle" ∧ (parseMethodDescriptor yX4_placeOfBlocks.desc).map (fun d => d.parameters.length) = some 4 := ⟨rfl, hd_X4_placeOfBlocks⟩
theorem hd_X4_worthTogether : yX4_worthTogether.cls ≠ "java/lang/invoke/MethodHandle" ∧ yX4_worthTogether.cls ≠ "java/lang/invoke/VarHandle" ∧ (parseMethodDescriptor yX4_worthTogether.desc).map (fun d => d.parameters.length) = some 2 := by decide +kernel
theorem hv_X4_worthTogether : yX4_worthTogether.cls = RX4 ∧ yX4_worthTogether.cls ≠ "java/lang/invoke/MethodHandle" ∧ yX4_worthTogether.cls ≠ "java/lang/invoke/VarHandle" ∧ (parseMethodDescriptor yX4_worthTogether.desc).map (fun d => d.parameters.length) = some 2 := ⟨rfl, hd_X4_worthTogether⟩
theorem hd_X4_worth : yX4_worth.cls ≠ "java/lang/invoke/MethodHandle" ∧ yX4_worth.cls ≠ "java/lang/invoke/VarHandle" ∧ (parseMethodDescriptor yX4_worth.desc).map (fun d => d.parameters.length) = some 4 := by decide +kernel
theorem hd_X5_init : yX5_init.cls ≠ "java/lang/invoke/MethodHandle" ∧ yX5_init.cls ≠ "java/lang/invoke/VarHandle" ∧ (parseMethodDescriptor yX5_init.desc).map (fun d => d.parameters.length) = some 0 := by decide +kernel
theorem hv_X5_init : yX5_init.cls = RX5 ∧ yX5_init.cls ≠ "java/lang/invoke/MethodHandle" ∧ yX5_init.cls ≠ "java/lang/invoke/VarHandle" ∧ (parseMethodDescriptor yX5_init.desc).map (fun d => d.parameters.length) = some 0 := ⟨rfl, hd_X5_init⟩
theorem hd_X5_word : yX5_word.cls ≠ "java/lang/invoke/MethodHandle" ∧ yX5_word.cls ≠ "java/lang/invoke/VarHandle" ∧ (parseMethodDescriptor yX5_word.desc).map (fun d => d.parameters.length) = some 1 := by decide +kernel
theorem hv_X5_word : yX5_word.cls = RX5 ∧ yX5_word.cls ≠ "java/lang/invoke/MethodHandle" ∧ yX5_word.cls ≠ "java/lang/invoke/VarHandle" ∧ (parseMethodDescriptor yX5_word.desc).map (fun d => d.parameters.length) = some 1 := ⟨rfl, hd_X5_word⟩
theorem hd_X5_number : yX5_number.cls ≠ "java/lang/invoke/MethodHandle" ∧ yX5_number.cls ≠ "java/lang/invoke/VarHandle" ∧ (parseMethodDescriptor yX5_number.desc).map (fun d => d.parameters.length) = some 2 := by decide +kernel
theorem hv_X5_number : yX5_number.cls = RX5 ∧ yX5_number.cls ≠ "java/lang/invoke/MethodHandle" ∧ yX5_number.cls ≠ "java/lang/invoke/VarHandle" ∧ (parseMethodDescriptor yX5_number.desc).map (fun d => d.parameters.length) = some 2 := ⟨rfl, hd_X5_number⟩
theorem hd_X5_parse : yX5_parse.cls ≠ "java/lang/invoke/MethodHandle" ∧ yX5_parse.cls ≠ "java/lang/invoke/VarHandle" ∧ (parseMethodDescriptor yX5_parse.desc).map (fun d => d.parameters.length) = some 1 := by decide +kernel
theorem hv_X5_parse : yX5_parse.cls = RX5 ∧ yX5_parse.cls ≠ "java/lang/invoke/MethodHandle" ∧ yX5_parse.cls ≠ "java/lang/invoke/VarHandle" ∧ (parseMethodDescriptor yX5_parse.desc).map (fun d => d.parameters.length) = some 1 := ⟨rfl, hd_X5_parse⟩
theorem hd_X5_parseCommand : yX5_parseCommand.cls ≠ "java/lang/invoke/MethodHandle" ∧ yX5_parseCommand.cls ≠ "java/lang/invoke/VarHandle" ∧ (parseMethodDescriptor yX5_parseCommand.desc).map (fun d => d.parameters.length) = some 1 := by decide +kernel
theorem hv_X5_parseCommand : yX5_parseCommand.cls = RX5 ∧ yX5_parseCommand.cls ≠ "java/lang/invoke/MethodHandle" ∧ yX5_parseCommand.cls ≠ "java/lang/invoke/VarHandle" ∧ (parseMethodDescriptor yX5_parseCommand.desc).map (fun d => d.parameters.length) = some 1 := ⟨rfl, hd_X5_parseCommand⟩
theorem hd_X5_wordBetween : yX5_wordBetween.cls ≠ "java/lang/invoke/MethodHandle" ∧ yX5_wordBetween.cls ≠ "java/lang/invoke/VarHandle" ∧ (parseMethodDescriptor yX5_wordBetween.desc).map (fun d => d.parameters.length) = some 2 := by decide +kernel
theorem hd_X5_wordText : yX5_wordText.cls ≠ "java/lang/invoke/MethodHandle" ∧ yX5_wordText.cls ≠ "java/lang/invoke/VarHandle" ∧ (parseMethodDescriptor yX5_wordText.desc).map (fun d => d.parameters.length) = some 1 := by decide +kernel
theorem hd_X5_numbersOf : yX5_numbersOf.cls ≠ "java/lang/invoke/MethodHandle" ∧ yX5_numbersOf.cls ≠ "java/lang/invoke/VarHandle" ∧ (parseMethodDescriptor yX5_numbersOf.desc).map (fun d => d.parameters.length) = some 1 := by decide +kernel
theorem hd_X6_init : yX6_init.cls ≠ "java/lang/invoke/MethodHandle" ∧ yX6_init.cls ≠ "java/lang/invoke/VarHandle" ∧ (parseMethodDescriptor yX6_init.desc).map (fun d => d.parameters.length) = some 0 := by decide +kernel
theorem hv_X6_init : yX6_init.cls = RX6 ∧ yX6_init.cls ≠ "java/lang/invoke/MethodHandle" ∧ yX6_init.cls ≠ "java/lang/invoke/VarHandle" ∧ (parseMethodDescriptor yX6_init.desc).map (fun d => d.parameters.length) = some 0 := ⟨rfl, hd_X6_init⟩
theorem hd_X6_at : yX6_at.cls ≠ "java/lang/invoke/MethodHandle" ∧ yX6_at.cls ≠ "java/lang/invoke/VarHandle" ∧ (parseMethodDescriptor yX6_at.desc).map (fun d => d.parameters.length) = some 1 := by decide +kernel
theorem hv_X6_at : yX6_at.cls = RX6 ∧ yX6_at.cls ≠ "java/lang/invoke/MethodHandle" ∧ yX6_at.cls ≠ "java/lang/invoke/VarHandle" ∧ (parseMethodDescriptor yX6_at.desc).map (fun d => d.parameters.length) = some 1 := ⟨rfl, hd_X6_at⟩
theorem hd_X6_add : yX6_add.cls ≠ "java/lang/invoke/MethodHandle" ∧ yX6_add.cls ≠ "java/lang/invoke/VarHandle" ∧ (parseMethodDescriptor yX6_add.desc).map (fun d => d.parameters.length) = some 3 := by decide +kernel
theorem hv_X6_add : yX6_add.cls = RX6 ∧ yX6_add.cls ≠ "java/lang/invoke/MethodHandle" ∧ yX6_add.cls ≠ "java/lang/invoke/VarHandle" ∧ (parseMethodDescriptor yX6_add.desc).map (fun d => d.parameters.length) = some 3 := ⟨rfl, hd_X6_add⟩
theorem hd_X6_takeAway : yX6_takeAway.cls ≠ "java/lang/invoke/MethodHandle" ∧ yX6_takeAway.cls ≠ "java/lang/invoke/VarHandle" ∧ (parseMethodDescriptor yX6_takeAway.desc).map (fun d => d.parameters.length) = some 1 := by decide +kernel
theorem hv_X6_takeAway : yX6_takeAway.cls = RX6 ∧ yX6_takeAway.cls ≠ "java/lang/invoke/MethodHandle" ∧ yX6_takeAway.cls ≠ "java/lang/invoke/VarHandle" ∧ (parseMethodDescriptor yX6_takeAway.desc).map (fun d => d.parameters.length) = some 1 := ⟨rfl, hd_X6_takeAway⟩
theorem hd_X6_becomeLike : yX6_becomeLike.cls ≠ "java/lang/invoke/MethodHandle" ∧ yX6_becomeLike.cls ≠ "java/lang/invoke/VarHandle" ∧ (parseMethodDescriptor yX6_becomeLike.desc).map (fun d => d.parameters.length) = some 1 := by decide +kernel
theorem hv_X6_becomeLike : yX6_becomeLike.cls = RX6 ∧ yX6_becomeLike.cls ≠ "java/lang/invoke/MethodHandle" ∧ yX6_becomeLike.cls ≠ "java/lang/invoke/VarHandle" ∧ (parseMethodDescriptor yX6_becomeLike.desc).map (fun d => d.parameters.length) = some 1 := ⟨rfl, hd_X6_becomeLike⟩
theorem hd_X7_init : yX7_init.cls ≠ "java/lang/invoke/MethodHandle" ∧ yX7_init.cls ≠ "java/lang/invoke/VarHandle" ∧ (parseMethodDescriptor yX7_init.desc).map (fun d => d.parameters.length) = some 0 := by decide +kernel
theorem hv_X7_init : yX7_init.cls = RX7 ∧ yX7_init.cls ≠ "java/lang/invoke/MethodHandle" ∧ yX7_init.cls ≠ "java/lang/invoke/VarHandle" ∧ (parseMethodDescriptor yX7_init.desc).map (fun d => d.parameters.length) = some 0 := ⟨rfl, hd_X7_init⟩
theorem hd_X7_add : yX7_add.cls ≠ "java/lang/invoke/MethodHandle" ∧ yX7_add.cls ≠ "java/lang/invoke/VarHandle" ∧ (parseMethodDescriptor yX7_add.desc).map (fun d => d.parameters.length) = some 1 := by decide +kernel
theorem hv_X7_add : yX7_add.cls = RX7 ∧ yX7_add.cls ≠ "java/lang/invoke/MethodHandle" ∧ yX7_add.cls ≠ "java/lang/invoke/VarHandle" ∧ (parseMethodDescriptor yX7_add.desc).map (fun d => d.parameters.length) = some 1 := ⟨rfl, hd_X7_add⟩
theorem hd_X7_clear : yX7_clear.cls ≠ "java/lang/invoke/MethodHandle" ∧ yX7_clear.cls ≠ "java/lang/invoke/VarHandle" ∧ (parseMethodDescriptor yX7_clear.desc).map (fun d => d.parameters.length) = some 0 := by decide +kernel
theorem hv_X7_clear : yX7_clear.cls = RX7 ∧ yX7_clear.cls ≠ "java/lang/invoke/MethodHandle" ∧ yX7_clear.cls ≠ "java/lang/invoke/VarHandle" ∧ (parseMethodDescriptor yX7_clear.desc).map (fun d => d.parameters.length) = some 0 := ⟨rfl, hd_X7_clear⟩
theorem hd_X7_byteAt : yX7_byteAt.cls ≠ "java/lang/invoke/MethodHandle" ∧ yX7_byteAt.cls ≠ "java/lang/invoke/VarHandle" ∧ (parseMethodDescriptor yX7_byteAt.desc).map (fun d => d.parameters.length) = some 1 := by decide +kernel
theorem hv_X7_byteAt : yX7_byteAt.cls = RX7 ∧ yX7_byteAt.cls ≠ "java/lang/invoke/MethodHandle" ∧ yX7_byteAt.cls ≠ "java/lang/invoke/VarHandle" ∧ (parseMethodDescriptor yX7_byteAt.desc).map (fun d => d.parameters.length) = some 1 := ⟨rfl, hd_X7_byteAt⟩
theorem hd_X7_bears : yX7_bears.cls ≠ "java/lang/invoke/MethodHandle" ∧ yX7_bears.cls ≠ "java/lang/invoke/VarHandle" ∧ (parseMethodDescriptor yX7_bears.desc).map (fun d => d.parameters.length) = some 3 := by decide +kernel
theorem hv_X7_bears : yX7_bears.cls = RX7 ∧ yX7_bears.cls ≠ "java/lang/invoke/MethodHandle" ∧ yX7_bears.cls ≠ "java/lang/invoke/VarHandle" ∧ (parseMethodDescriptor yX7_bears.desc).map (fun d => d.parameters.length) = some 3 := ⟨rfl, hd_X7_bears⟩
theorem hd_X7_isAtEnd : yX7_isAtEnd.cls ≠ "java/lang/invoke/MethodHandle" ∧ yX7_isAtEnd.cls ≠ "java/lang/invoke/VarHandle" ∧ (parseMethodDescriptor yX7_isAtEnd.desc).map (fun d => d.parameters.length) = some 0 := by decide +kernel
theorem hv_X7_isAtEnd : yX7_isAtEnd.cls = RX7 ∧ yX7_isAtEnd.cls ≠ "java/lang/invoke/MethodHandle" ∧ yX7_isAtEnd.cls ≠ "java/lang/invoke/VarHandle" ∧ (parseMethodDescriptor yX7_isAtEnd.desc).map (fun d => d.parameters.length) = some 0 := ⟨rfl, hd_X7_isAtEnd⟩
theorem hd_X7_takes : yX7_takes.cls ≠ "java/lang/invoke/MethodHandle" ∧ yX7_takes.cls ≠ "java/lang/invoke/VarHandle" ∧ (parseMethodDescriptor yX7_takes.desc).map (fun d => d.parameters.length) = some 1 := by decide +kernel
theorem hv_X7_takes : yX7_takes.cls = RX7 ∧ yX7_takes.cls ≠ "java/lang/invoke/MethodHandle" ∧ yX7_takes.cls ≠ "java/lang/invoke/VarHandle" ∧ (parseMethodDescriptor yX7_takes.desc).map (fun d => d.parameters.length) = some 1 := ⟨rfl, hd_X7_takes⟩
theorem hd_X7_takeLetters : yX7_takeLetters.cls ≠ "java/lang/invoke/MethodHandle" ∧ yX7_takeLetters.cls ≠ "java/lang/invoke/VarHandle" ∧ (parseMethodDescriptor yX7_takeLetters.desc).map (fun d => d.parameters.length) = some 0 := by decide +kernel
theorem hv_X7_takeLetters : yX7_takeLetters.cls = RX7 ∧ yX7_takeLetters.cls ≠ "java/lang/invoke/MethodHandle" ∧ yX7_takeLetters.cls ≠ "java/lang/invoke/VarHandle" ∧ (parseMethodDescriptor yX7_takeLetters.desc).map (fun d => d.parameters.length) = some 0 := ⟨rfl, hd_X7_takeLetters⟩
theorem hd_X7_takeDigits : yX7_takeDigits.cls ≠ "java/lang/invoke/MethodHandle" ∧ yX7_takeDigits.cls ≠ "java/lang/invoke/VarHandle" ∧ (parseMethodDescriptor yX7_takeDigits.desc).map (fun d => d.parameters.length) = some 1 := by decide +kernel
theorem hv_X7_takeDigits : yX7_takeDigits.cls = RX7 ∧ yX7_takeDigits.cls ≠ "java/lang/invoke/MethodHandle" ∧ yX7_takeDigits.cls ≠ "java/lang/invoke/VarHandle" ∧ (parseMethodDescriptor yX7_takeDigits.desc).map (fun d => d.parameters.length) = some 1 := ⟨rfl, hd_X7_takeDigits⟩
theorem hd_X7_digitOn : yX7_digitOn.cls ≠ "java/lang/invoke/MethodHandle" ∧ yX7_digitOn.cls ≠ "java/lang/invoke/VarHandle" ∧ (parseMethodDescriptor yX7_digitOn.desc).map (fun d => d.parameters.length) = some 1 := by decide +kernel
theorem hv_X7_digitOn : yX7_digitOn.cls = RX7 ∧ yX7_digitOn.cls ≠ "java/lang/invoke/MethodHandle" ∧ yX7_digitOn.cls ≠ "java/lang/invoke/VarHandle" ∧ (parseMethodDescriptor yX7_digitOn.desc).map (fun d => d.parameters.length) = some 1 := ⟨rfl, hd_X7_digitOn⟩
theorem hd_X8_init : yX8_init.cls ≠ "java/lang/invoke/MethodHandle" ∧ yX8_init.cls ≠ "java/lang/invoke/VarHandle" ∧ (parseMethodDescriptor yX8_init.desc).map (fun d => d.parameters.length) = some 0 := by decide +kernel
theorem hv_X8_init : yX8_init.cls = RX8 ∧ yX8_init.cls ≠ "java/lang/invoke/MethodHandle" ∧ yX8_init.cls ≠ "java/lang/invoke/VarHandle" ∧ (parseMethodDescriptor yX8_init.desc).map (fun d => d.parameters.length) = some 0 := ⟨rfl, hd_X8_init⟩
theorem hd_X8_fraction : yX8_fraction.cls ≠ "java/lang/invoke/MethodHandle" ∧ yX8_fraction.cls ≠ "java/lang/invoke/VarHandle" ∧ (parseMethodDescriptor yX8_fraction.desc).map (fun d => d.parameters.length) = some 3 := by decide +kernel
theorem hv_X8_fraction : yX8_fraction.cls = RX8 ∧ yX8_fraction.cls ≠ "java/lang/invoke/MethodHandle" ∧ yX8_fraction.cls ≠ "java/lang/invoke/VarHandle" ∧ (parseMethodDescriptor yX8_fraction.desc).map (fun d => d.parameters.length) = some 3 := ⟨rfl, hd_X8_fraction⟩
theorem hd_X8_drop : yX8_drop.cls ≠ "java/lang/invoke/MethodHandle" ∧ yX8_drop.cls ≠ "java/lang/invoke/VarHandle" ∧ (parseMethodDescriptor yX8_drop.desc).map (fun d => d.parameters.length) = some 1 := by decide +kernel
theorem hv_X8_drop : yX8_drop.cls = RX8 ∧ yX8_drop.cls ≠ "java/lang/invoke/MethodHandle" ∧ yX8_drop.cls ≠ "java/lang/invoke/VarHandle" ∧ (parseMethodDescriptor yX8_drop.desc).map (fun d => d.parameters.length) = some 1 := ⟨rfl, hd_X8_drop⟩
theorem hd_X8_multiply : yX8_multiply.cls ≠ "java/lang/invoke/MethodHandle" ∧ yX8_multiply.cls ≠ "java/lang/invoke/VarHandle" ∧ (parseMethodDescriptor yX8_multiply.desc).map (fun d => d.parameters.length) = some 2 := by decide +kernel
theorem hv_X8_multiply : yX8_multiply.cls = RX8 ∧ yX8_multiply.cls ≠ "java/lang/invoke/MethodHandle" ∧ yX8_multiply.cls ≠ "java/lang/invoke/VarHandle" ∧ (parseMethodDescriptor yX8_multiply.desc).map (fun d => d.parameters.length) = some 2 := ⟨rfl, hd_X8_multiply⟩
theorem hd_X8_sum : yX8_sum.cls ≠ "java/lang/invoke/MethodHandle" ∧ yX8_sum.cls ≠ "java/lang/invoke/VarHandle" ∧ (parseMethodDescriptor yX8_sum.desc).map (fun d => d.parameters.length) = some 2 := by decide +kernel
theorem hv_X8_sum : yX8_sum.cls = RX8 ∧ yX8_sum.cls ≠ "java/lang/invoke/MethodHandle" ∧ yX8_sum.cls ≠ "java/lang/invoke/VarHandle" ∧ (parseMethodDescriptor yX8_sum.desc).map (fun d => d.parameters.length) = some 2 := ⟨rfl, hd_X8_sum⟩
theorem hd_X8_lowest : yX8_lowest.cls ≠ "java/lang/invoke/MethodHandle" ∧ yX8_lowest.cls ≠ "java/lang/invoke/VarHandle" ∧ (parseMethodDescriptor yX8_lowest.desc).map (fun d => d.parameters.length) = some 1 := by decide +kernel
theorem hv_X8_lowest : yX8_lowest.cls = RX8 ∧ yX8_lowest.cls ≠ "java/lang/invoke/MethodHandle" ∧ yX8_lowest.cls ≠ "java/lang/invoke/VarHandle" ∧ (parseMethodDescriptor yX8_lowest.desc).map (fun d => d.parameters.length) = some 1 := ⟨rfl, hd_X8_lowest⟩
theorem hd_X8_of : yX8_of.cls ≠ "java/lang/invoke/MethodHandle" ∧ yX8_of.cls ≠ "java/lang/invoke/VarHandle" ∧ (parseMethodDescriptor yX8_of.desc).map (fun d => d.parameters.length) = some 2 := by decide +kernel
theorem hv_X8_of : yX8_of.cls = RX8 ∧ yX8_of.cls ≠ "java/lang/invoke/MethodHandle" ∧ yX8_of.cls ≠ "java/lang/invoke/VarHandle" ∧ (parseMethodDescriptor yX8_of.desc).map (fun d => d.parameters.length) = some 2 := ⟨rfl, hd_X8_of⟩
theorem hd_X8_digit : yX8_digit.cls ≠ "java/lang/invoke/MethodHandle" ∧ yX8_digit.cls ≠ "java/lang/invoke/VarHandle" ∧ (parseMethodDescriptor yX8_digit.desc).map (fun d => d.parameters.length) = some 2 := by decide +kernel
theorem hv_X8_digit : yX8_digit.cls = RX8 ∧ yX8_digit.cls ≠ "java/lang/invoke/MethodHandle" ∧ yX8_digit.cls ≠ "java/lang/invoke/VarHandle" ∧ (parseMethodDescriptor yX8_digit.desc).map (fun d => d.parameters.length) = some 2 := ⟨rfl, hd_X8_digit⟩
theorem hd_X8_rest : yX8_rest.cls ≠ "java/lang/invoke/MethodHandle" ∧ yX8_rest.cls ≠ "java/lang/invoke/VarHandle" ∧ (parseMethodDescriptor yX8_rest.desc).map (fun d => d.parameters.length) = some 2 := by decide +kernel
theorem hv_X8_rest : yX8_rest.cls = RX8 ∧ yX8_rest.cls ≠ "java/lang/invoke/MethodHandle" ∧ yX8_rest.cls ≠ "java/lang/invoke/VarHandle" ∧ (parseMethodDescriptor yX8_rest.desc).map (fun d => d.parameters.length) = some 2 := ⟨rfl, hd_X8_rest⟩
theorem hd_X8_place : yX8_place.cls ≠ "java/lang/invoke/MethodHandle" ∧ yX8_place.cls ≠ "java/lang/invoke/VarHandle" ∧ (parseMethodDescriptor yX8_place.desc).map (fun d => d.parameters.length) = some 2 := by decide +kernel
theorem hv_X8_place : yX8_place.cls = RX8 ∧ yX8_place.cls ≠ "java/lang/invoke/MethodHandle" ∧ yX8_place.cls ≠ "java/lang/invoke/VarHandle" ∧ (parseMethodDescriptor yX8_place.desc).map (fun d => d.parameters.length) = some 2 := ⟨rfl, hd_X8_place⟩
theorem hd_X8_block : yX8_block.cls ≠ "java/lang/invoke/MethodHandle" ∧ yX8_block.cls ≠ "java/lang/invoke/VarHandle" ∧ (parseMethodDescriptor yX8_block.desc).map (fun d => d.parameters.length) = some 3 := by decide +kernel
theorem hv_X8_block : yX8_block.cls = RX8 ∧ yX8_block.cls ≠ "java/lang/invoke/MethodHandle" ∧ yX8_block.cls ≠ "java/lang/invoke/VarHandle" ∧ (parseMethodDescriptor yX8_block.desc).map (fun d => d.parameters.length) = some 3 := ⟨rfl, hd_X8_block⟩
theorem hd_X8_nines : yX8_nines.cls ≠ "java/lang/invoke/MethodHandle" ∧ yX8_nines.cls ≠ "java/lang/invoke/VarHandle" ∧ (parseMethodDescriptor yX8_nines.desc).map (fun d => d.parameters.length) = some 2 := by decide +kernel
theorem hv_X8_nines : yX8_nines.cls = RX8 ∧ yX8_nines.cls ≠ "java/lang/invoke/MethodHandle" ∧ yX8_nines.cls ≠ "java/lang/invoke/VarHandle" ∧ (parseMethodDescriptor yX8_nines.desc).map (fun d => d.parameters.length) = some 2 := ⟨rfl, hd_X8_nines⟩
theorem hd_X8_shift : yX8_shift.cls ≠ "java/lang/invoke/MethodHandle" ∧ yX8_shift.cls ≠ "java/lang/invoke/VarHandle" ∧ (parseMethodDescriptor yX8_shift.desc).map (fun d => d.parameters.length) = some 2 := by decide +kernel
theorem hv_X8_shift : yX8_shift.cls = RX8 ∧ yX8_shift.cls ≠ "java/lang/invoke/MethodHandle" ∧ yX8_shift.cls ≠ "java/lang/invoke/VarHandle" ∧ (parseMethodDescriptor yX8_shift.desc).map (fun d => d.parameters.length) = some 2 := ⟨rfl, hd_X8_shift⟩
theorem hd_X8_multiple : yX8_multiple.cls ≠ "java/lang/invoke/MethodHandle" ∧ yX8_multiple.cls ≠ "java/lang/invoke/VarHandle" ∧ (parseMethodDescriptor yX8_multiple.desc).map (fun d => d.parameters.length) = some 2 := by decide +kernel
theorem hv_X8_multiple : yX8_multiple.cls = RX8 ∧ yX8_multiple.cls ≠ "java/lang/invoke/MethodHandle" ∧ yX8_multiple.cls ≠ "java/lang/invoke/VarHandle" ∧ (parseMethodDescriptor yX8_multiple.desc).map (fun d => d.parameters.length) = some 2 := ⟨rfl, hd_X8_multiple⟩
theorem hd_X8_order : yX8_order.cls ≠ "java/lang/invoke/MethodHandle" ∧ yX8_order.cls ≠ "java/lang/invoke/VarHandle" ∧ (parseMethodDescriptor yX8_order.desc).map (fun d => d.parameters.length) = some 2 := by decide +kernel
theorem hv_X8_order : yX8_order.cls = RX8 ∧ yX8_order.cls ≠ "java/lang/invoke/MethodHandle" ∧ yX8_order.cls ≠ "java/lang/invoke/VarHandle" ∧ (parseMethodDescriptor yX8_order.desc).map (fun d => d.parameters.length) = some 2 := ⟨rfl, hd_X8_order⟩
theorem hd_X8_cycles : yX8_cycles.cls ≠ "java/lang/invoke/MethodHandle" ∧ yX8_cycles.cls ≠ "java/lang/invoke/VarHandle" ∧ (parseMethodDescriptor yX8_cycles.desc).map (fun d => d.parameters.length) = some 3 := by decide +kernel
theorem hv_X8_cycles : yX8_cycles.cls = RX8 ∧ yX8_cycles.cls ≠ "java/lang/invoke/MethodHandle" ∧ yX8_cycles.cls ≠ "java/lang/invoke/VarHandle" ∧ (parseMethodDescriptor yX8_cycles.desc).map (fun d => d.parameters.length) = some 3 := ⟨rfl, hd_X8_cycles⟩
theorem hd_X8_full : yX8_full.cls ≠ "java/lang/invoke/MethodHandle" ∧ yX8_full.cls ≠ "java/lang/invoke/VarHandle" ∧ (parseMethodDescriptor yX8_full.desc).map (fun d => d.parameters.length) = some 4 := by decide +kernel
theorem hv_X8_full : yX8_full.cls = RX8 ∧ yX8_full.cls ≠ "java/lang/invoke/MethodHandle" ∧ yX8_full.cls ≠ "java/lang/invoke/VarHandle" ∧ (parseMethodDescriptor yX8_full.desc).map (fun d => d.parameters.length) = some 4 := ⟨rfl, hd_X8_full⟩
theorem hd_X8_list : yX8_list.cls ≠ "java/lang/invoke/MethodHandle" ∧ yX8_list.cls ≠ "java/lang/invoke/VarHandle" ∧ (parseMethodDescriptor yX8_list.desc).map (fun d => d.parameters.length) = some 2 := by decide +kernel
theorem hv_X8_list : yX8_list.cls = RX8 ∧ yX8_list.cls ≠ "java/lang/invoke/MethodHandle" ∧ yX8_list.cls ≠ "java/lang/invoke/VarHandle" ∧ (parseMethodDescriptor yX8_list.desc).map (fun d => d.parameters.length) = some 2 := ⟨rfl, hd_X8_list⟩
theorem hd_X8_thin : yX8_thin.cls ≠ "java/lang/invoke/MethodHandle" ∧ yX8_thin.cls ≠ "java/lang/invoke/VarHandle" ∧ (parseMethodDescriptor yX8_thin.desc).map (fun d => d.parameters.length) = some 0 := by decide +kernel
theorem hv_X8_thin : yX8_thin.cls = RX8 ∧ yX8_thin.cls ≠ "java/lang/invoke/MethodHandle" ∧ yX8_thin.cls ≠ "java/lang/invoke/VarHandle" ∧ (parseMethodDescriptor yX8_thin.desc).map (fun d => d.parameters.length) = some 0 := ⟨rfl, hd_X8_thin⟩
theorem hd_X8_listed : yX8_listed.cls ≠ "java/lang/invoke/MethodHandle" ∧ yX8_listed.cls ≠ "java/lang/invoke/VarHandle" ∧ (parseMethodDescriptor yX8_listed.desc).map (fun d => d.parameters.length) = some 1 := by decide +kernel
theorem hv_X8_listed : yX8_listed.cls = RX8 ∧ yX8_listed.cls ≠ "java/lang/invoke/MethodHandle" ∧ yX8_listed.cls ≠ "java/lang/invoke/VarHandle" ∧ (parseMethodDescriptor yX8_listed.desc).map (fun d => d.parameters.length) = some 1 := ⟨rfl, hd_X8_listed⟩
theorem hd_X8_tells : yX8_tells.cls ≠ "java/lang/invoke/MethodHandle" ∧ yX8_tells.cls ≠ "java/lang/invoke/VarHandle" ∧ (parseMethodDescriptor yX8_tells.desc).map (fun d => d.parameters.length) = some 3 := by decide +kernel
theorem hv_X8_tells : yX8_tells.cls = RX8 ∧ yX8_tells.cls ≠ "java/lang/invoke/MethodHandle" ∧ yX8_tells.cls ≠ "java/lang/invoke/VarHandle" ∧ (parseMethodDescriptor yX8_tells.desc).map (fun d => d.parameters.length) = some 3 := ⟨rfl, hd_X8_tells⟩
theorem hd_X8_feed : yX8_feed.cls ≠ "java/lang/invoke/MethodHandle" ∧ yX8_feed.cls ≠ "java/lang/invoke/VarHandle" ∧ (parseMethodDescriptor yX8_feed.desc).map (fun d => d.parameters.length) = some 2 := by decide +kernel
theorem hv_X8_feed : yX8_feed.cls = RX8 ∧ yX8_feed.cls ≠ "java/lang/invoke/MethodHandle" ∧ yX8_feed.cls ≠ "java/lang/invoke/VarHandle" ∧ (parseMethodDescriptor yX8_feed.desc).map (fun d => d.parameters.length) = some 2 := ⟨rfl, hd_X8_feed⟩
theorem hd_X8_wipe : yX8_wipe.cls ≠ "java/lang/invoke/MethodHandle" ∧ yX8_wipe.cls ≠ "java/lang/invoke/VarHandle" ∧ (parseMethodDescriptor yX8_wipe.desc).map (fun d => d.parameters.length) = some 0 := by decide +kernel
theorem hv_X8_wipe : yX8_wipe.cls = RX8 ∧ yX8_wipe.cls ≠ "java/lang/invoke/MethodHandle" ∧ yX8_wipe.cls ≠ "java/lang/invoke/VarHandle" ∧ (parseMethodDescriptor yX8_wipe.desc).map (fun d => d.parameters.length) = some 0 := ⟨rfl, hd_X8_wipe⟩
theorem hd_X8_spell : yX8_spell.cls ≠ "java/lang/invoke/MethodHandle" ∧ yX8_spell.cls ≠ "java/lang/invoke/VarHandle" ∧ (parseMethodDescriptor yX8_spell.desc).map (fun d => d.parameters.length) = some 2 := by decide +kernel
theorem hv_X8_spell : yX8_spell.cls = RX8 ∧ yX8_spell.cls ≠ "java/lang/invoke/MethodHandle" ∧ yX8_spell.cls ≠ "java/lang/invoke/VarHandle" ∧ (parseMethodDescriptor yX8_spell.desc).map (fun d => d.parameters.length) = some 2 := ⟨rfl, hd_X8_spell⟩
theorem hd_X8_read : yX8_read.cls ≠ "java/lang/invoke/MethodHandle" ∧ yX8_read.cls ≠ "java/lang/invoke/VarHandle" ∧ (parseMethodDescriptor yX8_read.desc).map (fun d => d.parameters.length) = some 1 := by decide +kernel
theorem hv_X8_read : yX8_read.cls = RX8 ∧ yX8_read.cls ≠ "java/lang/invoke/MethodHandle" ∧ yX8_read.cls ≠ "java/lang/invoke/VarHandle" ∧ (parseMethodDescriptor yX8_read.desc).map (fun d => d.parameters.length) = some 1 := ⟨rfl, hd_X8_read⟩
theorem hd_X8_run : yX8_run.cls ≠ "java/lang/invoke/MethodHandle" ∧ yX8_run.cls ≠ "java/lang/invoke/VarHandle" ∧ (parseMethodDescriptor yX8_run.desc).map (fun d => d.parameters.length) = some 0 := by decide +kernel
theorem hv_X8_run : yX8_run.cls = RX8 ∧ yX8_run.cls ≠ "java/lang/invoke/MethodHandle" ∧ yX8_run.cls ≠ "java/lang/invoke/VarHandle" ∧ (parseMethodDescriptor yX8_run.desc).map (fun d => d.parameters.length) = some 0 := ⟨rfl, hd_X8_run⟩
theorem hd_X8_hold : yX8_hold.cls ≠ "java/lang/invoke/MethodHandle" ∧ yX8_hold.cls ≠ "java/lang/invoke/VarHandle" ∧ (parseMethodDescriptor yX8_hold.desc).map (fun d => d.parameters.length) = some 2 := by decide +kernel
theorem hv_X8_hold : yX8_hold.cls = RX8 ∧ yX8_hold.cls ≠ "java/lang/invoke/MethodHandle" ∧ yX8_hold.cls ≠ "java/lang/invoke/VarHandle" ∧ (parseMethodDescriptor yX8_hold.desc).map (fun d => d.parameters.length) = some 2 := ⟨rfl, hd_X8_hold⟩
theorem hd_X8_lose : yX8_lose.cls ≠ "java/lang/invoke/MethodHandle" ∧ yX8_lose.cls ≠ "java/lang/invoke/VarHandle" ∧ (parseMethodDescriptor yX8_lose.desc).map (fun d => d.parameters.length) = some 1 := by decide +kernel
theorem hv_X8_lose : yX8_lose.cls = RX8 ∧ yX8_lose.cls ≠ "java/lang/invoke/MethodHandle" ∧ yX8_lose.cls ≠ "java/lang/invoke/VarHandle" ∧ (parseMethodDescriptor yX8_lose.desc).map (fun d => d.parameters.length) = some 1 := ⟨rfl, hd_X8_lose⟩
theorem hd_X8_taken : yX8_taken.cls ≠ "java/lang/invoke/MethodHandle" ∧ yX8_taken.cls ≠ "java/lang/invoke/VarHandle" ∧ (parseMethodDescriptor yX8_taken.desc).map (fun d => d.parameters.length) = some 2 := by decide +kernel
theorem hv_X8_taken : yX8_taken.cls = RX8 ∧ yX8_taken.cls ≠ "java/lang/invoke/MethodHandle" ∧ yX8_taken.cls ≠ "java/lang/invoke/VarHandle" ∧ (parseMethodDescriptor yX8_taken.desc).map (fun d => d.parameters.length) = some 2 := ⟨rfl, hd_X8_taken⟩
theorem hd_X8_was : yX8_was.cls ≠ "java/lang/invoke/MethodHandle" ∧ yX8_was.cls ≠ "java/lang/invoke/VarHandle" ∧ (parseMethodDescriptor yX8_was.desc).map (fun d => d.parameters.length) = some 2 := by decide +kernel
theorem hv_X8_was : yX8_was.cls = RX8 ∧ yX8_was.cls ≠ "java/lang/invoke/MethodHandle" ∧ yX8_was.cls ≠ "java/lang/invoke/VarHandle" ∧ (parseMethodDescriptor yX8_was.desc).map (fun d => d.parameters.length) = some 2 := ⟨rfl, hd_X8_was⟩
theorem hd_X8_row : yX8_row.cls ≠ "java/lang/invoke/MethodHandle" ∧ yX8_row.cls ≠ "java/lang/invoke/VarHandle" ∧ (parseMethodDescriptor yX8_row.desc).map (fun d => d.parameters.length) = some 2 := by decide +kernel
theorem hv_X8_row : yX8_row.cls = RX8 ∧ yX8_row.cls ≠ "java/lang/invoke/MethodHandle" ∧ yX8_row.cls ≠ "java/lang/invoke/VarHandle" ∧ (parseMethodDescriptor yX8_row.desc).map (fun d => d.parameters.length) = some 2 := ⟨rfl, hd_X8_row⟩
theorem hd_X8_put : yX8_put.cls ≠ "java/lang/invoke/MethodHandle" ∧ yX8_put.cls ≠ "java/lang/invoke/VarHandle" ∧ (parseMethodDescriptor yX8_put.desc).map (fun d => d.parameters.length) = some 3 := by decide +kernel
theorem hv_X8_put : yX8_put.cls = RX8 ∧ yX8_put.cls ≠ "java/lang/invoke/MethodHandle" ∧ yX8_put.cls ≠ "java/lang/invoke/VarHandle" ∧ (parseMethodDescriptor yX8_put.desc).map (fun d => d.parameters.length) = some 3 := ⟨rfl, hd_X8_put⟩
theorem hd_X8_get : yX8_get.cls ≠ "java/lang/invoke/MethodHandle" ∧ yX8_get.cls ≠ "java/lang/invoke/VarHandle" ∧ (parseMethodDescriptor yX8_get.desc).map (fun d => d.parameters.length) = some 2 := by decide +kernel
theorem hv_X8_get : yX8_get.cls = RX8 ∧ yX8_get.cls ≠ "java/lang/invoke/MethodHandle" ∧ yX8_get.cls ≠ "java/lang/invoke/VarHandle" ∧ (parseMethodDescriptor yX8_get.desc).map (fun d => d.parameters.length) = some 2 := ⟨rfl, hd_X8_get⟩
theorem hd_X8_judge : yX8_judge.cls ≠ "java/lang/invoke/MethodHandle" ∧ yX8_judge.cls ≠ "java/lang/invoke/VarHandle" ∧ (parseMethodDescriptor yX8_judge.desc).map (fun d => d.parameters.length) = some 2 := by decide +kernel
theorem hv_X8_judge : yX8_judge.cls = RX8 ∧ yX8_judge.cls ≠ "java/lang/invoke/MethodHandle" ∧ yX8_judge.cls ≠ "java/lang/invoke/VarHandle" ∧ (parseMethodDescriptor yX8_judge.desc).map (fun d => d.parameters.length) = some 2 := ⟨rfl, hd_X8_judge⟩
theorem hd_X8_image : yX8_image.cls ≠ "java/lang/invoke/MethodHandle" ∧ yX8_image.cls ≠ "java/lang/invoke/VarHandle" ∧ (parseMethodDescriptor yX8_image.desc).map (fun d => d.parameters.length) = some 0 := by decide +kernel
theorem hv_X8_image : yX8_image.cls = RX8 ∧ yX8_image.cls ≠ "java/lang/invoke/MethodHandle" ∧ yX8_image.cls ≠ "java/lang/invoke/VarHandle" ∧ (parseMethodDescriptor yX8_image.desc).map (fun d => d.parameters.length) = some 0 := ⟨rfl, hd_X8_image⟩
theorem hd_X8_undo : yX8_undo.cls ≠ "java/lang/invoke/MethodHandle" ∧ yX8_undo.cls ≠ "java/lang/invoke/VarHandle" ∧ (parseMethodDescriptor yX8_undo.desc).map (fun d => d.parameters.length) = some 0 := by decide +kernel
theorem hv_X8_undo : yX8_undo.cls = RX8 ∧ yX8_undo.cls ≠ "java/lang/invoke/MethodHandle" ∧ yX8_undo.cls ≠ "java/lang/invoke/VarHandle" ∧ (parseMethodDescriptor yX8_undo.desc).map (fun d => d.parameters.length) = some 0 := ⟨rfl, hd_X8_undo⟩
theorem hd_X8_count : yX8_count.cls ≠ "java/lang/invoke/MethodHandle" ∧ yX8_count.cls ≠ "java/lang/invoke/VarHandle" ∧ (parseMethodDescriptor yX8_count.desc).map (fun d => d.parameters.length) = some 1 := by decide +kernel
theorem hv_X8_count : yX8_count.cls = RX8 ∧ yX8_count.cls ≠ "java/lang/invoke/MethodHandle" ∧ yX8_count.cls ≠ "java/lang/invoke/VarHandle" ∧ (parseMethodDescriptor yX8_count.desc).map (fun d => d.parameters.length) = some 1 := ⟨rfl, hd_X8_count⟩
theorem hd_X8_addInLowestTerms : yX8_addInLowestTerms.cls ≠ "java/lang/invoke/MethodHandle" ∧ yX8_addInLowestTerms.cls ≠ "java/lang/invoke/VarHandle" ∧ (parseMethodDescriptor yX8_addInLowestTerms.desc).map (fun d => d.parameters.length) = some 3 := by decide +kernel
theorem hv_X8_addInLowestTerms : yX8_addInLowestTerms.cls = RX8 ∧ yX8_addInLowestTerms.cls ≠ "java/lang/invoke/MethodHandle" ∧ yX8_addInLowestTerms.cls ≠ "java/lang/invoke/VarHandle" ∧ (parseMethodDescriptor yX8_addInLowestTerms.desc).map (fun d => d.parameters.length) = some 3 := ⟨rfl, hd_X8_addInLowestTerms⟩
theorem hd_X8_markRing : yX8_markRing.cls ≠ "java/lang/invoke/MethodHandle" ∧ yX8_markRing.cls ≠ "java/lang/invoke/VarHandle" ∧ (parseMethodDescriptor yX8_markRing.desc).map (fun d => d.parameters.length) = some 3 := by decide +kernel
theorem hv_X8_markRing : yX8_markRing.cls = RX8 ∧ yX8_markRing.cls ≠ "java/lang/invoke/MethodHandle" ∧ yX8_markRing.cls ≠ "java/lang/invoke/VarHandle" ∧ (parseMethodDescriptor yX8_markRing.desc).map (fun d => d.parameters.length) = some 3 := ⟨rfl, hd_X8_markRing⟩
theorem hd_X8_doCommand : yX8_doCommand.cls ≠ "java/lang/invoke/MethodHandle" ∧ yX8_doCommand.cls ≠ "java/lang/invoke/VarHandle" ∧ (parseMethodDescriptor yX8_doCommand.desc).map (fun d => d.parameters.length) = some 1 := by decide +kernel
theorem hv_X8_doCommand : yX8_doCommand.cls = RX8 ∧ yX8_doCommand.cls ≠ "java/lang/invoke/MethodHandle" ∧ yX8_doCommand.cls ≠ "java/lang/invoke/VarHandle" ∧ (parseMethodDescriptor yX8_doCommand.desc).map (fun d => d.parameters.length) = some 1 := ⟨rfl, hd_X8_doCommand⟩
theorem hd_X8_holderAt : yX8_holderAt.cls ≠ "java/lang/invoke/MethodHandle" ∧ yX8_holderAt.cls ≠ "java/lang/invoke/VarHandle" ∧ (parseMethodDescriptor yX8_holderAt.desc).map (fun d => d.parameters.length) = some 1 := by decide +kernel
theorem hv_X8_holderAt : yX8_holderAt.cls = RX8 ∧ yX8_holderAt.cls ≠ "java/lang/invoke/MethodHandle" ∧ yX8_holderAt.cls ≠ "java/lang/invoke/VarHandle" ∧ (parseMethodDescriptor yX8_holderAt.desc).map (fun d => d.parameters.length) = some 1 := ⟨rfl, hd_X8_holderAt⟩
theorem hd_X8_isWithin : yX8_isWithin.cls ≠ "java/lang/invoke/MethodHandle" ∧ yX8_isWithin.cls ≠ "java/lang/invoke/VarHandle" ∧ (parseMethodDescriptor yX8_isWithin.desc).map (fun d => d.parameters.length) = some 3 := by decide +kernel
theorem hd_X8_isBase : yX8_isBase.cls ≠ "java/lang/invoke/MethodHandle" ∧ yX8_isBase.cls ≠ "java/lang/invoke/VarHandle" ∧ (parseMethodDescriptor yX8_isBase.desc).map (fun d => d.parameters.length) = some 1 := by decide +kernel
theorem hd_X8_isPrime : yX8_isPrime.cls ≠ "java/lang/invoke/MethodHandle" ∧ yX8_isPrime.cls ≠ "java/lang/invoke/VarHandle" ∧ (parseMethodDescriptor yX8_isPrime.desc).map (fun d => d.parameters.length) = some 1 := by decide +kernel
theorem hd_X8_commonDivisor : yX8_commonDivisor.cls ≠ "java/lang/invoke/MethodHandle" ∧ yX8_commonDivisor.cls ≠ "java/lang/invoke/VarHandle" ∧ (parseMethodDescriptor yX8_commonDivisor.desc).map (fun d => d.parameters.length) = some 2 := by decide +kernel
theorem hd_X8_power : yX8_power.cls ≠ "java/lang/invoke/MethodHandle" ∧ yX8_power.cls ≠ "java/lang/invoke/VarHandle" ∧ (parseMethodDescriptor yX8_power.desc).map (fun d => d.parameters.length) = some 2 := by decide +kernel
theorem hd_X8_remainder : yX8_remainder.cls ≠ "java/lang/invoke/MethodHandle" ∧ yX8_remainder.cls ≠ "java/lang/invoke/VarHandle" ∧ (parseMethodDescriptor yX8_remainder.desc).map (fun d => d.parameters.length) = some 2 := by decide +kernel
theorem hd_X8_quotient : yX8_quotient.cls ≠ "java/lang/invoke/MethodHandle" ∧ yX8_quotient.cls ≠ "java/lang/invoke/VarHandle" ∧ (parseMethodDescriptor yX8_quotient.desc).map (fun d => d.parameters.length) = some 2 := by decide +kernel
theorem hd_X8_valueAt : yX8_valueAt.cls ≠ "java/lang/invoke/MethodHandle" ∧ yX8_valueAt.cls ≠ "java/lang/invoke/VarHandle" ∧ (parseMethodDescriptor yX8_valueAt.desc).map (fun d => d.parameters.length) = some 2 := by decide +kernel
theorem hd_X8_setAt : yX8_setAt.cls ≠ "java/lang/invoke/MethodHandle" ∧ yX8_setAt.cls ≠ "java/lang/invoke/VarHandle" ∧ (parseMethodDescriptor yX8_setAt.desc).map (fun d => d.parameters.length) = some 3 := by decide +kernel
theorem hd_X9_init : yX9_init.cls ≠ "java/lang/invoke/MethodHandle" ∧ yX9_init.cls ≠ "java/lang/invoke/VarHandle" ∧ (parseMethodDescriptor yX9_init.desc).map (fun d => d.parameters.length) = some 0 := by decide +kernel
theorem hv_X9_init : yX9_init.cls = RX9 ∧ yX9_init.cls ≠ "java/lang/invoke/MethodHandle" ∧ yX9_init.cls ≠ "java/lang/invoke/VarHandle" ∧ (parseMethodDescriptor yX9_init.desc).map (fun d => d.parameters.length) = some 0 := ⟨rfl, hd_X9_init⟩
theorem hd_X9_isIn : yX9_isIn.cls ≠ "java/lang/invoke/MethodHandle" ∧ yX9_isIn.cls ≠ "java/lang/invoke/VarHandle" ∧ (parseMethodDescriptor yX9_isIn.desc).map (fun d => d.parameters.length) = some 3 := by decide +kernel
theorem hd_X9_isFraction : yX9_isFraction.cls ≠ "java/lang/invoke/MethodHandle" ∧ yX9_isFraction.cls ≠ "java/lang/invoke/VarHandle" ∧ (parseMethodDescriptor yX9_isFraction.desc).map (fun d => d.parameters.length) = some 1 := by decide +kernel
theorem hv_X9_isFraction : yX9_isFraction.cls = RX9 ∧ yX9_isFraction.cls ≠ "java/lang/invoke/MethodHandle" ∧ yX9_isFraction.cls ≠ "java/lang/invoke/VarHandle" ∧ (parseMethodDescriptor yX9_isFraction.desc).map (fun d => d.parameters.length) = some 1 := ⟨rfl, hd_X9_isFraction⟩
theorem hd_X9_isBase : yX9_isBase.cls ≠ "java/lang/invoke/MethodHandle" ∧ yX9_isBase.cls ≠ "java/lang/invoke/VarHandle" ∧ (parseMethodDescriptor yX9_isBase.desc).map (fun d => d.parameters.length) = some 1 := by decide +kernel
theorem hd_X9_divisor : yX9_divisor.cls ≠ "java/lang/invoke/MethodHandle" ∧ yX9_divisor.cls ≠ "java/lang/invoke/VarHandle" ∧ (parseMethodDescriptor yX9_divisor.desc).map (fun d => d.parameters.length) = some 2 := by decide +kernel
theorem hd_X9_looks : yX9_looks.cls ≠ "java/lang/invoke/MethodHandle" ∧ yX9_looks.cls ≠ "java/lang/invoke/VarHandle" ∧ (parseMethodDescriptor yX9_looks.desc).map (fun d => d.parameters.length) = some 3 := by decide +kernel
theorem hv_X9_looks : yX9_looks.cls = RX9 ∧ yX9_looks.cls ≠ "java/lang/invoke/MethodHandle" ∧ yX9_looks.cls ≠ "java/lang/invoke/VarHandle" ∧ (parseMethodDescriptor yX9_looks.desc).map (fun d => d.parameters.length) = some 3 := ⟨rfl, hd_X9_looks⟩
theorem hd_X9_looksAt : yX9_looksAt.cls ≠ "java/lang/invoke/MethodHandle" ∧ yX9_looksAt.cls ≠ "java/lang/invoke/VarHandle" ∧ (parseMethodDescriptor yX9_looksAt.desc).map (fun d => d.parameters.length) = some 1 := by decide +kernel
theorem hv_X9_looksAt : yX9_looksAt.cls = RX9 ∧ yX9_looksAt.cls ≠ "java/lang/invoke/MethodHandle" ∧ yX9_looksAt.cls ≠ "java/lang/invoke/VarHandle" ∧ (parseMethodDescriptor yX9_looksAt.desc).map (fun d => d.parameters.length) = some 1 := ⟨rfl, hd_X9_looksAt⟩
theorem hd_X9_kindNow : yX9_kindNow.cls ≠ "java/lang/invoke/MethodHandle" ∧ yX9_kindNow.cls ≠ "java/lang/invoke/VarHandle" ∧ (parseMethodDescriptor yX9_kindNow.desc).map (fun d => d.parameters.length) = some 0 := by decide +kernel
theorem hv_X9_kindNow : yX9_kindNow.cls = RX9 ∧ yX9_kindNow.cls ≠ "java/lang/invoke/MethodHandle" ∧ yX9_kindNow.cls ≠ "java/lang/invoke/VarHandle" ∧ (parseMethodDescriptor yX9_kindNow.desc).map (fun d => d.parameters.length) = some 0 := ⟨rfl, hd_X9_kindNow⟩
theorem hd_X9_placeOf : yX9_placeOf.cls ≠ "java/lang/invoke/MethodHandle" ∧ yX9_placeOf.cls ≠ "java/lang/invoke/VarHandle" ∧ (parseMethodDescriptor yX9_placeOf.desc).map (fun d => d.parameters.length) = some 1 := by decide +kernel
theorem hv_X9_placeOf : yX9_placeOf.cls = RX9 ∧ yX9_placeOf.cls ≠ "java/lang/invoke/MethodHandle" ∧ yX9_placeOf.cls ≠ "java/lang/invoke/VarHandle" ∧ (parseMethodDescriptor yX9_placeOf.desc).map (fun d => d.parameters.length) = some 1 := ⟨rfl, hd_X9_placeOf⟩
theorem hd_X9_comes : yX9_comes.cls ≠ "java/lang/invoke/MethodHandle" ∧ yX9_comes.cls ≠ "java/lang/invoke/VarHandle" ∧ (parseMethodDescriptor yX9_comes.desc).map (fun d => d.parameters.length) = some 3 := by decide +kernel
theorem hv_X9_comes : yX9_comes.cls = RX9 ∧ yX9_comes.cls ≠ "java/lang/invoke/MethodHandle" ∧ yX9_comes.cls ≠ "java/lang/invoke/VarHandle" ∧ (parseMethodDescriptor yX9_comes.desc).map (fun d => d.parameters.length) = some 3 := ⟨rfl, hd_X9_comes⟩
theorem hd_X9_fraction : yX9_fraction.cls ≠ "java/lang/invoke/MethodHandle" ∧ yX9_fraction.cls ≠ "java/lang/invoke/VarHandle" ∧ (parseMethodDescriptor yX9_fraction.desc).map (fun d => d.parameters.length) = some 3 := by decide +kernel
theorem hv_X9_fraction : yX9_fraction.cls = RX9 ∧ yX9_fraction.cls ≠ "java/lang/invoke/MethodHandle" ∧ yX9_fraction.cls ≠ "java/lang/invoke/VarHandle" ∧ (parseMethodDescriptor yX9_fraction.desc).map (fun d => d.parameters.length) = some 3 := ⟨rfl, hd_X9_fraction⟩
theorem hd_X9_drop : yX9_drop.cls ≠ "java/lang/invoke/MethodHandle" ∧ yX9_drop.cls ≠ "java/lang/invoke/VarHandle" ∧ (parseMethodDescriptor yX9_drop.desc).map (fun d => d.parameters.length) = some 1 := by decide +kernel
theorem hv_X9_drop : yX9_drop.cls = RX9 ∧ yX9_drop.cls ≠ "java/lang/invoke/MethodHandle" ∧ yX9_drop.cls ≠ "java/lang/invoke/VarHandle" ∧ (parseMethodDescriptor yX9_drop.desc).map (fun d => d.parameters.length) = some 1 := ⟨rfl, hd_X9_drop⟩
theorem hd_X9_multiply : yX9_multiply.cls ≠ "java/lang/invoke/MethodHandle" ∧ yX9_multiply.cls ≠ "java/lang/invoke/VarHandle" ∧ (parseMethodDescriptor yX9_multiply.desc).map (fun d => d.parameters.length) = some 2 := by decide +kernel
theorem hv_X9_multiply : yX9_multiply.cls = RX9 ∧ yX9_multiply.cls ≠ "java/lang/invoke/MethodHandle" ∧ yX9_multiply.cls ≠ "java/lang/invoke/VarHandle" ∧ (parseMethodDescriptor yX9_multiply.desc).map (fun d => d.parameters.length) = some 2 := ⟨rfl, hd_X9_multiply⟩
theorem hd_X9_comesLowest : yX9_comesLowest.cls ≠ "java/lang/invoke/MethodHandle" ∧ yX9_comesLowest.cls ≠ "java/lang/invoke/VarHandle" ∧ (parseMethodDescriptor yX9_comesLowest.desc).map (fun d => d.parameters.length) = some 3 := by decide +kernel
theorem hv_X9_comesLowest : yX9_comesLowest.cls = RX9 ∧ yX9_comesLowest.cls ≠ "java/lang/invoke/MethodHandle" ∧ yX9_comesLowest.cls ≠ "java/lang/invoke/VarHandle" ∧ (parseMethodDescriptor yX9_comesLowest.desc).map (fun d => d.parameters.length) = some 3 := ⟨rfl, hd_X9_comesLowest⟩
theorem hd_X9_sum : yX9_sum.cls ≠ "java/lang/invoke/MethodHandle" ∧ yX9_sum.cls ≠ "java/lang/invoke/VarHandle" ∧ (parseMethodDescriptor yX9_sum.desc).map (fun d => d.parameters.length) = some 2 := by decide +kernel
theorem hv_X9_sum : yX9_sum.cls = RX9 ∧ yX9_sum.cls ≠ "java/lang/invoke/MethodHandle" ∧ yX9_sum.cls ≠ "java/lang/invoke/VarHandle" ∧ (parseMethodDescriptor yX9_sum.desc).map (fun d => d.parameters.length) = some 2 := ⟨rfl, hd_X9_sum⟩
theorem hd_X9_lowest : yX9_lowest.cls ≠ "java/lang/invoke/MethodHandle" ∧ yX9_lowest.cls ≠ "java/lang/invoke/VarHandle" ∧ (parseMethodDescriptor yX9_lowest.desc).map (fun d => d.parameters.length) = some 1 := by decide +kernel
theorem hv_X9_lowest : yX9_lowest.cls = RX9 ∧ yX9_lowest.cls ≠ "java/lang/invoke/MethodHandle" ∧ yX9_lowest.cls ≠ "java/lang/invoke/VarHandle" ∧ (parseMethodDescriptor yX9_lowest.desc).map (fun d => d.parameters.length) = some 1 := ⟨rfl, hd_X9_lowest⟩
theorem hd_X9_of : yX9_of.cls ≠ "java/lang/invoke/MethodHandle" ∧ yX9_of.cls ≠ "java/lang/invoke/VarHandle" ∧ (parseMethodDescriptor yX9_of.desc).map (fun d => d.parameters.length) = some 2 := by decide +kernel
theorem hv_X9_of : yX9_of.cls = RX9 ∧ yX9_of.cls ≠ "java/lang/invoke/MethodHandle" ∧ yX9_of.cls ≠ "java/lang/invoke/VarHandle" ∧ (parseMethodDescriptor yX9_of.desc).map (fun d => d.parameters.length) = some 2 := ⟨rfl, hd_X9_of⟩
theorem hd_X9_digit : yX9_digit.cls ≠ "java/lang/invoke/MethodHandle" ∧ yX9_digit.cls ≠ "java/lang/invoke/VarHandle" ∧ (parseMethodDescriptor yX9_digit.desc).map (fun d => d.parameters.length) = some 2 := by decide +kernel
theorem hv_X9_digit : yX9_digit.cls = RX9 ∧ yX9_digit.cls ≠ "java/lang/invoke/MethodHandle" ∧ yX9_digit.cls ≠ "java/lang/invoke/VarHandle" ∧ (parseMethodDescriptor yX9_digit.desc).map (fun d => d.parameters.length) = some 2 := ⟨rfl, hd_X9_digit⟩
theorem hd_X9_rest : yX9_rest.cls ≠ "java/lang/invoke/MethodHandle" ∧ yX9_rest.cls ≠ "java/lang/invoke/VarHandle" ∧ (parseMethodDescriptor yX9_rest.desc).map (fun d => d.parameters.length) = some 2 := by decide +kernel
theorem hv_X9_rest : yX9_rest.cls = RX9 ∧ yX9_rest.cls ≠ "java/lang/invoke/MethodHandle" ∧ yX9_rest.cls ≠ "java/lang/invoke/VarHandle" ∧ (parseMethodDescriptor yX9_rest.desc).map (fun d => d.parameters.length) = some 2 := ⟨rfl, hd_X9_rest⟩
theorem hd_X9_place : yX9_place.cls ≠ "java/lang/invoke/MethodHandle" ∧ yX9_place.cls ≠ "java/lang/invoke/VarHandle" ∧ (parseMethodDescriptor yX9_place.desc).map (fun d => d.parameters.length) = some 2 := by decide +kernel
theorem hv_X9_place : yX9_place.cls = RX9 ∧ yX9_place.cls ≠ "java/lang/invoke/MethodHandle" ∧ yX9_place.cls ≠ "java/lang/invoke/VarHandle" ∧ (parseMethodDescriptor yX9_place.desc).map (fun d => d.parameters.length) = some 2 := ⟨rfl, hd_X9_place⟩
theorem hd_X9_isParted : yX9_isParted.cls ≠ "java/lang/invoke/MethodHandle" ∧ yX9_isParted.cls ≠ "java/lang/invoke/VarHandle" ∧ (parseMethodDescriptor yX9_isParted.desc).map (fun d => d.parameters.length) = some 1 := by decide +kernel
theorem hv_X9_isParted : yX9_isParted.cls = RX9 ∧ yX9_isParted.cls ≠ "java/lang/invoke/MethodHandle" ∧ yX9_isParted.cls ≠ "java/lang/invoke/VarHandle" ∧ (parseMethodDescriptor yX9_isParted.desc).map (fun d => d.parameters.length) = some 1 := ⟨rfl, hd_X9_isParted⟩
theorem hd_X9_blocks : yX9_blocks.cls ≠ "java/lang/invoke/MethodHandle" ∧ yX9_blocks.cls ≠ "java/lang/invoke/VarHandle" ∧ (parseMethodDescriptor yX9_blocks.desc).map (fun d => d.parameters.length) = some 2 := by decide +kernel
theorem hv_X9_blocks : yX9_blocks.cls = RX9 ∧ yX9_blocks.cls ≠ "java/lang/invoke/MethodHandle" ∧ yX9_blocks.cls ≠ "java/lang/invoke/VarHandle" ∧ (parseMethodDescriptor yX9_blocks.desc).map (fun d => d.parameters.length) = some 2 := ⟨rfl, hd_X9_blocks⟩
theorem hd_X9_block : yX9_block.cls ≠ "java/lang/invoke/MethodHandle" ∧ yX9_block.cls ≠ "java/lang/invoke/VarHandle" ∧ (parseMethodDescriptor yX9_block.desc).map (fun d => d.parameters.length) = some 3 := by decide +kernel
theorem hv_X9_block : yX9_block.cls = RX9 ∧ yX9_block.cls ≠ "java/lang/invoke/MethodHandle" ∧ yX9_block.cls ≠ "java/lang/invoke/VarHandle" ∧ (parseMethodDescriptor yX9_block.desc).map (fun d => d.parameters.length) = some 3 := ⟨rfl, hd_X9_block⟩
theorem hd_X9_smallNines : yX9_smallNines.cls ≠ "java/lang/invoke/MethodHandle" ∧ yX9_smallNines.cls ≠ "java/lang/invoke/VarHandle" ∧ (parseMethodDescriptor yX9_smallNines.desc).map (fun d => d.parameters.length) = some 3 := by decide +kernel
theorem hv_X9_smallNines : yX9_smallNines.cls = RX9 ∧ yX9_smallNines.cls ≠ "java/lang/invoke/MethodHandle" ∧ yX9_smallNines.cls ≠ "java/lang/invoke/VarHandle" ∧ (parseMethodDescriptor yX9_smallNines.desc).map (fun d => d.parameters.length) = some 3 := ⟨rfl, hd_X9_smallNines⟩
theorem hd_X9_greatNines : yX9_greatNines.cls ≠ "java/lang/invoke/MethodHandle" ∧ yX9_greatNines.cls ≠ "java/lang/invoke/VarHandle" ∧ (parseMethodDescriptor yX9_greatNines.desc).map (fun d => d.parameters.length) = some 2 := by decide +kernel
theorem hv_X9_greatNines : yX9_greatNines.cls = RX9 ∧ yX9_greatNines.cls ≠ "java/lang/invoke/MethodHandle" ∧ yX9_greatNines.cls ≠ "java/lang/invoke/VarHandle" ∧ (parseMethodDescriptor yX9_greatNines.desc).map (fun d => d.parameters.length) = some 2 := ⟨rfl, hd_X9_greatNines⟩
theorem hd_X9_ninesNow : yX9_ninesNow.cls ≠ "java/lang/invoke/MethodHandle" ∧ yX9_ninesNow.cls ≠ "java/lang/invoke/VarHandle" ∧ (parseMethodDescriptor yX9_ninesNow.desc).map (fun d => d.parameters.length) = some 2 := by decide +kernel
theorem hv_X9_ninesNow : yX9_ninesNow.cls = RX9 ∧ yX9_ninesNow.cls ≠ "java/lang/invoke/MethodHandle" ∧ yX9_ninesNow.cls ≠ "java/lang/invoke/VarHandle" ∧ (parseMethodDescriptor yX9_ninesNow.desc).map (fun d => d.parameters.length) = some 2 := ⟨rfl, hd_X9_ninesNow⟩
theorem hd_X9_nines : yX9_nines.cls ≠ "java/lang/invoke/MethodHandle" ∧ yX9_nines.cls ≠ "java/lang/invoke/VarHandle" ∧ (parseMethodDescriptor yX9_nines.desc).map (fun d => d.parameters.length) = some 2 := by decide +kernel
theorem hv_X9_nines : yX9_nines.cls = RX9 ∧ yX9_nines.cls ≠ "java/lang/invoke/MethodHandle" ∧ yX9_nines.cls ≠ "java/lang/invoke/VarHandle" ∧ (parseMethodDescriptor yX9_nines.desc).map (fun d => d.parameters.length) = some 2 := ⟨rfl, hd_X9_nines⟩
theorem hd_X9_keepsRing : yX9_keepsRing.cls ≠ "java/lang/invoke/MethodHandle" ∧ yX9_keepsRing.cls ≠ "java/lang/invoke/VarHandle" ∧ (parseMethodDescriptor yX9_keepsRing.desc).map (fun d => d.parameters.length) = some 1 := by decide +kernel
theorem hv_X9_keepsRing : yX9_keepsRing.cls = RX9 ∧ yX9_keepsRing.cls ≠ "java/lang/invoke/MethodHandle" ∧ yX9_keepsRing.cls ≠ "java/lang/invoke/VarHandle" ∧ (parseMethodDescriptor yX9_keepsRing.desc).map (fun d => d.parameters.length) = some 1 := ⟨rfl, hd_X9_keepsRing⟩
theorem hd_X9_shiftNow : yX9_shiftNow.cls ≠ "java/lang/invoke/MethodHandle" ∧ yX9_shiftNow.cls ≠ "java/lang/invoke/VarHandle" ∧ (parseMethodDescriptor yX9_shiftNow.desc).map (fun d => d.parameters.length) = some 2 := by decide +kernel
theorem hv_X9_shiftNow : yX9_shiftNow.cls = RX9 ∧ yX9_shiftNow.cls ≠ "java/lang/invoke/MethodHandle" ∧ yX9_shiftNow.cls ≠ "java/lang/invoke/VarHandle" ∧ (parseMethodDescriptor yX9_shiftNow.desc).map (fun d => d.parameters.length) = some 2 := ⟨rfl, hd_X9_shiftNow⟩
theorem hd_X9_shift : yX9_shift.cls ≠ "java/lang/invoke/MethodHandle" ∧ yX9_shift.cls ≠ "java/lang/invoke/VarHandle" ∧ (parseMethodDescriptor yX9_shift.desc).map (fun d => d.parameters.length) = some 2 := by decide +kernel
theorem hv_X9_shift : yX9_shift.cls = RX9 ∧ yX9_shift.cls ≠ "java/lang/invoke/MethodHandle" ∧ yX9_shift.cls ≠ "java/lang/invoke/VarHandle" ∧ (parseMethodDescriptor yX9_shift.desc).map (fun d => d.parameters.length) = some 2 := ⟨rfl, hd_X9_shift⟩
theorem hd_X9_multiple : yX9_multiple.cls ≠ "java/lang/invoke/MethodHandle" ∧ yX9_multiple.cls ≠ "java/lang/invoke/VarHandle" ∧ (parseMethodDescriptor yX9_multiple.desc).map (fun d => d.parameters.length) = some 2 := by decide +kernel
theorem hv_X9_multiple : yX9_multiple.cls = RX9 ∧ yX9_multiple.cls ≠ "java/lang/invoke/MethodHandle" ∧ yX9_multiple.cls ≠ "java/lang/invoke/VarHandle" ∧ (parseMethodDescriptor yX9_multiple.desc).map (fun d => d.parameters.length) = some 2 := ⟨rfl, hd_X9_multiple⟩
theorem hd_X9_order : yX9_order.cls ≠ "java/lang/invoke/MethodHandle" ∧ yX9_order.cls ≠ "java/lang/invoke/VarHandle" ∧ (parseMethodDescriptor yX9_order.desc).map (fun d => d.parameters.length) = some 2 := by decide +kernel
theorem hv_X9_order : yX9_order.cls = RX9 ∧ yX9_order.cls ≠ "java/lang/invoke/MethodHandle" ∧ yX9_order.cls ≠ "java/lang/invoke/VarHandle" ∧ (parseMethodDescriptor yX9_order.desc).map (fun d => d.parameters.length) = some 2 := ⟨rfl, hd_X9_order⟩
theorem hd_X9_cycles : yX9_cycles.cls ≠ "java/lang/invoke/MethodHandle" ∧ yX9_cycles.cls ≠ "java/lang/invoke/VarHandle" ∧ (parseMethodDescriptor yX9_cycles.desc).map (fun d => d.parameters.length) = some 3 := by decide +kernel
theorem hv_X9_cycles : yX9_cycles.cls = RX9 ∧ yX9_cycles.cls ≠ "java/lang/invoke/MethodHandle" ∧ yX9_cycles.cls ≠ "java/lang/invoke/VarHandle" ∧ (parseMethodDescriptor yX9_cycles.desc).map (fun d => d.parameters.length) = some 3 := ⟨rfl, hd_X9_cycles⟩
theorem hd_X9_isFull : yX9_isFull.cls ≠ "java/lang/invoke/MethodHandle" ∧ yX9_isFull.cls ≠ "java/lang/invoke/VarHandle" ∧ (parseMethodDescriptor yX9_isFull.desc).map (fun d => d.parameters.length) = some 2 := by decide +kernel
theorem hv_X9_isFull : yX9_isFull.cls = RX9 ∧ yX9_isFull.cls ≠ "java/lang/invoke/MethodHandle" ∧ yX9_isFull.cls ≠ "java/lang/invoke/VarHandle" ∧ (parseMethodDescriptor yX9_isFull.desc).map (fun d => d.parameters.length) = some 2 := ⟨rfl, hd_X9_isFull⟩
theorem hd_X9_full : yX9_full.cls ≠ "java/lang/invoke/MethodHandle" ∧ yX9_full.cls ≠ "java/lang/invoke/VarHandle" ∧ (parseMethodDescriptor yX9_full.desc).map (fun d => d.parameters.length) = some 4 := by decide +kernel
theorem hv_X9_full : yX9_full.cls = RX9 ∧ yX9_full.cls ≠ "java/lang/invoke/MethodHandle" ∧ yX9_full.cls ≠ "java/lang/invoke/VarHandle" ∧ (parseMethodDescriptor yX9_full.desc).map (fun d => d.parameters.length) = some 4 := ⟨rfl, hd_X9_full⟩
theorem hd_X9_list : yX9_list.cls ≠ "java/lang/invoke/MethodHandle" ∧ yX9_list.cls ≠ "java/lang/invoke/VarHandle" ∧ (parseMethodDescriptor yX9_list.desc).map (fun d => d.parameters.length) = some 2 := by decide +kernel
theorem hv_X9_list : yX9_list.cls = RX9 ∧ yX9_list.cls ≠ "java/lang/invoke/MethodHandle" ∧ yX9_list.cls ≠ "java/lang/invoke/VarHandle" ∧ (parseMethodDescriptor yX9_list.desc).map (fun d => d.parameters.length) = some 2 := ⟨rfl, hd_X9_list⟩
theorem hd_X9_isPrime : yX9_isPrime.cls ≠ "java/lang/invoke/MethodHandle" ∧ yX9_isPrime.cls ≠ "java/lang/invoke/VarHandle" ∧ (parseMethodDescriptor yX9_isPrime.desc).map (fun d => d.parameters.length) = some 1 := by decide +kernel
theorem hd_X9_isSo : yX9_isSo.cls ≠ "java/lang/invoke/MethodHandle" ∧ yX9_isSo.cls ≠ "java/lang/invoke/VarHandle" ∧ (parseMethodDescriptor yX9_isSo.desc).map (fun d => d.parameters.length) = some 2 := by decide +kernel
theorem hv_X9_isSo : yX9_isSo.cls = RX9 ∧ yX9_isSo.cls ≠ "java/lang/invoke/MethodHandle" ∧ yX9_isSo.cls ≠ "java/lang/invoke/VarHandle" ∧ (parseMethodDescriptor yX9_isSo.desc).map (fun d => d.parameters.length) = some 2 := ⟨rfl, hd_X9_isSo⟩
theorem hd_X9_listed : yX9_listed.cls ≠ "java/lang/invoke/MethodHandle" ∧ yX9_listed.cls ≠ "java/lang/invoke/VarHandle" ∧ (parseMethodDescriptor yX9_listed.desc).map (fun d => d.parameters.length) = some 1 := by decide +kernel
theorem hv_X9_listed : yX9_listed.cls = RX9 ∧ yX9_listed.cls ≠ "java/lang/invoke/MethodHandle" ∧ yX9_listed.cls ≠ "java/lang/invoke/VarHandle" ∧ (parseMethodDescriptor yX9_listed.desc).map (fun d => d.parameters.length) = some 1 := ⟨rfl, hd_X9_listed⟩
theorem hd_X9_worth : yX9_worth.cls ≠ "java/lang/invoke/MethodHandle" ∧ yX9_worth.cls ≠ "java/lang/invoke/VarHandle" ∧ (parseMethodDescriptor yX9_worth.desc).map (fun d => d.parameters.length) = some 4 := by decide +kernel
theorem hd_X9_tells : yX9_tells.cls ≠ "java/lang/invoke/MethodHandle" ∧ yX9_tells.cls ≠ "java/lang/invoke/VarHandle" ∧ (parseMethodDescriptor yX9_tells.desc).map (fun d => d.parameters.length) = some 3 := by decide +kernel
theorem hv_X9_tells : yX9_tells.cls = RX9 ∧ yX9_tells.cls ≠ "java/lang/invoke/MethodHandle" ∧ yX9_tells.cls ≠ "java/lang/invoke/VarHandle" ∧ (parseMethodDescriptor yX9_tells.desc).map (fun d => d.parameters.length) = some 3 := ⟨rfl, hd_X9_tells⟩
theorem hd_X9_feed : yX9_feed.cls ≠ "java/lang/invoke/MethodHandle" ∧ yX9_feed.cls ≠ "java/lang/invoke/VarHandle" ∧ (parseMethodDescriptor yX9_feed.desc).map (fun d => d.parameters.length) = some 2 := by decide +kernel
theorem hv_X9_feed : yX9_feed.cls = RX9 ∧ yX9_feed.cls ≠ "java/lang/invoke/MethodHandle" ∧ yX9_feed.cls ≠ "java/lang/invoke/VarHandle" ∧ (parseMethodDescriptor yX9_feed.desc).map (fun d => d.parameters.length) = some 2 := ⟨rfl, hd_X9_feed⟩
theorem hd_X9_wipe : yX9_wipe.cls ≠ "java/lang/invoke/MethodHandle" ∧ yX9_wipe.cls ≠ "java/lang/invoke/VarHandle" ∧ (parseMethodDescriptor yX9_wipe.desc).map (fun d => d.parameters.length) = some 0 := by decide +kernel
theorem hv_X9_wipe : yX9_wipe.cls = RX9 ∧ yX9_wipe.cls ≠ "java/lang/invoke/MethodHandle" ∧ yX9_wipe.cls ≠ "java/lang/invoke/VarHandle" ∧ (parseMethodDescriptor yX9_wipe.desc).map (fun d => d.parameters.length) = some 0 := ⟨rfl, hd_X9_wipe⟩
theorem hd_X9_isAt : yX9_isAt.cls ≠ "java/lang/invoke/MethodHandle" ∧ yX9_isAt.cls ≠ "java/lang/invoke/VarHandle" ∧ (parseMethodDescriptor yX9_isAt.desc).map (fun d => d.parameters.length) = some 2 := by decide +kernel
theorem hv_X9_isAt : yX9_isAt.cls = RX9 ∧ yX9_isAt.cls ≠ "java/lang/invoke/MethodHandle" ∧ yX9_isAt.cls ≠ "java/lang/invoke/VarHandle" ∧ (parseMethodDescriptor yX9_isAt.desc).map (fun d => d.parameters.length) = some 2 := ⟨rfl, hd_X9_isAt⟩
theorem hd_X9_wordOf : yX9_wordOf.cls ≠ "java/lang/invoke/MethodHandle" ∧ yX9_wordOf.cls ≠ "java/lang/invoke/VarHandle" ∧ (parseMethodDescriptor yX9_wordOf.desc).map (fun d => d.parameters.length) = some 2 := by decide +kernel
theorem hv_X9_wordOf : yX9_wordOf.cls = RX9 ∧ yX9_wordOf.cls ≠ "java/lang/invoke/MethodHandle" ∧ yX9_wordOf.cls ≠ "java/lang/invoke/VarHandle" ∧ (parseMethodDescriptor yX9_wordOf.desc).map (fun d => d.parameters.length) = some 2 := ⟨rfl, hd_X9_wordOf⟩
theorem hd_X9_commandOf : yX9_commandOf.cls ≠ "java/lang/invoke/MethodHandle" ∧ yX9_commandOf.cls ≠ "java/lang/invoke/VarHandle" ∧ (parseMethodDescriptor yX9_commandOf.desc).map (fun d => d.parameters.length) = some 2 := by decide +kernel
theorem hv_X9_commandOf : yX9_commandOf.cls = RX9 ∧ yX9_commandOf.cls ≠ "java/lang/invoke/MethodHandle" ∧ yX9_commandOf.cls ≠ "java/lang/invoke/VarHandle" ∧ (parseMethodDescriptor yX9_commandOf.desc).map (fun d => d.parameters.length) = some 2 := ⟨rfl, hd_X9_commandOf⟩
theorem hd_X9_thin : yX9_thin.cls ≠ "java/lang/invoke/MethodHandle" ∧ yX9_thin.cls ≠ "java/lang/invoke/VarHandle" ∧ (parseMethodDescriptor yX9_thin.desc).map (fun d => d.parameters.length) = some 0 := by decide +kernel
theorem hv_X9_thin : yX9_thin.cls = RX9 ∧ yX9_thin.cls ≠ "java/lang/invoke/MethodHandle" ∧ yX9_thin.cls ≠ "java/lang/invoke/VarHandle" ∧ (parseMethodDescriptor yX9_thin.desc).map (fun d => d.parameters.length) = some 0 := ⟨rfl, hd_X9_thin⟩
theorem hd_X9_signOf : yX9_signOf.cls ≠ "java/lang/invoke/MethodHandle" ∧ yX9_signOf.cls ≠ "java/lang/invoke/VarHandle" ∧ (parseMethodDescriptor yX9_signOf.desc).map (fun d => d.parameters.length) = some 1 := by decide +kernel
theorem hd_X9_wholeSize : yX9_wholeSize.cls ≠ "java/lang/invoke/MethodHandle" ∧ yX9_wholeSize.cls ≠ "java/lang/invoke/VarHandle" ∧ (parseMethodDescriptor yX9_wholeSize.desc).map (fun d => d.parameters.length) = some 1 := by decide +kernel
theorem hv_X9_wholeSize : yX9_wholeSize.cls = RX9 ∧ yX9_wholeSize.cls ≠ "java/lang/invoke/MethodHandle" ∧ yX9_wholeSize.cls ≠ "java/lang/invoke/VarHandle" ∧ (parseMethodDescriptor yX9_wholeSize.desc).map (fun d => d.parameters.length) = some 1 := ⟨rfl, hd_X9_wholeSize⟩
theorem hd_X9_wholeDigit : yX9_wholeDigit.cls ≠ "java/lang/invoke/MethodHandle" ∧ yX9_wholeDigit.cls ≠ "java/lang/invoke/VarHandle" ∧ (parseMethodDescriptor yX9_wholeDigit.desc).map (fun d => d.parameters.length) = some 2 := by decide +kernel
theorem hv_X9_wholeDigit : yX9_wholeDigit.cls = RX9 ∧ yX9_wholeDigit.cls ≠ "java/lang/invoke/MethodHandle" ∧ yX9_wholeDigit.cls ≠ "java/lang/invoke/VarHandle" ∧ (parseMethodDescriptor yX9_wholeDigit.desc).map (fun d => d.parameters.length) = some 2 := ⟨rfl, hd_X9_wholeDigit⟩
theorem hd_X9_spell : yX9_spell.cls ≠ "java/lang/invoke/MethodHandle" ∧ yX9_spell.cls ≠ "java/lang/invoke/VarHandle" ∧ (parseMethodDescriptor yX9_spell.desc).map (fun d => d.parameters.length) = some 2 := by decide +kernel
theorem hv_X9_spell : yX9_spell.cls = RX9 ∧ yX9_spell.cls ≠ "java/lang/invoke/MethodHandle" ∧ yX9_spell.cls ≠ "java/lang/invoke/VarHandle" ∧ (parseMethodDescriptor yX9_spell.desc).map (fun d => d.parameters.length) = some 2 := ⟨rfl, hd_X9_spell⟩
theorem hd_X9_digitAt : yX9_digitAt.cls ≠ "java/lang/invoke/MethodHandle" ∧ yX9_digitAt.cls ≠ "java/lang/invoke/VarHandle" ∧ (parseMethodDescriptor yX9_digitAt.desc).map (fun d => d.parameters.length) = some 0 := by decide +kernel
theorem hv_X9_digitAt : yX9_digitAt.cls = RX9 ∧ yX9_digitAt.cls ≠ "java/lang/invoke/MethodHandle" ∧ yX9_digitAt.cls ≠ "java/lang/invoke/VarHandle" ∧ (parseMethodDescriptor yX9_digitAt.desc).map (fun d => d.parameters.length) = some 0 := ⟨rfl, hd_X9_digitAt⟩
theorem hd_X9_readsDigits : yX9_readsDigits.cls ≠ "java/lang/invoke/MethodHandle" ∧ yX9_readsDigits.cls ≠ "java/lang/invoke/VarHandle" ∧ (parseMethodDescriptor yX9_readsDigits.desc).map (fun d => d.parameters.length) = some 1 := by decide +kernel
theorem hv_X9_readsDigits : yX9_readsDigits.cls = RX9 ∧ yX9_readsDigits.cls ≠ "java/lang/invoke/MethodHandle" ∧ yX9_readsDigits.cls ≠ "java/lang/invoke/VarHandle" ∧ (parseMethodDescriptor yX9_readsDigits.desc).map (fun d => d.parameters.length) = some 1 := ⟨rfl, hd_X9_readsDigits⟩
theorem hd_X9_isNumeral : yX9_isNumeral.cls ≠ "java/lang/invoke/MethodHandle" ∧ yX9_isNumeral.cls ≠ "java/lang/invoke/VarHandle" ∧ (parseMethodDescriptor yX9_isNumeral.desc).map (fun d => d.parameters.length) = some 1 := by decide +kernel
theorem hv_X9_isNumeral : yX9_isNumeral.cls = RX9 ∧ yX9_isNumeral.cls ≠ "java/lang/invoke/MethodHandle" ∧ yX9_isNumeral.cls ≠ "java/lang/invoke/VarHandle" ∧ (parseMethodDescriptor yX9_isNumeral.desc).map (fun d => d.parameters.length) = some 1 := ⟨rfl, hd_X9_isNumeral⟩
theorem hd_X9_read : yX9_read.cls ≠ "java/lang/invoke/MethodHandle" ∧ yX9_read.cls ≠ "java/lang/invoke/VarHandle" ∧ (parseMethodDescriptor yX9_read.desc).map (fun d => d.parameters.length) = some 1 := by decide +kernel
theorem hv_X9_read : yX9_read.cls = RX9 ∧ yX9_read.cls ≠ "java/lang/invoke/MethodHandle" ∧ yX9_read.cls ≠ "java/lang/invoke/VarHandle" ∧ (parseMethodDescriptor yX9_read.desc).map (fun d => d.parameters.length) = some 1 := ⟨rfl, hd_X9_read⟩
theorem hd_X9_numbersOf : yX9_numbersOf.cls ≠ "java/lang/invoke/MethodHandle" ∧ yX9_numbersOf.cls ≠ "java/lang/invoke/VarHandle" ∧ (parseMethodDescriptor yX9_numbersOf.desc).map (fun d => d.parameters.length) = some 1 := by decide +kernel
theorem hd_X9_command : yX9_command.cls ≠ "java/lang/invoke/MethodHandle" ∧ yX9_command.cls ≠ "java/lang/invoke/VarHandle" ∧ (parseMethodDescriptor yX9_command.desc).map (fun d => d.parameters.length) = some 0 := by decide +kernel
theorem hv_X9_command : yX9_command.cls = RX9 ∧ yX9_command.cls ≠ "java/lang/invoke/MethodHandle" ∧ yX9_command.cls ≠ "java/lang/invoke/VarHandle" ∧ (parseMethodDescriptor yX9_command.desc).map (fun d => d.parameters.length) = some 0 := ⟨rfl, hd_X9_command⟩
theorem hd_X9_done : yX9_done.cls ≠ "java/lang/invoke/MethodHandle" ∧ yX9_done.cls ≠ "java/lang/invoke/VarHandle" ∧ (parseMethodDescriptor yX9_done.desc).map (fun d => d.parameters.length) = some 1 := by decide +kernel
theorem hv_X9_done : yX9_done.cls = RX9 ∧ yX9_done.cls ≠ "java/lang/invoke/MethodHandle" ∧ yX9_done.cls ≠ "java/lang/invoke/VarHandle" ∧ (parseMethodDescriptor yX9_done.desc).map (fun d => d.parameters.length) = some 1 := ⟨rfl, hd_X9_done⟩
theorem hd_X9_run : yX9_run.cls ≠ "java/lang/invoke/MethodHandle" ∧ yX9_run.cls ≠ "java/lang/invoke/VarHandle" ∧ (parseMethodDescriptor yX9_run.desc).map (fun d => d.parameters.length) = some 0 := by decide +kernel
theorem hv_X9_run : yX9_run.cls = RX9 ∧ yX9_run.cls ≠ "java/lang/invoke/MethodHandle" ∧ yX9_run.cls ≠ "java/lang/invoke/VarHandle" ∧ (parseMethodDescriptor yX9_run.desc).map (fun d => d.parameters.length) = some 0 := ⟨rfl, hd_X9_run⟩
theorem hd_X9_isHolder : yX9_isHolder.cls ≠ "java/lang/invoke/MethodHandle" ∧ yX9_isHolder.cls ≠ "java/lang/invoke/VarHandle" ∧ (parseMethodDescriptor yX9_isHolder.desc).map (fun d => d.parameters.length) = some 1 := by decide +kernel
theorem hd_X9_looksHeld : yX9_looksHeld.cls ≠ "java/lang/invoke/MethodHandle" ∧ yX9_looksHeld.cls ≠ "java/lang/invoke/VarHandle" ∧ (parseMethodDescriptor yX9_looksHeld.desc).map (fun d => d.parameters.length) = some 1 := by decide +kernel
theorem hv_X9_looksHeld : yX9_looksHeld.cls = RX9 ∧ yX9_looksHeld.cls ≠ "java/lang/invoke/MethodHandle" ∧ yX9_looksHeld.cls ≠ "java/lang/invoke/VarHandle" ∧ (parseMethodDescriptor yX9_looksHeld.desc).map (fun d => d.parameters.length) = some 1 := ⟨rfl, hd_X9_looksHeld⟩
theorem hd_X9_hold : yX9_hold.cls ≠ "java/lang/invoke/MethodHandle" ∧ yX9_hold.cls ≠ "java/lang/invoke/VarHandle" ∧ (parseMethodDescriptor yX9_hold.desc).map (fun d => d.parameters.length) = some 2 := by decide +kernel
theorem hv_X9_hold : yX9_hold.cls = RX9 ∧ yX9_hold.cls ≠ "java/lang/invoke/MethodHandle" ∧ yX9_hold.cls ≠ "java/lang/invoke/VarHandle" ∧ (parseMethodDescriptor yX9_hold.desc).map (fun d => d.parameters.length) = some 2 := ⟨rfl, hd_X9_hold⟩
theorem hd_X9_lose : yX9_lose.cls ≠ "java/lang/invoke/MethodHandle" ∧ yX9_lose.cls ≠ "java/lang/invoke/VarHandle" ∧ (parseMethodDescriptor yX9_lose.desc).map (fun d => d.parameters.length) = some 1 := by decide +kernel
theorem hv_X9_lose : yX9_lose.cls = RX9 ∧ yX9_lose.cls ≠ "java/lang/invoke/MethodHandle" ∧ yX9_lose.cls ≠ "java/lang/invoke/VarHandle" ∧ (parseMethodDescriptor yX9_lose.desc).map (fun d => d.parameters.length) = some 1 := ⟨rfl, hd_X9_lose⟩
theorem hd_X9_whyNot : yX9_whyNot.cls ≠ "java/lang/invoke/MethodHandle" ∧ yX9_whyNot.cls ≠ "java/lang/invoke/VarHandle" ∧ (parseMethodDescriptor yX9_whyNot.desc).map (fun d => d.parameters.length) = some 2 := by decide +kernel
theorem hv_X9_whyNot : yX9_whyNot.cls = RX9 ∧ yX9_whyNot.cls ≠ "java/lang/invoke/MethodHandle" ∧ yX9_whyNot.cls ≠ "java/lang/invoke/VarHandle" ∧ (parseMethodDescriptor yX9_whyNot.desc).map (fun d => d.parameters.length) = some 2 := ⟨rfl, hd_X9_whyNot⟩
theorem hd_X9_taken : yX9_taken.cls ≠ "java/lang/invoke/MethodHandle" ∧ yX9_taken.cls ≠ "java/lang/invoke/VarHandle" ∧ (parseMethodDescriptor yX9_taken.desc).map (fun d => d.parameters.length) = some 2 := by decide +kernel
theorem hv_X9_taken : yX9_taken.cls = RX9 ∧ yX9_taken.cls ≠ "java/lang/invoke/MethodHandle" ∧ yX9_taken.cls ≠ "java/lang/invoke/VarHandle" ∧ (parseMethodDescriptor yX9_taken.desc).map (fun d => d.parameters.length) = some 2 := ⟨rfl, hd_X9_taken⟩
theorem hd_X9_was : yX9_was.cls ≠ "java/lang/invoke/MethodHandle" ∧ yX9_was.cls ≠ "java/lang/invoke/VarHandle" ∧ (parseMethodDescriptor yX9_was.desc).map (fun d => d.parameters.length) = some 2 := by decide +kernel
theorem hv_X9_was : yX9_was.cls = RX9 ∧ yX9_was.cls ≠ "java/lang/invoke/MethodHandle" ∧ yX9_was.cls ≠ "java/lang/invoke/VarHandle" ∧ (parseMethodDescriptor yX9_was.desc).map (fun d => d.parameters.length) = some 2 := ⟨rfl, hd_X9_was⟩
theorem hd_X9_row : yX9_row.cls ≠ "java/lang/invoke/MethodHandle" ∧ yX9_row.cls ≠ "java/lang/invoke/VarHandle" ∧ (parseMethodDescriptor yX9_row.desc).map (fun d => d.parameters.length) = some 2 := by decide +kernel
theorem hv_X9_row : yX9_row.cls = RX9 ∧ yX9_row.cls ≠ "java/lang/invoke/MethodHandle" ∧ yX9_row.cls ≠ "java/lang/invoke/VarHandle" ∧ (parseMethodDescriptor yX9_row.desc).map (fun d => d.parameters.length) = some 2 := ⟨rfl, hd_X9_row⟩
theorem hd_X9_put : yX9_put.cls ≠ "java/lang/invoke/MethodHandle" ∧ yX9_put.cls ≠ "java/lang/invoke/VarHandle" ∧ (parseMethodDescriptor yX9_put.desc).map (fun d => d.parameters.length) = some 3 := by decide +kernel
theorem hv_X9_put : yX9_put.cls = RX9 ∧ yX9_put.cls ≠ "java/lang/invoke/MethodHandle" ∧ yX9_put.cls ≠ "java/lang/invoke/VarHandle" ∧ (parseMethodDescriptor yX9_put.desc).map (fun d => d.parameters.length) = some 3 := ⟨rfl, hd_X9_put⟩
theorem hd_X9_get : yX9_get.cls ≠ "java/lang/invoke/MethodHandle" ∧ yX9_get.cls ≠ "java/lang/invoke/VarHandle" ∧ (parseMethodDescriptor yX9_get.desc).map (fun d => d.parameters.length) = some 2 := by decide +kernel
theorem hv_X9_get : yX9_get.cls = RX9 ∧ yX9_get.cls ≠ "java/lang/invoke/MethodHandle" ∧ yX9_get.cls ≠ "java/lang/invoke/VarHandle" ∧ (parseMethodDescriptor yX9_get.desc).map (fun d => d.parameters.length) = some 2 := ⟨rfl, hd_X9_get⟩
theorem hd_X9_judge : yX9_judge.cls ≠ "java/lang/invoke/MethodHandle" ∧ yX9_judge.cls ≠ "java/lang/invoke/VarHandle" ∧ (parseMethodDescriptor yX9_judge.desc).map (fun d => d.parameters.length) = some 2 := by decide +kernel
theorem hv_X9_judge : yX9_judge.cls = RX9 ∧ yX9_judge.cls ≠ "java/lang/invoke/MethodHandle" ∧ yX9_judge.cls ≠ "java/lang/invoke/VarHandle" ∧ (parseMethodDescriptor yX9_judge.desc).map (fun d => d.parameters.length) = some 2 := ⟨rfl, hd_X9_judge⟩
theorem hd_X9_image : yX9_image.cls ≠ "java/lang/invoke/MethodHandle" ∧ yX9_image.cls ≠ "java/lang/invoke/VarHandle" ∧ (parseMethodDescriptor yX9_image.desc).map (fun d => d.parameters.length) = some 0 := by decide +kernel
theorem hv_X9_image : yX9_image.cls = RX9 ∧ yX9_image.cls ≠ "java/lang/invoke/MethodHandle" ∧ yX9_image.cls ≠ "java/lang/invoke/VarHandle" ∧ (parseMethodDescriptor yX9_image.desc).map (fun d => d.parameters.length) = some 0 := ⟨rfl, hd_X9_image⟩
theorem hd_X9_undo : yX9_undo.cls ≠ "java/lang/invoke/MethodHandle" ∧ yX9_undo.cls ≠ "java/lang/invoke/VarHandle" ∧ (parseMethodDescriptor yX9_undo.desc).map (fun d => d.parameters.length) = some 0 := by decide +kernel
theorem hv_X9_undo : yX9_undo.cls = RX9 ∧ yX9_undo.cls ≠ "java/lang/invoke/MethodHandle" ∧ yX9_undo.cls ≠ "java/lang/invoke/VarHandle" ∧ (parseMethodDescriptor yX9_undo.desc).map (fun d => d.parameters.length) = some 0 := ⟨rfl, hd_X9_undo⟩
theorem hd_X9_count : yX9_count.cls ≠ "java/lang/invoke/MethodHandle" ∧ yX9_count.cls ≠ "java/lang/invoke/VarHandle" ∧ (parseMethodDescriptor yX9_count.desc).map (fun d => d.parameters.length) = some 1 := by decide +kernel
theorem hv_X9_count : yX9_count.cls = RX9 ∧ yX9_count.cls ≠ "java/lang/invoke/MethodHandle" ∧ yX9_count.cls ≠ "java/lang/invoke/VarHandle" ∧ (parseMethodDescriptor yX9_count.desc).map (fun d => d.parameters.length) = some 1 := ⟨rfl, hd_X9_count⟩
theorem hd_J9_max_7cf53 : yJ9_max_7cf53.cls ≠ "java/lang/invoke/MethodHandle" ∧ yJ9_max_7cf53.cls ≠ "java/lang/invoke/VarHandle" ∧ (parseMethodDescriptor yJ9_max_7cf53.desc).map (fun d => d.parameters.length) = some 2 := by decide +kernel
theorem hd_J9_min_7cf53 : yJ9_min_7cf53.cls ≠ "java/lang/invoke/MethodHandle" ∧ yJ9_min_7cf53.cls ≠ "java/lang/invoke/VarHandle" ∧ (parseMethodDescriptor yJ9_min_7cf53.desc).map (fun d => d.parameters.length) = some 2 := by decide +kernel
theorem hd_J9_min_f86c9 : yJ9_min_f86c9.cls ≠ "java/lang/invoke/MethodHandle" ∧ yJ9_min_f86c9.cls ≠ "java/lang/invoke/VarHandle" ∧ (parseMethodDescriptor yJ9_min_f86c9.desc).map (fun d => d.parameters.length) = some 2 := by decide +kernel
theorem hd_J0_length_8abf5 : yJ0_length_8abf5.cls ≠ "java/lang/invoke/MethodHandle" ∧ yJ0_length_8abf5.cls ≠ "java/lang/invoke/VarHandle" ∧ (parseMethodDescriptor yJ0_length_8abf5.desc).map (fun d => d.parameters.length) = some 0 := by decide +kernel
theorem hv_J0_length_8abf5 : yJ0_length_8abf5.cls = RJ0 ∧ yJ0_length_8abf5.cls ≠ "java/lang/invoke/MethodHandle" ∧ yJ0_length_8abf5.cls ≠ "java/lang/invoke/VarHandle" ∧ (parseMethodDescriptor yJ0_length_8abf5.desc).map (fun d => d.parameters.length) = some 0 := ⟨rfl, hd_J0_length_8abf5⟩
theorem hd_J0_charAt_5068e : yJ0_charAt_5068e.cls ≠ "java/lang/invoke/MethodHandle" ∧ yJ0_charAt_5068e.cls ≠ "java/lang/invoke/VarHandle" ∧ (parseMethodDescriptor yJ0_charAt_5068e.desc).map (fun d => d.parameters.length) = some 1 := by decide +kernel
theorem hv_J0_charAt_5068e : yJ0_charAt_5068e.cls = RJ0 ∧ yJ0_charAt_5068e.cls ≠ "java/lang/invoke/MethodHandle" ∧ yJ0_charAt_5068e.cls ≠ "java/lang/invoke/VarHandle" ∧ (parseMethodDescriptor yJ0_charAt_5068e.desc).map (fun d => d.parameters.length) = some 1 := ⟨rfl, hd_J0_charAt_5068e⟩
theorem hd_J0_coder_7d493 : yJ0_coder_7d493.cls ≠ "java/lang/invoke/MethodHandle" ∧ yJ0_coder_7d493.cls ≠ "java/lang/invoke/VarHandle" ∧ (parseMethodDescriptor yJ0_coder_7d493.desc).map (fun d => d.parameters.length) = some 0 := by decide +kernel
theorem hv_J0_coder_7d493 : yJ0_coder_7d493.cls = RJ0 ∧ yJ0_coder_7d493.cls ≠ "java/lang/invoke/MethodHandle" ∧ yJ0_coder_7d493.cls ≠ "java/lang/invoke/VarHandle" ∧ (parseMethodDescriptor yJ0_coder_7d493.desc).map (fun d => d.parameters.length) = some 0 := ⟨rfl, hd_J0_coder_7d493⟩
theorem hd_J0_isLatin1_aae02 : yJ0_isLatin1_aae02.cls ≠ "java/lang/invoke/MethodHandle" ∧ yJ0_isLatin1_aae02.cls ≠ "java/lang/invoke/VarHandle" ∧ (parseMethodDescriptor yJ0_isLatin1_aae02.desc).map (fun d => d.parameters.length) = some 0 := by decide +kernel
theorem hv_J0_isLatin1_aae02 : yJ0_isLatin1_aae02.cls = RJ0 ∧ yJ0_isLatin1_aae02.cls ≠ "java/lang/invoke/MethodHandle" ∧ yJ0_isLatin1_aae02.cls ≠ "java/lang/invoke/VarHandle" ∧ (parseMethodDescriptor yJ0_isLatin1_aae02.desc).map (fun d => d.parameters.length) = some 0 := ⟨rfl, hd_J0_isLatin1_aae02⟩
theorem hd_J0_checkIndex_df160 : yJ0_checkIndex_df160.cls ≠ "java/lang/invoke/MethodHandle" ∧ yJ0_checkIndex_df160.cls ≠ "java/lang/invoke/VarHandle" ∧ (parseMethodDescriptor yJ0_checkIndex_df160.desc).map (fun d => d.parameters.length) = some 2 := by decide +kernel
theorem hd_J1_charAt_3b067 : yJ1_charAt_3b067.cls ≠ "java/lang/invoke/MethodHandle" ∧ yJ1_charAt_3b067.cls ≠ "java/lang/invoke/VarHandle" ∧ (parseMethodDescriptor yJ1_charAt_3b067.desc).map (fun d => d.parameters.length) = some 2 := by decide +kernel
theorem hd_J2_getChar_3b067 : yJ2_getChar_3b067.cls ≠ "java/lang/invoke/MethodHandle" ∧ yJ2_getChar_3b067.cls ≠ "java/lang/invoke/VarHandle" ∧ (parseMethodDescriptor yJ2_getChar_3b067.desc).map (fun d => d.parameters.length) = some 2 := by decide +kernel
theorem hd_J2_length_9d52b : yJ2_length_9d52b.cls ≠ "java/lang/invoke/MethodHandle" ∧ yJ2_length_9d52b.cls ≠ "java/lang/invoke/VarHandle" ∧ (parseMethodDescriptor yJ2_length_9d52b.desc).map (fun d => d.parameters.length) = some 1 := by decide +kernel
theorem hd_J2_charAt_3b067 : yJ2_charAt_3b067.cls ≠ "java/lang/invoke/MethodHandle" ∧ yJ2_charAt_3b067.cls ≠ "java/lang/invoke/VarHandle" ∧ (parseMethodDescriptor yJ2_charAt_3b067.desc).map (fun d => d.parameters.length) = some 2 := by decide +kernel
theorem hd_J2_checkIndex_2214a : yJ2_checkIndex_2214a.cls ≠ "java/lang/invoke/MethodHandle" ∧ yJ2_checkIndex_2214a.cls ≠ "java/lang/invoke/VarHandle" ∧ (parseMethodDescriptor yJ2_checkIndex_2214a.desc).map (fun d => d.parameters.length) = some 2 := by decide +kernel
theorem hd_J3_checkIndex_8e157 : yJ3_checkIndex_8e157.cls ≠ "java/lang/invoke/MethodHandle" ∧ yJ3_checkIndex_8e157.cls ≠ "java/lang/invoke/VarHandle" ∧ (parseMethodDescriptor yJ3_checkIndex_8e157.desc).map (fun d => d.parameters.length) = some 3 := by decide +kernel
end
section
/-! the fixed part of X's world (classes, private members of nest mates, String constants), and of M's -/
abbrev tyl (cA : Nat → ClassId) : List (ClassId × FieldType) := [(cA 0, .int), (cA 1, .char), (cA 2, .object RX1), (cA 3, .object RX2)]
def nestL : List (String × Nat × MethodName × String) := [(RX1, 33, yX8_power, "TurningFractions"), (RX1, 37, yX8_commonDivisor, "TurningFractions"), (RX1, 41, yX8_remainder, "TurningFractions"), (RX1, 53, yX8_quotient, "TurningFractions"), (RX1, 63, yX8_isWithin, "TurningFractions"), (RX4, 29, yX8_setAt, "TurningFractions"), (RX4, 36, yX8_valueAt, "TurningFractions"), (RX4, 40, yX8_remainder, "TurningFractions"), (RX4, 44, yX8_quotient, "TurningFractions"), (RX0, 29, yX8_setAt, "TurningFractions"), (RX7, 30, yX8_valueAt, "TurningFractions"), (RX0, 33, yX8_valueAt, "TurningFractions"), (RX0, 87, yX8_isPrime, "TurningFractions"), (RX7, 26, yX8_setAt, "TurningFractions"), (RX7, 47, yX8_isWithin, "TurningFractions"), (RX3, 35, yX8_power, "TurningFractions"), (RX5, 50, yX8_setAt, "TurningFractions"), (RX5, 22, yX8_valueAt, "TurningFractions"), (RX2, 33, yX8_setAt, "TurningFractions"), (RX2, 37, yX8_isWithin, "TurningFractions"), (RX2, 45, yX8_valueAt, "TurningFractions")]
def strL : List (String × Nat × String) := [(RX8, 196, "not "), (RX0, 48, "ends"), (RX0, 50, "pure"), (RX0, 52, "mixed"), (RX0, 54, "full"), (RX0, 56, "even"), (RX0, 58, "odd"), (RX0, 60, "half"), (RX0, 62, "prime"), (RX5, 73, "new"), (RX5, 75, "drop"), (RX5, 77, "mul"), (RX5, 79, "sum"), (RX5, 81, "low")]
def sLen : List Nat := [4, 4, 4, 5, 4, 4, 3, 4, 5, 3, 4, 3, 3, 3]
def sByt : List (List Int32) := [[110, 111, 116, 32], [101, 110, 100, 115], [112, 117, 114, 101], [109, 105, 120, 101, 100], [102, 117, 108, 108], [101, 118, 101, 110], [111, 100, 100], [104, 97, 108, 102], [112, 114, 105, 109, 101], [110, 101, 119], [100, 114, 111, 112], [109, 117, 108], [115, 117, 109], [108, 111, 119]]
def KX (dC : Nat → ClassId) (dI : Nat → Nat → Nat) (cA : Nat → ClassId) (adK adV P : Nat → Nat) (U : State) : Prop := va_K (dC, dI) vwCl (tyl cA) U ∧ (∀ (i : Nat) (q : String × Nat × MethodName × String), nestL[i]? = some q → va_Nw (.methodLinkNest q.1 q.2.1 q.2.2.1 q.2.2.2) U) ∧ (∀ (i : Nat) (q : String × Nat × String), strL[i]? = some q → vk_R q.1 q.2.1 q.2.2 (adK i) U) ∧ vk_S 14 sLen sByt adK adV (PA 56 P) U U.heap ∧ va_Z "java/lang/String" "COMPACT_STRINGS" "Z" (.int 1) (PA 56 P) U U.heap ∧ va_Zq "jdk/internal/util/Preconditions" "SIOOBE_FORMATTER" "Ljava/util/function/BiFunction;" (PA 56 P) U U.heap
theorem KX.calling {dC : Nat → ClassId} {dI : Nat → Nat → Nat} {cA : Nat → ClassId} {adK adV P : Nat → Nat} {U : State} (h : KX dC dI cA adK adV P U) (g : JFrame) (mk : MethodId) (a : Array Value) : KX dC dI cA adK adV P (U.calling g mk a) := by
  obtain ⟨h1, h2, h3, h4, h5, h6⟩ := h
  have al : U.vm.Alike (U.calling g mk a).vm := Vm.Alike.refl U.vm
  exact ⟨h1.moved al, fun i q hq => (h2 i q hq).same rfl rfl, fun i q hq => vk_R.same rfl (h3 i q hq), vk_S.moved al h4, va_Z.moved al h5, va_Zq.moved al h6⟩
theorem KX.go {dC : Nat → ClassId} {dI : Nat → Nat → Nat} {cA : Nat → ClassId} {adK adV P : Nat → Nat} {s U : State} {H : Heap} {locs : List Loc} (h : KX dC dI cA adK adV P s) (hW : s.WarmedH U.vm) (hS : va_S (PA 56 P) s.heap H locs) (hU : U.heap = H) : KX dC dI cA adK adV P U := by
  obtain ⟨h1, h2, h3, h4, h5, h6⟩ := h
  subst hU
  exact ⟨h1.moved hW.alike, fun i q hq => (h2 i q hq).warmM hW, fun i q hq => (h3 i q hq).warm hW, (vk_S.moved hW.alike h4).kept hS.2.1, (va_Z.moved hW.alike h5).kept hS.2.1, (va_Zq.moved hW.alike h6).kept hS.2.1⟩
def KM (dC : Nat → ClassId) (dI : Nat → Nat → Nat) (cA : Nat → ClassId) (U : State) : Prop := va_K (dC, dI) vwCl (tyl cA) U
abbrev VX (dC : Nat → ClassId) (dI : Nat → Nat → Nat) (cA : Nat → ClassId) (P : Nat → Nat) (S : St) (H : Heap) : Prop := va_P (dC, dI) vwCl (wsL 56 (encX P cA) P S) H
abbrev VM (dC : Nat → ClassId) (dI : Nat → Nat → Nat) (cA : Nat → ClassId) (P : Nat → Nat) (S : St) (H : Heap) : Prop := va_P (dC, dI) vwCl (wsL 25 (encM P cA) P S) H
def PreX (dC : Nat → ClassId) (dI : Nat → Nat → Nat) (cA : Nat → ClassId) (adK adV P : Nat → Nat) (S : St) (U : State) : Prop := VX dC dI cA P S U.heap ∧ KX dC dI cA adK adV P U
def PreM (dC : Nat → ClassId) (dI : Nat → Nat → Nat) (cA : Nat → ClassId) (P : Nat → Nat) (S : St) (U : State) : Prop := VM dC dI cA P S U.heap ∧ KM dC dI cA U
abbrev CtxX (dC : Nat → ClassId) (dI : Nat → Nat → Nat) (cA : Nat → ClassId) (adK adV P : Nat → Nat) (p : Program) (s : State) (m : MethodId) (args : Array Value) (meth : Method) (c : Code) (cc : ByteArray) (nL : Nat) (rt : Option FieldType) (own : String) : Prop := PInj 56 P ∧ KX dC dI cA adK adV P s ∧ CallFix p m c cc nL s args G own ∧ meth.sig.returnType = rt ∧ meth.locks = false
abbrev CtxM (dC : Nat → ClassId) (dI : Nat → Nat → Nat) (cA : Nat → ClassId) (P : Nat → Nat) (p : Program) (s : State) (m : MethodId) (args : Array Value) (meth : Method) (c : Code) (cc : ByteArray) (nL : Nat) (rt : Option FieldType) (own : String) : Prop := PInj 25 P ∧ KM dC dI cA s ∧ CallFix p m c cc nL s args G own ∧ meth.sig.returnType = rt ∧ meth.locks = false
section PRE
variable {dC : Nat → ClassId} {dI : Nat → Nat → Nat} {cA : Nat → ClassId} {adK adV P : Nat → Nat} {s : State} {H : Heap} {locs : List Loc} {S : St} {As : List Value}
theorem preV_X (hKX : KX dC dI cA adK adV P s) (hP : VX dC dI cA P S H) (hS : va_S (PA 56 P) s.heap H locs) {k ci n : Nat} {C : String} {T : u_T} {fl : (Nat → Int32) → (Nat → Int64) → List Value} (hk : k < 56) (he : ∀ f g, encX P cA k f g = .inr (ci, fl f g)) (hc : vwCl[ci]? = some (C, T, n)) : PreV s H C (P k) (va_Pc (.ref (P k) :: As) (PreX dC dI cA adK adV P S)) As :=
  ⟨fun a U g mk q => ⟨q.1, q.2.1, q.2.2.calling g mk a⟩, va_recv hKX.1 hP hc (ws_at hk (he _ _)), fun U hU hW => ⟨rfl, by rw [hU]; exact hP, hKX.go hW hS hU⟩⟩
theorem preT_X (hKX : KX dC dI cA adK adV P s) (hP : VX dC dI cA P S H) (hS : va_S (PA 56 P) s.heap H locs) {i : Nat} (hi : i < 14) : PreV s H RJ0 (adK i) (va_Pc (.ref (adK i) :: As) (PreX dC dI cA adK adV P S)) As :=
  ⟨fun a U g mk q => ⟨q.1, q.2.1, q.2.2.calling g mk a⟩, vk_recv hKX.2.2.2.1 hi hS, fun U hU hW => ⟨rfl, by rw [hU]; exact hP, hKX.go hW hS hU⟩⟩
theorem preS_X (hKX : KX dC dI cA adK adV P s) (hP : VX dC dI cA P S H) (hS : va_S (PA 56 P) s.heap H locs) : PreS s H (va_Pc As (PreX dC dI cA adK adV P S)) As :=
  ⟨fun a U g mk q => ⟨q.1, q.2.1, q.2.2.calling g mk a⟩, fun U hU hW => ⟨rfl, by rw [hU]; exact hP, hKX.go hW hS hU⟩⟩
theorem preV_M (hKX : KM dC dI cA s) (hP : VM dC dI cA P S H) (hS : va_S (PA 25 P) s.heap H locs) {k ci n : Nat} {C : String} {T : u_T} {fl : (Nat → Int32) → (Nat → Int64) → List Value} (hk : k < 25) (he : ∀ f g, encM P cA k f g = .inr (ci, fl f g)) (hc : vwCl[ci]? = some (C, T, n)) : PreV s H C (P k) (va_Pc (.ref (P k) :: As) (PreM dC dI cA P S)) As :=
  ⟨fun a U g mk q => ⟨q.1, q.2.1, va_K.moved (Vm.Alike.refl U.vm) q.2.2⟩, va_recv hKX hP hc (ws_at hk (he _ _)), fun U hU hW => ⟨rfl, by rw [hU]; exact hP, va_K.moved hW.alike hKX⟩⟩
theorem preS_M (hKX : KM dC dI cA s) (hP : VM dC dI cA P S H) (hS : va_S (PA 25 P) s.heap H locs) : PreS s H (va_Pc As (PreM dC dI cA P S)) As :=
  ⟨fun a U g mk q => ⟨q.1, q.2.1, va_K.moved (Vm.Alike.refl U.vm) q.2.2⟩, fun U hU hW => ⟨rfl, by rw [hU]; exact hP, va_K.moved hW.alike hKX⟩⟩
end PRE
end
