abbrev iush (x y : Int32) : Int32 := (x.toUInt32 >>> (y.toUInt32 &&& Int32.toUInt32 31)).toInt32
/-- the char at k of String constant i -/
def sChr (i k : Nat) : Int32 := (sByt.getD i []).getD k 0

section
variable {dC : Nat → ClassId} {dI : Nat → Nat → Nat} {cA : Nat → ClassId} {adK adV P : Nat → Nat} {U : State}
theorem kx_n0 (h : KX dC dI cA adK adV P U) : va_Nw (.methodLinkNest RX1 33 yX8_power "TurningFractions") U := h.2.1 0 (RX1, 33, yX8_power, "TurningFractions") rfl
theorem kx_n1 (h : KX dC dI cA adK adV P U) : va_Nw (.methodLinkNest RX1 37 yX8_commonDivisor "TurningFractions") U := h.2.1 1 (RX1, 37, yX8_commonDivisor, "TurningFractions") rfl
theorem kx_n2 (h : KX dC dI cA adK adV P U) : va_Nw (.methodLinkNest RX1 41 yX8_remainder "TurningFractions") U := h.2.1 2 (RX1, 41, yX8_remainder, "TurningFractions") rfl
theorem kx_n3 (h : KX dC dI cA adK adV P U) : va_Nw (.methodLinkNest RX1 53 yX8_quotient "TurningFractions") U := h.2.1 3 (RX1, 53, yX8_quotient, "TurningFractions") rfl
theorem kx_n4 (h : KX dC dI cA adK adV P U) : va_Nw (.methodLinkNest RX1 63 yX8_isWithin "TurningFractions") U := h.2.1 4 (RX1, 63, yX8_isWithin, "TurningFractions") rfl
theorem kx_n5 (h : KX dC dI cA adK adV P U) : va_Nw (.methodLinkNest RX4 29 yX8_setAt "TurningFractions") U := h.2.1 5 (RX4, 29, yX8_setAt, "TurningFractions") rfl
theorem kx_n6 (h : KX dC dI cA adK adV P U) : va_Nw (.methodLinkNest RX4 36 yX8_valueAt "TurningFractions") U := h.2.1 6 (RX4, 36, yX8_valueAt, "TurningFractions") rfl
theorem kx_n7 (h : KX dC dI cA adK adV P U) : va_Nw (.methodLinkNest RX4 40 yX8_remainder "TurningFractions") U := h.2.1 7 (RX4, 40, yX8_remainder, "TurningFractions") rfl
theorem kx_n8 (h : KX dC dI cA adK adV P U) : va_Nw (.methodLinkNest RX4 44 yX8_quotient "TurningFractions") U := h.2.1 8 (RX4, 44, yX8_quotient, "TurningFractions") rfl
theorem kx_n9 (h : KX dC dI cA adK adV P U) : va_Nw (.methodLinkNest RX0 29 yX8_setAt "TurningFractions") U := h.2.1 9 (RX0, 29, yX8_setAt, "TurningFractions") rfl
theorem kx_n10 (h : KX dC dI cA adK adV P U) : va_Nw (.methodLinkNest RX7 30 yX8_valueAt "TurningFractions") U := h.2.1 10 (RX7, 30, yX8_valueAt, "TurningFractions") rfl
theorem kx_n11 (h : KX dC dI cA adK adV P U) : va_Nw (.methodLinkNest RX0 33 yX8_valueAt "TurningFractions") U := h.2.1 11 (RX0, 33, yX8_valueAt, "TurningFractions") rfl
theorem kx_n12 (h : KX dC dI cA adK adV P U) : va_Nw (.methodLinkNest RX0 87 yX8_isPrime "TurningFractions") U := h.2.1 12 (RX0, 87, yX8_isPrime, "TurningFractions") rfl
theorem kx_n13 (h : KX dC dI cA adK adV P U) : va_Nw (.methodLinkNest RX7 26 yX8_setAt "TurningFractions") U := h.2.1 13 (RX7, 26, yX8_setAt, "TurningFractions") rfl
theorem kx_n14 (h : KX dC dI cA adK adV P U) : va_Nw (.methodLinkNest RX7 47 yX8_isWithin "TurningFractions") U := h.2.1 14 (RX7, 47, yX8_isWithin, "TurningFractions") rfl
theorem kx_n15 (h : KX dC dI cA adK adV P U) : va_Nw (.methodLinkNest RX3 35 yX8_power "TurningFractions") U := h.2.1 15 (RX3, 35, yX8_power, "TurningFractions") rfl
theorem kx_n16 (h : KX dC dI cA adK adV P U) : va_Nw (.methodLinkNest RX5 50 yX8_setAt "TurningFractions") U := h.2.1 16 (RX5, 50, yX8_setAt, "TurningFractions") rfl
theorem kx_n17 (h : KX dC dI cA adK adV P U) : va_Nw (.methodLinkNest RX5 22 yX8_valueAt "TurningFractions") U := h.2.1 17 (RX5, 22, yX8_valueAt, "TurningFractions") rfl
theorem kx_n18 (h : KX dC dI cA adK adV P U) : va_Nw (.methodLinkNest RX2 33 yX8_setAt "TurningFractions") U := h.2.1 18 (RX2, 33, yX8_setAt, "TurningFractions") rfl
theorem kx_n19 (h : KX dC dI cA adK adV P U) : va_Nw (.methodLinkNest RX2 37 yX8_isWithin "TurningFractions") U := h.2.1 19 (RX2, 37, yX8_isWithin, "TurningFractions") rfl
theorem kx_n20 (h : KX dC dI cA adK adV P U) : va_Nw (.methodLinkNest RX2 45 yX8_valueAt "TurningFractions") U := h.2.1 20 (RX2, 45, yX8_valueAt, "TurningFractions") rfl
theorem kx_s0 (h : KX dC dI cA adK adV P U) : vk_R RX8 196 "not " (adK 0) U := h.2.2.1 0 (RX8, 196, "not ") rfl
theorem kx_s1 (h : KX dC dI cA adK adV P U) : vk_R RX0 48 "ends" (adK 1) U := h.2.2.1 1 (RX0, 48, "ends") rfl
theorem kx_s2 (h : KX dC dI cA adK adV P U) : vk_R RX0 50 "pure" (adK 2) U := h.2.2.1 2 (RX0, 50, "pure") rfl
theorem kx_s3 (h : KX dC dI cA adK adV P U) : vk_R RX0 52 "mixed" (adK 3) U := h.2.2.1 3 (RX0, 52, "mixed") rfl
theorem kx_s4 (h : KX dC dI cA adK adV P U) : vk_R RX0 54 "full" (adK 4) U := h.2.2.1 4 (RX0, 54, "full") rfl
theorem kx_s5 (h : KX dC dI cA adK adV P U) : vk_R RX0 56 "even" (adK 5) U := h.2.2.1 5 (RX0, 56, "even") rfl
theorem kx_s6 (h : KX dC dI cA adK adV P U) : vk_R RX0 58 "odd" (adK 6) U := h.2.2.1 6 (RX0, 58, "odd") rfl
theorem kx_s7 (h : KX dC dI cA adK adV P U) : vk_R RX0 60 "half" (adK 7) U := h.2.2.1 7 (RX0, 60, "half") rfl
theorem kx_s8 (h : KX dC dI cA adK adV P U) : vk_R RX0 62 "prime" (adK 8) U := h.2.2.1 8 (RX0, 62, "prime") rfl
theorem kx_s9 (h : KX dC dI cA adK adV P U) : vk_R RX5 73 "new" (adK 9) U := h.2.2.1 9 (RX5, 73, "new") rfl
theorem kx_s10 (h : KX dC dI cA adK adV P U) : vk_R RX5 75 "drop" (adK 10) U := h.2.2.1 10 (RX5, 75, "drop") rfl
theorem kx_s11 (h : KX dC dI cA adK adV P U) : vk_R RX5 77 "mul" (adK 11) U := h.2.2.1 11 (RX5, 77, "mul") rfl
theorem kx_s12 (h : KX dC dI cA adK adV P U) : vk_R RX5 79 "sum" (adK 12) U := h.2.2.1 12 (RX5, 79, "sum") rfl
theorem kx_s13 (h : KX dC dI cA adK adV P U) : vk_R RX5 81 "low" (adK 13) U := h.2.2.1 13 (RX5, 81, "low") rfl
end
