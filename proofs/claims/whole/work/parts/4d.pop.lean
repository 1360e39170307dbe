section EBPOP2
variable {L : Nat} {xs : Nat → Int32}
theorem ec_dv {a K r d : Nat} (h : a = d * K + r) (hr : r < d) : a / d = K := by
  rw [h, Nat.mul_add_div (by omega), Nat.div_eq_of_lt hr, Nat.add_zero]
theorem ec_T2 (p0 p1 p2 p3 p4 p5 p6 p7 : Nat) : 256 * (256 * (256 * (256 * (256 * (256 * (256 * p7 + p6) + p5) + p4) + p3) + p2) + p1) + p0 + (256 * (256 * (256 * (256 * (256 * (256 * p7 + p6) + p5) + p4) + p3) + p2) + p1) = 2 ^ 16 * (256 * (256 * (256 * (256 * (256 * p7 + (p6 + p7)) + (p5 + p6)) + (p4 + p5)) + (p3 + p4)) + (p2 + p3)) + (256 * (p1 + p2) + (p0 + p1)) := by omega
theorem ec_T3 (p0 p1 p2 p3 p4 p5 p6 p7 : Nat) : 256 * (256 * (256 * (256 * (256 * (256 * (256 * p7 + p6) + p5) + p4) + p3) + p2) + p1) + p0 + (256 * (256 * (256 * (256 * (256 * (256 * p7 + p6) + p5) + p4) + p3) + p2) + p1) + (256 * (256 * (256 * (256 * (256 * p7 + (p6 + p7)) + (p5 + p6)) + (p4 + p5)) + (p3 + p4)) + (p2 + p3)) = 2 ^ 32 * (256 * (256 * (256 * p7 + (p6 + p7)) + (p5 + p6 + p7)) + (p4 + p5 + p6 + p7)) + (16777216 * (p3 + p4 + p5 + p6) + 65536 * (p2 + p3 + p4 + p5) + 256 * (p1 + p2 + p3 + p4) + (p0 + p1 + p2 + p3)) := by omega
theorem ec_T4 (p0 p1 p2 p3 p4 p5 p6 p7 : Nat) : 256 * (256 * (256 * (256 * (256 * (256 * (256 * p7 + p6) + p5) + p4) + p3) + p2) + p1) + p0 + (256 * (256 * (256 * (256 * (256 * (256 * p7 + p6) + p5) + p4) + p3) + p2) + p1) + (256 * (256 * (256 * (256 * (256 * p7 + (p6 + p7)) + (p5 + p6)) + (p4 + p5)) + (p3 + p4)) + (p2 + p3)) + (256 * (256 * (256 * p7 + (p6 + p7)) + (p5 + p6 + p7)) + (p4 + p5 + p6 + p7)) = 2 ^ 7 * (2 * p1 + 514 * p2 + 131586 * p3 + 33686018 * p4 + 8623620610 * p5 + 2207646876162 * p6 + 565157600297474 * p7) + (p0 + p1 + p2 + p3 + p4 + p5 + p6 + p7) := by omega
theorem ec_bcn {d : Nat} {h : eb_H} {Q : Option Value → eb_H → Prop} (x : Nat) (hx : x < 2 ^ 64) (ko : eb_KO h) (w : Q (some (.int (nI (ec_cnt (fun j => x.testBit j) 64 0)))) h) : eb_Ct d 284 [.long (lN x)] h Q := by
  obtain ⟨p0, p1, p2, p3, p4, p5, p6, p7, h0, h1, h2, h3, h4, h5, h6, h7, ey, ec⟩ := ec_pop hx
  have rA : ec_rep 85 8 = 6148914691236517205 := by decide
  have rB : ec_rep 51 8 = 3689348814741910323 := by decide
  have rC : ec_rep 15 8 = 1085102592571150095 := by decide
  have shr : ∀ (n k : Nat), n < 2 ^ 64 → k < 64 → ((lN n).toUInt64 >>> ((nI k).toInt64.toUInt64 &&& Int64.toUInt64 63)).toInt64 = lN (n / 2 ^ k) := fun n k a b => wb_shr a b
  have c1 : (x / 2 ^ 1) &&& 6148914691236517205 ≤ x := Nat.le_trans Nat.and_le_left (Nat.div_le_self _ _)
  have s1 : ((lN x).toUInt64 >>> ((1 : Int32).toInt64.toUInt64 &&& Int64.toUInt64 63)).toInt64 = lN (x / 2 ^ 1) := shr x 1 hx (by decide)
  have a1 : lN (x / 2 ^ 1) &&& 6148914691236517205 = lN ((x / 2 ^ 1) &&& 6148914691236517205) := wb_and (Nat.lt_of_le_of_lt (Nat.div_le_self _ _) hx) (by decide)
  have d1 : lN x - lN ((x / 2 ^ 1) &&& 6148914691236517205) = lN (ec_pA 8 x) := by
    rw [lN_sub c1]
    unfold ec_pA
    rw [rA]
  have lA : ec_pA 8 x < 2 ^ 64 := by unfold ec_pA; omega
  have s2 : ((lN (ec_pA 8 x)).toUInt64 >>> ((2 : Int32).toInt64.toUInt64 &&& Int64.toUInt64 63)).toInt64 = lN (ec_pA 8 x / 2 ^ 2) := shr _ 2 lA (by decide)
  have a2 : lN (ec_pA 8 x / 2 ^ 2) &&& 3689348814741910323 = lN ((ec_pA 8 x / 2 ^ 2) &&& 3689348814741910323) := wb_and (Nat.lt_of_le_of_lt (Nat.div_le_self _ _) lA) (by decide)
  have a3 : lN (ec_pA 8 x) &&& 3689348814741910323 = lN (ec_pA 8 x &&& 3689348814741910323) := wb_and lA (by decide)
  have d2 : lN (ec_pA 8 x &&& 3689348814741910323) + lN ((ec_pA 8 x / 2 ^ 2) &&& 3689348814741910323) = lN (ec_dg 8 x) := by
    rw [lN_add]
    unfold ec_dg ec_pB
    rw [rB]
  have lB : ec_dg 8 x < 2 ^ 63 := by
    unfold ec_dg ec_pB
    rw [rB]
    have u1 : ec_pA 8 x &&& 3689348814741910323 ≤ 3689348814741910323 := Nat.and_le_right
    have u2 : (ec_pA 8 x / 2 ^ 2) &&& 3689348814741910323 ≤ 3689348814741910323 := Nat.and_le_right
    omega
  have s3 : ((lN (ec_dg 8 x)).toUInt64 >>> ((4 : Int32).toInt64.toUInt64 &&& Int64.toUInt64 63)).toInt64 = lN (ec_dg 8 x / 2 ^ 4) := shr _ 4 (by omega) (by decide)
  have d3 : (lN (ec_dg 8 x) + lN (ec_dg 8 x / 2 ^ 4)) &&& 1085102592571150095 = lN (ec_pC 8 (ec_dg 8 x)) := by
    rw [lN_add]
    have : lN (ec_dg 8 x + ec_dg 8 x / 2 ^ 4) &&& lN 1085102592571150095 = lN ((ec_dg 8 x + ec_dg 8 x / 2 ^ 4) &&& 1085102592571150095) := wb_and (by have := Nat.div_le_self (ec_dg 8 x) (2 ^ 4); omega) (by decide)
    unfold ec_pC
    rw [rC]
    exact this
  generalize hY : ec_pC 8 (ec_dg 8 x) = Y at *
  have lY : Y < 2 ^ 60 := by omega
  have s4 : ((lN Y).toUInt64 >>> ((8 : Int32).toInt64.toUInt64 &&& Int64.toUInt64 63)).toInt64 = lN (Y / 2 ^ 8) := shr _ 8 (by omega) (by decide)
  have s5 : ((lN (Y + Y / 2 ^ 8)).toUInt64 >>> ((16 : Int32).toInt64.toUInt64 &&& Int64.toUInt64 63)).toInt64 = lN ((Y + Y / 2 ^ 8) / 2 ^ 16) := shr _ 16 (by omega) (by decide)
  have s6 : ((lN (Y + Y / 2 ^ 8 + (Y + Y / 2 ^ 8) / 2 ^ 16)).toUInt64 >>> ((32 : Int32).toInt64.toUInt64 &&& Int64.toUInt64 63)).toInt64 = lN ((Y + Y / 2 ^ 8 + (Y + Y / 2 ^ 8) / 2 ^ 16) / 2 ^ 32) := shr _ 32 (by omega) (by decide)
  refine T_J13_bitCount_95d88 (lN x) ko ?_
  rw [s1, a1, d1, s2, a2, a3, d2, s3, d3, s4, lN_add, s5, lN_add, s6, lN_add, lN_i]
  rw [pk_and _ 7 (by decide)]
  have e : (nI (Y + Y / 2 ^ 8 + (Y + Y / 2 ^ 8) / 2 ^ 16 + (Y + Y / 2 ^ 8 + (Y + Y / 2 ^ 8) / 2 ^ 16) / 2 ^ 32)).toBitVec.toNat % 2 ^ 7 = ec_cnt (fun j => x.testBit j) 64 0 := by
    show (BitVec.ofNat 32 _).toNat % 2 ^ 7 = _
    rw [BitVec.toNat_ofNat, ec]
    clear s1 a1 d1 s2 a2 a3 d2 s3 d3 s4 s5 s6 shr lA lB c1 hx hY
    have y1 : Y / 2 ^ 8 = 256 * (256 * (256 * (256 * (256 * (256 * p7 + p6) + p5) + p4) + p3) + p2) + p1 := ec_dv (r := p0) (by rw [ey]) (by omega)
    rw [y1]
    have y2 : (Y + (256 * (256 * (256 * (256 * (256 * (256 * p7 + p6) + p5) + p4) + p3) + p2) + p1)) / 2 ^ 16 = 256 * (256 * (256 * (256 * (256 * p7 + (p6 + p7)) + (p5 + p6)) + (p4 + p5)) + (p3 + p4)) + (p2 + p3) := ec_dv (r := 256 * (p1 + p2) + (p0 + p1)) (by rw [ey]; exact ec_T2 p0 p1 p2 p3 p4 p5 p6 p7) (by clear ey y1 ec; omega)
    rw [y2]
    have y3 : (Y + (256 * (256 * (256 * (256 * (256 * (256 * p7 + p6) + p5) + p4) + p3) + p2) + p1) + (256 * (256 * (256 * (256 * (256 * p7 + (p6 + p7)) + (p5 + p6)) + (p4 + p5)) + (p3 + p4)) + (p2 + p3))) / 2 ^ 32 = 256 * (256 * (256 * p7 + (p6 + p7)) + (p5 + p6 + p7)) + (p4 + p5 + p6 + p7) := ec_dv (r := 16777216 * (p3 + p4 + p5 + p6) + 65536 * (p2 + p3 + p4 + p5) + 256 * (p1 + p2 + p3 + p4) + (p0 + p1 + p2 + p3)) (by rw [ey]; exact ec_T3 p0 p1 p2 p3 p4 p5 p6 p7) (by clear ey y1 y2 ec; omega)
    rw [y3, Nat.mod_mod_of_dvd _ (show 2 ^ 7 ∣ 2 ^ 32 by decide), ey, ec_T4 p0 p1 p2 p3 p4 p5 p6 p7]
    rw [Nat.mul_add_mod, Nat.mod_eq_of_lt (by clear ey y1 y2 y3 ec; omega)]
  rw [e]
  exact w
end EBPOP2
