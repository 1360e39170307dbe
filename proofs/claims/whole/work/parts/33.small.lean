section EBSMALL
theorem eb_l64 {x y : Int32} : x.toInt64 < y.toInt64 ↔ x.toInt < y.toInt := by
  rw [Int64.lt_iff_toInt_lt, Int32.toInt_toInt64, Int32.toInt_toInt64]
theorem eb_l64a {x : Int32} {c : Int64} : x.toInt64 < c ↔ x.toInt < c.toInt := by
  rw [Int64.lt_iff_toInt_lt, Int32.toInt_toInt64]
theorem eb_l64b {x : Int32} {c : Int64} : c < x.toInt64 ↔ c.toInt < x.toInt := by
  rw [Int64.lt_iff_toInt_lt, Int32.toInt_toInt64]
theorem eb_i32 {x y : Int32} : x < y ↔ x.toInt < y.toInt := Int32.lt_iff_toInt_lt
theorem eb_i32e {x y : Int32} : x ≤ y ↔ x.toInt ≤ y.toInt := Int32.le_iff_toInt_le
theorem eb_z32 : (0 : Int32).toInt = 0 := by decide
theorem eb_z64 : (0 : Int64).toInt = 0 := by decide
theorem eb_tnc (x : Int32) : x.toNatClampNeg = x.toInt.toNat := rfl
theorem eb_va_ln {v : Nat} (k : eb_kd v = 9) (l : eb_ln v = 0) : eb_ln (v + 524420) = 4 ∧ eb_kd (v + 524420) = 13 ∧ eb_ln (v + 1049092) = 16 ∧ eb_kd (v + 1049092) = 13 := by
  unfold eb_kd eb_ln at *
  omega
theorem eb_ofn {x : Int32} (h : 0 ≤ x.toInt) : x = nI x.toInt.toNat := by
  have := Int32.toInt_lt x
  refine Int32.toInt_inj.mp ?_
  rw [nI_toInt (by omega)]
  omega
/-- a number behind an offset -/
theorem eb_off {x : Int32} {a N : Nat} (h : 0 ≤ x.toInt) (h2 : a + x.toInt.toNat < N) (hN : N < 2 ^ 31) : vp_in (nI a + x) N ∧ (nI a + x).toNatClampNeg = a + x.toInt.toNat := by
  have e : nI a + x = nI (a + x.toInt.toNat) := by
    rw [← nI_add, ← eb_ofn h]
  rw [e]
  refine ⟨vp_in_nI h2 hN, ?_⟩
  rw [eb_tnc, nI_toInt (by omega)]
  omega
variable {L : Nat} {xs : Nat → Int32}
/-- 4: fault -/
theorem c_fault (k : Nat) (h : eb_H) (v1 : Int32) (inv : eb_Inv L xs k h) : eb_Pr 98 189 [.int v1] (eb_Inv L xs (k + 1)) h := by
  have inv2 := inv.z0 (v := 0)
  obtain ⟨ko, eL, eX, w, b1, b2, b3, b4, b5, b6⟩ := inv
  have e13 : eb_I (eb_sI h s_MO 0 0) s_MO 13 = w.fault := b2.z0.fault
  have e14 : eb_I (eb_sI h s_MO 0 0) s_MO 14 = w.place := b2.z0.place
  refine T_X10_fault v1 ko ⟨fun c => ?_, fun c => ?_⟩
  · refine ⟨_, rfl, ko, rfl, rfl, T_X11_fault v1 ko ⟨?_, inv2⟩⟩
    rw [e13, e14, b1.place, if_neg c]
  · refine ⟨_, rfl, ko, rfl, rfl, T_X11_fault v1 ko ⟨?_, inv2⟩⟩
    rw [e13, b1.fault, if_pos c]
/-- 43: count -/
def eb_cnt (w : eb_Wo) (v : Int32) : Int32 := if v = 0 then w.va.rows else if v = 1 then w.va.cols else if v = 2 then w.va.bears else if v = 3 then w.now.bat else if v = 4 then w.now.echoes else if v = 5 then w.now.drifts else if v = 6 then w.now.wind else if v = 7 then nI w.va.houses else if v = 8 then w.now.steps else if v = 9 then nI w.past.length else if v = 10 then nI w.fed else if v = 11 then w.va.lines else -1
theorem c_count (k : Nat) (h : eb_H) (v1 : Int32) (inv : eb_Inv L xs k h) : eb_Pr 138 282 [.int v1] (eb_Inv L xs (k + 1)) h := by
  have inv2 := inv.z0 (v := 0)
  obtain ⟨ko, eL, eX, w, b1, b2, b3, b4, b5, b6⟩ := inv
  have m := b2.z0 (v := 0)
  obtain ⟨v, ev, pv⟩ := b1.va
  obtain ⟨p0, p1, p2, p3, p4, p5, p6, p7, p8, p9⟩ := pv
  obtain ⟨z1, z2, z3, z4, z5, z6, z7, z8, z9⟩ := m.va
  obtain ⟨s1, s2, s3, s4, s5, s6, s7⟩ := b1.now
  obtain ⟨n1, n2, n3, n4, n5, n6⟩ := m.now
  have M : eb_Ct 1299 282 [.ref s_MO, .int v1] h (fun r2 h2 => r2 = some (.int (eb_cnt w v1)) ∧ eb_Inv L xs (k + 1) h2) := by
    refine T_X11_count v1 ko ⟨fun c => ⟨?_, inv2⟩, fun c => ⟨?_, inv2⟩, fun c => ⟨?_, inv2⟩, fun c => ⟨?_, inv2⟩, fun c => ⟨?_, inv2⟩, fun c => ⟨?_, inv2⟩, fun c => ⟨?_, inv2⟩, fun c => ⟨?_, inv2⟩, fun c => ⟨?_, inv2⟩, fun c => ⟨?_, inv2⟩, fun c => ⟨?_, inv2⟩, fun c => ⟨?_, inv2⟩, fun c0 c1 c2 c3 c4 c5 c6 c7 c8 c9 c10 c11 => ⟨?_, inv2⟩⟩
    · rw [c]; exact congrArg (fun y => some (Value.int y)) z2
    · rw [c]; exact congrArg (fun y => some (Value.int y)) z3
    · rw [c]; exact congrArg (fun y => some (Value.int y)) z4
    · rw [c]; exact congrArg (fun y => some (Value.int y)) n1
    · rw [c]; exact congrArg (fun y => some (Value.int y)) n2
    · rw [c]; exact congrArg (fun y => some (Value.int y)) n5
    · rw [c]; exact congrArg (fun y => some (Value.int y)) n6
    · rw [c]; exact congrArg (fun y => some (Value.int y)) z5
    · rw [c]; exact congrArg (fun y => some (Value.int y)) n3
    · rw [c]; exact congrArg (fun y => some (Value.int y)) m.size
    · rw [c]; exact congrArg (fun y => some (Value.int y)) m.fed
    · rw [c]; exact congrArg (fun y => some (Value.int y)) z1
    · simp only [eb_cnt, c0, c1, c2, c3, c4, c5, c6, c7, c8, c9, c10, c11, if_false]
  refine T_X10_count v1 ko ⟨fun c => ⟨v, ev, p0.1, _, ?_, ko, rfl, rfl, M⟩, fun c => ⟨v, ev, p0.1, _, ?_, ko, rfl, rfl, M⟩, fun c => ⟨v, ev, p0.1, _, ?_, ko, rfl, rfl, M⟩, fun c => ⟨_, ?_, ko, rfl, rfl, M⟩, fun c => ⟨_, ?_, ko, rfl, rfl, M⟩, fun c => ⟨_, ?_, ko, rfl, rfl, M⟩, fun c => ⟨_, ?_, ko, rfl, rfl, M⟩, fun c => ⟨v, ev, p0.1, _, ?_, ko, rfl, rfl, M⟩, fun c => ⟨_, ?_, ko, rfl, rfl, M⟩, fun c => ⟨_, ?_, ko, rfl, rfl, M⟩, fun c => ⟨_, ?_, ko, rfl, rfl, M⟩, fun c => ⟨v, ev, p0.1, _, ?_, ko, rfl, rfl, M⟩, fun c0 c1 c2 c3 c4 c5 c6 c7 c8 c9 c10 c11 => ⟨_, ?_, ko, rfl, rfl, M⟩⟩
  · rw [c]; exact congrArg (fun y => some (Value.int y)) p1
  · rw [c]; exact congrArg (fun y => some (Value.int y)) p2
  · rw [c]; exact congrArg (fun y => some (Value.int y)) p3
  · rw [c]; exact congrArg (fun y => some (Value.int y)) s1
  · rw [c]; exact congrArg (fun y => some (Value.int y)) s2
  · rw [c]; exact congrArg (fun y => some (Value.int y)) s4
  · rw [c]; exact congrArg (fun y => some (Value.int y)) s5
  · rw [c]; exact congrArg (fun y => some (Value.int y)) p5
  · rw [c]; exact congrArg (fun y => some (Value.int y)) s3
  · rw [c]; exact congrArg (fun y => some (Value.int y)) b1.size
  · rw [c]; exact congrArg (fun y => some (Value.int y)) b1.fed
  · rw [c]; exact congrArg (fun y => some (Value.int y)) p4
  · simp only [eb_cnt, c0, c1, c2, c3, c4, c5, c6, c7, c8, c9, c10, c11, if_false]
/-- 6: house -/
theorem c_house (k : Nat) (h : eb_H) (v1 : Int32) (inv : eb_Inv L xs k h) : eb_Pr 100 202 [.int v1] (eb_Inv L xs (k + 1)) h := by
  have inv2 := inv.z0 (v := 0)
  obtain ⟨ko, eL, eX, w, b1, b2, b3, b4, b5, b6⟩ := inv
  have m := b2.z0 (v := 0)
  obtain ⟨v, ev, pv⟩ := b1.va
  obtain ⟨p0, p1, p2, p3, p4, p5, p6, p7, p8, p9⟩ := pv
  obtain ⟨z1, z2, z3, z4, z5, z6, z7, z8, z9⟩ := m.va
  obtain ⟨l1, l2, l3, l4⟩ := eb_va_ln p0.1 p0.2.1
  have hh := b3.va.houses
  have e5 : (eb_I h v 4).toInt = (w.va.houses : Int) := by rw [p5, nI_toInt (by omega)]
  have e4 : ((eb_I (eb_sI h s_MO 0 0) s_m_all (4 : Int32).toNatClampNeg) - 1).toInt = (w.va.houses : Int) - 1 := by
    have q : eb_I (eb_sI h s_MO 0 0) s_m_all (4 : Int32).toNatClampNeg = nI w.va.houses := z5
    rw [q]
    exact pk_sub_toInt (a := w.va.houses) (b := 1) (by omega) (by omega)
  have M : ∀ y : Int32, y = (if 0 ≤ v1.toInt ∧ v1.toInt < w.va.houses then w.va.hc v1.toInt.toNat else -2) → eb_Ct 1299 202 [.ref s_MO, .int v1] h (fun r2 h2 => r2 = some (.int y) ∧ eb_Inv L xs (k + 1) h2) := by
    intro y ey
    refine T_X11_house (d := 1297) v1 ko ⟨fun c => ⟨?_, inv2⟩, fun c => ?_⟩
    · rw [eb_l64a, eb_l64, e4, eb_z64] at c
      rw [ey, if_neg (by omega)]
    · rw [eb_l64a, eb_l64, e4, eb_z64] at c
      have o := eb_off (x := v1) (a := 27) (N := 3492) (by omega) (by omega) (by omega)
      refine ⟨o.1, ?_, inv2⟩
      have o2 : ((27 : Int32) + v1).toNatClampNeg = 27 + v1.toInt.toNat := o.2
      rw [o2, ey, if_pos (by omega)]
      have q := z9 v1.toInt.toNat (by omega)
      rw [Nat.zero_add] at q
      rw [q]
  refine T_X10_house (d := 1298) v1 ko ⟨v, ev, p0.1, fun c => ?_, fun c => ⟨fun c2 => absurd c2 c.1, fun c2 => ⟨_, p6.1, l2, fun c3 => ?_, fun c3 => ⟨?_, ?_⟩⟩⟩⟩
  · rw [eb_i32, eb_i32e, e5, eb_z32] at c
    exact ⟨_, rfl, ko, rfl, rfl, M _ (by rw [if_neg (by omega)])⟩
  · exfalso
    rw [l1, eb_i32e, show (Int32.ofNat 4).toInt = 4 by decide] at c3
    rw [eb_i32, eb_i32e, e5, eb_z32] at c
    omega
  · rw [eb_i32, eb_i32e, e5, eb_z32] at c
    rw [l1, vp_in_iff]
    omega
  · rw [eb_i32, eb_i32e, e5, eb_z32] at c
    refine ⟨_, rfl, ko, rfl, rfl, M _ ?_⟩
    rw [if_pos (by omega), eb_tnc]
    exact p6.2 _ (by omega)
end EBSMALL
