theorem b_X10_write_0 {d : Nat} {h0 h : eb_H} {Q : Option Value → eb_H → Prop} (x1 : Int32) (x2 : Int32) (x3 : Int64)  (ko : eb_KO h) (w : ((¬ ((x1 < 0) ∨ (¬ (x1 < (4 : Int32)))) → (vp_in x1 4) ∧ ∃ r5, eb_R h s_trays x1.toNatClampNeg = some r5 ∧ (eb_kd r5 = 8) ∧ (((eb_I h r5 2) = 0 → ((x2 < 0 → Q (some (.long (-7))) h) ∧ (¬ (x2 < 0) → ((x2 < (eb_I h r5 3) → eb_Ct d 77 [.ref r5, .int x2, .long x3] h (fun r h11 => r = none ∧ eb_KO h11 ∧ ∃ r14, eb_R h11 r5 0 = some r14 ∧ eb_kd r14 = 14 ∧ (((Int32.ofNat (eb_ln r14)) ≤ x2 → Q (some (.long 0)) h11) ∧ (¬ ((Int32.ofNat (eb_ln r14)) ≤ x2) → (vp_in x2 (eb_ln r14)) ∧ Q (some (.long (eb_J h11 r14 x2.toNatClampNeg))) h11)))) ∧ (¬ (x2 < (eb_I h r5 3)) → Q (some (.long (-7))) h))))) ∧ (¬ ((eb_I h r5 2) = 0) → Q (some (.long (-6))) h))) ∧ ((x1 < 0) ∨ (¬ (x1 < (4 : Int32))) → Q (some (.long (-2))) h))) : eb_Sn (d + 1) m_X10_write h0 0 [(0, .ref s_EB), (1, .int x1), (2, .int x2), (3, .long x3)] [] h Q := by
  refine eb_iload_n (pc := 0) (n := 1) (i := 1) rfl rfl rfl ?_
  refine eb_joinI (pc2 := 4) (ls2 := [(0, .ref s_EB), (1, .int x1), (2, .int x2), (3, .long x3)]) (st2 := []) (v := eb_q ((x1 < 0) ∨ (¬ (x1 < (4 : Int32))))) ?_ (fun jj19 => ?_)
  · refine eb_if_eq (pc := 4) (tgt := 11) rfl (by decide) (fun c3 => ?_) (fun c3 => ?_)
    · replace c3 := eb_q0.mp c3
      replace w := w.1 c3
      refine eb_aload_n (pc := 11) (n := 0) (i := 0) rfl rfl rfl ?_
      refine eb_getR (pc := 12) rfl rfl (by decide) (by decide) rfl (ko_s_EB_9 ko) ?_
      refine eb_iload_n (pc := 15) (n := 1) (i := 1) rfl rfl rfl ?_
      obtain ⟨c4, w⟩ := w
      obtain ⟨r5, q6, w⟩ := w
      refine eb_aaloadR (pc := 16) rfl rfl (by decide) (by decide) c4 q6 ?_
      refine eb_astore (pc := 17) (i := 5) (ls2 := [(5, .ref r5), (0, .ref s_EB), (1, .int x1), (2, .int x2), (3, .long x3)]) (Nat.le_of_ble_eq_true rfl) rfl rfl ?_
      refine eb_aload (pc := 19) (i := 5) rfl rfl ?_
      obtain ⟨k7, w⟩ := w
      refine eb_getI (pc := 21) rfl k7 (by decide) (by decide) rfl ?_
      refine eb_if_eq (pc := 24) (tgt := 31) rfl (by decide) (fun c8 => ?_) (fun c8 => ?_)
      · replace w := w.1 c8
        refine eb_iload_n (pc := 31) (n := 2) (i := 2) rfl rfl rfl ?_
        refine eb_if_lt (pc := 32) (tgt := 44) rfl (by decide) (fun c9 => ?_) (fun c9 => ?_)
        · replace w := w.1 c9
          refine eb_ldc2 (pc := 44) (a := 18446744073709551609) (v := (-7)) rfl (by decide) ?_
          exact eb_lreturn (pc := 47) rfl rfl w
        · replace w := w.2 c9
          refine eb_iload_n (pc := 35) (n := 2) (i := 2) rfl rfl rfl ?_
          refine eb_aload (pc := 36) (i := 5) rfl rfl ?_
          refine eb_getI (pc := 38) rfl k7 (by decide) (by decide) rfl ?_
          refine eb_icmp_lt (pc := 41) (tgt := 48) rfl (by decide) (fun c10 => ?_) (fun c10 => ?_)
          · replace w := w.1 c10
            refine eb_aload (pc := 48) (i := 5) rfl rfl ?_
            refine eb_iload_n (pc := 50) (n := 2) (i := 2) rfl rfl rfl ?_
            refine eb_lload_n (pc := 51) (n := 3) (i := 3) rfl rfl rfl ?_
            refine eb_ctV (pc := 52) (As := [.int x2, .long x3]) (rest := []) rfl (by decide) rfl k7 (by decide) rfl (Nat.le_of_ble_eq_true rfl) ?_
            refine eb_Ct.mono w ?_
            rintro r h11 ⟨rfl, ko13, w⟩
            change eb_Sn _ _ _ 55 _ [] _ _
            refine eb_aload (pc := 55) (i := 5) rfl rfl ?_
            refine eb_iload_n (pc := 57) (n := 2) (i := 2) rfl rfl rfl ?_
            refine eb_ctV (pc := 58) (As := [.int x2]) (rest := []) rfl (by decide) rfl k7 (by decide) rfl (Nat.le_of_ble_eq_true rfl) ?_
            refine eb_bodyQ (by decide) ok_X8_numberAt (Nat.le_of_ble_eq_true rfl) ?_
            change eb_Sn _ m_X8_numberAt _ 0 [(0, .ref r5), (1, .int x2)] [] _ _
            refine eb_iload_n (pc := 0) (n := 1) (i := 1) rfl rfl rfl ?_
            refine eb_if_lt (pc := 1) (tgt := 22) rfl (by decide) (fun c => by have c9 := c; contradiction) (fun _ => ?_)
            refine eb_iload_n (pc := 4) (n := 1) (i := 1) rfl rfl rfl ?_
            refine eb_aload_n (pc := 5) (n := 0) (i := 0) rfl rfl rfl ?_
            obtain ⟨r14, q15, k16, w⟩ := w
            refine eb_getR (pc := 6) rfl k7 (by decide) (by decide) rfl q15 ?_
            refine eb_alen (pc := 9) rfl (by rw [k16]; decide) (by rw [k16]; decide) rfl ?_
            refine eb_icmp_ge (pc := 10) (tgt := 22) rfl (by decide) (fun c17 => ?_) (fun c17 => ?_)
            · replace w := w.1 c17
              refine eb_lconst (pc := 22) (n := 0) (v := 0) rfl rfl ?_
              refine eb_lreturn (pc := 23) rfl rfl ?_
              change eb_Sn _ _ _ 61 _ [.long 0] _ _
              exact eb_lreturn (pc := 61) rfl rfl w
            · replace w := w.2 c17
              refine eb_aload_n (pc := 13) (n := 0) (i := 0) rfl rfl rfl ?_
              refine eb_getR (pc := 14) rfl k7 (by decide) (by decide) rfl q15 ?_
              refine eb_iload_n (pc := 17) (n := 1) (i := 1) rfl rfl rfl ?_
              obtain ⟨c18, w⟩ := w
              refine eb_laload (pc := 18) rfl k16 c18 ?_
              refine eb_goto (pc := 19) (tgt := 23) rfl (by decide) ?_
              refine eb_lreturn (pc := 23) rfl rfl ?_
              change eb_Sn _ _ _ 61 _ [.long (eb_J h11 r14 x2.toNatClampNeg)] _ _
              exact eb_lreturn (pc := 61) rfl rfl w
          · replace w := w.2 c10
            refine eb_ldc2 (pc := 44) (a := 18446744073709551609) (v := (-7)) rfl (by decide) ?_
            exact eb_lreturn (pc := 47) rfl rfl w
      · replace w := w.2 c8
        refine eb_ldc2 (pc := 27) (a := 18446744073709551610) (v := (-6)) rfl (by decide) ?_
        exact eb_lreturn (pc := 30) rfl rfl w
    · replace c3 := eb_q1.mp c3
      replace w := w.2 c3
      refine eb_ldc2 (pc := 7) (a := 18446744073709551614) (v := (-2)) rfl (by decide) ?_
      exact eb_lreturn (pc := 10) rfl rfl w
  refine eb_ctS (pc := 1) (As := [.int x1]) (rest := []) rfl (by decide) (by decide) rfl rfl (Nat.le_of_ble_eq_true rfl) ?_
  refine eb_bodyQ (by decide) ok_X10_noTray (Nat.le_of_ble_eq_true rfl) ?_
  change eb_Sn _ m_X10_noTray _ 0 [(0, .int x1)] [] _ _
  refine eb_iload_n (pc := 0) (n := 0) (i := 0) rfl rfl rfl ?_
  refine eb_if_lt (pc := 1) (tgt := 9) rfl (by decide) (fun c1 => ?_) (fun c1 => ?_)
  · refine eb_iconst (pc := 9) (n := 1) (v := 1) rfl rfl ?_
    refine eb_goto (pc := 10) (tgt := 14) rfl (by decide) ?_
    refine eb_ireturn (pc := 14) rfl rfl (by decide) ?_
    change eb_Sn _ _ _ 4 _ _ _ _
    exact jj19 1 (eb_qt (Or.inl c1)).symm
  · refine eb_iload_n (pc := 4) (n := 0) (i := 0) rfl rfl rfl ?_
    refine eb_iconst (pc := 5) (n := 4) (v := 4) rfl rfl ?_
    refine eb_icmp_lt (pc := 6) (tgt := 13) rfl (by decide) (fun c2 => ?_) (fun c2 => ?_)
    · refine eb_iconst (pc := 13) (n := 0) (v := 0) rfl rfl ?_
      refine eb_ireturn (pc := 14) rfl rfl (by decide) ?_
      change eb_Sn _ _ _ 4 _ _ _ _
      exact jj19 0 (eb_qf (fun z => z.elim c1 (fun z => z c2))).symm
    · refine eb_iconst (pc := 9) (n := 1) (v := 1) rfl rfl ?_
      refine eb_goto (pc := 10) (tgt := 14) rfl (by decide) ?_
      refine eb_ireturn (pc := 14) rfl rfl (by decide) ?_
      change eb_Sn _ _ _ 4 _ _ _ _
      exact jj19 1 (eb_qt (Or.inr c2)).symm
theorem T_X10_write {d : Nat} {h : eb_H} {Q : Option Value → eb_H → Prop} (x1 : Int32) (x2 : Int32) (x3 : Int64)  (ko : eb_KO h) (w : ((¬ ((x1 < 0) ∨ (¬ (x1 < (4 : Int32)))) → (vp_in x1 4) ∧ ∃ r5, eb_R h s_trays x1.toNatClampNeg = some r5 ∧ (eb_kd r5 = 8) ∧ (((eb_I h r5 2) = 0 → ((x2 < 0 → Q (some (.long (-7))) h) ∧ (¬ (x2 < 0) → ((x2 < (eb_I h r5 3) → eb_Ct d 77 [.ref r5, .int x2, .long x3] h (fun r h11 => r = none ∧ eb_KO h11 ∧ ∃ r14, eb_R h11 r5 0 = some r14 ∧ eb_kd r14 = 14 ∧ (((Int32.ofNat (eb_ln r14)) ≤ x2 → Q (some (.long 0)) h11) ∧ (¬ ((Int32.ofNat (eb_ln r14)) ≤ x2) → (vp_in x2 (eb_ln r14)) ∧ Q (some (.long (eb_J h11 r14 x2.toNatClampNeg))) h11)))) ∧ (¬ (x2 < (eb_I h r5 3)) → Q (some (.long (-7))) h))))) ∧ (¬ ((eb_I h r5 2) = 0) → Q (some (.long (-6))) h))) ∧ ((x1 < 0) ∨ (¬ (x1 < (4 : Int32))) → Q (some (.long (-2))) h))) : eb_Ct (d + 1) 134 [.ref s_EB, .int x1, .int x2, .long x3] h Q :=
  eb_bodyQ (by decide) ok_X10_write (Nat.le_of_ble_eq_true rfl) (b_X10_write_0 (h0 := h) x1 x2 x3  ko w)
theorem b_X10_lists_0 {d : Nat} {h0 h : eb_H} {Q : Option Value → eb_H → Prop} (x1 : Int32) (x2 : Int32) (x3 : Int32) (x4 : Int32)  (ko : eb_KO h) (w : (((x1 < 0) ∨ (¬ (x1 < (4 : Int32))) → Q (some (.int (-2))) h) ∧ (¬ ((x1 < 0) ∨ (¬ (x1 < (4 : Int32)))) → ∃ r4, eb_R h s_EB 2 = some r4 ∧ eb_kd r4 = 9 ∧ (((¬ (x2 < 0)) ∧ (¬ (((eb_I h r4 0) * (eb_I h r4 1)) ≤ x2)) → (vp_in x1 4) ∧ ∃ r11, eb_R h s_trays x1.toNatClampNeg = some r11 ∧ (eb_kd r11 = 8) ∧ (((eb_I h r11 2) = 0 → eb_Ct d 144 [.int x3, .int x4] h (fun r h15 => ∃ y16, r = some (.int y16) ∧ eb_KO h15 ∧ ((y16 = 0 → ∃ r19, eb_R h15 s_EB 2 = some r19 ∧ eb_kd r19 = 9 ∧ eb_Ct d 8 [.ref s_flights, .ref r19, .ref s_now] h15 (fun r h22 => r = none ∧ eb_KO h22 ∧ eb_Ct d 12 [.ref s_flights, .int x2, .int x3, .int x4] h22 (fun r h25 => ∃ y26, r = some (.int y26) ∧ eb_KO h25 ∧ ((¬ y26 = ((-1) : Int32) → eb_Sn (d + 1) m_X10_lists h0 104 [(0, .ref s_EB), (5, .ref r11), (7, .int (if (eb_I h25 r11 3) < y26 then eb_I h25 r11 3 else y26 : Int32)), (8, .int 0)] [] h25 Q) ∧ (y26 = ((-1) : Int32) → Q (some (.int (-5))) h25))))) ∧ (¬ (y16 = 0) → Q (some (.int (-3))) h15)))) ∧ (¬ ((eb_I h r11 2) = 0) → Q (some (.int (-6))) h))) ∧ (¬ ((¬ (x2 < 0)) ∧ (¬ (((eb_I h r4 0) * (eb_I h r4 1)) ≤ x2))) → Q (some (.int (-2))) h))))) : eb_Sn (d + 1) m_X10_lists h0 0 [(0, .ref s_EB), (1, .int x1), (2, .int x2), (3, .int x3), (4, .int x4)] [] h Q := by
  refine eb_iload_n (pc := 0) (n := 1) (i := 1) rfl rfl rfl ?_
  refine eb_joinI (pc2 := 4) (ls2 := [(0, .ref s_EB), (1, .int x1), (2, .int x2), (3, .int x3), (4, .int x4)]) (st2 := []) (v := eb_q ((x1 < 0) ∨ (¬ (x1 < (4 : Int32))))) ?_ (fun jj34 => ?_)
  · refine eb_if_ne (pc := 4) (tgt := 18) rfl (by decide) (fun c3 => ?_) (fun c3 => ?_)
    · replace c3 := eb_q1.mp c3
      replace w := w.1 c3
      refine eb_bipush (pc := 18) (n := -2) (v := (-2)) rfl rfl ?_
      exact eb_ireturn (pc := 20) rfl rfl rfl w
    · replace c3 := eb_q0.mp c3
      replace w := w.2 c3
      refine eb_aload_n (pc := 7) (n := 0) (i := 0) rfl rfl rfl ?_
      obtain ⟨r4, q5, k6, w⟩ := w
      refine eb_getR (pc := 8) rfl rfl (by decide) (by decide) rfl q5 ?_
      refine eb_iload_n (pc := 11) (n := 2) (i := 2) rfl rfl rfl ?_
      refine eb_joinI (pc2 := 15) (ls2 := [(0, .ref s_EB), (1, .int x1), (2, .int x2), (3, .int x3), (4, .int x4)]) (st2 := []) (v := eb_q ((¬ (x2 < 0)) ∧ (¬ (((eb_I h r4 0) * (eb_I h r4 1)) ≤ x2)))) ?_ (fun jj32 => ?_)
      · refine eb_if_ne (pc := 15) (tgt := 21) rfl (by decide) (fun c9 => ?_) (fun c9 => ?_)
        · replace c9 := eb_q1.mp c9
          replace w := w.1 c9
          refine eb_aload_n (pc := 21) (n := 0) (i := 0) rfl rfl rfl ?_
          refine eb_getR (pc := 22) rfl rfl (by decide) (by decide) rfl (ko_s_EB_9 ko) ?_
          refine eb_iload_n (pc := 25) (n := 1) (i := 1) rfl rfl rfl ?_
          obtain ⟨c10, w⟩ := w
          obtain ⟨r11, q12, w⟩ := w
          refine eb_aaloadR (pc := 26) rfl rfl (by decide) (by decide) c10 q12 ?_
          refine eb_astore (pc := 27) (i := 5) (ls2 := [(5, .ref r11), (0, .ref s_EB), (1, .int x1), (2, .int x2), (3, .int x3), (4, .int x4)]) (Nat.le_of_ble_eq_true rfl) rfl rfl ?_
          refine eb_aload (pc := 29) (i := 5) rfl rfl ?_
          obtain ⟨k13, w⟩ := w
          refine eb_getI (pc := 31) rfl k13 (by decide) (by decide) rfl ?_
          refine eb_if_eq (pc := 34) (tgt := 40) rfl (by decide) (fun c14 => ?_) (fun c14 => ?_)
          · replace w := w.1 c14
            refine eb_iload_n (pc := 40) (n := 3) (i := 3) rfl rfl rfl ?_
            refine eb_iload (pc := 41) (i := 4) rfl rfl ?_
            refine eb_ctS (pc := 43) (As := [.int x3, .int x4]) (rest := []) rfl (by decide) (by decide) rfl rfl (Nat.le_of_ble_eq_true rfl) ?_
            refine eb_Ct.mono w ?_
            rintro r h15 ⟨y16, rfl, ko17, w⟩
            change eb_Sn _ _ _ 46 _ [.int y16] _ _
            refine eb_if_eq (pc := 46) (tgt := 52) rfl (by decide) (fun c18 => ?_) (fun c18 => ?_)
            · replace w := w.1 c18
              refine eb_aload_n (pc := 52) (n := 0) (i := 0) rfl rfl rfl ?_
              refine eb_getR (pc := 53) rfl rfl (by decide) (by decide) rfl (ko_s_EB_7 ko17) ?_
              refine eb_aload_n (pc := 56) (n := 0) (i := 0) rfl rfl rfl ?_
              obtain ⟨r19, q20, k21, w⟩ := w
              refine eb_getR (pc := 57) rfl rfl (by decide) (by decide) rfl q20 ?_
              refine eb_aload_n (pc := 60) (n := 0) (i := 0) rfl rfl rfl ?_
              refine eb_getR (pc := 61) rfl rfl (by decide) (by decide) rfl (ko_s_EB_3 ko17) ?_
              refine eb_ctV (pc := 64) (As := [.ref r19, .ref s_now]) (rest := []) rfl (by decide) rfl rfl (by decide) rfl (Nat.le_of_ble_eq_true rfl) ?_
              refine eb_Ct.mono w ?_
              rintro r h22 ⟨rfl, ko24, w⟩
              change eb_Sn _ _ _ 67 _ [] _ _
              refine eb_aload_n (pc := 67) (n := 0) (i := 0) rfl rfl rfl ?_
              refine eb_getR (pc := 68) rfl rfl (by decide) (by decide) rfl (ko_s_EB_7 ko24) ?_
              refine eb_iload_n (pc := 71) (n := 2) (i := 2) rfl rfl rfl ?_
              refine eb_iload_n (pc := 72) (n := 3) (i := 3) rfl rfl rfl ?_
              refine eb_iload (pc := 73) (i := 4) rfl rfl ?_
              refine eb_ctV (pc := 75) (As := [.int x2, .int x3, .int x4]) (rest := []) rfl (by decide) rfl rfl (by decide) rfl (Nat.le_of_ble_eq_true rfl) ?_
              refine eb_Ct.mono w ?_
              rintro r h25 ⟨y26, rfl, ko27, w⟩
              change eb_Sn _ _ _ 78 _ [.int y26] _ _
              refine eb_istore (pc := 78) (i := 6) (ls2 := [(6, .int y26), (5, .ref r11), (0, .ref s_EB), (1, .int x1), (2, .int x2), (3, .int x3), (4, .int x4)]) (Nat.le_of_ble_eq_true rfl) rfl rfl ?_
              refine eb_iload (pc := 80) (i := 6) rfl rfl ?_
              refine eb_iconst (pc := 82) (n := -1) (v := (-1)) rfl rfl ?_
              refine eb_icmp_ne (pc := 83) (tgt := 89) rfl (by decide) (fun c28 => ?_) (fun c28 => ?_)
              · replace w := w.1 c28
                refine eb_iload (pc := 89) (i := 6) rfl rfl ?_
                refine eb_aload (pc := 91) (i := 5) rfl rfl ?_
                refine eb_getI (pc := 93) rfl k13 (by decide) (by decide) rfl ?_
                refine eb_ctS (pc := 96) (As := [.int y26, .int (eb_I h25 r11 3)]) (rest := []) rfl (by decide) (by decide) rfl rfl (Nat.le_of_ble_eq_true rfl) ?_
                refine eb_bodyQ (by decide) ok_J9_min_7cf53 (Nat.le_of_ble_eq_true rfl) ?_
                change eb_Sn _ m_J9_min_7cf53 _ 0 [(0, .int y26), (1, .int (eb_I h25 r11 3))] [] _ _
                refine eb_iload_n (pc := 0) (n := 0) (i := 0) rfl rfl rfl ?_
                refine eb_iload_n (pc := 1) (n := 1) (i := 1) rfl rfl rfl ?_
                refine eb_joinI (pc2 := 10) (ls2 := [(0, .int y26), (1, .int (eb_I h25 r11 3))]) (st2 := []) (v := (if (eb_I h25 r11 3) < y26 then eb_I h25 r11 3 else y26 : Int32)) ?_ (fun jj30 => ?_)
                · refine eb_ireturn (pc := 10) rfl rfl rfl ?_
                  change eb_Sn _ _ _ 99 _ [.int (if (eb_I h25 r11 3) < y26 then eb_I h25 r11 3 else y26 : Int32)] _ _
                  refine eb_istore (pc := 99) (i := 7) (ls2 := [(7, .int (if (eb_I h25 r11 3) < y26 then eb_I h25 r11 3 else y26 : Int32)), (6, .int y26), (5, .ref r11), (0, .ref s_EB), (1, .int x1), (2, .int x2), (3, .int x3), (4, .int x4)]) (Nat.le_of_ble_eq_true rfl) rfl rfl ?_
                  refine eb_iconst (pc := 101) (n := 0) (v := 0) rfl rfl ?_
                  refine eb_istore (pc := 102) (i := 8) (ls2 := [(8, .int 0), (7, .int (if (eb_I h25 r11 3) < y26 then eb_I h25 r11 3 else y26 : Int32)), (6, .int y26), (5, .ref r11), (0, .ref s_EB), (1, .int x1), (2, .int x2), (3, .int x3), (4, .int x4)]) (Nat.le_of_ble_eq_true rfl) rfl rfl ?_
                  exact eb_pick [4, 3, 1, 0] rfl w
                refine eb_icmp_gt (pc := 2) (tgt := 9) rfl (by decide) (fun c29 => ?_) (fun c29 => ?_)
                · refine eb_iload_n (pc := 9) (n := 1) (i := 1) rfl rfl rfl ?_
                  exact jj30 _ (by simp only [if_pos c29])
                · refine eb_iload_n (pc := 5) (n := 0) (i := 0) rfl rfl rfl ?_
                  refine eb_goto (pc := 6) (tgt := 10) rfl (by decide) ?_
                  exact jj30 _ (by simp only [if_neg c29])
              · replace w := w.2 c28
                refine eb_bipush (pc := 86) (n := -5) (v := (-5)) rfl rfl ?_
                exact eb_ireturn (pc := 88) rfl rfl rfl w
            · replace w := w.2 c18
              refine eb_bipush (pc := 49) (n := -3) (v := (-3)) rfl rfl ?_
              exact eb_ireturn (pc := 51) rfl rfl rfl w
          · replace w := w.2 c14
            refine eb_bipush (pc := 37) (n := -6) (v := (-6)) rfl rfl ?_
            exact eb_ireturn (pc := 39) rfl rfl rfl w
        · replace c9 := eb_q0.mp c9
          replace w := w.2 c9
          refine eb_bipush (pc := 18) (n := -2) (v := (-2)) rfl rfl ?_
          exact eb_ireturn (pc := 20) rfl rfl rfl w
      refine eb_ctV (pc := 12) (As := [.int x2]) (rest := []) rfl (by decide) rfl k6 (by decide) rfl (Nat.le_of_ble_eq_true rfl) ?_
      refine eb_bodyQ (by decide) ok_X9_has (Nat.le_of_ble_eq_true rfl) ?_
      change eb_Sn _ m_X9_has _ 0 [(0, .ref r4), (1, .int x2)] [] _ _
      refine eb_iload_n (pc := 0) (n := 1) (i := 1) rfl rfl rfl ?_
      refine eb_if_lt (pc := 1) (tgt := 21) rfl (by decide) (fun c7 => ?_) (fun c7 => ?_)
      · refine eb_iconst (pc := 21) (n := 0) (v := 0) rfl rfl ?_
        refine eb_ireturn (pc := 22) rfl rfl (by decide) ?_
        change eb_Sn _ _ _ 15 _ _ _ _
        exact jj32 0 (eb_qf (fun z => z.1 c7)).symm
      · refine eb_iload_n (pc := 4) (n := 1) (i := 1) rfl rfl rfl ?_
        refine eb_aload_n (pc := 5) (n := 0) (i := 0) rfl rfl rfl ?_
        refine eb_getI (pc := 6) rfl k6 (by decide) (by decide) rfl ?_
        refine eb_aload_n (pc := 9) (n := 0) (i := 0) rfl rfl rfl ?_
        refine eb_getI (pc := 10) rfl k6 (by decide) (by decide) rfl ?_
        refine eb_imul (pc := 13) rfl ?_
        refine eb_icmp_ge (pc := 14) (tgt := 21) rfl (by decide) (fun c8 => ?_) (fun c8 => ?_)
        · refine eb_iconst (pc := 21) (n := 0) (v := 0) rfl rfl ?_
          refine eb_ireturn (pc := 22) rfl rfl (by decide) ?_
          change eb_Sn _ _ _ 15 _ _ _ _
          exact jj32 0 (eb_qf (fun z => (fun z => z c8) z.2)).symm
        · refine eb_iconst (pc := 17) (n := 1) (v := 1) rfl rfl ?_
          refine eb_goto (pc := 18) (tgt := 22) rfl (by decide) ?_
          refine eb_ireturn (pc := 22) rfl rfl (by decide) ?_
          change eb_Sn _ _ _ 15 _ _ _ _
          exact jj32 1 (eb_qt (⟨c7, c8⟩)).symm
  refine eb_ctS (pc := 1) (As := [.int x1]) (rest := []) rfl (by decide) (by decide) rfl rfl (Nat.le_of_ble_eq_true rfl) ?_
  refine eb_bodyQ (by decide) ok_X10_noTray (Nat.le_of_ble_eq_true rfl) ?_
  change eb_Sn _ m_X10_noTray _ 0 [(0, .int x1)] [] _ _
  refine eb_iload_n (pc := 0) (n := 0) (i := 0) rfl rfl rfl ?_
  refine eb_if_lt (pc := 1) (tgt := 9) rfl (by decide) (fun c1 => ?_) (fun c1 => ?_)
  · refine eb_iconst (pc := 9) (n := 1) (v := 1) rfl rfl ?_
    refine eb_goto (pc := 10) (tgt := 14) rfl (by decide) ?_
    refine eb_ireturn (pc := 14) rfl rfl (by decide) ?_
    change eb_Sn _ _ _ 4 _ _ _ _
    exact jj34 1 (eb_qt (Or.inl c1)).symm
  · refine eb_iload_n (pc := 4) (n := 0) (i := 0) rfl rfl rfl ?_
    refine eb_iconst (pc := 5) (n := 4) (v := 4) rfl rfl ?_
    refine eb_icmp_lt (pc := 6) (tgt := 13) rfl (by decide) (fun c2 => ?_) (fun c2 => ?_)
    · refine eb_iconst (pc := 13) (n := 0) (v := 0) rfl rfl ?_
      refine eb_ireturn (pc := 14) rfl rfl (by decide) ?_
      change eb_Sn _ _ _ 4 _ _ _ _
      exact jj34 0 (eb_qf (fun z => z.elim c1 (fun z => z c2))).symm
    · refine eb_iconst (pc := 9) (n := 1) (v := 1) rfl rfl ?_
      refine eb_goto (pc := 10) (tgt := 14) rfl (by decide) ?_
      refine eb_ireturn (pc := 14) rfl rfl (by decide) ?_
      change eb_Sn _ _ _ 4 _ _ _ _
      exact jj34 1 (eb_qt (Or.inr c2)).symm
theorem b_X10_lists_104 {d : Nat} {h0 h : eb_H} {Q : Option Value → eb_H → Prop} (a5 : Nat) (x7 : Int32) (x8 : Int32) (ka5 : eb_kd a5 = 8) (ko : eb_KO h) (w : ((x7 ≤ x8 → Q (some (.int x7)) h) ∧ (¬ (x7 ≤ x8) → (((((1024 : Int32) - (eb_I h s_flights 5)) + x8) < 0 → eb_Ct d 77 [.ref a5, .int x8, .long (((-1) : Int32).toInt64)] h (fun r h5 => r = none ∧ eb_KO h5 ∧ eb_Sn (d + 1) m_X10_lists h0 104 [(0, .ref s_EB), (5, .ref a5), (7, .int x7), (8, .int (x8 + 1))] [] h5 Q)) ∧ (¬ ((((1024 : Int32) - (eb_I h s_flights 5)) + x8) < 0) → (((1024 : Int32) ≤ (((1024 : Int32) - (eb_I h s_flights 5)) + x8) → eb_Ct d 77 [.ref a5, .int x8, .long (((-1) : Int32).toInt64)] h (fun r h8 => r = none ∧ eb_KO h8 ∧ eb_Sn (d + 1) m_X10_lists h0 104 [(0, .ref s_EB), (5, .ref a5), (7, .int x7), (8, .int (x8 + 1))] [] h8 Q)) ∧ (¬ ((1024 : Int32) ≤ (((1024 : Int32) - (eb_I h s_flights 5)) + x8)) → (vp_in (((1024 : Int32) - (eb_I h s_flights 5)) + x8) 1024) ∧ eb_Ct d 77 [.ref a5, .int x8, .long ((eb_I h s_flights_trace (((1024 : Int32) - (eb_I h s_flights 5)) + x8).toNatClampNeg).toInt64)] h (fun r h11 => r = none ∧ eb_KO h11 ∧ eb_Sn (d + 1) m_X10_lists h0 104 [(0, .ref s_EB), (5, .ref a5), (7, .int x7), (8, .int (x8 + 1))] [] h11 Q)))))))) : eb_Sn (d + 1) m_X10_lists h0 104 [(0, .ref s_EB), (5, .ref a5), (7, .int x7), (8, .int x8)] [] h Q := by
  refine eb_iload (pc := 104) (i := 8) rfl rfl ?_
  refine eb_iload (pc := 106) (i := 7) rfl rfl ?_
  refine eb_icmp_ge (pc := 108) (tgt := 134) rfl (by decide) (fun c1 => ?_) (fun c1 => ?_)
  · replace w := w.1 c1
    refine eb_iload (pc := 134) (i := 7) rfl rfl ?_
    exact eb_ireturn (pc := 136) rfl rfl rfl w
  · replace w := w.2 c1
    refine eb_aload (pc := 111) (i := 5) rfl rfl ?_
    refine eb_iload (pc := 113) (i := 8) rfl rfl ?_
    refine eb_aload_n (pc := 115) (n := 0) (i := 0) rfl rfl rfl ?_
    refine eb_getR (pc := 116) rfl rfl (by decide) (by decide) rfl (ko_s_EB_7 ko) ?_
    refine eb_iload (pc := 119) (i := 8) rfl rfl ?_
    refine eb_ctV (pc := 121) (As := [.int x8]) (rest := [.int x8, .ref a5]) rfl (by decide) rfl rfl (by decide) rfl (Nat.le_of_ble_eq_true rfl) ?_
    refine eb_bodyQ (by decide) ok_X1_traced (Nat.le_of_ble_eq_true rfl) ?_
    change eb_Sn _ m_X1_traced _ 0 [(0, .ref s_flights), (1, .int x8)] [] _ _
    refine eb_sipush (pc := 0) (n := 1024) (v := 1024) rfl rfl ?_
    refine eb_aload_n (pc := 3) (n := 0) (i := 0) rfl rfl rfl ?_
    refine eb_getI (pc := 4) rfl rfl (by decide) (by decide) rfl ?_
    refine eb_isub (pc := 7) rfl ?_
    refine eb_iload_n (pc := 8) (n := 1) (i := 1) rfl rfl rfl ?_
    refine eb_iadd (pc := 9) rfl ?_
    refine eb_istore_n (pc := 10) (n := 2) (i := 2) (ls2 := [(2, .int (((1024 : Int32) - (eb_I h s_flights 5)) + x8)), (0, .ref s_flights), (1, .int x8)]) rfl (Nat.le_of_ble_eq_true rfl) rfl rfl ?_
    refine eb_iload_n (pc := 11) (n := 2) (i := 2) rfl rfl rfl ?_
    refine eb_if_lt (pc := 12) (tgt := 31) rfl (by decide) (fun c2 => ?_) (fun c2 => ?_)
    · replace w := w.1 c2
      refine eb_iconst (pc := 31) (n := -1) (v := (-1)) rfl rfl ?_
      refine eb_ireturn (pc := 32) rfl rfl rfl ?_
      change eb_Sn _ _ _ 124 _ [.int (-1), .int x8, .ref a5] _ _
      refine eb_i2l (pc := 124) rfl ?_
      refine eb_ctV (pc := 125) (As := [.int x8, .long (((-1) : Int32).toInt64)]) (rest := []) rfl (by decide) rfl ka5 (by decide) rfl (Nat.le_of_ble_eq_true rfl) ?_
      refine eb_Ct.mono w ?_
      rintro r h5 ⟨rfl, ko7, w⟩
      change eb_Sn _ _ _ 128 _ [] _ _
      refine eb_iinc (pc := 128) (i := 8) (n := 1) (v := x8 + 1) (ls2 := [(8, .int (x8 + 1)), (0, .ref s_EB), (5, .ref a5), (7, .int x7)]) (Nat.le_of_ble_eq_true rfl) rfl rfl rfl rfl ?_
      refine eb_goto (pc := 131) (tgt := 104) rfl (by decide) ?_
      exact eb_pick [1, 2, 3, 0] rfl w
    · replace w := w.2 c2
      refine eb_iload_n (pc := 15) (n := 2) (i := 2) rfl rfl rfl ?_
      refine eb_sipush (pc := 16) (n := 1024) (v := 1024) rfl rfl ?_
      refine eb_icmp_ge (pc := 19) (tgt := 31) rfl (by decide) (fun c3 => ?_) (fun c3 => ?_)
      · replace w := w.1 c3
        refine eb_iconst (pc := 31) (n := -1) (v := (-1)) rfl rfl ?_
        refine eb_ireturn (pc := 32) rfl rfl rfl ?_
        change eb_Sn _ _ _ 124 _ [.int (-1), .int x8, .ref a5] _ _
        refine eb_i2l (pc := 124) rfl ?_
        refine eb_ctV (pc := 125) (As := [.int x8, .long (((-1) : Int32).toInt64)]) (rest := []) rfl (by decide) rfl ka5 (by decide) rfl (Nat.le_of_ble_eq_true rfl) ?_
        refine eb_Ct.mono w ?_
        rintro r h8 ⟨rfl, ko10, w⟩
        change eb_Sn _ _ _ 128 _ [] _ _
        refine eb_iinc (pc := 128) (i := 8) (n := 1) (v := x8 + 1) (ls2 := [(8, .int (x8 + 1)), (0, .ref s_EB), (5, .ref a5), (7, .int x7)]) (Nat.le_of_ble_eq_true rfl) rfl rfl rfl rfl ?_
        refine eb_goto (pc := 131) (tgt := 104) rfl (by decide) ?_
        exact eb_pick [1, 2, 3, 0] rfl w
      · replace w := w.2 c3
        refine eb_aload_n (pc := 22) (n := 0) (i := 0) rfl rfl rfl ?_
        refine eb_getR (pc := 23) rfl rfl (by decide) (by decide) rfl (ko_s_flights_9 ko) ?_
        refine eb_iload_n (pc := 26) (n := 2) (i := 2) rfl rfl rfl ?_
        obtain ⟨c4, w⟩ := w
        refine eb_baload (pc := 27) rfl rfl c4 ?_
        refine eb_goto (pc := 28) (tgt := 32) rfl (by decide) ?_
        refine eb_ireturn (pc := 32) rfl rfl rfl ?_
        change eb_Sn _ _ _ 124 _ [.int (eb_I h s_flights_trace (((1024 : Int32) - (eb_I h s_flights 5)) + x8).toNatClampNeg), .int x8, .ref a5] _ _
        refine eb_i2l (pc := 124) rfl ?_
        refine eb_ctV (pc := 125) (As := [.int x8, .long ((eb_I h s_flights_trace (((1024 : Int32) - (eb_I h s_flights 5)) + x8).toNatClampNeg).toInt64)]) (rest := []) rfl (by decide) rfl ka5 (by decide) rfl (Nat.le_of_ble_eq_true rfl) ?_
        refine eb_Ct.mono w ?_
        rintro r h11 ⟨rfl, ko13, w⟩
        change eb_Sn _ _ _ 128 _ [] _ _
        refine eb_iinc (pc := 128) (i := 8) (n := 1) (v := x8 + 1) (ls2 := [(8, .int (x8 + 1)), (0, .ref s_EB), (5, .ref a5), (7, .int x7)]) (Nat.le_of_ble_eq_true rfl) rfl rfl rfl rfl ?_
        refine eb_goto (pc := 131) (tgt := 104) rfl (by decide) ?_
        exact eb_pick [1, 2, 3, 0] rfl w
theorem T_X10_lists {d : Nat} {h : eb_H} {Q : Option Value → eb_H → Prop} (x1 : Int32) (x2 : Int32) (x3 : Int32) (x4 : Int32)  (ko : eb_KO h) (w : (((x1 < 0) ∨ (¬ (x1 < (4 : Int32))) → Q (some (.int (-2))) h) ∧ (¬ ((x1 < 0) ∨ (¬ (x1 < (4 : Int32)))) → ∃ r4, eb_R h s_EB 2 = some r4 ∧ eb_kd r4 = 9 ∧ (((¬ (x2 < 0)) ∧ (¬ (((eb_I h r4 0) * (eb_I h r4 1)) ≤ x2)) → (vp_in x1 4) ∧ ∃ r11, eb_R h s_trays x1.toNatClampNeg = some r11 ∧ (eb_kd r11 = 8) ∧ (((eb_I h r11 2) = 0 → eb_Ct d 144 [.int x3, .int x4] h (fun r h15 => ∃ y16, r = some (.int y16) ∧ eb_KO h15 ∧ ((y16 = 0 → ∃ r19, eb_R h15 s_EB 2 = some r19 ∧ eb_kd r19 = 9 ∧ eb_Ct d 8 [.ref s_flights, .ref r19, .ref s_now] h15 (fun r h22 => r = none ∧ eb_KO h22 ∧ eb_Ct d 12 [.ref s_flights, .int x2, .int x3, .int x4] h22 (fun r h25 => ∃ y26, r = some (.int y26) ∧ eb_KO h25 ∧ ((¬ y26 = ((-1) : Int32) → eb_Sn (d + 1) m_X10_lists h 104 [(0, .ref s_EB), (5, .ref r11), (7, .int (if (eb_I h25 r11 3) < y26 then eb_I h25 r11 3 else y26 : Int32)), (8, .int 0)] [] h25 Q) ∧ (y26 = ((-1) : Int32) → Q (some (.int (-5))) h25))))) ∧ (¬ (y16 = 0) → Q (some (.int (-3))) h15)))) ∧ (¬ ((eb_I h r11 2) = 0) → Q (some (.int (-6))) h))) ∧ (¬ ((¬ (x2 < 0)) ∧ (¬ (((eb_I h r4 0) * (eb_I h r4 1)) ≤ x2))) → Q (some (.int (-2))) h))))) : eb_Ct (d + 1) 135 [.ref s_EB, .int x1, .int x2, .int x3, .int x4] h Q :=
  eb_bodyQ (by decide) ok_X10_lists (Nat.le_of_ble_eq_true rfl) (b_X10_lists_0 (h0 := h) x1 x2 x3 x4  ko w)
theorem b_X10_image_0 {d : Nat} {h0 h : eb_H} {Q : Option Value → eb_H → Prop} (x1 : Int32)  (ko : eb_KO h) (w : ((x1 < 0 → Q (some (.int (-2))) h) ∧ (¬ (x1 < 0) → ((x1 < (2 : Int32) → ∃ r3, eb_R h s_EB 2 = some r3 ∧ eb_kd r3 = 9 ∧ (vp_in x1 2) ∧ (vp_in x1 2) ∧ ∃ r8, eb_R (eb_sR h s_imageValleys x1.toNatClampNeg (some r3)) s_imageStates x1.toNatClampNeg = some r8 ∧ (eb_kd r8 = 6) ∧ eb_Ct d 60 [.ref r8, .ref s_now] (eb_sR h s_imageValleys x1.toNatClampNeg (some r3)) (fun r h11 => r = none ∧ eb_KO h11 ∧ Q (some (.int 0)) h11)) ∧ (¬ (x1 < (2 : Int32)) → Q (some (.int (-2))) h))))) : eb_Sn (d + 1) m_X10_image h0 0 [(0, .ref s_EB), (1, .int x1)] [] h Q := by
  refine eb_iload_n (pc := 0) (n := 1) (i := 1) rfl rfl rfl ?_
  refine eb_if_lt (pc := 1) (tgt := 9) rfl (by decide) (fun c1 => ?_) (fun c1 => ?_)
  · replace w := w.1 c1
    refine eb_bipush (pc := 9) (n := -2) (v := (-2)) rfl rfl ?_
    exact eb_ireturn (pc := 11) rfl rfl rfl w
  · replace w := w.2 c1
    refine eb_iload_n (pc := 4) (n := 1) (i := 1) rfl rfl rfl ?_
    refine eb_iconst (pc := 5) (n := 2) (v := 2) rfl rfl ?_
    refine eb_icmp_lt (pc := 6) (tgt := 12) rfl (by decide) (fun c2 => ?_) (fun c2 => ?_)
    · replace w := w.1 c2
      refine eb_aload_n (pc := 12) (n := 0) (i := 0) rfl rfl rfl ?_
      refine eb_getR (pc := 13) rfl rfl (by decide) (by decide) rfl (ko_s_EB_10 ko) ?_
      refine eb_iload_n (pc := 16) (n := 1) (i := 1) rfl rfl rfl ?_
      refine eb_aload_n (pc := 17) (n := 0) (i := 0) rfl rfl rfl ?_
      obtain ⟨r3, q4, k5, w⟩ := w
      refine eb_getR (pc := 18) rfl rfl (by decide) (by decide) rfl q4 ?_
      obtain ⟨c6, w⟩ := w
      refine eb_aastore (pc := 21) rfl rfl (by decide) (by decide) c6 k5 ?_
      refine eb_aload_n (pc := 22) (n := 0) (i := 0) rfl rfl rfl ?_
      refine eb_getR (pc := 23) rfl rfl (by decide) (by decide) rfl (ko_s_EB_11 (ko_sRi (by decide +kernel) ko)) ?_
      refine eb_iload_n (pc := 26) (n := 1) (i := 1) rfl rfl rfl ?_
      obtain ⟨c7, w⟩ := w
      obtain ⟨r8, q9, w⟩ := w
      refine eb_aaloadR (pc := 27) rfl rfl (by decide) (by decide) c7 q9 ?_
      refine eb_aload_n (pc := 28) (n := 0) (i := 0) rfl rfl rfl ?_
      refine eb_getR (pc := 29) rfl rfl (by decide) (by decide) rfl (ko_s_EB_3 (ko_sRi (by decide +kernel) ko)) ?_
      obtain ⟨k10, w⟩ := w
      refine eb_ctV (pc := 32) (As := [.ref s_now]) (rest := []) rfl (by decide) rfl k10 (by decide) rfl (Nat.le_of_ble_eq_true rfl) ?_
      refine eb_Ct.mono w ?_
      rintro r h11 ⟨rfl, ko13, w⟩
      change eb_Sn _ _ _ 35 _ [] _ _
      refine eb_iconst (pc := 35) (n := 0) (v := 0) rfl rfl ?_
      exact eb_ireturn (pc := 36) rfl rfl rfl w
    · replace w := w.2 c2
      refine eb_bipush (pc := 9) (n := -2) (v := (-2)) rfl rfl ?_
      exact eb_ireturn (pc := 11) rfl rfl rfl w
theorem T_X10_image {d : Nat} {h : eb_H} {Q : Option Value → eb_H → Prop} (x1 : Int32)  (ko : eb_KO h) (w : ((x1 < 0 → Q (some (.int (-2))) h) ∧ (¬ (x1 < 0) → ((x1 < (2 : Int32) → ∃ r3, eb_R h s_EB 2 = some r3 ∧ eb_kd r3 = 9 ∧ (vp_in x1 2) ∧ (vp_in x1 2) ∧ ∃ r8, eb_R (eb_sR h s_imageValleys x1.toNatClampNeg (some r3)) s_imageStates x1.toNatClampNeg = some r8 ∧ (eb_kd r8 = 6) ∧ eb_Ct d 60 [.ref r8, .ref s_now] (eb_sR h s_imageValleys x1.toNatClampNeg (some r3)) (fun r h11 => r = none ∧ eb_KO h11 ∧ Q (some (.int 0)) h11)) ∧ (¬ (x1 < (2 : Int32)) → Q (some (.int (-2))) h))))) : eb_Ct (d + 1) 136 [.ref s_EB, .int x1] h Q :=
  eb_bodyQ (by decide) ok_X10_image (Nat.le_of_ble_eq_true rfl) (b_X10_image_0 (h0 := h) x1  ko w)
theorem b_X10_restore_0 {d : Nat} {h0 h : eb_H} {Q : Option Value → eb_H → Prop} (x1 : Int32)  (ko : eb_KO h) (w : ((x1 < 0 → Q (some (.int (-2))) h) ∧ (¬ (x1 < 0) → ((x1 < (2 : Int32) → (vp_in x1 2) ∧ ((eb_R h s_imageValleys x1.toNatClampNeg = none → Q (some (.int (-5))) h) ∧ (∀ r5, eb_R h s_imageValleys x1.toNatClampNeg = some r5 → (vp_in x1 2) ∧ (eb_kd r5 = 9) ∧ (vp_in x1 2) ∧ ∃ r9, eb_R (eb_sR h s_EB 2 (some r5)) s_imageStates x1.toNatClampNeg = some r9 ∧ eb_Ct d 60 [.ref s_now, .ref r9] (eb_sR h s_EB 2 (some r5)) (fun r h11 => r = none ∧ eb_KO h11 ∧ eb_Ct d 44 [.ref s_past] h11 (fun r h14 => r = none ∧ eb_KO h14 ∧ Q (some (.int 0)) h14))))) ∧ (¬ (x1 < (2 : Int32)) → Q (some (.int (-2))) h))))) : eb_Sn (d + 1) m_X10_restore h0 0 [(0, .ref s_EB), (1, .int x1)] [] h Q := by
  refine eb_iload_n (pc := 0) (n := 1) (i := 1) rfl rfl rfl ?_
  refine eb_if_lt (pc := 1) (tgt := 9) rfl (by decide) (fun c1 => ?_) (fun c1 => ?_)
  · replace w := w.1 c1
    refine eb_bipush (pc := 9) (n := -2) (v := (-2)) rfl rfl ?_
    exact eb_ireturn (pc := 11) rfl rfl rfl w
  · replace w := w.2 c1
    refine eb_iload_n (pc := 4) (n := 1) (i := 1) rfl rfl rfl ?_
    refine eb_iconst (pc := 5) (n := 2) (v := 2) rfl rfl ?_
    refine eb_icmp_lt (pc := 6) (tgt := 12) rfl (by decide) (fun c2 => ?_) (fun c2 => ?_)
    · replace w := w.1 c2
      refine eb_aload_n (pc := 12) (n := 0) (i := 0) rfl rfl rfl ?_
      refine eb_getR (pc := 13) rfl rfl (by decide) (by decide) rfl (ko_s_EB_10 ko) ?_
      refine eb_iload_n (pc := 16) (n := 1) (i := 1) rfl rfl rfl ?_
      obtain ⟨c3, w⟩ := w
      rcases q4 : eb_R h s_imageValleys x1.toNatClampNeg with _ | r5
      · replace w := w.1 q4
        refine eb_aaloadN (pc := 17) rfl rfl (by decide) (by decide) c3 q4 ?_
        refine eb_ifnonnull_n (pc := 18) rfl ?_
        refine eb_bipush (pc := 21) (n := -5) (v := (-5)) rfl rfl ?_
        exact eb_ireturn (pc := 23) rfl rfl rfl w
      · replace w := w.2 r5 q4
        refine eb_aaloadR (pc := 17) rfl rfl (by decide) (by decide) c3 q4 ?_
        refine eb_ifnonnull_r (pc := 18) (tgt := 24) (by decide) rfl ?_
        refine eb_aload_n (pc := 24) (n := 0) (i := 0) rfl rfl rfl ?_
        refine eb_aload_n (pc := 25) (n := 0) (i := 0) rfl rfl rfl ?_
        refine eb_getR (pc := 26) rfl rfl (by decide) (by decide) rfl (ko_s_EB_10 ko) ?_
        refine eb_iload_n (pc := 29) (n := 1) (i := 1) rfl rfl rfl ?_
        obtain ⟨c6, w⟩ := w
        refine eb_aaloadR (pc := 30) rfl rfl (by decide) (by decide) c6 q4 ?_
        obtain ⟨k7, w⟩ := w
        refine eb_putR (pc := 31) rfl rfl (by decide) (by decide) rfl (Or.inl rfl) (eb_k20 (c := 9) k7 (by decide)) ?_
        refine eb_aload_n (pc := 34) (n := 0) (i := 0) rfl rfl rfl ?_
        refine eb_getR (pc := 35) rfl rfl (by decide) (by decide) rfl (ko_s_EB_3 (ko_sR (by decide +kernel) ko)) ?_
        refine eb_aload_n (pc := 38) (n := 0) (i := 0) rfl rfl rfl ?_
        refine eb_getR (pc := 39) rfl rfl (by decide) (by decide) rfl (ko_s_EB_11 (ko_sR (by decide +kernel) ko)) ?_
        refine eb_iload_n (pc := 42) (n := 1) (i := 1) rfl rfl rfl ?_
        obtain ⟨c8, w⟩ := w
        obtain ⟨r9, q10, w⟩ := w
        refine eb_aaloadR (pc := 43) rfl rfl (by decide) (by decide) c8 q10 ?_
        refine eb_ctV (pc := 44) (As := [.ref r9]) (rest := []) rfl (by decide) rfl rfl (by decide) rfl (Nat.le_of_ble_eq_true rfl) ?_
        refine eb_Ct.mono w ?_
        rintro r h11 ⟨rfl, ko13, w⟩
        change eb_Sn _ _ _ 47 _ [] _ _
        refine eb_aload_n (pc := 47) (n := 0) (i := 0) rfl rfl rfl ?_
        refine eb_getR (pc := 48) rfl rfl (by decide) (by decide) rfl (ko_s_EB_6 ko13) ?_
        refine eb_ctV (pc := 51) (As := []) (rest := []) rfl (by decide) rfl rfl (by decide) rfl (Nat.le_of_ble_eq_true rfl) ?_
        refine eb_Ct.mono w ?_
        rintro r h14 ⟨rfl, ko16, w⟩
        change eb_Sn _ _ _ 54 _ [] _ _
        refine eb_iconst (pc := 54) (n := 0) (v := 0) rfl rfl ?_
        exact eb_ireturn (pc := 55) rfl rfl rfl w
    · replace w := w.2 c2
      refine eb_bipush (pc := 9) (n := -2) (v := (-2)) rfl rfl ?_
      exact eb_ireturn (pc := 11) rfl rfl rfl w
theorem T_X10_restore {d : Nat} {h : eb_H} {Q : Option Value → eb_H → Prop} (x1 : Int32)  (ko : eb_KO h) (w : ((x1 < 0 → Q (some (.int (-2))) h) ∧ (¬ (x1 < 0) → ((x1 < (2 : Int32) → (vp_in x1 2) ∧ ((eb_R h s_imageValleys x1.toNatClampNeg = none → Q (some (.int (-5))) h) ∧ (∀ r5, eb_R h s_imageValleys x1.toNatClampNeg = some r5 → (vp_in x1 2) ∧ (eb_kd r5 = 9) ∧ (vp_in x1 2) ∧ ∃ r9, eb_R (eb_sR h s_EB 2 (some r5)) s_imageStates x1.toNatClampNeg = some r9 ∧ eb_Ct d 60 [.ref s_now, .ref r9] (eb_sR h s_EB 2 (some r5)) (fun r h11 => r = none ∧ eb_KO h11 ∧ eb_Ct d 44 [.ref s_past] h11 (fun r h14 => r = none ∧ eb_KO h14 ∧ Q (some (.int 0)) h14))))) ∧ (¬ (x1 < (2 : Int32)) → Q (some (.int (-2))) h))))) : eb_Ct (d + 1) 137 [.ref s_EB, .int x1] h Q :=
  eb_bodyQ (by decide) ok_X10_restore (Nat.le_of_ble_eq_true rfl) (b_X10_restore_0 (h0 := h) x1  ko w)
theorem b_X10_count_0 {d : Nat} {h0 h : eb_H} {Q : Option Value → eb_H → Prop} (x1 : Int32)  (ko : eb_KO h) (w : ((x1 = 0 → ∃ r1, eb_R h s_EB 2 = some r1 ∧ eb_kd r1 = 9 ∧ Q (some (.int (eb_I h r1 0))) h) ∧ (x1 = 1 → ∃ r4, eb_R h s_EB 2 = some r4 ∧ eb_kd r4 = 9 ∧ Q (some (.int (eb_I h r4 1))) h) ∧ (x1 = 2 → ∃ r7, eb_R h s_EB 2 = some r7 ∧ eb_kd r7 = 9 ∧ Q (some (.int (eb_I h r7 2))) h) ∧ (x1 = 3 → Q (some (.int (eb_I h s_now 0))) h) ∧ (x1 = 4 → Q (some (.int (eb_I h s_now 1))) h) ∧ (x1 = 5 → Q (some (.int (eb_I h s_now 3))) h) ∧ (x1 = 6 → Q (some (.int (eb_I h s_now 4))) h) ∧ (x1 = 7 → ∃ r10, eb_R h s_EB 2 = some r10 ∧ eb_kd r10 = 9 ∧ Q (some (.int (eb_I h r10 4))) h) ∧ (x1 = 8 → Q (some (.int (eb_I h s_now 2))) h) ∧ (x1 = 9 → Q (some (.int (eb_I h s_past 2))) h) ∧ (x1 = 10 → Q (some (.int (eb_I h s_tape 1))) h) ∧ (x1 = 11 → ∃ r13, eb_R h s_EB 2 = some r13 ∧ eb_kd r13 = 9 ∧ Q (some (.int (eb_I h r13 3))) h) ∧ (¬ x1 = 0 → ¬ x1 = 1 → ¬ x1 = 2 → ¬ x1 = 3 → ¬ x1 = 4 → ¬ x1 = 5 → ¬ x1 = 6 → ¬ x1 = 7 → ¬ x1 = 8 → ¬ x1 = 9 → ¬ x1 = 10 → ¬ x1 = 11 → Q (some (.int (-1))) h))) : eb_Sn d m_X10_count h0 0 [(0, .ref s_EB), (1, .int x1)] [] h Q := by
  refine eb_iload_n (pc := 0) (n := 1) (i := 1) rfl rfl rfl ?_
  by_cases s0 : x1 = 0
  · refine eb_tableIn (pc := 1) (j := 0) (tgt := 64) (by rw [s0]; decide) (by decide) (by rfl) (by decide) rfl ?_
    replace w := w.1 s0
    refine eb_aload_n (pc := 64) (n := 0) (i := 0) rfl rfl rfl ?_
    obtain ⟨r1, q2, k3, w⟩ := w
    refine eb_getR (pc := 65) rfl rfl (by decide) (by decide) rfl q2 ?_
    refine eb_getI (pc := 68) rfl k3 (by decide) (by decide) rfl ?_
    exact eb_ireturn (pc := 71) rfl rfl rfl w
  by_cases s1 : x1 = 1
  · refine eb_tableIn (pc := 1) (j := 1) (tgt := 72) (by rw [s1]; decide) (by decide) (by rfl) (by decide) rfl ?_
    replace w := w.2.1 s1
    refine eb_aload_n (pc := 72) (n := 0) (i := 0) rfl rfl rfl ?_
    obtain ⟨r4, q5, k6, w⟩ := w
    refine eb_getR (pc := 73) rfl rfl (by decide) (by decide) rfl q5 ?_
    refine eb_getI (pc := 76) rfl k6 (by decide) (by decide) rfl ?_
    exact eb_ireturn (pc := 79) rfl rfl rfl w
  by_cases s2 : x1 = 2
  · refine eb_tableIn (pc := 1) (j := 2) (tgt := 80) (by rw [s2]; decide) (by decide) (by rfl) (by decide) rfl ?_
    replace w := w.2.2.1 s2
    refine eb_aload_n (pc := 80) (n := 0) (i := 0) rfl rfl rfl ?_
    obtain ⟨r7, q8, k9, w⟩ := w
    refine eb_getR (pc := 81) rfl rfl (by decide) (by decide) rfl q8 ?_
    refine eb_getI (pc := 84) rfl k9 (by decide) (by decide) rfl ?_
    exact eb_ireturn (pc := 87) rfl rfl rfl w
  by_cases s3 : x1 = 3
  · refine eb_tableIn (pc := 1) (j := 3) (tgt := 88) (by rw [s3]; decide) (by decide) (by rfl) (by decide) rfl ?_
    replace w := w.2.2.2.1 s3
    refine eb_aload_n (pc := 88) (n := 0) (i := 0) rfl rfl rfl ?_
    refine eb_getR (pc := 89) rfl rfl (by decide) (by decide) rfl (ko_s_EB_3 ko) ?_
    refine eb_getI (pc := 92) rfl rfl (by decide) (by decide) rfl ?_
    exact eb_ireturn (pc := 95) rfl rfl rfl w
  by_cases s4 : x1 = 4
  · refine eb_tableIn (pc := 1) (j := 4) (tgt := 96) (by rw [s4]; decide) (by decide) (by rfl) (by decide) rfl ?_
    replace w := w.2.2.2.2.1 s4
    refine eb_aload_n (pc := 96) (n := 0) (i := 0) rfl rfl rfl ?_
    refine eb_getR (pc := 97) rfl rfl (by decide) (by decide) rfl (ko_s_EB_3 ko) ?_
    refine eb_getI (pc := 100) rfl rfl (by decide) (by decide) rfl ?_
    exact eb_ireturn (pc := 103) rfl rfl rfl w
  by_cases s5 : x1 = 5
  · refine eb_tableIn (pc := 1) (j := 5) (tgt := 104) (by rw [s5]; decide) (by decide) (by rfl) (by decide) rfl ?_
    replace w := w.2.2.2.2.2.1 s5
    refine eb_aload_n (pc := 104) (n := 0) (i := 0) rfl rfl rfl ?_
    refine eb_getR (pc := 105) rfl rfl (by decide) (by decide) rfl (ko_s_EB_3 ko) ?_
    refine eb_getI (pc := 108) rfl rfl (by decide) (by decide) rfl ?_
    exact eb_ireturn (pc := 111) rfl rfl rfl w
  by_cases s6 : x1 = 6
  · refine eb_tableIn (pc := 1) (j := 6) (tgt := 112) (by rw [s6]; decide) (by decide) (by rfl) (by decide) rfl ?_
    replace w := w.2.2.2.2.2.2.1 s6
    refine eb_aload_n (pc := 112) (n := 0) (i := 0) rfl rfl rfl ?_
    refine eb_getR (pc := 113) rfl rfl (by decide) (by decide) rfl (ko_s_EB_3 ko) ?_
    refine eb_getI (pc := 116) rfl rfl (by decide) (by decide) rfl ?_
    exact eb_ireturn (pc := 119) rfl rfl rfl w
  by_cases s7 : x1 = 7
  · refine eb_tableIn (pc := 1) (j := 7) (tgt := 120) (by rw [s7]; decide) (by decide) (by rfl) (by decide) rfl ?_
    replace w := w.2.2.2.2.2.2.2.1 s7
    refine eb_aload_n (pc := 120) (n := 0) (i := 0) rfl rfl rfl ?_
    obtain ⟨r10, q11, k12, w⟩ := w
    refine eb_getR (pc := 121) rfl rfl (by decide) (by decide) rfl q11 ?_
    refine eb_getI (pc := 124) rfl k12 (by decide) (by decide) rfl ?_
    exact eb_ireturn (pc := 127) rfl rfl rfl w
  by_cases s8 : x1 = 8
  · refine eb_tableIn (pc := 1) (j := 8) (tgt := 128) (by rw [s8]; decide) (by decide) (by rfl) (by decide) rfl ?_
    replace w := w.2.2.2.2.2.2.2.2.1 s8
    refine eb_aload_n (pc := 128) (n := 0) (i := 0) rfl rfl rfl ?_
    refine eb_getR (pc := 129) rfl rfl (by decide) (by decide) rfl (ko_s_EB_3 ko) ?_
    refine eb_getI (pc := 132) rfl rfl (by decide) (by decide) rfl ?_
    exact eb_ireturn (pc := 135) rfl rfl rfl w
  by_cases s9 : x1 = 9
  · refine eb_tableIn (pc := 1) (j := 9) (tgt := 136) (by rw [s9]; decide) (by decide) (by rfl) (by decide) rfl ?_
    replace w := w.2.2.2.2.2.2.2.2.2.1 s9
    refine eb_aload_n (pc := 136) (n := 0) (i := 0) rfl rfl rfl ?_
    refine eb_getR (pc := 137) rfl rfl (by decide) (by decide) rfl (ko_s_EB_6 ko) ?_
    refine eb_getI (pc := 140) rfl rfl (by decide) (by decide) rfl ?_
    exact eb_ireturn (pc := 143) rfl rfl rfl w
  by_cases s10 : x1 = 10
  · refine eb_tableIn (pc := 1) (j := 10) (tgt := 144) (by rw [s10]; decide) (by decide) (by rfl) (by decide) rfl ?_
    replace w := w.2.2.2.2.2.2.2.2.2.2.1 s10
    refine eb_aload_n (pc := 144) (n := 0) (i := 0) rfl rfl rfl ?_
    refine eb_getR (pc := 145) rfl rfl (by decide) (by decide) rfl (ko_s_EB_1 ko) ?_
    refine eb_getI (pc := 148) rfl rfl (by decide) (by decide) rfl ?_
    exact eb_ireturn (pc := 151) rfl rfl rfl w
  by_cases s11 : x1 = 11
  · refine eb_tableIn (pc := 1) (j := 11) (tgt := 152) (by rw [s11]; decide) (by decide) (by rfl) (by decide) rfl ?_
    replace w := w.2.2.2.2.2.2.2.2.2.2.2.1 s11
    refine eb_aload_n (pc := 152) (n := 0) (i := 0) rfl rfl rfl ?_
    obtain ⟨r13, q14, k15, w⟩ := w
    refine eb_getR (pc := 153) rfl rfl (by decide) (by decide) rfl q14 ?_
    refine eb_getI (pc := 156) rfl k15 (by decide) (by decide) rfl ?_
    exact eb_ireturn (pc := 159) rfl rfl rfl w
  refine eb_tableOut (pc := 1) (tgt := 160) (by have z0 := lv_neT (a := 0) s0 (by decide); have z1 := lv_neT (a := 1) s1 (by decide); have z2 := lv_neT (a := 2) s2 (by decide); have z3 := lv_neT (a := 3) s3 (by decide); have z4 := lv_neT (a := 4) s4 (by decide); have z5 := lv_neT (a := 5) s5 (by decide); have z6 := lv_neT (a := 6) s6 (by decide); have z7 := lv_neT (a := 7) s7 (by decide); have z8 := lv_neT (a := 8) s8 (by decide); have z9 := lv_neT (a := 9) s9 (by decide); have z10 := lv_neT (a := 10) s10 (by decide); have z11 := lv_neT (a := 11) s11 (by decide); omega) (by decide) rfl ?_
  replace w := w.2.2.2.2.2.2.2.2.2.2.2.2 s0 s1 s2 s3 s4 s5 s6 s7 s8 s9 s10 s11
  refine eb_iconst (pc := 160) (n := -1) (v := (-1)) rfl rfl ?_
  exact eb_ireturn (pc := 161) rfl rfl rfl w
theorem T_X10_count {d : Nat} {h : eb_H} {Q : Option Value → eb_H → Prop} (x1 : Int32)  (ko : eb_KO h) (w : ((x1 = 0 → ∃ r1, eb_R h s_EB 2 = some r1 ∧ eb_kd r1 = 9 ∧ Q (some (.int (eb_I h r1 0))) h) ∧ (x1 = 1 → ∃ r4, eb_R h s_EB 2 = some r4 ∧ eb_kd r4 = 9 ∧ Q (some (.int (eb_I h r4 1))) h) ∧ (x1 = 2 → ∃ r7, eb_R h s_EB 2 = some r7 ∧ eb_kd r7 = 9 ∧ Q (some (.int (eb_I h r7 2))) h) ∧ (x1 = 3 → Q (some (.int (eb_I h s_now 0))) h) ∧ (x1 = 4 → Q (some (.int (eb_I h s_now 1))) h) ∧ (x1 = 5 → Q (some (.int (eb_I h s_now 3))) h) ∧ (x1 = 6 → Q (some (.int (eb_I h s_now 4))) h) ∧ (x1 = 7 → ∃ r10, eb_R h s_EB 2 = some r10 ∧ eb_kd r10 = 9 ∧ Q (some (.int (eb_I h r10 4))) h) ∧ (x1 = 8 → Q (some (.int (eb_I h s_now 2))) h) ∧ (x1 = 9 → Q (some (.int (eb_I h s_past 2))) h) ∧ (x1 = 10 → Q (some (.int (eb_I h s_tape 1))) h) ∧ (x1 = 11 → ∃ r13, eb_R h s_EB 2 = some r13 ∧ eb_kd r13 = 9 ∧ Q (some (.int (eb_I h r13 3))) h) ∧ (¬ x1 = 0 → ¬ x1 = 1 → ¬ x1 = 2 → ¬ x1 = 3 → ¬ x1 = 4 → ¬ x1 = 5 → ¬ x1 = 6 → ¬ x1 = 7 → ¬ x1 = 8 → ¬ x1 = 9 → ¬ x1 = 10 → ¬ x1 = 11 → Q (some (.int (-1))) h))) : eb_Ct d 138 [.ref s_EB, .int x1] h Q :=
  eb_bodyQ (by decide) ok_X10_count (Nat.le_of_ble_eq_true rfl) (b_X10_count_0 (h0 := h) x1  ko w)
theorem b_X10_doAlone_0 {d : Nat} {h0 h : eb_H} {Q : Option Value → eb_H → Prop} (x1 : Int32)  (ko : eb_KO h) (w : eb_Ct d 60 [.ref s_before, .ref s_now] h (fun r h1 => r = none ∧ eb_KO h1 ∧ ∃ r4, eb_R h1 s_EB 2 = some r4 ∧ eb_kd r4 = 9 ∧ eb_Ct d 91 [.ref r4, .ref s_now, .long x1.toInt64] h1 (fun r h7 => ∃ y8, r = some (.int y8) ∧ eb_KO h7 ∧ ((y8 = 0 → eb_Ct d 42 [.ref s_past, .ref s_before] h7 (fun r h11 => r = none ∧ eb_KO h11 ∧ Q (some (.int 1)) h11)) ∧ (¬ (y8 = 0) → Q (some (.int 0)) h7))))) : eb_Sn (d + 1) m_X10_doAlone h0 0 [(0, .ref s_EB), (1, .int x1)] [] h Q := by
  refine eb_aload_n (pc := 0) (n := 0) (i := 0) rfl rfl rfl ?_
  refine eb_getR (pc := 1) rfl rfl (by decide) (by decide) rfl (ko_s_EB_4 ko) ?_
  refine eb_aload_n (pc := 4) (n := 0) (i := 0) rfl rfl rfl ?_
  refine eb_getR (pc := 5) rfl rfl (by decide) (by decide) rfl (ko_s_EB_3 ko) ?_
  refine eb_ctV (pc := 8) (As := [.ref s_now]) (rest := []) rfl (by decide) rfl rfl (by decide) rfl (Nat.le_of_ble_eq_true rfl) ?_
  refine eb_Ct.mono w ?_
  rintro r h1 ⟨rfl, ko3, w⟩
  change eb_Sn _ _ _ 11 _ [] _ _
  refine eb_aload_n (pc := 11) (n := 0) (i := 0) rfl rfl rfl ?_
  obtain ⟨r4, q5, k6, w⟩ := w
  refine eb_getR (pc := 12) rfl rfl (by decide) (by decide) rfl q5 ?_
  refine eb_aload_n (pc := 15) (n := 0) (i := 0) rfl rfl rfl ?_
  refine eb_getR (pc := 16) rfl rfl (by decide) (by decide) rfl (ko_s_EB_3 ko3) ?_
  refine eb_iload_n (pc := 19) (n := 1) (i := 1) rfl rfl rfl ?_
  refine eb_i2l (pc := 20) rfl ?_
  refine eb_ctV (pc := 21) (As := [.ref s_now, .long x1.toInt64]) (rest := []) rfl (by decide) rfl k6 (by decide) rfl (Nat.le_of_ble_eq_true rfl) ?_
  refine eb_Ct.mono w ?_
  rintro r h7 ⟨y8, rfl, ko9, w⟩
  change eb_Sn _ _ _ 24 _ [.int y8] _ _
  refine eb_if_eq (pc := 24) (tgt := 29) rfl (by decide) (fun c10 => ?_) (fun c10 => ?_)
  · replace w := w.1 c10
    refine eb_aload_n (pc := 29) (n := 0) (i := 0) rfl rfl rfl ?_
    refine eb_getR (pc := 30) rfl rfl (by decide) (by decide) rfl (ko_s_EB_6 ko9) ?_
    refine eb_aload_n (pc := 33) (n := 0) (i := 0) rfl rfl rfl ?_
    refine eb_getR (pc := 34) rfl rfl (by decide) (by decide) rfl (ko_s_EB_4 ko9) ?_
    refine eb_ctV (pc := 37) (As := [.ref s_before]) (rest := []) rfl (by decide) rfl rfl (by decide) rfl (Nat.le_of_ble_eq_true rfl) ?_
    refine eb_Ct.mono w ?_
    rintro r h11 ⟨rfl, ko13, w⟩
    change eb_Sn _ _ _ 40 _ [] _ _
    refine eb_iconst (pc := 40) (n := 1) (v := 1) rfl rfl ?_
    exact eb_ireturn (pc := 41) rfl rfl (by decide) w
  · replace w := w.2 c10
    refine eb_iconst (pc := 27) (n := 0) (v := 0) rfl rfl ?_
    exact eb_ireturn (pc := 28) rfl rfl (by decide) w
theorem T_X10_doAlone {d : Nat} {h : eb_H} {Q : Option Value → eb_H → Prop} (x1 : Int32)  (ko : eb_KO h) (w : eb_Ct d 60 [.ref s_before, .ref s_now] h (fun r h1 => r = none ∧ eb_KO h1 ∧ ∃ r4, eb_R h1 s_EB 2 = some r4 ∧ eb_kd r4 = 9 ∧ eb_Ct d 91 [.ref r4, .ref s_now, .long x1.toInt64] h1 (fun r h7 => ∃ y8, r = some (.int y8) ∧ eb_KO h7 ∧ ((y8 = 0 → eb_Ct d 42 [.ref s_past, .ref s_before] h7 (fun r h11 => r = none ∧ eb_KO h11 ∧ Q (some (.int 1)) h11)) ∧ (¬ (y8 = 0) → Q (some (.int 0)) h7))))) : eb_Ct (d + 1) 139 [.ref s_EB, .int x1] h Q :=
  eb_bodyQ (by decide) ok_X10_doAlone (Nat.le_of_ble_eq_true rfl) (b_X10_doAlone_0 (h0 := h) x1  ko w)
theorem b_X10_doAll_0 {d : Nat} {h0 h : eb_H} {Q : Option Value → eb_H → Prop} (a1 : Nat) (a2 : Nat) (ka1 : eb_kd a1 = 8) (ka2 : eb_kd a2 = 6) (ko : eb_KO h) (w : eb_Sn (d + 1) m_X10_doAll h0 2 [(0, .ref s_EB), (1, .ref a1), (2, .ref a2), (3, .int 0)] [] h Q) : eb_Sn (d + 1) m_X10_doAll h0 0 [(0, .ref s_EB), (1, .ref a1), (2, .ref a2)] [] h Q := by
  refine eb_iconst (pc := 0) (n := 0) (v := 0) rfl rfl ?_
  refine eb_istore_n (pc := 1) (n := 3) (i := 3) (ls2 := [(3, .int 0), (0, .ref s_EB), (1, .ref a1), (2, .ref a2)]) rfl (Nat.le_of_ble_eq_true rfl) rfl rfl ?_
  exact eb_pick [1, 2, 3, 0] rfl w
theorem b_X10_doAll_2 {d : Nat} {h0 h : eb_H} {Q : Option Value → eb_H → Prop} (a1 : Nat) (a2 : Nat) (x3 : Int32) (ka1 : eb_kd a1 = 8) (ka2 : eb_kd a2 = 6) (ko : eb_KO h) (w : (((eb_I h a1 3) ≤ x3 → Q (some (.int (eb_I h a1 3))) h) ∧ (¬ ((eb_I h a1 3) ≤ x3) → ∃ r2, eb_R h s_EB 2 = some r2 ∧ eb_kd r2 = 9 ∧ ((x3 < 0 → eb_Ct d 91 [.ref r2, .ref a2, .long 0] h (fun r h11 => ∃ y12, r = some (.int y12) ∧ eb_KO h11 ∧ ((y12 = 0 → eb_Sn (d + 1) m_X10_doAll h0 2 [(0, .ref s_EB), (1, .ref a1), (2, .ref a2), (3, .int (x3 + 1))] [] h11 Q) ∧ (¬ (y12 = 0) → Q (some (.int x3)) h11)))) ∧ (¬ (x3 < 0) → ∃ r6, eb_R h a1 0 = some r6 ∧ eb_kd r6 = 14 ∧ (((Int32.ofNat (eb_ln r6)) ≤ x3 → eb_Ct d 91 [.ref r2, .ref a2, .long 0] h (fun r h15 => ∃ y16, r = some (.int y16) ∧ eb_KO h15 ∧ ((y16 = 0 → eb_Sn (d + 1) m_X10_doAll h0 2 [(0, .ref s_EB), (1, .ref a1), (2, .ref a2), (3, .int (x3 + 1))] [] h15 Q) ∧ (¬ (y16 = 0) → Q (some (.int x3)) h15)))) ∧ (¬ ((Int32.ofNat (eb_ln r6)) ≤ x3) → (vp_in x3 (eb_ln r6)) ∧ eb_Ct d 91 [.ref r2, .ref a2, .long (eb_J h r6 x3.toNatClampNeg)] h (fun r h19 => ∃ y20, r = some (.int y20) ∧ eb_KO h19 ∧ ((y20 = 0 → eb_Sn (d + 1) m_X10_doAll h0 2 [(0, .ref s_EB), (1, .ref a1), (2, .ref a2), (3, .int (x3 + 1))] [] h19 Q) ∧ (¬ (y20 = 0) → Q (some (.int x3)) h19)))))))))) : eb_Sn (d + 1) m_X10_doAll h0 2 [(0, .ref s_EB), (1, .ref a1), (2, .ref a2), (3, .int x3)] [] h Q := by
  refine eb_iload_n (pc := 2) (n := 3) (i := 3) rfl rfl rfl ?_
  refine eb_aload_n (pc := 3) (n := 1) (i := 1) rfl rfl rfl ?_
  refine eb_getI (pc := 4) rfl ka1 (by decide) (by decide) rfl ?_
  refine eb_icmp_ge (pc := 7) (tgt := 34) rfl (by decide) (fun c1 => ?_) (fun c1 => ?_)
  · replace w := w.1 c1
    refine eb_aload_n (pc := 34) (n := 1) (i := 1) rfl rfl rfl ?_
    refine eb_getI (pc := 35) rfl ka1 (by decide) (by decide) rfl ?_
    exact eb_ireturn (pc := 38) rfl rfl rfl w
  · replace w := w.2 c1
    refine eb_aload_n (pc := 10) (n := 0) (i := 0) rfl rfl rfl ?_
    obtain ⟨r2, q3, k4, w⟩ := w
    refine eb_getR (pc := 11) rfl rfl (by decide) (by decide) rfl q3 ?_
    refine eb_aload_n (pc := 14) (n := 2) (i := 2) rfl rfl rfl ?_
    refine eb_aload_n (pc := 15) (n := 1) (i := 1) rfl rfl rfl ?_
    refine eb_iload_n (pc := 16) (n := 3) (i := 3) rfl rfl rfl ?_
    refine eb_ctV (pc := 17) (As := [.int x3]) (rest := [.ref a2, .ref r2]) rfl (by decide) rfl ka1 (by decide) rfl (Nat.le_of_ble_eq_true rfl) ?_
    refine eb_bodyQ (by decide) ok_X8_numberAt (Nat.le_of_ble_eq_true rfl) ?_
    change eb_Sn _ m_X8_numberAt _ 0 [(0, .ref a1), (1, .int x3)] [] _ _
    refine eb_iload_n (pc := 0) (n := 1) (i := 1) rfl rfl rfl ?_
    refine eb_if_lt (pc := 1) (tgt := 22) rfl (by decide) (fun c5 => ?_) (fun c5 => ?_)
    · replace w := w.1 c5
      refine eb_lconst (pc := 22) (n := 0) (v := 0) rfl rfl ?_
      refine eb_lreturn (pc := 23) rfl rfl ?_
      change eb_Sn _ _ _ 20 _ [.long 0, .ref a2, .ref r2] _ _
      refine eb_ctV (pc := 20) (As := [.ref a2, .long 0]) (rest := []) rfl (by decide) rfl k4 (by decide) rfl (Nat.le_of_ble_eq_true rfl) ?_
      refine eb_Ct.mono w ?_
      rintro r h11 ⟨y12, rfl, ko13, w⟩
      change eb_Sn _ _ _ 23 _ [.int y12] _ _
      refine eb_if_eq (pc := 23) (tgt := 28) rfl (by decide) (fun c14 => ?_) (fun c14 => ?_)
      · replace w := w.1 c14
        refine eb_iinc (pc := 28) (i := 3) (n := 1) (v := x3 + 1) (ls2 := [(3, .int (x3 + 1)), (0, .ref s_EB), (1, .ref a1), (2, .ref a2)]) (Nat.le_of_ble_eq_true rfl) rfl rfl rfl rfl ?_
        refine eb_goto (pc := 31) (tgt := 2) rfl (by decide) ?_
        exact eb_pick [1, 2, 3, 0] rfl w
      · replace w := w.2 c14
        refine eb_iload_n (pc := 26) (n := 3) (i := 3) rfl rfl rfl ?_
        exact eb_ireturn (pc := 27) rfl rfl rfl w
    · replace w := w.2 c5
      refine eb_iload_n (pc := 4) (n := 1) (i := 1) rfl rfl rfl ?_
      refine eb_aload_n (pc := 5) (n := 0) (i := 0) rfl rfl rfl ?_
      obtain ⟨r6, q7, k8, w⟩ := w
      refine eb_getR (pc := 6) rfl ka1 (by decide) (by decide) rfl q7 ?_
      refine eb_alen (pc := 9) rfl (by rw [k8]; decide) (by rw [k8]; decide) rfl ?_
      refine eb_icmp_ge (pc := 10) (tgt := 22) rfl (by decide) (fun c9 => ?_) (fun c9 => ?_)
      · replace w := w.1 c9
        refine eb_lconst (pc := 22) (n := 0) (v := 0) rfl rfl ?_
        refine eb_lreturn (pc := 23) rfl rfl ?_
        change eb_Sn _ _ _ 20 _ [.long 0, .ref a2, .ref r2] _ _
        refine eb_ctV (pc := 20) (As := [.ref a2, .long 0]) (rest := []) rfl (by decide) rfl k4 (by decide) rfl (Nat.le_of_ble_eq_true rfl) ?_
        refine eb_Ct.mono w ?_
        rintro r h15 ⟨y16, rfl, ko17, w⟩
        change eb_Sn _ _ _ 23 _ [.int y16] _ _
        refine eb_if_eq (pc := 23) (tgt := 28) rfl (by decide) (fun c18 => ?_) (fun c18 => ?_)
        · replace w := w.1 c18
          refine eb_iinc (pc := 28) (i := 3) (n := 1) (v := x3 + 1) (ls2 := [(3, .int (x3 + 1)), (0, .ref s_EB), (1, .ref a1), (2, .ref a2)]) (Nat.le_of_ble_eq_true rfl) rfl rfl rfl rfl ?_
          refine eb_goto (pc := 31) (tgt := 2) rfl (by decide) ?_
          exact eb_pick [1, 2, 3, 0] rfl w
        · replace w := w.2 c18
          refine eb_iload_n (pc := 26) (n := 3) (i := 3) rfl rfl rfl ?_
          exact eb_ireturn (pc := 27) rfl rfl rfl w
      · replace w := w.2 c9
        refine eb_aload_n (pc := 13) (n := 0) (i := 0) rfl rfl rfl ?_
        refine eb_getR (pc := 14) rfl ka1 (by decide) (by decide) rfl q7 ?_
        refine eb_iload_n (pc := 17) (n := 1) (i := 1) rfl rfl rfl ?_
        obtain ⟨c10, w⟩ := w
        refine eb_laload (pc := 18) rfl k8 c10 ?_
        refine eb_goto (pc := 19) (tgt := 23) rfl (by decide) ?_
        refine eb_lreturn (pc := 23) rfl rfl ?_
        change eb_Sn _ _ _ 20 _ [.long (eb_J h r6 x3.toNatClampNeg), .ref a2, .ref r2] _ _
        refine eb_ctV (pc := 20) (As := [.ref a2, .long (eb_J h r6 x3.toNatClampNeg)]) (rest := []) rfl (by decide) rfl k4 (by decide) rfl (Nat.le_of_ble_eq_true rfl) ?_
        refine eb_Ct.mono w ?_
        rintro r h19 ⟨y20, rfl, ko21, w⟩
        change eb_Sn _ _ _ 23 _ [.int y20] _ _
        refine eb_if_eq (pc := 23) (tgt := 28) rfl (by decide) (fun c22 => ?_) (fun c22 => ?_)
        · replace w := w.1 c22
          refine eb_iinc (pc := 28) (i := 3) (n := 1) (v := x3 + 1) (ls2 := [(3, .int (x3 + 1)), (0, .ref s_EB), (1, .ref a1), (2, .ref a2)]) (Nat.le_of_ble_eq_true rfl) rfl rfl rfl rfl ?_
          refine eb_goto (pc := 31) (tgt := 2) rfl (by decide) ?_
          exact eb_pick [1, 2, 3, 0] rfl w
        · replace w := w.2 c22
          refine eb_iload_n (pc := 26) (n := 3) (i := 3) rfl rfl rfl ?_
          exact eb_ireturn (pc := 27) rfl rfl rfl w
theorem T_X10_doAll {d : Nat} {h : eb_H} {Q : Option Value → eb_H → Prop} (a1 : Nat) (a2 : Nat) (ka1 : eb_kd a1 = 8) (ka2 : eb_kd a2 = 6) (ko : eb_KO h) (w : eb_Sn (d + 1) m_X10_doAll h 2 [(0, .ref s_EB), (1, .ref a1), (2, .ref a2), (3, .int 0)] [] h Q) : eb_Ct (d + 1) 140 [.ref s_EB, .ref a1, .ref a2] h Q :=
  eb_bodyQ (by decide) ok_X10_doAll (Nat.le_of_ble_eq_true rfl) (b_X10_doAll_0 (h0 := h) a1 a2 ka1 ka2 ko w)
theorem b_X10_bitOf_0 {d : Nat} {h0 h : eb_H} {Q : Option Value → eb_H → Prop} (x0 : Int32)  (ko : eb_KO h) (w : Q (some (.int (if (1 : Int32) ≤ x0 then (1 : Int32) <<< ((x0 - 1) &&& 31) else 0 : Int32))) h) : eb_Sn d m_X10_bitOf h0 0 [(0, .int x0)] [] h Q := by
  refine eb_iload_n (pc := 0) (n := 0) (i := 0) rfl rfl rfl ?_
  refine eb_iconst (pc := 1) (n := 1) (v := 1) rfl rfl ?_
  refine eb_joinI (pc2 := 14) (ls2 := [(0, .int x0)]) (st2 := []) (v := (if (1 : Int32) ≤ x0 then (1 : Int32) <<< ((x0 - 1) &&& 31) else 0 : Int32)) ?_ (fun jj2 => ?_)
  · exact eb_ireturn (pc := 14) rfl rfl rfl w
  refine eb_icmp_ge (pc := 2) (tgt := 9) rfl (by decide) (fun c1 => ?_) (fun c1 => ?_)
  · refine eb_iconst (pc := 9) (n := 1) (v := 1) rfl rfl ?_
    refine eb_iload_n (pc := 10) (n := 0) (i := 0) rfl rfl rfl ?_
    refine eb_iconst (pc := 11) (n := 1) (v := 1) rfl rfl ?_
    refine eb_isub (pc := 12) rfl ?_
    refine eb_ishl (pc := 13) rfl ?_
    exact jj2 _ (by simp only [if_pos c1])
  · refine eb_iconst (pc := 5) (n := 0) (v := 0) rfl rfl ?_
    refine eb_goto (pc := 6) (tgt := 14) rfl (by decide) ?_
    exact jj2 _ (by simp only [if_neg c1])
theorem T_X10_bitOf {d : Nat} {h : eb_H} {Q : Option Value → eb_H → Prop} (x0 : Int32)  (ko : eb_KO h) (w : Q (some (.int (if (1 : Int32) ≤ x0 then (1 : Int32) <<< ((x0 - 1) &&& 31) else 0 : Int32))) h) : eb_Ct d 141 [.int x0] h Q :=
  eb_bodyQ (by decide) ok_X10_bitOf (Nat.le_of_ble_eq_true rfl) (b_X10_bitOf_0 (h0 := h) x0  ko w)
theorem b_X10_noTray_0 {d : Nat} {h0 h : eb_H} {Q : Option Value → eb_H → Prop} (x0 : Int32)  (ko : eb_KO h) (w : Q (some (.int (eb_q ((x0 < 0) ∨ (¬ (x0 < (4 : Int32))))))) h) : eb_Sn d m_X10_noTray h0 0 [(0, .int x0)] [] h Q := by
  refine eb_iload_n (pc := 0) (n := 0) (i := 0) rfl rfl rfl ?_
  refine eb_joinI (pc2 := 14) (ls2 := [(0, .int x0)]) (st2 := []) (v := eb_q ((x0 < 0) ∨ (¬ (x0 < (4 : Int32))))) ?_ (fun jj3 => ?_)
  · exact eb_ireturn (pc := 14) rfl rfl eb_qn w
  refine eb_if_lt (pc := 1) (tgt := 9) rfl (by decide) (fun c1 => ?_) (fun c1 => ?_)
  · refine eb_iconst (pc := 9) (n := 1) (v := 1) rfl rfl ?_
    refine eb_goto (pc := 10) (tgt := 14) rfl (by decide) ?_
    exact jj3 1 (eb_qt (Or.inl c1)).symm
  · refine eb_iload_n (pc := 4) (n := 0) (i := 0) rfl rfl rfl ?_
    refine eb_iconst (pc := 5) (n := 4) (v := 4) rfl rfl ?_
    refine eb_icmp_lt (pc := 6) (tgt := 13) rfl (by decide) (fun c2 => ?_) (fun c2 => ?_)
    · refine eb_iconst (pc := 13) (n := 0) (v := 0) rfl rfl ?_
      exact jj3 0 (eb_qf (fun z => z.elim c1 (fun z => z c2))).symm
    · refine eb_iconst (pc := 9) (n := 1) (v := 1) rfl rfl ?_
      refine eb_goto (pc := 10) (tgt := 14) rfl (by decide) ?_
      exact jj3 1 (eb_qt (Or.inr c2)).symm
theorem T_X10_noTray {d : Nat} {h : eb_H} {Q : Option Value → eb_H → Prop} (x0 : Int32)  (ko : eb_KO h) (w : Q (some (.int (eb_q ((x0 < 0) ∨ (¬ (x0 < (4 : Int32))))))) h) : eb_Ct d 142 [.int x0] h Q :=
  eb_bodyQ (by decide) ok_X10_noTray (Nat.le_of_ble_eq_true rfl) (b_X10_noTray_0 (h0 := h) x0  ko w)
theorem b_X10_notSet_0 {d : Nat} {h0 h : eb_H} {Q : Option Value → eb_H → Prop} (x0 : Int32)  (ko : eb_KO h) (w : Q (some (.int (eb_q ((x0 < 0) ∨ (¬ (x0 < (64 : Int32))))))) h) : eb_Sn d m_X10_notSet h0 0 [(0, .int x0)] [] h Q := by
  refine eb_iload_n (pc := 0) (n := 0) (i := 0) rfl rfl rfl ?_
  refine eb_joinI (pc2 := 15) (ls2 := [(0, .int x0)]) (st2 := []) (v := eb_q ((x0 < 0) ∨ (¬ (x0 < (64 : Int32))))) ?_ (fun jj3 => ?_)
  · exact eb_ireturn (pc := 15) rfl rfl eb_qn w
  refine eb_if_lt (pc := 1) (tgt := 10) rfl (by decide) (fun c1 => ?_) (fun c1 => ?_)
  · refine eb_iconst (pc := 10) (n := 1) (v := 1) rfl rfl ?_
    refine eb_goto (pc := 11) (tgt := 15) rfl (by decide) ?_
    exact jj3 1 (eb_qt (Or.inl c1)).symm
  · refine eb_iload_n (pc := 4) (n := 0) (i := 0) rfl rfl rfl ?_
    refine eb_bipush (pc := 5) (n := 64) (v := 64) rfl rfl ?_
    refine eb_icmp_lt (pc := 7) (tgt := 14) rfl (by decide) (fun c2 => ?_) (fun c2 => ?_)
    · refine eb_iconst (pc := 14) (n := 0) (v := 0) rfl rfl ?_
      exact jj3 0 (eb_qf (fun z => z.elim c1 (fun z => z c2))).symm
    · refine eb_iconst (pc := 10) (n := 1) (v := 1) rfl rfl ?_
      refine eb_goto (pc := 11) (tgt := 15) rfl (by decide) ?_
      exact jj3 1 (eb_qt (Or.inr c2)).symm
theorem T_X10_notSet {d : Nat} {h : eb_H} {Q : Option Value → eb_H → Prop} (x0 : Int32)  (ko : eb_KO h) (w : Q (some (.int (eb_q ((x0 < 0) ∨ (¬ (x0 < (64 : Int32))))))) h) : eb_Ct d 143 [.int x0] h Q :=
  eb_bodyQ (by decide) ok_X10_notSet (Nat.le_of_ble_eq_true rfl) (b_X10_notSet_0 (h0 := h) x0  ko w)
theorem b_X10_notSets_0 {d : Nat} {h0 h : eb_H} {Q : Option Value → eb_H → Prop} (x0 : Int32) (x1 : Int32)  (ko : eb_KO h) (w : Q (some (.int (eb_q (((x0 < 0) ∨ (¬ (x0 < (64 : Int32)))) ∨ ((x1 < 0) ∨ ((¬ (x1 < (64 : Int32))) ∨ (¬ ((x0 &&& x1) = 0)))))))) h) : eb_Sn (d + 1) m_X10_notSets h0 0 [(0, .int x0), (1, .int x1)] [] h Q := by
  refine eb_iload_n (pc := 0) (n := 0) (i := 0) rfl rfl rfl ?_
  refine eb_joinI (pc2 := 4) (ls2 := [(0, .int x0), (1, .int x1)]) (st2 := []) (v := eb_q ((x0 < 0) ∨ (¬ (x0 < (64 : Int32))))) ?_ (fun jj9 => ?_)
  · refine eb_joinI (pc2 := 25) (ls2 := [(0, .int x0), (1, .int x1)]) (st2 := []) (v := eb_q (((x0 < 0) ∨ (¬ (x0 < (64 : Int32)))) ∨ ((x1 < 0) ∨ ((¬ (x1 < (64 : Int32))) ∨ (¬ ((x0 &&& x1) = 0)))))) ?_ (fun jj7 => ?_)
    · exact eb_ireturn (pc := 25) rfl rfl eb_qn w
    refine eb_if_ne (pc := 4) (tgt := 20) rfl (by decide) (fun c3 => ?_) (fun c3 => ?_)
    · replace c3 := eb_q1.mp c3
      refine eb_iconst (pc := 20) (n := 1) (v := 1) rfl rfl ?_
      refine eb_goto (pc := 21) (tgt := 25) rfl (by decide) ?_
      exact jj7 1 (eb_qt (Or.inl c3)).symm
    · replace c3 := eb_q0.mp c3
      refine eb_iload_n (pc := 7) (n := 1) (i := 1) rfl rfl rfl ?_
      refine eb_ctS (pc := 8) (As := [.int x1]) (rest := []) rfl (by decide) (by decide) rfl rfl (Nat.le_of_ble_eq_true rfl) ?_
      refine eb_bodyQ (by decide) ok_X10_notSet (Nat.le_of_ble_eq_true rfl) ?_
      change eb_Sn _ m_X10_notSet _ 0 [(0, .int x1)] [] _ _
      refine eb_iload_n (pc := 0) (n := 0) (i := 0) rfl rfl rfl ?_
      refine eb_if_lt (pc := 1) (tgt := 10) rfl (by decide) (fun c4 => ?_) (fun c4 => ?_)
      · refine eb_iconst (pc := 10) (n := 1) (v := 1) rfl rfl ?_
        refine eb_goto (pc := 11) (tgt := 15) rfl (by decide) ?_
        refine eb_ireturn (pc := 15) rfl rfl (by decide) ?_
        change eb_Sn _ _ _ 11 _ [.int 1] _ _
        refine eb_if_ne (pc := 11) (tgt := 20) rfl (by decide) (fun c => ?_) (fun c => absurd c (by decide))
        refine eb_iconst (pc := 20) (n := 1) (v := 1) rfl rfl ?_
        refine eb_goto (pc := 21) (tgt := 25) rfl (by decide) ?_
        exact jj7 1 (eb_qt (Or.inr (Or.inl c4))).symm
      · refine eb_iload_n (pc := 4) (n := 0) (i := 0) rfl rfl rfl ?_
        refine eb_bipush (pc := 5) (n := 64) (v := 64) rfl rfl ?_
        refine eb_icmp_lt (pc := 7) (tgt := 14) rfl (by decide) (fun c5 => ?_) (fun c5 => ?_)
        · refine eb_iconst (pc := 14) (n := 0) (v := 0) rfl rfl ?_
          refine eb_ireturn (pc := 15) rfl rfl (by decide) ?_
          change eb_Sn _ _ _ 11 _ [.int 0] _ _
          refine eb_if_ne (pc := 11) (tgt := 20) rfl (by decide) (fun c => absurd c (by decide)) (fun c => ?_)
          refine eb_iload_n (pc := 14) (n := 0) (i := 0) rfl rfl rfl ?_
          refine eb_iload_n (pc := 15) (n := 1) (i := 1) rfl rfl rfl ?_
          refine eb_iand (pc := 16) rfl ?_
          refine eb_if_eq (pc := 17) (tgt := 24) rfl (by decide) (fun c6 => ?_) (fun c6 => ?_)
          · refine eb_iconst (pc := 24) (n := 0) (v := 0) rfl rfl ?_
            exact jj7 0 (eb_qf (fun z => z.elim c3 (fun z => z.elim c4 (fun z => z.elim (fun y => y c5) (fun z => z c6))))).symm
          · refine eb_iconst (pc := 20) (n := 1) (v := 1) rfl rfl ?_
            refine eb_goto (pc := 21) (tgt := 25) rfl (by decide) ?_
            exact jj7 1 (eb_qt (Or.inr (Or.inr (Or.inr c6)))).symm
        · refine eb_iconst (pc := 10) (n := 1) (v := 1) rfl rfl ?_
          refine eb_goto (pc := 11) (tgt := 15) rfl (by decide) ?_
          refine eb_ireturn (pc := 15) rfl rfl (by decide) ?_
          change eb_Sn _ _ _ 11 _ [.int 1] _ _
          refine eb_if_ne (pc := 11) (tgt := 20) rfl (by decide) (fun c => ?_) (fun c => absurd c (by decide))
          refine eb_iconst (pc := 20) (n := 1) (v := 1) rfl rfl ?_
          refine eb_goto (pc := 21) (tgt := 25) rfl (by decide) ?_
          exact jj7 1 (eb_qt (Or.inr (Or.inr (Or.inl c5)))).symm
  refine eb_ctS (pc := 1) (As := [.int x0]) (rest := []) rfl (by decide) (by decide) rfl rfl (Nat.le_of_ble_eq_true rfl) ?_
  refine eb_bodyQ (by decide) ok_X10_notSet (Nat.le_of_ble_eq_true rfl) ?_
  change eb_Sn _ m_X10_notSet _ 0 [(0, .int x0)] [] _ _
  refine eb_iload_n (pc := 0) (n := 0) (i := 0) rfl rfl rfl ?_
  refine eb_if_lt (pc := 1) (tgt := 10) rfl (by decide) (fun c1 => ?_) (fun c1 => ?_)
  · refine eb_iconst (pc := 10) (n := 1) (v := 1) rfl rfl ?_
    refine eb_goto (pc := 11) (tgt := 15) rfl (by decide) ?_
    refine eb_ireturn (pc := 15) rfl rfl (by decide) ?_
    change eb_Sn _ _ _ 4 _ _ _ _
    exact jj9 1 (eb_qt (Or.inl c1)).symm
  · refine eb_iload_n (pc := 4) (n := 0) (i := 0) rfl rfl rfl ?_
    refine eb_bipush (pc := 5) (n := 64) (v := 64) rfl rfl ?_
    refine eb_icmp_lt (pc := 7) (tgt := 14) rfl (by decide) (fun c2 => ?_) (fun c2 => ?_)
    · refine eb_iconst (pc := 14) (n := 0) (v := 0) rfl rfl ?_
      refine eb_ireturn (pc := 15) rfl rfl (by decide) ?_
      change eb_Sn _ _ _ 4 _ _ _ _
      exact jj9 0 (eb_qf (fun z => z.elim c1 (fun z => z c2))).symm
    · refine eb_iconst (pc := 10) (n := 1) (v := 1) rfl rfl ?_
      refine eb_goto (pc := 11) (tgt := 15) rfl (by decide) ?_
      refine eb_ireturn (pc := 15) rfl rfl (by decide) ?_
      change eb_Sn _ _ _ 4 _ _ _ _
      exact jj9 1 (eb_qt (Or.inr c2)).symm
theorem T_X10_notSets {d : Nat} {h : eb_H} {Q : Option Value → eb_H → Prop} (x0 : Int32) (x1 : Int32)  (ko : eb_KO h) (w : Q (some (.int (eb_q (((x0 < 0) ∨ (¬ (x0 < (64 : Int32)))) ∨ ((x1 < 0) ∨ ((¬ (x1 < (64 : Int32))) ∨ (¬ ((x0 &&& x1) = 0)))))))) h) : eb_Ct (d + 1) 144 [.int x0, .int x1] h Q :=
  eb_bodyQ (by decide) ok_X10_notSets (Nat.le_of_ble_eq_true rfl) (b_X10_notSets_0 (h0 := h) x0 x1  ko w)
theorem b_X10_comingRefusal_0 {d : Nat} {h0 h : eb_H} {Q : Option Value → eb_H → Prop} (x1 : Int32) (x2 : Int32) (x3 : Int32)  (ko : eb_KO h) (w : ∃ r1, eb_R h s_EB 2 = some r1 ∧ eb_kd r1 = 9 ∧ (((¬ (x1 < 0)) ∧ (¬ (((eb_I h r1 0) * (eb_I h r1 1)) ≤ x1)) → eb_Ct d 144 [.int x2, .int x3] h (fun r h7 => ∃ y8, r = some (.int y8) ∧ eb_KO h7 ∧ Q (some (.int (if y8 = 0 then 0 else (-3) : Int32))) h7)) ∧ (¬ ((¬ (x1 < 0)) ∧ (¬ (((eb_I h r1 0) * (eb_I h r1 1)) ≤ x1))) → Q (some (.int (-2))) h))) : eb_Sn (d + 1) m_X10_comingRefusal h0 0 [(0, .ref s_EB), (1, .int x1), (2, .int x2), (3, .int x3)] [] h Q := by
  refine eb_aload_n (pc := 0) (n := 0) (i := 0) rfl rfl rfl ?_
  obtain ⟨r1, q2, k3, w⟩ := w
  refine eb_getR (pc := 1) rfl rfl (by decide) (by decide) rfl q2 ?_
  refine eb_iload_n (pc := 4) (n := 1) (i := 1) rfl rfl rfl ?_
  refine eb_joinI (pc2 := 8) (ls2 := [(0, .ref s_EB), (1, .int x1), (2, .int x2), (3, .int x3)]) (st2 := []) (v := eb_q ((¬ (x1 < 0)) ∧ (¬ (((eb_I h r1 0) * (eb_I h r1 1)) ≤ x1)))) ?_ (fun jj13 => ?_)
  · refine eb_if_ne (pc := 8) (tgt := 14) rfl (by decide) (fun c6 => ?_) (fun c6 => ?_)
    · replace c6 := eb_q1.mp c6
      replace w := w.1 c6
      refine eb_iload_n (pc := 14) (n := 2) (i := 2) rfl rfl rfl ?_
      refine eb_iload_n (pc := 15) (n := 3) (i := 3) rfl rfl rfl ?_
      refine eb_ctS (pc := 16) (As := [.int x2, .int x3]) (rest := []) rfl (by decide) (by decide) rfl rfl (Nat.le_of_ble_eq_true rfl) ?_
      refine eb_Ct.mono w ?_
      rintro r h7 ⟨y8, rfl, ko9, w⟩
      change eb_Sn _ _ _ 19 _ [.int y8] _ _
      refine eb_joinI (pc2 := 28) (ls2 := [(0, .ref s_EB), (1, .int x1), (2, .int x2), (3, .int x3)]) (st2 := []) (v := (if y8 = 0 then 0 else (-3) : Int32)) ?_ (fun jj11 => ?_)
      · exact eb_ireturn (pc := 28) rfl rfl rfl w
      refine eb_if_eq (pc := 19) (tgt := 27) rfl (by decide) (fun c10 => ?_) (fun c10 => ?_)
      · refine eb_iconst (pc := 27) (n := 0) (v := 0) rfl rfl ?_
        exact jj11 _ (by simp only [if_pos c10])
      · refine eb_bipush (pc := 22) (n := -3) (v := (-3)) rfl rfl ?_
        refine eb_goto (pc := 24) (tgt := 28) rfl (by decide) ?_
        exact jj11 _ (by simp only [if_neg c10])
    · replace c6 := eb_q0.mp c6
      replace w := w.2 c6
      refine eb_bipush (pc := 11) (n := -2) (v := (-2)) rfl rfl ?_
      exact eb_ireturn (pc := 13) rfl rfl rfl w
  refine eb_ctV (pc := 5) (As := [.int x1]) (rest := []) rfl (by decide) rfl k3 (by decide) rfl (Nat.le_of_ble_eq_true rfl) ?_
  refine eb_bodyQ (by decide) ok_X9_has (Nat.le_of_ble_eq_true rfl) ?_
  change eb_Sn _ m_X9_has _ 0 [(0, .ref r1), (1, .int x1)] [] _ _
  refine eb_iload_n (pc := 0) (n := 1) (i := 1) rfl rfl rfl ?_
  refine eb_if_lt (pc := 1) (tgt := 21) rfl (by decide) (fun c4 => ?_) (fun c4 => ?_)
  · refine eb_iconst (pc := 21) (n := 0) (v := 0) rfl rfl ?_
    refine eb_ireturn (pc := 22) rfl rfl (by decide) ?_
    change eb_Sn _ _ _ 8 _ _ _ _
    exact jj13 0 (eb_qf (fun z => z.1 c4)).symm
  · refine eb_iload_n (pc := 4) (n := 1) (i := 1) rfl rfl rfl ?_
    refine eb_aload_n (pc := 5) (n := 0) (i := 0) rfl rfl rfl ?_
    refine eb_getI (pc := 6) rfl k3 (by decide) (by decide) rfl ?_
    refine eb_aload_n (pc := 9) (n := 0) (i := 0) rfl rfl rfl ?_
    refine eb_getI (pc := 10) rfl k3 (by decide) (by decide) rfl ?_
    refine eb_imul (pc := 13) rfl ?_
    refine eb_icmp_ge (pc := 14) (tgt := 21) rfl (by decide) (fun c5 => ?_) (fun c5 => ?_)
    · refine eb_iconst (pc := 21) (n := 0) (v := 0) rfl rfl ?_
      refine eb_ireturn (pc := 22) rfl rfl (by decide) ?_
      change eb_Sn _ _ _ 8 _ _ _ _
      exact jj13 0 (eb_qf (fun z => (fun z => z c5) z.2)).symm
    · refine eb_iconst (pc := 17) (n := 1) (v := 1) rfl rfl ?_
      refine eb_goto (pc := 18) (tgt := 22) rfl (by decide) ?_
      refine eb_ireturn (pc := 22) rfl rfl (by decide) ?_
      change eb_Sn _ _ _ 8 _ _ _ _
      exact jj13 1 (eb_qt (⟨c4, c5⟩)).symm
theorem T_X10_comingRefusal {d : Nat} {h : eb_H} {Q : Option Value → eb_H → Prop} (x1 : Int32) (x2 : Int32) (x3 : Int32)  (ko : eb_KO h) (w : ∃ r1, eb_R h s_EB 2 = some r1 ∧ eb_kd r1 = 9 ∧ (((¬ (x1 < 0)) ∧ (¬ (((eb_I h r1 0) * (eb_I h r1 1)) ≤ x1)) → eb_Ct d 144 [.int x2, .int x3] h (fun r h7 => ∃ y8, r = some (.int y8) ∧ eb_KO h7 ∧ Q (some (.int (if y8 = 0 then 0 else (-3) : Int32))) h7)) ∧ (¬ ((¬ (x1 < 0)) ∧ (¬ (((eb_I h r1 0) * (eb_I h r1 1)) ≤ x1))) → Q (some (.int (-2))) h))) : eb_Ct (d + 1) 145 [.ref s_EB, .int x1, .int x2, .int x3] h Q :=
  eb_bodyQ (by decide) ok_X10_comingRefusal (Nat.le_of_ble_eq_true rfl) (b_X10_comingRefusal_0 (h0 := h) x1 x2 x3  ko w)
theorem b_X10_cameRefusal_0 {d : Nat} {h0 h : eb_H} {Q : Option Value → eb_H → Prop} (x1 : Int32) (x2 : Int32) (x3 : Int32)  (ko : eb_KO h) (w : ∃ r1, eb_R h s_EB 2 = some r1 ∧ eb_kd r1 = 9 ∧ (((¬ (x2 < 0)) ∧ (¬ (((eb_I h r1 0) * (eb_I h r1 1)) ≤ x2)) → Q (some (.int (if x1 < 0 then (-3) else (if (10 : Int32) < x1 then (-3) else (if x3 < 0 then (-3) else (if x3 < (64 : Int32) then 0 else (-3)))) : Int32))) h) ∧ (¬ ((¬ (x2 < 0)) ∧ (¬ (((eb_I h r1 0) * (eb_I h r1 1)) ≤ x2))) → Q (some (.int (-2))) h))) : eb_Sn (d + 1) m_X10_cameRefusal h0 0 [(0, .ref s_EB), (1, .int x1), (2, .int x2), (3, .int x3)] [] h Q := by
  refine eb_aload_n (pc := 0) (n := 0) (i := 0) rfl rfl rfl ?_
  obtain ⟨r1, q2, k3, w⟩ := w
  refine eb_getR (pc := 1) rfl rfl (by decide) (by decide) rfl q2 ?_
  refine eb_iload_n (pc := 4) (n := 2) (i := 2) rfl rfl rfl ?_
  refine eb_joinI (pc2 := 8) (ls2 := [(0, .ref s_EB), (1, .int x1), (2, .int x2), (3, .int x3)]) (st2 := []) (v := eb_q ((¬ (x2 < 0)) ∧ (¬ (((eb_I h r1 0) * (eb_I h r1 1)) ≤ x2)))) ?_ (fun jj13 => ?_)
  · refine eb_if_ne (pc := 8) (tgt := 14) rfl (by decide) (fun c6 => ?_) (fun c6 => ?_)
    · replace c6 := eb_q1.mp c6
      replace w := w.1 c6
      refine eb_iload_n (pc := 14) (n := 1) (i := 1) rfl rfl rfl ?_
      refine eb_joinI (pc2 := 37) (ls2 := [(0, .ref s_EB), (1, .int x1), (2, .int x2), (3, .int x3)]) (st2 := []) (v := (if x1 < 0 then (-3) else (if (10 : Int32) < x1 then (-3) else (if x3 < 0 then (-3) else (if x3 < (64 : Int32) then 0 else (-3)))) : Int32)) ?_ (fun jj11 => ?_)
      · exact eb_ireturn (pc := 37) rfl rfl rfl w
      refine eb_if_lt (pc := 15) (tgt := 31) rfl (by decide) (fun c7 => ?_) (fun c7 => ?_)
      · refine eb_bipush (pc := 31) (n := -3) (v := (-3)) rfl rfl ?_
        refine eb_goto (pc := 33) (tgt := 37) rfl (by decide) ?_
        exact jj11 _ (by simp only [if_pos c7])
      · refine eb_iload_n (pc := 18) (n := 1) (i := 1) rfl rfl rfl ?_
        refine eb_bipush (pc := 19) (n := 10) (v := 10) rfl rfl ?_
        refine eb_icmp_gt (pc := 21) (tgt := 31) rfl (by decide) (fun c8 => ?_) (fun c8 => ?_)
        · refine eb_bipush (pc := 31) (n := -3) (v := (-3)) rfl rfl ?_
          refine eb_goto (pc := 33) (tgt := 37) rfl (by decide) ?_
          exact jj11 _ (by simp only [if_neg c7, if_pos c8])
        · refine eb_iload_n (pc := 24) (n := 3) (i := 3) rfl rfl rfl ?_
          refine eb_ctS (pc := 25) (As := [.int x3]) (rest := []) rfl (by decide) (by decide) rfl rfl (Nat.le_of_ble_eq_true rfl) ?_
          refine eb_bodyQ (by decide) ok_X10_notSet (Nat.le_of_ble_eq_true rfl) ?_
          change eb_Sn _ m_X10_notSet _ 0 [(0, .int x3)] [] _ _
          refine eb_iload_n (pc := 0) (n := 0) (i := 0) rfl rfl rfl ?_
          refine eb_if_lt (pc := 1) (tgt := 10) rfl (by decide) (fun c9 => ?_) (fun c9 => ?_)
          · refine eb_iconst (pc := 10) (n := 1) (v := 1) rfl rfl ?_
            refine eb_goto (pc := 11) (tgt := 15) rfl (by decide) ?_
            refine eb_ireturn (pc := 15) rfl rfl (by decide) ?_
            change eb_Sn _ _ _ 28 _ [.int 1] _ _
            refine eb_if_eq (pc := 28) (tgt := 36) rfl (by decide) (fun c => absurd c (by decide)) (fun c => ?_)
            refine eb_bipush (pc := 31) (n := -3) (v := (-3)) rfl rfl ?_
            refine eb_goto (pc := 33) (tgt := 37) rfl (by decide) ?_
            exact jj11 _ (by simp only [if_neg c7, if_neg c8, if_pos c9])
          · refine eb_iload_n (pc := 4) (n := 0) (i := 0) rfl rfl rfl ?_
            refine eb_bipush (pc := 5) (n := 64) (v := 64) rfl rfl ?_
            refine eb_icmp_lt (pc := 7) (tgt := 14) rfl (by decide) (fun c10 => ?_) (fun c10 => ?_)
            · refine eb_iconst (pc := 14) (n := 0) (v := 0) rfl rfl ?_
              refine eb_ireturn (pc := 15) rfl rfl (by decide) ?_
              change eb_Sn _ _ _ 28 _ [.int 0] _ _
              refine eb_if_eq (pc := 28) (tgt := 36) rfl (by decide) (fun c => ?_) (fun c => absurd c (by decide))
              refine eb_iconst (pc := 36) (n := 0) (v := 0) rfl rfl ?_
              exact jj11 _ (by simp only [if_neg c7, if_neg c8, if_neg c9, if_pos c10])
            · refine eb_iconst (pc := 10) (n := 1) (v := 1) rfl rfl ?_
              refine eb_goto (pc := 11) (tgt := 15) rfl (by decide) ?_
              refine eb_ireturn (pc := 15) rfl rfl (by decide) ?_
              change eb_Sn _ _ _ 28 _ [.int 1] _ _
              refine eb_if_eq (pc := 28) (tgt := 36) rfl (by decide) (fun c => absurd c (by decide)) (fun c => ?_)
              refine eb_bipush (pc := 31) (n := -3) (v := (-3)) rfl rfl ?_
              refine eb_goto (pc := 33) (tgt := 37) rfl (by decide) ?_
              exact jj11 _ (by simp only [if_neg c7, if_neg c8, if_neg c9, if_neg c10])
    · replace c6 := eb_q0.mp c6
      replace w := w.2 c6
      refine eb_bipush (pc := 11) (n := -2) (v := (-2)) rfl rfl ?_
      exact eb_ireturn (pc := 13) rfl rfl rfl w
  refine eb_ctV (pc := 5) (As := [.int x2]) (rest := []) rfl (by decide) rfl k3 (by decide) rfl (Nat.le_of_ble_eq_true rfl) ?_
  refine eb_bodyQ (by decide) ok_X9_has (Nat.le_of_ble_eq_true rfl) ?_
  change eb_Sn _ m_X9_has _ 0 [(0, .ref r1), (1, .int x2)] [] _ _
  refine eb_iload_n (pc := 0) (n := 1) (i := 1) rfl rfl rfl ?_
  refine eb_if_lt (pc := 1) (tgt := 21) rfl (by decide) (fun c4 => ?_) (fun c4 => ?_)
  · refine eb_iconst (pc := 21) (n := 0) (v := 0) rfl rfl ?_
    refine eb_ireturn (pc := 22) rfl rfl (by decide) ?_
    change eb_Sn _ _ _ 8 _ _ _ _
    exact jj13 0 (eb_qf (fun z => z.1 c4)).symm
  · refine eb_iload_n (pc := 4) (n := 1) (i := 1) rfl rfl rfl ?_
    refine eb_aload_n (pc := 5) (n := 0) (i := 0) rfl rfl rfl ?_
    refine eb_getI (pc := 6) rfl k3 (by decide) (by decide) rfl ?_
    refine eb_aload_n (pc := 9) (n := 0) (i := 0) rfl rfl rfl ?_
    refine eb_getI (pc := 10) rfl k3 (by decide) (by decide) rfl ?_
    refine eb_imul (pc := 13) rfl ?_
    refine eb_icmp_ge (pc := 14) (tgt := 21) rfl (by decide) (fun c5 => ?_) (fun c5 => ?_)
    · refine eb_iconst (pc := 21) (n := 0) (v := 0) rfl rfl ?_
      refine eb_ireturn (pc := 22) rfl rfl (by decide) ?_
      change eb_Sn _ _ _ 8 _ _ _ _
      exact jj13 0 (eb_qf (fun z => (fun z => z c5) z.2)).symm
    · refine eb_iconst (pc := 17) (n := 1) (v := 1) rfl rfl ?_
      refine eb_goto (pc := 18) (tgt := 22) rfl (by decide) ?_
      refine eb_ireturn (pc := 22) rfl rfl (by decide) ?_
      change eb_Sn _ _ _ 8 _ _ _ _
      exact jj13 1 (eb_qt (⟨c4, c5⟩)).symm
theorem T_X10_cameRefusal {d : Nat} {h : eb_H} {Q : Option Value → eb_H → Prop} (x1 : Int32) (x2 : Int32) (x3 : Int32)  (ko : eb_KO h) (w : ∃ r1, eb_R h s_EB 2 = some r1 ∧ eb_kd r1 = 9 ∧ (((¬ (x2 < 0)) ∧ (¬ (((eb_I h r1 0) * (eb_I h r1 1)) ≤ x2)) → Q (some (.int (if x1 < 0 then (-3) else (if (10 : Int32) < x1 then (-3) else (if x3 < 0 then (-3) else (if x3 < (64 : Int32) then 0 else (-3)))) : Int32))) h) ∧ (¬ ((¬ (x2 < 0)) ∧ (¬ (((eb_I h r1 0) * (eb_I h r1 1)) ≤ x2))) → Q (some (.int (-2))) h))) : eb_Ct (d + 1) 146 [.ref s_EB, .int x1, .int x2, .int x3] h Q :=
  eb_bodyQ (by decide) ok_X10_cameRefusal (Nat.le_of_ble_eq_true rfl) (b_X10_cameRefusal_0 (h0 := h) x1 x2 x3  ko w)
theorem b_X10_flownRefusal_0 {d : Nat} {h0 h : eb_H} {Q : Option Value → eb_H → Prop} (a0 : Nat) (x1 : Int32) (ka0 : eb_kd a0 = 8) (ko : eb_KO h) (w : (((eb_I h a0 2) = 0 → (((eb_I h a0 3) < (1 : Int32) → Q (some (.int (-4))) h) ∧ (¬ ((eb_I h a0 3) < (1 : Int32)) → (((eb_I h a0 3) ≤ (12 : Int32) → eb_Sn (d + 1) m_X10_flownRefusal h0 32 [(0, .ref a0), (1, .int x1), (2, .int 0)] [] h Q) ∧ (¬ ((eb_I h a0 3) ≤ (12 : Int32)) → Q (some (.int (-4))) h))))) ∧ (¬ ((eb_I h a0 2) = 0) → Q (some (.int (-6))) h))) : eb_Sn (d + 1) m_X10_flownRefusal h0 0 [(0, .ref a0), (1, .int x1)] [] h Q := by
  refine eb_aload_n (pc := 0) (n := 0) (i := 0) rfl rfl rfl ?_
  refine eb_getI (pc := 1) rfl ka0 (by decide) (by decide) rfl ?_
  refine eb_if_eq (pc := 4) (tgt := 10) rfl (by decide) (fun c1 => ?_) (fun c1 => ?_)
  · replace w := w.1 c1
    refine eb_aload_n (pc := 10) (n := 0) (i := 0) rfl rfl rfl ?_
    refine eb_getI (pc := 11) rfl ka0 (by decide) (by decide) rfl ?_
    refine eb_iconst (pc := 14) (n := 1) (v := 1) rfl rfl ?_
    refine eb_icmp_lt (pc := 15) (tgt := 27) rfl (by decide) (fun c2 => ?_) (fun c2 => ?_)
    · replace w := w.1 c2
      refine eb_bipush (pc := 27) (n := -4) (v := (-4)) rfl rfl ?_
      exact eb_ireturn (pc := 29) rfl rfl rfl w
    · replace w := w.2 c2
      refine eb_aload_n (pc := 18) (n := 0) (i := 0) rfl rfl rfl ?_
      refine eb_getI (pc := 19) rfl ka0 (by decide) (by decide) rfl ?_
      refine eb_bipush (pc := 22) (n := 12) (v := 12) rfl rfl ?_
      refine eb_icmp_le (pc := 24) (tgt := 30) rfl (by decide) (fun c3 => ?_) (fun c3 => ?_)
      · replace w := w.1 c3
        refine eb_iconst (pc := 30) (n := 0) (v := 0) rfl rfl ?_
        refine eb_istore_n (pc := 31) (n := 2) (i := 2) (ls2 := [(2, .int 0), (0, .ref a0), (1, .int x1)]) rfl (Nat.le_of_ble_eq_true rfl) rfl rfl ?_
        exact eb_pick [1, 2, 0] rfl w
      · replace w := w.2 c3
        refine eb_bipush (pc := 27) (n := -4) (v := (-4)) rfl rfl ?_
        exact eb_ireturn (pc := 29) rfl rfl rfl w
  · replace w := w.2 c1
    refine eb_bipush (pc := 7) (n := -6) (v := (-6)) rfl rfl ?_
    exact eb_ireturn (pc := 9) rfl rfl rfl w
theorem b_X10_flownRefusal_32 {d : Nat} {h0 h : eb_H} {Q : Option Value → eb_H → Prop} (a0 : Nat) (x1 : Int32) (x2 : Int32) (ka0 : eb_kd a0 = 8) (ko : eb_KO h) (w : (((eb_I h a0 3) ≤ x2 → Q (some (.int (if (x1 < 0) ∨ (¬ (x1 < (64 : Int32))) then (-3) else 0 : Int32))) h) ∧ (¬ ((eb_I h a0 3) ≤ x2) → ((x2 < 0 → eb_Sn (d + 1) m_X10_flownRefusal h0 32 [(0, .ref a0), (1, .int x1), (2, .int (x2 + 1))] [] h Q) ∧ (¬ (x2 < 0) → ∃ r10, eb_R h a0 0 = some r10 ∧ eb_kd r10 = 14 ∧ (((Int32.ofNat (eb_ln r10)) ≤ x2 → eb_Sn (d + 1) m_X10_flownRefusal h0 32 [(0, .ref a0), (1, .int x1), (2, .int (x2 + 1))] [] h Q) ∧ (¬ ((Int32.ofNat (eb_ln r10)) ≤ x2) → (vp_in x2 (eb_ln r10)) ∧ (((eb_J h r10 x2.toNatClampNeg) < 0 → Q (some (.int (-3))) h) ∧ (¬ ((eb_J h r10 x2.toNatClampNeg) < 0) → (((eb_J h r10 x2.toNatClampNeg) < 4 → eb_Sn (d + 1) m_X10_flownRefusal h0 32 [(0, .ref a0), (1, .int x1), (2, .int (x2 + 1))] [] h Q) ∧ (¬ ((eb_J h r10 x2.toNatClampNeg) < 4) → Q (some (.int (-3))) h))))))))))) : eb_Sn (d + 1) m_X10_flownRefusal h0 32 [(0, .ref a0), (1, .int x1), (2, .int x2)] [] h Q := by
  refine eb_iload_n (pc := 32) (n := 2) (i := 2) rfl rfl rfl ?_
  refine eb_aload_n (pc := 33) (n := 0) (i := 0) rfl rfl rfl ?_
  refine eb_getI (pc := 34) rfl ka0 (by decide) (by decide) rfl ?_
  refine eb_icmp_ge (pc := 37) (tgt := 69) rfl (by decide) (fun c1 => ?_) (fun c1 => ?_)
  · replace w := w.1 c1
    refine eb_iload_n (pc := 69) (n := 1) (i := 1) rfl rfl rfl ?_
    refine eb_joinI (pc2 := 73) (ls2 := [(0, .ref a0), (1, .int x1), (2, .int x2)]) (st2 := []) (v := eb_q ((x1 < 0) ∨ (¬ (x1 < (64 : Int32))))) ?_ (fun jj7 => ?_)
    · refine eb_joinI (pc2 := 82) (ls2 := [(0, .ref a0), (1, .int x1), (2, .int x2)]) (st2 := []) (v := (if (x1 < 0) ∨ (¬ (x1 < (64 : Int32))) then (-3) else 0 : Int32)) ?_ (fun jj5 => ?_)
      · exact eb_ireturn (pc := 82) rfl rfl rfl w
      refine eb_if_eq (pc := 73) (tgt := 81) rfl (by decide) (fun c4 => ?_) (fun c4 => ?_)
      · replace c4 := eb_q0.mp c4
        refine eb_iconst (pc := 81) (n := 0) (v := 0) rfl rfl ?_
        exact jj5 _ (by simp only [if_neg c4])
      · replace c4 := eb_q1.mp c4
        refine eb_bipush (pc := 76) (n := -3) (v := (-3)) rfl rfl ?_
        refine eb_goto (pc := 78) (tgt := 82) rfl (by decide) ?_
        exact jj5 _ (by simp only [if_pos c4])
    refine eb_ctS (pc := 70) (As := [.int x1]) (rest := []) rfl (by decide) (by decide) rfl rfl (Nat.le_of_ble_eq_true rfl) ?_
    refine eb_bodyQ (by decide) ok_X10_notSet (Nat.le_of_ble_eq_true rfl) ?_
    change eb_Sn _ m_X10_notSet _ 0 [(0, .int x1)] [] _ _
    refine eb_iload_n (pc := 0) (n := 0) (i := 0) rfl rfl rfl ?_
    refine eb_if_lt (pc := 1) (tgt := 10) rfl (by decide) (fun c2 => ?_) (fun c2 => ?_)
    · refine eb_iconst (pc := 10) (n := 1) (v := 1) rfl rfl ?_
      refine eb_goto (pc := 11) (tgt := 15) rfl (by decide) ?_
      refine eb_ireturn (pc := 15) rfl rfl (by decide) ?_
      change eb_Sn _ _ _ 73 _ _ _ _
      exact jj7 1 (eb_qt (Or.inl c2)).symm
    · refine eb_iload_n (pc := 4) (n := 0) (i := 0) rfl rfl rfl ?_
      refine eb_bipush (pc := 5) (n := 64) (v := 64) rfl rfl ?_
      refine eb_icmp_lt (pc := 7) (tgt := 14) rfl (by decide) (fun c3 => ?_) (fun c3 => ?_)
      · refine eb_iconst (pc := 14) (n := 0) (v := 0) rfl rfl ?_
        refine eb_ireturn (pc := 15) rfl rfl (by decide) ?_
        change eb_Sn _ _ _ 73 _ _ _ _
        exact jj7 0 (eb_qf (fun z => z.elim c2 (fun z => z c3))).symm
      · refine eb_iconst (pc := 10) (n := 1) (v := 1) rfl rfl ?_
        refine eb_goto (pc := 11) (tgt := 15) rfl (by decide) ?_
        refine eb_ireturn (pc := 15) rfl rfl (by decide) ?_
        change eb_Sn _ _ _ 73 _ _ _ _
        exact jj7 1 (eb_qt (Or.inr c3)).symm
  · replace w := w.2 c1
    refine eb_aload_n (pc := 40) (n := 0) (i := 0) rfl rfl rfl ?_
    refine eb_iload_n (pc := 41) (n := 2) (i := 2) rfl rfl rfl ?_
    refine eb_ctV (pc := 42) (As := [.int x2]) (rest := []) rfl (by decide) rfl ka0 (by decide) rfl (Nat.le_of_ble_eq_true rfl) ?_
    refine eb_bodyQ (by decide) ok_X8_numberAt (Nat.le_of_ble_eq_true rfl) ?_
    change eb_Sn _ m_X8_numberAt _ 0 [(0, .ref a0), (1, .int x2)] [] _ _
    refine eb_iload_n (pc := 0) (n := 1) (i := 1) rfl rfl rfl ?_
    refine eb_if_lt (pc := 1) (tgt := 22) rfl (by decide) (fun c9 => ?_) (fun c9 => ?_)
    · replace w := w.1 c9
      refine eb_lconst (pc := 22) (n := 0) (v := 0) rfl rfl ?_
      refine eb_lreturn (pc := 23) rfl rfl ?_
      change eb_Sn _ _ _ 45 _ [.long 0] _ _
      refine eb_lstore_n (pc := 45) (n := 3) (i := 3) (ls2 := [(3, .long 0), (0, .ref a0), (1, .int x1), (2, .int x2)]) rfl (Nat.le_of_ble_eq_true rfl) rfl rfl ?_
      refine eb_lload_n (pc := 46) (n := 3) (i := 3) rfl rfl rfl ?_
      refine eb_lconst (pc := 47) (n := 0) (v := 0) rfl rfl ?_
      refine eb_lcmp (pc := 48) rfl ?_
      refine eb_if_lt (pc := 49) (tgt := 60) rfl (by decide) (fun c => absurd c (by decide)) (fun c => ?_)
      refine eb_lload_n (pc := 52) (n := 3) (i := 3) rfl rfl rfl ?_
      refine eb_ldc2 (pc := 53) (a := 4) (v := 4) rfl (by decide) ?_
      refine eb_lcmp (pc := 56) rfl ?_
      refine eb_if_lt (pc := 57) (tgt := 63) rfl (by decide) (fun c => ?_) (fun c => absurd c (by decide))
      refine eb_iinc (pc := 63) (i := 2) (n := 1) (v := x2 + 1) (ls2 := [(2, .int (x2 + 1)), (3, .long 0), (0, .ref a0), (1, .int x1)]) (Nat.le_of_ble_eq_true rfl) rfl rfl rfl rfl ?_
      refine eb_goto (pc := 66) (tgt := 32) rfl (by decide) ?_
      exact eb_pick [2, 3, 0] rfl w
    · replace w := w.2 c9
      refine eb_iload_n (pc := 4) (n := 1) (i := 1) rfl rfl rfl ?_
      refine eb_aload_n (pc := 5) (n := 0) (i := 0) rfl rfl rfl ?_
      obtain ⟨r10, q11, k12, w⟩ := w
      refine eb_getR (pc := 6) rfl ka0 (by decide) (by decide) rfl q11 ?_
      refine eb_alen (pc := 9) rfl (by rw [k12]; decide) (by rw [k12]; decide) rfl ?_
      refine eb_icmp_ge (pc := 10) (tgt := 22) rfl (by decide) (fun c13 => ?_) (fun c13 => ?_)
      · replace w := w.1 c13
        refine eb_lconst (pc := 22) (n := 0) (v := 0) rfl rfl ?_
        refine eb_lreturn (pc := 23) rfl rfl ?_
        change eb_Sn _ _ _ 45 _ [.long 0] _ _
        refine eb_lstore_n (pc := 45) (n := 3) (i := 3) (ls2 := [(3, .long 0), (0, .ref a0), (1, .int x1), (2, .int x2)]) rfl (Nat.le_of_ble_eq_true rfl) rfl rfl ?_
        refine eb_lload_n (pc := 46) (n := 3) (i := 3) rfl rfl rfl ?_
        refine eb_lconst (pc := 47) (n := 0) (v := 0) rfl rfl ?_
        refine eb_lcmp (pc := 48) rfl ?_
        refine eb_if_lt (pc := 49) (tgt := 60) rfl (by decide) (fun c => absurd c (by decide)) (fun c => ?_)
        refine eb_lload_n (pc := 52) (n := 3) (i := 3) rfl rfl rfl ?_
        refine eb_ldc2 (pc := 53) (a := 4) (v := 4) rfl (by decide) ?_
        refine eb_lcmp (pc := 56) rfl ?_
        refine eb_if_lt (pc := 57) (tgt := 63) rfl (by decide) (fun c => ?_) (fun c => absurd c (by decide))
        refine eb_iinc (pc := 63) (i := 2) (n := 1) (v := x2 + 1) (ls2 := [(2, .int (x2 + 1)), (3, .long 0), (0, .ref a0), (1, .int x1)]) (Nat.le_of_ble_eq_true rfl) rfl rfl rfl rfl ?_
        refine eb_goto (pc := 66) (tgt := 32) rfl (by decide) ?_
        exact eb_pick [2, 3, 0] rfl w
      · replace w := w.2 c13
        refine eb_aload_n (pc := 13) (n := 0) (i := 0) rfl rfl rfl ?_
        refine eb_getR (pc := 14) rfl ka0 (by decide) (by decide) rfl q11 ?_
        refine eb_iload_n (pc := 17) (n := 1) (i := 1) rfl rfl rfl ?_
        obtain ⟨c14, w⟩ := w
        refine eb_laload (pc := 18) rfl k12 c14 ?_
        refine eb_goto (pc := 19) (tgt := 23) rfl (by decide) ?_
        refine eb_lreturn (pc := 23) rfl rfl ?_
        change eb_Sn _ _ _ 45 _ [.long (eb_J h r10 x2.toNatClampNeg)] _ _
        refine eb_lstore_n (pc := 45) (n := 3) (i := 3) (ls2 := [(3, .long (eb_J h r10 x2.toNatClampNeg)), (0, .ref a0), (1, .int x1), (2, .int x2)]) rfl (Nat.le_of_ble_eq_true rfl) rfl rfl ?_
        refine eb_lload_n (pc := 46) (n := 3) (i := 3) rfl rfl rfl ?_
        refine eb_lconst (pc := 47) (n := 0) (v := 0) rfl rfl ?_
        refine eb_lcmp (pc := 48) rfl ?_
        refine eb_if_lt (pc := 49) (tgt := 60) rfl (by decide) (fun c15 => ?_) (fun c15 => ?_)
        · replace c15 := eb_lc_lt.mp c15
          replace w := w.1 c15
          refine eb_bipush (pc := 60) (n := -3) (v := (-3)) rfl rfl ?_
          exact eb_ireturn (pc := 62) rfl rfl rfl w
        · replace c15 := (fun hh => mt eb_lc_lt.mpr hh) c15
          replace w := w.2 c15
          refine eb_lload_n (pc := 52) (n := 3) (i := 3) rfl rfl rfl ?_
          refine eb_ldc2 (pc := 53) (a := 4) (v := 4) rfl (by decide) ?_
          refine eb_lcmp (pc := 56) rfl ?_
          refine eb_if_lt (pc := 57) (tgt := 63) rfl (by decide) (fun c16 => ?_) (fun c16 => ?_)
          · replace c16 := eb_lc_lt.mp c16
            replace w := w.1 c16
            refine eb_iinc (pc := 63) (i := 2) (n := 1) (v := x2 + 1) (ls2 := [(2, .int (x2 + 1)), (3, .long (eb_J h r10 x2.toNatClampNeg)), (0, .ref a0), (1, .int x1)]) (Nat.le_of_ble_eq_true rfl) rfl rfl rfl rfl ?_
            refine eb_goto (pc := 66) (tgt := 32) rfl (by decide) ?_
            exact eb_pick [2, 3, 0] rfl w
          · replace c16 := (fun hh => mt eb_lc_lt.mpr hh) c16
            replace w := w.2 c16
            refine eb_bipush (pc := 60) (n := -3) (v := (-3)) rfl rfl ?_
            exact eb_ireturn (pc := 62) rfl rfl rfl w
theorem T_X10_flownRefusal {d : Nat} {h : eb_H} {Q : Option Value → eb_H → Prop} (a0 : Nat) (x1 : Int32) (ka0 : eb_kd a0 = 8) (ko : eb_KO h) (w : (((eb_I h a0 2) = 0 → (((eb_I h a0 3) < (1 : Int32) → Q (some (.int (-4))) h) ∧ (¬ ((eb_I h a0 3) < (1 : Int32)) → (((eb_I h a0 3) ≤ (12 : Int32) → eb_Sn (d + 1) m_X10_flownRefusal h 32 [(0, .ref a0), (1, .int x1), (2, .int 0)] [] h Q) ∧ (¬ ((eb_I h a0 3) ≤ (12 : Int32)) → Q (some (.int (-4))) h))))) ∧ (¬ ((eb_I h a0 2) = 0) → Q (some (.int (-6))) h))) : eb_Ct (d + 1) 147 [.ref a0, .int x1] h Q :=
  eb_bodyQ (by decide) ok_X10_flownRefusal (Nat.le_of_ble_eq_true rfl) (b_X10_flownRefusal_0 (h0 := h) a0 x1 ka0 ko w)
theorem b_X10_setsIn_0 {d : Nat} {h0 h : eb_H} {Q : Option Value → eb_H → Prop} (x1 : Int32)  (ko : eb_KO h) (w : ∃ r1, eb_R h s_EB 2 = some r1 ∧ eb_kd r1 = 9 ∧ eb_Ct d 8 [.ref s_flights, .ref r1, .ref s_now] h (fun r h4 => r = none ∧ eb_KO h4 ∧ eb_Ct d 11 [.ref s_flights] h4 (fun r h7 => r = none ∧ eb_KO h7 ∧ eb_Ct d 16 [.ref s_flights, .int x1] h7 (fun r h10 => ∃ y11, r = some (.long y11) ∧ eb_KO h10 ∧ Q (some (.long y11)) h10)))) : eb_Sn (d + 1) m_X10_setsIn h0 0 [(0, .ref s_EB), (1, .int x1)] [] h Q := by
  refine eb_aload_n (pc := 0) (n := 0) (i := 0) rfl rfl rfl ?_
  refine eb_getR (pc := 1) rfl rfl (by decide) (by decide) rfl (ko_s_EB_7 ko) ?_
  refine eb_aload_n (pc := 4) (n := 0) (i := 0) rfl rfl rfl ?_
  obtain ⟨r1, q2, k3, w⟩ := w
  refine eb_getR (pc := 5) rfl rfl (by decide) (by decide) rfl q2 ?_
  refine eb_aload_n (pc := 8) (n := 0) (i := 0) rfl rfl rfl ?_
  refine eb_getR (pc := 9) rfl rfl (by decide) (by decide) rfl (ko_s_EB_3 ko) ?_
  refine eb_ctV (pc := 12) (As := [.ref r1, .ref s_now]) (rest := []) rfl (by decide) rfl rfl (by decide) rfl (Nat.le_of_ble_eq_true rfl) ?_
  refine eb_Ct.mono w ?_
  rintro r h4 ⟨rfl, ko6, w⟩
  change eb_Sn _ _ _ 15 _ [] _ _
  refine eb_aload_n (pc := 15) (n := 0) (i := 0) rfl rfl rfl ?_
  refine eb_getR (pc := 16) rfl rfl (by decide) (by decide) rfl (ko_s_EB_7 ko6) ?_
  refine eb_ctV (pc := 19) (As := []) (rest := []) rfl (by decide) rfl rfl (by decide) rfl (Nat.le_of_ble_eq_true rfl) ?_
  refine eb_Ct.mono w ?_
  rintro r h7 ⟨rfl, ko9, w⟩
  change eb_Sn _ _ _ 22 _ [] _ _
  refine eb_aload_n (pc := 22) (n := 0) (i := 0) rfl rfl rfl ?_
  refine eb_getR (pc := 23) rfl rfl (by decide) (by decide) rfl (ko_s_EB_7 ko9) ?_
  refine eb_iload_n (pc := 26) (n := 1) (i := 1) rfl rfl rfl ?_
  refine eb_ctV (pc := 27) (As := [.int x1]) (rest := []) rfl (by decide) rfl rfl (by decide) rfl (Nat.le_of_ble_eq_true rfl) ?_
  refine eb_Ct.mono w ?_
  rintro r h10 ⟨y11, rfl, ko12, w⟩
  change eb_Sn _ _ _ 30 _ [.long y11] _ _
  exact eb_lreturn (pc := 30) rfl rfl w
theorem T_X10_setsIn {d : Nat} {h : eb_H} {Q : Option Value → eb_H → Prop} (x1 : Int32)  (ko : eb_KO h) (w : ∃ r1, eb_R h s_EB 2 = some r1 ∧ eb_kd r1 = 9 ∧ eb_Ct d 8 [.ref s_flights, .ref r1, .ref s_now] h (fun r h4 => r = none ∧ eb_KO h4 ∧ eb_Ct d 11 [.ref s_flights] h4 (fun r h7 => r = none ∧ eb_KO h7 ∧ eb_Ct d 16 [.ref s_flights, .int x1] h7 (fun r h10 => ∃ y11, r = some (.long y11) ∧ eb_KO h10 ∧ Q (some (.long y11)) h10)))) : eb_Ct (d + 1) 148 [.ref s_EB, .int x1] h Q :=
  eb_bodyQ (by decide) ok_X10_setsIn (Nat.le_of_ble_eq_true rfl) (b_X10_setsIn_0 (h0 := h) x1  ko w)
theorem b_X10_couldFly_0 {d : Nat} {h0 h : eb_H} {Q : Option Value → eb_H → Prop} (a1 : Nat) (x2 : Int32) (ka1 : eb_kd a1 = 8) (ko : eb_KO h) (w : eb_Sn (d + 1) m_X10_couldFly h0 2 [(0, .ref s_EB), (1, .ref a1), (2, .int x2), (3, .int 0)] [] h Q) : eb_Sn (d + 1) m_X10_couldFly h0 0 [(0, .ref s_EB), (1, .ref a1), (2, .int x2)] [] h Q := by
  refine eb_iconst (pc := 0) (n := 0) (v := 0) rfl rfl ?_
  refine eb_istore_n (pc := 1) (n := 3) (i := 3) (ls2 := [(3, .int 0), (0, .ref s_EB), (1, .ref a1), (2, .int x2)]) rfl (Nat.le_of_ble_eq_true rfl) rfl rfl ?_
  exact eb_pick [1, 2, 3, 0] rfl w
theorem b_X10_couldFly_2 {d : Nat} {h0 h : eb_H} {Q : Option Value → eb_H → Prop} (a1 : Nat) (x2 : Int32) (x3 : Int32) (ka1 : eb_kd a1 = 8) (ko : eb_KO h) (w : (((eb_I h a1 3) ≤ x3 → Q (some (.int (eb_q ((eb_I h s_trial 1) = x2)))) h) ∧ (¬ ((eb_I h a1 3) ≤ x3) → ∃ r5, eb_R h s_EB 2 = some r5 ∧ eb_kd r5 = 9 ∧ ((x3 < 0 → eb_Ct d 90 [.ref r5, .ref s_trial, .int ((0 : Int64).toInt32)] h (fun r h14 => ∃ y15, r = some (.int y15) ∧ eb_KO h14 ∧ ((0 ≤ y15 → eb_Sn (d + 1) m_X10_couldFly h0 2 [(0, .ref s_EB), (1, .ref a1), (2, .int x2), (3, .int (x3 + 1))] [] h14 Q) ∧ (¬ (0 ≤ y15) → Q (some (.int 0)) h14)))) ∧ (¬ (x3 < 0) → ∃ r9, eb_R h a1 0 = some r9 ∧ eb_kd r9 = 14 ∧ (((Int32.ofNat (eb_ln r9)) ≤ x3 → eb_Ct d 90 [.ref r5, .ref s_trial, .int ((0 : Int64).toInt32)] h (fun r h18 => ∃ y19, r = some (.int y19) ∧ eb_KO h18 ∧ ((0 ≤ y19 → eb_Sn (d + 1) m_X10_couldFly h0 2 [(0, .ref s_EB), (1, .ref a1), (2, .int x2), (3, .int (x3 + 1))] [] h18 Q) ∧ (¬ (0 ≤ y19) → Q (some (.int 0)) h18)))) ∧ (¬ ((Int32.ofNat (eb_ln r9)) ≤ x3) → (vp_in x3 (eb_ln r9)) ∧ eb_Ct d 90 [.ref r5, .ref s_trial, .int ((eb_J h r9 x3.toNatClampNeg).toInt32)] h (fun r h22 => ∃ y23, r = some (.int y23) ∧ eb_KO h22 ∧ ((0 ≤ y23 → eb_Sn (d + 1) m_X10_couldFly h0 2 [(0, .ref s_EB), (1, .ref a1), (2, .int x2), (3, .int (x3 + 1))] [] h22 Q) ∧ (¬ (0 ≤ y23) → Q (some (.int 0)) h22)))))))))) : eb_Sn (d + 1) m_X10_couldFly h0 2 [(0, .ref s_EB), (1, .ref a1), (2, .int x2), (3, .int x3)] [] h Q := by
  refine eb_iload_n (pc := 2) (n := 3) (i := 3) rfl rfl rfl ?_
  refine eb_aload_n (pc := 3) (n := 1) (i := 1) rfl rfl rfl ?_
  refine eb_getI (pc := 4) rfl ka1 (by decide) (by decide) rfl ?_
  refine eb_icmp_ge (pc := 7) (tgt := 38) rfl (by decide) (fun c1 => ?_) (fun c1 => ?_)
  · replace w := w.1 c1
    refine eb_aload_n (pc := 38) (n := 0) (i := 0) rfl rfl rfl ?_
    refine eb_getR (pc := 39) rfl rfl (by decide) (by decide) rfl (ko_s_EB_5 ko) ?_
    refine eb_getI (pc := 42) rfl rfl (by decide) (by decide) rfl ?_
    refine eb_iload_n (pc := 45) (n := 2) (i := 2) rfl rfl rfl ?_
    refine eb_joinI (pc2 := 54) (ls2 := [(0, .ref s_EB), (1, .ref a1), (2, .int x2), (3, .int x3)]) (st2 := []) (v := eb_q ((eb_I h s_trial 1) = x2)) ?_ (fun jj3 => ?_)
    · exact eb_ireturn (pc := 54) rfl rfl eb_qn w
    refine eb_icmp_ne (pc := 46) (tgt := 53) rfl (by decide) (fun c2 => ?_) (fun c2 => ?_)
    · refine eb_iconst (pc := 53) (n := 0) (v := 0) rfl rfl ?_
      exact jj3 0 (eb_qf c2).symm
    · refine eb_iconst (pc := 49) (n := 1) (v := 1) rfl rfl ?_
      refine eb_goto (pc := 50) (tgt := 54) rfl (by decide) ?_
      exact jj3 1 (eb_qt c2).symm
  · replace w := w.2 c1
    refine eb_aload_n (pc := 10) (n := 0) (i := 0) rfl rfl rfl ?_
    obtain ⟨r5, q6, k7, w⟩ := w
    refine eb_getR (pc := 11) rfl rfl (by decide) (by decide) rfl q6 ?_
    refine eb_aload_n (pc := 14) (n := 0) (i := 0) rfl rfl rfl ?_
    refine eb_getR (pc := 15) rfl rfl (by decide) (by decide) rfl (ko_s_EB_5 ko) ?_
    refine eb_aload_n (pc := 18) (n := 1) (i := 1) rfl rfl rfl ?_
    refine eb_iload_n (pc := 19) (n := 3) (i := 3) rfl rfl rfl ?_
    refine eb_ctV (pc := 20) (As := [.int x3]) (rest := [.ref s_trial, .ref r5]) rfl (by decide) rfl ka1 (by decide) rfl (Nat.le_of_ble_eq_true rfl) ?_
    refine eb_bodyQ (by decide) ok_X8_numberAt (Nat.le_of_ble_eq_true rfl) ?_
    change eb_Sn _ m_X8_numberAt _ 0 [(0, .ref a1), (1, .int x3)] [] _ _
    refine eb_iload_n (pc := 0) (n := 1) (i := 1) rfl rfl rfl ?_
    refine eb_if_lt (pc := 1) (tgt := 22) rfl (by decide) (fun c8 => ?_) (fun c8 => ?_)
    · replace w := w.1 c8
      refine eb_lconst (pc := 22) (n := 0) (v := 0) rfl rfl ?_
      refine eb_lreturn (pc := 23) rfl rfl ?_
      change eb_Sn _ _ _ 23 _ [.long 0, .ref s_trial, .ref r5] _ _
      refine eb_l2i (pc := 23) rfl ?_
      refine eb_ctV (pc := 24) (As := [.ref s_trial, .int ((0 : Int64).toInt32)]) (rest := []) rfl (by decide) rfl k7 (by decide) rfl (Nat.le_of_ble_eq_true rfl) ?_
      refine eb_Ct.mono w ?_
      rintro r h14 ⟨y15, rfl, ko16, w⟩
      change eb_Sn _ _ _ 27 _ [.int y15] _ _
      refine eb_if_ge (pc := 27) (tgt := 32) rfl (by decide) (fun c17 => ?_) (fun c17 => ?_)
      · replace w := w.1 c17
        refine eb_iinc (pc := 32) (i := 3) (n := 1) (v := x3 + 1) (ls2 := [(3, .int (x3 + 1)), (0, .ref s_EB), (1, .ref a1), (2, .int x2)]) (Nat.le_of_ble_eq_true rfl) rfl rfl rfl rfl ?_
        refine eb_goto (pc := 35) (tgt := 2) rfl (by decide) ?_
        exact eb_pick [1, 2, 3, 0] rfl w
      · replace w := w.2 c17
        refine eb_iconst (pc := 30) (n := 0) (v := 0) rfl rfl ?_
        exact eb_ireturn (pc := 31) rfl rfl (by decide) w
    · replace w := w.2 c8
      refine eb_iload_n (pc := 4) (n := 1) (i := 1) rfl rfl rfl ?_
      refine eb_aload_n (pc := 5) (n := 0) (i := 0) rfl rfl rfl ?_
      obtain ⟨r9, q10, k11, w⟩ := w
      refine eb_getR (pc := 6) rfl ka1 (by decide) (by decide) rfl q10 ?_
      refine eb_alen (pc := 9) rfl (by rw [k11]; decide) (by rw [k11]; decide) rfl ?_
      refine eb_icmp_ge (pc := 10) (tgt := 22) rfl (by decide) (fun c12 => ?_) (fun c12 => ?_)
      · replace w := w.1 c12
        refine eb_lconst (pc := 22) (n := 0) (v := 0) rfl rfl ?_
        refine eb_lreturn (pc := 23) rfl rfl ?_
        change eb_Sn _ _ _ 23 _ [.long 0, .ref s_trial, .ref r5] _ _
        refine eb_l2i (pc := 23) rfl ?_
        refine eb_ctV (pc := 24) (As := [.ref s_trial, .int ((0 : Int64).toInt32)]) (rest := []) rfl (by decide) rfl k7 (by decide) rfl (Nat.le_of_ble_eq_true rfl) ?_
        refine eb_Ct.mono w ?_
        rintro r h18 ⟨y19, rfl, ko20, w⟩
        change eb_Sn _ _ _ 27 _ [.int y19] _ _
        refine eb_if_ge (pc := 27) (tgt := 32) rfl (by decide) (fun c21 => ?_) (fun c21 => ?_)
        · replace w := w.1 c21
          refine eb_iinc (pc := 32) (i := 3) (n := 1) (v := x3 + 1) (ls2 := [(3, .int (x3 + 1)), (0, .ref s_EB), (1, .ref a1), (2, .int x2)]) (Nat.le_of_ble_eq_true rfl) rfl rfl rfl rfl ?_
          refine eb_goto (pc := 35) (tgt := 2) rfl (by decide) ?_
          exact eb_pick [1, 2, 3, 0] rfl w
        · replace w := w.2 c21
          refine eb_iconst (pc := 30) (n := 0) (v := 0) rfl rfl ?_
          exact eb_ireturn (pc := 31) rfl rfl (by decide) w
      · replace w := w.2 c12
        refine eb_aload_n (pc := 13) (n := 0) (i := 0) rfl rfl rfl ?_
        refine eb_getR (pc := 14) rfl ka1 (by decide) (by decide) rfl q10 ?_
        refine eb_iload_n (pc := 17) (n := 1) (i := 1) rfl rfl rfl ?_
        obtain ⟨c13, w⟩ := w
        refine eb_laload (pc := 18) rfl k11 c13 ?_
        refine eb_goto (pc := 19) (tgt := 23) rfl (by decide) ?_
        refine eb_lreturn (pc := 23) rfl rfl ?_
        change eb_Sn _ _ _ 23 _ [.long (eb_J h r9 x3.toNatClampNeg), .ref s_trial, .ref r5] _ _
        refine eb_l2i (pc := 23) rfl ?_
        refine eb_ctV (pc := 24) (As := [.ref s_trial, .int ((eb_J h r9 x3.toNatClampNeg).toInt32)]) (rest := []) rfl (by decide) rfl k7 (by decide) rfl (Nat.le_of_ble_eq_true rfl) ?_
        refine eb_Ct.mono w ?_
        rintro r h22 ⟨y23, rfl, ko24, w⟩
        change eb_Sn _ _ _ 27 _ [.int y23] _ _
        refine eb_if_ge (pc := 27) (tgt := 32) rfl (by decide) (fun c25 => ?_) (fun c25 => ?_)
        · replace w := w.1 c25
          refine eb_iinc (pc := 32) (i := 3) (n := 1) (v := x3 + 1) (ls2 := [(3, .int (x3 + 1)), (0, .ref s_EB), (1, .ref a1), (2, .int x2)]) (Nat.le_of_ble_eq_true rfl) rfl rfl rfl rfl ?_
          refine eb_goto (pc := 35) (tgt := 2) rfl (by decide) ?_
          exact eb_pick [1, 2, 3, 0] rfl w
        · replace w := w.2 c25
          refine eb_iconst (pc := 30) (n := 0) (v := 0) rfl rfl ?_
          exact eb_ireturn (pc := 31) rfl rfl (by decide) w
theorem T_X10_couldFly {d : Nat} {h : eb_H} {Q : Option Value → eb_H → Prop} (a1 : Nat) (x2 : Int32) (ka1 : eb_kd a1 = 8) (ko : eb_KO h) (w : eb_Sn (d + 1) m_X10_couldFly h 2 [(0, .ref s_EB), (1, .ref a1), (2, .int x2), (3, .int 0)] [] h Q) : eb_Ct (d + 1) 149 [.ref s_EB, .ref a1, .int x2] h Q :=
  eb_bodyQ (by decide) ok_X10_couldFly (Nat.le_of_ble_eq_true rfl) (b_X10_couldFly_0 (h0 := h) a1 x2 ka1 ko w)
theorem b_X10_windsOf_0 {d : Nat} {h0 h : eb_H} {Q : Option Value → eb_H → Prop} (a1 : Nat) (x2 : Int32) (ka1 : eb_kd a1 = 8) (ko : eb_KO h) (w : eb_Sn (d + 1) m_X10_windsOf h0 5 [(0, .ref s_EB), (1, .ref a1), (2, .int x2), (3, .int 0), (4, .int 0)] [] h Q) : eb_Sn (d + 1) m_X10_windsOf h0 0 [(0, .ref s_EB), (1, .ref a1), (2, .int x2)] [] h Q := by
  refine eb_iconst (pc := 0) (n := 0) (v := 0) rfl rfl ?_
  refine eb_istore_n (pc := 1) (n := 3) (i := 3) (ls2 := [(3, .int 0), (0, .ref s_EB), (1, .ref a1), (2, .int x2)]) rfl (Nat.le_of_ble_eq_true rfl) rfl rfl ?_
  refine eb_iconst (pc := 2) (n := 0) (v := 0) rfl rfl ?_
  refine eb_istore (pc := 3) (i := 4) (ls2 := [(4, .int 0), (3, .int 0), (0, .ref s_EB), (1, .ref a1), (2, .int x2)]) (Nat.le_of_ble_eq_true rfl) rfl rfl ?_
  exact eb_pick [2, 3, 4, 1, 0] rfl w
theorem b_X10_windsOf_5 {d : Nat} {h0 h : eb_H} {Q : Option Value → eb_H → Prop} (a1 : Nat) (x2 : Int32) (x3 : Int32) (x4 : Int32) (ka1 : eb_kd a1 = 8) (ko : eb_KO h) (w : (((9 : Int32) < x4 → Q (some (.int x3)) h) ∧ (¬ ((9 : Int32) < x4) → eb_Ct d 60 [.ref s_trial, .ref s_now] h (fun r h2 => r = none ∧ eb_KO h2 ∧ eb_Ct d 149 [.ref s_EB, .ref a1, .int x2] (eb_sI h2 s_trial 4 x4) (fun r h5 => ∃ y6, r = some (.int y6) ∧ eb_KO h5 ∧ ((y6 = 0 → eb_Sn (d + 1) m_X10_windsOf h0 5 [(0, .ref s_EB), (1, .ref a1), (2, .int x2), (3, .int x3), (4, .int (x4 + 1))] [] h5 Q) ∧ (¬ (y6 = 0) → eb_Sn (d + 1) m_X10_windsOf h0 5 [(0, .ref s_EB), (1, .ref a1), (2, .int x2), (3, .int (x3 ||| ((1 : Int32) <<< (x4 &&& 31)))), (4, .int (x4 + 1))] [] h5 Q))))))) : eb_Sn (d + 1) m_X10_windsOf h0 5 [(0, .ref s_EB), (1, .ref a1), (2, .int x2), (3, .int x3), (4, .int x4)] [] h Q := by
  refine eb_iload (pc := 5) (i := 4) rfl rfl ?_
  refine eb_bipush (pc := 7) (n := 9) (v := 9) rfl rfl ?_
  refine eb_icmp_gt (pc := 9) (tgt := 54) rfl (by decide) (fun c1 => ?_) (fun c1 => ?_)
  · replace w := w.1 c1
    refine eb_iload_n (pc := 54) (n := 3) (i := 3) rfl rfl rfl ?_
    exact eb_ireturn (pc := 55) rfl rfl rfl w
  · replace w := w.2 c1
    refine eb_aload_n (pc := 12) (n := 0) (i := 0) rfl rfl rfl ?_
    refine eb_getR (pc := 13) rfl rfl (by decide) (by decide) rfl (ko_s_EB_5 ko) ?_
    refine eb_aload_n (pc := 16) (n := 0) (i := 0) rfl rfl rfl ?_
    refine eb_getR (pc := 17) rfl rfl (by decide) (by decide) rfl (ko_s_EB_3 ko) ?_
    refine eb_ctV (pc := 20) (As := [.ref s_now]) (rest := []) rfl (by decide) rfl rfl (by decide) rfl (Nat.le_of_ble_eq_true rfl) ?_
    refine eb_Ct.mono w ?_
    rintro r h2 ⟨rfl, ko4, w⟩
    change eb_Sn _ _ _ 23 _ [] _ _
    refine eb_aload_n (pc := 23) (n := 0) (i := 0) rfl rfl rfl ?_
    refine eb_getR (pc := 24) rfl rfl (by decide) (by decide) rfl (ko_s_EB_5 ko4) ?_
    refine eb_iload (pc := 27) (i := 4) rfl rfl ?_
    refine eb_putI (pc := 29) rfl rfl (by decide) (by decide) rfl rfl ⟨rfl, rfl⟩ ?_
    refine eb_aload_n (pc := 32) (n := 0) (i := 0) rfl rfl rfl ?_
    refine eb_aload_n (pc := 33) (n := 1) (i := 1) rfl rfl rfl ?_
    refine eb_iload_n (pc := 34) (n := 2) (i := 2) rfl rfl rfl ?_
    refine eb_ctV (pc := 35) (As := [.ref a1, .int x2]) (rest := []) rfl (by decide) rfl rfl (by decide) rfl (Nat.le_of_ble_eq_true rfl) ?_
    refine eb_Ct.mono w ?_
    rintro r h5 ⟨y6, rfl, ko7, w⟩
    change eb_Sn _ _ _ 38 _ [.int y6] _ _
    refine eb_if_eq (pc := 38) (tgt := 48) rfl (by decide) (fun c8 => ?_) (fun c8 => ?_)
    · replace w := w.1 c8
      refine eb_iinc (pc := 48) (i := 4) (n := 1) (v := x4 + 1) (ls2 := [(4, .int (x4 + 1)), (0, .ref s_EB), (1, .ref a1), (2, .int x2), (3, .int x3)]) (Nat.le_of_ble_eq_true rfl) rfl rfl rfl rfl ?_
      refine eb_goto (pc := 51) (tgt := 5) rfl (by decide) ?_
      exact eb_pick [1, 2, 3, 4, 0] rfl w
    · replace w := w.2 c8
      refine eb_iload_n (pc := 41) (n := 3) (i := 3) rfl rfl rfl ?_
      refine eb_iconst (pc := 42) (n := 1) (v := 1) rfl rfl ?_
      refine eb_iload (pc := 43) (i := 4) rfl rfl ?_
      refine eb_ishl (pc := 45) rfl ?_
      refine eb_ior (pc := 46) rfl ?_
      refine eb_istore_n (pc := 47) (n := 3) (i := 3) (ls2 := [(3, .int (x3 ||| ((1 : Int32) <<< (x4 &&& 31)))), (0, .ref s_EB), (1, .ref a1), (2, .int x2), (4, .int x4)]) rfl (Nat.le_of_ble_eq_true rfl) rfl rfl ?_
      refine eb_iinc (pc := 48) (i := 4) (n := 1) (v := x4 + 1) (ls2 := [(4, .int (x4 + 1)), (3, .int (x3 ||| ((1 : Int32) <<< (x4 &&& 31)))), (0, .ref s_EB), (1, .ref a1), (2, .int x2)]) (Nat.le_of_ble_eq_true rfl) rfl rfl rfl rfl ?_
      refine eb_goto (pc := 51) (tgt := 5) rfl (by decide) ?_
      exact eb_pick [2, 3, 4, 1, 0] rfl w
theorem T_X10_windsOf {d : Nat} {h : eb_H} {Q : Option Value → eb_H → Prop} (a1 : Nat) (x2 : Int32) (ka1 : eb_kd a1 = 8) (ko : eb_KO h) (w : eb_Sn (d + 1) m_X10_windsOf h 5 [(0, .ref s_EB), (1, .ref a1), (2, .int x2), (3, .int 0), (4, .int 0)] [] h Q) : eb_Ct (d + 1) 150 [.ref s_EB, .ref a1, .int x2] h Q :=
  eb_bodyQ (by decide) ok_X10_windsOf (Nat.le_of_ble_eq_true rfl) (b_X10_windsOf_0 (h0 := h) a1 x2 ka1 ko w)
theorem b_X10_mostAlike_0 {d : Nat} {h0 h : eb_H} {Q : Option Value → eb_H → Prop} (x1 : Int32) (x2 : Int32)  (ko : eb_KO h) (w : eb_Sn (d + 1) m_X10_mostAlike h0 5 [(0, .ref s_EB), (1, .int x1), (2, .int x2), (3, .int 0), (4, .int 0)] [] h Q) : eb_Sn (d + 1) m_X10_mostAlike h0 0 [(0, .ref s_EB), (1, .int x1), (2, .int x2)] [] h Q := by
  refine eb_iconst (pc := 0) (n := 0) (v := 0) rfl rfl ?_
  refine eb_istore_n (pc := 1) (n := 3) (i := 3) (ls2 := [(3, .int 0), (0, .ref s_EB), (1, .int x1), (2, .int x2)]) rfl (Nat.le_of_ble_eq_true rfl) rfl rfl ?_
  refine eb_iconst (pc := 2) (n := 0) (v := 0) rfl rfl ?_
  refine eb_istore (pc := 3) (i := 4) (ls2 := [(4, .int 0), (3, .int 0), (0, .ref s_EB), (1, .int x1), (2, .int x2)]) (Nat.le_of_ble_eq_true rfl) rfl rfl ?_
  exact eb_pick [2, 3, 4, 1, 0] rfl w
theorem b_X10_mostAlike_5 {d : Nat} {h0 h : eb_H} {Q : Option Value → eb_H → Prop} (x1 : Int32) (x2 : Int32) (x3 : Int32) (x4 : Int32)  (ko : eb_KO h) (w : (((9 : Int32) < x4 → Q (some (.int x3)) h) ∧ (¬ ((9 : Int32) < x4) → ((¬ ((x1 >>> (x4 &&& 31)) &&& 1) = 0 → eb_Ct d 152 [.ref s_EB, .int x4, .int x2] h (fun r h3 => ∃ y4, r = some (.int y4) ∧ eb_KO h3 ∧ eb_Sn (d + 1) m_X10_mostAlike h0 42 [(0, .ref s_EB), (1, .int x1), (2, .int x2), (3, .int x3), (4, .int x4), (5, .int y4), (6, .int 1), (7, .int (x4 + 1))] [] h3 Q)) ∧ (((x1 >>> (x4 &&& 31)) &&& 1) = 0 → eb_Sn (d + 1) m_X10_mostAlike h0 5 [(0, .ref s_EB), (1, .int x1), (2, .int x2), (3, .int x3), (4, .int (x4 + 1))] [] h Q))))) : eb_Sn (d + 1) m_X10_mostAlike h0 5 [(0, .ref s_EB), (1, .int x1), (2, .int x2), (3, .int x3), (4, .int x4)] [] h Q := by
  refine eb_iload (pc := 5) (i := 4) rfl rfl ?_
  refine eb_bipush (pc := 7) (n := 9) (v := 9) rfl rfl ?_
  refine eb_icmp_gt (pc := 9) (tgt := 93) rfl (by decide) (fun c1 => ?_) (fun c1 => ?_)
  · replace w := w.1 c1
    refine eb_iload_n (pc := 93) (n := 3) (i := 3) rfl rfl rfl ?_
    exact eb_ireturn (pc := 94) rfl rfl rfl w
  · replace w := w.2 c1
    refine eb_iload_n (pc := 12) (n := 1) (i := 1) rfl rfl rfl ?_
    refine eb_iload (pc := 13) (i := 4) rfl rfl ?_
    refine eb_ishr (pc := 15) rfl ?_
    refine eb_iconst (pc := 16) (n := 1) (v := 1) rfl rfl ?_
    refine eb_iand (pc := 17) rfl ?_
    refine eb_if_ne (pc := 18) (tgt := 24) rfl (by decide) (fun c2 => ?_) (fun c2 => ?_)
    · replace w := w.1 c2
      refine eb_aload_n (pc := 24) (n := 0) (i := 0) rfl rfl rfl ?_
      refine eb_iload (pc := 25) (i := 4) rfl rfl ?_
      refine eb_iload_n (pc := 27) (n := 2) (i := 2) rfl rfl rfl ?_
      refine eb_ctV (pc := 28) (As := [.int x4, .int x2]) (rest := []) rfl (by decide) rfl rfl (by decide) rfl (Nat.le_of_ble_eq_true rfl) ?_
      refine eb_Ct.mono w ?_
      rintro r h3 ⟨y4, rfl, ko5, w⟩
      change eb_Sn _ _ _ 31 _ [.int y4] _ _
      refine eb_istore (pc := 31) (i := 5) (ls2 := [(5, .int y4), (0, .ref s_EB), (1, .int x1), (2, .int x2), (3, .int x3), (4, .int x4)]) (Nat.le_of_ble_eq_true rfl) rfl rfl ?_
      refine eb_iconst (pc := 33) (n := 1) (v := 1) rfl rfl ?_
      refine eb_istore (pc := 34) (i := 6) (ls2 := [(6, .int 1), (5, .int y4), (0, .ref s_EB), (1, .int x1), (2, .int x2), (3, .int x3), (4, .int x4)]) (Nat.le_of_ble_eq_true rfl) rfl rfl ?_
      refine eb_iload (pc := 36) (i := 4) rfl rfl ?_
      refine eb_iconst (pc := 38) (n := 1) (v := 1) rfl rfl ?_
      refine eb_iadd (pc := 39) rfl ?_
      refine eb_istore (pc := 40) (i := 7) (ls2 := [(7, .int (x4 + 1)), (6, .int 1), (5, .int y4), (0, .ref s_EB), (1, .int x1), (2, .int x2), (3, .int x3), (4, .int x4)]) (Nat.le_of_ble_eq_true rfl) rfl rfl ?_
      exact eb_pick [3, 4, 5, 6, 7, 2, 1, 0] rfl w
    · replace w := w.2 c2
      refine eb_goto (pc := 21) (tgt := 87) rfl (by decide) ?_
      refine eb_iinc (pc := 87) (i := 4) (n := 1) (v := x4 + 1) (ls2 := [(4, .int (x4 + 1)), (0, .ref s_EB), (1, .int x1), (2, .int x2), (3, .int x3)]) (Nat.le_of_ble_eq_true rfl) rfl rfl rfl rfl ?_
      refine eb_goto (pc := 90) (tgt := 5) rfl (by decide) ?_
      exact eb_pick [1, 2, 3, 4, 0] rfl w
theorem b_X10_mostAlike_42 {d : Nat} {h0 h : eb_H} {Q : Option Value → eb_H → Prop} (x1 : Int32) (x2 : Int32) (x3 : Int32) (x4 : Int32) (x5 : Int32) (x6 : Int32) (x7 : Int32)  (ko : eb_KO h) (w : (((9 : Int32) < x7 → eb_Sn (d + 1) m_X10_mostAlike h0 5 [(0, .ref s_EB), (1, .int x1), (2, .int x2), (3, .int (if x3 < x6 then x6 else x3 : Int32)), (4, .int (x4 + 1))] [] h Q) ∧ (¬ ((9 : Int32) < x7) → ((¬ ((x1 >>> (x7 &&& 31)) &&& 1) = (1 : Int32) → eb_Sn (d + 1) m_X10_mostAlike h0 42 [(0, .ref s_EB), (1, .int x1), (2, .int x2), (3, .int x3), (4, .int x4), (5, .int x5), (6, .int x6), (7, .int (x7 + 1))] [] h Q) ∧ (((x1 >>> (x7 &&& 31)) &&& 1) = (1 : Int32) → eb_Ct d 152 [.ref s_EB, .int x7, .int x2] h (fun r h6 => ∃ y7, r = some (.int y7) ∧ eb_KO h6 ∧ ((¬ y7 = x5 → eb_Sn (d + 1) m_X10_mostAlike h0 42 [(0, .ref s_EB), (1, .int x1), (2, .int x2), (3, .int x3), (4, .int x4), (5, .int x5), (6, .int x6), (7, .int (x7 + 1))] [] h6 Q) ∧ (y7 = x5 → eb_Sn (d + 1) m_X10_mostAlike h0 42 [(0, .ref s_EB), (1, .int x1), (2, .int x2), (3, .int x3), (4, .int x4), (5, .int x5), (6, .int (x6 + 1)), (7, .int (x7 + 1))] [] h6 Q)))))))) : eb_Sn (d + 1) m_X10_mostAlike h0 42 [(0, .ref s_EB), (1, .int x1), (2, .int x2), (3, .int x3), (4, .int x4), (5, .int x5), (6, .int x6), (7, .int x7)] [] h Q := by
  refine eb_iload (pc := 42) (i := 7) rfl rfl ?_
  refine eb_bipush (pc := 44) (n := 9) (v := 9) rfl rfl ?_
  refine eb_icmp_gt (pc := 46) (tgt := 80) rfl (by decide) (fun c1 => ?_) (fun c1 => ?_)
  · replace w := w.1 c1
    refine eb_iload_n (pc := 80) (n := 3) (i := 3) rfl rfl rfl ?_
    refine eb_iload (pc := 81) (i := 6) rfl rfl ?_
    refine eb_ctS (pc := 83) (As := [.int x3, .int x6]) (rest := []) rfl (by decide) (by decide) rfl rfl (Nat.le_of_ble_eq_true rfl) ?_
    refine eb_bodyQ (by decide) ok_J9_max_7cf53 (Nat.le_of_ble_eq_true rfl) ?_
    change eb_Sn _ m_J9_max_7cf53 _ 0 [(0, .int x3), (1, .int x6)] [] _ _
    refine eb_iload_n (pc := 0) (n := 0) (i := 0) rfl rfl rfl ?_
    refine eb_iload_n (pc := 1) (n := 1) (i := 1) rfl rfl rfl ?_
    refine eb_joinI (pc2 := 10) (ls2 := [(0, .int x3), (1, .int x6)]) (st2 := []) (v := (if x3 < x6 then x6 else x3 : Int32)) ?_ (fun jj3 => ?_)
    · refine eb_ireturn (pc := 10) rfl rfl rfl ?_
      change eb_Sn _ _ _ 86 _ [.int (if x3 < x6 then x6 else x3 : Int32)] _ _
      refine eb_istore_n (pc := 86) (n := 3) (i := 3) (ls2 := [(3, .int (if x3 < x6 then x6 else x3 : Int32)), (0, .ref s_EB), (1, .int x1), (2, .int x2), (4, .int x4), (5, .int x5), (6, .int x6), (7, .int x7)]) rfl (Nat.le_of_ble_eq_true rfl) rfl rfl ?_
      refine eb_iinc (pc := 87) (i := 4) (n := 1) (v := x4 + 1) (ls2 := [(4, .int (x4 + 1)), (3, .int (if x3 < x6 then x6 else x3 : Int32)), (0, .ref s_EB), (1, .int x1), (2, .int x2), (5, .int x5), (6, .int x6), (7, .int x7)]) (Nat.le_of_ble_eq_true rfl) rfl rfl rfl rfl ?_
      refine eb_goto (pc := 90) (tgt := 5) rfl (by decide) ?_
      exact eb_pick [2, 3, 4, 1, 0] rfl w
    refine eb_icmp_lt (pc := 2) (tgt := 9) rfl (by decide) (fun c2 => ?_) (fun c2 => ?_)
    · refine eb_iload_n (pc := 9) (n := 1) (i := 1) rfl rfl rfl ?_
      exact jj3 _ (by simp only [if_pos c2])
    · refine eb_iload_n (pc := 5) (n := 0) (i := 0) rfl rfl rfl ?_
      refine eb_goto (pc := 6) (tgt := 10) rfl (by decide) ?_
      exact jj3 _ (by simp only [if_neg c2])
  · replace w := w.2 c1
    refine eb_iload_n (pc := 49) (n := 1) (i := 1) rfl rfl rfl ?_
    refine eb_iload (pc := 50) (i := 7) rfl rfl ?_
    refine eb_ishr (pc := 52) rfl ?_
    refine eb_iconst (pc := 53) (n := 1) (v := 1) rfl rfl ?_
    refine eb_iand (pc := 54) rfl ?_
    refine eb_iconst (pc := 55) (n := 1) (v := 1) rfl rfl ?_
    refine eb_icmp_ne (pc := 56) (tgt := 74) rfl (by decide) (fun c5 => ?_) (fun c5 => ?_)
    · replace w := w.1 c5
      refine eb_iinc (pc := 74) (i := 7) (n := 1) (v := x7 + 1) (ls2 := [(7, .int (x7 + 1)), (0, .ref s_EB), (1, .int x1), (2, .int x2), (3, .int x3), (4, .int x4), (5, .int x5), (6, .int x6)]) (Nat.le_of_ble_eq_true rfl) rfl rfl rfl rfl ?_
      refine eb_goto (pc := 77) (tgt := 42) rfl (by decide) ?_
      exact eb_pick [1, 2, 3, 4, 5, 6, 7, 0] rfl w
    · replace w := w.2 c5
      refine eb_aload_n (pc := 59) (n := 0) (i := 0) rfl rfl rfl ?_
      refine eb_iload (pc := 60) (i := 7) rfl rfl ?_
      refine eb_iload_n (pc := 62) (n := 2) (i := 2) rfl rfl rfl ?_
      refine eb_ctV (pc := 63) (As := [.int x7, .int x2]) (rest := []) rfl (by decide) rfl rfl (by decide) rfl (Nat.le_of_ble_eq_true rfl) ?_
      refine eb_Ct.mono w ?_
      rintro r h6 ⟨y7, rfl, ko8, w⟩
      change eb_Sn _ _ _ 66 _ [.int y7] _ _
      refine eb_iload (pc := 66) (i := 5) rfl rfl ?_
      refine eb_icmp_ne (pc := 68) (tgt := 74) rfl (by decide) (fun c9 => ?_) (fun c9 => ?_)
      · replace w := w.1 c9
        refine eb_iinc (pc := 74) (i := 7) (n := 1) (v := x7 + 1) (ls2 := [(7, .int (x7 + 1)), (0, .ref s_EB), (1, .int x1), (2, .int x2), (3, .int x3), (4, .int x4), (5, .int x5), (6, .int x6)]) (Nat.le_of_ble_eq_true rfl) rfl rfl rfl rfl ?_
        refine eb_goto (pc := 77) (tgt := 42) rfl (by decide) ?_
        exact eb_pick [1, 2, 3, 4, 5, 6, 7, 0] rfl w
      · replace w := w.2 c9
        refine eb_iinc (pc := 71) (i := 6) (n := 1) (v := x6 + 1) (ls2 := [(6, .int (x6 + 1)), (0, .ref s_EB), (1, .int x1), (2, .int x2), (3, .int x3), (4, .int x4), (5, .int x5), (7, .int x7)]) (Nat.le_of_ble_eq_true rfl) rfl rfl rfl rfl ?_
        refine eb_iinc (pc := 74) (i := 7) (n := 1) (v := x7 + 1) (ls2 := [(7, .int (x7 + 1)), (6, .int (x6 + 1)), (0, .ref s_EB), (1, .int x1), (2, .int x2), (3, .int x3), (4, .int x4), (5, .int x5)]) (Nat.le_of_ble_eq_true rfl) rfl rfl rfl rfl ?_
        refine eb_goto (pc := 77) (tgt := 42) rfl (by decide) ?_
        exact eb_pick [2, 3, 4, 5, 6, 7, 1, 0] rfl w
theorem T_X10_mostAlike {d : Nat} {h : eb_H} {Q : Option Value → eb_H → Prop} (x1 : Int32) (x2 : Int32)  (ko : eb_KO h) (w : eb_Sn (d + 1) m_X10_mostAlike h 5 [(0, .ref s_EB), (1, .int x1), (2, .int x2), (3, .int 0), (4, .int 0)] [] h Q) : eb_Ct (d + 1) 151 [.ref s_EB, .int x1, .int x2] h Q :=
  eb_bodyQ (by decide) ok_X10_mostAlike (Nat.le_of_ble_eq_true rfl) (b_X10_mostAlike_0 (h0 := h) x1 x2  ko w)
theorem b_X10_broughtBy_0 {d : Nat} {h0 h : eb_H} {Q : Option Value → eb_H → Prop} (x1 : Int32) (x2 : Int32)  (ko : eb_KO h) (w : eb_Ct d 60 [.ref s_trial, .ref s_now] h (fun r h1 => r = none ∧ eb_KO h1 ∧ ∃ r4, eb_R (eb_sI h1 s_trial 4 x1) s_EB 2 = some r4 ∧ eb_kd r4 = 9 ∧ eb_Ct d 90 [.ref r4, .ref s_trial, .int x2] (eb_sI h1 s_trial 4 x1) (fun r h7 => ∃ y8, r = some (.int y8) ∧ eb_KO h7 ∧ Q (some (.int (((16 : Int32) * (eb_I h7 s_trial 1)) + (eb_I h7 s_trial 0)))) h7))) : eb_Sn (d + 1) m_X10_broughtBy h0 0 [(0, .ref s_EB), (1, .int x1), (2, .int x2)] [] h Q := by
  refine eb_aload_n (pc := 0) (n := 0) (i := 0) rfl rfl rfl ?_
  refine eb_getR (pc := 1) rfl rfl (by decide) (by decide) rfl (ko_s_EB_5 ko) ?_
  refine eb_aload_n (pc := 4) (n := 0) (i := 0) rfl rfl rfl ?_
  refine eb_getR (pc := 5) rfl rfl (by decide) (by decide) rfl (ko_s_EB_3 ko) ?_
  refine eb_ctV (pc := 8) (As := [.ref s_now]) (rest := []) rfl (by decide) rfl rfl (by decide) rfl (Nat.le_of_ble_eq_true rfl) ?_
  refine eb_Ct.mono w ?_
  rintro r h1 ⟨rfl, ko3, w⟩
  change eb_Sn _ _ _ 11 _ [] _ _
  refine eb_aload_n (pc := 11) (n := 0) (i := 0) rfl rfl rfl ?_
  refine eb_getR (pc := 12) rfl rfl (by decide) (by decide) rfl (ko_s_EB_5 ko3) ?_
  refine eb_iload_n (pc := 15) (n := 1) (i := 1) rfl rfl rfl ?_
  refine eb_putI (pc := 16) rfl rfl (by decide) (by decide) rfl rfl ⟨rfl, rfl⟩ ?_
  refine eb_aload_n (pc := 19) (n := 0) (i := 0) rfl rfl rfl ?_
  obtain ⟨r4, q5, k6, w⟩ := w
  refine eb_getR (pc := 20) rfl rfl (by decide) (by decide) rfl q5 ?_
  refine eb_aload_n (pc := 23) (n := 0) (i := 0) rfl rfl rfl ?_
  refine eb_getR (pc := 24) rfl rfl (by decide) (by decide) rfl (ko_s_EB_5 ko3) ?_
  refine eb_iload_n (pc := 27) (n := 2) (i := 2) rfl rfl rfl ?_
  refine eb_ctV (pc := 28) (As := [.ref s_trial, .int x2]) (rest := []) rfl (by decide) rfl k6 (by decide) rfl (Nat.le_of_ble_eq_true rfl) ?_
  refine eb_Ct.mono w ?_
  rintro r h7 ⟨y8, rfl, ko9, w⟩
  change eb_Sn _ _ _ 31 _ [.int y8] _ _
  refine eb_popi (pc := 31) rfl ?_
  refine eb_aload_n (pc := 32) (n := 0) (i := 0) rfl rfl rfl ?_
  refine eb_getR (pc := 33) rfl rfl (by decide) (by decide) rfl (ko_s_EB_5 ko9) ?_
  refine eb_getI (pc := 36) rfl rfl (by decide) (by decide) rfl ?_
  refine eb_aload_n (pc := 39) (n := 0) (i := 0) rfl rfl rfl ?_
  refine eb_getR (pc := 40) rfl rfl (by decide) (by decide) rfl (ko_s_EB_5 ko9) ?_
  refine eb_getI (pc := 43) rfl rfl (by decide) (by decide) rfl ?_
  refine eb_ctS (pc := 46) (As := [.int (eb_I h7 s_trial 0), .int (eb_I h7 s_trial 1)]) (rest := []) rfl (by decide) (by decide) rfl rfl (Nat.le_of_ble_eq_true rfl) ?_
  refine eb_bodyQ (by decide) ok_X1_codeOf (Nat.le_of_ble_eq_true rfl) ?_
  change eb_Sn _ m_X1_codeOf _ 0 [(0, .int (eb_I h7 s_trial 0)), (1, .int (eb_I h7 s_trial 1))] [] _ _
  refine eb_bipush (pc := 0) (n := 16) (v := 16) rfl rfl ?_
  refine eb_iload_n (pc := 2) (n := 1) (i := 1) rfl rfl rfl ?_
  refine eb_imul (pc := 3) rfl ?_
  refine eb_iload_n (pc := 4) (n := 0) (i := 0) rfl rfl rfl ?_
  refine eb_iadd (pc := 5) rfl ?_
  refine eb_ireturn (pc := 6) rfl rfl rfl ?_
  change eb_Sn _ _ _ 49 _ [.int (((16 : Int32) * (eb_I h7 s_trial 1)) + (eb_I h7 s_trial 0))] _ _
  exact eb_ireturn (pc := 49) rfl rfl rfl w
theorem T_X10_broughtBy {d : Nat} {h : eb_H} {Q : Option Value → eb_H → Prop} (x1 : Int32) (x2 : Int32)  (ko : eb_KO h) (w : eb_Ct d 60 [.ref s_trial, .ref s_now] h (fun r h1 => r = none ∧ eb_KO h1 ∧ ∃ r4, eb_R (eb_sI h1 s_trial 4 x1) s_EB 2 = some r4 ∧ eb_kd r4 = 9 ∧ eb_Ct d 90 [.ref r4, .ref s_trial, .int x2] (eb_sI h1 s_trial 4 x1) (fun r h7 => ∃ y8, r = some (.int y8) ∧ eb_KO h7 ∧ Q (some (.int (((16 : Int32) * (eb_I h7 s_trial 1)) + (eb_I h7 s_trial 0)))) h7))) : eb_Ct (d + 1) 152 [.ref s_EB, .int x1, .int x2] h Q :=
  eb_bodyQ (by decide) ok_X10_broughtBy (Nat.le_of_ble_eq_true rfl) (b_X10_broughtBy_0 (h0 := h) x1 x2  ko w)
theorem b_X10_isAt_0 {d : Nat} {h0 h : eb_H} {Q : Option Value → eb_H → Prop} (a1 : Nat) (x2 : Int32) (x3 : Int32) (ka1 : eb_kd a1 = 6) (ko : eb_KO h) (w : ∃ r1, eb_R h s_EB 2 = some r1 ∧ eb_kd r1 = 9 ∧ ((x2 < 0 → Q (some (.int (eb_q (((eb_I h a1 0) = ((-1) : Int32)) ∧ (((eb_I h a1 1) &&& x3) = x3))))) h) ∧ (¬ (x2 < 0) → ∃ r5, eb_R h r1 5 = some r5 ∧ eb_kd r5 = 13 ∧ (((Int32.ofNat (eb_ln r5)) ≤ x2 → Q (some (.int (eb_q (((eb_I h a1 0) = ((-1) : Int32)) ∧ (((eb_I h a1 1) &&& x3) = x3))))) h) ∧ (¬ ((Int32.ofNat (eb_ln r5)) ≤ x2) → (vp_in x2 (eb_ln r5)) ∧ Q (some (.int (eb_q (((eb_I h a1 0) = (eb_I h r5 x2.toNatClampNeg)) ∧ (((eb_I h a1 1) &&& x3) = x3))))) h))))) : eb_Sn (d + 1) m_X10_isAt h0 0 [(0, .ref s_EB), (1, .ref a1), (2, .int x2), (3, .int x3)] [] h Q := by
  refine eb_aload_n (pc := 0) (n := 1) (i := 1) rfl rfl rfl ?_
  refine eb_getI (pc := 1) rfl ka1 (by decide) (by decide) rfl ?_
  refine eb_aload_n (pc := 4) (n := 0) (i := 0) rfl rfl rfl ?_
  obtain ⟨r1, q2, k3, w⟩ := w
  refine eb_getR (pc := 5) rfl rfl (by decide) (by decide) rfl q2 ?_
  refine eb_iload_n (pc := 8) (n := 2) (i := 2) rfl rfl rfl ?_
  refine eb_ctV (pc := 9) (As := [.int x2]) (rest := [.int (eb_I h a1 0)]) rfl (by decide) rfl k3 (by decide) rfl (Nat.le_of_ble_eq_true rfl) ?_
  refine eb_bodyQ (by decide) ok_X9_houseCell (Nat.le_of_ble_eq_true rfl) ?_
  change eb_Sn _ m_X9_houseCell _ 0 [(0, .ref r1), (1, .int x2)] [] _ _
  refine eb_iload_n (pc := 0) (n := 1) (i := 1) rfl rfl rfl ?_
  refine eb_if_lt (pc := 1) (tgt := 22) rfl (by decide) (fun c4 => ?_) (fun c4 => ?_)
  · replace w := w.1 c4
    refine eb_iconst (pc := 22) (n := -1) (v := (-1)) rfl rfl ?_
    refine eb_ireturn (pc := 23) rfl rfl rfl ?_
    change eb_Sn _ _ _ 12 _ [.int (-1), .int (eb_I h a1 0)] _ _
    refine eb_joinI (pc2 := 30) (ls2 := [(0, .ref s_EB), (1, .ref a1), (2, .int x2), (3, .int x3)]) (st2 := []) (v := eb_q (((eb_I h a1 0) = ((-1) : Int32)) ∧ (((eb_I h a1 1) &&& x3) = x3))) ?_ (fun jj12 => ?_)
    · exact eb_ireturn (pc := 30) rfl rfl eb_qn w
    refine eb_icmp_ne (pc := 12) (tgt := 29) rfl (by decide) (fun c10 => ?_) (fun c10 => ?_)
    · refine eb_iconst (pc := 29) (n := 0) (v := 0) rfl rfl ?_
      exact jj12 0 (eb_qf (fun z => c10 z.1)).symm
    · refine eb_aload_n (pc := 15) (n := 1) (i := 1) rfl rfl rfl ?_
      refine eb_getI (pc := 16) rfl ka1 (by decide) (by decide) rfl ?_
      refine eb_iload_n (pc := 19) (n := 3) (i := 3) rfl rfl rfl ?_
      refine eb_iand (pc := 20) rfl ?_
      refine eb_iload_n (pc := 21) (n := 3) (i := 3) rfl rfl rfl ?_
      refine eb_icmp_ne (pc := 22) (tgt := 29) rfl (by decide) (fun c11 => ?_) (fun c11 => ?_)
      · refine eb_iconst (pc := 29) (n := 0) (v := 0) rfl rfl ?_
        exact jj12 0 (eb_qf (fun z => c11 z.2)).symm
      · refine eb_iconst (pc := 25) (n := 1) (v := 1) rfl rfl ?_
        refine eb_goto (pc := 26) (tgt := 30) rfl (by decide) ?_
        exact jj12 1 (eb_qt (⟨c10, c11⟩)).symm
  · replace w := w.2 c4
    refine eb_iload_n (pc := 4) (n := 1) (i := 1) rfl rfl rfl ?_
    refine eb_aload_n (pc := 5) (n := 0) (i := 0) rfl rfl rfl ?_
    obtain ⟨r5, q6, k7, w⟩ := w
    refine eb_getR (pc := 6) rfl k3 (by decide) (by decide) rfl q6 ?_
    refine eb_alen (pc := 9) rfl (by rw [k7]; decide) (by rw [k7]; decide) rfl ?_
    refine eb_icmp_ge (pc := 10) (tgt := 22) rfl (by decide) (fun c8 => ?_) (fun c8 => ?_)
    · replace w := w.1 c8
      refine eb_iconst (pc := 22) (n := -1) (v := (-1)) rfl rfl ?_
      refine eb_ireturn (pc := 23) rfl rfl rfl ?_
      change eb_Sn _ _ _ 12 _ [.int (-1), .int (eb_I h a1 0)] _ _
      refine eb_joinI (pc2 := 30) (ls2 := [(0, .ref s_EB), (1, .ref a1), (2, .int x2), (3, .int x3)]) (st2 := []) (v := eb_q (((eb_I h a1 0) = ((-1) : Int32)) ∧ (((eb_I h a1 1) &&& x3) = x3))) ?_ (fun jj16 => ?_)
      · exact eb_ireturn (pc := 30) rfl rfl eb_qn w
      refine eb_icmp_ne (pc := 12) (tgt := 29) rfl (by decide) (fun c14 => ?_) (fun c14 => ?_)
      · refine eb_iconst (pc := 29) (n := 0) (v := 0) rfl rfl ?_
        exact jj16 0 (eb_qf (fun z => c14 z.1)).symm
      · refine eb_aload_n (pc := 15) (n := 1) (i := 1) rfl rfl rfl ?_
        refine eb_getI (pc := 16) rfl ka1 (by decide) (by decide) rfl ?_
        refine eb_iload_n (pc := 19) (n := 3) (i := 3) rfl rfl rfl ?_
        refine eb_iand (pc := 20) rfl ?_
        refine eb_iload_n (pc := 21) (n := 3) (i := 3) rfl rfl rfl ?_
        refine eb_icmp_ne (pc := 22) (tgt := 29) rfl (by decide) (fun c15 => ?_) (fun c15 => ?_)
        · refine eb_iconst (pc := 29) (n := 0) (v := 0) rfl rfl ?_
          exact jj16 0 (eb_qf (fun z => c15 z.2)).symm
        · refine eb_iconst (pc := 25) (n := 1) (v := 1) rfl rfl ?_
          refine eb_goto (pc := 26) (tgt := 30) rfl (by decide) ?_
          exact jj16 1 (eb_qt (⟨c14, c15⟩)).symm
    · replace w := w.2 c8
      refine eb_aload_n (pc := 13) (n := 0) (i := 0) rfl rfl rfl ?_
      refine eb_getR (pc := 14) rfl k3 (by decide) (by decide) rfl q6 ?_
      refine eb_iload_n (pc := 17) (n := 1) (i := 1) rfl rfl rfl ?_
      obtain ⟨c9, w⟩ := w
      refine eb_iaload (pc := 18) rfl k7 (by decide) c9 ?_
      refine eb_goto (pc := 19) (tgt := 23) rfl (by decide) ?_
      refine eb_ireturn (pc := 23) rfl rfl rfl ?_
      change eb_Sn _ _ _ 12 _ [.int (eb_I h r5 x2.toNatClampNeg), .int (eb_I h a1 0)] _ _
      refine eb_joinI (pc2 := 30) (ls2 := [(0, .ref s_EB), (1, .ref a1), (2, .int x2), (3, .int x3)]) (st2 := []) (v := eb_q (((eb_I h a1 0) = (eb_I h r5 x2.toNatClampNeg)) ∧ (((eb_I h a1 1) &&& x3) = x3))) ?_ (fun jj20 => ?_)
      · exact eb_ireturn (pc := 30) rfl rfl eb_qn w
      refine eb_icmp_ne (pc := 12) (tgt := 29) rfl (by decide) (fun c18 => ?_) (fun c18 => ?_)
      · refine eb_iconst (pc := 29) (n := 0) (v := 0) rfl rfl ?_
        exact jj20 0 (eb_qf (fun z => c18 z.1)).symm
      · refine eb_aload_n (pc := 15) (n := 1) (i := 1) rfl rfl rfl ?_
        refine eb_getI (pc := 16) rfl ka1 (by decide) (by decide) rfl ?_
        refine eb_iload_n (pc := 19) (n := 3) (i := 3) rfl rfl rfl ?_
        refine eb_iand (pc := 20) rfl ?_
        refine eb_iload_n (pc := 21) (n := 3) (i := 3) rfl rfl rfl ?_
        refine eb_icmp_ne (pc := 22) (tgt := 29) rfl (by decide) (fun c19 => ?_) (fun c19 => ?_)
        · refine eb_iconst (pc := 29) (n := 0) (v := 0) rfl rfl ?_
          exact jj20 0 (eb_qf (fun z => c19 z.2)).symm
        · refine eb_iconst (pc := 25) (n := 1) (v := 1) rfl rfl ?_
          refine eb_goto (pc := 26) (tgt := 30) rfl (by decide) ?_
          exact jj20 1 (eb_qt (⟨c18, c19⟩)).symm
theorem T_X10_isAt {d : Nat} {h : eb_H} {Q : Option Value → eb_H → Prop} (a1 : Nat) (x2 : Int32) (x3 : Int32) (ka1 : eb_kd a1 = 6) (ko : eb_KO h) (w : ∃ r1, eb_R h s_EB 2 = some r1 ∧ eb_kd r1 = 9 ∧ ((x2 < 0 → Q (some (.int (eb_q (((eb_I h a1 0) = ((-1) : Int32)) ∧ (((eb_I h a1 1) &&& x3) = x3))))) h) ∧ (¬ (x2 < 0) → ∃ r5, eb_R h r1 5 = some r5 ∧ eb_kd r5 = 13 ∧ (((Int32.ofNat (eb_ln r5)) ≤ x2 → Q (some (.int (eb_q (((eb_I h a1 0) = ((-1) : Int32)) ∧ (((eb_I h a1 1) &&& x3) = x3))))) h) ∧ (¬ ((Int32.ofNat (eb_ln r5)) ≤ x2) → (vp_in x2 (eb_ln r5)) ∧ Q (some (.int (eb_q (((eb_I h a1 0) = (eb_I h r5 x2.toNatClampNeg)) ∧ (((eb_I h a1 1) &&& x3) = x3))))) h))))) : eb_Ct (d + 1) 153 [.ref s_EB, .ref a1, .int x2, .int x3] h Q :=
  eb_bodyQ (by decide) ok_X10_isAt (Nat.le_of_ble_eq_true rfl) (b_X10_isAt_0 (h0 := h) a1 x2 x3 ka1 ko w)
theorem b_X10_forcingStep_0 {d : Nat} {h0 h : eb_H} {Q : Option Value → eb_H → Prop} (x1 : Int32) (x2 : Int32)  (ko : eb_KO h) (w : eb_Sn (d + 1) m_X10_forcingStep h0 2 [(0, .ref s_EB), (1, .int x1), (2, .int x2), (3, .int 0)] [] h Q) : eb_Sn (d + 1) m_X10_forcingStep h0 0 [(0, .ref s_EB), (1, .int x1), (2, .int x2)] [] h Q := by
  refine eb_iconst (pc := 0) (n := 0) (v := 0) rfl rfl ?_
  refine eb_istore_n (pc := 1) (n := 3) (i := 3) (ls2 := [(3, .int 0), (0, .ref s_EB), (1, .int x1), (2, .int x2)]) rfl (Nat.le_of_ble_eq_true rfl) rfl rfl ?_
  exact eb_pick [1, 2, 3, 0] rfl w
theorem b_X10_forcingStep_2 {d : Nat} {h0 h : eb_H} {Q : Option Value → eb_H → Prop} (x1 : Int32) (x2 : Int32) (x3 : Int32)  (ko : eb_KO h) (w : (((4 : Int32) ≤ x3 → Q (some (.int (-1))) h) ∧ (¬ ((4 : Int32) ≤ x3) → eb_Ct d 60 [.ref s_trial, .ref s_now] h (fun r h2 => r = none ∧ eb_KO h2 ∧ ∃ r5, eb_R h2 s_EB 2 = some r5 ∧ eb_kd r5 = 9 ∧ eb_Ct d 90 [.ref r5, .ref s_trial, .int x3] h2 (fun r h8 => ∃ y9, r = some (.int y9) ∧ eb_KO h8 ∧ ((y9 < 0 → eb_Sn (d + 1) m_X10_forcingStep h0 2 [(0, .ref s_EB), (1, .int x1), (2, .int x2), (3, .int (x3 + 1))] [] h8 Q) ∧ (¬ (y9 < 0) → eb_Ct d 153 [.ref s_EB, .ref s_trial, .int x1, .int x2] h8 (fun r h12 => ∃ y13, r = some (.int y13) ∧ eb_KO h12 ∧ ((y13 = 0 → eb_Sn (d + 1) m_X10_forcingStep h0 2 [(0, .ref s_EB), (1, .int x1), (2, .int x2), (3, .int (x3 + 1))] [] h12 Q) ∧ (¬ (y13 = 0) → Q (some (.int x3)) h12)))))))))) : eb_Sn (d + 1) m_X10_forcingStep h0 2 [(0, .ref s_EB), (1, .int x1), (2, .int x2), (3, .int x3)] [] h Q := by
  refine eb_iload_n (pc := 2) (n := 3) (i := 3) rfl rfl rfl ?_
  refine eb_iconst (pc := 3) (n := 4) (v := 4) rfl rfl ?_
  refine eb_icmp_ge (pc := 4) (tgt := 54) rfl (by decide) (fun c1 => ?_) (fun c1 => ?_)
  · replace w := w.1 c1
    refine eb_iconst (pc := 54) (n := -1) (v := (-1)) rfl rfl ?_
    exact eb_ireturn (pc := 55) rfl rfl rfl w
  · replace w := w.2 c1
    refine eb_aload_n (pc := 7) (n := 0) (i := 0) rfl rfl rfl ?_
    refine eb_getR (pc := 8) rfl rfl (by decide) (by decide) rfl (ko_s_EB_5 ko) ?_
    refine eb_aload_n (pc := 11) (n := 0) (i := 0) rfl rfl rfl ?_
    refine eb_getR (pc := 12) rfl rfl (by decide) (by decide) rfl (ko_s_EB_3 ko) ?_
    refine eb_ctV (pc := 15) (As := [.ref s_now]) (rest := []) rfl (by decide) rfl rfl (by decide) rfl (Nat.le_of_ble_eq_true rfl) ?_
    refine eb_Ct.mono w ?_
    rintro r h2 ⟨rfl, ko4, w⟩
    change eb_Sn _ _ _ 18 _ [] _ _
    refine eb_aload_n (pc := 18) (n := 0) (i := 0) rfl rfl rfl ?_
    obtain ⟨r5, q6, k7, w⟩ := w
    refine eb_getR (pc := 19) rfl rfl (by decide) (by decide) rfl q6 ?_
    refine eb_aload_n (pc := 22) (n := 0) (i := 0) rfl rfl rfl ?_
    refine eb_getR (pc := 23) rfl rfl (by decide) (by decide) rfl (ko_s_EB_5 ko4) ?_
    refine eb_iload_n (pc := 26) (n := 3) (i := 3) rfl rfl rfl ?_
    refine eb_ctV (pc := 27) (As := [.ref s_trial, .int x3]) (rest := []) rfl (by decide) rfl k7 (by decide) rfl (Nat.le_of_ble_eq_true rfl) ?_
    refine eb_Ct.mono w ?_
    rintro r h8 ⟨y9, rfl, ko10, w⟩
    change eb_Sn _ _ _ 30 _ [.int y9] _ _
    refine eb_if_lt (pc := 30) (tgt := 48) rfl (by decide) (fun c11 => ?_) (fun c11 => ?_)
    · replace w := w.1 c11
      refine eb_iinc (pc := 48) (i := 3) (n := 1) (v := x3 + 1) (ls2 := [(3, .int (x3 + 1)), (0, .ref s_EB), (1, .int x1), (2, .int x2)]) (Nat.le_of_ble_eq_true rfl) rfl rfl rfl rfl ?_
      refine eb_goto (pc := 51) (tgt := 2) rfl (by decide) ?_
      exact eb_pick [1, 2, 3, 0] rfl w
    · replace w := w.2 c11
      refine eb_aload_n (pc := 33) (n := 0) (i := 0) rfl rfl rfl ?_
      refine eb_aload_n (pc := 34) (n := 0) (i := 0) rfl rfl rfl ?_
      refine eb_getR (pc := 35) rfl rfl (by decide) (by decide) rfl (ko_s_EB_5 ko10) ?_
      refine eb_iload_n (pc := 38) (n := 1) (i := 1) rfl rfl rfl ?_
      refine eb_iload_n (pc := 39) (n := 2) (i := 2) rfl rfl rfl ?_
      refine eb_ctV (pc := 40) (As := [.ref s_trial, .int x1, .int x2]) (rest := []) rfl (by decide) rfl rfl (by decide) rfl (Nat.le_of_ble_eq_true rfl) ?_
      refine eb_Ct.mono w ?_
      rintro r h12 ⟨y13, rfl, ko14, w⟩
      change eb_Sn _ _ _ 43 _ [.int y13] _ _
      refine eb_if_eq (pc := 43) (tgt := 48) rfl (by decide) (fun c15 => ?_) (fun c15 => ?_)
      · replace w := w.1 c15
        refine eb_iinc (pc := 48) (i := 3) (n := 1) (v := x3 + 1) (ls2 := [(3, .int (x3 + 1)), (0, .ref s_EB), (1, .int x1), (2, .int x2)]) (Nat.le_of_ble_eq_true rfl) rfl rfl rfl rfl ?_
        refine eb_goto (pc := 51) (tgt := 2) rfl (by decide) ?_
        exact eb_pick [1, 2, 3, 0] rfl w
      · replace w := w.2 c15
        refine eb_iload_n (pc := 46) (n := 3) (i := 3) rfl rfl rfl ?_
        exact eb_ireturn (pc := 47) rfl rfl rfl w
theorem T_X10_forcingStep {d : Nat} {h : eb_H} {Q : Option Value → eb_H → Prop} (x1 : Int32) (x2 : Int32)  (ko : eb_KO h) (w : eb_Sn (d + 1) m_X10_forcingStep h 2 [(0, .ref s_EB), (1, .int x1), (2, .int x2), (3, .int 0)] [] h Q) : eb_Ct (d + 1) 154 [.ref s_EB, .int x1, .int x2] h Q :=
  eb_bodyQ (by decide) ok_X10_forcingStep (Nat.le_of_ble_eq_true rfl) (b_X10_forcingStep_0 (h0 := h) x1 x2  ko w)
theorem b_X10_partOfAll_0 {d : Nat} {h0 h : eb_H} {Q : Option Value → eb_H → Prop} (x0 : Int64) (x2 : Int32) (x3 : Int32)  (ko : eb_KO h) (w : eb_Sn d m_X10_partOfAll h0 13 [(3, .int x3), (4, .long x0), (6, .long ((1 : Int64) <<< (((2 : Int32) * x2).toInt64 &&& 63))), (8, .int 0)] [] h Q) : eb_Sn d m_X10_partOfAll h0 0 [(0, .long x0), (2, .int x2), (3, .int x3)] [] h Q := by
  refine eb_lload_n (pc := 0) (n := 0) (i := 0) rfl rfl rfl ?_
  refine eb_lstore (pc := 1) (i := 4) (ls2 := [(4, .long x0), (0, .long x0), (2, .int x2), (3, .int x3)]) (Nat.le_of_ble_eq_true rfl) rfl rfl ?_
  refine eb_lconst (pc := 3) (n := 1) (v := 1) rfl rfl ?_
  refine eb_iconst (pc := 4) (n := 2) (v := 2) rfl rfl ?_
  refine eb_iload_n (pc := 5) (n := 2) (i := 2) rfl rfl rfl ?_
  refine eb_imul (pc := 6) rfl ?_
  refine eb_lshl (pc := 7) rfl ?_
  refine eb_lstore (pc := 8) (i := 6) (ls2 := [(6, .long ((1 : Int64) <<< (((2 : Int32) * x2).toInt64 &&& 63))), (4, .long x0), (0, .long x0), (2, .int x2), (3, .int x3)]) (Nat.le_of_ble_eq_true rfl) rfl rfl ?_
  refine eb_iconst (pc := 10) (n := 0) (v := 0) rfl rfl ?_
  refine eb_istore (pc := 11) (i := 8) (ls2 := [(8, .int 0), (6, .long ((1 : Int64) <<< (((2 : Int32) * x2).toInt64 &&& 63))), (4, .long x0), (0, .long x0), (2, .int x2), (3, .int x3)]) (Nat.le_of_ble_eq_true rfl) rfl rfl ?_
  exact eb_pick [5, 2, 1, 0] rfl w
theorem b_X10_partOfAll_13 {d : Nat} {h0 h : eb_H} {Q : Option Value → eb_H → Prop} (x3 : Int32) (x4 : Int64) (x6 : Int64) (x8 : Int32)  (ko : eb_KO h) (w : (((16 : Int32) ≤ x8 → Q (some (.int ((if x3 = 0 then x4 else x6 : Int64).toInt32))) h) ∧ (¬ ((16 : Int32) ≤ x8) → ((x6 ≤ 1 → Q (some (.int ((if x3 = 0 then x4 else x6 : Int64).toInt32))) h) ∧ (¬ (x6 ≤ 1) → ((¬ (x4 &&& 1) = 0 → Q (some (.int ((if x3 = 0 then x4 else x6 : Int64).toInt32))) h) ∧ ((x4 &&& 1) = 0 → eb_Sn d m_X10_partOfAll h0 13 [(3, .int x3), (4, .long (x4 >>> ((1 : Int32).toInt64 &&& 63))), (6, .long (x6 >>> ((1 : Int32).toInt64 &&& 63))), (8, .int (x8 + 1))] [] h Q))))))) : eb_Sn d m_X10_partOfAll h0 13 [(3, .int x3), (4, .long x4), (6, .long x6), (8, .int x8)] [] h Q := by
  refine eb_iload (pc := 13) (i := 8) rfl rfl ?_
  refine eb_bipush (pc := 15) (n := 16) (v := 16) rfl rfl ?_
  refine eb_icmp_ge (pc := 17) (tgt := 54) rfl (by decide) (fun c1 => ?_) (fun c1 => ?_)
  · replace w := w.1 c1
    refine eb_iload_n (pc := 54) (n := 3) (i := 3) rfl rfl rfl ?_
    refine eb_joinL (pc2 := 65) (ls2 := [(3, .int x3), (4, .long x4), (6, .long x6), (8, .int x8)]) (st2 := []) (v := (if x3 = 0 then x4 else x6 : Int64)) ?_ (fun jj3 => ?_)
    · refine eb_l2i (pc := 65) rfl ?_
      exact eb_ireturn (pc := 66) rfl rfl rfl w
    refine eb_if_ne (pc := 55) (tgt := 63) rfl (by decide) (fun c2 => ?_) (fun c2 => ?_)
    · refine eb_lload (pc := 63) (i := 6) rfl rfl ?_
      exact jj3 _ (by simp only [if_neg c2])
    · refine eb_lload (pc := 58) (i := 4) rfl rfl ?_
      refine eb_goto (pc := 60) (tgt := 65) rfl (by decide) ?_
      exact jj3 _ (by simp only [if_pos c2])
  · replace w := w.2 c1
    refine eb_lload (pc := 20) (i := 6) rfl rfl ?_
    refine eb_lconst (pc := 22) (n := 1) (v := 1) rfl rfl ?_
    refine eb_lcmp (pc := 23) rfl ?_
    refine eb_if_le (pc := 24) (tgt := 54) rfl (by decide) (fun c5 => ?_) (fun c5 => ?_)
    · replace c5 := eb_lc_le.mp c5
      replace w := w.1 c5
      refine eb_iload_n (pc := 54) (n := 3) (i := 3) rfl rfl rfl ?_
      refine eb_joinL (pc2 := 65) (ls2 := [(3, .int x3), (4, .long x4), (6, .long x6), (8, .int x8)]) (st2 := []) (v := (if x3 = 0 then x4 else x6 : Int64)) ?_ (fun jj7 => ?_)
      · refine eb_l2i (pc := 65) rfl ?_
        exact eb_ireturn (pc := 66) rfl rfl rfl w
      refine eb_if_ne (pc := 55) (tgt := 63) rfl (by decide) (fun c6 => ?_) (fun c6 => ?_)
      · refine eb_lload (pc := 63) (i := 6) rfl rfl ?_
        exact jj7 _ (by simp only [if_neg c6])
      · refine eb_lload (pc := 58) (i := 4) rfl rfl ?_
        refine eb_goto (pc := 60) (tgt := 65) rfl (by decide) ?_
        exact jj7 _ (by simp only [if_pos c6])
    · replace c5 := (fun hh => mt eb_lc_le.mpr hh) c5
      replace w := w.2 c5
      refine eb_lload (pc := 27) (i := 4) rfl rfl ?_
      refine eb_lconst (pc := 29) (n := 1) (v := 1) rfl rfl ?_
      refine eb_land (pc := 30) rfl ?_
      refine eb_lconst (pc := 31) (n := 0) (v := 0) rfl rfl ?_
      refine eb_lcmp (pc := 32) rfl ?_
      refine eb_if_ne (pc := 33) (tgt := 54) rfl (by decide) (fun c9 => ?_) (fun c9 => ?_)
      · replace c9 := eb_lc_ne.mp c9
        replace w := w.1 c9
        refine eb_iload_n (pc := 54) (n := 3) (i := 3) rfl rfl rfl ?_
        refine eb_joinL (pc2 := 65) (ls2 := [(3, .int x3), (4, .long x4), (6, .long x6), (8, .int x8)]) (st2 := []) (v := (if x3 = 0 then x4 else x6 : Int64)) ?_ (fun jj11 => ?_)
        · refine eb_l2i (pc := 65) rfl ?_
          exact eb_ireturn (pc := 66) rfl rfl rfl w
        refine eb_if_ne (pc := 55) (tgt := 63) rfl (by decide) (fun c10 => ?_) (fun c10 => ?_)
        · refine eb_lload (pc := 63) (i := 6) rfl rfl ?_
          exact jj11 _ (by simp only [if_neg c10])
        · refine eb_lload (pc := 58) (i := 4) rfl rfl ?_
          refine eb_goto (pc := 60) (tgt := 65) rfl (by decide) ?_
          exact jj11 _ (by simp only [if_pos c10])
      · replace c9 := eb_lc_eq.mp c9
        replace w := w.2 c9
        refine eb_lload (pc := 36) (i := 4) rfl rfl ?_
        refine eb_iconst (pc := 38) (n := 1) (v := 1) rfl rfl ?_
        refine eb_lshr (pc := 39) rfl ?_
        refine eb_lstore (pc := 40) (i := 4) (ls2 := [(4, .long (x4 >>> ((1 : Int32).toInt64 &&& 63))), (3, .int x3), (6, .long x6), (8, .int x8)]) (Nat.le_of_ble_eq_true rfl) rfl rfl ?_
        refine eb_lload (pc := 42) (i := 6) rfl rfl ?_
        refine eb_iconst (pc := 44) (n := 1) (v := 1) rfl rfl ?_
        refine eb_lshr (pc := 45) rfl ?_
        refine eb_lstore (pc := 46) (i := 6) (ls2 := [(6, .long (x6 >>> ((1 : Int32).toInt64 &&& 63))), (4, .long (x4 >>> ((1 : Int32).toInt64 &&& 63))), (3, .int x3), (8, .int x8)]) (Nat.le_of_ble_eq_true rfl) rfl rfl ?_
        refine eb_iinc (pc := 48) (i := 8) (n := 1) (v := x8 + 1) (ls2 := [(8, .int (x8 + 1)), (6, .long (x6 >>> ((1 : Int32).toInt64 &&& 63))), (4, .long (x4 >>> ((1 : Int32).toInt64 &&& 63))), (3, .int x3)]) (Nat.le_of_ble_eq_true rfl) rfl rfl rfl rfl ?_
        refine eb_goto (pc := 51) (tgt := 13) rfl (by decide) ?_
        exact eb_pick [3, 2, 1, 0] rfl w
theorem T_X10_partOfAll {d : Nat} {h : eb_H} {Q : Option Value → eb_H → Prop} (x0 : Int64) (x2 : Int32) (x3 : Int32)  (ko : eb_KO h) (w : eb_Sn d m_X10_partOfAll h 13 [(3, .int x3), (4, .long x0), (6, .long ((1 : Int64) <<< (((2 : Int32) * x2).toInt64 &&& 63))), (8, .int 0)] [] h Q) : eb_Ct d 155 [.long x0, .int x2, .int x3] h Q :=
  eb_bodyQ (by decide) ok_X10_partOfAll (Nat.le_of_ble_eq_true rfl) (b_X10_partOfAll_0 (h0 := h) x0 x2 x3  ko w)
theorem b_X11_within_0 {d : Nat} {h0 h : eb_H} {Q : Option Value → eb_H → Prop} (x0 : Int64) (x2 : Int64) (x4 : Int64)  (ko : eb_KO h) (w : Q (some (.int (eb_q ((¬ (x0 < x2)) ∧ (¬ (x4 < x0)))))) h) : eb_Sn d m_X11_within h0 0 [(0, .long x0), (2, .long x2), (4, .long x4)] [] h Q := by
  refine eb_lload_n (pc := 0) (n := 0) (i := 0) rfl rfl rfl ?_
  refine eb_lload_n (pc := 1) (n := 2) (i := 2) rfl rfl rfl ?_
  refine eb_lcmp (pc := 2) rfl ?_
  refine eb_joinI (pc2 := 18) (ls2 := [(0, .long x0), (2, .long x2), (4, .long x4)]) (st2 := []) (v := eb_q ((¬ (x0 < x2)) ∧ (¬ (x4 < x0)))) ?_ (fun jj3 => ?_)
  · exact eb_ireturn (pc := 18) rfl rfl eb_qn w
  refine eb_if_lt (pc := 3) (tgt := 17) rfl (by decide) (fun c1 => ?_) (fun c1 => ?_)
  · replace c1 := eb_lc_lt.mp c1
    refine eb_iconst (pc := 17) (n := 0) (v := 0) rfl rfl ?_
    exact jj3 0 (eb_qf (fun z => z.1 c1)).symm
  · replace c1 := (fun hh => mt eb_lc_lt.mpr hh) c1
    refine eb_lload_n (pc := 6) (n := 0) (i := 0) rfl rfl rfl ?_
    refine eb_lload (pc := 7) (i := 4) rfl rfl ?_
    refine eb_lcmp (pc := 9) rfl ?_
    refine eb_if_gt (pc := 10) (tgt := 17) rfl (by decide) (fun c2 => ?_) (fun c2 => ?_)
    · replace c2 := eb_lc_gt.mp c2
      refine eb_iconst (pc := 17) (n := 0) (v := 0) rfl rfl ?_
      exact jj3 0 (eb_qf (fun z => (fun z => z c2) z.2)).symm
    · replace c2 := (fun hh => mt eb_lc_gt.mpr hh) c2
      refine eb_iconst (pc := 13) (n := 1) (v := 1) rfl rfl ?_
      refine eb_goto (pc := 14) (tgt := 18) rfl (by decide) ?_
      exact jj3 1 (eb_qt (⟨c1, c2⟩)).symm
theorem T_X11_within {d : Nat} {h : eb_H} {Q : Option Value → eb_H → Prop} (x0 : Int64) (x2 : Int64) (x4 : Int64)  (ko : eb_KO h) (w : Q (some (.int (eb_q ((¬ (x0 < x2)) ∧ (¬ (x4 < x0)))))) h) : eb_Ct d 156 [.long x0, .long x2, .long x4] h Q :=
  eb_bodyQ (by decide) ok_X11_within (Nat.le_of_ble_eq_true rfl) (b_X11_within_0 (h0 := h) x0 x2 x4  ko w)
theorem b_X11_init_0 {d : Nat} {h0 h : eb_H} {Q : Option Value → eb_H → Prop} (a0 : Nat) (ka0 : eb_kd a0 = 11) (w : ∀ r3, r3 = eb_nx h 13 3492 → ∀ h1, h1 = eb_nw h 13 3492 3492 → ∀ h5, h5 = eb_sR h1 a0 1 (some r3) → ∀ r9, r9 = eb_nx h5 15 2 → ∀ h7, h7 = eb_nw h5 15 2 2 → ∀ h11, h11 = eb_sR h7 a0 2 (some r9) → ∀ r15, r15 = eb_nx h11 13 900 → ∀ h13, h13 = eb_nw h11 13 900 900 → ∀ h17, h17 = eb_sR h13 a0 3 (some r15) → ∀ r21, r21 = eb_nx h17 13 1164 → ∀ h19, h19 = eb_nw h17 13 1164 1164 → ∀ h23, h23 = eb_sR h19 a0 4 (some r21) → ∀ h25, h25 = eb_sI h23 a0 14 (-1) → ∀ r29, r29 = eb_nx h25 13 900 → ∀ h27, h27 = eb_nw h25 13 900 900 → ∀ h31, h31 = eb_sR h27 a0 16 (some r29) → ∀ r35, r35 = eb_nx h31 13 6 → ∀ h33, h33 = eb_nw h31 13 6 6 → ∀ h37, h37 = eb_sR h33 a0 17 (some r35) → ∀ r41, r41 = eb_nx h37 13 21 → ∀ h39, h39 = eb_nw h37 13 21 21 → ∀ h43, h43 = eb_sR h39 a0 18 (some r41) → ∀ r47, r47 = eb_nx h43 13 4096 → ∀ h45, h45 = eb_nw h43 13 4096 4096 → ∀ h49, h49 = eb_sR h45 a0 21 (some r47) → ∀ r53, r53 = eb_nx h49 13 1024 → ∀ h51, h51 = eb_nw h49 13 1024 1024 → ∀ h55, h55 = eb_sR h51 a0 22 (some r53) → ∀ r59, r59 = eb_nx h55 15 1024 → ∀ h57, h57 = eb_nw h55 15 1024 1024 → ∀ h61, h61 = eb_sR h57 a0 23 (some r59) → ∀ r65, r65 = eb_nx h61 14 1024 → ∀ h63, h63 = eb_nw h61 14 1024 1024 → ∀ h67, h67 = eb_sR h63 a0 24 (some r65) → ∀ r71, r71 = eb_nx h67 14 1024 → ∀ h69, h69 = eb_nw h67 14 1024 1024 → ∀ h73, h73 = eb_sR h69 a0 25 (some r71) → ∀ r77, r77 = eb_nx h73 14 11264 → ∀ h75, h75 = eb_nw h73 14 11264 11264 → ∀ h79, h79 = eb_sR h75 a0 26 (some r77) → ∀ r83, r83 = eb_nx h79 13 10 → ∀ h81, h81 = eb_nw h79 13 10 10 → ∀ h85, h85 = eb_sR h81 a0 27 (some r83) → ∀ r89, r89 = eb_nx h85 13 4 → ∀ h87, h87 = eb_nw h85 13 4 4 → (vp_in (0 : Int32) (eb_ln r89)) ∧ ∀ h92, h92 = eb_sI h87 r89 (0 : Int32).toNatClampNeg (-1) → (vp_in (1 : Int32) (eb_ln r89)) ∧ ∀ h95, h95 = eb_sI h92 r89 (1 : Int32).toNatClampNeg (-1) → (vp_in (2 : Int32) (eb_ln r89)) ∧ ∀ h98, h98 = eb_sI h95 r89 (2 : Int32).toNatClampNeg (-1) → (vp_in (3 : Int32) (eb_ln r89)) ∧ ∀ h101, h101 = eb_sI h98 r89 (3 : Int32).toNatClampNeg (-1) → ∀ h103, h103 = eb_sR h101 a0 28 (some r89) → ∀ r107, r107 = eb_nx h103 13 4 → ∀ h105, h105 = eb_nw h103 13 4 4 → ∀ h109, h109 = eb_sR h105 a0 29 (some r107) → ∀ r113, r113 = eb_nx h109 14 160 → ∀ h111, h111 = eb_nw h109 14 160 160 → ∀ h115, h115 = eb_sR h111 a0 30 (some r113) → ∃ r117, eb_R h115 a0 1 = some r117 ∧ eb_kd r117 = 13 ∧ eb_Ct d 158 [.ref r117] h115 (fun r h120 => r = none ∧ Q none h120)) : eb_Sn (d + 1) m_X11_init h0 0 [(0, .ref a0)] [] h Q := by
  refine eb_aload_n (pc := 0) (n := 0) (i := 0) rfl rfl rfl ?_
  refine eb_objInit (pc := 1) rfl (by decide +kernel) (by omega) (Nat.le_of_ble_eq_true rfl) ?_
  refine eb_aload_n (pc := 4) (n := 0) (i := 0) rfl rfl rfl ?_
  refine eb_sipush (pc := 5) (n := 3492) (v := 3492) rfl rfl ?_
  refine eb_newI (pc := 8) (kd := 13) (len := 3492) rfl rfl (by decide) (by decide) rfl (by decide) ?_
  obtain ⟨r3, e4⟩ : ∃ z, z = eb_nx h 13 3492 := ⟨_, rfl⟩
  rw [← e4]
  replace w := w r3 e4
  obtain ⟨h1, e2⟩ : ∃ z, z = eb_nw h 13 3492 3492 := ⟨_, rfl⟩
  rw [← e2]
  replace w := w h1 e2
  refine eb_putR (pc := 10) rfl ka0 (by decide) (by decide) rfl (Or.inr ⟨rfl, rfl, rfl⟩) (eb_k20 (c := 13) (by rw [e4]; exact eb_mk_kd (by decide)) (by decide)) ?_
  obtain ⟨h5, e6⟩ : ∃ z, z = eb_sR h1 a0 1 (some r3) := ⟨_, rfl⟩
  rw [← e6]
  replace w := w h5 e6
  refine eb_aload_n (pc := 13) (n := 0) (i := 0) rfl rfl rfl ?_
  refine eb_iconst (pc := 14) (n := 2) (v := 2) rfl rfl ?_
  refine eb_newI (pc := 15) (kd := 15) (len := 2) rfl rfl (by decide) (by decide) rfl (by decide) ?_
  obtain ⟨r9, e10⟩ : ∃ z, z = eb_nx h5 15 2 := ⟨_, rfl⟩
  rw [← e10]
  replace w := w r9 e10
  obtain ⟨h7, e8⟩ : ∃ z, z = eb_nw h5 15 2 2 := ⟨_, rfl⟩
  rw [← e8]
  replace w := w h7 e8
  refine eb_putR (pc := 17) rfl ka0 (by decide) (by decide) rfl (Or.inr ⟨rfl, rfl, rfl⟩) (eb_k20 (c := 15) (by rw [e10]; exact eb_mk_kd (by decide)) (by decide)) ?_
  obtain ⟨h11, e12⟩ : ∃ z, z = eb_sR h7 a0 2 (some r9) := ⟨_, rfl⟩
  rw [← e12]
  replace w := w h11 e12
  refine eb_aload_n (pc := 20) (n := 0) (i := 0) rfl rfl rfl ?_
  refine eb_sipush (pc := 21) (n := 900) (v := 900) rfl rfl ?_
  refine eb_newI (pc := 24) (kd := 13) (len := 900) rfl rfl (by decide) (by decide) rfl (by decide) ?_
  obtain ⟨r15, e16⟩ : ∃ z, z = eb_nx h11 13 900 := ⟨_, rfl⟩
  rw [← e16]
  replace w := w r15 e16
  obtain ⟨h13, e14⟩ : ∃ z, z = eb_nw h11 13 900 900 := ⟨_, rfl⟩
  rw [← e14]
  replace w := w h13 e14
  refine eb_putR (pc := 26) rfl ka0 (by decide) (by decide) rfl (Or.inr ⟨rfl, rfl, rfl⟩) (eb_k20 (c := 13) (by rw [e16]; exact eb_mk_kd (by decide)) (by decide)) ?_
  obtain ⟨h17, e18⟩ : ∃ z, z = eb_sR h13 a0 3 (some r15) := ⟨_, rfl⟩
  rw [← e18]
  replace w := w h17 e18
  refine eb_aload_n (pc := 29) (n := 0) (i := 0) rfl rfl rfl ?_
  refine eb_sipush (pc := 30) (n := 1164) (v := 1164) rfl rfl ?_
  refine eb_newI (pc := 33) (kd := 13) (len := 1164) rfl rfl (by decide) (by decide) rfl (by decide) ?_
  obtain ⟨r21, e22⟩ : ∃ z, z = eb_nx h17 13 1164 := ⟨_, rfl⟩
  rw [← e22]
  replace w := w r21 e22
  obtain ⟨h19, e20⟩ : ∃ z, z = eb_nw h17 13 1164 1164 := ⟨_, rfl⟩
  rw [← e20]
  replace w := w h19 e20
  refine eb_putR (pc := 35) rfl ka0 (by decide) (by decide) rfl (Or.inr ⟨rfl, rfl, rfl⟩) (eb_k20 (c := 13) (by rw [e22]; exact eb_mk_kd (by decide)) (by decide)) ?_
  obtain ⟨h23, e24⟩ : ∃ z, z = eb_sR h19 a0 4 (some r21) := ⟨_, rfl⟩
  rw [← e24]
  replace w := w h23 e24
  refine eb_aload_n (pc := 38) (n := 0) (i := 0) rfl rfl rfl ?_
  refine eb_iconst (pc := 39) (n := -1) (v := (-1)) rfl rfl ?_
  refine eb_putI (pc := 40) rfl ka0 (by decide) (by decide) rfl rfl ⟨rfl, rfl⟩ ?_
  obtain ⟨h25, e26⟩ : ∃ z, z = eb_sI h23 a0 14 (-1) := ⟨_, rfl⟩
  rw [← e26]
  replace w := w h25 e26
  refine eb_aload_n (pc := 43) (n := 0) (i := 0) rfl rfl rfl ?_
  refine eb_sipush (pc := 44) (n := 900) (v := 900) rfl rfl ?_
  refine eb_newI (pc := 47) (kd := 13) (len := 900) rfl rfl (by decide) (by decide) rfl (by decide) ?_
  obtain ⟨r29, e30⟩ : ∃ z, z = eb_nx h25 13 900 := ⟨_, rfl⟩
  rw [← e30]
  replace w := w r29 e30
  obtain ⟨h27, e28⟩ : ∃ z, z = eb_nw h25 13 900 900 := ⟨_, rfl⟩
  rw [← e28]
  replace w := w h27 e28
  refine eb_putR (pc := 49) rfl ka0 (by decide) (by decide) rfl (Or.inr ⟨rfl, rfl, rfl⟩) (eb_k20 (c := 13) (by rw [e30]; exact eb_mk_kd (by decide)) (by decide)) ?_
  obtain ⟨h31, e32⟩ : ∃ z, z = eb_sR h27 a0 16 (some r29) := ⟨_, rfl⟩
  rw [← e32]
  replace w := w h31 e32
  refine eb_aload_n (pc := 52) (n := 0) (i := 0) rfl rfl rfl ?_
  refine eb_bipush (pc := 53) (n := 6) (v := 6) rfl rfl ?_
  refine eb_newI (pc := 55) (kd := 13) (len := 6) rfl rfl (by decide) (by decide) rfl (by decide) ?_
  obtain ⟨r35, e36⟩ : ∃ z, z = eb_nx h31 13 6 := ⟨_, rfl⟩
  rw [← e36]
  replace w := w r35 e36
  obtain ⟨h33, e34⟩ : ∃ z, z = eb_nw h31 13 6 6 := ⟨_, rfl⟩
  rw [← e34]
  replace w := w h33 e34
  refine eb_putR (pc := 57) rfl ka0 (by decide) (by decide) rfl (Or.inr ⟨rfl, rfl, rfl⟩) (eb_k20 (c := 13) (by rw [e36]; exact eb_mk_kd (by decide)) (by decide)) ?_
  obtain ⟨h37, e38⟩ : ∃ z, z = eb_sR h33 a0 17 (some r35) := ⟨_, rfl⟩
  rw [← e38]
  replace w := w h37 e38
  refine eb_aload_n (pc := 60) (n := 0) (i := 0) rfl rfl rfl ?_
  refine eb_bipush (pc := 61) (n := 21) (v := 21) rfl rfl ?_
  refine eb_newI (pc := 63) (kd := 13) (len := 21) rfl rfl (by decide) (by decide) rfl (by decide) ?_
  obtain ⟨r41, e42⟩ : ∃ z, z = eb_nx h37 13 21 := ⟨_, rfl⟩
  rw [← e42]
  replace w := w r41 e42
  obtain ⟨h39, e40⟩ : ∃ z, z = eb_nw h37 13 21 21 := ⟨_, rfl⟩
  rw [← e40]
  replace w := w h39 e40
  refine eb_putR (pc := 65) rfl ka0 (by decide) (by decide) rfl (Or.inr ⟨rfl, rfl, rfl⟩) (eb_k20 (c := 13) (by rw [e42]; exact eb_mk_kd (by decide)) (by decide)) ?_
  obtain ⟨h43, e44⟩ : ∃ z, z = eb_sR h39 a0 18 (some r41) := ⟨_, rfl⟩
  rw [← e44]
  replace w := w h43 e44
  refine eb_aload_n (pc := 68) (n := 0) (i := 0) rfl rfl rfl ?_
  refine eb_sipush (pc := 69) (n := 4096) (v := 4096) rfl rfl ?_
  refine eb_newI (pc := 72) (kd := 13) (len := 4096) rfl rfl (by decide) (by decide) rfl (by decide) ?_
  obtain ⟨r47, e48⟩ : ∃ z, z = eb_nx h43 13 4096 := ⟨_, rfl⟩
  rw [← e48]
  replace w := w r47 e48
  obtain ⟨h45, e46⟩ : ∃ z, z = eb_nw h43 13 4096 4096 := ⟨_, rfl⟩
  rw [← e46]
  replace w := w h45 e46
  refine eb_putR (pc := 74) rfl ka0 (by decide) (by decide) rfl (Or.inr ⟨rfl, rfl, rfl⟩) (eb_k20 (c := 13) (by rw [e48]; exact eb_mk_kd (by decide)) (by decide)) ?_
  obtain ⟨h49, e50⟩ : ∃ z, z = eb_sR h45 a0 21 (some r47) := ⟨_, rfl⟩
  rw [← e50]
  replace w := w h49 e50
  refine eb_aload_n (pc := 77) (n := 0) (i := 0) rfl rfl rfl ?_
  refine eb_sipush (pc := 78) (n := 1024) (v := 1024) rfl rfl ?_
  refine eb_newI (pc := 81) (kd := 13) (len := 1024) rfl rfl (by decide) (by decide) rfl (by decide) ?_
  obtain ⟨r53, e54⟩ : ∃ z, z = eb_nx h49 13 1024 := ⟨_, rfl⟩
  rw [← e54]
  replace w := w r53 e54
  obtain ⟨h51, e52⟩ : ∃ z, z = eb_nw h49 13 1024 1024 := ⟨_, rfl⟩
  rw [← e52]
  replace w := w h51 e52
  refine eb_putR (pc := 83) rfl ka0 (by decide) (by decide) rfl (Or.inr ⟨rfl, rfl, rfl⟩) (eb_k20 (c := 13) (by rw [e54]; exact eb_mk_kd (by decide)) (by decide)) ?_
  obtain ⟨h55, e56⟩ : ∃ z, z = eb_sR h51 a0 22 (some r53) := ⟨_, rfl⟩
  rw [← e56]
  replace w := w h55 e56
  refine eb_aload_n (pc := 86) (n := 0) (i := 0) rfl rfl rfl ?_
  refine eb_sipush (pc := 87) (n := 1024) (v := 1024) rfl rfl ?_
  refine eb_newI (pc := 90) (kd := 15) (len := 1024) rfl rfl (by decide) (by decide) rfl (by decide) ?_
  obtain ⟨r59, e60⟩ : ∃ z, z = eb_nx h55 15 1024 := ⟨_, rfl⟩
  rw [← e60]
  replace w := w r59 e60
  obtain ⟨h57, e58⟩ : ∃ z, z = eb_nw h55 15 1024 1024 := ⟨_, rfl⟩
  rw [← e58]
  replace w := w h57 e58
  refine eb_putR (pc := 92) rfl ka0 (by decide) (by decide) rfl (Or.inr ⟨rfl, rfl, rfl⟩) (eb_k20 (c := 15) (by rw [e60]; exact eb_mk_kd (by decide)) (by decide)) ?_
  obtain ⟨h61, e62⟩ : ∃ z, z = eb_sR h57 a0 23 (some r59) := ⟨_, rfl⟩
  rw [← e62]
  replace w := w h61 e62
  refine eb_aload_n (pc := 95) (n := 0) (i := 0) rfl rfl rfl ?_
  refine eb_sipush (pc := 96) (n := 1024) (v := 1024) rfl rfl ?_
  refine eb_newL (pc := 99) (len := 1024) rfl (by decide) rfl (by decide) ?_
  obtain ⟨r65, e66⟩ : ∃ z, z = eb_nx h61 14 1024 := ⟨_, rfl⟩
  rw [← e66]
  replace w := w r65 e66
  obtain ⟨h63, e64⟩ : ∃ z, z = eb_nw h61 14 1024 1024 := ⟨_, rfl⟩
  rw [← e64]
  replace w := w h63 e64
  refine eb_putR (pc := 101) rfl ka0 (by decide) (by decide) rfl (Or.inr ⟨rfl, rfl, rfl⟩) (eb_k20 (c := 14) (by rw [e66]; exact eb_mk_kd (by decide)) (by decide)) ?_
  obtain ⟨h67, e68⟩ : ∃ z, z = eb_sR h63 a0 24 (some r65) := ⟨_, rfl⟩
  rw [← e68]
  replace w := w h67 e68
  refine eb_aload_n (pc := 104) (n := 0) (i := 0) rfl rfl rfl ?_
  refine eb_sipush (pc := 105) (n := 1024) (v := 1024) rfl rfl ?_
  refine eb_newL (pc := 108) (len := 1024) rfl (by decide) rfl (by decide) ?_
  obtain ⟨r71, e72⟩ : ∃ z, z = eb_nx h67 14 1024 := ⟨_, rfl⟩
  rw [← e72]
  replace w := w r71 e72
  obtain ⟨h69, e70⟩ : ∃ z, z = eb_nw h67 14 1024 1024 := ⟨_, rfl⟩
  rw [← e70]
  replace w := w h69 e70
  refine eb_putR (pc := 110) rfl ka0 (by decide) (by decide) rfl (Or.inr ⟨rfl, rfl, rfl⟩) (eb_k20 (c := 14) (by rw [e72]; exact eb_mk_kd (by decide)) (by decide)) ?_
  obtain ⟨h73, e74⟩ : ∃ z, z = eb_sR h69 a0 25 (some r71) := ⟨_, rfl⟩
  rw [← e74]
  replace w := w h73 e74
  refine eb_aload_n (pc := 113) (n := 0) (i := 0) rfl rfl rfl ?_
  refine eb_sipush (pc := 114) (n := 11264) (v := 11264) rfl rfl ?_
  refine eb_newL (pc := 117) (len := 11264) rfl (by decide) rfl (by decide) ?_
  obtain ⟨r77, e78⟩ : ∃ z, z = eb_nx h73 14 11264 := ⟨_, rfl⟩
  rw [← e78]
  replace w := w r77 e78
  obtain ⟨h75, e76⟩ : ∃ z, z = eb_nw h73 14 11264 11264 := ⟨_, rfl⟩
  rw [← e76]
  replace w := w h75 e76
  refine eb_putR (pc := 119) rfl ka0 (by decide) (by decide) rfl (Or.inr ⟨rfl, rfl, rfl⟩) (eb_k20 (c := 14) (by rw [e78]; exact eb_mk_kd (by decide)) (by decide)) ?_
  obtain ⟨h79, e80⟩ : ∃ z, z = eb_sR h75 a0 26 (some r77) := ⟨_, rfl⟩
  rw [← e80]
  replace w := w h79 e80
  refine eb_aload_n (pc := 122) (n := 0) (i := 0) rfl rfl rfl ?_
  refine eb_bipush (pc := 123) (n := 10) (v := 10) rfl rfl ?_
  refine eb_newI (pc := 125) (kd := 13) (len := 10) rfl rfl (by decide) (by decide) rfl (by decide) ?_
  obtain ⟨r83, e84⟩ : ∃ z, z = eb_nx h79 13 10 := ⟨_, rfl⟩
  rw [← e84]
  replace w := w r83 e84
  obtain ⟨h81, e82⟩ : ∃ z, z = eb_nw h79 13 10 10 := ⟨_, rfl⟩
  rw [← e82]
  replace w := w h81 e82
  refine eb_putR (pc := 127) rfl ka0 (by decide) (by decide) rfl (Or.inr ⟨rfl, rfl, rfl⟩) (eb_k20 (c := 13) (by rw [e84]; exact eb_mk_kd (by decide)) (by decide)) ?_
  obtain ⟨h85, e86⟩ : ∃ z, z = eb_sR h81 a0 27 (some r83) := ⟨_, rfl⟩
  rw [← e86]
  replace w := w h85 e86
  refine eb_aload_n (pc := 130) (n := 0) (i := 0) rfl rfl rfl ?_
  refine eb_iconst (pc := 131) (n := 4) (v := 4) rfl rfl ?_
  refine eb_newI (pc := 132) (kd := 13) (len := 4) rfl rfl (by decide) (by decide) rfl (by decide) ?_
  obtain ⟨r89, e90⟩ : ∃ z, z = eb_nx h85 13 4 := ⟨_, rfl⟩
  rw [← e90]
  replace w := w r89 e90
  obtain ⟨h87, e88⟩ : ∃ z, z = eb_nw h85 13 4 4 := ⟨_, rfl⟩
  rw [← e88]
  replace w := w h87 e88
  refine eb_dupr (pc := 134) rfl ?_
  refine eb_iconst (pc := 135) (n := 0) (v := 0) rfl rfl ?_
  refine eb_iconst (pc := 136) (n := -1) (v := (-1)) rfl rfl ?_
  obtain ⟨c91, w⟩ := w
  refine eb_iastore (c' := 13) (pc := 137) rfl (by rw [e90]; exact eb_mk_kd (by decide)) (by decide) c91 ?_
  obtain ⟨h92, e93⟩ : ∃ z, z = eb_sI h87 r89 (0 : Int32).toNatClampNeg (-1) := ⟨_, rfl⟩
  rw [← e93]
  replace w := w h92 e93
  refine eb_dupr (pc := 138) rfl ?_
  refine eb_iconst (pc := 139) (n := 1) (v := 1) rfl rfl ?_
  refine eb_iconst (pc := 140) (n := -1) (v := (-1)) rfl rfl ?_
  obtain ⟨c94, w⟩ := w
  refine eb_iastore (c' := 13) (pc := 141) rfl (by rw [e90]; exact eb_mk_kd (by decide)) (by decide) c94 ?_
  obtain ⟨h95, e96⟩ : ∃ z, z = eb_sI h92 r89 (1 : Int32).toNatClampNeg (-1) := ⟨_, rfl⟩
  rw [← e96]
  replace w := w h95 e96
  refine eb_dupr (pc := 142) rfl ?_
  refine eb_iconst (pc := 143) (n := 2) (v := 2) rfl rfl ?_
  refine eb_iconst (pc := 144) (n := -1) (v := (-1)) rfl rfl ?_
  obtain ⟨c97, w⟩ := w
  refine eb_iastore (c' := 13) (pc := 145) rfl (by rw [e90]; exact eb_mk_kd (by decide)) (by decide) c97 ?_
  obtain ⟨h98, e99⟩ : ∃ z, z = eb_sI h95 r89 (2 : Int32).toNatClampNeg (-1) := ⟨_, rfl⟩
  rw [← e99]
  replace w := w h98 e99
  refine eb_dupr (pc := 146) rfl ?_
  refine eb_iconst (pc := 147) (n := 3) (v := 3) rfl rfl ?_
  refine eb_iconst (pc := 148) (n := -1) (v := (-1)) rfl rfl ?_
  obtain ⟨c100, w⟩ := w
  refine eb_iastore (c' := 13) (pc := 149) rfl (by rw [e90]; exact eb_mk_kd (by decide)) (by decide) c100 ?_
  obtain ⟨h101, e102⟩ : ∃ z, z = eb_sI h98 r89 (3 : Int32).toNatClampNeg (-1) := ⟨_, rfl⟩
  rw [← e102]
  replace w := w h101 e102
  refine eb_putR (pc := 150) rfl ka0 (by decide) (by decide) rfl (Or.inr ⟨rfl, rfl, rfl⟩) (eb_k20 (c := 13) (by rw [e90]; exact eb_mk_kd (by decide)) (by decide)) ?_
  obtain ⟨h103, e104⟩ : ∃ z, z = eb_sR h101 a0 28 (some r89) := ⟨_, rfl⟩
  rw [← e104]
  replace w := w h103 e104
  refine eb_aload_n (pc := 153) (n := 0) (i := 0) rfl rfl rfl ?_
  refine eb_iconst (pc := 154) (n := 4) (v := 4) rfl rfl ?_
  refine eb_newI (pc := 155) (kd := 13) (len := 4) rfl rfl (by decide) (by decide) rfl (by decide) ?_
  obtain ⟨r107, e108⟩ : ∃ z, z = eb_nx h103 13 4 := ⟨_, rfl⟩
  rw [← e108]
  replace w := w r107 e108
  obtain ⟨h105, e106⟩ : ∃ z, z = eb_nw h103 13 4 4 := ⟨_, rfl⟩
  rw [← e106]
  replace w := w h105 e106
  refine eb_putR (pc := 157) rfl ka0 (by decide) (by decide) rfl (Or.inr ⟨rfl, rfl, rfl⟩) (eb_k20 (c := 13) (by rw [e108]; exact eb_mk_kd (by decide)) (by decide)) ?_
  obtain ⟨h109, e110⟩ : ∃ z, z = eb_sR h105 a0 29 (some r107) := ⟨_, rfl⟩
  rw [← e110]
  replace w := w h109 e110
  refine eb_aload_n (pc := 160) (n := 0) (i := 0) rfl rfl rfl ?_
  refine eb_sipush (pc := 161) (n := 160) (v := 160) rfl rfl ?_
  refine eb_newL (pc := 164) (len := 160) rfl (by decide) rfl (by decide) ?_
  obtain ⟨r113, e114⟩ : ∃ z, z = eb_nx h109 14 160 := ⟨_, rfl⟩
  rw [← e114]
  replace w := w r113 e114
  obtain ⟨h111, e112⟩ : ∃ z, z = eb_nw h109 14 160 160 := ⟨_, rfl⟩
  rw [← e112]
  replace w := w h111 e112
  refine eb_putR (pc := 166) rfl ka0 (by decide) (by decide) rfl (Or.inr ⟨rfl, rfl, rfl⟩) (eb_k20 (c := 14) (by rw [e114]; exact eb_mk_kd (by decide)) (by decide)) ?_
  obtain ⟨h115, e116⟩ : ∃ z, z = eb_sR h111 a0 30 (some r113) := ⟨_, rfl⟩
  rw [← e116]
  replace w := w h115 e116
  refine eb_aload_n (pc := 169) (n := 0) (i := 0) rfl rfl rfl ?_
  obtain ⟨r117, q118, k119, w⟩ := w
  refine eb_getR (pc := 170) rfl ka0 (by decide) (by decide) rfl q118 ?_
  refine eb_ctS (pc := 173) (As := [.ref r117]) (rest := []) rfl (by decide) (by decide) rfl rfl (Nat.le_of_ble_eq_true rfl) ?_
  refine eb_Ct.mono w ?_
  rintro r h120 ⟨rfl, w⟩
  change eb_Sn _ _ _ 176 _ [] _ _
  exact eb_return (pc := 176) rfl rfl w
theorem T_X11_init {d : Nat} {h : eb_H} {Q : Option Value → eb_H → Prop} (a0 : Nat) (ka0 : eb_kd a0 = 11) (w : ∀ r3, r3 = eb_nx h 13 3492 → ∀ h1, h1 = eb_nw h 13 3492 3492 → ∀ h5, h5 = eb_sR h1 a0 1 (some r3) → ∀ r9, r9 = eb_nx h5 15 2 → ∀ h7, h7 = eb_nw h5 15 2 2 → ∀ h11, h11 = eb_sR h7 a0 2 (some r9) → ∀ r15, r15 = eb_nx h11 13 900 → ∀ h13, h13 = eb_nw h11 13 900 900 → ∀ h17, h17 = eb_sR h13 a0 3 (some r15) → ∀ r21, r21 = eb_nx h17 13 1164 → ∀ h19, h19 = eb_nw h17 13 1164 1164 → ∀ h23, h23 = eb_sR h19 a0 4 (some r21) → ∀ h25, h25 = eb_sI h23 a0 14 (-1) → ∀ r29, r29 = eb_nx h25 13 900 → ∀ h27, h27 = eb_nw h25 13 900 900 → ∀ h31, h31 = eb_sR h27 a0 16 (some r29) → ∀ r35, r35 = eb_nx h31 13 6 → ∀ h33, h33 = eb_nw h31 13 6 6 → ∀ h37, h37 = eb_sR h33 a0 17 (some r35) → ∀ r41, r41 = eb_nx h37 13 21 → ∀ h39, h39 = eb_nw h37 13 21 21 → ∀ h43, h43 = eb_sR h39 a0 18 (some r41) → ∀ r47, r47 = eb_nx h43 13 4096 → ∀ h45, h45 = eb_nw h43 13 4096 4096 → ∀ h49, h49 = eb_sR h45 a0 21 (some r47) → ∀ r53, r53 = eb_nx h49 13 1024 → ∀ h51, h51 = eb_nw h49 13 1024 1024 → ∀ h55, h55 = eb_sR h51 a0 22 (some r53) → ∀ r59, r59 = eb_nx h55 15 1024 → ∀ h57, h57 = eb_nw h55 15 1024 1024 → ∀ h61, h61 = eb_sR h57 a0 23 (some r59) → ∀ r65, r65 = eb_nx h61 14 1024 → ∀ h63, h63 = eb_nw h61 14 1024 1024 → ∀ h67, h67 = eb_sR h63 a0 24 (some r65) → ∀ r71, r71 = eb_nx h67 14 1024 → ∀ h69, h69 = eb_nw h67 14 1024 1024 → ∀ h73, h73 = eb_sR h69 a0 25 (some r71) → ∀ r77, r77 = eb_nx h73 14 11264 → ∀ h75, h75 = eb_nw h73 14 11264 11264 → ∀ h79, h79 = eb_sR h75 a0 26 (some r77) → ∀ r83, r83 = eb_nx h79 13 10 → ∀ h81, h81 = eb_nw h79 13 10 10 → ∀ h85, h85 = eb_sR h81 a0 27 (some r83) → ∀ r89, r89 = eb_nx h85 13 4 → ∀ h87, h87 = eb_nw h85 13 4 4 → (vp_in (0 : Int32) (eb_ln r89)) ∧ ∀ h92, h92 = eb_sI h87 r89 (0 : Int32).toNatClampNeg (-1) → (vp_in (1 : Int32) (eb_ln r89)) ∧ ∀ h95, h95 = eb_sI h92 r89 (1 : Int32).toNatClampNeg (-1) → (vp_in (2 : Int32) (eb_ln r89)) ∧ ∀ h98, h98 = eb_sI h95 r89 (2 : Int32).toNatClampNeg (-1) → (vp_in (3 : Int32) (eb_ln r89)) ∧ ∀ h101, h101 = eb_sI h98 r89 (3 : Int32).toNatClampNeg (-1) → ∀ h103, h103 = eb_sR h101 a0 28 (some r89) → ∀ r107, r107 = eb_nx h103 13 4 → ∀ h105, h105 = eb_nw h103 13 4 4 → ∀ h109, h109 = eb_sR h105 a0 29 (some r107) → ∀ r113, r113 = eb_nx h109 14 160 → ∀ h111, h111 = eb_nw h109 14 160 160 → ∀ h115, h115 = eb_sR h111 a0 30 (some r113) → ∃ r117, eb_R h115 a0 1 = some r117 ∧ eb_kd r117 = 13 ∧ eb_Ct d 158 [.ref r117] h115 (fun r h120 => r = none ∧ Q none h120)) : eb_Ct (d + 1) 157 [.ref a0] h Q :=
  eb_bodyQ (by decide) ok_X11_init (Nat.le_of_ble_eq_true rfl) (b_X11_init_0 (h0 := h) a0 ka0 w)
theorem b_X11_plain_0 {d : Nat} {h0 h : eb_H} {Q : Option Value → eb_H → Prop} (a0 : Nat) (ka0 : eb_kd a0 = 13) (ko : eb_KO h) (w : eb_Sn d m_X11_plain h0 2 [(0, .ref a0), (1, .int 0)] [] h Q) : eb_Sn d m_X11_plain h0 0 [(0, .ref a0)] [] h Q := by
  refine eb_iconst (pc := 0) (n := 0) (v := 0) rfl rfl ?_
  refine eb_istore_n (pc := 1) (n := 1) (i := 1) (ls2 := [(1, .int 0), (0, .ref a0)]) rfl (Nat.le_of_ble_eq_true rfl) rfl rfl ?_
  exact eb_pick [1, 0] rfl w
theorem b_X11_plain_2 {d : Nat} {h0 h : eb_H} {Q : Option Value → eb_H → Prop} (a0 : Nat) (x1 : Int32) (ka0 : eb_kd a0 = 13) (ko : eb_KO h) (w : (((1164 : Int32) ≤ x1 → (vp_in (1 : Int32) (eb_ln a0)) ∧ (vp_in (2 : Int32) (eb_ln a0)) ∧ (vp_in (3 : Int32) (eb_ln a0)) ∧ Q none (eb_sI (eb_sI (eb_sI h a0 (1 : Int32).toNatClampNeg 1) a0 (2 : Int32).toNatClampNeg 1) a0 (3 : Int32).toNatClampNeg 3)) ∧ (¬ ((1164 : Int32) ≤ x1) → (vp_in x1 (eb_ln a0)) ∧ eb_Sn d m_X11_plain h0 2 [(0, .ref a0), (1, .int (x1 + 1))] [] (eb_sI h a0 x1.toNatClampNeg 0) Q))) : eb_Sn d m_X11_plain h0 2 [(0, .ref a0), (1, .int x1)] [] h Q := by
  refine eb_iload_n (pc := 2) (n := 1) (i := 1) rfl rfl rfl ?_
  refine eb_sipush (pc := 3) (n := 1164) (v := 1164) rfl rfl ?_
  refine eb_icmp_ge (pc := 6) (tgt := 19) rfl (by decide) (fun c1 => ?_) (fun c1 => ?_)
  · replace w := w.1 c1
    refine eb_aload_n (pc := 19) (n := 0) (i := 0) rfl rfl rfl ?_
    refine eb_iconst (pc := 20) (n := 1) (v := 1) rfl rfl ?_
    refine eb_iconst (pc := 21) (n := 1) (v := 1) rfl rfl ?_
    obtain ⟨c2, w⟩ := w
    refine eb_iastore (pc := 22) rfl ka0 (by decide) c2 ?_
    refine eb_aload_n (pc := 23) (n := 0) (i := 0) rfl rfl rfl ?_
    refine eb_iconst (pc := 24) (n := 2) (v := 2) rfl rfl ?_
    refine eb_iconst (pc := 25) (n := 1) (v := 1) rfl rfl ?_
    obtain ⟨c3, w⟩ := w
    refine eb_iastore (pc := 26) rfl ka0 (by decide) c3 ?_
    refine eb_aload_n (pc := 27) (n := 0) (i := 0) rfl rfl rfl ?_
    refine eb_iconst (pc := 28) (n := 3) (v := 3) rfl rfl ?_
    refine eb_iconst (pc := 29) (n := 3) (v := 3) rfl rfl ?_
    obtain ⟨c4, w⟩ := w
    refine eb_iastore (pc := 30) rfl ka0 (by decide) c4 ?_
    exact eb_return (pc := 31) rfl rfl w
  · replace w := w.2 c1
    refine eb_aload_n (pc := 9) (n := 0) (i := 0) rfl rfl rfl ?_
    refine eb_iload_n (pc := 10) (n := 1) (i := 1) rfl rfl rfl ?_
    refine eb_iconst (pc := 11) (n := 0) (v := 0) rfl rfl ?_
    obtain ⟨c5, w⟩ := w
    refine eb_iastore (pc := 12) rfl ka0 (by decide) c5 ?_
    refine eb_iinc (pc := 13) (i := 1) (n := 1) (v := x1 + 1) (ls2 := [(1, .int (x1 + 1)), (0, .ref a0)]) (Nat.le_of_ble_eq_true rfl) rfl rfl rfl rfl ?_
    refine eb_goto (pc := 16) (tgt := 2) rfl (by decide) ?_
    exact eb_pick [1, 0] rfl w
theorem T_X11_plain {d : Nat} {h : eb_H} {Q : Option Value → eb_H → Prop} (a0 : Nat) (ka0 : eb_kd a0 = 13) (ko : eb_KO h) (w : eb_Sn d m_X11_plain h 2 [(0, .ref a0), (1, .int 0)] [] h Q) : eb_Ct d 158 [.ref a0] h Q :=
  eb_bodyQ (by decide) ok_X11_plain (Nat.le_of_ble_eq_true rfl) (b_X11_plain_0 (h0 := h) a0 ka0 ko w)
theorem b_X11_feed_0 {d : Nat} {h0 h : eb_H} {Q : Option Value → eb_H → Prop} (x1 : Int32) (x2 : Int32) (x3 : Int32) (x4 : Int32) (x5 : Int32)  (ko : eb_KO h) (w : ((((eb_I (eb_sI h s_MO 0 0) s_MO 5) + 20) ≤ (900 : Int32) → eb_Sn d m_X11_feed h0 24 [(0, .ref s_MO), (1, .int x1), (2, .int x2), (3, .int x3), (4, .int x4), (5, .int x5), (6, .int 0)] [] (eb_sI h s_MO 0 0) Q) ∧ (¬ (((eb_I (eb_sI h s_MO 0 0) s_MO 5) + 20) ≤ (900 : Int32)) → Q (some (.int (-5))) (eb_sI h s_MO 0 0)))) : eb_Sn d m_X11_feed h0 0 [(0, .ref s_MO), (1, .int x1), (2, .int x2), (3, .int x3), (4, .int x4), (5, .int x5)] [] h Q := by
  refine eb_aload_n (pc := 0) (n := 0) (i := 0) rfl rfl rfl ?_
  refine eb_iconst (pc := 1) (n := 0) (v := 0) rfl rfl ?_
  refine eb_putI (pc := 2) rfl rfl (by decide) (by decide) rfl rfl ⟨rfl, rfl⟩ ?_
  refine eb_aload_n (pc := 5) (n := 0) (i := 0) rfl rfl rfl ?_
  refine eb_getI (pc := 6) rfl rfl (by decide) (by decide) rfl ?_
  refine eb_bipush (pc := 9) (n := 20) (v := 20) rfl rfl ?_
  refine eb_iadd (pc := 11) rfl ?_
  refine eb_sipush (pc := 12) (n := 900) (v := 900) rfl rfl ?_
  refine eb_icmp_le (pc := 15) (tgt := 21) rfl (by decide) (fun c1 => ?_) (fun c1 => ?_)
  · replace w := w.1 c1
    refine eb_iconst (pc := 21) (n := 0) (v := 0) rfl rfl ?_
    refine eb_istore (pc := 22) (i := 6) (ls2 := [(6, .int 0), (0, .ref s_MO), (1, .int x1), (2, .int x2), (3, .int x3), (4, .int x4), (5, .int x5)]) (Nat.le_of_ble_eq_true rfl) rfl rfl ?_
    exact eb_pick [1, 2, 3, 4, 5, 6, 0] rfl w
  · replace w := w.2 c1
    refine eb_bipush (pc := 18) (n := -5) (v := (-5)) rfl rfl ?_
    exact eb_ireturn (pc := 20) rfl rfl rfl w
theorem b_X11_feed_24 {d : Nat} {h0 h : eb_H} {Q : Option Value → eb_H → Prop} (x1 : Int32) (x2 : Int32) (x3 : Int32) (x4 : Int32) (x5 : Int32) (x6 : Int32)  (ko : eb_KO h) (w : (((20 : Int32) ≤ x6 → Q (some (.int (eb_I h s_MO 5))) h) ∧ (¬ ((20 : Int32) ≤ x6) → (vp_in (eb_I h s_MO 5) 900) ∧ eb_Sn d m_X11_feed h0 24 [(0, .ref s_MO), (1, .int x1), (2, .int x2), (3, .int x3), (4, .int x4), (5, .int x5), (6, .int (x6 + 1))] [] (eb_sI (eb_sI h s_m_tape (eb_I h s_MO 5).toNatClampNeg (((if (4 : Int32) ≤ x6 then (if (8 : Int32) ≤ x6 then (if (12 : Int32) ≤ x6 then (if (16 : Int32) ≤ x6 then x5 else x4) else x3) else x2) else x1 : Int32) >>> (((24 : Int32) - ((8 : Int32) * (x6 - x6 / 4 * 4))) &&& 31)) &&& 255)) s_MO 5 ((eb_I (eb_sI h s_m_tape (eb_I h s_MO 5).toNatClampNeg (((if (4 : Int32) ≤ x6 then (if (8 : Int32) ≤ x6 then (if (12 : Int32) ≤ x6 then (if (16 : Int32) ≤ x6 then x5 else x4) else x3) else x2) else x1 : Int32) >>> (((24 : Int32) - ((8 : Int32) * (x6 - x6 / 4 * 4))) &&& 31)) &&& 255)) s_MO 5) + 1)) Q))) : eb_Sn d m_X11_feed h0 24 [(0, .ref s_MO), (1, .int x1), (2, .int x2), (3, .int x3), (4, .int x4), (5, .int x5), (6, .int x6)] [] h Q := by
  refine eb_iload (pc := 24) (i := 6) rfl rfl ?_
  refine eb_bipush (pc := 26) (n := 20) (v := 20) rfl rfl ?_
  refine eb_icmp_ge (pc := 28) (tgt := 121) rfl (by decide) (fun c1 => ?_) (fun c1 => ?_)
  · replace w := w.1 c1
    refine eb_aload_n (pc := 121) (n := 0) (i := 0) rfl rfl rfl ?_
    refine eb_getI (pc := 122) rfl rfl (by decide) (by decide) rfl ?_
    exact eb_ireturn (pc := 125) rfl rfl rfl w
  · replace w := w.2 c1
    refine eb_iload (pc := 31) (i := 6) rfl rfl ?_
    refine eb_iconst (pc := 33) (n := 4) (v := 4) rfl rfl ?_
    refine eb_joinI (pc2 := 77) (ls2 := [(0, .ref s_MO), (1, .int x1), (2, .int x2), (3, .int x3), (4, .int x4), (5, .int x5), (6, .int x6)]) (st2 := []) (v := (if (4 : Int32) ≤ x6 then (if (8 : Int32) ≤ x6 then (if (12 : Int32) ≤ x6 then (if (16 : Int32) ≤ x6 then x5 else x4) else x3) else x2) else x1 : Int32)) ?_ (fun jj6 => ?_)
    · refine eb_istore (pc := 77) (i := 7) (ls2 := [(7, .int (if (4 : Int32) ≤ x6 then (if (8 : Int32) ≤ x6 then (if (12 : Int32) ≤ x6 then (if (16 : Int32) ≤ x6 then x5 else x4) else x3) else x2) else x1 : Int32)), (0, .ref s_MO), (1, .int x1), (2, .int x2), (3, .int x3), (4, .int x4), (5, .int x5), (6, .int x6)]) (Nat.le_of_ble_eq_true rfl) rfl rfl ?_
      refine eb_aload_n (pc := 79) (n := 0) (i := 0) rfl rfl rfl ?_
      refine eb_getR (pc := 80) rfl rfl (by decide) (by decide) rfl (ko_s_MO_3 ko) ?_
      refine eb_aload_n (pc := 83) (n := 0) (i := 0) rfl rfl rfl ?_
      refine eb_getI (pc := 84) rfl rfl (by decide) (by decide) rfl ?_
      refine eb_iload (pc := 87) (i := 7) rfl rfl ?_
      refine eb_bipush (pc := 89) (n := 24) (v := 24) rfl rfl ?_
      refine eb_bipush (pc := 91) (n := 8) (v := 8) rfl rfl ?_
      refine eb_iload (pc := 93) (i := 6) rfl rfl ?_
      refine eb_iconst (pc := 95) (n := 4) (v := 4) rfl rfl ?_
      refine eb_irem (pc := 96) (by decide) rfl ?_
      refine eb_imul (pc := 97) rfl ?_
      refine eb_isub (pc := 98) rfl ?_
      refine eb_ishr (pc := 99) rfl ?_
      refine eb_sipush (pc := 100) (n := 255) (v := 255) rfl rfl ?_
      refine eb_iand (pc := 103) rfl ?_
      obtain ⟨c8, w⟩ := w
      refine eb_iastore (pc := 104) rfl rfl (by decide) c8 ?_
      refine eb_aload_n (pc := 105) (n := 0) (i := 0) rfl rfl rfl ?_
      refine eb_dupr (pc := 106) rfl ?_
      refine eb_getI (pc := 107) rfl rfl (by decide) (by decide) rfl ?_
      refine eb_iconst (pc := 110) (n := 1) (v := 1) rfl rfl ?_
      refine eb_iadd (pc := 111) rfl ?_
      refine eb_putI (pc := 112) rfl rfl (by decide) (by decide) rfl rfl ⟨rfl, rfl⟩ ?_
      refine eb_iinc (pc := 115) (i := 6) (n := 1) (v := x6 + 1) (ls2 := [(6, .int (x6 + 1)), (7, .int (if (4 : Int32) ≤ x6 then (if (8 : Int32) ≤ x6 then (if (12 : Int32) ≤ x6 then (if (16 : Int32) ≤ x6 then x5 else x4) else x3) else x2) else x1 : Int32)), (0, .ref s_MO), (1, .int x1), (2, .int x2), (3, .int x3), (4, .int x4), (5, .int x5)]) (Nat.le_of_ble_eq_true rfl) rfl rfl rfl rfl ?_
      refine eb_goto (pc := 118) (tgt := 24) rfl (by decide) ?_
      exact eb_pick [2, 3, 4, 5, 6, 7, 0] rfl w
    refine eb_icmp_ge (pc := 34) (tgt := 41) rfl (by decide) (fun c2 => ?_) (fun c2 => ?_)
    · refine eb_iload (pc := 41) (i := 6) rfl rfl ?_
      refine eb_bipush (pc := 43) (n := 8) (v := 8) rfl rfl ?_
      refine eb_icmp_ge (pc := 45) (tgt := 52) rfl (by decide) (fun c3 => ?_) (fun c3 => ?_)
      · refine eb_iload (pc := 52) (i := 6) rfl rfl ?_
        refine eb_bipush (pc := 54) (n := 12) (v := 12) rfl rfl ?_
        refine eb_icmp_ge (pc := 56) (tgt := 63) rfl (by decide) (fun c4 => ?_) (fun c4 => ?_)
        · refine eb_iload (pc := 63) (i := 6) rfl rfl ?_
          refine eb_bipush (pc := 65) (n := 16) (v := 16) rfl rfl ?_
          refine eb_icmp_ge (pc := 67) (tgt := 75) rfl (by decide) (fun c5 => ?_) (fun c5 => ?_)
          · refine eb_iload (pc := 75) (i := 5) rfl rfl ?_
            exact jj6 _ (by simp only [if_pos c2, if_pos c3, if_pos c4, if_pos c5])
          · refine eb_iload (pc := 70) (i := 4) rfl rfl ?_
            refine eb_goto (pc := 72) (tgt := 77) rfl (by decide) ?_
            exact jj6 _ (by simp only [if_pos c2, if_pos c3, if_pos c4, if_neg c5])
        · refine eb_iload_n (pc := 59) (n := 3) (i := 3) rfl rfl rfl ?_
          refine eb_goto (pc := 60) (tgt := 77) rfl (by decide) ?_
          exact jj6 _ (by simp only [if_pos c2, if_pos c3, if_neg c4])
      · refine eb_iload_n (pc := 48) (n := 2) (i := 2) rfl rfl rfl ?_
        refine eb_goto (pc := 49) (tgt := 77) rfl (by decide) ?_
        exact jj6 _ (by simp only [if_pos c2, if_neg c3])
    · refine eb_iload_n (pc := 37) (n := 1) (i := 1) rfl rfl rfl ?_
      refine eb_goto (pc := 38) (tgt := 77) rfl (by decide) ?_
      exact jj6 _ (by simp only [if_neg c2])
theorem T_X11_feed {d : Nat} {h : eb_H} {Q : Option Value → eb_H → Prop} (x1 : Int32) (x2 : Int32) (x3 : Int32) (x4 : Int32) (x5 : Int32)  (ko : eb_KO h) (w : ((((eb_I (eb_sI h s_MO 0 0) s_MO 5) + 20) ≤ (900 : Int32) → eb_Sn d m_X11_feed h 24 [(0, .ref s_MO), (1, .int x1), (2, .int x2), (3, .int x3), (4, .int x4), (5, .int x5), (6, .int 0)] [] (eb_sI h s_MO 0 0) Q) ∧ (¬ (((eb_I (eb_sI h s_MO 0 0) s_MO 5) + 20) ≤ (900 : Int32)) → Q (some (.int (-5))) (eb_sI h s_MO 0 0)))) : eb_Ct d 159 [.ref s_MO, .int x1, .int x2, .int x3, .int x4, .int x5] h Q :=
  eb_bodyQ (by decide) ok_X11_feed (Nat.le_of_ble_eq_true rfl) (b_X11_feed_0 (h0 := h) x1 x2 x3 x4 x5  ko w)
theorem b_X11_see_0 {d : Nat} {h0 h : eb_H} {Q : Option Value → eb_H → Prop} (x1 : Int32)  (ko : eb_KO h) (w : (((eb_I h s_MO 8) ≤ x1 → Q (some (.int (-1))) h) ∧ (¬ ((eb_I h s_MO 8) ≤ x1) → (vp_in x1 900) ∧ Q (some (.int (eb_I h s_m_tape x1.toNatClampNeg))) h))) : eb_Sn d m_X11_see h0 0 [(0, .ref s_MO), (1, .int x1)] [] h Q := by
  refine eb_iload_n (pc := 0) (n := 1) (i := 1) rfl rfl rfl ?_
  refine eb_aload_n (pc := 1) (n := 0) (i := 0) rfl rfl rfl ?_
  refine eb_getI (pc := 2) rfl rfl (by decide) (by decide) rfl ?_
  refine eb_icmp_ge (pc := 5) (tgt := 17) rfl (by decide) (fun c1 => ?_) (fun c1 => ?_)
  · replace w := w.1 c1
    refine eb_iconst (pc := 17) (n := -1) (v := (-1)) rfl rfl ?_
    exact eb_ireturn (pc := 18) rfl rfl rfl w
  · replace w := w.2 c1
    refine eb_aload_n (pc := 8) (n := 0) (i := 0) rfl rfl rfl ?_
    refine eb_getR (pc := 9) rfl rfl (by decide) (by decide) rfl (ko_s_MO_3 ko) ?_
    refine eb_iload_n (pc := 12) (n := 1) (i := 1) rfl rfl rfl ?_
    obtain ⟨c2, w⟩ := w
    refine eb_iaload (pc := 13) rfl rfl (by decide) c2 ?_
    refine eb_goto (pc := 14) (tgt := 18) rfl (by decide) ?_
    exact eb_ireturn (pc := 18) rfl rfl rfl w
theorem T_X11_see {d : Nat} {h : eb_H} {Q : Option Value → eb_H → Prop} (x1 : Int32)  (ko : eb_KO h) (w : (((eb_I h s_MO 8) ≤ x1 → Q (some (.int (-1))) h) ∧ (¬ ((eb_I h s_MO 8) ≤ x1) → (vp_in x1 900) ∧ Q (some (.int (eb_I h s_m_tape x1.toNatClampNeg))) h))) : eb_Ct d 160 [.ref s_MO, .int x1] h Q :=
  eb_bodyQ (by decide) ok_X11_see (Nat.le_of_ble_eq_true rfl) (b_X11_see_0 (h0 := h) x1  ko w)
theorem b_X11_isSmall_0 {d : Nat} {h0 h : eb_H} {Q : Option Value → eb_H → Prop} (x0 : Int32)  (ko : eb_KO h) (w : Q (some (.int (eb_q ((¬ (x0 < (97 : Int32))) ∧ (¬ ((122 : Int32) < x0)))))) h) : eb_Sn d m_X11_isSmall h0 0 [(0, .int x0)] [] h Q := by
  refine eb_iload_n (pc := 0) (n := 0) (i := 0) rfl rfl rfl ?_
  refine eb_bipush (pc := 1) (n := 97) (v := 97) rfl rfl ?_
  refine eb_joinI (pc2 := 17) (ls2 := [(0, .int x0)]) (st2 := []) (v := eb_q ((¬ (x0 < (97 : Int32))) ∧ (¬ ((122 : Int32) < x0)))) ?_ (fun jj3 => ?_)
  · exact eb_ireturn (pc := 17) rfl rfl eb_qn w
  refine eb_icmp_lt (pc := 3) (tgt := 16) rfl (by decide) (fun c1 => ?_) (fun c1 => ?_)
  · refine eb_iconst (pc := 16) (n := 0) (v := 0) rfl rfl ?_
    exact jj3 0 (eb_qf (fun z => z.1 c1)).symm
  · refine eb_iload_n (pc := 6) (n := 0) (i := 0) rfl rfl rfl ?_
    refine eb_bipush (pc := 7) (n := 122) (v := 122) rfl rfl ?_
    refine eb_icmp_gt (pc := 9) (tgt := 16) rfl (by decide) (fun c2 => ?_) (fun c2 => ?_)
    · refine eb_iconst (pc := 16) (n := 0) (v := 0) rfl rfl ?_
      exact jj3 0 (eb_qf (fun z => (fun z => z c2) z.2)).symm
    · refine eb_iconst (pc := 12) (n := 1) (v := 1) rfl rfl ?_
      refine eb_goto (pc := 13) (tgt := 17) rfl (by decide) ?_
      exact jj3 1 (eb_qt (⟨c1, c2⟩)).symm
theorem T_X11_isSmall {d : Nat} {h : eb_H} {Q : Option Value → eb_H → Prop} (x0 : Int32)  (ko : eb_KO h) (w : Q (some (.int (eb_q ((¬ (x0 < (97 : Int32))) ∧ (¬ ((122 : Int32) < x0)))))) h) : eb_Ct d 161 [.int x0] h Q :=
  eb_bodyQ (by decide) ok_X11_isSmall (Nat.le_of_ble_eq_true rfl) (b_X11_isSmall_0 (h0 := h) x0  ko w)
theorem b_X11_isDigit_0 {d : Nat} {h0 h : eb_H} {Q : Option Value → eb_H → Prop} (x0 : Int32)  (ko : eb_KO h) (w : Q (some (.int (eb_q ((¬ (x0 < (48 : Int32))) ∧ (¬ ((57 : Int32) < x0)))))) h) : eb_Sn d m_X11_isDigit h0 0 [(0, .int x0)] [] h Q := by
  refine eb_iload_n (pc := 0) (n := 0) (i := 0) rfl rfl rfl ?_
  refine eb_bipush (pc := 1) (n := 48) (v := 48) rfl rfl ?_
  refine eb_joinI (pc2 := 17) (ls2 := [(0, .int x0)]) (st2 := []) (v := eb_q ((¬ (x0 < (48 : Int32))) ∧ (¬ ((57 : Int32) < x0)))) ?_ (fun jj3 => ?_)
  · exact eb_ireturn (pc := 17) rfl rfl eb_qn w
  refine eb_icmp_lt (pc := 3) (tgt := 16) rfl (by decide) (fun c1 => ?_) (fun c1 => ?_)
  · refine eb_iconst (pc := 16) (n := 0) (v := 0) rfl rfl ?_
    exact jj3 0 (eb_qf (fun z => z.1 c1)).symm
  · refine eb_iload_n (pc := 6) (n := 0) (i := 0) rfl rfl rfl ?_
    refine eb_bipush (pc := 7) (n := 57) (v := 57) rfl rfl ?_
    refine eb_icmp_gt (pc := 9) (tgt := 16) rfl (by decide) (fun c2 => ?_) (fun c2 => ?_)
    · refine eb_iconst (pc := 16) (n := 0) (v := 0) rfl rfl ?_
      exact jj3 0 (eb_qf (fun z => (fun z => z c2) z.2)).symm
    · refine eb_iconst (pc := 12) (n := 1) (v := 1) rfl rfl ?_
      refine eb_goto (pc := 13) (tgt := 17) rfl (by decide) ?_
      exact jj3 1 (eb_qt (⟨c1, c2⟩)).symm
theorem T_X11_isDigit {d : Nat} {h : eb_H} {Q : Option Value → eb_H → Prop} (x0 : Int32)  (ko : eb_KO h) (w : Q (some (.int (eb_q ((¬ (x0 < (48 : Int32))) ∧ (¬ ((57 : Int32) < x0)))))) h) : eb_Ct d 162 [.int x0] h Q :=
  eb_bodyQ (by decide) ok_X11_isDigit (Nat.le_of_ble_eq_true rfl) (b_X11_isDigit_0 (h0 := h) x0  ko w)
theorem b_X11_keyAt_0 {d : Nat} {h0 h : eb_H} {Q : Option Value → eb_H → Prop}   (ko : eb_KO h) (w : eb_Sn (d + 1) m_X11_keyAt h0 4 [(0, .ref s_MO), (1, .int 0), (2, .int 1)] [] h Q) : eb_Sn (d + 1) m_X11_keyAt h0 0 [(0, .ref s_MO)] [] h Q := by
  refine eb_iconst (pc := 0) (n := 0) (v := 0) rfl rfl ?_
  refine eb_istore_n (pc := 1) (n := 1) (i := 1) (ls2 := [(1, .int 0), (0, .ref s_MO)]) rfl (Nat.le_of_ble_eq_true rfl) rfl rfl ?_
  refine eb_iconst (pc := 2) (n := 1) (v := 1) rfl rfl ?_
  refine eb_istore_n (pc := 3) (n := 2) (i := 2) (ls2 := [(2, .int 1), (1, .int 0), (0, .ref s_MO)]) rfl (Nat.le_of_ble_eq_true rfl) rfl rfl ?_
  exact eb_pick [2, 1, 0] rfl w
theorem b_X11_keyAt_4 {d : Nat} {h0 h : eb_H} {Q : Option Value → eb_H → Prop} (x1 : Int32) (x2 : Int32)  (ko : eb_KO h) (w : eb_Ct d 289 [.ref (eb_mk 0 21 0)] h (fun r h1 => ∃ y2, r = some (.int y2) ∧ eb_KO h1 ∧ ((y2 ≤ x2 → Q (some (.int 22)) h1) ∧ (¬ (y2 ≤ x2) → eb_Sn (d + 1) m_X11_keyAt h0 15 [(0, .ref s_MO), (1, .int x1), (2, .int x2), (3, .int 0)] [] h1 Q)))) : eb_Sn (d + 1) m_X11_keyAt h0 4 [(0, .ref s_MO), (1, .int x1), (2, .int x2)] [] h Q := by
  refine eb_iload_n (pc := 4) (n := 2) (i := 2) rfl rfl rfl ?_
  refine eb_ldcS (pc := 5) (a := 0) (i := eb_mk 0 21 0) rfl rfl rfl ?_
  refine eb_ctT (pc := 7) (i := 0) (As := []) (rest := [.int x2]) rfl (by decide) rfl (by decide) rfl rfl (Nat.le_of_ble_eq_true rfl) ?_
  refine eb_Ct.mono w ?_
  rintro r h1 ⟨y2, rfl, ko3, w⟩
  change eb_Sn _ _ _ 10 _ [.int y2, .int x2] _ _
  refine eb_icmp_ge (pc := 10) (tgt := 123) rfl (by decide) (fun c4 => ?_) (fun c4 => ?_)
  · replace w := w.1 c4
    refine eb_bipush (pc := 123) (n := 22) (v := 22) rfl rfl ?_
    exact eb_ireturn (pc := 125) rfl rfl rfl w
  · replace w := w.2 c4
    refine eb_iconst (pc := 13) (n := 0) (v := 0) rfl rfl ?_
    refine eb_istore_n (pc := 14) (n := 3) (i := 3) (ls2 := [(3, .int 0), (0, .ref s_MO), (1, .int x1), (2, .int x2)]) rfl (Nat.le_of_ble_eq_true rfl) rfl rfl ?_
    exact eb_pick [1, 2, 3, 0] rfl w
theorem b_X11_keyAt_15 {d : Nat} {h0 h : eb_H} {Q : Option Value → eb_H → Prop} (x1 : Int32) (x2 : Int32) (x3 : Int32)  (ko : eb_KO h) (w : eb_Ct d 290 [.ref (eb_mk 0 21 0), .int (x2 + x3)] h (fun r h1 => ∃ y2, r = some (.int y2) ∧ eb_KO h1 ∧ ((y2 = (32 : Int32) → eb_Ct d 290 [.ref (eb_mk 0 21 0), .int (x2 + x3)] h1 (fun r h5 => ∃ y6, r = some (.int y6) ∧ eb_KO h5 ∧ ((¬ y6 = (32 : Int32) → eb_Sn (d + 1) m_X11_keyAt h0 97 [(0, .ref s_MO), (1, .int x1), (2, .int x2)] [] h5 Q) ∧ (y6 = (32 : Int32) → ((¬ ((eb_I h5 s_MO 6) + x3) = (eb_I h5 s_MO 7) → eb_Sn (d + 1) m_X11_keyAt h0 97 [(0, .ref s_MO), (1, .int x1), (2, .int x2)] [] h5 Q) ∧ (((eb_I h5 s_MO 6) + x3) = (eb_I h5 s_MO 7) → Q (some (.int x1)) h5)))))) ∧ (¬ (y2 = (32 : Int32)) → (((eb_I h1 s_MO 7) ≤ ((eb_I h1 s_MO 6) + x3) → eb_Ct d 290 [.ref (eb_mk 0 21 0), .int (x2 + x3)] h1 (fun r h11 => ∃ y12, r = some (.int y12) ∧ eb_KO h11 ∧ ((¬ y12 = (32 : Int32) → eb_Sn (d + 1) m_X11_keyAt h0 97 [(0, .ref s_MO), (1, .int x1), (2, .int x2)] [] h11 Q) ∧ (y12 = (32 : Int32) → ((¬ ((eb_I h11 s_MO 6) + x3) = (eb_I h11 s_MO 7) → eb_Sn (d + 1) m_X11_keyAt h0 97 [(0, .ref s_MO), (1, .int x1), (2, .int x2)] [] h11 Q) ∧ (((eb_I h11 s_MO 6) + x3) = (eb_I h11 s_MO 7) → Q (some (.int x1)) h11)))))) ∧ (¬ ((eb_I h1 s_MO 7) ≤ ((eb_I h1 s_MO 6) + x3)) → (vp_in ((eb_I h1 s_MO 6) + x3) 900) ∧ eb_Ct d 290 [.ref (eb_mk 0 21 0), .int (x2 + x3)] h1 (fun r h17 => ∃ y18, r = some (.int y18) ∧ eb_KO h17 ∧ ((¬ (eb_I h1 s_m_tape ((eb_I h1 s_MO 6) + x3).toNatClampNeg) = y18 → eb_Ct d 290 [.ref (eb_mk 0 21 0), .int (x2 + x3)] h17 (fun r h21 => ∃ y22, r = some (.int y22) ∧ eb_KO h21 ∧ ((¬ y22 = (32 : Int32) → eb_Sn (d + 1) m_X11_keyAt h0 97 [(0, .ref s_MO), (1, .int x1), (2, .int x2)] [] h21 Q) ∧ (y22 = (32 : Int32) → ((¬ ((eb_I h21 s_MO 6) + x3) = (eb_I h21 s_MO 7) → eb_Sn (d + 1) m_X11_keyAt h0 97 [(0, .ref s_MO), (1, .int x1), (2, .int x2)] [] h21 Q) ∧ (((eb_I h21 s_MO 6) + x3) = (eb_I h21 s_MO 7) → Q (some (.int x1)) h21)))))) ∧ ((eb_I h1 s_m_tape ((eb_I h1 s_MO 6) + x3).toNatClampNeg) = y18 → eb_Sn (d + 1) m_X11_keyAt h0 15 [(0, .ref s_MO), (1, .int x1), (2, .int x2), (3, .int (x3 + 1))] [] h17 Q))))))))) : eb_Sn (d + 1) m_X11_keyAt h0 15 [(0, .ref s_MO), (1, .int x1), (2, .int x2), (3, .int x3)] [] h Q := by
  refine eb_ldcS (pc := 15) (a := 0) (i := eb_mk 0 21 0) rfl rfl rfl ?_
  refine eb_iload_n (pc := 17) (n := 2) (i := 2) rfl rfl rfl ?_
  refine eb_iload_n (pc := 18) (n := 3) (i := 3) rfl rfl rfl ?_
  refine eb_iadd (pc := 19) rfl ?_
  refine eb_ctT (pc := 20) (i := 0) (As := [.int (x2 + x3)]) (rest := []) rfl (by decide) rfl (by decide) rfl rfl (Nat.le_of_ble_eq_true rfl) ?_
  refine eb_Ct.mono w ?_
  rintro r h1 ⟨y2, rfl, ko3, w⟩
  change eb_Sn _ _ _ 23 _ [.int y2] _ _
  refine eb_bipush (pc := 23) (n := 32) (v := 32) rfl rfl ?_
  refine eb_icmp_eq (pc := 25) (tgt := 69) rfl (by decide) (fun c4 => ?_) (fun c4 => ?_)
  · replace w := w.1 c4
    refine eb_ldcS (pc := 69) (a := 0) (i := eb_mk 0 21 0) rfl rfl rfl ?_
    refine eb_iload_n (pc := 71) (n := 2) (i := 2) rfl rfl rfl ?_
    refine eb_iload_n (pc := 72) (n := 3) (i := 3) rfl rfl rfl ?_
    refine eb_iadd (pc := 73) rfl ?_
    refine eb_ctT (pc := 74) (i := 0) (As := [.int (x2 + x3)]) (rest := []) rfl (by decide) rfl (by decide) rfl rfl (Nat.le_of_ble_eq_true rfl) ?_
    refine eb_Ct.mono w ?_
    rintro r h5 ⟨y6, rfl, ko7, w⟩
    change eb_Sn _ _ _ 77 _ [.int y6] _ _
    refine eb_bipush (pc := 77) (n := 32) (v := 32) rfl rfl ?_
    refine eb_icmp_ne (pc := 79) (tgt := 97) rfl (by decide) (fun c8 => ?_) (fun c8 => ?_)
    · replace w := w.1 c8
      exact eb_pick [0, 1, 2] rfl w
    · replace w := w.2 c8
      refine eb_aload_n (pc := 82) (n := 0) (i := 0) rfl rfl rfl ?_
      refine eb_getI (pc := 83) rfl rfl (by decide) (by decide) rfl ?_
      refine eb_iload_n (pc := 86) (n := 3) (i := 3) rfl rfl rfl ?_
      refine eb_iadd (pc := 87) rfl ?_
      refine eb_aload_n (pc := 88) (n := 0) (i := 0) rfl rfl rfl ?_
      refine eb_getI (pc := 89) rfl rfl (by decide) (by decide) rfl ?_
      refine eb_icmp_ne (pc := 92) (tgt := 97) rfl (by decide) (fun c9 => ?_) (fun c9 => ?_)
      · replace w := w.1 c9
        exact eb_pick [0, 1, 2] rfl w
      · replace w := w.2 c9
        refine eb_iload_n (pc := 95) (n := 1) (i := 1) rfl rfl rfl ?_
        exact eb_ireturn (pc := 96) rfl rfl rfl w
  · replace w := w.2 c4
    refine eb_aload_n (pc := 28) (n := 0) (i := 0) rfl rfl rfl ?_
    refine eb_getI (pc := 29) rfl rfl (by decide) (by decide) rfl ?_
    refine eb_iload_n (pc := 32) (n := 3) (i := 3) rfl rfl rfl ?_
    refine eb_iadd (pc := 33) rfl ?_
    refine eb_aload_n (pc := 34) (n := 0) (i := 0) rfl rfl rfl ?_
    refine eb_getI (pc := 35) rfl rfl (by decide) (by decide) rfl ?_
    refine eb_icmp_ge (pc := 38) (tgt := 69) rfl (by decide) (fun c10 => ?_) (fun c10 => ?_)
    · replace w := w.1 c10
      refine eb_ldcS (pc := 69) (a := 0) (i := eb_mk 0 21 0) rfl rfl rfl ?_
      refine eb_iload_n (pc := 71) (n := 2) (i := 2) rfl rfl rfl ?_
      refine eb_iload_n (pc := 72) (n := 3) (i := 3) rfl rfl rfl ?_
      refine eb_iadd (pc := 73) rfl ?_
      refine eb_ctT (pc := 74) (i := 0) (As := [.int (x2 + x3)]) (rest := []) rfl (by decide) rfl (by decide) rfl rfl (Nat.le_of_ble_eq_true rfl) ?_
      refine eb_Ct.mono w ?_
      rintro r h11 ⟨y12, rfl, ko13, w⟩
      change eb_Sn _ _ _ 77 _ [.int y12] _ _
      refine eb_bipush (pc := 77) (n := 32) (v := 32) rfl rfl ?_
      refine eb_icmp_ne (pc := 79) (tgt := 97) rfl (by decide) (fun c14 => ?_) (fun c14 => ?_)
      · replace w := w.1 c14
        exact eb_pick [0, 1, 2] rfl w
      · replace w := w.2 c14
        refine eb_aload_n (pc := 82) (n := 0) (i := 0) rfl rfl rfl ?_
        refine eb_getI (pc := 83) rfl rfl (by decide) (by decide) rfl ?_
        refine eb_iload_n (pc := 86) (n := 3) (i := 3) rfl rfl rfl ?_
        refine eb_iadd (pc := 87) rfl ?_
        refine eb_aload_n (pc := 88) (n := 0) (i := 0) rfl rfl rfl ?_
        refine eb_getI (pc := 89) rfl rfl (by decide) (by decide) rfl ?_
        refine eb_icmp_ne (pc := 92) (tgt := 97) rfl (by decide) (fun c15 => ?_) (fun c15 => ?_)
        · replace w := w.1 c15
          exact eb_pick [0, 1, 2] rfl w
        · replace w := w.2 c15
          refine eb_iload_n (pc := 95) (n := 1) (i := 1) rfl rfl rfl ?_
          exact eb_ireturn (pc := 96) rfl rfl rfl w
    · replace w := w.2 c10
      refine eb_aload_n (pc := 41) (n := 0) (i := 0) rfl rfl rfl ?_
      refine eb_getR (pc := 42) rfl rfl (by decide) (by decide) rfl (ko_s_MO_3 ko3) ?_
      refine eb_aload_n (pc := 45) (n := 0) (i := 0) rfl rfl rfl ?_
      refine eb_getI (pc := 46) rfl rfl (by decide) (by decide) rfl ?_
      refine eb_iload_n (pc := 49) (n := 3) (i := 3) rfl rfl rfl ?_
      refine eb_iadd (pc := 50) rfl ?_
      obtain ⟨c16, w⟩ := w
      refine eb_iaload (pc := 51) rfl rfl (by decide) c16 ?_
      refine eb_ldcS (pc := 52) (a := 0) (i := eb_mk 0 21 0) rfl rfl rfl ?_
      refine eb_iload_n (pc := 54) (n := 2) (i := 2) rfl rfl rfl ?_
      refine eb_iload_n (pc := 55) (n := 3) (i := 3) rfl rfl rfl ?_
      refine eb_iadd (pc := 56) rfl ?_
      refine eb_ctT (pc := 57) (i := 0) (As := [.int (x2 + x3)]) (rest := [.int (eb_I h1 s_m_tape ((eb_I h1 s_MO 6) + x3).toNatClampNeg)]) rfl (by decide) rfl (by decide) rfl rfl (Nat.le_of_ble_eq_true rfl) ?_
      refine eb_Ct.mono w ?_
      rintro r h17 ⟨y18, rfl, ko19, w⟩
      change eb_Sn _ _ _ 60 _ [.int y18, .int (eb_I h1 s_m_tape ((eb_I h1 s_MO 6) + x3).toNatClampNeg)] _ _
      refine eb_icmp_ne (pc := 60) (tgt := 69) rfl (by decide) (fun c20 => ?_) (fun c20 => ?_)
      · replace w := w.1 c20
        refine eb_ldcS (pc := 69) (a := 0) (i := eb_mk 0 21 0) rfl rfl rfl ?_
        refine eb_iload_n (pc := 71) (n := 2) (i := 2) rfl rfl rfl ?_
        refine eb_iload_n (pc := 72) (n := 3) (i := 3) rfl rfl rfl ?_
        refine eb_iadd (pc := 73) rfl ?_
        refine eb_ctT (pc := 74) (i := 0) (As := [.int (x2 + x3)]) (rest := []) rfl (by decide) rfl (by decide) rfl rfl (Nat.le_of_ble_eq_true rfl) ?_
        refine eb_Ct.mono w ?_
        rintro r h21 ⟨y22, rfl, ko23, w⟩
        change eb_Sn _ _ _ 77 _ [.int y22] _ _
        refine eb_bipush (pc := 77) (n := 32) (v := 32) rfl rfl ?_
        refine eb_icmp_ne (pc := 79) (tgt := 97) rfl (by decide) (fun c24 => ?_) (fun c24 => ?_)
        · replace w := w.1 c24
          exact eb_pick [0, 1, 2] rfl w
        · replace w := w.2 c24
          refine eb_aload_n (pc := 82) (n := 0) (i := 0) rfl rfl rfl ?_
          refine eb_getI (pc := 83) rfl rfl (by decide) (by decide) rfl ?_
          refine eb_iload_n (pc := 86) (n := 3) (i := 3) rfl rfl rfl ?_
          refine eb_iadd (pc := 87) rfl ?_
          refine eb_aload_n (pc := 88) (n := 0) (i := 0) rfl rfl rfl ?_
          refine eb_getI (pc := 89) rfl rfl (by decide) (by decide) rfl ?_
          refine eb_icmp_ne (pc := 92) (tgt := 97) rfl (by decide) (fun c25 => ?_) (fun c25 => ?_)
          · replace w := w.1 c25
            exact eb_pick [0, 1, 2] rfl w
          · replace w := w.2 c25
            refine eb_iload_n (pc := 95) (n := 1) (i := 1) rfl rfl rfl ?_
            exact eb_ireturn (pc := 96) rfl rfl rfl w
      · replace w := w.2 c20
        refine eb_iinc (pc := 63) (i := 3) (n := 1) (v := x3 + 1) (ls2 := [(3, .int (x3 + 1)), (0, .ref s_MO), (1, .int x1), (2, .int x2)]) (Nat.le_of_ble_eq_true rfl) rfl rfl rfl rfl ?_
        refine eb_goto (pc := 66) (tgt := 15) rfl (by decide) ?_
        exact eb_pick [1, 2, 3, 0] rfl w
theorem b_X11_keyAt_97 {d : Nat} {h0 h : eb_H} {Q : Option Value → eb_H → Prop} (x1 : Int32) (x2 : Int32)  (ko : eb_KO h) (w : eb_Ct d 290 [.ref (eb_mk 0 21 0), .int x2] h (fun r h1 => ∃ y2, r = some (.int y2) ∧ eb_KO h1 ∧ ((y2 = (32 : Int32) → eb_Sn (d + 1) m_X11_keyAt h0 4 [(0, .ref s_MO), (1, .int (x1 + 1)), (2, .int (x2 + 1))] [] h1 Q) ∧ (¬ (y2 = (32 : Int32)) → eb_Sn (d + 1) m_X11_keyAt h0 97 [(0, .ref s_MO), (1, .int x1), (2, .int (x2 + 1))] [] h1 Q)))) : eb_Sn (d + 1) m_X11_keyAt h0 97 [(0, .ref s_MO), (1, .int x1), (2, .int x2)] [] h Q := by
  refine eb_ldcS (pc := 97) (a := 0) (i := eb_mk 0 21 0) rfl rfl rfl ?_
  refine eb_iload_n (pc := 99) (n := 2) (i := 2) rfl rfl rfl ?_
  refine eb_ctT (pc := 100) (i := 0) (As := [.int x2]) (rest := []) rfl (by decide) rfl (by decide) rfl rfl (Nat.le_of_ble_eq_true rfl) ?_
  refine eb_Ct.mono w ?_
  rintro r h1 ⟨y2, rfl, ko3, w⟩
  change eb_Sn _ _ _ 103 _ [.int y2] _ _
  refine eb_bipush (pc := 103) (n := 32) (v := 32) rfl rfl ?_
  refine eb_icmp_eq (pc := 105) (tgt := 114) rfl (by decide) (fun c4 => ?_) (fun c4 => ?_)
  · replace w := w.1 c4
    refine eb_iinc (pc := 114) (i := 2) (n := 1) (v := x2 + 1) (ls2 := [(2, .int (x2 + 1)), (0, .ref s_MO), (1, .int x1)]) (Nat.le_of_ble_eq_true rfl) rfl rfl rfl rfl ?_
    refine eb_iinc (pc := 117) (i := 1) (n := 1) (v := x1 + 1) (ls2 := [(1, .int (x1 + 1)), (2, .int (x2 + 1)), (0, .ref s_MO)]) (Nat.le_of_ble_eq_true rfl) rfl rfl rfl rfl ?_
    refine eb_goto (pc := 120) (tgt := 4) rfl (by decide) ?_
    exact eb_pick [2, 0, 1] rfl w
  · replace w := w.2 c4
    refine eb_iinc (pc := 108) (i := 2) (n := 1) (v := x2 + 1) (ls2 := [(2, .int (x2 + 1)), (0, .ref s_MO), (1, .int x1)]) (Nat.le_of_ble_eq_true rfl) rfl rfl rfl rfl ?_
    refine eb_goto (pc := 111) (tgt := 97) rfl (by decide) ?_
    exact eb_pick [1, 2, 0] rfl w
theorem T_X11_keyAt {d : Nat} {h : eb_H} {Q : Option Value → eb_H → Prop}   (ko : eb_KO h) (w : eb_Sn (d + 1) m_X11_keyAt h 4 [(0, .ref s_MO), (1, .int 0), (2, .int 1)] [] h Q) : eb_Ct (d + 1) 163 [.ref s_MO] h Q :=
  eb_bodyQ (by decide) ok_X11_keyAt (Nat.le_of_ble_eq_true rfl) (b_X11_keyAt_0 (h0 := h)   ko w)
theorem b_X11_next_0 {d : Nat} {h0 h : eb_H} {Q : Option Value → eb_H → Prop}   (ko : eb_KO h) (w : eb_Sn (d + 1) m_X11_next h0 8 [(0, .ref s_MO)] [] (eb_sI h s_MO 6 (eb_I h s_MO 7)) Q) : eb_Sn (d + 1) m_X11_next h0 0 [(0, .ref s_MO)] [] h Q := by
  refine eb_aload_n (pc := 0) (n := 0) (i := 0) rfl rfl rfl ?_
  refine eb_aload_n (pc := 1) (n := 0) (i := 0) rfl rfl rfl ?_
  refine eb_getI (pc := 2) rfl rfl (by decide) (by decide) rfl ?_
  refine eb_putI (pc := 5) rfl rfl (by decide) (by decide) rfl rfl ⟨rfl, rfl⟩ ?_
  exact eb_pick [0] rfl w
theorem b_X11_next_8 {d : Nat} {h0 h : eb_H} {Q : Option Value → eb_H → Prop}   (ko : eb_KO h) (w : eb_Ct d 160 [.ref s_MO, .int (eb_I h s_MO 6)] h (fun r h1 => ∃ y2, r = some (.int y2) ∧ eb_KO h1 ∧ ((y2 = (10 : Int32) → eb_Sn (d + 1) m_X11_next h0 8 [(0, .ref s_MO)] [] (eb_sI h1 s_MO 6 ((eb_I h1 s_MO 6) + 1)) Q) ∧ (¬ (y2 = (10 : Int32)) → eb_Ct d 160 [.ref s_MO, .int (eb_I h1 s_MO 6)] h1 (fun r h5 => ∃ y6, r = some (.int y6) ∧ eb_KO h5 ∧ ((¬ y6 = (32 : Int32) → (((eb_I (eb_sI h5 s_MO 7 (eb_I h5 s_MO 6)) s_MO 6) < (eb_I (eb_sI h5 s_MO 7 (eb_I h5 s_MO 6)) s_MO 8) → eb_Ct d 160 [.ref s_MO, .int (eb_I (eb_sI h5 s_MO 7 (eb_I h5 s_MO 6)) s_MO 6)] (eb_sI h5 s_MO 7 (eb_I h5 s_MO 6)) (fun r h10 => ∃ y11, r = some (.int y11) ∧ eb_KO h10 ∧ eb_Ct d 161 [.int y11] h10 (fun r h13 => ∃ y14, r = some (.int y14) ∧ eb_KO h13 ∧ ((y14 = 0 → eb_Ct d 160 [.ref s_MO, .int (eb_I h13 s_MO 6)] h13 (fun r h17 => ∃ y18, r = some (.int y18) ∧ eb_KO h17 ∧ eb_Ct d 162 [.int y18] h17 (fun r h20 => ∃ y21, r = some (.int y21) ∧ eb_KO h20 ∧ ((y21 = 0 → eb_Sn (d + 1) m_X11_next h0 254 [(0, .ref s_MO), (1, .int 0)] [] (eb_sI (eb_sI h20 s_MO 7 ((eb_I h20 s_MO 7) + 1)) s_MO 9 25) Q) ∧ (¬ (y21 = 0) → eb_Sn (d + 1) m_X11_next h0 146 [(0, .ref s_MO)] [] (eb_sI h20 s_MO 10 0) Q))))) ∧ (¬ (y14 = 0) → eb_Sn (d + 1) m_X11_next h0 89 [(0, .ref s_MO)] [] h13 Q))))) ∧ (¬ ((eb_I (eb_sI h5 s_MO 7 (eb_I h5 s_MO 6)) s_MO 6) < (eb_I (eb_sI h5 s_MO 7 (eb_I h5 s_MO 6)) s_MO 8)) → Q none (eb_sI (eb_sI h5 s_MO 7 (eb_I h5 s_MO 6)) s_MO 9 24)))) ∧ (y6 = (32 : Int32) → eb_Sn (d + 1) m_X11_next h0 8 [(0, .ref s_MO)] [] (eb_sI h5 s_MO 6 ((eb_I h5 s_MO 6) + 1)) Q))))))) : eb_Sn (d + 1) m_X11_next h0 8 [(0, .ref s_MO)] [] h Q := by
  refine eb_aload_n (pc := 8) (n := 0) (i := 0) rfl rfl rfl ?_
  refine eb_aload_n (pc := 9) (n := 0) (i := 0) rfl rfl rfl ?_
  refine eb_getI (pc := 10) rfl rfl (by decide) (by decide) rfl ?_
  refine eb_ctV (pc := 13) (As := [.int (eb_I h s_MO 6)]) (rest := []) rfl (by decide) rfl rfl (by decide) rfl (Nat.le_of_ble_eq_true rfl) ?_
  refine eb_Ct.mono w ?_
  rintro r h1 ⟨y2, rfl, ko3, w⟩
  change eb_Sn _ _ _ 16 _ [.int y2] _ _
  refine eb_bipush (pc := 16) (n := 10) (v := 10) rfl rfl ?_
  refine eb_icmp_eq (pc := 18) (tgt := 34) rfl (by decide) (fun c4 => ?_) (fun c4 => ?_)
  · replace w := w.1 c4
    refine eb_aload_n (pc := 34) (n := 0) (i := 0) rfl rfl rfl ?_
    refine eb_dupr (pc := 35) rfl ?_
    refine eb_getI (pc := 36) rfl rfl (by decide) (by decide) rfl ?_
    refine eb_iconst (pc := 39) (n := 1) (v := 1) rfl rfl ?_
    refine eb_iadd (pc := 40) rfl ?_
    refine eb_putI (pc := 41) rfl rfl (by decide) (by decide) rfl rfl ⟨rfl, rfl⟩ ?_
    refine eb_goto (pc := 44) (tgt := 8) rfl (by decide) ?_
    exact eb_pick [0] rfl w
  · replace w := w.2 c4
    refine eb_aload_n (pc := 21) (n := 0) (i := 0) rfl rfl rfl ?_
    refine eb_aload_n (pc := 22) (n := 0) (i := 0) rfl rfl rfl ?_
    refine eb_getI (pc := 23) rfl rfl (by decide) (by decide) rfl ?_
    refine eb_ctV (pc := 26) (As := [.int (eb_I h1 s_MO 6)]) (rest := []) rfl (by decide) rfl rfl (by decide) rfl (Nat.le_of_ble_eq_true rfl) ?_
    refine eb_Ct.mono w ?_
    rintro r h5 ⟨y6, rfl, ko7, w⟩
    change eb_Sn _ _ _ 29 _ [.int y6] _ _
    refine eb_bipush (pc := 29) (n := 32) (v := 32) rfl rfl ?_
    refine eb_icmp_ne (pc := 31) (tgt := 47) rfl (by decide) (fun c8 => ?_) (fun c8 => ?_)
    · replace w := w.1 c8
      refine eb_aload_n (pc := 47) (n := 0) (i := 0) rfl rfl rfl ?_
      refine eb_aload_n (pc := 48) (n := 0) (i := 0) rfl rfl rfl ?_
      refine eb_getI (pc := 49) rfl rfl (by decide) (by decide) rfl ?_
      refine eb_putI (pc := 52) rfl rfl (by decide) (by decide) rfl rfl ⟨rfl, rfl⟩ ?_
      refine eb_aload_n (pc := 55) (n := 0) (i := 0) rfl rfl rfl ?_
      refine eb_getI (pc := 56) rfl rfl (by decide) (by decide) rfl ?_
      refine eb_aload_n (pc := 59) (n := 0) (i := 0) rfl rfl rfl ?_
      refine eb_getI (pc := 60) rfl rfl (by decide) (by decide) rfl ?_
      refine eb_icmp_lt (pc := 63) (tgt := 75) rfl (by decide) (fun c9 => ?_) (fun c9 => ?_)
      · replace w := w.1 c9
        refine eb_aload_n (pc := 75) (n := 0) (i := 0) rfl rfl rfl ?_
        refine eb_aload_n (pc := 76) (n := 0) (i := 0) rfl rfl rfl ?_
        refine eb_getI (pc := 77) rfl rfl (by decide) (by decide) rfl ?_
        refine eb_ctV (pc := 80) (As := [.int (eb_I (eb_sI h5 s_MO 7 (eb_I h5 s_MO 6)) s_MO 6)]) (rest := []) rfl (by decide) rfl rfl (by decide) rfl (Nat.le_of_ble_eq_true rfl) ?_
        refine eb_Ct.mono w ?_
        rintro r h10 ⟨y11, rfl, ko12, w⟩
        change eb_Sn _ _ _ 83 _ [.int y11] _ _
        refine eb_ctS (pc := 83) (As := [.int y11]) (rest := []) rfl (by decide) (by decide) rfl rfl (Nat.le_of_ble_eq_true rfl) ?_
        refine eb_Ct.mono w ?_
        rintro r h13 ⟨y14, rfl, ko15, w⟩
        change eb_Sn _ _ _ 86 _ [.int y14] _ _
        refine eb_if_eq (pc := 86) (tgt := 127) rfl (by decide) (fun c16 => ?_) (fun c16 => ?_)
        · replace w := w.1 c16
          refine eb_aload_n (pc := 127) (n := 0) (i := 0) rfl rfl rfl ?_
          refine eb_aload_n (pc := 128) (n := 0) (i := 0) rfl rfl rfl ?_
          refine eb_getI (pc := 129) rfl rfl (by decide) (by decide) rfl ?_
          refine eb_ctV (pc := 132) (As := [.int (eb_I h13 s_MO 6)]) (rest := []) rfl (by decide) rfl rfl (by decide) rfl (Nat.le_of_ble_eq_true rfl) ?_
          refine eb_Ct.mono w ?_
          rintro r h17 ⟨y18, rfl, ko19, w⟩
          change eb_Sn _ _ _ 135 _ [.int y18] _ _
          refine eb_ctS (pc := 135) (As := [.int y18]) (rest := []) rfl (by decide) (by decide) rfl rfl (Nat.le_of_ble_eq_true rfl) ?_
          refine eb_Ct.mono w ?_
          rintro r h20 ⟨y21, rfl, ko22, w⟩
          change eb_Sn _ _ _ 138 _ [.int y21] _ _
          refine eb_if_eq (pc := 138) (tgt := 236) rfl (by decide) (fun c23 => ?_) (fun c23 => ?_)
          · replace w := w.1 c23
            refine eb_aload_n (pc := 236) (n := 0) (i := 0) rfl rfl rfl ?_
            refine eb_dupr (pc := 237) rfl ?_
            refine eb_getI (pc := 238) rfl rfl (by decide) (by decide) rfl ?_
            refine eb_iconst (pc := 241) (n := 1) (v := 1) rfl rfl ?_
            refine eb_iadd (pc := 242) rfl ?_
            refine eb_putI (pc := 243) rfl rfl (by decide) (by decide) rfl rfl ⟨rfl, rfl⟩ ?_
            refine eb_aload_n (pc := 246) (n := 0) (i := 0) rfl rfl rfl ?_
            refine eb_bipush (pc := 247) (n := 25) (v := 25) rfl rfl ?_
            refine eb_putI (pc := 249) rfl rfl (by decide) (by decide) rfl rfl ⟨rfl, rfl⟩ ?_
            refine eb_iconst (pc := 252) (n := 0) (v := 0) rfl rfl ?_
            refine eb_istore_n (pc := 253) (n := 1) (i := 1) (ls2 := [(1, .int 0), (0, .ref s_MO)]) rfl (Nat.le_of_ble_eq_true rfl) rfl rfl ?_
            exact eb_pick [1, 0] rfl w
          · replace w := w.2 c23
            refine eb_aload_n (pc := 141) (n := 0) (i := 0) rfl rfl rfl ?_
            refine eb_iconst (pc := 142) (n := 0) (v := 0) rfl rfl ?_
            refine eb_putI (pc := 143) rfl rfl (by decide) (by decide) rfl rfl ⟨rfl, rfl⟩ ?_
            exact eb_pick [0] rfl w
        · replace w := w.2 c16
          exact eb_pick [0] rfl w
      · replace w := w.2 c9
        refine eb_aload_n (pc := 66) (n := 0) (i := 0) rfl rfl rfl ?_
        refine eb_bipush (pc := 67) (n := 24) (v := 24) rfl rfl ?_
        refine eb_putI (pc := 69) rfl rfl (by decide) (by decide) rfl rfl ⟨rfl, rfl⟩ ?_
        refine eb_goto (pc := 72) (tgt := 294) rfl (by decide) ?_
        exact eb_return (pc := 294) rfl rfl w
    · replace w := w.2 c8
      refine eb_aload_n (pc := 34) (n := 0) (i := 0) rfl rfl rfl ?_
      refine eb_dupr (pc := 35) rfl ?_
      refine eb_getI (pc := 36) rfl rfl (by decide) (by decide) rfl ?_
      refine eb_iconst (pc := 39) (n := 1) (v := 1) rfl rfl ?_
      refine eb_iadd (pc := 40) rfl ?_
      refine eb_putI (pc := 41) rfl rfl (by decide) (by decide) rfl rfl ⟨rfl, rfl⟩ ?_
      refine eb_goto (pc := 44) (tgt := 8) rfl (by decide) ?_
      exact eb_pick [0] rfl w
theorem b_X11_next_254 {d : Nat} {h0 h : eb_H} {Q : Option Value → eb_H → Prop} (x1 : Int32)  (ko : eb_KO h) (w : eb_Ct d 289 [.ref (eb_mk 3 21 0)] h (fun r h1 => ∃ y2, r = some (.int y2) ∧ eb_KO h1 ∧ ((y2 ≤ x1 → Q none h1) ∧ (¬ (y2 ≤ x1) → eb_Ct d 160 [.ref s_MO, .int (eb_I h1 s_MO 6)] h1 (fun r h5 => ∃ y6, r = some (.int y6) ∧ eb_KO h5 ∧ eb_Ct d 290 [.ref (eb_mk 3 21 0), .int x1] h5 (fun r h8 => ∃ y9, r = some (.int y9) ∧ eb_KO h8 ∧ ((¬ y6 = y9 → eb_Sn (d + 1) m_X11_next h0 254 [(0, .ref s_MO), (1, .int (x1 + 1))] [] h8 Q) ∧ (y6 = y9 → eb_Sn (d + 1) m_X11_next h0 254 [(0, .ref s_MO), (1, .int (x1 + 1))] [] (eb_sI h8 s_MO 9 ((30 : Int32) + x1)) Q)))))))) : eb_Sn (d + 1) m_X11_next h0 254 [(0, .ref s_MO), (1, .int x1)] [] h Q := by
  refine eb_iload_n (pc := 254) (n := 1) (i := 1) rfl rfl rfl ?_
  refine eb_ldcS (pc := 255) (a := 3) (i := eb_mk 3 21 0) rfl rfl rfl ?_
  refine eb_ctT (pc := 257) (i := 3) (As := []) (rest := [.int x1]) rfl (by decide) rfl (by decide) rfl rfl (Nat.le_of_ble_eq_true rfl) ?_
  refine eb_Ct.mono w ?_
  rintro r h1 ⟨y2, rfl, ko3, w⟩
  change eb_Sn _ _ _ 260 _ [.int y2, .int x1] _ _
  refine eb_icmp_ge (pc := 260) (tgt := 294) rfl (by decide) (fun c4 => ?_) (fun c4 => ?_)
  · replace w := w.1 c4
    exact eb_return (pc := 294) rfl rfl w
  · replace w := w.2 c4
    refine eb_aload_n (pc := 263) (n := 0) (i := 0) rfl rfl rfl ?_
    refine eb_aload_n (pc := 264) (n := 0) (i := 0) rfl rfl rfl ?_
    refine eb_getI (pc := 265) rfl rfl (by decide) (by decide) rfl ?_
    refine eb_ctV (pc := 268) (As := [.int (eb_I h1 s_MO 6)]) (rest := []) rfl (by decide) rfl rfl (by decide) rfl (Nat.le_of_ble_eq_true rfl) ?_
    refine eb_Ct.mono w ?_
    rintro r h5 ⟨y6, rfl, ko7, w⟩
    change eb_Sn _ _ _ 271 _ [.int y6] _ _
    refine eb_ldcS (pc := 271) (a := 3) (i := eb_mk 3 21 0) rfl rfl rfl ?_
    refine eb_iload_n (pc := 273) (n := 1) (i := 1) rfl rfl rfl ?_
    refine eb_ctT (pc := 274) (i := 3) (As := [.int x1]) (rest := [.int y6]) rfl (by decide) rfl (by decide) rfl rfl (Nat.le_of_ble_eq_true rfl) ?_
    refine eb_Ct.mono w ?_
    rintro r h8 ⟨y9, rfl, ko10, w⟩
    change eb_Sn _ _ _ 277 _ [.int y9, .int y6] _ _
    refine eb_icmp_ne (pc := 277) (tgt := 288) rfl (by decide) (fun c11 => ?_) (fun c11 => ?_)
    · replace w := w.1 c11
      refine eb_iinc (pc := 288) (i := 1) (n := 1) (v := x1 + 1) (ls2 := [(1, .int (x1 + 1)), (0, .ref s_MO)]) (Nat.le_of_ble_eq_true rfl) rfl rfl rfl rfl ?_
      refine eb_goto (pc := 291) (tgt := 254) rfl (by decide) ?_
      exact eb_pick [1, 0] rfl w
    · replace w := w.2 c11
      refine eb_aload_n (pc := 280) (n := 0) (i := 0) rfl rfl rfl ?_
      refine eb_bipush (pc := 281) (n := 30) (v := 30) rfl rfl ?_
      refine eb_iload_n (pc := 283) (n := 1) (i := 1) rfl rfl rfl ?_
      refine eb_iadd (pc := 284) rfl ?_
      refine eb_putI (pc := 285) rfl rfl (by decide) (by decide) rfl rfl ⟨rfl, rfl⟩ ?_
      refine eb_iinc (pc := 288) (i := 1) (n := 1) (v := x1 + 1) (ls2 := [(1, .int (x1 + 1)), (0, .ref s_MO)]) (Nat.le_of_ble_eq_true rfl) rfl rfl rfl rfl ?_
      refine eb_goto (pc := 291) (tgt := 254) rfl (by decide) ?_
      exact eb_pick [1, 0] rfl w
theorem b_X11_next_146 {d : Nat} {h0 h : eb_H} {Q : Option Value → eb_H → Prop}   (ko : eb_KO h) (w : eb_Ct d 160 [.ref s_MO, .int (eb_I h s_MO 7)] h (fun r h1 => ∃ y2, r = some (.int y2) ∧ eb_KO h1 ∧ eb_Ct d 162 [.int y2] h1 (fun r h4 => ∃ y5, r = some (.int y5) ∧ eb_KO h4 ∧ ((y5 = 0 → Q none (eb_sI h4 s_MO 9 (if ((eb_I h4 s_MO 7) - (eb_I h4 s_MO 6)) ≤ (3 : Int32) then 23 else 25 : Int32))) ∧ (¬ (y5 = 0) → (((3 : Int32) ≤ ((eb_I h4 s_MO 7) - (eb_I h4 s_MO 6)) → eb_Sn (d + 1) m_X11_next h0 146 [(0, .ref s_MO)] [] (eb_sI h4 s_MO 7 ((eb_I h4 s_MO 7) + 1)) Q) ∧ (¬ ((3 : Int32) ≤ ((eb_I h4 s_MO 7) - (eb_I h4 s_MO 6))) → eb_Ct d 160 [.ref s_MO, .int (eb_I h4 s_MO 7)] h4 (fun r h12 => ∃ y13, r = some (.int y13) ∧ eb_KO h12 ∧ eb_Sn (d + 1) m_X11_next h0 146 [(0, .ref s_MO)] [] (eb_sI (eb_sI h12 s_MO 10 ((((10 : Int32) * (eb_I h4 s_MO 10)) + y13) - 48)) s_MO 7 ((eb_I (eb_sI h12 s_MO 10 ((((10 : Int32) * (eb_I h4 s_MO 10)) + y13) - 48)) s_MO 7) + 1)) Q)))))))) : eb_Sn (d + 1) m_X11_next h0 146 [(0, .ref s_MO)] [] h Q := by
  refine eb_aload_n (pc := 146) (n := 0) (i := 0) rfl rfl rfl ?_
  refine eb_aload_n (pc := 147) (n := 0) (i := 0) rfl rfl rfl ?_
  refine eb_getI (pc := 148) rfl rfl (by decide) (by decide) rfl ?_
  refine eb_ctV (pc := 151) (As := [.int (eb_I h s_MO 7)]) (rest := []) rfl (by decide) rfl rfl (by decide) rfl (Nat.le_of_ble_eq_true rfl) ?_
  refine eb_Ct.mono w ?_
  rintro r h1 ⟨y2, rfl, ko3, w⟩
  change eb_Sn _ _ _ 154 _ [.int y2] _ _
  refine eb_ctS (pc := 154) (As := [.int y2]) (rest := []) rfl (by decide) (by decide) rfl rfl (Nat.le_of_ble_eq_true rfl) ?_
  refine eb_Ct.mono w ?_
  rintro r h4 ⟨y5, rfl, ko6, w⟩
  change eb_Sn _ _ _ 157 _ [.int y5] _ _
  refine eb_if_eq (pc := 157) (tgt := 209) rfl (by decide) (fun c7 => ?_) (fun c7 => ?_)
  · replace w := w.1 c7
    refine eb_aload_n (pc := 209) (n := 0) (i := 0) rfl rfl rfl ?_
    refine eb_aload_n (pc := 210) (n := 0) (i := 0) rfl rfl rfl ?_
    refine eb_getI (pc := 211) rfl rfl (by decide) (by decide) rfl ?_
    refine eb_aload_n (pc := 214) (n := 0) (i := 0) rfl rfl rfl ?_
    refine eb_getI (pc := 215) rfl rfl (by decide) (by decide) rfl ?_
    refine eb_isub (pc := 218) rfl ?_
    refine eb_iconst (pc := 219) (n := 3) (v := 3) rfl rfl ?_
    refine eb_joinI (pc2 := 230) (ls2 := [(0, .ref s_MO)]) (st2 := [.ref s_MO]) (v := (if ((eb_I h4 s_MO 7) - (eb_I h4 s_MO 6)) ≤ (3 : Int32) then 23 else 25 : Int32)) ?_ (fun jj9 => ?_)
    · refine eb_putI (pc := 230) rfl rfl (by decide) (by decide) rfl rfl ⟨rfl, rfl⟩ ?_
      refine eb_goto (pc := 233) (tgt := 294) rfl (by decide) ?_
      exact eb_return (pc := 294) rfl rfl w
    refine eb_icmp_le (pc := 220) (tgt := 228) rfl (by decide) (fun c8 => ?_) (fun c8 => ?_)
    · refine eb_bipush (pc := 228) (n := 23) (v := 23) rfl rfl ?_
      exact jj9 _ (by simp only [if_pos c8])
    · refine eb_bipush (pc := 223) (n := 25) (v := 25) rfl rfl ?_
      refine eb_goto (pc := 225) (tgt := 230) rfl (by decide) ?_
      exact jj9 _ (by simp only [if_neg c8])
  · replace w := w.2 c7
    refine eb_aload_n (pc := 160) (n := 0) (i := 0) rfl rfl rfl ?_
    refine eb_getI (pc := 161) rfl rfl (by decide) (by decide) rfl ?_
    refine eb_aload_n (pc := 164) (n := 0) (i := 0) rfl rfl rfl ?_
    refine eb_getI (pc := 165) rfl rfl (by decide) (by decide) rfl ?_
    refine eb_isub (pc := 168) rfl ?_
    refine eb_iconst (pc := 169) (n := 3) (v := 3) rfl rfl ?_
    refine eb_icmp_ge (pc := 170) (tgt := 196) rfl (by decide) (fun c11 => ?_) (fun c11 => ?_)
    · replace w := w.1 c11
      refine eb_aload_n (pc := 196) (n := 0) (i := 0) rfl rfl rfl ?_
      refine eb_dupr (pc := 197) rfl ?_
      refine eb_getI (pc := 198) rfl rfl (by decide) (by decide) rfl ?_
      refine eb_iconst (pc := 201) (n := 1) (v := 1) rfl rfl ?_
      refine eb_iadd (pc := 202) rfl ?_
      refine eb_putI (pc := 203) rfl rfl (by decide) (by decide) rfl rfl ⟨rfl, rfl⟩ ?_
      refine eb_goto (pc := 206) (tgt := 146) rfl (by decide) ?_
      exact eb_pick [0] rfl w
    · replace w := w.2 c11
      refine eb_aload_n (pc := 173) (n := 0) (i := 0) rfl rfl rfl ?_
      refine eb_bipush (pc := 174) (n := 10) (v := 10) rfl rfl ?_
      refine eb_aload_n (pc := 176) (n := 0) (i := 0) rfl rfl rfl ?_
      refine eb_getI (pc := 177) rfl rfl (by decide) (by decide) rfl ?_
      refine eb_imul (pc := 180) rfl ?_
      refine eb_aload_n (pc := 181) (n := 0) (i := 0) rfl rfl rfl ?_
      refine eb_aload_n (pc := 182) (n := 0) (i := 0) rfl rfl rfl ?_
      refine eb_getI (pc := 183) rfl rfl (by decide) (by decide) rfl ?_
      refine eb_ctV (pc := 186) (As := [.int (eb_I h4 s_MO 7)]) (rest := [.int ((10 : Int32) * (eb_I h4 s_MO 10)), .ref s_MO]) rfl (by decide) rfl rfl (by decide) rfl (Nat.le_of_ble_eq_true rfl) ?_
      refine eb_Ct.mono w ?_
      rintro r h12 ⟨y13, rfl, ko14, w⟩
      change eb_Sn _ _ _ 189 _ [.int y13, .int ((10 : Int32) * (eb_I h4 s_MO 10)), .ref s_MO] _ _
      refine eb_iadd (pc := 189) rfl ?_
      refine eb_bipush (pc := 190) (n := 48) (v := 48) rfl rfl ?_
      refine eb_isub (pc := 192) rfl ?_
      refine eb_putI (pc := 193) rfl rfl (by decide) (by decide) rfl rfl ⟨rfl, rfl⟩ ?_
      refine eb_aload_n (pc := 196) (n := 0) (i := 0) rfl rfl rfl ?_
      refine eb_dupr (pc := 197) rfl ?_
      refine eb_getI (pc := 198) rfl rfl (by decide) (by decide) rfl ?_
      refine eb_iconst (pc := 201) (n := 1) (v := 1) rfl rfl ?_
      refine eb_iadd (pc := 202) rfl ?_
      refine eb_putI (pc := 203) rfl rfl (by decide) (by decide) rfl rfl ⟨rfl, rfl⟩ ?_
      refine eb_goto (pc := 206) (tgt := 146) rfl (by decide) ?_
      exact eb_pick [0] rfl w
theorem b_X11_next_89 {d : Nat} {h0 h : eb_H} {Q : Option Value → eb_H → Prop}   (ko : eb_KO h) (w : eb_Ct d 160 [.ref s_MO, .int (eb_I h s_MO 7)] h (fun r h1 => ∃ y2, r = some (.int y2) ∧ eb_KO h1 ∧ eb_Ct d 161 [.int y2] h1 (fun r h4 => ∃ y5, r = some (.int y5) ∧ eb_KO h4 ∧ ((y5 = 0 → eb_Ct d 163 [.ref s_MO] h4 (fun r h8 => ∃ y9, r = some (.int y9) ∧ eb_KO h8 ∧ Q none (eb_sI h8 s_MO 9 y9))) ∧ (¬ (y5 = 0) → eb_Sn (d + 1) m_X11_next h0 89 [(0, .ref s_MO)] [] (eb_sI h4 s_MO 7 ((eb_I h4 s_MO 7) + 1)) Q))))) : eb_Sn (d + 1) m_X11_next h0 89 [(0, .ref s_MO)] [] h Q := by
  refine eb_aload_n (pc := 89) (n := 0) (i := 0) rfl rfl rfl ?_
  refine eb_aload_n (pc := 90) (n := 0) (i := 0) rfl rfl rfl ?_
  refine eb_getI (pc := 91) rfl rfl (by decide) (by decide) rfl ?_
  refine eb_ctV (pc := 94) (As := [.int (eb_I h s_MO 7)]) (rest := []) rfl (by decide) rfl rfl (by decide) rfl (Nat.le_of_ble_eq_true rfl) ?_
  refine eb_Ct.mono w ?_
  rintro r h1 ⟨y2, rfl, ko3, w⟩
  change eb_Sn _ _ _ 97 _ [.int y2] _ _
  refine eb_ctS (pc := 97) (As := [.int y2]) (rest := []) rfl (by decide) (by decide) rfl rfl (Nat.le_of_ble_eq_true rfl) ?_
  refine eb_Ct.mono w ?_
  rintro r h4 ⟨y5, rfl, ko6, w⟩
  change eb_Sn _ _ _ 100 _ [.int y5] _ _
  refine eb_if_eq (pc := 100) (tgt := 116) rfl (by decide) (fun c7 => ?_) (fun c7 => ?_)
  · replace w := w.1 c7
    refine eb_aload_n (pc := 116) (n := 0) (i := 0) rfl rfl rfl ?_
    refine eb_aload_n (pc := 117) (n := 0) (i := 0) rfl rfl rfl ?_
    refine eb_ctV (pc := 118) (As := []) (rest := [.ref s_MO]) rfl (by decide) rfl rfl (by decide) rfl (Nat.le_of_ble_eq_true rfl) ?_
    refine eb_Ct.mono w ?_
    rintro r h8 ⟨y9, rfl, ko10, w⟩
    change eb_Sn _ _ _ 121 _ [.int y9, .ref s_MO] _ _
    refine eb_putI (pc := 121) rfl rfl (by decide) (by decide) rfl rfl ⟨rfl, rfl⟩ ?_
    refine eb_goto (pc := 124) (tgt := 294) rfl (by decide) ?_
    exact eb_return (pc := 294) rfl rfl w
  · replace w := w.2 c7
    refine eb_aload_n (pc := 103) (n := 0) (i := 0) rfl rfl rfl ?_
    refine eb_dupr (pc := 104) rfl ?_
    refine eb_getI (pc := 105) rfl rfl (by decide) (by decide) rfl ?_
    refine eb_iconst (pc := 108) (n := 1) (v := 1) rfl rfl ?_
    refine eb_iadd (pc := 109) rfl ?_
    refine eb_putI (pc := 110) rfl rfl (by decide) (by decide) rfl rfl ⟨rfl, rfl⟩ ?_
    refine eb_goto (pc := 113) (tgt := 89) rfl (by decide) ?_
    exact eb_pick [0] rfl w
theorem T_X11_next {d : Nat} {h : eb_H} {Q : Option Value → eb_H → Prop}   (ko : eb_KO h) (w : eb_Sn (d + 1) m_X11_next h 8 [(0, .ref s_MO)] [] (eb_sI h s_MO 6 (eb_I h s_MO 7)) Q) : eb_Ct (d + 1) 164 [.ref s_MO] h Q :=
  eb_bodyQ (by decide) ok_X11_next (Nat.le_of_ble_eq_true rfl) (b_X11_next_0 (h0 := h)   ko w)
theorem b_X11_fails_0 {d : Nat} {h0 h : eb_H} {Q : Option Value → eb_H → Prop} (x1 : Int32)  (ko : eb_KO h) (w : (((eb_I h s_MO 11) = 0 → Q none (eb_sI (eb_sI h s_MO 11 (if (eb_I h s_MO 9) = (25 : Int32) then 1 else x1 : Int32)) s_MO 12 (eb_I (eb_sI h s_MO 11 (if (eb_I h s_MO 9) = (25 : Int32) then 1 else x1 : Int32)) s_MO 6))) ∧ (¬ ((eb_I h s_MO 11) = 0) → Q none h))) : eb_Sn d m_X11_fails h0 0 [(0, .ref s_MO), (1, .int x1)] [] h Q := by
  refine eb_aload_n (pc := 0) (n := 0) (i := 0) rfl rfl rfl ?_
  refine eb_getI (pc := 1) rfl rfl (by decide) (by decide) rfl ?_
  refine eb_if_eq (pc := 4) (tgt := 8) rfl (by decide) (fun c1 => ?_) (fun c1 => ?_)
  · replace w := w.1 c1
    refine eb_aload_n (pc := 8) (n := 0) (i := 0) rfl rfl rfl ?_
    refine eb_aload_n (pc := 9) (n := 0) (i := 0) rfl rfl rfl ?_
    refine eb_getI (pc := 10) rfl rfl (by decide) (by decide) rfl ?_
    refine eb_bipush (pc := 13) (n := 25) (v := 25) rfl rfl ?_
    refine eb_joinI (pc2 := 23) (ls2 := [(0, .ref s_MO), (1, .int x1)]) (st2 := [.ref s_MO]) (v := (if (eb_I h s_MO 9) = (25 : Int32) then 1 else x1 : Int32)) ?_ (fun jj3 => ?_)
    · refine eb_putI (pc := 23) rfl rfl (by decide) (by decide) rfl rfl ⟨rfl, rfl⟩ ?_
      refine eb_aload_n (pc := 26) (n := 0) (i := 0) rfl rfl rfl ?_
      refine eb_aload_n (pc := 27) (n := 0) (i := 0) rfl rfl rfl ?_
      refine eb_getI (pc := 28) rfl rfl (by decide) (by decide) rfl ?_
      refine eb_putI (pc := 31) rfl rfl (by decide) (by decide) rfl rfl ⟨rfl, rfl⟩ ?_
      exact eb_return (pc := 34) rfl rfl w
    refine eb_icmp_ne (pc := 15) (tgt := 22) rfl (by decide) (fun c2 => ?_) (fun c2 => ?_)
    · refine eb_iload_n (pc := 22) (n := 1) (i := 1) rfl rfl rfl ?_
      exact jj3 _ (by simp only [if_neg c2])
    · refine eb_iconst (pc := 18) (n := 1) (v := 1) rfl rfl ?_
      refine eb_goto (pc := 19) (tgt := 23) rfl (by decide) ?_
      exact jj3 _ (by simp only [if_pos c2])
  · replace w := w.2 c1
    exact eb_return (pc := 7) rfl rfl w
theorem T_X11_fails {d : Nat} {h : eb_H} {Q : Option Value → eb_H → Prop} (x1 : Int32)  (ko : eb_KO h) (w : (((eb_I h s_MO 11) = 0 → Q none (eb_sI (eb_sI h s_MO 11 (if (eb_I h s_MO 9) = (25 : Int32) then 1 else x1 : Int32)) s_MO 12 (eb_I (eb_sI h s_MO 11 (if (eb_I h s_MO 9) = (25 : Int32) then 1 else x1 : Int32)) s_MO 6))) ∧ (¬ ((eb_I h s_MO 11) = 0) → Q none h))) : eb_Ct d 165 [.ref s_MO, .int x1] h Q :=
  eb_bodyQ (by decide) ok_X11_fails (Nat.le_of_ble_eq_true rfl) (b_X11_fails_0 (h0 := h) x1  ko w)
theorem b_X11_is_0 {d : Nat} {h0 h : eb_H} {Q : Option Value → eb_H → Prop} (x1 : Int32)  (ko : eb_KO h) (w : Q (some (.int (eb_q (((eb_I h s_MO 11) = 0) ∧ ((eb_I h s_MO 9) = x1))))) h) : eb_Sn d m_X11_is h0 0 [(0, .ref s_MO), (1, .int x1)] [] h Q := by
  refine eb_aload_n (pc := 0) (n := 0) (i := 0) rfl rfl rfl ?_
  refine eb_getI (pc := 1) rfl rfl (by decide) (by decide) rfl ?_
  refine eb_joinI (pc2 := 20) (ls2 := [(0, .ref s_MO), (1, .int x1)]) (st2 := []) (v := eb_q (((eb_I h s_MO 11) = 0) ∧ ((eb_I h s_MO 9) = x1))) ?_ (fun jj3 => ?_)
  · exact eb_ireturn (pc := 20) rfl rfl eb_qn w
  refine eb_if_ne (pc := 4) (tgt := 19) rfl (by decide) (fun c1 => ?_) (fun c1 => ?_)
  · refine eb_iconst (pc := 19) (n := 0) (v := 0) rfl rfl ?_
    exact jj3 0 (eb_qf (fun z => c1 z.1)).symm
  · refine eb_aload_n (pc := 7) (n := 0) (i := 0) rfl rfl rfl ?_
    refine eb_getI (pc := 8) rfl rfl (by decide) (by decide) rfl ?_
    refine eb_iload_n (pc := 11) (n := 1) (i := 1) rfl rfl rfl ?_
    refine eb_icmp_ne (pc := 12) (tgt := 19) rfl (by decide) (fun c2 => ?_) (fun c2 => ?_)
    · refine eb_iconst (pc := 19) (n := 0) (v := 0) rfl rfl ?_
      exact jj3 0 (eb_qf (fun z => c2 z.2)).symm
    · refine eb_iconst (pc := 15) (n := 1) (v := 1) rfl rfl ?_
      refine eb_goto (pc := 16) (tgt := 20) rfl (by decide) ?_
      exact jj3 1 (eb_qt (⟨c1, c2⟩)).symm
theorem T_X11_is {d : Nat} {h : eb_H} {Q : Option Value → eb_H → Prop} (x1 : Int32)  (ko : eb_KO h) (w : Q (some (.int (eb_q (((eb_I h s_MO 11) = 0) ∧ ((eb_I h s_MO 9) = x1))))) h) : eb_Ct d 166 [.ref s_MO, .int x1] h Q :=
  eb_bodyQ (by decide) ok_X11_is (Nat.le_of_ble_eq_true rfl) (b_X11_is_0 (h0 := h) x1  ko w)
theorem b_X11_eats_0 {d : Nat} {h0 h : eb_H} {Q : Option Value → eb_H → Prop} (x1 : Int32)  (ko : eb_KO h) (w : eb_Ct d 166 [.ref s_MO, .int x1] h (fun r h1 => ∃ y2, r = some (.int y2) ∧ eb_KO h1 ∧ ((¬ y2 = 0 → eb_Ct d 164 [.ref s_MO] h1 (fun r h5 => r = none ∧ eb_KO h5 ∧ Q (some (.int 1)) h5)) ∧ (y2 = 0 → Q (some (.int 0)) h1)))) : eb_Sn (d + 1) m_X11_eats h0 0 [(0, .ref s_MO), (1, .int x1)] [] h Q := by
  refine eb_aload_n (pc := 0) (n := 0) (i := 0) rfl rfl rfl ?_
  refine eb_iload_n (pc := 1) (n := 1) (i := 1) rfl rfl rfl ?_
  refine eb_ctV (pc := 2) (As := [.int x1]) (rest := []) rfl (by decide) rfl rfl (by decide) rfl (Nat.le_of_ble_eq_true rfl) ?_
  refine eb_Ct.mono w ?_
  rintro r h1 ⟨y2, rfl, ko3, w⟩
  change eb_Sn _ _ _ 5 _ [.int y2] _ _
  refine eb_if_ne (pc := 5) (tgt := 10) rfl (by decide) (fun c4 => ?_) (fun c4 => ?_)
  · replace w := w.1 c4
    refine eb_aload_n (pc := 10) (n := 0) (i := 0) rfl rfl rfl ?_
    refine eb_ctV (pc := 11) (As := []) (rest := []) rfl (by decide) rfl rfl (by decide) rfl (Nat.le_of_ble_eq_true rfl) ?_
    refine eb_Ct.mono w ?_
    rintro r h5 ⟨rfl, ko7, w⟩
    change eb_Sn _ _ _ 14 _ [] _ _
    refine eb_iconst (pc := 14) (n := 1) (v := 1) rfl rfl ?_
    exact eb_ireturn (pc := 15) rfl rfl (by decide) w
  · replace w := w.2 c4
    refine eb_iconst (pc := 8) (n := 0) (v := 0) rfl rfl ?_
    exact eb_ireturn (pc := 9) rfl rfl (by decide) w
theorem T_X11_eats {d : Nat} {h : eb_H} {Q : Option Value → eb_H → Prop} (x1 : Int32)  (ko : eb_KO h) (w : eb_Ct d 166 [.ref s_MO, .int x1] h (fun r h1 => ∃ y2, r = some (.int y2) ∧ eb_KO h1 ∧ ((¬ y2 = 0 → eb_Ct d 164 [.ref s_MO] h1 (fun r h5 => r = none ∧ eb_KO h5 ∧ Q (some (.int 1)) h5)) ∧ (y2 = 0 → Q (some (.int 0)) h1)))) : eb_Ct (d + 1) 167 [.ref s_MO, .int x1] h Q :=
  eb_bodyQ (by decide) ok_X11_eats (Nat.le_of_ble_eq_true rfl) (b_X11_eats_0 (h0 := h) x1  ko w)
theorem b_X11_takes_0 {d : Nat} {h0 h : eb_H} {Q : Option Value → eb_H → Prop} (x1 : Int32) (x2 : Int32)  (ko : eb_KO h) (w : eb_Ct d 166 [.ref s_MO, .int 23] h (fun r h1 => ∃ y2, r = some (.int y2) ∧ eb_KO h1 ∧ ((¬ y2 = 0 → (((¬ (((eb_I h1 s_MO 10).toInt64) < x1.toInt64)) ∧ (¬ (x2.toInt64 < ((eb_I h1 s_MO 10).toInt64))) → ((¬ (eb_I h1 s_MO 11) = 0 → Q (some (.int (eb_I h1 s_MO 10))) h1) ∧ ((eb_I h1 s_MO 11) = 0 → eb_Ct d 164 [.ref s_MO] h1 (fun r h9 => r = none ∧ eb_KO h9 ∧ Q (some (.int (eb_I h1 s_MO 10))) h9)))) ∧ (¬ ((¬ (((eb_I h1 s_MO 10).toInt64) < x1.toInt64)) ∧ (¬ (x2.toInt64 < ((eb_I h1 s_MO 10).toInt64)))) → eb_Ct d 165 [.ref s_MO, .int 3] h1 (fun r h12 => r = none ∧ eb_KO h12 ∧ ((¬ (eb_I h12 s_MO 11) = 0 → Q (some (.int (eb_I h12 s_MO 10))) h12) ∧ ((eb_I h12 s_MO 11) = 0 → eb_Ct d 164 [.ref s_MO] h12 (fun r h16 => r = none ∧ eb_KO h16 ∧ Q (some (.int (eb_I h12 s_MO 10))) h16))))))) ∧ (y2 = 0 → eb_Ct d 165 [.ref s_MO, .int 2] h1 (fun r h21 => r = none ∧ eb_KO h21 ∧ ((¬ (eb_I h21 s_MO 11) = 0 → Q (some (.int (eb_I h21 s_MO 10))) h21) ∧ ((eb_I h21 s_MO 11) = 0 → eb_Ct d 164 [.ref s_MO] h21 (fun r h25 => r = none ∧ eb_KO h25 ∧ Q (some (.int (eb_I h21 s_MO 10))) h25)))))))) : eb_Sn (d + 1) m_X11_takes h0 0 [(0, .ref s_MO), (1, .int x1), (2, .int x2)] [] h Q := by
  refine eb_aload_n (pc := 0) (n := 0) (i := 0) rfl rfl rfl ?_
  refine eb_bipush (pc := 1) (n := 23) (v := 23) rfl rfl ?_
  refine eb_ctV (pc := 3) (As := [.int 23]) (rest := []) rfl (by decide) rfl rfl (by decide) rfl (Nat.le_of_ble_eq_true rfl) ?_
  refine eb_Ct.mono w ?_
  rintro r h1 ⟨y2, rfl, ko3, w⟩
  change eb_Sn _ _ _ 6 _ [.int y2] _ _
  refine eb_if_ne (pc := 6) (tgt := 17) rfl (by decide) (fun c4 => ?_) (fun c4 => ?_)
  · replace w := w.1 c4
    refine eb_aload_n (pc := 17) (n := 0) (i := 0) rfl rfl rfl ?_
    refine eb_getI (pc := 18) rfl rfl (by decide) (by decide) rfl ?_
    refine eb_i2l (pc := 21) rfl ?_
    refine eb_iload_n (pc := 22) (n := 1) (i := 1) rfl rfl rfl ?_
    refine eb_i2l (pc := 23) rfl ?_
    refine eb_iload_n (pc := 24) (n := 2) (i := 2) rfl rfl rfl ?_
    refine eb_i2l (pc := 25) rfl ?_
    refine eb_joinI (pc2 := 29) (ls2 := [(0, .ref s_MO), (1, .int x1), (2, .int x2)]) (st2 := []) (v := eb_q ((¬ (((eb_I h1 s_MO 10).toInt64) < x1.toInt64)) ∧ (¬ (x2.toInt64 < ((eb_I h1 s_MO 10).toInt64))))) ?_ (fun jj19 => ?_)
    · refine eb_if_ne (pc := 29) (tgt := 37) rfl (by decide) (fun c7 => ?_) (fun c7 => ?_)
      · replace c7 := eb_q1.mp c7
        replace w := w.1 c7
        refine eb_aload_n (pc := 37) (n := 0) (i := 0) rfl rfl rfl ?_
        refine eb_getI (pc := 38) rfl rfl (by decide) (by decide) rfl ?_
        refine eb_istore_n (pc := 41) (n := 3) (i := 3) (ls2 := [(3, .int (eb_I h1 s_MO 10)), (0, .ref s_MO), (1, .int x1), (2, .int x2)]) rfl (Nat.le_of_ble_eq_true rfl) rfl rfl ?_
        refine eb_aload_n (pc := 42) (n := 0) (i := 0) rfl rfl rfl ?_
        refine eb_getI (pc := 43) rfl rfl (by decide) (by decide) rfl ?_
        refine eb_if_ne (pc := 46) (tgt := 53) rfl (by decide) (fun c8 => ?_) (fun c8 => ?_)
        · replace w := w.1 c8
          refine eb_iload_n (pc := 53) (n := 3) (i := 3) rfl rfl rfl ?_
          exact eb_ireturn (pc := 54) rfl rfl rfl w
        · replace w := w.2 c8
          refine eb_aload_n (pc := 49) (n := 0) (i := 0) rfl rfl rfl ?_
          refine eb_ctV (pc := 50) (As := []) (rest := []) rfl (by decide) rfl rfl (by decide) rfl (Nat.le_of_ble_eq_true rfl) ?_
          refine eb_Ct.mono w ?_
          rintro r h9 ⟨rfl, ko11, w⟩
          change eb_Sn _ _ _ 53 _ [] _ _
          refine eb_iload_n (pc := 53) (n := 3) (i := 3) rfl rfl rfl ?_
          exact eb_ireturn (pc := 54) rfl rfl rfl w
      · replace c7 := eb_q0.mp c7
        replace w := w.2 c7
        refine eb_aload_n (pc := 32) (n := 0) (i := 0) rfl rfl rfl ?_
        refine eb_iconst (pc := 33) (n := 3) (v := 3) rfl rfl ?_
        refine eb_ctV (pc := 34) (As := [.int 3]) (rest := []) rfl (by decide) rfl rfl (by decide) rfl (Nat.le_of_ble_eq_true rfl) ?_
        refine eb_Ct.mono w ?_
        rintro r h12 ⟨rfl, ko14, w⟩
        change eb_Sn _ _ _ 37 _ [] _ _
        refine eb_aload_n (pc := 37) (n := 0) (i := 0) rfl rfl rfl ?_
        refine eb_getI (pc := 38) rfl rfl (by decide) (by decide) rfl ?_
        refine eb_istore_n (pc := 41) (n := 3) (i := 3) (ls2 := [(3, .int (eb_I h12 s_MO 10)), (0, .ref s_MO), (1, .int x1), (2, .int x2)]) rfl (Nat.le_of_ble_eq_true rfl) rfl rfl ?_
        refine eb_aload_n (pc := 42) (n := 0) (i := 0) rfl rfl rfl ?_
        refine eb_getI (pc := 43) rfl rfl (by decide) (by decide) rfl ?_
        refine eb_if_ne (pc := 46) (tgt := 53) rfl (by decide) (fun c15 => ?_) (fun c15 => ?_)
        · replace w := w.1 c15
          refine eb_iload_n (pc := 53) (n := 3) (i := 3) rfl rfl rfl ?_
          exact eb_ireturn (pc := 54) rfl rfl rfl w
        · replace w := w.2 c15
          refine eb_aload_n (pc := 49) (n := 0) (i := 0) rfl rfl rfl ?_
          refine eb_ctV (pc := 50) (As := []) (rest := []) rfl (by decide) rfl rfl (by decide) rfl (Nat.le_of_ble_eq_true rfl) ?_
          refine eb_Ct.mono w ?_
          rintro r h16 ⟨rfl, ko18, w⟩
          change eb_Sn _ _ _ 53 _ [] _ _
          refine eb_iload_n (pc := 53) (n := 3) (i := 3) rfl rfl rfl ?_
          exact eb_ireturn (pc := 54) rfl rfl rfl w
    refine eb_ctS (pc := 26) (As := [.long ((eb_I h1 s_MO 10).toInt64), .long x1.toInt64, .long x2.toInt64]) (rest := []) rfl (by decide) (by decide) rfl rfl (Nat.le_of_ble_eq_true rfl) ?_
    refine eb_bodyQ (by decide) ok_X11_within (Nat.le_of_ble_eq_true rfl) ?_
    change eb_Sn _ m_X11_within _ 0 [(0, .long ((eb_I h1 s_MO 10).toInt64)), (2, .long x1.toInt64), (4, .long x2.toInt64)] [] _ _
    refine eb_lload_n (pc := 0) (n := 0) (i := 0) rfl rfl rfl ?_
    refine eb_lload_n (pc := 1) (n := 2) (i := 2) rfl rfl rfl ?_
    refine eb_lcmp (pc := 2) rfl ?_
    refine eb_if_lt (pc := 3) (tgt := 17) rfl (by decide) (fun c5 => ?_) (fun c5 => ?_)
    · replace c5 := eb_lc_lt.mp c5
      refine eb_iconst (pc := 17) (n := 0) (v := 0) rfl rfl ?_
      refine eb_ireturn (pc := 18) rfl rfl (by decide) ?_
      change eb_Sn _ _ _ 29 _ _ _ _
      exact jj19 0 (eb_qf (fun z => z.1 c5)).symm
    · replace c5 := (fun hh => mt eb_lc_lt.mpr hh) c5
      refine eb_lload_n (pc := 6) (n := 0) (i := 0) rfl rfl rfl ?_
      refine eb_lload (pc := 7) (i := 4) rfl rfl ?_
      refine eb_lcmp (pc := 9) rfl ?_
      refine eb_if_gt (pc := 10) (tgt := 17) rfl (by decide) (fun c6 => ?_) (fun c6 => ?_)
      · replace c6 := eb_lc_gt.mp c6
        refine eb_iconst (pc := 17) (n := 0) (v := 0) rfl rfl ?_
        refine eb_ireturn (pc := 18) rfl rfl (by decide) ?_
        change eb_Sn _ _ _ 29 _ _ _ _
        exact jj19 0 (eb_qf (fun z => (fun z => z c6) z.2)).symm
      · replace c6 := (fun hh => mt eb_lc_gt.mpr hh) c6
        refine eb_iconst (pc := 13) (n := 1) (v := 1) rfl rfl ?_
        refine eb_goto (pc := 14) (tgt := 18) rfl (by decide) ?_
        refine eb_ireturn (pc := 18) rfl rfl (by decide) ?_
        change eb_Sn _ _ _ 29 _ _ _ _
        exact jj19 1 (eb_qt (⟨c5, c6⟩)).symm
  · replace w := w.2 c4
    refine eb_aload_n (pc := 9) (n := 0) (i := 0) rfl rfl rfl ?_
    refine eb_iconst (pc := 10) (n := 2) (v := 2) rfl rfl ?_
    refine eb_ctV (pc := 11) (As := [.int 2]) (rest := []) rfl (by decide) rfl rfl (by decide) rfl (Nat.le_of_ble_eq_true rfl) ?_
    refine eb_Ct.mono w ?_
    rintro r h21 ⟨rfl, ko23, w⟩
    change eb_Sn _ _ _ 14 _ [] _ _
    refine eb_goto (pc := 14) (tgt := 37) rfl (by decide) ?_
    refine eb_aload_n (pc := 37) (n := 0) (i := 0) rfl rfl rfl ?_
    refine eb_getI (pc := 38) rfl rfl (by decide) (by decide) rfl ?_
    refine eb_istore_n (pc := 41) (n := 3) (i := 3) (ls2 := [(3, .int (eb_I h21 s_MO 10)), (0, .ref s_MO), (1, .int x1), (2, .int x2)]) rfl (Nat.le_of_ble_eq_true rfl) rfl rfl ?_
    refine eb_aload_n (pc := 42) (n := 0) (i := 0) rfl rfl rfl ?_
    refine eb_getI (pc := 43) rfl rfl (by decide) (by decide) rfl ?_
    refine eb_if_ne (pc := 46) (tgt := 53) rfl (by decide) (fun c24 => ?_) (fun c24 => ?_)
    · replace w := w.1 c24
      refine eb_iload_n (pc := 53) (n := 3) (i := 3) rfl rfl rfl ?_
      exact eb_ireturn (pc := 54) rfl rfl rfl w
    · replace w := w.2 c24
      refine eb_aload_n (pc := 49) (n := 0) (i := 0) rfl rfl rfl ?_
      refine eb_ctV (pc := 50) (As := []) (rest := []) rfl (by decide) rfl rfl (by decide) rfl (Nat.le_of_ble_eq_true rfl) ?_
      refine eb_Ct.mono w ?_
      rintro r h25 ⟨rfl, ko27, w⟩
      change eb_Sn _ _ _ 53 _ [] _ _
      refine eb_iload_n (pc := 53) (n := 3) (i := 3) rfl rfl rfl ?_
      exact eb_ireturn (pc := 54) rfl rfl rfl w
theorem T_X11_takes {d : Nat} {h : eb_H} {Q : Option Value → eb_H → Prop} (x1 : Int32) (x2 : Int32)  (ko : eb_KO h) (w : eb_Ct d 166 [.ref s_MO, .int 23] h (fun r h1 => ∃ y2, r = some (.int y2) ∧ eb_KO h1 ∧ ((¬ y2 = 0 → (((¬ (((eb_I h1 s_MO 10).toInt64) < x1.toInt64)) ∧ (¬ (x2.toInt64 < ((eb_I h1 s_MO 10).toInt64))) → ((¬ (eb_I h1 s_MO 11) = 0 → Q (some (.int (eb_I h1 s_MO 10))) h1) ∧ ((eb_I h1 s_MO 11) = 0 → eb_Ct d 164 [.ref s_MO] h1 (fun r h9 => r = none ∧ eb_KO h9 ∧ Q (some (.int (eb_I h1 s_MO 10))) h9)))) ∧ (¬ ((¬ (((eb_I h1 s_MO 10).toInt64) < x1.toInt64)) ∧ (¬ (x2.toInt64 < ((eb_I h1 s_MO 10).toInt64)))) → eb_Ct d 165 [.ref s_MO, .int 3] h1 (fun r h12 => r = none ∧ eb_KO h12 ∧ ((¬ (eb_I h12 s_MO 11) = 0 → Q (some (.int (eb_I h12 s_MO 10))) h12) ∧ ((eb_I h12 s_MO 11) = 0 → eb_Ct d 164 [.ref s_MO] h12 (fun r h16 => r = none ∧ eb_KO h16 ∧ Q (some (.int (eb_I h12 s_MO 10))) h16))))))) ∧ (y2 = 0 → eb_Ct d 165 [.ref s_MO, .int 2] h1 (fun r h21 => r = none ∧ eb_KO h21 ∧ ((¬ (eb_I h21 s_MO 11) = 0 → Q (some (.int (eb_I h21 s_MO 10))) h21) ∧ ((eb_I h21 s_MO 11) = 0 → eb_Ct d 164 [.ref s_MO] h21 (fun r h25 => r = none ∧ eb_KO h25 ∧ Q (some (.int (eb_I h21 s_MO 10))) h25)))))))) : eb_Ct (d + 1) 168 [.ref s_MO, .int x1, .int x2] h Q :=
  eb_bodyQ (by decide) ok_X11_takes (Nat.le_of_ble_eq_true rfl) (b_X11_takes_0 (h0 := h) x1 x2  ko w)
theorem b_X11_isIn_0 {d : Nat} {h0 h : eb_H} {Q : Option Value → eb_H → Prop} (x0 : Int64) (x2 : Int32)  (ko : eb_KO h) (w : Q (some (.int (eb_q (((x0 >>> (x2.toInt64 &&& 63)) &&& 1) = 1)))) h) : eb_Sn d m_X11_isIn h0 0 [(0, .long x0), (2, .int x2)] [] h Q := by
  refine eb_lload_n (pc := 0) (n := 0) (i := 0) rfl rfl rfl ?_
  refine eb_iload_n (pc := 1) (n := 2) (i := 2) rfl rfl rfl ?_
  refine eb_lshr (pc := 2) rfl ?_
  refine eb_lconst (pc := 3) (n := 1) (v := 1) rfl rfl ?_
  refine eb_land (pc := 4) rfl ?_
  refine eb_lconst (pc := 5) (n := 1) (v := 1) rfl rfl ?_
  refine eb_lcmp (pc := 6) rfl ?_
  refine eb_joinI (pc2 := 15) (ls2 := [(0, .long x0), (2, .int x2)]) (st2 := []) (v := eb_q (((x0 >>> (x2.toInt64 &&& 63)) &&& 1) = 1)) ?_ (fun jj2 => ?_)
  · exact eb_ireturn (pc := 15) rfl rfl eb_qn w
  refine eb_if_ne (pc := 7) (tgt := 14) rfl (by decide) (fun c1 => ?_) (fun c1 => ?_)
  · replace c1 := eb_lc_ne.mp c1
    refine eb_iconst (pc := 14) (n := 0) (v := 0) rfl rfl ?_
    exact jj2 0 (eb_qf c1).symm
  · replace c1 := eb_lc_eq.mp c1
    refine eb_iconst (pc := 10) (n := 1) (v := 1) rfl rfl ?_
    refine eb_goto (pc := 11) (tgt := 15) rfl (by decide) ?_
    exact jj2 1 (eb_qt c1).symm
theorem T_X11_isIn {d : Nat} {h : eb_H} {Q : Option Value → eb_H → Prop} (x0 : Int64) (x2 : Int32)  (ko : eb_KO h) (w : Q (some (.int (eb_q (((x0 >>> (x2.toInt64 &&& 63)) &&& 1) = 1)))) h) : eb_Ct d 169 [.long x0, .int x2] h Q :=
  eb_bodyQ (by decide) ok_X11_isIn (Nat.le_of_ble_eq_true rfl) (b_X11_isIn_0 (h0 := h) x0 x2  ko w)
theorem b_X11_wordOf_0 {d : Nat} {h0 h : eb_H} {Q : Option Value → eb_H → Prop} (x1 : Int32)  (ko : eb_KO h) (w : ((x1 = 3 → Q (some (.int (if (eb_I h s_MO 15) = (1 : Int32) then 5 else (-1) : Int32))) h) ∧ (x1 = 6 → Q (some (.int 3)) h) ∧ (x1 = 10 → Q (some (.int 0)) h) ∧ (x1 = 11 → Q (some (.int 1)) h) ∧ (x1 = 12 → Q (some (.int 2)) h) ∧ (x1 = 13 → Q (some (.int 4)) h) ∧ (¬ x1 = 3 → ¬ x1 = 6 → ¬ x1 = 10 → ¬ x1 = 11 → ¬ x1 = 12 → ¬ x1 = 13 → Q (some (.int (-1))) h))) : eb_Sn d m_X11_wordOf h0 0 [(0, .ref s_MO), (1, .int x1)] [] h Q := by
  refine eb_iload_n (pc := 0) (n := 1) (i := 1) rfl rfl rfl ?_
  by_cases s0 : x1 = 3
  · refine eb_tableIn (pc := 1) (j := 0) (tgt := 70) (by rw [s0]; decide) (by decide) (by rfl) (by decide) rfl ?_
    replace w := w.1 s0
    refine eb_aload_n (pc := 70) (n := 0) (i := 0) rfl rfl rfl ?_
    refine eb_getI (pc := 71) rfl rfl (by decide) (by decide) rfl ?_
    refine eb_iconst (pc := 74) (n := 1) (v := 1) rfl rfl ?_
    refine eb_joinI (pc2 := 83) (ls2 := [(0, .ref s_MO), (1, .int x1)]) (st2 := []) (v := (if (eb_I h s_MO 15) = (1 : Int32) then 5 else (-1) : Int32)) ?_ (fun jj2 => ?_)
    · exact eb_ireturn (pc := 83) rfl rfl rfl w
    refine eb_icmp_ne (pc := 75) (tgt := 82) rfl (by decide) (fun c1 => ?_) (fun c1 => ?_)
    · refine eb_iconst (pc := 82) (n := -1) (v := (-1)) rfl rfl ?_
      exact jj2 _ (by simp only [if_neg c1])
    · refine eb_iconst (pc := 78) (n := 5) (v := 5) rfl rfl ?_
      refine eb_goto (pc := 79) (tgt := 83) rfl (by decide) ?_
      exact jj2 _ (by simp only [if_pos c1])
  by_cases s1 : x1 = 4
  · refine eb_tableIn (pc := 1) (j := 1) (tgt := 84) (by rw [s1]; decide) (by decide) (by rfl) (by decide) rfl ?_
    replace w := w.2.2.2.2.2.2 (by rw [s1]; decide) (by rw [s1]; decide) (by rw [s1]; decide) (by rw [s1]; decide) (by rw [s1]; decide) (by rw [s1]; decide)
    refine eb_iconst (pc := 84) (n := -1) (v := (-1)) rfl rfl ?_
    exact eb_ireturn (pc := 85) rfl rfl rfl w
  by_cases s2 : x1 = 5
  · refine eb_tableIn (pc := 1) (j := 2) (tgt := 84) (by rw [s2]; decide) (by decide) (by rfl) (by decide) rfl ?_
    replace w := w.2.2.2.2.2.2 (by rw [s2]; decide) (by rw [s2]; decide) (by rw [s2]; decide) (by rw [s2]; decide) (by rw [s2]; decide) (by rw [s2]; decide)
    refine eb_iconst (pc := 84) (n := -1) (v := (-1)) rfl rfl ?_
    exact eb_ireturn (pc := 85) rfl rfl rfl w
  by_cases s3 : x1 = 6
  · refine eb_tableIn (pc := 1) (j := 3) (tgt := 66) (by rw [s3]; decide) (by decide) (by rfl) (by decide) rfl ?_
    replace w := w.2.1 s3
    refine eb_iconst (pc := 66) (n := 3) (v := 3) rfl rfl ?_
    exact eb_ireturn (pc := 67) rfl rfl rfl w
  by_cases s4 : x1 = 7
  · refine eb_tableIn (pc := 1) (j := 4) (tgt := 84) (by rw [s4]; decide) (by decide) (by rfl) (by decide) rfl ?_
    replace w := w.2.2.2.2.2.2 (by rw [s4]; decide) (by rw [s4]; decide) (by rw [s4]; decide) (by rw [s4]; decide) (by rw [s4]; decide) (by rw [s4]; decide)
    refine eb_iconst (pc := 84) (n := -1) (v := (-1)) rfl rfl ?_
    exact eb_ireturn (pc := 85) rfl rfl rfl w
  by_cases s5 : x1 = 8
  · refine eb_tableIn (pc := 1) (j := 5) (tgt := 84) (by rw [s5]; decide) (by decide) (by rfl) (by decide) rfl ?_
    replace w := w.2.2.2.2.2.2 (by rw [s5]; decide) (by rw [s5]; decide) (by rw [s5]; decide) (by rw [s5]; decide) (by rw [s5]; decide) (by rw [s5]; decide)
    refine eb_iconst (pc := 84) (n := -1) (v := (-1)) rfl rfl ?_
    exact eb_ireturn (pc := 85) rfl rfl rfl w
  by_cases s6 : x1 = 9
  · refine eb_tableIn (pc := 1) (j := 6) (tgt := 84) (by rw [s6]; decide) (by decide) (by rfl) (by decide) rfl ?_
    replace w := w.2.2.2.2.2.2 (by rw [s6]; decide) (by rw [s6]; decide) (by rw [s6]; decide) (by rw [s6]; decide) (by rw [s6]; decide) (by rw [s6]; decide)
    refine eb_iconst (pc := 84) (n := -1) (v := (-1)) rfl rfl ?_
    exact eb_ireturn (pc := 85) rfl rfl rfl w
  by_cases s7 : x1 = 10
  · refine eb_tableIn (pc := 1) (j := 7) (tgt := 60) (by rw [s7]; decide) (by decide) (by rfl) (by decide) rfl ?_
    replace w := w.2.2.1 s7
    refine eb_iconst (pc := 60) (n := 0) (v := 0) rfl rfl ?_
    exact eb_ireturn (pc := 61) rfl rfl rfl w
  by_cases s8 : x1 = 11
  · refine eb_tableIn (pc := 1) (j := 8) (tgt := 62) (by rw [s8]; decide) (by decide) (by rfl) (by decide) rfl ?_
    replace w := w.2.2.2.1 s8
    refine eb_iconst (pc := 62) (n := 1) (v := 1) rfl rfl ?_
    exact eb_ireturn (pc := 63) rfl rfl rfl w
  by_cases s9 : x1 = 12
  · refine eb_tableIn (pc := 1) (j := 9) (tgt := 64) (by rw [s9]; decide) (by decide) (by rfl) (by decide) rfl ?_
    replace w := w.2.2.2.2.1 s9
    refine eb_iconst (pc := 64) (n := 2) (v := 2) rfl rfl ?_
    exact eb_ireturn (pc := 65) rfl rfl rfl w
  by_cases s10 : x1 = 13
  · refine eb_tableIn (pc := 1) (j := 10) (tgt := 68) (by rw [s10]; decide) (by decide) (by rfl) (by decide) rfl ?_
    replace w := w.2.2.2.2.2.1 s10
    refine eb_iconst (pc := 68) (n := 4) (v := 4) rfl rfl ?_
    exact eb_ireturn (pc := 69) rfl rfl rfl w
  refine eb_tableOut (pc := 1) (tgt := 84) (by have z0 := lv_neT (a := 3) s0 (by decide); have z1 := lv_neT (a := 4) s1 (by decide); have z2 := lv_neT (a := 5) s2 (by decide); have z3 := lv_neT (a := 6) s3 (by decide); have z4 := lv_neT (a := 7) s4 (by decide); have z5 := lv_neT (a := 8) s5 (by decide); have z6 := lv_neT (a := 9) s6 (by decide); have z7 := lv_neT (a := 10) s7 (by decide); have z8 := lv_neT (a := 11) s8 (by decide); have z9 := lv_neT (a := 12) s9 (by decide); have z10 := lv_neT (a := 13) s10 (by decide); omega) (by decide) rfl ?_
  replace w := w.2.2.2.2.2.2 s0 s3 s7 s8 s9 s10
  refine eb_iconst (pc := 84) (n := -1) (v := (-1)) rfl rfl ?_
  exact eb_ireturn (pc := 85) rfl rfl rfl w
theorem T_X11_wordOf {d : Nat} {h : eb_H} {Q : Option Value → eb_H → Prop} (x1 : Int32)  (ko : eb_KO h) (w : ((x1 = 3 → Q (some (.int (if (eb_I h s_MO 15) = (1 : Int32) then 5 else (-1) : Int32))) h) ∧ (x1 = 6 → Q (some (.int 3)) h) ∧ (x1 = 10 → Q (some (.int 0)) h) ∧ (x1 = 11 → Q (some (.int 1)) h) ∧ (x1 = 12 → Q (some (.int 2)) h) ∧ (x1 = 13 → Q (some (.int 4)) h) ∧ (¬ x1 = 3 → ¬ x1 = 6 → ¬ x1 = 10 → ¬ x1 = 11 → ¬ x1 = 12 → ¬ x1 = 13 → Q (some (.int (-1))) h))) : eb_Ct d 170 [.ref s_MO, .int x1] h Q :=
  eb_bodyQ (by decide) ok_X11_wordOf (Nat.le_of_ble_eq_true rfl) (b_X11_wordOf_0 (h0 := h) x1  ko w)
