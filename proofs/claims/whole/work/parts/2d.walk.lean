theorem b_X7_sortAt_0 {d : Nat} {h0 h : eb_H} {Q : Option Value → eb_H → Prop} (x1 : Int32)  (ko : eb_KO h) (w : ((x1 < 0 → Q (some (.int 0)) h) ∧ (¬ (x1 < 0) → (((eb_I h s_tape 2) ≤ x1 → Q (some (.int 0)) h) ∧ (¬ ((eb_I h s_tape 2) ≤ x1) → ((x1 < (900 : Int32) → (vp_in x1 900) ∧ ((((((eb_I h s_tape_text x1.toNatClampNeg) &&& 255).toUInt32 % 65536).toInt32) = (10 : Int32) → Q (some (.int 4)) h) ∧ (¬ (((((eb_I h s_tape_text x1.toNatClampNeg) &&& 255).toUInt32 % 65536).toInt32) = (10 : Int32)) → ((¬ ((((eb_I h s_tape_text x1.toNatClampNeg) &&& 255).toUInt32 % 65536).toInt32) = (32 : Int32) → ((((((eb_I h s_tape_text x1.toNatClampNeg) &&& 255).toUInt32 % 65536).toInt32) < (97 : Int32) → ((((((eb_I h s_tape_text x1.toNatClampNeg) &&& 255).toUInt32 % 65536).toInt32) < (48 : Int32) → eb_Ct d 291 [.ref (eb_mk 3 21 0), .int ((((eb_I h s_tape_text x1.toNatClampNeg) &&& 255).toUInt32 % 65536).toInt32)] h (fun r h9 => ∃ y10, r = some (.int y10) ∧ eb_KO h9 ∧ Q (some (.int (if y10 < 0 then 5 else 3 : Int32))) h9)) ∧ (¬ (((((eb_I h s_tape_text x1.toNatClampNeg) &&& 255).toUInt32 % 65536).toInt32) < (48 : Int32)) → (((57 : Int32) < ((((eb_I h s_tape_text x1.toNatClampNeg) &&& 255).toUInt32 % 65536).toInt32) → eb_Ct d 291 [.ref (eb_mk 3 21 0), .int ((((eb_I h s_tape_text x1.toNatClampNeg) &&& 255).toUInt32 % 65536).toInt32)] h (fun r h15 => ∃ y16, r = some (.int y16) ∧ eb_KO h15 ∧ Q (some (.int (if y16 < 0 then 5 else 3 : Int32))) h15)) ∧ (¬ ((57 : Int32) < ((((eb_I h s_tape_text x1.toNatClampNeg) &&& 255).toUInt32 % 65536).toInt32)) → Q (some (.int 2)) h))))) ∧ (¬ (((((eb_I h s_tape_text x1.toNatClampNeg) &&& 255).toUInt32 % 65536).toInt32) < (97 : Int32)) → (((122 : Int32) < ((((eb_I h s_tape_text x1.toNatClampNeg) &&& 255).toUInt32 % 65536).toInt32) → ((((((eb_I h s_tape_text x1.toNatClampNeg) &&& 255).toUInt32 % 65536).toInt32) < (48 : Int32) → eb_Ct d 291 [.ref (eb_mk 3 21 0), .int ((((eb_I h s_tape_text x1.toNatClampNeg) &&& 255).toUInt32 % 65536).toInt32)] h (fun r h22 => ∃ y23, r = some (.int y23) ∧ eb_KO h22 ∧ Q (some (.int (if y23 < 0 then 5 else 3 : Int32))) h22)) ∧ (¬ (((((eb_I h s_tape_text x1.toNatClampNeg) &&& 255).toUInt32 % 65536).toInt32) < (48 : Int32)) → (((57 : Int32) < ((((eb_I h s_tape_text x1.toNatClampNeg) &&& 255).toUInt32 % 65536).toInt32) → eb_Ct d 291 [.ref (eb_mk 3 21 0), .int ((((eb_I h s_tape_text x1.toNatClampNeg) &&& 255).toUInt32 % 65536).toInt32)] h (fun r h28 => ∃ y29, r = some (.int y29) ∧ eb_KO h28 ∧ Q (some (.int (if y29 < 0 then 5 else 3 : Int32))) h28)) ∧ (¬ ((57 : Int32) < ((((eb_I h s_tape_text x1.toNatClampNeg) &&& 255).toUInt32 % 65536).toInt32)) → Q (some (.int 2)) h))))) ∧ (¬ ((122 : Int32) < ((((eb_I h s_tape_text x1.toNatClampNeg) &&& 255).toUInt32 % 65536).toInt32)) → Q (some (.int 1)) h))))) ∧ (((((eb_I h s_tape_text x1.toNatClampNeg) &&& 255).toUInt32 % 65536).toInt32) = (32 : Int32) → Q (some (.int 4)) h))))) ∧ (¬ (x1 < (900 : Int32)) → Q (some (.int 0)) h))))))) : eb_Sn (d + 1) m_X7_sortAt h0 0 [(0, .ref s_tape), (1, .int x1)] [] h Q := by
  refine eb_iload_n (pc := 0) (n := 1) (i := 1) rfl rfl rfl ?_
  refine eb_if_lt (pc := 1) (tgt := 21) rfl (by decide) (fun c1 => ?_) (fun c1 => ?_)
  · replace w := w.1 c1
    refine eb_iconst (pc := 21) (n := 0) (v := 0) rfl rfl ?_
    exact eb_ireturn (pc := 22) rfl rfl rfl w
  · replace w := w.2 c1
    refine eb_iload_n (pc := 4) (n := 1) (i := 1) rfl rfl rfl ?_
    refine eb_aload_n (pc := 5) (n := 0) (i := 0) rfl rfl rfl ?_
    refine eb_getI (pc := 6) rfl rfl (by decide) (by decide) rfl ?_
    refine eb_icmp_ge (pc := 9) (tgt := 21) rfl (by decide) (fun c2 => ?_) (fun c2 => ?_)
    · replace w := w.1 c2
      refine eb_iconst (pc := 21) (n := 0) (v := 0) rfl rfl ?_
      exact eb_ireturn (pc := 22) rfl rfl rfl w
    · replace w := w.2 c2
      refine eb_iload_n (pc := 12) (n := 1) (i := 1) rfl rfl rfl ?_
      refine eb_aload_n (pc := 13) (n := 0) (i := 0) rfl rfl rfl ?_
      refine eb_getR (pc := 14) rfl rfl (by decide) (by decide) rfl (ko_s_tape_0 ko) ?_
      refine eb_alen (pc := 17) (v := 900) rfl (by decide) (by decide) rfl ?_
      refine eb_icmp_lt (pc := 18) (tgt := 23) rfl (by decide) (fun c3 => ?_) (fun c3 => ?_)
      · replace w := w.1 c3
        refine eb_aload_n (pc := 23) (n := 0) (i := 0) rfl rfl rfl ?_
        refine eb_getR (pc := 24) rfl rfl (by decide) (by decide) rfl (ko_s_tape_0 ko) ?_
        refine eb_iload_n (pc := 27) (n := 1) (i := 1) rfl rfl rfl ?_
        obtain ⟨c4, w⟩ := w
        refine eb_baload (pc := 28) rfl rfl c4 ?_
        refine eb_sipush (pc := 29) (n := 255) (v := 255) rfl rfl ?_
        refine eb_iand (pc := 32) rfl ?_
        refine eb_i2c (pc := 33) rfl ?_
        refine eb_istore_n (pc := 34) (n := 2) (i := 2) (ls2 := [(2, .int ((((eb_I h s_tape_text x1.toNatClampNeg) &&& 255).toUInt32 % 65536).toInt32)), (0, .ref s_tape), (1, .int x1)]) rfl (Nat.le_of_ble_eq_true rfl) rfl rfl ?_
        refine eb_iload_n (pc := 35) (n := 2) (i := 2) rfl rfl rfl ?_
        refine eb_bipush (pc := 36) (n := 10) (v := 10) rfl rfl ?_
        refine eb_icmp_eq (pc := 38) (tgt := 47) rfl (by decide) (fun c5 => ?_) (fun c5 => ?_)
        · replace w := w.1 c5
          refine eb_iconst (pc := 47) (n := 4) (v := 4) rfl rfl ?_
          exact eb_ireturn (pc := 48) rfl rfl rfl w
        · replace w := w.2 c5
          refine eb_iload_n (pc := 41) (n := 2) (i := 2) rfl rfl rfl ?_
          refine eb_bipush (pc := 42) (n := 32) (v := 32) rfl rfl ?_
          refine eb_icmp_ne (pc := 44) (tgt := 49) rfl (by decide) (fun c6 => ?_) (fun c6 => ?_)
          · replace w := w.1 c6
            refine eb_iload_n (pc := 49) (n := 2) (i := 2) rfl rfl rfl ?_
            refine eb_bipush (pc := 50) (n := 97) (v := 97) rfl rfl ?_
            refine eb_icmp_lt (pc := 52) (tgt := 63) rfl (by decide) (fun c7 => ?_) (fun c7 => ?_)
            · replace w := w.1 c7
              refine eb_iload_n (pc := 63) (n := 2) (i := 2) rfl rfl rfl ?_
              refine eb_bipush (pc := 64) (n := 48) (v := 48) rfl rfl ?_
              refine eb_icmp_lt (pc := 66) (tgt := 77) rfl (by decide) (fun c8 => ?_) (fun c8 => ?_)
              · replace w := w.1 c8
                refine eb_ldcS (pc := 77) (a := 3) (i := eb_mk 3 21 0) rfl rfl rfl ?_
                refine eb_iload_n (pc := 79) (n := 2) (i := 2) rfl rfl rfl ?_
                refine eb_ctT (pc := 80) (i := 3) (As := [.int ((((eb_I h s_tape_text x1.toNatClampNeg) &&& 255).toUInt32 % 65536).toInt32)]) (rest := []) rfl (by decide) rfl (by decide) rfl rfl (Nat.le_of_ble_eq_true rfl) ?_
                refine eb_Ct.mono w ?_
                rintro r h9 ⟨y10, rfl, ko11, w⟩
                change eb_Sn _ _ _ 83 _ [.int y10] _ _
                have jj13 : eb_Sn (d + 1) m_X7_sortAt h0 91 [(2, .int ((((eb_I h s_tape_text x1.toNatClampNeg) &&& 255).toUInt32 % 65536).toInt32)), (0, .ref s_tape), (1, .int x1)] [.int (if y10 < 0 then 5 else 3 : Int32)] h9 Q := by
                  exact eb_ireturn (pc := 91) rfl rfl rfl w
                refine eb_if_lt (pc := 83) (tgt := 90) rfl (by decide) (fun c12 => ?_) (fun c12 => ?_)
                · refine eb_iconst (pc := 90) (n := 5) (v := 5) rfl rfl ?_
                  simp only [if_pos c12] at jj13 ⊢
                  exact jj13
                · refine eb_iconst (pc := 86) (n := 3) (v := 3) rfl rfl ?_
                  refine eb_goto (pc := 87) (tgt := 91) rfl (by decide) ?_
                  simp only [if_neg c12] at jj13 ⊢
                  exact jj13
              · replace w := w.2 c8
                refine eb_iload_n (pc := 69) (n := 2) (i := 2) rfl rfl rfl ?_
                refine eb_bipush (pc := 70) (n := 57) (v := 57) rfl rfl ?_
                refine eb_icmp_gt (pc := 72) (tgt := 77) rfl (by decide) (fun c14 => ?_) (fun c14 => ?_)
                · replace w := w.1 c14
                  refine eb_ldcS (pc := 77) (a := 3) (i := eb_mk 3 21 0) rfl rfl rfl ?_
                  refine eb_iload_n (pc := 79) (n := 2) (i := 2) rfl rfl rfl ?_
                  refine eb_ctT (pc := 80) (i := 3) (As := [.int ((((eb_I h s_tape_text x1.toNatClampNeg) &&& 255).toUInt32 % 65536).toInt32)]) (rest := []) rfl (by decide) rfl (by decide) rfl rfl (Nat.le_of_ble_eq_true rfl) ?_
                  refine eb_Ct.mono w ?_
                  rintro r h15 ⟨y16, rfl, ko17, w⟩
                  change eb_Sn _ _ _ 83 _ [.int y16] _ _
                  have jj19 : eb_Sn (d + 1) m_X7_sortAt h0 91 [(2, .int ((((eb_I h s_tape_text x1.toNatClampNeg) &&& 255).toUInt32 % 65536).toInt32)), (0, .ref s_tape), (1, .int x1)] [.int (if y16 < 0 then 5 else 3 : Int32)] h15 Q := by
                    exact eb_ireturn (pc := 91) rfl rfl rfl w
                  refine eb_if_lt (pc := 83) (tgt := 90) rfl (by decide) (fun c18 => ?_) (fun c18 => ?_)
                  · refine eb_iconst (pc := 90) (n := 5) (v := 5) rfl rfl ?_
                    simp only [if_pos c18] at jj19 ⊢
                    exact jj19
                  · refine eb_iconst (pc := 86) (n := 3) (v := 3) rfl rfl ?_
                    refine eb_goto (pc := 87) (tgt := 91) rfl (by decide) ?_
                    simp only [if_neg c18] at jj19 ⊢
                    exact jj19
                · replace w := w.2 c14
                  refine eb_iconst (pc := 75) (n := 2) (v := 2) rfl rfl ?_
                  exact eb_ireturn (pc := 76) rfl rfl rfl w
            · replace w := w.2 c7
              refine eb_iload_n (pc := 55) (n := 2) (i := 2) rfl rfl rfl ?_
              refine eb_bipush (pc := 56) (n := 122) (v := 122) rfl rfl ?_
              refine eb_icmp_gt (pc := 58) (tgt := 63) rfl (by decide) (fun c20 => ?_) (fun c20 => ?_)
              · replace w := w.1 c20
                refine eb_iload_n (pc := 63) (n := 2) (i := 2) rfl rfl rfl ?_
                refine eb_bipush (pc := 64) (n := 48) (v := 48) rfl rfl ?_
                refine eb_icmp_lt (pc := 66) (tgt := 77) rfl (by decide) (fun c21 => ?_) (fun c21 => ?_)
                · replace w := w.1 c21
                  refine eb_ldcS (pc := 77) (a := 3) (i := eb_mk 3 21 0) rfl rfl rfl ?_
                  refine eb_iload_n (pc := 79) (n := 2) (i := 2) rfl rfl rfl ?_
                  refine eb_ctT (pc := 80) (i := 3) (As := [.int ((((eb_I h s_tape_text x1.toNatClampNeg) &&& 255).toUInt32 % 65536).toInt32)]) (rest := []) rfl (by decide) rfl (by decide) rfl rfl (Nat.le_of_ble_eq_true rfl) ?_
                  refine eb_Ct.mono w ?_
                  rintro r h22 ⟨y23, rfl, ko24, w⟩
                  change eb_Sn _ _ _ 83 _ [.int y23] _ _
                  have jj26 : eb_Sn (d + 1) m_X7_sortAt h0 91 [(2, .int ((((eb_I h s_tape_text x1.toNatClampNeg) &&& 255).toUInt32 % 65536).toInt32)), (0, .ref s_tape), (1, .int x1)] [.int (if y23 < 0 then 5 else 3 : Int32)] h22 Q := by
                    exact eb_ireturn (pc := 91) rfl rfl rfl w
                  refine eb_if_lt (pc := 83) (tgt := 90) rfl (by decide) (fun c25 => ?_) (fun c25 => ?_)
                  · refine eb_iconst (pc := 90) (n := 5) (v := 5) rfl rfl ?_
                    simp only [if_pos c25] at jj26 ⊢
                    exact jj26
                  · refine eb_iconst (pc := 86) (n := 3) (v := 3) rfl rfl ?_
                    refine eb_goto (pc := 87) (tgt := 91) rfl (by decide) ?_
                    simp only [if_neg c25] at jj26 ⊢
                    exact jj26
                · replace w := w.2 c21
                  refine eb_iload_n (pc := 69) (n := 2) (i := 2) rfl rfl rfl ?_
                  refine eb_bipush (pc := 70) (n := 57) (v := 57) rfl rfl ?_
                  refine eb_icmp_gt (pc := 72) (tgt := 77) rfl (by decide) (fun c27 => ?_) (fun c27 => ?_)
                  · replace w := w.1 c27
                    refine eb_ldcS (pc := 77) (a := 3) (i := eb_mk 3 21 0) rfl rfl rfl ?_
                    refine eb_iload_n (pc := 79) (n := 2) (i := 2) rfl rfl rfl ?_
                    refine eb_ctT (pc := 80) (i := 3) (As := [.int ((((eb_I h s_tape_text x1.toNatClampNeg) &&& 255).toUInt32 % 65536).toInt32)]) (rest := []) rfl (by decide) rfl (by decide) rfl rfl (Nat.le_of_ble_eq_true rfl) ?_
                    refine eb_Ct.mono w ?_
                    rintro r h28 ⟨y29, rfl, ko30, w⟩
                    change eb_Sn _ _ _ 83 _ [.int y29] _ _
                    have jj32 : eb_Sn (d + 1) m_X7_sortAt h0 91 [(2, .int ((((eb_I h s_tape_text x1.toNatClampNeg) &&& 255).toUInt32 % 65536).toInt32)), (0, .ref s_tape), (1, .int x1)] [.int (if y29 < 0 then 5 else 3 : Int32)] h28 Q := by
                      exact eb_ireturn (pc := 91) rfl rfl rfl w
                    refine eb_if_lt (pc := 83) (tgt := 90) rfl (by decide) (fun c31 => ?_) (fun c31 => ?_)
                    · refine eb_iconst (pc := 90) (n := 5) (v := 5) rfl rfl ?_
                      simp only [if_pos c31] at jj32 ⊢
                      exact jj32
                    · refine eb_iconst (pc := 86) (n := 3) (v := 3) rfl rfl ?_
                      refine eb_goto (pc := 87) (tgt := 91) rfl (by decide) ?_
                      simp only [if_neg c31] at jj32 ⊢
                      exact jj32
                  · replace w := w.2 c27
                    refine eb_iconst (pc := 75) (n := 2) (v := 2) rfl rfl ?_
                    exact eb_ireturn (pc := 76) rfl rfl rfl w
              · replace w := w.2 c20
                refine eb_iconst (pc := 61) (n := 1) (v := 1) rfl rfl ?_
                exact eb_ireturn (pc := 62) rfl rfl rfl w
          · replace w := w.2 c6
            refine eb_iconst (pc := 47) (n := 4) (v := 4) rfl rfl ?_
            exact eb_ireturn (pc := 48) rfl rfl rfl w
      · replace w := w.2 c3
        refine eb_iconst (pc := 21) (n := 0) (v := 0) rfl rfl ?_
        exact eb_ireturn (pc := 22) rfl rfl rfl w
theorem T_X7_sortAt {d : Nat} {h : eb_H} {Q : Option Value → eb_H → Prop} (x1 : Int32)  (ko : eb_KO h) (w : ((x1 < 0 → Q (some (.int 0)) h) ∧ (¬ (x1 < 0) → (((eb_I h s_tape 2) ≤ x1 → Q (some (.int 0)) h) ∧ (¬ ((eb_I h s_tape 2) ≤ x1) → ((x1 < (900 : Int32) → (vp_in x1 900) ∧ ((((((eb_I h s_tape_text x1.toNatClampNeg) &&& 255).toUInt32 % 65536).toInt32) = (10 : Int32) → Q (some (.int 4)) h) ∧ (¬ (((((eb_I h s_tape_text x1.toNatClampNeg) &&& 255).toUInt32 % 65536).toInt32) = (10 : Int32)) → ((¬ ((((eb_I h s_tape_text x1.toNatClampNeg) &&& 255).toUInt32 % 65536).toInt32) = (32 : Int32) → ((((((eb_I h s_tape_text x1.toNatClampNeg) &&& 255).toUInt32 % 65536).toInt32) < (97 : Int32) → ((((((eb_I h s_tape_text x1.toNatClampNeg) &&& 255).toUInt32 % 65536).toInt32) < (48 : Int32) → eb_Ct d 291 [.ref (eb_mk 3 21 0), .int ((((eb_I h s_tape_text x1.toNatClampNeg) &&& 255).toUInt32 % 65536).toInt32)] h (fun r h9 => ∃ y10, r = some (.int y10) ∧ eb_KO h9 ∧ Q (some (.int (if y10 < 0 then 5 else 3 : Int32))) h9)) ∧ (¬ (((((eb_I h s_tape_text x1.toNatClampNeg) &&& 255).toUInt32 % 65536).toInt32) < (48 : Int32)) → (((57 : Int32) < ((((eb_I h s_tape_text x1.toNatClampNeg) &&& 255).toUInt32 % 65536).toInt32) → eb_Ct d 291 [.ref (eb_mk 3 21 0), .int ((((eb_I h s_tape_text x1.toNatClampNeg) &&& 255).toUInt32 % 65536).toInt32)] h (fun r h15 => ∃ y16, r = some (.int y16) ∧ eb_KO h15 ∧ Q (some (.int (if y16 < 0 then 5 else 3 : Int32))) h15)) ∧ (¬ ((57 : Int32) < ((((eb_I h s_tape_text x1.toNatClampNeg) &&& 255).toUInt32 % 65536).toInt32)) → Q (some (.int 2)) h))))) ∧ (¬ (((((eb_I h s_tape_text x1.toNatClampNeg) &&& 255).toUInt32 % 65536).toInt32) < (97 : Int32)) → (((122 : Int32) < ((((eb_I h s_tape_text x1.toNatClampNeg) &&& 255).toUInt32 % 65536).toInt32) → ((((((eb_I h s_tape_text x1.toNatClampNeg) &&& 255).toUInt32 % 65536).toInt32) < (48 : Int32) → eb_Ct d 291 [.ref (eb_mk 3 21 0), .int ((((eb_I h s_tape_text x1.toNatClampNeg) &&& 255).toUInt32 % 65536).toInt32)] h (fun r h22 => ∃ y23, r = some (.int y23) ∧ eb_KO h22 ∧ Q (some (.int (if y23 < 0 then 5 else 3 : Int32))) h22)) ∧ (¬ (((((eb_I h s_tape_text x1.toNatClampNeg) &&& 255).toUInt32 % 65536).toInt32) < (48 : Int32)) → (((57 : Int32) < ((((eb_I h s_tape_text x1.toNatClampNeg) &&& 255).toUInt32 % 65536).toInt32) → eb_Ct d 291 [.ref (eb_mk 3 21 0), .int ((((eb_I h s_tape_text x1.toNatClampNeg) &&& 255).toUInt32 % 65536).toInt32)] h (fun r h28 => ∃ y29, r = some (.int y29) ∧ eb_KO h28 ∧ Q (some (.int (if y29 < 0 then 5 else 3 : Int32))) h28)) ∧ (¬ ((57 : Int32) < ((((eb_I h s_tape_text x1.toNatClampNeg) &&& 255).toUInt32 % 65536).toInt32)) → Q (some (.int 2)) h))))) ∧ (¬ ((122 : Int32) < ((((eb_I h s_tape_text x1.toNatClampNeg) &&& 255).toUInt32 % 65536).toInt32)) → Q (some (.int 1)) h))))) ∧ (((((eb_I h s_tape_text x1.toNatClampNeg) &&& 255).toUInt32 % 65536).toInt32) = (32 : Int32) → Q (some (.int 4)) h))))) ∧ (¬ (x1 < (900 : Int32)) → Q (some (.int 0)) h))))))) : eb_Ct (d + 1) 70 [.ref s_tape, .int x1] h Q :=
  eb_bodyQ (by decide) ok_X7_sortAt (Nat.le_of_ble_eq_true rfl) (b_X7_sortAt_0 (h0 := h) x1  ko w)
theorem b_X7_numberAtHand_0 {d : Nat} {h0 h : eb_H} {Q : Option Value → eb_H → Prop}   (ko : eb_KO h) (w : eb_Ct d 286 [.int (eb_I h s_tape 3), .int 0] h (fun r h1 => ∃ y2, r = some (.int y2) ∧ eb_KO h1 ∧ eb_Sn (d + 1) m_X7_numberAtHand h0 11 [(0, .ref s_tape), (1, .int 0), (2, .int y2)] [] h1 Q)) : eb_Sn (d + 1) m_X7_numberAtHand h0 0 [(0, .ref s_tape)] [] h Q := by
  refine eb_iconst (pc := 0) (n := 0) (v := 0) rfl rfl ?_
  refine eb_istore_n (pc := 1) (n := 1) (i := 1) (ls2 := [(1, .int 0), (0, .ref s_tape)]) rfl (Nat.le_of_ble_eq_true rfl) rfl rfl ?_
  refine eb_aload_n (pc := 2) (n := 0) (i := 0) rfl rfl rfl ?_
  refine eb_getI (pc := 3) rfl rfl (by decide) (by decide) rfl ?_
  refine eb_iconst (pc := 6) (n := 0) (v := 0) rfl rfl ?_
  refine eb_ctS (pc := 7) (As := [.int (eb_I h s_tape 3), .int 0]) (rest := []) rfl (by decide) (by decide) rfl rfl (Nat.le_of_ble_eq_true rfl) ?_
  refine eb_Ct.mono w ?_
  rintro r h1 ⟨y2, rfl, ko3, w⟩
  change eb_Sn _ _ _ 10 _ [.int y2] _ _
  refine eb_istore_n (pc := 10) (n := 2) (i := 2) (ls2 := [(2, .int y2), (1, .int 0), (0, .ref s_tape)]) rfl (Nat.le_of_ble_eq_true rfl) rfl rfl ?_
  exact eb_pick [2, 1, 0] rfl w
theorem b_X7_numberAtHand_11 {d : Nat} {h0 h : eb_H} {Q : Option Value → eb_H → Prop} (x1 : Int32) (x2 : Int32)  (ko : eb_KO h) (w : (((eb_I h s_tape 4) ≤ x2 → Q (some (.int x1)) h) ∧ (¬ ((eb_I h s_tape 4) ≤ x2) → (((900 : Int32) ≤ x2 → Q (some (.int x1)) h) ∧ (¬ ((900 : Int32) ≤ x2) → (vp_in x2 900) ∧ eb_Sn (d + 1) m_X7_numberAtHand h0 11 [(0, .ref s_tape), (1, .int ((((10 : Int32) * x1) + (eb_I h s_tape_text x2.toNatClampNeg)) - 48)), (2, .int (x2 + 1))] [] h Q))))) : eb_Sn (d + 1) m_X7_numberAtHand h0 11 [(0, .ref s_tape), (1, .int x1), (2, .int x2)] [] h Q := by
  refine eb_iload_n (pc := 11) (n := 2) (i := 2) rfl rfl rfl ?_
  refine eb_aload_n (pc := 12) (n := 0) (i := 0) rfl rfl rfl ?_
  refine eb_getI (pc := 13) rfl rfl (by decide) (by decide) rfl ?_
  refine eb_icmp_ge (pc := 16) (tgt := 49) rfl (by decide) (fun c1 => ?_) (fun c1 => ?_)
  · replace w := w.1 c1
    refine eb_iload_n (pc := 49) (n := 1) (i := 1) rfl rfl rfl ?_
    exact eb_ireturn (pc := 50) rfl rfl rfl w
  · replace w := w.2 c1
    refine eb_iload_n (pc := 19) (n := 2) (i := 2) rfl rfl rfl ?_
    refine eb_aload_n (pc := 20) (n := 0) (i := 0) rfl rfl rfl ?_
    refine eb_getR (pc := 21) rfl rfl (by decide) (by decide) rfl (ko_s_tape_0 ko) ?_
    refine eb_alen (pc := 24) (v := 900) rfl (by decide) (by decide) rfl ?_
    refine eb_icmp_ge (pc := 25) (tgt := 49) rfl (by decide) (fun c2 => ?_) (fun c2 => ?_)
    · replace w := w.1 c2
      refine eb_iload_n (pc := 49) (n := 1) (i := 1) rfl rfl rfl ?_
      exact eb_ireturn (pc := 50) rfl rfl rfl w
    · replace w := w.2 c2
      refine eb_bipush (pc := 28) (n := 10) (v := 10) rfl rfl ?_
      refine eb_iload_n (pc := 30) (n := 1) (i := 1) rfl rfl rfl ?_
      refine eb_imul (pc := 31) rfl ?_
      refine eb_aload_n (pc := 32) (n := 0) (i := 0) rfl rfl rfl ?_
      refine eb_getR (pc := 33) rfl rfl (by decide) (by decide) rfl (ko_s_tape_0 ko) ?_
      refine eb_iload_n (pc := 36) (n := 2) (i := 2) rfl rfl rfl ?_
      obtain ⟨c3, w⟩ := w
      refine eb_baload (pc := 37) rfl rfl c3 ?_
      refine eb_iadd (pc := 38) rfl ?_
      refine eb_bipush (pc := 39) (n := 48) (v := 48) rfl rfl ?_
      refine eb_isub (pc := 41) rfl ?_
      refine eb_istore_n (pc := 42) (n := 1) (i := 1) (ls2 := [(1, .int ((((10 : Int32) * x1) + (eb_I h s_tape_text x2.toNatClampNeg)) - 48)), (0, .ref s_tape), (2, .int x2)]) rfl (Nat.le_of_ble_eq_true rfl) rfl rfl ?_
      refine eb_iinc (pc := 43) (i := 2) (n := 1) (v := x2 + 1) (ls2 := [(2, .int (x2 + 1)), (1, .int ((((10 : Int32) * x1) + (eb_I h s_tape_text x2.toNatClampNeg)) - 48)), (0, .ref s_tape)]) (Nat.le_of_ble_eq_true rfl) rfl rfl rfl rfl ?_
      refine eb_goto (pc := 46) (tgt := 11) rfl (by decide) ?_
      exact eb_pick [2, 1, 0] rfl w
theorem T_X7_numberAtHand {d : Nat} {h : eb_H} {Q : Option Value → eb_H → Prop}   (ko : eb_KO h) (w : eb_Ct d 286 [.int (eb_I h s_tape 3), .int 0] h (fun r h1 => ∃ y2, r = some (.int y2) ∧ eb_KO h1 ∧ eb_Sn (d + 1) m_X7_numberAtHand h 11 [(0, .ref s_tape), (1, .int 0), (2, .int y2)] [] h1 Q)) : eb_Ct (d + 1) 71 [.ref s_tape] h Q :=
  eb_bodyQ (by decide) ok_X7_numberAtHand (Nat.le_of_ble_eq_true rfl) (b_X7_numberAtHand_0 (h0 := h)   ko w)
theorem b_X7_is_0 {d : Nat} {h0 h : eb_H} {Q : Option Value → eb_H → Prop} (i1 : Nat) (hi_i1 : i1 < 21) (ko : eb_KO h) (w : (((eb_I h s_tape 3) < 0 → Q (some (.int 0)) h) ∧ (¬ ((eb_I h s_tape 3) < 0) → (((900 : Int32) < (eb_I h s_tape 4) → Q (some (.int 0)) h) ∧ (¬ ((900 : Int32) < (eb_I h s_tape 4)) → eb_Ct d 289 [.ref (eb_mk i1 21 0)] h (fun r h3 => ∃ y4, r = some (.int y4) ∧ eb_KO h3 ∧ ((y4 = ((eb_I h3 s_tape 4) - (eb_I h3 s_tape 3)) → eb_Sn (d + 1) m_X7_is h0 39 [(0, .ref s_tape), (1, .ref (eb_mk i1 21 0)), (2, .int 0)] [] h3 Q) ∧ (¬ (y4 = ((eb_I h3 s_tape 4) - (eb_I h3 s_tape 3))) → Q (some (.int 0)) h3)))))))) : eb_Sn (d + 1) m_X7_is h0 0 [(0, .ref s_tape), (1, .ref (eb_mk i1 21 0))] [] h Q := by
  refine eb_aload_n (pc := 0) (n := 0) (i := 0) rfl rfl rfl ?_
  refine eb_getI (pc := 1) rfl rfl (by decide) (by decide) rfl ?_
  refine eb_if_lt (pc := 4) (tgt := 35) rfl (by decide) (fun c1 => ?_) (fun c1 => ?_)
  · replace w := w.1 c1
    refine eb_iconst (pc := 35) (n := 0) (v := 0) rfl rfl ?_
    exact eb_ireturn (pc := 36) rfl rfl (by decide) w
  · replace w := w.2 c1
    refine eb_aload_n (pc := 7) (n := 0) (i := 0) rfl rfl rfl ?_
    refine eb_getI (pc := 8) rfl rfl (by decide) (by decide) rfl ?_
    refine eb_aload_n (pc := 11) (n := 0) (i := 0) rfl rfl rfl ?_
    refine eb_getR (pc := 12) rfl rfl (by decide) (by decide) rfl (ko_s_tape_0 ko) ?_
    refine eb_alen (pc := 15) (v := 900) rfl (by decide) (by decide) rfl ?_
    refine eb_icmp_gt (pc := 16) (tgt := 35) rfl (by decide) (fun c2 => ?_) (fun c2 => ?_)
    · replace w := w.1 c2
      refine eb_iconst (pc := 35) (n := 0) (v := 0) rfl rfl ?_
      exact eb_ireturn (pc := 36) rfl rfl (by decide) w
    · replace w := w.2 c2
      refine eb_aload_n (pc := 19) (n := 1) (i := 1) rfl rfl rfl ?_
      refine eb_ctT (pc := 20) (i := i1) (As := []) (rest := []) rfl (by decide) rfl hi_i1 rfl rfl (Nat.le_of_ble_eq_true rfl) ?_
      refine eb_Ct.mono w ?_
      rintro r h3 ⟨y4, rfl, ko5, w⟩
      change eb_Sn _ _ _ 23 _ [.int y4] _ _
      refine eb_aload_n (pc := 23) (n := 0) (i := 0) rfl rfl rfl ?_
      refine eb_getI (pc := 24) rfl rfl (by decide) (by decide) rfl ?_
      refine eb_aload_n (pc := 27) (n := 0) (i := 0) rfl rfl rfl ?_
      refine eb_getI (pc := 28) rfl rfl (by decide) (by decide) rfl ?_
      refine eb_isub (pc := 31) rfl ?_
      refine eb_icmp_eq (pc := 32) (tgt := 37) rfl (by decide) (fun c6 => ?_) (fun c6 => ?_)
      · replace w := w.1 c6
        refine eb_iconst (pc := 37) (n := 0) (v := 0) rfl rfl ?_
        refine eb_istore_n (pc := 38) (n := 2) (i := 2) (ls2 := [(2, .int 0), (0, .ref s_tape), (1, .ref (eb_mk i1 21 0))]) rfl (Nat.le_of_ble_eq_true rfl) rfl rfl ?_
        exact eb_pick [1, 2, 0] rfl w
      · replace w := w.2 c6
        refine eb_iconst (pc := 35) (n := 0) (v := 0) rfl rfl ?_
        exact eb_ireturn (pc := 36) rfl rfl (by decide) w
theorem b_X7_is_39 {d : Nat} {h0 h : eb_H} {Q : Option Value → eb_H → Prop} (i1 : Nat) (x2 : Int32) (hi_i1 : i1 < 21) (ko : eb_KO h) (w : eb_Ct d 289 [.ref (eb_mk i1 21 0)] h (fun r h1 => ∃ y2, r = some (.int y2) ∧ eb_KO h1 ∧ ((y2 ≤ x2 → Q (some (.int 1)) h1) ∧ (¬ (y2 ≤ x2) → (vp_in ((eb_I h1 s_tape 3) + x2) 900) ∧ eb_Ct d 290 [.ref (eb_mk i1 21 0), .int x2] h1 (fun r h6 => ∃ y7, r = some (.int y7) ∧ eb_KO h6 ∧ ((((eb_I h1 s_tape_text ((eb_I h1 s_tape 3) + x2).toNatClampNeg) &&& 255) = y7 → eb_Sn (d + 1) m_X7_is h0 39 [(0, .ref s_tape), (1, .ref (eb_mk i1 21 0)), (2, .int (x2 + 1))] [] h6 Q) ∧ (¬ (((eb_I h1 s_tape_text ((eb_I h1 s_tape 3) + x2).toNatClampNeg) &&& 255) = y7) → Q (some (.int 0)) h6))))))) : eb_Sn (d + 1) m_X7_is h0 39 [(0, .ref s_tape), (1, .ref (eb_mk i1 21 0)), (2, .int x2)] [] h Q := by
  refine eb_iload_n (pc := 39) (n := 2) (i := 2) rfl rfl rfl ?_
  refine eb_aload_n (pc := 40) (n := 1) (i := 1) rfl rfl rfl ?_
  refine eb_ctT (pc := 41) (i := i1) (As := []) (rest := [.int x2]) rfl (by decide) rfl hi_i1 rfl rfl (Nat.le_of_ble_eq_true rfl) ?_
  refine eb_Ct.mono w ?_
  rintro r h1 ⟨y2, rfl, ko3, w⟩
  change eb_Sn _ _ _ 44 _ [.int y2, .int x2] _ _
  refine eb_icmp_ge (pc := 44) (tgt := 78) rfl (by decide) (fun c4 => ?_) (fun c4 => ?_)
  · replace w := w.1 c4
    refine eb_iconst (pc := 78) (n := 1) (v := 1) rfl rfl ?_
    exact eb_ireturn (pc := 79) rfl rfl (by decide) w
  · replace w := w.2 c4
    refine eb_aload_n (pc := 47) (n := 0) (i := 0) rfl rfl rfl ?_
    refine eb_getR (pc := 48) rfl rfl (by decide) (by decide) rfl (ko_s_tape_0 ko3) ?_
    refine eb_aload_n (pc := 51) (n := 0) (i := 0) rfl rfl rfl ?_
    refine eb_getI (pc := 52) rfl rfl (by decide) (by decide) rfl ?_
    refine eb_iload_n (pc := 55) (n := 2) (i := 2) rfl rfl rfl ?_
    refine eb_iadd (pc := 56) rfl ?_
    obtain ⟨c5, w⟩ := w
    refine eb_baload (pc := 57) rfl rfl c5 ?_
    refine eb_sipush (pc := 58) (n := 255) (v := 255) rfl rfl ?_
    refine eb_iand (pc := 61) rfl ?_
    refine eb_aload_n (pc := 62) (n := 1) (i := 1) rfl rfl rfl ?_
    refine eb_iload_n (pc := 63) (n := 2) (i := 2) rfl rfl rfl ?_
    refine eb_ctT (pc := 64) (i := i1) (As := [.int x2]) (rest := [.int ((eb_I h1 s_tape_text ((eb_I h1 s_tape 3) + x2).toNatClampNeg) &&& 255)]) rfl (by decide) rfl hi_i1 rfl rfl (Nat.le_of_ble_eq_true rfl) ?_
    refine eb_Ct.mono w ?_
    rintro r h6 ⟨y7, rfl, ko8, w⟩
    change eb_Sn _ _ _ 67 _ [.int y7, .int ((eb_I h1 s_tape_text ((eb_I h1 s_tape 3) + x2).toNatClampNeg) &&& 255)] _ _
    refine eb_icmp_eq (pc := 67) (tgt := 72) rfl (by decide) (fun c9 => ?_) (fun c9 => ?_)
    · replace w := w.1 c9
      refine eb_iinc (pc := 72) (i := 2) (n := 1) (v := x2 + 1) (ls2 := [(2, .int (x2 + 1)), (0, .ref s_tape), (1, .ref (eb_mk i1 21 0))]) (Nat.le_of_ble_eq_true rfl) rfl rfl rfl rfl ?_
      refine eb_goto (pc := 75) (tgt := 39) rfl (by decide) ?_
      exact eb_pick [1, 2, 0] rfl w
    · replace w := w.2 c9
      refine eb_iconst (pc := 70) (n := 0) (v := 0) rfl rfl ?_
      exact eb_ireturn (pc := 71) rfl rfl (by decide) w
theorem T_X7_is {d : Nat} {h : eb_H} {Q : Option Value → eb_H → Prop} (i1 : Nat) (hi_i1 : i1 < 21) (ko : eb_KO h) (w : (((eb_I h s_tape 3) < 0 → Q (some (.int 0)) h) ∧ (¬ ((eb_I h s_tape 3) < 0) → (((900 : Int32) < (eb_I h s_tape 4) → Q (some (.int 0)) h) ∧ (¬ ((900 : Int32) < (eb_I h s_tape 4)) → eb_Ct d 289 [.ref (eb_mk i1 21 0)] h (fun r h3 => ∃ y4, r = some (.int y4) ∧ eb_KO h3 ∧ ((y4 = ((eb_I h3 s_tape 4) - (eb_I h3 s_tape 3)) → eb_Sn (d + 1) m_X7_is h 39 [(0, .ref s_tape), (1, .ref (eb_mk i1 21 0)), (2, .int 0)] [] h3 Q) ∧ (¬ (y4 = ((eb_I h3 s_tape 4) - (eb_I h3 s_tape 3))) → Q (some (.int 0)) h3)))))))) : eb_Ct (d + 1) 72 [.ref s_tape, .ref (eb_mk i1 21 0)] h Q :=
  eb_bodyQ (by decide) ok_X7_is (Nat.le_of_ble_eq_true rfl) (b_X7_is_0 (h0 := h) i1 hi_i1 ko w)
theorem b_X7_sign_0 {d : Nat} {h0 h : eb_H} {Q : Option Value → eb_H → Prop}   (ko : eb_KO h) (w : ((¬ (eb_I h s_tape 5) = (3 : Int32) → Q (some (.int 0)) h) ∧ ((eb_I h s_tape 5) = (3 : Int32) → (((eb_I h s_tape 3) < 0 → Q (some (.int 0)) h) ∧ (¬ ((eb_I h s_tape 3) < 0) → (((900 : Int32) ≤ (eb_I h s_tape 3) → Q (some (.int 0)) h) ∧ (¬ ((900 : Int32) ≤ (eb_I h s_tape 3)) → (vp_in (eb_I h s_tape 3) 900) ∧ (narrow .char (.int ((((eb_I h s_tape_text (eb_I h s_tape 3).toNatClampNeg) &&& 255).toUInt32 % 65536).toInt32)) = .int ((((eb_I h s_tape_text (eb_I h s_tape 3).toNatClampNeg) &&& 255).toUInt32 % 65536).toInt32)) ∧ Q (some (.int ((((eb_I h s_tape_text (eb_I h s_tape 3).toNatClampNeg) &&& 255).toUInt32 % 65536).toInt32))) h))))))) : eb_Sn d m_X7_sign h0 0 [(0, .ref s_tape)] [] h Q := by
  refine eb_aload_n (pc := 0) (n := 0) (i := 0) rfl rfl rfl ?_
  refine eb_getI (pc := 1) rfl rfl (by decide) (by decide) rfl ?_
  refine eb_iconst (pc := 4) (n := 3) (v := 3) rfl rfl ?_
  refine eb_icmp_ne (pc := 5) (tgt := 44) rfl (by decide) (fun c1 => ?_) (fun c1 => ?_)
  · replace w := w.1 c1
    refine eb_iconst (pc := 44) (n := 0) (v := 0) rfl rfl ?_
    exact eb_ireturn (pc := 45) rfl rfl (by decide) w
  · replace w := w.2 c1
    refine eb_aload_n (pc := 8) (n := 0) (i := 0) rfl rfl rfl ?_
    refine eb_getI (pc := 9) rfl rfl (by decide) (by decide) rfl ?_
    refine eb_if_lt (pc := 12) (tgt := 44) rfl (by decide) (fun c2 => ?_) (fun c2 => ?_)
    · replace w := w.1 c2
      refine eb_iconst (pc := 44) (n := 0) (v := 0) rfl rfl ?_
      exact eb_ireturn (pc := 45) rfl rfl (by decide) w
    · replace w := w.2 c2
      refine eb_aload_n (pc := 15) (n := 0) (i := 0) rfl rfl rfl ?_
      refine eb_getI (pc := 16) rfl rfl (by decide) (by decide) rfl ?_
      refine eb_aload_n (pc := 19) (n := 0) (i := 0) rfl rfl rfl ?_
      refine eb_getR (pc := 20) rfl rfl (by decide) (by decide) rfl (ko_s_tape_0 ko) ?_
      refine eb_alen (pc := 23) (v := 900) rfl (by decide) (by decide) rfl ?_
      refine eb_icmp_ge (pc := 24) (tgt := 44) rfl (by decide) (fun c3 => ?_) (fun c3 => ?_)
      · replace w := w.1 c3
        refine eb_iconst (pc := 44) (n := 0) (v := 0) rfl rfl ?_
        exact eb_ireturn (pc := 45) rfl rfl (by decide) w
      · replace w := w.2 c3
        refine eb_aload_n (pc := 27) (n := 0) (i := 0) rfl rfl rfl ?_
        refine eb_getR (pc := 28) rfl rfl (by decide) (by decide) rfl (ko_s_tape_0 ko) ?_
        refine eb_aload_n (pc := 31) (n := 0) (i := 0) rfl rfl rfl ?_
        refine eb_getI (pc := 32) rfl rfl (by decide) (by decide) rfl ?_
        obtain ⟨c4, w⟩ := w
        refine eb_baload (pc := 35) rfl rfl c4 ?_
        refine eb_sipush (pc := 36) (n := 255) (v := 255) rfl rfl ?_
        refine eb_iand (pc := 39) rfl ?_
        refine eb_i2c (pc := 40) rfl ?_
        refine eb_goto (pc := 41) (tgt := 45) rfl (by decide) ?_
        obtain ⟨c5, w⟩ := w
        exact eb_ireturn (pc := 45) rfl rfl c5 w
theorem T_X7_sign {d : Nat} {h : eb_H} {Q : Option Value → eb_H → Prop}   (ko : eb_KO h) (w : ((¬ (eb_I h s_tape 5) = (3 : Int32) → Q (some (.int 0)) h) ∧ ((eb_I h s_tape 5) = (3 : Int32) → (((eb_I h s_tape 3) < 0 → Q (some (.int 0)) h) ∧ (¬ ((eb_I h s_tape 3) < 0) → (((900 : Int32) ≤ (eb_I h s_tape 3) → Q (some (.int 0)) h) ∧ (¬ ((900 : Int32) ≤ (eb_I h s_tape 3)) → (vp_in (eb_I h s_tape 3) 900) ∧ (narrow .char (.int ((((eb_I h s_tape_text (eb_I h s_tape 3).toNatClampNeg) &&& 255).toUInt32 % 65536).toInt32)) = .int ((((eb_I h s_tape_text (eb_I h s_tape 3).toNatClampNeg) &&& 255).toUInt32 % 65536).toInt32)) ∧ Q (some (.int ((((eb_I h s_tape_text (eb_I h s_tape 3).toNatClampNeg) &&& 255).toUInt32 % 65536).toInt32))) h))))))) : eb_Ct d 73 [.ref s_tape] h Q :=
  eb_bodyQ (by decide) ok_X7_sign (Nat.le_of_ble_eq_true rfl) (b_X7_sign_0 (h0 := h)   ko w)
theorem b_X8_init_0 {d : Nat} {h0 h : eb_H} {Q : Option Value → eb_H → Prop} (a0 : Nat) (ka0 : eb_kd a0 = 8) (w : ∀ r3, r3 = eb_nx h 14 40 → ∀ h1, h1 = eb_nw h 14 40 40 → ∀ h5, h5 = eb_sR h1 a0 0 (some r3) → ∀ h7, h7 = eb_sI h5 a0 1 0 → ∀ h9, h9 = eb_sI h7 a0 2 1 → ∀ h11, h11 = eb_sI h9 a0 3 0 → Q none h11) : eb_Sn (d + 1) m_X8_init h0 0 [(0, .ref a0)] [] h Q := by
  refine eb_aload_n (pc := 0) (n := 0) (i := 0) rfl rfl rfl ?_
  refine eb_objInit (pc := 1) rfl (by decide +kernel) (by omega) (Nat.le_of_ble_eq_true rfl) ?_
  refine eb_aload_n (pc := 4) (n := 0) (i := 0) rfl rfl rfl ?_
  refine eb_bipush (pc := 5) (n := 40) (v := 40) rfl rfl ?_
  refine eb_newL (pc := 7) (len := 40) rfl (by decide) rfl (by decide) ?_
  obtain ⟨r3, e4⟩ : ∃ z, z = eb_nx h 14 40 := ⟨_, rfl⟩
  rw [← e4]
  replace w := w r3 e4
  obtain ⟨h1, e2⟩ : ∃ z, z = eb_nw h 14 40 40 := ⟨_, rfl⟩
  rw [← e2]
  replace w := w h1 e2
  refine eb_putR (pc := 9) rfl ka0 (by decide) (by decide) rfl (Or.inr ⟨rfl, rfl, rfl⟩) (eb_k20 (c := 14) (by rw [e4]; exact eb_mk_kd (by decide)) (by decide)) ?_
  obtain ⟨h5, e6⟩ : ∃ z, z = eb_sR h1 a0 0 (some r3) := ⟨_, rfl⟩
  rw [← e6]
  replace w := w h5 e6
  refine eb_aload_n (pc := 12) (n := 0) (i := 0) rfl rfl rfl ?_
  refine eb_iconst (pc := 13) (n := 0) (v := 0) rfl rfl ?_
  refine eb_putI (pc := 14) rfl ka0 (by decide) (by decide) rfl rfl ⟨rfl, rfl⟩ ?_
  obtain ⟨h7, e8⟩ : ∃ z, z = eb_sI h5 a0 1 0 := ⟨_, rfl⟩
  rw [← e8]
  replace w := w h7 e8
  refine eb_aload_n (pc := 17) (n := 0) (i := 0) rfl rfl rfl ?_
  refine eb_iconst (pc := 18) (n := 1) (v := 1) rfl rfl ?_
  refine eb_putI (pc := 19) rfl ka0 (by decide) (by decide) rfl rfl ⟨rfl, rfl⟩ ?_
  obtain ⟨h9, e10⟩ : ∃ z, z = eb_sI h7 a0 2 1 := ⟨_, rfl⟩
  rw [← e10]
  replace w := w h9 e10
  refine eb_aload_n (pc := 22) (n := 0) (i := 0) rfl rfl rfl ?_
  refine eb_iconst (pc := 23) (n := 0) (v := 0) rfl rfl ?_
  refine eb_putI (pc := 24) rfl ka0 (by decide) (by decide) rfl rfl ⟨rfl, rfl⟩ ?_
  obtain ⟨h11, e12⟩ : ∃ z, z = eb_sI h9 a0 3 0 := ⟨_, rfl⟩
  rw [← e12]
  replace w := w h11 e12
  exact eb_return (pc := 27) rfl rfl w
theorem T_X8_init {d : Nat} {h : eb_H} {Q : Option Value → eb_H → Prop} (a0 : Nat) (ka0 : eb_kd a0 = 8) (w : ∀ r3, r3 = eb_nx h 14 40 → ∀ h1, h1 = eb_nw h 14 40 40 → ∀ h5, h5 = eb_sR h1 a0 0 (some r3) → ∀ h7, h7 = eb_sI h5 a0 1 0 → ∀ h9, h9 = eb_sI h7 a0 2 1 → ∀ h11, h11 = eb_sI h9 a0 3 0 → Q none h11) : eb_Ct (d + 1) 74 [.ref a0] h Q :=
  eb_bodyQ (by decide) ok_X8_init (Nat.le_of_ble_eq_true rfl) (b_X8_init_0 (h0 := h) a0 ka0 w)
theorem b_X8_makeAnew_0 {d : Nat} {h0 h : eb_H} {Q : Option Value → eb_H → Prop} (a0 : Nat) (x1 : Int32) (x2 : Int32) (ka0 : eb_kd a0 = 8) (ko : eb_KO h) (w : ∃ r1, eb_R h a0 0 = some r1 ∧ eb_kd r1 = 14 ∧ eb_Ct d 300 [.ref r1, .long 0] h (fun r h4 => r = none ∧ eb_KO h4 ∧ Q none (eb_sI (eb_sI (eb_sI h4 a0 1 x1) a0 3 x2) a0 2 0))) : eb_Sn (d + 1) m_X8_makeAnew h0 0 [(0, .ref a0), (1, .int x1), (2, .int x2)] [] h Q := by
  refine eb_aload_n (pc := 0) (n := 0) (i := 0) rfl rfl rfl ?_
  obtain ⟨r1, q2, k3, w⟩ := w
  refine eb_getR (pc := 1) rfl ka0 (by decide) (by decide) rfl q2 ?_
  refine eb_lconst (pc := 4) (n := 0) (v := 0) rfl rfl ?_
  refine eb_ctS (pc := 5) (As := [.ref r1, .long 0]) (rest := []) rfl (by decide) (by decide) rfl rfl (Nat.le_of_ble_eq_true rfl) ?_
  refine eb_Ct.mono w ?_
  rintro r h4 ⟨rfl, ko6, w⟩
  change eb_Sn _ _ _ 8 _ [] _ _
  refine eb_aload_n (pc := 8) (n := 0) (i := 0) rfl rfl rfl ?_
  refine eb_iload_n (pc := 9) (n := 1) (i := 1) rfl rfl rfl ?_
  refine eb_putI (pc := 10) rfl ka0 (by decide) (by decide) rfl rfl ⟨rfl, rfl⟩ ?_
  refine eb_aload_n (pc := 13) (n := 0) (i := 0) rfl rfl rfl ?_
  refine eb_iload_n (pc := 14) (n := 2) (i := 2) rfl rfl rfl ?_
  refine eb_putI (pc := 15) rfl ka0 (by decide) (by decide) rfl rfl ⟨rfl, rfl⟩ ?_
  refine eb_aload_n (pc := 18) (n := 0) (i := 0) rfl rfl rfl ?_
  refine eb_iconst (pc := 19) (n := 0) (v := 0) rfl rfl ?_
  refine eb_putI (pc := 20) rfl ka0 (by decide) (by decide) rfl rfl ⟨rfl, rfl⟩ ?_
  exact eb_return (pc := 23) rfl rfl w
theorem T_X8_makeAnew {d : Nat} {h : eb_H} {Q : Option Value → eb_H → Prop} (a0 : Nat) (x1 : Int32) (x2 : Int32) (ka0 : eb_kd a0 = 8) (ko : eb_KO h) (w : ∃ r1, eb_R h a0 0 = some r1 ∧ eb_kd r1 = 14 ∧ eb_Ct d 300 [.ref r1, .long 0] h (fun r h4 => r = none ∧ eb_KO h4 ∧ Q none (eb_sI (eb_sI (eb_sI h4 a0 1 x1) a0 3 x2) a0 2 0))) : eb_Ct (d + 1) 75 [.ref a0, .int x1, .int x2] h Q :=
  eb_bodyQ (by decide) ok_X8_makeAnew (Nat.le_of_ble_eq_true rfl) (b_X8_makeAnew_0 (h0 := h) a0 x1 x2 ka0 ko w)
theorem b_X8_numberAt_0 {d : Nat} {h0 h : eb_H} {Q : Option Value → eb_H → Prop} (a0 : Nat) (x1 : Int32) (ka0 : eb_kd a0 = 8) (ko : eb_KO h) (w : ((x1 < 0 → Q (some (.long 0)) h) ∧ (¬ (x1 < 0) → ∃ r2, eb_R h a0 0 = some r2 ∧ eb_kd r2 = 14 ∧ (((Int32.ofNat (eb_ln r2)) ≤ x1 → Q (some (.long 0)) h) ∧ (¬ ((Int32.ofNat (eb_ln r2)) ≤ x1) → (vp_in x1 (eb_ln r2)) ∧ Q (some (.long (eb_J h r2 x1.toNatClampNeg))) h))))) : eb_Sn d m_X8_numberAt h0 0 [(0, .ref a0), (1, .int x1)] [] h Q := by
  refine eb_iload_n (pc := 0) (n := 1) (i := 1) rfl rfl rfl ?_
  refine eb_if_lt (pc := 1) (tgt := 22) rfl (by decide) (fun c1 => ?_) (fun c1 => ?_)
  · replace w := w.1 c1
    refine eb_lconst (pc := 22) (n := 0) (v := 0) rfl rfl ?_
    exact eb_lreturn (pc := 23) rfl rfl w
  · replace w := w.2 c1
    refine eb_iload_n (pc := 4) (n := 1) (i := 1) rfl rfl rfl ?_
    refine eb_aload_n (pc := 5) (n := 0) (i := 0) rfl rfl rfl ?_
    obtain ⟨r2, q3, k4, w⟩ := w
    refine eb_getR (pc := 6) rfl ka0 (by decide) (by decide) rfl q3 ?_
    refine eb_alen (pc := 9) rfl (by rw [k4]; decide) (by rw [k4]; decide) rfl ?_
    refine eb_icmp_ge (pc := 10) (tgt := 22) rfl (by decide) (fun c5 => ?_) (fun c5 => ?_)
    · replace w := w.1 c5
      refine eb_lconst (pc := 22) (n := 0) (v := 0) rfl rfl ?_
      exact eb_lreturn (pc := 23) rfl rfl w
    · replace w := w.2 c5
      refine eb_aload_n (pc := 13) (n := 0) (i := 0) rfl rfl rfl ?_
      refine eb_getR (pc := 14) rfl ka0 (by decide) (by decide) rfl q3 ?_
      refine eb_iload_n (pc := 17) (n := 1) (i := 1) rfl rfl rfl ?_
      obtain ⟨c6, w⟩ := w
      refine eb_laload (pc := 18) rfl k4 c6 ?_
      refine eb_goto (pc := 19) (tgt := 23) rfl (by decide) ?_
      exact eb_lreturn (pc := 23) rfl rfl w
theorem T_X8_numberAt {d : Nat} {h : eb_H} {Q : Option Value → eb_H → Prop} (a0 : Nat) (x1 : Int32) (ka0 : eb_kd a0 = 8) (ko : eb_KO h) (w : ((x1 < 0 → Q (some (.long 0)) h) ∧ (¬ (x1 < 0) → ∃ r2, eb_R h a0 0 = some r2 ∧ eb_kd r2 = 14 ∧ (((Int32.ofNat (eb_ln r2)) ≤ x1 → Q (some (.long 0)) h) ∧ (¬ ((Int32.ofNat (eb_ln r2)) ≤ x1) → (vp_in x1 (eb_ln r2)) ∧ Q (some (.long (eb_J h r2 x1.toNatClampNeg))) h))))) : eb_Ct d 76 [.ref a0, .int x1] h Q :=
  eb_bodyQ (by decide) ok_X8_numberAt (Nat.le_of_ble_eq_true rfl) (b_X8_numberAt_0 (h0 := h) a0 x1 ka0 ko w)
theorem b_X8_setNumber_0 {d : Nat} {h0 h : eb_H} {Q : Option Value → eb_H → Prop} (a0 : Nat) (x1 : Int32) (x2 : Int64) (ka0 : eb_kd a0 = 8) (ko : eb_KO h) (w : ((x1 < 0 → Q none h) ∧ (¬ (x1 < 0) → ∃ r2, eb_R h a0 0 = some r2 ∧ eb_kd r2 = 14 ∧ (((Int32.ofNat (eb_ln r2)) ≤ x1 → Q none h) ∧ (¬ ((Int32.ofNat (eb_ln r2)) ≤ x1) → eb_Ct d 78 [.ref a0, .long x2] h (fun r h6 => ∃ y7, r = some (.long y7) ∧ eb_KO h6 ∧ (vp_in x1 (eb_ln r2)) ∧ Q none (eb_sJ h6 r2 x1.toNatClampNeg y7))))))) : eb_Sn (d + 1) m_X8_setNumber h0 0 [(0, .ref a0), (1, .int x1), (2, .long x2)] [] h Q := by
  refine eb_iload_n (pc := 0) (n := 1) (i := 1) rfl rfl rfl ?_
  refine eb_if_lt (pc := 1) (tgt := 24) rfl (by decide) (fun c1 => ?_) (fun c1 => ?_)
  · replace w := w.1 c1
    exact eb_return (pc := 24) rfl rfl w
  · replace w := w.2 c1
    refine eb_iload_n (pc := 4) (n := 1) (i := 1) rfl rfl rfl ?_
    refine eb_aload_n (pc := 5) (n := 0) (i := 0) rfl rfl rfl ?_
    obtain ⟨r2, q3, k4, w⟩ := w
    refine eb_getR (pc := 6) rfl ka0 (by decide) (by decide) rfl q3 ?_
    refine eb_alen (pc := 9) rfl (by rw [k4]; decide) (by rw [k4]; decide) rfl ?_
    refine eb_icmp_ge (pc := 10) (tgt := 24) rfl (by decide) (fun c5 => ?_) (fun c5 => ?_)
    · replace w := w.1 c5
      exact eb_return (pc := 24) rfl rfl w
    · replace w := w.2 c5
      refine eb_aload_n (pc := 13) (n := 0) (i := 0) rfl rfl rfl ?_
      refine eb_getR (pc := 14) rfl ka0 (by decide) (by decide) rfl q3 ?_
      refine eb_iload_n (pc := 17) (n := 1) (i := 1) rfl rfl rfl ?_
      refine eb_aload_n (pc := 18) (n := 0) (i := 0) rfl rfl rfl ?_
      refine eb_lload_n (pc := 19) (n := 2) (i := 2) rfl rfl rfl ?_
      refine eb_ctV (pc := 20) (As := [.long x2]) (rest := [.int x1, .ref r2]) rfl (by decide) rfl ka0 (by decide) rfl (Nat.le_of_ble_eq_true rfl) ?_
      refine eb_Ct.mono w ?_
      rintro r h6 ⟨y7, rfl, ko8, w⟩
      change eb_Sn _ _ _ 23 _ [.long y7, .int x1, .ref r2] _ _
      obtain ⟨c9, w⟩ := w
      refine eb_lastore (pc := 23) rfl k4 c9 ?_
      exact eb_return (pc := 24) rfl rfl w
theorem T_X8_setNumber {d : Nat} {h : eb_H} {Q : Option Value → eb_H → Prop} (a0 : Nat) (x1 : Int32) (x2 : Int64) (ka0 : eb_kd a0 = 8) (ko : eb_KO h) (w : ((x1 < 0 → Q none h) ∧ (¬ (x1 < 0) → ∃ r2, eb_R h a0 0 = some r2 ∧ eb_kd r2 = 14 ∧ (((Int32.ofNat (eb_ln r2)) ≤ x1 → Q none h) ∧ (¬ ((Int32.ofNat (eb_ln r2)) ≤ x1) → eb_Ct d 78 [.ref a0, .long x2] h (fun r h6 => ∃ y7, r = some (.long y7) ∧ eb_KO h6 ∧ (vp_in x1 (eb_ln r2)) ∧ Q none (eb_sJ h6 r2 x1.toNatClampNeg y7))))))) : eb_Ct (d + 1) 77 [.ref a0, .int x1, .long x2] h Q :=
  eb_bodyQ (by decide) ok_X8_setNumber (Nat.le_of_ble_eq_true rfl) (b_X8_setNumber_0 (h0 := h) a0 x1 x2 ka0 ko w)
theorem b_X8_cut_0 {d : Nat} {h0 h : eb_H} {Q : Option Value → eb_H → Prop} (a0 : Nat) (x1 : Int64) (ka0 : eb_kd a0 = 8) (ko : eb_KO h) (w : (((eb_I h a0 1) = 0 → Q (some (.long x1.toInt32.toInt8.toInt32.toInt64)) h) ∧ ((eb_I h a0 1) = 1 → Q (some (.long x1.toInt32.toInt16.toInt32.toInt64)) h) ∧ ((eb_I h a0 1) = 2 → Q (some (.long x1.toInt32.toInt64)) h) ∧ (¬ (eb_I h a0 1) = 0 → ¬ (eb_I h a0 1) = 1 → ¬ (eb_I h a0 1) = 2 → Q (some (.long x1)) h))) : eb_Sn d m_X8_cut h0 0 [(0, .ref a0), (1, .long x1)] [] h Q := by
  refine eb_aload_n (pc := 0) (n := 0) (i := 0) rfl rfl rfl ?_
  refine eb_getI (pc := 1) rfl ka0 (by decide) (by decide) rfl ?_
  by_cases s0 : (eb_I h a0 1) = 0
  · refine eb_tableIn (pc := 4) (j := 0) (tgt := 32) (by rw [s0]; decide) (by decide) (by rfl) (by decide) rfl ?_
    replace w := w.1 s0
    refine eb_lload_n (pc := 32) (n := 1) (i := 1) rfl rfl rfl ?_
    refine eb_l2i (pc := 33) rfl ?_
    refine eb_i2b (pc := 34) rfl ?_
    refine eb_i2l (pc := 35) rfl ?_
    exact eb_lreturn (pc := 36) rfl rfl w
  by_cases s1 : (eb_I h a0 1) = 1
  · refine eb_tableIn (pc := 4) (j := 1) (tgt := 37) (by rw [s1]; decide) (by decide) (by rfl) (by decide) rfl ?_
    replace w := w.2.1 s1
    refine eb_lload_n (pc := 37) (n := 1) (i := 1) rfl rfl rfl ?_
    refine eb_l2i (pc := 38) rfl ?_
    refine eb_i2s (pc := 39) rfl ?_
    refine eb_i2l (pc := 40) rfl ?_
    exact eb_lreturn (pc := 41) rfl rfl w
  by_cases s2 : (eb_I h a0 1) = 2
  · refine eb_tableIn (pc := 4) (j := 2) (tgt := 42) (by rw [s2]; decide) (by decide) (by rfl) (by decide) rfl ?_
    replace w := w.2.2.1 s2
    refine eb_lload_n (pc := 42) (n := 1) (i := 1) rfl rfl rfl ?_
    refine eb_l2i (pc := 43) rfl ?_
    refine eb_i2l (pc := 44) rfl ?_
    exact eb_lreturn (pc := 45) rfl rfl w
  refine eb_tableOut (pc := 4) (tgt := 46) (by have z0 := lv_neT (a := 0) s0 (by decide); have z1 := lv_neT (a := 1) s1 (by decide); have z2 := lv_neT (a := 2) s2 (by decide); omega) (by decide) rfl ?_
  replace w := w.2.2.2 s0 s1 s2
  refine eb_lload_n (pc := 46) (n := 1) (i := 1) rfl rfl rfl ?_
  exact eb_lreturn (pc := 47) rfl rfl w
theorem T_X8_cut {d : Nat} {h : eb_H} {Q : Option Value → eb_H → Prop} (a0 : Nat) (x1 : Int64) (ka0 : eb_kd a0 = 8) (ko : eb_KO h) (w : (((eb_I h a0 1) = 0 → Q (some (.long x1.toInt32.toInt8.toInt32.toInt64)) h) ∧ ((eb_I h a0 1) = 1 → Q (some (.long x1.toInt32.toInt16.toInt32.toInt64)) h) ∧ ((eb_I h a0 1) = 2 → Q (some (.long x1.toInt32.toInt64)) h) ∧ (¬ (eb_I h a0 1) = 0 → ¬ (eb_I h a0 1) = 1 → ¬ (eb_I h a0 1) = 2 → Q (some (.long x1)) h))) : eb_Ct d 78 [.ref a0, .long x1] h Q :=
  eb_bodyQ (by decide) ok_X8_cut (Nat.le_of_ble_eq_true rfl) (b_X8_cut_0 (h0 := h) a0 x1 ka0 ko w)
theorem b_X9_init_0 {d : Nat} {h0 h : eb_H} {Q : Option Value → eb_H → Prop} (a0 : Nat) (ka0 : eb_kd a0 = 9) (w : ∀ h1, h1 = eb_sI h a0 0 1 → ∀ h3, h3 = eb_sI h1 a0 1 1 → ∀ h5, h5 = eb_sI h3 a0 2 3 → ∀ h7, h7 = eb_sI h5 a0 3 0 → ∀ h9, h9 = eb_sI h7 a0 4 0 → ∀ r13, r13 = eb_nx h9 13 4 → ∀ h11, h11 = eb_nw h9 13 4 4 → ∀ h15, h15 = eb_sR h11 a0 5 (some r13) → ∀ r19, r19 = eb_nx h15 13 16 → ∀ h17, h17 = eb_nw h15 13 16 16 → ∀ h21, h21 = eb_sR h17 a0 6 (some r19) → ∀ h23, h23 = eb_sR h21 a0 7 none → ∀ h25, h25 = eb_sR h23 a0 8 none → Q none h25) : eb_Sn (d + 1) m_X9_init h0 0 [(0, .ref a0)] [] h Q := by
  refine eb_aload_n (pc := 0) (n := 0) (i := 0) rfl rfl rfl ?_
  refine eb_objInit (pc := 1) rfl (by decide +kernel) (by omega) (Nat.le_of_ble_eq_true rfl) ?_
  refine eb_aload_n (pc := 4) (n := 0) (i := 0) rfl rfl rfl ?_
  refine eb_iconst (pc := 5) (n := 1) (v := 1) rfl rfl ?_
  refine eb_putI (pc := 6) rfl ka0 (by decide) (by decide) rfl rfl ⟨rfl, rfl⟩ ?_
  obtain ⟨h1, e2⟩ : ∃ z, z = eb_sI h a0 0 1 := ⟨_, rfl⟩
  rw [← e2]
  replace w := w h1 e2
  refine eb_aload_n (pc := 9) (n := 0) (i := 0) rfl rfl rfl ?_
  refine eb_iconst (pc := 10) (n := 1) (v := 1) rfl rfl ?_
  refine eb_putI (pc := 11) rfl ka0 (by decide) (by decide) rfl rfl ⟨rfl, rfl⟩ ?_
  obtain ⟨h3, e4⟩ : ∃ z, z = eb_sI h1 a0 1 1 := ⟨_, rfl⟩
  rw [← e4]
  replace w := w h3 e4
  refine eb_aload_n (pc := 14) (n := 0) (i := 0) rfl rfl rfl ?_
  refine eb_iconst (pc := 15) (n := 3) (v := 3) rfl rfl ?_
  refine eb_putI (pc := 16) rfl ka0 (by decide) (by decide) rfl rfl ⟨rfl, rfl⟩ ?_
  obtain ⟨h5, e6⟩ : ∃ z, z = eb_sI h3 a0 2 3 := ⟨_, rfl⟩
  rw [← e6]
  replace w := w h5 e6
  refine eb_aload_n (pc := 19) (n := 0) (i := 0) rfl rfl rfl ?_
  refine eb_iconst (pc := 20) (n := 0) (v := 0) rfl rfl ?_
  refine eb_putI (pc := 21) rfl ka0 (by decide) (by decide) rfl rfl ⟨rfl, rfl⟩ ?_
  obtain ⟨h7, e8⟩ : ∃ z, z = eb_sI h5 a0 3 0 := ⟨_, rfl⟩
  rw [← e8]
  replace w := w h7 e8
  refine eb_aload_n (pc := 24) (n := 0) (i := 0) rfl rfl rfl ?_
  refine eb_iconst (pc := 25) (n := 0) (v := 0) rfl rfl ?_
  refine eb_putI (pc := 26) rfl ka0 (by decide) (by decide) rfl rfl ⟨rfl, rfl⟩ ?_
  obtain ⟨h9, e10⟩ : ∃ z, z = eb_sI h7 a0 4 0 := ⟨_, rfl⟩
  rw [← e10]
  replace w := w h9 e10
  refine eb_aload_n (pc := 29) (n := 0) (i := 0) rfl rfl rfl ?_
  refine eb_iconst (pc := 30) (n := 4) (v := 4) rfl rfl ?_
  refine eb_newI (pc := 31) (kd := 13) (len := 4) rfl rfl (by decide) (by decide) rfl (by decide) ?_
  obtain ⟨r13, e14⟩ : ∃ z, z = eb_nx h9 13 4 := ⟨_, rfl⟩
  rw [← e14]
  replace w := w r13 e14
  obtain ⟨h11, e12⟩ : ∃ z, z = eb_nw h9 13 4 4 := ⟨_, rfl⟩
  rw [← e12]
  replace w := w h11 e12
  refine eb_putR (pc := 33) rfl ka0 (by decide) (by decide) rfl (Or.inr ⟨rfl, rfl, rfl⟩) (eb_k20 (c := 13) (by rw [e14]; exact eb_mk_kd (by decide)) (by decide)) ?_
  obtain ⟨h15, e16⟩ : ∃ z, z = eb_sR h11 a0 5 (some r13) := ⟨_, rfl⟩
  rw [← e16]
  replace w := w h15 e16
  refine eb_aload_n (pc := 36) (n := 0) (i := 0) rfl rfl rfl ?_
  refine eb_bipush (pc := 37) (n := 16) (v := 16) rfl rfl ?_
  refine eb_newI (pc := 39) (kd := 13) (len := 16) rfl rfl (by decide) (by decide) rfl (by decide) ?_
  obtain ⟨r19, e20⟩ : ∃ z, z = eb_nx h15 13 16 := ⟨_, rfl⟩
  rw [← e20]
  replace w := w r19 e20
  obtain ⟨h17, e18⟩ : ∃ z, z = eb_nw h15 13 16 16 := ⟨_, rfl⟩
  rw [← e18]
  replace w := w h17 e18
  refine eb_putR (pc := 41) rfl ka0 (by decide) (by decide) rfl (Or.inr ⟨rfl, rfl, rfl⟩) (eb_k20 (c := 13) (by rw [e20]; exact eb_mk_kd (by decide)) (by decide)) ?_
  obtain ⟨h21, e22⟩ : ∃ z, z = eb_sR h17 a0 6 (some r19) := ⟨_, rfl⟩
  rw [← e22]
  replace w := w h21 e22
  refine eb_aload_n (pc := 44) (n := 0) (i := 0) rfl rfl rfl ?_
  refine eb_null (pc := 45) rfl ?_
  refine eb_putN (pc := 46) rfl ka0 (by decide) (by decide) rfl (Or.inl rfl) ?_
  obtain ⟨h23, e24⟩ : ∃ z, z = eb_sR h21 a0 7 none := ⟨_, rfl⟩
  rw [← e24]
  replace w := w h23 e24
  refine eb_aload_n (pc := 49) (n := 0) (i := 0) rfl rfl rfl ?_
  refine eb_null (pc := 50) rfl ?_
  refine eb_putN (pc := 51) rfl ka0 (by decide) (by decide) rfl (Or.inl rfl) ?_
  obtain ⟨h25, e26⟩ : ∃ z, z = eb_sR h23 a0 8 none := ⟨_, rfl⟩
  rw [← e26]
  replace w := w h25 e26
  exact eb_return (pc := 54) rfl rfl w
theorem T_X9_init {d : Nat} {h : eb_H} {Q : Option Value → eb_H → Prop} (a0 : Nat) (ka0 : eb_kd a0 = 9) (w : ∀ h1, h1 = eb_sI h a0 0 1 → ∀ h3, h3 = eb_sI h1 a0 1 1 → ∀ h5, h5 = eb_sI h3 a0 2 3 → ∀ h7, h7 = eb_sI h5 a0 3 0 → ∀ h9, h9 = eb_sI h7 a0 4 0 → ∀ r13, r13 = eb_nx h9 13 4 → ∀ h11, h11 = eb_nw h9 13 4 4 → ∀ h15, h15 = eb_sR h11 a0 5 (some r13) → ∀ r19, r19 = eb_nx h15 13 16 → ∀ h17, h17 = eb_nw h15 13 16 16 → ∀ h21, h21 = eb_sR h17 a0 6 (some r19) → ∀ h23, h23 = eb_sR h21 a0 7 none → ∀ h25, h25 = eb_sR h23 a0 8 none → Q none h25) : eb_Ct (d + 1) 79 [.ref a0] h Q :=
  eb_bodyQ (by decide) ok_X9_init (Nat.le_of_ble_eq_true rfl) (b_X9_init_0 (h0 := h) a0 ka0 w)
theorem b_X9_has_0 {d : Nat} {h0 h : eb_H} {Q : Option Value → eb_H → Prop} (a0 : Nat) (x1 : Int32) (ka0 : eb_kd a0 = 9) (ko : eb_KO h) (w : Q (some (.int (if x1 < 0 then 0 else (if ((eb_I h a0 0) * (eb_I h a0 1)) ≤ x1 then 0 else 1) : Int32))) h) : eb_Sn d m_X9_has h0 0 [(0, .ref a0), (1, .int x1)] [] h Q := by
  refine eb_iload_n (pc := 0) (n := 1) (i := 1) rfl rfl rfl ?_
  have jj3 : eb_Sn d m_X9_has h0 22 [(0, .ref a0), (1, .int x1)] [.int (if x1 < 0 then 0 else (if ((eb_I h a0 0) * (eb_I h a0 1)) ≤ x1 then 0 else 1) : Int32)] h Q := by
    exact eb_ireturn (pc := 22) rfl rfl (by (repeat' split) <;> rfl) w
  refine eb_if_lt (pc := 1) (tgt := 21) rfl (by decide) (fun c1 => ?_) (fun c1 => ?_)
  · refine eb_iconst (pc := 21) (n := 0) (v := 0) rfl rfl ?_
    simp only [if_pos c1] at jj3 ⊢
    exact jj3
  · refine eb_iload_n (pc := 4) (n := 1) (i := 1) rfl rfl rfl ?_
    refine eb_aload_n (pc := 5) (n := 0) (i := 0) rfl rfl rfl ?_
    refine eb_getI (pc := 6) rfl ka0 (by decide) (by decide) rfl ?_
    refine eb_aload_n (pc := 9) (n := 0) (i := 0) rfl rfl rfl ?_
    refine eb_getI (pc := 10) rfl ka0 (by decide) (by decide) rfl ?_
    refine eb_imul (pc := 13) rfl ?_
    refine eb_icmp_ge (pc := 14) (tgt := 21) rfl (by decide) (fun c2 => ?_) (fun c2 => ?_)
    · refine eb_iconst (pc := 21) (n := 0) (v := 0) rfl rfl ?_
      simp only [if_neg c1, if_pos c2] at jj3 ⊢
      exact jj3
    · refine eb_iconst (pc := 17) (n := 1) (v := 1) rfl rfl ?_
      refine eb_goto (pc := 18) (tgt := 22) rfl (by decide) ?_
      simp only [if_neg c1, if_neg c2] at jj3 ⊢
      exact jj3
theorem T_X9_has {d : Nat} {h : eb_H} {Q : Option Value → eb_H → Prop} (a0 : Nat) (x1 : Int32) (ka0 : eb_kd a0 = 9) (ko : eb_KO h) (w : Q (some (.int (if x1 < 0 then 0 else (if ((eb_I h a0 0) * (eb_I h a0 1)) ≤ x1 then 0 else 1) : Int32))) h) : eb_Ct d 80 [.ref a0, .int x1] h Q :=
  eb_bodyQ (by decide) ok_X9_has (Nat.le_of_ble_eq_true rfl) (b_X9_has_0 (h0 := h) a0 x1 ka0 ko w)
theorem b_X9_heightOf_0 {d : Nat} {h0 h : eb_H} {Q : Option Value → eb_H → Prop} (a0 : Nat) (x1 : Int32) (ka0 : eb_kd a0 = 9) (ko : eb_KO h) (w : ((x1 < 0 → Q (some (.int 0)) h) ∧ (¬ (x1 < 0) → ∃ r2, eb_R h a0 6 = some r2 ∧ eb_kd r2 = 13 ∧ (((Int32.ofNat (eb_ln r2)) ≤ x1 → Q (some (.int 0)) h) ∧ (¬ ((Int32.ofNat (eb_ln r2)) ≤ x1) → (vp_in x1 (eb_ln r2)) ∧ Q (some (.int (eb_I h r2 x1.toNatClampNeg))) h))))) : eb_Sn d m_X9_heightOf h0 0 [(0, .ref a0), (1, .int x1)] [] h Q := by
  refine eb_iload_n (pc := 0) (n := 1) (i := 1) rfl rfl rfl ?_
  refine eb_if_lt (pc := 1) (tgt := 22) rfl (by decide) (fun c1 => ?_) (fun c1 => ?_)
  · replace w := w.1 c1
    refine eb_iconst (pc := 22) (n := 0) (v := 0) rfl rfl ?_
    exact eb_ireturn (pc := 23) rfl rfl rfl w
  · replace w := w.2 c1
    refine eb_iload_n (pc := 4) (n := 1) (i := 1) rfl rfl rfl ?_
    refine eb_aload_n (pc := 5) (n := 0) (i := 0) rfl rfl rfl ?_
    obtain ⟨r2, q3, k4, w⟩ := w
    refine eb_getR (pc := 6) rfl ka0 (by decide) (by decide) rfl q3 ?_
    refine eb_alen (pc := 9) rfl (by rw [k4]; decide) (by rw [k4]; decide) rfl ?_
    refine eb_icmp_ge (pc := 10) (tgt := 22) rfl (by decide) (fun c5 => ?_) (fun c5 => ?_)
    · replace w := w.1 c5
      refine eb_iconst (pc := 22) (n := 0) (v := 0) rfl rfl ?_
      exact eb_ireturn (pc := 23) rfl rfl rfl w
    · replace w := w.2 c5
      refine eb_aload_n (pc := 13) (n := 0) (i := 0) rfl rfl rfl ?_
      refine eb_getR (pc := 14) rfl ka0 (by decide) (by decide) rfl q3 ?_
      refine eb_iload_n (pc := 17) (n := 1) (i := 1) rfl rfl rfl ?_
      obtain ⟨c6, w⟩ := w
      refine eb_iaload (pc := 18) rfl k4 c6 ?_
      refine eb_goto (pc := 19) (tgt := 23) rfl (by decide) ?_
      exact eb_ireturn (pc := 23) rfl rfl rfl w
theorem T_X9_heightOf {d : Nat} {h : eb_H} {Q : Option Value → eb_H → Prop} (a0 : Nat) (x1 : Int32) (ka0 : eb_kd a0 = 9) (ko : eb_KO h) (w : ((x1 < 0 → Q (some (.int 0)) h) ∧ (¬ (x1 < 0) → ∃ r2, eb_R h a0 6 = some r2 ∧ eb_kd r2 = 13 ∧ (((Int32.ofNat (eb_ln r2)) ≤ x1 → Q (some (.int 0)) h) ∧ (¬ ((Int32.ofNat (eb_ln r2)) ≤ x1) → (vp_in x1 (eb_ln r2)) ∧ Q (some (.int (eb_I h r2 x1.toNatClampNeg))) h))))) : eb_Ct d 81 [.ref a0, .int x1] h Q :=
  eb_bodyQ (by decide) ok_X9_heightOf (Nat.le_of_ble_eq_true rfl) (b_X9_heightOf_0 (h0 := h) a0 x1 ka0 ko w)
theorem b_X9_setHeight_0 {d : Nat} {h0 h : eb_H} {Q : Option Value → eb_H → Prop} (a0 : Nat) (x1 : Int32) (x2 : Int32) (ka0 : eb_kd a0 = 9) (ko : eb_KO h) (w : ((x1 < 0 → Q none h) ∧ (¬ (x1 < 0) → ∃ r2, eb_R h a0 6 = some r2 ∧ eb_kd r2 = 13 ∧ (((Int32.ofNat (eb_ln r2)) ≤ x1 → Q none h) ∧ (¬ ((Int32.ofNat (eb_ln r2)) ≤ x1) → (vp_in x1 (eb_ln r2)) ∧ Q none (eb_sI h r2 x1.toNatClampNeg x2)))))) : eb_Sn d m_X9_setHeight h0 0 [(0, .ref a0), (1, .int x1), (2, .int x2)] [] h Q := by
  refine eb_iload_n (pc := 0) (n := 1) (i := 1) rfl rfl rfl ?_
  refine eb_if_lt (pc := 1) (tgt := 20) rfl (by decide) (fun c1 => ?_) (fun c1 => ?_)
  · replace w := w.1 c1
    exact eb_return (pc := 20) rfl rfl w
  · replace w := w.2 c1
    refine eb_iload_n (pc := 4) (n := 1) (i := 1) rfl rfl rfl ?_
    refine eb_aload_n (pc := 5) (n := 0) (i := 0) rfl rfl rfl ?_
    obtain ⟨r2, q3, k4, w⟩ := w
    refine eb_getR (pc := 6) rfl ka0 (by decide) (by decide) rfl q3 ?_
    refine eb_alen (pc := 9) rfl (by rw [k4]; decide) (by rw [k4]; decide) rfl ?_
    refine eb_icmp_ge (pc := 10) (tgt := 20) rfl (by decide) (fun c5 => ?_) (fun c5 => ?_)
    · replace w := w.1 c5
      exact eb_return (pc := 20) rfl rfl w
    · replace w := w.2 c5
      refine eb_aload_n (pc := 13) (n := 0) (i := 0) rfl rfl rfl ?_
      refine eb_getR (pc := 14) rfl ka0 (by decide) (by decide) rfl q3 ?_
      refine eb_iload_n (pc := 17) (n := 1) (i := 1) rfl rfl rfl ?_
      refine eb_iload_n (pc := 18) (n := 2) (i := 2) rfl rfl rfl ?_
      obtain ⟨c6, w⟩ := w
      refine eb_iastore (pc := 19) rfl k4 c6 ?_
      exact eb_return (pc := 20) rfl rfl w
theorem T_X9_setHeight {d : Nat} {h : eb_H} {Q : Option Value → eb_H → Prop} (a0 : Nat) (x1 : Int32) (x2 : Int32) (ka0 : eb_kd a0 = 9) (ko : eb_KO h) (w : ((x1 < 0 → Q none h) ∧ (¬ (x1 < 0) → ∃ r2, eb_R h a0 6 = some r2 ∧ eb_kd r2 = 13 ∧ (((Int32.ofNat (eb_ln r2)) ≤ x1 → Q none h) ∧ (¬ ((Int32.ofNat (eb_ln r2)) ≤ x1) → (vp_in x1 (eb_ln r2)) ∧ Q none (eb_sI h r2 x1.toNatClampNeg x2)))))) : eb_Ct d 82 [.ref a0, .int x1, .int x2] h Q :=
  eb_bodyQ (by decide) ok_X9_setHeight (Nat.le_of_ble_eq_true rfl) (b_X9_setHeight_0 (h0 := h) a0 x1 x2 ka0 ko w)
theorem b_X9_hasHouse_0 {d : Nat} {h0 h : eb_H} {Q : Option Value → eb_H → Prop} (a0 : Nat) (x1 : Int32) (ka0 : eb_kd a0 = 9) (ko : eb_KO h) (w : Q (some (.int (if x1 < 0 then 0 else (if (eb_I h a0 4) ≤ x1 then 0 else 1) : Int32))) h) : eb_Sn d m_X9_hasHouse h0 0 [(0, .ref a0), (1, .int x1)] [] h Q := by
  refine eb_iload_n (pc := 0) (n := 1) (i := 1) rfl rfl rfl ?_
  have jj3 : eb_Sn d m_X9_hasHouse h0 17 [(0, .ref a0), (1, .int x1)] [.int (if x1 < 0 then 0 else (if (eb_I h a0 4) ≤ x1 then 0 else 1) : Int32)] h Q := by
    exact eb_ireturn (pc := 17) rfl rfl (by (repeat' split) <;> rfl) w
  refine eb_if_lt (pc := 1) (tgt := 16) rfl (by decide) (fun c1 => ?_) (fun c1 => ?_)
  · refine eb_iconst (pc := 16) (n := 0) (v := 0) rfl rfl ?_
    simp only [if_pos c1] at jj3 ⊢
    exact jj3
  · refine eb_iload_n (pc := 4) (n := 1) (i := 1) rfl rfl rfl ?_
    refine eb_aload_n (pc := 5) (n := 0) (i := 0) rfl rfl rfl ?_
    refine eb_getI (pc := 6) rfl ka0 (by decide) (by decide) rfl ?_
    refine eb_icmp_ge (pc := 9) (tgt := 16) rfl (by decide) (fun c2 => ?_) (fun c2 => ?_)
    · refine eb_iconst (pc := 16) (n := 0) (v := 0) rfl rfl ?_
      simp only [if_neg c1, if_pos c2] at jj3 ⊢
      exact jj3
    · refine eb_iconst (pc := 12) (n := 1) (v := 1) rfl rfl ?_
      refine eb_goto (pc := 13) (tgt := 17) rfl (by decide) ?_
      simp only [if_neg c1, if_neg c2] at jj3 ⊢
      exact jj3
theorem T_X9_hasHouse {d : Nat} {h : eb_H} {Q : Option Value → eb_H → Prop} (a0 : Nat) (x1 : Int32) (ka0 : eb_kd a0 = 9) (ko : eb_KO h) (w : Q (some (.int (if x1 < 0 then 0 else (if (eb_I h a0 4) ≤ x1 then 0 else 1) : Int32))) h) : eb_Ct d 83 [.ref a0, .int x1] h Q :=
  eb_bodyQ (by decide) ok_X9_hasHouse (Nat.le_of_ble_eq_true rfl) (b_X9_hasHouse_0 (h0 := h) a0 x1 ka0 ko w)
theorem b_X9_houseCell_0 {d : Nat} {h0 h : eb_H} {Q : Option Value → eb_H → Prop} (a0 : Nat) (x1 : Int32) (ka0 : eb_kd a0 = 9) (ko : eb_KO h) (w : ((x1 < 0 → Q (some (.int (-1))) h) ∧ (¬ (x1 < 0) → ∃ r2, eb_R h a0 5 = some r2 ∧ eb_kd r2 = 13 ∧ (((Int32.ofNat (eb_ln r2)) ≤ x1 → Q (some (.int (-1))) h) ∧ (¬ ((Int32.ofNat (eb_ln r2)) ≤ x1) → (vp_in x1 (eb_ln r2)) ∧ Q (some (.int (eb_I h r2 x1.toNatClampNeg))) h))))) : eb_Sn d m_X9_houseCell h0 0 [(0, .ref a0), (1, .int x1)] [] h Q := by
  refine eb_iload_n (pc := 0) (n := 1) (i := 1) rfl rfl rfl ?_
  refine eb_if_lt (pc := 1) (tgt := 22) rfl (by decide) (fun c1 => ?_) (fun c1 => ?_)
  · replace w := w.1 c1
    refine eb_iconst (pc := 22) (n := -1) (v := (-1)) rfl rfl ?_
    exact eb_ireturn (pc := 23) rfl rfl rfl w
  · replace w := w.2 c1
    refine eb_iload_n (pc := 4) (n := 1) (i := 1) rfl rfl rfl ?_
    refine eb_aload_n (pc := 5) (n := 0) (i := 0) rfl rfl rfl ?_
    obtain ⟨r2, q3, k4, w⟩ := w
    refine eb_getR (pc := 6) rfl ka0 (by decide) (by decide) rfl q3 ?_
    refine eb_alen (pc := 9) rfl (by rw [k4]; decide) (by rw [k4]; decide) rfl ?_
    refine eb_icmp_ge (pc := 10) (tgt := 22) rfl (by decide) (fun c5 => ?_) (fun c5 => ?_)
    · replace w := w.1 c5
      refine eb_iconst (pc := 22) (n := -1) (v := (-1)) rfl rfl ?_
      exact eb_ireturn (pc := 23) rfl rfl rfl w
    · replace w := w.2 c5
      refine eb_aload_n (pc := 13) (n := 0) (i := 0) rfl rfl rfl ?_
      refine eb_getR (pc := 14) rfl ka0 (by decide) (by decide) rfl q3 ?_
      refine eb_iload_n (pc := 17) (n := 1) (i := 1) rfl rfl rfl ?_
      obtain ⟨c6, w⟩ := w
      refine eb_iaload (pc := 18) rfl k4 c6 ?_
      refine eb_goto (pc := 19) (tgt := 23) rfl (by decide) ?_
      exact eb_ireturn (pc := 23) rfl rfl rfl w
theorem T_X9_houseCell {d : Nat} {h : eb_H} {Q : Option Value → eb_H → Prop} (a0 : Nat) (x1 : Int32) (ka0 : eb_kd a0 = 9) (ko : eb_KO h) (w : ((x1 < 0 → Q (some (.int (-1))) h) ∧ (¬ (x1 < 0) → ∃ r2, eb_R h a0 5 = some r2 ∧ eb_kd r2 = 13 ∧ (((Int32.ofNat (eb_ln r2)) ≤ x1 → Q (some (.int (-1))) h) ∧ (¬ ((Int32.ofNat (eb_ln r2)) ≤ x1) → (vp_in x1 (eb_ln r2)) ∧ Q (some (.int (eb_I h r2 x1.toNatClampNeg))) h))))) : eb_Ct d 84 [.ref a0, .int x1] h Q :=
  eb_bodyQ (by decide) ok_X9_houseCell (Nat.le_of_ble_eq_true rfl) (b_X9_houseCell_0 (h0 := h) a0 x1 ka0 ko w)
theorem b_X9_addHouse_0 {d : Nat} {h0 h : eb_H} {Q : Option Value → eb_H → Prop} (a0 : Nat) (x1 : Int32) (ka0 : eb_kd a0 = 9) (ko : eb_KO h) (w : (((eb_I h a0 4) < 0 → Q none h) ∧ (¬ ((eb_I h a0 4) < 0) → ∃ r2, eb_R h a0 5 = some r2 ∧ eb_kd r2 = 13 ∧ (((eb_I h a0 4) < (Int32.ofNat (eb_ln r2)) → (vp_in (eb_I h a0 4) (eb_ln r2)) ∧ Q none (eb_sI (eb_sI h r2 (eb_I h a0 4).toNatClampNeg x1) a0 4 ((eb_I (eb_sI h r2 (eb_I h a0 4).toNatClampNeg x1) a0 4) + 1))) ∧ (¬ ((eb_I h a0 4) < (Int32.ofNat (eb_ln r2))) → Q none h))))) : eb_Sn d m_X9_addHouse h0 0 [(0, .ref a0), (1, .int x1)] [] h Q := by
  refine eb_aload_n (pc := 0) (n := 0) (i := 0) rfl rfl rfl ?_
  refine eb_getI (pc := 1) rfl ka0 (by decide) (by decide) rfl ?_
  refine eb_if_lt (pc := 4) (tgt := 19) rfl (by decide) (fun c1 => ?_) (fun c1 => ?_)
  · replace w := w.1 c1
    exact eb_return (pc := 19) rfl rfl w
  · replace w := w.2 c1
    refine eb_aload_n (pc := 7) (n := 0) (i := 0) rfl rfl rfl ?_
    refine eb_getI (pc := 8) rfl ka0 (by decide) (by decide) rfl ?_
    refine eb_aload_n (pc := 11) (n := 0) (i := 0) rfl rfl rfl ?_
    obtain ⟨r2, q3, k4, w⟩ := w
    refine eb_getR (pc := 12) rfl ka0 (by decide) (by decide) rfl q3 ?_
    refine eb_alen (pc := 15) rfl (by rw [k4]; decide) (by rw [k4]; decide) rfl ?_
    refine eb_icmp_lt (pc := 16) (tgt := 20) rfl (by decide) (fun c5 => ?_) (fun c5 => ?_)
    · replace w := w.1 c5
      refine eb_aload_n (pc := 20) (n := 0) (i := 0) rfl rfl rfl ?_
      refine eb_getR (pc := 21) rfl ka0 (by decide) (by decide) rfl q3 ?_
      refine eb_aload_n (pc := 24) (n := 0) (i := 0) rfl rfl rfl ?_
      refine eb_getI (pc := 25) rfl ka0 (by decide) (by decide) rfl ?_
      refine eb_iload_n (pc := 28) (n := 1) (i := 1) rfl rfl rfl ?_
      obtain ⟨c6, w⟩ := w
      refine eb_iastore (pc := 29) rfl k4 c6 ?_
      refine eb_aload_n (pc := 30) (n := 0) (i := 0) rfl rfl rfl ?_
      refine eb_dupr (pc := 31) rfl ?_
      refine eb_getI (pc := 32) rfl ka0 (by decide) (by decide) rfl ?_
      refine eb_iconst (pc := 35) (n := 1) (v := 1) rfl rfl ?_
      refine eb_iadd (pc := 36) rfl ?_
      refine eb_putI (pc := 37) rfl ka0 (by decide) (by decide) rfl rfl ⟨rfl, rfl⟩ ?_
      exact eb_return (pc := 40) rfl rfl w
    · replace w := w.2 c5
      exact eb_return (pc := 19) rfl rfl w
theorem T_X9_addHouse {d : Nat} {h : eb_H} {Q : Option Value → eb_H → Prop} (a0 : Nat) (x1 : Int32) (ka0 : eb_kd a0 = 9) (ko : eb_KO h) (w : (((eb_I h a0 4) < 0 → Q none h) ∧ (¬ ((eb_I h a0 4) < 0) → ∃ r2, eb_R h a0 5 = some r2 ∧ eb_kd r2 = 13 ∧ (((eb_I h a0 4) < (Int32.ofNat (eb_ln r2)) → (vp_in (eb_I h a0 4) (eb_ln r2)) ∧ Q none (eb_sI (eb_sI h r2 (eb_I h a0 4).toNatClampNeg x1) a0 4 ((eb_I (eb_sI h r2 (eb_I h a0 4).toNatClampNeg x1) a0 4) + 1))) ∧ (¬ ((eb_I h a0 4) < (Int32.ofNat (eb_ln r2))) → Q none h))))) : eb_Ct d 85 [.ref a0, .int x1] h Q :=
  eb_bodyQ (by decide) ok_X9_addHouse (Nat.le_of_ble_eq_true rfl) (b_X9_addHouse_0 (h0 := h) a0 x1 ka0 ko w)
theorem b_X9_firstHouseIn_0 {d : Nat} {h0 h : eb_H} {Q : Option Value → eb_H → Prop} (a0 : Nat) (x1 : Int32) (ka0 : eb_kd a0 = 9) (ko : eb_KO h) (w : eb_Sn (d + 1) m_X9_firstHouseIn h0 2 [(0, .ref a0), (1, .int x1), (2, .int 0)] [] h Q) : eb_Sn (d + 1) m_X9_firstHouseIn h0 0 [(0, .ref a0), (1, .int x1)] [] h Q := by
  refine eb_iconst (pc := 0) (n := 0) (v := 0) rfl rfl ?_
  refine eb_istore_n (pc := 1) (n := 2) (i := 2) (ls2 := [(2, .int 0), (0, .ref a0), (1, .int x1)]) rfl (Nat.le_of_ble_eq_true rfl) rfl rfl ?_
  exact eb_pick [1, 2, 0] rfl w
theorem b_X9_firstHouseIn_2 {d : Nat} {h0 h : eb_H} {Q : Option Value → eb_H → Prop} (a0 : Nat) (x1 : Int32) (x2 : Int32) (ka0 : eb_kd a0 = 9) (ko : eb_KO h) (w : (((eb_I h a0 4) ≤ x2 → Q (some (.int (-1))) h) ∧ (¬ ((eb_I h a0 4) ≤ x2) → eb_Ct d 84 [.ref a0, .int x2] h (fun r h2 => ∃ y3, r = some (.int y3) ∧ eb_KO h2 ∧ ((¬ y3 = x1 → eb_Sn (d + 1) m_X9_firstHouseIn h0 2 [(0, .ref a0), (1, .int x1), (2, .int (x2 + 1))] [] h2 Q) ∧ (y3 = x1 → Q (some (.int x2)) h2)))))) : eb_Sn (d + 1) m_X9_firstHouseIn h0 2 [(0, .ref a0), (1, .int x1), (2, .int x2)] [] h Q := by
  refine eb_iload_n (pc := 2) (n := 2) (i := 2) rfl rfl rfl ?_
  refine eb_aload_n (pc := 3) (n := 0) (i := 0) rfl rfl rfl ?_
  refine eb_getI (pc := 4) rfl ka0 (by decide) (by decide) rfl ?_
  refine eb_icmp_ge (pc := 7) (tgt := 27) rfl (by decide) (fun c1 => ?_) (fun c1 => ?_)
  · replace w := w.1 c1
    refine eb_iconst (pc := 27) (n := -1) (v := (-1)) rfl rfl ?_
    exact eb_ireturn (pc := 28) rfl rfl rfl w
  · replace w := w.2 c1
    refine eb_aload_n (pc := 10) (n := 0) (i := 0) rfl rfl rfl ?_
    refine eb_iload_n (pc := 11) (n := 2) (i := 2) rfl rfl rfl ?_
    refine eb_ctV (pc := 12) (As := [.int x2]) (rest := []) rfl (by decide) rfl ka0 (by decide) rfl (Nat.le_of_ble_eq_true rfl) ?_
    refine eb_Ct.mono w ?_
    rintro r h2 ⟨y3, rfl, ko4, w⟩
    change eb_Sn _ _ _ 15 _ [.int y3] _ _
    refine eb_iload_n (pc := 15) (n := 1) (i := 1) rfl rfl rfl ?_
    refine eb_icmp_ne (pc := 16) (tgt := 21) rfl (by decide) (fun c5 => ?_) (fun c5 => ?_)
    · replace w := w.1 c5
      refine eb_iinc (pc := 21) (i := 2) (n := 1) (v := x2 + 1) (ls2 := [(2, .int (x2 + 1)), (0, .ref a0), (1, .int x1)]) (Nat.le_of_ble_eq_true rfl) rfl rfl rfl rfl ?_
      refine eb_goto (pc := 24) (tgt := 2) rfl (by decide) ?_
      exact eb_pick [1, 2, 0] rfl w
    · replace w := w.2 c5
      refine eb_iload_n (pc := 19) (n := 2) (i := 2) rfl rfl rfl ?_
      exact eb_ireturn (pc := 20) rfl rfl rfl w
theorem T_X9_firstHouseIn {d : Nat} {h : eb_H} {Q : Option Value → eb_H → Prop} (a0 : Nat) (x1 : Int32) (ka0 : eb_kd a0 = 9) (ko : eb_KO h) (w : eb_Sn (d + 1) m_X9_firstHouseIn h 2 [(0, .ref a0), (1, .int x1), (2, .int 0)] [] h Q) : eb_Ct (d + 1) 86 [.ref a0, .int x1] h Q :=
  eb_bodyQ (by decide) ok_X9_firstHouseIn (Nat.le_of_ble_eq_true rfl) (b_X9_firstHouseIn_0 (h0 := h) a0 x1 ka0 ko w)
theorem b_X9_neighbour_0 {d : Nat} {h0 h : eb_H} {Q : Option Value → eb_H → Prop} (a0 : Nat) (x1 : Int32) (x2 : Int32) (ka0 : eb_kd a0 = 9) (ko : eb_KO h) (w : eb_Ct d 80 [.ref a0, .int x1] h (fun r h1 => ∃ y2, r = some (.int y2) ∧ eb_KO h1 ∧ ((y2 = 0 → Q (some (.int (-1))) h1) ∧ (¬ (y2 = 0) → (((1 : Int32) ≤ (eb_I h1 a0 1) → (¬ (eb_I h1 a0 1) = 0) ∧ ((x2 = 0 → Q (some (.int (if x1 < (eb_I h1 a0 1) then (-1) else x1 - (eb_I h1 a0 1) : Int32))) h1) ∧ (x2 = 1 → Q (some (.int (if (eb_I h1 a0 1) ≤ ((x1 - x1 / (eb_I h1 a0 1) * (eb_I h1 a0 1)) + 1) then (-1) else x1 + 1 : Int32))) h1) ∧ (x2 = 2 → eb_Ct d 80 [.ref a0, .int (x1 + (eb_I h1 a0 1))] h1 (fun r h11 => ∃ y12, r = some (.int y12) ∧ eb_KO h11 ∧ Q (some (.int (if y12 = 0 then (-1) else x1 + (eb_I h11 a0 1) : Int32))) h11)) ∧ (x2 = 3 → Q (some (.int (if (x1 - x1 / (eb_I h1 a0 1) * (eb_I h1 a0 1)) ≤ 0 then (-1) else x1 - 1 : Int32))) h1) ∧ (¬ x2 = 0 → ¬ x2 = 1 → ¬ x2 = 2 → ¬ x2 = 3 → Q (some (.int (-1))) h1))) ∧ (¬ ((1 : Int32) ≤ (eb_I h1 a0 1)) → Q (some (.int (-1))) h1)))))) : eb_Sn (d + 1) m_X9_neighbour h0 0 [(0, .ref a0), (1, .int x1), (2, .int x2)] [] h Q := by
  refine eb_aload_n (pc := 0) (n := 0) (i := 0) rfl rfl rfl ?_
  refine eb_iload_n (pc := 1) (n := 1) (i := 1) rfl rfl rfl ?_
  refine eb_ctV (pc := 2) (As := [.int x1]) (rest := []) rfl (by decide) rfl ka0 (by decide) rfl (Nat.le_of_ble_eq_true rfl) ?_
  refine eb_Ct.mono w ?_
  rintro r h1 ⟨y2, rfl, ko3, w⟩
  change eb_Sn _ _ _ 5 _ [.int y2] _ _
  refine eb_if_eq (pc := 5) (tgt := 16) rfl (by decide) (fun c4 => ?_) (fun c4 => ?_)
  · replace w := w.1 c4
    refine eb_iconst (pc := 16) (n := -1) (v := (-1)) rfl rfl ?_
    exact eb_ireturn (pc := 17) rfl rfl rfl w
  · replace w := w.2 c4
    refine eb_aload_n (pc := 8) (n := 0) (i := 0) rfl rfl rfl ?_
    refine eb_getI (pc := 9) rfl ka0 (by decide) (by decide) rfl ?_
    refine eb_iconst (pc := 12) (n := 1) (v := 1) rfl rfl ?_
    refine eb_icmp_ge (pc := 13) (tgt := 18) rfl (by decide) (fun c5 => ?_) (fun c5 => ?_)
    · replace w := w.1 c5
      refine eb_iload_n (pc := 18) (n := 1) (i := 1) rfl rfl rfl ?_
      refine eb_aload_n (pc := 19) (n := 0) (i := 0) rfl rfl rfl ?_
      refine eb_getI (pc := 20) rfl ka0 (by decide) (by decide) rfl ?_
      obtain ⟨c6, w⟩ := w
      refine eb_irem (pc := 23) c6 rfl ?_
      refine eb_istore_n (pc := 24) (n := 3) (i := 3) (ls2 := [(3, .int (x1 - x1 / (eb_I h1 a0 1) * (eb_I h1 a0 1))), (0, .ref a0), (1, .int x1), (2, .int x2)]) rfl (Nat.le_of_ble_eq_true rfl) rfl rfl ?_
      refine eb_iload_n (pc := 25) (n := 2) (i := 2) rfl rfl rfl ?_
      by_cases s0 : x2 = 0
      · refine eb_tableIn (pc := 26) (j := 0) (tgt := 56) (by rw [s0]; decide) (by decide) (by rfl) (by decide) rfl ?_
        replace w := w.1 s0
        refine eb_iload_n (pc := 56) (n := 1) (i := 1) rfl rfl rfl ?_
        refine eb_aload_n (pc := 57) (n := 0) (i := 0) rfl rfl rfl ?_
        refine eb_getI (pc := 58) rfl ka0 (by decide) (by decide) rfl ?_
        have jj8 : eb_Sn (d + 1) m_X9_neighbour h0 74 [(3, .int (x1 - x1 / (eb_I h1 a0 1) * (eb_I h1 a0 1))), (0, .ref a0), (1, .int x1), (2, .int x2)] [.int (if x1 < (eb_I h1 a0 1) then (-1) else x1 - (eb_I h1 a0 1) : Int32)] h1 Q := by
          exact eb_ireturn (pc := 74) rfl rfl rfl w
        refine eb_icmp_lt (pc := 61) (tgt := 73) rfl (by decide) (fun c7 => ?_) (fun c7 => ?_)
        · refine eb_iconst (pc := 73) (n := -1) (v := (-1)) rfl rfl ?_
          simp only [if_pos c7] at jj8 ⊢
          exact jj8
        · refine eb_iload_n (pc := 64) (n := 1) (i := 1) rfl rfl rfl ?_
          refine eb_aload_n (pc := 65) (n := 0) (i := 0) rfl rfl rfl ?_
          refine eb_getI (pc := 66) rfl ka0 (by decide) (by decide) rfl ?_
          refine eb_isub (pc := 69) rfl ?_
          refine eb_goto (pc := 70) (tgt := 74) rfl (by decide) ?_
          simp only [if_neg c7] at jj8 ⊢
          exact jj8
      by_cases s1 : x2 = 1
      · refine eb_tableIn (pc := 26) (j := 1) (tgt := 75) (by rw [s1]; decide) (by decide) (by rfl) (by decide) rfl ?_
        replace w := w.2.1 s1
        refine eb_iload_n (pc := 75) (n := 3) (i := 3) rfl rfl rfl ?_
        refine eb_iconst (pc := 76) (n := 1) (v := 1) rfl rfl ?_
        refine eb_iadd (pc := 77) rfl ?_
        refine eb_aload_n (pc := 78) (n := 0) (i := 0) rfl rfl rfl ?_
        refine eb_getI (pc := 79) rfl ka0 (by decide) (by decide) rfl ?_
        have jj10 : eb_Sn (d + 1) m_X9_neighbour h0 92 [(3, .int (x1 - x1 / (eb_I h1 a0 1) * (eb_I h1 a0 1))), (0, .ref a0), (1, .int x1), (2, .int x2)] [.int (if (eb_I h1 a0 1) ≤ ((x1 - x1 / (eb_I h1 a0 1) * (eb_I h1 a0 1)) + 1) then (-1) else x1 + 1 : Int32)] h1 Q := by
          exact eb_ireturn (pc := 92) rfl rfl rfl w
        refine eb_icmp_ge (pc := 82) (tgt := 91) rfl (by decide) (fun c9 => ?_) (fun c9 => ?_)
        · refine eb_iconst (pc := 91) (n := -1) (v := (-1)) rfl rfl ?_
          simp only [if_pos c9] at jj10 ⊢
          exact jj10
        · refine eb_iload_n (pc := 85) (n := 1) (i := 1) rfl rfl rfl ?_
          refine eb_iconst (pc := 86) (n := 1) (v := 1) rfl rfl ?_
          refine eb_iadd (pc := 87) rfl ?_
          refine eb_goto (pc := 88) (tgt := 92) rfl (by decide) ?_
          simp only [if_neg c9] at jj10 ⊢
          exact jj10
      by_cases s2 : x2 = 2
      · refine eb_tableIn (pc := 26) (j := 2) (tgt := 93) (by rw [s2]; decide) (by decide) (by rfl) (by decide) rfl ?_
        replace w := w.2.2.1 s2
        refine eb_aload_n (pc := 93) (n := 0) (i := 0) rfl rfl rfl ?_
        refine eb_iload_n (pc := 94) (n := 1) (i := 1) rfl rfl rfl ?_
        refine eb_aload_n (pc := 95) (n := 0) (i := 0) rfl rfl rfl ?_
        refine eb_getI (pc := 96) rfl ka0 (by decide) (by decide) rfl ?_
        refine eb_iadd (pc := 99) rfl ?_
        refine eb_ctV (pc := 100) (As := [.int (x1 + (eb_I h1 a0 1))]) (rest := []) rfl (by decide) rfl ka0 (by decide) rfl (Nat.le_of_ble_eq_true rfl) ?_
        refine eb_Ct.mono w ?_
        rintro r h11 ⟨y12, rfl, ko13, w⟩
        change eb_Sn _ _ _ 103 _ [.int y12] _ _
        have jj15 : eb_Sn (d + 1) m_X9_neighbour h0 116 [(3, .int (x1 - x1 / (eb_I h1 a0 1) * (eb_I h1 a0 1))), (0, .ref a0), (1, .int x1), (2, .int x2)] [.int (if y12 = 0 then (-1) else x1 + (eb_I h11 a0 1) : Int32)] h11 Q := by
          exact eb_ireturn (pc := 116) rfl rfl rfl w
        refine eb_if_eq (pc := 103) (tgt := 115) rfl (by decide) (fun c14 => ?_) (fun c14 => ?_)
        · refine eb_iconst (pc := 115) (n := -1) (v := (-1)) rfl rfl ?_
          simp only [if_pos c14] at jj15 ⊢
          exact jj15
        · refine eb_iload_n (pc := 106) (n := 1) (i := 1) rfl rfl rfl ?_
          refine eb_aload_n (pc := 107) (n := 0) (i := 0) rfl rfl rfl ?_
          refine eb_getI (pc := 108) rfl ka0 (by decide) (by decide) rfl ?_
          refine eb_iadd (pc := 111) rfl ?_
          refine eb_goto (pc := 112) (tgt := 116) rfl (by decide) ?_
          simp only [if_neg c14] at jj15 ⊢
          exact jj15
      by_cases s3 : x2 = 3
      · refine eb_tableIn (pc := 26) (j := 3) (tgt := 117) (by rw [s3]; decide) (by decide) (by rfl) (by decide) rfl ?_
        replace w := w.2.2.2.1 s3
        refine eb_iload_n (pc := 117) (n := 3) (i := 3) rfl rfl rfl ?_
        have jj17 : eb_Sn (d + 1) m_X9_neighbour h0 128 [(3, .int (x1 - x1 / (eb_I h1 a0 1) * (eb_I h1 a0 1))), (0, .ref a0), (1, .int x1), (2, .int x2)] [.int (if (x1 - x1 / (eb_I h1 a0 1) * (eb_I h1 a0 1)) ≤ 0 then (-1) else x1 - 1 : Int32)] h1 Q := by
          exact eb_ireturn (pc := 128) rfl rfl rfl w
        refine eb_if_le (pc := 118) (tgt := 127) rfl (by decide) (fun c16 => ?_) (fun c16 => ?_)
        · refine eb_iconst (pc := 127) (n := -1) (v := (-1)) rfl rfl ?_
          simp only [if_pos c16] at jj17 ⊢
          exact jj17
        · refine eb_iload_n (pc := 121) (n := 1) (i := 1) rfl rfl rfl ?_
          refine eb_iconst (pc := 122) (n := 1) (v := 1) rfl rfl ?_
          refine eb_isub (pc := 123) rfl ?_
          refine eb_goto (pc := 124) (tgt := 128) rfl (by decide) ?_
          simp only [if_neg c16] at jj17 ⊢
          exact jj17
      refine eb_tableOut (pc := 26) (tgt := 129) (by have z0 := lv_neT (a := 0) s0 (by decide); have z1 := lv_neT (a := 1) s1 (by decide); have z2 := lv_neT (a := 2) s2 (by decide); have z3 := lv_neT (a := 3) s3 (by decide); omega) (by decide) rfl ?_
      replace w := w.2.2.2.2 s0 s1 s2 s3
      refine eb_iconst (pc := 129) (n := -1) (v := (-1)) rfl rfl ?_
      exact eb_ireturn (pc := 130) rfl rfl rfl w
    · replace w := w.2 c5
      refine eb_iconst (pc := 16) (n := -1) (v := (-1)) rfl rfl ?_
      exact eb_ireturn (pc := 17) rfl rfl rfl w
theorem T_X9_neighbour {d : Nat} {h : eb_H} {Q : Option Value → eb_H → Prop} (a0 : Nat) (x1 : Int32) (x2 : Int32) (ka0 : eb_kd a0 = 9) (ko : eb_KO h) (w : eb_Ct d 80 [.ref a0, .int x1] h (fun r h1 => ∃ y2, r = some (.int y2) ∧ eb_KO h1 ∧ ((y2 = 0 → Q (some (.int (-1))) h1) ∧ (¬ (y2 = 0) → (((1 : Int32) ≤ (eb_I h1 a0 1) → (¬ (eb_I h1 a0 1) = 0) ∧ ((x2 = 0 → Q (some (.int (if x1 < (eb_I h1 a0 1) then (-1) else x1 - (eb_I h1 a0 1) : Int32))) h1) ∧ (x2 = 1 → Q (some (.int (if (eb_I h1 a0 1) ≤ ((x1 - x1 / (eb_I h1 a0 1) * (eb_I h1 a0 1)) + 1) then (-1) else x1 + 1 : Int32))) h1) ∧ (x2 = 2 → eb_Ct d 80 [.ref a0, .int (x1 + (eb_I h1 a0 1))] h1 (fun r h11 => ∃ y12, r = some (.int y12) ∧ eb_KO h11 ∧ Q (some (.int (if y12 = 0 then (-1) else x1 + (eb_I h11 a0 1) : Int32))) h11)) ∧ (x2 = 3 → Q (some (.int (if (x1 - x1 / (eb_I h1 a0 1) * (eb_I h1 a0 1)) ≤ 0 then (-1) else x1 - 1 : Int32))) h1) ∧ (¬ x2 = 0 → ¬ x2 = 1 → ¬ x2 = 2 → ¬ x2 = 3 → Q (some (.int (-1))) h1))) ∧ (¬ ((1 : Int32) ≤ (eb_I h1 a0 1)) → Q (some (.int (-1))) h1)))))) : eb_Ct (d + 1) 87 [.ref a0, .int x1, .int x2] h Q :=
  eb_bodyQ (by decide) ok_X9_neighbour (Nat.le_of_ble_eq_true rfl) (b_X9_neighbour_0 (h0 := h) a0 x1 x2 ka0 ko w)
theorem b_X9_verdict_0 {d : Nat} {h0 h : eb_H} {Q : Option Value → eb_H → Prop} (a0 : Nat) (x1 : Int32) (x2 : Int32) (x3 : Int32) (x4 : Int32) (x5 : Int32) (ka0 : eb_kd a0 = 9) (ko : eb_KO h) (w : eb_Ct d 81 [.ref a0, .int x2] h (fun r h1 => ∃ y2, r = some (.int y2) ∧ eb_KO h1 ∧ eb_Ct d 81 [.ref a0, .int x1] h1 (fun r h4 => ∃ y5, r = some (.int y5) ∧ eb_KO h4 ∧ ((eb_R h4 a0 7 = none → ((x5 < (1 : Int32) → Q (some (.int 2)) h4) ∧ (¬ (x5 < (1 : Int32)) → ((x3 < (eb_I h4 a0 2) → ((eb_R h4 a0 8 = none → Q (some (.int 3)) h4) ∧ (∀ r12, eb_R h4 a0 8 = some r12 → (eb_kd r12 = 2) ∧ eb_Ct d 25 [.ref r12, .int y2, .int y5, .int x3, .int x4, .int x2, .int x5] h4 (fun r h14 => ∃ y15, r = some (.int y15) ∧ eb_KO h14 ∧ ((¬ y15 = 0 → Q (some (.int 3)) h14) ∧ (y15 = 0 → Q (some (.int 2)) h14)))))) ∧ (¬ (x3 < (eb_I h4 a0 2)) → Q (some (.int 2)) h4))))) ∧ (∀ r8, eb_R h4 a0 7 = some r8 → (eb_kd r8 = 2) ∧ eb_Ct d 25 [.ref r8, .int y2, .int y5, .int x3, .int x4, .int x2, .int x5] h4 (fun r h19 => ∃ y20, r = some (.int y20) ∧ eb_KO h19 ∧ ((¬ y20 = 0 → ((x5 < (1 : Int32) → Q (some (.int 2)) h19) ∧ (¬ (x5 < (1 : Int32)) → ((x3 < (eb_I h19 a0 2) → ((eb_R h19 a0 8 = none → Q (some (.int 3)) h19) ∧ (∀ r26, eb_R h19 a0 8 = some r26 → (eb_kd r26 = 2) ∧ eb_Ct d 25 [.ref r26, .int y2, .int y5, .int x3, .int x4, .int x2, .int x5] h19 (fun r h28 => ∃ y29, r = some (.int y29) ∧ eb_KO h28 ∧ ((¬ y29 = 0 → Q (some (.int 3)) h28) ∧ (y29 = 0 → Q (some (.int 2)) h28)))))) ∧ (¬ (x3 < (eb_I h19 a0 2)) → Q (some (.int 2)) h19))))) ∧ (y20 = 0 → Q (some (.int 1)) h19)))))))) : eb_Sn (d + 1) m_X9_verdict h0 0 [(0, .ref a0), (1, .int x1), (2, .int x2), (3, .int x3), (4, .int x4), (5, .int x5)] [] h Q := by
  refine eb_aload_n (pc := 0) (n := 0) (i := 0) rfl rfl rfl ?_
  refine eb_iload_n (pc := 1) (n := 2) (i := 2) rfl rfl rfl ?_
  refine eb_ctV (pc := 2) (As := [.int x2]) (rest := []) rfl (by decide) rfl ka0 (by decide) rfl (Nat.le_of_ble_eq_true rfl) ?_
  refine eb_Ct.mono w ?_
  rintro r h1 ⟨y2, rfl, ko3, w⟩
  change eb_Sn _ _ _ 5 _ [.int y2] _ _
  refine eb_istore (pc := 5) (i := 6) (ls2 := [(6, .int y2), (0, .ref a0), (1, .int x1), (2, .int x2), (3, .int x3), (4, .int x4), (5, .int x5)]) (Nat.le_of_ble_eq_true rfl) rfl rfl ?_
  refine eb_aload_n (pc := 7) (n := 0) (i := 0) rfl rfl rfl ?_
  refine eb_iload_n (pc := 8) (n := 1) (i := 1) rfl rfl rfl ?_
  refine eb_ctV (pc := 9) (As := [.int x1]) (rest := []) rfl (by decide) rfl ka0 (by decide) rfl (Nat.le_of_ble_eq_true rfl) ?_
  refine eb_Ct.mono w ?_
  rintro r h4 ⟨y5, rfl, ko6, w⟩
  change eb_Sn _ _ _ 12 _ [.int y5] _ _
  refine eb_istore (pc := 12) (i := 7) (ls2 := [(7, .int y5), (6, .int y2), (0, .ref a0), (1, .int x1), (2, .int x2), (3, .int x3), (4, .int x4), (5, .int x5)]) (Nat.le_of_ble_eq_true rfl) rfl rfl ?_
  refine eb_aload_n (pc := 14) (n := 0) (i := 0) rfl rfl rfl ?_
  rcases q7 : eb_R h4 a0 7 with _ | r8
  · replace w := w.1 q7
    refine eb_getN (pc := 15) rfl ka0 (by decide) (by decide) rfl q7 ?_
    refine eb_ifnull_n (pc := 18) (tgt := 43) (by decide) rfl ?_
    refine eb_iload (pc := 43) (i := 5) rfl rfl ?_
    refine eb_iconst (pc := 45) (n := 1) (v := 1) rfl rfl ?_
    refine eb_icmp_lt (pc := 46) (tgt := 57) rfl (by decide) (fun c9 => ?_) (fun c9 => ?_)
    · replace w := w.1 c9
      refine eb_iconst (pc := 57) (n := 2) (v := 2) rfl rfl ?_
      exact eb_ireturn (pc := 58) rfl rfl rfl w
    · replace w := w.2 c9
      refine eb_iload_n (pc := 49) (n := 3) (i := 3) rfl rfl rfl ?_
      refine eb_aload_n (pc := 50) (n := 0) (i := 0) rfl rfl rfl ?_
      refine eb_getI (pc := 51) rfl ka0 (by decide) (by decide) rfl ?_
      refine eb_icmp_lt (pc := 54) (tgt := 59) rfl (by decide) (fun c10 => ?_) (fun c10 => ?_)
      · replace w := w.1 c10
        refine eb_aload_n (pc := 59) (n := 0) (i := 0) rfl rfl rfl ?_
        rcases q11 : eb_R h4 a0 8 with _ | r12
        · replace w := w.1 q11
          refine eb_getN (pc := 60) rfl ka0 (by decide) (by decide) rfl q11 ?_
          refine eb_ifnull_n (pc := 63) (tgt := 88) (by decide) rfl ?_
          refine eb_iconst (pc := 88) (n := 3) (v := 3) rfl rfl ?_
          exact eb_ireturn (pc := 89) rfl rfl rfl w
        · replace w := w.2 r12 q11
          refine eb_getR (pc := 60) rfl ka0 (by decide) (by decide) rfl q11 ?_
          refine eb_ifnull_r (pc := 63) rfl ?_
          refine eb_aload_n (pc := 66) (n := 0) (i := 0) rfl rfl rfl ?_
          refine eb_getR (pc := 67) rfl ka0 (by decide) (by decide) rfl q11 ?_
          refine eb_iload (pc := 70) (i := 6) rfl rfl ?_
          refine eb_iload (pc := 72) (i := 7) rfl rfl ?_
          refine eb_iload_n (pc := 74) (n := 3) (i := 3) rfl rfl rfl ?_
          refine eb_iload (pc := 75) (i := 4) rfl rfl ?_
          refine eb_iload_n (pc := 77) (n := 2) (i := 2) rfl rfl rfl ?_
          refine eb_iload (pc := 78) (i := 5) rfl rfl ?_
          obtain ⟨k13, w⟩ := w
          refine eb_ctV (pc := 80) (As := [.int y2, .int y5, .int x3, .int x4, .int x2, .int x5]) (rest := []) rfl (by decide) rfl k13 (by decide) rfl (Nat.le_of_ble_eq_true rfl) ?_
          refine eb_Ct.mono w ?_
          rintro r h14 ⟨y15, rfl, ko16, w⟩
          change eb_Sn _ _ _ 83 _ [.int y15] _ _
          refine eb_if_ne (pc := 83) (tgt := 88) rfl (by decide) (fun c17 => ?_) (fun c17 => ?_)
          · replace w := w.1 c17
            refine eb_iconst (pc := 88) (n := 3) (v := 3) rfl rfl ?_
            exact eb_ireturn (pc := 89) rfl rfl rfl w
          · replace w := w.2 c17
            refine eb_iconst (pc := 86) (n := 2) (v := 2) rfl rfl ?_
            exact eb_ireturn (pc := 87) rfl rfl rfl w
      · replace w := w.2 c10
        refine eb_iconst (pc := 57) (n := 2) (v := 2) rfl rfl ?_
        exact eb_ireturn (pc := 58) rfl rfl rfl w
  · replace w := w.2 r8 q7
    refine eb_getR (pc := 15) rfl ka0 (by decide) (by decide) rfl q7 ?_
    refine eb_ifnull_r (pc := 18) rfl ?_
    refine eb_aload_n (pc := 21) (n := 0) (i := 0) rfl rfl rfl ?_
    refine eb_getR (pc := 22) rfl ka0 (by decide) (by decide) rfl q7 ?_
    refine eb_iload (pc := 25) (i := 6) rfl rfl ?_
    refine eb_iload (pc := 27) (i := 7) rfl rfl ?_
    refine eb_iload_n (pc := 29) (n := 3) (i := 3) rfl rfl rfl ?_
    refine eb_iload (pc := 30) (i := 4) rfl rfl ?_
    refine eb_iload_n (pc := 32) (n := 2) (i := 2) rfl rfl rfl ?_
    refine eb_iload (pc := 33) (i := 5) rfl rfl ?_
    obtain ⟨k18, w⟩ := w
    refine eb_ctV (pc := 35) (As := [.int y2, .int y5, .int x3, .int x4, .int x2, .int x5]) (rest := []) rfl (by decide) rfl k18 (by decide) rfl (Nat.le_of_ble_eq_true rfl) ?_
    refine eb_Ct.mono w ?_
    rintro r h19 ⟨y20, rfl, ko21, w⟩
    change eb_Sn _ _ _ 38 _ [.int y20] _ _
    refine eb_if_ne (pc := 38) (tgt := 43) rfl (by decide) (fun c22 => ?_) (fun c22 => ?_)
    · replace w := w.1 c22
      refine eb_iload (pc := 43) (i := 5) rfl rfl ?_
      refine eb_iconst (pc := 45) (n := 1) (v := 1) rfl rfl ?_
      refine eb_icmp_lt (pc := 46) (tgt := 57) rfl (by decide) (fun c23 => ?_) (fun c23 => ?_)
      · replace w := w.1 c23
        refine eb_iconst (pc := 57) (n := 2) (v := 2) rfl rfl ?_
        exact eb_ireturn (pc := 58) rfl rfl rfl w
      · replace w := w.2 c23
        refine eb_iload_n (pc := 49) (n := 3) (i := 3) rfl rfl rfl ?_
        refine eb_aload_n (pc := 50) (n := 0) (i := 0) rfl rfl rfl ?_
        refine eb_getI (pc := 51) rfl ka0 (by decide) (by decide) rfl ?_
        refine eb_icmp_lt (pc := 54) (tgt := 59) rfl (by decide) (fun c24 => ?_) (fun c24 => ?_)
        · replace w := w.1 c24
          refine eb_aload_n (pc := 59) (n := 0) (i := 0) rfl rfl rfl ?_
          rcases q25 : eb_R h19 a0 8 with _ | r26
          · replace w := w.1 q25
            refine eb_getN (pc := 60) rfl ka0 (by decide) (by decide) rfl q25 ?_
            refine eb_ifnull_n (pc := 63) (tgt := 88) (by decide) rfl ?_
            refine eb_iconst (pc := 88) (n := 3) (v := 3) rfl rfl ?_
            exact eb_ireturn (pc := 89) rfl rfl rfl w
          · replace w := w.2 r26 q25
            refine eb_getR (pc := 60) rfl ka0 (by decide) (by decide) rfl q25 ?_
            refine eb_ifnull_r (pc := 63) rfl ?_
            refine eb_aload_n (pc := 66) (n := 0) (i := 0) rfl rfl rfl ?_
            refine eb_getR (pc := 67) rfl ka0 (by decide) (by decide) rfl q25 ?_
            refine eb_iload (pc := 70) (i := 6) rfl rfl ?_
            refine eb_iload (pc := 72) (i := 7) rfl rfl ?_
            refine eb_iload_n (pc := 74) (n := 3) (i := 3) rfl rfl rfl ?_
            refine eb_iload (pc := 75) (i := 4) rfl rfl ?_
            refine eb_iload_n (pc := 77) (n := 2) (i := 2) rfl rfl rfl ?_
            refine eb_iload (pc := 78) (i := 5) rfl rfl ?_
            obtain ⟨k27, w⟩ := w
            refine eb_ctV (pc := 80) (As := [.int y2, .int y5, .int x3, .int x4, .int x2, .int x5]) (rest := []) rfl (by decide) rfl k27 (by decide) rfl (Nat.le_of_ble_eq_true rfl) ?_
            refine eb_Ct.mono w ?_
            rintro r h28 ⟨y29, rfl, ko30, w⟩
            change eb_Sn _ _ _ 83 _ [.int y29] _ _
            refine eb_if_ne (pc := 83) (tgt := 88) rfl (by decide) (fun c31 => ?_) (fun c31 => ?_)
            · replace w := w.1 c31
              refine eb_iconst (pc := 88) (n := 3) (v := 3) rfl rfl ?_
              exact eb_ireturn (pc := 89) rfl rfl rfl w
            · replace w := w.2 c31
              refine eb_iconst (pc := 86) (n := 2) (v := 2) rfl rfl ?_
              exact eb_ireturn (pc := 87) rfl rfl rfl w
        · replace w := w.2 c24
          refine eb_iconst (pc := 57) (n := 2) (v := 2) rfl rfl ?_
          exact eb_ireturn (pc := 58) rfl rfl rfl w
    · replace w := w.2 c22
      refine eb_iconst (pc := 41) (n := 1) (v := 1) rfl rfl ?_
      exact eb_ireturn (pc := 42) rfl rfl rfl w
theorem T_X9_verdict {d : Nat} {h : eb_H} {Q : Option Value → eb_H → Prop} (a0 : Nat) (x1 : Int32) (x2 : Int32) (x3 : Int32) (x4 : Int32) (x5 : Int32) (ka0 : eb_kd a0 = 9) (ko : eb_KO h) (w : eb_Ct d 81 [.ref a0, .int x2] h (fun r h1 => ∃ y2, r = some (.int y2) ∧ eb_KO h1 ∧ eb_Ct d 81 [.ref a0, .int x1] h1 (fun r h4 => ∃ y5, r = some (.int y5) ∧ eb_KO h4 ∧ ((eb_R h4 a0 7 = none → ((x5 < (1 : Int32) → Q (some (.int 2)) h4) ∧ (¬ (x5 < (1 : Int32)) → ((x3 < (eb_I h4 a0 2) → ((eb_R h4 a0 8 = none → Q (some (.int 3)) h4) ∧ (∀ r12, eb_R h4 a0 8 = some r12 → (eb_kd r12 = 2) ∧ eb_Ct d 25 [.ref r12, .int y2, .int y5, .int x3, .int x4, .int x2, .int x5] h4 (fun r h14 => ∃ y15, r = some (.int y15) ∧ eb_KO h14 ∧ ((¬ y15 = 0 → Q (some (.int 3)) h14) ∧ (y15 = 0 → Q (some (.int 2)) h14)))))) ∧ (¬ (x3 < (eb_I h4 a0 2)) → Q (some (.int 2)) h4))))) ∧ (∀ r8, eb_R h4 a0 7 = some r8 → (eb_kd r8 = 2) ∧ eb_Ct d 25 [.ref r8, .int y2, .int y5, .int x3, .int x4, .int x2, .int x5] h4 (fun r h19 => ∃ y20, r = some (.int y20) ∧ eb_KO h19 ∧ ((¬ y20 = 0 → ((x5 < (1 : Int32) → Q (some (.int 2)) h19) ∧ (¬ (x5 < (1 : Int32)) → ((x3 < (eb_I h19 a0 2) → ((eb_R h19 a0 8 = none → Q (some (.int 3)) h19) ∧ (∀ r26, eb_R h19 a0 8 = some r26 → (eb_kd r26 = 2) ∧ eb_Ct d 25 [.ref r26, .int y2, .int y5, .int x3, .int x4, .int x2, .int x5] h19 (fun r h28 => ∃ y29, r = some (.int y29) ∧ eb_KO h28 ∧ ((¬ y29 = 0 → Q (some (.int 3)) h28) ∧ (y29 = 0 → Q (some (.int 2)) h28)))))) ∧ (¬ (x3 < (eb_I h19 a0 2)) → Q (some (.int 2)) h19))))) ∧ (y20 = 0 → Q (some (.int 1)) h19)))))))) : eb_Ct (d + 1) 88 [.ref a0, .int x1, .int x2, .int x3, .int x4, .int x5] h Q :=
  eb_bodyQ (by decide) ok_X9_verdict (Nat.le_of_ble_eq_true rfl) (b_X9_verdict_0 (h0 := h) a0 x1 x2 x3 x4 x5 ka0 ko w)
theorem b_X9_stepOutcome_0 {d : Nat} {h0 h : eb_H} {Q : Option Value → eb_H → Prop} (a0 : Nat) (a1 : Nat) (x2 : Int32) (ka0 : eb_kd a0 = 9) (ka1 : eb_kd a1 = 6) (ko : eb_KO h) (w : ((x2 < 0 → Q (some (.int (-1))) h) ∧ (¬ (x2 < 0) → ((x2 < (4 : Int32) → eb_Ct d 87 [.ref a0, .int (eb_I h a1 0), .int x2] h (fun r h3 => ∃ y4, r = some (.int y4) ∧ eb_KO h3 ∧ ((¬ y4 = ((-1) : Int32) → eb_Ct d 64 [.ref a1, .int y4] h3 (fun r h7 => ∃ y8, r = some (.int y8) ∧ eb_KO h7 ∧ ((y8 = 0 → eb_Ct d 62 [.ref a1, .int y4] h7 (fun r h11 => ∃ y12, r = some (.int y12) ∧ eb_KO h11 ∧ eb_Ct d 283 [.int (eb_I h11 a1 1)] h11 (fun r h14 => ∃ y15, r = some (.int y15) ∧ eb_KO h14 ∧ eb_Ct d 88 [.ref a0, .int (eb_I h11 a1 0), .int y4, .int y15, .int (eb_I h14 a1 4), .int y12] h14 (fun r h17 => ∃ y18, r = some (.int y18) ∧ eb_KO h17 ∧ ((¬ y18 = (1 : Int32) → ((¬ y18 = (3 : Int32) → Q (some (.int 0)) h17) ∧ (y18 = (3 : Int32) → eb_Ct d 141 [.int y12] h17 (fun r h22 => ∃ y23, r = some (.int y23) ∧ eb_KO h22 ∧ Q (some (.int (if (if ((eb_I h17 a1 1) &&& y23) = 0 then 1 else 0 : Int32) = 0 then 0 else y12 : Int32))) h22)))) ∧ (y18 = (1 : Int32) → Q (some (.int (-4))) h17)))))) ∧ (¬ (y8 = 0) → Q (some (.int (-3))) h7)))) ∧ (y4 = ((-1) : Int32) → Q (some (.int (-2))) h3)))) ∧ (¬ (x2 < (4 : Int32)) → Q (some (.int (-1))) h))))) : eb_Sn (d + 1) m_X9_stepOutcome h0 0 [(0, .ref a0), (1, .ref a1), (2, .int x2)] [] h Q := by
  refine eb_iload_n (pc := 0) (n := 2) (i := 2) rfl rfl rfl ?_
  refine eb_if_lt (pc := 1) (tgt := 9) rfl (by decide) (fun c1 => ?_) (fun c1 => ?_)
  · replace w := w.1 c1
    refine eb_iconst (pc := 9) (n := -1) (v := (-1)) rfl rfl ?_
    exact eb_ireturn (pc := 10) rfl rfl rfl w
  · replace w := w.2 c1
    refine eb_iload_n (pc := 4) (n := 2) (i := 2) rfl rfl rfl ?_
    refine eb_iconst (pc := 5) (n := 4) (v := 4) rfl rfl ?_
    refine eb_icmp_lt (pc := 6) (tgt := 11) rfl (by decide) (fun c2 => ?_) (fun c2 => ?_)
    · replace w := w.1 c2
      refine eb_aload_n (pc := 11) (n := 0) (i := 0) rfl rfl rfl ?_
      refine eb_aload_n (pc := 12) (n := 1) (i := 1) rfl rfl rfl ?_
      refine eb_getI (pc := 13) rfl ka1 (by decide) (by decide) rfl ?_
      refine eb_iload_n (pc := 16) (n := 2) (i := 2) rfl rfl rfl ?_
      refine eb_ctV (pc := 17) (As := [.int (eb_I h a1 0), .int x2]) (rest := []) rfl (by decide) rfl ka0 (by decide) rfl (Nat.le_of_ble_eq_true rfl) ?_
      refine eb_Ct.mono w ?_
      rintro r h3 ⟨y4, rfl, ko5, w⟩
      change eb_Sn _ _ _ 20 _ [.int y4] _ _
      refine eb_istore_n (pc := 20) (n := 3) (i := 3) (ls2 := [(3, .int y4), (0, .ref a0), (1, .ref a1), (2, .int x2)]) rfl (Nat.le_of_ble_eq_true rfl) rfl rfl ?_
      refine eb_iload_n (pc := 21) (n := 3) (i := 3) rfl rfl rfl ?_
      refine eb_iconst (pc := 22) (n := -1) (v := (-1)) rfl rfl ?_
      refine eb_icmp_ne (pc := 23) (tgt := 29) rfl (by decide) (fun c6 => ?_) (fun c6 => ?_)
      · replace w := w.1 c6
        refine eb_aload_n (pc := 29) (n := 1) (i := 1) rfl rfl rfl ?_
        refine eb_iload_n (pc := 30) (n := 3) (i := 3) rfl rfl rfl ?_
        refine eb_ctV (pc := 31) (As := [.int y4]) (rest := []) rfl (by decide) rfl ka1 (by decide) rfl (Nat.le_of_ble_eq_true rfl) ?_
        refine eb_Ct.mono w ?_
        rintro r h7 ⟨y8, rfl, ko9, w⟩
        change eb_Sn _ _ _ 34 _ [.int y8] _ _
        refine eb_if_eq (pc := 34) (tgt := 40) rfl (by decide) (fun c10 => ?_) (fun c10 => ?_)
        · replace w := w.1 c10
          refine eb_aload_n (pc := 40) (n := 1) (i := 1) rfl rfl rfl ?_
          refine eb_iload_n (pc := 41) (n := 3) (i := 3) rfl rfl rfl ?_
          refine eb_ctV (pc := 42) (As := [.int y4]) (rest := []) rfl (by decide) rfl ka1 (by decide) rfl (Nat.le_of_ble_eq_true rfl) ?_
          refine eb_Ct.mono w ?_
          rintro r h11 ⟨y12, rfl, ko13, w⟩
          change eb_Sn _ _ _ 45 _ [.int y12] _ _
          refine eb_istore (pc := 45) (i := 4) (ls2 := [(4, .int y12), (3, .int y4), (0, .ref a0), (1, .ref a1), (2, .int x2)]) (Nat.le_of_ble_eq_true rfl) rfl rfl ?_
          refine eb_aload_n (pc := 47) (n := 0) (i := 0) rfl rfl rfl ?_
          refine eb_aload_n (pc := 48) (n := 1) (i := 1) rfl rfl rfl ?_
          refine eb_getI (pc := 49) rfl ka1 (by decide) (by decide) rfl ?_
          refine eb_iload_n (pc := 52) (n := 3) (i := 3) rfl rfl rfl ?_
          refine eb_aload_n (pc := 53) (n := 1) (i := 1) rfl rfl rfl ?_
          refine eb_getI (pc := 54) rfl ka1 (by decide) (by decide) rfl ?_
          refine eb_ctS (pc := 57) (As := [.int (eb_I h11 a1 1)]) (rest := [.int y4, .int (eb_I h11 a1 0), .ref a0]) rfl (by decide) (by decide) rfl rfl (Nat.le_of_ble_eq_true rfl) ?_
          refine eb_Ct.mono w ?_
          rintro r h14 ⟨y15, rfl, ko16, w⟩
          change eb_Sn _ _ _ 60 _ [.int y15, .int y4, .int (eb_I h11 a1 0), .ref a0] _ _
          refine eb_aload_n (pc := 60) (n := 1) (i := 1) rfl rfl rfl ?_
          refine eb_getI (pc := 61) rfl ka1 (by decide) (by decide) rfl ?_
          refine eb_iload (pc := 64) (i := 4) rfl rfl ?_
          refine eb_ctV (pc := 66) (As := [.int (eb_I h11 a1 0), .int y4, .int y15, .int (eb_I h14 a1 4), .int y12]) (rest := []) rfl (by decide) rfl ka0 (by decide) rfl (Nat.le_of_ble_eq_true rfl) ?_
          refine eb_Ct.mono w ?_
          rintro r h17 ⟨y18, rfl, ko19, w⟩
          change eb_Sn _ _ _ 69 _ [.int y18] _ _
          refine eb_istore (pc := 69) (i := 5) (ls2 := [(5, .int y18), (4, .int y12), (3, .int y4), (0, .ref a0), (1, .ref a1), (2, .int x2)]) (Nat.le_of_ble_eq_true rfl) rfl rfl ?_
          refine eb_iload (pc := 71) (i := 5) rfl rfl ?_
          refine eb_iconst (pc := 73) (n := 1) (v := 1) rfl rfl ?_
          refine eb_icmp_ne (pc := 74) (tgt := 80) rfl (by decide) (fun c20 => ?_) (fun c20 => ?_)
          · replace w := w.1 c20
            refine eb_iload (pc := 80) (i := 5) rfl rfl ?_
            refine eb_iconst (pc := 82) (n := 3) (v := 3) rfl rfl ?_
            refine eb_icmp_ne (pc := 83) (tgt := 103) rfl (by decide) (fun c21 => ?_) (fun c21 => ?_)
            · replace w := w.1 c21
              refine eb_iconst (pc := 103) (n := 0) (v := 0) rfl rfl ?_
              refine eb_istore (pc := 104) (i := 6) (ls2 := [(6, .int 0), (5, .int y18), (4, .int y12), (3, .int y4), (0, .ref a0), (1, .ref a1), (2, .int x2)]) (Nat.le_of_ble_eq_true rfl) rfl rfl ?_
              refine eb_iload (pc := 106) (i := 6) rfl rfl ?_
              refine eb_if_eq (pc := 108) (tgt := 116) rfl (by decide) (fun c => ?_) (fun c => absurd c (by decide))
              refine eb_iconst (pc := 116) (n := 0) (v := 0) rfl rfl ?_
              exact eb_ireturn (pc := 117) rfl rfl rfl w
            · replace w := w.2 c21
              refine eb_aload_n (pc := 86) (n := 1) (i := 1) rfl rfl rfl ?_
              refine eb_getI (pc := 87) rfl ka1 (by decide) (by decide) rfl ?_
              refine eb_iload (pc := 90) (i := 4) rfl rfl ?_
              refine eb_ctS (pc := 92) (As := [.int y12]) (rest := [.int (eb_I h17 a1 1)]) rfl (by decide) (by decide) rfl rfl (Nat.le_of_ble_eq_true rfl) ?_
              refine eb_Ct.mono w ?_
              rintro r h22 ⟨y23, rfl, ko24, w⟩
              change eb_Sn _ _ _ 95 _ [.int y23, .int (eb_I h17 a1 1)] _ _
              refine eb_iand (pc := 95) rfl ?_
              have jj28 : eb_Sn (d + 1) m_X9_stepOutcome h0 104 [(5, .int y18), (4, .int y12), (3, .int y4), (0, .ref a0), (1, .ref a1), (2, .int x2)] [.int (if ((eb_I h17 a1 1) &&& y23) = 0 then 1 else 0 : Int32)] h22 Q := by
                refine eb_istore (pc := 104) (i := 6) (ls2 := [(6, .int (if ((eb_I h17 a1 1) &&& y23) = 0 then 1 else 0 : Int32)), (5, .int y18), (4, .int y12), (3, .int y4), (0, .ref a0), (1, .ref a1), (2, .int x2)]) (Nat.le_of_ble_eq_true rfl) rfl rfl ?_
                refine eb_iload (pc := 106) (i := 6) rfl rfl ?_
                have jj27 : eb_Sn (d + 1) m_X9_stepOutcome h0 117 [(6, .int (if ((eb_I h17 a1 1) &&& y23) = 0 then 1 else 0 : Int32)), (5, .int y18), (4, .int y12), (3, .int y4), (0, .ref a0), (1, .ref a1), (2, .int x2)] [.int (if (if ((eb_I h17 a1 1) &&& y23) = 0 then 1 else 0 : Int32) = 0 then 0 else y12 : Int32)] h22 Q := by
                  exact eb_ireturn (pc := 117) rfl rfl rfl w
                refine eb_if_eq (pc := 108) (tgt := 116) rfl (by decide) (fun c26 => ?_) (fun c26 => ?_)
                · refine eb_iconst (pc := 116) (n := 0) (v := 0) rfl rfl ?_
                  simp only [if_pos c26] at jj27 ⊢
                  exact jj27
                · refine eb_iload (pc := 111) (i := 4) rfl rfl ?_
                  refine eb_goto (pc := 113) (tgt := 117) rfl (by decide) ?_
                  simp only [if_neg c26] at jj27 ⊢
                  exact jj27
              refine eb_if_ne (pc := 96) (tgt := 103) rfl (by decide) (fun c25 => ?_) (fun c25 => ?_)
              · refine eb_iconst (pc := 103) (n := 0) (v := 0) rfl rfl ?_
                simp only [if_neg c25] at jj28 ⊢
                exact jj28
              · refine eb_iconst (pc := 99) (n := 1) (v := 1) rfl rfl ?_
                refine eb_goto (pc := 100) (tgt := 104) rfl (by decide) ?_
                simp only [if_pos c25] at jj28 ⊢
                exact jj28
          · replace w := w.2 c20
            refine eb_bipush (pc := 77) (n := -4) (v := (-4)) rfl rfl ?_
            exact eb_ireturn (pc := 79) rfl rfl rfl w
        · replace w := w.2 c10
          refine eb_bipush (pc := 37) (n := -3) (v := (-3)) rfl rfl ?_
          exact eb_ireturn (pc := 39) rfl rfl rfl w
      · replace w := w.2 c6
        refine eb_bipush (pc := 26) (n := -2) (v := (-2)) rfl rfl ?_
        exact eb_ireturn (pc := 28) rfl rfl rfl w
    · replace w := w.2 c2
      refine eb_iconst (pc := 9) (n := -1) (v := (-1)) rfl rfl ?_
      exact eb_ireturn (pc := 10) rfl rfl rfl w
theorem T_X9_stepOutcome {d : Nat} {h : eb_H} {Q : Option Value → eb_H → Prop} (a0 : Nat) (a1 : Nat) (x2 : Int32) (ka0 : eb_kd a0 = 9) (ka1 : eb_kd a1 = 6) (ko : eb_KO h) (w : ((x2 < 0 → Q (some (.int (-1))) h) ∧ (¬ (x2 < 0) → ((x2 < (4 : Int32) → eb_Ct d 87 [.ref a0, .int (eb_I h a1 0), .int x2] h (fun r h3 => ∃ y4, r = some (.int y4) ∧ eb_KO h3 ∧ ((¬ y4 = ((-1) : Int32) → eb_Ct d 64 [.ref a1, .int y4] h3 (fun r h7 => ∃ y8, r = some (.int y8) ∧ eb_KO h7 ∧ ((y8 = 0 → eb_Ct d 62 [.ref a1, .int y4] h7 (fun r h11 => ∃ y12, r = some (.int y12) ∧ eb_KO h11 ∧ eb_Ct d 283 [.int (eb_I h11 a1 1)] h11 (fun r h14 => ∃ y15, r = some (.int y15) ∧ eb_KO h14 ∧ eb_Ct d 88 [.ref a0, .int (eb_I h11 a1 0), .int y4, .int y15, .int (eb_I h14 a1 4), .int y12] h14 (fun r h17 => ∃ y18, r = some (.int y18) ∧ eb_KO h17 ∧ ((¬ y18 = (1 : Int32) → ((¬ y18 = (3 : Int32) → Q (some (.int 0)) h17) ∧ (y18 = (3 : Int32) → eb_Ct d 141 [.int y12] h17 (fun r h22 => ∃ y23, r = some (.int y23) ∧ eb_KO h22 ∧ Q (some (.int (if (if ((eb_I h17 a1 1) &&& y23) = 0 then 1 else 0 : Int32) = 0 then 0 else y12 : Int32))) h22)))) ∧ (y18 = (1 : Int32) → Q (some (.int (-4))) h17)))))) ∧ (¬ (y8 = 0) → Q (some (.int (-3))) h7)))) ∧ (y4 = ((-1) : Int32) → Q (some (.int (-2))) h3)))) ∧ (¬ (x2 < (4 : Int32)) → Q (some (.int (-1))) h))))) : eb_Ct (d + 1) 89 [.ref a0, .ref a1, .int x2] h Q :=
  eb_bodyQ (by decide) ok_X9_stepOutcome (Nat.le_of_ble_eq_true rfl) (b_X9_stepOutcome_0 (h0 := h) a0 a1 x2 ka0 ka1 ko w)
theorem b_X9_makeStep_0 {d : Nat} {h0 h : eb_H} {Q : Option Value → eb_H → Prop} (a0 : Nat) (a1 : Nat) (x2 : Int32) (ka0 : eb_kd a0 = 9) (ka1 : eb_kd a1 = 6) (ko : eb_KO h) (w : eb_Ct d 89 [.ref a0, .ref a1, .int x2] h (fun r h1 => ∃ y2, r = some (.int y2) ∧ eb_KO h1 ∧ ((0 ≤ y2 → eb_Ct d 141 [.int y2] h1 (fun r h5 => ∃ y6, r = some (.int y6) ∧ eb_KO h5 ∧ eb_Ct d 87 [.ref a0, .int (eb_I (eb_sI h5 a1 1 ((eb_I h1 a1 1) ||| y6)) a1 0), .int x2] (eb_sI h5 a1 1 ((eb_I h1 a1 1) ||| y6)) (fun r h8 => ∃ y9, r = some (.int y9) ∧ eb_KO h8 ∧ Q (some (.int y2)) (eb_sI (eb_sI h8 a1 0 y9) a1 2 ((eb_I (eb_sI h8 a1 0 y9) a1 2) + 1))))) ∧ (¬ (0 ≤ y2) → Q (some (.int y2)) h1)))) : eb_Sn (d + 1) m_X9_makeStep h0 0 [(0, .ref a0), (1, .ref a1), (2, .int x2)] [] h Q := by
  refine eb_aload_n (pc := 0) (n := 0) (i := 0) rfl rfl rfl ?_
  refine eb_aload_n (pc := 1) (n := 1) (i := 1) rfl rfl rfl ?_
  refine eb_iload_n (pc := 2) (n := 2) (i := 2) rfl rfl rfl ?_
  refine eb_ctV (pc := 3) (As := [.ref a1, .int x2]) (rest := []) rfl (by decide) rfl ka0 (by decide) rfl (Nat.le_of_ble_eq_true rfl) ?_
  refine eb_Ct.mono w ?_
  rintro r h1 ⟨y2, rfl, ko3, w⟩
  change eb_Sn _ _ _ 6 _ [.int y2] _ _
  refine eb_istore_n (pc := 6) (n := 3) (i := 3) (ls2 := [(3, .int y2), (0, .ref a0), (1, .ref a1), (2, .int x2)]) rfl (Nat.le_of_ble_eq_true rfl) rfl rfl ?_
  refine eb_iload_n (pc := 7) (n := 3) (i := 3) rfl rfl rfl ?_
  refine eb_if_ge (pc := 8) (tgt := 13) rfl (by decide) (fun c4 => ?_) (fun c4 => ?_)
  · replace w := w.1 c4
    refine eb_aload_n (pc := 13) (n := 1) (i := 1) rfl rfl rfl ?_
    refine eb_dupr (pc := 14) rfl ?_
    refine eb_getI (pc := 15) rfl ka1 (by decide) (by decide) rfl ?_
    refine eb_iload_n (pc := 18) (n := 3) (i := 3) rfl rfl rfl ?_
    refine eb_ctS (pc := 19) (As := [.int y2]) (rest := [.int (eb_I h1 a1 1), .ref a1]) rfl (by decide) (by decide) rfl rfl (Nat.le_of_ble_eq_true rfl) ?_
    refine eb_Ct.mono w ?_
    rintro r h5 ⟨y6, rfl, ko7, w⟩
    change eb_Sn _ _ _ 22 _ [.int y6, .int (eb_I h1 a1 1), .ref a1] _ _
    refine eb_ior (pc := 22) rfl ?_
    refine eb_putI (pc := 23) rfl ka1 (by decide) (by decide) rfl rfl ⟨rfl, rfl⟩ ?_
    refine eb_aload_n (pc := 26) (n := 1) (i := 1) rfl rfl rfl ?_
    refine eb_aload_n (pc := 27) (n := 0) (i := 0) rfl rfl rfl ?_
    refine eb_aload_n (pc := 28) (n := 1) (i := 1) rfl rfl rfl ?_
    refine eb_getI (pc := 29) rfl ka1 (by decide) (by decide) rfl ?_
    refine eb_iload_n (pc := 32) (n := 2) (i := 2) rfl rfl rfl ?_
    refine eb_ctV (pc := 33) (As := [.int (eb_I (eb_sI h5 a1 1 ((eb_I h1 a1 1) ||| y6)) a1 0), .int x2]) (rest := [.ref a1]) rfl (by decide) rfl ka0 (by decide) rfl (Nat.le_of_ble_eq_true rfl) ?_
    refine eb_Ct.mono w ?_
    rintro r h8 ⟨y9, rfl, ko10, w⟩
    change eb_Sn _ _ _ 36 _ [.int y9, .ref a1] _ _
    refine eb_putI (pc := 36) rfl ka1 (by decide) (by decide) rfl rfl ⟨rfl, rfl⟩ ?_
    refine eb_aload_n (pc := 39) (n := 1) (i := 1) rfl rfl rfl ?_
    refine eb_dupr (pc := 40) rfl ?_
    refine eb_getI (pc := 41) rfl ka1 (by decide) (by decide) rfl ?_
    refine eb_iconst (pc := 44) (n := 1) (v := 1) rfl rfl ?_
    refine eb_iadd (pc := 45) rfl ?_
    refine eb_putI (pc := 46) rfl ka1 (by decide) (by decide) rfl rfl ⟨rfl, rfl⟩ ?_
    refine eb_iload_n (pc := 49) (n := 3) (i := 3) rfl rfl rfl ?_
    exact eb_ireturn (pc := 50) rfl rfl rfl w
  · replace w := w.2 c4
    refine eb_iload_n (pc := 11) (n := 3) (i := 3) rfl rfl rfl ?_
    exact eb_ireturn (pc := 12) rfl rfl rfl w
theorem T_X9_makeStep {d : Nat} {h : eb_H} {Q : Option Value → eb_H → Prop} (a0 : Nat) (a1 : Nat) (x2 : Int32) (ka0 : eb_kd a0 = 9) (ka1 : eb_kd a1 = 6) (ko : eb_KO h) (w : eb_Ct d 89 [.ref a0, .ref a1, .int x2] h (fun r h1 => ∃ y2, r = some (.int y2) ∧ eb_KO h1 ∧ ((0 ≤ y2 → eb_Ct d 141 [.int y2] h1 (fun r h5 => ∃ y6, r = some (.int y6) ∧ eb_KO h5 ∧ eb_Ct d 87 [.ref a0, .int (eb_I (eb_sI h5 a1 1 ((eb_I h1 a1 1) ||| y6)) a1 0), .int x2] (eb_sI h5 a1 1 ((eb_I h1 a1 1) ||| y6)) (fun r h8 => ∃ y9, r = some (.int y9) ∧ eb_KO h8 ∧ Q (some (.int y2)) (eb_sI (eb_sI h8 a1 0 y9) a1 2 ((eb_I (eb_sI h8 a1 0 y9) a1 2) + 1))))) ∧ (¬ (0 ≤ y2) → Q (some (.int y2)) h1)))) : eb_Ct (d + 1) 90 [.ref a0, .ref a1, .int x2] h Q :=
  eb_bodyQ (by decide) ok_X9_makeStep (Nat.le_of_ble_eq_true rfl) (b_X9_makeStep_0 (h0 := h) a0 a1 x2 ka0 ka1 ko w)
theorem b_X9_doDeed_0 {d : Nat} {h0 h : eb_H} {Q : Option Value → eb_H → Prop} (a0 : Nat) (a1 : Nat) (x2 : Int64) (ka0 : eb_kd a0 = 9) (ka1 : eb_kd a1 = 6) (ko : eb_KO h) (w : ((x2 < 0 → ((x2 < 100 → ((x2 < 200 → ((x2 < 300 → ((x2 < 1000 → Q (some (.int 1)) h) ∧ (¬ (x2 < 1000) → ((x2 < 2000 → eb_Ct d 94 [.ref a0, .ref a1, .int ((x2.toInt32 - 1000) / 10), .int ((x2.toInt32 - 1000) - (x2.toInt32 - 1000) / 10 * 10)] h (fun r h7 => ∃ y8, r = some (.int y8) ∧ eb_KO h7 ∧ Q (some (.int y8)) h7)) ∧ (¬ (x2 < 2000) → Q (some (.int 1)) h))))) ∧ (¬ (x2 < 300) → ((309 < x2 → ((x2 < 1000 → Q (some (.int 1)) h) ∧ (¬ (x2 < 1000) → ((x2 < 2000 → eb_Ct d 94 [.ref a0, .ref a1, .int ((x2.toInt32 - 1000) / 10), .int ((x2.toInt32 - 1000) - (x2.toInt32 - 1000) / 10 * 10)] h (fun r h13 => ∃ y14, r = some (.int y14) ∧ eb_KO h13 ∧ Q (some (.int y14)) h13)) ∧ (¬ (x2 < 2000) → Q (some (.int 1)) h))))) ∧ (¬ (309 < x2) → Q (some (.int 0)) (eb_sI h a1 4 (x2.toInt32 - 300))))))) ∧ (¬ (x2 < 200) → ((300 ≤ x2 → ((x2 < 300 → ((x2 < 1000 → Q (some (.int 1)) h) ∧ (¬ (x2 < 1000) → ((x2 < 2000 → eb_Ct d 94 [.ref a0, .ref a1, .int ((x2.toInt32 - 1000) / 10), .int ((x2.toInt32 - 1000) - (x2.toInt32 - 1000) / 10 * 10)] h (fun r h20 => ∃ y21, r = some (.int y21) ∧ eb_KO h20 ∧ Q (some (.int y21)) h20)) ∧ (¬ (x2 < 2000) → Q (some (.int 1)) h))))) ∧ (¬ (x2 < 300) → ((309 < x2 → ((x2 < 1000 → Q (some (.int 1)) h) ∧ (¬ (x2 < 1000) → ((x2 < 2000 → eb_Ct d 94 [.ref a0, .ref a1, .int ((x2.toInt32 - 1000) / 10), .int ((x2.toInt32 - 1000) - (x2.toInt32 - 1000) / 10 * 10)] h (fun r h26 => ∃ y27, r = some (.int y27) ∧ eb_KO h26 ∧ Q (some (.int y27)) h26)) ∧ (¬ (x2 < 2000) → Q (some (.int 1)) h))))) ∧ (¬ (309 < x2) → Q (some (.int 0)) (eb_sI h a1 4 (x2.toInt32 - 300))))))) ∧ (¬ (300 ≤ x2) → eb_Ct d 93 [.ref a0, .ref a1, .int (x2.toInt32 - 200)] h (fun r h29 => ∃ y30, r = some (.int y30) ∧ eb_KO h29 ∧ Q (some (.int y30)) h29)))))) ∧ (¬ (x2 < 100) → ((200 ≤ x2 → ((x2 < 200 → ((x2 < 300 → ((x2 < 1000 → Q (some (.int 1)) h) ∧ (¬ (x2 < 1000) → ((x2 < 2000 → eb_Ct d 94 [.ref a0, .ref a1, .int ((x2.toInt32 - 1000) / 10), .int ((x2.toInt32 - 1000) - (x2.toInt32 - 1000) / 10 * 10)] h (fun r h37 => ∃ y38, r = some (.int y38) ∧ eb_KO h37 ∧ Q (some (.int y38)) h37)) ∧ (¬ (x2 < 2000) → Q (some (.int 1)) h))))) ∧ (¬ (x2 < 300) → ((309 < x2 → ((x2 < 1000 → Q (some (.int 1)) h) ∧ (¬ (x2 < 1000) → ((x2 < 2000 → eb_Ct d 94 [.ref a0, .ref a1, .int ((x2.toInt32 - 1000) / 10), .int ((x2.toInt32 - 1000) - (x2.toInt32 - 1000) / 10 * 10)] h (fun r h43 => ∃ y44, r = some (.int y44) ∧ eb_KO h43 ∧ Q (some (.int y44)) h43)) ∧ (¬ (x2 < 2000) → Q (some (.int 1)) h))))) ∧ (¬ (309 < x2) → Q (some (.int 0)) (eb_sI h a1 4 (x2.toInt32 - 300))))))) ∧ (¬ (x2 < 200) → ((300 ≤ x2 → ((x2 < 300 → ((x2 < 1000 → Q (some (.int 1)) h) ∧ (¬ (x2 < 1000) → ((x2 < 2000 → eb_Ct d 94 [.ref a0, .ref a1, .int ((x2.toInt32 - 1000) / 10), .int ((x2.toInt32 - 1000) - (x2.toInt32 - 1000) / 10 * 10)] h (fun r h50 => ∃ y51, r = some (.int y51) ∧ eb_KO h50 ∧ Q (some (.int y51)) h50)) ∧ (¬ (x2 < 2000) → Q (some (.int 1)) h))))) ∧ (¬ (x2 < 300) → ((309 < x2 → ((x2 < 1000 → Q (some (.int 1)) h) ∧ (¬ (x2 < 1000) → ((x2 < 2000 → eb_Ct d 94 [.ref a0, .ref a1, .int ((x2.toInt32 - 1000) / 10), .int ((x2.toInt32 - 1000) - (x2.toInt32 - 1000) / 10 * 10)] h (fun r h56 => ∃ y57, r = some (.int y57) ∧ eb_KO h56 ∧ Q (some (.int y57)) h56)) ∧ (¬ (x2 < 2000) → Q (some (.int 1)) h))))) ∧ (¬ (309 < x2) → Q (some (.int 0)) (eb_sI h a1 4 (x2.toInt32 - 300))))))) ∧ (¬ (300 ≤ x2) → eb_Ct d 93 [.ref a0, .ref a1, .int (x2.toInt32 - 200)] h (fun r h59 => ∃ y60, r = some (.int y60) ∧ eb_KO h59 ∧ Q (some (.int y60)) h59)))))) ∧ (¬ (200 ≤ x2) → eb_Ct d 92 [.ref a0, .ref a1, .int (x2.toInt32 - 100)] h (fun r h62 => ∃ y63, r = some (.int y63) ∧ eb_KO h62 ∧ Q (some (.int y63)) h62)))))) ∧ (¬ (x2 < 0) → ((4 ≤ x2 → ((x2 < 100 → ((x2 < 200 → ((x2 < 300 → ((x2 < 1000 → Q (some (.int 1)) h) ∧ (¬ (x2 < 1000) → ((x2 < 2000 → eb_Ct d 94 [.ref a0, .ref a1, .int ((x2.toInt32 - 1000) / 10), .int ((x2.toInt32 - 1000) - (x2.toInt32 - 1000) / 10 * 10)] h (fun r h71 => ∃ y72, r = some (.int y72) ∧ eb_KO h71 ∧ Q (some (.int y72)) h71)) ∧ (¬ (x2 < 2000) → Q (some (.int 1)) h))))) ∧ (¬ (x2 < 300) → ((309 < x2 → ((x2 < 1000 → Q (some (.int 1)) h) ∧ (¬ (x2 < 1000) → ((x2 < 2000 → eb_Ct d 94 [.ref a0, .ref a1, .int ((x2.toInt32 - 1000) / 10), .int ((x2.toInt32 - 1000) - (x2.toInt32 - 1000) / 10 * 10)] h (fun r h77 => ∃ y78, r = some (.int y78) ∧ eb_KO h77 ∧ Q (some (.int y78)) h77)) ∧ (¬ (x2 < 2000) → Q (some (.int 1)) h))))) ∧ (¬ (309 < x2) → Q (some (.int 0)) (eb_sI h a1 4 (x2.toInt32 - 300))))))) ∧ (¬ (x2 < 200) → ((300 ≤ x2 → ((x2 < 300 → ((x2 < 1000 → Q (some (.int 1)) h) ∧ (¬ (x2 < 1000) → ((x2 < 2000 → eb_Ct d 94 [.ref a0, .ref a1, .int ((x2.toInt32 - 1000) / 10), .int ((x2.toInt32 - 1000) - (x2.toInt32 - 1000) / 10 * 10)] h (fun r h84 => ∃ y85, r = some (.int y85) ∧ eb_KO h84 ∧ Q (some (.int y85)) h84)) ∧ (¬ (x2 < 2000) → Q (some (.int 1)) h))))) ∧ (¬ (x2 < 300) → ((309 < x2 → ((x2 < 1000 → Q (some (.int 1)) h) ∧ (¬ (x2 < 1000) → ((x2 < 2000 → eb_Ct d 94 [.ref a0, .ref a1, .int ((x2.toInt32 - 1000) / 10), .int ((x2.toInt32 - 1000) - (x2.toInt32 - 1000) / 10 * 10)] h (fun r h90 => ∃ y91, r = some (.int y91) ∧ eb_KO h90 ∧ Q (some (.int y91)) h90)) ∧ (¬ (x2 < 2000) → Q (some (.int 1)) h))))) ∧ (¬ (309 < x2) → Q (some (.int 0)) (eb_sI h a1 4 (x2.toInt32 - 300))))))) ∧ (¬ (300 ≤ x2) → eb_Ct d 93 [.ref a0, .ref a1, .int (x2.toInt32 - 200)] h (fun r h93 => ∃ y94, r = some (.int y94) ∧ eb_KO h93 ∧ Q (some (.int y94)) h93)))))) ∧ (¬ (x2 < 100) → ((200 ≤ x2 → ((x2 < 200 → ((x2 < 300 → ((x2 < 1000 → Q (some (.int 1)) h) ∧ (¬ (x2 < 1000) → ((x2 < 2000 → eb_Ct d 94 [.ref a0, .ref a1, .int ((x2.toInt32 - 1000) / 10), .int ((x2.toInt32 - 1000) - (x2.toInt32 - 1000) / 10 * 10)] h (fun r h101 => ∃ y102, r = some (.int y102) ∧ eb_KO h101 ∧ Q (some (.int y102)) h101)) ∧ (¬ (x2 < 2000) → Q (some (.int 1)) h))))) ∧ (¬ (x2 < 300) → ((309 < x2 → ((x2 < 1000 → Q (some (.int 1)) h) ∧ (¬ (x2 < 1000) → ((x2 < 2000 → eb_Ct d 94 [.ref a0, .ref a1, .int ((x2.toInt32 - 1000) / 10), .int ((x2.toInt32 - 1000) - (x2.toInt32 - 1000) / 10 * 10)] h (fun r h107 => ∃ y108, r = some (.int y108) ∧ eb_KO h107 ∧ Q (some (.int y108)) h107)) ∧ (¬ (x2 < 2000) → Q (some (.int 1)) h))))) ∧ (¬ (309 < x2) → Q (some (.int 0)) (eb_sI h a1 4 (x2.toInt32 - 300))))))) ∧ (¬ (x2 < 200) → ((300 ≤ x2 → ((x2 < 300 → ((x2 < 1000 → Q (some (.int 1)) h) ∧ (¬ (x2 < 1000) → ((x2 < 2000 → eb_Ct d 94 [.ref a0, .ref a1, .int ((x2.toInt32 - 1000) / 10), .int ((x2.toInt32 - 1000) - (x2.toInt32 - 1000) / 10 * 10)] h (fun r h114 => ∃ y115, r = some (.int y115) ∧ eb_KO h114 ∧ Q (some (.int y115)) h114)) ∧ (¬ (x2 < 2000) → Q (some (.int 1)) h))))) ∧ (¬ (x2 < 300) → ((309 < x2 → ((x2 < 1000 → Q (some (.int 1)) h) ∧ (¬ (x2 < 1000) → ((x2 < 2000 → eb_Ct d 94 [.ref a0, .ref a1, .int ((x2.toInt32 - 1000) / 10), .int ((x2.toInt32 - 1000) - (x2.toInt32 - 1000) / 10 * 10)] h (fun r h120 => ∃ y121, r = some (.int y121) ∧ eb_KO h120 ∧ Q (some (.int y121)) h120)) ∧ (¬ (x2 < 2000) → Q (some (.int 1)) h))))) ∧ (¬ (309 < x2) → Q (some (.int 0)) (eb_sI h a1 4 (x2.toInt32 - 300))))))) ∧ (¬ (300 ≤ x2) → eb_Ct d 93 [.ref a0, .ref a1, .int (x2.toInt32 - 200)] h (fun r h123 => ∃ y124, r = some (.int y124) ∧ eb_KO h123 ∧ Q (some (.int y124)) h123)))))) ∧ (¬ (200 ≤ x2) → eb_Ct d 92 [.ref a0, .ref a1, .int (x2.toInt32 - 100)] h (fun r h126 => ∃ y127, r = some (.int y127) ∧ eb_KO h126 ∧ Q (some (.int y127)) h126)))))) ∧ (¬ (4 ≤ x2) → eb_Ct d 90 [.ref a0, .ref a1, .int x2.toInt32] h (fun r h129 => ∃ y130, r = some (.int y130) ∧ eb_KO h129 ∧ eb_Ct d 286 [.int 0, .int (-y130)] h129 (fun r h132 => ∃ y133, r = some (.int y133) ∧ eb_KO h132 ∧ Q (some (.int y133)) h132))))))) : eb_Sn (d + 1) m_X9_doDeed h0 0 [(0, .ref a0), (1, .ref a1), (2, .long x2)] [] h Q := by
  refine eb_lload_n (pc := 0) (n := 2) (i := 2) rfl rfl rfl ?_
  refine eb_lconst (pc := 1) (n := 0) (v := 0) rfl rfl ?_
  refine eb_lcmp (pc := 2) rfl ?_
  refine eb_if_lt (pc := 3) (tgt := 27) rfl (by decide) (fun c1 => ?_) (fun c1 => ?_)
  · replace c1 := eb_lc_lt.mp c1
    replace w := w.1 c1
    refine eb_lload_n (pc := 27) (n := 2) (i := 2) rfl rfl rfl ?_
    refine eb_ldc2 (pc := 28) (a := 100) (v := 100) rfl (by decide) ?_
    refine eb_lcmp (pc := 31) rfl ?_
    refine eb_if_lt (pc := 32) (tgt := 54) rfl (by decide) (fun c2 => ?_) (fun c2 => ?_)
    · replace c2 := eb_lc_lt.mp c2
      replace w := w.1 c2
      refine eb_lload_n (pc := 54) (n := 2) (i := 2) rfl rfl rfl ?_
      refine eb_ldc2 (pc := 55) (a := 200) (v := 200) rfl (by decide) ?_
      refine eb_lcmp (pc := 58) rfl ?_
      refine eb_if_lt (pc := 59) (tgt := 82) rfl (by decide) (fun c3 => ?_) (fun c3 => ?_)
      · replace c3 := eb_lc_lt.mp c3
        replace w := w.1 c3
        refine eb_lload_n (pc := 82) (n := 2) (i := 2) rfl rfl rfl ?_
        refine eb_ldc2 (pc := 83) (a := 300) (v := 300) rfl (by decide) ?_
        refine eb_lcmp (pc := 86) rfl ?_
        refine eb_if_lt (pc := 87) (tgt := 110) rfl (by decide) (fun c4 => ?_) (fun c4 => ?_)
        · replace c4 := eb_lc_lt.mp c4
          replace w := w.1 c4
          refine eb_lload_n (pc := 110) (n := 2) (i := 2) rfl rfl rfl ?_
          refine eb_ldc2 (pc := 111) (a := 1000) (v := 1000) rfl (by decide) ?_
          refine eb_lcmp (pc := 114) rfl ?_
          refine eb_if_lt (pc := 115) (tgt := 126) rfl (by decide) (fun c5 => ?_) (fun c5 => ?_)
          · replace c5 := eb_lc_lt.mp c5
            replace w := w.1 c5
            refine eb_iconst (pc := 126) (n := 1) (v := 1) rfl rfl ?_
            exact eb_ireturn (pc := 127) rfl rfl rfl w
          · replace c5 := (fun hh => mt eb_lc_lt.mpr hh) c5
            replace w := w.2 c5
            refine eb_lload_n (pc := 118) (n := 2) (i := 2) rfl rfl rfl ?_
            refine eb_ldc2 (pc := 119) (a := 2000) (v := 2000) rfl (by decide) ?_
            refine eb_lcmp (pc := 122) rfl ?_
            refine eb_if_lt (pc := 123) (tgt := 128) rfl (by decide) (fun c6 => ?_) (fun c6 => ?_)
            · replace c6 := eb_lc_lt.mp c6
              replace w := w.1 c6
              refine eb_lload_n (pc := 128) (n := 2) (i := 2) rfl rfl rfl ?_
              refine eb_l2i (pc := 129) rfl ?_
              refine eb_sipush (pc := 130) (n := 1000) (v := 1000) rfl rfl ?_
              refine eb_isub (pc := 133) rfl ?_
              refine eb_istore (pc := 134) (i := 4) (ls2 := [(4, .int (x2.toInt32 - 1000)), (0, .ref a0), (1, .ref a1), (2, .long x2)]) (Nat.le_of_ble_eq_true rfl) rfl rfl ?_
              refine eb_aload_n (pc := 136) (n := 0) (i := 0) rfl rfl rfl ?_
              refine eb_aload_n (pc := 137) (n := 1) (i := 1) rfl rfl rfl ?_
              refine eb_iload (pc := 138) (i := 4) rfl rfl ?_
              refine eb_bipush (pc := 140) (n := 10) (v := 10) rfl rfl ?_
              refine eb_idiv (pc := 142) (by decide) rfl ?_
              refine eb_iload (pc := 143) (i := 4) rfl rfl ?_
              refine eb_bipush (pc := 145) (n := 10) (v := 10) rfl rfl ?_
              refine eb_irem (pc := 147) (by decide) rfl ?_
              refine eb_ctV (pc := 148) (As := [.ref a1, .int ((x2.toInt32 - 1000) / 10), .int ((x2.toInt32 - 1000) - (x2.toInt32 - 1000) / 10 * 10)]) (rest := []) rfl (by decide) rfl ka0 (by decide) rfl (Nat.le_of_ble_eq_true rfl) ?_
              refine eb_Ct.mono w ?_
              rintro r h7 ⟨y8, rfl, ko9, w⟩
              change eb_Sn _ _ _ 151 _ [.int y8] _ _
              exact eb_ireturn (pc := 151) rfl rfl rfl w
            · replace c6 := (fun hh => mt eb_lc_lt.mpr hh) c6
              replace w := w.2 c6
              refine eb_iconst (pc := 126) (n := 1) (v := 1) rfl rfl ?_
              exact eb_ireturn (pc := 127) rfl rfl rfl w
        · replace c4 := (fun hh => mt eb_lc_lt.mpr hh) c4
          replace w := w.2 c4
          refine eb_lload_n (pc := 90) (n := 2) (i := 2) rfl rfl rfl ?_
          refine eb_ldc2 (pc := 91) (a := 309) (v := 309) rfl (by decide) ?_
          refine eb_lcmp (pc := 94) rfl ?_
          refine eb_if_gt (pc := 95) (tgt := 110) rfl (by decide) (fun c10 => ?_) (fun c10 => ?_)
          · replace c10 := eb_lc_gt.mp c10
            replace w := w.1 c10
            refine eb_lload_n (pc := 110) (n := 2) (i := 2) rfl rfl rfl ?_
            refine eb_ldc2 (pc := 111) (a := 1000) (v := 1000) rfl (by decide) ?_
            refine eb_lcmp (pc := 114) rfl ?_
            refine eb_if_lt (pc := 115) (tgt := 126) rfl (by decide) (fun c11 => ?_) (fun c11 => ?_)
            · replace c11 := eb_lc_lt.mp c11
              replace w := w.1 c11
              refine eb_iconst (pc := 126) (n := 1) (v := 1) rfl rfl ?_
              exact eb_ireturn (pc := 127) rfl rfl rfl w
            · replace c11 := (fun hh => mt eb_lc_lt.mpr hh) c11
              replace w := w.2 c11
              refine eb_lload_n (pc := 118) (n := 2) (i := 2) rfl rfl rfl ?_
              refine eb_ldc2 (pc := 119) (a := 2000) (v := 2000) rfl (by decide) ?_
              refine eb_lcmp (pc := 122) rfl ?_
              refine eb_if_lt (pc := 123) (tgt := 128) rfl (by decide) (fun c12 => ?_) (fun c12 => ?_)
              · replace c12 := eb_lc_lt.mp c12
                replace w := w.1 c12
                refine eb_lload_n (pc := 128) (n := 2) (i := 2) rfl rfl rfl ?_
                refine eb_l2i (pc := 129) rfl ?_
                refine eb_sipush (pc := 130) (n := 1000) (v := 1000) rfl rfl ?_
                refine eb_isub (pc := 133) rfl ?_
                refine eb_istore (pc := 134) (i := 4) (ls2 := [(4, .int (x2.toInt32 - 1000)), (0, .ref a0), (1, .ref a1), (2, .long x2)]) (Nat.le_of_ble_eq_true rfl) rfl rfl ?_
                refine eb_aload_n (pc := 136) (n := 0) (i := 0) rfl rfl rfl ?_
                refine eb_aload_n (pc := 137) (n := 1) (i := 1) rfl rfl rfl ?_
                refine eb_iload (pc := 138) (i := 4) rfl rfl ?_
                refine eb_bipush (pc := 140) (n := 10) (v := 10) rfl rfl ?_
                refine eb_idiv (pc := 142) (by decide) rfl ?_
                refine eb_iload (pc := 143) (i := 4) rfl rfl ?_
                refine eb_bipush (pc := 145) (n := 10) (v := 10) rfl rfl ?_
                refine eb_irem (pc := 147) (by decide) rfl ?_
                refine eb_ctV (pc := 148) (As := [.ref a1, .int ((x2.toInt32 - 1000) / 10), .int ((x2.toInt32 - 1000) - (x2.toInt32 - 1000) / 10 * 10)]) (rest := []) rfl (by decide) rfl ka0 (by decide) rfl (Nat.le_of_ble_eq_true rfl) ?_
                refine eb_Ct.mono w ?_
                rintro r h13 ⟨y14, rfl, ko15, w⟩
                change eb_Sn _ _ _ 151 _ [.int y14] _ _
                exact eb_ireturn (pc := 151) rfl rfl rfl w
              · replace c12 := (fun hh => mt eb_lc_lt.mpr hh) c12
                replace w := w.2 c12
                refine eb_iconst (pc := 126) (n := 1) (v := 1) rfl rfl ?_
                exact eb_ireturn (pc := 127) rfl rfl rfl w
          · replace c10 := (fun hh => mt eb_lc_gt.mpr hh) c10
            replace w := w.2 c10
            refine eb_aload_n (pc := 98) (n := 1) (i := 1) rfl rfl rfl ?_
            refine eb_lload_n (pc := 99) (n := 2) (i := 2) rfl rfl rfl ?_
            refine eb_l2i (pc := 100) rfl ?_
            refine eb_sipush (pc := 101) (n := 300) (v := 300) rfl rfl ?_
            refine eb_isub (pc := 104) rfl ?_
            refine eb_putI (pc := 105) rfl ka1 (by decide) (by decide) rfl rfl ⟨rfl, rfl⟩ ?_
            refine eb_iconst (pc := 108) (n := 0) (v := 0) rfl rfl ?_
            exact eb_ireturn (pc := 109) rfl rfl rfl w
      · replace c3 := (fun hh => mt eb_lc_lt.mpr hh) c3
        replace w := w.2 c3
        refine eb_lload_n (pc := 62) (n := 2) (i := 2) rfl rfl rfl ?_
        refine eb_ldc2 (pc := 63) (a := 300) (v := 300) rfl (by decide) ?_
        refine eb_lcmp (pc := 66) rfl ?_
        refine eb_if_ge (pc := 67) (tgt := 82) rfl (by decide) (fun c16 => ?_) (fun c16 => ?_)
        · replace c16 := eb_lc_ge.mp c16
          replace w := w.1 c16
          refine eb_lload_n (pc := 82) (n := 2) (i := 2) rfl rfl rfl ?_
          refine eb_ldc2 (pc := 83) (a := 300) (v := 300) rfl (by decide) ?_
          refine eb_lcmp (pc := 86) rfl ?_
          refine eb_if_lt (pc := 87) (tgt := 110) rfl (by decide) (fun c17 => ?_) (fun c17 => ?_)
          · replace c17 := eb_lc_lt.mp c17
            replace w := w.1 c17
            refine eb_lload_n (pc := 110) (n := 2) (i := 2) rfl rfl rfl ?_
            refine eb_ldc2 (pc := 111) (a := 1000) (v := 1000) rfl (by decide) ?_
            refine eb_lcmp (pc := 114) rfl ?_
            refine eb_if_lt (pc := 115) (tgt := 126) rfl (by decide) (fun c18 => ?_) (fun c18 => ?_)
            · replace c18 := eb_lc_lt.mp c18
              replace w := w.1 c18
              refine eb_iconst (pc := 126) (n := 1) (v := 1) rfl rfl ?_
              exact eb_ireturn (pc := 127) rfl rfl rfl w
            · replace c18 := (fun hh => mt eb_lc_lt.mpr hh) c18
              replace w := w.2 c18
              refine eb_lload_n (pc := 118) (n := 2) (i := 2) rfl rfl rfl ?_
              refine eb_ldc2 (pc := 119) (a := 2000) (v := 2000) rfl (by decide) ?_
              refine eb_lcmp (pc := 122) rfl ?_
              refine eb_if_lt (pc := 123) (tgt := 128) rfl (by decide) (fun c19 => ?_) (fun c19 => ?_)
              · replace c19 := eb_lc_lt.mp c19
                replace w := w.1 c19
                refine eb_lload_n (pc := 128) (n := 2) (i := 2) rfl rfl rfl ?_
                refine eb_l2i (pc := 129) rfl ?_
                refine eb_sipush (pc := 130) (n := 1000) (v := 1000) rfl rfl ?_
                refine eb_isub (pc := 133) rfl ?_
                refine eb_istore (pc := 134) (i := 4) (ls2 := [(4, .int (x2.toInt32 - 1000)), (0, .ref a0), (1, .ref a1), (2, .long x2)]) (Nat.le_of_ble_eq_true rfl) rfl rfl ?_
                refine eb_aload_n (pc := 136) (n := 0) (i := 0) rfl rfl rfl ?_
                refine eb_aload_n (pc := 137) (n := 1) (i := 1) rfl rfl rfl ?_
                refine eb_iload (pc := 138) (i := 4) rfl rfl ?_
                refine eb_bipush (pc := 140) (n := 10) (v := 10) rfl rfl ?_
                refine eb_idiv (pc := 142) (by decide) rfl ?_
                refine eb_iload (pc := 143) (i := 4) rfl rfl ?_
                refine eb_bipush (pc := 145) (n := 10) (v := 10) rfl rfl ?_
                refine eb_irem (pc := 147) (by decide) rfl ?_
                refine eb_ctV (pc := 148) (As := [.ref a1, .int ((x2.toInt32 - 1000) / 10), .int ((x2.toInt32 - 1000) - (x2.toInt32 - 1000) / 10 * 10)]) (rest := []) rfl (by decide) rfl ka0 (by decide) rfl (Nat.le_of_ble_eq_true rfl) ?_
                refine eb_Ct.mono w ?_
                rintro r h20 ⟨y21, rfl, ko22, w⟩
                change eb_Sn _ _ _ 151 _ [.int y21] _ _
                exact eb_ireturn (pc := 151) rfl rfl rfl w
              · replace c19 := (fun hh => mt eb_lc_lt.mpr hh) c19
                replace w := w.2 c19
                refine eb_iconst (pc := 126) (n := 1) (v := 1) rfl rfl ?_
                exact eb_ireturn (pc := 127) rfl rfl rfl w
          · replace c17 := (fun hh => mt eb_lc_lt.mpr hh) c17
            replace w := w.2 c17
            refine eb_lload_n (pc := 90) (n := 2) (i := 2) rfl rfl rfl ?_
            refine eb_ldc2 (pc := 91) (a := 309) (v := 309) rfl (by decide) ?_
            refine eb_lcmp (pc := 94) rfl ?_
            refine eb_if_gt (pc := 95) (tgt := 110) rfl (by decide) (fun c23 => ?_) (fun c23 => ?_)
            · replace c23 := eb_lc_gt.mp c23
              replace w := w.1 c23
              refine eb_lload_n (pc := 110) (n := 2) (i := 2) rfl rfl rfl ?_
              refine eb_ldc2 (pc := 111) (a := 1000) (v := 1000) rfl (by decide) ?_
              refine eb_lcmp (pc := 114) rfl ?_
              refine eb_if_lt (pc := 115) (tgt := 126) rfl (by decide) (fun c24 => ?_) (fun c24 => ?_)
              · replace c24 := eb_lc_lt.mp c24
                replace w := w.1 c24
                refine eb_iconst (pc := 126) (n := 1) (v := 1) rfl rfl ?_
                exact eb_ireturn (pc := 127) rfl rfl rfl w
              · replace c24 := (fun hh => mt eb_lc_lt.mpr hh) c24
                replace w := w.2 c24
                refine eb_lload_n (pc := 118) (n := 2) (i := 2) rfl rfl rfl ?_
                refine eb_ldc2 (pc := 119) (a := 2000) (v := 2000) rfl (by decide) ?_
                refine eb_lcmp (pc := 122) rfl ?_
                refine eb_if_lt (pc := 123) (tgt := 128) rfl (by decide) (fun c25 => ?_) (fun c25 => ?_)
                · replace c25 := eb_lc_lt.mp c25
                  replace w := w.1 c25
                  refine eb_lload_n (pc := 128) (n := 2) (i := 2) rfl rfl rfl ?_
                  refine eb_l2i (pc := 129) rfl ?_
                  refine eb_sipush (pc := 130) (n := 1000) (v := 1000) rfl rfl ?_
                  refine eb_isub (pc := 133) rfl ?_
                  refine eb_istore (pc := 134) (i := 4) (ls2 := [(4, .int (x2.toInt32 - 1000)), (0, .ref a0), (1, .ref a1), (2, .long x2)]) (Nat.le_of_ble_eq_true rfl) rfl rfl ?_
                  refine eb_aload_n (pc := 136) (n := 0) (i := 0) rfl rfl rfl ?_
                  refine eb_aload_n (pc := 137) (n := 1) (i := 1) rfl rfl rfl ?_
                  refine eb_iload (pc := 138) (i := 4) rfl rfl ?_
                  refine eb_bipush (pc := 140) (n := 10) (v := 10) rfl rfl ?_
                  refine eb_idiv (pc := 142) (by decide) rfl ?_
                  refine eb_iload (pc := 143) (i := 4) rfl rfl ?_
                  refine eb_bipush (pc := 145) (n := 10) (v := 10) rfl rfl ?_
                  refine eb_irem (pc := 147) (by decide) rfl ?_
                  refine eb_ctV (pc := 148) (As := [.ref a1, .int ((x2.toInt32 - 1000) / 10), .int ((x2.toInt32 - 1000) - (x2.toInt32 - 1000) / 10 * 10)]) (rest := []) rfl (by decide) rfl ka0 (by decide) rfl (Nat.le_of_ble_eq_true rfl) ?_
                  refine eb_Ct.mono w ?_
                  rintro r h26 ⟨y27, rfl, ko28, w⟩
                  change eb_Sn _ _ _ 151 _ [.int y27] _ _
                  exact eb_ireturn (pc := 151) rfl rfl rfl w
                · replace c25 := (fun hh => mt eb_lc_lt.mpr hh) c25
                  replace w := w.2 c25
                  refine eb_iconst (pc := 126) (n := 1) (v := 1) rfl rfl ?_
                  exact eb_ireturn (pc := 127) rfl rfl rfl w
            · replace c23 := (fun hh => mt eb_lc_gt.mpr hh) c23
              replace w := w.2 c23
              refine eb_aload_n (pc := 98) (n := 1) (i := 1) rfl rfl rfl ?_
              refine eb_lload_n (pc := 99) (n := 2) (i := 2) rfl rfl rfl ?_
              refine eb_l2i (pc := 100) rfl ?_
              refine eb_sipush (pc := 101) (n := 300) (v := 300) rfl rfl ?_
              refine eb_isub (pc := 104) rfl ?_
              refine eb_putI (pc := 105) rfl ka1 (by decide) (by decide) rfl rfl ⟨rfl, rfl⟩ ?_
              refine eb_iconst (pc := 108) (n := 0) (v := 0) rfl rfl ?_
              exact eb_ireturn (pc := 109) rfl rfl rfl w
        · replace c16 := (fun hh => mt eb_lc_ge.mpr hh) c16
          replace w := w.2 c16
          refine eb_aload_n (pc := 70) (n := 0) (i := 0) rfl rfl rfl ?_
          refine eb_aload_n (pc := 71) (n := 1) (i := 1) rfl rfl rfl ?_
          refine eb_lload_n (pc := 72) (n := 2) (i := 2) rfl rfl rfl ?_
          refine eb_l2i (pc := 73) rfl ?_
          refine eb_sipush (pc := 74) (n := 200) (v := 200) rfl rfl ?_
          refine eb_isub (pc := 77) rfl ?_
          refine eb_ctV (pc := 78) (As := [.ref a1, .int (x2.toInt32 - 200)]) (rest := []) rfl (by decide) rfl ka0 (by decide) rfl (Nat.le_of_ble_eq_true rfl) ?_
          refine eb_Ct.mono w ?_
          rintro r h29 ⟨y30, rfl, ko31, w⟩
          change eb_Sn _ _ _ 81 _ [.int y30] _ _
          exact eb_ireturn (pc := 81) rfl rfl rfl w
    · replace c2 := (fun hh => mt eb_lc_lt.mpr hh) c2
      replace w := w.2 c2
      refine eb_lload_n (pc := 35) (n := 2) (i := 2) rfl rfl rfl ?_
      refine eb_ldc2 (pc := 36) (a := 200) (v := 200) rfl (by decide) ?_
      refine eb_lcmp (pc := 39) rfl ?_
      refine eb_if_ge (pc := 40) (tgt := 54) rfl (by decide) (fun c32 => ?_) (fun c32 => ?_)
      · replace c32 := eb_lc_ge.mp c32
        replace w := w.1 c32
        refine eb_lload_n (pc := 54) (n := 2) (i := 2) rfl rfl rfl ?_
        refine eb_ldc2 (pc := 55) (a := 200) (v := 200) rfl (by decide) ?_
        refine eb_lcmp (pc := 58) rfl ?_
        refine eb_if_lt (pc := 59) (tgt := 82) rfl (by decide) (fun c33 => ?_) (fun c33 => ?_)
        · replace c33 := eb_lc_lt.mp c33
          replace w := w.1 c33
          refine eb_lload_n (pc := 82) (n := 2) (i := 2) rfl rfl rfl ?_
          refine eb_ldc2 (pc := 83) (a := 300) (v := 300) rfl (by decide) ?_
          refine eb_lcmp (pc := 86) rfl ?_
          refine eb_if_lt (pc := 87) (tgt := 110) rfl (by decide) (fun c34 => ?_) (fun c34 => ?_)
          · replace c34 := eb_lc_lt.mp c34
            replace w := w.1 c34
            refine eb_lload_n (pc := 110) (n := 2) (i := 2) rfl rfl rfl ?_
            refine eb_ldc2 (pc := 111) (a := 1000) (v := 1000) rfl (by decide) ?_
            refine eb_lcmp (pc := 114) rfl ?_
            refine eb_if_lt (pc := 115) (tgt := 126) rfl (by decide) (fun c35 => ?_) (fun c35 => ?_)
            · replace c35 := eb_lc_lt.mp c35
              replace w := w.1 c35
              refine eb_iconst (pc := 126) (n := 1) (v := 1) rfl rfl ?_
              exact eb_ireturn (pc := 127) rfl rfl rfl w
            · replace c35 := (fun hh => mt eb_lc_lt.mpr hh) c35
              replace w := w.2 c35
              refine eb_lload_n (pc := 118) (n := 2) (i := 2) rfl rfl rfl ?_
              refine eb_ldc2 (pc := 119) (a := 2000) (v := 2000) rfl (by decide) ?_
              refine eb_lcmp (pc := 122) rfl ?_
              refine eb_if_lt (pc := 123) (tgt := 128) rfl (by decide) (fun c36 => ?_) (fun c36 => ?_)
              · replace c36 := eb_lc_lt.mp c36
                replace w := w.1 c36
                refine eb_lload_n (pc := 128) (n := 2) (i := 2) rfl rfl rfl ?_
                refine eb_l2i (pc := 129) rfl ?_
                refine eb_sipush (pc := 130) (n := 1000) (v := 1000) rfl rfl ?_
                refine eb_isub (pc := 133) rfl ?_
                refine eb_istore (pc := 134) (i := 4) (ls2 := [(4, .int (x2.toInt32 - 1000)), (0, .ref a0), (1, .ref a1), (2, .long x2)]) (Nat.le_of_ble_eq_true rfl) rfl rfl ?_
                refine eb_aload_n (pc := 136) (n := 0) (i := 0) rfl rfl rfl ?_
                refine eb_aload_n (pc := 137) (n := 1) (i := 1) rfl rfl rfl ?_
                refine eb_iload (pc := 138) (i := 4) rfl rfl ?_
                refine eb_bipush (pc := 140) (n := 10) (v := 10) rfl rfl ?_
                refine eb_idiv (pc := 142) (by decide) rfl ?_
                refine eb_iload (pc := 143) (i := 4) rfl rfl ?_
                refine eb_bipush (pc := 145) (n := 10) (v := 10) rfl rfl ?_
                refine eb_irem (pc := 147) (by decide) rfl ?_
                refine eb_ctV (pc := 148) (As := [.ref a1, .int ((x2.toInt32 - 1000) / 10), .int ((x2.toInt32 - 1000) - (x2.toInt32 - 1000) / 10 * 10)]) (rest := []) rfl (by decide) rfl ka0 (by decide) rfl (Nat.le_of_ble_eq_true rfl) ?_
                refine eb_Ct.mono w ?_
                rintro r h37 ⟨y38, rfl, ko39, w⟩
                change eb_Sn _ _ _ 151 _ [.int y38] _ _
                exact eb_ireturn (pc := 151) rfl rfl rfl w
              · replace c36 := (fun hh => mt eb_lc_lt.mpr hh) c36
                replace w := w.2 c36
                refine eb_iconst (pc := 126) (n := 1) (v := 1) rfl rfl ?_
                exact eb_ireturn (pc := 127) rfl rfl rfl w
          · replace c34 := (fun hh => mt eb_lc_lt.mpr hh) c34
            replace w := w.2 c34
            refine eb_lload_n (pc := 90) (n := 2) (i := 2) rfl rfl rfl ?_
            refine eb_ldc2 (pc := 91) (a := 309) (v := 309) rfl (by decide) ?_
            refine eb_lcmp (pc := 94) rfl ?_
            refine eb_if_gt (pc := 95) (tgt := 110) rfl (by decide) (fun c40 => ?_) (fun c40 => ?_)
            · replace c40 := eb_lc_gt.mp c40
              replace w := w.1 c40
              refine eb_lload_n (pc := 110) (n := 2) (i := 2) rfl rfl rfl ?_
              refine eb_ldc2 (pc := 111) (a := 1000) (v := 1000) rfl (by decide) ?_
              refine eb_lcmp (pc := 114) rfl ?_
              refine eb_if_lt (pc := 115) (tgt := 126) rfl (by decide) (fun c41 => ?_) (fun c41 => ?_)
              · replace c41 := eb_lc_lt.mp c41
                replace w := w.1 c41
                refine eb_iconst (pc := 126) (n := 1) (v := 1) rfl rfl ?_
                exact eb_ireturn (pc := 127) rfl rfl rfl w
              · replace c41 := (fun hh => mt eb_lc_lt.mpr hh) c41
                replace w := w.2 c41
                refine eb_lload_n (pc := 118) (n := 2) (i := 2) rfl rfl rfl ?_
                refine eb_ldc2 (pc := 119) (a := 2000) (v := 2000) rfl (by decide) ?_
                refine eb_lcmp (pc := 122) rfl ?_
                refine eb_if_lt (pc := 123) (tgt := 128) rfl (by decide) (fun c42 => ?_) (fun c42 => ?_)
                · replace c42 := eb_lc_lt.mp c42
                  replace w := w.1 c42
                  refine eb_lload_n (pc := 128) (n := 2) (i := 2) rfl rfl rfl ?_
                  refine eb_l2i (pc := 129) rfl ?_
                  refine eb_sipush (pc := 130) (n := 1000) (v := 1000) rfl rfl ?_
                  refine eb_isub (pc := 133) rfl ?_
                  refine eb_istore (pc := 134) (i := 4) (ls2 := [(4, .int (x2.toInt32 - 1000)), (0, .ref a0), (1, .ref a1), (2, .long x2)]) (Nat.le_of_ble_eq_true rfl) rfl rfl ?_
                  refine eb_aload_n (pc := 136) (n := 0) (i := 0) rfl rfl rfl ?_
                  refine eb_aload_n (pc := 137) (n := 1) (i := 1) rfl rfl rfl ?_
                  refine eb_iload (pc := 138) (i := 4) rfl rfl ?_
                  refine eb_bipush (pc := 140) (n := 10) (v := 10) rfl rfl ?_
                  refine eb_idiv (pc := 142) (by decide) rfl ?_
                  refine eb_iload (pc := 143) (i := 4) rfl rfl ?_
                  refine eb_bipush (pc := 145) (n := 10) (v := 10) rfl rfl ?_
                  refine eb_irem (pc := 147) (by decide) rfl ?_
                  refine eb_ctV (pc := 148) (As := [.ref a1, .int ((x2.toInt32 - 1000) / 10), .int ((x2.toInt32 - 1000) - (x2.toInt32 - 1000) / 10 * 10)]) (rest := []) rfl (by decide) rfl ka0 (by decide) rfl (Nat.le_of_ble_eq_true rfl) ?_
                  refine eb_Ct.mono w ?_
                  rintro r h43 ⟨y44, rfl, ko45, w⟩
                  change eb_Sn _ _ _ 151 _ [.int y44] _ _
                  exact eb_ireturn (pc := 151) rfl rfl rfl w
                · replace c42 := (fun hh => mt eb_lc_lt.mpr hh) c42
                  replace w := w.2 c42
                  refine eb_iconst (pc := 126) (n := 1) (v := 1) rfl rfl ?_
                  exact eb_ireturn (pc := 127) rfl rfl rfl w
            · replace c40 := (fun hh => mt eb_lc_gt.mpr hh) c40
              replace w := w.2 c40
              refine eb_aload_n (pc := 98) (n := 1) (i := 1) rfl rfl rfl ?_
              refine eb_lload_n (pc := 99) (n := 2) (i := 2) rfl rfl rfl ?_
              refine eb_l2i (pc := 100) rfl ?_
              refine eb_sipush (pc := 101) (n := 300) (v := 300) rfl rfl ?_
              refine eb_isub (pc := 104) rfl ?_
              refine eb_putI (pc := 105) rfl ka1 (by decide) (by decide) rfl rfl ⟨rfl, rfl⟩ ?_
              refine eb_iconst (pc := 108) (n := 0) (v := 0) rfl rfl ?_
              exact eb_ireturn (pc := 109) rfl rfl rfl w
        · replace c33 := (fun hh => mt eb_lc_lt.mpr hh) c33
          replace w := w.2 c33
          refine eb_lload_n (pc := 62) (n := 2) (i := 2) rfl rfl rfl ?_
          refine eb_ldc2 (pc := 63) (a := 300) (v := 300) rfl (by decide) ?_
          refine eb_lcmp (pc := 66) rfl ?_
          refine eb_if_ge (pc := 67) (tgt := 82) rfl (by decide) (fun c46 => ?_) (fun c46 => ?_)
          · replace c46 := eb_lc_ge.mp c46
            replace w := w.1 c46
            refine eb_lload_n (pc := 82) (n := 2) (i := 2) rfl rfl rfl ?_
            refine eb_ldc2 (pc := 83) (a := 300) (v := 300) rfl (by decide) ?_
            refine eb_lcmp (pc := 86) rfl ?_
            refine eb_if_lt (pc := 87) (tgt := 110) rfl (by decide) (fun c47 => ?_) (fun c47 => ?_)
            · replace c47 := eb_lc_lt.mp c47
              replace w := w.1 c47
              refine eb_lload_n (pc := 110) (n := 2) (i := 2) rfl rfl rfl ?_
              refine eb_ldc2 (pc := 111) (a := 1000) (v := 1000) rfl (by decide) ?_
              refine eb_lcmp (pc := 114) rfl ?_
              refine eb_if_lt (pc := 115) (tgt := 126) rfl (by decide) (fun c48 => ?_) (fun c48 => ?_)
              · replace c48 := eb_lc_lt.mp c48
                replace w := w.1 c48
                refine eb_iconst (pc := 126) (n := 1) (v := 1) rfl rfl ?_
                exact eb_ireturn (pc := 127) rfl rfl rfl w
              · replace c48 := (fun hh => mt eb_lc_lt.mpr hh) c48
                replace w := w.2 c48
                refine eb_lload_n (pc := 118) (n := 2) (i := 2) rfl rfl rfl ?_
                refine eb_ldc2 (pc := 119) (a := 2000) (v := 2000) rfl (by decide) ?_
                refine eb_lcmp (pc := 122) rfl ?_
                refine eb_if_lt (pc := 123) (tgt := 128) rfl (by decide) (fun c49 => ?_) (fun c49 => ?_)
                · replace c49 := eb_lc_lt.mp c49
                  replace w := w.1 c49
                  refine eb_lload_n (pc := 128) (n := 2) (i := 2) rfl rfl rfl ?_
                  refine eb_l2i (pc := 129) rfl ?_
                  refine eb_sipush (pc := 130) (n := 1000) (v := 1000) rfl rfl ?_
                  refine eb_isub (pc := 133) rfl ?_
                  refine eb_istore (pc := 134) (i := 4) (ls2 := [(4, .int (x2.toInt32 - 1000)), (0, .ref a0), (1, .ref a1), (2, .long x2)]) (Nat.le_of_ble_eq_true rfl) rfl rfl ?_
                  refine eb_aload_n (pc := 136) (n := 0) (i := 0) rfl rfl rfl ?_
                  refine eb_aload_n (pc := 137) (n := 1) (i := 1) rfl rfl rfl ?_
                  refine eb_iload (pc := 138) (i := 4) rfl rfl ?_
                  refine eb_bipush (pc := 140) (n := 10) (v := 10) rfl rfl ?_
                  refine eb_idiv (pc := 142) (by decide) rfl ?_
                  refine eb_iload (pc := 143) (i := 4) rfl rfl ?_
                  refine eb_bipush (pc := 145) (n := 10) (v := 10) rfl rfl ?_
                  refine eb_irem (pc := 147) (by decide) rfl ?_
                  refine eb_ctV (pc := 148) (As := [.ref a1, .int ((x2.toInt32 - 1000) / 10), .int ((x2.toInt32 - 1000) - (x2.toInt32 - 1000) / 10 * 10)]) (rest := []) rfl (by decide) rfl ka0 (by decide) rfl (Nat.le_of_ble_eq_true rfl) ?_
                  refine eb_Ct.mono w ?_
                  rintro r h50 ⟨y51, rfl, ko52, w⟩
                  change eb_Sn _ _ _ 151 _ [.int y51] _ _
                  exact eb_ireturn (pc := 151) rfl rfl rfl w
                · replace c49 := (fun hh => mt eb_lc_lt.mpr hh) c49
                  replace w := w.2 c49
                  refine eb_iconst (pc := 126) (n := 1) (v := 1) rfl rfl ?_
                  exact eb_ireturn (pc := 127) rfl rfl rfl w
            · replace c47 := (fun hh => mt eb_lc_lt.mpr hh) c47
              replace w := w.2 c47
              refine eb_lload_n (pc := 90) (n := 2) (i := 2) rfl rfl rfl ?_
              refine eb_ldc2 (pc := 91) (a := 309) (v := 309) rfl (by decide) ?_
              refine eb_lcmp (pc := 94) rfl ?_
              refine eb_if_gt (pc := 95) (tgt := 110) rfl (by decide) (fun c53 => ?_) (fun c53 => ?_)
              · replace c53 := eb_lc_gt.mp c53
                replace w := w.1 c53
                refine eb_lload_n (pc := 110) (n := 2) (i := 2) rfl rfl rfl ?_
                refine eb_ldc2 (pc := 111) (a := 1000) (v := 1000) rfl (by decide) ?_
                refine eb_lcmp (pc := 114) rfl ?_
                refine eb_if_lt (pc := 115) (tgt := 126) rfl (by decide) (fun c54 => ?_) (fun c54 => ?_)
                · replace c54 := eb_lc_lt.mp c54
                  replace w := w.1 c54
                  refine eb_iconst (pc := 126) (n := 1) (v := 1) rfl rfl ?_
                  exact eb_ireturn (pc := 127) rfl rfl rfl w
                · replace c54 := (fun hh => mt eb_lc_lt.mpr hh) c54
                  replace w := w.2 c54
                  refine eb_lload_n (pc := 118) (n := 2) (i := 2) rfl rfl rfl ?_
                  refine eb_ldc2 (pc := 119) (a := 2000) (v := 2000) rfl (by decide) ?_
                  refine eb_lcmp (pc := 122) rfl ?_
                  refine eb_if_lt (pc := 123) (tgt := 128) rfl (by decide) (fun c55 => ?_) (fun c55 => ?_)
                  · replace c55 := eb_lc_lt.mp c55
                    replace w := w.1 c55
                    refine eb_lload_n (pc := 128) (n := 2) (i := 2) rfl rfl rfl ?_
                    refine eb_l2i (pc := 129) rfl ?_
                    refine eb_sipush (pc := 130) (n := 1000) (v := 1000) rfl rfl ?_
                    refine eb_isub (pc := 133) rfl ?_
                    refine eb_istore (pc := 134) (i := 4) (ls2 := [(4, .int (x2.toInt32 - 1000)), (0, .ref a0), (1, .ref a1), (2, .long x2)]) (Nat.le_of_ble_eq_true rfl) rfl rfl ?_
                    refine eb_aload_n (pc := 136) (n := 0) (i := 0) rfl rfl rfl ?_
                    refine eb_aload_n (pc := 137) (n := 1) (i := 1) rfl rfl rfl ?_
                    refine eb_iload (pc := 138) (i := 4) rfl rfl ?_
                    refine eb_bipush (pc := 140) (n := 10) (v := 10) rfl rfl ?_
                    refine eb_idiv (pc := 142) (by decide) rfl ?_
                    refine eb_iload (pc := 143) (i := 4) rfl rfl ?_
                    refine eb_bipush (pc := 145) (n := 10) (v := 10) rfl rfl ?_
                    refine eb_irem (pc := 147) (by decide) rfl ?_
                    refine eb_ctV (pc := 148) (As := [.ref a1, .int ((x2.toInt32 - 1000) / 10), .int ((x2.toInt32 - 1000) - (x2.toInt32 - 1000) / 10 * 10)]) (rest := []) rfl (by decide) rfl ka0 (by decide) rfl (Nat.le_of_ble_eq_true rfl) ?_
                    refine eb_Ct.mono w ?_
                    rintro r h56 ⟨y57, rfl, ko58, w⟩
                    change eb_Sn _ _ _ 151 _ [.int y57] _ _
                    exact eb_ireturn (pc := 151) rfl rfl rfl w
                  · replace c55 := (fun hh => mt eb_lc_lt.mpr hh) c55
                    replace w := w.2 c55
                    refine eb_iconst (pc := 126) (n := 1) (v := 1) rfl rfl ?_
                    exact eb_ireturn (pc := 127) rfl rfl rfl w
              · replace c53 := (fun hh => mt eb_lc_gt.mpr hh) c53
                replace w := w.2 c53
                refine eb_aload_n (pc := 98) (n := 1) (i := 1) rfl rfl rfl ?_
                refine eb_lload_n (pc := 99) (n := 2) (i := 2) rfl rfl rfl ?_
                refine eb_l2i (pc := 100) rfl ?_
                refine eb_sipush (pc := 101) (n := 300) (v := 300) rfl rfl ?_
                refine eb_isub (pc := 104) rfl ?_
                refine eb_putI (pc := 105) rfl ka1 (by decide) (by decide) rfl rfl ⟨rfl, rfl⟩ ?_
                refine eb_iconst (pc := 108) (n := 0) (v := 0) rfl rfl ?_
                exact eb_ireturn (pc := 109) rfl rfl rfl w
          · replace c46 := (fun hh => mt eb_lc_ge.mpr hh) c46
            replace w := w.2 c46
            refine eb_aload_n (pc := 70) (n := 0) (i := 0) rfl rfl rfl ?_
            refine eb_aload_n (pc := 71) (n := 1) (i := 1) rfl rfl rfl ?_
            refine eb_lload_n (pc := 72) (n := 2) (i := 2) rfl rfl rfl ?_
            refine eb_l2i (pc := 73) rfl ?_
            refine eb_sipush (pc := 74) (n := 200) (v := 200) rfl rfl ?_
            refine eb_isub (pc := 77) rfl ?_
            refine eb_ctV (pc := 78) (As := [.ref a1, .int (x2.toInt32 - 200)]) (rest := []) rfl (by decide) rfl ka0 (by decide) rfl (Nat.le_of_ble_eq_true rfl) ?_
            refine eb_Ct.mono w ?_
            rintro r h59 ⟨y60, rfl, ko61, w⟩
            change eb_Sn _ _ _ 81 _ [.int y60] _ _
            exact eb_ireturn (pc := 81) rfl rfl rfl w
      · replace c32 := (fun hh => mt eb_lc_ge.mpr hh) c32
        replace w := w.2 c32
        refine eb_aload_n (pc := 43) (n := 0) (i := 0) rfl rfl rfl ?_
        refine eb_aload_n (pc := 44) (n := 1) (i := 1) rfl rfl rfl ?_
        refine eb_lload_n (pc := 45) (n := 2) (i := 2) rfl rfl rfl ?_
        refine eb_l2i (pc := 46) rfl ?_
        refine eb_bipush (pc := 47) (n := 100) (v := 100) rfl rfl ?_
        refine eb_isub (pc := 49) rfl ?_
        refine eb_ctV (pc := 50) (As := [.ref a1, .int (x2.toInt32 - 100)]) (rest := []) rfl (by decide) rfl ka0 (by decide) rfl (Nat.le_of_ble_eq_true rfl) ?_
        refine eb_Ct.mono w ?_
        rintro r h62 ⟨y63, rfl, ko64, w⟩
        change eb_Sn _ _ _ 53 _ [.int y63] _ _
        exact eb_ireturn (pc := 53) rfl rfl rfl w
  · replace c1 := (fun hh => mt eb_lc_lt.mpr hh) c1
    replace w := w.2 c1
    refine eb_lload_n (pc := 6) (n := 2) (i := 2) rfl rfl rfl ?_
    refine eb_ldc2 (pc := 7) (a := 4) (v := 4) rfl (by decide) ?_
    refine eb_lcmp (pc := 10) rfl ?_
    refine eb_if_ge (pc := 11) (tgt := 27) rfl (by decide) (fun c65 => ?_) (fun c65 => ?_)
    · replace c65 := eb_lc_ge.mp c65
      replace w := w.1 c65
      refine eb_lload_n (pc := 27) (n := 2) (i := 2) rfl rfl rfl ?_
      refine eb_ldc2 (pc := 28) (a := 100) (v := 100) rfl (by decide) ?_
      refine eb_lcmp (pc := 31) rfl ?_
      refine eb_if_lt (pc := 32) (tgt := 54) rfl (by decide) (fun c66 => ?_) (fun c66 => ?_)
      · replace c66 := eb_lc_lt.mp c66
        replace w := w.1 c66
        refine eb_lload_n (pc := 54) (n := 2) (i := 2) rfl rfl rfl ?_
        refine eb_ldc2 (pc := 55) (a := 200) (v := 200) rfl (by decide) ?_
        refine eb_lcmp (pc := 58) rfl ?_
        refine eb_if_lt (pc := 59) (tgt := 82) rfl (by decide) (fun c67 => ?_) (fun c67 => ?_)
        · replace c67 := eb_lc_lt.mp c67
          replace w := w.1 c67
          refine eb_lload_n (pc := 82) (n := 2) (i := 2) rfl rfl rfl ?_
          refine eb_ldc2 (pc := 83) (a := 300) (v := 300) rfl (by decide) ?_
          refine eb_lcmp (pc := 86) rfl ?_
          refine eb_if_lt (pc := 87) (tgt := 110) rfl (by decide) (fun c68 => ?_) (fun c68 => ?_)
          · replace c68 := eb_lc_lt.mp c68
            replace w := w.1 c68
            refine eb_lload_n (pc := 110) (n := 2) (i := 2) rfl rfl rfl ?_
            refine eb_ldc2 (pc := 111) (a := 1000) (v := 1000) rfl (by decide) ?_
            refine eb_lcmp (pc := 114) rfl ?_
            refine eb_if_lt (pc := 115) (tgt := 126) rfl (by decide) (fun c69 => ?_) (fun c69 => ?_)
            · replace c69 := eb_lc_lt.mp c69
              replace w := w.1 c69
              refine eb_iconst (pc := 126) (n := 1) (v := 1) rfl rfl ?_
              exact eb_ireturn (pc := 127) rfl rfl rfl w
            · replace c69 := (fun hh => mt eb_lc_lt.mpr hh) c69
              replace w := w.2 c69
              refine eb_lload_n (pc := 118) (n := 2) (i := 2) rfl rfl rfl ?_
              refine eb_ldc2 (pc := 119) (a := 2000) (v := 2000) rfl (by decide) ?_
              refine eb_lcmp (pc := 122) rfl ?_
              refine eb_if_lt (pc := 123) (tgt := 128) rfl (by decide) (fun c70 => ?_) (fun c70 => ?_)
              · replace c70 := eb_lc_lt.mp c70
                replace w := w.1 c70
                refine eb_lload_n (pc := 128) (n := 2) (i := 2) rfl rfl rfl ?_
                refine eb_l2i (pc := 129) rfl ?_
                refine eb_sipush (pc := 130) (n := 1000) (v := 1000) rfl rfl ?_
                refine eb_isub (pc := 133) rfl ?_
                refine eb_istore (pc := 134) (i := 4) (ls2 := [(4, .int (x2.toInt32 - 1000)), (0, .ref a0), (1, .ref a1), (2, .long x2)]) (Nat.le_of_ble_eq_true rfl) rfl rfl ?_
                refine eb_aload_n (pc := 136) (n := 0) (i := 0) rfl rfl rfl ?_
                refine eb_aload_n (pc := 137) (n := 1) (i := 1) rfl rfl rfl ?_
                refine eb_iload (pc := 138) (i := 4) rfl rfl ?_
                refine eb_bipush (pc := 140) (n := 10) (v := 10) rfl rfl ?_
                refine eb_idiv (pc := 142) (by decide) rfl ?_
                refine eb_iload (pc := 143) (i := 4) rfl rfl ?_
                refine eb_bipush (pc := 145) (n := 10) (v := 10) rfl rfl ?_
                refine eb_irem (pc := 147) (by decide) rfl ?_
                refine eb_ctV (pc := 148) (As := [.ref a1, .int ((x2.toInt32 - 1000) / 10), .int ((x2.toInt32 - 1000) - (x2.toInt32 - 1000) / 10 * 10)]) (rest := []) rfl (by decide) rfl ka0 (by decide) rfl (Nat.le_of_ble_eq_true rfl) ?_
                refine eb_Ct.mono w ?_
                rintro r h71 ⟨y72, rfl, ko73, w⟩
                change eb_Sn _ _ _ 151 _ [.int y72] _ _
                exact eb_ireturn (pc := 151) rfl rfl rfl w
              · replace c70 := (fun hh => mt eb_lc_lt.mpr hh) c70
                replace w := w.2 c70
                refine eb_iconst (pc := 126) (n := 1) (v := 1) rfl rfl ?_
                exact eb_ireturn (pc := 127) rfl rfl rfl w
          · replace c68 := (fun hh => mt eb_lc_lt.mpr hh) c68
            replace w := w.2 c68
            refine eb_lload_n (pc := 90) (n := 2) (i := 2) rfl rfl rfl ?_
            refine eb_ldc2 (pc := 91) (a := 309) (v := 309) rfl (by decide) ?_
            refine eb_lcmp (pc := 94) rfl ?_
            refine eb_if_gt (pc := 95) (tgt := 110) rfl (by decide) (fun c74 => ?_) (fun c74 => ?_)
            · replace c74 := eb_lc_gt.mp c74
              replace w := w.1 c74
              refine eb_lload_n (pc := 110) (n := 2) (i := 2) rfl rfl rfl ?_
              refine eb_ldc2 (pc := 111) (a := 1000) (v := 1000) rfl (by decide) ?_
              refine eb_lcmp (pc := 114) rfl ?_
              refine eb_if_lt (pc := 115) (tgt := 126) rfl (by decide) (fun c75 => ?_) (fun c75 => ?_)
              · replace c75 := eb_lc_lt.mp c75
                replace w := w.1 c75
                refine eb_iconst (pc := 126) (n := 1) (v := 1) rfl rfl ?_
                exact eb_ireturn (pc := 127) rfl rfl rfl w
              · replace c75 := (fun hh => mt eb_lc_lt.mpr hh) c75
                replace w := w.2 c75
                refine eb_lload_n (pc := 118) (n := 2) (i := 2) rfl rfl rfl ?_
                refine eb_ldc2 (pc := 119) (a := 2000) (v := 2000) rfl (by decide) ?_
                refine eb_lcmp (pc := 122) rfl ?_
                refine eb_if_lt (pc := 123) (tgt := 128) rfl (by decide) (fun c76 => ?_) (fun c76 => ?_)
                · replace c76 := eb_lc_lt.mp c76
                  replace w := w.1 c76
                  refine eb_lload_n (pc := 128) (n := 2) (i := 2) rfl rfl rfl ?_
                  refine eb_l2i (pc := 129) rfl ?_
                  refine eb_sipush (pc := 130) (n := 1000) (v := 1000) rfl rfl ?_
                  refine eb_isub (pc := 133) rfl ?_
                  refine eb_istore (pc := 134) (i := 4) (ls2 := [(4, .int (x2.toInt32 - 1000)), (0, .ref a0), (1, .ref a1), (2, .long x2)]) (Nat.le_of_ble_eq_true rfl) rfl rfl ?_
                  refine eb_aload_n (pc := 136) (n := 0) (i := 0) rfl rfl rfl ?_
                  refine eb_aload_n (pc := 137) (n := 1) (i := 1) rfl rfl rfl ?_
                  refine eb_iload (pc := 138) (i := 4) rfl rfl ?_
                  refine eb_bipush (pc := 140) (n := 10) (v := 10) rfl rfl ?_
                  refine eb_idiv (pc := 142) (by decide) rfl ?_
                  refine eb_iload (pc := 143) (i := 4) rfl rfl ?_
                  refine eb_bipush (pc := 145) (n := 10) (v := 10) rfl rfl ?_
                  refine eb_irem (pc := 147) (by decide) rfl ?_
                  refine eb_ctV (pc := 148) (As := [.ref a1, .int ((x2.toInt32 - 1000) / 10), .int ((x2.toInt32 - 1000) - (x2.toInt32 - 1000) / 10 * 10)]) (rest := []) rfl (by decide) rfl ka0 (by decide) rfl (Nat.le_of_ble_eq_true rfl) ?_
                  refine eb_Ct.mono w ?_
                  rintro r h77 ⟨y78, rfl, ko79, w⟩
                  change eb_Sn _ _ _ 151 _ [.int y78] _ _
                  exact eb_ireturn (pc := 151) rfl rfl rfl w
                · replace c76 := (fun hh => mt eb_lc_lt.mpr hh) c76
                  replace w := w.2 c76
                  refine eb_iconst (pc := 126) (n := 1) (v := 1) rfl rfl ?_
                  exact eb_ireturn (pc := 127) rfl rfl rfl w
            · replace c74 := (fun hh => mt eb_lc_gt.mpr hh) c74
              replace w := w.2 c74
              refine eb_aload_n (pc := 98) (n := 1) (i := 1) rfl rfl rfl ?_
              refine eb_lload_n (pc := 99) (n := 2) (i := 2) rfl rfl rfl ?_
              refine eb_l2i (pc := 100) rfl ?_
              refine eb_sipush (pc := 101) (n := 300) (v := 300) rfl rfl ?_
              refine eb_isub (pc := 104) rfl ?_
              refine eb_putI (pc := 105) rfl ka1 (by decide) (by decide) rfl rfl ⟨rfl, rfl⟩ ?_
              refine eb_iconst (pc := 108) (n := 0) (v := 0) rfl rfl ?_
              exact eb_ireturn (pc := 109) rfl rfl rfl w
        · replace c67 := (fun hh => mt eb_lc_lt.mpr hh) c67
          replace w := w.2 c67
          refine eb_lload_n (pc := 62) (n := 2) (i := 2) rfl rfl rfl ?_
          refine eb_ldc2 (pc := 63) (a := 300) (v := 300) rfl (by decide) ?_
          refine eb_lcmp (pc := 66) rfl ?_
          refine eb_if_ge (pc := 67) (tgt := 82) rfl (by decide) (fun c80 => ?_) (fun c80 => ?_)
          · replace c80 := eb_lc_ge.mp c80
            replace w := w.1 c80
            refine eb_lload_n (pc := 82) (n := 2) (i := 2) rfl rfl rfl ?_
            refine eb_ldc2 (pc := 83) (a := 300) (v := 300) rfl (by decide) ?_
            refine eb_lcmp (pc := 86) rfl ?_
            refine eb_if_lt (pc := 87) (tgt := 110) rfl (by decide) (fun c81 => ?_) (fun c81 => ?_)
            · replace c81 := eb_lc_lt.mp c81
              replace w := w.1 c81
              refine eb_lload_n (pc := 110) (n := 2) (i := 2) rfl rfl rfl ?_
              refine eb_ldc2 (pc := 111) (a := 1000) (v := 1000) rfl (by decide) ?_
              refine eb_lcmp (pc := 114) rfl ?_
              refine eb_if_lt (pc := 115) (tgt := 126) rfl (by decide) (fun c82 => ?_) (fun c82 => ?_)
              · replace c82 := eb_lc_lt.mp c82
                replace w := w.1 c82
                refine eb_iconst (pc := 126) (n := 1) (v := 1) rfl rfl ?_
                exact eb_ireturn (pc := 127) rfl rfl rfl w
              · replace c82 := (fun hh => mt eb_lc_lt.mpr hh) c82
                replace w := w.2 c82
                refine eb_lload_n (pc := 118) (n := 2) (i := 2) rfl rfl rfl ?_
                refine eb_ldc2 (pc := 119) (a := 2000) (v := 2000) rfl (by decide) ?_
                refine eb_lcmp (pc := 122) rfl ?_
                refine eb_if_lt (pc := 123) (tgt := 128) rfl (by decide) (fun c83 => ?_) (fun c83 => ?_)
                · replace c83 := eb_lc_lt.mp c83
                  replace w := w.1 c83
                  refine eb_lload_n (pc := 128) (n := 2) (i := 2) rfl rfl rfl ?_
                  refine eb_l2i (pc := 129) rfl ?_
                  refine eb_sipush (pc := 130) (n := 1000) (v := 1000) rfl rfl ?_
                  refine eb_isub (pc := 133) rfl ?_
                  refine eb_istore (pc := 134) (i := 4) (ls2 := [(4, .int (x2.toInt32 - 1000)), (0, .ref a0), (1, .ref a1), (2, .long x2)]) (Nat.le_of_ble_eq_true rfl) rfl rfl ?_
                  refine eb_aload_n (pc := 136) (n := 0) (i := 0) rfl rfl rfl ?_
                  refine eb_aload_n (pc := 137) (n := 1) (i := 1) rfl rfl rfl ?_
                  refine eb_iload (pc := 138) (i := 4) rfl rfl ?_
                  refine eb_bipush (pc := 140) (n := 10) (v := 10) rfl rfl ?_
                  refine eb_idiv (pc := 142) (by decide) rfl ?_
                  refine eb_iload (pc := 143) (i := 4) rfl rfl ?_
                  refine eb_bipush (pc := 145) (n := 10) (v := 10) rfl rfl ?_
                  refine eb_irem (pc := 147) (by decide) rfl ?_
                  refine eb_ctV (pc := 148) (As := [.ref a1, .int ((x2.toInt32 - 1000) / 10), .int ((x2.toInt32 - 1000) - (x2.toInt32 - 1000) / 10 * 10)]) (rest := []) rfl (by decide) rfl ka0 (by decide) rfl (Nat.le_of_ble_eq_true rfl) ?_
                  refine eb_Ct.mono w ?_
                  rintro r h84 ⟨y85, rfl, ko86, w⟩
                  change eb_Sn _ _ _ 151 _ [.int y85] _ _
                  exact eb_ireturn (pc := 151) rfl rfl rfl w
                · replace c83 := (fun hh => mt eb_lc_lt.mpr hh) c83
                  replace w := w.2 c83
                  refine eb_iconst (pc := 126) (n := 1) (v := 1) rfl rfl ?_
                  exact eb_ireturn (pc := 127) rfl rfl rfl w
            · replace c81 := (fun hh => mt eb_lc_lt.mpr hh) c81
              replace w := w.2 c81
              refine eb_lload_n (pc := 90) (n := 2) (i := 2) rfl rfl rfl ?_
              refine eb_ldc2 (pc := 91) (a := 309) (v := 309) rfl (by decide) ?_
              refine eb_lcmp (pc := 94) rfl ?_
              refine eb_if_gt (pc := 95) (tgt := 110) rfl (by decide) (fun c87 => ?_) (fun c87 => ?_)
              · replace c87 := eb_lc_gt.mp c87
                replace w := w.1 c87
                refine eb_lload_n (pc := 110) (n := 2) (i := 2) rfl rfl rfl ?_
                refine eb_ldc2 (pc := 111) (a := 1000) (v := 1000) rfl (by decide) ?_
                refine eb_lcmp (pc := 114) rfl ?_
                refine eb_if_lt (pc := 115) (tgt := 126) rfl (by decide) (fun c88 => ?_) (fun c88 => ?_)
                · replace c88 := eb_lc_lt.mp c88
                  replace w := w.1 c88
                  refine eb_iconst (pc := 126) (n := 1) (v := 1) rfl rfl ?_
                  exact eb_ireturn (pc := 127) rfl rfl rfl w
                · replace c88 := (fun hh => mt eb_lc_lt.mpr hh) c88
                  replace w := w.2 c88
                  refine eb_lload_n (pc := 118) (n := 2) (i := 2) rfl rfl rfl ?_
                  refine eb_ldc2 (pc := 119) (a := 2000) (v := 2000) rfl (by decide) ?_
                  refine eb_lcmp (pc := 122) rfl ?_
                  refine eb_if_lt (pc := 123) (tgt := 128) rfl (by decide) (fun c89 => ?_) (fun c89 => ?_)
                  · replace c89 := eb_lc_lt.mp c89
                    replace w := w.1 c89
                    refine eb_lload_n (pc := 128) (n := 2) (i := 2) rfl rfl rfl ?_
                    refine eb_l2i (pc := 129) rfl ?_
                    refine eb_sipush (pc := 130) (n := 1000) (v := 1000) rfl rfl ?_
                    refine eb_isub (pc := 133) rfl ?_
                    refine eb_istore (pc := 134) (i := 4) (ls2 := [(4, .int (x2.toInt32 - 1000)), (0, .ref a0), (1, .ref a1), (2, .long x2)]) (Nat.le_of_ble_eq_true rfl) rfl rfl ?_
                    refine eb_aload_n (pc := 136) (n := 0) (i := 0) rfl rfl rfl ?_
                    refine eb_aload_n (pc := 137) (n := 1) (i := 1) rfl rfl rfl ?_
                    refine eb_iload (pc := 138) (i := 4) rfl rfl ?_
                    refine eb_bipush (pc := 140) (n := 10) (v := 10) rfl rfl ?_
                    refine eb_idiv (pc := 142) (by decide) rfl ?_
                    refine eb_iload (pc := 143) (i := 4) rfl rfl ?_
                    refine eb_bipush (pc := 145) (n := 10) (v := 10) rfl rfl ?_
                    refine eb_irem (pc := 147) (by decide) rfl ?_
                    refine eb_ctV (pc := 148) (As := [.ref a1, .int ((x2.toInt32 - 1000) / 10), .int ((x2.toInt32 - 1000) - (x2.toInt32 - 1000) / 10 * 10)]) (rest := []) rfl (by decide) rfl ka0 (by decide) rfl (Nat.le_of_ble_eq_true rfl) ?_
                    refine eb_Ct.mono w ?_
                    rintro r h90 ⟨y91, rfl, ko92, w⟩
                    change eb_Sn _ _ _ 151 _ [.int y91] _ _
                    exact eb_ireturn (pc := 151) rfl rfl rfl w
                  · replace c89 := (fun hh => mt eb_lc_lt.mpr hh) c89
                    replace w := w.2 c89
                    refine eb_iconst (pc := 126) (n := 1) (v := 1) rfl rfl ?_
                    exact eb_ireturn (pc := 127) rfl rfl rfl w
              · replace c87 := (fun hh => mt eb_lc_gt.mpr hh) c87
                replace w := w.2 c87
                refine eb_aload_n (pc := 98) (n := 1) (i := 1) rfl rfl rfl ?_
                refine eb_lload_n (pc := 99) (n := 2) (i := 2) rfl rfl rfl ?_
                refine eb_l2i (pc := 100) rfl ?_
                refine eb_sipush (pc := 101) (n := 300) (v := 300) rfl rfl ?_
                refine eb_isub (pc := 104) rfl ?_
                refine eb_putI (pc := 105) rfl ka1 (by decide) (by decide) rfl rfl ⟨rfl, rfl⟩ ?_
                refine eb_iconst (pc := 108) (n := 0) (v := 0) rfl rfl ?_
                exact eb_ireturn (pc := 109) rfl rfl rfl w
          · replace c80 := (fun hh => mt eb_lc_ge.mpr hh) c80
            replace w := w.2 c80
            refine eb_aload_n (pc := 70) (n := 0) (i := 0) rfl rfl rfl ?_
            refine eb_aload_n (pc := 71) (n := 1) (i := 1) rfl rfl rfl ?_
            refine eb_lload_n (pc := 72) (n := 2) (i := 2) rfl rfl rfl ?_
            refine eb_l2i (pc := 73) rfl ?_
            refine eb_sipush (pc := 74) (n := 200) (v := 200) rfl rfl ?_
            refine eb_isub (pc := 77) rfl ?_
            refine eb_ctV (pc := 78) (As := [.ref a1, .int (x2.toInt32 - 200)]) (rest := []) rfl (by decide) rfl ka0 (by decide) rfl (Nat.le_of_ble_eq_true rfl) ?_
            refine eb_Ct.mono w ?_
            rintro r h93 ⟨y94, rfl, ko95, w⟩
            change eb_Sn _ _ _ 81 _ [.int y94] _ _
            exact eb_ireturn (pc := 81) rfl rfl rfl w
      · replace c66 := (fun hh => mt eb_lc_lt.mpr hh) c66
        replace w := w.2 c66
        refine eb_lload_n (pc := 35) (n := 2) (i := 2) rfl rfl rfl ?_
        refine eb_ldc2 (pc := 36) (a := 200) (v := 200) rfl (by decide) ?_
        refine eb_lcmp (pc := 39) rfl ?_
        refine eb_if_ge (pc := 40) (tgt := 54) rfl (by decide) (fun c96 => ?_) (fun c96 => ?_)
        · replace c96 := eb_lc_ge.mp c96
          replace w := w.1 c96
          refine eb_lload_n (pc := 54) (n := 2) (i := 2) rfl rfl rfl ?_
          refine eb_ldc2 (pc := 55) (a := 200) (v := 200) rfl (by decide) ?_
          refine eb_lcmp (pc := 58) rfl ?_
          refine eb_if_lt (pc := 59) (tgt := 82) rfl (by decide) (fun c97 => ?_) (fun c97 => ?_)
          · replace c97 := eb_lc_lt.mp c97
            replace w := w.1 c97
            refine eb_lload_n (pc := 82) (n := 2) (i := 2) rfl rfl rfl ?_
            refine eb_ldc2 (pc := 83) (a := 300) (v := 300) rfl (by decide) ?_
            refine eb_lcmp (pc := 86) rfl ?_
            refine eb_if_lt (pc := 87) (tgt := 110) rfl (by decide) (fun c98 => ?_) (fun c98 => ?_)
            · replace c98 := eb_lc_lt.mp c98
              replace w := w.1 c98
              refine eb_lload_n (pc := 110) (n := 2) (i := 2) rfl rfl rfl ?_
              refine eb_ldc2 (pc := 111) (a := 1000) (v := 1000) rfl (by decide) ?_
              refine eb_lcmp (pc := 114) rfl ?_
              refine eb_if_lt (pc := 115) (tgt := 126) rfl (by decide) (fun c99 => ?_) (fun c99 => ?_)
              · replace c99 := eb_lc_lt.mp c99
                replace w := w.1 c99
                refine eb_iconst (pc := 126) (n := 1) (v := 1) rfl rfl ?_
                exact eb_ireturn (pc := 127) rfl rfl rfl w
              · replace c99 := (fun hh => mt eb_lc_lt.mpr hh) c99
                replace w := w.2 c99
                refine eb_lload_n (pc := 118) (n := 2) (i := 2) rfl rfl rfl ?_
                refine eb_ldc2 (pc := 119) (a := 2000) (v := 2000) rfl (by decide) ?_
                refine eb_lcmp (pc := 122) rfl ?_
                refine eb_if_lt (pc := 123) (tgt := 128) rfl (by decide) (fun c100 => ?_) (fun c100 => ?_)
                · replace c100 := eb_lc_lt.mp c100
                  replace w := w.1 c100
                  refine eb_lload_n (pc := 128) (n := 2) (i := 2) rfl rfl rfl ?_
                  refine eb_l2i (pc := 129) rfl ?_
                  refine eb_sipush (pc := 130) (n := 1000) (v := 1000) rfl rfl ?_
                  refine eb_isub (pc := 133) rfl ?_
                  refine eb_istore (pc := 134) (i := 4) (ls2 := [(4, .int (x2.toInt32 - 1000)), (0, .ref a0), (1, .ref a1), (2, .long x2)]) (Nat.le_of_ble_eq_true rfl) rfl rfl ?_
                  refine eb_aload_n (pc := 136) (n := 0) (i := 0) rfl rfl rfl ?_
                  refine eb_aload_n (pc := 137) (n := 1) (i := 1) rfl rfl rfl ?_
                  refine eb_iload (pc := 138) (i := 4) rfl rfl ?_
                  refine eb_bipush (pc := 140) (n := 10) (v := 10) rfl rfl ?_
                  refine eb_idiv (pc := 142) (by decide) rfl ?_
                  refine eb_iload (pc := 143) (i := 4) rfl rfl ?_
                  refine eb_bipush (pc := 145) (n := 10) (v := 10) rfl rfl ?_
                  refine eb_irem (pc := 147) (by decide) rfl ?_
                  refine eb_ctV (pc := 148) (As := [.ref a1, .int ((x2.toInt32 - 1000) / 10), .int ((x2.toInt32 - 1000) - (x2.toInt32 - 1000) / 10 * 10)]) (rest := []) rfl (by decide) rfl ka0 (by decide) rfl (Nat.le_of_ble_eq_true rfl) ?_
                  refine eb_Ct.mono w ?_
                  rintro r h101 ⟨y102, rfl, ko103, w⟩
                  change eb_Sn _ _ _ 151 _ [.int y102] _ _
                  exact eb_ireturn (pc := 151) rfl rfl rfl w
                · replace c100 := (fun hh => mt eb_lc_lt.mpr hh) c100
                  replace w := w.2 c100
                  refine eb_iconst (pc := 126) (n := 1) (v := 1) rfl rfl ?_
                  exact eb_ireturn (pc := 127) rfl rfl rfl w
            · replace c98 := (fun hh => mt eb_lc_lt.mpr hh) c98
              replace w := w.2 c98
              refine eb_lload_n (pc := 90) (n := 2) (i := 2) rfl rfl rfl ?_
              refine eb_ldc2 (pc := 91) (a := 309) (v := 309) rfl (by decide) ?_
              refine eb_lcmp (pc := 94) rfl ?_
              refine eb_if_gt (pc := 95) (tgt := 110) rfl (by decide) (fun c104 => ?_) (fun c104 => ?_)
              · replace c104 := eb_lc_gt.mp c104
                replace w := w.1 c104
                refine eb_lload_n (pc := 110) (n := 2) (i := 2) rfl rfl rfl ?_
                refine eb_ldc2 (pc := 111) (a := 1000) (v := 1000) rfl (by decide) ?_
                refine eb_lcmp (pc := 114) rfl ?_
                refine eb_if_lt (pc := 115) (tgt := 126) rfl (by decide) (fun c105 => ?_) (fun c105 => ?_)
                · replace c105 := eb_lc_lt.mp c105
                  replace w := w.1 c105
                  refine eb_iconst (pc := 126) (n := 1) (v := 1) rfl rfl ?_
                  exact eb_ireturn (pc := 127) rfl rfl rfl w
                · replace c105 := (fun hh => mt eb_lc_lt.mpr hh) c105
                  replace w := w.2 c105
                  refine eb_lload_n (pc := 118) (n := 2) (i := 2) rfl rfl rfl ?_
                  refine eb_ldc2 (pc := 119) (a := 2000) (v := 2000) rfl (by decide) ?_
                  refine eb_lcmp (pc := 122) rfl ?_
                  refine eb_if_lt (pc := 123) (tgt := 128) rfl (by decide) (fun c106 => ?_) (fun c106 => ?_)
                  · replace c106 := eb_lc_lt.mp c106
                    replace w := w.1 c106
                    refine eb_lload_n (pc := 128) (n := 2) (i := 2) rfl rfl rfl ?_
                    refine eb_l2i (pc := 129) rfl ?_
                    refine eb_sipush (pc := 130) (n := 1000) (v := 1000) rfl rfl ?_
                    refine eb_isub (pc := 133) rfl ?_
                    refine eb_istore (pc := 134) (i := 4) (ls2 := [(4, .int (x2.toInt32 - 1000)), (0, .ref a0), (1, .ref a1), (2, .long x2)]) (Nat.le_of_ble_eq_true rfl) rfl rfl ?_
                    refine eb_aload_n (pc := 136) (n := 0) (i := 0) rfl rfl rfl ?_
                    refine eb_aload_n (pc := 137) (n := 1) (i := 1) rfl rfl rfl ?_
                    refine eb_iload (pc := 138) (i := 4) rfl rfl ?_
                    refine eb_bipush (pc := 140) (n := 10) (v := 10) rfl rfl ?_
                    refine eb_idiv (pc := 142) (by decide) rfl ?_
                    refine eb_iload (pc := 143) (i := 4) rfl rfl ?_
                    refine eb_bipush (pc := 145) (n := 10) (v := 10) rfl rfl ?_
                    refine eb_irem (pc := 147) (by decide) rfl ?_
                    refine eb_ctV (pc := 148) (As := [.ref a1, .int ((x2.toInt32 - 1000) / 10), .int ((x2.toInt32 - 1000) - (x2.toInt32 - 1000) / 10 * 10)]) (rest := []) rfl (by decide) rfl ka0 (by decide) rfl (Nat.le_of_ble_eq_true rfl) ?_
                    refine eb_Ct.mono w ?_
                    rintro r h107 ⟨y108, rfl, ko109, w⟩
                    change eb_Sn _ _ _ 151 _ [.int y108] _ _
                    exact eb_ireturn (pc := 151) rfl rfl rfl w
                  · replace c106 := (fun hh => mt eb_lc_lt.mpr hh) c106
                    replace w := w.2 c106
                    refine eb_iconst (pc := 126) (n := 1) (v := 1) rfl rfl ?_
                    exact eb_ireturn (pc := 127) rfl rfl rfl w
              · replace c104 := (fun hh => mt eb_lc_gt.mpr hh) c104
                replace w := w.2 c104
                refine eb_aload_n (pc := 98) (n := 1) (i := 1) rfl rfl rfl ?_
                refine eb_lload_n (pc := 99) (n := 2) (i := 2) rfl rfl rfl ?_
                refine eb_l2i (pc := 100) rfl ?_
                refine eb_sipush (pc := 101) (n := 300) (v := 300) rfl rfl ?_
                refine eb_isub (pc := 104) rfl ?_
                refine eb_putI (pc := 105) rfl ka1 (by decide) (by decide) rfl rfl ⟨rfl, rfl⟩ ?_
                refine eb_iconst (pc := 108) (n := 0) (v := 0) rfl rfl ?_
                exact eb_ireturn (pc := 109) rfl rfl rfl w
          · replace c97 := (fun hh => mt eb_lc_lt.mpr hh) c97
            replace w := w.2 c97
            refine eb_lload_n (pc := 62) (n := 2) (i := 2) rfl rfl rfl ?_
            refine eb_ldc2 (pc := 63) (a := 300) (v := 300) rfl (by decide) ?_
            refine eb_lcmp (pc := 66) rfl ?_
            refine eb_if_ge (pc := 67) (tgt := 82) rfl (by decide) (fun c110 => ?_) (fun c110 => ?_)
            · replace c110 := eb_lc_ge.mp c110
              replace w := w.1 c110
              refine eb_lload_n (pc := 82) (n := 2) (i := 2) rfl rfl rfl ?_
              refine eb_ldc2 (pc := 83) (a := 300) (v := 300) rfl (by decide) ?_
              refine eb_lcmp (pc := 86) rfl ?_
              refine eb_if_lt (pc := 87) (tgt := 110) rfl (by decide) (fun c111 => ?_) (fun c111 => ?_)
              · replace c111 := eb_lc_lt.mp c111
                replace w := w.1 c111
                refine eb_lload_n (pc := 110) (n := 2) (i := 2) rfl rfl rfl ?_
                refine eb_ldc2 (pc := 111) (a := 1000) (v := 1000) rfl (by decide) ?_
                refine eb_lcmp (pc := 114) rfl ?_
                refine eb_if_lt (pc := 115) (tgt := 126) rfl (by decide) (fun c112 => ?_) (fun c112 => ?_)
                · replace c112 := eb_lc_lt.mp c112
                  replace w := w.1 c112
                  refine eb_iconst (pc := 126) (n := 1) (v := 1) rfl rfl ?_
                  exact eb_ireturn (pc := 127) rfl rfl rfl w
                · replace c112 := (fun hh => mt eb_lc_lt.mpr hh) c112
                  replace w := w.2 c112
                  refine eb_lload_n (pc := 118) (n := 2) (i := 2) rfl rfl rfl ?_
                  refine eb_ldc2 (pc := 119) (a := 2000) (v := 2000) rfl (by decide) ?_
                  refine eb_lcmp (pc := 122) rfl ?_
                  refine eb_if_lt (pc := 123) (tgt := 128) rfl (by decide) (fun c113 => ?_) (fun c113 => ?_)
                  · replace c113 := eb_lc_lt.mp c113
                    replace w := w.1 c113
                    refine eb_lload_n (pc := 128) (n := 2) (i := 2) rfl rfl rfl ?_
                    refine eb_l2i (pc := 129) rfl ?_
                    refine eb_sipush (pc := 130) (n := 1000) (v := 1000) rfl rfl ?_
                    refine eb_isub (pc := 133) rfl ?_
                    refine eb_istore (pc := 134) (i := 4) (ls2 := [(4, .int (x2.toInt32 - 1000)), (0, .ref a0), (1, .ref a1), (2, .long x2)]) (Nat.le_of_ble_eq_true rfl) rfl rfl ?_
                    refine eb_aload_n (pc := 136) (n := 0) (i := 0) rfl rfl rfl ?_
                    refine eb_aload_n (pc := 137) (n := 1) (i := 1) rfl rfl rfl ?_
                    refine eb_iload (pc := 138) (i := 4) rfl rfl ?_
                    refine eb_bipush (pc := 140) (n := 10) (v := 10) rfl rfl ?_
                    refine eb_idiv (pc := 142) (by decide) rfl ?_
                    refine eb_iload (pc := 143) (i := 4) rfl rfl ?_
                    refine eb_bipush (pc := 145) (n := 10) (v := 10) rfl rfl ?_
                    refine eb_irem (pc := 147) (by decide) rfl ?_
                    refine eb_ctV (pc := 148) (As := [.ref a1, .int ((x2.toInt32 - 1000) / 10), .int ((x2.toInt32 - 1000) - (x2.toInt32 - 1000) / 10 * 10)]) (rest := []) rfl (by decide) rfl ka0 (by decide) rfl (Nat.le_of_ble_eq_true rfl) ?_
                    refine eb_Ct.mono w ?_
                    rintro r h114 ⟨y115, rfl, ko116, w⟩
                    change eb_Sn _ _ _ 151 _ [.int y115] _ _
                    exact eb_ireturn (pc := 151) rfl rfl rfl w
                  · replace c113 := (fun hh => mt eb_lc_lt.mpr hh) c113
                    replace w := w.2 c113
                    refine eb_iconst (pc := 126) (n := 1) (v := 1) rfl rfl ?_
                    exact eb_ireturn (pc := 127) rfl rfl rfl w
              · replace c111 := (fun hh => mt eb_lc_lt.mpr hh) c111
                replace w := w.2 c111
                refine eb_lload_n (pc := 90) (n := 2) (i := 2) rfl rfl rfl ?_
                refine eb_ldc2 (pc := 91) (a := 309) (v := 309) rfl (by decide) ?_
                refine eb_lcmp (pc := 94) rfl ?_
                refine eb_if_gt (pc := 95) (tgt := 110) rfl (by decide) (fun c117 => ?_) (fun c117 => ?_)
                · replace c117 := eb_lc_gt.mp c117
                  replace w := w.1 c117
                  refine eb_lload_n (pc := 110) (n := 2) (i := 2) rfl rfl rfl ?_
                  refine eb_ldc2 (pc := 111) (a := 1000) (v := 1000) rfl (by decide) ?_
                  refine eb_lcmp (pc := 114) rfl ?_
                  refine eb_if_lt (pc := 115) (tgt := 126) rfl (by decide) (fun c118 => ?_) (fun c118 => ?_)
                  · replace c118 := eb_lc_lt.mp c118
                    replace w := w.1 c118
                    refine eb_iconst (pc := 126) (n := 1) (v := 1) rfl rfl ?_
                    exact eb_ireturn (pc := 127) rfl rfl rfl w
                  · replace c118 := (fun hh => mt eb_lc_lt.mpr hh) c118
                    replace w := w.2 c118
                    refine eb_lload_n (pc := 118) (n := 2) (i := 2) rfl rfl rfl ?_
                    refine eb_ldc2 (pc := 119) (a := 2000) (v := 2000) rfl (by decide) ?_
                    refine eb_lcmp (pc := 122) rfl ?_
                    refine eb_if_lt (pc := 123) (tgt := 128) rfl (by decide) (fun c119 => ?_) (fun c119 => ?_)
                    · replace c119 := eb_lc_lt.mp c119
                      replace w := w.1 c119
                      refine eb_lload_n (pc := 128) (n := 2) (i := 2) rfl rfl rfl ?_
                      refine eb_l2i (pc := 129) rfl ?_
                      refine eb_sipush (pc := 130) (n := 1000) (v := 1000) rfl rfl ?_
                      refine eb_isub (pc := 133) rfl ?_
                      refine eb_istore (pc := 134) (i := 4) (ls2 := [(4, .int (x2.toInt32 - 1000)), (0, .ref a0), (1, .ref a1), (2, .long x2)]) (Nat.le_of_ble_eq_true rfl) rfl rfl ?_
                      refine eb_aload_n (pc := 136) (n := 0) (i := 0) rfl rfl rfl ?_
                      refine eb_aload_n (pc := 137) (n := 1) (i := 1) rfl rfl rfl ?_
                      refine eb_iload (pc := 138) (i := 4) rfl rfl ?_
                      refine eb_bipush (pc := 140) (n := 10) (v := 10) rfl rfl ?_
                      refine eb_idiv (pc := 142) (by decide) rfl ?_
                      refine eb_iload (pc := 143) (i := 4) rfl rfl ?_
                      refine eb_bipush (pc := 145) (n := 10) (v := 10) rfl rfl ?_
                      refine eb_irem (pc := 147) (by decide) rfl ?_
                      refine eb_ctV (pc := 148) (As := [.ref a1, .int ((x2.toInt32 - 1000) / 10), .int ((x2.toInt32 - 1000) - (x2.toInt32 - 1000) / 10 * 10)]) (rest := []) rfl (by decide) rfl ka0 (by decide) rfl (Nat.le_of_ble_eq_true rfl) ?_
                      refine eb_Ct.mono w ?_
                      rintro r h120 ⟨y121, rfl, ko122, w⟩
                      change eb_Sn _ _ _ 151 _ [.int y121] _ _
                      exact eb_ireturn (pc := 151) rfl rfl rfl w
                    · replace c119 := (fun hh => mt eb_lc_lt.mpr hh) c119
                      replace w := w.2 c119
                      refine eb_iconst (pc := 126) (n := 1) (v := 1) rfl rfl ?_
                      exact eb_ireturn (pc := 127) rfl rfl rfl w
                · replace c117 := (fun hh => mt eb_lc_gt.mpr hh) c117
                  replace w := w.2 c117
                  refine eb_aload_n (pc := 98) (n := 1) (i := 1) rfl rfl rfl ?_
                  refine eb_lload_n (pc := 99) (n := 2) (i := 2) rfl rfl rfl ?_
                  refine eb_l2i (pc := 100) rfl ?_
                  refine eb_sipush (pc := 101) (n := 300) (v := 300) rfl rfl ?_
                  refine eb_isub (pc := 104) rfl ?_
                  refine eb_putI (pc := 105) rfl ka1 (by decide) (by decide) rfl rfl ⟨rfl, rfl⟩ ?_
                  refine eb_iconst (pc := 108) (n := 0) (v := 0) rfl rfl ?_
                  exact eb_ireturn (pc := 109) rfl rfl rfl w
            · replace c110 := (fun hh => mt eb_lc_ge.mpr hh) c110
              replace w := w.2 c110
              refine eb_aload_n (pc := 70) (n := 0) (i := 0) rfl rfl rfl ?_
              refine eb_aload_n (pc := 71) (n := 1) (i := 1) rfl rfl rfl ?_
              refine eb_lload_n (pc := 72) (n := 2) (i := 2) rfl rfl rfl ?_
              refine eb_l2i (pc := 73) rfl ?_
              refine eb_sipush (pc := 74) (n := 200) (v := 200) rfl rfl ?_
              refine eb_isub (pc := 77) rfl ?_
              refine eb_ctV (pc := 78) (As := [.ref a1, .int (x2.toInt32 - 200)]) (rest := []) rfl (by decide) rfl ka0 (by decide) rfl (Nat.le_of_ble_eq_true rfl) ?_
              refine eb_Ct.mono w ?_
              rintro r h123 ⟨y124, rfl, ko125, w⟩
              change eb_Sn _ _ _ 81 _ [.int y124] _ _
              exact eb_ireturn (pc := 81) rfl rfl rfl w
        · replace c96 := (fun hh => mt eb_lc_ge.mpr hh) c96
          replace w := w.2 c96
          refine eb_aload_n (pc := 43) (n := 0) (i := 0) rfl rfl rfl ?_
          refine eb_aload_n (pc := 44) (n := 1) (i := 1) rfl rfl rfl ?_
          refine eb_lload_n (pc := 45) (n := 2) (i := 2) rfl rfl rfl ?_
          refine eb_l2i (pc := 46) rfl ?_
          refine eb_bipush (pc := 47) (n := 100) (v := 100) rfl rfl ?_
          refine eb_isub (pc := 49) rfl ?_
          refine eb_ctV (pc := 50) (As := [.ref a1, .int (x2.toInt32 - 100)]) (rest := []) rfl (by decide) rfl ka0 (by decide) rfl (Nat.le_of_ble_eq_true rfl) ?_
          refine eb_Ct.mono w ?_
          rintro r h126 ⟨y127, rfl, ko128, w⟩
          change eb_Sn _ _ _ 53 _ [.int y127] _ _
          exact eb_ireturn (pc := 53) rfl rfl rfl w
    · replace c65 := (fun hh => mt eb_lc_ge.mpr hh) c65
      replace w := w.2 c65
      refine eb_iconst (pc := 14) (n := 0) (v := 0) rfl rfl ?_
      refine eb_aload_n (pc := 15) (n := 0) (i := 0) rfl rfl rfl ?_
      refine eb_aload_n (pc := 16) (n := 1) (i := 1) rfl rfl rfl ?_
      refine eb_lload_n (pc := 17) (n := 2) (i := 2) rfl rfl rfl ?_
      refine eb_l2i (pc := 18) rfl ?_
      refine eb_ctV (pc := 19) (As := [.ref a1, .int x2.toInt32]) (rest := [.int 0]) rfl (by decide) rfl ka0 (by decide) rfl (Nat.le_of_ble_eq_true rfl) ?_
      refine eb_Ct.mono w ?_
      rintro r h129 ⟨y130, rfl, ko131, w⟩
      change eb_Sn _ _ _ 22 _ [.int y130, .int 0] _ _
      refine eb_ineg (pc := 22) rfl ?_
      refine eb_ctS (pc := 23) (As := [.int 0, .int (-y130)]) (rest := []) rfl (by decide) (by decide) rfl rfl (Nat.le_of_ble_eq_true rfl) ?_
      refine eb_Ct.mono w ?_
      rintro r h132 ⟨y133, rfl, ko134, w⟩
      change eb_Sn _ _ _ 26 _ [.int y133] _ _
      exact eb_ireturn (pc := 26) rfl rfl rfl w
theorem T_X9_doDeed {d : Nat} {h : eb_H} {Q : Option Value → eb_H → Prop} (a0 : Nat) (a1 : Nat) (x2 : Int64) (ka0 : eb_kd a0 = 9) (ka1 : eb_kd a1 = 6) (ko : eb_KO h) (w : ((x2 < 0 → ((x2 < 100 → ((x2 < 200 → ((x2 < 300 → ((x2 < 1000 → Q (some (.int 1)) h) ∧ (¬ (x2 < 1000) → ((x2 < 2000 → eb_Ct d 94 [.ref a0, .ref a1, .int ((x2.toInt32 - 1000) / 10), .int ((x2.toInt32 - 1000) - (x2.toInt32 - 1000) / 10 * 10)] h (fun r h7 => ∃ y8, r = some (.int y8) ∧ eb_KO h7 ∧ Q (some (.int y8)) h7)) ∧ (¬ (x2 < 2000) → Q (some (.int 1)) h))))) ∧ (¬ (x2 < 300) → ((309 < x2 → ((x2 < 1000 → Q (some (.int 1)) h) ∧ (¬ (x2 < 1000) → ((x2 < 2000 → eb_Ct d 94 [.ref a0, .ref a1, .int ((x2.toInt32 - 1000) / 10), .int ((x2.toInt32 - 1000) - (x2.toInt32 - 1000) / 10 * 10)] h (fun r h13 => ∃ y14, r = some (.int y14) ∧ eb_KO h13 ∧ Q (some (.int y14)) h13)) ∧ (¬ (x2 < 2000) → Q (some (.int 1)) h))))) ∧ (¬ (309 < x2) → Q (some (.int 0)) (eb_sI h a1 4 (x2.toInt32 - 300))))))) ∧ (¬ (x2 < 200) → ((300 ≤ x2 → ((x2 < 300 → ((x2 < 1000 → Q (some (.int 1)) h) ∧ (¬ (x2 < 1000) → ((x2 < 2000 → eb_Ct d 94 [.ref a0, .ref a1, .int ((x2.toInt32 - 1000) / 10), .int ((x2.toInt32 - 1000) - (x2.toInt32 - 1000) / 10 * 10)] h (fun r h20 => ∃ y21, r = some (.int y21) ∧ eb_KO h20 ∧ Q (some (.int y21)) h20)) ∧ (¬ (x2 < 2000) → Q (some (.int 1)) h))))) ∧ (¬ (x2 < 300) → ((309 < x2 → ((x2 < 1000 → Q (some (.int 1)) h) ∧ (¬ (x2 < 1000) → ((x2 < 2000 → eb_Ct d 94 [.ref a0, .ref a1, .int ((x2.toInt32 - 1000) / 10), .int ((x2.toInt32 - 1000) - (x2.toInt32 - 1000) / 10 * 10)] h (fun r h26 => ∃ y27, r = some (.int y27) ∧ eb_KO h26 ∧ Q (some (.int y27)) h26)) ∧ (¬ (x2 < 2000) → Q (some (.int 1)) h))))) ∧ (¬ (309 < x2) → Q (some (.int 0)) (eb_sI h a1 4 (x2.toInt32 - 300))))))) ∧ (¬ (300 ≤ x2) → eb_Ct d 93 [.ref a0, .ref a1, .int (x2.toInt32 - 200)] h (fun r h29 => ∃ y30, r = some (.int y30) ∧ eb_KO h29 ∧ Q (some (.int y30)) h29)))))) ∧ (¬ (x2 < 100) → ((200 ≤ x2 → ((x2 < 200 → ((x2 < 300 → ((x2 < 1000 → Q (some (.int 1)) h) ∧ (¬ (x2 < 1000) → ((x2 < 2000 → eb_Ct d 94 [.ref a0, .ref a1, .int ((x2.toInt32 - 1000) / 10), .int ((x2.toInt32 - 1000) - (x2.toInt32 - 1000) / 10 * 10)] h (fun r h37 => ∃ y38, r = some (.int y38) ∧ eb_KO h37 ∧ Q (some (.int y38)) h37)) ∧ (¬ (x2 < 2000) → Q (some (.int 1)) h))))) ∧ (¬ (x2 < 300) → ((309 < x2 → ((x2 < 1000 → Q (some (.int 1)) h) ∧ (¬ (x2 < 1000) → ((x2 < 2000 → eb_Ct d 94 [.ref a0, .ref a1, .int ((x2.toInt32 - 1000) / 10), .int ((x2.toInt32 - 1000) - (x2.toInt32 - 1000) / 10 * 10)] h (fun r h43 => ∃ y44, r = some (.int y44) ∧ eb_KO h43 ∧ Q (some (.int y44)) h43)) ∧ (¬ (x2 < 2000) → Q (some (.int 1)) h))))) ∧ (¬ (309 < x2) → Q (some (.int 0)) (eb_sI h a1 4 (x2.toInt32 - 300))))))) ∧ (¬ (x2 < 200) → ((300 ≤ x2 → ((x2 < 300 → ((x2 < 1000 → Q (some (.int 1)) h) ∧ (¬ (x2 < 1000) → ((x2 < 2000 → eb_Ct d 94 [.ref a0, .ref a1, .int ((x2.toInt32 - 1000) / 10), .int ((x2.toInt32 - 1000) - (x2.toInt32 - 1000) / 10 * 10)] h (fun r h50 => ∃ y51, r = some (.int y51) ∧ eb_KO h50 ∧ Q (some (.int y51)) h50)) ∧ (¬ (x2 < 2000) → Q (some (.int 1)) h))))) ∧ (¬ (x2 < 300) → ((309 < x2 → ((x2 < 1000 → Q (some (.int 1)) h) ∧ (¬ (x2 < 1000) → ((x2 < 2000 → eb_Ct d 94 [.ref a0, .ref a1, .int ((x2.toInt32 - 1000) / 10), .int ((x2.toInt32 - 1000) - (x2.toInt32 - 1000) / 10 * 10)] h (fun r h56 => ∃ y57, r = some (.int y57) ∧ eb_KO h56 ∧ Q (some (.int y57)) h56)) ∧ (¬ (x2 < 2000) → Q (some (.int 1)) h))))) ∧ (¬ (309 < x2) → Q (some (.int 0)) (eb_sI h a1 4 (x2.toInt32 - 300))))))) ∧ (¬ (300 ≤ x2) → eb_Ct d 93 [.ref a0, .ref a1, .int (x2.toInt32 - 200)] h (fun r h59 => ∃ y60, r = some (.int y60) ∧ eb_KO h59 ∧ Q (some (.int y60)) h59)))))) ∧ (¬ (200 ≤ x2) → eb_Ct d 92 [.ref a0, .ref a1, .int (x2.toInt32 - 100)] h (fun r h62 => ∃ y63, r = some (.int y63) ∧ eb_KO h62 ∧ Q (some (.int y63)) h62)))))) ∧ (¬ (x2 < 0) → ((4 ≤ x2 → ((x2 < 100 → ((x2 < 200 → ((x2 < 300 → ((x2 < 1000 → Q (some (.int 1)) h) ∧ (¬ (x2 < 1000) → ((x2 < 2000 → eb_Ct d 94 [.ref a0, .ref a1, .int ((x2.toInt32 - 1000) / 10), .int ((x2.toInt32 - 1000) - (x2.toInt32 - 1000) / 10 * 10)] h (fun r h71 => ∃ y72, r = some (.int y72) ∧ eb_KO h71 ∧ Q (some (.int y72)) h71)) ∧ (¬ (x2 < 2000) → Q (some (.int 1)) h))))) ∧ (¬ (x2 < 300) → ((309 < x2 → ((x2 < 1000 → Q (some (.int 1)) h) ∧ (¬ (x2 < 1000) → ((x2 < 2000 → eb_Ct d 94 [.ref a0, .ref a1, .int ((x2.toInt32 - 1000) / 10), .int ((x2.toInt32 - 1000) - (x2.toInt32 - 1000) / 10 * 10)] h (fun r h77 => ∃ y78, r = some (.int y78) ∧ eb_KO h77 ∧ Q (some (.int y78)) h77)) ∧ (¬ (x2 < 2000) → Q (some (.int 1)) h))))) ∧ (¬ (309 < x2) → Q (some (.int 0)) (eb_sI h a1 4 (x2.toInt32 - 300))))))) ∧ (¬ (x2 < 200) → ((300 ≤ x2 → ((x2 < 300 → ((x2 < 1000 → Q (some (.int 1)) h) ∧ (¬ (x2 < 1000) → ((x2 < 2000 → eb_Ct d 94 [.ref a0, .ref a1, .int ((x2.toInt32 - 1000) / 10), .int ((x2.toInt32 - 1000) - (x2.toInt32 - 1000) / 10 * 10)] h (fun r h84 => ∃ y85, r = some (.int y85) ∧ eb_KO h84 ∧ Q (some (.int y85)) h84)) ∧ (¬ (x2 < 2000) → Q (some (.int 1)) h))))) ∧ (¬ (x2 < 300) → ((309 < x2 → ((x2 < 1000 → Q (some (.int 1)) h) ∧ (¬ (x2 < 1000) → ((x2 < 2000 → eb_Ct d 94 [.ref a0, .ref a1, .int ((x2.toInt32 - 1000) / 10), .int ((x2.toInt32 - 1000) - (x2.toInt32 - 1000) / 10 * 10)] h (fun r h90 => ∃ y91, r = some (.int y91) ∧ eb_KO h90 ∧ Q (some (.int y91)) h90)) ∧ (¬ (x2 < 2000) → Q (some (.int 1)) h))))) ∧ (¬ (309 < x2) → Q (some (.int 0)) (eb_sI h a1 4 (x2.toInt32 - 300))))))) ∧ (¬ (300 ≤ x2) → eb_Ct d 93 [.ref a0, .ref a1, .int (x2.toInt32 - 200)] h (fun r h93 => ∃ y94, r = some (.int y94) ∧ eb_KO h93 ∧ Q (some (.int y94)) h93)))))) ∧ (¬ (x2 < 100) → ((200 ≤ x2 → ((x2 < 200 → ((x2 < 300 → ((x2 < 1000 → Q (some (.int 1)) h) ∧ (¬ (x2 < 1000) → ((x2 < 2000 → eb_Ct d 94 [.ref a0, .ref a1, .int ((x2.toInt32 - 1000) / 10), .int ((x2.toInt32 - 1000) - (x2.toInt32 - 1000) / 10 * 10)] h (fun r h101 => ∃ y102, r = some (.int y102) ∧ eb_KO h101 ∧ Q (some (.int y102)) h101)) ∧ (¬ (x2 < 2000) → Q (some (.int 1)) h))))) ∧ (¬ (x2 < 300) → ((309 < x2 → ((x2 < 1000 → Q (some (.int 1)) h) ∧ (¬ (x2 < 1000) → ((x2 < 2000 → eb_Ct d 94 [.ref a0, .ref a1, .int ((x2.toInt32 - 1000) / 10), .int ((x2.toInt32 - 1000) - (x2.toInt32 - 1000) / 10 * 10)] h (fun r h107 => ∃ y108, r = some (.int y108) ∧ eb_KO h107 ∧ Q (some (.int y108)) h107)) ∧ (¬ (x2 < 2000) → Q (some (.int 1)) h))))) ∧ (¬ (309 < x2) → Q (some (.int 0)) (eb_sI h a1 4 (x2.toInt32 - 300))))))) ∧ (¬ (x2 < 200) → ((300 ≤ x2 → ((x2 < 300 → ((x2 < 1000 → Q (some (.int 1)) h) ∧ (¬ (x2 < 1000) → ((x2 < 2000 → eb_Ct d 94 [.ref a0, .ref a1, .int ((x2.toInt32 - 1000) / 10), .int ((x2.toInt32 - 1000) - (x2.toInt32 - 1000) / 10 * 10)] h (fun r h114 => ∃ y115, r = some (.int y115) ∧ eb_KO h114 ∧ Q (some (.int y115)) h114)) ∧ (¬ (x2 < 2000) → Q (some (.int 1)) h))))) ∧ (¬ (x2 < 300) → ((309 < x2 → ((x2 < 1000 → Q (some (.int 1)) h) ∧ (¬ (x2 < 1000) → ((x2 < 2000 → eb_Ct d 94 [.ref a0, .ref a1, .int ((x2.toInt32 - 1000) / 10), .int ((x2.toInt32 - 1000) - (x2.toInt32 - 1000) / 10 * 10)] h (fun r h120 => ∃ y121, r = some (.int y121) ∧ eb_KO h120 ∧ Q (some (.int y121)) h120)) ∧ (¬ (x2 < 2000) → Q (some (.int 1)) h))))) ∧ (¬ (309 < x2) → Q (some (.int 0)) (eb_sI h a1 4 (x2.toInt32 - 300))))))) ∧ (¬ (300 ≤ x2) → eb_Ct d 93 [.ref a0, .ref a1, .int (x2.toInt32 - 200)] h (fun r h123 => ∃ y124, r = some (.int y124) ∧ eb_KO h123 ∧ Q (some (.int y124)) h123)))))) ∧ (¬ (200 ≤ x2) → eb_Ct d 92 [.ref a0, .ref a1, .int (x2.toInt32 - 100)] h (fun r h126 => ∃ y127, r = some (.int y127) ∧ eb_KO h126 ∧ Q (some (.int y127)) h126)))))) ∧ (¬ (4 ≤ x2) → eb_Ct d 90 [.ref a0, .ref a1, .int x2.toInt32] h (fun r h129 => ∃ y130, r = some (.int y130) ∧ eb_KO h129 ∧ eb_Ct d 286 [.int 0, .int (-y130)] h129 (fun r h132 => ∃ y133, r = some (.int y133) ∧ eb_KO h132 ∧ Q (some (.int y133)) h132))))))) : eb_Ct (d + 1) 91 [.ref a0, .ref a1, .long x2] h Q :=
  eb_bodyQ (by decide) ok_X9_doDeed (Nat.le_of_ble_eq_true rfl) (b_X9_doDeed_0 (h0 := h) a0 a1 x2 ka0 ka1 ko w)
theorem b_X9_letGo_0 {d : Nat} {h0 h : eb_H} {Q : Option Value → eb_H → Prop} (a0 : Nat) (a1 : Nat) (x2 : Int32) (ka0 : eb_kd a0 = 9) (ka1 : eb_kd a1 = 6) (ko : eb_KO h) (w : eb_Ct d 80 [.ref a0, .int x2] h (fun r h1 => ∃ y2, r = some (.int y2) ∧ eb_KO h1 ∧ ((¬ y2 = 0 → Q (some (.int 0)) (eb_sI (eb_sI h1 a1 0 x2) a1 1 0)) ∧ (y2 = 0 → Q (some (.int 1)) h1)))) : eb_Sn (d + 1) m_X9_letGo h0 0 [(0, .ref a0), (1, .ref a1), (2, .int x2)] [] h Q := by
  refine eb_aload_n (pc := 0) (n := 0) (i := 0) rfl rfl rfl ?_
  refine eb_iload_n (pc := 1) (n := 2) (i := 2) rfl rfl rfl ?_
  refine eb_ctV (pc := 2) (As := [.int x2]) (rest := []) rfl (by decide) rfl ka0 (by decide) rfl (Nat.le_of_ble_eq_true rfl) ?_
  refine eb_Ct.mono w ?_
  rintro r h1 ⟨y2, rfl, ko3, w⟩
  change eb_Sn _ _ _ 5 _ [.int y2] _ _
  refine eb_if_ne (pc := 5) (tgt := 10) rfl (by decide) (fun c4 => ?_) (fun c4 => ?_)
  · replace w := w.1 c4
    refine eb_aload_n (pc := 10) (n := 1) (i := 1) rfl rfl rfl ?_
    refine eb_iload_n (pc := 11) (n := 2) (i := 2) rfl rfl rfl ?_
    refine eb_putI (pc := 12) rfl ka1 (by decide) (by decide) rfl rfl ⟨rfl, rfl⟩ ?_
    refine eb_aload_n (pc := 15) (n := 1) (i := 1) rfl rfl rfl ?_
    refine eb_iconst (pc := 16) (n := 0) (v := 0) rfl rfl ?_
    refine eb_putI (pc := 17) rfl ka1 (by decide) (by decide) rfl rfl ⟨rfl, rfl⟩ ?_
    refine eb_iconst (pc := 20) (n := 0) (v := 0) rfl rfl ?_
    exact eb_ireturn (pc := 21) rfl rfl rfl w
  · replace w := w.2 c4
    refine eb_iconst (pc := 8) (n := 1) (v := 1) rfl rfl ?_
    exact eb_ireturn (pc := 9) rfl rfl rfl w
theorem T_X9_letGo {d : Nat} {h : eb_H} {Q : Option Value → eb_H → Prop} (a0 : Nat) (a1 : Nat) (x2 : Int32) (ka0 : eb_kd a0 = 9) (ka1 : eb_kd a1 = 6) (ko : eb_KO h) (w : eb_Ct d 80 [.ref a0, .int x2] h (fun r h1 => ∃ y2, r = some (.int y2) ∧ eb_KO h1 ∧ ((¬ y2 = 0 → Q (some (.int 0)) (eb_sI (eb_sI h1 a1 0 x2) a1 1 0)) ∧ (y2 = 0 → Q (some (.int 1)) h1)))) : eb_Ct (d + 1) 92 [.ref a0, .ref a1, .int x2] h Q :=
  eb_bodyQ (by decide) ok_X9_letGo (Nat.le_of_ble_eq_true rfl) (b_X9_letGo_0 (h0 := h) a0 a1 x2 ka0 ka1 ko w)
theorem b_X9_turnDrift_0 {d : Nat} {h0 h : eb_H} {Q : Option Value → eb_H → Prop} (a0 : Nat) (a1 : Nat) (x2 : Int32) (ka0 : eb_kd a0 = 9) (ka1 : eb_kd a1 = 6) (ko : eb_KO h) (w : eb_Ct d 80 [.ref a0, .int x2] h (fun r h1 => ∃ y2, r = some (.int y2) ∧ eb_KO h1 ∧ ((¬ y2 = 0 → Q (some (.int 0)) (eb_sI h1 a1 3 ((eb_I h1 a1 3) ^^^ ((1 : Int32) <<< (x2 &&& 31))))) ∧ (y2 = 0 → Q (some (.int 1)) h1)))) : eb_Sn (d + 1) m_X9_turnDrift h0 0 [(0, .ref a0), (1, .ref a1), (2, .int x2)] [] h Q := by
  refine eb_aload_n (pc := 0) (n := 0) (i := 0) rfl rfl rfl ?_
  refine eb_iload_n (pc := 1) (n := 2) (i := 2) rfl rfl rfl ?_
  refine eb_ctV (pc := 2) (As := [.int x2]) (rest := []) rfl (by decide) rfl ka0 (by decide) rfl (Nat.le_of_ble_eq_true rfl) ?_
  refine eb_Ct.mono w ?_
  rintro r h1 ⟨y2, rfl, ko3, w⟩
  change eb_Sn _ _ _ 5 _ [.int y2] _ _
  refine eb_if_ne (pc := 5) (tgt := 10) rfl (by decide) (fun c4 => ?_) (fun c4 => ?_)
  · replace w := w.1 c4
    refine eb_aload_n (pc := 10) (n := 1) (i := 1) rfl rfl rfl ?_
    refine eb_dupr (pc := 11) rfl ?_
    refine eb_getI (pc := 12) rfl ka1 (by decide) (by decide) rfl ?_
    refine eb_iconst (pc := 15) (n := 1) (v := 1) rfl rfl ?_
    refine eb_iload_n (pc := 16) (n := 2) (i := 2) rfl rfl rfl ?_
    refine eb_ishl (pc := 17) rfl ?_
    refine eb_ixor (pc := 18) rfl ?_
    refine eb_putI (pc := 19) rfl ka1 (by decide) (by decide) rfl rfl ⟨rfl, rfl⟩ ?_
    refine eb_iconst (pc := 22) (n := 0) (v := 0) rfl rfl ?_
    exact eb_ireturn (pc := 23) rfl rfl rfl w
  · replace w := w.2 c4
    refine eb_iconst (pc := 8) (n := 1) (v := 1) rfl rfl ?_
    exact eb_ireturn (pc := 9) rfl rfl rfl w
theorem T_X9_turnDrift {d : Nat} {h : eb_H} {Q : Option Value → eb_H → Prop} (a0 : Nat) (a1 : Nat) (x2 : Int32) (ka0 : eb_kd a0 = 9) (ka1 : eb_kd a1 = 6) (ko : eb_KO h) (w : eb_Ct d 80 [.ref a0, .int x2] h (fun r h1 => ∃ y2, r = some (.int y2) ∧ eb_KO h1 ∧ ((¬ y2 = 0 → Q (some (.int 0)) (eb_sI h1 a1 3 ((eb_I h1 a1 3) ^^^ ((1 : Int32) <<< (x2 &&& 31))))) ∧ (y2 = 0 → Q (some (.int 1)) h1)))) : eb_Ct (d + 1) 93 [.ref a0, .ref a1, .int x2] h Q :=
  eb_bodyQ (by decide) ok_X9_turnDrift (Nat.le_of_ble_eq_true rfl) (b_X9_turnDrift_0 (h0 := h) a0 a1 x2 ka0 ka1 ko w)
theorem b_X9_putKind_0 {d : Nat} {h0 h : eb_H} {Q : Option Value → eb_H → Prop} (a0 : Nat) (a1 : Nat) (x2 : Int32) (x3 : Int32) (ka0 : eb_kd a0 = 9) (ka1 : eb_kd a1 = 6) (ko : eb_KO h) (w : eb_Ct d 80 [.ref a0, .int x2] h (fun r h1 => ∃ y2, r = some (.int y2) ∧ eb_KO h1 ∧ ((y2 = 0 → Q (some (.int 1)) h1) ∧ (¬ (y2 = 0) → ((x3 ≤ (6 : Int32) → eb_Ct d 63 [.ref a1, .int x2, .int x3] h1 (fun r h6 => r = none ∧ eb_KO h6 ∧ Q (some (.int 0)) h6)) ∧ (¬ (x3 ≤ (6 : Int32)) → Q (some (.int 1)) h1)))))) : eb_Sn (d + 1) m_X9_putKind h0 0 [(0, .ref a0), (1, .ref a1), (2, .int x2), (3, .int x3)] [] h Q := by
  refine eb_aload_n (pc := 0) (n := 0) (i := 0) rfl rfl rfl ?_
  refine eb_iload_n (pc := 1) (n := 2) (i := 2) rfl rfl rfl ?_
  refine eb_ctV (pc := 2) (As := [.int x2]) (rest := []) rfl (by decide) rfl ka0 (by decide) rfl (Nat.le_of_ble_eq_true rfl) ?_
  refine eb_Ct.mono w ?_
  rintro r h1 ⟨y2, rfl, ko3, w⟩
  change eb_Sn _ _ _ 5 _ [.int y2] _ _
  refine eb_if_eq (pc := 5) (tgt := 14) rfl (by decide) (fun c4 => ?_) (fun c4 => ?_)
  · replace w := w.1 c4
    refine eb_iconst (pc := 14) (n := 1) (v := 1) rfl rfl ?_
    exact eb_ireturn (pc := 15) rfl rfl rfl w
  · replace w := w.2 c4
    refine eb_iload_n (pc := 8) (n := 3) (i := 3) rfl rfl rfl ?_
    refine eb_bipush (pc := 9) (n := 6) (v := 6) rfl rfl ?_
    refine eb_icmp_le (pc := 11) (tgt := 16) rfl (by decide) (fun c5 => ?_) (fun c5 => ?_)
    · replace w := w.1 c5
      refine eb_aload_n (pc := 16) (n := 1) (i := 1) rfl rfl rfl ?_
      refine eb_iload_n (pc := 17) (n := 2) (i := 2) rfl rfl rfl ?_
      refine eb_iload_n (pc := 18) (n := 3) (i := 3) rfl rfl rfl ?_
      refine eb_ctV (pc := 19) (As := [.int x2, .int x3]) (rest := []) rfl (by decide) rfl ka1 (by decide) rfl (Nat.le_of_ble_eq_true rfl) ?_
      refine eb_Ct.mono w ?_
      rintro r h6 ⟨rfl, ko8, w⟩
      change eb_Sn _ _ _ 22 _ [] _ _
      refine eb_iconst (pc := 22) (n := 0) (v := 0) rfl rfl ?_
      exact eb_ireturn (pc := 23) rfl rfl rfl w
    · replace w := w.2 c5
      refine eb_iconst (pc := 14) (n := 1) (v := 1) rfl rfl ?_
      exact eb_ireturn (pc := 15) rfl rfl rfl w
theorem T_X9_putKind {d : Nat} {h : eb_H} {Q : Option Value → eb_H → Prop} (a0 : Nat) (a1 : Nat) (x2 : Int32) (x3 : Int32) (ka0 : eb_kd a0 = 9) (ka1 : eb_kd a1 = 6) (ko : eb_KO h) (w : eb_Ct d 80 [.ref a0, .int x2] h (fun r h1 => ∃ y2, r = some (.int y2) ∧ eb_KO h1 ∧ ((y2 = 0 → Q (some (.int 1)) h1) ∧ (¬ (y2 = 0) → ((x3 ≤ (6 : Int32) → eb_Ct d 63 [.ref a1, .int x2, .int x3] h1 (fun r h6 => r = none ∧ eb_KO h6 ∧ Q (some (.int 0)) h6)) ∧ (¬ (x3 ≤ (6 : Int32)) → Q (some (.int 1)) h1)))))) : eb_Ct (d + 1) 94 [.ref a0, .ref a1, .int x2, .int x3] h Q :=
  eb_bodyQ (by decide) ok_X9_putKind (Nat.le_of_ble_eq_true rfl) (b_X9_putKind_0 (h0 := h) a0 a1 x2 x3 ka0 ka1 ko w)
theorem b_X10_feed_0 {d : Nat} {h0 h : eb_H} {Q : Option Value → eb_H → Prop} (x1 : Int32) (x2 : Int32) (x3 : Int32) (x4 : Int32) (x5 : Int32)  (ko : eb_KO h) (w : (((eb_I h s_tape 1) ≤ (880 : Int32) → eb_Ct d 66 [.ref s_tape, .int x1] h (fun r h2 => r = none ∧ eb_KO h2 ∧ eb_Ct d 66 [.ref s_tape, .int x2] h2 (fun r h5 => r = none ∧ eb_KO h5 ∧ eb_Ct d 66 [.ref s_tape, .int x3] h5 (fun r h8 => r = none ∧ eb_KO h8 ∧ eb_Ct d 66 [.ref s_tape, .int x4] h8 (fun r h11 => r = none ∧ eb_KO h11 ∧ eb_Ct d 66 [.ref s_tape, .int x5] h11 (fun r h14 => r = none ∧ eb_KO h14 ∧ Q (some (.int (eb_I h14 s_tape 1))) h14)))))) ∧ (¬ ((eb_I h s_tape 1) ≤ (880 : Int32)) → Q (some (.int (-5))) h))) : eb_Sn (d + 1) m_X10_feed h0 0 [(0, .ref s_EB), (1, .int x1), (2, .int x2), (3, .int x3), (4, .int x4), (5, .int x5)] [] h Q := by
  refine eb_aload_n (pc := 0) (n := 0) (i := 0) rfl rfl rfl ?_
  refine eb_getR (pc := 1) rfl rfl (by decide) (by decide) rfl (ko_s_EB_1 ko) ?_
  refine eb_getI (pc := 4) rfl rfl (by decide) (by decide) rfl ?_
  refine eb_sipush (pc := 7) (n := 880) (v := 880) rfl rfl ?_
  refine eb_icmp_le (pc := 10) (tgt := 16) rfl (by decide) (fun c1 => ?_) (fun c1 => ?_)
  · replace w := w.1 c1
    refine eb_aload_n (pc := 16) (n := 0) (i := 0) rfl rfl rfl ?_
    refine eb_getR (pc := 17) rfl rfl (by decide) (by decide) rfl (ko_s_EB_1 ko) ?_
    refine eb_iload_n (pc := 20) (n := 1) (i := 1) rfl rfl rfl ?_
    refine eb_ctV (pc := 21) (As := [.int x1]) (rest := []) rfl (by decide) rfl rfl (by decide) rfl (Nat.le_of_ble_eq_true rfl) ?_
    refine eb_Ct.mono w ?_
    rintro r h2 ⟨rfl, ko4, w⟩
    change eb_Sn _ _ _ 24 _ [] _ _
    refine eb_aload_n (pc := 24) (n := 0) (i := 0) rfl rfl rfl ?_
    refine eb_getR (pc := 25) rfl rfl (by decide) (by decide) rfl (ko_s_EB_1 ko4) ?_
    refine eb_iload_n (pc := 28) (n := 2) (i := 2) rfl rfl rfl ?_
    refine eb_ctV (pc := 29) (As := [.int x2]) (rest := []) rfl (by decide) rfl rfl (by decide) rfl (Nat.le_of_ble_eq_true rfl) ?_
    refine eb_Ct.mono w ?_
    rintro r h5 ⟨rfl, ko7, w⟩
    change eb_Sn _ _ _ 32 _ [] _ _
    refine eb_aload_n (pc := 32) (n := 0) (i := 0) rfl rfl rfl ?_
    refine eb_getR (pc := 33) rfl rfl (by decide) (by decide) rfl (ko_s_EB_1 ko7) ?_
    refine eb_iload_n (pc := 36) (n := 3) (i := 3) rfl rfl rfl ?_
    refine eb_ctV (pc := 37) (As := [.int x3]) (rest := []) rfl (by decide) rfl rfl (by decide) rfl (Nat.le_of_ble_eq_true rfl) ?_
    refine eb_Ct.mono w ?_
    rintro r h8 ⟨rfl, ko10, w⟩
    change eb_Sn _ _ _ 40 _ [] _ _
    refine eb_aload_n (pc := 40) (n := 0) (i := 0) rfl rfl rfl ?_
    refine eb_getR (pc := 41) rfl rfl (by decide) (by decide) rfl (ko_s_EB_1 ko10) ?_
    refine eb_iload (pc := 44) (i := 4) rfl rfl ?_
    refine eb_ctV (pc := 46) (As := [.int x4]) (rest := []) rfl (by decide) rfl rfl (by decide) rfl (Nat.le_of_ble_eq_true rfl) ?_
    refine eb_Ct.mono w ?_
    rintro r h11 ⟨rfl, ko13, w⟩
    change eb_Sn _ _ _ 49 _ [] _ _
    refine eb_aload_n (pc := 49) (n := 0) (i := 0) rfl rfl rfl ?_
    refine eb_getR (pc := 50) rfl rfl (by decide) (by decide) rfl (ko_s_EB_1 ko13) ?_
    refine eb_iload (pc := 53) (i := 5) rfl rfl ?_
    refine eb_ctV (pc := 55) (As := [.int x5]) (rest := []) rfl (by decide) rfl rfl (by decide) rfl (Nat.le_of_ble_eq_true rfl) ?_
    refine eb_Ct.mono w ?_
    rintro r h14 ⟨rfl, ko16, w⟩
    change eb_Sn _ _ _ 58 _ [] _ _
    refine eb_aload_n (pc := 58) (n := 0) (i := 0) rfl rfl rfl ?_
    refine eb_getR (pc := 59) rfl rfl (by decide) (by decide) rfl (ko_s_EB_1 ko16) ?_
    refine eb_getI (pc := 62) rfl rfl (by decide) (by decide) rfl ?_
    exact eb_ireturn (pc := 65) rfl rfl rfl w
  · replace w := w.2 c1
    refine eb_bipush (pc := 13) (n := -5) (v := (-5)) rfl rfl ?_
    exact eb_ireturn (pc := 15) rfl rfl rfl w
theorem T_X10_feed {d : Nat} {h : eb_H} {Q : Option Value → eb_H → Prop} (x1 : Int32) (x2 : Int32) (x3 : Int32) (x4 : Int32) (x5 : Int32)  (ko : eb_KO h) (w : (((eb_I h s_tape 1) ≤ (880 : Int32) → eb_Ct d 66 [.ref s_tape, .int x1] h (fun r h2 => r = none ∧ eb_KO h2 ∧ eb_Ct d 66 [.ref s_tape, .int x2] h2 (fun r h5 => r = none ∧ eb_KO h5 ∧ eb_Ct d 66 [.ref s_tape, .int x3] h5 (fun r h8 => r = none ∧ eb_KO h8 ∧ eb_Ct d 66 [.ref s_tape, .int x4] h8 (fun r h11 => r = none ∧ eb_KO h11 ∧ eb_Ct d 66 [.ref s_tape, .int x5] h11 (fun r h14 => r = none ∧ eb_KO h14 ∧ Q (some (.int (eb_I h14 s_tape 1))) h14)))))) ∧ (¬ ((eb_I h s_tape 1) ≤ (880 : Int32)) → Q (some (.int (-5))) h))) : eb_Ct (d + 1) 96 [.ref s_EB, .int x1, .int x2, .int x3, .int x4, .int x5] h Q :=
  eb_bodyQ (by decide) ok_X10_feed (Nat.le_of_ble_eq_true rfl) (b_X10_feed_0 (h0 := h) x1 x2 x3 x4 x5  ko w)
theorem b_X10_valley_0 {d : Nat} {h0 h : eb_H} {Q : Option Value → eb_H → Prop} (x1 : Int32)  (ko : eb_KO h) (w : ((x1 < 0 → Q (some (.int (-3))) h) ∧ (¬ (x1 < 0) → ((x1 ≤ (eb_I h s_tape 1) → eb_Ct d 46 [.ref s_reader, .int x1] h (fun r h3 => r = none ∧ eb_KO h3 ∧ (((eb_I (eb_sI h3 s_tape 1 0) s_tape 7) = 0 → ∃ r7, eb_R (eb_sI h3 s_tape 1 0) s_reader 2 = some r7 ∧ eb_kd r7 = 9 ∧ eb_Ct d 60 [.ref s_now, .ref s_reader_start] (eb_sR (eb_sI h3 s_tape 1 0) s_EB 2 (some r7)) (fun r h10 => r = none ∧ eb_KO h10 ∧ eb_Ct d 44 [.ref s_past] h10 (fun r h13 => r = none ∧ eb_KO h13 ∧ ∃ r16, eb_R h13 s_EB 2 = some r16 ∧ eb_kd r16 = 9 ∧ Q (some (.int (eb_I h13 r16 3))) h13))) ∧ (¬ ((eb_I (eb_sI h3 s_tape 1 0) s_tape 7) = 0) → Q (some (.int (((-30) : Int32) - (eb_I (eb_sI h3 s_tape 1 0) s_tape 7)))) (eb_sI h3 s_tape 1 0))))) ∧ (¬ (x1 ≤ (eb_I h s_tape 1)) → Q (some (.int (-3))) h))))) : eb_Sn (d + 1) m_X10_valley h0 0 [(0, .ref s_EB), (1, .int x1)] [] h Q := by
  refine eb_iload_n (pc := 0) (n := 1) (i := 1) rfl rfl rfl ?_
  refine eb_if_lt (pc := 1) (tgt := 15) rfl (by decide) (fun c1 => ?_) (fun c1 => ?_)
  · replace w := w.1 c1
    refine eb_bipush (pc := 15) (n := -3) (v := (-3)) rfl rfl ?_
    exact eb_ireturn (pc := 17) rfl rfl rfl w
  · replace w := w.2 c1
    refine eb_iload_n (pc := 4) (n := 1) (i := 1) rfl rfl rfl ?_
    refine eb_aload_n (pc := 5) (n := 0) (i := 0) rfl rfl rfl ?_
    refine eb_getR (pc := 6) rfl rfl (by decide) (by decide) rfl (ko_s_EB_1 ko) ?_
    refine eb_getI (pc := 9) rfl rfl (by decide) (by decide) rfl ?_
    refine eb_icmp_le (pc := 12) (tgt := 18) rfl (by decide) (fun c2 => ?_) (fun c2 => ?_)
    · replace w := w.1 c2
      refine eb_aload_n (pc := 18) (n := 0) (i := 0) rfl rfl rfl ?_
      refine eb_getR (pc := 19) rfl rfl (by decide) (by decide) rfl (ko_s_EB_0 ko) ?_
      refine eb_iload_n (pc := 22) (n := 1) (i := 1) rfl rfl rfl ?_
      refine eb_ctV (pc := 23) (As := [.int x1]) (rest := []) rfl (by decide) rfl rfl (by decide) rfl (Nat.le_of_ble_eq_true rfl) ?_
      refine eb_Ct.mono w ?_
      rintro r h3 ⟨rfl, ko5, w⟩
      change eb_Sn _ _ _ 26 _ [] _ _
      refine eb_aload_n (pc := 26) (n := 0) (i := 0) rfl rfl rfl ?_
      refine eb_getR (pc := 27) rfl rfl (by decide) (by decide) rfl (ko_s_EB_1 ko5) ?_
      refine eb_iconst (pc := 30) (n := 0) (v := 0) rfl rfl ?_
      refine eb_putI (pc := 31) rfl rfl (by decide) (by decide) rfl rfl ⟨rfl, rfl⟩ ?_
      refine eb_aload_n (pc := 34) (n := 0) (i := 0) rfl rfl rfl ?_
      refine eb_getR (pc := 35) rfl rfl (by decide) (by decide) rfl (ko_s_EB_1 ko5) ?_
      refine eb_getI (pc := 38) rfl rfl (by decide) (by decide) rfl ?_
      refine eb_if_eq (pc := 41) (tgt := 55) rfl (by decide) (fun c6 => ?_) (fun c6 => ?_)
      · replace w := w.1 c6
        refine eb_aload_n (pc := 55) (n := 0) (i := 0) rfl rfl rfl ?_
        refine eb_aload_n (pc := 56) (n := 0) (i := 0) rfl rfl rfl ?_
        refine eb_getR (pc := 57) rfl rfl (by decide) (by decide) rfl (ko_s_EB_0 ko5) ?_
        obtain ⟨r7, q8, k9, w⟩ := w
        refine eb_getR (pc := 60) rfl rfl (by decide) (by decide) rfl q8 ?_
        refine eb_putR (pc := 63) rfl rfl (by decide) (by decide) rfl (Or.inl rfl) (eb_k20 (c := 9) k9 (by decide)) ?_
        refine eb_aload_n (pc := 66) (n := 0) (i := 0) rfl rfl rfl ?_
        refine eb_getR (pc := 67) rfl rfl (by decide) (by decide) rfl (ko_s_EB_3 (ko_sR (by decide +kernel) ko5)) ?_
        refine eb_aload_n (pc := 70) (n := 0) (i := 0) rfl rfl rfl ?_
        refine eb_getR (pc := 71) rfl rfl (by decide) (by decide) rfl (ko_s_EB_0 (ko_sR (by decide +kernel) ko5)) ?_
        refine eb_getR (pc := 74) rfl rfl (by decide) (by decide) rfl (ko_s_reader_3 (ko_sR (by decide +kernel) ko5)) ?_
        refine eb_ctV (pc := 77) (As := [.ref s_reader_start]) (rest := []) rfl (by decide) rfl rfl (by decide) rfl (Nat.le_of_ble_eq_true rfl) ?_
        refine eb_Ct.mono w ?_
        rintro r h10 ⟨rfl, ko12, w⟩
        change eb_Sn _ _ _ 80 _ [] _ _
        refine eb_aload_n (pc := 80) (n := 0) (i := 0) rfl rfl rfl ?_
        refine eb_getR (pc := 81) rfl rfl (by decide) (by decide) rfl (ko_s_EB_6 ko12) ?_
        refine eb_ctV (pc := 84) (As := []) (rest := []) rfl (by decide) rfl rfl (by decide) rfl (Nat.le_of_ble_eq_true rfl) ?_
        refine eb_Ct.mono w ?_
        rintro r h13 ⟨rfl, ko15, w⟩
        change eb_Sn _ _ _ 87 _ [] _ _
        refine eb_aload_n (pc := 87) (n := 0) (i := 0) rfl rfl rfl ?_
        obtain ⟨r16, q17, k18, w⟩ := w
        refine eb_getR (pc := 88) rfl rfl (by decide) (by decide) rfl q17 ?_
        refine eb_getI (pc := 91) rfl k18 (by decide) (by decide) rfl ?_
        exact eb_ireturn (pc := 94) rfl rfl rfl w
      · replace w := w.2 c6
        refine eb_bipush (pc := 44) (n := -30) (v := (-30)) rfl rfl ?_
        refine eb_aload_n (pc := 46) (n := 0) (i := 0) rfl rfl rfl ?_
        refine eb_getR (pc := 47) rfl rfl (by decide) (by decide) rfl (ko_s_EB_1 ko5) ?_
        refine eb_getI (pc := 50) rfl rfl (by decide) (by decide) rfl ?_
        refine eb_isub (pc := 53) rfl ?_
        exact eb_ireturn (pc := 54) rfl rfl rfl w
    · replace w := w.2 c2
      refine eb_bipush (pc := 15) (n := -3) (v := (-3)) rfl rfl ?_
      exact eb_ireturn (pc := 17) rfl rfl rfl w
theorem T_X10_valley {d : Nat} {h : eb_H} {Q : Option Value → eb_H → Prop} (x1 : Int32)  (ko : eb_KO h) (w : ((x1 < 0 → Q (some (.int (-3))) h) ∧ (¬ (x1 < 0) → ((x1 ≤ (eb_I h s_tape 1) → eb_Ct d 46 [.ref s_reader, .int x1] h (fun r h3 => r = none ∧ eb_KO h3 ∧ (((eb_I (eb_sI h3 s_tape 1 0) s_tape 7) = 0 → ∃ r7, eb_R (eb_sI h3 s_tape 1 0) s_reader 2 = some r7 ∧ eb_kd r7 = 9 ∧ eb_Ct d 60 [.ref s_now, .ref s_reader_start] (eb_sR (eb_sI h3 s_tape 1 0) s_EB 2 (some r7)) (fun r h10 => r = none ∧ eb_KO h10 ∧ eb_Ct d 44 [.ref s_past] h10 (fun r h13 => r = none ∧ eb_KO h13 ∧ ∃ r16, eb_R h13 s_EB 2 = some r16 ∧ eb_kd r16 = 9 ∧ Q (some (.int (eb_I h13 r16 3))) h13))) ∧ (¬ ((eb_I (eb_sI h3 s_tape 1 0) s_tape 7) = 0) → Q (some (.int (((-30) : Int32) - (eb_I (eb_sI h3 s_tape 1 0) s_tape 7)))) (eb_sI h3 s_tape 1 0))))) ∧ (¬ (x1 ≤ (eb_I h s_tape 1)) → Q (some (.int (-3))) h))))) : eb_Ct (d + 1) 97 [.ref s_EB, .int x1] h Q :=
  eb_bodyQ (by decide) ok_X10_valley (Nat.le_of_ble_eq_true rfl) (b_X10_valley_0 (h0 := h) x1  ko w)
theorem b_X10_fault_0 {d : Nat} {h0 h : eb_H} {Q : Option Value → eb_H → Prop} (x1 : Int32)  (ko : eb_KO h) (w : ((¬ x1 = 0 → Q (some (.int (if x1 = (1 : Int32) then eb_I h s_tape 8 else (-1) : Int32))) h) ∧ (x1 = 0 → Q (some (.int (eb_I h s_tape 7))) h))) : eb_Sn d m_X10_fault h0 0 [(0, .ref s_EB), (1, .int x1)] [] h Q := by
  refine eb_iload_n (pc := 0) (n := 1) (i := 1) rfl rfl rfl ?_
  refine eb_if_ne (pc := 1) (tgt := 12) rfl (by decide) (fun c1 => ?_) (fun c1 => ?_)
  · replace w := w.1 c1
    refine eb_iload_n (pc := 12) (n := 1) (i := 1) rfl rfl rfl ?_
    refine eb_iconst (pc := 13) (n := 1) (v := 1) rfl rfl ?_
    have jj3 : eb_Sn d m_X10_fault h0 28 [(0, .ref s_EB), (1, .int x1)] [.int (if x1 = (1 : Int32) then eb_I h s_tape 8 else (-1) : Int32)] h Q := by
      exact eb_ireturn (pc := 28) rfl rfl rfl w
    refine eb_icmp_ne (pc := 14) (tgt := 27) rfl (by decide) (fun c2 => ?_) (fun c2 => ?_)
    · refine eb_iconst (pc := 27) (n := -1) (v := (-1)) rfl rfl ?_
      simp only [if_neg c2] at jj3 ⊢
      exact jj3
    · refine eb_aload_n (pc := 17) (n := 0) (i := 0) rfl rfl rfl ?_
      refine eb_getR (pc := 18) rfl rfl (by decide) (by decide) rfl (ko_s_EB_1 ko) ?_
      refine eb_getI (pc := 21) rfl rfl (by decide) (by decide) rfl ?_
      refine eb_goto (pc := 24) (tgt := 28) rfl (by decide) ?_
      simp only [if_pos c2] at jj3 ⊢
      exact jj3
  · replace w := w.2 c1
    refine eb_aload_n (pc := 4) (n := 0) (i := 0) rfl rfl rfl ?_
    refine eb_getR (pc := 5) rfl rfl (by decide) (by decide) rfl (ko_s_EB_1 ko) ?_
    refine eb_getI (pc := 8) rfl rfl (by decide) (by decide) rfl ?_
    exact eb_ireturn (pc := 11) rfl rfl rfl w
theorem T_X10_fault {d : Nat} {h : eb_H} {Q : Option Value → eb_H → Prop} (x1 : Int32)  (ko : eb_KO h) (w : ((¬ x1 = 0 → Q (some (.int (if x1 = (1 : Int32) then eb_I h s_tape 8 else (-1) : Int32))) h) ∧ (x1 = 0 → Q (some (.int (eb_I h s_tape 7))) h))) : eb_Ct d 98 [.ref s_EB, .int x1] h Q :=
  eb_bodyQ (by decide) ok_X10_fault (Nat.le_of_ble_eq_true rfl) (b_X10_fault_0 (h0 := h) x1  ko w)
theorem b_X10_cell_0 {d : Nat} {h0 h : eb_H} {Q : Option Value → eb_H → Prop} (x1 : Int32) (x2 : Int32)  (ko : eb_KO h) (w : ∃ r1, eb_R h s_EB 2 = some r1 ∧ eb_kd r1 = 9 ∧ eb_Ct d 80 [.ref r1, .int x1] h (fun r h4 => ∃ y5, r = some (.int y5) ∧ eb_KO h4 ∧ ((¬ y5 = 0 → ((x2 = 0 → ∃ r8, eb_R h4 s_EB 2 = some r8 ∧ eb_kd r8 = 9 ∧ eb_Ct d 81 [.ref r8, .int x1] h4 (fun r h11 => ∃ y12, r = some (.int y12) ∧ eb_KO h11 ∧ Q (some (.int y12)) h11)) ∧ (x2 = 1 → eb_Ct d 62 [.ref s_now, .int x1] h4 (fun r h14 => ∃ y15, r = some (.int y15) ∧ eb_KO h14 ∧ Q (some (.int y15)) h14)) ∧ (x2 = 2 → eb_Ct d 64 [.ref s_now, .int x1] h4 (fun r h17 => ∃ y18, r = some (.int y18) ∧ eb_KO h17 ∧ Q (some (.int (if y18 = 0 then 0 else 1 : Int32))) h17)) ∧ (x2 = 3 → ∃ r22, eb_R h4 s_EB 2 = some r22 ∧ eb_kd r22 = 9 ∧ eb_Ct d 86 [.ref r22, .int x1] h4 (fun r h25 => ∃ y26, r = some (.int y26) ∧ eb_KO h25 ∧ Q (some (.int y26)) h25)) ∧ (¬ x2 = 0 → ¬ x2 = 1 → ¬ x2 = 2 → ¬ x2 = 3 → Q (some (.int (-2))) h4))) ∧ (y5 = 0 → Q (some (.int (-2))) h4)))) : eb_Sn (d + 1) m_X10_cell h0 0 [(0, .ref s_EB), (1, .int x1), (2, .int x2)] [] h Q := by
  refine eb_aload_n (pc := 0) (n := 0) (i := 0) rfl rfl rfl ?_
  obtain ⟨r1, q2, k3, w⟩ := w
  refine eb_getR (pc := 1) rfl rfl (by decide) (by decide) rfl q2 ?_
  refine eb_iload_n (pc := 4) (n := 1) (i := 1) rfl rfl rfl ?_
  refine eb_ctV (pc := 5) (As := [.int x1]) (rest := []) rfl (by decide) rfl k3 (by decide) rfl (Nat.le_of_ble_eq_true rfl) ?_
  refine eb_Ct.mono w ?_
  rintro r h4 ⟨y5, rfl, ko6, w⟩
  change eb_Sn _ _ _ 8 _ [.int y5] _ _
  refine eb_if_ne (pc := 8) (tgt := 14) rfl (by decide) (fun c7 => ?_) (fun c7 => ?_)
  · replace w := w.1 c7
    refine eb_iload_n (pc := 14) (n := 2) (i := 2) rfl rfl rfl ?_
    by_cases s0 : x2 = 0
    · refine eb_tableIn (pc := 15) (j := 0) (tgt := 44) (by rw [s0]; decide) (by decide) (by rfl) (by decide) rfl ?_
      replace w := w.1 s0
      refine eb_aload_n (pc := 44) (n := 0) (i := 0) rfl rfl rfl ?_
      obtain ⟨r8, q9, k10, w⟩ := w
      refine eb_getR (pc := 45) rfl rfl (by decide) (by decide) rfl q9 ?_
      refine eb_iload_n (pc := 48) (n := 1) (i := 1) rfl rfl rfl ?_
      refine eb_ctV (pc := 49) (As := [.int x1]) (rest := []) rfl (by decide) rfl k10 (by decide) rfl (Nat.le_of_ble_eq_true rfl) ?_
      refine eb_Ct.mono w ?_
      rintro r h11 ⟨y12, rfl, ko13, w⟩
      change eb_Sn _ _ _ 52 _ [.int y12] _ _
      exact eb_ireturn (pc := 52) rfl rfl rfl w
    by_cases s1 : x2 = 1
    · refine eb_tableIn (pc := 15) (j := 1) (tgt := 53) (by rw [s1]; decide) (by decide) (by rfl) (by decide) rfl ?_
      replace w := w.2.1 s1
      refine eb_aload_n (pc := 53) (n := 0) (i := 0) rfl rfl rfl ?_
      refine eb_getR (pc := 54) rfl rfl (by decide) (by decide) rfl (ko_s_EB_3 ko6) ?_
      refine eb_iload_n (pc := 57) (n := 1) (i := 1) rfl rfl rfl ?_
      refine eb_ctV (pc := 58) (As := [.int x1]) (rest := []) rfl (by decide) rfl rfl (by decide) rfl (Nat.le_of_ble_eq_true rfl) ?_
      refine eb_Ct.mono w ?_
      rintro r h14 ⟨y15, rfl, ko16, w⟩
      change eb_Sn _ _ _ 61 _ [.int y15] _ _
      exact eb_ireturn (pc := 61) rfl rfl rfl w
    by_cases s2 : x2 = 2
    · refine eb_tableIn (pc := 15) (j := 2) (tgt := 62) (by rw [s2]; decide) (by decide) (by rfl) (by decide) rfl ?_
      replace w := w.2.2.1 s2
      refine eb_aload_n (pc := 62) (n := 0) (i := 0) rfl rfl rfl ?_
      refine eb_getR (pc := 63) rfl rfl (by decide) (by decide) rfl (ko_s_EB_3 ko6) ?_
      refine eb_iload_n (pc := 66) (n := 1) (i := 1) rfl rfl rfl ?_
      refine eb_ctV (pc := 67) (As := [.int x1]) (rest := []) rfl (by decide) rfl rfl (by decide) rfl (Nat.le_of_ble_eq_true rfl) ?_
      refine eb_Ct.mono w ?_
      rintro r h17 ⟨y18, rfl, ko19, w⟩
      change eb_Sn _ _ _ 70 _ [.int y18] _ _
      have jj21 : eb_Sn (d + 1) m_X10_cell h0 78 [(0, .ref s_EB), (1, .int x1), (2, .int x2)] [.int (if y18 = 0 then 0 else 1 : Int32)] h17 Q := by
        exact eb_ireturn (pc := 78) rfl rfl rfl w
      refine eb_if_eq (pc := 70) (tgt := 77) rfl (by decide) (fun c20 => ?_) (fun c20 => ?_)
      · refine eb_iconst (pc := 77) (n := 0) (v := 0) rfl rfl ?_
        simp only [if_pos c20] at jj21 ⊢
        exact jj21
      · refine eb_iconst (pc := 73) (n := 1) (v := 1) rfl rfl ?_
        refine eb_goto (pc := 74) (tgt := 78) rfl (by decide) ?_
        simp only [if_neg c20] at jj21 ⊢
        exact jj21
    by_cases s3 : x2 = 3
    · refine eb_tableIn (pc := 15) (j := 3) (tgt := 79) (by rw [s3]; decide) (by decide) (by rfl) (by decide) rfl ?_
      replace w := w.2.2.2.1 s3
      refine eb_aload_n (pc := 79) (n := 0) (i := 0) rfl rfl rfl ?_
      obtain ⟨r22, q23, k24, w⟩ := w
      refine eb_getR (pc := 80) rfl rfl (by decide) (by decide) rfl q23 ?_
      refine eb_iload_n (pc := 83) (n := 1) (i := 1) rfl rfl rfl ?_
      refine eb_ctV (pc := 84) (As := [.int x1]) (rest := []) rfl (by decide) rfl k24 (by decide) rfl (Nat.le_of_ble_eq_true rfl) ?_
      refine eb_Ct.mono w ?_
      rintro r h25 ⟨y26, rfl, ko27, w⟩
      change eb_Sn _ _ _ 87 _ [.int y26] _ _
      exact eb_ireturn (pc := 87) rfl rfl rfl w
    refine eb_tableOut (pc := 15) (tgt := 88) (by have z0 := lv_neT (a := 0) s0 (by decide); have z1 := lv_neT (a := 1) s1 (by decide); have z2 := lv_neT (a := 2) s2 (by decide); have z3 := lv_neT (a := 3) s3 (by decide); omega) (by decide) rfl ?_
    replace w := w.2.2.2.2 s0 s1 s2 s3
    refine eb_bipush (pc := 88) (n := -2) (v := (-2)) rfl rfl ?_
    exact eb_ireturn (pc := 90) rfl rfl rfl w
  · replace w := w.2 c7
    refine eb_bipush (pc := 11) (n := -2) (v := (-2)) rfl rfl ?_
    exact eb_ireturn (pc := 13) rfl rfl rfl w
theorem T_X10_cell {d : Nat} {h : eb_H} {Q : Option Value → eb_H → Prop} (x1 : Int32) (x2 : Int32)  (ko : eb_KO h) (w : ∃ r1, eb_R h s_EB 2 = some r1 ∧ eb_kd r1 = 9 ∧ eb_Ct d 80 [.ref r1, .int x1] h (fun r h4 => ∃ y5, r = some (.int y5) ∧ eb_KO h4 ∧ ((¬ y5 = 0 → ((x2 = 0 → ∃ r8, eb_R h4 s_EB 2 = some r8 ∧ eb_kd r8 = 9 ∧ eb_Ct d 81 [.ref r8, .int x1] h4 (fun r h11 => ∃ y12, r = some (.int y12) ∧ eb_KO h11 ∧ Q (some (.int y12)) h11)) ∧ (x2 = 1 → eb_Ct d 62 [.ref s_now, .int x1] h4 (fun r h14 => ∃ y15, r = some (.int y15) ∧ eb_KO h14 ∧ Q (some (.int y15)) h14)) ∧ (x2 = 2 → eb_Ct d 64 [.ref s_now, .int x1] h4 (fun r h17 => ∃ y18, r = some (.int y18) ∧ eb_KO h17 ∧ Q (some (.int (if y18 = 0 then 0 else 1 : Int32))) h17)) ∧ (x2 = 3 → ∃ r22, eb_R h4 s_EB 2 = some r22 ∧ eb_kd r22 = 9 ∧ eb_Ct d 86 [.ref r22, .int x1] h4 (fun r h25 => ∃ y26, r = some (.int y26) ∧ eb_KO h25 ∧ Q (some (.int y26)) h25)) ∧ (¬ x2 = 0 → ¬ x2 = 1 → ¬ x2 = 2 → ¬ x2 = 3 → Q (some (.int (-2))) h4))) ∧ (y5 = 0 → Q (some (.int (-2))) h4)))) : eb_Ct (d + 1) 99 [.ref s_EB, .int x1, .int x2] h Q :=
  eb_bodyQ (by decide) ok_X10_cell (Nat.le_of_ble_eq_true rfl) (b_X10_cell_0 (h0 := h) x1 x2  ko w)
theorem b_X10_house_0 {d : Nat} {h0 h : eb_H} {Q : Option Value → eb_H → Prop} (x1 : Int32)  (ko : eb_KO h) (w : ∃ r1, eb_R h s_EB 2 = some r1 ∧ eb_kd r1 = 9 ∧ eb_Ct d 83 [.ref r1, .int x1] h (fun r h4 => ∃ y5, r = some (.int y5) ∧ eb_KO h4 ∧ ((y5 = 0 → Q (some (.int (-2))) h4) ∧ (¬ (y5 = 0) → ∃ r8, eb_R h4 s_EB 2 = some r8 ∧ eb_kd r8 = 9 ∧ eb_Ct d 84 [.ref r8, .int x1] h4 (fun r h11 => ∃ y12, r = some (.int y12) ∧ eb_KO h11 ∧ Q (some (.int y12)) h11))))) : eb_Sn (d + 1) m_X10_house h0 0 [(0, .ref s_EB), (1, .int x1)] [] h Q := by
  refine eb_aload_n (pc := 0) (n := 0) (i := 0) rfl rfl rfl ?_
  obtain ⟨r1, q2, k3, w⟩ := w
  refine eb_getR (pc := 1) rfl rfl (by decide) (by decide) rfl q2 ?_
  refine eb_iload_n (pc := 4) (n := 1) (i := 1) rfl rfl rfl ?_
  refine eb_ctV (pc := 5) (As := [.int x1]) (rest := []) rfl (by decide) rfl k3 (by decide) rfl (Nat.le_of_ble_eq_true rfl) ?_
  refine eb_Ct.mono w ?_
  rintro r h4 ⟨y5, rfl, ko6, w⟩
  change eb_Sn _ _ _ 8 _ [.int y5] _ _
  refine eb_if_eq (pc := 8) (tgt := 22) rfl (by decide) (fun c7 => ?_) (fun c7 => ?_)
  · replace w := w.1 c7
    refine eb_bipush (pc := 22) (n := -2) (v := (-2)) rfl rfl ?_
    exact eb_ireturn (pc := 24) rfl rfl rfl w
  · replace w := w.2 c7
    refine eb_aload_n (pc := 11) (n := 0) (i := 0) rfl rfl rfl ?_
    obtain ⟨r8, q9, k10, w⟩ := w
    refine eb_getR (pc := 12) rfl rfl (by decide) (by decide) rfl q9 ?_
    refine eb_iload_n (pc := 15) (n := 1) (i := 1) rfl rfl rfl ?_
    refine eb_ctV (pc := 16) (As := [.int x1]) (rest := []) rfl (by decide) rfl k10 (by decide) rfl (Nat.le_of_ble_eq_true rfl) ?_
    refine eb_Ct.mono w ?_
    rintro r h11 ⟨y12, rfl, ko13, w⟩
    change eb_Sn _ _ _ 19 _ [.int y12] _ _
    refine eb_goto (pc := 19) (tgt := 24) rfl (by decide) ?_
    exact eb_ireturn (pc := 24) rfl rfl rfl w
theorem T_X10_house {d : Nat} {h : eb_H} {Q : Option Value → eb_H → Prop} (x1 : Int32)  (ko : eb_KO h) (w : ∃ r1, eb_R h s_EB 2 = some r1 ∧ eb_kd r1 = 9 ∧ eb_Ct d 83 [.ref r1, .int x1] h (fun r h4 => ∃ y5, r = some (.int y5) ∧ eb_KO h4 ∧ ((y5 = 0 → Q (some (.int (-2))) h4) ∧ (¬ (y5 = 0) → ∃ r8, eb_R h4 s_EB 2 = some r8 ∧ eb_kd r8 = 9 ∧ eb_Ct d 84 [.ref r8, .int x1] h4 (fun r h11 => ∃ y12, r = some (.int y12) ∧ eb_KO h11 ∧ Q (some (.int y12)) h11))))) : eb_Ct (d + 1) 100 [.ref s_EB, .int x1] h Q :=
  eb_bodyQ (by decide) ok_X10_house (Nat.le_of_ble_eq_true rfl) (b_X10_house_0 (h0 := h) x1  ko w)
theorem b_X10_why_0 {d : Nat} {h0 h : eb_H} {Q : Option Value → eb_H → Prop} (x1 : Int32)  (ko : eb_KO h) (w : ∃ r1, eb_R h s_EB 2 = some r1 ∧ eb_kd r1 = 9 ∧ eb_Ct d 89 [.ref r1, .ref s_now, .int x1] h (fun r h4 => ∃ y5, r = some (.int y5) ∧ eb_KO h4 ∧ eb_Ct d 286 [.int 0, .int (-y5)] h4 (fun r h7 => ∃ y8, r = some (.int y8) ∧ eb_KO h7 ∧ Q (some (.int y8)) h7))) : eb_Sn (d + 1) m_X10_why h0 0 [(0, .ref s_EB), (1, .int x1)] [] h Q := by
  refine eb_iconst (pc := 0) (n := 0) (v := 0) rfl rfl ?_
  refine eb_aload_n (pc := 1) (n := 0) (i := 0) rfl rfl rfl ?_
  obtain ⟨r1, q2, k3, w⟩ := w
  refine eb_getR (pc := 2) rfl rfl (by decide) (by decide) rfl q2 ?_
  refine eb_aload_n (pc := 5) (n := 0) (i := 0) rfl rfl rfl ?_
  refine eb_getR (pc := 6) rfl rfl (by decide) (by decide) rfl (ko_s_EB_3 ko) ?_
  refine eb_iload_n (pc := 9) (n := 1) (i := 1) rfl rfl rfl ?_
  refine eb_ctV (pc := 10) (As := [.ref s_now, .int x1]) (rest := [.int 0]) rfl (by decide) rfl k3 (by decide) rfl (Nat.le_of_ble_eq_true rfl) ?_
  refine eb_Ct.mono w ?_
  rintro r h4 ⟨y5, rfl, ko6, w⟩
  change eb_Sn _ _ _ 13 _ [.int y5, .int 0] _ _
  refine eb_ineg (pc := 13) rfl ?_
  refine eb_ctS (pc := 14) (As := [.int 0, .int (-y5)]) (rest := []) rfl (by decide) (by decide) rfl rfl (Nat.le_of_ble_eq_true rfl) ?_
  refine eb_Ct.mono w ?_
  rintro r h7 ⟨y8, rfl, ko9, w⟩
  change eb_Sn _ _ _ 17 _ [.int y8] _ _
  exact eb_ireturn (pc := 17) rfl rfl rfl w
theorem T_X10_why {d : Nat} {h : eb_H} {Q : Option Value → eb_H → Prop} (x1 : Int32)  (ko : eb_KO h) (w : ∃ r1, eb_R h s_EB 2 = some r1 ∧ eb_kd r1 = 9 ∧ eb_Ct d 89 [.ref r1, .ref s_now, .int x1] h (fun r h4 => ∃ y5, r = some (.int y5) ∧ eb_KO h4 ∧ eb_Ct d 286 [.int 0, .int (-y5)] h4 (fun r h7 => ∃ y8, r = some (.int y8) ∧ eb_KO h7 ∧ Q (some (.int y8)) h7))) : eb_Ct (d + 1) 101 [.ref s_EB, .int x1] h Q :=
  eb_bodyQ (by decide) ok_X10_why (Nat.le_of_ble_eq_true rfl) (b_X10_why_0 (h0 := h) x1  ko w)
theorem b_X10_by_0 {d : Nat} {h0 h : eb_H} {Q : Option Value → eb_H → Prop} (x1 : Int32) (x2 : Int32)  (ko : eb_KO h) (w : ((x2 = 0 → eb_Ct d 60 [.ref s_trial, .ref s_now] h (fun r h2 => r = none ∧ eb_KO h2 ∧ ∃ r5, eb_R h2 s_EB 2 = some r5 ∧ eb_kd r5 = 9 ∧ eb_Ct d 90 [.ref r5, .ref s_trial, .int x1] h2 (fun r h8 => ∃ y9, r = some (.int y9) ∧ eb_KO h8 ∧ ((0 ≤ y9 → Q (some (.int (if x2 = 0 then eb_I h8 s_trial 0 else eb_I h8 s_trial 1 : Int32))) h8) ∧ (¬ (0 ≤ y9) → Q (some (.int (-5))) h8))))) ∧ (¬ (x2 = 0) → ((x2 = (1 : Int32) → eb_Ct d 60 [.ref s_trial, .ref s_now] h (fun r h15 => r = none ∧ eb_KO h15 ∧ ∃ r18, eb_R h15 s_EB 2 = some r18 ∧ eb_kd r18 = 9 ∧ eb_Ct d 90 [.ref r18, .ref s_trial, .int x1] h15 (fun r h21 => ∃ y22, r = some (.int y22) ∧ eb_KO h21 ∧ ((0 ≤ y22 → Q (some (.int (if x2 = 0 then eb_I h21 s_trial 0 else eb_I h21 s_trial 1 : Int32))) h21) ∧ (¬ (0 ≤ y22) → Q (some (.int (-5))) h21))))) ∧ (¬ (x2 = (1 : Int32)) → Q (some (.int (-2))) h))))) : eb_Sn (d + 1) m_X10_by h0 0 [(0, .ref s_EB), (1, .int x1), (2, .int x2)] [] h Q := by
  refine eb_iload_n (pc := 0) (n := 2) (i := 2) rfl rfl rfl ?_
  refine eb_if_eq (pc := 1) (tgt := 12) rfl (by decide) (fun c1 => ?_) (fun c1 => ?_)
  · replace w := w.1 c1
    refine eb_aload_n (pc := 12) (n := 0) (i := 0) rfl rfl rfl ?_
    refine eb_getR (pc := 13) rfl rfl (by decide) (by decide) rfl (ko_s_EB_5 ko) ?_
    refine eb_aload_n (pc := 16) (n := 0) (i := 0) rfl rfl rfl ?_
    refine eb_getR (pc := 17) rfl rfl (by decide) (by decide) rfl (ko_s_EB_3 ko) ?_
    refine eb_ctV (pc := 20) (As := [.ref s_now]) (rest := []) rfl (by decide) rfl rfl (by decide) rfl (Nat.le_of_ble_eq_true rfl) ?_
    refine eb_Ct.mono w ?_
    rintro r h2 ⟨rfl, ko4, w⟩
    change eb_Sn _ _ _ 23 _ [] _ _
    refine eb_aload_n (pc := 23) (n := 0) (i := 0) rfl rfl rfl ?_
    obtain ⟨r5, q6, k7, w⟩ := w
    refine eb_getR (pc := 24) rfl rfl (by decide) (by decide) rfl q6 ?_
    refine eb_aload_n (pc := 27) (n := 0) (i := 0) rfl rfl rfl ?_
    refine eb_getR (pc := 28) rfl rfl (by decide) (by decide) rfl (ko_s_EB_5 ko4) ?_
    refine eb_iload_n (pc := 31) (n := 1) (i := 1) rfl rfl rfl ?_
    refine eb_ctV (pc := 32) (As := [.ref s_trial, .int x1]) (rest := []) rfl (by decide) rfl k7 (by decide) rfl (Nat.le_of_ble_eq_true rfl) ?_
    refine eb_Ct.mono w ?_
    rintro r h8 ⟨y9, rfl, ko10, w⟩
    change eb_Sn _ _ _ 35 _ [.int y9] _ _
    refine eb_if_ge (pc := 35) (tgt := 41) rfl (by decide) (fun c11 => ?_) (fun c11 => ?_)
    · replace w := w.1 c11
      refine eb_iload_n (pc := 41) (n := 2) (i := 2) rfl rfl rfl ?_
      have jj13 : eb_Sn (d + 1) m_X10_by h0 62 [(0, .ref s_EB), (1, .int x1), (2, .int x2)] [.int (if x2 = 0 then eb_I h8 s_trial 0 else eb_I h8 s_trial 1 : Int32)] h8 Q := by
        exact eb_ireturn (pc := 62) rfl rfl rfl w
      refine eb_if_ne (pc := 42) (tgt := 55) rfl (by decide) (fun c12 => ?_) (fun c12 => ?_)
      · refine eb_aload_n (pc := 55) (n := 0) (i := 0) rfl rfl rfl ?_
        refine eb_getR (pc := 56) rfl rfl (by decide) (by decide) rfl (ko_s_EB_5 ko10) ?_
        refine eb_getI (pc := 59) rfl rfl (by decide) (by decide) rfl ?_
        simp only [if_neg c12] at jj13 ⊢
        exact jj13
      · refine eb_aload_n (pc := 45) (n := 0) (i := 0) rfl rfl rfl ?_
        refine eb_getR (pc := 46) rfl rfl (by decide) (by decide) rfl (ko_s_EB_5 ko10) ?_
        refine eb_getI (pc := 49) rfl rfl (by decide) (by decide) rfl ?_
        refine eb_goto (pc := 52) (tgt := 62) rfl (by decide) ?_
        simp only [if_pos c12] at jj13 ⊢
        exact jj13
    · replace w := w.2 c11
      refine eb_bipush (pc := 38) (n := -5) (v := (-5)) rfl rfl ?_
      exact eb_ireturn (pc := 40) rfl rfl rfl w
  · replace w := w.2 c1
    refine eb_iload_n (pc := 4) (n := 2) (i := 2) rfl rfl rfl ?_
    refine eb_iconst (pc := 5) (n := 1) (v := 1) rfl rfl ?_
    refine eb_icmp_eq (pc := 6) (tgt := 12) rfl (by decide) (fun c14 => ?_) (fun c14 => ?_)
    · replace w := w.1 c14
      refine eb_aload_n (pc := 12) (n := 0) (i := 0) rfl rfl rfl ?_
      refine eb_getR (pc := 13) rfl rfl (by decide) (by decide) rfl (ko_s_EB_5 ko) ?_
      refine eb_aload_n (pc := 16) (n := 0) (i := 0) rfl rfl rfl ?_
      refine eb_getR (pc := 17) rfl rfl (by decide) (by decide) rfl (ko_s_EB_3 ko) ?_
      refine eb_ctV (pc := 20) (As := [.ref s_now]) (rest := []) rfl (by decide) rfl rfl (by decide) rfl (Nat.le_of_ble_eq_true rfl) ?_
      refine eb_Ct.mono w ?_
      rintro r h15 ⟨rfl, ko17, w⟩
      change eb_Sn _ _ _ 23 _ [] _ _
      refine eb_aload_n (pc := 23) (n := 0) (i := 0) rfl rfl rfl ?_
      obtain ⟨r18, q19, k20, w⟩ := w
      refine eb_getR (pc := 24) rfl rfl (by decide) (by decide) rfl q19 ?_
      refine eb_aload_n (pc := 27) (n := 0) (i := 0) rfl rfl rfl ?_
      refine eb_getR (pc := 28) rfl rfl (by decide) (by decide) rfl (ko_s_EB_5 ko17) ?_
      refine eb_iload_n (pc := 31) (n := 1) (i := 1) rfl rfl rfl ?_
      refine eb_ctV (pc := 32) (As := [.ref s_trial, .int x1]) (rest := []) rfl (by decide) rfl k20 (by decide) rfl (Nat.le_of_ble_eq_true rfl) ?_
      refine eb_Ct.mono w ?_
      rintro r h21 ⟨y22, rfl, ko23, w⟩
      change eb_Sn _ _ _ 35 _ [.int y22] _ _
      refine eb_if_ge (pc := 35) (tgt := 41) rfl (by decide) (fun c24 => ?_) (fun c24 => ?_)
      · replace w := w.1 c24
        refine eb_iload_n (pc := 41) (n := 2) (i := 2) rfl rfl rfl ?_
        have jj26 : eb_Sn (d + 1) m_X10_by h0 62 [(0, .ref s_EB), (1, .int x1), (2, .int x2)] [.int (if x2 = 0 then eb_I h21 s_trial 0 else eb_I h21 s_trial 1 : Int32)] h21 Q := by
          exact eb_ireturn (pc := 62) rfl rfl rfl w
        refine eb_if_ne (pc := 42) (tgt := 55) rfl (by decide) (fun c25 => ?_) (fun c25 => ?_)
        · refine eb_aload_n (pc := 55) (n := 0) (i := 0) rfl rfl rfl ?_
          refine eb_getR (pc := 56) rfl rfl (by decide) (by decide) rfl (ko_s_EB_5 ko23) ?_
          refine eb_getI (pc := 59) rfl rfl (by decide) (by decide) rfl ?_
          simp only [if_neg c25] at jj26 ⊢
          exact jj26
        · refine eb_aload_n (pc := 45) (n := 0) (i := 0) rfl rfl rfl ?_
          refine eb_getR (pc := 46) rfl rfl (by decide) (by decide) rfl (ko_s_EB_5 ko23) ?_
          refine eb_getI (pc := 49) rfl rfl (by decide) (by decide) rfl ?_
          refine eb_goto (pc := 52) (tgt := 62) rfl (by decide) ?_
          simp only [if_pos c25] at jj26 ⊢
          exact jj26
      · replace w := w.2 c24
        refine eb_bipush (pc := 38) (n := -5) (v := (-5)) rfl rfl ?_
        exact eb_ireturn (pc := 40) rfl rfl rfl w
    · replace w := w.2 c14
      refine eb_bipush (pc := 9) (n := -2) (v := (-2)) rfl rfl ?_
      exact eb_ireturn (pc := 11) rfl rfl rfl w
theorem T_X10_by {d : Nat} {h : eb_H} {Q : Option Value → eb_H → Prop} (x1 : Int32) (x2 : Int32)  (ko : eb_KO h) (w : ((x2 = 0 → eb_Ct d 60 [.ref s_trial, .ref s_now] h (fun r h2 => r = none ∧ eb_KO h2 ∧ ∃ r5, eb_R h2 s_EB 2 = some r5 ∧ eb_kd r5 = 9 ∧ eb_Ct d 90 [.ref r5, .ref s_trial, .int x1] h2 (fun r h8 => ∃ y9, r = some (.int y9) ∧ eb_KO h8 ∧ ((0 ≤ y9 → Q (some (.int (if x2 = 0 then eb_I h8 s_trial 0 else eb_I h8 s_trial 1 : Int32))) h8) ∧ (¬ (0 ≤ y9) → Q (some (.int (-5))) h8))))) ∧ (¬ (x2 = 0) → ((x2 = (1 : Int32) → eb_Ct d 60 [.ref s_trial, .ref s_now] h (fun r h15 => r = none ∧ eb_KO h15 ∧ ∃ r18, eb_R h15 s_EB 2 = some r18 ∧ eb_kd r18 = 9 ∧ eb_Ct d 90 [.ref r18, .ref s_trial, .int x1] h15 (fun r h21 => ∃ y22, r = some (.int y22) ∧ eb_KO h21 ∧ ((0 ≤ y22 → Q (some (.int (if x2 = 0 then eb_I h21 s_trial 0 else eb_I h21 s_trial 1 : Int32))) h21) ∧ (¬ (0 ≤ y22) → Q (some (.int (-5))) h21))))) ∧ (¬ (x2 = (1 : Int32)) → Q (some (.int (-2))) h))))) : eb_Ct (d + 1) 102 [.ref s_EB, .int x1, .int x2] h Q :=
  eb_bodyQ (by decide) ok_X10_by (Nat.le_of_ble_eq_true rfl) (b_X10_by_0 (h0 := h) x1 x2  ko w)
theorem b_X10_fly_0 {d : Nat} {h0 h : eb_H} {Q : Option Value → eb_H → Prop} (x1 : Int32)  (ko : eb_KO h) (w : eb_Ct d 60 [.ref s_before, .ref s_now] h (fun r h1 => r = none ∧ eb_KO h1 ∧ ∃ r4, eb_R h1 s_EB 2 = some r4 ∧ eb_kd r4 = 9 ∧ eb_Ct d 90 [.ref r4, .ref s_now, .int x1] h1 (fun r h7 => ∃ y8, r = some (.int y8) ∧ eb_KO h7 ∧ ((0 ≤ y8 → eb_Ct d 42 [.ref s_past, .ref s_before] h7 (fun r h11 => r = none ∧ eb_KO h11 ∧ Q (some (.int y8)) h11)) ∧ (¬ (0 ≤ y8) → Q (some (.int (((-10) : Int32) + y8))) h7))))) : eb_Sn (d + 1) m_X10_fly h0 0 [(0, .ref s_EB), (1, .int x1)] [] h Q := by
  refine eb_aload_n (pc := 0) (n := 0) (i := 0) rfl rfl rfl ?_
  refine eb_getR (pc := 1) rfl rfl (by decide) (by decide) rfl (ko_s_EB_4 ko) ?_
  refine eb_aload_n (pc := 4) (n := 0) (i := 0) rfl rfl rfl ?_
  refine eb_getR (pc := 5) rfl rfl (by decide) (by decide) rfl (ko_s_EB_3 ko) ?_
  refine eb_ctV (pc := 8) (As := [.ref s_now]) (rest := []) rfl (by decide) rfl rfl (by decide) rfl (Nat.le_of_ble_eq_true rfl) ?_
  refine eb_Ct.mono w ?_
  rintro r h1 ⟨rfl, ko3, w⟩
  change eb_Sn _ _ _ 11 _ [] _ _
  refine eb_aload_n (pc := 11) (n := 0) (i := 0) rfl rfl rfl ?_
  obtain ⟨r4, q5, k6, w⟩ := w
  refine eb_getR (pc := 12) rfl rfl (by decide) (by decide) rfl q5 ?_
  refine eb_aload_n (pc := 15) (n := 0) (i := 0) rfl rfl rfl ?_
  refine eb_getR (pc := 16) rfl rfl (by decide) (by decide) rfl (ko_s_EB_3 ko3) ?_
  refine eb_iload_n (pc := 19) (n := 1) (i := 1) rfl rfl rfl ?_
  refine eb_ctV (pc := 20) (As := [.ref s_now, .int x1]) (rest := []) rfl (by decide) rfl k6 (by decide) rfl (Nat.le_of_ble_eq_true rfl) ?_
  refine eb_Ct.mono w ?_
  rintro r h7 ⟨y8, rfl, ko9, w⟩
  change eb_Sn _ _ _ 23 _ [.int y8] _ _
  refine eb_istore_n (pc := 23) (n := 2) (i := 2) (ls2 := [(2, .int y8), (0, .ref s_EB), (1, .int x1)]) rfl (Nat.le_of_ble_eq_true rfl) rfl rfl ?_
  refine eb_iload_n (pc := 24) (n := 2) (i := 2) rfl rfl rfl ?_
  refine eb_if_ge (pc := 25) (tgt := 33) rfl (by decide) (fun c10 => ?_) (fun c10 => ?_)
  · replace w := w.1 c10
    refine eb_aload_n (pc := 33) (n := 0) (i := 0) rfl rfl rfl ?_
    refine eb_getR (pc := 34) rfl rfl (by decide) (by decide) rfl (ko_s_EB_6 ko9) ?_
    refine eb_aload_n (pc := 37) (n := 0) (i := 0) rfl rfl rfl ?_
    refine eb_getR (pc := 38) rfl rfl (by decide) (by decide) rfl (ko_s_EB_4 ko9) ?_
    refine eb_ctV (pc := 41) (As := [.ref s_before]) (rest := []) rfl (by decide) rfl rfl (by decide) rfl (Nat.le_of_ble_eq_true rfl) ?_
    refine eb_Ct.mono w ?_
    rintro r h11 ⟨rfl, ko13, w⟩
    change eb_Sn _ _ _ 44 _ [] _ _
    refine eb_iload_n (pc := 44) (n := 2) (i := 2) rfl rfl rfl ?_
    exact eb_ireturn (pc := 45) rfl rfl rfl w
  · replace w := w.2 c10
    refine eb_bipush (pc := 28) (n := -10) (v := (-10)) rfl rfl ?_
    refine eb_iload_n (pc := 30) (n := 2) (i := 2) rfl rfl rfl ?_
    refine eb_iadd (pc := 31) rfl ?_
    exact eb_ireturn (pc := 32) rfl rfl rfl w
theorem T_X10_fly {d : Nat} {h : eb_H} {Q : Option Value → eb_H → Prop} (x1 : Int32)  (ko : eb_KO h) (w : eb_Ct d 60 [.ref s_before, .ref s_now] h (fun r h1 => r = none ∧ eb_KO h1 ∧ ∃ r4, eb_R h1 s_EB 2 = some r4 ∧ eb_kd r4 = 9 ∧ eb_Ct d 90 [.ref r4, .ref s_now, .int x1] h1 (fun r h7 => ∃ y8, r = some (.int y8) ∧ eb_KO h7 ∧ ((0 ≤ y8 → eb_Ct d 42 [.ref s_past, .ref s_before] h7 (fun r h11 => r = none ∧ eb_KO h11 ∧ Q (some (.int y8)) h11)) ∧ (¬ (0 ≤ y8) → Q (some (.int (((-10) : Int32) + y8))) h7))))) : eb_Ct (d + 1) 103 [.ref s_EB, .int x1] h Q :=
  eb_bodyQ (by decide) ok_X10_fly (Nat.le_of_ble_eq_true rfl) (b_X10_fly_0 (h0 := h) x1  ko w)
theorem b_X10_off_0 {d : Nat} {h0 h : eb_H} {Q : Option Value → eb_H → Prop} (x1 : Int32)  (ko : eb_KO h) (w : ∃ r1, eb_R h s_EB 2 = some r1 ∧ eb_kd r1 = 9 ∧ eb_Ct d 80 [.ref r1, .int x1] h (fun r h4 => ∃ y5, r = some (.int y5) ∧ eb_KO h4 ∧ ((y5 = 0 → Q (some (.int (-11))) h4) ∧ (¬ (y5 = 0) → eb_Ct d 139 [.ref s_EB, .int ((100 : Int32) + x1)] h4 (fun r h8 => ∃ y9, r = some (.int y9) ∧ eb_KO h8 ∧ Q (some (.int (if y9 = 0 then (-11) else eb_I h s_now 0 : Int32))) h8))))) : eb_Sn (d + 1) m_X10_off h0 0 [(0, .ref s_EB), (1, .int x1)] [] h Q := by
  refine eb_aload_n (pc := 0) (n := 0) (i := 0) rfl rfl rfl ?_
  refine eb_getR (pc := 1) rfl rfl (by decide) (by decide) rfl (ko_s_EB_3 ko) ?_
  refine eb_getI (pc := 4) rfl rfl (by decide) (by decide) rfl ?_
  refine eb_istore_n (pc := 7) (n := 2) (i := 2) (ls2 := [(2, .int (eb_I h s_now 0)), (0, .ref s_EB), (1, .int x1)]) rfl (Nat.le_of_ble_eq_true rfl) rfl rfl ?_
  refine eb_aload_n (pc := 8) (n := 0) (i := 0) rfl rfl rfl ?_
  obtain ⟨r1, q2, k3, w⟩ := w
  refine eb_getR (pc := 9) rfl rfl (by decide) (by decide) rfl q2 ?_
  refine eb_iload_n (pc := 12) (n := 1) (i := 1) rfl rfl rfl ?_
  refine eb_ctV (pc := 13) (As := [.int x1]) (rest := []) rfl (by decide) rfl k3 (by decide) rfl (Nat.le_of_ble_eq_true rfl) ?_
  refine eb_Ct.mono w ?_
  rintro r h4 ⟨y5, rfl, ko6, w⟩
  change eb_Sn _ _ _ 16 _ [.int y5] _ _
  refine eb_if_eq (pc := 16) (tgt := 34) rfl (by decide) (fun c7 => ?_) (fun c7 => ?_)
  · replace w := w.1 c7
    refine eb_bipush (pc := 34) (n := -11) (v := (-11)) rfl rfl ?_
    exact eb_ireturn (pc := 36) rfl rfl rfl w
  · replace w := w.2 c7
    refine eb_aload_n (pc := 19) (n := 0) (i := 0) rfl rfl rfl ?_
    refine eb_bipush (pc := 20) (n := 100) (v := 100) rfl rfl ?_
    refine eb_iload_n (pc := 22) (n := 1) (i := 1) rfl rfl rfl ?_
    refine eb_iadd (pc := 23) rfl ?_
    refine eb_ctV (pc := 24) (As := [.int ((100 : Int32) + x1)]) (rest := []) rfl (by decide) rfl rfl (by decide) rfl (Nat.le_of_ble_eq_true rfl) ?_
    refine eb_Ct.mono w ?_
    rintro r h8 ⟨y9, rfl, ko10, w⟩
    change eb_Sn _ _ _ 27 _ [.int y9] _ _
    have jj12 : eb_Sn (d + 1) m_X10_off h0 36 [(2, .int (eb_I h s_now 0)), (0, .ref s_EB), (1, .int x1)] [.int (if y9 = 0 then (-11) else eb_I h s_now 0 : Int32)] h8 Q := by
      exact eb_ireturn (pc := 36) rfl rfl rfl w
    refine eb_if_eq (pc := 27) (tgt := 34) rfl (by decide) (fun c11 => ?_) (fun c11 => ?_)
    · refine eb_bipush (pc := 34) (n := -11) (v := (-11)) rfl rfl ?_
      simp only [if_pos c11] at jj12 ⊢
      exact jj12
    · refine eb_iload_n (pc := 30) (n := 2) (i := 2) rfl rfl rfl ?_
      refine eb_goto (pc := 31) (tgt := 36) rfl (by decide) ?_
      simp only [if_neg c11] at jj12 ⊢
      exact jj12
theorem T_X10_off {d : Nat} {h : eb_H} {Q : Option Value → eb_H → Prop} (x1 : Int32)  (ko : eb_KO h) (w : ∃ r1, eb_R h s_EB 2 = some r1 ∧ eb_kd r1 = 9 ∧ eb_Ct d 80 [.ref r1, .int x1] h (fun r h4 => ∃ y5, r = some (.int y5) ∧ eb_KO h4 ∧ ((y5 = 0 → Q (some (.int (-11))) h4) ∧ (¬ (y5 = 0) → eb_Ct d 139 [.ref s_EB, .int ((100 : Int32) + x1)] h4 (fun r h8 => ∃ y9, r = some (.int y9) ∧ eb_KO h8 ∧ Q (some (.int (if y9 = 0 then (-11) else eb_I h s_now 0 : Int32))) h8))))) : eb_Ct (d + 1) 104 [.ref s_EB, .int x1] h Q :=
  eb_bodyQ (by decide) ok_X10_off (Nat.le_of_ble_eq_true rfl) (b_X10_off_0 (h0 := h) x1  ko w)
