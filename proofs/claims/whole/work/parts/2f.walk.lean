theorem b_X10_judge_0 {d : Nat} {h0 h : eb_H} {Q : Option Value → eb_H → Prop} (x1 : Int32) (x2 : Int32)  (ko : eb_KO h) (w : (((x1 < 0) ∨ (¬ (x1 < (4 : Int32))) → Q (some (.int (-2))) h) ∧ (¬ ((x1 < 0) ∨ (¬ (x1 < (4 : Int32)))) → ((x2 < 0 → Q (some (.int (-2))) h) ∧ (¬ (x2 < 0) → ((x2 ≤ (3 : Int32) → (vp_in x1 4) ∧ ∃ r7, eb_R h s_trays x1.toNatClampNeg = some r7 ∧ (eb_kd r7 = 8) ∧ (((eb_I h r7 2) = 0 → eb_Ct d 60 [.ref s_trial, .ref s_now] h (fun r h11 => r = none ∧ eb_KO h11 ∧ eb_Ct d 140 [.ref s_EB, .ref r7, .ref s_trial] h11 (fun r h14 => ∃ y15, r = some (.int y15) ∧ eb_KO h14 ∧ ((x2 = 0 → Q (some (.int (if y15 = (eb_I h14 r7 3) then (-1) else y15 : Int32))) h14) ∧ (x2 = 1 → ((¬ (y15 = (eb_I h14 r7 3)) → ∃ r24, eb_R h14 s_EB 2 = some r24 ∧ eb_kd r24 = 9 ∧ ((y15 < 0 → eb_Ct d 91 [.ref r24, .ref s_trial, .long 0] h14 (fun r h33 => ∃ y34, r = some (.int y34) ∧ eb_KO h33 ∧ Q (some (.int y34)) h33)) ∧ (¬ (y15 < 0) → ∃ r28, eb_R h14 r7 0 = some r28 ∧ eb_kd r28 = 14 ∧ (((Int32.ofNat (eb_ln r28)) ≤ y15 → eb_Ct d 91 [.ref r24, .ref s_trial, .long 0] h14 (fun r h36 => ∃ y37, r = some (.int y37) ∧ eb_KO h36 ∧ Q (some (.int y37)) h36)) ∧ (¬ ((Int32.ofNat (eb_ln r28)) ≤ y15) → (vp_in y15 (eb_ln r28)) ∧ eb_Ct d 91 [.ref r24, .ref s_trial, .long (eb_J h14 r28 y15.toNatClampNeg)] h14 (fun r h39 => ∃ y40, r = some (.int y40) ∧ eb_KO h39 ∧ Q (some (.int y40)) h39)))))) ∧ (y15 = (eb_I h14 r7 3) → Q (some (.int 0)) h14))) ∧ (x2 = 2 → Q (some (.int (eb_I h14 s_trial 0))) h14) ∧ (¬ x2 = 0 → ¬ x2 = 1 → ¬ x2 = 2 → Q (some (.int (eb_I h14 s_trial 1))) h14))))) ∧ (¬ ((eb_I h r7 2) = 0) → Q (some (.int (-6))) h))) ∧ (¬ (x2 ≤ (3 : Int32)) → Q (some (.int (-2))) h))))))) : eb_Sn (d + 1) m_X10_judge h0 0 [(0, .ref s_EB), (1, .int x1), (2, .int x2)] [] h Q := by
  refine eb_iload_n (pc := 0) (n := 1) (i := 1) rfl rfl rfl ?_
  refine eb_joinI (pc2 := 4) (ls2 := [(0, .ref s_EB), (1, .int x1), (2, .int x2)]) (st2 := []) (v := eb_q ((x1 < 0) ∨ (¬ (x1 < (4 : Int32))))) ?_ (fun jj42 => ?_)
  · refine eb_if_ne (pc := 4) (tgt := 16) rfl (by decide) (fun c3 => ?_) (fun c3 => ?_)
    · replace c3 := eb_q1.mp c3
      replace w := w.1 c3
      refine eb_bipush (pc := 16) (n := -2) (v := (-2)) rfl rfl ?_
      exact eb_ireturn (pc := 18) rfl rfl rfl w
    · replace c3 := eb_q0.mp c3
      replace w := w.2 c3
      refine eb_iload_n (pc := 7) (n := 2) (i := 2) rfl rfl rfl ?_
      refine eb_if_lt (pc := 8) (tgt := 16) rfl (by decide) (fun c4 => ?_) (fun c4 => ?_)
      · replace w := w.1 c4
        refine eb_bipush (pc := 16) (n := -2) (v := (-2)) rfl rfl ?_
        exact eb_ireturn (pc := 18) rfl rfl rfl w
      · replace w := w.2 c4
        refine eb_iload_n (pc := 11) (n := 2) (i := 2) rfl rfl rfl ?_
        refine eb_iconst (pc := 12) (n := 3) (v := 3) rfl rfl ?_
        refine eb_icmp_le (pc := 13) (tgt := 19) rfl (by decide) (fun c5 => ?_) (fun c5 => ?_)
        · replace w := w.1 c5
          refine eb_aload_n (pc := 19) (n := 0) (i := 0) rfl rfl rfl ?_
          refine eb_getR (pc := 20) rfl rfl (by decide) (by decide) rfl (ko_s_EB_9 ko) ?_
          refine eb_iload_n (pc := 23) (n := 1) (i := 1) rfl rfl rfl ?_
          obtain ⟨c6, w⟩ := w
          obtain ⟨r7, q8, w⟩ := w
          refine eb_aaloadR (pc := 24) rfl rfl (by decide) (by decide) c6 q8 ?_
          refine eb_astore_n (pc := 25) (n := 3) (i := 3) (ls2 := [(3, .ref r7), (0, .ref s_EB), (1, .int x1), (2, .int x2)]) rfl (Nat.le_of_ble_eq_true rfl) rfl rfl ?_
          refine eb_aload_n (pc := 26) (n := 3) (i := 3) rfl rfl rfl ?_
          obtain ⟨k9, w⟩ := w
          refine eb_getI (pc := 27) rfl k9 (by decide) (by decide) rfl ?_
          refine eb_if_eq (pc := 30) (tgt := 36) rfl (by decide) (fun c10 => ?_) (fun c10 => ?_)
          · replace w := w.1 c10
            refine eb_aload_n (pc := 36) (n := 0) (i := 0) rfl rfl rfl ?_
            refine eb_getR (pc := 37) rfl rfl (by decide) (by decide) rfl (ko_s_EB_5 ko) ?_
            refine eb_aload_n (pc := 40) (n := 0) (i := 0) rfl rfl rfl ?_
            refine eb_getR (pc := 41) rfl rfl (by decide) (by decide) rfl (ko_s_EB_3 ko) ?_
            refine eb_ctV (pc := 44) (As := [.ref s_now]) (rest := []) rfl (by decide) rfl rfl (by decide) rfl (Nat.le_of_ble_eq_true rfl) ?_
            refine eb_Ct.mono w ?_
            rintro r h11 ⟨rfl, ko13, w⟩
            change eb_Sn _ _ _ 47 _ [] _ _
            refine eb_aload_n (pc := 47) (n := 0) (i := 0) rfl rfl rfl ?_
            refine eb_aload_n (pc := 48) (n := 3) (i := 3) rfl rfl rfl ?_
            refine eb_aload_n (pc := 49) (n := 0) (i := 0) rfl rfl rfl ?_
            refine eb_getR (pc := 50) rfl rfl (by decide) (by decide) rfl (ko_s_EB_5 ko13) ?_
            refine eb_ctV (pc := 53) (As := [.ref r7, .ref s_trial]) (rest := []) rfl (by decide) rfl rfl (by decide) rfl (Nat.le_of_ble_eq_true rfl) ?_
            refine eb_Ct.mono w ?_
            rintro r h14 ⟨y15, rfl, ko16, w⟩
            change eb_Sn _ _ _ 56 _ [.int y15] _ _
            refine eb_istore (pc := 56) (i := 4) (ls2 := [(4, .int y15), (3, .ref r7), (0, .ref s_EB), (1, .int x1), (2, .int x2)]) (Nat.le_of_ble_eq_true rfl) rfl rfl ?_
            refine eb_iload (pc := 58) (i := 4) rfl rfl ?_
            refine eb_aload_n (pc := 60) (n := 3) (i := 3) rfl rfl rfl ?_
            refine eb_getI (pc := 61) rfl k9 (by decide) (by decide) rfl ?_
            refine eb_joinI (pc2 := 72) (ls2 := [(4, .int y15), (3, .ref r7), (0, .ref s_EB), (1, .int x1), (2, .int x2)]) (st2 := []) (v := eb_q (y15 = (eb_I h14 r7 3))) ?_ (fun jj18 => ?_)
            · refine eb_istore (pc := 72) (i := 5) (ls2 := [(5, .int (eb_q (y15 = (eb_I h14 r7 3)))), (4, .int y15), (3, .ref r7), (0, .ref s_EB), (1, .int x1), (2, .int x2)]) (Nat.le_of_ble_eq_true rfl) rfl rfl ?_
              refine eb_iload_n (pc := 74) (n := 2) (i := 2) rfl rfl rfl ?_
              by_cases s0 : x2 = 0
              · refine eb_tableIn (pc := 75) (j := 0) (tgt := 100) (by rw [s0]; decide) (by decide) (by rfl) (by decide) rfl ?_
                replace w := w.1 s0
                refine eb_iload (pc := 100) (i := 5) rfl rfl ?_
                refine eb_joinI (pc2 := 111) (ls2 := [(5, .int (eb_q (y15 = (eb_I h14 r7 3)))), (4, .int y15), (3, .ref r7), (0, .ref s_EB), (1, .int x1), (2, .int x2)]) (st2 := []) (v := (if y15 = (eb_I h14 r7 3) then (-1) else y15 : Int32)) ?_ (fun jj21 => ?_)
                · exact eb_ireturn (pc := 111) rfl rfl rfl w
                refine eb_if_eq (pc := 102) (tgt := 109) rfl (by decide) (fun c20 => ?_) (fun c20 => ?_)
                · replace c20 := eb_q0.mp c20
                  refine eb_iload (pc := 109) (i := 4) rfl rfl ?_
                  exact jj21 _ (by simp only [if_neg c20])
                · replace c20 := eb_q1.mp c20
                  refine eb_iconst (pc := 105) (n := -1) (v := (-1)) rfl rfl ?_
                  refine eb_goto (pc := 106) (tgt := 111) rfl (by decide) ?_
                  exact jj21 _ (by simp only [if_pos c20])
              by_cases s1 : x2 = 1
              · refine eb_tableIn (pc := 75) (j := 1) (tgt := 112) (by rw [s1]; decide) (by decide) (by rfl) (by decide) rfl ?_
                replace w := w.2.1 s1
                refine eb_iload (pc := 112) (i := 5) rfl rfl ?_
                refine eb_if_eq (pc := 114) (tgt := 121) rfl (by decide) (fun c23 => ?_) (fun c23 => ?_)
                · replace c23 := eb_q0.mp c23
                  replace w := w.1 c23
                  refine eb_aload_n (pc := 121) (n := 0) (i := 0) rfl rfl rfl ?_
                  obtain ⟨r24, q25, k26, w⟩ := w
                  refine eb_getR (pc := 122) rfl rfl (by decide) (by decide) rfl q25 ?_
                  refine eb_aload_n (pc := 125) (n := 0) (i := 0) rfl rfl rfl ?_
                  refine eb_getR (pc := 126) rfl rfl (by decide) (by decide) rfl (ko_s_EB_5 ko16) ?_
                  refine eb_aload_n (pc := 129) (n := 3) (i := 3) rfl rfl rfl ?_
                  refine eb_iload (pc := 130) (i := 4) rfl rfl ?_
                  refine eb_ctV (pc := 132) (As := [.int y15]) (rest := [.ref s_trial, .ref r24]) rfl (by decide) rfl k9 (by decide) rfl (Nat.le_of_ble_eq_true rfl) ?_
                  refine eb_bodyQ (by decide) ok_X8_numberAt (Nat.le_of_ble_eq_true rfl) ?_
                  change eb_Sn _ m_X8_numberAt _ 0 [(0, .ref r7), (1, .int y15)] [] _ _
                  refine eb_iload_n (pc := 0) (n := 1) (i := 1) rfl rfl rfl ?_
                  refine eb_if_lt (pc := 1) (tgt := 22) rfl (by decide) (fun c27 => ?_) (fun c27 => ?_)
                  · replace w := w.1 c27
                    refine eb_lconst (pc := 22) (n := 0) (v := 0) rfl rfl ?_
                    refine eb_lreturn (pc := 23) rfl rfl ?_
                    change eb_Sn _ _ _ 135 _ [.long 0, .ref s_trial, .ref r24] _ _
                    refine eb_ctV (pc := 135) (As := [.ref s_trial, .long 0]) (rest := []) rfl (by decide) rfl k26 (by decide) rfl (Nat.le_of_ble_eq_true rfl) ?_
                    refine eb_Ct.mono w ?_
                    rintro r h33 ⟨y34, rfl, ko35, w⟩
                    change eb_Sn _ _ _ 138 _ [.int y34] _ _
                    exact eb_ireturn (pc := 138) rfl rfl rfl w
                  · replace w := w.2 c27
                    refine eb_iload_n (pc := 4) (n := 1) (i := 1) rfl rfl rfl ?_
                    refine eb_aload_n (pc := 5) (n := 0) (i := 0) rfl rfl rfl ?_
                    obtain ⟨r28, q29, k30, w⟩ := w
                    refine eb_getR (pc := 6) rfl k9 (by decide) (by decide) rfl q29 ?_
                    refine eb_alen (pc := 9) rfl (by rw [k30]; decide) (by rw [k30]; decide) rfl ?_
                    refine eb_icmp_ge (pc := 10) (tgt := 22) rfl (by decide) (fun c31 => ?_) (fun c31 => ?_)
                    · replace w := w.1 c31
                      refine eb_lconst (pc := 22) (n := 0) (v := 0) rfl rfl ?_
                      refine eb_lreturn (pc := 23) rfl rfl ?_
                      change eb_Sn _ _ _ 135 _ [.long 0, .ref s_trial, .ref r24] _ _
                      refine eb_ctV (pc := 135) (As := [.ref s_trial, .long 0]) (rest := []) rfl (by decide) rfl k26 (by decide) rfl (Nat.le_of_ble_eq_true rfl) ?_
                      refine eb_Ct.mono w ?_
                      rintro r h36 ⟨y37, rfl, ko38, w⟩
                      change eb_Sn _ _ _ 138 _ [.int y37] _ _
                      exact eb_ireturn (pc := 138) rfl rfl rfl w
                    · replace w := w.2 c31
                      refine eb_aload_n (pc := 13) (n := 0) (i := 0) rfl rfl rfl ?_
                      refine eb_getR (pc := 14) rfl k9 (by decide) (by decide) rfl q29 ?_
                      refine eb_iload_n (pc := 17) (n := 1) (i := 1) rfl rfl rfl ?_
                      obtain ⟨c32, w⟩ := w
                      refine eb_laload (pc := 18) rfl k30 c32 ?_
                      refine eb_goto (pc := 19) (tgt := 23) rfl (by decide) ?_
                      refine eb_lreturn (pc := 23) rfl rfl ?_
                      change eb_Sn _ _ _ 135 _ [.long (eb_J h14 r28 y15.toNatClampNeg), .ref s_trial, .ref r24] _ _
                      refine eb_ctV (pc := 135) (As := [.ref s_trial, .long (eb_J h14 r28 y15.toNatClampNeg)]) (rest := []) rfl (by decide) rfl k26 (by decide) rfl (Nat.le_of_ble_eq_true rfl) ?_
                      refine eb_Ct.mono w ?_
                      rintro r h39 ⟨y40, rfl, ko41, w⟩
                      change eb_Sn _ _ _ 138 _ [.int y40] _ _
                      exact eb_ireturn (pc := 138) rfl rfl rfl w
                · replace c23 := eb_q1.mp c23
                  replace w := w.2 c23
                  refine eb_iconst (pc := 117) (n := 0) (v := 0) rfl rfl ?_
                  refine eb_goto (pc := 118) (tgt := 138) rfl (by decide) ?_
                  exact eb_ireturn (pc := 138) rfl rfl rfl w
              by_cases s2 : x2 = 2
              · refine eb_tableIn (pc := 75) (j := 2) (tgt := 139) (by rw [s2]; decide) (by decide) (by rfl) (by decide) rfl ?_
                replace w := w.2.2.1 s2
                refine eb_aload_n (pc := 139) (n := 0) (i := 0) rfl rfl rfl ?_
                refine eb_getR (pc := 140) rfl rfl (by decide) (by decide) rfl (ko_s_EB_5 ko16) ?_
                refine eb_getI (pc := 143) rfl rfl (by decide) (by decide) rfl ?_
                exact eb_ireturn (pc := 146) rfl rfl rfl w
              refine eb_tableOut (pc := 75) (tgt := 147) (by have z0 := lv_neT (a := 0) s0 (by decide); have z1 := lv_neT (a := 1) s1 (by decide); have z2 := lv_neT (a := 2) s2 (by decide); omega) (by decide) rfl ?_
              replace w := w.2.2.2 s0 s1 s2
              refine eb_aload_n (pc := 147) (n := 0) (i := 0) rfl rfl rfl ?_
              refine eb_getR (pc := 148) rfl rfl (by decide) (by decide) rfl (ko_s_EB_5 ko16) ?_
              refine eb_getI (pc := 151) rfl rfl (by decide) (by decide) rfl ?_
              exact eb_ireturn (pc := 154) rfl rfl rfl w
            refine eb_icmp_ne (pc := 64) (tgt := 71) rfl (by decide) (fun c17 => ?_) (fun c17 => ?_)
            · refine eb_iconst (pc := 71) (n := 0) (v := 0) rfl rfl ?_
              exact jj18 0 (eb_qf c17).symm
            · refine eb_iconst (pc := 67) (n := 1) (v := 1) rfl rfl ?_
              refine eb_goto (pc := 68) (tgt := 72) rfl (by decide) ?_
              exact jj18 1 (eb_qt c17).symm
          · replace w := w.2 c10
            refine eb_bipush (pc := 33) (n := -6) (v := (-6)) rfl rfl ?_
            exact eb_ireturn (pc := 35) rfl rfl rfl w
        · replace w := w.2 c5
          refine eb_bipush (pc := 16) (n := -2) (v := (-2)) rfl rfl ?_
          exact eb_ireturn (pc := 18) rfl rfl rfl w
  refine eb_ctS (pc := 1) (As := [.int x1]) (rest := []) rfl (by decide) (by decide) rfl rfl (Nat.le_of_ble_eq_true rfl) ?_
  refine eb_bodyQ (by decide) ok_X10_noTray (Nat.le_of_ble_eq_true rfl) ?_
  change eb_Sn _ m_X10_noTray _ 0 [(0, .int x1)] [] _ _
  refine eb_iload_n (pc := 0) (n := 0) (i := 0) rfl rfl rfl ?_
  refine eb_if_lt (pc := 1) (tgt := 9) rfl (by decide) (fun c1 => ?_) (fun c1 => ?_)
  · refine eb_iconst (pc := 9) (n := 1) (v := 1) rfl rfl ?_
    refine eb_goto (pc := 10) (tgt := 14) rfl (by decide) ?_
    refine eb_ireturn (pc := 14) rfl rfl (by decide) ?_
    change eb_Sn _ _ _ 4 _ _ _ _
    exact jj42 1 (eb_qt (Or.inl c1)).symm
  · refine eb_iload_n (pc := 4) (n := 0) (i := 0) rfl rfl rfl ?_
    refine eb_iconst (pc := 5) (n := 4) (v := 4) rfl rfl ?_
    refine eb_icmp_lt (pc := 6) (tgt := 13) rfl (by decide) (fun c2 => ?_) (fun c2 => ?_)
    · refine eb_iconst (pc := 13) (n := 0) (v := 0) rfl rfl ?_
      refine eb_ireturn (pc := 14) rfl rfl (by decide) ?_
      change eb_Sn _ _ _ 4 _ _ _ _
      exact jj42 0 (eb_qf (fun z => z.elim c1 (fun z => z c2))).symm
    · refine eb_iconst (pc := 9) (n := 1) (v := 1) rfl rfl ?_
      refine eb_goto (pc := 10) (tgt := 14) rfl (by decide) ?_
      refine eb_ireturn (pc := 14) rfl rfl (by decide) ?_
      change eb_Sn _ _ _ 4 _ _ _ _
      exact jj42 1 (eb_qt (Or.inr c2)).symm
theorem T_X10_judge {d : Nat} {h : eb_H} {Q : Option Value → eb_H → Prop} (x1 : Int32) (x2 : Int32)  (ko : eb_KO h) (w : (((x1 < 0) ∨ (¬ (x1 < (4 : Int32))) → Q (some (.int (-2))) h) ∧ (¬ ((x1 < 0) ∨ (¬ (x1 < (4 : Int32)))) → ((x2 < 0 → Q (some (.int (-2))) h) ∧ (¬ (x2 < 0) → ((x2 ≤ (3 : Int32) → (vp_in x1 4) ∧ ∃ r7, eb_R h s_trays x1.toNatClampNeg = some r7 ∧ (eb_kd r7 = 8) ∧ (((eb_I h r7 2) = 0 → eb_Ct d 60 [.ref s_trial, .ref s_now] h (fun r h11 => r = none ∧ eb_KO h11 ∧ eb_Ct d 140 [.ref s_EB, .ref r7, .ref s_trial] h11 (fun r h14 => ∃ y15, r = some (.int y15) ∧ eb_KO h14 ∧ ((x2 = 0 → Q (some (.int (if y15 = (eb_I h14 r7 3) then (-1) else y15 : Int32))) h14) ∧ (x2 = 1 → ((¬ (y15 = (eb_I h14 r7 3)) → ∃ r24, eb_R h14 s_EB 2 = some r24 ∧ eb_kd r24 = 9 ∧ ((y15 < 0 → eb_Ct d 91 [.ref r24, .ref s_trial, .long 0] h14 (fun r h33 => ∃ y34, r = some (.int y34) ∧ eb_KO h33 ∧ Q (some (.int y34)) h33)) ∧ (¬ (y15 < 0) → ∃ r28, eb_R h14 r7 0 = some r28 ∧ eb_kd r28 = 14 ∧ (((Int32.ofNat (eb_ln r28)) ≤ y15 → eb_Ct d 91 [.ref r24, .ref s_trial, .long 0] h14 (fun r h36 => ∃ y37, r = some (.int y37) ∧ eb_KO h36 ∧ Q (some (.int y37)) h36)) ∧ (¬ ((Int32.ofNat (eb_ln r28)) ≤ y15) → (vp_in y15 (eb_ln r28)) ∧ eb_Ct d 91 [.ref r24, .ref s_trial, .long (eb_J h14 r28 y15.toNatClampNeg)] h14 (fun r h39 => ∃ y40, r = some (.int y40) ∧ eb_KO h39 ∧ Q (some (.int y40)) h39)))))) ∧ (y15 = (eb_I h14 r7 3) → Q (some (.int 0)) h14))) ∧ (x2 = 2 → Q (some (.int (eb_I h14 s_trial 0))) h14) ∧ (¬ x2 = 0 → ¬ x2 = 1 → ¬ x2 = 2 → Q (some (.int (eb_I h14 s_trial 1))) h14))))) ∧ (¬ ((eb_I h r7 2) = 0) → Q (some (.int (-6))) h))) ∧ (¬ (x2 ≤ (3 : Int32)) → Q (some (.int (-2))) h))))))) : eb_Ct (d + 1) 109 [.ref s_EB, .int x1, .int x2] h Q :=
  eb_bodyQ (by decide) ok_X10_judge (Nat.le_of_ble_eq_true rfl) (b_X10_judge_0 (h0 := h) x1 x2  ko w)
theorem b_X10_perform_0 {d : Nat} {h0 h : eb_H} {Q : Option Value → eb_H → Prop} (x1 : Int32)  (ko : eb_KO h) (w : ((¬ ((x1 < 0) ∨ (¬ (x1 < (4 : Int32)))) → (vp_in x1 4) ∧ ∃ r5, eb_R h s_trays x1.toNatClampNeg = some r5 ∧ (eb_kd r5 = 8) ∧ (((eb_I h r5 2) = 0 → eb_Ct d 60 [.ref s_before, .ref s_now] h (fun r h9 => r = none ∧ eb_KO h9 ∧ (vp_in x1 4) ∧ ∃ r13, eb_R h9 s_trays x1.toNatClampNeg = some r13 ∧ eb_Ct d 140 [.ref s_EB, .ref r13, .ref s_now] h9 (fun r h15 => ∃ y16, r = some (.int y16) ∧ eb_KO h15 ∧ ((y16 ≤ 0 → Q (some (.int y16)) h15) ∧ (¬ (y16 ≤ 0) → eb_Ct d 42 [.ref s_past, .ref s_before] h15 (fun r h19 => r = none ∧ eb_KO h19 ∧ Q (some (.int y16)) h19)))))) ∧ (¬ ((eb_I h r5 2) = 0) → Q (some (.int (-6))) h))) ∧ ((x1 < 0) ∨ (¬ (x1 < (4 : Int32))) → Q (some (.int (-2))) h))) : eb_Sn (d + 1) m_X10_perform h0 0 [(0, .ref s_EB), (1, .int x1)] [] h Q := by
  refine eb_iload_n (pc := 0) (n := 1) (i := 1) rfl rfl rfl ?_
  refine eb_joinI (pc2 := 4) (ls2 := [(0, .ref s_EB), (1, .int x1)]) (st2 := []) (v := eb_q ((x1 < 0) ∨ (¬ (x1 < (4 : Int32))))) ?_ (fun jj22 => ?_)
  · refine eb_if_eq (pc := 4) (tgt := 10) rfl (by decide) (fun c3 => ?_) (fun c3 => ?_)
    · replace c3 := eb_q0.mp c3
      replace w := w.1 c3
      refine eb_aload_n (pc := 10) (n := 0) (i := 0) rfl rfl rfl ?_
      refine eb_getR (pc := 11) rfl rfl (by decide) (by decide) rfl (ko_s_EB_9 ko) ?_
      refine eb_iload_n (pc := 14) (n := 1) (i := 1) rfl rfl rfl ?_
      obtain ⟨c4, w⟩ := w
      obtain ⟨r5, q6, w⟩ := w
      refine eb_aaloadR (pc := 15) rfl rfl (by decide) (by decide) c4 q6 ?_
      obtain ⟨k7, w⟩ := w
      refine eb_getI (pc := 16) rfl k7 (by decide) (by decide) rfl ?_
      refine eb_if_eq (pc := 19) (tgt := 25) rfl (by decide) (fun c8 => ?_) (fun c8 => ?_)
      · replace w := w.1 c8
        refine eb_aload_n (pc := 25) (n := 0) (i := 0) rfl rfl rfl ?_
        refine eb_getR (pc := 26) rfl rfl (by decide) (by decide) rfl (ko_s_EB_4 ko) ?_
        refine eb_aload_n (pc := 29) (n := 0) (i := 0) rfl rfl rfl ?_
        refine eb_getR (pc := 30) rfl rfl (by decide) (by decide) rfl (ko_s_EB_3 ko) ?_
        refine eb_ctV (pc := 33) (As := [.ref s_now]) (rest := []) rfl (by decide) rfl rfl (by decide) rfl (Nat.le_of_ble_eq_true rfl) ?_
        refine eb_Ct.mono w ?_
        rintro r h9 ⟨rfl, ko11, w⟩
        change eb_Sn _ _ _ 36 _ [] _ _
        refine eb_aload_n (pc := 36) (n := 0) (i := 0) rfl rfl rfl ?_
        refine eb_aload_n (pc := 37) (n := 0) (i := 0) rfl rfl rfl ?_
        refine eb_getR (pc := 38) rfl rfl (by decide) (by decide) rfl (ko_s_EB_9 ko11) ?_
        refine eb_iload_n (pc := 41) (n := 1) (i := 1) rfl rfl rfl ?_
        obtain ⟨c12, w⟩ := w
        obtain ⟨r13, q14, w⟩ := w
        refine eb_aaloadR (pc := 42) rfl rfl (by decide) (by decide) c12 q14 ?_
        refine eb_aload_n (pc := 43) (n := 0) (i := 0) rfl rfl rfl ?_
        refine eb_getR (pc := 44) rfl rfl (by decide) (by decide) rfl (ko_s_EB_3 ko11) ?_
        refine eb_ctV (pc := 47) (As := [.ref r13, .ref s_now]) (rest := []) rfl (by decide) rfl rfl (by decide) rfl (Nat.le_of_ble_eq_true rfl) ?_
        refine eb_Ct.mono w ?_
        rintro r h15 ⟨y16, rfl, ko17, w⟩
        change eb_Sn _ _ _ 50 _ [.int y16] _ _
        refine eb_istore_n (pc := 50) (n := 2) (i := 2) (ls2 := [(2, .int y16), (0, .ref s_EB), (1, .int x1)]) rfl (Nat.le_of_ble_eq_true rfl) rfl rfl ?_
        refine eb_iload_n (pc := 51) (n := 2) (i := 2) rfl rfl rfl ?_
        refine eb_if_le (pc := 52) (tgt := 66) rfl (by decide) (fun c18 => ?_) (fun c18 => ?_)
        · replace w := w.1 c18
          refine eb_iload_n (pc := 66) (n := 2) (i := 2) rfl rfl rfl ?_
          exact eb_ireturn (pc := 67) rfl rfl rfl w
        · replace w := w.2 c18
          refine eb_aload_n (pc := 55) (n := 0) (i := 0) rfl rfl rfl ?_
          refine eb_getR (pc := 56) rfl rfl (by decide) (by decide) rfl (ko_s_EB_6 ko17) ?_
          refine eb_aload_n (pc := 59) (n := 0) (i := 0) rfl rfl rfl ?_
          refine eb_getR (pc := 60) rfl rfl (by decide) (by decide) rfl (ko_s_EB_4 ko17) ?_
          refine eb_ctV (pc := 63) (As := [.ref s_before]) (rest := []) rfl (by decide) rfl rfl (by decide) rfl (Nat.le_of_ble_eq_true rfl) ?_
          refine eb_Ct.mono w ?_
          rintro r h19 ⟨rfl, ko21, w⟩
          change eb_Sn _ _ _ 66 _ [] _ _
          refine eb_iload_n (pc := 66) (n := 2) (i := 2) rfl rfl rfl ?_
          exact eb_ireturn (pc := 67) rfl rfl rfl w
      · replace w := w.2 c8
        refine eb_bipush (pc := 22) (n := -6) (v := (-6)) rfl rfl ?_
        exact eb_ireturn (pc := 24) rfl rfl rfl w
    · replace c3 := eb_q1.mp c3
      replace w := w.2 c3
      refine eb_bipush (pc := 7) (n := -2) (v := (-2)) rfl rfl ?_
      exact eb_ireturn (pc := 9) rfl rfl rfl w
  refine eb_ctS (pc := 1) (As := [.int x1]) (rest := []) rfl (by decide) (by decide) rfl rfl (Nat.le_of_ble_eq_true rfl) ?_
  refine eb_bodyQ (by decide) ok_X10_noTray (Nat.le_of_ble_eq_true rfl) ?_
  change eb_Sn _ m_X10_noTray _ 0 [(0, .int x1)] [] _ _
  refine eb_iload_n (pc := 0) (n := 0) (i := 0) rfl rfl rfl ?_
  refine eb_if_lt (pc := 1) (tgt := 9) rfl (by decide) (fun c1 => ?_) (fun c1 => ?_)
  · refine eb_iconst (pc := 9) (n := 1) (v := 1) rfl rfl ?_
    refine eb_goto (pc := 10) (tgt := 14) rfl (by decide) ?_
    refine eb_ireturn (pc := 14) rfl rfl (by decide) ?_
    change eb_Sn _ _ _ 4 _ _ _ _
    exact jj22 1 (eb_qt (Or.inl c1)).symm
  · refine eb_iload_n (pc := 4) (n := 0) (i := 0) rfl rfl rfl ?_
    refine eb_iconst (pc := 5) (n := 4) (v := 4) rfl rfl ?_
    refine eb_icmp_lt (pc := 6) (tgt := 13) rfl (by decide) (fun c2 => ?_) (fun c2 => ?_)
    · refine eb_iconst (pc := 13) (n := 0) (v := 0) rfl rfl ?_
      refine eb_ireturn (pc := 14) rfl rfl (by decide) ?_
      change eb_Sn _ _ _ 4 _ _ _ _
      exact jj22 0 (eb_qf (fun z => z.elim c1 (fun z => z c2))).symm
    · refine eb_iconst (pc := 9) (n := 1) (v := 1) rfl rfl ?_
      refine eb_goto (pc := 10) (tgt := 14) rfl (by decide) ?_
      refine eb_ireturn (pc := 14) rfl rfl (by decide) ?_
      change eb_Sn _ _ _ 4 _ _ _ _
      exact jj22 1 (eb_qt (Or.inr c2)).symm
theorem T_X10_perform {d : Nat} {h : eb_H} {Q : Option Value → eb_H → Prop} (x1 : Int32)  (ko : eb_KO h) (w : ((¬ ((x1 < 0) ∨ (¬ (x1 < (4 : Int32)))) → (vp_in x1 4) ∧ ∃ r5, eb_R h s_trays x1.toNatClampNeg = some r5 ∧ (eb_kd r5 = 8) ∧ (((eb_I h r5 2) = 0 → eb_Ct d 60 [.ref s_before, .ref s_now] h (fun r h9 => r = none ∧ eb_KO h9 ∧ (vp_in x1 4) ∧ ∃ r13, eb_R h9 s_trays x1.toNatClampNeg = some r13 ∧ eb_Ct d 140 [.ref s_EB, .ref r13, .ref s_now] h9 (fun r h15 => ∃ y16, r = some (.int y16) ∧ eb_KO h15 ∧ ((y16 ≤ 0 → Q (some (.int y16)) h15) ∧ (¬ (y16 ≤ 0) → eb_Ct d 42 [.ref s_past, .ref s_before] h15 (fun r h19 => r = none ∧ eb_KO h19 ∧ Q (some (.int y16)) h19)))))) ∧ (¬ ((eb_I h r5 2) = 0) → Q (some (.int (-6))) h))) ∧ ((x1 < 0) ∨ (¬ (x1 < (4 : Int32))) → Q (some (.int (-2))) h))) : eb_Ct (d + 1) 110 [.ref s_EB, .int x1] h Q :=
  eb_bodyQ (by decide) ok_X10_perform (Nat.le_of_ble_eq_true rfl) (b_X10_perform_0 (h0 := h) x1  ko w)
theorem b_X10_night_0 {d : Nat} {h0 h : eb_H} {Q : Option Value → eb_H → Prop} (x1 : Int32) (x2 : Int32)  (ko : eb_KO h) (w : ((x2 < (1 : Int32) → Q (some (.int (-3))) h) ∧ (¬ (x2 < (1 : Int32)) → ((x2 ≤ (40 : Int32) → eb_Ct d 60 [.ref s_before, .ref s_now] h (fun r h3 => r = none ∧ eb_KO h3 ∧ eb_Sn (d + 1) m_X10_night h0 38 [(0, .ref s_EB), (2, .int x2), (3, .int 0), (4, .int 0)] [] (eb_sI h3 s_draws 0 x1) Q)) ∧ (¬ (x2 ≤ (40 : Int32)) → Q (some (.int (-3))) h))))) : eb_Sn (d + 1) m_X10_night h0 0 [(0, .ref s_EB), (1, .int x1), (2, .int x2)] [] h Q := by
  refine eb_iload_n (pc := 0) (n := 2) (i := 2) rfl rfl rfl ?_
  refine eb_iconst (pc := 1) (n := 1) (v := 1) rfl rfl ?_
  refine eb_icmp_lt (pc := 2) (tgt := 11) rfl (by decide) (fun c1 => ?_) (fun c1 => ?_)
  · replace w := w.1 c1
    refine eb_bipush (pc := 11) (n := -3) (v := (-3)) rfl rfl ?_
    exact eb_ireturn (pc := 13) rfl rfl rfl w
  · replace w := w.2 c1
    refine eb_iload_n (pc := 5) (n := 2) (i := 2) rfl rfl rfl ?_
    refine eb_bipush (pc := 6) (n := 40) (v := 40) rfl rfl ?_
    refine eb_icmp_le (pc := 8) (tgt := 14) rfl (by decide) (fun c2 => ?_) (fun c2 => ?_)
    · replace w := w.1 c2
      refine eb_aload_n (pc := 14) (n := 0) (i := 0) rfl rfl rfl ?_
      refine eb_getR (pc := 15) rfl rfl (by decide) (by decide) rfl (ko_s_EB_4 ko) ?_
      refine eb_aload_n (pc := 18) (n := 0) (i := 0) rfl rfl rfl ?_
      refine eb_getR (pc := 19) rfl rfl (by decide) (by decide) rfl (ko_s_EB_3 ko) ?_
      refine eb_ctV (pc := 22) (As := [.ref s_now]) (rest := []) rfl (by decide) rfl rfl (by decide) rfl (Nat.le_of_ble_eq_true rfl) ?_
      refine eb_Ct.mono w ?_
      rintro r h3 ⟨rfl, ko5, w⟩
      change eb_Sn _ _ _ 25 _ [] _ _
      refine eb_aload_n (pc := 25) (n := 0) (i := 0) rfl rfl rfl ?_
      refine eb_getR (pc := 26) rfl rfl (by decide) (by decide) rfl (ko_s_EB_8 ko5) ?_
      refine eb_iload_n (pc := 29) (n := 1) (i := 1) rfl rfl rfl ?_
      refine eb_putI (pc := 30) rfl rfl (by decide) (by decide) rfl rfl ⟨rfl, rfl⟩ ?_
      refine eb_iconst (pc := 33) (n := 0) (v := 0) rfl rfl ?_
      refine eb_istore_n (pc := 34) (n := 3) (i := 3) (ls2 := [(3, .int 0), (0, .ref s_EB), (1, .int x1), (2, .int x2)]) rfl (Nat.le_of_ble_eq_true rfl) rfl rfl ?_
      refine eb_iconst (pc := 35) (n := 0) (v := 0) rfl rfl ?_
      refine eb_istore (pc := 36) (i := 4) (ls2 := [(4, .int 0), (3, .int 0), (0, .ref s_EB), (1, .int x1), (2, .int x2)]) (Nat.le_of_ble_eq_true rfl) rfl rfl ?_
      exact eb_pick [2, 4, 1, 0] rfl w
    · replace w := w.2 c2
      refine eb_bipush (pc := 11) (n := -3) (v := (-3)) rfl rfl ?_
      exact eb_ireturn (pc := 13) rfl rfl rfl w
theorem b_X10_night_38 {d : Nat} {h0 h : eb_H} {Q : Option Value → eb_H → Prop} (x2 : Int32) (x3 : Int32) (x4 : Int32)  (ko : eb_KO h) (w : ((x2 ≤ x4 → ((x3 ≤ 0 → Q (some (.int x3)) h) ∧ (¬ (x3 ≤ 0) → eb_Ct d 42 [.ref s_past, .ref s_before] h (fun r h3 => r = none ∧ eb_KO h3 ∧ Q (some (.int x3)) h3)))) ∧ (¬ (x2 ≤ x4) → ∃ r6, eb_R h s_EB 2 = some r6 ∧ eb_kd r6 = 9 ∧ eb_Ct d 1 [.ref s_draws] h (fun r h9 => ∃ y10, r = some (.int y10) ∧ eb_KO h9 ∧ eb_Ct d 91 [.ref r6, .ref s_now, .long y10.toInt64] h9 (fun r h12 => ∃ y13, r = some (.int y13) ∧ eb_KO h12 ∧ ((¬ y13 = 0 → eb_Sn (d + 1) m_X10_night h0 38 [(0, .ref s_EB), (2, .int x2), (3, .int x3), (4, .int (x4 + 1))] [] h12 Q) ∧ (y13 = 0 → eb_Sn (d + 1) m_X10_night h0 38 [(0, .ref s_EB), (2, .int x2), (3, .int (x3 + 1)), (4, .int (x4 + 1))] [] h12 Q))))))) : eb_Sn (d + 1) m_X10_night h0 38 [(0, .ref s_EB), (2, .int x2), (3, .int x3), (4, .int x4)] [] h Q := by
  refine eb_iload (pc := 38) (i := 4) rfl rfl ?_
  refine eb_iload_n (pc := 40) (n := 2) (i := 2) rfl rfl rfl ?_
  refine eb_icmp_ge (pc := 41) (tgt := 75) rfl (by decide) (fun c1 => ?_) (fun c1 => ?_)
  · replace w := w.1 c1
    refine eb_iload_n (pc := 75) (n := 3) (i := 3) rfl rfl rfl ?_
    refine eb_if_le (pc := 76) (tgt := 90) rfl (by decide) (fun c2 => ?_) (fun c2 => ?_)
    · replace w := w.1 c2
      refine eb_iload_n (pc := 90) (n := 3) (i := 3) rfl rfl rfl ?_
      exact eb_ireturn (pc := 91) rfl rfl rfl w
    · replace w := w.2 c2
      refine eb_aload_n (pc := 79) (n := 0) (i := 0) rfl rfl rfl ?_
      refine eb_getR (pc := 80) rfl rfl (by decide) (by decide) rfl (ko_s_EB_6 ko) ?_
      refine eb_aload_n (pc := 83) (n := 0) (i := 0) rfl rfl rfl ?_
      refine eb_getR (pc := 84) rfl rfl (by decide) (by decide) rfl (ko_s_EB_4 ko) ?_
      refine eb_ctV (pc := 87) (As := [.ref s_before]) (rest := []) rfl (by decide) rfl rfl (by decide) rfl (Nat.le_of_ble_eq_true rfl) ?_
      refine eb_Ct.mono w ?_
      rintro r h3 ⟨rfl, ko5, w⟩
      change eb_Sn _ _ _ 90 _ [] _ _
      refine eb_iload_n (pc := 90) (n := 3) (i := 3) rfl rfl rfl ?_
      exact eb_ireturn (pc := 91) rfl rfl rfl w
  · replace w := w.2 c1
    refine eb_aload_n (pc := 44) (n := 0) (i := 0) rfl rfl rfl ?_
    obtain ⟨r6, q7, k8, w⟩ := w
    refine eb_getR (pc := 45) rfl rfl (by decide) (by decide) rfl q7 ?_
    refine eb_aload_n (pc := 48) (n := 0) (i := 0) rfl rfl rfl ?_
    refine eb_getR (pc := 49) rfl rfl (by decide) (by decide) rfl (ko_s_EB_3 ko) ?_
    refine eb_aload_n (pc := 52) (n := 0) (i := 0) rfl rfl rfl ?_
    refine eb_getR (pc := 53) rfl rfl (by decide) (by decide) rfl (ko_s_EB_8 ko) ?_
    refine eb_ctV (pc := 56) (As := []) (rest := [.ref s_now, .ref r6]) rfl (by decide) rfl rfl (by decide) rfl (Nat.le_of_ble_eq_true rfl) ?_
    refine eb_Ct.mono w ?_
    rintro r h9 ⟨y10, rfl, ko11, w⟩
    change eb_Sn _ _ _ 59 _ [.int y10, .ref s_now, .ref r6] _ _
    refine eb_i2l (pc := 59) rfl ?_
    refine eb_ctV (pc := 60) (As := [.ref s_now, .long y10.toInt64]) (rest := []) rfl (by decide) rfl k8 (by decide) rfl (Nat.le_of_ble_eq_true rfl) ?_
    refine eb_Ct.mono w ?_
    rintro r h12 ⟨y13, rfl, ko14, w⟩
    change eb_Sn _ _ _ 63 _ [.int y13] _ _
    refine eb_if_ne (pc := 63) (tgt := 69) rfl (by decide) (fun c15 => ?_) (fun c15 => ?_)
    · replace w := w.1 c15
      refine eb_iinc (pc := 69) (i := 4) (n := 1) (v := x4 + 1) (ls2 := [(4, .int (x4 + 1)), (0, .ref s_EB), (2, .int x2), (3, .int x3)]) (Nat.le_of_ble_eq_true rfl) rfl rfl rfl rfl ?_
      refine eb_goto (pc := 72) (tgt := 38) rfl (by decide) ?_
      exact eb_pick [1, 2, 3, 0] rfl w
    · replace w := w.2 c15
      refine eb_iinc (pc := 66) (i := 3) (n := 1) (v := x3 + 1) (ls2 := [(3, .int (x3 + 1)), (0, .ref s_EB), (2, .int x2), (4, .int x4)]) (Nat.le_of_ble_eq_true rfl) rfl rfl rfl rfl ?_
      refine eb_iinc (pc := 69) (i := 4) (n := 1) (v := x4 + 1) (ls2 := [(4, .int (x4 + 1)), (3, .int (x3 + 1)), (0, .ref s_EB), (2, .int x2)]) (Nat.le_of_ble_eq_true rfl) rfl rfl rfl rfl ?_
      refine eb_goto (pc := 72) (tgt := 38) rfl (by decide) ?_
      exact eb_pick [2, 3, 1, 0] rfl w
theorem T_X10_night {d : Nat} {h : eb_H} {Q : Option Value → eb_H → Prop} (x1 : Int32) (x2 : Int32)  (ko : eb_KO h) (w : ((x2 < (1 : Int32) → Q (some (.int (-3))) h) ∧ (¬ (x2 < (1 : Int32)) → ((x2 ≤ (40 : Int32) → eb_Ct d 60 [.ref s_before, .ref s_now] h (fun r h3 => r = none ∧ eb_KO h3 ∧ eb_Sn (d + 1) m_X10_night h 38 [(0, .ref s_EB), (2, .int x2), (3, .int 0), (4, .int 0)] [] (eb_sI h3 s_draws 0 x1) Q)) ∧ (¬ (x2 ≤ (40 : Int32)) → Q (some (.int (-3))) h))))) : eb_Ct (d + 1) 111 [.ref s_EB, .int x1, .int x2] h Q :=
  eb_bodyQ (by decide) ok_X10_night (Nat.le_of_ble_eq_true rfl) (b_X10_night_0 (h0 := h) x1 x2  ko w)
theorem b_X10_soonest_0 {d : Nat} {h0 h : eb_H} {Q : Option Value → eb_H → Prop} (x1 : Int32) (x2 : Int32) (x3 : Int32)  (ko : eb_KO h) (w : eb_Ct d 145 [.ref s_EB, .int x1, .int x2, .int x3] h (fun r h1 => ∃ y2, r = some (.int y2) ∧ eb_KO h1 ∧ ((y2 = 0 → ∃ r5, eb_R h1 s_EB 2 = some r5 ∧ eb_kd r5 = 9 ∧ eb_Ct d 8 [.ref s_flights, .ref r5, .ref s_now] h1 (fun r h8 => r = none ∧ eb_KO h8 ∧ eb_Ct d 12 [.ref s_flights, .int x1, .int x2, .int x3] h8 (fun r h11 => ∃ y12, r = some (.int y12) ∧ eb_KO h11 ∧ Q (some (.int y12)) h11))) ∧ (¬ (y2 = 0) → Q (some (.int y2)) h1)))) : eb_Sn (d + 1) m_X10_soonest h0 0 [(0, .ref s_EB), (1, .int x1), (2, .int x2), (3, .int x3)] [] h Q := by
  refine eb_aload_n (pc := 0) (n := 0) (i := 0) rfl rfl rfl ?_
  refine eb_iload_n (pc := 1) (n := 1) (i := 1) rfl rfl rfl ?_
  refine eb_iload_n (pc := 2) (n := 2) (i := 2) rfl rfl rfl ?_
  refine eb_iload_n (pc := 3) (n := 3) (i := 3) rfl rfl rfl ?_
  refine eb_ctV (pc := 4) (As := [.int x1, .int x2, .int x3]) (rest := []) rfl (by decide) rfl rfl (by decide) rfl (Nat.le_of_ble_eq_true rfl) ?_
  refine eb_Ct.mono w ?_
  rintro r h1 ⟨y2, rfl, ko3, w⟩
  change eb_Sn _ _ _ 7 _ [.int y2] _ _
  refine eb_istore (pc := 7) (i := 4) (ls2 := [(4, .int y2), (0, .ref s_EB), (1, .int x1), (2, .int x2), (3, .int x3)]) (Nat.le_of_ble_eq_true rfl) rfl rfl ?_
  refine eb_iload (pc := 9) (i := 4) rfl rfl ?_
  refine eb_if_eq (pc := 11) (tgt := 17) rfl (by decide) (fun c4 => ?_) (fun c4 => ?_)
  · replace w := w.1 c4
    refine eb_aload_n (pc := 17) (n := 0) (i := 0) rfl rfl rfl ?_
    refine eb_getR (pc := 18) rfl rfl (by decide) (by decide) rfl (ko_s_EB_7 ko3) ?_
    refine eb_aload_n (pc := 21) (n := 0) (i := 0) rfl rfl rfl ?_
    obtain ⟨r5, q6, k7, w⟩ := w
    refine eb_getR (pc := 22) rfl rfl (by decide) (by decide) rfl q6 ?_
    refine eb_aload_n (pc := 25) (n := 0) (i := 0) rfl rfl rfl ?_
    refine eb_getR (pc := 26) rfl rfl (by decide) (by decide) rfl (ko_s_EB_3 ko3) ?_
    refine eb_ctV (pc := 29) (As := [.ref r5, .ref s_now]) (rest := []) rfl (by decide) rfl rfl (by decide) rfl (Nat.le_of_ble_eq_true rfl) ?_
    refine eb_Ct.mono w ?_
    rintro r h8 ⟨rfl, ko10, w⟩
    change eb_Sn _ _ _ 32 _ [] _ _
    refine eb_aload_n (pc := 32) (n := 0) (i := 0) rfl rfl rfl ?_
    refine eb_getR (pc := 33) rfl rfl (by decide) (by decide) rfl (ko_s_EB_7 ko10) ?_
    refine eb_iload_n (pc := 36) (n := 1) (i := 1) rfl rfl rfl ?_
    refine eb_iload_n (pc := 37) (n := 2) (i := 2) rfl rfl rfl ?_
    refine eb_iload_n (pc := 38) (n := 3) (i := 3) rfl rfl rfl ?_
    refine eb_ctV (pc := 39) (As := [.int x1, .int x2, .int x3]) (rest := []) rfl (by decide) rfl rfl (by decide) rfl (Nat.le_of_ble_eq_true rfl) ?_
    refine eb_Ct.mono w ?_
    rintro r h11 ⟨y12, rfl, ko13, w⟩
    change eb_Sn _ _ _ 42 _ [.int y12] _ _
    exact eb_ireturn (pc := 42) rfl rfl rfl w
  · replace w := w.2 c4
    refine eb_iload (pc := 14) (i := 4) rfl rfl ?_
    exact eb_ireturn (pc := 16) rfl rfl rfl w
theorem T_X10_soonest {d : Nat} {h : eb_H} {Q : Option Value → eb_H → Prop} (x1 : Int32) (x2 : Int32) (x3 : Int32)  (ko : eb_KO h) (w : eb_Ct d 145 [.ref s_EB, .int x1, .int x2, .int x3] h (fun r h1 => ∃ y2, r = some (.int y2) ∧ eb_KO h1 ∧ ((y2 = 0 → ∃ r5, eb_R h1 s_EB 2 = some r5 ∧ eb_kd r5 = 9 ∧ eb_Ct d 8 [.ref s_flights, .ref r5, .ref s_now] h1 (fun r h8 => r = none ∧ eb_KO h8 ∧ eb_Ct d 12 [.ref s_flights, .int x1, .int x2, .int x3] h8 (fun r h11 => ∃ y12, r = some (.int y12) ∧ eb_KO h11 ∧ Q (some (.int y12)) h11))) ∧ (¬ (y2 = 0) → Q (some (.int y2)) h1)))) : eb_Ct (d + 1) 112 [.ref s_EB, .int x1, .int x2, .int x3] h Q :=
  eb_bodyQ (by decide) ok_X10_soonest (Nat.le_of_ble_eq_true rfl) (b_X10_soonest_0 (h0 := h) x1 x2 x3  ko w)
theorem b_X10_way_0 {d : Nat} {h0 h : eb_H} {Q : Option Value → eb_H → Prop} (x1 : Int32) (x2 : Int32) (x3 : Int32) (x4 : Int32)  (ko : eb_KO h) (w : eb_Ct d 145 [.ref s_EB, .int x1, .int x2, .int x3] h (fun r h1 => ∃ y2, r = some (.int y2) ∧ eb_KO h1 ∧ ((y2 = 0 → ((0 ≤ x4 → ∃ r6, eb_R h1 s_EB 2 = some r6 ∧ eb_kd r6 = 9 ∧ eb_Ct d 8 [.ref s_flights, .ref r6, .ref s_now] h1 (fun r h9 => r = none ∧ eb_KO h9 ∧ eb_Ct d 12 [.ref s_flights, .int x1, .int x2, .int x3] h9 (fun r h12 => ∃ y13, r = some (.int y13) ∧ eb_KO h12 ∧ ((y13 ≤ x4 → Q (some (.int (-1))) h12) ∧ (¬ (y13 ≤ x4) → (((((1024 : Int32) - (eb_I h12 s_flights 5)) + x4) < 0 → Q (some (.int (-1))) h12) ∧ (¬ ((((1024 : Int32) - (eb_I h12 s_flights 5)) + x4) < 0) → (((1024 : Int32) ≤ (((1024 : Int32) - (eb_I h12 s_flights 5)) + x4) → Q (some (.int (-1))) h12) ∧ (¬ ((1024 : Int32) ≤ (((1024 : Int32) - (eb_I h12 s_flights 5)) + x4)) → (vp_in (((1024 : Int32) - (eb_I h12 s_flights 5)) + x4) 1024) ∧ Q (some (.int (eb_I h12 s_flights_trace (((1024 : Int32) - (eb_I h12 s_flights 5)) + x4).toNatClampNeg))) h12))))))))) ∧ (¬ (0 ≤ x4) → Q (some (.int (-3))) h1))) ∧ (¬ (y2 = 0) → Q (some (.int y2)) h1)))) : eb_Sn (d + 1) m_X10_way h0 0 [(0, .ref s_EB), (1, .int x1), (2, .int x2), (3, .int x3), (4, .int x4)] [] h Q := by
  refine eb_aload_n (pc := 0) (n := 0) (i := 0) rfl rfl rfl ?_
  refine eb_iload_n (pc := 1) (n := 1) (i := 1) rfl rfl rfl ?_
  refine eb_iload_n (pc := 2) (n := 2) (i := 2) rfl rfl rfl ?_
  refine eb_iload_n (pc := 3) (n := 3) (i := 3) rfl rfl rfl ?_
  refine eb_ctV (pc := 4) (As := [.int x1, .int x2, .int x3]) (rest := []) rfl (by decide) rfl rfl (by decide) rfl (Nat.le_of_ble_eq_true rfl) ?_
  refine eb_Ct.mono w ?_
  rintro r h1 ⟨y2, rfl, ko3, w⟩
  change eb_Sn _ _ _ 7 _ [.int y2] _ _
  refine eb_istore (pc := 7) (i := 5) (ls2 := [(5, .int y2), (0, .ref s_EB), (1, .int x1), (2, .int x2), (3, .int x3), (4, .int x4)]) (Nat.le_of_ble_eq_true rfl) rfl rfl ?_
  refine eb_iload (pc := 9) (i := 5) rfl rfl ?_
  refine eb_if_eq (pc := 11) (tgt := 17) rfl (by decide) (fun c4 => ?_) (fun c4 => ?_)
  · replace w := w.1 c4
    refine eb_iload (pc := 17) (i := 4) rfl rfl ?_
    refine eb_if_ge (pc := 19) (tgt := 25) rfl (by decide) (fun c5 => ?_) (fun c5 => ?_)
    · replace w := w.1 c5
      refine eb_aload_n (pc := 25) (n := 0) (i := 0) rfl rfl rfl ?_
      refine eb_getR (pc := 26) rfl rfl (by decide) (by decide) rfl (ko_s_EB_7 ko3) ?_
      refine eb_aload_n (pc := 29) (n := 0) (i := 0) rfl rfl rfl ?_
      obtain ⟨r6, q7, k8, w⟩ := w
      refine eb_getR (pc := 30) rfl rfl (by decide) (by decide) rfl q7 ?_
      refine eb_aload_n (pc := 33) (n := 0) (i := 0) rfl rfl rfl ?_
      refine eb_getR (pc := 34) rfl rfl (by decide) (by decide) rfl (ko_s_EB_3 ko3) ?_
      refine eb_ctV (pc := 37) (As := [.ref r6, .ref s_now]) (rest := []) rfl (by decide) rfl rfl (by decide) rfl (Nat.le_of_ble_eq_true rfl) ?_
      refine eb_Ct.mono w ?_
      rintro r h9 ⟨rfl, ko11, w⟩
      change eb_Sn _ _ _ 40 _ [] _ _
      refine eb_iload (pc := 40) (i := 4) rfl rfl ?_
      refine eb_aload_n (pc := 42) (n := 0) (i := 0) rfl rfl rfl ?_
      refine eb_getR (pc := 43) rfl rfl (by decide) (by decide) rfl (ko_s_EB_7 ko11) ?_
      refine eb_iload_n (pc := 46) (n := 1) (i := 1) rfl rfl rfl ?_
      refine eb_iload_n (pc := 47) (n := 2) (i := 2) rfl rfl rfl ?_
      refine eb_iload_n (pc := 48) (n := 3) (i := 3) rfl rfl rfl ?_
      refine eb_ctV (pc := 49) (As := [.int x1, .int x2, .int x3]) (rest := [.int x4]) rfl (by decide) rfl rfl (by decide) rfl (Nat.le_of_ble_eq_true rfl) ?_
      refine eb_Ct.mono w ?_
      rintro r h12 ⟨y13, rfl, ko14, w⟩
      change eb_Sn _ _ _ 52 _ [.int y13, .int x4] _ _
      refine eb_icmp_ge (pc := 52) (tgt := 67) rfl (by decide) (fun c15 => ?_) (fun c15 => ?_)
      · replace w := w.1 c15
        refine eb_iconst (pc := 67) (n := -1) (v := (-1)) rfl rfl ?_
        exact eb_ireturn (pc := 68) rfl rfl rfl w
      · replace w := w.2 c15
        refine eb_aload_n (pc := 55) (n := 0) (i := 0) rfl rfl rfl ?_
        refine eb_getR (pc := 56) rfl rfl (by decide) (by decide) rfl (ko_s_EB_7 ko14) ?_
        refine eb_iload (pc := 59) (i := 4) rfl rfl ?_
        refine eb_ctV (pc := 61) (As := [.int x4]) (rest := []) rfl (by decide) rfl rfl (by decide) rfl (Nat.le_of_ble_eq_true rfl) ?_
        refine eb_bodyQ (by decide) ok_X1_traced (Nat.le_of_ble_eq_true rfl) ?_
        change eb_Sn _ m_X1_traced _ 0 [(0, .ref s_flights), (1, .int x4)] [] _ _
        refine eb_sipush (pc := 0) (n := 1024) (v := 1024) rfl rfl ?_
        refine eb_aload_n (pc := 3) (n := 0) (i := 0) rfl rfl rfl ?_
        refine eb_getI (pc := 4) rfl rfl (by decide) (by decide) rfl ?_
        refine eb_isub (pc := 7) rfl ?_
        refine eb_iload_n (pc := 8) (n := 1) (i := 1) rfl rfl rfl ?_
        refine eb_iadd (pc := 9) rfl ?_
        refine eb_istore_n (pc := 10) (n := 2) (i := 2) (ls2 := [(2, .int (((1024 : Int32) - (eb_I h12 s_flights 5)) + x4)), (0, .ref s_flights), (1, .int x4)]) rfl (Nat.le_of_ble_eq_true rfl) rfl rfl ?_
        refine eb_iload_n (pc := 11) (n := 2) (i := 2) rfl rfl rfl ?_
        refine eb_if_lt (pc := 12) (tgt := 31) rfl (by decide) (fun c16 => ?_) (fun c16 => ?_)
        · replace w := w.1 c16
          refine eb_iconst (pc := 31) (n := -1) (v := (-1)) rfl rfl ?_
          refine eb_ireturn (pc := 32) rfl rfl rfl ?_
          change eb_Sn _ _ _ 64 _ [.int (-1)] _ _
          refine eb_goto (pc := 64) (tgt := 68) rfl (by decide) ?_
          exact eb_ireturn (pc := 68) rfl rfl rfl w
        · replace w := w.2 c16
          refine eb_iload_n (pc := 15) (n := 2) (i := 2) rfl rfl rfl ?_
          refine eb_sipush (pc := 16) (n := 1024) (v := 1024) rfl rfl ?_
          refine eb_icmp_ge (pc := 19) (tgt := 31) rfl (by decide) (fun c17 => ?_) (fun c17 => ?_)
          · replace w := w.1 c17
            refine eb_iconst (pc := 31) (n := -1) (v := (-1)) rfl rfl ?_
            refine eb_ireturn (pc := 32) rfl rfl rfl ?_
            change eb_Sn _ _ _ 64 _ [.int (-1)] _ _
            refine eb_goto (pc := 64) (tgt := 68) rfl (by decide) ?_
            exact eb_ireturn (pc := 68) rfl rfl rfl w
          · replace w := w.2 c17
            refine eb_aload_n (pc := 22) (n := 0) (i := 0) rfl rfl rfl ?_
            refine eb_getR (pc := 23) rfl rfl (by decide) (by decide) rfl (ko_s_flights_9 ko14) ?_
            refine eb_iload_n (pc := 26) (n := 2) (i := 2) rfl rfl rfl ?_
            obtain ⟨c18, w⟩ := w
            refine eb_baload (pc := 27) rfl rfl c18 ?_
            refine eb_goto (pc := 28) (tgt := 32) rfl (by decide) ?_
            refine eb_ireturn (pc := 32) rfl rfl rfl ?_
            change eb_Sn _ _ _ 64 _ [.int (eb_I h12 s_flights_trace (((1024 : Int32) - (eb_I h12 s_flights 5)) + x4).toNatClampNeg)] _ _
            refine eb_goto (pc := 64) (tgt := 68) rfl (by decide) ?_
            exact eb_ireturn (pc := 68) rfl rfl rfl w
    · replace w := w.2 c5
      refine eb_bipush (pc := 22) (n := -3) (v := (-3)) rfl rfl ?_
      exact eb_ireturn (pc := 24) rfl rfl rfl w
  · replace w := w.2 c4
    refine eb_iload (pc := 14) (i := 5) rfl rfl ?_
    exact eb_ireturn (pc := 16) rfl rfl rfl w
theorem T_X10_way {d : Nat} {h : eb_H} {Q : Option Value → eb_H → Prop} (x1 : Int32) (x2 : Int32) (x3 : Int32) (x4 : Int32)  (ko : eb_KO h) (w : eb_Ct d 145 [.ref s_EB, .int x1, .int x2, .int x3] h (fun r h1 => ∃ y2, r = some (.int y2) ∧ eb_KO h1 ∧ ((y2 = 0 → ((0 ≤ x4 → ∃ r6, eb_R h1 s_EB 2 = some r6 ∧ eb_kd r6 = 9 ∧ eb_Ct d 8 [.ref s_flights, .ref r6, .ref s_now] h1 (fun r h9 => r = none ∧ eb_KO h9 ∧ eb_Ct d 12 [.ref s_flights, .int x1, .int x2, .int x3] h9 (fun r h12 => ∃ y13, r = some (.int y13) ∧ eb_KO h12 ∧ ((y13 ≤ x4 → Q (some (.int (-1))) h12) ∧ (¬ (y13 ≤ x4) → (((((1024 : Int32) - (eb_I h12 s_flights 5)) + x4) < 0 → Q (some (.int (-1))) h12) ∧ (¬ ((((1024 : Int32) - (eb_I h12 s_flights 5)) + x4) < 0) → (((1024 : Int32) ≤ (((1024 : Int32) - (eb_I h12 s_flights 5)) + x4) → Q (some (.int (-1))) h12) ∧ (¬ ((1024 : Int32) ≤ (((1024 : Int32) - (eb_I h12 s_flights 5)) + x4)) → (vp_in (((1024 : Int32) - (eb_I h12 s_flights 5)) + x4) 1024) ∧ Q (some (.int (eb_I h12 s_flights_trace (((1024 : Int32) - (eb_I h12 s_flights 5)) + x4).toNatClampNeg))) h12))))))))) ∧ (¬ (0 ≤ x4) → Q (some (.int (-3))) h1))) ∧ (¬ (y2 = 0) → Q (some (.int y2)) h1)))) : eb_Ct (d + 1) 113 [.ref s_EB, .int x1, .int x2, .int x3, .int x4] h Q :=
  eb_bodyQ (by decide) ok_X10_way (Nat.le_of_ble_eq_true rfl) (b_X10_way_0 (h0 := h) x1 x2 x3 x4  ko w)
theorem b_X10_ways_0 {d : Nat} {h0 h : eb_H} {Q : Option Value → eb_H → Prop} (x1 : Int32) (x2 : Int32) (x3 : Int32) (x4 : Int32)  (ko : eb_KO h) (w : eb_Ct d 145 [.ref s_EB, .int x1, .int x2, .int x3] h (fun r h1 => ∃ y2, r = some (.int y2) ∧ eb_KO h1 ∧ ((y2 = 0 → ((x4 < 0 → Q (some (.long (-3))) h1) ∧ (¬ (x4 < 0) → ((x4 ≤ (12 : Int32) → ∃ r7, eb_R h1 s_EB 2 = some r7 ∧ eb_kd r7 = 9 ∧ eb_Ct d 18 [.ref s_flights, .ref r7, .ref s_now, .int x4, .int 0] h1 (fun r h10 => r = none ∧ eb_KO h10 ∧ eb_Ct d 22 [.ref s_flights, .int x1, .int x2, .int x3] h10 (fun r h13 => ∃ y14, r = some (.long y14) ∧ eb_KO h13 ∧ Q (some (.long y14)) h13))) ∧ (¬ (x4 ≤ (12 : Int32)) → Q (some (.long (-3))) h1))))) ∧ (¬ (y2 = 0) → Q (some (.long y2.toInt64)) h1)))) : eb_Sn (d + 1) m_X10_ways h0 0 [(0, .ref s_EB), (1, .int x1), (2, .int x2), (3, .int x3), (4, .int x4)] [] h Q := by
  refine eb_aload_n (pc := 0) (n := 0) (i := 0) rfl rfl rfl ?_
  refine eb_iload_n (pc := 1) (n := 1) (i := 1) rfl rfl rfl ?_
  refine eb_iload_n (pc := 2) (n := 2) (i := 2) rfl rfl rfl ?_
  refine eb_iload_n (pc := 3) (n := 3) (i := 3) rfl rfl rfl ?_
  refine eb_ctV (pc := 4) (As := [.int x1, .int x2, .int x3]) (rest := []) rfl (by decide) rfl rfl (by decide) rfl (Nat.le_of_ble_eq_true rfl) ?_
  refine eb_Ct.mono w ?_
  rintro r h1 ⟨y2, rfl, ko3, w⟩
  change eb_Sn _ _ _ 7 _ [.int y2] _ _
  refine eb_istore (pc := 7) (i := 5) (ls2 := [(5, .int y2), (0, .ref s_EB), (1, .int x1), (2, .int x2), (3, .int x3), (4, .int x4)]) (Nat.le_of_ble_eq_true rfl) rfl rfl ?_
  refine eb_iload (pc := 9) (i := 5) rfl rfl ?_
  refine eb_if_eq (pc := 11) (tgt := 18) rfl (by decide) (fun c4 => ?_) (fun c4 => ?_)
  · replace w := w.1 c4
    refine eb_iload (pc := 18) (i := 4) rfl rfl ?_
    refine eb_if_lt (pc := 20) (tgt := 30) rfl (by decide) (fun c5 => ?_) (fun c5 => ?_)
    · replace w := w.1 c5
      refine eb_ldc2 (pc := 30) (a := 18446744073709551613) (v := (-3)) rfl (by decide) ?_
      exact eb_lreturn (pc := 33) rfl rfl w
    · replace w := w.2 c5
      refine eb_iload (pc := 23) (i := 4) rfl rfl ?_
      refine eb_bipush (pc := 25) (n := 12) (v := 12) rfl rfl ?_
      refine eb_icmp_le (pc := 27) (tgt := 34) rfl (by decide) (fun c6 => ?_) (fun c6 => ?_)
      · replace w := w.1 c6
        refine eb_aload_n (pc := 34) (n := 0) (i := 0) rfl rfl rfl ?_
        refine eb_getR (pc := 35) rfl rfl (by decide) (by decide) rfl (ko_s_EB_7 ko3) ?_
        refine eb_aload_n (pc := 38) (n := 0) (i := 0) rfl rfl rfl ?_
        obtain ⟨r7, q8, k9, w⟩ := w
        refine eb_getR (pc := 39) rfl rfl (by decide) (by decide) rfl q8 ?_
        refine eb_aload_n (pc := 42) (n := 0) (i := 0) rfl rfl rfl ?_
        refine eb_getR (pc := 43) rfl rfl (by decide) (by decide) rfl (ko_s_EB_3 ko3) ?_
        refine eb_iload (pc := 46) (i := 4) rfl rfl ?_
        refine eb_iconst (pc := 48) (n := 0) (v := 0) rfl rfl ?_
        refine eb_ctV (pc := 49) (As := [.ref r7, .ref s_now, .int x4, .int 0]) (rest := []) rfl (by decide) rfl rfl (by decide) rfl (Nat.le_of_ble_eq_true rfl) ?_
        refine eb_Ct.mono w ?_
        rintro r h10 ⟨rfl, ko12, w⟩
        change eb_Sn _ _ _ 52 _ [] _ _
        refine eb_aload_n (pc := 52) (n := 0) (i := 0) rfl rfl rfl ?_
        refine eb_getR (pc := 53) rfl rfl (by decide) (by decide) rfl (ko_s_EB_7 ko12) ?_
        refine eb_iload_n (pc := 56) (n := 1) (i := 1) rfl rfl rfl ?_
        refine eb_iload_n (pc := 57) (n := 2) (i := 2) rfl rfl rfl ?_
        refine eb_iload_n (pc := 58) (n := 3) (i := 3) rfl rfl rfl ?_
        refine eb_ctV (pc := 59) (As := [.int x1, .int x2, .int x3]) (rest := []) rfl (by decide) rfl rfl (by decide) rfl (Nat.le_of_ble_eq_true rfl) ?_
        refine eb_Ct.mono w ?_
        rintro r h13 ⟨y14, rfl, ko15, w⟩
        change eb_Sn _ _ _ 62 _ [.long y14] _ _
        exact eb_lreturn (pc := 62) rfl rfl w
      · replace w := w.2 c6
        refine eb_ldc2 (pc := 30) (a := 18446744073709551613) (v := (-3)) rfl (by decide) ?_
        exact eb_lreturn (pc := 33) rfl rfl w
  · replace w := w.2 c4
    refine eb_iload (pc := 14) (i := 5) rfl rfl ?_
    refine eb_i2l (pc := 16) rfl ?_
    exact eb_lreturn (pc := 17) rfl rfl w
theorem T_X10_ways {d : Nat} {h : eb_H} {Q : Option Value → eb_H → Prop} (x1 : Int32) (x2 : Int32) (x3 : Int32) (x4 : Int32)  (ko : eb_KO h) (w : eb_Ct d 145 [.ref s_EB, .int x1, .int x2, .int x3] h (fun r h1 => ∃ y2, r = some (.int y2) ∧ eb_KO h1 ∧ ((y2 = 0 → ((x4 < 0 → Q (some (.long (-3))) h1) ∧ (¬ (x4 < 0) → ((x4 ≤ (12 : Int32) → ∃ r7, eb_R h1 s_EB 2 = some r7 ∧ eb_kd r7 = 9 ∧ eb_Ct d 18 [.ref s_flights, .ref r7, .ref s_now, .int x4, .int 0] h1 (fun r h10 => r = none ∧ eb_KO h10 ∧ eb_Ct d 22 [.ref s_flights, .int x1, .int x2, .int x3] h10 (fun r h13 => ∃ y14, r = some (.long y14) ∧ eb_KO h13 ∧ Q (some (.long y14)) h13))) ∧ (¬ (x4 ≤ (12 : Int32)) → Q (some (.long (-3))) h1))))) ∧ (¬ (y2 = 0) → Q (some (.long y2.toInt64)) h1)))) : eb_Ct (d + 1) 114 [.ref s_EB, .int x1, .int x2, .int x3, .int x4] h Q :=
  eb_bodyQ (by decide) ok_X10_ways (Nat.le_of_ble_eq_true rfl) (b_X10_ways_0 (h0 := h) x1 x2 x3 x4  ko w)
theorem b_X10_needed_0 {d : Nat} {h0 h : eb_H} {Q : Option Value → eb_H → Prop} (x1 : Int32) (x2 : Int32) (x3 : Int32)  (ko : eb_KO h) (w : eb_Ct d 145 [.ref s_EB, .int x1, .int x2, .int x3] h (fun r h1 => ∃ y2, r = some (.int y2) ∧ eb_KO h1 ∧ ((y2 = 0 → ∃ r5, eb_R h1 s_EB 2 = some r5 ∧ eb_kd r5 = 9 ∧ eb_Ct d 8 [.ref s_flights, .ref r5, .ref s_now] h1 (fun r h8 => r = none ∧ eb_KO h8 ∧ eb_Ct d 12 [.ref s_flights, .int x1, .int x2, .int x3] h8 (fun r h11 => ∃ y12, r = some (.int y12) ∧ eb_KO h11 ∧ ((0 < y12 → eb_Sn (d + 1) m_X10_needed h0 80 [(0, .ref s_EB), (1, .int x1), (2, .int x2), (3, .int x3), (5, .int (((eb_I h11 s_flights 3) &&& (((1 : Int32) <<< ((eb_I h11 s_now 0) &&& 31)) ^^^ (-1))) &&& (((1 : Int32) <<< (x1 &&& 31)) ^^^ (-1)))), (6, .int 0), (7, .int 0)] [] h11 Q) ∧ (¬ (0 < y12) → Q (some (.int 0)) h11))))) ∧ (¬ (y2 = 0) → Q (some (.int y2)) h1)))) : eb_Sn (d + 1) m_X10_needed h0 0 [(0, .ref s_EB), (1, .int x1), (2, .int x2), (3, .int x3)] [] h Q := by
  refine eb_aload_n (pc := 0) (n := 0) (i := 0) rfl rfl rfl ?_
  refine eb_iload_n (pc := 1) (n := 1) (i := 1) rfl rfl rfl ?_
  refine eb_iload_n (pc := 2) (n := 2) (i := 2) rfl rfl rfl ?_
  refine eb_iload_n (pc := 3) (n := 3) (i := 3) rfl rfl rfl ?_
  refine eb_ctV (pc := 4) (As := [.int x1, .int x2, .int x3]) (rest := []) rfl (by decide) rfl rfl (by decide) rfl (Nat.le_of_ble_eq_true rfl) ?_
  refine eb_Ct.mono w ?_
  rintro r h1 ⟨y2, rfl, ko3, w⟩
  change eb_Sn _ _ _ 7 _ [.int y2] _ _
  refine eb_istore (pc := 7) (i := 4) (ls2 := [(4, .int y2), (0, .ref s_EB), (1, .int x1), (2, .int x2), (3, .int x3)]) (Nat.le_of_ble_eq_true rfl) rfl rfl ?_
  refine eb_iload (pc := 9) (i := 4) rfl rfl ?_
  refine eb_if_eq (pc := 11) (tgt := 17) rfl (by decide) (fun c4 => ?_) (fun c4 => ?_)
  · replace w := w.1 c4
    refine eb_aload_n (pc := 17) (n := 0) (i := 0) rfl rfl rfl ?_
    refine eb_getR (pc := 18) rfl rfl (by decide) (by decide) rfl (ko_s_EB_7 ko3) ?_
    refine eb_aload_n (pc := 21) (n := 0) (i := 0) rfl rfl rfl ?_
    obtain ⟨r5, q6, k7, w⟩ := w
    refine eb_getR (pc := 22) rfl rfl (by decide) (by decide) rfl q6 ?_
    refine eb_aload_n (pc := 25) (n := 0) (i := 0) rfl rfl rfl ?_
    refine eb_getR (pc := 26) rfl rfl (by decide) (by decide) rfl (ko_s_EB_3 ko3) ?_
    refine eb_ctV (pc := 29) (As := [.ref r5, .ref s_now]) (rest := []) rfl (by decide) rfl rfl (by decide) rfl (Nat.le_of_ble_eq_true rfl) ?_
    refine eb_Ct.mono w ?_
    rintro r h8 ⟨rfl, ko10, w⟩
    change eb_Sn _ _ _ 32 _ [] _ _
    refine eb_aload_n (pc := 32) (n := 0) (i := 0) rfl rfl rfl ?_
    refine eb_getR (pc := 33) rfl rfl (by decide) (by decide) rfl (ko_s_EB_7 ko10) ?_
    refine eb_iload_n (pc := 36) (n := 1) (i := 1) rfl rfl rfl ?_
    refine eb_iload_n (pc := 37) (n := 2) (i := 2) rfl rfl rfl ?_
    refine eb_iload_n (pc := 38) (n := 3) (i := 3) rfl rfl rfl ?_
    refine eb_ctV (pc := 39) (As := [.int x1, .int x2, .int x3]) (rest := []) rfl (by decide) rfl rfl (by decide) rfl (Nat.le_of_ble_eq_true rfl) ?_
    refine eb_Ct.mono w ?_
    rintro r h11 ⟨y12, rfl, ko13, w⟩
    change eb_Sn _ _ _ 42 _ [.int y12] _ _
    refine eb_if_gt (pc := 42) (tgt := 47) rfl (by decide) (fun c14 => ?_) (fun c14 => ?_)
    · replace w := w.1 c14
      refine eb_aload_n (pc := 47) (n := 0) (i := 0) rfl rfl rfl ?_
      refine eb_getR (pc := 48) rfl rfl (by decide) (by decide) rfl (ko_s_EB_7 ko13) ?_
      refine eb_getI (pc := 51) rfl rfl (by decide) (by decide) rfl ?_
      refine eb_iconst (pc := 54) (n := 1) (v := 1) rfl rfl ?_
      refine eb_aload_n (pc := 55) (n := 0) (i := 0) rfl rfl rfl ?_
      refine eb_getR (pc := 56) rfl rfl (by decide) (by decide) rfl (ko_s_EB_3 ko13) ?_
      refine eb_getI (pc := 59) rfl rfl (by decide) (by decide) rfl ?_
      refine eb_ishl (pc := 62) rfl ?_
      refine eb_iconst (pc := 63) (n := -1) (v := (-1)) rfl rfl ?_
      refine eb_ixor (pc := 64) rfl ?_
      refine eb_iand (pc := 65) rfl ?_
      refine eb_iconst (pc := 66) (n := 1) (v := 1) rfl rfl ?_
      refine eb_iload_n (pc := 67) (n := 1) (i := 1) rfl rfl rfl ?_
      refine eb_ishl (pc := 68) rfl ?_
      refine eb_iconst (pc := 69) (n := -1) (v := (-1)) rfl rfl ?_
      refine eb_ixor (pc := 70) rfl ?_
      refine eb_iand (pc := 71) rfl ?_
      refine eb_istore (pc := 72) (i := 5) (ls2 := [(5, .int (((eb_I h11 s_flights 3) &&& (((1 : Int32) <<< ((eb_I h11 s_now 0) &&& 31)) ^^^ (-1))) &&& (((1 : Int32) <<< (x1 &&& 31)) ^^^ (-1)))), (4, .int y2), (0, .ref s_EB), (1, .int x1), (2, .int x2), (3, .int x3)]) (Nat.le_of_ble_eq_true rfl) rfl rfl ?_
      refine eb_iconst (pc := 74) (n := 0) (v := 0) rfl rfl ?_
      refine eb_istore (pc := 75) (i := 6) (ls2 := [(6, .int 0), (5, .int (((eb_I h11 s_flights 3) &&& (((1 : Int32) <<< ((eb_I h11 s_now 0) &&& 31)) ^^^ (-1))) &&& (((1 : Int32) <<< (x1 &&& 31)) ^^^ (-1)))), (4, .int y2), (0, .ref s_EB), (1, .int x1), (2, .int x2), (3, .int x3)]) (Nat.le_of_ble_eq_true rfl) rfl rfl ?_
      refine eb_iconst (pc := 77) (n := 0) (v := 0) rfl rfl ?_
      refine eb_istore (pc := 78) (i := 7) (ls2 := [(7, .int 0), (6, .int 0), (5, .int (((eb_I h11 s_flights 3) &&& (((1 : Int32) <<< ((eb_I h11 s_now 0) &&& 31)) ^^^ (-1))) &&& (((1 : Int32) <<< (x1 &&& 31)) ^^^ (-1)))), (4, .int y2), (0, .ref s_EB), (1, .int x1), (2, .int x2), (3, .int x3)]) (Nat.le_of_ble_eq_true rfl) rfl rfl ?_
      exact eb_pick [4, 5, 6, 7, 2, 1, 0] rfl w
    · replace w := w.2 c14
      refine eb_iconst (pc := 45) (n := 0) (v := 0) rfl rfl ?_
      exact eb_ireturn (pc := 46) rfl rfl rfl w
  · replace w := w.2 c4
    refine eb_iload (pc := 14) (i := 4) rfl rfl ?_
    exact eb_ireturn (pc := 16) rfl rfl rfl w
theorem b_X10_needed_80 {d : Nat} {h0 h : eb_H} {Q : Option Value → eb_H → Prop} (x1 : Int32) (x2 : Int32) (x3 : Int32) (x5 : Int32) (x6 : Int32) (x7 : Int32)  (ko : eb_KO h) (w : (((16 : Int32) ≤ x7 → Q (some (.int x6)) h) ∧ (¬ ((16 : Int32) ≤ x7) → ((¬ ((x5 >>> (x7 &&& 31)) &&& 1) = 0 → eb_Ct d 12 [.ref s_flights, .int x1, .int x2, .int x3] (eb_sI h s_flights 2 ((eb_I h s_now 3) ||| ((1 : Int32) <<< (x7 &&& 31)))) (fun r h3 => ∃ y4, r = some (.int y4) ∧ eb_KO h3 ∧ ((¬ y4 = ((-1) : Int32) → eb_Sn (d + 1) m_X10_needed h0 80 [(0, .ref s_EB), (1, .int x1), (2, .int x2), (3, .int x3), (5, .int x5), (6, .int x6), (7, .int (x7 + 1))] [] h3 Q) ∧ (y4 = ((-1) : Int32) → eb_Sn (d + 1) m_X10_needed h0 80 [(0, .ref s_EB), (1, .int x1), (2, .int x2), (3, .int x3), (5, .int x5), (6, .int (x6 ||| ((1 : Int32) <<< (x7 &&& 31)))), (7, .int (x7 + 1))] [] h3 Q)))) ∧ (((x5 >>> (x7 &&& 31)) &&& 1) = 0 → eb_Sn (d + 1) m_X10_needed h0 80 [(0, .ref s_EB), (1, .int x1), (2, .int x2), (3, .int x3), (5, .int x5), (6, .int x6), (7, .int (x7 + 1))] [] h Q))))) : eb_Sn (d + 1) m_X10_needed h0 80 [(0, .ref s_EB), (1, .int x1), (2, .int x2), (3, .int x3), (5, .int x5), (6, .int x6), (7, .int x7)] [] h Q := by
  refine eb_iload (pc := 80) (i := 7) rfl rfl ?_
  refine eb_bipush (pc := 82) (n := 16) (v := 16) rfl rfl ?_
  refine eb_icmp_ge (pc := 84) (tgt := 148) rfl (by decide) (fun c1 => ?_) (fun c1 => ?_)
  · replace w := w.1 c1
    refine eb_iload (pc := 148) (i := 6) rfl rfl ?_
    exact eb_ireturn (pc := 150) rfl rfl rfl w
  · replace w := w.2 c1
    refine eb_iload (pc := 87) (i := 5) rfl rfl ?_
    refine eb_iload (pc := 89) (i := 7) rfl rfl ?_
    refine eb_ishr (pc := 91) rfl ?_
    refine eb_iconst (pc := 92) (n := 1) (v := 1) rfl rfl ?_
    refine eb_iand (pc := 93) rfl ?_
    refine eb_if_ne (pc := 94) (tgt := 100) rfl (by decide) (fun c2 => ?_) (fun c2 => ?_)
    · replace w := w.1 c2
      refine eb_aload_n (pc := 100) (n := 0) (i := 0) rfl rfl rfl ?_
      refine eb_getR (pc := 101) rfl rfl (by decide) (by decide) rfl (ko_s_EB_7 ko) ?_
      refine eb_aload_n (pc := 104) (n := 0) (i := 0) rfl rfl rfl ?_
      refine eb_getR (pc := 105) rfl rfl (by decide) (by decide) rfl (ko_s_EB_3 ko) ?_
      refine eb_getI (pc := 108) rfl rfl (by decide) (by decide) rfl ?_
      refine eb_iconst (pc := 111) (n := 1) (v := 1) rfl rfl ?_
      refine eb_iload (pc := 112) (i := 7) rfl rfl ?_
      refine eb_ishl (pc := 114) rfl ?_
      refine eb_ior (pc := 115) rfl ?_
      refine eb_putI (pc := 116) rfl rfl (by decide) (by decide) rfl rfl ⟨rfl, rfl⟩ ?_
      refine eb_aload_n (pc := 119) (n := 0) (i := 0) rfl rfl rfl ?_
      refine eb_getR (pc := 120) rfl rfl (by decide) (by decide) rfl (ko_s_EB_7 ko) ?_
      refine eb_iload_n (pc := 123) (n := 1) (i := 1) rfl rfl rfl ?_
      refine eb_iload_n (pc := 124) (n := 2) (i := 2) rfl rfl rfl ?_
      refine eb_iload_n (pc := 125) (n := 3) (i := 3) rfl rfl rfl ?_
      refine eb_ctV (pc := 126) (As := [.int x1, .int x2, .int x3]) (rest := []) rfl (by decide) rfl rfl (by decide) rfl (Nat.le_of_ble_eq_true rfl) ?_
      refine eb_Ct.mono w ?_
      rintro r h3 ⟨y4, rfl, ko5, w⟩
      change eb_Sn _ _ _ 129 _ [.int y4] _ _
      refine eb_iconst (pc := 129) (n := -1) (v := (-1)) rfl rfl ?_
      refine eb_icmp_ne (pc := 130) (tgt := 142) rfl (by decide) (fun c6 => ?_) (fun c6 => ?_)
      · replace w := w.1 c6
        refine eb_iinc (pc := 142) (i := 7) (n := 1) (v := x7 + 1) (ls2 := [(7, .int (x7 + 1)), (0, .ref s_EB), (1, .int x1), (2, .int x2), (3, .int x3), (5, .int x5), (6, .int x6)]) (Nat.le_of_ble_eq_true rfl) rfl rfl rfl rfl ?_
        refine eb_goto (pc := 145) (tgt := 80) rfl (by decide) ?_
        exact eb_pick [1, 2, 3, 4, 5, 6, 0] rfl w
      · replace w := w.2 c6
        refine eb_iload (pc := 133) (i := 6) rfl rfl ?_
        refine eb_iconst (pc := 135) (n := 1) (v := 1) rfl rfl ?_
        refine eb_iload (pc := 136) (i := 7) rfl rfl ?_
        refine eb_ishl (pc := 138) rfl ?_
        refine eb_ior (pc := 139) rfl ?_
        refine eb_istore (pc := 140) (i := 6) (ls2 := [(6, .int (x6 ||| ((1 : Int32) <<< (x7 &&& 31)))), (0, .ref s_EB), (1, .int x1), (2, .int x2), (3, .int x3), (5, .int x5), (7, .int x7)]) (Nat.le_of_ble_eq_true rfl) rfl rfl ?_
        refine eb_iinc (pc := 142) (i := 7) (n := 1) (v := x7 + 1) (ls2 := [(7, .int (x7 + 1)), (6, .int (x6 ||| ((1 : Int32) <<< (x7 &&& 31)))), (0, .ref s_EB), (1, .int x1), (2, .int x2), (3, .int x3), (5, .int x5)]) (Nat.le_of_ble_eq_true rfl) rfl rfl rfl rfl ?_
        refine eb_goto (pc := 145) (tgt := 80) rfl (by decide) ?_
        exact eb_pick [2, 3, 4, 5, 6, 1, 0] rfl w
    · replace w := w.2 c2
      refine eb_goto (pc := 97) (tgt := 142) rfl (by decide) ?_
      refine eb_iinc (pc := 142) (i := 7) (n := 1) (v := x7 + 1) (ls2 := [(7, .int (x7 + 1)), (0, .ref s_EB), (1, .int x1), (2, .int x2), (3, .int x3), (5, .int x5), (6, .int x6)]) (Nat.le_of_ble_eq_true rfl) rfl rfl rfl rfl ?_
      refine eb_goto (pc := 145) (tgt := 80) rfl (by decide) ?_
      exact eb_pick [1, 2, 3, 4, 5, 6, 0] rfl w
theorem T_X10_needed {d : Nat} {h : eb_H} {Q : Option Value → eb_H → Prop} (x1 : Int32) (x2 : Int32) (x3 : Int32)  (ko : eb_KO h) (w : eb_Ct d 145 [.ref s_EB, .int x1, .int x2, .int x3] h (fun r h1 => ∃ y2, r = some (.int y2) ∧ eb_KO h1 ∧ ((y2 = 0 → ∃ r5, eb_R h1 s_EB 2 = some r5 ∧ eb_kd r5 = 9 ∧ eb_Ct d 8 [.ref s_flights, .ref r5, .ref s_now] h1 (fun r h8 => r = none ∧ eb_KO h8 ∧ eb_Ct d 12 [.ref s_flights, .int x1, .int x2, .int x3] h8 (fun r h11 => ∃ y12, r = some (.int y12) ∧ eb_KO h11 ∧ ((0 < y12 → eb_Sn (d + 1) m_X10_needed h 80 [(0, .ref s_EB), (1, .int x1), (2, .int x2), (3, .int x3), (5, .int (((eb_I h11 s_flights 3) &&& (((1 : Int32) <<< ((eb_I h11 s_now 0) &&& 31)) ^^^ (-1))) &&& (((1 : Int32) <<< (x1 &&& 31)) ^^^ (-1)))), (6, .int 0), (7, .int 0)] [] h11 Q) ∧ (¬ (0 < y12) → Q (some (.int 0)) h11))))) ∧ (¬ (y2 = 0) → Q (some (.int y2)) h1)))) : eb_Ct (d + 1) 115 [.ref s_EB, .int x1, .int x2, .int x3] h Q :=
  eb_bodyQ (by decide) ok_X10_needed (Nat.le_of_ble_eq_true rfl) (b_X10_needed_0 (h0 := h) x1 x2 x3  ko w)
theorem b_X10_reach_0 {d : Nat} {h0 h : eb_H} {Q : Option Value → eb_H → Prop}   (ko : eb_KO h) (w : ∃ r1, eb_R h s_EB 2 = some r1 ∧ eb_kd r1 = 9 ∧ eb_Ct d 8 [.ref s_flights, .ref r1, .ref s_now] h (fun r h4 => r = none ∧ eb_KO h4 ∧ eb_Ct d 11 [.ref s_flights] h4 (fun r h7 => r = none ∧ eb_KO h7 ∧ eb_Sn (d + 1) m_X10_reach h0 26 [(0, .ref s_EB), (1, .int 0), (2, .int 0)] [] h7 Q))) : eb_Sn (d + 1) m_X10_reach h0 0 [(0, .ref s_EB)] [] h Q := by
  refine eb_aload_n (pc := 0) (n := 0) (i := 0) rfl rfl rfl ?_
  refine eb_getR (pc := 1) rfl rfl (by decide) (by decide) rfl (ko_s_EB_7 ko) ?_
  refine eb_aload_n (pc := 4) (n := 0) (i := 0) rfl rfl rfl ?_
  obtain ⟨r1, q2, k3, w⟩ := w
  refine eb_getR (pc := 5) rfl rfl (by decide) (by decide) rfl q2 ?_
  refine eb_aload_n (pc := 8) (n := 0) (i := 0) rfl rfl rfl ?_
  refine eb_getR (pc := 9) rfl rfl (by decide) (by decide) rfl (ko_s_EB_3 ko) ?_
  refine eb_ctV (pc := 12) (As := [.ref r1, .ref s_now]) (rest := []) rfl (by decide) rfl rfl (by decide) rfl (Nat.le_of_ble_eq_true rfl) ?_
  refine eb_Ct.mono w ?_
  rintro r h4 ⟨rfl, ko6, w⟩
  change eb_Sn _ _ _ 15 _ [] _ _
  refine eb_aload_n (pc := 15) (n := 0) (i := 0) rfl rfl rfl ?_
  refine eb_getR (pc := 16) rfl rfl (by decide) (by decide) rfl (ko_s_EB_7 ko6) ?_
  refine eb_ctV (pc := 19) (As := []) (rest := []) rfl (by decide) rfl rfl (by decide) rfl (Nat.le_of_ble_eq_true rfl) ?_
  refine eb_Ct.mono w ?_
  rintro r h7 ⟨rfl, ko9, w⟩
  change eb_Sn _ _ _ 22 _ [] _ _
  refine eb_iconst (pc := 22) (n := 0) (v := 0) rfl rfl ?_
  refine eb_istore_n (pc := 23) (n := 1) (i := 1) (ls2 := [(1, .int 0), (0, .ref s_EB)]) rfl (Nat.le_of_ble_eq_true rfl) rfl rfl ?_
  refine eb_iconst (pc := 24) (n := 0) (v := 0) rfl rfl ?_
  refine eb_istore_n (pc := 25) (n := 2) (i := 2) (ls2 := [(2, .int 0), (1, .int 0), (0, .ref s_EB)]) rfl (Nat.le_of_ble_eq_true rfl) rfl rfl ?_
  exact eb_pick [2, 1, 0] rfl w
theorem b_X10_reach_26 {d : Nat} {h0 h : eb_H} {Q : Option Value → eb_H → Prop} (x1 : Int32) (x2 : Int32)  (ko : eb_KO h) (w : (((16 : Int32) ≤ x2 → Q (some (.int x1)) h) ∧ (¬ ((16 : Int32) ≤ x2) → eb_Ct d 16 [.ref s_flights, .int x2] h (fun r h2 => ∃ y3, r = some (.long y3) ∧ eb_KO h2 ∧ ((y3 = 0 → eb_Sn (d + 1) m_X10_reach h0 26 [(0, .ref s_EB), (1, .int x1), (2, .int (x2 + 1))] [] h2 Q) ∧ (¬ (y3 = 0) → eb_Sn (d + 1) m_X10_reach h0 26 [(0, .ref s_EB), (1, .int (x1 ||| ((1 : Int32) <<< (x2 &&& 31)))), (2, .int (x2 + 1))] [] h2 Q)))))) : eb_Sn (d + 1) m_X10_reach h0 26 [(0, .ref s_EB), (1, .int x1), (2, .int x2)] [] h Q := by
  refine eb_iload_n (pc := 26) (n := 2) (i := 2) rfl rfl rfl ?_
  refine eb_bipush (pc := 27) (n := 16) (v := 16) rfl rfl ?_
  refine eb_icmp_ge (pc := 29) (tgt := 57) rfl (by decide) (fun c1 => ?_) (fun c1 => ?_)
  · replace w := w.1 c1
    refine eb_iload_n (pc := 57) (n := 1) (i := 1) rfl rfl rfl ?_
    exact eb_ireturn (pc := 58) rfl rfl rfl w
  · replace w := w.2 c1
    refine eb_aload_n (pc := 32) (n := 0) (i := 0) rfl rfl rfl ?_
    refine eb_getR (pc := 33) rfl rfl (by decide) (by decide) rfl (ko_s_EB_7 ko) ?_
    refine eb_iload_n (pc := 36) (n := 2) (i := 2) rfl rfl rfl ?_
    refine eb_ctV (pc := 37) (As := [.int x2]) (rest := []) rfl (by decide) rfl rfl (by decide) rfl (Nat.le_of_ble_eq_true rfl) ?_
    refine eb_Ct.mono w ?_
    rintro r h2 ⟨y3, rfl, ko4, w⟩
    change eb_Sn _ _ _ 40 _ [.long y3] _ _
    refine eb_lconst (pc := 40) (n := 0) (v := 0) rfl rfl ?_
    refine eb_lcmp (pc := 41) rfl ?_
    refine eb_if_eq (pc := 42) (tgt := 51) rfl (by decide) (fun c5 => ?_) (fun c5 => ?_)
    · replace c5 := eb_lc_eq.mp c5
      replace w := w.1 c5
      refine eb_iinc (pc := 51) (i := 2) (n := 1) (v := x2 + 1) (ls2 := [(2, .int (x2 + 1)), (0, .ref s_EB), (1, .int x1)]) (Nat.le_of_ble_eq_true rfl) rfl rfl rfl rfl ?_
      refine eb_goto (pc := 54) (tgt := 26) rfl (by decide) ?_
      exact eb_pick [1, 2, 0] rfl w
    · replace c5 := (fun hh => mt eb_lc_eq.mpr hh) c5
      replace w := w.2 c5
      refine eb_iload_n (pc := 45) (n := 1) (i := 1) rfl rfl rfl ?_
      refine eb_iconst (pc := 46) (n := 1) (v := 1) rfl rfl ?_
      refine eb_iload_n (pc := 47) (n := 2) (i := 2) rfl rfl rfl ?_
      refine eb_ishl (pc := 48) rfl ?_
      refine eb_ior (pc := 49) rfl ?_
      refine eb_istore_n (pc := 50) (n := 1) (i := 1) (ls2 := [(1, .int (x1 ||| ((1 : Int32) <<< (x2 &&& 31)))), (0, .ref s_EB), (2, .int x2)]) rfl (Nat.le_of_ble_eq_true rfl) rfl rfl ?_
      refine eb_iinc (pc := 51) (i := 2) (n := 1) (v := x2 + 1) (ls2 := [(2, .int (x2 + 1)), (1, .int (x1 ||| ((1 : Int32) <<< (x2 &&& 31)))), (0, .ref s_EB)]) (Nat.le_of_ble_eq_true rfl) rfl rfl rfl rfl ?_
      refine eb_goto (pc := 54) (tgt := 26) rfl (by decide) ?_
      exact eb_pick [2, 1, 0] rfl w
theorem T_X10_reach {d : Nat} {h : eb_H} {Q : Option Value → eb_H → Prop}   (ko : eb_KO h) (w : ∃ r1, eb_R h s_EB 2 = some r1 ∧ eb_kd r1 = 9 ∧ eb_Ct d 8 [.ref s_flights, .ref r1, .ref s_now] h (fun r h4 => r = none ∧ eb_KO h4 ∧ eb_Ct d 11 [.ref s_flights] h4 (fun r h7 => r = none ∧ eb_KO h7 ∧ eb_Sn (d + 1) m_X10_reach h 26 [(0, .ref s_EB), (1, .int 0), (2, .int 0)] [] h7 Q))) : eb_Ct (d + 1) 116 [.ref s_EB] h Q :=
  eb_bodyQ (by decide) ok_X10_reach (Nat.le_of_ble_eq_true rfl) (b_X10_reach_0 (h0 := h)   ko w)
theorem b_X10_heard_0 {d : Nat} {h0 h : eb_H} {Q : Option Value → eb_H → Prop}   (ko : eb_KO h) (w : ∃ r1, eb_R h s_EB 2 = some r1 ∧ eb_kd r1 = 9 ∧ eb_Ct d 8 [.ref s_flights, .ref r1, .ref s_now] h (fun r h4 => r = none ∧ eb_KO h4 ∧ eb_Ct d 11 [.ref s_flights] h4 (fun r h7 => r = none ∧ eb_KO h7 ∧ eb_Ct d 17 [.ref s_flights] h7 (fun r h10 => ∃ y11, r = some (.int y11) ∧ eb_KO h10 ∧ Q (some (.int y11)) h10)))) : eb_Sn (d + 1) m_X10_heard h0 0 [(0, .ref s_EB)] [] h Q := by
  refine eb_aload_n (pc := 0) (n := 0) (i := 0) rfl rfl rfl ?_
  refine eb_getR (pc := 1) rfl rfl (by decide) (by decide) rfl (ko_s_EB_7 ko) ?_
  refine eb_aload_n (pc := 4) (n := 0) (i := 0) rfl rfl rfl ?_
  obtain ⟨r1, q2, k3, w⟩ := w
  refine eb_getR (pc := 5) rfl rfl (by decide) (by decide) rfl q2 ?_
  refine eb_aload_n (pc := 8) (n := 0) (i := 0) rfl rfl rfl ?_
  refine eb_getR (pc := 9) rfl rfl (by decide) (by decide) rfl (ko_s_EB_3 ko) ?_
  refine eb_ctV (pc := 12) (As := [.ref r1, .ref s_now]) (rest := []) rfl (by decide) rfl rfl (by decide) rfl (Nat.le_of_ble_eq_true rfl) ?_
  refine eb_Ct.mono w ?_
  rintro r h4 ⟨rfl, ko6, w⟩
  change eb_Sn _ _ _ 15 _ [] _ _
  refine eb_aload_n (pc := 15) (n := 0) (i := 0) rfl rfl rfl ?_
  refine eb_getR (pc := 16) rfl rfl (by decide) (by decide) rfl (ko_s_EB_7 ko6) ?_
  refine eb_ctV (pc := 19) (As := []) (rest := []) rfl (by decide) rfl rfl (by decide) rfl (Nat.le_of_ble_eq_true rfl) ?_
  refine eb_Ct.mono w ?_
  rintro r h7 ⟨rfl, ko9, w⟩
  change eb_Sn _ _ _ 22 _ [] _ _
  refine eb_aload_n (pc := 22) (n := 0) (i := 0) rfl rfl rfl ?_
  refine eb_getR (pc := 23) rfl rfl (by decide) (by decide) rfl (ko_s_EB_7 ko9) ?_
  refine eb_ctV (pc := 26) (As := []) (rest := []) rfl (by decide) rfl rfl (by decide) rfl (Nat.le_of_ble_eq_true rfl) ?_
  refine eb_Ct.mono w ?_
  rintro r h10 ⟨y11, rfl, ko12, w⟩
  change eb_Sn _ _ _ 29 _ [.int y11] _ _
  exact eb_ireturn (pc := 29) rfl rfl rfl w
theorem T_X10_heard {d : Nat} {h : eb_H} {Q : Option Value → eb_H → Prop}   (ko : eb_KO h) (w : ∃ r1, eb_R h s_EB 2 = some r1 ∧ eb_kd r1 = 9 ∧ eb_Ct d 8 [.ref s_flights, .ref r1, .ref s_now] h (fun r h4 => r = none ∧ eb_KO h4 ∧ eb_Ct d 11 [.ref s_flights] h4 (fun r h7 => r = none ∧ eb_KO h7 ∧ eb_Ct d 17 [.ref s_flights] h7 (fun r h10 => ∃ y11, r = some (.int y11) ∧ eb_KO h10 ∧ Q (some (.int y11)) h10)))) : eb_Ct (d + 1) 117 [.ref s_EB] h Q :=
  eb_bodyQ (by decide) ok_X10_heard (Nat.le_of_ble_eq_true rfl) (b_X10_heard_0 (h0 := h)   ko w)
theorem b_X10_most_0 {d : Nat} {h0 h : eb_H} {Q : Option Value → eb_H → Prop} (x1 : Int32)  (ko : eb_KO h) (w : ∃ r1, eb_R h s_EB 2 = some r1 ∧ eb_kd r1 = 9 ∧ (((¬ (x1 < 0)) ∧ (¬ (((eb_I h r1 0) * (eb_I h r1 1)) ≤ x1)) → eb_Ct d 148 [.ref s_EB, .int x1] h (fun r h7 => ∃ y8, r = some (.long y8) ∧ eb_KO h7 ∧ eb_Sn (d + 1) m_X10_most h0 26 [(2, .long y8), (4, .int (-1)), (5, .int 0)] [] h7 Q)) ∧ (¬ ((¬ (x1 < 0)) ∧ (¬ (((eb_I h r1 0) * (eb_I h r1 1)) ≤ x1))) → Q (some (.int (-2))) h))) : eb_Sn (d + 1) m_X10_most h0 0 [(0, .ref s_EB), (1, .int x1)] [] h Q := by
  refine eb_aload_n (pc := 0) (n := 0) (i := 0) rfl rfl rfl ?_
  obtain ⟨r1, q2, k3, w⟩ := w
  refine eb_getR (pc := 1) rfl rfl (by decide) (by decide) rfl q2 ?_
  refine eb_iload_n (pc := 4) (n := 1) (i := 1) rfl rfl rfl ?_
  refine eb_joinI (pc2 := 8) (ls2 := [(0, .ref s_EB), (1, .int x1)]) (st2 := []) (v := eb_q ((¬ (x1 < 0)) ∧ (¬ (((eb_I h r1 0) * (eb_I h r1 1)) ≤ x1)))) ?_ (fun jj10 => ?_)
  · refine eb_if_ne (pc := 8) (tgt := 14) rfl (by decide) (fun c6 => ?_) (fun c6 => ?_)
    · replace c6 := eb_q1.mp c6
      replace w := w.1 c6
      refine eb_aload_n (pc := 14) (n := 0) (i := 0) rfl rfl rfl ?_
      refine eb_iload_n (pc := 15) (n := 1) (i := 1) rfl rfl rfl ?_
      refine eb_ctV (pc := 16) (As := [.int x1]) (rest := []) rfl (by decide) rfl rfl (by decide) rfl (Nat.le_of_ble_eq_true rfl) ?_
      refine eb_Ct.mono w ?_
      rintro r h7 ⟨y8, rfl, ko9, w⟩
      change eb_Sn _ _ _ 19 _ [.long y8] _ _
      refine eb_lstore_n (pc := 19) (n := 2) (i := 2) (ls2 := [(2, .long y8), (0, .ref s_EB), (1, .int x1)]) rfl (Nat.le_of_ble_eq_true rfl) rfl rfl ?_
      refine eb_iconst (pc := 20) (n := -1) (v := (-1)) rfl rfl ?_
      refine eb_istore (pc := 21) (i := 4) (ls2 := [(4, .int (-1)), (2, .long y8), (0, .ref s_EB), (1, .int x1)]) (Nat.le_of_ble_eq_true rfl) rfl rfl ?_
      refine eb_iconst (pc := 23) (n := 0) (v := 0) rfl rfl ?_
      refine eb_istore (pc := 24) (i := 5) (ls2 := [(5, .int 0), (4, .int (-1)), (2, .long y8), (0, .ref s_EB), (1, .int x1)]) (Nat.le_of_ble_eq_true rfl) rfl rfl ?_
      exact eb_pick [2, 1, 0] rfl w
    · replace c6 := eb_q0.mp c6
      replace w := w.2 c6
      refine eb_bipush (pc := 11) (n := -2) (v := (-2)) rfl rfl ?_
      exact eb_ireturn (pc := 13) rfl rfl rfl w
  refine eb_ctV (pc := 5) (As := [.int x1]) (rest := []) rfl (by decide) rfl k3 (by decide) rfl (Nat.le_of_ble_eq_true rfl) ?_
  refine eb_bodyQ (by decide) ok_X9_has (Nat.le_of_ble_eq_true rfl) ?_
  change eb_Sn _ m_X9_has _ 0 [(0, .ref r1), (1, .int x1)] [] _ _
  refine eb_iload_n (pc := 0) (n := 1) (i := 1) rfl rfl rfl ?_
  refine eb_if_lt (pc := 1) (tgt := 21) rfl (by decide) (fun c4 => ?_) (fun c4 => ?_)
  · refine eb_iconst (pc := 21) (n := 0) (v := 0) rfl rfl ?_
    refine eb_ireturn (pc := 22) rfl rfl (by decide) ?_
    change eb_Sn _ _ _ 8 _ _ _ _
    exact jj10 0 (eb_qf (fun z => z.1 c4)).symm
  · refine eb_iload_n (pc := 4) (n := 1) (i := 1) rfl rfl rfl ?_
    refine eb_aload_n (pc := 5) (n := 0) (i := 0) rfl rfl rfl ?_
    refine eb_getI (pc := 6) rfl k3 (by decide) (by decide) rfl ?_
    refine eb_aload_n (pc := 9) (n := 0) (i := 0) rfl rfl rfl ?_
    refine eb_getI (pc := 10) rfl k3 (by decide) (by decide) rfl ?_
    refine eb_imul (pc := 13) rfl ?_
    refine eb_icmp_ge (pc := 14) (tgt := 21) rfl (by decide) (fun c5 => ?_) (fun c5 => ?_)
    · refine eb_iconst (pc := 21) (n := 0) (v := 0) rfl rfl ?_
      refine eb_ireturn (pc := 22) rfl rfl (by decide) ?_
      change eb_Sn _ _ _ 8 _ _ _ _
      exact jj10 0 (eb_qf (fun z => (fun z => z c5) z.2)).symm
    · refine eb_iconst (pc := 17) (n := 1) (v := 1) rfl rfl ?_
      refine eb_goto (pc := 18) (tgt := 22) rfl (by decide) ?_
      refine eb_ireturn (pc := 22) rfl rfl (by decide) ?_
      change eb_Sn _ _ _ 8 _ _ _ _
      exact jj10 1 (eb_qt (⟨c4, c5⟩)).symm
theorem b_X10_most_26 {d : Nat} {h0 h : eb_H} {Q : Option Value → eb_H → Prop} (x2 : Int64) (x4 : Int32) (x5 : Int32)  (ko : eb_KO h) (w : (((64 : Int32) ≤ x5 → Q (some (.int x4)) h) ∧ (¬ ((64 : Int32) ≤ x5) → ((¬ (((x2.toUInt64 >>> (x5.toInt64.toUInt64 &&& Int64.toUInt64 63)).toInt64) &&& 1) = 1 → eb_Sn (d + 1) m_X10_most h0 26 [(2, .long x2), (4, .int x4), (5, .int (x5 + 1))] [] h Q) ∧ ((((x2.toUInt64 >>> (x5.toInt64.toUInt64 &&& Int64.toUInt64 63)).toInt64) &&& 1) = 1 → eb_Ct d 283 [.int x5] h (fun r h3 => ∃ y4, r = some (.int y4) ∧ eb_KO h3 ∧ eb_Sn (d + 1) m_X10_most h0 26 [(2, .long x2), (4, .int (if x4 < y4 then y4 else x4 : Int32)), (5, .int (x5 + 1))] [] h3 Q)))))) : eb_Sn (d + 1) m_X10_most h0 26 [(2, .long x2), (4, .int x4), (5, .int x5)] [] h Q := by
  refine eb_iload (pc := 26) (i := 5) rfl rfl ?_
  refine eb_bipush (pc := 28) (n := 64) (v := 64) rfl rfl ?_
  refine eb_icmp_ge (pc := 30) (tgt := 62) rfl (by decide) (fun c1 => ?_) (fun c1 => ?_)
  · replace w := w.1 c1
    refine eb_iload (pc := 62) (i := 4) rfl rfl ?_
    exact eb_ireturn (pc := 64) rfl rfl rfl w
  · replace w := w.2 c1
    refine eb_lload_n (pc := 33) (n := 2) (i := 2) rfl rfl rfl ?_
    refine eb_iload (pc := 34) (i := 5) rfl rfl ?_
    refine eb_lushr (pc := 36) rfl ?_
    refine eb_lconst (pc := 37) (n := 1) (v := 1) rfl rfl ?_
    refine eb_land (pc := 38) rfl ?_
    refine eb_lconst (pc := 39) (n := 1) (v := 1) rfl rfl ?_
    refine eb_lcmp (pc := 40) rfl ?_
    refine eb_if_ne (pc := 41) (tgt := 56) rfl (by decide) (fun c2 => ?_) (fun c2 => ?_)
    · replace c2 := eb_lc_ne.mp c2
      replace w := w.1 c2
      refine eb_iinc (pc := 56) (i := 5) (n := 1) (v := x5 + 1) (ls2 := [(5, .int (x5 + 1)), (2, .long x2), (4, .int x4)]) (Nat.le_of_ble_eq_true rfl) rfl rfl rfl rfl ?_
      refine eb_goto (pc := 59) (tgt := 26) rfl (by decide) ?_
      exact eb_pick [1, 2, 0] rfl w
    · replace c2 := eb_lc_eq.mp c2
      replace w := w.2 c2
      refine eb_iload (pc := 44) (i := 4) rfl rfl ?_
      refine eb_iload (pc := 46) (i := 5) rfl rfl ?_
      refine eb_ctS (pc := 48) (As := [.int x5]) (rest := [.int x4]) rfl (by decide) (by decide) rfl rfl (Nat.le_of_ble_eq_true rfl) ?_
      refine eb_Ct.mono w ?_
      rintro r h3 ⟨y4, rfl, ko5, w⟩
      change eb_Sn _ _ _ 51 _ [.int y4, .int x4] _ _
      refine eb_ctS (pc := 51) (As := [.int x4, .int y4]) (rest := []) rfl (by decide) (by decide) rfl rfl (Nat.le_of_ble_eq_true rfl) ?_
      refine eb_bodyQ (by decide) ok_J9_max_7cf53 (Nat.le_of_ble_eq_true rfl) ?_
      change eb_Sn _ m_J9_max_7cf53 _ 0 [(0, .int x4), (1, .int y4)] [] _ _
      refine eb_iload_n (pc := 0) (n := 0) (i := 0) rfl rfl rfl ?_
      refine eb_iload_n (pc := 1) (n := 1) (i := 1) rfl rfl rfl ?_
      refine eb_joinI (pc2 := 10) (ls2 := [(0, .int x4), (1, .int y4)]) (st2 := []) (v := (if x4 < y4 then y4 else x4 : Int32)) ?_ (fun jj7 => ?_)
      · refine eb_ireturn (pc := 10) rfl rfl rfl ?_
        change eb_Sn _ _ _ 54 _ [.int (if x4 < y4 then y4 else x4 : Int32)] _ _
        refine eb_istore (pc := 54) (i := 4) (ls2 := [(4, .int (if x4 < y4 then y4 else x4 : Int32)), (2, .long x2), (5, .int x5)]) (Nat.le_of_ble_eq_true rfl) rfl rfl ?_
        refine eb_iinc (pc := 56) (i := 5) (n := 1) (v := x5 + 1) (ls2 := [(5, .int (x5 + 1)), (4, .int (if x4 < y4 then y4 else x4 : Int32)), (2, .long x2)]) (Nat.le_of_ble_eq_true rfl) rfl rfl rfl rfl ?_
        refine eb_goto (pc := 59) (tgt := 26) rfl (by decide) ?_
        exact eb_pick [2, 1, 0] rfl w
      refine eb_icmp_lt (pc := 2) (tgt := 9) rfl (by decide) (fun c6 => ?_) (fun c6 => ?_)
      · refine eb_iload_n (pc := 9) (n := 1) (i := 1) rfl rfl rfl ?_
        exact jj7 _ (by simp only [if_pos c6])
      · refine eb_iload_n (pc := 5) (n := 0) (i := 0) rfl rfl rfl ?_
        refine eb_goto (pc := 6) (tgt := 10) rfl (by decide) ?_
        exact jj7 _ (by simp only [if_neg c6])
theorem T_X10_most {d : Nat} {h : eb_H} {Q : Option Value → eb_H → Prop} (x1 : Int32)  (ko : eb_KO h) (w : ∃ r1, eb_R h s_EB 2 = some r1 ∧ eb_kd r1 = 9 ∧ (((¬ (x1 < 0)) ∧ (¬ (((eb_I h r1 0) * (eb_I h r1 1)) ≤ x1)) → eb_Ct d 148 [.ref s_EB, .int x1] h (fun r h7 => ∃ y8, r = some (.long y8) ∧ eb_KO h7 ∧ eb_Sn (d + 1) m_X10_most h 26 [(2, .long y8), (4, .int (-1)), (5, .int 0)] [] h7 Q)) ∧ (¬ ((¬ (x1 < 0)) ∧ (¬ (((eb_I h r1 0) * (eb_I h r1 1)) ≤ x1))) → Q (some (.int (-2))) h))) : eb_Ct (d + 1) 118 [.ref s_EB, .int x1] h Q :=
  eb_bodyQ (by decide) ok_X10_most (Nat.le_of_ble_eq_true rfl) (b_X10_most_0 (h0 := h) x1  ko w)
theorem b_X10_tidings_0 {d : Nat} {h0 h : eb_H} {Q : Option Value → eb_H → Prop} (x1 : Int32)  (ko : eb_KO h) (w : ∃ r1, eb_R h s_EB 2 = some r1 ∧ eb_kd r1 = 9 ∧ ((¬ ((¬ (x1 < 0)) ∧ (¬ ((eb_I h r1 4) ≤ x1))) → Q (some (.int (-2))) h) ∧ ((¬ (x1 < 0)) ∧ (¬ ((eb_I h r1 4) ≤ x1)) → ((x1 < 0 → eb_Ct d 148 [.ref s_EB, .int (-1)] h (fun r h13 => ∃ y14, r = some (.long y14) ∧ eb_KO h13 ∧ eb_Ct d 284 [.long y14] h13 (fun r h16 => ∃ y17, r = some (.int y17) ∧ eb_KO h16 ∧ Q (some (.int y17)) h16))) ∧ (¬ (x1 < 0) → ∃ r8, eb_R h r1 5 = some r8 ∧ eb_kd r8 = 13 ∧ (((Int32.ofNat (eb_ln r8)) ≤ x1 → eb_Ct d 148 [.ref s_EB, .int (-1)] h (fun r h19 => ∃ y20, r = some (.long y20) ∧ eb_KO h19 ∧ eb_Ct d 284 [.long y20] h19 (fun r h22 => ∃ y23, r = some (.int y23) ∧ eb_KO h22 ∧ Q (some (.int y23)) h22))) ∧ (¬ ((Int32.ofNat (eb_ln r8)) ≤ x1) → (vp_in x1 (eb_ln r8)) ∧ eb_Ct d 148 [.ref s_EB, .int (eb_I h r8 x1.toNatClampNeg)] h (fun r h25 => ∃ y26, r = some (.long y26) ∧ eb_KO h25 ∧ eb_Ct d 284 [.long y26] h25 (fun r h28 => ∃ y29, r = some (.int y29) ∧ eb_KO h28 ∧ Q (some (.int y29)) h28))))))))) : eb_Sn (d + 1) m_X10_tidings h0 0 [(0, .ref s_EB), (1, .int x1)] [] h Q := by
  refine eb_aload_n (pc := 0) (n := 0) (i := 0) rfl rfl rfl ?_
  obtain ⟨r1, q2, k3, w⟩ := w
  refine eb_getR (pc := 1) rfl rfl (by decide) (by decide) rfl q2 ?_
  refine eb_iload_n (pc := 4) (n := 1) (i := 1) rfl rfl rfl ?_
  refine eb_joinI (pc2 := 8) (ls2 := [(0, .ref s_EB), (1, .int x1)]) (st2 := []) (v := eb_q ((¬ (x1 < 0)) ∧ (¬ ((eb_I h r1 4) ≤ x1)))) ?_ (fun jj31 => ?_)
  · refine eb_if_eq (pc := 8) (tgt := 29) rfl (by decide) (fun c6 => ?_) (fun c6 => ?_)
    · replace c6 := eb_q0.mp c6
      replace w := w.1 c6
      refine eb_bipush (pc := 29) (n := -2) (v := (-2)) rfl rfl ?_
      exact eb_ireturn (pc := 31) rfl rfl rfl w
    · replace c6 := eb_q1.mp c6
      replace w := w.2 c6
      refine eb_aload_n (pc := 11) (n := 0) (i := 0) rfl rfl rfl ?_
      refine eb_aload_n (pc := 12) (n := 0) (i := 0) rfl rfl rfl ?_
      refine eb_getR (pc := 13) rfl rfl (by decide) (by decide) rfl q2 ?_
      refine eb_iload_n (pc := 16) (n := 1) (i := 1) rfl rfl rfl ?_
      refine eb_ctV (pc := 17) (As := [.int x1]) (rest := [.ref s_EB]) rfl (by decide) rfl k3 (by decide) rfl (Nat.le_of_ble_eq_true rfl) ?_
      refine eb_bodyQ (by decide) ok_X9_houseCell (Nat.le_of_ble_eq_true rfl) ?_
      change eb_Sn _ m_X9_houseCell _ 0 [(0, .ref r1), (1, .int x1)] [] _ _
      refine eb_iload_n (pc := 0) (n := 1) (i := 1) rfl rfl rfl ?_
      refine eb_if_lt (pc := 1) (tgt := 22) rfl (by decide) (fun c7 => ?_) (fun c7 => ?_)
      · replace w := w.1 c7
        refine eb_iconst (pc := 22) (n := -1) (v := (-1)) rfl rfl ?_
        refine eb_ireturn (pc := 23) rfl rfl rfl ?_
        change eb_Sn _ _ _ 20 _ [.int (-1), .ref s_EB] _ _
        refine eb_ctV (pc := 20) (As := [.int (-1)]) (rest := []) rfl (by decide) rfl rfl (by decide) rfl (Nat.le_of_ble_eq_true rfl) ?_
        refine eb_Ct.mono w ?_
        rintro r h13 ⟨y14, rfl, ko15, w⟩
        change eb_Sn _ _ _ 23 _ [.long y14] _ _
        refine eb_ctS (pc := 23) (As := [.long y14]) (rest := []) rfl (by decide) (by decide) rfl rfl (Nat.le_of_ble_eq_true rfl) ?_
        refine eb_Ct.mono w ?_
        rintro r h16 ⟨y17, rfl, ko18, w⟩
        change eb_Sn _ _ _ 26 _ [.int y17] _ _
        refine eb_goto (pc := 26) (tgt := 31) rfl (by decide) ?_
        exact eb_ireturn (pc := 31) rfl rfl rfl w
      · replace w := w.2 c7
        refine eb_iload_n (pc := 4) (n := 1) (i := 1) rfl rfl rfl ?_
        refine eb_aload_n (pc := 5) (n := 0) (i := 0) rfl rfl rfl ?_
        obtain ⟨r8, q9, k10, w⟩ := w
        refine eb_getR (pc := 6) rfl k3 (by decide) (by decide) rfl q9 ?_
        refine eb_alen (pc := 9) rfl (by rw [k10]; decide) (by rw [k10]; decide) rfl ?_
        refine eb_icmp_ge (pc := 10) (tgt := 22) rfl (by decide) (fun c11 => ?_) (fun c11 => ?_)
        · replace w := w.1 c11
          refine eb_iconst (pc := 22) (n := -1) (v := (-1)) rfl rfl ?_
          refine eb_ireturn (pc := 23) rfl rfl rfl ?_
          change eb_Sn _ _ _ 20 _ [.int (-1), .ref s_EB] _ _
          refine eb_ctV (pc := 20) (As := [.int (-1)]) (rest := []) rfl (by decide) rfl rfl (by decide) rfl (Nat.le_of_ble_eq_true rfl) ?_
          refine eb_Ct.mono w ?_
          rintro r h19 ⟨y20, rfl, ko21, w⟩
          change eb_Sn _ _ _ 23 _ [.long y20] _ _
          refine eb_ctS (pc := 23) (As := [.long y20]) (rest := []) rfl (by decide) (by decide) rfl rfl (Nat.le_of_ble_eq_true rfl) ?_
          refine eb_Ct.mono w ?_
          rintro r h22 ⟨y23, rfl, ko24, w⟩
          change eb_Sn _ _ _ 26 _ [.int y23] _ _
          refine eb_goto (pc := 26) (tgt := 31) rfl (by decide) ?_
          exact eb_ireturn (pc := 31) rfl rfl rfl w
        · replace w := w.2 c11
          refine eb_aload_n (pc := 13) (n := 0) (i := 0) rfl rfl rfl ?_
          refine eb_getR (pc := 14) rfl k3 (by decide) (by decide) rfl q9 ?_
          refine eb_iload_n (pc := 17) (n := 1) (i := 1) rfl rfl rfl ?_
          obtain ⟨c12, w⟩ := w
          refine eb_iaload (pc := 18) rfl k10 (by decide) c12 ?_
          refine eb_goto (pc := 19) (tgt := 23) rfl (by decide) ?_
          refine eb_ireturn (pc := 23) rfl rfl rfl ?_
          change eb_Sn _ _ _ 20 _ [.int (eb_I h r8 x1.toNatClampNeg), .ref s_EB] _ _
          refine eb_ctV (pc := 20) (As := [.int (eb_I h r8 x1.toNatClampNeg)]) (rest := []) rfl (by decide) rfl rfl (by decide) rfl (Nat.le_of_ble_eq_true rfl) ?_
          refine eb_Ct.mono w ?_
          rintro r h25 ⟨y26, rfl, ko27, w⟩
          change eb_Sn _ _ _ 23 _ [.long y26] _ _
          refine eb_ctS (pc := 23) (As := [.long y26]) (rest := []) rfl (by decide) (by decide) rfl rfl (Nat.le_of_ble_eq_true rfl) ?_
          refine eb_Ct.mono w ?_
          rintro r h28 ⟨y29, rfl, ko30, w⟩
          change eb_Sn _ _ _ 26 _ [.int y29] _ _
          refine eb_goto (pc := 26) (tgt := 31) rfl (by decide) ?_
          exact eb_ireturn (pc := 31) rfl rfl rfl w
  refine eb_ctV (pc := 5) (As := [.int x1]) (rest := []) rfl (by decide) rfl k3 (by decide) rfl (Nat.le_of_ble_eq_true rfl) ?_
  refine eb_bodyQ (by decide) ok_X9_hasHouse (Nat.le_of_ble_eq_true rfl) ?_
  change eb_Sn _ m_X9_hasHouse _ 0 [(0, .ref r1), (1, .int x1)] [] _ _
  refine eb_iload_n (pc := 0) (n := 1) (i := 1) rfl rfl rfl ?_
  refine eb_if_lt (pc := 1) (tgt := 16) rfl (by decide) (fun c4 => ?_) (fun c4 => ?_)
  · refine eb_iconst (pc := 16) (n := 0) (v := 0) rfl rfl ?_
    refine eb_ireturn (pc := 17) rfl rfl (by decide) ?_
    change eb_Sn _ _ _ 8 _ _ _ _
    exact jj31 0 (eb_qf (fun z => z.1 c4)).symm
  · refine eb_iload_n (pc := 4) (n := 1) (i := 1) rfl rfl rfl ?_
    refine eb_aload_n (pc := 5) (n := 0) (i := 0) rfl rfl rfl ?_
    refine eb_getI (pc := 6) rfl k3 (by decide) (by decide) rfl ?_
    refine eb_icmp_ge (pc := 9) (tgt := 16) rfl (by decide) (fun c5 => ?_) (fun c5 => ?_)
    · refine eb_iconst (pc := 16) (n := 0) (v := 0) rfl rfl ?_
      refine eb_ireturn (pc := 17) rfl rfl (by decide) ?_
      change eb_Sn _ _ _ 8 _ _ _ _
      exact jj31 0 (eb_qf (fun z => (fun z => z c5) z.2)).symm
    · refine eb_iconst (pc := 12) (n := 1) (v := 1) rfl rfl ?_
      refine eb_goto (pc := 13) (tgt := 17) rfl (by decide) ?_
      refine eb_ireturn (pc := 17) rfl rfl (by decide) ?_
      change eb_Sn _ _ _ 8 _ _ _ _
      exact jj31 1 (eb_qt (⟨c4, c5⟩)).symm
theorem T_X10_tidings {d : Nat} {h : eb_H} {Q : Option Value → eb_H → Prop} (x1 : Int32)  (ko : eb_KO h) (w : ∃ r1, eb_R h s_EB 2 = some r1 ∧ eb_kd r1 = 9 ∧ ((¬ ((¬ (x1 < 0)) ∧ (¬ ((eb_I h r1 4) ≤ x1))) → Q (some (.int (-2))) h) ∧ ((¬ (x1 < 0)) ∧ (¬ ((eb_I h r1 4) ≤ x1)) → ((x1 < 0 → eb_Ct d 148 [.ref s_EB, .int (-1)] h (fun r h13 => ∃ y14, r = some (.long y14) ∧ eb_KO h13 ∧ eb_Ct d 284 [.long y14] h13 (fun r h16 => ∃ y17, r = some (.int y17) ∧ eb_KO h16 ∧ Q (some (.int y17)) h16))) ∧ (¬ (x1 < 0) → ∃ r8, eb_R h r1 5 = some r8 ∧ eb_kd r8 = 13 ∧ (((Int32.ofNat (eb_ln r8)) ≤ x1 → eb_Ct d 148 [.ref s_EB, .int (-1)] h (fun r h19 => ∃ y20, r = some (.long y20) ∧ eb_KO h19 ∧ eb_Ct d 284 [.long y20] h19 (fun r h22 => ∃ y23, r = some (.int y23) ∧ eb_KO h22 ∧ Q (some (.int y23)) h22))) ∧ (¬ ((Int32.ofNat (eb_ln r8)) ≤ x1) → (vp_in x1 (eb_ln r8)) ∧ eb_Ct d 148 [.ref s_EB, .int (eb_I h r8 x1.toNatClampNeg)] h (fun r h25 => ∃ y26, r = some (.long y26) ∧ eb_KO h25 ∧ eb_Ct d 284 [.long y26] h25 (fun r h28 => ∃ y29, r = some (.int y29) ∧ eb_KO h28 ∧ Q (some (.int y29)) h28))))))))) : eb_Ct (d + 1) 119 [.ref s_EB, .int x1] h Q :=
  eb_bodyQ (by decide) ok_X10_tidings (Nat.le_of_ble_eq_true rfl) (b_X10_tidings_0 (h0 := h) x1  ko w)
theorem b_X10_tiding_0 {d : Nat} {h0 h : eb_H} {Q : Option Value → eb_H → Prop} (x1 : Int32) (x2 : Int32)  (ko : eb_KO h) (w : ∃ r1, eb_R h s_EB 2 = some r1 ∧ eb_kd r1 = 9 ∧ (((¬ (x1 < 0)) ∧ (¬ ((eb_I h r1 4) ≤ x1)) → ((0 ≤ x2 → ((x1 < 0 → eb_Ct d 148 [.ref s_EB, .int (-1)] h (fun r h14 => ∃ y15, r = some (.long y15) ∧ eb_KO h14 ∧ eb_Sn (d + 1) m_X10_tiding h0 40 [(2, .int x2), (3, .long y15), (5, .int 0), (6, .int 0)] [] h14 Q)) ∧ (¬ (x1 < 0) → ∃ r9, eb_R h r1 5 = some r9 ∧ eb_kd r9 = 13 ∧ (((Int32.ofNat (eb_ln r9)) ≤ x1 → eb_Ct d 148 [.ref s_EB, .int (-1)] h (fun r h17 => ∃ y18, r = some (.long y18) ∧ eb_KO h17 ∧ eb_Sn (d + 1) m_X10_tiding h0 40 [(2, .int x2), (3, .long y18), (5, .int 0), (6, .int 0)] [] h17 Q)) ∧ (¬ ((Int32.ofNat (eb_ln r9)) ≤ x1) → (vp_in x1 (eb_ln r9)) ∧ eb_Ct d 148 [.ref s_EB, .int (eb_I h r9 x1.toNatClampNeg)] h (fun r h20 => ∃ y21, r = some (.long y21) ∧ eb_KO h20 ∧ eb_Sn (d + 1) m_X10_tiding h0 40 [(2, .int x2), (3, .long y21), (5, .int 0), (6, .int 0)] [] h20 Q)))))) ∧ (¬ (0 ≤ x2) → Q (some (.int (-3))) h))) ∧ (¬ ((¬ (x1 < 0)) ∧ (¬ ((eb_I h r1 4) ≤ x1))) → Q (some (.int (-2))) h))) : eb_Sn (d + 1) m_X10_tiding h0 0 [(0, .ref s_EB), (1, .int x1), (2, .int x2)] [] h Q := by
  refine eb_aload_n (pc := 0) (n := 0) (i := 0) rfl rfl rfl ?_
  obtain ⟨r1, q2, k3, w⟩ := w
  refine eb_getR (pc := 1) rfl rfl (by decide) (by decide) rfl q2 ?_
  refine eb_iload_n (pc := 4) (n := 1) (i := 1) rfl rfl rfl ?_
  refine eb_joinI (pc2 := 8) (ls2 := [(0, .ref s_EB), (1, .int x1), (2, .int x2)]) (st2 := []) (v := eb_q ((¬ (x1 < 0)) ∧ (¬ ((eb_I h r1 4) ≤ x1)))) ?_ (fun jj23 => ?_)
  · refine eb_if_ne (pc := 8) (tgt := 14) rfl (by decide) (fun c6 => ?_) (fun c6 => ?_)
    · replace c6 := eb_q1.mp c6
      replace w := w.1 c6
      refine eb_iload_n (pc := 14) (n := 2) (i := 2) rfl rfl rfl ?_
      refine eb_if_ge (pc := 15) (tgt := 21) rfl (by decide) (fun c7 => ?_) (fun c7 => ?_)
      · replace w := w.1 c7
        refine eb_aload_n (pc := 21) (n := 0) (i := 0) rfl rfl rfl ?_
        refine eb_aload_n (pc := 22) (n := 0) (i := 0) rfl rfl rfl ?_
        refine eb_getR (pc := 23) rfl rfl (by decide) (by decide) rfl q2 ?_
        refine eb_iload_n (pc := 26) (n := 1) (i := 1) rfl rfl rfl ?_
        refine eb_ctV (pc := 27) (As := [.int x1]) (rest := [.ref s_EB]) rfl (by decide) rfl k3 (by decide) rfl (Nat.le_of_ble_eq_true rfl) ?_
        refine eb_bodyQ (by decide) ok_X9_houseCell (Nat.le_of_ble_eq_true rfl) ?_
        change eb_Sn _ m_X9_houseCell _ 0 [(0, .ref r1), (1, .int x1)] [] _ _
        refine eb_iload_n (pc := 0) (n := 1) (i := 1) rfl rfl rfl ?_
        refine eb_if_lt (pc := 1) (tgt := 22) rfl (by decide) (fun c8 => ?_) (fun c8 => ?_)
        · replace w := w.1 c8
          refine eb_iconst (pc := 22) (n := -1) (v := (-1)) rfl rfl ?_
          refine eb_ireturn (pc := 23) rfl rfl rfl ?_
          change eb_Sn _ _ _ 30 _ [.int (-1), .ref s_EB] _ _
          refine eb_ctV (pc := 30) (As := [.int (-1)]) (rest := []) rfl (by decide) rfl rfl (by decide) rfl (Nat.le_of_ble_eq_true rfl) ?_
          refine eb_Ct.mono w ?_
          rintro r h14 ⟨y15, rfl, ko16, w⟩
          change eb_Sn _ _ _ 33 _ [.long y15] _ _
          refine eb_lstore_n (pc := 33) (n := 3) (i := 3) (ls2 := [(3, .long y15), (0, .ref s_EB), (1, .int x1), (2, .int x2)]) rfl (Nat.le_of_ble_eq_true rfl) rfl rfl ?_
          refine eb_iconst (pc := 34) (n := 0) (v := 0) rfl rfl ?_
          refine eb_istore (pc := 35) (i := 5) (ls2 := [(5, .int 0), (3, .long y15), (0, .ref s_EB), (1, .int x1), (2, .int x2)]) (Nat.le_of_ble_eq_true rfl) rfl rfl ?_
          refine eb_iconst (pc := 37) (n := 0) (v := 0) rfl rfl ?_
          refine eb_istore (pc := 38) (i := 6) (ls2 := [(6, .int 0), (5, .int 0), (3, .long y15), (0, .ref s_EB), (1, .int x1), (2, .int x2)]) (Nat.le_of_ble_eq_true rfl) rfl rfl ?_
          exact eb_pick [5, 2, 1, 0] rfl w
        · replace w := w.2 c8
          refine eb_iload_n (pc := 4) (n := 1) (i := 1) rfl rfl rfl ?_
          refine eb_aload_n (pc := 5) (n := 0) (i := 0) rfl rfl rfl ?_
          obtain ⟨r9, q10, k11, w⟩ := w
          refine eb_getR (pc := 6) rfl k3 (by decide) (by decide) rfl q10 ?_
          refine eb_alen (pc := 9) rfl (by rw [k11]; decide) (by rw [k11]; decide) rfl ?_
          refine eb_icmp_ge (pc := 10) (tgt := 22) rfl (by decide) (fun c12 => ?_) (fun c12 => ?_)
          · replace w := w.1 c12
            refine eb_iconst (pc := 22) (n := -1) (v := (-1)) rfl rfl ?_
            refine eb_ireturn (pc := 23) rfl rfl rfl ?_
            change eb_Sn _ _ _ 30 _ [.int (-1), .ref s_EB] _ _
            refine eb_ctV (pc := 30) (As := [.int (-1)]) (rest := []) rfl (by decide) rfl rfl (by decide) rfl (Nat.le_of_ble_eq_true rfl) ?_
            refine eb_Ct.mono w ?_
            rintro r h17 ⟨y18, rfl, ko19, w⟩
            change eb_Sn _ _ _ 33 _ [.long y18] _ _
            refine eb_lstore_n (pc := 33) (n := 3) (i := 3) (ls2 := [(3, .long y18), (0, .ref s_EB), (1, .int x1), (2, .int x2)]) rfl (Nat.le_of_ble_eq_true rfl) rfl rfl ?_
            refine eb_iconst (pc := 34) (n := 0) (v := 0) rfl rfl ?_
            refine eb_istore (pc := 35) (i := 5) (ls2 := [(5, .int 0), (3, .long y18), (0, .ref s_EB), (1, .int x1), (2, .int x2)]) (Nat.le_of_ble_eq_true rfl) rfl rfl ?_
            refine eb_iconst (pc := 37) (n := 0) (v := 0) rfl rfl ?_
            refine eb_istore (pc := 38) (i := 6) (ls2 := [(6, .int 0), (5, .int 0), (3, .long y18), (0, .ref s_EB), (1, .int x1), (2, .int x2)]) (Nat.le_of_ble_eq_true rfl) rfl rfl ?_
            exact eb_pick [5, 2, 1, 0] rfl w
          · replace w := w.2 c12
            refine eb_aload_n (pc := 13) (n := 0) (i := 0) rfl rfl rfl ?_
            refine eb_getR (pc := 14) rfl k3 (by decide) (by decide) rfl q10 ?_
            refine eb_iload_n (pc := 17) (n := 1) (i := 1) rfl rfl rfl ?_
            obtain ⟨c13, w⟩ := w
            refine eb_iaload (pc := 18) rfl k11 (by decide) c13 ?_
            refine eb_goto (pc := 19) (tgt := 23) rfl (by decide) ?_
            refine eb_ireturn (pc := 23) rfl rfl rfl ?_
            change eb_Sn _ _ _ 30 _ [.int (eb_I h r9 x1.toNatClampNeg), .ref s_EB] _ _
            refine eb_ctV (pc := 30) (As := [.int (eb_I h r9 x1.toNatClampNeg)]) (rest := []) rfl (by decide) rfl rfl (by decide) rfl (Nat.le_of_ble_eq_true rfl) ?_
            refine eb_Ct.mono w ?_
            rintro r h20 ⟨y21, rfl, ko22, w⟩
            change eb_Sn _ _ _ 33 _ [.long y21] _ _
            refine eb_lstore_n (pc := 33) (n := 3) (i := 3) (ls2 := [(3, .long y21), (0, .ref s_EB), (1, .int x1), (2, .int x2)]) rfl (Nat.le_of_ble_eq_true rfl) rfl rfl ?_
            refine eb_iconst (pc := 34) (n := 0) (v := 0) rfl rfl ?_
            refine eb_istore (pc := 35) (i := 5) (ls2 := [(5, .int 0), (3, .long y21), (0, .ref s_EB), (1, .int x1), (2, .int x2)]) (Nat.le_of_ble_eq_true rfl) rfl rfl ?_
            refine eb_iconst (pc := 37) (n := 0) (v := 0) rfl rfl ?_
            refine eb_istore (pc := 38) (i := 6) (ls2 := [(6, .int 0), (5, .int 0), (3, .long y21), (0, .ref s_EB), (1, .int x1), (2, .int x2)]) (Nat.le_of_ble_eq_true rfl) rfl rfl ?_
            exact eb_pick [5, 2, 1, 0] rfl w
      · replace w := w.2 c7
        refine eb_bipush (pc := 18) (n := -3) (v := (-3)) rfl rfl ?_
        exact eb_ireturn (pc := 20) rfl rfl rfl w
    · replace c6 := eb_q0.mp c6
      replace w := w.2 c6
      refine eb_bipush (pc := 11) (n := -2) (v := (-2)) rfl rfl ?_
      exact eb_ireturn (pc := 13) rfl rfl rfl w
  refine eb_ctV (pc := 5) (As := [.int x1]) (rest := []) rfl (by decide) rfl k3 (by decide) rfl (Nat.le_of_ble_eq_true rfl) ?_
  refine eb_bodyQ (by decide) ok_X9_hasHouse (Nat.le_of_ble_eq_true rfl) ?_
  change eb_Sn _ m_X9_hasHouse _ 0 [(0, .ref r1), (1, .int x1)] [] _ _
  refine eb_iload_n (pc := 0) (n := 1) (i := 1) rfl rfl rfl ?_
  refine eb_if_lt (pc := 1) (tgt := 16) rfl (by decide) (fun c4 => ?_) (fun c4 => ?_)
  · refine eb_iconst (pc := 16) (n := 0) (v := 0) rfl rfl ?_
    refine eb_ireturn (pc := 17) rfl rfl (by decide) ?_
    change eb_Sn _ _ _ 8 _ _ _ _
    exact jj23 0 (eb_qf (fun z => z.1 c4)).symm
  · refine eb_iload_n (pc := 4) (n := 1) (i := 1) rfl rfl rfl ?_
    refine eb_aload_n (pc := 5) (n := 0) (i := 0) rfl rfl rfl ?_
    refine eb_getI (pc := 6) rfl k3 (by decide) (by decide) rfl ?_
    refine eb_icmp_ge (pc := 9) (tgt := 16) rfl (by decide) (fun c5 => ?_) (fun c5 => ?_)
    · refine eb_iconst (pc := 16) (n := 0) (v := 0) rfl rfl ?_
      refine eb_ireturn (pc := 17) rfl rfl (by decide) ?_
      change eb_Sn _ _ _ 8 _ _ _ _
      exact jj23 0 (eb_qf (fun z => (fun z => z c5) z.2)).symm
    · refine eb_iconst (pc := 12) (n := 1) (v := 1) rfl rfl ?_
      refine eb_goto (pc := 13) (tgt := 17) rfl (by decide) ?_
      refine eb_ireturn (pc := 17) rfl rfl (by decide) ?_
      change eb_Sn _ _ _ 8 _ _ _ _
      exact jj23 1 (eb_qt (⟨c4, c5⟩)).symm
theorem b_X10_tiding_40 {d : Nat} {h0 h : eb_H} {Q : Option Value → eb_H → Prop} (x2 : Int32) (x3 : Int64) (x5 : Int32) (x6 : Int32)  (ko : eb_KO h) (w : (((64 : Int32) ≤ x6 → Q (some (.int (-1))) h) ∧ (¬ ((64 : Int32) ≤ x6) → ((¬ (((x3.toUInt64 >>> (x6.toInt64.toUInt64 &&& Int64.toUInt64 63)).toInt64) &&& 1) = 0 → ((¬ x5 = x2 → eb_Sn (d + 1) m_X10_tiding h0 40 [(2, .int x2), (3, .long x3), (5, .int (x5 + 1)), (6, .int (x6 + 1))] [] h Q) ∧ (x5 = x2 → Q (some (.int x6)) h))) ∧ ((((x3.toUInt64 >>> (x6.toInt64.toUInt64 &&& Int64.toUInt64 63)).toInt64) &&& 1) = 0 → eb_Sn (d + 1) m_X10_tiding h0 40 [(2, .int x2), (3, .long x3), (5, .int x5), (6, .int (x6 + 1))] [] h Q))))) : eb_Sn (d + 1) m_X10_tiding h0 40 [(2, .int x2), (3, .long x3), (5, .int x5), (6, .int x6)] [] h Q := by
  refine eb_iload (pc := 40) (i := 6) rfl rfl ?_
  refine eb_bipush (pc := 42) (n := 64) (v := 64) rfl rfl ?_
  refine eb_icmp_ge (pc := 44) (tgt := 79) rfl (by decide) (fun c1 => ?_) (fun c1 => ?_)
  · replace w := w.1 c1
    refine eb_iconst (pc := 79) (n := -1) (v := (-1)) rfl rfl ?_
    exact eb_ireturn (pc := 80) rfl rfl rfl w
  · replace w := w.2 c1
    refine eb_lload_n (pc := 47) (n := 3) (i := 3) rfl rfl rfl ?_
    refine eb_iload (pc := 48) (i := 6) rfl rfl ?_
    refine eb_lushr (pc := 50) rfl ?_
    refine eb_lconst (pc := 51) (n := 1) (v := 1) rfl rfl ?_
    refine eb_land (pc := 52) rfl ?_
    refine eb_lconst (pc := 53) (n := 0) (v := 0) rfl rfl ?_
    refine eb_lcmp (pc := 54) rfl ?_
    refine eb_if_ne (pc := 55) (tgt := 61) rfl (by decide) (fun c2 => ?_) (fun c2 => ?_)
    · replace c2 := eb_lc_ne.mp c2
      replace w := w.1 c2
      refine eb_iload (pc := 61) (i := 5) rfl rfl ?_
      refine eb_iload_n (pc := 63) (n := 2) (i := 2) rfl rfl rfl ?_
      refine eb_icmp_ne (pc := 64) (tgt := 70) rfl (by decide) (fun c3 => ?_) (fun c3 => ?_)
      · replace w := w.1 c3
        refine eb_iinc (pc := 70) (i := 5) (n := 1) (v := x5 + 1) (ls2 := [(5, .int (x5 + 1)), (2, .int x2), (3, .long x3), (6, .int x6)]) (Nat.le_of_ble_eq_true rfl) rfl rfl rfl rfl ?_
        refine eb_iinc (pc := 73) (i := 6) (n := 1) (v := x6 + 1) (ls2 := [(6, .int (x6 + 1)), (5, .int (x5 + 1)), (2, .int x2), (3, .long x3)]) (Nat.le_of_ble_eq_true rfl) rfl rfl rfl rfl ?_
        refine eb_goto (pc := 76) (tgt := 40) rfl (by decide) ?_
        exact eb_pick [2, 3, 1, 0] rfl w
      · replace w := w.2 c3
        refine eb_iload (pc := 67) (i := 6) rfl rfl ?_
        exact eb_ireturn (pc := 69) rfl rfl rfl w
    · replace c2 := eb_lc_eq.mp c2
      replace w := w.2 c2
      refine eb_goto (pc := 58) (tgt := 73) rfl (by decide) ?_
      refine eb_iinc (pc := 73) (i := 6) (n := 1) (v := x6 + 1) (ls2 := [(6, .int (x6 + 1)), (2, .int x2), (3, .long x3), (5, .int x5)]) (Nat.le_of_ble_eq_true rfl) rfl rfl rfl rfl ?_
      refine eb_goto (pc := 76) (tgt := 40) rfl (by decide) ?_
      exact eb_pick [1, 2, 3, 0] rfl w
theorem T_X10_tiding {d : Nat} {h : eb_H} {Q : Option Value → eb_H → Prop} (x1 : Int32) (x2 : Int32)  (ko : eb_KO h) (w : ∃ r1, eb_R h s_EB 2 = some r1 ∧ eb_kd r1 = 9 ∧ (((¬ (x1 < 0)) ∧ (¬ ((eb_I h r1 4) ≤ x1)) → ((0 ≤ x2 → ((x1 < 0 → eb_Ct d 148 [.ref s_EB, .int (-1)] h (fun r h14 => ∃ y15, r = some (.long y15) ∧ eb_KO h14 ∧ eb_Sn (d + 1) m_X10_tiding h 40 [(2, .int x2), (3, .long y15), (5, .int 0), (6, .int 0)] [] h14 Q)) ∧ (¬ (x1 < 0) → ∃ r9, eb_R h r1 5 = some r9 ∧ eb_kd r9 = 13 ∧ (((Int32.ofNat (eb_ln r9)) ≤ x1 → eb_Ct d 148 [.ref s_EB, .int (-1)] h (fun r h17 => ∃ y18, r = some (.long y18) ∧ eb_KO h17 ∧ eb_Sn (d + 1) m_X10_tiding h 40 [(2, .int x2), (3, .long y18), (5, .int 0), (6, .int 0)] [] h17 Q)) ∧ (¬ ((Int32.ofNat (eb_ln r9)) ≤ x1) → (vp_in x1 (eb_ln r9)) ∧ eb_Ct d 148 [.ref s_EB, .int (eb_I h r9 x1.toNatClampNeg)] h (fun r h20 => ∃ y21, r = some (.long y21) ∧ eb_KO h20 ∧ eb_Sn (d + 1) m_X10_tiding h 40 [(2, .int x2), (3, .long y21), (5, .int 0), (6, .int 0)] [] h20 Q)))))) ∧ (¬ (0 ≤ x2) → Q (some (.int (-3))) h))) ∧ (¬ ((¬ (x1 < 0)) ∧ (¬ ((eb_I h r1 4) ≤ x1))) → Q (some (.int (-2))) h))) : eb_Ct (d + 1) 120 [.ref s_EB, .int x1, .int x2] h Q :=
  eb_bodyQ (by decide) ok_X10_tiding (Nat.le_of_ble_eq_true rfl) (b_X10_tiding_0 (h0 := h) x1 x2  ko w)
theorem b_X10_secret_0 {d : Nat} {h0 h : eb_H} {Q : Option Value → eb_H → Prop} (x1 : Int32) (x2 : Int32)  (ko : eb_KO h) (w : ∃ r1, eb_R h s_EB 2 = some r1 ∧ eb_kd r1 = 9 ∧ ((¬ ((¬ (x1 < 0)) ∧ (¬ ((eb_I h r1 4) ≤ x1))) → Q (some (.int (-2))) h) ∧ ((¬ (x1 < 0)) ∧ (¬ ((eb_I h r1 4) ≤ x1)) → (((¬ (x2 < 0)) ∧ (¬ ((eb_I h r1 4) ≤ x2)) → ((x1 < 0 → eb_Ct d 148 [.ref s_EB, .int (-1)] h (fun r h16 => ∃ y17, r = some (.long y17) ∧ eb_KO h16 ∧ ∃ r19, eb_R h16 s_EB 2 = some r19 ∧ eb_kd r19 = 9 ∧ ((x2 < 0 → eb_Ct d 16 [.ref s_flights, .int (-1)] h16 (fun r h28 => ∃ y29, r = some (.long y29) ∧ eb_KO h28 ∧ eb_Ct d 284 [.long (y17 &&& (y29 ^^^ (-1)))] h28 (fun r h31 => ∃ y32, r = some (.int y32) ∧ eb_KO h31 ∧ Q (some (.int y32)) h31))) ∧ (¬ (x2 < 0) → ∃ r23, eb_R h16 r19 5 = some r23 ∧ eb_kd r23 = 13 ∧ (((Int32.ofNat (eb_ln r23)) ≤ x2 → eb_Ct d 16 [.ref s_flights, .int (-1)] h16 (fun r h34 => ∃ y35, r = some (.long y35) ∧ eb_KO h34 ∧ eb_Ct d 284 [.long (y17 &&& (y35 ^^^ (-1)))] h34 (fun r h37 => ∃ y38, r = some (.int y38) ∧ eb_KO h37 ∧ Q (some (.int y38)) h37))) ∧ (¬ ((Int32.ofNat (eb_ln r23)) ≤ x2) → (vp_in x2 (eb_ln r23)) ∧ eb_Ct d 16 [.ref s_flights, .int (eb_I h16 r23 x2.toNatClampNeg)] h16 (fun r h40 => ∃ y41, r = some (.long y41) ∧ eb_KO h40 ∧ eb_Ct d 284 [.long (y17 &&& (y41 ^^^ (-1)))] h40 (fun r h43 => ∃ y44, r = some (.int y44) ∧ eb_KO h43 ∧ Q (some (.int y44)) h43)))))))) ∧ (¬ (x1 < 0) → ∃ r11, eb_R h r1 5 = some r11 ∧ eb_kd r11 = 13 ∧ (((Int32.ofNat (eb_ln r11)) ≤ x1 → eb_Ct d 148 [.ref s_EB, .int (-1)] h (fun r h46 => ∃ y47, r = some (.long y47) ∧ eb_KO h46 ∧ ∃ r49, eb_R h46 s_EB 2 = some r49 ∧ eb_kd r49 = 9 ∧ ((x2 < 0 → eb_Ct d 16 [.ref s_flights, .int (-1)] h46 (fun r h58 => ∃ y59, r = some (.long y59) ∧ eb_KO h58 ∧ eb_Ct d 284 [.long (y47 &&& (y59 ^^^ (-1)))] h58 (fun r h61 => ∃ y62, r = some (.int y62) ∧ eb_KO h61 ∧ Q (some (.int y62)) h61))) ∧ (¬ (x2 < 0) → ∃ r53, eb_R h46 r49 5 = some r53 ∧ eb_kd r53 = 13 ∧ (((Int32.ofNat (eb_ln r53)) ≤ x2 → eb_Ct d 16 [.ref s_flights, .int (-1)] h46 (fun r h64 => ∃ y65, r = some (.long y65) ∧ eb_KO h64 ∧ eb_Ct d 284 [.long (y47 &&& (y65 ^^^ (-1)))] h64 (fun r h67 => ∃ y68, r = some (.int y68) ∧ eb_KO h67 ∧ Q (some (.int y68)) h67))) ∧ (¬ ((Int32.ofNat (eb_ln r53)) ≤ x2) → (vp_in x2 (eb_ln r53)) ∧ eb_Ct d 16 [.ref s_flights, .int (eb_I h46 r53 x2.toNatClampNeg)] h46 (fun r h70 => ∃ y71, r = some (.long y71) ∧ eb_KO h70 ∧ eb_Ct d 284 [.long (y47 &&& (y71 ^^^ (-1)))] h70 (fun r h73 => ∃ y74, r = some (.int y74) ∧ eb_KO h73 ∧ Q (some (.int y74)) h73)))))))) ∧ (¬ ((Int32.ofNat (eb_ln r11)) ≤ x1) → (vp_in x1 (eb_ln r11)) ∧ eb_Ct d 148 [.ref s_EB, .int (eb_I h r11 x1.toNatClampNeg)] h (fun r h76 => ∃ y77, r = some (.long y77) ∧ eb_KO h76 ∧ ∃ r79, eb_R h76 s_EB 2 = some r79 ∧ eb_kd r79 = 9 ∧ ((x2 < 0 → eb_Ct d 16 [.ref s_flights, .int (-1)] h76 (fun r h88 => ∃ y89, r = some (.long y89) ∧ eb_KO h88 ∧ eb_Ct d 284 [.long (y77 &&& (y89 ^^^ (-1)))] h88 (fun r h91 => ∃ y92, r = some (.int y92) ∧ eb_KO h91 ∧ Q (some (.int y92)) h91))) ∧ (¬ (x2 < 0) → ∃ r83, eb_R h76 r79 5 = some r83 ∧ eb_kd r83 = 13 ∧ (((Int32.ofNat (eb_ln r83)) ≤ x2 → eb_Ct d 16 [.ref s_flights, .int (-1)] h76 (fun r h94 => ∃ y95, r = some (.long y95) ∧ eb_KO h94 ∧ eb_Ct d 284 [.long (y77 &&& (y95 ^^^ (-1)))] h94 (fun r h97 => ∃ y98, r = some (.int y98) ∧ eb_KO h97 ∧ Q (some (.int y98)) h97))) ∧ (¬ ((Int32.ofNat (eb_ln r83)) ≤ x2) → (vp_in x2 (eb_ln r83)) ∧ eb_Ct d 16 [.ref s_flights, .int (eb_I h76 r83 x2.toNatClampNeg)] h76 (fun r h100 => ∃ y101, r = some (.long y101) ∧ eb_KO h100 ∧ eb_Ct d 284 [.long (y77 &&& (y101 ^^^ (-1)))] h100 (fun r h103 => ∃ y104, r = some (.int y104) ∧ eb_KO h103 ∧ Q (some (.int y104)) h103)))))))))))) ∧ (¬ ((¬ (x2 < 0)) ∧ (¬ ((eb_I h r1 4) ≤ x2))) → Q (some (.int (-2))) h))))) : eb_Sn (d + 1) m_X10_secret h0 0 [(0, .ref s_EB), (1, .int x1), (2, .int x2)] [] h Q := by
  refine eb_aload_n (pc := 0) (n := 0) (i := 0) rfl rfl rfl ?_
  obtain ⟨r1, q2, k3, w⟩ := w
  refine eb_getR (pc := 1) rfl rfl (by decide) (by decide) rfl q2 ?_
  refine eb_iload_n (pc := 4) (n := 1) (i := 1) rfl rfl rfl ?_
  refine eb_joinI (pc2 := 8) (ls2 := [(0, .ref s_EB), (1, .int x1), (2, .int x2)]) (st2 := []) (v := eb_q ((¬ (x1 < 0)) ∧ (¬ ((eb_I h r1 4) ≤ x1)))) ?_ (fun jj108 => ?_)
  · refine eb_if_eq (pc := 8) (tgt := 22) rfl (by decide) (fun c6 => ?_) (fun c6 => ?_)
    · replace c6 := eb_q0.mp c6
      replace w := w.1 c6
      refine eb_bipush (pc := 22) (n := -2) (v := (-2)) rfl rfl ?_
      exact eb_ireturn (pc := 24) rfl rfl rfl w
    · replace c6 := eb_q1.mp c6
      replace w := w.2 c6
      refine eb_aload_n (pc := 11) (n := 0) (i := 0) rfl rfl rfl ?_
      refine eb_getR (pc := 12) rfl rfl (by decide) (by decide) rfl q2 ?_
      refine eb_iload_n (pc := 15) (n := 2) (i := 2) rfl rfl rfl ?_
      refine eb_joinI (pc2 := 19) (ls2 := [(0, .ref s_EB), (1, .int x1), (2, .int x2)]) (st2 := []) (v := eb_q ((¬ (x2 < 0)) ∧ (¬ ((eb_I h r1 4) ≤ x2)))) ?_ (fun jj106 => ?_)
      · refine eb_if_ne (pc := 19) (tgt := 25) rfl (by decide) (fun c9 => ?_) (fun c9 => ?_)
        · replace c9 := eb_q1.mp c9
          replace w := w.1 c9
          refine eb_aload_n (pc := 25) (n := 0) (i := 0) rfl rfl rfl ?_
          refine eb_aload_n (pc := 26) (n := 0) (i := 0) rfl rfl rfl ?_
          refine eb_getR (pc := 27) rfl rfl (by decide) (by decide) rfl q2 ?_
          refine eb_iload_n (pc := 30) (n := 1) (i := 1) rfl rfl rfl ?_
          refine eb_ctV (pc := 31) (As := [.int x1]) (rest := [.ref s_EB]) rfl (by decide) rfl k3 (by decide) rfl (Nat.le_of_ble_eq_true rfl) ?_
          refine eb_bodyQ (by decide) ok_X9_houseCell (Nat.le_of_ble_eq_true rfl) ?_
          change eb_Sn _ m_X9_houseCell _ 0 [(0, .ref r1), (1, .int x1)] [] _ _
          refine eb_iload_n (pc := 0) (n := 1) (i := 1) rfl rfl rfl ?_
          refine eb_if_lt (pc := 1) (tgt := 22) rfl (by decide) (fun c10 => ?_) (fun c10 => ?_)
          · replace w := w.1 c10
            refine eb_iconst (pc := 22) (n := -1) (v := (-1)) rfl rfl ?_
            refine eb_ireturn (pc := 23) rfl rfl rfl ?_
            change eb_Sn _ _ _ 34 _ [.int (-1), .ref s_EB] _ _
            refine eb_ctV (pc := 34) (As := [.int (-1)]) (rest := []) rfl (by decide) rfl rfl (by decide) rfl (Nat.le_of_ble_eq_true rfl) ?_
            refine eb_Ct.mono w ?_
            rintro r h16 ⟨y17, rfl, ko18, w⟩
            change eb_Sn _ _ _ 37 _ [.long y17] _ _
            refine eb_lstore_n (pc := 37) (n := 3) (i := 3) (ls2 := [(3, .long y17), (0, .ref s_EB), (1, .int x1), (2, .int x2)]) rfl (Nat.le_of_ble_eq_true rfl) rfl rfl ?_
            refine eb_lload_n (pc := 38) (n := 3) (i := 3) rfl rfl rfl ?_
            refine eb_aload_n (pc := 39) (n := 0) (i := 0) rfl rfl rfl ?_
            refine eb_getR (pc := 40) rfl rfl (by decide) (by decide) rfl (ko_s_EB_7 ko18) ?_
            refine eb_aload_n (pc := 43) (n := 0) (i := 0) rfl rfl rfl ?_
            obtain ⟨r19, q20, k21, w⟩ := w
            refine eb_getR (pc := 44) rfl rfl (by decide) (by decide) rfl q20 ?_
            refine eb_iload_n (pc := 47) (n := 2) (i := 2) rfl rfl rfl ?_
            refine eb_ctV (pc := 48) (As := [.int x2]) (rest := [.ref s_flights, .long y17]) rfl (by decide) rfl k21 (by decide) rfl (Nat.le_of_ble_eq_true rfl) ?_
            refine eb_bodyQ (by decide) ok_X9_houseCell (Nat.le_of_ble_eq_true rfl) ?_
            change eb_Sn _ m_X9_houseCell _ 0 [(0, .ref r19), (1, .int x2)] [] _ _
            refine eb_iload_n (pc := 0) (n := 1) (i := 1) rfl rfl rfl ?_
            refine eb_if_lt (pc := 1) (tgt := 22) rfl (by decide) (fun c22 => ?_) (fun c22 => ?_)
            · replace w := w.1 c22
              refine eb_iconst (pc := 22) (n := -1) (v := (-1)) rfl rfl ?_
              refine eb_ireturn (pc := 23) rfl rfl rfl ?_
              change eb_Sn _ _ _ 51 _ [.int (-1), .ref s_flights, .long y17] _ _
              refine eb_ctV (pc := 51) (As := [.int (-1)]) (rest := [.long y17]) rfl (by decide) rfl rfl (by decide) rfl (Nat.le_of_ble_eq_true rfl) ?_
              refine eb_Ct.mono w ?_
              rintro r h28 ⟨y29, rfl, ko30, w⟩
              change eb_Sn _ _ _ 54 _ [.long y29, .long y17] _ _
              refine eb_ldc2 (pc := 54) (a := 18446744073709551615) (v := (-1)) rfl (by decide) ?_
              refine eb_lxor (pc := 57) rfl ?_
              refine eb_land (pc := 58) rfl ?_
              refine eb_ctS (pc := 59) (As := [.long (y17 &&& (y29 ^^^ (-1)))]) (rest := []) rfl (by decide) (by decide) rfl rfl (Nat.le_of_ble_eq_true rfl) ?_
              refine eb_Ct.mono w ?_
              rintro r h31 ⟨y32, rfl, ko33, w⟩
              change eb_Sn _ _ _ 62 _ [.int y32] _ _
              exact eb_ireturn (pc := 62) rfl rfl rfl w
            · replace w := w.2 c22
              refine eb_iload_n (pc := 4) (n := 1) (i := 1) rfl rfl rfl ?_
              refine eb_aload_n (pc := 5) (n := 0) (i := 0) rfl rfl rfl ?_
              obtain ⟨r23, q24, k25, w⟩ := w
              refine eb_getR (pc := 6) rfl k21 (by decide) (by decide) rfl q24 ?_
              refine eb_alen (pc := 9) rfl (by rw [k25]; decide) (by rw [k25]; decide) rfl ?_
              refine eb_icmp_ge (pc := 10) (tgt := 22) rfl (by decide) (fun c26 => ?_) (fun c26 => ?_)
              · replace w := w.1 c26
                refine eb_iconst (pc := 22) (n := -1) (v := (-1)) rfl rfl ?_
                refine eb_ireturn (pc := 23) rfl rfl rfl ?_
                change eb_Sn _ _ _ 51 _ [.int (-1), .ref s_flights, .long y17] _ _
                refine eb_ctV (pc := 51) (As := [.int (-1)]) (rest := [.long y17]) rfl (by decide) rfl rfl (by decide) rfl (Nat.le_of_ble_eq_true rfl) ?_
                refine eb_Ct.mono w ?_
                rintro r h34 ⟨y35, rfl, ko36, w⟩
                change eb_Sn _ _ _ 54 _ [.long y35, .long y17] _ _
                refine eb_ldc2 (pc := 54) (a := 18446744073709551615) (v := (-1)) rfl (by decide) ?_
                refine eb_lxor (pc := 57) rfl ?_
                refine eb_land (pc := 58) rfl ?_
                refine eb_ctS (pc := 59) (As := [.long (y17 &&& (y35 ^^^ (-1)))]) (rest := []) rfl (by decide) (by decide) rfl rfl (Nat.le_of_ble_eq_true rfl) ?_
                refine eb_Ct.mono w ?_
                rintro r h37 ⟨y38, rfl, ko39, w⟩
                change eb_Sn _ _ _ 62 _ [.int y38] _ _
                exact eb_ireturn (pc := 62) rfl rfl rfl w
              · replace w := w.2 c26
                refine eb_aload_n (pc := 13) (n := 0) (i := 0) rfl rfl rfl ?_
                refine eb_getR (pc := 14) rfl k21 (by decide) (by decide) rfl q24 ?_
                refine eb_iload_n (pc := 17) (n := 1) (i := 1) rfl rfl rfl ?_
                obtain ⟨c27, w⟩ := w
                refine eb_iaload (pc := 18) rfl k25 (by decide) c27 ?_
                refine eb_goto (pc := 19) (tgt := 23) rfl (by decide) ?_
                refine eb_ireturn (pc := 23) rfl rfl rfl ?_
                change eb_Sn _ _ _ 51 _ [.int (eb_I h16 r23 x2.toNatClampNeg), .ref s_flights, .long y17] _ _
                refine eb_ctV (pc := 51) (As := [.int (eb_I h16 r23 x2.toNatClampNeg)]) (rest := [.long y17]) rfl (by decide) rfl rfl (by decide) rfl (Nat.le_of_ble_eq_true rfl) ?_
                refine eb_Ct.mono w ?_
                rintro r h40 ⟨y41, rfl, ko42, w⟩
                change eb_Sn _ _ _ 54 _ [.long y41, .long y17] _ _
                refine eb_ldc2 (pc := 54) (a := 18446744073709551615) (v := (-1)) rfl (by decide) ?_
                refine eb_lxor (pc := 57) rfl ?_
                refine eb_land (pc := 58) rfl ?_
                refine eb_ctS (pc := 59) (As := [.long (y17 &&& (y41 ^^^ (-1)))]) (rest := []) rfl (by decide) (by decide) rfl rfl (Nat.le_of_ble_eq_true rfl) ?_
                refine eb_Ct.mono w ?_
                rintro r h43 ⟨y44, rfl, ko45, w⟩
                change eb_Sn _ _ _ 62 _ [.int y44] _ _
                exact eb_ireturn (pc := 62) rfl rfl rfl w
          · replace w := w.2 c10
            refine eb_iload_n (pc := 4) (n := 1) (i := 1) rfl rfl rfl ?_
            refine eb_aload_n (pc := 5) (n := 0) (i := 0) rfl rfl rfl ?_
            obtain ⟨r11, q12, k13, w⟩ := w
            refine eb_getR (pc := 6) rfl k3 (by decide) (by decide) rfl q12 ?_
            refine eb_alen (pc := 9) rfl (by rw [k13]; decide) (by rw [k13]; decide) rfl ?_
            refine eb_icmp_ge (pc := 10) (tgt := 22) rfl (by decide) (fun c14 => ?_) (fun c14 => ?_)
            · replace w := w.1 c14
              refine eb_iconst (pc := 22) (n := -1) (v := (-1)) rfl rfl ?_
              refine eb_ireturn (pc := 23) rfl rfl rfl ?_
              change eb_Sn _ _ _ 34 _ [.int (-1), .ref s_EB] _ _
              refine eb_ctV (pc := 34) (As := [.int (-1)]) (rest := []) rfl (by decide) rfl rfl (by decide) rfl (Nat.le_of_ble_eq_true rfl) ?_
              refine eb_Ct.mono w ?_
              rintro r h46 ⟨y47, rfl, ko48, w⟩
              change eb_Sn _ _ _ 37 _ [.long y47] _ _
              refine eb_lstore_n (pc := 37) (n := 3) (i := 3) (ls2 := [(3, .long y47), (0, .ref s_EB), (1, .int x1), (2, .int x2)]) rfl (Nat.le_of_ble_eq_true rfl) rfl rfl ?_
              refine eb_lload_n (pc := 38) (n := 3) (i := 3) rfl rfl rfl ?_
              refine eb_aload_n (pc := 39) (n := 0) (i := 0) rfl rfl rfl ?_
              refine eb_getR (pc := 40) rfl rfl (by decide) (by decide) rfl (ko_s_EB_7 ko48) ?_
              refine eb_aload_n (pc := 43) (n := 0) (i := 0) rfl rfl rfl ?_
              obtain ⟨r49, q50, k51, w⟩ := w
              refine eb_getR (pc := 44) rfl rfl (by decide) (by decide) rfl q50 ?_
              refine eb_iload_n (pc := 47) (n := 2) (i := 2) rfl rfl rfl ?_
              refine eb_ctV (pc := 48) (As := [.int x2]) (rest := [.ref s_flights, .long y47]) rfl (by decide) rfl k51 (by decide) rfl (Nat.le_of_ble_eq_true rfl) ?_
              refine eb_bodyQ (by decide) ok_X9_houseCell (Nat.le_of_ble_eq_true rfl) ?_
              change eb_Sn _ m_X9_houseCell _ 0 [(0, .ref r49), (1, .int x2)] [] _ _
              refine eb_iload_n (pc := 0) (n := 1) (i := 1) rfl rfl rfl ?_
              refine eb_if_lt (pc := 1) (tgt := 22) rfl (by decide) (fun c52 => ?_) (fun c52 => ?_)
              · replace w := w.1 c52
                refine eb_iconst (pc := 22) (n := -1) (v := (-1)) rfl rfl ?_
                refine eb_ireturn (pc := 23) rfl rfl rfl ?_
                change eb_Sn _ _ _ 51 _ [.int (-1), .ref s_flights, .long y47] _ _
                refine eb_ctV (pc := 51) (As := [.int (-1)]) (rest := [.long y47]) rfl (by decide) rfl rfl (by decide) rfl (Nat.le_of_ble_eq_true rfl) ?_
                refine eb_Ct.mono w ?_
                rintro r h58 ⟨y59, rfl, ko60, w⟩
                change eb_Sn _ _ _ 54 _ [.long y59, .long y47] _ _
                refine eb_ldc2 (pc := 54) (a := 18446744073709551615) (v := (-1)) rfl (by decide) ?_
                refine eb_lxor (pc := 57) rfl ?_
                refine eb_land (pc := 58) rfl ?_
                refine eb_ctS (pc := 59) (As := [.long (y47 &&& (y59 ^^^ (-1)))]) (rest := []) rfl (by decide) (by decide) rfl rfl (Nat.le_of_ble_eq_true rfl) ?_
                refine eb_Ct.mono w ?_
                rintro r h61 ⟨y62, rfl, ko63, w⟩
                change eb_Sn _ _ _ 62 _ [.int y62] _ _
                exact eb_ireturn (pc := 62) rfl rfl rfl w
              · replace w := w.2 c52
                refine eb_iload_n (pc := 4) (n := 1) (i := 1) rfl rfl rfl ?_
                refine eb_aload_n (pc := 5) (n := 0) (i := 0) rfl rfl rfl ?_
                obtain ⟨r53, q54, k55, w⟩ := w
                refine eb_getR (pc := 6) rfl k51 (by decide) (by decide) rfl q54 ?_
                refine eb_alen (pc := 9) rfl (by rw [k55]; decide) (by rw [k55]; decide) rfl ?_
                refine eb_icmp_ge (pc := 10) (tgt := 22) rfl (by decide) (fun c56 => ?_) (fun c56 => ?_)
                · replace w := w.1 c56
                  refine eb_iconst (pc := 22) (n := -1) (v := (-1)) rfl rfl ?_
                  refine eb_ireturn (pc := 23) rfl rfl rfl ?_
                  change eb_Sn _ _ _ 51 _ [.int (-1), .ref s_flights, .long y47] _ _
                  refine eb_ctV (pc := 51) (As := [.int (-1)]) (rest := [.long y47]) rfl (by decide) rfl rfl (by decide) rfl (Nat.le_of_ble_eq_true rfl) ?_
                  refine eb_Ct.mono w ?_
                  rintro r h64 ⟨y65, rfl, ko66, w⟩
                  change eb_Sn _ _ _ 54 _ [.long y65, .long y47] _ _
                  refine eb_ldc2 (pc := 54) (a := 18446744073709551615) (v := (-1)) rfl (by decide) ?_
                  refine eb_lxor (pc := 57) rfl ?_
                  refine eb_land (pc := 58) rfl ?_
                  refine eb_ctS (pc := 59) (As := [.long (y47 &&& (y65 ^^^ (-1)))]) (rest := []) rfl (by decide) (by decide) rfl rfl (Nat.le_of_ble_eq_true rfl) ?_
                  refine eb_Ct.mono w ?_
                  rintro r h67 ⟨y68, rfl, ko69, w⟩
                  change eb_Sn _ _ _ 62 _ [.int y68] _ _
                  exact eb_ireturn (pc := 62) rfl rfl rfl w
                · replace w := w.2 c56
                  refine eb_aload_n (pc := 13) (n := 0) (i := 0) rfl rfl rfl ?_
                  refine eb_getR (pc := 14) rfl k51 (by decide) (by decide) rfl q54 ?_
                  refine eb_iload_n (pc := 17) (n := 1) (i := 1) rfl rfl rfl ?_
                  obtain ⟨c57, w⟩ := w
                  refine eb_iaload (pc := 18) rfl k55 (by decide) c57 ?_
                  refine eb_goto (pc := 19) (tgt := 23) rfl (by decide) ?_
                  refine eb_ireturn (pc := 23) rfl rfl rfl ?_
                  change eb_Sn _ _ _ 51 _ [.int (eb_I h46 r53 x2.toNatClampNeg), .ref s_flights, .long y47] _ _
                  refine eb_ctV (pc := 51) (As := [.int (eb_I h46 r53 x2.toNatClampNeg)]) (rest := [.long y47]) rfl (by decide) rfl rfl (by decide) rfl (Nat.le_of_ble_eq_true rfl) ?_
                  refine eb_Ct.mono w ?_
                  rintro r h70 ⟨y71, rfl, ko72, w⟩
                  change eb_Sn _ _ _ 54 _ [.long y71, .long y47] _ _
                  refine eb_ldc2 (pc := 54) (a := 18446744073709551615) (v := (-1)) rfl (by decide) ?_
                  refine eb_lxor (pc := 57) rfl ?_
                  refine eb_land (pc := 58) rfl ?_
                  refine eb_ctS (pc := 59) (As := [.long (y47 &&& (y71 ^^^ (-1)))]) (rest := []) rfl (by decide) (by decide) rfl rfl (Nat.le_of_ble_eq_true rfl) ?_
                  refine eb_Ct.mono w ?_
                  rintro r h73 ⟨y74, rfl, ko75, w⟩
                  change eb_Sn _ _ _ 62 _ [.int y74] _ _
                  exact eb_ireturn (pc := 62) rfl rfl rfl w
            · replace w := w.2 c14
              refine eb_aload_n (pc := 13) (n := 0) (i := 0) rfl rfl rfl ?_
              refine eb_getR (pc := 14) rfl k3 (by decide) (by decide) rfl q12 ?_
              refine eb_iload_n (pc := 17) (n := 1) (i := 1) rfl rfl rfl ?_
              obtain ⟨c15, w⟩ := w
              refine eb_iaload (pc := 18) rfl k13 (by decide) c15 ?_
              refine eb_goto (pc := 19) (tgt := 23) rfl (by decide) ?_
              refine eb_ireturn (pc := 23) rfl rfl rfl ?_
              change eb_Sn _ _ _ 34 _ [.int (eb_I h r11 x1.toNatClampNeg), .ref s_EB] _ _
              refine eb_ctV (pc := 34) (As := [.int (eb_I h r11 x1.toNatClampNeg)]) (rest := []) rfl (by decide) rfl rfl (by decide) rfl (Nat.le_of_ble_eq_true rfl) ?_
              refine eb_Ct.mono w ?_
              rintro r h76 ⟨y77, rfl, ko78, w⟩
              change eb_Sn _ _ _ 37 _ [.long y77] _ _
              refine eb_lstore_n (pc := 37) (n := 3) (i := 3) (ls2 := [(3, .long y77), (0, .ref s_EB), (1, .int x1), (2, .int x2)]) rfl (Nat.le_of_ble_eq_true rfl) rfl rfl ?_
              refine eb_lload_n (pc := 38) (n := 3) (i := 3) rfl rfl rfl ?_
              refine eb_aload_n (pc := 39) (n := 0) (i := 0) rfl rfl rfl ?_
              refine eb_getR (pc := 40) rfl rfl (by decide) (by decide) rfl (ko_s_EB_7 ko78) ?_
              refine eb_aload_n (pc := 43) (n := 0) (i := 0) rfl rfl rfl ?_
              obtain ⟨r79, q80, k81, w⟩ := w
              refine eb_getR (pc := 44) rfl rfl (by decide) (by decide) rfl q80 ?_
              refine eb_iload_n (pc := 47) (n := 2) (i := 2) rfl rfl rfl ?_
              refine eb_ctV (pc := 48) (As := [.int x2]) (rest := [.ref s_flights, .long y77]) rfl (by decide) rfl k81 (by decide) rfl (Nat.le_of_ble_eq_true rfl) ?_
              refine eb_bodyQ (by decide) ok_X9_houseCell (Nat.le_of_ble_eq_true rfl) ?_
              change eb_Sn _ m_X9_houseCell _ 0 [(0, .ref r79), (1, .int x2)] [] _ _
              refine eb_iload_n (pc := 0) (n := 1) (i := 1) rfl rfl rfl ?_
              refine eb_if_lt (pc := 1) (tgt := 22) rfl (by decide) (fun c82 => ?_) (fun c82 => ?_)
              · replace w := w.1 c82
                refine eb_iconst (pc := 22) (n := -1) (v := (-1)) rfl rfl ?_
                refine eb_ireturn (pc := 23) rfl rfl rfl ?_
                change eb_Sn _ _ _ 51 _ [.int (-1), .ref s_flights, .long y77] _ _
                refine eb_ctV (pc := 51) (As := [.int (-1)]) (rest := [.long y77]) rfl (by decide) rfl rfl (by decide) rfl (Nat.le_of_ble_eq_true rfl) ?_
                refine eb_Ct.mono w ?_
                rintro r h88 ⟨y89, rfl, ko90, w⟩
                change eb_Sn _ _ _ 54 _ [.long y89, .long y77] _ _
                refine eb_ldc2 (pc := 54) (a := 18446744073709551615) (v := (-1)) rfl (by decide) ?_
                refine eb_lxor (pc := 57) rfl ?_
                refine eb_land (pc := 58) rfl ?_
                refine eb_ctS (pc := 59) (As := [.long (y77 &&& (y89 ^^^ (-1)))]) (rest := []) rfl (by decide) (by decide) rfl rfl (Nat.le_of_ble_eq_true rfl) ?_
                refine eb_Ct.mono w ?_
                rintro r h91 ⟨y92, rfl, ko93, w⟩
                change eb_Sn _ _ _ 62 _ [.int y92] _ _
                exact eb_ireturn (pc := 62) rfl rfl rfl w
              · replace w := w.2 c82
                refine eb_iload_n (pc := 4) (n := 1) (i := 1) rfl rfl rfl ?_
                refine eb_aload_n (pc := 5) (n := 0) (i := 0) rfl rfl rfl ?_
                obtain ⟨r83, q84, k85, w⟩ := w
                refine eb_getR (pc := 6) rfl k81 (by decide) (by decide) rfl q84 ?_
                refine eb_alen (pc := 9) rfl (by rw [k85]; decide) (by rw [k85]; decide) rfl ?_
                refine eb_icmp_ge (pc := 10) (tgt := 22) rfl (by decide) (fun c86 => ?_) (fun c86 => ?_)
                · replace w := w.1 c86
                  refine eb_iconst (pc := 22) (n := -1) (v := (-1)) rfl rfl ?_
                  refine eb_ireturn (pc := 23) rfl rfl rfl ?_
                  change eb_Sn _ _ _ 51 _ [.int (-1), .ref s_flights, .long y77] _ _
                  refine eb_ctV (pc := 51) (As := [.int (-1)]) (rest := [.long y77]) rfl (by decide) rfl rfl (by decide) rfl (Nat.le_of_ble_eq_true rfl) ?_
                  refine eb_Ct.mono w ?_
                  rintro r h94 ⟨y95, rfl, ko96, w⟩
                  change eb_Sn _ _ _ 54 _ [.long y95, .long y77] _ _
                  refine eb_ldc2 (pc := 54) (a := 18446744073709551615) (v := (-1)) rfl (by decide) ?_
                  refine eb_lxor (pc := 57) rfl ?_
                  refine eb_land (pc := 58) rfl ?_
                  refine eb_ctS (pc := 59) (As := [.long (y77 &&& (y95 ^^^ (-1)))]) (rest := []) rfl (by decide) (by decide) rfl rfl (Nat.le_of_ble_eq_true rfl) ?_
                  refine eb_Ct.mono w ?_
                  rintro r h97 ⟨y98, rfl, ko99, w⟩
                  change eb_Sn _ _ _ 62 _ [.int y98] _ _
                  exact eb_ireturn (pc := 62) rfl rfl rfl w
                · replace w := w.2 c86
                  refine eb_aload_n (pc := 13) (n := 0) (i := 0) rfl rfl rfl ?_
                  refine eb_getR (pc := 14) rfl k81 (by decide) (by decide) rfl q84 ?_
                  refine eb_iload_n (pc := 17) (n := 1) (i := 1) rfl rfl rfl ?_
                  obtain ⟨c87, w⟩ := w
                  refine eb_iaload (pc := 18) rfl k85 (by decide) c87 ?_
                  refine eb_goto (pc := 19) (tgt := 23) rfl (by decide) ?_
                  refine eb_ireturn (pc := 23) rfl rfl rfl ?_
                  change eb_Sn _ _ _ 51 _ [.int (eb_I h76 r83 x2.toNatClampNeg), .ref s_flights, .long y77] _ _
                  refine eb_ctV (pc := 51) (As := [.int (eb_I h76 r83 x2.toNatClampNeg)]) (rest := [.long y77]) rfl (by decide) rfl rfl (by decide) rfl (Nat.le_of_ble_eq_true rfl) ?_
                  refine eb_Ct.mono w ?_
                  rintro r h100 ⟨y101, rfl, ko102, w⟩
                  change eb_Sn _ _ _ 54 _ [.long y101, .long y77] _ _
                  refine eb_ldc2 (pc := 54) (a := 18446744073709551615) (v := (-1)) rfl (by decide) ?_
                  refine eb_lxor (pc := 57) rfl ?_
                  refine eb_land (pc := 58) rfl ?_
                  refine eb_ctS (pc := 59) (As := [.long (y77 &&& (y101 ^^^ (-1)))]) (rest := []) rfl (by decide) (by decide) rfl rfl (Nat.le_of_ble_eq_true rfl) ?_
                  refine eb_Ct.mono w ?_
                  rintro r h103 ⟨y104, rfl, ko105, w⟩
                  change eb_Sn _ _ _ 62 _ [.int y104] _ _
                  exact eb_ireturn (pc := 62) rfl rfl rfl w
        · replace c9 := eb_q0.mp c9
          replace w := w.2 c9
          refine eb_bipush (pc := 22) (n := -2) (v := (-2)) rfl rfl ?_
          exact eb_ireturn (pc := 24) rfl rfl rfl w
      refine eb_ctV (pc := 16) (As := [.int x2]) (rest := []) rfl (by decide) rfl k3 (by decide) rfl (Nat.le_of_ble_eq_true rfl) ?_
      refine eb_bodyQ (by decide) ok_X9_hasHouse (Nat.le_of_ble_eq_true rfl) ?_
      change eb_Sn _ m_X9_hasHouse _ 0 [(0, .ref r1), (1, .int x2)] [] _ _
      refine eb_iload_n (pc := 0) (n := 1) (i := 1) rfl rfl rfl ?_
      refine eb_if_lt (pc := 1) (tgt := 16) rfl (by decide) (fun c7 => ?_) (fun c7 => ?_)
      · refine eb_iconst (pc := 16) (n := 0) (v := 0) rfl rfl ?_
        refine eb_ireturn (pc := 17) rfl rfl (by decide) ?_
        change eb_Sn _ _ _ 19 _ _ _ _
        exact jj106 0 (eb_qf (fun z => z.1 c7)).symm
      · refine eb_iload_n (pc := 4) (n := 1) (i := 1) rfl rfl rfl ?_
        refine eb_aload_n (pc := 5) (n := 0) (i := 0) rfl rfl rfl ?_
        refine eb_getI (pc := 6) rfl k3 (by decide) (by decide) rfl ?_
        refine eb_icmp_ge (pc := 9) (tgt := 16) rfl (by decide) (fun c8 => ?_) (fun c8 => ?_)
        · refine eb_iconst (pc := 16) (n := 0) (v := 0) rfl rfl ?_
          refine eb_ireturn (pc := 17) rfl rfl (by decide) ?_
          change eb_Sn _ _ _ 19 _ _ _ _
          exact jj106 0 (eb_qf (fun z => (fun z => z c8) z.2)).symm
        · refine eb_iconst (pc := 12) (n := 1) (v := 1) rfl rfl ?_
          refine eb_goto (pc := 13) (tgt := 17) rfl (by decide) ?_
          refine eb_ireturn (pc := 17) rfl rfl (by decide) ?_
          change eb_Sn _ _ _ 19 _ _ _ _
          exact jj106 1 (eb_qt (⟨c7, c8⟩)).symm
  refine eb_ctV (pc := 5) (As := [.int x1]) (rest := []) rfl (by decide) rfl k3 (by decide) rfl (Nat.le_of_ble_eq_true rfl) ?_
  refine eb_bodyQ (by decide) ok_X9_hasHouse (Nat.le_of_ble_eq_true rfl) ?_
  change eb_Sn _ m_X9_hasHouse _ 0 [(0, .ref r1), (1, .int x1)] [] _ _
  refine eb_iload_n (pc := 0) (n := 1) (i := 1) rfl rfl rfl ?_
  refine eb_if_lt (pc := 1) (tgt := 16) rfl (by decide) (fun c4 => ?_) (fun c4 => ?_)
  · refine eb_iconst (pc := 16) (n := 0) (v := 0) rfl rfl ?_
    refine eb_ireturn (pc := 17) rfl rfl (by decide) ?_
    change eb_Sn _ _ _ 8 _ _ _ _
    exact jj108 0 (eb_qf (fun z => z.1 c4)).symm
  · refine eb_iload_n (pc := 4) (n := 1) (i := 1) rfl rfl rfl ?_
    refine eb_aload_n (pc := 5) (n := 0) (i := 0) rfl rfl rfl ?_
    refine eb_getI (pc := 6) rfl k3 (by decide) (by decide) rfl ?_
    refine eb_icmp_ge (pc := 9) (tgt := 16) rfl (by decide) (fun c5 => ?_) (fun c5 => ?_)
    · refine eb_iconst (pc := 16) (n := 0) (v := 0) rfl rfl ?_
      refine eb_ireturn (pc := 17) rfl rfl (by decide) ?_
      change eb_Sn _ _ _ 8 _ _ _ _
      exact jj108 0 (eb_qf (fun z => (fun z => z c5) z.2)).symm
    · refine eb_iconst (pc := 12) (n := 1) (v := 1) rfl rfl ?_
      refine eb_goto (pc := 13) (tgt := 17) rfl (by decide) ?_
      refine eb_ireturn (pc := 17) rfl rfl (by decide) ?_
      change eb_Sn _ _ _ 8 _ _ _ _
      exact jj108 1 (eb_qt (⟨c4, c5⟩)).symm
theorem T_X10_secret {d : Nat} {h : eb_H} {Q : Option Value → eb_H → Prop} (x1 : Int32) (x2 : Int32)  (ko : eb_KO h) (w : ∃ r1, eb_R h s_EB 2 = some r1 ∧ eb_kd r1 = 9 ∧ ((¬ ((¬ (x1 < 0)) ∧ (¬ ((eb_I h r1 4) ≤ x1))) → Q (some (.int (-2))) h) ∧ ((¬ (x1 < 0)) ∧ (¬ ((eb_I h r1 4) ≤ x1)) → (((¬ (x2 < 0)) ∧ (¬ ((eb_I h r1 4) ≤ x2)) → ((x1 < 0 → eb_Ct d 148 [.ref s_EB, .int (-1)] h (fun r h16 => ∃ y17, r = some (.long y17) ∧ eb_KO h16 ∧ ∃ r19, eb_R h16 s_EB 2 = some r19 ∧ eb_kd r19 = 9 ∧ ((x2 < 0 → eb_Ct d 16 [.ref s_flights, .int (-1)] h16 (fun r h28 => ∃ y29, r = some (.long y29) ∧ eb_KO h28 ∧ eb_Ct d 284 [.long (y17 &&& (y29 ^^^ (-1)))] h28 (fun r h31 => ∃ y32, r = some (.int y32) ∧ eb_KO h31 ∧ Q (some (.int y32)) h31))) ∧ (¬ (x2 < 0) → ∃ r23, eb_R h16 r19 5 = some r23 ∧ eb_kd r23 = 13 ∧ (((Int32.ofNat (eb_ln r23)) ≤ x2 → eb_Ct d 16 [.ref s_flights, .int (-1)] h16 (fun r h34 => ∃ y35, r = some (.long y35) ∧ eb_KO h34 ∧ eb_Ct d 284 [.long (y17 &&& (y35 ^^^ (-1)))] h34 (fun r h37 => ∃ y38, r = some (.int y38) ∧ eb_KO h37 ∧ Q (some (.int y38)) h37))) ∧ (¬ ((Int32.ofNat (eb_ln r23)) ≤ x2) → (vp_in x2 (eb_ln r23)) ∧ eb_Ct d 16 [.ref s_flights, .int (eb_I h16 r23 x2.toNatClampNeg)] h16 (fun r h40 => ∃ y41, r = some (.long y41) ∧ eb_KO h40 ∧ eb_Ct d 284 [.long (y17 &&& (y41 ^^^ (-1)))] h40 (fun r h43 => ∃ y44, r = some (.int y44) ∧ eb_KO h43 ∧ Q (some (.int y44)) h43)))))))) ∧ (¬ (x1 < 0) → ∃ r11, eb_R h r1 5 = some r11 ∧ eb_kd r11 = 13 ∧ (((Int32.ofNat (eb_ln r11)) ≤ x1 → eb_Ct d 148 [.ref s_EB, .int (-1)] h (fun r h46 => ∃ y47, r = some (.long y47) ∧ eb_KO h46 ∧ ∃ r49, eb_R h46 s_EB 2 = some r49 ∧ eb_kd r49 = 9 ∧ ((x2 < 0 → eb_Ct d 16 [.ref s_flights, .int (-1)] h46 (fun r h58 => ∃ y59, r = some (.long y59) ∧ eb_KO h58 ∧ eb_Ct d 284 [.long (y47 &&& (y59 ^^^ (-1)))] h58 (fun r h61 => ∃ y62, r = some (.int y62) ∧ eb_KO h61 ∧ Q (some (.int y62)) h61))) ∧ (¬ (x2 < 0) → ∃ r53, eb_R h46 r49 5 = some r53 ∧ eb_kd r53 = 13 ∧ (((Int32.ofNat (eb_ln r53)) ≤ x2 → eb_Ct d 16 [.ref s_flights, .int (-1)] h46 (fun r h64 => ∃ y65, r = some (.long y65) ∧ eb_KO h64 ∧ eb_Ct d 284 [.long (y47 &&& (y65 ^^^ (-1)))] h64 (fun r h67 => ∃ y68, r = some (.int y68) ∧ eb_KO h67 ∧ Q (some (.int y68)) h67))) ∧ (¬ ((Int32.ofNat (eb_ln r53)) ≤ x2) → (vp_in x2 (eb_ln r53)) ∧ eb_Ct d 16 [.ref s_flights, .int (eb_I h46 r53 x2.toNatClampNeg)] h46 (fun r h70 => ∃ y71, r = some (.long y71) ∧ eb_KO h70 ∧ eb_Ct d 284 [.long (y47 &&& (y71 ^^^ (-1)))] h70 (fun r h73 => ∃ y74, r = some (.int y74) ∧ eb_KO h73 ∧ Q (some (.int y74)) h73)))))))) ∧ (¬ ((Int32.ofNat (eb_ln r11)) ≤ x1) → (vp_in x1 (eb_ln r11)) ∧ eb_Ct d 148 [.ref s_EB, .int (eb_I h r11 x1.toNatClampNeg)] h (fun r h76 => ∃ y77, r = some (.long y77) ∧ eb_KO h76 ∧ ∃ r79, eb_R h76 s_EB 2 = some r79 ∧ eb_kd r79 = 9 ∧ ((x2 < 0 → eb_Ct d 16 [.ref s_flights, .int (-1)] h76 (fun r h88 => ∃ y89, r = some (.long y89) ∧ eb_KO h88 ∧ eb_Ct d 284 [.long (y77 &&& (y89 ^^^ (-1)))] h88 (fun r h91 => ∃ y92, r = some (.int y92) ∧ eb_KO h91 ∧ Q (some (.int y92)) h91))) ∧ (¬ (x2 < 0) → ∃ r83, eb_R h76 r79 5 = some r83 ∧ eb_kd r83 = 13 ∧ (((Int32.ofNat (eb_ln r83)) ≤ x2 → eb_Ct d 16 [.ref s_flights, .int (-1)] h76 (fun r h94 => ∃ y95, r = some (.long y95) ∧ eb_KO h94 ∧ eb_Ct d 284 [.long (y77 &&& (y95 ^^^ (-1)))] h94 (fun r h97 => ∃ y98, r = some (.int y98) ∧ eb_KO h97 ∧ Q (some (.int y98)) h97))) ∧ (¬ ((Int32.ofNat (eb_ln r83)) ≤ x2) → (vp_in x2 (eb_ln r83)) ∧ eb_Ct d 16 [.ref s_flights, .int (eb_I h76 r83 x2.toNatClampNeg)] h76 (fun r h100 => ∃ y101, r = some (.long y101) ∧ eb_KO h100 ∧ eb_Ct d 284 [.long (y77 &&& (y101 ^^^ (-1)))] h100 (fun r h103 => ∃ y104, r = some (.int y104) ∧ eb_KO h103 ∧ Q (some (.int y104)) h103)))))))))))) ∧ (¬ ((¬ (x2 < 0)) ∧ (¬ ((eb_I h r1 4) ≤ x2))) → Q (some (.int (-2))) h))))) : eb_Ct (d + 1) 121 [.ref s_EB, .int x1, .int x2] h Q :=
  eb_bodyQ (by decide) ok_X10_secret (Nat.le_of_ble_eq_true rfl) (b_X10_secret_0 (h0 := h) x1 x2  ko w)
theorem b_X10_came_0 {d : Nat} {h0 h : eb_H} {Q : Option Value → eb_H → Prop} (x1 : Int32) (x2 : Int32) (x3 : Int32)  (ko : eb_KO h) (w : eb_Ct (d + 1) 146 [.ref s_EB, .int x1, .int x2, .int x3] h (fun r h1 => ∃ y2, r = some (.int y2) ∧ eb_KO h1 ∧ ((y2 = 0 → ∃ r5, eb_R h1 s_EB 2 = some r5 ∧ eb_kd r5 = 9 ∧ eb_Ct (d + 1) 18 [.ref s_flights, .ref r5, .ref s_now, .int x1, .int 0] h1 (fun r h8 => r = none ∧ eb_KO h8 ∧ ((¬ ((¬ ((((16 : Int32) * x3) + x2) < 0)) ∧ (¬ ((1024 : Int32) ≤ (((16 : Int32) * x3) + x2)))) → Q (some (.long (-1))) h8) ∧ ((¬ ((((16 : Int32) * x3) + x2) < 0)) ∧ (¬ ((1024 : Int32) ≤ (((16 : Int32) * x3) + x2))) → ∃ r14, eb_R h8 s_flights 10 = some r14 ∧ eb_kd r14 = 14 ∧ (vp_in (((16 : Int32) * x3) + x2) (eb_ln r14)) ∧ Q (some (.long (eb_J h8 r14 (((16 : Int32) * x3) + x2).toNatClampNeg))) h8)))) ∧ (¬ (y2 = 0) → Q (some (.long y2.toInt64)) h1)))) : eb_Sn (d + 2) m_X10_came h0 0 [(0, .ref s_EB), (1, .int x1), (2, .int x2), (3, .int x3)] [] h Q := by
  refine eb_aload_n (pc := 0) (n := 0) (i := 0) rfl rfl rfl ?_
  refine eb_iload_n (pc := 1) (n := 1) (i := 1) rfl rfl rfl ?_
  refine eb_iload_n (pc := 2) (n := 2) (i := 2) rfl rfl rfl ?_
  refine eb_iload_n (pc := 3) (n := 3) (i := 3) rfl rfl rfl ?_
  refine eb_ctV (pc := 4) (As := [.int x1, .int x2, .int x3]) (rest := []) rfl (by decide) rfl rfl (by decide) rfl (Nat.le_of_ble_eq_true rfl) ?_
  refine eb_Ct.mono w ?_
  rintro r h1 ⟨y2, rfl, ko3, w⟩
  change eb_Sn _ _ _ 7 _ [.int y2] _ _
  refine eb_istore (pc := 7) (i := 4) (ls2 := [(4, .int y2), (0, .ref s_EB), (1, .int x1), (2, .int x2), (3, .int x3)]) (Nat.le_of_ble_eq_true rfl) rfl rfl ?_
  refine eb_iload (pc := 9) (i := 4) rfl rfl ?_
  refine eb_if_eq (pc := 11) (tgt := 18) rfl (by decide) (fun c4 => ?_) (fun c4 => ?_)
  · replace w := w.1 c4
    refine eb_aload_n (pc := 18) (n := 0) (i := 0) rfl rfl rfl ?_
    refine eb_getR (pc := 19) rfl rfl (by decide) (by decide) rfl (ko_s_EB_7 ko3) ?_
    refine eb_aload_n (pc := 22) (n := 0) (i := 0) rfl rfl rfl ?_
    obtain ⟨r5, q6, k7, w⟩ := w
    refine eb_getR (pc := 23) rfl rfl (by decide) (by decide) rfl q6 ?_
    refine eb_aload_n (pc := 26) (n := 0) (i := 0) rfl rfl rfl ?_
    refine eb_getR (pc := 27) rfl rfl (by decide) (by decide) rfl (ko_s_EB_3 ko3) ?_
    refine eb_iload_n (pc := 30) (n := 1) (i := 1) rfl rfl rfl ?_
    refine eb_iconst (pc := 31) (n := 0) (v := 0) rfl rfl ?_
    refine eb_ctV (pc := 32) (As := [.ref r5, .ref s_now, .int x1, .int 0]) (rest := []) rfl (by decide) rfl rfl (by decide) rfl (Nat.le_of_ble_eq_true rfl) ?_
    refine eb_Ct.mono w ?_
    rintro r h8 ⟨rfl, ko10, w⟩
    change eb_Sn _ _ _ 35 _ [] _ _
    refine eb_aload_n (pc := 35) (n := 0) (i := 0) rfl rfl rfl ?_
    refine eb_getR (pc := 36) rfl rfl (by decide) (by decide) rfl (ko_s_EB_7 ko10) ?_
    refine eb_iload_n (pc := 39) (n := 2) (i := 2) rfl rfl rfl ?_
    refine eb_iload_n (pc := 40) (n := 3) (i := 3) rfl rfl rfl ?_
    refine eb_ctV (pc := 41) (As := [.int x2, .int x3]) (rest := []) rfl (by decide) rfl rfl (by decide) rfl (Nat.le_of_ble_eq_true rfl) ?_
    refine eb_bodyQ (by decide) ok_X1_amountAt (Nat.le_of_ble_eq_true rfl) ?_
    change eb_Sn _ m_X1_amountAt _ 0 [(0, .ref s_flights), (1, .int x2), (2, .int x3)] [] _ _
    refine eb_iload_n (pc := 0) (n := 1) (i := 1) rfl rfl rfl ?_
    refine eb_iload_n (pc := 1) (n := 2) (i := 2) rfl rfl rfl ?_
    refine eb_ctS (pc := 2) (As := [.int x2, .int x3]) (rest := []) rfl (by decide) (by decide) rfl rfl (Nat.le_of_ble_eq_true rfl) ?_
    refine eb_bodyQ (by decide) ok_X1_codeOf (Nat.le_of_ble_eq_true rfl) ?_
    change eb_Sn _ m_X1_codeOf _ 0 [(0, .int x2), (1, .int x3)] [] _ _
    refine eb_bipush (pc := 0) (n := 16) (v := 16) rfl rfl ?_
    refine eb_iload_n (pc := 2) (n := 1) (i := 1) rfl rfl rfl ?_
    refine eb_imul (pc := 3) rfl ?_
    refine eb_iload_n (pc := 4) (n := 0) (i := 0) rfl rfl rfl ?_
    refine eb_iadd (pc := 5) rfl ?_
    refine eb_ireturn (pc := 6) rfl rfl rfl ?_
    change eb_Sn _ _ _ 5 _ [.int (((16 : Int32) * x3) + x2)] _ _
    refine eb_istore_n (pc := 5) (n := 3) (i := 3) (ls2 := [(3, .int (((16 : Int32) * x3) + x2)), (0, .ref s_flights), (1, .int x2), (2, .int x3)]) rfl (Nat.le_of_ble_eq_true rfl) rfl rfl ?_
    refine eb_iload_n (pc := 6) (n := 3) (i := 3) rfl rfl rfl ?_
    refine eb_joinI (pc2 := 10) (ls2 := [(3, .int (((16 : Int32) * x3) + x2)), (0, .ref s_flights), (1, .int x2), (2, .int x3)]) (st2 := []) (v := eb_q ((¬ ((((16 : Int32) * x3) + x2) < 0)) ∧ (¬ ((1024 : Int32) ≤ (((16 : Int32) * x3) + x2))))) ?_ (fun jj18 => ?_)
    · refine eb_if_eq (pc := 10) (tgt := 22) rfl (by decide) (fun c13 => ?_) (fun c13 => ?_)
      · replace c13 := eb_q0.mp c13
        replace w := w.1 c13
        refine eb_ldc2 (pc := 22) (a := 18446744073709551615) (v := (-1)) rfl (by decide) ?_
        refine eb_lreturn (pc := 25) rfl rfl ?_
        change eb_Sn _ _ _ 44 _ [.long (-1)] _ _
        exact eb_lreturn (pc := 44) rfl rfl w
      · replace c13 := eb_q1.mp c13
        replace w := w.2 c13
        refine eb_aload_n (pc := 13) (n := 0) (i := 0) rfl rfl rfl ?_
        obtain ⟨r14, q15, k16, w⟩ := w
        refine eb_getR (pc := 14) rfl rfl (by decide) (by decide) rfl q15 ?_
        refine eb_iload_n (pc := 17) (n := 3) (i := 3) rfl rfl rfl ?_
        obtain ⟨c17, w⟩ := w
        refine eb_laload (pc := 18) rfl k16 c17 ?_
        refine eb_goto (pc := 19) (tgt := 25) rfl (by decide) ?_
        refine eb_lreturn (pc := 25) rfl rfl ?_
        change eb_Sn _ _ _ 44 _ [.long (eb_J h8 r14 (((16 : Int32) * x3) + x2).toNatClampNeg)] _ _
        exact eb_lreturn (pc := 44) rfl rfl w
    refine eb_ctS (pc := 7) (As := [.int (((16 : Int32) * x3) + x2)]) (rest := []) rfl (by decide) (by decide) rfl rfl (Nat.le_of_ble_eq_true rfl) ?_
    refine eb_bodyQ (by decide) ok_X1_isCode (Nat.le_of_ble_eq_true rfl) ?_
    change eb_Sn _ m_X1_isCode _ 0 [(0, .int (((16 : Int32) * x3) + x2))] [] _ _
    refine eb_iload_n (pc := 0) (n := 0) (i := 0) rfl rfl rfl ?_
    refine eb_if_lt (pc := 1) (tgt := 15) rfl (by decide) (fun c11 => ?_) (fun c11 => ?_)
    · refine eb_iconst (pc := 15) (n := 0) (v := 0) rfl rfl ?_
      refine eb_ireturn (pc := 16) rfl rfl (by decide) ?_
      change eb_Sn _ _ _ 10 _ _ _ _
      exact jj18 0 (eb_qf (fun z => z.1 c11)).symm
    · refine eb_iload_n (pc := 4) (n := 0) (i := 0) rfl rfl rfl ?_
      refine eb_sipush (pc := 5) (n := 1024) (v := 1024) rfl rfl ?_
      refine eb_icmp_ge (pc := 8) (tgt := 15) rfl (by decide) (fun c12 => ?_) (fun c12 => ?_)
      · refine eb_iconst (pc := 15) (n := 0) (v := 0) rfl rfl ?_
        refine eb_ireturn (pc := 16) rfl rfl (by decide) ?_
        change eb_Sn _ _ _ 10 _ _ _ _
        exact jj18 0 (eb_qf (fun z => (fun z => z c12) z.2)).symm
      · refine eb_iconst (pc := 11) (n := 1) (v := 1) rfl rfl ?_
        refine eb_goto (pc := 12) (tgt := 16) rfl (by decide) ?_
        refine eb_ireturn (pc := 16) rfl rfl (by decide) ?_
        change eb_Sn _ _ _ 10 _ _ _ _
        exact jj18 1 (eb_qt (⟨c11, c12⟩)).symm
  · replace w := w.2 c4
    refine eb_iload (pc := 14) (i := 4) rfl rfl ?_
    refine eb_i2l (pc := 16) rfl ?_
    exact eb_lreturn (pc := 17) rfl rfl w
theorem T_X10_came {d : Nat} {h : eb_H} {Q : Option Value → eb_H → Prop} (x1 : Int32) (x2 : Int32) (x3 : Int32)  (ko : eb_KO h) (w : eb_Ct (d + 1) 146 [.ref s_EB, .int x1, .int x2, .int x3] h (fun r h1 => ∃ y2, r = some (.int y2) ∧ eb_KO h1 ∧ ((y2 = 0 → ∃ r5, eb_R h1 s_EB 2 = some r5 ∧ eb_kd r5 = 9 ∧ eb_Ct (d + 1) 18 [.ref s_flights, .ref r5, .ref s_now, .int x1, .int 0] h1 (fun r h8 => r = none ∧ eb_KO h8 ∧ ((¬ ((¬ ((((16 : Int32) * x3) + x2) < 0)) ∧ (¬ ((1024 : Int32) ≤ (((16 : Int32) * x3) + x2)))) → Q (some (.long (-1))) h8) ∧ ((¬ ((((16 : Int32) * x3) + x2) < 0)) ∧ (¬ ((1024 : Int32) ≤ (((16 : Int32) * x3) + x2))) → ∃ r14, eb_R h8 s_flights 10 = some r14 ∧ eb_kd r14 = 14 ∧ (vp_in (((16 : Int32) * x3) + x2) (eb_ln r14)) ∧ Q (some (.long (eb_J h8 r14 (((16 : Int32) * x3) + x2).toNatClampNeg))) h8)))) ∧ (¬ (y2 = 0) → Q (some (.long y2.toInt64)) h1)))) : eb_Ct (d + 2) 122 [.ref s_EB, .int x1, .int x2, .int x3] h Q :=
  eb_bodyQ (by decide) ok_X10_came (Nat.le_of_ble_eq_true rfl) (b_X10_came_0 (h0 := h) x1 x2 x3  ko w)
theorem b_X10_cameBy_0 {d : Nat} {h0 h : eb_H} {Q : Option Value → eb_H → Prop} (x1 : Int32) (x2 : Int32) (x3 : Int32) (x4 : Int32)  (ko : eb_KO h) (w : eb_Ct (d + 1) 146 [.ref s_EB, .int x1, .int x2, .int x3] h (fun r h1 => ∃ y2, r = some (.int y2) ∧ eb_KO h1 ∧ ((y2 = 0 → ((0 ≤ x4 → ∃ r6, eb_R h1 s_EB 2 = some r6 ∧ eb_kd r6 = 9 ∧ eb_Ct (d + 1) 18 [.ref s_flights, .ref r6, .ref s_now, .int x1, .int 2] h1 (fun r h9 => r = none ∧ eb_KO h9 ∧ ((¬ ((¬ ((((16 : Int32) * x3) + x2) < 0)) ∧ (¬ ((1024 : Int32) ≤ (((16 : Int32) * x3) + x2)))) → Q (some (.int (-1))) h9) ∧ ((¬ ((((16 : Int32) * x3) + x2) < 0)) ∧ (¬ ((1024 : Int32) ≤ (((16 : Int32) * x3) + x2))) → ∃ r15, eb_R h9 s_flights 10 = some r15 ∧ eb_kd r15 = 14 ∧ (vp_in (((16 : Int32) * x3) + x2) (eb_ln r15)) ∧ (((eb_J h9 r15 (((16 : Int32) * x3) + x2).toNatClampNeg) = (-1) → Q (some (.int (-1))) h9) ∧ (¬ ((eb_J h9 r15 (((16 : Int32) * x3) + x2).toNatClampNeg) = (-1)) → ((x4 < x1 → Q (some (.int ((((eb_J h9 r15 (((16 : Int32) * x3) + x2).toNatClampNeg) >>> (((2 : Int32) * ((x1 - 1) - x4)).toInt64 &&& 63)) &&& 3).toInt32))) h9) ∧ (¬ (x4 < x1) → Q (some (.int (-1))) h9)))))))) ∧ (¬ (0 ≤ x4) → Q (some (.int (-3))) h1))) ∧ (¬ (y2 = 0) → Q (some (.int y2)) h1)))) : eb_Sn (d + 2) m_X10_cameBy h0 0 [(0, .ref s_EB), (1, .int x1), (2, .int x2), (3, .int x3), (4, .int x4)] [] h Q := by
  refine eb_aload_n (pc := 0) (n := 0) (i := 0) rfl rfl rfl ?_
  refine eb_iload_n (pc := 1) (n := 1) (i := 1) rfl rfl rfl ?_
  refine eb_iload_n (pc := 2) (n := 2) (i := 2) rfl rfl rfl ?_
  refine eb_iload_n (pc := 3) (n := 3) (i := 3) rfl rfl rfl ?_
  refine eb_ctV (pc := 4) (As := [.int x1, .int x2, .int x3]) (rest := []) rfl (by decide) rfl rfl (by decide) rfl (Nat.le_of_ble_eq_true rfl) ?_
  refine eb_Ct.mono w ?_
  rintro r h1 ⟨y2, rfl, ko3, w⟩
  change eb_Sn _ _ _ 7 _ [.int y2] _ _
  refine eb_istore (pc := 7) (i := 5) (ls2 := [(5, .int y2), (0, .ref s_EB), (1, .int x1), (2, .int x2), (3, .int x3), (4, .int x4)]) (Nat.le_of_ble_eq_true rfl) rfl rfl ?_
  refine eb_iload (pc := 9) (i := 5) rfl rfl ?_
  refine eb_if_eq (pc := 11) (tgt := 17) rfl (by decide) (fun c4 => ?_) (fun c4 => ?_)
  · replace w := w.1 c4
    refine eb_iload (pc := 17) (i := 4) rfl rfl ?_
    refine eb_if_ge (pc := 19) (tgt := 25) rfl (by decide) (fun c5 => ?_) (fun c5 => ?_)
    · replace w := w.1 c5
      refine eb_aload_n (pc := 25) (n := 0) (i := 0) rfl rfl rfl ?_
      refine eb_getR (pc := 26) rfl rfl (by decide) (by decide) rfl (ko_s_EB_7 ko3) ?_
      refine eb_aload_n (pc := 29) (n := 0) (i := 0) rfl rfl rfl ?_
      obtain ⟨r6, q7, k8, w⟩ := w
      refine eb_getR (pc := 30) rfl rfl (by decide) (by decide) rfl q7 ?_
      refine eb_aload_n (pc := 33) (n := 0) (i := 0) rfl rfl rfl ?_
      refine eb_getR (pc := 34) rfl rfl (by decide) (by decide) rfl (ko_s_EB_3 ko3) ?_
      refine eb_iload_n (pc := 37) (n := 1) (i := 1) rfl rfl rfl ?_
      refine eb_iconst (pc := 38) (n := 2) (v := 2) rfl rfl ?_
      refine eb_ctV (pc := 39) (As := [.ref r6, .ref s_now, .int x1, .int 2]) (rest := []) rfl (by decide) rfl rfl (by decide) rfl (Nat.le_of_ble_eq_true rfl) ?_
      refine eb_Ct.mono w ?_
      rintro r h9 ⟨rfl, ko11, w⟩
      change eb_Sn _ _ _ 42 _ [] _ _
      refine eb_aload_n (pc := 42) (n := 0) (i := 0) rfl rfl rfl ?_
      refine eb_getR (pc := 43) rfl rfl (by decide) (by decide) rfl (ko_s_EB_7 ko11) ?_
      refine eb_iload_n (pc := 46) (n := 2) (i := 2) rfl rfl rfl ?_
      refine eb_iload_n (pc := 47) (n := 3) (i := 3) rfl rfl rfl ?_
      refine eb_ctV (pc := 48) (As := [.int x2, .int x3]) (rest := []) rfl (by decide) rfl rfl (by decide) rfl (Nat.le_of_ble_eq_true rfl) ?_
      refine eb_bodyQ (by decide) ok_X1_amountAt (Nat.le_of_ble_eq_true rfl) ?_
      change eb_Sn _ m_X1_amountAt _ 0 [(0, .ref s_flights), (1, .int x2), (2, .int x3)] [] _ _
      refine eb_iload_n (pc := 0) (n := 1) (i := 1) rfl rfl rfl ?_
      refine eb_iload_n (pc := 1) (n := 2) (i := 2) rfl rfl rfl ?_
      refine eb_ctS (pc := 2) (As := [.int x2, .int x3]) (rest := []) rfl (by decide) (by decide) rfl rfl (Nat.le_of_ble_eq_true rfl) ?_
      refine eb_bodyQ (by decide) ok_X1_codeOf (Nat.le_of_ble_eq_true rfl) ?_
      change eb_Sn _ m_X1_codeOf _ 0 [(0, .int x2), (1, .int x3)] [] _ _
      refine eb_bipush (pc := 0) (n := 16) (v := 16) rfl rfl ?_
      refine eb_iload_n (pc := 2) (n := 1) (i := 1) rfl rfl rfl ?_
      refine eb_imul (pc := 3) rfl ?_
      refine eb_iload_n (pc := 4) (n := 0) (i := 0) rfl rfl rfl ?_
      refine eb_iadd (pc := 5) rfl ?_
      refine eb_ireturn (pc := 6) rfl rfl rfl ?_
      change eb_Sn _ _ _ 5 _ [.int (((16 : Int32) * x3) + x2)] _ _
      refine eb_istore_n (pc := 5) (n := 3) (i := 3) (ls2 := [(3, .int (((16 : Int32) * x3) + x2)), (0, .ref s_flights), (1, .int x2), (2, .int x3)]) rfl (Nat.le_of_ble_eq_true rfl) rfl rfl ?_
      refine eb_iload_n (pc := 6) (n := 3) (i := 3) rfl rfl rfl ?_
      refine eb_joinI (pc2 := 10) (ls2 := [(3, .int (((16 : Int32) * x3) + x2)), (0, .ref s_flights), (1, .int x2), (2, .int x3)]) (st2 := []) (v := eb_q ((¬ ((((16 : Int32) * x3) + x2) < 0)) ∧ (¬ ((1024 : Int32) ≤ (((16 : Int32) * x3) + x2))))) ?_ (fun jj19 => ?_)
      · refine eb_if_eq (pc := 10) (tgt := 22) rfl (by decide) (fun c14 => ?_) (fun c14 => ?_)
        · replace c14 := eb_q0.mp c14
          replace w := w.1 c14
          refine eb_ldc2 (pc := 22) (a := 18446744073709551615) (v := (-1)) rfl (by decide) ?_
          refine eb_lreturn (pc := 25) rfl rfl ?_
          change eb_Sn _ _ _ 51 _ [.long (-1)] _ _
          refine eb_lstore (pc := 51) (i := 6) (ls2 := [(6, .long (-1)), (5, .int y2), (0, .ref s_EB), (1, .int x1), (2, .int x2), (3, .int x3), (4, .int x4)]) (Nat.le_of_ble_eq_true rfl) rfl rfl ?_
          refine eb_lload (pc := 53) (i := 6) rfl rfl ?_
          refine eb_ldc2 (pc := 55) (a := 18446744073709551615) (v := (-1)) rfl (by decide) ?_
          refine eb_lcmp (pc := 58) rfl ?_
          refine eb_if_eq (pc := 59) (tgt := 68) rfl (by decide) (fun c => ?_) (fun c => absurd c (by decide))
          refine eb_iconst (pc := 68) (n := -1) (v := (-1)) rfl rfl ?_
          exact eb_ireturn (pc := 69) rfl rfl rfl w
        · replace c14 := eb_q1.mp c14
          replace w := w.2 c14
          refine eb_aload_n (pc := 13) (n := 0) (i := 0) rfl rfl rfl ?_
          obtain ⟨r15, q16, k17, w⟩ := w
          refine eb_getR (pc := 14) rfl rfl (by decide) (by decide) rfl q16 ?_
          refine eb_iload_n (pc := 17) (n := 3) (i := 3) rfl rfl rfl ?_
          obtain ⟨c18, w⟩ := w
          refine eb_laload (pc := 18) rfl k17 c18 ?_
          refine eb_goto (pc := 19) (tgt := 25) rfl (by decide) ?_
          refine eb_lreturn (pc := 25) rfl rfl ?_
          change eb_Sn _ _ _ 51 _ [.long (eb_J h9 r15 (((16 : Int32) * x3) + x2).toNatClampNeg)] _ _
          refine eb_lstore (pc := 51) (i := 6) (ls2 := [(6, .long (eb_J h9 r15 (((16 : Int32) * x3) + x2).toNatClampNeg)), (5, .int y2), (0, .ref s_EB), (1, .int x1), (2, .int x2), (3, .int x3), (4, .int x4)]) (Nat.le_of_ble_eq_true rfl) rfl rfl ?_
          refine eb_lload (pc := 53) (i := 6) rfl rfl ?_
          refine eb_ldc2 (pc := 55) (a := 18446744073709551615) (v := (-1)) rfl (by decide) ?_
          refine eb_lcmp (pc := 58) rfl ?_
          refine eb_if_eq (pc := 59) (tgt := 68) rfl (by decide) (fun c21 => ?_) (fun c21 => ?_)
          · replace c21 := eb_lc_eq.mp c21
            replace w := w.1 c21
            refine eb_iconst (pc := 68) (n := -1) (v := (-1)) rfl rfl ?_
            exact eb_ireturn (pc := 69) rfl rfl rfl w
          · replace c21 := (fun hh => mt eb_lc_eq.mpr hh) c21
            replace w := w.2 c21
            refine eb_iload (pc := 62) (i := 4) rfl rfl ?_
            refine eb_iload_n (pc := 64) (n := 1) (i := 1) rfl rfl rfl ?_
            refine eb_icmp_lt (pc := 65) (tgt := 70) rfl (by decide) (fun c22 => ?_) (fun c22 => ?_)
            · replace w := w.1 c22
              refine eb_lload (pc := 70) (i := 6) rfl rfl ?_
              refine eb_iconst (pc := 72) (n := 2) (v := 2) rfl rfl ?_
              refine eb_iload_n (pc := 73) (n := 1) (i := 1) rfl rfl rfl ?_
              refine eb_iconst (pc := 74) (n := 1) (v := 1) rfl rfl ?_
              refine eb_isub (pc := 75) rfl ?_
              refine eb_iload (pc := 76) (i := 4) rfl rfl ?_
              refine eb_isub (pc := 78) rfl ?_
              refine eb_imul (pc := 79) rfl ?_
              refine eb_lshr (pc := 80) rfl ?_
              refine eb_ldc2 (pc := 81) (a := 3) (v := 3) rfl (by decide) ?_
              refine eb_land (pc := 84) rfl ?_
              refine eb_l2i (pc := 85) rfl ?_
              exact eb_ireturn (pc := 86) rfl rfl rfl w
            · replace w := w.2 c22
              refine eb_iconst (pc := 68) (n := -1) (v := (-1)) rfl rfl ?_
              exact eb_ireturn (pc := 69) rfl rfl rfl w
      refine eb_ctS (pc := 7) (As := [.int (((16 : Int32) * x3) + x2)]) (rest := []) rfl (by decide) (by decide) rfl rfl (Nat.le_of_ble_eq_true rfl) ?_
      refine eb_bodyQ (by decide) ok_X1_isCode (Nat.le_of_ble_eq_true rfl) ?_
      change eb_Sn _ m_X1_isCode _ 0 [(0, .int (((16 : Int32) * x3) + x2))] [] _ _
      refine eb_iload_n (pc := 0) (n := 0) (i := 0) rfl rfl rfl ?_
      refine eb_if_lt (pc := 1) (tgt := 15) rfl (by decide) (fun c12 => ?_) (fun c12 => ?_)
      · refine eb_iconst (pc := 15) (n := 0) (v := 0) rfl rfl ?_
        refine eb_ireturn (pc := 16) rfl rfl (by decide) ?_
        change eb_Sn _ _ _ 10 _ _ _ _
        exact jj19 0 (eb_qf (fun z => z.1 c12)).symm
      · refine eb_iload_n (pc := 4) (n := 0) (i := 0) rfl rfl rfl ?_
        refine eb_sipush (pc := 5) (n := 1024) (v := 1024) rfl rfl ?_
        refine eb_icmp_ge (pc := 8) (tgt := 15) rfl (by decide) (fun c13 => ?_) (fun c13 => ?_)
        · refine eb_iconst (pc := 15) (n := 0) (v := 0) rfl rfl ?_
          refine eb_ireturn (pc := 16) rfl rfl (by decide) ?_
          change eb_Sn _ _ _ 10 _ _ _ _
          exact jj19 0 (eb_qf (fun z => (fun z => z c13) z.2)).symm
        · refine eb_iconst (pc := 11) (n := 1) (v := 1) rfl rfl ?_
          refine eb_goto (pc := 12) (tgt := 16) rfl (by decide) ?_
          refine eb_ireturn (pc := 16) rfl rfl (by decide) ?_
          change eb_Sn _ _ _ 10 _ _ _ _
          exact jj19 1 (eb_qt (⟨c12, c13⟩)).symm
    · replace w := w.2 c5
      refine eb_bipush (pc := 22) (n := -3) (v := (-3)) rfl rfl ?_
      exact eb_ireturn (pc := 24) rfl rfl rfl w
  · replace w := w.2 c4
    refine eb_iload (pc := 14) (i := 5) rfl rfl ?_
    exact eb_ireturn (pc := 16) rfl rfl rfl w
theorem T_X10_cameBy {d : Nat} {h : eb_H} {Q : Option Value → eb_H → Prop} (x1 : Int32) (x2 : Int32) (x3 : Int32) (x4 : Int32)  (ko : eb_KO h) (w : eb_Ct (d + 1) 146 [.ref s_EB, .int x1, .int x2, .int x3] h (fun r h1 => ∃ y2, r = some (.int y2) ∧ eb_KO h1 ∧ ((y2 = 0 → ((0 ≤ x4 → ∃ r6, eb_R h1 s_EB 2 = some r6 ∧ eb_kd r6 = 9 ∧ eb_Ct (d + 1) 18 [.ref s_flights, .ref r6, .ref s_now, .int x1, .int 2] h1 (fun r h9 => r = none ∧ eb_KO h9 ∧ ((¬ ((¬ ((((16 : Int32) * x3) + x2) < 0)) ∧ (¬ ((1024 : Int32) ≤ (((16 : Int32) * x3) + x2)))) → Q (some (.int (-1))) h9) ∧ ((¬ ((((16 : Int32) * x3) + x2) < 0)) ∧ (¬ ((1024 : Int32) ≤ (((16 : Int32) * x3) + x2))) → ∃ r15, eb_R h9 s_flights 10 = some r15 ∧ eb_kd r15 = 14 ∧ (vp_in (((16 : Int32) * x3) + x2) (eb_ln r15)) ∧ (((eb_J h9 r15 (((16 : Int32) * x3) + x2).toNatClampNeg) = (-1) → Q (some (.int (-1))) h9) ∧ (¬ ((eb_J h9 r15 (((16 : Int32) * x3) + x2).toNatClampNeg) = (-1)) → ((x4 < x1 → Q (some (.int ((((eb_J h9 r15 (((16 : Int32) * x3) + x2).toNatClampNeg) >>> (((2 : Int32) * ((x1 - 1) - x4)).toInt64 &&& 63)) &&& 3).toInt32))) h9) ∧ (¬ (x4 < x1) → Q (some (.int (-1))) h9)))))))) ∧ (¬ (0 ≤ x4) → Q (some (.int (-3))) h1))) ∧ (¬ (y2 = 0) → Q (some (.int y2)) h1)))) : eb_Ct (d + 2) 123 [.ref s_EB, .int x1, .int x2, .int x3, .int x4] h Q :=
  eb_bodyQ (by decide) ok_X10_cameBy (Nat.le_of_ble_eq_true rfl) (b_X10_cameBy_0 (h0 := h) x1 x2 x3 x4  ko w)
theorem b_X10_surely_0 {d : Nat} {h0 h : eb_H} {Q : Option Value → eb_H → Prop} (x1 : Int32) (x2 : Int32) (x3 : Int32)  (ko : eb_KO h) (w : eb_Ct (d + 1) 146 [.ref s_EB, .int x1, .int x2, .int x3] h (fun r h1 => ∃ y2, r = some (.int y2) ∧ eb_KO h1 ∧ ((y2 = 0 → ∃ r5, eb_R h1 s_EB 2 = some r5 ∧ eb_kd r5 = 9 ∧ eb_Ct (d + 1) 18 [.ref s_flights, .ref r5, .ref s_now, .int x1, .int 3] h1 (fun r h8 => r = none ∧ eb_KO h8 ∧ ((¬ ((¬ ((((16 : Int32) * x3) + x2) < 0)) ∧ (¬ ((1024 : Int32) ≤ (((16 : Int32) * x3) + x2)))) → Q (some (.int 0)) h8) ∧ ((¬ ((((16 : Int32) * x3) + x2) < 0)) ∧ (¬ ((1024 : Int32) ≤ (((16 : Int32) * x3) + x2))) → ∃ r14, eb_R h8 s_flights 10 = some r14 ∧ eb_kd r14 = 14 ∧ (vp_in (((16 : Int32) * x3) + x2) (eb_ln r14)) ∧ Q (some (.int (if (eb_J h8 r14 (((16 : Int32) * x3) + x2).toNatClampNeg) = (-1) then 0 else (eb_J h8 r14 (((16 : Int32) * x3) + x2).toNatClampNeg).toInt32 : Int32))) h8)))) ∧ (¬ (y2 = 0) → Q (some (.int y2)) h1)))) : eb_Sn (d + 2) m_X10_surely h0 0 [(0, .ref s_EB), (1, .int x1), (2, .int x2), (3, .int x3)] [] h Q := by
  refine eb_aload_n (pc := 0) (n := 0) (i := 0) rfl rfl rfl ?_
  refine eb_iload_n (pc := 1) (n := 1) (i := 1) rfl rfl rfl ?_
  refine eb_iload_n (pc := 2) (n := 2) (i := 2) rfl rfl rfl ?_
  refine eb_iload_n (pc := 3) (n := 3) (i := 3) rfl rfl rfl ?_
  refine eb_ctV (pc := 4) (As := [.int x1, .int x2, .int x3]) (rest := []) rfl (by decide) rfl rfl (by decide) rfl (Nat.le_of_ble_eq_true rfl) ?_
  refine eb_Ct.mono w ?_
  rintro r h1 ⟨y2, rfl, ko3, w⟩
  change eb_Sn _ _ _ 7 _ [.int y2] _ _
  refine eb_istore (pc := 7) (i := 4) (ls2 := [(4, .int y2), (0, .ref s_EB), (1, .int x1), (2, .int x2), (3, .int x3)]) (Nat.le_of_ble_eq_true rfl) rfl rfl ?_
  refine eb_iload (pc := 9) (i := 4) rfl rfl ?_
  refine eb_if_eq (pc := 11) (tgt := 17) rfl (by decide) (fun c4 => ?_) (fun c4 => ?_)
  · replace w := w.1 c4
    refine eb_aload_n (pc := 17) (n := 0) (i := 0) rfl rfl rfl ?_
    refine eb_getR (pc := 18) rfl rfl (by decide) (by decide) rfl (ko_s_EB_7 ko3) ?_
    refine eb_aload_n (pc := 21) (n := 0) (i := 0) rfl rfl rfl ?_
    obtain ⟨r5, q6, k7, w⟩ := w
    refine eb_getR (pc := 22) rfl rfl (by decide) (by decide) rfl q6 ?_
    refine eb_aload_n (pc := 25) (n := 0) (i := 0) rfl rfl rfl ?_
    refine eb_getR (pc := 26) rfl rfl (by decide) (by decide) rfl (ko_s_EB_3 ko3) ?_
    refine eb_iload_n (pc := 29) (n := 1) (i := 1) rfl rfl rfl ?_
    refine eb_iconst (pc := 30) (n := 3) (v := 3) rfl rfl ?_
    refine eb_ctV (pc := 31) (As := [.ref r5, .ref s_now, .int x1, .int 3]) (rest := []) rfl (by decide) rfl rfl (by decide) rfl (Nat.le_of_ble_eq_true rfl) ?_
    refine eb_Ct.mono w ?_
    rintro r h8 ⟨rfl, ko10, w⟩
    change eb_Sn _ _ _ 34 _ [] _ _
    refine eb_aload_n (pc := 34) (n := 0) (i := 0) rfl rfl rfl ?_
    refine eb_getR (pc := 35) rfl rfl (by decide) (by decide) rfl (ko_s_EB_7 ko10) ?_
    refine eb_iload_n (pc := 38) (n := 2) (i := 2) rfl rfl rfl ?_
    refine eb_iload_n (pc := 39) (n := 3) (i := 3) rfl rfl rfl ?_
    refine eb_ctV (pc := 40) (As := [.int x2, .int x3]) (rest := []) rfl (by decide) rfl rfl (by decide) rfl (Nat.le_of_ble_eq_true rfl) ?_
    refine eb_bodyQ (by decide) ok_X1_amountAt (Nat.le_of_ble_eq_true rfl) ?_
    change eb_Sn _ m_X1_amountAt _ 0 [(0, .ref s_flights), (1, .int x2), (2, .int x3)] [] _ _
    refine eb_iload_n (pc := 0) (n := 1) (i := 1) rfl rfl rfl ?_
    refine eb_iload_n (pc := 1) (n := 2) (i := 2) rfl rfl rfl ?_
    refine eb_ctS (pc := 2) (As := [.int x2, .int x3]) (rest := []) rfl (by decide) (by decide) rfl rfl (Nat.le_of_ble_eq_true rfl) ?_
    refine eb_bodyQ (by decide) ok_X1_codeOf (Nat.le_of_ble_eq_true rfl) ?_
    change eb_Sn _ m_X1_codeOf _ 0 [(0, .int x2), (1, .int x3)] [] _ _
    refine eb_bipush (pc := 0) (n := 16) (v := 16) rfl rfl ?_
    refine eb_iload_n (pc := 2) (n := 1) (i := 1) rfl rfl rfl ?_
    refine eb_imul (pc := 3) rfl ?_
    refine eb_iload_n (pc := 4) (n := 0) (i := 0) rfl rfl rfl ?_
    refine eb_iadd (pc := 5) rfl ?_
    refine eb_ireturn (pc := 6) rfl rfl rfl ?_
    change eb_Sn _ _ _ 5 _ [.int (((16 : Int32) * x3) + x2)] _ _
    refine eb_istore_n (pc := 5) (n := 3) (i := 3) (ls2 := [(3, .int (((16 : Int32) * x3) + x2)), (0, .ref s_flights), (1, .int x2), (2, .int x3)]) rfl (Nat.le_of_ble_eq_true rfl) rfl rfl ?_
    refine eb_iload_n (pc := 6) (n := 3) (i := 3) rfl rfl rfl ?_
    refine eb_joinI (pc2 := 10) (ls2 := [(3, .int (((16 : Int32) * x3) + x2)), (0, .ref s_flights), (1, .int x2), (2, .int x3)]) (st2 := []) (v := eb_q ((¬ ((((16 : Int32) * x3) + x2) < 0)) ∧ (¬ ((1024 : Int32) ≤ (((16 : Int32) * x3) + x2))))) ?_ (fun jj18 => ?_)
    · refine eb_if_eq (pc := 10) (tgt := 22) rfl (by decide) (fun c13 => ?_) (fun c13 => ?_)
      · replace c13 := eb_q0.mp c13
        replace w := w.1 c13
        refine eb_ldc2 (pc := 22) (a := 18446744073709551615) (v := (-1)) rfl (by decide) ?_
        refine eb_lreturn (pc := 25) rfl rfl ?_
        change eb_Sn _ _ _ 43 _ [.long (-1)] _ _
        refine eb_lstore (pc := 43) (i := 5) (ls2 := [(5, .long (-1)), (4, .int y2), (0, .ref s_EB), (1, .int x1), (2, .int x2), (3, .int x3)]) (Nat.le_of_ble_eq_true rfl) rfl rfl ?_
        refine eb_lload (pc := 45) (i := 5) rfl rfl ?_
        refine eb_ldc2 (pc := 47) (a := 18446744073709551615) (v := (-1)) rfl (by decide) ?_
        refine eb_lcmp (pc := 50) rfl ?_
        refine eb_if_ne (pc := 51) (tgt := 58) rfl (by decide) (fun c => absurd c (by decide)) (fun c => ?_)
        refine eb_iconst (pc := 54) (n := 0) (v := 0) rfl rfl ?_
        refine eb_goto (pc := 55) (tgt := 61) rfl (by decide) ?_
        exact eb_ireturn (pc := 61) rfl rfl rfl w
      · replace c13 := eb_q1.mp c13
        replace w := w.2 c13
        refine eb_aload_n (pc := 13) (n := 0) (i := 0) rfl rfl rfl ?_
        obtain ⟨r14, q15, k16, w⟩ := w
        refine eb_getR (pc := 14) rfl rfl (by decide) (by decide) rfl q15 ?_
        refine eb_iload_n (pc := 17) (n := 3) (i := 3) rfl rfl rfl ?_
        obtain ⟨c17, w⟩ := w
        refine eb_laload (pc := 18) rfl k16 c17 ?_
        refine eb_goto (pc := 19) (tgt := 25) rfl (by decide) ?_
        refine eb_lreturn (pc := 25) rfl rfl ?_
        change eb_Sn _ _ _ 43 _ [.long (eb_J h8 r14 (((16 : Int32) * x3) + x2).toNatClampNeg)] _ _
        refine eb_lstore (pc := 43) (i := 5) (ls2 := [(5, .long (eb_J h8 r14 (((16 : Int32) * x3) + x2).toNatClampNeg)), (4, .int y2), (0, .ref s_EB), (1, .int x1), (2, .int x2), (3, .int x3)]) (Nat.le_of_ble_eq_true rfl) rfl rfl ?_
        refine eb_lload (pc := 45) (i := 5) rfl rfl ?_
        refine eb_ldc2 (pc := 47) (a := 18446744073709551615) (v := (-1)) rfl (by decide) ?_
        refine eb_lcmp (pc := 50) rfl ?_
        refine eb_joinI (pc2 := 61) (ls2 := [(5, .long (eb_J h8 r14 (((16 : Int32) * x3) + x2).toNatClampNeg)), (4, .int y2), (0, .ref s_EB), (1, .int x1), (2, .int x2), (3, .int x3)]) (st2 := []) (v := (if (eb_J h8 r14 (((16 : Int32) * x3) + x2).toNatClampNeg) = (-1) then 0 else (eb_J h8 r14 (((16 : Int32) * x3) + x2).toNatClampNeg).toInt32 : Int32)) ?_ (fun jj21 => ?_)
        · exact eb_ireturn (pc := 61) rfl rfl rfl w
        refine eb_if_ne (pc := 51) (tgt := 58) rfl (by decide) (fun c20 => ?_) (fun c20 => ?_)
        · replace c20 := eb_lc_ne.mp c20
          refine eb_lload (pc := 58) (i := 5) rfl rfl ?_
          refine eb_l2i (pc := 60) rfl ?_
          exact jj21 _ (by simp only [if_neg c20])
        · replace c20 := eb_lc_eq.mp c20
          refine eb_iconst (pc := 54) (n := 0) (v := 0) rfl rfl ?_
          refine eb_goto (pc := 55) (tgt := 61) rfl (by decide) ?_
          exact jj21 _ (by simp only [if_pos c20])
    refine eb_ctS (pc := 7) (As := [.int (((16 : Int32) * x3) + x2)]) (rest := []) rfl (by decide) (by decide) rfl rfl (Nat.le_of_ble_eq_true rfl) ?_
    refine eb_bodyQ (by decide) ok_X1_isCode (Nat.le_of_ble_eq_true rfl) ?_
    change eb_Sn _ m_X1_isCode _ 0 [(0, .int (((16 : Int32) * x3) + x2))] [] _ _
    refine eb_iload_n (pc := 0) (n := 0) (i := 0) rfl rfl rfl ?_
    refine eb_if_lt (pc := 1) (tgt := 15) rfl (by decide) (fun c11 => ?_) (fun c11 => ?_)
    · refine eb_iconst (pc := 15) (n := 0) (v := 0) rfl rfl ?_
      refine eb_ireturn (pc := 16) rfl rfl (by decide) ?_
      change eb_Sn _ _ _ 10 _ _ _ _
      exact jj18 0 (eb_qf (fun z => z.1 c11)).symm
    · refine eb_iload_n (pc := 4) (n := 0) (i := 0) rfl rfl rfl ?_
      refine eb_sipush (pc := 5) (n := 1024) (v := 1024) rfl rfl ?_
      refine eb_icmp_ge (pc := 8) (tgt := 15) rfl (by decide) (fun c12 => ?_) (fun c12 => ?_)
      · refine eb_iconst (pc := 15) (n := 0) (v := 0) rfl rfl ?_
        refine eb_ireturn (pc := 16) rfl rfl (by decide) ?_
        change eb_Sn _ _ _ 10 _ _ _ _
        exact jj18 0 (eb_qf (fun z => (fun z => z c12) z.2)).symm
      · refine eb_iconst (pc := 11) (n := 1) (v := 1) rfl rfl ?_
        refine eb_goto (pc := 12) (tgt := 16) rfl (by decide) ?_
        refine eb_ireturn (pc := 16) rfl rfl (by decide) ?_
        change eb_Sn _ _ _ 10 _ _ _ _
        exact jj18 1 (eb_qt (⟨c11, c12⟩)).symm
  · replace w := w.2 c4
    refine eb_iload (pc := 14) (i := 4) rfl rfl ?_
    exact eb_ireturn (pc := 16) rfl rfl rfl w
theorem T_X10_surely {d : Nat} {h : eb_H} {Q : Option Value → eb_H → Prop} (x1 : Int32) (x2 : Int32) (x3 : Int32)  (ko : eb_KO h) (w : eb_Ct (d + 1) 146 [.ref s_EB, .int x1, .int x2, .int x3] h (fun r h1 => ∃ y2, r = some (.int y2) ∧ eb_KO h1 ∧ ((y2 = 0 → ∃ r5, eb_R h1 s_EB 2 = some r5 ∧ eb_kd r5 = 9 ∧ eb_Ct (d + 1) 18 [.ref s_flights, .ref r5, .ref s_now, .int x1, .int 3] h1 (fun r h8 => r = none ∧ eb_KO h8 ∧ ((¬ ((¬ ((((16 : Int32) * x3) + x2) < 0)) ∧ (¬ ((1024 : Int32) ≤ (((16 : Int32) * x3) + x2)))) → Q (some (.int 0)) h8) ∧ ((¬ ((((16 : Int32) * x3) + x2) < 0)) ∧ (¬ ((1024 : Int32) ≤ (((16 : Int32) * x3) + x2))) → ∃ r14, eb_R h8 s_flights 10 = some r14 ∧ eb_kd r14 = 14 ∧ (vp_in (((16 : Int32) * x3) + x2) (eb_ln r14)) ∧ Q (some (.int (if (eb_J h8 r14 (((16 : Int32) * x3) + x2).toNatClampNeg) = (-1) then 0 else (eb_J h8 r14 (((16 : Int32) * x3) + x2).toNatClampNeg).toInt32 : Int32))) h8)))) ∧ (¬ (y2 = 0) → Q (some (.int y2)) h1)))) : eb_Ct (d + 2) 124 [.ref s_EB, .int x1, .int x2, .int x3] h Q :=
  eb_bodyQ (by decide) ok_X10_surely (Nat.le_of_ble_eq_true rfl) (b_X10_surely_0 (h0 := h) x1 x2 x3  ko w)
theorem b_X10_kinds_0 {d : Nat} {h0 h : eb_H} {Q : Option Value → eb_H → Prop} (x1 : Int32) (x2 : Int32) (x3 : Int32)  (ko : eb_KO h) (w : (((x1 < 0) ∨ (¬ (x1 < (4 : Int32))) → Q (some (.int (-2))) h) ∧ (¬ ((x1 < 0) ∨ (¬ (x1 < (4 : Int32)))) → ∃ r4, eb_R h s_EB 2 = some r4 ∧ eb_kd r4 = 9 ∧ (((¬ (x2 < 0)) ∧ (¬ (((eb_I h r4 0) * (eb_I h r4 1)) ≤ x2)) → (vp_in x1 4) ∧ ∃ r11, eb_R h s_trays x1.toNatClampNeg = some r11 ∧ eb_Ct d 147 [.ref r11, .int x3] h (fun r h13 => ∃ y14, r = some (.int y14) ∧ eb_KO h13 ∧ ((y14 = 0 → eb_Sn (d + 1) m_X10_kinds h0 47 [(0, .ref s_EB), (1, .int x1), (2, .int x2), (3, .int x3), (5, .int 0), (6, .int 0)] [] h13 Q) ∧ (¬ (y14 = 0) → Q (some (.int y14)) h13)))) ∧ (¬ ((¬ (x2 < 0)) ∧ (¬ (((eb_I h r4 0) * (eb_I h r4 1)) ≤ x2))) → Q (some (.int (-2))) h))))) : eb_Sn (d + 1) m_X10_kinds h0 0 [(0, .ref s_EB), (1, .int x1), (2, .int x2), (3, .int x3)] [] h Q := by
  refine eb_iload_n (pc := 0) (n := 1) (i := 1) rfl rfl rfl ?_
  refine eb_joinI (pc2 := 4) (ls2 := [(0, .ref s_EB), (1, .int x1), (2, .int x2), (3, .int x3)]) (st2 := []) (v := eb_q ((x1 < 0) ∨ (¬ (x1 < (4 : Int32))))) ?_ (fun jj19 => ?_)
  · refine eb_if_ne (pc := 4) (tgt := 18) rfl (by decide) (fun c3 => ?_) (fun c3 => ?_)
    · replace c3 := eb_q1.mp c3
      replace w := w.1 c3
      refine eb_bipush (pc := 18) (n := -2) (v := (-2)) rfl rfl ?_
      exact eb_ireturn (pc := 20) rfl rfl rfl w
    · replace c3 := eb_q0.mp c3
      replace w := w.2 c3
      refine eb_aload_n (pc := 7) (n := 0) (i := 0) rfl rfl rfl ?_
      obtain ⟨r4, q5, k6, w⟩ := w
      refine eb_getR (pc := 8) rfl rfl (by decide) (by decide) rfl q5 ?_
      refine eb_iload_n (pc := 11) (n := 2) (i := 2) rfl rfl rfl ?_
      refine eb_joinI (pc2 := 15) (ls2 := [(0, .ref s_EB), (1, .int x1), (2, .int x2), (3, .int x3)]) (st2 := []) (v := eb_q ((¬ (x2 < 0)) ∧ (¬ (((eb_I h r4 0) * (eb_I h r4 1)) ≤ x2)))) ?_ (fun jj17 => ?_)
      · refine eb_if_ne (pc := 15) (tgt := 21) rfl (by decide) (fun c9 => ?_) (fun c9 => ?_)
        · replace c9 := eb_q1.mp c9
          replace w := w.1 c9
          refine eb_aload_n (pc := 21) (n := 0) (i := 0) rfl rfl rfl ?_
          refine eb_getR (pc := 22) rfl rfl (by decide) (by decide) rfl (ko_s_EB_9 ko) ?_
          refine eb_iload_n (pc := 25) (n := 1) (i := 1) rfl rfl rfl ?_
          obtain ⟨c10, w⟩ := w
          obtain ⟨r11, q12, w⟩ := w
          refine eb_aaloadR (pc := 26) rfl rfl (by decide) (by decide) c10 q12 ?_
          refine eb_iload_n (pc := 27) (n := 3) (i := 3) rfl rfl rfl ?_
          refine eb_ctS (pc := 28) (As := [.ref r11, .int x3]) (rest := []) rfl (by decide) (by decide) rfl rfl (Nat.le_of_ble_eq_true rfl) ?_
          refine eb_Ct.mono w ?_
          rintro r h13 ⟨y14, rfl, ko15, w⟩
          change eb_Sn _ _ _ 31 _ [.int y14] _ _
          refine eb_istore (pc := 31) (i := 4) (ls2 := [(4, .int y14), (0, .ref s_EB), (1, .int x1), (2, .int x2), (3, .int x3)]) (Nat.le_of_ble_eq_true rfl) rfl rfl ?_
          refine eb_iload (pc := 33) (i := 4) rfl rfl ?_
          refine eb_if_eq (pc := 35) (tgt := 41) rfl (by decide) (fun c16 => ?_) (fun c16 => ?_)
          · replace w := w.1 c16
            refine eb_iconst (pc := 41) (n := 0) (v := 0) rfl rfl ?_
            refine eb_istore (pc := 42) (i := 5) (ls2 := [(5, .int 0), (4, .int y14), (0, .ref s_EB), (1, .int x1), (2, .int x2), (3, .int x3)]) (Nat.le_of_ble_eq_true rfl) rfl rfl ?_
            refine eb_iconst (pc := 44) (n := 0) (v := 0) rfl rfl ?_
            refine eb_istore (pc := 45) (i := 6) (ls2 := [(6, .int 0), (5, .int 0), (4, .int y14), (0, .ref s_EB), (1, .int x1), (2, .int x2), (3, .int x3)]) (Nat.le_of_ble_eq_true rfl) rfl rfl ?_
            exact eb_pick [3, 4, 5, 6, 1, 0] rfl w
          · replace w := w.2 c16
            refine eb_iload (pc := 38) (i := 4) rfl rfl ?_
            exact eb_ireturn (pc := 40) rfl rfl rfl w
        · replace c9 := eb_q0.mp c9
          replace w := w.2 c9
          refine eb_bipush (pc := 18) (n := -2) (v := (-2)) rfl rfl ?_
          exact eb_ireturn (pc := 20) rfl rfl rfl w
      refine eb_ctV (pc := 12) (As := [.int x2]) (rest := []) rfl (by decide) rfl k6 (by decide) rfl (Nat.le_of_ble_eq_true rfl) ?_
      refine eb_bodyQ (by decide) ok_X9_has (Nat.le_of_ble_eq_true rfl) ?_
      change eb_Sn _ m_X9_has _ 0 [(0, .ref r4), (1, .int x2)] [] _ _
      refine eb_iload_n (pc := 0) (n := 1) (i := 1) rfl rfl rfl ?_
      refine eb_if_lt (pc := 1) (tgt := 21) rfl (by decide) (fun c7 => ?_) (fun c7 => ?_)
      · refine eb_iconst (pc := 21) (n := 0) (v := 0) rfl rfl ?_
        refine eb_ireturn (pc := 22) rfl rfl (by decide) ?_
        change eb_Sn _ _ _ 15 _ _ _ _
        exact jj17 0 (eb_qf (fun z => z.1 c7)).symm
      · refine eb_iload_n (pc := 4) (n := 1) (i := 1) rfl rfl rfl ?_
        refine eb_aload_n (pc := 5) (n := 0) (i := 0) rfl rfl rfl ?_
        refine eb_getI (pc := 6) rfl k6 (by decide) (by decide) rfl ?_
        refine eb_aload_n (pc := 9) (n := 0) (i := 0) rfl rfl rfl ?_
        refine eb_getI (pc := 10) rfl k6 (by decide) (by decide) rfl ?_
        refine eb_imul (pc := 13) rfl ?_
        refine eb_icmp_ge (pc := 14) (tgt := 21) rfl (by decide) (fun c8 => ?_) (fun c8 => ?_)
        · refine eb_iconst (pc := 21) (n := 0) (v := 0) rfl rfl ?_
          refine eb_ireturn (pc := 22) rfl rfl (by decide) ?_
          change eb_Sn _ _ _ 15 _ _ _ _
          exact jj17 0 (eb_qf (fun z => (fun z => z c8) z.2)).symm
        · refine eb_iconst (pc := 17) (n := 1) (v := 1) rfl rfl ?_
          refine eb_goto (pc := 18) (tgt := 22) rfl (by decide) ?_
          refine eb_ireturn (pc := 22) rfl rfl (by decide) ?_
          change eb_Sn _ _ _ 15 _ _ _ _
          exact jj17 1 (eb_qt (⟨c7, c8⟩)).symm
  refine eb_ctS (pc := 1) (As := [.int x1]) (rest := []) rfl (by decide) (by decide) rfl rfl (Nat.le_of_ble_eq_true rfl) ?_
  refine eb_bodyQ (by decide) ok_X10_noTray (Nat.le_of_ble_eq_true rfl) ?_
  change eb_Sn _ m_X10_noTray _ 0 [(0, .int x1)] [] _ _
  refine eb_iload_n (pc := 0) (n := 0) (i := 0) rfl rfl rfl ?_
  refine eb_if_lt (pc := 1) (tgt := 9) rfl (by decide) (fun c1 => ?_) (fun c1 => ?_)
  · refine eb_iconst (pc := 9) (n := 1) (v := 1) rfl rfl ?_
    refine eb_goto (pc := 10) (tgt := 14) rfl (by decide) ?_
    refine eb_ireturn (pc := 14) rfl rfl (by decide) ?_
    change eb_Sn _ _ _ 4 _ _ _ _
    exact jj19 1 (eb_qt (Or.inl c1)).symm
  · refine eb_iload_n (pc := 4) (n := 0) (i := 0) rfl rfl rfl ?_
    refine eb_iconst (pc := 5) (n := 4) (v := 4) rfl rfl ?_
    refine eb_icmp_lt (pc := 6) (tgt := 13) rfl (by decide) (fun c2 => ?_) (fun c2 => ?_)
    · refine eb_iconst (pc := 13) (n := 0) (v := 0) rfl rfl ?_
      refine eb_ireturn (pc := 14) rfl rfl (by decide) ?_
      change eb_Sn _ _ _ 4 _ _ _ _
      exact jj19 0 (eb_qf (fun z => z.elim c1 (fun z => z c2))).symm
    · refine eb_iconst (pc := 9) (n := 1) (v := 1) rfl rfl ?_
      refine eb_goto (pc := 10) (tgt := 14) rfl (by decide) ?_
      refine eb_ireturn (pc := 14) rfl rfl (by decide) ?_
      change eb_Sn _ _ _ 4 _ _ _ _
      exact jj19 1 (eb_qt (Or.inr c2)).symm
theorem b_X10_kinds_47 {d : Nat} {h0 h : eb_H} {Q : Option Value → eb_H → Prop} (x1 : Int32) (x2 : Int32) (x3 : Int32) (x5 : Int32) (x6 : Int32)  (ko : eb_KO h) (w : (((6 : Int32) < x6 → Q (some (.int x5)) h) ∧ (¬ ((6 : Int32) < x6) → eb_Ct d 60 [.ref s_trial, .ref s_now] h (fun r h2 => r = none ∧ eb_KO h2 ∧ eb_Ct d 63 [.ref s_trial, .int x2, .int x6] h2 (fun r h5 => r = none ∧ eb_KO h5 ∧ (vp_in x1 4) ∧ ∃ r9, eb_R h5 s_trays x1.toNatClampNeg = some r9 ∧ eb_Ct d 149 [.ref s_EB, .ref r9, .int x3] h5 (fun r h11 => ∃ y12, r = some (.int y12) ∧ eb_KO h11 ∧ ((y12 = 0 → eb_Sn (d + 1) m_X10_kinds h0 47 [(0, .ref s_EB), (1, .int x1), (2, .int x2), (3, .int x3), (5, .int x5), (6, .int (x6 + 1))] [] h11 Q) ∧ (¬ (y12 = 0) → eb_Sn (d + 1) m_X10_kinds h0 47 [(0, .ref s_EB), (1, .int x1), (2, .int x2), (3, .int x3), (5, .int (x5 ||| ((1 : Int32) <<< (x6 &&& 31)))), (6, .int (x6 + 1))] [] h11 Q)))))))) : eb_Sn (d + 1) m_X10_kinds h0 47 [(0, .ref s_EB), (1, .int x1), (2, .int x2), (3, .int x3), (5, .int x5), (6, .int x6)] [] h Q := by
  refine eb_iload (pc := 47) (i := 6) rfl rfl ?_
  refine eb_bipush (pc := 49) (n := 6) (v := 6) rfl rfl ?_
  refine eb_icmp_gt (pc := 51) (tgt := 104) rfl (by decide) (fun c1 => ?_) (fun c1 => ?_)
  · replace w := w.1 c1
    refine eb_iload (pc := 104) (i := 5) rfl rfl ?_
    exact eb_ireturn (pc := 106) rfl rfl rfl w
  · replace w := w.2 c1
    refine eb_aload_n (pc := 54) (n := 0) (i := 0) rfl rfl rfl ?_
    refine eb_getR (pc := 55) rfl rfl (by decide) (by decide) rfl (ko_s_EB_5 ko) ?_
    refine eb_aload_n (pc := 58) (n := 0) (i := 0) rfl rfl rfl ?_
    refine eb_getR (pc := 59) rfl rfl (by decide) (by decide) rfl (ko_s_EB_3 ko) ?_
    refine eb_ctV (pc := 62) (As := [.ref s_now]) (rest := []) rfl (by decide) rfl rfl (by decide) rfl (Nat.le_of_ble_eq_true rfl) ?_
    refine eb_Ct.mono w ?_
    rintro r h2 ⟨rfl, ko4, w⟩
    change eb_Sn _ _ _ 65 _ [] _ _
    refine eb_aload_n (pc := 65) (n := 0) (i := 0) rfl rfl rfl ?_
    refine eb_getR (pc := 66) rfl rfl (by decide) (by decide) rfl (ko_s_EB_5 ko4) ?_
    refine eb_iload_n (pc := 69) (n := 2) (i := 2) rfl rfl rfl ?_
    refine eb_iload (pc := 70) (i := 6) rfl rfl ?_
    refine eb_ctV (pc := 72) (As := [.int x2, .int x6]) (rest := []) rfl (by decide) rfl rfl (by decide) rfl (Nat.le_of_ble_eq_true rfl) ?_
    refine eb_Ct.mono w ?_
    rintro r h5 ⟨rfl, ko7, w⟩
    change eb_Sn _ _ _ 75 _ [] _ _
    refine eb_aload_n (pc := 75) (n := 0) (i := 0) rfl rfl rfl ?_
    refine eb_aload_n (pc := 76) (n := 0) (i := 0) rfl rfl rfl ?_
    refine eb_getR (pc := 77) rfl rfl (by decide) (by decide) rfl (ko_s_EB_9 ko7) ?_
    refine eb_iload_n (pc := 80) (n := 1) (i := 1) rfl rfl rfl ?_
    obtain ⟨c8, w⟩ := w
    obtain ⟨r9, q10, w⟩ := w
    refine eb_aaloadR (pc := 81) rfl rfl (by decide) (by decide) c8 q10 ?_
    refine eb_iload_n (pc := 82) (n := 3) (i := 3) rfl rfl rfl ?_
    refine eb_ctV (pc := 83) (As := [.ref r9, .int x3]) (rest := []) rfl (by decide) rfl rfl (by decide) rfl (Nat.le_of_ble_eq_true rfl) ?_
    refine eb_Ct.mono w ?_
    rintro r h11 ⟨y12, rfl, ko13, w⟩
    change eb_Sn _ _ _ 86 _ [.int y12] _ _
    refine eb_if_eq (pc := 86) (tgt := 98) rfl (by decide) (fun c14 => ?_) (fun c14 => ?_)
    · replace w := w.1 c14
      refine eb_iinc (pc := 98) (i := 6) (n := 1) (v := x6 + 1) (ls2 := [(6, .int (x6 + 1)), (0, .ref s_EB), (1, .int x1), (2, .int x2), (3, .int x3), (5, .int x5)]) (Nat.le_of_ble_eq_true rfl) rfl rfl rfl rfl ?_
      refine eb_goto (pc := 101) (tgt := 47) rfl (by decide) ?_
      exact eb_pick [1, 2, 3, 4, 5, 0] rfl w
    · replace w := w.2 c14
      refine eb_iload (pc := 89) (i := 5) rfl rfl ?_
      refine eb_iconst (pc := 91) (n := 1) (v := 1) rfl rfl ?_
      refine eb_iload (pc := 92) (i := 6) rfl rfl ?_
      refine eb_ishl (pc := 94) rfl ?_
      refine eb_ior (pc := 95) rfl ?_
      refine eb_istore (pc := 96) (i := 5) (ls2 := [(5, .int (x5 ||| ((1 : Int32) <<< (x6 &&& 31)))), (0, .ref s_EB), (1, .int x1), (2, .int x2), (3, .int x3), (6, .int x6)]) (Nat.le_of_ble_eq_true rfl) rfl rfl ?_
      refine eb_iinc (pc := 98) (i := 6) (n := 1) (v := x6 + 1) (ls2 := [(6, .int (x6 + 1)), (5, .int (x5 ||| ((1 : Int32) <<< (x6 &&& 31)))), (0, .ref s_EB), (1, .int x1), (2, .int x2), (3, .int x3)]) (Nat.le_of_ble_eq_true rfl) rfl rfl rfl rfl ?_
      refine eb_goto (pc := 101) (tgt := 47) rfl (by decide) ?_
      exact eb_pick [2, 3, 4, 5, 1, 0] rfl w
theorem T_X10_kinds {d : Nat} {h : eb_H} {Q : Option Value → eb_H → Prop} (x1 : Int32) (x2 : Int32) (x3 : Int32)  (ko : eb_KO h) (w : (((x1 < 0) ∨ (¬ (x1 < (4 : Int32))) → Q (some (.int (-2))) h) ∧ (¬ ((x1 < 0) ∨ (¬ (x1 < (4 : Int32)))) → ∃ r4, eb_R h s_EB 2 = some r4 ∧ eb_kd r4 = 9 ∧ (((¬ (x2 < 0)) ∧ (¬ (((eb_I h r4 0) * (eb_I h r4 1)) ≤ x2)) → (vp_in x1 4) ∧ ∃ r11, eb_R h s_trays x1.toNatClampNeg = some r11 ∧ eb_Ct d 147 [.ref r11, .int x3] h (fun r h13 => ∃ y14, r = some (.int y14) ∧ eb_KO h13 ∧ ((y14 = 0 → eb_Sn (d + 1) m_X10_kinds h 47 [(0, .ref s_EB), (1, .int x1), (2, .int x2), (3, .int x3), (5, .int 0), (6, .int 0)] [] h13 Q) ∧ (¬ (y14 = 0) → Q (some (.int y14)) h13)))) ∧ (¬ ((¬ (x2 < 0)) ∧ (¬ (((eb_I h r4 0) * (eb_I h r4 1)) ≤ x2))) → Q (some (.int (-2))) h))))) : eb_Ct (d + 1) 125 [.ref s_EB, .int x1, .int x2, .int x3] h Q :=
  eb_bodyQ (by decide) ok_X10_kinds (Nat.le_of_ble_eq_true rfl) (b_X10_kinds_0 (h0 := h) x1 x2 x3  ko w)
theorem b_X10_winds_0 {d : Nat} {h0 h : eb_H} {Q : Option Value → eb_H → Prop} (x1 : Int32) (x2 : Int32)  (ko : eb_KO h) (w : ((¬ ((x1 < 0) ∨ (¬ (x1 < (4 : Int32)))) → (vp_in x1 4) ∧ ∃ r5, eb_R h s_trays x1.toNatClampNeg = some r5 ∧ eb_Ct d 147 [.ref r5, .int x2] h (fun r h7 => ∃ y8, r = some (.int y8) ∧ eb_KO h7 ∧ ((y8 = 0 → (vp_in x1 4) ∧ ∃ r12, eb_R h7 s_trays x1.toNatClampNeg = some r12 ∧ eb_Ct d 150 [.ref s_EB, .ref r12, .int x2] h7 (fun r h14 => ∃ y15, r = some (.int y15) ∧ eb_KO h14 ∧ Q (some (.int y15)) h14)) ∧ (¬ (y8 = 0) → Q (some (.int y8)) h7)))) ∧ ((x1 < 0) ∨ (¬ (x1 < (4 : Int32))) → Q (some (.int (-2))) h))) : eb_Sn (d + 1) m_X10_winds h0 0 [(0, .ref s_EB), (1, .int x1), (2, .int x2)] [] h Q := by
  refine eb_iload_n (pc := 0) (n := 1) (i := 1) rfl rfl rfl ?_
  refine eb_joinI (pc2 := 4) (ls2 := [(0, .ref s_EB), (1, .int x1), (2, .int x2)]) (st2 := []) (v := eb_q ((x1 < 0) ∨ (¬ (x1 < (4 : Int32))))) ?_ (fun jj17 => ?_)
  · refine eb_if_eq (pc := 4) (tgt := 10) rfl (by decide) (fun c3 => ?_) (fun c3 => ?_)
    · replace c3 := eb_q0.mp c3
      replace w := w.1 c3
      refine eb_aload_n (pc := 10) (n := 0) (i := 0) rfl rfl rfl ?_
      refine eb_getR (pc := 11) rfl rfl (by decide) (by decide) rfl (ko_s_EB_9 ko) ?_
      refine eb_iload_n (pc := 14) (n := 1) (i := 1) rfl rfl rfl ?_
      obtain ⟨c4, w⟩ := w
      obtain ⟨r5, q6, w⟩ := w
      refine eb_aaloadR (pc := 15) rfl rfl (by decide) (by decide) c4 q6 ?_
      refine eb_iload_n (pc := 16) (n := 2) (i := 2) rfl rfl rfl ?_
      refine eb_ctS (pc := 17) (As := [.ref r5, .int x2]) (rest := []) rfl (by decide) (by decide) rfl rfl (Nat.le_of_ble_eq_true rfl) ?_
      refine eb_Ct.mono w ?_
      rintro r h7 ⟨y8, rfl, ko9, w⟩
      change eb_Sn _ _ _ 20 _ [.int y8] _ _
      refine eb_istore_n (pc := 20) (n := 3) (i := 3) (ls2 := [(3, .int y8), (0, .ref s_EB), (1, .int x1), (2, .int x2)]) rfl (Nat.le_of_ble_eq_true rfl) rfl rfl ?_
      refine eb_iload_n (pc := 21) (n := 3) (i := 3) rfl rfl rfl ?_
      refine eb_if_eq (pc := 22) (tgt := 29) rfl (by decide) (fun c10 => ?_) (fun c10 => ?_)
      · replace w := w.1 c10
        refine eb_aload_n (pc := 29) (n := 0) (i := 0) rfl rfl rfl ?_
        refine eb_aload_n (pc := 30) (n := 0) (i := 0) rfl rfl rfl ?_
        refine eb_getR (pc := 31) rfl rfl (by decide) (by decide) rfl (ko_s_EB_9 ko9) ?_
        refine eb_iload_n (pc := 34) (n := 1) (i := 1) rfl rfl rfl ?_
        obtain ⟨c11, w⟩ := w
        obtain ⟨r12, q13, w⟩ := w
        refine eb_aaloadR (pc := 35) rfl rfl (by decide) (by decide) c11 q13 ?_
        refine eb_iload_n (pc := 36) (n := 2) (i := 2) rfl rfl rfl ?_
        refine eb_ctV (pc := 37) (As := [.ref r12, .int x2]) (rest := []) rfl (by decide) rfl rfl (by decide) rfl (Nat.le_of_ble_eq_true rfl) ?_
        refine eb_Ct.mono w ?_
        rintro r h14 ⟨y15, rfl, ko16, w⟩
        change eb_Sn _ _ _ 40 _ [.int y15] _ _
        exact eb_ireturn (pc := 40) rfl rfl rfl w
      · replace w := w.2 c10
        refine eb_iload_n (pc := 25) (n := 3) (i := 3) rfl rfl rfl ?_
        refine eb_goto (pc := 26) (tgt := 40) rfl (by decide) ?_
        exact eb_ireturn (pc := 40) rfl rfl rfl w
    · replace c3 := eb_q1.mp c3
      replace w := w.2 c3
      refine eb_bipush (pc := 7) (n := -2) (v := (-2)) rfl rfl ?_
      exact eb_ireturn (pc := 9) rfl rfl rfl w
  refine eb_ctS (pc := 1) (As := [.int x1]) (rest := []) rfl (by decide) (by decide) rfl rfl (Nat.le_of_ble_eq_true rfl) ?_
  refine eb_bodyQ (by decide) ok_X10_noTray (Nat.le_of_ble_eq_true rfl) ?_
  change eb_Sn _ m_X10_noTray _ 0 [(0, .int x1)] [] _ _
  refine eb_iload_n (pc := 0) (n := 0) (i := 0) rfl rfl rfl ?_
  refine eb_if_lt (pc := 1) (tgt := 9) rfl (by decide) (fun c1 => ?_) (fun c1 => ?_)
  · refine eb_iconst (pc := 9) (n := 1) (v := 1) rfl rfl ?_
    refine eb_goto (pc := 10) (tgt := 14) rfl (by decide) ?_
    refine eb_ireturn (pc := 14) rfl rfl (by decide) ?_
    change eb_Sn _ _ _ 4 _ _ _ _
    exact jj17 1 (eb_qt (Or.inl c1)).symm
  · refine eb_iload_n (pc := 4) (n := 0) (i := 0) rfl rfl rfl ?_
    refine eb_iconst (pc := 5) (n := 4) (v := 4) rfl rfl ?_
    refine eb_icmp_lt (pc := 6) (tgt := 13) rfl (by decide) (fun c2 => ?_) (fun c2 => ?_)
    · refine eb_iconst (pc := 13) (n := 0) (v := 0) rfl rfl ?_
      refine eb_ireturn (pc := 14) rfl rfl (by decide) ?_
      change eb_Sn _ _ _ 4 _ _ _ _
      exact jj17 0 (eb_qf (fun z => z.elim c1 (fun z => z c2))).symm
    · refine eb_iconst (pc := 9) (n := 1) (v := 1) rfl rfl ?_
      refine eb_goto (pc := 10) (tgt := 14) rfl (by decide) ?_
      refine eb_ireturn (pc := 14) rfl rfl (by decide) ?_
      change eb_Sn _ _ _ 4 _ _ _ _
      exact jj17 1 (eb_qt (Or.inr c2)).symm
theorem T_X10_winds {d : Nat} {h : eb_H} {Q : Option Value → eb_H → Prop} (x1 : Int32) (x2 : Int32)  (ko : eb_KO h) (w : ((¬ ((x1 < 0) ∨ (¬ (x1 < (4 : Int32)))) → (vp_in x1 4) ∧ ∃ r5, eb_R h s_trays x1.toNatClampNeg = some r5 ∧ eb_Ct d 147 [.ref r5, .int x2] h (fun r h7 => ∃ y8, r = some (.int y8) ∧ eb_KO h7 ∧ ((y8 = 0 → (vp_in x1 4) ∧ ∃ r12, eb_R h7 s_trays x1.toNatClampNeg = some r12 ∧ eb_Ct d 150 [.ref s_EB, .ref r12, .int x2] h7 (fun r h14 => ∃ y15, r = some (.int y15) ∧ eb_KO h14 ∧ Q (some (.int y15)) h14)) ∧ (¬ (y8 = 0) → Q (some (.int y8)) h7)))) ∧ ((x1 < 0) ∨ (¬ (x1 < (4 : Int32))) → Q (some (.int (-2))) h))) : eb_Ct (d + 1) 126 [.ref s_EB, .int x1, .int x2] h Q :=
  eb_bodyQ (by decide) ok_X10_winds (Nat.le_of_ble_eq_true rfl) (b_X10_winds_0 (h0 := h) x1 x2  ko w)
theorem b_X10_attempt_0 {d : Nat} {h0 h : eb_H} {Q : Option Value → eb_H → Prop} (x1 : Int32) (x2 : Int32)  (ko : eb_KO h) (w : ((¬ ((x1 < 0) ∨ (¬ (x1 < (4 : Int32)))) → (vp_in x1 4) ∧ ∃ r5, eb_R h s_trays x1.toNatClampNeg = some r5 ∧ eb_Ct d 147 [.ref r5, .int x2] h (fun r h7 => ∃ y8, r = some (.int y8) ∧ eb_KO h7 ∧ ((y8 = 0 → (vp_in x1 4) ∧ ∃ r12, eb_R h7 s_trays x1.toNatClampNeg = some r12 ∧ eb_Ct d 150 [.ref s_EB, .ref r12, .int x2] h7 (fun r h14 => ∃ y15, r = some (.int y15) ∧ eb_KO h14 ∧ ((¬ y15 = 0 → eb_Sn (d + 1) m_X10_attempt h0 57 [(0, .ref s_EB), (4, .int y15), (5, .int 0), (6, .int 11), (7, .int 0)] [] h14 Q) ∧ (y15 = 0 → Q (some (.int (-1))) h14)))) ∧ (¬ (y8 = 0) → Q (some (.int y8)) h7)))) ∧ ((x1 < 0) ∨ (¬ (x1 < (4 : Int32))) → Q (some (.int (-2))) h))) : eb_Sn (d + 1) m_X10_attempt h0 0 [(0, .ref s_EB), (1, .int x1), (2, .int x2)] [] h Q := by
  refine eb_iload_n (pc := 0) (n := 1) (i := 1) rfl rfl rfl ?_
  refine eb_joinI (pc2 := 4) (ls2 := [(0, .ref s_EB), (1, .int x1), (2, .int x2)]) (st2 := []) (v := eb_q ((x1 < 0) ∨ (¬ (x1 < (4 : Int32))))) ?_ (fun jj18 => ?_)
  · refine eb_if_eq (pc := 4) (tgt := 10) rfl (by decide) (fun c3 => ?_) (fun c3 => ?_)
    · replace c3 := eb_q0.mp c3
      replace w := w.1 c3
      refine eb_aload_n (pc := 10) (n := 0) (i := 0) rfl rfl rfl ?_
      refine eb_getR (pc := 11) rfl rfl (by decide) (by decide) rfl (ko_s_EB_9 ko) ?_
      refine eb_iload_n (pc := 14) (n := 1) (i := 1) rfl rfl rfl ?_
      obtain ⟨c4, w⟩ := w
      obtain ⟨r5, q6, w⟩ := w
      refine eb_aaloadR (pc := 15) rfl rfl (by decide) (by decide) c4 q6 ?_
      refine eb_iload_n (pc := 16) (n := 2) (i := 2) rfl rfl rfl ?_
      refine eb_ctS (pc := 17) (As := [.ref r5, .int x2]) (rest := []) rfl (by decide) (by decide) rfl rfl (Nat.le_of_ble_eq_true rfl) ?_
      refine eb_Ct.mono w ?_
      rintro r h7 ⟨y8, rfl, ko9, w⟩
      change eb_Sn _ _ _ 20 _ [.int y8] _ _
      refine eb_istore_n (pc := 20) (n := 3) (i := 3) (ls2 := [(3, .int y8), (0, .ref s_EB), (1, .int x1), (2, .int x2)]) rfl (Nat.le_of_ble_eq_true rfl) rfl rfl ?_
      refine eb_iload_n (pc := 21) (n := 3) (i := 3) rfl rfl rfl ?_
      refine eb_if_eq (pc := 22) (tgt := 27) rfl (by decide) (fun c10 => ?_) (fun c10 => ?_)
      · replace w := w.1 c10
        refine eb_aload_n (pc := 27) (n := 0) (i := 0) rfl rfl rfl ?_
        refine eb_aload_n (pc := 28) (n := 0) (i := 0) rfl rfl rfl ?_
        refine eb_getR (pc := 29) rfl rfl (by decide) (by decide) rfl (ko_s_EB_9 ko9) ?_
        refine eb_iload_n (pc := 32) (n := 1) (i := 1) rfl rfl rfl ?_
        obtain ⟨c11, w⟩ := w
        obtain ⟨r12, q13, w⟩ := w
        refine eb_aaloadR (pc := 33) rfl rfl (by decide) (by decide) c11 q13 ?_
        refine eb_iload_n (pc := 34) (n := 2) (i := 2) rfl rfl rfl ?_
        refine eb_ctV (pc := 35) (As := [.ref r12, .int x2]) (rest := []) rfl (by decide) rfl rfl (by decide) rfl (Nat.le_of_ble_eq_true rfl) ?_
        refine eb_Ct.mono w ?_
        rintro r h14 ⟨y15, rfl, ko16, w⟩
        change eb_Sn _ _ _ 38 _ [.int y15] _ _
        refine eb_istore (pc := 38) (i := 4) (ls2 := [(4, .int y15), (3, .int y8), (0, .ref s_EB), (1, .int x1), (2, .int x2)]) (Nat.le_of_ble_eq_true rfl) rfl rfl ?_
        refine eb_iload (pc := 40) (i := 4) rfl rfl ?_
        refine eb_if_ne (pc := 42) (tgt := 47) rfl (by decide) (fun c17 => ?_) (fun c17 => ?_)
        · replace w := w.1 c17
          refine eb_iconst (pc := 47) (n := 0) (v := 0) rfl rfl ?_
          refine eb_istore (pc := 48) (i := 5) (ls2 := [(5, .int 0), (4, .int y15), (3, .int y8), (0, .ref s_EB), (1, .int x1), (2, .int x2)]) (Nat.le_of_ble_eq_true rfl) rfl rfl ?_
          refine eb_bipush (pc := 50) (n := 11) (v := 11) rfl rfl ?_
          refine eb_istore (pc := 52) (i := 6) (ls2 := [(6, .int 11), (5, .int 0), (4, .int y15), (3, .int y8), (0, .ref s_EB), (1, .int x1), (2, .int x2)]) (Nat.le_of_ble_eq_true rfl) rfl rfl ?_
          refine eb_iconst (pc := 54) (n := 0) (v := 0) rfl rfl ?_
          refine eb_istore (pc := 55) (i := 7) (ls2 := [(7, .int 0), (6, .int 11), (5, .int 0), (4, .int y15), (3, .int y8), (0, .ref s_EB), (1, .int x1), (2, .int x2)]) (Nat.le_of_ble_eq_true rfl) rfl rfl ?_
          exact eb_pick [5, 3, 2, 1, 0] rfl w
        · replace w := w.2 c17
          refine eb_iconst (pc := 45) (n := -1) (v := (-1)) rfl rfl ?_
          exact eb_ireturn (pc := 46) rfl rfl rfl w
      · replace w := w.2 c10
        refine eb_iload_n (pc := 25) (n := 3) (i := 3) rfl rfl rfl ?_
        exact eb_ireturn (pc := 26) rfl rfl rfl w
    · replace c3 := eb_q1.mp c3
      replace w := w.2 c3
      refine eb_bipush (pc := 7) (n := -2) (v := (-2)) rfl rfl ?_
      exact eb_ireturn (pc := 9) rfl rfl rfl w
  refine eb_ctS (pc := 1) (As := [.int x1]) (rest := []) rfl (by decide) (by decide) rfl rfl (Nat.le_of_ble_eq_true rfl) ?_
  refine eb_bodyQ (by decide) ok_X10_noTray (Nat.le_of_ble_eq_true rfl) ?_
  change eb_Sn _ m_X10_noTray _ 0 [(0, .int x1)] [] _ _
  refine eb_iload_n (pc := 0) (n := 0) (i := 0) rfl rfl rfl ?_
  refine eb_if_lt (pc := 1) (tgt := 9) rfl (by decide) (fun c1 => ?_) (fun c1 => ?_)
  · refine eb_iconst (pc := 9) (n := 1) (v := 1) rfl rfl ?_
    refine eb_goto (pc := 10) (tgt := 14) rfl (by decide) ?_
    refine eb_ireturn (pc := 14) rfl rfl (by decide) ?_
    change eb_Sn _ _ _ 4 _ _ _ _
    exact jj18 1 (eb_qt (Or.inl c1)).symm
  · refine eb_iload_n (pc := 4) (n := 0) (i := 0) rfl rfl rfl ?_
    refine eb_iconst (pc := 5) (n := 4) (v := 4) rfl rfl ?_
    refine eb_icmp_lt (pc := 6) (tgt := 13) rfl (by decide) (fun c2 => ?_) (fun c2 => ?_)
    · refine eb_iconst (pc := 13) (n := 0) (v := 0) rfl rfl ?_
      refine eb_ireturn (pc := 14) rfl rfl (by decide) ?_
      change eb_Sn _ _ _ 4 _ _ _ _
      exact jj18 0 (eb_qf (fun z => z.elim c1 (fun z => z c2))).symm
    · refine eb_iconst (pc := 9) (n := 1) (v := 1) rfl rfl ?_
      refine eb_goto (pc := 10) (tgt := 14) rfl (by decide) ?_
      refine eb_ireturn (pc := 14) rfl rfl (by decide) ?_
      change eb_Sn _ _ _ 4 _ _ _ _
      exact jj18 1 (eb_qt (Or.inr c2)).symm
theorem b_X10_attempt_57 {d : Nat} {h0 h : eb_H} {Q : Option Value → eb_H → Prop} (x4 : Int32) (x5 : Int32) (x6 : Int32) (x7 : Int32)  (ko : eb_KO h) (w : (((4 : Int32) ≤ x7 → Q (some (.int x5)) h) ∧ (¬ ((4 : Int32) ≤ x7) → eb_Ct d 151 [.ref s_EB, .int x4, .int x7] h (fun r h2 => ∃ y3, r = some (.int y3) ∧ eb_KO h2 ∧ ((x6 ≤ y3 → eb_Sn (d + 1) m_X10_attempt h0 57 [(0, .ref s_EB), (4, .int x4), (5, .int x5), (6, .int x6), (7, .int (x7 + 1))] [] h2 Q) ∧ (¬ (x6 ≤ y3) → eb_Sn (d + 1) m_X10_attempt h0 57 [(0, .ref s_EB), (4, .int x4), (5, .int x7), (6, .int y3), (7, .int (x7 + 1))] [] h2 Q)))))) : eb_Sn (d + 1) m_X10_attempt h0 57 [(0, .ref s_EB), (4, .int x4), (5, .int x5), (6, .int x6), (7, .int x7)] [] h Q := by
  refine eb_iload (pc := 57) (i := 7) rfl rfl ?_
  refine eb_iconst (pc := 59) (n := 4) (v := 4) rfl rfl ?_
  refine eb_icmp_ge (pc := 60) (tgt := 94) rfl (by decide) (fun c1 => ?_) (fun c1 => ?_)
  · replace w := w.1 c1
    refine eb_iload (pc := 94) (i := 5) rfl rfl ?_
    exact eb_ireturn (pc := 96) rfl rfl rfl w
  · replace w := w.2 c1
    refine eb_aload_n (pc := 63) (n := 0) (i := 0) rfl rfl rfl ?_
    refine eb_iload (pc := 64) (i := 4) rfl rfl ?_
    refine eb_iload (pc := 66) (i := 7) rfl rfl ?_
    refine eb_ctV (pc := 68) (As := [.int x4, .int x7]) (rest := []) rfl (by decide) rfl rfl (by decide) rfl (Nat.le_of_ble_eq_true rfl) ?_
    refine eb_Ct.mono w ?_
    rintro r h2 ⟨y3, rfl, ko4, w⟩
    change eb_Sn _ _ _ 71 _ [.int y3] _ _
    refine eb_istore (pc := 71) (i := 8) (ls2 := [(8, .int y3), (0, .ref s_EB), (4, .int x4), (5, .int x5), (6, .int x6), (7, .int x7)]) (Nat.le_of_ble_eq_true rfl) rfl rfl ?_
    refine eb_iload (pc := 73) (i := 8) rfl rfl ?_
    refine eb_iload (pc := 75) (i := 6) rfl rfl ?_
    refine eb_icmp_ge (pc := 77) (tgt := 88) rfl (by decide) (fun c5 => ?_) (fun c5 => ?_)
    · replace w := w.1 c5
      refine eb_iinc (pc := 88) (i := 7) (n := 1) (v := x7 + 1) (ls2 := [(7, .int (x7 + 1)), (8, .int y3), (0, .ref s_EB), (4, .int x4), (5, .int x5), (6, .int x6)]) (Nat.le_of_ble_eq_true rfl) rfl rfl rfl rfl ?_
      refine eb_goto (pc := 91) (tgt := 57) rfl (by decide) ?_
      exact eb_pick [2, 3, 4, 5, 0] rfl w
    · replace w := w.2 c5
      refine eb_iload (pc := 80) (i := 8) rfl rfl ?_
      refine eb_istore (pc := 82) (i := 6) (ls2 := [(6, .int y3), (8, .int y3), (0, .ref s_EB), (4, .int x4), (5, .int x5), (7, .int x7)]) (Nat.le_of_ble_eq_true rfl) rfl rfl ?_
      refine eb_iload (pc := 84) (i := 7) rfl rfl ?_
      refine eb_istore (pc := 86) (i := 5) (ls2 := [(5, .int x7), (6, .int y3), (8, .int y3), (0, .ref s_EB), (4, .int x4), (7, .int x7)]) (Nat.le_of_ble_eq_true rfl) rfl rfl ?_
      refine eb_iinc (pc := 88) (i := 7) (n := 1) (v := x7 + 1) (ls2 := [(7, .int (x7 + 1)), (5, .int x7), (6, .int y3), (8, .int y3), (0, .ref s_EB), (4, .int x4)]) (Nat.le_of_ble_eq_true rfl) rfl rfl rfl rfl ?_
      refine eb_goto (pc := 91) (tgt := 57) rfl (by decide) ?_
      exact eb_pick [4, 5, 1, 2, 0] rfl w
theorem T_X10_attempt {d : Nat} {h : eb_H} {Q : Option Value → eb_H → Prop} (x1 : Int32) (x2 : Int32)  (ko : eb_KO h) (w : ((¬ ((x1 < 0) ∨ (¬ (x1 < (4 : Int32)))) → (vp_in x1 4) ∧ ∃ r5, eb_R h s_trays x1.toNatClampNeg = some r5 ∧ eb_Ct d 147 [.ref r5, .int x2] h (fun r h7 => ∃ y8, r = some (.int y8) ∧ eb_KO h7 ∧ ((y8 = 0 → (vp_in x1 4) ∧ ∃ r12, eb_R h7 s_trays x1.toNatClampNeg = some r12 ∧ eb_Ct d 150 [.ref s_EB, .ref r12, .int x2] h7 (fun r h14 => ∃ y15, r = some (.int y15) ∧ eb_KO h14 ∧ ((¬ y15 = 0 → eb_Sn (d + 1) m_X10_attempt h 57 [(0, .ref s_EB), (4, .int y15), (5, .int 0), (6, .int 11), (7, .int 0)] [] h14 Q) ∧ (y15 = 0 → Q (some (.int (-1))) h14)))) ∧ (¬ (y8 = 0) → Q (some (.int y8)) h7)))) ∧ ((x1 < 0) ∨ (¬ (x1 < (4 : Int32))) → Q (some (.int (-2))) h))) : eb_Ct (d + 1) 127 [.ref s_EB, .int x1, .int x2] h Q :=
  eb_bodyQ (by decide) ok_X10_attempt (Nat.le_of_ble_eq_true rfl) (b_X10_attempt_0 (h0 := h) x1 x2  ko w)
theorem b_X10_forces_0 {d : Nat} {h0 h : eb_H} {Q : Option Value → eb_H → Prop} (x1 : Int32) (x2 : Int32)  (ko : eb_KO h) (w : ∃ r1, eb_R h s_EB 2 = some r1 ∧ eb_kd r1 = 9 ∧ (((¬ (x1 < 0)) ∧ (¬ ((eb_I h r1 4) ≤ x1)) → ((¬ ((x2 < 0) ∨ (¬ (x2 < (64 : Int32)))) → eb_Ct d 153 [.ref s_EB, .ref s_now, .int x1, .int x2] h (fun r h10 => ∃ y11, r = some (.int y11) ∧ eb_KO h10 ∧ ((y11 = 0 → eb_Ct d 154 [.ref s_EB, .int x1, .int x2] h10 (fun r h14 => ∃ y15, r = some (.int y15) ∧ eb_KO h14 ∧ Q (some (.int (if y15 = ((-1) : Int32) then (-1) else 1 : Int32))) h14)) ∧ (¬ (y11 = 0) → Q (some (.int 0)) h10)))) ∧ ((x2 < 0) ∨ (¬ (x2 < (64 : Int32))) → Q (some (.int (-3))) h))) ∧ (¬ ((¬ (x1 < 0)) ∧ (¬ ((eb_I h r1 4) ≤ x1))) → Q (some (.int (-2))) h))) : eb_Sn (d + 1) m_X10_forces h0 0 [(0, .ref s_EB), (1, .int x1), (2, .int x2)] [] h Q := by
  refine eb_aload_n (pc := 0) (n := 0) (i := 0) rfl rfl rfl ?_
  obtain ⟨r1, q2, k3, w⟩ := w
  refine eb_getR (pc := 1) rfl rfl (by decide) (by decide) rfl q2 ?_
  refine eb_iload_n (pc := 4) (n := 1) (i := 1) rfl rfl rfl ?_
  refine eb_joinI (pc2 := 8) (ls2 := [(0, .ref s_EB), (1, .int x1), (2, .int x2)]) (st2 := []) (v := eb_q ((¬ (x1 < 0)) ∧ (¬ ((eb_I h r1 4) ≤ x1)))) ?_ (fun jj22 => ?_)
  · refine eb_if_ne (pc := 8) (tgt := 14) rfl (by decide) (fun c6 => ?_) (fun c6 => ?_)
    · replace c6 := eb_q1.mp c6
      replace w := w.1 c6
      refine eb_iload_n (pc := 14) (n := 2) (i := 2) rfl rfl rfl ?_
      refine eb_joinI (pc2 := 18) (ls2 := [(0, .ref s_EB), (1, .int x1), (2, .int x2)]) (st2 := []) (v := eb_q ((x2 < 0) ∨ (¬ (x2 < (64 : Int32))))) ?_ (fun jj20 => ?_)
      · refine eb_if_eq (pc := 18) (tgt := 24) rfl (by decide) (fun c9 => ?_) (fun c9 => ?_)
        · replace c9 := eb_q0.mp c9
          replace w := w.1 c9
          refine eb_aload_n (pc := 24) (n := 0) (i := 0) rfl rfl rfl ?_
          refine eb_aload_n (pc := 25) (n := 0) (i := 0) rfl rfl rfl ?_
          refine eb_getR (pc := 26) rfl rfl (by decide) (by decide) rfl (ko_s_EB_3 ko) ?_
          refine eb_iload_n (pc := 29) (n := 1) (i := 1) rfl rfl rfl ?_
          refine eb_iload_n (pc := 30) (n := 2) (i := 2) rfl rfl rfl ?_
          refine eb_ctV (pc := 31) (As := [.ref s_now, .int x1, .int x2]) (rest := []) rfl (by decide) rfl rfl (by decide) rfl (Nat.le_of_ble_eq_true rfl) ?_
          refine eb_Ct.mono w ?_
          rintro r h10 ⟨y11, rfl, ko12, w⟩
          change eb_Sn _ _ _ 34 _ [.int y11] _ _
          refine eb_if_eq (pc := 34) (tgt := 39) rfl (by decide) (fun c13 => ?_) (fun c13 => ?_)
          · replace w := w.1 c13
            refine eb_aload_n (pc := 39) (n := 0) (i := 0) rfl rfl rfl ?_
            refine eb_iload_n (pc := 40) (n := 1) (i := 1) rfl rfl rfl ?_
            refine eb_iload_n (pc := 41) (n := 2) (i := 2) rfl rfl rfl ?_
            refine eb_ctV (pc := 42) (As := [.int x1, .int x2]) (rest := []) rfl (by decide) rfl rfl (by decide) rfl (Nat.le_of_ble_eq_true rfl) ?_
            refine eb_Ct.mono w ?_
            rintro r h14 ⟨y15, rfl, ko16, w⟩
            change eb_Sn _ _ _ 45 _ [.int y15] _ _
            refine eb_iconst (pc := 45) (n := -1) (v := (-1)) rfl rfl ?_
            refine eb_joinI (pc2 := 54) (ls2 := [(0, .ref s_EB), (1, .int x1), (2, .int x2)]) (st2 := []) (v := (if y15 = ((-1) : Int32) then (-1) else 1 : Int32)) ?_ (fun jj18 => ?_)
            · exact eb_ireturn (pc := 54) rfl rfl rfl w
            refine eb_icmp_ne (pc := 46) (tgt := 53) rfl (by decide) (fun c17 => ?_) (fun c17 => ?_)
            · refine eb_iconst (pc := 53) (n := 1) (v := 1) rfl rfl ?_
              exact jj18 _ (by simp only [if_neg c17])
            · refine eb_iconst (pc := 49) (n := -1) (v := (-1)) rfl rfl ?_
              refine eb_goto (pc := 50) (tgt := 54) rfl (by decide) ?_
              exact jj18 _ (by simp only [if_pos c17])
          · replace w := w.2 c13
            refine eb_iconst (pc := 37) (n := 0) (v := 0) rfl rfl ?_
            exact eb_ireturn (pc := 38) rfl rfl rfl w
        · replace c9 := eb_q1.mp c9
          replace w := w.2 c9
          refine eb_bipush (pc := 21) (n := -3) (v := (-3)) rfl rfl ?_
          exact eb_ireturn (pc := 23) rfl rfl rfl w
      refine eb_ctS (pc := 15) (As := [.int x2]) (rest := []) rfl (by decide) (by decide) rfl rfl (Nat.le_of_ble_eq_true rfl) ?_
      refine eb_bodyQ (by decide) ok_X10_notSet (Nat.le_of_ble_eq_true rfl) ?_
      change eb_Sn _ m_X10_notSet _ 0 [(0, .int x2)] [] _ _
      refine eb_iload_n (pc := 0) (n := 0) (i := 0) rfl rfl rfl ?_
      refine eb_if_lt (pc := 1) (tgt := 10) rfl (by decide) (fun c7 => ?_) (fun c7 => ?_)
      · refine eb_iconst (pc := 10) (n := 1) (v := 1) rfl rfl ?_
        refine eb_goto (pc := 11) (tgt := 15) rfl (by decide) ?_
        refine eb_ireturn (pc := 15) rfl rfl (by decide) ?_
        change eb_Sn _ _ _ 18 _ _ _ _
        exact jj20 1 (eb_qt (Or.inl c7)).symm
      · refine eb_iload_n (pc := 4) (n := 0) (i := 0) rfl rfl rfl ?_
        refine eb_bipush (pc := 5) (n := 64) (v := 64) rfl rfl ?_
        refine eb_icmp_lt (pc := 7) (tgt := 14) rfl (by decide) (fun c8 => ?_) (fun c8 => ?_)
        · refine eb_iconst (pc := 14) (n := 0) (v := 0) rfl rfl ?_
          refine eb_ireturn (pc := 15) rfl rfl (by decide) ?_
          change eb_Sn _ _ _ 18 _ _ _ _
          exact jj20 0 (eb_qf (fun z => z.elim c7 (fun z => z c8))).symm
        · refine eb_iconst (pc := 10) (n := 1) (v := 1) rfl rfl ?_
          refine eb_goto (pc := 11) (tgt := 15) rfl (by decide) ?_
          refine eb_ireturn (pc := 15) rfl rfl (by decide) ?_
          change eb_Sn _ _ _ 18 _ _ _ _
          exact jj20 1 (eb_qt (Or.inr c8)).symm
    · replace c6 := eb_q0.mp c6
      replace w := w.2 c6
      refine eb_bipush (pc := 11) (n := -2) (v := (-2)) rfl rfl ?_
      exact eb_ireturn (pc := 13) rfl rfl rfl w
  refine eb_ctV (pc := 5) (As := [.int x1]) (rest := []) rfl (by decide) rfl k3 (by decide) rfl (Nat.le_of_ble_eq_true rfl) ?_
  refine eb_bodyQ (by decide) ok_X9_hasHouse (Nat.le_of_ble_eq_true rfl) ?_
  change eb_Sn _ m_X9_hasHouse _ 0 [(0, .ref r1), (1, .int x1)] [] _ _
  refine eb_iload_n (pc := 0) (n := 1) (i := 1) rfl rfl rfl ?_
  refine eb_if_lt (pc := 1) (tgt := 16) rfl (by decide) (fun c4 => ?_) (fun c4 => ?_)
  · refine eb_iconst (pc := 16) (n := 0) (v := 0) rfl rfl ?_
    refine eb_ireturn (pc := 17) rfl rfl (by decide) ?_
    change eb_Sn _ _ _ 8 _ _ _ _
    exact jj22 0 (eb_qf (fun z => z.1 c4)).symm
  · refine eb_iload_n (pc := 4) (n := 1) (i := 1) rfl rfl rfl ?_
    refine eb_aload_n (pc := 5) (n := 0) (i := 0) rfl rfl rfl ?_
    refine eb_getI (pc := 6) rfl k3 (by decide) (by decide) rfl ?_
    refine eb_icmp_ge (pc := 9) (tgt := 16) rfl (by decide) (fun c5 => ?_) (fun c5 => ?_)
    · refine eb_iconst (pc := 16) (n := 0) (v := 0) rfl rfl ?_
      refine eb_ireturn (pc := 17) rfl rfl (by decide) ?_
      change eb_Sn _ _ _ 8 _ _ _ _
      exact jj22 0 (eb_qf (fun z => (fun z => z c5) z.2)).symm
    · refine eb_iconst (pc := 12) (n := 1) (v := 1) rfl rfl ?_
      refine eb_goto (pc := 13) (tgt := 17) rfl (by decide) ?_
      refine eb_ireturn (pc := 17) rfl rfl (by decide) ?_
      change eb_Sn _ _ _ 8 _ _ _ _
      exact jj22 1 (eb_qt (⟨c4, c5⟩)).symm
theorem T_X10_forces {d : Nat} {h : eb_H} {Q : Option Value → eb_H → Prop} (x1 : Int32) (x2 : Int32)  (ko : eb_KO h) (w : ∃ r1, eb_R h s_EB 2 = some r1 ∧ eb_kd r1 = 9 ∧ (((¬ (x1 < 0)) ∧ (¬ ((eb_I h r1 4) ≤ x1)) → ((¬ ((x2 < 0) ∨ (¬ (x2 < (64 : Int32)))) → eb_Ct d 153 [.ref s_EB, .ref s_now, .int x1, .int x2] h (fun r h10 => ∃ y11, r = some (.int y11) ∧ eb_KO h10 ∧ ((y11 = 0 → eb_Ct d 154 [.ref s_EB, .int x1, .int x2] h10 (fun r h14 => ∃ y15, r = some (.int y15) ∧ eb_KO h14 ∧ Q (some (.int (if y15 = ((-1) : Int32) then (-1) else 1 : Int32))) h14)) ∧ (¬ (y11 = 0) → Q (some (.int 0)) h10)))) ∧ ((x2 < 0) ∨ (¬ (x2 < (64 : Int32))) → Q (some (.int (-3))) h))) ∧ (¬ ((¬ (x1 < 0)) ∧ (¬ ((eb_I h r1 4) ≤ x1))) → Q (some (.int (-2))) h))) : eb_Ct (d + 1) 128 [.ref s_EB, .int x1, .int x2] h Q :=
  eb_bodyQ (by decide) ok_X10_forces (Nat.le_of_ble_eq_true rfl) (b_X10_forces_0 (h0 := h) x1 x2  ko w)
theorem b_X10_best_0 {d : Nat} {h0 h : eb_H} {Q : Option Value → eb_H → Prop} (x1 : Int32) (x2 : Int32)  (ko : eb_KO h) (w : ∃ r1, eb_R h s_EB 2 = some r1 ∧ eb_kd r1 = 9 ∧ (((¬ (x1 < 0)) ∧ (¬ ((eb_I h r1 4) ≤ x1)) → ((¬ ((x2 < 0) ∨ (¬ (x2 < (64 : Int32)))) → eb_Ct d 153 [.ref s_EB, .ref s_now, .int x1, .int x2] h (fun r h10 => ∃ y11, r = some (.int y11) ∧ eb_KO h10 ∧ ((y11 = 0 → eb_Ct d 154 [.ref s_EB, .int x1, .int x2] h10 (fun r h14 => ∃ y15, r = some (.int y15) ∧ eb_KO h14 ∧ Q (some (.int y15)) h14)) ∧ (¬ (y11 = 0) → Q (some (.int (-1))) h10)))) ∧ ((x2 < 0) ∨ (¬ (x2 < (64 : Int32))) → Q (some (.int (-3))) h))) ∧ (¬ ((¬ (x1 < 0)) ∧ (¬ ((eb_I h r1 4) ≤ x1))) → Q (some (.int (-2))) h))) : eb_Sn (d + 1) m_X10_best h0 0 [(0, .ref s_EB), (1, .int x1), (2, .int x2)] [] h Q := by
  refine eb_aload_n (pc := 0) (n := 0) (i := 0) rfl rfl rfl ?_
  obtain ⟨r1, q2, k3, w⟩ := w
  refine eb_getR (pc := 1) rfl rfl (by decide) (by decide) rfl q2 ?_
  refine eb_iload_n (pc := 4) (n := 1) (i := 1) rfl rfl rfl ?_
  refine eb_joinI (pc2 := 8) (ls2 := [(0, .ref s_EB), (1, .int x1), (2, .int x2)]) (st2 := []) (v := eb_q ((¬ (x1 < 0)) ∧ (¬ ((eb_I h r1 4) ≤ x1)))) ?_ (fun jj19 => ?_)
  · refine eb_if_ne (pc := 8) (tgt := 14) rfl (by decide) (fun c6 => ?_) (fun c6 => ?_)
    · replace c6 := eb_q1.mp c6
      replace w := w.1 c6
      refine eb_iload_n (pc := 14) (n := 2) (i := 2) rfl rfl rfl ?_
      refine eb_joinI (pc2 := 18) (ls2 := [(0, .ref s_EB), (1, .int x1), (2, .int x2)]) (st2 := []) (v := eb_q ((x2 < 0) ∨ (¬ (x2 < (64 : Int32))))) ?_ (fun jj17 => ?_)
      · refine eb_if_eq (pc := 18) (tgt := 24) rfl (by decide) (fun c9 => ?_) (fun c9 => ?_)
        · replace c9 := eb_q0.mp c9
          replace w := w.1 c9
          refine eb_aload_n (pc := 24) (n := 0) (i := 0) rfl rfl rfl ?_
          refine eb_aload_n (pc := 25) (n := 0) (i := 0) rfl rfl rfl ?_
          refine eb_getR (pc := 26) rfl rfl (by decide) (by decide) rfl (ko_s_EB_3 ko) ?_
          refine eb_iload_n (pc := 29) (n := 1) (i := 1) rfl rfl rfl ?_
          refine eb_iload_n (pc := 30) (n := 2) (i := 2) rfl rfl rfl ?_
          refine eb_ctV (pc := 31) (As := [.ref s_now, .int x1, .int x2]) (rest := []) rfl (by decide) rfl rfl (by decide) rfl (Nat.le_of_ble_eq_true rfl) ?_
          refine eb_Ct.mono w ?_
          rintro r h10 ⟨y11, rfl, ko12, w⟩
          change eb_Sn _ _ _ 34 _ [.int y11] _ _
          refine eb_if_eq (pc := 34) (tgt := 41) rfl (by decide) (fun c13 => ?_) (fun c13 => ?_)
          · replace w := w.1 c13
            refine eb_aload_n (pc := 41) (n := 0) (i := 0) rfl rfl rfl ?_
            refine eb_iload_n (pc := 42) (n := 1) (i := 1) rfl rfl rfl ?_
            refine eb_iload_n (pc := 43) (n := 2) (i := 2) rfl rfl rfl ?_
            refine eb_ctV (pc := 44) (As := [.int x1, .int x2]) (rest := []) rfl (by decide) rfl rfl (by decide) rfl (Nat.le_of_ble_eq_true rfl) ?_
            refine eb_Ct.mono w ?_
            rintro r h14 ⟨y15, rfl, ko16, w⟩
            change eb_Sn _ _ _ 47 _ [.int y15] _ _
            exact eb_ireturn (pc := 47) rfl rfl rfl w
          · replace w := w.2 c13
            refine eb_iconst (pc := 37) (n := -1) (v := (-1)) rfl rfl ?_
            refine eb_goto (pc := 38) (tgt := 47) rfl (by decide) ?_
            exact eb_ireturn (pc := 47) rfl rfl rfl w
        · replace c9 := eb_q1.mp c9
          replace w := w.2 c9
          refine eb_bipush (pc := 21) (n := -3) (v := (-3)) rfl rfl ?_
          exact eb_ireturn (pc := 23) rfl rfl rfl w
      refine eb_ctS (pc := 15) (As := [.int x2]) (rest := []) rfl (by decide) (by decide) rfl rfl (Nat.le_of_ble_eq_true rfl) ?_
      refine eb_bodyQ (by decide) ok_X10_notSet (Nat.le_of_ble_eq_true rfl) ?_
      change eb_Sn _ m_X10_notSet _ 0 [(0, .int x2)] [] _ _
      refine eb_iload_n (pc := 0) (n := 0) (i := 0) rfl rfl rfl ?_
      refine eb_if_lt (pc := 1) (tgt := 10) rfl (by decide) (fun c7 => ?_) (fun c7 => ?_)
      · refine eb_iconst (pc := 10) (n := 1) (v := 1) rfl rfl ?_
        refine eb_goto (pc := 11) (tgt := 15) rfl (by decide) ?_
        refine eb_ireturn (pc := 15) rfl rfl (by decide) ?_
        change eb_Sn _ _ _ 18 _ _ _ _
        exact jj17 1 (eb_qt (Or.inl c7)).symm
      · refine eb_iload_n (pc := 4) (n := 0) (i := 0) rfl rfl rfl ?_
        refine eb_bipush (pc := 5) (n := 64) (v := 64) rfl rfl ?_
        refine eb_icmp_lt (pc := 7) (tgt := 14) rfl (by decide) (fun c8 => ?_) (fun c8 => ?_)
        · refine eb_iconst (pc := 14) (n := 0) (v := 0) rfl rfl ?_
          refine eb_ireturn (pc := 15) rfl rfl (by decide) ?_
          change eb_Sn _ _ _ 18 _ _ _ _
          exact jj17 0 (eb_qf (fun z => z.elim c7 (fun z => z c8))).symm
        · refine eb_iconst (pc := 10) (n := 1) (v := 1) rfl rfl ?_
          refine eb_goto (pc := 11) (tgt := 15) rfl (by decide) ?_
          refine eb_ireturn (pc := 15) rfl rfl (by decide) ?_
          change eb_Sn _ _ _ 18 _ _ _ _
          exact jj17 1 (eb_qt (Or.inr c8)).symm
    · replace c6 := eb_q0.mp c6
      replace w := w.2 c6
      refine eb_bipush (pc := 11) (n := -2) (v := (-2)) rfl rfl ?_
      exact eb_ireturn (pc := 13) rfl rfl rfl w
  refine eb_ctV (pc := 5) (As := [.int x1]) (rest := []) rfl (by decide) rfl k3 (by decide) rfl (Nat.le_of_ble_eq_true rfl) ?_
  refine eb_bodyQ (by decide) ok_X9_hasHouse (Nat.le_of_ble_eq_true rfl) ?_
  change eb_Sn _ m_X9_hasHouse _ 0 [(0, .ref r1), (1, .int x1)] [] _ _
  refine eb_iload_n (pc := 0) (n := 1) (i := 1) rfl rfl rfl ?_
  refine eb_if_lt (pc := 1) (tgt := 16) rfl (by decide) (fun c4 => ?_) (fun c4 => ?_)
  · refine eb_iconst (pc := 16) (n := 0) (v := 0) rfl rfl ?_
    refine eb_ireturn (pc := 17) rfl rfl (by decide) ?_
    change eb_Sn _ _ _ 8 _ _ _ _
    exact jj19 0 (eb_qf (fun z => z.1 c4)).symm
  · refine eb_iload_n (pc := 4) (n := 1) (i := 1) rfl rfl rfl ?_
    refine eb_aload_n (pc := 5) (n := 0) (i := 0) rfl rfl rfl ?_
    refine eb_getI (pc := 6) rfl k3 (by decide) (by decide) rfl ?_
    refine eb_icmp_ge (pc := 9) (tgt := 16) rfl (by decide) (fun c5 => ?_) (fun c5 => ?_)
    · refine eb_iconst (pc := 16) (n := 0) (v := 0) rfl rfl ?_
      refine eb_ireturn (pc := 17) rfl rfl (by decide) ?_
      change eb_Sn _ _ _ 8 _ _ _ _
      exact jj19 0 (eb_qf (fun z => (fun z => z c5) z.2)).symm
    · refine eb_iconst (pc := 12) (n := 1) (v := 1) rfl rfl ?_
      refine eb_goto (pc := 13) (tgt := 17) rfl (by decide) ?_
      refine eb_ireturn (pc := 17) rfl rfl (by decide) ?_
      change eb_Sn _ _ _ 8 _ _ _ _
      exact jj19 1 (eb_qt (⟨c4, c5⟩)).symm
theorem T_X10_best {d : Nat} {h : eb_H} {Q : Option Value → eb_H → Prop} (x1 : Int32) (x2 : Int32)  (ko : eb_KO h) (w : ∃ r1, eb_R h s_EB 2 = some r1 ∧ eb_kd r1 = 9 ∧ (((¬ (x1 < 0)) ∧ (¬ ((eb_I h r1 4) ≤ x1)) → ((¬ ((x2 < 0) ∨ (¬ (x2 < (64 : Int32)))) → eb_Ct d 153 [.ref s_EB, .ref s_now, .int x1, .int x2] h (fun r h10 => ∃ y11, r = some (.int y11) ∧ eb_KO h10 ∧ ((y11 = 0 → eb_Ct d 154 [.ref s_EB, .int x1, .int x2] h10 (fun r h14 => ∃ y15, r = some (.int y15) ∧ eb_KO h14 ∧ Q (some (.int y15)) h14)) ∧ (¬ (y11 = 0) → Q (some (.int (-1))) h10)))) ∧ ((x2 < 0) ∨ (¬ (x2 < (64 : Int32))) → Q (some (.int (-3))) h))) ∧ (¬ ((¬ (x1 < 0)) ∧ (¬ ((eb_I h r1 4) ≤ x1))) → Q (some (.int (-2))) h))) : eb_Ct (d + 1) 129 [.ref s_EB, .int x1, .int x2] h Q :=
  eb_bodyQ (by decide) ok_X10_best (Nat.le_of_ble_eq_true rfl) (b_X10_best_0 (h0 := h) x1 x2  ko w)
theorem b_X10_chance_0 {d : Nat} {h0 h : eb_H} {Q : Option Value → eb_H → Prop} (x1 : Int32) (x2 : Int32) (x3 : Int32) (x4 : Int32)  (ko : eb_KO h) (w : ∃ r1, eb_R h s_EB 2 = some r1 ∧ eb_kd r1 = 9 ∧ ((¬ ((¬ (x1 < 0)) ∧ (¬ (((eb_I h r1 0) * (eb_I h r1 1)) ≤ x1))) → Q (some (.int (-2))) h) ∧ ((¬ (x1 < 0)) ∧ (¬ (((eb_I h r1 0) * (eb_I h r1 1)) ≤ x1)) → ((x4 < 0 → Q (some (.int (-2))) h) ∧ (¬ (x4 < 0) → ((x4 ≤ (1 : Int32) → (((x2 < 0) ∨ (¬ (x2 < (64 : Int32))) → Q (some (.int (-3))) h) ∧ (¬ ((x2 < 0) ∨ (¬ (x2 < (64 : Int32)))) → ((x3 < 0 → Q (some (.int (-3))) h) ∧ (¬ (x3 < 0) → ((x3 ≤ (8 : Int32) → eb_Ct d 18 [.ref s_flights, .ref r1, .ref s_now, .int x3, .int 1] h (fun r h14 => r = none ∧ eb_KO h14 ∧ eb_Ct d 22 [.ref s_flights, .int x1, .int x2, .int 0] h14 (fun r h17 => ∃ y18, r = some (.long y18) ∧ eb_KO h17 ∧ eb_Ct d 155 [.long y18, .int x3, .int x4] h17 (fun r h20 => ∃ y21, r = some (.int y21) ∧ eb_KO h20 ∧ Q (some (.int y21)) h20)))) ∧ (¬ (x3 ≤ (8 : Int32)) → Q (some (.int (-3))) h))))))) ∧ (¬ (x4 ≤ (1 : Int32)) → Q (some (.int (-2))) h))))))) : eb_Sn (d + 1) m_X10_chance h0 0 [(0, .ref s_EB), (1, .int x1), (2, .int x2), (3, .int x3), (4, .int x4)] [] h Q := by
  refine eb_aload_n (pc := 0) (n := 0) (i := 0) rfl rfl rfl ?_
  obtain ⟨r1, q2, k3, w⟩ := w
  refine eb_getR (pc := 1) rfl rfl (by decide) (by decide) rfl q2 ?_
  refine eb_iload_n (pc := 4) (n := 1) (i := 1) rfl rfl rfl ?_
  refine eb_joinI (pc2 := 8) (ls2 := [(0, .ref s_EB), (1, .int x1), (2, .int x2), (3, .int x3), (4, .int x4)]) (st2 := []) (v := eb_q ((¬ (x1 < 0)) ∧ (¬ (((eb_I h r1 0) * (eb_I h r1 1)) ≤ x1)))) ?_ (fun jj25 => ?_)
  · refine eb_if_eq (pc := 8) (tgt := 22) rfl (by decide) (fun c6 => ?_) (fun c6 => ?_)
    · replace c6 := eb_q0.mp c6
      replace w := w.1 c6
      refine eb_bipush (pc := 22) (n := -2) (v := (-2)) rfl rfl ?_
      exact eb_ireturn (pc := 24) rfl rfl rfl w
    · replace c6 := eb_q1.mp c6
      replace w := w.2 c6
      refine eb_iload (pc := 11) (i := 4) rfl rfl ?_
      refine eb_if_lt (pc := 13) (tgt := 22) rfl (by decide) (fun c7 => ?_) (fun c7 => ?_)
      · replace w := w.1 c7
        refine eb_bipush (pc := 22) (n := -2) (v := (-2)) rfl rfl ?_
        exact eb_ireturn (pc := 24) rfl rfl rfl w
      · replace w := w.2 c7
        refine eb_iload (pc := 16) (i := 4) rfl rfl ?_
        refine eb_iconst (pc := 18) (n := 1) (v := 1) rfl rfl ?_
        refine eb_icmp_le (pc := 19) (tgt := 25) rfl (by decide) (fun c8 => ?_) (fun c8 => ?_)
        · replace w := w.1 c8
          refine eb_iload_n (pc := 25) (n := 2) (i := 2) rfl rfl rfl ?_
          refine eb_joinI (pc2 := 29) (ls2 := [(0, .ref s_EB), (1, .int x1), (2, .int x2), (3, .int x3), (4, .int x4)]) (st2 := []) (v := eb_q ((x2 < 0) ∨ (¬ (x2 < (64 : Int32))))) ?_ (fun jj23 => ?_)
          · refine eb_if_ne (pc := 29) (tgt := 42) rfl (by decide) (fun c11 => ?_) (fun c11 => ?_)
            · replace c11 := eb_q1.mp c11
              replace w := w.1 c11
              refine eb_bipush (pc := 42) (n := -3) (v := (-3)) rfl rfl ?_
              exact eb_ireturn (pc := 44) rfl rfl rfl w
            · replace c11 := eb_q0.mp c11
              replace w := w.2 c11
              refine eb_iload_n (pc := 32) (n := 3) (i := 3) rfl rfl rfl ?_
              refine eb_if_lt (pc := 33) (tgt := 42) rfl (by decide) (fun c12 => ?_) (fun c12 => ?_)
              · replace w := w.1 c12
                refine eb_bipush (pc := 42) (n := -3) (v := (-3)) rfl rfl ?_
                exact eb_ireturn (pc := 44) rfl rfl rfl w
              · replace w := w.2 c12
                refine eb_iload_n (pc := 36) (n := 3) (i := 3) rfl rfl rfl ?_
                refine eb_bipush (pc := 37) (n := 8) (v := 8) rfl rfl ?_
                refine eb_icmp_le (pc := 39) (tgt := 45) rfl (by decide) (fun c13 => ?_) (fun c13 => ?_)
                · replace w := w.1 c13
                  refine eb_aload_n (pc := 45) (n := 0) (i := 0) rfl rfl rfl ?_
                  refine eb_getR (pc := 46) rfl rfl (by decide) (by decide) rfl (ko_s_EB_7 ko) ?_
                  refine eb_aload_n (pc := 49) (n := 0) (i := 0) rfl rfl rfl ?_
                  refine eb_getR (pc := 50) rfl rfl (by decide) (by decide) rfl q2 ?_
                  refine eb_aload_n (pc := 53) (n := 0) (i := 0) rfl rfl rfl ?_
                  refine eb_getR (pc := 54) rfl rfl (by decide) (by decide) rfl (ko_s_EB_3 ko) ?_
                  refine eb_iload_n (pc := 57) (n := 3) (i := 3) rfl rfl rfl ?_
                  refine eb_iconst (pc := 58) (n := 1) (v := 1) rfl rfl ?_
                  refine eb_ctV (pc := 59) (As := [.ref r1, .ref s_now, .int x3, .int 1]) (rest := []) rfl (by decide) rfl rfl (by decide) rfl (Nat.le_of_ble_eq_true rfl) ?_
                  refine eb_Ct.mono w ?_
                  rintro r h14 ⟨rfl, ko16, w⟩
                  change eb_Sn _ _ _ 62 _ [] _ _
                  refine eb_aload_n (pc := 62) (n := 0) (i := 0) rfl rfl rfl ?_
                  refine eb_getR (pc := 63) rfl rfl (by decide) (by decide) rfl (ko_s_EB_7 ko16) ?_
                  refine eb_iload_n (pc := 66) (n := 1) (i := 1) rfl rfl rfl ?_
                  refine eb_iload_n (pc := 67) (n := 2) (i := 2) rfl rfl rfl ?_
                  refine eb_iconst (pc := 68) (n := 0) (v := 0) rfl rfl ?_
                  refine eb_ctV (pc := 69) (As := [.int x1, .int x2, .int 0]) (rest := []) rfl (by decide) rfl rfl (by decide) rfl (Nat.le_of_ble_eq_true rfl) ?_
                  refine eb_Ct.mono w ?_
                  rintro r h17 ⟨y18, rfl, ko19, w⟩
                  change eb_Sn _ _ _ 72 _ [.long y18] _ _
                  refine eb_iload_n (pc := 72) (n := 3) (i := 3) rfl rfl rfl ?_
                  refine eb_iload (pc := 73) (i := 4) rfl rfl ?_
                  refine eb_ctS (pc := 75) (As := [.long y18, .int x3, .int x4]) (rest := []) rfl (by decide) (by decide) rfl rfl (Nat.le_of_ble_eq_true rfl) ?_
                  refine eb_Ct.mono w ?_
                  rintro r h20 ⟨y21, rfl, ko22, w⟩
                  change eb_Sn _ _ _ 78 _ [.int y21] _ _
                  exact eb_ireturn (pc := 78) rfl rfl rfl w
                · replace w := w.2 c13
                  refine eb_bipush (pc := 42) (n := -3) (v := (-3)) rfl rfl ?_
                  exact eb_ireturn (pc := 44) rfl rfl rfl w
          refine eb_ctS (pc := 26) (As := [.int x2]) (rest := []) rfl (by decide) (by decide) rfl rfl (Nat.le_of_ble_eq_true rfl) ?_
          refine eb_bodyQ (by decide) ok_X10_notSet (Nat.le_of_ble_eq_true rfl) ?_
          change eb_Sn _ m_X10_notSet _ 0 [(0, .int x2)] [] _ _
          refine eb_iload_n (pc := 0) (n := 0) (i := 0) rfl rfl rfl ?_
          refine eb_if_lt (pc := 1) (tgt := 10) rfl (by decide) (fun c9 => ?_) (fun c9 => ?_)
          · refine eb_iconst (pc := 10) (n := 1) (v := 1) rfl rfl ?_
            refine eb_goto (pc := 11) (tgt := 15) rfl (by decide) ?_
            refine eb_ireturn (pc := 15) rfl rfl (by decide) ?_
            change eb_Sn _ _ _ 29 _ _ _ _
            exact jj23 1 (eb_qt (Or.inl c9)).symm
          · refine eb_iload_n (pc := 4) (n := 0) (i := 0) rfl rfl rfl ?_
            refine eb_bipush (pc := 5) (n := 64) (v := 64) rfl rfl ?_
            refine eb_icmp_lt (pc := 7) (tgt := 14) rfl (by decide) (fun c10 => ?_) (fun c10 => ?_)
            · refine eb_iconst (pc := 14) (n := 0) (v := 0) rfl rfl ?_
              refine eb_ireturn (pc := 15) rfl rfl (by decide) ?_
              change eb_Sn _ _ _ 29 _ _ _ _
              exact jj23 0 (eb_qf (fun z => z.elim c9 (fun z => z c10))).symm
            · refine eb_iconst (pc := 10) (n := 1) (v := 1) rfl rfl ?_
              refine eb_goto (pc := 11) (tgt := 15) rfl (by decide) ?_
              refine eb_ireturn (pc := 15) rfl rfl (by decide) ?_
              change eb_Sn _ _ _ 29 _ _ _ _
              exact jj23 1 (eb_qt (Or.inr c10)).symm
        · replace w := w.2 c8
          refine eb_bipush (pc := 22) (n := -2) (v := (-2)) rfl rfl ?_
          exact eb_ireturn (pc := 24) rfl rfl rfl w
  refine eb_ctV (pc := 5) (As := [.int x1]) (rest := []) rfl (by decide) rfl k3 (by decide) rfl (Nat.le_of_ble_eq_true rfl) ?_
  refine eb_bodyQ (by decide) ok_X9_has (Nat.le_of_ble_eq_true rfl) ?_
  change eb_Sn _ m_X9_has _ 0 [(0, .ref r1), (1, .int x1)] [] _ _
  refine eb_iload_n (pc := 0) (n := 1) (i := 1) rfl rfl rfl ?_
  refine eb_if_lt (pc := 1) (tgt := 21) rfl (by decide) (fun c4 => ?_) (fun c4 => ?_)
  · refine eb_iconst (pc := 21) (n := 0) (v := 0) rfl rfl ?_
    refine eb_ireturn (pc := 22) rfl rfl (by decide) ?_
    change eb_Sn _ _ _ 8 _ _ _ _
    exact jj25 0 (eb_qf (fun z => z.1 c4)).symm
  · refine eb_iload_n (pc := 4) (n := 1) (i := 1) rfl rfl rfl ?_
    refine eb_aload_n (pc := 5) (n := 0) (i := 0) rfl rfl rfl ?_
    refine eb_getI (pc := 6) rfl k3 (by decide) (by decide) rfl ?_
    refine eb_aload_n (pc := 9) (n := 0) (i := 0) rfl rfl rfl ?_
    refine eb_getI (pc := 10) rfl k3 (by decide) (by decide) rfl ?_
    refine eb_imul (pc := 13) rfl ?_
    refine eb_icmp_ge (pc := 14) (tgt := 21) rfl (by decide) (fun c5 => ?_) (fun c5 => ?_)
    · refine eb_iconst (pc := 21) (n := 0) (v := 0) rfl rfl ?_
      refine eb_ireturn (pc := 22) rfl rfl (by decide) ?_
      change eb_Sn _ _ _ 8 _ _ _ _
      exact jj25 0 (eb_qf (fun z => (fun z => z c5) z.2)).symm
    · refine eb_iconst (pc := 17) (n := 1) (v := 1) rfl rfl ?_
      refine eb_goto (pc := 18) (tgt := 22) rfl (by decide) ?_
      refine eb_ireturn (pc := 22) rfl rfl (by decide) ?_
      change eb_Sn _ _ _ 8 _ _ _ _
      exact jj25 1 (eb_qt (⟨c4, c5⟩)).symm
theorem T_X10_chance {d : Nat} {h : eb_H} {Q : Option Value → eb_H → Prop} (x1 : Int32) (x2 : Int32) (x3 : Int32) (x4 : Int32)  (ko : eb_KO h) (w : ∃ r1, eb_R h s_EB 2 = some r1 ∧ eb_kd r1 = 9 ∧ ((¬ ((¬ (x1 < 0)) ∧ (¬ (((eb_I h r1 0) * (eb_I h r1 1)) ≤ x1))) → Q (some (.int (-2))) h) ∧ ((¬ (x1 < 0)) ∧ (¬ (((eb_I h r1 0) * (eb_I h r1 1)) ≤ x1)) → ((x4 < 0 → Q (some (.int (-2))) h) ∧ (¬ (x4 < 0) → ((x4 ≤ (1 : Int32) → (((x2 < 0) ∨ (¬ (x2 < (64 : Int32))) → Q (some (.int (-3))) h) ∧ (¬ ((x2 < 0) ∨ (¬ (x2 < (64 : Int32)))) → ((x3 < 0 → Q (some (.int (-3))) h) ∧ (¬ (x3 < 0) → ((x3 ≤ (8 : Int32) → eb_Ct d 18 [.ref s_flights, .ref r1, .ref s_now, .int x3, .int 1] h (fun r h14 => r = none ∧ eb_KO h14 ∧ eb_Ct d 22 [.ref s_flights, .int x1, .int x2, .int 0] h14 (fun r h17 => ∃ y18, r = some (.long y18) ∧ eb_KO h17 ∧ eb_Ct d 155 [.long y18, .int x3, .int x4] h17 (fun r h20 => ∃ y21, r = some (.int y21) ∧ eb_KO h20 ∧ Q (some (.int y21)) h20)))) ∧ (¬ (x3 ≤ (8 : Int32)) → Q (some (.int (-3))) h))))))) ∧ (¬ (x4 ≤ (1 : Int32)) → Q (some (.int (-2))) h))))))) : eb_Ct (d + 1) 130 [.ref s_EB, .int x1, .int x2, .int x3, .int x4] h Q :=
  eb_bodyQ (by decide) ok_X10_chance (Nat.le_of_ble_eq_true rfl) (b_X10_chance_0 (h0 := h) x1 x2 x3 x4  ko w)
theorem b_X10_mean_0 {d : Nat} {h0 h : eb_H} {Q : Option Value → eb_H → Prop} (x1 : Int32) (x2 : Int32)  (ko : eb_KO h) (w : ((x2 < 0 → Q (some (.int (-2))) h) ∧ (¬ (x2 < 0) → ((x2 ≤ (1 : Int32) → ((x1 < 0 → Q (some (.int (-3))) h) ∧ (¬ (x1 < 0) → ((x1 ≤ (8 : Int32) → ∃ r5, eb_R h s_EB 2 = some r5 ∧ eb_kd r5 = 9 ∧ eb_Ct d 18 [.ref s_flights, .ref r5, .ref s_now, .int x1, .int 1] h (fun r h8 => r = none ∧ eb_KO h8 ∧ eb_Ct d 23 [.ref s_flights] h8 (fun r h11 => ∃ y12, r = some (.long y12) ∧ eb_KO h11 ∧ eb_Ct d 155 [.long y12, .int x1, .int x2] h11 (fun r h14 => ∃ y15, r = some (.int y15) ∧ eb_KO h14 ∧ Q (some (.int y15)) h14)))) ∧ (¬ (x1 ≤ (8 : Int32)) → Q (some (.int (-3))) h))))) ∧ (¬ (x2 ≤ (1 : Int32)) → Q (some (.int (-2))) h))))) : eb_Sn (d + 1) m_X10_mean h0 0 [(0, .ref s_EB), (1, .int x1), (2, .int x2)] [] h Q := by
  refine eb_iload_n (pc := 0) (n := 2) (i := 2) rfl rfl rfl ?_
  refine eb_if_lt (pc := 1) (tgt := 9) rfl (by decide) (fun c1 => ?_) (fun c1 => ?_)
  · replace w := w.1 c1
    refine eb_bipush (pc := 9) (n := -2) (v := (-2)) rfl rfl ?_
    exact eb_ireturn (pc := 11) rfl rfl rfl w
  · replace w := w.2 c1
    refine eb_iload_n (pc := 4) (n := 2) (i := 2) rfl rfl rfl ?_
    refine eb_iconst (pc := 5) (n := 1) (v := 1) rfl rfl ?_
    refine eb_icmp_le (pc := 6) (tgt := 12) rfl (by decide) (fun c2 => ?_) (fun c2 => ?_)
    · replace w := w.1 c2
      refine eb_iload_n (pc := 12) (n := 1) (i := 1) rfl rfl rfl ?_
      refine eb_if_lt (pc := 13) (tgt := 22) rfl (by decide) (fun c3 => ?_) (fun c3 => ?_)
      · replace w := w.1 c3
        refine eb_bipush (pc := 22) (n := -3) (v := (-3)) rfl rfl ?_
        exact eb_ireturn (pc := 24) rfl rfl rfl w
      · replace w := w.2 c3
        refine eb_iload_n (pc := 16) (n := 1) (i := 1) rfl rfl rfl ?_
        refine eb_bipush (pc := 17) (n := 8) (v := 8) rfl rfl ?_
        refine eb_icmp_le (pc := 19) (tgt := 25) rfl (by decide) (fun c4 => ?_) (fun c4 => ?_)
        · replace w := w.1 c4
          refine eb_aload_n (pc := 25) (n := 0) (i := 0) rfl rfl rfl ?_
          refine eb_getR (pc := 26) rfl rfl (by decide) (by decide) rfl (ko_s_EB_7 ko) ?_
          refine eb_aload_n (pc := 29) (n := 0) (i := 0) rfl rfl rfl ?_
          obtain ⟨r5, q6, k7, w⟩ := w
          refine eb_getR (pc := 30) rfl rfl (by decide) (by decide) rfl q6 ?_
          refine eb_aload_n (pc := 33) (n := 0) (i := 0) rfl rfl rfl ?_
          refine eb_getR (pc := 34) rfl rfl (by decide) (by decide) rfl (ko_s_EB_3 ko) ?_
          refine eb_iload_n (pc := 37) (n := 1) (i := 1) rfl rfl rfl ?_
          refine eb_iconst (pc := 38) (n := 1) (v := 1) rfl rfl ?_
          refine eb_ctV (pc := 39) (As := [.ref r5, .ref s_now, .int x1, .int 1]) (rest := []) rfl (by decide) rfl rfl (by decide) rfl (Nat.le_of_ble_eq_true rfl) ?_
          refine eb_Ct.mono w ?_
          rintro r h8 ⟨rfl, ko10, w⟩
          change eb_Sn _ _ _ 42 _ [] _ _
          refine eb_aload_n (pc := 42) (n := 0) (i := 0) rfl rfl rfl ?_
          refine eb_getR (pc := 43) rfl rfl (by decide) (by decide) rfl (ko_s_EB_7 ko10) ?_
          refine eb_ctV (pc := 46) (As := []) (rest := []) rfl (by decide) rfl rfl (by decide) rfl (Nat.le_of_ble_eq_true rfl) ?_
          refine eb_Ct.mono w ?_
          rintro r h11 ⟨y12, rfl, ko13, w⟩
          change eb_Sn _ _ _ 49 _ [.long y12] _ _
          refine eb_iload_n (pc := 49) (n := 1) (i := 1) rfl rfl rfl ?_
          refine eb_iload_n (pc := 50) (n := 2) (i := 2) rfl rfl rfl ?_
          refine eb_ctS (pc := 51) (As := [.long y12, .int x1, .int x2]) (rest := []) rfl (by decide) (by decide) rfl rfl (Nat.le_of_ble_eq_true rfl) ?_
          refine eb_Ct.mono w ?_
          rintro r h14 ⟨y15, rfl, ko16, w⟩
          change eb_Sn _ _ _ 54 _ [.int y15] _ _
          exact eb_ireturn (pc := 54) rfl rfl rfl w
        · replace w := w.2 c4
          refine eb_bipush (pc := 22) (n := -3) (v := (-3)) rfl rfl ?_
          exact eb_ireturn (pc := 24) rfl rfl rfl w
    · replace w := w.2 c2
      refine eb_bipush (pc := 9) (n := -2) (v := (-2)) rfl rfl ?_
      exact eb_ireturn (pc := 11) rfl rfl rfl w
theorem T_X10_mean {d : Nat} {h : eb_H} {Q : Option Value → eb_H → Prop} (x1 : Int32) (x2 : Int32)  (ko : eb_KO h) (w : ((x2 < 0 → Q (some (.int (-2))) h) ∧ (¬ (x2 < 0) → ((x2 ≤ (1 : Int32) → ((x1 < 0 → Q (some (.int (-3))) h) ∧ (¬ (x1 < 0) → ((x1 ≤ (8 : Int32) → ∃ r5, eb_R h s_EB 2 = some r5 ∧ eb_kd r5 = 9 ∧ eb_Ct d 18 [.ref s_flights, .ref r5, .ref s_now, .int x1, .int 1] h (fun r h8 => r = none ∧ eb_KO h8 ∧ eb_Ct d 23 [.ref s_flights] h8 (fun r h11 => ∃ y12, r = some (.long y12) ∧ eb_KO h11 ∧ eb_Ct d 155 [.long y12, .int x1, .int x2] h11 (fun r h14 => ∃ y15, r = some (.int y15) ∧ eb_KO h14 ∧ Q (some (.int y15)) h14)))) ∧ (¬ (x1 ≤ (8 : Int32)) → Q (some (.int (-3))) h))))) ∧ (¬ (x2 ≤ (1 : Int32)) → Q (some (.int (-2))) h))))) : eb_Ct (d + 1) 131 [.ref s_EB, .int x1, .int x2] h Q :=
  eb_bodyQ (by decide) ok_X10_mean (Nat.le_of_ble_eq_true rfl) (b_X10_mean_0 (h0 := h) x1 x2  ko w)
theorem b_X10_likeliest_0 {d : Nat} {h0 h : eb_H} {Q : Option Value → eb_H → Prop} (x1 : Int32)  (ko : eb_KO h) (w : ((x1 < 0 → Q (some (.int (-3))) h) ∧ (¬ (x1 < 0) → ((x1 ≤ (8 : Int32) → ∃ r3, eb_R h s_EB 2 = some r3 ∧ eb_kd r3 = 9 ∧ eb_Ct d 18 [.ref s_flights, .ref r3, .ref s_now, .int x1, .int 1] h (fun r h6 => r = none ∧ eb_KO h6 ∧ eb_Sn (d + 1) m_X10_likeliest h0 39 [(0, .ref s_EB), (2, .int 0), (3, .long (-1)), (5, .int 0)] [] h6 Q)) ∧ (¬ (x1 ≤ (8 : Int32)) → Q (some (.int (-3))) h))))) : eb_Sn (d + 1) m_X10_likeliest h0 0 [(0, .ref s_EB), (1, .int x1)] [] h Q := by
  refine eb_iload_n (pc := 0) (n := 1) (i := 1) rfl rfl rfl ?_
  refine eb_if_lt (pc := 1) (tgt := 10) rfl (by decide) (fun c1 => ?_) (fun c1 => ?_)
  · replace w := w.1 c1
    refine eb_bipush (pc := 10) (n := -3) (v := (-3)) rfl rfl ?_
    exact eb_ireturn (pc := 12) rfl rfl rfl w
  · replace w := w.2 c1
    refine eb_iload_n (pc := 4) (n := 1) (i := 1) rfl rfl rfl ?_
    refine eb_bipush (pc := 5) (n := 8) (v := 8) rfl rfl ?_
    refine eb_icmp_le (pc := 7) (tgt := 13) rfl (by decide) (fun c2 => ?_) (fun c2 => ?_)
    · replace w := w.1 c2
      refine eb_aload_n (pc := 13) (n := 0) (i := 0) rfl rfl rfl ?_
      refine eb_getR (pc := 14) rfl rfl (by decide) (by decide) rfl (ko_s_EB_7 ko) ?_
      refine eb_aload_n (pc := 17) (n := 0) (i := 0) rfl rfl rfl ?_
      obtain ⟨r3, q4, k5, w⟩ := w
      refine eb_getR (pc := 18) rfl rfl (by decide) (by decide) rfl q4 ?_
      refine eb_aload_n (pc := 21) (n := 0) (i := 0) rfl rfl rfl ?_
      refine eb_getR (pc := 22) rfl rfl (by decide) (by decide) rfl (ko_s_EB_3 ko) ?_
      refine eb_iload_n (pc := 25) (n := 1) (i := 1) rfl rfl rfl ?_
      refine eb_iconst (pc := 26) (n := 1) (v := 1) rfl rfl ?_
      refine eb_ctV (pc := 27) (As := [.ref r3, .ref s_now, .int x1, .int 1]) (rest := []) rfl (by decide) rfl rfl (by decide) rfl (Nat.le_of_ble_eq_true rfl) ?_
      refine eb_Ct.mono w ?_
      rintro r h6 ⟨rfl, ko8, w⟩
      change eb_Sn _ _ _ 30 _ [] _ _
      refine eb_iconst (pc := 30) (n := 0) (v := 0) rfl rfl ?_
      refine eb_istore_n (pc := 31) (n := 2) (i := 2) (ls2 := [(2, .int 0), (0, .ref s_EB), (1, .int x1)]) rfl (Nat.le_of_ble_eq_true rfl) rfl rfl ?_
      refine eb_ldc2 (pc := 32) (a := 18446744073709551615) (v := (-1)) rfl (by decide) ?_
      refine eb_lstore_n (pc := 35) (n := 3) (i := 3) (ls2 := [(3, .long (-1)), (2, .int 0), (0, .ref s_EB), (1, .int x1)]) rfl (Nat.le_of_ble_eq_true rfl) rfl rfl ?_
      refine eb_iconst (pc := 36) (n := 0) (v := 0) rfl rfl ?_
      refine eb_istore (pc := 37) (i := 5) (ls2 := [(5, .int 0), (3, .long (-1)), (2, .int 0), (0, .ref s_EB), (1, .int x1)]) (Nat.le_of_ble_eq_true rfl) rfl rfl ?_
      exact eb_pick [3, 2, 1, 0] rfl w
    · replace w := w.2 c2
      refine eb_bipush (pc := 10) (n := -3) (v := (-3)) rfl rfl ?_
      exact eb_ireturn (pc := 12) rfl rfl rfl w
theorem b_X10_likeliest_39 {d : Nat} {h0 h : eb_H} {Q : Option Value → eb_H → Prop} (x2 : Int32) (x3 : Int64) (x5 : Int32)  (ko : eb_KO h) (w : (((16 : Int32) ≤ x5 → Q (some (.int x2)) h) ∧ (¬ ((16 : Int32) ≤ x5) → eb_Ct d 22 [.ref s_flights, .int x5, .int 0, .int 0] h (fun r h2 => ∃ y3, r = some (.long y3) ∧ eb_KO h2 ∧ ((y3 ≤ x3 → eb_Sn (d + 1) m_X10_likeliest h0 39 [(0, .ref s_EB), (2, .int x2), (3, .long x3), (5, .int (x5 + 1))] [] h2 Q) ∧ (¬ (y3 ≤ x3) → eb_Sn (d + 1) m_X10_likeliest h0 39 [(0, .ref s_EB), (2, .int x5), (3, .long y3), (5, .int (x5 + 1))] [] h2 Q)))))) : eb_Sn (d + 1) m_X10_likeliest h0 39 [(0, .ref s_EB), (2, .int x2), (3, .long x3), (5, .int x5)] [] h Q := by
  refine eb_iload (pc := 39) (i := 5) rfl rfl ?_
  refine eb_bipush (pc := 41) (n := 16) (v := 16) rfl rfl ?_
  refine eb_icmp_ge (pc := 43) (tgt := 78) rfl (by decide) (fun c1 => ?_) (fun c1 => ?_)
  · replace w := w.1 c1
    refine eb_iload_n (pc := 78) (n := 2) (i := 2) rfl rfl rfl ?_
    exact eb_ireturn (pc := 79) rfl rfl rfl w
  · replace w := w.2 c1
    refine eb_aload_n (pc := 46) (n := 0) (i := 0) rfl rfl rfl ?_
    refine eb_getR (pc := 47) rfl rfl (by decide) (by decide) rfl (ko_s_EB_7 ko) ?_
    refine eb_iload (pc := 50) (i := 5) rfl rfl ?_
    refine eb_iconst (pc := 52) (n := 0) (v := 0) rfl rfl ?_
    refine eb_iconst (pc := 53) (n := 0) (v := 0) rfl rfl ?_
    refine eb_ctV (pc := 54) (As := [.int x5, .int 0, .int 0]) (rest := []) rfl (by decide) rfl rfl (by decide) rfl (Nat.le_of_ble_eq_true rfl) ?_
    refine eb_Ct.mono w ?_
    rintro r h2 ⟨y3, rfl, ko4, w⟩
    change eb_Sn _ _ _ 57 _ [.long y3] _ _
    refine eb_lstore (pc := 57) (i := 6) (ls2 := [(6, .long y3), (0, .ref s_EB), (2, .int x2), (3, .long x3), (5, .int x5)]) (Nat.le_of_ble_eq_true rfl) rfl rfl ?_
    refine eb_lload (pc := 59) (i := 6) rfl rfl ?_
    refine eb_lload_n (pc := 61) (n := 3) (i := 3) rfl rfl rfl ?_
    refine eb_lcmp (pc := 62) rfl ?_
    refine eb_if_le (pc := 63) (tgt := 72) rfl (by decide) (fun c5 => ?_) (fun c5 => ?_)
    · replace c5 := eb_lc_le.mp c5
      replace w := w.1 c5
      refine eb_iinc (pc := 72) (i := 5) (n := 1) (v := x5 + 1) (ls2 := [(5, .int (x5 + 1)), (6, .long y3), (0, .ref s_EB), (2, .int x2), (3, .long x3)]) (Nat.le_of_ble_eq_true rfl) rfl rfl rfl rfl ?_
      refine eb_goto (pc := 75) (tgt := 39) rfl (by decide) ?_
      exact eb_pick [2, 3, 4, 0] rfl w
    · replace c5 := (fun hh => mt eb_lc_le.mpr hh) c5
      replace w := w.2 c5
      refine eb_lload (pc := 66) (i := 6) rfl rfl ?_
      refine eb_lstore_n (pc := 68) (n := 3) (i := 3) (ls2 := [(3, .long y3), (6, .long y3), (0, .ref s_EB), (2, .int x2), (5, .int x5)]) rfl (Nat.le_of_ble_eq_true rfl) rfl rfl ?_
      refine eb_iload (pc := 69) (i := 5) rfl rfl ?_
      refine eb_istore_n (pc := 71) (n := 2) (i := 2) (ls2 := [(2, .int x5), (3, .long y3), (6, .long y3), (0, .ref s_EB), (5, .int x5)]) rfl (Nat.le_of_ble_eq_true rfl) rfl rfl ?_
      refine eb_iinc (pc := 72) (i := 5) (n := 1) (v := x5 + 1) (ls2 := [(5, .int (x5 + 1)), (2, .int x5), (3, .long y3), (6, .long y3), (0, .ref s_EB)]) (Nat.le_of_ble_eq_true rfl) rfl rfl rfl rfl ?_
      refine eb_goto (pc := 75) (tgt := 39) rfl (by decide) ?_
      exact eb_pick [4, 1, 2, 0] rfl w
theorem T_X10_likeliest {d : Nat} {h : eb_H} {Q : Option Value → eb_H → Prop} (x1 : Int32)  (ko : eb_KO h) (w : ((x1 < 0 → Q (some (.int (-3))) h) ∧ (¬ (x1 < 0) → ((x1 ≤ (8 : Int32) → ∃ r3, eb_R h s_EB 2 = some r3 ∧ eb_kd r3 = 9 ∧ eb_Ct d 18 [.ref s_flights, .ref r3, .ref s_now, .int x1, .int 1] h (fun r h6 => r = none ∧ eb_KO h6 ∧ eb_Sn (d + 1) m_X10_likeliest h 39 [(0, .ref s_EB), (2, .int 0), (3, .long (-1)), (5, .int 0)] [] h6 Q)) ∧ (¬ (x1 ≤ (8 : Int32)) → Q (some (.int (-3))) h))))) : eb_Ct (d + 1) 132 [.ref s_EB, .int x1] h Q :=
  eb_bodyQ (by decide) ok_X10_likeliest (Nat.le_of_ble_eq_true rfl) (b_X10_likeliest_0 (h0 := h) x1  ko w)
theorem b_X10_numbers_0 {d : Nat} {h0 h : eb_H} {Q : Option Value → eb_H → Prop} (x1 : Int32) (x2 : Int32) (x3 : Int32)  (ko : eb_KO h) (w : (((x1 < 0) ∨ (¬ (x1 < (4 : Int32))) → Q (some (.int (-2))) h) ∧ (¬ ((x1 < 0) ∨ (¬ (x1 < (4 : Int32)))) → ((x2 < 0 → Q (some (.int (-2))) h) ∧ (¬ (x2 < 0) → ((x2 < (4 : Int32) → ((x3 < 0 → Q (some (.int (-3))) h) ∧ (¬ (x3 < 0) → ((x3 ≤ (40 : Int32) → (vp_in x1 4) ∧ ∃ r9, eb_R h s_trays x1.toNatClampNeg = some r9 ∧ (eb_kd r9 = 8) ∧ eb_Ct d 75 [.ref r9, .int x2, .int x3] h (fun r h12 => r = none ∧ eb_KO h12 ∧ Q (some (.int 0)) h12)) ∧ (¬ (x3 ≤ (40 : Int32)) → Q (some (.int (-3))) h))))) ∧ (¬ (x2 < (4 : Int32)) → Q (some (.int (-2))) h))))))) : eb_Sn (d + 1) m_X10_numbers h0 0 [(0, .ref s_EB), (1, .int x1), (2, .int x2), (3, .int x3)] [] h Q := by
  refine eb_iload_n (pc := 0) (n := 1) (i := 1) rfl rfl rfl ?_
  refine eb_joinI (pc2 := 4) (ls2 := [(0, .ref s_EB), (1, .int x1), (2, .int x2), (3, .int x3)]) (st2 := []) (v := eb_q ((x1 < 0) ∨ (¬ (x1 < (4 : Int32))))) ?_ (fun jj15 => ?_)
  · refine eb_if_ne (pc := 4) (tgt := 16) rfl (by decide) (fun c3 => ?_) (fun c3 => ?_)
    · replace c3 := eb_q1.mp c3
      replace w := w.1 c3
      refine eb_bipush (pc := 16) (n := -2) (v := (-2)) rfl rfl ?_
      exact eb_ireturn (pc := 18) rfl rfl rfl w
    · replace c3 := eb_q0.mp c3
      replace w := w.2 c3
      refine eb_iload_n (pc := 7) (n := 2) (i := 2) rfl rfl rfl ?_
      refine eb_if_lt (pc := 8) (tgt := 16) rfl (by decide) (fun c4 => ?_) (fun c4 => ?_)
      · replace w := w.1 c4
        refine eb_bipush (pc := 16) (n := -2) (v := (-2)) rfl rfl ?_
        exact eb_ireturn (pc := 18) rfl rfl rfl w
      · replace w := w.2 c4
        refine eb_iload_n (pc := 11) (n := 2) (i := 2) rfl rfl rfl ?_
        refine eb_iconst (pc := 12) (n := 4) (v := 4) rfl rfl ?_
        refine eb_icmp_lt (pc := 13) (tgt := 19) rfl (by decide) (fun c5 => ?_) (fun c5 => ?_)
        · replace w := w.1 c5
          refine eb_iload_n (pc := 19) (n := 3) (i := 3) rfl rfl rfl ?_
          refine eb_if_lt (pc := 20) (tgt := 29) rfl (by decide) (fun c6 => ?_) (fun c6 => ?_)
          · replace w := w.1 c6
            refine eb_bipush (pc := 29) (n := -3) (v := (-3)) rfl rfl ?_
            exact eb_ireturn (pc := 31) rfl rfl rfl w
          · replace w := w.2 c6
            refine eb_iload_n (pc := 23) (n := 3) (i := 3) rfl rfl rfl ?_
            refine eb_bipush (pc := 24) (n := 40) (v := 40) rfl rfl ?_
            refine eb_icmp_le (pc := 26) (tgt := 32) rfl (by decide) (fun c7 => ?_) (fun c7 => ?_)
            · replace w := w.1 c7
              refine eb_aload_n (pc := 32) (n := 0) (i := 0) rfl rfl rfl ?_
              refine eb_getR (pc := 33) rfl rfl (by decide) (by decide) rfl (ko_s_EB_9 ko) ?_
              refine eb_iload_n (pc := 36) (n := 1) (i := 1) rfl rfl rfl ?_
              obtain ⟨c8, w⟩ := w
              obtain ⟨r9, q10, w⟩ := w
              refine eb_aaloadR (pc := 37) rfl rfl (by decide) (by decide) c8 q10 ?_
              refine eb_iload_n (pc := 38) (n := 2) (i := 2) rfl rfl rfl ?_
              refine eb_iload_n (pc := 39) (n := 3) (i := 3) rfl rfl rfl ?_
              obtain ⟨k11, w⟩ := w
              refine eb_ctV (pc := 40) (As := [.int x2, .int x3]) (rest := []) rfl (by decide) rfl k11 (by decide) rfl (Nat.le_of_ble_eq_true rfl) ?_
              refine eb_Ct.mono w ?_
              rintro r h12 ⟨rfl, ko14, w⟩
              change eb_Sn _ _ _ 43 _ [] _ _
              refine eb_iconst (pc := 43) (n := 0) (v := 0) rfl rfl ?_
              exact eb_ireturn (pc := 44) rfl rfl rfl w
            · replace w := w.2 c7
              refine eb_bipush (pc := 29) (n := -3) (v := (-3)) rfl rfl ?_
              exact eb_ireturn (pc := 31) rfl rfl rfl w
        · replace w := w.2 c5
          refine eb_bipush (pc := 16) (n := -2) (v := (-2)) rfl rfl ?_
          exact eb_ireturn (pc := 18) rfl rfl rfl w
  refine eb_ctS (pc := 1) (As := [.int x1]) (rest := []) rfl (by decide) (by decide) rfl rfl (Nat.le_of_ble_eq_true rfl) ?_
  refine eb_bodyQ (by decide) ok_X10_noTray (Nat.le_of_ble_eq_true rfl) ?_
  change eb_Sn _ m_X10_noTray _ 0 [(0, .int x1)] [] _ _
  refine eb_iload_n (pc := 0) (n := 0) (i := 0) rfl rfl rfl ?_
  refine eb_if_lt (pc := 1) (tgt := 9) rfl (by decide) (fun c1 => ?_) (fun c1 => ?_)
  · refine eb_iconst (pc := 9) (n := 1) (v := 1) rfl rfl ?_
    refine eb_goto (pc := 10) (tgt := 14) rfl (by decide) ?_
    refine eb_ireturn (pc := 14) rfl rfl (by decide) ?_
    change eb_Sn _ _ _ 4 _ _ _ _
    exact jj15 1 (eb_qt (Or.inl c1)).symm
  · refine eb_iload_n (pc := 4) (n := 0) (i := 0) rfl rfl rfl ?_
    refine eb_iconst (pc := 5) (n := 4) (v := 4) rfl rfl ?_
    refine eb_icmp_lt (pc := 6) (tgt := 13) rfl (by decide) (fun c2 => ?_) (fun c2 => ?_)
    · refine eb_iconst (pc := 13) (n := 0) (v := 0) rfl rfl ?_
      refine eb_ireturn (pc := 14) rfl rfl (by decide) ?_
      change eb_Sn _ _ _ 4 _ _ _ _
      exact jj15 0 (eb_qf (fun z => z.elim c1 (fun z => z c2))).symm
    · refine eb_iconst (pc := 9) (n := 1) (v := 1) rfl rfl ?_
      refine eb_goto (pc := 10) (tgt := 14) rfl (by decide) ?_
      refine eb_ireturn (pc := 14) rfl rfl (by decide) ?_
      change eb_Sn _ _ _ 4 _ _ _ _
      exact jj15 1 (eb_qt (Or.inr c2)).symm
theorem T_X10_numbers {d : Nat} {h : eb_H} {Q : Option Value → eb_H → Prop} (x1 : Int32) (x2 : Int32) (x3 : Int32)  (ko : eb_KO h) (w : (((x1 < 0) ∨ (¬ (x1 < (4 : Int32))) → Q (some (.int (-2))) h) ∧ (¬ ((x1 < 0) ∨ (¬ (x1 < (4 : Int32)))) → ((x2 < 0 → Q (some (.int (-2))) h) ∧ (¬ (x2 < 0) → ((x2 < (4 : Int32) → ((x3 < 0 → Q (some (.int (-3))) h) ∧ (¬ (x3 < 0) → ((x3 ≤ (40 : Int32) → (vp_in x1 4) ∧ ∃ r9, eb_R h s_trays x1.toNatClampNeg = some r9 ∧ (eb_kd r9 = 8) ∧ eb_Ct d 75 [.ref r9, .int x2, .int x3] h (fun r h12 => r = none ∧ eb_KO h12 ∧ Q (some (.int 0)) h12)) ∧ (¬ (x3 ≤ (40 : Int32)) → Q (some (.int (-3))) h))))) ∧ (¬ (x2 < (4 : Int32)) → Q (some (.int (-2))) h))))))) : eb_Ct (d + 1) 133 [.ref s_EB, .int x1, .int x2, .int x3] h Q :=
  eb_bodyQ (by decide) ok_X10_numbers (Nat.le_of_ble_eq_true rfl) (b_X10_numbers_0 (h0 := h) x1 x2 x3  ko w)
