theorem b_X9_stepOutcome_0 {d : Nat} {h0 h : eb_H} {Q : Option Value → eb_H → Prop} (a0 : Nat) (a1 : Nat) (x2 : Int32) (ka0 : eb_kd a0 = 9) (ka1 : eb_kd a1 = 6) (ko : eb_KO h) (w : ((x2 < 0 → Q (some (.int (-1))) h) ∧ (¬ (x2 < 0) → ((x2 < (4 : Int32) → eb_Ct d 87 [.ref a0, .int (eb_I h a1 0), .int x2] h (fun r h3 => ∃ y4, r = some (.int y4) ∧ eb_KO h3 ∧ ((¬ y4 = ((-1) : Int32) → ((¬ ((((eb_I h3 a1 3) >>> (y4 &&& 31)) &&& 1) = (1 : Int32)) → ((y4 < 0 → eb_Ct d 283 [.int (eb_I h3 a1 1)] h3 (fun r h15 => ∃ y16, r = some (.int y16) ∧ eb_KO h15 ∧ eb_Ct d 88 [.ref a0, .int (eb_I h3 a1 0), .int y4, .int y16, .int (eb_I h15 a1 4), .int 0] h15 (fun r h18 => ∃ y19, r = some (.int y19) ∧ eb_KO h18 ∧ ((¬ y19 = (1 : Int32) → ((¬ ((y19 = (3 : Int32)) ∧ (((eb_I h18 a1 1) &&& 0) = 0)) → Q (some (.int 0)) h18) ∧ ((y19 = (3 : Int32)) ∧ (((eb_I h18 a1 1) &&& 0) = 0) → Q (some (.int 0)) h18))) ∧ (y19 = (1 : Int32) → Q (some (.int (-4))) h18))))) ∧ (¬ (y4 < 0) → ∃ r10, eb_R h3 a1 5 = some r10 ∧ eb_kd r10 = 13 ∧ (((Int32.ofNat (eb_ln r10)) ≤ y4 → eb_Ct d 283 [.int (eb_I h3 a1 1)] h3 (fun r h27 => ∃ y28, r = some (.int y28) ∧ eb_KO h27 ∧ eb_Ct d 88 [.ref a0, .int (eb_I h3 a1 0), .int y4, .int y28, .int (eb_I h27 a1 4), .int 0] h27 (fun r h30 => ∃ y31, r = some (.int y31) ∧ eb_KO h30 ∧ ((¬ y31 = (1 : Int32) → ((¬ ((y31 = (3 : Int32)) ∧ (((eb_I h30 a1 1) &&& 0) = 0)) → Q (some (.int 0)) h30) ∧ ((y31 = (3 : Int32)) ∧ (((eb_I h30 a1 1) &&& 0) = 0) → Q (some (.int 0)) h30))) ∧ (y31 = (1 : Int32) → Q (some (.int (-4))) h30))))) ∧ (¬ ((Int32.ofNat (eb_ln r10)) ≤ y4) → (vp_in y4 (eb_ln r10)) ∧ eb_Ct d 283 [.int (eb_I h3 a1 1)] h3 (fun r h39 => ∃ y40, r = some (.int y40) ∧ eb_KO h39 ∧ eb_Ct d 88 [.ref a0, .int (eb_I h3 a1 0), .int y4, .int y40, .int (eb_I h39 a1 4), .int (eb_I h3 r10 y4.toNatClampNeg)] h39 (fun r h42 => ∃ y43, r = some (.int y43) ∧ eb_KO h42 ∧ ((¬ y43 = (1 : Int32) → ((¬ y43 = (3 : Int32) → Q (some (.int 0)) h42) ∧ (y43 = (3 : Int32) → Q (some (.int (if ((eb_I h42 a1 1) &&& (if (1 : Int32) ≤ (eb_I h3 r10 y4.toNatClampNeg) then (1 : Int32) <<< (((eb_I h3 r10 y4.toNatClampNeg) - 1) &&& 31) else 0 : Int32)) = 0 then eb_I h3 r10 y4.toNatClampNeg else 0 : Int32))) h42))) ∧ (y43 = (1 : Int32) → Q (some (.int (-4))) h42))))))))) ∧ ((((eb_I h3 a1 3) >>> (y4 &&& 31)) &&& 1) = (1 : Int32) → Q (some (.int (-3))) h3))) ∧ (y4 = ((-1) : Int32) → Q (some (.int (-2))) h3)))) ∧ (¬ (x2 < (4 : Int32)) → Q (some (.int (-1))) h))))) : eb_Sn (d + 1) m_X9_stepOutcome h0 0 [(0, .ref a0), (1, .ref a1), (2, .int x2)] [] h Q := by
  refine eb_iload_n (pc := 0) (n := 2) (i := 2) rfl rfl rfl ?_
  refine eb_if_lt (pc := 1) (tgt := 9) rfl (by decide) (fun c1 => ?_) (fun c1 => ?_)
  · replace w := w.1 c1
    refine eb_iconst (pc := 9) (n := -1) (v := (-1)) rfl rfl ?_
    exact eb_ireturn (pc := 10) rfl rfl rfl w
  · replace w := w.2 c1
    refine eb_iload_n (pc := 4) (n := 2) (i := 2) rfl rfl rfl ?_
    refine eb_iconst (pc := 5) (n := 4) (v := 4) rfl rfl ?_
    refine eb_icmp_lt (pc := 6) (tgt := 11) rfl (by decide) (fun c2 => ?_) (fun c2 => ?_)
    · replace w := w.1 c2
      refine eb_aload_n (pc := 11) (n := 0) (i := 0) rfl rfl rfl ?_
      refine eb_aload_n (pc := 12) (n := 1) (i := 1) rfl rfl rfl ?_
      refine eb_getI (pc := 13) rfl ka1 (by decide) (by decide) rfl ?_
      refine eb_iload_n (pc := 16) (n := 2) (i := 2) rfl rfl rfl ?_
      refine eb_ctV (pc := 17) (As := [.int (eb_I h a1 0), .int x2]) (rest := []) rfl (by decide) rfl ka0 (by decide) rfl (Nat.le_of_ble_eq_true rfl) ?_
      refine eb_Ct.mono w ?_
      rintro r h3 ⟨y4, rfl, ko5, w⟩
      change eb_Sn _ _ _ 20 _ [.int y4] _ _
      refine eb_istore_n (pc := 20) (n := 3) (i := 3) (ls2 := [(3, .int y4), (0, .ref a0), (1, .ref a1), (2, .int x2)]) rfl (Nat.le_of_ble_eq_true rfl) rfl rfl ?_
      refine eb_iload_n (pc := 21) (n := 3) (i := 3) rfl rfl rfl ?_
      refine eb_iconst (pc := 22) (n := -1) (v := (-1)) rfl rfl ?_
      refine eb_icmp_ne (pc := 23) (tgt := 29) rfl (by decide) (fun c6 => ?_) (fun c6 => ?_)
      · replace w := w.1 c6
        refine eb_aload_n (pc := 29) (n := 1) (i := 1) rfl rfl rfl ?_
        refine eb_iload_n (pc := 30) (n := 3) (i := 3) rfl rfl rfl ?_
        refine eb_joinI (pc2 := 34) (ls2 := [(3, .int y4), (0, .ref a0), (1, .ref a1), (2, .int x2)]) (st2 := []) (v := eb_q ((((eb_I h3 a1 3) >>> (y4 &&& 31)) &&& 1) = (1 : Int32))) ?_ (fun jj56 => ?_)
        · refine eb_if_eq (pc := 34) (tgt := 40) rfl (by decide) (fun c8 => ?_) (fun c8 => ?_)
          · replace c8 := eb_q0.mp c8
            replace w := w.1 c8
            refine eb_aload_n (pc := 40) (n := 1) (i := 1) rfl rfl rfl ?_
            refine eb_iload_n (pc := 41) (n := 3) (i := 3) rfl rfl rfl ?_
            refine eb_ctV (pc := 42) (As := [.int y4]) (rest := []) rfl (by decide) rfl ka1 (by decide) rfl (Nat.le_of_ble_eq_true rfl) ?_
            refine eb_bodyQ (by decide) ok_X6_thingIn (Nat.le_of_ble_eq_true rfl) ?_
            change eb_Sn _ m_X6_thingIn _ 0 [(0, .ref a1), (1, .int y4)] [] _ _
            refine eb_iload_n (pc := 0) (n := 1) (i := 1) rfl rfl rfl ?_
            refine eb_if_lt (pc := 1) (tgt := 22) rfl (by decide) (fun c9 => ?_) (fun c9 => ?_)
            · replace w := w.1 c9
              refine eb_iconst (pc := 22) (n := 0) (v := 0) rfl rfl ?_
              refine eb_ireturn (pc := 23) rfl rfl rfl ?_
              change eb_Sn _ _ _ 45 _ [.int 0] _ _
              refine eb_istore (pc := 45) (i := 4) (ls2 := [(4, .int 0), (3, .int y4), (0, .ref a0), (1, .ref a1), (2, .int x2)]) (Nat.le_of_ble_eq_true rfl) rfl rfl ?_
              refine eb_aload_n (pc := 47) (n := 0) (i := 0) rfl rfl rfl ?_
              refine eb_aload_n (pc := 48) (n := 1) (i := 1) rfl rfl rfl ?_
              refine eb_getI (pc := 49) rfl ka1 (by decide) (by decide) rfl ?_
              refine eb_iload_n (pc := 52) (n := 3) (i := 3) rfl rfl rfl ?_
              refine eb_aload_n (pc := 53) (n := 1) (i := 1) rfl rfl rfl ?_
              refine eb_getI (pc := 54) rfl ka1 (by decide) (by decide) rfl ?_
              refine eb_ctS (pc := 57) (As := [.int (eb_I h3 a1 1)]) (rest := [.int y4, .int (eb_I h3 a1 0), .ref a0]) rfl (by decide) (by decide) rfl rfl (Nat.le_of_ble_eq_true rfl) ?_
              refine eb_Ct.mono w ?_
              rintro r h15 ⟨y16, rfl, ko17, w⟩
              change eb_Sn _ _ _ 60 _ [.int y16, .int y4, .int (eb_I h3 a1 0), .ref a0] _ _
              refine eb_aload_n (pc := 60) (n := 1) (i := 1) rfl rfl rfl ?_
              refine eb_getI (pc := 61) rfl ka1 (by decide) (by decide) rfl ?_
              refine eb_iload (pc := 64) (i := 4) rfl rfl ?_
              refine eb_ctV (pc := 66) (As := [.int (eb_I h3 a1 0), .int y4, .int y16, .int (eb_I h15 a1 4), .int 0]) (rest := []) rfl (by decide) rfl ka0 (by decide) rfl (Nat.le_of_ble_eq_true rfl) ?_
              refine eb_Ct.mono w ?_
              rintro r h18 ⟨y19, rfl, ko20, w⟩
              change eb_Sn _ _ _ 69 _ [.int y19] _ _
              refine eb_istore (pc := 69) (i := 5) (ls2 := [(5, .int y19), (4, .int 0), (3, .int y4), (0, .ref a0), (1, .ref a1), (2, .int x2)]) (Nat.le_of_ble_eq_true rfl) rfl rfl ?_
              refine eb_iload (pc := 71) (i := 5) rfl rfl ?_
              refine eb_iconst (pc := 73) (n := 1) (v := 1) rfl rfl ?_
              refine eb_icmp_ne (pc := 74) (tgt := 80) rfl (by decide) (fun c21 => ?_) (fun c21 => ?_)
              · replace w := w.1 c21
                refine eb_iload (pc := 80) (i := 5) rfl rfl ?_
                refine eb_iconst (pc := 82) (n := 3) (v := 3) rfl rfl ?_
                refine eb_joinI (pc2 := 104) (ls2 := [(5, .int y19), (4, .int 0), (3, .int y4), (0, .ref a0), (1, .ref a1), (2, .int x2)]) (st2 := []) (v := eb_q ((y19 = (3 : Int32)) ∧ (((eb_I h18 a1 1) &&& 0) = 0))) ?_ (fun jj24 => ?_)
                · refine eb_istore (pc := 104) (i := 6) (ls2 := [(6, .int (eb_q ((y19 = (3 : Int32)) ∧ (((eb_I h18 a1 1) &&& 0) = 0)))), (5, .int y19), (4, .int 0), (3, .int y4), (0, .ref a0), (1, .ref a1), (2, .int x2)]) (Nat.le_of_ble_eq_true rfl) rfl rfl ?_
                  refine eb_iload (pc := 106) (i := 6) rfl rfl ?_
                  refine eb_if_eq (pc := 108) (tgt := 116) rfl (by decide) (fun c26 => ?_) (fun c26 => ?_)
                  · replace c26 := eb_q0.mp c26
                    replace w := w.1 c26
                    refine eb_iconst (pc := 116) (n := 0) (v := 0) rfl rfl ?_
                    exact eb_ireturn (pc := 117) rfl rfl rfl w
                  · replace c26 := eb_q1.mp c26
                    replace w := w.2 c26
                    refine eb_iload (pc := 111) (i := 4) rfl rfl ?_
                    refine eb_goto (pc := 113) (tgt := 117) rfl (by decide) ?_
                    exact eb_ireturn (pc := 117) rfl rfl rfl w
                refine eb_icmp_ne (pc := 83) (tgt := 103) rfl (by decide) (fun c22 => ?_) (fun c22 => ?_)
                · refine eb_iconst (pc := 103) (n := 0) (v := 0) rfl rfl ?_
                  exact jj24 0 (eb_qf (fun z => c22 z.1)).symm
                · refine eb_aload_n (pc := 86) (n := 1) (i := 1) rfl rfl rfl ?_
                  refine eb_getI (pc := 87) rfl ka1 (by decide) (by decide) rfl ?_
                  refine eb_iload (pc := 90) (i := 4) rfl rfl ?_
                  refine eb_ctS (pc := 92) (As := [.int 0]) (rest := [.int (eb_I h18 a1 1)]) rfl (by decide) (by decide) rfl rfl (Nat.le_of_ble_eq_true rfl) ?_
                  refine eb_bodyQ (by decide) ok_X10_bitOf (Nat.le_of_ble_eq_true rfl) ?_
                  change eb_Sn _ m_X10_bitOf _ 0 [(0, .int 0)] [] _ _
                  refine eb_iload_n (pc := 0) (n := 0) (i := 0) rfl rfl rfl ?_
                  refine eb_iconst (pc := 1) (n := 1) (v := 1) rfl rfl ?_
                  refine eb_icmp_ge (pc := 2) (tgt := 9) rfl (by decide) (fun c => absurd c (by decide)) (fun c => ?_)
                  refine eb_iconst (pc := 5) (n := 0) (v := 0) rfl rfl ?_
                  refine eb_goto (pc := 6) (tgt := 14) rfl (by decide) ?_
                  refine eb_ireturn (pc := 14) rfl rfl rfl ?_
                  change eb_Sn _ _ _ 95 _ [.int 0, .int (eb_I h18 a1 1)] _ _
                  refine eb_iand (pc := 95) rfl ?_
                  refine eb_if_ne (pc := 96) (tgt := 103) rfl (by decide) (fun c23 => ?_) (fun c23 => ?_)
                  · refine eb_iconst (pc := 103) (n := 0) (v := 0) rfl rfl ?_
                    exact jj24 0 (eb_qf (fun z => c23 z.2)).symm
                  · refine eb_iconst (pc := 99) (n := 1) (v := 1) rfl rfl ?_
                    refine eb_goto (pc := 100) (tgt := 104) rfl (by decide) ?_
                    exact jj24 1 (eb_qt (⟨c22, c23⟩)).symm
              · replace w := w.2 c21
                refine eb_bipush (pc := 77) (n := -4) (v := (-4)) rfl rfl ?_
                exact eb_ireturn (pc := 79) rfl rfl rfl w
            · replace w := w.2 c9
              refine eb_iload_n (pc := 4) (n := 1) (i := 1) rfl rfl rfl ?_
              refine eb_aload_n (pc := 5) (n := 0) (i := 0) rfl rfl rfl ?_
              obtain ⟨r10, q11, k12, w⟩ := w
              refine eb_getR (pc := 6) rfl ka1 (by decide) (by decide) rfl q11 ?_
              refine eb_alen (pc := 9) rfl (by rw [k12]; decide) (by rw [k12]; decide) rfl ?_
              refine eb_icmp_ge (pc := 10) (tgt := 22) rfl (by decide) (fun c13 => ?_) (fun c13 => ?_)
              · replace w := w.1 c13
                refine eb_iconst (pc := 22) (n := 0) (v := 0) rfl rfl ?_
                refine eb_ireturn (pc := 23) rfl rfl rfl ?_
                change eb_Sn _ _ _ 45 _ [.int 0] _ _
                refine eb_istore (pc := 45) (i := 4) (ls2 := [(4, .int 0), (3, .int y4), (0, .ref a0), (1, .ref a1), (2, .int x2)]) (Nat.le_of_ble_eq_true rfl) rfl rfl ?_
                refine eb_aload_n (pc := 47) (n := 0) (i := 0) rfl rfl rfl ?_
                refine eb_aload_n (pc := 48) (n := 1) (i := 1) rfl rfl rfl ?_
                refine eb_getI (pc := 49) rfl ka1 (by decide) (by decide) rfl ?_
                refine eb_iload_n (pc := 52) (n := 3) (i := 3) rfl rfl rfl ?_
                refine eb_aload_n (pc := 53) (n := 1) (i := 1) rfl rfl rfl ?_
                refine eb_getI (pc := 54) rfl ka1 (by decide) (by decide) rfl ?_
                refine eb_ctS (pc := 57) (As := [.int (eb_I h3 a1 1)]) (rest := [.int y4, .int (eb_I h3 a1 0), .ref a0]) rfl (by decide) (by decide) rfl rfl (Nat.le_of_ble_eq_true rfl) ?_
                refine eb_Ct.mono w ?_
                rintro r h27 ⟨y28, rfl, ko29, w⟩
                change eb_Sn _ _ _ 60 _ [.int y28, .int y4, .int (eb_I h3 a1 0), .ref a0] _ _
                refine eb_aload_n (pc := 60) (n := 1) (i := 1) rfl rfl rfl ?_
                refine eb_getI (pc := 61) rfl ka1 (by decide) (by decide) rfl ?_
                refine eb_iload (pc := 64) (i := 4) rfl rfl ?_
                refine eb_ctV (pc := 66) (As := [.int (eb_I h3 a1 0), .int y4, .int y28, .int (eb_I h27 a1 4), .int 0]) (rest := []) rfl (by decide) rfl ka0 (by decide) rfl (Nat.le_of_ble_eq_true rfl) ?_
                refine eb_Ct.mono w ?_
                rintro r h30 ⟨y31, rfl, ko32, w⟩
                change eb_Sn _ _ _ 69 _ [.int y31] _ _
                refine eb_istore (pc := 69) (i := 5) (ls2 := [(5, .int y31), (4, .int 0), (3, .int y4), (0, .ref a0), (1, .ref a1), (2, .int x2)]) (Nat.le_of_ble_eq_true rfl) rfl rfl ?_
                refine eb_iload (pc := 71) (i := 5) rfl rfl ?_
                refine eb_iconst (pc := 73) (n := 1) (v := 1) rfl rfl ?_
                refine eb_icmp_ne (pc := 74) (tgt := 80) rfl (by decide) (fun c33 => ?_) (fun c33 => ?_)
                · replace w := w.1 c33
                  refine eb_iload (pc := 80) (i := 5) rfl rfl ?_
                  refine eb_iconst (pc := 82) (n := 3) (v := 3) rfl rfl ?_
                  refine eb_joinI (pc2 := 104) (ls2 := [(5, .int y31), (4, .int 0), (3, .int y4), (0, .ref a0), (1, .ref a1), (2, .int x2)]) (st2 := []) (v := eb_q ((y31 = (3 : Int32)) ∧ (((eb_I h30 a1 1) &&& 0) = 0))) ?_ (fun jj36 => ?_)
                  · refine eb_istore (pc := 104) (i := 6) (ls2 := [(6, .int (eb_q ((y31 = (3 : Int32)) ∧ (((eb_I h30 a1 1) &&& 0) = 0)))), (5, .int y31), (4, .int 0), (3, .int y4), (0, .ref a0), (1, .ref a1), (2, .int x2)]) (Nat.le_of_ble_eq_true rfl) rfl rfl ?_
                    refine eb_iload (pc := 106) (i := 6) rfl rfl ?_
                    refine eb_if_eq (pc := 108) (tgt := 116) rfl (by decide) (fun c38 => ?_) (fun c38 => ?_)
                    · replace c38 := eb_q0.mp c38
                      replace w := w.1 c38
                      refine eb_iconst (pc := 116) (n := 0) (v := 0) rfl rfl ?_
                      exact eb_ireturn (pc := 117) rfl rfl rfl w
                    · replace c38 := eb_q1.mp c38
                      replace w := w.2 c38
                      refine eb_iload (pc := 111) (i := 4) rfl rfl ?_
                      refine eb_goto (pc := 113) (tgt := 117) rfl (by decide) ?_
                      exact eb_ireturn (pc := 117) rfl rfl rfl w
                  refine eb_icmp_ne (pc := 83) (tgt := 103) rfl (by decide) (fun c34 => ?_) (fun c34 => ?_)
                  · refine eb_iconst (pc := 103) (n := 0) (v := 0) rfl rfl ?_
                    exact jj36 0 (eb_qf (fun z => c34 z.1)).symm
                  · refine eb_aload_n (pc := 86) (n := 1) (i := 1) rfl rfl rfl ?_
                    refine eb_getI (pc := 87) rfl ka1 (by decide) (by decide) rfl ?_
                    refine eb_iload (pc := 90) (i := 4) rfl rfl ?_
                    refine eb_ctS (pc := 92) (As := [.int 0]) (rest := [.int (eb_I h30 a1 1)]) rfl (by decide) (by decide) rfl rfl (Nat.le_of_ble_eq_true rfl) ?_
                    refine eb_bodyQ (by decide) ok_X10_bitOf (Nat.le_of_ble_eq_true rfl) ?_
                    change eb_Sn _ m_X10_bitOf _ 0 [(0, .int 0)] [] _ _
                    refine eb_iload_n (pc := 0) (n := 0) (i := 0) rfl rfl rfl ?_
                    refine eb_iconst (pc := 1) (n := 1) (v := 1) rfl rfl ?_
                    refine eb_icmp_ge (pc := 2) (tgt := 9) rfl (by decide) (fun c => absurd c (by decide)) (fun c => ?_)
                    refine eb_iconst (pc := 5) (n := 0) (v := 0) rfl rfl ?_
                    refine eb_goto (pc := 6) (tgt := 14) rfl (by decide) ?_
                    refine eb_ireturn (pc := 14) rfl rfl rfl ?_
                    change eb_Sn _ _ _ 95 _ [.int 0, .int (eb_I h30 a1 1)] _ _
                    refine eb_iand (pc := 95) rfl ?_
                    refine eb_if_ne (pc := 96) (tgt := 103) rfl (by decide) (fun c35 => ?_) (fun c35 => ?_)
                    · refine eb_iconst (pc := 103) (n := 0) (v := 0) rfl rfl ?_
                      exact jj36 0 (eb_qf (fun z => c35 z.2)).symm
                    · refine eb_iconst (pc := 99) (n := 1) (v := 1) rfl rfl ?_
                      refine eb_goto (pc := 100) (tgt := 104) rfl (by decide) ?_
                      exact jj36 1 (eb_qt (⟨c34, c35⟩)).symm
                · replace w := w.2 c33
                  refine eb_bipush (pc := 77) (n := -4) (v := (-4)) rfl rfl ?_
                  exact eb_ireturn (pc := 79) rfl rfl rfl w
              · replace w := w.2 c13
                refine eb_aload_n (pc := 13) (n := 0) (i := 0) rfl rfl rfl ?_
                refine eb_getR (pc := 14) rfl ka1 (by decide) (by decide) rfl q11 ?_
                refine eb_iload_n (pc := 17) (n := 1) (i := 1) rfl rfl rfl ?_
                obtain ⟨c14, w⟩ := w
                refine eb_iaload (pc := 18) rfl k12 (by decide) c14 ?_
                refine eb_goto (pc := 19) (tgt := 23) rfl (by decide) ?_
                refine eb_ireturn (pc := 23) rfl rfl rfl ?_
                change eb_Sn _ _ _ 45 _ [.int (eb_I h3 r10 y4.toNatClampNeg)] _ _
                refine eb_istore (pc := 45) (i := 4) (ls2 := [(4, .int (eb_I h3 r10 y4.toNatClampNeg)), (3, .int y4), (0, .ref a0), (1, .ref a1), (2, .int x2)]) (Nat.le_of_ble_eq_true rfl) rfl rfl ?_
                refine eb_aload_n (pc := 47) (n := 0) (i := 0) rfl rfl rfl ?_
                refine eb_aload_n (pc := 48) (n := 1) (i := 1) rfl rfl rfl ?_
                refine eb_getI (pc := 49) rfl ka1 (by decide) (by decide) rfl ?_
                refine eb_iload_n (pc := 52) (n := 3) (i := 3) rfl rfl rfl ?_
                refine eb_aload_n (pc := 53) (n := 1) (i := 1) rfl rfl rfl ?_
                refine eb_getI (pc := 54) rfl ka1 (by decide) (by decide) rfl ?_
                refine eb_ctS (pc := 57) (As := [.int (eb_I h3 a1 1)]) (rest := [.int y4, .int (eb_I h3 a1 0), .ref a0]) rfl (by decide) (by decide) rfl rfl (Nat.le_of_ble_eq_true rfl) ?_
                refine eb_Ct.mono w ?_
                rintro r h39 ⟨y40, rfl, ko41, w⟩
                change eb_Sn _ _ _ 60 _ [.int y40, .int y4, .int (eb_I h3 a1 0), .ref a0] _ _
                refine eb_aload_n (pc := 60) (n := 1) (i := 1) rfl rfl rfl ?_
                refine eb_getI (pc := 61) rfl ka1 (by decide) (by decide) rfl ?_
                refine eb_iload (pc := 64) (i := 4) rfl rfl ?_
                refine eb_ctV (pc := 66) (As := [.int (eb_I h3 a1 0), .int y4, .int y40, .int (eb_I h39 a1 4), .int (eb_I h3 r10 y4.toNatClampNeg)]) (rest := []) rfl (by decide) rfl ka0 (by decide) rfl (Nat.le_of_ble_eq_true rfl) ?_
                refine eb_Ct.mono w ?_
                rintro r h42 ⟨y43, rfl, ko44, w⟩
                change eb_Sn _ _ _ 69 _ [.int y43] _ _
                refine eb_istore (pc := 69) (i := 5) (ls2 := [(5, .int y43), (4, .int (eb_I h3 r10 y4.toNatClampNeg)), (3, .int y4), (0, .ref a0), (1, .ref a1), (2, .int x2)]) (Nat.le_of_ble_eq_true rfl) rfl rfl ?_
                refine eb_iload (pc := 71) (i := 5) rfl rfl ?_
                refine eb_iconst (pc := 73) (n := 1) (v := 1) rfl rfl ?_
                refine eb_icmp_ne (pc := 74) (tgt := 80) rfl (by decide) (fun c45 => ?_) (fun c45 => ?_)
                · replace w := w.1 c45
                  refine eb_iload (pc := 80) (i := 5) rfl rfl ?_
                  refine eb_iconst (pc := 82) (n := 3) (v := 3) rfl rfl ?_
                  refine eb_icmp_ne (pc := 83) (tgt := 103) rfl (by decide) (fun c46 => ?_) (fun c46 => ?_)
                  · replace w := w.1 c46
                    refine eb_iconst (pc := 103) (n := 0) (v := 0) rfl rfl ?_
                    refine eb_istore (pc := 104) (i := 6) (ls2 := [(6, .int 0), (5, .int y43), (4, .int (eb_I h3 r10 y4.toNatClampNeg)), (3, .int y4), (0, .ref a0), (1, .ref a1), (2, .int x2)]) (Nat.le_of_ble_eq_true rfl) rfl rfl ?_
                    refine eb_iload (pc := 106) (i := 6) rfl rfl ?_
                    refine eb_if_eq (pc := 108) (tgt := 116) rfl (by decide) (fun c => ?_) (fun c => absurd c (by decide))
                    refine eb_iconst (pc := 116) (n := 0) (v := 0) rfl rfl ?_
                    exact eb_ireturn (pc := 117) rfl rfl rfl w
                  · replace w := w.2 c46
                    refine eb_aload_n (pc := 86) (n := 1) (i := 1) rfl rfl rfl ?_
                    refine eb_getI (pc := 87) rfl ka1 (by decide) (by decide) rfl ?_
                    refine eb_iload (pc := 90) (i := 4) rfl rfl ?_
                    refine eb_ctS (pc := 92) (As := [.int (eb_I h3 r10 y4.toNatClampNeg)]) (rest := [.int (eb_I h42 a1 1)]) rfl (by decide) (by decide) rfl rfl (Nat.le_of_ble_eq_true rfl) ?_
                    refine eb_bodyQ (by decide) ok_X10_bitOf (Nat.le_of_ble_eq_true rfl) ?_
                    change eb_Sn _ m_X10_bitOf _ 0 [(0, .int (eb_I h3 r10 y4.toNatClampNeg))] [] _ _
                    refine eb_iload_n (pc := 0) (n := 0) (i := 0) rfl rfl rfl ?_
                    refine eb_iconst (pc := 1) (n := 1) (v := 1) rfl rfl ?_
                    refine eb_joinI (pc2 := 14) (ls2 := [(0, .int (eb_I h3 r10 y4.toNatClampNeg))]) (st2 := []) (v := (if (1 : Int32) ≤ (eb_I h3 r10 y4.toNatClampNeg) then (1 : Int32) <<< (((eb_I h3 r10 y4.toNatClampNeg) - 1) &&& 31) else 0 : Int32)) ?_ (fun jj48 => ?_)
                    · refine eb_ireturn (pc := 14) rfl rfl rfl ?_
                      change eb_Sn _ _ _ 95 _ [.int (if (1 : Int32) ≤ (eb_I h3 r10 y4.toNatClampNeg) then (1 : Int32) <<< (((eb_I h3 r10 y4.toNatClampNeg) - 1) &&& 31) else 0 : Int32), .int (eb_I h42 a1 1)] _ _
                      refine eb_iand (pc := 95) rfl ?_
                      refine eb_joinI (pc2 := 104) (ls2 := [(5, .int y43), (4, .int (eb_I h3 r10 y4.toNatClampNeg)), (3, .int y4), (0, .ref a0), (1, .ref a1), (2, .int x2)]) (st2 := []) (v := eb_q (((eb_I h42 a1 1) &&& (if (1 : Int32) ≤ (eb_I h3 r10 y4.toNatClampNeg) then (1 : Int32) <<< (((eb_I h3 r10 y4.toNatClampNeg) - 1) &&& 31) else 0 : Int32)) = 0)) ?_ (fun jj51 => ?_)
                      · refine eb_istore (pc := 104) (i := 6) (ls2 := [(6, .int (eb_q (((eb_I h42 a1 1) &&& (if (1 : Int32) ≤ (eb_I h3 r10 y4.toNatClampNeg) then (1 : Int32) <<< (((eb_I h3 r10 y4.toNatClampNeg) - 1) &&& 31) else 0 : Int32)) = 0))), (5, .int y43), (4, .int (eb_I h3 r10 y4.toNatClampNeg)), (3, .int y4), (0, .ref a0), (1, .ref a1), (2, .int x2)]) (Nat.le_of_ble_eq_true rfl) rfl rfl ?_
                        refine eb_iload (pc := 106) (i := 6) rfl rfl ?_
                        refine eb_joinI (pc2 := 117) (ls2 := [(6, .int (eb_q (((eb_I h42 a1 1) &&& (if (1 : Int32) ≤ (eb_I h3 r10 y4.toNatClampNeg) then (1 : Int32) <<< (((eb_I h3 r10 y4.toNatClampNeg) - 1) &&& 31) else 0 : Int32)) = 0))), (5, .int y43), (4, .int (eb_I h3 r10 y4.toNatClampNeg)), (3, .int y4), (0, .ref a0), (1, .ref a1), (2, .int x2)]) (st2 := []) (v := (if ((eb_I h42 a1 1) &&& (if (1 : Int32) ≤ (eb_I h3 r10 y4.toNatClampNeg) then (1 : Int32) <<< (((eb_I h3 r10 y4.toNatClampNeg) - 1) &&& 31) else 0 : Int32)) = 0 then eb_I h3 r10 y4.toNatClampNeg else 0 : Int32)) ?_ (fun jj54 => ?_)
                        · exact eb_ireturn (pc := 117) rfl rfl rfl w
                        refine eb_if_eq (pc := 108) (tgt := 116) rfl (by decide) (fun c53 => ?_) (fun c53 => ?_)
                        · replace c53 := eb_q0.mp c53
                          refine eb_iconst (pc := 116) (n := 0) (v := 0) rfl rfl ?_
                          exact jj54 _ (by simp only [if_neg c53])
                        · replace c53 := eb_q1.mp c53
                          refine eb_iload (pc := 111) (i := 4) rfl rfl ?_
                          refine eb_goto (pc := 113) (tgt := 117) rfl (by decide) ?_
                          exact jj54 _ (by simp only [if_pos c53])
                      refine eb_if_ne (pc := 96) (tgt := 103) rfl (by decide) (fun c50 => ?_) (fun c50 => ?_)
                      · refine eb_iconst (pc := 103) (n := 0) (v := 0) rfl rfl ?_
                        exact jj51 0 (eb_qf c50).symm
                      · refine eb_iconst (pc := 99) (n := 1) (v := 1) rfl rfl ?_
                        refine eb_goto (pc := 100) (tgt := 104) rfl (by decide) ?_
                        exact jj51 1 (eb_qt c50).symm
                    refine eb_icmp_ge (pc := 2) (tgt := 9) rfl (by decide) (fun c47 => ?_) (fun c47 => ?_)
                    · refine eb_iconst (pc := 9) (n := 1) (v := 1) rfl rfl ?_
                      refine eb_iload_n (pc := 10) (n := 0) (i := 0) rfl rfl rfl ?_
                      refine eb_iconst (pc := 11) (n := 1) (v := 1) rfl rfl ?_
                      refine eb_isub (pc := 12) rfl ?_
                      refine eb_ishl (pc := 13) rfl ?_
                      exact jj48 _ (by simp only [if_pos c47])
                    · refine eb_iconst (pc := 5) (n := 0) (v := 0) rfl rfl ?_
                      refine eb_goto (pc := 6) (tgt := 14) rfl (by decide) ?_
                      exact jj48 _ (by simp only [if_neg c47])
                · replace w := w.2 c45
                  refine eb_bipush (pc := 77) (n := -4) (v := (-4)) rfl rfl ?_
                  exact eb_ireturn (pc := 79) rfl rfl rfl w
          · replace c8 := eb_q1.mp c8
            replace w := w.2 c8
            refine eb_bipush (pc := 37) (n := -3) (v := (-3)) rfl rfl ?_
            exact eb_ireturn (pc := 39) rfl rfl rfl w
        refine eb_ctV (pc := 31) (As := [.int y4]) (rest := []) rfl (by decide) rfl ka1 (by decide) rfl (Nat.le_of_ble_eq_true rfl) ?_
        refine eb_bodyQ (by decide) ok_X6_hasDrift (Nat.le_of_ble_eq_true rfl) ?_
        change eb_Sn _ m_X6_hasDrift _ 0 [(0, .ref a1), (1, .int y4)] [] _ _
        refine eb_aload_n (pc := 0) (n := 0) (i := 0) rfl rfl rfl ?_
        refine eb_getI (pc := 1) rfl ka1 (by decide) (by decide) rfl ?_
        refine eb_iload_n (pc := 4) (n := 1) (i := 1) rfl rfl rfl ?_
        refine eb_ishr (pc := 5) rfl ?_
        refine eb_iconst (pc := 6) (n := 1) (v := 1) rfl rfl ?_
        refine eb_iand (pc := 7) rfl ?_
        refine eb_iconst (pc := 8) (n := 1) (v := 1) rfl rfl ?_
        refine eb_icmp_ne (pc := 9) (tgt := 16) rfl (by decide) (fun c7 => ?_) (fun c7 => ?_)
        · refine eb_iconst (pc := 16) (n := 0) (v := 0) rfl rfl ?_
          refine eb_ireturn (pc := 17) rfl rfl (by decide) ?_
          change eb_Sn _ _ _ 34 _ _ _ _
          exact jj56 0 (eb_qf c7).symm
        · refine eb_iconst (pc := 12) (n := 1) (v := 1) rfl rfl ?_
          refine eb_goto (pc := 13) (tgt := 17) rfl (by decide) ?_
          refine eb_ireturn (pc := 17) rfl rfl (by decide) ?_
          change eb_Sn _ _ _ 34 _ _ _ _
          exact jj56 1 (eb_qt c7).symm
      · replace w := w.2 c6
        refine eb_bipush (pc := 26) (n := -2) (v := (-2)) rfl rfl ?_
        exact eb_ireturn (pc := 28) rfl rfl rfl w
    · replace w := w.2 c2
      refine eb_iconst (pc := 9) (n := -1) (v := (-1)) rfl rfl ?_
      exact eb_ireturn (pc := 10) rfl rfl rfl w
theorem T_X9_stepOutcome {d : Nat} {h : eb_H} {Q : Option Value → eb_H → Prop} (a0 : Nat) (a1 : Nat) (x2 : Int32) (ka0 : eb_kd a0 = 9) (ka1 : eb_kd a1 = 6) (ko : eb_KO h) (w : ((x2 < 0 → Q (some (.int (-1))) h) ∧ (¬ (x2 < 0) → ((x2 < (4 : Int32) → eb_Ct d 87 [.ref a0, .int (eb_I h a1 0), .int x2] h (fun r h3 => ∃ y4, r = some (.int y4) ∧ eb_KO h3 ∧ ((¬ y4 = ((-1) : Int32) → ((¬ ((((eb_I h3 a1 3) >>> (y4 &&& 31)) &&& 1) = (1 : Int32)) → ((y4 < 0 → eb_Ct d 283 [.int (eb_I h3 a1 1)] h3 (fun r h15 => ∃ y16, r = some (.int y16) ∧ eb_KO h15 ∧ eb_Ct d 88 [.ref a0, .int (eb_I h3 a1 0), .int y4, .int y16, .int (eb_I h15 a1 4), .int 0] h15 (fun r h18 => ∃ y19, r = some (.int y19) ∧ eb_KO h18 ∧ ((¬ y19 = (1 : Int32) → ((¬ ((y19 = (3 : Int32)) ∧ (((eb_I h18 a1 1) &&& 0) = 0)) → Q (some (.int 0)) h18) ∧ ((y19 = (3 : Int32)) ∧ (((eb_I h18 a1 1) &&& 0) = 0) → Q (some (.int 0)) h18))) ∧ (y19 = (1 : Int32) → Q (some (.int (-4))) h18))))) ∧ (¬ (y4 < 0) → ∃ r10, eb_R h3 a1 5 = some r10 ∧ eb_kd r10 = 13 ∧ (((Int32.ofNat (eb_ln r10)) ≤ y4 → eb_Ct d 283 [.int (eb_I h3 a1 1)] h3 (fun r h27 => ∃ y28, r = some (.int y28) ∧ eb_KO h27 ∧ eb_Ct d 88 [.ref a0, .int (eb_I h3 a1 0), .int y4, .int y28, .int (eb_I h27 a1 4), .int 0] h27 (fun r h30 => ∃ y31, r = some (.int y31) ∧ eb_KO h30 ∧ ((¬ y31 = (1 : Int32) → ((¬ ((y31 = (3 : Int32)) ∧ (((eb_I h30 a1 1) &&& 0) = 0)) → Q (some (.int 0)) h30) ∧ ((y31 = (3 : Int32)) ∧ (((eb_I h30 a1 1) &&& 0) = 0) → Q (some (.int 0)) h30))) ∧ (y31 = (1 : Int32) → Q (some (.int (-4))) h30))))) ∧ (¬ ((Int32.ofNat (eb_ln r10)) ≤ y4) → (vp_in y4 (eb_ln r10)) ∧ eb_Ct d 283 [.int (eb_I h3 a1 1)] h3 (fun r h39 => ∃ y40, r = some (.int y40) ∧ eb_KO h39 ∧ eb_Ct d 88 [.ref a0, .int (eb_I h3 a1 0), .int y4, .int y40, .int (eb_I h39 a1 4), .int (eb_I h3 r10 y4.toNatClampNeg)] h39 (fun r h42 => ∃ y43, r = some (.int y43) ∧ eb_KO h42 ∧ ((¬ y43 = (1 : Int32) → ((¬ y43 = (3 : Int32) → Q (some (.int 0)) h42) ∧ (y43 = (3 : Int32) → Q (some (.int (if ((eb_I h42 a1 1) &&& (if (1 : Int32) ≤ (eb_I h3 r10 y4.toNatClampNeg) then (1 : Int32) <<< (((eb_I h3 r10 y4.toNatClampNeg) - 1) &&& 31) else 0 : Int32)) = 0 then eb_I h3 r10 y4.toNatClampNeg else 0 : Int32))) h42))) ∧ (y43 = (1 : Int32) → Q (some (.int (-4))) h42))))))))) ∧ ((((eb_I h3 a1 3) >>> (y4 &&& 31)) &&& 1) = (1 : Int32) → Q (some (.int (-3))) h3))) ∧ (y4 = ((-1) : Int32) → Q (some (.int (-2))) h3)))) ∧ (¬ (x2 < (4 : Int32)) → Q (some (.int (-1))) h))))) : eb_Ct (d + 1) 89 [.ref a0, .ref a1, .int x2] h Q :=
  eb_bodyQ (by decide) ok_X9_stepOutcome (Nat.le_of_ble_eq_true rfl) (b_X9_stepOutcome_0 (h0 := h) a0 a1 x2 ka0 ka1 ko w)
theorem b_X9_makeStep_0 {d : Nat} {h0 h : eb_H} {Q : Option Value → eb_H → Prop} (a0 : Nat) (a1 : Nat) (x2 : Int32) (ka0 : eb_kd a0 = 9) (ka1 : eb_kd a1 = 6) (ko : eb_KO h) (w : eb_Ct d 89 [.ref a0, .ref a1, .int x2] h (fun r h1 => ∃ y2, r = some (.int y2) ∧ eb_KO h1 ∧ ((0 ≤ y2 → eb_Ct d 87 [.ref a0, .int (eb_I (eb_sI h1 a1 1 ((eb_I h1 a1 1) ||| (if (1 : Int32) ≤ y2 then (1 : Int32) <<< ((y2 - 1) &&& 31) else 0 : Int32))) a1 0), .int x2] (eb_sI h1 a1 1 ((eb_I h1 a1 1) ||| (if (1 : Int32) ≤ y2 then (1 : Int32) <<< ((y2 - 1) &&& 31) else 0 : Int32))) (fun r h8 => ∃ y9, r = some (.int y9) ∧ eb_KO h8 ∧ Q (some (.int y2)) (eb_sI (eb_sI h8 a1 0 y9) a1 2 ((eb_I (eb_sI h8 a1 0 y9) a1 2) + 1)))) ∧ (¬ (0 ≤ y2) → Q (some (.int y2)) h1)))) : eb_Sn (d + 1) m_X9_makeStep h0 0 [(0, .ref a0), (1, .ref a1), (2, .int x2)] [] h Q := by
  refine eb_aload_n (pc := 0) (n := 0) (i := 0) rfl rfl rfl ?_
  refine eb_aload_n (pc := 1) (n := 1) (i := 1) rfl rfl rfl ?_
  refine eb_iload_n (pc := 2) (n := 2) (i := 2) rfl rfl rfl ?_
  refine eb_ctV (pc := 3) (As := [.ref a1, .int x2]) (rest := []) rfl (by decide) rfl ka0 (by decide) rfl (Nat.le_of_ble_eq_true rfl) ?_
  refine eb_Ct.mono w ?_
  rintro r h1 ⟨y2, rfl, ko3, w⟩
  change eb_Sn _ _ _ 6 _ [.int y2] _ _
  refine eb_istore_n (pc := 6) (n := 3) (i := 3) (ls2 := [(3, .int y2), (0, .ref a0), (1, .ref a1), (2, .int x2)]) rfl (Nat.le_of_ble_eq_true rfl) rfl rfl ?_
  refine eb_iload_n (pc := 7) (n := 3) (i := 3) rfl rfl rfl ?_
  refine eb_if_ge (pc := 8) (tgt := 13) rfl (by decide) (fun c4 => ?_) (fun c4 => ?_)
  · replace w := w.1 c4
    refine eb_aload_n (pc := 13) (n := 1) (i := 1) rfl rfl rfl ?_
    refine eb_dupr (pc := 14) rfl ?_
    refine eb_getI (pc := 15) rfl ka1 (by decide) (by decide) rfl ?_
    refine eb_iload_n (pc := 18) (n := 3) (i := 3) rfl rfl rfl ?_
    refine eb_ctS (pc := 19) (As := [.int y2]) (rest := [.int (eb_I h1 a1 1), .ref a1]) rfl (by decide) (by decide) rfl rfl (Nat.le_of_ble_eq_true rfl) ?_
    refine eb_bodyQ (by decide) ok_X10_bitOf (Nat.le_of_ble_eq_true rfl) ?_
    change eb_Sn _ m_X10_bitOf _ 0 [(0, .int y2)] [] _ _
    refine eb_iload_n (pc := 0) (n := 0) (i := 0) rfl rfl rfl ?_
    refine eb_iconst (pc := 1) (n := 1) (v := 1) rfl rfl ?_
    refine eb_joinI (pc2 := 14) (ls2 := [(0, .int y2)]) (st2 := []) (v := (if (1 : Int32) ≤ y2 then (1 : Int32) <<< ((y2 - 1) &&& 31) else 0 : Int32)) ?_ (fun jj6 => ?_)
    · refine eb_ireturn (pc := 14) rfl rfl rfl ?_
      change eb_Sn _ _ _ 22 _ [.int (if (1 : Int32) ≤ y2 then (1 : Int32) <<< ((y2 - 1) &&& 31) else 0 : Int32), .int (eb_I h1 a1 1), .ref a1] _ _
      refine eb_ior (pc := 22) rfl ?_
      refine eb_putI (pc := 23) rfl ka1 (by decide) (by decide) rfl rfl ⟨rfl, rfl⟩ ?_
      refine eb_aload_n (pc := 26) (n := 1) (i := 1) rfl rfl rfl ?_
      refine eb_aload_n (pc := 27) (n := 0) (i := 0) rfl rfl rfl ?_
      refine eb_aload_n (pc := 28) (n := 1) (i := 1) rfl rfl rfl ?_
      refine eb_getI (pc := 29) rfl ka1 (by decide) (by decide) rfl ?_
      refine eb_iload_n (pc := 32) (n := 2) (i := 2) rfl rfl rfl ?_
      refine eb_ctV (pc := 33) (As := [.int (eb_I (eb_sI h1 a1 1 ((eb_I h1 a1 1) ||| (if (1 : Int32) ≤ y2 then (1 : Int32) <<< ((y2 - 1) &&& 31) else 0 : Int32))) a1 0), .int x2]) (rest := [.ref a1]) rfl (by decide) rfl ka0 (by decide) rfl (Nat.le_of_ble_eq_true rfl) ?_
      refine eb_Ct.mono w ?_
      rintro r h8 ⟨y9, rfl, ko10, w⟩
      change eb_Sn _ _ _ 36 _ [.int y9, .ref a1] _ _
      refine eb_putI (pc := 36) rfl ka1 (by decide) (by decide) rfl rfl ⟨rfl, rfl⟩ ?_
      refine eb_aload_n (pc := 39) (n := 1) (i := 1) rfl rfl rfl ?_
      refine eb_dupr (pc := 40) rfl ?_
      refine eb_getI (pc := 41) rfl ka1 (by decide) (by decide) rfl ?_
      refine eb_iconst (pc := 44) (n := 1) (v := 1) rfl rfl ?_
      refine eb_iadd (pc := 45) rfl ?_
      refine eb_putI (pc := 46) rfl ka1 (by decide) (by decide) rfl rfl ⟨rfl, rfl⟩ ?_
      refine eb_iload_n (pc := 49) (n := 3) (i := 3) rfl rfl rfl ?_
      exact eb_ireturn (pc := 50) rfl rfl rfl w
    refine eb_icmp_ge (pc := 2) (tgt := 9) rfl (by decide) (fun c5 => ?_) (fun c5 => ?_)
    · refine eb_iconst (pc := 9) (n := 1) (v := 1) rfl rfl ?_
      refine eb_iload_n (pc := 10) (n := 0) (i := 0) rfl rfl rfl ?_
      refine eb_iconst (pc := 11) (n := 1) (v := 1) rfl rfl ?_
      refine eb_isub (pc := 12) rfl ?_
      refine eb_ishl (pc := 13) rfl ?_
      exact jj6 _ (by simp only [if_pos c5])
    · refine eb_iconst (pc := 5) (n := 0) (v := 0) rfl rfl ?_
      refine eb_goto (pc := 6) (tgt := 14) rfl (by decide) ?_
      exact jj6 _ (by simp only [if_neg c5])
  · replace w := w.2 c4
    refine eb_iload_n (pc := 11) (n := 3) (i := 3) rfl rfl rfl ?_
    exact eb_ireturn (pc := 12) rfl rfl rfl w
theorem T_X9_makeStep {d : Nat} {h : eb_H} {Q : Option Value → eb_H → Prop} (a0 : Nat) (a1 : Nat) (x2 : Int32) (ka0 : eb_kd a0 = 9) (ka1 : eb_kd a1 = 6) (ko : eb_KO h) (w : eb_Ct d 89 [.ref a0, .ref a1, .int x2] h (fun r h1 => ∃ y2, r = some (.int y2) ∧ eb_KO h1 ∧ ((0 ≤ y2 → eb_Ct d 87 [.ref a0, .int (eb_I (eb_sI h1 a1 1 ((eb_I h1 a1 1) ||| (if (1 : Int32) ≤ y2 then (1 : Int32) <<< ((y2 - 1) &&& 31) else 0 : Int32))) a1 0), .int x2] (eb_sI h1 a1 1 ((eb_I h1 a1 1) ||| (if (1 : Int32) ≤ y2 then (1 : Int32) <<< ((y2 - 1) &&& 31) else 0 : Int32))) (fun r h8 => ∃ y9, r = some (.int y9) ∧ eb_KO h8 ∧ Q (some (.int y2)) (eb_sI (eb_sI h8 a1 0 y9) a1 2 ((eb_I (eb_sI h8 a1 0 y9) a1 2) + 1)))) ∧ (¬ (0 ≤ y2) → Q (some (.int y2)) h1)))) : eb_Ct (d + 1) 90 [.ref a0, .ref a1, .int x2] h Q :=
  eb_bodyQ (by decide) ok_X9_makeStep (Nat.le_of_ble_eq_true rfl) (b_X9_makeStep_0 (h0 := h) a0 a1 x2 ka0 ka1 ko w)
theorem b_X9_doDeed_0 {d : Nat} {h0 h : eb_H} {Q : Option Value → eb_H → Prop} (a0 : Nat) (a1 : Nat) (x2 : Int64) (ka0 : eb_kd a0 = 9) (ka1 : eb_kd a1 = 6) (ko : eb_KO h) (w : ((x2 < 0 → ((x2 < 100 → ((x2 < 200 → ((x2 < 300 → ((x2 < 1000 → Q (some (.int 1)) h) ∧ (¬ (x2 < 1000) → ((x2 < 2000 → eb_Ct d 94 [.ref a0, .ref a1, .int ((x2.toInt32 - 1000) / 10), .int ((x2.toInt32 - 1000) - (x2.toInt32 - 1000) / 10 * 10)] h (fun r h7 => ∃ y8, r = some (.int y8) ∧ eb_KO h7 ∧ Q (some (.int y8)) h7)) ∧ (¬ (x2 < 2000) → Q (some (.int 1)) h))))) ∧ (¬ (x2 < 300) → ((309 < x2 → ((x2 < 1000 → Q (some (.int 1)) h) ∧ (¬ (x2 < 1000) → ((x2 < 2000 → eb_Ct d 94 [.ref a0, .ref a1, .int ((x2.toInt32 - 1000) / 10), .int ((x2.toInt32 - 1000) - (x2.toInt32 - 1000) / 10 * 10)] h (fun r h13 => ∃ y14, r = some (.int y14) ∧ eb_KO h13 ∧ Q (some (.int y14)) h13)) ∧ (¬ (x2 < 2000) → Q (some (.int 1)) h))))) ∧ (¬ (309 < x2) → Q (some (.int 0)) (eb_sI h a1 4 (x2.toInt32 - 300))))))) ∧ (¬ (x2 < 200) → ((300 ≤ x2 → ((x2 < 300 → ((x2 < 1000 → Q (some (.int 1)) h) ∧ (¬ (x2 < 1000) → ((x2 < 2000 → eb_Ct d 94 [.ref a0, .ref a1, .int ((x2.toInt32 - 1000) / 10), .int ((x2.toInt32 - 1000) - (x2.toInt32 - 1000) / 10 * 10)] h (fun r h20 => ∃ y21, r = some (.int y21) ∧ eb_KO h20 ∧ Q (some (.int y21)) h20)) ∧ (¬ (x2 < 2000) → Q (some (.int 1)) h))))) ∧ (¬ (x2 < 300) → ((309 < x2 → ((x2 < 1000 → Q (some (.int 1)) h) ∧ (¬ (x2 < 1000) → ((x2 < 2000 → eb_Ct d 94 [.ref a0, .ref a1, .int ((x2.toInt32 - 1000) / 10), .int ((x2.toInt32 - 1000) - (x2.toInt32 - 1000) / 10 * 10)] h (fun r h26 => ∃ y27, r = some (.int y27) ∧ eb_KO h26 ∧ Q (some (.int y27)) h26)) ∧ (¬ (x2 < 2000) → Q (some (.int 1)) h))))) ∧ (¬ (309 < x2) → Q (some (.int 0)) (eb_sI h a1 4 (x2.toInt32 - 300))))))) ∧ (¬ (300 ≤ x2) → eb_Ct d 93 [.ref a0, .ref a1, .int (x2.toInt32 - 200)] h (fun r h29 => ∃ y30, r = some (.int y30) ∧ eb_KO h29 ∧ Q (some (.int y30)) h29)))))) ∧ (¬ (x2 < 100) → ((200 ≤ x2 → ((x2 < 200 → ((x2 < 300 → ((x2 < 1000 → Q (some (.int 1)) h) ∧ (¬ (x2 < 1000) → ((x2 < 2000 → eb_Ct d 94 [.ref a0, .ref a1, .int ((x2.toInt32 - 1000) / 10), .int ((x2.toInt32 - 1000) - (x2.toInt32 - 1000) / 10 * 10)] h (fun r h37 => ∃ y38, r = some (.int y38) ∧ eb_KO h37 ∧ Q (some (.int y38)) h37)) ∧ (¬ (x2 < 2000) → Q (some (.int 1)) h))))) ∧ (¬ (x2 < 300) → ((309 < x2 → ((x2 < 1000 → Q (some (.int 1)) h) ∧ (¬ (x2 < 1000) → ((x2 < 2000 → eb_Ct d 94 [.ref a0, .ref a1, .int ((x2.toInt32 - 1000) / 10), .int ((x2.toInt32 - 1000) - (x2.toInt32 - 1000) / 10 * 10)] h (fun r h43 => ∃ y44, r = some (.int y44) ∧ eb_KO h43 ∧ Q (some (.int y44)) h43)) ∧ (¬ (x2 < 2000) → Q (some (.int 1)) h))))) ∧ (¬ (309 < x2) → Q (some (.int 0)) (eb_sI h a1 4 (x2.toInt32 - 300))))))) ∧ (¬ (x2 < 200) → ((300 ≤ x2 → ((x2 < 300 → ((x2 < 1000 → Q (some (.int 1)) h) ∧ (¬ (x2 < 1000) → ((x2 < 2000 → eb_Ct d 94 [.ref a0, .ref a1, .int ((x2.toInt32 - 1000) / 10), .int ((x2.toInt32 - 1000) - (x2.toInt32 - 1000) / 10 * 10)] h (fun r h50 => ∃ y51, r = some (.int y51) ∧ eb_KO h50 ∧ Q (some (.int y51)) h50)) ∧ (¬ (x2 < 2000) → Q (some (.int 1)) h))))) ∧ (¬ (x2 < 300) → ((309 < x2 → ((x2 < 1000 → Q (some (.int 1)) h) ∧ (¬ (x2 < 1000) → ((x2 < 2000 → eb_Ct d 94 [.ref a0, .ref a1, .int ((x2.toInt32 - 1000) / 10), .int ((x2.toInt32 - 1000) - (x2.toInt32 - 1000) / 10 * 10)] h (fun r h56 => ∃ y57, r = some (.int y57) ∧ eb_KO h56 ∧ Q (some (.int y57)) h56)) ∧ (¬ (x2 < 2000) → Q (some (.int 1)) h))))) ∧ (¬ (309 < x2) → Q (some (.int 0)) (eb_sI h a1 4 (x2.toInt32 - 300))))))) ∧ (¬ (300 ≤ x2) → eb_Ct d 93 [.ref a0, .ref a1, .int (x2.toInt32 - 200)] h (fun r h59 => ∃ y60, r = some (.int y60) ∧ eb_KO h59 ∧ Q (some (.int y60)) h59)))))) ∧ (¬ (200 ≤ x2) → eb_Ct d 92 [.ref a0, .ref a1, .int (x2.toInt32 - 100)] h (fun r h62 => ∃ y63, r = some (.int y63) ∧ eb_KO h62 ∧ Q (some (.int y63)) h62)))))) ∧ (¬ (x2 < 0) → ((4 ≤ x2 → ((x2 < 100 → ((x2 < 200 → ((x2 < 300 → ((x2 < 1000 → Q (some (.int 1)) h) ∧ (¬ (x2 < 1000) → ((x2 < 2000 → eb_Ct d 94 [.ref a0, .ref a1, .int ((x2.toInt32 - 1000) / 10), .int ((x2.toInt32 - 1000) - (x2.toInt32 - 1000) / 10 * 10)] h (fun r h71 => ∃ y72, r = some (.int y72) ∧ eb_KO h71 ∧ Q (some (.int y72)) h71)) ∧ (¬ (x2 < 2000) → Q (some (.int 1)) h))))) ∧ (¬ (x2 < 300) → ((309 < x2 → ((x2 < 1000 → Q (some (.int 1)) h) ∧ (¬ (x2 < 1000) → ((x2 < 2000 → eb_Ct d 94 [.ref a0, .ref a1, .int ((x2.toInt32 - 1000) / 10), .int ((x2.toInt32 - 1000) - (x2.toInt32 - 1000) / 10 * 10)] h (fun r h77 => ∃ y78, r = some (.int y78) ∧ eb_KO h77 ∧ Q (some (.int y78)) h77)) ∧ (¬ (x2 < 2000) → Q (some (.int 1)) h))))) ∧ (¬ (309 < x2) → Q (some (.int 0)) (eb_sI h a1 4 (x2.toInt32 - 300))))))) ∧ (¬ (x2 < 200) → ((300 ≤ x2 → ((x2 < 300 → ((x2 < 1000 → Q (some (.int 1)) h) ∧ (¬ (x2 < 1000) → ((x2 < 2000 → eb_Ct d 94 [.ref a0, .ref a1, .int ((x2.toInt32 - 1000) / 10), .int ((x2.toInt32 - 1000) - (x2.toInt32 - 1000) / 10 * 10)] h (fun r h84 => ∃ y85, r = some (.int y85) ∧ eb_KO h84 ∧ Q (some (.int y85)) h84)) ∧ (¬ (x2 < 2000) → Q (some (.int 1)) h))))) ∧ (¬ (x2 < 300) → ((309 < x2 → ((x2 < 1000 → Q (some (.int 1)) h) ∧ (¬ (x2 < 1000) → ((x2 < 2000 → eb_Ct d 94 [.ref a0, .ref a1, .int ((x2.toInt32 - 1000) / 10), .int ((x2.toInt32 - 1000) - (x2.toInt32 - 1000) / 10 * 10)] h (fun r h90 => ∃ y91, r = some (.int y91) ∧ eb_KO h90 ∧ Q (some (.int y91)) h90)) ∧ (¬ (x2 < 2000) → Q (some (.int 1)) h))))) ∧ (¬ (309 < x2) → Q (some (.int 0)) (eb_sI h a1 4 (x2.toInt32 - 300))))))) ∧ (¬ (300 ≤ x2) → eb_Ct d 93 [.ref a0, .ref a1, .int (x2.toInt32 - 200)] h (fun r h93 => ∃ y94, r = some (.int y94) ∧ eb_KO h93 ∧ Q (some (.int y94)) h93)))))) ∧ (¬ (x2 < 100) → ((200 ≤ x2 → ((x2 < 200 → ((x2 < 300 → ((x2 < 1000 → Q (some (.int 1)) h) ∧ (¬ (x2 < 1000) → ((x2 < 2000 → eb_Ct d 94 [.ref a0, .ref a1, .int ((x2.toInt32 - 1000) / 10), .int ((x2.toInt32 - 1000) - (x2.toInt32 - 1000) / 10 * 10)] h (fun r h101 => ∃ y102, r = some (.int y102) ∧ eb_KO h101 ∧ Q (some (.int y102)) h101)) ∧ (¬ (x2 < 2000) → Q (some (.int 1)) h))))) ∧ (¬ (x2 < 300) → ((309 < x2 → ((x2 < 1000 → Q (some (.int 1)) h) ∧ (¬ (x2 < 1000) → ((x2 < 2000 → eb_Ct d 94 [.ref a0, .ref a1, .int ((x2.toInt32 - 1000) / 10), .int ((x2.toInt32 - 1000) - (x2.toInt32 - 1000) / 10 * 10)] h (fun r h107 => ∃ y108, r = some (.int y108) ∧ eb_KO h107 ∧ Q (some (.int y108)) h107)) ∧ (¬ (x2 < 2000) → Q (some (.int 1)) h))))) ∧ (¬ (309 < x2) → Q (some (.int 0)) (eb_sI h a1 4 (x2.toInt32 - 300))))))) ∧ (¬ (x2 < 200) → ((300 ≤ x2 → ((x2 < 300 → ((x2 < 1000 → Q (some (.int 1)) h) ∧ (¬ (x2 < 1000) → ((x2 < 2000 → eb_Ct d 94 [.ref a0, .ref a1, .int ((x2.toInt32 - 1000) / 10), .int ((x2.toInt32 - 1000) - (x2.toInt32 - 1000) / 10 * 10)] h (fun r h114 => ∃ y115, r = some (.int y115) ∧ eb_KO h114 ∧ Q (some (.int y115)) h114)) ∧ (¬ (x2 < 2000) → Q (some (.int 1)) h))))) ∧ (¬ (x2 < 300) → ((309 < x2 → ((x2 < 1000 → Q (some (.int 1)) h) ∧ (¬ (x2 < 1000) → ((x2 < 2000 → eb_Ct d 94 [.ref a0, .ref a1, .int ((x2.toInt32 - 1000) / 10), .int ((x2.toInt32 - 1000) - (x2.toInt32 - 1000) / 10 * 10)] h (fun r h120 => ∃ y121, r = some (.int y121) ∧ eb_KO h120 ∧ Q (some (.int y121)) h120)) ∧ (¬ (x2 < 2000) → Q (some (.int 1)) h))))) ∧ (¬ (309 < x2) → Q (some (.int 0)) (eb_sI h a1 4 (x2.toInt32 - 300))))))) ∧ (¬ (300 ≤ x2) → eb_Ct d 93 [.ref a0, .ref a1, .int (x2.toInt32 - 200)] h (fun r h123 => ∃ y124, r = some (.int y124) ∧ eb_KO h123 ∧ Q (some (.int y124)) h123)))))) ∧ (¬ (200 ≤ x2) → eb_Ct d 92 [.ref a0, .ref a1, .int (x2.toInt32 - 100)] h (fun r h126 => ∃ y127, r = some (.int y127) ∧ eb_KO h126 ∧ Q (some (.int y127)) h126)))))) ∧ (¬ (4 ≤ x2) → eb_Ct d 90 [.ref a0, .ref a1, .int x2.toInt32] h (fun r h129 => ∃ y130, r = some (.int y130) ∧ eb_KO h129 ∧ Q (some (.int (if (0 : Int32) < (-y130) then -y130 else 0 : Int32))) h129)))))) : eb_Sn (d + 1) m_X9_doDeed h0 0 [(0, .ref a0), (1, .ref a1), (2, .long x2)] [] h Q := by
  refine eb_lload_n (pc := 0) (n := 2) (i := 2) rfl rfl rfl ?_
  refine eb_lconst (pc := 1) (n := 0) (v := 0) rfl rfl ?_
  refine eb_lcmp (pc := 2) rfl ?_
  refine eb_if_lt (pc := 3) (tgt := 27) rfl (by decide) (fun c1 => ?_) (fun c1 => ?_)
  · replace c1 := eb_lc_lt.mp c1
    replace w := w.1 c1
    refine eb_lload_n (pc := 27) (n := 2) (i := 2) rfl rfl rfl ?_
    refine eb_ldc2 (pc := 28) (a := 100) (v := 100) rfl (by decide) ?_
    refine eb_lcmp (pc := 31) rfl ?_
    refine eb_if_lt (pc := 32) (tgt := 54) rfl (by decide) (fun c2 => ?_) (fun c2 => ?_)
    · replace c2 := eb_lc_lt.mp c2
      replace w := w.1 c2
      refine eb_lload_n (pc := 54) (n := 2) (i := 2) rfl rfl rfl ?_
      refine eb_ldc2 (pc := 55) (a := 200) (v := 200) rfl (by decide) ?_
      refine eb_lcmp (pc := 58) rfl ?_
      refine eb_if_lt (pc := 59) (tgt := 82) rfl (by decide) (fun c3 => ?_) (fun c3 => ?_)
      · replace c3 := eb_lc_lt.mp c3
        replace w := w.1 c3
        refine eb_lload_n (pc := 82) (n := 2) (i := 2) rfl rfl rfl ?_
        refine eb_ldc2 (pc := 83) (a := 300) (v := 300) rfl (by decide) ?_
        refine eb_lcmp (pc := 86) rfl ?_
        refine eb_if_lt (pc := 87) (tgt := 110) rfl (by decide) (fun c4 => ?_) (fun c4 => ?_)
        · replace c4 := eb_lc_lt.mp c4
          replace w := w.1 c4
          refine eb_lload_n (pc := 110) (n := 2) (i := 2) rfl rfl rfl ?_
          refine eb_ldc2 (pc := 111) (a := 1000) (v := 1000) rfl (by decide) ?_
          refine eb_lcmp (pc := 114) rfl ?_
          refine eb_if_lt (pc := 115) (tgt := 126) rfl (by decide) (fun c5 => ?_) (fun c5 => ?_)
          · replace c5 := eb_lc_lt.mp c5
            replace w := w.1 c5
            refine eb_iconst (pc := 126) (n := 1) (v := 1) rfl rfl ?_
            exact eb_ireturn (pc := 127) rfl rfl rfl w
          · replace c5 := (fun hh => mt eb_lc_lt.mpr hh) c5
            replace w := w.2 c5
            refine eb_lload_n (pc := 118) (n := 2) (i := 2) rfl rfl rfl ?_
            refine eb_ldc2 (pc := 119) (a := 2000) (v := 2000) rfl (by decide) ?_
            refine eb_lcmp (pc := 122) rfl ?_
            refine eb_if_lt (pc := 123) (tgt := 128) rfl (by decide) (fun c6 => ?_) (fun c6 => ?_)
            · replace c6 := eb_lc_lt.mp c6
              replace w := w.1 c6
              refine eb_lload_n (pc := 128) (n := 2) (i := 2) rfl rfl rfl ?_
              refine eb_l2i (pc := 129) rfl ?_
              refine eb_sipush (pc := 130) (n := 1000) (v := 1000) rfl rfl ?_
              refine eb_isub (pc := 133) rfl ?_
              refine eb_istore (pc := 134) (i := 4) (ls2 := [(4, .int (x2.toInt32 - 1000)), (0, .ref a0), (1, .ref a1), (2, .long x2)]) (Nat.le_of_ble_eq_true rfl) rfl rfl ?_
              refine eb_aload_n (pc := 136) (n := 0) (i := 0) rfl rfl rfl ?_
              refine eb_aload_n (pc := 137) (n := 1) (i := 1) rfl rfl rfl ?_
              refine eb_iload (pc := 138) (i := 4) rfl rfl ?_
              refine eb_bipush (pc := 140) (n := 10) (v := 10) rfl rfl ?_
              refine eb_idiv (pc := 142) (by decide) rfl ?_
              refine eb_iload (pc := 143) (i := 4) rfl rfl ?_
              refine eb_bipush (pc := 145) (n := 10) (v := 10) rfl rfl ?_
              refine eb_irem (pc := 147) (by decide) rfl ?_
              refine eb_ctV (pc := 148) (As := [.ref a1, .int ((x2.toInt32 - 1000) / 10), .int ((x2.toInt32 - 1000) - (x2.toInt32 - 1000) / 10 * 10)]) (rest := []) rfl (by decide) rfl ka0 (by decide) rfl (Nat.le_of_ble_eq_true rfl) ?_
              refine eb_Ct.mono w ?_
              rintro r h7 ⟨y8, rfl, ko9, w⟩
              change eb_Sn _ _ _ 151 _ [.int y8] _ _
              exact eb_ireturn (pc := 151) rfl rfl rfl w
            · replace c6 := (fun hh => mt eb_lc_lt.mpr hh) c6
              replace w := w.2 c6
              refine eb_iconst (pc := 126) (n := 1) (v := 1) rfl rfl ?_
              exact eb_ireturn (pc := 127) rfl rfl rfl w
        · replace c4 := (fun hh => mt eb_lc_lt.mpr hh) c4
          replace w := w.2 c4
          refine eb_lload_n (pc := 90) (n := 2) (i := 2) rfl rfl rfl ?_
          refine eb_ldc2 (pc := 91) (a := 309) (v := 309) rfl (by decide) ?_
          refine eb_lcmp (pc := 94) rfl ?_
          refine eb_if_gt (pc := 95) (tgt := 110) rfl (by decide) (fun c10 => ?_) (fun c10 => ?_)
          · replace c10 := eb_lc_gt.mp c10
            replace w := w.1 c10
            refine eb_lload_n (pc := 110) (n := 2) (i := 2) rfl rfl rfl ?_
            refine eb_ldc2 (pc := 111) (a := 1000) (v := 1000) rfl (by decide) ?_
            refine eb_lcmp (pc := 114) rfl ?_
            refine eb_if_lt (pc := 115) (tgt := 126) rfl (by decide) (fun c11 => ?_) (fun c11 => ?_)
            · replace c11 := eb_lc_lt.mp c11
              replace w := w.1 c11
              refine eb_iconst (pc := 126) (n := 1) (v := 1) rfl rfl ?_
              exact eb_ireturn (pc := 127) rfl rfl rfl w
            · replace c11 := (fun hh => mt eb_lc_lt.mpr hh) c11
              replace w := w.2 c11
              refine eb_lload_n (pc := 118) (n := 2) (i := 2) rfl rfl rfl ?_
              refine eb_ldc2 (pc := 119) (a := 2000) (v := 2000) rfl (by decide) ?_
              refine eb_lcmp (pc := 122) rfl ?_
              refine eb_if_lt (pc := 123) (tgt := 128) rfl (by decide) (fun c12 => ?_) (fun c12 => ?_)
              · replace c12 := eb_lc_lt.mp c12
                replace w := w.1 c12
                refine eb_lload_n (pc := 128) (n := 2) (i := 2) rfl rfl rfl ?_
                refine eb_l2i (pc := 129) rfl ?_
                refine eb_sipush (pc := 130) (n := 1000) (v := 1000) rfl rfl ?_
                refine eb_isub (pc := 133) rfl ?_
                refine eb_istore (pc := 134) (i := 4) (ls2 := [(4, .int (x2.toInt32 - 1000)), (0, .ref a0), (1, .ref a1), (2, .long x2)]) (Nat.le_of_ble_eq_true rfl) rfl rfl ?_
                refine eb_aload_n (pc := 136) (n := 0) (i := 0) rfl rfl rfl ?_
                refine eb_aload_n (pc := 137) (n := 1) (i := 1) rfl rfl rfl ?_
                refine eb_iload (pc := 138) (i := 4) rfl rfl ?_
                refine eb_bipush (pc := 140) (n := 10) (v := 10) rfl rfl ?_
                refine eb_idiv (pc := 142) (by decide) rfl ?_
                refine eb_iload (pc := 143) (i := 4) rfl rfl ?_
                refine eb_bipush (pc := 145) (n := 10) (v := 10) rfl rfl ?_
                refine eb_irem (pc := 147) (by decide) rfl ?_
                refine eb_ctV (pc := 148) (As := [.ref a1, .int ((x2.toInt32 - 1000) / 10), .int ((x2.toInt32 - 1000) - (x2.toInt32 - 1000) / 10 * 10)]) (rest := []) rfl (by decide) rfl ka0 (by decide) rfl (Nat.le_of_ble_eq_true rfl) ?_
                refine eb_Ct.mono w ?_
                rintro r h13 ⟨y14, rfl, ko15, w⟩
                change eb_Sn _ _ _ 151 _ [.int y14] _ _
                exact eb_ireturn (pc := 151) rfl rfl rfl w
              · replace c12 := (fun hh => mt eb_lc_lt.mpr hh) c12
                replace w := w.2 c12
                refine eb_iconst (pc := 126) (n := 1) (v := 1) rfl rfl ?_
                exact eb_ireturn (pc := 127) rfl rfl rfl w
          · replace c10 := (fun hh => mt eb_lc_gt.mpr hh) c10
            replace w := w.2 c10
            refine eb_aload_n (pc := 98) (n := 1) (i := 1) rfl rfl rfl ?_
            refine eb_lload_n (pc := 99) (n := 2) (i := 2) rfl rfl rfl ?_
            refine eb_l2i (pc := 100) rfl ?_
            refine eb_sipush (pc := 101) (n := 300) (v := 300) rfl rfl ?_
            refine eb_isub (pc := 104) rfl ?_
            refine eb_putI (pc := 105) rfl ka1 (by decide) (by decide) rfl rfl ⟨rfl, rfl⟩ ?_
            refine eb_iconst (pc := 108) (n := 0) (v := 0) rfl rfl ?_
            exact eb_ireturn (pc := 109) rfl rfl rfl w
      · replace c3 := (fun hh => mt eb_lc_lt.mpr hh) c3
        replace w := w.2 c3
        refine eb_lload_n (pc := 62) (n := 2) (i := 2) rfl rfl rfl ?_
        refine eb_ldc2 (pc := 63) (a := 300) (v := 300) rfl (by decide) ?_
        refine eb_lcmp (pc := 66) rfl ?_
        refine eb_if_ge (pc := 67) (tgt := 82) rfl (by decide) (fun c16 => ?_) (fun c16 => ?_)
        · replace c16 := eb_lc_ge.mp c16
          replace w := w.1 c16
          refine eb_lload_n (pc := 82) (n := 2) (i := 2) rfl rfl rfl ?_
          refine eb_ldc2 (pc := 83) (a := 300) (v := 300) rfl (by decide) ?_
          refine eb_lcmp (pc := 86) rfl ?_
          refine eb_if_lt (pc := 87) (tgt := 110) rfl (by decide) (fun c17 => ?_) (fun c17 => ?_)
          · replace c17 := eb_lc_lt.mp c17
            replace w := w.1 c17
            refine eb_lload_n (pc := 110) (n := 2) (i := 2) rfl rfl rfl ?_
            refine eb_ldc2 (pc := 111) (a := 1000) (v := 1000) rfl (by decide) ?_
            refine eb_lcmp (pc := 114) rfl ?_
            refine eb_if_lt (pc := 115) (tgt := 126) rfl (by decide) (fun c18 => ?_) (fun c18 => ?_)
            · replace c18 := eb_lc_lt.mp c18
              replace w := w.1 c18
              refine eb_iconst (pc := 126) (n := 1) (v := 1) rfl rfl ?_
              exact eb_ireturn (pc := 127) rfl rfl rfl w
            · replace c18 := (fun hh => mt eb_lc_lt.mpr hh) c18
              replace w := w.2 c18
              refine eb_lload_n (pc := 118) (n := 2) (i := 2) rfl rfl rfl ?_
              refine eb_ldc2 (pc := 119) (a := 2000) (v := 2000) rfl (by decide) ?_
              refine eb_lcmp (pc := 122) rfl ?_
              refine eb_if_lt (pc := 123) (tgt := 128) rfl (by decide) (fun c19 => ?_) (fun c19 => ?_)
              · replace c19 := eb_lc_lt.mp c19
                replace w := w.1 c19
                refine eb_lload_n (pc := 128) (n := 2) (i := 2) rfl rfl rfl ?_
                refine eb_l2i (pc := 129) rfl ?_
                refine eb_sipush (pc := 130) (n := 1000) (v := 1000) rfl rfl ?_
                refine eb_isub (pc := 133) rfl ?_
                refine eb_istore (pc := 134) (i := 4) (ls2 := [(4, .int (x2.toInt32 - 1000)), (0, .ref a0), (1, .ref a1), (2, .long x2)]) (Nat.le_of_ble_eq_true rfl) rfl rfl ?_
                refine eb_aload_n (pc := 136) (n := 0) (i := 0) rfl rfl rfl ?_
                refine eb_aload_n (pc := 137) (n := 1) (i := 1) rfl rfl rfl ?_
                refine eb_iload (pc := 138) (i := 4) rfl rfl ?_
                refine eb_bipush (pc := 140) (n := 10) (v := 10) rfl rfl ?_
                refine eb_idiv (pc := 142) (by decide) rfl ?_
                refine eb_iload (pc := 143) (i := 4) rfl rfl ?_
                refine eb_bipush (pc := 145) (n := 10) (v := 10) rfl rfl ?_
                refine eb_irem (pc := 147) (by decide) rfl ?_
                refine eb_ctV (pc := 148) (As := [.ref a1, .int ((x2.toInt32 - 1000) / 10), .int ((x2.toInt32 - 1000) - (x2.toInt32 - 1000) / 10 * 10)]) (rest := []) rfl (by decide) rfl ka0 (by decide) rfl (Nat.le_of_ble_eq_true rfl) ?_
                refine eb_Ct.mono w ?_
                rintro r h20 ⟨y21, rfl, ko22, w⟩
                change eb_Sn _ _ _ 151 _ [.int y21] _ _
                exact eb_ireturn (pc := 151) rfl rfl rfl w
              · replace c19 := (fun hh => mt eb_lc_lt.mpr hh) c19
                replace w := w.2 c19
                refine eb_iconst (pc := 126) (n := 1) (v := 1) rfl rfl ?_
                exact eb_ireturn (pc := 127) rfl rfl rfl w
          · replace c17 := (fun hh => mt eb_lc_lt.mpr hh) c17
            replace w := w.2 c17
            refine eb_lload_n (pc := 90) (n := 2) (i := 2) rfl rfl rfl ?_
            refine eb_ldc2 (pc := 91) (a := 309) (v := 309) rfl (by decide) ?_
            refine eb_lcmp (pc := 94) rfl ?_
            refine eb_if_gt (pc := 95) (tgt := 110) rfl (by decide) (fun c23 => ?_) (fun c23 => ?_)
            · replace c23 := eb_lc_gt.mp c23
              replace w := w.1 c23
              refine eb_lload_n (pc := 110) (n := 2) (i := 2) rfl rfl rfl ?_
              refine eb_ldc2 (pc := 111) (a := 1000) (v := 1000) rfl (by decide) ?_
              refine eb_lcmp (pc := 114) rfl ?_
              refine eb_if_lt (pc := 115) (tgt := 126) rfl (by decide) (fun c24 => ?_) (fun c24 => ?_)
              · replace c24 := eb_lc_lt.mp c24
                replace w := w.1 c24
                refine eb_iconst (pc := 126) (n := 1) (v := 1) rfl rfl ?_
                exact eb_ireturn (pc := 127) rfl rfl rfl w
              · replace c24 := (fun hh => mt eb_lc_lt.mpr hh) c24
                replace w := w.2 c24
                refine eb_lload_n (pc := 118) (n := 2) (i := 2) rfl rfl rfl ?_
                refine eb_ldc2 (pc := 119) (a := 2000) (v := 2000) rfl (by decide) ?_
                refine eb_lcmp (pc := 122) rfl ?_
                refine eb_if_lt (pc := 123) (tgt := 128) rfl (by decide) (fun c25 => ?_) (fun c25 => ?_)
                · replace c25 := eb_lc_lt.mp c25
                  replace w := w.1 c25
                  refine eb_lload_n (pc := 128) (n := 2) (i := 2) rfl rfl rfl ?_
                  refine eb_l2i (pc := 129) rfl ?_
                  refine eb_sipush (pc := 130) (n := 1000) (v := 1000) rfl rfl ?_
                  refine eb_isub (pc := 133) rfl ?_
                  refine eb_istore (pc := 134) (i := 4) (ls2 := [(4, .int (x2.toInt32 - 1000)), (0, .ref a0), (1, .ref a1), (2, .long x2)]) (Nat.le_of_ble_eq_true rfl) rfl rfl ?_
                  refine eb_aload_n (pc := 136) (n := 0) (i := 0) rfl rfl rfl ?_
                  refine eb_aload_n (pc := 137) (n := 1) (i := 1) rfl rfl rfl ?_
                  refine eb_iload (pc := 138) (i := 4) rfl rfl ?_
                  refine eb_bipush (pc := 140) (n := 10) (v := 10) rfl rfl ?_
                  refine eb_idiv (pc := 142) (by decide) rfl ?_
                  refine eb_iload (pc := 143) (i := 4) rfl rfl ?_
                  refine eb_bipush (pc := 145) (n := 10) (v := 10) rfl rfl ?_
                  refine eb_irem (pc := 147) (by decide) rfl ?_
                  refine eb_ctV (pc := 148) (As := [.ref a1, .int ((x2.toInt32 - 1000) / 10), .int ((x2.toInt32 - 1000) - (x2.toInt32 - 1000) / 10 * 10)]) (rest := []) rfl (by decide) rfl ka0 (by decide) rfl (Nat.le_of_ble_eq_true rfl) ?_
                  refine eb_Ct.mono w ?_
                  rintro r h26 ⟨y27, rfl, ko28, w⟩
                  change eb_Sn _ _ _ 151 _ [.int y27] _ _
                  exact eb_ireturn (pc := 151) rfl rfl rfl w
                · replace c25 := (fun hh => mt eb_lc_lt.mpr hh) c25
                  replace w := w.2 c25
                  refine eb_iconst (pc := 126) (n := 1) (v := 1) rfl rfl ?_
                  exact eb_ireturn (pc := 127) rfl rfl rfl w
            · replace c23 := (fun hh => mt eb_lc_gt.mpr hh) c23
              replace w := w.2 c23
              refine eb_aload_n (pc := 98) (n := 1) (i := 1) rfl rfl rfl ?_
              refine eb_lload_n (pc := 99) (n := 2) (i := 2) rfl rfl rfl ?_
              refine eb_l2i (pc := 100) rfl ?_
              refine eb_sipush (pc := 101) (n := 300) (v := 300) rfl rfl ?_
              refine eb_isub (pc := 104) rfl ?_
              refine eb_putI (pc := 105) rfl ka1 (by decide) (by decide) rfl rfl ⟨rfl, rfl⟩ ?_
              refine eb_iconst (pc := 108) (n := 0) (v := 0) rfl rfl ?_
              exact eb_ireturn (pc := 109) rfl rfl rfl w
        · replace c16 := (fun hh => mt eb_lc_ge.mpr hh) c16
          replace w := w.2 c16
          refine eb_aload_n (pc := 70) (n := 0) (i := 0) rfl rfl rfl ?_
          refine eb_aload_n (pc := 71) (n := 1) (i := 1) rfl rfl rfl ?_
          refine eb_lload_n (pc := 72) (n := 2) (i := 2) rfl rfl rfl ?_
          refine eb_l2i (pc := 73) rfl ?_
          refine eb_sipush (pc := 74) (n := 200) (v := 200) rfl rfl ?_
          refine eb_isub (pc := 77) rfl ?_
          refine eb_ctV (pc := 78) (As := [.ref a1, .int (x2.toInt32 - 200)]) (rest := []) rfl (by decide) rfl ka0 (by decide) rfl (Nat.le_of_ble_eq_true rfl) ?_
          refine eb_Ct.mono w ?_
          rintro r h29 ⟨y30, rfl, ko31, w⟩
          change eb_Sn _ _ _ 81 _ [.int y30] _ _
          exact eb_ireturn (pc := 81) rfl rfl rfl w
    · replace c2 := (fun hh => mt eb_lc_lt.mpr hh) c2
      replace w := w.2 c2
      refine eb_lload_n (pc := 35) (n := 2) (i := 2) rfl rfl rfl ?_
      refine eb_ldc2 (pc := 36) (a := 200) (v := 200) rfl (by decide) ?_
      refine eb_lcmp (pc := 39) rfl ?_
      refine eb_if_ge (pc := 40) (tgt := 54) rfl (by decide) (fun c32 => ?_) (fun c32 => ?_)
      · replace c32 := eb_lc_ge.mp c32
        replace w := w.1 c32
        refine eb_lload_n (pc := 54) (n := 2) (i := 2) rfl rfl rfl ?_
        refine eb_ldc2 (pc := 55) (a := 200) (v := 200) rfl (by decide) ?_
        refine eb_lcmp (pc := 58) rfl ?_
        refine eb_if_lt (pc := 59) (tgt := 82) rfl (by decide) (fun c33 => ?_) (fun c33 => ?_)
        · replace c33 := eb_lc_lt.mp c33
          replace w := w.1 c33
          refine eb_lload_n (pc := 82) (n := 2) (i := 2) rfl rfl rfl ?_
          refine eb_ldc2 (pc := 83) (a := 300) (v := 300) rfl (by decide) ?_
          refine eb_lcmp (pc := 86) rfl ?_
          refine eb_if_lt (pc := 87) (tgt := 110) rfl (by decide) (fun c34 => ?_) (fun c34 => ?_)
          · replace c34 := eb_lc_lt.mp c34
            replace w := w.1 c34
            refine eb_lload_n (pc := 110) (n := 2) (i := 2) rfl rfl rfl ?_
            refine eb_ldc2 (pc := 111) (a := 1000) (v := 1000) rfl (by decide) ?_
            refine eb_lcmp (pc := 114) rfl ?_
            refine eb_if_lt (pc := 115) (tgt := 126) rfl (by decide) (fun c35 => ?_) (fun c35 => ?_)
            · replace c35 := eb_lc_lt.mp c35
              replace w := w.1 c35
              refine eb_iconst (pc := 126) (n := 1) (v := 1) rfl rfl ?_
              exact eb_ireturn (pc := 127) rfl rfl rfl w
            · replace c35 := (fun hh => mt eb_lc_lt.mpr hh) c35
              replace w := w.2 c35
              refine eb_lload_n (pc := 118) (n := 2) (i := 2) rfl rfl rfl ?_
              refine eb_ldc2 (pc := 119) (a := 2000) (v := 2000) rfl (by decide) ?_
              refine eb_lcmp (pc := 122) rfl ?_
              refine eb_if_lt (pc := 123) (tgt := 128) rfl (by decide) (fun c36 => ?_) (fun c36 => ?_)
              · replace c36 := eb_lc_lt.mp c36
                replace w := w.1 c36
                refine eb_lload_n (pc := 128) (n := 2) (i := 2) rfl rfl rfl ?_
                refine eb_l2i (pc := 129) rfl ?_
                refine eb_sipush (pc := 130) (n := 1000) (v := 1000) rfl rfl ?_
                refine eb_isub (pc := 133) rfl ?_
                refine eb_istore (pc := 134) (i := 4) (ls2 := [(4, .int (x2.toInt32 - 1000)), (0, .ref a0), (1, .ref a1), (2, .long x2)]) (Nat.le_of_ble_eq_true rfl) rfl rfl ?_
                refine eb_aload_n (pc := 136) (n := 0) (i := 0) rfl rfl rfl ?_
                refine eb_aload_n (pc := 137) (n := 1) (i := 1) rfl rfl rfl ?_
                refine eb_iload (pc := 138) (i := 4) rfl rfl ?_
                refine eb_bipush (pc := 140) (n := 10) (v := 10) rfl rfl ?_
                refine eb_idiv (pc := 142) (by decide) rfl ?_
                refine eb_iload (pc := 143) (i := 4) rfl rfl ?_
                refine eb_bipush (pc := 145) (n := 10) (v := 10) rfl rfl ?_
                refine eb_irem (pc := 147) (by decide) rfl ?_
                refine eb_ctV (pc := 148) (As := [.ref a1, .int ((x2.toInt32 - 1000) / 10), .int ((x2.toInt32 - 1000) - (x2.toInt32 - 1000) / 10 * 10)]) (rest := []) rfl (by decide) rfl ka0 (by decide) rfl (Nat.le_of_ble_eq_true rfl) ?_
                refine eb_Ct.mono w ?_
                rintro r h37 ⟨y38, rfl, ko39, w⟩
                change eb_Sn _ _ _ 151 _ [.int y38] _ _
                exact eb_ireturn (pc := 151) rfl rfl rfl w
              · replace c36 := (fun hh => mt eb_lc_lt.mpr hh) c36
                replace w := w.2 c36
                refine eb_iconst (pc := 126) (n := 1) (v := 1) rfl rfl ?_
                exact eb_ireturn (pc := 127) rfl rfl rfl w
          · replace c34 := (fun hh => mt eb_lc_lt.mpr hh) c34
            replace w := w.2 c34
            refine eb_lload_n (pc := 90) (n := 2) (i := 2) rfl rfl rfl ?_
            refine eb_ldc2 (pc := 91) (a := 309) (v := 309) rfl (by decide) ?_
            refine eb_lcmp (pc := 94) rfl ?_
            refine eb_if_gt (pc := 95) (tgt := 110) rfl (by decide) (fun c40 => ?_) (fun c40 => ?_)
            · replace c40 := eb_lc_gt.mp c40
              replace w := w.1 c40
              refine eb_lload_n (pc := 110) (n := 2) (i := 2) rfl rfl rfl ?_
              refine eb_ldc2 (pc := 111) (a := 1000) (v := 1000) rfl (by decide) ?_
              refine eb_lcmp (pc := 114) rfl ?_
              refine eb_if_lt (pc := 115) (tgt := 126) rfl (by decide) (fun c41 => ?_) (fun c41 => ?_)
              · replace c41 := eb_lc_lt.mp c41
                replace w := w.1 c41
                refine eb_iconst (pc := 126) (n := 1) (v := 1) rfl rfl ?_
                exact eb_ireturn (pc := 127) rfl rfl rfl w
              · replace c41 := (fun hh => mt eb_lc_lt.mpr hh) c41
                replace w := w.2 c41
                refine eb_lload_n (pc := 118) (n := 2) (i := 2) rfl rfl rfl ?_
                refine eb_ldc2 (pc := 119) (a := 2000) (v := 2000) rfl (by decide) ?_
                refine eb_lcmp (pc := 122) rfl ?_
                refine eb_if_lt (pc := 123) (tgt := 128) rfl (by decide) (fun c42 => ?_) (fun c42 => ?_)
                · replace c42 := eb_lc_lt.mp c42
                  replace w := w.1 c42
                  refine eb_lload_n (pc := 128) (n := 2) (i := 2) rfl rfl rfl ?_
                  refine eb_l2i (pc := 129) rfl ?_
                  refine eb_sipush (pc := 130) (n := 1000) (v := 1000) rfl rfl ?_
                  refine eb_isub (pc := 133) rfl ?_
                  refine eb_istore (pc := 134) (i := 4) (ls2 := [(4, .int (x2.toInt32 - 1000)), (0, .ref a0), (1, .ref a1), (2, .long x2)]) (Nat.le_of_ble_eq_true rfl) rfl rfl ?_
                  refine eb_aload_n (pc := 136) (n := 0) (i := 0) rfl rfl rfl ?_
                  refine eb_aload_n (pc := 137) (n := 1) (i := 1) rfl rfl rfl ?_
                  refine eb_iload (pc := 138) (i := 4) rfl rfl ?_
                  refine eb_bipush (pc := 140) (n := 10) (v := 10) rfl rfl ?_
                  refine eb_idiv (pc := 142) (by decide) rfl ?_
                  refine eb_iload (pc := 143) (i := 4) rfl rfl ?_
                  refine eb_bipush (pc := 145) (n := 10) (v := 10) rfl rfl ?_
                  refine eb_irem (pc := 147) (by decide) rfl ?_
                  refine eb_ctV (pc := 148) (As := [.ref a1, .int ((x2.toInt32 - 1000) / 10), .int ((x2.toInt32 - 1000) - (x2.toInt32 - 1000) / 10 * 10)]) (rest := []) rfl (by decide) rfl ka0 (by decide) rfl (Nat.le_of_ble_eq_true rfl) ?_
                  refine eb_Ct.mono w ?_
                  rintro r h43 ⟨y44, rfl, ko45, w⟩
                  change eb_Sn _ _ _ 151 _ [.int y44] _ _
                  exact eb_ireturn (pc := 151) rfl rfl rfl w
                · replace c42 := (fun hh => mt eb_lc_lt.mpr hh) c42
                  replace w := w.2 c42
                  refine eb_iconst (pc := 126) (n := 1) (v := 1) rfl rfl ?_
                  exact eb_ireturn (pc := 127) rfl rfl rfl w
            · replace c40 := (fun hh => mt eb_lc_gt.mpr hh) c40
              replace w := w.2 c40
              refine eb_aload_n (pc := 98) (n := 1) (i := 1) rfl rfl rfl ?_
              refine eb_lload_n (pc := 99) (n := 2) (i := 2) rfl rfl rfl ?_
              refine eb_l2i (pc := 100) rfl ?_
              refine eb_sipush (pc := 101) (n := 300) (v := 300) rfl rfl ?_
              refine eb_isub (pc := 104) rfl ?_
              refine eb_putI (pc := 105) rfl ka1 (by decide) (by decide) rfl rfl ⟨rfl, rfl⟩ ?_
              refine eb_iconst (pc := 108) (n := 0) (v := 0) rfl rfl ?_
              exact eb_ireturn (pc := 109) rfl rfl rfl w
        · replace c33 := (fun hh => mt eb_lc_lt.mpr hh) c33
          replace w := w.2 c33
          refine eb_lload_n (pc := 62) (n := 2) (i := 2) rfl rfl rfl ?_
          refine eb_ldc2 (pc := 63) (a := 300) (v := 300) rfl (by decide) ?_
          refine eb_lcmp (pc := 66) rfl ?_
          refine eb_if_ge (pc := 67) (tgt := 82) rfl (by decide) (fun c46 => ?_) (fun c46 => ?_)
          · replace c46 := eb_lc_ge.mp c46
            replace w := w.1 c46
            refine eb_lload_n (pc := 82) (n := 2) (i := 2) rfl rfl rfl ?_
            refine eb_ldc2 (pc := 83) (a := 300) (v := 300) rfl (by decide) ?_
            refine eb_lcmp (pc := 86) rfl ?_
            refine eb_if_lt (pc := 87) (tgt := 110) rfl (by decide) (fun c47 => ?_) (fun c47 => ?_)
            · replace c47 := eb_lc_lt.mp c47
              replace w := w.1 c47
              refine eb_lload_n (pc := 110) (n := 2) (i := 2) rfl rfl rfl ?_
              refine eb_ldc2 (pc := 111) (a := 1000) (v := 1000) rfl (by decide) ?_
              refine eb_lcmp (pc := 114) rfl ?_
              refine eb_if_lt (pc := 115) (tgt := 126) rfl (by decide) (fun c48 => ?_) (fun c48 => ?_)
              · replace c48 := eb_lc_lt.mp c48
                replace w := w.1 c48
                refine eb_iconst (pc := 126) (n := 1) (v := 1) rfl rfl ?_
                exact eb_ireturn (pc := 127) rfl rfl rfl w
              · replace c48 := (fun hh => mt eb_lc_lt.mpr hh) c48
                replace w := w.2 c48
                refine eb_lload_n (pc := 118) (n := 2) (i := 2) rfl rfl rfl ?_
                refine eb_ldc2 (pc := 119) (a := 2000) (v := 2000) rfl (by decide) ?_
                refine eb_lcmp (pc := 122) rfl ?_
                refine eb_if_lt (pc := 123) (tgt := 128) rfl (by decide) (fun c49 => ?_) (fun c49 => ?_)
                · replace c49 := eb_lc_lt.mp c49
                  replace w := w.1 c49
                  refine eb_lload_n (pc := 128) (n := 2) (i := 2) rfl rfl rfl ?_
                  refine eb_l2i (pc := 129) rfl ?_
                  refine eb_sipush (pc := 130) (n := 1000) (v := 1000) rfl rfl ?_
                  refine eb_isub (pc := 133) rfl ?_
                  refine eb_istore (pc := 134) (i := 4) (ls2 := [(4, .int (x2.toInt32 - 1000)), (0, .ref a0), (1, .ref a1), (2, .long x2)]) (Nat.le_of_ble_eq_true rfl) rfl rfl ?_
                  refine eb_aload_n (pc := 136) (n := 0) (i := 0) rfl rfl rfl ?_
                  refine eb_aload_n (pc := 137) (n := 1) (i := 1) rfl rfl rfl ?_
                  refine eb_iload (pc := 138) (i := 4) rfl rfl ?_
                  refine eb_bipush (pc := 140) (n := 10) (v := 10) rfl rfl ?_
                  refine eb_idiv (pc := 142) (by decide) rfl ?_
                  refine eb_iload (pc := 143) (i := 4) rfl rfl ?_
                  refine eb_bipush (pc := 145) (n := 10) (v := 10) rfl rfl ?_
                  refine eb_irem (pc := 147) (by decide) rfl ?_
                  refine eb_ctV (pc := 148) (As := [.ref a1, .int ((x2.toInt32 - 1000) / 10), .int ((x2.toInt32 - 1000) - (x2.toInt32 - 1000) / 10 * 10)]) (rest := []) rfl (by decide) rfl ka0 (by decide) rfl (Nat.le_of_ble_eq_true rfl) ?_
                  refine eb_Ct.mono w ?_
                  rintro r h50 ⟨y51, rfl, ko52, w⟩
                  change eb_Sn _ _ _ 151 _ [.int y51] _ _
                  exact eb_ireturn (pc := 151) rfl rfl rfl w
                · replace c49 := (fun hh => mt eb_lc_lt.mpr hh) c49
                  replace w := w.2 c49
                  refine eb_iconst (pc := 126) (n := 1) (v := 1) rfl rfl ?_
                  exact eb_ireturn (pc := 127) rfl rfl rfl w
            · replace c47 := (fun hh => mt eb_lc_lt.mpr hh) c47
              replace w := w.2 c47
              refine eb_lload_n (pc := 90) (n := 2) (i := 2) rfl rfl rfl ?_
              refine eb_ldc2 (pc := 91) (a := 309) (v := 309) rfl (by decide) ?_
              refine eb_lcmp (pc := 94) rfl ?_
              refine eb_if_gt (pc := 95) (tgt := 110) rfl (by decide) (fun c53 => ?_) (fun c53 => ?_)
              · replace c53 := eb_lc_gt.mp c53
                replace w := w.1 c53
                refine eb_lload_n (pc := 110) (n := 2) (i := 2) rfl rfl rfl ?_
                refine eb_ldc2 (pc := 111) (a := 1000) (v := 1000) rfl (by decide) ?_
                refine eb_lcmp (pc := 114) rfl ?_
                refine eb_if_lt (pc := 115) (tgt := 126) rfl (by decide) (fun c54 => ?_) (fun c54 => ?_)
                · replace c54 := eb_lc_lt.mp c54
                  replace w := w.1 c54
                  refine eb_iconst (pc := 126) (n := 1) (v := 1) rfl rfl ?_
                  exact eb_ireturn (pc := 127) rfl rfl rfl w
                · replace c54 := (fun hh => mt eb_lc_lt.mpr hh) c54
                  replace w := w.2 c54
                  refine eb_lload_n (pc := 118) (n := 2) (i := 2) rfl rfl rfl ?_
                  refine eb_ldc2 (pc := 119) (a := 2000) (v := 2000) rfl (by decide) ?_
                  refine eb_lcmp (pc := 122) rfl ?_
                  refine eb_if_lt (pc := 123) (tgt := 128) rfl (by decide) (fun c55 => ?_) (fun c55 => ?_)
                  · replace c55 := eb_lc_lt.mp c55
                    replace w := w.1 c55
                    refine eb_lload_n (pc := 128) (n := 2) (i := 2) rfl rfl rfl ?_
                    refine eb_l2i (pc := 129) rfl ?_
                    refine eb_sipush (pc := 130) (n := 1000) (v := 1000) rfl rfl ?_
                    refine eb_isub (pc := 133) rfl ?_
                    refine eb_istore (pc := 134) (i := 4) (ls2 := [(4, .int (x2.toInt32 - 1000)), (0, .ref a0), (1, .ref a1), (2, .long x2)]) (Nat.le_of_ble_eq_true rfl) rfl rfl ?_
                    refine eb_aload_n (pc := 136) (n := 0) (i := 0) rfl rfl rfl ?_
                    refine eb_aload_n (pc := 137) (n := 1) (i := 1) rfl rfl rfl ?_
                    refine eb_iload (pc := 138) (i := 4) rfl rfl ?_
                    refine eb_bipush (pc := 140) (n := 10) (v := 10) rfl rfl ?_
                    refine eb_idiv (pc := 142) (by decide) rfl ?_
                    refine eb_iload (pc := 143) (i := 4) rfl rfl ?_
                    refine eb_bipush (pc := 145) (n := 10) (v := 10) rfl rfl ?_
                    refine eb_irem (pc := 147) (by decide) rfl ?_
                    refine eb_ctV (pc := 148) (As := [.ref a1, .int ((x2.toInt32 - 1000) / 10), .int ((x2.toInt32 - 1000) - (x2.toInt32 - 1000) / 10 * 10)]) (rest := []) rfl (by decide) rfl ka0 (by decide) rfl (Nat.le_of_ble_eq_true rfl) ?_
                    refine eb_Ct.mono w ?_
                    rintro r h56 ⟨y57, rfl, ko58, w⟩
                    change eb_Sn _ _ _ 151 _ [.int y57] _ _
                    exact eb_ireturn (pc := 151) rfl rfl rfl w
                  · replace c55 := (fun hh => mt eb_lc_lt.mpr hh) c55
                    replace w := w.2 c55
                    refine eb_iconst (pc := 126) (n := 1) (v := 1) rfl rfl ?_
                    exact eb_ireturn (pc := 127) rfl rfl rfl w
              · replace c53 := (fun hh => mt eb_lc_gt.mpr hh) c53
                replace w := w.2 c53
                refine eb_aload_n (pc := 98) (n := 1) (i := 1) rfl rfl rfl ?_
                refine eb_lload_n (pc := 99) (n := 2) (i := 2) rfl rfl rfl ?_
                refine eb_l2i (pc := 100) rfl ?_
                refine eb_sipush (pc := 101) (n := 300) (v := 300) rfl rfl ?_
                refine eb_isub (pc := 104) rfl ?_
                refine eb_putI (pc := 105) rfl ka1 (by decide) (by decide) rfl rfl ⟨rfl, rfl⟩ ?_
                refine eb_iconst (pc := 108) (n := 0) (v := 0) rfl rfl ?_
                exact eb_ireturn (pc := 109) rfl rfl rfl w
          · replace c46 := (fun hh => mt eb_lc_ge.mpr hh) c46
            replace w := w.2 c46
            refine eb_aload_n (pc := 70) (n := 0) (i := 0) rfl rfl rfl ?_
            refine eb_aload_n (pc := 71) (n := 1) (i := 1) rfl rfl rfl ?_
            refine eb_lload_n (pc := 72) (n := 2) (i := 2) rfl rfl rfl ?_
            refine eb_l2i (pc := 73) rfl ?_
            refine eb_sipush (pc := 74) (n := 200) (v := 200) rfl rfl ?_
            refine eb_isub (pc := 77) rfl ?_
            refine eb_ctV (pc := 78) (As := [.ref a1, .int (x2.toInt32 - 200)]) (rest := []) rfl (by decide) rfl ka0 (by decide) rfl (Nat.le_of_ble_eq_true rfl) ?_
            refine eb_Ct.mono w ?_
            rintro r h59 ⟨y60, rfl, ko61, w⟩
            change eb_Sn _ _ _ 81 _ [.int y60] _ _
            exact eb_ireturn (pc := 81) rfl rfl rfl w
      · replace c32 := (fun hh => mt eb_lc_ge.mpr hh) c32
        replace w := w.2 c32
        refine eb_aload_n (pc := 43) (n := 0) (i := 0) rfl rfl rfl ?_
        refine eb_aload_n (pc := 44) (n := 1) (i := 1) rfl rfl rfl ?_
        refine eb_lload_n (pc := 45) (n := 2) (i := 2) rfl rfl rfl ?_
        refine eb_l2i (pc := 46) rfl ?_
        refine eb_bipush (pc := 47) (n := 100) (v := 100) rfl rfl ?_
        refine eb_isub (pc := 49) rfl ?_
        refine eb_ctV (pc := 50) (As := [.ref a1, .int (x2.toInt32 - 100)]) (rest := []) rfl (by decide) rfl ka0 (by decide) rfl (Nat.le_of_ble_eq_true rfl) ?_
        refine eb_Ct.mono w ?_
        rintro r h62 ⟨y63, rfl, ko64, w⟩
        change eb_Sn _ _ _ 53 _ [.int y63] _ _
        exact eb_ireturn (pc := 53) rfl rfl rfl w
  · replace c1 := (fun hh => mt eb_lc_lt.mpr hh) c1
    replace w := w.2 c1
    refine eb_lload_n (pc := 6) (n := 2) (i := 2) rfl rfl rfl ?_
    refine eb_ldc2 (pc := 7) (a := 4) (v := 4) rfl (by decide) ?_
    refine eb_lcmp (pc := 10) rfl ?_
    refine eb_if_ge (pc := 11) (tgt := 27) rfl (by decide) (fun c65 => ?_) (fun c65 => ?_)
    · replace c65 := eb_lc_ge.mp c65
      replace w := w.1 c65
      refine eb_lload_n (pc := 27) (n := 2) (i := 2) rfl rfl rfl ?_
      refine eb_ldc2 (pc := 28) (a := 100) (v := 100) rfl (by decide) ?_
      refine eb_lcmp (pc := 31) rfl ?_
      refine eb_if_lt (pc := 32) (tgt := 54) rfl (by decide) (fun c66 => ?_) (fun c66 => ?_)
      · replace c66 := eb_lc_lt.mp c66
        replace w := w.1 c66
        refine eb_lload_n (pc := 54) (n := 2) (i := 2) rfl rfl rfl ?_
        refine eb_ldc2 (pc := 55) (a := 200) (v := 200) rfl (by decide) ?_
        refine eb_lcmp (pc := 58) rfl ?_
        refine eb_if_lt (pc := 59) (tgt := 82) rfl (by decide) (fun c67 => ?_) (fun c67 => ?_)
        · replace c67 := eb_lc_lt.mp c67
          replace w := w.1 c67
          refine eb_lload_n (pc := 82) (n := 2) (i := 2) rfl rfl rfl ?_
          refine eb_ldc2 (pc := 83) (a := 300) (v := 300) rfl (by decide) ?_
          refine eb_lcmp (pc := 86) rfl ?_
          refine eb_if_lt (pc := 87) (tgt := 110) rfl (by decide) (fun c68 => ?_) (fun c68 => ?_)
          · replace c68 := eb_lc_lt.mp c68
            replace w := w.1 c68
            refine eb_lload_n (pc := 110) (n := 2) (i := 2) rfl rfl rfl ?_
            refine eb_ldc2 (pc := 111) (a := 1000) (v := 1000) rfl (by decide) ?_
            refine eb_lcmp (pc := 114) rfl ?_
            refine eb_if_lt (pc := 115) (tgt := 126) rfl (by decide) (fun c69 => ?_) (fun c69 => ?_)
            · replace c69 := eb_lc_lt.mp c69
              replace w := w.1 c69
              refine eb_iconst (pc := 126) (n := 1) (v := 1) rfl rfl ?_
              exact eb_ireturn (pc := 127) rfl rfl rfl w
            · replace c69 := (fun hh => mt eb_lc_lt.mpr hh) c69
              replace w := w.2 c69
              refine eb_lload_n (pc := 118) (n := 2) (i := 2) rfl rfl rfl ?_
              refine eb_ldc2 (pc := 119) (a := 2000) (v := 2000) rfl (by decide) ?_
              refine eb_lcmp (pc := 122) rfl ?_
              refine eb_if_lt (pc := 123) (tgt := 128) rfl (by decide) (fun c70 => ?_) (fun c70 => ?_)
              · replace c70 := eb_lc_lt.mp c70
                replace w := w.1 c70
                refine eb_lload_n (pc := 128) (n := 2) (i := 2) rfl rfl rfl ?_
                refine eb_l2i (pc := 129) rfl ?_
                refine eb_sipush (pc := 130) (n := 1000) (v := 1000) rfl rfl ?_
                refine eb_isub (pc := 133) rfl ?_
                refine eb_istore (pc := 134) (i := 4) (ls2 := [(4, .int (x2.toInt32 - 1000)), (0, .ref a0), (1, .ref a1), (2, .long x2)]) (Nat.le_of_ble_eq_true rfl) rfl rfl ?_
                refine eb_aload_n (pc := 136) (n := 0) (i := 0) rfl rfl rfl ?_
                refine eb_aload_n (pc := 137) (n := 1) (i := 1) rfl rfl rfl ?_
                refine eb_iload (pc := 138) (i := 4) rfl rfl ?_
                refine eb_bipush (pc := 140) (n := 10) (v := 10) rfl rfl ?_
                refine eb_idiv (pc := 142) (by decide) rfl ?_
                refine eb_iload (pc := 143) (i := 4) rfl rfl ?_
                refine eb_bipush (pc := 145) (n := 10) (v := 10) rfl rfl ?_
                refine eb_irem (pc := 147) (by decide) rfl ?_
                refine eb_ctV (pc := 148) (As := [.ref a1, .int ((x2.toInt32 - 1000) / 10), .int ((x2.toInt32 - 1000) - (x2.toInt32 - 1000) / 10 * 10)]) (rest := []) rfl (by decide) rfl ka0 (by decide) rfl (Nat.le_of_ble_eq_true rfl) ?_
                refine eb_Ct.mono w ?_
                rintro r h71 ⟨y72, rfl, ko73, w⟩
                change eb_Sn _ _ _ 151 _ [.int y72] _ _
                exact eb_ireturn (pc := 151) rfl rfl rfl w
              · replace c70 := (fun hh => mt eb_lc_lt.mpr hh) c70
                replace w := w.2 c70
                refine eb_iconst (pc := 126) (n := 1) (v := 1) rfl rfl ?_
                exact eb_ireturn (pc := 127) rfl rfl rfl w
          · replace c68 := (fun hh => mt eb_lc_lt.mpr hh) c68
            replace w := w.2 c68
            refine eb_lload_n (pc := 90) (n := 2) (i := 2) rfl rfl rfl ?_
            refine eb_ldc2 (pc := 91) (a := 309) (v := 309) rfl (by decide) ?_
            refine eb_lcmp (pc := 94) rfl ?_
            refine eb_if_gt (pc := 95) (tgt := 110) rfl (by decide) (fun c74 => ?_) (fun c74 => ?_)
            · replace c74 := eb_lc_gt.mp c74
              replace w := w.1 c74
              refine eb_lload_n (pc := 110) (n := 2) (i := 2) rfl rfl rfl ?_
              refine eb_ldc2 (pc := 111) (a := 1000) (v := 1000) rfl (by decide) ?_
              refine eb_lcmp (pc := 114) rfl ?_
              refine eb_if_lt (pc := 115) (tgt := 126) rfl (by decide) (fun c75 => ?_) (fun c75 => ?_)
              · replace c75 := eb_lc_lt.mp c75
                replace w := w.1 c75
                refine eb_iconst (pc := 126) (n := 1) (v := 1) rfl rfl ?_
                exact eb_ireturn (pc := 127) rfl rfl rfl w
              · replace c75 := (fun hh => mt eb_lc_lt.mpr hh) c75
                replace w := w.2 c75
                refine eb_lload_n (pc := 118) (n := 2) (i := 2) rfl rfl rfl ?_
                refine eb_ldc2 (pc := 119) (a := 2000) (v := 2000) rfl (by decide) ?_
                refine eb_lcmp (pc := 122) rfl ?_
                refine eb_if_lt (pc := 123) (tgt := 128) rfl (by decide) (fun c76 => ?_) (fun c76 => ?_)
                · replace c76 := eb_lc_lt.mp c76
                  replace w := w.1 c76
                  refine eb_lload_n (pc := 128) (n := 2) (i := 2) rfl rfl rfl ?_
                  refine eb_l2i (pc := 129) rfl ?_
                  refine eb_sipush (pc := 130) (n := 1000) (v := 1000) rfl rfl ?_
                  refine eb_isub (pc := 133) rfl ?_
                  refine eb_istore (pc := 134) (i := 4) (ls2 := [(4, .int (x2.toInt32 - 1000)), (0, .ref a0), (1, .ref a1), (2, .long x2)]) (Nat.le_of_ble_eq_true rfl) rfl rfl ?_
                  refine eb_aload_n (pc := 136) (n := 0) (i := 0) rfl rfl rfl ?_
                  refine eb_aload_n (pc := 137) (n := 1) (i := 1) rfl rfl rfl ?_
                  refine eb_iload (pc := 138) (i := 4) rfl rfl ?_
                  refine eb_bipush (pc := 140) (n := 10) (v := 10) rfl rfl ?_
                  refine eb_idiv (pc := 142) (by decide) rfl ?_
                  refine eb_iload (pc := 143) (i := 4) rfl rfl ?_
                  refine eb_bipush (pc := 145) (n := 10) (v := 10) rfl rfl ?_
                  refine eb_irem (pc := 147) (by decide) rfl ?_
                  refine eb_ctV (pc := 148) (As := [.ref a1, .int ((x2.toInt32 - 1000) / 10), .int ((x2.toInt32 - 1000) - (x2.toInt32 - 1000) / 10 * 10)]) (rest := []) rfl (by decide) rfl ka0 (by decide) rfl (Nat.le_of_ble_eq_true rfl) ?_
                  refine eb_Ct.mono w ?_
                  rintro r h77 ⟨y78, rfl, ko79, w⟩
                  change eb_Sn _ _ _ 151 _ [.int y78] _ _
                  exact eb_ireturn (pc := 151) rfl rfl rfl w
                · replace c76 := (fun hh => mt eb_lc_lt.mpr hh) c76
                  replace w := w.2 c76
                  refine eb_iconst (pc := 126) (n := 1) (v := 1) rfl rfl ?_
                  exact eb_ireturn (pc := 127) rfl rfl rfl w
            · replace c74 := (fun hh => mt eb_lc_gt.mpr hh) c74
              replace w := w.2 c74
              refine eb_aload_n (pc := 98) (n := 1) (i := 1) rfl rfl rfl ?_
              refine eb_lload_n (pc := 99) (n := 2) (i := 2) rfl rfl rfl ?_
              refine eb_l2i (pc := 100) rfl ?_
              refine eb_sipush (pc := 101) (n := 300) (v := 300) rfl rfl ?_
              refine eb_isub (pc := 104) rfl ?_
              refine eb_putI (pc := 105) rfl ka1 (by decide) (by decide) rfl rfl ⟨rfl, rfl⟩ ?_
              refine eb_iconst (pc := 108) (n := 0) (v := 0) rfl rfl ?_
              exact eb_ireturn (pc := 109) rfl rfl rfl w
        · replace c67 := (fun hh => mt eb_lc_lt.mpr hh) c67
          replace w := w.2 c67
          refine eb_lload_n (pc := 62) (n := 2) (i := 2) rfl rfl rfl ?_
          refine eb_ldc2 (pc := 63) (a := 300) (v := 300) rfl (by decide) ?_
          refine eb_lcmp (pc := 66) rfl ?_
          refine eb_if_ge (pc := 67) (tgt := 82) rfl (by decide) (fun c80 => ?_) (fun c80 => ?_)
          · replace c80 := eb_lc_ge.mp c80
            replace w := w.1 c80
            refine eb_lload_n (pc := 82) (n := 2) (i := 2) rfl rfl rfl ?_
            refine eb_ldc2 (pc := 83) (a := 300) (v := 300) rfl (by decide) ?_
            refine eb_lcmp (pc := 86) rfl ?_
            refine eb_if_lt (pc := 87) (tgt := 110) rfl (by decide) (fun c81 => ?_) (fun c81 => ?_)
            · replace c81 := eb_lc_lt.mp c81
              replace w := w.1 c81
              refine eb_lload_n (pc := 110) (n := 2) (i := 2) rfl rfl rfl ?_
              refine eb_ldc2 (pc := 111) (a := 1000) (v := 1000) rfl (by decide) ?_
              refine eb_lcmp (pc := 114) rfl ?_
              refine eb_if_lt (pc := 115) (tgt := 126) rfl (by decide) (fun c82 => ?_) (fun c82 => ?_)
              · replace c82 := eb_lc_lt.mp c82
                replace w := w.1 c82
                refine eb_iconst (pc := 126) (n := 1) (v := 1) rfl rfl ?_
                exact eb_ireturn (pc := 127) rfl rfl rfl w
              · replace c82 := (fun hh => mt eb_lc_lt.mpr hh) c82
                replace w := w.2 c82
                refine eb_lload_n (pc := 118) (n := 2) (i := 2) rfl rfl rfl ?_
                refine eb_ldc2 (pc := 119) (a := 2000) (v := 2000) rfl (by decide) ?_
                refine eb_lcmp (pc := 122) rfl ?_
                refine eb_if_lt (pc := 123) (tgt := 128) rfl (by decide) (fun c83 => ?_) (fun c83 => ?_)
                · replace c83 := eb_lc_lt.mp c83
                  replace w := w.1 c83
                  refine eb_lload_n (pc := 128) (n := 2) (i := 2) rfl rfl rfl ?_
                  refine eb_l2i (pc := 129) rfl ?_
                  refine eb_sipush (pc := 130) (n := 1000) (v := 1000) rfl rfl ?_
                  refine eb_isub (pc := 133) rfl ?_
                  refine eb_istore (pc := 134) (i := 4) (ls2 := [(4, .int (x2.toInt32 - 1000)), (0, .ref a0), (1, .ref a1), (2, .long x2)]) (Nat.le_of_ble_eq_true rfl) rfl rfl ?_
                  refine eb_aload_n (pc := 136) (n := 0) (i := 0) rfl rfl rfl ?_
                  refine eb_aload_n (pc := 137) (n := 1) (i := 1) rfl rfl rfl ?_
                  refine eb_iload (pc := 138) (i := 4) rfl rfl ?_
                  refine eb_bipush (pc := 140) (n := 10) (v := 10) rfl rfl ?_
                  refine eb_idiv (pc := 142) (by decide) rfl ?_
                  refine eb_iload (pc := 143) (i := 4) rfl rfl ?_
                  refine eb_bipush (pc := 145) (n := 10) (v := 10) rfl rfl ?_
                  refine eb_irem (pc := 147) (by decide) rfl ?_
                  refine eb_ctV (pc := 148) (As := [.ref a1, .int ((x2.toInt32 - 1000) / 10), .int ((x2.toInt32 - 1000) - (x2.toInt32 - 1000) / 10 * 10)]) (rest := []) rfl (by decide) rfl ka0 (by decide) rfl (Nat.le_of_ble_eq_true rfl) ?_
                  refine eb_Ct.mono w ?_
                  rintro r h84 ⟨y85, rfl, ko86, w⟩
                  change eb_Sn _ _ _ 151 _ [.int y85] _ _
                  exact eb_ireturn (pc := 151) rfl rfl rfl w
                · replace c83 := (fun hh => mt eb_lc_lt.mpr hh) c83
                  replace w := w.2 c83
                  refine eb_iconst (pc := 126) (n := 1) (v := 1) rfl rfl ?_
                  exact eb_ireturn (pc := 127) rfl rfl rfl w
            · replace c81 := (fun hh => mt eb_lc_lt.mpr hh) c81
              replace w := w.2 c81
              refine eb_lload_n (pc := 90) (n := 2) (i := 2) rfl rfl rfl ?_
              refine eb_ldc2 (pc := 91) (a := 309) (v := 309) rfl (by decide) ?_
              refine eb_lcmp (pc := 94) rfl ?_
              refine eb_if_gt (pc := 95) (tgt := 110) rfl (by decide) (fun c87 => ?_) (fun c87 => ?_)
              · replace c87 := eb_lc_gt.mp c87
                replace w := w.1 c87
                refine eb_lload_n (pc := 110) (n := 2) (i := 2) rfl rfl rfl ?_
                refine eb_ldc2 (pc := 111) (a := 1000) (v := 1000) rfl (by decide) ?_
                refine eb_lcmp (pc := 114) rfl ?_
                refine eb_if_lt (pc := 115) (tgt := 126) rfl (by decide) (fun c88 => ?_) (fun c88 => ?_)
                · replace c88 := eb_lc_lt.mp c88
                  replace w := w.1 c88
                  refine eb_iconst (pc := 126) (n := 1) (v := 1) rfl rfl ?_
                  exact eb_ireturn (pc := 127) rfl rfl rfl w
                · replace c88 := (fun hh => mt eb_lc_lt.mpr hh) c88
                  replace w := w.2 c88
                  refine eb_lload_n (pc := 118) (n := 2) (i := 2) rfl rfl rfl ?_
                  refine eb_ldc2 (pc := 119) (a := 2000) (v := 2000) rfl (by decide) ?_
                  refine eb_lcmp (pc := 122) rfl ?_
                  refine eb_if_lt (pc := 123) (tgt := 128) rfl (by decide) (fun c89 => ?_) (fun c89 => ?_)
                  · replace c89 := eb_lc_lt.mp c89
                    replace w := w.1 c89
                    refine eb_lload_n (pc := 128) (n := 2) (i := 2) rfl rfl rfl ?_
                    refine eb_l2i (pc := 129) rfl ?_
                    refine eb_sipush (pc := 130) (n := 1000) (v := 1000) rfl rfl ?_
                    refine eb_isub (pc := 133) rfl ?_
                    refine eb_istore (pc := 134) (i := 4) (ls2 := [(4, .int (x2.toInt32 - 1000)), (0, .ref a0), (1, .ref a1), (2, .long x2)]) (Nat.le_of_ble_eq_true rfl) rfl rfl ?_
                    refine eb_aload_n (pc := 136) (n := 0) (i := 0) rfl rfl rfl ?_
                    refine eb_aload_n (pc := 137) (n := 1) (i := 1) rfl rfl rfl ?_
                    refine eb_iload (pc := 138) (i := 4) rfl rfl ?_
                    refine eb_bipush (pc := 140) (n := 10) (v := 10) rfl rfl ?_
                    refine eb_idiv (pc := 142) (by decide) rfl ?_
                    refine eb_iload (pc := 143) (i := 4) rfl rfl ?_
                    refine eb_bipush (pc := 145) (n := 10) (v := 10) rfl rfl ?_
                    refine eb_irem (pc := 147) (by decide) rfl ?_
                    refine eb_ctV (pc := 148) (As := [.ref a1, .int ((x2.toInt32 - 1000) / 10), .int ((x2.toInt32 - 1000) - (x2.toInt32 - 1000) / 10 * 10)]) (rest := []) rfl (by decide) rfl ka0 (by decide) rfl (Nat.le_of_ble_eq_true rfl) ?_
                    refine eb_Ct.mono w ?_
                    rintro r h90 ⟨y91, rfl, ko92, w⟩
                    change eb_Sn _ _ _ 151 _ [.int y91] _ _
                    exact eb_ireturn (pc := 151) rfl rfl rfl w
                  · replace c89 := (fun hh => mt eb_lc_lt.mpr hh) c89
                    replace w := w.2 c89
                    refine eb_iconst (pc := 126) (n := 1) (v := 1) rfl rfl ?_
                    exact eb_ireturn (pc := 127) rfl rfl rfl w
              · replace c87 := (fun hh => mt eb_lc_gt.mpr hh) c87
                replace w := w.2 c87
                refine eb_aload_n (pc := 98) (n := 1) (i := 1) rfl rfl rfl ?_
                refine eb_lload_n (pc := 99) (n := 2) (i := 2) rfl rfl rfl ?_
                refine eb_l2i (pc := 100) rfl ?_
                refine eb_sipush (pc := 101) (n := 300) (v := 300) rfl rfl ?_
                refine eb_isub (pc := 104) rfl ?_
                refine eb_putI (pc := 105) rfl ka1 (by decide) (by decide) rfl rfl ⟨rfl, rfl⟩ ?_
                refine eb_iconst (pc := 108) (n := 0) (v := 0) rfl rfl ?_
                exact eb_ireturn (pc := 109) rfl rfl rfl w
          · replace c80 := (fun hh => mt eb_lc_ge.mpr hh) c80
            replace w := w.2 c80
            refine eb_aload_n (pc := 70) (n := 0) (i := 0) rfl rfl rfl ?_
            refine eb_aload_n (pc := 71) (n := 1) (i := 1) rfl rfl rfl ?_
            refine eb_lload_n (pc := 72) (n := 2) (i := 2) rfl rfl rfl ?_
            refine eb_l2i (pc := 73) rfl ?_
            refine eb_sipush (pc := 74) (n := 200) (v := 200) rfl rfl ?_
            refine eb_isub (pc := 77) rfl ?_
            refine eb_ctV (pc := 78) (As := [.ref a1, .int (x2.toInt32 - 200)]) (rest := []) rfl (by decide) rfl ka0 (by decide) rfl (Nat.le_of_ble_eq_true rfl) ?_
            refine eb_Ct.mono w ?_
            rintro r h93 ⟨y94, rfl, ko95, w⟩
            change eb_Sn _ _ _ 81 _ [.int y94] _ _
            exact eb_ireturn (pc := 81) rfl rfl rfl w
      · replace c66 := (fun hh => mt eb_lc_lt.mpr hh) c66
        replace w := w.2 c66
        refine eb_lload_n (pc := 35) (n := 2) (i := 2) rfl rfl rfl ?_
        refine eb_ldc2 (pc := 36) (a := 200) (v := 200) rfl (by decide) ?_
        refine eb_lcmp (pc := 39) rfl ?_
        refine eb_if_ge (pc := 40) (tgt := 54) rfl (by decide) (fun c96 => ?_) (fun c96 => ?_)
        · replace c96 := eb_lc_ge.mp c96
          replace w := w.1 c96
          refine eb_lload_n (pc := 54) (n := 2) (i := 2) rfl rfl rfl ?_
          refine eb_ldc2 (pc := 55) (a := 200) (v := 200) rfl (by decide) ?_
          refine eb_lcmp (pc := 58) rfl ?_
          refine eb_if_lt (pc := 59) (tgt := 82) rfl (by decide) (fun c97 => ?_) (fun c97 => ?_)
          · replace c97 := eb_lc_lt.mp c97
            replace w := w.1 c97
            refine eb_lload_n (pc := 82) (n := 2) (i := 2) rfl rfl rfl ?_
            refine eb_ldc2 (pc := 83) (a := 300) (v := 300) rfl (by decide) ?_
            refine eb_lcmp (pc := 86) rfl ?_
            refine eb_if_lt (pc := 87) (tgt := 110) rfl (by decide) (fun c98 => ?_) (fun c98 => ?_)
            · replace c98 := eb_lc_lt.mp c98
              replace w := w.1 c98
              refine eb_lload_n (pc := 110) (n := 2) (i := 2) rfl rfl rfl ?_
              refine eb_ldc2 (pc := 111) (a := 1000) (v := 1000) rfl (by decide) ?_
              refine eb_lcmp (pc := 114) rfl ?_
              refine eb_if_lt (pc := 115) (tgt := 126) rfl (by decide) (fun c99 => ?_) (fun c99 => ?_)
              · replace c99 := eb_lc_lt.mp c99
                replace w := w.1 c99
                refine eb_iconst (pc := 126) (n := 1) (v := 1) rfl rfl ?_
                exact eb_ireturn (pc := 127) rfl rfl rfl w
              · replace c99 := (fun hh => mt eb_lc_lt.mpr hh) c99
                replace w := w.2 c99
                refine eb_lload_n (pc := 118) (n := 2) (i := 2) rfl rfl rfl ?_
                refine eb_ldc2 (pc := 119) (a := 2000) (v := 2000) rfl (by decide) ?_
                refine eb_lcmp (pc := 122) rfl ?_
                refine eb_if_lt (pc := 123) (tgt := 128) rfl (by decide) (fun c100 => ?_) (fun c100 => ?_)
                · replace c100 := eb_lc_lt.mp c100
                  replace w := w.1 c100
                  refine eb_lload_n (pc := 128) (n := 2) (i := 2) rfl rfl rfl ?_
                  refine eb_l2i (pc := 129) rfl ?_
                  refine eb_sipush (pc := 130) (n := 1000) (v := 1000) rfl rfl ?_
                  refine eb_isub (pc := 133) rfl ?_
                  refine eb_istore (pc := 134) (i := 4) (ls2 := [(4, .int (x2.toInt32 - 1000)), (0, .ref a0), (1, .ref a1), (2, .long x2)]) (Nat.le_of_ble_eq_true rfl) rfl rfl ?_
                  refine eb_aload_n (pc := 136) (n := 0) (i := 0) rfl rfl rfl ?_
                  refine eb_aload_n (pc := 137) (n := 1) (i := 1) rfl rfl rfl ?_
                  refine eb_iload (pc := 138) (i := 4) rfl rfl ?_
                  refine eb_bipush (pc := 140) (n := 10) (v := 10) rfl rfl ?_
                  refine eb_idiv (pc := 142) (by decide) rfl ?_
                  refine eb_iload (pc := 143) (i := 4) rfl rfl ?_
                  refine eb_bipush (pc := 145) (n := 10) (v := 10) rfl rfl ?_
                  refine eb_irem (pc := 147) (by decide) rfl ?_
                  refine eb_ctV (pc := 148) (As := [.ref a1, .int ((x2.toInt32 - 1000) / 10), .int ((x2.toInt32 - 1000) - (x2.toInt32 - 1000) / 10 * 10)]) (rest := []) rfl (by decide) rfl ka0 (by decide) rfl (Nat.le_of_ble_eq_true rfl) ?_
                  refine eb_Ct.mono w ?_
                  rintro r h101 ⟨y102, rfl, ko103, w⟩
                  change eb_Sn _ _ _ 151 _ [.int y102] _ _
                  exact eb_ireturn (pc := 151) rfl rfl rfl w
                · replace c100 := (fun hh => mt eb_lc_lt.mpr hh) c100
                  replace w := w.2 c100
                  refine eb_iconst (pc := 126) (n := 1) (v := 1) rfl rfl ?_
                  exact eb_ireturn (pc := 127) rfl rfl rfl w
            · replace c98 := (fun hh => mt eb_lc_lt.mpr hh) c98
              replace w := w.2 c98
              refine eb_lload_n (pc := 90) (n := 2) (i := 2) rfl rfl rfl ?_
              refine eb_ldc2 (pc := 91) (a := 309) (v := 309) rfl (by decide) ?_
              refine eb_lcmp (pc := 94) rfl ?_
              refine eb_if_gt (pc := 95) (tgt := 110) rfl (by decide) (fun c104 => ?_) (fun c104 => ?_)
              · replace c104 := eb_lc_gt.mp c104
                replace w := w.1 c104
                refine eb_lload_n (pc := 110) (n := 2) (i := 2) rfl rfl rfl ?_
                refine eb_ldc2 (pc := 111) (a := 1000) (v := 1000) rfl (by decide) ?_
                refine eb_lcmp (pc := 114) rfl ?_
                refine eb_if_lt (pc := 115) (tgt := 126) rfl (by decide) (fun c105 => ?_) (fun c105 => ?_)
                · replace c105 := eb_lc_lt.mp c105
                  replace w := w.1 c105
                  refine eb_iconst (pc := 126) (n := 1) (v := 1) rfl rfl ?_
                  exact eb_ireturn (pc := 127) rfl rfl rfl w
                · replace c105 := (fun hh => mt eb_lc_lt.mpr hh) c105
                  replace w := w.2 c105
                  refine eb_lload_n (pc := 118) (n := 2) (i := 2) rfl rfl rfl ?_
                  refine eb_ldc2 (pc := 119) (a := 2000) (v := 2000) rfl (by decide) ?_
                  refine eb_lcmp (pc := 122) rfl ?_
                  refine eb_if_lt (pc := 123) (tgt := 128) rfl (by decide) (fun c106 => ?_) (fun c106 => ?_)
                  · replace c106 := eb_lc_lt.mp c106
                    replace w := w.1 c106
                    refine eb_lload_n (pc := 128) (n := 2) (i := 2) rfl rfl rfl ?_
                    refine eb_l2i (pc := 129) rfl ?_
                    refine eb_sipush (pc := 130) (n := 1000) (v := 1000) rfl rfl ?_
                    refine eb_isub (pc := 133) rfl ?_
                    refine eb_istore (pc := 134) (i := 4) (ls2 := [(4, .int (x2.toInt32 - 1000)), (0, .ref a0), (1, .ref a1), (2, .long x2)]) (Nat.le_of_ble_eq_true rfl) rfl rfl ?_
                    refine eb_aload_n (pc := 136) (n := 0) (i := 0) rfl rfl rfl ?_
                    refine eb_aload_n (pc := 137) (n := 1) (i := 1) rfl rfl rfl ?_
                    refine eb_iload (pc := 138) (i := 4) rfl rfl ?_
                    refine eb_bipush (pc := 140) (n := 10) (v := 10) rfl rfl ?_
                    refine eb_idiv (pc := 142) (by decide) rfl ?_
                    refine eb_iload (pc := 143) (i := 4) rfl rfl ?_
                    refine eb_bipush (pc := 145) (n := 10) (v := 10) rfl rfl ?_
                    refine eb_irem (pc := 147) (by decide) rfl ?_
                    refine eb_ctV (pc := 148) (As := [.ref a1, .int ((x2.toInt32 - 1000) / 10), .int ((x2.toInt32 - 1000) - (x2.toInt32 - 1000) / 10 * 10)]) (rest := []) rfl (by decide) rfl ka0 (by decide) rfl (Nat.le_of_ble_eq_true rfl) ?_
                    refine eb_Ct.mono w ?_
                    rintro r h107 ⟨y108, rfl, ko109, w⟩
                    change eb_Sn _ _ _ 151 _ [.int y108] _ _
                    exact eb_ireturn (pc := 151) rfl rfl rfl w
                  · replace c106 := (fun hh => mt eb_lc_lt.mpr hh) c106
                    replace w := w.2 c106
                    refine eb_iconst (pc := 126) (n := 1) (v := 1) rfl rfl ?_
                    exact eb_ireturn (pc := 127) rfl rfl rfl w
              · replace c104 := (fun hh => mt eb_lc_gt.mpr hh) c104
                replace w := w.2 c104
                refine eb_aload_n (pc := 98) (n := 1) (i := 1) rfl rfl rfl ?_
                refine eb_lload_n (pc := 99) (n := 2) (i := 2) rfl rfl rfl ?_
                refine eb_l2i (pc := 100) rfl ?_
                refine eb_sipush (pc := 101) (n := 300) (v := 300) rfl rfl ?_
                refine eb_isub (pc := 104) rfl ?_
                refine eb_putI (pc := 105) rfl ka1 (by decide) (by decide) rfl rfl ⟨rfl, rfl⟩ ?_
                refine eb_iconst (pc := 108) (n := 0) (v := 0) rfl rfl ?_
                exact eb_ireturn (pc := 109) rfl rfl rfl w
          · replace c97 := (fun hh => mt eb_lc_lt.mpr hh) c97
            replace w := w.2 c97
            refine eb_lload_n (pc := 62) (n := 2) (i := 2) rfl rfl rfl ?_
            refine eb_ldc2 (pc := 63) (a := 300) (v := 300) rfl (by decide) ?_
            refine eb_lcmp (pc := 66) rfl ?_
            refine eb_if_ge (pc := 67) (tgt := 82) rfl (by decide) (fun c110 => ?_) (fun c110 => ?_)
            · replace c110 := eb_lc_ge.mp c110
              replace w := w.1 c110
              refine eb_lload_n (pc := 82) (n := 2) (i := 2) rfl rfl rfl ?_
              refine eb_ldc2 (pc := 83) (a := 300) (v := 300) rfl (by decide) ?_
              refine eb_lcmp (pc := 86) rfl ?_
              refine eb_if_lt (pc := 87) (tgt := 110) rfl (by decide) (fun c111 => ?_) (fun c111 => ?_)
              · replace c111 := eb_lc_lt.mp c111
                replace w := w.1 c111
                refine eb_lload_n (pc := 110) (n := 2) (i := 2) rfl rfl rfl ?_
                refine eb_ldc2 (pc := 111) (a := 1000) (v := 1000) rfl (by decide) ?_
                refine eb_lcmp (pc := 114) rfl ?_
                refine eb_if_lt (pc := 115) (tgt := 126) rfl (by decide) (fun c112 => ?_) (fun c112 => ?_)
                · replace c112 := eb_lc_lt.mp c112
                  replace w := w.1 c112
                  refine eb_iconst (pc := 126) (n := 1) (v := 1) rfl rfl ?_
                  exact eb_ireturn (pc := 127) rfl rfl rfl w
                · replace c112 := (fun hh => mt eb_lc_lt.mpr hh) c112
                  replace w := w.2 c112
                  refine eb_lload_n (pc := 118) (n := 2) (i := 2) rfl rfl rfl ?_
                  refine eb_ldc2 (pc := 119) (a := 2000) (v := 2000) rfl (by decide) ?_
                  refine eb_lcmp (pc := 122) rfl ?_
                  refine eb_if_lt (pc := 123) (tgt := 128) rfl (by decide) (fun c113 => ?_) (fun c113 => ?_)
                  · replace c113 := eb_lc_lt.mp c113
                    replace w := w.1 c113
                    refine eb_lload_n (pc := 128) (n := 2) (i := 2) rfl rfl rfl ?_
                    refine eb_l2i (pc := 129) rfl ?_
                    refine eb_sipush (pc := 130) (n := 1000) (v := 1000) rfl rfl ?_
                    refine eb_isub (pc := 133) rfl ?_
                    refine eb_istore (pc := 134) (i := 4) (ls2 := [(4, .int (x2.toInt32 - 1000)), (0, .ref a0), (1, .ref a1), (2, .long x2)]) (Nat.le_of_ble_eq_true rfl) rfl rfl ?_
                    refine eb_aload_n (pc := 136) (n := 0) (i := 0) rfl rfl rfl ?_
                    refine eb_aload_n (pc := 137) (n := 1) (i := 1) rfl rfl rfl ?_
                    refine eb_iload (pc := 138) (i := 4) rfl rfl ?_
                    refine eb_bipush (pc := 140) (n := 10) (v := 10) rfl rfl ?_
                    refine eb_idiv (pc := 142) (by decide) rfl ?_
                    refine eb_iload (pc := 143) (i := 4) rfl rfl ?_
                    refine eb_bipush (pc := 145) (n := 10) (v := 10) rfl rfl ?_
                    refine eb_irem (pc := 147) (by decide) rfl ?_
                    refine eb_ctV (pc := 148) (As := [.ref a1, .int ((x2.toInt32 - 1000) / 10), .int ((x2.toInt32 - 1000) - (x2.toInt32 - 1000) / 10 * 10)]) (rest := []) rfl (by decide) rfl ka0 (by decide) rfl (Nat.le_of_ble_eq_true rfl) ?_
                    refine eb_Ct.mono w ?_
                    rintro r h114 ⟨y115, rfl, ko116, w⟩
                    change eb_Sn _ _ _ 151 _ [.int y115] _ _
                    exact eb_ireturn (pc := 151) rfl rfl rfl w
                  · replace c113 := (fun hh => mt eb_lc_lt.mpr hh) c113
                    replace w := w.2 c113
                    refine eb_iconst (pc := 126) (n := 1) (v := 1) rfl rfl ?_
                    exact eb_ireturn (pc := 127) rfl rfl rfl w
              · replace c111 := (fun hh => mt eb_lc_lt.mpr hh) c111
                replace w := w.2 c111
                refine eb_lload_n (pc := 90) (n := 2) (i := 2) rfl rfl rfl ?_
                refine eb_ldc2 (pc := 91) (a := 309) (v := 309) rfl (by decide) ?_
                refine eb_lcmp (pc := 94) rfl ?_
                refine eb_if_gt (pc := 95) (tgt := 110) rfl (by decide) (fun c117 => ?_) (fun c117 => ?_)
                · replace c117 := eb_lc_gt.mp c117
                  replace w := w.1 c117
                  refine eb_lload_n (pc := 110) (n := 2) (i := 2) rfl rfl rfl ?_
                  refine eb_ldc2 (pc := 111) (a := 1000) (v := 1000) rfl (by decide) ?_
                  refine eb_lcmp (pc := 114) rfl ?_
                  refine eb_if_lt (pc := 115) (tgt := 126) rfl (by decide) (fun c118 => ?_) (fun c118 => ?_)
                  · replace c118 := eb_lc_lt.mp c118
                    replace w := w.1 c118
                    refine eb_iconst (pc := 126) (n := 1) (v := 1) rfl rfl ?_
                    exact eb_ireturn (pc := 127) rfl rfl rfl w
                  · replace c118 := (fun hh => mt eb_lc_lt.mpr hh) c118
                    replace w := w.2 c118
                    refine eb_lload_n (pc := 118) (n := 2) (i := 2) rfl rfl rfl ?_
                    refine eb_ldc2 (pc := 119) (a := 2000) (v := 2000) rfl (by decide) ?_
                    refine eb_lcmp (pc := 122) rfl ?_
                    refine eb_if_lt (pc := 123) (tgt := 128) rfl (by decide) (fun c119 => ?_) (fun c119 => ?_)
                    · replace c119 := eb_lc_lt.mp c119
                      replace w := w.1 c119
                      refine eb_lload_n (pc := 128) (n := 2) (i := 2) rfl rfl rfl ?_
                      refine eb_l2i (pc := 129) rfl ?_
                      refine eb_sipush (pc := 130) (n := 1000) (v := 1000) rfl rfl ?_
                      refine eb_isub (pc := 133) rfl ?_
                      refine eb_istore (pc := 134) (i := 4) (ls2 := [(4, .int (x2.toInt32 - 1000)), (0, .ref a0), (1, .ref a1), (2, .long x2)]) (Nat.le_of_ble_eq_true rfl) rfl rfl ?_
                      refine eb_aload_n (pc := 136) (n := 0) (i := 0) rfl rfl rfl ?_
                      refine eb_aload_n (pc := 137) (n := 1) (i := 1) rfl rfl rfl ?_
                      refine eb_iload (pc := 138) (i := 4) rfl rfl ?_
                      refine eb_bipush (pc := 140) (n := 10) (v := 10) rfl rfl ?_
                      refine eb_idiv (pc := 142) (by decide) rfl ?_
                      refine eb_iload (pc := 143) (i := 4) rfl rfl ?_
                      refine eb_bipush (pc := 145) (n := 10) (v := 10) rfl rfl ?_
                      refine eb_irem (pc := 147) (by decide) rfl ?_
                      refine eb_ctV (pc := 148) (As := [.ref a1, .int ((x2.toInt32 - 1000) / 10), .int ((x2.toInt32 - 1000) - (x2.toInt32 - 1000) / 10 * 10)]) (rest := []) rfl (by decide) rfl ka0 (by decide) rfl (Nat.le_of_ble_eq_true rfl) ?_
                      refine eb_Ct.mono w ?_
                      rintro r h120 ⟨y121, rfl, ko122, w⟩
                      change eb_Sn _ _ _ 151 _ [.int y121] _ _
                      exact eb_ireturn (pc := 151) rfl rfl rfl w
                    · replace c119 := (fun hh => mt eb_lc_lt.mpr hh) c119
                      replace w := w.2 c119
                      refine eb_iconst (pc := 126) (n := 1) (v := 1) rfl rfl ?_
                      exact eb_ireturn (pc := 127) rfl rfl rfl w
                · replace c117 := (fun hh => mt eb_lc_gt.mpr hh) c117
                  replace w := w.2 c117
                  refine eb_aload_n (pc := 98) (n := 1) (i := 1) rfl rfl rfl ?_
                  refine eb_lload_n (pc := 99) (n := 2) (i := 2) rfl rfl rfl ?_
                  refine eb_l2i (pc := 100) rfl ?_
                  refine eb_sipush (pc := 101) (n := 300) (v := 300) rfl rfl ?_
                  refine eb_isub (pc := 104) rfl ?_
                  refine eb_putI (pc := 105) rfl ka1 (by decide) (by decide) rfl rfl ⟨rfl, rfl⟩ ?_
                  refine eb_iconst (pc := 108) (n := 0) (v := 0) rfl rfl ?_
                  exact eb_ireturn (pc := 109) rfl rfl rfl w
            · replace c110 := (fun hh => mt eb_lc_ge.mpr hh) c110
              replace w := w.2 c110
              refine eb_aload_n (pc := 70) (n := 0) (i := 0) rfl rfl rfl ?_
              refine eb_aload_n (pc := 71) (n := 1) (i := 1) rfl rfl rfl ?_
              refine eb_lload_n (pc := 72) (n := 2) (i := 2) rfl rfl rfl ?_
              refine eb_l2i (pc := 73) rfl ?_
              refine eb_sipush (pc := 74) (n := 200) (v := 200) rfl rfl ?_
              refine eb_isub (pc := 77) rfl ?_
              refine eb_ctV (pc := 78) (As := [.ref a1, .int (x2.toInt32 - 200)]) (rest := []) rfl (by decide) rfl ka0 (by decide) rfl (Nat.le_of_ble_eq_true rfl) ?_
              refine eb_Ct.mono w ?_
              rintro r h123 ⟨y124, rfl, ko125, w⟩
              change eb_Sn _ _ _ 81 _ [.int y124] _ _
              exact eb_ireturn (pc := 81) rfl rfl rfl w
        · replace c96 := (fun hh => mt eb_lc_ge.mpr hh) c96
          replace w := w.2 c96
          refine eb_aload_n (pc := 43) (n := 0) (i := 0) rfl rfl rfl ?_
          refine eb_aload_n (pc := 44) (n := 1) (i := 1) rfl rfl rfl ?_
          refine eb_lload_n (pc := 45) (n := 2) (i := 2) rfl rfl rfl ?_
          refine eb_l2i (pc := 46) rfl ?_
          refine eb_bipush (pc := 47) (n := 100) (v := 100) rfl rfl ?_
          refine eb_isub (pc := 49) rfl ?_
          refine eb_ctV (pc := 50) (As := [.ref a1, .int (x2.toInt32 - 100)]) (rest := []) rfl (by decide) rfl ka0 (by decide) rfl (Nat.le_of_ble_eq_true rfl) ?_
          refine eb_Ct.mono w ?_
          rintro r h126 ⟨y127, rfl, ko128, w⟩
          change eb_Sn _ _ _ 53 _ [.int y127] _ _
          exact eb_ireturn (pc := 53) rfl rfl rfl w
    · replace c65 := (fun hh => mt eb_lc_ge.mpr hh) c65
      replace w := w.2 c65
      refine eb_iconst (pc := 14) (n := 0) (v := 0) rfl rfl ?_
      refine eb_aload_n (pc := 15) (n := 0) (i := 0) rfl rfl rfl ?_
      refine eb_aload_n (pc := 16) (n := 1) (i := 1) rfl rfl rfl ?_
      refine eb_lload_n (pc := 17) (n := 2) (i := 2) rfl rfl rfl ?_
      refine eb_l2i (pc := 18) rfl ?_
      refine eb_ctV (pc := 19) (As := [.ref a1, .int x2.toInt32]) (rest := [.int 0]) rfl (by decide) rfl ka0 (by decide) rfl (Nat.le_of_ble_eq_true rfl) ?_
      refine eb_Ct.mono w ?_
      rintro r h129 ⟨y130, rfl, ko131, w⟩
      change eb_Sn _ _ _ 22 _ [.int y130, .int 0] _ _
      refine eb_ineg (pc := 22) rfl ?_
      refine eb_ctS (pc := 23) (As := [.int 0, .int (-y130)]) (rest := []) rfl (by decide) (by decide) rfl rfl (Nat.le_of_ble_eq_true rfl) ?_
      refine eb_bodyQ (by decide) ok_J9_max_7cf53 (Nat.le_of_ble_eq_true rfl) ?_
      change eb_Sn _ m_J9_max_7cf53 _ 0 [(0, .int 0), (1, .int (-y130))] [] _ _
      refine eb_iload_n (pc := 0) (n := 0) (i := 0) rfl rfl rfl ?_
      refine eb_iload_n (pc := 1) (n := 1) (i := 1) rfl rfl rfl ?_
      refine eb_joinI (pc2 := 10) (ls2 := [(0, .int 0), (1, .int (-y130))]) (st2 := []) (v := (if (0 : Int32) < (-y130) then -y130 else 0 : Int32)) ?_ (fun jj133 => ?_)
      · refine eb_ireturn (pc := 10) rfl rfl rfl ?_
        change eb_Sn _ _ _ 26 _ [.int (if (0 : Int32) < (-y130) then -y130 else 0 : Int32)] _ _
        exact eb_ireturn (pc := 26) rfl rfl rfl w
      refine eb_icmp_lt (pc := 2) (tgt := 9) rfl (by decide) (fun c132 => ?_) (fun c132 => ?_)
      · refine eb_iload_n (pc := 9) (n := 1) (i := 1) rfl rfl rfl ?_
        exact jj133 _ (by simp only [if_pos c132])
      · refine eb_iload_n (pc := 5) (n := 0) (i := 0) rfl rfl rfl ?_
        refine eb_goto (pc := 6) (tgt := 10) rfl (by decide) ?_
        exact jj133 _ (by simp only [if_neg c132])
theorem T_X9_doDeed {d : Nat} {h : eb_H} {Q : Option Value → eb_H → Prop} (a0 : Nat) (a1 : Nat) (x2 : Int64) (ka0 : eb_kd a0 = 9) (ka1 : eb_kd a1 = 6) (ko : eb_KO h) (w : ((x2 < 0 → ((x2 < 100 → ((x2 < 200 → ((x2 < 300 → ((x2 < 1000 → Q (some (.int 1)) h) ∧ (¬ (x2 < 1000) → ((x2 < 2000 → eb_Ct d 94 [.ref a0, .ref a1, .int ((x2.toInt32 - 1000) / 10), .int ((x2.toInt32 - 1000) - (x2.toInt32 - 1000) / 10 * 10)] h (fun r h7 => ∃ y8, r = some (.int y8) ∧ eb_KO h7 ∧ Q (some (.int y8)) h7)) ∧ (¬ (x2 < 2000) → Q (some (.int 1)) h))))) ∧ (¬ (x2 < 300) → ((309 < x2 → ((x2 < 1000 → Q (some (.int 1)) h) ∧ (¬ (x2 < 1000) → ((x2 < 2000 → eb_Ct d 94 [.ref a0, .ref a1, .int ((x2.toInt32 - 1000) / 10), .int ((x2.toInt32 - 1000) - (x2.toInt32 - 1000) / 10 * 10)] h (fun r h13 => ∃ y14, r = some (.int y14) ∧ eb_KO h13 ∧ Q (some (.int y14)) h13)) ∧ (¬ (x2 < 2000) → Q (some (.int 1)) h))))) ∧ (¬ (309 < x2) → Q (some (.int 0)) (eb_sI h a1 4 (x2.toInt32 - 300))))))) ∧ (¬ (x2 < 200) → ((300 ≤ x2 → ((x2 < 300 → ((x2 < 1000 → Q (some (.int 1)) h) ∧ (¬ (x2 < 1000) → ((x2 < 2000 → eb_Ct d 94 [.ref a0, .ref a1, .int ((x2.toInt32 - 1000) / 10), .int ((x2.toInt32 - 1000) - (x2.toInt32 - 1000) / 10 * 10)] h (fun r h20 => ∃ y21, r = some (.int y21) ∧ eb_KO h20 ∧ Q (some (.int y21)) h20)) ∧ (¬ (x2 < 2000) → Q (some (.int 1)) h))))) ∧ (¬ (x2 < 300) → ((309 < x2 → ((x2 < 1000 → Q (some (.int 1)) h) ∧ (¬ (x2 < 1000) → ((x2 < 2000 → eb_Ct d 94 [.ref a0, .ref a1, .int ((x2.toInt32 - 1000) / 10), .int ((x2.toInt32 - 1000) - (x2.toInt32 - 1000) / 10 * 10)] h (fun r h26 => ∃ y27, r = some (.int y27) ∧ eb_KO h26 ∧ Q (some (.int y27)) h26)) ∧ (¬ (x2 < 2000) → Q (some (.int 1)) h))))) ∧ (¬ (309 < x2) → Q (some (.int 0)) (eb_sI h a1 4 (x2.toInt32 - 300))))))) ∧ (¬ (300 ≤ x2) → eb_Ct d 93 [.ref a0, .ref a1, .int (x2.toInt32 - 200)] h (fun r h29 => ∃ y30, r = some (.int y30) ∧ eb_KO h29 ∧ Q (some (.int y30)) h29)))))) ∧ (¬ (x2 < 100) → ((200 ≤ x2 → ((x2 < 200 → ((x2 < 300 → ((x2 < 1000 → Q (some (.int 1)) h) ∧ (¬ (x2 < 1000) → ((x2 < 2000 → eb_Ct d 94 [.ref a0, .ref a1, .int ((x2.toInt32 - 1000) / 10), .int ((x2.toInt32 - 1000) - (x2.toInt32 - 1000) / 10 * 10)] h (fun r h37 => ∃ y38, r = some (.int y38) ∧ eb_KO h37 ∧ Q (some (.int y38)) h37)) ∧ (¬ (x2 < 2000) → Q (some (.int 1)) h))))) ∧ (¬ (x2 < 300) → ((309 < x2 → ((x2 < 1000 → Q (some (.int 1)) h) ∧ (¬ (x2 < 1000) → ((x2 < 2000 → eb_Ct d 94 [.ref a0, .ref a1, .int ((x2.toInt32 - 1000) / 10), .int ((x2.toInt32 - 1000) - (x2.toInt32 - 1000) / 10 * 10)] h (fun r h43 => ∃ y44, r = some (.int y44) ∧ eb_KO h43 ∧ Q (some (.int y44)) h43)) ∧ (¬ (x2 < 2000) → Q (some (.int 1)) h))))) ∧ (¬ (309 < x2) → Q (some (.int 0)) (eb_sI h a1 4 (x2.toInt32 - 300))))))) ∧ (¬ (x2 < 200) → ((300 ≤ x2 → ((x2 < 300 → ((x2 < 1000 → Q (some (.int 1)) h) ∧ (¬ (x2 < 1000) → ((x2 < 2000 → eb_Ct d 94 [.ref a0, .ref a1, .int ((x2.toInt32 - 1000) / 10), .int ((x2.toInt32 - 1000) - (x2.toInt32 - 1000) / 10 * 10)] h (fun r h50 => ∃ y51, r = some (.int y51) ∧ eb_KO h50 ∧ Q (some (.int y51)) h50)) ∧ (¬ (x2 < 2000) → Q (some (.int 1)) h))))) ∧ (¬ (x2 < 300) → ((309 < x2 → ((x2 < 1000 → Q (some (.int 1)) h) ∧ (¬ (x2 < 1000) → ((x2 < 2000 → eb_Ct d 94 [.ref a0, .ref a1, .int ((x2.toInt32 - 1000) / 10), .int ((x2.toInt32 - 1000) - (x2.toInt32 - 1000) / 10 * 10)] h (fun r h56 => ∃ y57, r = some (.int y57) ∧ eb_KO h56 ∧ Q (some (.int y57)) h56)) ∧ (¬ (x2 < 2000) → Q (some (.int 1)) h))))) ∧ (¬ (309 < x2) → Q (some (.int 0)) (eb_sI h a1 4 (x2.toInt32 - 300))))))) ∧ (¬ (300 ≤ x2) → eb_Ct d 93 [.ref a0, .ref a1, .int (x2.toInt32 - 200)] h (fun r h59 => ∃ y60, r = some (.int y60) ∧ eb_KO h59 ∧ Q (some (.int y60)) h59)))))) ∧ (¬ (200 ≤ x2) → eb_Ct d 92 [.ref a0, .ref a1, .int (x2.toInt32 - 100)] h (fun r h62 => ∃ y63, r = some (.int y63) ∧ eb_KO h62 ∧ Q (some (.int y63)) h62)))))) ∧ (¬ (x2 < 0) → ((4 ≤ x2 → ((x2 < 100 → ((x2 < 200 → ((x2 < 300 → ((x2 < 1000 → Q (some (.int 1)) h) ∧ (¬ (x2 < 1000) → ((x2 < 2000 → eb_Ct d 94 [.ref a0, .ref a1, .int ((x2.toInt32 - 1000) / 10), .int ((x2.toInt32 - 1000) - (x2.toInt32 - 1000) / 10 * 10)] h (fun r h71 => ∃ y72, r = some (.int y72) ∧ eb_KO h71 ∧ Q (some (.int y72)) h71)) ∧ (¬ (x2 < 2000) → Q (some (.int 1)) h))))) ∧ (¬ (x2 < 300) → ((309 < x2 → ((x2 < 1000 → Q (some (.int 1)) h) ∧ (¬ (x2 < 1000) → ((x2 < 2000 → eb_Ct d 94 [.ref a0, .ref a1, .int ((x2.toInt32 - 1000) / 10), .int ((x2.toInt32 - 1000) - (x2.toInt32 - 1000) / 10 * 10)] h (fun r h77 => ∃ y78, r = some (.int y78) ∧ eb_KO h77 ∧ Q (some (.int y78)) h77)) ∧ (¬ (x2 < 2000) → Q (some (.int 1)) h))))) ∧ (¬ (309 < x2) → Q (some (.int 0)) (eb_sI h a1 4 (x2.toInt32 - 300))))))) ∧ (¬ (x2 < 200) → ((300 ≤ x2 → ((x2 < 300 → ((x2 < 1000 → Q (some (.int 1)) h) ∧ (¬ (x2 < 1000) → ((x2 < 2000 → eb_Ct d 94 [.ref a0, .ref a1, .int ((x2.toInt32 - 1000) / 10), .int ((x2.toInt32 - 1000) - (x2.toInt32 - 1000) / 10 * 10)] h (fun r h84 => ∃ y85, r = some (.int y85) ∧ eb_KO h84 ∧ Q (some (.int y85)) h84)) ∧ (¬ (x2 < 2000) → Q (some (.int 1)) h))))) ∧ (¬ (x2 < 300) → ((309 < x2 → ((x2 < 1000 → Q (some (.int 1)) h) ∧ (¬ (x2 < 1000) → ((x2 < 2000 → eb_Ct d 94 [.ref a0, .ref a1, .int ((x2.toInt32 - 1000) / 10), .int ((x2.toInt32 - 1000) - (x2.toInt32 - 1000) / 10 * 10)] h (fun r h90 => ∃ y91, r = some (.int y91) ∧ eb_KO h90 ∧ Q (some (.int y91)) h90)) ∧ (¬ (x2 < 2000) → Q (some (.int 1)) h))))) ∧ (¬ (309 < x2) → Q (some (.int 0)) (eb_sI h a1 4 (x2.toInt32 - 300))))))) ∧ (¬ (300 ≤ x2) → eb_Ct d 93 [.ref a0, .ref a1, .int (x2.toInt32 - 200)] h (fun r h93 => ∃ y94, r = some (.int y94) ∧ eb_KO h93 ∧ Q (some (.int y94)) h93)))))) ∧ (¬ (x2 < 100) → ((200 ≤ x2 → ((x2 < 200 → ((x2 < 300 → ((x2 < 1000 → Q (some (.int 1)) h) ∧ (¬ (x2 < 1000) → ((x2 < 2000 → eb_Ct d 94 [.ref a0, .ref a1, .int ((x2.toInt32 - 1000) / 10), .int ((x2.toInt32 - 1000) - (x2.toInt32 - 1000) / 10 * 10)] h (fun r h101 => ∃ y102, r = some (.int y102) ∧ eb_KO h101 ∧ Q (some (.int y102)) h101)) ∧ (¬ (x2 < 2000) → Q (some (.int 1)) h))))) ∧ (¬ (x2 < 300) → ((309 < x2 → ((x2 < 1000 → Q (some (.int 1)) h) ∧ (¬ (x2 < 1000) → ((x2 < 2000 → eb_Ct d 94 [.ref a0, .ref a1, .int ((x2.toInt32 - 1000) / 10), .int ((x2.toInt32 - 1000) - (x2.toInt32 - 1000) / 10 * 10)] h (fun r h107 => ∃ y108, r = some (.int y108) ∧ eb_KO h107 ∧ Q (some (.int y108)) h107)) ∧ (¬ (x2 < 2000) → Q (some (.int 1)) h))))) ∧ (¬ (309 < x2) → Q (some (.int 0)) (eb_sI h a1 4 (x2.toInt32 - 300))))))) ∧ (¬ (x2 < 200) → ((300 ≤ x2 → ((x2 < 300 → ((x2 < 1000 → Q (some (.int 1)) h) ∧ (¬ (x2 < 1000) → ((x2 < 2000 → eb_Ct d 94 [.ref a0, .ref a1, .int ((x2.toInt32 - 1000) / 10), .int ((x2.toInt32 - 1000) - (x2.toInt32 - 1000) / 10 * 10)] h (fun r h114 => ∃ y115, r = some (.int y115) ∧ eb_KO h114 ∧ Q (some (.int y115)) h114)) ∧ (¬ (x2 < 2000) → Q (some (.int 1)) h))))) ∧ (¬ (x2 < 300) → ((309 < x2 → ((x2 < 1000 → Q (some (.int 1)) h) ∧ (¬ (x2 < 1000) → ((x2 < 2000 → eb_Ct d 94 [.ref a0, .ref a1, .int ((x2.toInt32 - 1000) / 10), .int ((x2.toInt32 - 1000) - (x2.toInt32 - 1000) / 10 * 10)] h (fun r h120 => ∃ y121, r = some (.int y121) ∧ eb_KO h120 ∧ Q (some (.int y121)) h120)) ∧ (¬ (x2 < 2000) → Q (some (.int 1)) h))))) ∧ (¬ (309 < x2) → Q (some (.int 0)) (eb_sI h a1 4 (x2.toInt32 - 300))))))) ∧ (¬ (300 ≤ x2) → eb_Ct d 93 [.ref a0, .ref a1, .int (x2.toInt32 - 200)] h (fun r h123 => ∃ y124, r = some (.int y124) ∧ eb_KO h123 ∧ Q (some (.int y124)) h123)))))) ∧ (¬ (200 ≤ x2) → eb_Ct d 92 [.ref a0, .ref a1, .int (x2.toInt32 - 100)] h (fun r h126 => ∃ y127, r = some (.int y127) ∧ eb_KO h126 ∧ Q (some (.int y127)) h126)))))) ∧ (¬ (4 ≤ x2) → eb_Ct d 90 [.ref a0, .ref a1, .int x2.toInt32] h (fun r h129 => ∃ y130, r = some (.int y130) ∧ eb_KO h129 ∧ Q (some (.int (if (0 : Int32) < (-y130) then -y130 else 0 : Int32))) h129)))))) : eb_Ct (d + 1) 91 [.ref a0, .ref a1, .long x2] h Q :=
  eb_bodyQ (by decide) ok_X9_doDeed (Nat.le_of_ble_eq_true rfl) (b_X9_doDeed_0 (h0 := h) a0 a1 x2 ka0 ka1 ko w)
theorem b_X9_letGo_0 {d : Nat} {h0 h : eb_H} {Q : Option Value → eb_H → Prop} (a0 : Nat) (a1 : Nat) (x2 : Int32) (ka0 : eb_kd a0 = 9) (ka1 : eb_kd a1 = 6) (ko : eb_KO h) (w : (((¬ (x2 < 0)) ∧ (¬ (((eb_I h a0 0) * (eb_I h a0 1)) ≤ x2)) → Q (some (.int 0)) (eb_sI (eb_sI h a1 0 x2) a1 1 0)) ∧ (¬ ((¬ (x2 < 0)) ∧ (¬ (((eb_I h a0 0) * (eb_I h a0 1)) ≤ x2))) → Q (some (.int 1)) h))) : eb_Sn (d + 1) m_X9_letGo h0 0 [(0, .ref a0), (1, .ref a1), (2, .int x2)] [] h Q := by
  refine eb_aload_n (pc := 0) (n := 0) (i := 0) rfl rfl rfl ?_
  refine eb_iload_n (pc := 1) (n := 2) (i := 2) rfl rfl rfl ?_
  refine eb_joinI (pc2 := 5) (ls2 := [(0, .ref a0), (1, .ref a1), (2, .int x2)]) (st2 := []) (v := eb_q ((¬ (x2 < 0)) ∧ (¬ (((eb_I h a0 0) * (eb_I h a0 1)) ≤ x2)))) ?_ (fun jj4 => ?_)
  · refine eb_if_ne (pc := 5) (tgt := 10) rfl (by decide) (fun c3 => ?_) (fun c3 => ?_)
    · replace c3 := eb_q1.mp c3
      replace w := w.1 c3
      refine eb_aload_n (pc := 10) (n := 1) (i := 1) rfl rfl rfl ?_
      refine eb_iload_n (pc := 11) (n := 2) (i := 2) rfl rfl rfl ?_
      refine eb_putI (pc := 12) rfl ka1 (by decide) (by decide) rfl rfl ⟨rfl, rfl⟩ ?_
      refine eb_aload_n (pc := 15) (n := 1) (i := 1) rfl rfl rfl ?_
      refine eb_iconst (pc := 16) (n := 0) (v := 0) rfl rfl ?_
      refine eb_putI (pc := 17) rfl ka1 (by decide) (by decide) rfl rfl ⟨rfl, rfl⟩ ?_
      refine eb_iconst (pc := 20) (n := 0) (v := 0) rfl rfl ?_
      exact eb_ireturn (pc := 21) rfl rfl rfl w
    · replace c3 := eb_q0.mp c3
      replace w := w.2 c3
      refine eb_iconst (pc := 8) (n := 1) (v := 1) rfl rfl ?_
      exact eb_ireturn (pc := 9) rfl rfl rfl w
  refine eb_ctV (pc := 2) (As := [.int x2]) (rest := []) rfl (by decide) rfl ka0 (by decide) rfl (Nat.le_of_ble_eq_true rfl) ?_
  refine eb_bodyQ (by decide) ok_X9_has (Nat.le_of_ble_eq_true rfl) ?_
  change eb_Sn _ m_X9_has _ 0 [(0, .ref a0), (1, .int x2)] [] _ _
  refine eb_iload_n (pc := 0) (n := 1) (i := 1) rfl rfl rfl ?_
  refine eb_if_lt (pc := 1) (tgt := 21) rfl (by decide) (fun c1 => ?_) (fun c1 => ?_)
  · refine eb_iconst (pc := 21) (n := 0) (v := 0) rfl rfl ?_
    refine eb_ireturn (pc := 22) rfl rfl (by decide) ?_
    change eb_Sn _ _ _ 5 _ _ _ _
    exact jj4 0 (eb_qf (fun z => z.1 c1)).symm
  · refine eb_iload_n (pc := 4) (n := 1) (i := 1) rfl rfl rfl ?_
    refine eb_aload_n (pc := 5) (n := 0) (i := 0) rfl rfl rfl ?_
    refine eb_getI (pc := 6) rfl ka0 (by decide) (by decide) rfl ?_
    refine eb_aload_n (pc := 9) (n := 0) (i := 0) rfl rfl rfl ?_
    refine eb_getI (pc := 10) rfl ka0 (by decide) (by decide) rfl ?_
    refine eb_imul (pc := 13) rfl ?_
    refine eb_icmp_ge (pc := 14) (tgt := 21) rfl (by decide) (fun c2 => ?_) (fun c2 => ?_)
    · refine eb_iconst (pc := 21) (n := 0) (v := 0) rfl rfl ?_
      refine eb_ireturn (pc := 22) rfl rfl (by decide) ?_
      change eb_Sn _ _ _ 5 _ _ _ _
      exact jj4 0 (eb_qf (fun z => (fun z => z c2) z.2)).symm
    · refine eb_iconst (pc := 17) (n := 1) (v := 1) rfl rfl ?_
      refine eb_goto (pc := 18) (tgt := 22) rfl (by decide) ?_
      refine eb_ireturn (pc := 22) rfl rfl (by decide) ?_
      change eb_Sn _ _ _ 5 _ _ _ _
      exact jj4 1 (eb_qt (⟨c1, c2⟩)).symm
theorem T_X9_letGo {d : Nat} {h : eb_H} {Q : Option Value → eb_H → Prop} (a0 : Nat) (a1 : Nat) (x2 : Int32) (ka0 : eb_kd a0 = 9) (ka1 : eb_kd a1 = 6) (ko : eb_KO h) (w : (((¬ (x2 < 0)) ∧ (¬ (((eb_I h a0 0) * (eb_I h a0 1)) ≤ x2)) → Q (some (.int 0)) (eb_sI (eb_sI h a1 0 x2) a1 1 0)) ∧ (¬ ((¬ (x2 < 0)) ∧ (¬ (((eb_I h a0 0) * (eb_I h a0 1)) ≤ x2))) → Q (some (.int 1)) h))) : eb_Ct (d + 1) 92 [.ref a0, .ref a1, .int x2] h Q :=
  eb_bodyQ (by decide) ok_X9_letGo (Nat.le_of_ble_eq_true rfl) (b_X9_letGo_0 (h0 := h) a0 a1 x2 ka0 ka1 ko w)
theorem b_X9_turnDrift_0 {d : Nat} {h0 h : eb_H} {Q : Option Value → eb_H → Prop} (a0 : Nat) (a1 : Nat) (x2 : Int32) (ka0 : eb_kd a0 = 9) (ka1 : eb_kd a1 = 6) (ko : eb_KO h) (w : (((¬ (x2 < 0)) ∧ (¬ (((eb_I h a0 0) * (eb_I h a0 1)) ≤ x2)) → Q (some (.int 0)) (eb_sI h a1 3 ((eb_I h a1 3) ^^^ ((1 : Int32) <<< (x2 &&& 31))))) ∧ (¬ ((¬ (x2 < 0)) ∧ (¬ (((eb_I h a0 0) * (eb_I h a0 1)) ≤ x2))) → Q (some (.int 1)) h))) : eb_Sn (d + 1) m_X9_turnDrift h0 0 [(0, .ref a0), (1, .ref a1), (2, .int x2)] [] h Q := by
  refine eb_aload_n (pc := 0) (n := 0) (i := 0) rfl rfl rfl ?_
  refine eb_iload_n (pc := 1) (n := 2) (i := 2) rfl rfl rfl ?_
  refine eb_joinI (pc2 := 5) (ls2 := [(0, .ref a0), (1, .ref a1), (2, .int x2)]) (st2 := []) (v := eb_q ((¬ (x2 < 0)) ∧ (¬ (((eb_I h a0 0) * (eb_I h a0 1)) ≤ x2)))) ?_ (fun jj4 => ?_)
  · refine eb_if_ne (pc := 5) (tgt := 10) rfl (by decide) (fun c3 => ?_) (fun c3 => ?_)
    · replace c3 := eb_q1.mp c3
      replace w := w.1 c3
      refine eb_aload_n (pc := 10) (n := 1) (i := 1) rfl rfl rfl ?_
      refine eb_dupr (pc := 11) rfl ?_
      refine eb_getI (pc := 12) rfl ka1 (by decide) (by decide) rfl ?_
      refine eb_iconst (pc := 15) (n := 1) (v := 1) rfl rfl ?_
      refine eb_iload_n (pc := 16) (n := 2) (i := 2) rfl rfl rfl ?_
      refine eb_ishl (pc := 17) rfl ?_
      refine eb_ixor (pc := 18) rfl ?_
      refine eb_putI (pc := 19) rfl ka1 (by decide) (by decide) rfl rfl ⟨rfl, rfl⟩ ?_
      refine eb_iconst (pc := 22) (n := 0) (v := 0) rfl rfl ?_
      exact eb_ireturn (pc := 23) rfl rfl rfl w
    · replace c3 := eb_q0.mp c3
      replace w := w.2 c3
      refine eb_iconst (pc := 8) (n := 1) (v := 1) rfl rfl ?_
      exact eb_ireturn (pc := 9) rfl rfl rfl w
  refine eb_ctV (pc := 2) (As := [.int x2]) (rest := []) rfl (by decide) rfl ka0 (by decide) rfl (Nat.le_of_ble_eq_true rfl) ?_
  refine eb_bodyQ (by decide) ok_X9_has (Nat.le_of_ble_eq_true rfl) ?_
  change eb_Sn _ m_X9_has _ 0 [(0, .ref a0), (1, .int x2)] [] _ _
  refine eb_iload_n (pc := 0) (n := 1) (i := 1) rfl rfl rfl ?_
  refine eb_if_lt (pc := 1) (tgt := 21) rfl (by decide) (fun c1 => ?_) (fun c1 => ?_)
  · refine eb_iconst (pc := 21) (n := 0) (v := 0) rfl rfl ?_
    refine eb_ireturn (pc := 22) rfl rfl (by decide) ?_
    change eb_Sn _ _ _ 5 _ _ _ _
    exact jj4 0 (eb_qf (fun z => z.1 c1)).symm
  · refine eb_iload_n (pc := 4) (n := 1) (i := 1) rfl rfl rfl ?_
    refine eb_aload_n (pc := 5) (n := 0) (i := 0) rfl rfl rfl ?_
    refine eb_getI (pc := 6) rfl ka0 (by decide) (by decide) rfl ?_
    refine eb_aload_n (pc := 9) (n := 0) (i := 0) rfl rfl rfl ?_
    refine eb_getI (pc := 10) rfl ka0 (by decide) (by decide) rfl ?_
    refine eb_imul (pc := 13) rfl ?_
    refine eb_icmp_ge (pc := 14) (tgt := 21) rfl (by decide) (fun c2 => ?_) (fun c2 => ?_)
    · refine eb_iconst (pc := 21) (n := 0) (v := 0) rfl rfl ?_
      refine eb_ireturn (pc := 22) rfl rfl (by decide) ?_
      change eb_Sn _ _ _ 5 _ _ _ _
      exact jj4 0 (eb_qf (fun z => (fun z => z c2) z.2)).symm
    · refine eb_iconst (pc := 17) (n := 1) (v := 1) rfl rfl ?_
      refine eb_goto (pc := 18) (tgt := 22) rfl (by decide) ?_
      refine eb_ireturn (pc := 22) rfl rfl (by decide) ?_
      change eb_Sn _ _ _ 5 _ _ _ _
      exact jj4 1 (eb_qt (⟨c1, c2⟩)).symm
theorem T_X9_turnDrift {d : Nat} {h : eb_H} {Q : Option Value → eb_H → Prop} (a0 : Nat) (a1 : Nat) (x2 : Int32) (ka0 : eb_kd a0 = 9) (ka1 : eb_kd a1 = 6) (ko : eb_KO h) (w : (((¬ (x2 < 0)) ∧ (¬ (((eb_I h a0 0) * (eb_I h a0 1)) ≤ x2)) → Q (some (.int 0)) (eb_sI h a1 3 ((eb_I h a1 3) ^^^ ((1 : Int32) <<< (x2 &&& 31))))) ∧ (¬ ((¬ (x2 < 0)) ∧ (¬ (((eb_I h a0 0) * (eb_I h a0 1)) ≤ x2))) → Q (some (.int 1)) h))) : eb_Ct (d + 1) 93 [.ref a0, .ref a1, .int x2] h Q :=
  eb_bodyQ (by decide) ok_X9_turnDrift (Nat.le_of_ble_eq_true rfl) (b_X9_turnDrift_0 (h0 := h) a0 a1 x2 ka0 ka1 ko w)
theorem b_X9_putKind_0 {d : Nat} {h0 h : eb_H} {Q : Option Value → eb_H → Prop} (a0 : Nat) (a1 : Nat) (x2 : Int32) (x3 : Int32) (ka0 : eb_kd a0 = 9) (ka1 : eb_kd a1 = 6) (ko : eb_KO h) (w : ((¬ ((¬ (x2 < 0)) ∧ (¬ (((eb_I h a0 0) * (eb_I h a0 1)) ≤ x2))) → Q (some (.int 1)) h) ∧ ((¬ (x2 < 0)) ∧ (¬ (((eb_I h a0 0) * (eb_I h a0 1)) ≤ x2)) → ((x3 ≤ (6 : Int32) → eb_Ct d 63 [.ref a1, .int x2, .int x3] h (fun r h5 => r = none ∧ eb_KO h5 ∧ Q (some (.int 0)) h5)) ∧ (¬ (x3 ≤ (6 : Int32)) → Q (some (.int 1)) h))))) : eb_Sn (d + 1) m_X9_putKind h0 0 [(0, .ref a0), (1, .ref a1), (2, .int x2), (3, .int x3)] [] h Q := by
  refine eb_aload_n (pc := 0) (n := 0) (i := 0) rfl rfl rfl ?_
  refine eb_iload_n (pc := 1) (n := 2) (i := 2) rfl rfl rfl ?_
  refine eb_joinI (pc2 := 5) (ls2 := [(0, .ref a0), (1, .ref a1), (2, .int x2), (3, .int x3)]) (st2 := []) (v := eb_q ((¬ (x2 < 0)) ∧ (¬ (((eb_I h a0 0) * (eb_I h a0 1)) ≤ x2)))) ?_ (fun jj8 => ?_)
  · refine eb_if_eq (pc := 5) (tgt := 14) rfl (by decide) (fun c3 => ?_) (fun c3 => ?_)
    · replace c3 := eb_q0.mp c3
      replace w := w.1 c3
      refine eb_iconst (pc := 14) (n := 1) (v := 1) rfl rfl ?_
      exact eb_ireturn (pc := 15) rfl rfl rfl w
    · replace c3 := eb_q1.mp c3
      replace w := w.2 c3
      refine eb_iload_n (pc := 8) (n := 3) (i := 3) rfl rfl rfl ?_
      refine eb_bipush (pc := 9) (n := 6) (v := 6) rfl rfl ?_
      refine eb_icmp_le (pc := 11) (tgt := 16) rfl (by decide) (fun c4 => ?_) (fun c4 => ?_)
      · replace w := w.1 c4
        refine eb_aload_n (pc := 16) (n := 1) (i := 1) rfl rfl rfl ?_
        refine eb_iload_n (pc := 17) (n := 2) (i := 2) rfl rfl rfl ?_
        refine eb_iload_n (pc := 18) (n := 3) (i := 3) rfl rfl rfl ?_
        refine eb_ctV (pc := 19) (As := [.int x2, .int x3]) (rest := []) rfl (by decide) rfl ka1 (by decide) rfl (Nat.le_of_ble_eq_true rfl) ?_
        refine eb_Ct.mono w ?_
        rintro r h5 ⟨rfl, ko7, w⟩
        change eb_Sn _ _ _ 22 _ [] _ _
        refine eb_iconst (pc := 22) (n := 0) (v := 0) rfl rfl ?_
        exact eb_ireturn (pc := 23) rfl rfl rfl w
      · replace w := w.2 c4
        refine eb_iconst (pc := 14) (n := 1) (v := 1) rfl rfl ?_
        exact eb_ireturn (pc := 15) rfl rfl rfl w
  refine eb_ctV (pc := 2) (As := [.int x2]) (rest := []) rfl (by decide) rfl ka0 (by decide) rfl (Nat.le_of_ble_eq_true rfl) ?_
  refine eb_bodyQ (by decide) ok_X9_has (Nat.le_of_ble_eq_true rfl) ?_
  change eb_Sn _ m_X9_has _ 0 [(0, .ref a0), (1, .int x2)] [] _ _
  refine eb_iload_n (pc := 0) (n := 1) (i := 1) rfl rfl rfl ?_
  refine eb_if_lt (pc := 1) (tgt := 21) rfl (by decide) (fun c1 => ?_) (fun c1 => ?_)
  · refine eb_iconst (pc := 21) (n := 0) (v := 0) rfl rfl ?_
    refine eb_ireturn (pc := 22) rfl rfl (by decide) ?_
    change eb_Sn _ _ _ 5 _ _ _ _
    exact jj8 0 (eb_qf (fun z => z.1 c1)).symm
  · refine eb_iload_n (pc := 4) (n := 1) (i := 1) rfl rfl rfl ?_
    refine eb_aload_n (pc := 5) (n := 0) (i := 0) rfl rfl rfl ?_
    refine eb_getI (pc := 6) rfl ka0 (by decide) (by decide) rfl ?_
    refine eb_aload_n (pc := 9) (n := 0) (i := 0) rfl rfl rfl ?_
    refine eb_getI (pc := 10) rfl ka0 (by decide) (by decide) rfl ?_
    refine eb_imul (pc := 13) rfl ?_
    refine eb_icmp_ge (pc := 14) (tgt := 21) rfl (by decide) (fun c2 => ?_) (fun c2 => ?_)
    · refine eb_iconst (pc := 21) (n := 0) (v := 0) rfl rfl ?_
      refine eb_ireturn (pc := 22) rfl rfl (by decide) ?_
      change eb_Sn _ _ _ 5 _ _ _ _
      exact jj8 0 (eb_qf (fun z => (fun z => z c2) z.2)).symm
    · refine eb_iconst (pc := 17) (n := 1) (v := 1) rfl rfl ?_
      refine eb_goto (pc := 18) (tgt := 22) rfl (by decide) ?_
      refine eb_ireturn (pc := 22) rfl rfl (by decide) ?_
      change eb_Sn _ _ _ 5 _ _ _ _
      exact jj8 1 (eb_qt (⟨c1, c2⟩)).symm
theorem T_X9_putKind {d : Nat} {h : eb_H} {Q : Option Value → eb_H → Prop} (a0 : Nat) (a1 : Nat) (x2 : Int32) (x3 : Int32) (ka0 : eb_kd a0 = 9) (ka1 : eb_kd a1 = 6) (ko : eb_KO h) (w : ((¬ ((¬ (x2 < 0)) ∧ (¬ (((eb_I h a0 0) * (eb_I h a0 1)) ≤ x2))) → Q (some (.int 1)) h) ∧ ((¬ (x2 < 0)) ∧ (¬ (((eb_I h a0 0) * (eb_I h a0 1)) ≤ x2)) → ((x3 ≤ (6 : Int32) → eb_Ct d 63 [.ref a1, .int x2, .int x3] h (fun r h5 => r = none ∧ eb_KO h5 ∧ Q (some (.int 0)) h5)) ∧ (¬ (x3 ≤ (6 : Int32)) → Q (some (.int 1)) h))))) : eb_Ct (d + 1) 94 [.ref a0, .ref a1, .int x2, .int x3] h Q :=
  eb_bodyQ (by decide) ok_X9_putKind (Nat.le_of_ble_eq_true rfl) (b_X9_putKind_0 (h0 := h) a0 a1 x2 x3 ka0 ka1 ko w)
theorem b_X10_init_0 {d : Nat} {h0 h : eb_H} {Q : Option Value → eb_H → Prop} (a0 : Nat) (ka0 : eb_kd a0 = 10) (w : ∀ r3, r3 = eb_nx h 5 0 → ∀ h1, h1 = eb_nw h 5 0 (eb_nf 5) → eb_Ct d 45 [.ref r3] h1 (fun r h5 => r = none ∧ ∀ h8, h8 = eb_sR h5 a0 0 (some r3) → ∃ r10, eb_R h8 a0 0 = some r10 ∧ eb_kd r10 = 5 ∧ ∃ r13, eb_R h8 r10 1 = some r13 ∧ eb_kd r13 = 7 ∧ ∀ h16, h16 = eb_sR h8 a0 1 (some r13) → ∀ r20, r20 = eb_nx h16 9 0 → ∀ h18, h18 = eb_nw h16 9 0 (eb_nf 9) → eb_Ct d 79 [.ref r20] h18 (fun r h22 => r = none ∧ ∀ h25, h25 = eb_sR h22 a0 2 (some r20) → ∀ r29, r29 = eb_nx h25 6 0 → ∀ h27, h27 = eb_nw h25 6 0 (eb_nf 6) → eb_Ct d 59 [.ref r29] h27 (fun r h31 => r = none ∧ ∀ h34, h34 = eb_sR h31 a0 3 (some r29) → ∀ r38, r38 = eb_nx h34 6 0 → ∀ h36, h36 = eb_nw h34 6 0 (eb_nf 6) → eb_Ct d 59 [.ref r38] h36 (fun r h40 => r = none ∧ ∀ h43, h43 = eb_sR h40 a0 4 (some r38) → ∀ r47, r47 = eb_nx h43 6 0 → ∀ h45, h45 = eb_nw h43 6 0 (eb_nf 6) → eb_Ct d 59 [.ref r47] h45 (fun r h49 => r = none ∧ ∀ h52, h52 = eb_sR h49 a0 5 (some r47) → ∀ r56, r56 = eb_nx h52 4 0 → ∀ h54, h54 = eb_nw h52 4 0 (eb_nf 4) → eb_Ct d 41 [.ref r56] h54 (fun r h58 => r = none ∧ ∀ h61, h61 = eb_sR h58 a0 6 (some r56) → ∀ r65, r65 = eb_nx h61 1 0 → ∀ h63, h63 = eb_nw h61 1 0 (eb_nf 1) → eb_Ct d 3 [.ref r65] h63 (fun r h67 => r = none ∧ ∀ h70, h70 = eb_sR h67 a0 7 (some r65) → ∀ r74, r74 = eb_nx h70 0 0 → ∀ h72, h72 = eb_nw h70 0 0 (eb_nf 0) → eb_Ct d 0 [.ref r74] h72 (fun r h76 => r = none ∧ ∀ h79, h79 = eb_sR h76 a0 8 (some r74) → ∀ r83, r83 = eb_nx h79 17 4 → ∀ h81, h81 = eb_nw h79 17 4 4 → ∀ h85, h85 = eb_sR h81 a0 9 (some r83) → ∀ r89, r89 = eb_nx h85 18 2 → ∀ h87, h87 = eb_nw h85 18 2 2 → ∀ h91, h91 = eb_sR h87 a0 10 (some r89) → ∀ r95, r95 = eb_nx h91 16 2 → ∀ h93, h93 = eb_nw h91 16 2 2 → ∀ h97, h97 = eb_sR h93 a0 11 (some r95) → eb_Sn (d + 1) m_X10_init h0 129 [(0, .ref a0), (1, .int 0)] [] h97 Q))))))))) : eb_Sn (d + 1) m_X10_init h0 0 [(0, .ref a0)] [] h Q := by
  refine eb_aload_n (pc := 0) (n := 0) (i := 0) rfl rfl rfl ?_
  refine eb_objInit (pc := 1) rfl (by decide +kernel) (by omega) (Nat.le_of_ble_eq_true rfl) ?_
  refine eb_aload_n (pc := 4) (n := 0) (i := 0) rfl rfl rfl ?_
  refine eb_new (pc := 5) rfl (by decide) ?_
  obtain ⟨r3, e4⟩ : ∃ z, z = eb_nx h 5 0 := ⟨_, rfl⟩
  rw [← e4]
  replace w := w r3 e4
  obtain ⟨h1, e2⟩ : ∃ z, z = eb_nw h 5 0 (eb_nf 5) := ⟨_, rfl⟩
  rw [← e2]
  replace w := w h1 e2
  refine eb_dupr (pc := 8) rfl ?_
  refine eb_ctI (pc := 9) (As := []) (rest := [.ref r3, .ref a0]) rfl (by decide) (by decide) rfl rfl rfl rfl (Nat.le_of_ble_eq_true rfl) ?_
  refine eb_Ct.mono w ?_
  rintro r h5 ⟨rfl, w⟩
  change eb_Sn _ _ _ 12 _ [.ref r3, .ref a0] _ _
  refine eb_putR (pc := 12) rfl ka0 (by decide) (by decide) rfl (Or.inr ⟨rfl, rfl, rfl⟩) (eb_k20 (c := 5) (by rw [e4]; exact eb_mk_kd (by decide)) (by decide)) ?_
  obtain ⟨h8, e9⟩ : ∃ z, z = eb_sR h5 a0 0 (some r3) := ⟨_, rfl⟩
  rw [← e9]
  replace w := w h8 e9
  refine eb_aload_n (pc := 15) (n := 0) (i := 0) rfl rfl rfl ?_
  refine eb_aload_n (pc := 16) (n := 0) (i := 0) rfl rfl rfl ?_
  obtain ⟨r10, q11, k12, w⟩ := w
  refine eb_getR (pc := 17) rfl ka0 (by decide) (by decide) rfl q11 ?_
  obtain ⟨r13, q14, k15, w⟩ := w
  refine eb_getR (pc := 20) rfl k12 (by decide) (by decide) rfl q14 ?_
  refine eb_putR (pc := 23) rfl ka0 (by decide) (by decide) rfl (Or.inr ⟨rfl, rfl, rfl⟩) (eb_k20 (c := 7) k15 (by decide)) ?_
  obtain ⟨h16, e17⟩ : ∃ z, z = eb_sR h8 a0 1 (some r13) := ⟨_, rfl⟩
  rw [← e17]
  replace w := w h16 e17
  refine eb_aload_n (pc := 26) (n := 0) (i := 0) rfl rfl rfl ?_
  refine eb_new (pc := 27) rfl (by decide) ?_
  obtain ⟨r20, e21⟩ : ∃ z, z = eb_nx h16 9 0 := ⟨_, rfl⟩
  rw [← e21]
  replace w := w r20 e21
  obtain ⟨h18, e19⟩ : ∃ z, z = eb_nw h16 9 0 (eb_nf 9) := ⟨_, rfl⟩
  rw [← e19]
  replace w := w h18 e19
  refine eb_dupr (pc := 30) rfl ?_
  refine eb_ctI (pc := 31) (As := []) (rest := [.ref r20, .ref a0]) rfl (by decide) (by decide) rfl rfl rfl rfl (Nat.le_of_ble_eq_true rfl) ?_
  refine eb_Ct.mono w ?_
  rintro r h22 ⟨rfl, w⟩
  change eb_Sn _ _ _ 34 _ [.ref r20, .ref a0] _ _
  refine eb_putR (pc := 34) rfl ka0 (by decide) (by decide) rfl (Or.inl rfl) (eb_k20 (c := 9) (by rw [e21]; exact eb_mk_kd (by decide)) (by decide)) ?_
  obtain ⟨h25, e26⟩ : ∃ z, z = eb_sR h22 a0 2 (some r20) := ⟨_, rfl⟩
  rw [← e26]
  replace w := w h25 e26
  refine eb_aload_n (pc := 37) (n := 0) (i := 0) rfl rfl rfl ?_
  refine eb_new (pc := 38) rfl (by decide) ?_
  obtain ⟨r29, e30⟩ : ∃ z, z = eb_nx h25 6 0 := ⟨_, rfl⟩
  rw [← e30]
  replace w := w r29 e30
  obtain ⟨h27, e28⟩ : ∃ z, z = eb_nw h25 6 0 (eb_nf 6) := ⟨_, rfl⟩
  rw [← e28]
  replace w := w h27 e28
  refine eb_dupr (pc := 41) rfl ?_
  refine eb_ctI (pc := 42) (As := []) (rest := [.ref r29, .ref a0]) rfl (by decide) (by decide) rfl rfl rfl rfl (Nat.le_of_ble_eq_true rfl) ?_
  refine eb_Ct.mono w ?_
  rintro r h31 ⟨rfl, w⟩
  change eb_Sn _ _ _ 45 _ [.ref r29, .ref a0] _ _
  refine eb_putR (pc := 45) rfl ka0 (by decide) (by decide) rfl (Or.inr ⟨rfl, rfl, rfl⟩) (eb_k20 (c := 6) (by rw [e30]; exact eb_mk_kd (by decide)) (by decide)) ?_
  obtain ⟨h34, e35⟩ : ∃ z, z = eb_sR h31 a0 3 (some r29) := ⟨_, rfl⟩
  rw [← e35]
  replace w := w h34 e35
  refine eb_aload_n (pc := 48) (n := 0) (i := 0) rfl rfl rfl ?_
  refine eb_new (pc := 49) rfl (by decide) ?_
  obtain ⟨r38, e39⟩ : ∃ z, z = eb_nx h34 6 0 := ⟨_, rfl⟩
  rw [← e39]
  replace w := w r38 e39
  obtain ⟨h36, e37⟩ : ∃ z, z = eb_nw h34 6 0 (eb_nf 6) := ⟨_, rfl⟩
  rw [← e37]
  replace w := w h36 e37
  refine eb_dupr (pc := 52) rfl ?_
  refine eb_ctI (pc := 53) (As := []) (rest := [.ref r38, .ref a0]) rfl (by decide) (by decide) rfl rfl rfl rfl (Nat.le_of_ble_eq_true rfl) ?_
  refine eb_Ct.mono w ?_
  rintro r h40 ⟨rfl, w⟩
  change eb_Sn _ _ _ 56 _ [.ref r38, .ref a0] _ _
  refine eb_putR (pc := 56) rfl ka0 (by decide) (by decide) rfl (Or.inr ⟨rfl, rfl, rfl⟩) (eb_k20 (c := 6) (by rw [e39]; exact eb_mk_kd (by decide)) (by decide)) ?_
  obtain ⟨h43, e44⟩ : ∃ z, z = eb_sR h40 a0 4 (some r38) := ⟨_, rfl⟩
  rw [← e44]
  replace w := w h43 e44
  refine eb_aload_n (pc := 59) (n := 0) (i := 0) rfl rfl rfl ?_
  refine eb_new (pc := 60) rfl (by decide) ?_
  obtain ⟨r47, e48⟩ : ∃ z, z = eb_nx h43 6 0 := ⟨_, rfl⟩
  rw [← e48]
  replace w := w r47 e48
  obtain ⟨h45, e46⟩ : ∃ z, z = eb_nw h43 6 0 (eb_nf 6) := ⟨_, rfl⟩
  rw [← e46]
  replace w := w h45 e46
  refine eb_dupr (pc := 63) rfl ?_
  refine eb_ctI (pc := 64) (As := []) (rest := [.ref r47, .ref a0]) rfl (by decide) (by decide) rfl rfl rfl rfl (Nat.le_of_ble_eq_true rfl) ?_
  refine eb_Ct.mono w ?_
  rintro r h49 ⟨rfl, w⟩
  change eb_Sn _ _ _ 67 _ [.ref r47, .ref a0] _ _
  refine eb_putR (pc := 67) rfl ka0 (by decide) (by decide) rfl (Or.inr ⟨rfl, rfl, rfl⟩) (eb_k20 (c := 6) (by rw [e48]; exact eb_mk_kd (by decide)) (by decide)) ?_
  obtain ⟨h52, e53⟩ : ∃ z, z = eb_sR h49 a0 5 (some r47) := ⟨_, rfl⟩
  rw [← e53]
  replace w := w h52 e53
  refine eb_aload_n (pc := 70) (n := 0) (i := 0) rfl rfl rfl ?_
  refine eb_new (pc := 71) rfl (by decide) ?_
  obtain ⟨r56, e57⟩ : ∃ z, z = eb_nx h52 4 0 := ⟨_, rfl⟩
  rw [← e57]
  replace w := w r56 e57
  obtain ⟨h54, e55⟩ : ∃ z, z = eb_nw h52 4 0 (eb_nf 4) := ⟨_, rfl⟩
  rw [← e55]
  replace w := w h54 e55
  refine eb_dupr (pc := 74) rfl ?_
  refine eb_ctI (pc := 75) (As := []) (rest := [.ref r56, .ref a0]) rfl (by decide) (by decide) rfl rfl rfl rfl (Nat.le_of_ble_eq_true rfl) ?_
  refine eb_Ct.mono w ?_
  rintro r h58 ⟨rfl, w⟩
  change eb_Sn _ _ _ 78 _ [.ref r56, .ref a0] _ _
  refine eb_putR (pc := 78) rfl ka0 (by decide) (by decide) rfl (Or.inr ⟨rfl, rfl, rfl⟩) (eb_k20 (c := 4) (by rw [e57]; exact eb_mk_kd (by decide)) (by decide)) ?_
  obtain ⟨h61, e62⟩ : ∃ z, z = eb_sR h58 a0 6 (some r56) := ⟨_, rfl⟩
  rw [← e62]
  replace w := w h61 e62
  refine eb_aload_n (pc := 81) (n := 0) (i := 0) rfl rfl rfl ?_
  refine eb_new (pc := 82) rfl (by decide) ?_
  obtain ⟨r65, e66⟩ : ∃ z, z = eb_nx h61 1 0 := ⟨_, rfl⟩
  rw [← e66]
  replace w := w r65 e66
  obtain ⟨h63, e64⟩ : ∃ z, z = eb_nw h61 1 0 (eb_nf 1) := ⟨_, rfl⟩
  rw [← e64]
  replace w := w h63 e64
  refine eb_dupr (pc := 85) rfl ?_
  refine eb_ctI (pc := 86) (As := []) (rest := [.ref r65, .ref a0]) rfl (by decide) (by decide) rfl rfl rfl rfl (Nat.le_of_ble_eq_true rfl) ?_
  refine eb_Ct.mono w ?_
  rintro r h67 ⟨rfl, w⟩
  change eb_Sn _ _ _ 89 _ [.ref r65, .ref a0] _ _
  refine eb_putR (pc := 89) rfl ka0 (by decide) (by decide) rfl (Or.inr ⟨rfl, rfl, rfl⟩) (eb_k20 (c := 1) (by rw [e66]; exact eb_mk_kd (by decide)) (by decide)) ?_
  obtain ⟨h70, e71⟩ : ∃ z, z = eb_sR h67 a0 7 (some r65) := ⟨_, rfl⟩
  rw [← e71]
  replace w := w h70 e71
  refine eb_aload_n (pc := 92) (n := 0) (i := 0) rfl rfl rfl ?_
  refine eb_new (pc := 93) rfl (by decide) ?_
  obtain ⟨r74, e75⟩ : ∃ z, z = eb_nx h70 0 0 := ⟨_, rfl⟩
  rw [← e75]
  replace w := w r74 e75
  obtain ⟨h72, e73⟩ : ∃ z, z = eb_nw h70 0 0 (eb_nf 0) := ⟨_, rfl⟩
  rw [← e73]
  replace w := w h72 e73
  refine eb_dupr (pc := 96) rfl ?_
  refine eb_ctI (pc := 97) (As := []) (rest := [.ref r74, .ref a0]) rfl (by decide) (by decide) rfl rfl rfl rfl (Nat.le_of_ble_eq_true rfl) ?_
  refine eb_Ct.mono w ?_
  rintro r h76 ⟨rfl, w⟩
  change eb_Sn _ _ _ 100 _ [.ref r74, .ref a0] _ _
  refine eb_putR (pc := 100) rfl ka0 (by decide) (by decide) rfl (Or.inr ⟨rfl, rfl, rfl⟩) (eb_k20 (c := 0) (by rw [e75]; exact eb_mk_kd (by decide)) (by decide)) ?_
  obtain ⟨h79, e80⟩ : ∃ z, z = eb_sR h76 a0 8 (some r74) := ⟨_, rfl⟩
  rw [← e80]
  replace w := w h79 e80
  refine eb_aload_n (pc := 103) (n := 0) (i := 0) rfl rfl rfl ?_
  refine eb_iconst (pc := 104) (n := 4) (v := 4) rfl rfl ?_
  refine eb_newR (pc := 105) (kd := 17) (len := 4) rfl (by decide) (by decide) rfl (by decide) rfl (by decide) ?_
  obtain ⟨r83, e84⟩ : ∃ z, z = eb_nx h79 17 4 := ⟨_, rfl⟩
  rw [← e84]
  replace w := w r83 e84
  obtain ⟨h81, e82⟩ : ∃ z, z = eb_nw h79 17 4 4 := ⟨_, rfl⟩
  rw [← e82]
  replace w := w h81 e82
  refine eb_putR (pc := 108) rfl ka0 (by decide) (by decide) rfl (Or.inr ⟨rfl, rfl, rfl⟩) (eb_k20 (c := 17) (by rw [e84]; exact eb_mk_kd (by decide)) (by decide)) ?_
  obtain ⟨h85, e86⟩ : ∃ z, z = eb_sR h81 a0 9 (some r83) := ⟨_, rfl⟩
  rw [← e86]
  replace w := w h85 e86
  refine eb_aload_n (pc := 111) (n := 0) (i := 0) rfl rfl rfl ?_
  refine eb_iconst (pc := 112) (n := 2) (v := 2) rfl rfl ?_
  refine eb_newR (pc := 113) (kd := 18) (len := 2) rfl (by decide) (by decide) rfl (by decide) rfl (by decide) ?_
  obtain ⟨r89, e90⟩ : ∃ z, z = eb_nx h85 18 2 := ⟨_, rfl⟩
  rw [← e90]
  replace w := w r89 e90
  obtain ⟨h87, e88⟩ : ∃ z, z = eb_nw h85 18 2 2 := ⟨_, rfl⟩
  rw [← e88]
  replace w := w h87 e88
  refine eb_putR (pc := 116) rfl ka0 (by decide) (by decide) rfl (Or.inr ⟨rfl, rfl, rfl⟩) (eb_k20 (c := 18) (by rw [e90]; exact eb_mk_kd (by decide)) (by decide)) ?_
  obtain ⟨h91, e92⟩ : ∃ z, z = eb_sR h87 a0 10 (some r89) := ⟨_, rfl⟩
  rw [← e92]
  replace w := w h91 e92
  refine eb_aload_n (pc := 119) (n := 0) (i := 0) rfl rfl rfl ?_
  refine eb_iconst (pc := 120) (n := 2) (v := 2) rfl rfl ?_
  refine eb_newR (pc := 121) (kd := 16) (len := 2) rfl (by decide) (by decide) rfl (by decide) rfl (by decide) ?_
  obtain ⟨r95, e96⟩ : ∃ z, z = eb_nx h91 16 2 := ⟨_, rfl⟩
  rw [← e96]
  replace w := w r95 e96
  obtain ⟨h93, e94⟩ : ∃ z, z = eb_nw h91 16 2 2 := ⟨_, rfl⟩
  rw [← e94]
  replace w := w h93 e94
  refine eb_putR (pc := 124) rfl ka0 (by decide) (by decide) rfl (Or.inr ⟨rfl, rfl, rfl⟩) (eb_k20 (c := 16) (by rw [e96]; exact eb_mk_kd (by decide)) (by decide)) ?_
  obtain ⟨h97, e98⟩ : ∃ z, z = eb_sR h93 a0 11 (some r95) := ⟨_, rfl⟩
  rw [← e98]
  replace w := w h97 e98
  refine eb_iconst (pc := 127) (n := 0) (v := 0) rfl rfl ?_
  refine eb_istore_n (pc := 128) (n := 1) (i := 1) (ls2 := [(1, .int 0), (0, .ref a0)]) rfl (Nat.le_of_ble_eq_true rfl) rfl rfl ?_
  exact eb_pick [1, 0] rfl w
theorem b_X10_init_129 {d : Nat} {h0 h : eb_H} {Q : Option Value → eb_H → Prop} (a0 : Nat) (x1 : Int32) (ka0 : eb_kd a0 = 10) (w : (((4 : Int32) ≤ x1 → eb_Sn (d + 1) m_X10_init h0 155 [(0, .ref a0), (1, .int 0)] [] h Q) ∧ (¬ ((4 : Int32) ≤ x1) → ∃ r2, eb_R h a0 9 = some r2 ∧ eb_kd r2 = 17 ∧ ∀ r7, r7 = eb_nx h 8 0 → ∀ h5, h5 = eb_nw h 8 0 (eb_nf 8) → eb_Ct d 74 [.ref r7] h5 (fun r h9 => r = none ∧ (vp_in x1 (eb_ln r2)) ∧ ∀ h13, h13 = eb_sR h9 r2 x1.toNatClampNeg (some r7) → eb_Sn (d + 1) m_X10_init h0 129 [(0, .ref a0), (1, .int (x1 + 1))] [] h13 Q)))) : eb_Sn (d + 1) m_X10_init h0 129 [(0, .ref a0), (1, .int x1)] [] h Q := by
  refine eb_iload_n (pc := 129) (n := 1) (i := 1) rfl rfl rfl ?_
  refine eb_iconst (pc := 130) (n := 4) (v := 4) rfl rfl ?_
  refine eb_icmp_ge (pc := 131) (tgt := 153) rfl (by decide) (fun c1 => ?_) (fun c1 => ?_)
  · replace w := w.1 c1
    refine eb_iconst (pc := 153) (n := 0) (v := 0) rfl rfl ?_
    refine eb_istore_n (pc := 154) (n := 1) (i := 1) (ls2 := [(1, .int 0), (0, .ref a0)]) rfl (Nat.le_of_ble_eq_true rfl) rfl rfl ?_
    exact eb_pick [1, 0] rfl w
  · replace w := w.2 c1
    refine eb_aload_n (pc := 134) (n := 0) (i := 0) rfl rfl rfl ?_
    obtain ⟨r2, q3, k4, w⟩ := w
    refine eb_getR (pc := 135) rfl ka0 (by decide) (by decide) rfl q3 ?_
    refine eb_iload_n (pc := 138) (n := 1) (i := 1) rfl rfl rfl ?_
    refine eb_new (pc := 139) rfl (by decide) ?_
    obtain ⟨r7, e8⟩ : ∃ z, z = eb_nx h 8 0 := ⟨_, rfl⟩
    rw [← e8]
    replace w := w r7 e8
    obtain ⟨h5, e6⟩ : ∃ z, z = eb_nw h 8 0 (eb_nf 8) := ⟨_, rfl⟩
    rw [← e6]
    replace w := w h5 e6
    refine eb_dupr (pc := 142) rfl ?_
    refine eb_ctI (pc := 143) (As := []) (rest := [.ref r7, .int x1, .ref r2]) rfl (by decide) (by decide) rfl rfl rfl rfl (Nat.le_of_ble_eq_true rfl) ?_
    refine eb_Ct.mono w ?_
    rintro r h9 ⟨rfl, w⟩
    change eb_Sn _ _ _ 146 _ [.ref r7, .int x1, .ref r2] _ _
    obtain ⟨c12, w⟩ := w
    refine eb_aastore (pc := 146) rfl k4 (by decide) (by decide) c12 (by rw [e8]; exact eb_mk_kd (by decide)) ?_
    obtain ⟨h13, e14⟩ : ∃ z, z = eb_sR h9 r2 x1.toNatClampNeg (some r7) := ⟨_, rfl⟩
    rw [← e14]
    replace w := w h13 e14
    refine eb_iinc (pc := 147) (i := 1) (n := 1) (v := x1 + 1) (ls2 := [(1, .int (x1 + 1)), (0, .ref a0)]) (Nat.le_of_ble_eq_true rfl) rfl rfl rfl rfl ?_
    refine eb_goto (pc := 150) (tgt := 129) rfl (by decide) ?_
    exact eb_pick [1, 0] rfl w
theorem b_X10_init_155 {d : Nat} {h0 h : eb_H} {Q : Option Value → eb_H → Prop} (a0 : Nat) (x1 : Int32) (ka0 : eb_kd a0 = 10) (w : (((2 : Int32) ≤ x1 → Q none h) ∧ (¬ ((2 : Int32) ≤ x1) → ∃ r2, eb_R h a0 11 = some r2 ∧ eb_kd r2 = 16 ∧ ∀ r7, r7 = eb_nx h 6 0 → ∀ h5, h5 = eb_nw h 6 0 (eb_nf 6) → eb_Ct d 59 [.ref r7] h5 (fun r h9 => r = none ∧ (vp_in x1 (eb_ln r2)) ∧ ∀ h13, h13 = eb_sR h9 r2 x1.toNatClampNeg (some r7) → eb_Sn (d + 1) m_X10_init h0 155 [(0, .ref a0), (1, .int (x1 + 1))] [] h13 Q)))) : eb_Sn (d + 1) m_X10_init h0 155 [(0, .ref a0), (1, .int x1)] [] h Q := by
  refine eb_iload_n (pc := 155) (n := 1) (i := 1) rfl rfl rfl ?_
  refine eb_iconst (pc := 156) (n := 2) (v := 2) rfl rfl ?_
  refine eb_icmp_ge (pc := 157) (tgt := 179) rfl (by decide) (fun c1 => ?_) (fun c1 => ?_)
  · replace w := w.1 c1
    exact eb_return (pc := 179) rfl rfl w
  · replace w := w.2 c1
    refine eb_aload_n (pc := 160) (n := 0) (i := 0) rfl rfl rfl ?_
    obtain ⟨r2, q3, k4, w⟩ := w
    refine eb_getR (pc := 161) rfl ka0 (by decide) (by decide) rfl q3 ?_
    refine eb_iload_n (pc := 164) (n := 1) (i := 1) rfl rfl rfl ?_
    refine eb_new (pc := 165) rfl (by decide) ?_
    obtain ⟨r7, e8⟩ : ∃ z, z = eb_nx h 6 0 := ⟨_, rfl⟩
    rw [← e8]
    replace w := w r7 e8
    obtain ⟨h5, e6⟩ : ∃ z, z = eb_nw h 6 0 (eb_nf 6) := ⟨_, rfl⟩
    rw [← e6]
    replace w := w h5 e6
    refine eb_dupr (pc := 168) rfl ?_
    refine eb_ctI (pc := 169) (As := []) (rest := [.ref r7, .int x1, .ref r2]) rfl (by decide) (by decide) rfl rfl rfl rfl (Nat.le_of_ble_eq_true rfl) ?_
    refine eb_Ct.mono w ?_
    rintro r h9 ⟨rfl, w⟩
    change eb_Sn _ _ _ 172 _ [.ref r7, .int x1, .ref r2] _ _
    obtain ⟨c12, w⟩ := w
    refine eb_aastore (pc := 172) rfl k4 (by decide) (by decide) c12 (by rw [e8]; exact eb_mk_kd (by decide)) ?_
    obtain ⟨h13, e14⟩ : ∃ z, z = eb_sR h9 r2 x1.toNatClampNeg (some r7) := ⟨_, rfl⟩
    rw [← e14]
    replace w := w h13 e14
    refine eb_iinc (pc := 173) (i := 1) (n := 1) (v := x1 + 1) (ls2 := [(1, .int (x1 + 1)), (0, .ref a0)]) (Nat.le_of_ble_eq_true rfl) rfl rfl rfl rfl ?_
    refine eb_goto (pc := 176) (tgt := 155) rfl (by decide) ?_
    exact eb_pick [1, 0] rfl w
theorem T_X10_init {d : Nat} {h : eb_H} {Q : Option Value → eb_H → Prop} (a0 : Nat) (ka0 : eb_kd a0 = 10) (w : ∀ r3, r3 = eb_nx h 5 0 → ∀ h1, h1 = eb_nw h 5 0 (eb_nf 5) → eb_Ct d 45 [.ref r3] h1 (fun r h5 => r = none ∧ ∀ h8, h8 = eb_sR h5 a0 0 (some r3) → ∃ r10, eb_R h8 a0 0 = some r10 ∧ eb_kd r10 = 5 ∧ ∃ r13, eb_R h8 r10 1 = some r13 ∧ eb_kd r13 = 7 ∧ ∀ h16, h16 = eb_sR h8 a0 1 (some r13) → ∀ r20, r20 = eb_nx h16 9 0 → ∀ h18, h18 = eb_nw h16 9 0 (eb_nf 9) → eb_Ct d 79 [.ref r20] h18 (fun r h22 => r = none ∧ ∀ h25, h25 = eb_sR h22 a0 2 (some r20) → ∀ r29, r29 = eb_nx h25 6 0 → ∀ h27, h27 = eb_nw h25 6 0 (eb_nf 6) → eb_Ct d 59 [.ref r29] h27 (fun r h31 => r = none ∧ ∀ h34, h34 = eb_sR h31 a0 3 (some r29) → ∀ r38, r38 = eb_nx h34 6 0 → ∀ h36, h36 = eb_nw h34 6 0 (eb_nf 6) → eb_Ct d 59 [.ref r38] h36 (fun r h40 => r = none ∧ ∀ h43, h43 = eb_sR h40 a0 4 (some r38) → ∀ r47, r47 = eb_nx h43 6 0 → ∀ h45, h45 = eb_nw h43 6 0 (eb_nf 6) → eb_Ct d 59 [.ref r47] h45 (fun r h49 => r = none ∧ ∀ h52, h52 = eb_sR h49 a0 5 (some r47) → ∀ r56, r56 = eb_nx h52 4 0 → ∀ h54, h54 = eb_nw h52 4 0 (eb_nf 4) → eb_Ct d 41 [.ref r56] h54 (fun r h58 => r = none ∧ ∀ h61, h61 = eb_sR h58 a0 6 (some r56) → ∀ r65, r65 = eb_nx h61 1 0 → ∀ h63, h63 = eb_nw h61 1 0 (eb_nf 1) → eb_Ct d 3 [.ref r65] h63 (fun r h67 => r = none ∧ ∀ h70, h70 = eb_sR h67 a0 7 (some r65) → ∀ r74, r74 = eb_nx h70 0 0 → ∀ h72, h72 = eb_nw h70 0 0 (eb_nf 0) → eb_Ct d 0 [.ref r74] h72 (fun r h76 => r = none ∧ ∀ h79, h79 = eb_sR h76 a0 8 (some r74) → ∀ r83, r83 = eb_nx h79 17 4 → ∀ h81, h81 = eb_nw h79 17 4 4 → ∀ h85, h85 = eb_sR h81 a0 9 (some r83) → ∀ r89, r89 = eb_nx h85 18 2 → ∀ h87, h87 = eb_nw h85 18 2 2 → ∀ h91, h91 = eb_sR h87 a0 10 (some r89) → ∀ r95, r95 = eb_nx h91 16 2 → ∀ h93, h93 = eb_nw h91 16 2 2 → ∀ h97, h97 = eb_sR h93 a0 11 (some r95) → eb_Sn (d + 1) m_X10_init h 129 [(0, .ref a0), (1, .int 0)] [] h97 Q))))))))) : eb_Ct (d + 1) 95 [.ref a0] h Q :=
  eb_bodyQ (by decide) ok_X10_init (Nat.le_of_ble_eq_true rfl) (b_X10_init_0 (h0 := h) a0 ka0 w)
theorem b_X10_feed_0 {d : Nat} {h0 h : eb_H} {Q : Option Value → eb_H → Prop} (x1 : Int32) (x2 : Int32) (x3 : Int32) (x4 : Int32) (x5 : Int32)  (ko : eb_KO h) (w : (((eb_I h s_tape 1) ≤ (880 : Int32) → eb_Ct d 66 [.ref s_tape, .int x1] h (fun r h2 => r = none ∧ eb_KO h2 ∧ eb_Ct d 66 [.ref s_tape, .int x2] h2 (fun r h5 => r = none ∧ eb_KO h5 ∧ eb_Ct d 66 [.ref s_tape, .int x3] h5 (fun r h8 => r = none ∧ eb_KO h8 ∧ eb_Ct d 66 [.ref s_tape, .int x4] h8 (fun r h11 => r = none ∧ eb_KO h11 ∧ eb_Ct d 66 [.ref s_tape, .int x5] h11 (fun r h14 => r = none ∧ eb_KO h14 ∧ Q (some (.int (eb_I h14 s_tape 1))) h14)))))) ∧ (¬ ((eb_I h s_tape 1) ≤ (880 : Int32)) → Q (some (.int (-5))) h))) : eb_Sn (d + 1) m_X10_feed h0 0 [(0, .ref s_EB), (1, .int x1), (2, .int x2), (3, .int x3), (4, .int x4), (5, .int x5)] [] h Q := by
  refine eb_aload_n (pc := 0) (n := 0) (i := 0) rfl rfl rfl ?_
  refine eb_getR (pc := 1) rfl rfl (by decide) (by decide) rfl (ko_s_EB_1 ko) ?_
  refine eb_getI (pc := 4) rfl rfl (by decide) (by decide) rfl ?_
  refine eb_sipush (pc := 7) (n := 880) (v := 880) rfl rfl ?_
  refine eb_icmp_le (pc := 10) (tgt := 16) rfl (by decide) (fun c1 => ?_) (fun c1 => ?_)
  · replace w := w.1 c1
    refine eb_aload_n (pc := 16) (n := 0) (i := 0) rfl rfl rfl ?_
    refine eb_getR (pc := 17) rfl rfl (by decide) (by decide) rfl (ko_s_EB_1 ko) ?_
    refine eb_iload_n (pc := 20) (n := 1) (i := 1) rfl rfl rfl ?_
    refine eb_ctV (pc := 21) (As := [.int x1]) (rest := []) rfl (by decide) rfl rfl (by decide) rfl (Nat.le_of_ble_eq_true rfl) ?_
    refine eb_Ct.mono w ?_
    rintro r h2 ⟨rfl, ko4, w⟩
    change eb_Sn _ _ _ 24 _ [] _ _
    refine eb_aload_n (pc := 24) (n := 0) (i := 0) rfl rfl rfl ?_
    refine eb_getR (pc := 25) rfl rfl (by decide) (by decide) rfl (ko_s_EB_1 ko4) ?_
    refine eb_iload_n (pc := 28) (n := 2) (i := 2) rfl rfl rfl ?_
    refine eb_ctV (pc := 29) (As := [.int x2]) (rest := []) rfl (by decide) rfl rfl (by decide) rfl (Nat.le_of_ble_eq_true rfl) ?_
    refine eb_Ct.mono w ?_
    rintro r h5 ⟨rfl, ko7, w⟩
    change eb_Sn _ _ _ 32 _ [] _ _
    refine eb_aload_n (pc := 32) (n := 0) (i := 0) rfl rfl rfl ?_
    refine eb_getR (pc := 33) rfl rfl (by decide) (by decide) rfl (ko_s_EB_1 ko7) ?_
    refine eb_iload_n (pc := 36) (n := 3) (i := 3) rfl rfl rfl ?_
    refine eb_ctV (pc := 37) (As := [.int x3]) (rest := []) rfl (by decide) rfl rfl (by decide) rfl (Nat.le_of_ble_eq_true rfl) ?_
    refine eb_Ct.mono w ?_
    rintro r h8 ⟨rfl, ko10, w⟩
    change eb_Sn _ _ _ 40 _ [] _ _
    refine eb_aload_n (pc := 40) (n := 0) (i := 0) rfl rfl rfl ?_
    refine eb_getR (pc := 41) rfl rfl (by decide) (by decide) rfl (ko_s_EB_1 ko10) ?_
    refine eb_iload (pc := 44) (i := 4) rfl rfl ?_
    refine eb_ctV (pc := 46) (As := [.int x4]) (rest := []) rfl (by decide) rfl rfl (by decide) rfl (Nat.le_of_ble_eq_true rfl) ?_
    refine eb_Ct.mono w ?_
    rintro r h11 ⟨rfl, ko13, w⟩
    change eb_Sn _ _ _ 49 _ [] _ _
    refine eb_aload_n (pc := 49) (n := 0) (i := 0) rfl rfl rfl ?_
    refine eb_getR (pc := 50) rfl rfl (by decide) (by decide) rfl (ko_s_EB_1 ko13) ?_
    refine eb_iload (pc := 53) (i := 5) rfl rfl ?_
    refine eb_ctV (pc := 55) (As := [.int x5]) (rest := []) rfl (by decide) rfl rfl (by decide) rfl (Nat.le_of_ble_eq_true rfl) ?_
    refine eb_Ct.mono w ?_
    rintro r h14 ⟨rfl, ko16, w⟩
    change eb_Sn _ _ _ 58 _ [] _ _
    refine eb_aload_n (pc := 58) (n := 0) (i := 0) rfl rfl rfl ?_
    refine eb_getR (pc := 59) rfl rfl (by decide) (by decide) rfl (ko_s_EB_1 ko16) ?_
    refine eb_getI (pc := 62) rfl rfl (by decide) (by decide) rfl ?_
    exact eb_ireturn (pc := 65) rfl rfl rfl w
  · replace w := w.2 c1
    refine eb_bipush (pc := 13) (n := -5) (v := (-5)) rfl rfl ?_
    exact eb_ireturn (pc := 15) rfl rfl rfl w
theorem T_X10_feed {d : Nat} {h : eb_H} {Q : Option Value → eb_H → Prop} (x1 : Int32) (x2 : Int32) (x3 : Int32) (x4 : Int32) (x5 : Int32)  (ko : eb_KO h) (w : (((eb_I h s_tape 1) ≤ (880 : Int32) → eb_Ct d 66 [.ref s_tape, .int x1] h (fun r h2 => r = none ∧ eb_KO h2 ∧ eb_Ct d 66 [.ref s_tape, .int x2] h2 (fun r h5 => r = none ∧ eb_KO h5 ∧ eb_Ct d 66 [.ref s_tape, .int x3] h5 (fun r h8 => r = none ∧ eb_KO h8 ∧ eb_Ct d 66 [.ref s_tape, .int x4] h8 (fun r h11 => r = none ∧ eb_KO h11 ∧ eb_Ct d 66 [.ref s_tape, .int x5] h11 (fun r h14 => r = none ∧ eb_KO h14 ∧ Q (some (.int (eb_I h14 s_tape 1))) h14)))))) ∧ (¬ ((eb_I h s_tape 1) ≤ (880 : Int32)) → Q (some (.int (-5))) h))) : eb_Ct (d + 1) 96 [.ref s_EB, .int x1, .int x2, .int x3, .int x4, .int x5] h Q :=
  eb_bodyQ (by decide) ok_X10_feed (Nat.le_of_ble_eq_true rfl) (b_X10_feed_0 (h0 := h) x1 x2 x3 x4 x5  ko w)
theorem b_X10_valley_0 {d : Nat} {h0 h : eb_H} {Q : Option Value → eb_H → Prop} (x1 : Int32)  (ko : eb_KO h) (w : ((x1 < 0 → Q (some (.int (-3))) h) ∧ (¬ (x1 < 0) → ((x1 ≤ (eb_I h s_tape 1) → eb_Ct d 46 [.ref s_reader, .int x1] h (fun r h3 => r = none ∧ eb_KO h3 ∧ (((eb_I (eb_sI h3 s_tape 1 0) s_tape 7) = 0 → ∃ r7, eb_R (eb_sI h3 s_tape 1 0) s_reader 2 = some r7 ∧ eb_kd r7 = 9 ∧ eb_Ct d 60 [.ref s_now, .ref s_reader_start] (eb_sR (eb_sI h3 s_tape 1 0) s_EB 2 (some r7)) (fun r h10 => r = none ∧ eb_KO h10 ∧ eb_Ct d 44 [.ref s_past] h10 (fun r h13 => r = none ∧ eb_KO h13 ∧ ∃ r16, eb_R h13 s_EB 2 = some r16 ∧ eb_kd r16 = 9 ∧ Q (some (.int (eb_I h13 r16 3))) h13))) ∧ (¬ ((eb_I (eb_sI h3 s_tape 1 0) s_tape 7) = 0) → Q (some (.int (((-30) : Int32) - (eb_I (eb_sI h3 s_tape 1 0) s_tape 7)))) (eb_sI h3 s_tape 1 0))))) ∧ (¬ (x1 ≤ (eb_I h s_tape 1)) → Q (some (.int (-3))) h))))) : eb_Sn (d + 1) m_X10_valley h0 0 [(0, .ref s_EB), (1, .int x1)] [] h Q := by
  refine eb_iload_n (pc := 0) (n := 1) (i := 1) rfl rfl rfl ?_
  refine eb_if_lt (pc := 1) (tgt := 15) rfl (by decide) (fun c1 => ?_) (fun c1 => ?_)
  · replace w := w.1 c1
    refine eb_bipush (pc := 15) (n := -3) (v := (-3)) rfl rfl ?_
    exact eb_ireturn (pc := 17) rfl rfl rfl w
  · replace w := w.2 c1
    refine eb_iload_n (pc := 4) (n := 1) (i := 1) rfl rfl rfl ?_
    refine eb_aload_n (pc := 5) (n := 0) (i := 0) rfl rfl rfl ?_
    refine eb_getR (pc := 6) rfl rfl (by decide) (by decide) rfl (ko_s_EB_1 ko) ?_
    refine eb_getI (pc := 9) rfl rfl (by decide) (by decide) rfl ?_
    refine eb_icmp_le (pc := 12) (tgt := 18) rfl (by decide) (fun c2 => ?_) (fun c2 => ?_)
    · replace w := w.1 c2
      refine eb_aload_n (pc := 18) (n := 0) (i := 0) rfl rfl rfl ?_
      refine eb_getR (pc := 19) rfl rfl (by decide) (by decide) rfl (ko_s_EB_0 ko) ?_
      refine eb_iload_n (pc := 22) (n := 1) (i := 1) rfl rfl rfl ?_
      refine eb_ctV (pc := 23) (As := [.int x1]) (rest := []) rfl (by decide) rfl rfl (by decide) rfl (Nat.le_of_ble_eq_true rfl) ?_
      refine eb_Ct.mono w ?_
      rintro r h3 ⟨rfl, ko5, w⟩
      change eb_Sn _ _ _ 26 _ [] _ _
      refine eb_aload_n (pc := 26) (n := 0) (i := 0) rfl rfl rfl ?_
      refine eb_getR (pc := 27) rfl rfl (by decide) (by decide) rfl (ko_s_EB_1 ko5) ?_
      refine eb_iconst (pc := 30) (n := 0) (v := 0) rfl rfl ?_
      refine eb_putI (pc := 31) rfl rfl (by decide) (by decide) rfl rfl ⟨rfl, rfl⟩ ?_
      refine eb_aload_n (pc := 34) (n := 0) (i := 0) rfl rfl rfl ?_
      refine eb_getR (pc := 35) rfl rfl (by decide) (by decide) rfl (ko_s_EB_1 ko5) ?_
      refine eb_getI (pc := 38) rfl rfl (by decide) (by decide) rfl ?_
      refine eb_if_eq (pc := 41) (tgt := 55) rfl (by decide) (fun c6 => ?_) (fun c6 => ?_)
      · replace w := w.1 c6
        refine eb_aload_n (pc := 55) (n := 0) (i := 0) rfl rfl rfl ?_
        refine eb_aload_n (pc := 56) (n := 0) (i := 0) rfl rfl rfl ?_
        refine eb_getR (pc := 57) rfl rfl (by decide) (by decide) rfl (ko_s_EB_0 ko5) ?_
        obtain ⟨r7, q8, k9, w⟩ := w
        refine eb_getR (pc := 60) rfl rfl (by decide) (by decide) rfl q8 ?_
        refine eb_putR (pc := 63) rfl rfl (by decide) (by decide) rfl (Or.inl rfl) (eb_k20 (c := 9) k9 (by decide)) ?_
        refine eb_aload_n (pc := 66) (n := 0) (i := 0) rfl rfl rfl ?_
        refine eb_getR (pc := 67) rfl rfl (by decide) (by decide) rfl (ko_s_EB_3 (ko_sR (by decide +kernel) ko5)) ?_
        refine eb_aload_n (pc := 70) (n := 0) (i := 0) rfl rfl rfl ?_
        refine eb_getR (pc := 71) rfl rfl (by decide) (by decide) rfl (ko_s_EB_0 (ko_sR (by decide +kernel) ko5)) ?_
        refine eb_getR (pc := 74) rfl rfl (by decide) (by decide) rfl (ko_s_reader_3 (ko_sR (by decide +kernel) ko5)) ?_
        refine eb_ctV (pc := 77) (As := [.ref s_reader_start]) (rest := []) rfl (by decide) rfl rfl (by decide) rfl (Nat.le_of_ble_eq_true rfl) ?_
        refine eb_Ct.mono w ?_
        rintro r h10 ⟨rfl, ko12, w⟩
        change eb_Sn _ _ _ 80 _ [] _ _
        refine eb_aload_n (pc := 80) (n := 0) (i := 0) rfl rfl rfl ?_
        refine eb_getR (pc := 81) rfl rfl (by decide) (by decide) rfl (ko_s_EB_6 ko12) ?_
        refine eb_ctV (pc := 84) (As := []) (rest := []) rfl (by decide) rfl rfl (by decide) rfl (Nat.le_of_ble_eq_true rfl) ?_
        refine eb_Ct.mono w ?_
        rintro r h13 ⟨rfl, ko15, w⟩
        change eb_Sn _ _ _ 87 _ [] _ _
        refine eb_aload_n (pc := 87) (n := 0) (i := 0) rfl rfl rfl ?_
        obtain ⟨r16, q17, k18, w⟩ := w
        refine eb_getR (pc := 88) rfl rfl (by decide) (by decide) rfl q17 ?_
        refine eb_getI (pc := 91) rfl k18 (by decide) (by decide) rfl ?_
        exact eb_ireturn (pc := 94) rfl rfl rfl w
      · replace w := w.2 c6
        refine eb_bipush (pc := 44) (n := -30) (v := (-30)) rfl rfl ?_
        refine eb_aload_n (pc := 46) (n := 0) (i := 0) rfl rfl rfl ?_
        refine eb_getR (pc := 47) rfl rfl (by decide) (by decide) rfl (ko_s_EB_1 ko5) ?_
        refine eb_getI (pc := 50) rfl rfl (by decide) (by decide) rfl ?_
        refine eb_isub (pc := 53) rfl ?_
        exact eb_ireturn (pc := 54) rfl rfl rfl w
    · replace w := w.2 c2
      refine eb_bipush (pc := 15) (n := -3) (v := (-3)) rfl rfl ?_
      exact eb_ireturn (pc := 17) rfl rfl rfl w
theorem T_X10_valley {d : Nat} {h : eb_H} {Q : Option Value → eb_H → Prop} (x1 : Int32)  (ko : eb_KO h) (w : ((x1 < 0 → Q (some (.int (-3))) h) ∧ (¬ (x1 < 0) → ((x1 ≤ (eb_I h s_tape 1) → eb_Ct d 46 [.ref s_reader, .int x1] h (fun r h3 => r = none ∧ eb_KO h3 ∧ (((eb_I (eb_sI h3 s_tape 1 0) s_tape 7) = 0 → ∃ r7, eb_R (eb_sI h3 s_tape 1 0) s_reader 2 = some r7 ∧ eb_kd r7 = 9 ∧ eb_Ct d 60 [.ref s_now, .ref s_reader_start] (eb_sR (eb_sI h3 s_tape 1 0) s_EB 2 (some r7)) (fun r h10 => r = none ∧ eb_KO h10 ∧ eb_Ct d 44 [.ref s_past] h10 (fun r h13 => r = none ∧ eb_KO h13 ∧ ∃ r16, eb_R h13 s_EB 2 = some r16 ∧ eb_kd r16 = 9 ∧ Q (some (.int (eb_I h13 r16 3))) h13))) ∧ (¬ ((eb_I (eb_sI h3 s_tape 1 0) s_tape 7) = 0) → Q (some (.int (((-30) : Int32) - (eb_I (eb_sI h3 s_tape 1 0) s_tape 7)))) (eb_sI h3 s_tape 1 0))))) ∧ (¬ (x1 ≤ (eb_I h s_tape 1)) → Q (some (.int (-3))) h))))) : eb_Ct (d + 1) 97 [.ref s_EB, .int x1] h Q :=
  eb_bodyQ (by decide) ok_X10_valley (Nat.le_of_ble_eq_true rfl) (b_X10_valley_0 (h0 := h) x1  ko w)
theorem b_X10_fault_0 {d : Nat} {h0 h : eb_H} {Q : Option Value → eb_H → Prop} (x1 : Int32)  (ko : eb_KO h) (w : ((¬ x1 = 0 → Q (some (.int (if x1 = (1 : Int32) then eb_I h s_tape 8 else (-1) : Int32))) h) ∧ (x1 = 0 → Q (some (.int (eb_I h s_tape 7))) h))) : eb_Sn d m_X10_fault h0 0 [(0, .ref s_EB), (1, .int x1)] [] h Q := by
  refine eb_iload_n (pc := 0) (n := 1) (i := 1) rfl rfl rfl ?_
  refine eb_if_ne (pc := 1) (tgt := 12) rfl (by decide) (fun c1 => ?_) (fun c1 => ?_)
  · replace w := w.1 c1
    refine eb_iload_n (pc := 12) (n := 1) (i := 1) rfl rfl rfl ?_
    refine eb_iconst (pc := 13) (n := 1) (v := 1) rfl rfl ?_
    refine eb_joinI (pc2 := 28) (ls2 := [(0, .ref s_EB), (1, .int x1)]) (st2 := []) (v := (if x1 = (1 : Int32) then eb_I h s_tape 8 else (-1) : Int32)) ?_ (fun jj3 => ?_)
    · exact eb_ireturn (pc := 28) rfl rfl rfl w
    refine eb_icmp_ne (pc := 14) (tgt := 27) rfl (by decide) (fun c2 => ?_) (fun c2 => ?_)
    · refine eb_iconst (pc := 27) (n := -1) (v := (-1)) rfl rfl ?_
      exact jj3 _ (by simp only [if_neg c2])
    · refine eb_aload_n (pc := 17) (n := 0) (i := 0) rfl rfl rfl ?_
      refine eb_getR (pc := 18) rfl rfl (by decide) (by decide) rfl (ko_s_EB_1 ko) ?_
      refine eb_getI (pc := 21) rfl rfl (by decide) (by decide) rfl ?_
      refine eb_goto (pc := 24) (tgt := 28) rfl (by decide) ?_
      exact jj3 _ (by simp only [if_pos c2])
  · replace w := w.2 c1
    refine eb_aload_n (pc := 4) (n := 0) (i := 0) rfl rfl rfl ?_
    refine eb_getR (pc := 5) rfl rfl (by decide) (by decide) rfl (ko_s_EB_1 ko) ?_
    refine eb_getI (pc := 8) rfl rfl (by decide) (by decide) rfl ?_
    exact eb_ireturn (pc := 11) rfl rfl rfl w
theorem T_X10_fault {d : Nat} {h : eb_H} {Q : Option Value → eb_H → Prop} (x1 : Int32)  (ko : eb_KO h) (w : ((¬ x1 = 0 → Q (some (.int (if x1 = (1 : Int32) then eb_I h s_tape 8 else (-1) : Int32))) h) ∧ (x1 = 0 → Q (some (.int (eb_I h s_tape 7))) h))) : eb_Ct d 98 [.ref s_EB, .int x1] h Q :=
  eb_bodyQ (by decide) ok_X10_fault (Nat.le_of_ble_eq_true rfl) (b_X10_fault_0 (h0 := h) x1  ko w)
theorem b_X10_cell_0 {d : Nat} {h0 h : eb_H} {Q : Option Value → eb_H → Prop} (x1 : Int32) (x2 : Int32)  (ko : eb_KO h) (w : ∃ r1, eb_R h s_EB 2 = some r1 ∧ eb_kd r1 = 9 ∧ (((¬ (x1 < 0)) ∧ (¬ (((eb_I h r1 0) * (eb_I h r1 1)) ≤ x1)) → ((x2 = 0 → ((x1 < 0 → Q (some (.int 0)) h) ∧ (¬ (x1 < 0) → ∃ r8, eb_R h r1 6 = some r8 ∧ eb_kd r8 = 13 ∧ (((Int32.ofNat (eb_ln r8)) ≤ x1 → Q (some (.int 0)) h) ∧ (¬ ((Int32.ofNat (eb_ln r8)) ≤ x1) → (vp_in x1 (eb_ln r8)) ∧ Q (some (.int (eb_I h r8 x1.toNatClampNeg))) h))))) ∧ (x2 = 1 → ((x1 < 0 → Q (some (.int 0)) h) ∧ (¬ (x1 < 0) → (((16 : Int32) ≤ x1 → Q (some (.int 0)) h) ∧ (¬ ((16 : Int32) ≤ x1) → (vp_in x1 16) ∧ Q (some (.int (eb_I h s_now_things x1.toNatClampNeg))) h))))) ∧ (x2 = 2 → Q (some (.int (eb_q ((((eb_I h s_now 3) >>> (x1 &&& 31)) &&& 1) = (1 : Int32))))) h) ∧ (x2 = 3 → eb_Ct d 86 [.ref r1, .int x1] h (fun r h22 => ∃ y23, r = some (.int y23) ∧ eb_KO h22 ∧ Q (some (.int y23)) h22)) ∧ (¬ x2 = 0 → ¬ x2 = 1 → ¬ x2 = 2 → ¬ x2 = 3 → Q (some (.int (-2))) h))) ∧ (¬ ((¬ (x1 < 0)) ∧ (¬ (((eb_I h r1 0) * (eb_I h r1 1)) ≤ x1))) → Q (some (.int (-2))) h))) : eb_Sn (d + 1) m_X10_cell h0 0 [(0, .ref s_EB), (1, .int x1), (2, .int x2)] [] h Q := by
  refine eb_aload_n (pc := 0) (n := 0) (i := 0) rfl rfl rfl ?_
  obtain ⟨r1, q2, k3, w⟩ := w
  refine eb_getR (pc := 1) rfl rfl (by decide) (by decide) rfl q2 ?_
  refine eb_iload_n (pc := 4) (n := 1) (i := 1) rfl rfl rfl ?_
  refine eb_joinI (pc2 := 8) (ls2 := [(0, .ref s_EB), (1, .int x1), (2, .int x2)]) (st2 := []) (v := eb_q ((¬ (x1 < 0)) ∧ (¬ (((eb_I h r1 0) * (eb_I h r1 1)) ≤ x1)))) ?_ (fun jj25 => ?_)
  · refine eb_if_ne (pc := 8) (tgt := 14) rfl (by decide) (fun c6 => ?_) (fun c6 => ?_)
    · replace c6 := eb_q1.mp c6
      replace w := w.1 c6
      refine eb_iload_n (pc := 14) (n := 2) (i := 2) rfl rfl rfl ?_
      by_cases s0 : x2 = 0
      · refine eb_tableIn (pc := 15) (j := 0) (tgt := 44) (by rw [s0]; decide) (by decide) (by rfl) (by decide) rfl ?_
        replace w := w.1 s0
        refine eb_aload_n (pc := 44) (n := 0) (i := 0) rfl rfl rfl ?_
        refine eb_getR (pc := 45) rfl rfl (by decide) (by decide) rfl q2 ?_
        refine eb_iload_n (pc := 48) (n := 1) (i := 1) rfl rfl rfl ?_
        refine eb_ctV (pc := 49) (As := [.int x1]) (rest := []) rfl (by decide) rfl k3 (by decide) rfl (Nat.le_of_ble_eq_true rfl) ?_
        refine eb_bodyQ (by decide) ok_X9_heightOf (Nat.le_of_ble_eq_true rfl) ?_
        change eb_Sn _ m_X9_heightOf _ 0 [(0, .ref r1), (1, .int x1)] [] _ _
        refine eb_iload_n (pc := 0) (n := 1) (i := 1) rfl rfl rfl ?_
        refine eb_if_lt (pc := 1) (tgt := 22) rfl (by decide) (fun c7 => ?_) (fun c7 => ?_)
        · replace w := w.1 c7
          refine eb_iconst (pc := 22) (n := 0) (v := 0) rfl rfl ?_
          refine eb_ireturn (pc := 23) rfl rfl rfl ?_
          change eb_Sn _ _ _ 52 _ [.int 0] _ _
          exact eb_ireturn (pc := 52) rfl rfl rfl w
        · replace w := w.2 c7
          refine eb_iload_n (pc := 4) (n := 1) (i := 1) rfl rfl rfl ?_
          refine eb_aload_n (pc := 5) (n := 0) (i := 0) rfl rfl rfl ?_
          obtain ⟨r8, q9, k10, w⟩ := w
          refine eb_getR (pc := 6) rfl k3 (by decide) (by decide) rfl q9 ?_
          refine eb_alen (pc := 9) rfl (by rw [k10]; decide) (by rw [k10]; decide) rfl ?_
          refine eb_icmp_ge (pc := 10) (tgt := 22) rfl (by decide) (fun c11 => ?_) (fun c11 => ?_)
          · replace w := w.1 c11
            refine eb_iconst (pc := 22) (n := 0) (v := 0) rfl rfl ?_
            refine eb_ireturn (pc := 23) rfl rfl rfl ?_
            change eb_Sn _ _ _ 52 _ [.int 0] _ _
            exact eb_ireturn (pc := 52) rfl rfl rfl w
          · replace w := w.2 c11
            refine eb_aload_n (pc := 13) (n := 0) (i := 0) rfl rfl rfl ?_
            refine eb_getR (pc := 14) rfl k3 (by decide) (by decide) rfl q9 ?_
            refine eb_iload_n (pc := 17) (n := 1) (i := 1) rfl rfl rfl ?_
            obtain ⟨c12, w⟩ := w
            refine eb_iaload (pc := 18) rfl k10 (by decide) c12 ?_
            refine eb_goto (pc := 19) (tgt := 23) rfl (by decide) ?_
            refine eb_ireturn (pc := 23) rfl rfl rfl ?_
            change eb_Sn _ _ _ 52 _ [.int (eb_I h r8 x1.toNatClampNeg)] _ _
            exact eb_ireturn (pc := 52) rfl rfl rfl w
      by_cases s1 : x2 = 1
      · refine eb_tableIn (pc := 15) (j := 1) (tgt := 53) (by rw [s1]; decide) (by decide) (by rfl) (by decide) rfl ?_
        replace w := w.2.1 s1
        refine eb_aload_n (pc := 53) (n := 0) (i := 0) rfl rfl rfl ?_
        refine eb_getR (pc := 54) rfl rfl (by decide) (by decide) rfl (ko_s_EB_3 ko) ?_
        refine eb_iload_n (pc := 57) (n := 1) (i := 1) rfl rfl rfl ?_
        refine eb_ctV (pc := 58) (As := [.int x1]) (rest := []) rfl (by decide) rfl rfl (by decide) rfl (Nat.le_of_ble_eq_true rfl) ?_
        refine eb_bodyQ (by decide) ok_X6_thingIn (Nat.le_of_ble_eq_true rfl) ?_
        change eb_Sn _ m_X6_thingIn _ 0 [(0, .ref s_now), (1, .int x1)] [] _ _
        refine eb_iload_n (pc := 0) (n := 1) (i := 1) rfl rfl rfl ?_
        refine eb_if_lt (pc := 1) (tgt := 22) rfl (by decide) (fun c13 => ?_) (fun c13 => ?_)
        · replace w := w.1 c13
          refine eb_iconst (pc := 22) (n := 0) (v := 0) rfl rfl ?_
          refine eb_ireturn (pc := 23) rfl rfl rfl ?_
          change eb_Sn _ _ _ 61 _ [.int 0] _ _
          exact eb_ireturn (pc := 61) rfl rfl rfl w
        · replace w := w.2 c13
          refine eb_iload_n (pc := 4) (n := 1) (i := 1) rfl rfl rfl ?_
          refine eb_aload_n (pc := 5) (n := 0) (i := 0) rfl rfl rfl ?_
          refine eb_getR (pc := 6) rfl rfl (by decide) (by decide) rfl (ko_s_now_5 ko) ?_
          refine eb_alen (pc := 9) (v := 16) rfl (by decide) (by decide) rfl ?_
          refine eb_icmp_ge (pc := 10) (tgt := 22) rfl (by decide) (fun c14 => ?_) (fun c14 => ?_)
          · replace w := w.1 c14
            refine eb_iconst (pc := 22) (n := 0) (v := 0) rfl rfl ?_
            refine eb_ireturn (pc := 23) rfl rfl rfl ?_
            change eb_Sn _ _ _ 61 _ [.int 0] _ _
            exact eb_ireturn (pc := 61) rfl rfl rfl w
          · replace w := w.2 c14
            refine eb_aload_n (pc := 13) (n := 0) (i := 0) rfl rfl rfl ?_
            refine eb_getR (pc := 14) rfl rfl (by decide) (by decide) rfl (ko_s_now_5 ko) ?_
            refine eb_iload_n (pc := 17) (n := 1) (i := 1) rfl rfl rfl ?_
            obtain ⟨c15, w⟩ := w
            refine eb_iaload (pc := 18) rfl rfl (by decide) c15 ?_
            refine eb_goto (pc := 19) (tgt := 23) rfl (by decide) ?_
            refine eb_ireturn (pc := 23) rfl rfl rfl ?_
            change eb_Sn _ _ _ 61 _ [.int (eb_I h s_now_things x1.toNatClampNeg)] _ _
            exact eb_ireturn (pc := 61) rfl rfl rfl w
      by_cases s2 : x2 = 2
      · refine eb_tableIn (pc := 15) (j := 2) (tgt := 62) (by rw [s2]; decide) (by decide) (by rfl) (by decide) rfl ?_
        replace w := w.2.2.1 s2
        refine eb_aload_n (pc := 62) (n := 0) (i := 0) rfl rfl rfl ?_
        refine eb_getR (pc := 63) rfl rfl (by decide) (by decide) rfl (ko_s_EB_3 ko) ?_
        refine eb_iload_n (pc := 66) (n := 1) (i := 1) rfl rfl rfl ?_
        refine eb_joinI (pc2 := 70) (ls2 := [(0, .ref s_EB), (1, .int x1), (2, .int x2)]) (st2 := []) (v := eb_q ((((eb_I h s_now 3) >>> (x1 &&& 31)) &&& 1) = (1 : Int32))) ?_ (fun jj20 => ?_)
        · refine eb_joinI (pc2 := 78) (ls2 := [(0, .ref s_EB), (1, .int x1), (2, .int x2)]) (st2 := []) (v := eb_q ((((eb_I h s_now 3) >>> (x1 &&& 31)) &&& 1) = (1 : Int32))) ?_ (fun jj18 => ?_)
          · exact eb_ireturn (pc := 78) rfl rfl rfl w
          refine eb_if_eq (pc := 70) (tgt := 77) rfl (by decide) (fun c17 => ?_) (fun c17 => ?_)
          · replace c17 := eb_q0.mp c17
            refine eb_iconst (pc := 77) (n := 0) (v := 0) rfl rfl ?_
            exact jj18 0 (eb_qf c17).symm
          · replace c17 := eb_q1.mp c17
            refine eb_iconst (pc := 73) (n := 1) (v := 1) rfl rfl ?_
            refine eb_goto (pc := 74) (tgt := 78) rfl (by decide) ?_
            exact jj18 1 (eb_qt c17).symm
        refine eb_ctV (pc := 67) (As := [.int x1]) (rest := []) rfl (by decide) rfl rfl (by decide) rfl (Nat.le_of_ble_eq_true rfl) ?_
        refine eb_bodyQ (by decide) ok_X6_hasDrift (Nat.le_of_ble_eq_true rfl) ?_
        change eb_Sn _ m_X6_hasDrift _ 0 [(0, .ref s_now), (1, .int x1)] [] _ _
        refine eb_aload_n (pc := 0) (n := 0) (i := 0) rfl rfl rfl ?_
        refine eb_getI (pc := 1) rfl rfl (by decide) (by decide) rfl ?_
        refine eb_iload_n (pc := 4) (n := 1) (i := 1) rfl rfl rfl ?_
        refine eb_ishr (pc := 5) rfl ?_
        refine eb_iconst (pc := 6) (n := 1) (v := 1) rfl rfl ?_
        refine eb_iand (pc := 7) rfl ?_
        refine eb_iconst (pc := 8) (n := 1) (v := 1) rfl rfl ?_
        refine eb_icmp_ne (pc := 9) (tgt := 16) rfl (by decide) (fun c16 => ?_) (fun c16 => ?_)
        · refine eb_iconst (pc := 16) (n := 0) (v := 0) rfl rfl ?_
          refine eb_ireturn (pc := 17) rfl rfl (by decide) ?_
          change eb_Sn _ _ _ 70 _ _ _ _
          exact jj20 0 (eb_qf c16).symm
        · refine eb_iconst (pc := 12) (n := 1) (v := 1) rfl rfl ?_
          refine eb_goto (pc := 13) (tgt := 17) rfl (by decide) ?_
          refine eb_ireturn (pc := 17) rfl rfl (by decide) ?_
          change eb_Sn _ _ _ 70 _ _ _ _
          exact jj20 1 (eb_qt c16).symm
      by_cases s3 : x2 = 3
      · refine eb_tableIn (pc := 15) (j := 3) (tgt := 79) (by rw [s3]; decide) (by decide) (by rfl) (by decide) rfl ?_
        replace w := w.2.2.2.1 s3
        refine eb_aload_n (pc := 79) (n := 0) (i := 0) rfl rfl rfl ?_
        refine eb_getR (pc := 80) rfl rfl (by decide) (by decide) rfl q2 ?_
        refine eb_iload_n (pc := 83) (n := 1) (i := 1) rfl rfl rfl ?_
        refine eb_ctV (pc := 84) (As := [.int x1]) (rest := []) rfl (by decide) rfl k3 (by decide) rfl (Nat.le_of_ble_eq_true rfl) ?_
        refine eb_Ct.mono w ?_
        rintro r h22 ⟨y23, rfl, ko24, w⟩
        change eb_Sn _ _ _ 87 _ [.int y23] _ _
        exact eb_ireturn (pc := 87) rfl rfl rfl w
      refine eb_tableOut (pc := 15) (tgt := 88) (by have z0 := lv_neT (a := 0) s0 (by decide); have z1 := lv_neT (a := 1) s1 (by decide); have z2 := lv_neT (a := 2) s2 (by decide); have z3 := lv_neT (a := 3) s3 (by decide); omega) (by decide) rfl ?_
      replace w := w.2.2.2.2 s0 s1 s2 s3
      refine eb_bipush (pc := 88) (n := -2) (v := (-2)) rfl rfl ?_
      exact eb_ireturn (pc := 90) rfl rfl rfl w
    · replace c6 := eb_q0.mp c6
      replace w := w.2 c6
      refine eb_bipush (pc := 11) (n := -2) (v := (-2)) rfl rfl ?_
      exact eb_ireturn (pc := 13) rfl rfl rfl w
  refine eb_ctV (pc := 5) (As := [.int x1]) (rest := []) rfl (by decide) rfl k3 (by decide) rfl (Nat.le_of_ble_eq_true rfl) ?_
  refine eb_bodyQ (by decide) ok_X9_has (Nat.le_of_ble_eq_true rfl) ?_
  change eb_Sn _ m_X9_has _ 0 [(0, .ref r1), (1, .int x1)] [] _ _
  refine eb_iload_n (pc := 0) (n := 1) (i := 1) rfl rfl rfl ?_
  refine eb_if_lt (pc := 1) (tgt := 21) rfl (by decide) (fun c4 => ?_) (fun c4 => ?_)
  · refine eb_iconst (pc := 21) (n := 0) (v := 0) rfl rfl ?_
    refine eb_ireturn (pc := 22) rfl rfl (by decide) ?_
    change eb_Sn _ _ _ 8 _ _ _ _
    exact jj25 0 (eb_qf (fun z => z.1 c4)).symm
  · refine eb_iload_n (pc := 4) (n := 1) (i := 1) rfl rfl rfl ?_
    refine eb_aload_n (pc := 5) (n := 0) (i := 0) rfl rfl rfl ?_
    refine eb_getI (pc := 6) rfl k3 (by decide) (by decide) rfl ?_
    refine eb_aload_n (pc := 9) (n := 0) (i := 0) rfl rfl rfl ?_
    refine eb_getI (pc := 10) rfl k3 (by decide) (by decide) rfl ?_
    refine eb_imul (pc := 13) rfl ?_
    refine eb_icmp_ge (pc := 14) (tgt := 21) rfl (by decide) (fun c5 => ?_) (fun c5 => ?_)
    · refine eb_iconst (pc := 21) (n := 0) (v := 0) rfl rfl ?_
      refine eb_ireturn (pc := 22) rfl rfl (by decide) ?_
      change eb_Sn _ _ _ 8 _ _ _ _
      exact jj25 0 (eb_qf (fun z => (fun z => z c5) z.2)).symm
    · refine eb_iconst (pc := 17) (n := 1) (v := 1) rfl rfl ?_
      refine eb_goto (pc := 18) (tgt := 22) rfl (by decide) ?_
      refine eb_ireturn (pc := 22) rfl rfl (by decide) ?_
      change eb_Sn _ _ _ 8 _ _ _ _
      exact jj25 1 (eb_qt (⟨c4, c5⟩)).symm
theorem T_X10_cell {d : Nat} {h : eb_H} {Q : Option Value → eb_H → Prop} (x1 : Int32) (x2 : Int32)  (ko : eb_KO h) (w : ∃ r1, eb_R h s_EB 2 = some r1 ∧ eb_kd r1 = 9 ∧ (((¬ (x1 < 0)) ∧ (¬ (((eb_I h r1 0) * (eb_I h r1 1)) ≤ x1)) → ((x2 = 0 → ((x1 < 0 → Q (some (.int 0)) h) ∧ (¬ (x1 < 0) → ∃ r8, eb_R h r1 6 = some r8 ∧ eb_kd r8 = 13 ∧ (((Int32.ofNat (eb_ln r8)) ≤ x1 → Q (some (.int 0)) h) ∧ (¬ ((Int32.ofNat (eb_ln r8)) ≤ x1) → (vp_in x1 (eb_ln r8)) ∧ Q (some (.int (eb_I h r8 x1.toNatClampNeg))) h))))) ∧ (x2 = 1 → ((x1 < 0 → Q (some (.int 0)) h) ∧ (¬ (x1 < 0) → (((16 : Int32) ≤ x1 → Q (some (.int 0)) h) ∧ (¬ ((16 : Int32) ≤ x1) → (vp_in x1 16) ∧ Q (some (.int (eb_I h s_now_things x1.toNatClampNeg))) h))))) ∧ (x2 = 2 → Q (some (.int (eb_q ((((eb_I h s_now 3) >>> (x1 &&& 31)) &&& 1) = (1 : Int32))))) h) ∧ (x2 = 3 → eb_Ct d 86 [.ref r1, .int x1] h (fun r h22 => ∃ y23, r = some (.int y23) ∧ eb_KO h22 ∧ Q (some (.int y23)) h22)) ∧ (¬ x2 = 0 → ¬ x2 = 1 → ¬ x2 = 2 → ¬ x2 = 3 → Q (some (.int (-2))) h))) ∧ (¬ ((¬ (x1 < 0)) ∧ (¬ (((eb_I h r1 0) * (eb_I h r1 1)) ≤ x1))) → Q (some (.int (-2))) h))) : eb_Ct (d + 1) 99 [.ref s_EB, .int x1, .int x2] h Q :=
  eb_bodyQ (by decide) ok_X10_cell (Nat.le_of_ble_eq_true rfl) (b_X10_cell_0 (h0 := h) x1 x2  ko w)
theorem b_X10_house_0 {d : Nat} {h0 h : eb_H} {Q : Option Value → eb_H → Prop} (x1 : Int32)  (ko : eb_KO h) (w : ∃ r1, eb_R h s_EB 2 = some r1 ∧ eb_kd r1 = 9 ∧ ((¬ ((¬ (x1 < 0)) ∧ (¬ ((eb_I h r1 4) ≤ x1))) → Q (some (.int (-2))) h) ∧ ((¬ (x1 < 0)) ∧ (¬ ((eb_I h r1 4) ≤ x1)) → ((x1 < 0 → Q (some (.int (-1))) h) ∧ (¬ (x1 < 0) → ∃ r8, eb_R h r1 5 = some r8 ∧ eb_kd r8 = 13 ∧ (((Int32.ofNat (eb_ln r8)) ≤ x1 → Q (some (.int (-1))) h) ∧ (¬ ((Int32.ofNat (eb_ln r8)) ≤ x1) → (vp_in x1 (eb_ln r8)) ∧ Q (some (.int (eb_I h r8 x1.toNatClampNeg))) h))))))) : eb_Sn (d + 1) m_X10_house h0 0 [(0, .ref s_EB), (1, .int x1)] [] h Q := by
  refine eb_aload_n (pc := 0) (n := 0) (i := 0) rfl rfl rfl ?_
  obtain ⟨r1, q2, k3, w⟩ := w
  refine eb_getR (pc := 1) rfl rfl (by decide) (by decide) rfl q2 ?_
  refine eb_iload_n (pc := 4) (n := 1) (i := 1) rfl rfl rfl ?_
  refine eb_joinI (pc2 := 8) (ls2 := [(0, .ref s_EB), (1, .int x1)]) (st2 := []) (v := eb_q ((¬ (x1 < 0)) ∧ (¬ ((eb_I h r1 4) ≤ x1)))) ?_ (fun jj13 => ?_)
  · refine eb_if_eq (pc := 8) (tgt := 22) rfl (by decide) (fun c6 => ?_) (fun c6 => ?_)
    · replace c6 := eb_q0.mp c6
      replace w := w.1 c6
      refine eb_bipush (pc := 22) (n := -2) (v := (-2)) rfl rfl ?_
      exact eb_ireturn (pc := 24) rfl rfl rfl w
    · replace c6 := eb_q1.mp c6
      replace w := w.2 c6
      refine eb_aload_n (pc := 11) (n := 0) (i := 0) rfl rfl rfl ?_
      refine eb_getR (pc := 12) rfl rfl (by decide) (by decide) rfl q2 ?_
      refine eb_iload_n (pc := 15) (n := 1) (i := 1) rfl rfl rfl ?_
      refine eb_ctV (pc := 16) (As := [.int x1]) (rest := []) rfl (by decide) rfl k3 (by decide) rfl (Nat.le_of_ble_eq_true rfl) ?_
      refine eb_bodyQ (by decide) ok_X9_houseCell (Nat.le_of_ble_eq_true rfl) ?_
      change eb_Sn _ m_X9_houseCell _ 0 [(0, .ref r1), (1, .int x1)] [] _ _
      refine eb_iload_n (pc := 0) (n := 1) (i := 1) rfl rfl rfl ?_
      refine eb_if_lt (pc := 1) (tgt := 22) rfl (by decide) (fun c7 => ?_) (fun c7 => ?_)
      · replace w := w.1 c7
        refine eb_iconst (pc := 22) (n := -1) (v := (-1)) rfl rfl ?_
        refine eb_ireturn (pc := 23) rfl rfl rfl ?_
        change eb_Sn _ _ _ 19 _ [.int (-1)] _ _
        refine eb_goto (pc := 19) (tgt := 24) rfl (by decide) ?_
        exact eb_ireturn (pc := 24) rfl rfl rfl w
      · replace w := w.2 c7
        refine eb_iload_n (pc := 4) (n := 1) (i := 1) rfl rfl rfl ?_
        refine eb_aload_n (pc := 5) (n := 0) (i := 0) rfl rfl rfl ?_
        obtain ⟨r8, q9, k10, w⟩ := w
        refine eb_getR (pc := 6) rfl k3 (by decide) (by decide) rfl q9 ?_
        refine eb_alen (pc := 9) rfl (by rw [k10]; decide) (by rw [k10]; decide) rfl ?_
        refine eb_icmp_ge (pc := 10) (tgt := 22) rfl (by decide) (fun c11 => ?_) (fun c11 => ?_)
        · replace w := w.1 c11
          refine eb_iconst (pc := 22) (n := -1) (v := (-1)) rfl rfl ?_
          refine eb_ireturn (pc := 23) rfl rfl rfl ?_
          change eb_Sn _ _ _ 19 _ [.int (-1)] _ _
          refine eb_goto (pc := 19) (tgt := 24) rfl (by decide) ?_
          exact eb_ireturn (pc := 24) rfl rfl rfl w
        · replace w := w.2 c11
          refine eb_aload_n (pc := 13) (n := 0) (i := 0) rfl rfl rfl ?_
          refine eb_getR (pc := 14) rfl k3 (by decide) (by decide) rfl q9 ?_
          refine eb_iload_n (pc := 17) (n := 1) (i := 1) rfl rfl rfl ?_
          obtain ⟨c12, w⟩ := w
          refine eb_iaload (pc := 18) rfl k10 (by decide) c12 ?_
          refine eb_goto (pc := 19) (tgt := 23) rfl (by decide) ?_
          refine eb_ireturn (pc := 23) rfl rfl rfl ?_
          change eb_Sn _ _ _ 19 _ [.int (eb_I h r8 x1.toNatClampNeg)] _ _
          refine eb_goto (pc := 19) (tgt := 24) rfl (by decide) ?_
          exact eb_ireturn (pc := 24) rfl rfl rfl w
  refine eb_ctV (pc := 5) (As := [.int x1]) (rest := []) rfl (by decide) rfl k3 (by decide) rfl (Nat.le_of_ble_eq_true rfl) ?_
  refine eb_bodyQ (by decide) ok_X9_hasHouse (Nat.le_of_ble_eq_true rfl) ?_
  change eb_Sn _ m_X9_hasHouse _ 0 [(0, .ref r1), (1, .int x1)] [] _ _
  refine eb_iload_n (pc := 0) (n := 1) (i := 1) rfl rfl rfl ?_
  refine eb_if_lt (pc := 1) (tgt := 16) rfl (by decide) (fun c4 => ?_) (fun c4 => ?_)
  · refine eb_iconst (pc := 16) (n := 0) (v := 0) rfl rfl ?_
    refine eb_ireturn (pc := 17) rfl rfl (by decide) ?_
    change eb_Sn _ _ _ 8 _ _ _ _
    exact jj13 0 (eb_qf (fun z => z.1 c4)).symm
  · refine eb_iload_n (pc := 4) (n := 1) (i := 1) rfl rfl rfl ?_
    refine eb_aload_n (pc := 5) (n := 0) (i := 0) rfl rfl rfl ?_
    refine eb_getI (pc := 6) rfl k3 (by decide) (by decide) rfl ?_
    refine eb_icmp_ge (pc := 9) (tgt := 16) rfl (by decide) (fun c5 => ?_) (fun c5 => ?_)
    · refine eb_iconst (pc := 16) (n := 0) (v := 0) rfl rfl ?_
      refine eb_ireturn (pc := 17) rfl rfl (by decide) ?_
      change eb_Sn _ _ _ 8 _ _ _ _
      exact jj13 0 (eb_qf (fun z => (fun z => z c5) z.2)).symm
    · refine eb_iconst (pc := 12) (n := 1) (v := 1) rfl rfl ?_
      refine eb_goto (pc := 13) (tgt := 17) rfl (by decide) ?_
      refine eb_ireturn (pc := 17) rfl rfl (by decide) ?_
      change eb_Sn _ _ _ 8 _ _ _ _
      exact jj13 1 (eb_qt (⟨c4, c5⟩)).symm
theorem T_X10_house {d : Nat} {h : eb_H} {Q : Option Value → eb_H → Prop} (x1 : Int32)  (ko : eb_KO h) (w : ∃ r1, eb_R h s_EB 2 = some r1 ∧ eb_kd r1 = 9 ∧ ((¬ ((¬ (x1 < 0)) ∧ (¬ ((eb_I h r1 4) ≤ x1))) → Q (some (.int (-2))) h) ∧ ((¬ (x1 < 0)) ∧ (¬ ((eb_I h r1 4) ≤ x1)) → ((x1 < 0 → Q (some (.int (-1))) h) ∧ (¬ (x1 < 0) → ∃ r8, eb_R h r1 5 = some r8 ∧ eb_kd r8 = 13 ∧ (((Int32.ofNat (eb_ln r8)) ≤ x1 → Q (some (.int (-1))) h) ∧ (¬ ((Int32.ofNat (eb_ln r8)) ≤ x1) → (vp_in x1 (eb_ln r8)) ∧ Q (some (.int (eb_I h r8 x1.toNatClampNeg))) h))))))) : eb_Ct (d + 1) 100 [.ref s_EB, .int x1] h Q :=
  eb_bodyQ (by decide) ok_X10_house (Nat.le_of_ble_eq_true rfl) (b_X10_house_0 (h0 := h) x1  ko w)
theorem b_X10_why_0 {d : Nat} {h0 h : eb_H} {Q : Option Value → eb_H → Prop} (x1 : Int32)  (ko : eb_KO h) (w : ∃ r1, eb_R h s_EB 2 = some r1 ∧ eb_kd r1 = 9 ∧ eb_Ct d 89 [.ref r1, .ref s_now, .int x1] h (fun r h4 => ∃ y5, r = some (.int y5) ∧ eb_KO h4 ∧ Q (some (.int (if (0 : Int32) < (-y5) then -y5 else 0 : Int32))) h4)) : eb_Sn (d + 1) m_X10_why h0 0 [(0, .ref s_EB), (1, .int x1)] [] h Q := by
  refine eb_iconst (pc := 0) (n := 0) (v := 0) rfl rfl ?_
  refine eb_aload_n (pc := 1) (n := 0) (i := 0) rfl rfl rfl ?_
  obtain ⟨r1, q2, k3, w⟩ := w
  refine eb_getR (pc := 2) rfl rfl (by decide) (by decide) rfl q2 ?_
  refine eb_aload_n (pc := 5) (n := 0) (i := 0) rfl rfl rfl ?_
  refine eb_getR (pc := 6) rfl rfl (by decide) (by decide) rfl (ko_s_EB_3 ko) ?_
  refine eb_iload_n (pc := 9) (n := 1) (i := 1) rfl rfl rfl ?_
  refine eb_ctV (pc := 10) (As := [.ref s_now, .int x1]) (rest := [.int 0]) rfl (by decide) rfl k3 (by decide) rfl (Nat.le_of_ble_eq_true rfl) ?_
  refine eb_Ct.mono w ?_
  rintro r h4 ⟨y5, rfl, ko6, w⟩
  change eb_Sn _ _ _ 13 _ [.int y5, .int 0] _ _
  refine eb_ineg (pc := 13) rfl ?_
  refine eb_ctS (pc := 14) (As := [.int 0, .int (-y5)]) (rest := []) rfl (by decide) (by decide) rfl rfl (Nat.le_of_ble_eq_true rfl) ?_
  refine eb_bodyQ (by decide) ok_J9_max_7cf53 (Nat.le_of_ble_eq_true rfl) ?_
  change eb_Sn _ m_J9_max_7cf53 _ 0 [(0, .int 0), (1, .int (-y5))] [] _ _
  refine eb_iload_n (pc := 0) (n := 0) (i := 0) rfl rfl rfl ?_
  refine eb_iload_n (pc := 1) (n := 1) (i := 1) rfl rfl rfl ?_
  refine eb_joinI (pc2 := 10) (ls2 := [(0, .int 0), (1, .int (-y5))]) (st2 := []) (v := (if (0 : Int32) < (-y5) then -y5 else 0 : Int32)) ?_ (fun jj8 => ?_)
  · refine eb_ireturn (pc := 10) rfl rfl rfl ?_
    change eb_Sn _ _ _ 17 _ [.int (if (0 : Int32) < (-y5) then -y5 else 0 : Int32)] _ _
    exact eb_ireturn (pc := 17) rfl rfl rfl w
  refine eb_icmp_lt (pc := 2) (tgt := 9) rfl (by decide) (fun c7 => ?_) (fun c7 => ?_)
  · refine eb_iload_n (pc := 9) (n := 1) (i := 1) rfl rfl rfl ?_
    exact jj8 _ (by simp only [if_pos c7])
  · refine eb_iload_n (pc := 5) (n := 0) (i := 0) rfl rfl rfl ?_
    refine eb_goto (pc := 6) (tgt := 10) rfl (by decide) ?_
    exact jj8 _ (by simp only [if_neg c7])
theorem T_X10_why {d : Nat} {h : eb_H} {Q : Option Value → eb_H → Prop} (x1 : Int32)  (ko : eb_KO h) (w : ∃ r1, eb_R h s_EB 2 = some r1 ∧ eb_kd r1 = 9 ∧ eb_Ct d 89 [.ref r1, .ref s_now, .int x1] h (fun r h4 => ∃ y5, r = some (.int y5) ∧ eb_KO h4 ∧ Q (some (.int (if (0 : Int32) < (-y5) then -y5 else 0 : Int32))) h4)) : eb_Ct (d + 1) 101 [.ref s_EB, .int x1] h Q :=
  eb_bodyQ (by decide) ok_X10_why (Nat.le_of_ble_eq_true rfl) (b_X10_why_0 (h0 := h) x1  ko w)
theorem b_X10_by_0 {d : Nat} {h0 h : eb_H} {Q : Option Value → eb_H → Prop} (x1 : Int32) (x2 : Int32)  (ko : eb_KO h) (w : ((x2 = 0 → eb_Ct d 60 [.ref s_trial, .ref s_now] h (fun r h2 => r = none ∧ eb_KO h2 ∧ ∃ r5, eb_R h2 s_EB 2 = some r5 ∧ eb_kd r5 = 9 ∧ eb_Ct d 90 [.ref r5, .ref s_trial, .int x1] h2 (fun r h8 => ∃ y9, r = some (.int y9) ∧ eb_KO h8 ∧ ((0 ≤ y9 → Q (some (.int (eb_I h8 s_trial 0))) h8) ∧ (¬ (0 ≤ y9) → Q (some (.int (-5))) h8))))) ∧ (¬ (x2 = 0) → ((x2 = (1 : Int32) → eb_Ct d 60 [.ref s_trial, .ref s_now] h (fun r h13 => r = none ∧ eb_KO h13 ∧ ∃ r16, eb_R h13 s_EB 2 = some r16 ∧ eb_kd r16 = 9 ∧ eb_Ct d 90 [.ref r16, .ref s_trial, .int x1] h13 (fun r h19 => ∃ y20, r = some (.int y20) ∧ eb_KO h19 ∧ ((0 ≤ y20 → Q (some (.int (if x2 = 0 then eb_I h19 s_trial 0 else eb_I h19 s_trial 1 : Int32))) h19) ∧ (¬ (0 ≤ y20) → Q (some (.int (-5))) h19))))) ∧ (¬ (x2 = (1 : Int32)) → Q (some (.int (-2))) h))))) : eb_Sn (d + 1) m_X10_by h0 0 [(0, .ref s_EB), (1, .int x1), (2, .int x2)] [] h Q := by
  refine eb_iload_n (pc := 0) (n := 2) (i := 2) rfl rfl rfl ?_
  refine eb_if_eq (pc := 1) (tgt := 12) rfl (by decide) (fun c1 => ?_) (fun c1 => ?_)
  · replace w := w.1 c1
    refine eb_aload_n (pc := 12) (n := 0) (i := 0) rfl rfl rfl ?_
    refine eb_getR (pc := 13) rfl rfl (by decide) (by decide) rfl (ko_s_EB_5 ko) ?_
    refine eb_aload_n (pc := 16) (n := 0) (i := 0) rfl rfl rfl ?_
    refine eb_getR (pc := 17) rfl rfl (by decide) (by decide) rfl (ko_s_EB_3 ko) ?_
    refine eb_ctV (pc := 20) (As := [.ref s_now]) (rest := []) rfl (by decide) rfl rfl (by decide) rfl (Nat.le_of_ble_eq_true rfl) ?_
    refine eb_Ct.mono w ?_
    rintro r h2 ⟨rfl, ko4, w⟩
    change eb_Sn _ _ _ 23 _ [] _ _
    refine eb_aload_n (pc := 23) (n := 0) (i := 0) rfl rfl rfl ?_
    obtain ⟨r5, q6, k7, w⟩ := w
    refine eb_getR (pc := 24) rfl rfl (by decide) (by decide) rfl q6 ?_
    refine eb_aload_n (pc := 27) (n := 0) (i := 0) rfl rfl rfl ?_
    refine eb_getR (pc := 28) rfl rfl (by decide) (by decide) rfl (ko_s_EB_5 ko4) ?_
    refine eb_iload_n (pc := 31) (n := 1) (i := 1) rfl rfl rfl ?_
    refine eb_ctV (pc := 32) (As := [.ref s_trial, .int x1]) (rest := []) rfl (by decide) rfl k7 (by decide) rfl (Nat.le_of_ble_eq_true rfl) ?_
    refine eb_Ct.mono w ?_
    rintro r h8 ⟨y9, rfl, ko10, w⟩
    change eb_Sn _ _ _ 35 _ [.int y9] _ _
    refine eb_if_ge (pc := 35) (tgt := 41) rfl (by decide) (fun c11 => ?_) (fun c11 => ?_)
    · replace w := w.1 c11
      refine eb_iload_n (pc := 41) (n := 2) (i := 2) rfl rfl rfl ?_
      refine eb_if_ne (pc := 42) (tgt := 55) rfl (by decide) (fun c => by have c9 := c; contradiction) (fun _ => ?_)
      refine eb_aload_n (pc := 45) (n := 0) (i := 0) rfl rfl rfl ?_
      refine eb_getR (pc := 46) rfl rfl (by decide) (by decide) rfl (ko_s_EB_5 ko10) ?_
      refine eb_getI (pc := 49) rfl rfl (by decide) (by decide) rfl ?_
      refine eb_goto (pc := 52) (tgt := 62) rfl (by decide) ?_
      exact eb_ireturn (pc := 62) rfl rfl rfl w
    · replace w := w.2 c11
      refine eb_bipush (pc := 38) (n := -5) (v := (-5)) rfl rfl ?_
      exact eb_ireturn (pc := 40) rfl rfl rfl w
  · replace w := w.2 c1
    refine eb_iload_n (pc := 4) (n := 2) (i := 2) rfl rfl rfl ?_
    refine eb_iconst (pc := 5) (n := 1) (v := 1) rfl rfl ?_
    refine eb_icmp_eq (pc := 6) (tgt := 12) rfl (by decide) (fun c12 => ?_) (fun c12 => ?_)
    · replace w := w.1 c12
      refine eb_aload_n (pc := 12) (n := 0) (i := 0) rfl rfl rfl ?_
      refine eb_getR (pc := 13) rfl rfl (by decide) (by decide) rfl (ko_s_EB_5 ko) ?_
      refine eb_aload_n (pc := 16) (n := 0) (i := 0) rfl rfl rfl ?_
      refine eb_getR (pc := 17) rfl rfl (by decide) (by decide) rfl (ko_s_EB_3 ko) ?_
      refine eb_ctV (pc := 20) (As := [.ref s_now]) (rest := []) rfl (by decide) rfl rfl (by decide) rfl (Nat.le_of_ble_eq_true rfl) ?_
      refine eb_Ct.mono w ?_
      rintro r h13 ⟨rfl, ko15, w⟩
      change eb_Sn _ _ _ 23 _ [] _ _
      refine eb_aload_n (pc := 23) (n := 0) (i := 0) rfl rfl rfl ?_
      obtain ⟨r16, q17, k18, w⟩ := w
      refine eb_getR (pc := 24) rfl rfl (by decide) (by decide) rfl q17 ?_
      refine eb_aload_n (pc := 27) (n := 0) (i := 0) rfl rfl rfl ?_
      refine eb_getR (pc := 28) rfl rfl (by decide) (by decide) rfl (ko_s_EB_5 ko15) ?_
      refine eb_iload_n (pc := 31) (n := 1) (i := 1) rfl rfl rfl ?_
      refine eb_ctV (pc := 32) (As := [.ref s_trial, .int x1]) (rest := []) rfl (by decide) rfl k18 (by decide) rfl (Nat.le_of_ble_eq_true rfl) ?_
      refine eb_Ct.mono w ?_
      rintro r h19 ⟨y20, rfl, ko21, w⟩
      change eb_Sn _ _ _ 35 _ [.int y20] _ _
      refine eb_if_ge (pc := 35) (tgt := 41) rfl (by decide) (fun c22 => ?_) (fun c22 => ?_)
      · replace w := w.1 c22
        refine eb_iload_n (pc := 41) (n := 2) (i := 2) rfl rfl rfl ?_
        refine eb_joinI (pc2 := 62) (ls2 := [(0, .ref s_EB), (1, .int x1), (2, .int x2)]) (st2 := []) (v := (if x2 = 0 then eb_I h19 s_trial 0 else eb_I h19 s_trial 1 : Int32)) ?_ (fun jj24 => ?_)
        · exact eb_ireturn (pc := 62) rfl rfl rfl w
        refine eb_if_ne (pc := 42) (tgt := 55) rfl (by decide) (fun c23 => ?_) (fun c23 => ?_)
        · refine eb_aload_n (pc := 55) (n := 0) (i := 0) rfl rfl rfl ?_
          refine eb_getR (pc := 56) rfl rfl (by decide) (by decide) rfl (ko_s_EB_5 ko21) ?_
          refine eb_getI (pc := 59) rfl rfl (by decide) (by decide) rfl ?_
          exact jj24 _ (by simp only [if_neg c23])
        · refine eb_aload_n (pc := 45) (n := 0) (i := 0) rfl rfl rfl ?_
          refine eb_getR (pc := 46) rfl rfl (by decide) (by decide) rfl (ko_s_EB_5 ko21) ?_
          refine eb_getI (pc := 49) rfl rfl (by decide) (by decide) rfl ?_
          refine eb_goto (pc := 52) (tgt := 62) rfl (by decide) ?_
          exact jj24 _ (by simp only [if_pos c23])
      · replace w := w.2 c22
        refine eb_bipush (pc := 38) (n := -5) (v := (-5)) rfl rfl ?_
        exact eb_ireturn (pc := 40) rfl rfl rfl w
    · replace w := w.2 c12
      refine eb_bipush (pc := 9) (n := -2) (v := (-2)) rfl rfl ?_
      exact eb_ireturn (pc := 11) rfl rfl rfl w
theorem T_X10_by {d : Nat} {h : eb_H} {Q : Option Value → eb_H → Prop} (x1 : Int32) (x2 : Int32)  (ko : eb_KO h) (w : ((x2 = 0 → eb_Ct d 60 [.ref s_trial, .ref s_now] h (fun r h2 => r = none ∧ eb_KO h2 ∧ ∃ r5, eb_R h2 s_EB 2 = some r5 ∧ eb_kd r5 = 9 ∧ eb_Ct d 90 [.ref r5, .ref s_trial, .int x1] h2 (fun r h8 => ∃ y9, r = some (.int y9) ∧ eb_KO h8 ∧ ((0 ≤ y9 → Q (some (.int (eb_I h8 s_trial 0))) h8) ∧ (¬ (0 ≤ y9) → Q (some (.int (-5))) h8))))) ∧ (¬ (x2 = 0) → ((x2 = (1 : Int32) → eb_Ct d 60 [.ref s_trial, .ref s_now] h (fun r h13 => r = none ∧ eb_KO h13 ∧ ∃ r16, eb_R h13 s_EB 2 = some r16 ∧ eb_kd r16 = 9 ∧ eb_Ct d 90 [.ref r16, .ref s_trial, .int x1] h13 (fun r h19 => ∃ y20, r = some (.int y20) ∧ eb_KO h19 ∧ ((0 ≤ y20 → Q (some (.int (if x2 = 0 then eb_I h19 s_trial 0 else eb_I h19 s_trial 1 : Int32))) h19) ∧ (¬ (0 ≤ y20) → Q (some (.int (-5))) h19))))) ∧ (¬ (x2 = (1 : Int32)) → Q (some (.int (-2))) h))))) : eb_Ct (d + 1) 102 [.ref s_EB, .int x1, .int x2] h Q :=
  eb_bodyQ (by decide) ok_X10_by (Nat.le_of_ble_eq_true rfl) (b_X10_by_0 (h0 := h) x1 x2  ko w)
theorem b_X10_fly_0 {d : Nat} {h0 h : eb_H} {Q : Option Value → eb_H → Prop} (x1 : Int32)  (ko : eb_KO h) (w : eb_Ct d 60 [.ref s_before, .ref s_now] h (fun r h1 => r = none ∧ eb_KO h1 ∧ ∃ r4, eb_R h1 s_EB 2 = some r4 ∧ eb_kd r4 = 9 ∧ eb_Ct d 90 [.ref r4, .ref s_now, .int x1] h1 (fun r h7 => ∃ y8, r = some (.int y8) ∧ eb_KO h7 ∧ ((0 ≤ y8 → eb_Ct d 42 [.ref s_past, .ref s_before] h7 (fun r h11 => r = none ∧ eb_KO h11 ∧ Q (some (.int y8)) h11)) ∧ (¬ (0 ≤ y8) → Q (some (.int (((-10) : Int32) + y8))) h7))))) : eb_Sn (d + 1) m_X10_fly h0 0 [(0, .ref s_EB), (1, .int x1)] [] h Q := by
  refine eb_aload_n (pc := 0) (n := 0) (i := 0) rfl rfl rfl ?_
  refine eb_getR (pc := 1) rfl rfl (by decide) (by decide) rfl (ko_s_EB_4 ko) ?_
  refine eb_aload_n (pc := 4) (n := 0) (i := 0) rfl rfl rfl ?_
  refine eb_getR (pc := 5) rfl rfl (by decide) (by decide) rfl (ko_s_EB_3 ko) ?_
  refine eb_ctV (pc := 8) (As := [.ref s_now]) (rest := []) rfl (by decide) rfl rfl (by decide) rfl (Nat.le_of_ble_eq_true rfl) ?_
  refine eb_Ct.mono w ?_
  rintro r h1 ⟨rfl, ko3, w⟩
  change eb_Sn _ _ _ 11 _ [] _ _
  refine eb_aload_n (pc := 11) (n := 0) (i := 0) rfl rfl rfl ?_
  obtain ⟨r4, q5, k6, w⟩ := w
  refine eb_getR (pc := 12) rfl rfl (by decide) (by decide) rfl q5 ?_
  refine eb_aload_n (pc := 15) (n := 0) (i := 0) rfl rfl rfl ?_
  refine eb_getR (pc := 16) rfl rfl (by decide) (by decide) rfl (ko_s_EB_3 ko3) ?_
  refine eb_iload_n (pc := 19) (n := 1) (i := 1) rfl rfl rfl ?_
  refine eb_ctV (pc := 20) (As := [.ref s_now, .int x1]) (rest := []) rfl (by decide) rfl k6 (by decide) rfl (Nat.le_of_ble_eq_true rfl) ?_
  refine eb_Ct.mono w ?_
  rintro r h7 ⟨y8, rfl, ko9, w⟩
  change eb_Sn _ _ _ 23 _ [.int y8] _ _
  refine eb_istore_n (pc := 23) (n := 2) (i := 2) (ls2 := [(2, .int y8), (0, .ref s_EB), (1, .int x1)]) rfl (Nat.le_of_ble_eq_true rfl) rfl rfl ?_
  refine eb_iload_n (pc := 24) (n := 2) (i := 2) rfl rfl rfl ?_
  refine eb_if_ge (pc := 25) (tgt := 33) rfl (by decide) (fun c10 => ?_) (fun c10 => ?_)
  · replace w := w.1 c10
    refine eb_aload_n (pc := 33) (n := 0) (i := 0) rfl rfl rfl ?_
    refine eb_getR (pc := 34) rfl rfl (by decide) (by decide) rfl (ko_s_EB_6 ko9) ?_
    refine eb_aload_n (pc := 37) (n := 0) (i := 0) rfl rfl rfl ?_
    refine eb_getR (pc := 38) rfl rfl (by decide) (by decide) rfl (ko_s_EB_4 ko9) ?_
    refine eb_ctV (pc := 41) (As := [.ref s_before]) (rest := []) rfl (by decide) rfl rfl (by decide) rfl (Nat.le_of_ble_eq_true rfl) ?_
    refine eb_Ct.mono w ?_
    rintro r h11 ⟨rfl, ko13, w⟩
    change eb_Sn _ _ _ 44 _ [] _ _
    refine eb_iload_n (pc := 44) (n := 2) (i := 2) rfl rfl rfl ?_
    exact eb_ireturn (pc := 45) rfl rfl rfl w
  · replace w := w.2 c10
    refine eb_bipush (pc := 28) (n := -10) (v := (-10)) rfl rfl ?_
    refine eb_iload_n (pc := 30) (n := 2) (i := 2) rfl rfl rfl ?_
    refine eb_iadd (pc := 31) rfl ?_
    exact eb_ireturn (pc := 32) rfl rfl rfl w
theorem T_X10_fly {d : Nat} {h : eb_H} {Q : Option Value → eb_H → Prop} (x1 : Int32)  (ko : eb_KO h) (w : eb_Ct d 60 [.ref s_before, .ref s_now] h (fun r h1 => r = none ∧ eb_KO h1 ∧ ∃ r4, eb_R h1 s_EB 2 = some r4 ∧ eb_kd r4 = 9 ∧ eb_Ct d 90 [.ref r4, .ref s_now, .int x1] h1 (fun r h7 => ∃ y8, r = some (.int y8) ∧ eb_KO h7 ∧ ((0 ≤ y8 → eb_Ct d 42 [.ref s_past, .ref s_before] h7 (fun r h11 => r = none ∧ eb_KO h11 ∧ Q (some (.int y8)) h11)) ∧ (¬ (0 ≤ y8) → Q (some (.int (((-10) : Int32) + y8))) h7))))) : eb_Ct (d + 1) 103 [.ref s_EB, .int x1] h Q :=
  eb_bodyQ (by decide) ok_X10_fly (Nat.le_of_ble_eq_true rfl) (b_X10_fly_0 (h0 := h) x1  ko w)
theorem b_X10_off_0 {d : Nat} {h0 h : eb_H} {Q : Option Value → eb_H → Prop} (x1 : Int32)  (ko : eb_KO h) (w : ∃ r1, eb_R h s_EB 2 = some r1 ∧ eb_kd r1 = 9 ∧ ((¬ ((¬ (x1 < 0)) ∧ (¬ (((eb_I h r1 0) * (eb_I h r1 1)) ≤ x1))) → Q (some (.int (-11))) h) ∧ ((¬ (x1 < 0)) ∧ (¬ (((eb_I h r1 0) * (eb_I h r1 1)) ≤ x1)) → eb_Ct d 139 [.ref s_EB, .int ((100 : Int32) + x1)] h (fun r h7 => ∃ y8, r = some (.int y8) ∧ eb_KO h7 ∧ Q (some (.int (if y8 = 0 then (-11) else eb_I h s_now 0 : Int32))) h7)))) : eb_Sn (d + 1) m_X10_off h0 0 [(0, .ref s_EB), (1, .int x1)] [] h Q := by
  refine eb_aload_n (pc := 0) (n := 0) (i := 0) rfl rfl rfl ?_
  refine eb_getR (pc := 1) rfl rfl (by decide) (by decide) rfl (ko_s_EB_3 ko) ?_
  refine eb_getI (pc := 4) rfl rfl (by decide) (by decide) rfl ?_
  refine eb_istore_n (pc := 7) (n := 2) (i := 2) (ls2 := [(2, .int (eb_I h s_now 0)), (0, .ref s_EB), (1, .int x1)]) rfl (Nat.le_of_ble_eq_true rfl) rfl rfl ?_
  refine eb_aload_n (pc := 8) (n := 0) (i := 0) rfl rfl rfl ?_
  obtain ⟨r1, q2, k3, w⟩ := w
  refine eb_getR (pc := 9) rfl rfl (by decide) (by decide) rfl q2 ?_
  refine eb_iload_n (pc := 12) (n := 1) (i := 1) rfl rfl rfl ?_
  refine eb_joinI (pc2 := 16) (ls2 := [(2, .int (eb_I h s_now 0)), (0, .ref s_EB), (1, .int x1)]) (st2 := []) (v := eb_q ((¬ (x1 < 0)) ∧ (¬ (((eb_I h r1 0) * (eb_I h r1 1)) ≤ x1)))) ?_ (fun jj13 => ?_)
  · refine eb_if_eq (pc := 16) (tgt := 34) rfl (by decide) (fun c6 => ?_) (fun c6 => ?_)
    · replace c6 := eb_q0.mp c6
      replace w := w.1 c6
      refine eb_bipush (pc := 34) (n := -11) (v := (-11)) rfl rfl ?_
      exact eb_ireturn (pc := 36) rfl rfl rfl w
    · replace c6 := eb_q1.mp c6
      replace w := w.2 c6
      refine eb_aload_n (pc := 19) (n := 0) (i := 0) rfl rfl rfl ?_
      refine eb_bipush (pc := 20) (n := 100) (v := 100) rfl rfl ?_
      refine eb_iload_n (pc := 22) (n := 1) (i := 1) rfl rfl rfl ?_
      refine eb_iadd (pc := 23) rfl ?_
      refine eb_ctV (pc := 24) (As := [.int ((100 : Int32) + x1)]) (rest := []) rfl (by decide) rfl rfl (by decide) rfl (Nat.le_of_ble_eq_true rfl) ?_
      refine eb_Ct.mono w ?_
      rintro r h7 ⟨y8, rfl, ko9, w⟩
      change eb_Sn _ _ _ 27 _ [.int y8] _ _
      refine eb_joinI (pc2 := 36) (ls2 := [(2, .int (eb_I h s_now 0)), (0, .ref s_EB), (1, .int x1)]) (st2 := []) (v := (if y8 = 0 then (-11) else eb_I h s_now 0 : Int32)) ?_ (fun jj11 => ?_)
      · exact eb_ireturn (pc := 36) rfl rfl rfl w
      refine eb_if_eq (pc := 27) (tgt := 34) rfl (by decide) (fun c10 => ?_) (fun c10 => ?_)
      · refine eb_bipush (pc := 34) (n := -11) (v := (-11)) rfl rfl ?_
        exact jj11 _ (by simp only [if_pos c10])
      · refine eb_iload_n (pc := 30) (n := 2) (i := 2) rfl rfl rfl ?_
        refine eb_goto (pc := 31) (tgt := 36) rfl (by decide) ?_
        exact jj11 _ (by simp only [if_neg c10])
  refine eb_ctV (pc := 13) (As := [.int x1]) (rest := []) rfl (by decide) rfl k3 (by decide) rfl (Nat.le_of_ble_eq_true rfl) ?_
  refine eb_bodyQ (by decide) ok_X9_has (Nat.le_of_ble_eq_true rfl) ?_
  change eb_Sn _ m_X9_has _ 0 [(0, .ref r1), (1, .int x1)] [] _ _
  refine eb_iload_n (pc := 0) (n := 1) (i := 1) rfl rfl rfl ?_
  refine eb_if_lt (pc := 1) (tgt := 21) rfl (by decide) (fun c4 => ?_) (fun c4 => ?_)
  · refine eb_iconst (pc := 21) (n := 0) (v := 0) rfl rfl ?_
    refine eb_ireturn (pc := 22) rfl rfl (by decide) ?_
    change eb_Sn _ _ _ 16 _ _ _ _
    exact jj13 0 (eb_qf (fun z => z.1 c4)).symm
  · refine eb_iload_n (pc := 4) (n := 1) (i := 1) rfl rfl rfl ?_
    refine eb_aload_n (pc := 5) (n := 0) (i := 0) rfl rfl rfl ?_
    refine eb_getI (pc := 6) rfl k3 (by decide) (by decide) rfl ?_
    refine eb_aload_n (pc := 9) (n := 0) (i := 0) rfl rfl rfl ?_
    refine eb_getI (pc := 10) rfl k3 (by decide) (by decide) rfl ?_
    refine eb_imul (pc := 13) rfl ?_
    refine eb_icmp_ge (pc := 14) (tgt := 21) rfl (by decide) (fun c5 => ?_) (fun c5 => ?_)
    · refine eb_iconst (pc := 21) (n := 0) (v := 0) rfl rfl ?_
      refine eb_ireturn (pc := 22) rfl rfl (by decide) ?_
      change eb_Sn _ _ _ 16 _ _ _ _
      exact jj13 0 (eb_qf (fun z => (fun z => z c5) z.2)).symm
    · refine eb_iconst (pc := 17) (n := 1) (v := 1) rfl rfl ?_
      refine eb_goto (pc := 18) (tgt := 22) rfl (by decide) ?_
      refine eb_ireturn (pc := 22) rfl rfl (by decide) ?_
      change eb_Sn _ _ _ 16 _ _ _ _
      exact jj13 1 (eb_qt (⟨c4, c5⟩)).symm
theorem T_X10_off {d : Nat} {h : eb_H} {Q : Option Value → eb_H → Prop} (x1 : Int32)  (ko : eb_KO h) (w : ∃ r1, eb_R h s_EB 2 = some r1 ∧ eb_kd r1 = 9 ∧ ((¬ ((¬ (x1 < 0)) ∧ (¬ (((eb_I h r1 0) * (eb_I h r1 1)) ≤ x1))) → Q (some (.int (-11))) h) ∧ ((¬ (x1 < 0)) ∧ (¬ (((eb_I h r1 0) * (eb_I h r1 1)) ≤ x1)) → eb_Ct d 139 [.ref s_EB, .int ((100 : Int32) + x1)] h (fun r h7 => ∃ y8, r = some (.int y8) ∧ eb_KO h7 ∧ Q (some (.int (if y8 = 0 then (-11) else eb_I h s_now 0 : Int32))) h7)))) : eb_Ct (d + 1) 104 [.ref s_EB, .int x1] h Q :=
  eb_bodyQ (by decide) ok_X10_off (Nat.le_of_ble_eq_true rfl) (b_X10_off_0 (h0 := h) x1  ko w)
theorem b_X10_put_0 {d : Nat} {h0 h : eb_H} {Q : Option Value → eb_H → Prop} (x1 : Int32) (x2 : Int32)  (ko : eb_KO h) (w : ((x1 < 0 → ∃ r4, eb_R h s_EB 2 = some r4 ∧ eb_kd r4 = 9 ∧ Q (some (.int (-11))) h) ∧ (¬ (x1 < 0) → (((16 : Int32) ≤ x1 → ∃ r7, eb_R h s_EB 2 = some r7 ∧ eb_kd r7 = 9 ∧ ((¬ ((¬ (((eb_I h r7 0) * (eb_I h r7 1)) ≤ x1)) ∧ ((¬ (x2 < 0)) ∧ (¬ ((6 : Int32) < x2)))) → Q (some (.int (-11))) h) ∧ ((¬ (((eb_I h r7 0) * (eb_I h r7 1)) ≤ x1)) ∧ ((¬ (x2 < 0)) ∧ (¬ ((6 : Int32) < x2))) → eb_Ct d 139 [.ref s_EB, .int (((1000 : Int32) + ((10 : Int32) * x1)) + x2)] h (fun r h17 => ∃ y18, r = some (.int y18) ∧ eb_KO h17 ∧ Q (some (.int (if y18 = 0 then (-11) else 0 : Int32))) h17)))) ∧ (¬ ((16 : Int32) ≤ x1) → (vp_in x1 16) ∧ ∃ r25, eb_R h s_EB 2 = some r25 ∧ eb_kd r25 = 9 ∧ ((¬ ((¬ (((eb_I h r25 0) * (eb_I h r25 1)) ≤ x1)) ∧ ((¬ (x2 < 0)) ∧ (¬ ((6 : Int32) < x2)))) → Q (some (.int (-11))) h) ∧ ((¬ (((eb_I h r25 0) * (eb_I h r25 1)) ≤ x1)) ∧ ((¬ (x2 < 0)) ∧ (¬ ((6 : Int32) < x2))) → eb_Ct d 139 [.ref s_EB, .int (((1000 : Int32) + ((10 : Int32) * x1)) + x2)] h (fun r h35 => ∃ y36, r = some (.int y36) ∧ eb_KO h35 ∧ Q (some (.int (if y36 = 0 then (-11) else eb_I h s_now_things x1.toNatClampNeg : Int32))) h35)))))))) : eb_Sn (d + 1) m_X10_put h0 0 [(0, .ref s_EB), (1, .int x1), (2, .int x2)] [] h Q := by
  refine eb_aload_n (pc := 0) (n := 0) (i := 0) rfl rfl rfl ?_
  refine eb_getR (pc := 1) rfl rfl (by decide) (by decide) rfl (ko_s_EB_3 ko) ?_
  refine eb_iload_n (pc := 4) (n := 1) (i := 1) rfl rfl rfl ?_
  refine eb_ctV (pc := 5) (As := [.int x1]) (rest := []) rfl (by decide) rfl rfl (by decide) rfl (Nat.le_of_ble_eq_true rfl) ?_
  refine eb_bodyQ (by decide) ok_X6_thingIn (Nat.le_of_ble_eq_true rfl) ?_
  change eb_Sn _ m_X6_thingIn _ 0 [(0, .ref s_now), (1, .int x1)] [] _ _
  refine eb_iload_n (pc := 0) (n := 1) (i := 1) rfl rfl rfl ?_
  refine eb_if_lt (pc := 1) (tgt := 22) rfl (by decide) (fun c1 => ?_) (fun c1 => ?_)
  · replace w := w.1 c1
    refine eb_iconst (pc := 22) (n := 0) (v := 0) rfl rfl ?_
    refine eb_ireturn (pc := 23) rfl rfl rfl ?_
    change eb_Sn _ _ _ 8 _ [.int 0] _ _
    refine eb_istore_n (pc := 8) (n := 3) (i := 3) (ls2 := [(3, .int 0), (0, .ref s_EB), (1, .int x1), (2, .int x2)]) rfl (Nat.le_of_ble_eq_true rfl) rfl rfl ?_
    refine eb_aload_n (pc := 9) (n := 0) (i := 0) rfl rfl rfl ?_
    obtain ⟨r4, q5, k6, w⟩ := w
    refine eb_getR (pc := 10) rfl rfl (by decide) (by decide) rfl q5 ?_
    refine eb_iload_n (pc := 13) (n := 1) (i := 1) rfl rfl rfl ?_
    refine eb_ctV (pc := 14) (As := [.int x1]) (rest := []) rfl (by decide) rfl k6 (by decide) rfl (Nat.le_of_ble_eq_true rfl) ?_
    refine eb_bodyQ (by decide) ok_X9_has (Nat.le_of_ble_eq_true rfl) ?_
    change eb_Sn _ m_X9_has _ 0 [(0, .ref r4), (1, .int x1)] [] _ _
    refine eb_iload_n (pc := 0) (n := 1) (i := 1) rfl rfl rfl ?_
    refine eb_if_lt (pc := 1) (tgt := 21) rfl (by decide) (fun _ => ?_) (fun c => by have c9 := c; contradiction)
    refine eb_iconst (pc := 21) (n := 0) (v := 0) rfl rfl ?_
    refine eb_ireturn (pc := 22) rfl rfl (by decide) ?_
    change eb_Sn _ _ _ 17 _ [.int 0] _ _
    refine eb_if_eq (pc := 17) (tgt := 34) rfl (by decide) (fun c => ?_) (fun c => absurd c (by decide))
    refine eb_iconst (pc := 34) (n := 0) (v := 0) rfl rfl ?_
    refine eb_istore (pc := 35) (i := 4) (ls2 := [(4, .int 0), (3, .int 0), (0, .ref s_EB), (1, .int x1), (2, .int x2)]) (Nat.le_of_ble_eq_true rfl) rfl rfl ?_
    refine eb_iload (pc := 37) (i := 4) rfl rfl ?_
    refine eb_if_eq (pc := 39) (tgt := 63) rfl (by decide) (fun c => ?_) (fun c => absurd c (by decide))
    refine eb_bipush (pc := 63) (n := -11) (v := (-11)) rfl rfl ?_
    exact eb_ireturn (pc := 65) rfl rfl rfl w
  · replace w := w.2 c1
    refine eb_iload_n (pc := 4) (n := 1) (i := 1) rfl rfl rfl ?_
    refine eb_aload_n (pc := 5) (n := 0) (i := 0) rfl rfl rfl ?_
    refine eb_getR (pc := 6) rfl rfl (by decide) (by decide) rfl (ko_s_now_5 ko) ?_
    refine eb_alen (pc := 9) (v := 16) rfl (by decide) (by decide) rfl ?_
    refine eb_icmp_ge (pc := 10) (tgt := 22) rfl (by decide) (fun c2 => ?_) (fun c2 => ?_)
    · replace w := w.1 c2
      refine eb_iconst (pc := 22) (n := 0) (v := 0) rfl rfl ?_
      refine eb_ireturn (pc := 23) rfl rfl rfl ?_
      change eb_Sn _ _ _ 8 _ [.int 0] _ _
      refine eb_istore_n (pc := 8) (n := 3) (i := 3) (ls2 := [(3, .int 0), (0, .ref s_EB), (1, .int x1), (2, .int x2)]) rfl (Nat.le_of_ble_eq_true rfl) rfl rfl ?_
      refine eb_aload_n (pc := 9) (n := 0) (i := 0) rfl rfl rfl ?_
      obtain ⟨r7, q8, k9, w⟩ := w
      refine eb_getR (pc := 10) rfl rfl (by decide) (by decide) rfl q8 ?_
      refine eb_iload_n (pc := 13) (n := 1) (i := 1) rfl rfl rfl ?_
      refine eb_joinI (pc2 := 17) (ls2 := [(3, .int 0), (0, .ref s_EB), (1, .int x1), (2, .int x2)]) (st2 := []) (v := eb_q (¬ (((eb_I h r7 0) * (eb_I h r7 1)) ≤ x1))) ?_ (fun jj23 => ?_)
      · refine eb_joinI (pc2 := 35) (ls2 := [(3, .int 0), (0, .ref s_EB), (1, .int x1), (2, .int x2)]) (st2 := []) (v := eb_q ((¬ (((eb_I h r7 0) * (eb_I h r7 1)) ≤ x1)) ∧ ((¬ (x2 < 0)) ∧ (¬ ((6 : Int32) < x2))))) ?_ (fun jj14 => ?_)
        · refine eb_istore (pc := 35) (i := 4) (ls2 := [(4, .int (eb_q ((¬ (((eb_I h r7 0) * (eb_I h r7 1)) ≤ x1)) ∧ ((¬ (x2 < 0)) ∧ (¬ ((6 : Int32) < x2)))))), (3, .int 0), (0, .ref s_EB), (1, .int x1), (2, .int x2)]) (Nat.le_of_ble_eq_true rfl) rfl rfl ?_
          refine eb_iload (pc := 37) (i := 4) rfl rfl ?_
          refine eb_if_eq (pc := 39) (tgt := 63) rfl (by decide) (fun c16 => ?_) (fun c16 => ?_)
          · replace c16 := eb_q0.mp c16
            replace w := w.1 c16
            refine eb_bipush (pc := 63) (n := -11) (v := (-11)) rfl rfl ?_
            exact eb_ireturn (pc := 65) rfl rfl rfl w
          · replace c16 := eb_q1.mp c16
            replace w := w.2 c16
            refine eb_aload_n (pc := 42) (n := 0) (i := 0) rfl rfl rfl ?_
            refine eb_sipush (pc := 43) (n := 1000) (v := 1000) rfl rfl ?_
            refine eb_bipush (pc := 46) (n := 10) (v := 10) rfl rfl ?_
            refine eb_iload_n (pc := 48) (n := 1) (i := 1) rfl rfl rfl ?_
            refine eb_imul (pc := 49) rfl ?_
            refine eb_iadd (pc := 50) rfl ?_
            refine eb_iload_n (pc := 51) (n := 2) (i := 2) rfl rfl rfl ?_
            refine eb_iadd (pc := 52) rfl ?_
            refine eb_ctV (pc := 53) (As := [.int (((1000 : Int32) + ((10 : Int32) * x1)) + x2)]) (rest := []) rfl (by decide) rfl rfl (by decide) rfl (Nat.le_of_ble_eq_true rfl) ?_
            refine eb_Ct.mono w ?_
            rintro r h17 ⟨y18, rfl, ko19, w⟩
            change eb_Sn _ _ _ 56 _ [.int y18] _ _
            refine eb_joinI (pc2 := 65) (ls2 := [(4, .int (eb_q ((¬ (((eb_I h r7 0) * (eb_I h r7 1)) ≤ x1)) ∧ ((¬ (x2 < 0)) ∧ (¬ ((6 : Int32) < x2)))))), (3, .int 0), (0, .ref s_EB), (1, .int x1), (2, .int x2)]) (st2 := []) (v := (if y18 = 0 then (-11) else 0 : Int32)) ?_ (fun jj21 => ?_)
            · exact eb_ireturn (pc := 65) rfl rfl rfl w
            refine eb_if_eq (pc := 56) (tgt := 63) rfl (by decide) (fun c20 => ?_) (fun c20 => ?_)
            · refine eb_bipush (pc := 63) (n := -11) (v := (-11)) rfl rfl ?_
              exact jj21 _ (by simp only [if_pos c20])
            · refine eb_iload_n (pc := 59) (n := 3) (i := 3) rfl rfl rfl ?_
              refine eb_goto (pc := 60) (tgt := 65) rfl (by decide) ?_
              exact jj21 _ (by simp only [if_neg c20])
        refine eb_if_eq (pc := 17) (tgt := 34) rfl (by decide) (fun c11 => ?_) (fun c11 => ?_)
        · replace c11 := eb_q0.mp c11
          refine eb_iconst (pc := 34) (n := 0) (v := 0) rfl rfl ?_
          exact jj14 0 (eb_qf (fun z => c11 z.1)).symm
        · replace c11 := eb_q1.mp c11
          refine eb_iload_n (pc := 20) (n := 2) (i := 2) rfl rfl rfl ?_
          refine eb_if_lt (pc := 21) (tgt := 34) rfl (by decide) (fun c12 => ?_) (fun c12 => ?_)
          · refine eb_iconst (pc := 34) (n := 0) (v := 0) rfl rfl ?_
            exact jj14 0 (eb_qf (fun z => (fun z => z.1 c12) z.2)).symm
          · refine eb_iload_n (pc := 24) (n := 2) (i := 2) rfl rfl rfl ?_
            refine eb_bipush (pc := 25) (n := 6) (v := 6) rfl rfl ?_
            refine eb_icmp_gt (pc := 27) (tgt := 34) rfl (by decide) (fun c13 => ?_) (fun c13 => ?_)
            · refine eb_iconst (pc := 34) (n := 0) (v := 0) rfl rfl ?_
              exact jj14 0 (eb_qf (fun z => (fun z => (fun z => z c13) z.2) z.2)).symm
            · refine eb_iconst (pc := 30) (n := 1) (v := 1) rfl rfl ?_
              refine eb_goto (pc := 31) (tgt := 35) rfl (by decide) ?_
              exact jj14 1 (eb_qt (⟨c11, ⟨c12, c13⟩⟩)).symm
      refine eb_ctV (pc := 14) (As := [.int x1]) (rest := []) rfl (by decide) rfl k9 (by decide) rfl (Nat.le_of_ble_eq_true rfl) ?_
      refine eb_bodyQ (by decide) ok_X9_has (Nat.le_of_ble_eq_true rfl) ?_
      change eb_Sn _ m_X9_has _ 0 [(0, .ref r7), (1, .int x1)] [] _ _
      refine eb_iload_n (pc := 0) (n := 1) (i := 1) rfl rfl rfl ?_
      refine eb_if_lt (pc := 1) (tgt := 21) rfl (by decide) (fun c => by have c9 := c; contradiction) (fun _ => ?_)
      refine eb_iload_n (pc := 4) (n := 1) (i := 1) rfl rfl rfl ?_
      refine eb_aload_n (pc := 5) (n := 0) (i := 0) rfl rfl rfl ?_
      refine eb_getI (pc := 6) rfl k9 (by decide) (by decide) rfl ?_
      refine eb_aload_n (pc := 9) (n := 0) (i := 0) rfl rfl rfl ?_
      refine eb_getI (pc := 10) rfl k9 (by decide) (by decide) rfl ?_
      refine eb_imul (pc := 13) rfl ?_
      refine eb_icmp_ge (pc := 14) (tgt := 21) rfl (by decide) (fun c10 => ?_) (fun c10 => ?_)
      · refine eb_iconst (pc := 21) (n := 0) (v := 0) rfl rfl ?_
        refine eb_ireturn (pc := 22) rfl rfl (by decide) ?_
        change eb_Sn _ _ _ 17 _ _ _ _
        exact jj23 0 (eb_qf (fun z => z c10)).symm
      · refine eb_iconst (pc := 17) (n := 1) (v := 1) rfl rfl ?_
        refine eb_goto (pc := 18) (tgt := 22) rfl (by decide) ?_
        refine eb_ireturn (pc := 22) rfl rfl (by decide) ?_
        change eb_Sn _ _ _ 17 _ _ _ _
        exact jj23 1 (eb_qt c10).symm
    · replace w := w.2 c2
      refine eb_aload_n (pc := 13) (n := 0) (i := 0) rfl rfl rfl ?_
      refine eb_getR (pc := 14) rfl rfl (by decide) (by decide) rfl (ko_s_now_5 ko) ?_
      refine eb_iload_n (pc := 17) (n := 1) (i := 1) rfl rfl rfl ?_
      obtain ⟨c3, w⟩ := w
      refine eb_iaload (pc := 18) rfl rfl (by decide) c3 ?_
      refine eb_goto (pc := 19) (tgt := 23) rfl (by decide) ?_
      refine eb_ireturn (pc := 23) rfl rfl rfl ?_
      change eb_Sn _ _ _ 8 _ [.int (eb_I h s_now_things x1.toNatClampNeg)] _ _
      refine eb_istore_n (pc := 8) (n := 3) (i := 3) (ls2 := [(3, .int (eb_I h s_now_things x1.toNatClampNeg)), (0, .ref s_EB), (1, .int x1), (2, .int x2)]) rfl (Nat.le_of_ble_eq_true rfl) rfl rfl ?_
      refine eb_aload_n (pc := 9) (n := 0) (i := 0) rfl rfl rfl ?_
      obtain ⟨r25, q26, k27, w⟩ := w
      refine eb_getR (pc := 10) rfl rfl (by decide) (by decide) rfl q26 ?_
      refine eb_iload_n (pc := 13) (n := 1) (i := 1) rfl rfl rfl ?_
      refine eb_joinI (pc2 := 17) (ls2 := [(3, .int (eb_I h s_now_things x1.toNatClampNeg)), (0, .ref s_EB), (1, .int x1), (2, .int x2)]) (st2 := []) (v := eb_q (¬ (((eb_I h r25 0) * (eb_I h r25 1)) ≤ x1))) ?_ (fun jj41 => ?_)
      · refine eb_joinI (pc2 := 35) (ls2 := [(3, .int (eb_I h s_now_things x1.toNatClampNeg)), (0, .ref s_EB), (1, .int x1), (2, .int x2)]) (st2 := []) (v := eb_q ((¬ (((eb_I h r25 0) * (eb_I h r25 1)) ≤ x1)) ∧ ((¬ (x2 < 0)) ∧ (¬ ((6 : Int32) < x2))))) ?_ (fun jj32 => ?_)
        · refine eb_istore (pc := 35) (i := 4) (ls2 := [(4, .int (eb_q ((¬ (((eb_I h r25 0) * (eb_I h r25 1)) ≤ x1)) ∧ ((¬ (x2 < 0)) ∧ (¬ ((6 : Int32) < x2)))))), (3, .int (eb_I h s_now_things x1.toNatClampNeg)), (0, .ref s_EB), (1, .int x1), (2, .int x2)]) (Nat.le_of_ble_eq_true rfl) rfl rfl ?_
          refine eb_iload (pc := 37) (i := 4) rfl rfl ?_
          refine eb_if_eq (pc := 39) (tgt := 63) rfl (by decide) (fun c34 => ?_) (fun c34 => ?_)
          · replace c34 := eb_q0.mp c34
            replace w := w.1 c34
            refine eb_bipush (pc := 63) (n := -11) (v := (-11)) rfl rfl ?_
            exact eb_ireturn (pc := 65) rfl rfl rfl w
          · replace c34 := eb_q1.mp c34
            replace w := w.2 c34
            refine eb_aload_n (pc := 42) (n := 0) (i := 0) rfl rfl rfl ?_
            refine eb_sipush (pc := 43) (n := 1000) (v := 1000) rfl rfl ?_
            refine eb_bipush (pc := 46) (n := 10) (v := 10) rfl rfl ?_
            refine eb_iload_n (pc := 48) (n := 1) (i := 1) rfl rfl rfl ?_
            refine eb_imul (pc := 49) rfl ?_
            refine eb_iadd (pc := 50) rfl ?_
            refine eb_iload_n (pc := 51) (n := 2) (i := 2) rfl rfl rfl ?_
            refine eb_iadd (pc := 52) rfl ?_
            refine eb_ctV (pc := 53) (As := [.int (((1000 : Int32) + ((10 : Int32) * x1)) + x2)]) (rest := []) rfl (by decide) rfl rfl (by decide) rfl (Nat.le_of_ble_eq_true rfl) ?_
            refine eb_Ct.mono w ?_
            rintro r h35 ⟨y36, rfl, ko37, w⟩
            change eb_Sn _ _ _ 56 _ [.int y36] _ _
            refine eb_joinI (pc2 := 65) (ls2 := [(4, .int (eb_q ((¬ (((eb_I h r25 0) * (eb_I h r25 1)) ≤ x1)) ∧ ((¬ (x2 < 0)) ∧ (¬ ((6 : Int32) < x2)))))), (3, .int (eb_I h s_now_things x1.toNatClampNeg)), (0, .ref s_EB), (1, .int x1), (2, .int x2)]) (st2 := []) (v := (if y36 = 0 then (-11) else eb_I h s_now_things x1.toNatClampNeg : Int32)) ?_ (fun jj39 => ?_)
            · exact eb_ireturn (pc := 65) rfl rfl rfl w
            refine eb_if_eq (pc := 56) (tgt := 63) rfl (by decide) (fun c38 => ?_) (fun c38 => ?_)
            · refine eb_bipush (pc := 63) (n := -11) (v := (-11)) rfl rfl ?_
              exact jj39 _ (by simp only [if_pos c38])
            · refine eb_iload_n (pc := 59) (n := 3) (i := 3) rfl rfl rfl ?_
              refine eb_goto (pc := 60) (tgt := 65) rfl (by decide) ?_
              exact jj39 _ (by simp only [if_neg c38])
        refine eb_if_eq (pc := 17) (tgt := 34) rfl (by decide) (fun c29 => ?_) (fun c29 => ?_)
        · replace c29 := eb_q0.mp c29
          refine eb_iconst (pc := 34) (n := 0) (v := 0) rfl rfl ?_
          exact jj32 0 (eb_qf (fun z => c29 z.1)).symm
        · replace c29 := eb_q1.mp c29
          refine eb_iload_n (pc := 20) (n := 2) (i := 2) rfl rfl rfl ?_
          refine eb_if_lt (pc := 21) (tgt := 34) rfl (by decide) (fun c30 => ?_) (fun c30 => ?_)
          · refine eb_iconst (pc := 34) (n := 0) (v := 0) rfl rfl ?_
            exact jj32 0 (eb_qf (fun z => (fun z => z.1 c30) z.2)).symm
          · refine eb_iload_n (pc := 24) (n := 2) (i := 2) rfl rfl rfl ?_
            refine eb_bipush (pc := 25) (n := 6) (v := 6) rfl rfl ?_
            refine eb_icmp_gt (pc := 27) (tgt := 34) rfl (by decide) (fun c31 => ?_) (fun c31 => ?_)
            · refine eb_iconst (pc := 34) (n := 0) (v := 0) rfl rfl ?_
              exact jj32 0 (eb_qf (fun z => (fun z => (fun z => z c31) z.2) z.2)).symm
            · refine eb_iconst (pc := 30) (n := 1) (v := 1) rfl rfl ?_
              refine eb_goto (pc := 31) (tgt := 35) rfl (by decide) ?_
              exact jj32 1 (eb_qt (⟨c29, ⟨c30, c31⟩⟩)).symm
      refine eb_ctV (pc := 14) (As := [.int x1]) (rest := []) rfl (by decide) rfl k27 (by decide) rfl (Nat.le_of_ble_eq_true rfl) ?_
      refine eb_bodyQ (by decide) ok_X9_has (Nat.le_of_ble_eq_true rfl) ?_
      change eb_Sn _ m_X9_has _ 0 [(0, .ref r25), (1, .int x1)] [] _ _
      refine eb_iload_n (pc := 0) (n := 1) (i := 1) rfl rfl rfl ?_
      refine eb_if_lt (pc := 1) (tgt := 21) rfl (by decide) (fun c => by have c9 := c; contradiction) (fun _ => ?_)
      refine eb_iload_n (pc := 4) (n := 1) (i := 1) rfl rfl rfl ?_
      refine eb_aload_n (pc := 5) (n := 0) (i := 0) rfl rfl rfl ?_
      refine eb_getI (pc := 6) rfl k27 (by decide) (by decide) rfl ?_
      refine eb_aload_n (pc := 9) (n := 0) (i := 0) rfl rfl rfl ?_
      refine eb_getI (pc := 10) rfl k27 (by decide) (by decide) rfl ?_
      refine eb_imul (pc := 13) rfl ?_
      refine eb_icmp_ge (pc := 14) (tgt := 21) rfl (by decide) (fun c28 => ?_) (fun c28 => ?_)
      · refine eb_iconst (pc := 21) (n := 0) (v := 0) rfl rfl ?_
        refine eb_ireturn (pc := 22) rfl rfl (by decide) ?_
        change eb_Sn _ _ _ 17 _ _ _ _
        exact jj41 0 (eb_qf (fun z => z c28)).symm
      · refine eb_iconst (pc := 17) (n := 1) (v := 1) rfl rfl ?_
        refine eb_goto (pc := 18) (tgt := 22) rfl (by decide) ?_
        refine eb_ireturn (pc := 22) rfl rfl (by decide) ?_
        change eb_Sn _ _ _ 17 _ _ _ _
        exact jj41 1 (eb_qt c28).symm
theorem T_X10_put {d : Nat} {h : eb_H} {Q : Option Value → eb_H → Prop} (x1 : Int32) (x2 : Int32)  (ko : eb_KO h) (w : ((x1 < 0 → ∃ r4, eb_R h s_EB 2 = some r4 ∧ eb_kd r4 = 9 ∧ Q (some (.int (-11))) h) ∧ (¬ (x1 < 0) → (((16 : Int32) ≤ x1 → ∃ r7, eb_R h s_EB 2 = some r7 ∧ eb_kd r7 = 9 ∧ ((¬ ((¬ (((eb_I h r7 0) * (eb_I h r7 1)) ≤ x1)) ∧ ((¬ (x2 < 0)) ∧ (¬ ((6 : Int32) < x2)))) → Q (some (.int (-11))) h) ∧ ((¬ (((eb_I h r7 0) * (eb_I h r7 1)) ≤ x1)) ∧ ((¬ (x2 < 0)) ∧ (¬ ((6 : Int32) < x2))) → eb_Ct d 139 [.ref s_EB, .int (((1000 : Int32) + ((10 : Int32) * x1)) + x2)] h (fun r h17 => ∃ y18, r = some (.int y18) ∧ eb_KO h17 ∧ Q (some (.int (if y18 = 0 then (-11) else 0 : Int32))) h17)))) ∧ (¬ ((16 : Int32) ≤ x1) → (vp_in x1 16) ∧ ∃ r25, eb_R h s_EB 2 = some r25 ∧ eb_kd r25 = 9 ∧ ((¬ ((¬ (((eb_I h r25 0) * (eb_I h r25 1)) ≤ x1)) ∧ ((¬ (x2 < 0)) ∧ (¬ ((6 : Int32) < x2)))) → Q (some (.int (-11))) h) ∧ ((¬ (((eb_I h r25 0) * (eb_I h r25 1)) ≤ x1)) ∧ ((¬ (x2 < 0)) ∧ (¬ ((6 : Int32) < x2))) → eb_Ct d 139 [.ref s_EB, .int (((1000 : Int32) + ((10 : Int32) * x1)) + x2)] h (fun r h35 => ∃ y36, r = some (.int y36) ∧ eb_KO h35 ∧ Q (some (.int (if y36 = 0 then (-11) else eb_I h s_now_things x1.toNatClampNeg : Int32))) h35)))))))) : eb_Ct (d + 1) 105 [.ref s_EB, .int x1, .int x2] h Q :=
  eb_bodyQ (by decide) ok_X10_put (Nat.le_of_ble_eq_true rfl) (b_X10_put_0 (h0 := h) x1 x2  ko w)
theorem b_X10_drift_0 {d : Nat} {h0 h : eb_H} {Q : Option Value → eb_H → Prop} (x1 : Int32)  (ko : eb_KO h) (w : ∃ r1, eb_R h s_EB 2 = some r1 ∧ eb_kd r1 = 9 ∧ ((¬ ((¬ (x1 < 0)) ∧ (¬ (((eb_I h r1 0) * (eb_I h r1 1)) ≤ x1))) → Q (some (.int (-11))) h) ∧ ((¬ (x1 < 0)) ∧ (¬ (((eb_I h r1 0) * (eb_I h r1 1)) ≤ x1)) → eb_Ct d 139 [.ref s_EB, .int ((200 : Int32) + x1)] h (fun r h7 => ∃ y8, r = some (.int y8) ∧ eb_KO h7 ∧ ((¬ y8 = 0 → Q (some (.int (eb_q ((((eb_I h7 s_now 3) >>> (x1 &&& 31)) &&& 1) = (1 : Int32))))) h7) ∧ (y8 = 0 → Q (some (.int (-11))) h7)))))) : eb_Sn (d + 1) m_X10_drift h0 0 [(0, .ref s_EB), (1, .int x1)] [] h Q := by
  refine eb_aload_n (pc := 0) (n := 0) (i := 0) rfl rfl rfl ?_
  obtain ⟨r1, q2, k3, w⟩ := w
  refine eb_getR (pc := 1) rfl rfl (by decide) (by decide) rfl q2 ?_
  refine eb_iload_n (pc := 4) (n := 1) (i := 1) rfl rfl rfl ?_
  refine eb_joinI (pc2 := 8) (ls2 := [(0, .ref s_EB), (1, .int x1)]) (st2 := []) (v := eb_q ((¬ (x1 < 0)) ∧ (¬ (((eb_I h r1 0) * (eb_I h r1 1)) ≤ x1)))) ?_ (fun jj17 => ?_)
  · refine eb_if_eq (pc := 8) (tgt := 23) rfl (by decide) (fun c6 => ?_) (fun c6 => ?_)
    · replace c6 := eb_q0.mp c6
      replace w := w.1 c6
      refine eb_bipush (pc := 23) (n := -11) (v := (-11)) rfl rfl ?_
      exact eb_ireturn (pc := 25) rfl rfl rfl w
    · replace c6 := eb_q1.mp c6
      replace w := w.2 c6
      refine eb_aload_n (pc := 11) (n := 0) (i := 0) rfl rfl rfl ?_
      refine eb_sipush (pc := 12) (n := 200) (v := 200) rfl rfl ?_
      refine eb_iload_n (pc := 15) (n := 1) (i := 1) rfl rfl rfl ?_
      refine eb_iadd (pc := 16) rfl ?_
      refine eb_ctV (pc := 17) (As := [.int ((200 : Int32) + x1)]) (rest := []) rfl (by decide) rfl rfl (by decide) rfl (Nat.le_of_ble_eq_true rfl) ?_
      refine eb_Ct.mono w ?_
      rintro r h7 ⟨y8, rfl, ko9, w⟩
      change eb_Sn _ _ _ 20 _ [.int y8] _ _
      refine eb_if_ne (pc := 20) (tgt := 26) rfl (by decide) (fun c10 => ?_) (fun c10 => ?_)
      · replace w := w.1 c10
        refine eb_aload_n (pc := 26) (n := 0) (i := 0) rfl rfl rfl ?_
        refine eb_getR (pc := 27) rfl rfl (by decide) (by decide) rfl (ko_s_EB_3 ko9) ?_
        refine eb_iload_n (pc := 30) (n := 1) (i := 1) rfl rfl rfl ?_
        refine eb_joinI (pc2 := 34) (ls2 := [(0, .ref s_EB), (1, .int x1)]) (st2 := []) (v := eb_q ((((eb_I h7 s_now 3) >>> (x1 &&& 31)) &&& 1) = (1 : Int32))) ?_ (fun jj15 => ?_)
        · refine eb_joinI (pc2 := 42) (ls2 := [(0, .ref s_EB), (1, .int x1)]) (st2 := []) (v := eb_q ((((eb_I h7 s_now 3) >>> (x1 &&& 31)) &&& 1) = (1 : Int32))) ?_ (fun jj13 => ?_)
          · exact eb_ireturn (pc := 42) rfl rfl rfl w
          refine eb_if_eq (pc := 34) (tgt := 41) rfl (by decide) (fun c12 => ?_) (fun c12 => ?_)
          · replace c12 := eb_q0.mp c12
            refine eb_iconst (pc := 41) (n := 0) (v := 0) rfl rfl ?_
            exact jj13 0 (eb_qf c12).symm
          · replace c12 := eb_q1.mp c12
            refine eb_iconst (pc := 37) (n := 1) (v := 1) rfl rfl ?_
            refine eb_goto (pc := 38) (tgt := 42) rfl (by decide) ?_
            exact jj13 1 (eb_qt c12).symm
        refine eb_ctV (pc := 31) (As := [.int x1]) (rest := []) rfl (by decide) rfl rfl (by decide) rfl (Nat.le_of_ble_eq_true rfl) ?_
        refine eb_bodyQ (by decide) ok_X6_hasDrift (Nat.le_of_ble_eq_true rfl) ?_
        change eb_Sn _ m_X6_hasDrift _ 0 [(0, .ref s_now), (1, .int x1)] [] _ _
        refine eb_aload_n (pc := 0) (n := 0) (i := 0) rfl rfl rfl ?_
        refine eb_getI (pc := 1) rfl rfl (by decide) (by decide) rfl ?_
        refine eb_iload_n (pc := 4) (n := 1) (i := 1) rfl rfl rfl ?_
        refine eb_ishr (pc := 5) rfl ?_
        refine eb_iconst (pc := 6) (n := 1) (v := 1) rfl rfl ?_
        refine eb_iand (pc := 7) rfl ?_
        refine eb_iconst (pc := 8) (n := 1) (v := 1) rfl rfl ?_
        refine eb_icmp_ne (pc := 9) (tgt := 16) rfl (by decide) (fun c11 => ?_) (fun c11 => ?_)
        · refine eb_iconst (pc := 16) (n := 0) (v := 0) rfl rfl ?_
          refine eb_ireturn (pc := 17) rfl rfl (by decide) ?_
          change eb_Sn _ _ _ 34 _ _ _ _
          exact jj15 0 (eb_qf c11).symm
        · refine eb_iconst (pc := 12) (n := 1) (v := 1) rfl rfl ?_
          refine eb_goto (pc := 13) (tgt := 17) rfl (by decide) ?_
          refine eb_ireturn (pc := 17) rfl rfl (by decide) ?_
          change eb_Sn _ _ _ 34 _ _ _ _
          exact jj15 1 (eb_qt c11).symm
      · replace w := w.2 c10
        refine eb_bipush (pc := 23) (n := -11) (v := (-11)) rfl rfl ?_
        exact eb_ireturn (pc := 25) rfl rfl rfl w
  refine eb_ctV (pc := 5) (As := [.int x1]) (rest := []) rfl (by decide) rfl k3 (by decide) rfl (Nat.le_of_ble_eq_true rfl) ?_
  refine eb_bodyQ (by decide) ok_X9_has (Nat.le_of_ble_eq_true rfl) ?_
  change eb_Sn _ m_X9_has _ 0 [(0, .ref r1), (1, .int x1)] [] _ _
  refine eb_iload_n (pc := 0) (n := 1) (i := 1) rfl rfl rfl ?_
  refine eb_if_lt (pc := 1) (tgt := 21) rfl (by decide) (fun c4 => ?_) (fun c4 => ?_)
  · refine eb_iconst (pc := 21) (n := 0) (v := 0) rfl rfl ?_
    refine eb_ireturn (pc := 22) rfl rfl (by decide) ?_
    change eb_Sn _ _ _ 8 _ _ _ _
    exact jj17 0 (eb_qf (fun z => z.1 c4)).symm
  · refine eb_iload_n (pc := 4) (n := 1) (i := 1) rfl rfl rfl ?_
    refine eb_aload_n (pc := 5) (n := 0) (i := 0) rfl rfl rfl ?_
    refine eb_getI (pc := 6) rfl k3 (by decide) (by decide) rfl ?_
    refine eb_aload_n (pc := 9) (n := 0) (i := 0) rfl rfl rfl ?_
    refine eb_getI (pc := 10) rfl k3 (by decide) (by decide) rfl ?_
    refine eb_imul (pc := 13) rfl ?_
    refine eb_icmp_ge (pc := 14) (tgt := 21) rfl (by decide) (fun c5 => ?_) (fun c5 => ?_)
    · refine eb_iconst (pc := 21) (n := 0) (v := 0) rfl rfl ?_
      refine eb_ireturn (pc := 22) rfl rfl (by decide) ?_
      change eb_Sn _ _ _ 8 _ _ _ _
      exact jj17 0 (eb_qf (fun z => (fun z => z c5) z.2)).symm
    · refine eb_iconst (pc := 17) (n := 1) (v := 1) rfl rfl ?_
      refine eb_goto (pc := 18) (tgt := 22) rfl (by decide) ?_
      refine eb_ireturn (pc := 22) rfl rfl (by decide) ?_
      change eb_Sn _ _ _ 8 _ _ _ _
      exact jj17 1 (eb_qt (⟨c4, c5⟩)).symm
theorem T_X10_drift {d : Nat} {h : eb_H} {Q : Option Value → eb_H → Prop} (x1 : Int32)  (ko : eb_KO h) (w : ∃ r1, eb_R h s_EB 2 = some r1 ∧ eb_kd r1 = 9 ∧ ((¬ ((¬ (x1 < 0)) ∧ (¬ (((eb_I h r1 0) * (eb_I h r1 1)) ≤ x1))) → Q (some (.int (-11))) h) ∧ ((¬ (x1 < 0)) ∧ (¬ (((eb_I h r1 0) * (eb_I h r1 1)) ≤ x1)) → eb_Ct d 139 [.ref s_EB, .int ((200 : Int32) + x1)] h (fun r h7 => ∃ y8, r = some (.int y8) ∧ eb_KO h7 ∧ ((¬ y8 = 0 → Q (some (.int (eb_q ((((eb_I h7 s_now 3) >>> (x1 &&& 31)) &&& 1) = (1 : Int32))))) h7) ∧ (y8 = 0 → Q (some (.int (-11))) h7)))))) : eb_Ct (d + 1) 106 [.ref s_EB, .int x1] h Q :=
  eb_bodyQ (by decide) ok_X10_drift (Nat.le_of_ble_eq_true rfl) (b_X10_drift_0 (h0 := h) x1  ko w)
theorem b_X10_wind_0 {d : Nat} {h0 h : eb_H} {Q : Option Value → eb_H → Prop} (x1 : Int32)  (ko : eb_KO h) (w : ((¬ ((¬ (x1 < 0)) ∧ (¬ ((9 : Int32) < x1))) → Q (some (.int (-11))) h) ∧ ((¬ (x1 < 0)) ∧ (¬ ((9 : Int32) < x1)) → eb_Ct d 139 [.ref s_EB, .int ((300 : Int32) + x1)] h (fun r h6 => ∃ y7, r = some (.int y7) ∧ eb_KO h6 ∧ Q (some (.int (if y7 = 0 then (-11) else eb_I h s_now 4 : Int32))) h6)))) : eb_Sn (d + 1) m_X10_wind h0 0 [(0, .ref s_EB), (1, .int x1)] [] h Q := by
  refine eb_aload_n (pc := 0) (n := 0) (i := 0) rfl rfl rfl ?_
  refine eb_getR (pc := 1) rfl rfl (by decide) (by decide) rfl (ko_s_EB_3 ko) ?_
  refine eb_getI (pc := 4) rfl rfl (by decide) (by decide) rfl ?_
  refine eb_istore_n (pc := 7) (n := 2) (i := 2) (ls2 := [(2, .int (eb_I h s_now 4)), (0, .ref s_EB), (1, .int x1)]) rfl (Nat.le_of_ble_eq_true rfl) rfl rfl ?_
  refine eb_iload_n (pc := 8) (n := 1) (i := 1) rfl rfl rfl ?_
  refine eb_joinI (pc2 := 23) (ls2 := [(2, .int (eb_I h s_now 4)), (0, .ref s_EB), (1, .int x1)]) (st2 := []) (v := eb_q ((¬ (x1 < 0)) ∧ (¬ ((9 : Int32) < x1)))) ?_ (fun jj3 => ?_)
  · refine eb_istore_n (pc := 23) (n := 3) (i := 3) (ls2 := [(3, .int (eb_q ((¬ (x1 < 0)) ∧ (¬ ((9 : Int32) < x1))))), (2, .int (eb_I h s_now 4)), (0, .ref s_EB), (1, .int x1)]) rfl (Nat.le_of_ble_eq_true rfl) rfl rfl ?_
    refine eb_iload_n (pc := 24) (n := 3) (i := 3) rfl rfl rfl ?_
    refine eb_if_eq (pc := 25) (tgt := 44) rfl (by decide) (fun c5 => ?_) (fun c5 => ?_)
    · replace c5 := eb_q0.mp c5
      replace w := w.1 c5
      refine eb_bipush (pc := 44) (n := -11) (v := (-11)) rfl rfl ?_
      exact eb_ireturn (pc := 46) rfl rfl rfl w
    · replace c5 := eb_q1.mp c5
      replace w := w.2 c5
      refine eb_aload_n (pc := 28) (n := 0) (i := 0) rfl rfl rfl ?_
      refine eb_sipush (pc := 29) (n := 300) (v := 300) rfl rfl ?_
      refine eb_iload_n (pc := 32) (n := 1) (i := 1) rfl rfl rfl ?_
      refine eb_iadd (pc := 33) rfl ?_
      refine eb_ctV (pc := 34) (As := [.int ((300 : Int32) + x1)]) (rest := []) rfl (by decide) rfl rfl (by decide) rfl (Nat.le_of_ble_eq_true rfl) ?_
      refine eb_Ct.mono w ?_
      rintro r h6 ⟨y7, rfl, ko8, w⟩
      change eb_Sn _ _ _ 37 _ [.int y7] _ _
      refine eb_joinI (pc2 := 46) (ls2 := [(3, .int (eb_q ((¬ (x1 < 0)) ∧ (¬ ((9 : Int32) < x1))))), (2, .int (eb_I h s_now 4)), (0, .ref s_EB), (1, .int x1)]) (st2 := []) (v := (if y7 = 0 then (-11) else eb_I h s_now 4 : Int32)) ?_ (fun jj10 => ?_)
      · exact eb_ireturn (pc := 46) rfl rfl rfl w
      refine eb_if_eq (pc := 37) (tgt := 44) rfl (by decide) (fun c9 => ?_) (fun c9 => ?_)
      · refine eb_bipush (pc := 44) (n := -11) (v := (-11)) rfl rfl ?_
        exact jj10 _ (by simp only [if_pos c9])
      · refine eb_iload_n (pc := 40) (n := 2) (i := 2) rfl rfl rfl ?_
        refine eb_goto (pc := 41) (tgt := 46) rfl (by decide) ?_
        exact jj10 _ (by simp only [if_neg c9])
  refine eb_if_lt (pc := 9) (tgt := 22) rfl (by decide) (fun c1 => ?_) (fun c1 => ?_)
  · refine eb_iconst (pc := 22) (n := 0) (v := 0) rfl rfl ?_
    exact jj3 0 (eb_qf (fun z => z.1 c1)).symm
  · refine eb_iload_n (pc := 12) (n := 1) (i := 1) rfl rfl rfl ?_
    refine eb_bipush (pc := 13) (n := 9) (v := 9) rfl rfl ?_
    refine eb_icmp_gt (pc := 15) (tgt := 22) rfl (by decide) (fun c2 => ?_) (fun c2 => ?_)
    · refine eb_iconst (pc := 22) (n := 0) (v := 0) rfl rfl ?_
      exact jj3 0 (eb_qf (fun z => (fun z => z c2) z.2)).symm
    · refine eb_iconst (pc := 18) (n := 1) (v := 1) rfl rfl ?_
      refine eb_goto (pc := 19) (tgt := 23) rfl (by decide) ?_
      exact jj3 1 (eb_qt (⟨c1, c2⟩)).symm
theorem T_X10_wind {d : Nat} {h : eb_H} {Q : Option Value → eb_H → Prop} (x1 : Int32)  (ko : eb_KO h) (w : ((¬ ((¬ (x1 < 0)) ∧ (¬ ((9 : Int32) < x1))) → Q (some (.int (-11))) h) ∧ ((¬ (x1 < 0)) ∧ (¬ ((9 : Int32) < x1)) → eb_Ct d 139 [.ref s_EB, .int ((300 : Int32) + x1)] h (fun r h6 => ∃ y7, r = some (.int y7) ∧ eb_KO h6 ∧ Q (some (.int (if y7 = 0 then (-11) else eb_I h s_now 4 : Int32))) h6)))) : eb_Ct (d + 1) 107 [.ref s_EB, .int x1] h Q :=
  eb_bodyQ (by decide) ok_X10_wind (Nat.le_of_ble_eq_true rfl) (b_X10_wind_0 (h0 := h) x1  ko w)
theorem b_X10_undo_0 {d : Nat} {h0 h : eb_H} {Q : Option Value → eb_H → Prop} (x1 : Int32)  (ko : eb_KO h) (w : ((x1 < (1 : Int32) → Q (some (.int (-3))) h) ∧ (¬ (x1 < (1 : Int32)) → ((x1 ≤ (eb_I h s_past 2) → eb_Ct d 43 [.ref s_past, .ref s_now, .int x1] h (fun r h3 => r = none ∧ eb_KO h3 ∧ Q (some (.int (eb_I h3 s_past 2))) h3)) ∧ (¬ (x1 ≤ (eb_I h s_past 2)) → Q (some (.int (-3))) h))))) : eb_Sn (d + 1) m_X10_undo h0 0 [(0, .ref s_EB), (1, .int x1)] [] h Q := by
  refine eb_iload_n (pc := 0) (n := 1) (i := 1) rfl rfl rfl ?_
  refine eb_iconst (pc := 1) (n := 1) (v := 1) rfl rfl ?_
  refine eb_icmp_lt (pc := 2) (tgt := 16) rfl (by decide) (fun c1 => ?_) (fun c1 => ?_)
  · replace w := w.1 c1
    refine eb_bipush (pc := 16) (n := -3) (v := (-3)) rfl rfl ?_
    exact eb_ireturn (pc := 18) rfl rfl rfl w
  · replace w := w.2 c1
    refine eb_iload_n (pc := 5) (n := 1) (i := 1) rfl rfl rfl ?_
    refine eb_aload_n (pc := 6) (n := 0) (i := 0) rfl rfl rfl ?_
    refine eb_getR (pc := 7) rfl rfl (by decide) (by decide) rfl (ko_s_EB_6 ko) ?_
    refine eb_getI (pc := 10) rfl rfl (by decide) (by decide) rfl ?_
    refine eb_icmp_le (pc := 13) (tgt := 19) rfl (by decide) (fun c2 => ?_) (fun c2 => ?_)
    · replace w := w.1 c2
      refine eb_aload_n (pc := 19) (n := 0) (i := 0) rfl rfl rfl ?_
      refine eb_getR (pc := 20) rfl rfl (by decide) (by decide) rfl (ko_s_EB_6 ko) ?_
      refine eb_aload_n (pc := 23) (n := 0) (i := 0) rfl rfl rfl ?_
      refine eb_getR (pc := 24) rfl rfl (by decide) (by decide) rfl (ko_s_EB_3 ko) ?_
      refine eb_iload_n (pc := 27) (n := 1) (i := 1) rfl rfl rfl ?_
      refine eb_ctV (pc := 28) (As := [.ref s_now, .int x1]) (rest := []) rfl (by decide) rfl rfl (by decide) rfl (Nat.le_of_ble_eq_true rfl) ?_
      refine eb_Ct.mono w ?_
      rintro r h3 ⟨rfl, ko5, w⟩
      change eb_Sn _ _ _ 31 _ [] _ _
      refine eb_aload_n (pc := 31) (n := 0) (i := 0) rfl rfl rfl ?_
      refine eb_getR (pc := 32) rfl rfl (by decide) (by decide) rfl (ko_s_EB_6 ko5) ?_
      refine eb_getI (pc := 35) rfl rfl (by decide) (by decide) rfl ?_
      exact eb_ireturn (pc := 38) rfl rfl rfl w
    · replace w := w.2 c2
      refine eb_bipush (pc := 16) (n := -3) (v := (-3)) rfl rfl ?_
      exact eb_ireturn (pc := 18) rfl rfl rfl w
theorem T_X10_undo {d : Nat} {h : eb_H} {Q : Option Value → eb_H → Prop} (x1 : Int32)  (ko : eb_KO h) (w : ((x1 < (1 : Int32) → Q (some (.int (-3))) h) ∧ (¬ (x1 < (1 : Int32)) → ((x1 ≤ (eb_I h s_past 2) → eb_Ct d 43 [.ref s_past, .ref s_now, .int x1] h (fun r h3 => r = none ∧ eb_KO h3 ∧ Q (some (.int (eb_I h3 s_past 2))) h3)) ∧ (¬ (x1 ≤ (eb_I h s_past 2)) → Q (some (.int (-3))) h))))) : eb_Ct (d + 1) 108 [.ref s_EB, .int x1] h Q :=
  eb_bodyQ (by decide) ok_X10_undo (Nat.le_of_ble_eq_true rfl) (b_X10_undo_0 (h0 := h) x1  ko w)
