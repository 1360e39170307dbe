theorem b_X11_lists_0 {d : Nat} {h0 h : eb_H} {Q : Option Value → eb_H → Prop} (x1 : Int32) (x2 : Int32) (x3 : Int32) (x4 : Int32)  (ko : eb_KO h) (w : ((¬ ((¬ (x1.toInt64 < 0)) ∧ (¬ (3 < x1.toInt64))) → Q (some (.int (-2))) (eb_sI h s_MO 0 0)) ∧ ((¬ (x1.toInt64 < 0)) ∧ (¬ (3 < x1.toInt64)) → (((¬ (x2.toInt64 < 0)) ∧ (¬ (((((eb_I (eb_sI h s_MO 0 0) s_m_all (1 : Int32).toNatClampNeg) * (eb_I (eb_sI h s_MO 0 0) s_m_all (2 : Int32).toNatClampNeg)) - 1).toInt64) < x2.toInt64)) → eb_Ct (d + 1) 221 [.ref s_MO, .int x1] (eb_sI h s_MO 0 0) (fun r h7 => ∃ y8, r = some (.int y8) ∧ eb_KO h7 ∧ ((y8 = 0 → eb_Ct (d + 1) 233 [.ref s_MO, .int x2, .int x3, .int x4] h7 (fun r h11 => ∃ y12, r = some (.int y12) ∧ eb_KO h11 ∧ ((y12 = 0 → eb_Ct (d + 1) 232 [.ref s_MO, .int x2, .int x3, .int x4] h11 (fun r h15 => ∃ y16, r = some (.int y16) ∧ eb_KO h15 ∧ ((¬ y16 = (268435456 : Int32) → (vp_in x1 4) ∧ (((eb_I h15 s_m_rowMany x1.toNatClampNeg) ≤ y16 → (vp_in x1 4) ∧ eb_Sn (d + 2) m_X11_lists h0 110 [(0, .ref s_MO), (1, .int x1), (7, .int (eb_I h15 s_m_rowMany x1.toNatClampNeg)), (8, .int 0)] [] h15 Q) ∧ (¬ ((eb_I h15 s_m_rowMany x1.toNatClampNeg) ≤ y16) → eb_Sn (d + 2) m_X11_lists h0 110 [(0, .ref s_MO), (1, .int x1), (7, .int y16), (8, .int 0)] [] h15 Q))) ∧ (y16 = (268435456 : Int32) → Q (some (.int (-5))) h15)))) ∧ (¬ (y12 = 0) → Q (some (.int y12)) h11)))) ∧ (¬ (y8 = 0) → Q (some (.int y8)) h7)))) ∧ (¬ ((¬ (x2.toInt64 < 0)) ∧ (¬ (((((eb_I (eb_sI h s_MO 0 0) s_m_all (1 : Int32).toNatClampNeg) * (eb_I (eb_sI h s_MO 0 0) s_m_all (2 : Int32).toNatClampNeg)) - 1).toInt64) < x2.toInt64))) → Q (some (.int (-2))) (eb_sI h s_MO 0 0)))))) : eb_Sn (d + 2) m_X11_lists h0 0 [(0, .ref s_MO), (1, .int x1), (2, .int x2), (3, .int x3), (4, .int x4)] [] h Q := by
  refine eb_aload_n (pc := 0) (n := 0) (i := 0) rfl rfl rfl ?_
  refine eb_iconst (pc := 1) (n := 0) (v := 0) rfl rfl ?_
  refine eb_putI (pc := 2) rfl rfl (by decide) (by decide) rfl rfl ⟨rfl, rfl⟩ ?_
  refine eb_iload_n (pc := 5) (n := 1) (i := 1) rfl rfl rfl ?_
  refine eb_i2l (pc := 6) rfl ?_
  refine eb_lconst (pc := 7) (n := 0) (v := 0) rfl rfl ?_
  refine eb_ldc2 (pc := 8) (a := 3) (v := 3) rfl (by decide) ?_
  refine eb_joinI (pc2 := 14) (ls2 := [(0, .ref s_MO), (1, .int x1), (2, .int x2), (3, .int x3), (4, .int x4)]) (st2 := []) (v := eb_q ((¬ (x1.toInt64 < 0)) ∧ (¬ (3 < x1.toInt64)))) ?_ (fun jj24 => ?_)
  · refine eb_if_eq (pc := 14) (tgt := 26) rfl (by decide) (fun c3 => ?_) (fun c3 => ?_)
    · replace c3 := eb_q0.mp c3
      replace w := w.1 c3
      refine eb_bipush (pc := 26) (n := -2) (v := (-2)) rfl rfl ?_
      exact eb_ireturn (pc := 28) rfl rfl rfl w
    · replace c3 := eb_q1.mp c3
      replace w := w.2 c3
      refine eb_aload_n (pc := 17) (n := 0) (i := 0) rfl rfl rfl ?_
      refine eb_iload_n (pc := 18) (n := 2) (i := 2) rfl rfl rfl ?_
      refine eb_i2l (pc := 19) rfl ?_
      refine eb_joinI (pc2 := 23) (ls2 := [(0, .ref s_MO), (1, .int x1), (2, .int x2), (3, .int x3), (4, .int x4)]) (st2 := []) (v := eb_q ((¬ (x2.toInt64 < 0)) ∧ (¬ (((((eb_I (eb_sI h s_MO 0 0) s_m_all (1 : Int32).toNatClampNeg) * (eb_I (eb_sI h s_MO 0 0) s_m_all (2 : Int32).toNatClampNeg)) - 1).toInt64) < x2.toInt64)))) ?_ (fun jj22 => ?_)
      · refine eb_if_ne (pc := 23) (tgt := 29) rfl (by decide) (fun c6 => ?_) (fun c6 => ?_)
        · replace c6 := eb_q1.mp c6
          replace w := w.1 c6
          refine eb_aload_n (pc := 29) (n := 0) (i := 0) rfl rfl rfl ?_
          refine eb_iload_n (pc := 30) (n := 1) (i := 1) rfl rfl rfl ?_
          refine eb_ctV (pc := 31) (As := [.int x1]) (rest := []) rfl (by decide) rfl rfl (by decide) rfl (Nat.le_of_ble_eq_true rfl) ?_
          refine eb_Ct.mono w ?_
          rintro r h7 ⟨y8, rfl, ko9, w⟩
          change eb_Sn _ _ _ 34 _ [.int y8] _ _
          refine eb_istore (pc := 34) (i := 5) (ls2 := [(5, .int y8), (0, .ref s_MO), (1, .int x1), (2, .int x2), (3, .int x3), (4, .int x4)]) (Nat.le_of_ble_eq_true rfl) rfl rfl ?_
          refine eb_iload (pc := 36) (i := 5) rfl rfl ?_
          refine eb_if_eq (pc := 38) (tgt := 44) rfl (by decide) (fun c10 => ?_) (fun c10 => ?_)
          · replace w := w.1 c10
            refine eb_aload_n (pc := 44) (n := 0) (i := 0) rfl rfl rfl ?_
            refine eb_iload_n (pc := 45) (n := 2) (i := 2) rfl rfl rfl ?_
            refine eb_iload_n (pc := 46) (n := 3) (i := 3) rfl rfl rfl ?_
            refine eb_iload (pc := 47) (i := 4) rfl rfl ?_
            refine eb_ctV (pc := 49) (As := [.int x2, .int x3, .int x4]) (rest := []) rfl (by decide) rfl rfl (by decide) rfl (Nat.le_of_ble_eq_true rfl) ?_
            refine eb_Ct.mono w ?_
            rintro r h11 ⟨y12, rfl, ko13, w⟩
            change eb_Sn _ _ _ 52 _ [.int y12] _ _
            refine eb_istore (pc := 52) (i := 5) (ls2 := [(5, .int y12), (0, .ref s_MO), (1, .int x1), (2, .int x2), (3, .int x3), (4, .int x4)]) (Nat.le_of_ble_eq_true rfl) rfl rfl ?_
            refine eb_iload (pc := 54) (i := 5) rfl rfl ?_
            refine eb_if_eq (pc := 56) (tgt := 62) rfl (by decide) (fun c14 => ?_) (fun c14 => ?_)
            · replace w := w.1 c14
              refine eb_aload_n (pc := 62) (n := 0) (i := 0) rfl rfl rfl ?_
              refine eb_iload_n (pc := 63) (n := 2) (i := 2) rfl rfl rfl ?_
              refine eb_iload_n (pc := 64) (n := 3) (i := 3) rfl rfl rfl ?_
              refine eb_iload (pc := 65) (i := 4) rfl rfl ?_
              refine eb_ctV (pc := 67) (As := [.int x2, .int x3, .int x4]) (rest := []) rfl (by decide) rfl rfl (by decide) rfl (Nat.le_of_ble_eq_true rfl) ?_
              refine eb_Ct.mono w ?_
              rintro r h15 ⟨y16, rfl, ko17, w⟩
              change eb_Sn _ _ _ 70 _ [.int y16] _ _
              refine eb_istore (pc := 70) (i := 6) (ls2 := [(6, .int y16), (5, .int y12), (0, .ref s_MO), (1, .int x1), (2, .int x2), (3, .int x3), (4, .int x4)]) (Nat.le_of_ble_eq_true rfl) rfl rfl ?_
              refine eb_iload (pc := 72) (i := 6) rfl rfl ?_
              refine eb_ldcw (pc := 74) (a := 268435456) (v := 268435456) rfl (by decide) ?_
              refine eb_icmp_ne (pc := 77) (tgt := 83) rfl (by decide) (fun c18 => ?_) (fun c18 => ?_)
              · replace w := w.1 c18
                refine eb_iload (pc := 83) (i := 6) rfl rfl ?_
                refine eb_aload_n (pc := 85) (n := 0) (i := 0) rfl rfl rfl ?_
                refine eb_getR (pc := 86) rfl rfl (by decide) (by decide) rfl (ko_s_MO_29 ko17) ?_
                refine eb_iload_n (pc := 89) (n := 1) (i := 1) rfl rfl rfl ?_
                obtain ⟨c19, w⟩ := w
                refine eb_iaload (pc := 90) rfl rfl (by decide) c19 ?_
                refine eb_icmp_ge (pc := 91) (tgt := 99) rfl (by decide) (fun c20 => ?_) (fun c20 => ?_)
                · replace w := w.1 c20
                  refine eb_aload_n (pc := 99) (n := 0) (i := 0) rfl rfl rfl ?_
                  refine eb_getR (pc := 100) rfl rfl (by decide) (by decide) rfl (ko_s_MO_29 ko17) ?_
                  refine eb_iload_n (pc := 103) (n := 1) (i := 1) rfl rfl rfl ?_
                  obtain ⟨c21, w⟩ := w
                  refine eb_iaload (pc := 104) rfl rfl (by decide) c21 ?_
                  refine eb_istore (pc := 105) (i := 7) (ls2 := [(7, .int (eb_I h15 s_m_rowMany x1.toNatClampNeg)), (6, .int y16), (5, .int y12), (0, .ref s_MO), (1, .int x1), (2, .int x2), (3, .int x3), (4, .int x4)]) (Nat.le_of_ble_eq_true rfl) rfl rfl ?_
                  refine eb_iconst (pc := 107) (n := 0) (v := 0) rfl rfl ?_
                  refine eb_istore (pc := 108) (i := 8) (ls2 := [(8, .int 0), (7, .int (eb_I h15 s_m_rowMany x1.toNatClampNeg)), (6, .int y16), (5, .int y12), (0, .ref s_MO), (1, .int x1), (2, .int x2), (3, .int x3), (4, .int x4)]) (Nat.le_of_ble_eq_true rfl) rfl rfl ?_
                  exact eb_pick [4, 5, 1, 0] rfl w
                · replace w := w.2 c20
                  refine eb_iload (pc := 94) (i := 6) rfl rfl ?_
                  refine eb_goto (pc := 96) (tgt := 105) rfl (by decide) ?_
                  refine eb_istore (pc := 105) (i := 7) (ls2 := [(7, .int y16), (6, .int y16), (5, .int y12), (0, .ref s_MO), (1, .int x1), (2, .int x2), (3, .int x3), (4, .int x4)]) (Nat.le_of_ble_eq_true rfl) rfl rfl ?_
                  refine eb_iconst (pc := 107) (n := 0) (v := 0) rfl rfl ?_
                  refine eb_istore (pc := 108) (i := 8) (ls2 := [(8, .int 0), (7, .int y16), (6, .int y16), (5, .int y12), (0, .ref s_MO), (1, .int x1), (2, .int x2), (3, .int x3), (4, .int x4)]) (Nat.le_of_ble_eq_true rfl) rfl rfl ?_
                  exact eb_pick [4, 5, 1, 0] rfl w
              · replace w := w.2 c18
                refine eb_bipush (pc := 80) (n := -5) (v := (-5)) rfl rfl ?_
                exact eb_ireturn (pc := 82) rfl rfl rfl w
            · replace w := w.2 c14
              refine eb_iload (pc := 59) (i := 5) rfl rfl ?_
              exact eb_ireturn (pc := 61) rfl rfl rfl w
          · replace w := w.2 c10
            refine eb_iload (pc := 41) (i := 5) rfl rfl ?_
            exact eb_ireturn (pc := 43) rfl rfl rfl w
        · replace c6 := eb_q0.mp c6
          replace w := w.2 c6
          refine eb_bipush (pc := 26) (n := -2) (v := (-2)) rfl rfl ?_
          exact eb_ireturn (pc := 28) rfl rfl rfl w
      refine eb_ctV (pc := 20) (As := [.long x2.toInt64]) (rest := []) rfl (by decide) rfl rfl (by decide) rfl (Nat.le_of_ble_eq_true rfl) ?_
      refine eb_bodyQ (by decide) ok_X11_isCell (Nat.le_of_ble_eq_true rfl) ?_
      change eb_Sn _ m_X11_isCell _ 0 [(0, .ref s_MO), (1, .long x2.toInt64)] [] _ _
      refine eb_lload_n (pc := 0) (n := 1) (i := 1) rfl rfl rfl ?_
      refine eb_lconst (pc := 1) (n := 0) (v := 0) rfl rfl ?_
      refine eb_aload_n (pc := 2) (n := 0) (i := 0) rfl rfl rfl ?_
      refine eb_ctV (pc := 3) (As := []) (rest := [.long 0, .long x2.toInt64]) rfl (by decide) rfl rfl (by decide) rfl (Nat.le_of_ble_eq_true rfl) ?_
      refine eb_bodyQ (by decide) ok_X11_cells (Nat.le_of_ble_eq_true rfl) ?_
      change eb_Sn _ m_X11_cells _ 0 [(0, .ref s_MO)] [] _ _
      refine eb_aload_n (pc := 0) (n := 0) (i := 0) rfl rfl rfl ?_
      refine eb_getR (pc := 1) rfl rfl (by decide) (by decide) rfl (ko_s_MO_1 ko) ?_
      refine eb_iconst (pc := 4) (n := 1) (v := 1) rfl rfl ?_
      refine eb_iaload (pc := 5) rfl rfl (by decide) (by unfold vp_in; decide) ?_
      refine eb_aload_n (pc := 6) (n := 0) (i := 0) rfl rfl rfl ?_
      refine eb_getR (pc := 7) rfl rfl (by decide) (by decide) rfl (ko_s_MO_1 ko) ?_
      refine eb_iconst (pc := 10) (n := 2) (v := 2) rfl rfl ?_
      refine eb_iaload (pc := 11) rfl rfl (by decide) (by unfold vp_in; decide) ?_
      refine eb_imul (pc := 12) rfl ?_
      refine eb_ireturn (pc := 13) rfl rfl rfl ?_
      change eb_Sn _ _ _ 6 _ [.int ((eb_I (eb_sI h s_MO 0 0) s_m_all (1 : Int32).toNatClampNeg) * (eb_I (eb_sI h s_MO 0 0) s_m_all (2 : Int32).toNatClampNeg)), .long 0, .long x2.toInt64] _ _
      refine eb_iconst (pc := 6) (n := 1) (v := 1) rfl rfl ?_
      refine eb_isub (pc := 7) rfl ?_
      refine eb_i2l (pc := 8) rfl ?_
      refine eb_ctS (pc := 9) (As := [.long x2.toInt64, .long 0, .long ((((eb_I (eb_sI h s_MO 0 0) s_m_all (1 : Int32).toNatClampNeg) * (eb_I (eb_sI h s_MO 0 0) s_m_all (2 : Int32).toNatClampNeg)) - 1).toInt64)]) (rest := []) rfl (by decide) (by decide) rfl rfl (Nat.le_of_ble_eq_true rfl) ?_
      refine eb_bodyQ (by decide) ok_X11_within (Nat.le_of_ble_eq_true rfl) ?_
      change eb_Sn _ m_X11_within _ 0 [(0, .long x2.toInt64), (2, .long 0), (4, .long ((((eb_I (eb_sI h s_MO 0 0) s_m_all (1 : Int32).toNatClampNeg) * (eb_I (eb_sI h s_MO 0 0) s_m_all (2 : Int32).toNatClampNeg)) - 1).toInt64))] [] _ _
      refine eb_lload_n (pc := 0) (n := 0) (i := 0) rfl rfl rfl ?_
      refine eb_lload_n (pc := 1) (n := 2) (i := 2) rfl rfl rfl ?_
      refine eb_lcmp (pc := 2) rfl ?_
      refine eb_if_lt (pc := 3) (tgt := 17) rfl (by decide) (fun c4 => ?_) (fun c4 => ?_)
      · replace c4 := eb_lc_lt.mp c4
        refine eb_iconst (pc := 17) (n := 0) (v := 0) rfl rfl ?_
        refine eb_ireturn (pc := 18) rfl rfl (by decide) ?_
        change eb_Sn _ _ _ 12 _ [.int 0] _ _
        refine eb_ireturn (pc := 12) rfl rfl (by decide) ?_
        change eb_Sn _ _ _ 23 _ _ _ _
        exact jj22 0 (eb_qf (fun z => z.1 c4)).symm
      · replace c4 := (fun hh => mt eb_lc_lt.mpr hh) c4
        refine eb_lload_n (pc := 6) (n := 0) (i := 0) rfl rfl rfl ?_
        refine eb_lload (pc := 7) (i := 4) rfl rfl ?_
        refine eb_lcmp (pc := 9) rfl ?_
        refine eb_if_gt (pc := 10) (tgt := 17) rfl (by decide) (fun c5 => ?_) (fun c5 => ?_)
        · replace c5 := eb_lc_gt.mp c5
          refine eb_iconst (pc := 17) (n := 0) (v := 0) rfl rfl ?_
          refine eb_ireturn (pc := 18) rfl rfl (by decide) ?_
          change eb_Sn _ _ _ 12 _ [.int 0] _ _
          refine eb_ireturn (pc := 12) rfl rfl (by decide) ?_
          change eb_Sn _ _ _ 23 _ _ _ _
          exact jj22 0 (eb_qf (fun z => (fun z => z c5) z.2)).symm
        · replace c5 := (fun hh => mt eb_lc_gt.mpr hh) c5
          refine eb_iconst (pc := 13) (n := 1) (v := 1) rfl rfl ?_
          refine eb_goto (pc := 14) (tgt := 18) rfl (by decide) ?_
          refine eb_ireturn (pc := 18) rfl rfl (by decide) ?_
          change eb_Sn _ _ _ 12 _ [.int 1] _ _
          refine eb_ireturn (pc := 12) rfl rfl (by decide) ?_
          change eb_Sn _ _ _ 23 _ _ _ _
          exact jj22 1 (eb_qt (⟨c4, c5⟩)).symm
  refine eb_ctS (pc := 11) (As := [.long x1.toInt64, .long 0, .long 3]) (rest := []) rfl (by decide) (by decide) rfl rfl (Nat.le_of_ble_eq_true rfl) ?_
  refine eb_bodyQ (by decide) ok_X11_within (Nat.le_of_ble_eq_true rfl) ?_
  change eb_Sn _ m_X11_within _ 0 [(0, .long x1.toInt64), (2, .long 0), (4, .long 3)] [] _ _
  refine eb_lload_n (pc := 0) (n := 0) (i := 0) rfl rfl rfl ?_
  refine eb_lload_n (pc := 1) (n := 2) (i := 2) rfl rfl rfl ?_
  refine eb_lcmp (pc := 2) rfl ?_
  refine eb_if_lt (pc := 3) (tgt := 17) rfl (by decide) (fun c1 => ?_) (fun c1 => ?_)
  · replace c1 := eb_lc_lt.mp c1
    refine eb_iconst (pc := 17) (n := 0) (v := 0) rfl rfl ?_
    refine eb_ireturn (pc := 18) rfl rfl (by decide) ?_
    change eb_Sn _ _ _ 14 _ _ _ _
    exact jj24 0 (eb_qf (fun z => z.1 c1)).symm
  · replace c1 := (fun hh => mt eb_lc_lt.mpr hh) c1
    refine eb_lload_n (pc := 6) (n := 0) (i := 0) rfl rfl rfl ?_
    refine eb_lload (pc := 7) (i := 4) rfl rfl ?_
    refine eb_lcmp (pc := 9) rfl ?_
    refine eb_if_gt (pc := 10) (tgt := 17) rfl (by decide) (fun c2 => ?_) (fun c2 => ?_)
    · replace c2 := eb_lc_gt.mp c2
      refine eb_iconst (pc := 17) (n := 0) (v := 0) rfl rfl ?_
      refine eb_ireturn (pc := 18) rfl rfl (by decide) ?_
      change eb_Sn _ _ _ 14 _ _ _ _
      exact jj24 0 (eb_qf (fun z => (fun z => z c2) z.2)).symm
    · replace c2 := (fun hh => mt eb_lc_gt.mpr hh) c2
      refine eb_iconst (pc := 13) (n := 1) (v := 1) rfl rfl ?_
      refine eb_goto (pc := 14) (tgt := 18) rfl (by decide) ?_
      refine eb_ireturn (pc := 18) rfl rfl (by decide) ?_
      change eb_Sn _ _ _ 14 _ _ _ _
      exact jj24 1 (eb_qt (⟨c1, c2⟩)).symm
theorem b_X11_lists_110 {d : Nat} {h0 h : eb_H} {Q : Option Value → eb_H → Prop} (x1 : Int32) (x7 : Int32) (x8 : Int32)  (ko : eb_KO h) (w : ((x7 ≤ x8 → Q (some (.int x7)) h) ∧ (¬ (x7 ≤ x8) → eb_Ct (d + 1) 234 [.ref s_MO, .int x8] h (fun r h2 => ∃ y3, r = some (.int y3) ∧ eb_KO h2 ∧ (vp_in (((40 : Int32) * x1) + x8) 160) ∧ eb_Sn (d + 2) m_X11_lists h0 110 [(0, .ref s_MO), (1, .int x1), (7, .int x7), (8, .int (x8 + 1))] [] (eb_sJ h2 s_m_numbers (((40 : Int32) * x1) + x8).toNatClampNeg y3.toInt64) Q)))) : eb_Sn (d + 2) m_X11_lists h0 110 [(0, .ref s_MO), (1, .int x1), (7, .int x7), (8, .int x8)] [] h Q := by
  refine eb_iload (pc := 110) (i := 8) rfl rfl ?_
  refine eb_iload (pc := 112) (i := 7) rfl rfl ?_
  refine eb_icmp_ge (pc := 114) (tgt := 142) rfl (by decide) (fun c1 => ?_) (fun c1 => ?_)
  · replace w := w.1 c1
    refine eb_iload (pc := 142) (i := 7) rfl rfl ?_
    exact eb_ireturn (pc := 144) rfl rfl rfl w
  · replace w := w.2 c1
    refine eb_aload_n (pc := 117) (n := 0) (i := 0) rfl rfl rfl ?_
    refine eb_getR (pc := 118) rfl rfl (by decide) (by decide) rfl (ko_s_MO_30 ko) ?_
    refine eb_bipush (pc := 121) (n := 40) (v := 40) rfl rfl ?_
    refine eb_iload_n (pc := 123) (n := 1) (i := 1) rfl rfl rfl ?_
    refine eb_imul (pc := 124) rfl ?_
    refine eb_iload (pc := 125) (i := 8) rfl rfl ?_
    refine eb_iadd (pc := 127) rfl ?_
    refine eb_aload_n (pc := 128) (n := 0) (i := 0) rfl rfl rfl ?_
    refine eb_iload (pc := 129) (i := 8) rfl rfl ?_
    refine eb_ctV (pc := 131) (As := [.int x8]) (rest := [.int (((40 : Int32) * x1) + x8), .ref s_m_numbers]) rfl (by decide) rfl rfl (by decide) rfl (Nat.le_of_ble_eq_true rfl) ?_
    refine eb_Ct.mono w ?_
    rintro r h2 ⟨y3, rfl, ko4, w⟩
    change eb_Sn _ _ _ 134 _ [.int y3, .int (((40 : Int32) * x1) + x8), .ref s_m_numbers] _ _
    refine eb_i2l (pc := 134) rfl ?_
    obtain ⟨c5, w⟩ := w
    refine eb_lastore (pc := 135) rfl rfl c5 ?_
    refine eb_iinc (pc := 136) (i := 8) (n := 1) (v := x8 + 1) (ls2 := [(8, .int (x8 + 1)), (0, .ref s_MO), (1, .int x1), (7, .int x7)]) (Nat.le_of_ble_eq_true rfl) rfl rfl rfl rfl ?_
    refine eb_goto (pc := 139) (tgt := 110) rfl (by decide) ?_
    exact eb_pick [1, 2, 3, 0] rfl w
theorem T_X11_lists {d : Nat} {h : eb_H} {Q : Option Value → eb_H → Prop} (x1 : Int32) (x2 : Int32) (x3 : Int32) (x4 : Int32)  (ko : eb_KO h) (w : ((¬ ((¬ (x1.toInt64 < 0)) ∧ (¬ (3 < x1.toInt64))) → Q (some (.int (-2))) (eb_sI h s_MO 0 0)) ∧ ((¬ (x1.toInt64 < 0)) ∧ (¬ (3 < x1.toInt64)) → (((¬ (x2.toInt64 < 0)) ∧ (¬ (((((eb_I (eb_sI h s_MO 0 0) s_m_all (1 : Int32).toNatClampNeg) * (eb_I (eb_sI h s_MO 0 0) s_m_all (2 : Int32).toNatClampNeg)) - 1).toInt64) < x2.toInt64)) → eb_Ct (d + 1) 221 [.ref s_MO, .int x1] (eb_sI h s_MO 0 0) (fun r h7 => ∃ y8, r = some (.int y8) ∧ eb_KO h7 ∧ ((y8 = 0 → eb_Ct (d + 1) 233 [.ref s_MO, .int x2, .int x3, .int x4] h7 (fun r h11 => ∃ y12, r = some (.int y12) ∧ eb_KO h11 ∧ ((y12 = 0 → eb_Ct (d + 1) 232 [.ref s_MO, .int x2, .int x3, .int x4] h11 (fun r h15 => ∃ y16, r = some (.int y16) ∧ eb_KO h15 ∧ ((¬ y16 = (268435456 : Int32) → (vp_in x1 4) ∧ (((eb_I h15 s_m_rowMany x1.toNatClampNeg) ≤ y16 → (vp_in x1 4) ∧ eb_Sn (d + 2) m_X11_lists h 110 [(0, .ref s_MO), (1, .int x1), (7, .int (eb_I h15 s_m_rowMany x1.toNatClampNeg)), (8, .int 0)] [] h15 Q) ∧ (¬ ((eb_I h15 s_m_rowMany x1.toNatClampNeg) ≤ y16) → eb_Sn (d + 2) m_X11_lists h 110 [(0, .ref s_MO), (1, .int x1), (7, .int y16), (8, .int 0)] [] h15 Q))) ∧ (y16 = (268435456 : Int32) → Q (some (.int (-5))) h15)))) ∧ (¬ (y12 = 0) → Q (some (.int y12)) h11)))) ∧ (¬ (y8 = 0) → Q (some (.int y8)) h7)))) ∧ (¬ ((¬ (x2.toInt64 < 0)) ∧ (¬ (((((eb_I (eb_sI h s_MO 0 0) s_m_all (1 : Int32).toNatClampNeg) * (eb_I (eb_sI h s_MO 0 0) s_m_all (2 : Int32).toNatClampNeg)) - 1).toInt64) < x2.toInt64))) → Q (some (.int (-2))) (eb_sI h s_MO 0 0)))))) : eb_Ct (d + 2) 279 [.ref s_MO, .int x1, .int x2, .int x3, .int x4] h Q :=
  eb_bodyQ (by decide) ok_X11_lists (Nat.le_of_ble_eq_true rfl) (b_X11_lists_0 (h0 := h) x1 x2 x3 x4  ko w)
theorem b_X11_image_0 {d : Nat} {h0 h : eb_H} {Q : Option Value → eb_H → Prop} (x1 : Int32)  (ko : eb_KO h) (w : (((¬ (x1.toInt64 < 0)) ∧ (¬ (1 < x1.toInt64)) → eb_Sn (d + 1) m_X11_image h0 20 [(0, .ref s_MO), (1, .int x1), (2, .int 0)] [] (eb_sI h s_MO 0 0) Q) ∧ (¬ ((¬ (x1.toInt64 < 0)) ∧ (¬ (1 < x1.toInt64))) → Q (some (.int (-2))) (eb_sI h s_MO 0 0)))) : eb_Sn (d + 1) m_X11_image h0 0 [(0, .ref s_MO), (1, .int x1)] [] h Q := by
  refine eb_aload_n (pc := 0) (n := 0) (i := 0) rfl rfl rfl ?_
  refine eb_iconst (pc := 1) (n := 0) (v := 0) rfl rfl ?_
  refine eb_putI (pc := 2) rfl rfl (by decide) (by decide) rfl rfl ⟨rfl, rfl⟩ ?_
  refine eb_iload_n (pc := 5) (n := 1) (i := 1) rfl rfl rfl ?_
  refine eb_i2l (pc := 6) rfl ?_
  refine eb_lconst (pc := 7) (n := 0) (v := 0) rfl rfl ?_
  refine eb_lconst (pc := 8) (n := 1) (v := 1) rfl rfl ?_
  refine eb_joinI (pc2 := 12) (ls2 := [(0, .ref s_MO), (1, .int x1)]) (st2 := []) (v := eb_q ((¬ (x1.toInt64 < 0)) ∧ (¬ (1 < x1.toInt64)))) ?_ (fun jj4 => ?_)
  · refine eb_if_ne (pc := 12) (tgt := 18) rfl (by decide) (fun c3 => ?_) (fun c3 => ?_)
    · replace c3 := eb_q1.mp c3
      replace w := w.1 c3
      refine eb_iconst (pc := 18) (n := 0) (v := 0) rfl rfl ?_
      refine eb_istore_n (pc := 19) (n := 2) (i := 2) (ls2 := [(2, .int 0), (0, .ref s_MO), (1, .int x1)]) rfl (Nat.le_of_ble_eq_true rfl) rfl rfl ?_
      exact eb_pick [1, 2, 0] rfl w
    · replace c3 := eb_q0.mp c3
      replace w := w.2 c3
      refine eb_bipush (pc := 15) (n := -2) (v := (-2)) rfl rfl ?_
      exact eb_ireturn (pc := 17) rfl rfl rfl w
  refine eb_ctS (pc := 9) (As := [.long x1.toInt64, .long 0, .long 1]) (rest := []) rfl (by decide) (by decide) rfl rfl (Nat.le_of_ble_eq_true rfl) ?_
  refine eb_bodyQ (by decide) ok_X11_within (Nat.le_of_ble_eq_true rfl) ?_
  change eb_Sn _ m_X11_within _ 0 [(0, .long x1.toInt64), (2, .long 0), (4, .long 1)] [] _ _
  refine eb_lload_n (pc := 0) (n := 0) (i := 0) rfl rfl rfl ?_
  refine eb_lload_n (pc := 1) (n := 2) (i := 2) rfl rfl rfl ?_
  refine eb_lcmp (pc := 2) rfl ?_
  refine eb_if_lt (pc := 3) (tgt := 17) rfl (by decide) (fun c1 => ?_) (fun c1 => ?_)
  · replace c1 := eb_lc_lt.mp c1
    refine eb_iconst (pc := 17) (n := 0) (v := 0) rfl rfl ?_
    refine eb_ireturn (pc := 18) rfl rfl (by decide) ?_
    change eb_Sn _ _ _ 12 _ _ _ _
    exact jj4 0 (eb_qf (fun z => z.1 c1)).symm
  · replace c1 := (fun hh => mt eb_lc_lt.mpr hh) c1
    refine eb_lload_n (pc := 6) (n := 0) (i := 0) rfl rfl rfl ?_
    refine eb_lload (pc := 7) (i := 4) rfl rfl ?_
    refine eb_lcmp (pc := 9) rfl ?_
    refine eb_if_gt (pc := 10) (tgt := 17) rfl (by decide) (fun c2 => ?_) (fun c2 => ?_)
    · replace c2 := eb_lc_gt.mp c2
      refine eb_iconst (pc := 17) (n := 0) (v := 0) rfl rfl ?_
      refine eb_ireturn (pc := 18) rfl rfl (by decide) ?_
      change eb_Sn _ _ _ 12 _ _ _ _
      exact jj4 0 (eb_qf (fun z => (fun z => z c2) z.2)).symm
    · replace c2 := (fun hh => mt eb_lc_gt.mpr hh) c2
      refine eb_iconst (pc := 13) (n := 1) (v := 1) rfl rfl ?_
      refine eb_goto (pc := 14) (tgt := 18) rfl (by decide) ?_
      refine eb_ireturn (pc := 18) rfl rfl (by decide) ?_
      change eb_Sn _ _ _ 12 _ _ _ _
      exact jj4 1 (eb_qt (⟨c1, c2⟩)).symm
theorem b_X11_image_20 {d : Nat} {h0 h : eb_H} {Q : Option Value → eb_H → Prop} (x1 : Int32) (x2 : Int32)  (ko : eb_KO h) (w : (((1164 : Int32) ≤ x2 → (vp_in x1 2) ∧ Q (some (.int 0)) (eb_sI h s_m_hasImage x1.toNatClampNeg ((1 : Int32) &&& 1))) ∧ (¬ ((1164 : Int32) ≤ x2) → (vp_in x2 3492) ∧ (vp_in (((1164 : Int32) * (x1 + 1)) + x2) 3492) ∧ eb_Sn (d + 1) m_X11_image h0 20 [(0, .ref s_MO), (1, .int x1), (2, .int (x2 + 1))] [] (eb_sI h s_m_all (((1164 : Int32) * (x1 + 1)) + x2).toNatClampNeg (eb_I h s_m_all x2.toNatClampNeg)) Q))) : eb_Sn (d + 1) m_X11_image h0 20 [(0, .ref s_MO), (1, .int x1), (2, .int x2)] [] h Q := by
  refine eb_iload_n (pc := 20) (n := 2) (i := 2) rfl rfl rfl ?_
  refine eb_sipush (pc := 21) (n := 1164) (v := 1164) rfl rfl ?_
  refine eb_icmp_ge (pc := 24) (tgt := 53) rfl (by decide) (fun c1 => ?_) (fun c1 => ?_)
  · replace w := w.1 c1
    refine eb_aload_n (pc := 53) (n := 0) (i := 0) rfl rfl rfl ?_
    refine eb_getR (pc := 54) rfl rfl (by decide) (by decide) rfl (ko_s_MO_2 ko) ?_
    refine eb_iload_n (pc := 57) (n := 1) (i := 1) rfl rfl rfl ?_
    refine eb_iconst (pc := 58) (n := 1) (v := 1) rfl rfl ?_
    obtain ⟨c2, w⟩ := w
    refine eb_zastore (pc := 59) rfl rfl c2 ?_
    refine eb_iconst (pc := 60) (n := 0) (v := 0) rfl rfl ?_
    exact eb_ireturn (pc := 61) rfl rfl rfl w
  · replace w := w.2 c1
    refine eb_aload_n (pc := 27) (n := 0) (i := 0) rfl rfl rfl ?_
    refine eb_getR (pc := 28) rfl rfl (by decide) (by decide) rfl (ko_s_MO_1 ko) ?_
    refine eb_sipush (pc := 31) (n := 1164) (v := 1164) rfl rfl ?_
    refine eb_iload_n (pc := 34) (n := 1) (i := 1) rfl rfl rfl ?_
    refine eb_iconst (pc := 35) (n := 1) (v := 1) rfl rfl ?_
    refine eb_iadd (pc := 36) rfl ?_
    refine eb_imul (pc := 37) rfl ?_
    refine eb_iload_n (pc := 38) (n := 2) (i := 2) rfl rfl rfl ?_
    refine eb_iadd (pc := 39) rfl ?_
    refine eb_aload_n (pc := 40) (n := 0) (i := 0) rfl rfl rfl ?_
    refine eb_getR (pc := 41) rfl rfl (by decide) (by decide) rfl (ko_s_MO_1 ko) ?_
    refine eb_iload_n (pc := 44) (n := 2) (i := 2) rfl rfl rfl ?_
    obtain ⟨c3, w⟩ := w
    refine eb_iaload (pc := 45) rfl rfl (by decide) c3 ?_
    obtain ⟨c4, w⟩ := w
    refine eb_iastore (pc := 46) rfl rfl (by decide) c4 ?_
    refine eb_iinc (pc := 47) (i := 2) (n := 1) (v := x2 + 1) (ls2 := [(2, .int (x2 + 1)), (0, .ref s_MO), (1, .int x1)]) (Nat.le_of_ble_eq_true rfl) rfl rfl rfl rfl ?_
    refine eb_goto (pc := 50) (tgt := 20) rfl (by decide) ?_
    exact eb_pick [1, 2, 0] rfl w
theorem T_X11_image {d : Nat} {h : eb_H} {Q : Option Value → eb_H → Prop} (x1 : Int32)  (ko : eb_KO h) (w : (((¬ (x1.toInt64 < 0)) ∧ (¬ (1 < x1.toInt64)) → eb_Sn (d + 1) m_X11_image h 20 [(0, .ref s_MO), (1, .int x1), (2, .int 0)] [] (eb_sI h s_MO 0 0) Q) ∧ (¬ ((¬ (x1.toInt64 < 0)) ∧ (¬ (1 < x1.toInt64))) → Q (some (.int (-2))) (eb_sI h s_MO 0 0)))) : eb_Ct (d + 1) 280 [.ref s_MO, .int x1] h Q :=
  eb_bodyQ (by decide) ok_X11_image (Nat.le_of_ble_eq_true rfl) (b_X11_image_0 (h0 := h) x1  ko w)
theorem b_X11_restore_0 {d : Nat} {h0 h : eb_H} {Q : Option Value → eb_H → Prop} (x1 : Int32)  (ko : eb_KO h) (w : (((¬ (x1.toInt64 < 0)) ∧ (¬ (1 < x1.toInt64)) → (vp_in x1 2) ∧ ((¬ (eb_I (eb_sI h s_MO 0 0) s_m_hasImage x1.toNatClampNeg) = 0 → eb_Sn (d + 1) m_X11_restore h0 32 [(0, .ref s_MO), (1, .int x1), (2, .int 0)] [] (eb_sI h s_MO 0 0) Q) ∧ ((eb_I (eb_sI h s_MO 0 0) s_m_hasImage x1.toNatClampNeg) = 0 → Q (some (.int (-5))) (eb_sI h s_MO 0 0)))) ∧ (¬ ((¬ (x1.toInt64 < 0)) ∧ (¬ (1 < x1.toInt64))) → Q (some (.int (-2))) (eb_sI h s_MO 0 0)))) : eb_Sn (d + 1) m_X11_restore h0 0 [(0, .ref s_MO), (1, .int x1)] [] h Q := by
  refine eb_aload_n (pc := 0) (n := 0) (i := 0) rfl rfl rfl ?_
  refine eb_iconst (pc := 1) (n := 0) (v := 0) rfl rfl ?_
  refine eb_putI (pc := 2) rfl rfl (by decide) (by decide) rfl rfl ⟨rfl, rfl⟩ ?_
  refine eb_iload_n (pc := 5) (n := 1) (i := 1) rfl rfl rfl ?_
  refine eb_i2l (pc := 6) rfl ?_
  refine eb_lconst (pc := 7) (n := 0) (v := 0) rfl rfl ?_
  refine eb_lconst (pc := 8) (n := 1) (v := 1) rfl rfl ?_
  refine eb_joinI (pc2 := 12) (ls2 := [(0, .ref s_MO), (1, .int x1)]) (st2 := []) (v := eb_q ((¬ (x1.toInt64 < 0)) ∧ (¬ (1 < x1.toInt64)))) ?_ (fun jj6 => ?_)
  · refine eb_if_ne (pc := 12) (tgt := 18) rfl (by decide) (fun c3 => ?_) (fun c3 => ?_)
    · replace c3 := eb_q1.mp c3
      replace w := w.1 c3
      refine eb_aload_n (pc := 18) (n := 0) (i := 0) rfl rfl rfl ?_
      refine eb_getR (pc := 19) rfl rfl (by decide) (by decide) rfl (ko_s_MO_2 ko) ?_
      refine eb_iload_n (pc := 22) (n := 1) (i := 1) rfl rfl rfl ?_
      obtain ⟨c4, w⟩ := w
      refine eb_zaload (pc := 23) rfl rfl c4 ?_
      refine eb_if_ne (pc := 24) (tgt := 30) rfl (by decide) (fun c5 => ?_) (fun c5 => ?_)
      · replace w := w.1 c5
        refine eb_iconst (pc := 30) (n := 0) (v := 0) rfl rfl ?_
        refine eb_istore_n (pc := 31) (n := 2) (i := 2) (ls2 := [(2, .int 0), (0, .ref s_MO), (1, .int x1)]) rfl (Nat.le_of_ble_eq_true rfl) rfl rfl ?_
        exact eb_pick [1, 2, 0] rfl w
      · replace w := w.2 c5
        refine eb_bipush (pc := 27) (n := -5) (v := (-5)) rfl rfl ?_
        exact eb_ireturn (pc := 29) rfl rfl rfl w
    · replace c3 := eb_q0.mp c3
      replace w := w.2 c3
      refine eb_bipush (pc := 15) (n := -2) (v := (-2)) rfl rfl ?_
      exact eb_ireturn (pc := 17) rfl rfl rfl w
  refine eb_ctS (pc := 9) (As := [.long x1.toInt64, .long 0, .long 1]) (rest := []) rfl (by decide) (by decide) rfl rfl (Nat.le_of_ble_eq_true rfl) ?_
  refine eb_bodyQ (by decide) ok_X11_within (Nat.le_of_ble_eq_true rfl) ?_
  change eb_Sn _ m_X11_within _ 0 [(0, .long x1.toInt64), (2, .long 0), (4, .long 1)] [] _ _
  refine eb_lload_n (pc := 0) (n := 0) (i := 0) rfl rfl rfl ?_
  refine eb_lload_n (pc := 1) (n := 2) (i := 2) rfl rfl rfl ?_
  refine eb_lcmp (pc := 2) rfl ?_
  refine eb_if_lt (pc := 3) (tgt := 17) rfl (by decide) (fun c1 => ?_) (fun c1 => ?_)
  · replace c1 := eb_lc_lt.mp c1
    refine eb_iconst (pc := 17) (n := 0) (v := 0) rfl rfl ?_
    refine eb_ireturn (pc := 18) rfl rfl (by decide) ?_
    change eb_Sn _ _ _ 12 _ _ _ _
    exact jj6 0 (eb_qf (fun z => z.1 c1)).symm
  · replace c1 := (fun hh => mt eb_lc_lt.mpr hh) c1
    refine eb_lload_n (pc := 6) (n := 0) (i := 0) rfl rfl rfl ?_
    refine eb_lload (pc := 7) (i := 4) rfl rfl ?_
    refine eb_lcmp (pc := 9) rfl ?_
    refine eb_if_gt (pc := 10) (tgt := 17) rfl (by decide) (fun c2 => ?_) (fun c2 => ?_)
    · replace c2 := eb_lc_gt.mp c2
      refine eb_iconst (pc := 17) (n := 0) (v := 0) rfl rfl ?_
      refine eb_ireturn (pc := 18) rfl rfl (by decide) ?_
      change eb_Sn _ _ _ 12 _ _ _ _
      exact jj6 0 (eb_qf (fun z => (fun z => z c2) z.2)).symm
    · replace c2 := (fun hh => mt eb_lc_gt.mpr hh) c2
      refine eb_iconst (pc := 13) (n := 1) (v := 1) rfl rfl ?_
      refine eb_goto (pc := 14) (tgt := 18) rfl (by decide) ?_
      refine eb_ireturn (pc := 18) rfl rfl (by decide) ?_
      change eb_Sn _ _ _ 12 _ _ _ _
      exact jj6 1 (eb_qt (⟨c1, c2⟩)).symm
theorem b_X11_restore_32 {d : Nat} {h0 h : eb_H} {Q : Option Value → eb_H → Prop} (x1 : Int32) (x2 : Int32)  (ko : eb_KO h) (w : (((1164 : Int32) ≤ x2 → Q (some (.int 0)) (eb_sI h s_m_all (52 : Int32).toNatClampNeg 0)) ∧ (¬ ((1164 : Int32) ≤ x2) → (vp_in (((1164 : Int32) * (x1 + 1)) + x2) 3492) ∧ (vp_in x2 3492) ∧ eb_Sn (d + 1) m_X11_restore h0 32 [(0, .ref s_MO), (1, .int x1), (2, .int (x2 + 1))] [] (eb_sI h s_m_all x2.toNatClampNeg (eb_I h s_m_all (((1164 : Int32) * (x1 + 1)) + x2).toNatClampNeg)) Q))) : eb_Sn (d + 1) m_X11_restore h0 32 [(0, .ref s_MO), (1, .int x1), (2, .int x2)] [] h Q := by
  refine eb_iload_n (pc := 32) (n := 2) (i := 2) rfl rfl rfl ?_
  refine eb_sipush (pc := 33) (n := 1164) (v := 1164) rfl rfl ?_
  refine eb_icmp_ge (pc := 36) (tgt := 65) rfl (by decide) (fun c1 => ?_) (fun c1 => ?_)
  · replace w := w.1 c1
    refine eb_aload_n (pc := 65) (n := 0) (i := 0) rfl rfl rfl ?_
    refine eb_getR (pc := 66) rfl rfl (by decide) (by decide) rfl (ko_s_MO_1 ko) ?_
    refine eb_bipush (pc := 69) (n := 52) (v := 52) rfl rfl ?_
    refine eb_iconst (pc := 71) (n := 0) (v := 0) rfl rfl ?_
    refine eb_iastore (pc := 72) rfl rfl (by decide) (by unfold vp_in; decide) ?_
    refine eb_iconst (pc := 73) (n := 0) (v := 0) rfl rfl ?_
    exact eb_ireturn (pc := 74) rfl rfl rfl w
  · replace w := w.2 c1
    refine eb_aload_n (pc := 39) (n := 0) (i := 0) rfl rfl rfl ?_
    refine eb_getR (pc := 40) rfl rfl (by decide) (by decide) rfl (ko_s_MO_1 ko) ?_
    refine eb_iload_n (pc := 43) (n := 2) (i := 2) rfl rfl rfl ?_
    refine eb_aload_n (pc := 44) (n := 0) (i := 0) rfl rfl rfl ?_
    refine eb_getR (pc := 45) rfl rfl (by decide) (by decide) rfl (ko_s_MO_1 ko) ?_
    refine eb_sipush (pc := 48) (n := 1164) (v := 1164) rfl rfl ?_
    refine eb_iload_n (pc := 51) (n := 1) (i := 1) rfl rfl rfl ?_
    refine eb_iconst (pc := 52) (n := 1) (v := 1) rfl rfl ?_
    refine eb_iadd (pc := 53) rfl ?_
    refine eb_imul (pc := 54) rfl ?_
    refine eb_iload_n (pc := 55) (n := 2) (i := 2) rfl rfl rfl ?_
    refine eb_iadd (pc := 56) rfl ?_
    obtain ⟨c2, w⟩ := w
    refine eb_iaload (pc := 57) rfl rfl (by decide) c2 ?_
    obtain ⟨c3, w⟩ := w
    refine eb_iastore (pc := 58) rfl rfl (by decide) c3 ?_
    refine eb_iinc (pc := 59) (i := 2) (n := 1) (v := x2 + 1) (ls2 := [(2, .int (x2 + 1)), (0, .ref s_MO), (1, .int x1)]) (Nat.le_of_ble_eq_true rfl) rfl rfl rfl rfl ?_
    refine eb_goto (pc := 62) (tgt := 32) rfl (by decide) ?_
    exact eb_pick [1, 2, 0] rfl w
theorem T_X11_restore {d : Nat} {h : eb_H} {Q : Option Value → eb_H → Prop} (x1 : Int32)  (ko : eb_KO h) (w : (((¬ (x1.toInt64 < 0)) ∧ (¬ (1 < x1.toInt64)) → (vp_in x1 2) ∧ ((¬ (eb_I (eb_sI h s_MO 0 0) s_m_hasImage x1.toNatClampNeg) = 0 → eb_Sn (d + 1) m_X11_restore h 32 [(0, .ref s_MO), (1, .int x1), (2, .int 0)] [] (eb_sI h s_MO 0 0) Q) ∧ ((eb_I (eb_sI h s_MO 0 0) s_m_hasImage x1.toNatClampNeg) = 0 → Q (some (.int (-5))) (eb_sI h s_MO 0 0)))) ∧ (¬ ((¬ (x1.toInt64 < 0)) ∧ (¬ (1 < x1.toInt64))) → Q (some (.int (-2))) (eb_sI h s_MO 0 0)))) : eb_Ct (d + 1) 281 [.ref s_MO, .int x1] h Q :=
  eb_bodyQ (by decide) ok_X11_restore (Nat.le_of_ble_eq_true rfl) (b_X11_restore_0 (h0 := h) x1  ko w)
theorem b_X11_count_0 {d : Nat} {h0 h : eb_H} {Q : Option Value → eb_H → Prop} (x1 : Int32)  (ko : eb_KO h) (w : ((x1 = 0 → Q (some (.int (eb_I (eb_sI h s_MO 0 0) s_m_all (1 : Int32).toNatClampNeg))) (eb_sI h s_MO 0 0)) ∧ (x1 = 1 → Q (some (.int (eb_I (eb_sI h s_MO 0 0) s_m_all (2 : Int32).toNatClampNeg))) (eb_sI h s_MO 0 0)) ∧ (x1 = 2 → Q (some (.int (eb_I (eb_sI h s_MO 0 0) s_m_all (3 : Int32).toNatClampNeg))) (eb_sI h s_MO 0 0)) ∧ (x1 = 3 → Q (some (.int (eb_I (eb_sI h s_MO 0 0) s_m_all (31 : Int32).toNatClampNeg))) (eb_sI h s_MO 0 0)) ∧ (x1 = 4 → Q (some (.int (eb_I (eb_sI h s_MO 0 0) s_m_all (32 : Int32).toNatClampNeg))) (eb_sI h s_MO 0 0)) ∧ (x1 = 5 → Q (some (.int (eb_I (eb_sI h s_MO 0 0) s_m_all (50 : Int32).toNatClampNeg))) (eb_sI h s_MO 0 0)) ∧ (x1 = 6 → Q (some (.int (eb_I (eb_sI h s_MO 0 0) s_m_all (51 : Int32).toNatClampNeg))) (eb_sI h s_MO 0 0)) ∧ (x1 = 7 → Q (some (.int (eb_I (eb_sI h s_MO 0 0) s_m_all (4 : Int32).toNatClampNeg))) (eb_sI h s_MO 0 0)) ∧ (x1 = 8 → Q (some (.int (eb_I (eb_sI h s_MO 0 0) s_m_all (33 : Int32).toNatClampNeg))) (eb_sI h s_MO 0 0)) ∧ (x1 = 9 → Q (some (.int (eb_I (eb_sI h s_MO 0 0) s_m_all (52 : Int32).toNatClampNeg))) (eb_sI h s_MO 0 0)) ∧ (x1 = 10 → Q (some (.int (eb_I (eb_sI h s_MO 0 0) s_MO 5))) (eb_sI h s_MO 0 0)) ∧ (x1 = 11 → Q (some (.int (eb_I (eb_sI h s_MO 0 0) s_m_all (0 : Int32).toNatClampNeg))) (eb_sI h s_MO 0 0)) ∧ (¬ x1 = 0 → ¬ x1 = 1 → ¬ x1 = 2 → ¬ x1 = 3 → ¬ x1 = 4 → ¬ x1 = 5 → ¬ x1 = 6 → ¬ x1 = 7 → ¬ x1 = 8 → ¬ x1 = 9 → ¬ x1 = 10 → ¬ x1 = 11 → Q (some (.int (-1))) (eb_sI h s_MO 0 0)))) : eb_Sn d m_X11_count h0 0 [(0, .ref s_MO), (1, .int x1)] [] h Q := by
  refine eb_aload_n (pc := 0) (n := 0) (i := 0) rfl rfl rfl ?_
  refine eb_iconst (pc := 1) (n := 0) (v := 0) rfl rfl ?_
  refine eb_putI (pc := 2) rfl rfl (by decide) (by decide) rfl rfl ⟨rfl, rfl⟩ ?_
  refine eb_iload_n (pc := 5) (n := 1) (i := 1) rfl rfl rfl ?_
  by_cases s0 : x1 = 0
  · refine eb_tableIn (pc := 6) (j := 0) (tgt := 68) (by rw [s0]; decide) (by decide) (by rfl) (by decide) rfl ?_
    replace w := w.1 s0
    refine eb_aload_n (pc := 68) (n := 0) (i := 0) rfl rfl rfl ?_
    refine eb_getR (pc := 69) rfl rfl (by decide) (by decide) rfl (ko_s_MO_1 ko) ?_
    refine eb_iconst (pc := 72) (n := 1) (v := 1) rfl rfl ?_
    refine eb_iaload (pc := 73) rfl rfl (by decide) (by unfold vp_in; decide) ?_
    exact eb_ireturn (pc := 74) rfl rfl rfl w
  by_cases s1 : x1 = 1
  · refine eb_tableIn (pc := 6) (j := 1) (tgt := 75) (by rw [s1]; decide) (by decide) (by rfl) (by decide) rfl ?_
    replace w := w.2.1 s1
    refine eb_aload_n (pc := 75) (n := 0) (i := 0) rfl rfl rfl ?_
    refine eb_getR (pc := 76) rfl rfl (by decide) (by decide) rfl (ko_s_MO_1 ko) ?_
    refine eb_iconst (pc := 79) (n := 2) (v := 2) rfl rfl ?_
    refine eb_iaload (pc := 80) rfl rfl (by decide) (by unfold vp_in; decide) ?_
    exact eb_ireturn (pc := 81) rfl rfl rfl w
  by_cases s2 : x1 = 2
  · refine eb_tableIn (pc := 6) (j := 2) (tgt := 82) (by rw [s2]; decide) (by decide) (by rfl) (by decide) rfl ?_
    replace w := w.2.2.1 s2
    refine eb_aload_n (pc := 82) (n := 0) (i := 0) rfl rfl rfl ?_
    refine eb_getR (pc := 83) rfl rfl (by decide) (by decide) rfl (ko_s_MO_1 ko) ?_
    refine eb_iconst (pc := 86) (n := 3) (v := 3) rfl rfl ?_
    refine eb_iaload (pc := 87) rfl rfl (by decide) (by unfold vp_in; decide) ?_
    exact eb_ireturn (pc := 88) rfl rfl rfl w
  by_cases s3 : x1 = 3
  · refine eb_tableIn (pc := 6) (j := 3) (tgt := 89) (by rw [s3]; decide) (by decide) (by rfl) (by decide) rfl ?_
    replace w := w.2.2.2.1 s3
    refine eb_aload_n (pc := 89) (n := 0) (i := 0) rfl rfl rfl ?_
    refine eb_getR (pc := 90) rfl rfl (by decide) (by decide) rfl (ko_s_MO_1 ko) ?_
    refine eb_bipush (pc := 93) (n := 31) (v := 31) rfl rfl ?_
    refine eb_iaload (pc := 95) rfl rfl (by decide) (by unfold vp_in; decide) ?_
    exact eb_ireturn (pc := 96) rfl rfl rfl w
  by_cases s4 : x1 = 4
  · refine eb_tableIn (pc := 6) (j := 4) (tgt := 97) (by rw [s4]; decide) (by decide) (by rfl) (by decide) rfl ?_
    replace w := w.2.2.2.2.1 s4
    refine eb_aload_n (pc := 97) (n := 0) (i := 0) rfl rfl rfl ?_
    refine eb_getR (pc := 98) rfl rfl (by decide) (by decide) rfl (ko_s_MO_1 ko) ?_
    refine eb_bipush (pc := 101) (n := 32) (v := 32) rfl rfl ?_
    refine eb_iaload (pc := 103) rfl rfl (by decide) (by unfold vp_in; decide) ?_
    exact eb_ireturn (pc := 104) rfl rfl rfl w
  by_cases s5 : x1 = 5
  · refine eb_tableIn (pc := 6) (j := 5) (tgt := 105) (by rw [s5]; decide) (by decide) (by rfl) (by decide) rfl ?_
    replace w := w.2.2.2.2.2.1 s5
    refine eb_aload_n (pc := 105) (n := 0) (i := 0) rfl rfl rfl ?_
    refine eb_getR (pc := 106) rfl rfl (by decide) (by decide) rfl (ko_s_MO_1 ko) ?_
    refine eb_bipush (pc := 109) (n := 50) (v := 50) rfl rfl ?_
    refine eb_iaload (pc := 111) rfl rfl (by decide) (by unfold vp_in; decide) ?_
    exact eb_ireturn (pc := 112) rfl rfl rfl w
  by_cases s6 : x1 = 6
  · refine eb_tableIn (pc := 6) (j := 6) (tgt := 113) (by rw [s6]; decide) (by decide) (by rfl) (by decide) rfl ?_
    replace w := w.2.2.2.2.2.2.1 s6
    refine eb_aload_n (pc := 113) (n := 0) (i := 0) rfl rfl rfl ?_
    refine eb_getR (pc := 114) rfl rfl (by decide) (by decide) rfl (ko_s_MO_1 ko) ?_
    refine eb_bipush (pc := 117) (n := 51) (v := 51) rfl rfl ?_
    refine eb_iaload (pc := 119) rfl rfl (by decide) (by unfold vp_in; decide) ?_
    exact eb_ireturn (pc := 120) rfl rfl rfl w
  by_cases s7 : x1 = 7
  · refine eb_tableIn (pc := 6) (j := 7) (tgt := 121) (by rw [s7]; decide) (by decide) (by rfl) (by decide) rfl ?_
    replace w := w.2.2.2.2.2.2.2.1 s7
    refine eb_aload_n (pc := 121) (n := 0) (i := 0) rfl rfl rfl ?_
    refine eb_getR (pc := 122) rfl rfl (by decide) (by decide) rfl (ko_s_MO_1 ko) ?_
    refine eb_iconst (pc := 125) (n := 4) (v := 4) rfl rfl ?_
    refine eb_iaload (pc := 126) rfl rfl (by decide) (by unfold vp_in; decide) ?_
    exact eb_ireturn (pc := 127) rfl rfl rfl w
  by_cases s8 : x1 = 8
  · refine eb_tableIn (pc := 6) (j := 8) (tgt := 128) (by rw [s8]; decide) (by decide) (by rfl) (by decide) rfl ?_
    replace w := w.2.2.2.2.2.2.2.2.1 s8
    refine eb_aload_n (pc := 128) (n := 0) (i := 0) rfl rfl rfl ?_
    refine eb_getR (pc := 129) rfl rfl (by decide) (by decide) rfl (ko_s_MO_1 ko) ?_
    refine eb_bipush (pc := 132) (n := 33) (v := 33) rfl rfl ?_
    refine eb_iaload (pc := 134) rfl rfl (by decide) (by unfold vp_in; decide) ?_
    exact eb_ireturn (pc := 135) rfl rfl rfl w
  by_cases s9 : x1 = 9
  · refine eb_tableIn (pc := 6) (j := 9) (tgt := 136) (by rw [s9]; decide) (by decide) (by rfl) (by decide) rfl ?_
    replace w := w.2.2.2.2.2.2.2.2.2.1 s9
    refine eb_aload_n (pc := 136) (n := 0) (i := 0) rfl rfl rfl ?_
    refine eb_getR (pc := 137) rfl rfl (by decide) (by decide) rfl (ko_s_MO_1 ko) ?_
    refine eb_bipush (pc := 140) (n := 52) (v := 52) rfl rfl ?_
    refine eb_iaload (pc := 142) rfl rfl (by decide) (by unfold vp_in; decide) ?_
    exact eb_ireturn (pc := 143) rfl rfl rfl w
  by_cases s10 : x1 = 10
  · refine eb_tableIn (pc := 6) (j := 10) (tgt := 144) (by rw [s10]; decide) (by decide) (by rfl) (by decide) rfl ?_
    replace w := w.2.2.2.2.2.2.2.2.2.2.1 s10
    refine eb_aload_n (pc := 144) (n := 0) (i := 0) rfl rfl rfl ?_
    refine eb_getI (pc := 145) rfl rfl (by decide) (by decide) rfl ?_
    exact eb_ireturn (pc := 148) rfl rfl rfl w
  by_cases s11 : x1 = 11
  · refine eb_tableIn (pc := 6) (j := 11) (tgt := 149) (by rw [s11]; decide) (by decide) (by rfl) (by decide) rfl ?_
    replace w := w.2.2.2.2.2.2.2.2.2.2.2.1 s11
    refine eb_aload_n (pc := 149) (n := 0) (i := 0) rfl rfl rfl ?_
    refine eb_getR (pc := 150) rfl rfl (by decide) (by decide) rfl (ko_s_MO_1 ko) ?_
    refine eb_iconst (pc := 153) (n := 0) (v := 0) rfl rfl ?_
    refine eb_iaload (pc := 154) rfl rfl (by decide) (by unfold vp_in; decide) ?_
    exact eb_ireturn (pc := 155) rfl rfl rfl w
  refine eb_tableOut (pc := 6) (tgt := 156) (by have z0 := lv_neT (a := 0) s0 (by decide); have z1 := lv_neT (a := 1) s1 (by decide); have z2 := lv_neT (a := 2) s2 (by decide); have z3 := lv_neT (a := 3) s3 (by decide); have z4 := lv_neT (a := 4) s4 (by decide); have z5 := lv_neT (a := 5) s5 (by decide); have z6 := lv_neT (a := 6) s6 (by decide); have z7 := lv_neT (a := 7) s7 (by decide); have z8 := lv_neT (a := 8) s8 (by decide); have z9 := lv_neT (a := 9) s9 (by decide); have z10 := lv_neT (a := 10) s10 (by decide); have z11 := lv_neT (a := 11) s11 (by decide); omega) (by decide) rfl ?_
  replace w := w.2.2.2.2.2.2.2.2.2.2.2.2 s0 s1 s2 s3 s4 s5 s6 s7 s8 s9 s10 s11
  refine eb_iconst (pc := 156) (n := -1) (v := (-1)) rfl rfl ?_
  exact eb_ireturn (pc := 157) rfl rfl rfl w
theorem T_X11_count {d : Nat} {h : eb_H} {Q : Option Value → eb_H → Prop} (x1 : Int32)  (ko : eb_KO h) (w : ((x1 = 0 → Q (some (.int (eb_I (eb_sI h s_MO 0 0) s_m_all (1 : Int32).toNatClampNeg))) (eb_sI h s_MO 0 0)) ∧ (x1 = 1 → Q (some (.int (eb_I (eb_sI h s_MO 0 0) s_m_all (2 : Int32).toNatClampNeg))) (eb_sI h s_MO 0 0)) ∧ (x1 = 2 → Q (some (.int (eb_I (eb_sI h s_MO 0 0) s_m_all (3 : Int32).toNatClampNeg))) (eb_sI h s_MO 0 0)) ∧ (x1 = 3 → Q (some (.int (eb_I (eb_sI h s_MO 0 0) s_m_all (31 : Int32).toNatClampNeg))) (eb_sI h s_MO 0 0)) ∧ (x1 = 4 → Q (some (.int (eb_I (eb_sI h s_MO 0 0) s_m_all (32 : Int32).toNatClampNeg))) (eb_sI h s_MO 0 0)) ∧ (x1 = 5 → Q (some (.int (eb_I (eb_sI h s_MO 0 0) s_m_all (50 : Int32).toNatClampNeg))) (eb_sI h s_MO 0 0)) ∧ (x1 = 6 → Q (some (.int (eb_I (eb_sI h s_MO 0 0) s_m_all (51 : Int32).toNatClampNeg))) (eb_sI h s_MO 0 0)) ∧ (x1 = 7 → Q (some (.int (eb_I (eb_sI h s_MO 0 0) s_m_all (4 : Int32).toNatClampNeg))) (eb_sI h s_MO 0 0)) ∧ (x1 = 8 → Q (some (.int (eb_I (eb_sI h s_MO 0 0) s_m_all (33 : Int32).toNatClampNeg))) (eb_sI h s_MO 0 0)) ∧ (x1 = 9 → Q (some (.int (eb_I (eb_sI h s_MO 0 0) s_m_all (52 : Int32).toNatClampNeg))) (eb_sI h s_MO 0 0)) ∧ (x1 = 10 → Q (some (.int (eb_I (eb_sI h s_MO 0 0) s_MO 5))) (eb_sI h s_MO 0 0)) ∧ (x1 = 11 → Q (some (.int (eb_I (eb_sI h s_MO 0 0) s_m_all (0 : Int32).toNatClampNeg))) (eb_sI h s_MO 0 0)) ∧ (¬ x1 = 0 → ¬ x1 = 1 → ¬ x1 = 2 → ¬ x1 = 3 → ¬ x1 = 4 → ¬ x1 = 5 → ¬ x1 = 6 → ¬ x1 = 7 → ¬ x1 = 8 → ¬ x1 = 9 → ¬ x1 = 10 → ¬ x1 = 11 → Q (some (.int (-1))) (eb_sI h s_MO 0 0)))) : eb_Ct d 282 [.ref s_MO, .int x1] h Q :=
  eb_bodyQ (by decide) ok_X11_count (Nat.le_of_ble_eq_true rfl) (b_X11_count_0 (h0 := h) x1  ko w)
theorem b_J6_bitCount_0f7a4_0 {d : Nat} {h0 h : eb_H} {Q : Option Value → eb_H → Prop} (x0 : Int32)  (ko : eb_KO h) (w : Q (some (.int ((((((((x0 - (((x0.toUInt32 >>> ((1 : Int32).toUInt32 &&& Int32.toUInt32 31)).toInt32) &&& 1431655765)) &&& 858993459) + ((((x0 - (((x0.toUInt32 >>> ((1 : Int32).toUInt32 &&& Int32.toUInt32 31)).toInt32) &&& 1431655765)).toUInt32 >>> ((2 : Int32).toUInt32 &&& Int32.toUInt32 31)).toInt32) &&& 858993459)) + (((((x0 - (((x0.toUInt32 >>> ((1 : Int32).toUInt32 &&& Int32.toUInt32 31)).toInt32) &&& 1431655765)) &&& 858993459) + ((((x0 - (((x0.toUInt32 >>> ((1 : Int32).toUInt32 &&& Int32.toUInt32 31)).toInt32) &&& 1431655765)).toUInt32 >>> ((2 : Int32).toUInt32 &&& Int32.toUInt32 31)).toInt32) &&& 858993459)).toUInt32 >>> ((4 : Int32).toUInt32 &&& Int32.toUInt32 31)).toInt32)) &&& 252645135) + (((((((x0 - (((x0.toUInt32 >>> ((1 : Int32).toUInt32 &&& Int32.toUInt32 31)).toInt32) &&& 1431655765)) &&& 858993459) + ((((x0 - (((x0.toUInt32 >>> ((1 : Int32).toUInt32 &&& Int32.toUInt32 31)).toInt32) &&& 1431655765)).toUInt32 >>> ((2 : Int32).toUInt32 &&& Int32.toUInt32 31)).toInt32) &&& 858993459)) + (((((x0 - (((x0.toUInt32 >>> ((1 : Int32).toUInt32 &&& Int32.toUInt32 31)).toInt32) &&& 1431655765)) &&& 858993459) + ((((x0 - (((x0.toUInt32 >>> ((1 : Int32).toUInt32 &&& Int32.toUInt32 31)).toInt32) &&& 1431655765)).toUInt32 >>> ((2 : Int32).toUInt32 &&& Int32.toUInt32 31)).toInt32) &&& 858993459)).toUInt32 >>> ((4 : Int32).toUInt32 &&& Int32.toUInt32 31)).toInt32)) &&& 252645135).toUInt32 >>> ((8 : Int32).toUInt32 &&& Int32.toUInt32 31)).toInt32)) + ((((((((x0 - (((x0.toUInt32 >>> ((1 : Int32).toUInt32 &&& Int32.toUInt32 31)).toInt32) &&& 1431655765)) &&& 858993459) + ((((x0 - (((x0.toUInt32 >>> ((1 : Int32).toUInt32 &&& Int32.toUInt32 31)).toInt32) &&& 1431655765)).toUInt32 >>> ((2 : Int32).toUInt32 &&& Int32.toUInt32 31)).toInt32) &&& 858993459)) + (((((x0 - (((x0.toUInt32 >>> ((1 : Int32).toUInt32 &&& Int32.toUInt32 31)).toInt32) &&& 1431655765)) &&& 858993459) + ((((x0 - (((x0.toUInt32 >>> ((1 : Int32).toUInt32 &&& Int32.toUInt32 31)).toInt32) &&& 1431655765)).toUInt32 >>> ((2 : Int32).toUInt32 &&& Int32.toUInt32 31)).toInt32) &&& 858993459)).toUInt32 >>> ((4 : Int32).toUInt32 &&& Int32.toUInt32 31)).toInt32)) &&& 252645135) + (((((((x0 - (((x0.toUInt32 >>> ((1 : Int32).toUInt32 &&& Int32.toUInt32 31)).toInt32) &&& 1431655765)) &&& 858993459) + ((((x0 - (((x0.toUInt32 >>> ((1 : Int32).toUInt32 &&& Int32.toUInt32 31)).toInt32) &&& 1431655765)).toUInt32 >>> ((2 : Int32).toUInt32 &&& Int32.toUInt32 31)).toInt32) &&& 858993459)) + (((((x0 - (((x0.toUInt32 >>> ((1 : Int32).toUInt32 &&& Int32.toUInt32 31)).toInt32) &&& 1431655765)) &&& 858993459) + ((((x0 - (((x0.toUInt32 >>> ((1 : Int32).toUInt32 &&& Int32.toUInt32 31)).toInt32) &&& 1431655765)).toUInt32 >>> ((2 : Int32).toUInt32 &&& Int32.toUInt32 31)).toInt32) &&& 858993459)).toUInt32 >>> ((4 : Int32).toUInt32 &&& Int32.toUInt32 31)).toInt32)) &&& 252645135).toUInt32 >>> ((8 : Int32).toUInt32 &&& Int32.toUInt32 31)).toInt32)).toUInt32 >>> ((16 : Int32).toUInt32 &&& Int32.toUInt32 31)).toInt32)) &&& 63))) h) : eb_Sn d m_J6_bitCount_0f7a4 h0 0 [(0, .int x0)] [] h Q := by
  refine eb_iload_n (pc := 0) (n := 0) (i := 0) rfl rfl rfl ?_
  refine eb_iload_n (pc := 1) (n := 0) (i := 0) rfl rfl rfl ?_
  refine eb_iconst (pc := 2) (n := 1) (v := 1) rfl rfl ?_
  refine eb_iushr (pc := 3) rfl ?_
  refine eb_ldcw (pc := 4) (a := 1431655765) (v := 1431655765) rfl (by decide) ?_
  refine eb_iand (pc := 7) rfl ?_
  refine eb_isub (pc := 8) rfl ?_
  refine eb_istore_n (pc := 9) (n := 0) (i := 0) (ls2 := [(0, .int (x0 - (((x0.toUInt32 >>> ((1 : Int32).toUInt32 &&& Int32.toUInt32 31)).toInt32) &&& 1431655765)))]) rfl (Nat.le_of_ble_eq_true rfl) rfl rfl ?_
  refine eb_iload_n (pc := 10) (n := 0) (i := 0) rfl rfl rfl ?_
  refine eb_ldcw (pc := 11) (a := 858993459) (v := 858993459) rfl (by decide) ?_
  refine eb_iand (pc := 14) rfl ?_
  refine eb_iload_n (pc := 15) (n := 0) (i := 0) rfl rfl rfl ?_
  refine eb_iconst (pc := 16) (n := 2) (v := 2) rfl rfl ?_
  refine eb_iushr (pc := 17) rfl ?_
  refine eb_ldcw (pc := 18) (a := 858993459) (v := 858993459) rfl (by decide) ?_
  refine eb_iand (pc := 21) rfl ?_
  refine eb_iadd (pc := 22) rfl ?_
  refine eb_istore_n (pc := 23) (n := 0) (i := 0) (ls2 := [(0, .int (((x0 - (((x0.toUInt32 >>> ((1 : Int32).toUInt32 &&& Int32.toUInt32 31)).toInt32) &&& 1431655765)) &&& 858993459) + ((((x0 - (((x0.toUInt32 >>> ((1 : Int32).toUInt32 &&& Int32.toUInt32 31)).toInt32) &&& 1431655765)).toUInt32 >>> ((2 : Int32).toUInt32 &&& Int32.toUInt32 31)).toInt32) &&& 858993459)))]) rfl (Nat.le_of_ble_eq_true rfl) rfl rfl ?_
  refine eb_iload_n (pc := 24) (n := 0) (i := 0) rfl rfl rfl ?_
  refine eb_iload_n (pc := 25) (n := 0) (i := 0) rfl rfl rfl ?_
  refine eb_iconst (pc := 26) (n := 4) (v := 4) rfl rfl ?_
  refine eb_iushr (pc := 27) rfl ?_
  refine eb_iadd (pc := 28) rfl ?_
  refine eb_ldcw (pc := 29) (a := 252645135) (v := 252645135) rfl (by decide) ?_
  refine eb_iand (pc := 32) rfl ?_
  refine eb_istore_n (pc := 33) (n := 0) (i := 0) (ls2 := [(0, .int (((((x0 - (((x0.toUInt32 >>> ((1 : Int32).toUInt32 &&& Int32.toUInt32 31)).toInt32) &&& 1431655765)) &&& 858993459) + ((((x0 - (((x0.toUInt32 >>> ((1 : Int32).toUInt32 &&& Int32.toUInt32 31)).toInt32) &&& 1431655765)).toUInt32 >>> ((2 : Int32).toUInt32 &&& Int32.toUInt32 31)).toInt32) &&& 858993459)) + (((((x0 - (((x0.toUInt32 >>> ((1 : Int32).toUInt32 &&& Int32.toUInt32 31)).toInt32) &&& 1431655765)) &&& 858993459) + ((((x0 - (((x0.toUInt32 >>> ((1 : Int32).toUInt32 &&& Int32.toUInt32 31)).toInt32) &&& 1431655765)).toUInt32 >>> ((2 : Int32).toUInt32 &&& Int32.toUInt32 31)).toInt32) &&& 858993459)).toUInt32 >>> ((4 : Int32).toUInt32 &&& Int32.toUInt32 31)).toInt32)) &&& 252645135))]) rfl (Nat.le_of_ble_eq_true rfl) rfl rfl ?_
  refine eb_iload_n (pc := 34) (n := 0) (i := 0) rfl rfl rfl ?_
  refine eb_iload_n (pc := 35) (n := 0) (i := 0) rfl rfl rfl ?_
  refine eb_bipush (pc := 36) (n := 8) (v := 8) rfl rfl ?_
  refine eb_iushr (pc := 38) rfl ?_
  refine eb_iadd (pc := 39) rfl ?_
  refine eb_istore_n (pc := 40) (n := 0) (i := 0) (ls2 := [(0, .int ((((((x0 - (((x0.toUInt32 >>> ((1 : Int32).toUInt32 &&& Int32.toUInt32 31)).toInt32) &&& 1431655765)) &&& 858993459) + ((((x0 - (((x0.toUInt32 >>> ((1 : Int32).toUInt32 &&& Int32.toUInt32 31)).toInt32) &&& 1431655765)).toUInt32 >>> ((2 : Int32).toUInt32 &&& Int32.toUInt32 31)).toInt32) &&& 858993459)) + (((((x0 - (((x0.toUInt32 >>> ((1 : Int32).toUInt32 &&& Int32.toUInt32 31)).toInt32) &&& 1431655765)) &&& 858993459) + ((((x0 - (((x0.toUInt32 >>> ((1 : Int32).toUInt32 &&& Int32.toUInt32 31)).toInt32) &&& 1431655765)).toUInt32 >>> ((2 : Int32).toUInt32 &&& Int32.toUInt32 31)).toInt32) &&& 858993459)).toUInt32 >>> ((4 : Int32).toUInt32 &&& Int32.toUInt32 31)).toInt32)) &&& 252645135) + (((((((x0 - (((x0.toUInt32 >>> ((1 : Int32).toUInt32 &&& Int32.toUInt32 31)).toInt32) &&& 1431655765)) &&& 858993459) + ((((x0 - (((x0.toUInt32 >>> ((1 : Int32).toUInt32 &&& Int32.toUInt32 31)).toInt32) &&& 1431655765)).toUInt32 >>> ((2 : Int32).toUInt32 &&& Int32.toUInt32 31)).toInt32) &&& 858993459)) + (((((x0 - (((x0.toUInt32 >>> ((1 : Int32).toUInt32 &&& Int32.toUInt32 31)).toInt32) &&& 1431655765)) &&& 858993459) + ((((x0 - (((x0.toUInt32 >>> ((1 : Int32).toUInt32 &&& Int32.toUInt32 31)).toInt32) &&& 1431655765)).toUInt32 >>> ((2 : Int32).toUInt32 &&& Int32.toUInt32 31)).toInt32) &&& 858993459)).toUInt32 >>> ((4 : Int32).toUInt32 &&& Int32.toUInt32 31)).toInt32)) &&& 252645135).toUInt32 >>> ((8 : Int32).toUInt32 &&& Int32.toUInt32 31)).toInt32)))]) rfl (Nat.le_of_ble_eq_true rfl) rfl rfl ?_
  refine eb_iload_n (pc := 41) (n := 0) (i := 0) rfl rfl rfl ?_
  refine eb_iload_n (pc := 42) (n := 0) (i := 0) rfl rfl rfl ?_
  refine eb_bipush (pc := 43) (n := 16) (v := 16) rfl rfl ?_
  refine eb_iushr (pc := 45) rfl ?_
  refine eb_iadd (pc := 46) rfl ?_
  refine eb_istore_n (pc := 47) (n := 0) (i := 0) (ls2 := [(0, .int (((((((x0 - (((x0.toUInt32 >>> ((1 : Int32).toUInt32 &&& Int32.toUInt32 31)).toInt32) &&& 1431655765)) &&& 858993459) + ((((x0 - (((x0.toUInt32 >>> ((1 : Int32).toUInt32 &&& Int32.toUInt32 31)).toInt32) &&& 1431655765)).toUInt32 >>> ((2 : Int32).toUInt32 &&& Int32.toUInt32 31)).toInt32) &&& 858993459)) + (((((x0 - (((x0.toUInt32 >>> ((1 : Int32).toUInt32 &&& Int32.toUInt32 31)).toInt32) &&& 1431655765)) &&& 858993459) + ((((x0 - (((x0.toUInt32 >>> ((1 : Int32).toUInt32 &&& Int32.toUInt32 31)).toInt32) &&& 1431655765)).toUInt32 >>> ((2 : Int32).toUInt32 &&& Int32.toUInt32 31)).toInt32) &&& 858993459)).toUInt32 >>> ((4 : Int32).toUInt32 &&& Int32.toUInt32 31)).toInt32)) &&& 252645135) + (((((((x0 - (((x0.toUInt32 >>> ((1 : Int32).toUInt32 &&& Int32.toUInt32 31)).toInt32) &&& 1431655765)) &&& 858993459) + ((((x0 - (((x0.toUInt32 >>> ((1 : Int32).toUInt32 &&& Int32.toUInt32 31)).toInt32) &&& 1431655765)).toUInt32 >>> ((2 : Int32).toUInt32 &&& Int32.toUInt32 31)).toInt32) &&& 858993459)) + (((((x0 - (((x0.toUInt32 >>> ((1 : Int32).toUInt32 &&& Int32.toUInt32 31)).toInt32) &&& 1431655765)) &&& 858993459) + ((((x0 - (((x0.toUInt32 >>> ((1 : Int32).toUInt32 &&& Int32.toUInt32 31)).toInt32) &&& 1431655765)).toUInt32 >>> ((2 : Int32).toUInt32 &&& Int32.toUInt32 31)).toInt32) &&& 858993459)).toUInt32 >>> ((4 : Int32).toUInt32 &&& Int32.toUInt32 31)).toInt32)) &&& 252645135).toUInt32 >>> ((8 : Int32).toUInt32 &&& Int32.toUInt32 31)).toInt32)) + ((((((((x0 - (((x0.toUInt32 >>> ((1 : Int32).toUInt32 &&& Int32.toUInt32 31)).toInt32) &&& 1431655765)) &&& 858993459) + ((((x0 - (((x0.toUInt32 >>> ((1 : Int32).toUInt32 &&& Int32.toUInt32 31)).toInt32) &&& 1431655765)).toUInt32 >>> ((2 : Int32).toUInt32 &&& Int32.toUInt32 31)).toInt32) &&& 858993459)) + (((((x0 - (((x0.toUInt32 >>> ((1 : Int32).toUInt32 &&& Int32.toUInt32 31)).toInt32) &&& 1431655765)) &&& 858993459) + ((((x0 - (((x0.toUInt32 >>> ((1 : Int32).toUInt32 &&& Int32.toUInt32 31)).toInt32) &&& 1431655765)).toUInt32 >>> ((2 : Int32).toUInt32 &&& Int32.toUInt32 31)).toInt32) &&& 858993459)).toUInt32 >>> ((4 : Int32).toUInt32 &&& Int32.toUInt32 31)).toInt32)) &&& 252645135) + (((((((x0 - (((x0.toUInt32 >>> ((1 : Int32).toUInt32 &&& Int32.toUInt32 31)).toInt32) &&& 1431655765)) &&& 858993459) + ((((x0 - (((x0.toUInt32 >>> ((1 : Int32).toUInt32 &&& Int32.toUInt32 31)).toInt32) &&& 1431655765)).toUInt32 >>> ((2 : Int32).toUInt32 &&& Int32.toUInt32 31)).toInt32) &&& 858993459)) + (((((x0 - (((x0.toUInt32 >>> ((1 : Int32).toUInt32 &&& Int32.toUInt32 31)).toInt32) &&& 1431655765)) &&& 858993459) + ((((x0 - (((x0.toUInt32 >>> ((1 : Int32).toUInt32 &&& Int32.toUInt32 31)).toInt32) &&& 1431655765)).toUInt32 >>> ((2 : Int32).toUInt32 &&& Int32.toUInt32 31)).toInt32) &&& 858993459)).toUInt32 >>> ((4 : Int32).toUInt32 &&& Int32.toUInt32 31)).toInt32)) &&& 252645135).toUInt32 >>> ((8 : Int32).toUInt32 &&& Int32.toUInt32 31)).toInt32)).toUInt32 >>> ((16 : Int32).toUInt32 &&& Int32.toUInt32 31)).toInt32)))]) rfl (Nat.le_of_ble_eq_true rfl) rfl rfl ?_
  refine eb_iload_n (pc := 48) (n := 0) (i := 0) rfl rfl rfl ?_
  refine eb_bipush (pc := 49) (n := 63) (v := 63) rfl rfl ?_
  refine eb_iand (pc := 51) rfl ?_
  exact eb_ireturn (pc := 52) rfl rfl rfl w
theorem T_J6_bitCount_0f7a4 {d : Nat} {h : eb_H} {Q : Option Value → eb_H → Prop} (x0 : Int32)  (ko : eb_KO h) (w : Q (some (.int ((((((((x0 - (((x0.toUInt32 >>> ((1 : Int32).toUInt32 &&& Int32.toUInt32 31)).toInt32) &&& 1431655765)) &&& 858993459) + ((((x0 - (((x0.toUInt32 >>> ((1 : Int32).toUInt32 &&& Int32.toUInt32 31)).toInt32) &&& 1431655765)).toUInt32 >>> ((2 : Int32).toUInt32 &&& Int32.toUInt32 31)).toInt32) &&& 858993459)) + (((((x0 - (((x0.toUInt32 >>> ((1 : Int32).toUInt32 &&& Int32.toUInt32 31)).toInt32) &&& 1431655765)) &&& 858993459) + ((((x0 - (((x0.toUInt32 >>> ((1 : Int32).toUInt32 &&& Int32.toUInt32 31)).toInt32) &&& 1431655765)).toUInt32 >>> ((2 : Int32).toUInt32 &&& Int32.toUInt32 31)).toInt32) &&& 858993459)).toUInt32 >>> ((4 : Int32).toUInt32 &&& Int32.toUInt32 31)).toInt32)) &&& 252645135) + (((((((x0 - (((x0.toUInt32 >>> ((1 : Int32).toUInt32 &&& Int32.toUInt32 31)).toInt32) &&& 1431655765)) &&& 858993459) + ((((x0 - (((x0.toUInt32 >>> ((1 : Int32).toUInt32 &&& Int32.toUInt32 31)).toInt32) &&& 1431655765)).toUInt32 >>> ((2 : Int32).toUInt32 &&& Int32.toUInt32 31)).toInt32) &&& 858993459)) + (((((x0 - (((x0.toUInt32 >>> ((1 : Int32).toUInt32 &&& Int32.toUInt32 31)).toInt32) &&& 1431655765)) &&& 858993459) + ((((x0 - (((x0.toUInt32 >>> ((1 : Int32).toUInt32 &&& Int32.toUInt32 31)).toInt32) &&& 1431655765)).toUInt32 >>> ((2 : Int32).toUInt32 &&& Int32.toUInt32 31)).toInt32) &&& 858993459)).toUInt32 >>> ((4 : Int32).toUInt32 &&& Int32.toUInt32 31)).toInt32)) &&& 252645135).toUInt32 >>> ((8 : Int32).toUInt32 &&& Int32.toUInt32 31)).toInt32)) + ((((((((x0 - (((x0.toUInt32 >>> ((1 : Int32).toUInt32 &&& Int32.toUInt32 31)).toInt32) &&& 1431655765)) &&& 858993459) + ((((x0 - (((x0.toUInt32 >>> ((1 : Int32).toUInt32 &&& Int32.toUInt32 31)).toInt32) &&& 1431655765)).toUInt32 >>> ((2 : Int32).toUInt32 &&& Int32.toUInt32 31)).toInt32) &&& 858993459)) + (((((x0 - (((x0.toUInt32 >>> ((1 : Int32).toUInt32 &&& Int32.toUInt32 31)).toInt32) &&& 1431655765)) &&& 858993459) + ((((x0 - (((x0.toUInt32 >>> ((1 : Int32).toUInt32 &&& Int32.toUInt32 31)).toInt32) &&& 1431655765)).toUInt32 >>> ((2 : Int32).toUInt32 &&& Int32.toUInt32 31)).toInt32) &&& 858993459)).toUInt32 >>> ((4 : Int32).toUInt32 &&& Int32.toUInt32 31)).toInt32)) &&& 252645135) + (((((((x0 - (((x0.toUInt32 >>> ((1 : Int32).toUInt32 &&& Int32.toUInt32 31)).toInt32) &&& 1431655765)) &&& 858993459) + ((((x0 - (((x0.toUInt32 >>> ((1 : Int32).toUInt32 &&& Int32.toUInt32 31)).toInt32) &&& 1431655765)).toUInt32 >>> ((2 : Int32).toUInt32 &&& Int32.toUInt32 31)).toInt32) &&& 858993459)) + (((((x0 - (((x0.toUInt32 >>> ((1 : Int32).toUInt32 &&& Int32.toUInt32 31)).toInt32) &&& 1431655765)) &&& 858993459) + ((((x0 - (((x0.toUInt32 >>> ((1 : Int32).toUInt32 &&& Int32.toUInt32 31)).toInt32) &&& 1431655765)).toUInt32 >>> ((2 : Int32).toUInt32 &&& Int32.toUInt32 31)).toInt32) &&& 858993459)).toUInt32 >>> ((4 : Int32).toUInt32 &&& Int32.toUInt32 31)).toInt32)) &&& 252645135).toUInt32 >>> ((8 : Int32).toUInt32 &&& Int32.toUInt32 31)).toInt32)).toUInt32 >>> ((16 : Int32).toUInt32 &&& Int32.toUInt32 31)).toInt32)) &&& 63))) h) : eb_Ct d 283 [.int x0] h Q :=
  eb_bodyQ (by decide) ok_J6_bitCount_0f7a4 (Nat.le_of_ble_eq_true rfl) (b_J6_bitCount_0f7a4_0 (h0 := h) x0  ko w)
theorem b_J13_bitCount_95d88_0 {d : Nat} {h0 h : eb_H} {Q : Option Value → eb_H → Prop} (x0 : Int64)  (ko : eb_KO h) (w : Q (some (.int ((((((((((x0 - (((x0.toUInt64 >>> ((1 : Int32).toInt64.toUInt64 &&& Int64.toUInt64 63)).toInt64) &&& 6148914691236517205)) &&& 3689348814741910323) + ((((x0 - (((x0.toUInt64 >>> ((1 : Int32).toInt64.toUInt64 &&& Int64.toUInt64 63)).toInt64) &&& 6148914691236517205)).toUInt64 >>> ((2 : Int32).toInt64.toUInt64 &&& Int64.toUInt64 63)).toInt64) &&& 3689348814741910323)) + (((((x0 - (((x0.toUInt64 >>> ((1 : Int32).toInt64.toUInt64 &&& Int64.toUInt64 63)).toInt64) &&& 6148914691236517205)) &&& 3689348814741910323) + ((((x0 - (((x0.toUInt64 >>> ((1 : Int32).toInt64.toUInt64 &&& Int64.toUInt64 63)).toInt64) &&& 6148914691236517205)).toUInt64 >>> ((2 : Int32).toInt64.toUInt64 &&& Int64.toUInt64 63)).toInt64) &&& 3689348814741910323)).toUInt64 >>> ((4 : Int32).toInt64.toUInt64 &&& Int64.toUInt64 63)).toInt64)) &&& 1085102592571150095) + (((((((x0 - (((x0.toUInt64 >>> ((1 : Int32).toInt64.toUInt64 &&& Int64.toUInt64 63)).toInt64) &&& 6148914691236517205)) &&& 3689348814741910323) + ((((x0 - (((x0.toUInt64 >>> ((1 : Int32).toInt64.toUInt64 &&& Int64.toUInt64 63)).toInt64) &&& 6148914691236517205)).toUInt64 >>> ((2 : Int32).toInt64.toUInt64 &&& Int64.toUInt64 63)).toInt64) &&& 3689348814741910323)) + (((((x0 - (((x0.toUInt64 >>> ((1 : Int32).toInt64.toUInt64 &&& Int64.toUInt64 63)).toInt64) &&& 6148914691236517205)) &&& 3689348814741910323) + ((((x0 - (((x0.toUInt64 >>> ((1 : Int32).toInt64.toUInt64 &&& Int64.toUInt64 63)).toInt64) &&& 6148914691236517205)).toUInt64 >>> ((2 : Int32).toInt64.toUInt64 &&& Int64.toUInt64 63)).toInt64) &&& 3689348814741910323)).toUInt64 >>> ((4 : Int32).toInt64.toUInt64 &&& Int64.toUInt64 63)).toInt64)) &&& 1085102592571150095).toUInt64 >>> ((8 : Int32).toInt64.toUInt64 &&& Int64.toUInt64 63)).toInt64)) + ((((((((x0 - (((x0.toUInt64 >>> ((1 : Int32).toInt64.toUInt64 &&& Int64.toUInt64 63)).toInt64) &&& 6148914691236517205)) &&& 3689348814741910323) + ((((x0 - (((x0.toUInt64 >>> ((1 : Int32).toInt64.toUInt64 &&& Int64.toUInt64 63)).toInt64) &&& 6148914691236517205)).toUInt64 >>> ((2 : Int32).toInt64.toUInt64 &&& Int64.toUInt64 63)).toInt64) &&& 3689348814741910323)) + (((((x0 - (((x0.toUInt64 >>> ((1 : Int32).toInt64.toUInt64 &&& Int64.toUInt64 63)).toInt64) &&& 6148914691236517205)) &&& 3689348814741910323) + ((((x0 - (((x0.toUInt64 >>> ((1 : Int32).toInt64.toUInt64 &&& Int64.toUInt64 63)).toInt64) &&& 6148914691236517205)).toUInt64 >>> ((2 : Int32).toInt64.toUInt64 &&& Int64.toUInt64 63)).toInt64) &&& 3689348814741910323)).toUInt64 >>> ((4 : Int32).toInt64.toUInt64 &&& Int64.toUInt64 63)).toInt64)) &&& 1085102592571150095) + (((((((x0 - (((x0.toUInt64 >>> ((1 : Int32).toInt64.toUInt64 &&& Int64.toUInt64 63)).toInt64) &&& 6148914691236517205)) &&& 3689348814741910323) + ((((x0 - (((x0.toUInt64 >>> ((1 : Int32).toInt64.toUInt64 &&& Int64.toUInt64 63)).toInt64) &&& 6148914691236517205)).toUInt64 >>> ((2 : Int32).toInt64.toUInt64 &&& Int64.toUInt64 63)).toInt64) &&& 3689348814741910323)) + (((((x0 - (((x0.toUInt64 >>> ((1 : Int32).toInt64.toUInt64 &&& Int64.toUInt64 63)).toInt64) &&& 6148914691236517205)) &&& 3689348814741910323) + ((((x0 - (((x0.toUInt64 >>> ((1 : Int32).toInt64.toUInt64 &&& Int64.toUInt64 63)).toInt64) &&& 6148914691236517205)).toUInt64 >>> ((2 : Int32).toInt64.toUInt64 &&& Int64.toUInt64 63)).toInt64) &&& 3689348814741910323)).toUInt64 >>> ((4 : Int32).toInt64.toUInt64 &&& Int64.toUInt64 63)).toInt64)) &&& 1085102592571150095).toUInt64 >>> ((8 : Int32).toInt64.toUInt64 &&& Int64.toUInt64 63)).toInt64)).toUInt64 >>> ((16 : Int32).toInt64.toUInt64 &&& Int64.toUInt64 63)).toInt64)) + (((((((((x0 - (((x0.toUInt64 >>> ((1 : Int32).toInt64.toUInt64 &&& Int64.toUInt64 63)).toInt64) &&& 6148914691236517205)) &&& 3689348814741910323) + ((((x0 - (((x0.toUInt64 >>> ((1 : Int32).toInt64.toUInt64 &&& Int64.toUInt64 63)).toInt64) &&& 6148914691236517205)).toUInt64 >>> ((2 : Int32).toInt64.toUInt64 &&& Int64.toUInt64 63)).toInt64) &&& 3689348814741910323)) + (((((x0 - (((x0.toUInt64 >>> ((1 : Int32).toInt64.toUInt64 &&& Int64.toUInt64 63)).toInt64) &&& 6148914691236517205)) &&& 3689348814741910323) + ((((x0 - (((x0.toUInt64 >>> ((1 : Int32).toInt64.toUInt64 &&& Int64.toUInt64 63)).toInt64) &&& 6148914691236517205)).toUInt64 >>> ((2 : Int32).toInt64.toUInt64 &&& Int64.toUInt64 63)).toInt64) &&& 3689348814741910323)).toUInt64 >>> ((4 : Int32).toInt64.toUInt64 &&& Int64.toUInt64 63)).toInt64)) &&& 1085102592571150095) + (((((((x0 - (((x0.toUInt64 >>> ((1 : Int32).toInt64.toUInt64 &&& Int64.toUInt64 63)).toInt64) &&& 6148914691236517205)) &&& 3689348814741910323) + ((((x0 - (((x0.toUInt64 >>> ((1 : Int32).toInt64.toUInt64 &&& Int64.toUInt64 63)).toInt64) &&& 6148914691236517205)).toUInt64 >>> ((2 : Int32).toInt64.toUInt64 &&& Int64.toUInt64 63)).toInt64) &&& 3689348814741910323)) + (((((x0 - (((x0.toUInt64 >>> ((1 : Int32).toInt64.toUInt64 &&& Int64.toUInt64 63)).toInt64) &&& 6148914691236517205)) &&& 3689348814741910323) + ((((x0 - (((x0.toUInt64 >>> ((1 : Int32).toInt64.toUInt64 &&& Int64.toUInt64 63)).toInt64) &&& 6148914691236517205)).toUInt64 >>> ((2 : Int32).toInt64.toUInt64 &&& Int64.toUInt64 63)).toInt64) &&& 3689348814741910323)).toUInt64 >>> ((4 : Int32).toInt64.toUInt64 &&& Int64.toUInt64 63)).toInt64)) &&& 1085102592571150095).toUInt64 >>> ((8 : Int32).toInt64.toUInt64 &&& Int64.toUInt64 63)).toInt64)) + ((((((((x0 - (((x0.toUInt64 >>> ((1 : Int32).toInt64.toUInt64 &&& Int64.toUInt64 63)).toInt64) &&& 6148914691236517205)) &&& 3689348814741910323) + ((((x0 - (((x0.toUInt64 >>> ((1 : Int32).toInt64.toUInt64 &&& Int64.toUInt64 63)).toInt64) &&& 6148914691236517205)).toUInt64 >>> ((2 : Int32).toInt64.toUInt64 &&& Int64.toUInt64 63)).toInt64) &&& 3689348814741910323)) + (((((x0 - (((x0.toUInt64 >>> ((1 : Int32).toInt64.toUInt64 &&& Int64.toUInt64 63)).toInt64) &&& 6148914691236517205)) &&& 3689348814741910323) + ((((x0 - (((x0.toUInt64 >>> ((1 : Int32).toInt64.toUInt64 &&& Int64.toUInt64 63)).toInt64) &&& 6148914691236517205)).toUInt64 >>> ((2 : Int32).toInt64.toUInt64 &&& Int64.toUInt64 63)).toInt64) &&& 3689348814741910323)).toUInt64 >>> ((4 : Int32).toInt64.toUInt64 &&& Int64.toUInt64 63)).toInt64)) &&& 1085102592571150095) + (((((((x0 - (((x0.toUInt64 >>> ((1 : Int32).toInt64.toUInt64 &&& Int64.toUInt64 63)).toInt64) &&& 6148914691236517205)) &&& 3689348814741910323) + ((((x0 - (((x0.toUInt64 >>> ((1 : Int32).toInt64.toUInt64 &&& Int64.toUInt64 63)).toInt64) &&& 6148914691236517205)).toUInt64 >>> ((2 : Int32).toInt64.toUInt64 &&& Int64.toUInt64 63)).toInt64) &&& 3689348814741910323)) + (((((x0 - (((x0.toUInt64 >>> ((1 : Int32).toInt64.toUInt64 &&& Int64.toUInt64 63)).toInt64) &&& 6148914691236517205)) &&& 3689348814741910323) + ((((x0 - (((x0.toUInt64 >>> ((1 : Int32).toInt64.toUInt64 &&& Int64.toUInt64 63)).toInt64) &&& 6148914691236517205)).toUInt64 >>> ((2 : Int32).toInt64.toUInt64 &&& Int64.toUInt64 63)).toInt64) &&& 3689348814741910323)).toUInt64 >>> ((4 : Int32).toInt64.toUInt64 &&& Int64.toUInt64 63)).toInt64)) &&& 1085102592571150095).toUInt64 >>> ((8 : Int32).toInt64.toUInt64 &&& Int64.toUInt64 63)).toInt64)).toUInt64 >>> ((16 : Int32).toInt64.toUInt64 &&& Int64.toUInt64 63)).toInt64)).toUInt64 >>> ((32 : Int32).toInt64.toUInt64 &&& Int64.toUInt64 63)).toInt64)).toInt32) &&& 127))) h) : eb_Sn d m_J13_bitCount_95d88 h0 0 [(0, .long x0)] [] h Q := by
  refine eb_lload_n (pc := 0) (n := 0) (i := 0) rfl rfl rfl ?_
  refine eb_lload_n (pc := 1) (n := 0) (i := 0) rfl rfl rfl ?_
  refine eb_iconst (pc := 2) (n := 1) (v := 1) rfl rfl ?_
  refine eb_lushr (pc := 3) rfl ?_
  refine eb_ldc2 (pc := 4) (a := 6148914691236517205) (v := 6148914691236517205) rfl (by decide) ?_
  refine eb_land (pc := 7) rfl ?_
  refine eb_lsub (pc := 8) rfl ?_
  refine eb_lstore_n (pc := 9) (n := 0) (i := 0) (ls2 := [(0, .long (x0 - (((x0.toUInt64 >>> ((1 : Int32).toInt64.toUInt64 &&& Int64.toUInt64 63)).toInt64) &&& 6148914691236517205)))]) rfl (Nat.le_of_ble_eq_true rfl) rfl rfl ?_
  refine eb_lload_n (pc := 10) (n := 0) (i := 0) rfl rfl rfl ?_
  refine eb_ldc2 (pc := 11) (a := 3689348814741910323) (v := 3689348814741910323) rfl (by decide) ?_
  refine eb_land (pc := 14) rfl ?_
  refine eb_lload_n (pc := 15) (n := 0) (i := 0) rfl rfl rfl ?_
  refine eb_iconst (pc := 16) (n := 2) (v := 2) rfl rfl ?_
  refine eb_lushr (pc := 17) rfl ?_
  refine eb_ldc2 (pc := 18) (a := 3689348814741910323) (v := 3689348814741910323) rfl (by decide) ?_
  refine eb_land (pc := 21) rfl ?_
  refine eb_ladd (pc := 22) rfl ?_
  refine eb_lstore_n (pc := 23) (n := 0) (i := 0) (ls2 := [(0, .long (((x0 - (((x0.toUInt64 >>> ((1 : Int32).toInt64.toUInt64 &&& Int64.toUInt64 63)).toInt64) &&& 6148914691236517205)) &&& 3689348814741910323) + ((((x0 - (((x0.toUInt64 >>> ((1 : Int32).toInt64.toUInt64 &&& Int64.toUInt64 63)).toInt64) &&& 6148914691236517205)).toUInt64 >>> ((2 : Int32).toInt64.toUInt64 &&& Int64.toUInt64 63)).toInt64) &&& 3689348814741910323)))]) rfl (Nat.le_of_ble_eq_true rfl) rfl rfl ?_
  refine eb_lload_n (pc := 24) (n := 0) (i := 0) rfl rfl rfl ?_
  refine eb_lload_n (pc := 25) (n := 0) (i := 0) rfl rfl rfl ?_
  refine eb_iconst (pc := 26) (n := 4) (v := 4) rfl rfl ?_
  refine eb_lushr (pc := 27) rfl ?_
  refine eb_ladd (pc := 28) rfl ?_
  refine eb_ldc2 (pc := 29) (a := 1085102592571150095) (v := 1085102592571150095) rfl (by decide) ?_
  refine eb_land (pc := 32) rfl ?_
  refine eb_lstore_n (pc := 33) (n := 0) (i := 0) (ls2 := [(0, .long (((((x0 - (((x0.toUInt64 >>> ((1 : Int32).toInt64.toUInt64 &&& Int64.toUInt64 63)).toInt64) &&& 6148914691236517205)) &&& 3689348814741910323) + ((((x0 - (((x0.toUInt64 >>> ((1 : Int32).toInt64.toUInt64 &&& Int64.toUInt64 63)).toInt64) &&& 6148914691236517205)).toUInt64 >>> ((2 : Int32).toInt64.toUInt64 &&& Int64.toUInt64 63)).toInt64) &&& 3689348814741910323)) + (((((x0 - (((x0.toUInt64 >>> ((1 : Int32).toInt64.toUInt64 &&& Int64.toUInt64 63)).toInt64) &&& 6148914691236517205)) &&& 3689348814741910323) + ((((x0 - (((x0.toUInt64 >>> ((1 : Int32).toInt64.toUInt64 &&& Int64.toUInt64 63)).toInt64) &&& 6148914691236517205)).toUInt64 >>> ((2 : Int32).toInt64.toUInt64 &&& Int64.toUInt64 63)).toInt64) &&& 3689348814741910323)).toUInt64 >>> ((4 : Int32).toInt64.toUInt64 &&& Int64.toUInt64 63)).toInt64)) &&& 1085102592571150095))]) rfl (Nat.le_of_ble_eq_true rfl) rfl rfl ?_
  refine eb_lload_n (pc := 34) (n := 0) (i := 0) rfl rfl rfl ?_
  refine eb_lload_n (pc := 35) (n := 0) (i := 0) rfl rfl rfl ?_
  refine eb_bipush (pc := 36) (n := 8) (v := 8) rfl rfl ?_
  refine eb_lushr (pc := 38) rfl ?_
  refine eb_ladd (pc := 39) rfl ?_
  refine eb_lstore_n (pc := 40) (n := 0) (i := 0) (ls2 := [(0, .long ((((((x0 - (((x0.toUInt64 >>> ((1 : Int32).toInt64.toUInt64 &&& Int64.toUInt64 63)).toInt64) &&& 6148914691236517205)) &&& 3689348814741910323) + ((((x0 - (((x0.toUInt64 >>> ((1 : Int32).toInt64.toUInt64 &&& Int64.toUInt64 63)).toInt64) &&& 6148914691236517205)).toUInt64 >>> ((2 : Int32).toInt64.toUInt64 &&& Int64.toUInt64 63)).toInt64) &&& 3689348814741910323)) + (((((x0 - (((x0.toUInt64 >>> ((1 : Int32).toInt64.toUInt64 &&& Int64.toUInt64 63)).toInt64) &&& 6148914691236517205)) &&& 3689348814741910323) + ((((x0 - (((x0.toUInt64 >>> ((1 : Int32).toInt64.toUInt64 &&& Int64.toUInt64 63)).toInt64) &&& 6148914691236517205)).toUInt64 >>> ((2 : Int32).toInt64.toUInt64 &&& Int64.toUInt64 63)).toInt64) &&& 3689348814741910323)).toUInt64 >>> ((4 : Int32).toInt64.toUInt64 &&& Int64.toUInt64 63)).toInt64)) &&& 1085102592571150095) + (((((((x0 - (((x0.toUInt64 >>> ((1 : Int32).toInt64.toUInt64 &&& Int64.toUInt64 63)).toInt64) &&& 6148914691236517205)) &&& 3689348814741910323) + ((((x0 - (((x0.toUInt64 >>> ((1 : Int32).toInt64.toUInt64 &&& Int64.toUInt64 63)).toInt64) &&& 6148914691236517205)).toUInt64 >>> ((2 : Int32).toInt64.toUInt64 &&& Int64.toUInt64 63)).toInt64) &&& 3689348814741910323)) + (((((x0 - (((x0.toUInt64 >>> ((1 : Int32).toInt64.toUInt64 &&& Int64.toUInt64 63)).toInt64) &&& 6148914691236517205)) &&& 3689348814741910323) + ((((x0 - (((x0.toUInt64 >>> ((1 : Int32).toInt64.toUInt64 &&& Int64.toUInt64 63)).toInt64) &&& 6148914691236517205)).toUInt64 >>> ((2 : Int32).toInt64.toUInt64 &&& Int64.toUInt64 63)).toInt64) &&& 3689348814741910323)).toUInt64 >>> ((4 : Int32).toInt64.toUInt64 &&& Int64.toUInt64 63)).toInt64)) &&& 1085102592571150095).toUInt64 >>> ((8 : Int32).toInt64.toUInt64 &&& Int64.toUInt64 63)).toInt64)))]) rfl (Nat.le_of_ble_eq_true rfl) rfl rfl ?_
  refine eb_lload_n (pc := 41) (n := 0) (i := 0) rfl rfl rfl ?_
  refine eb_lload_n (pc := 42) (n := 0) (i := 0) rfl rfl rfl ?_
  refine eb_bipush (pc := 43) (n := 16) (v := 16) rfl rfl ?_
  refine eb_lushr (pc := 45) rfl ?_
  refine eb_ladd (pc := 46) rfl ?_
  refine eb_lstore_n (pc := 47) (n := 0) (i := 0) (ls2 := [(0, .long (((((((x0 - (((x0.toUInt64 >>> ((1 : Int32).toInt64.toUInt64 &&& Int64.toUInt64 63)).toInt64) &&& 6148914691236517205)) &&& 3689348814741910323) + ((((x0 - (((x0.toUInt64 >>> ((1 : Int32).toInt64.toUInt64 &&& Int64.toUInt64 63)).toInt64) &&& 6148914691236517205)).toUInt64 >>> ((2 : Int32).toInt64.toUInt64 &&& Int64.toUInt64 63)).toInt64) &&& 3689348814741910323)) + (((((x0 - (((x0.toUInt64 >>> ((1 : Int32).toInt64.toUInt64 &&& Int64.toUInt64 63)).toInt64) &&& 6148914691236517205)) &&& 3689348814741910323) + ((((x0 - (((x0.toUInt64 >>> ((1 : Int32).toInt64.toUInt64 &&& Int64.toUInt64 63)).toInt64) &&& 6148914691236517205)).toUInt64 >>> ((2 : Int32).toInt64.toUInt64 &&& Int64.toUInt64 63)).toInt64) &&& 3689348814741910323)).toUInt64 >>> ((4 : Int32).toInt64.toUInt64 &&& Int64.toUInt64 63)).toInt64)) &&& 1085102592571150095) + (((((((x0 - (((x0.toUInt64 >>> ((1 : Int32).toInt64.toUInt64 &&& Int64.toUInt64 63)).toInt64) &&& 6148914691236517205)) &&& 3689348814741910323) + ((((x0 - (((x0.toUInt64 >>> ((1 : Int32).toInt64.toUInt64 &&& Int64.toUInt64 63)).toInt64) &&& 6148914691236517205)).toUInt64 >>> ((2 : Int32).toInt64.toUInt64 &&& Int64.toUInt64 63)).toInt64) &&& 3689348814741910323)) + (((((x0 - (((x0.toUInt64 >>> ((1 : Int32).toInt64.toUInt64 &&& Int64.toUInt64 63)).toInt64) &&& 6148914691236517205)) &&& 3689348814741910323) + ((((x0 - (((x0.toUInt64 >>> ((1 : Int32).toInt64.toUInt64 &&& Int64.toUInt64 63)).toInt64) &&& 6148914691236517205)).toUInt64 >>> ((2 : Int32).toInt64.toUInt64 &&& Int64.toUInt64 63)).toInt64) &&& 3689348814741910323)).toUInt64 >>> ((4 : Int32).toInt64.toUInt64 &&& Int64.toUInt64 63)).toInt64)) &&& 1085102592571150095).toUInt64 >>> ((8 : Int32).toInt64.toUInt64 &&& Int64.toUInt64 63)).toInt64)) + ((((((((x0 - (((x0.toUInt64 >>> ((1 : Int32).toInt64.toUInt64 &&& Int64.toUInt64 63)).toInt64) &&& 6148914691236517205)) &&& 3689348814741910323) + ((((x0 - (((x0.toUInt64 >>> ((1 : Int32).toInt64.toUInt64 &&& Int64.toUInt64 63)).toInt64) &&& 6148914691236517205)).toUInt64 >>> ((2 : Int32).toInt64.toUInt64 &&& Int64.toUInt64 63)).toInt64) &&& 3689348814741910323)) + (((((x0 - (((x0.toUInt64 >>> ((1 : Int32).toInt64.toUInt64 &&& Int64.toUInt64 63)).toInt64) &&& 6148914691236517205)) &&& 3689348814741910323) + ((((x0 - (((x0.toUInt64 >>> ((1 : Int32).toInt64.toUInt64 &&& Int64.toUInt64 63)).toInt64) &&& 6148914691236517205)).toUInt64 >>> ((2 : Int32).toInt64.toUInt64 &&& Int64.toUInt64 63)).toInt64) &&& 3689348814741910323)).toUInt64 >>> ((4 : Int32).toInt64.toUInt64 &&& Int64.toUInt64 63)).toInt64)) &&& 1085102592571150095) + (((((((x0 - (((x0.toUInt64 >>> ((1 : Int32).toInt64.toUInt64 &&& Int64.toUInt64 63)).toInt64) &&& 6148914691236517205)) &&& 3689348814741910323) + ((((x0 - (((x0.toUInt64 >>> ((1 : Int32).toInt64.toUInt64 &&& Int64.toUInt64 63)).toInt64) &&& 6148914691236517205)).toUInt64 >>> ((2 : Int32).toInt64.toUInt64 &&& Int64.toUInt64 63)).toInt64) &&& 3689348814741910323)) + (((((x0 - (((x0.toUInt64 >>> ((1 : Int32).toInt64.toUInt64 &&& Int64.toUInt64 63)).toInt64) &&& 6148914691236517205)) &&& 3689348814741910323) + ((((x0 - (((x0.toUInt64 >>> ((1 : Int32).toInt64.toUInt64 &&& Int64.toUInt64 63)).toInt64) &&& 6148914691236517205)).toUInt64 >>> ((2 : Int32).toInt64.toUInt64 &&& Int64.toUInt64 63)).toInt64) &&& 3689348814741910323)).toUInt64 >>> ((4 : Int32).toInt64.toUInt64 &&& Int64.toUInt64 63)).toInt64)) &&& 1085102592571150095).toUInt64 >>> ((8 : Int32).toInt64.toUInt64 &&& Int64.toUInt64 63)).toInt64)).toUInt64 >>> ((16 : Int32).toInt64.toUInt64 &&& Int64.toUInt64 63)).toInt64)))]) rfl (Nat.le_of_ble_eq_true rfl) rfl rfl ?_
  refine eb_lload_n (pc := 48) (n := 0) (i := 0) rfl rfl rfl ?_
  refine eb_lload_n (pc := 49) (n := 0) (i := 0) rfl rfl rfl ?_
  refine eb_bipush (pc := 50) (n := 32) (v := 32) rfl rfl ?_
  refine eb_lushr (pc := 52) rfl ?_
  refine eb_ladd (pc := 53) rfl ?_
  refine eb_lstore_n (pc := 54) (n := 0) (i := 0) (ls2 := [(0, .long ((((((((x0 - (((x0.toUInt64 >>> ((1 : Int32).toInt64.toUInt64 &&& Int64.toUInt64 63)).toInt64) &&& 6148914691236517205)) &&& 3689348814741910323) + ((((x0 - (((x0.toUInt64 >>> ((1 : Int32).toInt64.toUInt64 &&& Int64.toUInt64 63)).toInt64) &&& 6148914691236517205)).toUInt64 >>> ((2 : Int32).toInt64.toUInt64 &&& Int64.toUInt64 63)).toInt64) &&& 3689348814741910323)) + (((((x0 - (((x0.toUInt64 >>> ((1 : Int32).toInt64.toUInt64 &&& Int64.toUInt64 63)).toInt64) &&& 6148914691236517205)) &&& 3689348814741910323) + ((((x0 - (((x0.toUInt64 >>> ((1 : Int32).toInt64.toUInt64 &&& Int64.toUInt64 63)).toInt64) &&& 6148914691236517205)).toUInt64 >>> ((2 : Int32).toInt64.toUInt64 &&& Int64.toUInt64 63)).toInt64) &&& 3689348814741910323)).toUInt64 >>> ((4 : Int32).toInt64.toUInt64 &&& Int64.toUInt64 63)).toInt64)) &&& 1085102592571150095) + (((((((x0 - (((x0.toUInt64 >>> ((1 : Int32).toInt64.toUInt64 &&& Int64.toUInt64 63)).toInt64) &&& 6148914691236517205)) &&& 3689348814741910323) + ((((x0 - (((x0.toUInt64 >>> ((1 : Int32).toInt64.toUInt64 &&& Int64.toUInt64 63)).toInt64) &&& 6148914691236517205)).toUInt64 >>> ((2 : Int32).toInt64.toUInt64 &&& Int64.toUInt64 63)).toInt64) &&& 3689348814741910323)) + (((((x0 - (((x0.toUInt64 >>> ((1 : Int32).toInt64.toUInt64 &&& Int64.toUInt64 63)).toInt64) &&& 6148914691236517205)) &&& 3689348814741910323) + ((((x0 - (((x0.toUInt64 >>> ((1 : Int32).toInt64.toUInt64 &&& Int64.toUInt64 63)).toInt64) &&& 6148914691236517205)).toUInt64 >>> ((2 : Int32).toInt64.toUInt64 &&& Int64.toUInt64 63)).toInt64) &&& 3689348814741910323)).toUInt64 >>> ((4 : Int32).toInt64.toUInt64 &&& Int64.toUInt64 63)).toInt64)) &&& 1085102592571150095).toUInt64 >>> ((8 : Int32).toInt64.toUInt64 &&& Int64.toUInt64 63)).toInt64)) + ((((((((x0 - (((x0.toUInt64 >>> ((1 : Int32).toInt64.toUInt64 &&& Int64.toUInt64 63)).toInt64) &&& 6148914691236517205)) &&& 3689348814741910323) + ((((x0 - (((x0.toUInt64 >>> ((1 : Int32).toInt64.toUInt64 &&& Int64.toUInt64 63)).toInt64) &&& 6148914691236517205)).toUInt64 >>> ((2 : Int32).toInt64.toUInt64 &&& Int64.toUInt64 63)).toInt64) &&& 3689348814741910323)) + (((((x0 - (((x0.toUInt64 >>> ((1 : Int32).toInt64.toUInt64 &&& Int64.toUInt64 63)).toInt64) &&& 6148914691236517205)) &&& 3689348814741910323) + ((((x0 - (((x0.toUInt64 >>> ((1 : Int32).toInt64.toUInt64 &&& Int64.toUInt64 63)).toInt64) &&& 6148914691236517205)).toUInt64 >>> ((2 : Int32).toInt64.toUInt64 &&& Int64.toUInt64 63)).toInt64) &&& 3689348814741910323)).toUInt64 >>> ((4 : Int32).toInt64.toUInt64 &&& Int64.toUInt64 63)).toInt64)) &&& 1085102592571150095) + (((((((x0 - (((x0.toUInt64 >>> ((1 : Int32).toInt64.toUInt64 &&& Int64.toUInt64 63)).toInt64) &&& 6148914691236517205)) &&& 3689348814741910323) + ((((x0 - (((x0.toUInt64 >>> ((1 : Int32).toInt64.toUInt64 &&& Int64.toUInt64 63)).toInt64) &&& 6148914691236517205)).toUInt64 >>> ((2 : Int32).toInt64.toUInt64 &&& Int64.toUInt64 63)).toInt64) &&& 3689348814741910323)) + (((((x0 - (((x0.toUInt64 >>> ((1 : Int32).toInt64.toUInt64 &&& Int64.toUInt64 63)).toInt64) &&& 6148914691236517205)) &&& 3689348814741910323) + ((((x0 - (((x0.toUInt64 >>> ((1 : Int32).toInt64.toUInt64 &&& Int64.toUInt64 63)).toInt64) &&& 6148914691236517205)).toUInt64 >>> ((2 : Int32).toInt64.toUInt64 &&& Int64.toUInt64 63)).toInt64) &&& 3689348814741910323)).toUInt64 >>> ((4 : Int32).toInt64.toUInt64 &&& Int64.toUInt64 63)).toInt64)) &&& 1085102592571150095).toUInt64 >>> ((8 : Int32).toInt64.toUInt64 &&& Int64.toUInt64 63)).toInt64)).toUInt64 >>> ((16 : Int32).toInt64.toUInt64 &&& Int64.toUInt64 63)).toInt64)) + (((((((((x0 - (((x0.toUInt64 >>> ((1 : Int32).toInt64.toUInt64 &&& Int64.toUInt64 63)).toInt64) &&& 6148914691236517205)) &&& 3689348814741910323) + ((((x0 - (((x0.toUInt64 >>> ((1 : Int32).toInt64.toUInt64 &&& Int64.toUInt64 63)).toInt64) &&& 6148914691236517205)).toUInt64 >>> ((2 : Int32).toInt64.toUInt64 &&& Int64.toUInt64 63)).toInt64) &&& 3689348814741910323)) + (((((x0 - (((x0.toUInt64 >>> ((1 : Int32).toInt64.toUInt64 &&& Int64.toUInt64 63)).toInt64) &&& 6148914691236517205)) &&& 3689348814741910323) + ((((x0 - (((x0.toUInt64 >>> ((1 : Int32).toInt64.toUInt64 &&& Int64.toUInt64 63)).toInt64) &&& 6148914691236517205)).toUInt64 >>> ((2 : Int32).toInt64.toUInt64 &&& Int64.toUInt64 63)).toInt64) &&& 3689348814741910323)).toUInt64 >>> ((4 : Int32).toInt64.toUInt64 &&& Int64.toUInt64 63)).toInt64)) &&& 1085102592571150095) + (((((((x0 - (((x0.toUInt64 >>> ((1 : Int32).toInt64.toUInt64 &&& Int64.toUInt64 63)).toInt64) &&& 6148914691236517205)) &&& 3689348814741910323) + ((((x0 - (((x0.toUInt64 >>> ((1 : Int32).toInt64.toUInt64 &&& Int64.toUInt64 63)).toInt64) &&& 6148914691236517205)).toUInt64 >>> ((2 : Int32).toInt64.toUInt64 &&& Int64.toUInt64 63)).toInt64) &&& 3689348814741910323)) + (((((x0 - (((x0.toUInt64 >>> ((1 : Int32).toInt64.toUInt64 &&& Int64.toUInt64 63)).toInt64) &&& 6148914691236517205)) &&& 3689348814741910323) + ((((x0 - (((x0.toUInt64 >>> ((1 : Int32).toInt64.toUInt64 &&& Int64.toUInt64 63)).toInt64) &&& 6148914691236517205)).toUInt64 >>> ((2 : Int32).toInt64.toUInt64 &&& Int64.toUInt64 63)).toInt64) &&& 3689348814741910323)).toUInt64 >>> ((4 : Int32).toInt64.toUInt64 &&& Int64.toUInt64 63)).toInt64)) &&& 1085102592571150095).toUInt64 >>> ((8 : Int32).toInt64.toUInt64 &&& Int64.toUInt64 63)).toInt64)) + ((((((((x0 - (((x0.toUInt64 >>> ((1 : Int32).toInt64.toUInt64 &&& Int64.toUInt64 63)).toInt64) &&& 6148914691236517205)) &&& 3689348814741910323) + ((((x0 - (((x0.toUInt64 >>> ((1 : Int32).toInt64.toUInt64 &&& Int64.toUInt64 63)).toInt64) &&& 6148914691236517205)).toUInt64 >>> ((2 : Int32).toInt64.toUInt64 &&& Int64.toUInt64 63)).toInt64) &&& 3689348814741910323)) + (((((x0 - (((x0.toUInt64 >>> ((1 : Int32).toInt64.toUInt64 &&& Int64.toUInt64 63)).toInt64) &&& 6148914691236517205)) &&& 3689348814741910323) + ((((x0 - (((x0.toUInt64 >>> ((1 : Int32).toInt64.toUInt64 &&& Int64.toUInt64 63)).toInt64) &&& 6148914691236517205)).toUInt64 >>> ((2 : Int32).toInt64.toUInt64 &&& Int64.toUInt64 63)).toInt64) &&& 3689348814741910323)).toUInt64 >>> ((4 : Int32).toInt64.toUInt64 &&& Int64.toUInt64 63)).toInt64)) &&& 1085102592571150095) + (((((((x0 - (((x0.toUInt64 >>> ((1 : Int32).toInt64.toUInt64 &&& Int64.toUInt64 63)).toInt64) &&& 6148914691236517205)) &&& 3689348814741910323) + ((((x0 - (((x0.toUInt64 >>> ((1 : Int32).toInt64.toUInt64 &&& Int64.toUInt64 63)).toInt64) &&& 6148914691236517205)).toUInt64 >>> ((2 : Int32).toInt64.toUInt64 &&& Int64.toUInt64 63)).toInt64) &&& 3689348814741910323)) + (((((x0 - (((x0.toUInt64 >>> ((1 : Int32).toInt64.toUInt64 &&& Int64.toUInt64 63)).toInt64) &&& 6148914691236517205)) &&& 3689348814741910323) + ((((x0 - (((x0.toUInt64 >>> ((1 : Int32).toInt64.toUInt64 &&& Int64.toUInt64 63)).toInt64) &&& 6148914691236517205)).toUInt64 >>> ((2 : Int32).toInt64.toUInt64 &&& Int64.toUInt64 63)).toInt64) &&& 3689348814741910323)).toUInt64 >>> ((4 : Int32).toInt64.toUInt64 &&& Int64.toUInt64 63)).toInt64)) &&& 1085102592571150095).toUInt64 >>> ((8 : Int32).toInt64.toUInt64 &&& Int64.toUInt64 63)).toInt64)).toUInt64 >>> ((16 : Int32).toInt64.toUInt64 &&& Int64.toUInt64 63)).toInt64)).toUInt64 >>> ((32 : Int32).toInt64.toUInt64 &&& Int64.toUInt64 63)).toInt64)))]) rfl (Nat.le_of_ble_eq_true rfl) rfl rfl ?_
  refine eb_lload_n (pc := 55) (n := 0) (i := 0) rfl rfl rfl ?_
  refine eb_l2i (pc := 56) rfl ?_
  refine eb_bipush (pc := 57) (n := 127) (v := 127) rfl rfl ?_
  refine eb_iand (pc := 59) rfl ?_
  exact eb_ireturn (pc := 60) rfl rfl rfl w
theorem T_J13_bitCount_95d88 {d : Nat} {h : eb_H} {Q : Option Value → eb_H → Prop} (x0 : Int64)  (ko : eb_KO h) (w : Q (some (.int ((((((((((x0 - (((x0.toUInt64 >>> ((1 : Int32).toInt64.toUInt64 &&& Int64.toUInt64 63)).toInt64) &&& 6148914691236517205)) &&& 3689348814741910323) + ((((x0 - (((x0.toUInt64 >>> ((1 : Int32).toInt64.toUInt64 &&& Int64.toUInt64 63)).toInt64) &&& 6148914691236517205)).toUInt64 >>> ((2 : Int32).toInt64.toUInt64 &&& Int64.toUInt64 63)).toInt64) &&& 3689348814741910323)) + (((((x0 - (((x0.toUInt64 >>> ((1 : Int32).toInt64.toUInt64 &&& Int64.toUInt64 63)).toInt64) &&& 6148914691236517205)) &&& 3689348814741910323) + ((((x0 - (((x0.toUInt64 >>> ((1 : Int32).toInt64.toUInt64 &&& Int64.toUInt64 63)).toInt64) &&& 6148914691236517205)).toUInt64 >>> ((2 : Int32).toInt64.toUInt64 &&& Int64.toUInt64 63)).toInt64) &&& 3689348814741910323)).toUInt64 >>> ((4 : Int32).toInt64.toUInt64 &&& Int64.toUInt64 63)).toInt64)) &&& 1085102592571150095) + (((((((x0 - (((x0.toUInt64 >>> ((1 : Int32).toInt64.toUInt64 &&& Int64.toUInt64 63)).toInt64) &&& 6148914691236517205)) &&& 3689348814741910323) + ((((x0 - (((x0.toUInt64 >>> ((1 : Int32).toInt64.toUInt64 &&& Int64.toUInt64 63)).toInt64) &&& 6148914691236517205)).toUInt64 >>> ((2 : Int32).toInt64.toUInt64 &&& Int64.toUInt64 63)).toInt64) &&& 3689348814741910323)) + (((((x0 - (((x0.toUInt64 >>> ((1 : Int32).toInt64.toUInt64 &&& Int64.toUInt64 63)).toInt64) &&& 6148914691236517205)) &&& 3689348814741910323) + ((((x0 - (((x0.toUInt64 >>> ((1 : Int32).toInt64.toUInt64 &&& Int64.toUInt64 63)).toInt64) &&& 6148914691236517205)).toUInt64 >>> ((2 : Int32).toInt64.toUInt64 &&& Int64.toUInt64 63)).toInt64) &&& 3689348814741910323)).toUInt64 >>> ((4 : Int32).toInt64.toUInt64 &&& Int64.toUInt64 63)).toInt64)) &&& 1085102592571150095).toUInt64 >>> ((8 : Int32).toInt64.toUInt64 &&& Int64.toUInt64 63)).toInt64)) + ((((((((x0 - (((x0.toUInt64 >>> ((1 : Int32).toInt64.toUInt64 &&& Int64.toUInt64 63)).toInt64) &&& 6148914691236517205)) &&& 3689348814741910323) + ((((x0 - (((x0.toUInt64 >>> ((1 : Int32).toInt64.toUInt64 &&& Int64.toUInt64 63)).toInt64) &&& 6148914691236517205)).toUInt64 >>> ((2 : Int32).toInt64.toUInt64 &&& Int64.toUInt64 63)).toInt64) &&& 3689348814741910323)) + (((((x0 - (((x0.toUInt64 >>> ((1 : Int32).toInt64.toUInt64 &&& Int64.toUInt64 63)).toInt64) &&& 6148914691236517205)) &&& 3689348814741910323) + ((((x0 - (((x0.toUInt64 >>> ((1 : Int32).toInt64.toUInt64 &&& Int64.toUInt64 63)).toInt64) &&& 6148914691236517205)).toUInt64 >>> ((2 : Int32).toInt64.toUInt64 &&& Int64.toUInt64 63)).toInt64) &&& 3689348814741910323)).toUInt64 >>> ((4 : Int32).toInt64.toUInt64 &&& Int64.toUInt64 63)).toInt64)) &&& 1085102592571150095) + (((((((x0 - (((x0.toUInt64 >>> ((1 : Int32).toInt64.toUInt64 &&& Int64.toUInt64 63)).toInt64) &&& 6148914691236517205)) &&& 3689348814741910323) + ((((x0 - (((x0.toUInt64 >>> ((1 : Int32).toInt64.toUInt64 &&& Int64.toUInt64 63)).toInt64) &&& 6148914691236517205)).toUInt64 >>> ((2 : Int32).toInt64.toUInt64 &&& Int64.toUInt64 63)).toInt64) &&& 3689348814741910323)) + (((((x0 - (((x0.toUInt64 >>> ((1 : Int32).toInt64.toUInt64 &&& Int64.toUInt64 63)).toInt64) &&& 6148914691236517205)) &&& 3689348814741910323) + ((((x0 - (((x0.toUInt64 >>> ((1 : Int32).toInt64.toUInt64 &&& Int64.toUInt64 63)).toInt64) &&& 6148914691236517205)).toUInt64 >>> ((2 : Int32).toInt64.toUInt64 &&& Int64.toUInt64 63)).toInt64) &&& 3689348814741910323)).toUInt64 >>> ((4 : Int32).toInt64.toUInt64 &&& Int64.toUInt64 63)).toInt64)) &&& 1085102592571150095).toUInt64 >>> ((8 : Int32).toInt64.toUInt64 &&& Int64.toUInt64 63)).toInt64)).toUInt64 >>> ((16 : Int32).toInt64.toUInt64 &&& Int64.toUInt64 63)).toInt64)) + (((((((((x0 - (((x0.toUInt64 >>> ((1 : Int32).toInt64.toUInt64 &&& Int64.toUInt64 63)).toInt64) &&& 6148914691236517205)) &&& 3689348814741910323) + ((((x0 - (((x0.toUInt64 >>> ((1 : Int32).toInt64.toUInt64 &&& Int64.toUInt64 63)).toInt64) &&& 6148914691236517205)).toUInt64 >>> ((2 : Int32).toInt64.toUInt64 &&& Int64.toUInt64 63)).toInt64) &&& 3689348814741910323)) + (((((x0 - (((x0.toUInt64 >>> ((1 : Int32).toInt64.toUInt64 &&& Int64.toUInt64 63)).toInt64) &&& 6148914691236517205)) &&& 3689348814741910323) + ((((x0 - (((x0.toUInt64 >>> ((1 : Int32).toInt64.toUInt64 &&& Int64.toUInt64 63)).toInt64) &&& 6148914691236517205)).toUInt64 >>> ((2 : Int32).toInt64.toUInt64 &&& Int64.toUInt64 63)).toInt64) &&& 3689348814741910323)).toUInt64 >>> ((4 : Int32).toInt64.toUInt64 &&& Int64.toUInt64 63)).toInt64)) &&& 1085102592571150095) + (((((((x0 - (((x0.toUInt64 >>> ((1 : Int32).toInt64.toUInt64 &&& Int64.toUInt64 63)).toInt64) &&& 6148914691236517205)) &&& 3689348814741910323) + ((((x0 - (((x0.toUInt64 >>> ((1 : Int32).toInt64.toUInt64 &&& Int64.toUInt64 63)).toInt64) &&& 6148914691236517205)).toUInt64 >>> ((2 : Int32).toInt64.toUInt64 &&& Int64.toUInt64 63)).toInt64) &&& 3689348814741910323)) + (((((x0 - (((x0.toUInt64 >>> ((1 : Int32).toInt64.toUInt64 &&& Int64.toUInt64 63)).toInt64) &&& 6148914691236517205)) &&& 3689348814741910323) + ((((x0 - (((x0.toUInt64 >>> ((1 : Int32).toInt64.toUInt64 &&& Int64.toUInt64 63)).toInt64) &&& 6148914691236517205)).toUInt64 >>> ((2 : Int32).toInt64.toUInt64 &&& Int64.toUInt64 63)).toInt64) &&& 3689348814741910323)).toUInt64 >>> ((4 : Int32).toInt64.toUInt64 &&& Int64.toUInt64 63)).toInt64)) &&& 1085102592571150095).toUInt64 >>> ((8 : Int32).toInt64.toUInt64 &&& Int64.toUInt64 63)).toInt64)) + ((((((((x0 - (((x0.toUInt64 >>> ((1 : Int32).toInt64.toUInt64 &&& Int64.toUInt64 63)).toInt64) &&& 6148914691236517205)) &&& 3689348814741910323) + ((((x0 - (((x0.toUInt64 >>> ((1 : Int32).toInt64.toUInt64 &&& Int64.toUInt64 63)).toInt64) &&& 6148914691236517205)).toUInt64 >>> ((2 : Int32).toInt64.toUInt64 &&& Int64.toUInt64 63)).toInt64) &&& 3689348814741910323)) + (((((x0 - (((x0.toUInt64 >>> ((1 : Int32).toInt64.toUInt64 &&& Int64.toUInt64 63)).toInt64) &&& 6148914691236517205)) &&& 3689348814741910323) + ((((x0 - (((x0.toUInt64 >>> ((1 : Int32).toInt64.toUInt64 &&& Int64.toUInt64 63)).toInt64) &&& 6148914691236517205)).toUInt64 >>> ((2 : Int32).toInt64.toUInt64 &&& Int64.toUInt64 63)).toInt64) &&& 3689348814741910323)).toUInt64 >>> ((4 : Int32).toInt64.toUInt64 &&& Int64.toUInt64 63)).toInt64)) &&& 1085102592571150095) + (((((((x0 - (((x0.toUInt64 >>> ((1 : Int32).toInt64.toUInt64 &&& Int64.toUInt64 63)).toInt64) &&& 6148914691236517205)) &&& 3689348814741910323) + ((((x0 - (((x0.toUInt64 >>> ((1 : Int32).toInt64.toUInt64 &&& Int64.toUInt64 63)).toInt64) &&& 6148914691236517205)).toUInt64 >>> ((2 : Int32).toInt64.toUInt64 &&& Int64.toUInt64 63)).toInt64) &&& 3689348814741910323)) + (((((x0 - (((x0.toUInt64 >>> ((1 : Int32).toInt64.toUInt64 &&& Int64.toUInt64 63)).toInt64) &&& 6148914691236517205)) &&& 3689348814741910323) + ((((x0 - (((x0.toUInt64 >>> ((1 : Int32).toInt64.toUInt64 &&& Int64.toUInt64 63)).toInt64) &&& 6148914691236517205)).toUInt64 >>> ((2 : Int32).toInt64.toUInt64 &&& Int64.toUInt64 63)).toInt64) &&& 3689348814741910323)).toUInt64 >>> ((4 : Int32).toInt64.toUInt64 &&& Int64.toUInt64 63)).toInt64)) &&& 1085102592571150095).toUInt64 >>> ((8 : Int32).toInt64.toUInt64 &&& Int64.toUInt64 63)).toInt64)).toUInt64 >>> ((16 : Int32).toInt64.toUInt64 &&& Int64.toUInt64 63)).toInt64)).toUInt64 >>> ((32 : Int32).toInt64.toUInt64 &&& Int64.toUInt64 63)).toInt64)).toInt32) &&& 127))) h) : eb_Ct d 284 [.long x0] h Q :=
  eb_bodyQ (by decide) ok_J13_bitCount_95d88 (Nat.le_of_ble_eq_true rfl) (b_J13_bitCount_95d88_0 (h0 := h) x0  ko w)
theorem b_J9_floorMod_7cf53_0 {d : Nat} {h0 h : eb_H} {Q : Option Value → eb_H → Prop} (x0 : Int32) (x1 : Int32)  (ko : eb_KO h) (w : (¬ x1 = 0) ∧ ((0 ≤ (x0 ^^^ x1) → Q (some (.int (x0 - x0 / x1 * x1))) h) ∧ (¬ (0 ≤ (x0 ^^^ x1)) → (((x0 - x0 / x1 * x1) = 0 → Q (some (.int (x0 - x0 / x1 * x1))) h) ∧ (¬ ((x0 - x0 / x1 * x1) = 0) → Q (some (.int ((x0 - x0 / x1 * x1) + x1))) h))))) : eb_Sn d m_J9_floorMod_7cf53 h0 0 [(0, .int x0), (1, .int x1)] [] h Q := by
  refine eb_iload_n (pc := 0) (n := 0) (i := 0) rfl rfl rfl ?_
  refine eb_iload_n (pc := 1) (n := 1) (i := 1) rfl rfl rfl ?_
  obtain ⟨c1, w⟩ := w
  refine eb_irem (pc := 2) c1 rfl ?_
  refine eb_istore_n (pc := 3) (n := 2) (i := 2) (ls2 := [(2, .int (x0 - x0 / x1 * x1)), (0, .int x0), (1, .int x1)]) rfl (Nat.le_of_ble_eq_true rfl) rfl rfl ?_
  refine eb_iload_n (pc := 4) (n := 0) (i := 0) rfl rfl rfl ?_
  refine eb_iload_n (pc := 5) (n := 1) (i := 1) rfl rfl rfl ?_
  refine eb_ixor (pc := 6) rfl ?_
  refine eb_if_ge (pc := 7) (tgt := 18) rfl (by decide) (fun c2 => ?_) (fun c2 => ?_)
  · replace w := w.1 c2
    refine eb_iload_n (pc := 18) (n := 2) (i := 2) rfl rfl rfl ?_
    exact eb_ireturn (pc := 19) rfl rfl rfl w
  · replace w := w.2 c2
    refine eb_iload_n (pc := 10) (n := 2) (i := 2) rfl rfl rfl ?_
    refine eb_if_eq (pc := 11) (tgt := 18) rfl (by decide) (fun c3 => ?_) (fun c3 => ?_)
    · replace w := w.1 c3
      refine eb_iload_n (pc := 18) (n := 2) (i := 2) rfl rfl rfl ?_
      exact eb_ireturn (pc := 19) rfl rfl rfl w
    · replace w := w.2 c3
      refine eb_iload_n (pc := 14) (n := 2) (i := 2) rfl rfl rfl ?_
      refine eb_iload_n (pc := 15) (n := 1) (i := 1) rfl rfl rfl ?_
      refine eb_iadd (pc := 16) rfl ?_
      exact eb_ireturn (pc := 17) rfl rfl rfl w
theorem T_J9_floorMod_7cf53 {d : Nat} {h : eb_H} {Q : Option Value → eb_H → Prop} (x0 : Int32) (x1 : Int32)  (ko : eb_KO h) (w : (¬ x1 = 0) ∧ ((0 ≤ (x0 ^^^ x1) → Q (some (.int (x0 - x0 / x1 * x1))) h) ∧ (¬ (0 ≤ (x0 ^^^ x1)) → (((x0 - x0 / x1 * x1) = 0 → Q (some (.int (x0 - x0 / x1 * x1))) h) ∧ (¬ ((x0 - x0 / x1 * x1) = 0) → Q (some (.int ((x0 - x0 / x1 * x1) + x1))) h))))) : eb_Ct d 285 [.int x0, .int x1] h Q :=
  eb_bodyQ (by decide) ok_J9_floorMod_7cf53 (Nat.le_of_ble_eq_true rfl) (b_J9_floorMod_7cf53_0 (h0 := h) x0 x1  ko w)
theorem b_J9_max_7cf53_0 {d : Nat} {h0 h : eb_H} {Q : Option Value → eb_H → Prop} (x0 : Int32) (x1 : Int32)  (ko : eb_KO h) (w : Q (some (.int (if x0 < x1 then x1 else x0 : Int32))) h) : eb_Sn d m_J9_max_7cf53 h0 0 [(0, .int x0), (1, .int x1)] [] h Q := by
  refine eb_iload_n (pc := 0) (n := 0) (i := 0) rfl rfl rfl ?_
  refine eb_iload_n (pc := 1) (n := 1) (i := 1) rfl rfl rfl ?_
  refine eb_joinI (pc2 := 10) (ls2 := [(0, .int x0), (1, .int x1)]) (st2 := []) (v := (if x0 < x1 then x1 else x0 : Int32)) ?_ (fun jj2 => ?_)
  · exact eb_ireturn (pc := 10) rfl rfl rfl w
  refine eb_icmp_lt (pc := 2) (tgt := 9) rfl (by decide) (fun c1 => ?_) (fun c1 => ?_)
  · refine eb_iload_n (pc := 9) (n := 1) (i := 1) rfl rfl rfl ?_
    exact jj2 _ (by simp only [if_pos c1])
  · refine eb_iload_n (pc := 5) (n := 0) (i := 0) rfl rfl rfl ?_
    refine eb_goto (pc := 6) (tgt := 10) rfl (by decide) ?_
    exact jj2 _ (by simp only [if_neg c1])
theorem T_J9_max_7cf53 {d : Nat} {h : eb_H} {Q : Option Value → eb_H → Prop} (x0 : Int32) (x1 : Int32)  (ko : eb_KO h) (w : Q (some (.int (if x0 < x1 then x1 else x0 : Int32))) h) : eb_Ct d 286 [.int x0, .int x1] h Q :=
  eb_bodyQ (by decide) ok_J9_max_7cf53 (Nat.le_of_ble_eq_true rfl) (b_J9_max_7cf53_0 (h0 := h) x0 x1  ko w)
theorem b_J9_min_7cf53_0 {d : Nat} {h0 h : eb_H} {Q : Option Value → eb_H → Prop} (x0 : Int32) (x1 : Int32)  (ko : eb_KO h) (w : Q (some (.int (if x1 < x0 then x1 else x0 : Int32))) h) : eb_Sn d m_J9_min_7cf53 h0 0 [(0, .int x0), (1, .int x1)] [] h Q := by
  refine eb_iload_n (pc := 0) (n := 0) (i := 0) rfl rfl rfl ?_
  refine eb_iload_n (pc := 1) (n := 1) (i := 1) rfl rfl rfl ?_
  refine eb_joinI (pc2 := 10) (ls2 := [(0, .int x0), (1, .int x1)]) (st2 := []) (v := (if x1 < x0 then x1 else x0 : Int32)) ?_ (fun jj2 => ?_)
  · exact eb_ireturn (pc := 10) rfl rfl rfl w
  refine eb_icmp_gt (pc := 2) (tgt := 9) rfl (by decide) (fun c1 => ?_) (fun c1 => ?_)
  · refine eb_iload_n (pc := 9) (n := 1) (i := 1) rfl rfl rfl ?_
    exact jj2 _ (by simp only [if_pos c1])
  · refine eb_iload_n (pc := 5) (n := 0) (i := 0) rfl rfl rfl ?_
    refine eb_goto (pc := 6) (tgt := 10) rfl (by decide) ?_
    exact jj2 _ (by simp only [if_neg c1])
theorem T_J9_min_7cf53 {d : Nat} {h : eb_H} {Q : Option Value → eb_H → Prop} (x0 : Int32) (x1 : Int32)  (ko : eb_KO h) (w : Q (some (.int (if x1 < x0 then x1 else x0 : Int32))) h) : eb_Ct d 287 [.int x0, .int x1] h Q :=
  eb_bodyQ (by decide) ok_J9_min_7cf53 (Nat.le_of_ble_eq_true rfl) (b_J9_min_7cf53_0 (h0 := h) x0 x1  ko w)
theorem b_J9_min_f86c9_0 {d : Nat} {h0 h : eb_H} {Q : Option Value → eb_H → Prop} (x0 : Int64) (x2 : Int64)  (ko : eb_KO h) (w : Q (some (.long (if x2 < x0 then x2 else x0 : Int64))) h) : eb_Sn d m_J9_min_f86c9 h0 0 [(0, .long x0), (2, .long x2)] [] h Q := by
  refine eb_lload_n (pc := 0) (n := 0) (i := 0) rfl rfl rfl ?_
  refine eb_lload_n (pc := 1) (n := 2) (i := 2) rfl rfl rfl ?_
  refine eb_lcmp (pc := 2) rfl ?_
  refine eb_joinL (pc2 := 11) (ls2 := [(0, .long x0), (2, .long x2)]) (st2 := []) (v := (if x2 < x0 then x2 else x0 : Int64)) ?_ (fun jj2 => ?_)
  · exact eb_lreturn (pc := 11) rfl rfl w
  refine eb_if_gt (pc := 3) (tgt := 10) rfl (by decide) (fun c1 => ?_) (fun c1 => ?_)
  · replace c1 := eb_lc_gt.mp c1
    refine eb_lload_n (pc := 10) (n := 2) (i := 2) rfl rfl rfl ?_
    exact jj2 _ (by simp only [if_pos c1])
  · replace c1 := (fun hh => mt eb_lc_gt.mpr hh) c1
    refine eb_lload_n (pc := 6) (n := 0) (i := 0) rfl rfl rfl ?_
    refine eb_goto (pc := 7) (tgt := 11) rfl (by decide) ?_
    exact jj2 _ (by simp only [if_neg c1])
theorem T_J9_min_f86c9 {d : Nat} {h : eb_H} {Q : Option Value → eb_H → Prop} (x0 : Int64) (x2 : Int64)  (ko : eb_KO h) (w : Q (some (.long (if x2 < x0 then x2 else x0 : Int64))) h) : eb_Ct d 288 [.long x0, .long x2] h Q :=
  eb_bodyQ (by decide) ok_J9_min_f86c9 (Nat.le_of_ble_eq_true rfl) (b_J9_min_f86c9_0 (h0 := h) x0 x2  ko w)
theorem b_J0_length_8abf5_0 {d : Nat} {h0 h : eb_H} {Q : Option Value → eb_H → Prop} (i0 : Nat) (hi_i0 : i0 < 21) (ko : eb_KO h) (w : eb_Ct d 293 [.ref (eb_mk i0 21 0)] h (fun r h1 => ∃ y2, r = some (.int y2) ∧ eb_KO h1 ∧ Q (some (.int ((Int32.ofNat (eb_sln.getD i0 0)) >>> (y2 &&& 31)))) h1)) : eb_Sn (d + 1) m_J0_length_8abf5 h0 0 [(0, .ref (eb_mk i0 21 0))] [] h Q := by
  refine eb_aload_n (pc := 0) (n := 0) (i := 0) rfl rfl rfl ?_
  refine eb_strV (pc := 1) rfl rfl hi_i0 ?_
  refine eb_strL (pc := 4) rfl hi_i0 rfl ?_
  refine eb_aload_n (pc := 5) (n := 0) (i := 0) rfl rfl rfl ?_
  refine eb_ctT (pc := 6) (i := i0) (As := []) (rest := [.int (Int32.ofNat (eb_sln.getD i0 0))]) rfl (by decide) rfl hi_i0 rfl rfl (Nat.le_of_ble_eq_true rfl) ?_
  refine eb_Ct.mono w ?_
  rintro r h1 ⟨y2, rfl, ko3, w⟩
  change eb_Sn _ _ _ 9 _ [.int y2, .int (Int32.ofNat (eb_sln.getD i0 0))] _ _
  refine eb_ishr (pc := 9) rfl ?_
  exact eb_ireturn (pc := 10) rfl rfl rfl w
theorem T_J0_length_8abf5 {d : Nat} {h : eb_H} {Q : Option Value → eb_H → Prop} (i0 : Nat) (hi_i0 : i0 < 21) (ko : eb_KO h) (w : eb_Ct d 293 [.ref (eb_mk i0 21 0)] h (fun r h1 => ∃ y2, r = some (.int y2) ∧ eb_KO h1 ∧ Q (some (.int ((Int32.ofNat (eb_sln.getD i0 0)) >>> (y2 &&& 31)))) h1)) : eb_Ct (d + 1) 289 [.ref (eb_mk i0 21 0)] h Q :=
  eb_bodyQ (by decide) ok_J0_length_8abf5 (Nat.le_of_ble_eq_true rfl) (b_J0_length_8abf5_0 (h0 := h) i0 hi_i0 ko w)
theorem b_J0_charAt_5068e_0 {d : Nat} {h0 h : eb_H} {Q : Option Value → eb_H → Prop} (i0 : Nat) (x1 : Int32) (hi_i0 : i0 < 21) (ko : eb_KO h) (w : eb_Ct d 294 [.ref (eb_mk i0 21 0)] h (fun r h1 => ∃ y2, r = some (.int y2) ∧ eb_KO h1 ∧ (¬ (y2 = 0)) ∧ eb_Ct d 296 [.ref (eb_mk i0 22 0), .int x1] h1 (fun r h5 => ∃ y6, r = some (.int y6) ∧ eb_KO h5 ∧ (narrow .char (.int y6) = .int y6) ∧ Q (some (.int y6)) h5))) : eb_Sn (d + 1) m_J0_charAt_5068e h0 0 [(0, .ref (eb_mk i0 21 0)), (1, .int x1)] [] h Q := by
  refine eb_aload_n (pc := 0) (n := 0) (i := 0) rfl rfl rfl ?_
  refine eb_ctT (pc := 1) (i := i0) (As := []) (rest := []) rfl (by decide) rfl hi_i0 rfl rfl (Nat.le_of_ble_eq_true rfl) ?_
  refine eb_Ct.mono w ?_
  rintro r h1 ⟨y2, rfl, ko3, w⟩
  change eb_Sn _ _ _ 4 _ [.int y2] _ _
  obtain ⟨c4, w⟩ := w
  refine eb_if_eq (pc := 4) (tgt := 16) rfl (by decide) (fun c => by have c9 := c; contradiction) (fun _ => ?_)
  refine eb_aload_n (pc := 7) (n := 0) (i := 0) rfl rfl rfl ?_
  refine eb_strV (pc := 8) rfl rfl hi_i0 ?_
  refine eb_iload_n (pc := 11) (n := 1) (i := 1) rfl rfl rfl ?_
  refine eb_ctS (pc := 12) (As := [.ref (eb_mk i0 22 0), .int x1]) (rest := []) rfl (by decide) (by decide) rfl rfl (Nat.le_of_ble_eq_true rfl) ?_
  refine eb_Ct.mono w ?_
  rintro r h5 ⟨y6, rfl, ko7, w⟩
  change eb_Sn _ _ _ 15 _ [.int y6] _ _
  obtain ⟨c8, w⟩ := w
  exact eb_ireturn (pc := 15) rfl rfl c8 w
theorem T_J0_charAt_5068e {d : Nat} {h : eb_H} {Q : Option Value → eb_H → Prop} (i0 : Nat) (x1 : Int32) (hi_i0 : i0 < 21) (ko : eb_KO h) (w : eb_Ct d 294 [.ref (eb_mk i0 21 0)] h (fun r h1 => ∃ y2, r = some (.int y2) ∧ eb_KO h1 ∧ (¬ (y2 = 0)) ∧ eb_Ct d 296 [.ref (eb_mk i0 22 0), .int x1] h1 (fun r h5 => ∃ y6, r = some (.int y6) ∧ eb_KO h5 ∧ (narrow .char (.int y6) = .int y6) ∧ Q (some (.int y6)) h5))) : eb_Ct (d + 1) 290 [.ref (eb_mk i0 21 0), .int x1] h Q :=
  eb_bodyQ (by decide) ok_J0_charAt_5068e (Nat.le_of_ble_eq_true rfl) (b_J0_charAt_5068e_0 (h0 := h) i0 x1 hi_i0 ko w)
theorem b_J0_indexOf_0f7a4_0 {d : Nat} {h0 h : eb_H} {Q : Option Value → eb_H → Prop} (i0 : Nat) (x1 : Int32) (hi_i0 : i0 < 21) (ko : eb_KO h) (w : eb_Ct d 292 [.ref (eb_mk i0 21 0), .int x1, .int 0] h (fun r h1 => ∃ y2, r = some (.int y2) ∧ eb_KO h1 ∧ Q (some (.int y2)) h1)) : eb_Sn (d + 1) m_J0_indexOf_0f7a4 h0 0 [(0, .ref (eb_mk i0 21 0)), (1, .int x1)] [] h Q := by
  refine eb_aload_n (pc := 0) (n := 0) (i := 0) rfl rfl rfl ?_
  refine eb_iload_n (pc := 1) (n := 1) (i := 1) rfl rfl rfl ?_
  refine eb_iconst (pc := 2) (n := 0) (v := 0) rfl rfl ?_
  refine eb_ctT (pc := 3) (i := i0) (As := [.int x1, .int 0]) (rest := []) rfl (by decide) rfl hi_i0 rfl rfl (Nat.le_of_ble_eq_true rfl) ?_
  refine eb_Ct.mono w ?_
  rintro r h1 ⟨y2, rfl, ko3, w⟩
  change eb_Sn _ _ _ 6 _ [.int y2] _ _
  exact eb_ireturn (pc := 6) rfl rfl rfl w
theorem T_J0_indexOf_0f7a4 {d : Nat} {h : eb_H} {Q : Option Value → eb_H → Prop} (i0 : Nat) (x1 : Int32) (hi_i0 : i0 < 21) (ko : eb_KO h) (w : eb_Ct d 292 [.ref (eb_mk i0 21 0), .int x1, .int 0] h (fun r h1 => ∃ y2, r = some (.int y2) ∧ eb_KO h1 ∧ Q (some (.int y2)) h1)) : eb_Ct (d + 1) 291 [.ref (eb_mk i0 21 0), .int x1] h Q :=
  eb_bodyQ (by decide) ok_J0_indexOf_0f7a4 (Nat.le_of_ble_eq_true rfl) (b_J0_indexOf_0f7a4_0 (h0 := h) i0 x1 hi_i0 ko w)
theorem b_J0_indexOf_7cf53_0 {d : Nat} {h0 h : eb_H} {Q : Option Value → eb_H → Prop} (i0 : Nat) (x1 : Int32) (x2 : Int32) (hi_i0 : i0 < 21) (ko : eb_KO h) (w : eb_Ct d 294 [.ref (eb_mk i0 21 0)] h (fun r h1 => ∃ y2, r = some (.int y2) ∧ eb_KO h1 ∧ (¬ (y2 = 0)) ∧ eb_Ct d 289 [.ref (eb_mk i0 21 0)] h1 (fun r h5 => ∃ y6, r = some (.int y6) ∧ eb_KO h5 ∧ eb_Ct d 298 [.ref (eb_mk i0 22 0), .int x1, .int x2, .int y6] h5 (fun r h8 => ∃ y9, r = some (.int y9) ∧ eb_KO h8 ∧ Q (some (.int y9)) h8)))) : eb_Sn (d + 1) m_J0_indexOf_7cf53 h0 0 [(0, .ref (eb_mk i0 21 0)), (1, .int x1), (2, .int x2)] [] h Q := by
  refine eb_aload_n (pc := 0) (n := 0) (i := 0) rfl rfl rfl ?_
  refine eb_ctT (pc := 1) (i := i0) (As := []) (rest := []) rfl (by decide) rfl hi_i0 rfl rfl (Nat.le_of_ble_eq_true rfl) ?_
  refine eb_Ct.mono w ?_
  rintro r h1 ⟨y2, rfl, ko3, w⟩
  change eb_Sn _ _ _ 4 _ [.int y2] _ _
  obtain ⟨c4, w⟩ := w
  refine eb_if_eq (pc := 4) (tgt := 23) rfl (by decide) (fun c => by have c9 := c; contradiction) (fun _ => ?_)
  refine eb_aload_n (pc := 7) (n := 0) (i := 0) rfl rfl rfl ?_
  refine eb_strV (pc := 8) rfl rfl hi_i0 ?_
  refine eb_iload_n (pc := 11) (n := 1) (i := 1) rfl rfl rfl ?_
  refine eb_iload_n (pc := 12) (n := 2) (i := 2) rfl rfl rfl ?_
  refine eb_aload_n (pc := 13) (n := 0) (i := 0) rfl rfl rfl ?_
  refine eb_ctT (pc := 14) (i := i0) (As := []) (rest := [.int x2, .int x1, .ref (eb_mk i0 22 0)]) rfl (by decide) rfl hi_i0 rfl rfl (Nat.le_of_ble_eq_true rfl) ?_
  refine eb_Ct.mono w ?_
  rintro r h5 ⟨y6, rfl, ko7, w⟩
  change eb_Sn _ _ _ 17 _ [.int y6, .int x2, .int x1, .ref (eb_mk i0 22 0)] _ _
  refine eb_ctS (pc := 17) (As := [.ref (eb_mk i0 22 0), .int x1, .int x2, .int y6]) (rest := []) rfl (by decide) (by decide) rfl rfl (Nat.le_of_ble_eq_true rfl) ?_
  refine eb_Ct.mono w ?_
  rintro r h8 ⟨y9, rfl, ko10, w⟩
  change eb_Sn _ _ _ 20 _ [.int y9] _ _
  refine eb_goto (pc := 20) (tgt := 36) rfl (by decide) ?_
  exact eb_ireturn (pc := 36) rfl rfl rfl w
theorem T_J0_indexOf_7cf53 {d : Nat} {h : eb_H} {Q : Option Value → eb_H → Prop} (i0 : Nat) (x1 : Int32) (x2 : Int32) (hi_i0 : i0 < 21) (ko : eb_KO h) (w : eb_Ct d 294 [.ref (eb_mk i0 21 0)] h (fun r h1 => ∃ y2, r = some (.int y2) ∧ eb_KO h1 ∧ (¬ (y2 = 0)) ∧ eb_Ct d 289 [.ref (eb_mk i0 21 0)] h1 (fun r h5 => ∃ y6, r = some (.int y6) ∧ eb_KO h5 ∧ eb_Ct d 298 [.ref (eb_mk i0 22 0), .int x1, .int x2, .int y6] h5 (fun r h8 => ∃ y9, r = some (.int y9) ∧ eb_KO h8 ∧ Q (some (.int y9)) h8)))) : eb_Ct (d + 1) 292 [.ref (eb_mk i0 21 0), .int x1, .int x2] h Q :=
  eb_bodyQ (by decide) ok_J0_indexOf_7cf53 (Nat.le_of_ble_eq_true rfl) (b_J0_indexOf_7cf53_0 (h0 := h) i0 x1 x2 hi_i0 ko w)
theorem b_J0_coder_7d493_0 {d : Nat} {h0 h : eb_H} {Q : Option Value → eb_H → Prop} (i0 : Nat) (hi_i0 : i0 < 21) (ko : eb_KO h) (w : Q (some (.int 0)) h) : eb_Sn d m_J0_coder_7d493 h0 0 [(0, .ref (eb_mk i0 21 0))] [] h Q := by
  refine eb_strG (pc := 0) rfl rfl ?_
  refine eb_if_eq (pc := 3) (tgt := 13) rfl (by decide) (fun c => absurd c (by decide)) (fun c => ?_)
  refine eb_aload_n (pc := 6) (n := 0) (i := 0) rfl rfl rfl ?_
  refine eb_strC (pc := 7) rfl rfl hi_i0 ?_
  refine eb_goto (pc := 10) (tgt := 14) rfl (by decide) ?_
  exact eb_ireturn (pc := 14) rfl rfl (by decide) w
theorem T_J0_coder_7d493 {d : Nat} {h : eb_H} {Q : Option Value → eb_H → Prop} (i0 : Nat) (hi_i0 : i0 < 21) (ko : eb_KO h) (w : Q (some (.int 0)) h) : eb_Ct d 293 [.ref (eb_mk i0 21 0)] h Q :=
  eb_bodyQ (by decide) ok_J0_coder_7d493 (Nat.le_of_ble_eq_true rfl) (b_J0_coder_7d493_0 (h0 := h) i0 hi_i0 ko w)
theorem b_J0_isLatin1_aae02_0 {d : Nat} {h0 h : eb_H} {Q : Option Value → eb_H → Prop} (i0 : Nat) (hi_i0 : i0 < 21) (ko : eb_KO h) (w : Q (some (.int 1)) h) : eb_Sn d m_J0_isLatin1_aae02 h0 0 [(0, .ref (eb_mk i0 21 0))] [] h Q := by
  refine eb_strG (pc := 0) rfl rfl ?_
  refine eb_if_eq (pc := 3) (tgt := 17) rfl (by decide) (fun c => absurd c (by decide)) (fun c => ?_)
  refine eb_aload_n (pc := 6) (n := 0) (i := 0) rfl rfl rfl ?_
  refine eb_strC (pc := 7) rfl rfl hi_i0 ?_
  refine eb_if_ne (pc := 10) (tgt := 17) rfl (by decide) (fun c => absurd c (by decide)) (fun c => ?_)
  refine eb_iconst (pc := 13) (n := 1) (v := 1) rfl rfl ?_
  refine eb_goto (pc := 14) (tgt := 18) rfl (by decide) ?_
  exact eb_ireturn (pc := 18) rfl rfl (by decide) w
theorem T_J0_isLatin1_aae02 {d : Nat} {h : eb_H} {Q : Option Value → eb_H → Prop} (i0 : Nat) (hi_i0 : i0 < 21) (ko : eb_KO h) (w : Q (some (.int 1)) h) : eb_Ct d 294 [.ref (eb_mk i0 21 0)] h Q :=
  eb_bodyQ (by decide) ok_J0_isLatin1_aae02 (Nat.le_of_ble_eq_true rfl) (b_J0_isLatin1_aae02_0 (h0 := h) i0 hi_i0 ko w)
theorem b_J1_charAt_3b067_0 {d : Nat} {h0 h : eb_H} {Q : Option Value → eb_H → Prop} (i0 : Nat) (x1 : Int32) (hi_i0 : i0 < 21) (ko : eb_KO h) (w : eb_Ct d 295 [.int x1, .int (Int32.ofNat (eb_sln.getD i0 0))] h (fun r h1 => r = none ∧ eb_KO h1 ∧ (vp_in x1 (eb_sln.getD i0 0)) ∧ (narrow .char (.int (((((eb_byt.getD i0 []).getD x1.toNatClampNeg 0) &&& 255).toUInt32 % 65536).toInt32)) = .int (((((eb_byt.getD i0 []).getD x1.toNatClampNeg 0) &&& 255).toUInt32 % 65536).toInt32)) ∧ Q (some (.int (((((eb_byt.getD i0 []).getD x1.toNatClampNeg 0) &&& 255).toUInt32 % 65536).toInt32))) h1)) : eb_Sn (d + 1) m_J1_charAt_3b067 h0 0 [(0, .ref (eb_mk i0 22 0)), (1, .int x1)] [] h Q := by
  refine eb_iload_n (pc := 0) (n := 1) (i := 1) rfl rfl rfl ?_
  refine eb_aload_n (pc := 1) (n := 0) (i := 0) rfl rfl rfl ?_
  refine eb_strL (pc := 2) rfl hi_i0 rfl ?_
  refine eb_ctS (pc := 3) (As := [.int x1, .int (Int32.ofNat (eb_sln.getD i0 0))]) (rest := []) rfl (by decide) (by decide) rfl rfl (Nat.le_of_ble_eq_true rfl) ?_
  refine eb_Ct.mono w ?_
  rintro r h1 ⟨rfl, ko3, w⟩
  change eb_Sn _ _ _ 6 _ [] _ _
  refine eb_aload_n (pc := 6) (n := 0) (i := 0) rfl rfl rfl ?_
  refine eb_iload_n (pc := 7) (n := 1) (i := 1) rfl rfl rfl ?_
  obtain ⟨c4, w⟩ := w
  refine eb_strB (pc := 8) rfl hi_i0 c4 ?_
  refine eb_sipush (pc := 9) (n := 255) (v := 255) rfl rfl ?_
  refine eb_iand (pc := 12) rfl ?_
  refine eb_i2c (pc := 13) rfl ?_
  obtain ⟨c5, w⟩ := w
  exact eb_ireturn (pc := 14) rfl rfl c5 w
theorem T_J1_charAt_3b067 {d : Nat} {h : eb_H} {Q : Option Value → eb_H → Prop} (i0 : Nat) (x1 : Int32) (hi_i0 : i0 < 21) (ko : eb_KO h) (w : eb_Ct d 295 [.int x1, .int (Int32.ofNat (eb_sln.getD i0 0))] h (fun r h1 => r = none ∧ eb_KO h1 ∧ (vp_in x1 (eb_sln.getD i0 0)) ∧ (narrow .char (.int (((((eb_byt.getD i0 []).getD x1.toNatClampNeg 0) &&& 255).toUInt32 % 65536).toInt32)) = .int (((((eb_byt.getD i0 []).getD x1.toNatClampNeg 0) &&& 255).toUInt32 % 65536).toInt32)) ∧ Q (some (.int (((((eb_byt.getD i0 []).getD x1.toNatClampNeg 0) &&& 255).toUInt32 % 65536).toInt32))) h1)) : eb_Ct (d + 1) 296 [.ref (eb_mk i0 22 0), .int x1] h Q :=
  eb_bodyQ (by decide) ok_J1_charAt_3b067 (Nat.le_of_ble_eq_true rfl) (b_J1_charAt_3b067_0 (h0 := h) i0 x1 hi_i0 ko w)
theorem b_J1_canEncode_9a6ad_0 {d : Nat} {h0 h : eb_H} {Q : Option Value → eb_H → Prop} (x0 : Int32)  (ko : eb_KO h) (w : Q (some (.int (eb_q ((¬ (x0 < 0)) ∧ (¬ ((255 : Int32) < x0)))))) h) : eb_Sn d m_J1_canEncode_9a6ad h0 0 [(0, .int x0)] [] h Q := by
  refine eb_iload_n (pc := 0) (n := 0) (i := 0) rfl rfl rfl ?_
  refine eb_joinI (pc2 := 16) (ls2 := [(0, .int x0)]) (st2 := []) (v := eb_q ((¬ (x0 < 0)) ∧ (¬ ((255 : Int32) < x0)))) ?_ (fun jj3 => ?_)
  · exact eb_ireturn (pc := 16) rfl rfl eb_qn w
  refine eb_if_lt (pc := 1) (tgt := 15) rfl (by decide) (fun c1 => ?_) (fun c1 => ?_)
  · refine eb_iconst (pc := 15) (n := 0) (v := 0) rfl rfl ?_
    exact jj3 0 (eb_qf (fun z => z.1 c1)).symm
  · refine eb_iload_n (pc := 4) (n := 0) (i := 0) rfl rfl rfl ?_
    refine eb_sipush (pc := 5) (n := 255) (v := 255) rfl rfl ?_
    refine eb_icmp_gt (pc := 8) (tgt := 15) rfl (by decide) (fun c2 => ?_) (fun c2 => ?_)
    · refine eb_iconst (pc := 15) (n := 0) (v := 0) rfl rfl ?_
      exact jj3 0 (eb_qf (fun z => (fun z => z c2) z.2)).symm
    · refine eb_iconst (pc := 11) (n := 1) (v := 1) rfl rfl ?_
      refine eb_goto (pc := 12) (tgt := 16) rfl (by decide) ?_
      exact jj3 1 (eb_qt (⟨c1, c2⟩)).symm
theorem T_J1_canEncode_9a6ad {d : Nat} {h : eb_H} {Q : Option Value → eb_H → Prop} (x0 : Int32)  (ko : eb_KO h) (w : Q (some (.int (eb_q ((¬ (x0 < 0)) ∧ (¬ ((255 : Int32) < x0)))))) h) : eb_Ct d 297 [.int x0] h Q :=
  eb_bodyQ (by decide) ok_J1_canEncode_9a6ad (Nat.le_of_ble_eq_true rfl) (b_J1_canEncode_9a6ad_0 (h0 := h) x0  ko w)
theorem b_J1_indexOf_4cfef_0 {d : Nat} {h0 h : eb_H} {Q : Option Value → eb_H → Prop} (i0 : Nat) (x1 : Int32) (x2 : Int32) (x3 : Int32) (hi_i0 : i0 < 21) (ko : eb_KO h) (w : eb_Ct d 297 [.int x1] h (fun r h1 => ∃ y2, r = some (.int y2) ∧ eb_KO h1 ∧ ((¬ y2 = 0 → (((if x2 < (0 : Int32) then 0 else x2 : Int32) < (if (Int32.ofNat (eb_sln.getD i0 0)) < x3 then Int32.ofNat (eb_sln.getD i0 0) else x3 : Int32) → eb_Ct d 299 [.ref (eb_mk i0 22 0), .int x1, .int (if x2 < (0 : Int32) then 0 else x2 : Int32), .int (if (Int32.ofNat (eb_sln.getD i0 0)) < x3 then Int32.ofNat (eb_sln.getD i0 0) else x3 : Int32)] h1 (fun r h12 => ∃ y13, r = some (.int y13) ∧ eb_KO h12 ∧ Q (some (.int y13)) h12)) ∧ (¬ ((if x2 < (0 : Int32) then 0 else x2 : Int32) < (if (Int32.ofNat (eb_sln.getD i0 0)) < x3 then Int32.ofNat (eb_sln.getD i0 0) else x3 : Int32)) → Q (some (.int (-1))) h1))) ∧ (y2 = 0 → Q (some (.int (-1))) h1)))) : eb_Sn (d + 1) m_J1_indexOf_4cfef h0 0 [(0, .ref (eb_mk i0 22 0)), (1, .int x1), (2, .int x2), (3, .int x3)] [] h Q := by
  refine eb_iload_n (pc := 0) (n := 1) (i := 1) rfl rfl rfl ?_
  refine eb_ctS (pc := 1) (As := [.int x1]) (rest := []) rfl (by decide) (by decide) rfl rfl (Nat.le_of_ble_eq_true rfl) ?_
  refine eb_Ct.mono w ?_
  rintro r h1 ⟨y2, rfl, ko3, w⟩
  change eb_Sn _ _ _ 4 _ [.int y2] _ _
  refine eb_if_ne (pc := 4) (tgt := 9) rfl (by decide) (fun c4 => ?_) (fun c4 => ?_)
  · replace w := w.1 c4
    refine eb_iload_n (pc := 9) (n := 2) (i := 2) rfl rfl rfl ?_
    refine eb_iconst (pc := 10) (n := 0) (v := 0) rfl rfl ?_
    refine eb_ctS (pc := 11) (As := [.int x2, .int 0]) (rest := []) rfl (by decide) (by decide) rfl rfl (Nat.le_of_ble_eq_true rfl) ?_
    refine eb_bodyQ (by decide) ok_J9_max_7cf53 (Nat.le_of_ble_eq_true rfl) ?_
    change eb_Sn _ m_J9_max_7cf53 _ 0 [(0, .int x2), (1, .int 0)] [] _ _
    refine eb_iload_n (pc := 0) (n := 0) (i := 0) rfl rfl rfl ?_
    refine eb_iload_n (pc := 1) (n := 1) (i := 1) rfl rfl rfl ?_
    refine eb_joinI (pc2 := 10) (ls2 := [(0, .int x2), (1, .int 0)]) (st2 := []) (v := (if x2 < (0 : Int32) then 0 else x2 : Int32)) ?_ (fun jj6 => ?_)
    · refine eb_ireturn (pc := 10) rfl rfl rfl ?_
      change eb_Sn _ _ _ 14 _ [.int (if x2 < (0 : Int32) then 0 else x2 : Int32)] _ _
      refine eb_istore_n (pc := 14) (n := 2) (i := 2) (ls2 := [(2, .int (if x2 < (0 : Int32) then 0 else x2 : Int32)), (0, .ref (eb_mk i0 22 0)), (1, .int x1), (3, .int x3)]) rfl (Nat.le_of_ble_eq_true rfl) rfl rfl ?_
      refine eb_iload_n (pc := 15) (n := 3) (i := 3) rfl rfl rfl ?_
      refine eb_aload_n (pc := 16) (n := 0) (i := 0) rfl rfl rfl ?_
      refine eb_strL (pc := 17) rfl hi_i0 rfl ?_
      refine eb_ctS (pc := 18) (As := [.int x3, .int (Int32.ofNat (eb_sln.getD i0 0))]) (rest := []) rfl (by decide) (by decide) rfl rfl (Nat.le_of_ble_eq_true rfl) ?_
      refine eb_bodyQ (by decide) ok_J9_min_7cf53 (Nat.le_of_ble_eq_true rfl) ?_
      change eb_Sn _ m_J9_min_7cf53 _ 0 [(0, .int x3), (1, .int (Int32.ofNat (eb_sln.getD i0 0)))] [] _ _
      refine eb_iload_n (pc := 0) (n := 0) (i := 0) rfl rfl rfl ?_
      refine eb_iload_n (pc := 1) (n := 1) (i := 1) rfl rfl rfl ?_
      refine eb_joinI (pc2 := 10) (ls2 := [(0, .int x3), (1, .int (Int32.ofNat (eb_sln.getD i0 0)))]) (st2 := []) (v := (if (Int32.ofNat (eb_sln.getD i0 0)) < x3 then Int32.ofNat (eb_sln.getD i0 0) else x3 : Int32)) ?_ (fun jj9 => ?_)
      · refine eb_ireturn (pc := 10) rfl rfl rfl ?_
        change eb_Sn _ _ _ 21 _ [.int (if (Int32.ofNat (eb_sln.getD i0 0)) < x3 then Int32.ofNat (eb_sln.getD i0 0) else x3 : Int32)] _ _
        refine eb_istore_n (pc := 21) (n := 3) (i := 3) (ls2 := [(3, .int (if (Int32.ofNat (eb_sln.getD i0 0)) < x3 then Int32.ofNat (eb_sln.getD i0 0) else x3 : Int32)), (2, .int (if x2 < (0 : Int32) then 0 else x2 : Int32)), (0, .ref (eb_mk i0 22 0)), (1, .int x1)]) rfl (Nat.le_of_ble_eq_true rfl) rfl rfl ?_
        refine eb_iload_n (pc := 22) (n := 2) (i := 2) rfl rfl rfl ?_
        refine eb_iload_n (pc := 23) (n := 3) (i := 3) rfl rfl rfl ?_
        refine eb_icmp_lt (pc := 24) (tgt := 29) rfl (by decide) (fun c11 => ?_) (fun c11 => ?_)
        · replace w := w.1 c11
          refine eb_aload_n (pc := 29) (n := 0) (i := 0) rfl rfl rfl ?_
          refine eb_iload_n (pc := 30) (n := 1) (i := 1) rfl rfl rfl ?_
          refine eb_iload_n (pc := 31) (n := 2) (i := 2) rfl rfl rfl ?_
          refine eb_iload_n (pc := 32) (n := 3) (i := 3) rfl rfl rfl ?_
          refine eb_ctS (pc := 33) (As := [.ref (eb_mk i0 22 0), .int x1, .int (if x2 < (0 : Int32) then 0 else x2 : Int32), .int (if (Int32.ofNat (eb_sln.getD i0 0)) < x3 then Int32.ofNat (eb_sln.getD i0 0) else x3 : Int32)]) (rest := []) rfl (by decide) (by decide) rfl rfl (Nat.le_of_ble_eq_true rfl) ?_
          refine eb_Ct.mono w ?_
          rintro r h12 ⟨y13, rfl, ko14, w⟩
          change eb_Sn _ _ _ 36 _ [.int y13] _ _
          exact eb_ireturn (pc := 36) rfl rfl rfl w
        · replace w := w.2 c11
          refine eb_iconst (pc := 27) (n := -1) (v := (-1)) rfl rfl ?_
          exact eb_ireturn (pc := 28) rfl rfl rfl w
      refine eb_icmp_gt (pc := 2) (tgt := 9) rfl (by decide) (fun c8 => ?_) (fun c8 => ?_)
      · refine eb_iload_n (pc := 9) (n := 1) (i := 1) rfl rfl rfl ?_
        exact jj9 _ (by simp only [if_pos c8])
      · refine eb_iload_n (pc := 5) (n := 0) (i := 0) rfl rfl rfl ?_
        refine eb_goto (pc := 6) (tgt := 10) rfl (by decide) ?_
        exact jj9 _ (by simp only [if_neg c8])
    refine eb_icmp_lt (pc := 2) (tgt := 9) rfl (by decide) (fun c5 => ?_) (fun c5 => ?_)
    · refine eb_iload_n (pc := 9) (n := 1) (i := 1) rfl rfl rfl ?_
      exact jj6 _ (by simp only [if_pos c5])
    · refine eb_iload_n (pc := 5) (n := 0) (i := 0) rfl rfl rfl ?_
      refine eb_goto (pc := 6) (tgt := 10) rfl (by decide) ?_
      exact jj6 _ (by simp only [if_neg c5])
  · replace w := w.2 c4
    refine eb_iconst (pc := 7) (n := -1) (v := (-1)) rfl rfl ?_
    exact eb_ireturn (pc := 8) rfl rfl rfl w
theorem T_J1_indexOf_4cfef {d : Nat} {h : eb_H} {Q : Option Value → eb_H → Prop} (i0 : Nat) (x1 : Int32) (x2 : Int32) (x3 : Int32) (hi_i0 : i0 < 21) (ko : eb_KO h) (w : eb_Ct d 297 [.int x1] h (fun r h1 => ∃ y2, r = some (.int y2) ∧ eb_KO h1 ∧ ((¬ y2 = 0 → (((if x2 < (0 : Int32) then 0 else x2 : Int32) < (if (Int32.ofNat (eb_sln.getD i0 0)) < x3 then Int32.ofNat (eb_sln.getD i0 0) else x3 : Int32) → eb_Ct d 299 [.ref (eb_mk i0 22 0), .int x1, .int (if x2 < (0 : Int32) then 0 else x2 : Int32), .int (if (Int32.ofNat (eb_sln.getD i0 0)) < x3 then Int32.ofNat (eb_sln.getD i0 0) else x3 : Int32)] h1 (fun r h12 => ∃ y13, r = some (.int y13) ∧ eb_KO h12 ∧ Q (some (.int y13)) h12)) ∧ (¬ ((if x2 < (0 : Int32) then 0 else x2 : Int32) < (if (Int32.ofNat (eb_sln.getD i0 0)) < x3 then Int32.ofNat (eb_sln.getD i0 0) else x3 : Int32)) → Q (some (.int (-1))) h1))) ∧ (y2 = 0 → Q (some (.int (-1))) h1)))) : eb_Ct (d + 1) 298 [.ref (eb_mk i0 22 0), .int x1, .int x2, .int x3] h Q :=
  eb_bodyQ (by decide) ok_J1_indexOf_4cfef (Nat.le_of_ble_eq_true rfl) (b_J1_indexOf_4cfef_0 (h0 := h) i0 x1 x2 x3 hi_i0 ko w)
theorem b_J1_indexOfChar_4cfef_0 {d : Nat} {h0 h : eb_H} {Q : Option Value → eb_H → Prop} (i0 : Nat) (x1 : Int32) (x2 : Int32) (x3 : Int32) (hi_i0 : i0 < 21) (ko : eb_KO h) (w : eb_Sn d m_J1_indexOfChar_4cfef h0 7 [(0, .ref (eb_mk i0 22 0)), (3, .int x3), (4, .int x1.toInt8.toInt32), (5, .int x2)] [] h Q) : eb_Sn d m_J1_indexOfChar_4cfef h0 0 [(0, .ref (eb_mk i0 22 0)), (1, .int x1), (2, .int x2), (3, .int x3)] [] h Q := by
  refine eb_iload_n (pc := 0) (n := 1) (i := 1) rfl rfl rfl ?_
  refine eb_i2b (pc := 1) rfl ?_
  refine eb_istore (pc := 2) (i := 4) (ls2 := [(4, .int x1.toInt8.toInt32), (0, .ref (eb_mk i0 22 0)), (1, .int x1), (2, .int x2), (3, .int x3)]) (Nat.le_of_ble_eq_true rfl) rfl rfl ?_
  refine eb_iload_n (pc := 4) (n := 2) (i := 2) rfl rfl rfl ?_
  refine eb_istore (pc := 5) (i := 5) (ls2 := [(5, .int x2), (4, .int x1.toInt8.toInt32), (0, .ref (eb_mk i0 22 0)), (1, .int x1), (2, .int x2), (3, .int x3)]) (Nat.le_of_ble_eq_true rfl) rfl rfl ?_
  exact eb_pick [2, 5, 1, 0] rfl w
theorem b_J1_indexOfChar_4cfef_7 {d : Nat} {h0 h : eb_H} {Q : Option Value → eb_H → Prop} (i0 : Nat) (x3 : Int32) (x4 : Int32) (x5 : Int32) (hi_i0 : i0 < 21) (ko : eb_KO h) (w : ((x3 ≤ x5 → Q (some (.int (-1))) h) ∧ (¬ (x3 ≤ x5) → (vp_in x5 (eb_sln.getD i0 0)) ∧ ((¬ ((eb_byt.getD i0 []).getD x5.toNatClampNeg 0) = x4 → eb_Sn d m_J1_indexOfChar_4cfef h0 7 [(0, .ref (eb_mk i0 22 0)), (3, .int x3), (4, .int x4), (5, .int (x5 + 1))] [] h Q) ∧ (((eb_byt.getD i0 []).getD x5.toNatClampNeg 0) = x4 → Q (some (.int x5)) h))))) : eb_Sn d m_J1_indexOfChar_4cfef h0 7 [(0, .ref (eb_mk i0 22 0)), (3, .int x3), (4, .int x4), (5, .int x5)] [] h Q := by
  refine eb_iload (pc := 7) (i := 5) rfl rfl ?_
  refine eb_iload_n (pc := 9) (n := 3) (i := 3) rfl rfl rfl ?_
  refine eb_icmp_ge (pc := 10) (tgt := 31) rfl (by decide) (fun c1 => ?_) (fun c1 => ?_)
  · replace w := w.1 c1
    refine eb_iconst (pc := 31) (n := -1) (v := (-1)) rfl rfl ?_
    exact eb_ireturn (pc := 32) rfl rfl rfl w
  · replace w := w.2 c1
    refine eb_aload_n (pc := 13) (n := 0) (i := 0) rfl rfl rfl ?_
    refine eb_iload (pc := 14) (i := 5) rfl rfl ?_
    obtain ⟨c2, w⟩ := w
    refine eb_strB (pc := 16) rfl hi_i0 c2 ?_
    refine eb_iload (pc := 17) (i := 4) rfl rfl ?_
    refine eb_icmp_ne (pc := 19) (tgt := 25) rfl (by decide) (fun c3 => ?_) (fun c3 => ?_)
    · replace w := w.1 c3
      refine eb_iinc (pc := 25) (i := 5) (n := 1) (v := x5 + 1) (ls2 := [(5, .int (x5 + 1)), (0, .ref (eb_mk i0 22 0)), (3, .int x3), (4, .int x4)]) (Nat.le_of_ble_eq_true rfl) rfl rfl rfl rfl ?_
      refine eb_goto (pc := 28) (tgt := 7) rfl (by decide) ?_
      exact eb_pick [1, 2, 3, 0] rfl w
    · replace w := w.2 c3
      refine eb_iload (pc := 22) (i := 5) rfl rfl ?_
      exact eb_ireturn (pc := 24) rfl rfl rfl w
theorem T_J1_indexOfChar_4cfef {d : Nat} {h : eb_H} {Q : Option Value → eb_H → Prop} (i0 : Nat) (x1 : Int32) (x2 : Int32) (x3 : Int32) (hi_i0 : i0 < 21) (ko : eb_KO h) (w : eb_Sn d m_J1_indexOfChar_4cfef h 7 [(0, .ref (eb_mk i0 22 0)), (3, .int x3), (4, .int x1.toInt8.toInt32), (5, .int x2)] [] h Q) : eb_Ct d 299 [.ref (eb_mk i0 22 0), .int x1, .int x2, .int x3] h Q :=
  eb_bodyQ (by decide) ok_J1_indexOfChar_4cfef (Nat.le_of_ble_eq_true rfl) (b_J1_indexOfChar_4cfef_0 (h0 := h) i0 x1 x2 x3 hi_i0 ko w)
theorem b_J7_fill_d0a16_0 {d : Nat} {h0 h : eb_H} {Q : Option Value → eb_H → Prop} (a0 : Nat) (x1 : Int64) (ka0 : eb_kd a0 = 14) (ko : eb_KO h) (w : eb_Sn d m_J7_fill_d0a16 h0 6 [(0, .ref a0), (1, .long x1), (3, .int 0), (4, .int (Int32.ofNat (eb_ln a0)))] [] h Q) : eb_Sn d m_J7_fill_d0a16 h0 0 [(0, .ref a0), (1, .long x1)] [] h Q := by
  refine eb_iconst (pc := 0) (n := 0) (v := 0) rfl rfl ?_
  refine eb_istore_n (pc := 1) (n := 3) (i := 3) (ls2 := [(3, .int 0), (0, .ref a0), (1, .long x1)]) rfl (Nat.le_of_ble_eq_true rfl) rfl rfl ?_
  refine eb_aload_n (pc := 2) (n := 0) (i := 0) rfl rfl rfl ?_
  refine eb_alen (pc := 3) rfl (by rw [ka0]; decide) (by rw [ka0]; decide) rfl ?_
  refine eb_istore (pc := 4) (i := 4) (ls2 := [(4, .int (Int32.ofNat (eb_ln a0))), (3, .int 0), (0, .ref a0), (1, .long x1)]) (Nat.le_of_ble_eq_true rfl) rfl rfl ?_
  exact eb_pick [2, 3, 1, 0] rfl w
theorem b_J7_fill_d0a16_6 {d : Nat} {h0 h : eb_H} {Q : Option Value → eb_H → Prop} (a0 : Nat) (x1 : Int64) (x3 : Int32) (x4 : Int32) (ka0 : eb_kd a0 = 14) (ko : eb_KO h) (w : ((x4 ≤ x3 → Q none h) ∧ (¬ (x4 ≤ x3) → (vp_in x3 (eb_ln a0)) ∧ eb_Sn d m_J7_fill_d0a16 h0 6 [(0, .ref a0), (1, .long x1), (3, .int (x3 + 1)), (4, .int x4)] [] (eb_sJ h a0 x3.toNatClampNeg x1) Q))) : eb_Sn d m_J7_fill_d0a16 h0 6 [(0, .ref a0), (1, .long x1), (3, .int x3), (4, .int x4)] [] h Q := by
  refine eb_iload_n (pc := 6) (n := 3) (i := 3) rfl rfl rfl ?_
  refine eb_iload (pc := 7) (i := 4) rfl rfl ?_
  refine eb_icmp_ge (pc := 9) (tgt := 22) rfl (by decide) (fun c1 => ?_) (fun c1 => ?_)
  · replace w := w.1 c1
    exact eb_return (pc := 22) rfl rfl w
  · replace w := w.2 c1
    refine eb_aload_n (pc := 12) (n := 0) (i := 0) rfl rfl rfl ?_
    refine eb_iload_n (pc := 13) (n := 3) (i := 3) rfl rfl rfl ?_
    refine eb_lload_n (pc := 14) (n := 1) (i := 1) rfl rfl rfl ?_
    obtain ⟨c2, w⟩ := w
    refine eb_lastore (pc := 15) rfl ka0 c2 ?_
    refine eb_iinc (pc := 16) (i := 3) (n := 1) (v := x3 + 1) (ls2 := [(3, .int (x3 + 1)), (0, .ref a0), (1, .long x1), (4, .int x4)]) (Nat.le_of_ble_eq_true rfl) rfl rfl rfl rfl ?_
    refine eb_goto (pc := 19) (tgt := 6) rfl (by decide) ?_
    exact eb_pick [1, 2, 0, 3] rfl w
theorem T_J7_fill_d0a16 {d : Nat} {h : eb_H} {Q : Option Value → eb_H → Prop} (a0 : Nat) (x1 : Int64) (ka0 : eb_kd a0 = 14) (ko : eb_KO h) (w : eb_Sn d m_J7_fill_d0a16 h 6 [(0, .ref a0), (1, .long x1), (3, .int 0), (4, .int (Int32.ofNat (eb_ln a0)))] [] h Q) : eb_Ct d 300 [.ref a0, .long x1] h Q :=
  eb_bodyQ (by decide) ok_J7_fill_d0a16 (Nat.le_of_ble_eq_true rfl) (b_J7_fill_d0a16_0 (h0 := h) a0 x1 ka0 ko w)
theorem b_J7_fill_53178_0 {d : Nat} {h0 h : eb_H} {Q : Option Value → eb_H → Prop} (a0 : Nat) (x1 : Int32) (ka0 : eb_kd a0 = 13) (ko : eb_KO h) (w : eb_Sn d m_J7_fill_53178 h0 5 [(0, .ref a0), (1, .int x1), (2, .int 0), (3, .int (Int32.ofNat (eb_ln a0)))] [] h Q) : eb_Sn d m_J7_fill_53178 h0 0 [(0, .ref a0), (1, .int x1)] [] h Q := by
  refine eb_iconst (pc := 0) (n := 0) (v := 0) rfl rfl ?_
  refine eb_istore_n (pc := 1) (n := 2) (i := 2) (ls2 := [(2, .int 0), (0, .ref a0), (1, .int x1)]) rfl (Nat.le_of_ble_eq_true rfl) rfl rfl ?_
  refine eb_aload_n (pc := 2) (n := 0) (i := 0) rfl rfl rfl ?_
  refine eb_alen (pc := 3) rfl (by rw [ka0]; decide) (by rw [ka0]; decide) rfl ?_
  refine eb_istore_n (pc := 4) (n := 3) (i := 3) (ls2 := [(3, .int (Int32.ofNat (eb_ln a0))), (2, .int 0), (0, .ref a0), (1, .int x1)]) rfl (Nat.le_of_ble_eq_true rfl) rfl rfl ?_
  exact eb_pick [2, 3, 1, 0] rfl w
theorem b_J7_fill_53178_5 {d : Nat} {h0 h : eb_H} {Q : Option Value → eb_H → Prop} (a0 : Nat) (x1 : Int32) (x2 : Int32) (x3 : Int32) (ka0 : eb_kd a0 = 13) (ko : eb_KO h) (w : ((x3 ≤ x2 → Q none h) ∧ (¬ (x3 ≤ x2) → (vp_in x2 (eb_ln a0)) ∧ eb_Sn d m_J7_fill_53178 h0 5 [(0, .ref a0), (1, .int x1), (2, .int (x2 + 1)), (3, .int x3)] [] (eb_sI h a0 x2.toNatClampNeg x1) Q))) : eb_Sn d m_J7_fill_53178 h0 5 [(0, .ref a0), (1, .int x1), (2, .int x2), (3, .int x3)] [] h Q := by
  refine eb_iload_n (pc := 5) (n := 2) (i := 2) rfl rfl rfl ?_
  refine eb_iload_n (pc := 6) (n := 3) (i := 3) rfl rfl rfl ?_
  refine eb_icmp_ge (pc := 7) (tgt := 20) rfl (by decide) (fun c1 => ?_) (fun c1 => ?_)
  · replace w := w.1 c1
    exact eb_return (pc := 20) rfl rfl w
  · replace w := w.2 c1
    refine eb_aload_n (pc := 10) (n := 0) (i := 0) rfl rfl rfl ?_
    refine eb_iload_n (pc := 11) (n := 2) (i := 2) rfl rfl rfl ?_
    refine eb_iload_n (pc := 12) (n := 1) (i := 1) rfl rfl rfl ?_
    obtain ⟨c2, w⟩ := w
    refine eb_iastore (pc := 13) rfl ka0 (by decide) c2 ?_
    refine eb_iinc (pc := 14) (i := 2) (n := 1) (v := x2 + 1) (ls2 := [(2, .int (x2 + 1)), (0, .ref a0), (1, .int x1), (3, .int x3)]) (Nat.le_of_ble_eq_true rfl) rfl rfl rfl rfl ?_
    refine eb_goto (pc := 17) (tgt := 5) rfl (by decide) ?_
    exact eb_pick [1, 2, 0, 3] rfl w
theorem T_J7_fill_53178 {d : Nat} {h : eb_H} {Q : Option Value → eb_H → Prop} (a0 : Nat) (x1 : Int32) (ka0 : eb_kd a0 = 13) (ko : eb_KO h) (w : eb_Sn d m_J7_fill_53178 h 5 [(0, .ref a0), (1, .int x1), (2, .int 0), (3, .int (Int32.ofNat (eb_ln a0)))] [] h Q) : eb_Ct d 301 [.ref a0, .int x1] h Q :=
  eb_bodyQ (by decide) ok_J7_fill_53178 (Nat.le_of_ble_eq_true rfl) (b_J7_fill_53178_0 (h0 := h) a0 x1 ka0 ko w)
theorem b_J7_fill_031fb_0 {d : Nat} {h0 h : eb_H} {Q : Option Value → eb_H → Prop} (a0 : Nat) (x1 : Int32) (ka0 : eb_kd a0 = 12) (ko : eb_KO h) (w : eb_Sn d m_J7_fill_031fb h0 5 [(0, .ref a0), (1, .int x1), (2, .int 0), (3, .int (Int32.ofNat (eb_ln a0)))] [] h Q) : eb_Sn d m_J7_fill_031fb h0 0 [(0, .ref a0), (1, .int x1)] [] h Q := by
  refine eb_iconst (pc := 0) (n := 0) (v := 0) rfl rfl ?_
  refine eb_istore_n (pc := 1) (n := 2) (i := 2) (ls2 := [(2, .int 0), (0, .ref a0), (1, .int x1)]) rfl (Nat.le_of_ble_eq_true rfl) rfl rfl ?_
  refine eb_aload_n (pc := 2) (n := 0) (i := 0) rfl rfl rfl ?_
  refine eb_alen (pc := 3) rfl (by rw [ka0]; decide) (by rw [ka0]; decide) rfl ?_
  refine eb_istore_n (pc := 4) (n := 3) (i := 3) (ls2 := [(3, .int (Int32.ofNat (eb_ln a0))), (2, .int 0), (0, .ref a0), (1, .int x1)]) rfl (Nat.le_of_ble_eq_true rfl) rfl rfl ?_
  exact eb_pick [2, 3, 1, 0] rfl w
theorem b_J7_fill_031fb_5 {d : Nat} {h0 h : eb_H} {Q : Option Value → eb_H → Prop} (a0 : Nat) (x1 : Int32) (x2 : Int32) (x3 : Int32) (ka0 : eb_kd a0 = 12) (ko : eb_KO h) (w : ((x3 ≤ x2 → Q none h) ∧ (¬ (x3 ≤ x2) → (vp_in x2 (eb_ln a0)) ∧ eb_Sn d m_J7_fill_031fb h0 5 [(0, .ref a0), (1, .int x1), (2, .int (x2 + 1)), (3, .int x3)] [] (eb_sI h a0 x2.toNatClampNeg x1.toInt8.toInt32) Q))) : eb_Sn d m_J7_fill_031fb h0 5 [(0, .ref a0), (1, .int x1), (2, .int x2), (3, .int x3)] [] h Q := by
  refine eb_iload_n (pc := 5) (n := 2) (i := 2) rfl rfl rfl ?_
  refine eb_iload_n (pc := 6) (n := 3) (i := 3) rfl rfl rfl ?_
  refine eb_icmp_ge (pc := 7) (tgt := 20) rfl (by decide) (fun c1 => ?_) (fun c1 => ?_)
  · replace w := w.1 c1
    exact eb_return (pc := 20) rfl rfl w
  · replace w := w.2 c1
    refine eb_aload_n (pc := 10) (n := 0) (i := 0) rfl rfl rfl ?_
    refine eb_iload_n (pc := 11) (n := 2) (i := 2) rfl rfl rfl ?_
    refine eb_iload_n (pc := 12) (n := 1) (i := 1) rfl rfl rfl ?_
    obtain ⟨c2, w⟩ := w
    refine eb_bastore (pc := 13) rfl ka0 c2 ?_
    refine eb_iinc (pc := 14) (i := 2) (n := 1) (v := x2 + 1) (ls2 := [(2, .int (x2 + 1)), (0, .ref a0), (1, .int x1), (3, .int x3)]) (Nat.le_of_ble_eq_true rfl) rfl rfl rfl rfl ?_
    refine eb_goto (pc := 17) (tgt := 5) rfl (by decide) ?_
    exact eb_pick [1, 2, 0, 3] rfl w
theorem T_J7_fill_031fb {d : Nat} {h : eb_H} {Q : Option Value → eb_H → Prop} (a0 : Nat) (x1 : Int32) (ka0 : eb_kd a0 = 12) (ko : eb_KO h) (w : eb_Sn d m_J7_fill_031fb h 5 [(0, .ref a0), (1, .int x1), (2, .int 0), (3, .int (Int32.ofNat (eb_ln a0)))] [] h Q) : eb_Ct d 302 [.ref a0, .int x1] h Q :=
  eb_bodyQ (by decide) ok_J7_fill_031fb (Nat.le_of_ble_eq_true rfl) (b_J7_fill_031fb_0 (h0 := h) a0 x1 ka0 ko w)
theorem b_J7_copyOf_59c91_0 {d : Nat} {h0 h : eb_H} {Q : Option Value → eb_H → Prop} (a0 : Nat) (x1 : Int32) (ka0 : eb_kd a0 = 13) (ko : eb_KO h) (w : (¬ x1 = (Int32.ofNat (eb_ln a0))) ∧ (89 ≤ eb_n h) ∧ (¬ x1 < 0) ∧ (x1.toNatClampNeg < 16384) ∧ (¬ (if x1 < (Int32.ofNat (eb_ln a0)) then x1 else Int32.ofNat (eb_ln a0) : Int32) < 0) ∧ ((0 : Int32).toNatClampNeg + (if x1 < (Int32.ofNat (eb_ln a0)) then x1 else Int32.ofNat (eb_ln a0) : Int32).toNatClampNeg ≤ eb_ln a0) ∧ ((0 : Int32).toNatClampNeg + (if x1 < (Int32.ofNat (eb_ln a0)) then x1 else Int32.ofNat (eb_ln a0) : Int32).toNatClampNeg ≤ eb_ln (eb_nx h 13 x1.toNatClampNeg)) ∧ Q (some (.ref (eb_nx h 13 x1.toNatClampNeg))) (eb_rI (eb_nw h 13 x1.toNatClampNeg x1.toNatClampNeg) (eb_nx h 13 x1.toNatClampNeg) (va_cpy (eb_I (eb_nw h 13 x1.toNatClampNeg x1.toNatClampNeg) a0) (eb_I (eb_nw h 13 x1.toNatClampNeg x1.toNatClampNeg) (eb_nx h 13 x1.toNatClampNeg)) (0 : Int32).toNatClampNeg (0 : Int32).toNatClampNeg (if x1 < (Int32.ofNat (eb_ln a0)) then x1 else Int32.ofNat (eb_ln a0) : Int32).toNatClampNeg))) : eb_Sn (d + 1) m_J7_copyOf_59c91 h0 0 [(0, .ref a0), (1, .int x1)] [] h Q := by
  refine eb_iload_n (pc := 0) (n := 1) (i := 1) rfl rfl rfl ?_
  refine eb_aload_n (pc := 1) (n := 0) (i := 0) rfl rfl rfl ?_
  refine eb_alen (pc := 2) rfl (by rw [ka0]; decide) (by rw [ka0]; decide) rfl ?_
  obtain ⟨c1, w⟩ := w
  refine eb_icmp_ne (pc := 3) (tgt := 14) rfl (by decide) (fun _ => ?_) (fun c => by have c9 := c; contradiction)
  refine eb_iload_n (pc := 14) (n := 1) (i := 1) rfl rfl rfl ?_
  obtain ⟨c2, w⟩ := w
  obtain ⟨c3, w⟩ := w
  obtain ⟨c4, w⟩ := w
  refine eb_newI (pc := 15) (kd := 13) (len := x1.toNatClampNeg) rfl rfl (by decide) c3 rfl c4 ?_
  refine eb_astore_n (pc := 17) (n := 2) (i := 2) (ls2 := [(2, .ref (eb_nx h 13 x1.toNatClampNeg)), (0, .ref a0), (1, .int x1)]) rfl (Nat.le_of_ble_eq_true rfl) rfl rfl ?_
  refine eb_aload_n (pc := 18) (n := 0) (i := 0) rfl rfl rfl ?_
  refine eb_iconst (pc := 19) (n := 0) (v := 0) rfl rfl ?_
  refine eb_aload_n (pc := 20) (n := 2) (i := 2) rfl rfl rfl ?_
  refine eb_iconst (pc := 21) (n := 0) (v := 0) rfl rfl ?_
  refine eb_aload_n (pc := 22) (n := 0) (i := 0) rfl rfl rfl ?_
  refine eb_alen (pc := 23) rfl (by rw [ka0]; decide) (by rw [ka0]; decide) rfl ?_
  refine eb_iload_n (pc := 24) (n := 1) (i := 1) rfl rfl rfl ?_
  refine eb_ctS (pc := 25) (As := [.int (Int32.ofNat (eb_ln a0)), .int x1]) (rest := [.int 0, .ref (eb_nx h 13 x1.toNatClampNeg), .int 0, .ref a0]) rfl (by decide) (by decide) rfl rfl (Nat.le_of_ble_eq_true rfl) ?_
  refine eb_bodyQ (by decide) ok_J9_min_7cf53 (Nat.le_of_ble_eq_true rfl) ?_
  change eb_Sn _ m_J9_min_7cf53 _ 0 [(0, .int (Int32.ofNat (eb_ln a0))), (1, .int x1)] [] _ _
  refine eb_iload_n (pc := 0) (n := 0) (i := 0) rfl rfl rfl ?_
  refine eb_iload_n (pc := 1) (n := 1) (i := 1) rfl rfl rfl ?_
  refine eb_joinI (pc2 := 10) (ls2 := [(0, .int (Int32.ofNat (eb_ln a0))), (1, .int x1)]) (st2 := []) (v := (if x1 < (Int32.ofNat (eb_ln a0)) then x1 else Int32.ofNat (eb_ln a0) : Int32)) ?_ (fun jj6 => ?_)
  · refine eb_ireturn (pc := 10) rfl rfl rfl ?_
    change eb_Sn _ _ _ 28 _ [.int (if x1 < (Int32.ofNat (eb_ln a0)) then x1 else Int32.ofNat (eb_ln a0) : Int32), .int 0, .ref (eb_nx h 13 x1.toNatClampNeg), .int 0, .ref a0] _ _
    obtain ⟨c8, w⟩ := w
    obtain ⟨c9, w⟩ := w
    obtain ⟨c10, w⟩ := w
    refine eb_acopy (pc := 28) rfl (by decide +kernel) (by omega) (eb_mk_kd (by decide)) ka0 (by decide) (by decide) c8 c9 c10 (Nat.le_of_ble_eq_true rfl) ?_
    refine eb_aload_n (pc := 31) (n := 2) (i := 2) rfl rfl rfl ?_
    exact eb_areturn (pc := 32) rfl rfl rfl w
  refine eb_icmp_gt (pc := 2) (tgt := 9) rfl (by decide) (fun c5 => ?_) (fun c5 => ?_)
  · refine eb_iload_n (pc := 9) (n := 1) (i := 1) rfl rfl rfl ?_
    exact jj6 _ (by simp only [if_pos c5])
  · refine eb_iload_n (pc := 5) (n := 0) (i := 0) rfl rfl rfl ?_
    refine eb_goto (pc := 6) (tgt := 10) rfl (by decide) ?_
    exact jj6 _ (by simp only [if_neg c5])
theorem T_J7_copyOf_59c91 {d : Nat} {h : eb_H} {Q : Option Value → eb_H → Prop} (a0 : Nat) (x1 : Int32) (ka0 : eb_kd a0 = 13) (ko : eb_KO h) (w : (¬ x1 = (Int32.ofNat (eb_ln a0))) ∧ (89 ≤ eb_n h) ∧ (¬ x1 < 0) ∧ (x1.toNatClampNeg < 16384) ∧ (¬ (if x1 < (Int32.ofNat (eb_ln a0)) then x1 else Int32.ofNat (eb_ln a0) : Int32) < 0) ∧ ((0 : Int32).toNatClampNeg + (if x1 < (Int32.ofNat (eb_ln a0)) then x1 else Int32.ofNat (eb_ln a0) : Int32).toNatClampNeg ≤ eb_ln a0) ∧ ((0 : Int32).toNatClampNeg + (if x1 < (Int32.ofNat (eb_ln a0)) then x1 else Int32.ofNat (eb_ln a0) : Int32).toNatClampNeg ≤ eb_ln (eb_nx h 13 x1.toNatClampNeg)) ∧ Q (some (.ref (eb_nx h 13 x1.toNatClampNeg))) (eb_rI (eb_nw h 13 x1.toNatClampNeg x1.toNatClampNeg) (eb_nx h 13 x1.toNatClampNeg) (va_cpy (eb_I (eb_nw h 13 x1.toNatClampNeg x1.toNatClampNeg) a0) (eb_I (eb_nw h 13 x1.toNatClampNeg x1.toNatClampNeg) (eb_nx h 13 x1.toNatClampNeg)) (0 : Int32).toNatClampNeg (0 : Int32).toNatClampNeg (if x1 < (Int32.ofNat (eb_ln a0)) then x1 else Int32.ofNat (eb_ln a0) : Int32).toNatClampNeg))) : eb_Ct (d + 1) 303 [.ref a0, .int x1] h Q :=
  eb_bodyQ (by decide) ok_J7_copyOf_59c91 (Nat.le_of_ble_eq_true rfl) (b_J7_copyOf_59c91_0 (h0 := h) a0 x1 ka0 ko w)
