theorem b_X11_whyBy_0 {d : Nat} {h0 h : eb_H} {Q : Option Value → eb_H → Prop} (x1 : Int32) (x2 : Int32) (x3 : Int32)  (ko : eb_KO h) (w : (((¬ (x2.toInt64 < 0)) ∧ (¬ (3 < x2.toInt64)) → eb_Ct d 196 [.ref s_MO, .int (x1 / 64), .int x2] h (fun r h4 => ∃ y5, r = some (.int y5) ∧ eb_KO h4 ∧ ((¬ y5 = ((-1) : Int32) → ((¬ (((x3.toInt64 >>> (y5.toInt64 &&& 63)) &&& 1) = 1) → (((eb_I h4 s_m_all (5 : Int32).toNatClampNeg) = 0 → Q (some (.int 0)) h4) ∧ (¬ ((eb_I h4 s_m_all (5 : Int32).toNatClampNeg) = 0) → eb_Ct d 198 [.ref s_MO, .int 0, .int x1, .int y5] h4 (fun r h11 => ∃ y12, r = some (.int y12) ∧ eb_KO h11 ∧ Q (some (.int (if y12 = 0 then 4 else 0 : Int32))) h11)))) ∧ (((x3.toInt64 >>> (y5.toInt64 &&& 63)) &&& 1) = 1 → Q (some (.int 3)) h4))) ∧ (y5 = ((-1) : Int32) → Q (some (.int 2)) h4)))) ∧ (¬ ((¬ (x2.toInt64 < 0)) ∧ (¬ (3 < x2.toInt64))) → Q (some (.int 1)) h))) : eb_Sn (d + 1) m_X11_whyBy h0 0 [(0, .ref s_MO), (1, .int x1), (2, .int x2), (3, .int x3)] [] h Q := by
  refine eb_iload_n (pc := 0) (n := 2) (i := 2) rfl rfl rfl ?_
  refine eb_i2l (pc := 1) rfl ?_
  refine eb_lconst (pc := 2) (n := 0) (v := 0) rfl rfl ?_
  refine eb_ldc2 (pc := 3) (a := 3) (v := 3) rfl (by decide) ?_
  refine eb_joinI (pc2 := 9) (ls2 := [(0, .ref s_MO), (1, .int x1), (2, .int x2), (3, .int x3)]) (st2 := []) (v := eb_q ((¬ (x2.toInt64 < 0)) ∧ (¬ (3 < x2.toInt64)))) ?_ (fun jj19 => ?_)
  · refine eb_if_ne (pc := 9) (tgt := 14) rfl (by decide) (fun c3 => ?_) (fun c3 => ?_)
    · replace c3 := eb_q1.mp c3
      replace w := w.1 c3
      refine eb_aload_n (pc := 14) (n := 0) (i := 0) rfl rfl rfl ?_
      refine eb_iload_n (pc := 15) (n := 1) (i := 1) rfl rfl rfl ?_
      refine eb_bipush (pc := 16) (n := 64) (v := 64) rfl rfl ?_
      refine eb_idiv (pc := 18) (by decide) rfl ?_
      refine eb_iload_n (pc := 19) (n := 2) (i := 2) rfl rfl rfl ?_
      refine eb_ctV (pc := 20) (As := [.int (x1 / 64), .int x2]) (rest := []) rfl (by decide) rfl rfl (by decide) rfl (Nat.le_of_ble_eq_true rfl) ?_
      refine eb_Ct.mono w ?_
      rintro r h4 ⟨y5, rfl, ko6, w⟩
      change eb_Sn _ _ _ 23 _ [.int y5] _ _
      refine eb_istore (pc := 23) (i := 4) (ls2 := [(4, .int y5), (0, .ref s_MO), (1, .int x1), (2, .int x2), (3, .int x3)]) (Nat.le_of_ble_eq_true rfl) rfl rfl ?_
      refine eb_iload (pc := 25) (i := 4) rfl rfl ?_
      refine eb_iconst (pc := 27) (n := -1) (v := (-1)) rfl rfl ?_
      refine eb_icmp_ne (pc := 28) (tgt := 33) rfl (by decide) (fun c7 => ?_) (fun c7 => ?_)
      · replace w := w.1 c7
        refine eb_iload_n (pc := 33) (n := 3) (i := 3) rfl rfl rfl ?_
        refine eb_i2l (pc := 34) rfl ?_
        refine eb_iload (pc := 35) (i := 4) rfl rfl ?_
        refine eb_joinI (pc2 := 40) (ls2 := [(4, .int y5), (0, .ref s_MO), (1, .int x1), (2, .int x2), (3, .int x3)]) (st2 := []) (v := eb_q (((x3.toInt64 >>> (y5.toInt64 &&& 63)) &&& 1) = 1)) ?_ (fun jj17 => ?_)
        · refine eb_if_eq (pc := 40) (tgt := 45) rfl (by decide) (fun c9 => ?_) (fun c9 => ?_)
          · replace c9 := eb_q0.mp c9
            replace w := w.1 c9
            refine eb_aload_n (pc := 45) (n := 0) (i := 0) rfl rfl rfl ?_
            refine eb_getR (pc := 46) rfl rfl (by decide) (by decide) rfl (ko_s_MO_1 ko6) ?_
            refine eb_iconst (pc := 49) (n := 5) (v := 5) rfl rfl ?_
            refine eb_iaload (pc := 50) rfl rfl (by decide) (by unfold vp_in; decide) ?_
            refine eb_if_eq (pc := 51) (tgt := 65) rfl (by decide) (fun c10 => ?_) (fun c10 => ?_)
            · replace w := w.1 c10
              refine eb_iconst (pc := 65) (n := 0) (v := 0) rfl rfl ?_
              refine eb_goto (pc := 66) (tgt := 70) rfl (by decide) ?_
              exact eb_ireturn (pc := 70) rfl rfl rfl w
            · replace w := w.2 c10
              refine eb_aload_n (pc := 54) (n := 0) (i := 0) rfl rfl rfl ?_
              refine eb_iconst (pc := 55) (n := 0) (v := 0) rfl rfl ?_
              refine eb_iload_n (pc := 56) (n := 1) (i := 1) rfl rfl rfl ?_
              refine eb_iload (pc := 57) (i := 4) rfl rfl ?_
              refine eb_ctV (pc := 59) (As := [.int 0, .int x1, .int y5]) (rest := []) rfl (by decide) rfl rfl (by decide) rfl (Nat.le_of_ble_eq_true rfl) ?_
              refine eb_Ct.mono w ?_
              rintro r h11 ⟨y12, rfl, ko13, w⟩
              change eb_Sn _ _ _ 62 _ [.int y12] _ _
              refine eb_joinI (pc2 := 70) (ls2 := [(4, .int y5), (0, .ref s_MO), (1, .int x1), (2, .int x2), (3, .int x3)]) (st2 := []) (v := (if y12 = 0 then 4 else 0 : Int32)) ?_ (fun jj15 => ?_)
              · exact eb_ireturn (pc := 70) rfl rfl rfl w
              refine eb_if_eq (pc := 62) (tgt := 69) rfl (by decide) (fun c14 => ?_) (fun c14 => ?_)
              · refine eb_iconst (pc := 69) (n := 4) (v := 4) rfl rfl ?_
                exact jj15 _ (by simp only [if_pos c14])
              · refine eb_iconst (pc := 65) (n := 0) (v := 0) rfl rfl ?_
                refine eb_goto (pc := 66) (tgt := 70) rfl (by decide) ?_
                exact jj15 _ (by simp only [if_neg c14])
          · replace c9 := eb_q1.mp c9
            replace w := w.2 c9
            refine eb_iconst (pc := 43) (n := 3) (v := 3) rfl rfl ?_
            exact eb_ireturn (pc := 44) rfl rfl rfl w
        refine eb_ctS (pc := 37) (As := [.long x3.toInt64, .int y5]) (rest := []) rfl (by decide) (by decide) rfl rfl (Nat.le_of_ble_eq_true rfl) ?_
        refine eb_bodyQ (by decide) ok_X11_isIn (Nat.le_of_ble_eq_true rfl) ?_
        change eb_Sn _ m_X11_isIn _ 0 [(0, .long x3.toInt64), (2, .int y5)] [] _ _
        refine eb_lload_n (pc := 0) (n := 0) (i := 0) rfl rfl rfl ?_
        refine eb_iload_n (pc := 1) (n := 2) (i := 2) rfl rfl rfl ?_
        refine eb_lshr (pc := 2) rfl ?_
        refine eb_lconst (pc := 3) (n := 1) (v := 1) rfl rfl ?_
        refine eb_land (pc := 4) rfl ?_
        refine eb_lconst (pc := 5) (n := 1) (v := 1) rfl rfl ?_
        refine eb_lcmp (pc := 6) rfl ?_
        refine eb_if_ne (pc := 7) (tgt := 14) rfl (by decide) (fun c8 => ?_) (fun c8 => ?_)
        · replace c8 := eb_lc_ne.mp c8
          refine eb_iconst (pc := 14) (n := 0) (v := 0) rfl rfl ?_
          refine eb_ireturn (pc := 15) rfl rfl (by decide) ?_
          change eb_Sn _ _ _ 40 _ _ _ _
          exact jj17 0 (eb_qf c8).symm
        · replace c8 := eb_lc_eq.mp c8
          refine eb_iconst (pc := 10) (n := 1) (v := 1) rfl rfl ?_
          refine eb_goto (pc := 11) (tgt := 15) rfl (by decide) ?_
          refine eb_ireturn (pc := 15) rfl rfl (by decide) ?_
          change eb_Sn _ _ _ 40 _ _ _ _
          exact jj17 1 (eb_qt c8).symm
      · replace w := w.2 c7
        refine eb_iconst (pc := 31) (n := 2) (v := 2) rfl rfl ?_
        exact eb_ireturn (pc := 32) rfl rfl rfl w
    · replace c3 := eb_q0.mp c3
      replace w := w.2 c3
      refine eb_iconst (pc := 12) (n := 1) (v := 1) rfl rfl ?_
      exact eb_ireturn (pc := 13) rfl rfl rfl w
  refine eb_ctS (pc := 6) (As := [.long x2.toInt64, .long 0, .long 3]) (rest := []) rfl (by decide) (by decide) rfl rfl (Nat.le_of_ble_eq_true rfl) ?_
  refine eb_bodyQ (by decide) ok_X11_within (Nat.le_of_ble_eq_true rfl) ?_
  change eb_Sn _ m_X11_within _ 0 [(0, .long x2.toInt64), (2, .long 0), (4, .long 3)] [] _ _
  refine eb_lload_n (pc := 0) (n := 0) (i := 0) rfl rfl rfl ?_
  refine eb_lload_n (pc := 1) (n := 2) (i := 2) rfl rfl rfl ?_
  refine eb_lcmp (pc := 2) rfl ?_
  refine eb_if_lt (pc := 3) (tgt := 17) rfl (by decide) (fun c1 => ?_) (fun c1 => ?_)
  · replace c1 := eb_lc_lt.mp c1
    refine eb_iconst (pc := 17) (n := 0) (v := 0) rfl rfl ?_
    refine eb_ireturn (pc := 18) rfl rfl (by decide) ?_
    change eb_Sn _ _ _ 9 _ _ _ _
    exact jj19 0 (eb_qf (fun z => z.1 c1)).symm
  · replace c1 := (fun hh => mt eb_lc_lt.mpr hh) c1
    refine eb_lload_n (pc := 6) (n := 0) (i := 0) rfl rfl rfl ?_
    refine eb_lload (pc := 7) (i := 4) rfl rfl ?_
    refine eb_lcmp (pc := 9) rfl ?_
    refine eb_if_gt (pc := 10) (tgt := 17) rfl (by decide) (fun c2 => ?_) (fun c2 => ?_)
    · replace c2 := eb_lc_gt.mp c2
      refine eb_iconst (pc := 17) (n := 0) (v := 0) rfl rfl ?_
      refine eb_ireturn (pc := 18) rfl rfl (by decide) ?_
      change eb_Sn _ _ _ 9 _ _ _ _
      exact jj19 0 (eb_qf (fun z => (fun z => z c2) z.2)).symm
    · replace c2 := (fun hh => mt eb_lc_gt.mpr hh) c2
      refine eb_iconst (pc := 13) (n := 1) (v := 1) rfl rfl ?_
      refine eb_goto (pc := 14) (tgt := 18) rfl (by decide) ?_
      refine eb_ireturn (pc := 18) rfl rfl (by decide) ?_
      change eb_Sn _ _ _ 9 _ _ _ _
      exact jj19 1 (eb_qt (⟨c1, c2⟩)).symm
theorem T_X11_whyBy {d : Nat} {h : eb_H} {Q : Option Value → eb_H → Prop} (x1 : Int32) (x2 : Int32) (x3 : Int32)  (ko : eb_KO h) (w : (((¬ (x2.toInt64 < 0)) ∧ (¬ (3 < x2.toInt64)) → eb_Ct d 196 [.ref s_MO, .int (x1 / 64), .int x2] h (fun r h4 => ∃ y5, r = some (.int y5) ∧ eb_KO h4 ∧ ((¬ y5 = ((-1) : Int32) → ((¬ (((x3.toInt64 >>> (y5.toInt64 &&& 63)) &&& 1) = 1) → (((eb_I h4 s_m_all (5 : Int32).toNatClampNeg) = 0 → Q (some (.int 0)) h4) ∧ (¬ ((eb_I h4 s_m_all (5 : Int32).toNatClampNeg) = 0) → eb_Ct d 198 [.ref s_MO, .int 0, .int x1, .int y5] h4 (fun r h11 => ∃ y12, r = some (.int y12) ∧ eb_KO h11 ∧ Q (some (.int (if y12 = 0 then 4 else 0 : Int32))) h11)))) ∧ (((x3.toInt64 >>> (y5.toInt64 &&& 63)) &&& 1) = 1 → Q (some (.int 3)) h4))) ∧ (y5 = ((-1) : Int32) → Q (some (.int 2)) h4)))) ∧ (¬ ((¬ (x2.toInt64 < 0)) ∧ (¬ (3 < x2.toInt64))) → Q (some (.int 1)) h))) : eb_Ct (d + 1) 199 [.ref s_MO, .int x1, .int x2, .int x3] h Q :=
  eb_bodyQ (by decide) ok_X11_whyBy (Nat.le_of_ble_eq_true rfl) (b_X11_whyBy_0 (h0 := h) x1 x2 x3  ko w)
theorem b_X11_stepTo_0 {d : Nat} {h0 h : eb_H} {Q : Option Value → eb_H → Prop} (x1 : Int32) (x2 : Int32)  (ko : eb_KO h) (w : eb_Ct d 196 [.ref s_MO, .int (x1 / 64), .int x2] h (fun r h1 => ∃ y2, r = some (.int y2) ∧ eb_KO h1 ∧ (vp_in ((34 : Int32) + y2) 3492) ∧ (((eb_I h1 s_m_all ((34 : Int32) + y2).toNatClampNeg) ≤ 0 → Q (some (.int (((64 : Int32) * y2) + (x1 - x1 / 64 * 64)))) h1) ∧ (¬ ((eb_I h1 s_m_all ((34 : Int32) + y2).toNatClampNeg) ≤ 0) → ((((((x1 - x1 / 64 * 64).toInt64) >>> (((eb_I h1 s_m_all ((34 : Int32) + y2).toNatClampNeg) - 1).toInt64 &&& 63)) &&& 1) = 1 → Q (some (.int (((64 : Int32) * y2) + (x1 - x1 / 64 * 64)))) h1) ∧ (¬ (((((x1 - x1 / 64 * 64).toInt64) >>> (((eb_I h1 s_m_all ((34 : Int32) + y2).toNatClampNeg) - 1).toInt64 &&& 63)) &&& 1) = 1) → eb_Ct d 194 [.int (x1 - x1 / 64 * 64)] h1 (fun r h8 => ∃ y9, r = some (.int y9) ∧ eb_KO h8 ∧ (((eb_I h8 s_m_all (3 : Int32).toNatClampNeg) ≤ y9 → Q (some (.int (((64 : Int32) * y2) + (x1 - x1 / 64 * 64)))) h8) ∧ (¬ ((eb_I h8 s_m_all (3 : Int32).toNatClampNeg) ≤ y9) → (((eb_I h8 s_m_all (6 : Int32).toNatClampNeg) = 0 → Q (some (.int (((64 : Int32) * y2) + ((x1 - x1 / 64 * 64) ||| ((1 : Int32) <<< (((eb_I h1 s_m_all ((34 : Int32) + y2).toNatClampNeg) - 1) &&& 31)))))) h8) ∧ (¬ ((eb_I h8 s_m_all (6 : Int32).toNatClampNeg) = 0) → eb_Ct d 198 [.ref s_MO, .int 1, .int x1, .int y2] h8 (fun r h13 => ∃ y14, r = some (.int y14) ∧ eb_KO h13 ∧ Q (some (.int (((64 : Int32) * y2) + (if ¬ (y14 = 0) then (x1 - x1 / 64 * 64) ||| ((1 : Int32) <<< (((eb_I h1 s_m_all ((34 : Int32) + y2).toNatClampNeg) - 1) &&& 31)) else x1 - x1 / 64 * 64 : Int32)))) h13)))))))))))) : eb_Sn (d + 1) m_X11_stepTo h0 0 [(0, .ref s_MO), (1, .int x1), (2, .int x2)] [] h Q := by
  refine eb_aload_n (pc := 0) (n := 0) (i := 0) rfl rfl rfl ?_
  refine eb_iload_n (pc := 1) (n := 1) (i := 1) rfl rfl rfl ?_
  refine eb_bipush (pc := 2) (n := 64) (v := 64) rfl rfl ?_
  refine eb_idiv (pc := 4) (by decide) rfl ?_
  refine eb_iload_n (pc := 5) (n := 2) (i := 2) rfl rfl rfl ?_
  refine eb_ctV (pc := 6) (As := [.int (x1 / 64), .int x2]) (rest := []) rfl (by decide) rfl rfl (by decide) rfl (Nat.le_of_ble_eq_true rfl) ?_
  refine eb_Ct.mono w ?_
  rintro r h1 ⟨y2, rfl, ko3, w⟩
  change eb_Sn _ _ _ 9 _ [.int y2] _ _
  refine eb_istore_n (pc := 9) (n := 3) (i := 3) (ls2 := [(3, .int y2), (0, .ref s_MO), (1, .int x1), (2, .int x2)]) rfl (Nat.le_of_ble_eq_true rfl) rfl rfl ?_
  refine eb_iload_n (pc := 10) (n := 1) (i := 1) rfl rfl rfl ?_
  refine eb_bipush (pc := 11) (n := 64) (v := 64) rfl rfl ?_
  refine eb_irem (pc := 13) (by decide) rfl ?_
  refine eb_istore (pc := 14) (i := 4) (ls2 := [(4, .int (x1 - x1 / 64 * 64)), (3, .int y2), (0, .ref s_MO), (1, .int x1), (2, .int x2)]) (Nat.le_of_ble_eq_true rfl) rfl rfl ?_
  refine eb_aload_n (pc := 16) (n := 0) (i := 0) rfl rfl rfl ?_
  refine eb_getR (pc := 17) rfl rfl (by decide) (by decide) rfl (ko_s_MO_1 ko3) ?_
  refine eb_bipush (pc := 20) (n := 34) (v := 34) rfl rfl ?_
  refine eb_iload_n (pc := 22) (n := 3) (i := 3) rfl rfl rfl ?_
  refine eb_iadd (pc := 23) rfl ?_
  obtain ⟨c4, w⟩ := w
  refine eb_iaload (pc := 24) rfl rfl (by decide) c4 ?_
  refine eb_istore (pc := 25) (i := 5) (ls2 := [(5, .int (eb_I h1 s_m_all ((34 : Int32) + y2).toNatClampNeg)), (4, .int (x1 - x1 / 64 * 64)), (3, .int y2), (0, .ref s_MO), (1, .int x1), (2, .int x2)]) (Nat.le_of_ble_eq_true rfl) rfl rfl ?_
  refine eb_iload (pc := 27) (i := 5) rfl rfl ?_
  refine eb_if_le (pc := 29) (tgt := 83) rfl (by decide) (fun c5 => ?_) (fun c5 => ?_)
  · replace w := w.1 c5
    refine eb_iconst (pc := 83) (n := 0) (v := 0) rfl rfl ?_
    refine eb_istore (pc := 84) (i := 6) (ls2 := [(6, .int 0), (5, .int (eb_I h1 s_m_all ((34 : Int32) + y2).toNatClampNeg)), (4, .int (x1 - x1 / 64 * 64)), (3, .int y2), (0, .ref s_MO), (1, .int x1), (2, .int x2)]) (Nat.le_of_ble_eq_true rfl) rfl rfl ?_
    refine eb_bipush (pc := 86) (n := 64) (v := 64) rfl rfl ?_
    refine eb_iload_n (pc := 88) (n := 3) (i := 3) rfl rfl rfl ?_
    refine eb_imul (pc := 89) rfl ?_
    refine eb_iload (pc := 90) (i := 6) rfl rfl ?_
    refine eb_if_eq (pc := 92) (tgt := 107) rfl (by decide) (fun c => ?_) (fun c => absurd c (by decide))
    refine eb_iload (pc := 107) (i := 4) rfl rfl ?_
    refine eb_iadd (pc := 109) rfl ?_
    exact eb_ireturn (pc := 110) rfl rfl rfl w
  · replace w := w.2 c5
    refine eb_iload (pc := 32) (i := 4) rfl rfl ?_
    refine eb_i2l (pc := 34) rfl ?_
    refine eb_iload (pc := 35) (i := 5) rfl rfl ?_
    refine eb_iconst (pc := 37) (n := 1) (v := 1) rfl rfl ?_
    refine eb_isub (pc := 38) rfl ?_
    refine eb_joinI (pc2 := 42) (ls2 := [(5, .int (eb_I h1 s_m_all ((34 : Int32) + y2).toNatClampNeg)), (4, .int (x1 - x1 / 64 * 64)), (3, .int y2), (0, .ref s_MO), (1, .int x1), (2, .int x2)]) (st2 := []) (v := eb_q (((((x1 - x1 / 64 * 64).toInt64) >>> (((eb_I h1 s_m_all ((34 : Int32) + y2).toNatClampNeg) - 1).toInt64 &&& 63)) &&& 1) = 1)) ?_ (fun jj22 => ?_)
    · refine eb_if_ne (pc := 42) (tgt := 83) rfl (by decide) (fun c7 => ?_) (fun c7 => ?_)
      · replace c7 := eb_q1.mp c7
        replace w := w.1 c7
        refine eb_iconst (pc := 83) (n := 0) (v := 0) rfl rfl ?_
        refine eb_istore (pc := 84) (i := 6) (ls2 := [(6, .int 0), (5, .int (eb_I h1 s_m_all ((34 : Int32) + y2).toNatClampNeg)), (4, .int (x1 - x1 / 64 * 64)), (3, .int y2), (0, .ref s_MO), (1, .int x1), (2, .int x2)]) (Nat.le_of_ble_eq_true rfl) rfl rfl ?_
        refine eb_bipush (pc := 86) (n := 64) (v := 64) rfl rfl ?_
        refine eb_iload_n (pc := 88) (n := 3) (i := 3) rfl rfl rfl ?_
        refine eb_imul (pc := 89) rfl ?_
        refine eb_iload (pc := 90) (i := 6) rfl rfl ?_
        refine eb_if_eq (pc := 92) (tgt := 107) rfl (by decide) (fun c => ?_) (fun c => absurd c (by decide))
        refine eb_iload (pc := 107) (i := 4) rfl rfl ?_
        refine eb_iadd (pc := 109) rfl ?_
        exact eb_ireturn (pc := 110) rfl rfl rfl w
      · replace c7 := eb_q0.mp c7
        replace w := w.2 c7
        refine eb_iload (pc := 45) (i := 4) rfl rfl ?_
        refine eb_ctS (pc := 47) (As := [.int (x1 - x1 / 64 * 64)]) (rest := []) rfl (by decide) (by decide) rfl rfl (Nat.le_of_ble_eq_true rfl) ?_
        refine eb_Ct.mono w ?_
        rintro r h8 ⟨y9, rfl, ko10, w⟩
        change eb_Sn _ _ _ 50 _ [.int y9] _ _
        refine eb_aload_n (pc := 50) (n := 0) (i := 0) rfl rfl rfl ?_
        refine eb_getR (pc := 51) rfl rfl (by decide) (by decide) rfl (ko_s_MO_1 ko10) ?_
        refine eb_iconst (pc := 54) (n := 3) (v := 3) rfl rfl ?_
        refine eb_iaload (pc := 55) rfl rfl (by decide) (by unfold vp_in; decide) ?_
        refine eb_icmp_ge (pc := 56) (tgt := 83) rfl (by decide) (fun c11 => ?_) (fun c11 => ?_)
        · replace w := w.1 c11
          refine eb_iconst (pc := 83) (n := 0) (v := 0) rfl rfl ?_
          refine eb_istore (pc := 84) (i := 6) (ls2 := [(6, .int 0), (5, .int (eb_I h1 s_m_all ((34 : Int32) + y2).toNatClampNeg)), (4, .int (x1 - x1 / 64 * 64)), (3, .int y2), (0, .ref s_MO), (1, .int x1), (2, .int x2)]) (Nat.le_of_ble_eq_true rfl) rfl rfl ?_
          refine eb_bipush (pc := 86) (n := 64) (v := 64) rfl rfl ?_
          refine eb_iload_n (pc := 88) (n := 3) (i := 3) rfl rfl rfl ?_
          refine eb_imul (pc := 89) rfl ?_
          refine eb_iload (pc := 90) (i := 6) rfl rfl ?_
          refine eb_if_eq (pc := 92) (tgt := 107) rfl (by decide) (fun c => ?_) (fun c => absurd c (by decide))
          refine eb_iload (pc := 107) (i := 4) rfl rfl ?_
          refine eb_iadd (pc := 109) rfl ?_
          exact eb_ireturn (pc := 110) rfl rfl rfl w
        · replace w := w.2 c11
          refine eb_aload_n (pc := 59) (n := 0) (i := 0) rfl rfl rfl ?_
          refine eb_getR (pc := 60) rfl rfl (by decide) (by decide) rfl (ko_s_MO_1 ko10) ?_
          refine eb_bipush (pc := 63) (n := 6) (v := 6) rfl rfl ?_
          refine eb_iaload (pc := 65) rfl rfl (by decide) (by unfold vp_in; decide) ?_
          refine eb_if_eq (pc := 66) (tgt := 79) rfl (by decide) (fun c12 => ?_) (fun c12 => ?_)
          · replace w := w.1 c12
            refine eb_iconst (pc := 79) (n := 1) (v := 1) rfl rfl ?_
            refine eb_goto (pc := 80) (tgt := 84) rfl (by decide) ?_
            refine eb_istore (pc := 84) (i := 6) (ls2 := [(6, .int 1), (5, .int (eb_I h1 s_m_all ((34 : Int32) + y2).toNatClampNeg)), (4, .int (x1 - x1 / 64 * 64)), (3, .int y2), (0, .ref s_MO), (1, .int x1), (2, .int x2)]) (Nat.le_of_ble_eq_true rfl) rfl rfl ?_
            refine eb_bipush (pc := 86) (n := 64) (v := 64) rfl rfl ?_
            refine eb_iload_n (pc := 88) (n := 3) (i := 3) rfl rfl rfl ?_
            refine eb_imul (pc := 89) rfl ?_
            refine eb_iload (pc := 90) (i := 6) rfl rfl ?_
            refine eb_if_eq (pc := 92) (tgt := 107) rfl (by decide) (fun c => absurd c (by decide)) (fun c => ?_)
            refine eb_iload (pc := 95) (i := 4) rfl rfl ?_
            refine eb_iconst (pc := 97) (n := 1) (v := 1) rfl rfl ?_
            refine eb_iload (pc := 98) (i := 5) rfl rfl ?_
            refine eb_iconst (pc := 100) (n := 1) (v := 1) rfl rfl ?_
            refine eb_isub (pc := 101) rfl ?_
            refine eb_ishl (pc := 102) rfl ?_
            refine eb_ior (pc := 103) rfl ?_
            refine eb_goto (pc := 104) (tgt := 109) rfl (by decide) ?_
            refine eb_iadd (pc := 109) rfl ?_
            exact eb_ireturn (pc := 110) rfl rfl rfl w
          · replace w := w.2 c12
            refine eb_aload_n (pc := 69) (n := 0) (i := 0) rfl rfl rfl ?_
            refine eb_iconst (pc := 70) (n := 1) (v := 1) rfl rfl ?_
            refine eb_iload_n (pc := 71) (n := 1) (i := 1) rfl rfl rfl ?_
            refine eb_iload_n (pc := 72) (n := 3) (i := 3) rfl rfl rfl ?_
            refine eb_ctV (pc := 73) (As := [.int 1, .int x1, .int y2]) (rest := []) rfl (by decide) rfl rfl (by decide) rfl (Nat.le_of_ble_eq_true rfl) ?_
            refine eb_Ct.mono w ?_
            rintro r h13 ⟨y14, rfl, ko15, w⟩
            change eb_Sn _ _ _ 76 _ [.int y14] _ _
            refine eb_joinI (pc2 := 84) (ls2 := [(5, .int (eb_I h1 s_m_all ((34 : Int32) + y2).toNatClampNeg)), (4, .int (x1 - x1 / 64 * 64)), (3, .int y2), (0, .ref s_MO), (1, .int x1), (2, .int x2)]) (st2 := []) (v := eb_q (¬ (y14 = 0))) ?_ (fun jj17 => ?_)
            · refine eb_istore (pc := 84) (i := 6) (ls2 := [(6, .int (eb_q (¬ (y14 = 0)))), (5, .int (eb_I h1 s_m_all ((34 : Int32) + y2).toNatClampNeg)), (4, .int (x1 - x1 / 64 * 64)), (3, .int y2), (0, .ref s_MO), (1, .int x1), (2, .int x2)]) (Nat.le_of_ble_eq_true rfl) rfl rfl ?_
              refine eb_bipush (pc := 86) (n := 64) (v := 64) rfl rfl ?_
              refine eb_iload_n (pc := 88) (n := 3) (i := 3) rfl rfl rfl ?_
              refine eb_imul (pc := 89) rfl ?_
              refine eb_iload (pc := 90) (i := 6) rfl rfl ?_
              refine eb_joinI (pc2 := 109) (ls2 := [(6, .int (eb_q (¬ (y14 = 0)))), (5, .int (eb_I h1 s_m_all ((34 : Int32) + y2).toNatClampNeg)), (4, .int (x1 - x1 / 64 * 64)), (3, .int y2), (0, .ref s_MO), (1, .int x1), (2, .int x2)]) (st2 := [.int ((64 : Int32) * y2)]) (v := (if ¬ (y14 = 0) then (x1 - x1 / 64 * 64) ||| ((1 : Int32) <<< (((eb_I h1 s_m_all ((34 : Int32) + y2).toNatClampNeg) - 1) &&& 31)) else x1 - x1 / 64 * 64 : Int32)) ?_ (fun jj20 => ?_)
              · refine eb_iadd (pc := 109) rfl ?_
                exact eb_ireturn (pc := 110) rfl rfl rfl w
              refine eb_if_eq (pc := 92) (tgt := 107) rfl (by decide) (fun c19 => ?_) (fun c19 => ?_)
              · replace c19 := eb_q0.mp c19
                refine eb_iload (pc := 107) (i := 4) rfl rfl ?_
                exact jj20 _ (by simp only [if_neg c19])
              · replace c19 := eb_q1.mp c19
                refine eb_iload (pc := 95) (i := 4) rfl rfl ?_
                refine eb_iconst (pc := 97) (n := 1) (v := 1) rfl rfl ?_
                refine eb_iload (pc := 98) (i := 5) rfl rfl ?_
                refine eb_iconst (pc := 100) (n := 1) (v := 1) rfl rfl ?_
                refine eb_isub (pc := 101) rfl ?_
                refine eb_ishl (pc := 102) rfl ?_
                refine eb_ior (pc := 103) rfl ?_
                refine eb_goto (pc := 104) (tgt := 109) rfl (by decide) ?_
                exact jj20 _ (by simp only [if_pos c19])
            refine eb_if_eq (pc := 76) (tgt := 83) rfl (by decide) (fun c16 => ?_) (fun c16 => ?_)
            · refine eb_iconst (pc := 83) (n := 0) (v := 0) rfl rfl ?_
              exact jj17 0 (eb_qf (fun z => z c16)).symm
            · refine eb_iconst (pc := 79) (n := 1) (v := 1) rfl rfl ?_
              refine eb_goto (pc := 80) (tgt := 84) rfl (by decide) ?_
              exact jj17 1 (eb_qt c16).symm
    refine eb_ctS (pc := 39) (As := [.long ((x1 - x1 / 64 * 64).toInt64), .int ((eb_I h1 s_m_all ((34 : Int32) + y2).toNatClampNeg) - 1)]) (rest := []) rfl (by decide) (by decide) rfl rfl (Nat.le_of_ble_eq_true rfl) ?_
    refine eb_bodyQ (by decide) ok_X11_isIn (Nat.le_of_ble_eq_true rfl) ?_
    change eb_Sn _ m_X11_isIn _ 0 [(0, .long ((x1 - x1 / 64 * 64).toInt64)), (2, .int ((eb_I h1 s_m_all ((34 : Int32) + y2).toNatClampNeg) - 1))] [] _ _
    refine eb_lload_n (pc := 0) (n := 0) (i := 0) rfl rfl rfl ?_
    refine eb_iload_n (pc := 1) (n := 2) (i := 2) rfl rfl rfl ?_
    refine eb_lshr (pc := 2) rfl ?_
    refine eb_lconst (pc := 3) (n := 1) (v := 1) rfl rfl ?_
    refine eb_land (pc := 4) rfl ?_
    refine eb_lconst (pc := 5) (n := 1) (v := 1) rfl rfl ?_
    refine eb_lcmp (pc := 6) rfl ?_
    refine eb_if_ne (pc := 7) (tgt := 14) rfl (by decide) (fun c6 => ?_) (fun c6 => ?_)
    · replace c6 := eb_lc_ne.mp c6
      refine eb_iconst (pc := 14) (n := 0) (v := 0) rfl rfl ?_
      refine eb_ireturn (pc := 15) rfl rfl (by decide) ?_
      change eb_Sn _ _ _ 42 _ _ _ _
      exact jj22 0 (eb_qf c6).symm
    · replace c6 := eb_lc_eq.mp c6
      refine eb_iconst (pc := 10) (n := 1) (v := 1) rfl rfl ?_
      refine eb_goto (pc := 11) (tgt := 15) rfl (by decide) ?_
      refine eb_ireturn (pc := 15) rfl rfl (by decide) ?_
      change eb_Sn _ _ _ 42 _ _ _ _
      exact jj22 1 (eb_qt c6).symm
theorem T_X11_stepTo {d : Nat} {h : eb_H} {Q : Option Value → eb_H → Prop} (x1 : Int32) (x2 : Int32)  (ko : eb_KO h) (w : eb_Ct d 196 [.ref s_MO, .int (x1 / 64), .int x2] h (fun r h1 => ∃ y2, r = some (.int y2) ∧ eb_KO h1 ∧ (vp_in ((34 : Int32) + y2) 3492) ∧ (((eb_I h1 s_m_all ((34 : Int32) + y2).toNatClampNeg) ≤ 0 → Q (some (.int (((64 : Int32) * y2) + (x1 - x1 / 64 * 64)))) h1) ∧ (¬ ((eb_I h1 s_m_all ((34 : Int32) + y2).toNatClampNeg) ≤ 0) → ((((((x1 - x1 / 64 * 64).toInt64) >>> (((eb_I h1 s_m_all ((34 : Int32) + y2).toNatClampNeg) - 1).toInt64 &&& 63)) &&& 1) = 1 → Q (some (.int (((64 : Int32) * y2) + (x1 - x1 / 64 * 64)))) h1) ∧ (¬ (((((x1 - x1 / 64 * 64).toInt64) >>> (((eb_I h1 s_m_all ((34 : Int32) + y2).toNatClampNeg) - 1).toInt64 &&& 63)) &&& 1) = 1) → eb_Ct d 194 [.int (x1 - x1 / 64 * 64)] h1 (fun r h8 => ∃ y9, r = some (.int y9) ∧ eb_KO h8 ∧ (((eb_I h8 s_m_all (3 : Int32).toNatClampNeg) ≤ y9 → Q (some (.int (((64 : Int32) * y2) + (x1 - x1 / 64 * 64)))) h8) ∧ (¬ ((eb_I h8 s_m_all (3 : Int32).toNatClampNeg) ≤ y9) → (((eb_I h8 s_m_all (6 : Int32).toNatClampNeg) = 0 → Q (some (.int (((64 : Int32) * y2) + ((x1 - x1 / 64 * 64) ||| ((1 : Int32) <<< (((eb_I h1 s_m_all ((34 : Int32) + y2).toNatClampNeg) - 1) &&& 31)))))) h8) ∧ (¬ ((eb_I h8 s_m_all (6 : Int32).toNatClampNeg) = 0) → eb_Ct d 198 [.ref s_MO, .int 1, .int x1, .int y2] h8 (fun r h13 => ∃ y14, r = some (.int y14) ∧ eb_KO h13 ∧ Q (some (.int (((64 : Int32) * y2) + (if ¬ (y14 = 0) then (x1 - x1 / 64 * 64) ||| ((1 : Int32) <<< (((eb_I h1 s_m_all ((34 : Int32) + y2).toNatClampNeg) - 1) &&& 31)) else x1 - x1 / 64 * 64 : Int32)))) h13)))))))))))) : eb_Ct (d + 1) 200 [.ref s_MO, .int x1, .int x2] h Q :=
  eb_bodyQ (by decide) ok_X11_stepTo (Nat.le_of_ble_eq_true rfl) (b_X11_stepTo_0 (h0 := h) x1 x2  ko w)
theorem b_X11_cell_0 {d : Nat} {h0 h : eb_H} {Q : Option Value → eb_H → Prop} (x1 : Int32) (x2 : Int32)  (ko : eb_KO h) (w : (((¬ (x1.toInt64 < 0)) ∧ (¬ (((((eb_I (eb_sI h s_MO 0 0) s_m_all (1 : Int32).toNatClampNeg) * (eb_I (eb_sI h s_MO 0 0) s_m_all (2 : Int32).toNatClampNeg)) - 1).toInt64) < x1.toInt64)) → ((¬ x2 = (3 : Int32) → ((¬ x2 = 0 → ((¬ x2 = (1 : Int32) → Q (some (.int (if x2 = (2 : Int32) then ((eb_I (eb_sI h s_MO 0 0) s_m_all (50 : Int32).toNatClampNeg) >>> (x1 &&& 31)) &&& 1 else (-2) : Int32))) (eb_sI h s_MO 0 0)) ∧ (x2 = (1 : Int32) → (vp_in ((34 : Int32) + x1) 3492) ∧ Q (some (.int (eb_I (eb_sI h s_MO 0 0) s_m_all ((34 : Int32) + x1).toNatClampNeg))) (eb_sI h s_MO 0 0)))) ∧ (x2 = 0 → (vp_in ((11 : Int32) + x1) 3492) ∧ Q (some (.int (eb_I (eb_sI h s_MO 0 0) s_m_all ((11 : Int32) + x1).toNatClampNeg))) (eb_sI h s_MO 0 0)))) ∧ (x2 = (3 : Int32) → eb_Sn (d + 2) m_X11_cell h0 24 [(0, .ref s_MO), (1, .int x1), (3, .int 0)] [] (eb_sI h s_MO 0 0) Q))) ∧ (¬ ((¬ (x1.toInt64 < 0)) ∧ (¬ (((((eb_I (eb_sI h s_MO 0 0) s_m_all (1 : Int32).toNatClampNeg) * (eb_I (eb_sI h s_MO 0 0) s_m_all (2 : Int32).toNatClampNeg)) - 1).toInt64) < x1.toInt64))) → Q (some (.int (-2))) (eb_sI h s_MO 0 0)))) : eb_Sn (d + 2) m_X11_cell h0 0 [(0, .ref s_MO), (1, .int x1), (2, .int x2)] [] h Q := by
  refine eb_aload_n (pc := 0) (n := 0) (i := 0) rfl rfl rfl ?_
  refine eb_iconst (pc := 1) (n := 0) (v := 0) rfl rfl ?_
  refine eb_putI (pc := 2) rfl rfl (by decide) (by decide) rfl rfl ⟨rfl, rfl⟩ ?_
  refine eb_aload_n (pc := 5) (n := 0) (i := 0) rfl rfl rfl ?_
  refine eb_iload_n (pc := 6) (n := 1) (i := 1) rfl rfl rfl ?_
  refine eb_i2l (pc := 7) rfl ?_
  refine eb_joinI (pc2 := 11) (ls2 := [(0, .ref s_MO), (1, .int x1), (2, .int x2)]) (st2 := []) (v := eb_q ((¬ (x1.toInt64 < 0)) ∧ (¬ (((((eb_I (eb_sI h s_MO 0 0) s_m_all (1 : Int32).toNatClampNeg) * (eb_I (eb_sI h s_MO 0 0) s_m_all (2 : Int32).toNatClampNeg)) - 1).toInt64) < x1.toInt64)))) ?_ (fun jj12 => ?_)
  · refine eb_if_ne (pc := 11) (tgt := 17) rfl (by decide) (fun c3 => ?_) (fun c3 => ?_)
    · replace c3 := eb_q1.mp c3
      replace w := w.1 c3
      refine eb_iload_n (pc := 17) (n := 2) (i := 2) rfl rfl rfl ?_
      refine eb_iconst (pc := 18) (n := 3) (v := 3) rfl rfl ?_
      refine eb_icmp_ne (pc := 19) (tgt := 57) rfl (by decide) (fun c4 => ?_) (fun c4 => ?_)
      · replace w := w.1 c4
        refine eb_iload_n (pc := 57) (n := 2) (i := 2) rfl rfl rfl ?_
        refine eb_if_ne (pc := 58) (tgt := 73) rfl (by decide) (fun c5 => ?_) (fun c5 => ?_)
        · replace w := w.1 c5
          refine eb_iload_n (pc := 73) (n := 2) (i := 2) rfl rfl rfl ?_
          refine eb_iconst (pc := 74) (n := 1) (v := 1) rfl rfl ?_
          refine eb_icmp_ne (pc := 75) (tgt := 90) rfl (by decide) (fun c6 => ?_) (fun c6 => ?_)
          · replace w := w.1 c6
            refine eb_iload_n (pc := 90) (n := 2) (i := 2) rfl rfl rfl ?_
            refine eb_iconst (pc := 91) (n := 2) (v := 2) rfl rfl ?_
            refine eb_joinI (pc2 := 111) (ls2 := [(0, .ref s_MO), (1, .int x1), (2, .int x2)]) (st2 := []) (v := (if x2 = (2 : Int32) then ((eb_I (eb_sI h s_MO 0 0) s_m_all (50 : Int32).toNatClampNeg) >>> (x1 &&& 31)) &&& 1 else (-2) : Int32)) ?_ (fun jj8 => ?_)
            · exact eb_ireturn (pc := 111) rfl rfl rfl w
            refine eb_icmp_ne (pc := 92) (tgt := 109) rfl (by decide) (fun c7 => ?_) (fun c7 => ?_)
            · refine eb_bipush (pc := 109) (n := -2) (v := (-2)) rfl rfl ?_
              exact jj8 _ (by simp only [if_neg c7])
            · refine eb_aload_n (pc := 95) (n := 0) (i := 0) rfl rfl rfl ?_
              refine eb_getR (pc := 96) rfl rfl (by decide) (by decide) rfl (ko_s_MO_1 ko) ?_
              refine eb_bipush (pc := 99) (n := 50) (v := 50) rfl rfl ?_
              refine eb_iaload (pc := 101) rfl rfl (by decide) (by unfold vp_in; decide) ?_
              refine eb_iload_n (pc := 102) (n := 1) (i := 1) rfl rfl rfl ?_
              refine eb_ishr (pc := 103) rfl ?_
              refine eb_iconst (pc := 104) (n := 1) (v := 1) rfl rfl ?_
              refine eb_iand (pc := 105) rfl ?_
              refine eb_goto (pc := 106) (tgt := 111) rfl (by decide) ?_
              exact jj8 _ (by simp only [if_pos c7])
          · replace w := w.2 c6
            refine eb_aload_n (pc := 78) (n := 0) (i := 0) rfl rfl rfl ?_
            refine eb_getR (pc := 79) rfl rfl (by decide) (by decide) rfl (ko_s_MO_1 ko) ?_
            refine eb_bipush (pc := 82) (n := 34) (v := 34) rfl rfl ?_
            refine eb_iload_n (pc := 84) (n := 1) (i := 1) rfl rfl rfl ?_
            refine eb_iadd (pc := 85) rfl ?_
            obtain ⟨c10, w⟩ := w
            refine eb_iaload (pc := 86) rfl rfl (by decide) c10 ?_
            refine eb_goto (pc := 87) (tgt := 111) rfl (by decide) ?_
            exact eb_ireturn (pc := 111) rfl rfl rfl w
        · replace w := w.2 c5
          refine eb_aload_n (pc := 61) (n := 0) (i := 0) rfl rfl rfl ?_
          refine eb_getR (pc := 62) rfl rfl (by decide) (by decide) rfl (ko_s_MO_1 ko) ?_
          refine eb_bipush (pc := 65) (n := 11) (v := 11) rfl rfl ?_
          refine eb_iload_n (pc := 67) (n := 1) (i := 1) rfl rfl rfl ?_
          refine eb_iadd (pc := 68) rfl ?_
          obtain ⟨c11, w⟩ := w
          refine eb_iaload (pc := 69) rfl rfl (by decide) c11 ?_
          refine eb_goto (pc := 70) (tgt := 111) rfl (by decide) ?_
          exact eb_ireturn (pc := 111) rfl rfl rfl w
      · replace w := w.2 c4
        refine eb_iconst (pc := 22) (n := 0) (v := 0) rfl rfl ?_
        refine eb_istore_n (pc := 23) (n := 3) (i := 3) (ls2 := [(3, .int 0), (0, .ref s_MO), (1, .int x1), (2, .int x2)]) rfl (Nat.le_of_ble_eq_true rfl) rfl rfl ?_
        exact eb_pick [1, 2, 0] rfl w
    · replace c3 := eb_q0.mp c3
      replace w := w.2 c3
      refine eb_bipush (pc := 14) (n := -2) (v := (-2)) rfl rfl ?_
      exact eb_ireturn (pc := 16) rfl rfl rfl w
  refine eb_ctV (pc := 8) (As := [.long x1.toInt64]) (rest := []) rfl (by decide) rfl rfl (by decide) rfl (Nat.le_of_ble_eq_true rfl) ?_
  refine eb_bodyQ (by decide) ok_X11_isCell (Nat.le_of_ble_eq_true rfl) ?_
  change eb_Sn _ m_X11_isCell _ 0 [(0, .ref s_MO), (1, .long x1.toInt64)] [] _ _
  refine eb_lload_n (pc := 0) (n := 1) (i := 1) rfl rfl rfl ?_
  refine eb_lconst (pc := 1) (n := 0) (v := 0) rfl rfl ?_
  refine eb_aload_n (pc := 2) (n := 0) (i := 0) rfl rfl rfl ?_
  refine eb_ctV (pc := 3) (As := []) (rest := [.long 0, .long x1.toInt64]) rfl (by decide) rfl rfl (by decide) rfl (Nat.le_of_ble_eq_true rfl) ?_
  refine eb_bodyQ (by decide) ok_X11_cells (Nat.le_of_ble_eq_true rfl) ?_
  change eb_Sn _ m_X11_cells _ 0 [(0, .ref s_MO)] [] _ _
  refine eb_aload_n (pc := 0) (n := 0) (i := 0) rfl rfl rfl ?_
  refine eb_getR (pc := 1) rfl rfl (by decide) (by decide) rfl (ko_s_MO_1 ko) ?_
  refine eb_iconst (pc := 4) (n := 1) (v := 1) rfl rfl ?_
  refine eb_iaload (pc := 5) rfl rfl (by decide) (by unfold vp_in; decide) ?_
  refine eb_aload_n (pc := 6) (n := 0) (i := 0) rfl rfl rfl ?_
  refine eb_getR (pc := 7) rfl rfl (by decide) (by decide) rfl (ko_s_MO_1 ko) ?_
  refine eb_iconst (pc := 10) (n := 2) (v := 2) rfl rfl ?_
  refine eb_iaload (pc := 11) rfl rfl (by decide) (by unfold vp_in; decide) ?_
  refine eb_imul (pc := 12) rfl ?_
  refine eb_ireturn (pc := 13) rfl rfl rfl ?_
  change eb_Sn _ _ _ 6 _ [.int ((eb_I (eb_sI h s_MO 0 0) s_m_all (1 : Int32).toNatClampNeg) * (eb_I (eb_sI h s_MO 0 0) s_m_all (2 : Int32).toNatClampNeg)), .long 0, .long x1.toInt64] _ _
  refine eb_iconst (pc := 6) (n := 1) (v := 1) rfl rfl ?_
  refine eb_isub (pc := 7) rfl ?_
  refine eb_i2l (pc := 8) rfl ?_
  refine eb_ctS (pc := 9) (As := [.long x1.toInt64, .long 0, .long ((((eb_I (eb_sI h s_MO 0 0) s_m_all (1 : Int32).toNatClampNeg) * (eb_I (eb_sI h s_MO 0 0) s_m_all (2 : Int32).toNatClampNeg)) - 1).toInt64)]) (rest := []) rfl (by decide) (by decide) rfl rfl (Nat.le_of_ble_eq_true rfl) ?_
  refine eb_bodyQ (by decide) ok_X11_within (Nat.le_of_ble_eq_true rfl) ?_
  change eb_Sn _ m_X11_within _ 0 [(0, .long x1.toInt64), (2, .long 0), (4, .long ((((eb_I (eb_sI h s_MO 0 0) s_m_all (1 : Int32).toNatClampNeg) * (eb_I (eb_sI h s_MO 0 0) s_m_all (2 : Int32).toNatClampNeg)) - 1).toInt64))] [] _ _
  refine eb_lload_n (pc := 0) (n := 0) (i := 0) rfl rfl rfl ?_
  refine eb_lload_n (pc := 1) (n := 2) (i := 2) rfl rfl rfl ?_
  refine eb_lcmp (pc := 2) rfl ?_
  refine eb_if_lt (pc := 3) (tgt := 17) rfl (by decide) (fun c1 => ?_) (fun c1 => ?_)
  · replace c1 := eb_lc_lt.mp c1
    refine eb_iconst (pc := 17) (n := 0) (v := 0) rfl rfl ?_
    refine eb_ireturn (pc := 18) rfl rfl (by decide) ?_
    change eb_Sn _ _ _ 12 _ [.int 0] _ _
    refine eb_ireturn (pc := 12) rfl rfl (by decide) ?_
    change eb_Sn _ _ _ 11 _ _ _ _
    exact jj12 0 (eb_qf (fun z => z.1 c1)).symm
  · replace c1 := (fun hh => mt eb_lc_lt.mpr hh) c1
    refine eb_lload_n (pc := 6) (n := 0) (i := 0) rfl rfl rfl ?_
    refine eb_lload (pc := 7) (i := 4) rfl rfl ?_
    refine eb_lcmp (pc := 9) rfl ?_
    refine eb_if_gt (pc := 10) (tgt := 17) rfl (by decide) (fun c2 => ?_) (fun c2 => ?_)
    · replace c2 := eb_lc_gt.mp c2
      refine eb_iconst (pc := 17) (n := 0) (v := 0) rfl rfl ?_
      refine eb_ireturn (pc := 18) rfl rfl (by decide) ?_
      change eb_Sn _ _ _ 12 _ [.int 0] _ _
      refine eb_ireturn (pc := 12) rfl rfl (by decide) ?_
      change eb_Sn _ _ _ 11 _ _ _ _
      exact jj12 0 (eb_qf (fun z => (fun z => z c2) z.2)).symm
    · replace c2 := (fun hh => mt eb_lc_gt.mpr hh) c2
      refine eb_iconst (pc := 13) (n := 1) (v := 1) rfl rfl ?_
      refine eb_goto (pc := 14) (tgt := 18) rfl (by decide) ?_
      refine eb_ireturn (pc := 18) rfl rfl (by decide) ?_
      change eb_Sn _ _ _ 12 _ [.int 1] _ _
      refine eb_ireturn (pc := 12) rfl rfl (by decide) ?_
      change eb_Sn _ _ _ 11 _ _ _ _
      exact jj12 1 (eb_qt (⟨c1, c2⟩)).symm
theorem b_X11_cell_24 {d : Nat} {h0 h : eb_H} {Q : Option Value → eb_H → Prop} (x1 : Int32) (x3 : Int32)  (ko : eb_KO h) (w : (((eb_I h s_m_all (4 : Int32).toNatClampNeg) ≤ x3 → Q (some (.int (-1))) h) ∧ (¬ ((eb_I h s_m_all (4 : Int32).toNatClampNeg) ≤ x3) → (vp_in ((27 : Int32) + x3) 3492) ∧ ((¬ (eb_I h s_m_all ((27 : Int32) + x3).toNatClampNeg) = x1 → eb_Sn (d + 2) m_X11_cell h0 24 [(0, .ref s_MO), (1, .int x1), (3, .int (x3 + 1))] [] h Q) ∧ ((eb_I h s_m_all ((27 : Int32) + x3).toNatClampNeg) = x1 → Q (some (.int x3)) h))))) : eb_Sn (d + 2) m_X11_cell h0 24 [(0, .ref s_MO), (1, .int x1), (3, .int x3)] [] h Q := by
  refine eb_iload_n (pc := 24) (n := 3) (i := 3) rfl rfl rfl ?_
  refine eb_aload_n (pc := 25) (n := 0) (i := 0) rfl rfl rfl ?_
  refine eb_getR (pc := 26) rfl rfl (by decide) (by decide) rfl (ko_s_MO_1 ko) ?_
  refine eb_iconst (pc := 29) (n := 4) (v := 4) rfl rfl ?_
  refine eb_iaload (pc := 30) rfl rfl (by decide) (by unfold vp_in; decide) ?_
  refine eb_icmp_ge (pc := 31) (tgt := 55) rfl (by decide) (fun c1 => ?_) (fun c1 => ?_)
  · replace w := w.1 c1
    refine eb_iconst (pc := 55) (n := -1) (v := (-1)) rfl rfl ?_
    exact eb_ireturn (pc := 56) rfl rfl rfl w
  · replace w := w.2 c1
    refine eb_aload_n (pc := 34) (n := 0) (i := 0) rfl rfl rfl ?_
    refine eb_getR (pc := 35) rfl rfl (by decide) (by decide) rfl (ko_s_MO_1 ko) ?_
    refine eb_bipush (pc := 38) (n := 27) (v := 27) rfl rfl ?_
    refine eb_iload_n (pc := 40) (n := 3) (i := 3) rfl rfl rfl ?_
    refine eb_iadd (pc := 41) rfl ?_
    obtain ⟨c2, w⟩ := w
    refine eb_iaload (pc := 42) rfl rfl (by decide) c2 ?_
    refine eb_iload_n (pc := 43) (n := 1) (i := 1) rfl rfl rfl ?_
    refine eb_icmp_ne (pc := 44) (tgt := 49) rfl (by decide) (fun c3 => ?_) (fun c3 => ?_)
    · replace w := w.1 c3
      refine eb_iinc (pc := 49) (i := 3) (n := 1) (v := x3 + 1) (ls2 := [(3, .int (x3 + 1)), (0, .ref s_MO), (1, .int x1)]) (Nat.le_of_ble_eq_true rfl) rfl rfl rfl rfl ?_
      refine eb_goto (pc := 52) (tgt := 24) rfl (by decide) ?_
      exact eb_pick [1, 2, 0] rfl w
    · replace w := w.2 c3
      refine eb_iload_n (pc := 47) (n := 3) (i := 3) rfl rfl rfl ?_
      exact eb_ireturn (pc := 48) rfl rfl rfl w
theorem T_X11_cell {d : Nat} {h : eb_H} {Q : Option Value → eb_H → Prop} (x1 : Int32) (x2 : Int32)  (ko : eb_KO h) (w : (((¬ (x1.toInt64 < 0)) ∧ (¬ (((((eb_I (eb_sI h s_MO 0 0) s_m_all (1 : Int32).toNatClampNeg) * (eb_I (eb_sI h s_MO 0 0) s_m_all (2 : Int32).toNatClampNeg)) - 1).toInt64) < x1.toInt64)) → ((¬ x2 = (3 : Int32) → ((¬ x2 = 0 → ((¬ x2 = (1 : Int32) → Q (some (.int (if x2 = (2 : Int32) then ((eb_I (eb_sI h s_MO 0 0) s_m_all (50 : Int32).toNatClampNeg) >>> (x1 &&& 31)) &&& 1 else (-2) : Int32))) (eb_sI h s_MO 0 0)) ∧ (x2 = (1 : Int32) → (vp_in ((34 : Int32) + x1) 3492) ∧ Q (some (.int (eb_I (eb_sI h s_MO 0 0) s_m_all ((34 : Int32) + x1).toNatClampNeg))) (eb_sI h s_MO 0 0)))) ∧ (x2 = 0 → (vp_in ((11 : Int32) + x1) 3492) ∧ Q (some (.int (eb_I (eb_sI h s_MO 0 0) s_m_all ((11 : Int32) + x1).toNatClampNeg))) (eb_sI h s_MO 0 0)))) ∧ (x2 = (3 : Int32) → eb_Sn (d + 2) m_X11_cell h 24 [(0, .ref s_MO), (1, .int x1), (3, .int 0)] [] (eb_sI h s_MO 0 0) Q))) ∧ (¬ ((¬ (x1.toInt64 < 0)) ∧ (¬ (((((eb_I (eb_sI h s_MO 0 0) s_m_all (1 : Int32).toNatClampNeg) * (eb_I (eb_sI h s_MO 0 0) s_m_all (2 : Int32).toNatClampNeg)) - 1).toInt64) < x1.toInt64))) → Q (some (.int (-2))) (eb_sI h s_MO 0 0)))) : eb_Ct (d + 2) 201 [.ref s_MO, .int x1, .int x2] h Q :=
  eb_bodyQ (by decide) ok_X11_cell (Nat.le_of_ble_eq_true rfl) (b_X11_cell_0 (h0 := h) x1 x2  ko w)
theorem b_X11_house_0 {d : Nat} {h0 h : eb_H} {Q : Option Value → eb_H → Prop} (x1 : Int32)  (ko : eb_KO h) (w : ((¬ ((¬ (x1.toInt64 < 0)) ∧ (¬ ((((eb_I (eb_sI h s_MO 0 0) s_m_all (4 : Int32).toNatClampNeg) - 1).toInt64) < x1.toInt64))) → Q (some (.int (-2))) (eb_sI h s_MO 0 0)) ∧ ((¬ (x1.toInt64 < 0)) ∧ (¬ ((((eb_I (eb_sI h s_MO 0 0) s_m_all (4 : Int32).toNatClampNeg) - 1).toInt64) < x1.toInt64)) → (vp_in ((27 : Int32) + x1) 3492) ∧ Q (some (.int (eb_I (eb_sI h s_MO 0 0) s_m_all ((27 : Int32) + x1).toNatClampNeg))) (eb_sI h s_MO 0 0)))) : eb_Sn (d + 2) m_X11_house h0 0 [(0, .ref s_MO), (1, .int x1)] [] h Q := by
  refine eb_aload_n (pc := 0) (n := 0) (i := 0) rfl rfl rfl ?_
  refine eb_iconst (pc := 1) (n := 0) (v := 0) rfl rfl ?_
  refine eb_putI (pc := 2) rfl rfl (by decide) (by decide) rfl rfl ⟨rfl, rfl⟩ ?_
  refine eb_aload_n (pc := 5) (n := 0) (i := 0) rfl rfl rfl ?_
  refine eb_iload_n (pc := 6) (n := 1) (i := 1) rfl rfl rfl ?_
  refine eb_joinI (pc2 := 10) (ls2 := [(0, .ref s_MO), (1, .int x1)]) (st2 := []) (v := eb_q ((¬ (x1.toInt64 < 0)) ∧ (¬ ((((eb_I (eb_sI h s_MO 0 0) s_m_all (4 : Int32).toNatClampNeg) - 1).toInt64) < x1.toInt64)))) ?_ (fun jj5 => ?_)
  · refine eb_if_eq (pc := 10) (tgt := 25) rfl (by decide) (fun c3 => ?_) (fun c3 => ?_)
    · replace c3 := eb_q0.mp c3
      replace w := w.1 c3
      refine eb_bipush (pc := 25) (n := -2) (v := (-2)) rfl rfl ?_
      exact eb_ireturn (pc := 27) rfl rfl rfl w
    · replace c3 := eb_q1.mp c3
      replace w := w.2 c3
      refine eb_aload_n (pc := 13) (n := 0) (i := 0) rfl rfl rfl ?_
      refine eb_getR (pc := 14) rfl rfl (by decide) (by decide) rfl (ko_s_MO_1 ko) ?_
      refine eb_bipush (pc := 17) (n := 27) (v := 27) rfl rfl ?_
      refine eb_iload_n (pc := 19) (n := 1) (i := 1) rfl rfl rfl ?_
      refine eb_iadd (pc := 20) rfl ?_
      obtain ⟨c4, w⟩ := w
      refine eb_iaload (pc := 21) rfl rfl (by decide) c4 ?_
      refine eb_goto (pc := 22) (tgt := 27) rfl (by decide) ?_
      exact eb_ireturn (pc := 27) rfl rfl rfl w
  refine eb_ctV (pc := 7) (As := [.int x1]) (rest := []) rfl (by decide) rfl rfl (by decide) rfl (Nat.le_of_ble_eq_true rfl) ?_
  refine eb_bodyQ (by decide) ok_X11_isHouse (Nat.le_of_ble_eq_true rfl) ?_
  change eb_Sn _ m_X11_isHouse _ 0 [(0, .ref s_MO), (1, .int x1)] [] _ _
  refine eb_iload_n (pc := 0) (n := 1) (i := 1) rfl rfl rfl ?_
  refine eb_i2l (pc := 1) rfl ?_
  refine eb_lconst (pc := 2) (n := 0) (v := 0) rfl rfl ?_
  refine eb_aload_n (pc := 3) (n := 0) (i := 0) rfl rfl rfl ?_
  refine eb_getR (pc := 4) rfl rfl (by decide) (by decide) rfl (ko_s_MO_1 ko) ?_
  refine eb_iconst (pc := 7) (n := 4) (v := 4) rfl rfl ?_
  refine eb_iaload (pc := 8) rfl rfl (by decide) (by unfold vp_in; decide) ?_
  refine eb_iconst (pc := 9) (n := 1) (v := 1) rfl rfl ?_
  refine eb_isub (pc := 10) rfl ?_
  refine eb_i2l (pc := 11) rfl ?_
  refine eb_ctS (pc := 12) (As := [.long x1.toInt64, .long 0, .long (((eb_I (eb_sI h s_MO 0 0) s_m_all (4 : Int32).toNatClampNeg) - 1).toInt64)]) (rest := []) rfl (by decide) (by decide) rfl rfl (Nat.le_of_ble_eq_true rfl) ?_
  refine eb_bodyQ (by decide) ok_X11_within (Nat.le_of_ble_eq_true rfl) ?_
  change eb_Sn _ m_X11_within _ 0 [(0, .long x1.toInt64), (2, .long 0), (4, .long (((eb_I (eb_sI h s_MO 0 0) s_m_all (4 : Int32).toNatClampNeg) - 1).toInt64))] [] _ _
  refine eb_lload_n (pc := 0) (n := 0) (i := 0) rfl rfl rfl ?_
  refine eb_lload_n (pc := 1) (n := 2) (i := 2) rfl rfl rfl ?_
  refine eb_lcmp (pc := 2) rfl ?_
  refine eb_if_lt (pc := 3) (tgt := 17) rfl (by decide) (fun c1 => ?_) (fun c1 => ?_)
  · replace c1 := eb_lc_lt.mp c1
    refine eb_iconst (pc := 17) (n := 0) (v := 0) rfl rfl ?_
    refine eb_ireturn (pc := 18) rfl rfl (by decide) ?_
    change eb_Sn _ _ _ 15 _ [.int 0] _ _
    refine eb_ireturn (pc := 15) rfl rfl (by decide) ?_
    change eb_Sn _ _ _ 10 _ _ _ _
    exact jj5 0 (eb_qf (fun z => z.1 c1)).symm
  · replace c1 := (fun hh => mt eb_lc_lt.mpr hh) c1
    refine eb_lload_n (pc := 6) (n := 0) (i := 0) rfl rfl rfl ?_
    refine eb_lload (pc := 7) (i := 4) rfl rfl ?_
    refine eb_lcmp (pc := 9) rfl ?_
    refine eb_if_gt (pc := 10) (tgt := 17) rfl (by decide) (fun c2 => ?_) (fun c2 => ?_)
    · replace c2 := eb_lc_gt.mp c2
      refine eb_iconst (pc := 17) (n := 0) (v := 0) rfl rfl ?_
      refine eb_ireturn (pc := 18) rfl rfl (by decide) ?_
      change eb_Sn _ _ _ 15 _ [.int 0] _ _
      refine eb_ireturn (pc := 15) rfl rfl (by decide) ?_
      change eb_Sn _ _ _ 10 _ _ _ _
      exact jj5 0 (eb_qf (fun z => (fun z => z c2) z.2)).symm
    · replace c2 := (fun hh => mt eb_lc_gt.mpr hh) c2
      refine eb_iconst (pc := 13) (n := 1) (v := 1) rfl rfl ?_
      refine eb_goto (pc := 14) (tgt := 18) rfl (by decide) ?_
      refine eb_ireturn (pc := 18) rfl rfl (by decide) ?_
      change eb_Sn _ _ _ 15 _ [.int 1] _ _
      refine eb_ireturn (pc := 15) rfl rfl (by decide) ?_
      change eb_Sn _ _ _ 10 _ _ _ _
      exact jj5 1 (eb_qt (⟨c1, c2⟩)).symm
theorem T_X11_house {d : Nat} {h : eb_H} {Q : Option Value → eb_H → Prop} (x1 : Int32)  (ko : eb_KO h) (w : ((¬ ((¬ (x1.toInt64 < 0)) ∧ (¬ ((((eb_I (eb_sI h s_MO 0 0) s_m_all (4 : Int32).toNatClampNeg) - 1).toInt64) < x1.toInt64))) → Q (some (.int (-2))) (eb_sI h s_MO 0 0)) ∧ ((¬ (x1.toInt64 < 0)) ∧ (¬ ((((eb_I (eb_sI h s_MO 0 0) s_m_all (4 : Int32).toNatClampNeg) - 1).toInt64) < x1.toInt64)) → (vp_in ((27 : Int32) + x1) 3492) ∧ Q (some (.int (eb_I (eb_sI h s_MO 0 0) s_m_all ((27 : Int32) + x1).toNatClampNeg))) (eb_sI h s_MO 0 0)))) : eb_Ct (d + 2) 202 [.ref s_MO, .int x1] h Q :=
  eb_bodyQ (by decide) ok_X11_house (Nat.le_of_ble_eq_true rfl) (b_X11_house_0 (h0 := h) x1  ko w)
theorem b_X11_whyNow_0 {d : Nat} {h0 h : eb_H} {Q : Option Value → eb_H → Prop} (x1 : Int32)  (ko : eb_KO h) (w : eb_Ct d 199 [.ref s_MO, .int (((64 : Int32) * (eb_I h s_m_all (31 : Int32).toNatClampNeg)) + (eb_I h s_m_all (32 : Int32).toNatClampNeg)), .int x1, .int (eb_I h s_m_all (50 : Int32).toNatClampNeg)] h (fun r h1 => ∃ y2, r = some (.int y2) ∧ eb_KO h1 ∧ Q (some (.int y2)) h1)) : eb_Sn (d + 1) m_X11_whyNow h0 0 [(0, .ref s_MO), (1, .int x1)] [] h Q := by
  refine eb_aload_n (pc := 0) (n := 0) (i := 0) rfl rfl rfl ?_
  refine eb_aload_n (pc := 1) (n := 0) (i := 0) rfl rfl rfl ?_
  refine eb_ctV (pc := 2) (As := []) (rest := [.ref s_MO]) rfl (by decide) rfl rfl (by decide) rfl (Nat.le_of_ble_eq_true rfl) ?_
  refine eb_bodyQ (by decide) ok_X11_standNow (Nat.le_of_ble_eq_true rfl) ?_
  change eb_Sn _ m_X11_standNow _ 0 [(0, .ref s_MO)] [] _ _
  refine eb_bipush (pc := 0) (n := 64) (v := 64) rfl rfl ?_
  refine eb_aload_n (pc := 2) (n := 0) (i := 0) rfl rfl rfl ?_
  refine eb_getR (pc := 3) rfl rfl (by decide) (by decide) rfl (ko_s_MO_1 ko) ?_
  refine eb_bipush (pc := 6) (n := 31) (v := 31) rfl rfl ?_
  refine eb_iaload (pc := 8) rfl rfl (by decide) (by unfold vp_in; decide) ?_
  refine eb_imul (pc := 9) rfl ?_
  refine eb_aload_n (pc := 10) (n := 0) (i := 0) rfl rfl rfl ?_
  refine eb_getR (pc := 11) rfl rfl (by decide) (by decide) rfl (ko_s_MO_1 ko) ?_
  refine eb_bipush (pc := 14) (n := 32) (v := 32) rfl rfl ?_
  refine eb_iaload (pc := 16) rfl rfl (by decide) (by unfold vp_in; decide) ?_
  refine eb_iadd (pc := 17) rfl ?_
  refine eb_ireturn (pc := 18) rfl rfl rfl ?_
  change eb_Sn _ _ _ 5 _ [.int (((64 : Int32) * (eb_I h s_m_all (31 : Int32).toNatClampNeg)) + (eb_I h s_m_all (32 : Int32).toNatClampNeg)), .ref s_MO] _ _
  refine eb_iload_n (pc := 5) (n := 1) (i := 1) rfl rfl rfl ?_
  refine eb_aload_n (pc := 6) (n := 0) (i := 0) rfl rfl rfl ?_
  refine eb_getR (pc := 7) rfl rfl (by decide) (by decide) rfl (ko_s_MO_1 ko) ?_
  refine eb_bipush (pc := 10) (n := 50) (v := 50) rfl rfl ?_
  refine eb_iaload (pc := 12) rfl rfl (by decide) (by unfold vp_in; decide) ?_
  refine eb_ctV (pc := 13) (As := [.int (((64 : Int32) * (eb_I h s_m_all (31 : Int32).toNatClampNeg)) + (eb_I h s_m_all (32 : Int32).toNatClampNeg)), .int x1, .int (eb_I h s_m_all (50 : Int32).toNatClampNeg)]) (rest := []) rfl (by decide) rfl rfl (by decide) rfl (Nat.le_of_ble_eq_true rfl) ?_
  refine eb_Ct.mono w ?_
  rintro r h1 ⟨y2, rfl, ko3, w⟩
  change eb_Sn _ _ _ 16 _ [.int y2] _ _
  exact eb_ireturn (pc := 16) rfl rfl rfl w
theorem T_X11_whyNow {d : Nat} {h : eb_H} {Q : Option Value → eb_H → Prop} (x1 : Int32)  (ko : eb_KO h) (w : eb_Ct d 199 [.ref s_MO, .int (((64 : Int32) * (eb_I h s_m_all (31 : Int32).toNatClampNeg)) + (eb_I h s_m_all (32 : Int32).toNatClampNeg)), .int x1, .int (eb_I h s_m_all (50 : Int32).toNatClampNeg)] h (fun r h1 => ∃ y2, r = some (.int y2) ∧ eb_KO h1 ∧ Q (some (.int y2)) h1)) : eb_Ct (d + 1) 203 [.ref s_MO, .int x1] h Q :=
  eb_bodyQ (by decide) ok_X11_whyNow (Nat.le_of_ble_eq_true rfl) (b_X11_whyNow_0 (h0 := h) x1  ko w)
theorem b_X11_why_0 {d : Nat} {h0 h : eb_H} {Q : Option Value → eb_H → Prop} (x1 : Int32)  (ko : eb_KO h) (w : eb_Ct d 203 [.ref s_MO, .int x1] (eb_sI h s_MO 0 0) (fun r h1 => ∃ y2, r = some (.int y2) ∧ eb_KO h1 ∧ Q (some (.int y2)) h1)) : eb_Sn (d + 1) m_X11_why h0 0 [(0, .ref s_MO), (1, .int x1)] [] h Q := by
  refine eb_aload_n (pc := 0) (n := 0) (i := 0) rfl rfl rfl ?_
  refine eb_iconst (pc := 1) (n := 0) (v := 0) rfl rfl ?_
  refine eb_putI (pc := 2) rfl rfl (by decide) (by decide) rfl rfl ⟨rfl, rfl⟩ ?_
  refine eb_aload_n (pc := 5) (n := 0) (i := 0) rfl rfl rfl ?_
  refine eb_iload_n (pc := 6) (n := 1) (i := 1) rfl rfl rfl ?_
  refine eb_ctV (pc := 7) (As := [.int x1]) (rest := []) rfl (by decide) rfl rfl (by decide) rfl (Nat.le_of_ble_eq_true rfl) ?_
  refine eb_Ct.mono w ?_
  rintro r h1 ⟨y2, rfl, ko3, w⟩
  change eb_Sn _ _ _ 10 _ [.int y2] _ _
  exact eb_ireturn (pc := 10) rfl rfl rfl w
theorem T_X11_why {d : Nat} {h : eb_H} {Q : Option Value → eb_H → Prop} (x1 : Int32)  (ko : eb_KO h) (w : eb_Ct d 203 [.ref s_MO, .int x1] (eb_sI h s_MO 0 0) (fun r h1 => ∃ y2, r = some (.int y2) ∧ eb_KO h1 ∧ Q (some (.int y2)) h1)) : eb_Ct (d + 1) 204 [.ref s_MO, .int x1] h Q :=
  eb_bodyQ (by decide) ok_X11_why (Nat.le_of_ble_eq_true rfl) (b_X11_why_0 (h0 := h) x1  ko w)
theorem b_X11_by_0 {d : Nat} {h0 h : eb_H} {Q : Option Value → eb_H → Prop} (x1 : Int32) (x2 : Int32)  (ko : eb_KO h) (w : (((¬ (x2.toInt64 < 0)) ∧ (¬ (1 < x2.toInt64)) → eb_Ct d 203 [.ref s_MO, .int x1] (eb_sI h s_MO 0 0) (fun r h4 => ∃ y5, r = some (.int y5) ∧ eb_KO h4 ∧ ((y5 = 0 → eb_Ct d 200 [.ref s_MO, .int (((64 : Int32) * (eb_I h4 s_m_all (31 : Int32).toNatClampNeg)) + (eb_I h4 s_m_all (32 : Int32).toNatClampNeg)), .int x1] h4 (fun r h8 => ∃ y9, r = some (.int y9) ∧ eb_KO h8 ∧ Q (some (.int (if x2 = 0 then y9 / 64 else y9 - y9 / 64 * 64 : Int32))) h8)) ∧ (¬ (y5 = 0) → Q (some (.int (-5))) h4)))) ∧ (¬ ((¬ (x2.toInt64 < 0)) ∧ (¬ (1 < x2.toInt64))) → Q (some (.int (-2))) (eb_sI h s_MO 0 0)))) : eb_Sn (d + 1) m_X11_by h0 0 [(0, .ref s_MO), (1, .int x1), (2, .int x2)] [] h Q := by
  refine eb_aload_n (pc := 0) (n := 0) (i := 0) rfl rfl rfl ?_
  refine eb_iconst (pc := 1) (n := 0) (v := 0) rfl rfl ?_
  refine eb_putI (pc := 2) rfl rfl (by decide) (by decide) rfl rfl ⟨rfl, rfl⟩ ?_
  refine eb_iload_n (pc := 5) (n := 2) (i := 2) rfl rfl rfl ?_
  refine eb_i2l (pc := 6) rfl ?_
  refine eb_lconst (pc := 7) (n := 0) (v := 0) rfl rfl ?_
  refine eb_lconst (pc := 8) (n := 1) (v := 1) rfl rfl ?_
  refine eb_joinI (pc2 := 12) (ls2 := [(0, .ref s_MO), (1, .int x1), (2, .int x2)]) (st2 := []) (v := eb_q ((¬ (x2.toInt64 < 0)) ∧ (¬ (1 < x2.toInt64)))) ?_ (fun jj14 => ?_)
  · refine eb_if_ne (pc := 12) (tgt := 18) rfl (by decide) (fun c3 => ?_) (fun c3 => ?_)
    · replace c3 := eb_q1.mp c3
      replace w := w.1 c3
      refine eb_aload_n (pc := 18) (n := 0) (i := 0) rfl rfl rfl ?_
      refine eb_iload_n (pc := 19) (n := 1) (i := 1) rfl rfl rfl ?_
      refine eb_ctV (pc := 20) (As := [.int x1]) (rest := []) rfl (by decide) rfl rfl (by decide) rfl (Nat.le_of_ble_eq_true rfl) ?_
      refine eb_Ct.mono w ?_
      rintro r h4 ⟨y5, rfl, ko6, w⟩
      change eb_Sn _ _ _ 23 _ [.int y5] _ _
      refine eb_if_eq (pc := 23) (tgt := 29) rfl (by decide) (fun c7 => ?_) (fun c7 => ?_)
      · replace w := w.1 c7
        refine eb_aload_n (pc := 29) (n := 0) (i := 0) rfl rfl rfl ?_
        refine eb_aload_n (pc := 30) (n := 0) (i := 0) rfl rfl rfl ?_
        refine eb_ctV (pc := 31) (As := []) (rest := [.ref s_MO]) rfl (by decide) rfl rfl (by decide) rfl (Nat.le_of_ble_eq_true rfl) ?_
        refine eb_bodyQ (by decide) ok_X11_standNow (Nat.le_of_ble_eq_true rfl) ?_
        change eb_Sn _ m_X11_standNow _ 0 [(0, .ref s_MO)] [] _ _
        refine eb_bipush (pc := 0) (n := 64) (v := 64) rfl rfl ?_
        refine eb_aload_n (pc := 2) (n := 0) (i := 0) rfl rfl rfl ?_
        refine eb_getR (pc := 3) rfl rfl (by decide) (by decide) rfl (ko_s_MO_1 ko6) ?_
        refine eb_bipush (pc := 6) (n := 31) (v := 31) rfl rfl ?_
        refine eb_iaload (pc := 8) rfl rfl (by decide) (by unfold vp_in; decide) ?_
        refine eb_imul (pc := 9) rfl ?_
        refine eb_aload_n (pc := 10) (n := 0) (i := 0) rfl rfl rfl ?_
        refine eb_getR (pc := 11) rfl rfl (by decide) (by decide) rfl (ko_s_MO_1 ko6) ?_
        refine eb_bipush (pc := 14) (n := 32) (v := 32) rfl rfl ?_
        refine eb_iaload (pc := 16) rfl rfl (by decide) (by unfold vp_in; decide) ?_
        refine eb_iadd (pc := 17) rfl ?_
        refine eb_ireturn (pc := 18) rfl rfl rfl ?_
        change eb_Sn _ _ _ 34 _ [.int (((64 : Int32) * (eb_I h4 s_m_all (31 : Int32).toNatClampNeg)) + (eb_I h4 s_m_all (32 : Int32).toNatClampNeg)), .ref s_MO] _ _
        refine eb_iload_n (pc := 34) (n := 1) (i := 1) rfl rfl rfl ?_
        refine eb_ctV (pc := 35) (As := [.int (((64 : Int32) * (eb_I h4 s_m_all (31 : Int32).toNatClampNeg)) + (eb_I h4 s_m_all (32 : Int32).toNatClampNeg)), .int x1]) (rest := []) rfl (by decide) rfl rfl (by decide) rfl (Nat.le_of_ble_eq_true rfl) ?_
        refine eb_Ct.mono w ?_
        rintro r h8 ⟨y9, rfl, ko10, w⟩
        change eb_Sn _ _ _ 38 _ [.int y9] _ _
        refine eb_istore_n (pc := 38) (n := 3) (i := 3) (ls2 := [(3, .int y9), (0, .ref s_MO), (1, .int x1), (2, .int x2)]) rfl (Nat.le_of_ble_eq_true rfl) rfl rfl ?_
        refine eb_iload_n (pc := 39) (n := 2) (i := 2) rfl rfl rfl ?_
        refine eb_joinI (pc2 := 54) (ls2 := [(3, .int y9), (0, .ref s_MO), (1, .int x1), (2, .int x2)]) (st2 := []) (v := (if x2 = 0 then y9 / 64 else y9 - y9 / 64 * 64 : Int32)) ?_ (fun jj12 => ?_)
        · exact eb_ireturn (pc := 54) rfl rfl rfl w
        refine eb_if_ne (pc := 40) (tgt := 50) rfl (by decide) (fun c11 => ?_) (fun c11 => ?_)
        · refine eb_iload_n (pc := 50) (n := 3) (i := 3) rfl rfl rfl ?_
          refine eb_bipush (pc := 51) (n := 64) (v := 64) rfl rfl ?_
          refine eb_irem (pc := 53) (by decide) rfl ?_
          exact jj12 _ (by simp only [if_neg c11])
        · refine eb_iload_n (pc := 43) (n := 3) (i := 3) rfl rfl rfl ?_
          refine eb_bipush (pc := 44) (n := 64) (v := 64) rfl rfl ?_
          refine eb_idiv (pc := 46) (by decide) rfl ?_
          refine eb_goto (pc := 47) (tgt := 54) rfl (by decide) ?_
          exact jj12 _ (by simp only [if_pos c11])
      · replace w := w.2 c7
        refine eb_bipush (pc := 26) (n := -5) (v := (-5)) rfl rfl ?_
        exact eb_ireturn (pc := 28) rfl rfl rfl w
    · replace c3 := eb_q0.mp c3
      replace w := w.2 c3
      refine eb_bipush (pc := 15) (n := -2) (v := (-2)) rfl rfl ?_
      exact eb_ireturn (pc := 17) rfl rfl rfl w
  refine eb_ctS (pc := 9) (As := [.long x2.toInt64, .long 0, .long 1]) (rest := []) rfl (by decide) (by decide) rfl rfl (Nat.le_of_ble_eq_true rfl) ?_
  refine eb_bodyQ (by decide) ok_X11_within (Nat.le_of_ble_eq_true rfl) ?_
  change eb_Sn _ m_X11_within _ 0 [(0, .long x2.toInt64), (2, .long 0), (4, .long 1)] [] _ _
  refine eb_lload_n (pc := 0) (n := 0) (i := 0) rfl rfl rfl ?_
  refine eb_lload_n (pc := 1) (n := 2) (i := 2) rfl rfl rfl ?_
  refine eb_lcmp (pc := 2) rfl ?_
  refine eb_if_lt (pc := 3) (tgt := 17) rfl (by decide) (fun c1 => ?_) (fun c1 => ?_)
  · replace c1 := eb_lc_lt.mp c1
    refine eb_iconst (pc := 17) (n := 0) (v := 0) rfl rfl ?_
    refine eb_ireturn (pc := 18) rfl rfl (by decide) ?_
    change eb_Sn _ _ _ 12 _ _ _ _
    exact jj14 0 (eb_qf (fun z => z.1 c1)).symm
  · replace c1 := (fun hh => mt eb_lc_lt.mpr hh) c1
    refine eb_lload_n (pc := 6) (n := 0) (i := 0) rfl rfl rfl ?_
    refine eb_lload (pc := 7) (i := 4) rfl rfl ?_
    refine eb_lcmp (pc := 9) rfl ?_
    refine eb_if_gt (pc := 10) (tgt := 17) rfl (by decide) (fun c2 => ?_) (fun c2 => ?_)
    · replace c2 := eb_lc_gt.mp c2
      refine eb_iconst (pc := 17) (n := 0) (v := 0) rfl rfl ?_
      refine eb_ireturn (pc := 18) rfl rfl (by decide) ?_
      change eb_Sn _ _ _ 12 _ _ _ _
      exact jj14 0 (eb_qf (fun z => (fun z => z c2) z.2)).symm
    · replace c2 := (fun hh => mt eb_lc_gt.mpr hh) c2
      refine eb_iconst (pc := 13) (n := 1) (v := 1) rfl rfl ?_
      refine eb_goto (pc := 14) (tgt := 18) rfl (by decide) ?_
      refine eb_ireturn (pc := 18) rfl rfl (by decide) ?_
      change eb_Sn _ _ _ 12 _ _ _ _
      exact jj14 1 (eb_qt (⟨c1, c2⟩)).symm
theorem T_X11_by {d : Nat} {h : eb_H} {Q : Option Value → eb_H → Prop} (x1 : Int32) (x2 : Int32)  (ko : eb_KO h) (w : (((¬ (x2.toInt64 < 0)) ∧ (¬ (1 < x2.toInt64)) → eb_Ct d 203 [.ref s_MO, .int x1] (eb_sI h s_MO 0 0) (fun r h4 => ∃ y5, r = some (.int y5) ∧ eb_KO h4 ∧ ((y5 = 0 → eb_Ct d 200 [.ref s_MO, .int (((64 : Int32) * (eb_I h4 s_m_all (31 : Int32).toNatClampNeg)) + (eb_I h4 s_m_all (32 : Int32).toNatClampNeg)), .int x1] h4 (fun r h8 => ∃ y9, r = some (.int y9) ∧ eb_KO h8 ∧ Q (some (.int (if x2 = 0 then y9 / 64 else y9 - y9 / 64 * 64 : Int32))) h8)) ∧ (¬ (y5 = 0) → Q (some (.int (-5))) h4)))) ∧ (¬ ((¬ (x2.toInt64 < 0)) ∧ (¬ (1 < x2.toInt64))) → Q (some (.int (-2))) (eb_sI h s_MO 0 0)))) : eb_Ct (d + 1) 205 [.ref s_MO, .int x1, .int x2] h Q :=
  eb_bodyQ (by decide) ok_X11_by (Nat.le_of_ble_eq_true rfl) (b_X11_by_0 (h0 := h) x1 x2  ko w)
theorem b_X11_keeps_0 {d : Nat} {h0 h : eb_H} {Q : Option Value → eb_H → Prop}   (ko : eb_KO h) (w : eb_Sn d m_X11_keeps h0 2 [(0, .ref s_MO), (1, .int 0)] [] h Q) : eb_Sn d m_X11_keeps h0 0 [(0, .ref s_MO)] [] h Q := by
  refine eb_iconst (pc := 0) (n := 0) (v := 0) rfl rfl ?_
  refine eb_istore_n (pc := 1) (n := 1) (i := 1) (ls2 := [(1, .int 0), (0, .ref s_MO)]) rfl (Nat.le_of_ble_eq_true rfl) rfl rfl ?_
  exact eb_pick [1, 0] rfl w
theorem b_X11_keeps_2 {d : Nat} {h0 h : eb_H} {Q : Option Value → eb_H → Prop} (x1 : Int32)  (ko : eb_KO h) (w : (((21 : Int32) ≤ x1 → Q none h) ∧ (¬ ((21 : Int32) ≤ x1) → (vp_in ((31 : Int32) + x1) 3492) ∧ (vp_in x1 21) ∧ eb_Sn d m_X11_keeps h0 2 [(0, .ref s_MO), (1, .int (x1 + 1))] [] (eb_sI h s_m_was x1.toNatClampNeg (eb_I h s_m_all ((31 : Int32) + x1).toNatClampNeg)) Q))) : eb_Sn d m_X11_keeps h0 2 [(0, .ref s_MO), (1, .int x1)] [] h Q := by
  refine eb_iload_n (pc := 2) (n := 1) (i := 1) rfl rfl rfl ?_
  refine eb_bipush (pc := 3) (n := 21) (v := 21) rfl rfl ?_
  refine eb_icmp_ge (pc := 5) (tgt := 29) rfl (by decide) (fun c1 => ?_) (fun c1 => ?_)
  · replace w := w.1 c1
    exact eb_return (pc := 29) rfl rfl w
  · replace w := w.2 c1
    refine eb_aload_n (pc := 8) (n := 0) (i := 0) rfl rfl rfl ?_
    refine eb_getR (pc := 9) rfl rfl (by decide) (by decide) rfl (ko_s_MO_18 ko) ?_
    refine eb_iload_n (pc := 12) (n := 1) (i := 1) rfl rfl rfl ?_
    refine eb_aload_n (pc := 13) (n := 0) (i := 0) rfl rfl rfl ?_
    refine eb_getR (pc := 14) rfl rfl (by decide) (by decide) rfl (ko_s_MO_1 ko) ?_
    refine eb_bipush (pc := 17) (n := 31) (v := 31) rfl rfl ?_
    refine eb_iload_n (pc := 19) (n := 1) (i := 1) rfl rfl rfl ?_
    refine eb_iadd (pc := 20) rfl ?_
    obtain ⟨c2, w⟩ := w
    refine eb_iaload (pc := 21) rfl rfl (by decide) c2 ?_
    obtain ⟨c3, w⟩ := w
    refine eb_iastore (pc := 22) rfl rfl (by decide) c3 ?_
    refine eb_iinc (pc := 23) (i := 1) (n := 1) (v := x1 + 1) (ls2 := [(1, .int (x1 + 1)), (0, .ref s_MO)]) (Nat.le_of_ble_eq_true rfl) rfl rfl rfl rfl ?_
    refine eb_goto (pc := 26) (tgt := 2) rfl (by decide) ?_
    exact eb_pick [1, 0] rfl w
theorem T_X11_keeps {d : Nat} {h : eb_H} {Q : Option Value → eb_H → Prop}   (ko : eb_KO h) (w : eb_Sn d m_X11_keeps h 2 [(0, .ref s_MO), (1, .int 0)] [] h Q) : eb_Ct d 206 [.ref s_MO] h Q :=
  eb_bodyQ (by decide) ok_X11_keeps (Nat.le_of_ble_eq_true rfl) (b_X11_keeps_0 (h0 := h)   ko w)
theorem b_X11_isAgain_0 {d : Nat} {h0 h : eb_H} {Q : Option Value → eb_H → Prop}   (ko : eb_KO h) (w : eb_Sn d m_X11_isAgain h0 2 [(0, .ref s_MO), (1, .int 0)] [] h Q) : eb_Sn d m_X11_isAgain h0 0 [(0, .ref s_MO)] [] h Q := by
  refine eb_iconst (pc := 0) (n := 0) (v := 0) rfl rfl ?_
  refine eb_istore_n (pc := 1) (n := 1) (i := 1) (ls2 := [(1, .int 0), (0, .ref s_MO)]) rfl (Nat.le_of_ble_eq_true rfl) rfl rfl ?_
  exact eb_pick [1, 0] rfl w
theorem b_X11_isAgain_2 {d : Nat} {h0 h : eb_H} {Q : Option Value → eb_H → Prop} (x1 : Int32)  (ko : eb_KO h) (w : (((21 : Int32) ≤ x1 → Q none h) ∧ (¬ ((21 : Int32) ≤ x1) → (vp_in x1 21) ∧ (vp_in ((31 : Int32) + x1) 3492) ∧ eb_Sn d m_X11_isAgain h0 2 [(0, .ref s_MO), (1, .int (x1 + 1))] [] (eb_sI h s_m_all ((31 : Int32) + x1).toNatClampNeg (eb_I h s_m_was x1.toNatClampNeg)) Q))) : eb_Sn d m_X11_isAgain h0 2 [(0, .ref s_MO), (1, .int x1)] [] h Q := by
  refine eb_iload_n (pc := 2) (n := 1) (i := 1) rfl rfl rfl ?_
  refine eb_bipush (pc := 3) (n := 21) (v := 21) rfl rfl ?_
  refine eb_icmp_ge (pc := 5) (tgt := 29) rfl (by decide) (fun c1 => ?_) (fun c1 => ?_)
  · replace w := w.1 c1
    exact eb_return (pc := 29) rfl rfl w
  · replace w := w.2 c1
    refine eb_aload_n (pc := 8) (n := 0) (i := 0) rfl rfl rfl ?_
    refine eb_getR (pc := 9) rfl rfl (by decide) (by decide) rfl (ko_s_MO_1 ko) ?_
    refine eb_bipush (pc := 12) (n := 31) (v := 31) rfl rfl ?_
    refine eb_iload_n (pc := 14) (n := 1) (i := 1) rfl rfl rfl ?_
    refine eb_iadd (pc := 15) rfl ?_
    refine eb_aload_n (pc := 16) (n := 0) (i := 0) rfl rfl rfl ?_
    refine eb_getR (pc := 17) rfl rfl (by decide) (by decide) rfl (ko_s_MO_18 ko) ?_
    refine eb_iload_n (pc := 20) (n := 1) (i := 1) rfl rfl rfl ?_
    obtain ⟨c2, w⟩ := w
    refine eb_iaload (pc := 21) rfl rfl (by decide) c2 ?_
    obtain ⟨c3, w⟩ := w
    refine eb_iastore (pc := 22) rfl rfl (by decide) c3 ?_
    refine eb_iinc (pc := 23) (i := 1) (n := 1) (v := x1 + 1) (ls2 := [(1, .int (x1 + 1)), (0, .ref s_MO)]) (Nat.le_of_ble_eq_true rfl) rfl rfl rfl rfl ?_
    refine eb_goto (pc := 26) (tgt := 2) rfl (by decide) ?_
    exact eb_pick [1, 0] rfl w
theorem T_X11_isAgain {d : Nat} {h : eb_H} {Q : Option Value → eb_H → Prop}   (ko : eb_KO h) (w : eb_Sn d m_X11_isAgain h 2 [(0, .ref s_MO), (1, .int 0)] [] h Q) : eb_Ct d 207 [.ref s_MO] h Q :=
  eb_bodyQ (by decide) ok_X11_isAgain (Nat.le_of_ble_eq_true rfl) (b_X11_isAgain_0 (h0 := h)   ko w)
theorem b_X11_notes_0 {d : Nat} {h0 h : eb_H} {Q : Option Value → eb_H → Prop}   (ko : eb_KO h) (w : ((¬ (eb_I h s_m_all (52 : Int32).toNatClampNeg) = (10 : Int32) → eb_Sn d m_X11_notes h0 58 [(0, .ref s_MO), (1, .int 0)] [] h Q) ∧ ((eb_I h s_m_all (52 : Int32).toNatClampNeg) = (10 : Int32) → eb_Sn d m_X11_notes h0 14 [(0, .ref s_MO), (1, .int 0)] [] h Q))) : eb_Sn d m_X11_notes h0 0 [(0, .ref s_MO)] [] h Q := by
  refine eb_aload_n (pc := 0) (n := 0) (i := 0) rfl rfl rfl ?_
  refine eb_getR (pc := 1) rfl rfl (by decide) (by decide) rfl (ko_s_MO_1 ko) ?_
  refine eb_bipush (pc := 4) (n := 52) (v := 52) rfl rfl ?_
  refine eb_iaload (pc := 6) rfl rfl (by decide) (by unfold vp_in; decide) ?_
  refine eb_bipush (pc := 7) (n := 10) (v := 10) rfl rfl ?_
  refine eb_icmp_ne (pc := 9) (tgt := 56) rfl (by decide) (fun c1 => ?_) (fun c1 => ?_)
  · replace w := w.1 c1
    refine eb_iconst (pc := 56) (n := 0) (v := 0) rfl rfl ?_
    refine eb_istore_n (pc := 57) (n := 1) (i := 1) (ls2 := [(1, .int 0), (0, .ref s_MO)]) rfl (Nat.le_of_ble_eq_true rfl) rfl rfl ?_
    exact eb_pick [1, 0] rfl w
  · replace w := w.2 c1
    refine eb_iconst (pc := 12) (n := 0) (v := 0) rfl rfl ?_
    refine eb_istore_n (pc := 13) (n := 1) (i := 1) (ls2 := [(1, .int 0), (0, .ref s_MO)]) rfl (Nat.le_of_ble_eq_true rfl) rfl rfl ?_
    exact eb_pick [1, 0] rfl w
theorem b_X11_notes_58 {d : Nat} {h0 h : eb_H} {Q : Option Value → eb_H → Prop} (x1 : Int32)  (ko : eb_KO h) (w : (((21 : Int32) ≤ x1 → Q none (eb_sI h s_m_all (52 : Int32).toNatClampNeg ((eb_I h s_m_all (52 : Int32).toNatClampNeg) + 1))) ∧ (¬ ((21 : Int32) ≤ x1) → (vp_in x1 21) ∧ (vp_in (((53 : Int32) + ((21 : Int32) * (eb_I h s_m_all (52 : Int32).toNatClampNeg))) + x1) 3492) ∧ eb_Sn d m_X11_notes h0 58 [(0, .ref s_MO), (1, .int (x1 + 1))] [] (eb_sI h s_m_all (((53 : Int32) + ((21 : Int32) * (eb_I h s_m_all (52 : Int32).toNatClampNeg))) + x1).toNatClampNeg (eb_I h s_m_was x1.toNatClampNeg)) Q))) : eb_Sn d m_X11_notes h0 58 [(0, .ref s_MO), (1, .int x1)] [] h Q := by
  refine eb_iload_n (pc := 58) (n := 1) (i := 1) rfl rfl rfl ?_
  refine eb_bipush (pc := 59) (n := 21) (v := 21) rfl rfl ?_
  refine eb_icmp_ge (pc := 61) (tgt := 96) rfl (by decide) (fun c1 => ?_) (fun c1 => ?_)
  · replace w := w.1 c1
    refine eb_aload_n (pc := 96) (n := 0) (i := 0) rfl rfl rfl ?_
    refine eb_getR (pc := 97) rfl rfl (by decide) (by decide) rfl (ko_s_MO_1 ko) ?_
    refine eb_bipush (pc := 100) (n := 52) (v := 52) rfl rfl ?_
    refine eb_dup2 (pc := 102) rfl ?_
    refine eb_iaload (pc := 103) rfl rfl (by decide) (by unfold vp_in; decide) ?_
    refine eb_iconst (pc := 104) (n := 1) (v := 1) rfl rfl ?_
    refine eb_iadd (pc := 105) rfl ?_
    refine eb_iastore (pc := 106) rfl rfl (by decide) (by unfold vp_in; decide) ?_
    exact eb_return (pc := 107) rfl rfl w
  · replace w := w.2 c1
    refine eb_aload_n (pc := 64) (n := 0) (i := 0) rfl rfl rfl ?_
    refine eb_getR (pc := 65) rfl rfl (by decide) (by decide) rfl (ko_s_MO_1 ko) ?_
    refine eb_bipush (pc := 68) (n := 53) (v := 53) rfl rfl ?_
    refine eb_bipush (pc := 70) (n := 21) (v := 21) rfl rfl ?_
    refine eb_aload_n (pc := 72) (n := 0) (i := 0) rfl rfl rfl ?_
    refine eb_getR (pc := 73) rfl rfl (by decide) (by decide) rfl (ko_s_MO_1 ko) ?_
    refine eb_bipush (pc := 76) (n := 52) (v := 52) rfl rfl ?_
    refine eb_iaload (pc := 78) rfl rfl (by decide) (by unfold vp_in; decide) ?_
    refine eb_imul (pc := 79) rfl ?_
    refine eb_iadd (pc := 80) rfl ?_
    refine eb_iload_n (pc := 81) (n := 1) (i := 1) rfl rfl rfl ?_
    refine eb_iadd (pc := 82) rfl ?_
    refine eb_aload_n (pc := 83) (n := 0) (i := 0) rfl rfl rfl ?_
    refine eb_getR (pc := 84) rfl rfl (by decide) (by decide) rfl (ko_s_MO_18 ko) ?_
    refine eb_iload_n (pc := 87) (n := 1) (i := 1) rfl rfl rfl ?_
    obtain ⟨c2, w⟩ := w
    refine eb_iaload (pc := 88) rfl rfl (by decide) c2 ?_
    obtain ⟨c3, w⟩ := w
    refine eb_iastore (pc := 89) rfl rfl (by decide) c3 ?_
    refine eb_iinc (pc := 90) (i := 1) (n := 1) (v := x1 + 1) (ls2 := [(1, .int (x1 + 1)), (0, .ref s_MO)]) (Nat.le_of_ble_eq_true rfl) rfl rfl rfl rfl ?_
    refine eb_goto (pc := 93) (tgt := 58) rfl (by decide) ?_
    exact eb_pick [1, 0] rfl w
theorem b_X11_notes_14 {d : Nat} {h0 h : eb_H} {Q : Option Value → eb_H → Prop} (x1 : Int32)  (ko : eb_KO h) (w : (((189 : Int32) ≤ x1 → eb_Sn d m_X11_notes h0 58 [(0, .ref s_MO), (1, .int 0)] [] (eb_sI h s_m_all (52 : Int32).toNatClampNeg ((eb_I h s_m_all (52 : Int32).toNatClampNeg) - 1)) Q) ∧ (¬ ((189 : Int32) ≤ x1) → (vp_in ((74 : Int32) + x1) 3492) ∧ (vp_in ((53 : Int32) + x1) 3492) ∧ eb_Sn d m_X11_notes h0 14 [(0, .ref s_MO), (1, .int (x1 + 1))] [] (eb_sI h s_m_all ((53 : Int32) + x1).toNatClampNeg (eb_I h s_m_all ((74 : Int32) + x1).toNatClampNeg)) Q))) : eb_Sn d m_X11_notes h0 14 [(0, .ref s_MO), (1, .int x1)] [] h Q := by
  refine eb_iload_n (pc := 14) (n := 1) (i := 1) rfl rfl rfl ?_
  refine eb_sipush (pc := 15) (n := 189) (v := 189) rfl rfl ?_
  refine eb_icmp_ge (pc := 18) (tgt := 45) rfl (by decide) (fun c1 => ?_) (fun c1 => ?_)
  · replace w := w.1 c1
    refine eb_aload_n (pc := 45) (n := 0) (i := 0) rfl rfl rfl ?_
    refine eb_getR (pc := 46) rfl rfl (by decide) (by decide) rfl (ko_s_MO_1 ko) ?_
    refine eb_bipush (pc := 49) (n := 52) (v := 52) rfl rfl ?_
    refine eb_dup2 (pc := 51) rfl ?_
    refine eb_iaload (pc := 52) rfl rfl (by decide) (by unfold vp_in; decide) ?_
    refine eb_iconst (pc := 53) (n := 1) (v := 1) rfl rfl ?_
    refine eb_isub (pc := 54) rfl ?_
    refine eb_iastore (pc := 55) rfl rfl (by decide) (by unfold vp_in; decide) ?_
    refine eb_iconst (pc := 56) (n := 0) (v := 0) rfl rfl ?_
    refine eb_istore_n (pc := 57) (n := 1) (i := 1) (ls2 := [(1, .int 0), (0, .ref s_MO)]) rfl (Nat.le_of_ble_eq_true rfl) rfl rfl ?_
    exact eb_pick [1, 0] rfl w
  · replace w := w.2 c1
    refine eb_aload_n (pc := 21) (n := 0) (i := 0) rfl rfl rfl ?_
    refine eb_getR (pc := 22) rfl rfl (by decide) (by decide) rfl (ko_s_MO_1 ko) ?_
    refine eb_bipush (pc := 25) (n := 53) (v := 53) rfl rfl ?_
    refine eb_iload_n (pc := 27) (n := 1) (i := 1) rfl rfl rfl ?_
    refine eb_iadd (pc := 28) rfl ?_
    refine eb_aload_n (pc := 29) (n := 0) (i := 0) rfl rfl rfl ?_
    refine eb_getR (pc := 30) rfl rfl (by decide) (by decide) rfl (ko_s_MO_1 ko) ?_
    refine eb_bipush (pc := 33) (n := 74) (v := 74) rfl rfl ?_
    refine eb_iload_n (pc := 35) (n := 1) (i := 1) rfl rfl rfl ?_
    refine eb_iadd (pc := 36) rfl ?_
    obtain ⟨c2, w⟩ := w
    refine eb_iaload (pc := 37) rfl rfl (by decide) c2 ?_
    obtain ⟨c3, w⟩ := w
    refine eb_iastore (pc := 38) rfl rfl (by decide) c3 ?_
    refine eb_iinc (pc := 39) (i := 1) (n := 1) (v := x1 + 1) (ls2 := [(1, .int (x1 + 1)), (0, .ref s_MO)]) (Nat.le_of_ble_eq_true rfl) rfl rfl rfl rfl ?_
    refine eb_goto (pc := 42) (tgt := 14) rfl (by decide) ?_
    exact eb_pick [1, 0] rfl w
theorem T_X11_notes {d : Nat} {h : eb_H} {Q : Option Value → eb_H → Prop}   (ko : eb_KO h) (w : ((¬ (eb_I h s_m_all (52 : Int32).toNatClampNeg) = (10 : Int32) → eb_Sn d m_X11_notes h 58 [(0, .ref s_MO), (1, .int 0)] [] h Q) ∧ ((eb_I h s_m_all (52 : Int32).toNatClampNeg) = (10 : Int32) → eb_Sn d m_X11_notes h 14 [(0, .ref s_MO), (1, .int 0)] [] h Q))) : eb_Ct d 208 [.ref s_MO] h Q :=
  eb_bodyQ (by decide) ok_X11_notes (Nat.le_of_ble_eq_true rfl) (b_X11_notes_0 (h0 := h)   ko w)
theorem b_X11_flies_0 {d : Nat} {h0 h : eb_H} {Q : Option Value → eb_H → Prop} (x1 : Int32)  (ko : eb_KO h) (w : eb_Ct d 200 [.ref s_MO, .int (((64 : Int32) * (eb_I h s_m_all (31 : Int32).toNatClampNeg)) + (eb_I h s_m_all (32 : Int32).toNatClampNeg)), .int x1] h (fun r h1 => ∃ y2, r = some (.int y2) ∧ eb_KO h1 ∧ Q none (eb_sI (eb_sI (eb_sI h1 s_m_all (31 : Int32).toNatClampNeg (y2 / 64)) s_m_all (32 : Int32).toNatClampNeg (y2 - y2 / 64 * 64)) s_m_all (33 : Int32).toNatClampNeg ((eb_I (eb_sI (eb_sI h1 s_m_all (31 : Int32).toNatClampNeg (y2 / 64)) s_m_all (32 : Int32).toNatClampNeg (y2 - y2 / 64 * 64)) s_m_all (33 : Int32).toNatClampNeg) + 1)))) : eb_Sn (d + 1) m_X11_flies h0 0 [(0, .ref s_MO), (1, .int x1)] [] h Q := by
  refine eb_aload_n (pc := 0) (n := 0) (i := 0) rfl rfl rfl ?_
  refine eb_aload_n (pc := 1) (n := 0) (i := 0) rfl rfl rfl ?_
  refine eb_ctV (pc := 2) (As := []) (rest := [.ref s_MO]) rfl (by decide) rfl rfl (by decide) rfl (Nat.le_of_ble_eq_true rfl) ?_
  refine eb_bodyQ (by decide) ok_X11_standNow (Nat.le_of_ble_eq_true rfl) ?_
  change eb_Sn _ m_X11_standNow _ 0 [(0, .ref s_MO)] [] _ _
  refine eb_bipush (pc := 0) (n := 64) (v := 64) rfl rfl ?_
  refine eb_aload_n (pc := 2) (n := 0) (i := 0) rfl rfl rfl ?_
  refine eb_getR (pc := 3) rfl rfl (by decide) (by decide) rfl (ko_s_MO_1 ko) ?_
  refine eb_bipush (pc := 6) (n := 31) (v := 31) rfl rfl ?_
  refine eb_iaload (pc := 8) rfl rfl (by decide) (by unfold vp_in; decide) ?_
  refine eb_imul (pc := 9) rfl ?_
  refine eb_aload_n (pc := 10) (n := 0) (i := 0) rfl rfl rfl ?_
  refine eb_getR (pc := 11) rfl rfl (by decide) (by decide) rfl (ko_s_MO_1 ko) ?_
  refine eb_bipush (pc := 14) (n := 32) (v := 32) rfl rfl ?_
  refine eb_iaload (pc := 16) rfl rfl (by decide) (by unfold vp_in; decide) ?_
  refine eb_iadd (pc := 17) rfl ?_
  refine eb_ireturn (pc := 18) rfl rfl rfl ?_
  change eb_Sn _ _ _ 5 _ [.int (((64 : Int32) * (eb_I h s_m_all (31 : Int32).toNatClampNeg)) + (eb_I h s_m_all (32 : Int32).toNatClampNeg)), .ref s_MO] _ _
  refine eb_iload_n (pc := 5) (n := 1) (i := 1) rfl rfl rfl ?_
  refine eb_ctV (pc := 6) (As := [.int (((64 : Int32) * (eb_I h s_m_all (31 : Int32).toNatClampNeg)) + (eb_I h s_m_all (32 : Int32).toNatClampNeg)), .int x1]) (rest := []) rfl (by decide) rfl rfl (by decide) rfl (Nat.le_of_ble_eq_true rfl) ?_
  refine eb_Ct.mono w ?_
  rintro r h1 ⟨y2, rfl, ko3, w⟩
  change eb_Sn _ _ _ 9 _ [.int y2] _ _
  refine eb_istore_n (pc := 9) (n := 2) (i := 2) (ls2 := [(2, .int y2), (0, .ref s_MO), (1, .int x1)]) rfl (Nat.le_of_ble_eq_true rfl) rfl rfl ?_
  refine eb_aload_n (pc := 10) (n := 0) (i := 0) rfl rfl rfl ?_
  refine eb_getR (pc := 11) rfl rfl (by decide) (by decide) rfl (ko_s_MO_1 ko3) ?_
  refine eb_bipush (pc := 14) (n := 31) (v := 31) rfl rfl ?_
  refine eb_iload_n (pc := 16) (n := 2) (i := 2) rfl rfl rfl ?_
  refine eb_bipush (pc := 17) (n := 64) (v := 64) rfl rfl ?_
  refine eb_idiv (pc := 19) (by decide) rfl ?_
  refine eb_iastore (pc := 20) rfl rfl (by decide) (by unfold vp_in; decide) ?_
  refine eb_aload_n (pc := 21) (n := 0) (i := 0) rfl rfl rfl ?_
  refine eb_getR (pc := 22) rfl rfl (by decide) (by decide) rfl (ko_s_MO_1 ko3) ?_
  refine eb_bipush (pc := 25) (n := 32) (v := 32) rfl rfl ?_
  refine eb_iload_n (pc := 27) (n := 2) (i := 2) rfl rfl rfl ?_
  refine eb_bipush (pc := 28) (n := 64) (v := 64) rfl rfl ?_
  refine eb_irem (pc := 30) (by decide) rfl ?_
  refine eb_iastore (pc := 31) rfl rfl (by decide) (by unfold vp_in; decide) ?_
  refine eb_aload_n (pc := 32) (n := 0) (i := 0) rfl rfl rfl ?_
  refine eb_getR (pc := 33) rfl rfl (by decide) (by decide) rfl (ko_s_MO_1 ko3) ?_
  refine eb_bipush (pc := 36) (n := 33) (v := 33) rfl rfl ?_
  refine eb_dup2 (pc := 38) rfl ?_
  refine eb_iaload (pc := 39) rfl rfl (by decide) (by unfold vp_in; decide) ?_
  refine eb_iconst (pc := 40) (n := 1) (v := 1) rfl rfl ?_
  refine eb_iadd (pc := 41) rfl ?_
  refine eb_iastore (pc := 42) rfl rfl (by decide) (by unfold vp_in; decide) ?_
  exact eb_return (pc := 43) rfl rfl w
theorem T_X11_flies {d : Nat} {h : eb_H} {Q : Option Value → eb_H → Prop} (x1 : Int32)  (ko : eb_KO h) (w : eb_Ct d 200 [.ref s_MO, .int (((64 : Int32) * (eb_I h s_m_all (31 : Int32).toNatClampNeg)) + (eb_I h s_m_all (32 : Int32).toNatClampNeg)), .int x1] h (fun r h1 => ∃ y2, r = some (.int y2) ∧ eb_KO h1 ∧ Q none (eb_sI (eb_sI (eb_sI h1 s_m_all (31 : Int32).toNatClampNeg (y2 / 64)) s_m_all (32 : Int32).toNatClampNeg (y2 - y2 / 64 * 64)) s_m_all (33 : Int32).toNatClampNeg ((eb_I (eb_sI (eb_sI h1 s_m_all (31 : Int32).toNatClampNeg (y2 / 64)) s_m_all (32 : Int32).toNatClampNeg (y2 - y2 / 64 * 64)) s_m_all (33 : Int32).toNatClampNeg) + 1)))) : eb_Ct (d + 1) 209 [.ref s_MO, .int x1] h Q :=
  eb_bodyQ (by decide) ok_X11_flies (Nat.le_of_ble_eq_true rfl) (b_X11_flies_0 (h0 := h) x1  ko w)
theorem b_X11_letsGo_0 {d : Nat} {h0 h : eb_H} {Q : Option Value → eb_H → Prop} (x1 : Int32)  (ko : eb_KO h) (w : Q none (eb_sI (eb_sI h s_m_all (31 : Int32).toNatClampNeg x1) s_m_all (32 : Int32).toNatClampNeg 0)) : eb_Sn d m_X11_letsGo h0 0 [(0, .ref s_MO), (1, .int x1)] [] h Q := by
  refine eb_aload_n (pc := 0) (n := 0) (i := 0) rfl rfl rfl ?_
  refine eb_getR (pc := 1) rfl rfl (by decide) (by decide) rfl (ko_s_MO_1 ko) ?_
  refine eb_bipush (pc := 4) (n := 31) (v := 31) rfl rfl ?_
  refine eb_iload_n (pc := 6) (n := 1) (i := 1) rfl rfl rfl ?_
  refine eb_iastore (pc := 7) rfl rfl (by decide) (by unfold vp_in; decide) ?_
  refine eb_aload_n (pc := 8) (n := 0) (i := 0) rfl rfl rfl ?_
  refine eb_getR (pc := 9) rfl rfl (by decide) (by decide) rfl (ko_s_MO_1 ko) ?_
  refine eb_bipush (pc := 12) (n := 32) (v := 32) rfl rfl ?_
  refine eb_iconst (pc := 14) (n := 0) (v := 0) rfl rfl ?_
  refine eb_iastore (pc := 15) rfl rfl (by decide) (by unfold vp_in; decide) ?_
  exact eb_return (pc := 16) rfl rfl w
theorem T_X11_letsGo {d : Nat} {h : eb_H} {Q : Option Value → eb_H → Prop} (x1 : Int32)  (ko : eb_KO h) (w : Q none (eb_sI (eb_sI h s_m_all (31 : Int32).toNatClampNeg x1) s_m_all (32 : Int32).toNatClampNeg 0)) : eb_Ct d 210 [.ref s_MO, .int x1] h Q :=
  eb_bodyQ (by decide) ok_X11_letsGo (Nat.le_of_ble_eq_true rfl) (b_X11_letsGo_0 (h0 := h) x1  ko w)
theorem b_X11_isKind_0 {d : Nat} {h0 h : eb_H} {Q : Option Value → eb_H → Prop} (x0 : Int64)  (ko : eb_KO h) (w : Q (some (.int (eb_q ((¬ (x0 < 0)) ∧ (¬ (6 < x0)))))) h) : eb_Sn (d + 1) m_X11_isKind h0 0 [(0, .long x0)] [] h Q := by
  refine eb_lload_n (pc := 0) (n := 0) (i := 0) rfl rfl rfl ?_
  refine eb_lconst (pc := 1) (n := 0) (v := 0) rfl rfl ?_
  refine eb_ldc2 (pc := 2) (a := 6) (v := 6) rfl (by decide) ?_
  refine eb_joinI (pc2 := 8) (ls2 := [(0, .long x0)]) (st2 := []) (v := eb_q ((¬ (x0 < 0)) ∧ (¬ (6 < x0)))) ?_ (fun jj3 => ?_)
  · exact eb_ireturn (pc := 8) rfl rfl eb_qn w
  refine eb_ctS (pc := 5) (As := [.long x0, .long 0, .long 6]) (rest := []) rfl (by decide) (by decide) rfl rfl (Nat.le_of_ble_eq_true rfl) ?_
  refine eb_bodyQ (by decide) ok_X11_within (Nat.le_of_ble_eq_true rfl) ?_
  change eb_Sn _ m_X11_within _ 0 [(0, .long x0), (2, .long 0), (4, .long 6)] [] _ _
  refine eb_lload_n (pc := 0) (n := 0) (i := 0) rfl rfl rfl ?_
  refine eb_lload_n (pc := 1) (n := 2) (i := 2) rfl rfl rfl ?_
  refine eb_lcmp (pc := 2) rfl ?_
  refine eb_if_lt (pc := 3) (tgt := 17) rfl (by decide) (fun c1 => ?_) (fun c1 => ?_)
  · replace c1 := eb_lc_lt.mp c1
    refine eb_iconst (pc := 17) (n := 0) (v := 0) rfl rfl ?_
    refine eb_ireturn (pc := 18) rfl rfl (by decide) ?_
    change eb_Sn _ _ _ 8 _ _ _ _
    exact jj3 0 (eb_qf (fun z => z.1 c1)).symm
  · replace c1 := (fun hh => mt eb_lc_lt.mpr hh) c1
    refine eb_lload_n (pc := 6) (n := 0) (i := 0) rfl rfl rfl ?_
    refine eb_lload (pc := 7) (i := 4) rfl rfl ?_
    refine eb_lcmp (pc := 9) rfl ?_
    refine eb_if_gt (pc := 10) (tgt := 17) rfl (by decide) (fun c2 => ?_) (fun c2 => ?_)
    · replace c2 := eb_lc_gt.mp c2
      refine eb_iconst (pc := 17) (n := 0) (v := 0) rfl rfl ?_
      refine eb_ireturn (pc := 18) rfl rfl (by decide) ?_
      change eb_Sn _ _ _ 8 _ _ _ _
      exact jj3 0 (eb_qf (fun z => (fun z => z c2) z.2)).symm
    · replace c2 := (fun hh => mt eb_lc_gt.mpr hh) c2
      refine eb_iconst (pc := 13) (n := 1) (v := 1) rfl rfl ?_
      refine eb_goto (pc := 14) (tgt := 18) rfl (by decide) ?_
      refine eb_ireturn (pc := 18) rfl rfl (by decide) ?_
      change eb_Sn _ _ _ 8 _ _ _ _
      exact jj3 1 (eb_qt (⟨c1, c2⟩)).symm
theorem T_X11_isKind {d : Nat} {h : eb_H} {Q : Option Value → eb_H → Prop} (x0 : Int64)  (ko : eb_KO h) (w : Q (some (.int (eb_q ((¬ (x0 < 0)) ∧ (¬ (6 < x0)))))) h) : eb_Ct (d + 1) 211 [.long x0] h Q :=
  eb_bodyQ (by decide) ok_X11_isKind (Nat.le_of_ble_eq_true rfl) (b_X11_isKind_0 (h0 := h) x0  ko w)
theorem b_X11_fly_0 {d : Nat} {h0 h : eb_H} {Q : Option Value → eb_H → Prop} (x1 : Int32)  (ko : eb_KO h) (w : eb_Ct d 203 [.ref s_MO, .int x1] (eb_sI h s_MO 0 0) (fun r h1 => ∃ y2, r = some (.int y2) ∧ eb_KO h1 ∧ ((y2 = 0 → eb_Ct d 206 [.ref s_MO] h1 (fun r h5 => r = none ∧ eb_KO h5 ∧ eb_Ct d 209 [.ref s_MO, .int x1] h5 (fun r h8 => r = none ∧ eb_KO h8 ∧ eb_Ct d 208 [.ref s_MO] h8 (fun r h11 => r = none ∧ eb_KO h11 ∧ ((¬ (eb_I h11 s_m_all (32 : Int32).toNatClampNeg) = (eb_I h11 s_m_was (1 : Int32).toNatClampNeg) → (vp_in ((34 : Int32) + (eb_I h11 s_m_all (31 : Int32).toNatClampNeg)) 3492) ∧ Q (some (.int (eb_I h11 s_m_all ((34 : Int32) + (eb_I h11 s_m_all (31 : Int32).toNatClampNeg)).toNatClampNeg))) h11) ∧ ((eb_I h11 s_m_all (32 : Int32).toNatClampNeg) = (eb_I h11 s_m_was (1 : Int32).toNatClampNeg) → Q (some (.int 0)) h11)))))) ∧ (¬ (y2 = 0) → Q (some (.int (((-10) : Int32) - y2))) h1)))) : eb_Sn (d + 1) m_X11_fly h0 0 [(0, .ref s_MO), (1, .int x1)] [] h Q := by
  refine eb_aload_n (pc := 0) (n := 0) (i := 0) rfl rfl rfl ?_
  refine eb_iconst (pc := 1) (n := 0) (v := 0) rfl rfl ?_
  refine eb_putI (pc := 2) rfl rfl (by decide) (by decide) rfl rfl ⟨rfl, rfl⟩ ?_
  refine eb_aload_n (pc := 5) (n := 0) (i := 0) rfl rfl rfl ?_
  refine eb_iload_n (pc := 6) (n := 1) (i := 1) rfl rfl rfl ?_
  refine eb_ctV (pc := 7) (As := [.int x1]) (rest := []) rfl (by decide) rfl rfl (by decide) rfl (Nat.le_of_ble_eq_true rfl) ?_
  refine eb_Ct.mono w ?_
  rintro r h1 ⟨y2, rfl, ko3, w⟩
  change eb_Sn _ _ _ 10 _ [.int y2] _ _
  refine eb_istore_n (pc := 10) (n := 2) (i := 2) (ls2 := [(2, .int y2), (0, .ref s_MO), (1, .int x1)]) rfl (Nat.le_of_ble_eq_true rfl) rfl rfl ?_
  refine eb_iload_n (pc := 11) (n := 2) (i := 2) rfl rfl rfl ?_
  refine eb_if_eq (pc := 12) (tgt := 20) rfl (by decide) (fun c4 => ?_) (fun c4 => ?_)
  · replace w := w.1 c4
    refine eb_aload_n (pc := 20) (n := 0) (i := 0) rfl rfl rfl ?_
    refine eb_ctV (pc := 21) (As := []) (rest := []) rfl (by decide) rfl rfl (by decide) rfl (Nat.le_of_ble_eq_true rfl) ?_
    refine eb_Ct.mono w ?_
    rintro r h5 ⟨rfl, ko7, w⟩
    change eb_Sn _ _ _ 24 _ [] _ _
    refine eb_aload_n (pc := 24) (n := 0) (i := 0) rfl rfl rfl ?_
    refine eb_iload_n (pc := 25) (n := 1) (i := 1) rfl rfl rfl ?_
    refine eb_ctV (pc := 26) (As := [.int x1]) (rest := []) rfl (by decide) rfl rfl (by decide) rfl (Nat.le_of_ble_eq_true rfl) ?_
    refine eb_Ct.mono w ?_
    rintro r h8 ⟨rfl, ko10, w⟩
    change eb_Sn _ _ _ 29 _ [] _ _
    refine eb_aload_n (pc := 29) (n := 0) (i := 0) rfl rfl rfl ?_
    refine eb_ctV (pc := 30) (As := []) (rest := []) rfl (by decide) rfl rfl (by decide) rfl (Nat.le_of_ble_eq_true rfl) ?_
    refine eb_Ct.mono w ?_
    rintro r h11 ⟨rfl, ko13, w⟩
    change eb_Sn _ _ _ 33 _ [] _ _
    refine eb_aload_n (pc := 33) (n := 0) (i := 0) rfl rfl rfl ?_
    refine eb_getR (pc := 34) rfl rfl (by decide) (by decide) rfl (ko_s_MO_1 ko13) ?_
    refine eb_bipush (pc := 37) (n := 32) (v := 32) rfl rfl ?_
    refine eb_iaload (pc := 39) rfl rfl (by decide) (by unfold vp_in; decide) ?_
    refine eb_aload_n (pc := 40) (n := 0) (i := 0) rfl rfl rfl ?_
    refine eb_getR (pc := 41) rfl rfl (by decide) (by decide) rfl (ko_s_MO_18 ko13) ?_
    refine eb_iconst (pc := 44) (n := 1) (v := 1) rfl rfl ?_
    refine eb_iaload (pc := 45) rfl rfl (by decide) (by unfold vp_in; decide) ?_
    refine eb_icmp_ne (pc := 46) (tgt := 53) rfl (by decide) (fun c14 => ?_) (fun c14 => ?_)
    · replace w := w.1 c14
      refine eb_aload_n (pc := 53) (n := 0) (i := 0) rfl rfl rfl ?_
      refine eb_getR (pc := 54) rfl rfl (by decide) (by decide) rfl (ko_s_MO_1 ko13) ?_
      refine eb_bipush (pc := 57) (n := 34) (v := 34) rfl rfl ?_
      refine eb_aload_n (pc := 59) (n := 0) (i := 0) rfl rfl rfl ?_
      refine eb_getR (pc := 60) rfl rfl (by decide) (by decide) rfl (ko_s_MO_1 ko13) ?_
      refine eb_bipush (pc := 63) (n := 31) (v := 31) rfl rfl ?_
      refine eb_iaload (pc := 65) rfl rfl (by decide) (by unfold vp_in; decide) ?_
      refine eb_iadd (pc := 66) rfl ?_
      obtain ⟨c15, w⟩ := w
      refine eb_iaload (pc := 67) rfl rfl (by decide) c15 ?_
      exact eb_ireturn (pc := 68) rfl rfl rfl w
    · replace w := w.2 c14
      refine eb_iconst (pc := 49) (n := 0) (v := 0) rfl rfl ?_
      refine eb_goto (pc := 50) (tgt := 68) rfl (by decide) ?_
      exact eb_ireturn (pc := 68) rfl rfl rfl w
  · replace w := w.2 c4
    refine eb_bipush (pc := 15) (n := -10) (v := (-10)) rfl rfl ?_
    refine eb_iload_n (pc := 17) (n := 2) (i := 2) rfl rfl rfl ?_
    refine eb_isub (pc := 18) rfl ?_
    exact eb_ireturn (pc := 19) rfl rfl rfl w
theorem T_X11_fly {d : Nat} {h : eb_H} {Q : Option Value → eb_H → Prop} (x1 : Int32)  (ko : eb_KO h) (w : eb_Ct d 203 [.ref s_MO, .int x1] (eb_sI h s_MO 0 0) (fun r h1 => ∃ y2, r = some (.int y2) ∧ eb_KO h1 ∧ ((y2 = 0 → eb_Ct d 206 [.ref s_MO] h1 (fun r h5 => r = none ∧ eb_KO h5 ∧ eb_Ct d 209 [.ref s_MO, .int x1] h5 (fun r h8 => r = none ∧ eb_KO h8 ∧ eb_Ct d 208 [.ref s_MO] h8 (fun r h11 => r = none ∧ eb_KO h11 ∧ ((¬ (eb_I h11 s_m_all (32 : Int32).toNatClampNeg) = (eb_I h11 s_m_was (1 : Int32).toNatClampNeg) → (vp_in ((34 : Int32) + (eb_I h11 s_m_all (31 : Int32).toNatClampNeg)) 3492) ∧ Q (some (.int (eb_I h11 s_m_all ((34 : Int32) + (eb_I h11 s_m_all (31 : Int32).toNatClampNeg)).toNatClampNeg))) h11) ∧ ((eb_I h11 s_m_all (32 : Int32).toNatClampNeg) = (eb_I h11 s_m_was (1 : Int32).toNatClampNeg) → Q (some (.int 0)) h11)))))) ∧ (¬ (y2 = 0) → Q (some (.int (((-10) : Int32) - y2))) h1)))) : eb_Ct (d + 1) 212 [.ref s_MO, .int x1] h Q :=
  eb_bodyQ (by decide) ok_X11_fly (Nat.le_of_ble_eq_true rfl) (b_X11_fly_0 (h0 := h) x1  ko w)
theorem b_X11_off_0 {d : Nat} {h0 h : eb_H} {Q : Option Value → eb_H → Prop} (x1 : Int32)  (ko : eb_KO h) (w : (((¬ (x1.toInt64 < 0)) ∧ (¬ (((((eb_I (eb_sI h s_MO 0 0) s_m_all (1 : Int32).toNatClampNeg) * (eb_I (eb_sI h s_MO 0 0) s_m_all (2 : Int32).toNatClampNeg)) - 1).toInt64) < x1.toInt64)) → eb_Ct (d + 1) 206 [.ref s_MO] (eb_sI h s_MO 0 0) (fun r h4 => r = none ∧ eb_KO h4 ∧ eb_Ct (d + 1) 208 [.ref s_MO] (eb_sI (eb_sI h4 s_m_all (31 : Int32).toNatClampNeg x1) s_m_all (32 : Int32).toNatClampNeg 0) (fun r h7 => r = none ∧ eb_KO h7 ∧ Q (some (.int (eb_I h7 s_m_was (0 : Int32).toNatClampNeg))) h7))) ∧ (¬ ((¬ (x1.toInt64 < 0)) ∧ (¬ (((((eb_I (eb_sI h s_MO 0 0) s_m_all (1 : Int32).toNatClampNeg) * (eb_I (eb_sI h s_MO 0 0) s_m_all (2 : Int32).toNatClampNeg)) - 1).toInt64) < x1.toInt64))) → Q (some (.int (-11))) (eb_sI h s_MO 0 0)))) : eb_Sn (d + 2) m_X11_off h0 0 [(0, .ref s_MO), (1, .int x1)] [] h Q := by
  refine eb_aload_n (pc := 0) (n := 0) (i := 0) rfl rfl rfl ?_
  refine eb_iconst (pc := 1) (n := 0) (v := 0) rfl rfl ?_
  refine eb_putI (pc := 2) rfl rfl (by decide) (by decide) rfl rfl ⟨rfl, rfl⟩ ?_
  refine eb_aload_n (pc := 5) (n := 0) (i := 0) rfl rfl rfl ?_
  refine eb_iload_n (pc := 6) (n := 1) (i := 1) rfl rfl rfl ?_
  refine eb_i2l (pc := 7) rfl ?_
  refine eb_joinI (pc2 := 11) (ls2 := [(0, .ref s_MO), (1, .int x1)]) (st2 := []) (v := eb_q ((¬ (x1.toInt64 < 0)) ∧ (¬ (((((eb_I (eb_sI h s_MO 0 0) s_m_all (1 : Int32).toNatClampNeg) * (eb_I (eb_sI h s_MO 0 0) s_m_all (2 : Int32).toNatClampNeg)) - 1).toInt64) < x1.toInt64)))) ?_ (fun jj10 => ?_)
  · refine eb_if_ne (pc := 11) (tgt := 17) rfl (by decide) (fun c3 => ?_) (fun c3 => ?_)
    · replace c3 := eb_q1.mp c3
      replace w := w.1 c3
      refine eb_aload_n (pc := 17) (n := 0) (i := 0) rfl rfl rfl ?_
      refine eb_ctV (pc := 18) (As := []) (rest := []) rfl (by decide) rfl rfl (by decide) rfl (Nat.le_of_ble_eq_true rfl) ?_
      refine eb_Ct.mono w ?_
      rintro r h4 ⟨rfl, ko6, w⟩
      change eb_Sn _ _ _ 21 _ [] _ _
      refine eb_aload_n (pc := 21) (n := 0) (i := 0) rfl rfl rfl ?_
      refine eb_iload_n (pc := 22) (n := 1) (i := 1) rfl rfl rfl ?_
      refine eb_ctV (pc := 23) (As := [.int x1]) (rest := []) rfl (by decide) rfl rfl (by decide) rfl (Nat.le_of_ble_eq_true rfl) ?_
      refine eb_bodyQ (by decide) ok_X11_letsGo (Nat.le_of_ble_eq_true rfl) ?_
      change eb_Sn _ m_X11_letsGo _ 0 [(0, .ref s_MO), (1, .int x1)] [] _ _
      refine eb_aload_n (pc := 0) (n := 0) (i := 0) rfl rfl rfl ?_
      refine eb_getR (pc := 1) rfl rfl (by decide) (by decide) rfl (ko_s_MO_1 ko6) ?_
      refine eb_bipush (pc := 4) (n := 31) (v := 31) rfl rfl ?_
      refine eb_iload_n (pc := 6) (n := 1) (i := 1) rfl rfl rfl ?_
      refine eb_iastore (pc := 7) rfl rfl (by decide) (by unfold vp_in; decide) ?_
      refine eb_aload_n (pc := 8) (n := 0) (i := 0) rfl rfl rfl ?_
      refine eb_getR (pc := 9) rfl rfl (by decide) (by decide) rfl (ko_s_MO_1 ko6) ?_
      refine eb_bipush (pc := 12) (n := 32) (v := 32) rfl rfl ?_
      refine eb_iconst (pc := 14) (n := 0) (v := 0) rfl rfl ?_
      refine eb_iastore (pc := 15) rfl rfl (by decide) (by unfold vp_in; decide) ?_
      refine eb_return (pc := 16) rfl rfl ?_
      change eb_Sn _ _ _ 26 _ [] _ _
      refine eb_aload_n (pc := 26) (n := 0) (i := 0) rfl rfl rfl ?_
      refine eb_ctV (pc := 27) (As := []) (rest := []) rfl (by decide) rfl rfl (by decide) rfl (Nat.le_of_ble_eq_true rfl) ?_
      refine eb_Ct.mono w ?_
      rintro r h7 ⟨rfl, ko9, w⟩
      change eb_Sn _ _ _ 30 _ [] _ _
      refine eb_aload_n (pc := 30) (n := 0) (i := 0) rfl rfl rfl ?_
      refine eb_getR (pc := 31) rfl rfl (by decide) (by decide) rfl (ko_s_MO_18 ko9) ?_
      refine eb_iconst (pc := 34) (n := 0) (v := 0) rfl rfl ?_
      refine eb_iaload (pc := 35) rfl rfl (by decide) (by unfold vp_in; decide) ?_
      exact eb_ireturn (pc := 36) rfl rfl rfl w
    · replace c3 := eb_q0.mp c3
      replace w := w.2 c3
      refine eb_bipush (pc := 14) (n := -11) (v := (-11)) rfl rfl ?_
      exact eb_ireturn (pc := 16) rfl rfl rfl w
  refine eb_ctV (pc := 8) (As := [.long x1.toInt64]) (rest := []) rfl (by decide) rfl rfl (by decide) rfl (Nat.le_of_ble_eq_true rfl) ?_
  refine eb_bodyQ (by decide) ok_X11_isCell (Nat.le_of_ble_eq_true rfl) ?_
  change eb_Sn _ m_X11_isCell _ 0 [(0, .ref s_MO), (1, .long x1.toInt64)] [] _ _
  refine eb_lload_n (pc := 0) (n := 1) (i := 1) rfl rfl rfl ?_
  refine eb_lconst (pc := 1) (n := 0) (v := 0) rfl rfl ?_
  refine eb_aload_n (pc := 2) (n := 0) (i := 0) rfl rfl rfl ?_
  refine eb_ctV (pc := 3) (As := []) (rest := [.long 0, .long x1.toInt64]) rfl (by decide) rfl rfl (by decide) rfl (Nat.le_of_ble_eq_true rfl) ?_
  refine eb_bodyQ (by decide) ok_X11_cells (Nat.le_of_ble_eq_true rfl) ?_
  change eb_Sn _ m_X11_cells _ 0 [(0, .ref s_MO)] [] _ _
  refine eb_aload_n (pc := 0) (n := 0) (i := 0) rfl rfl rfl ?_
  refine eb_getR (pc := 1) rfl rfl (by decide) (by decide) rfl (ko_s_MO_1 ko) ?_
  refine eb_iconst (pc := 4) (n := 1) (v := 1) rfl rfl ?_
  refine eb_iaload (pc := 5) rfl rfl (by decide) (by unfold vp_in; decide) ?_
  refine eb_aload_n (pc := 6) (n := 0) (i := 0) rfl rfl rfl ?_
  refine eb_getR (pc := 7) rfl rfl (by decide) (by decide) rfl (ko_s_MO_1 ko) ?_
  refine eb_iconst (pc := 10) (n := 2) (v := 2) rfl rfl ?_
  refine eb_iaload (pc := 11) rfl rfl (by decide) (by unfold vp_in; decide) ?_
  refine eb_imul (pc := 12) rfl ?_
  refine eb_ireturn (pc := 13) rfl rfl rfl ?_
  change eb_Sn _ _ _ 6 _ [.int ((eb_I (eb_sI h s_MO 0 0) s_m_all (1 : Int32).toNatClampNeg) * (eb_I (eb_sI h s_MO 0 0) s_m_all (2 : Int32).toNatClampNeg)), .long 0, .long x1.toInt64] _ _
  refine eb_iconst (pc := 6) (n := 1) (v := 1) rfl rfl ?_
  refine eb_isub (pc := 7) rfl ?_
  refine eb_i2l (pc := 8) rfl ?_
  refine eb_ctS (pc := 9) (As := [.long x1.toInt64, .long 0, .long ((((eb_I (eb_sI h s_MO 0 0) s_m_all (1 : Int32).toNatClampNeg) * (eb_I (eb_sI h s_MO 0 0) s_m_all (2 : Int32).toNatClampNeg)) - 1).toInt64)]) (rest := []) rfl (by decide) (by decide) rfl rfl (Nat.le_of_ble_eq_true rfl) ?_
  refine eb_bodyQ (by decide) ok_X11_within (Nat.le_of_ble_eq_true rfl) ?_
  change eb_Sn _ m_X11_within _ 0 [(0, .long x1.toInt64), (2, .long 0), (4, .long ((((eb_I (eb_sI h s_MO 0 0) s_m_all (1 : Int32).toNatClampNeg) * (eb_I (eb_sI h s_MO 0 0) s_m_all (2 : Int32).toNatClampNeg)) - 1).toInt64))] [] _ _
  refine eb_lload_n (pc := 0) (n := 0) (i := 0) rfl rfl rfl ?_
  refine eb_lload_n (pc := 1) (n := 2) (i := 2) rfl rfl rfl ?_
  refine eb_lcmp (pc := 2) rfl ?_
  refine eb_if_lt (pc := 3) (tgt := 17) rfl (by decide) (fun c1 => ?_) (fun c1 => ?_)
  · replace c1 := eb_lc_lt.mp c1
    refine eb_iconst (pc := 17) (n := 0) (v := 0) rfl rfl ?_
    refine eb_ireturn (pc := 18) rfl rfl (by decide) ?_
    change eb_Sn _ _ _ 12 _ [.int 0] _ _
    refine eb_ireturn (pc := 12) rfl rfl (by decide) ?_
    change eb_Sn _ _ _ 11 _ _ _ _
    exact jj10 0 (eb_qf (fun z => z.1 c1)).symm
  · replace c1 := (fun hh => mt eb_lc_lt.mpr hh) c1
    refine eb_lload_n (pc := 6) (n := 0) (i := 0) rfl rfl rfl ?_
    refine eb_lload (pc := 7) (i := 4) rfl rfl ?_
    refine eb_lcmp (pc := 9) rfl ?_
    refine eb_if_gt (pc := 10) (tgt := 17) rfl (by decide) (fun c2 => ?_) (fun c2 => ?_)
    · replace c2 := eb_lc_gt.mp c2
      refine eb_iconst (pc := 17) (n := 0) (v := 0) rfl rfl ?_
      refine eb_ireturn (pc := 18) rfl rfl (by decide) ?_
      change eb_Sn _ _ _ 12 _ [.int 0] _ _
      refine eb_ireturn (pc := 12) rfl rfl (by decide) ?_
      change eb_Sn _ _ _ 11 _ _ _ _
      exact jj10 0 (eb_qf (fun z => (fun z => z c2) z.2)).symm
    · replace c2 := (fun hh => mt eb_lc_gt.mpr hh) c2
      refine eb_iconst (pc := 13) (n := 1) (v := 1) rfl rfl ?_
      refine eb_goto (pc := 14) (tgt := 18) rfl (by decide) ?_
      refine eb_ireturn (pc := 18) rfl rfl (by decide) ?_
      change eb_Sn _ _ _ 12 _ [.int 1] _ _
      refine eb_ireturn (pc := 12) rfl rfl (by decide) ?_
      change eb_Sn _ _ _ 11 _ _ _ _
      exact jj10 1 (eb_qt (⟨c1, c2⟩)).symm
theorem T_X11_off {d : Nat} {h : eb_H} {Q : Option Value → eb_H → Prop} (x1 : Int32)  (ko : eb_KO h) (w : (((¬ (x1.toInt64 < 0)) ∧ (¬ (((((eb_I (eb_sI h s_MO 0 0) s_m_all (1 : Int32).toNatClampNeg) * (eb_I (eb_sI h s_MO 0 0) s_m_all (2 : Int32).toNatClampNeg)) - 1).toInt64) < x1.toInt64)) → eb_Ct (d + 1) 206 [.ref s_MO] (eb_sI h s_MO 0 0) (fun r h4 => r = none ∧ eb_KO h4 ∧ eb_Ct (d + 1) 208 [.ref s_MO] (eb_sI (eb_sI h4 s_m_all (31 : Int32).toNatClampNeg x1) s_m_all (32 : Int32).toNatClampNeg 0) (fun r h7 => r = none ∧ eb_KO h7 ∧ Q (some (.int (eb_I h7 s_m_was (0 : Int32).toNatClampNeg))) h7))) ∧ (¬ ((¬ (x1.toInt64 < 0)) ∧ (¬ (((((eb_I (eb_sI h s_MO 0 0) s_m_all (1 : Int32).toNatClampNeg) * (eb_I (eb_sI h s_MO 0 0) s_m_all (2 : Int32).toNatClampNeg)) - 1).toInt64) < x1.toInt64))) → Q (some (.int (-11))) (eb_sI h s_MO 0 0)))) : eb_Ct (d + 2) 213 [.ref s_MO, .int x1] h Q :=
  eb_bodyQ (by decide) ok_X11_off (Nat.le_of_ble_eq_true rfl) (b_X11_off_0 (h0 := h) x1  ko w)
theorem b_X11_put_0 {d : Nat} {h0 h : eb_H} {Q : Option Value → eb_H → Prop} (x1 : Int32) (x2 : Int32)  (ko : eb_KO h) (w : ((¬ ((¬ (x1.toInt64 < 0)) ∧ (¬ (((((eb_I (eb_sI h s_MO 0 0) s_m_all (1 : Int32).toNatClampNeg) * (eb_I (eb_sI h s_MO 0 0) s_m_all (2 : Int32).toNatClampNeg)) - 1).toInt64) < x1.toInt64))) → Q (some (.int (-11))) (eb_sI h s_MO 0 0)) ∧ ((¬ (x1.toInt64 < 0)) ∧ (¬ (((((eb_I (eb_sI h s_MO 0 0) s_m_all (1 : Int32).toNatClampNeg) * (eb_I (eb_sI h s_MO 0 0) s_m_all (2 : Int32).toNatClampNeg)) - 1).toInt64) < x1.toInt64)) → (((¬ (x2.toInt64 < 0)) ∧ (¬ (6 < x2.toInt64)) → eb_Ct (d + 1) 206 [.ref s_MO] (eb_sI h s_MO 0 0) (fun r h7 => r = none ∧ eb_KO h7 ∧ (vp_in ((34 : Int32) + x1) 3492) ∧ eb_Ct (d + 1) 208 [.ref s_MO] (eb_sI h7 s_m_all ((34 : Int32) + x1).toNatClampNeg x2) (fun r h11 => r = none ∧ eb_KO h11 ∧ (vp_in ((3 : Int32) + x1) 21) ∧ Q (some (.int (eb_I h11 s_m_was ((3 : Int32) + x1).toNatClampNeg))) h11))) ∧ (¬ ((¬ (x2.toInt64 < 0)) ∧ (¬ (6 < x2.toInt64))) → Q (some (.int (-11))) (eb_sI h s_MO 0 0)))))) : eb_Sn (d + 2) m_X11_put h0 0 [(0, .ref s_MO), (1, .int x1), (2, .int x2)] [] h Q := by
  refine eb_aload_n (pc := 0) (n := 0) (i := 0) rfl rfl rfl ?_
  refine eb_iconst (pc := 1) (n := 0) (v := 0) rfl rfl ?_
  refine eb_putI (pc := 2) rfl rfl (by decide) (by decide) rfl rfl ⟨rfl, rfl⟩ ?_
  refine eb_aload_n (pc := 5) (n := 0) (i := 0) rfl rfl rfl ?_
  refine eb_iload_n (pc := 6) (n := 1) (i := 1) rfl rfl rfl ?_
  refine eb_i2l (pc := 7) rfl ?_
  refine eb_joinI (pc2 := 11) (ls2 := [(0, .ref s_MO), (1, .int x1), (2, .int x2)]) (st2 := []) (v := eb_q ((¬ (x1.toInt64 < 0)) ∧ (¬ (((((eb_I (eb_sI h s_MO 0 0) s_m_all (1 : Int32).toNatClampNeg) * (eb_I (eb_sI h s_MO 0 0) s_m_all (2 : Int32).toNatClampNeg)) - 1).toInt64) < x1.toInt64)))) ?_ (fun jj17 => ?_)
  · refine eb_if_eq (pc := 11) (tgt := 22) rfl (by decide) (fun c3 => ?_) (fun c3 => ?_)
    · replace c3 := eb_q0.mp c3
      replace w := w.1 c3
      refine eb_bipush (pc := 22) (n := -11) (v := (-11)) rfl rfl ?_
      exact eb_ireturn (pc := 24) rfl rfl rfl w
    · replace c3 := eb_q1.mp c3
      replace w := w.2 c3
      refine eb_iload_n (pc := 14) (n := 2) (i := 2) rfl rfl rfl ?_
      refine eb_i2l (pc := 15) rfl ?_
      refine eb_joinI (pc2 := 19) (ls2 := [(0, .ref s_MO), (1, .int x1), (2, .int x2)]) (st2 := []) (v := eb_q ((¬ (x2.toInt64 < 0)) ∧ (¬ (6 < x2.toInt64)))) ?_ (fun jj15 => ?_)
      · refine eb_if_ne (pc := 19) (tgt := 25) rfl (by decide) (fun c6 => ?_) (fun c6 => ?_)
        · replace c6 := eb_q1.mp c6
          replace w := w.1 c6
          refine eb_aload_n (pc := 25) (n := 0) (i := 0) rfl rfl rfl ?_
          refine eb_ctV (pc := 26) (As := []) (rest := []) rfl (by decide) rfl rfl (by decide) rfl (Nat.le_of_ble_eq_true rfl) ?_
          refine eb_Ct.mono w ?_
          rintro r h7 ⟨rfl, ko9, w⟩
          change eb_Sn _ _ _ 29 _ [] _ _
          refine eb_aload_n (pc := 29) (n := 0) (i := 0) rfl rfl rfl ?_
          refine eb_getR (pc := 30) rfl rfl (by decide) (by decide) rfl (ko_s_MO_1 ko9) ?_
          refine eb_bipush (pc := 33) (n := 34) (v := 34) rfl rfl ?_
          refine eb_iload_n (pc := 35) (n := 1) (i := 1) rfl rfl rfl ?_
          refine eb_iadd (pc := 36) rfl ?_
          refine eb_iload_n (pc := 37) (n := 2) (i := 2) rfl rfl rfl ?_
          obtain ⟨c10, w⟩ := w
          refine eb_iastore (pc := 38) rfl rfl (by decide) c10 ?_
          refine eb_aload_n (pc := 39) (n := 0) (i := 0) rfl rfl rfl ?_
          refine eb_ctV (pc := 40) (As := []) (rest := []) rfl (by decide) rfl rfl (by decide) rfl (Nat.le_of_ble_eq_true rfl) ?_
          refine eb_Ct.mono w ?_
          rintro r h11 ⟨rfl, ko13, w⟩
          change eb_Sn _ _ _ 43 _ [] _ _
          refine eb_aload_n (pc := 43) (n := 0) (i := 0) rfl rfl rfl ?_
          refine eb_getR (pc := 44) rfl rfl (by decide) (by decide) rfl (ko_s_MO_18 ko13) ?_
          refine eb_iconst (pc := 47) (n := 3) (v := 3) rfl rfl ?_
          refine eb_iload_n (pc := 48) (n := 1) (i := 1) rfl rfl rfl ?_
          refine eb_iadd (pc := 49) rfl ?_
          obtain ⟨c14, w⟩ := w
          refine eb_iaload (pc := 50) rfl rfl (by decide) c14 ?_
          exact eb_ireturn (pc := 51) rfl rfl rfl w
        · replace c6 := eb_q0.mp c6
          replace w := w.2 c6
          refine eb_bipush (pc := 22) (n := -11) (v := (-11)) rfl rfl ?_
          exact eb_ireturn (pc := 24) rfl rfl rfl w
      refine eb_ctS (pc := 16) (As := [.long x2.toInt64]) (rest := []) rfl (by decide) (by decide) rfl rfl (Nat.le_of_ble_eq_true rfl) ?_
      refine eb_bodyQ (by decide) ok_X11_isKind (Nat.le_of_ble_eq_true rfl) ?_
      change eb_Sn _ m_X11_isKind _ 0 [(0, .long x2.toInt64)] [] _ _
      refine eb_lload_n (pc := 0) (n := 0) (i := 0) rfl rfl rfl ?_
      refine eb_lconst (pc := 1) (n := 0) (v := 0) rfl rfl ?_
      refine eb_ldc2 (pc := 2) (a := 6) (v := 6) rfl (by decide) ?_
      refine eb_ctS (pc := 5) (As := [.long x2.toInt64, .long 0, .long 6]) (rest := []) rfl (by decide) (by decide) rfl rfl (Nat.le_of_ble_eq_true rfl) ?_
      refine eb_bodyQ (by decide) ok_X11_within (Nat.le_of_ble_eq_true rfl) ?_
      change eb_Sn _ m_X11_within _ 0 [(0, .long x2.toInt64), (2, .long 0), (4, .long 6)] [] _ _
      refine eb_lload_n (pc := 0) (n := 0) (i := 0) rfl rfl rfl ?_
      refine eb_lload_n (pc := 1) (n := 2) (i := 2) rfl rfl rfl ?_
      refine eb_lcmp (pc := 2) rfl ?_
      refine eb_if_lt (pc := 3) (tgt := 17) rfl (by decide) (fun c4 => ?_) (fun c4 => ?_)
      · replace c4 := eb_lc_lt.mp c4
        refine eb_iconst (pc := 17) (n := 0) (v := 0) rfl rfl ?_
        refine eb_ireturn (pc := 18) rfl rfl (by decide) ?_
        change eb_Sn _ _ _ 8 _ [.int 0] _ _
        refine eb_ireturn (pc := 8) rfl rfl (by decide) ?_
        change eb_Sn _ _ _ 19 _ _ _ _
        exact jj15 0 (eb_qf (fun z => z.1 c4)).symm
      · replace c4 := (fun hh => mt eb_lc_lt.mpr hh) c4
        refine eb_lload_n (pc := 6) (n := 0) (i := 0) rfl rfl rfl ?_
        refine eb_lload (pc := 7) (i := 4) rfl rfl ?_
        refine eb_lcmp (pc := 9) rfl ?_
        refine eb_if_gt (pc := 10) (tgt := 17) rfl (by decide) (fun c5 => ?_) (fun c5 => ?_)
        · replace c5 := eb_lc_gt.mp c5
          refine eb_iconst (pc := 17) (n := 0) (v := 0) rfl rfl ?_
          refine eb_ireturn (pc := 18) rfl rfl (by decide) ?_
          change eb_Sn _ _ _ 8 _ [.int 0] _ _
          refine eb_ireturn (pc := 8) rfl rfl (by decide) ?_
          change eb_Sn _ _ _ 19 _ _ _ _
          exact jj15 0 (eb_qf (fun z => (fun z => z c5) z.2)).symm
        · replace c5 := (fun hh => mt eb_lc_gt.mpr hh) c5
          refine eb_iconst (pc := 13) (n := 1) (v := 1) rfl rfl ?_
          refine eb_goto (pc := 14) (tgt := 18) rfl (by decide) ?_
          refine eb_ireturn (pc := 18) rfl rfl (by decide) ?_
          change eb_Sn _ _ _ 8 _ [.int 1] _ _
          refine eb_ireturn (pc := 8) rfl rfl (by decide) ?_
          change eb_Sn _ _ _ 19 _ _ _ _
          exact jj15 1 (eb_qt (⟨c4, c5⟩)).symm
  refine eb_ctV (pc := 8) (As := [.long x1.toInt64]) (rest := []) rfl (by decide) rfl rfl (by decide) rfl (Nat.le_of_ble_eq_true rfl) ?_
  refine eb_bodyQ (by decide) ok_X11_isCell (Nat.le_of_ble_eq_true rfl) ?_
  change eb_Sn _ m_X11_isCell _ 0 [(0, .ref s_MO), (1, .long x1.toInt64)] [] _ _
  refine eb_lload_n (pc := 0) (n := 1) (i := 1) rfl rfl rfl ?_
  refine eb_lconst (pc := 1) (n := 0) (v := 0) rfl rfl ?_
  refine eb_aload_n (pc := 2) (n := 0) (i := 0) rfl rfl rfl ?_
  refine eb_ctV (pc := 3) (As := []) (rest := [.long 0, .long x1.toInt64]) rfl (by decide) rfl rfl (by decide) rfl (Nat.le_of_ble_eq_true rfl) ?_
  refine eb_bodyQ (by decide) ok_X11_cells (Nat.le_of_ble_eq_true rfl) ?_
  change eb_Sn _ m_X11_cells _ 0 [(0, .ref s_MO)] [] _ _
  refine eb_aload_n (pc := 0) (n := 0) (i := 0) rfl rfl rfl ?_
  refine eb_getR (pc := 1) rfl rfl (by decide) (by decide) rfl (ko_s_MO_1 ko) ?_
  refine eb_iconst (pc := 4) (n := 1) (v := 1) rfl rfl ?_
  refine eb_iaload (pc := 5) rfl rfl (by decide) (by unfold vp_in; decide) ?_
  refine eb_aload_n (pc := 6) (n := 0) (i := 0) rfl rfl rfl ?_
  refine eb_getR (pc := 7) rfl rfl (by decide) (by decide) rfl (ko_s_MO_1 ko) ?_
  refine eb_iconst (pc := 10) (n := 2) (v := 2) rfl rfl ?_
  refine eb_iaload (pc := 11) rfl rfl (by decide) (by unfold vp_in; decide) ?_
  refine eb_imul (pc := 12) rfl ?_
  refine eb_ireturn (pc := 13) rfl rfl rfl ?_
  change eb_Sn _ _ _ 6 _ [.int ((eb_I (eb_sI h s_MO 0 0) s_m_all (1 : Int32).toNatClampNeg) * (eb_I (eb_sI h s_MO 0 0) s_m_all (2 : Int32).toNatClampNeg)), .long 0, .long x1.toInt64] _ _
  refine eb_iconst (pc := 6) (n := 1) (v := 1) rfl rfl ?_
  refine eb_isub (pc := 7) rfl ?_
  refine eb_i2l (pc := 8) rfl ?_
  refine eb_ctS (pc := 9) (As := [.long x1.toInt64, .long 0, .long ((((eb_I (eb_sI h s_MO 0 0) s_m_all (1 : Int32).toNatClampNeg) * (eb_I (eb_sI h s_MO 0 0) s_m_all (2 : Int32).toNatClampNeg)) - 1).toInt64)]) (rest := []) rfl (by decide) (by decide) rfl rfl (Nat.le_of_ble_eq_true rfl) ?_
  refine eb_bodyQ (by decide) ok_X11_within (Nat.le_of_ble_eq_true rfl) ?_
  change eb_Sn _ m_X11_within _ 0 [(0, .long x1.toInt64), (2, .long 0), (4, .long ((((eb_I (eb_sI h s_MO 0 0) s_m_all (1 : Int32).toNatClampNeg) * (eb_I (eb_sI h s_MO 0 0) s_m_all (2 : Int32).toNatClampNeg)) - 1).toInt64))] [] _ _
  refine eb_lload_n (pc := 0) (n := 0) (i := 0) rfl rfl rfl ?_
  refine eb_lload_n (pc := 1) (n := 2) (i := 2) rfl rfl rfl ?_
  refine eb_lcmp (pc := 2) rfl ?_
  refine eb_if_lt (pc := 3) (tgt := 17) rfl (by decide) (fun c1 => ?_) (fun c1 => ?_)
  · replace c1 := eb_lc_lt.mp c1
    refine eb_iconst (pc := 17) (n := 0) (v := 0) rfl rfl ?_
    refine eb_ireturn (pc := 18) rfl rfl (by decide) ?_
    change eb_Sn _ _ _ 12 _ [.int 0] _ _
    refine eb_ireturn (pc := 12) rfl rfl (by decide) ?_
    change eb_Sn _ _ _ 11 _ _ _ _
    exact jj17 0 (eb_qf (fun z => z.1 c1)).symm
  · replace c1 := (fun hh => mt eb_lc_lt.mpr hh) c1
    refine eb_lload_n (pc := 6) (n := 0) (i := 0) rfl rfl rfl ?_
    refine eb_lload (pc := 7) (i := 4) rfl rfl ?_
    refine eb_lcmp (pc := 9) rfl ?_
    refine eb_if_gt (pc := 10) (tgt := 17) rfl (by decide) (fun c2 => ?_) (fun c2 => ?_)
    · replace c2 := eb_lc_gt.mp c2
      refine eb_iconst (pc := 17) (n := 0) (v := 0) rfl rfl ?_
      refine eb_ireturn (pc := 18) rfl rfl (by decide) ?_
      change eb_Sn _ _ _ 12 _ [.int 0] _ _
      refine eb_ireturn (pc := 12) rfl rfl (by decide) ?_
      change eb_Sn _ _ _ 11 _ _ _ _
      exact jj17 0 (eb_qf (fun z => (fun z => z c2) z.2)).symm
    · replace c2 := (fun hh => mt eb_lc_gt.mpr hh) c2
      refine eb_iconst (pc := 13) (n := 1) (v := 1) rfl rfl ?_
      refine eb_goto (pc := 14) (tgt := 18) rfl (by decide) ?_
      refine eb_ireturn (pc := 18) rfl rfl (by decide) ?_
      change eb_Sn _ _ _ 12 _ [.int 1] _ _
      refine eb_ireturn (pc := 12) rfl rfl (by decide) ?_
      change eb_Sn _ _ _ 11 _ _ _ _
      exact jj17 1 (eb_qt (⟨c1, c2⟩)).symm
theorem T_X11_put {d : Nat} {h : eb_H} {Q : Option Value → eb_H → Prop} (x1 : Int32) (x2 : Int32)  (ko : eb_KO h) (w : ((¬ ((¬ (x1.toInt64 < 0)) ∧ (¬ (((((eb_I (eb_sI h s_MO 0 0) s_m_all (1 : Int32).toNatClampNeg) * (eb_I (eb_sI h s_MO 0 0) s_m_all (2 : Int32).toNatClampNeg)) - 1).toInt64) < x1.toInt64))) → Q (some (.int (-11))) (eb_sI h s_MO 0 0)) ∧ ((¬ (x1.toInt64 < 0)) ∧ (¬ (((((eb_I (eb_sI h s_MO 0 0) s_m_all (1 : Int32).toNatClampNeg) * (eb_I (eb_sI h s_MO 0 0) s_m_all (2 : Int32).toNatClampNeg)) - 1).toInt64) < x1.toInt64)) → (((¬ (x2.toInt64 < 0)) ∧ (¬ (6 < x2.toInt64)) → eb_Ct (d + 1) 206 [.ref s_MO] (eb_sI h s_MO 0 0) (fun r h7 => r = none ∧ eb_KO h7 ∧ (vp_in ((34 : Int32) + x1) 3492) ∧ eb_Ct (d + 1) 208 [.ref s_MO] (eb_sI h7 s_m_all ((34 : Int32) + x1).toNatClampNeg x2) (fun r h11 => r = none ∧ eb_KO h11 ∧ (vp_in ((3 : Int32) + x1) 21) ∧ Q (some (.int (eb_I h11 s_m_was ((3 : Int32) + x1).toNatClampNeg))) h11))) ∧ (¬ ((¬ (x2.toInt64 < 0)) ∧ (¬ (6 < x2.toInt64))) → Q (some (.int (-11))) (eb_sI h s_MO 0 0)))))) : eb_Ct (d + 2) 214 [.ref s_MO, .int x1, .int x2] h Q :=
  eb_bodyQ (by decide) ok_X11_put (Nat.le_of_ble_eq_true rfl) (b_X11_put_0 (h0 := h) x1 x2  ko w)
theorem b_X11_drift_0 {d : Nat} {h0 h : eb_H} {Q : Option Value → eb_H → Prop} (x1 : Int32)  (ko : eb_KO h) (w : (((¬ (x1.toInt64 < 0)) ∧ (¬ (((((eb_I (eb_sI h s_MO 0 0) s_m_all (1 : Int32).toNatClampNeg) * (eb_I (eb_sI h s_MO 0 0) s_m_all (2 : Int32).toNatClampNeg)) - 1).toInt64) < x1.toInt64)) → eb_Ct (d + 1) 206 [.ref s_MO] (eb_sI h s_MO 0 0) (fun r h4 => r = none ∧ eb_KO h4 ∧ eb_Ct (d + 1) 208 [.ref s_MO] (eb_sI h4 s_m_all (50 : Int32).toNatClampNeg ((eb_I h4 s_m_all (50 : Int32).toNatClampNeg) ^^^ ((1 : Int32) <<< (x1 &&& 31)))) (fun r h7 => r = none ∧ eb_KO h7 ∧ Q (some (.int (((eb_I h7 s_m_all (50 : Int32).toNatClampNeg) >>> (x1 &&& 31)) &&& 1))) h7))) ∧ (¬ ((¬ (x1.toInt64 < 0)) ∧ (¬ (((((eb_I (eb_sI h s_MO 0 0) s_m_all (1 : Int32).toNatClampNeg) * (eb_I (eb_sI h s_MO 0 0) s_m_all (2 : Int32).toNatClampNeg)) - 1).toInt64) < x1.toInt64))) → Q (some (.int (-11))) (eb_sI h s_MO 0 0)))) : eb_Sn (d + 2) m_X11_drift h0 0 [(0, .ref s_MO), (1, .int x1)] [] h Q := by
  refine eb_aload_n (pc := 0) (n := 0) (i := 0) rfl rfl rfl ?_
  refine eb_iconst (pc := 1) (n := 0) (v := 0) rfl rfl ?_
  refine eb_putI (pc := 2) rfl rfl (by decide) (by decide) rfl rfl ⟨rfl, rfl⟩ ?_
  refine eb_aload_n (pc := 5) (n := 0) (i := 0) rfl rfl rfl ?_
  refine eb_iload_n (pc := 6) (n := 1) (i := 1) rfl rfl rfl ?_
  refine eb_i2l (pc := 7) rfl ?_
  refine eb_joinI (pc2 := 11) (ls2 := [(0, .ref s_MO), (1, .int x1)]) (st2 := []) (v := eb_q ((¬ (x1.toInt64 < 0)) ∧ (¬ (((((eb_I (eb_sI h s_MO 0 0) s_m_all (1 : Int32).toNatClampNeg) * (eb_I (eb_sI h s_MO 0 0) s_m_all (2 : Int32).toNatClampNeg)) - 1).toInt64) < x1.toInt64)))) ?_ (fun jj10 => ?_)
  · refine eb_if_ne (pc := 11) (tgt := 17) rfl (by decide) (fun c3 => ?_) (fun c3 => ?_)
    · replace c3 := eb_q1.mp c3
      replace w := w.1 c3
      refine eb_aload_n (pc := 17) (n := 0) (i := 0) rfl rfl rfl ?_
      refine eb_ctV (pc := 18) (As := []) (rest := []) rfl (by decide) rfl rfl (by decide) rfl (Nat.le_of_ble_eq_true rfl) ?_
      refine eb_Ct.mono w ?_
      rintro r h4 ⟨rfl, ko6, w⟩
      change eb_Sn _ _ _ 21 _ [] _ _
      refine eb_aload_n (pc := 21) (n := 0) (i := 0) rfl rfl rfl ?_
      refine eb_getR (pc := 22) rfl rfl (by decide) (by decide) rfl (ko_s_MO_1 ko6) ?_
      refine eb_bipush (pc := 25) (n := 50) (v := 50) rfl rfl ?_
      refine eb_dup2 (pc := 27) rfl ?_
      refine eb_iaload (pc := 28) rfl rfl (by decide) (by unfold vp_in; decide) ?_
      refine eb_iconst (pc := 29) (n := 1) (v := 1) rfl rfl ?_
      refine eb_iload_n (pc := 30) (n := 1) (i := 1) rfl rfl rfl ?_
      refine eb_ishl (pc := 31) rfl ?_
      refine eb_ixor (pc := 32) rfl ?_
      refine eb_iastore (pc := 33) rfl rfl (by decide) (by unfold vp_in; decide) ?_
      refine eb_aload_n (pc := 34) (n := 0) (i := 0) rfl rfl rfl ?_
      refine eb_ctV (pc := 35) (As := []) (rest := []) rfl (by decide) rfl rfl (by decide) rfl (Nat.le_of_ble_eq_true rfl) ?_
      refine eb_Ct.mono w ?_
      rintro r h7 ⟨rfl, ko9, w⟩
      change eb_Sn _ _ _ 38 _ [] _ _
      refine eb_aload_n (pc := 38) (n := 0) (i := 0) rfl rfl rfl ?_
      refine eb_getR (pc := 39) rfl rfl (by decide) (by decide) rfl (ko_s_MO_1 ko9) ?_
      refine eb_bipush (pc := 42) (n := 50) (v := 50) rfl rfl ?_
      refine eb_iaload (pc := 44) rfl rfl (by decide) (by unfold vp_in; decide) ?_
      refine eb_iload_n (pc := 45) (n := 1) (i := 1) rfl rfl rfl ?_
      refine eb_ishr (pc := 46) rfl ?_
      refine eb_iconst (pc := 47) (n := 1) (v := 1) rfl rfl ?_
      refine eb_iand (pc := 48) rfl ?_
      exact eb_ireturn (pc := 49) rfl rfl rfl w
    · replace c3 := eb_q0.mp c3
      replace w := w.2 c3
      refine eb_bipush (pc := 14) (n := -11) (v := (-11)) rfl rfl ?_
      exact eb_ireturn (pc := 16) rfl rfl rfl w
  refine eb_ctV (pc := 8) (As := [.long x1.toInt64]) (rest := []) rfl (by decide) rfl rfl (by decide) rfl (Nat.le_of_ble_eq_true rfl) ?_
  refine eb_bodyQ (by decide) ok_X11_isCell (Nat.le_of_ble_eq_true rfl) ?_
  change eb_Sn _ m_X11_isCell _ 0 [(0, .ref s_MO), (1, .long x1.toInt64)] [] _ _
  refine eb_lload_n (pc := 0) (n := 1) (i := 1) rfl rfl rfl ?_
  refine eb_lconst (pc := 1) (n := 0) (v := 0) rfl rfl ?_
  refine eb_aload_n (pc := 2) (n := 0) (i := 0) rfl rfl rfl ?_
  refine eb_ctV (pc := 3) (As := []) (rest := [.long 0, .long x1.toInt64]) rfl (by decide) rfl rfl (by decide) rfl (Nat.le_of_ble_eq_true rfl) ?_
  refine eb_bodyQ (by decide) ok_X11_cells (Nat.le_of_ble_eq_true rfl) ?_
  change eb_Sn _ m_X11_cells _ 0 [(0, .ref s_MO)] [] _ _
  refine eb_aload_n (pc := 0) (n := 0) (i := 0) rfl rfl rfl ?_
  refine eb_getR (pc := 1) rfl rfl (by decide) (by decide) rfl (ko_s_MO_1 ko) ?_
  refine eb_iconst (pc := 4) (n := 1) (v := 1) rfl rfl ?_
  refine eb_iaload (pc := 5) rfl rfl (by decide) (by unfold vp_in; decide) ?_
  refine eb_aload_n (pc := 6) (n := 0) (i := 0) rfl rfl rfl ?_
  refine eb_getR (pc := 7) rfl rfl (by decide) (by decide) rfl (ko_s_MO_1 ko) ?_
  refine eb_iconst (pc := 10) (n := 2) (v := 2) rfl rfl ?_
  refine eb_iaload (pc := 11) rfl rfl (by decide) (by unfold vp_in; decide) ?_
  refine eb_imul (pc := 12) rfl ?_
  refine eb_ireturn (pc := 13) rfl rfl rfl ?_
  change eb_Sn _ _ _ 6 _ [.int ((eb_I (eb_sI h s_MO 0 0) s_m_all (1 : Int32).toNatClampNeg) * (eb_I (eb_sI h s_MO 0 0) s_m_all (2 : Int32).toNatClampNeg)), .long 0, .long x1.toInt64] _ _
  refine eb_iconst (pc := 6) (n := 1) (v := 1) rfl rfl ?_
  refine eb_isub (pc := 7) rfl ?_
  refine eb_i2l (pc := 8) rfl ?_
  refine eb_ctS (pc := 9) (As := [.long x1.toInt64, .long 0, .long ((((eb_I (eb_sI h s_MO 0 0) s_m_all (1 : Int32).toNatClampNeg) * (eb_I (eb_sI h s_MO 0 0) s_m_all (2 : Int32).toNatClampNeg)) - 1).toInt64)]) (rest := []) rfl (by decide) (by decide) rfl rfl (Nat.le_of_ble_eq_true rfl) ?_
  refine eb_bodyQ (by decide) ok_X11_within (Nat.le_of_ble_eq_true rfl) ?_
  change eb_Sn _ m_X11_within _ 0 [(0, .long x1.toInt64), (2, .long 0), (4, .long ((((eb_I (eb_sI h s_MO 0 0) s_m_all (1 : Int32).toNatClampNeg) * (eb_I (eb_sI h s_MO 0 0) s_m_all (2 : Int32).toNatClampNeg)) - 1).toInt64))] [] _ _
  refine eb_lload_n (pc := 0) (n := 0) (i := 0) rfl rfl rfl ?_
  refine eb_lload_n (pc := 1) (n := 2) (i := 2) rfl rfl rfl ?_
  refine eb_lcmp (pc := 2) rfl ?_
  refine eb_if_lt (pc := 3) (tgt := 17) rfl (by decide) (fun c1 => ?_) (fun c1 => ?_)
  · replace c1 := eb_lc_lt.mp c1
    refine eb_iconst (pc := 17) (n := 0) (v := 0) rfl rfl ?_
    refine eb_ireturn (pc := 18) rfl rfl (by decide) ?_
    change eb_Sn _ _ _ 12 _ [.int 0] _ _
    refine eb_ireturn (pc := 12) rfl rfl (by decide) ?_
    change eb_Sn _ _ _ 11 _ _ _ _
    exact jj10 0 (eb_qf (fun z => z.1 c1)).symm
  · replace c1 := (fun hh => mt eb_lc_lt.mpr hh) c1
    refine eb_lload_n (pc := 6) (n := 0) (i := 0) rfl rfl rfl ?_
    refine eb_lload (pc := 7) (i := 4) rfl rfl ?_
    refine eb_lcmp (pc := 9) rfl ?_
    refine eb_if_gt (pc := 10) (tgt := 17) rfl (by decide) (fun c2 => ?_) (fun c2 => ?_)
    · replace c2 := eb_lc_gt.mp c2
      refine eb_iconst (pc := 17) (n := 0) (v := 0) rfl rfl ?_
      refine eb_ireturn (pc := 18) rfl rfl (by decide) ?_
      change eb_Sn _ _ _ 12 _ [.int 0] _ _
      refine eb_ireturn (pc := 12) rfl rfl (by decide) ?_
      change eb_Sn _ _ _ 11 _ _ _ _
      exact jj10 0 (eb_qf (fun z => (fun z => z c2) z.2)).symm
    · replace c2 := (fun hh => mt eb_lc_gt.mpr hh) c2
      refine eb_iconst (pc := 13) (n := 1) (v := 1) rfl rfl ?_
      refine eb_goto (pc := 14) (tgt := 18) rfl (by decide) ?_
      refine eb_ireturn (pc := 18) rfl rfl (by decide) ?_
      change eb_Sn _ _ _ 12 _ [.int 1] _ _
      refine eb_ireturn (pc := 12) rfl rfl (by decide) ?_
      change eb_Sn _ _ _ 11 _ _ _ _
      exact jj10 1 (eb_qt (⟨c1, c2⟩)).symm
theorem T_X11_drift {d : Nat} {h : eb_H} {Q : Option Value → eb_H → Prop} (x1 : Int32)  (ko : eb_KO h) (w : (((¬ (x1.toInt64 < 0)) ∧ (¬ (((((eb_I (eb_sI h s_MO 0 0) s_m_all (1 : Int32).toNatClampNeg) * (eb_I (eb_sI h s_MO 0 0) s_m_all (2 : Int32).toNatClampNeg)) - 1).toInt64) < x1.toInt64)) → eb_Ct (d + 1) 206 [.ref s_MO] (eb_sI h s_MO 0 0) (fun r h4 => r = none ∧ eb_KO h4 ∧ eb_Ct (d + 1) 208 [.ref s_MO] (eb_sI h4 s_m_all (50 : Int32).toNatClampNeg ((eb_I h4 s_m_all (50 : Int32).toNatClampNeg) ^^^ ((1 : Int32) <<< (x1 &&& 31)))) (fun r h7 => r = none ∧ eb_KO h7 ∧ Q (some (.int (((eb_I h7 s_m_all (50 : Int32).toNatClampNeg) >>> (x1 &&& 31)) &&& 1))) h7))) ∧ (¬ ((¬ (x1.toInt64 < 0)) ∧ (¬ (((((eb_I (eb_sI h s_MO 0 0) s_m_all (1 : Int32).toNatClampNeg) * (eb_I (eb_sI h s_MO 0 0) s_m_all (2 : Int32).toNatClampNeg)) - 1).toInt64) < x1.toInt64))) → Q (some (.int (-11))) (eb_sI h s_MO 0 0)))) : eb_Ct (d + 2) 215 [.ref s_MO, .int x1] h Q :=
  eb_bodyQ (by decide) ok_X11_drift (Nat.le_of_ble_eq_true rfl) (b_X11_drift_0 (h0 := h) x1  ko w)
theorem b_X11_wind_0 {d : Nat} {h0 h : eb_H} {Q : Option Value → eb_H → Prop} (x1 : Int32)  (ko : eb_KO h) (w : (((¬ (x1.toInt64 < 0)) ∧ (¬ (9 < x1.toInt64)) → eb_Ct d 206 [.ref s_MO] (eb_sI h s_MO 0 0) (fun r h4 => r = none ∧ eb_KO h4 ∧ eb_Ct d 208 [.ref s_MO] (eb_sI h4 s_m_all (51 : Int32).toNatClampNeg x1) (fun r h7 => r = none ∧ eb_KO h7 ∧ Q (some (.int (eb_I h7 s_m_was (20 : Int32).toNatClampNeg))) h7))) ∧ (¬ ((¬ (x1.toInt64 < 0)) ∧ (¬ (9 < x1.toInt64))) → Q (some (.int (-11))) (eb_sI h s_MO 0 0)))) : eb_Sn (d + 1) m_X11_wind h0 0 [(0, .ref s_MO), (1, .int x1)] [] h Q := by
  refine eb_aload_n (pc := 0) (n := 0) (i := 0) rfl rfl rfl ?_
  refine eb_iconst (pc := 1) (n := 0) (v := 0) rfl rfl ?_
  refine eb_putI (pc := 2) rfl rfl (by decide) (by decide) rfl rfl ⟨rfl, rfl⟩ ?_
  refine eb_iload_n (pc := 5) (n := 1) (i := 1) rfl rfl rfl ?_
  refine eb_i2l (pc := 6) rfl ?_
  refine eb_lconst (pc := 7) (n := 0) (v := 0) rfl rfl ?_
  refine eb_ldc2 (pc := 8) (a := 9) (v := 9) rfl (by decide) ?_
  refine eb_joinI (pc2 := 14) (ls2 := [(0, .ref s_MO), (1, .int x1)]) (st2 := []) (v := eb_q ((¬ (x1.toInt64 < 0)) ∧ (¬ (9 < x1.toInt64)))) ?_ (fun jj10 => ?_)
  · refine eb_if_ne (pc := 14) (tgt := 20) rfl (by decide) (fun c3 => ?_) (fun c3 => ?_)
    · replace c3 := eb_q1.mp c3
      replace w := w.1 c3
      refine eb_aload_n (pc := 20) (n := 0) (i := 0) rfl rfl rfl ?_
      refine eb_ctV (pc := 21) (As := []) (rest := []) rfl (by decide) rfl rfl (by decide) rfl (Nat.le_of_ble_eq_true rfl) ?_
      refine eb_Ct.mono w ?_
      rintro r h4 ⟨rfl, ko6, w⟩
      change eb_Sn _ _ _ 24 _ [] _ _
      refine eb_aload_n (pc := 24) (n := 0) (i := 0) rfl rfl rfl ?_
      refine eb_getR (pc := 25) rfl rfl (by decide) (by decide) rfl (ko_s_MO_1 ko6) ?_
      refine eb_bipush (pc := 28) (n := 51) (v := 51) rfl rfl ?_
      refine eb_iload_n (pc := 30) (n := 1) (i := 1) rfl rfl rfl ?_
      refine eb_iastore (pc := 31) rfl rfl (by decide) (by unfold vp_in; decide) ?_
      refine eb_aload_n (pc := 32) (n := 0) (i := 0) rfl rfl rfl ?_
      refine eb_ctV (pc := 33) (As := []) (rest := []) rfl (by decide) rfl rfl (by decide) rfl (Nat.le_of_ble_eq_true rfl) ?_
      refine eb_Ct.mono w ?_
      rintro r h7 ⟨rfl, ko9, w⟩
      change eb_Sn _ _ _ 36 _ [] _ _
      refine eb_aload_n (pc := 36) (n := 0) (i := 0) rfl rfl rfl ?_
      refine eb_getR (pc := 37) rfl rfl (by decide) (by decide) rfl (ko_s_MO_18 ko9) ?_
      refine eb_bipush (pc := 40) (n := 20) (v := 20) rfl rfl ?_
      refine eb_iaload (pc := 42) rfl rfl (by decide) (by unfold vp_in; decide) ?_
      exact eb_ireturn (pc := 43) rfl rfl rfl w
    · replace c3 := eb_q0.mp c3
      replace w := w.2 c3
      refine eb_bipush (pc := 17) (n := -11) (v := (-11)) rfl rfl ?_
      exact eb_ireturn (pc := 19) rfl rfl rfl w
  refine eb_ctS (pc := 11) (As := [.long x1.toInt64, .long 0, .long 9]) (rest := []) rfl (by decide) (by decide) rfl rfl (Nat.le_of_ble_eq_true rfl) ?_
  refine eb_bodyQ (by decide) ok_X11_within (Nat.le_of_ble_eq_true rfl) ?_
  change eb_Sn _ m_X11_within _ 0 [(0, .long x1.toInt64), (2, .long 0), (4, .long 9)] [] _ _
  refine eb_lload_n (pc := 0) (n := 0) (i := 0) rfl rfl rfl ?_
  refine eb_lload_n (pc := 1) (n := 2) (i := 2) rfl rfl rfl ?_
  refine eb_lcmp (pc := 2) rfl ?_
  refine eb_if_lt (pc := 3) (tgt := 17) rfl (by decide) (fun c1 => ?_) (fun c1 => ?_)
  · replace c1 := eb_lc_lt.mp c1
    refine eb_iconst (pc := 17) (n := 0) (v := 0) rfl rfl ?_
    refine eb_ireturn (pc := 18) rfl rfl (by decide) ?_
    change eb_Sn _ _ _ 14 _ _ _ _
    exact jj10 0 (eb_qf (fun z => z.1 c1)).symm
  · replace c1 := (fun hh => mt eb_lc_lt.mpr hh) c1
    refine eb_lload_n (pc := 6) (n := 0) (i := 0) rfl rfl rfl ?_
    refine eb_lload (pc := 7) (i := 4) rfl rfl ?_
    refine eb_lcmp (pc := 9) rfl ?_
    refine eb_if_gt (pc := 10) (tgt := 17) rfl (by decide) (fun c2 => ?_) (fun c2 => ?_)
    · replace c2 := eb_lc_gt.mp c2
      refine eb_iconst (pc := 17) (n := 0) (v := 0) rfl rfl ?_
      refine eb_ireturn (pc := 18) rfl rfl (by decide) ?_
      change eb_Sn _ _ _ 14 _ _ _ _
      exact jj10 0 (eb_qf (fun z => (fun z => z c2) z.2)).symm
    · replace c2 := (fun hh => mt eb_lc_gt.mpr hh) c2
      refine eb_iconst (pc := 13) (n := 1) (v := 1) rfl rfl ?_
      refine eb_goto (pc := 14) (tgt := 18) rfl (by decide) ?_
      refine eb_ireturn (pc := 18) rfl rfl (by decide) ?_
      change eb_Sn _ _ _ 14 _ _ _ _
      exact jj10 1 (eb_qt (⟨c1, c2⟩)).symm
theorem T_X11_wind {d : Nat} {h : eb_H} {Q : Option Value → eb_H → Prop} (x1 : Int32)  (ko : eb_KO h) (w : (((¬ (x1.toInt64 < 0)) ∧ (¬ (9 < x1.toInt64)) → eb_Ct d 206 [.ref s_MO] (eb_sI h s_MO 0 0) (fun r h4 => r = none ∧ eb_KO h4 ∧ eb_Ct d 208 [.ref s_MO] (eb_sI h4 s_m_all (51 : Int32).toNatClampNeg x1) (fun r h7 => r = none ∧ eb_KO h7 ∧ Q (some (.int (eb_I h7 s_m_was (20 : Int32).toNatClampNeg))) h7))) ∧ (¬ ((¬ (x1.toInt64 < 0)) ∧ (¬ (9 < x1.toInt64))) → Q (some (.int (-11))) (eb_sI h s_MO 0 0)))) : eb_Ct (d + 1) 216 [.ref s_MO, .int x1] h Q :=
  eb_bodyQ (by decide) ok_X11_wind (Nat.le_of_ble_eq_true rfl) (b_X11_wind_0 (h0 := h) x1  ko w)
theorem b_X11_undo_0 {d : Nat} {h0 h : eb_H} {Q : Option Value → eb_H → Prop} (x1 : Int32)  (ko : eb_KO h) (w : ((¬ ((¬ (x1.toInt64 < 1)) ∧ (¬ (10 < x1.toInt64))) → Q (some (.int (-3))) (eb_sI h s_MO 0 0)) ∧ ((¬ (x1.toInt64 < 1)) ∧ (¬ (10 < x1.toInt64)) → ((x1 ≤ (eb_I (eb_sI h s_MO 0 0) s_m_all (52 : Int32).toNatClampNeg) → eb_Sn (d + 1) m_X11_undo h0 44 [(0, .ref s_MO), (2, .int 0)] [] (eb_sI (eb_sI h s_MO 0 0) s_m_all (52 : Int32).toNatClampNeg ((eb_I (eb_sI h s_MO 0 0) s_m_all (52 : Int32).toNatClampNeg) - x1)) Q) ∧ (¬ (x1 ≤ (eb_I (eb_sI h s_MO 0 0) s_m_all (52 : Int32).toNatClampNeg)) → Q (some (.int (-3))) (eb_sI h s_MO 0 0)))))) : eb_Sn (d + 1) m_X11_undo h0 0 [(0, .ref s_MO), (1, .int x1)] [] h Q := by
  refine eb_aload_n (pc := 0) (n := 0) (i := 0) rfl rfl rfl ?_
  refine eb_iconst (pc := 1) (n := 0) (v := 0) rfl rfl ?_
  refine eb_putI (pc := 2) rfl rfl (by decide) (by decide) rfl rfl ⟨rfl, rfl⟩ ?_
  refine eb_iload_n (pc := 5) (n := 1) (i := 1) rfl rfl rfl ?_
  refine eb_i2l (pc := 6) rfl ?_
  refine eb_lconst (pc := 7) (n := 1) (v := 1) rfl rfl ?_
  refine eb_ldc2 (pc := 8) (a := 10) (v := 10) rfl (by decide) ?_
  refine eb_joinI (pc2 := 14) (ls2 := [(0, .ref s_MO), (1, .int x1)]) (st2 := []) (v := eb_q ((¬ (x1.toInt64 < 1)) ∧ (¬ (10 < x1.toInt64)))) ?_ (fun jj5 => ?_)
  · refine eb_if_eq (pc := 14) (tgt := 28) rfl (by decide) (fun c3 => ?_) (fun c3 => ?_)
    · replace c3 := eb_q0.mp c3
      replace w := w.1 c3
      refine eb_bipush (pc := 28) (n := -3) (v := (-3)) rfl rfl ?_
      exact eb_ireturn (pc := 30) rfl rfl rfl w
    · replace c3 := eb_q1.mp c3
      replace w := w.2 c3
      refine eb_iload_n (pc := 17) (n := 1) (i := 1) rfl rfl rfl ?_
      refine eb_aload_n (pc := 18) (n := 0) (i := 0) rfl rfl rfl ?_
      refine eb_getR (pc := 19) rfl rfl (by decide) (by decide) rfl (ko_s_MO_1 ko) ?_
      refine eb_bipush (pc := 22) (n := 52) (v := 52) rfl rfl ?_
      refine eb_iaload (pc := 24) rfl rfl (by decide) (by unfold vp_in; decide) ?_
      refine eb_icmp_le (pc := 25) (tgt := 31) rfl (by decide) (fun c4 => ?_) (fun c4 => ?_)
      · replace w := w.1 c4
        refine eb_aload_n (pc := 31) (n := 0) (i := 0) rfl rfl rfl ?_
        refine eb_getR (pc := 32) rfl rfl (by decide) (by decide) rfl (ko_s_MO_1 ko) ?_
        refine eb_bipush (pc := 35) (n := 52) (v := 52) rfl rfl ?_
        refine eb_dup2 (pc := 37) rfl ?_
        refine eb_iaload (pc := 38) rfl rfl (by decide) (by unfold vp_in; decide) ?_
        refine eb_iload_n (pc := 39) (n := 1) (i := 1) rfl rfl rfl ?_
        refine eb_isub (pc := 40) rfl ?_
        refine eb_iastore (pc := 41) rfl rfl (by decide) (by unfold vp_in; decide) ?_
        refine eb_iconst (pc := 42) (n := 0) (v := 0) rfl rfl ?_
        refine eb_istore_n (pc := 43) (n := 2) (i := 2) (ls2 := [(2, .int 0), (0, .ref s_MO), (1, .int x1)]) rfl (Nat.le_of_ble_eq_true rfl) rfl rfl ?_
        exact eb_pick [1, 0] rfl w
      · replace w := w.2 c4
        refine eb_bipush (pc := 28) (n := -3) (v := (-3)) rfl rfl ?_
        exact eb_ireturn (pc := 30) rfl rfl rfl w
  refine eb_ctS (pc := 11) (As := [.long x1.toInt64, .long 1, .long 10]) (rest := []) rfl (by decide) (by decide) rfl rfl (Nat.le_of_ble_eq_true rfl) ?_
  refine eb_bodyQ (by decide) ok_X11_within (Nat.le_of_ble_eq_true rfl) ?_
  change eb_Sn _ m_X11_within _ 0 [(0, .long x1.toInt64), (2, .long 1), (4, .long 10)] [] _ _
  refine eb_lload_n (pc := 0) (n := 0) (i := 0) rfl rfl rfl ?_
  refine eb_lload_n (pc := 1) (n := 2) (i := 2) rfl rfl rfl ?_
  refine eb_lcmp (pc := 2) rfl ?_
  refine eb_if_lt (pc := 3) (tgt := 17) rfl (by decide) (fun c1 => ?_) (fun c1 => ?_)
  · replace c1 := eb_lc_lt.mp c1
    refine eb_iconst (pc := 17) (n := 0) (v := 0) rfl rfl ?_
    refine eb_ireturn (pc := 18) rfl rfl (by decide) ?_
    change eb_Sn _ _ _ 14 _ _ _ _
    exact jj5 0 (eb_qf (fun z => z.1 c1)).symm
  · replace c1 := (fun hh => mt eb_lc_lt.mpr hh) c1
    refine eb_lload_n (pc := 6) (n := 0) (i := 0) rfl rfl rfl ?_
    refine eb_lload (pc := 7) (i := 4) rfl rfl ?_
    refine eb_lcmp (pc := 9) rfl ?_
    refine eb_if_gt (pc := 10) (tgt := 17) rfl (by decide) (fun c2 => ?_) (fun c2 => ?_)
    · replace c2 := eb_lc_gt.mp c2
      refine eb_iconst (pc := 17) (n := 0) (v := 0) rfl rfl ?_
      refine eb_ireturn (pc := 18) rfl rfl (by decide) ?_
      change eb_Sn _ _ _ 14 _ _ _ _
      exact jj5 0 (eb_qf (fun z => (fun z => z c2) z.2)).symm
    · replace c2 := (fun hh => mt eb_lc_gt.mpr hh) c2
      refine eb_iconst (pc := 13) (n := 1) (v := 1) rfl rfl ?_
      refine eb_goto (pc := 14) (tgt := 18) rfl (by decide) ?_
      refine eb_ireturn (pc := 18) rfl rfl (by decide) ?_
      change eb_Sn _ _ _ 14 _ _ _ _
      exact jj5 1 (eb_qt (⟨c1, c2⟩)).symm
theorem b_X11_undo_44 {d : Nat} {h0 h : eb_H} {Q : Option Value → eb_H → Prop} (x2 : Int32)  (ko : eb_KO h) (w : (((21 : Int32) ≤ x2 → Q (some (.int (eb_I h s_m_all (52 : Int32).toNatClampNeg))) h) ∧ (¬ ((21 : Int32) ≤ x2) → (vp_in (((53 : Int32) + ((21 : Int32) * (eb_I h s_m_all (52 : Int32).toNatClampNeg))) + x2) 3492) ∧ (vp_in ((31 : Int32) + x2) 3492) ∧ eb_Sn (d + 1) m_X11_undo h0 44 [(0, .ref s_MO), (2, .int (x2 + 1))] [] (eb_sI h s_m_all ((31 : Int32) + x2).toNatClampNeg (eb_I h s_m_all (((53 : Int32) + ((21 : Int32) * (eb_I h s_m_all (52 : Int32).toNatClampNeg))) + x2).toNatClampNeg)) Q))) : eb_Sn (d + 1) m_X11_undo h0 44 [(0, .ref s_MO), (2, .int x2)] [] h Q := by
  refine eb_iload_n (pc := 44) (n := 2) (i := 2) rfl rfl rfl ?_
  refine eb_bipush (pc := 45) (n := 21) (v := 21) rfl rfl ?_
  refine eb_icmp_ge (pc := 47) (tgt := 85) rfl (by decide) (fun c1 => ?_) (fun c1 => ?_)
  · replace w := w.1 c1
    refine eb_aload_n (pc := 85) (n := 0) (i := 0) rfl rfl rfl ?_
    refine eb_getR (pc := 86) rfl rfl (by decide) (by decide) rfl (ko_s_MO_1 ko) ?_
    refine eb_bipush (pc := 89) (n := 52) (v := 52) rfl rfl ?_
    refine eb_iaload (pc := 91) rfl rfl (by decide) (by unfold vp_in; decide) ?_
    exact eb_ireturn (pc := 92) rfl rfl rfl w
  · replace w := w.2 c1
    refine eb_aload_n (pc := 50) (n := 0) (i := 0) rfl rfl rfl ?_
    refine eb_getR (pc := 51) rfl rfl (by decide) (by decide) rfl (ko_s_MO_1 ko) ?_
    refine eb_bipush (pc := 54) (n := 31) (v := 31) rfl rfl ?_
    refine eb_iload_n (pc := 56) (n := 2) (i := 2) rfl rfl rfl ?_
    refine eb_iadd (pc := 57) rfl ?_
    refine eb_aload_n (pc := 58) (n := 0) (i := 0) rfl rfl rfl ?_
    refine eb_getR (pc := 59) rfl rfl (by decide) (by decide) rfl (ko_s_MO_1 ko) ?_
    refine eb_bipush (pc := 62) (n := 53) (v := 53) rfl rfl ?_
    refine eb_bipush (pc := 64) (n := 21) (v := 21) rfl rfl ?_
    refine eb_aload_n (pc := 66) (n := 0) (i := 0) rfl rfl rfl ?_
    refine eb_getR (pc := 67) rfl rfl (by decide) (by decide) rfl (ko_s_MO_1 ko) ?_
    refine eb_bipush (pc := 70) (n := 52) (v := 52) rfl rfl ?_
    refine eb_iaload (pc := 72) rfl rfl (by decide) (by unfold vp_in; decide) ?_
    refine eb_imul (pc := 73) rfl ?_
    refine eb_iadd (pc := 74) rfl ?_
    refine eb_iload_n (pc := 75) (n := 2) (i := 2) rfl rfl rfl ?_
    refine eb_iadd (pc := 76) rfl ?_
    obtain ⟨c2, w⟩ := w
    refine eb_iaload (pc := 77) rfl rfl (by decide) c2 ?_
    obtain ⟨c3, w⟩ := w
    refine eb_iastore (pc := 78) rfl rfl (by decide) c3 ?_
    refine eb_iinc (pc := 79) (i := 2) (n := 1) (v := x2 + 1) (ls2 := [(2, .int (x2 + 1)), (0, .ref s_MO)]) (Nat.le_of_ble_eq_true rfl) rfl rfl rfl rfl ?_
    refine eb_goto (pc := 82) (tgt := 44) rfl (by decide) ?_
    exact eb_pick [1, 0] rfl w
theorem T_X11_undo {d : Nat} {h : eb_H} {Q : Option Value → eb_H → Prop} (x1 : Int32)  (ko : eb_KO h) (w : ((¬ ((¬ (x1.toInt64 < 1)) ∧ (¬ (10 < x1.toInt64))) → Q (some (.int (-3))) (eb_sI h s_MO 0 0)) ∧ ((¬ (x1.toInt64 < 1)) ∧ (¬ (10 < x1.toInt64)) → ((x1 ≤ (eb_I (eb_sI h s_MO 0 0) s_m_all (52 : Int32).toNatClampNeg) → eb_Sn (d + 1) m_X11_undo h 44 [(0, .ref s_MO), (2, .int 0)] [] (eb_sI (eb_sI h s_MO 0 0) s_m_all (52 : Int32).toNatClampNeg ((eb_I (eb_sI h s_MO 0 0) s_m_all (52 : Int32).toNatClampNeg) - x1)) Q) ∧ (¬ (x1 ≤ (eb_I (eb_sI h s_MO 0 0) s_m_all (52 : Int32).toNatClampNeg)) → Q (some (.int (-3))) (eb_sI h s_MO 0 0)))))) : eb_Ct (d + 1) 217 [.ref s_MO, .int x1] h Q :=
  eb_bodyQ (by decide) ok_X11_undo (Nat.le_of_ble_eq_true rfl) (b_X11_undo_0 (h0 := h) x1  ko w)
theorem b_X11_whyNot_0 {d : Nat} {h0 h : eb_H} {Q : Option Value → eb_H → Prop} (x1 : Int64)  (ko : eb_KO h) (w : ((¬ ((¬ (x1 < 0)) ∧ (¬ (3 < x1))) → ((¬ ((¬ (x1 < 100)) ∧ (¬ (299 < x1))) → ((¬ ((¬ (x1 < 300)) ∧ (¬ (309 < x1))) → Q (some (.int (eb_q ((¬ ((¬ (x1 < 1000)) ∧ (¬ (1999 < x1)))) ∨ ((((x1 - 1000) / 10) < 0) ∨ ((((((eb_I h s_m_all (1 : Int32).toNatClampNeg) * (eb_I h s_m_all (2 : Int32).toNatClampNeg)) - 1).toInt64) < ((x1 - 1000) / 10)) ∨ (((x1 - x1 / 10 * 10) < 0) ∨ (6 < (x1 - x1 / 10 * 10))))))))) h) ∧ ((¬ (x1 < 300)) ∧ (¬ (309 < x1)) → Q (some (.int 0)) h))) ∧ ((¬ (x1 < 100)) ∧ (¬ (299 < x1)) → Q (some (.int (eb_q (¬ ((¬ (((x1 - 100) - (x1 - 100) / 100 * 100) < 0)) ∧ (¬ (((((eb_I h s_m_all (1 : Int32).toNatClampNeg) * (eb_I h s_m_all (2 : Int32).toNatClampNeg)) - 1).toInt64) < ((x1 - 100) - (x1 - 100) / 100 * 100)))))))) h))) ∧ ((¬ (x1 < 0)) ∧ (¬ (3 < x1)) → eb_Ct (d + 1) 203 [.ref s_MO, .int x1.toInt32] h (fun r h32 => ∃ y33, r = some (.int y33) ∧ eb_KO h32 ∧ Q (some (.int y33)) h32)))) : eb_Sn (d + 2) m_X11_whyNot h0 0 [(0, .ref s_MO), (1, .long x1)] [] h Q := by
  refine eb_lload_n (pc := 0) (n := 1) (i := 1) rfl rfl rfl ?_
  refine eb_lconst (pc := 1) (n := 0) (v := 0) rfl rfl ?_
  refine eb_ldc2 (pc := 2) (a := 3) (v := 3) rfl (by decide) ?_
  refine eb_joinI (pc2 := 8) (ls2 := [(0, .ref s_MO), (1, .long x1)]) (st2 := []) (v := eb_q ((¬ (x1 < 0)) ∧ (¬ (3 < x1)))) ?_ (fun jj35 => ?_)
  · refine eb_if_eq (pc := 8) (tgt := 18) rfl (by decide) (fun c3 => ?_) (fun c3 => ?_)
    · replace c3 := eb_q0.mp c3
      replace w := w.1 c3
      refine eb_lload_n (pc := 18) (n := 1) (i := 1) rfl rfl rfl ?_
      refine eb_ldc2 (pc := 19) (a := 100) (v := 100) rfl (by decide) ?_
      refine eb_ldc2 (pc := 22) (a := 299) (v := 299) rfl (by decide) ?_
      refine eb_joinI (pc2 := 28) (ls2 := [(0, .ref s_MO), (1, .long x1)]) (st2 := []) (v := eb_q ((¬ (x1 < 100)) ∧ (¬ (299 < x1)))) ?_ (fun jj30 => ?_)
      · refine eb_if_eq (pc := 28) (tgt := 53) rfl (by decide) (fun c6 => ?_) (fun c6 => ?_)
        · replace c6 := eb_q0.mp c6
          replace w := w.1 c6
          refine eb_lload_n (pc := 53) (n := 1) (i := 1) rfl rfl rfl ?_
          refine eb_ldc2 (pc := 54) (a := 300) (v := 300) rfl (by decide) ?_
          refine eb_ldc2 (pc := 57) (a := 309) (v := 309) rfl (by decide) ?_
          refine eb_joinI (pc2 := 63) (ls2 := [(0, .ref s_MO), (1, .long x1)]) (st2 := []) (v := eb_q ((¬ (x1 < 300)) ∧ (¬ (309 < x1)))) ?_ (fun jj21 => ?_)
          · refine eb_if_eq (pc := 63) (tgt := 68) rfl (by decide) (fun c9 => ?_) (fun c9 => ?_)
            · replace c9 := eb_q0.mp c9
              replace w := w.1 c9
              refine eb_lload_n (pc := 68) (n := 1) (i := 1) rfl rfl rfl ?_
              refine eb_ldc2 (pc := 69) (a := 1000) (v := 1000) rfl (by decide) ?_
              refine eb_ldc2 (pc := 72) (a := 1999) (v := 1999) rfl (by decide) ?_
              refine eb_joinI (pc2 := 78) (ls2 := [(0, .ref s_MO), (1, .long x1)]) (st2 := []) (v := eb_q ((¬ (x1 < 1000)) ∧ (¬ (1999 < x1)))) ?_ (fun jj19 => ?_)
              · refine eb_joinI (pc2 := 113) (ls2 := [(0, .ref s_MO), (1, .long x1)]) (st2 := []) (v := eb_q ((¬ ((¬ (x1 < 1000)) ∧ (¬ (1999 < x1)))) ∨ ((((x1 - 1000) / 10) < 0) ∨ ((((((eb_I h s_m_all (1 : Int32).toNatClampNeg) * (eb_I h s_m_all (2 : Int32).toNatClampNeg)) - 1).toInt64) < ((x1 - 1000) / 10)) ∨ (((x1 - x1 / 10 * 10) < 0) ∨ (6 < (x1 - x1 / 10 * 10))))))) ?_ (fun jj17 => ?_)
                · exact eb_ireturn (pc := 113) rfl rfl rfl w
                refine eb_if_eq (pc := 78) (tgt := 112) rfl (by decide) (fun c12 => ?_) (fun c12 => ?_)
                · replace c12 := eb_q0.mp c12
                  refine eb_iconst (pc := 112) (n := 1) (v := 1) rfl rfl ?_
                  exact jj17 1 (eb_qt (Or.inl c12)).symm
                · replace c12 := eb_q1.mp c12
                  refine eb_aload_n (pc := 81) (n := 0) (i := 0) rfl rfl rfl ?_
                  refine eb_lload_n (pc := 82) (n := 1) (i := 1) rfl rfl rfl ?_
                  refine eb_ldc2 (pc := 83) (a := 1000) (v := 1000) rfl (by decide) ?_
                  refine eb_lsub (pc := 86) rfl ?_
                  refine eb_ldc2 (pc := 87) (a := 10) (v := 10) rfl (by decide) ?_
                  refine eb_ldiv (pc := 90) (by decide) rfl ?_
                  refine eb_ctV (pc := 91) (As := [.long ((x1 - 1000) / 10)]) (rest := []) rfl (by decide) rfl rfl (by decide) rfl (Nat.le_of_ble_eq_true rfl) ?_
                  refine eb_bodyQ (by decide) ok_X11_isCell (Nat.le_of_ble_eq_true rfl) ?_
                  change eb_Sn _ m_X11_isCell _ 0 [(0, .ref s_MO), (1, .long ((x1 - 1000) / 10))] [] _ _
                  refine eb_lload_n (pc := 0) (n := 1) (i := 1) rfl rfl rfl ?_
                  refine eb_lconst (pc := 1) (n := 0) (v := 0) rfl rfl ?_
                  refine eb_aload_n (pc := 2) (n := 0) (i := 0) rfl rfl rfl ?_
                  refine eb_ctV (pc := 3) (As := []) (rest := [.long 0, .long ((x1 - 1000) / 10)]) rfl (by decide) rfl rfl (by decide) rfl (Nat.le_of_ble_eq_true rfl) ?_
                  refine eb_bodyQ (by decide) ok_X11_cells (Nat.le_of_ble_eq_true rfl) ?_
                  change eb_Sn _ m_X11_cells _ 0 [(0, .ref s_MO)] [] _ _
                  refine eb_aload_n (pc := 0) (n := 0) (i := 0) rfl rfl rfl ?_
                  refine eb_getR (pc := 1) rfl rfl (by decide) (by decide) rfl (ko_s_MO_1 ko) ?_
                  refine eb_iconst (pc := 4) (n := 1) (v := 1) rfl rfl ?_
                  refine eb_iaload (pc := 5) rfl rfl (by decide) (by unfold vp_in; decide) ?_
                  refine eb_aload_n (pc := 6) (n := 0) (i := 0) rfl rfl rfl ?_
                  refine eb_getR (pc := 7) rfl rfl (by decide) (by decide) rfl (ko_s_MO_1 ko) ?_
                  refine eb_iconst (pc := 10) (n := 2) (v := 2) rfl rfl ?_
                  refine eb_iaload (pc := 11) rfl rfl (by decide) (by unfold vp_in; decide) ?_
                  refine eb_imul (pc := 12) rfl ?_
                  refine eb_ireturn (pc := 13) rfl rfl rfl ?_
                  change eb_Sn _ _ _ 6 _ [.int ((eb_I h s_m_all (1 : Int32).toNatClampNeg) * (eb_I h s_m_all (2 : Int32).toNatClampNeg)), .long 0, .long ((x1 - 1000) / 10)] _ _
                  refine eb_iconst (pc := 6) (n := 1) (v := 1) rfl rfl ?_
                  refine eb_isub (pc := 7) rfl ?_
                  refine eb_i2l (pc := 8) rfl ?_
                  refine eb_ctS (pc := 9) (As := [.long ((x1 - 1000) / 10), .long 0, .long ((((eb_I h s_m_all (1 : Int32).toNatClampNeg) * (eb_I h s_m_all (2 : Int32).toNatClampNeg)) - 1).toInt64)]) (rest := []) rfl (by decide) (by decide) rfl rfl (Nat.le_of_ble_eq_true rfl) ?_
                  refine eb_bodyQ (by decide) ok_X11_within (Nat.le_of_ble_eq_true rfl) ?_
                  change eb_Sn _ m_X11_within _ 0 [(0, .long ((x1 - 1000) / 10)), (2, .long 0), (4, .long ((((eb_I h s_m_all (1 : Int32).toNatClampNeg) * (eb_I h s_m_all (2 : Int32).toNatClampNeg)) - 1).toInt64))] [] _ _
                  refine eb_lload_n (pc := 0) (n := 0) (i := 0) rfl rfl rfl ?_
                  refine eb_lload_n (pc := 1) (n := 2) (i := 2) rfl rfl rfl ?_
                  refine eb_lcmp (pc := 2) rfl ?_
                  refine eb_if_lt (pc := 3) (tgt := 17) rfl (by decide) (fun c13 => ?_) (fun c13 => ?_)
                  · replace c13 := eb_lc_lt.mp c13
                    refine eb_iconst (pc := 17) (n := 0) (v := 0) rfl rfl ?_
                    refine eb_ireturn (pc := 18) rfl rfl (by decide) ?_
                    change eb_Sn _ _ _ 12 _ [.int 0] _ _
                    refine eb_ireturn (pc := 12) rfl rfl (by decide) ?_
                    change eb_Sn _ _ _ 94 _ [.int 0] _ _
                    refine eb_if_eq (pc := 94) (tgt := 112) rfl (by decide) (fun c => ?_) (fun c => absurd c (by decide))
                    refine eb_iconst (pc := 112) (n := 1) (v := 1) rfl rfl ?_
                    exact jj17 1 (eb_qt (Or.inr (Or.inl c13))).symm
                  · replace c13 := (fun hh => mt eb_lc_lt.mpr hh) c13
                    refine eb_lload_n (pc := 6) (n := 0) (i := 0) rfl rfl rfl ?_
                    refine eb_lload (pc := 7) (i := 4) rfl rfl ?_
                    refine eb_lcmp (pc := 9) rfl ?_
                    refine eb_if_gt (pc := 10) (tgt := 17) rfl (by decide) (fun c14 => ?_) (fun c14 => ?_)
                    · replace c14 := eb_lc_gt.mp c14
                      refine eb_iconst (pc := 17) (n := 0) (v := 0) rfl rfl ?_
                      refine eb_ireturn (pc := 18) rfl rfl (by decide) ?_
                      change eb_Sn _ _ _ 12 _ [.int 0] _ _
                      refine eb_ireturn (pc := 12) rfl rfl (by decide) ?_
                      change eb_Sn _ _ _ 94 _ [.int 0] _ _
                      refine eb_if_eq (pc := 94) (tgt := 112) rfl (by decide) (fun c => ?_) (fun c => absurd c (by decide))
                      refine eb_iconst (pc := 112) (n := 1) (v := 1) rfl rfl ?_
                      exact jj17 1 (eb_qt (Or.inr (Or.inr (Or.inl c14)))).symm
                    · replace c14 := (fun hh => mt eb_lc_gt.mpr hh) c14
                      refine eb_iconst (pc := 13) (n := 1) (v := 1) rfl rfl ?_
                      refine eb_goto (pc := 14) (tgt := 18) rfl (by decide) ?_
                      refine eb_ireturn (pc := 18) rfl rfl (by decide) ?_
                      change eb_Sn _ _ _ 12 _ [.int 1] _ _
                      refine eb_ireturn (pc := 12) rfl rfl (by decide) ?_
                      change eb_Sn _ _ _ 94 _ [.int 1] _ _
                      refine eb_if_eq (pc := 94) (tgt := 112) rfl (by decide) (fun c => absurd c (by decide)) (fun c => ?_)
                      refine eb_lload_n (pc := 97) (n := 1) (i := 1) rfl rfl rfl ?_
                      refine eb_ldc2 (pc := 98) (a := 10) (v := 10) rfl (by decide) ?_
                      refine eb_lrem (pc := 101) (by decide) rfl ?_
                      refine eb_ctS (pc := 102) (As := [.long (x1 - x1 / 10 * 10)]) (rest := []) rfl (by decide) (by decide) rfl rfl (Nat.le_of_ble_eq_true rfl) ?_
                      refine eb_bodyQ (by decide) ok_X11_isKind (Nat.le_of_ble_eq_true rfl) ?_
                      change eb_Sn _ m_X11_isKind _ 0 [(0, .long (x1 - x1 / 10 * 10))] [] _ _
                      refine eb_lload_n (pc := 0) (n := 0) (i := 0) rfl rfl rfl ?_
                      refine eb_lconst (pc := 1) (n := 0) (v := 0) rfl rfl ?_
                      refine eb_ldc2 (pc := 2) (a := 6) (v := 6) rfl (by decide) ?_
                      refine eb_ctS (pc := 5) (As := [.long (x1 - x1 / 10 * 10), .long 0, .long 6]) (rest := []) rfl (by decide) (by decide) rfl rfl (Nat.le_of_ble_eq_true rfl) ?_
                      refine eb_bodyQ (by decide) ok_X11_within (Nat.le_of_ble_eq_true rfl) ?_
                      change eb_Sn _ m_X11_within _ 0 [(0, .long (x1 - x1 / 10 * 10)), (2, .long 0), (4, .long 6)] [] _ _
                      refine eb_lload_n (pc := 0) (n := 0) (i := 0) rfl rfl rfl ?_
                      refine eb_lload_n (pc := 1) (n := 2) (i := 2) rfl rfl rfl ?_
                      refine eb_lcmp (pc := 2) rfl ?_
                      refine eb_if_lt (pc := 3) (tgt := 17) rfl (by decide) (fun c15 => ?_) (fun c15 => ?_)
                      · replace c15 := eb_lc_lt.mp c15
                        refine eb_iconst (pc := 17) (n := 0) (v := 0) rfl rfl ?_
                        refine eb_ireturn (pc := 18) rfl rfl (by decide) ?_
                        change eb_Sn _ _ _ 8 _ [.int 0] _ _
                        refine eb_ireturn (pc := 8) rfl rfl (by decide) ?_
                        change eb_Sn _ _ _ 105 _ [.int 0] _ _
                        refine eb_if_eq (pc := 105) (tgt := 112) rfl (by decide) (fun c => ?_) (fun c => absurd c (by decide))
                        refine eb_iconst (pc := 112) (n := 1) (v := 1) rfl rfl ?_
                        exact jj17 1 (eb_qt (Or.inr (Or.inr (Or.inr (Or.inl c15))))).symm
                      · replace c15 := (fun hh => mt eb_lc_lt.mpr hh) c15
                        refine eb_lload_n (pc := 6) (n := 0) (i := 0) rfl rfl rfl ?_
                        refine eb_lload (pc := 7) (i := 4) rfl rfl ?_
                        refine eb_lcmp (pc := 9) rfl ?_
                        refine eb_if_gt (pc := 10) (tgt := 17) rfl (by decide) (fun c16 => ?_) (fun c16 => ?_)
                        · replace c16 := eb_lc_gt.mp c16
                          refine eb_iconst (pc := 17) (n := 0) (v := 0) rfl rfl ?_
                          refine eb_ireturn (pc := 18) rfl rfl (by decide) ?_
                          change eb_Sn _ _ _ 8 _ [.int 0] _ _
                          refine eb_ireturn (pc := 8) rfl rfl (by decide) ?_
                          change eb_Sn _ _ _ 105 _ [.int 0] _ _
                          refine eb_if_eq (pc := 105) (tgt := 112) rfl (by decide) (fun c => ?_) (fun c => absurd c (by decide))
                          refine eb_iconst (pc := 112) (n := 1) (v := 1) rfl rfl ?_
                          exact jj17 1 (eb_qt (Or.inr (Or.inr (Or.inr (Or.inr c16))))).symm
                        · replace c16 := (fun hh => mt eb_lc_gt.mpr hh) c16
                          refine eb_iconst (pc := 13) (n := 1) (v := 1) rfl rfl ?_
                          refine eb_goto (pc := 14) (tgt := 18) rfl (by decide) ?_
                          refine eb_ireturn (pc := 18) rfl rfl (by decide) ?_
                          change eb_Sn _ _ _ 8 _ [.int 1] _ _
                          refine eb_ireturn (pc := 8) rfl rfl (by decide) ?_
                          change eb_Sn _ _ _ 105 _ [.int 1] _ _
                          refine eb_if_eq (pc := 105) (tgt := 112) rfl (by decide) (fun c => absurd c (by decide)) (fun c => ?_)
                          refine eb_iconst (pc := 108) (n := 0) (v := 0) rfl rfl ?_
                          refine eb_goto (pc := 109) (tgt := 113) rfl (by decide) ?_
                          exact jj17 0 (eb_qf (fun z => z.elim (fun y => y c12) (fun z => z.elim c13 (fun z => z.elim c14 (fun z => z.elim c15 c16))))).symm
              refine eb_ctS (pc := 75) (As := [.long x1, .long 1000, .long 1999]) (rest := []) rfl (by decide) (by decide) rfl rfl (Nat.le_of_ble_eq_true rfl) ?_
              refine eb_bodyQ (by decide) ok_X11_within (Nat.le_of_ble_eq_true rfl) ?_
              change eb_Sn _ m_X11_within _ 0 [(0, .long x1), (2, .long 1000), (4, .long 1999)] [] _ _
              refine eb_lload_n (pc := 0) (n := 0) (i := 0) rfl rfl rfl ?_
              refine eb_lload_n (pc := 1) (n := 2) (i := 2) rfl rfl rfl ?_
              refine eb_lcmp (pc := 2) rfl ?_
              refine eb_if_lt (pc := 3) (tgt := 17) rfl (by decide) (fun c10 => ?_) (fun c10 => ?_)
              · replace c10 := eb_lc_lt.mp c10
                refine eb_iconst (pc := 17) (n := 0) (v := 0) rfl rfl ?_
                refine eb_ireturn (pc := 18) rfl rfl (by decide) ?_
                change eb_Sn _ _ _ 78 _ _ _ _
                exact jj19 0 (eb_qf (fun z => z.1 c10)).symm
              · replace c10 := (fun hh => mt eb_lc_lt.mpr hh) c10
                refine eb_lload_n (pc := 6) (n := 0) (i := 0) rfl rfl rfl ?_
                refine eb_lload (pc := 7) (i := 4) rfl rfl ?_
                refine eb_lcmp (pc := 9) rfl ?_
                refine eb_if_gt (pc := 10) (tgt := 17) rfl (by decide) (fun c11 => ?_) (fun c11 => ?_)
                · replace c11 := eb_lc_gt.mp c11
                  refine eb_iconst (pc := 17) (n := 0) (v := 0) rfl rfl ?_
                  refine eb_ireturn (pc := 18) rfl rfl (by decide) ?_
                  change eb_Sn _ _ _ 78 _ _ _ _
                  exact jj19 0 (eb_qf (fun z => (fun z => z c11) z.2)).symm
                · replace c11 := (fun hh => mt eb_lc_gt.mpr hh) c11
                  refine eb_iconst (pc := 13) (n := 1) (v := 1) rfl rfl ?_
                  refine eb_goto (pc := 14) (tgt := 18) rfl (by decide) ?_
                  refine eb_ireturn (pc := 18) rfl rfl (by decide) ?_
                  change eb_Sn _ _ _ 78 _ _ _ _
                  exact jj19 1 (eb_qt (⟨c10, c11⟩)).symm
            · replace c9 := eb_q1.mp c9
              replace w := w.2 c9
              refine eb_iconst (pc := 66) (n := 0) (v := 0) rfl rfl ?_
              exact eb_ireturn (pc := 67) rfl rfl rfl w
          refine eb_ctS (pc := 60) (As := [.long x1, .long 300, .long 309]) (rest := []) rfl (by decide) (by decide) rfl rfl (Nat.le_of_ble_eq_true rfl) ?_
          refine eb_bodyQ (by decide) ok_X11_within (Nat.le_of_ble_eq_true rfl) ?_
          change eb_Sn _ m_X11_within _ 0 [(0, .long x1), (2, .long 300), (4, .long 309)] [] _ _
          refine eb_lload_n (pc := 0) (n := 0) (i := 0) rfl rfl rfl ?_
          refine eb_lload_n (pc := 1) (n := 2) (i := 2) rfl rfl rfl ?_
          refine eb_lcmp (pc := 2) rfl ?_
          refine eb_if_lt (pc := 3) (tgt := 17) rfl (by decide) (fun c7 => ?_) (fun c7 => ?_)
          · replace c7 := eb_lc_lt.mp c7
            refine eb_iconst (pc := 17) (n := 0) (v := 0) rfl rfl ?_
            refine eb_ireturn (pc := 18) rfl rfl (by decide) ?_
            change eb_Sn _ _ _ 63 _ _ _ _
            exact jj21 0 (eb_qf (fun z => z.1 c7)).symm
          · replace c7 := (fun hh => mt eb_lc_lt.mpr hh) c7
            refine eb_lload_n (pc := 6) (n := 0) (i := 0) rfl rfl rfl ?_
            refine eb_lload (pc := 7) (i := 4) rfl rfl ?_
            refine eb_lcmp (pc := 9) rfl ?_
            refine eb_if_gt (pc := 10) (tgt := 17) rfl (by decide) (fun c8 => ?_) (fun c8 => ?_)
            · replace c8 := eb_lc_gt.mp c8
              refine eb_iconst (pc := 17) (n := 0) (v := 0) rfl rfl ?_
              refine eb_ireturn (pc := 18) rfl rfl (by decide) ?_
              change eb_Sn _ _ _ 63 _ _ _ _
              exact jj21 0 (eb_qf (fun z => (fun z => z c8) z.2)).symm
            · replace c8 := (fun hh => mt eb_lc_gt.mpr hh) c8
              refine eb_iconst (pc := 13) (n := 1) (v := 1) rfl rfl ?_
              refine eb_goto (pc := 14) (tgt := 18) rfl (by decide) ?_
              refine eb_ireturn (pc := 18) rfl rfl (by decide) ?_
              change eb_Sn _ _ _ 63 _ _ _ _
              exact jj21 1 (eb_qt (⟨c7, c8⟩)).symm
        · replace c6 := eb_q1.mp c6
          replace w := w.2 c6
          refine eb_aload_n (pc := 31) (n := 0) (i := 0) rfl rfl rfl ?_
          refine eb_lload_n (pc := 32) (n := 1) (i := 1) rfl rfl rfl ?_
          refine eb_ldc2 (pc := 33) (a := 100) (v := 100) rfl (by decide) ?_
          refine eb_lsub (pc := 36) rfl ?_
          refine eb_ldc2 (pc := 37) (a := 100) (v := 100) rfl (by decide) ?_
          refine eb_lrem (pc := 40) (by decide) rfl ?_
          refine eb_joinI (pc2 := 44) (ls2 := [(0, .ref s_MO), (1, .long x1)]) (st2 := []) (v := eb_q ((¬ (((x1 - 100) - (x1 - 100) / 100 * 100) < 0)) ∧ (¬ (((((eb_I h s_m_all (1 : Int32).toNatClampNeg) * (eb_I h s_m_all (2 : Int32).toNatClampNeg)) - 1).toInt64) < ((x1 - 100) - (x1 - 100) / 100 * 100))))) ?_ (fun jj28 => ?_)
          · refine eb_joinI (pc2 := 52) (ls2 := [(0, .ref s_MO), (1, .long x1)]) (st2 := []) (v := eb_q (¬ ((¬ (((x1 - 100) - (x1 - 100) / 100 * 100) < 0)) ∧ (¬ (((((eb_I h s_m_all (1 : Int32).toNatClampNeg) * (eb_I h s_m_all (2 : Int32).toNatClampNeg)) - 1).toInt64) < ((x1 - 100) - (x1 - 100) / 100 * 100)))))) ?_ (fun jj26 => ?_)
            · exact eb_ireturn (pc := 52) rfl rfl rfl w
            refine eb_if_eq (pc := 44) (tgt := 51) rfl (by decide) (fun c25 => ?_) (fun c25 => ?_)
            · replace c25 := eb_q0.mp c25
              refine eb_iconst (pc := 51) (n := 1) (v := 1) rfl rfl ?_
              exact jj26 1 (eb_qt c25).symm
            · replace c25 := eb_q1.mp c25
              refine eb_iconst (pc := 47) (n := 0) (v := 0) rfl rfl ?_
              refine eb_goto (pc := 48) (tgt := 52) rfl (by decide) ?_
              exact jj26 0 (eb_qf (fun z => z c25)).symm
          refine eb_ctV (pc := 41) (As := [.long ((x1 - 100) - (x1 - 100) / 100 * 100)]) (rest := []) rfl (by decide) rfl rfl (by decide) rfl (Nat.le_of_ble_eq_true rfl) ?_
          refine eb_bodyQ (by decide) ok_X11_isCell (Nat.le_of_ble_eq_true rfl) ?_
          change eb_Sn _ m_X11_isCell _ 0 [(0, .ref s_MO), (1, .long ((x1 - 100) - (x1 - 100) / 100 * 100))] [] _ _
          refine eb_lload_n (pc := 0) (n := 1) (i := 1) rfl rfl rfl ?_
          refine eb_lconst (pc := 1) (n := 0) (v := 0) rfl rfl ?_
          refine eb_aload_n (pc := 2) (n := 0) (i := 0) rfl rfl rfl ?_
          refine eb_ctV (pc := 3) (As := []) (rest := [.long 0, .long ((x1 - 100) - (x1 - 100) / 100 * 100)]) rfl (by decide) rfl rfl (by decide) rfl (Nat.le_of_ble_eq_true rfl) ?_
          refine eb_bodyQ (by decide) ok_X11_cells (Nat.le_of_ble_eq_true rfl) ?_
          change eb_Sn _ m_X11_cells _ 0 [(0, .ref s_MO)] [] _ _
          refine eb_aload_n (pc := 0) (n := 0) (i := 0) rfl rfl rfl ?_
          refine eb_getR (pc := 1) rfl rfl (by decide) (by decide) rfl (ko_s_MO_1 ko) ?_
          refine eb_iconst (pc := 4) (n := 1) (v := 1) rfl rfl ?_
          refine eb_iaload (pc := 5) rfl rfl (by decide) (by unfold vp_in; decide) ?_
          refine eb_aload_n (pc := 6) (n := 0) (i := 0) rfl rfl rfl ?_
          refine eb_getR (pc := 7) rfl rfl (by decide) (by decide) rfl (ko_s_MO_1 ko) ?_
          refine eb_iconst (pc := 10) (n := 2) (v := 2) rfl rfl ?_
          refine eb_iaload (pc := 11) rfl rfl (by decide) (by unfold vp_in; decide) ?_
          refine eb_imul (pc := 12) rfl ?_
          refine eb_ireturn (pc := 13) rfl rfl rfl ?_
          change eb_Sn _ _ _ 6 _ [.int ((eb_I h s_m_all (1 : Int32).toNatClampNeg) * (eb_I h s_m_all (2 : Int32).toNatClampNeg)), .long 0, .long ((x1 - 100) - (x1 - 100) / 100 * 100)] _ _
          refine eb_iconst (pc := 6) (n := 1) (v := 1) rfl rfl ?_
          refine eb_isub (pc := 7) rfl ?_
          refine eb_i2l (pc := 8) rfl ?_
          refine eb_ctS (pc := 9) (As := [.long ((x1 - 100) - (x1 - 100) / 100 * 100), .long 0, .long ((((eb_I h s_m_all (1 : Int32).toNatClampNeg) * (eb_I h s_m_all (2 : Int32).toNatClampNeg)) - 1).toInt64)]) (rest := []) rfl (by decide) (by decide) rfl rfl (Nat.le_of_ble_eq_true rfl) ?_
          refine eb_bodyQ (by decide) ok_X11_within (Nat.le_of_ble_eq_true rfl) ?_
          change eb_Sn _ m_X11_within _ 0 [(0, .long ((x1 - 100) - (x1 - 100) / 100 * 100)), (2, .long 0), (4, .long ((((eb_I h s_m_all (1 : Int32).toNatClampNeg) * (eb_I h s_m_all (2 : Int32).toNatClampNeg)) - 1).toInt64))] [] _ _
          refine eb_lload_n (pc := 0) (n := 0) (i := 0) rfl rfl rfl ?_
          refine eb_lload_n (pc := 1) (n := 2) (i := 2) rfl rfl rfl ?_
          refine eb_lcmp (pc := 2) rfl ?_
          refine eb_if_lt (pc := 3) (tgt := 17) rfl (by decide) (fun c23 => ?_) (fun c23 => ?_)
          · replace c23 := eb_lc_lt.mp c23
            refine eb_iconst (pc := 17) (n := 0) (v := 0) rfl rfl ?_
            refine eb_ireturn (pc := 18) rfl rfl (by decide) ?_
            change eb_Sn _ _ _ 12 _ [.int 0] _ _
            refine eb_ireturn (pc := 12) rfl rfl (by decide) ?_
            change eb_Sn _ _ _ 44 _ _ _ _
            exact jj28 0 (eb_qf (fun z => z.1 c23)).symm
          · replace c23 := (fun hh => mt eb_lc_lt.mpr hh) c23
            refine eb_lload_n (pc := 6) (n := 0) (i := 0) rfl rfl rfl ?_
            refine eb_lload (pc := 7) (i := 4) rfl rfl ?_
            refine eb_lcmp (pc := 9) rfl ?_
            refine eb_if_gt (pc := 10) (tgt := 17) rfl (by decide) (fun c24 => ?_) (fun c24 => ?_)
            · replace c24 := eb_lc_gt.mp c24
              refine eb_iconst (pc := 17) (n := 0) (v := 0) rfl rfl ?_
              refine eb_ireturn (pc := 18) rfl rfl (by decide) ?_
              change eb_Sn _ _ _ 12 _ [.int 0] _ _
              refine eb_ireturn (pc := 12) rfl rfl (by decide) ?_
              change eb_Sn _ _ _ 44 _ _ _ _
              exact jj28 0 (eb_qf (fun z => (fun z => z c24) z.2)).symm
            · replace c24 := (fun hh => mt eb_lc_gt.mpr hh) c24
              refine eb_iconst (pc := 13) (n := 1) (v := 1) rfl rfl ?_
              refine eb_goto (pc := 14) (tgt := 18) rfl (by decide) ?_
              refine eb_ireturn (pc := 18) rfl rfl (by decide) ?_
              change eb_Sn _ _ _ 12 _ [.int 1] _ _
              refine eb_ireturn (pc := 12) rfl rfl (by decide) ?_
              change eb_Sn _ _ _ 44 _ _ _ _
              exact jj28 1 (eb_qt (⟨c23, c24⟩)).symm
      refine eb_ctS (pc := 25) (As := [.long x1, .long 100, .long 299]) (rest := []) rfl (by decide) (by decide) rfl rfl (Nat.le_of_ble_eq_true rfl) ?_
      refine eb_bodyQ (by decide) ok_X11_within (Nat.le_of_ble_eq_true rfl) ?_
      change eb_Sn _ m_X11_within _ 0 [(0, .long x1), (2, .long 100), (4, .long 299)] [] _ _
      refine eb_lload_n (pc := 0) (n := 0) (i := 0) rfl rfl rfl ?_
      refine eb_lload_n (pc := 1) (n := 2) (i := 2) rfl rfl rfl ?_
      refine eb_lcmp (pc := 2) rfl ?_
      refine eb_if_lt (pc := 3) (tgt := 17) rfl (by decide) (fun c4 => ?_) (fun c4 => ?_)
      · replace c4 := eb_lc_lt.mp c4
        refine eb_iconst (pc := 17) (n := 0) (v := 0) rfl rfl ?_
        refine eb_ireturn (pc := 18) rfl rfl (by decide) ?_
        change eb_Sn _ _ _ 28 _ _ _ _
        exact jj30 0 (eb_qf (fun z => z.1 c4)).symm
      · replace c4 := (fun hh => mt eb_lc_lt.mpr hh) c4
        refine eb_lload_n (pc := 6) (n := 0) (i := 0) rfl rfl rfl ?_
        refine eb_lload (pc := 7) (i := 4) rfl rfl ?_
        refine eb_lcmp (pc := 9) rfl ?_
        refine eb_if_gt (pc := 10) (tgt := 17) rfl (by decide) (fun c5 => ?_) (fun c5 => ?_)
        · replace c5 := eb_lc_gt.mp c5
          refine eb_iconst (pc := 17) (n := 0) (v := 0) rfl rfl ?_
          refine eb_ireturn (pc := 18) rfl rfl (by decide) ?_
          change eb_Sn _ _ _ 28 _ _ _ _
          exact jj30 0 (eb_qf (fun z => (fun z => z c5) z.2)).symm
        · replace c5 := (fun hh => mt eb_lc_gt.mpr hh) c5
          refine eb_iconst (pc := 13) (n := 1) (v := 1) rfl rfl ?_
          refine eb_goto (pc := 14) (tgt := 18) rfl (by decide) ?_
          refine eb_ireturn (pc := 18) rfl rfl (by decide) ?_
          change eb_Sn _ _ _ 28 _ _ _ _
          exact jj30 1 (eb_qt (⟨c4, c5⟩)).symm
    · replace c3 := eb_q1.mp c3
      replace w := w.2 c3
      refine eb_aload_n (pc := 11) (n := 0) (i := 0) rfl rfl rfl ?_
      refine eb_lload_n (pc := 12) (n := 1) (i := 1) rfl rfl rfl ?_
      refine eb_l2i (pc := 13) rfl ?_
      refine eb_ctV (pc := 14) (As := [.int x1.toInt32]) (rest := []) rfl (by decide) rfl rfl (by decide) rfl (Nat.le_of_ble_eq_true rfl) ?_
      refine eb_Ct.mono w ?_
      rintro r h32 ⟨y33, rfl, ko34, w⟩
      change eb_Sn _ _ _ 17 _ [.int y33] _ _
      exact eb_ireturn (pc := 17) rfl rfl rfl w
  refine eb_ctS (pc := 5) (As := [.long x1, .long 0, .long 3]) (rest := []) rfl (by decide) (by decide) rfl rfl (Nat.le_of_ble_eq_true rfl) ?_
  refine eb_bodyQ (by decide) ok_X11_within (Nat.le_of_ble_eq_true rfl) ?_
  change eb_Sn _ m_X11_within _ 0 [(0, .long x1), (2, .long 0), (4, .long 3)] [] _ _
  refine eb_lload_n (pc := 0) (n := 0) (i := 0) rfl rfl rfl ?_
  refine eb_lload_n (pc := 1) (n := 2) (i := 2) rfl rfl rfl ?_
  refine eb_lcmp (pc := 2) rfl ?_
  refine eb_if_lt (pc := 3) (tgt := 17) rfl (by decide) (fun c1 => ?_) (fun c1 => ?_)
  · replace c1 := eb_lc_lt.mp c1
    refine eb_iconst (pc := 17) (n := 0) (v := 0) rfl rfl ?_
    refine eb_ireturn (pc := 18) rfl rfl (by decide) ?_
    change eb_Sn _ _ _ 8 _ _ _ _
    exact jj35 0 (eb_qf (fun z => z.1 c1)).symm
  · replace c1 := (fun hh => mt eb_lc_lt.mpr hh) c1
    refine eb_lload_n (pc := 6) (n := 0) (i := 0) rfl rfl rfl ?_
    refine eb_lload (pc := 7) (i := 4) rfl rfl ?_
    refine eb_lcmp (pc := 9) rfl ?_
    refine eb_if_gt (pc := 10) (tgt := 17) rfl (by decide) (fun c2 => ?_) (fun c2 => ?_)
    · replace c2 := eb_lc_gt.mp c2
      refine eb_iconst (pc := 17) (n := 0) (v := 0) rfl rfl ?_
      refine eb_ireturn (pc := 18) rfl rfl (by decide) ?_
      change eb_Sn _ _ _ 8 _ _ _ _
      exact jj35 0 (eb_qf (fun z => (fun z => z c2) z.2)).symm
    · replace c2 := (fun hh => mt eb_lc_gt.mpr hh) c2
      refine eb_iconst (pc := 13) (n := 1) (v := 1) rfl rfl ?_
      refine eb_goto (pc := 14) (tgt := 18) rfl (by decide) ?_
      refine eb_ireturn (pc := 18) rfl rfl (by decide) ?_
      change eb_Sn _ _ _ 8 _ _ _ _
      exact jj35 1 (eb_qt (⟨c1, c2⟩)).symm
theorem T_X11_whyNot {d : Nat} {h : eb_H} {Q : Option Value → eb_H → Prop} (x1 : Int64)  (ko : eb_KO h) (w : ((¬ ((¬ (x1 < 0)) ∧ (¬ (3 < x1))) → ((¬ ((¬ (x1 < 100)) ∧ (¬ (299 < x1))) → ((¬ ((¬ (x1 < 300)) ∧ (¬ (309 < x1))) → Q (some (.int (eb_q ((¬ ((¬ (x1 < 1000)) ∧ (¬ (1999 < x1)))) ∨ ((((x1 - 1000) / 10) < 0) ∨ ((((((eb_I h s_m_all (1 : Int32).toNatClampNeg) * (eb_I h s_m_all (2 : Int32).toNatClampNeg)) - 1).toInt64) < ((x1 - 1000) / 10)) ∨ (((x1 - x1 / 10 * 10) < 0) ∨ (6 < (x1 - x1 / 10 * 10))))))))) h) ∧ ((¬ (x1 < 300)) ∧ (¬ (309 < x1)) → Q (some (.int 0)) h))) ∧ ((¬ (x1 < 100)) ∧ (¬ (299 < x1)) → Q (some (.int (eb_q (¬ ((¬ (((x1 - 100) - (x1 - 100) / 100 * 100) < 0)) ∧ (¬ (((((eb_I h s_m_all (1 : Int32).toNatClampNeg) * (eb_I h s_m_all (2 : Int32).toNatClampNeg)) - 1).toInt64) < ((x1 - 100) - (x1 - 100) / 100 * 100)))))))) h))) ∧ ((¬ (x1 < 0)) ∧ (¬ (3 < x1)) → eb_Ct (d + 1) 203 [.ref s_MO, .int x1.toInt32] h (fun r h32 => ∃ y33, r = some (.int y33) ∧ eb_KO h32 ∧ Q (some (.int y33)) h32)))) : eb_Ct (d + 2) 218 [.ref s_MO, .long x1] h Q :=
  eb_bodyQ (by decide) ok_X11_whyNot (Nat.le_of_ble_eq_true rfl) (b_X11_whyNot_0 (h0 := h) x1  ko w)
theorem b_X11_does_0 {d : Nat} {h0 h : eb_H} {Q : Option Value → eb_H → Prop} (x1 : Int32)  (ko : eb_KO h) (w : (((4 : Int32) ≤ x1 → (((200 : Int32) ≤ x1 → (((300 : Int32) ≤ x1 → (((310 : Int32) ≤ x1 → (vp_in ((34 : Int32) + ((x1 - 1000) / 10)) 3492) ∧ Q none (eb_sI h s_m_all ((34 : Int32) + ((x1 - 1000) / 10)).toNatClampNeg (x1 - x1 / 10 * 10))) ∧ (¬ ((310 : Int32) ≤ x1) → Q none (eb_sI h s_m_all (51 : Int32).toNatClampNeg (x1 - 300))))) ∧ (¬ ((300 : Int32) ≤ x1) → Q none (eb_sI h s_m_all (50 : Int32).toNatClampNeg ((eb_I h s_m_all (50 : Int32).toNatClampNeg) ^^^ ((1 : Int32) <<< ((x1 - 200) &&& 31))))))) ∧ (¬ ((200 : Int32) ≤ x1) → Q none (eb_sI (eb_sI h s_m_all (31 : Int32).toNatClampNeg (x1 - 100)) s_m_all (32 : Int32).toNatClampNeg 0)))) ∧ (¬ ((4 : Int32) ≤ x1) → eb_Ct d 209 [.ref s_MO, .int x1] h (fun r h6 => r = none ∧ eb_KO h6 ∧ Q none h6)))) : eb_Sn (d + 1) m_X11_does h0 0 [(0, .ref s_MO), (1, .int x1)] [] h Q := by
  refine eb_iload_n (pc := 0) (n := 1) (i := 1) rfl rfl rfl ?_
  refine eb_iconst (pc := 1) (n := 4) (v := 4) rfl rfl ?_
  refine eb_icmp_ge (pc := 2) (tgt := 13) rfl (by decide) (fun c1 => ?_) (fun c1 => ?_)
  · replace w := w.1 c1
    refine eb_iload_n (pc := 13) (n := 1) (i := 1) rfl rfl rfl ?_
    refine eb_sipush (pc := 14) (n := 200) (v := 200) rfl rfl ?_
    refine eb_icmp_ge (pc := 17) (tgt := 31) rfl (by decide) (fun c2 => ?_) (fun c2 => ?_)
    · replace w := w.1 c2
      refine eb_iload_n (pc := 31) (n := 1) (i := 1) rfl rfl rfl ?_
      refine eb_sipush (pc := 32) (n := 300) (v := 300) rfl rfl ?_
      refine eb_icmp_ge (pc := 35) (tgt := 58) rfl (by decide) (fun c3 => ?_) (fun c3 => ?_)
      · replace w := w.1 c3
        refine eb_iload_n (pc := 58) (n := 1) (i := 1) rfl rfl rfl ?_
        refine eb_sipush (pc := 59) (n := 310) (v := 310) rfl rfl ?_
        refine eb_icmp_ge (pc := 62) (tgt := 80) rfl (by decide) (fun c4 => ?_) (fun c4 => ?_)
        · replace w := w.1 c4
          refine eb_aload_n (pc := 80) (n := 0) (i := 0) rfl rfl rfl ?_
          refine eb_getR (pc := 81) rfl rfl (by decide) (by decide) rfl (ko_s_MO_1 ko) ?_
          refine eb_bipush (pc := 84) (n := 34) (v := 34) rfl rfl ?_
          refine eb_iload_n (pc := 86) (n := 1) (i := 1) rfl rfl rfl ?_
          refine eb_sipush (pc := 87) (n := 1000) (v := 1000) rfl rfl ?_
          refine eb_isub (pc := 90) rfl ?_
          refine eb_bipush (pc := 91) (n := 10) (v := 10) rfl rfl ?_
          refine eb_idiv (pc := 93) (by decide) rfl ?_
          refine eb_iadd (pc := 94) rfl ?_
          refine eb_iload_n (pc := 95) (n := 1) (i := 1) rfl rfl rfl ?_
          refine eb_bipush (pc := 96) (n := 10) (v := 10) rfl rfl ?_
          refine eb_irem (pc := 98) (by decide) rfl ?_
          obtain ⟨c5, w⟩ := w
          refine eb_iastore (pc := 99) rfl rfl (by decide) c5 ?_
          exact eb_return (pc := 100) rfl rfl w
        · replace w := w.2 c4
          refine eb_aload_n (pc := 65) (n := 0) (i := 0) rfl rfl rfl ?_
          refine eb_getR (pc := 66) rfl rfl (by decide) (by decide) rfl (ko_s_MO_1 ko) ?_
          refine eb_bipush (pc := 69) (n := 51) (v := 51) rfl rfl ?_
          refine eb_iload_n (pc := 71) (n := 1) (i := 1) rfl rfl rfl ?_
          refine eb_sipush (pc := 72) (n := 300) (v := 300) rfl rfl ?_
          refine eb_isub (pc := 75) rfl ?_
          refine eb_iastore (pc := 76) rfl rfl (by decide) (by unfold vp_in; decide) ?_
          refine eb_goto (pc := 77) (tgt := 100) rfl (by decide) ?_
          exact eb_return (pc := 100) rfl rfl w
      · replace w := w.2 c3
        refine eb_aload_n (pc := 38) (n := 0) (i := 0) rfl rfl rfl ?_
        refine eb_getR (pc := 39) rfl rfl (by decide) (by decide) rfl (ko_s_MO_1 ko) ?_
        refine eb_bipush (pc := 42) (n := 50) (v := 50) rfl rfl ?_
        refine eb_dup2 (pc := 44) rfl ?_
        refine eb_iaload (pc := 45) rfl rfl (by decide) (by unfold vp_in; decide) ?_
        refine eb_iconst (pc := 46) (n := 1) (v := 1) rfl rfl ?_
        refine eb_iload_n (pc := 47) (n := 1) (i := 1) rfl rfl rfl ?_
        refine eb_sipush (pc := 48) (n := 200) (v := 200) rfl rfl ?_
        refine eb_isub (pc := 51) rfl ?_
        refine eb_ishl (pc := 52) rfl ?_
        refine eb_ixor (pc := 53) rfl ?_
        refine eb_iastore (pc := 54) rfl rfl (by decide) (by unfold vp_in; decide) ?_
        refine eb_goto (pc := 55) (tgt := 100) rfl (by decide) ?_
        exact eb_return (pc := 100) rfl rfl w
    · replace w := w.2 c2
      refine eb_aload_n (pc := 20) (n := 0) (i := 0) rfl rfl rfl ?_
      refine eb_iload_n (pc := 21) (n := 1) (i := 1) rfl rfl rfl ?_
      refine eb_bipush (pc := 22) (n := 100) (v := 100) rfl rfl ?_
      refine eb_isub (pc := 24) rfl ?_
      refine eb_ctV (pc := 25) (As := [.int (x1 - 100)]) (rest := []) rfl (by decide) rfl rfl (by decide) rfl (Nat.le_of_ble_eq_true rfl) ?_
      refine eb_bodyQ (by decide) ok_X11_letsGo (Nat.le_of_ble_eq_true rfl) ?_
      change eb_Sn _ m_X11_letsGo _ 0 [(0, .ref s_MO), (1, .int (x1 - 100))] [] _ _
      refine eb_aload_n (pc := 0) (n := 0) (i := 0) rfl rfl rfl ?_
      refine eb_getR (pc := 1) rfl rfl (by decide) (by decide) rfl (ko_s_MO_1 ko) ?_
      refine eb_bipush (pc := 4) (n := 31) (v := 31) rfl rfl ?_
      refine eb_iload_n (pc := 6) (n := 1) (i := 1) rfl rfl rfl ?_
      refine eb_iastore (pc := 7) rfl rfl (by decide) (by unfold vp_in; decide) ?_
      refine eb_aload_n (pc := 8) (n := 0) (i := 0) rfl rfl rfl ?_
      refine eb_getR (pc := 9) rfl rfl (by decide) (by decide) rfl (ko_s_MO_1 ko) ?_
      refine eb_bipush (pc := 12) (n := 32) (v := 32) rfl rfl ?_
      refine eb_iconst (pc := 14) (n := 0) (v := 0) rfl rfl ?_
      refine eb_iastore (pc := 15) rfl rfl (by decide) (by unfold vp_in; decide) ?_
      refine eb_return (pc := 16) rfl rfl ?_
      change eb_Sn _ _ _ 28 _ [] _ _
      refine eb_goto (pc := 28) (tgt := 100) rfl (by decide) ?_
      exact eb_return (pc := 100) rfl rfl w
  · replace w := w.2 c1
    refine eb_aload_n (pc := 5) (n := 0) (i := 0) rfl rfl rfl ?_
    refine eb_iload_n (pc := 6) (n := 1) (i := 1) rfl rfl rfl ?_
    refine eb_ctV (pc := 7) (As := [.int x1]) (rest := []) rfl (by decide) rfl rfl (by decide) rfl (Nat.le_of_ble_eq_true rfl) ?_
    refine eb_Ct.mono w ?_
    rintro r h6 ⟨rfl, ko8, w⟩
    change eb_Sn _ _ _ 10 _ [] _ _
    refine eb_goto (pc := 10) (tgt := 100) rfl (by decide) ?_
    exact eb_return (pc := 100) rfl rfl w
theorem T_X11_does {d : Nat} {h : eb_H} {Q : Option Value → eb_H → Prop} (x1 : Int32)  (ko : eb_KO h) (w : (((4 : Int32) ≤ x1 → (((200 : Int32) ≤ x1 → (((300 : Int32) ≤ x1 → (((310 : Int32) ≤ x1 → (vp_in ((34 : Int32) + ((x1 - 1000) / 10)) 3492) ∧ Q none (eb_sI h s_m_all ((34 : Int32) + ((x1 - 1000) / 10)).toNatClampNeg (x1 - x1 / 10 * 10))) ∧ (¬ ((310 : Int32) ≤ x1) → Q none (eb_sI h s_m_all (51 : Int32).toNatClampNeg (x1 - 300))))) ∧ (¬ ((300 : Int32) ≤ x1) → Q none (eb_sI h s_m_all (50 : Int32).toNatClampNeg ((eb_I h s_m_all (50 : Int32).toNatClampNeg) ^^^ ((1 : Int32) <<< ((x1 - 200) &&& 31))))))) ∧ (¬ ((200 : Int32) ≤ x1) → Q none (eb_sI (eb_sI h s_m_all (31 : Int32).toNatClampNeg (x1 - 100)) s_m_all (32 : Int32).toNatClampNeg 0)))) ∧ (¬ ((4 : Int32) ≤ x1) → eb_Ct d 209 [.ref s_MO, .int x1] h (fun r h6 => r = none ∧ eb_KO h6 ∧ Q none h6)))) : eb_Ct (d + 1) 219 [.ref s_MO, .int x1] h Q :=
  eb_bodyQ (by decide) ok_X11_does (Nat.le_of_ble_eq_true rfl) (b_X11_does_0 (h0 := h) x1  ko w)
theorem b_X11_tells_0 {d : Nat} {h0 h : eb_H} {Q : Option Value → eb_H → Prop} (x1 : Int32)  (ko : eb_KO h) (w : eb_Sn (d + 1) m_X11_tells h0 7 [(0, .ref s_MO), (1, .int x1), (2, .int 0)] [] (eb_sI h s_MO 19 0) Q) : eb_Sn (d + 1) m_X11_tells h0 0 [(0, .ref s_MO), (1, .int x1)] [] h Q := by
  refine eb_aload_n (pc := 0) (n := 0) (i := 0) rfl rfl rfl ?_
  refine eb_iconst (pc := 1) (n := 0) (v := 0) rfl rfl ?_
  refine eb_putI (pc := 2) rfl rfl (by decide) (by decide) rfl rfl ⟨rfl, rfl⟩ ?_
  refine eb_iconst (pc := 5) (n := 0) (v := 0) rfl rfl ?_
  refine eb_istore_n (pc := 6) (n := 2) (i := 2) (ls2 := [(2, .int 0), (0, .ref s_MO), (1, .int x1)]) rfl (Nat.le_of_ble_eq_true rfl) rfl rfl ?_
  exact eb_pick [1, 2, 0] rfl w
theorem b_X11_tells_7 {d : Nat} {h0 h : eb_H} {Q : Option Value → eb_H → Prop} (x1 : Int32) (x2 : Int32)  (ko : eb_KO h) (w : (vp_in x1 4) ∧ (((eb_I h s_m_rowMany x1.toNatClampNeg) ≤ x2 → (vp_in x1 4) ∧ Q (some (.int (eb_I h s_m_rowMany x1.toNatClampNeg))) h) ∧ (¬ ((eb_I h s_m_rowMany x1.toNatClampNeg) ≤ x2) → (vp_in (((40 : Int32) * x1) + x2) 160) ∧ eb_Ct d 218 [.ref s_MO, .long (eb_J h s_m_numbers (((40 : Int32) * x1) + x2).toNatClampNeg)] h (fun r h5 => ∃ y6, r = some (.int y6) ∧ eb_KO h5 ∧ (((eb_I (eb_sI h5 s_MO 19 y6) s_MO 19) = 0 → (vp_in (((40 : Int32) * x1) + x2) 160) ∧ eb_Ct d 219 [.ref s_MO, .int ((eb_J (eb_sI h5 s_MO 19 y6) s_m_numbers (((40 : Int32) * x1) + x2).toNatClampNeg).toInt32)] (eb_sI h5 s_MO 19 y6) (fun r h10 => r = none ∧ eb_KO h10 ∧ eb_Sn (d + 1) m_X11_tells h0 7 [(0, .ref s_MO), (1, .int x1), (2, .int (x2 + 1))] [] h10 Q)) ∧ (¬ ((eb_I (eb_sI h5 s_MO 19 y6) s_MO 19) = 0) → Q (some (.int x2)) (eb_sI h5 s_MO 19 y6))))))) : eb_Sn (d + 1) m_X11_tells h0 7 [(0, .ref s_MO), (1, .int x1), (2, .int x2)] [] h Q := by
  refine eb_iload_n (pc := 7) (n := 2) (i := 2) rfl rfl rfl ?_
  refine eb_aload_n (pc := 8) (n := 0) (i := 0) rfl rfl rfl ?_
  refine eb_getR (pc := 9) rfl rfl (by decide) (by decide) rfl (ko_s_MO_29 ko) ?_
  refine eb_iload_n (pc := 12) (n := 1) (i := 1) rfl rfl rfl ?_
  obtain ⟨c1, w⟩ := w
  refine eb_iaload (pc := 13) rfl rfl (by decide) c1 ?_
  refine eb_icmp_ge (pc := 14) (tgt := 67) rfl (by decide) (fun c2 => ?_) (fun c2 => ?_)
  · replace w := w.1 c2
    refine eb_aload_n (pc := 67) (n := 0) (i := 0) rfl rfl rfl ?_
    refine eb_getR (pc := 68) rfl rfl (by decide) (by decide) rfl (ko_s_MO_29 ko) ?_
    refine eb_iload_n (pc := 71) (n := 1) (i := 1) rfl rfl rfl ?_
    obtain ⟨c3, w⟩ := w
    refine eb_iaload (pc := 72) rfl rfl (by decide) c3 ?_
    exact eb_ireturn (pc := 73) rfl rfl rfl w
  · replace w := w.2 c2
    refine eb_aload_n (pc := 17) (n := 0) (i := 0) rfl rfl rfl ?_
    refine eb_aload_n (pc := 18) (n := 0) (i := 0) rfl rfl rfl ?_
    refine eb_aload_n (pc := 19) (n := 0) (i := 0) rfl rfl rfl ?_
    refine eb_getR (pc := 20) rfl rfl (by decide) (by decide) rfl (ko_s_MO_30 ko) ?_
    refine eb_bipush (pc := 23) (n := 40) (v := 40) rfl rfl ?_
    refine eb_iload_n (pc := 25) (n := 1) (i := 1) rfl rfl rfl ?_
    refine eb_imul (pc := 26) rfl ?_
    refine eb_iload_n (pc := 27) (n := 2) (i := 2) rfl rfl rfl ?_
    refine eb_iadd (pc := 28) rfl ?_
    obtain ⟨c4, w⟩ := w
    refine eb_laload (pc := 29) rfl rfl c4 ?_
    refine eb_ctV (pc := 30) (As := [.long (eb_J h s_m_numbers (((40 : Int32) * x1) + x2).toNatClampNeg)]) (rest := [.ref s_MO]) rfl (by decide) rfl rfl (by decide) rfl (Nat.le_of_ble_eq_true rfl) ?_
    refine eb_Ct.mono w ?_
    rintro r h5 ⟨y6, rfl, ko7, w⟩
    change eb_Sn _ _ _ 33 _ [.int y6, .ref s_MO] _ _
    refine eb_putI (pc := 33) rfl rfl (by decide) (by decide) rfl rfl ⟨rfl, rfl⟩ ?_
    refine eb_aload_n (pc := 36) (n := 0) (i := 0) rfl rfl rfl ?_
    refine eb_getI (pc := 37) rfl rfl (by decide) (by decide) rfl ?_
    refine eb_if_eq (pc := 40) (tgt := 45) rfl (by decide) (fun c8 => ?_) (fun c8 => ?_)
    · replace w := w.1 c8
      refine eb_aload_n (pc := 45) (n := 0) (i := 0) rfl rfl rfl ?_
      refine eb_aload_n (pc := 46) (n := 0) (i := 0) rfl rfl rfl ?_
      refine eb_getR (pc := 47) rfl rfl (by decide) (by decide) rfl (ko_s_MO_30 ko7) ?_
      refine eb_bipush (pc := 50) (n := 40) (v := 40) rfl rfl ?_
      refine eb_iload_n (pc := 52) (n := 1) (i := 1) rfl rfl rfl ?_
      refine eb_imul (pc := 53) rfl ?_
      refine eb_iload_n (pc := 54) (n := 2) (i := 2) rfl rfl rfl ?_
      refine eb_iadd (pc := 55) rfl ?_
      obtain ⟨c9, w⟩ := w
      refine eb_laload (pc := 56) rfl rfl c9 ?_
      refine eb_l2i (pc := 57) rfl ?_
      refine eb_ctV (pc := 58) (As := [.int ((eb_J (eb_sI h5 s_MO 19 y6) s_m_numbers (((40 : Int32) * x1) + x2).toNatClampNeg).toInt32)]) (rest := []) rfl (by decide) rfl rfl (by decide) rfl (Nat.le_of_ble_eq_true rfl) ?_
      refine eb_Ct.mono w ?_
      rintro r h10 ⟨rfl, ko12, w⟩
      change eb_Sn _ _ _ 61 _ [] _ _
      refine eb_iinc (pc := 61) (i := 2) (n := 1) (v := x2 + 1) (ls2 := [(2, .int (x2 + 1)), (0, .ref s_MO), (1, .int x1)]) (Nat.le_of_ble_eq_true rfl) rfl rfl rfl rfl ?_
      refine eb_goto (pc := 64) (tgt := 7) rfl (by decide) ?_
      exact eb_pick [1, 2, 0] rfl w
    · replace w := w.2 c8
      refine eb_iload_n (pc := 43) (n := 2) (i := 2) rfl rfl rfl ?_
      exact eb_ireturn (pc := 44) rfl rfl rfl w
theorem T_X11_tells {d : Nat} {h : eb_H} {Q : Option Value → eb_H → Prop} (x1 : Int32)  (ko : eb_KO h) (w : eb_Sn (d + 1) m_X11_tells h 7 [(0, .ref s_MO), (1, .int x1), (2, .int 0)] [] (eb_sI h s_MO 19 0) Q) : eb_Ct (d + 1) 220 [.ref s_MO, .int x1] h Q :=
  eb_bodyQ (by decide) ok_X11_tells (Nat.le_of_ble_eq_true rfl) (b_X11_tells_0 (h0 := h) x1  ko w)
theorem b_X11_noTray_0 {d : Nat} {h0 h : eb_H} {Q : Option Value → eb_H → Prop} (x1 : Int32)  (ko : eb_KO h) (w : (((¬ (x1.toInt64 < 0)) ∧ (¬ (3 < x1.toInt64)) → (vp_in x1 4) ∧ Q (some (.int (if (eb_I h s_m_rowSort x1.toNatClampNeg) = ((-1) : Int32) then (-6) else 0 : Int32))) h) ∧ (¬ ((¬ (x1.toInt64 < 0)) ∧ (¬ (3 < x1.toInt64))) → Q (some (.int (-2))) h))) : eb_Sn (d + 1) m_X11_noTray h0 0 [(0, .ref s_MO), (1, .int x1)] [] h Q := by
  refine eb_iload_n (pc := 0) (n := 1) (i := 1) rfl rfl rfl ?_
  refine eb_i2l (pc := 1) rfl ?_
  refine eb_lconst (pc := 2) (n := 0) (v := 0) rfl rfl ?_
  refine eb_ldc2 (pc := 3) (a := 3) (v := 3) rfl (by decide) ?_
  refine eb_joinI (pc2 := 9) (ls2 := [(0, .ref s_MO), (1, .int x1)]) (st2 := []) (v := eb_q ((¬ (x1.toInt64 < 0)) ∧ (¬ (3 < x1.toInt64)))) ?_ (fun jj8 => ?_)
  · refine eb_if_ne (pc := 9) (tgt := 17) rfl (by decide) (fun c3 => ?_) (fun c3 => ?_)
    · replace c3 := eb_q1.mp c3
      replace w := w.1 c3
      refine eb_aload_n (pc := 17) (n := 0) (i := 0) rfl rfl rfl ?_
      refine eb_getR (pc := 18) rfl rfl (by decide) (by decide) rfl (ko_s_MO_28 ko) ?_
      refine eb_iload_n (pc := 21) (n := 1) (i := 1) rfl rfl rfl ?_
      obtain ⟨c4, w⟩ := w
      refine eb_iaload (pc := 22) rfl rfl (by decide) c4 ?_
      refine eb_iconst (pc := 23) (n := -1) (v := (-1)) rfl rfl ?_
      refine eb_joinI (pc2 := 33) (ls2 := [(0, .ref s_MO), (1, .int x1)]) (st2 := []) (v := (if (eb_I h s_m_rowSort x1.toNatClampNeg) = ((-1) : Int32) then (-6) else 0 : Int32)) ?_ (fun jj6 => ?_)
      · exact eb_ireturn (pc := 33) rfl rfl rfl w
      refine eb_icmp_ne (pc := 24) (tgt := 32) rfl (by decide) (fun c5 => ?_) (fun c5 => ?_)
      · refine eb_iconst (pc := 32) (n := 0) (v := 0) rfl rfl ?_
        exact jj6 _ (by simp only [if_neg c5])
      · refine eb_bipush (pc := 27) (n := -6) (v := (-6)) rfl rfl ?_
        refine eb_goto (pc := 29) (tgt := 33) rfl (by decide) ?_
        exact jj6 _ (by simp only [if_pos c5])
    · replace c3 := eb_q0.mp c3
      replace w := w.2 c3
      refine eb_bipush (pc := 12) (n := -2) (v := (-2)) rfl rfl ?_
      refine eb_goto (pc := 14) (tgt := 33) rfl (by decide) ?_
      exact eb_ireturn (pc := 33) rfl rfl rfl w
  refine eb_ctS (pc := 6) (As := [.long x1.toInt64, .long 0, .long 3]) (rest := []) rfl (by decide) (by decide) rfl rfl (Nat.le_of_ble_eq_true rfl) ?_
  refine eb_bodyQ (by decide) ok_X11_within (Nat.le_of_ble_eq_true rfl) ?_
  change eb_Sn _ m_X11_within _ 0 [(0, .long x1.toInt64), (2, .long 0), (4, .long 3)] [] _ _
  refine eb_lload_n (pc := 0) (n := 0) (i := 0) rfl rfl rfl ?_
  refine eb_lload_n (pc := 1) (n := 2) (i := 2) rfl rfl rfl ?_
  refine eb_lcmp (pc := 2) rfl ?_
  refine eb_if_lt (pc := 3) (tgt := 17) rfl (by decide) (fun c1 => ?_) (fun c1 => ?_)
  · replace c1 := eb_lc_lt.mp c1
    refine eb_iconst (pc := 17) (n := 0) (v := 0) rfl rfl ?_
    refine eb_ireturn (pc := 18) rfl rfl (by decide) ?_
    change eb_Sn _ _ _ 9 _ _ _ _
    exact jj8 0 (eb_qf (fun z => z.1 c1)).symm
  · replace c1 := (fun hh => mt eb_lc_lt.mpr hh) c1
    refine eb_lload_n (pc := 6) (n := 0) (i := 0) rfl rfl rfl ?_
    refine eb_lload (pc := 7) (i := 4) rfl rfl ?_
    refine eb_lcmp (pc := 9) rfl ?_
    refine eb_if_gt (pc := 10) (tgt := 17) rfl (by decide) (fun c2 => ?_) (fun c2 => ?_)
    · replace c2 := eb_lc_gt.mp c2
      refine eb_iconst (pc := 17) (n := 0) (v := 0) rfl rfl ?_
      refine eb_ireturn (pc := 18) rfl rfl (by decide) ?_
      change eb_Sn _ _ _ 9 _ _ _ _
      exact jj8 0 (eb_qf (fun z => (fun z => z c2) z.2)).symm
    · replace c2 := (fun hh => mt eb_lc_gt.mpr hh) c2
      refine eb_iconst (pc := 13) (n := 1) (v := 1) rfl rfl ?_
      refine eb_goto (pc := 14) (tgt := 18) rfl (by decide) ?_
      refine eb_ireturn (pc := 18) rfl rfl (by decide) ?_
      change eb_Sn _ _ _ 9 _ _ _ _
      exact jj8 1 (eb_qt (⟨c1, c2⟩)).symm
theorem T_X11_noTray {d : Nat} {h : eb_H} {Q : Option Value → eb_H → Prop} (x1 : Int32)  (ko : eb_KO h) (w : (((¬ (x1.toInt64 < 0)) ∧ (¬ (3 < x1.toInt64)) → (vp_in x1 4) ∧ Q (some (.int (if (eb_I h s_m_rowSort x1.toNatClampNeg) = ((-1) : Int32) then (-6) else 0 : Int32))) h) ∧ (¬ ((¬ (x1.toInt64 < 0)) ∧ (¬ (3 < x1.toInt64))) → Q (some (.int (-2))) h))) : eb_Ct (d + 1) 221 [.ref s_MO, .int x1] h Q :=
  eb_bodyQ (by decide) ok_X11_noTray (Nat.le_of_ble_eq_true rfl) (b_X11_noTray_0 (h0 := h) x1  ko w)
theorem b_X11_judge_0 {d : Nat} {h0 h : eb_H} {Q : Option Value → eb_H → Prop} (x1 : Int32) (x2 : Int32)  (ko : eb_KO h) (w : (((¬ (x2.toInt64 < 0)) ∧ (¬ (3 < x2.toInt64)) → eb_Ct d 221 [.ref s_MO, .int x1] (eb_sI h s_MO 0 0) (fun r h4 => ∃ y5, r = some (.int y5) ∧ eb_KO h4 ∧ ((y5 = 0 → eb_Ct d 206 [.ref s_MO] h4 (fun r h8 => r = none ∧ eb_KO h8 ∧ eb_Ct d 220 [.ref s_MO, .int x1] h8 (fun r h11 => ∃ y12, r = some (.int y12) ∧ eb_KO h11 ∧ eb_Ct d 207 [.ref s_MO] h11 (fun r h14 => r = none ∧ eb_KO h14 ∧ Q (some (.int (if x2 = 0 then (if (eb_I h14 s_MO 19) = 0 then (-1) else y12) else (if x2 = (1 : Int32) then eb_I h14 s_MO 19 else (if x2 = (2 : Int32) then (((64 : Int32) * (eb_I h11 s_m_all (31 : Int32).toNatClampNeg)) + (eb_I h11 s_m_all (32 : Int32).toNatClampNeg)) / 64 else (((64 : Int32) * (eb_I h11 s_m_all (31 : Int32).toNatClampNeg)) + (eb_I h11 s_m_all (32 : Int32).toNatClampNeg)) - (((64 : Int32) * (eb_I h11 s_m_all (31 : Int32).toNatClampNeg)) + (eb_I h11 s_m_all (32 : Int32).toNatClampNeg)) / 64 * 64)) : Int32))) h14)))) ∧ (¬ (y5 = 0) → Q (some (.int y5)) h4)))) ∧ (¬ ((¬ (x2.toInt64 < 0)) ∧ (¬ (3 < x2.toInt64))) → Q (some (.int (-2))) (eb_sI h s_MO 0 0)))) : eb_Sn (d + 1) m_X11_judge h0 0 [(0, .ref s_MO), (1, .int x1), (2, .int x2)] [] h Q := by
  refine eb_aload_n (pc := 0) (n := 0) (i := 0) rfl rfl rfl ?_
  refine eb_iconst (pc := 1) (n := 0) (v := 0) rfl rfl ?_
  refine eb_putI (pc := 2) rfl rfl (by decide) (by decide) rfl rfl ⟨rfl, rfl⟩ ?_
  refine eb_iload_n (pc := 5) (n := 2) (i := 2) rfl rfl rfl ?_
  refine eb_i2l (pc := 6) rfl ?_
  refine eb_lconst (pc := 7) (n := 0) (v := 0) rfl rfl ?_
  refine eb_ldc2 (pc := 8) (a := 3) (v := 3) rfl (by decide) ?_
  refine eb_joinI (pc2 := 14) (ls2 := [(0, .ref s_MO), (1, .int x1), (2, .int x2)]) (st2 := []) (v := eb_q ((¬ (x2.toInt64 < 0)) ∧ (¬ (3 < x2.toInt64)))) ?_ (fun jj23 => ?_)
  · refine eb_if_ne (pc := 14) (tgt := 20) rfl (by decide) (fun c3 => ?_) (fun c3 => ?_)
    · replace c3 := eb_q1.mp c3
      replace w := w.1 c3
      refine eb_aload_n (pc := 20) (n := 0) (i := 0) rfl rfl rfl ?_
      refine eb_iload_n (pc := 21) (n := 1) (i := 1) rfl rfl rfl ?_
      refine eb_ctV (pc := 22) (As := [.int x1]) (rest := []) rfl (by decide) rfl rfl (by decide) rfl (Nat.le_of_ble_eq_true rfl) ?_
      refine eb_Ct.mono w ?_
      rintro r h4 ⟨y5, rfl, ko6, w⟩
      change eb_Sn _ _ _ 25 _ [.int y5] _ _
      refine eb_istore_n (pc := 25) (n := 3) (i := 3) (ls2 := [(3, .int y5), (0, .ref s_MO), (1, .int x1), (2, .int x2)]) rfl (Nat.le_of_ble_eq_true rfl) rfl rfl ?_
      refine eb_iload_n (pc := 26) (n := 3) (i := 3) rfl rfl rfl ?_
      refine eb_if_eq (pc := 27) (tgt := 32) rfl (by decide) (fun c7 => ?_) (fun c7 => ?_)
      · replace w := w.1 c7
        refine eb_aload_n (pc := 32) (n := 0) (i := 0) rfl rfl rfl ?_
        refine eb_ctV (pc := 33) (As := []) (rest := []) rfl (by decide) rfl rfl (by decide) rfl (Nat.le_of_ble_eq_true rfl) ?_
        refine eb_Ct.mono w ?_
        rintro r h8 ⟨rfl, ko10, w⟩
        change eb_Sn _ _ _ 36 _ [] _ _
        refine eb_aload_n (pc := 36) (n := 0) (i := 0) rfl rfl rfl ?_
        refine eb_iload_n (pc := 37) (n := 1) (i := 1) rfl rfl rfl ?_
        refine eb_ctV (pc := 38) (As := [.int x1]) (rest := []) rfl (by decide) rfl rfl (by decide) rfl (Nat.le_of_ble_eq_true rfl) ?_
        refine eb_Ct.mono w ?_
        rintro r h11 ⟨y12, rfl, ko13, w⟩
        change eb_Sn _ _ _ 41 _ [.int y12] _ _
        refine eb_istore (pc := 41) (i := 4) (ls2 := [(4, .int y12), (3, .int y5), (0, .ref s_MO), (1, .int x1), (2, .int x2)]) (Nat.le_of_ble_eq_true rfl) rfl rfl ?_
        refine eb_aload_n (pc := 43) (n := 0) (i := 0) rfl rfl rfl ?_
        refine eb_ctV (pc := 44) (As := []) (rest := []) rfl (by decide) rfl rfl (by decide) rfl (Nat.le_of_ble_eq_true rfl) ?_
        refine eb_bodyQ (by decide) ok_X11_standNow (Nat.le_of_ble_eq_true rfl) ?_
        change eb_Sn _ m_X11_standNow _ 0 [(0, .ref s_MO)] [] _ _
        refine eb_bipush (pc := 0) (n := 64) (v := 64) rfl rfl ?_
        refine eb_aload_n (pc := 2) (n := 0) (i := 0) rfl rfl rfl ?_
        refine eb_getR (pc := 3) rfl rfl (by decide) (by decide) rfl (ko_s_MO_1 ko13) ?_
        refine eb_bipush (pc := 6) (n := 31) (v := 31) rfl rfl ?_
        refine eb_iaload (pc := 8) rfl rfl (by decide) (by unfold vp_in; decide) ?_
        refine eb_imul (pc := 9) rfl ?_
        refine eb_aload_n (pc := 10) (n := 0) (i := 0) rfl rfl rfl ?_
        refine eb_getR (pc := 11) rfl rfl (by decide) (by decide) rfl (ko_s_MO_1 ko13) ?_
        refine eb_bipush (pc := 14) (n := 32) (v := 32) rfl rfl ?_
        refine eb_iaload (pc := 16) rfl rfl (by decide) (by unfold vp_in; decide) ?_
        refine eb_iadd (pc := 17) rfl ?_
        refine eb_ireturn (pc := 18) rfl rfl rfl ?_
        change eb_Sn _ _ _ 47 _ [.int (((64 : Int32) * (eb_I h11 s_m_all (31 : Int32).toNatClampNeg)) + (eb_I h11 s_m_all (32 : Int32).toNatClampNeg))] _ _
        refine eb_istore (pc := 47) (i := 5) (ls2 := [(5, .int (((64 : Int32) * (eb_I h11 s_m_all (31 : Int32).toNatClampNeg)) + (eb_I h11 s_m_all (32 : Int32).toNatClampNeg))), (4, .int y12), (3, .int y5), (0, .ref s_MO), (1, .int x1), (2, .int x2)]) (Nat.le_of_ble_eq_true rfl) rfl rfl ?_
        refine eb_aload_n (pc := 49) (n := 0) (i := 0) rfl rfl rfl ?_
        refine eb_ctV (pc := 50) (As := []) (rest := []) rfl (by decide) rfl rfl (by decide) rfl (Nat.le_of_ble_eq_true rfl) ?_
        refine eb_Ct.mono w ?_
        rintro r h14 ⟨rfl, ko16, w⟩
        change eb_Sn _ _ _ 53 _ [] _ _
        refine eb_iload_n (pc := 53) (n := 2) (i := 2) rfl rfl rfl ?_
        refine eb_joinI (pc2 := 103) (ls2 := [(5, .int (((64 : Int32) * (eb_I h11 s_m_all (31 : Int32).toNatClampNeg)) + (eb_I h11 s_m_all (32 : Int32).toNatClampNeg))), (4, .int y12), (3, .int y5), (0, .ref s_MO), (1, .int x1), (2, .int x2)]) (st2 := []) (v := (if x2 = 0 then (if (eb_I h14 s_MO 19) = 0 then (-1) else y12) else (if x2 = (1 : Int32) then eb_I h14 s_MO 19 else (if x2 = (2 : Int32) then (((64 : Int32) * (eb_I h11 s_m_all (31 : Int32).toNatClampNeg)) + (eb_I h11 s_m_all (32 : Int32).toNatClampNeg)) / 64 else (((64 : Int32) * (eb_I h11 s_m_all (31 : Int32).toNatClampNeg)) + (eb_I h11 s_m_all (32 : Int32).toNatClampNeg)) - (((64 : Int32) * (eb_I h11 s_m_all (31 : Int32).toNatClampNeg)) + (eb_I h11 s_m_all (32 : Int32).toNatClampNeg)) / 64 * 64)) : Int32)) ?_ (fun jj21 => ?_)
        · exact eb_ireturn (pc := 103) rfl rfl rfl w
        refine eb_if_ne (pc := 54) (tgt := 73) rfl (by decide) (fun c17 => ?_) (fun c17 => ?_)
        · refine eb_iload_n (pc := 73) (n := 2) (i := 2) rfl rfl rfl ?_
          refine eb_iconst (pc := 74) (n := 1) (v := 1) rfl rfl ?_
          refine eb_icmp_ne (pc := 75) (tgt := 85) rfl (by decide) (fun c18 => ?_) (fun c18 => ?_)
          · refine eb_iload_n (pc := 85) (n := 2) (i := 2) rfl rfl rfl ?_
            refine eb_iconst (pc := 86) (n := 2) (v := 2) rfl rfl ?_
            refine eb_icmp_ne (pc := 87) (tgt := 98) rfl (by decide) (fun c19 => ?_) (fun c19 => ?_)
            · refine eb_iload (pc := 98) (i := 5) rfl rfl ?_
              refine eb_bipush (pc := 100) (n := 64) (v := 64) rfl rfl ?_
              refine eb_irem (pc := 102) (by decide) rfl ?_
              exact jj21 _ (by simp only [if_neg c17, if_neg c18, if_neg c19])
            · refine eb_iload (pc := 90) (i := 5) rfl rfl ?_
              refine eb_bipush (pc := 92) (n := 64) (v := 64) rfl rfl ?_
              refine eb_idiv (pc := 94) (by decide) rfl ?_
              refine eb_goto (pc := 95) (tgt := 103) rfl (by decide) ?_
              exact jj21 _ (by simp only [if_neg c17, if_neg c18, if_pos c19])
          · refine eb_aload_n (pc := 78) (n := 0) (i := 0) rfl rfl rfl ?_
            refine eb_getI (pc := 79) rfl rfl (by decide) (by decide) rfl ?_
            refine eb_goto (pc := 82) (tgt := 103) rfl (by decide) ?_
            exact jj21 _ (by simp only [if_neg c17, if_pos c18])
        · refine eb_aload_n (pc := 57) (n := 0) (i := 0) rfl rfl rfl ?_
          refine eb_getI (pc := 58) rfl rfl (by decide) (by decide) rfl ?_
          refine eb_if_ne (pc := 61) (tgt := 68) rfl (by decide) (fun c20 => ?_) (fun c20 => ?_)
          · refine eb_iload (pc := 68) (i := 4) rfl rfl ?_
            refine eb_goto (pc := 70) (tgt := 103) rfl (by decide) ?_
            exact jj21 _ (by simp only [if_pos c17, if_neg c20])
          · refine eb_iconst (pc := 64) (n := -1) (v := (-1)) rfl rfl ?_
            refine eb_goto (pc := 65) (tgt := 103) rfl (by decide) ?_
            exact jj21 _ (by simp only [if_pos c17, if_pos c20])
      · replace w := w.2 c7
        refine eb_iload_n (pc := 30) (n := 3) (i := 3) rfl rfl rfl ?_
        exact eb_ireturn (pc := 31) rfl rfl rfl w
    · replace c3 := eb_q0.mp c3
      replace w := w.2 c3
      refine eb_bipush (pc := 17) (n := -2) (v := (-2)) rfl rfl ?_
      exact eb_ireturn (pc := 19) rfl rfl rfl w
  refine eb_ctS (pc := 11) (As := [.long x2.toInt64, .long 0, .long 3]) (rest := []) rfl (by decide) (by decide) rfl rfl (Nat.le_of_ble_eq_true rfl) ?_
  refine eb_bodyQ (by decide) ok_X11_within (Nat.le_of_ble_eq_true rfl) ?_
  change eb_Sn _ m_X11_within _ 0 [(0, .long x2.toInt64), (2, .long 0), (4, .long 3)] [] _ _
  refine eb_lload_n (pc := 0) (n := 0) (i := 0) rfl rfl rfl ?_
  refine eb_lload_n (pc := 1) (n := 2) (i := 2) rfl rfl rfl ?_
  refine eb_lcmp (pc := 2) rfl ?_
  refine eb_if_lt (pc := 3) (tgt := 17) rfl (by decide) (fun c1 => ?_) (fun c1 => ?_)
  · replace c1 := eb_lc_lt.mp c1
    refine eb_iconst (pc := 17) (n := 0) (v := 0) rfl rfl ?_
    refine eb_ireturn (pc := 18) rfl rfl (by decide) ?_
    change eb_Sn _ _ _ 14 _ _ _ _
    exact jj23 0 (eb_qf (fun z => z.1 c1)).symm
  · replace c1 := (fun hh => mt eb_lc_lt.mpr hh) c1
    refine eb_lload_n (pc := 6) (n := 0) (i := 0) rfl rfl rfl ?_
    refine eb_lload (pc := 7) (i := 4) rfl rfl ?_
    refine eb_lcmp (pc := 9) rfl ?_
    refine eb_if_gt (pc := 10) (tgt := 17) rfl (by decide) (fun c2 => ?_) (fun c2 => ?_)
    · replace c2 := eb_lc_gt.mp c2
      refine eb_iconst (pc := 17) (n := 0) (v := 0) rfl rfl ?_
      refine eb_ireturn (pc := 18) rfl rfl (by decide) ?_
      change eb_Sn _ _ _ 14 _ _ _ _
      exact jj23 0 (eb_qf (fun z => (fun z => z c2) z.2)).symm
    · replace c2 := (fun hh => mt eb_lc_gt.mpr hh) c2
      refine eb_iconst (pc := 13) (n := 1) (v := 1) rfl rfl ?_
      refine eb_goto (pc := 14) (tgt := 18) rfl (by decide) ?_
      refine eb_ireturn (pc := 18) rfl rfl (by decide) ?_
      change eb_Sn _ _ _ 14 _ _ _ _
      exact jj23 1 (eb_qt (⟨c1, c2⟩)).symm
theorem T_X11_judge {d : Nat} {h : eb_H} {Q : Option Value → eb_H → Prop} (x1 : Int32) (x2 : Int32)  (ko : eb_KO h) (w : (((¬ (x2.toInt64 < 0)) ∧ (¬ (3 < x2.toInt64)) → eb_Ct d 221 [.ref s_MO, .int x1] (eb_sI h s_MO 0 0) (fun r h4 => ∃ y5, r = some (.int y5) ∧ eb_KO h4 ∧ ((y5 = 0 → eb_Ct d 206 [.ref s_MO] h4 (fun r h8 => r = none ∧ eb_KO h8 ∧ eb_Ct d 220 [.ref s_MO, .int x1] h8 (fun r h11 => ∃ y12, r = some (.int y12) ∧ eb_KO h11 ∧ eb_Ct d 207 [.ref s_MO] h11 (fun r h14 => r = none ∧ eb_KO h14 ∧ Q (some (.int (if x2 = 0 then (if (eb_I h14 s_MO 19) = 0 then (-1) else y12) else (if x2 = (1 : Int32) then eb_I h14 s_MO 19 else (if x2 = (2 : Int32) then (((64 : Int32) * (eb_I h11 s_m_all (31 : Int32).toNatClampNeg)) + (eb_I h11 s_m_all (32 : Int32).toNatClampNeg)) / 64 else (((64 : Int32) * (eb_I h11 s_m_all (31 : Int32).toNatClampNeg)) + (eb_I h11 s_m_all (32 : Int32).toNatClampNeg)) - (((64 : Int32) * (eb_I h11 s_m_all (31 : Int32).toNatClampNeg)) + (eb_I h11 s_m_all (32 : Int32).toNatClampNeg)) / 64 * 64)) : Int32))) h14)))) ∧ (¬ (y5 = 0) → Q (some (.int y5)) h4)))) ∧ (¬ ((¬ (x2.toInt64 < 0)) ∧ (¬ (3 < x2.toInt64))) → Q (some (.int (-2))) (eb_sI h s_MO 0 0)))) : eb_Ct (d + 1) 222 [.ref s_MO, .int x1, .int x2] h Q :=
  eb_bodyQ (by decide) ok_X11_judge (Nat.le_of_ble_eq_true rfl) (b_X11_judge_0 (h0 := h) x1 x2  ko w)
theorem b_X11_perform_0 {d : Nat} {h0 h : eb_H} {Q : Option Value → eb_H → Prop} (x1 : Int32)  (ko : eb_KO h) (w : eb_Ct d 221 [.ref s_MO, .int x1] (eb_sI h s_MO 0 0) (fun r h1 => ∃ y2, r = some (.int y2) ∧ eb_KO h1 ∧ ((y2 = 0 → eb_Ct d 206 [.ref s_MO] h1 (fun r h5 => r = none ∧ eb_KO h5 ∧ eb_Ct d 220 [.ref s_MO, .int x1] h5 (fun r h8 => ∃ y9, r = some (.int y9) ∧ eb_KO h8 ∧ ((y9 ≤ 0 → Q (some (.int y9)) h8) ∧ (¬ (y9 ≤ 0) → eb_Ct d 208 [.ref s_MO] h8 (fun r h12 => r = none ∧ eb_KO h12 ∧ Q (some (.int y9)) h12)))))) ∧ (¬ (y2 = 0) → Q (some (.int y2)) h1)))) : eb_Sn (d + 1) m_X11_perform h0 0 [(0, .ref s_MO), (1, .int x1)] [] h Q := by
  refine eb_aload_n (pc := 0) (n := 0) (i := 0) rfl rfl rfl ?_
  refine eb_iconst (pc := 1) (n := 0) (v := 0) rfl rfl ?_
  refine eb_putI (pc := 2) rfl rfl (by decide) (by decide) rfl rfl ⟨rfl, rfl⟩ ?_
  refine eb_aload_n (pc := 5) (n := 0) (i := 0) rfl rfl rfl ?_
  refine eb_iload_n (pc := 6) (n := 1) (i := 1) rfl rfl rfl ?_
  refine eb_ctV (pc := 7) (As := [.int x1]) (rest := []) rfl (by decide) rfl rfl (by decide) rfl (Nat.le_of_ble_eq_true rfl) ?_
  refine eb_Ct.mono w ?_
  rintro r h1 ⟨y2, rfl, ko3, w⟩
  change eb_Sn _ _ _ 10 _ [.int y2] _ _
  refine eb_istore_n (pc := 10) (n := 2) (i := 2) (ls2 := [(2, .int y2), (0, .ref s_MO), (1, .int x1)]) rfl (Nat.le_of_ble_eq_true rfl) rfl rfl ?_
  refine eb_iload_n (pc := 11) (n := 2) (i := 2) rfl rfl rfl ?_
  refine eb_if_eq (pc := 12) (tgt := 17) rfl (by decide) (fun c4 => ?_) (fun c4 => ?_)
  · replace w := w.1 c4
    refine eb_aload_n (pc := 17) (n := 0) (i := 0) rfl rfl rfl ?_
    refine eb_ctV (pc := 18) (As := []) (rest := []) rfl (by decide) rfl rfl (by decide) rfl (Nat.le_of_ble_eq_true rfl) ?_
    refine eb_Ct.mono w ?_
    rintro r h5 ⟨rfl, ko7, w⟩
    change eb_Sn _ _ _ 21 _ [] _ _
    refine eb_aload_n (pc := 21) (n := 0) (i := 0) rfl rfl rfl ?_
    refine eb_iload_n (pc := 22) (n := 1) (i := 1) rfl rfl rfl ?_
    refine eb_ctV (pc := 23) (As := [.int x1]) (rest := []) rfl (by decide) rfl rfl (by decide) rfl (Nat.le_of_ble_eq_true rfl) ?_
    refine eb_Ct.mono w ?_
    rintro r h8 ⟨y9, rfl, ko10, w⟩
    change eb_Sn _ _ _ 26 _ [.int y9] _ _
    refine eb_istore_n (pc := 26) (n := 3) (i := 3) (ls2 := [(3, .int y9), (2, .int y2), (0, .ref s_MO), (1, .int x1)]) rfl (Nat.le_of_ble_eq_true rfl) rfl rfl ?_
    refine eb_iload_n (pc := 27) (n := 3) (i := 3) rfl rfl rfl ?_
    refine eb_if_le (pc := 28) (tgt := 35) rfl (by decide) (fun c11 => ?_) (fun c11 => ?_)
    · replace w := w.1 c11
      refine eb_iload_n (pc := 35) (n := 3) (i := 3) rfl rfl rfl ?_
      exact eb_ireturn (pc := 36) rfl rfl rfl w
    · replace w := w.2 c11
      refine eb_aload_n (pc := 31) (n := 0) (i := 0) rfl rfl rfl ?_
      refine eb_ctV (pc := 32) (As := []) (rest := []) rfl (by decide) rfl rfl (by decide) rfl (Nat.le_of_ble_eq_true rfl) ?_
      refine eb_Ct.mono w ?_
      rintro r h12 ⟨rfl, ko14, w⟩
      change eb_Sn _ _ _ 35 _ [] _ _
      refine eb_iload_n (pc := 35) (n := 3) (i := 3) rfl rfl rfl ?_
      exact eb_ireturn (pc := 36) rfl rfl rfl w
  · replace w := w.2 c4
    refine eb_iload_n (pc := 15) (n := 2) (i := 2) rfl rfl rfl ?_
    exact eb_ireturn (pc := 16) rfl rfl rfl w
theorem T_X11_perform {d : Nat} {h : eb_H} {Q : Option Value → eb_H → Prop} (x1 : Int32)  (ko : eb_KO h) (w : eb_Ct d 221 [.ref s_MO, .int x1] (eb_sI h s_MO 0 0) (fun r h1 => ∃ y2, r = some (.int y2) ∧ eb_KO h1 ∧ ((y2 = 0 → eb_Ct d 206 [.ref s_MO] h1 (fun r h5 => r = none ∧ eb_KO h5 ∧ eb_Ct d 220 [.ref s_MO, .int x1] h5 (fun r h8 => ∃ y9, r = some (.int y9) ∧ eb_KO h8 ∧ ((y9 ≤ 0 → Q (some (.int y9)) h8) ∧ (¬ (y9 ≤ 0) → eb_Ct d 208 [.ref s_MO] h8 (fun r h12 => r = none ∧ eb_KO h12 ∧ Q (some (.int y9)) h12)))))) ∧ (¬ (y2 = 0) → Q (some (.int y2)) h1)))) : eb_Ct (d + 1) 223 [.ref s_MO, .int x1] h Q :=
  eb_bodyQ (by decide) ok_X11_perform (Nat.le_of_ble_eq_true rfl) (b_X11_perform_0 (h0 := h) x1  ko w)
theorem b_X11_draw_0 {d : Nat} {h0 h : eb_H} {Q : Option Value → eb_H → Prop} (x1 : Int32)  (ko : eb_KO h) (w : (¬ x1 = 0) ∧ Q (some (.int ((((eb_I (eb_sI h s_MO 20 (((1103515245 : Int32) * (eb_I h s_MO 20)) + 12345)) s_MO 20).toUInt32 >>> ((16 : Int32).toUInt32 &&& Int32.toUInt32 31)).toInt32) - (((eb_I (eb_sI h s_MO 20 (((1103515245 : Int32) * (eb_I h s_MO 20)) + 12345)) s_MO 20).toUInt32 >>> ((16 : Int32).toUInt32 &&& Int32.toUInt32 31)).toInt32) / x1 * x1))) (eb_sI h s_MO 20 (((1103515245 : Int32) * (eb_I h s_MO 20)) + 12345))) : eb_Sn d m_X11_draw h0 0 [(0, .ref s_MO), (1, .int x1)] [] h Q := by
  refine eb_aload_n (pc := 0) (n := 0) (i := 0) rfl rfl rfl ?_
  refine eb_ldcw (pc := 1) (a := 1103515245) (v := 1103515245) rfl (by decide) ?_
  refine eb_aload_n (pc := 4) (n := 0) (i := 0) rfl rfl rfl ?_
  refine eb_getI (pc := 5) rfl rfl (by decide) (by decide) rfl ?_
  refine eb_imul (pc := 8) rfl ?_
  refine eb_sipush (pc := 9) (n := 12345) (v := 12345) rfl rfl ?_
  refine eb_iadd (pc := 12) rfl ?_
  refine eb_putI (pc := 13) rfl rfl (by decide) (by decide) rfl rfl ⟨rfl, rfl⟩ ?_
  refine eb_aload_n (pc := 16) (n := 0) (i := 0) rfl rfl rfl ?_
  refine eb_getI (pc := 17) rfl rfl (by decide) (by decide) rfl ?_
  refine eb_bipush (pc := 20) (n := 16) (v := 16) rfl rfl ?_
  refine eb_iushr (pc := 22) rfl ?_
  refine eb_iload_n (pc := 23) (n := 1) (i := 1) rfl rfl rfl ?_
  obtain ⟨c1, w⟩ := w
  refine eb_irem (pc := 24) c1 rfl ?_
  exact eb_ireturn (pc := 25) rfl rfl rfl w
theorem T_X11_draw {d : Nat} {h : eb_H} {Q : Option Value → eb_H → Prop} (x1 : Int32)  (ko : eb_KO h) (w : (¬ x1 = 0) ∧ Q (some (.int ((((eb_I (eb_sI h s_MO 20 (((1103515245 : Int32) * (eb_I h s_MO 20)) + 12345)) s_MO 20).toUInt32 >>> ((16 : Int32).toUInt32 &&& Int32.toUInt32 31)).toInt32) - (((eb_I (eb_sI h s_MO 20 (((1103515245 : Int32) * (eb_I h s_MO 20)) + 12345)) s_MO 20).toUInt32 >>> ((16 : Int32).toUInt32 &&& Int32.toUInt32 31)).toInt32) / x1 * x1))) (eb_sI h s_MO 20 (((1103515245 : Int32) * (eb_I h s_MO 20)) + 12345))) : eb_Ct d 224 [.ref s_MO, .int x1] h Q :=
  eb_bodyQ (by decide) ok_X11_draw (Nat.le_of_ble_eq_true rfl) (b_X11_draw_0 (h0 := h) x1  ko w)
theorem b_X11_drawn_0 {d : Nat} {h0 h : eb_H} {Q : Option Value → eb_H → Prop}   (ko : eb_KO h) (w : eb_Ct d 224 [.ref s_MO, .int 8] h (fun r h1 => ∃ y2, r = some (.int y2) ∧ eb_KO h1 ∧ (((4 : Int32) ≤ y2 → ((¬ y2 = (7 : Int32) → eb_Ct d 224 [.ref s_MO, .int 16] h1 (fun r h6 => ∃ y7, r = some (.int y7) ∧ eb_KO h6 ∧ ((¬ y2 = (4 : Int32) → ((¬ y2 = (6 : Int32) → eb_Ct d 224 [.ref s_MO, .int 7] h6 (fun r h11 => ∃ y12, r = some (.int y12) ∧ eb_KO h11 ∧ Q (some (.int (((1000 : Int32) + ((10 : Int32) * y7)) + y12))) h11)) ∧ (y2 = (6 : Int32) → Q (some (.int ((200 : Int32) + y7))) h6))) ∧ (y2 = (4 : Int32) → Q (some (.int ((100 : Int32) + y7))) h6)))) ∧ (y2 = (7 : Int32) → eb_Ct d 224 [.ref s_MO, .int 10] h1 (fun r h14 => ∃ y15, r = some (.int y15) ∧ eb_KO h14 ∧ Q (some (.int ((300 : Int32) + y15))) h14)))) ∧ (¬ ((4 : Int32) ≤ y2) → eb_Ct d 224 [.ref s_MO, .int 4] h1 (fun r h17 => ∃ y18, r = some (.int y18) ∧ eb_KO h17 ∧ Q (some (.int y18)) h17))))) : eb_Sn (d + 1) m_X11_drawn h0 0 [(0, .ref s_MO)] [] h Q := by
  refine eb_aload_n (pc := 0) (n := 0) (i := 0) rfl rfl rfl ?_
  refine eb_bipush (pc := 1) (n := 8) (v := 8) rfl rfl ?_
  refine eb_ctV (pc := 3) (As := [.int 8]) (rest := []) rfl (by decide) rfl rfl (by decide) rfl (Nat.le_of_ble_eq_true rfl) ?_
  refine eb_Ct.mono w ?_
  rintro r h1 ⟨y2, rfl, ko3, w⟩
  change eb_Sn _ _ _ 6 _ [.int y2] _ _
  refine eb_istore_n (pc := 6) (n := 1) (i := 1) (ls2 := [(1, .int y2), (0, .ref s_MO)]) rfl (Nat.le_of_ble_eq_true rfl) rfl rfl ?_
  refine eb_iload_n (pc := 7) (n := 1) (i := 1) rfl rfl rfl ?_
  refine eb_iconst (pc := 8) (n := 4) (v := 4) rfl rfl ?_
  refine eb_icmp_ge (pc := 9) (tgt := 18) rfl (by decide) (fun c4 => ?_) (fun c4 => ?_)
  · replace w := w.1 c4
    refine eb_iload_n (pc := 18) (n := 1) (i := 1) rfl rfl rfl ?_
    refine eb_bipush (pc := 19) (n := 7) (v := 7) rfl rfl ?_
    refine eb_icmp_ne (pc := 21) (tgt := 35) rfl (by decide) (fun c5 => ?_) (fun c5 => ?_)
    · replace w := w.1 c5
      refine eb_aload_n (pc := 35) (n := 0) (i := 0) rfl rfl rfl ?_
      refine eb_bipush (pc := 36) (n := 16) (v := 16) rfl rfl ?_
      refine eb_ctV (pc := 38) (As := [.int 16]) (rest := []) rfl (by decide) rfl rfl (by decide) rfl (Nat.le_of_ble_eq_true rfl) ?_
      refine eb_Ct.mono w ?_
      rintro r h6 ⟨y7, rfl, ko8, w⟩
      change eb_Sn _ _ _ 41 _ [.int y7] _ _
      refine eb_istore_n (pc := 41) (n := 2) (i := 2) (ls2 := [(2, .int y7), (1, .int y2), (0, .ref s_MO)]) rfl (Nat.le_of_ble_eq_true rfl) rfl rfl ?_
      refine eb_iload_n (pc := 42) (n := 1) (i := 1) rfl rfl rfl ?_
      refine eb_iconst (pc := 43) (n := 4) (v := 4) rfl rfl ?_
      refine eb_icmp_ne (pc := 44) (tgt := 54) rfl (by decide) (fun c9 => ?_) (fun c9 => ?_)
      · replace w := w.1 c9
        refine eb_iload_n (pc := 54) (n := 1) (i := 1) rfl rfl rfl ?_
        refine eb_bipush (pc := 55) (n := 6) (v := 6) rfl rfl ?_
        refine eb_icmp_ne (pc := 57) (tgt := 68) rfl (by decide) (fun c10 => ?_) (fun c10 => ?_)
        · replace w := w.1 c10
          refine eb_sipush (pc := 68) (n := 1000) (v := 1000) rfl rfl ?_
          refine eb_bipush (pc := 71) (n := 10) (v := 10) rfl rfl ?_
          refine eb_iload_n (pc := 73) (n := 2) (i := 2) rfl rfl rfl ?_
          refine eb_imul (pc := 74) rfl ?_
          refine eb_iadd (pc := 75) rfl ?_
          refine eb_aload_n (pc := 76) (n := 0) (i := 0) rfl rfl rfl ?_
          refine eb_bipush (pc := 77) (n := 7) (v := 7) rfl rfl ?_
          refine eb_ctV (pc := 79) (As := [.int 7]) (rest := [.int ((1000 : Int32) + ((10 : Int32) * y7))]) rfl (by decide) rfl rfl (by decide) rfl (Nat.le_of_ble_eq_true rfl) ?_
          refine eb_Ct.mono w ?_
          rintro r h11 ⟨y12, rfl, ko13, w⟩
          change eb_Sn _ _ _ 82 _ [.int y12, .int ((1000 : Int32) + ((10 : Int32) * y7))] _ _
          refine eb_iadd (pc := 82) rfl ?_
          exact eb_ireturn (pc := 83) rfl rfl rfl w
        · replace w := w.2 c10
          refine eb_sipush (pc := 60) (n := 200) (v := 200) rfl rfl ?_
          refine eb_iload_n (pc := 63) (n := 2) (i := 2) rfl rfl rfl ?_
          refine eb_iadd (pc := 64) rfl ?_
          refine eb_goto (pc := 65) (tgt := 83) rfl (by decide) ?_
          exact eb_ireturn (pc := 83) rfl rfl rfl w
      · replace w := w.2 c9
        refine eb_bipush (pc := 47) (n := 100) (v := 100) rfl rfl ?_
        refine eb_iload_n (pc := 49) (n := 2) (i := 2) rfl rfl rfl ?_
        refine eb_iadd (pc := 50) rfl ?_
        refine eb_goto (pc := 51) (tgt := 83) rfl (by decide) ?_
        exact eb_ireturn (pc := 83) rfl rfl rfl w
    · replace w := w.2 c5
      refine eb_sipush (pc := 24) (n := 300) (v := 300) rfl rfl ?_
      refine eb_aload_n (pc := 27) (n := 0) (i := 0) rfl rfl rfl ?_
      refine eb_bipush (pc := 28) (n := 10) (v := 10) rfl rfl ?_
      refine eb_ctV (pc := 30) (As := [.int 10]) (rest := [.int 300]) rfl (by decide) rfl rfl (by decide) rfl (Nat.le_of_ble_eq_true rfl) ?_
      refine eb_Ct.mono w ?_
      rintro r h14 ⟨y15, rfl, ko16, w⟩
      change eb_Sn _ _ _ 33 _ [.int y15, .int 300] _ _
      refine eb_iadd (pc := 33) rfl ?_
      exact eb_ireturn (pc := 34) rfl rfl rfl w
  · replace w := w.2 c4
    refine eb_aload_n (pc := 12) (n := 0) (i := 0) rfl rfl rfl ?_
    refine eb_iconst (pc := 13) (n := 4) (v := 4) rfl rfl ?_
    refine eb_ctV (pc := 14) (As := [.int 4]) (rest := []) rfl (by decide) rfl rfl (by decide) rfl (Nat.le_of_ble_eq_true rfl) ?_
    refine eb_Ct.mono w ?_
    rintro r h17 ⟨y18, rfl, ko19, w⟩
    change eb_Sn _ _ _ 17 _ [.int y18] _ _
    exact eb_ireturn (pc := 17) rfl rfl rfl w
theorem T_X11_drawn {d : Nat} {h : eb_H} {Q : Option Value → eb_H → Prop}   (ko : eb_KO h) (w : eb_Ct d 224 [.ref s_MO, .int 8] h (fun r h1 => ∃ y2, r = some (.int y2) ∧ eb_KO h1 ∧ (((4 : Int32) ≤ y2 → ((¬ y2 = (7 : Int32) → eb_Ct d 224 [.ref s_MO, .int 16] h1 (fun r h6 => ∃ y7, r = some (.int y7) ∧ eb_KO h6 ∧ ((¬ y2 = (4 : Int32) → ((¬ y2 = (6 : Int32) → eb_Ct d 224 [.ref s_MO, .int 7] h6 (fun r h11 => ∃ y12, r = some (.int y12) ∧ eb_KO h11 ∧ Q (some (.int (((1000 : Int32) + ((10 : Int32) * y7)) + y12))) h11)) ∧ (y2 = (6 : Int32) → Q (some (.int ((200 : Int32) + y7))) h6))) ∧ (y2 = (4 : Int32) → Q (some (.int ((100 : Int32) + y7))) h6)))) ∧ (y2 = (7 : Int32) → eb_Ct d 224 [.ref s_MO, .int 10] h1 (fun r h14 => ∃ y15, r = some (.int y15) ∧ eb_KO h14 ∧ Q (some (.int ((300 : Int32) + y15))) h14)))) ∧ (¬ ((4 : Int32) ≤ y2) → eb_Ct d 224 [.ref s_MO, .int 4] h1 (fun r h17 => ∃ y18, r = some (.int y18) ∧ eb_KO h17 ∧ Q (some (.int y18)) h17))))) : eb_Ct (d + 1) 225 [.ref s_MO] h Q :=
  eb_bodyQ (by decide) ok_X11_drawn (Nat.le_of_ble_eq_true rfl) (b_X11_drawn_0 (h0 := h)   ko w)
theorem b_X11_night_0 {d : Nat} {h0 h : eb_H} {Q : Option Value → eb_H → Prop} (x1 : Int32) (x2 : Int32)  (ko : eb_KO h) (w : (((¬ (x2.toInt64 < 1)) ∧ (¬ (40 < x2.toInt64)) → eb_Ct d 206 [.ref s_MO] (eb_sI h s_MO 0 0) (fun r h4 => r = none ∧ eb_KO h4 ∧ eb_Sn (d + 1) m_X11_night h0 34 [(0, .ref s_MO), (2, .int x2), (3, .int 0), (4, .int 0)] [] (eb_sI h4 s_MO 20 x1) Q)) ∧ (¬ ((¬ (x2.toInt64 < 1)) ∧ (¬ (40 < x2.toInt64))) → Q (some (.int (-3))) (eb_sI h s_MO 0 0)))) : eb_Sn (d + 1) m_X11_night h0 0 [(0, .ref s_MO), (1, .int x1), (2, .int x2)] [] h Q := by
  refine eb_aload_n (pc := 0) (n := 0) (i := 0) rfl rfl rfl ?_
  refine eb_iconst (pc := 1) (n := 0) (v := 0) rfl rfl ?_
  refine eb_putI (pc := 2) rfl rfl (by decide) (by decide) rfl rfl ⟨rfl, rfl⟩ ?_
  refine eb_iload_n (pc := 5) (n := 2) (i := 2) rfl rfl rfl ?_
  refine eb_i2l (pc := 6) rfl ?_
  refine eb_lconst (pc := 7) (n := 1) (v := 1) rfl rfl ?_
  refine eb_ldc2 (pc := 8) (a := 40) (v := 40) rfl (by decide) ?_
  refine eb_joinI (pc2 := 14) (ls2 := [(0, .ref s_MO), (1, .int x1), (2, .int x2)]) (st2 := []) (v := eb_q ((¬ (x2.toInt64 < 1)) ∧ (¬ (40 < x2.toInt64)))) ?_ (fun jj7 => ?_)
  · refine eb_if_ne (pc := 14) (tgt := 20) rfl (by decide) (fun c3 => ?_) (fun c3 => ?_)
    · replace c3 := eb_q1.mp c3
      replace w := w.1 c3
      refine eb_aload_n (pc := 20) (n := 0) (i := 0) rfl rfl rfl ?_
      refine eb_ctV (pc := 21) (As := []) (rest := []) rfl (by decide) rfl rfl (by decide) rfl (Nat.le_of_ble_eq_true rfl) ?_
      refine eb_Ct.mono w ?_
      rintro r h4 ⟨rfl, ko6, w⟩
      change eb_Sn _ _ _ 24 _ [] _ _
      refine eb_aload_n (pc := 24) (n := 0) (i := 0) rfl rfl rfl ?_
      refine eb_iload_n (pc := 25) (n := 1) (i := 1) rfl rfl rfl ?_
      refine eb_putI (pc := 26) rfl rfl (by decide) (by decide) rfl rfl ⟨rfl, rfl⟩ ?_
      refine eb_iconst (pc := 29) (n := 0) (v := 0) rfl rfl ?_
      refine eb_istore_n (pc := 30) (n := 3) (i := 3) (ls2 := [(3, .int 0), (0, .ref s_MO), (1, .int x1), (2, .int x2)]) rfl (Nat.le_of_ble_eq_true rfl) rfl rfl ?_
      refine eb_iconst (pc := 31) (n := 0) (v := 0) rfl rfl ?_
      refine eb_istore (pc := 32) (i := 4) (ls2 := [(4, .int 0), (3, .int 0), (0, .ref s_MO), (1, .int x1), (2, .int x2)]) (Nat.le_of_ble_eq_true rfl) rfl rfl ?_
      exact eb_pick [2, 4, 1, 0] rfl w
    · replace c3 := eb_q0.mp c3
      replace w := w.2 c3
      refine eb_bipush (pc := 17) (n := -3) (v := (-3)) rfl rfl ?_
      exact eb_ireturn (pc := 19) rfl rfl rfl w
  refine eb_ctS (pc := 11) (As := [.long x2.toInt64, .long 1, .long 40]) (rest := []) rfl (by decide) (by decide) rfl rfl (Nat.le_of_ble_eq_true rfl) ?_
  refine eb_bodyQ (by decide) ok_X11_within (Nat.le_of_ble_eq_true rfl) ?_
  change eb_Sn _ m_X11_within _ 0 [(0, .long x2.toInt64), (2, .long 1), (4, .long 40)] [] _ _
  refine eb_lload_n (pc := 0) (n := 0) (i := 0) rfl rfl rfl ?_
  refine eb_lload_n (pc := 1) (n := 2) (i := 2) rfl rfl rfl ?_
  refine eb_lcmp (pc := 2) rfl ?_
  refine eb_if_lt (pc := 3) (tgt := 17) rfl (by decide) (fun c1 => ?_) (fun c1 => ?_)
  · replace c1 := eb_lc_lt.mp c1
    refine eb_iconst (pc := 17) (n := 0) (v := 0) rfl rfl ?_
    refine eb_ireturn (pc := 18) rfl rfl (by decide) ?_
    change eb_Sn _ _ _ 14 _ _ _ _
    exact jj7 0 (eb_qf (fun z => z.1 c1)).symm
  · replace c1 := (fun hh => mt eb_lc_lt.mpr hh) c1
    refine eb_lload_n (pc := 6) (n := 0) (i := 0) rfl rfl rfl ?_
    refine eb_lload (pc := 7) (i := 4) rfl rfl ?_
    refine eb_lcmp (pc := 9) rfl ?_
    refine eb_if_gt (pc := 10) (tgt := 17) rfl (by decide) (fun c2 => ?_) (fun c2 => ?_)
    · replace c2 := eb_lc_gt.mp c2
      refine eb_iconst (pc := 17) (n := 0) (v := 0) rfl rfl ?_
      refine eb_ireturn (pc := 18) rfl rfl (by decide) ?_
      change eb_Sn _ _ _ 14 _ _ _ _
      exact jj7 0 (eb_qf (fun z => (fun z => z c2) z.2)).symm
    · replace c2 := (fun hh => mt eb_lc_gt.mpr hh) c2
      refine eb_iconst (pc := 13) (n := 1) (v := 1) rfl rfl ?_
      refine eb_goto (pc := 14) (tgt := 18) rfl (by decide) ?_
      refine eb_ireturn (pc := 18) rfl rfl (by decide) ?_
      change eb_Sn _ _ _ 14 _ _ _ _
      exact jj7 1 (eb_qt (⟨c1, c2⟩)).symm
theorem b_X11_night_34 {d : Nat} {h0 h : eb_H} {Q : Option Value → eb_H → Prop} (x2 : Int32) (x3 : Int32) (x4 : Int32)  (ko : eb_KO h) (w : ((x2 ≤ x4 → ((x3 ≤ 0 → Q (some (.int x3)) h) ∧ (¬ (x3 ≤ 0) → eb_Ct d 208 [.ref s_MO] h (fun r h3 => r = none ∧ eb_KO h3 ∧ Q (some (.int x3)) h3)))) ∧ (¬ (x2 ≤ x4) → eb_Ct d 225 [.ref s_MO] h (fun r h6 => ∃ y7, r = some (.int y7) ∧ eb_KO h6 ∧ eb_Ct d 218 [.ref s_MO, .long y7.toInt64] h6 (fun r h9 => ∃ y10, r = some (.int y10) ∧ eb_KO h9 ∧ ((y10 = 0 → eb_Ct d 219 [.ref s_MO, .int y7] h9 (fun r h13 => r = none ∧ eb_KO h13 ∧ eb_Sn (d + 1) m_X11_night h0 34 [(0, .ref s_MO), (2, .int x2), (3, .int (x3 + 1)), (4, .int (x4 + 1))] [] h13 Q)) ∧ (¬ (y10 = 0) → eb_Sn (d + 1) m_X11_night h0 34 [(0, .ref s_MO), (2, .int x2), (3, .int x3), (4, .int (x4 + 1))] [] h9 Q))))))) : eb_Sn (d + 1) m_X11_night h0 34 [(0, .ref s_MO), (2, .int x2), (3, .int x3), (4, .int x4)] [] h Q := by
  refine eb_iload (pc := 34) (i := 4) rfl rfl ?_
  refine eb_iload_n (pc := 36) (n := 2) (i := 2) rfl rfl rfl ?_
  refine eb_icmp_ge (pc := 37) (tgt := 74) rfl (by decide) (fun c1 => ?_) (fun c1 => ?_)
  · replace w := w.1 c1
    refine eb_iload_n (pc := 74) (n := 3) (i := 3) rfl rfl rfl ?_
    refine eb_if_le (pc := 75) (tgt := 82) rfl (by decide) (fun c2 => ?_) (fun c2 => ?_)
    · replace w := w.1 c2
      refine eb_iload_n (pc := 82) (n := 3) (i := 3) rfl rfl rfl ?_
      exact eb_ireturn (pc := 83) rfl rfl rfl w
    · replace w := w.2 c2
      refine eb_aload_n (pc := 78) (n := 0) (i := 0) rfl rfl rfl ?_
      refine eb_ctV (pc := 79) (As := []) (rest := []) rfl (by decide) rfl rfl (by decide) rfl (Nat.le_of_ble_eq_true rfl) ?_
      refine eb_Ct.mono w ?_
      rintro r h3 ⟨rfl, ko5, w⟩
      change eb_Sn _ _ _ 82 _ [] _ _
      refine eb_iload_n (pc := 82) (n := 3) (i := 3) rfl rfl rfl ?_
      exact eb_ireturn (pc := 83) rfl rfl rfl w
  · replace w := w.2 c1
    refine eb_aload_n (pc := 40) (n := 0) (i := 0) rfl rfl rfl ?_
    refine eb_ctV (pc := 41) (As := []) (rest := []) rfl (by decide) rfl rfl (by decide) rfl (Nat.le_of_ble_eq_true rfl) ?_
    refine eb_Ct.mono w ?_
    rintro r h6 ⟨y7, rfl, ko8, w⟩
    change eb_Sn _ _ _ 44 _ [.int y7] _ _
    refine eb_istore (pc := 44) (i := 5) (ls2 := [(5, .int y7), (0, .ref s_MO), (2, .int x2), (3, .int x3), (4, .int x4)]) (Nat.le_of_ble_eq_true rfl) rfl rfl ?_
    refine eb_aload_n (pc := 46) (n := 0) (i := 0) rfl rfl rfl ?_
    refine eb_iload (pc := 47) (i := 5) rfl rfl ?_
    refine eb_i2l (pc := 49) rfl ?_
    refine eb_ctV (pc := 50) (As := [.long y7.toInt64]) (rest := []) rfl (by decide) rfl rfl (by decide) rfl (Nat.le_of_ble_eq_true rfl) ?_
    refine eb_Ct.mono w ?_
    rintro r h9 ⟨y10, rfl, ko11, w⟩
    change eb_Sn _ _ _ 53 _ [.int y10] _ _
    refine eb_if_eq (pc := 53) (tgt := 59) rfl (by decide) (fun c12 => ?_) (fun c12 => ?_)
    · replace w := w.1 c12
      refine eb_aload_n (pc := 59) (n := 0) (i := 0) rfl rfl rfl ?_
      refine eb_iload (pc := 60) (i := 5) rfl rfl ?_
      refine eb_ctV (pc := 62) (As := [.int y7]) (rest := []) rfl (by decide) rfl rfl (by decide) rfl (Nat.le_of_ble_eq_true rfl) ?_
      refine eb_Ct.mono w ?_
      rintro r h13 ⟨rfl, ko15, w⟩
      change eb_Sn _ _ _ 65 _ [] _ _
      refine eb_iinc (pc := 65) (i := 3) (n := 1) (v := x3 + 1) (ls2 := [(3, .int (x3 + 1)), (5, .int y7), (0, .ref s_MO), (2, .int x2), (4, .int x4)]) (Nat.le_of_ble_eq_true rfl) rfl rfl rfl rfl ?_
      refine eb_iinc (pc := 68) (i := 4) (n := 1) (v := x4 + 1) (ls2 := [(4, .int (x4 + 1)), (3, .int (x3 + 1)), (5, .int y7), (0, .ref s_MO), (2, .int x2)]) (Nat.le_of_ble_eq_true rfl) rfl rfl rfl rfl ?_
      refine eb_goto (pc := 71) (tgt := 34) rfl (by decide) ?_
      exact eb_pick [3, 4, 1, 0] rfl w
    · replace w := w.2 c12
      refine eb_goto (pc := 56) (tgt := 68) rfl (by decide) ?_
      refine eb_iinc (pc := 68) (i := 4) (n := 1) (v := x4 + 1) (ls2 := [(4, .int (x4 + 1)), (5, .int y7), (0, .ref s_MO), (2, .int x2), (3, .int x3)]) (Nat.le_of_ble_eq_true rfl) rfl rfl rfl rfl ?_
      refine eb_goto (pc := 71) (tgt := 34) rfl (by decide) ?_
      exact eb_pick [2, 3, 4, 0] rfl w
theorem T_X11_night {d : Nat} {h : eb_H} {Q : Option Value → eb_H → Prop} (x1 : Int32) (x2 : Int32)  (ko : eb_KO h) (w : (((¬ (x2.toInt64 < 1)) ∧ (¬ (40 < x2.toInt64)) → eb_Ct d 206 [.ref s_MO] (eb_sI h s_MO 0 0) (fun r h4 => r = none ∧ eb_KO h4 ∧ eb_Sn (d + 1) m_X11_night h 34 [(0, .ref s_MO), (2, .int x2), (3, .int 0), (4, .int 0)] [] (eb_sI h4 s_MO 20 x1) Q)) ∧ (¬ ((¬ (x2.toInt64 < 1)) ∧ (¬ (40 < x2.toInt64))) → Q (some (.int (-3))) (eb_sI h s_MO 0 0)))) : eb_Ct (d + 1) 226 [.ref s_MO, .int x1, .int x2] h Q :=
  eb_bodyQ (by decide) ok_X11_night (Nat.le_of_ble_eq_true rfl) (b_X11_night_0 (h0 := h) x1 x2  ko w)
theorem b_X11_laysThen_0 {d : Nat} {h0 h : eb_H} {Q : Option Value → eb_H → Prop} (x1 : Int32)  (ko : eb_KO h) (w : eb_Sn (d + 1) m_X11_laysThen h0 2 [(0, .ref s_MO), (1, .int x1), (2, .int 0)] [] h Q) : eb_Sn (d + 1) m_X11_laysThen h0 0 [(0, .ref s_MO), (1, .int x1)] [] h Q := by
  refine eb_iconst (pc := 0) (n := 0) (v := 0) rfl rfl ?_
  refine eb_istore_n (pc := 1) (n := 2) (i := 2) (ls2 := [(2, .int 0), (0, .ref s_MO), (1, .int x1)]) rfl (Nat.le_of_ble_eq_true rfl) rfl rfl ?_
  exact eb_pick [1, 2, 0] rfl w
theorem b_X11_laysThen_2 {d : Nat} {h0 h : eb_H} {Q : Option Value → eb_H → Prop} (x1 : Int32) (x2 : Int32)  (ko : eb_KO h) (w : ((((64 : Int32) * ((eb_I h s_m_all (1 : Int32).toNatClampNeg) * (eb_I h s_m_all (2 : Int32).toNatClampNeg))) ≤ x2 → Q none h) ∧ (¬ (((64 : Int32) * ((eb_I h s_m_all (1 : Int32).toNatClampNeg) * (eb_I h s_m_all (2 : Int32).toNatClampNeg))) ≤ x2) → eb_Sn (d + 1) m_X11_laysThen h0 15 [(0, .ref s_MO), (1, .int x1), (2, .int x2), (3, .int 0)] [] h Q))) : eb_Sn (d + 1) m_X11_laysThen h0 2 [(0, .ref s_MO), (1, .int x1), (2, .int x2)] [] h Q := by
  refine eb_iload_n (pc := 2) (n := 2) (i := 2) rfl rfl rfl ?_
  refine eb_bipush (pc := 3) (n := 64) (v := 64) rfl rfl ?_
  refine eb_aload_n (pc := 5) (n := 0) (i := 0) rfl rfl rfl ?_
  refine eb_ctV (pc := 6) (As := []) (rest := [.int 64, .int x2]) rfl (by decide) rfl rfl (by decide) rfl (Nat.le_of_ble_eq_true rfl) ?_
  refine eb_bodyQ (by decide) ok_X11_cells (Nat.le_of_ble_eq_true rfl) ?_
  change eb_Sn _ m_X11_cells _ 0 [(0, .ref s_MO)] [] _ _
  refine eb_aload_n (pc := 0) (n := 0) (i := 0) rfl rfl rfl ?_
  refine eb_getR (pc := 1) rfl rfl (by decide) (by decide) rfl (ko_s_MO_1 ko) ?_
  refine eb_iconst (pc := 4) (n := 1) (v := 1) rfl rfl ?_
  refine eb_iaload (pc := 5) rfl rfl (by decide) (by unfold vp_in; decide) ?_
  refine eb_aload_n (pc := 6) (n := 0) (i := 0) rfl rfl rfl ?_
  refine eb_getR (pc := 7) rfl rfl (by decide) (by decide) rfl (ko_s_MO_1 ko) ?_
  refine eb_iconst (pc := 10) (n := 2) (v := 2) rfl rfl ?_
  refine eb_iaload (pc := 11) rfl rfl (by decide) (by unfold vp_in; decide) ?_
  refine eb_imul (pc := 12) rfl ?_
  refine eb_ireturn (pc := 13) rfl rfl rfl ?_
  change eb_Sn _ _ _ 9 _ [.int ((eb_I h s_m_all (1 : Int32).toNatClampNeg) * (eb_I h s_m_all (2 : Int32).toNatClampNeg)), .int 64, .int x2] _ _
  refine eb_imul (pc := 9) rfl ?_
  refine eb_icmp_ge (pc := 10) (tgt := 62) rfl (by decide) (fun c1 => ?_) (fun c1 => ?_)
  · replace w := w.1 c1
    exact eb_return (pc := 62) rfl rfl w
  · replace w := w.2 c1
    refine eb_iconst (pc := 13) (n := 0) (v := 0) rfl rfl ?_
    refine eb_istore_n (pc := 14) (n := 3) (i := 3) (ls2 := [(3, .int 0), (0, .ref s_MO), (1, .int x1), (2, .int x2)]) rfl (Nat.le_of_ble_eq_true rfl) rfl rfl ?_
    exact eb_pick [1, 2, 3, 0] rfl w
theorem b_X11_laysThen_15 {d : Nat} {h0 h : eb_H} {Q : Option Value → eb_H → Prop} (x1 : Int32) (x2 : Int32) (x3 : Int32)  (ko : eb_KO h) (w : (((4 : Int32) ≤ x3 → eb_Sn (d + 1) m_X11_laysThen h0 2 [(0, .ref s_MO), (1, .int x1), (2, .int (x2 + 1))] [] h Q) ∧ (¬ ((4 : Int32) ≤ x3) → eb_Ct d 199 [.ref s_MO, .int x2, .int x3, .int x1] h (fun r h2 => ∃ y3, r = some (.int y3) ∧ eb_KO h2 ∧ ((¬ y3 = 0 → (vp_in (((4 : Int32) * x2) + x3) 4096) ∧ eb_Sn (d + 1) m_X11_laysThen h0 15 [(0, .ref s_MO), (1, .int x1), (2, .int x2), (3, .int (x3 + 1))] [] (eb_sI h2 s_m_then (((4 : Int32) * x2) + x3).toNatClampNeg (-1)) Q) ∧ (y3 = 0 → eb_Ct d 200 [.ref s_MO, .int x2, .int x3] h2 (fun r h7 => ∃ y8, r = some (.int y8) ∧ eb_KO h7 ∧ (vp_in (((4 : Int32) * x2) + x3) 4096) ∧ eb_Sn (d + 1) m_X11_laysThen h0 15 [(0, .ref s_MO), (1, .int x1), (2, .int x2), (3, .int (x3 + 1))] [] (eb_sI h7 s_m_then (((4 : Int32) * x2) + x3).toNatClampNeg y8) Q))))))) : eb_Sn (d + 1) m_X11_laysThen h0 15 [(0, .ref s_MO), (1, .int x1), (2, .int x2), (3, .int x3)] [] h Q := by
  refine eb_iload_n (pc := 15) (n := 3) (i := 3) rfl rfl rfl ?_
  refine eb_iconst (pc := 16) (n := 4) (v := 4) rfl rfl ?_
  refine eb_icmp_ge (pc := 17) (tgt := 56) rfl (by decide) (fun c1 => ?_) (fun c1 => ?_)
  · replace w := w.1 c1
    refine eb_iinc (pc := 56) (i := 2) (n := 1) (v := x2 + 1) (ls2 := [(2, .int (x2 + 1)), (0, .ref s_MO), (1, .int x1), (3, .int x3)]) (Nat.le_of_ble_eq_true rfl) rfl rfl rfl rfl ?_
    refine eb_goto (pc := 59) (tgt := 2) rfl (by decide) ?_
    exact eb_pick [1, 2, 0] rfl w
  · replace w := w.2 c1
    refine eb_aload_n (pc := 20) (n := 0) (i := 0) rfl rfl rfl ?_
    refine eb_getR (pc := 21) rfl rfl (by decide) (by decide) rfl (ko_s_MO_21 ko) ?_
    refine eb_iconst (pc := 24) (n := 4) (v := 4) rfl rfl ?_
    refine eb_iload_n (pc := 25) (n := 2) (i := 2) rfl rfl rfl ?_
    refine eb_imul (pc := 26) rfl ?_
    refine eb_iload_n (pc := 27) (n := 3) (i := 3) rfl rfl rfl ?_
    refine eb_iadd (pc := 28) rfl ?_
    refine eb_aload_n (pc := 29) (n := 0) (i := 0) rfl rfl rfl ?_
    refine eb_iload_n (pc := 30) (n := 2) (i := 2) rfl rfl rfl ?_
    refine eb_iload_n (pc := 31) (n := 3) (i := 3) rfl rfl rfl ?_
    refine eb_iload_n (pc := 32) (n := 1) (i := 1) rfl rfl rfl ?_
    refine eb_ctV (pc := 33) (As := [.int x2, .int x3, .int x1]) (rest := [.int (((4 : Int32) * x2) + x3), .ref s_m_then]) rfl (by decide) rfl rfl (by decide) rfl (Nat.le_of_ble_eq_true rfl) ?_
    refine eb_Ct.mono w ?_
    rintro r h2 ⟨y3, rfl, ko4, w⟩
    change eb_Sn _ _ _ 36 _ [.int y3, .int (((4 : Int32) * x2) + x3), .ref s_m_then] _ _
    refine eb_if_ne (pc := 36) (tgt := 48) rfl (by decide) (fun c5 => ?_) (fun c5 => ?_)
    · replace w := w.1 c5
      refine eb_iconst (pc := 48) (n := -1) (v := (-1)) rfl rfl ?_
      obtain ⟨c6, w⟩ := w
      refine eb_iastore (pc := 49) rfl rfl (by decide) c6 ?_
      refine eb_iinc (pc := 50) (i := 3) (n := 1) (v := x3 + 1) (ls2 := [(3, .int (x3 + 1)), (0, .ref s_MO), (1, .int x1), (2, .int x2)]) (Nat.le_of_ble_eq_true rfl) rfl rfl rfl rfl ?_
      refine eb_goto (pc := 53) (tgt := 15) rfl (by decide) ?_
      exact eb_pick [1, 2, 3, 0] rfl w
    · replace w := w.2 c5
      refine eb_aload_n (pc := 39) (n := 0) (i := 0) rfl rfl rfl ?_
      refine eb_iload_n (pc := 40) (n := 2) (i := 2) rfl rfl rfl ?_
      refine eb_iload_n (pc := 41) (n := 3) (i := 3) rfl rfl rfl ?_
      refine eb_ctV (pc := 42) (As := [.int x2, .int x3]) (rest := [.int (((4 : Int32) * x2) + x3), .ref s_m_then]) rfl (by decide) rfl rfl (by decide) rfl (Nat.le_of_ble_eq_true rfl) ?_
      refine eb_Ct.mono w ?_
      rintro r h7 ⟨y8, rfl, ko9, w⟩
      change eb_Sn _ _ _ 45 _ [.int y8, .int (((4 : Int32) * x2) + x3), .ref s_m_then] _ _
      refine eb_goto (pc := 45) (tgt := 49) rfl (by decide) ?_
      obtain ⟨c10, w⟩ := w
      refine eb_iastore (pc := 49) rfl rfl (by decide) c10 ?_
      refine eb_iinc (pc := 50) (i := 3) (n := 1) (v := x3 + 1) (ls2 := [(3, .int (x3 + 1)), (0, .ref s_MO), (1, .int x1), (2, .int x2)]) (Nat.le_of_ble_eq_true rfl) rfl rfl rfl rfl ?_
      refine eb_goto (pc := 53) (tgt := 15) rfl (by decide) ?_
      exact eb_pick [1, 2, 3, 0] rfl w
theorem T_X11_laysThen {d : Nat} {h : eb_H} {Q : Option Value → eb_H → Prop} (x1 : Int32)  (ko : eb_KO h) (w : eb_Sn (d + 1) m_X11_laysThen h 2 [(0, .ref s_MO), (1, .int x1), (2, .int 0)] [] h Q) : eb_Ct (d + 1) 227 [.ref s_MO, .int x1] h Q :=
  eb_bodyQ (by decide) ok_X11_laysThen (Nat.le_of_ble_eq_true rfl) (b_X11_laysThen_0 (h0 := h) x1  ko w)
theorem b_X11_stands_0 {d : Nat} {h0 h : eb_H} {Q : Option Value → eb_H → Prop}   (ko : eb_KO h) (w : Q (some (.int ((64 : Int32) * ((eb_I h s_m_all (1 : Int32).toNatClampNeg) * (eb_I h s_m_all (2 : Int32).toNatClampNeg))))) h) : eb_Sn (d + 1) m_X11_stands h0 0 [(0, .ref s_MO)] [] h Q := by
  refine eb_bipush (pc := 0) (n := 64) (v := 64) rfl rfl ?_
  refine eb_aload_n (pc := 2) (n := 0) (i := 0) rfl rfl rfl ?_
  refine eb_ctV (pc := 3) (As := []) (rest := [.int 64]) rfl (by decide) rfl rfl (by decide) rfl (Nat.le_of_ble_eq_true rfl) ?_
  refine eb_bodyQ (by decide) ok_X11_cells (Nat.le_of_ble_eq_true rfl) ?_
  change eb_Sn _ m_X11_cells _ 0 [(0, .ref s_MO)] [] _ _
  refine eb_aload_n (pc := 0) (n := 0) (i := 0) rfl rfl rfl ?_
  refine eb_getR (pc := 1) rfl rfl (by decide) (by decide) rfl (ko_s_MO_1 ko) ?_
  refine eb_iconst (pc := 4) (n := 1) (v := 1) rfl rfl ?_
  refine eb_iaload (pc := 5) rfl rfl (by decide) (by unfold vp_in; decide) ?_
  refine eb_aload_n (pc := 6) (n := 0) (i := 0) rfl rfl rfl ?_
  refine eb_getR (pc := 7) rfl rfl (by decide) (by decide) rfl (ko_s_MO_1 ko) ?_
  refine eb_iconst (pc := 10) (n := 2) (v := 2) rfl rfl ?_
  refine eb_iaload (pc := 11) rfl rfl (by decide) (by unfold vp_in; decide) ?_
  refine eb_imul (pc := 12) rfl ?_
  refine eb_ireturn (pc := 13) rfl rfl rfl ?_
  change eb_Sn _ _ _ 6 _ [.int ((eb_I h s_m_all (1 : Int32).toNatClampNeg) * (eb_I h s_m_all (2 : Int32).toNatClampNeg)), .int 64] _ _
  refine eb_imul (pc := 6) rfl ?_
  exact eb_ireturn (pc := 7) rfl rfl rfl w
theorem T_X11_stands {d : Nat} {h : eb_H} {Q : Option Value → eb_H → Prop}   (ko : eb_KO h) (w : Q (some (.int ((64 : Int32) * ((eb_I h s_m_all (1 : Int32).toNatClampNeg) * (eb_I h s_m_all (2 : Int32).toNatClampNeg))))) h) : eb_Ct (d + 1) 228 [.ref s_MO] h Q :=
  eb_bodyQ (by decide) ok_X11_stands (Nat.le_of_ble_eq_true rfl) (b_X11_stands_0 (h0 := h)   ko w)
theorem b_X11_laysReached_0 {d : Nat} {h0 h : eb_H} {Q : Option Value → eb_H → Prop} (x1 : Int32)  (ko : eb_KO h) (w : eb_Ct (d + 1) 227 [.ref s_MO, .int x1] h (fun r h1 => r = none ∧ eb_KO h1 ∧ eb_Sn (d + 2) m_X11_laysReached h0 7 [(0, .ref s_MO), (2, .int 0)] [] h1 Q)) : eb_Sn (d + 2) m_X11_laysReached h0 0 [(0, .ref s_MO), (1, .int x1)] [] h Q := by
  refine eb_aload_n (pc := 0) (n := 0) (i := 0) rfl rfl rfl ?_
  refine eb_iload_n (pc := 1) (n := 1) (i := 1) rfl rfl rfl ?_
  refine eb_ctV (pc := 2) (As := [.int x1]) (rest := []) rfl (by decide) rfl rfl (by decide) rfl (Nat.le_of_ble_eq_true rfl) ?_
  refine eb_Ct.mono w ?_
  rintro r h1 ⟨rfl, ko3, w⟩
  change eb_Sn _ _ _ 5 _ [] _ _
  refine eb_iconst (pc := 5) (n := 0) (v := 0) rfl rfl ?_
  refine eb_istore_n (pc := 6) (n := 2) (i := 2) (ls2 := [(2, .int 0), (0, .ref s_MO), (1, .int x1)]) rfl (Nat.le_of_ble_eq_true rfl) rfl rfl ?_
  exact eb_pick [1, 0] rfl w
theorem b_X11_laysReached_7 {d : Nat} {h0 h : eb_H} {Q : Option Value → eb_H → Prop} (x2 : Int32)  (ko : eb_KO h) (w : (((1024 : Int32) ≤ x2 → eb_Sn (d + 2) m_X11_laysReached h0 41 [(0, .ref s_MO), (2, .int 1)] [] h Q) ∧ (¬ ((1024 : Int32) ≤ x2) → (vp_in x2 1024) ∧ eb_Sn (d + 2) m_X11_laysReached h0 7 [(0, .ref s_MO), (2, .int (x2 + 1))] [] (eb_sI h s_m_reached x2.toNatClampNeg ((eb_q (x2 = (((64 : Int32) * (eb_I h s_m_all (31 : Int32).toNatClampNeg)) + (eb_I h s_m_all (32 : Int32).toNatClampNeg)))) &&& 1)) Q))) : eb_Sn (d + 2) m_X11_laysReached h0 7 [(0, .ref s_MO), (2, .int x2)] [] h Q := by
  refine eb_iload_n (pc := 7) (n := 2) (i := 2) rfl rfl rfl ?_
  refine eb_sipush (pc := 8) (n := 1024) (v := 1024) rfl rfl ?_
  refine eb_icmp_ge (pc := 11) (tgt := 39) rfl (by decide) (fun c1 => ?_) (fun c1 => ?_)
  · replace w := w.1 c1
    refine eb_iconst (pc := 39) (n := 1) (v := 1) rfl rfl ?_
    refine eb_istore_n (pc := 40) (n := 2) (i := 2) (ls2 := [(2, .int 1), (0, .ref s_MO)]) rfl (Nat.le_of_ble_eq_true rfl) rfl rfl ?_
    exact eb_pick [1, 0] rfl w
  · replace w := w.2 c1
    refine eb_aload_n (pc := 14) (n := 0) (i := 0) rfl rfl rfl ?_
    refine eb_getR (pc := 15) rfl rfl (by decide) (by decide) rfl (ko_s_MO_23 ko) ?_
    refine eb_iload_n (pc := 18) (n := 2) (i := 2) rfl rfl rfl ?_
    refine eb_iload_n (pc := 19) (n := 2) (i := 2) rfl rfl rfl ?_
    refine eb_aload_n (pc := 20) (n := 0) (i := 0) rfl rfl rfl ?_
    refine eb_ctV (pc := 21) (As := []) (rest := [.int x2, .int x2, .ref s_m_reached]) rfl (by decide) rfl rfl (by decide) rfl (Nat.le_of_ble_eq_true rfl) ?_
    refine eb_bodyQ (by decide) ok_X11_standNow (Nat.le_of_ble_eq_true rfl) ?_
    change eb_Sn _ m_X11_standNow _ 0 [(0, .ref s_MO)] [] _ _
    refine eb_bipush (pc := 0) (n := 64) (v := 64) rfl rfl ?_
    refine eb_aload_n (pc := 2) (n := 0) (i := 0) rfl rfl rfl ?_
    refine eb_getR (pc := 3) rfl rfl (by decide) (by decide) rfl (ko_s_MO_1 ko) ?_
    refine eb_bipush (pc := 6) (n := 31) (v := 31) rfl rfl ?_
    refine eb_iaload (pc := 8) rfl rfl (by decide) (by unfold vp_in; decide) ?_
    refine eb_imul (pc := 9) rfl ?_
    refine eb_aload_n (pc := 10) (n := 0) (i := 0) rfl rfl rfl ?_
    refine eb_getR (pc := 11) rfl rfl (by decide) (by decide) rfl (ko_s_MO_1 ko) ?_
    refine eb_bipush (pc := 14) (n := 32) (v := 32) rfl rfl ?_
    refine eb_iaload (pc := 16) rfl rfl (by decide) (by unfold vp_in; decide) ?_
    refine eb_iadd (pc := 17) rfl ?_
    refine eb_ireturn (pc := 18) rfl rfl rfl ?_
    change eb_Sn _ _ _ 24 _ [.int (((64 : Int32) * (eb_I h s_m_all (31 : Int32).toNatClampNeg)) + (eb_I h s_m_all (32 : Int32).toNatClampNeg)), .int x2, .int x2, .ref s_m_reached] _ _
    refine eb_joinI (pc2 := 32) (ls2 := [(0, .ref s_MO), (2, .int x2)]) (st2 := [.int x2, .ref s_m_reached]) (v := eb_q (x2 = (((64 : Int32) * (eb_I h s_m_all (31 : Int32).toNatClampNeg)) + (eb_I h s_m_all (32 : Int32).toNatClampNeg)))) ?_ (fun jj3 => ?_)
    · obtain ⟨c5, w⟩ := w
      refine eb_zastore (pc := 32) rfl rfl c5 ?_
      refine eb_iinc (pc := 33) (i := 2) (n := 1) (v := x2 + 1) (ls2 := [(2, .int (x2 + 1)), (0, .ref s_MO)]) (Nat.le_of_ble_eq_true rfl) rfl rfl rfl rfl ?_
      refine eb_goto (pc := 36) (tgt := 7) rfl (by decide) ?_
      exact eb_pick [1, 0] rfl w
    refine eb_icmp_ne (pc := 24) (tgt := 31) rfl (by decide) (fun c2 => ?_) (fun c2 => ?_)
    · refine eb_iconst (pc := 31) (n := 0) (v := 0) rfl rfl ?_
      exact jj3 0 (eb_qf c2).symm
    · refine eb_iconst (pc := 27) (n := 1) (v := 1) rfl rfl ?_
      refine eb_goto (pc := 28) (tgt := 32) rfl (by decide) ?_
      exact jj3 1 (eb_qt c2).symm
theorem b_X11_laysReached_41 {d : Nat} {h0 h : eb_H} {Q : Option Value → eb_H → Prop} (x2 : Int32)  (ko : eb_KO h) (w : ((x2 = 0 → Q none h) ∧ (¬ (x2 = 0) → eb_Sn (d + 2) m_X11_laysReached h0 49 [(0, .ref s_MO), (2, .int 0), (3, .int 0)] [] h Q))) : eb_Sn (d + 2) m_X11_laysReached h0 41 [(0, .ref s_MO), (2, .int x2)] [] h Q := by
  refine eb_iload_n (pc := 41) (n := 2) (i := 2) rfl rfl rfl ?_
  refine eb_if_eq (pc := 42) (tgt := 132) rfl (by decide) (fun c1 => ?_) (fun c1 => ?_)
  · replace w := w.1 c1
    exact eb_return (pc := 132) rfl rfl w
  · replace w := w.2 c1
    refine eb_iconst (pc := 45) (n := 0) (v := 0) rfl rfl ?_
    refine eb_istore_n (pc := 46) (n := 2) (i := 2) (ls2 := [(2, .int 0), (0, .ref s_MO)]) rfl (Nat.le_of_ble_eq_true rfl) rfl rfl ?_
    refine eb_iconst (pc := 47) (n := 0) (v := 0) rfl rfl ?_
    refine eb_istore_n (pc := 48) (n := 3) (i := 3) (ls2 := [(3, .int 0), (2, .int 0), (0, .ref s_MO)]) rfl (Nat.le_of_ble_eq_true rfl) rfl rfl ?_
    exact eb_pick [2, 1, 0] rfl w
theorem b_X11_laysReached_49 {d : Nat} {h0 h : eb_H} {Q : Option Value → eb_H → Prop} (x2 : Int32) (x3 : Int32)  (ko : eb_KO h) (w : ((((64 : Int32) * ((eb_I h s_m_all (1 : Int32).toNatClampNeg) * (eb_I h s_m_all (2 : Int32).toNatClampNeg))) ≤ x3 → eb_Sn (d + 2) m_X11_laysReached h0 41 [(0, .ref s_MO), (2, .int x2)] [] h Q) ∧ (¬ (((64 : Int32) * ((eb_I h s_m_all (1 : Int32).toNatClampNeg) * (eb_I h s_m_all (2 : Int32).toNatClampNeg))) ≤ x3) → eb_Sn (d + 2) m_X11_laysReached h0 60 [(0, .ref s_MO), (2, .int x2), (3, .int x3), (4, .int 0)] [] h Q))) : eb_Sn (d + 2) m_X11_laysReached h0 49 [(0, .ref s_MO), (2, .int x2), (3, .int x3)] [] h Q := by
  refine eb_iload_n (pc := 49) (n := 3) (i := 3) rfl rfl rfl ?_
  refine eb_aload_n (pc := 50) (n := 0) (i := 0) rfl rfl rfl ?_
  refine eb_ctV (pc := 51) (As := []) (rest := [.int x3]) rfl (by decide) rfl rfl (by decide) rfl (Nat.le_of_ble_eq_true rfl) ?_
  refine eb_bodyQ (by decide) ok_X11_stands (Nat.le_of_ble_eq_true rfl) ?_
  change eb_Sn _ m_X11_stands _ 0 [(0, .ref s_MO)] [] _ _
  refine eb_bipush (pc := 0) (n := 64) (v := 64) rfl rfl ?_
  refine eb_aload_n (pc := 2) (n := 0) (i := 0) rfl rfl rfl ?_
  refine eb_ctV (pc := 3) (As := []) (rest := [.int 64]) rfl (by decide) rfl rfl (by decide) rfl (Nat.le_of_ble_eq_true rfl) ?_
  refine eb_bodyQ (by decide) ok_X11_cells (Nat.le_of_ble_eq_true rfl) ?_
  change eb_Sn _ m_X11_cells _ 0 [(0, .ref s_MO)] [] _ _
  refine eb_aload_n (pc := 0) (n := 0) (i := 0) rfl rfl rfl ?_
  refine eb_getR (pc := 1) rfl rfl (by decide) (by decide) rfl (ko_s_MO_1 ko) ?_
  refine eb_iconst (pc := 4) (n := 1) (v := 1) rfl rfl ?_
  refine eb_iaload (pc := 5) rfl rfl (by decide) (by unfold vp_in; decide) ?_
  refine eb_aload_n (pc := 6) (n := 0) (i := 0) rfl rfl rfl ?_
  refine eb_getR (pc := 7) rfl rfl (by decide) (by decide) rfl (ko_s_MO_1 ko) ?_
  refine eb_iconst (pc := 10) (n := 2) (v := 2) rfl rfl ?_
  refine eb_iaload (pc := 11) rfl rfl (by decide) (by unfold vp_in; decide) ?_
  refine eb_imul (pc := 12) rfl ?_
  refine eb_ireturn (pc := 13) rfl rfl rfl ?_
  change eb_Sn _ _ _ 6 _ [.int ((eb_I h s_m_all (1 : Int32).toNatClampNeg) * (eb_I h s_m_all (2 : Int32).toNatClampNeg)), .int 64] _ _
  refine eb_imul (pc := 6) rfl ?_
  refine eb_ireturn (pc := 7) rfl rfl rfl ?_
  change eb_Sn _ _ _ 54 _ [.int ((64 : Int32) * ((eb_I h s_m_all (1 : Int32).toNatClampNeg) * (eb_I h s_m_all (2 : Int32).toNatClampNeg))), .int x3] _ _
  refine eb_icmp_ge (pc := 54) (tgt := 129) rfl (by decide) (fun c1 => ?_) (fun c1 => ?_)
  · replace w := w.1 c1
    refine eb_goto (pc := 129) (tgt := 41) rfl (by decide) ?_
    exact eb_pick [0, 1] rfl w
  · replace w := w.2 c1
    refine eb_iconst (pc := 57) (n := 0) (v := 0) rfl rfl ?_
    refine eb_istore (pc := 58) (i := 4) (ls2 := [(4, .int 0), (0, .ref s_MO), (2, .int x2), (3, .int x3)]) (Nat.le_of_ble_eq_true rfl) rfl rfl ?_
    exact eb_pick [1, 2, 3, 0] rfl w
theorem b_X11_laysReached_60 {d : Nat} {h0 h : eb_H} {Q : Option Value → eb_H → Prop} (x2 : Int32) (x3 : Int32) (x4 : Int32)  (ko : eb_KO h) (w : (((4 : Int32) ≤ x4 → eb_Sn (d + 2) m_X11_laysReached h0 49 [(0, .ref s_MO), (2, .int x2), (3, .int (x3 + 1))] [] h Q) ∧ (¬ ((4 : Int32) ≤ x4) → (vp_in x3 1024) ∧ (((eb_I h s_m_reached x3.toNatClampNeg) = 0 → eb_Sn (d + 2) m_X11_laysReached h0 49 [(0, .ref s_MO), (2, .int x2), (3, .int (x3 + 1))] [] h Q) ∧ (¬ ((eb_I h s_m_reached x3.toNatClampNeg) = 0) → (vp_in (((4 : Int32) * x3) + x4) 4096) ∧ (((eb_I h s_m_then (((4 : Int32) * x3) + x4).toNatClampNeg) = ((-1) : Int32) → eb_Sn (d + 2) m_X11_laysReached h0 60 [(0, .ref s_MO), (2, .int x2), (3, .int x3), (4, .int (x4 + 1))] [] h Q) ∧ (¬ ((eb_I h s_m_then (((4 : Int32) * x3) + x4).toNatClampNeg) = ((-1) : Int32)) → (vp_in (eb_I h s_m_then (((4 : Int32) * x3) + x4).toNatClampNeg) 1024) ∧ (((eb_I h s_m_reached (eb_I h s_m_then (((4 : Int32) * x3) + x4).toNatClampNeg).toNatClampNeg) = 0 → (vp_in (eb_I h s_m_then (((4 : Int32) * x3) + x4).toNatClampNeg) 1024) ∧ eb_Sn (d + 2) m_X11_laysReached h0 60 [(0, .ref s_MO), (2, .int 1), (3, .int x3), (4, .int (x4 + 1))] [] (eb_sI h s_m_reached (eb_I h s_m_then (((4 : Int32) * x3) + x4).toNatClampNeg).toNatClampNeg ((1 : Int32) &&& 1)) Q) ∧ (¬ ((eb_I h s_m_reached (eb_I h s_m_then (((4 : Int32) * x3) + x4).toNatClampNeg).toNatClampNeg) = 0) → eb_Sn (d + 2) m_X11_laysReached h0 60 [(0, .ref s_MO), (2, .int x2), (3, .int x3), (4, .int (x4 + 1))] [] h Q))))))))) : eb_Sn (d + 2) m_X11_laysReached h0 60 [(0, .ref s_MO), (2, .int x2), (3, .int x3), (4, .int x4)] [] h Q := by
  refine eb_iload (pc := 60) (i := 4) rfl rfl ?_
  refine eb_iconst (pc := 62) (n := 4) (v := 4) rfl rfl ?_
  refine eb_icmp_ge (pc := 63) (tgt := 123) rfl (by decide) (fun c1 => ?_) (fun c1 => ?_)
  · replace w := w.1 c1
    refine eb_iinc (pc := 123) (i := 3) (n := 1) (v := x3 + 1) (ls2 := [(3, .int (x3 + 1)), (0, .ref s_MO), (2, .int x2), (4, .int x4)]) (Nat.le_of_ble_eq_true rfl) rfl rfl rfl rfl ?_
    refine eb_goto (pc := 126) (tgt := 49) rfl (by decide) ?_
    exact eb_pick [1, 2, 0] rfl w
  · replace w := w.2 c1
    refine eb_aload_n (pc := 66) (n := 0) (i := 0) rfl rfl rfl ?_
    refine eb_getR (pc := 67) rfl rfl (by decide) (by decide) rfl (ko_s_MO_23 ko) ?_
    refine eb_iload_n (pc := 70) (n := 3) (i := 3) rfl rfl rfl ?_
    obtain ⟨c2, w⟩ := w
    refine eb_zaload (pc := 71) rfl rfl c2 ?_
    refine eb_if_eq (pc := 72) (tgt := 123) rfl (by decide) (fun c3 => ?_) (fun c3 => ?_)
    · replace w := w.1 c3
      refine eb_iinc (pc := 123) (i := 3) (n := 1) (v := x3 + 1) (ls2 := [(3, .int (x3 + 1)), (0, .ref s_MO), (2, .int x2), (4, .int x4)]) (Nat.le_of_ble_eq_true rfl) rfl rfl rfl rfl ?_
      refine eb_goto (pc := 126) (tgt := 49) rfl (by decide) ?_
      exact eb_pick [1, 2, 0] rfl w
    · replace w := w.2 c3
      refine eb_aload_n (pc := 75) (n := 0) (i := 0) rfl rfl rfl ?_
      refine eb_getR (pc := 76) rfl rfl (by decide) (by decide) rfl (ko_s_MO_21 ko) ?_
      refine eb_iconst (pc := 79) (n := 4) (v := 4) rfl rfl ?_
      refine eb_iload_n (pc := 80) (n := 3) (i := 3) rfl rfl rfl ?_
      refine eb_imul (pc := 81) rfl ?_
      refine eb_iload (pc := 82) (i := 4) rfl rfl ?_
      refine eb_iadd (pc := 84) rfl ?_
      obtain ⟨c4, w⟩ := w
      refine eb_iaload (pc := 85) rfl rfl (by decide) c4 ?_
      refine eb_istore (pc := 86) (i := 5) (ls2 := [(5, .int (eb_I h s_m_then (((4 : Int32) * x3) + x4).toNatClampNeg)), (0, .ref s_MO), (2, .int x2), (3, .int x3), (4, .int x4)]) (Nat.le_of_ble_eq_true rfl) rfl rfl ?_
      refine eb_iload (pc := 88) (i := 5) rfl rfl ?_
      refine eb_iconst (pc := 90) (n := -1) (v := (-1)) rfl rfl ?_
      refine eb_icmp_eq (pc := 91) (tgt := 117) rfl (by decide) (fun c5 => ?_) (fun c5 => ?_)
      · replace w := w.1 c5
        refine eb_iinc (pc := 117) (i := 4) (n := 1) (v := x4 + 1) (ls2 := [(4, .int (x4 + 1)), (5, .int (eb_I h s_m_then (((4 : Int32) * x3) + x4).toNatClampNeg)), (0, .ref s_MO), (2, .int x2), (3, .int x3)]) (Nat.le_of_ble_eq_true rfl) rfl rfl rfl rfl ?_
        refine eb_goto (pc := 120) (tgt := 60) rfl (by decide) ?_
        exact eb_pick [2, 3, 4, 0] rfl w
      · replace w := w.2 c5
        refine eb_aload_n (pc := 94) (n := 0) (i := 0) rfl rfl rfl ?_
        refine eb_getR (pc := 95) rfl rfl (by decide) (by decide) rfl (ko_s_MO_23 ko) ?_
        refine eb_iload (pc := 98) (i := 5) rfl rfl ?_
        obtain ⟨c6, w⟩ := w
        refine eb_zaload (pc := 100) rfl rfl c6 ?_
        refine eb_if_eq (pc := 101) (tgt := 107) rfl (by decide) (fun c7 => ?_) (fun c7 => ?_)
        · replace w := w.1 c7
          refine eb_aload_n (pc := 107) (n := 0) (i := 0) rfl rfl rfl ?_
          refine eb_getR (pc := 108) rfl rfl (by decide) (by decide) rfl (ko_s_MO_23 ko) ?_
          refine eb_iload (pc := 111) (i := 5) rfl rfl ?_
          refine eb_iconst (pc := 113) (n := 1) (v := 1) rfl rfl ?_
          obtain ⟨c8, w⟩ := w
          refine eb_zastore (pc := 114) rfl rfl c8 ?_
          refine eb_iconst (pc := 115) (n := 1) (v := 1) rfl rfl ?_
          refine eb_istore_n (pc := 116) (n := 2) (i := 2) (ls2 := [(2, .int 1), (5, .int (eb_I h s_m_then (((4 : Int32) * x3) + x4).toNatClampNeg)), (0, .ref s_MO), (3, .int x3), (4, .int x4)]) rfl (Nat.le_of_ble_eq_true rfl) rfl rfl ?_
          refine eb_iinc (pc := 117) (i := 4) (n := 1) (v := x4 + 1) (ls2 := [(4, .int (x4 + 1)), (2, .int 1), (5, .int (eb_I h s_m_then (((4 : Int32) * x3) + x4).toNatClampNeg)), (0, .ref s_MO), (3, .int x3)]) (Nat.le_of_ble_eq_true rfl) rfl rfl rfl rfl ?_
          refine eb_goto (pc := 120) (tgt := 60) rfl (by decide) ?_
          exact eb_pick [3, 1, 4, 0] rfl w
        · replace w := w.2 c7
          refine eb_goto (pc := 104) (tgt := 117) rfl (by decide) ?_
          refine eb_iinc (pc := 117) (i := 4) (n := 1) (v := x4 + 1) (ls2 := [(4, .int (x4 + 1)), (5, .int (eb_I h s_m_then (((4 : Int32) * x3) + x4).toNatClampNeg)), (0, .ref s_MO), (2, .int x2), (3, .int x3)]) (Nat.le_of_ble_eq_true rfl) rfl rfl rfl rfl ?_
          refine eb_goto (pc := 120) (tgt := 60) rfl (by decide) ?_
          exact eb_pick [2, 3, 4, 0] rfl w
theorem T_X11_laysReached {d : Nat} {h : eb_H} {Q : Option Value → eb_H → Prop} (x1 : Int32)  (ko : eb_KO h) (w : eb_Ct (d + 1) 227 [.ref s_MO, .int x1] h (fun r h1 => r = none ∧ eb_KO h1 ∧ eb_Sn (d + 2) m_X11_laysReached h 7 [(0, .ref s_MO), (2, .int 0)] [] h1 Q)) : eb_Ct (d + 2) 229 [.ref s_MO, .int x1] h Q :=
  eb_bodyQ (by decide) ok_X11_laysReached (Nat.le_of_ble_eq_true rfl) (b_X11_laysReached_0 (h0 := h) x1  ko w)
