theorem b_X11_cameBy_0 {d : Nat} {h0 h : eb_H} {Q : Option Value → eb_H → Prop} (x1 : Int32) (x2 : Int32) (x3 : Int32) (x4 : Int32)  (ko : eb_KO h) (w : eb_Ct d 249 [.ref s_MO, .int x1, .int x2, .int x3] (eb_sI h s_MO 0 0) (fun r h1 => ∃ y2, r = some (.int y2) ∧ eb_KO h1 ∧ ((y2 = 0 → ((0 ≤ x4 → eb_Ct d 250 [.ref s_MO, .int x1, .int x2, .int x3, .int (-1)] h1 (fun r h6 => ∃ y7, r = some (.long y7) ∧ eb_KO h6 ∧ ((y7 = 0 → Q (some (.int (-1))) h6) ∧ (¬ (y7 = 0) → ((x4 < x1 → eb_Sn (d + 1) m_X11_cameBy h0 60 [(0, .ref s_MO), (1, .int x1), (4, .int x4), (6, .int (((64 : Int32) * (eb_I h6 s_m_all (31 : Int32).toNatClampNeg)) + (eb_I h6 s_m_all (32 : Int32).toNatClampNeg))), (7, .int 0)] [] h6 Q) ∧ (¬ (x4 < x1) → Q (some (.int (-1))) h6)))))) ∧ (¬ (0 ≤ x4) → Q (some (.int (-3))) h1))) ∧ (¬ (y2 = 0) → Q (some (.int y2)) h1)))) : eb_Sn (d + 1) m_X11_cameBy h0 0 [(0, .ref s_MO), (1, .int x1), (2, .int x2), (3, .int x3), (4, .int x4)] [] h Q := by
  refine eb_aload_n (pc := 0) (n := 0) (i := 0) rfl rfl rfl ?_
  refine eb_iconst (pc := 1) (n := 0) (v := 0) rfl rfl ?_
  refine eb_putI (pc := 2) rfl rfl (by decide) (by decide) rfl rfl ⟨rfl, rfl⟩ ?_
  refine eb_aload_n (pc := 5) (n := 0) (i := 0) rfl rfl rfl ?_
  refine eb_iload_n (pc := 6) (n := 1) (i := 1) rfl rfl rfl ?_
  refine eb_iload_n (pc := 7) (n := 2) (i := 2) rfl rfl rfl ?_
  refine eb_iload_n (pc := 8) (n := 3) (i := 3) rfl rfl rfl ?_
  refine eb_ctV (pc := 9) (As := [.int x1, .int x2, .int x3]) (rest := []) rfl (by decide) rfl rfl (by decide) rfl (Nat.le_of_ble_eq_true rfl) ?_
  refine eb_Ct.mono w ?_
  rintro r h1 ⟨y2, rfl, ko3, w⟩
  change eb_Sn _ _ _ 12 _ [.int y2] _ _
  refine eb_istore (pc := 12) (i := 5) (ls2 := [(5, .int y2), (0, .ref s_MO), (1, .int x1), (2, .int x2), (3, .int x3), (4, .int x4)]) (Nat.le_of_ble_eq_true rfl) rfl rfl ?_
  refine eb_iload (pc := 14) (i := 5) rfl rfl ?_
  refine eb_if_eq (pc := 16) (tgt := 22) rfl (by decide) (fun c4 => ?_) (fun c4 => ?_)
  · replace w := w.1 c4
    refine eb_iload (pc := 22) (i := 4) rfl rfl ?_
    refine eb_if_ge (pc := 24) (tgt := 30) rfl (by decide) (fun c5 => ?_) (fun c5 => ?_)
    · replace w := w.1 c5
      refine eb_aload_n (pc := 30) (n := 0) (i := 0) rfl rfl rfl ?_
      refine eb_iload_n (pc := 31) (n := 1) (i := 1) rfl rfl rfl ?_
      refine eb_iload_n (pc := 32) (n := 2) (i := 2) rfl rfl rfl ?_
      refine eb_iload_n (pc := 33) (n := 3) (i := 3) rfl rfl rfl ?_
      refine eb_iconst (pc := 34) (n := -1) (v := (-1)) rfl rfl ?_
      refine eb_ctV (pc := 35) (As := [.int x1, .int x2, .int x3, .int (-1)]) (rest := []) rfl (by decide) rfl rfl (by decide) rfl (Nat.le_of_ble_eq_true rfl) ?_
      refine eb_Ct.mono w ?_
      rintro r h6 ⟨y7, rfl, ko8, w⟩
      change eb_Sn _ _ _ 38 _ [.long y7] _ _
      refine eb_lconst (pc := 38) (n := 0) (v := 0) rfl rfl ?_
      refine eb_lcmp (pc := 39) rfl ?_
      refine eb_if_eq (pc := 40) (tgt := 49) rfl (by decide) (fun c9 => ?_) (fun c9 => ?_)
      · replace c9 := eb_lc_eq.mp c9
        replace w := w.1 c9
        refine eb_iconst (pc := 49) (n := -1) (v := (-1)) rfl rfl ?_
        exact eb_ireturn (pc := 50) rfl rfl rfl w
      · replace c9 := (fun hh => mt eb_lc_eq.mpr hh) c9
        replace w := w.2 c9
        refine eb_iload (pc := 43) (i := 4) rfl rfl ?_
        refine eb_iload_n (pc := 45) (n := 1) (i := 1) rfl rfl rfl ?_
        refine eb_icmp_lt (pc := 46) (tgt := 51) rfl (by decide) (fun c10 => ?_) (fun c10 => ?_)
        · replace w := w.1 c10
          refine eb_aload_n (pc := 51) (n := 0) (i := 0) rfl rfl rfl ?_
          refine eb_ctV (pc := 52) (As := []) (rest := []) rfl (by decide) rfl rfl (by decide) rfl (Nat.le_of_ble_eq_true rfl) ?_
          refine eb_bodyQ (by decide) ok_X11_standNow (Nat.le_of_ble_eq_true rfl) ?_
          change eb_Sn _ m_X11_standNow _ 0 [(0, .ref s_MO)] [] _ _
          refine eb_bipush (pc := 0) (n := 64) (v := 64) rfl rfl ?_
          refine eb_aload_n (pc := 2) (n := 0) (i := 0) rfl rfl rfl ?_
          refine eb_getR (pc := 3) rfl rfl (by decide) (by decide) rfl (ko_s_MO_1 ko8) ?_
          refine eb_bipush (pc := 6) (n := 31) (v := 31) rfl rfl ?_
          refine eb_iaload (pc := 8) rfl rfl (by decide) (by unfold vp_in; decide) ?_
          refine eb_imul (pc := 9) rfl ?_
          refine eb_aload_n (pc := 10) (n := 0) (i := 0) rfl rfl rfl ?_
          refine eb_getR (pc := 11) rfl rfl (by decide) (by decide) rfl (ko_s_MO_1 ko8) ?_
          refine eb_bipush (pc := 14) (n := 32) (v := 32) rfl rfl ?_
          refine eb_iaload (pc := 16) rfl rfl (by decide) (by unfold vp_in; decide) ?_
          refine eb_iadd (pc := 17) rfl ?_
          refine eb_ireturn (pc := 18) rfl rfl rfl ?_
          change eb_Sn _ _ _ 55 _ [.int (((64 : Int32) * (eb_I h6 s_m_all (31 : Int32).toNatClampNeg)) + (eb_I h6 s_m_all (32 : Int32).toNatClampNeg))] _ _
          refine eb_istore (pc := 55) (i := 6) (ls2 := [(6, .int (((64 : Int32) * (eb_I h6 s_m_all (31 : Int32).toNatClampNeg)) + (eb_I h6 s_m_all (32 : Int32).toNatClampNeg))), (5, .int y2), (0, .ref s_MO), (1, .int x1), (2, .int x2), (3, .int x3), (4, .int x4)]) (Nat.le_of_ble_eq_true rfl) rfl rfl ?_
          refine eb_iconst (pc := 57) (n := 0) (v := 0) rfl rfl ?_
          refine eb_istore (pc := 58) (i := 7) (ls2 := [(7, .int 0), (6, .int (((64 : Int32) * (eb_I h6 s_m_all (31 : Int32).toNatClampNeg)) + (eb_I h6 s_m_all (32 : Int32).toNatClampNeg))), (5, .int y2), (0, .ref s_MO), (1, .int x1), (2, .int x2), (3, .int x3), (4, .int x4)]) (Nat.le_of_ble_eq_true rfl) rfl rfl ?_
          exact eb_pick [3, 4, 7, 1, 0] rfl w
        · replace w := w.2 c10
          refine eb_iconst (pc := 49) (n := -1) (v := (-1)) rfl rfl ?_
          exact eb_ireturn (pc := 50) rfl rfl rfl w
    · replace w := w.2 c5
      refine eb_bipush (pc := 27) (n := -3) (v := (-3)) rfl rfl ?_
      exact eb_ireturn (pc := 29) rfl rfl rfl w
  · replace w := w.2 c4
    refine eb_iload (pc := 19) (i := 5) rfl rfl ?_
    exact eb_ireturn (pc := 21) rfl rfl rfl w
theorem b_X11_cameBy_60 {d : Nat} {h0 h : eb_H} {Q : Option Value → eb_H → Prop} (x1 : Int32) (x4 : Int32) (x6 : Int32) (x7 : Int32)  (ko : eb_KO h) (w : eb_Sn (d + 1) m_X11_cameBy h0 63 [(0, .ref s_MO), (1, .int x1), (4, .int x4), (6, .int x6), (7, .int x7), (8, .int 0)] [] h Q) : eb_Sn (d + 1) m_X11_cameBy h0 60 [(0, .ref s_MO), (1, .int x1), (4, .int x4), (6, .int x6), (7, .int x7)] [] h Q := by
  refine eb_iconst (pc := 60) (n := 0) (v := 0) rfl rfl ?_
  refine eb_istore (pc := 61) (i := 8) (ls2 := [(8, .int 0), (0, .ref s_MO), (1, .int x1), (4, .int x4), (6, .int x6), (7, .int x7)]) (Nat.le_of_ble_eq_true rfl) rfl rfl ?_
  exact eb_pick [1, 2, 3, 4, 5, 0] rfl w
theorem b_X11_cameBy_63 {d : Nat} {h0 h : eb_H} {Q : Option Value → eb_H → Prop} (x1 : Int32) (x4 : Int32) (x6 : Int32) (x7 : Int32) (x8 : Int32)  (ko : eb_KO h) (w : (vp_in (((4 : Int32) * x6) + x8) 4096) ∧ (((eb_I h s_m_then (((4 : Int32) * x6) + x8).toNatClampNeg) = ((-1) : Int32) → eb_Sn (d + 1) m_X11_cameBy h0 63 [(0, .ref s_MO), (1, .int x1), (4, .int x4), (6, .int x6), (7, .int x7), (8, .int (x8 + 1))] [] h Q) ∧ (¬ ((eb_I h s_m_then (((4 : Int32) * x6) + x8).toNatClampNeg) = ((-1) : Int32)) → (vp_in (((4 : Int32) * x6) + x8) 4096) ∧ (vp_in (((1024 : Int32) * ((x1 - x7) - 1)) + (eb_I h s_m_then (((4 : Int32) * x6) + x8).toNatClampNeg)) 11264) ∧ ((¬ (eb_J h s_m_still (((1024 : Int32) * ((x1 - x7) - 1)) + (eb_I h s_m_then (((4 : Int32) * x6) + x8).toNatClampNeg)).toNatClampNeg) = 0 → ((¬ x7 = x4 → (vp_in (((4 : Int32) * x6) + x8) 4096) ∧ eb_Sn (d + 1) m_X11_cameBy h0 60 [(0, .ref s_MO), (1, .int x1), (4, .int x4), (6, .int (eb_I h s_m_then (((4 : Int32) * x6) + x8).toNatClampNeg)), (7, .int (x7 + 1))] [] h Q) ∧ (x7 = x4 → Q (some (.int x8)) h))) ∧ ((eb_J h s_m_still (((1024 : Int32) * ((x1 - x7) - 1)) + (eb_I h s_m_then (((4 : Int32) * x6) + x8).toNatClampNeg)).toNatClampNeg) = 0 → eb_Sn (d + 1) m_X11_cameBy h0 63 [(0, .ref s_MO), (1, .int x1), (4, .int x4), (6, .int x6), (7, .int x7), (8, .int (x8 + 1))] [] h Q))))) : eb_Sn (d + 1) m_X11_cameBy h0 63 [(0, .ref s_MO), (1, .int x1), (4, .int x4), (6, .int x6), (7, .int x7), (8, .int x8)] [] h Q := by
  refine eb_aload_n (pc := 63) (n := 0) (i := 0) rfl rfl rfl ?_
  refine eb_getR (pc := 64) rfl rfl (by decide) (by decide) rfl (ko_s_MO_21 ko) ?_
  refine eb_iconst (pc := 67) (n := 4) (v := 4) rfl rfl ?_
  refine eb_iload (pc := 68) (i := 6) rfl rfl ?_
  refine eb_imul (pc := 70) rfl ?_
  refine eb_iload (pc := 71) (i := 8) rfl rfl ?_
  refine eb_iadd (pc := 73) rfl ?_
  obtain ⟨c1, w⟩ := w
  refine eb_iaload (pc := 74) rfl rfl (by decide) c1 ?_
  refine eb_iconst (pc := 75) (n := -1) (v := (-1)) rfl rfl ?_
  refine eb_icmp_eq (pc := 76) (tgt := 112) rfl (by decide) (fun c2 => ?_) (fun c2 => ?_)
  · replace w := w.1 c2
    refine eb_iinc (pc := 112) (i := 8) (n := 1) (v := x8 + 1) (ls2 := [(8, .int (x8 + 1)), (0, .ref s_MO), (1, .int x1), (4, .int x4), (6, .int x6), (7, .int x7)]) (Nat.le_of_ble_eq_true rfl) rfl rfl rfl rfl ?_
    refine eb_goto (pc := 115) (tgt := 63) rfl (by decide) ?_
    exact eb_pick [1, 2, 3, 4, 5, 0] rfl w
  · replace w := w.2 c2
    refine eb_aload_n (pc := 79) (n := 0) (i := 0) rfl rfl rfl ?_
    refine eb_getR (pc := 80) rfl rfl (by decide) (by decide) rfl (ko_s_MO_26 ko) ?_
    refine eb_sipush (pc := 83) (n := 1024) (v := 1024) rfl rfl ?_
    refine eb_iload_n (pc := 86) (n := 1) (i := 1) rfl rfl rfl ?_
    refine eb_iload (pc := 87) (i := 7) rfl rfl ?_
    refine eb_isub (pc := 89) rfl ?_
    refine eb_iconst (pc := 90) (n := 1) (v := 1) rfl rfl ?_
    refine eb_isub (pc := 91) rfl ?_
    refine eb_imul (pc := 92) rfl ?_
    refine eb_aload_n (pc := 93) (n := 0) (i := 0) rfl rfl rfl ?_
    refine eb_getR (pc := 94) rfl rfl (by decide) (by decide) rfl (ko_s_MO_21 ko) ?_
    refine eb_iconst (pc := 97) (n := 4) (v := 4) rfl rfl ?_
    refine eb_iload (pc := 98) (i := 6) rfl rfl ?_
    refine eb_imul (pc := 100) rfl ?_
    refine eb_iload (pc := 101) (i := 8) rfl rfl ?_
    refine eb_iadd (pc := 103) rfl ?_
    obtain ⟨c3, w⟩ := w
    refine eb_iaload (pc := 104) rfl rfl (by decide) c3 ?_
    refine eb_iadd (pc := 105) rfl ?_
    obtain ⟨c4, w⟩ := w
    refine eb_laload (pc := 106) rfl rfl c4 ?_
    refine eb_lconst (pc := 107) (n := 0) (v := 0) rfl rfl ?_
    refine eb_lcmp (pc := 108) rfl ?_
    refine eb_if_ne (pc := 109) (tgt := 118) rfl (by decide) (fun c5 => ?_) (fun c5 => ?_)
    · replace c5 := eb_lc_ne.mp c5
      replace w := w.1 c5
      refine eb_iload (pc := 118) (i := 7) rfl rfl ?_
      refine eb_iload (pc := 120) (i := 4) rfl rfl ?_
      refine eb_icmp_ne (pc := 122) (tgt := 128) rfl (by decide) (fun c6 => ?_) (fun c6 => ?_)
      · replace w := w.1 c6
        refine eb_aload_n (pc := 128) (n := 0) (i := 0) rfl rfl rfl ?_
        refine eb_getR (pc := 129) rfl rfl (by decide) (by decide) rfl (ko_s_MO_21 ko) ?_
        refine eb_iconst (pc := 132) (n := 4) (v := 4) rfl rfl ?_
        refine eb_iload (pc := 133) (i := 6) rfl rfl ?_
        refine eb_imul (pc := 135) rfl ?_
        refine eb_iload (pc := 136) (i := 8) rfl rfl ?_
        refine eb_iadd (pc := 138) rfl ?_
        obtain ⟨c7, w⟩ := w
        refine eb_iaload (pc := 139) rfl rfl (by decide) c7 ?_
        refine eb_istore (pc := 140) (i := 6) (ls2 := [(6, .int (eb_I h s_m_then (((4 : Int32) * x6) + x8).toNatClampNeg)), (0, .ref s_MO), (1, .int x1), (4, .int x4), (7, .int x7), (8, .int x8)]) (Nat.le_of_ble_eq_true rfl) rfl rfl ?_
        refine eb_iinc (pc := 142) (i := 7) (n := 1) (v := x7 + 1) (ls2 := [(7, .int (x7 + 1)), (6, .int (eb_I h s_m_then (((4 : Int32) * x6) + x8).toNatClampNeg)), (0, .ref s_MO), (1, .int x1), (4, .int x4), (8, .int x8)]) (Nat.le_of_ble_eq_true rfl) rfl rfl rfl rfl ?_
        refine eb_goto (pc := 145) (tgt := 60) rfl (by decide) ?_
        exact eb_pick [2, 3, 4, 1, 0] rfl w
      · replace w := w.2 c6
        refine eb_iload (pc := 125) (i := 8) rfl rfl ?_
        exact eb_ireturn (pc := 127) rfl rfl rfl w
    · replace c5 := eb_lc_eq.mp c5
      replace w := w.2 c5
      refine eb_iinc (pc := 112) (i := 8) (n := 1) (v := x8 + 1) (ls2 := [(8, .int (x8 + 1)), (0, .ref s_MO), (1, .int x1), (4, .int x4), (6, .int x6), (7, .int x7)]) (Nat.le_of_ble_eq_true rfl) rfl rfl rfl rfl ?_
      refine eb_goto (pc := 115) (tgt := 63) rfl (by decide) ?_
      exact eb_pick [1, 2, 3, 4, 5, 0] rfl w
theorem T_X11_cameBy {d : Nat} {h : eb_H} {Q : Option Value → eb_H → Prop} (x1 : Int32) (x2 : Int32) (x3 : Int32) (x4 : Int32)  (ko : eb_KO h) (w : eb_Ct d 249 [.ref s_MO, .int x1, .int x2, .int x3] (eb_sI h s_MO 0 0) (fun r h1 => ∃ y2, r = some (.int y2) ∧ eb_KO h1 ∧ ((y2 = 0 → ((0 ≤ x4 → eb_Ct d 250 [.ref s_MO, .int x1, .int x2, .int x3, .int (-1)] h1 (fun r h6 => ∃ y7, r = some (.long y7) ∧ eb_KO h6 ∧ ((y7 = 0 → Q (some (.int (-1))) h6) ∧ (¬ (y7 = 0) → ((x4 < x1 → eb_Sn (d + 1) m_X11_cameBy h 60 [(0, .ref s_MO), (1, .int x1), (4, .int x4), (6, .int (((64 : Int32) * (eb_I h6 s_m_all (31 : Int32).toNatClampNeg)) + (eb_I h6 s_m_all (32 : Int32).toNatClampNeg))), (7, .int 0)] [] h6 Q) ∧ (¬ (x4 < x1) → Q (some (.int (-1))) h6)))))) ∧ (¬ (0 ≤ x4) → Q (some (.int (-3))) h1))) ∧ (¬ (y2 = 0) → Q (some (.int y2)) h1)))) : eb_Ct (d + 1) 252 [.ref s_MO, .int x1, .int x2, .int x3, .int x4] h Q :=
  eb_bodyQ (by decide) ok_X11_cameBy (Nat.le_of_ble_eq_true rfl) (b_X11_cameBy_0 (h0 := h) x1 x2 x3 x4  ko w)
theorem b_X11_surely_0 {d : Nat} {h0 h : eb_H} {Q : Option Value → eb_H → Prop} (x1 : Int32) (x2 : Int32) (x3 : Int32)  (ko : eb_KO h) (w : eb_Ct d 249 [.ref s_MO, .int x1, .int x2, .int x3] (eb_sI h s_MO 0 0) (fun r h1 => ∃ y2, r = some (.int y2) ∧ eb_KO h1 ∧ ((y2 = 0 → eb_Ct d 250 [.ref s_MO, .int x1, .int x2, .int x3, .int (-1)] h1 (fun r h5 => ∃ y6, r = some (.long y6) ∧ eb_KO h5 ∧ ((¬ y6 = 0 → eb_Sn (d + 1) m_X11_surely h0 44 [(0, .ref s_MO), (1, .int x1), (2, .int x2), (3, .int x3), (5, .int 0), (6, .int 0)] [] h5 Q) ∧ (y6 = 0 → Q (some (.int 0)) h5)))) ∧ (¬ (y2 = 0) → Q (some (.int y2)) h1)))) : eb_Sn (d + 1) m_X11_surely h0 0 [(0, .ref s_MO), (1, .int x1), (2, .int x2), (3, .int x3)] [] h Q := by
  refine eb_aload_n (pc := 0) (n := 0) (i := 0) rfl rfl rfl ?_
  refine eb_iconst (pc := 1) (n := 0) (v := 0) rfl rfl ?_
  refine eb_putI (pc := 2) rfl rfl (by decide) (by decide) rfl rfl ⟨rfl, rfl⟩ ?_
  refine eb_aload_n (pc := 5) (n := 0) (i := 0) rfl rfl rfl ?_
  refine eb_iload_n (pc := 6) (n := 1) (i := 1) rfl rfl rfl ?_
  refine eb_iload_n (pc := 7) (n := 2) (i := 2) rfl rfl rfl ?_
  refine eb_iload_n (pc := 8) (n := 3) (i := 3) rfl rfl rfl ?_
  refine eb_ctV (pc := 9) (As := [.int x1, .int x2, .int x3]) (rest := []) rfl (by decide) rfl rfl (by decide) rfl (Nat.le_of_ble_eq_true rfl) ?_
  refine eb_Ct.mono w ?_
  rintro r h1 ⟨y2, rfl, ko3, w⟩
  change eb_Sn _ _ _ 12 _ [.int y2] _ _
  refine eb_istore (pc := 12) (i := 4) (ls2 := [(4, .int y2), (0, .ref s_MO), (1, .int x1), (2, .int x2), (3, .int x3)]) (Nat.le_of_ble_eq_true rfl) rfl rfl ?_
  refine eb_iload (pc := 14) (i := 4) rfl rfl ?_
  refine eb_if_eq (pc := 16) (tgt := 22) rfl (by decide) (fun c4 => ?_) (fun c4 => ?_)
  · replace w := w.1 c4
    refine eb_iconst (pc := 22) (n := 0) (v := 0) rfl rfl ?_
    refine eb_istore (pc := 23) (i := 5) (ls2 := [(5, .int 0), (4, .int y2), (0, .ref s_MO), (1, .int x1), (2, .int x2), (3, .int x3)]) (Nat.le_of_ble_eq_true rfl) rfl rfl ?_
    refine eb_aload_n (pc := 25) (n := 0) (i := 0) rfl rfl rfl ?_
    refine eb_iload_n (pc := 26) (n := 1) (i := 1) rfl rfl rfl ?_
    refine eb_iload_n (pc := 27) (n := 2) (i := 2) rfl rfl rfl ?_
    refine eb_iload_n (pc := 28) (n := 3) (i := 3) rfl rfl rfl ?_
    refine eb_iconst (pc := 29) (n := -1) (v := (-1)) rfl rfl ?_
    refine eb_ctV (pc := 30) (As := [.int x1, .int x2, .int x3, .int (-1)]) (rest := []) rfl (by decide) rfl rfl (by decide) rfl (Nat.le_of_ble_eq_true rfl) ?_
    refine eb_Ct.mono w ?_
    rintro r h5 ⟨y6, rfl, ko7, w⟩
    change eb_Sn _ _ _ 33 _ [.long y6] _ _
    refine eb_lconst (pc := 33) (n := 0) (v := 0) rfl rfl ?_
    refine eb_lcmp (pc := 34) rfl ?_
    refine eb_if_ne (pc := 35) (tgt := 41) rfl (by decide) (fun c8 => ?_) (fun c8 => ?_)
    · replace c8 := eb_lc_ne.mp c8
      replace w := w.1 c8
      refine eb_iconst (pc := 41) (n := 0) (v := 0) rfl rfl ?_
      refine eb_istore (pc := 42) (i := 6) (ls2 := [(6, .int 0), (5, .int 0), (4, .int y2), (0, .ref s_MO), (1, .int x1), (2, .int x2), (3, .int x3)]) (Nat.le_of_ble_eq_true rfl) rfl rfl ?_
      exact eb_pick [3, 4, 5, 6, 1, 0] rfl w
    · replace c8 := eb_lc_eq.mp c8
      replace w := w.2 c8
      refine eb_iload (pc := 38) (i := 5) rfl rfl ?_
      exact eb_ireturn (pc := 40) rfl rfl rfl w
  · replace w := w.2 c4
    refine eb_iload (pc := 19) (i := 4) rfl rfl ?_
    exact eb_ireturn (pc := 21) rfl rfl rfl w
theorem b_X11_surely_44 {d : Nat} {h0 h : eb_H} {Q : Option Value → eb_H → Prop} (x1 : Int32) (x2 : Int32) (x3 : Int32) (x5 : Int32) (x6 : Int32)  (ko : eb_KO h) (w : ((((eb_I h s_m_all (1 : Int32).toNatClampNeg) * (eb_I h s_m_all (2 : Int32).toNatClampNeg)) ≤ x6 → Q (some (.int x5)) h) ∧ (¬ (((eb_I h s_m_all (1 : Int32).toNatClampNeg) * (eb_I h s_m_all (2 : Int32).toNatClampNeg)) ≤ x6) → eb_Ct d 250 [.ref s_MO, .int x1, .int x2, .int x3, .int x6] h (fun r h2 => ∃ y3, r = some (.long y3) ∧ eb_KO h2 ∧ eb_Sn (d + 1) m_X11_surely h0 44 [(0, .ref s_MO), (1, .int x1), (2, .int x2), (3, .int x3), (5, .int (x5 ||| (if y3 = 0 then (1 : Int32) <<< (x6 &&& 31) else 0 : Int32))), (6, .int (x6 + 1))] [] h2 Q)))) : eb_Sn (d + 1) m_X11_surely h0 44 [(0, .ref s_MO), (1, .int x1), (2, .int x2), (3, .int x3), (5, .int x5), (6, .int x6)] [] h Q := by
  refine eb_iload (pc := 44) (i := 6) rfl rfl ?_
  refine eb_aload_n (pc := 46) (n := 0) (i := 0) rfl rfl rfl ?_
  refine eb_ctV (pc := 47) (As := []) (rest := [.int x6]) rfl (by decide) rfl rfl (by decide) rfl (Nat.le_of_ble_eq_true rfl) ?_
  refine eb_bodyQ (by decide) ok_X11_cells (Nat.le_of_ble_eq_true rfl) ?_
  change eb_Sn _ m_X11_cells _ 0 [(0, .ref s_MO)] [] _ _
  refine eb_aload_n (pc := 0) (n := 0) (i := 0) rfl rfl rfl ?_
  refine eb_getR (pc := 1) rfl rfl (by decide) (by decide) rfl (ko_s_MO_1 ko) ?_
  refine eb_iconst (pc := 4) (n := 1) (v := 1) rfl rfl ?_
  refine eb_iaload (pc := 5) rfl rfl (by decide) (by unfold vp_in; decide) ?_
  refine eb_aload_n (pc := 6) (n := 0) (i := 0) rfl rfl rfl ?_
  refine eb_getR (pc := 7) rfl rfl (by decide) (by decide) rfl (ko_s_MO_1 ko) ?_
  refine eb_iconst (pc := 10) (n := 2) (v := 2) rfl rfl ?_
  refine eb_iaload (pc := 11) rfl rfl (by decide) (by unfold vp_in; decide) ?_
  refine eb_imul (pc := 12) rfl ?_
  refine eb_ireturn (pc := 13) rfl rfl rfl ?_
  change eb_Sn _ _ _ 50 _ [.int ((eb_I h s_m_all (1 : Int32).toNatClampNeg) * (eb_I h s_m_all (2 : Int32).toNatClampNeg)), .int x6] _ _
  refine eb_icmp_ge (pc := 50) (tgt := 86) rfl (by decide) (fun c1 => ?_) (fun c1 => ?_)
  · replace w := w.1 c1
    refine eb_iload (pc := 86) (i := 5) rfl rfl ?_
    exact eb_ireturn (pc := 88) rfl rfl rfl w
  · replace w := w.2 c1
    refine eb_iload (pc := 53) (i := 5) rfl rfl ?_
    refine eb_aload_n (pc := 55) (n := 0) (i := 0) rfl rfl rfl ?_
    refine eb_iload_n (pc := 56) (n := 1) (i := 1) rfl rfl rfl ?_
    refine eb_iload_n (pc := 57) (n := 2) (i := 2) rfl rfl rfl ?_
    refine eb_iload_n (pc := 58) (n := 3) (i := 3) rfl rfl rfl ?_
    refine eb_iload (pc := 59) (i := 6) rfl rfl ?_
    refine eb_ctV (pc := 61) (As := [.int x1, .int x2, .int x3, .int x6]) (rest := [.int x5]) rfl (by decide) rfl rfl (by decide) rfl (Nat.le_of_ble_eq_true rfl) ?_
    refine eb_Ct.mono w ?_
    rintro r h2 ⟨y3, rfl, ko4, w⟩
    change eb_Sn _ _ _ 64 _ [.long y3, .int x5] _ _
    refine eb_lconst (pc := 64) (n := 0) (v := 0) rfl rfl ?_
    refine eb_lcmp (pc := 65) rfl ?_
    refine eb_joinI (pc2 := 77) (ls2 := [(0, .ref s_MO), (1, .int x1), (2, .int x2), (3, .int x3), (5, .int x5), (6, .int x6)]) (st2 := [.int x5]) (v := (if y3 = 0 then (1 : Int32) <<< (x6 &&& 31) else 0 : Int32)) ?_ (fun jj6 => ?_)
    · refine eb_ior (pc := 77) rfl ?_
      refine eb_istore (pc := 78) (i := 5) (ls2 := [(5, .int (x5 ||| (if y3 = 0 then (1 : Int32) <<< (x6 &&& 31) else 0 : Int32))), (0, .ref s_MO), (1, .int x1), (2, .int x2), (3, .int x3), (6, .int x6)]) (Nat.le_of_ble_eq_true rfl) rfl rfl ?_
      refine eb_iinc (pc := 80) (i := 6) (n := 1) (v := x6 + 1) (ls2 := [(6, .int (x6 + 1)), (5, .int (x5 ||| (if y3 = 0 then (1 : Int32) <<< (x6 &&& 31) else 0 : Int32))), (0, .ref s_MO), (1, .int x1), (2, .int x2), (3, .int x3)]) (Nat.le_of_ble_eq_true rfl) rfl rfl rfl rfl ?_
      refine eb_goto (pc := 83) (tgt := 44) rfl (by decide) ?_
      exact eb_pick [2, 3, 4, 5, 1, 0] rfl w
    refine eb_if_ne (pc := 66) (tgt := 76) rfl (by decide) (fun c5 => ?_) (fun c5 => ?_)
    · replace c5 := eb_lc_ne.mp c5
      refine eb_iconst (pc := 76) (n := 0) (v := 0) rfl rfl ?_
      exact jj6 _ (by simp only [if_neg c5])
    · replace c5 := eb_lc_eq.mp c5
      refine eb_iconst (pc := 69) (n := 1) (v := 1) rfl rfl ?_
      refine eb_iload (pc := 70) (i := 6) rfl rfl ?_
      refine eb_ishl (pc := 72) rfl ?_
      refine eb_goto (pc := 73) (tgt := 77) rfl (by decide) ?_
      exact jj6 _ (by simp only [if_pos c5])
theorem T_X11_surely {d : Nat} {h : eb_H} {Q : Option Value → eb_H → Prop} (x1 : Int32) (x2 : Int32) (x3 : Int32)  (ko : eb_KO h) (w : eb_Ct d 249 [.ref s_MO, .int x1, .int x2, .int x3] (eb_sI h s_MO 0 0) (fun r h1 => ∃ y2, r = some (.int y2) ∧ eb_KO h1 ∧ ((y2 = 0 → eb_Ct d 250 [.ref s_MO, .int x1, .int x2, .int x3, .int (-1)] h1 (fun r h5 => ∃ y6, r = some (.long y6) ∧ eb_KO h5 ∧ ((¬ y6 = 0 → eb_Sn (d + 1) m_X11_surely h 44 [(0, .ref s_MO), (1, .int x1), (2, .int x2), (3, .int x3), (5, .int 0), (6, .int 0)] [] h5 Q) ∧ (y6 = 0 → Q (some (.int 0)) h5)))) ∧ (¬ (y2 = 0) → Q (some (.int y2)) h1)))) : eb_Ct (d + 1) 253 [.ref s_MO, .int x1, .int x2, .int x3] h Q :=
  eb_bodyQ (by decide) ok_X11_surely (Nat.le_of_ble_eq_true rfl) (b_X11_surely_0 (h0 := h) x1 x2 x3  ko w)
theorem b_X11_noFlown_0 {d : Nat} {h0 h : eb_H} {Q : Option Value → eb_H → Prop} (x1 : Int32) (x2 : Int32)  (ko : eb_KO h) (w : eb_Ct (d + 1) 221 [.ref s_MO, .int x1] h (fun r h1 => ∃ y2, r = some (.int y2) ∧ eb_KO h1 ∧ ((y2 = 0 → (vp_in x1 4) ∧ (((¬ (((eb_I h1 s_m_rowMany x1.toNatClampNeg).toInt64) < 1)) ∧ (¬ (12 < ((eb_I h1 s_m_rowMany x1.toNatClampNeg).toInt64))) → eb_Sn (d + 2) m_X11_noFlown h0 35 [(0, .ref s_MO), (1, .int x1), (2, .int x2), (4, .int 0)] [] h1 Q) ∧ (¬ ((¬ (((eb_I h1 s_m_rowMany x1.toNatClampNeg).toInt64) < 1)) ∧ (¬ (12 < ((eb_I h1 s_m_rowMany x1.toNatClampNeg).toInt64)))) → Q (some (.int (-4))) h1))) ∧ (¬ (y2 = 0) → Q (some (.int y2)) h1)))) : eb_Sn (d + 2) m_X11_noFlown h0 0 [(0, .ref s_MO), (1, .int x1), (2, .int x2)] [] h Q := by
  refine eb_aload_n (pc := 0) (n := 0) (i := 0) rfl rfl rfl ?_
  refine eb_iload_n (pc := 1) (n := 1) (i := 1) rfl rfl rfl ?_
  refine eb_ctV (pc := 2) (As := [.int x1]) (rest := []) rfl (by decide) rfl rfl (by decide) rfl (Nat.le_of_ble_eq_true rfl) ?_
  refine eb_Ct.mono w ?_
  rintro r h1 ⟨y2, rfl, ko3, w⟩
  change eb_Sn _ _ _ 5 _ [.int y2] _ _
  refine eb_istore_n (pc := 5) (n := 3) (i := 3) (ls2 := [(3, .int y2), (0, .ref s_MO), (1, .int x1), (2, .int x2)]) rfl (Nat.le_of_ble_eq_true rfl) rfl rfl ?_
  refine eb_iload_n (pc := 6) (n := 3) (i := 3) rfl rfl rfl ?_
  refine eb_if_eq (pc := 7) (tgt := 12) rfl (by decide) (fun c4 => ?_) (fun c4 => ?_)
  · replace w := w.1 c4
    refine eb_aload_n (pc := 12) (n := 0) (i := 0) rfl rfl rfl ?_
    refine eb_getR (pc := 13) rfl rfl (by decide) (by decide) rfl (ko_s_MO_29 ko3) ?_
    refine eb_iload_n (pc := 16) (n := 1) (i := 1) rfl rfl rfl ?_
    obtain ⟨c5, w⟩ := w
    refine eb_iaload (pc := 17) rfl rfl (by decide) c5 ?_
    refine eb_i2l (pc := 18) rfl ?_
    refine eb_lconst (pc := 19) (n := 1) (v := 1) rfl rfl ?_
    refine eb_ldc2 (pc := 20) (a := 12) (v := 12) rfl (by decide) ?_
    refine eb_joinI (pc2 := 26) (ls2 := [(3, .int y2), (0, .ref s_MO), (1, .int x1), (2, .int x2)]) (st2 := []) (v := eb_q ((¬ (((eb_I h1 s_m_rowMany x1.toNatClampNeg).toInt64) < 1)) ∧ (¬ (12 < ((eb_I h1 s_m_rowMany x1.toNatClampNeg).toInt64))))) ?_ (fun jj9 => ?_)
    · refine eb_if_ne (pc := 26) (tgt := 32) rfl (by decide) (fun c8 => ?_) (fun c8 => ?_)
      · replace c8 := eb_q1.mp c8
        replace w := w.1 c8
        refine eb_iconst (pc := 32) (n := 0) (v := 0) rfl rfl ?_
        refine eb_istore (pc := 33) (i := 4) (ls2 := [(4, .int 0), (3, .int y2), (0, .ref s_MO), (1, .int x1), (2, .int x2)]) (Nat.le_of_ble_eq_true rfl) rfl rfl ?_
        exact eb_pick [2, 3, 4, 0] rfl w
      · replace c8 := eb_q0.mp c8
        replace w := w.2 c8
        refine eb_bipush (pc := 29) (n := -4) (v := (-4)) rfl rfl ?_
        exact eb_ireturn (pc := 31) rfl rfl rfl w
    refine eb_ctS (pc := 23) (As := [.long ((eb_I h1 s_m_rowMany x1.toNatClampNeg).toInt64), .long 1, .long 12]) (rest := []) rfl (by decide) (by decide) rfl rfl (Nat.le_of_ble_eq_true rfl) ?_
    refine eb_bodyQ (by decide) ok_X11_within (Nat.le_of_ble_eq_true rfl) ?_
    change eb_Sn _ m_X11_within _ 0 [(0, .long ((eb_I h1 s_m_rowMany x1.toNatClampNeg).toInt64)), (2, .long 1), (4, .long 12)] [] _ _
    refine eb_lload_n (pc := 0) (n := 0) (i := 0) rfl rfl rfl ?_
    refine eb_lload_n (pc := 1) (n := 2) (i := 2) rfl rfl rfl ?_
    refine eb_lcmp (pc := 2) rfl ?_
    refine eb_if_lt (pc := 3) (tgt := 17) rfl (by decide) (fun c6 => ?_) (fun c6 => ?_)
    · replace c6 := eb_lc_lt.mp c6
      refine eb_iconst (pc := 17) (n := 0) (v := 0) rfl rfl ?_
      refine eb_ireturn (pc := 18) rfl rfl (by decide) ?_
      change eb_Sn _ _ _ 26 _ _ _ _
      exact jj9 0 (eb_qf (fun z => z.1 c6)).symm
    · replace c6 := (fun hh => mt eb_lc_lt.mpr hh) c6
      refine eb_lload_n (pc := 6) (n := 0) (i := 0) rfl rfl rfl ?_
      refine eb_lload (pc := 7) (i := 4) rfl rfl ?_
      refine eb_lcmp (pc := 9) rfl ?_
      refine eb_if_gt (pc := 10) (tgt := 17) rfl (by decide) (fun c7 => ?_) (fun c7 => ?_)
      · replace c7 := eb_lc_gt.mp c7
        refine eb_iconst (pc := 17) (n := 0) (v := 0) rfl rfl ?_
        refine eb_ireturn (pc := 18) rfl rfl (by decide) ?_
        change eb_Sn _ _ _ 26 _ _ _ _
        exact jj9 0 (eb_qf (fun z => (fun z => z c7) z.2)).symm
      · replace c7 := (fun hh => mt eb_lc_gt.mpr hh) c7
        refine eb_iconst (pc := 13) (n := 1) (v := 1) rfl rfl ?_
        refine eb_goto (pc := 14) (tgt := 18) rfl (by decide) ?_
        refine eb_ireturn (pc := 18) rfl rfl (by decide) ?_
        change eb_Sn _ _ _ 26 _ _ _ _
        exact jj9 1 (eb_qt (⟨c6, c7⟩)).symm
  · replace w := w.2 c4
    refine eb_iload_n (pc := 10) (n := 3) (i := 3) rfl rfl rfl ?_
    exact eb_ireturn (pc := 11) rfl rfl rfl w
theorem b_X11_noFlown_35 {d : Nat} {h0 h : eb_H} {Q : Option Value → eb_H → Prop} (x1 : Int32) (x2 : Int32) (x4 : Int32)  (ko : eb_KO h) (w : (vp_in x1 4) ∧ (((eb_I h s_m_rowMany x1.toNatClampNeg) ≤ x4 → Q (some (.int (if (¬ (x2.toInt64 < 0)) ∧ (¬ (63 < x2.toInt64)) then 0 else (-3) : Int32))) h) ∧ (¬ ((eb_I h s_m_rowMany x1.toNatClampNeg) ≤ x4) → (vp_in (((40 : Int32) * x1) + x4) 160) ∧ (((¬ ((eb_J h s_m_numbers (((40 : Int32) * x1) + x4).toNatClampNeg) < 0)) ∧ (¬ (3 < (eb_J h s_m_numbers (((40 : Int32) * x1) + x4).toNatClampNeg))) → eb_Sn (d + 2) m_X11_noFlown h0 35 [(0, .ref s_MO), (1, .int x1), (2, .int x2), (4, .int (x4 + 1))] [] h Q) ∧ (¬ ((¬ ((eb_J h s_m_numbers (((40 : Int32) * x1) + x4).toNatClampNeg) < 0)) ∧ (¬ (3 < (eb_J h s_m_numbers (((40 : Int32) * x1) + x4).toNatClampNeg)))) → Q (some (.int (-3))) h))))) : eb_Sn (d + 2) m_X11_noFlown h0 35 [(0, .ref s_MO), (1, .int x1), (2, .int x2), (4, .int x4)] [] h Q := by
  refine eb_iload (pc := 35) (i := 4) rfl rfl ?_
  refine eb_aload_n (pc := 37) (n := 0) (i := 0) rfl rfl rfl ?_
  refine eb_getR (pc := 38) rfl rfl (by decide) (by decide) rfl (ko_s_MO_29 ko) ?_
  refine eb_iload_n (pc := 41) (n := 1) (i := 1) rfl rfl rfl ?_
  obtain ⟨c1, w⟩ := w
  refine eb_iaload (pc := 42) rfl rfl (by decide) c1 ?_
  refine eb_icmp_ge (pc := 43) (tgt := 77) rfl (by decide) (fun c2 => ?_) (fun c2 => ?_)
  · replace w := w.1 c2
    refine eb_iload_n (pc := 77) (n := 2) (i := 2) rfl rfl rfl ?_
    refine eb_joinI (pc2 := 81) (ls2 := [(0, .ref s_MO), (1, .int x1), (2, .int x2), (4, .int x4)]) (st2 := []) (v := eb_q ((¬ (x2.toInt64 < 0)) ∧ (¬ (63 < x2.toInt64)))) ?_ (fun jj8 => ?_)
    · refine eb_joinI (pc2 := 90) (ls2 := [(0, .ref s_MO), (1, .int x1), (2, .int x2), (4, .int x4)]) (st2 := []) (v := (if (¬ (x2.toInt64 < 0)) ∧ (¬ (63 < x2.toInt64)) then 0 else (-3) : Int32)) ?_ (fun jj6 => ?_)
      · exact eb_ireturn (pc := 90) rfl rfl rfl w
      refine eb_if_eq (pc := 81) (tgt := 88) rfl (by decide) (fun c5 => ?_) (fun c5 => ?_)
      · replace c5 := eb_q0.mp c5
        refine eb_bipush (pc := 88) (n := -3) (v := (-3)) rfl rfl ?_
        exact jj6 _ (by simp only [if_neg c5])
      · replace c5 := eb_q1.mp c5
        refine eb_iconst (pc := 84) (n := 0) (v := 0) rfl rfl ?_
        refine eb_goto (pc := 85) (tgt := 90) rfl (by decide) ?_
        exact jj6 _ (by simp only [if_pos c5])
    refine eb_ctS (pc := 78) (As := [.int x2]) (rest := []) rfl (by decide) (by decide) rfl rfl (Nat.le_of_ble_eq_true rfl) ?_
    refine eb_bodyQ (by decide) ok_X11_isEchoes (Nat.le_of_ble_eq_true rfl) ?_
    change eb_Sn _ m_X11_isEchoes _ 0 [(0, .int x2)] [] _ _
    refine eb_iload_n (pc := 0) (n := 0) (i := 0) rfl rfl rfl ?_
    refine eb_i2l (pc := 1) rfl ?_
    refine eb_lconst (pc := 2) (n := 0) (v := 0) rfl rfl ?_
    refine eb_ldc2 (pc := 3) (a := 63) (v := 63) rfl (by decide) ?_
    refine eb_ctS (pc := 6) (As := [.long x2.toInt64, .long 0, .long 63]) (rest := []) rfl (by decide) (by decide) rfl rfl (Nat.le_of_ble_eq_true rfl) ?_
    refine eb_bodyQ (by decide) ok_X11_within (Nat.le_of_ble_eq_true rfl) ?_
    change eb_Sn _ m_X11_within _ 0 [(0, .long x2.toInt64), (2, .long 0), (4, .long 63)] [] _ _
    refine eb_lload_n (pc := 0) (n := 0) (i := 0) rfl rfl rfl ?_
    refine eb_lload_n (pc := 1) (n := 2) (i := 2) rfl rfl rfl ?_
    refine eb_lcmp (pc := 2) rfl ?_
    refine eb_if_lt (pc := 3) (tgt := 17) rfl (by decide) (fun c3 => ?_) (fun c3 => ?_)
    · replace c3 := eb_lc_lt.mp c3
      refine eb_iconst (pc := 17) (n := 0) (v := 0) rfl rfl ?_
      refine eb_ireturn (pc := 18) rfl rfl (by decide) ?_
      change eb_Sn _ _ _ 9 _ [.int 0] _ _
      refine eb_ireturn (pc := 9) rfl rfl (by decide) ?_
      change eb_Sn _ _ _ 81 _ _ _ _
      exact jj8 0 (eb_qf (fun z => z.1 c3)).symm
    · replace c3 := (fun hh => mt eb_lc_lt.mpr hh) c3
      refine eb_lload_n (pc := 6) (n := 0) (i := 0) rfl rfl rfl ?_
      refine eb_lload (pc := 7) (i := 4) rfl rfl ?_
      refine eb_lcmp (pc := 9) rfl ?_
      refine eb_if_gt (pc := 10) (tgt := 17) rfl (by decide) (fun c4 => ?_) (fun c4 => ?_)
      · replace c4 := eb_lc_gt.mp c4
        refine eb_iconst (pc := 17) (n := 0) (v := 0) rfl rfl ?_
        refine eb_ireturn (pc := 18) rfl rfl (by decide) ?_
        change eb_Sn _ _ _ 9 _ [.int 0] _ _
        refine eb_ireturn (pc := 9) rfl rfl (by decide) ?_
        change eb_Sn _ _ _ 81 _ _ _ _
        exact jj8 0 (eb_qf (fun z => (fun z => z c4) z.2)).symm
      · replace c4 := (fun hh => mt eb_lc_gt.mpr hh) c4
        refine eb_iconst (pc := 13) (n := 1) (v := 1) rfl rfl ?_
        refine eb_goto (pc := 14) (tgt := 18) rfl (by decide) ?_
        refine eb_ireturn (pc := 18) rfl rfl (by decide) ?_
        change eb_Sn _ _ _ 9 _ [.int 1] _ _
        refine eb_ireturn (pc := 9) rfl rfl (by decide) ?_
        change eb_Sn _ _ _ 81 _ _ _ _
        exact jj8 1 (eb_qt (⟨c3, c4⟩)).symm
  · replace w := w.2 c2
    refine eb_aload_n (pc := 46) (n := 0) (i := 0) rfl rfl rfl ?_
    refine eb_getR (pc := 47) rfl rfl (by decide) (by decide) rfl (ko_s_MO_30 ko) ?_
    refine eb_bipush (pc := 50) (n := 40) (v := 40) rfl rfl ?_
    refine eb_iload_n (pc := 52) (n := 1) (i := 1) rfl rfl rfl ?_
    refine eb_imul (pc := 53) rfl ?_
    refine eb_iload (pc := 54) (i := 4) rfl rfl ?_
    refine eb_iadd (pc := 56) rfl ?_
    obtain ⟨c10, w⟩ := w
    refine eb_laload (pc := 57) rfl rfl c10 ?_
    refine eb_lconst (pc := 58) (n := 0) (v := 0) rfl rfl ?_
    refine eb_ldc2 (pc := 59) (a := 3) (v := 3) rfl (by decide) ?_
    refine eb_joinI (pc2 := 65) (ls2 := [(0, .ref s_MO), (1, .int x1), (2, .int x2), (4, .int x4)]) (st2 := []) (v := eb_q ((¬ ((eb_J h s_m_numbers (((40 : Int32) * x1) + x4).toNatClampNeg) < 0)) ∧ (¬ (3 < (eb_J h s_m_numbers (((40 : Int32) * x1) + x4).toNatClampNeg))))) ?_ (fun jj14 => ?_)
    · refine eb_if_ne (pc := 65) (tgt := 71) rfl (by decide) (fun c13 => ?_) (fun c13 => ?_)
      · replace c13 := eb_q1.mp c13
        replace w := w.1 c13
        refine eb_iinc (pc := 71) (i := 4) (n := 1) (v := x4 + 1) (ls2 := [(4, .int (x4 + 1)), (0, .ref s_MO), (1, .int x1), (2, .int x2)]) (Nat.le_of_ble_eq_true rfl) rfl rfl rfl rfl ?_
        refine eb_goto (pc := 74) (tgt := 35) rfl (by decide) ?_
        exact eb_pick [1, 2, 3, 0] rfl w
      · replace c13 := eb_q0.mp c13
        replace w := w.2 c13
        refine eb_bipush (pc := 68) (n := -3) (v := (-3)) rfl rfl ?_
        exact eb_ireturn (pc := 70) rfl rfl rfl w
    refine eb_ctS (pc := 62) (As := [.long (eb_J h s_m_numbers (((40 : Int32) * x1) + x4).toNatClampNeg), .long 0, .long 3]) (rest := []) rfl (by decide) (by decide) rfl rfl (Nat.le_of_ble_eq_true rfl) ?_
    refine eb_bodyQ (by decide) ok_X11_within (Nat.le_of_ble_eq_true rfl) ?_
    change eb_Sn _ m_X11_within _ 0 [(0, .long (eb_J h s_m_numbers (((40 : Int32) * x1) + x4).toNatClampNeg)), (2, .long 0), (4, .long 3)] [] _ _
    refine eb_lload_n (pc := 0) (n := 0) (i := 0) rfl rfl rfl ?_
    refine eb_lload_n (pc := 1) (n := 2) (i := 2) rfl rfl rfl ?_
    refine eb_lcmp (pc := 2) rfl ?_
    refine eb_if_lt (pc := 3) (tgt := 17) rfl (by decide) (fun c11 => ?_) (fun c11 => ?_)
    · replace c11 := eb_lc_lt.mp c11
      refine eb_iconst (pc := 17) (n := 0) (v := 0) rfl rfl ?_
      refine eb_ireturn (pc := 18) rfl rfl (by decide) ?_
      change eb_Sn _ _ _ 65 _ _ _ _
      exact jj14 0 (eb_qf (fun z => z.1 c11)).symm
    · replace c11 := (fun hh => mt eb_lc_lt.mpr hh) c11
      refine eb_lload_n (pc := 6) (n := 0) (i := 0) rfl rfl rfl ?_
      refine eb_lload (pc := 7) (i := 4) rfl rfl ?_
      refine eb_lcmp (pc := 9) rfl ?_
      refine eb_if_gt (pc := 10) (tgt := 17) rfl (by decide) (fun c12 => ?_) (fun c12 => ?_)
      · replace c12 := eb_lc_gt.mp c12
        refine eb_iconst (pc := 17) (n := 0) (v := 0) rfl rfl ?_
        refine eb_ireturn (pc := 18) rfl rfl (by decide) ?_
        change eb_Sn _ _ _ 65 _ _ _ _
        exact jj14 0 (eb_qf (fun z => (fun z => z c12) z.2)).symm
      · replace c12 := (fun hh => mt eb_lc_gt.mpr hh) c12
        refine eb_iconst (pc := 13) (n := 1) (v := 1) rfl rfl ?_
        refine eb_goto (pc := 14) (tgt := 18) rfl (by decide) ?_
        refine eb_ireturn (pc := 18) rfl rfl (by decide) ?_
        change eb_Sn _ _ _ 65 _ _ _ _
        exact jj14 1 (eb_qt (⟨c11, c12⟩)).symm
theorem T_X11_noFlown {d : Nat} {h : eb_H} {Q : Option Value → eb_H → Prop} (x1 : Int32) (x2 : Int32)  (ko : eb_KO h) (w : eb_Ct (d + 1) 221 [.ref s_MO, .int x1] h (fun r h1 => ∃ y2, r = some (.int y2) ∧ eb_KO h1 ∧ ((y2 = 0 → (vp_in x1 4) ∧ (((¬ (((eb_I h1 s_m_rowMany x1.toNatClampNeg).toInt64) < 1)) ∧ (¬ (12 < ((eb_I h1 s_m_rowMany x1.toNatClampNeg).toInt64))) → eb_Sn (d + 2) m_X11_noFlown h 35 [(0, .ref s_MO), (1, .int x1), (2, .int x2), (4, .int 0)] [] h1 Q) ∧ (¬ ((¬ (((eb_I h1 s_m_rowMany x1.toNatClampNeg).toInt64) < 1)) ∧ (¬ (12 < ((eb_I h1 s_m_rowMany x1.toNatClampNeg).toInt64)))) → Q (some (.int (-4))) h1))) ∧ (¬ (y2 = 0) → Q (some (.int y2)) h1)))) : eb_Ct (d + 2) 254 [.ref s_MO, .int x1, .int x2] h Q :=
  eb_bodyQ (by decide) ok_X11_noFlown (Nat.le_of_ble_eq_true rfl) (b_X11_noFlown_0 (h0 := h) x1 x2  ko w)
theorem b_X11_isFlown_0 {d : Nat} {h0 h : eb_H} {Q : Option Value → eb_H → Prop} (x1 : Int32) (x2 : Int32)  (ko : eb_KO h) (w : eb_Sn (d + 1) m_X11_isFlown h0 8 [(0, .ref s_MO), (1, .int x1), (2, .int x2), (3, .int (((64 : Int32) * (eb_I h s_m_all (31 : Int32).toNatClampNeg)) + (eb_I h s_m_all (32 : Int32).toNatClampNeg))), (4, .int 0)] [] h Q) : eb_Sn (d + 1) m_X11_isFlown h0 0 [(0, .ref s_MO), (1, .int x1), (2, .int x2)] [] h Q := by
  refine eb_aload_n (pc := 0) (n := 0) (i := 0) rfl rfl rfl ?_
  refine eb_ctV (pc := 1) (As := []) (rest := []) rfl (by decide) rfl rfl (by decide) rfl (Nat.le_of_ble_eq_true rfl) ?_
  refine eb_bodyQ (by decide) ok_X11_standNow (Nat.le_of_ble_eq_true rfl) ?_
  change eb_Sn _ m_X11_standNow _ 0 [(0, .ref s_MO)] [] _ _
  refine eb_bipush (pc := 0) (n := 64) (v := 64) rfl rfl ?_
  refine eb_aload_n (pc := 2) (n := 0) (i := 0) rfl rfl rfl ?_
  refine eb_getR (pc := 3) rfl rfl (by decide) (by decide) rfl (ko_s_MO_1 ko) ?_
  refine eb_bipush (pc := 6) (n := 31) (v := 31) rfl rfl ?_
  refine eb_iaload (pc := 8) rfl rfl (by decide) (by unfold vp_in; decide) ?_
  refine eb_imul (pc := 9) rfl ?_
  refine eb_aload_n (pc := 10) (n := 0) (i := 0) rfl rfl rfl ?_
  refine eb_getR (pc := 11) rfl rfl (by decide) (by decide) rfl (ko_s_MO_1 ko) ?_
  refine eb_bipush (pc := 14) (n := 32) (v := 32) rfl rfl ?_
  refine eb_iaload (pc := 16) rfl rfl (by decide) (by unfold vp_in; decide) ?_
  refine eb_iadd (pc := 17) rfl ?_
  refine eb_ireturn (pc := 18) rfl rfl rfl ?_
  change eb_Sn _ _ _ 4 _ [.int (((64 : Int32) * (eb_I h s_m_all (31 : Int32).toNatClampNeg)) + (eb_I h s_m_all (32 : Int32).toNatClampNeg))] _ _
  refine eb_istore_n (pc := 4) (n := 3) (i := 3) (ls2 := [(3, .int (((64 : Int32) * (eb_I h s_m_all (31 : Int32).toNatClampNeg)) + (eb_I h s_m_all (32 : Int32).toNatClampNeg))), (0, .ref s_MO), (1, .int x1), (2, .int x2)]) rfl (Nat.le_of_ble_eq_true rfl) rfl rfl ?_
  refine eb_iconst (pc := 5) (n := 0) (v := 0) rfl rfl ?_
  refine eb_istore (pc := 6) (i := 4) (ls2 := [(4, .int 0), (3, .int (((64 : Int32) * (eb_I h s_m_all (31 : Int32).toNatClampNeg)) + (eb_I h s_m_all (32 : Int32).toNatClampNeg))), (0, .ref s_MO), (1, .int x1), (2, .int x2)]) (Nat.le_of_ble_eq_true rfl) rfl rfl ?_
  exact eb_pick [2, 3, 4, 1, 0] rfl w
theorem b_X11_isFlown_8 {d : Nat} {h0 h : eb_H} {Q : Option Value → eb_H → Prop} (x1 : Int32) (x2 : Int32) (x3 : Int32) (x4 : Int32)  (ko : eb_KO h) (w : (vp_in x1 4) ∧ (((eb_I h s_m_rowMany x1.toNatClampNeg) ≤ x4 → Q (some (.int (eb_q ((x3 - x3 / 64 * 64) = x2)))) h) ∧ (¬ ((eb_I h s_m_rowMany x1.toNatClampNeg) ≤ x4) → (vp_in (((40 : Int32) * x1) + x4) 160) ∧ eb_Ct d 199 [.ref s_MO, .int x3, .int ((eb_J h s_m_numbers (((40 : Int32) * x1) + x4).toNatClampNeg).toInt32), .int (eb_I h s_m_all (50 : Int32).toNatClampNeg)] h (fun r h7 => ∃ y8, r = some (.int y8) ∧ eb_KO h7 ∧ ((y8 = 0 → eb_Ct d 200 [.ref s_MO, .int x3, .int ((eb_J h s_m_numbers (((40 : Int32) * x1) + x4).toNatClampNeg).toInt32)] h7 (fun r h11 => ∃ y12, r = some (.int y12) ∧ eb_KO h11 ∧ eb_Sn (d + 1) m_X11_isFlown h0 8 [(0, .ref s_MO), (1, .int x1), (2, .int x2), (3, .int y12), (4, .int (x4 + 1))] [] h11 Q)) ∧ (¬ (y8 = 0) → Q (some (.int 0)) h7)))))) : eb_Sn (d + 1) m_X11_isFlown h0 8 [(0, .ref s_MO), (1, .int x1), (2, .int x2), (3, .int x3), (4, .int x4)] [] h Q := by
  refine eb_iload (pc := 8) (i := 4) rfl rfl ?_
  refine eb_aload_n (pc := 10) (n := 0) (i := 0) rfl rfl rfl ?_
  refine eb_getR (pc := 11) rfl rfl (by decide) (by decide) rfl (ko_s_MO_29 ko) ?_
  refine eb_iload_n (pc := 14) (n := 1) (i := 1) rfl rfl rfl ?_
  obtain ⟨c1, w⟩ := w
  refine eb_iaload (pc := 15) rfl rfl (by decide) c1 ?_
  refine eb_icmp_ge (pc := 16) (tgt := 67) rfl (by decide) (fun c2 => ?_) (fun c2 => ?_)
  · replace w := w.1 c2
    refine eb_iload_n (pc := 67) (n := 3) (i := 3) rfl rfl rfl ?_
    refine eb_bipush (pc := 68) (n := 64) (v := 64) rfl rfl ?_
    refine eb_irem (pc := 70) (by decide) rfl ?_
    refine eb_iload_n (pc := 71) (n := 2) (i := 2) rfl rfl rfl ?_
    refine eb_joinI (pc2 := 80) (ls2 := [(0, .ref s_MO), (1, .int x1), (2, .int x2), (3, .int x3), (4, .int x4)]) (st2 := []) (v := eb_q ((x3 - x3 / 64 * 64) = x2)) ?_ (fun jj4 => ?_)
    · exact eb_ireturn (pc := 80) rfl rfl eb_qn w
    refine eb_icmp_ne (pc := 72) (tgt := 79) rfl (by decide) (fun c3 => ?_) (fun c3 => ?_)
    · refine eb_iconst (pc := 79) (n := 0) (v := 0) rfl rfl ?_
      exact jj4 0 (eb_qf c3).symm
    · refine eb_iconst (pc := 75) (n := 1) (v := 1) rfl rfl ?_
      refine eb_goto (pc := 76) (tgt := 80) rfl (by decide) ?_
      exact jj4 1 (eb_qt c3).symm
  · replace w := w.2 c2
    refine eb_aload_n (pc := 19) (n := 0) (i := 0) rfl rfl rfl ?_
    refine eb_getR (pc := 20) rfl rfl (by decide) (by decide) rfl (ko_s_MO_30 ko) ?_
    refine eb_bipush (pc := 23) (n := 40) (v := 40) rfl rfl ?_
    refine eb_iload_n (pc := 25) (n := 1) (i := 1) rfl rfl rfl ?_
    refine eb_imul (pc := 26) rfl ?_
    refine eb_iload (pc := 27) (i := 4) rfl rfl ?_
    refine eb_iadd (pc := 29) rfl ?_
    obtain ⟨c6, w⟩ := w
    refine eb_laload (pc := 30) rfl rfl c6 ?_
    refine eb_l2i (pc := 31) rfl ?_
    refine eb_istore (pc := 32) (i := 5) (ls2 := [(5, .int ((eb_J h s_m_numbers (((40 : Int32) * x1) + x4).toNatClampNeg).toInt32)), (0, .ref s_MO), (1, .int x1), (2, .int x2), (3, .int x3), (4, .int x4)]) (Nat.le_of_ble_eq_true rfl) rfl rfl ?_
    refine eb_aload_n (pc := 34) (n := 0) (i := 0) rfl rfl rfl ?_
    refine eb_iload_n (pc := 35) (n := 3) (i := 3) rfl rfl rfl ?_
    refine eb_iload (pc := 36) (i := 5) rfl rfl ?_
    refine eb_aload_n (pc := 38) (n := 0) (i := 0) rfl rfl rfl ?_
    refine eb_getR (pc := 39) rfl rfl (by decide) (by decide) rfl (ko_s_MO_1 ko) ?_
    refine eb_bipush (pc := 42) (n := 50) (v := 50) rfl rfl ?_
    refine eb_iaload (pc := 44) rfl rfl (by decide) (by unfold vp_in; decide) ?_
    refine eb_ctV (pc := 45) (As := [.int x3, .int ((eb_J h s_m_numbers (((40 : Int32) * x1) + x4).toNatClampNeg).toInt32), .int (eb_I h s_m_all (50 : Int32).toNatClampNeg)]) (rest := []) rfl (by decide) rfl rfl (by decide) rfl (Nat.le_of_ble_eq_true rfl) ?_
    refine eb_Ct.mono w ?_
    rintro r h7 ⟨y8, rfl, ko9, w⟩
    change eb_Sn _ _ _ 48 _ [.int y8] _ _
    refine eb_if_eq (pc := 48) (tgt := 53) rfl (by decide) (fun c10 => ?_) (fun c10 => ?_)
    · replace w := w.1 c10
      refine eb_aload_n (pc := 53) (n := 0) (i := 0) rfl rfl rfl ?_
      refine eb_iload_n (pc := 54) (n := 3) (i := 3) rfl rfl rfl ?_
      refine eb_iload (pc := 55) (i := 5) rfl rfl ?_
      refine eb_ctV (pc := 57) (As := [.int x3, .int ((eb_J h s_m_numbers (((40 : Int32) * x1) + x4).toNatClampNeg).toInt32)]) (rest := []) rfl (by decide) rfl rfl (by decide) rfl (Nat.le_of_ble_eq_true rfl) ?_
      refine eb_Ct.mono w ?_
      rintro r h11 ⟨y12, rfl, ko13, w⟩
      change eb_Sn _ _ _ 60 _ [.int y12] _ _
      refine eb_istore_n (pc := 60) (n := 3) (i := 3) (ls2 := [(3, .int y12), (5, .int ((eb_J h s_m_numbers (((40 : Int32) * x1) + x4).toNatClampNeg).toInt32)), (0, .ref s_MO), (1, .int x1), (2, .int x2), (4, .int x4)]) rfl (Nat.le_of_ble_eq_true rfl) rfl rfl ?_
      refine eb_iinc (pc := 61) (i := 4) (n := 1) (v := x4 + 1) (ls2 := [(4, .int (x4 + 1)), (3, .int y12), (5, .int ((eb_J h s_m_numbers (((40 : Int32) * x1) + x4).toNatClampNeg).toInt32)), (0, .ref s_MO), (1, .int x1), (2, .int x2)]) (Nat.le_of_ble_eq_true rfl) rfl rfl rfl rfl ?_
      refine eb_goto (pc := 64) (tgt := 8) rfl (by decide) ?_
      exact eb_pick [3, 4, 5, 1, 0] rfl w
    · replace w := w.2 c10
      refine eb_iconst (pc := 51) (n := 0) (v := 0) rfl rfl ?_
      exact eb_ireturn (pc := 52) rfl rfl (by decide) w
theorem T_X11_isFlown {d : Nat} {h : eb_H} {Q : Option Value → eb_H → Prop} (x1 : Int32) (x2 : Int32)  (ko : eb_KO h) (w : eb_Sn (d + 1) m_X11_isFlown h 8 [(0, .ref s_MO), (1, .int x1), (2, .int x2), (3, .int (((64 : Int32) * (eb_I h s_m_all (31 : Int32).toNatClampNeg)) + (eb_I h s_m_all (32 : Int32).toNatClampNeg))), (4, .int 0)] [] h Q) : eb_Ct (d + 1) 255 [.ref s_MO, .int x1, .int x2] h Q :=
  eb_bodyQ (by decide) ok_X11_isFlown (Nat.le_of_ble_eq_true rfl) (b_X11_isFlown_0 (h0 := h) x1 x2  ko w)
theorem b_X11_kinds_0 {d : Nat} {h0 h : eb_H} {Q : Option Value → eb_H → Prop} (x1 : Int32) (x2 : Int32) (x3 : Int32)  (ko : eb_KO h) (w : ((¬ ((¬ (x1.toInt64 < 0)) ∧ (¬ (3 < x1.toInt64))) → Q (some (.int (-2))) (eb_sI h s_MO 0 0)) ∧ ((¬ (x1.toInt64 < 0)) ∧ (¬ (3 < x1.toInt64)) → (((¬ (x2.toInt64 < 0)) ∧ (¬ (((((eb_I (eb_sI h s_MO 0 0) s_m_all (1 : Int32).toNatClampNeg) * (eb_I (eb_sI h s_MO 0 0) s_m_all (2 : Int32).toNatClampNeg)) - 1).toInt64) < x2.toInt64)) → eb_Ct (d + 1) 254 [.ref s_MO, .int x1, .int x3] (eb_sI h s_MO 0 0) (fun r h7 => ∃ y8, r = some (.int y8) ∧ eb_KO h7 ∧ ((y8 = 0 → (vp_in ((34 : Int32) + x2) 3492) ∧ eb_Sn (d + 2) m_X11_kinds h0 62 [(0, .ref s_MO), (1, .int x1), (2, .int x2), (3, .int x3), (5, .int (eb_I h7 s_m_all ((34 : Int32) + x2).toNatClampNeg)), (6, .int 0), (7, .int 0)] [] h7 Q) ∧ (¬ (y8 = 0) → Q (some (.int y8)) h7)))) ∧ (¬ ((¬ (x2.toInt64 < 0)) ∧ (¬ (((((eb_I (eb_sI h s_MO 0 0) s_m_all (1 : Int32).toNatClampNeg) * (eb_I (eb_sI h s_MO 0 0) s_m_all (2 : Int32).toNatClampNeg)) - 1).toInt64) < x2.toInt64))) → Q (some (.int (-2))) (eb_sI h s_MO 0 0)))))) : eb_Sn (d + 2) m_X11_kinds h0 0 [(0, .ref s_MO), (1, .int x1), (2, .int x2), (3, .int x3)] [] h Q := by
  refine eb_aload_n (pc := 0) (n := 0) (i := 0) rfl rfl rfl ?_
  refine eb_iconst (pc := 1) (n := 0) (v := 0) rfl rfl ?_
  refine eb_putI (pc := 2) rfl rfl (by decide) (by decide) rfl rfl ⟨rfl, rfl⟩ ?_
  refine eb_iload_n (pc := 5) (n := 1) (i := 1) rfl rfl rfl ?_
  refine eb_i2l (pc := 6) rfl ?_
  refine eb_lconst (pc := 7) (n := 0) (v := 0) rfl rfl ?_
  refine eb_ldc2 (pc := 8) (a := 3) (v := 3) rfl (by decide) ?_
  refine eb_joinI (pc2 := 14) (ls2 := [(0, .ref s_MO), (1, .int x1), (2, .int x2), (3, .int x3)]) (st2 := []) (v := eb_q ((¬ (x1.toInt64 < 0)) ∧ (¬ (3 < x1.toInt64)))) ?_ (fun jj14 => ?_)
  · refine eb_if_eq (pc := 14) (tgt := 26) rfl (by decide) (fun c3 => ?_) (fun c3 => ?_)
    · replace c3 := eb_q0.mp c3
      replace w := w.1 c3
      refine eb_bipush (pc := 26) (n := -2) (v := (-2)) rfl rfl ?_
      exact eb_ireturn (pc := 28) rfl rfl rfl w
    · replace c3 := eb_q1.mp c3
      replace w := w.2 c3
      refine eb_aload_n (pc := 17) (n := 0) (i := 0) rfl rfl rfl ?_
      refine eb_iload_n (pc := 18) (n := 2) (i := 2) rfl rfl rfl ?_
      refine eb_i2l (pc := 19) rfl ?_
      refine eb_joinI (pc2 := 23) (ls2 := [(0, .ref s_MO), (1, .int x1), (2, .int x2), (3, .int x3)]) (st2 := []) (v := eb_q ((¬ (x2.toInt64 < 0)) ∧ (¬ (((((eb_I (eb_sI h s_MO 0 0) s_m_all (1 : Int32).toNatClampNeg) * (eb_I (eb_sI h s_MO 0 0) s_m_all (2 : Int32).toNatClampNeg)) - 1).toInt64) < x2.toInt64)))) ?_ (fun jj12 => ?_)
      · refine eb_if_ne (pc := 23) (tgt := 29) rfl (by decide) (fun c6 => ?_) (fun c6 => ?_)
        · replace c6 := eb_q1.mp c6
          replace w := w.1 c6
          refine eb_aload_n (pc := 29) (n := 0) (i := 0) rfl rfl rfl ?_
          refine eb_iload_n (pc := 30) (n := 1) (i := 1) rfl rfl rfl ?_
          refine eb_iload_n (pc := 31) (n := 3) (i := 3) rfl rfl rfl ?_
          refine eb_ctV (pc := 32) (As := [.int x1, .int x3]) (rest := []) rfl (by decide) rfl rfl (by decide) rfl (Nat.le_of_ble_eq_true rfl) ?_
          refine eb_Ct.mono w ?_
          rintro r h7 ⟨y8, rfl, ko9, w⟩
          change eb_Sn _ _ _ 35 _ [.int y8] _ _
          refine eb_istore (pc := 35) (i := 4) (ls2 := [(4, .int y8), (0, .ref s_MO), (1, .int x1), (2, .int x2), (3, .int x3)]) (Nat.le_of_ble_eq_true rfl) rfl rfl ?_
          refine eb_iload (pc := 37) (i := 4) rfl rfl ?_
          refine eb_if_eq (pc := 39) (tgt := 45) rfl (by decide) (fun c10 => ?_) (fun c10 => ?_)
          · replace w := w.1 c10
            refine eb_aload_n (pc := 45) (n := 0) (i := 0) rfl rfl rfl ?_
            refine eb_getR (pc := 46) rfl rfl (by decide) (by decide) rfl (ko_s_MO_1 ko9) ?_
            refine eb_bipush (pc := 49) (n := 34) (v := 34) rfl rfl ?_
            refine eb_iload_n (pc := 51) (n := 2) (i := 2) rfl rfl rfl ?_
            refine eb_iadd (pc := 52) rfl ?_
            obtain ⟨c11, w⟩ := w
            refine eb_iaload (pc := 53) rfl rfl (by decide) c11 ?_
            refine eb_istore (pc := 54) (i := 5) (ls2 := [(5, .int (eb_I h7 s_m_all ((34 : Int32) + x2).toNatClampNeg)), (4, .int y8), (0, .ref s_MO), (1, .int x1), (2, .int x2), (3, .int x3)]) (Nat.le_of_ble_eq_true rfl) rfl rfl ?_
            refine eb_iconst (pc := 56) (n := 0) (v := 0) rfl rfl ?_
            refine eb_istore (pc := 57) (i := 6) (ls2 := [(6, .int 0), (5, .int (eb_I h7 s_m_all ((34 : Int32) + x2).toNatClampNeg)), (4, .int y8), (0, .ref s_MO), (1, .int x1), (2, .int x2), (3, .int x3)]) (Nat.le_of_ble_eq_true rfl) rfl rfl ?_
            refine eb_iconst (pc := 59) (n := 0) (v := 0) rfl rfl ?_
            refine eb_istore (pc := 60) (i := 7) (ls2 := [(7, .int 0), (6, .int 0), (5, .int (eb_I h7 s_m_all ((34 : Int32) + x2).toNatClampNeg)), (4, .int y8), (0, .ref s_MO), (1, .int x1), (2, .int x2), (3, .int x3)]) (Nat.le_of_ble_eq_true rfl) rfl rfl ?_
            exact eb_pick [4, 5, 6, 7, 2, 1, 0] rfl w
          · replace w := w.2 c10
            refine eb_iload (pc := 42) (i := 4) rfl rfl ?_
            exact eb_ireturn (pc := 44) rfl rfl rfl w
        · replace c6 := eb_q0.mp c6
          replace w := w.2 c6
          refine eb_bipush (pc := 26) (n := -2) (v := (-2)) rfl rfl ?_
          exact eb_ireturn (pc := 28) rfl rfl rfl w
      refine eb_ctV (pc := 20) (As := [.long x2.toInt64]) (rest := []) rfl (by decide) rfl rfl (by decide) rfl (Nat.le_of_ble_eq_true rfl) ?_
      refine eb_bodyQ (by decide) ok_X11_isCell (Nat.le_of_ble_eq_true rfl) ?_
      change eb_Sn _ m_X11_isCell _ 0 [(0, .ref s_MO), (1, .long x2.toInt64)] [] _ _
      refine eb_lload_n (pc := 0) (n := 1) (i := 1) rfl rfl rfl ?_
      refine eb_lconst (pc := 1) (n := 0) (v := 0) rfl rfl ?_
      refine eb_aload_n (pc := 2) (n := 0) (i := 0) rfl rfl rfl ?_
      refine eb_ctV (pc := 3) (As := []) (rest := [.long 0, .long x2.toInt64]) rfl (by decide) rfl rfl (by decide) rfl (Nat.le_of_ble_eq_true rfl) ?_
      refine eb_bodyQ (by decide) ok_X11_cells (Nat.le_of_ble_eq_true rfl) ?_
      change eb_Sn _ m_X11_cells _ 0 [(0, .ref s_MO)] [] _ _
      refine eb_aload_n (pc := 0) (n := 0) (i := 0) rfl rfl rfl ?_
      refine eb_getR (pc := 1) rfl rfl (by decide) (by decide) rfl (ko_s_MO_1 ko) ?_
      refine eb_iconst (pc := 4) (n := 1) (v := 1) rfl rfl ?_
      refine eb_iaload (pc := 5) rfl rfl (by decide) (by unfold vp_in; decide) ?_
      refine eb_aload_n (pc := 6) (n := 0) (i := 0) rfl rfl rfl ?_
      refine eb_getR (pc := 7) rfl rfl (by decide) (by decide) rfl (ko_s_MO_1 ko) ?_
      refine eb_iconst (pc := 10) (n := 2) (v := 2) rfl rfl ?_
      refine eb_iaload (pc := 11) rfl rfl (by decide) (by unfold vp_in; decide) ?_
      refine eb_imul (pc := 12) rfl ?_
      refine eb_ireturn (pc := 13) rfl rfl rfl ?_
      change eb_Sn _ _ _ 6 _ [.int ((eb_I (eb_sI h s_MO 0 0) s_m_all (1 : Int32).toNatClampNeg) * (eb_I (eb_sI h s_MO 0 0) s_m_all (2 : Int32).toNatClampNeg)), .long 0, .long x2.toInt64] _ _
      refine eb_iconst (pc := 6) (n := 1) (v := 1) rfl rfl ?_
      refine eb_isub (pc := 7) rfl ?_
      refine eb_i2l (pc := 8) rfl ?_
      refine eb_ctS (pc := 9) (As := [.long x2.toInt64, .long 0, .long ((((eb_I (eb_sI h s_MO 0 0) s_m_all (1 : Int32).toNatClampNeg) * (eb_I (eb_sI h s_MO 0 0) s_m_all (2 : Int32).toNatClampNeg)) - 1).toInt64)]) (rest := []) rfl (by decide) (by decide) rfl rfl (Nat.le_of_ble_eq_true rfl) ?_
      refine eb_bodyQ (by decide) ok_X11_within (Nat.le_of_ble_eq_true rfl) ?_
      change eb_Sn _ m_X11_within _ 0 [(0, .long x2.toInt64), (2, .long 0), (4, .long ((((eb_I (eb_sI h s_MO 0 0) s_m_all (1 : Int32).toNatClampNeg) * (eb_I (eb_sI h s_MO 0 0) s_m_all (2 : Int32).toNatClampNeg)) - 1).toInt64))] [] _ _
      refine eb_lload_n (pc := 0) (n := 0) (i := 0) rfl rfl rfl ?_
      refine eb_lload_n (pc := 1) (n := 2) (i := 2) rfl rfl rfl ?_
      refine eb_lcmp (pc := 2) rfl ?_
      refine eb_if_lt (pc := 3) (tgt := 17) rfl (by decide) (fun c4 => ?_) (fun c4 => ?_)
      · replace c4 := eb_lc_lt.mp c4
        refine eb_iconst (pc := 17) (n := 0) (v := 0) rfl rfl ?_
        refine eb_ireturn (pc := 18) rfl rfl (by decide) ?_
        change eb_Sn _ _ _ 12 _ [.int 0] _ _
        refine eb_ireturn (pc := 12) rfl rfl (by decide) ?_
        change eb_Sn _ _ _ 23 _ _ _ _
        exact jj12 0 (eb_qf (fun z => z.1 c4)).symm
      · replace c4 := (fun hh => mt eb_lc_lt.mpr hh) c4
        refine eb_lload_n (pc := 6) (n := 0) (i := 0) rfl rfl rfl ?_
        refine eb_lload (pc := 7) (i := 4) rfl rfl ?_
        refine eb_lcmp (pc := 9) rfl ?_
        refine eb_if_gt (pc := 10) (tgt := 17) rfl (by decide) (fun c5 => ?_) (fun c5 => ?_)
        · replace c5 := eb_lc_gt.mp c5
          refine eb_iconst (pc := 17) (n := 0) (v := 0) rfl rfl ?_
          refine eb_ireturn (pc := 18) rfl rfl (by decide) ?_
          change eb_Sn _ _ _ 12 _ [.int 0] _ _
          refine eb_ireturn (pc := 12) rfl rfl (by decide) ?_
          change eb_Sn _ _ _ 23 _ _ _ _
          exact jj12 0 (eb_qf (fun z => (fun z => z c5) z.2)).symm
        · replace c5 := (fun hh => mt eb_lc_gt.mpr hh) c5
          refine eb_iconst (pc := 13) (n := 1) (v := 1) rfl rfl ?_
          refine eb_goto (pc := 14) (tgt := 18) rfl (by decide) ?_
          refine eb_ireturn (pc := 18) rfl rfl (by decide) ?_
          change eb_Sn _ _ _ 12 _ [.int 1] _ _
          refine eb_ireturn (pc := 12) rfl rfl (by decide) ?_
          change eb_Sn _ _ _ 23 _ _ _ _
          exact jj12 1 (eb_qt (⟨c4, c5⟩)).symm
  refine eb_ctS (pc := 11) (As := [.long x1.toInt64, .long 0, .long 3]) (rest := []) rfl (by decide) (by decide) rfl rfl (Nat.le_of_ble_eq_true rfl) ?_
  refine eb_bodyQ (by decide) ok_X11_within (Nat.le_of_ble_eq_true rfl) ?_
  change eb_Sn _ m_X11_within _ 0 [(0, .long x1.toInt64), (2, .long 0), (4, .long 3)] [] _ _
  refine eb_lload_n (pc := 0) (n := 0) (i := 0) rfl rfl rfl ?_
  refine eb_lload_n (pc := 1) (n := 2) (i := 2) rfl rfl rfl ?_
  refine eb_lcmp (pc := 2) rfl ?_
  refine eb_if_lt (pc := 3) (tgt := 17) rfl (by decide) (fun c1 => ?_) (fun c1 => ?_)
  · replace c1 := eb_lc_lt.mp c1
    refine eb_iconst (pc := 17) (n := 0) (v := 0) rfl rfl ?_
    refine eb_ireturn (pc := 18) rfl rfl (by decide) ?_
    change eb_Sn _ _ _ 14 _ _ _ _
    exact jj14 0 (eb_qf (fun z => z.1 c1)).symm
  · replace c1 := (fun hh => mt eb_lc_lt.mpr hh) c1
    refine eb_lload_n (pc := 6) (n := 0) (i := 0) rfl rfl rfl ?_
    refine eb_lload (pc := 7) (i := 4) rfl rfl ?_
    refine eb_lcmp (pc := 9) rfl ?_
    refine eb_if_gt (pc := 10) (tgt := 17) rfl (by decide) (fun c2 => ?_) (fun c2 => ?_)
    · replace c2 := eb_lc_gt.mp c2
      refine eb_iconst (pc := 17) (n := 0) (v := 0) rfl rfl ?_
      refine eb_ireturn (pc := 18) rfl rfl (by decide) ?_
      change eb_Sn _ _ _ 14 _ _ _ _
      exact jj14 0 (eb_qf (fun z => (fun z => z c2) z.2)).symm
    · replace c2 := (fun hh => mt eb_lc_gt.mpr hh) c2
      refine eb_iconst (pc := 13) (n := 1) (v := 1) rfl rfl ?_
      refine eb_goto (pc := 14) (tgt := 18) rfl (by decide) ?_
      refine eb_ireturn (pc := 18) rfl rfl (by decide) ?_
      change eb_Sn _ _ _ 14 _ _ _ _
      exact jj14 1 (eb_qt (⟨c1, c2⟩)).symm
theorem b_X11_kinds_62 {d : Nat} {h0 h : eb_H} {Q : Option Value → eb_H → Prop} (x1 : Int32) (x2 : Int32) (x3 : Int32) (x5 : Int32) (x6 : Int32) (x7 : Int32)  (ko : eb_KO h) (w : (((6 : Int32) < x7 → (vp_in ((34 : Int32) + x2) 3492) ∧ Q (some (.int x6)) (eb_sI h s_m_all ((34 : Int32) + x2).toNatClampNeg x5)) ∧ (¬ ((6 : Int32) < x7) → (vp_in ((34 : Int32) + x2) 3492) ∧ eb_Ct (d + 1) 255 [.ref s_MO, .int x1, .int x3] (eb_sI h s_m_all ((34 : Int32) + x2).toNatClampNeg x7) (fun r h4 => ∃ y5, r = some (.int y5) ∧ eb_KO h4 ∧ eb_Sn (d + 2) m_X11_kinds h0 62 [(0, .ref s_MO), (1, .int x1), (2, .int x2), (3, .int x3), (5, .int x5), (6, .int (x6 ||| (if y5 = 0 then 0 else (1 : Int32) <<< (x7 &&& 31) : Int32))), (7, .int (x7 + 1))] [] h4 Q)))) : eb_Sn (d + 2) m_X11_kinds h0 62 [(0, .ref s_MO), (1, .int x1), (2, .int x2), (3, .int x3), (5, .int x5), (6, .int x6), (7, .int x7)] [] h Q := by
  refine eb_iload (pc := 62) (i := 7) rfl rfl ?_
  refine eb_bipush (pc := 64) (n := 6) (v := 6) rfl rfl ?_
  refine eb_icmp_gt (pc := 66) (tgt := 108) rfl (by decide) (fun c1 => ?_) (fun c1 => ?_)
  · replace w := w.1 c1
    refine eb_aload_n (pc := 108) (n := 0) (i := 0) rfl rfl rfl ?_
    refine eb_getR (pc := 109) rfl rfl (by decide) (by decide) rfl (ko_s_MO_1 ko) ?_
    refine eb_bipush (pc := 112) (n := 34) (v := 34) rfl rfl ?_
    refine eb_iload_n (pc := 114) (n := 2) (i := 2) rfl rfl rfl ?_
    refine eb_iadd (pc := 115) rfl ?_
    refine eb_iload (pc := 116) (i := 5) rfl rfl ?_
    obtain ⟨c2, w⟩ := w
    refine eb_iastore (pc := 118) rfl rfl (by decide) c2 ?_
    refine eb_iload (pc := 119) (i := 6) rfl rfl ?_
    exact eb_ireturn (pc := 121) rfl rfl rfl w
  · replace w := w.2 c1
    refine eb_aload_n (pc := 69) (n := 0) (i := 0) rfl rfl rfl ?_
    refine eb_getR (pc := 70) rfl rfl (by decide) (by decide) rfl (ko_s_MO_1 ko) ?_
    refine eb_bipush (pc := 73) (n := 34) (v := 34) rfl rfl ?_
    refine eb_iload_n (pc := 75) (n := 2) (i := 2) rfl rfl rfl ?_
    refine eb_iadd (pc := 76) rfl ?_
    refine eb_iload (pc := 77) (i := 7) rfl rfl ?_
    obtain ⟨c3, w⟩ := w
    refine eb_iastore (pc := 79) rfl rfl (by decide) c3 ?_
    refine eb_iload (pc := 80) (i := 6) rfl rfl ?_
    refine eb_aload_n (pc := 82) (n := 0) (i := 0) rfl rfl rfl ?_
    refine eb_iload_n (pc := 83) (n := 1) (i := 1) rfl rfl rfl ?_
    refine eb_iload_n (pc := 84) (n := 3) (i := 3) rfl rfl rfl ?_
    refine eb_ctV (pc := 85) (As := [.int x1, .int x3]) (rest := [.int x6]) rfl (by decide) rfl rfl (by decide) rfl (Nat.le_of_ble_eq_true rfl) ?_
    refine eb_Ct.mono w ?_
    rintro r h4 ⟨y5, rfl, ko6, w⟩
    change eb_Sn _ _ _ 88 _ [.int y5, .int x6] _ _
    refine eb_joinI (pc2 := 99) (ls2 := [(0, .ref s_MO), (1, .int x1), (2, .int x2), (3, .int x3), (5, .int x5), (6, .int x6), (7, .int x7)]) (st2 := [.int x6]) (v := (if y5 = 0 then 0 else (1 : Int32) <<< (x7 &&& 31) : Int32)) ?_ (fun jj8 => ?_)
    · refine eb_ior (pc := 99) rfl ?_
      refine eb_istore (pc := 100) (i := 6) (ls2 := [(6, .int (x6 ||| (if y5 = 0 then 0 else (1 : Int32) <<< (x7 &&& 31) : Int32))), (0, .ref s_MO), (1, .int x1), (2, .int x2), (3, .int x3), (5, .int x5), (7, .int x7)]) (Nat.le_of_ble_eq_true rfl) rfl rfl ?_
      refine eb_iinc (pc := 102) (i := 7) (n := 1) (v := x7 + 1) (ls2 := [(7, .int (x7 + 1)), (6, .int (x6 ||| (if y5 = 0 then 0 else (1 : Int32) <<< (x7 &&& 31) : Int32))), (0, .ref s_MO), (1, .int x1), (2, .int x2), (3, .int x3), (5, .int x5)]) (Nat.le_of_ble_eq_true rfl) rfl rfl rfl rfl ?_
      refine eb_goto (pc := 105) (tgt := 62) rfl (by decide) ?_
      exact eb_pick [2, 3, 4, 5, 6, 1, 0] rfl w
    refine eb_if_eq (pc := 88) (tgt := 98) rfl (by decide) (fun c7 => ?_) (fun c7 => ?_)
    · refine eb_iconst (pc := 98) (n := 0) (v := 0) rfl rfl ?_
      exact jj8 _ (by simp only [if_pos c7])
    · refine eb_iconst (pc := 91) (n := 1) (v := 1) rfl rfl ?_
      refine eb_iload (pc := 92) (i := 7) rfl rfl ?_
      refine eb_ishl (pc := 94) rfl ?_
      refine eb_goto (pc := 95) (tgt := 99) rfl (by decide) ?_
      exact jj8 _ (by simp only [if_neg c7])
theorem T_X11_kinds {d : Nat} {h : eb_H} {Q : Option Value → eb_H → Prop} (x1 : Int32) (x2 : Int32) (x3 : Int32)  (ko : eb_KO h) (w : ((¬ ((¬ (x1.toInt64 < 0)) ∧ (¬ (3 < x1.toInt64))) → Q (some (.int (-2))) (eb_sI h s_MO 0 0)) ∧ ((¬ (x1.toInt64 < 0)) ∧ (¬ (3 < x1.toInt64)) → (((¬ (x2.toInt64 < 0)) ∧ (¬ (((((eb_I (eb_sI h s_MO 0 0) s_m_all (1 : Int32).toNatClampNeg) * (eb_I (eb_sI h s_MO 0 0) s_m_all (2 : Int32).toNatClampNeg)) - 1).toInt64) < x2.toInt64)) → eb_Ct (d + 1) 254 [.ref s_MO, .int x1, .int x3] (eb_sI h s_MO 0 0) (fun r h7 => ∃ y8, r = some (.int y8) ∧ eb_KO h7 ∧ ((y8 = 0 → (vp_in ((34 : Int32) + x2) 3492) ∧ eb_Sn (d + 2) m_X11_kinds h 62 [(0, .ref s_MO), (1, .int x1), (2, .int x2), (3, .int x3), (5, .int (eb_I h7 s_m_all ((34 : Int32) + x2).toNatClampNeg)), (6, .int 0), (7, .int 0)] [] h7 Q) ∧ (¬ (y8 = 0) → Q (some (.int y8)) h7)))) ∧ (¬ ((¬ (x2.toInt64 < 0)) ∧ (¬ (((((eb_I (eb_sI h s_MO 0 0) s_m_all (1 : Int32).toNatClampNeg) * (eb_I (eb_sI h s_MO 0 0) s_m_all (2 : Int32).toNatClampNeg)) - 1).toInt64) < x2.toInt64))) → Q (some (.int (-2))) (eb_sI h s_MO 0 0)))))) : eb_Ct (d + 2) 256 [.ref s_MO, .int x1, .int x2, .int x3] h Q :=
  eb_bodyQ (by decide) ok_X11_kinds (Nat.le_of_ble_eq_true rfl) (b_X11_kinds_0 (h0 := h) x1 x2 x3  ko w)
theorem b_X11_windsOf_0 {d : Nat} {h0 h : eb_H} {Q : Option Value → eb_H → Prop} (x1 : Int32) (x2 : Int32)  (ko : eb_KO h) (w : eb_Sn (d + 1) m_X11_windsOf h0 14 [(0, .ref s_MO), (1, .int x1), (2, .int x2), (3, .int (eb_I h s_m_all (51 : Int32).toNatClampNeg)), (4, .int 0), (5, .int 0)] [] h Q) : eb_Sn (d + 1) m_X11_windsOf h0 0 [(0, .ref s_MO), (1, .int x1), (2, .int x2)] [] h Q := by
  refine eb_aload_n (pc := 0) (n := 0) (i := 0) rfl rfl rfl ?_
  refine eb_getR (pc := 1) rfl rfl (by decide) (by decide) rfl (ko_s_MO_1 ko) ?_
  refine eb_bipush (pc := 4) (n := 51) (v := 51) rfl rfl ?_
  refine eb_iaload (pc := 6) rfl rfl (by decide) (by unfold vp_in; decide) ?_
  refine eb_istore_n (pc := 7) (n := 3) (i := 3) (ls2 := [(3, .int (eb_I h s_m_all (51 : Int32).toNatClampNeg)), (0, .ref s_MO), (1, .int x1), (2, .int x2)]) rfl (Nat.le_of_ble_eq_true rfl) rfl rfl ?_
  refine eb_iconst (pc := 8) (n := 0) (v := 0) rfl rfl ?_
  refine eb_istore (pc := 9) (i := 4) (ls2 := [(4, .int 0), (3, .int (eb_I h s_m_all (51 : Int32).toNatClampNeg)), (0, .ref s_MO), (1, .int x1), (2, .int x2)]) (Nat.le_of_ble_eq_true rfl) rfl rfl ?_
  refine eb_iconst (pc := 11) (n := 0) (v := 0) rfl rfl ?_
  refine eb_istore (pc := 12) (i := 5) (ls2 := [(5, .int 0), (4, .int 0), (3, .int (eb_I h s_m_all (51 : Int32).toNatClampNeg)), (0, .ref s_MO), (1, .int x1), (2, .int x2)]) (Nat.le_of_ble_eq_true rfl) rfl rfl ?_
  exact eb_pick [3, 4, 5, 2, 1, 0] rfl w
theorem b_X11_windsOf_14 {d : Nat} {h0 h : eb_H} {Q : Option Value → eb_H → Prop} (x1 : Int32) (x2 : Int32) (x3 : Int32) (x4 : Int32) (x5 : Int32)  (ko : eb_KO h) (w : (((10 : Int32) ≤ x5 → Q (some (.int x4)) (eb_sI h s_m_all (51 : Int32).toNatClampNeg x3)) ∧ (¬ ((10 : Int32) ≤ x5) → eb_Ct d 255 [.ref s_MO, .int x1, .int x2] (eb_sI h s_m_all (51 : Int32).toNatClampNeg x5) (fun r h2 => ∃ y3, r = some (.int y3) ∧ eb_KO h2 ∧ eb_Sn (d + 1) m_X11_windsOf h0 14 [(0, .ref s_MO), (1, .int x1), (2, .int x2), (3, .int x3), (4, .int (x4 ||| (if y3 = 0 then 0 else (1 : Int32) <<< (x5 &&& 31) : Int32))), (5, .int (x5 + 1))] [] h2 Q)))) : eb_Sn (d + 1) m_X11_windsOf h0 14 [(0, .ref s_MO), (1, .int x1), (2, .int x2), (3, .int x3), (4, .int x4), (5, .int x5)] [] h Q := by
  refine eb_iload (pc := 14) (i := 5) rfl rfl ?_
  refine eb_bipush (pc := 16) (n := 10) (v := 10) rfl rfl ?_
  refine eb_icmp_ge (pc := 18) (tgt := 58) rfl (by decide) (fun c1 => ?_) (fun c1 => ?_)
  · replace w := w.1 c1
    refine eb_aload_n (pc := 58) (n := 0) (i := 0) rfl rfl rfl ?_
    refine eb_getR (pc := 59) rfl rfl (by decide) (by decide) rfl (ko_s_MO_1 ko) ?_
    refine eb_bipush (pc := 62) (n := 51) (v := 51) rfl rfl ?_
    refine eb_iload_n (pc := 64) (n := 3) (i := 3) rfl rfl rfl ?_
    refine eb_iastore (pc := 65) rfl rfl (by decide) (by unfold vp_in; decide) ?_
    refine eb_iload (pc := 66) (i := 4) rfl rfl ?_
    exact eb_ireturn (pc := 68) rfl rfl rfl w
  · replace w := w.2 c1
    refine eb_aload_n (pc := 21) (n := 0) (i := 0) rfl rfl rfl ?_
    refine eb_getR (pc := 22) rfl rfl (by decide) (by decide) rfl (ko_s_MO_1 ko) ?_
    refine eb_bipush (pc := 25) (n := 51) (v := 51) rfl rfl ?_
    refine eb_iload (pc := 27) (i := 5) rfl rfl ?_
    refine eb_iastore (pc := 29) rfl rfl (by decide) (by unfold vp_in; decide) ?_
    refine eb_iload (pc := 30) (i := 4) rfl rfl ?_
    refine eb_aload_n (pc := 32) (n := 0) (i := 0) rfl rfl rfl ?_
    refine eb_iload_n (pc := 33) (n := 1) (i := 1) rfl rfl rfl ?_
    refine eb_iload_n (pc := 34) (n := 2) (i := 2) rfl rfl rfl ?_
    refine eb_ctV (pc := 35) (As := [.int x1, .int x2]) (rest := [.int x4]) rfl (by decide) rfl rfl (by decide) rfl (Nat.le_of_ble_eq_true rfl) ?_
    refine eb_Ct.mono w ?_
    rintro r h2 ⟨y3, rfl, ko4, w⟩
    change eb_Sn _ _ _ 38 _ [.int y3, .int x4] _ _
    refine eb_joinI (pc2 := 49) (ls2 := [(0, .ref s_MO), (1, .int x1), (2, .int x2), (3, .int x3), (4, .int x4), (5, .int x5)]) (st2 := [.int x4]) (v := (if y3 = 0 then 0 else (1 : Int32) <<< (x5 &&& 31) : Int32)) ?_ (fun jj6 => ?_)
    · refine eb_ior (pc := 49) rfl ?_
      refine eb_istore (pc := 50) (i := 4) (ls2 := [(4, .int (x4 ||| (if y3 = 0 then 0 else (1 : Int32) <<< (x5 &&& 31) : Int32))), (0, .ref s_MO), (1, .int x1), (2, .int x2), (3, .int x3), (5, .int x5)]) (Nat.le_of_ble_eq_true rfl) rfl rfl ?_
      refine eb_iinc (pc := 52) (i := 5) (n := 1) (v := x5 + 1) (ls2 := [(5, .int (x5 + 1)), (4, .int (x4 ||| (if y3 = 0 then 0 else (1 : Int32) <<< (x5 &&& 31) : Int32))), (0, .ref s_MO), (1, .int x1), (2, .int x2), (3, .int x3)]) (Nat.le_of_ble_eq_true rfl) rfl rfl rfl rfl ?_
      refine eb_goto (pc := 55) (tgt := 14) rfl (by decide) ?_
      exact eb_pick [2, 3, 4, 5, 1, 0] rfl w
    refine eb_if_eq (pc := 38) (tgt := 48) rfl (by decide) (fun c5 => ?_) (fun c5 => ?_)
    · refine eb_iconst (pc := 48) (n := 0) (v := 0) rfl rfl ?_
      exact jj6 _ (by simp only [if_pos c5])
    · refine eb_iconst (pc := 41) (n := 1) (v := 1) rfl rfl ?_
      refine eb_iload (pc := 42) (i := 5) rfl rfl ?_
      refine eb_ishl (pc := 44) rfl ?_
      refine eb_goto (pc := 45) (tgt := 49) rfl (by decide) ?_
      exact jj6 _ (by simp only [if_neg c5])
theorem T_X11_windsOf {d : Nat} {h : eb_H} {Q : Option Value → eb_H → Prop} (x1 : Int32) (x2 : Int32)  (ko : eb_KO h) (w : eb_Sn (d + 1) m_X11_windsOf h 14 [(0, .ref s_MO), (1, .int x1), (2, .int x2), (3, .int (eb_I h s_m_all (51 : Int32).toNatClampNeg)), (4, .int 0), (5, .int 0)] [] h Q) : eb_Ct (d + 1) 257 [.ref s_MO, .int x1, .int x2] h Q :=
  eb_bodyQ (by decide) ok_X11_windsOf (Nat.le_of_ble_eq_true rfl) (b_X11_windsOf_0 (h0 := h) x1 x2  ko w)
theorem b_X11_winds_0 {d : Nat} {h0 h : eb_H} {Q : Option Value → eb_H → Prop} (x1 : Int32) (x2 : Int32)  (ko : eb_KO h) (w : eb_Ct d 254 [.ref s_MO, .int x1, .int x2] (eb_sI h s_MO 0 0) (fun r h1 => ∃ y2, r = some (.int y2) ∧ eb_KO h1 ∧ ((y2 = 0 → eb_Ct d 257 [.ref s_MO, .int x1, .int x2] h1 (fun r h5 => ∃ y6, r = some (.int y6) ∧ eb_KO h5 ∧ Q (some (.int y6)) h5)) ∧ (¬ (y2 = 0) → Q (some (.int y2)) h1)))) : eb_Sn (d + 1) m_X11_winds h0 0 [(0, .ref s_MO), (1, .int x1), (2, .int x2)] [] h Q := by
  refine eb_aload_n (pc := 0) (n := 0) (i := 0) rfl rfl rfl ?_
  refine eb_iconst (pc := 1) (n := 0) (v := 0) rfl rfl ?_
  refine eb_putI (pc := 2) rfl rfl (by decide) (by decide) rfl rfl ⟨rfl, rfl⟩ ?_
  refine eb_aload_n (pc := 5) (n := 0) (i := 0) rfl rfl rfl ?_
  refine eb_iload_n (pc := 6) (n := 1) (i := 1) rfl rfl rfl ?_
  refine eb_iload_n (pc := 7) (n := 2) (i := 2) rfl rfl rfl ?_
  refine eb_ctV (pc := 8) (As := [.int x1, .int x2]) (rest := []) rfl (by decide) rfl rfl (by decide) rfl (Nat.le_of_ble_eq_true rfl) ?_
  refine eb_Ct.mono w ?_
  rintro r h1 ⟨y2, rfl, ko3, w⟩
  change eb_Sn _ _ _ 11 _ [.int y2] _ _
  refine eb_istore_n (pc := 11) (n := 3) (i := 3) (ls2 := [(3, .int y2), (0, .ref s_MO), (1, .int x1), (2, .int x2)]) rfl (Nat.le_of_ble_eq_true rfl) rfl rfl ?_
  refine eb_iload_n (pc := 12) (n := 3) (i := 3) rfl rfl rfl ?_
  refine eb_if_eq (pc := 13) (tgt := 20) rfl (by decide) (fun c4 => ?_) (fun c4 => ?_)
  · replace w := w.1 c4
    refine eb_aload_n (pc := 20) (n := 0) (i := 0) rfl rfl rfl ?_
    refine eb_iload_n (pc := 21) (n := 1) (i := 1) rfl rfl rfl ?_
    refine eb_iload_n (pc := 22) (n := 2) (i := 2) rfl rfl rfl ?_
    refine eb_ctV (pc := 23) (As := [.int x1, .int x2]) (rest := []) rfl (by decide) rfl rfl (by decide) rfl (Nat.le_of_ble_eq_true rfl) ?_
    refine eb_Ct.mono w ?_
    rintro r h5 ⟨y6, rfl, ko7, w⟩
    change eb_Sn _ _ _ 26 _ [.int y6] _ _
    exact eb_ireturn (pc := 26) rfl rfl rfl w
  · replace w := w.2 c4
    refine eb_iload_n (pc := 16) (n := 3) (i := 3) rfl rfl rfl ?_
    refine eb_goto (pc := 17) (tgt := 26) rfl (by decide) ?_
    exact eb_ireturn (pc := 26) rfl rfl rfl w
theorem T_X11_winds {d : Nat} {h : eb_H} {Q : Option Value → eb_H → Prop} (x1 : Int32) (x2 : Int32)  (ko : eb_KO h) (w : eb_Ct d 254 [.ref s_MO, .int x1, .int x2] (eb_sI h s_MO 0 0) (fun r h1 => ∃ y2, r = some (.int y2) ∧ eb_KO h1 ∧ ((y2 = 0 → eb_Ct d 257 [.ref s_MO, .int x1, .int x2] h1 (fun r h5 => ∃ y6, r = some (.int y6) ∧ eb_KO h5 ∧ Q (some (.int y6)) h5)) ∧ (¬ (y2 = 0) → Q (some (.int y2)) h1)))) : eb_Ct (d + 1) 258 [.ref s_MO, .int x1, .int x2] h Q :=
  eb_bodyQ (by decide) ok_X11_winds (Nat.le_of_ble_eq_true rfl) (b_X11_winds_0 (h0 := h) x1 x2  ko w)
theorem b_X11_mostAlike_0 {d : Nat} {h0 h : eb_H} {Q : Option Value → eb_H → Prop} (x1 : Int32) (x2 : Int32)  (ko : eb_KO h) (w : eb_Sn (d + 1) m_X11_mostAlike h0 14 [(0, .ref s_MO), (1, .int x1), (2, .int x2), (3, .int (eb_I h s_m_all (51 : Int32).toNatClampNeg)), (4, .int 0), (5, .int 0)] [] h Q) : eb_Sn (d + 1) m_X11_mostAlike h0 0 [(0, .ref s_MO), (1, .int x1), (2, .int x2)] [] h Q := by
  refine eb_aload_n (pc := 0) (n := 0) (i := 0) rfl rfl rfl ?_
  refine eb_getR (pc := 1) rfl rfl (by decide) (by decide) rfl (ko_s_MO_1 ko) ?_
  refine eb_bipush (pc := 4) (n := 51) (v := 51) rfl rfl ?_
  refine eb_iaload (pc := 6) rfl rfl (by decide) (by unfold vp_in; decide) ?_
  refine eb_istore_n (pc := 7) (n := 3) (i := 3) (ls2 := [(3, .int (eb_I h s_m_all (51 : Int32).toNatClampNeg)), (0, .ref s_MO), (1, .int x1), (2, .int x2)]) rfl (Nat.le_of_ble_eq_true rfl) rfl rfl ?_
  refine eb_iconst (pc := 8) (n := 0) (v := 0) rfl rfl ?_
  refine eb_istore (pc := 9) (i := 4) (ls2 := [(4, .int 0), (3, .int (eb_I h s_m_all (51 : Int32).toNatClampNeg)), (0, .ref s_MO), (1, .int x1), (2, .int x2)]) (Nat.le_of_ble_eq_true rfl) rfl rfl ?_
  refine eb_iconst (pc := 11) (n := 0) (v := 0) rfl rfl ?_
  refine eb_istore (pc := 12) (i := 5) (ls2 := [(5, .int 0), (4, .int 0), (3, .int (eb_I h s_m_all (51 : Int32).toNatClampNeg)), (0, .ref s_MO), (1, .int x1), (2, .int x2)]) (Nat.le_of_ble_eq_true rfl) rfl rfl ?_
  exact eb_pick [3, 4, 5, 2, 1, 0] rfl w
theorem b_X11_mostAlike_14 {d : Nat} {h0 h : eb_H} {Q : Option Value → eb_H → Prop} (x1 : Int32) (x2 : Int32) (x3 : Int32) (x4 : Int32) (x5 : Int32)  (ko : eb_KO h) (w : (((10 : Int32) ≤ x5 → eb_Sn (d + 1) m_X11_mostAlike h0 92 [(0, .ref s_MO), (4, .int x4), (5, .int 0)] [] (eb_sI h s_m_all (51 : Int32).toNatClampNeg x3) Q) ∧ (¬ ((10 : Int32) ≤ x5) → ((((x2.toInt64 >>> (x5.toInt64 &&& 63)) &&& 1) = 1 → eb_Ct d 203 [.ref s_MO, .int x1] (eb_sI h s_m_all (51 : Int32).toNatClampNeg x5) (fun r h4 => ∃ y5, r = some (.int y5) ∧ eb_KO h4 ∧ ((¬ y5 = 0 → (vp_in x5 10) ∧ eb_Sn (d + 1) m_X11_mostAlike h0 14 [(0, .ref s_MO), (1, .int x1), (2, .int x2), (3, .int x3), (4, .int x4), (5, .int (x5 + 1))] [] (eb_sI h4 s_m_standBy x5.toNatClampNeg (((64 : Int32) * (eb_I h4 s_m_all (31 : Int32).toNatClampNeg)) + (eb_I h4 s_m_all (32 : Int32).toNatClampNeg))) Q) ∧ (y5 = 0 → eb_Ct d 200 [.ref s_MO, .int (((64 : Int32) * (eb_I h4 s_m_all (31 : Int32).toNatClampNeg)) + (eb_I h4 s_m_all (32 : Int32).toNatClampNeg)), .int x1] h4 (fun r h9 => ∃ y10, r = some (.int y10) ∧ eb_KO h9 ∧ (vp_in x5 10) ∧ eb_Sn (d + 1) m_X11_mostAlike h0 14 [(0, .ref s_MO), (1, .int x1), (2, .int x2), (3, .int x3), (4, .int x4), (5, .int (x5 + 1))] [] (eb_sI h9 s_m_standBy x5.toNatClampNeg y10) Q))))) ∧ (¬ (((x2.toInt64 >>> (x5.toInt64 &&& 63)) &&& 1) = 1) → (vp_in x5 10) ∧ eb_Sn (d + 1) m_X11_mostAlike h0 14 [(0, .ref s_MO), (1, .int x1), (2, .int x2), (3, .int x3), (4, .int x4), (5, .int (x5 + 1))] [] (eb_sI (eb_sI h s_m_all (51 : Int32).toNatClampNeg x5) s_m_standBy x5.toNatClampNeg (-1)) Q))))) : eb_Sn (d + 1) m_X11_mostAlike h0 14 [(0, .ref s_MO), (1, .int x1), (2, .int x2), (3, .int x3), (4, .int x4), (5, .int x5)] [] h Q := by
  refine eb_iload (pc := 14) (i := 5) rfl rfl ?_
  refine eb_bipush (pc := 16) (n := 10) (v := 10) rfl rfl ?_
  refine eb_icmp_ge (pc := 18) (tgt := 81) rfl (by decide) (fun c1 => ?_) (fun c1 => ?_)
  · replace w := w.1 c1
    refine eb_aload_n (pc := 81) (n := 0) (i := 0) rfl rfl rfl ?_
    refine eb_getR (pc := 82) rfl rfl (by decide) (by decide) rfl (ko_s_MO_1 ko) ?_
    refine eb_bipush (pc := 85) (n := 51) (v := 51) rfl rfl ?_
    refine eb_iload_n (pc := 87) (n := 3) (i := 3) rfl rfl rfl ?_
    refine eb_iastore (pc := 88) rfl rfl (by decide) (by unfold vp_in; decide) ?_
    refine eb_iconst (pc := 89) (n := 0) (v := 0) rfl rfl ?_
    refine eb_istore (pc := 90) (i := 5) (ls2 := [(5, .int 0), (0, .ref s_MO), (1, .int x1), (2, .int x2), (3, .int x3), (4, .int x4)]) (Nat.le_of_ble_eq_true rfl) rfl rfl ?_
    exact eb_pick [1, 5, 0] rfl w
  · replace w := w.2 c1
    refine eb_aload_n (pc := 21) (n := 0) (i := 0) rfl rfl rfl ?_
    refine eb_getR (pc := 22) rfl rfl (by decide) (by decide) rfl (ko_s_MO_1 ko) ?_
    refine eb_bipush (pc := 25) (n := 51) (v := 51) rfl rfl ?_
    refine eb_iload (pc := 27) (i := 5) rfl rfl ?_
    refine eb_iastore (pc := 29) rfl rfl (by decide) (by unfold vp_in; decide) ?_
    refine eb_aload_n (pc := 30) (n := 0) (i := 0) rfl rfl rfl ?_
    refine eb_getR (pc := 31) rfl rfl (by decide) (by decide) rfl (ko_s_MO_27 ko) ?_
    refine eb_iload (pc := 34) (i := 5) rfl rfl ?_
    refine eb_iload_n (pc := 36) (n := 2) (i := 2) rfl rfl rfl ?_
    refine eb_i2l (pc := 37) rfl ?_
    refine eb_iload (pc := 38) (i := 5) rfl rfl ?_
    refine eb_joinI (pc2 := 43) (ls2 := [(0, .ref s_MO), (1, .int x1), (2, .int x2), (3, .int x3), (4, .int x4), (5, .int x5)]) (st2 := [.int x5, .ref s_m_standBy]) (v := eb_q (((x2.toInt64 >>> (x5.toInt64 &&& 63)) &&& 1) = 1)) ?_ (fun jj14 => ?_)
    · refine eb_if_ne (pc := 43) (tgt := 50) rfl (by decide) (fun c3 => ?_) (fun c3 => ?_)
      · replace c3 := eb_q1.mp c3
        replace w := w.1 c3
        refine eb_aload_n (pc := 50) (n := 0) (i := 0) rfl rfl rfl ?_
        refine eb_iload_n (pc := 51) (n := 1) (i := 1) rfl rfl rfl ?_
        refine eb_ctV (pc := 52) (As := [.int x1]) (rest := [.int x5, .ref s_m_standBy]) rfl (by decide) rfl rfl (by decide) rfl (Nat.le_of_ble_eq_true rfl) ?_
        refine eb_Ct.mono w ?_
        rintro r h4 ⟨y5, rfl, ko6, w⟩
        change eb_Sn _ _ _ 55 _ [.int y5, .int x5, .ref s_m_standBy] _ _
        refine eb_if_ne (pc := 55) (tgt := 70) rfl (by decide) (fun c7 => ?_) (fun c7 => ?_)
        · replace w := w.1 c7
          refine eb_aload_n (pc := 70) (n := 0) (i := 0) rfl rfl rfl ?_
          refine eb_ctV (pc := 71) (As := []) (rest := [.int x5, .ref s_m_standBy]) rfl (by decide) rfl rfl (by decide) rfl (Nat.le_of_ble_eq_true rfl) ?_
          refine eb_bodyQ (by decide) ok_X11_standNow (Nat.le_of_ble_eq_true rfl) ?_
          change eb_Sn _ m_X11_standNow _ 0 [(0, .ref s_MO)] [] _ _
          refine eb_bipush (pc := 0) (n := 64) (v := 64) rfl rfl ?_
          refine eb_aload_n (pc := 2) (n := 0) (i := 0) rfl rfl rfl ?_
          refine eb_getR (pc := 3) rfl rfl (by decide) (by decide) rfl (ko_s_MO_1 ko6) ?_
          refine eb_bipush (pc := 6) (n := 31) (v := 31) rfl rfl ?_
          refine eb_iaload (pc := 8) rfl rfl (by decide) (by unfold vp_in; decide) ?_
          refine eb_imul (pc := 9) rfl ?_
          refine eb_aload_n (pc := 10) (n := 0) (i := 0) rfl rfl rfl ?_
          refine eb_getR (pc := 11) rfl rfl (by decide) (by decide) rfl (ko_s_MO_1 ko6) ?_
          refine eb_bipush (pc := 14) (n := 32) (v := 32) rfl rfl ?_
          refine eb_iaload (pc := 16) rfl rfl (by decide) (by unfold vp_in; decide) ?_
          refine eb_iadd (pc := 17) rfl ?_
          refine eb_ireturn (pc := 18) rfl rfl rfl ?_
          change eb_Sn _ _ _ 74 _ [.int (((64 : Int32) * (eb_I h4 s_m_all (31 : Int32).toNatClampNeg)) + (eb_I h4 s_m_all (32 : Int32).toNatClampNeg)), .int x5, .ref s_m_standBy] _ _
          obtain ⟨c8, w⟩ := w
          refine eb_iastore (pc := 74) rfl rfl (by decide) c8 ?_
          refine eb_iinc (pc := 75) (i := 5) (n := 1) (v := x5 + 1) (ls2 := [(5, .int (x5 + 1)), (0, .ref s_MO), (1, .int x1), (2, .int x2), (3, .int x3), (4, .int x4)]) (Nat.le_of_ble_eq_true rfl) rfl rfl rfl rfl ?_
          refine eb_goto (pc := 78) (tgt := 14) rfl (by decide) ?_
          exact eb_pick [1, 2, 3, 4, 5, 0] rfl w
        · replace w := w.2 c7
          refine eb_aload_n (pc := 58) (n := 0) (i := 0) rfl rfl rfl ?_
          refine eb_aload_n (pc := 59) (n := 0) (i := 0) rfl rfl rfl ?_
          refine eb_ctV (pc := 60) (As := []) (rest := [.ref s_MO, .int x5, .ref s_m_standBy]) rfl (by decide) rfl rfl (by decide) rfl (Nat.le_of_ble_eq_true rfl) ?_
          refine eb_bodyQ (by decide) ok_X11_standNow (Nat.le_of_ble_eq_true rfl) ?_
          change eb_Sn _ m_X11_standNow _ 0 [(0, .ref s_MO)] [] _ _
          refine eb_bipush (pc := 0) (n := 64) (v := 64) rfl rfl ?_
          refine eb_aload_n (pc := 2) (n := 0) (i := 0) rfl rfl rfl ?_
          refine eb_getR (pc := 3) rfl rfl (by decide) (by decide) rfl (ko_s_MO_1 ko6) ?_
          refine eb_bipush (pc := 6) (n := 31) (v := 31) rfl rfl ?_
          refine eb_iaload (pc := 8) rfl rfl (by decide) (by unfold vp_in; decide) ?_
          refine eb_imul (pc := 9) rfl ?_
          refine eb_aload_n (pc := 10) (n := 0) (i := 0) rfl rfl rfl ?_
          refine eb_getR (pc := 11) rfl rfl (by decide) (by decide) rfl (ko_s_MO_1 ko6) ?_
          refine eb_bipush (pc := 14) (n := 32) (v := 32) rfl rfl ?_
          refine eb_iaload (pc := 16) rfl rfl (by decide) (by unfold vp_in; decide) ?_
          refine eb_iadd (pc := 17) rfl ?_
          refine eb_ireturn (pc := 18) rfl rfl rfl ?_
          change eb_Sn _ _ _ 63 _ [.int (((64 : Int32) * (eb_I h4 s_m_all (31 : Int32).toNatClampNeg)) + (eb_I h4 s_m_all (32 : Int32).toNatClampNeg)), .ref s_MO, .int x5, .ref s_m_standBy] _ _
          refine eb_iload_n (pc := 63) (n := 1) (i := 1) rfl rfl rfl ?_
          refine eb_ctV (pc := 64) (As := [.int (((64 : Int32) * (eb_I h4 s_m_all (31 : Int32).toNatClampNeg)) + (eb_I h4 s_m_all (32 : Int32).toNatClampNeg)), .int x1]) (rest := [.int x5, .ref s_m_standBy]) rfl (by decide) rfl rfl (by decide) rfl (Nat.le_of_ble_eq_true rfl) ?_
          refine eb_Ct.mono w ?_
          rintro r h9 ⟨y10, rfl, ko11, w⟩
          change eb_Sn _ _ _ 67 _ [.int y10, .int x5, .ref s_m_standBy] _ _
          refine eb_goto (pc := 67) (tgt := 74) rfl (by decide) ?_
          obtain ⟨c12, w⟩ := w
          refine eb_iastore (pc := 74) rfl rfl (by decide) c12 ?_
          refine eb_iinc (pc := 75) (i := 5) (n := 1) (v := x5 + 1) (ls2 := [(5, .int (x5 + 1)), (0, .ref s_MO), (1, .int x1), (2, .int x2), (3, .int x3), (4, .int x4)]) (Nat.le_of_ble_eq_true rfl) rfl rfl rfl rfl ?_
          refine eb_goto (pc := 78) (tgt := 14) rfl (by decide) ?_
          exact eb_pick [1, 2, 3, 4, 5, 0] rfl w
      · replace c3 := eb_q0.mp c3
        replace w := w.2 c3
        refine eb_iconst (pc := 46) (n := -1) (v := (-1)) rfl rfl ?_
        refine eb_goto (pc := 47) (tgt := 74) rfl (by decide) ?_
        obtain ⟨c13, w⟩ := w
        refine eb_iastore (pc := 74) rfl rfl (by decide) c13 ?_
        refine eb_iinc (pc := 75) (i := 5) (n := 1) (v := x5 + 1) (ls2 := [(5, .int (x5 + 1)), (0, .ref s_MO), (1, .int x1), (2, .int x2), (3, .int x3), (4, .int x4)]) (Nat.le_of_ble_eq_true rfl) rfl rfl rfl rfl ?_
        refine eb_goto (pc := 78) (tgt := 14) rfl (by decide) ?_
        exact eb_pick [1, 2, 3, 4, 5, 0] rfl w
    refine eb_ctS (pc := 40) (As := [.long x2.toInt64, .int x5]) (rest := [.int x5, .ref s_m_standBy]) rfl (by decide) (by decide) rfl rfl (Nat.le_of_ble_eq_true rfl) ?_
    refine eb_bodyQ (by decide) ok_X11_isIn (Nat.le_of_ble_eq_true rfl) ?_
    change eb_Sn _ m_X11_isIn _ 0 [(0, .long x2.toInt64), (2, .int x5)] [] _ _
    refine eb_lload_n (pc := 0) (n := 0) (i := 0) rfl rfl rfl ?_
    refine eb_iload_n (pc := 1) (n := 2) (i := 2) rfl rfl rfl ?_
    refine eb_lshr (pc := 2) rfl ?_
    refine eb_lconst (pc := 3) (n := 1) (v := 1) rfl rfl ?_
    refine eb_land (pc := 4) rfl ?_
    refine eb_lconst (pc := 5) (n := 1) (v := 1) rfl rfl ?_
    refine eb_lcmp (pc := 6) rfl ?_
    refine eb_if_ne (pc := 7) (tgt := 14) rfl (by decide) (fun c2 => ?_) (fun c2 => ?_)
    · replace c2 := eb_lc_ne.mp c2
      refine eb_iconst (pc := 14) (n := 0) (v := 0) rfl rfl ?_
      refine eb_ireturn (pc := 15) rfl rfl (by decide) ?_
      change eb_Sn _ _ _ 43 _ _ _ _
      exact jj14 0 (eb_qf c2).symm
    · replace c2 := eb_lc_eq.mp c2
      refine eb_iconst (pc := 10) (n := 1) (v := 1) rfl rfl ?_
      refine eb_goto (pc := 11) (tgt := 15) rfl (by decide) ?_
      refine eb_ireturn (pc := 15) rfl rfl (by decide) ?_
      change eb_Sn _ _ _ 43 _ _ _ _
      exact jj14 1 (eb_qt c2).symm
theorem b_X11_mostAlike_92 {d : Nat} {h0 h : eb_H} {Q : Option Value → eb_H → Prop} (x4 : Int32) (x5 : Int32)  (ko : eb_KO h) (w : (((10 : Int32) ≤ x5 → Q (some (.int x4)) h) ∧ (¬ ((10 : Int32) ≤ x5) → eb_Sn (d + 1) m_X11_mostAlike h0 105 [(0, .ref s_MO), (4, .int x4), (5, .int x5), (6, .int 0), (7, .int 0)] [] h Q))) : eb_Sn (d + 1) m_X11_mostAlike h0 92 [(0, .ref s_MO), (4, .int x4), (5, .int x5)] [] h Q := by
  refine eb_iload (pc := 92) (i := 5) rfl rfl ?_
  refine eb_bipush (pc := 94) (n := 10) (v := 10) rfl rfl ?_
  refine eb_icmp_ge (pc := 96) (tgt := 178) rfl (by decide) (fun c1 => ?_) (fun c1 => ?_)
  · replace w := w.1 c1
    refine eb_iload (pc := 178) (i := 4) rfl rfl ?_
    exact eb_ireturn (pc := 180) rfl rfl rfl w
  · replace w := w.2 c1
    refine eb_iconst (pc := 99) (n := 0) (v := 0) rfl rfl ?_
    refine eb_istore (pc := 100) (i := 6) (ls2 := [(6, .int 0), (0, .ref s_MO), (4, .int x4), (5, .int x5)]) (Nat.le_of_ble_eq_true rfl) rfl rfl ?_
    refine eb_iconst (pc := 102) (n := 0) (v := 0) rfl rfl ?_
    refine eb_istore (pc := 103) (i := 7) (ls2 := [(7, .int 0), (6, .int 0), (0, .ref s_MO), (4, .int x4), (5, .int x5)]) (Nat.le_of_ble_eq_true rfl) rfl rfl ?_
    exact eb_pick [2, 3, 4, 1, 0] rfl w
theorem b_X11_mostAlike_105 {d : Nat} {h0 h : eb_H} {Q : Option Value → eb_H → Prop} (x4 : Int32) (x5 : Int32) (x6 : Int32) (x7 : Int32)  (ko : eb_KO h) (w : (((10 : Int32) ≤ x7 → eb_Sn (d + 1) m_X11_mostAlike h0 92 [(0, .ref s_MO), (4, .int (if x6 ≤ x4 then x4 else x6 : Int32)), (5, .int (x5 + 1))] [] h Q) ∧ (¬ ((10 : Int32) ≤ x7) → (vp_in x5 10) ∧ (((eb_I h s_m_standBy x5.toNatClampNeg) = ((-1) : Int32) → eb_Sn (d + 1) m_X11_mostAlike h0 105 [(0, .ref s_MO), (4, .int x4), (5, .int x5), (6, .int (x6 + 0)), (7, .int (x7 + 1))] [] h Q) ∧ (¬ ((eb_I h s_m_standBy x5.toNatClampNeg) = ((-1) : Int32)) → (vp_in x7 10) ∧ (vp_in x5 10) ∧ eb_Sn (d + 1) m_X11_mostAlike h0 105 [(0, .ref s_MO), (4, .int x4), (5, .int x5), (6, .int (x6 + (eb_q ((eb_I h s_m_standBy x7.toNatClampNeg) = (eb_I h s_m_standBy x5.toNatClampNeg))))), (7, .int (x7 + 1))] [] h Q))))) : eb_Sn (d + 1) m_X11_mostAlike h0 105 [(0, .ref s_MO), (4, .int x4), (5, .int x5), (6, .int x6), (7, .int x7)] [] h Q := by
  refine eb_iload (pc := 105) (i := 7) rfl rfl ?_
  refine eb_bipush (pc := 107) (n := 10) (v := 10) rfl rfl ?_
  refine eb_icmp_ge (pc := 109) (tgt := 156) rfl (by decide) (fun c1 => ?_) (fun c1 => ?_)
  · replace w := w.1 c1
    refine eb_iload (pc := 156) (i := 6) rfl rfl ?_
    refine eb_iload (pc := 158) (i := 4) rfl rfl ?_
    refine eb_joinI (pc2 := 170) (ls2 := [(0, .ref s_MO), (4, .int x4), (5, .int x5), (6, .int x6), (7, .int x7)]) (st2 := []) (v := (if x6 ≤ x4 then x4 else x6 : Int32)) ?_ (fun jj3 => ?_)
    · refine eb_istore (pc := 170) (i := 4) (ls2 := [(4, .int (if x6 ≤ x4 then x4 else x6 : Int32)), (0, .ref s_MO), (5, .int x5), (6, .int x6), (7, .int x7)]) (Nat.le_of_ble_eq_true rfl) rfl rfl ?_
      refine eb_iinc (pc := 172) (i := 5) (n := 1) (v := x5 + 1) (ls2 := [(5, .int (x5 + 1)), (4, .int (if x6 ≤ x4 then x4 else x6 : Int32)), (0, .ref s_MO), (6, .int x6), (7, .int x7)]) (Nat.le_of_ble_eq_true rfl) rfl rfl rfl rfl ?_
      refine eb_goto (pc := 175) (tgt := 92) rfl (by decide) ?_
      exact eb_pick [2, 1, 0] rfl w
    refine eb_icmp_le (pc := 160) (tgt := 168) rfl (by decide) (fun c2 => ?_) (fun c2 => ?_)
    · refine eb_iload (pc := 168) (i := 4) rfl rfl ?_
      exact jj3 _ (by simp only [if_pos c2])
    · refine eb_iload (pc := 163) (i := 6) rfl rfl ?_
      refine eb_goto (pc := 165) (tgt := 170) rfl (by decide) ?_
      exact jj3 _ (by simp only [if_neg c2])
  · replace w := w.2 c1
    refine eb_iload (pc := 112) (i := 6) rfl rfl ?_
    refine eb_aload_n (pc := 114) (n := 0) (i := 0) rfl rfl rfl ?_
    refine eb_getR (pc := 115) rfl rfl (by decide) (by decide) rfl (ko_s_MO_27 ko) ?_
    refine eb_iload (pc := 118) (i := 5) rfl rfl ?_
    obtain ⟨c5, w⟩ := w
    refine eb_iaload (pc := 120) rfl rfl (by decide) c5 ?_
    refine eb_iconst (pc := 121) (n := -1) (v := (-1)) rfl rfl ?_
    refine eb_icmp_eq (pc := 122) (tgt := 146) rfl (by decide) (fun c6 => ?_) (fun c6 => ?_)
    · replace w := w.1 c6
      refine eb_iconst (pc := 146) (n := 0) (v := 0) rfl rfl ?_
      refine eb_iadd (pc := 147) rfl ?_
      refine eb_istore (pc := 148) (i := 6) (ls2 := [(6, .int (x6 + 0)), (0, .ref s_MO), (4, .int x4), (5, .int x5), (7, .int x7)]) (Nat.le_of_ble_eq_true rfl) rfl rfl ?_
      refine eb_iinc (pc := 150) (i := 7) (n := 1) (v := x7 + 1) (ls2 := [(7, .int (x7 + 1)), (6, .int (x6 + 0)), (0, .ref s_MO), (4, .int x4), (5, .int x5)]) (Nat.le_of_ble_eq_true rfl) rfl rfl rfl rfl ?_
      refine eb_goto (pc := 153) (tgt := 105) rfl (by decide) ?_
      exact eb_pick [2, 3, 4, 1, 0] rfl w
    · replace w := w.2 c6
      refine eb_aload_n (pc := 125) (n := 0) (i := 0) rfl rfl rfl ?_
      refine eb_getR (pc := 126) rfl rfl (by decide) (by decide) rfl (ko_s_MO_27 ko) ?_
      refine eb_iload (pc := 129) (i := 7) rfl rfl ?_
      obtain ⟨c7, w⟩ := w
      refine eb_iaload (pc := 131) rfl rfl (by decide) c7 ?_
      refine eb_aload_n (pc := 132) (n := 0) (i := 0) rfl rfl rfl ?_
      refine eb_getR (pc := 133) rfl rfl (by decide) (by decide) rfl (ko_s_MO_27 ko) ?_
      refine eb_iload (pc := 136) (i := 5) rfl rfl ?_
      obtain ⟨c8, w⟩ := w
      refine eb_iaload (pc := 138) rfl rfl (by decide) c8 ?_
      refine eb_joinI (pc2 := 147) (ls2 := [(0, .ref s_MO), (4, .int x4), (5, .int x5), (6, .int x6), (7, .int x7)]) (st2 := [.int x6]) (v := eb_q ((eb_I h s_m_standBy x7.toNatClampNeg) = (eb_I h s_m_standBy x5.toNatClampNeg))) ?_ (fun jj10 => ?_)
      · refine eb_iadd (pc := 147) rfl ?_
        refine eb_istore (pc := 148) (i := 6) (ls2 := [(6, .int (x6 + (eb_q ((eb_I h s_m_standBy x7.toNatClampNeg) = (eb_I h s_m_standBy x5.toNatClampNeg))))), (0, .ref s_MO), (4, .int x4), (5, .int x5), (7, .int x7)]) (Nat.le_of_ble_eq_true rfl) rfl rfl ?_
        refine eb_iinc (pc := 150) (i := 7) (n := 1) (v := x7 + 1) (ls2 := [(7, .int (x7 + 1)), (6, .int (x6 + (eb_q ((eb_I h s_m_standBy x7.toNatClampNeg) = (eb_I h s_m_standBy x5.toNatClampNeg))))), (0, .ref s_MO), (4, .int x4), (5, .int x5)]) (Nat.le_of_ble_eq_true rfl) rfl rfl rfl rfl ?_
        refine eb_goto (pc := 153) (tgt := 105) rfl (by decide) ?_
        exact eb_pick [2, 3, 4, 1, 0] rfl w
      refine eb_icmp_ne (pc := 139) (tgt := 146) rfl (by decide) (fun c9 => ?_) (fun c9 => ?_)
      · refine eb_iconst (pc := 146) (n := 0) (v := 0) rfl rfl ?_
        exact jj10 0 (eb_qf c9).symm
      · refine eb_iconst (pc := 142) (n := 1) (v := 1) rfl rfl ?_
        refine eb_goto (pc := 143) (tgt := 147) rfl (by decide) ?_
        exact jj10 1 (eb_qt c9).symm
theorem T_X11_mostAlike {d : Nat} {h : eb_H} {Q : Option Value → eb_H → Prop} (x1 : Int32) (x2 : Int32)  (ko : eb_KO h) (w : eb_Sn (d + 1) m_X11_mostAlike h 14 [(0, .ref s_MO), (1, .int x1), (2, .int x2), (3, .int (eb_I h s_m_all (51 : Int32).toNatClampNeg)), (4, .int 0), (5, .int 0)] [] h Q) : eb_Ct (d + 1) 259 [.ref s_MO, .int x1, .int x2] h Q :=
  eb_bodyQ (by decide) ok_X11_mostAlike (Nat.le_of_ble_eq_true rfl) (b_X11_mostAlike_0 (h0 := h) x1 x2  ko w)
theorem b_X11_attempt_0 {d : Nat} {h0 h : eb_H} {Q : Option Value → eb_H → Prop} (x1 : Int32) (x2 : Int32)  (ko : eb_KO h) (w : eb_Ct d 254 [.ref s_MO, .int x1, .int x2] (eb_sI h s_MO 0 0) (fun r h1 => ∃ y2, r = some (.int y2) ∧ eb_KO h1 ∧ ((y2 = 0 → eb_Ct d 257 [.ref s_MO, .int x1, .int x2] h1 (fun r h5 => ∃ y6, r = some (.int y6) ∧ eb_KO h5 ∧ eb_Sn (d + 1) m_X11_attempt h0 37 [(0, .ref s_MO), (4, .int y6), (5, .int (-1)), (6, .int 268435456), (7, .int 0)] [] h5 Q)) ∧ (¬ (y2 = 0) → Q (some (.int y2)) h1)))) : eb_Sn (d + 1) m_X11_attempt h0 0 [(0, .ref s_MO), (1, .int x1), (2, .int x2)] [] h Q := by
  refine eb_aload_n (pc := 0) (n := 0) (i := 0) rfl rfl rfl ?_
  refine eb_iconst (pc := 1) (n := 0) (v := 0) rfl rfl ?_
  refine eb_putI (pc := 2) rfl rfl (by decide) (by decide) rfl rfl ⟨rfl, rfl⟩ ?_
  refine eb_aload_n (pc := 5) (n := 0) (i := 0) rfl rfl rfl ?_
  refine eb_iload_n (pc := 6) (n := 1) (i := 1) rfl rfl rfl ?_
  refine eb_iload_n (pc := 7) (n := 2) (i := 2) rfl rfl rfl ?_
  refine eb_ctV (pc := 8) (As := [.int x1, .int x2]) (rest := []) rfl (by decide) rfl rfl (by decide) rfl (Nat.le_of_ble_eq_true rfl) ?_
  refine eb_Ct.mono w ?_
  rintro r h1 ⟨y2, rfl, ko3, w⟩
  change eb_Sn _ _ _ 11 _ [.int y2] _ _
  refine eb_istore_n (pc := 11) (n := 3) (i := 3) (ls2 := [(3, .int y2), (0, .ref s_MO), (1, .int x1), (2, .int x2)]) rfl (Nat.le_of_ble_eq_true rfl) rfl rfl ?_
  refine eb_iload_n (pc := 12) (n := 3) (i := 3) rfl rfl rfl ?_
  refine eb_if_eq (pc := 13) (tgt := 18) rfl (by decide) (fun c4 => ?_) (fun c4 => ?_)
  · replace w := w.1 c4
    refine eb_aload_n (pc := 18) (n := 0) (i := 0) rfl rfl rfl ?_
    refine eb_iload_n (pc := 19) (n := 1) (i := 1) rfl rfl rfl ?_
    refine eb_iload_n (pc := 20) (n := 2) (i := 2) rfl rfl rfl ?_
    refine eb_ctV (pc := 21) (As := [.int x1, .int x2]) (rest := []) rfl (by decide) rfl rfl (by decide) rfl (Nat.le_of_ble_eq_true rfl) ?_
    refine eb_Ct.mono w ?_
    rintro r h5 ⟨y6, rfl, ko7, w⟩
    change eb_Sn _ _ _ 24 _ [.int y6] _ _
    refine eb_istore (pc := 24) (i := 4) (ls2 := [(4, .int y6), (3, .int y2), (0, .ref s_MO), (1, .int x1), (2, .int x2)]) (Nat.le_of_ble_eq_true rfl) rfl rfl ?_
    refine eb_iconst (pc := 26) (n := -1) (v := (-1)) rfl rfl ?_
    refine eb_istore (pc := 27) (i := 5) (ls2 := [(5, .int (-1)), (4, .int y6), (3, .int y2), (0, .ref s_MO), (1, .int x1), (2, .int x2)]) (Nat.le_of_ble_eq_true rfl) rfl rfl ?_
    refine eb_ldcw (pc := 29) (a := 268435456) (v := 268435456) rfl (by decide) ?_
    refine eb_istore (pc := 32) (i := 6) (ls2 := [(6, .int 268435456), (5, .int (-1)), (4, .int y6), (3, .int y2), (0, .ref s_MO), (1, .int x1), (2, .int x2)]) (Nat.le_of_ble_eq_true rfl) rfl rfl ?_
    refine eb_iconst (pc := 34) (n := 0) (v := 0) rfl rfl ?_
    refine eb_istore (pc := 35) (i := 7) (ls2 := [(7, .int 0), (6, .int 268435456), (5, .int (-1)), (4, .int y6), (3, .int y2), (0, .ref s_MO), (1, .int x1), (2, .int x2)]) (Nat.le_of_ble_eq_true rfl) rfl rfl ?_
    exact eb_pick [5, 3, 2, 1, 0] rfl w
  · replace w := w.2 c4
    refine eb_iload_n (pc := 16) (n := 3) (i := 3) rfl rfl rfl ?_
    exact eb_ireturn (pc := 17) rfl rfl rfl w
theorem b_X11_attempt_37 {d : Nat} {h0 h : eb_H} {Q : Option Value → eb_H → Prop} (x4 : Int32) (x5 : Int32) (x6 : Int32) (x7 : Int32)  (ko : eb_KO h) (w : (((4 : Int32) ≤ x7 → Q (some (.int x5)) h) ∧ (¬ ((4 : Int32) ≤ x7) → ((x4 = 0 → Q (some (.int x5)) h) ∧ (¬ (x4 = 0) → eb_Ct d 259 [.ref s_MO, .int x7, .int x4] h (fun r h3 => ∃ y4, r = some (.int y4) ∧ eb_KO h3 ∧ ((y4 < x6 → eb_Sn (d + 1) m_X11_attempt h0 37 [(0, .ref s_MO), (4, .int x4), (5, .int x7), (6, .int y4), (7, .int (x7 + 1))] [] h3 Q) ∧ (¬ (y4 < x6) → eb_Sn (d + 1) m_X11_attempt h0 37 [(0, .ref s_MO), (4, .int x4), (5, .int x5), (6, .int x6), (7, .int (x7 + 1))] [] h3 Q)))))))) : eb_Sn (d + 1) m_X11_attempt h0 37 [(0, .ref s_MO), (4, .int x4), (5, .int x5), (6, .int x6), (7, .int x7)] [] h Q := by
  refine eb_iload (pc := 37) (i := 7) rfl rfl ?_
  refine eb_iconst (pc := 39) (n := 4) (v := 4) rfl rfl ?_
  refine eb_icmp_ge (pc := 40) (tgt := 82) rfl (by decide) (fun c1 => ?_) (fun c1 => ?_)
  · replace w := w.1 c1
    refine eb_iload (pc := 82) (i := 5) rfl rfl ?_
    exact eb_ireturn (pc := 84) rfl rfl rfl w
  · replace w := w.2 c1
    refine eb_iload (pc := 43) (i := 4) rfl rfl ?_
    refine eb_if_eq (pc := 45) (tgt := 82) rfl (by decide) (fun c2 => ?_) (fun c2 => ?_)
    · replace w := w.1 c2
      refine eb_iload (pc := 82) (i := 5) rfl rfl ?_
      exact eb_ireturn (pc := 84) rfl rfl rfl w
    · replace w := w.2 c2
      refine eb_aload_n (pc := 48) (n := 0) (i := 0) rfl rfl rfl ?_
      refine eb_iload (pc := 49) (i := 7) rfl rfl ?_
      refine eb_iload (pc := 51) (i := 4) rfl rfl ?_
      refine eb_ctV (pc := 53) (As := [.int x7, .int x4]) (rest := []) rfl (by decide) rfl rfl (by decide) rfl (Nat.le_of_ble_eq_true rfl) ?_
      refine eb_Ct.mono w ?_
      rintro r h3 ⟨y4, rfl, ko5, w⟩
      change eb_Sn _ _ _ 56 _ [.int y4] _ _
      refine eb_istore (pc := 56) (i := 8) (ls2 := [(8, .int y4), (0, .ref s_MO), (4, .int x4), (5, .int x5), (6, .int x6), (7, .int x7)]) (Nat.le_of_ble_eq_true rfl) rfl rfl ?_
      refine eb_iload (pc := 58) (i := 8) rfl rfl ?_
      refine eb_iload (pc := 60) (i := 6) rfl rfl ?_
      refine eb_icmp_lt (pc := 62) (tgt := 68) rfl (by decide) (fun c6 => ?_) (fun c6 => ?_)
      · replace w := w.1 c6
        refine eb_iload (pc := 68) (i := 7) rfl rfl ?_
        refine eb_istore (pc := 70) (i := 5) (ls2 := [(5, .int x7), (8, .int y4), (0, .ref s_MO), (4, .int x4), (6, .int x6), (7, .int x7)]) (Nat.le_of_ble_eq_true rfl) rfl rfl ?_
        refine eb_iload (pc := 72) (i := 8) rfl rfl ?_
        refine eb_istore (pc := 74) (i := 6) (ls2 := [(6, .int y4), (5, .int x7), (8, .int y4), (0, .ref s_MO), (4, .int x4), (7, .int x7)]) (Nat.le_of_ble_eq_true rfl) rfl rfl ?_
        refine eb_iinc (pc := 76) (i := 7) (n := 1) (v := x7 + 1) (ls2 := [(7, .int (x7 + 1)), (6, .int y4), (5, .int x7), (8, .int y4), (0, .ref s_MO), (4, .int x4)]) (Nat.le_of_ble_eq_true rfl) rfl rfl rfl rfl ?_
        refine eb_goto (pc := 79) (tgt := 37) rfl (by decide) ?_
        exact eb_pick [4, 5, 2, 1, 0] rfl w
      · replace w := w.2 c6
        refine eb_goto (pc := 65) (tgt := 76) rfl (by decide) ?_
        refine eb_iinc (pc := 76) (i := 7) (n := 1) (v := x7 + 1) (ls2 := [(7, .int (x7 + 1)), (8, .int y4), (0, .ref s_MO), (4, .int x4), (5, .int x5), (6, .int x6)]) (Nat.le_of_ble_eq_true rfl) rfl rfl rfl rfl ?_
        refine eb_goto (pc := 79) (tgt := 37) rfl (by decide) ?_
        exact eb_pick [2, 3, 4, 5, 0] rfl w
theorem T_X11_attempt {d : Nat} {h : eb_H} {Q : Option Value → eb_H → Prop} (x1 : Int32) (x2 : Int32)  (ko : eb_KO h) (w : eb_Ct d 254 [.ref s_MO, .int x1, .int x2] (eb_sI h s_MO 0 0) (fun r h1 => ∃ y2, r = some (.int y2) ∧ eb_KO h1 ∧ ((y2 = 0 → eb_Ct d 257 [.ref s_MO, .int x1, .int x2] h1 (fun r h5 => ∃ y6, r = some (.int y6) ∧ eb_KO h5 ∧ eb_Sn (d + 1) m_X11_attempt h 37 [(0, .ref s_MO), (4, .int y6), (5, .int (-1)), (6, .int 268435456), (7, .int 0)] [] h5 Q)) ∧ (¬ (y2 = 0) → Q (some (.int y2)) h1)))) : eb_Ct (d + 1) 260 [.ref s_MO, .int x1, .int x2] h Q :=
  eb_bodyQ (by decide) ok_X11_attempt (Nat.le_of_ble_eq_true rfl) (b_X11_attempt_0 (h0 := h) x1 x2  ko w)
theorem b_X11_isThere_0 {d : Nat} {h0 h : eb_H} {Q : Option Value → eb_H → Prop} (x1 : Int32) (x2 : Int32) (x3 : Int32)  (ko : eb_KO h) (w : (vp_in ((27 : Int32) + x2) 3492) ∧ Q (some (.int (eb_q (((x1 / 64) = (eb_I h s_m_all ((27 : Int32) + x2).toNatClampNeg)) ∧ (((x1 &&& x3) = x3) ∧ ((x1 &&& 0) = 0)))))) h) : eb_Sn (d + 1) m_X11_isThere h0 0 [(0, .ref s_MO), (1, .int x1), (2, .int x2), (3, .int x3)] [] h Q := by
  refine eb_iload_n (pc := 0) (n := 1) (i := 1) rfl rfl rfl ?_
  refine eb_aload_n (pc := 1) (n := 0) (i := 0) rfl rfl rfl ?_
  refine eb_getR (pc := 2) rfl rfl (by decide) (by decide) rfl (ko_s_MO_1 ko) ?_
  refine eb_bipush (pc := 5) (n := 27) (v := 27) rfl rfl ?_
  refine eb_iload_n (pc := 7) (n := 2) (i := 2) rfl rfl rfl ?_
  refine eb_iadd (pc := 8) rfl ?_
  obtain ⟨c1, w⟩ := w
  refine eb_iaload (pc := 9) rfl rfl (by decide) c1 ?_
  refine eb_iload_n (pc := 10) (n := 3) (i := 3) rfl rfl rfl ?_
  refine eb_iconst (pc := 11) (n := 0) (v := 0) rfl rfl ?_
  refine eb_joinI (pc2 := 15) (ls2 := [(0, .ref s_MO), (1, .int x1), (2, .int x2), (3, .int x3)]) (st2 := []) (v := eb_q (((x1 / 64) = (eb_I h s_m_all ((27 : Int32) + x2).toNatClampNeg)) ∧ (((x1 &&& x3) = x3) ∧ ((x1 &&& 0) = 0)))) ?_ (fun jj5 => ?_)
  · exact eb_ireturn (pc := 15) rfl rfl eb_qn w
  refine eb_ctS (pc := 12) (As := [.int x1, .int (eb_I h s_m_all ((27 : Int32) + x2).toNatClampNeg), .int x3, .int 0]) (rest := []) rfl (by decide) (by decide) rfl rfl (Nat.le_of_ble_eq_true rfl) ?_
  refine eb_bodyQ (by decide) ok_X11_isGoal (Nat.le_of_ble_eq_true rfl) ?_
  change eb_Sn _ m_X11_isGoal _ 0 [(0, .int x1), (1, .int (eb_I h s_m_all ((27 : Int32) + x2).toNatClampNeg)), (2, .int x3), (3, .int 0)] [] _ _
  refine eb_iload_n (pc := 0) (n := 0) (i := 0) rfl rfl rfl ?_
  refine eb_bipush (pc := 1) (n := 64) (v := 64) rfl rfl ?_
  refine eb_idiv (pc := 3) (by decide) rfl ?_
  refine eb_iload_n (pc := 4) (n := 1) (i := 1) rfl rfl rfl ?_
  refine eb_icmp_ne (pc := 5) (tgt := 25) rfl (by decide) (fun c2 => ?_) (fun c2 => ?_)
  · refine eb_iconst (pc := 25) (n := 0) (v := 0) rfl rfl ?_
    refine eb_ireturn (pc := 26) rfl rfl (by decide) ?_
    change eb_Sn _ _ _ 15 _ _ _ _
    exact jj5 0 (eb_qf (fun z => c2 z.1)).symm
  · refine eb_iload_n (pc := 8) (n := 0) (i := 0) rfl rfl rfl ?_
    refine eb_iload_n (pc := 9) (n := 2) (i := 2) rfl rfl rfl ?_
    refine eb_iand (pc := 10) rfl ?_
    refine eb_iload_n (pc := 11) (n := 2) (i := 2) rfl rfl rfl ?_
    refine eb_icmp_ne (pc := 12) (tgt := 25) rfl (by decide) (fun c3 => ?_) (fun c3 => ?_)
    · refine eb_iconst (pc := 25) (n := 0) (v := 0) rfl rfl ?_
      refine eb_ireturn (pc := 26) rfl rfl (by decide) ?_
      change eb_Sn _ _ _ 15 _ _ _ _
      exact jj5 0 (eb_qf (fun z => (fun z => c3 z.1) z.2)).symm
    · refine eb_iload_n (pc := 15) (n := 0) (i := 0) rfl rfl rfl ?_
      refine eb_iload_n (pc := 16) (n := 3) (i := 3) rfl rfl rfl ?_
      refine eb_iand (pc := 17) rfl ?_
      refine eb_if_ne (pc := 18) (tgt := 25) rfl (by decide) (fun c4 => ?_) (fun c4 => ?_)
      · refine eb_iconst (pc := 25) (n := 0) (v := 0) rfl rfl ?_
        refine eb_ireturn (pc := 26) rfl rfl (by decide) ?_
        change eb_Sn _ _ _ 15 _ _ _ _
        exact jj5 0 (eb_qf (fun z => (fun z => c4 z.2) z.2)).symm
      · refine eb_iconst (pc := 21) (n := 1) (v := 1) rfl rfl ?_
        refine eb_goto (pc := 22) (tgt := 26) rfl (by decide) ?_
        refine eb_ireturn (pc := 26) rfl rfl (by decide) ?_
        change eb_Sn _ _ _ 15 _ _ _ _
        exact jj5 1 (eb_qt (⟨c2, ⟨c3, c4⟩⟩)).symm
theorem T_X11_isThere {d : Nat} {h : eb_H} {Q : Option Value → eb_H → Prop} (x1 : Int32) (x2 : Int32) (x3 : Int32)  (ko : eb_KO h) (w : (vp_in ((27 : Int32) + x2) 3492) ∧ Q (some (.int (eb_q (((x1 / 64) = (eb_I h s_m_all ((27 : Int32) + x2).toNatClampNeg)) ∧ (((x1 &&& x3) = x3) ∧ ((x1 &&& 0) = 0)))))) h) : eb_Ct (d + 1) 261 [.ref s_MO, .int x1, .int x2, .int x3] h Q :=
  eb_bodyQ (by decide) ok_X11_isThere (Nat.le_of_ble_eq_true rfl) (b_X11_isThere_0 (h0 := h) x1 x2 x3  ko w)
theorem b_X11_hers_0 {d : Nat} {h0 h : eb_H} {Q : Option Value → eb_H → Prop} (x1 : Int32) (x2 : Int32) (x3 : Int32) (x4 : Int32) (x5 : Int32)  (ko : eb_KO h) (w : (vp_in ((27 : Int32) + x3) 3492) ∧ ((¬ (((x1 / 64) = (eb_I h s_m_all ((27 : Int32) + x3).toNatClampNeg)) ∧ (((x1 &&& x4) = x4) ∧ ((x1 &&& 0) = 0))) → ((¬ x5 = 0 → eb_Sn (d + 2) m_X11_hers h0 23 [(0, .ref s_MO), (1, .int x1), (2, .int x2), (3, .int x3), (4, .int x4), (5, .int x5), (6, .int 0)] [] h Q) ∧ (x5 = 0 → Q (some (.int 0)) h))) ∧ (((x1 / 64) = (eb_I h s_m_all ((27 : Int32) + x3).toNatClampNeg)) ∧ (((x1 &&& x4) = x4) ∧ ((x1 &&& 0) = 0)) → Q (some (.int 1)) h))) : eb_Sn (d + 2) m_X11_hers h0 0 [(0, .ref s_MO), (1, .int x1), (2, .int x2), (3, .int x3), (4, .int x4), (5, .int x5)] [] h Q := by
  refine eb_aload_n (pc := 0) (n := 0) (i := 0) rfl rfl rfl ?_
  refine eb_iload_n (pc := 1) (n := 1) (i := 1) rfl rfl rfl ?_
  refine eb_iload_n (pc := 2) (n := 3) (i := 3) rfl rfl rfl ?_
  refine eb_iload (pc := 3) (i := 4) rfl rfl ?_
  refine eb_ctV (pc := 5) (As := [.int x1, .int x3, .int x4]) (rest := []) rfl (by decide) rfl rfl (by decide) rfl (Nat.le_of_ble_eq_true rfl) ?_
  refine eb_bodyQ (by decide) ok_X11_isThere (Nat.le_of_ble_eq_true rfl) ?_
  change eb_Sn _ m_X11_isThere _ 0 [(0, .ref s_MO), (1, .int x1), (2, .int x3), (3, .int x4)] [] _ _
  refine eb_iload_n (pc := 0) (n := 1) (i := 1) rfl rfl rfl ?_
  refine eb_aload_n (pc := 1) (n := 0) (i := 0) rfl rfl rfl ?_
  refine eb_getR (pc := 2) rfl rfl (by decide) (by decide) rfl (ko_s_MO_1 ko) ?_
  refine eb_bipush (pc := 5) (n := 27) (v := 27) rfl rfl ?_
  refine eb_iload_n (pc := 7) (n := 2) (i := 2) rfl rfl rfl ?_
  refine eb_iadd (pc := 8) rfl ?_
  obtain ⟨c1, w⟩ := w
  refine eb_iaload (pc := 9) rfl rfl (by decide) c1 ?_
  refine eb_iload_n (pc := 10) (n := 3) (i := 3) rfl rfl rfl ?_
  refine eb_iconst (pc := 11) (n := 0) (v := 0) rfl rfl ?_
  refine eb_joinI (pc2 := 15) (ls2 := [(0, .ref s_MO), (1, .int x1), (2, .int x3), (3, .int x4)]) (st2 := []) (v := eb_q (((x1 / 64) = (eb_I h s_m_all ((27 : Int32) + x3).toNatClampNeg)) ∧ (((x1 &&& x4) = x4) ∧ ((x1 &&& 0) = 0)))) ?_ (fun jj5 => ?_)
  · refine eb_ireturn (pc := 15) rfl rfl eb_qn ?_
    change eb_Sn _ _ _ 8 _ [.int (eb_q (((x1 / 64) = (eb_I h s_m_all ((27 : Int32) + x3).toNatClampNeg)) ∧ (((x1 &&& x4) = x4) ∧ ((x1 &&& 0) = 0))))] _ _
    refine eb_if_eq (pc := 8) (tgt := 13) rfl (by decide) (fun c7 => ?_) (fun c7 => ?_)
    · replace c7 := eb_q0.mp c7
      replace w := w.1 c7
      refine eb_iload (pc := 13) (i := 5) rfl rfl ?_
      refine eb_if_ne (pc := 15) (tgt := 20) rfl (by decide) (fun c8 => ?_) (fun c8 => ?_)
      · replace w := w.1 c8
        refine eb_iconst (pc := 20) (n := 0) (v := 0) rfl rfl ?_
        refine eb_istore (pc := 21) (i := 6) (ls2 := [(6, .int 0), (0, .ref s_MO), (1, .int x1), (2, .int x2), (3, .int x3), (4, .int x4), (5, .int x5)]) (Nat.le_of_ble_eq_true rfl) rfl rfl ?_
        exact eb_pick [1, 2, 3, 4, 5, 6, 0] rfl w
      · replace w := w.2 c8
        refine eb_iconst (pc := 18) (n := 0) (v := 0) rfl rfl ?_
        exact eb_ireturn (pc := 19) rfl rfl (by decide) w
    · replace c7 := eb_q1.mp c7
      replace w := w.2 c7
      refine eb_iconst (pc := 11) (n := 1) (v := 1) rfl rfl ?_
      exact eb_ireturn (pc := 12) rfl rfl (by decide) w
  refine eb_ctS (pc := 12) (As := [.int x1, .int (eb_I h s_m_all ((27 : Int32) + x3).toNatClampNeg), .int x4, .int 0]) (rest := []) rfl (by decide) (by decide) rfl rfl (Nat.le_of_ble_eq_true rfl) ?_
  refine eb_bodyQ (by decide) ok_X11_isGoal (Nat.le_of_ble_eq_true rfl) ?_
  change eb_Sn _ m_X11_isGoal _ 0 [(0, .int x1), (1, .int (eb_I h s_m_all ((27 : Int32) + x3).toNatClampNeg)), (2, .int x4), (3, .int 0)] [] _ _
  refine eb_iload_n (pc := 0) (n := 0) (i := 0) rfl rfl rfl ?_
  refine eb_bipush (pc := 1) (n := 64) (v := 64) rfl rfl ?_
  refine eb_idiv (pc := 3) (by decide) rfl ?_
  refine eb_iload_n (pc := 4) (n := 1) (i := 1) rfl rfl rfl ?_
  refine eb_icmp_ne (pc := 5) (tgt := 25) rfl (by decide) (fun c2 => ?_) (fun c2 => ?_)
  · refine eb_iconst (pc := 25) (n := 0) (v := 0) rfl rfl ?_
    refine eb_ireturn (pc := 26) rfl rfl (by decide) ?_
    change eb_Sn _ _ _ 15 _ _ _ _
    exact jj5 0 (eb_qf (fun z => c2 z.1)).symm
  · refine eb_iload_n (pc := 8) (n := 0) (i := 0) rfl rfl rfl ?_
    refine eb_iload_n (pc := 9) (n := 2) (i := 2) rfl rfl rfl ?_
    refine eb_iand (pc := 10) rfl ?_
    refine eb_iload_n (pc := 11) (n := 2) (i := 2) rfl rfl rfl ?_
    refine eb_icmp_ne (pc := 12) (tgt := 25) rfl (by decide) (fun c3 => ?_) (fun c3 => ?_)
    · refine eb_iconst (pc := 25) (n := 0) (v := 0) rfl rfl ?_
      refine eb_ireturn (pc := 26) rfl rfl (by decide) ?_
      change eb_Sn _ _ _ 15 _ _ _ _
      exact jj5 0 (eb_qf (fun z => (fun z => c3 z.1) z.2)).symm
    · refine eb_iload_n (pc := 15) (n := 0) (i := 0) rfl rfl rfl ?_
      refine eb_iload_n (pc := 16) (n := 3) (i := 3) rfl rfl rfl ?_
      refine eb_iand (pc := 17) rfl ?_
      refine eb_if_ne (pc := 18) (tgt := 25) rfl (by decide) (fun c4 => ?_) (fun c4 => ?_)
      · refine eb_iconst (pc := 25) (n := 0) (v := 0) rfl rfl ?_
        refine eb_ireturn (pc := 26) rfl rfl (by decide) ?_
        change eb_Sn _ _ _ 15 _ _ _ _
        exact jj5 0 (eb_qf (fun z => (fun z => c4 z.2) z.2)).symm
      · refine eb_iconst (pc := 21) (n := 1) (v := 1) rfl rfl ?_
        refine eb_goto (pc := 22) (tgt := 26) rfl (by decide) ?_
        refine eb_ireturn (pc := 26) rfl rfl (by decide) ?_
        change eb_Sn _ _ _ 15 _ _ _ _
        exact jj5 1 (eb_qt (⟨c2, ⟨c3, c4⟩⟩)).symm
theorem b_X11_hers_23 {d : Nat} {h0 h : eb_H} {Q : Option Value → eb_H → Prop} (x1 : Int32) (x2 : Int32) (x3 : Int32) (x4 : Int32) (x5 : Int32) (x6 : Int32)  (ko : eb_KO h) (w : (((4 : Int32) ≤ x6 → eb_Ct (d + 1) 264 [.ref s_MO, .int x1, .int x2, .int x3, .int x4, .int (x5 - 1)] h (fun r h2 => ∃ y3, r = some (.int y3) ∧ eb_KO h2 ∧ (narrow .boolean (.int y3) = .int y3) ∧ Q (some (.int y3)) h2)) ∧ (¬ ((4 : Int32) ≤ x6) → eb_Ct (d + 1) 263 [.ref s_MO, .int x1, .int x2, .int x6, .int x3, .int x4, .int x5] h (fun r h6 => ∃ y7, r = some (.int y7) ∧ eb_KO h6 ∧ ((y7 = 0 → eb_Sn (d + 2) m_X11_hers h0 23 [(0, .ref s_MO), (1, .int x1), (2, .int x2), (3, .int x3), (4, .int x4), (5, .int x5), (6, .int (x6 + 1))] [] h6 Q) ∧ (¬ (y7 = 0) → Q (some (.int 1)) h6)))))) : eb_Sn (d + 2) m_X11_hers h0 23 [(0, .ref s_MO), (1, .int x1), (2, .int x2), (3, .int x3), (4, .int x4), (5, .int x5), (6, .int x6)] [] h Q := by
  refine eb_iload (pc := 23) (i := 6) rfl rfl ?_
  refine eb_iconst (pc := 25) (n := 4) (v := 4) rfl rfl ?_
  refine eb_icmp_ge (pc := 26) (tgt := 53) rfl (by decide) (fun c1 => ?_) (fun c1 => ?_)
  · replace w := w.1 c1
    refine eb_aload_n (pc := 53) (n := 0) (i := 0) rfl rfl rfl ?_
    refine eb_iload_n (pc := 54) (n := 1) (i := 1) rfl rfl rfl ?_
    refine eb_iload_n (pc := 55) (n := 2) (i := 2) rfl rfl rfl ?_
    refine eb_iload_n (pc := 56) (n := 3) (i := 3) rfl rfl rfl ?_
    refine eb_iload (pc := 57) (i := 4) rfl rfl ?_
    refine eb_iload (pc := 59) (i := 5) rfl rfl ?_
    refine eb_iconst (pc := 61) (n := 1) (v := 1) rfl rfl ?_
    refine eb_isub (pc := 62) rfl ?_
    refine eb_ctV (pc := 63) (As := [.int x1, .int x2, .int x3, .int x4, .int (x5 - 1)]) (rest := []) rfl (by decide) rfl rfl (by decide) rfl (Nat.le_of_ble_eq_true rfl) ?_
    refine eb_Ct.mono w ?_
    rintro r h2 ⟨y3, rfl, ko4, w⟩
    change eb_Sn _ _ _ 66 _ [.int y3] _ _
    obtain ⟨c5, w⟩ := w
    exact eb_ireturn (pc := 66) rfl rfl c5 w
  · replace w := w.2 c1
    refine eb_aload_n (pc := 29) (n := 0) (i := 0) rfl rfl rfl ?_
    refine eb_iload_n (pc := 30) (n := 1) (i := 1) rfl rfl rfl ?_
    refine eb_iload_n (pc := 31) (n := 2) (i := 2) rfl rfl rfl ?_
    refine eb_iload (pc := 32) (i := 6) rfl rfl ?_
    refine eb_iload_n (pc := 34) (n := 3) (i := 3) rfl rfl rfl ?_
    refine eb_iload (pc := 35) (i := 4) rfl rfl ?_
    refine eb_iload (pc := 37) (i := 5) rfl rfl ?_
    refine eb_ctV (pc := 39) (As := [.int x1, .int x2, .int x6, .int x3, .int x4, .int x5]) (rest := []) rfl (by decide) rfl rfl (by decide) rfl (Nat.le_of_ble_eq_true rfl) ?_
    refine eb_Ct.mono w ?_
    rintro r h6 ⟨y7, rfl, ko8, w⟩
    change eb_Sn _ _ _ 42 _ [.int y7] _ _
    refine eb_if_eq (pc := 42) (tgt := 47) rfl (by decide) (fun c9 => ?_) (fun c9 => ?_)
    · replace w := w.1 c9
      refine eb_iinc (pc := 47) (i := 6) (n := 1) (v := x6 + 1) (ls2 := [(6, .int (x6 + 1)), (0, .ref s_MO), (1, .int x1), (2, .int x2), (3, .int x3), (4, .int x4), (5, .int x5)]) (Nat.le_of_ble_eq_true rfl) rfl rfl rfl rfl ?_
      refine eb_goto (pc := 50) (tgt := 23) rfl (by decide) ?_
      exact eb_pick [1, 2, 3, 4, 5, 6, 0] rfl w
    · replace w := w.2 c9
      refine eb_iconst (pc := 45) (n := 1) (v := 1) rfl rfl ?_
      exact eb_ireturn (pc := 46) rfl rfl (by decide) w
theorem T_X11_hers {d : Nat} {h : eb_H} {Q : Option Value → eb_H → Prop} (x1 : Int32) (x2 : Int32) (x3 : Int32) (x4 : Int32) (x5 : Int32)  (ko : eb_KO h) (w : (vp_in ((27 : Int32) + x3) 3492) ∧ ((¬ (((x1 / 64) = (eb_I h s_m_all ((27 : Int32) + x3).toNatClampNeg)) ∧ (((x1 &&& x4) = x4) ∧ ((x1 &&& 0) = 0))) → ((¬ x5 = 0 → eb_Sn (d + 2) m_X11_hers h 23 [(0, .ref s_MO), (1, .int x1), (2, .int x2), (3, .int x3), (4, .int x4), (5, .int x5), (6, .int 0)] [] h Q) ∧ (x5 = 0 → Q (some (.int 0)) h))) ∧ (((x1 / 64) = (eb_I h s_m_all ((27 : Int32) + x3).toNatClampNeg)) ∧ (((x1 &&& x4) = x4) ∧ ((x1 &&& 0) = 0)) → Q (some (.int 1)) h))) : eb_Ct (d + 2) 262 [.ref s_MO, .int x1, .int x2, .int x3, .int x4, .int x5] h Q :=
  eb_bodyQ (by decide) ok_X11_hers (Nat.le_of_ble_eq_true rfl) (b_X11_hers_0 (h0 := h) x1 x2 x3 x4 x5  ko w)
theorem b_X11_hersBy_0 {d : Nat} {h0 h : eb_H} {Q : Option Value → eb_H → Prop} (x1 : Int32) (x2 : Int32) (x3 : Int32) (x4 : Int32) (x5 : Int32) (x6 : Int32)  (ko : eb_KO h) (w : eb_Ct d 199 [.ref s_MO, .int x1, .int x3, .int x2] h (fun r h1 => ∃ y2, r = some (.int y2) ∧ eb_KO h1 ∧ ((¬ y2 = 0 → Q (some (.int 0)) h1) ∧ (y2 = 0 → eb_Ct d 200 [.ref s_MO, .int x1, .int x3] h1 (fun r h5 => ∃ y6, r = some (.int y6) ∧ eb_KO h5 ∧ eb_Ct d 264 [.ref s_MO, .int y6, .int x2, .int x4, .int x5, .int (x6 - 1)] h5 (fun r h8 => ∃ y9, r = some (.int y9) ∧ eb_KO h8 ∧ Q (some (.int (eb_q (¬ (y9 = 0))))) h8)))))) : eb_Sn (d + 1) m_X11_hersBy h0 0 [(0, .ref s_MO), (1, .int x1), (2, .int x2), (3, .int x3), (4, .int x4), (5, .int x5), (6, .int x6)] [] h Q := by
  refine eb_aload_n (pc := 0) (n := 0) (i := 0) rfl rfl rfl ?_
  refine eb_iload_n (pc := 1) (n := 1) (i := 1) rfl rfl rfl ?_
  refine eb_iload_n (pc := 2) (n := 3) (i := 3) rfl rfl rfl ?_
  refine eb_iload_n (pc := 3) (n := 2) (i := 2) rfl rfl rfl ?_
  refine eb_ctV (pc := 4) (As := [.int x1, .int x3, .int x2]) (rest := []) rfl (by decide) rfl rfl (by decide) rfl (Nat.le_of_ble_eq_true rfl) ?_
  refine eb_Ct.mono w ?_
  rintro r h1 ⟨y2, rfl, ko3, w⟩
  change eb_Sn _ _ _ 7 _ [.int y2] _ _
  refine eb_if_ne (pc := 7) (tgt := 36) rfl (by decide) (fun c4 => ?_) (fun c4 => ?_)
  · replace w := w.1 c4
    refine eb_iconst (pc := 36) (n := 0) (v := 0) rfl rfl ?_
    exact eb_ireturn (pc := 37) rfl rfl (by decide) w
  · replace w := w.2 c4
    refine eb_aload_n (pc := 10) (n := 0) (i := 0) rfl rfl rfl ?_
    refine eb_aload_n (pc := 11) (n := 0) (i := 0) rfl rfl rfl ?_
    refine eb_iload_n (pc := 12) (n := 1) (i := 1) rfl rfl rfl ?_
    refine eb_iload_n (pc := 13) (n := 3) (i := 3) rfl rfl rfl ?_
    refine eb_ctV (pc := 14) (As := [.int x1, .int x3]) (rest := [.ref s_MO]) rfl (by decide) rfl rfl (by decide) rfl (Nat.le_of_ble_eq_true rfl) ?_
    refine eb_Ct.mono w ?_
    rintro r h5 ⟨y6, rfl, ko7, w⟩
    change eb_Sn _ _ _ 17 _ [.int y6, .ref s_MO] _ _
    refine eb_iload_n (pc := 17) (n := 2) (i := 2) rfl rfl rfl ?_
    refine eb_iload (pc := 18) (i := 4) rfl rfl ?_
    refine eb_iload (pc := 20) (i := 5) rfl rfl ?_
    refine eb_iload (pc := 22) (i := 6) rfl rfl ?_
    refine eb_iconst (pc := 24) (n := 1) (v := 1) rfl rfl ?_
    refine eb_isub (pc := 25) rfl ?_
    refine eb_ctV (pc := 26) (As := [.int y6, .int x2, .int x4, .int x5, .int (x6 - 1)]) (rest := []) rfl (by decide) rfl rfl (by decide) rfl (Nat.le_of_ble_eq_true rfl) ?_
    refine eb_Ct.mono w ?_
    rintro r h8 ⟨y9, rfl, ko10, w⟩
    change eb_Sn _ _ _ 29 _ [.int y9] _ _
    refine eb_joinI (pc2 := 37) (ls2 := [(0, .ref s_MO), (1, .int x1), (2, .int x2), (3, .int x3), (4, .int x4), (5, .int x5), (6, .int x6)]) (st2 := []) (v := eb_q (¬ (y9 = 0))) ?_ (fun jj12 => ?_)
    · exact eb_ireturn (pc := 37) rfl rfl eb_qn w
    refine eb_if_eq (pc := 29) (tgt := 36) rfl (by decide) (fun c11 => ?_) (fun c11 => ?_)
    · refine eb_iconst (pc := 36) (n := 0) (v := 0) rfl rfl ?_
      exact jj12 0 (eb_qf (fun z => z c11)).symm
    · refine eb_iconst (pc := 32) (n := 1) (v := 1) rfl rfl ?_
      refine eb_goto (pc := 33) (tgt := 37) rfl (by decide) ?_
      exact jj12 1 (eb_qt c11).symm
theorem T_X11_hersBy {d : Nat} {h : eb_H} {Q : Option Value → eb_H → Prop} (x1 : Int32) (x2 : Int32) (x3 : Int32) (x4 : Int32) (x5 : Int32) (x6 : Int32)  (ko : eb_KO h) (w : eb_Ct d 199 [.ref s_MO, .int x1, .int x3, .int x2] h (fun r h1 => ∃ y2, r = some (.int y2) ∧ eb_KO h1 ∧ ((¬ y2 = 0 → Q (some (.int 0)) h1) ∧ (y2 = 0 → eb_Ct d 200 [.ref s_MO, .int x1, .int x3] h1 (fun r h5 => ∃ y6, r = some (.int y6) ∧ eb_KO h5 ∧ eb_Ct d 264 [.ref s_MO, .int y6, .int x2, .int x4, .int x5, .int (x6 - 1)] h5 (fun r h8 => ∃ y9, r = some (.int y9) ∧ eb_KO h8 ∧ Q (some (.int (eb_q (¬ (y9 = 0))))) h8)))))) : eb_Ct (d + 1) 263 [.ref s_MO, .int x1, .int x2, .int x3, .int x4, .int x5, .int x6] h Q :=
  eb_bodyQ (by decide) ok_X11_hersBy (Nat.le_of_ble_eq_true rfl) (b_X11_hersBy_0 (h0 := h) x1 x2 x3 x4 x5 x6  ko w)
theorem b_X11_his_0 {d : Nat} {h0 h : eb_H} {Q : Option Value → eb_H → Prop} (x1 : Int32) (x2 : Int32) (x3 : Int32) (x4 : Int32) (x5 : Int32)  (ko : eb_KO h) (w : (vp_in ((27 : Int32) + x3) 3492) ∧ ((¬ (((x1 / 64) = (eb_I h s_m_all ((27 : Int32) + x3).toNatClampNeg)) ∧ (((x1 &&& x4) = x4) ∧ ((x1 &&& 0) = 0))) → ((x5 = 0 → Q (some (.int 0)) h) ∧ (¬ (x5 = 0) → eb_Ct (d + 1) 262 [.ref s_MO, .int x1, .int x2, .int x3, .int x4, .int x5] h (fun r h9 => ∃ y10, r = some (.int y10) ∧ eb_KO h9 ∧ ((¬ y10 = 0 → eb_Sn (d + 2) m_X11_his h0 37 [(0, .ref s_MO), (1, .int x1), (2, .int x2), (3, .int x3), (4, .int x4), (5, .int x5), (6, .int 0)] [] h9 Q) ∧ (y10 = 0 → Q (some (.int 0)) h9)))))) ∧ (((x1 / 64) = (eb_I h s_m_all ((27 : Int32) + x3).toNatClampNeg)) ∧ (((x1 &&& x4) = x4) ∧ ((x1 &&& 0) = 0)) → Q (some (.int 1)) h))) : eb_Sn (d + 2) m_X11_his h0 0 [(0, .ref s_MO), (1, .int x1), (2, .int x2), (3, .int x3), (4, .int x4), (5, .int x5)] [] h Q := by
  refine eb_aload_n (pc := 0) (n := 0) (i := 0) rfl rfl rfl ?_
  refine eb_iload_n (pc := 1) (n := 1) (i := 1) rfl rfl rfl ?_
  refine eb_iload_n (pc := 2) (n := 3) (i := 3) rfl rfl rfl ?_
  refine eb_iload (pc := 3) (i := 4) rfl rfl ?_
  refine eb_ctV (pc := 5) (As := [.int x1, .int x3, .int x4]) (rest := []) rfl (by decide) rfl rfl (by decide) rfl (Nat.le_of_ble_eq_true rfl) ?_
  refine eb_bodyQ (by decide) ok_X11_isThere (Nat.le_of_ble_eq_true rfl) ?_
  change eb_Sn _ m_X11_isThere _ 0 [(0, .ref s_MO), (1, .int x1), (2, .int x3), (3, .int x4)] [] _ _
  refine eb_iload_n (pc := 0) (n := 1) (i := 1) rfl rfl rfl ?_
  refine eb_aload_n (pc := 1) (n := 0) (i := 0) rfl rfl rfl ?_
  refine eb_getR (pc := 2) rfl rfl (by decide) (by decide) rfl (ko_s_MO_1 ko) ?_
  refine eb_bipush (pc := 5) (n := 27) (v := 27) rfl rfl ?_
  refine eb_iload_n (pc := 7) (n := 2) (i := 2) rfl rfl rfl ?_
  refine eb_iadd (pc := 8) rfl ?_
  obtain ⟨c1, w⟩ := w
  refine eb_iaload (pc := 9) rfl rfl (by decide) c1 ?_
  refine eb_iload_n (pc := 10) (n := 3) (i := 3) rfl rfl rfl ?_
  refine eb_iconst (pc := 11) (n := 0) (v := 0) rfl rfl ?_
  refine eb_joinI (pc2 := 15) (ls2 := [(0, .ref s_MO), (1, .int x1), (2, .int x3), (3, .int x4)]) (st2 := []) (v := eb_q (((x1 / 64) = (eb_I h s_m_all ((27 : Int32) + x3).toNatClampNeg)) ∧ (((x1 &&& x4) = x4) ∧ ((x1 &&& 0) = 0)))) ?_ (fun jj5 => ?_)
  · refine eb_ireturn (pc := 15) rfl rfl eb_qn ?_
    change eb_Sn _ _ _ 8 _ [.int (eb_q (((x1 / 64) = (eb_I h s_m_all ((27 : Int32) + x3).toNatClampNeg)) ∧ (((x1 &&& x4) = x4) ∧ ((x1 &&& 0) = 0))))] _ _
    refine eb_if_eq (pc := 8) (tgt := 13) rfl (by decide) (fun c7 => ?_) (fun c7 => ?_)
    · replace c7 := eb_q0.mp c7
      replace w := w.1 c7
      refine eb_iload (pc := 13) (i := 5) rfl rfl ?_
      refine eb_if_eq (pc := 15) (tgt := 32) rfl (by decide) (fun c8 => ?_) (fun c8 => ?_)
      · replace w := w.1 c8
        refine eb_iconst (pc := 32) (n := 0) (v := 0) rfl rfl ?_
        exact eb_ireturn (pc := 33) rfl rfl (by decide) w
      · replace w := w.2 c8
        refine eb_aload_n (pc := 18) (n := 0) (i := 0) rfl rfl rfl ?_
        refine eb_iload_n (pc := 19) (n := 1) (i := 1) rfl rfl rfl ?_
        refine eb_iload_n (pc := 20) (n := 2) (i := 2) rfl rfl rfl ?_
        refine eb_iload_n (pc := 21) (n := 3) (i := 3) rfl rfl rfl ?_
        refine eb_iload (pc := 22) (i := 4) rfl rfl ?_
        refine eb_iload (pc := 24) (i := 5) rfl rfl ?_
        refine eb_ctV (pc := 26) (As := [.int x1, .int x2, .int x3, .int x4, .int x5]) (rest := []) rfl (by decide) rfl rfl (by decide) rfl (Nat.le_of_ble_eq_true rfl) ?_
        refine eb_Ct.mono w ?_
        rintro r h9 ⟨y10, rfl, ko11, w⟩
        change eb_Sn _ _ _ 29 _ [.int y10] _ _
        refine eb_if_ne (pc := 29) (tgt := 34) rfl (by decide) (fun c12 => ?_) (fun c12 => ?_)
        · replace w := w.1 c12
          refine eb_iconst (pc := 34) (n := 0) (v := 0) rfl rfl ?_
          refine eb_istore (pc := 35) (i := 6) (ls2 := [(6, .int 0), (0, .ref s_MO), (1, .int x1), (2, .int x2), (3, .int x3), (4, .int x4), (5, .int x5)]) (Nat.le_of_ble_eq_true rfl) rfl rfl ?_
          exact eb_pick [1, 2, 3, 4, 5, 6, 0] rfl w
        · replace w := w.2 c12
          refine eb_iconst (pc := 32) (n := 0) (v := 0) rfl rfl ?_
          exact eb_ireturn (pc := 33) rfl rfl (by decide) w
    · replace c7 := eb_q1.mp c7
      replace w := w.2 c7
      refine eb_iconst (pc := 11) (n := 1) (v := 1) rfl rfl ?_
      exact eb_ireturn (pc := 12) rfl rfl (by decide) w
  refine eb_ctS (pc := 12) (As := [.int x1, .int (eb_I h s_m_all ((27 : Int32) + x3).toNatClampNeg), .int x4, .int 0]) (rest := []) rfl (by decide) (by decide) rfl rfl (Nat.le_of_ble_eq_true rfl) ?_
  refine eb_bodyQ (by decide) ok_X11_isGoal (Nat.le_of_ble_eq_true rfl) ?_
  change eb_Sn _ m_X11_isGoal _ 0 [(0, .int x1), (1, .int (eb_I h s_m_all ((27 : Int32) + x3).toNatClampNeg)), (2, .int x4), (3, .int 0)] [] _ _
  refine eb_iload_n (pc := 0) (n := 0) (i := 0) rfl rfl rfl ?_
  refine eb_bipush (pc := 1) (n := 64) (v := 64) rfl rfl ?_
  refine eb_idiv (pc := 3) (by decide) rfl ?_
  refine eb_iload_n (pc := 4) (n := 1) (i := 1) rfl rfl rfl ?_
  refine eb_icmp_ne (pc := 5) (tgt := 25) rfl (by decide) (fun c2 => ?_) (fun c2 => ?_)
  · refine eb_iconst (pc := 25) (n := 0) (v := 0) rfl rfl ?_
    refine eb_ireturn (pc := 26) rfl rfl (by decide) ?_
    change eb_Sn _ _ _ 15 _ _ _ _
    exact jj5 0 (eb_qf (fun z => c2 z.1)).symm
  · refine eb_iload_n (pc := 8) (n := 0) (i := 0) rfl rfl rfl ?_
    refine eb_iload_n (pc := 9) (n := 2) (i := 2) rfl rfl rfl ?_
    refine eb_iand (pc := 10) rfl ?_
    refine eb_iload_n (pc := 11) (n := 2) (i := 2) rfl rfl rfl ?_
    refine eb_icmp_ne (pc := 12) (tgt := 25) rfl (by decide) (fun c3 => ?_) (fun c3 => ?_)
    · refine eb_iconst (pc := 25) (n := 0) (v := 0) rfl rfl ?_
      refine eb_ireturn (pc := 26) rfl rfl (by decide) ?_
      change eb_Sn _ _ _ 15 _ _ _ _
      exact jj5 0 (eb_qf (fun z => (fun z => c3 z.1) z.2)).symm
    · refine eb_iload_n (pc := 15) (n := 0) (i := 0) rfl rfl rfl ?_
      refine eb_iload_n (pc := 16) (n := 3) (i := 3) rfl rfl rfl ?_
      refine eb_iand (pc := 17) rfl ?_
      refine eb_if_ne (pc := 18) (tgt := 25) rfl (by decide) (fun c4 => ?_) (fun c4 => ?_)
      · refine eb_iconst (pc := 25) (n := 0) (v := 0) rfl rfl ?_
        refine eb_ireturn (pc := 26) rfl rfl (by decide) ?_
        change eb_Sn _ _ _ 15 _ _ _ _
        exact jj5 0 (eb_qf (fun z => (fun z => c4 z.2) z.2)).symm
      · refine eb_iconst (pc := 21) (n := 1) (v := 1) rfl rfl ?_
        refine eb_goto (pc := 22) (tgt := 26) rfl (by decide) ?_
        refine eb_ireturn (pc := 26) rfl rfl (by decide) ?_
        change eb_Sn _ _ _ 15 _ _ _ _
        exact jj5 1 (eb_qt (⟨c2, ⟨c3, c4⟩⟩)).symm
theorem b_X11_his_37 {d : Nat} {h0 h : eb_H} {Q : Option Value → eb_H → Prop} (x1 : Int32) (x2 : Int32) (x3 : Int32) (x4 : Int32) (x5 : Int32) (x6 : Int32)  (ko : eb_KO h) (w : ((((eb_I h s_m_all (1 : Int32).toNatClampNeg) * (eb_I h s_m_all (2 : Int32).toNatClampNeg)) ≤ x6 → Q (some (.int 1)) h) ∧ (¬ (((eb_I h s_m_all (1 : Int32).toNatClampNeg) * (eb_I h s_m_all (2 : Int32).toNatClampNeg)) ≤ x6) → ((x6 = (x1 / 64) → eb_Sn (d + 2) m_X11_his h0 37 [(0, .ref s_MO), (1, .int x1), (2, .int x2), (3, .int x3), (4, .int x4), (5, .int x5), (6, .int (x6 + 1))] [] h Q) ∧ (¬ (x6 = (x1 / 64)) → ((((x2.toInt64 >>> (x6.toInt64 &&& 63)) &&& 1) = 1 → eb_Sn (d + 2) m_X11_his h0 37 [(0, .ref s_MO), (1, .int x1), (2, .int x2), (3, .int x3), (4, .int x4), (5, .int x5), (6, .int (x6 + 1))] [] h Q) ∧ (¬ (((x2.toInt64 >>> (x6.toInt64 &&& 63)) &&& 1) = 1) → eb_Ct (d + 1) 262 [.ref s_MO, .int x1, .int (x2 ||| ((1 : Int32) <<< (x6 &&& 31))), .int x3, .int x4, .int x5] h (fun r h5 => ∃ y6, r = some (.int y6) ∧ eb_KO h5 ∧ ((¬ y6 = 0 → eb_Sn (d + 2) m_X11_his h0 37 [(0, .ref s_MO), (1, .int x1), (2, .int x2), (3, .int x3), (4, .int x4), (5, .int x5), (6, .int (x6 + 1))] [] h5 Q) ∧ (y6 = 0 → Q (some (.int 0)) h5)))))))))) : eb_Sn (d + 2) m_X11_his h0 37 [(0, .ref s_MO), (1, .int x1), (2, .int x2), (3, .int x3), (4, .int x4), (5, .int x5), (6, .int x6)] [] h Q := by
  refine eb_iload (pc := 37) (i := 6) rfl rfl ?_
  refine eb_aload_n (pc := 39) (n := 0) (i := 0) rfl rfl rfl ?_
  refine eb_ctV (pc := 40) (As := []) (rest := [.int x6]) rfl (by decide) rfl rfl (by decide) rfl (Nat.le_of_ble_eq_true rfl) ?_
  refine eb_bodyQ (by decide) ok_X11_cells (Nat.le_of_ble_eq_true rfl) ?_
  change eb_Sn _ m_X11_cells _ 0 [(0, .ref s_MO)] [] _ _
  refine eb_aload_n (pc := 0) (n := 0) (i := 0) rfl rfl rfl ?_
  refine eb_getR (pc := 1) rfl rfl (by decide) (by decide) rfl (ko_s_MO_1 ko) ?_
  refine eb_iconst (pc := 4) (n := 1) (v := 1) rfl rfl ?_
  refine eb_iaload (pc := 5) rfl rfl (by decide) (by unfold vp_in; decide) ?_
  refine eb_aload_n (pc := 6) (n := 0) (i := 0) rfl rfl rfl ?_
  refine eb_getR (pc := 7) rfl rfl (by decide) (by decide) rfl (ko_s_MO_1 ko) ?_
  refine eb_iconst (pc := 10) (n := 2) (v := 2) rfl rfl ?_
  refine eb_iaload (pc := 11) rfl rfl (by decide) (by unfold vp_in; decide) ?_
  refine eb_imul (pc := 12) rfl ?_
  refine eb_ireturn (pc := 13) rfl rfl rfl ?_
  change eb_Sn _ _ _ 43 _ [.int ((eb_I h s_m_all (1 : Int32).toNatClampNeg) * (eb_I h s_m_all (2 : Int32).toNatClampNeg)), .int x6] _ _
  refine eb_icmp_ge (pc := 43) (tgt := 92) rfl (by decide) (fun c1 => ?_) (fun c1 => ?_)
  · replace w := w.1 c1
    refine eb_iconst (pc := 92) (n := 1) (v := 1) rfl rfl ?_
    exact eb_ireturn (pc := 93) rfl rfl (by decide) w
  · replace w := w.2 c1
    refine eb_iload (pc := 46) (i := 6) rfl rfl ?_
    refine eb_iload_n (pc := 48) (n := 1) (i := 1) rfl rfl rfl ?_
    refine eb_bipush (pc := 49) (n := 64) (v := 64) rfl rfl ?_
    refine eb_idiv (pc := 51) (by decide) rfl ?_
    refine eb_icmp_eq (pc := 52) (tgt := 86) rfl (by decide) (fun c2 => ?_) (fun c2 => ?_)
    · replace w := w.1 c2
      refine eb_iinc (pc := 86) (i := 6) (n := 1) (v := x6 + 1) (ls2 := [(6, .int (x6 + 1)), (0, .ref s_MO), (1, .int x1), (2, .int x2), (3, .int x3), (4, .int x4), (5, .int x5)]) (Nat.le_of_ble_eq_true rfl) rfl rfl rfl rfl ?_
      refine eb_goto (pc := 89) (tgt := 37) rfl (by decide) ?_
      exact eb_pick [1, 2, 3, 4, 5, 6, 0] rfl w
    · replace w := w.2 c2
      refine eb_iload_n (pc := 55) (n := 2) (i := 2) rfl rfl rfl ?_
      refine eb_i2l (pc := 56) rfl ?_
      refine eb_iload (pc := 57) (i := 6) rfl rfl ?_
      refine eb_joinI (pc2 := 62) (ls2 := [(0, .ref s_MO), (1, .int x1), (2, .int x2), (3, .int x3), (4, .int x4), (5, .int x5), (6, .int x6)]) (st2 := []) (v := eb_q (((x2.toInt64 >>> (x6.toInt64 &&& 63)) &&& 1) = 1)) ?_ (fun jj9 => ?_)
      · refine eb_if_ne (pc := 62) (tgt := 86) rfl (by decide) (fun c4 => ?_) (fun c4 => ?_)
        · replace c4 := eb_q1.mp c4
          replace w := w.1 c4
          refine eb_iinc (pc := 86) (i := 6) (n := 1) (v := x6 + 1) (ls2 := [(6, .int (x6 + 1)), (0, .ref s_MO), (1, .int x1), (2, .int x2), (3, .int x3), (4, .int x4), (5, .int x5)]) (Nat.le_of_ble_eq_true rfl) rfl rfl rfl rfl ?_
          refine eb_goto (pc := 89) (tgt := 37) rfl (by decide) ?_
          exact eb_pick [1, 2, 3, 4, 5, 6, 0] rfl w
        · replace c4 := eb_q0.mp c4
          replace w := w.2 c4
          refine eb_aload_n (pc := 65) (n := 0) (i := 0) rfl rfl rfl ?_
          refine eb_iload_n (pc := 66) (n := 1) (i := 1) rfl rfl rfl ?_
          refine eb_iload_n (pc := 67) (n := 2) (i := 2) rfl rfl rfl ?_
          refine eb_iconst (pc := 68) (n := 1) (v := 1) rfl rfl ?_
          refine eb_iload (pc := 69) (i := 6) rfl rfl ?_
          refine eb_ishl (pc := 71) rfl ?_
          refine eb_ior (pc := 72) rfl ?_
          refine eb_iload_n (pc := 73) (n := 3) (i := 3) rfl rfl rfl ?_
          refine eb_iload (pc := 74) (i := 4) rfl rfl ?_
          refine eb_iload (pc := 76) (i := 5) rfl rfl ?_
          refine eb_ctV (pc := 78) (As := [.int x1, .int (x2 ||| ((1 : Int32) <<< (x6 &&& 31))), .int x3, .int x4, .int x5]) (rest := []) rfl (by decide) rfl rfl (by decide) rfl (Nat.le_of_ble_eq_true rfl) ?_
          refine eb_Ct.mono w ?_
          rintro r h5 ⟨y6, rfl, ko7, w⟩
          change eb_Sn _ _ _ 81 _ [.int y6] _ _
          refine eb_if_ne (pc := 81) (tgt := 86) rfl (by decide) (fun c8 => ?_) (fun c8 => ?_)
          · replace w := w.1 c8
            refine eb_iinc (pc := 86) (i := 6) (n := 1) (v := x6 + 1) (ls2 := [(6, .int (x6 + 1)), (0, .ref s_MO), (1, .int x1), (2, .int x2), (3, .int x3), (4, .int x4), (5, .int x5)]) (Nat.le_of_ble_eq_true rfl) rfl rfl rfl rfl ?_
            refine eb_goto (pc := 89) (tgt := 37) rfl (by decide) ?_
            exact eb_pick [1, 2, 3, 4, 5, 6, 0] rfl w
          · replace w := w.2 c8
            refine eb_iconst (pc := 84) (n := 0) (v := 0) rfl rfl ?_
            exact eb_ireturn (pc := 85) rfl rfl (by decide) w
      refine eb_ctS (pc := 59) (As := [.long x2.toInt64, .int x6]) (rest := []) rfl (by decide) (by decide) rfl rfl (Nat.le_of_ble_eq_true rfl) ?_
      refine eb_bodyQ (by decide) ok_X11_isIn (Nat.le_of_ble_eq_true rfl) ?_
      change eb_Sn _ m_X11_isIn _ 0 [(0, .long x2.toInt64), (2, .int x6)] [] _ _
      refine eb_lload_n (pc := 0) (n := 0) (i := 0) rfl rfl rfl ?_
      refine eb_iload_n (pc := 1) (n := 2) (i := 2) rfl rfl rfl ?_
      refine eb_lshr (pc := 2) rfl ?_
      refine eb_lconst (pc := 3) (n := 1) (v := 1) rfl rfl ?_
      refine eb_land (pc := 4) rfl ?_
      refine eb_lconst (pc := 5) (n := 1) (v := 1) rfl rfl ?_
      refine eb_lcmp (pc := 6) rfl ?_
      refine eb_if_ne (pc := 7) (tgt := 14) rfl (by decide) (fun c3 => ?_) (fun c3 => ?_)
      · replace c3 := eb_lc_ne.mp c3
        refine eb_iconst (pc := 14) (n := 0) (v := 0) rfl rfl ?_
        refine eb_ireturn (pc := 15) rfl rfl (by decide) ?_
        change eb_Sn _ _ _ 62 _ _ _ _
        exact jj9 0 (eb_qf c3).symm
      · replace c3 := eb_lc_eq.mp c3
        refine eb_iconst (pc := 10) (n := 1) (v := 1) rfl rfl ?_
        refine eb_goto (pc := 11) (tgt := 15) rfl (by decide) ?_
        refine eb_ireturn (pc := 15) rfl rfl (by decide) ?_
        change eb_Sn _ _ _ 62 _ _ _ _
        exact jj9 1 (eb_qt c3).symm
theorem T_X11_his {d : Nat} {h : eb_H} {Q : Option Value → eb_H → Prop} (x1 : Int32) (x2 : Int32) (x3 : Int32) (x4 : Int32) (x5 : Int32)  (ko : eb_KO h) (w : (vp_in ((27 : Int32) + x3) 3492) ∧ ((¬ (((x1 / 64) = (eb_I h s_m_all ((27 : Int32) + x3).toNatClampNeg)) ∧ (((x1 &&& x4) = x4) ∧ ((x1 &&& 0) = 0))) → ((x5 = 0 → Q (some (.int 0)) h) ∧ (¬ (x5 = 0) → eb_Ct (d + 1) 262 [.ref s_MO, .int x1, .int x2, .int x3, .int x4, .int x5] h (fun r h9 => ∃ y10, r = some (.int y10) ∧ eb_KO h9 ∧ ((¬ y10 = 0 → eb_Sn (d + 2) m_X11_his h 37 [(0, .ref s_MO), (1, .int x1), (2, .int x2), (3, .int x3), (4, .int x4), (5, .int x5), (6, .int 0)] [] h9 Q) ∧ (y10 = 0 → Q (some (.int 0)) h9)))))) ∧ (((x1 / 64) = (eb_I h s_m_all ((27 : Int32) + x3).toNatClampNeg)) ∧ (((x1 &&& x4) = x4) ∧ ((x1 &&& 0) = 0)) → Q (some (.int 1)) h))) : eb_Ct (d + 2) 264 [.ref s_MO, .int x1, .int x2, .int x3, .int x4, .int x5] h Q :=
  eb_bodyQ (by decide) ok_X11_his (Nat.le_of_ble_eq_true rfl) (b_X11_his_0 (h0 := h) x1 x2 x3 x4 x5  ko w)
theorem b_X11_forcedIn_0 {d : Nat} {h0 h : eb_H} {Q : Option Value → eb_H → Prop} (x1 : Int32) (x2 : Int32)  (ko : eb_KO h) (w : eb_Sn (d + 1) m_X11_forcedIn h0 2 [(0, .ref s_MO), (1, .int x1), (2, .int x2), (3, .int 0)] [] h Q) : eb_Sn (d + 1) m_X11_forcedIn h0 0 [(0, .ref s_MO), (1, .int x1), (2, .int x2)] [] h Q := by
  refine eb_iconst (pc := 0) (n := 0) (v := 0) rfl rfl ?_
  refine eb_istore_n (pc := 1) (n := 3) (i := 3) (ls2 := [(3, .int 0), (0, .ref s_MO), (1, .int x1), (2, .int x2)]) rfl (Nat.le_of_ble_eq_true rfl) rfl rfl ?_
  exact eb_pick [1, 2, 3, 0] rfl w
theorem b_X11_forcedIn_2 {d : Nat} {h0 h : eb_H} {Q : Option Value → eb_H → Prop} (x1 : Int32) (x2 : Int32) (x3 : Int32)  (ko : eb_KO h) (w : (((3 : Int32) < x3 → Q (some (.int (-1))) h) ∧ (¬ ((3 : Int32) < x3) → eb_Ct d 262 [.ref s_MO, .int (((64 : Int32) * (eb_I h s_m_all (31 : Int32).toNatClampNeg)) + (eb_I h s_m_all (32 : Int32).toNatClampNeg)), .int (eb_I h s_m_all (50 : Int32).toNatClampNeg), .int x1, .int x2, .int x3] h (fun r h2 => ∃ y3, r = some (.int y3) ∧ eb_KO h2 ∧ ((y3 = 0 → eb_Sn (d + 1) m_X11_forcedIn h0 2 [(0, .ref s_MO), (1, .int x1), (2, .int x2), (3, .int (x3 + 1))] [] h2 Q) ∧ (¬ (y3 = 0) → Q (some (.int x3)) h2)))))) : eb_Sn (d + 1) m_X11_forcedIn h0 2 [(0, .ref s_MO), (1, .int x1), (2, .int x2), (3, .int x3)] [] h Q := by
  refine eb_iload_n (pc := 2) (n := 3) (i := 3) rfl rfl rfl ?_
  refine eb_iconst (pc := 3) (n := 3) (v := 3) rfl rfl ?_
  refine eb_icmp_gt (pc := 4) (tgt := 36) rfl (by decide) (fun c1 => ?_) (fun c1 => ?_)
  · replace w := w.1 c1
    refine eb_iconst (pc := 36) (n := -1) (v := (-1)) rfl rfl ?_
    exact eb_ireturn (pc := 37) rfl rfl rfl w
  · replace w := w.2 c1
    refine eb_aload_n (pc := 7) (n := 0) (i := 0) rfl rfl rfl ?_
    refine eb_aload_n (pc := 8) (n := 0) (i := 0) rfl rfl rfl ?_
    refine eb_ctV (pc := 9) (As := []) (rest := [.ref s_MO]) rfl (by decide) rfl rfl (by decide) rfl (Nat.le_of_ble_eq_true rfl) ?_
    refine eb_bodyQ (by decide) ok_X11_standNow (Nat.le_of_ble_eq_true rfl) ?_
    change eb_Sn _ m_X11_standNow _ 0 [(0, .ref s_MO)] [] _ _
    refine eb_bipush (pc := 0) (n := 64) (v := 64) rfl rfl ?_
    refine eb_aload_n (pc := 2) (n := 0) (i := 0) rfl rfl rfl ?_
    refine eb_getR (pc := 3) rfl rfl (by decide) (by decide) rfl (ko_s_MO_1 ko) ?_
    refine eb_bipush (pc := 6) (n := 31) (v := 31) rfl rfl ?_
    refine eb_iaload (pc := 8) rfl rfl (by decide) (by unfold vp_in; decide) ?_
    refine eb_imul (pc := 9) rfl ?_
    refine eb_aload_n (pc := 10) (n := 0) (i := 0) rfl rfl rfl ?_
    refine eb_getR (pc := 11) rfl rfl (by decide) (by decide) rfl (ko_s_MO_1 ko) ?_
    refine eb_bipush (pc := 14) (n := 32) (v := 32) rfl rfl ?_
    refine eb_iaload (pc := 16) rfl rfl (by decide) (by unfold vp_in; decide) ?_
    refine eb_iadd (pc := 17) rfl ?_
    refine eb_ireturn (pc := 18) rfl rfl rfl ?_
    change eb_Sn _ _ _ 12 _ [.int (((64 : Int32) * (eb_I h s_m_all (31 : Int32).toNatClampNeg)) + (eb_I h s_m_all (32 : Int32).toNatClampNeg)), .ref s_MO] _ _
    refine eb_aload_n (pc := 12) (n := 0) (i := 0) rfl rfl rfl ?_
    refine eb_getR (pc := 13) rfl rfl (by decide) (by decide) rfl (ko_s_MO_1 ko) ?_
    refine eb_bipush (pc := 16) (n := 50) (v := 50) rfl rfl ?_
    refine eb_iaload (pc := 18) rfl rfl (by decide) (by unfold vp_in; decide) ?_
    refine eb_iload_n (pc := 19) (n := 1) (i := 1) rfl rfl rfl ?_
    refine eb_iload_n (pc := 20) (n := 2) (i := 2) rfl rfl rfl ?_
    refine eb_iload_n (pc := 21) (n := 3) (i := 3) rfl rfl rfl ?_
    refine eb_ctV (pc := 22) (As := [.int (((64 : Int32) * (eb_I h s_m_all (31 : Int32).toNatClampNeg)) + (eb_I h s_m_all (32 : Int32).toNatClampNeg)), .int (eb_I h s_m_all (50 : Int32).toNatClampNeg), .int x1, .int x2, .int x3]) (rest := []) rfl (by decide) rfl rfl (by decide) rfl (Nat.le_of_ble_eq_true rfl) ?_
    refine eb_Ct.mono w ?_
    rintro r h2 ⟨y3, rfl, ko4, w⟩
    change eb_Sn _ _ _ 25 _ [.int y3] _ _
    refine eb_if_eq (pc := 25) (tgt := 30) rfl (by decide) (fun c5 => ?_) (fun c5 => ?_)
    · replace w := w.1 c5
      refine eb_iinc (pc := 30) (i := 3) (n := 1) (v := x3 + 1) (ls2 := [(3, .int (x3 + 1)), (0, .ref s_MO), (1, .int x1), (2, .int x2)]) (Nat.le_of_ble_eq_true rfl) rfl rfl rfl rfl ?_
      refine eb_goto (pc := 33) (tgt := 2) rfl (by decide) ?_
      exact eb_pick [1, 2, 3, 0] rfl w
    · replace w := w.2 c5
      refine eb_iload_n (pc := 28) (n := 3) (i := 3) rfl rfl rfl ?_
      exact eb_ireturn (pc := 29) rfl rfl rfl w
theorem T_X11_forcedIn {d : Nat} {h : eb_H} {Q : Option Value → eb_H → Prop} (x1 : Int32) (x2 : Int32)  (ko : eb_KO h) (w : eb_Sn (d + 1) m_X11_forcedIn h 2 [(0, .ref s_MO), (1, .int x1), (2, .int x2), (3, .int 0)] [] h Q) : eb_Ct (d + 1) 265 [.ref s_MO, .int x1, .int x2] h Q :=
  eb_bodyQ (by decide) ok_X11_forcedIn (Nat.le_of_ble_eq_true rfl) (b_X11_forcedIn_0 (h0 := h) x1 x2  ko w)
theorem b_X11_noForce_0 {d : Nat} {h0 h : eb_H} {Q : Option Value → eb_H → Prop} (x1 : Int32) (x2 : Int32)  (ko : eb_KO h) (w : Q (some (.int (if (¬ (x1.toInt64 < 0)) ∧ (¬ ((((eb_I h s_m_all (4 : Int32).toNatClampNeg) - 1).toInt64) < x1.toInt64)) then (if x2.toInt64 < 0 then (-3) else (if 63 < x2.toInt64 then (-3) else 0)) else (-2) : Int32))) h) : eb_Sn (d + 2) m_X11_noForce h0 0 [(0, .ref s_MO), (1, .int x1), (2, .int x2)] [] h Q := by
  refine eb_aload_n (pc := 0) (n := 0) (i := 0) rfl rfl rfl ?_
  refine eb_iload_n (pc := 1) (n := 1) (i := 1) rfl rfl rfl ?_
  refine eb_joinI (pc2 := 5) (ls2 := [(0, .ref s_MO), (1, .int x1), (2, .int x2)]) (st2 := []) (v := eb_q ((¬ (x1.toInt64 < 0)) ∧ (¬ ((((eb_I h s_m_all (4 : Int32).toNatClampNeg) - 1).toInt64) < x1.toInt64)))) ?_ (fun jj8 => ?_)
  · refine eb_joinI (pc2 := 26) (ls2 := [(0, .ref s_MO), (1, .int x1), (2, .int x2)]) (st2 := []) (v := (if (¬ (x1.toInt64 < 0)) ∧ (¬ ((((eb_I h s_m_all (4 : Int32).toNatClampNeg) - 1).toInt64) < x1.toInt64)) then (if x2.toInt64 < 0 then (-3) else (if 63 < x2.toInt64 then (-3) else 0)) else (-2) : Int32)) ?_ (fun jj6 => ?_)
    · exact eb_ireturn (pc := 26) rfl rfl rfl w
    refine eb_if_ne (pc := 5) (tgt := 13) rfl (by decide) (fun c3 => ?_) (fun c3 => ?_)
    · replace c3 := eb_q1.mp c3
      refine eb_iload_n (pc := 13) (n := 2) (i := 2) rfl rfl rfl ?_
      refine eb_ctS (pc := 14) (As := [.int x2]) (rest := []) rfl (by decide) (by decide) rfl rfl (Nat.le_of_ble_eq_true rfl) ?_
      refine eb_bodyQ (by decide) ok_X11_isEchoes (Nat.le_of_ble_eq_true rfl) ?_
      change eb_Sn _ m_X11_isEchoes _ 0 [(0, .int x2)] [] _ _
      refine eb_iload_n (pc := 0) (n := 0) (i := 0) rfl rfl rfl ?_
      refine eb_i2l (pc := 1) rfl ?_
      refine eb_lconst (pc := 2) (n := 0) (v := 0) rfl rfl ?_
      refine eb_ldc2 (pc := 3) (a := 63) (v := 63) rfl (by decide) ?_
      refine eb_ctS (pc := 6) (As := [.long x2.toInt64, .long 0, .long 63]) (rest := []) rfl (by decide) (by decide) rfl rfl (Nat.le_of_ble_eq_true rfl) ?_
      refine eb_bodyQ (by decide) ok_X11_within (Nat.le_of_ble_eq_true rfl) ?_
      change eb_Sn _ m_X11_within _ 0 [(0, .long x2.toInt64), (2, .long 0), (4, .long 63)] [] _ _
      refine eb_lload_n (pc := 0) (n := 0) (i := 0) rfl rfl rfl ?_
      refine eb_lload_n (pc := 1) (n := 2) (i := 2) rfl rfl rfl ?_
      refine eb_lcmp (pc := 2) rfl ?_
      refine eb_if_lt (pc := 3) (tgt := 17) rfl (by decide) (fun c4 => ?_) (fun c4 => ?_)
      · replace c4 := eb_lc_lt.mp c4
        refine eb_iconst (pc := 17) (n := 0) (v := 0) rfl rfl ?_
        refine eb_ireturn (pc := 18) rfl rfl (by decide) ?_
        change eb_Sn _ _ _ 9 _ [.int 0] _ _
        refine eb_ireturn (pc := 9) rfl rfl (by decide) ?_
        change eb_Sn _ _ _ 17 _ [.int 0] _ _
        refine eb_if_eq (pc := 17) (tgt := 24) rfl (by decide) (fun c => ?_) (fun c => absurd c (by decide))
        refine eb_bipush (pc := 24) (n := -3) (v := (-3)) rfl rfl ?_
        exact jj6 _ (by simp only [if_pos c3, if_pos c4])
      · replace c4 := (fun hh => mt eb_lc_lt.mpr hh) c4
        refine eb_lload_n (pc := 6) (n := 0) (i := 0) rfl rfl rfl ?_
        refine eb_lload (pc := 7) (i := 4) rfl rfl ?_
        refine eb_lcmp (pc := 9) rfl ?_
        refine eb_if_gt (pc := 10) (tgt := 17) rfl (by decide) (fun c5 => ?_) (fun c5 => ?_)
        · replace c5 := eb_lc_gt.mp c5
          refine eb_iconst (pc := 17) (n := 0) (v := 0) rfl rfl ?_
          refine eb_ireturn (pc := 18) rfl rfl (by decide) ?_
          change eb_Sn _ _ _ 9 _ [.int 0] _ _
          refine eb_ireturn (pc := 9) rfl rfl (by decide) ?_
          change eb_Sn _ _ _ 17 _ [.int 0] _ _
          refine eb_if_eq (pc := 17) (tgt := 24) rfl (by decide) (fun c => ?_) (fun c => absurd c (by decide))
          refine eb_bipush (pc := 24) (n := -3) (v := (-3)) rfl rfl ?_
          exact jj6 _ (by simp only [if_pos c3, if_neg c4, if_pos c5])
        · replace c5 := (fun hh => mt eb_lc_gt.mpr hh) c5
          refine eb_iconst (pc := 13) (n := 1) (v := 1) rfl rfl ?_
          refine eb_goto (pc := 14) (tgt := 18) rfl (by decide) ?_
          refine eb_ireturn (pc := 18) rfl rfl (by decide) ?_
          change eb_Sn _ _ _ 9 _ [.int 1] _ _
          refine eb_ireturn (pc := 9) rfl rfl (by decide) ?_
          change eb_Sn _ _ _ 17 _ [.int 1] _ _
          refine eb_if_eq (pc := 17) (tgt := 24) rfl (by decide) (fun c => absurd c (by decide)) (fun c => ?_)
          refine eb_iconst (pc := 20) (n := 0) (v := 0) rfl rfl ?_
          refine eb_goto (pc := 21) (tgt := 26) rfl (by decide) ?_
          exact jj6 _ (by simp only [if_pos c3, if_neg c4, if_neg c5])
    · replace c3 := eb_q0.mp c3
      refine eb_bipush (pc := 8) (n := -2) (v := (-2)) rfl rfl ?_
      refine eb_goto (pc := 10) (tgt := 26) rfl (by decide) ?_
      exact jj6 _ (by simp only [if_neg c3])
  refine eb_ctV (pc := 2) (As := [.int x1]) (rest := []) rfl (by decide) rfl rfl (by decide) rfl (Nat.le_of_ble_eq_true rfl) ?_
  refine eb_bodyQ (by decide) ok_X11_isHouse (Nat.le_of_ble_eq_true rfl) ?_
  change eb_Sn _ m_X11_isHouse _ 0 [(0, .ref s_MO), (1, .int x1)] [] _ _
  refine eb_iload_n (pc := 0) (n := 1) (i := 1) rfl rfl rfl ?_
  refine eb_i2l (pc := 1) rfl ?_
  refine eb_lconst (pc := 2) (n := 0) (v := 0) rfl rfl ?_
  refine eb_aload_n (pc := 3) (n := 0) (i := 0) rfl rfl rfl ?_
  refine eb_getR (pc := 4) rfl rfl (by decide) (by decide) rfl (ko_s_MO_1 ko) ?_
  refine eb_iconst (pc := 7) (n := 4) (v := 4) rfl rfl ?_
  refine eb_iaload (pc := 8) rfl rfl (by decide) (by unfold vp_in; decide) ?_
  refine eb_iconst (pc := 9) (n := 1) (v := 1) rfl rfl ?_
  refine eb_isub (pc := 10) rfl ?_
  refine eb_i2l (pc := 11) rfl ?_
  refine eb_ctS (pc := 12) (As := [.long x1.toInt64, .long 0, .long (((eb_I h s_m_all (4 : Int32).toNatClampNeg) - 1).toInt64)]) (rest := []) rfl (by decide) (by decide) rfl rfl (Nat.le_of_ble_eq_true rfl) ?_
  refine eb_bodyQ (by decide) ok_X11_within (Nat.le_of_ble_eq_true rfl) ?_
  change eb_Sn _ m_X11_within _ 0 [(0, .long x1.toInt64), (2, .long 0), (4, .long (((eb_I h s_m_all (4 : Int32).toNatClampNeg) - 1).toInt64))] [] _ _
  refine eb_lload_n (pc := 0) (n := 0) (i := 0) rfl rfl rfl ?_
  refine eb_lload_n (pc := 1) (n := 2) (i := 2) rfl rfl rfl ?_
  refine eb_lcmp (pc := 2) rfl ?_
  refine eb_if_lt (pc := 3) (tgt := 17) rfl (by decide) (fun c1 => ?_) (fun c1 => ?_)
  · replace c1 := eb_lc_lt.mp c1
    refine eb_iconst (pc := 17) (n := 0) (v := 0) rfl rfl ?_
    refine eb_ireturn (pc := 18) rfl rfl (by decide) ?_
    change eb_Sn _ _ _ 15 _ [.int 0] _ _
    refine eb_ireturn (pc := 15) rfl rfl (by decide) ?_
    change eb_Sn _ _ _ 5 _ _ _ _
    exact jj8 0 (eb_qf (fun z => z.1 c1)).symm
  · replace c1 := (fun hh => mt eb_lc_lt.mpr hh) c1
    refine eb_lload_n (pc := 6) (n := 0) (i := 0) rfl rfl rfl ?_
    refine eb_lload (pc := 7) (i := 4) rfl rfl ?_
    refine eb_lcmp (pc := 9) rfl ?_
    refine eb_if_gt (pc := 10) (tgt := 17) rfl (by decide) (fun c2 => ?_) (fun c2 => ?_)
    · replace c2 := eb_lc_gt.mp c2
      refine eb_iconst (pc := 17) (n := 0) (v := 0) rfl rfl ?_
      refine eb_ireturn (pc := 18) rfl rfl (by decide) ?_
      change eb_Sn _ _ _ 15 _ [.int 0] _ _
      refine eb_ireturn (pc := 15) rfl rfl (by decide) ?_
      change eb_Sn _ _ _ 5 _ _ _ _
      exact jj8 0 (eb_qf (fun z => (fun z => z c2) z.2)).symm
    · replace c2 := (fun hh => mt eb_lc_gt.mpr hh) c2
      refine eb_iconst (pc := 13) (n := 1) (v := 1) rfl rfl ?_
      refine eb_goto (pc := 14) (tgt := 18) rfl (by decide) ?_
      refine eb_ireturn (pc := 18) rfl rfl (by decide) ?_
      change eb_Sn _ _ _ 15 _ [.int 1] _ _
      refine eb_ireturn (pc := 15) rfl rfl (by decide) ?_
      change eb_Sn _ _ _ 5 _ _ _ _
      exact jj8 1 (eb_qt (⟨c1, c2⟩)).symm
theorem T_X11_noForce {d : Nat} {h : eb_H} {Q : Option Value → eb_H → Prop} (x1 : Int32) (x2 : Int32)  (ko : eb_KO h) (w : Q (some (.int (if (¬ (x1.toInt64 < 0)) ∧ (¬ ((((eb_I h s_m_all (4 : Int32).toNatClampNeg) - 1).toInt64) < x1.toInt64)) then (if x2.toInt64 < 0 then (-3) else (if 63 < x2.toInt64 then (-3) else 0)) else (-2) : Int32))) h) : eb_Ct (d + 2) 266 [.ref s_MO, .int x1, .int x2] h Q :=
  eb_bodyQ (by decide) ok_X11_noForce (Nat.le_of_ble_eq_true rfl) (b_X11_noForce_0 (h0 := h) x1 x2  ko w)
theorem b_X11_forces_0 {d : Nat} {h0 h : eb_H} {Q : Option Value → eb_H → Prop} (x1 : Int32) (x2 : Int32)  (ko : eb_KO h) (w : eb_Ct d 266 [.ref s_MO, .int x1, .int x2] (eb_sI h s_MO 0 0) (fun r h1 => ∃ y2, r = some (.int y2) ∧ eb_KO h1 ∧ ((y2 = 0 → eb_Ct d 265 [.ref s_MO, .int x1, .int x2] h1 (fun r h5 => ∃ y6, r = some (.int y6) ∧ eb_KO h5 ∧ Q (some (.int y6)) h5)) ∧ (¬ (y2 = 0) → Q (some (.int y2)) h1)))) : eb_Sn (d + 1) m_X11_forces h0 0 [(0, .ref s_MO), (1, .int x1), (2, .int x2)] [] h Q := by
  refine eb_aload_n (pc := 0) (n := 0) (i := 0) rfl rfl rfl ?_
  refine eb_iconst (pc := 1) (n := 0) (v := 0) rfl rfl ?_
  refine eb_putI (pc := 2) rfl rfl (by decide) (by decide) rfl rfl ⟨rfl, rfl⟩ ?_
  refine eb_aload_n (pc := 5) (n := 0) (i := 0) rfl rfl rfl ?_
  refine eb_iload_n (pc := 6) (n := 1) (i := 1) rfl rfl rfl ?_
  refine eb_iload_n (pc := 7) (n := 2) (i := 2) rfl rfl rfl ?_
  refine eb_ctV (pc := 8) (As := [.int x1, .int x2]) (rest := []) rfl (by decide) rfl rfl (by decide) rfl (Nat.le_of_ble_eq_true rfl) ?_
  refine eb_Ct.mono w ?_
  rintro r h1 ⟨y2, rfl, ko3, w⟩
  change eb_Sn _ _ _ 11 _ [.int y2] _ _
  refine eb_istore_n (pc := 11) (n := 3) (i := 3) (ls2 := [(3, .int y2), (0, .ref s_MO), (1, .int x1), (2, .int x2)]) rfl (Nat.le_of_ble_eq_true rfl) rfl rfl ?_
  refine eb_iload_n (pc := 12) (n := 3) (i := 3) rfl rfl rfl ?_
  refine eb_if_eq (pc := 13) (tgt := 20) rfl (by decide) (fun c4 => ?_) (fun c4 => ?_)
  · replace w := w.1 c4
    refine eb_aload_n (pc := 20) (n := 0) (i := 0) rfl rfl rfl ?_
    refine eb_iload_n (pc := 21) (n := 1) (i := 1) rfl rfl rfl ?_
    refine eb_iload_n (pc := 22) (n := 2) (i := 2) rfl rfl rfl ?_
    refine eb_ctV (pc := 23) (As := [.int x1, .int x2]) (rest := []) rfl (by decide) rfl rfl (by decide) rfl (Nat.le_of_ble_eq_true rfl) ?_
    refine eb_Ct.mono w ?_
    rintro r h5 ⟨y6, rfl, ko7, w⟩
    change eb_Sn _ _ _ 26 _ [.int y6] _ _
    exact eb_ireturn (pc := 26) rfl rfl rfl w
  · replace w := w.2 c4
    refine eb_iload_n (pc := 16) (n := 3) (i := 3) rfl rfl rfl ?_
    refine eb_goto (pc := 17) (tgt := 26) rfl (by decide) ?_
    exact eb_ireturn (pc := 26) rfl rfl rfl w
theorem T_X11_forces {d : Nat} {h : eb_H} {Q : Option Value → eb_H → Prop} (x1 : Int32) (x2 : Int32)  (ko : eb_KO h) (w : eb_Ct d 266 [.ref s_MO, .int x1, .int x2] (eb_sI h s_MO 0 0) (fun r h1 => ∃ y2, r = some (.int y2) ∧ eb_KO h1 ∧ ((y2 = 0 → eb_Ct d 265 [.ref s_MO, .int x1, .int x2] h1 (fun r h5 => ∃ y6, r = some (.int y6) ∧ eb_KO h5 ∧ Q (some (.int y6)) h5)) ∧ (¬ (y2 = 0) → Q (some (.int y2)) h1)))) : eb_Ct (d + 1) 267 [.ref s_MO, .int x1, .int x2] h Q :=
  eb_bodyQ (by decide) ok_X11_forces (Nat.le_of_ble_eq_true rfl) (b_X11_forces_0 (h0 := h) x1 x2  ko w)
theorem b_X11_best_0 {d : Nat} {h0 h : eb_H} {Q : Option Value → eb_H → Prop} (x1 : Int32) (x2 : Int32)  (ko : eb_KO h) (w : eb_Ct d 266 [.ref s_MO, .int x1, .int x2] (eb_sI h s_MO 0 0) (fun r h1 => ∃ y2, r = some (.int y2) ∧ eb_KO h1 ∧ ((y2 = 0 → eb_Ct d 265 [.ref s_MO, .int x1, .int x2] h1 (fun r h5 => ∃ y6, r = some (.int y6) ∧ eb_KO h5 ∧ (((1 : Int32) ≤ y6 → eb_Sn (d + 1) m_X11_best h0 37 [(0, .ref s_MO), (1, .int x1), (2, .int x2), (4, .int y6), (5, .int 0)] [] h5 Q) ∧ (¬ ((1 : Int32) ≤ y6) → Q (some (.int (-1))) h5)))) ∧ (¬ (y2 = 0) → Q (some (.int y2)) h1)))) : eb_Sn (d + 1) m_X11_best h0 0 [(0, .ref s_MO), (1, .int x1), (2, .int x2)] [] h Q := by
  refine eb_aload_n (pc := 0) (n := 0) (i := 0) rfl rfl rfl ?_
  refine eb_iconst (pc := 1) (n := 0) (v := 0) rfl rfl ?_
  refine eb_putI (pc := 2) rfl rfl (by decide) (by decide) rfl rfl ⟨rfl, rfl⟩ ?_
  refine eb_aload_n (pc := 5) (n := 0) (i := 0) rfl rfl rfl ?_
  refine eb_iload_n (pc := 6) (n := 1) (i := 1) rfl rfl rfl ?_
  refine eb_iload_n (pc := 7) (n := 2) (i := 2) rfl rfl rfl ?_
  refine eb_ctV (pc := 8) (As := [.int x1, .int x2]) (rest := []) rfl (by decide) rfl rfl (by decide) rfl (Nat.le_of_ble_eq_true rfl) ?_
  refine eb_Ct.mono w ?_
  rintro r h1 ⟨y2, rfl, ko3, w⟩
  change eb_Sn _ _ _ 11 _ [.int y2] _ _
  refine eb_istore_n (pc := 11) (n := 3) (i := 3) (ls2 := [(3, .int y2), (0, .ref s_MO), (1, .int x1), (2, .int x2)]) rfl (Nat.le_of_ble_eq_true rfl) rfl rfl ?_
  refine eb_iload_n (pc := 12) (n := 3) (i := 3) rfl rfl rfl ?_
  refine eb_if_eq (pc := 13) (tgt := 18) rfl (by decide) (fun c4 => ?_) (fun c4 => ?_)
  · replace w := w.1 c4
    refine eb_aload_n (pc := 18) (n := 0) (i := 0) rfl rfl rfl ?_
    refine eb_iload_n (pc := 19) (n := 1) (i := 1) rfl rfl rfl ?_
    refine eb_iload_n (pc := 20) (n := 2) (i := 2) rfl rfl rfl ?_
    refine eb_ctV (pc := 21) (As := [.int x1, .int x2]) (rest := []) rfl (by decide) rfl rfl (by decide) rfl (Nat.le_of_ble_eq_true rfl) ?_
    refine eb_Ct.mono w ?_
    rintro r h5 ⟨y6, rfl, ko7, w⟩
    change eb_Sn _ _ _ 24 _ [.int y6] _ _
    refine eb_istore (pc := 24) (i := 4) (ls2 := [(4, .int y6), (3, .int y2), (0, .ref s_MO), (1, .int x1), (2, .int x2)]) (Nat.le_of_ble_eq_true rfl) rfl rfl ?_
    refine eb_iload (pc := 26) (i := 4) rfl rfl ?_
    refine eb_iconst (pc := 28) (n := 1) (v := 1) rfl rfl ?_
    refine eb_icmp_ge (pc := 29) (tgt := 34) rfl (by decide) (fun c8 => ?_) (fun c8 => ?_)
    · replace w := w.1 c8
      refine eb_iconst (pc := 34) (n := 0) (v := 0) rfl rfl ?_
      refine eb_istore (pc := 35) (i := 5) (ls2 := [(5, .int 0), (4, .int y6), (3, .int y2), (0, .ref s_MO), (1, .int x1), (2, .int x2)]) (Nat.le_of_ble_eq_true rfl) rfl rfl ?_
      exact eb_pick [3, 4, 5, 1, 0] rfl w
    · replace w := w.2 c8
      refine eb_iconst (pc := 32) (n := -1) (v := (-1)) rfl rfl ?_
      exact eb_ireturn (pc := 33) rfl rfl rfl w
  · replace w := w.2 c4
    refine eb_iload_n (pc := 16) (n := 3) (i := 3) rfl rfl rfl ?_
    exact eb_ireturn (pc := 17) rfl rfl rfl w
theorem b_X11_best_37 {d : Nat} {h0 h : eb_H} {Q : Option Value → eb_H → Prop} (x1 : Int32) (x2 : Int32) (x4 : Int32) (x5 : Int32)  (ko : eb_KO h) (w : (((4 : Int32) ≤ x5 → Q (some (.int 99)) h) ∧ (¬ ((4 : Int32) ≤ x5) → eb_Ct d 263 [.ref s_MO, .int (((64 : Int32) * (eb_I h s_m_all (31 : Int32).toNatClampNeg)) + (eb_I h s_m_all (32 : Int32).toNatClampNeg)), .int (eb_I h s_m_all (50 : Int32).toNatClampNeg), .int x5, .int x1, .int x2, .int x4] h (fun r h2 => ∃ y3, r = some (.int y3) ∧ eb_KO h2 ∧ ((y3 = 0 → eb_Sn (d + 1) m_X11_best h0 37 [(0, .ref s_MO), (1, .int x1), (2, .int x2), (4, .int x4), (5, .int (x5 + 1))] [] h2 Q) ∧ (¬ (y3 = 0) → Q (some (.int x5)) h2)))))) : eb_Sn (d + 1) m_X11_best h0 37 [(0, .ref s_MO), (1, .int x1), (2, .int x2), (4, .int x4), (5, .int x5)] [] h Q := by
  refine eb_iload (pc := 37) (i := 5) rfl rfl ?_
  refine eb_iconst (pc := 39) (n := 4) (v := 4) rfl rfl ?_
  refine eb_icmp_ge (pc := 40) (tgt := 76) rfl (by decide) (fun c1 => ?_) (fun c1 => ?_)
  · replace w := w.1 c1
    refine eb_bipush (pc := 76) (n := 99) (v := 99) rfl rfl ?_
    exact eb_ireturn (pc := 78) rfl rfl rfl w
  · replace w := w.2 c1
    refine eb_aload_n (pc := 43) (n := 0) (i := 0) rfl rfl rfl ?_
    refine eb_aload_n (pc := 44) (n := 0) (i := 0) rfl rfl rfl ?_
    refine eb_ctV (pc := 45) (As := []) (rest := [.ref s_MO]) rfl (by decide) rfl rfl (by decide) rfl (Nat.le_of_ble_eq_true rfl) ?_
    refine eb_bodyQ (by decide) ok_X11_standNow (Nat.le_of_ble_eq_true rfl) ?_
    change eb_Sn _ m_X11_standNow _ 0 [(0, .ref s_MO)] [] _ _
    refine eb_bipush (pc := 0) (n := 64) (v := 64) rfl rfl ?_
    refine eb_aload_n (pc := 2) (n := 0) (i := 0) rfl rfl rfl ?_
    refine eb_getR (pc := 3) rfl rfl (by decide) (by decide) rfl (ko_s_MO_1 ko) ?_
    refine eb_bipush (pc := 6) (n := 31) (v := 31) rfl rfl ?_
    refine eb_iaload (pc := 8) rfl rfl (by decide) (by unfold vp_in; decide) ?_
    refine eb_imul (pc := 9) rfl ?_
    refine eb_aload_n (pc := 10) (n := 0) (i := 0) rfl rfl rfl ?_
    refine eb_getR (pc := 11) rfl rfl (by decide) (by decide) rfl (ko_s_MO_1 ko) ?_
    refine eb_bipush (pc := 14) (n := 32) (v := 32) rfl rfl ?_
    refine eb_iaload (pc := 16) rfl rfl (by decide) (by unfold vp_in; decide) ?_
    refine eb_iadd (pc := 17) rfl ?_
    refine eb_ireturn (pc := 18) rfl rfl rfl ?_
    change eb_Sn _ _ _ 48 _ [.int (((64 : Int32) * (eb_I h s_m_all (31 : Int32).toNatClampNeg)) + (eb_I h s_m_all (32 : Int32).toNatClampNeg)), .ref s_MO] _ _
    refine eb_aload_n (pc := 48) (n := 0) (i := 0) rfl rfl rfl ?_
    refine eb_getR (pc := 49) rfl rfl (by decide) (by decide) rfl (ko_s_MO_1 ko) ?_
    refine eb_bipush (pc := 52) (n := 50) (v := 50) rfl rfl ?_
    refine eb_iaload (pc := 54) rfl rfl (by decide) (by unfold vp_in; decide) ?_
    refine eb_iload (pc := 55) (i := 5) rfl rfl ?_
    refine eb_iload_n (pc := 57) (n := 1) (i := 1) rfl rfl rfl ?_
    refine eb_iload_n (pc := 58) (n := 2) (i := 2) rfl rfl rfl ?_
    refine eb_iload (pc := 59) (i := 4) rfl rfl ?_
    refine eb_ctV (pc := 61) (As := [.int (((64 : Int32) * (eb_I h s_m_all (31 : Int32).toNatClampNeg)) + (eb_I h s_m_all (32 : Int32).toNatClampNeg)), .int (eb_I h s_m_all (50 : Int32).toNatClampNeg), .int x5, .int x1, .int x2, .int x4]) (rest := []) rfl (by decide) rfl rfl (by decide) rfl (Nat.le_of_ble_eq_true rfl) ?_
    refine eb_Ct.mono w ?_
    rintro r h2 ⟨y3, rfl, ko4, w⟩
    change eb_Sn _ _ _ 64 _ [.int y3] _ _
    refine eb_if_eq (pc := 64) (tgt := 70) rfl (by decide) (fun c5 => ?_) (fun c5 => ?_)
    · replace w := w.1 c5
      refine eb_iinc (pc := 70) (i := 5) (n := 1) (v := x5 + 1) (ls2 := [(5, .int (x5 + 1)), (0, .ref s_MO), (1, .int x1), (2, .int x2), (4, .int x4)]) (Nat.le_of_ble_eq_true rfl) rfl rfl rfl rfl ?_
      refine eb_goto (pc := 73) (tgt := 37) rfl (by decide) ?_
      exact eb_pick [1, 2, 3, 4, 0] rfl w
    · replace w := w.2 c5
      refine eb_iload (pc := 67) (i := 5) rfl rfl ?_
      exact eb_ireturn (pc := 69) rfl rfl rfl w
theorem T_X11_best {d : Nat} {h : eb_H} {Q : Option Value → eb_H → Prop} (x1 : Int32) (x2 : Int32)  (ko : eb_KO h) (w : eb_Ct d 266 [.ref s_MO, .int x1, .int x2] (eb_sI h s_MO 0 0) (fun r h1 => ∃ y2, r = some (.int y2) ∧ eb_KO h1 ∧ ((y2 = 0 → eb_Ct d 265 [.ref s_MO, .int x1, .int x2] h1 (fun r h5 => ∃ y6, r = some (.int y6) ∧ eb_KO h5 ∧ (((1 : Int32) ≤ y6 → eb_Sn (d + 1) m_X11_best h 37 [(0, .ref s_MO), (1, .int x1), (2, .int x2), (4, .int y6), (5, .int 0)] [] h5 Q) ∧ (¬ ((1 : Int32) ≤ y6) → Q (some (.int (-1))) h5)))) ∧ (¬ (y2 = 0) → Q (some (.int y2)) h1)))) : eb_Ct (d + 1) 268 [.ref s_MO, .int x1, .int x2] h Q :=
  eb_bodyQ (by decide) ok_X11_best (Nat.le_of_ble_eq_true rfl) (b_X11_best_0 (h0 := h) x1 x2  ko w)
theorem b_X11_wholeOf_0 {d : Nat} {h0 h : eb_H} {Q : Option Value → eb_H → Prop} (x0 : Int32)  (ko : eb_KO h) (w : Q (some (.int ((1 : Int32) <<< (((2 : Int32) * x0) &&& 31)))) h) : eb_Sn d m_X11_wholeOf h0 0 [(0, .int x0)] [] h Q := by
  refine eb_iconst (pc := 0) (n := 1) (v := 1) rfl rfl ?_
  refine eb_iconst (pc := 1) (n := 2) (v := 2) rfl rfl ?_
  refine eb_iload_n (pc := 2) (n := 0) (i := 0) rfl rfl rfl ?_
  refine eb_imul (pc := 3) rfl ?_
  refine eb_ishl (pc := 4) rfl ?_
  exact eb_ireturn (pc := 5) rfl rfl rfl w
theorem T_X11_wholeOf {d : Nat} {h : eb_H} {Q : Option Value → eb_H → Prop} (x0 : Int32)  (ko : eb_KO h) (w : Q (some (.int ((1 : Int32) <<< (((2 : Int32) * x0) &&& 31)))) h) : eb_Ct d 269 [.int x0] h Q :=
  eb_bodyQ (by decide) ok_X11_wholeOf (Nat.le_of_ble_eq_true rfl) (b_X11_wholeOf_0 (h0 := h) x0  ko w)
theorem b_X11_laysLikely_0 {d : Nat} {h0 h : eb_H} {Q : Option Value → eb_H → Prop} (x1 : Int32)  (ko : eb_KO h) (w : eb_Ct d 237 [.ref s_MO] h (fun r h1 => r = none ∧ eb_KO h1 ∧ eb_Sn (d + 1) m_X11_laysLikely h0 6 [(0, .ref s_MO), (1, .int x1), (2, .int 0)] [] h1 Q)) : eb_Sn (d + 1) m_X11_laysLikely h0 0 [(0, .ref s_MO), (1, .int x1)] [] h Q := by
  refine eb_aload_n (pc := 0) (n := 0) (i := 0) rfl rfl rfl ?_
  refine eb_ctV (pc := 1) (As := []) (rest := []) rfl (by decide) rfl rfl (by decide) rfl (Nat.le_of_ble_eq_true rfl) ?_
  refine eb_Ct.mono w ?_
  rintro r h1 ⟨rfl, ko3, w⟩
  change eb_Sn _ _ _ 4 _ [] _ _
  refine eb_iconst (pc := 4) (n := 0) (v := 0) rfl rfl ?_
  refine eb_istore_n (pc := 5) (n := 2) (i := 2) (ls2 := [(2, .int 0), (0, .ref s_MO), (1, .int x1)]) rfl (Nat.le_of_ble_eq_true rfl) rfl rfl ?_
  exact eb_pick [1, 2, 0] rfl w
theorem b_X11_laysLikely_6 {d : Nat} {h0 h : eb_H} {Q : Option Value → eb_H → Prop} (x1 : Int32) (x2 : Int32)  (ko : eb_KO h) (w : ((x1 ≤ x2 → Q none h) ∧ (¬ (x1 ≤ x2) → eb_Ct d 238 [.ref s_MO, .int 1] h (fun r h2 => r = none ∧ eb_KO h2 ∧ eb_Sn (d + 1) m_X11_laysLikely h0 6 [(0, .ref s_MO), (1, .int x1), (2, .int (x2 + 1))] [] h2 Q)))) : eb_Sn (d + 1) m_X11_laysLikely h0 6 [(0, .ref s_MO), (1, .int x1), (2, .int x2)] [] h Q := by
  refine eb_iload_n (pc := 6) (n := 2) (i := 2) rfl rfl rfl ?_
  refine eb_iload_n (pc := 7) (n := 1) (i := 1) rfl rfl rfl ?_
  refine eb_icmp_ge (pc := 8) (tgt := 22) rfl (by decide) (fun c1 => ?_) (fun c1 => ?_)
  · replace w := w.1 c1
    exact eb_return (pc := 22) rfl rfl w
  · replace w := w.2 c1
    refine eb_aload_n (pc := 11) (n := 0) (i := 0) rfl rfl rfl ?_
    refine eb_iconst (pc := 12) (n := 1) (v := 1) rfl rfl ?_
    refine eb_ctV (pc := 13) (As := [.int 1]) (rest := []) rfl (by decide) rfl rfl (by decide) rfl (Nat.le_of_ble_eq_true rfl) ?_
    refine eb_Ct.mono w ?_
    rintro r h2 ⟨rfl, ko4, w⟩
    change eb_Sn _ _ _ 16 _ [] _ _
    refine eb_iinc (pc := 16) (i := 2) (n := 1) (v := x2 + 1) (ls2 := [(2, .int (x2 + 1)), (0, .ref s_MO), (1, .int x1)]) (Nat.le_of_ble_eq_true rfl) rfl rfl rfl rfl ?_
    refine eb_goto (pc := 19) (tgt := 6) rfl (by decide) ?_
    exact eb_pick [1, 2, 0] rfl w
theorem T_X11_laysLikely {d : Nat} {h : eb_H} {Q : Option Value → eb_H → Prop} (x1 : Int32)  (ko : eb_KO h) (w : eb_Ct d 237 [.ref s_MO] h (fun r h1 => r = none ∧ eb_KO h1 ∧ eb_Sn (d + 1) m_X11_laysLikely h 6 [(0, .ref s_MO), (1, .int x1), (2, .int 0)] [] h1 Q)) : eb_Ct (d + 1) 270 [.ref s_MO, .int x1] h Q :=
  eb_bodyQ (by decide) ok_X11_laysLikely (Nat.le_of_ble_eq_true rfl) (b_X11_laysLikely_0 (h0 := h) x1  ko w)
theorem b_X11_common_0 {d : Nat} {h0 h : eb_H} {Q : Option Value → eb_H → Prop} (x0 : Int32) (x1 : Int32)  (ko : eb_KO h) (w : ((¬ x1 = 0 → (¬ x1 = 0) ∧ eb_Ct d 271 [.int x1, .int (x0 - x0 / x1 * x1)] h (fun r h3 => ∃ y4, r = some (.int y4) ∧ eb_KO h3 ∧ Q (some (.int y4)) h3)) ∧ (x1 = 0 → Q (some (.int x0)) h))) : eb_Sn (d + 1) m_X11_common h0 0 [(0, .int x0), (1, .int x1)] [] h Q := by
  refine eb_iload_n (pc := 0) (n := 1) (i := 1) rfl rfl rfl ?_
  refine eb_if_ne (pc := 1) (tgt := 8) rfl (by decide) (fun c1 => ?_) (fun c1 => ?_)
  · replace w := w.1 c1
    refine eb_iload_n (pc := 8) (n := 1) (i := 1) rfl rfl rfl ?_
    refine eb_iload_n (pc := 9) (n := 0) (i := 0) rfl rfl rfl ?_
    refine eb_iload_n (pc := 10) (n := 1) (i := 1) rfl rfl rfl ?_
    obtain ⟨c2, w⟩ := w
    refine eb_irem (pc := 11) c2 rfl ?_
    refine eb_ctS (pc := 12) (As := [.int x1, .int (x0 - x0 / x1 * x1)]) (rest := []) rfl (by decide) (by decide) rfl rfl (Nat.le_of_ble_eq_true rfl) ?_
    refine eb_Ct.mono w ?_
    rintro r h3 ⟨y4, rfl, ko5, w⟩
    change eb_Sn _ _ _ 15 _ [.int y4] _ _
    exact eb_ireturn (pc := 15) rfl rfl rfl w
  · replace w := w.2 c1
    refine eb_iload_n (pc := 4) (n := 0) (i := 0) rfl rfl rfl ?_
    refine eb_goto (pc := 5) (tgt := 15) rfl (by decide) ?_
    exact eb_ireturn (pc := 15) rfl rfl rfl w
theorem T_X11_common {d : Nat} {h : eb_H} {Q : Option Value → eb_H → Prop} (x0 : Int32) (x1 : Int32)  (ko : eb_KO h) (w : ((¬ x1 = 0 → (¬ x1 = 0) ∧ eb_Ct d 271 [.int x1, .int (x0 - x0 / x1 * x1)] h (fun r h3 => ∃ y4, r = some (.int y4) ∧ eb_KO h3 ∧ Q (some (.int y4)) h3)) ∧ (x1 = 0 → Q (some (.int x0)) h))) : eb_Ct (d + 1) 271 [.int x0, .int x1] h Q :=
  eb_bodyQ (by decide) ok_X11_common (Nat.le_of_ble_eq_true rfl) (b_X11_common_0 (h0 := h) x0 x1  ko w)
theorem b_X11_part_0 {d : Nat} {h0 h : eb_H} {Q : Option Value → eb_H → Prop} (x0 : Int64) (x2 : Int32) (x3 : Int32)  (ko : eb_KO h) (w : eb_Ct d 271 [.int x0.toInt32, .int x2] h (fun r h4 => ∃ y5, r = some (.int y5) ∧ eb_KO h4 ∧ (¬ y5 = 0) ∧ Q (some (.int ((if x3 = 0 then x0.toInt32 else x2 : Int32) / y5))) h4)) : eb_Sn (d + 1) m_X11_part h0 0 [(0, .long x0), (2, .int x2), (3, .int x3)] [] h Q := by
  refine eb_lload_n (pc := 0) (n := 0) (i := 0) rfl rfl rfl ?_
  refine eb_l2i (pc := 1) rfl ?_
  refine eb_istore (pc := 2) (i := 4) (ls2 := [(4, .int x0.toInt32), (0, .long x0), (2, .int x2), (3, .int x3)]) (Nat.le_of_ble_eq_true rfl) rfl rfl ?_
  refine eb_iload_n (pc := 4) (n := 3) (i := 3) rfl rfl rfl ?_
  refine eb_joinI (pc2 := 14) (ls2 := [(4, .int x0.toInt32), (0, .long x0), (2, .int x2), (3, .int x3)]) (st2 := []) (v := (if x3 = 0 then x0.toInt32 else x2 : Int32)) ?_ (fun jj2 => ?_)
  · refine eb_iload (pc := 14) (i := 4) rfl rfl ?_
    refine eb_iload_n (pc := 16) (n := 2) (i := 2) rfl rfl rfl ?_
    refine eb_ctS (pc := 17) (As := [.int x0.toInt32, .int x2]) (rest := [.int (if x3 = 0 then x0.toInt32 else x2 : Int32)]) rfl (by decide) (by decide) rfl rfl (Nat.le_of_ble_eq_true rfl) ?_
    refine eb_Ct.mono w ?_
    rintro r h4 ⟨y5, rfl, ko6, w⟩
    change eb_Sn _ _ _ 20 _ [.int y5, .int (if x3 = 0 then x0.toInt32 else x2 : Int32)] _ _
    obtain ⟨c7, w⟩ := w
    refine eb_idiv (pc := 20) c7 rfl ?_
    exact eb_ireturn (pc := 21) rfl rfl rfl w
  refine eb_if_ne (pc := 5) (tgt := 13) rfl (by decide) (fun c1 => ?_) (fun c1 => ?_)
  · refine eb_iload_n (pc := 13) (n := 2) (i := 2) rfl rfl rfl ?_
    exact jj2 _ (by simp only [if_neg c1])
  · refine eb_iload (pc := 8) (i := 4) rfl rfl ?_
    refine eb_goto (pc := 10) (tgt := 14) rfl (by decide) ?_
    exact jj2 _ (by simp only [if_pos c1])
theorem T_X11_part {d : Nat} {h : eb_H} {Q : Option Value → eb_H → Prop} (x0 : Int64) (x2 : Int32) (x3 : Int32)  (ko : eb_KO h) (w : eb_Ct d 271 [.int x0.toInt32, .int x2] h (fun r h4 => ∃ y5, r = some (.int y5) ∧ eb_KO h4 ∧ (¬ y5 = 0) ∧ Q (some (.int ((if x3 = 0 then x0.toInt32 else x2 : Int32) / y5))) h4)) : eb_Ct (d + 1) 272 [.long x0, .int x2, .int x3] h Q :=
  eb_bodyQ (by decide) ok_X11_part (Nat.le_of_ble_eq_true rfl) (b_X11_part_0 (h0 := h) x0 x2 x3  ko w)
theorem b_X11_chance_0 {d : Nat} {h0 h : eb_H} {Q : Option Value → eb_H → Prop} (x1 : Int32) (x2 : Int32) (x3 : Int32) (x4 : Int32)  (ko : eb_KO h) (w : ((¬ ((¬ (x1.toInt64 < 0)) ∧ (¬ (((((eb_I (eb_sI h s_MO 0 0) s_m_all (1 : Int32).toNatClampNeg) * (eb_I (eb_sI h s_MO 0 0) s_m_all (2 : Int32).toNatClampNeg)) - 1).toInt64) < x1.toInt64))) → Q (some (.int (-2))) (eb_sI h s_MO 0 0)) ∧ ((¬ (x1.toInt64 < 0)) ∧ (¬ (((((eb_I (eb_sI h s_MO 0 0) s_m_all (1 : Int32).toNatClampNeg) * (eb_I (eb_sI h s_MO 0 0) s_m_all (2 : Int32).toNatClampNeg)) - 1).toInt64) < x1.toInt64)) → (((¬ (x4.toInt64 < 0)) ∧ (¬ (1 < x4.toInt64)) → ((¬ ((¬ (x2.toInt64 < 0)) ∧ (¬ (63 < x2.toInt64))) → Q (some (.int (-3))) (eb_sI h s_MO 0 0)) ∧ ((¬ (x2.toInt64 < 0)) ∧ (¬ (63 < x2.toInt64)) → (((¬ (x3.toInt64 < 0)) ∧ (¬ (8 < x3.toInt64)) → eb_Ct (d + 1) 270 [.ref s_MO, .int x3] (eb_sI h s_MO 0 0) (fun r h13 => r = none ∧ eb_KO h13 ∧ eb_Sn (d + 2) m_X11_chance h0 61 [(0, .ref s_MO), (1, .int x1), (2, .int x2), (3, .int x3), (4, .int x4), (5, .long 0), (7, .int 0)] [] h13 Q)) ∧ (¬ ((¬ (x3.toInt64 < 0)) ∧ (¬ (8 < x3.toInt64))) → Q (some (.int (-3))) (eb_sI h s_MO 0 0)))))) ∧ (¬ ((¬ (x4.toInt64 < 0)) ∧ (¬ (1 < x4.toInt64))) → Q (some (.int (-2))) (eb_sI h s_MO 0 0)))))) : eb_Sn (d + 2) m_X11_chance h0 0 [(0, .ref s_MO), (1, .int x1), (2, .int x2), (3, .int x3), (4, .int x4)] [] h Q := by
  refine eb_aload_n (pc := 0) (n := 0) (i := 0) rfl rfl rfl ?_
  refine eb_iconst (pc := 1) (n := 0) (v := 0) rfl rfl ?_
  refine eb_putI (pc := 2) rfl rfl (by decide) (by decide) rfl rfl ⟨rfl, rfl⟩ ?_
  refine eb_aload_n (pc := 5) (n := 0) (i := 0) rfl rfl rfl ?_
  refine eb_iload_n (pc := 6) (n := 1) (i := 1) rfl rfl rfl ?_
  refine eb_i2l (pc := 7) rfl ?_
  refine eb_joinI (pc2 := 11) (ls2 := [(0, .ref s_MO), (1, .int x1), (2, .int x2), (3, .int x3), (4, .int x4)]) (st2 := []) (v := eb_q ((¬ (x1.toInt64 < 0)) ∧ (¬ (((((eb_I (eb_sI h s_MO 0 0) s_m_all (1 : Int32).toNatClampNeg) * (eb_I (eb_sI h s_MO 0 0) s_m_all (2 : Int32).toNatClampNeg)) - 1).toInt64) < x1.toInt64)))) ?_ (fun jj22 => ?_)
  · refine eb_if_eq (pc := 11) (tgt := 25) rfl (by decide) (fun c3 => ?_) (fun c3 => ?_)
    · replace c3 := eb_q0.mp c3
      replace w := w.1 c3
      refine eb_bipush (pc := 25) (n := -2) (v := (-2)) rfl rfl ?_
      exact eb_ireturn (pc := 27) rfl rfl rfl w
    · replace c3 := eb_q1.mp c3
      replace w := w.2 c3
      refine eb_iload (pc := 14) (i := 4) rfl rfl ?_
      refine eb_i2l (pc := 16) rfl ?_
      refine eb_lconst (pc := 17) (n := 0) (v := 0) rfl rfl ?_
      refine eb_lconst (pc := 18) (n := 1) (v := 1) rfl rfl ?_
      refine eb_joinI (pc2 := 22) (ls2 := [(0, .ref s_MO), (1, .int x1), (2, .int x2), (3, .int x3), (4, .int x4)]) (st2 := []) (v := eb_q ((¬ (x4.toInt64 < 0)) ∧ (¬ (1 < x4.toInt64)))) ?_ (fun jj20 => ?_)
      · refine eb_if_ne (pc := 22) (tgt := 28) rfl (by decide) (fun c6 => ?_) (fun c6 => ?_)
        · replace c6 := eb_q1.mp c6
          replace w := w.1 c6
          refine eb_iload_n (pc := 28) (n := 2) (i := 2) rfl rfl rfl ?_
          refine eb_joinI (pc2 := 32) (ls2 := [(0, .ref s_MO), (1, .int x1), (2, .int x2), (3, .int x3), (4, .int x4)]) (st2 := []) (v := eb_q ((¬ (x2.toInt64 < 0)) ∧ (¬ (63 < x2.toInt64)))) ?_ (fun jj18 => ?_)
          · refine eb_if_eq (pc := 32) (tgt := 47) rfl (by decide) (fun c9 => ?_) (fun c9 => ?_)
            · replace c9 := eb_q0.mp c9
              replace w := w.1 c9
              refine eb_bipush (pc := 47) (n := -3) (v := (-3)) rfl rfl ?_
              exact eb_ireturn (pc := 49) rfl rfl rfl w
            · replace c9 := eb_q1.mp c9
              replace w := w.2 c9
              refine eb_iload_n (pc := 35) (n := 3) (i := 3) rfl rfl rfl ?_
              refine eb_i2l (pc := 36) rfl ?_
              refine eb_lconst (pc := 37) (n := 0) (v := 0) rfl rfl ?_
              refine eb_ldc2 (pc := 38) (a := 8) (v := 8) rfl (by decide) ?_
              refine eb_joinI (pc2 := 44) (ls2 := [(0, .ref s_MO), (1, .int x1), (2, .int x2), (3, .int x3), (4, .int x4)]) (st2 := []) (v := eb_q ((¬ (x3.toInt64 < 0)) ∧ (¬ (8 < x3.toInt64)))) ?_ (fun jj16 => ?_)
              · refine eb_if_ne (pc := 44) (tgt := 50) rfl (by decide) (fun c12 => ?_) (fun c12 => ?_)
                · replace c12 := eb_q1.mp c12
                  replace w := w.1 c12
                  refine eb_aload_n (pc := 50) (n := 0) (i := 0) rfl rfl rfl ?_
                  refine eb_iload_n (pc := 51) (n := 3) (i := 3) rfl rfl rfl ?_
                  refine eb_ctV (pc := 52) (As := [.int x3]) (rest := []) rfl (by decide) rfl rfl (by decide) rfl (Nat.le_of_ble_eq_true rfl) ?_
                  refine eb_Ct.mono w ?_
                  rintro r h13 ⟨rfl, ko15, w⟩
                  change eb_Sn _ _ _ 55 _ [] _ _
                  refine eb_lconst (pc := 55) (n := 0) (v := 0) rfl rfl ?_
                  refine eb_lstore (pc := 56) (i := 5) (ls2 := [(5, .long 0), (0, .ref s_MO), (1, .int x1), (2, .int x2), (3, .int x3), (4, .int x4)]) (Nat.le_of_ble_eq_true rfl) rfl rfl ?_
                  refine eb_iconst (pc := 58) (n := 0) (v := 0) rfl rfl ?_
                  refine eb_istore (pc := 59) (i := 7) (ls2 := [(7, .int 0), (5, .long 0), (0, .ref s_MO), (1, .int x1), (2, .int x2), (3, .int x3), (4, .int x4)]) (Nat.le_of_ble_eq_true rfl) rfl rfl ?_
                  exact eb_pick [2, 3, 4, 5, 6, 1, 0] rfl w
                · replace c12 := eb_q0.mp c12
                  replace w := w.2 c12
                  refine eb_bipush (pc := 47) (n := -3) (v := (-3)) rfl rfl ?_
                  exact eb_ireturn (pc := 49) rfl rfl rfl w
              refine eb_ctS (pc := 41) (As := [.long x3.toInt64, .long 0, .long 8]) (rest := []) rfl (by decide) (by decide) rfl rfl (Nat.le_of_ble_eq_true rfl) ?_
              refine eb_bodyQ (by decide) ok_X11_within (Nat.le_of_ble_eq_true rfl) ?_
              change eb_Sn _ m_X11_within _ 0 [(0, .long x3.toInt64), (2, .long 0), (4, .long 8)] [] _ _
              refine eb_lload_n (pc := 0) (n := 0) (i := 0) rfl rfl rfl ?_
              refine eb_lload_n (pc := 1) (n := 2) (i := 2) rfl rfl rfl ?_
              refine eb_lcmp (pc := 2) rfl ?_
              refine eb_if_lt (pc := 3) (tgt := 17) rfl (by decide) (fun c10 => ?_) (fun c10 => ?_)
              · replace c10 := eb_lc_lt.mp c10
                refine eb_iconst (pc := 17) (n := 0) (v := 0) rfl rfl ?_
                refine eb_ireturn (pc := 18) rfl rfl (by decide) ?_
                change eb_Sn _ _ _ 44 _ _ _ _
                exact jj16 0 (eb_qf (fun z => z.1 c10)).symm
              · replace c10 := (fun hh => mt eb_lc_lt.mpr hh) c10
                refine eb_lload_n (pc := 6) (n := 0) (i := 0) rfl rfl rfl ?_
                refine eb_lload (pc := 7) (i := 4) rfl rfl ?_
                refine eb_lcmp (pc := 9) rfl ?_
                refine eb_if_gt (pc := 10) (tgt := 17) rfl (by decide) (fun c11 => ?_) (fun c11 => ?_)
                · replace c11 := eb_lc_gt.mp c11
                  refine eb_iconst (pc := 17) (n := 0) (v := 0) rfl rfl ?_
                  refine eb_ireturn (pc := 18) rfl rfl (by decide) ?_
                  change eb_Sn _ _ _ 44 _ _ _ _
                  exact jj16 0 (eb_qf (fun z => (fun z => z c11) z.2)).symm
                · replace c11 := (fun hh => mt eb_lc_gt.mpr hh) c11
                  refine eb_iconst (pc := 13) (n := 1) (v := 1) rfl rfl ?_
                  refine eb_goto (pc := 14) (tgt := 18) rfl (by decide) ?_
                  refine eb_ireturn (pc := 18) rfl rfl (by decide) ?_
                  change eb_Sn _ _ _ 44 _ _ _ _
                  exact jj16 1 (eb_qt (⟨c10, c11⟩)).symm
          refine eb_ctS (pc := 29) (As := [.int x2]) (rest := []) rfl (by decide) (by decide) rfl rfl (Nat.le_of_ble_eq_true rfl) ?_
          refine eb_bodyQ (by decide) ok_X11_isEchoes (Nat.le_of_ble_eq_true rfl) ?_
          change eb_Sn _ m_X11_isEchoes _ 0 [(0, .int x2)] [] _ _
          refine eb_iload_n (pc := 0) (n := 0) (i := 0) rfl rfl rfl ?_
          refine eb_i2l (pc := 1) rfl ?_
          refine eb_lconst (pc := 2) (n := 0) (v := 0) rfl rfl ?_
          refine eb_ldc2 (pc := 3) (a := 63) (v := 63) rfl (by decide) ?_
          refine eb_ctS (pc := 6) (As := [.long x2.toInt64, .long 0, .long 63]) (rest := []) rfl (by decide) (by decide) rfl rfl (Nat.le_of_ble_eq_true rfl) ?_
          refine eb_bodyQ (by decide) ok_X11_within (Nat.le_of_ble_eq_true rfl) ?_
          change eb_Sn _ m_X11_within _ 0 [(0, .long x2.toInt64), (2, .long 0), (4, .long 63)] [] _ _
          refine eb_lload_n (pc := 0) (n := 0) (i := 0) rfl rfl rfl ?_
          refine eb_lload_n (pc := 1) (n := 2) (i := 2) rfl rfl rfl ?_
          refine eb_lcmp (pc := 2) rfl ?_
          refine eb_if_lt (pc := 3) (tgt := 17) rfl (by decide) (fun c7 => ?_) (fun c7 => ?_)
          · replace c7 := eb_lc_lt.mp c7
            refine eb_iconst (pc := 17) (n := 0) (v := 0) rfl rfl ?_
            refine eb_ireturn (pc := 18) rfl rfl (by decide) ?_
            change eb_Sn _ _ _ 9 _ [.int 0] _ _
            refine eb_ireturn (pc := 9) rfl rfl (by decide) ?_
            change eb_Sn _ _ _ 32 _ _ _ _
            exact jj18 0 (eb_qf (fun z => z.1 c7)).symm
          · replace c7 := (fun hh => mt eb_lc_lt.mpr hh) c7
            refine eb_lload_n (pc := 6) (n := 0) (i := 0) rfl rfl rfl ?_
            refine eb_lload (pc := 7) (i := 4) rfl rfl ?_
            refine eb_lcmp (pc := 9) rfl ?_
            refine eb_if_gt (pc := 10) (tgt := 17) rfl (by decide) (fun c8 => ?_) (fun c8 => ?_)
            · replace c8 := eb_lc_gt.mp c8
              refine eb_iconst (pc := 17) (n := 0) (v := 0) rfl rfl ?_
              refine eb_ireturn (pc := 18) rfl rfl (by decide) ?_
              change eb_Sn _ _ _ 9 _ [.int 0] _ _
              refine eb_ireturn (pc := 9) rfl rfl (by decide) ?_
              change eb_Sn _ _ _ 32 _ _ _ _
              exact jj18 0 (eb_qf (fun z => (fun z => z c8) z.2)).symm
            · replace c8 := (fun hh => mt eb_lc_gt.mpr hh) c8
              refine eb_iconst (pc := 13) (n := 1) (v := 1) rfl rfl ?_
              refine eb_goto (pc := 14) (tgt := 18) rfl (by decide) ?_
              refine eb_ireturn (pc := 18) rfl rfl (by decide) ?_
              change eb_Sn _ _ _ 9 _ [.int 1] _ _
              refine eb_ireturn (pc := 9) rfl rfl (by decide) ?_
              change eb_Sn _ _ _ 32 _ _ _ _
              exact jj18 1 (eb_qt (⟨c7, c8⟩)).symm
        · replace c6 := eb_q0.mp c6
          replace w := w.2 c6
          refine eb_bipush (pc := 25) (n := -2) (v := (-2)) rfl rfl ?_
          exact eb_ireturn (pc := 27) rfl rfl rfl w
      refine eb_ctS (pc := 19) (As := [.long x4.toInt64, .long 0, .long 1]) (rest := []) rfl (by decide) (by decide) rfl rfl (Nat.le_of_ble_eq_true rfl) ?_
      refine eb_bodyQ (by decide) ok_X11_within (Nat.le_of_ble_eq_true rfl) ?_
      change eb_Sn _ m_X11_within _ 0 [(0, .long x4.toInt64), (2, .long 0), (4, .long 1)] [] _ _
      refine eb_lload_n (pc := 0) (n := 0) (i := 0) rfl rfl rfl ?_
      refine eb_lload_n (pc := 1) (n := 2) (i := 2) rfl rfl rfl ?_
      refine eb_lcmp (pc := 2) rfl ?_
      refine eb_if_lt (pc := 3) (tgt := 17) rfl (by decide) (fun c4 => ?_) (fun c4 => ?_)
      · replace c4 := eb_lc_lt.mp c4
        refine eb_iconst (pc := 17) (n := 0) (v := 0) rfl rfl ?_
        refine eb_ireturn (pc := 18) rfl rfl (by decide) ?_
        change eb_Sn _ _ _ 22 _ _ _ _
        exact jj20 0 (eb_qf (fun z => z.1 c4)).symm
      · replace c4 := (fun hh => mt eb_lc_lt.mpr hh) c4
        refine eb_lload_n (pc := 6) (n := 0) (i := 0) rfl rfl rfl ?_
        refine eb_lload (pc := 7) (i := 4) rfl rfl ?_
        refine eb_lcmp (pc := 9) rfl ?_
        refine eb_if_gt (pc := 10) (tgt := 17) rfl (by decide) (fun c5 => ?_) (fun c5 => ?_)
        · replace c5 := eb_lc_gt.mp c5
          refine eb_iconst (pc := 17) (n := 0) (v := 0) rfl rfl ?_
          refine eb_ireturn (pc := 18) rfl rfl (by decide) ?_
          change eb_Sn _ _ _ 22 _ _ _ _
          exact jj20 0 (eb_qf (fun z => (fun z => z c5) z.2)).symm
        · replace c5 := (fun hh => mt eb_lc_gt.mpr hh) c5
          refine eb_iconst (pc := 13) (n := 1) (v := 1) rfl rfl ?_
          refine eb_goto (pc := 14) (tgt := 18) rfl (by decide) ?_
          refine eb_ireturn (pc := 18) rfl rfl (by decide) ?_
          change eb_Sn _ _ _ 22 _ _ _ _
          exact jj20 1 (eb_qt (⟨c4, c5⟩)).symm
  refine eb_ctV (pc := 8) (As := [.long x1.toInt64]) (rest := []) rfl (by decide) rfl rfl (by decide) rfl (Nat.le_of_ble_eq_true rfl) ?_
  refine eb_bodyQ (by decide) ok_X11_isCell (Nat.le_of_ble_eq_true rfl) ?_
  change eb_Sn _ m_X11_isCell _ 0 [(0, .ref s_MO), (1, .long x1.toInt64)] [] _ _
  refine eb_lload_n (pc := 0) (n := 1) (i := 1) rfl rfl rfl ?_
  refine eb_lconst (pc := 1) (n := 0) (v := 0) rfl rfl ?_
  refine eb_aload_n (pc := 2) (n := 0) (i := 0) rfl rfl rfl ?_
  refine eb_ctV (pc := 3) (As := []) (rest := [.long 0, .long x1.toInt64]) rfl (by decide) rfl rfl (by decide) rfl (Nat.le_of_ble_eq_true rfl) ?_
  refine eb_bodyQ (by decide) ok_X11_cells (Nat.le_of_ble_eq_true rfl) ?_
  change eb_Sn _ m_X11_cells _ 0 [(0, .ref s_MO)] [] _ _
  refine eb_aload_n (pc := 0) (n := 0) (i := 0) rfl rfl rfl ?_
  refine eb_getR (pc := 1) rfl rfl (by decide) (by decide) rfl (ko_s_MO_1 ko) ?_
  refine eb_iconst (pc := 4) (n := 1) (v := 1) rfl rfl ?_
  refine eb_iaload (pc := 5) rfl rfl (by decide) (by unfold vp_in; decide) ?_
  refine eb_aload_n (pc := 6) (n := 0) (i := 0) rfl rfl rfl ?_
  refine eb_getR (pc := 7) rfl rfl (by decide) (by decide) rfl (ko_s_MO_1 ko) ?_
  refine eb_iconst (pc := 10) (n := 2) (v := 2) rfl rfl ?_
  refine eb_iaload (pc := 11) rfl rfl (by decide) (by unfold vp_in; decide) ?_
  refine eb_imul (pc := 12) rfl ?_
  refine eb_ireturn (pc := 13) rfl rfl rfl ?_
  change eb_Sn _ _ _ 6 _ [.int ((eb_I (eb_sI h s_MO 0 0) s_m_all (1 : Int32).toNatClampNeg) * (eb_I (eb_sI h s_MO 0 0) s_m_all (2 : Int32).toNatClampNeg)), .long 0, .long x1.toInt64] _ _
  refine eb_iconst (pc := 6) (n := 1) (v := 1) rfl rfl ?_
  refine eb_isub (pc := 7) rfl ?_
  refine eb_i2l (pc := 8) rfl ?_
  refine eb_ctS (pc := 9) (As := [.long x1.toInt64, .long 0, .long ((((eb_I (eb_sI h s_MO 0 0) s_m_all (1 : Int32).toNatClampNeg) * (eb_I (eb_sI h s_MO 0 0) s_m_all (2 : Int32).toNatClampNeg)) - 1).toInt64)]) (rest := []) rfl (by decide) (by decide) rfl rfl (Nat.le_of_ble_eq_true rfl) ?_
  refine eb_bodyQ (by decide) ok_X11_within (Nat.le_of_ble_eq_true rfl) ?_
  change eb_Sn _ m_X11_within _ 0 [(0, .long x1.toInt64), (2, .long 0), (4, .long ((((eb_I (eb_sI h s_MO 0 0) s_m_all (1 : Int32).toNatClampNeg) * (eb_I (eb_sI h s_MO 0 0) s_m_all (2 : Int32).toNatClampNeg)) - 1).toInt64))] [] _ _
  refine eb_lload_n (pc := 0) (n := 0) (i := 0) rfl rfl rfl ?_
  refine eb_lload_n (pc := 1) (n := 2) (i := 2) rfl rfl rfl ?_
  refine eb_lcmp (pc := 2) rfl ?_
  refine eb_if_lt (pc := 3) (tgt := 17) rfl (by decide) (fun c1 => ?_) (fun c1 => ?_)
  · replace c1 := eb_lc_lt.mp c1
    refine eb_iconst (pc := 17) (n := 0) (v := 0) rfl rfl ?_
    refine eb_ireturn (pc := 18) rfl rfl (by decide) ?_
    change eb_Sn _ _ _ 12 _ [.int 0] _ _
    refine eb_ireturn (pc := 12) rfl rfl (by decide) ?_
    change eb_Sn _ _ _ 11 _ _ _ _
    exact jj22 0 (eb_qf (fun z => z.1 c1)).symm
  · replace c1 := (fun hh => mt eb_lc_lt.mpr hh) c1
    refine eb_lload_n (pc := 6) (n := 0) (i := 0) rfl rfl rfl ?_
    refine eb_lload (pc := 7) (i := 4) rfl rfl ?_
    refine eb_lcmp (pc := 9) rfl ?_
    refine eb_if_gt (pc := 10) (tgt := 17) rfl (by decide) (fun c2 => ?_) (fun c2 => ?_)
    · replace c2 := eb_lc_gt.mp c2
      refine eb_iconst (pc := 17) (n := 0) (v := 0) rfl rfl ?_
      refine eb_ireturn (pc := 18) rfl rfl (by decide) ?_
      change eb_Sn _ _ _ 12 _ [.int 0] _ _
      refine eb_ireturn (pc := 12) rfl rfl (by decide) ?_
      change eb_Sn _ _ _ 11 _ _ _ _
      exact jj22 0 (eb_qf (fun z => (fun z => z c2) z.2)).symm
    · replace c2 := (fun hh => mt eb_lc_gt.mpr hh) c2
      refine eb_iconst (pc := 13) (n := 1) (v := 1) rfl rfl ?_
      refine eb_goto (pc := 14) (tgt := 18) rfl (by decide) ?_
      refine eb_ireturn (pc := 18) rfl rfl (by decide) ?_
      change eb_Sn _ _ _ 12 _ [.int 1] _ _
      refine eb_ireturn (pc := 12) rfl rfl (by decide) ?_
      change eb_Sn _ _ _ 11 _ _ _ _
      exact jj22 1 (eb_qt (⟨c1, c2⟩)).symm
theorem b_X11_chance_61 {d : Nat} {h0 h : eb_H} {Q : Option Value → eb_H → Prop} (x1 : Int32) (x2 : Int32) (x3 : Int32) (x4 : Int32) (x5 : Int64) (x7 : Int32)  (ko : eb_KO h) (w : ((((64 : Int32) * ((eb_I h s_m_all (1 : Int32).toNatClampNeg) * (eb_I h s_m_all (2 : Int32).toNatClampNeg))) ≤ x7 → eb_Ct (d + 1) 272 [.long x5, .int ((1 : Int32) <<< (((2 : Int32) * x3) &&& 31)), .int x4] h (fun r h2 => ∃ y3, r = some (.int y3) ∧ eb_KO h2 ∧ Q (some (.int y3)) h2)) ∧ (¬ (((64 : Int32) * ((eb_I h s_m_all (1 : Int32).toNatClampNeg) * (eb_I h s_m_all (2 : Int32).toNatClampNeg))) ≤ x7) → ((¬ (((x7 / 64) = x1) ∧ (((x7 &&& x2) = x2) ∧ ((x7 &&& 0) = 0))) → eb_Sn (d + 2) m_X11_chance h0 61 [(0, .ref s_MO), (1, .int x1), (2, .int x2), (3, .int x3), (4, .int x4), (5, .long (x5 + 0)), (7, .int (x7 + 1))] [] h Q) ∧ (((x7 / 64) = x1) ∧ (((x7 &&& x2) = x2) ∧ ((x7 &&& 0) = 0)) → (vp_in x7 1024) ∧ eb_Sn (d + 2) m_X11_chance h0 61 [(0, .ref s_MO), (1, .int x1), (2, .int x2), (3, .int x3), (4, .int x4), (5, .long (x5 + (eb_J h s_m_many x7.toNatClampNeg))), (7, .int (x7 + 1))] [] h Q))))) : eb_Sn (d + 2) m_X11_chance h0 61 [(0, .ref s_MO), (1, .int x1), (2, .int x2), (3, .int x3), (4, .int x4), (5, .long x5), (7, .int x7)] [] h Q := by
  refine eb_iload (pc := 61) (i := 7) rfl rfl ?_
  refine eb_aload_n (pc := 63) (n := 0) (i := 0) rfl rfl rfl ?_
  refine eb_ctV (pc := 64) (As := []) (rest := [.int x7]) rfl (by decide) rfl rfl (by decide) rfl (Nat.le_of_ble_eq_true rfl) ?_
  refine eb_bodyQ (by decide) ok_X11_stands (Nat.le_of_ble_eq_true rfl) ?_
  change eb_Sn _ m_X11_stands _ 0 [(0, .ref s_MO)] [] _ _
  refine eb_bipush (pc := 0) (n := 64) (v := 64) rfl rfl ?_
  refine eb_aload_n (pc := 2) (n := 0) (i := 0) rfl rfl rfl ?_
  refine eb_ctV (pc := 3) (As := []) (rest := [.int 64]) rfl (by decide) rfl rfl (by decide) rfl (Nat.le_of_ble_eq_true rfl) ?_
  refine eb_bodyQ (by decide) ok_X11_cells (Nat.le_of_ble_eq_true rfl) ?_
  change eb_Sn _ m_X11_cells _ 0 [(0, .ref s_MO)] [] _ _
  refine eb_aload_n (pc := 0) (n := 0) (i := 0) rfl rfl rfl ?_
  refine eb_getR (pc := 1) rfl rfl (by decide) (by decide) rfl (ko_s_MO_1 ko) ?_
  refine eb_iconst (pc := 4) (n := 1) (v := 1) rfl rfl ?_
  refine eb_iaload (pc := 5) rfl rfl (by decide) (by unfold vp_in; decide) ?_
  refine eb_aload_n (pc := 6) (n := 0) (i := 0) rfl rfl rfl ?_
  refine eb_getR (pc := 7) rfl rfl (by decide) (by decide) rfl (ko_s_MO_1 ko) ?_
  refine eb_iconst (pc := 10) (n := 2) (v := 2) rfl rfl ?_
  refine eb_iaload (pc := 11) rfl rfl (by decide) (by unfold vp_in; decide) ?_
  refine eb_imul (pc := 12) rfl ?_
  refine eb_ireturn (pc := 13) rfl rfl rfl ?_
  change eb_Sn _ _ _ 6 _ [.int ((eb_I h s_m_all (1 : Int32).toNatClampNeg) * (eb_I h s_m_all (2 : Int32).toNatClampNeg)), .int 64] _ _
  refine eb_imul (pc := 6) rfl ?_
  refine eb_ireturn (pc := 7) rfl rfl rfl ?_
  change eb_Sn _ _ _ 67 _ [.int ((64 : Int32) * ((eb_I h s_m_all (1 : Int32).toNatClampNeg) * (eb_I h s_m_all (2 : Int32).toNatClampNeg))), .int x7] _ _
  refine eb_icmp_ge (pc := 67) (tgt := 103) rfl (by decide) (fun c1 => ?_) (fun c1 => ?_)
  · replace w := w.1 c1
    refine eb_lload (pc := 103) (i := 5) rfl rfl ?_
    refine eb_iload_n (pc := 105) (n := 3) (i := 3) rfl rfl rfl ?_
    refine eb_ctS (pc := 106) (As := [.int x3]) (rest := [.long x5]) rfl (by decide) (by decide) rfl rfl (Nat.le_of_ble_eq_true rfl) ?_
    refine eb_bodyQ (by decide) ok_X11_wholeOf (Nat.le_of_ble_eq_true rfl) ?_
    change eb_Sn _ m_X11_wholeOf _ 0 [(0, .int x3)] [] _ _
    refine eb_iconst (pc := 0) (n := 1) (v := 1) rfl rfl ?_
    refine eb_iconst (pc := 1) (n := 2) (v := 2) rfl rfl ?_
    refine eb_iload_n (pc := 2) (n := 0) (i := 0) rfl rfl rfl ?_
    refine eb_imul (pc := 3) rfl ?_
    refine eb_ishl (pc := 4) rfl ?_
    refine eb_ireturn (pc := 5) rfl rfl rfl ?_
    change eb_Sn _ _ _ 109 _ [.int ((1 : Int32) <<< (((2 : Int32) * x3) &&& 31)), .long x5] _ _
    refine eb_iload (pc := 109) (i := 4) rfl rfl ?_
    refine eb_ctS (pc := 111) (As := [.long x5, .int ((1 : Int32) <<< (((2 : Int32) * x3) &&& 31)), .int x4]) (rest := []) rfl (by decide) (by decide) rfl rfl (Nat.le_of_ble_eq_true rfl) ?_
    refine eb_Ct.mono w ?_
    rintro r h2 ⟨y3, rfl, ko4, w⟩
    change eb_Sn _ _ _ 114 _ [.int y3] _ _
    exact eb_ireturn (pc := 114) rfl rfl rfl w
  · replace w := w.2 c1
    refine eb_lload (pc := 70) (i := 5) rfl rfl ?_
    refine eb_iload (pc := 72) (i := 7) rfl rfl ?_
    refine eb_iload_n (pc := 74) (n := 1) (i := 1) rfl rfl rfl ?_
    refine eb_iload_n (pc := 75) (n := 2) (i := 2) rfl rfl rfl ?_
    refine eb_iconst (pc := 76) (n := 0) (v := 0) rfl rfl ?_
    refine eb_joinI (pc2 := 80) (ls2 := [(0, .ref s_MO), (1, .int x1), (2, .int x2), (3, .int x3), (4, .int x4), (5, .long x5), (7, .int x7)]) (st2 := [.long x5]) (v := eb_q (((x7 / 64) = x1) ∧ (((x7 &&& x2) = x2) ∧ ((x7 &&& 0) = 0)))) ?_ (fun jj10 => ?_)
    · refine eb_if_eq (pc := 80) (tgt := 93) rfl (by decide) (fun c8 => ?_) (fun c8 => ?_)
      · replace c8 := eb_q0.mp c8
        replace w := w.1 c8
        refine eb_lconst (pc := 93) (n := 0) (v := 0) rfl rfl ?_
        refine eb_ladd (pc := 94) rfl ?_
        refine eb_lstore (pc := 95) (i := 5) (ls2 := [(5, .long (x5 + 0)), (0, .ref s_MO), (1, .int x1), (2, .int x2), (3, .int x3), (4, .int x4), (7, .int x7)]) (Nat.le_of_ble_eq_true rfl) rfl rfl ?_
        refine eb_iinc (pc := 97) (i := 7) (n := 1) (v := x7 + 1) (ls2 := [(7, .int (x7 + 1)), (5, .long (x5 + 0)), (0, .ref s_MO), (1, .int x1), (2, .int x2), (3, .int x3), (4, .int x4)]) (Nat.le_of_ble_eq_true rfl) rfl rfl rfl rfl ?_
        refine eb_goto (pc := 100) (tgt := 61) rfl (by decide) ?_
        exact eb_pick [2, 3, 4, 5, 6, 1, 0] rfl w
      · replace c8 := eb_q1.mp c8
        replace w := w.2 c8
        refine eb_aload_n (pc := 83) (n := 0) (i := 0) rfl rfl rfl ?_
        refine eb_getR (pc := 84) rfl rfl (by decide) (by decide) rfl (ko_s_MO_24 ko) ?_
        refine eb_iload (pc := 87) (i := 7) rfl rfl ?_
        obtain ⟨c9, w⟩ := w
        refine eb_laload (pc := 89) rfl rfl c9 ?_
        refine eb_goto (pc := 90) (tgt := 94) rfl (by decide) ?_
        refine eb_ladd (pc := 94) rfl ?_
        refine eb_lstore (pc := 95) (i := 5) (ls2 := [(5, .long (x5 + (eb_J h s_m_many x7.toNatClampNeg))), (0, .ref s_MO), (1, .int x1), (2, .int x2), (3, .int x3), (4, .int x4), (7, .int x7)]) (Nat.le_of_ble_eq_true rfl) rfl rfl ?_
        refine eb_iinc (pc := 97) (i := 7) (n := 1) (v := x7 + 1) (ls2 := [(7, .int (x7 + 1)), (5, .long (x5 + (eb_J h s_m_many x7.toNatClampNeg))), (0, .ref s_MO), (1, .int x1), (2, .int x2), (3, .int x3), (4, .int x4)]) (Nat.le_of_ble_eq_true rfl) rfl rfl rfl rfl ?_
        refine eb_goto (pc := 100) (tgt := 61) rfl (by decide) ?_
        exact eb_pick [2, 3, 4, 5, 6, 1, 0] rfl w
    refine eb_ctS (pc := 77) (As := [.int x7, .int x1, .int x2, .int 0]) (rest := [.long x5]) rfl (by decide) (by decide) rfl rfl (Nat.le_of_ble_eq_true rfl) ?_
    refine eb_bodyQ (by decide) ok_X11_isGoal (Nat.le_of_ble_eq_true rfl) ?_
    change eb_Sn _ m_X11_isGoal _ 0 [(0, .int x7), (1, .int x1), (2, .int x2), (3, .int 0)] [] _ _
    refine eb_iload_n (pc := 0) (n := 0) (i := 0) rfl rfl rfl ?_
    refine eb_bipush (pc := 1) (n := 64) (v := 64) rfl rfl ?_
    refine eb_idiv (pc := 3) (by decide) rfl ?_
    refine eb_iload_n (pc := 4) (n := 1) (i := 1) rfl rfl rfl ?_
    refine eb_icmp_ne (pc := 5) (tgt := 25) rfl (by decide) (fun c5 => ?_) (fun c5 => ?_)
    · refine eb_iconst (pc := 25) (n := 0) (v := 0) rfl rfl ?_
      refine eb_ireturn (pc := 26) rfl rfl (by decide) ?_
      change eb_Sn _ _ _ 80 _ _ _ _
      exact jj10 0 (eb_qf (fun z => c5 z.1)).symm
    · refine eb_iload_n (pc := 8) (n := 0) (i := 0) rfl rfl rfl ?_
      refine eb_iload_n (pc := 9) (n := 2) (i := 2) rfl rfl rfl ?_
      refine eb_iand (pc := 10) rfl ?_
      refine eb_iload_n (pc := 11) (n := 2) (i := 2) rfl rfl rfl ?_
      refine eb_icmp_ne (pc := 12) (tgt := 25) rfl (by decide) (fun c6 => ?_) (fun c6 => ?_)
      · refine eb_iconst (pc := 25) (n := 0) (v := 0) rfl rfl ?_
        refine eb_ireturn (pc := 26) rfl rfl (by decide) ?_
        change eb_Sn _ _ _ 80 _ _ _ _
        exact jj10 0 (eb_qf (fun z => (fun z => c6 z.1) z.2)).symm
      · refine eb_iload_n (pc := 15) (n := 0) (i := 0) rfl rfl rfl ?_
        refine eb_iload_n (pc := 16) (n := 3) (i := 3) rfl rfl rfl ?_
        refine eb_iand (pc := 17) rfl ?_
        refine eb_if_ne (pc := 18) (tgt := 25) rfl (by decide) (fun c7 => ?_) (fun c7 => ?_)
        · refine eb_iconst (pc := 25) (n := 0) (v := 0) rfl rfl ?_
          refine eb_ireturn (pc := 26) rfl rfl (by decide) ?_
          change eb_Sn _ _ _ 80 _ _ _ _
          exact jj10 0 (eb_qf (fun z => (fun z => c7 z.2) z.2)).symm
        · refine eb_iconst (pc := 21) (n := 1) (v := 1) rfl rfl ?_
          refine eb_goto (pc := 22) (tgt := 26) rfl (by decide) ?_
          refine eb_ireturn (pc := 26) rfl rfl (by decide) ?_
          change eb_Sn _ _ _ 80 _ _ _ _
          exact jj10 1 (eb_qt (⟨c5, ⟨c6, c7⟩⟩)).symm
theorem T_X11_chance {d : Nat} {h : eb_H} {Q : Option Value → eb_H → Prop} (x1 : Int32) (x2 : Int32) (x3 : Int32) (x4 : Int32)  (ko : eb_KO h) (w : ((¬ ((¬ (x1.toInt64 < 0)) ∧ (¬ (((((eb_I (eb_sI h s_MO 0 0) s_m_all (1 : Int32).toNatClampNeg) * (eb_I (eb_sI h s_MO 0 0) s_m_all (2 : Int32).toNatClampNeg)) - 1).toInt64) < x1.toInt64))) → Q (some (.int (-2))) (eb_sI h s_MO 0 0)) ∧ ((¬ (x1.toInt64 < 0)) ∧ (¬ (((((eb_I (eb_sI h s_MO 0 0) s_m_all (1 : Int32).toNatClampNeg) * (eb_I (eb_sI h s_MO 0 0) s_m_all (2 : Int32).toNatClampNeg)) - 1).toInt64) < x1.toInt64)) → (((¬ (x4.toInt64 < 0)) ∧ (¬ (1 < x4.toInt64)) → ((¬ ((¬ (x2.toInt64 < 0)) ∧ (¬ (63 < x2.toInt64))) → Q (some (.int (-3))) (eb_sI h s_MO 0 0)) ∧ ((¬ (x2.toInt64 < 0)) ∧ (¬ (63 < x2.toInt64)) → (((¬ (x3.toInt64 < 0)) ∧ (¬ (8 < x3.toInt64)) → eb_Ct (d + 1) 270 [.ref s_MO, .int x3] (eb_sI h s_MO 0 0) (fun r h13 => r = none ∧ eb_KO h13 ∧ eb_Sn (d + 2) m_X11_chance h 61 [(0, .ref s_MO), (1, .int x1), (2, .int x2), (3, .int x3), (4, .int x4), (5, .long 0), (7, .int 0)] [] h13 Q)) ∧ (¬ ((¬ (x3.toInt64 < 0)) ∧ (¬ (8 < x3.toInt64))) → Q (some (.int (-3))) (eb_sI h s_MO 0 0)))))) ∧ (¬ ((¬ (x4.toInt64 < 0)) ∧ (¬ (1 < x4.toInt64))) → Q (some (.int (-2))) (eb_sI h s_MO 0 0)))))) : eb_Ct (d + 2) 273 [.ref s_MO, .int x1, .int x2, .int x3, .int x4] h Q :=
  eb_bodyQ (by decide) ok_X11_chance (Nat.le_of_ble_eq_true rfl) (b_X11_chance_0 (h0 := h) x1 x2 x3 x4  ko w)
theorem b_X11_mean_0 {d : Nat} {h0 h : eb_H} {Q : Option Value → eb_H → Prop} (x1 : Int32) (x2 : Int32)  (ko : eb_KO h) (w : (((¬ (x2.toInt64 < 0)) ∧ (¬ (1 < x2.toInt64)) → (((¬ (x1.toInt64 < 0)) ∧ (¬ (8 < x1.toInt64)) → eb_Ct (d + 1) 270 [.ref s_MO, .int x1] (eb_sI h s_MO 0 0) (fun r h7 => r = none ∧ eb_KO h7 ∧ eb_Sn (d + 2) m_X11_mean h0 43 [(0, .ref s_MO), (1, .int x1), (2, .int x2), (3, .long 0), (5, .int 0)] [] h7 Q)) ∧ (¬ ((¬ (x1.toInt64 < 0)) ∧ (¬ (8 < x1.toInt64))) → Q (some (.int (-3))) (eb_sI h s_MO 0 0)))) ∧ (¬ ((¬ (x2.toInt64 < 0)) ∧ (¬ (1 < x2.toInt64))) → Q (some (.int (-2))) (eb_sI h s_MO 0 0)))) : eb_Sn (d + 2) m_X11_mean h0 0 [(0, .ref s_MO), (1, .int x1), (2, .int x2)] [] h Q := by
  refine eb_aload_n (pc := 0) (n := 0) (i := 0) rfl rfl rfl ?_
  refine eb_iconst (pc := 1) (n := 0) (v := 0) rfl rfl ?_
  refine eb_putI (pc := 2) rfl rfl (by decide) (by decide) rfl rfl ⟨rfl, rfl⟩ ?_
  refine eb_iload_n (pc := 5) (n := 2) (i := 2) rfl rfl rfl ?_
  refine eb_i2l (pc := 6) rfl ?_
  refine eb_lconst (pc := 7) (n := 0) (v := 0) rfl rfl ?_
  refine eb_lconst (pc := 8) (n := 1) (v := 1) rfl rfl ?_
  refine eb_joinI (pc2 := 12) (ls2 := [(0, .ref s_MO), (1, .int x1), (2, .int x2)]) (st2 := []) (v := eb_q ((¬ (x2.toInt64 < 0)) ∧ (¬ (1 < x2.toInt64)))) ?_ (fun jj12 => ?_)
  · refine eb_if_ne (pc := 12) (tgt := 18) rfl (by decide) (fun c3 => ?_) (fun c3 => ?_)
    · replace c3 := eb_q1.mp c3
      replace w := w.1 c3
      refine eb_iload_n (pc := 18) (n := 1) (i := 1) rfl rfl rfl ?_
      refine eb_i2l (pc := 19) rfl ?_
      refine eb_lconst (pc := 20) (n := 0) (v := 0) rfl rfl ?_
      refine eb_ldc2 (pc := 21) (a := 8) (v := 8) rfl (by decide) ?_
      refine eb_joinI (pc2 := 27) (ls2 := [(0, .ref s_MO), (1, .int x1), (2, .int x2)]) (st2 := []) (v := eb_q ((¬ (x1.toInt64 < 0)) ∧ (¬ (8 < x1.toInt64)))) ?_ (fun jj10 => ?_)
      · refine eb_if_ne (pc := 27) (tgt := 33) rfl (by decide) (fun c6 => ?_) (fun c6 => ?_)
        · replace c6 := eb_q1.mp c6
          replace w := w.1 c6
          refine eb_aload_n (pc := 33) (n := 0) (i := 0) rfl rfl rfl ?_
          refine eb_iload_n (pc := 34) (n := 1) (i := 1) rfl rfl rfl ?_
          refine eb_ctV (pc := 35) (As := [.int x1]) (rest := []) rfl (by decide) rfl rfl (by decide) rfl (Nat.le_of_ble_eq_true rfl) ?_
          refine eb_Ct.mono w ?_
          rintro r h7 ⟨rfl, ko9, w⟩
          change eb_Sn _ _ _ 38 _ [] _ _
          refine eb_lconst (pc := 38) (n := 0) (v := 0) rfl rfl ?_
          refine eb_lstore_n (pc := 39) (n := 3) (i := 3) (ls2 := [(3, .long 0), (0, .ref s_MO), (1, .int x1), (2, .int x2)]) rfl (Nat.le_of_ble_eq_true rfl) rfl rfl ?_
          refine eb_iconst (pc := 40) (n := 0) (v := 0) rfl rfl ?_
          refine eb_istore (pc := 41) (i := 5) (ls2 := [(5, .int 0), (3, .long 0), (0, .ref s_MO), (1, .int x1), (2, .int x2)]) (Nat.le_of_ble_eq_true rfl) rfl rfl ?_
          exact eb_pick [2, 3, 4, 1, 0] rfl w
        · replace c6 := eb_q0.mp c6
          replace w := w.2 c6
          refine eb_bipush (pc := 30) (n := -3) (v := (-3)) rfl rfl ?_
          exact eb_ireturn (pc := 32) rfl rfl rfl w
      refine eb_ctS (pc := 24) (As := [.long x1.toInt64, .long 0, .long 8]) (rest := []) rfl (by decide) (by decide) rfl rfl (Nat.le_of_ble_eq_true rfl) ?_
      refine eb_bodyQ (by decide) ok_X11_within (Nat.le_of_ble_eq_true rfl) ?_
      change eb_Sn _ m_X11_within _ 0 [(0, .long x1.toInt64), (2, .long 0), (4, .long 8)] [] _ _
      refine eb_lload_n (pc := 0) (n := 0) (i := 0) rfl rfl rfl ?_
      refine eb_lload_n (pc := 1) (n := 2) (i := 2) rfl rfl rfl ?_
      refine eb_lcmp (pc := 2) rfl ?_
      refine eb_if_lt (pc := 3) (tgt := 17) rfl (by decide) (fun c4 => ?_) (fun c4 => ?_)
      · replace c4 := eb_lc_lt.mp c4
        refine eb_iconst (pc := 17) (n := 0) (v := 0) rfl rfl ?_
        refine eb_ireturn (pc := 18) rfl rfl (by decide) ?_
        change eb_Sn _ _ _ 27 _ _ _ _
        exact jj10 0 (eb_qf (fun z => z.1 c4)).symm
      · replace c4 := (fun hh => mt eb_lc_lt.mpr hh) c4
        refine eb_lload_n (pc := 6) (n := 0) (i := 0) rfl rfl rfl ?_
        refine eb_lload (pc := 7) (i := 4) rfl rfl ?_
        refine eb_lcmp (pc := 9) rfl ?_
        refine eb_if_gt (pc := 10) (tgt := 17) rfl (by decide) (fun c5 => ?_) (fun c5 => ?_)
        · replace c5 := eb_lc_gt.mp c5
          refine eb_iconst (pc := 17) (n := 0) (v := 0) rfl rfl ?_
          refine eb_ireturn (pc := 18) rfl rfl (by decide) ?_
          change eb_Sn _ _ _ 27 _ _ _ _
          exact jj10 0 (eb_qf (fun z => (fun z => z c5) z.2)).symm
        · replace c5 := (fun hh => mt eb_lc_gt.mpr hh) c5
          refine eb_iconst (pc := 13) (n := 1) (v := 1) rfl rfl ?_
          refine eb_goto (pc := 14) (tgt := 18) rfl (by decide) ?_
          refine eb_ireturn (pc := 18) rfl rfl (by decide) ?_
          change eb_Sn _ _ _ 27 _ _ _ _
          exact jj10 1 (eb_qt (⟨c4, c5⟩)).symm
    · replace c3 := eb_q0.mp c3
      replace w := w.2 c3
      refine eb_bipush (pc := 15) (n := -2) (v := (-2)) rfl rfl ?_
      exact eb_ireturn (pc := 17) rfl rfl rfl w
  refine eb_ctS (pc := 9) (As := [.long x2.toInt64, .long 0, .long 1]) (rest := []) rfl (by decide) (by decide) rfl rfl (Nat.le_of_ble_eq_true rfl) ?_
  refine eb_bodyQ (by decide) ok_X11_within (Nat.le_of_ble_eq_true rfl) ?_
  change eb_Sn _ m_X11_within _ 0 [(0, .long x2.toInt64), (2, .long 0), (4, .long 1)] [] _ _
  refine eb_lload_n (pc := 0) (n := 0) (i := 0) rfl rfl rfl ?_
  refine eb_lload_n (pc := 1) (n := 2) (i := 2) rfl rfl rfl ?_
  refine eb_lcmp (pc := 2) rfl ?_
  refine eb_if_lt (pc := 3) (tgt := 17) rfl (by decide) (fun c1 => ?_) (fun c1 => ?_)
  · replace c1 := eb_lc_lt.mp c1
    refine eb_iconst (pc := 17) (n := 0) (v := 0) rfl rfl ?_
    refine eb_ireturn (pc := 18) rfl rfl (by decide) ?_
    change eb_Sn _ _ _ 12 _ _ _ _
    exact jj12 0 (eb_qf (fun z => z.1 c1)).symm
  · replace c1 := (fun hh => mt eb_lc_lt.mpr hh) c1
    refine eb_lload_n (pc := 6) (n := 0) (i := 0) rfl rfl rfl ?_
    refine eb_lload (pc := 7) (i := 4) rfl rfl ?_
    refine eb_lcmp (pc := 9) rfl ?_
    refine eb_if_gt (pc := 10) (tgt := 17) rfl (by decide) (fun c2 => ?_) (fun c2 => ?_)
    · replace c2 := eb_lc_gt.mp c2
      refine eb_iconst (pc := 17) (n := 0) (v := 0) rfl rfl ?_
      refine eb_ireturn (pc := 18) rfl rfl (by decide) ?_
      change eb_Sn _ _ _ 12 _ _ _ _
      exact jj12 0 (eb_qf (fun z => (fun z => z c2) z.2)).symm
    · replace c2 := (fun hh => mt eb_lc_gt.mpr hh) c2
      refine eb_iconst (pc := 13) (n := 1) (v := 1) rfl rfl ?_
      refine eb_goto (pc := 14) (tgt := 18) rfl (by decide) ?_
      refine eb_ireturn (pc := 18) rfl rfl (by decide) ?_
      change eb_Sn _ _ _ 12 _ _ _ _
      exact jj12 1 (eb_qt (⟨c1, c2⟩)).symm
theorem b_X11_mean_43 {d : Nat} {h0 h : eb_H} {Q : Option Value → eb_H → Prop} (x1 : Int32) (x2 : Int32) (x3 : Int64) (x5 : Int32)  (ko : eb_KO h) (w : ((((64 : Int32) * ((eb_I h s_m_all (1 : Int32).toNatClampNeg) * (eb_I h s_m_all (2 : Int32).toNatClampNeg))) ≤ x5 → eb_Ct (d + 1) 272 [.long x3, .int ((1 : Int32) <<< (((2 : Int32) * x1) &&& 31)), .int x2] h (fun r h2 => ∃ y3, r = some (.int y3) ∧ eb_KO h2 ∧ Q (some (.int y3)) h2)) ∧ (¬ (((64 : Int32) * ((eb_I h s_m_all (1 : Int32).toNatClampNeg) * (eb_I h s_m_all (2 : Int32).toNatClampNeg))) ≤ x5) → (vp_in x5 1024) ∧ eb_Ct (d + 1) 194 [.int (x5 - x5 / 64 * 64)] h (fun r h6 => ∃ y7, r = some (.int y7) ∧ eb_KO h6 ∧ eb_Sn (d + 2) m_X11_mean h0 43 [(0, .ref s_MO), (1, .int x1), (2, .int x2), (3, .long (x3 + ((eb_J h s_m_many x5.toNatClampNeg) * y7.toInt64))), (5, .int (x5 + 1))] [] h6 Q)))) : eb_Sn (d + 2) m_X11_mean h0 43 [(0, .ref s_MO), (1, .int x1), (2, .int x2), (3, .long x3), (5, .int x5)] [] h Q := by
  refine eb_iload (pc := 43) (i := 5) rfl rfl ?_
  refine eb_aload_n (pc := 45) (n := 0) (i := 0) rfl rfl rfl ?_
  refine eb_ctV (pc := 46) (As := []) (rest := [.int x5]) rfl (by decide) rfl rfl (by decide) rfl (Nat.le_of_ble_eq_true rfl) ?_
  refine eb_bodyQ (by decide) ok_X11_stands (Nat.le_of_ble_eq_true rfl) ?_
  change eb_Sn _ m_X11_stands _ 0 [(0, .ref s_MO)] [] _ _
  refine eb_bipush (pc := 0) (n := 64) (v := 64) rfl rfl ?_
  refine eb_aload_n (pc := 2) (n := 0) (i := 0) rfl rfl rfl ?_
  refine eb_ctV (pc := 3) (As := []) (rest := [.int 64]) rfl (by decide) rfl rfl (by decide) rfl (Nat.le_of_ble_eq_true rfl) ?_
  refine eb_bodyQ (by decide) ok_X11_cells (Nat.le_of_ble_eq_true rfl) ?_
  change eb_Sn _ m_X11_cells _ 0 [(0, .ref s_MO)] [] _ _
  refine eb_aload_n (pc := 0) (n := 0) (i := 0) rfl rfl rfl ?_
  refine eb_getR (pc := 1) rfl rfl (by decide) (by decide) rfl (ko_s_MO_1 ko) ?_
  refine eb_iconst (pc := 4) (n := 1) (v := 1) rfl rfl ?_
  refine eb_iaload (pc := 5) rfl rfl (by decide) (by unfold vp_in; decide) ?_
  refine eb_aload_n (pc := 6) (n := 0) (i := 0) rfl rfl rfl ?_
  refine eb_getR (pc := 7) rfl rfl (by decide) (by decide) rfl (ko_s_MO_1 ko) ?_
  refine eb_iconst (pc := 10) (n := 2) (v := 2) rfl rfl ?_
  refine eb_iaload (pc := 11) rfl rfl (by decide) (by unfold vp_in; decide) ?_
  refine eb_imul (pc := 12) rfl ?_
  refine eb_ireturn (pc := 13) rfl rfl rfl ?_
  change eb_Sn _ _ _ 6 _ [.int ((eb_I h s_m_all (1 : Int32).toNatClampNeg) * (eb_I h s_m_all (2 : Int32).toNatClampNeg)), .int 64] _ _
  refine eb_imul (pc := 6) rfl ?_
  refine eb_ireturn (pc := 7) rfl rfl rfl ?_
  change eb_Sn _ _ _ 49 _ [.int ((64 : Int32) * ((eb_I h s_m_all (1 : Int32).toNatClampNeg) * (eb_I h s_m_all (2 : Int32).toNatClampNeg))), .int x5] _ _
  refine eb_icmp_ge (pc := 49) (tgt := 78) rfl (by decide) (fun c1 => ?_) (fun c1 => ?_)
  · replace w := w.1 c1
    refine eb_lload_n (pc := 78) (n := 3) (i := 3) rfl rfl rfl ?_
    refine eb_iload_n (pc := 79) (n := 1) (i := 1) rfl rfl rfl ?_
    refine eb_ctS (pc := 80) (As := [.int x1]) (rest := [.long x3]) rfl (by decide) (by decide) rfl rfl (Nat.le_of_ble_eq_true rfl) ?_
    refine eb_bodyQ (by decide) ok_X11_wholeOf (Nat.le_of_ble_eq_true rfl) ?_
    change eb_Sn _ m_X11_wholeOf _ 0 [(0, .int x1)] [] _ _
    refine eb_iconst (pc := 0) (n := 1) (v := 1) rfl rfl ?_
    refine eb_iconst (pc := 1) (n := 2) (v := 2) rfl rfl ?_
    refine eb_iload_n (pc := 2) (n := 0) (i := 0) rfl rfl rfl ?_
    refine eb_imul (pc := 3) rfl ?_
    refine eb_ishl (pc := 4) rfl ?_
    refine eb_ireturn (pc := 5) rfl rfl rfl ?_
    change eb_Sn _ _ _ 83 _ [.int ((1 : Int32) <<< (((2 : Int32) * x1) &&& 31)), .long x3] _ _
    refine eb_iload_n (pc := 83) (n := 2) (i := 2) rfl rfl rfl ?_
    refine eb_ctS (pc := 84) (As := [.long x3, .int ((1 : Int32) <<< (((2 : Int32) * x1) &&& 31)), .int x2]) (rest := []) rfl (by decide) (by decide) rfl rfl (Nat.le_of_ble_eq_true rfl) ?_
    refine eb_Ct.mono w ?_
    rintro r h2 ⟨y3, rfl, ko4, w⟩
    change eb_Sn _ _ _ 87 _ [.int y3] _ _
    exact eb_ireturn (pc := 87) rfl rfl rfl w
  · replace w := w.2 c1
    refine eb_lload_n (pc := 52) (n := 3) (i := 3) rfl rfl rfl ?_
    refine eb_aload_n (pc := 53) (n := 0) (i := 0) rfl rfl rfl ?_
    refine eb_getR (pc := 54) rfl rfl (by decide) (by decide) rfl (ko_s_MO_24 ko) ?_
    refine eb_iload (pc := 57) (i := 5) rfl rfl ?_
    obtain ⟨c5, w⟩ := w
    refine eb_laload (pc := 59) rfl rfl c5 ?_
    refine eb_iload (pc := 60) (i := 5) rfl rfl ?_
    refine eb_bipush (pc := 62) (n := 64) (v := 64) rfl rfl ?_
    refine eb_irem (pc := 64) (by decide) rfl ?_
    refine eb_ctS (pc := 65) (As := [.int (x5 - x5 / 64 * 64)]) (rest := [.long (eb_J h s_m_many x5.toNatClampNeg), .long x3]) rfl (by decide) (by decide) rfl rfl (Nat.le_of_ble_eq_true rfl) ?_
    refine eb_Ct.mono w ?_
    rintro r h6 ⟨y7, rfl, ko8, w⟩
    change eb_Sn _ _ _ 68 _ [.int y7, .long (eb_J h s_m_many x5.toNatClampNeg), .long x3] _ _
    refine eb_i2l (pc := 68) rfl ?_
    refine eb_lmul (pc := 69) rfl ?_
    refine eb_ladd (pc := 70) rfl ?_
    refine eb_lstore_n (pc := 71) (n := 3) (i := 3) (ls2 := [(3, .long (x3 + ((eb_J h s_m_many x5.toNatClampNeg) * y7.toInt64))), (0, .ref s_MO), (1, .int x1), (2, .int x2), (5, .int x5)]) rfl (Nat.le_of_ble_eq_true rfl) rfl rfl ?_
    refine eb_iinc (pc := 72) (i := 5) (n := 1) (v := x5 + 1) (ls2 := [(5, .int (x5 + 1)), (3, .long (x3 + ((eb_J h s_m_many x5.toNatClampNeg) * y7.toInt64))), (0, .ref s_MO), (1, .int x1), (2, .int x2)]) (Nat.le_of_ble_eq_true rfl) rfl rfl rfl rfl ?_
    refine eb_goto (pc := 75) (tgt := 43) rfl (by decide) ?_
    exact eb_pick [2, 3, 4, 1, 0] rfl w
theorem T_X11_mean {d : Nat} {h : eb_H} {Q : Option Value → eb_H → Prop} (x1 : Int32) (x2 : Int32)  (ko : eb_KO h) (w : (((¬ (x2.toInt64 < 0)) ∧ (¬ (1 < x2.toInt64)) → (((¬ (x1.toInt64 < 0)) ∧ (¬ (8 < x1.toInt64)) → eb_Ct (d + 1) 270 [.ref s_MO, .int x1] (eb_sI h s_MO 0 0) (fun r h7 => r = none ∧ eb_KO h7 ∧ eb_Sn (d + 2) m_X11_mean h 43 [(0, .ref s_MO), (1, .int x1), (2, .int x2), (3, .long 0), (5, .int 0)] [] h7 Q)) ∧ (¬ ((¬ (x1.toInt64 < 0)) ∧ (¬ (8 < x1.toInt64))) → Q (some (.int (-3))) (eb_sI h s_MO 0 0)))) ∧ (¬ ((¬ (x2.toInt64 < 0)) ∧ (¬ (1 < x2.toInt64))) → Q (some (.int (-2))) (eb_sI h s_MO 0 0)))) : eb_Ct (d + 2) 274 [.ref s_MO, .int x1, .int x2] h Q :=
  eb_bodyQ (by decide) ok_X11_mean (Nat.le_of_ble_eq_true rfl) (b_X11_mean_0 (h0 := h) x1 x2  ko w)
theorem b_X11_likeliest_0 {d : Nat} {h0 h : eb_H} {Q : Option Value → eb_H → Prop} (x1 : Int32)  (ko : eb_KO h) (w : (((¬ (x1.toInt64 < 0)) ∧ (¬ (8 < x1.toInt64)) → eb_Ct d 270 [.ref s_MO, .int x1] (eb_sI h s_MO 0 0) (fun r h4 => r = none ∧ eb_KO h4 ∧ eb_Sn (d + 1) m_X11_likeliest h0 34 [(0, .ref s_MO), (2, .int (-1)), (3, .long (-1)), (5, .int 0)] [] h4 Q)) ∧ (¬ ((¬ (x1.toInt64 < 0)) ∧ (¬ (8 < x1.toInt64))) → Q (some (.int (-3))) (eb_sI h s_MO 0 0)))) : eb_Sn (d + 1) m_X11_likeliest h0 0 [(0, .ref s_MO), (1, .int x1)] [] h Q := by
  refine eb_aload_n (pc := 0) (n := 0) (i := 0) rfl rfl rfl ?_
  refine eb_iconst (pc := 1) (n := 0) (v := 0) rfl rfl ?_
  refine eb_putI (pc := 2) rfl rfl (by decide) (by decide) rfl rfl ⟨rfl, rfl⟩ ?_
  refine eb_iload_n (pc := 5) (n := 1) (i := 1) rfl rfl rfl ?_
  refine eb_i2l (pc := 6) rfl ?_
  refine eb_lconst (pc := 7) (n := 0) (v := 0) rfl rfl ?_
  refine eb_ldc2 (pc := 8) (a := 8) (v := 8) rfl (by decide) ?_
  refine eb_joinI (pc2 := 14) (ls2 := [(0, .ref s_MO), (1, .int x1)]) (st2 := []) (v := eb_q ((¬ (x1.toInt64 < 0)) ∧ (¬ (8 < x1.toInt64)))) ?_ (fun jj7 => ?_)
  · refine eb_if_ne (pc := 14) (tgt := 20) rfl (by decide) (fun c3 => ?_) (fun c3 => ?_)
    · replace c3 := eb_q1.mp c3
      replace w := w.1 c3
      refine eb_aload_n (pc := 20) (n := 0) (i := 0) rfl rfl rfl ?_
      refine eb_iload_n (pc := 21) (n := 1) (i := 1) rfl rfl rfl ?_
      refine eb_ctV (pc := 22) (As := [.int x1]) (rest := []) rfl (by decide) rfl rfl (by decide) rfl (Nat.le_of_ble_eq_true rfl) ?_
      refine eb_Ct.mono w ?_
      rintro r h4 ⟨rfl, ko6, w⟩
      change eb_Sn _ _ _ 25 _ [] _ _
      refine eb_iconst (pc := 25) (n := -1) (v := (-1)) rfl rfl ?_
      refine eb_istore_n (pc := 26) (n := 2) (i := 2) (ls2 := [(2, .int (-1)), (0, .ref s_MO), (1, .int x1)]) rfl (Nat.le_of_ble_eq_true rfl) rfl rfl ?_
      refine eb_ldc2 (pc := 27) (a := 18446744073709551615) (v := (-1)) rfl (by decide) ?_
      refine eb_lstore_n (pc := 30) (n := 3) (i := 3) (ls2 := [(3, .long (-1)), (2, .int (-1)), (0, .ref s_MO), (1, .int x1)]) rfl (Nat.le_of_ble_eq_true rfl) rfl rfl ?_
      refine eb_iconst (pc := 31) (n := 0) (v := 0) rfl rfl ?_
      refine eb_istore (pc := 32) (i := 5) (ls2 := [(5, .int 0), (3, .long (-1)), (2, .int (-1)), (0, .ref s_MO), (1, .int x1)]) (Nat.le_of_ble_eq_true rfl) rfl rfl ?_
      exact eb_pick [3, 2, 1, 0] rfl w
    · replace c3 := eb_q0.mp c3
      replace w := w.2 c3
      refine eb_bipush (pc := 17) (n := -3) (v := (-3)) rfl rfl ?_
      exact eb_ireturn (pc := 19) rfl rfl rfl w
  refine eb_ctS (pc := 11) (As := [.long x1.toInt64, .long 0, .long 8]) (rest := []) rfl (by decide) (by decide) rfl rfl (Nat.le_of_ble_eq_true rfl) ?_
  refine eb_bodyQ (by decide) ok_X11_within (Nat.le_of_ble_eq_true rfl) ?_
  change eb_Sn _ m_X11_within _ 0 [(0, .long x1.toInt64), (2, .long 0), (4, .long 8)] [] _ _
  refine eb_lload_n (pc := 0) (n := 0) (i := 0) rfl rfl rfl ?_
  refine eb_lload_n (pc := 1) (n := 2) (i := 2) rfl rfl rfl ?_
  refine eb_lcmp (pc := 2) rfl ?_
  refine eb_if_lt (pc := 3) (tgt := 17) rfl (by decide) (fun c1 => ?_) (fun c1 => ?_)
  · replace c1 := eb_lc_lt.mp c1
    refine eb_iconst (pc := 17) (n := 0) (v := 0) rfl rfl ?_
    refine eb_ireturn (pc := 18) rfl rfl (by decide) ?_
    change eb_Sn _ _ _ 14 _ _ _ _
    exact jj7 0 (eb_qf (fun z => z.1 c1)).symm
  · replace c1 := (fun hh => mt eb_lc_lt.mpr hh) c1
    refine eb_lload_n (pc := 6) (n := 0) (i := 0) rfl rfl rfl ?_
    refine eb_lload (pc := 7) (i := 4) rfl rfl ?_
    refine eb_lcmp (pc := 9) rfl ?_
    refine eb_if_gt (pc := 10) (tgt := 17) rfl (by decide) (fun c2 => ?_) (fun c2 => ?_)
    · replace c2 := eb_lc_gt.mp c2
      refine eb_iconst (pc := 17) (n := 0) (v := 0) rfl rfl ?_
      refine eb_ireturn (pc := 18) rfl rfl (by decide) ?_
      change eb_Sn _ _ _ 14 _ _ _ _
      exact jj7 0 (eb_qf (fun z => (fun z => z c2) z.2)).symm
    · replace c2 := (fun hh => mt eb_lc_gt.mpr hh) c2
      refine eb_iconst (pc := 13) (n := 1) (v := 1) rfl rfl ?_
      refine eb_goto (pc := 14) (tgt := 18) rfl (by decide) ?_
      refine eb_ireturn (pc := 18) rfl rfl (by decide) ?_
      change eb_Sn _ _ _ 14 _ _ _ _
      exact jj7 1 (eb_qt (⟨c1, c2⟩)).symm
theorem b_X11_likeliest_34 {d : Nat} {h0 h : eb_H} {Q : Option Value → eb_H → Prop} (x2 : Int32) (x3 : Int64) (x5 : Int32)  (ko : eb_KO h) (w : ((((eb_I h s_m_all (1 : Int32).toNatClampNeg) * (eb_I h s_m_all (2 : Int32).toNatClampNeg)) ≤ x5 → Q (some (.int x2)) h) ∧ (¬ (((eb_I h s_m_all (1 : Int32).toNatClampNeg) * (eb_I h s_m_all (2 : Int32).toNatClampNeg)) ≤ x5) → eb_Sn (d + 1) m_X11_likeliest h0 49 [(0, .ref s_MO), (2, .int x2), (3, .long x3), (5, .int x5), (6, .long 0), (8, .int 0)] [] h Q))) : eb_Sn (d + 1) m_X11_likeliest h0 34 [(0, .ref s_MO), (2, .int x2), (3, .long x3), (5, .int x5)] [] h Q := by
  refine eb_iload (pc := 34) (i := 5) rfl rfl ?_
  refine eb_aload_n (pc := 36) (n := 0) (i := 0) rfl rfl rfl ?_
  refine eb_ctV (pc := 37) (As := []) (rest := [.int x5]) rfl (by decide) rfl rfl (by decide) rfl (Nat.le_of_ble_eq_true rfl) ?_
  refine eb_bodyQ (by decide) ok_X11_cells (Nat.le_of_ble_eq_true rfl) ?_
  change eb_Sn _ m_X11_cells _ 0 [(0, .ref s_MO)] [] _ _
  refine eb_aload_n (pc := 0) (n := 0) (i := 0) rfl rfl rfl ?_
  refine eb_getR (pc := 1) rfl rfl (by decide) (by decide) rfl (ko_s_MO_1 ko) ?_
  refine eb_iconst (pc := 4) (n := 1) (v := 1) rfl rfl ?_
  refine eb_iaload (pc := 5) rfl rfl (by decide) (by unfold vp_in; decide) ?_
  refine eb_aload_n (pc := 6) (n := 0) (i := 0) rfl rfl rfl ?_
  refine eb_getR (pc := 7) rfl rfl (by decide) (by decide) rfl (ko_s_MO_1 ko) ?_
  refine eb_iconst (pc := 10) (n := 2) (v := 2) rfl rfl ?_
  refine eb_iaload (pc := 11) rfl rfl (by decide) (by unfold vp_in; decide) ?_
  refine eb_imul (pc := 12) rfl ?_
  refine eb_ireturn (pc := 13) rfl rfl rfl ?_
  change eb_Sn _ _ _ 40 _ [.int ((eb_I h s_m_all (1 : Int32).toNatClampNeg) * (eb_I h s_m_all (2 : Int32).toNatClampNeg)), .int x5] _ _
  refine eb_icmp_ge (pc := 40) (tgt := 102) rfl (by decide) (fun c1 => ?_) (fun c1 => ?_)
  · replace w := w.1 c1
    refine eb_iload_n (pc := 102) (n := 2) (i := 2) rfl rfl rfl ?_
    exact eb_ireturn (pc := 103) rfl rfl rfl w
  · replace w := w.2 c1
    refine eb_lconst (pc := 43) (n := 0) (v := 0) rfl rfl ?_
    refine eb_lstore (pc := 44) (i := 6) (ls2 := [(6, .long 0), (0, .ref s_MO), (2, .int x2), (3, .long x3), (5, .int x5)]) (Nat.le_of_ble_eq_true rfl) rfl rfl ?_
    refine eb_iconst (pc := 46) (n := 0) (v := 0) rfl rfl ?_
    refine eb_istore (pc := 47) (i := 8) (ls2 := [(8, .int 0), (6, .long 0), (0, .ref s_MO), (2, .int x2), (3, .long x3), (5, .int x5)]) (Nat.le_of_ble_eq_true rfl) rfl rfl ?_
    exact eb_pick [2, 3, 4, 5, 1, 0] rfl w
theorem b_X11_likeliest_49 {d : Nat} {h0 h : eb_H} {Q : Option Value → eb_H → Prop} (x2 : Int32) (x3 : Int64) (x5 : Int32) (x6 : Int64) (x8 : Int32)  (ko : eb_KO h) (w : (((64 : Int32) ≤ x8 → ((x3 < x6 → eb_Sn (d + 1) m_X11_likeliest h0 34 [(0, .ref s_MO), (2, .int x5), (3, .long x6), (5, .int (x5 + 1))] [] h Q) ∧ (¬ (x3 < x6) → eb_Sn (d + 1) m_X11_likeliest h0 34 [(0, .ref s_MO), (2, .int x2), (3, .long x3), (5, .int (x5 + 1))] [] h Q))) ∧ (¬ ((64 : Int32) ≤ x8) → (vp_in (((64 : Int32) * x5) + x8) 1024) ∧ eb_Sn (d + 1) m_X11_likeliest h0 49 [(0, .ref s_MO), (2, .int x2), (3, .long x3), (5, .int x5), (6, .long (x6 + (eb_J h s_m_many (((64 : Int32) * x5) + x8).toNatClampNeg))), (8, .int (x8 + 1))] [] h Q))) : eb_Sn (d + 1) m_X11_likeliest h0 49 [(0, .ref s_MO), (2, .int x2), (3, .long x3), (5, .int x5), (6, .long x6), (8, .int x8)] [] h Q := by
  refine eb_iload (pc := 49) (i := 8) rfl rfl ?_
  refine eb_bipush (pc := 51) (n := 64) (v := 64) rfl rfl ?_
  refine eb_icmp_ge (pc := 53) (tgt := 80) rfl (by decide) (fun c1 => ?_) (fun c1 => ?_)
  · replace w := w.1 c1
    refine eb_lload (pc := 80) (i := 6) rfl rfl ?_
    refine eb_lload_n (pc := 82) (n := 3) (i := 3) rfl rfl rfl ?_
    refine eb_lcmp (pc := 83) rfl ?_
    refine eb_if_gt (pc := 84) (tgt := 90) rfl (by decide) (fun c2 => ?_) (fun c2 => ?_)
    · replace c2 := eb_lc_gt.mp c2
      replace w := w.1 c2
      refine eb_iload (pc := 90) (i := 5) rfl rfl ?_
      refine eb_istore_n (pc := 92) (n := 2) (i := 2) (ls2 := [(2, .int x5), (0, .ref s_MO), (3, .long x3), (5, .int x5), (6, .long x6), (8, .int x8)]) rfl (Nat.le_of_ble_eq_true rfl) rfl rfl ?_
      refine eb_lload (pc := 93) (i := 6) rfl rfl ?_
      refine eb_lstore_n (pc := 95) (n := 3) (i := 3) (ls2 := [(3, .long x6), (2, .int x5), (0, .ref s_MO), (5, .int x5), (6, .long x6), (8, .int x8)]) rfl (Nat.le_of_ble_eq_true rfl) rfl rfl ?_
      refine eb_iinc (pc := 96) (i := 5) (n := 1) (v := x5 + 1) (ls2 := [(5, .int (x5 + 1)), (3, .long x6), (2, .int x5), (0, .ref s_MO), (6, .long x6), (8, .int x8)]) (Nat.le_of_ble_eq_true rfl) rfl rfl rfl rfl ?_
      refine eb_goto (pc := 99) (tgt := 34) rfl (by decide) ?_
      exact eb_pick [3, 2, 1, 0] rfl w
    · replace c2 := (fun hh => mt eb_lc_gt.mpr hh) c2
      replace w := w.2 c2
      refine eb_goto (pc := 87) (tgt := 96) rfl (by decide) ?_
      refine eb_iinc (pc := 96) (i := 5) (n := 1) (v := x5 + 1) (ls2 := [(5, .int (x5 + 1)), (0, .ref s_MO), (2, .int x2), (3, .long x3), (6, .long x6), (8, .int x8)]) (Nat.le_of_ble_eq_true rfl) rfl rfl rfl rfl ?_
      refine eb_goto (pc := 99) (tgt := 34) rfl (by decide) ?_
      exact eb_pick [1, 2, 3, 0] rfl w
  · replace w := w.2 c1
    refine eb_lload (pc := 56) (i := 6) rfl rfl ?_
    refine eb_aload_n (pc := 58) (n := 0) (i := 0) rfl rfl rfl ?_
    refine eb_getR (pc := 59) rfl rfl (by decide) (by decide) rfl (ko_s_MO_24 ko) ?_
    refine eb_bipush (pc := 62) (n := 64) (v := 64) rfl rfl ?_
    refine eb_iload (pc := 64) (i := 5) rfl rfl ?_
    refine eb_imul (pc := 66) rfl ?_
    refine eb_iload (pc := 67) (i := 8) rfl rfl ?_
    refine eb_iadd (pc := 69) rfl ?_
    obtain ⟨c3, w⟩ := w
    refine eb_laload (pc := 70) rfl rfl c3 ?_
    refine eb_ladd (pc := 71) rfl ?_
    refine eb_lstore (pc := 72) (i := 6) (ls2 := [(6, .long (x6 + (eb_J h s_m_many (((64 : Int32) * x5) + x8).toNatClampNeg))), (0, .ref s_MO), (2, .int x2), (3, .long x3), (5, .int x5), (8, .int x8)]) (Nat.le_of_ble_eq_true rfl) rfl rfl ?_
    refine eb_iinc (pc := 74) (i := 8) (n := 1) (v := x8 + 1) (ls2 := [(8, .int (x8 + 1)), (6, .long (x6 + (eb_J h s_m_many (((64 : Int32) * x5) + x8).toNatClampNeg))), (0, .ref s_MO), (2, .int x2), (3, .long x3), (5, .int x5)]) (Nat.le_of_ble_eq_true rfl) rfl rfl rfl rfl ?_
    refine eb_goto (pc := 77) (tgt := 49) rfl (by decide) ?_
    exact eb_pick [2, 3, 4, 5, 1, 0] rfl w
theorem T_X11_likeliest {d : Nat} {h : eb_H} {Q : Option Value → eb_H → Prop} (x1 : Int32)  (ko : eb_KO h) (w : (((¬ (x1.toInt64 < 0)) ∧ (¬ (8 < x1.toInt64)) → eb_Ct d 270 [.ref s_MO, .int x1] (eb_sI h s_MO 0 0) (fun r h4 => r = none ∧ eb_KO h4 ∧ eb_Sn (d + 1) m_X11_likeliest h 34 [(0, .ref s_MO), (2, .int (-1)), (3, .long (-1)), (5, .int 0)] [] h4 Q)) ∧ (¬ ((¬ (x1.toInt64 < 0)) ∧ (¬ (8 < x1.toInt64))) → Q (some (.int (-3))) (eb_sI h s_MO 0 0)))) : eb_Ct (d + 1) 275 [.ref s_MO, .int x1] h Q :=
  eb_bodyQ (by decide) ok_X11_likeliest (Nat.le_of_ble_eq_true rfl) (b_X11_likeliest_0 (h0 := h) x1  ko w)
theorem b_X11_cut_0 {d : Nat} {h0 h : eb_H} {Q : Option Value → eb_H → Prop} (x0 : Int64) (x2 : Int32)  (ko : eb_KO h) (w : Q (some (.long (if x2 = 0 then x0.toInt32.toInt8.toInt32.toInt64 else (if x2 = (1 : Int32) then x0.toInt32.toInt16.toInt32.toInt64 else (if x2 = (2 : Int32) then x0.toInt32.toInt64 else x0)) : Int64))) h) : eb_Sn d m_X11_cut h0 0 [(0, .long x0), (2, .int x2)] [] h Q := by
  refine eb_iload_n (pc := 0) (n := 2) (i := 2) rfl rfl rfl ?_
  refine eb_joinL (pc2 := 35) (ls2 := [(0, .long x0), (2, .int x2)]) (st2 := []) (v := (if x2 = 0 then x0.toInt32.toInt8.toInt32.toInt64 else (if x2 = (1 : Int32) then x0.toInt32.toInt16.toInt32.toInt64 else (if x2 = (2 : Int32) then x0.toInt32.toInt64 else x0)) : Int64)) ?_ (fun jj4 => ?_)
  · exact eb_lreturn (pc := 35) rfl rfl w
  refine eb_if_ne (pc := 1) (tgt := 11) rfl (by decide) (fun c1 => ?_) (fun c1 => ?_)
  · refine eb_iload_n (pc := 11) (n := 2) (i := 2) rfl rfl rfl ?_
    refine eb_iconst (pc := 12) (n := 1) (v := 1) rfl rfl ?_
    refine eb_icmp_ne (pc := 13) (tgt := 23) rfl (by decide) (fun c2 => ?_) (fun c2 => ?_)
    · refine eb_iload_n (pc := 23) (n := 2) (i := 2) rfl rfl rfl ?_
      refine eb_iconst (pc := 24) (n := 2) (v := 2) rfl rfl ?_
      refine eb_icmp_ne (pc := 25) (tgt := 34) rfl (by decide) (fun c3 => ?_) (fun c3 => ?_)
      · refine eb_lload_n (pc := 34) (n := 0) (i := 0) rfl rfl rfl ?_
        exact jj4 _ (by simp only [if_neg c1, if_neg c2, if_neg c3])
      · refine eb_lload_n (pc := 28) (n := 0) (i := 0) rfl rfl rfl ?_
        refine eb_l2i (pc := 29) rfl ?_
        refine eb_i2l (pc := 30) rfl ?_
        refine eb_goto (pc := 31) (tgt := 35) rfl (by decide) ?_
        exact jj4 _ (by simp only [if_neg c1, if_neg c2, if_pos c3])
    · refine eb_lload_n (pc := 16) (n := 0) (i := 0) rfl rfl rfl ?_
      refine eb_l2i (pc := 17) rfl ?_
      refine eb_i2s (pc := 18) rfl ?_
      refine eb_i2l (pc := 19) rfl ?_
      refine eb_goto (pc := 20) (tgt := 35) rfl (by decide) ?_
      exact jj4 _ (by simp only [if_neg c1, if_pos c2])
  · refine eb_lload_n (pc := 4) (n := 0) (i := 0) rfl rfl rfl ?_
    refine eb_l2i (pc := 5) rfl ?_
    refine eb_i2b (pc := 6) rfl ?_
    refine eb_i2l (pc := 7) rfl ?_
    refine eb_goto (pc := 8) (tgt := 35) rfl (by decide) ?_
    exact jj4 _ (by simp only [if_pos c1])
theorem T_X11_cut {d : Nat} {h : eb_H} {Q : Option Value → eb_H → Prop} (x0 : Int64) (x2 : Int32)  (ko : eb_KO h) (w : Q (some (.long (if x2 = 0 then x0.toInt32.toInt8.toInt32.toInt64 else (if x2 = (1 : Int32) then x0.toInt32.toInt16.toInt32.toInt64 else (if x2 = (2 : Int32) then x0.toInt32.toInt64 else x0)) : Int64))) h) : eb_Ct d 276 [.long x0, .int x2] h Q :=
  eb_bodyQ (by decide) ok_X11_cut (Nat.le_of_ble_eq_true rfl) (b_X11_cut_0 (h0 := h) x0 x2  ko w)
theorem b_X11_numbers_0 {d : Nat} {h0 h : eb_H} {Q : Option Value → eb_H → Prop} (x1 : Int32) (x2 : Int32) (x3 : Int32)  (ko : eb_KO h) (w : ((¬ ((¬ (x1.toInt64 < 0)) ∧ (¬ (3 < x1.toInt64))) → Q (some (.int (-2))) (eb_sI h s_MO 0 0)) ∧ ((¬ (x1.toInt64 < 0)) ∧ (¬ (3 < x1.toInt64)) → (((¬ (x2.toInt64 < 0)) ∧ (¬ (3 < x2.toInt64)) → (((¬ (x3.toInt64 < 0)) ∧ (¬ (40 < x3.toInt64)) → (vp_in x1 4) ∧ (vp_in x1 4) ∧ eb_Sn (d + 1) m_X11_numbers h0 64 [(0, .ref s_MO), (1, .int x1), (3, .int x3), (4, .int 0)] [] (eb_sI (eb_sI (eb_sI h s_MO 0 0) s_m_rowSort x1.toNatClampNeg x2) s_m_rowMany x1.toNatClampNeg x3) Q) ∧ (¬ ((¬ (x3.toInt64 < 0)) ∧ (¬ (40 < x3.toInt64))) → Q (some (.int (-3))) (eb_sI h s_MO 0 0)))) ∧ (¬ ((¬ (x2.toInt64 < 0)) ∧ (¬ (3 < x2.toInt64))) → Q (some (.int (-2))) (eb_sI h s_MO 0 0)))))) : eb_Sn (d + 1) m_X11_numbers h0 0 [(0, .ref s_MO), (1, .int x1), (2, .int x2), (3, .int x3)] [] h Q := by
  refine eb_aload_n (pc := 0) (n := 0) (i := 0) rfl rfl rfl ?_
  refine eb_iconst (pc := 1) (n := 0) (v := 0) rfl rfl ?_
  refine eb_putI (pc := 2) rfl rfl (by decide) (by decide) rfl rfl ⟨rfl, rfl⟩ ?_
  refine eb_iload_n (pc := 5) (n := 1) (i := 1) rfl rfl rfl ?_
  refine eb_i2l (pc := 6) rfl ?_
  refine eb_lconst (pc := 7) (n := 0) (v := 0) rfl rfl ?_
  refine eb_ldc2 (pc := 8) (a := 3) (v := 3) rfl (by decide) ?_
  refine eb_joinI (pc2 := 14) (ls2 := [(0, .ref s_MO), (1, .int x1), (2, .int x2), (3, .int x3)]) (st2 := []) (v := eb_q ((¬ (x1.toInt64 < 0)) ∧ (¬ (3 < x1.toInt64)))) ?_ (fun jj16 => ?_)
  · refine eb_if_eq (pc := 14) (tgt := 29) rfl (by decide) (fun c3 => ?_) (fun c3 => ?_)
    · replace c3 := eb_q0.mp c3
      replace w := w.1 c3
      refine eb_bipush (pc := 29) (n := -2) (v := (-2)) rfl rfl ?_
      exact eb_ireturn (pc := 31) rfl rfl rfl w
    · replace c3 := eb_q1.mp c3
      replace w := w.2 c3
      refine eb_iload_n (pc := 17) (n := 2) (i := 2) rfl rfl rfl ?_
      refine eb_i2l (pc := 18) rfl ?_
      refine eb_lconst (pc := 19) (n := 0) (v := 0) rfl rfl ?_
      refine eb_ldc2 (pc := 20) (a := 3) (v := 3) rfl (by decide) ?_
      refine eb_joinI (pc2 := 26) (ls2 := [(0, .ref s_MO), (1, .int x1), (2, .int x2), (3, .int x3)]) (st2 := []) (v := eb_q ((¬ (x2.toInt64 < 0)) ∧ (¬ (3 < x2.toInt64)))) ?_ (fun jj14 => ?_)
      · refine eb_if_ne (pc := 26) (tgt := 32) rfl (by decide) (fun c6 => ?_) (fun c6 => ?_)
        · replace c6 := eb_q1.mp c6
          replace w := w.1 c6
          refine eb_iload_n (pc := 32) (n := 3) (i := 3) rfl rfl rfl ?_
          refine eb_i2l (pc := 33) rfl ?_
          refine eb_lconst (pc := 34) (n := 0) (v := 0) rfl rfl ?_
          refine eb_ldc2 (pc := 35) (a := 40) (v := 40) rfl (by decide) ?_
          refine eb_joinI (pc2 := 41) (ls2 := [(0, .ref s_MO), (1, .int x1), (2, .int x2), (3, .int x3)]) (st2 := []) (v := eb_q ((¬ (x3.toInt64 < 0)) ∧ (¬ (40 < x3.toInt64)))) ?_ (fun jj12 => ?_)
          · refine eb_if_ne (pc := 41) (tgt := 47) rfl (by decide) (fun c9 => ?_) (fun c9 => ?_)
            · replace c9 := eb_q1.mp c9
              replace w := w.1 c9
              refine eb_aload_n (pc := 47) (n := 0) (i := 0) rfl rfl rfl ?_
              refine eb_getR (pc := 48) rfl rfl (by decide) (by decide) rfl (ko_s_MO_28 ko) ?_
              refine eb_iload_n (pc := 51) (n := 1) (i := 1) rfl rfl rfl ?_
              refine eb_iload_n (pc := 52) (n := 2) (i := 2) rfl rfl rfl ?_
              obtain ⟨c10, w⟩ := w
              refine eb_iastore (pc := 53) rfl rfl (by decide) c10 ?_
              refine eb_aload_n (pc := 54) (n := 0) (i := 0) rfl rfl rfl ?_
              refine eb_getR (pc := 55) rfl rfl (by decide) (by decide) rfl (ko_s_MO_29 ko) ?_
              refine eb_iload_n (pc := 58) (n := 1) (i := 1) rfl rfl rfl ?_
              refine eb_iload_n (pc := 59) (n := 3) (i := 3) rfl rfl rfl ?_
              obtain ⟨c11, w⟩ := w
              refine eb_iastore (pc := 60) rfl rfl (by decide) c11 ?_
              refine eb_iconst (pc := 61) (n := 0) (v := 0) rfl rfl ?_
              refine eb_istore (pc := 62) (i := 4) (ls2 := [(4, .int 0), (0, .ref s_MO), (1, .int x1), (2, .int x2), (3, .int x3)]) (Nat.le_of_ble_eq_true rfl) rfl rfl ?_
              exact eb_pick [1, 2, 4, 0] rfl w
            · replace c9 := eb_q0.mp c9
              replace w := w.2 c9
              refine eb_bipush (pc := 44) (n := -3) (v := (-3)) rfl rfl ?_
              exact eb_ireturn (pc := 46) rfl rfl rfl w
          refine eb_ctS (pc := 38) (As := [.long x3.toInt64, .long 0, .long 40]) (rest := []) rfl (by decide) (by decide) rfl rfl (Nat.le_of_ble_eq_true rfl) ?_
          refine eb_bodyQ (by decide) ok_X11_within (Nat.le_of_ble_eq_true rfl) ?_
          change eb_Sn _ m_X11_within _ 0 [(0, .long x3.toInt64), (2, .long 0), (4, .long 40)] [] _ _
          refine eb_lload_n (pc := 0) (n := 0) (i := 0) rfl rfl rfl ?_
          refine eb_lload_n (pc := 1) (n := 2) (i := 2) rfl rfl rfl ?_
          refine eb_lcmp (pc := 2) rfl ?_
          refine eb_if_lt (pc := 3) (tgt := 17) rfl (by decide) (fun c7 => ?_) (fun c7 => ?_)
          · replace c7 := eb_lc_lt.mp c7
            refine eb_iconst (pc := 17) (n := 0) (v := 0) rfl rfl ?_
            refine eb_ireturn (pc := 18) rfl rfl (by decide) ?_
            change eb_Sn _ _ _ 41 _ _ _ _
            exact jj12 0 (eb_qf (fun z => z.1 c7)).symm
          · replace c7 := (fun hh => mt eb_lc_lt.mpr hh) c7
            refine eb_lload_n (pc := 6) (n := 0) (i := 0) rfl rfl rfl ?_
            refine eb_lload (pc := 7) (i := 4) rfl rfl ?_
            refine eb_lcmp (pc := 9) rfl ?_
            refine eb_if_gt (pc := 10) (tgt := 17) rfl (by decide) (fun c8 => ?_) (fun c8 => ?_)
            · replace c8 := eb_lc_gt.mp c8
              refine eb_iconst (pc := 17) (n := 0) (v := 0) rfl rfl ?_
              refine eb_ireturn (pc := 18) rfl rfl (by decide) ?_
              change eb_Sn _ _ _ 41 _ _ _ _
              exact jj12 0 (eb_qf (fun z => (fun z => z c8) z.2)).symm
            · replace c8 := (fun hh => mt eb_lc_gt.mpr hh) c8
              refine eb_iconst (pc := 13) (n := 1) (v := 1) rfl rfl ?_
              refine eb_goto (pc := 14) (tgt := 18) rfl (by decide) ?_
              refine eb_ireturn (pc := 18) rfl rfl (by decide) ?_
              change eb_Sn _ _ _ 41 _ _ _ _
              exact jj12 1 (eb_qt (⟨c7, c8⟩)).symm
        · replace c6 := eb_q0.mp c6
          replace w := w.2 c6
          refine eb_bipush (pc := 29) (n := -2) (v := (-2)) rfl rfl ?_
          exact eb_ireturn (pc := 31) rfl rfl rfl w
      refine eb_ctS (pc := 23) (As := [.long x2.toInt64, .long 0, .long 3]) (rest := []) rfl (by decide) (by decide) rfl rfl (Nat.le_of_ble_eq_true rfl) ?_
      refine eb_bodyQ (by decide) ok_X11_within (Nat.le_of_ble_eq_true rfl) ?_
      change eb_Sn _ m_X11_within _ 0 [(0, .long x2.toInt64), (2, .long 0), (4, .long 3)] [] _ _
      refine eb_lload_n (pc := 0) (n := 0) (i := 0) rfl rfl rfl ?_
      refine eb_lload_n (pc := 1) (n := 2) (i := 2) rfl rfl rfl ?_
      refine eb_lcmp (pc := 2) rfl ?_
      refine eb_if_lt (pc := 3) (tgt := 17) rfl (by decide) (fun c4 => ?_) (fun c4 => ?_)
      · replace c4 := eb_lc_lt.mp c4
        refine eb_iconst (pc := 17) (n := 0) (v := 0) rfl rfl ?_
        refine eb_ireturn (pc := 18) rfl rfl (by decide) ?_
        change eb_Sn _ _ _ 26 _ _ _ _
        exact jj14 0 (eb_qf (fun z => z.1 c4)).symm
      · replace c4 := (fun hh => mt eb_lc_lt.mpr hh) c4
        refine eb_lload_n (pc := 6) (n := 0) (i := 0) rfl rfl rfl ?_
        refine eb_lload (pc := 7) (i := 4) rfl rfl ?_
        refine eb_lcmp (pc := 9) rfl ?_
        refine eb_if_gt (pc := 10) (tgt := 17) rfl (by decide) (fun c5 => ?_) (fun c5 => ?_)
        · replace c5 := eb_lc_gt.mp c5
          refine eb_iconst (pc := 17) (n := 0) (v := 0) rfl rfl ?_
          refine eb_ireturn (pc := 18) rfl rfl (by decide) ?_
          change eb_Sn _ _ _ 26 _ _ _ _
          exact jj14 0 (eb_qf (fun z => (fun z => z c5) z.2)).symm
        · replace c5 := (fun hh => mt eb_lc_gt.mpr hh) c5
          refine eb_iconst (pc := 13) (n := 1) (v := 1) rfl rfl ?_
          refine eb_goto (pc := 14) (tgt := 18) rfl (by decide) ?_
          refine eb_ireturn (pc := 18) rfl rfl (by decide) ?_
          change eb_Sn _ _ _ 26 _ _ _ _
          exact jj14 1 (eb_qt (⟨c4, c5⟩)).symm
  refine eb_ctS (pc := 11) (As := [.long x1.toInt64, .long 0, .long 3]) (rest := []) rfl (by decide) (by decide) rfl rfl (Nat.le_of_ble_eq_true rfl) ?_
  refine eb_bodyQ (by decide) ok_X11_within (Nat.le_of_ble_eq_true rfl) ?_
  change eb_Sn _ m_X11_within _ 0 [(0, .long x1.toInt64), (2, .long 0), (4, .long 3)] [] _ _
  refine eb_lload_n (pc := 0) (n := 0) (i := 0) rfl rfl rfl ?_
  refine eb_lload_n (pc := 1) (n := 2) (i := 2) rfl rfl rfl ?_
  refine eb_lcmp (pc := 2) rfl ?_
  refine eb_if_lt (pc := 3) (tgt := 17) rfl (by decide) (fun c1 => ?_) (fun c1 => ?_)
  · replace c1 := eb_lc_lt.mp c1
    refine eb_iconst (pc := 17) (n := 0) (v := 0) rfl rfl ?_
    refine eb_ireturn (pc := 18) rfl rfl (by decide) ?_
    change eb_Sn _ _ _ 14 _ _ _ _
    exact jj16 0 (eb_qf (fun z => z.1 c1)).symm
  · replace c1 := (fun hh => mt eb_lc_lt.mpr hh) c1
    refine eb_lload_n (pc := 6) (n := 0) (i := 0) rfl rfl rfl ?_
    refine eb_lload (pc := 7) (i := 4) rfl rfl ?_
    refine eb_lcmp (pc := 9) rfl ?_
    refine eb_if_gt (pc := 10) (tgt := 17) rfl (by decide) (fun c2 => ?_) (fun c2 => ?_)
    · replace c2 := eb_lc_gt.mp c2
      refine eb_iconst (pc := 17) (n := 0) (v := 0) rfl rfl ?_
      refine eb_ireturn (pc := 18) rfl rfl (by decide) ?_
      change eb_Sn _ _ _ 14 _ _ _ _
      exact jj16 0 (eb_qf (fun z => (fun z => z c2) z.2)).symm
    · replace c2 := (fun hh => mt eb_lc_gt.mpr hh) c2
      refine eb_iconst (pc := 13) (n := 1) (v := 1) rfl rfl ?_
      refine eb_goto (pc := 14) (tgt := 18) rfl (by decide) ?_
      refine eb_ireturn (pc := 18) rfl rfl (by decide) ?_
      change eb_Sn _ _ _ 14 _ _ _ _
      exact jj16 1 (eb_qt (⟨c1, c2⟩)).symm
theorem b_X11_numbers_64 {d : Nat} {h0 h : eb_H} {Q : Option Value → eb_H → Prop} (x1 : Int32) (x3 : Int32) (x4 : Int32)  (ko : eb_KO h) (w : ((x3 ≤ x4 → Q (some (.int 0)) h) ∧ (¬ (x3 ≤ x4) → (vp_in (((40 : Int32) * x1) + x4) 160) ∧ eb_Sn (d + 1) m_X11_numbers h0 64 [(0, .ref s_MO), (1, .int x1), (3, .int x3), (4, .int (x4 + 1))] [] (eb_sJ h s_m_numbers (((40 : Int32) * x1) + x4).toNatClampNeg 0) Q))) : eb_Sn (d + 1) m_X11_numbers h0 64 [(0, .ref s_MO), (1, .int x1), (3, .int x3), (4, .int x4)] [] h Q := by
  refine eb_iload (pc := 64) (i := 4) rfl rfl ?_
  refine eb_iload_n (pc := 66) (n := 3) (i := 3) rfl rfl rfl ?_
  refine eb_icmp_ge (pc := 67) (tgt := 89) rfl (by decide) (fun c1 => ?_) (fun c1 => ?_)
  · replace w := w.1 c1
    refine eb_iconst (pc := 89) (n := 0) (v := 0) rfl rfl ?_
    exact eb_ireturn (pc := 90) rfl rfl rfl w
  · replace w := w.2 c1
    refine eb_aload_n (pc := 70) (n := 0) (i := 0) rfl rfl rfl ?_
    refine eb_getR (pc := 71) rfl rfl (by decide) (by decide) rfl (ko_s_MO_30 ko) ?_
    refine eb_bipush (pc := 74) (n := 40) (v := 40) rfl rfl ?_
    refine eb_iload_n (pc := 76) (n := 1) (i := 1) rfl rfl rfl ?_
    refine eb_imul (pc := 77) rfl ?_
    refine eb_iload (pc := 78) (i := 4) rfl rfl ?_
    refine eb_iadd (pc := 80) rfl ?_
    refine eb_lconst (pc := 81) (n := 0) (v := 0) rfl rfl ?_
    obtain ⟨c2, w⟩ := w
    refine eb_lastore (pc := 82) rfl rfl c2 ?_
    refine eb_iinc (pc := 83) (i := 4) (n := 1) (v := x4 + 1) (ls2 := [(4, .int (x4 + 1)), (0, .ref s_MO), (1, .int x1), (3, .int x3)]) (Nat.le_of_ble_eq_true rfl) rfl rfl rfl rfl ?_
    refine eb_goto (pc := 86) (tgt := 64) rfl (by decide) ?_
    exact eb_pick [1, 2, 3, 0] rfl w
theorem T_X11_numbers {d : Nat} {h : eb_H} {Q : Option Value → eb_H → Prop} (x1 : Int32) (x2 : Int32) (x3 : Int32)  (ko : eb_KO h) (w : ((¬ ((¬ (x1.toInt64 < 0)) ∧ (¬ (3 < x1.toInt64))) → Q (some (.int (-2))) (eb_sI h s_MO 0 0)) ∧ ((¬ (x1.toInt64 < 0)) ∧ (¬ (3 < x1.toInt64)) → (((¬ (x2.toInt64 < 0)) ∧ (¬ (3 < x2.toInt64)) → (((¬ (x3.toInt64 < 0)) ∧ (¬ (40 < x3.toInt64)) → (vp_in x1 4) ∧ (vp_in x1 4) ∧ eb_Sn (d + 1) m_X11_numbers h 64 [(0, .ref s_MO), (1, .int x1), (3, .int x3), (4, .int 0)] [] (eb_sI (eb_sI (eb_sI h s_MO 0 0) s_m_rowSort x1.toNatClampNeg x2) s_m_rowMany x1.toNatClampNeg x3) Q) ∧ (¬ ((¬ (x3.toInt64 < 0)) ∧ (¬ (40 < x3.toInt64))) → Q (some (.int (-3))) (eb_sI h s_MO 0 0)))) ∧ (¬ ((¬ (x2.toInt64 < 0)) ∧ (¬ (3 < x2.toInt64))) → Q (some (.int (-2))) (eb_sI h s_MO 0 0)))))) : eb_Ct (d + 1) 277 [.ref s_MO, .int x1, .int x2, .int x3] h Q :=
  eb_bodyQ (by decide) ok_X11_numbers (Nat.le_of_ble_eq_true rfl) (b_X11_numbers_0 (h0 := h) x1 x2 x3  ko w)
theorem b_X11_write_0 {d : Nat} {h0 h : eb_H} {Q : Option Value → eb_H → Prop} (x1 : Int32) (x2 : Int32) (x3 : Int64)  (ko : eb_KO h) (w : eb_Ct d 221 [.ref s_MO, .int x1] (eb_sI h s_MO 0 0) (fun r h1 => ∃ y2, r = some (.int y2) ∧ eb_KO h1 ∧ ((y2 = 0 → (vp_in x1 4) ∧ (((¬ (x2.toInt64 < 0)) ∧ (¬ ((((eb_I h1 s_m_rowMany x1.toNatClampNeg) - 1).toInt64) < x2.toInt64)) → (vp_in x1 4) ∧ eb_Ct d 276 [.long x3, .int (eb_I h1 s_m_rowSort x1.toNatClampNeg)] h1 (fun r h10 => ∃ y11, r = some (.long y11) ∧ eb_KO h10 ∧ (vp_in (((40 : Int32) * x1) + x2) 160) ∧ (vp_in (((40 : Int32) * x1) + x2) 160) ∧ Q (some (.long (eb_J (eb_sJ h10 s_m_numbers (((40 : Int32) * x1) + x2).toNatClampNeg y11) s_m_numbers (((40 : Int32) * x1) + x2).toNatClampNeg))) (eb_sJ h10 s_m_numbers (((40 : Int32) * x1) + x2).toNatClampNeg y11))) ∧ (¬ ((¬ (x2.toInt64 < 0)) ∧ (¬ ((((eb_I h1 s_m_rowMany x1.toNatClampNeg) - 1).toInt64) < x2.toInt64))) → Q (some (.long (-7))) h1))) ∧ (¬ (y2 = 0) → Q (some (.long y2.toInt64)) h1)))) : eb_Sn (d + 1) m_X11_write h0 0 [(0, .ref s_MO), (1, .int x1), (2, .int x2), (3, .long x3)] [] h Q := by
  refine eb_aload_n (pc := 0) (n := 0) (i := 0) rfl rfl rfl ?_
  refine eb_iconst (pc := 1) (n := 0) (v := 0) rfl rfl ?_
  refine eb_putI (pc := 2) rfl rfl (by decide) (by decide) rfl rfl ⟨rfl, rfl⟩ ?_
  refine eb_aload_n (pc := 5) (n := 0) (i := 0) rfl rfl rfl ?_
  refine eb_iload_n (pc := 6) (n := 1) (i := 1) rfl rfl rfl ?_
  refine eb_ctV (pc := 7) (As := [.int x1]) (rest := []) rfl (by decide) rfl rfl (by decide) rfl (Nat.le_of_ble_eq_true rfl) ?_
  refine eb_Ct.mono w ?_
  rintro r h1 ⟨y2, rfl, ko3, w⟩
  change eb_Sn _ _ _ 10 _ [.int y2] _ _
  refine eb_istore (pc := 10) (i := 5) (ls2 := [(5, .int y2), (0, .ref s_MO), (1, .int x1), (2, .int x2), (3, .long x3)]) (Nat.le_of_ble_eq_true rfl) rfl rfl ?_
  refine eb_iload (pc := 12) (i := 5) rfl rfl ?_
  refine eb_if_eq (pc := 14) (tgt := 21) rfl (by decide) (fun c4 => ?_) (fun c4 => ?_)
  · replace w := w.1 c4
    refine eb_iload_n (pc := 21) (n := 2) (i := 2) rfl rfl rfl ?_
    refine eb_i2l (pc := 22) rfl ?_
    refine eb_lconst (pc := 23) (n := 0) (v := 0) rfl rfl ?_
    refine eb_aload_n (pc := 24) (n := 0) (i := 0) rfl rfl rfl ?_
    refine eb_getR (pc := 25) rfl rfl (by decide) (by decide) rfl (ko_s_MO_29 ko3) ?_
    refine eb_iload_n (pc := 28) (n := 1) (i := 1) rfl rfl rfl ?_
    obtain ⟨c5, w⟩ := w
    refine eb_iaload (pc := 29) rfl rfl (by decide) c5 ?_
    refine eb_iconst (pc := 30) (n := 1) (v := 1) rfl rfl ?_
    refine eb_isub (pc := 31) rfl ?_
    refine eb_i2l (pc := 32) rfl ?_
    refine eb_joinI (pc2 := 36) (ls2 := [(5, .int y2), (0, .ref s_MO), (1, .int x1), (2, .int x2), (3, .long x3)]) (st2 := []) (v := eb_q ((¬ (x2.toInt64 < 0)) ∧ (¬ ((((eb_I h1 s_m_rowMany x1.toNatClampNeg) - 1).toInt64) < x2.toInt64)))) ?_ (fun jj15 => ?_)
    · refine eb_if_ne (pc := 36) (tgt := 43) rfl (by decide) (fun c8 => ?_) (fun c8 => ?_)
      · replace c8 := eb_q1.mp c8
        replace w := w.1 c8
        refine eb_aload_n (pc := 43) (n := 0) (i := 0) rfl rfl rfl ?_
        refine eb_getR (pc := 44) rfl rfl (by decide) (by decide) rfl (ko_s_MO_30 ko3) ?_
        refine eb_bipush (pc := 47) (n := 40) (v := 40) rfl rfl ?_
        refine eb_iload_n (pc := 49) (n := 1) (i := 1) rfl rfl rfl ?_
        refine eb_imul (pc := 50) rfl ?_
        refine eb_iload_n (pc := 51) (n := 2) (i := 2) rfl rfl rfl ?_
        refine eb_iadd (pc := 52) rfl ?_
        refine eb_lload_n (pc := 53) (n := 3) (i := 3) rfl rfl rfl ?_
        refine eb_aload_n (pc := 54) (n := 0) (i := 0) rfl rfl rfl ?_
        refine eb_getR (pc := 55) rfl rfl (by decide) (by decide) rfl (ko_s_MO_28 ko3) ?_
        refine eb_iload_n (pc := 58) (n := 1) (i := 1) rfl rfl rfl ?_
        obtain ⟨c9, w⟩ := w
        refine eb_iaload (pc := 59) rfl rfl (by decide) c9 ?_
        refine eb_ctS (pc := 60) (As := [.long x3, .int (eb_I h1 s_m_rowSort x1.toNatClampNeg)]) (rest := [.int (((40 : Int32) * x1) + x2), .ref s_m_numbers]) rfl (by decide) (by decide) rfl rfl (Nat.le_of_ble_eq_true rfl) ?_
        refine eb_Ct.mono w ?_
        rintro r h10 ⟨y11, rfl, ko12, w⟩
        change eb_Sn _ _ _ 63 _ [.long y11, .int (((40 : Int32) * x1) + x2), .ref s_m_numbers] _ _
        obtain ⟨c13, w⟩ := w
        refine eb_lastore (pc := 63) rfl rfl c13 ?_
        refine eb_aload_n (pc := 64) (n := 0) (i := 0) rfl rfl rfl ?_
        refine eb_getR (pc := 65) rfl rfl (by decide) (by decide) rfl (ko_s_MO_30 ko12) ?_
        refine eb_bipush (pc := 68) (n := 40) (v := 40) rfl rfl ?_
        refine eb_iload_n (pc := 70) (n := 1) (i := 1) rfl rfl rfl ?_
        refine eb_imul (pc := 71) rfl ?_
        refine eb_iload_n (pc := 72) (n := 2) (i := 2) rfl rfl rfl ?_
        refine eb_iadd (pc := 73) rfl ?_
        obtain ⟨c14, w⟩ := w
        refine eb_laload (pc := 74) rfl rfl c14 ?_
        exact eb_lreturn (pc := 75) rfl rfl w
      · replace c8 := eb_q0.mp c8
        replace w := w.2 c8
        refine eb_ldc2 (pc := 39) (a := 18446744073709551609) (v := (-7)) rfl (by decide) ?_
        exact eb_lreturn (pc := 42) rfl rfl w
    refine eb_ctS (pc := 33) (As := [.long x2.toInt64, .long 0, .long (((eb_I h1 s_m_rowMany x1.toNatClampNeg) - 1).toInt64)]) (rest := []) rfl (by decide) (by decide) rfl rfl (Nat.le_of_ble_eq_true rfl) ?_
    refine eb_bodyQ (by decide) ok_X11_within (Nat.le_of_ble_eq_true rfl) ?_
    change eb_Sn _ m_X11_within _ 0 [(0, .long x2.toInt64), (2, .long 0), (4, .long (((eb_I h1 s_m_rowMany x1.toNatClampNeg) - 1).toInt64))] [] _ _
    refine eb_lload_n (pc := 0) (n := 0) (i := 0) rfl rfl rfl ?_
    refine eb_lload_n (pc := 1) (n := 2) (i := 2) rfl rfl rfl ?_
    refine eb_lcmp (pc := 2) rfl ?_
    refine eb_if_lt (pc := 3) (tgt := 17) rfl (by decide) (fun c6 => ?_) (fun c6 => ?_)
    · replace c6 := eb_lc_lt.mp c6
      refine eb_iconst (pc := 17) (n := 0) (v := 0) rfl rfl ?_
      refine eb_ireturn (pc := 18) rfl rfl (by decide) ?_
      change eb_Sn _ _ _ 36 _ _ _ _
      exact jj15 0 (eb_qf (fun z => z.1 c6)).symm
    · replace c6 := (fun hh => mt eb_lc_lt.mpr hh) c6
      refine eb_lload_n (pc := 6) (n := 0) (i := 0) rfl rfl rfl ?_
      refine eb_lload (pc := 7) (i := 4) rfl rfl ?_
      refine eb_lcmp (pc := 9) rfl ?_
      refine eb_if_gt (pc := 10) (tgt := 17) rfl (by decide) (fun c7 => ?_) (fun c7 => ?_)
      · replace c7 := eb_lc_gt.mp c7
        refine eb_iconst (pc := 17) (n := 0) (v := 0) rfl rfl ?_
        refine eb_ireturn (pc := 18) rfl rfl (by decide) ?_
        change eb_Sn _ _ _ 36 _ _ _ _
        exact jj15 0 (eb_qf (fun z => (fun z => z c7) z.2)).symm
      · replace c7 := (fun hh => mt eb_lc_gt.mpr hh) c7
        refine eb_iconst (pc := 13) (n := 1) (v := 1) rfl rfl ?_
        refine eb_goto (pc := 14) (tgt := 18) rfl (by decide) ?_
        refine eb_ireturn (pc := 18) rfl rfl (by decide) ?_
        change eb_Sn _ _ _ 36 _ _ _ _
        exact jj15 1 (eb_qt (⟨c6, c7⟩)).symm
  · replace w := w.2 c4
    refine eb_iload (pc := 17) (i := 5) rfl rfl ?_
    refine eb_i2l (pc := 19) rfl ?_
    exact eb_lreturn (pc := 20) rfl rfl w
theorem T_X11_write {d : Nat} {h : eb_H} {Q : Option Value → eb_H → Prop} (x1 : Int32) (x2 : Int32) (x3 : Int64)  (ko : eb_KO h) (w : eb_Ct d 221 [.ref s_MO, .int x1] (eb_sI h s_MO 0 0) (fun r h1 => ∃ y2, r = some (.int y2) ∧ eb_KO h1 ∧ ((y2 = 0 → (vp_in x1 4) ∧ (((¬ (x2.toInt64 < 0)) ∧ (¬ ((((eb_I h1 s_m_rowMany x1.toNatClampNeg) - 1).toInt64) < x2.toInt64)) → (vp_in x1 4) ∧ eb_Ct d 276 [.long x3, .int (eb_I h1 s_m_rowSort x1.toNatClampNeg)] h1 (fun r h10 => ∃ y11, r = some (.long y11) ∧ eb_KO h10 ∧ (vp_in (((40 : Int32) * x1) + x2) 160) ∧ (vp_in (((40 : Int32) * x1) + x2) 160) ∧ Q (some (.long (eb_J (eb_sJ h10 s_m_numbers (((40 : Int32) * x1) + x2).toNatClampNeg y11) s_m_numbers (((40 : Int32) * x1) + x2).toNatClampNeg))) (eb_sJ h10 s_m_numbers (((40 : Int32) * x1) + x2).toNatClampNeg y11))) ∧ (¬ ((¬ (x2.toInt64 < 0)) ∧ (¬ ((((eb_I h1 s_m_rowMany x1.toNatClampNeg) - 1).toInt64) < x2.toInt64))) → Q (some (.long (-7))) h1))) ∧ (¬ (y2 = 0) → Q (some (.long y2.toInt64)) h1)))) : eb_Ct (d + 1) 278 [.ref s_MO, .int x1, .int x2, .long x3] h Q :=
  eb_bodyQ (by decide) ok_X11_write (Nat.le_of_ble_eq_true rfl) (b_X11_write_0 (h0 := h) x1 x2 x3  ko w)
