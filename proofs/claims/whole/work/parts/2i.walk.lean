theorem b_X11_attempt_0 {d : Nat} {h0 h : eb_H} {Q : Option Value → eb_H → Prop} (x1 : Int32) (x2 : Int32)  (ko : eb_KO h) (w : eb_Ct d 254 [.ref s_MO, .int x1, .int x2] (eb_sI h s_MO 0 0) (fun r h1 => ∃ y2, r = some (.int y2) ∧ eb_KO h1 ∧ ((y2 = 0 → eb_Ct d 257 [.ref s_MO, .int x1, .int x2] h1 (fun r h5 => ∃ y6, r = some (.int y6) ∧ eb_KO h5 ∧ eb_Sn (d + 1) m_X11_attempt h0 37 [(0, .ref s_MO), (4, .int y6), (5, .int (-1)), (6, .int 268435456), (7, .int 0)] [] h5 Q)) ∧ (¬ (y2 = 0) → Q (some (.int y2)) h1)))) : eb_Sn (d + 1) m_X11_attempt h0 0 [(0, .ref s_MO), (1, .int x1), (2, .int x2)] [] h Q := by
  refine eb_aload_n (pc := 0) (n := 0) (i := 0) rfl rfl rfl ?_
  refine eb_iconst (pc := 1) (n := 0) (v := 0) rfl rfl ?_
  refine eb_putI (pc := 2) rfl rfl (by decide) (by decide) rfl rfl ⟨rfl, rfl⟩ ?_
  refine eb_aload_n (pc := 5) (n := 0) (i := 0) rfl rfl rfl ?_
  refine eb_iload_n (pc := 6) (n := 1) (i := 1) rfl rfl rfl ?_
  refine eb_iload_n (pc := 7) (n := 2) (i := 2) rfl rfl rfl ?_
  refine eb_ctV (pc := 8) (As := [.int x1, .int x2]) (rest := []) rfl (by decide) rfl rfl (by decide) rfl (Nat.le_of_ble_eq_true rfl) ?_
  refine eb_Ct.mono w ?_
  rintro r h1 ⟨y2, rfl, ko3, w⟩
  change eb_Sn _ _ _ 11 _ [.int y2] _ _
  refine eb_istore_n (pc := 11) (n := 3) (i := 3) (ls2 := [(3, .int y2), (0, .ref s_MO), (1, .int x1), (2, .int x2)]) rfl (Nat.le_of_ble_eq_true rfl) rfl rfl ?_
  refine eb_iload_n (pc := 12) (n := 3) (i := 3) rfl rfl rfl ?_
  refine eb_if_eq (pc := 13) (tgt := 18) rfl (by decide) (fun c4 => ?_) (fun c4 => ?_)
  · replace w := w.1 c4
    refine eb_aload_n (pc := 18) (n := 0) (i := 0) rfl rfl rfl ?_
    refine eb_iload_n (pc := 19) (n := 1) (i := 1) rfl rfl rfl ?_
    refine eb_iload_n (pc := 20) (n := 2) (i := 2) rfl rfl rfl ?_
    refine eb_ctV (pc := 21) (As := [.int x1, .int x2]) (rest := []) rfl (by decide) rfl rfl (by decide) rfl (Nat.le_of_ble_eq_true rfl) ?_
    refine eb_Ct.mono w ?_
    rintro r h5 ⟨y6, rfl, ko7, w⟩
    change eb_Sn _ _ _ 24 _ [.int y6] _ _
    refine eb_istore (pc := 24) (i := 4) (ls2 := [(4, .int y6), (3, .int y2), (0, .ref s_MO), (1, .int x1), (2, .int x2)]) (Nat.le_of_ble_eq_true rfl) rfl rfl ?_
    refine eb_iconst (pc := 26) (n := -1) (v := (-1)) rfl rfl ?_
    refine eb_istore (pc := 27) (i := 5) (ls2 := [(5, .int (-1)), (4, .int y6), (3, .int y2), (0, .ref s_MO), (1, .int x1), (2, .int x2)]) (Nat.le_of_ble_eq_true rfl) rfl rfl ?_
    refine eb_ldcw (pc := 29) (a := 268435456) (v := 268435456) rfl (by decide) ?_
    refine eb_istore (pc := 32) (i := 6) (ls2 := [(6, .int 268435456), (5, .int (-1)), (4, .int y6), (3, .int y2), (0, .ref s_MO), (1, .int x1), (2, .int x2)]) (Nat.le_of_ble_eq_true rfl) rfl rfl ?_
    refine eb_iconst (pc := 34) (n := 0) (v := 0) rfl rfl ?_
    refine eb_istore (pc := 35) (i := 7) (ls2 := [(7, .int 0), (6, .int 268435456), (5, .int (-1)), (4, .int y6), (3, .int y2), (0, .ref s_MO), (1, .int x1), (2, .int x2)]) (Nat.le_of_ble_eq_true rfl) rfl rfl ?_
    exact eb_pick [5, 3, 2, 1, 0] rfl w
  · replace w := w.2 c4
    refine eb_iload_n (pc := 16) (n := 3) (i := 3) rfl rfl rfl ?_
    exact eb_ireturn (pc := 17) rfl rfl rfl w
theorem b_X11_attempt_37 {d : Nat} {h0 h : eb_H} {Q : Option Value → eb_H → Prop} (x4 : Int32) (x5 : Int32) (x6 : Int32) (x7 : Int32)  (ko : eb_KO h) (w : (((4 : Int32) ≤ x7 → Q (some (.int x5)) h) ∧ (¬ ((4 : Int32) ≤ x7) → ((x4 = 0 → Q (some (.int x5)) h) ∧ (¬ (x4 = 0) → eb_Ct d 259 [.ref s_MO, .int x7, .int x4] h (fun r h3 => ∃ y4, r = some (.int y4) ∧ eb_KO h3 ∧ ((y4 < x6 → eb_Sn (d + 1) m_X11_attempt h0 37 [(0, .ref s_MO), (4, .int x4), (5, .int x7), (6, .int y4), (7, .int (x7 + 1))] [] h3 Q) ∧ (¬ (y4 < x6) → eb_Sn (d + 1) m_X11_attempt h0 37 [(0, .ref s_MO), (4, .int x4), (5, .int x5), (6, .int x6), (7, .int (x7 + 1))] [] h3 Q)))))))) : eb_Sn (d + 1) m_X11_attempt h0 37 [(0, .ref s_MO), (4, .int x4), (5, .int x5), (6, .int x6), (7, .int x7)] [] h Q := by
  refine eb_iload (pc := 37) (i := 7) rfl rfl ?_
  refine eb_iconst (pc := 39) (n := 4) (v := 4) rfl rfl ?_
  refine eb_icmp_ge (pc := 40) (tgt := 82) rfl (by decide) (fun c1 => ?_) (fun c1 => ?_)
  · replace w := w.1 c1
    refine eb_iload (pc := 82) (i := 5) rfl rfl ?_
    exact eb_ireturn (pc := 84) rfl rfl rfl w
  · replace w := w.2 c1
    refine eb_iload (pc := 43) (i := 4) rfl rfl ?_
    refine eb_if_eq (pc := 45) (tgt := 82) rfl (by decide) (fun c2 => ?_) (fun c2 => ?_)
    · replace w := w.1 c2
      refine eb_iload (pc := 82) (i := 5) rfl rfl ?_
      exact eb_ireturn (pc := 84) rfl rfl rfl w
    · replace w := w.2 c2
      refine eb_aload_n (pc := 48) (n := 0) (i := 0) rfl rfl rfl ?_
      refine eb_iload (pc := 49) (i := 7) rfl rfl ?_
      refine eb_iload (pc := 51) (i := 4) rfl rfl ?_
      refine eb_ctV (pc := 53) (As := [.int x7, .int x4]) (rest := []) rfl (by decide) rfl rfl (by decide) rfl (Nat.le_of_ble_eq_true rfl) ?_
      refine eb_Ct.mono w ?_
      rintro r h3 ⟨y4, rfl, ko5, w⟩
      change eb_Sn _ _ _ 56 _ [.int y4] _ _
      refine eb_istore (pc := 56) (i := 8) (ls2 := [(8, .int y4), (0, .ref s_MO), (4, .int x4), (5, .int x5), (6, .int x6), (7, .int x7)]) (Nat.le_of_ble_eq_true rfl) rfl rfl ?_
      refine eb_iload (pc := 58) (i := 8) rfl rfl ?_
      refine eb_iload (pc := 60) (i := 6) rfl rfl ?_
      refine eb_icmp_lt (pc := 62) (tgt := 68) rfl (by decide) (fun c6 => ?_) (fun c6 => ?_)
      · replace w := w.1 c6
        refine eb_iload (pc := 68) (i := 7) rfl rfl ?_
        refine eb_istore (pc := 70) (i := 5) (ls2 := [(5, .int x7), (8, .int y4), (0, .ref s_MO), (4, .int x4), (6, .int x6), (7, .int x7)]) (Nat.le_of_ble_eq_true rfl) rfl rfl ?_
        refine eb_iload (pc := 72) (i := 8) rfl rfl ?_
        refine eb_istore (pc := 74) (i := 6) (ls2 := [(6, .int y4), (5, .int x7), (8, .int y4), (0, .ref s_MO), (4, .int x4), (7, .int x7)]) (Nat.le_of_ble_eq_true rfl) rfl rfl ?_
        refine eb_iinc (pc := 76) (i := 7) (n := 1) (v := x7 + 1) (ls2 := [(7, .int (x7 + 1)), (6, .int y4), (5, .int x7), (8, .int y4), (0, .ref s_MO), (4, .int x4)]) (Nat.le_of_ble_eq_true rfl) rfl rfl rfl rfl ?_
        refine eb_goto (pc := 79) (tgt := 37) rfl (by decide) ?_
        exact eb_pick [4, 5, 2, 1, 0] rfl w
      · replace w := w.2 c6
        refine eb_goto (pc := 65) (tgt := 76) rfl (by decide) ?_
        refine eb_iinc (pc := 76) (i := 7) (n := 1) (v := x7 + 1) (ls2 := [(7, .int (x7 + 1)), (8, .int y4), (0, .ref s_MO), (4, .int x4), (5, .int x5), (6, .int x6)]) (Nat.le_of_ble_eq_true rfl) rfl rfl rfl rfl ?_
        refine eb_goto (pc := 79) (tgt := 37) rfl (by decide) ?_
        exact eb_pick [2, 3, 4, 5, 0] rfl w
theorem T_X11_attempt {d : Nat} {h : eb_H} {Q : Option Value → eb_H → Prop} (x1 : Int32) (x2 : Int32)  (ko : eb_KO h) (w : eb_Ct d 254 [.ref s_MO, .int x1, .int x2] (eb_sI h s_MO 0 0) (fun r h1 => ∃ y2, r = some (.int y2) ∧ eb_KO h1 ∧ ((y2 = 0 → eb_Ct d 257 [.ref s_MO, .int x1, .int x2] h1 (fun r h5 => ∃ y6, r = some (.int y6) ∧ eb_KO h5 ∧ eb_Sn (d + 1) m_X11_attempt h 37 [(0, .ref s_MO), (4, .int y6), (5, .int (-1)), (6, .int 268435456), (7, .int 0)] [] h5 Q)) ∧ (¬ (y2 = 0) → Q (some (.int y2)) h1)))) : eb_Ct (d + 1) 260 [.ref s_MO, .int x1, .int x2] h Q :=
  eb_bodyQ (by decide) ok_X11_attempt (Nat.le_of_ble_eq_true rfl) (b_X11_attempt_0 (h0 := h) x1 x2  ko w)
theorem b_X11_isThere_0 {d : Nat} {h0 h : eb_H} {Q : Option Value → eb_H → Prop} (x1 : Int32) (x2 : Int32) (x3 : Int32)  (ko : eb_KO h) (w : (vp_in ((27 : Int32) + x2) 3492) ∧ eb_Ct d 230 [.int x1, .int (eb_I h s_m_all ((27 : Int32) + x2).toNatClampNeg), .int x3, .int 0] h (fun r h2 => ∃ y3, r = some (.int y3) ∧ eb_KO h2 ∧ (narrow .boolean (.int y3) = .int y3) ∧ Q (some (.int y3)) h2)) : eb_Sn (d + 1) m_X11_isThere h0 0 [(0, .ref s_MO), (1, .int x1), (2, .int x2), (3, .int x3)] [] h Q := by
  refine eb_iload_n (pc := 0) (n := 1) (i := 1) rfl rfl rfl ?_
  refine eb_aload_n (pc := 1) (n := 0) (i := 0) rfl rfl rfl ?_
  refine eb_getR (pc := 2) rfl rfl (by decide) (by decide) rfl (ko_s_MO_1 ko) ?_
  refine eb_bipush (pc := 5) (n := 27) (v := 27) rfl rfl ?_
  refine eb_iload_n (pc := 7) (n := 2) (i := 2) rfl rfl rfl ?_
  refine eb_iadd (pc := 8) rfl ?_
  obtain ⟨c1, w⟩ := w
  refine eb_iaload (pc := 9) rfl rfl c1 ?_
  refine eb_iload_n (pc := 10) (n := 3) (i := 3) rfl rfl rfl ?_
  refine eb_iconst (pc := 11) (n := 0) (v := 0) rfl rfl ?_
  refine eb_ctS (pc := 12) (As := [.int x1, .int (eb_I h s_m_all ((27 : Int32) + x2).toNatClampNeg), .int x3, .int 0]) (rest := []) rfl (by decide) (by decide) rfl rfl (Nat.le_of_ble_eq_true rfl) ?_
  refine eb_Ct.mono w ?_
  rintro r h2 ⟨y3, rfl, ko4, w⟩
  change eb_Sn _ _ _ 15 _ [.int y3] _ _
  obtain ⟨c5, w⟩ := w
  exact eb_ireturn (pc := 15) rfl rfl c5 w
theorem T_X11_isThere {d : Nat} {h : eb_H} {Q : Option Value → eb_H → Prop} (x1 : Int32) (x2 : Int32) (x3 : Int32)  (ko : eb_KO h) (w : (vp_in ((27 : Int32) + x2) 3492) ∧ eb_Ct d 230 [.int x1, .int (eb_I h s_m_all ((27 : Int32) + x2).toNatClampNeg), .int x3, .int 0] h (fun r h2 => ∃ y3, r = some (.int y3) ∧ eb_KO h2 ∧ (narrow .boolean (.int y3) = .int y3) ∧ Q (some (.int y3)) h2)) : eb_Ct (d + 1) 261 [.ref s_MO, .int x1, .int x2, .int x3] h Q :=
  eb_bodyQ (by decide) ok_X11_isThere (Nat.le_of_ble_eq_true rfl) (b_X11_isThere_0 (h0 := h) x1 x2 x3  ko w)
theorem b_X11_hers_0 {d : Nat} {h0 h : eb_H} {Q : Option Value → eb_H → Prop} (x1 : Int32) (x2 : Int32) (x3 : Int32) (x4 : Int32) (x5 : Int32)  (ko : eb_KO h) (w : eb_Ct d 261 [.ref s_MO, .int x1, .int x3, .int x4] h (fun r h1 => ∃ y2, r = some (.int y2) ∧ eb_KO h1 ∧ ((y2 = 0 → ((¬ x5 = 0 → eb_Sn (d + 1) m_X11_hers h0 23 [(0, .ref s_MO), (1, .int x1), (2, .int x2), (3, .int x3), (4, .int x4), (5, .int x5), (6, .int 0)] [] h1 Q) ∧ (x5 = 0 → Q (some (.int 0)) h1))) ∧ (¬ (y2 = 0) → Q (some (.int 1)) h1)))) : eb_Sn (d + 1) m_X11_hers h0 0 [(0, .ref s_MO), (1, .int x1), (2, .int x2), (3, .int x3), (4, .int x4), (5, .int x5)] [] h Q := by
  refine eb_aload_n (pc := 0) (n := 0) (i := 0) rfl rfl rfl ?_
  refine eb_iload_n (pc := 1) (n := 1) (i := 1) rfl rfl rfl ?_
  refine eb_iload_n (pc := 2) (n := 3) (i := 3) rfl rfl rfl ?_
  refine eb_iload (pc := 3) (i := 4) rfl rfl ?_
  refine eb_ctV (pc := 5) (As := [.int x1, .int x3, .int x4]) (rest := []) rfl (by decide) rfl rfl (by decide) rfl (Nat.le_of_ble_eq_true rfl) ?_
  refine eb_Ct.mono w ?_
  rintro r h1 ⟨y2, rfl, ko3, w⟩
  change eb_Sn _ _ _ 8 _ [.int y2] _ _
  refine eb_if_eq (pc := 8) (tgt := 13) rfl (by decide) (fun c4 => ?_) (fun c4 => ?_)
  · replace w := w.1 c4
    refine eb_iload (pc := 13) (i := 5) rfl rfl ?_
    refine eb_if_ne (pc := 15) (tgt := 20) rfl (by decide) (fun c5 => ?_) (fun c5 => ?_)
    · replace w := w.1 c5
      refine eb_iconst (pc := 20) (n := 0) (v := 0) rfl rfl ?_
      refine eb_istore (pc := 21) (i := 6) (ls2 := [(6, .int 0), (0, .ref s_MO), (1, .int x1), (2, .int x2), (3, .int x3), (4, .int x4), (5, .int x5)]) (Nat.le_of_ble_eq_true rfl) rfl rfl ?_
      exact eb_pick [1, 2, 3, 4, 5, 6, 0] rfl w
    · replace w := w.2 c5
      refine eb_iconst (pc := 18) (n := 0) (v := 0) rfl rfl ?_
      exact eb_ireturn (pc := 19) rfl rfl (by decide) w
  · replace w := w.2 c4
    refine eb_iconst (pc := 11) (n := 1) (v := 1) rfl rfl ?_
    exact eb_ireturn (pc := 12) rfl rfl (by decide) w
theorem b_X11_hers_23 {d : Nat} {h0 h : eb_H} {Q : Option Value → eb_H → Prop} (x1 : Int32) (x2 : Int32) (x3 : Int32) (x4 : Int32) (x5 : Int32) (x6 : Int32)  (ko : eb_KO h) (w : (((4 : Int32) ≤ x6 → eb_Ct d 264 [.ref s_MO, .int x1, .int x2, .int x3, .int x4, .int (x5 - 1)] h (fun r h2 => ∃ y3, r = some (.int y3) ∧ eb_KO h2 ∧ (narrow .boolean (.int y3) = .int y3) ∧ Q (some (.int y3)) h2)) ∧ (¬ ((4 : Int32) ≤ x6) → eb_Ct d 263 [.ref s_MO, .int x1, .int x2, .int x6, .int x3, .int x4, .int x5] h (fun r h6 => ∃ y7, r = some (.int y7) ∧ eb_KO h6 ∧ ((y7 = 0 → eb_Sn (d + 1) m_X11_hers h0 23 [(0, .ref s_MO), (1, .int x1), (2, .int x2), (3, .int x3), (4, .int x4), (5, .int x5), (6, .int (x6 + 1))] [] h6 Q) ∧ (¬ (y7 = 0) → Q (some (.int 1)) h6)))))) : eb_Sn (d + 1) m_X11_hers h0 23 [(0, .ref s_MO), (1, .int x1), (2, .int x2), (3, .int x3), (4, .int x4), (5, .int x5), (6, .int x6)] [] h Q := by
  refine eb_iload (pc := 23) (i := 6) rfl rfl ?_
  refine eb_iconst (pc := 25) (n := 4) (v := 4) rfl rfl ?_
  refine eb_icmp_ge (pc := 26) (tgt := 53) rfl (by decide) (fun c1 => ?_) (fun c1 => ?_)
  · replace w := w.1 c1
    refine eb_aload_n (pc := 53) (n := 0) (i := 0) rfl rfl rfl ?_
    refine eb_iload_n (pc := 54) (n := 1) (i := 1) rfl rfl rfl ?_
    refine eb_iload_n (pc := 55) (n := 2) (i := 2) rfl rfl rfl ?_
    refine eb_iload_n (pc := 56) (n := 3) (i := 3) rfl rfl rfl ?_
    refine eb_iload (pc := 57) (i := 4) rfl rfl ?_
    refine eb_iload (pc := 59) (i := 5) rfl rfl ?_
    refine eb_iconst (pc := 61) (n := 1) (v := 1) rfl rfl ?_
    refine eb_isub (pc := 62) rfl ?_
    refine eb_ctV (pc := 63) (As := [.int x1, .int x2, .int x3, .int x4, .int (x5 - 1)]) (rest := []) rfl (by decide) rfl rfl (by decide) rfl (Nat.le_of_ble_eq_true rfl) ?_
    refine eb_Ct.mono w ?_
    rintro r h2 ⟨y3, rfl, ko4, w⟩
    change eb_Sn _ _ _ 66 _ [.int y3] _ _
    obtain ⟨c5, w⟩ := w
    exact eb_ireturn (pc := 66) rfl rfl c5 w
  · replace w := w.2 c1
    refine eb_aload_n (pc := 29) (n := 0) (i := 0) rfl rfl rfl ?_
    refine eb_iload_n (pc := 30) (n := 1) (i := 1) rfl rfl rfl ?_
    refine eb_iload_n (pc := 31) (n := 2) (i := 2) rfl rfl rfl ?_
    refine eb_iload (pc := 32) (i := 6) rfl rfl ?_
    refine eb_iload_n (pc := 34) (n := 3) (i := 3) rfl rfl rfl ?_
    refine eb_iload (pc := 35) (i := 4) rfl rfl ?_
    refine eb_iload (pc := 37) (i := 5) rfl rfl ?_
    refine eb_ctV (pc := 39) (As := [.int x1, .int x2, .int x6, .int x3, .int x4, .int x5]) (rest := []) rfl (by decide) rfl rfl (by decide) rfl (Nat.le_of_ble_eq_true rfl) ?_
    refine eb_Ct.mono w ?_
    rintro r h6 ⟨y7, rfl, ko8, w⟩
    change eb_Sn _ _ _ 42 _ [.int y7] _ _
    refine eb_if_eq (pc := 42) (tgt := 47) rfl (by decide) (fun c9 => ?_) (fun c9 => ?_)
    · replace w := w.1 c9
      refine eb_iinc (pc := 47) (i := 6) (n := 1) (v := x6 + 1) (ls2 := [(6, .int (x6 + 1)), (0, .ref s_MO), (1, .int x1), (2, .int x2), (3, .int x3), (4, .int x4), (5, .int x5)]) (Nat.le_of_ble_eq_true rfl) rfl rfl rfl rfl ?_
      refine eb_goto (pc := 50) (tgt := 23) rfl (by decide) ?_
      exact eb_pick [1, 2, 3, 4, 5, 6, 0] rfl w
    · replace w := w.2 c9
      refine eb_iconst (pc := 45) (n := 1) (v := 1) rfl rfl ?_
      exact eb_ireturn (pc := 46) rfl rfl (by decide) w
theorem T_X11_hers {d : Nat} {h : eb_H} {Q : Option Value → eb_H → Prop} (x1 : Int32) (x2 : Int32) (x3 : Int32) (x4 : Int32) (x5 : Int32)  (ko : eb_KO h) (w : eb_Ct d 261 [.ref s_MO, .int x1, .int x3, .int x4] h (fun r h1 => ∃ y2, r = some (.int y2) ∧ eb_KO h1 ∧ ((y2 = 0 → ((¬ x5 = 0 → eb_Sn (d + 1) m_X11_hers h 23 [(0, .ref s_MO), (1, .int x1), (2, .int x2), (3, .int x3), (4, .int x4), (5, .int x5), (6, .int 0)] [] h1 Q) ∧ (x5 = 0 → Q (some (.int 0)) h1))) ∧ (¬ (y2 = 0) → Q (some (.int 1)) h1)))) : eb_Ct (d + 1) 262 [.ref s_MO, .int x1, .int x2, .int x3, .int x4, .int x5] h Q :=
  eb_bodyQ (by decide) ok_X11_hers (Nat.le_of_ble_eq_true rfl) (b_X11_hers_0 (h0 := h) x1 x2 x3 x4 x5  ko w)
theorem b_X11_hersBy_0 {d : Nat} {h0 h : eb_H} {Q : Option Value → eb_H → Prop} (x1 : Int32) (x2 : Int32) (x3 : Int32) (x4 : Int32) (x5 : Int32) (x6 : Int32)  (ko : eb_KO h) (w : eb_Ct d 199 [.ref s_MO, .int x1, .int x3, .int x2] h (fun r h1 => ∃ y2, r = some (.int y2) ∧ eb_KO h1 ∧ ((¬ y2 = 0 → Q (some (.int 0)) h1) ∧ (y2 = 0 → eb_Ct d 200 [.ref s_MO, .int x1, .int x3] h1 (fun r h5 => ∃ y6, r = some (.int y6) ∧ eb_KO h5 ∧ eb_Ct d 264 [.ref s_MO, .int y6, .int x2, .int x4, .int x5, .int (x6 - 1)] h5 (fun r h8 => ∃ y9, r = some (.int y9) ∧ eb_KO h8 ∧ Q (some (.int (if y9 = 0 then 0 else 1 : Int32))) h8)))))) : eb_Sn (d + 1) m_X11_hersBy h0 0 [(0, .ref s_MO), (1, .int x1), (2, .int x2), (3, .int x3), (4, .int x4), (5, .int x5), (6, .int x6)] [] h Q := by
  refine eb_aload_n (pc := 0) (n := 0) (i := 0) rfl rfl rfl ?_
  refine eb_iload_n (pc := 1) (n := 1) (i := 1) rfl rfl rfl ?_
  refine eb_iload_n (pc := 2) (n := 3) (i := 3) rfl rfl rfl ?_
  refine eb_iload_n (pc := 3) (n := 2) (i := 2) rfl rfl rfl ?_
  refine eb_ctV (pc := 4) (As := [.int x1, .int x3, .int x2]) (rest := []) rfl (by decide) rfl rfl (by decide) rfl (Nat.le_of_ble_eq_true rfl) ?_
  refine eb_Ct.mono w ?_
  rintro r h1 ⟨y2, rfl, ko3, w⟩
  change eb_Sn _ _ _ 7 _ [.int y2] _ _
  refine eb_if_ne (pc := 7) (tgt := 36) rfl (by decide) (fun c4 => ?_) (fun c4 => ?_)
  · replace w := w.1 c4
    refine eb_iconst (pc := 36) (n := 0) (v := 0) rfl rfl ?_
    exact eb_ireturn (pc := 37) rfl rfl (by decide) w
  · replace w := w.2 c4
    refine eb_aload_n (pc := 10) (n := 0) (i := 0) rfl rfl rfl ?_
    refine eb_aload_n (pc := 11) (n := 0) (i := 0) rfl rfl rfl ?_
    refine eb_iload_n (pc := 12) (n := 1) (i := 1) rfl rfl rfl ?_
    refine eb_iload_n (pc := 13) (n := 3) (i := 3) rfl rfl rfl ?_
    refine eb_ctV (pc := 14) (As := [.int x1, .int x3]) (rest := [.ref s_MO]) rfl (by decide) rfl rfl (by decide) rfl (Nat.le_of_ble_eq_true rfl) ?_
    refine eb_Ct.mono w ?_
    rintro r h5 ⟨y6, rfl, ko7, w⟩
    change eb_Sn _ _ _ 17 _ [.int y6, .ref s_MO] _ _
    refine eb_iload_n (pc := 17) (n := 2) (i := 2) rfl rfl rfl ?_
    refine eb_iload (pc := 18) (i := 4) rfl rfl ?_
    refine eb_iload (pc := 20) (i := 5) rfl rfl ?_
    refine eb_iload (pc := 22) (i := 6) rfl rfl ?_
    refine eb_iconst (pc := 24) (n := 1) (v := 1) rfl rfl ?_
    refine eb_isub (pc := 25) rfl ?_
    refine eb_ctV (pc := 26) (As := [.int y6, .int x2, .int x4, .int x5, .int (x6 - 1)]) (rest := []) rfl (by decide) rfl rfl (by decide) rfl (Nat.le_of_ble_eq_true rfl) ?_
    refine eb_Ct.mono w ?_
    rintro r h8 ⟨y9, rfl, ko10, w⟩
    change eb_Sn _ _ _ 29 _ [.int y9] _ _
    have jj12 : eb_Sn (d + 1) m_X11_hersBy h0 37 [(0, .ref s_MO), (1, .int x1), (2, .int x2), (3, .int x3), (4, .int x4), (5, .int x5), (6, .int x6)] [.int (if y9 = 0 then 0 else 1 : Int32)] h8 Q := by
      exact eb_ireturn (pc := 37) rfl rfl (by (repeat' split) <;> rfl) w
    refine eb_if_eq (pc := 29) (tgt := 36) rfl (by decide) (fun c11 => ?_) (fun c11 => ?_)
    · refine eb_iconst (pc := 36) (n := 0) (v := 0) rfl rfl ?_
      simp only [if_pos c11] at jj12 ⊢
      exact jj12
    · refine eb_iconst (pc := 32) (n := 1) (v := 1) rfl rfl ?_
      refine eb_goto (pc := 33) (tgt := 37) rfl (by decide) ?_
      simp only [if_neg c11] at jj12 ⊢
      exact jj12
theorem T_X11_hersBy {d : Nat} {h : eb_H} {Q : Option Value → eb_H → Prop} (x1 : Int32) (x2 : Int32) (x3 : Int32) (x4 : Int32) (x5 : Int32) (x6 : Int32)  (ko : eb_KO h) (w : eb_Ct d 199 [.ref s_MO, .int x1, .int x3, .int x2] h (fun r h1 => ∃ y2, r = some (.int y2) ∧ eb_KO h1 ∧ ((¬ y2 = 0 → Q (some (.int 0)) h1) ∧ (y2 = 0 → eb_Ct d 200 [.ref s_MO, .int x1, .int x3] h1 (fun r h5 => ∃ y6, r = some (.int y6) ∧ eb_KO h5 ∧ eb_Ct d 264 [.ref s_MO, .int y6, .int x2, .int x4, .int x5, .int (x6 - 1)] h5 (fun r h8 => ∃ y9, r = some (.int y9) ∧ eb_KO h8 ∧ Q (some (.int (if y9 = 0 then 0 else 1 : Int32))) h8)))))) : eb_Ct (d + 1) 263 [.ref s_MO, .int x1, .int x2, .int x3, .int x4, .int x5, .int x6] h Q :=
  eb_bodyQ (by decide) ok_X11_hersBy (Nat.le_of_ble_eq_true rfl) (b_X11_hersBy_0 (h0 := h) x1 x2 x3 x4 x5 x6  ko w)
theorem b_X11_his_0 {d : Nat} {h0 h : eb_H} {Q : Option Value → eb_H → Prop} (x1 : Int32) (x2 : Int32) (x3 : Int32) (x4 : Int32) (x5 : Int32)  (ko : eb_KO h) (w : eb_Ct d 261 [.ref s_MO, .int x1, .int x3, .int x4] h (fun r h1 => ∃ y2, r = some (.int y2) ∧ eb_KO h1 ∧ ((y2 = 0 → ((x5 = 0 → Q (some (.int 0)) h1) ∧ (¬ (x5 = 0) → eb_Ct d 262 [.ref s_MO, .int x1, .int x2, .int x3, .int x4, .int x5] h1 (fun r h6 => ∃ y7, r = some (.int y7) ∧ eb_KO h6 ∧ ((¬ y7 = 0 → eb_Sn (d + 1) m_X11_his h0 37 [(0, .ref s_MO), (1, .int x1), (2, .int x2), (3, .int x3), (4, .int x4), (5, .int x5), (6, .int 0)] [] h6 Q) ∧ (y7 = 0 → Q (some (.int 0)) h6)))))) ∧ (¬ (y2 = 0) → Q (some (.int 1)) h1)))) : eb_Sn (d + 1) m_X11_his h0 0 [(0, .ref s_MO), (1, .int x1), (2, .int x2), (3, .int x3), (4, .int x4), (5, .int x5)] [] h Q := by
  refine eb_aload_n (pc := 0) (n := 0) (i := 0) rfl rfl rfl ?_
  refine eb_iload_n (pc := 1) (n := 1) (i := 1) rfl rfl rfl ?_
  refine eb_iload_n (pc := 2) (n := 3) (i := 3) rfl rfl rfl ?_
  refine eb_iload (pc := 3) (i := 4) rfl rfl ?_
  refine eb_ctV (pc := 5) (As := [.int x1, .int x3, .int x4]) (rest := []) rfl (by decide) rfl rfl (by decide) rfl (Nat.le_of_ble_eq_true rfl) ?_
  refine eb_Ct.mono w ?_
  rintro r h1 ⟨y2, rfl, ko3, w⟩
  change eb_Sn _ _ _ 8 _ [.int y2] _ _
  refine eb_if_eq (pc := 8) (tgt := 13) rfl (by decide) (fun c4 => ?_) (fun c4 => ?_)
  · replace w := w.1 c4
    refine eb_iload (pc := 13) (i := 5) rfl rfl ?_
    refine eb_if_eq (pc := 15) (tgt := 32) rfl (by decide) (fun c5 => ?_) (fun c5 => ?_)
    · replace w := w.1 c5
      refine eb_iconst (pc := 32) (n := 0) (v := 0) rfl rfl ?_
      exact eb_ireturn (pc := 33) rfl rfl (by decide) w
    · replace w := w.2 c5
      refine eb_aload_n (pc := 18) (n := 0) (i := 0) rfl rfl rfl ?_
      refine eb_iload_n (pc := 19) (n := 1) (i := 1) rfl rfl rfl ?_
      refine eb_iload_n (pc := 20) (n := 2) (i := 2) rfl rfl rfl ?_
      refine eb_iload_n (pc := 21) (n := 3) (i := 3) rfl rfl rfl ?_
      refine eb_iload (pc := 22) (i := 4) rfl rfl ?_
      refine eb_iload (pc := 24) (i := 5) rfl rfl ?_
      refine eb_ctV (pc := 26) (As := [.int x1, .int x2, .int x3, .int x4, .int x5]) (rest := []) rfl (by decide) rfl rfl (by decide) rfl (Nat.le_of_ble_eq_true rfl) ?_
      refine eb_Ct.mono w ?_
      rintro r h6 ⟨y7, rfl, ko8, w⟩
      change eb_Sn _ _ _ 29 _ [.int y7] _ _
      refine eb_if_ne (pc := 29) (tgt := 34) rfl (by decide) (fun c9 => ?_) (fun c9 => ?_)
      · replace w := w.1 c9
        refine eb_iconst (pc := 34) (n := 0) (v := 0) rfl rfl ?_
        refine eb_istore (pc := 35) (i := 6) (ls2 := [(6, .int 0), (0, .ref s_MO), (1, .int x1), (2, .int x2), (3, .int x3), (4, .int x4), (5, .int x5)]) (Nat.le_of_ble_eq_true rfl) rfl rfl ?_
        exact eb_pick [1, 2, 3, 4, 5, 6, 0] rfl w
      · replace w := w.2 c9
        refine eb_iconst (pc := 32) (n := 0) (v := 0) rfl rfl ?_
        exact eb_ireturn (pc := 33) rfl rfl (by decide) w
  · replace w := w.2 c4
    refine eb_iconst (pc := 11) (n := 1) (v := 1) rfl rfl ?_
    exact eb_ireturn (pc := 12) rfl rfl (by decide) w
theorem b_X11_his_37 {d : Nat} {h0 h : eb_H} {Q : Option Value → eb_H → Prop} (x1 : Int32) (x2 : Int32) (x3 : Int32) (x4 : Int32) (x5 : Int32) (x6 : Int32)  (ko : eb_KO h) (w : eb_Ct d 190 [.ref s_MO] h (fun r h1 => ∃ y2, r = some (.int y2) ∧ eb_KO h1 ∧ ((y2 ≤ x6 → Q (some (.int 1)) h1) ∧ (¬ (y2 ≤ x6) → ((x6 = (x1 / 64) → eb_Sn (d + 1) m_X11_his h0 37 [(0, .ref s_MO), (1, .int x1), (2, .int x2), (3, .int x3), (4, .int x4), (5, .int x5), (6, .int (x6 + 1))] [] h1 Q) ∧ (¬ (x6 = (x1 / 64)) → eb_Ct d 169 [.long x2.toInt64, .int x6] h1 (fun r h6 => ∃ y7, r = some (.int y7) ∧ eb_KO h6 ∧ ((¬ y7 = 0 → eb_Sn (d + 1) m_X11_his h0 37 [(0, .ref s_MO), (1, .int x1), (2, .int x2), (3, .int x3), (4, .int x4), (5, .int x5), (6, .int (x6 + 1))] [] h6 Q) ∧ (y7 = 0 → eb_Ct d 262 [.ref s_MO, .int x1, .int (x2 ||| ((1 : Int32) <<< (x6 &&& 31))), .int x3, .int x4, .int x5] h6 (fun r h10 => ∃ y11, r = some (.int y11) ∧ eb_KO h10 ∧ ((¬ y11 = 0 → eb_Sn (d + 1) m_X11_his h0 37 [(0, .ref s_MO), (1, .int x1), (2, .int x2), (3, .int x3), (4, .int x4), (5, .int x5), (6, .int (x6 + 1))] [] h10 Q) ∧ (y11 = 0 → Q (some (.int 0)) h10)))))))))))) : eb_Sn (d + 1) m_X11_his h0 37 [(0, .ref s_MO), (1, .int x1), (2, .int x2), (3, .int x3), (4, .int x4), (5, .int x5), (6, .int x6)] [] h Q := by
  refine eb_iload (pc := 37) (i := 6) rfl rfl ?_
  refine eb_aload_n (pc := 39) (n := 0) (i := 0) rfl rfl rfl ?_
  refine eb_ctV (pc := 40) (As := []) (rest := [.int x6]) rfl (by decide) rfl rfl (by decide) rfl (Nat.le_of_ble_eq_true rfl) ?_
  refine eb_Ct.mono w ?_
  rintro r h1 ⟨y2, rfl, ko3, w⟩
  change eb_Sn _ _ _ 43 _ [.int y2, .int x6] _ _
  refine eb_icmp_ge (pc := 43) (tgt := 92) rfl (by decide) (fun c4 => ?_) (fun c4 => ?_)
  · replace w := w.1 c4
    refine eb_iconst (pc := 92) (n := 1) (v := 1) rfl rfl ?_
    exact eb_ireturn (pc := 93) rfl rfl (by decide) w
  · replace w := w.2 c4
    refine eb_iload (pc := 46) (i := 6) rfl rfl ?_
    refine eb_iload_n (pc := 48) (n := 1) (i := 1) rfl rfl rfl ?_
    refine eb_bipush (pc := 49) (n := 64) (v := 64) rfl rfl ?_
    refine eb_idiv (pc := 51) (by decide) rfl ?_
    refine eb_icmp_eq (pc := 52) (tgt := 86) rfl (by decide) (fun c5 => ?_) (fun c5 => ?_)
    · replace w := w.1 c5
      refine eb_iinc (pc := 86) (i := 6) (n := 1) (v := x6 + 1) (ls2 := [(6, .int (x6 + 1)), (0, .ref s_MO), (1, .int x1), (2, .int x2), (3, .int x3), (4, .int x4), (5, .int x5)]) (Nat.le_of_ble_eq_true rfl) rfl rfl rfl rfl ?_
      refine eb_goto (pc := 89) (tgt := 37) rfl (by decide) ?_
      exact eb_pick [1, 2, 3, 4, 5, 6, 0] rfl w
    · replace w := w.2 c5
      refine eb_iload_n (pc := 55) (n := 2) (i := 2) rfl rfl rfl ?_
      refine eb_i2l (pc := 56) rfl ?_
      refine eb_iload (pc := 57) (i := 6) rfl rfl ?_
      refine eb_ctS (pc := 59) (As := [.long x2.toInt64, .int x6]) (rest := []) rfl (by decide) (by decide) rfl rfl (Nat.le_of_ble_eq_true rfl) ?_
      refine eb_Ct.mono w ?_
      rintro r h6 ⟨y7, rfl, ko8, w⟩
      change eb_Sn _ _ _ 62 _ [.int y7] _ _
      refine eb_if_ne (pc := 62) (tgt := 86) rfl (by decide) (fun c9 => ?_) (fun c9 => ?_)
      · replace w := w.1 c9
        refine eb_iinc (pc := 86) (i := 6) (n := 1) (v := x6 + 1) (ls2 := [(6, .int (x6 + 1)), (0, .ref s_MO), (1, .int x1), (2, .int x2), (3, .int x3), (4, .int x4), (5, .int x5)]) (Nat.le_of_ble_eq_true rfl) rfl rfl rfl rfl ?_
        refine eb_goto (pc := 89) (tgt := 37) rfl (by decide) ?_
        exact eb_pick [1, 2, 3, 4, 5, 6, 0] rfl w
      · replace w := w.2 c9
        refine eb_aload_n (pc := 65) (n := 0) (i := 0) rfl rfl rfl ?_
        refine eb_iload_n (pc := 66) (n := 1) (i := 1) rfl rfl rfl ?_
        refine eb_iload_n (pc := 67) (n := 2) (i := 2) rfl rfl rfl ?_
        refine eb_iconst (pc := 68) (n := 1) (v := 1) rfl rfl ?_
        refine eb_iload (pc := 69) (i := 6) rfl rfl ?_
        refine eb_ishl (pc := 71) rfl ?_
        refine eb_ior (pc := 72) rfl ?_
        refine eb_iload_n (pc := 73) (n := 3) (i := 3) rfl rfl rfl ?_
        refine eb_iload (pc := 74) (i := 4) rfl rfl ?_
        refine eb_iload (pc := 76) (i := 5) rfl rfl ?_
        refine eb_ctV (pc := 78) (As := [.int x1, .int (x2 ||| ((1 : Int32) <<< (x6 &&& 31))), .int x3, .int x4, .int x5]) (rest := []) rfl (by decide) rfl rfl (by decide) rfl (Nat.le_of_ble_eq_true rfl) ?_
        refine eb_Ct.mono w ?_
        rintro r h10 ⟨y11, rfl, ko12, w⟩
        change eb_Sn _ _ _ 81 _ [.int y11] _ _
        refine eb_if_ne (pc := 81) (tgt := 86) rfl (by decide) (fun c13 => ?_) (fun c13 => ?_)
        · replace w := w.1 c13
          refine eb_iinc (pc := 86) (i := 6) (n := 1) (v := x6 + 1) (ls2 := [(6, .int (x6 + 1)), (0, .ref s_MO), (1, .int x1), (2, .int x2), (3, .int x3), (4, .int x4), (5, .int x5)]) (Nat.le_of_ble_eq_true rfl) rfl rfl rfl rfl ?_
          refine eb_goto (pc := 89) (tgt := 37) rfl (by decide) ?_
          exact eb_pick [1, 2, 3, 4, 5, 6, 0] rfl w
        · replace w := w.2 c13
          refine eb_iconst (pc := 84) (n := 0) (v := 0) rfl rfl ?_
          exact eb_ireturn (pc := 85) rfl rfl (by decide) w
theorem T_X11_his {d : Nat} {h : eb_H} {Q : Option Value → eb_H → Prop} (x1 : Int32) (x2 : Int32) (x3 : Int32) (x4 : Int32) (x5 : Int32)  (ko : eb_KO h) (w : eb_Ct d 261 [.ref s_MO, .int x1, .int x3, .int x4] h (fun r h1 => ∃ y2, r = some (.int y2) ∧ eb_KO h1 ∧ ((y2 = 0 → ((x5 = 0 → Q (some (.int 0)) h1) ∧ (¬ (x5 = 0) → eb_Ct d 262 [.ref s_MO, .int x1, .int x2, .int x3, .int x4, .int x5] h1 (fun r h6 => ∃ y7, r = some (.int y7) ∧ eb_KO h6 ∧ ((¬ y7 = 0 → eb_Sn (d + 1) m_X11_his h 37 [(0, .ref s_MO), (1, .int x1), (2, .int x2), (3, .int x3), (4, .int x4), (5, .int x5), (6, .int 0)] [] h6 Q) ∧ (y7 = 0 → Q (some (.int 0)) h6)))))) ∧ (¬ (y2 = 0) → Q (some (.int 1)) h1)))) : eb_Ct (d + 1) 264 [.ref s_MO, .int x1, .int x2, .int x3, .int x4, .int x5] h Q :=
  eb_bodyQ (by decide) ok_X11_his (Nat.le_of_ble_eq_true rfl) (b_X11_his_0 (h0 := h) x1 x2 x3 x4 x5  ko w)
theorem b_X11_forcedIn_0 {d : Nat} {h0 h : eb_H} {Q : Option Value → eb_H → Prop} (x1 : Int32) (x2 : Int32)  (ko : eb_KO h) (w : eb_Sn (d + 1) m_X11_forcedIn h0 2 [(0, .ref s_MO), (1, .int x1), (2, .int x2), (3, .int 0)] [] h Q) : eb_Sn (d + 1) m_X11_forcedIn h0 0 [(0, .ref s_MO), (1, .int x1), (2, .int x2)] [] h Q := by
  refine eb_iconst (pc := 0) (n := 0) (v := 0) rfl rfl ?_
  refine eb_istore_n (pc := 1) (n := 3) (i := 3) (ls2 := [(3, .int 0), (0, .ref s_MO), (1, .int x1), (2, .int x2)]) rfl (Nat.le_of_ble_eq_true rfl) rfl rfl ?_
  exact eb_pick [1, 2, 3, 0] rfl w
theorem b_X11_forcedIn_2 {d : Nat} {h0 h : eb_H} {Q : Option Value → eb_H → Prop} (x1 : Int32) (x2 : Int32) (x3 : Int32)  (ko : eb_KO h) (w : (((3 : Int32) < x3 → Q (some (.int (-1))) h) ∧ (¬ ((3 : Int32) < x3) → eb_Ct d 195 [.ref s_MO] h (fun r h2 => ∃ y3, r = some (.int y3) ∧ eb_KO h2 ∧ eb_Ct d 262 [.ref s_MO, .int y3, .int (eb_I h2 s_m_all (50 : Int32).toNatClampNeg), .int x1, .int x2, .int x3] h2 (fun r h5 => ∃ y6, r = some (.int y6) ∧ eb_KO h5 ∧ ((y6 = 0 → eb_Sn (d + 1) m_X11_forcedIn h0 2 [(0, .ref s_MO), (1, .int x1), (2, .int x2), (3, .int (x3 + 1))] [] h5 Q) ∧ (¬ (y6 = 0) → Q (some (.int x3)) h5))))))) : eb_Sn (d + 1) m_X11_forcedIn h0 2 [(0, .ref s_MO), (1, .int x1), (2, .int x2), (3, .int x3)] [] h Q := by
  refine eb_iload_n (pc := 2) (n := 3) (i := 3) rfl rfl rfl ?_
  refine eb_iconst (pc := 3) (n := 3) (v := 3) rfl rfl ?_
  refine eb_icmp_gt (pc := 4) (tgt := 36) rfl (by decide) (fun c1 => ?_) (fun c1 => ?_)
  · replace w := w.1 c1
    refine eb_iconst (pc := 36) (n := -1) (v := (-1)) rfl rfl ?_
    exact eb_ireturn (pc := 37) rfl rfl rfl w
  · replace w := w.2 c1
    refine eb_aload_n (pc := 7) (n := 0) (i := 0) rfl rfl rfl ?_
    refine eb_aload_n (pc := 8) (n := 0) (i := 0) rfl rfl rfl ?_
    refine eb_ctV (pc := 9) (As := []) (rest := [.ref s_MO]) rfl (by decide) rfl rfl (by decide) rfl (Nat.le_of_ble_eq_true rfl) ?_
    refine eb_Ct.mono w ?_
    rintro r h2 ⟨y3, rfl, ko4, w⟩
    change eb_Sn _ _ _ 12 _ [.int y3, .ref s_MO] _ _
    refine eb_aload_n (pc := 12) (n := 0) (i := 0) rfl rfl rfl ?_
    refine eb_getR (pc := 13) rfl rfl (by decide) (by decide) rfl (ko_s_MO_1 ko4) ?_
    refine eb_bipush (pc := 16) (n := 50) (v := 50) rfl rfl ?_
    refine eb_iaload (pc := 18) rfl rfl (by unfold vp_in; decide) ?_
    refine eb_iload_n (pc := 19) (n := 1) (i := 1) rfl rfl rfl ?_
    refine eb_iload_n (pc := 20) (n := 2) (i := 2) rfl rfl rfl ?_
    refine eb_iload_n (pc := 21) (n := 3) (i := 3) rfl rfl rfl ?_
    refine eb_ctV (pc := 22) (As := [.int y3, .int (eb_I h2 s_m_all (50 : Int32).toNatClampNeg), .int x1, .int x2, .int x3]) (rest := []) rfl (by decide) rfl rfl (by decide) rfl (Nat.le_of_ble_eq_true rfl) ?_
    refine eb_Ct.mono w ?_
    rintro r h5 ⟨y6, rfl, ko7, w⟩
    change eb_Sn _ _ _ 25 _ [.int y6] _ _
    refine eb_if_eq (pc := 25) (tgt := 30) rfl (by decide) (fun c8 => ?_) (fun c8 => ?_)
    · replace w := w.1 c8
      refine eb_iinc (pc := 30) (i := 3) (n := 1) (v := x3 + 1) (ls2 := [(3, .int (x3 + 1)), (0, .ref s_MO), (1, .int x1), (2, .int x2)]) (Nat.le_of_ble_eq_true rfl) rfl rfl rfl rfl ?_
      refine eb_goto (pc := 33) (tgt := 2) rfl (by decide) ?_
      exact eb_pick [1, 2, 3, 0] rfl w
    · replace w := w.2 c8
      refine eb_iload_n (pc := 28) (n := 3) (i := 3) rfl rfl rfl ?_
      exact eb_ireturn (pc := 29) rfl rfl rfl w
theorem T_X11_forcedIn {d : Nat} {h : eb_H} {Q : Option Value → eb_H → Prop} (x1 : Int32) (x2 : Int32)  (ko : eb_KO h) (w : eb_Sn (d + 1) m_X11_forcedIn h 2 [(0, .ref s_MO), (1, .int x1), (2, .int x2), (3, .int 0)] [] h Q) : eb_Ct (d + 1) 265 [.ref s_MO, .int x1, .int x2] h Q :=
  eb_bodyQ (by decide) ok_X11_forcedIn (Nat.le_of_ble_eq_true rfl) (b_X11_forcedIn_0 (h0 := h) x1 x2  ko w)
theorem b_X11_noForce_0 {d : Nat} {h0 h : eb_H} {Q : Option Value → eb_H → Prop} (x1 : Int32) (x2 : Int32)  (ko : eb_KO h) (w : eb_Ct d 192 [.ref s_MO, .int x1] h (fun r h1 => ∃ y2, r = some (.int y2) ∧ eb_KO h1 ∧ ((¬ y2 = 0 → eb_Ct d 193 [.int x2] h1 (fun r h5 => ∃ y6, r = some (.int y6) ∧ eb_KO h5 ∧ Q (some (.int (if y6 = 0 then (-3) else 0 : Int32))) h5)) ∧ (y2 = 0 → Q (some (.int (-2))) h1)))) : eb_Sn (d + 1) m_X11_noForce h0 0 [(0, .ref s_MO), (1, .int x1), (2, .int x2)] [] h Q := by
  refine eb_aload_n (pc := 0) (n := 0) (i := 0) rfl rfl rfl ?_
  refine eb_iload_n (pc := 1) (n := 1) (i := 1) rfl rfl rfl ?_
  refine eb_ctV (pc := 2) (As := [.int x1]) (rest := []) rfl (by decide) rfl rfl (by decide) rfl (Nat.le_of_ble_eq_true rfl) ?_
  refine eb_Ct.mono w ?_
  rintro r h1 ⟨y2, rfl, ko3, w⟩
  change eb_Sn _ _ _ 5 _ [.int y2] _ _
  refine eb_if_ne (pc := 5) (tgt := 13) rfl (by decide) (fun c4 => ?_) (fun c4 => ?_)
  · replace w := w.1 c4
    refine eb_iload_n (pc := 13) (n := 2) (i := 2) rfl rfl rfl ?_
    refine eb_ctS (pc := 14) (As := [.int x2]) (rest := []) rfl (by decide) (by decide) rfl rfl (Nat.le_of_ble_eq_true rfl) ?_
    refine eb_Ct.mono w ?_
    rintro r h5 ⟨y6, rfl, ko7, w⟩
    change eb_Sn _ _ _ 17 _ [.int y6] _ _
    have jj9 : eb_Sn (d + 1) m_X11_noForce h0 26 [(0, .ref s_MO), (1, .int x1), (2, .int x2)] [.int (if y6 = 0 then (-3) else 0 : Int32)] h5 Q := by
      exact eb_ireturn (pc := 26) rfl rfl rfl w
    refine eb_if_eq (pc := 17) (tgt := 24) rfl (by decide) (fun c8 => ?_) (fun c8 => ?_)
    · refine eb_bipush (pc := 24) (n := -3) (v := (-3)) rfl rfl ?_
      simp only [if_pos c8] at jj9 ⊢
      exact jj9
    · refine eb_iconst (pc := 20) (n := 0) (v := 0) rfl rfl ?_
      refine eb_goto (pc := 21) (tgt := 26) rfl (by decide) ?_
      simp only [if_neg c8] at jj9 ⊢
      exact jj9
  · replace w := w.2 c4
    refine eb_bipush (pc := 8) (n := -2) (v := (-2)) rfl rfl ?_
    refine eb_goto (pc := 10) (tgt := 26) rfl (by decide) ?_
    exact eb_ireturn (pc := 26) rfl rfl rfl w
theorem T_X11_noForce {d : Nat} {h : eb_H} {Q : Option Value → eb_H → Prop} (x1 : Int32) (x2 : Int32)  (ko : eb_KO h) (w : eb_Ct d 192 [.ref s_MO, .int x1] h (fun r h1 => ∃ y2, r = some (.int y2) ∧ eb_KO h1 ∧ ((¬ y2 = 0 → eb_Ct d 193 [.int x2] h1 (fun r h5 => ∃ y6, r = some (.int y6) ∧ eb_KO h5 ∧ Q (some (.int (if y6 = 0 then (-3) else 0 : Int32))) h5)) ∧ (y2 = 0 → Q (some (.int (-2))) h1)))) : eb_Ct (d + 1) 266 [.ref s_MO, .int x1, .int x2] h Q :=
  eb_bodyQ (by decide) ok_X11_noForce (Nat.le_of_ble_eq_true rfl) (b_X11_noForce_0 (h0 := h) x1 x2  ko w)
theorem b_X11_forces_0 {d : Nat} {h0 h : eb_H} {Q : Option Value → eb_H → Prop} (x1 : Int32) (x2 : Int32)  (ko : eb_KO h) (w : eb_Ct d 266 [.ref s_MO, .int x1, .int x2] (eb_sI h s_MO 0 0) (fun r h1 => ∃ y2, r = some (.int y2) ∧ eb_KO h1 ∧ ((y2 = 0 → eb_Ct d 265 [.ref s_MO, .int x1, .int x2] h1 (fun r h5 => ∃ y6, r = some (.int y6) ∧ eb_KO h5 ∧ Q (some (.int y6)) h5)) ∧ (¬ (y2 = 0) → Q (some (.int y2)) h1)))) : eb_Sn (d + 1) m_X11_forces h0 0 [(0, .ref s_MO), (1, .int x1), (2, .int x2)] [] h Q := by
  refine eb_aload_n (pc := 0) (n := 0) (i := 0) rfl rfl rfl ?_
  refine eb_iconst (pc := 1) (n := 0) (v := 0) rfl rfl ?_
  refine eb_putI (pc := 2) rfl rfl (by decide) (by decide) rfl rfl ⟨rfl, rfl⟩ ?_
  refine eb_aload_n (pc := 5) (n := 0) (i := 0) rfl rfl rfl ?_
  refine eb_iload_n (pc := 6) (n := 1) (i := 1) rfl rfl rfl ?_
  refine eb_iload_n (pc := 7) (n := 2) (i := 2) rfl rfl rfl ?_
  refine eb_ctV (pc := 8) (As := [.int x1, .int x2]) (rest := []) rfl (by decide) rfl rfl (by decide) rfl (Nat.le_of_ble_eq_true rfl) ?_
  refine eb_Ct.mono w ?_
  rintro r h1 ⟨y2, rfl, ko3, w⟩
  change eb_Sn _ _ _ 11 _ [.int y2] _ _
  refine eb_istore_n (pc := 11) (n := 3) (i := 3) (ls2 := [(3, .int y2), (0, .ref s_MO), (1, .int x1), (2, .int x2)]) rfl (Nat.le_of_ble_eq_true rfl) rfl rfl ?_
  refine eb_iload_n (pc := 12) (n := 3) (i := 3) rfl rfl rfl ?_
  refine eb_if_eq (pc := 13) (tgt := 20) rfl (by decide) (fun c4 => ?_) (fun c4 => ?_)
  · replace w := w.1 c4
    refine eb_aload_n (pc := 20) (n := 0) (i := 0) rfl rfl rfl ?_
    refine eb_iload_n (pc := 21) (n := 1) (i := 1) rfl rfl rfl ?_
    refine eb_iload_n (pc := 22) (n := 2) (i := 2) rfl rfl rfl ?_
    refine eb_ctV (pc := 23) (As := [.int x1, .int x2]) (rest := []) rfl (by decide) rfl rfl (by decide) rfl (Nat.le_of_ble_eq_true rfl) ?_
    refine eb_Ct.mono w ?_
    rintro r h5 ⟨y6, rfl, ko7, w⟩
    change eb_Sn _ _ _ 26 _ [.int y6] _ _
    exact eb_ireturn (pc := 26) rfl rfl rfl w
  · replace w := w.2 c4
    refine eb_iload_n (pc := 16) (n := 3) (i := 3) rfl rfl rfl ?_
    refine eb_goto (pc := 17) (tgt := 26) rfl (by decide) ?_
    exact eb_ireturn (pc := 26) rfl rfl rfl w
theorem T_X11_forces {d : Nat} {h : eb_H} {Q : Option Value → eb_H → Prop} (x1 : Int32) (x2 : Int32)  (ko : eb_KO h) (w : eb_Ct d 266 [.ref s_MO, .int x1, .int x2] (eb_sI h s_MO 0 0) (fun r h1 => ∃ y2, r = some (.int y2) ∧ eb_KO h1 ∧ ((y2 = 0 → eb_Ct d 265 [.ref s_MO, .int x1, .int x2] h1 (fun r h5 => ∃ y6, r = some (.int y6) ∧ eb_KO h5 ∧ Q (some (.int y6)) h5)) ∧ (¬ (y2 = 0) → Q (some (.int y2)) h1)))) : eb_Ct (d + 1) 267 [.ref s_MO, .int x1, .int x2] h Q :=
  eb_bodyQ (by decide) ok_X11_forces (Nat.le_of_ble_eq_true rfl) (b_X11_forces_0 (h0 := h) x1 x2  ko w)
theorem b_X11_best_0 {d : Nat} {h0 h : eb_H} {Q : Option Value → eb_H → Prop} (x1 : Int32) (x2 : Int32)  (ko : eb_KO h) (w : eb_Ct d 266 [.ref s_MO, .int x1, .int x2] (eb_sI h s_MO 0 0) (fun r h1 => ∃ y2, r = some (.int y2) ∧ eb_KO h1 ∧ ((y2 = 0 → eb_Ct d 265 [.ref s_MO, .int x1, .int x2] h1 (fun r h5 => ∃ y6, r = some (.int y6) ∧ eb_KO h5 ∧ (((1 : Int32) ≤ y6 → eb_Sn (d + 1) m_X11_best h0 37 [(0, .ref s_MO), (1, .int x1), (2, .int x2), (4, .int y6), (5, .int 0)] [] h5 Q) ∧ (¬ ((1 : Int32) ≤ y6) → Q (some (.int (-1))) h5)))) ∧ (¬ (y2 = 0) → Q (some (.int y2)) h1)))) : eb_Sn (d + 1) m_X11_best h0 0 [(0, .ref s_MO), (1, .int x1), (2, .int x2)] [] h Q := by
  refine eb_aload_n (pc := 0) (n := 0) (i := 0) rfl rfl rfl ?_
  refine eb_iconst (pc := 1) (n := 0) (v := 0) rfl rfl ?_
  refine eb_putI (pc := 2) rfl rfl (by decide) (by decide) rfl rfl ⟨rfl, rfl⟩ ?_
  refine eb_aload_n (pc := 5) (n := 0) (i := 0) rfl rfl rfl ?_
  refine eb_iload_n (pc := 6) (n := 1) (i := 1) rfl rfl rfl ?_
  refine eb_iload_n (pc := 7) (n := 2) (i := 2) rfl rfl rfl ?_
  refine eb_ctV (pc := 8) (As := [.int x1, .int x2]) (rest := []) rfl (by decide) rfl rfl (by decide) rfl (Nat.le_of_ble_eq_true rfl) ?_
  refine eb_Ct.mono w ?_
  rintro r h1 ⟨y2, rfl, ko3, w⟩
  change eb_Sn _ _ _ 11 _ [.int y2] _ _
  refine eb_istore_n (pc := 11) (n := 3) (i := 3) (ls2 := [(3, .int y2), (0, .ref s_MO), (1, .int x1), (2, .int x2)]) rfl (Nat.le_of_ble_eq_true rfl) rfl rfl ?_
  refine eb_iload_n (pc := 12) (n := 3) (i := 3) rfl rfl rfl ?_
  refine eb_if_eq (pc := 13) (tgt := 18) rfl (by decide) (fun c4 => ?_) (fun c4 => ?_)
  · replace w := w.1 c4
    refine eb_aload_n (pc := 18) (n := 0) (i := 0) rfl rfl rfl ?_
    refine eb_iload_n (pc := 19) (n := 1) (i := 1) rfl rfl rfl ?_
    refine eb_iload_n (pc := 20) (n := 2) (i := 2) rfl rfl rfl ?_
    refine eb_ctV (pc := 21) (As := [.int x1, .int x2]) (rest := []) rfl (by decide) rfl rfl (by decide) rfl (Nat.le_of_ble_eq_true rfl) ?_
    refine eb_Ct.mono w ?_
    rintro r h5 ⟨y6, rfl, ko7, w⟩
    change eb_Sn _ _ _ 24 _ [.int y6] _ _
    refine eb_istore (pc := 24) (i := 4) (ls2 := [(4, .int y6), (3, .int y2), (0, .ref s_MO), (1, .int x1), (2, .int x2)]) (Nat.le_of_ble_eq_true rfl) rfl rfl ?_
    refine eb_iload (pc := 26) (i := 4) rfl rfl ?_
    refine eb_iconst (pc := 28) (n := 1) (v := 1) rfl rfl ?_
    refine eb_icmp_ge (pc := 29) (tgt := 34) rfl (by decide) (fun c8 => ?_) (fun c8 => ?_)
    · replace w := w.1 c8
      refine eb_iconst (pc := 34) (n := 0) (v := 0) rfl rfl ?_
      refine eb_istore (pc := 35) (i := 5) (ls2 := [(5, .int 0), (4, .int y6), (3, .int y2), (0, .ref s_MO), (1, .int x1), (2, .int x2)]) (Nat.le_of_ble_eq_true rfl) rfl rfl ?_
      exact eb_pick [3, 4, 5, 1, 0] rfl w
    · replace w := w.2 c8
      refine eb_iconst (pc := 32) (n := -1) (v := (-1)) rfl rfl ?_
      exact eb_ireturn (pc := 33) rfl rfl rfl w
  · replace w := w.2 c4
    refine eb_iload_n (pc := 16) (n := 3) (i := 3) rfl rfl rfl ?_
    exact eb_ireturn (pc := 17) rfl rfl rfl w
theorem b_X11_best_37 {d : Nat} {h0 h : eb_H} {Q : Option Value → eb_H → Prop} (x1 : Int32) (x2 : Int32) (x4 : Int32) (x5 : Int32)  (ko : eb_KO h) (w : (((4 : Int32) ≤ x5 → Q (some (.int 99)) h) ∧ (¬ ((4 : Int32) ≤ x5) → eb_Ct d 195 [.ref s_MO] h (fun r h2 => ∃ y3, r = some (.int y3) ∧ eb_KO h2 ∧ eb_Ct d 263 [.ref s_MO, .int y3, .int (eb_I h2 s_m_all (50 : Int32).toNatClampNeg), .int x5, .int x1, .int x2, .int x4] h2 (fun r h5 => ∃ y6, r = some (.int y6) ∧ eb_KO h5 ∧ ((y6 = 0 → eb_Sn (d + 1) m_X11_best h0 37 [(0, .ref s_MO), (1, .int x1), (2, .int x2), (4, .int x4), (5, .int (x5 + 1))] [] h5 Q) ∧ (¬ (y6 = 0) → Q (some (.int x5)) h5))))))) : eb_Sn (d + 1) m_X11_best h0 37 [(0, .ref s_MO), (1, .int x1), (2, .int x2), (4, .int x4), (5, .int x5)] [] h Q := by
  refine eb_iload (pc := 37) (i := 5) rfl rfl ?_
  refine eb_iconst (pc := 39) (n := 4) (v := 4) rfl rfl ?_
  refine eb_icmp_ge (pc := 40) (tgt := 76) rfl (by decide) (fun c1 => ?_) (fun c1 => ?_)
  · replace w := w.1 c1
    refine eb_bipush (pc := 76) (n := 99) (v := 99) rfl rfl ?_
    exact eb_ireturn (pc := 78) rfl rfl rfl w
  · replace w := w.2 c1
    refine eb_aload_n (pc := 43) (n := 0) (i := 0) rfl rfl rfl ?_
    refine eb_aload_n (pc := 44) (n := 0) (i := 0) rfl rfl rfl ?_
    refine eb_ctV (pc := 45) (As := []) (rest := [.ref s_MO]) rfl (by decide) rfl rfl (by decide) rfl (Nat.le_of_ble_eq_true rfl) ?_
    refine eb_Ct.mono w ?_
    rintro r h2 ⟨y3, rfl, ko4, w⟩
    change eb_Sn _ _ _ 48 _ [.int y3, .ref s_MO] _ _
    refine eb_aload_n (pc := 48) (n := 0) (i := 0) rfl rfl rfl ?_
    refine eb_getR (pc := 49) rfl rfl (by decide) (by decide) rfl (ko_s_MO_1 ko4) ?_
    refine eb_bipush (pc := 52) (n := 50) (v := 50) rfl rfl ?_
    refine eb_iaload (pc := 54) rfl rfl (by unfold vp_in; decide) ?_
    refine eb_iload (pc := 55) (i := 5) rfl rfl ?_
    refine eb_iload_n (pc := 57) (n := 1) (i := 1) rfl rfl rfl ?_
    refine eb_iload_n (pc := 58) (n := 2) (i := 2) rfl rfl rfl ?_
    refine eb_iload (pc := 59) (i := 4) rfl rfl ?_
    refine eb_ctV (pc := 61) (As := [.int y3, .int (eb_I h2 s_m_all (50 : Int32).toNatClampNeg), .int x5, .int x1, .int x2, .int x4]) (rest := []) rfl (by decide) rfl rfl (by decide) rfl (Nat.le_of_ble_eq_true rfl) ?_
    refine eb_Ct.mono w ?_
    rintro r h5 ⟨y6, rfl, ko7, w⟩
    change eb_Sn _ _ _ 64 _ [.int y6] _ _
    refine eb_if_eq (pc := 64) (tgt := 70) rfl (by decide) (fun c8 => ?_) (fun c8 => ?_)
    · replace w := w.1 c8
      refine eb_iinc (pc := 70) (i := 5) (n := 1) (v := x5 + 1) (ls2 := [(5, .int (x5 + 1)), (0, .ref s_MO), (1, .int x1), (2, .int x2), (4, .int x4)]) (Nat.le_of_ble_eq_true rfl) rfl rfl rfl rfl ?_
      refine eb_goto (pc := 73) (tgt := 37) rfl (by decide) ?_
      exact eb_pick [1, 2, 3, 4, 0] rfl w
    · replace w := w.2 c8
      refine eb_iload (pc := 67) (i := 5) rfl rfl ?_
      exact eb_ireturn (pc := 69) rfl rfl rfl w
theorem T_X11_best {d : Nat} {h : eb_H} {Q : Option Value → eb_H → Prop} (x1 : Int32) (x2 : Int32)  (ko : eb_KO h) (w : eb_Ct d 266 [.ref s_MO, .int x1, .int x2] (eb_sI h s_MO 0 0) (fun r h1 => ∃ y2, r = some (.int y2) ∧ eb_KO h1 ∧ ((y2 = 0 → eb_Ct d 265 [.ref s_MO, .int x1, .int x2] h1 (fun r h5 => ∃ y6, r = some (.int y6) ∧ eb_KO h5 ∧ (((1 : Int32) ≤ y6 → eb_Sn (d + 1) m_X11_best h 37 [(0, .ref s_MO), (1, .int x1), (2, .int x2), (4, .int y6), (5, .int 0)] [] h5 Q) ∧ (¬ ((1 : Int32) ≤ y6) → Q (some (.int (-1))) h5)))) ∧ (¬ (y2 = 0) → Q (some (.int y2)) h1)))) : eb_Ct (d + 1) 268 [.ref s_MO, .int x1, .int x2] h Q :=
  eb_bodyQ (by decide) ok_X11_best (Nat.le_of_ble_eq_true rfl) (b_X11_best_0 (h0 := h) x1 x2  ko w)
theorem b_X11_wholeOf_0 {d : Nat} {h0 h : eb_H} {Q : Option Value → eb_H → Prop} (x0 : Int32)  (ko : eb_KO h) (w : Q (some (.int ((1 : Int32) <<< (((2 : Int32) * x0) &&& 31)))) h) : eb_Sn d m_X11_wholeOf h0 0 [(0, .int x0)] [] h Q := by
  refine eb_iconst (pc := 0) (n := 1) (v := 1) rfl rfl ?_
  refine eb_iconst (pc := 1) (n := 2) (v := 2) rfl rfl ?_
  refine eb_iload_n (pc := 2) (n := 0) (i := 0) rfl rfl rfl ?_
  refine eb_imul (pc := 3) rfl ?_
  refine eb_ishl (pc := 4) rfl ?_
  exact eb_ireturn (pc := 5) rfl rfl rfl w
theorem T_X11_wholeOf {d : Nat} {h : eb_H} {Q : Option Value → eb_H → Prop} (x0 : Int32)  (ko : eb_KO h) (w : Q (some (.int ((1 : Int32) <<< (((2 : Int32) * x0) &&& 31)))) h) : eb_Ct d 269 [.int x0] h Q :=
  eb_bodyQ (by decide) ok_X11_wholeOf (Nat.le_of_ble_eq_true rfl) (b_X11_wholeOf_0 (h0 := h) x0  ko w)
theorem b_X11_laysLikely_0 {d : Nat} {h0 h : eb_H} {Q : Option Value → eb_H → Prop} (x1 : Int32)  (ko : eb_KO h) (w : eb_Ct d 237 [.ref s_MO] h (fun r h1 => r = none ∧ eb_KO h1 ∧ eb_Sn (d + 1) m_X11_laysLikely h0 6 [(0, .ref s_MO), (1, .int x1), (2, .int 0)] [] h1 Q)) : eb_Sn (d + 1) m_X11_laysLikely h0 0 [(0, .ref s_MO), (1, .int x1)] [] h Q := by
  refine eb_aload_n (pc := 0) (n := 0) (i := 0) rfl rfl rfl ?_
  refine eb_ctV (pc := 1) (As := []) (rest := []) rfl (by decide) rfl rfl (by decide) rfl (Nat.le_of_ble_eq_true rfl) ?_
  refine eb_Ct.mono w ?_
  rintro r h1 ⟨rfl, ko3, w⟩
  change eb_Sn _ _ _ 4 _ [] _ _
  refine eb_iconst (pc := 4) (n := 0) (v := 0) rfl rfl ?_
  refine eb_istore_n (pc := 5) (n := 2) (i := 2) (ls2 := [(2, .int 0), (0, .ref s_MO), (1, .int x1)]) rfl (Nat.le_of_ble_eq_true rfl) rfl rfl ?_
  exact eb_pick [1, 2, 0] rfl w
theorem b_X11_laysLikely_6 {d : Nat} {h0 h : eb_H} {Q : Option Value → eb_H → Prop} (x1 : Int32) (x2 : Int32)  (ko : eb_KO h) (w : ((x1 ≤ x2 → Q none h) ∧ (¬ (x1 ≤ x2) → eb_Ct d 238 [.ref s_MO, .int 1] h (fun r h2 => r = none ∧ eb_KO h2 ∧ eb_Sn (d + 1) m_X11_laysLikely h0 6 [(0, .ref s_MO), (1, .int x1), (2, .int (x2 + 1))] [] h2 Q)))) : eb_Sn (d + 1) m_X11_laysLikely h0 6 [(0, .ref s_MO), (1, .int x1), (2, .int x2)] [] h Q := by
  refine eb_iload_n (pc := 6) (n := 2) (i := 2) rfl rfl rfl ?_
  refine eb_iload_n (pc := 7) (n := 1) (i := 1) rfl rfl rfl ?_
  refine eb_icmp_ge (pc := 8) (tgt := 22) rfl (by decide) (fun c1 => ?_) (fun c1 => ?_)
  · replace w := w.1 c1
    exact eb_return (pc := 22) rfl rfl w
  · replace w := w.2 c1
    refine eb_aload_n (pc := 11) (n := 0) (i := 0) rfl rfl rfl ?_
    refine eb_iconst (pc := 12) (n := 1) (v := 1) rfl rfl ?_
    refine eb_ctV (pc := 13) (As := [.int 1]) (rest := []) rfl (by decide) rfl rfl (by decide) rfl (Nat.le_of_ble_eq_true rfl) ?_
    refine eb_Ct.mono w ?_
    rintro r h2 ⟨rfl, ko4, w⟩
    change eb_Sn _ _ _ 16 _ [] _ _
    refine eb_iinc (pc := 16) (i := 2) (n := 1) (v := x2 + 1) (ls2 := [(2, .int (x2 + 1)), (0, .ref s_MO), (1, .int x1)]) (Nat.le_of_ble_eq_true rfl) rfl rfl rfl rfl ?_
    refine eb_goto (pc := 19) (tgt := 6) rfl (by decide) ?_
    exact eb_pick [1, 2, 0] rfl w
theorem T_X11_laysLikely {d : Nat} {h : eb_H} {Q : Option Value → eb_H → Prop} (x1 : Int32)  (ko : eb_KO h) (w : eb_Ct d 237 [.ref s_MO] h (fun r h1 => r = none ∧ eb_KO h1 ∧ eb_Sn (d + 1) m_X11_laysLikely h 6 [(0, .ref s_MO), (1, .int x1), (2, .int 0)] [] h1 Q)) : eb_Ct (d + 1) 270 [.ref s_MO, .int x1] h Q :=
  eb_bodyQ (by decide) ok_X11_laysLikely (Nat.le_of_ble_eq_true rfl) (b_X11_laysLikely_0 (h0 := h) x1  ko w)
theorem b_X11_common_0 {d : Nat} {h0 h : eb_H} {Q : Option Value → eb_H → Prop} (x0 : Int32) (x1 : Int32)  (ko : eb_KO h) (w : ((¬ x1 = 0 → (¬ x1 = 0) ∧ eb_Ct d 271 [.int x1, .int (x0 - x0 / x1 * x1)] h (fun r h3 => ∃ y4, r = some (.int y4) ∧ eb_KO h3 ∧ Q (some (.int y4)) h3)) ∧ (x1 = 0 → Q (some (.int x0)) h))) : eb_Sn (d + 1) m_X11_common h0 0 [(0, .int x0), (1, .int x1)] [] h Q := by
  refine eb_iload_n (pc := 0) (n := 1) (i := 1) rfl rfl rfl ?_
  refine eb_if_ne (pc := 1) (tgt := 8) rfl (by decide) (fun c1 => ?_) (fun c1 => ?_)
  · replace w := w.1 c1
    refine eb_iload_n (pc := 8) (n := 1) (i := 1) rfl rfl rfl ?_
    refine eb_iload_n (pc := 9) (n := 0) (i := 0) rfl rfl rfl ?_
    refine eb_iload_n (pc := 10) (n := 1) (i := 1) rfl rfl rfl ?_
    obtain ⟨c2, w⟩ := w
    refine eb_irem (pc := 11) c2 rfl ?_
    refine eb_ctS (pc := 12) (As := [.int x1, .int (x0 - x0 / x1 * x1)]) (rest := []) rfl (by decide) (by decide) rfl rfl (Nat.le_of_ble_eq_true rfl) ?_
    refine eb_Ct.mono w ?_
    rintro r h3 ⟨y4, rfl, ko5, w⟩
    change eb_Sn _ _ _ 15 _ [.int y4] _ _
    exact eb_ireturn (pc := 15) rfl rfl rfl w
  · replace w := w.2 c1
    refine eb_iload_n (pc := 4) (n := 0) (i := 0) rfl rfl rfl ?_
    refine eb_goto (pc := 5) (tgt := 15) rfl (by decide) ?_
    exact eb_ireturn (pc := 15) rfl rfl rfl w
theorem T_X11_common {d : Nat} {h : eb_H} {Q : Option Value → eb_H → Prop} (x0 : Int32) (x1 : Int32)  (ko : eb_KO h) (w : ((¬ x1 = 0 → (¬ x1 = 0) ∧ eb_Ct d 271 [.int x1, .int (x0 - x0 / x1 * x1)] h (fun r h3 => ∃ y4, r = some (.int y4) ∧ eb_KO h3 ∧ Q (some (.int y4)) h3)) ∧ (x1 = 0 → Q (some (.int x0)) h))) : eb_Ct (d + 1) 271 [.int x0, .int x1] h Q :=
  eb_bodyQ (by decide) ok_X11_common (Nat.le_of_ble_eq_true rfl) (b_X11_common_0 (h0 := h) x0 x1  ko w)
theorem b_X11_part_0 {d : Nat} {h0 h : eb_H} {Q : Option Value → eb_H → Prop} (x0 : Int64) (x2 : Int32) (x3 : Int32)  (ko : eb_KO h) (w : eb_Ct d 271 [.int x0.toInt32, .int x2] h (fun r h2 => ∃ y3, r = some (.int y3) ∧ eb_KO h2 ∧ (¬ y3 = 0) ∧ Q (some (.int ((if x3 = 0 then x0.toInt32 else x2 : Int32) / y3))) h2)) : eb_Sn (d + 1) m_X11_part h0 0 [(0, .long x0), (2, .int x2), (3, .int x3)] [] h Q := by
  refine eb_lload_n (pc := 0) (n := 0) (i := 0) rfl rfl rfl ?_
  refine eb_l2i (pc := 1) rfl ?_
  refine eb_istore (pc := 2) (i := 4) (ls2 := [(4, .int x0.toInt32), (0, .long x0), (2, .int x2), (3, .int x3)]) (Nat.le_of_ble_eq_true rfl) rfl rfl ?_
  refine eb_iload_n (pc := 4) (n := 3) (i := 3) rfl rfl rfl ?_
  have jj6 : eb_Sn (d + 1) m_X11_part h0 14 [(4, .int x0.toInt32), (0, .long x0), (2, .int x2), (3, .int x3)] [.int (if x3 = 0 then x0.toInt32 else x2 : Int32)] h Q := by
    refine eb_iload (pc := 14) (i := 4) rfl rfl ?_
    refine eb_iload_n (pc := 16) (n := 2) (i := 2) rfl rfl rfl ?_
    refine eb_ctS (pc := 17) (As := [.int x0.toInt32, .int x2]) (rest := [.int (if x3 = 0 then x0.toInt32 else x2 : Int32)]) rfl (by decide) (by decide) rfl rfl (Nat.le_of_ble_eq_true rfl) ?_
    refine eb_Ct.mono w ?_
    rintro r h2 ⟨y3, rfl, ko4, w⟩
    change eb_Sn _ _ _ 20 _ [.int y3, .int (if x3 = 0 then x0.toInt32 else x2 : Int32)] _ _
    obtain ⟨c5, w⟩ := w
    refine eb_idiv (pc := 20) c5 rfl ?_
    exact eb_ireturn (pc := 21) rfl rfl rfl w
  refine eb_if_ne (pc := 5) (tgt := 13) rfl (by decide) (fun c1 => ?_) (fun c1 => ?_)
  · refine eb_iload_n (pc := 13) (n := 2) (i := 2) rfl rfl rfl ?_
    simp only [if_neg c1] at jj6 ⊢
    exact jj6
  · refine eb_iload (pc := 8) (i := 4) rfl rfl ?_
    refine eb_goto (pc := 10) (tgt := 14) rfl (by decide) ?_
    simp only [if_pos c1] at jj6 ⊢
    exact jj6
theorem T_X11_part {d : Nat} {h : eb_H} {Q : Option Value → eb_H → Prop} (x0 : Int64) (x2 : Int32) (x3 : Int32)  (ko : eb_KO h) (w : eb_Ct d 271 [.int x0.toInt32, .int x2] h (fun r h2 => ∃ y3, r = some (.int y3) ∧ eb_KO h2 ∧ (¬ y3 = 0) ∧ Q (some (.int ((if x3 = 0 then x0.toInt32 else x2 : Int32) / y3))) h2)) : eb_Ct (d + 1) 272 [.long x0, .int x2, .int x3] h Q :=
  eb_bodyQ (by decide) ok_X11_part (Nat.le_of_ble_eq_true rfl) (b_X11_part_0 (h0 := h) x0 x2 x3  ko w)
theorem b_X11_chance_0 {d : Nat} {h0 h : eb_H} {Q : Option Value → eb_H → Prop} (x1 : Int32) (x2 : Int32) (x3 : Int32) (x4 : Int32)  (ko : eb_KO h) (w : eb_Ct d 191 [.ref s_MO, .long x1.toInt64] (eb_sI h s_MO 0 0) (fun r h1 => ∃ y2, r = some (.int y2) ∧ eb_KO h1 ∧ ((y2 = 0 → Q (some (.int (-2))) h1) ∧ (¬ (y2 = 0) → eb_Ct d 156 [.long x4.toInt64, .long 0, .long 1] h1 (fun r h5 => ∃ y6, r = some (.int y6) ∧ eb_KO h5 ∧ ((¬ y6 = 0 → eb_Ct d 193 [.int x2] h5 (fun r h9 => ∃ y10, r = some (.int y10) ∧ eb_KO h9 ∧ ((y10 = 0 → Q (some (.int (-3))) h9) ∧ (¬ (y10 = 0) → eb_Ct d 156 [.long x3.toInt64, .long 0, .long 8] h9 (fun r h13 => ∃ y14, r = some (.int y14) ∧ eb_KO h13 ∧ ((¬ y14 = 0 → eb_Ct d 270 [.ref s_MO, .int x3] h13 (fun r h17 => r = none ∧ eb_KO h17 ∧ eb_Sn (d + 1) m_X11_chance h0 61 [(0, .ref s_MO), (1, .int x1), (2, .int x2), (3, .int x3), (4, .int x4), (5, .long 0), (7, .int 0)] [] h17 Q)) ∧ (y14 = 0 → Q (some (.int (-3))) h13))))))) ∧ (y6 = 0 → Q (some (.int (-2))) h5))))))) : eb_Sn (d + 1) m_X11_chance h0 0 [(0, .ref s_MO), (1, .int x1), (2, .int x2), (3, .int x3), (4, .int x4)] [] h Q := by
  refine eb_aload_n (pc := 0) (n := 0) (i := 0) rfl rfl rfl ?_
  refine eb_iconst (pc := 1) (n := 0) (v := 0) rfl rfl ?_
  refine eb_putI (pc := 2) rfl rfl (by decide) (by decide) rfl rfl ⟨rfl, rfl⟩ ?_
  refine eb_aload_n (pc := 5) (n := 0) (i := 0) rfl rfl rfl ?_
  refine eb_iload_n (pc := 6) (n := 1) (i := 1) rfl rfl rfl ?_
  refine eb_i2l (pc := 7) rfl ?_
  refine eb_ctV (pc := 8) (As := [.long x1.toInt64]) (rest := []) rfl (by decide) rfl rfl (by decide) rfl (Nat.le_of_ble_eq_true rfl) ?_
  refine eb_Ct.mono w ?_
  rintro r h1 ⟨y2, rfl, ko3, w⟩
  change eb_Sn _ _ _ 11 _ [.int y2] _ _
  refine eb_if_eq (pc := 11) (tgt := 25) rfl (by decide) (fun c4 => ?_) (fun c4 => ?_)
  · replace w := w.1 c4
    refine eb_bipush (pc := 25) (n := -2) (v := (-2)) rfl rfl ?_
    exact eb_ireturn (pc := 27) rfl rfl rfl w
  · replace w := w.2 c4
    refine eb_iload (pc := 14) (i := 4) rfl rfl ?_
    refine eb_i2l (pc := 16) rfl ?_
    refine eb_lconst (pc := 17) (n := 0) (v := 0) rfl rfl ?_
    refine eb_lconst (pc := 18) (n := 1) (v := 1) rfl rfl ?_
    refine eb_ctS (pc := 19) (As := [.long x4.toInt64, .long 0, .long 1]) (rest := []) rfl (by decide) (by decide) rfl rfl (Nat.le_of_ble_eq_true rfl) ?_
    refine eb_Ct.mono w ?_
    rintro r h5 ⟨y6, rfl, ko7, w⟩
    change eb_Sn _ _ _ 22 _ [.int y6] _ _
    refine eb_if_ne (pc := 22) (tgt := 28) rfl (by decide) (fun c8 => ?_) (fun c8 => ?_)
    · replace w := w.1 c8
      refine eb_iload_n (pc := 28) (n := 2) (i := 2) rfl rfl rfl ?_
      refine eb_ctS (pc := 29) (As := [.int x2]) (rest := []) rfl (by decide) (by decide) rfl rfl (Nat.le_of_ble_eq_true rfl) ?_
      refine eb_Ct.mono w ?_
      rintro r h9 ⟨y10, rfl, ko11, w⟩
      change eb_Sn _ _ _ 32 _ [.int y10] _ _
      refine eb_if_eq (pc := 32) (tgt := 47) rfl (by decide) (fun c12 => ?_) (fun c12 => ?_)
      · replace w := w.1 c12
        refine eb_bipush (pc := 47) (n := -3) (v := (-3)) rfl rfl ?_
        exact eb_ireturn (pc := 49) rfl rfl rfl w
      · replace w := w.2 c12
        refine eb_iload_n (pc := 35) (n := 3) (i := 3) rfl rfl rfl ?_
        refine eb_i2l (pc := 36) rfl ?_
        refine eb_lconst (pc := 37) (n := 0) (v := 0) rfl rfl ?_
        refine eb_ldc2 (pc := 38) (a := 8) (v := 8) rfl (by decide) ?_
        refine eb_ctS (pc := 41) (As := [.long x3.toInt64, .long 0, .long 8]) (rest := []) rfl (by decide) (by decide) rfl rfl (Nat.le_of_ble_eq_true rfl) ?_
        refine eb_Ct.mono w ?_
        rintro r h13 ⟨y14, rfl, ko15, w⟩
        change eb_Sn _ _ _ 44 _ [.int y14] _ _
        refine eb_if_ne (pc := 44) (tgt := 50) rfl (by decide) (fun c16 => ?_) (fun c16 => ?_)
        · replace w := w.1 c16
          refine eb_aload_n (pc := 50) (n := 0) (i := 0) rfl rfl rfl ?_
          refine eb_iload_n (pc := 51) (n := 3) (i := 3) rfl rfl rfl ?_
          refine eb_ctV (pc := 52) (As := [.int x3]) (rest := []) rfl (by decide) rfl rfl (by decide) rfl (Nat.le_of_ble_eq_true rfl) ?_
          refine eb_Ct.mono w ?_
          rintro r h17 ⟨rfl, ko19, w⟩
          change eb_Sn _ _ _ 55 _ [] _ _
          refine eb_lconst (pc := 55) (n := 0) (v := 0) rfl rfl ?_
          refine eb_lstore (pc := 56) (i := 5) (ls2 := [(5, .long 0), (0, .ref s_MO), (1, .int x1), (2, .int x2), (3, .int x3), (4, .int x4)]) (Nat.le_of_ble_eq_true rfl) rfl rfl ?_
          refine eb_iconst (pc := 58) (n := 0) (v := 0) rfl rfl ?_
          refine eb_istore (pc := 59) (i := 7) (ls2 := [(7, .int 0), (5, .long 0), (0, .ref s_MO), (1, .int x1), (2, .int x2), (3, .int x3), (4, .int x4)]) (Nat.le_of_ble_eq_true rfl) rfl rfl ?_
          exact eb_pick [2, 3, 4, 5, 6, 1, 0] rfl w
        · replace w := w.2 c16
          refine eb_bipush (pc := 47) (n := -3) (v := (-3)) rfl rfl ?_
          exact eb_ireturn (pc := 49) rfl rfl rfl w
    · replace w := w.2 c8
      refine eb_bipush (pc := 25) (n := -2) (v := (-2)) rfl rfl ?_
      exact eb_ireturn (pc := 27) rfl rfl rfl w
theorem b_X11_chance_61 {d : Nat} {h0 h : eb_H} {Q : Option Value → eb_H → Prop} (x1 : Int32) (x2 : Int32) (x3 : Int32) (x4 : Int32) (x5 : Int64) (x7 : Int32)  (ko : eb_KO h) (w : eb_Ct d 228 [.ref s_MO] h (fun r h1 => ∃ y2, r = some (.int y2) ∧ eb_KO h1 ∧ ((y2 ≤ x7 → eb_Ct d 269 [.int x3] h1 (fun r h5 => ∃ y6, r = some (.int y6) ∧ eb_KO h5 ∧ eb_Ct d 272 [.long x5, .int y6, .int x4] h5 (fun r h8 => ∃ y9, r = some (.int y9) ∧ eb_KO h8 ∧ Q (some (.int y9)) h8))) ∧ (¬ (y2 ≤ x7) → eb_Ct d 230 [.int x7, .int x1, .int x2, .int 0] h1 (fun r h11 => ∃ y12, r = some (.int y12) ∧ eb_KO h11 ∧ ((y12 = 0 → eb_Sn (d + 1) m_X11_chance h0 61 [(0, .ref s_MO), (1, .int x1), (2, .int x2), (3, .int x3), (4, .int x4), (5, .long (x5 + 0)), (7, .int (x7 + 1))] [] h11 Q) ∧ (¬ (y12 = 0) → (vp_in x7 1024) ∧ eb_Sn (d + 1) m_X11_chance h0 61 [(0, .ref s_MO), (1, .int x1), (2, .int x2), (3, .int x3), (4, .int x4), (5, .long (x5 + (eb_J h11 s_m_many x7.toNatClampNeg))), (7, .int (x7 + 1))] [] h11 Q))))))) : eb_Sn (d + 1) m_X11_chance h0 61 [(0, .ref s_MO), (1, .int x1), (2, .int x2), (3, .int x3), (4, .int x4), (5, .long x5), (7, .int x7)] [] h Q := by
  refine eb_iload (pc := 61) (i := 7) rfl rfl ?_
  refine eb_aload_n (pc := 63) (n := 0) (i := 0) rfl rfl rfl ?_
  refine eb_ctV (pc := 64) (As := []) (rest := [.int x7]) rfl (by decide) rfl rfl (by decide) rfl (Nat.le_of_ble_eq_true rfl) ?_
  refine eb_Ct.mono w ?_
  rintro r h1 ⟨y2, rfl, ko3, w⟩
  change eb_Sn _ _ _ 67 _ [.int y2, .int x7] _ _
  refine eb_icmp_ge (pc := 67) (tgt := 103) rfl (by decide) (fun c4 => ?_) (fun c4 => ?_)
  · replace w := w.1 c4
    refine eb_lload (pc := 103) (i := 5) rfl rfl ?_
    refine eb_iload_n (pc := 105) (n := 3) (i := 3) rfl rfl rfl ?_
    refine eb_ctS (pc := 106) (As := [.int x3]) (rest := [.long x5]) rfl (by decide) (by decide) rfl rfl (Nat.le_of_ble_eq_true rfl) ?_
    refine eb_Ct.mono w ?_
    rintro r h5 ⟨y6, rfl, ko7, w⟩
    change eb_Sn _ _ _ 109 _ [.int y6, .long x5] _ _
    refine eb_iload (pc := 109) (i := 4) rfl rfl ?_
    refine eb_ctS (pc := 111) (As := [.long x5, .int y6, .int x4]) (rest := []) rfl (by decide) (by decide) rfl rfl (Nat.le_of_ble_eq_true rfl) ?_
    refine eb_Ct.mono w ?_
    rintro r h8 ⟨y9, rfl, ko10, w⟩
    change eb_Sn _ _ _ 114 _ [.int y9] _ _
    exact eb_ireturn (pc := 114) rfl rfl rfl w
  · replace w := w.2 c4
    refine eb_lload (pc := 70) (i := 5) rfl rfl ?_
    refine eb_iload (pc := 72) (i := 7) rfl rfl ?_
    refine eb_iload_n (pc := 74) (n := 1) (i := 1) rfl rfl rfl ?_
    refine eb_iload_n (pc := 75) (n := 2) (i := 2) rfl rfl rfl ?_
    refine eb_iconst (pc := 76) (n := 0) (v := 0) rfl rfl ?_
    refine eb_ctS (pc := 77) (As := [.int x7, .int x1, .int x2, .int 0]) (rest := [.long x5]) rfl (by decide) (by decide) rfl rfl (Nat.le_of_ble_eq_true rfl) ?_
    refine eb_Ct.mono w ?_
    rintro r h11 ⟨y12, rfl, ko13, w⟩
    change eb_Sn _ _ _ 80 _ [.int y12, .long x5] _ _
    refine eb_if_eq (pc := 80) (tgt := 93) rfl (by decide) (fun c14 => ?_) (fun c14 => ?_)
    · replace w := w.1 c14
      refine eb_lconst (pc := 93) (n := 0) (v := 0) rfl rfl ?_
      refine eb_ladd (pc := 94) rfl ?_
      refine eb_lstore (pc := 95) (i := 5) (ls2 := [(5, .long (x5 + 0)), (0, .ref s_MO), (1, .int x1), (2, .int x2), (3, .int x3), (4, .int x4), (7, .int x7)]) (Nat.le_of_ble_eq_true rfl) rfl rfl ?_
      refine eb_iinc (pc := 97) (i := 7) (n := 1) (v := x7 + 1) (ls2 := [(7, .int (x7 + 1)), (5, .long (x5 + 0)), (0, .ref s_MO), (1, .int x1), (2, .int x2), (3, .int x3), (4, .int x4)]) (Nat.le_of_ble_eq_true rfl) rfl rfl rfl rfl ?_
      refine eb_goto (pc := 100) (tgt := 61) rfl (by decide) ?_
      exact eb_pick [2, 3, 4, 5, 6, 1, 0] rfl w
    · replace w := w.2 c14
      refine eb_aload_n (pc := 83) (n := 0) (i := 0) rfl rfl rfl ?_
      refine eb_getR (pc := 84) rfl rfl (by decide) (by decide) rfl (ko_s_MO_24 ko13) ?_
      refine eb_iload (pc := 87) (i := 7) rfl rfl ?_
      obtain ⟨c15, w⟩ := w
      refine eb_laload (pc := 89) rfl rfl c15 ?_
      refine eb_goto (pc := 90) (tgt := 94) rfl (by decide) ?_
      refine eb_ladd (pc := 94) rfl ?_
      refine eb_lstore (pc := 95) (i := 5) (ls2 := [(5, .long (x5 + (eb_J h11 s_m_many x7.toNatClampNeg))), (0, .ref s_MO), (1, .int x1), (2, .int x2), (3, .int x3), (4, .int x4), (7, .int x7)]) (Nat.le_of_ble_eq_true rfl) rfl rfl ?_
      refine eb_iinc (pc := 97) (i := 7) (n := 1) (v := x7 + 1) (ls2 := [(7, .int (x7 + 1)), (5, .long (x5 + (eb_J h11 s_m_many x7.toNatClampNeg))), (0, .ref s_MO), (1, .int x1), (2, .int x2), (3, .int x3), (4, .int x4)]) (Nat.le_of_ble_eq_true rfl) rfl rfl rfl rfl ?_
      refine eb_goto (pc := 100) (tgt := 61) rfl (by decide) ?_
      exact eb_pick [2, 3, 4, 5, 6, 1, 0] rfl w
theorem T_X11_chance {d : Nat} {h : eb_H} {Q : Option Value → eb_H → Prop} (x1 : Int32) (x2 : Int32) (x3 : Int32) (x4 : Int32)  (ko : eb_KO h) (w : eb_Ct d 191 [.ref s_MO, .long x1.toInt64] (eb_sI h s_MO 0 0) (fun r h1 => ∃ y2, r = some (.int y2) ∧ eb_KO h1 ∧ ((y2 = 0 → Q (some (.int (-2))) h1) ∧ (¬ (y2 = 0) → eb_Ct d 156 [.long x4.toInt64, .long 0, .long 1] h1 (fun r h5 => ∃ y6, r = some (.int y6) ∧ eb_KO h5 ∧ ((¬ y6 = 0 → eb_Ct d 193 [.int x2] h5 (fun r h9 => ∃ y10, r = some (.int y10) ∧ eb_KO h9 ∧ ((y10 = 0 → Q (some (.int (-3))) h9) ∧ (¬ (y10 = 0) → eb_Ct d 156 [.long x3.toInt64, .long 0, .long 8] h9 (fun r h13 => ∃ y14, r = some (.int y14) ∧ eb_KO h13 ∧ ((¬ y14 = 0 → eb_Ct d 270 [.ref s_MO, .int x3] h13 (fun r h17 => r = none ∧ eb_KO h17 ∧ eb_Sn (d + 1) m_X11_chance h 61 [(0, .ref s_MO), (1, .int x1), (2, .int x2), (3, .int x3), (4, .int x4), (5, .long 0), (7, .int 0)] [] h17 Q)) ∧ (y14 = 0 → Q (some (.int (-3))) h13))))))) ∧ (y6 = 0 → Q (some (.int (-2))) h5))))))) : eb_Ct (d + 1) 273 [.ref s_MO, .int x1, .int x2, .int x3, .int x4] h Q :=
  eb_bodyQ (by decide) ok_X11_chance (Nat.le_of_ble_eq_true rfl) (b_X11_chance_0 (h0 := h) x1 x2 x3 x4  ko w)
theorem b_X11_mean_0 {d : Nat} {h0 h : eb_H} {Q : Option Value → eb_H → Prop} (x1 : Int32) (x2 : Int32)  (ko : eb_KO h) (w : eb_Ct d 156 [.long x2.toInt64, .long 0, .long 1] (eb_sI h s_MO 0 0) (fun r h1 => ∃ y2, r = some (.int y2) ∧ eb_KO h1 ∧ ((¬ y2 = 0 → eb_Ct d 156 [.long x1.toInt64, .long 0, .long 8] h1 (fun r h5 => ∃ y6, r = some (.int y6) ∧ eb_KO h5 ∧ ((¬ y6 = 0 → eb_Ct d 270 [.ref s_MO, .int x1] h5 (fun r h9 => r = none ∧ eb_KO h9 ∧ eb_Sn (d + 1) m_X11_mean h0 43 [(0, .ref s_MO), (1, .int x1), (2, .int x2), (3, .long 0), (5, .int 0)] [] h9 Q)) ∧ (y6 = 0 → Q (some (.int (-3))) h5)))) ∧ (y2 = 0 → Q (some (.int (-2))) h1)))) : eb_Sn (d + 1) m_X11_mean h0 0 [(0, .ref s_MO), (1, .int x1), (2, .int x2)] [] h Q := by
  refine eb_aload_n (pc := 0) (n := 0) (i := 0) rfl rfl rfl ?_
  refine eb_iconst (pc := 1) (n := 0) (v := 0) rfl rfl ?_
  refine eb_putI (pc := 2) rfl rfl (by decide) (by decide) rfl rfl ⟨rfl, rfl⟩ ?_
  refine eb_iload_n (pc := 5) (n := 2) (i := 2) rfl rfl rfl ?_
  refine eb_i2l (pc := 6) rfl ?_
  refine eb_lconst (pc := 7) (n := 0) (v := 0) rfl rfl ?_
  refine eb_lconst (pc := 8) (n := 1) (v := 1) rfl rfl ?_
  refine eb_ctS (pc := 9) (As := [.long x2.toInt64, .long 0, .long 1]) (rest := []) rfl (by decide) (by decide) rfl rfl (Nat.le_of_ble_eq_true rfl) ?_
  refine eb_Ct.mono w ?_
  rintro r h1 ⟨y2, rfl, ko3, w⟩
  change eb_Sn _ _ _ 12 _ [.int y2] _ _
  refine eb_if_ne (pc := 12) (tgt := 18) rfl (by decide) (fun c4 => ?_) (fun c4 => ?_)
  · replace w := w.1 c4
    refine eb_iload_n (pc := 18) (n := 1) (i := 1) rfl rfl rfl ?_
    refine eb_i2l (pc := 19) rfl ?_
    refine eb_lconst (pc := 20) (n := 0) (v := 0) rfl rfl ?_
    refine eb_ldc2 (pc := 21) (a := 8) (v := 8) rfl (by decide) ?_
    refine eb_ctS (pc := 24) (As := [.long x1.toInt64, .long 0, .long 8]) (rest := []) rfl (by decide) (by decide) rfl rfl (Nat.le_of_ble_eq_true rfl) ?_
    refine eb_Ct.mono w ?_
    rintro r h5 ⟨y6, rfl, ko7, w⟩
    change eb_Sn _ _ _ 27 _ [.int y6] _ _
    refine eb_if_ne (pc := 27) (tgt := 33) rfl (by decide) (fun c8 => ?_) (fun c8 => ?_)
    · replace w := w.1 c8
      refine eb_aload_n (pc := 33) (n := 0) (i := 0) rfl rfl rfl ?_
      refine eb_iload_n (pc := 34) (n := 1) (i := 1) rfl rfl rfl ?_
      refine eb_ctV (pc := 35) (As := [.int x1]) (rest := []) rfl (by decide) rfl rfl (by decide) rfl (Nat.le_of_ble_eq_true rfl) ?_
      refine eb_Ct.mono w ?_
      rintro r h9 ⟨rfl, ko11, w⟩
      change eb_Sn _ _ _ 38 _ [] _ _
      refine eb_lconst (pc := 38) (n := 0) (v := 0) rfl rfl ?_
      refine eb_lstore_n (pc := 39) (n := 3) (i := 3) (ls2 := [(3, .long 0), (0, .ref s_MO), (1, .int x1), (2, .int x2)]) rfl (Nat.le_of_ble_eq_true rfl) rfl rfl ?_
      refine eb_iconst (pc := 40) (n := 0) (v := 0) rfl rfl ?_
      refine eb_istore (pc := 41) (i := 5) (ls2 := [(5, .int 0), (3, .long 0), (0, .ref s_MO), (1, .int x1), (2, .int x2)]) (Nat.le_of_ble_eq_true rfl) rfl rfl ?_
      exact eb_pick [2, 3, 4, 1, 0] rfl w
    · replace w := w.2 c8
      refine eb_bipush (pc := 30) (n := -3) (v := (-3)) rfl rfl ?_
      exact eb_ireturn (pc := 32) rfl rfl rfl w
  · replace w := w.2 c4
    refine eb_bipush (pc := 15) (n := -2) (v := (-2)) rfl rfl ?_
    exact eb_ireturn (pc := 17) rfl rfl rfl w
theorem b_X11_mean_43 {d : Nat} {h0 h : eb_H} {Q : Option Value → eb_H → Prop} (x1 : Int32) (x2 : Int32) (x3 : Int64) (x5 : Int32)  (ko : eb_KO h) (w : eb_Ct d 228 [.ref s_MO] h (fun r h1 => ∃ y2, r = some (.int y2) ∧ eb_KO h1 ∧ ((y2 ≤ x5 → eb_Ct d 269 [.int x1] h1 (fun r h5 => ∃ y6, r = some (.int y6) ∧ eb_KO h5 ∧ eb_Ct d 272 [.long x3, .int y6, .int x2] h5 (fun r h8 => ∃ y9, r = some (.int y9) ∧ eb_KO h8 ∧ Q (some (.int y9)) h8))) ∧ (¬ (y2 ≤ x5) → (vp_in x5 1024) ∧ eb_Ct d 194 [.int (x5 - x5 / 64 * 64)] h1 (fun r h12 => ∃ y13, r = some (.int y13) ∧ eb_KO h12 ∧ eb_Sn (d + 1) m_X11_mean h0 43 [(0, .ref s_MO), (1, .int x1), (2, .int x2), (3, .long (x3 + ((eb_J h1 s_m_many x5.toNatClampNeg) * y13.toInt64))), (5, .int (x5 + 1))] [] h12 Q))))) : eb_Sn (d + 1) m_X11_mean h0 43 [(0, .ref s_MO), (1, .int x1), (2, .int x2), (3, .long x3), (5, .int x5)] [] h Q := by
  refine eb_iload (pc := 43) (i := 5) rfl rfl ?_
  refine eb_aload_n (pc := 45) (n := 0) (i := 0) rfl rfl rfl ?_
  refine eb_ctV (pc := 46) (As := []) (rest := [.int x5]) rfl (by decide) rfl rfl (by decide) rfl (Nat.le_of_ble_eq_true rfl) ?_
  refine eb_Ct.mono w ?_
  rintro r h1 ⟨y2, rfl, ko3, w⟩
  change eb_Sn _ _ _ 49 _ [.int y2, .int x5] _ _
  refine eb_icmp_ge (pc := 49) (tgt := 78) rfl (by decide) (fun c4 => ?_) (fun c4 => ?_)
  · replace w := w.1 c4
    refine eb_lload_n (pc := 78) (n := 3) (i := 3) rfl rfl rfl ?_
    refine eb_iload_n (pc := 79) (n := 1) (i := 1) rfl rfl rfl ?_
    refine eb_ctS (pc := 80) (As := [.int x1]) (rest := [.long x3]) rfl (by decide) (by decide) rfl rfl (Nat.le_of_ble_eq_true rfl) ?_
    refine eb_Ct.mono w ?_
    rintro r h5 ⟨y6, rfl, ko7, w⟩
    change eb_Sn _ _ _ 83 _ [.int y6, .long x3] _ _
    refine eb_iload_n (pc := 83) (n := 2) (i := 2) rfl rfl rfl ?_
    refine eb_ctS (pc := 84) (As := [.long x3, .int y6, .int x2]) (rest := []) rfl (by decide) (by decide) rfl rfl (Nat.le_of_ble_eq_true rfl) ?_
    refine eb_Ct.mono w ?_
    rintro r h8 ⟨y9, rfl, ko10, w⟩
    change eb_Sn _ _ _ 87 _ [.int y9] _ _
    exact eb_ireturn (pc := 87) rfl rfl rfl w
  · replace w := w.2 c4
    refine eb_lload_n (pc := 52) (n := 3) (i := 3) rfl rfl rfl ?_
    refine eb_aload_n (pc := 53) (n := 0) (i := 0) rfl rfl rfl ?_
    refine eb_getR (pc := 54) rfl rfl (by decide) (by decide) rfl (ko_s_MO_24 ko3) ?_
    refine eb_iload (pc := 57) (i := 5) rfl rfl ?_
    obtain ⟨c11, w⟩ := w
    refine eb_laload (pc := 59) rfl rfl c11 ?_
    refine eb_iload (pc := 60) (i := 5) rfl rfl ?_
    refine eb_bipush (pc := 62) (n := 64) (v := 64) rfl rfl ?_
    refine eb_irem (pc := 64) (by decide) rfl ?_
    refine eb_ctS (pc := 65) (As := [.int (x5 - x5 / 64 * 64)]) (rest := [.long (eb_J h1 s_m_many x5.toNatClampNeg), .long x3]) rfl (by decide) (by decide) rfl rfl (Nat.le_of_ble_eq_true rfl) ?_
    refine eb_Ct.mono w ?_
    rintro r h12 ⟨y13, rfl, ko14, w⟩
    change eb_Sn _ _ _ 68 _ [.int y13, .long (eb_J h1 s_m_many x5.toNatClampNeg), .long x3] _ _
    refine eb_i2l (pc := 68) rfl ?_
    refine eb_lmul (pc := 69) rfl ?_
    refine eb_ladd (pc := 70) rfl ?_
    refine eb_lstore_n (pc := 71) (n := 3) (i := 3) (ls2 := [(3, .long (x3 + ((eb_J h1 s_m_many x5.toNatClampNeg) * y13.toInt64))), (0, .ref s_MO), (1, .int x1), (2, .int x2), (5, .int x5)]) rfl (Nat.le_of_ble_eq_true rfl) rfl rfl ?_
    refine eb_iinc (pc := 72) (i := 5) (n := 1) (v := x5 + 1) (ls2 := [(5, .int (x5 + 1)), (3, .long (x3 + ((eb_J h1 s_m_many x5.toNatClampNeg) * y13.toInt64))), (0, .ref s_MO), (1, .int x1), (2, .int x2)]) (Nat.le_of_ble_eq_true rfl) rfl rfl rfl rfl ?_
    refine eb_goto (pc := 75) (tgt := 43) rfl (by decide) ?_
    exact eb_pick [2, 3, 4, 1, 0] rfl w
theorem T_X11_mean {d : Nat} {h : eb_H} {Q : Option Value → eb_H → Prop} (x1 : Int32) (x2 : Int32)  (ko : eb_KO h) (w : eb_Ct d 156 [.long x2.toInt64, .long 0, .long 1] (eb_sI h s_MO 0 0) (fun r h1 => ∃ y2, r = some (.int y2) ∧ eb_KO h1 ∧ ((¬ y2 = 0 → eb_Ct d 156 [.long x1.toInt64, .long 0, .long 8] h1 (fun r h5 => ∃ y6, r = some (.int y6) ∧ eb_KO h5 ∧ ((¬ y6 = 0 → eb_Ct d 270 [.ref s_MO, .int x1] h5 (fun r h9 => r = none ∧ eb_KO h9 ∧ eb_Sn (d + 1) m_X11_mean h 43 [(0, .ref s_MO), (1, .int x1), (2, .int x2), (3, .long 0), (5, .int 0)] [] h9 Q)) ∧ (y6 = 0 → Q (some (.int (-3))) h5)))) ∧ (y2 = 0 → Q (some (.int (-2))) h1)))) : eb_Ct (d + 1) 274 [.ref s_MO, .int x1, .int x2] h Q :=
  eb_bodyQ (by decide) ok_X11_mean (Nat.le_of_ble_eq_true rfl) (b_X11_mean_0 (h0 := h) x1 x2  ko w)
theorem b_X11_likeliest_0 {d : Nat} {h0 h : eb_H} {Q : Option Value → eb_H → Prop} (x1 : Int32)  (ko : eb_KO h) (w : eb_Ct d 156 [.long x1.toInt64, .long 0, .long 8] (eb_sI h s_MO 0 0) (fun r h1 => ∃ y2, r = some (.int y2) ∧ eb_KO h1 ∧ ((¬ y2 = 0 → eb_Ct d 270 [.ref s_MO, .int x1] h1 (fun r h5 => r = none ∧ eb_KO h5 ∧ eb_Sn (d + 1) m_X11_likeliest h0 34 [(0, .ref s_MO), (2, .int (-1)), (3, .long (-1)), (5, .int 0)] [] h5 Q)) ∧ (y2 = 0 → Q (some (.int (-3))) h1)))) : eb_Sn (d + 1) m_X11_likeliest h0 0 [(0, .ref s_MO), (1, .int x1)] [] h Q := by
  refine eb_aload_n (pc := 0) (n := 0) (i := 0) rfl rfl rfl ?_
  refine eb_iconst (pc := 1) (n := 0) (v := 0) rfl rfl ?_
  refine eb_putI (pc := 2) rfl rfl (by decide) (by decide) rfl rfl ⟨rfl, rfl⟩ ?_
  refine eb_iload_n (pc := 5) (n := 1) (i := 1) rfl rfl rfl ?_
  refine eb_i2l (pc := 6) rfl ?_
  refine eb_lconst (pc := 7) (n := 0) (v := 0) rfl rfl ?_
  refine eb_ldc2 (pc := 8) (a := 8) (v := 8) rfl (by decide) ?_
  refine eb_ctS (pc := 11) (As := [.long x1.toInt64, .long 0, .long 8]) (rest := []) rfl (by decide) (by decide) rfl rfl (Nat.le_of_ble_eq_true rfl) ?_
  refine eb_Ct.mono w ?_
  rintro r h1 ⟨y2, rfl, ko3, w⟩
  change eb_Sn _ _ _ 14 _ [.int y2] _ _
  refine eb_if_ne (pc := 14) (tgt := 20) rfl (by decide) (fun c4 => ?_) (fun c4 => ?_)
  · replace w := w.1 c4
    refine eb_aload_n (pc := 20) (n := 0) (i := 0) rfl rfl rfl ?_
    refine eb_iload_n (pc := 21) (n := 1) (i := 1) rfl rfl rfl ?_
    refine eb_ctV (pc := 22) (As := [.int x1]) (rest := []) rfl (by decide) rfl rfl (by decide) rfl (Nat.le_of_ble_eq_true rfl) ?_
    refine eb_Ct.mono w ?_
    rintro r h5 ⟨rfl, ko7, w⟩
    change eb_Sn _ _ _ 25 _ [] _ _
    refine eb_iconst (pc := 25) (n := -1) (v := (-1)) rfl rfl ?_
    refine eb_istore_n (pc := 26) (n := 2) (i := 2) (ls2 := [(2, .int (-1)), (0, .ref s_MO), (1, .int x1)]) rfl (Nat.le_of_ble_eq_true rfl) rfl rfl ?_
    refine eb_ldc2 (pc := 27) (a := 18446744073709551615) (v := (-1)) rfl (by decide) ?_
    refine eb_lstore_n (pc := 30) (n := 3) (i := 3) (ls2 := [(3, .long (-1)), (2, .int (-1)), (0, .ref s_MO), (1, .int x1)]) rfl (Nat.le_of_ble_eq_true rfl) rfl rfl ?_
    refine eb_iconst (pc := 31) (n := 0) (v := 0) rfl rfl ?_
    refine eb_istore (pc := 32) (i := 5) (ls2 := [(5, .int 0), (3, .long (-1)), (2, .int (-1)), (0, .ref s_MO), (1, .int x1)]) (Nat.le_of_ble_eq_true rfl) rfl rfl ?_
    exact eb_pick [3, 2, 1, 0] rfl w
  · replace w := w.2 c4
    refine eb_bipush (pc := 17) (n := -3) (v := (-3)) rfl rfl ?_
    exact eb_ireturn (pc := 19) rfl rfl rfl w
theorem b_X11_likeliest_34 {d : Nat} {h0 h : eb_H} {Q : Option Value → eb_H → Prop} (x2 : Int32) (x3 : Int64) (x5 : Int32)  (ko : eb_KO h) (w : eb_Ct d 190 [.ref s_MO] h (fun r h1 => ∃ y2, r = some (.int y2) ∧ eb_KO h1 ∧ ((y2 ≤ x5 → Q (some (.int x2)) h1) ∧ (¬ (y2 ≤ x5) → eb_Sn (d + 1) m_X11_likeliest h0 49 [(0, .ref s_MO), (2, .int x2), (3, .long x3), (5, .int x5), (6, .long 0), (8, .int 0)] [] h1 Q)))) : eb_Sn (d + 1) m_X11_likeliest h0 34 [(0, .ref s_MO), (2, .int x2), (3, .long x3), (5, .int x5)] [] h Q := by
  refine eb_iload (pc := 34) (i := 5) rfl rfl ?_
  refine eb_aload_n (pc := 36) (n := 0) (i := 0) rfl rfl rfl ?_
  refine eb_ctV (pc := 37) (As := []) (rest := [.int x5]) rfl (by decide) rfl rfl (by decide) rfl (Nat.le_of_ble_eq_true rfl) ?_
  refine eb_Ct.mono w ?_
  rintro r h1 ⟨y2, rfl, ko3, w⟩
  change eb_Sn _ _ _ 40 _ [.int y2, .int x5] _ _
  refine eb_icmp_ge (pc := 40) (tgt := 102) rfl (by decide) (fun c4 => ?_) (fun c4 => ?_)
  · replace w := w.1 c4
    refine eb_iload_n (pc := 102) (n := 2) (i := 2) rfl rfl rfl ?_
    exact eb_ireturn (pc := 103) rfl rfl rfl w
  · replace w := w.2 c4
    refine eb_lconst (pc := 43) (n := 0) (v := 0) rfl rfl ?_
    refine eb_lstore (pc := 44) (i := 6) (ls2 := [(6, .long 0), (0, .ref s_MO), (2, .int x2), (3, .long x3), (5, .int x5)]) (Nat.le_of_ble_eq_true rfl) rfl rfl ?_
    refine eb_iconst (pc := 46) (n := 0) (v := 0) rfl rfl ?_
    refine eb_istore (pc := 47) (i := 8) (ls2 := [(8, .int 0), (6, .long 0), (0, .ref s_MO), (2, .int x2), (3, .long x3), (5, .int x5)]) (Nat.le_of_ble_eq_true rfl) rfl rfl ?_
    exact eb_pick [2, 3, 4, 5, 1, 0] rfl w
theorem b_X11_likeliest_49 {d : Nat} {h0 h : eb_H} {Q : Option Value → eb_H → Prop} (x2 : Int32) (x3 : Int64) (x5 : Int32) (x6 : Int64) (x8 : Int32)  (ko : eb_KO h) (w : (((64 : Int32) ≤ x8 → ((x3 < x6 → eb_Sn (d + 1) m_X11_likeliest h0 34 [(0, .ref s_MO), (2, .int x5), (3, .long x6), (5, .int (x5 + 1))] [] h Q) ∧ (¬ (x3 < x6) → eb_Sn (d + 1) m_X11_likeliest h0 34 [(0, .ref s_MO), (2, .int x2), (3, .long x3), (5, .int (x5 + 1))] [] h Q))) ∧ (¬ ((64 : Int32) ≤ x8) → (vp_in (((64 : Int32) * x5) + x8) 1024) ∧ eb_Sn (d + 1) m_X11_likeliest h0 49 [(0, .ref s_MO), (2, .int x2), (3, .long x3), (5, .int x5), (6, .long (x6 + (eb_J h s_m_many (((64 : Int32) * x5) + x8).toNatClampNeg))), (8, .int (x8 + 1))] [] h Q))) : eb_Sn (d + 1) m_X11_likeliest h0 49 [(0, .ref s_MO), (2, .int x2), (3, .long x3), (5, .int x5), (6, .long x6), (8, .int x8)] [] h Q := by
  refine eb_iload (pc := 49) (i := 8) rfl rfl ?_
  refine eb_bipush (pc := 51) (n := 64) (v := 64) rfl rfl ?_
  refine eb_icmp_ge (pc := 53) (tgt := 80) rfl (by decide) (fun c1 => ?_) (fun c1 => ?_)
  · replace w := w.1 c1
    refine eb_lload (pc := 80) (i := 6) rfl rfl ?_
    refine eb_lload_n (pc := 82) (n := 3) (i := 3) rfl rfl rfl ?_
    refine eb_lcmp (pc := 83) rfl ?_
    refine eb_if_gt (pc := 84) (tgt := 90) rfl (by decide) (fun c2 => ?_) (fun c2 => ?_)
    · replace c2 := eb_lc_gt.mp c2
      replace w := w.1 c2
      refine eb_iload (pc := 90) (i := 5) rfl rfl ?_
      refine eb_istore_n (pc := 92) (n := 2) (i := 2) (ls2 := [(2, .int x5), (0, .ref s_MO), (3, .long x3), (5, .int x5), (6, .long x6), (8, .int x8)]) rfl (Nat.le_of_ble_eq_true rfl) rfl rfl ?_
      refine eb_lload (pc := 93) (i := 6) rfl rfl ?_
      refine eb_lstore_n (pc := 95) (n := 3) (i := 3) (ls2 := [(3, .long x6), (2, .int x5), (0, .ref s_MO), (5, .int x5), (6, .long x6), (8, .int x8)]) rfl (Nat.le_of_ble_eq_true rfl) rfl rfl ?_
      refine eb_iinc (pc := 96) (i := 5) (n := 1) (v := x5 + 1) (ls2 := [(5, .int (x5 + 1)), (3, .long x6), (2, .int x5), (0, .ref s_MO), (6, .long x6), (8, .int x8)]) (Nat.le_of_ble_eq_true rfl) rfl rfl rfl rfl ?_
      refine eb_goto (pc := 99) (tgt := 34) rfl (by decide) ?_
      exact eb_pick [3, 2, 1, 0] rfl w
    · replace c2 := (fun hh => mt eb_lc_gt.mpr hh) c2
      replace w := w.2 c2
      refine eb_goto (pc := 87) (tgt := 96) rfl (by decide) ?_
      refine eb_iinc (pc := 96) (i := 5) (n := 1) (v := x5 + 1) (ls2 := [(5, .int (x5 + 1)), (0, .ref s_MO), (2, .int x2), (3, .long x3), (6, .long x6), (8, .int x8)]) (Nat.le_of_ble_eq_true rfl) rfl rfl rfl rfl ?_
      refine eb_goto (pc := 99) (tgt := 34) rfl (by decide) ?_
      exact eb_pick [1, 2, 3, 0] rfl w
  · replace w := w.2 c1
    refine eb_lload (pc := 56) (i := 6) rfl rfl ?_
    refine eb_aload_n (pc := 58) (n := 0) (i := 0) rfl rfl rfl ?_
    refine eb_getR (pc := 59) rfl rfl (by decide) (by decide) rfl (ko_s_MO_24 ko) ?_
    refine eb_bipush (pc := 62) (n := 64) (v := 64) rfl rfl ?_
    refine eb_iload (pc := 64) (i := 5) rfl rfl ?_
    refine eb_imul (pc := 66) rfl ?_
    refine eb_iload (pc := 67) (i := 8) rfl rfl ?_
    refine eb_iadd (pc := 69) rfl ?_
    obtain ⟨c3, w⟩ := w
    refine eb_laload (pc := 70) rfl rfl c3 ?_
    refine eb_ladd (pc := 71) rfl ?_
    refine eb_lstore (pc := 72) (i := 6) (ls2 := [(6, .long (x6 + (eb_J h s_m_many (((64 : Int32) * x5) + x8).toNatClampNeg))), (0, .ref s_MO), (2, .int x2), (3, .long x3), (5, .int x5), (8, .int x8)]) (Nat.le_of_ble_eq_true rfl) rfl rfl ?_
    refine eb_iinc (pc := 74) (i := 8) (n := 1) (v := x8 + 1) (ls2 := [(8, .int (x8 + 1)), (6, .long (x6 + (eb_J h s_m_many (((64 : Int32) * x5) + x8).toNatClampNeg))), (0, .ref s_MO), (2, .int x2), (3, .long x3), (5, .int x5)]) (Nat.le_of_ble_eq_true rfl) rfl rfl rfl rfl ?_
    refine eb_goto (pc := 77) (tgt := 49) rfl (by decide) ?_
    exact eb_pick [2, 3, 4, 5, 1, 0] rfl w
theorem T_X11_likeliest {d : Nat} {h : eb_H} {Q : Option Value → eb_H → Prop} (x1 : Int32)  (ko : eb_KO h) (w : eb_Ct d 156 [.long x1.toInt64, .long 0, .long 8] (eb_sI h s_MO 0 0) (fun r h1 => ∃ y2, r = some (.int y2) ∧ eb_KO h1 ∧ ((¬ y2 = 0 → eb_Ct d 270 [.ref s_MO, .int x1] h1 (fun r h5 => r = none ∧ eb_KO h5 ∧ eb_Sn (d + 1) m_X11_likeliest h 34 [(0, .ref s_MO), (2, .int (-1)), (3, .long (-1)), (5, .int 0)] [] h5 Q)) ∧ (y2 = 0 → Q (some (.int (-3))) h1)))) : eb_Ct (d + 1) 275 [.ref s_MO, .int x1] h Q :=
  eb_bodyQ (by decide) ok_X11_likeliest (Nat.le_of_ble_eq_true rfl) (b_X11_likeliest_0 (h0 := h) x1  ko w)
theorem b_X11_cut_0 {d : Nat} {h0 h : eb_H} {Q : Option Value → eb_H → Prop} (x0 : Int64) (x2 : Int32)  (ko : eb_KO h) (w : Q (some (.long (if x2 = 0 then x0.toInt32.toInt8.toInt32.toInt64 else (if x2 = (1 : Int32) then x0.toInt32.toInt16.toInt32.toInt64 else (if x2 = (2 : Int32) then x0.toInt32.toInt64 else x0)) : Int64))) h) : eb_Sn d m_X11_cut h0 0 [(0, .long x0), (2, .int x2)] [] h Q := by
  refine eb_iload_n (pc := 0) (n := 2) (i := 2) rfl rfl rfl ?_
  have jj4 : eb_Sn d m_X11_cut h0 35 [(0, .long x0), (2, .int x2)] [.long (if x2 = 0 then x0.toInt32.toInt8.toInt32.toInt64 else (if x2 = (1 : Int32) then x0.toInt32.toInt16.toInt32.toInt64 else (if x2 = (2 : Int32) then x0.toInt32.toInt64 else x0)) : Int64)] h Q := by
    exact eb_lreturn (pc := 35) rfl rfl w
  refine eb_if_ne (pc := 1) (tgt := 11) rfl (by decide) (fun c1 => ?_) (fun c1 => ?_)
  · refine eb_iload_n (pc := 11) (n := 2) (i := 2) rfl rfl rfl ?_
    refine eb_iconst (pc := 12) (n := 1) (v := 1) rfl rfl ?_
    refine eb_icmp_ne (pc := 13) (tgt := 23) rfl (by decide) (fun c2 => ?_) (fun c2 => ?_)
    · refine eb_iload_n (pc := 23) (n := 2) (i := 2) rfl rfl rfl ?_
      refine eb_iconst (pc := 24) (n := 2) (v := 2) rfl rfl ?_
      refine eb_icmp_ne (pc := 25) (tgt := 34) rfl (by decide) (fun c3 => ?_) (fun c3 => ?_)
      · refine eb_lload_n (pc := 34) (n := 0) (i := 0) rfl rfl rfl ?_
        simp only [if_neg c1, if_neg c2, if_neg c3] at jj4 ⊢
        exact jj4
      · refine eb_lload_n (pc := 28) (n := 0) (i := 0) rfl rfl rfl ?_
        refine eb_l2i (pc := 29) rfl ?_
        refine eb_i2l (pc := 30) rfl ?_
        refine eb_goto (pc := 31) (tgt := 35) rfl (by decide) ?_
        simp only [if_neg c1, if_neg c2, if_pos c3] at jj4 ⊢
        exact jj4
    · refine eb_lload_n (pc := 16) (n := 0) (i := 0) rfl rfl rfl ?_
      refine eb_l2i (pc := 17) rfl ?_
      refine eb_i2s (pc := 18) rfl ?_
      refine eb_i2l (pc := 19) rfl ?_
      refine eb_goto (pc := 20) (tgt := 35) rfl (by decide) ?_
      simp only [if_neg c1, if_pos c2] at jj4 ⊢
      exact jj4
  · refine eb_lload_n (pc := 4) (n := 0) (i := 0) rfl rfl rfl ?_
    refine eb_l2i (pc := 5) rfl ?_
    refine eb_i2b (pc := 6) rfl ?_
    refine eb_i2l (pc := 7) rfl ?_
    refine eb_goto (pc := 8) (tgt := 35) rfl (by decide) ?_
    simp only [if_pos c1] at jj4 ⊢
    exact jj4
theorem T_X11_cut {d : Nat} {h : eb_H} {Q : Option Value → eb_H → Prop} (x0 : Int64) (x2 : Int32)  (ko : eb_KO h) (w : Q (some (.long (if x2 = 0 then x0.toInt32.toInt8.toInt32.toInt64 else (if x2 = (1 : Int32) then x0.toInt32.toInt16.toInt32.toInt64 else (if x2 = (2 : Int32) then x0.toInt32.toInt64 else x0)) : Int64))) h) : eb_Ct d 276 [.long x0, .int x2] h Q :=
  eb_bodyQ (by decide) ok_X11_cut (Nat.le_of_ble_eq_true rfl) (b_X11_cut_0 (h0 := h) x0 x2  ko w)
theorem b_X11_numbers_0 {d : Nat} {h0 h : eb_H} {Q : Option Value → eb_H → Prop} (x1 : Int32) (x2 : Int32) (x3 : Int32)  (ko : eb_KO h) (w : eb_Ct d 156 [.long x1.toInt64, .long 0, .long 3] (eb_sI h s_MO 0 0) (fun r h1 => ∃ y2, r = some (.int y2) ∧ eb_KO h1 ∧ ((y2 = 0 → Q (some (.int (-2))) h1) ∧ (¬ (y2 = 0) → eb_Ct d 156 [.long x2.toInt64, .long 0, .long 3] h1 (fun r h5 => ∃ y6, r = some (.int y6) ∧ eb_KO h5 ∧ ((¬ y6 = 0 → eb_Ct d 156 [.long x3.toInt64, .long 0, .long 40] h5 (fun r h9 => ∃ y10, r = some (.int y10) ∧ eb_KO h9 ∧ ((¬ y10 = 0 → (vp_in x1 4) ∧ (vp_in x1 4) ∧ eb_Sn (d + 1) m_X11_numbers h0 64 [(0, .ref s_MO), (1, .int x1), (3, .int x3), (4, .int 0)] [] (eb_sI (eb_sI h9 s_m_rowSort x1.toNatClampNeg x2) s_m_rowMany x1.toNatClampNeg x3) Q) ∧ (y10 = 0 → Q (some (.int (-3))) h9)))) ∧ (y6 = 0 → Q (some (.int (-2))) h5))))))) : eb_Sn (d + 1) m_X11_numbers h0 0 [(0, .ref s_MO), (1, .int x1), (2, .int x2), (3, .int x3)] [] h Q := by
  refine eb_aload_n (pc := 0) (n := 0) (i := 0) rfl rfl rfl ?_
  refine eb_iconst (pc := 1) (n := 0) (v := 0) rfl rfl ?_
  refine eb_putI (pc := 2) rfl rfl (by decide) (by decide) rfl rfl ⟨rfl, rfl⟩ ?_
  refine eb_iload_n (pc := 5) (n := 1) (i := 1) rfl rfl rfl ?_
  refine eb_i2l (pc := 6) rfl ?_
  refine eb_lconst (pc := 7) (n := 0) (v := 0) rfl rfl ?_
  refine eb_ldc2 (pc := 8) (a := 3) (v := 3) rfl (by decide) ?_
  refine eb_ctS (pc := 11) (As := [.long x1.toInt64, .long 0, .long 3]) (rest := []) rfl (by decide) (by decide) rfl rfl (Nat.le_of_ble_eq_true rfl) ?_
  refine eb_Ct.mono w ?_
  rintro r h1 ⟨y2, rfl, ko3, w⟩
  change eb_Sn _ _ _ 14 _ [.int y2] _ _
  refine eb_if_eq (pc := 14) (tgt := 29) rfl (by decide) (fun c4 => ?_) (fun c4 => ?_)
  · replace w := w.1 c4
    refine eb_bipush (pc := 29) (n := -2) (v := (-2)) rfl rfl ?_
    exact eb_ireturn (pc := 31) rfl rfl rfl w
  · replace w := w.2 c4
    refine eb_iload_n (pc := 17) (n := 2) (i := 2) rfl rfl rfl ?_
    refine eb_i2l (pc := 18) rfl ?_
    refine eb_lconst (pc := 19) (n := 0) (v := 0) rfl rfl ?_
    refine eb_ldc2 (pc := 20) (a := 3) (v := 3) rfl (by decide) ?_
    refine eb_ctS (pc := 23) (As := [.long x2.toInt64, .long 0, .long 3]) (rest := []) rfl (by decide) (by decide) rfl rfl (Nat.le_of_ble_eq_true rfl) ?_
    refine eb_Ct.mono w ?_
    rintro r h5 ⟨y6, rfl, ko7, w⟩
    change eb_Sn _ _ _ 26 _ [.int y6] _ _
    refine eb_if_ne (pc := 26) (tgt := 32) rfl (by decide) (fun c8 => ?_) (fun c8 => ?_)
    · replace w := w.1 c8
      refine eb_iload_n (pc := 32) (n := 3) (i := 3) rfl rfl rfl ?_
      refine eb_i2l (pc := 33) rfl ?_
      refine eb_lconst (pc := 34) (n := 0) (v := 0) rfl rfl ?_
      refine eb_ldc2 (pc := 35) (a := 40) (v := 40) rfl (by decide) ?_
      refine eb_ctS (pc := 38) (As := [.long x3.toInt64, .long 0, .long 40]) (rest := []) rfl (by decide) (by decide) rfl rfl (Nat.le_of_ble_eq_true rfl) ?_
      refine eb_Ct.mono w ?_
      rintro r h9 ⟨y10, rfl, ko11, w⟩
      change eb_Sn _ _ _ 41 _ [.int y10] _ _
      refine eb_if_ne (pc := 41) (tgt := 47) rfl (by decide) (fun c12 => ?_) (fun c12 => ?_)
      · replace w := w.1 c12
        refine eb_aload_n (pc := 47) (n := 0) (i := 0) rfl rfl rfl ?_
        refine eb_getR (pc := 48) rfl rfl (by decide) (by decide) rfl (ko_s_MO_28 ko11) ?_
        refine eb_iload_n (pc := 51) (n := 1) (i := 1) rfl rfl rfl ?_
        refine eb_iload_n (pc := 52) (n := 2) (i := 2) rfl rfl rfl ?_
        obtain ⟨c13, w⟩ := w
        refine eb_iastore (pc := 53) rfl rfl c13 ?_
        refine eb_aload_n (pc := 54) (n := 0) (i := 0) rfl rfl rfl ?_
        refine eb_getR (pc := 55) rfl rfl (by decide) (by decide) rfl (ko_s_MO_29 ko11) ?_
        refine eb_iload_n (pc := 58) (n := 1) (i := 1) rfl rfl rfl ?_
        refine eb_iload_n (pc := 59) (n := 3) (i := 3) rfl rfl rfl ?_
        obtain ⟨c14, w⟩ := w
        refine eb_iastore (pc := 60) rfl rfl c14 ?_
        refine eb_iconst (pc := 61) (n := 0) (v := 0) rfl rfl ?_
        refine eb_istore (pc := 62) (i := 4) (ls2 := [(4, .int 0), (0, .ref s_MO), (1, .int x1), (2, .int x2), (3, .int x3)]) (Nat.le_of_ble_eq_true rfl) rfl rfl ?_
        exact eb_pick [1, 2, 4, 0] rfl w
      · replace w := w.2 c12
        refine eb_bipush (pc := 44) (n := -3) (v := (-3)) rfl rfl ?_
        exact eb_ireturn (pc := 46) rfl rfl rfl w
    · replace w := w.2 c8
      refine eb_bipush (pc := 29) (n := -2) (v := (-2)) rfl rfl ?_
      exact eb_ireturn (pc := 31) rfl rfl rfl w
theorem b_X11_numbers_64 {d : Nat} {h0 h : eb_H} {Q : Option Value → eb_H → Prop} (x1 : Int32) (x3 : Int32) (x4 : Int32)  (ko : eb_KO h) (w : ((x3 ≤ x4 → Q (some (.int 0)) h) ∧ (¬ (x3 ≤ x4) → (vp_in (((40 : Int32) * x1) + x4) 160) ∧ eb_Sn (d + 1) m_X11_numbers h0 64 [(0, .ref s_MO), (1, .int x1), (3, .int x3), (4, .int (x4 + 1))] [] (eb_sJ h s_m_numbers (((40 : Int32) * x1) + x4).toNatClampNeg 0) Q))) : eb_Sn (d + 1) m_X11_numbers h0 64 [(0, .ref s_MO), (1, .int x1), (3, .int x3), (4, .int x4)] [] h Q := by
  refine eb_iload (pc := 64) (i := 4) rfl rfl ?_
  refine eb_iload_n (pc := 66) (n := 3) (i := 3) rfl rfl rfl ?_
  refine eb_icmp_ge (pc := 67) (tgt := 89) rfl (by decide) (fun c1 => ?_) (fun c1 => ?_)
  · replace w := w.1 c1
    refine eb_iconst (pc := 89) (n := 0) (v := 0) rfl rfl ?_
    exact eb_ireturn (pc := 90) rfl rfl rfl w
  · replace w := w.2 c1
    refine eb_aload_n (pc := 70) (n := 0) (i := 0) rfl rfl rfl ?_
    refine eb_getR (pc := 71) rfl rfl (by decide) (by decide) rfl (ko_s_MO_30 ko) ?_
    refine eb_bipush (pc := 74) (n := 40) (v := 40) rfl rfl ?_
    refine eb_iload_n (pc := 76) (n := 1) (i := 1) rfl rfl rfl ?_
    refine eb_imul (pc := 77) rfl ?_
    refine eb_iload (pc := 78) (i := 4) rfl rfl ?_
    refine eb_iadd (pc := 80) rfl ?_
    refine eb_lconst (pc := 81) (n := 0) (v := 0) rfl rfl ?_
    obtain ⟨c2, w⟩ := w
    refine eb_lastore (pc := 82) rfl rfl c2 ?_
    refine eb_iinc (pc := 83) (i := 4) (n := 1) (v := x4 + 1) (ls2 := [(4, .int (x4 + 1)), (0, .ref s_MO), (1, .int x1), (3, .int x3)]) (Nat.le_of_ble_eq_true rfl) rfl rfl rfl rfl ?_
    refine eb_goto (pc := 86) (tgt := 64) rfl (by decide) ?_
    exact eb_pick [1, 2, 3, 0] rfl w
theorem T_X11_numbers {d : Nat} {h : eb_H} {Q : Option Value → eb_H → Prop} (x1 : Int32) (x2 : Int32) (x3 : Int32)  (ko : eb_KO h) (w : eb_Ct d 156 [.long x1.toInt64, .long 0, .long 3] (eb_sI h s_MO 0 0) (fun r h1 => ∃ y2, r = some (.int y2) ∧ eb_KO h1 ∧ ((y2 = 0 → Q (some (.int (-2))) h1) ∧ (¬ (y2 = 0) → eb_Ct d 156 [.long x2.toInt64, .long 0, .long 3] h1 (fun r h5 => ∃ y6, r = some (.int y6) ∧ eb_KO h5 ∧ ((¬ y6 = 0 → eb_Ct d 156 [.long x3.toInt64, .long 0, .long 40] h5 (fun r h9 => ∃ y10, r = some (.int y10) ∧ eb_KO h9 ∧ ((¬ y10 = 0 → (vp_in x1 4) ∧ (vp_in x1 4) ∧ eb_Sn (d + 1) m_X11_numbers h 64 [(0, .ref s_MO), (1, .int x1), (3, .int x3), (4, .int 0)] [] (eb_sI (eb_sI h9 s_m_rowSort x1.toNatClampNeg x2) s_m_rowMany x1.toNatClampNeg x3) Q) ∧ (y10 = 0 → Q (some (.int (-3))) h9)))) ∧ (y6 = 0 → Q (some (.int (-2))) h5))))))) : eb_Ct (d + 1) 277 [.ref s_MO, .int x1, .int x2, .int x3] h Q :=
  eb_bodyQ (by decide) ok_X11_numbers (Nat.le_of_ble_eq_true rfl) (b_X11_numbers_0 (h0 := h) x1 x2 x3  ko w)
theorem b_X11_write_0 {d : Nat} {h0 h : eb_H} {Q : Option Value → eb_H → Prop} (x1 : Int32) (x2 : Int32) (x3 : Int64)  (ko : eb_KO h) (w : eb_Ct d 221 [.ref s_MO, .int x1] (eb_sI h s_MO 0 0) (fun r h1 => ∃ y2, r = some (.int y2) ∧ eb_KO h1 ∧ ((y2 = 0 → (vp_in x1 4) ∧ eb_Ct d 156 [.long x2.toInt64, .long 0, .long (((eb_I h1 s_m_rowMany x1.toNatClampNeg) - 1).toInt64)] h1 (fun r h6 => ∃ y7, r = some (.int y7) ∧ eb_KO h6 ∧ ((¬ y7 = 0 → (vp_in x1 4) ∧ eb_Ct d 276 [.long x3, .int (eb_I h6 s_m_rowSort x1.toNatClampNeg)] h6 (fun r h11 => ∃ y12, r = some (.long y12) ∧ eb_KO h11 ∧ (vp_in (((40 : Int32) * x1) + x2) 160) ∧ (vp_in (((40 : Int32) * x1) + x2) 160) ∧ Q (some (.long (eb_J (eb_sJ h11 s_m_numbers (((40 : Int32) * x1) + x2).toNatClampNeg y12) s_m_numbers (((40 : Int32) * x1) + x2).toNatClampNeg))) (eb_sJ h11 s_m_numbers (((40 : Int32) * x1) + x2).toNatClampNeg y12))) ∧ (y7 = 0 → Q (some (.long (-7))) h6)))) ∧ (¬ (y2 = 0) → Q (some (.long y2.toInt64)) h1)))) : eb_Sn (d + 1) m_X11_write h0 0 [(0, .ref s_MO), (1, .int x1), (2, .int x2), (3, .long x3)] [] h Q := by
  refine eb_aload_n (pc := 0) (n := 0) (i := 0) rfl rfl rfl ?_
  refine eb_iconst (pc := 1) (n := 0) (v := 0) rfl rfl ?_
  refine eb_putI (pc := 2) rfl rfl (by decide) (by decide) rfl rfl ⟨rfl, rfl⟩ ?_
  refine eb_aload_n (pc := 5) (n := 0) (i := 0) rfl rfl rfl ?_
  refine eb_iload_n (pc := 6) (n := 1) (i := 1) rfl rfl rfl ?_
  refine eb_ctV (pc := 7) (As := [.int x1]) (rest := []) rfl (by decide) rfl rfl (by decide) rfl (Nat.le_of_ble_eq_true rfl) ?_
  refine eb_Ct.mono w ?_
  rintro r h1 ⟨y2, rfl, ko3, w⟩
  change eb_Sn _ _ _ 10 _ [.int y2] _ _
  refine eb_istore (pc := 10) (i := 5) (ls2 := [(5, .int y2), (0, .ref s_MO), (1, .int x1), (2, .int x2), (3, .long x3)]) (Nat.le_of_ble_eq_true rfl) rfl rfl ?_
  refine eb_iload (pc := 12) (i := 5) rfl rfl ?_
  refine eb_if_eq (pc := 14) (tgt := 21) rfl (by decide) (fun c4 => ?_) (fun c4 => ?_)
  · replace w := w.1 c4
    refine eb_iload_n (pc := 21) (n := 2) (i := 2) rfl rfl rfl ?_
    refine eb_i2l (pc := 22) rfl ?_
    refine eb_lconst (pc := 23) (n := 0) (v := 0) rfl rfl ?_
    refine eb_aload_n (pc := 24) (n := 0) (i := 0) rfl rfl rfl ?_
    refine eb_getR (pc := 25) rfl rfl (by decide) (by decide) rfl (ko_s_MO_29 ko3) ?_
    refine eb_iload_n (pc := 28) (n := 1) (i := 1) rfl rfl rfl ?_
    obtain ⟨c5, w⟩ := w
    refine eb_iaload (pc := 29) rfl rfl c5 ?_
    refine eb_iconst (pc := 30) (n := 1) (v := 1) rfl rfl ?_
    refine eb_isub (pc := 31) rfl ?_
    refine eb_i2l (pc := 32) rfl ?_
    refine eb_ctS (pc := 33) (As := [.long x2.toInt64, .long 0, .long (((eb_I h1 s_m_rowMany x1.toNatClampNeg) - 1).toInt64)]) (rest := []) rfl (by decide) (by decide) rfl rfl (Nat.le_of_ble_eq_true rfl) ?_
    refine eb_Ct.mono w ?_
    rintro r h6 ⟨y7, rfl, ko8, w⟩
    change eb_Sn _ _ _ 36 _ [.int y7] _ _
    refine eb_if_ne (pc := 36) (tgt := 43) rfl (by decide) (fun c9 => ?_) (fun c9 => ?_)
    · replace w := w.1 c9
      refine eb_aload_n (pc := 43) (n := 0) (i := 0) rfl rfl rfl ?_
      refine eb_getR (pc := 44) rfl rfl (by decide) (by decide) rfl (ko_s_MO_30 ko8) ?_
      refine eb_bipush (pc := 47) (n := 40) (v := 40) rfl rfl ?_
      refine eb_iload_n (pc := 49) (n := 1) (i := 1) rfl rfl rfl ?_
      refine eb_imul (pc := 50) rfl ?_
      refine eb_iload_n (pc := 51) (n := 2) (i := 2) rfl rfl rfl ?_
      refine eb_iadd (pc := 52) rfl ?_
      refine eb_lload_n (pc := 53) (n := 3) (i := 3) rfl rfl rfl ?_
      refine eb_aload_n (pc := 54) (n := 0) (i := 0) rfl rfl rfl ?_
      refine eb_getR (pc := 55) rfl rfl (by decide) (by decide) rfl (ko_s_MO_28 ko8) ?_
      refine eb_iload_n (pc := 58) (n := 1) (i := 1) rfl rfl rfl ?_
      obtain ⟨c10, w⟩ := w
      refine eb_iaload (pc := 59) rfl rfl c10 ?_
      refine eb_ctS (pc := 60) (As := [.long x3, .int (eb_I h6 s_m_rowSort x1.toNatClampNeg)]) (rest := [.int (((40 : Int32) * x1) + x2), .ref s_m_numbers]) rfl (by decide) (by decide) rfl rfl (Nat.le_of_ble_eq_true rfl) ?_
      refine eb_Ct.mono w ?_
      rintro r h11 ⟨y12, rfl, ko13, w⟩
      change eb_Sn _ _ _ 63 _ [.long y12, .int (((40 : Int32) * x1) + x2), .ref s_m_numbers] _ _
      obtain ⟨c14, w⟩ := w
      refine eb_lastore (pc := 63) rfl rfl c14 ?_
      refine eb_aload_n (pc := 64) (n := 0) (i := 0) rfl rfl rfl ?_
      refine eb_getR (pc := 65) rfl rfl (by decide) (by decide) rfl (ko_s_MO_30 ko13) ?_
      refine eb_bipush (pc := 68) (n := 40) (v := 40) rfl rfl ?_
      refine eb_iload_n (pc := 70) (n := 1) (i := 1) rfl rfl rfl ?_
      refine eb_imul (pc := 71) rfl ?_
      refine eb_iload_n (pc := 72) (n := 2) (i := 2) rfl rfl rfl ?_
      refine eb_iadd (pc := 73) rfl ?_
      obtain ⟨c15, w⟩ := w
      refine eb_laload (pc := 74) rfl rfl c15 ?_
      exact eb_lreturn (pc := 75) rfl rfl w
    · replace w := w.2 c9
      refine eb_ldc2 (pc := 39) (a := 18446744073709551609) (v := (-7)) rfl (by decide) ?_
      exact eb_lreturn (pc := 42) rfl rfl w
  · replace w := w.2 c4
    refine eb_iload (pc := 17) (i := 5) rfl rfl ?_
    refine eb_i2l (pc := 19) rfl ?_
    exact eb_lreturn (pc := 20) rfl rfl w
theorem T_X11_write {d : Nat} {h : eb_H} {Q : Option Value → eb_H → Prop} (x1 : Int32) (x2 : Int32) (x3 : Int64)  (ko : eb_KO h) (w : eb_Ct d 221 [.ref s_MO, .int x1] (eb_sI h s_MO 0 0) (fun r h1 => ∃ y2, r = some (.int y2) ∧ eb_KO h1 ∧ ((y2 = 0 → (vp_in x1 4) ∧ eb_Ct d 156 [.long x2.toInt64, .long 0, .long (((eb_I h1 s_m_rowMany x1.toNatClampNeg) - 1).toInt64)] h1 (fun r h6 => ∃ y7, r = some (.int y7) ∧ eb_KO h6 ∧ ((¬ y7 = 0 → (vp_in x1 4) ∧ eb_Ct d 276 [.long x3, .int (eb_I h6 s_m_rowSort x1.toNatClampNeg)] h6 (fun r h11 => ∃ y12, r = some (.long y12) ∧ eb_KO h11 ∧ (vp_in (((40 : Int32) * x1) + x2) 160) ∧ (vp_in (((40 : Int32) * x1) + x2) 160) ∧ Q (some (.long (eb_J (eb_sJ h11 s_m_numbers (((40 : Int32) * x1) + x2).toNatClampNeg y12) s_m_numbers (((40 : Int32) * x1) + x2).toNatClampNeg))) (eb_sJ h11 s_m_numbers (((40 : Int32) * x1) + x2).toNatClampNeg y12))) ∧ (y7 = 0 → Q (some (.long (-7))) h6)))) ∧ (¬ (y2 = 0) → Q (some (.long y2.toInt64)) h1)))) : eb_Ct (d + 1) 278 [.ref s_MO, .int x1, .int x2, .long x3] h Q :=
  eb_bodyQ (by decide) ok_X11_write (Nat.le_of_ble_eq_true rfl) (b_X11_write_0 (h0 := h) x1 x2 x3  ko w)
theorem b_X11_lists_0 {d : Nat} {h0 h : eb_H} {Q : Option Value → eb_H → Prop} (x1 : Int32) (x2 : Int32) (x3 : Int32) (x4 : Int32)  (ko : eb_KO h) (w : eb_Ct d 156 [.long x1.toInt64, .long 0, .long 3] (eb_sI h s_MO 0 0) (fun r h1 => ∃ y2, r = some (.int y2) ∧ eb_KO h1 ∧ ((y2 = 0 → Q (some (.int (-2))) h1) ∧ (¬ (y2 = 0) → eb_Ct d 191 [.ref s_MO, .long x2.toInt64] h1 (fun r h5 => ∃ y6, r = some (.int y6) ∧ eb_KO h5 ∧ ((¬ y6 = 0 → eb_Ct d 221 [.ref s_MO, .int x1] h5 (fun r h9 => ∃ y10, r = some (.int y10) ∧ eb_KO h9 ∧ ((y10 = 0 → eb_Ct d 233 [.ref s_MO, .int x2, .int x3, .int x4] h9 (fun r h13 => ∃ y14, r = some (.int y14) ∧ eb_KO h13 ∧ ((y14 = 0 → eb_Ct d 232 [.ref s_MO, .int x2, .int x3, .int x4] h13 (fun r h17 => ∃ y18, r = some (.int y18) ∧ eb_KO h17 ∧ ((¬ y18 = (268435456 : Int32) → (vp_in x1 4) ∧ (((eb_I h17 s_m_rowMany x1.toNatClampNeg) ≤ y18 → (vp_in x1 4) ∧ eb_Sn (d + 1) m_X11_lists h0 110 [(0, .ref s_MO), (1, .int x1), (7, .int (eb_I h17 s_m_rowMany x1.toNatClampNeg)), (8, .int 0)] [] h17 Q) ∧ (¬ ((eb_I h17 s_m_rowMany x1.toNatClampNeg) ≤ y18) → eb_Sn (d + 1) m_X11_lists h0 110 [(0, .ref s_MO), (1, .int x1), (7, .int y18), (8, .int 0)] [] h17 Q))) ∧ (y18 = (268435456 : Int32) → Q (some (.int (-5))) h17)))) ∧ (¬ (y14 = 0) → Q (some (.int y14)) h13)))) ∧ (¬ (y10 = 0) → Q (some (.int y10)) h9)))) ∧ (y6 = 0 → Q (some (.int (-2))) h5))))))) : eb_Sn (d + 1) m_X11_lists h0 0 [(0, .ref s_MO), (1, .int x1), (2, .int x2), (3, .int x3), (4, .int x4)] [] h Q := by
  refine eb_aload_n (pc := 0) (n := 0) (i := 0) rfl rfl rfl ?_
  refine eb_iconst (pc := 1) (n := 0) (v := 0) rfl rfl ?_
  refine eb_putI (pc := 2) rfl rfl (by decide) (by decide) rfl rfl ⟨rfl, rfl⟩ ?_
  refine eb_iload_n (pc := 5) (n := 1) (i := 1) rfl rfl rfl ?_
  refine eb_i2l (pc := 6) rfl ?_
  refine eb_lconst (pc := 7) (n := 0) (v := 0) rfl rfl ?_
  refine eb_ldc2 (pc := 8) (a := 3) (v := 3) rfl (by decide) ?_
  refine eb_ctS (pc := 11) (As := [.long x1.toInt64, .long 0, .long 3]) (rest := []) rfl (by decide) (by decide) rfl rfl (Nat.le_of_ble_eq_true rfl) ?_
  refine eb_Ct.mono w ?_
  rintro r h1 ⟨y2, rfl, ko3, w⟩
  change eb_Sn _ _ _ 14 _ [.int y2] _ _
  refine eb_if_eq (pc := 14) (tgt := 26) rfl (by decide) (fun c4 => ?_) (fun c4 => ?_)
  · replace w := w.1 c4
    refine eb_bipush (pc := 26) (n := -2) (v := (-2)) rfl rfl ?_
    exact eb_ireturn (pc := 28) rfl rfl rfl w
  · replace w := w.2 c4
    refine eb_aload_n (pc := 17) (n := 0) (i := 0) rfl rfl rfl ?_
    refine eb_iload_n (pc := 18) (n := 2) (i := 2) rfl rfl rfl ?_
    refine eb_i2l (pc := 19) rfl ?_
    refine eb_ctV (pc := 20) (As := [.long x2.toInt64]) (rest := []) rfl (by decide) rfl rfl (by decide) rfl (Nat.le_of_ble_eq_true rfl) ?_
    refine eb_Ct.mono w ?_
    rintro r h5 ⟨y6, rfl, ko7, w⟩
    change eb_Sn _ _ _ 23 _ [.int y6] _ _
    refine eb_if_ne (pc := 23) (tgt := 29) rfl (by decide) (fun c8 => ?_) (fun c8 => ?_)
    · replace w := w.1 c8
      refine eb_aload_n (pc := 29) (n := 0) (i := 0) rfl rfl rfl ?_
      refine eb_iload_n (pc := 30) (n := 1) (i := 1) rfl rfl rfl ?_
      refine eb_ctV (pc := 31) (As := [.int x1]) (rest := []) rfl (by decide) rfl rfl (by decide) rfl (Nat.le_of_ble_eq_true rfl) ?_
      refine eb_Ct.mono w ?_
      rintro r h9 ⟨y10, rfl, ko11, w⟩
      change eb_Sn _ _ _ 34 _ [.int y10] _ _
      refine eb_istore (pc := 34) (i := 5) (ls2 := [(5, .int y10), (0, .ref s_MO), (1, .int x1), (2, .int x2), (3, .int x3), (4, .int x4)]) (Nat.le_of_ble_eq_true rfl) rfl rfl ?_
      refine eb_iload (pc := 36) (i := 5) rfl rfl ?_
      refine eb_if_eq (pc := 38) (tgt := 44) rfl (by decide) (fun c12 => ?_) (fun c12 => ?_)
      · replace w := w.1 c12
        refine eb_aload_n (pc := 44) (n := 0) (i := 0) rfl rfl rfl ?_
        refine eb_iload_n (pc := 45) (n := 2) (i := 2) rfl rfl rfl ?_
        refine eb_iload_n (pc := 46) (n := 3) (i := 3) rfl rfl rfl ?_
        refine eb_iload (pc := 47) (i := 4) rfl rfl ?_
        refine eb_ctV (pc := 49) (As := [.int x2, .int x3, .int x4]) (rest := []) rfl (by decide) rfl rfl (by decide) rfl (Nat.le_of_ble_eq_true rfl) ?_
        refine eb_Ct.mono w ?_
        rintro r h13 ⟨y14, rfl, ko15, w⟩
        change eb_Sn _ _ _ 52 _ [.int y14] _ _
        refine eb_istore (pc := 52) (i := 5) (ls2 := [(5, .int y14), (0, .ref s_MO), (1, .int x1), (2, .int x2), (3, .int x3), (4, .int x4)]) (Nat.le_of_ble_eq_true rfl) rfl rfl ?_
        refine eb_iload (pc := 54) (i := 5) rfl rfl ?_
        refine eb_if_eq (pc := 56) (tgt := 62) rfl (by decide) (fun c16 => ?_) (fun c16 => ?_)
        · replace w := w.1 c16
          refine eb_aload_n (pc := 62) (n := 0) (i := 0) rfl rfl rfl ?_
          refine eb_iload_n (pc := 63) (n := 2) (i := 2) rfl rfl rfl ?_
          refine eb_iload_n (pc := 64) (n := 3) (i := 3) rfl rfl rfl ?_
          refine eb_iload (pc := 65) (i := 4) rfl rfl ?_
          refine eb_ctV (pc := 67) (As := [.int x2, .int x3, .int x4]) (rest := []) rfl (by decide) rfl rfl (by decide) rfl (Nat.le_of_ble_eq_true rfl) ?_
          refine eb_Ct.mono w ?_
          rintro r h17 ⟨y18, rfl, ko19, w⟩
          change eb_Sn _ _ _ 70 _ [.int y18] _ _
          refine eb_istore (pc := 70) (i := 6) (ls2 := [(6, .int y18), (5, .int y14), (0, .ref s_MO), (1, .int x1), (2, .int x2), (3, .int x3), (4, .int x4)]) (Nat.le_of_ble_eq_true rfl) rfl rfl ?_
          refine eb_iload (pc := 72) (i := 6) rfl rfl ?_
          refine eb_ldcw (pc := 74) (a := 268435456) (v := 268435456) rfl (by decide) ?_
          refine eb_icmp_ne (pc := 77) (tgt := 83) rfl (by decide) (fun c20 => ?_) (fun c20 => ?_)
          · replace w := w.1 c20
            refine eb_iload (pc := 83) (i := 6) rfl rfl ?_
            refine eb_aload_n (pc := 85) (n := 0) (i := 0) rfl rfl rfl ?_
            refine eb_getR (pc := 86) rfl rfl (by decide) (by decide) rfl (ko_s_MO_29 ko19) ?_
            refine eb_iload_n (pc := 89) (n := 1) (i := 1) rfl rfl rfl ?_
            obtain ⟨c21, w⟩ := w
            refine eb_iaload (pc := 90) rfl rfl c21 ?_
            refine eb_icmp_ge (pc := 91) (tgt := 99) rfl (by decide) (fun c22 => ?_) (fun c22 => ?_)
            · replace w := w.1 c22
              refine eb_aload_n (pc := 99) (n := 0) (i := 0) rfl rfl rfl ?_
              refine eb_getR (pc := 100) rfl rfl (by decide) (by decide) rfl (ko_s_MO_29 ko19) ?_
              refine eb_iload_n (pc := 103) (n := 1) (i := 1) rfl rfl rfl ?_
              obtain ⟨c23, w⟩ := w
              refine eb_iaload (pc := 104) rfl rfl c23 ?_
              refine eb_istore (pc := 105) (i := 7) (ls2 := [(7, .int (eb_I h17 s_m_rowMany x1.toNatClampNeg)), (6, .int y18), (5, .int y14), (0, .ref s_MO), (1, .int x1), (2, .int x2), (3, .int x3), (4, .int x4)]) (Nat.le_of_ble_eq_true rfl) rfl rfl ?_
              refine eb_iconst (pc := 107) (n := 0) (v := 0) rfl rfl ?_
              refine eb_istore (pc := 108) (i := 8) (ls2 := [(8, .int 0), (7, .int (eb_I h17 s_m_rowMany x1.toNatClampNeg)), (6, .int y18), (5, .int y14), (0, .ref s_MO), (1, .int x1), (2, .int x2), (3, .int x3), (4, .int x4)]) (Nat.le_of_ble_eq_true rfl) rfl rfl ?_
              exact eb_pick [4, 5, 1, 0] rfl w
            · replace w := w.2 c22
              refine eb_iload (pc := 94) (i := 6) rfl rfl ?_
              refine eb_goto (pc := 96) (tgt := 105) rfl (by decide) ?_
              refine eb_istore (pc := 105) (i := 7) (ls2 := [(7, .int y18), (6, .int y18), (5, .int y14), (0, .ref s_MO), (1, .int x1), (2, .int x2), (3, .int x3), (4, .int x4)]) (Nat.le_of_ble_eq_true rfl) rfl rfl ?_
              refine eb_iconst (pc := 107) (n := 0) (v := 0) rfl rfl ?_
              refine eb_istore (pc := 108) (i := 8) (ls2 := [(8, .int 0), (7, .int y18), (6, .int y18), (5, .int y14), (0, .ref s_MO), (1, .int x1), (2, .int x2), (3, .int x3), (4, .int x4)]) (Nat.le_of_ble_eq_true rfl) rfl rfl ?_
              exact eb_pick [4, 5, 1, 0] rfl w
          · replace w := w.2 c20
            refine eb_bipush (pc := 80) (n := -5) (v := (-5)) rfl rfl ?_
            exact eb_ireturn (pc := 82) rfl rfl rfl w
        · replace w := w.2 c16
          refine eb_iload (pc := 59) (i := 5) rfl rfl ?_
          exact eb_ireturn (pc := 61) rfl rfl rfl w
      · replace w := w.2 c12
        refine eb_iload (pc := 41) (i := 5) rfl rfl ?_
        exact eb_ireturn (pc := 43) rfl rfl rfl w
    · replace w := w.2 c8
      refine eb_bipush (pc := 26) (n := -2) (v := (-2)) rfl rfl ?_
      exact eb_ireturn (pc := 28) rfl rfl rfl w
theorem b_X11_lists_110 {d : Nat} {h0 h : eb_H} {Q : Option Value → eb_H → Prop} (x1 : Int32) (x7 : Int32) (x8 : Int32)  (ko : eb_KO h) (w : ((x7 ≤ x8 → Q (some (.int x7)) h) ∧ (¬ (x7 ≤ x8) → eb_Ct d 234 [.ref s_MO, .int x8] h (fun r h2 => ∃ y3, r = some (.int y3) ∧ eb_KO h2 ∧ (vp_in (((40 : Int32) * x1) + x8) 160) ∧ eb_Sn (d + 1) m_X11_lists h0 110 [(0, .ref s_MO), (1, .int x1), (7, .int x7), (8, .int (x8 + 1))] [] (eb_sJ h2 s_m_numbers (((40 : Int32) * x1) + x8).toNatClampNeg y3.toInt64) Q)))) : eb_Sn (d + 1) m_X11_lists h0 110 [(0, .ref s_MO), (1, .int x1), (7, .int x7), (8, .int x8)] [] h Q := by
  refine eb_iload (pc := 110) (i := 8) rfl rfl ?_
  refine eb_iload (pc := 112) (i := 7) rfl rfl ?_
  refine eb_icmp_ge (pc := 114) (tgt := 142) rfl (by decide) (fun c1 => ?_) (fun c1 => ?_)
  · replace w := w.1 c1
    refine eb_iload (pc := 142) (i := 7) rfl rfl ?_
    exact eb_ireturn (pc := 144) rfl rfl rfl w
  · replace w := w.2 c1
    refine eb_aload_n (pc := 117) (n := 0) (i := 0) rfl rfl rfl ?_
    refine eb_getR (pc := 118) rfl rfl (by decide) (by decide) rfl (ko_s_MO_30 ko) ?_
    refine eb_bipush (pc := 121) (n := 40) (v := 40) rfl rfl ?_
    refine eb_iload_n (pc := 123) (n := 1) (i := 1) rfl rfl rfl ?_
    refine eb_imul (pc := 124) rfl ?_
    refine eb_iload (pc := 125) (i := 8) rfl rfl ?_
    refine eb_iadd (pc := 127) rfl ?_
    refine eb_aload_n (pc := 128) (n := 0) (i := 0) rfl rfl rfl ?_
    refine eb_iload (pc := 129) (i := 8) rfl rfl ?_
    refine eb_ctV (pc := 131) (As := [.int x8]) (rest := [.int (((40 : Int32) * x1) + x8), .ref s_m_numbers]) rfl (by decide) rfl rfl (by decide) rfl (Nat.le_of_ble_eq_true rfl) ?_
    refine eb_Ct.mono w ?_
    rintro r h2 ⟨y3, rfl, ko4, w⟩
    change eb_Sn _ _ _ 134 _ [.int y3, .int (((40 : Int32) * x1) + x8), .ref s_m_numbers] _ _
    refine eb_i2l (pc := 134) rfl ?_
    obtain ⟨c5, w⟩ := w
    refine eb_lastore (pc := 135) rfl rfl c5 ?_
    refine eb_iinc (pc := 136) (i := 8) (n := 1) (v := x8 + 1) (ls2 := [(8, .int (x8 + 1)), (0, .ref s_MO), (1, .int x1), (7, .int x7)]) (Nat.le_of_ble_eq_true rfl) rfl rfl rfl rfl ?_
    refine eb_goto (pc := 139) (tgt := 110) rfl (by decide) ?_
    exact eb_pick [1, 2, 3, 0] rfl w
theorem T_X11_lists {d : Nat} {h : eb_H} {Q : Option Value → eb_H → Prop} (x1 : Int32) (x2 : Int32) (x3 : Int32) (x4 : Int32)  (ko : eb_KO h) (w : eb_Ct d 156 [.long x1.toInt64, .long 0, .long 3] (eb_sI h s_MO 0 0) (fun r h1 => ∃ y2, r = some (.int y2) ∧ eb_KO h1 ∧ ((y2 = 0 → Q (some (.int (-2))) h1) ∧ (¬ (y2 = 0) → eb_Ct d 191 [.ref s_MO, .long x2.toInt64] h1 (fun r h5 => ∃ y6, r = some (.int y6) ∧ eb_KO h5 ∧ ((¬ y6 = 0 → eb_Ct d 221 [.ref s_MO, .int x1] h5 (fun r h9 => ∃ y10, r = some (.int y10) ∧ eb_KO h9 ∧ ((y10 = 0 → eb_Ct d 233 [.ref s_MO, .int x2, .int x3, .int x4] h9 (fun r h13 => ∃ y14, r = some (.int y14) ∧ eb_KO h13 ∧ ((y14 = 0 → eb_Ct d 232 [.ref s_MO, .int x2, .int x3, .int x4] h13 (fun r h17 => ∃ y18, r = some (.int y18) ∧ eb_KO h17 ∧ ((¬ y18 = (268435456 : Int32) → (vp_in x1 4) ∧ (((eb_I h17 s_m_rowMany x1.toNatClampNeg) ≤ y18 → (vp_in x1 4) ∧ eb_Sn (d + 1) m_X11_lists h 110 [(0, .ref s_MO), (1, .int x1), (7, .int (eb_I h17 s_m_rowMany x1.toNatClampNeg)), (8, .int 0)] [] h17 Q) ∧ (¬ ((eb_I h17 s_m_rowMany x1.toNatClampNeg) ≤ y18) → eb_Sn (d + 1) m_X11_lists h 110 [(0, .ref s_MO), (1, .int x1), (7, .int y18), (8, .int 0)] [] h17 Q))) ∧ (y18 = (268435456 : Int32) → Q (some (.int (-5))) h17)))) ∧ (¬ (y14 = 0) → Q (some (.int y14)) h13)))) ∧ (¬ (y10 = 0) → Q (some (.int y10)) h9)))) ∧ (y6 = 0 → Q (some (.int (-2))) h5))))))) : eb_Ct (d + 1) 279 [.ref s_MO, .int x1, .int x2, .int x3, .int x4] h Q :=
  eb_bodyQ (by decide) ok_X11_lists (Nat.le_of_ble_eq_true rfl) (b_X11_lists_0 (h0 := h) x1 x2 x3 x4  ko w)
theorem b_X11_image_0 {d : Nat} {h0 h : eb_H} {Q : Option Value → eb_H → Prop} (x1 : Int32)  (ko : eb_KO h) (w : eb_Ct d 156 [.long x1.toInt64, .long 0, .long 1] (eb_sI h s_MO 0 0) (fun r h1 => ∃ y2, r = some (.int y2) ∧ eb_KO h1 ∧ ((¬ y2 = 0 → eb_Sn (d + 1) m_X11_image h0 20 [(0, .ref s_MO), (1, .int x1), (2, .int 0)] [] h1 Q) ∧ (y2 = 0 → Q (some (.int (-2))) h1)))) : eb_Sn (d + 1) m_X11_image h0 0 [(0, .ref s_MO), (1, .int x1)] [] h Q := by
  refine eb_aload_n (pc := 0) (n := 0) (i := 0) rfl rfl rfl ?_
  refine eb_iconst (pc := 1) (n := 0) (v := 0) rfl rfl ?_
  refine eb_putI (pc := 2) rfl rfl (by decide) (by decide) rfl rfl ⟨rfl, rfl⟩ ?_
  refine eb_iload_n (pc := 5) (n := 1) (i := 1) rfl rfl rfl ?_
  refine eb_i2l (pc := 6) rfl ?_
  refine eb_lconst (pc := 7) (n := 0) (v := 0) rfl rfl ?_
  refine eb_lconst (pc := 8) (n := 1) (v := 1) rfl rfl ?_
  refine eb_ctS (pc := 9) (As := [.long x1.toInt64, .long 0, .long 1]) (rest := []) rfl (by decide) (by decide) rfl rfl (Nat.le_of_ble_eq_true rfl) ?_
  refine eb_Ct.mono w ?_
  rintro r h1 ⟨y2, rfl, ko3, w⟩
  change eb_Sn _ _ _ 12 _ [.int y2] _ _
  refine eb_if_ne (pc := 12) (tgt := 18) rfl (by decide) (fun c4 => ?_) (fun c4 => ?_)
  · replace w := w.1 c4
    refine eb_iconst (pc := 18) (n := 0) (v := 0) rfl rfl ?_
    refine eb_istore_n (pc := 19) (n := 2) (i := 2) (ls2 := [(2, .int 0), (0, .ref s_MO), (1, .int x1)]) rfl (Nat.le_of_ble_eq_true rfl) rfl rfl ?_
    exact eb_pick [1, 2, 0] rfl w
  · replace w := w.2 c4
    refine eb_bipush (pc := 15) (n := -2) (v := (-2)) rfl rfl ?_
    exact eb_ireturn (pc := 17) rfl rfl rfl w
theorem b_X11_image_20 {d : Nat} {h0 h : eb_H} {Q : Option Value → eb_H → Prop} (x1 : Int32) (x2 : Int32)  (ko : eb_KO h) (w : (((1164 : Int32) ≤ x2 → (vp_in x1 2) ∧ Q (some (.int 0)) (eb_sI h s_m_hasImage x1.toNatClampNeg ((1 : Int32) &&& 1))) ∧ (¬ ((1164 : Int32) ≤ x2) → (vp_in x2 3492) ∧ (vp_in (((1164 : Int32) * (x1 + 1)) + x2) 3492) ∧ eb_Sn (d + 1) m_X11_image h0 20 [(0, .ref s_MO), (1, .int x1), (2, .int (x2 + 1))] [] (eb_sI h s_m_all (((1164 : Int32) * (x1 + 1)) + x2).toNatClampNeg (eb_I h s_m_all x2.toNatClampNeg)) Q))) : eb_Sn (d + 1) m_X11_image h0 20 [(0, .ref s_MO), (1, .int x1), (2, .int x2)] [] h Q := by
  refine eb_iload_n (pc := 20) (n := 2) (i := 2) rfl rfl rfl ?_
  refine eb_sipush (pc := 21) (n := 1164) (v := 1164) rfl rfl ?_
  refine eb_icmp_ge (pc := 24) (tgt := 53) rfl (by decide) (fun c1 => ?_) (fun c1 => ?_)
  · replace w := w.1 c1
    refine eb_aload_n (pc := 53) (n := 0) (i := 0) rfl rfl rfl ?_
    refine eb_getR (pc := 54) rfl rfl (by decide) (by decide) rfl (ko_s_MO_2 ko) ?_
    refine eb_iload_n (pc := 57) (n := 1) (i := 1) rfl rfl rfl ?_
    refine eb_iconst (pc := 58) (n := 1) (v := 1) rfl rfl ?_
    obtain ⟨c2, w⟩ := w
    refine eb_zastore (pc := 59) rfl rfl c2 ?_
    refine eb_iconst (pc := 60) (n := 0) (v := 0) rfl rfl ?_
    exact eb_ireturn (pc := 61) rfl rfl rfl w
  · replace w := w.2 c1
    refine eb_aload_n (pc := 27) (n := 0) (i := 0) rfl rfl rfl ?_
    refine eb_getR (pc := 28) rfl rfl (by decide) (by decide) rfl (ko_s_MO_1 ko) ?_
    refine eb_sipush (pc := 31) (n := 1164) (v := 1164) rfl rfl ?_
    refine eb_iload_n (pc := 34) (n := 1) (i := 1) rfl rfl rfl ?_
    refine eb_iconst (pc := 35) (n := 1) (v := 1) rfl rfl ?_
    refine eb_iadd (pc := 36) rfl ?_
    refine eb_imul (pc := 37) rfl ?_
    refine eb_iload_n (pc := 38) (n := 2) (i := 2) rfl rfl rfl ?_
    refine eb_iadd (pc := 39) rfl ?_
    refine eb_aload_n (pc := 40) (n := 0) (i := 0) rfl rfl rfl ?_
    refine eb_getR (pc := 41) rfl rfl (by decide) (by decide) rfl (ko_s_MO_1 ko) ?_
    refine eb_iload_n (pc := 44) (n := 2) (i := 2) rfl rfl rfl ?_
    obtain ⟨c3, w⟩ := w
    refine eb_iaload (pc := 45) rfl rfl c3 ?_
    obtain ⟨c4, w⟩ := w
    refine eb_iastore (pc := 46) rfl rfl c4 ?_
    refine eb_iinc (pc := 47) (i := 2) (n := 1) (v := x2 + 1) (ls2 := [(2, .int (x2 + 1)), (0, .ref s_MO), (1, .int x1)]) (Nat.le_of_ble_eq_true rfl) rfl rfl rfl rfl ?_
    refine eb_goto (pc := 50) (tgt := 20) rfl (by decide) ?_
    exact eb_pick [1, 2, 0] rfl w
theorem T_X11_image {d : Nat} {h : eb_H} {Q : Option Value → eb_H → Prop} (x1 : Int32)  (ko : eb_KO h) (w : eb_Ct d 156 [.long x1.toInt64, .long 0, .long 1] (eb_sI h s_MO 0 0) (fun r h1 => ∃ y2, r = some (.int y2) ∧ eb_KO h1 ∧ ((¬ y2 = 0 → eb_Sn (d + 1) m_X11_image h 20 [(0, .ref s_MO), (1, .int x1), (2, .int 0)] [] h1 Q) ∧ (y2 = 0 → Q (some (.int (-2))) h1)))) : eb_Ct (d + 1) 280 [.ref s_MO, .int x1] h Q :=
  eb_bodyQ (by decide) ok_X11_image (Nat.le_of_ble_eq_true rfl) (b_X11_image_0 (h0 := h) x1  ko w)
theorem b_X11_restore_0 {d : Nat} {h0 h : eb_H} {Q : Option Value → eb_H → Prop} (x1 : Int32)  (ko : eb_KO h) (w : eb_Ct d 156 [.long x1.toInt64, .long 0, .long 1] (eb_sI h s_MO 0 0) (fun r h1 => ∃ y2, r = some (.int y2) ∧ eb_KO h1 ∧ ((¬ y2 = 0 → (vp_in x1 2) ∧ ((¬ (eb_I h1 s_m_hasImage x1.toNatClampNeg) = 0 → eb_Sn (d + 1) m_X11_restore h0 32 [(0, .ref s_MO), (1, .int x1), (2, .int 0)] [] h1 Q) ∧ ((eb_I h1 s_m_hasImage x1.toNatClampNeg) = 0 → Q (some (.int (-5))) h1))) ∧ (y2 = 0 → Q (some (.int (-2))) h1)))) : eb_Sn (d + 1) m_X11_restore h0 0 [(0, .ref s_MO), (1, .int x1)] [] h Q := by
  refine eb_aload_n (pc := 0) (n := 0) (i := 0) rfl rfl rfl ?_
  refine eb_iconst (pc := 1) (n := 0) (v := 0) rfl rfl ?_
  refine eb_putI (pc := 2) rfl rfl (by decide) (by decide) rfl rfl ⟨rfl, rfl⟩ ?_
  refine eb_iload_n (pc := 5) (n := 1) (i := 1) rfl rfl rfl ?_
  refine eb_i2l (pc := 6) rfl ?_
  refine eb_lconst (pc := 7) (n := 0) (v := 0) rfl rfl ?_
  refine eb_lconst (pc := 8) (n := 1) (v := 1) rfl rfl ?_
  refine eb_ctS (pc := 9) (As := [.long x1.toInt64, .long 0, .long 1]) (rest := []) rfl (by decide) (by decide) rfl rfl (Nat.le_of_ble_eq_true rfl) ?_
  refine eb_Ct.mono w ?_
  rintro r h1 ⟨y2, rfl, ko3, w⟩
  change eb_Sn _ _ _ 12 _ [.int y2] _ _
  refine eb_if_ne (pc := 12) (tgt := 18) rfl (by decide) (fun c4 => ?_) (fun c4 => ?_)
  · replace w := w.1 c4
    refine eb_aload_n (pc := 18) (n := 0) (i := 0) rfl rfl rfl ?_
    refine eb_getR (pc := 19) rfl rfl (by decide) (by decide) rfl (ko_s_MO_2 ko3) ?_
    refine eb_iload_n (pc := 22) (n := 1) (i := 1) rfl rfl rfl ?_
    obtain ⟨c5, w⟩ := w
    refine eb_zaload (pc := 23) rfl rfl c5 ?_
    refine eb_if_ne (pc := 24) (tgt := 30) rfl (by decide) (fun c6 => ?_) (fun c6 => ?_)
    · replace w := w.1 c6
      refine eb_iconst (pc := 30) (n := 0) (v := 0) rfl rfl ?_
      refine eb_istore_n (pc := 31) (n := 2) (i := 2) (ls2 := [(2, .int 0), (0, .ref s_MO), (1, .int x1)]) rfl (Nat.le_of_ble_eq_true rfl) rfl rfl ?_
      exact eb_pick [1, 2, 0] rfl w
    · replace w := w.2 c6
      refine eb_bipush (pc := 27) (n := -5) (v := (-5)) rfl rfl ?_
      exact eb_ireturn (pc := 29) rfl rfl rfl w
  · replace w := w.2 c4
    refine eb_bipush (pc := 15) (n := -2) (v := (-2)) rfl rfl ?_
    exact eb_ireturn (pc := 17) rfl rfl rfl w
theorem b_X11_restore_32 {d : Nat} {h0 h : eb_H} {Q : Option Value → eb_H → Prop} (x1 : Int32) (x2 : Int32)  (ko : eb_KO h) (w : (((1164 : Int32) ≤ x2 → Q (some (.int 0)) (eb_sI h s_m_all (52 : Int32).toNatClampNeg 0)) ∧ (¬ ((1164 : Int32) ≤ x2) → (vp_in (((1164 : Int32) * (x1 + 1)) + x2) 3492) ∧ (vp_in x2 3492) ∧ eb_Sn (d + 1) m_X11_restore h0 32 [(0, .ref s_MO), (1, .int x1), (2, .int (x2 + 1))] [] (eb_sI h s_m_all x2.toNatClampNeg (eb_I h s_m_all (((1164 : Int32) * (x1 + 1)) + x2).toNatClampNeg)) Q))) : eb_Sn (d + 1) m_X11_restore h0 32 [(0, .ref s_MO), (1, .int x1), (2, .int x2)] [] h Q := by
  refine eb_iload_n (pc := 32) (n := 2) (i := 2) rfl rfl rfl ?_
  refine eb_sipush (pc := 33) (n := 1164) (v := 1164) rfl rfl ?_
  refine eb_icmp_ge (pc := 36) (tgt := 65) rfl (by decide) (fun c1 => ?_) (fun c1 => ?_)
  · replace w := w.1 c1
    refine eb_aload_n (pc := 65) (n := 0) (i := 0) rfl rfl rfl ?_
    refine eb_getR (pc := 66) rfl rfl (by decide) (by decide) rfl (ko_s_MO_1 ko) ?_
    refine eb_bipush (pc := 69) (n := 52) (v := 52) rfl rfl ?_
    refine eb_iconst (pc := 71) (n := 0) (v := 0) rfl rfl ?_
    refine eb_iastore (pc := 72) rfl rfl (by unfold vp_in; decide) ?_
    refine eb_iconst (pc := 73) (n := 0) (v := 0) rfl rfl ?_
    exact eb_ireturn (pc := 74) rfl rfl rfl w
  · replace w := w.2 c1
    refine eb_aload_n (pc := 39) (n := 0) (i := 0) rfl rfl rfl ?_
    refine eb_getR (pc := 40) rfl rfl (by decide) (by decide) rfl (ko_s_MO_1 ko) ?_
    refine eb_iload_n (pc := 43) (n := 2) (i := 2) rfl rfl rfl ?_
    refine eb_aload_n (pc := 44) (n := 0) (i := 0) rfl rfl rfl ?_
    refine eb_getR (pc := 45) rfl rfl (by decide) (by decide) rfl (ko_s_MO_1 ko) ?_
    refine eb_sipush (pc := 48) (n := 1164) (v := 1164) rfl rfl ?_
    refine eb_iload_n (pc := 51) (n := 1) (i := 1) rfl rfl rfl ?_
    refine eb_iconst (pc := 52) (n := 1) (v := 1) rfl rfl ?_
    refine eb_iadd (pc := 53) rfl ?_
    refine eb_imul (pc := 54) rfl ?_
    refine eb_iload_n (pc := 55) (n := 2) (i := 2) rfl rfl rfl ?_
    refine eb_iadd (pc := 56) rfl ?_
    obtain ⟨c2, w⟩ := w
    refine eb_iaload (pc := 57) rfl rfl c2 ?_
    obtain ⟨c3, w⟩ := w
    refine eb_iastore (pc := 58) rfl rfl c3 ?_
    refine eb_iinc (pc := 59) (i := 2) (n := 1) (v := x2 + 1) (ls2 := [(2, .int (x2 + 1)), (0, .ref s_MO), (1, .int x1)]) (Nat.le_of_ble_eq_true rfl) rfl rfl rfl rfl ?_
    refine eb_goto (pc := 62) (tgt := 32) rfl (by decide) ?_
    exact eb_pick [1, 2, 0] rfl w
theorem T_X11_restore {d : Nat} {h : eb_H} {Q : Option Value → eb_H → Prop} (x1 : Int32)  (ko : eb_KO h) (w : eb_Ct d 156 [.long x1.toInt64, .long 0, .long 1] (eb_sI h s_MO 0 0) (fun r h1 => ∃ y2, r = some (.int y2) ∧ eb_KO h1 ∧ ((¬ y2 = 0 → (vp_in x1 2) ∧ ((¬ (eb_I h1 s_m_hasImage x1.toNatClampNeg) = 0 → eb_Sn (d + 1) m_X11_restore h 32 [(0, .ref s_MO), (1, .int x1), (2, .int 0)] [] h1 Q) ∧ ((eb_I h1 s_m_hasImage x1.toNatClampNeg) = 0 → Q (some (.int (-5))) h1))) ∧ (y2 = 0 → Q (some (.int (-2))) h1)))) : eb_Ct (d + 1) 281 [.ref s_MO, .int x1] h Q :=
  eb_bodyQ (by decide) ok_X11_restore (Nat.le_of_ble_eq_true rfl) (b_X11_restore_0 (h0 := h) x1  ko w)
theorem b_X11_count_0 {d : Nat} {h0 h : eb_H} {Q : Option Value → eb_H → Prop} (x1 : Int32)  (ko : eb_KO h) (w : ((x1 = 0 → Q (some (.int (eb_I (eb_sI h s_MO 0 0) s_m_all (1 : Int32).toNatClampNeg))) (eb_sI h s_MO 0 0)) ∧ (x1 = 1 → Q (some (.int (eb_I (eb_sI h s_MO 0 0) s_m_all (2 : Int32).toNatClampNeg))) (eb_sI h s_MO 0 0)) ∧ (x1 = 2 → Q (some (.int (eb_I (eb_sI h s_MO 0 0) s_m_all (3 : Int32).toNatClampNeg))) (eb_sI h s_MO 0 0)) ∧ (x1 = 3 → Q (some (.int (eb_I (eb_sI h s_MO 0 0) s_m_all (31 : Int32).toNatClampNeg))) (eb_sI h s_MO 0 0)) ∧ (x1 = 4 → Q (some (.int (eb_I (eb_sI h s_MO 0 0) s_m_all (32 : Int32).toNatClampNeg))) (eb_sI h s_MO 0 0)) ∧ (x1 = 5 → Q (some (.int (eb_I (eb_sI h s_MO 0 0) s_m_all (50 : Int32).toNatClampNeg))) (eb_sI h s_MO 0 0)) ∧ (x1 = 6 → Q (some (.int (eb_I (eb_sI h s_MO 0 0) s_m_all (51 : Int32).toNatClampNeg))) (eb_sI h s_MO 0 0)) ∧ (x1 = 7 → Q (some (.int (eb_I (eb_sI h s_MO 0 0) s_m_all (4 : Int32).toNatClampNeg))) (eb_sI h s_MO 0 0)) ∧ (x1 = 8 → Q (some (.int (eb_I (eb_sI h s_MO 0 0) s_m_all (33 : Int32).toNatClampNeg))) (eb_sI h s_MO 0 0)) ∧ (x1 = 9 → Q (some (.int (eb_I (eb_sI h s_MO 0 0) s_m_all (52 : Int32).toNatClampNeg))) (eb_sI h s_MO 0 0)) ∧ (x1 = 10 → Q (some (.int (eb_I (eb_sI h s_MO 0 0) s_MO 5))) (eb_sI h s_MO 0 0)) ∧ (x1 = 11 → Q (some (.int (eb_I (eb_sI h s_MO 0 0) s_m_all (0 : Int32).toNatClampNeg))) (eb_sI h s_MO 0 0)) ∧ (¬ x1 = 0 → ¬ x1 = 1 → ¬ x1 = 2 → ¬ x1 = 3 → ¬ x1 = 4 → ¬ x1 = 5 → ¬ x1 = 6 → ¬ x1 = 7 → ¬ x1 = 8 → ¬ x1 = 9 → ¬ x1 = 10 → ¬ x1 = 11 → Q (some (.int (-1))) (eb_sI h s_MO 0 0)))) : eb_Sn d m_X11_count h0 0 [(0, .ref s_MO), (1, .int x1)] [] h Q := by
  refine eb_aload_n (pc := 0) (n := 0) (i := 0) rfl rfl rfl ?_
  refine eb_iconst (pc := 1) (n := 0) (v := 0) rfl rfl ?_
  refine eb_putI (pc := 2) rfl rfl (by decide) (by decide) rfl rfl ⟨rfl, rfl⟩ ?_
  refine eb_iload_n (pc := 5) (n := 1) (i := 1) rfl rfl rfl ?_
  by_cases s0 : x1 = 0
  · refine eb_tableIn (pc := 6) (j := 0) (tgt := 68) (by rw [s0]; decide) (by decide) (by rfl) (by decide) rfl ?_
    replace w := w.1 s0
    refine eb_aload_n (pc := 68) (n := 0) (i := 0) rfl rfl rfl ?_
    refine eb_getR (pc := 69) rfl rfl (by decide) (by decide) rfl (ko_s_MO_1 ko) ?_
    refine eb_iconst (pc := 72) (n := 1) (v := 1) rfl rfl ?_
    refine eb_iaload (pc := 73) rfl rfl (by unfold vp_in; decide) ?_
    exact eb_ireturn (pc := 74) rfl rfl rfl w
  by_cases s1 : x1 = 1
  · refine eb_tableIn (pc := 6) (j := 1) (tgt := 75) (by rw [s1]; decide) (by decide) (by rfl) (by decide) rfl ?_
    replace w := w.2.1 s1
    refine eb_aload_n (pc := 75) (n := 0) (i := 0) rfl rfl rfl ?_
    refine eb_getR (pc := 76) rfl rfl (by decide) (by decide) rfl (ko_s_MO_1 ko) ?_
    refine eb_iconst (pc := 79) (n := 2) (v := 2) rfl rfl ?_
    refine eb_iaload (pc := 80) rfl rfl (by unfold vp_in; decide) ?_
    exact eb_ireturn (pc := 81) rfl rfl rfl w
  by_cases s2 : x1 = 2
  · refine eb_tableIn (pc := 6) (j := 2) (tgt := 82) (by rw [s2]; decide) (by decide) (by rfl) (by decide) rfl ?_
    replace w := w.2.2.1 s2
    refine eb_aload_n (pc := 82) (n := 0) (i := 0) rfl rfl rfl ?_
    refine eb_getR (pc := 83) rfl rfl (by decide) (by decide) rfl (ko_s_MO_1 ko) ?_
    refine eb_iconst (pc := 86) (n := 3) (v := 3) rfl rfl ?_
    refine eb_iaload (pc := 87) rfl rfl (by unfold vp_in; decide) ?_
    exact eb_ireturn (pc := 88) rfl rfl rfl w
  by_cases s3 : x1 = 3
  · refine eb_tableIn (pc := 6) (j := 3) (tgt := 89) (by rw [s3]; decide) (by decide) (by rfl) (by decide) rfl ?_
    replace w := w.2.2.2.1 s3
    refine eb_aload_n (pc := 89) (n := 0) (i := 0) rfl rfl rfl ?_
    refine eb_getR (pc := 90) rfl rfl (by decide) (by decide) rfl (ko_s_MO_1 ko) ?_
    refine eb_bipush (pc := 93) (n := 31) (v := 31) rfl rfl ?_
    refine eb_iaload (pc := 95) rfl rfl (by unfold vp_in; decide) ?_
    exact eb_ireturn (pc := 96) rfl rfl rfl w
  by_cases s4 : x1 = 4
  · refine eb_tableIn (pc := 6) (j := 4) (tgt := 97) (by rw [s4]; decide) (by decide) (by rfl) (by decide) rfl ?_
    replace w := w.2.2.2.2.1 s4
    refine eb_aload_n (pc := 97) (n := 0) (i := 0) rfl rfl rfl ?_
    refine eb_getR (pc := 98) rfl rfl (by decide) (by decide) rfl (ko_s_MO_1 ko) ?_
    refine eb_bipush (pc := 101) (n := 32) (v := 32) rfl rfl ?_
    refine eb_iaload (pc := 103) rfl rfl (by unfold vp_in; decide) ?_
    exact eb_ireturn (pc := 104) rfl rfl rfl w
  by_cases s5 : x1 = 5
  · refine eb_tableIn (pc := 6) (j := 5) (tgt := 105) (by rw [s5]; decide) (by decide) (by rfl) (by decide) rfl ?_
    replace w := w.2.2.2.2.2.1 s5
    refine eb_aload_n (pc := 105) (n := 0) (i := 0) rfl rfl rfl ?_
    refine eb_getR (pc := 106) rfl rfl (by decide) (by decide) rfl (ko_s_MO_1 ko) ?_
    refine eb_bipush (pc := 109) (n := 50) (v := 50) rfl rfl ?_
    refine eb_iaload (pc := 111) rfl rfl (by unfold vp_in; decide) ?_
    exact eb_ireturn (pc := 112) rfl rfl rfl w
  by_cases s6 : x1 = 6
  · refine eb_tableIn (pc := 6) (j := 6) (tgt := 113) (by rw [s6]; decide) (by decide) (by rfl) (by decide) rfl ?_
    replace w := w.2.2.2.2.2.2.1 s6
    refine eb_aload_n (pc := 113) (n := 0) (i := 0) rfl rfl rfl ?_
    refine eb_getR (pc := 114) rfl rfl (by decide) (by decide) rfl (ko_s_MO_1 ko) ?_
    refine eb_bipush (pc := 117) (n := 51) (v := 51) rfl rfl ?_
    refine eb_iaload (pc := 119) rfl rfl (by unfold vp_in; decide) ?_
    exact eb_ireturn (pc := 120) rfl rfl rfl w
  by_cases s7 : x1 = 7
  · refine eb_tableIn (pc := 6) (j := 7) (tgt := 121) (by rw [s7]; decide) (by decide) (by rfl) (by decide) rfl ?_
    replace w := w.2.2.2.2.2.2.2.1 s7
    refine eb_aload_n (pc := 121) (n := 0) (i := 0) rfl rfl rfl ?_
    refine eb_getR (pc := 122) rfl rfl (by decide) (by decide) rfl (ko_s_MO_1 ko) ?_
    refine eb_iconst (pc := 125) (n := 4) (v := 4) rfl rfl ?_
    refine eb_iaload (pc := 126) rfl rfl (by unfold vp_in; decide) ?_
    exact eb_ireturn (pc := 127) rfl rfl rfl w
  by_cases s8 : x1 = 8
  · refine eb_tableIn (pc := 6) (j := 8) (tgt := 128) (by rw [s8]; decide) (by decide) (by rfl) (by decide) rfl ?_
    replace w := w.2.2.2.2.2.2.2.2.1 s8
    refine eb_aload_n (pc := 128) (n := 0) (i := 0) rfl rfl rfl ?_
    refine eb_getR (pc := 129) rfl rfl (by decide) (by decide) rfl (ko_s_MO_1 ko) ?_
    refine eb_bipush (pc := 132) (n := 33) (v := 33) rfl rfl ?_
    refine eb_iaload (pc := 134) rfl rfl (by unfold vp_in; decide) ?_
    exact eb_ireturn (pc := 135) rfl rfl rfl w
  by_cases s9 : x1 = 9
  · refine eb_tableIn (pc := 6) (j := 9) (tgt := 136) (by rw [s9]; decide) (by decide) (by rfl) (by decide) rfl ?_
    replace w := w.2.2.2.2.2.2.2.2.2.1 s9
    refine eb_aload_n (pc := 136) (n := 0) (i := 0) rfl rfl rfl ?_
    refine eb_getR (pc := 137) rfl rfl (by decide) (by decide) rfl (ko_s_MO_1 ko) ?_
    refine eb_bipush (pc := 140) (n := 52) (v := 52) rfl rfl ?_
    refine eb_iaload (pc := 142) rfl rfl (by unfold vp_in; decide) ?_
    exact eb_ireturn (pc := 143) rfl rfl rfl w
  by_cases s10 : x1 = 10
  · refine eb_tableIn (pc := 6) (j := 10) (tgt := 144) (by rw [s10]; decide) (by decide) (by rfl) (by decide) rfl ?_
    replace w := w.2.2.2.2.2.2.2.2.2.2.1 s10
    refine eb_aload_n (pc := 144) (n := 0) (i := 0) rfl rfl rfl ?_
    refine eb_getI (pc := 145) rfl rfl (by decide) (by decide) rfl ?_
    exact eb_ireturn (pc := 148) rfl rfl rfl w
  by_cases s11 : x1 = 11
  · refine eb_tableIn (pc := 6) (j := 11) (tgt := 149) (by rw [s11]; decide) (by decide) (by rfl) (by decide) rfl ?_
    replace w := w.2.2.2.2.2.2.2.2.2.2.2.1 s11
    refine eb_aload_n (pc := 149) (n := 0) (i := 0) rfl rfl rfl ?_
    refine eb_getR (pc := 150) rfl rfl (by decide) (by decide) rfl (ko_s_MO_1 ko) ?_
    refine eb_iconst (pc := 153) (n := 0) (v := 0) rfl rfl ?_
    refine eb_iaload (pc := 154) rfl rfl (by unfold vp_in; decide) ?_
    exact eb_ireturn (pc := 155) rfl rfl rfl w
  refine eb_tableOut (pc := 6) (tgt := 156) (by have z0 := lv_neT (a := 0) s0 (by decide); have z1 := lv_neT (a := 1) s1 (by decide); have z2 := lv_neT (a := 2) s2 (by decide); have z3 := lv_neT (a := 3) s3 (by decide); have z4 := lv_neT (a := 4) s4 (by decide); have z5 := lv_neT (a := 5) s5 (by decide); have z6 := lv_neT (a := 6) s6 (by decide); have z7 := lv_neT (a := 7) s7 (by decide); have z8 := lv_neT (a := 8) s8 (by decide); have z9 := lv_neT (a := 9) s9 (by decide); have z10 := lv_neT (a := 10) s10 (by decide); have z11 := lv_neT (a := 11) s11 (by decide); omega) (by decide) rfl ?_
  replace w := w.2.2.2.2.2.2.2.2.2.2.2.2 s0 s1 s2 s3 s4 s5 s6 s7 s8 s9 s10 s11
  refine eb_iconst (pc := 156) (n := -1) (v := (-1)) rfl rfl ?_
  exact eb_ireturn (pc := 157) rfl rfl rfl w
theorem T_X11_count {d : Nat} {h : eb_H} {Q : Option Value → eb_H → Prop} (x1 : Int32)  (ko : eb_KO h) (w : ((x1 = 0 → Q (some (.int (eb_I (eb_sI h s_MO 0 0) s_m_all (1 : Int32).toNatClampNeg))) (eb_sI h s_MO 0 0)) ∧ (x1 = 1 → Q (some (.int (eb_I (eb_sI h s_MO 0 0) s_m_all (2 : Int32).toNatClampNeg))) (eb_sI h s_MO 0 0)) ∧ (x1 = 2 → Q (some (.int (eb_I (eb_sI h s_MO 0 0) s_m_all (3 : Int32).toNatClampNeg))) (eb_sI h s_MO 0 0)) ∧ (x1 = 3 → Q (some (.int (eb_I (eb_sI h s_MO 0 0) s_m_all (31 : Int32).toNatClampNeg))) (eb_sI h s_MO 0 0)) ∧ (x1 = 4 → Q (some (.int (eb_I (eb_sI h s_MO 0 0) s_m_all (32 : Int32).toNatClampNeg))) (eb_sI h s_MO 0 0)) ∧ (x1 = 5 → Q (some (.int (eb_I (eb_sI h s_MO 0 0) s_m_all (50 : Int32).toNatClampNeg))) (eb_sI h s_MO 0 0)) ∧ (x1 = 6 → Q (some (.int (eb_I (eb_sI h s_MO 0 0) s_m_all (51 : Int32).toNatClampNeg))) (eb_sI h s_MO 0 0)) ∧ (x1 = 7 → Q (some (.int (eb_I (eb_sI h s_MO 0 0) s_m_all (4 : Int32).toNatClampNeg))) (eb_sI h s_MO 0 0)) ∧ (x1 = 8 → Q (some (.int (eb_I (eb_sI h s_MO 0 0) s_m_all (33 : Int32).toNatClampNeg))) (eb_sI h s_MO 0 0)) ∧ (x1 = 9 → Q (some (.int (eb_I (eb_sI h s_MO 0 0) s_m_all (52 : Int32).toNatClampNeg))) (eb_sI h s_MO 0 0)) ∧ (x1 = 10 → Q (some (.int (eb_I (eb_sI h s_MO 0 0) s_MO 5))) (eb_sI h s_MO 0 0)) ∧ (x1 = 11 → Q (some (.int (eb_I (eb_sI h s_MO 0 0) s_m_all (0 : Int32).toNatClampNeg))) (eb_sI h s_MO 0 0)) ∧ (¬ x1 = 0 → ¬ x1 = 1 → ¬ x1 = 2 → ¬ x1 = 3 → ¬ x1 = 4 → ¬ x1 = 5 → ¬ x1 = 6 → ¬ x1 = 7 → ¬ x1 = 8 → ¬ x1 = 9 → ¬ x1 = 10 → ¬ x1 = 11 → Q (some (.int (-1))) (eb_sI h s_MO 0 0)))) : eb_Ct d 282 [.ref s_MO, .int x1] h Q :=
  eb_bodyQ (by decide) ok_X11_count (Nat.le_of_ble_eq_true rfl) (b_X11_count_0 (h0 := h) x1  ko w)
theorem b_J6_bitCount_0f7a4_0 {d : Nat} {h0 h : eb_H} {Q : Option Value → eb_H → Prop} (x0 : Int32)  (ko : eb_KO h) (w : Q (some (.int ((((((((x0 - (((x0.toUInt32 >>> ((1 : Int32).toUInt32 &&& Int32.toUInt32 31)).toInt32) &&& 1431655765)) &&& 858993459) + ((((x0 - (((x0.toUInt32 >>> ((1 : Int32).toUInt32 &&& Int32.toUInt32 31)).toInt32) &&& 1431655765)).toUInt32 >>> ((2 : Int32).toUInt32 &&& Int32.toUInt32 31)).toInt32) &&& 858993459)) + (((((x0 - (((x0.toUInt32 >>> ((1 : Int32).toUInt32 &&& Int32.toUInt32 31)).toInt32) &&& 1431655765)) &&& 858993459) + ((((x0 - (((x0.toUInt32 >>> ((1 : Int32).toUInt32 &&& Int32.toUInt32 31)).toInt32) &&& 1431655765)).toUInt32 >>> ((2 : Int32).toUInt32 &&& Int32.toUInt32 31)).toInt32) &&& 858993459)).toUInt32 >>> ((4 : Int32).toUInt32 &&& Int32.toUInt32 31)).toInt32)) &&& 252645135) + (((((((x0 - (((x0.toUInt32 >>> ((1 : Int32).toUInt32 &&& Int32.toUInt32 31)).toInt32) &&& 1431655765)) &&& 858993459) + ((((x0 - (((x0.toUInt32 >>> ((1 : Int32).toUInt32 &&& Int32.toUInt32 31)).toInt32) &&& 1431655765)).toUInt32 >>> ((2 : Int32).toUInt32 &&& Int32.toUInt32 31)).toInt32) &&& 858993459)) + (((((x0 - (((x0.toUInt32 >>> ((1 : Int32).toUInt32 &&& Int32.toUInt32 31)).toInt32) &&& 1431655765)) &&& 858993459) + ((((x0 - (((x0.toUInt32 >>> ((1 : Int32).toUInt32 &&& Int32.toUInt32 31)).toInt32) &&& 1431655765)).toUInt32 >>> ((2 : Int32).toUInt32 &&& Int32.toUInt32 31)).toInt32) &&& 858993459)).toUInt32 >>> ((4 : Int32).toUInt32 &&& Int32.toUInt32 31)).toInt32)) &&& 252645135).toUInt32 >>> ((8 : Int32).toUInt32 &&& Int32.toUInt32 31)).toInt32)) + ((((((((x0 - (((x0.toUInt32 >>> ((1 : Int32).toUInt32 &&& Int32.toUInt32 31)).toInt32) &&& 1431655765)) &&& 858993459) + ((((x0 - (((x0.toUInt32 >>> ((1 : Int32).toUInt32 &&& Int32.toUInt32 31)).toInt32) &&& 1431655765)).toUInt32 >>> ((2 : Int32).toUInt32 &&& Int32.toUInt32 31)).toInt32) &&& 858993459)) + (((((x0 - (((x0.toUInt32 >>> ((1 : Int32).toUInt32 &&& Int32.toUInt32 31)).toInt32) &&& 1431655765)) &&& 858993459) + ((((x0 - (((x0.toUInt32 >>> ((1 : Int32).toUInt32 &&& Int32.toUInt32 31)).toInt32) &&& 1431655765)).toUInt32 >>> ((2 : Int32).toUInt32 &&& Int32.toUInt32 31)).toInt32) &&& 858993459)).toUInt32 >>> ((4 : Int32).toUInt32 &&& Int32.toUInt32 31)).toInt32)) &&& 252645135) + (((((((x0 - (((x0.toUInt32 >>> ((1 : Int32).toUInt32 &&& Int32.toUInt32 31)).toInt32) &&& 1431655765)) &&& 858993459) + ((((x0 - (((x0.toUInt32 >>> ((1 : Int32).toUInt32 &&& Int32.toUInt32 31)).toInt32) &&& 1431655765)).toUInt32 >>> ((2 : Int32).toUInt32 &&& Int32.toUInt32 31)).toInt32) &&& 858993459)) + (((((x0 - (((x0.toUInt32 >>> ((1 : Int32).toUInt32 &&& Int32.toUInt32 31)).toInt32) &&& 1431655765)) &&& 858993459) + ((((x0 - (((x0.toUInt32 >>> ((1 : Int32).toUInt32 &&& Int32.toUInt32 31)).toInt32) &&& 1431655765)).toUInt32 >>> ((2 : Int32).toUInt32 &&& Int32.toUInt32 31)).toInt32) &&& 858993459)).toUInt32 >>> ((4 : Int32).toUInt32 &&& Int32.toUInt32 31)).toInt32)) &&& 252645135).toUInt32 >>> ((8 : Int32).toUInt32 &&& Int32.toUInt32 31)).toInt32)).toUInt32 >>> ((16 : Int32).toUInt32 &&& Int32.toUInt32 31)).toInt32)) &&& 63))) h) : eb_Sn d m_J6_bitCount_0f7a4 h0 0 [(0, .int x0)] [] h Q := by
  refine eb_iload_n (pc := 0) (n := 0) (i := 0) rfl rfl rfl ?_
  refine eb_iload_n (pc := 1) (n := 0) (i := 0) rfl rfl rfl ?_
  refine eb_iconst (pc := 2) (n := 1) (v := 1) rfl rfl ?_
  refine eb_iushr (pc := 3) rfl ?_
  refine eb_ldcw (pc := 4) (a := 1431655765) (v := 1431655765) rfl (by decide) ?_
  refine eb_iand (pc := 7) rfl ?_
  refine eb_isub (pc := 8) rfl ?_
  refine eb_istore_n (pc := 9) (n := 0) (i := 0) (ls2 := [(0, .int (x0 - (((x0.toUInt32 >>> ((1 : Int32).toUInt32 &&& Int32.toUInt32 31)).toInt32) &&& 1431655765)))]) rfl (Nat.le_of_ble_eq_true rfl) rfl rfl ?_
  refine eb_iload_n (pc := 10) (n := 0) (i := 0) rfl rfl rfl ?_
  refine eb_ldcw (pc := 11) (a := 858993459) (v := 858993459) rfl (by decide) ?_
  refine eb_iand (pc := 14) rfl ?_
  refine eb_iload_n (pc := 15) (n := 0) (i := 0) rfl rfl rfl ?_
  refine eb_iconst (pc := 16) (n := 2) (v := 2) rfl rfl ?_
  refine eb_iushr (pc := 17) rfl ?_
  refine eb_ldcw (pc := 18) (a := 858993459) (v := 858993459) rfl (by decide) ?_
  refine eb_iand (pc := 21) rfl ?_
  refine eb_iadd (pc := 22) rfl ?_
  refine eb_istore_n (pc := 23) (n := 0) (i := 0) (ls2 := [(0, .int (((x0 - (((x0.toUInt32 >>> ((1 : Int32).toUInt32 &&& Int32.toUInt32 31)).toInt32) &&& 1431655765)) &&& 858993459) + ((((x0 - (((x0.toUInt32 >>> ((1 : Int32).toUInt32 &&& Int32.toUInt32 31)).toInt32) &&& 1431655765)).toUInt32 >>> ((2 : Int32).toUInt32 &&& Int32.toUInt32 31)).toInt32) &&& 858993459)))]) rfl (Nat.le_of_ble_eq_true rfl) rfl rfl ?_
  refine eb_iload_n (pc := 24) (n := 0) (i := 0) rfl rfl rfl ?_
  refine eb_iload_n (pc := 25) (n := 0) (i := 0) rfl rfl rfl ?_
  refine eb_iconst (pc := 26) (n := 4) (v := 4) rfl rfl ?_
  refine eb_iushr (pc := 27) rfl ?_
  refine eb_iadd (pc := 28) rfl ?_
  refine eb_ldcw (pc := 29) (a := 252645135) (v := 252645135) rfl (by decide) ?_
  refine eb_iand (pc := 32) rfl ?_
  refine eb_istore_n (pc := 33) (n := 0) (i := 0) (ls2 := [(0, .int (((((x0 - (((x0.toUInt32 >>> ((1 : Int32).toUInt32 &&& Int32.toUInt32 31)).toInt32) &&& 1431655765)) &&& 858993459) + ((((x0 - (((x0.toUInt32 >>> ((1 : Int32).toUInt32 &&& Int32.toUInt32 31)).toInt32) &&& 1431655765)).toUInt32 >>> ((2 : Int32).toUInt32 &&& Int32.toUInt32 31)).toInt32) &&& 858993459)) + (((((x0 - (((x0.toUInt32 >>> ((1 : Int32).toUInt32 &&& Int32.toUInt32 31)).toInt32) &&& 1431655765)) &&& 858993459) + ((((x0 - (((x0.toUInt32 >>> ((1 : Int32).toUInt32 &&& Int32.toUInt32 31)).toInt32) &&& 1431655765)).toUInt32 >>> ((2 : Int32).toUInt32 &&& Int32.toUInt32 31)).toInt32) &&& 858993459)).toUInt32 >>> ((4 : Int32).toUInt32 &&& Int32.toUInt32 31)).toInt32)) &&& 252645135))]) rfl (Nat.le_of_ble_eq_true rfl) rfl rfl ?_
  refine eb_iload_n (pc := 34) (n := 0) (i := 0) rfl rfl rfl ?_
  refine eb_iload_n (pc := 35) (n := 0) (i := 0) rfl rfl rfl ?_
  refine eb_bipush (pc := 36) (n := 8) (v := 8) rfl rfl ?_
  refine eb_iushr (pc := 38) rfl ?_
  refine eb_iadd (pc := 39) rfl ?_
  refine eb_istore_n (pc := 40) (n := 0) (i := 0) (ls2 := [(0, .int ((((((x0 - (((x0.toUInt32 >>> ((1 : Int32).toUInt32 &&& Int32.toUInt32 31)).toInt32) &&& 1431655765)) &&& 858993459) + ((((x0 - (((x0.toUInt32 >>> ((1 : Int32).toUInt32 &&& Int32.toUInt32 31)).toInt32) &&& 1431655765)).toUInt32 >>> ((2 : Int32).toUInt32 &&& Int32.toUInt32 31)).toInt32) &&& 858993459)) + (((((x0 - (((x0.toUInt32 >>> ((1 : Int32).toUInt32 &&& Int32.toUInt32 31)).toInt32) &&& 1431655765)) &&& 858993459) + ((((x0 - (((x0.toUInt32 >>> ((1 : Int32).toUInt32 &&& Int32.toUInt32 31)).toInt32) &&& 1431655765)).toUInt32 >>> ((2 : Int32).toUInt32 &&& Int32.toUInt32 31)).toInt32) &&& 858993459)).toUInt32 >>> ((4 : Int32).toUInt32 &&& Int32.toUInt32 31)).toInt32)) &&& 252645135) + (((((((x0 - (((x0.toUInt32 >>> ((1 : Int32).toUInt32 &&& Int32.toUInt32 31)).toInt32) &&& 1431655765)) &&& 858993459) + ((((x0 - (((x0.toUInt32 >>> ((1 : Int32).toUInt32 &&& Int32.toUInt32 31)).toInt32) &&& 1431655765)).toUInt32 >>> ((2 : Int32).toUInt32 &&& Int32.toUInt32 31)).toInt32) &&& 858993459)) + (((((x0 - (((x0.toUInt32 >>> ((1 : Int32).toUInt32 &&& Int32.toUInt32 31)).toInt32) &&& 1431655765)) &&& 858993459) + ((((x0 - (((x0.toUInt32 >>> ((1 : Int32).toUInt32 &&& Int32.toUInt32 31)).toInt32) &&& 1431655765)).toUInt32 >>> ((2 : Int32).toUInt32 &&& Int32.toUInt32 31)).toInt32) &&& 858993459)).toUInt32 >>> ((4 : Int32).toUInt32 &&& Int32.toUInt32 31)).toInt32)) &&& 252645135).toUInt32 >>> ((8 : Int32).toUInt32 &&& Int32.toUInt32 31)).toInt32)))]) rfl (Nat.le_of_ble_eq_true rfl) rfl rfl ?_
  refine eb_iload_n (pc := 41) (n := 0) (i := 0) rfl rfl rfl ?_
  refine eb_iload_n (pc := 42) (n := 0) (i := 0) rfl rfl rfl ?_
  refine eb_bipush (pc := 43) (n := 16) (v := 16) rfl rfl ?_
  refine eb_iushr (pc := 45) rfl ?_
  refine eb_iadd (pc := 46) rfl ?_
  refine eb_istore_n (pc := 47) (n := 0) (i := 0) (ls2 := [(0, .int (((((((x0 - (((x0.toUInt32 >>> ((1 : Int32).toUInt32 &&& Int32.toUInt32 31)).toInt32) &&& 1431655765)) &&& 858993459) + ((((x0 - (((x0.toUInt32 >>> ((1 : Int32).toUInt32 &&& Int32.toUInt32 31)).toInt32) &&& 1431655765)).toUInt32 >>> ((2 : Int32).toUInt32 &&& Int32.toUInt32 31)).toInt32) &&& 858993459)) + (((((x0 - (((x0.toUInt32 >>> ((1 : Int32).toUInt32 &&& Int32.toUInt32 31)).toInt32) &&& 1431655765)) &&& 858993459) + ((((x0 - (((x0.toUInt32 >>> ((1 : Int32).toUInt32 &&& Int32.toUInt32 31)).toInt32) &&& 1431655765)).toUInt32 >>> ((2 : Int32).toUInt32 &&& Int32.toUInt32 31)).toInt32) &&& 858993459)).toUInt32 >>> ((4 : Int32).toUInt32 &&& Int32.toUInt32 31)).toInt32)) &&& 252645135) + (((((((x0 - (((x0.toUInt32 >>> ((1 : Int32).toUInt32 &&& Int32.toUInt32 31)).toInt32) &&& 1431655765)) &&& 858993459) + ((((x0 - (((x0.toUInt32 >>> ((1 : Int32).toUInt32 &&& Int32.toUInt32 31)).toInt32) &&& 1431655765)).toUInt32 >>> ((2 : Int32).toUInt32 &&& Int32.toUInt32 31)).toInt32) &&& 858993459)) + (((((x0 - (((x0.toUInt32 >>> ((1 : Int32).toUInt32 &&& Int32.toUInt32 31)).toInt32) &&& 1431655765)) &&& 858993459) + ((((x0 - (((x0.toUInt32 >>> ((1 : Int32).toUInt32 &&& Int32.toUInt32 31)).toInt32) &&& 1431655765)).toUInt32 >>> ((2 : Int32).toUInt32 &&& Int32.toUInt32 31)).toInt32) &&& 858993459)).toUInt32 >>> ((4 : Int32).toUInt32 &&& Int32.toUInt32 31)).toInt32)) &&& 252645135).toUInt32 >>> ((8 : Int32).toUInt32 &&& Int32.toUInt32 31)).toInt32)) + ((((((((x0 - (((x0.toUInt32 >>> ((1 : Int32).toUInt32 &&& Int32.toUInt32 31)).toInt32) &&& 1431655765)) &&& 858993459) + ((((x0 - (((x0.toUInt32 >>> ((1 : Int32).toUInt32 &&& Int32.toUInt32 31)).toInt32) &&& 1431655765)).toUInt32 >>> ((2 : Int32).toUInt32 &&& Int32.toUInt32 31)).toInt32) &&& 858993459)) + (((((x0 - (((x0.toUInt32 >>> ((1 : Int32).toUInt32 &&& Int32.toUInt32 31)).toInt32) &&& 1431655765)) &&& 858993459) + ((((x0 - (((x0.toUInt32 >>> ((1 : Int32).toUInt32 &&& Int32.toUInt32 31)).toInt32) &&& 1431655765)).toUInt32 >>> ((2 : Int32).toUInt32 &&& Int32.toUInt32 31)).toInt32) &&& 858993459)).toUInt32 >>> ((4 : Int32).toUInt32 &&& Int32.toUInt32 31)).toInt32)) &&& 252645135) + (((((((x0 - (((x0.toUInt32 >>> ((1 : Int32).toUInt32 &&& Int32.toUInt32 31)).toInt32) &&& 1431655765)) &&& 858993459) + ((((x0 - (((x0.toUInt32 >>> ((1 : Int32).toUInt32 &&& Int32.toUInt32 31)).toInt32) &&& 1431655765)).toUInt32 >>> ((2 : Int32).toUInt32 &&& Int32.toUInt32 31)).toInt32) &&& 858993459)) + (((((x0 - (((x0.toUInt32 >>> ((1 : Int32).toUInt32 &&& Int32.toUInt32 31)).toInt32) &&& 1431655765)) &&& 858993459) + ((((x0 - (((x0.toUInt32 >>> ((1 : Int32).toUInt32 &&& Int32.toUInt32 31)).toInt32) &&& 1431655765)).toUInt32 >>> ((2 : Int32).toUInt32 &&& Int32.toUInt32 31)).toInt32) &&& 858993459)).toUInt32 >>> ((4 : Int32).toUInt32 &&& Int32.toUInt32 31)).toInt32)) &&& 252645135).toUInt32 >>> ((8 : Int32).toUInt32 &&& Int32.toUInt32 31)).toInt32)).toUInt32 >>> ((16 : Int32).toUInt32 &&& Int32.toUInt32 31)).toInt32)))]) rfl (Nat.le_of_ble_eq_true rfl) rfl rfl ?_
  refine eb_iload_n (pc := 48) (n := 0) (i := 0) rfl rfl rfl ?_
  refine eb_bipush (pc := 49) (n := 63) (v := 63) rfl rfl ?_
  refine eb_iand (pc := 51) rfl ?_
  exact eb_ireturn (pc := 52) rfl rfl rfl w
theorem T_J6_bitCount_0f7a4 {d : Nat} {h : eb_H} {Q : Option Value → eb_H → Prop} (x0 : Int32)  (ko : eb_KO h) (w : Q (some (.int ((((((((x0 - (((x0.toUInt32 >>> ((1 : Int32).toUInt32 &&& Int32.toUInt32 31)).toInt32) &&& 1431655765)) &&& 858993459) + ((((x0 - (((x0.toUInt32 >>> ((1 : Int32).toUInt32 &&& Int32.toUInt32 31)).toInt32) &&& 1431655765)).toUInt32 >>> ((2 : Int32).toUInt32 &&& Int32.toUInt32 31)).toInt32) &&& 858993459)) + (((((x0 - (((x0.toUInt32 >>> ((1 : Int32).toUInt32 &&& Int32.toUInt32 31)).toInt32) &&& 1431655765)) &&& 858993459) + ((((x0 - (((x0.toUInt32 >>> ((1 : Int32).toUInt32 &&& Int32.toUInt32 31)).toInt32) &&& 1431655765)).toUInt32 >>> ((2 : Int32).toUInt32 &&& Int32.toUInt32 31)).toInt32) &&& 858993459)).toUInt32 >>> ((4 : Int32).toUInt32 &&& Int32.toUInt32 31)).toInt32)) &&& 252645135) + (((((((x0 - (((x0.toUInt32 >>> ((1 : Int32).toUInt32 &&& Int32.toUInt32 31)).toInt32) &&& 1431655765)) &&& 858993459) + ((((x0 - (((x0.toUInt32 >>> ((1 : Int32).toUInt32 &&& Int32.toUInt32 31)).toInt32) &&& 1431655765)).toUInt32 >>> ((2 : Int32).toUInt32 &&& Int32.toUInt32 31)).toInt32) &&& 858993459)) + (((((x0 - (((x0.toUInt32 >>> ((1 : Int32).toUInt32 &&& Int32.toUInt32 31)).toInt32) &&& 1431655765)) &&& 858993459) + ((((x0 - (((x0.toUInt32 >>> ((1 : Int32).toUInt32 &&& Int32.toUInt32 31)).toInt32) &&& 1431655765)).toUInt32 >>> ((2 : Int32).toUInt32 &&& Int32.toUInt32 31)).toInt32) &&& 858993459)).toUInt32 >>> ((4 : Int32).toUInt32 &&& Int32.toUInt32 31)).toInt32)) &&& 252645135).toUInt32 >>> ((8 : Int32).toUInt32 &&& Int32.toUInt32 31)).toInt32)) + ((((((((x0 - (((x0.toUInt32 >>> ((1 : Int32).toUInt32 &&& Int32.toUInt32 31)).toInt32) &&& 1431655765)) &&& 858993459) + ((((x0 - (((x0.toUInt32 >>> ((1 : Int32).toUInt32 &&& Int32.toUInt32 31)).toInt32) &&& 1431655765)).toUInt32 >>> ((2 : Int32).toUInt32 &&& Int32.toUInt32 31)).toInt32) &&& 858993459)) + (((((x0 - (((x0.toUInt32 >>> ((1 : Int32).toUInt32 &&& Int32.toUInt32 31)).toInt32) &&& 1431655765)) &&& 858993459) + ((((x0 - (((x0.toUInt32 >>> ((1 : Int32).toUInt32 &&& Int32.toUInt32 31)).toInt32) &&& 1431655765)).toUInt32 >>> ((2 : Int32).toUInt32 &&& Int32.toUInt32 31)).toInt32) &&& 858993459)).toUInt32 >>> ((4 : Int32).toUInt32 &&& Int32.toUInt32 31)).toInt32)) &&& 252645135) + (((((((x0 - (((x0.toUInt32 >>> ((1 : Int32).toUInt32 &&& Int32.toUInt32 31)).toInt32) &&& 1431655765)) &&& 858993459) + ((((x0 - (((x0.toUInt32 >>> ((1 : Int32).toUInt32 &&& Int32.toUInt32 31)).toInt32) &&& 1431655765)).toUInt32 >>> ((2 : Int32).toUInt32 &&& Int32.toUInt32 31)).toInt32) &&& 858993459)) + (((((x0 - (((x0.toUInt32 >>> ((1 : Int32).toUInt32 &&& Int32.toUInt32 31)).toInt32) &&& 1431655765)) &&& 858993459) + ((((x0 - (((x0.toUInt32 >>> ((1 : Int32).toUInt32 &&& Int32.toUInt32 31)).toInt32) &&& 1431655765)).toUInt32 >>> ((2 : Int32).toUInt32 &&& Int32.toUInt32 31)).toInt32) &&& 858993459)).toUInt32 >>> ((4 : Int32).toUInt32 &&& Int32.toUInt32 31)).toInt32)) &&& 252645135).toUInt32 >>> ((8 : Int32).toUInt32 &&& Int32.toUInt32 31)).toInt32)).toUInt32 >>> ((16 : Int32).toUInt32 &&& Int32.toUInt32 31)).toInt32)) &&& 63))) h) : eb_Ct d 283 [.int x0] h Q :=
  eb_bodyQ (by decide) ok_J6_bitCount_0f7a4 (Nat.le_of_ble_eq_true rfl) (b_J6_bitCount_0f7a4_0 (h0 := h) x0  ko w)
theorem b_J13_bitCount_95d88_0 {d : Nat} {h0 h : eb_H} {Q : Option Value → eb_H → Prop} (x0 : Int64)  (ko : eb_KO h) (w : Q (some (.int ((((((((((x0 - (((x0.toUInt64 >>> ((1 : Int32).toInt64.toUInt64 &&& Int64.toUInt64 63)).toInt64) &&& 6148914691236517205)) &&& 3689348814741910323) + ((((x0 - (((x0.toUInt64 >>> ((1 : Int32).toInt64.toUInt64 &&& Int64.toUInt64 63)).toInt64) &&& 6148914691236517205)).toUInt64 >>> ((2 : Int32).toInt64.toUInt64 &&& Int64.toUInt64 63)).toInt64) &&& 3689348814741910323)) + (((((x0 - (((x0.toUInt64 >>> ((1 : Int32).toInt64.toUInt64 &&& Int64.toUInt64 63)).toInt64) &&& 6148914691236517205)) &&& 3689348814741910323) + ((((x0 - (((x0.toUInt64 >>> ((1 : Int32).toInt64.toUInt64 &&& Int64.toUInt64 63)).toInt64) &&& 6148914691236517205)).toUInt64 >>> ((2 : Int32).toInt64.toUInt64 &&& Int64.toUInt64 63)).toInt64) &&& 3689348814741910323)).toUInt64 >>> ((4 : Int32).toInt64.toUInt64 &&& Int64.toUInt64 63)).toInt64)) &&& 1085102592571150095) + (((((((x0 - (((x0.toUInt64 >>> ((1 : Int32).toInt64.toUInt64 &&& Int64.toUInt64 63)).toInt64) &&& 6148914691236517205)) &&& 3689348814741910323) + ((((x0 - (((x0.toUInt64 >>> ((1 : Int32).toInt64.toUInt64 &&& Int64.toUInt64 63)).toInt64) &&& 6148914691236517205)).toUInt64 >>> ((2 : Int32).toInt64.toUInt64 &&& Int64.toUInt64 63)).toInt64) &&& 3689348814741910323)) + (((((x0 - (((x0.toUInt64 >>> ((1 : Int32).toInt64.toUInt64 &&& Int64.toUInt64 63)).toInt64) &&& 6148914691236517205)) &&& 3689348814741910323) + ((((x0 - (((x0.toUInt64 >>> ((1 : Int32).toInt64.toUInt64 &&& Int64.toUInt64 63)).toInt64) &&& 6148914691236517205)).toUInt64 >>> ((2 : Int32).toInt64.toUInt64 &&& Int64.toUInt64 63)).toInt64) &&& 3689348814741910323)).toUInt64 >>> ((4 : Int32).toInt64.toUInt64 &&& Int64.toUInt64 63)).toInt64)) &&& 1085102592571150095).toUInt64 >>> ((8 : Int32).toInt64.toUInt64 &&& Int64.toUInt64 63)).toInt64)) + ((((((((x0 - (((x0.toUInt64 >>> ((1 : Int32).toInt64.toUInt64 &&& Int64.toUInt64 63)).toInt64) &&& 6148914691236517205)) &&& 3689348814741910323) + ((((x0 - (((x0.toUInt64 >>> ((1 : Int32).toInt64.toUInt64 &&& Int64.toUInt64 63)).toInt64) &&& 6148914691236517205)).toUInt64 >>> ((2 : Int32).toInt64.toUInt64 &&& Int64.toUInt64 63)).toInt64) &&& 3689348814741910323)) + (((((x0 - (((x0.toUInt64 >>> ((1 : Int32).toInt64.toUInt64 &&& Int64.toUInt64 63)).toInt64) &&& 6148914691236517205)) &&& 3689348814741910323) + ((((x0 - (((x0.toUInt64 >>> ((1 : Int32).toInt64.toUInt64 &&& Int64.toUInt64 63)).toInt64) &&& 6148914691236517205)).toUInt64 >>> ((2 : Int32).toInt64.toUInt64 &&& Int64.toUInt64 63)).toInt64) &&& 3689348814741910323)).toUInt64 >>> ((4 : Int32).toInt64.toUInt64 &&& Int64.toUInt64 63)).toInt64)) &&& 1085102592571150095) + (((((((x0 - (((x0.toUInt64 >>> ((1 : Int32).toInt64.toUInt64 &&& Int64.toUInt64 63)).toInt64) &&& 6148914691236517205)) &&& 3689348814741910323) + ((((x0 - (((x0.toUInt64 >>> ((1 : Int32).toInt64.toUInt64 &&& Int64.toUInt64 63)).toInt64) &&& 6148914691236517205)).toUInt64 >>> ((2 : Int32).toInt64.toUInt64 &&& Int64.toUInt64 63)).toInt64) &&& 3689348814741910323)) + (((((x0 - (((x0.toUInt64 >>> ((1 : Int32).toInt64.toUInt64 &&& Int64.toUInt64 63)).toInt64) &&& 6148914691236517205)) &&& 3689348814741910323) + ((((x0 - (((x0.toUInt64 >>> ((1 : Int32).toInt64.toUInt64 &&& Int64.toUInt64 63)).toInt64) &&& 6148914691236517205)).toUInt64 >>> ((2 : Int32).toInt64.toUInt64 &&& Int64.toUInt64 63)).toInt64) &&& 3689348814741910323)).toUInt64 >>> ((4 : Int32).toInt64.toUInt64 &&& Int64.toUInt64 63)).toInt64)) &&& 1085102592571150095).toUInt64 >>> ((8 : Int32).toInt64.toUInt64 &&& Int64.toUInt64 63)).toInt64)).toUInt64 >>> ((16 : Int32).toInt64.toUInt64 &&& Int64.toUInt64 63)).toInt64)) + (((((((((x0 - (((x0.toUInt64 >>> ((1 : Int32).toInt64.toUInt64 &&& Int64.toUInt64 63)).toInt64) &&& 6148914691236517205)) &&& 3689348814741910323) + ((((x0 - (((x0.toUInt64 >>> ((1 : Int32).toInt64.toUInt64 &&& Int64.toUInt64 63)).toInt64) &&& 6148914691236517205)).toUInt64 >>> ((2 : Int32).toInt64.toUInt64 &&& Int64.toUInt64 63)).toInt64) &&& 3689348814741910323)) + (((((x0 - (((x0.toUInt64 >>> ((1 : Int32).toInt64.toUInt64 &&& Int64.toUInt64 63)).toInt64) &&& 6148914691236517205)) &&& 3689348814741910323) + ((((x0 - (((x0.toUInt64 >>> ((1 : Int32).toInt64.toUInt64 &&& Int64.toUInt64 63)).toInt64) &&& 6148914691236517205)).toUInt64 >>> ((2 : Int32).toInt64.toUInt64 &&& Int64.toUInt64 63)).toInt64) &&& 3689348814741910323)).toUInt64 >>> ((4 : Int32).toInt64.toUInt64 &&& Int64.toUInt64 63)).toInt64)) &&& 1085102592571150095) + (((((((x0 - (((x0.toUInt64 >>> ((1 : Int32).toInt64.toUInt64 &&& Int64.toUInt64 63)).toInt64) &&& 6148914691236517205)) &&& 3689348814741910323) + ((((x0 - (((x0.toUInt64 >>> ((1 : Int32).toInt64.toUInt64 &&& Int64.toUInt64 63)).toInt64) &&& 6148914691236517205)).toUInt64 >>> ((2 : Int32).toInt64.toUInt64 &&& Int64.toUInt64 63)).toInt64) &&& 3689348814741910323)) + (((((x0 - (((x0.toUInt64 >>> ((1 : Int32).toInt64.toUInt64 &&& Int64.toUInt64 63)).toInt64) &&& 6148914691236517205)) &&& 3689348814741910323) + ((((x0 - (((x0.toUInt64 >>> ((1 : Int32).toInt64.toUInt64 &&& Int64.toUInt64 63)).toInt64) &&& 6148914691236517205)).toUInt64 >>> ((2 : Int32).toInt64.toUInt64 &&& Int64.toUInt64 63)).toInt64) &&& 3689348814741910323)).toUInt64 >>> ((4 : Int32).toInt64.toUInt64 &&& Int64.toUInt64 63)).toInt64)) &&& 1085102592571150095).toUInt64 >>> ((8 : Int32).toInt64.toUInt64 &&& Int64.toUInt64 63)).toInt64)) + ((((((((x0 - (((x0.toUInt64 >>> ((1 : Int32).toInt64.toUInt64 &&& Int64.toUInt64 63)).toInt64) &&& 6148914691236517205)) &&& 3689348814741910323) + ((((x0 - (((x0.toUInt64 >>> ((1 : Int32).toInt64.toUInt64 &&& Int64.toUInt64 63)).toInt64) &&& 6148914691236517205)).toUInt64 >>> ((2 : Int32).toInt64.toUInt64 &&& Int64.toUInt64 63)).toInt64) &&& 3689348814741910323)) + (((((x0 - (((x0.toUInt64 >>> ((1 : Int32).toInt64.toUInt64 &&& Int64.toUInt64 63)).toInt64) &&& 6148914691236517205)) &&& 3689348814741910323) + ((((x0 - (((x0.toUInt64 >>> ((1 : Int32).toInt64.toUInt64 &&& Int64.toUInt64 63)).toInt64) &&& 6148914691236517205)).toUInt64 >>> ((2 : Int32).toInt64.toUInt64 &&& Int64.toUInt64 63)).toInt64) &&& 3689348814741910323)).toUInt64 >>> ((4 : Int32).toInt64.toUInt64 &&& Int64.toUInt64 63)).toInt64)) &&& 1085102592571150095) + (((((((x0 - (((x0.toUInt64 >>> ((1 : Int32).toInt64.toUInt64 &&& Int64.toUInt64 63)).toInt64) &&& 6148914691236517205)) &&& 3689348814741910323) + ((((x0 - (((x0.toUInt64 >>> ((1 : Int32).toInt64.toUInt64 &&& Int64.toUInt64 63)).toInt64) &&& 6148914691236517205)).toUInt64 >>> ((2 : Int32).toInt64.toUInt64 &&& Int64.toUInt64 63)).toInt64) &&& 3689348814741910323)) + (((((x0 - (((x0.toUInt64 >>> ((1 : Int32).toInt64.toUInt64 &&& Int64.toUInt64 63)).toInt64) &&& 6148914691236517205)) &&& 3689348814741910323) + ((((x0 - (((x0.toUInt64 >>> ((1 : Int32).toInt64.toUInt64 &&& Int64.toUInt64 63)).toInt64) &&& 6148914691236517205)).toUInt64 >>> ((2 : Int32).toInt64.toUInt64 &&& Int64.toUInt64 63)).toInt64) &&& 3689348814741910323)).toUInt64 >>> ((4 : Int32).toInt64.toUInt64 &&& Int64.toUInt64 63)).toInt64)) &&& 1085102592571150095).toUInt64 >>> ((8 : Int32).toInt64.toUInt64 &&& Int64.toUInt64 63)).toInt64)).toUInt64 >>> ((16 : Int32).toInt64.toUInt64 &&& Int64.toUInt64 63)).toInt64)).toUInt64 >>> ((32 : Int32).toInt64.toUInt64 &&& Int64.toUInt64 63)).toInt64)).toInt32) &&& 127))) h) : eb_Sn d m_J13_bitCount_95d88 h0 0 [(0, .long x0)] [] h Q := by
  refine eb_lload_n (pc := 0) (n := 0) (i := 0) rfl rfl rfl ?_
  refine eb_lload_n (pc := 1) (n := 0) (i := 0) rfl rfl rfl ?_
  refine eb_iconst (pc := 2) (n := 1) (v := 1) rfl rfl ?_
  refine eb_lushr (pc := 3) rfl ?_
  refine eb_ldc2 (pc := 4) (a := 6148914691236517205) (v := 6148914691236517205) rfl (by decide) ?_
  refine eb_land (pc := 7) rfl ?_
  refine eb_lsub (pc := 8) rfl ?_
  refine eb_lstore_n (pc := 9) (n := 0) (i := 0) (ls2 := [(0, .long (x0 - (((x0.toUInt64 >>> ((1 : Int32).toInt64.toUInt64 &&& Int64.toUInt64 63)).toInt64) &&& 6148914691236517205)))]) rfl (Nat.le_of_ble_eq_true rfl) rfl rfl ?_
  refine eb_lload_n (pc := 10) (n := 0) (i := 0) rfl rfl rfl ?_
  refine eb_ldc2 (pc := 11) (a := 3689348814741910323) (v := 3689348814741910323) rfl (by decide) ?_
  refine eb_land (pc := 14) rfl ?_
  refine eb_lload_n (pc := 15) (n := 0) (i := 0) rfl rfl rfl ?_
  refine eb_iconst (pc := 16) (n := 2) (v := 2) rfl rfl ?_
  refine eb_lushr (pc := 17) rfl ?_
  refine eb_ldc2 (pc := 18) (a := 3689348814741910323) (v := 3689348814741910323) rfl (by decide) ?_
  refine eb_land (pc := 21) rfl ?_
  refine eb_ladd (pc := 22) rfl ?_
  refine eb_lstore_n (pc := 23) (n := 0) (i := 0) (ls2 := [(0, .long (((x0 - (((x0.toUInt64 >>> ((1 : Int32).toInt64.toUInt64 &&& Int64.toUInt64 63)).toInt64) &&& 6148914691236517205)) &&& 3689348814741910323) + ((((x0 - (((x0.toUInt64 >>> ((1 : Int32).toInt64.toUInt64 &&& Int64.toUInt64 63)).toInt64) &&& 6148914691236517205)).toUInt64 >>> ((2 : Int32).toInt64.toUInt64 &&& Int64.toUInt64 63)).toInt64) &&& 3689348814741910323)))]) rfl (Nat.le_of_ble_eq_true rfl) rfl rfl ?_
  refine eb_lload_n (pc := 24) (n := 0) (i := 0) rfl rfl rfl ?_
  refine eb_lload_n (pc := 25) (n := 0) (i := 0) rfl rfl rfl ?_
  refine eb_iconst (pc := 26) (n := 4) (v := 4) rfl rfl ?_
  refine eb_lushr (pc := 27) rfl ?_
  refine eb_ladd (pc := 28) rfl ?_
  refine eb_ldc2 (pc := 29) (a := 1085102592571150095) (v := 1085102592571150095) rfl (by decide) ?_
  refine eb_land (pc := 32) rfl ?_
  refine eb_lstore_n (pc := 33) (n := 0) (i := 0) (ls2 := [(0, .long (((((x0 - (((x0.toUInt64 >>> ((1 : Int32).toInt64.toUInt64 &&& Int64.toUInt64 63)).toInt64) &&& 6148914691236517205)) &&& 3689348814741910323) + ((((x0 - (((x0.toUInt64 >>> ((1 : Int32).toInt64.toUInt64 &&& Int64.toUInt64 63)).toInt64) &&& 6148914691236517205)).toUInt64 >>> ((2 : Int32).toInt64.toUInt64 &&& Int64.toUInt64 63)).toInt64) &&& 3689348814741910323)) + (((((x0 - (((x0.toUInt64 >>> ((1 : Int32).toInt64.toUInt64 &&& Int64.toUInt64 63)).toInt64) &&& 6148914691236517205)) &&& 3689348814741910323) + ((((x0 - (((x0.toUInt64 >>> ((1 : Int32).toInt64.toUInt64 &&& Int64.toUInt64 63)).toInt64) &&& 6148914691236517205)).toUInt64 >>> ((2 : Int32).toInt64.toUInt64 &&& Int64.toUInt64 63)).toInt64) &&& 3689348814741910323)).toUInt64 >>> ((4 : Int32).toInt64.toUInt64 &&& Int64.toUInt64 63)).toInt64)) &&& 1085102592571150095))]) rfl (Nat.le_of_ble_eq_true rfl) rfl rfl ?_
  refine eb_lload_n (pc := 34) (n := 0) (i := 0) rfl rfl rfl ?_
  refine eb_lload_n (pc := 35) (n := 0) (i := 0) rfl rfl rfl ?_
  refine eb_bipush (pc := 36) (n := 8) (v := 8) rfl rfl ?_
  refine eb_lushr (pc := 38) rfl ?_
  refine eb_ladd (pc := 39) rfl ?_
  refine eb_lstore_n (pc := 40) (n := 0) (i := 0) (ls2 := [(0, .long ((((((x0 - (((x0.toUInt64 >>> ((1 : Int32).toInt64.toUInt64 &&& Int64.toUInt64 63)).toInt64) &&& 6148914691236517205)) &&& 3689348814741910323) + ((((x0 - (((x0.toUInt64 >>> ((1 : Int32).toInt64.toUInt64 &&& Int64.toUInt64 63)).toInt64) &&& 6148914691236517205)).toUInt64 >>> ((2 : Int32).toInt64.toUInt64 &&& Int64.toUInt64 63)).toInt64) &&& 3689348814741910323)) + (((((x0 - (((x0.toUInt64 >>> ((1 : Int32).toInt64.toUInt64 &&& Int64.toUInt64 63)).toInt64) &&& 6148914691236517205)) &&& 3689348814741910323) + ((((x0 - (((x0.toUInt64 >>> ((1 : Int32).toInt64.toUInt64 &&& Int64.toUInt64 63)).toInt64) &&& 6148914691236517205)).toUInt64 >>> ((2 : Int32).toInt64.toUInt64 &&& Int64.toUInt64 63)).toInt64) &&& 3689348814741910323)).toUInt64 >>> ((4 : Int32).toInt64.toUInt64 &&& Int64.toUInt64 63)).toInt64)) &&& 1085102592571150095) + (((((((x0 - (((x0.toUInt64 >>> ((1 : Int32).toInt64.toUInt64 &&& Int64.toUInt64 63)).toInt64) &&& 6148914691236517205)) &&& 3689348814741910323) + ((((x0 - (((x0.toUInt64 >>> ((1 : Int32).toInt64.toUInt64 &&& Int64.toUInt64 63)).toInt64) &&& 6148914691236517205)).toUInt64 >>> ((2 : Int32).toInt64.toUInt64 &&& Int64.toUInt64 63)).toInt64) &&& 3689348814741910323)) + (((((x0 - (((x0.toUInt64 >>> ((1 : Int32).toInt64.toUInt64 &&& Int64.toUInt64 63)).toInt64) &&& 6148914691236517205)) &&& 3689348814741910323) + ((((x0 - (((x0.toUInt64 >>> ((1 : Int32).toInt64.toUInt64 &&& Int64.toUInt64 63)).toInt64) &&& 6148914691236517205)).toUInt64 >>> ((2 : Int32).toInt64.toUInt64 &&& Int64.toUInt64 63)).toInt64) &&& 3689348814741910323)).toUInt64 >>> ((4 : Int32).toInt64.toUInt64 &&& Int64.toUInt64 63)).toInt64)) &&& 1085102592571150095).toUInt64 >>> ((8 : Int32).toInt64.toUInt64 &&& Int64.toUInt64 63)).toInt64)))]) rfl (Nat.le_of_ble_eq_true rfl) rfl rfl ?_
  refine eb_lload_n (pc := 41) (n := 0) (i := 0) rfl rfl rfl ?_
  refine eb_lload_n (pc := 42) (n := 0) (i := 0) rfl rfl rfl ?_
  refine eb_bipush (pc := 43) (n := 16) (v := 16) rfl rfl ?_
  refine eb_lushr (pc := 45) rfl ?_
  refine eb_ladd (pc := 46) rfl ?_
  refine eb_lstore_n (pc := 47) (n := 0) (i := 0) (ls2 := [(0, .long (((((((x0 - (((x0.toUInt64 >>> ((1 : Int32).toInt64.toUInt64 &&& Int64.toUInt64 63)).toInt64) &&& 6148914691236517205)) &&& 3689348814741910323) + ((((x0 - (((x0.toUInt64 >>> ((1 : Int32).toInt64.toUInt64 &&& Int64.toUInt64 63)).toInt64) &&& 6148914691236517205)).toUInt64 >>> ((2 : Int32).toInt64.toUInt64 &&& Int64.toUInt64 63)).toInt64) &&& 3689348814741910323)) + (((((x0 - (((x0.toUInt64 >>> ((1 : Int32).toInt64.toUInt64 &&& Int64.toUInt64 63)).toInt64) &&& 6148914691236517205)) &&& 3689348814741910323) + ((((x0 - (((x0.toUInt64 >>> ((1 : Int32).toInt64.toUInt64 &&& Int64.toUInt64 63)).toInt64) &&& 6148914691236517205)).toUInt64 >>> ((2 : Int32).toInt64.toUInt64 &&& Int64.toUInt64 63)).toInt64) &&& 3689348814741910323)).toUInt64 >>> ((4 : Int32).toInt64.toUInt64 &&& Int64.toUInt64 63)).toInt64)) &&& 1085102592571150095) + (((((((x0 - (((x0.toUInt64 >>> ((1 : Int32).toInt64.toUInt64 &&& Int64.toUInt64 63)).toInt64) &&& 6148914691236517205)) &&& 3689348814741910323) + ((((x0 - (((x0.toUInt64 >>> ((1 : Int32).toInt64.toUInt64 &&& Int64.toUInt64 63)).toInt64) &&& 6148914691236517205)).toUInt64 >>> ((2 : Int32).toInt64.toUInt64 &&& Int64.toUInt64 63)).toInt64) &&& 3689348814741910323)) + (((((x0 - (((x0.toUInt64 >>> ((1 : Int32).toInt64.toUInt64 &&& Int64.toUInt64 63)).toInt64) &&& 6148914691236517205)) &&& 3689348814741910323) + ((((x0 - (((x0.toUInt64 >>> ((1 : Int32).toInt64.toUInt64 &&& Int64.toUInt64 63)).toInt64) &&& 6148914691236517205)).toUInt64 >>> ((2 : Int32).toInt64.toUInt64 &&& Int64.toUInt64 63)).toInt64) &&& 3689348814741910323)).toUInt64 >>> ((4 : Int32).toInt64.toUInt64 &&& Int64.toUInt64 63)).toInt64)) &&& 1085102592571150095).toUInt64 >>> ((8 : Int32).toInt64.toUInt64 &&& Int64.toUInt64 63)).toInt64)) + ((((((((x0 - (((x0.toUInt64 >>> ((1 : Int32).toInt64.toUInt64 &&& Int64.toUInt64 63)).toInt64) &&& 6148914691236517205)) &&& 3689348814741910323) + ((((x0 - (((x0.toUInt64 >>> ((1 : Int32).toInt64.toUInt64 &&& Int64.toUInt64 63)).toInt64) &&& 6148914691236517205)).toUInt64 >>> ((2 : Int32).toInt64.toUInt64 &&& Int64.toUInt64 63)).toInt64) &&& 3689348814741910323)) + (((((x0 - (((x0.toUInt64 >>> ((1 : Int32).toInt64.toUInt64 &&& Int64.toUInt64 63)).toInt64) &&& 6148914691236517205)) &&& 3689348814741910323) + ((((x0 - (((x0.toUInt64 >>> ((1 : Int32).toInt64.toUInt64 &&& Int64.toUInt64 63)).toInt64) &&& 6148914691236517205)).toUInt64 >>> ((2 : Int32).toInt64.toUInt64 &&& Int64.toUInt64 63)).toInt64) &&& 3689348814741910323)).toUInt64 >>> ((4 : Int32).toInt64.toUInt64 &&& Int64.toUInt64 63)).toInt64)) &&& 1085102592571150095) + (((((((x0 - (((x0.toUInt64 >>> ((1 : Int32).toInt64.toUInt64 &&& Int64.toUInt64 63)).toInt64) &&& 6148914691236517205)) &&& 3689348814741910323) + ((((x0 - (((x0.toUInt64 >>> ((1 : Int32).toInt64.toUInt64 &&& Int64.toUInt64 63)).toInt64) &&& 6148914691236517205)).toUInt64 >>> ((2 : Int32).toInt64.toUInt64 &&& Int64.toUInt64 63)).toInt64) &&& 3689348814741910323)) + (((((x0 - (((x0.toUInt64 >>> ((1 : Int32).toInt64.toUInt64 &&& Int64.toUInt64 63)).toInt64) &&& 6148914691236517205)) &&& 3689348814741910323) + ((((x0 - (((x0.toUInt64 >>> ((1 : Int32).toInt64.toUInt64 &&& Int64.toUInt64 63)).toInt64) &&& 6148914691236517205)).toUInt64 >>> ((2 : Int32).toInt64.toUInt64 &&& Int64.toUInt64 63)).toInt64) &&& 3689348814741910323)).toUInt64 >>> ((4 : Int32).toInt64.toUInt64 &&& Int64.toUInt64 63)).toInt64)) &&& 1085102592571150095).toUInt64 >>> ((8 : Int32).toInt64.toUInt64 &&& Int64.toUInt64 63)).toInt64)).toUInt64 >>> ((16 : Int32).toInt64.toUInt64 &&& Int64.toUInt64 63)).toInt64)))]) rfl (Nat.le_of_ble_eq_true rfl) rfl rfl ?_
  refine eb_lload_n (pc := 48) (n := 0) (i := 0) rfl rfl rfl ?_
  refine eb_lload_n (pc := 49) (n := 0) (i := 0) rfl rfl rfl ?_
  refine eb_bipush (pc := 50) (n := 32) (v := 32) rfl rfl ?_
  refine eb_lushr (pc := 52) rfl ?_
  refine eb_ladd (pc := 53) rfl ?_
  refine eb_lstore_n (pc := 54) (n := 0) (i := 0) (ls2 := [(0, .long ((((((((x0 - (((x0.toUInt64 >>> ((1 : Int32).toInt64.toUInt64 &&& Int64.toUInt64 63)).toInt64) &&& 6148914691236517205)) &&& 3689348814741910323) + ((((x0 - (((x0.toUInt64 >>> ((1 : Int32).toInt64.toUInt64 &&& Int64.toUInt64 63)).toInt64) &&& 6148914691236517205)).toUInt64 >>> ((2 : Int32).toInt64.toUInt64 &&& Int64.toUInt64 63)).toInt64) &&& 3689348814741910323)) + (((((x0 - (((x0.toUInt64 >>> ((1 : Int32).toInt64.toUInt64 &&& Int64.toUInt64 63)).toInt64) &&& 6148914691236517205)) &&& 3689348814741910323) + ((((x0 - (((x0.toUInt64 >>> ((1 : Int32).toInt64.toUInt64 &&& Int64.toUInt64 63)).toInt64) &&& 6148914691236517205)).toUInt64 >>> ((2 : Int32).toInt64.toUInt64 &&& Int64.toUInt64 63)).toInt64) &&& 3689348814741910323)).toUInt64 >>> ((4 : Int32).toInt64.toUInt64 &&& Int64.toUInt64 63)).toInt64)) &&& 1085102592571150095) + (((((((x0 - (((x0.toUInt64 >>> ((1 : Int32).toInt64.toUInt64 &&& Int64.toUInt64 63)).toInt64) &&& 6148914691236517205)) &&& 3689348814741910323) + ((((x0 - (((x0.toUInt64 >>> ((1 : Int32).toInt64.toUInt64 &&& Int64.toUInt64 63)).toInt64) &&& 6148914691236517205)).toUInt64 >>> ((2 : Int32).toInt64.toUInt64 &&& Int64.toUInt64 63)).toInt64) &&& 3689348814741910323)) + (((((x0 - (((x0.toUInt64 >>> ((1 : Int32).toInt64.toUInt64 &&& Int64.toUInt64 63)).toInt64) &&& 6148914691236517205)) &&& 3689348814741910323) + ((((x0 - (((x0.toUInt64 >>> ((1 : Int32).toInt64.toUInt64 &&& Int64.toUInt64 63)).toInt64) &&& 6148914691236517205)).toUInt64 >>> ((2 : Int32).toInt64.toUInt64 &&& Int64.toUInt64 63)).toInt64) &&& 3689348814741910323)).toUInt64 >>> ((4 : Int32).toInt64.toUInt64 &&& Int64.toUInt64 63)).toInt64)) &&& 1085102592571150095).toUInt64 >>> ((8 : Int32).toInt64.toUInt64 &&& Int64.toUInt64 63)).toInt64)) + ((((((((x0 - (((x0.toUInt64 >>> ((1 : Int32).toInt64.toUInt64 &&& Int64.toUInt64 63)).toInt64) &&& 6148914691236517205)) &&& 3689348814741910323) + ((((x0 - (((x0.toUInt64 >>> ((1 : Int32).toInt64.toUInt64 &&& Int64.toUInt64 63)).toInt64) &&& 6148914691236517205)).toUInt64 >>> ((2 : Int32).toInt64.toUInt64 &&& Int64.toUInt64 63)).toInt64) &&& 3689348814741910323)) + (((((x0 - (((x0.toUInt64 >>> ((1 : Int32).toInt64.toUInt64 &&& Int64.toUInt64 63)).toInt64) &&& 6148914691236517205)) &&& 3689348814741910323) + ((((x0 - (((x0.toUInt64 >>> ((1 : Int32).toInt64.toUInt64 &&& Int64.toUInt64 63)).toInt64) &&& 6148914691236517205)).toUInt64 >>> ((2 : Int32).toInt64.toUInt64 &&& Int64.toUInt64 63)).toInt64) &&& 3689348814741910323)).toUInt64 >>> ((4 : Int32).toInt64.toUInt64 &&& Int64.toUInt64 63)).toInt64)) &&& 1085102592571150095) + (((((((x0 - (((x0.toUInt64 >>> ((1 : Int32).toInt64.toUInt64 &&& Int64.toUInt64 63)).toInt64) &&& 6148914691236517205)) &&& 3689348814741910323) + ((((x0 - (((x0.toUInt64 >>> ((1 : Int32).toInt64.toUInt64 &&& Int64.toUInt64 63)).toInt64) &&& 6148914691236517205)).toUInt64 >>> ((2 : Int32).toInt64.toUInt64 &&& Int64.toUInt64 63)).toInt64) &&& 3689348814741910323)) + (((((x0 - (((x0.toUInt64 >>> ((1 : Int32).toInt64.toUInt64 &&& Int64.toUInt64 63)).toInt64) &&& 6148914691236517205)) &&& 3689348814741910323) + ((((x0 - (((x0.toUInt64 >>> ((1 : Int32).toInt64.toUInt64 &&& Int64.toUInt64 63)).toInt64) &&& 6148914691236517205)).toUInt64 >>> ((2 : Int32).toInt64.toUInt64 &&& Int64.toUInt64 63)).toInt64) &&& 3689348814741910323)).toUInt64 >>> ((4 : Int32).toInt64.toUInt64 &&& Int64.toUInt64 63)).toInt64)) &&& 1085102592571150095).toUInt64 >>> ((8 : Int32).toInt64.toUInt64 &&& Int64.toUInt64 63)).toInt64)).toUInt64 >>> ((16 : Int32).toInt64.toUInt64 &&& Int64.toUInt64 63)).toInt64)) + (((((((((x0 - (((x0.toUInt64 >>> ((1 : Int32).toInt64.toUInt64 &&& Int64.toUInt64 63)).toInt64) &&& 6148914691236517205)) &&& 3689348814741910323) + ((((x0 - (((x0.toUInt64 >>> ((1 : Int32).toInt64.toUInt64 &&& Int64.toUInt64 63)).toInt64) &&& 6148914691236517205)).toUInt64 >>> ((2 : Int32).toInt64.toUInt64 &&& Int64.toUInt64 63)).toInt64) &&& 3689348814741910323)) + (((((x0 - (((x0.toUInt64 >>> ((1 : Int32).toInt64.toUInt64 &&& Int64.toUInt64 63)).toInt64) &&& 6148914691236517205)) &&& 3689348814741910323) + ((((x0 - (((x0.toUInt64 >>> ((1 : Int32).toInt64.toUInt64 &&& Int64.toUInt64 63)).toInt64) &&& 6148914691236517205)).toUInt64 >>> ((2 : Int32).toInt64.toUInt64 &&& Int64.toUInt64 63)).toInt64) &&& 3689348814741910323)).toUInt64 >>> ((4 : Int32).toInt64.toUInt64 &&& Int64.toUInt64 63)).toInt64)) &&& 1085102592571150095) + (((((((x0 - (((x0.toUInt64 >>> ((1 : Int32).toInt64.toUInt64 &&& Int64.toUInt64 63)).toInt64) &&& 6148914691236517205)) &&& 3689348814741910323) + ((((x0 - (((x0.toUInt64 >>> ((1 : Int32).toInt64.toUInt64 &&& Int64.toUInt64 63)).toInt64) &&& 6148914691236517205)).toUInt64 >>> ((2 : Int32).toInt64.toUInt64 &&& Int64.toUInt64 63)).toInt64) &&& 3689348814741910323)) + (((((x0 - (((x0.toUInt64 >>> ((1 : Int32).toInt64.toUInt64 &&& Int64.toUInt64 63)).toInt64) &&& 6148914691236517205)) &&& 3689348814741910323) + ((((x0 - (((x0.toUInt64 >>> ((1 : Int32).toInt64.toUInt64 &&& Int64.toUInt64 63)).toInt64) &&& 6148914691236517205)).toUInt64 >>> ((2 : Int32).toInt64.toUInt64 &&& Int64.toUInt64 63)).toInt64) &&& 3689348814741910323)).toUInt64 >>> ((4 : Int32).toInt64.toUInt64 &&& Int64.toUInt64 63)).toInt64)) &&& 1085102592571150095).toUInt64 >>> ((8 : Int32).toInt64.toUInt64 &&& Int64.toUInt64 63)).toInt64)) + ((((((((x0 - (((x0.toUInt64 >>> ((1 : Int32).toInt64.toUInt64 &&& Int64.toUInt64 63)).toInt64) &&& 6148914691236517205)) &&& 3689348814741910323) + ((((x0 - (((x0.toUInt64 >>> ((1 : Int32).toInt64.toUInt64 &&& Int64.toUInt64 63)).toInt64) &&& 6148914691236517205)).toUInt64 >>> ((2 : Int32).toInt64.toUInt64 &&& Int64.toUInt64 63)).toInt64) &&& 3689348814741910323)) + (((((x0 - (((x0.toUInt64 >>> ((1 : Int32).toInt64.toUInt64 &&& Int64.toUInt64 63)).toInt64) &&& 6148914691236517205)) &&& 3689348814741910323) + ((((x0 - (((x0.toUInt64 >>> ((1 : Int32).toInt64.toUInt64 &&& Int64.toUInt64 63)).toInt64) &&& 6148914691236517205)).toUInt64 >>> ((2 : Int32).toInt64.toUInt64 &&& Int64.toUInt64 63)).toInt64) &&& 3689348814741910323)).toUInt64 >>> ((4 : Int32).toInt64.toUInt64 &&& Int64.toUInt64 63)).toInt64)) &&& 1085102592571150095) + (((((((x0 - (((x0.toUInt64 >>> ((1 : Int32).toInt64.toUInt64 &&& Int64.toUInt64 63)).toInt64) &&& 6148914691236517205)) &&& 3689348814741910323) + ((((x0 - (((x0.toUInt64 >>> ((1 : Int32).toInt64.toUInt64 &&& Int64.toUInt64 63)).toInt64) &&& 6148914691236517205)).toUInt64 >>> ((2 : Int32).toInt64.toUInt64 &&& Int64.toUInt64 63)).toInt64) &&& 3689348814741910323)) + (((((x0 - (((x0.toUInt64 >>> ((1 : Int32).toInt64.toUInt64 &&& Int64.toUInt64 63)).toInt64) &&& 6148914691236517205)) &&& 3689348814741910323) + ((((x0 - (((x0.toUInt64 >>> ((1 : Int32).toInt64.toUInt64 &&& Int64.toUInt64 63)).toInt64) &&& 6148914691236517205)).toUInt64 >>> ((2 : Int32).toInt64.toUInt64 &&& Int64.toUInt64 63)).toInt64) &&& 3689348814741910323)).toUInt64 >>> ((4 : Int32).toInt64.toUInt64 &&& Int64.toUInt64 63)).toInt64)) &&& 1085102592571150095).toUInt64 >>> ((8 : Int32).toInt64.toUInt64 &&& Int64.toUInt64 63)).toInt64)).toUInt64 >>> ((16 : Int32).toInt64.toUInt64 &&& Int64.toUInt64 63)).toInt64)).toUInt64 >>> ((32 : Int32).toInt64.toUInt64 &&& Int64.toUInt64 63)).toInt64)))]) rfl (Nat.le_of_ble_eq_true rfl) rfl rfl ?_
  refine eb_lload_n (pc := 55) (n := 0) (i := 0) rfl rfl rfl ?_
  refine eb_l2i (pc := 56) rfl ?_
  refine eb_bipush (pc := 57) (n := 127) (v := 127) rfl rfl ?_
  refine eb_iand (pc := 59) rfl ?_
  exact eb_ireturn (pc := 60) rfl rfl rfl w
theorem T_J13_bitCount_95d88 {d : Nat} {h : eb_H} {Q : Option Value → eb_H → Prop} (x0 : Int64)  (ko : eb_KO h) (w : Q (some (.int ((((((((((x0 - (((x0.toUInt64 >>> ((1 : Int32).toInt64.toUInt64 &&& Int64.toUInt64 63)).toInt64) &&& 6148914691236517205)) &&& 3689348814741910323) + ((((x0 - (((x0.toUInt64 >>> ((1 : Int32).toInt64.toUInt64 &&& Int64.toUInt64 63)).toInt64) &&& 6148914691236517205)).toUInt64 >>> ((2 : Int32).toInt64.toUInt64 &&& Int64.toUInt64 63)).toInt64) &&& 3689348814741910323)) + (((((x0 - (((x0.toUInt64 >>> ((1 : Int32).toInt64.toUInt64 &&& Int64.toUInt64 63)).toInt64) &&& 6148914691236517205)) &&& 3689348814741910323) + ((((x0 - (((x0.toUInt64 >>> ((1 : Int32).toInt64.toUInt64 &&& Int64.toUInt64 63)).toInt64) &&& 6148914691236517205)).toUInt64 >>> ((2 : Int32).toInt64.toUInt64 &&& Int64.toUInt64 63)).toInt64) &&& 3689348814741910323)).toUInt64 >>> ((4 : Int32).toInt64.toUInt64 &&& Int64.toUInt64 63)).toInt64)) &&& 1085102592571150095) + (((((((x0 - (((x0.toUInt64 >>> ((1 : Int32).toInt64.toUInt64 &&& Int64.toUInt64 63)).toInt64) &&& 6148914691236517205)) &&& 3689348814741910323) + ((((x0 - (((x0.toUInt64 >>> ((1 : Int32).toInt64.toUInt64 &&& Int64.toUInt64 63)).toInt64) &&& 6148914691236517205)).toUInt64 >>> ((2 : Int32).toInt64.toUInt64 &&& Int64.toUInt64 63)).toInt64) &&& 3689348814741910323)) + (((((x0 - (((x0.toUInt64 >>> ((1 : Int32).toInt64.toUInt64 &&& Int64.toUInt64 63)).toInt64) &&& 6148914691236517205)) &&& 3689348814741910323) + ((((x0 - (((x0.toUInt64 >>> ((1 : Int32).toInt64.toUInt64 &&& Int64.toUInt64 63)).toInt64) &&& 6148914691236517205)).toUInt64 >>> ((2 : Int32).toInt64.toUInt64 &&& Int64.toUInt64 63)).toInt64) &&& 3689348814741910323)).toUInt64 >>> ((4 : Int32).toInt64.toUInt64 &&& Int64.toUInt64 63)).toInt64)) &&& 1085102592571150095).toUInt64 >>> ((8 : Int32).toInt64.toUInt64 &&& Int64.toUInt64 63)).toInt64)) + ((((((((x0 - (((x0.toUInt64 >>> ((1 : Int32).toInt64.toUInt64 &&& Int64.toUInt64 63)).toInt64) &&& 6148914691236517205)) &&& 3689348814741910323) + ((((x0 - (((x0.toUInt64 >>> ((1 : Int32).toInt64.toUInt64 &&& Int64.toUInt64 63)).toInt64) &&& 6148914691236517205)).toUInt64 >>> ((2 : Int32).toInt64.toUInt64 &&& Int64.toUInt64 63)).toInt64) &&& 3689348814741910323)) + (((((x0 - (((x0.toUInt64 >>> ((1 : Int32).toInt64.toUInt64 &&& Int64.toUInt64 63)).toInt64) &&& 6148914691236517205)) &&& 3689348814741910323) + ((((x0 - (((x0.toUInt64 >>> ((1 : Int32).toInt64.toUInt64 &&& Int64.toUInt64 63)).toInt64) &&& 6148914691236517205)).toUInt64 >>> ((2 : Int32).toInt64.toUInt64 &&& Int64.toUInt64 63)).toInt64) &&& 3689348814741910323)).toUInt64 >>> ((4 : Int32).toInt64.toUInt64 &&& Int64.toUInt64 63)).toInt64)) &&& 1085102592571150095) + (((((((x0 - (((x0.toUInt64 >>> ((1 : Int32).toInt64.toUInt64 &&& Int64.toUInt64 63)).toInt64) &&& 6148914691236517205)) &&& 3689348814741910323) + ((((x0 - (((x0.toUInt64 >>> ((1 : Int32).toInt64.toUInt64 &&& Int64.toUInt64 63)).toInt64) &&& 6148914691236517205)).toUInt64 >>> ((2 : Int32).toInt64.toUInt64 &&& Int64.toUInt64 63)).toInt64) &&& 3689348814741910323)) + (((((x0 - (((x0.toUInt64 >>> ((1 : Int32).toInt64.toUInt64 &&& Int64.toUInt64 63)).toInt64) &&& 6148914691236517205)) &&& 3689348814741910323) + ((((x0 - (((x0.toUInt64 >>> ((1 : Int32).toInt64.toUInt64 &&& Int64.toUInt64 63)).toInt64) &&& 6148914691236517205)).toUInt64 >>> ((2 : Int32).toInt64.toUInt64 &&& Int64.toUInt64 63)).toInt64) &&& 3689348814741910323)).toUInt64 >>> ((4 : Int32).toInt64.toUInt64 &&& Int64.toUInt64 63)).toInt64)) &&& 1085102592571150095).toUInt64 >>> ((8 : Int32).toInt64.toUInt64 &&& Int64.toUInt64 63)).toInt64)).toUInt64 >>> ((16 : Int32).toInt64.toUInt64 &&& Int64.toUInt64 63)).toInt64)) + (((((((((x0 - (((x0.toUInt64 >>> ((1 : Int32).toInt64.toUInt64 &&& Int64.toUInt64 63)).toInt64) &&& 6148914691236517205)) &&& 3689348814741910323) + ((((x0 - (((x0.toUInt64 >>> ((1 : Int32).toInt64.toUInt64 &&& Int64.toUInt64 63)).toInt64) &&& 6148914691236517205)).toUInt64 >>> ((2 : Int32).toInt64.toUInt64 &&& Int64.toUInt64 63)).toInt64) &&& 3689348814741910323)) + (((((x0 - (((x0.toUInt64 >>> ((1 : Int32).toInt64.toUInt64 &&& Int64.toUInt64 63)).toInt64) &&& 6148914691236517205)) &&& 3689348814741910323) + ((((x0 - (((x0.toUInt64 >>> ((1 : Int32).toInt64.toUInt64 &&& Int64.toUInt64 63)).toInt64) &&& 6148914691236517205)).toUInt64 >>> ((2 : Int32).toInt64.toUInt64 &&& Int64.toUInt64 63)).toInt64) &&& 3689348814741910323)).toUInt64 >>> ((4 : Int32).toInt64.toUInt64 &&& Int64.toUInt64 63)).toInt64)) &&& 1085102592571150095) + (((((((x0 - (((x0.toUInt64 >>> ((1 : Int32).toInt64.toUInt64 &&& Int64.toUInt64 63)).toInt64) &&& 6148914691236517205)) &&& 3689348814741910323) + ((((x0 - (((x0.toUInt64 >>> ((1 : Int32).toInt64.toUInt64 &&& Int64.toUInt64 63)).toInt64) &&& 6148914691236517205)).toUInt64 >>> ((2 : Int32).toInt64.toUInt64 &&& Int64.toUInt64 63)).toInt64) &&& 3689348814741910323)) + (((((x0 - (((x0.toUInt64 >>> ((1 : Int32).toInt64.toUInt64 &&& Int64.toUInt64 63)).toInt64) &&& 6148914691236517205)) &&& 3689348814741910323) + ((((x0 - (((x0.toUInt64 >>> ((1 : Int32).toInt64.toUInt64 &&& Int64.toUInt64 63)).toInt64) &&& 6148914691236517205)).toUInt64 >>> ((2 : Int32).toInt64.toUInt64 &&& Int64.toUInt64 63)).toInt64) &&& 3689348814741910323)).toUInt64 >>> ((4 : Int32).toInt64.toUInt64 &&& Int64.toUInt64 63)).toInt64)) &&& 1085102592571150095).toUInt64 >>> ((8 : Int32).toInt64.toUInt64 &&& Int64.toUInt64 63)).toInt64)) + ((((((((x0 - (((x0.toUInt64 >>> ((1 : Int32).toInt64.toUInt64 &&& Int64.toUInt64 63)).toInt64) &&& 6148914691236517205)) &&& 3689348814741910323) + ((((x0 - (((x0.toUInt64 >>> ((1 : Int32).toInt64.toUInt64 &&& Int64.toUInt64 63)).toInt64) &&& 6148914691236517205)).toUInt64 >>> ((2 : Int32).toInt64.toUInt64 &&& Int64.toUInt64 63)).toInt64) &&& 3689348814741910323)) + (((((x0 - (((x0.toUInt64 >>> ((1 : Int32).toInt64.toUInt64 &&& Int64.toUInt64 63)).toInt64) &&& 6148914691236517205)) &&& 3689348814741910323) + ((((x0 - (((x0.toUInt64 >>> ((1 : Int32).toInt64.toUInt64 &&& Int64.toUInt64 63)).toInt64) &&& 6148914691236517205)).toUInt64 >>> ((2 : Int32).toInt64.toUInt64 &&& Int64.toUInt64 63)).toInt64) &&& 3689348814741910323)).toUInt64 >>> ((4 : Int32).toInt64.toUInt64 &&& Int64.toUInt64 63)).toInt64)) &&& 1085102592571150095) + (((((((x0 - (((x0.toUInt64 >>> ((1 : Int32).toInt64.toUInt64 &&& Int64.toUInt64 63)).toInt64) &&& 6148914691236517205)) &&& 3689348814741910323) + ((((x0 - (((x0.toUInt64 >>> ((1 : Int32).toInt64.toUInt64 &&& Int64.toUInt64 63)).toInt64) &&& 6148914691236517205)).toUInt64 >>> ((2 : Int32).toInt64.toUInt64 &&& Int64.toUInt64 63)).toInt64) &&& 3689348814741910323)) + (((((x0 - (((x0.toUInt64 >>> ((1 : Int32).toInt64.toUInt64 &&& Int64.toUInt64 63)).toInt64) &&& 6148914691236517205)) &&& 3689348814741910323) + ((((x0 - (((x0.toUInt64 >>> ((1 : Int32).toInt64.toUInt64 &&& Int64.toUInt64 63)).toInt64) &&& 6148914691236517205)).toUInt64 >>> ((2 : Int32).toInt64.toUInt64 &&& Int64.toUInt64 63)).toInt64) &&& 3689348814741910323)).toUInt64 >>> ((4 : Int32).toInt64.toUInt64 &&& Int64.toUInt64 63)).toInt64)) &&& 1085102592571150095).toUInt64 >>> ((8 : Int32).toInt64.toUInt64 &&& Int64.toUInt64 63)).toInt64)).toUInt64 >>> ((16 : Int32).toInt64.toUInt64 &&& Int64.toUInt64 63)).toInt64)).toUInt64 >>> ((32 : Int32).toInt64.toUInt64 &&& Int64.toUInt64 63)).toInt64)).toInt32) &&& 127))) h) : eb_Ct d 284 [.long x0] h Q :=
  eb_bodyQ (by decide) ok_J13_bitCount_95d88 (Nat.le_of_ble_eq_true rfl) (b_J13_bitCount_95d88_0 (h0 := h) x0  ko w)
theorem b_J9_floorMod_7cf53_0 {d : Nat} {h0 h : eb_H} {Q : Option Value → eb_H → Prop} (x0 : Int32) (x1 : Int32)  (ko : eb_KO h) (w : (¬ x1 = 0) ∧ ((0 ≤ (x0 ^^^ x1) → Q (some (.int (x0 - x0 / x1 * x1))) h) ∧ (¬ (0 ≤ (x0 ^^^ x1)) → (((x0 - x0 / x1 * x1) = 0 → Q (some (.int (x0 - x0 / x1 * x1))) h) ∧ (¬ ((x0 - x0 / x1 * x1) = 0) → Q (some (.int ((x0 - x0 / x1 * x1) + x1))) h))))) : eb_Sn d m_J9_floorMod_7cf53 h0 0 [(0, .int x0), (1, .int x1)] [] h Q := by
  refine eb_iload_n (pc := 0) (n := 0) (i := 0) rfl rfl rfl ?_
  refine eb_iload_n (pc := 1) (n := 1) (i := 1) rfl rfl rfl ?_
  obtain ⟨c1, w⟩ := w
  refine eb_irem (pc := 2) c1 rfl ?_
  refine eb_istore_n (pc := 3) (n := 2) (i := 2) (ls2 := [(2, .int (x0 - x0 / x1 * x1)), (0, .int x0), (1, .int x1)]) rfl (Nat.le_of_ble_eq_true rfl) rfl rfl ?_
  refine eb_iload_n (pc := 4) (n := 0) (i := 0) rfl rfl rfl ?_
  refine eb_iload_n (pc := 5) (n := 1) (i := 1) rfl rfl rfl ?_
  refine eb_ixor (pc := 6) rfl ?_
  refine eb_if_ge (pc := 7) (tgt := 18) rfl (by decide) (fun c2 => ?_) (fun c2 => ?_)
  · replace w := w.1 c2
    refine eb_iload_n (pc := 18) (n := 2) (i := 2) rfl rfl rfl ?_
    exact eb_ireturn (pc := 19) rfl rfl rfl w
  · replace w := w.2 c2
    refine eb_iload_n (pc := 10) (n := 2) (i := 2) rfl rfl rfl ?_
    refine eb_if_eq (pc := 11) (tgt := 18) rfl (by decide) (fun c3 => ?_) (fun c3 => ?_)
    · replace w := w.1 c3
      refine eb_iload_n (pc := 18) (n := 2) (i := 2) rfl rfl rfl ?_
      exact eb_ireturn (pc := 19) rfl rfl rfl w
    · replace w := w.2 c3
      refine eb_iload_n (pc := 14) (n := 2) (i := 2) rfl rfl rfl ?_
      refine eb_iload_n (pc := 15) (n := 1) (i := 1) rfl rfl rfl ?_
      refine eb_iadd (pc := 16) rfl ?_
      exact eb_ireturn (pc := 17) rfl rfl rfl w
theorem T_J9_floorMod_7cf53 {d : Nat} {h : eb_H} {Q : Option Value → eb_H → Prop} (x0 : Int32) (x1 : Int32)  (ko : eb_KO h) (w : (¬ x1 = 0) ∧ ((0 ≤ (x0 ^^^ x1) → Q (some (.int (x0 - x0 / x1 * x1))) h) ∧ (¬ (0 ≤ (x0 ^^^ x1)) → (((x0 - x0 / x1 * x1) = 0 → Q (some (.int (x0 - x0 / x1 * x1))) h) ∧ (¬ ((x0 - x0 / x1 * x1) = 0) → Q (some (.int ((x0 - x0 / x1 * x1) + x1))) h))))) : eb_Ct d 285 [.int x0, .int x1] h Q :=
  eb_bodyQ (by decide) ok_J9_floorMod_7cf53 (Nat.le_of_ble_eq_true rfl) (b_J9_floorMod_7cf53_0 (h0 := h) x0 x1  ko w)
theorem b_J9_max_7cf53_0 {d : Nat} {h0 h : eb_H} {Q : Option Value → eb_H → Prop} (x0 : Int32) (x1 : Int32)  (ko : eb_KO h) (w : Q (some (.int (if x0 < x1 then x1 else x0 : Int32))) h) : eb_Sn d m_J9_max_7cf53 h0 0 [(0, .int x0), (1, .int x1)] [] h Q := by
  refine eb_iload_n (pc := 0) (n := 0) (i := 0) rfl rfl rfl ?_
  refine eb_iload_n (pc := 1) (n := 1) (i := 1) rfl rfl rfl ?_
  have jj2 : eb_Sn d m_J9_max_7cf53 h0 10 [(0, .int x0), (1, .int x1)] [.int (if x0 < x1 then x1 else x0 : Int32)] h Q := by
    exact eb_ireturn (pc := 10) rfl rfl rfl w
  refine eb_icmp_lt (pc := 2) (tgt := 9) rfl (by decide) (fun c1 => ?_) (fun c1 => ?_)
  · refine eb_iload_n (pc := 9) (n := 1) (i := 1) rfl rfl rfl ?_
    simp only [if_pos c1] at jj2 ⊢
    exact jj2
  · refine eb_iload_n (pc := 5) (n := 0) (i := 0) rfl rfl rfl ?_
    refine eb_goto (pc := 6) (tgt := 10) rfl (by decide) ?_
    simp only [if_neg c1] at jj2 ⊢
    exact jj2
theorem T_J9_max_7cf53 {d : Nat} {h : eb_H} {Q : Option Value → eb_H → Prop} (x0 : Int32) (x1 : Int32)  (ko : eb_KO h) (w : Q (some (.int (if x0 < x1 then x1 else x0 : Int32))) h) : eb_Ct d 286 [.int x0, .int x1] h Q :=
  eb_bodyQ (by decide) ok_J9_max_7cf53 (Nat.le_of_ble_eq_true rfl) (b_J9_max_7cf53_0 (h0 := h) x0 x1  ko w)
theorem b_J9_min_7cf53_0 {d : Nat} {h0 h : eb_H} {Q : Option Value → eb_H → Prop} (x0 : Int32) (x1 : Int32)  (ko : eb_KO h) (w : Q (some (.int (if x1 < x0 then x1 else x0 : Int32))) h) : eb_Sn d m_J9_min_7cf53 h0 0 [(0, .int x0), (1, .int x1)] [] h Q := by
  refine eb_iload_n (pc := 0) (n := 0) (i := 0) rfl rfl rfl ?_
  refine eb_iload_n (pc := 1) (n := 1) (i := 1) rfl rfl rfl ?_
  have jj2 : eb_Sn d m_J9_min_7cf53 h0 10 [(0, .int x0), (1, .int x1)] [.int (if x1 < x0 then x1 else x0 : Int32)] h Q := by
    exact eb_ireturn (pc := 10) rfl rfl rfl w
  refine eb_icmp_gt (pc := 2) (tgt := 9) rfl (by decide) (fun c1 => ?_) (fun c1 => ?_)
  · refine eb_iload_n (pc := 9) (n := 1) (i := 1) rfl rfl rfl ?_
    simp only [if_pos c1] at jj2 ⊢
    exact jj2
  · refine eb_iload_n (pc := 5) (n := 0) (i := 0) rfl rfl rfl ?_
    refine eb_goto (pc := 6) (tgt := 10) rfl (by decide) ?_
    simp only [if_neg c1] at jj2 ⊢
    exact jj2
theorem T_J9_min_7cf53 {d : Nat} {h : eb_H} {Q : Option Value → eb_H → Prop} (x0 : Int32) (x1 : Int32)  (ko : eb_KO h) (w : Q (some (.int (if x1 < x0 then x1 else x0 : Int32))) h) : eb_Ct d 287 [.int x0, .int x1] h Q :=
  eb_bodyQ (by decide) ok_J9_min_7cf53 (Nat.le_of_ble_eq_true rfl) (b_J9_min_7cf53_0 (h0 := h) x0 x1  ko w)
theorem b_J9_min_f86c9_0 {d : Nat} {h0 h : eb_H} {Q : Option Value → eb_H → Prop} (x0 : Int64) (x2 : Int64)  (ko : eb_KO h) (w : Q (some (.long (if x2 < x0 then x2 else x0 : Int64))) h) : eb_Sn d m_J9_min_f86c9 h0 0 [(0, .long x0), (2, .long x2)] [] h Q := by
  refine eb_lload_n (pc := 0) (n := 0) (i := 0) rfl rfl rfl ?_
  refine eb_lload_n (pc := 1) (n := 2) (i := 2) rfl rfl rfl ?_
  refine eb_lcmp (pc := 2) rfl ?_
  have jj2 : eb_Sn d m_J9_min_f86c9 h0 11 [(0, .long x0), (2, .long x2)] [.long (if x2 < x0 then x2 else x0 : Int64)] h Q := by
    exact eb_lreturn (pc := 11) rfl rfl w
  refine eb_if_gt (pc := 3) (tgt := 10) rfl (by decide) (fun c1 => ?_) (fun c1 => ?_)
  · replace c1 := eb_lc_gt.mp c1
    refine eb_lload_n (pc := 10) (n := 2) (i := 2) rfl rfl rfl ?_
    simp only [if_pos c1] at jj2 ⊢
    exact jj2
  · replace c1 := (fun hh => mt eb_lc_gt.mpr hh) c1
    refine eb_lload_n (pc := 6) (n := 0) (i := 0) rfl rfl rfl ?_
    refine eb_goto (pc := 7) (tgt := 11) rfl (by decide) ?_
    simp only [if_neg c1] at jj2 ⊢
    exact jj2
theorem T_J9_min_f86c9 {d : Nat} {h : eb_H} {Q : Option Value → eb_H → Prop} (x0 : Int64) (x2 : Int64)  (ko : eb_KO h) (w : Q (some (.long (if x2 < x0 then x2 else x0 : Int64))) h) : eb_Ct d 288 [.long x0, .long x2] h Q :=
  eb_bodyQ (by decide) ok_J9_min_f86c9 (Nat.le_of_ble_eq_true rfl) (b_J9_min_f86c9_0 (h0 := h) x0 x2  ko w)
theorem b_J0_length_8abf5_0 {d : Nat} {h0 h : eb_H} {Q : Option Value → eb_H → Prop} (i0 : Nat) (hi_i0 : i0 < 21) (ko : eb_KO h) (w : eb_Ct d 293 [.ref (eb_mk i0 21 0)] h (fun r h1 => ∃ y2, r = some (.int y2) ∧ eb_KO h1 ∧ Q (some (.int ((Int32.ofNat (eb_sln.getD i0 0)) >>> (y2 &&& 31)))) h1)) : eb_Sn (d + 1) m_J0_length_8abf5 h0 0 [(0, .ref (eb_mk i0 21 0))] [] h Q := by
  refine eb_aload_n (pc := 0) (n := 0) (i := 0) rfl rfl rfl ?_
  refine eb_strV (pc := 1) rfl rfl hi_i0 ?_
  refine eb_strL (pc := 4) rfl hi_i0 rfl ?_
  refine eb_aload_n (pc := 5) (n := 0) (i := 0) rfl rfl rfl ?_
  refine eb_ctT (pc := 6) (i := i0) (As := []) (rest := [.int (Int32.ofNat (eb_sln.getD i0 0))]) rfl (by decide) rfl hi_i0 rfl rfl (Nat.le_of_ble_eq_true rfl) ?_
  refine eb_Ct.mono w ?_
  rintro r h1 ⟨y2, rfl, ko3, w⟩
  change eb_Sn _ _ _ 9 _ [.int y2, .int (Int32.ofNat (eb_sln.getD i0 0))] _ _
  refine eb_ishr (pc := 9) rfl ?_
  exact eb_ireturn (pc := 10) rfl rfl rfl w
theorem T_J0_length_8abf5 {d : Nat} {h : eb_H} {Q : Option Value → eb_H → Prop} (i0 : Nat) (hi_i0 : i0 < 21) (ko : eb_KO h) (w : eb_Ct d 293 [.ref (eb_mk i0 21 0)] h (fun r h1 => ∃ y2, r = some (.int y2) ∧ eb_KO h1 ∧ Q (some (.int ((Int32.ofNat (eb_sln.getD i0 0)) >>> (y2 &&& 31)))) h1)) : eb_Ct (d + 1) 289 [.ref (eb_mk i0 21 0)] h Q :=
  eb_bodyQ (by decide) ok_J0_length_8abf5 (Nat.le_of_ble_eq_true rfl) (b_J0_length_8abf5_0 (h0 := h) i0 hi_i0 ko w)
theorem b_J0_charAt_5068e_0 {d : Nat} {h0 h : eb_H} {Q : Option Value → eb_H → Prop} (i0 : Nat) (x1 : Int32) (hi_i0 : i0 < 21) (ko : eb_KO h) (w : eb_Ct d 294 [.ref (eb_mk i0 21 0)] h (fun r h1 => ∃ y2, r = some (.int y2) ∧ eb_KO h1 ∧ (¬ (y2 = 0)) ∧ eb_Ct d 296 [.ref (eb_mk i0 22 0), .int x1] h1 (fun r h6 => ∃ y7, r = some (.int y7) ∧ eb_KO h6 ∧ (narrow .char (.int y7) = .int y7) ∧ Q (some (.int y7)) h6))) : eb_Sn (d + 1) m_J0_charAt_5068e h0 0 [(0, .ref (eb_mk i0 21 0)), (1, .int x1)] [] h Q := by
  refine eb_aload_n (pc := 0) (n := 0) (i := 0) rfl rfl rfl ?_
  refine eb_ctT (pc := 1) (i := i0) (As := []) (rest := []) rfl (by decide) rfl hi_i0 rfl rfl (Nat.le_of_ble_eq_true rfl) ?_
  refine eb_Ct.mono w ?_
  rintro r h1 ⟨y2, rfl, ko3, w⟩
  change eb_Sn _ _ _ 4 _ [.int y2] _ _
  obtain ⟨c5, w⟩ := w
  refine eb_if_eq (pc := 4) (tgt := 16) rfl (by decide) (fun c => absurd c c5) (fun _ => ?_)
  refine eb_aload_n (pc := 7) (n := 0) (i := 0) rfl rfl rfl ?_
  refine eb_strV (pc := 8) rfl rfl hi_i0 ?_
  refine eb_iload_n (pc := 11) (n := 1) (i := 1) rfl rfl rfl ?_
  refine eb_ctS (pc := 12) (As := [.ref (eb_mk i0 22 0), .int x1]) (rest := []) rfl (by decide) (by decide) rfl rfl (Nat.le_of_ble_eq_true rfl) ?_
  refine eb_Ct.mono w ?_
  rintro r h6 ⟨y7, rfl, ko8, w⟩
  change eb_Sn _ _ _ 15 _ [.int y7] _ _
  obtain ⟨c9, w⟩ := w
  exact eb_ireturn (pc := 15) rfl rfl c9 w
theorem T_J0_charAt_5068e {d : Nat} {h : eb_H} {Q : Option Value → eb_H → Prop} (i0 : Nat) (x1 : Int32) (hi_i0 : i0 < 21) (ko : eb_KO h) (w : eb_Ct d 294 [.ref (eb_mk i0 21 0)] h (fun r h1 => ∃ y2, r = some (.int y2) ∧ eb_KO h1 ∧ (¬ (y2 = 0)) ∧ eb_Ct d 296 [.ref (eb_mk i0 22 0), .int x1] h1 (fun r h6 => ∃ y7, r = some (.int y7) ∧ eb_KO h6 ∧ (narrow .char (.int y7) = .int y7) ∧ Q (some (.int y7)) h6))) : eb_Ct (d + 1) 290 [.ref (eb_mk i0 21 0), .int x1] h Q :=
  eb_bodyQ (by decide) ok_J0_charAt_5068e (Nat.le_of_ble_eq_true rfl) (b_J0_charAt_5068e_0 (h0 := h) i0 x1 hi_i0 ko w)
theorem b_J0_indexOf_0f7a4_0 {d : Nat} {h0 h : eb_H} {Q : Option Value → eb_H → Prop} (i0 : Nat) (x1 : Int32) (hi_i0 : i0 < 21) (ko : eb_KO h) (w : eb_Ct d 292 [.ref (eb_mk i0 21 0), .int x1, .int 0] h (fun r h1 => ∃ y2, r = some (.int y2) ∧ eb_KO h1 ∧ Q (some (.int y2)) h1)) : eb_Sn (d + 1) m_J0_indexOf_0f7a4 h0 0 [(0, .ref (eb_mk i0 21 0)), (1, .int x1)] [] h Q := by
  refine eb_aload_n (pc := 0) (n := 0) (i := 0) rfl rfl rfl ?_
  refine eb_iload_n (pc := 1) (n := 1) (i := 1) rfl rfl rfl ?_
  refine eb_iconst (pc := 2) (n := 0) (v := 0) rfl rfl ?_
  refine eb_ctT (pc := 3) (i := i0) (As := [.int x1, .int 0]) (rest := []) rfl (by decide) rfl hi_i0 rfl rfl (Nat.le_of_ble_eq_true rfl) ?_
  refine eb_Ct.mono w ?_
  rintro r h1 ⟨y2, rfl, ko3, w⟩
  change eb_Sn _ _ _ 6 _ [.int y2] _ _
  exact eb_ireturn (pc := 6) rfl rfl rfl w
theorem T_J0_indexOf_0f7a4 {d : Nat} {h : eb_H} {Q : Option Value → eb_H → Prop} (i0 : Nat) (x1 : Int32) (hi_i0 : i0 < 21) (ko : eb_KO h) (w : eb_Ct d 292 [.ref (eb_mk i0 21 0), .int x1, .int 0] h (fun r h1 => ∃ y2, r = some (.int y2) ∧ eb_KO h1 ∧ Q (some (.int y2)) h1)) : eb_Ct (d + 1) 291 [.ref (eb_mk i0 21 0), .int x1] h Q :=
  eb_bodyQ (by decide) ok_J0_indexOf_0f7a4 (Nat.le_of_ble_eq_true rfl) (b_J0_indexOf_0f7a4_0 (h0 := h) i0 x1 hi_i0 ko w)
theorem b_J0_indexOf_7cf53_0 {d : Nat} {h0 h : eb_H} {Q : Option Value → eb_H → Prop} (i0 : Nat) (x1 : Int32) (x2 : Int32) (hi_i0 : i0 < 21) (ko : eb_KO h) (w : eb_Ct d 294 [.ref (eb_mk i0 21 0)] h (fun r h1 => ∃ y2, r = some (.int y2) ∧ eb_KO h1 ∧ (¬ (y2 = 0)) ∧ eb_Ct d 289 [.ref (eb_mk i0 21 0)] h1 (fun r h6 => ∃ y7, r = some (.int y7) ∧ eb_KO h6 ∧ eb_Ct d 298 [.ref (eb_mk i0 22 0), .int x1, .int x2, .int y7] h6 (fun r h9 => ∃ y10, r = some (.int y10) ∧ eb_KO h9 ∧ Q (some (.int y10)) h9)))) : eb_Sn (d + 1) m_J0_indexOf_7cf53 h0 0 [(0, .ref (eb_mk i0 21 0)), (1, .int x1), (2, .int x2)] [] h Q := by
  refine eb_aload_n (pc := 0) (n := 0) (i := 0) rfl rfl rfl ?_
  refine eb_ctT (pc := 1) (i := i0) (As := []) (rest := []) rfl (by decide) rfl hi_i0 rfl rfl (Nat.le_of_ble_eq_true rfl) ?_
  refine eb_Ct.mono w ?_
  rintro r h1 ⟨y2, rfl, ko3, w⟩
  change eb_Sn _ _ _ 4 _ [.int y2] _ _
  obtain ⟨c5, w⟩ := w
  refine eb_if_eq (pc := 4) (tgt := 23) rfl (by decide) (fun c => absurd c c5) (fun _ => ?_)
  refine eb_aload_n (pc := 7) (n := 0) (i := 0) rfl rfl rfl ?_
  refine eb_strV (pc := 8) rfl rfl hi_i0 ?_
  refine eb_iload_n (pc := 11) (n := 1) (i := 1) rfl rfl rfl ?_
  refine eb_iload_n (pc := 12) (n := 2) (i := 2) rfl rfl rfl ?_
  refine eb_aload_n (pc := 13) (n := 0) (i := 0) rfl rfl rfl ?_
  refine eb_ctT (pc := 14) (i := i0) (As := []) (rest := [.int x2, .int x1, .ref (eb_mk i0 22 0)]) rfl (by decide) rfl hi_i0 rfl rfl (Nat.le_of_ble_eq_true rfl) ?_
  refine eb_Ct.mono w ?_
  rintro r h6 ⟨y7, rfl, ko8, w⟩
  change eb_Sn _ _ _ 17 _ [.int y7, .int x2, .int x1, .ref (eb_mk i0 22 0)] _ _
  refine eb_ctS (pc := 17) (As := [.ref (eb_mk i0 22 0), .int x1, .int x2, .int y7]) (rest := []) rfl (by decide) (by decide) rfl rfl (Nat.le_of_ble_eq_true rfl) ?_
  refine eb_Ct.mono w ?_
  rintro r h9 ⟨y10, rfl, ko11, w⟩
  change eb_Sn _ _ _ 20 _ [.int y10] _ _
  refine eb_goto (pc := 20) (tgt := 36) rfl (by decide) ?_
  exact eb_ireturn (pc := 36) rfl rfl rfl w
theorem T_J0_indexOf_7cf53 {d : Nat} {h : eb_H} {Q : Option Value → eb_H → Prop} (i0 : Nat) (x1 : Int32) (x2 : Int32) (hi_i0 : i0 < 21) (ko : eb_KO h) (w : eb_Ct d 294 [.ref (eb_mk i0 21 0)] h (fun r h1 => ∃ y2, r = some (.int y2) ∧ eb_KO h1 ∧ (¬ (y2 = 0)) ∧ eb_Ct d 289 [.ref (eb_mk i0 21 0)] h1 (fun r h6 => ∃ y7, r = some (.int y7) ∧ eb_KO h6 ∧ eb_Ct d 298 [.ref (eb_mk i0 22 0), .int x1, .int x2, .int y7] h6 (fun r h9 => ∃ y10, r = some (.int y10) ∧ eb_KO h9 ∧ Q (some (.int y10)) h9)))) : eb_Ct (d + 1) 292 [.ref (eb_mk i0 21 0), .int x1, .int x2] h Q :=
  eb_bodyQ (by decide) ok_J0_indexOf_7cf53 (Nat.le_of_ble_eq_true rfl) (b_J0_indexOf_7cf53_0 (h0 := h) i0 x1 x2 hi_i0 ko w)
theorem b_J0_coder_7d493_0 {d : Nat} {h0 h : eb_H} {Q : Option Value → eb_H → Prop} (i0 : Nat) (hi_i0 : i0 < 21) (ko : eb_KO h) (w : Q (some (.int 0)) h) : eb_Sn d m_J0_coder_7d493 h0 0 [(0, .ref (eb_mk i0 21 0))] [] h Q := by
  refine eb_strG (pc := 0) rfl rfl ?_
  refine eb_if_eq (pc := 3) (tgt := 13) rfl (by decide) (fun c => absurd c (by decide)) (fun c => ?_)
  refine eb_aload_n (pc := 6) (n := 0) (i := 0) rfl rfl rfl ?_
  refine eb_strC (pc := 7) rfl rfl hi_i0 ?_
  refine eb_goto (pc := 10) (tgt := 14) rfl (by decide) ?_
  exact eb_ireturn (pc := 14) rfl rfl (by decide) w
theorem T_J0_coder_7d493 {d : Nat} {h : eb_H} {Q : Option Value → eb_H → Prop} (i0 : Nat) (hi_i0 : i0 < 21) (ko : eb_KO h) (w : Q (some (.int 0)) h) : eb_Ct d 293 [.ref (eb_mk i0 21 0)] h Q :=
  eb_bodyQ (by decide) ok_J0_coder_7d493 (Nat.le_of_ble_eq_true rfl) (b_J0_coder_7d493_0 (h0 := h) i0 hi_i0 ko w)
theorem b_J0_isLatin1_aae02_0 {d : Nat} {h0 h : eb_H} {Q : Option Value → eb_H → Prop} (i0 : Nat) (hi_i0 : i0 < 21) (ko : eb_KO h) (w : Q (some (.int 1)) h) : eb_Sn d m_J0_isLatin1_aae02 h0 0 [(0, .ref (eb_mk i0 21 0))] [] h Q := by
  refine eb_strG (pc := 0) rfl rfl ?_
  refine eb_if_eq (pc := 3) (tgt := 17) rfl (by decide) (fun c => absurd c (by decide)) (fun c => ?_)
  refine eb_aload_n (pc := 6) (n := 0) (i := 0) rfl rfl rfl ?_
  refine eb_strC (pc := 7) rfl rfl hi_i0 ?_
  refine eb_if_ne (pc := 10) (tgt := 17) rfl (by decide) (fun c => absurd c (by decide)) (fun c => ?_)
  refine eb_iconst (pc := 13) (n := 1) (v := 1) rfl rfl ?_
  refine eb_goto (pc := 14) (tgt := 18) rfl (by decide) ?_
  exact eb_ireturn (pc := 18) rfl rfl (by decide) w
theorem T_J0_isLatin1_aae02 {d : Nat} {h : eb_H} {Q : Option Value → eb_H → Prop} (i0 : Nat) (hi_i0 : i0 < 21) (ko : eb_KO h) (w : Q (some (.int 1)) h) : eb_Ct d 294 [.ref (eb_mk i0 21 0)] h Q :=
  eb_bodyQ (by decide) ok_J0_isLatin1_aae02 (Nat.le_of_ble_eq_true rfl) (b_J0_isLatin1_aae02_0 (h0 := h) i0 hi_i0 ko w)
theorem b_J1_charAt_3b067_0 {d : Nat} {h0 h : eb_H} {Q : Option Value → eb_H → Prop} (i0 : Nat) (x1 : Int32) (hi_i0 : i0 < 21) (ko : eb_KO h) (w : eb_Ct d 295 [.int x1, .int (Int32.ofNat (eb_sln.getD i0 0))] h (fun r h1 => r = none ∧ eb_KO h1 ∧ (vp_in x1 (eb_sln.getD i0 0)) ∧ (narrow .char (.int (((((eb_byt.getD i0 []).getD x1.toNatClampNeg 0) &&& 255).toUInt32 % 65536).toInt32)) = .int (((((eb_byt.getD i0 []).getD x1.toNatClampNeg 0) &&& 255).toUInt32 % 65536).toInt32)) ∧ Q (some (.int (((((eb_byt.getD i0 []).getD x1.toNatClampNeg 0) &&& 255).toUInt32 % 65536).toInt32))) h1)) : eb_Sn (d + 1) m_J1_charAt_3b067 h0 0 [(0, .ref (eb_mk i0 22 0)), (1, .int x1)] [] h Q := by
  refine eb_iload_n (pc := 0) (n := 1) (i := 1) rfl rfl rfl ?_
  refine eb_aload_n (pc := 1) (n := 0) (i := 0) rfl rfl rfl ?_
  refine eb_strL (pc := 2) rfl hi_i0 rfl ?_
  refine eb_ctS (pc := 3) (As := [.int x1, .int (Int32.ofNat (eb_sln.getD i0 0))]) (rest := []) rfl (by decide) (by decide) rfl rfl (Nat.le_of_ble_eq_true rfl) ?_
  refine eb_Ct.mono w ?_
  rintro r h1 ⟨rfl, ko3, w⟩
  change eb_Sn _ _ _ 6 _ [] _ _
  refine eb_aload_n (pc := 6) (n := 0) (i := 0) rfl rfl rfl ?_
  refine eb_iload_n (pc := 7) (n := 1) (i := 1) rfl rfl rfl ?_
  obtain ⟨c4, w⟩ := w
  refine eb_strB (pc := 8) rfl hi_i0 c4 ?_
  refine eb_sipush (pc := 9) (n := 255) (v := 255) rfl rfl ?_
  refine eb_iand (pc := 12) rfl ?_
  refine eb_i2c (pc := 13) rfl ?_
  obtain ⟨c5, w⟩ := w
  exact eb_ireturn (pc := 14) rfl rfl c5 w
theorem T_J1_charAt_3b067 {d : Nat} {h : eb_H} {Q : Option Value → eb_H → Prop} (i0 : Nat) (x1 : Int32) (hi_i0 : i0 < 21) (ko : eb_KO h) (w : eb_Ct d 295 [.int x1, .int (Int32.ofNat (eb_sln.getD i0 0))] h (fun r h1 => r = none ∧ eb_KO h1 ∧ (vp_in x1 (eb_sln.getD i0 0)) ∧ (narrow .char (.int (((((eb_byt.getD i0 []).getD x1.toNatClampNeg 0) &&& 255).toUInt32 % 65536).toInt32)) = .int (((((eb_byt.getD i0 []).getD x1.toNatClampNeg 0) &&& 255).toUInt32 % 65536).toInt32)) ∧ Q (some (.int (((((eb_byt.getD i0 []).getD x1.toNatClampNeg 0) &&& 255).toUInt32 % 65536).toInt32))) h1)) : eb_Ct (d + 1) 296 [.ref (eb_mk i0 22 0), .int x1] h Q :=
  eb_bodyQ (by decide) ok_J1_charAt_3b067 (Nat.le_of_ble_eq_true rfl) (b_J1_charAt_3b067_0 (h0 := h) i0 x1 hi_i0 ko w)
theorem b_J1_canEncode_9a6ad_0 {d : Nat} {h0 h : eb_H} {Q : Option Value → eb_H → Prop} (x0 : Int32)  (ko : eb_KO h) (w : Q (some (.int (if x0 < 0 then 0 else (if (255 : Int32) < x0 then 0 else 1) : Int32))) h) : eb_Sn d m_J1_canEncode_9a6ad h0 0 [(0, .int x0)] [] h Q := by
  refine eb_iload_n (pc := 0) (n := 0) (i := 0) rfl rfl rfl ?_
  have jj3 : eb_Sn d m_J1_canEncode_9a6ad h0 16 [(0, .int x0)] [.int (if x0 < 0 then 0 else (if (255 : Int32) < x0 then 0 else 1) : Int32)] h Q := by
    exact eb_ireturn (pc := 16) rfl rfl (by (repeat' split) <;> rfl) w
  refine eb_if_lt (pc := 1) (tgt := 15) rfl (by decide) (fun c1 => ?_) (fun c1 => ?_)
  · refine eb_iconst (pc := 15) (n := 0) (v := 0) rfl rfl ?_
    simp only [if_pos c1] at jj3 ⊢
    exact jj3
  · refine eb_iload_n (pc := 4) (n := 0) (i := 0) rfl rfl rfl ?_
    refine eb_sipush (pc := 5) (n := 255) (v := 255) rfl rfl ?_
    refine eb_icmp_gt (pc := 8) (tgt := 15) rfl (by decide) (fun c2 => ?_) (fun c2 => ?_)
    · refine eb_iconst (pc := 15) (n := 0) (v := 0) rfl rfl ?_
      simp only [if_neg c1, if_pos c2] at jj3 ⊢
      exact jj3
    · refine eb_iconst (pc := 11) (n := 1) (v := 1) rfl rfl ?_
      refine eb_goto (pc := 12) (tgt := 16) rfl (by decide) ?_
      simp only [if_neg c1, if_neg c2] at jj3 ⊢
      exact jj3
theorem T_J1_canEncode_9a6ad {d : Nat} {h : eb_H} {Q : Option Value → eb_H → Prop} (x0 : Int32)  (ko : eb_KO h) (w : Q (some (.int (if x0 < 0 then 0 else (if (255 : Int32) < x0 then 0 else 1) : Int32))) h) : eb_Ct d 297 [.int x0] h Q :=
  eb_bodyQ (by decide) ok_J1_canEncode_9a6ad (Nat.le_of_ble_eq_true rfl) (b_J1_canEncode_9a6ad_0 (h0 := h) x0  ko w)
theorem b_J1_indexOf_4cfef_0 {d : Nat} {h0 h : eb_H} {Q : Option Value → eb_H → Prop} (i0 : Nat) (x1 : Int32) (x2 : Int32) (x3 : Int32) (hi_i0 : i0 < 21) (ko : eb_KO h) (w : eb_Ct d 297 [.int x1] h (fun r h1 => ∃ y2, r = some (.int y2) ∧ eb_KO h1 ∧ ((¬ y2 = 0 → eb_Ct d 286 [.int x2, .int 0] h1 (fun r h5 => ∃ y6, r = some (.int y6) ∧ eb_KO h5 ∧ eb_Ct d 287 [.int x3, .int (Int32.ofNat (eb_sln.getD i0 0))] h5 (fun r h8 => ∃ y9, r = some (.int y9) ∧ eb_KO h8 ∧ ((y6 < y9 → eb_Ct d 299 [.ref (eb_mk i0 22 0), .int x1, .int y6, .int y9] h8 (fun r h12 => ∃ y13, r = some (.int y13) ∧ eb_KO h12 ∧ Q (some (.int y13)) h12)) ∧ (¬ (y6 < y9) → Q (some (.int (-1))) h8))))) ∧ (y2 = 0 → Q (some (.int (-1))) h1)))) : eb_Sn (d + 1) m_J1_indexOf_4cfef h0 0 [(0, .ref (eb_mk i0 22 0)), (1, .int x1), (2, .int x2), (3, .int x3)] [] h Q := by
  refine eb_iload_n (pc := 0) (n := 1) (i := 1) rfl rfl rfl ?_
  refine eb_ctS (pc := 1) (As := [.int x1]) (rest := []) rfl (by decide) (by decide) rfl rfl (Nat.le_of_ble_eq_true rfl) ?_
  refine eb_Ct.mono w ?_
  rintro r h1 ⟨y2, rfl, ko3, w⟩
  change eb_Sn _ _ _ 4 _ [.int y2] _ _
  refine eb_if_ne (pc := 4) (tgt := 9) rfl (by decide) (fun c4 => ?_) (fun c4 => ?_)
  · replace w := w.1 c4
    refine eb_iload_n (pc := 9) (n := 2) (i := 2) rfl rfl rfl ?_
    refine eb_iconst (pc := 10) (n := 0) (v := 0) rfl rfl ?_
    refine eb_ctS (pc := 11) (As := [.int x2, .int 0]) (rest := []) rfl (by decide) (by decide) rfl rfl (Nat.le_of_ble_eq_true rfl) ?_
    refine eb_Ct.mono w ?_
    rintro r h5 ⟨y6, rfl, ko7, w⟩
    change eb_Sn _ _ _ 14 _ [.int y6] _ _
    refine eb_istore_n (pc := 14) (n := 2) (i := 2) (ls2 := [(2, .int y6), (0, .ref (eb_mk i0 22 0)), (1, .int x1), (3, .int x3)]) rfl (Nat.le_of_ble_eq_true rfl) rfl rfl ?_
    refine eb_iload_n (pc := 15) (n := 3) (i := 3) rfl rfl rfl ?_
    refine eb_aload_n (pc := 16) (n := 0) (i := 0) rfl rfl rfl ?_
    refine eb_strL (pc := 17) rfl hi_i0 rfl ?_
    refine eb_ctS (pc := 18) (As := [.int x3, .int (Int32.ofNat (eb_sln.getD i0 0))]) (rest := []) rfl (by decide) (by decide) rfl rfl (Nat.le_of_ble_eq_true rfl) ?_
    refine eb_Ct.mono w ?_
    rintro r h8 ⟨y9, rfl, ko10, w⟩
    change eb_Sn _ _ _ 21 _ [.int y9] _ _
    refine eb_istore_n (pc := 21) (n := 3) (i := 3) (ls2 := [(3, .int y9), (2, .int y6), (0, .ref (eb_mk i0 22 0)), (1, .int x1)]) rfl (Nat.le_of_ble_eq_true rfl) rfl rfl ?_
    refine eb_iload_n (pc := 22) (n := 2) (i := 2) rfl rfl rfl ?_
    refine eb_iload_n (pc := 23) (n := 3) (i := 3) rfl rfl rfl ?_
    refine eb_icmp_lt (pc := 24) (tgt := 29) rfl (by decide) (fun c11 => ?_) (fun c11 => ?_)
    · replace w := w.1 c11
      refine eb_aload_n (pc := 29) (n := 0) (i := 0) rfl rfl rfl ?_
      refine eb_iload_n (pc := 30) (n := 1) (i := 1) rfl rfl rfl ?_
      refine eb_iload_n (pc := 31) (n := 2) (i := 2) rfl rfl rfl ?_
      refine eb_iload_n (pc := 32) (n := 3) (i := 3) rfl rfl rfl ?_
      refine eb_ctS (pc := 33) (As := [.ref (eb_mk i0 22 0), .int x1, .int y6, .int y9]) (rest := []) rfl (by decide) (by decide) rfl rfl (Nat.le_of_ble_eq_true rfl) ?_
      refine eb_Ct.mono w ?_
      rintro r h12 ⟨y13, rfl, ko14, w⟩
      change eb_Sn _ _ _ 36 _ [.int y13] _ _
      exact eb_ireturn (pc := 36) rfl rfl rfl w
    · replace w := w.2 c11
      refine eb_iconst (pc := 27) (n := -1) (v := (-1)) rfl rfl ?_
      exact eb_ireturn (pc := 28) rfl rfl rfl w
  · replace w := w.2 c4
    refine eb_iconst (pc := 7) (n := -1) (v := (-1)) rfl rfl ?_
    exact eb_ireturn (pc := 8) rfl rfl rfl w
theorem T_J1_indexOf_4cfef {d : Nat} {h : eb_H} {Q : Option Value → eb_H → Prop} (i0 : Nat) (x1 : Int32) (x2 : Int32) (x3 : Int32) (hi_i0 : i0 < 21) (ko : eb_KO h) (w : eb_Ct d 297 [.int x1] h (fun r h1 => ∃ y2, r = some (.int y2) ∧ eb_KO h1 ∧ ((¬ y2 = 0 → eb_Ct d 286 [.int x2, .int 0] h1 (fun r h5 => ∃ y6, r = some (.int y6) ∧ eb_KO h5 ∧ eb_Ct d 287 [.int x3, .int (Int32.ofNat (eb_sln.getD i0 0))] h5 (fun r h8 => ∃ y9, r = some (.int y9) ∧ eb_KO h8 ∧ ((y6 < y9 → eb_Ct d 299 [.ref (eb_mk i0 22 0), .int x1, .int y6, .int y9] h8 (fun r h12 => ∃ y13, r = some (.int y13) ∧ eb_KO h12 ∧ Q (some (.int y13)) h12)) ∧ (¬ (y6 < y9) → Q (some (.int (-1))) h8))))) ∧ (y2 = 0 → Q (some (.int (-1))) h1)))) : eb_Ct (d + 1) 298 [.ref (eb_mk i0 22 0), .int x1, .int x2, .int x3] h Q :=
  eb_bodyQ (by decide) ok_J1_indexOf_4cfef (Nat.le_of_ble_eq_true rfl) (b_J1_indexOf_4cfef_0 (h0 := h) i0 x1 x2 x3 hi_i0 ko w)
theorem b_J1_indexOfChar_4cfef_0 {d : Nat} {h0 h : eb_H} {Q : Option Value → eb_H → Prop} (i0 : Nat) (x1 : Int32) (x2 : Int32) (x3 : Int32) (hi_i0 : i0 < 21) (ko : eb_KO h) (w : eb_Sn d m_J1_indexOfChar_4cfef h0 7 [(0, .ref (eb_mk i0 22 0)), (3, .int x3), (4, .int x1.toInt8.toInt32), (5, .int x2)] [] h Q) : eb_Sn d m_J1_indexOfChar_4cfef h0 0 [(0, .ref (eb_mk i0 22 0)), (1, .int x1), (2, .int x2), (3, .int x3)] [] h Q := by
  refine eb_iload_n (pc := 0) (n := 1) (i := 1) rfl rfl rfl ?_
  refine eb_i2b (pc := 1) rfl ?_
  refine eb_istore (pc := 2) (i := 4) (ls2 := [(4, .int x1.toInt8.toInt32), (0, .ref (eb_mk i0 22 0)), (1, .int x1), (2, .int x2), (3, .int x3)]) (Nat.le_of_ble_eq_true rfl) rfl rfl ?_
  refine eb_iload_n (pc := 4) (n := 2) (i := 2) rfl rfl rfl ?_
  refine eb_istore (pc := 5) (i := 5) (ls2 := [(5, .int x2), (4, .int x1.toInt8.toInt32), (0, .ref (eb_mk i0 22 0)), (1, .int x1), (2, .int x2), (3, .int x3)]) (Nat.le_of_ble_eq_true rfl) rfl rfl ?_
  exact eb_pick [2, 5, 1, 0] rfl w
theorem b_J1_indexOfChar_4cfef_7 {d : Nat} {h0 h : eb_H} {Q : Option Value → eb_H → Prop} (i0 : Nat) (x3 : Int32) (x4 : Int32) (x5 : Int32) (hi_i0 : i0 < 21) (ko : eb_KO h) (w : ((x3 ≤ x5 → Q (some (.int (-1))) h) ∧ (¬ (x3 ≤ x5) → (vp_in x5 (eb_sln.getD i0 0)) ∧ ((¬ ((eb_byt.getD i0 []).getD x5.toNatClampNeg 0) = x4 → eb_Sn d m_J1_indexOfChar_4cfef h0 7 [(0, .ref (eb_mk i0 22 0)), (3, .int x3), (4, .int x4), (5, .int (x5 + 1))] [] h Q) ∧ (((eb_byt.getD i0 []).getD x5.toNatClampNeg 0) = x4 → Q (some (.int x5)) h))))) : eb_Sn d m_J1_indexOfChar_4cfef h0 7 [(0, .ref (eb_mk i0 22 0)), (3, .int x3), (4, .int x4), (5, .int x5)] [] h Q := by
  refine eb_iload (pc := 7) (i := 5) rfl rfl ?_
  refine eb_iload_n (pc := 9) (n := 3) (i := 3) rfl rfl rfl ?_
  refine eb_icmp_ge (pc := 10) (tgt := 31) rfl (by decide) (fun c1 => ?_) (fun c1 => ?_)
  · replace w := w.1 c1
    refine eb_iconst (pc := 31) (n := -1) (v := (-1)) rfl rfl ?_
    exact eb_ireturn (pc := 32) rfl rfl rfl w
  · replace w := w.2 c1
    refine eb_aload_n (pc := 13) (n := 0) (i := 0) rfl rfl rfl ?_
    refine eb_iload (pc := 14) (i := 5) rfl rfl ?_
    obtain ⟨c2, w⟩ := w
    refine eb_strB (pc := 16) rfl hi_i0 c2 ?_
    refine eb_iload (pc := 17) (i := 4) rfl rfl ?_
    refine eb_icmp_ne (pc := 19) (tgt := 25) rfl (by decide) (fun c3 => ?_) (fun c3 => ?_)
    · replace w := w.1 c3
      refine eb_iinc (pc := 25) (i := 5) (n := 1) (v := x5 + 1) (ls2 := [(5, .int (x5 + 1)), (0, .ref (eb_mk i0 22 0)), (3, .int x3), (4, .int x4)]) (Nat.le_of_ble_eq_true rfl) rfl rfl rfl rfl ?_
      refine eb_goto (pc := 28) (tgt := 7) rfl (by decide) ?_
      exact eb_pick [1, 2, 3, 0] rfl w
    · replace w := w.2 c3
      refine eb_iload (pc := 22) (i := 5) rfl rfl ?_
      exact eb_ireturn (pc := 24) rfl rfl rfl w
theorem T_J1_indexOfChar_4cfef {d : Nat} {h : eb_H} {Q : Option Value → eb_H → Prop} (i0 : Nat) (x1 : Int32) (x2 : Int32) (x3 : Int32) (hi_i0 : i0 < 21) (ko : eb_KO h) (w : eb_Sn d m_J1_indexOfChar_4cfef h 7 [(0, .ref (eb_mk i0 22 0)), (3, .int x3), (4, .int x1.toInt8.toInt32), (5, .int x2)] [] h Q) : eb_Ct d 299 [.ref (eb_mk i0 22 0), .int x1, .int x2, .int x3] h Q :=
  eb_bodyQ (by decide) ok_J1_indexOfChar_4cfef (Nat.le_of_ble_eq_true rfl) (b_J1_indexOfChar_4cfef_0 (h0 := h) i0 x1 x2 x3 hi_i0 ko w)
theorem b_J7_fill_d0a16_0 {d : Nat} {h0 h : eb_H} {Q : Option Value → eb_H → Prop} (a0 : Nat) (x1 : Int64) (ka0 : eb_kd a0 = 14) (ko : eb_KO h) (w : eb_Sn d m_J7_fill_d0a16 h0 6 [(0, .ref a0), (1, .long x1), (3, .int 0), (4, .int (Int32.ofNat (eb_ln a0)))] [] h Q) : eb_Sn d m_J7_fill_d0a16 h0 0 [(0, .ref a0), (1, .long x1)] [] h Q := by
  refine eb_iconst (pc := 0) (n := 0) (v := 0) rfl rfl ?_
  refine eb_istore_n (pc := 1) (n := 3) (i := 3) (ls2 := [(3, .int 0), (0, .ref a0), (1, .long x1)]) rfl (Nat.le_of_ble_eq_true rfl) rfl rfl ?_
  refine eb_aload_n (pc := 2) (n := 0) (i := 0) rfl rfl rfl ?_
  refine eb_alen (pc := 3) rfl (by rw [ka0]; decide) (by rw [ka0]; decide) rfl ?_
  refine eb_istore (pc := 4) (i := 4) (ls2 := [(4, .int (Int32.ofNat (eb_ln a0))), (3, .int 0), (0, .ref a0), (1, .long x1)]) (Nat.le_of_ble_eq_true rfl) rfl rfl ?_
  exact eb_pick [2, 3, 1, 0] rfl w
theorem b_J7_fill_d0a16_6 {d : Nat} {h0 h : eb_H} {Q : Option Value → eb_H → Prop} (a0 : Nat) (x1 : Int64) (x3 : Int32) (x4 : Int32) (ka0 : eb_kd a0 = 14) (ko : eb_KO h) (w : ((x4 ≤ x3 → Q none h) ∧ (¬ (x4 ≤ x3) → (vp_in x3 (eb_ln a0)) ∧ eb_Sn d m_J7_fill_d0a16 h0 6 [(0, .ref a0), (1, .long x1), (3, .int (x3 + 1)), (4, .int x4)] [] (eb_sJ h a0 x3.toNatClampNeg x1) Q))) : eb_Sn d m_J7_fill_d0a16 h0 6 [(0, .ref a0), (1, .long x1), (3, .int x3), (4, .int x4)] [] h Q := by
  refine eb_iload_n (pc := 6) (n := 3) (i := 3) rfl rfl rfl ?_
  refine eb_iload (pc := 7) (i := 4) rfl rfl ?_
  refine eb_icmp_ge (pc := 9) (tgt := 22) rfl (by decide) (fun c1 => ?_) (fun c1 => ?_)
  · replace w := w.1 c1
    exact eb_return (pc := 22) rfl rfl w
  · replace w := w.2 c1
    refine eb_aload_n (pc := 12) (n := 0) (i := 0) rfl rfl rfl ?_
    refine eb_iload_n (pc := 13) (n := 3) (i := 3) rfl rfl rfl ?_
    refine eb_lload_n (pc := 14) (n := 1) (i := 1) rfl rfl rfl ?_
    obtain ⟨c2, w⟩ := w
    refine eb_lastore (pc := 15) rfl ka0 c2 ?_
    refine eb_iinc (pc := 16) (i := 3) (n := 1) (v := x3 + 1) (ls2 := [(3, .int (x3 + 1)), (0, .ref a0), (1, .long x1), (4, .int x4)]) (Nat.le_of_ble_eq_true rfl) rfl rfl rfl rfl ?_
    refine eb_goto (pc := 19) (tgt := 6) rfl (by decide) ?_
    exact eb_pick [1, 2, 0, 3] rfl w
theorem T_J7_fill_d0a16 {d : Nat} {h : eb_H} {Q : Option Value → eb_H → Prop} (a0 : Nat) (x1 : Int64) (ka0 : eb_kd a0 = 14) (ko : eb_KO h) (w : eb_Sn d m_J7_fill_d0a16 h 6 [(0, .ref a0), (1, .long x1), (3, .int 0), (4, .int (Int32.ofNat (eb_ln a0)))] [] h Q) : eb_Ct d 300 [.ref a0, .long x1] h Q :=
  eb_bodyQ (by decide) ok_J7_fill_d0a16 (Nat.le_of_ble_eq_true rfl) (b_J7_fill_d0a16_0 (h0 := h) a0 x1 ka0 ko w)
theorem b_J7_fill_53178_0 {d : Nat} {h0 h : eb_H} {Q : Option Value → eb_H → Prop} (a0 : Nat) (x1 : Int32) (ka0 : eb_kd a0 = 13) (ko : eb_KO h) (w : eb_Sn d m_J7_fill_53178 h0 5 [(0, .ref a0), (1, .int x1), (2, .int 0), (3, .int (Int32.ofNat (eb_ln a0)))] [] h Q) : eb_Sn d m_J7_fill_53178 h0 0 [(0, .ref a0), (1, .int x1)] [] h Q := by
  refine eb_iconst (pc := 0) (n := 0) (v := 0) rfl rfl ?_
  refine eb_istore_n (pc := 1) (n := 2) (i := 2) (ls2 := [(2, .int 0), (0, .ref a0), (1, .int x1)]) rfl (Nat.le_of_ble_eq_true rfl) rfl rfl ?_
  refine eb_aload_n (pc := 2) (n := 0) (i := 0) rfl rfl rfl ?_
  refine eb_alen (pc := 3) rfl (by rw [ka0]; decide) (by rw [ka0]; decide) rfl ?_
  refine eb_istore_n (pc := 4) (n := 3) (i := 3) (ls2 := [(3, .int (Int32.ofNat (eb_ln a0))), (2, .int 0), (0, .ref a0), (1, .int x1)]) rfl (Nat.le_of_ble_eq_true rfl) rfl rfl ?_
  exact eb_pick [2, 3, 1, 0] rfl w
theorem b_J7_fill_53178_5 {d : Nat} {h0 h : eb_H} {Q : Option Value → eb_H → Prop} (a0 : Nat) (x1 : Int32) (x2 : Int32) (x3 : Int32) (ka0 : eb_kd a0 = 13) (ko : eb_KO h) (w : ((x3 ≤ x2 → Q none h) ∧ (¬ (x3 ≤ x2) → (vp_in x2 (eb_ln a0)) ∧ eb_Sn d m_J7_fill_53178 h0 5 [(0, .ref a0), (1, .int x1), (2, .int (x2 + 1)), (3, .int x3)] [] (eb_sI h a0 x2.toNatClampNeg x1) Q))) : eb_Sn d m_J7_fill_53178 h0 5 [(0, .ref a0), (1, .int x1), (2, .int x2), (3, .int x3)] [] h Q := by
  refine eb_iload_n (pc := 5) (n := 2) (i := 2) rfl rfl rfl ?_
  refine eb_iload_n (pc := 6) (n := 3) (i := 3) rfl rfl rfl ?_
  refine eb_icmp_ge (pc := 7) (tgt := 20) rfl (by decide) (fun c1 => ?_) (fun c1 => ?_)
  · replace w := w.1 c1
    exact eb_return (pc := 20) rfl rfl w
  · replace w := w.2 c1
    refine eb_aload_n (pc := 10) (n := 0) (i := 0) rfl rfl rfl ?_
    refine eb_iload_n (pc := 11) (n := 2) (i := 2) rfl rfl rfl ?_
    refine eb_iload_n (pc := 12) (n := 1) (i := 1) rfl rfl rfl ?_
    obtain ⟨c2, w⟩ := w
    refine eb_iastore (pc := 13) rfl ka0 c2 ?_
    refine eb_iinc (pc := 14) (i := 2) (n := 1) (v := x2 + 1) (ls2 := [(2, .int (x2 + 1)), (0, .ref a0), (1, .int x1), (3, .int x3)]) (Nat.le_of_ble_eq_true rfl) rfl rfl rfl rfl ?_
    refine eb_goto (pc := 17) (tgt := 5) rfl (by decide) ?_
    exact eb_pick [1, 2, 0, 3] rfl w
theorem T_J7_fill_53178 {d : Nat} {h : eb_H} {Q : Option Value → eb_H → Prop} (a0 : Nat) (x1 : Int32) (ka0 : eb_kd a0 = 13) (ko : eb_KO h) (w : eb_Sn d m_J7_fill_53178 h 5 [(0, .ref a0), (1, .int x1), (2, .int 0), (3, .int (Int32.ofNat (eb_ln a0)))] [] h Q) : eb_Ct d 301 [.ref a0, .int x1] h Q :=
  eb_bodyQ (by decide) ok_J7_fill_53178 (Nat.le_of_ble_eq_true rfl) (b_J7_fill_53178_0 (h0 := h) a0 x1 ka0 ko w)
theorem b_J7_fill_031fb_0 {d : Nat} {h0 h : eb_H} {Q : Option Value → eb_H → Prop} (a0 : Nat) (x1 : Int32) (ka0 : eb_kd a0 = 12) (ko : eb_KO h) (w : eb_Sn d m_J7_fill_031fb h0 5 [(0, .ref a0), (1, .int x1), (2, .int 0), (3, .int (Int32.ofNat (eb_ln a0)))] [] h Q) : eb_Sn d m_J7_fill_031fb h0 0 [(0, .ref a0), (1, .int x1)] [] h Q := by
  refine eb_iconst (pc := 0) (n := 0) (v := 0) rfl rfl ?_
  refine eb_istore_n (pc := 1) (n := 2) (i := 2) (ls2 := [(2, .int 0), (0, .ref a0), (1, .int x1)]) rfl (Nat.le_of_ble_eq_true rfl) rfl rfl ?_
  refine eb_aload_n (pc := 2) (n := 0) (i := 0) rfl rfl rfl ?_
  refine eb_alen (pc := 3) rfl (by rw [ka0]; decide) (by rw [ka0]; decide) rfl ?_
  refine eb_istore_n (pc := 4) (n := 3) (i := 3) (ls2 := [(3, .int (Int32.ofNat (eb_ln a0))), (2, .int 0), (0, .ref a0), (1, .int x1)]) rfl (Nat.le_of_ble_eq_true rfl) rfl rfl ?_
  exact eb_pick [2, 3, 1, 0] rfl w
theorem b_J7_fill_031fb_5 {d : Nat} {h0 h : eb_H} {Q : Option Value → eb_H → Prop} (a0 : Nat) (x1 : Int32) (x2 : Int32) (x3 : Int32) (ka0 : eb_kd a0 = 12) (ko : eb_KO h) (w : ((x3 ≤ x2 → Q none h) ∧ (¬ (x3 ≤ x2) → (vp_in x2 (eb_ln a0)) ∧ eb_Sn d m_J7_fill_031fb h0 5 [(0, .ref a0), (1, .int x1), (2, .int (x2 + 1)), (3, .int x3)] [] (eb_sI h a0 x2.toNatClampNeg x1.toInt8.toInt32) Q))) : eb_Sn d m_J7_fill_031fb h0 5 [(0, .ref a0), (1, .int x1), (2, .int x2), (3, .int x3)] [] h Q := by
  refine eb_iload_n (pc := 5) (n := 2) (i := 2) rfl rfl rfl ?_
  refine eb_iload_n (pc := 6) (n := 3) (i := 3) rfl rfl rfl ?_
  refine eb_icmp_ge (pc := 7) (tgt := 20) rfl (by decide) (fun c1 => ?_) (fun c1 => ?_)
  · replace w := w.1 c1
    exact eb_return (pc := 20) rfl rfl w
  · replace w := w.2 c1
    refine eb_aload_n (pc := 10) (n := 0) (i := 0) rfl rfl rfl ?_
    refine eb_iload_n (pc := 11) (n := 2) (i := 2) rfl rfl rfl ?_
    refine eb_iload_n (pc := 12) (n := 1) (i := 1) rfl rfl rfl ?_
    obtain ⟨c2, w⟩ := w
    refine eb_bastore (pc := 13) rfl ka0 c2 ?_
    refine eb_iinc (pc := 14) (i := 2) (n := 1) (v := x2 + 1) (ls2 := [(2, .int (x2 + 1)), (0, .ref a0), (1, .int x1), (3, .int x3)]) (Nat.le_of_ble_eq_true rfl) rfl rfl rfl rfl ?_
    refine eb_goto (pc := 17) (tgt := 5) rfl (by decide) ?_
    exact eb_pick [1, 2, 0, 3] rfl w
theorem T_J7_fill_031fb {d : Nat} {h : eb_H} {Q : Option Value → eb_H → Prop} (a0 : Nat) (x1 : Int32) (ka0 : eb_kd a0 = 12) (ko : eb_KO h) (w : eb_Sn d m_J7_fill_031fb h 5 [(0, .ref a0), (1, .int x1), (2, .int 0), (3, .int (Int32.ofNat (eb_ln a0)))] [] h Q) : eb_Ct d 302 [.ref a0, .int x1] h Q :=
  eb_bodyQ (by decide) ok_J7_fill_031fb (Nat.le_of_ble_eq_true rfl) (b_J7_fill_031fb_0 (h0 := h) a0 x1 ka0 ko w)
