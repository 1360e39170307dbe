theorem b_X11_night_0 {d : Nat} {h0 h : eb_H} {Q : Option Value → eb_H → Prop} (x1 : Int32) (x2 : Int32)  (ko : eb_KO h) (w : eb_Ct d 156 [.long x2.toInt64, .long 1, .long 40] (eb_sI h s_MO 0 0) (fun r h1 => ∃ y2, r = some (.int y2) ∧ eb_KO h1 ∧ ((¬ y2 = 0 → eb_Ct d 206 [.ref s_MO] h1 (fun r h5 => r = none ∧ eb_KO h5 ∧ eb_Sn (d + 1) m_X11_night h0 34 [(0, .ref s_MO), (2, .int x2), (3, .int 0), (4, .int 0)] [] (eb_sI h5 s_MO 20 x1) Q)) ∧ (y2 = 0 → Q (some (.int (-3))) h1)))) : eb_Sn (d + 1) m_X11_night h0 0 [(0, .ref s_MO), (1, .int x1), (2, .int x2)] [] h Q := by
  refine eb_aload_n (pc := 0) (n := 0) (i := 0) rfl rfl rfl ?_
  refine eb_iconst (pc := 1) (n := 0) (v := 0) rfl rfl ?_
  refine eb_putI (pc := 2) rfl rfl (by decide) (by decide) rfl rfl ⟨rfl, rfl⟩ ?_
  refine eb_iload_n (pc := 5) (n := 2) (i := 2) rfl rfl rfl ?_
  refine eb_i2l (pc := 6) rfl ?_
  refine eb_lconst (pc := 7) (n := 1) (v := 1) rfl rfl ?_
  refine eb_ldc2 (pc := 8) (a := 40) (v := 40) rfl (by decide) ?_
  refine eb_ctS (pc := 11) (As := [.long x2.toInt64, .long 1, .long 40]) (rest := []) rfl (by decide) (by decide) rfl rfl (Nat.le_of_ble_eq_true rfl) ?_
  refine eb_Ct.mono w ?_
  rintro r h1 ⟨y2, rfl, ko3, w⟩
  change eb_Sn _ _ _ 14 _ [.int y2] _ _
  refine eb_if_ne (pc := 14) (tgt := 20) rfl (by decide) (fun c4 => ?_) (fun c4 => ?_)
  · replace w := w.1 c4
    refine eb_aload_n (pc := 20) (n := 0) (i := 0) rfl rfl rfl ?_
    refine eb_ctV (pc := 21) (As := []) (rest := []) rfl (by decide) rfl rfl (by decide) rfl (Nat.le_of_ble_eq_true rfl) ?_
    refine eb_Ct.mono w ?_
    rintro r h5 ⟨rfl, ko7, w⟩
    change eb_Sn _ _ _ 24 _ [] _ _
    refine eb_aload_n (pc := 24) (n := 0) (i := 0) rfl rfl rfl ?_
    refine eb_iload_n (pc := 25) (n := 1) (i := 1) rfl rfl rfl ?_
    refine eb_putI (pc := 26) rfl rfl (by decide) (by decide) rfl rfl ⟨rfl, rfl⟩ ?_
    refine eb_iconst (pc := 29) (n := 0) (v := 0) rfl rfl ?_
    refine eb_istore_n (pc := 30) (n := 3) (i := 3) (ls2 := [(3, .int 0), (0, .ref s_MO), (1, .int x1), (2, .int x2)]) rfl (Nat.le_of_ble_eq_true rfl) rfl rfl ?_
    refine eb_iconst (pc := 31) (n := 0) (v := 0) rfl rfl ?_
    refine eb_istore (pc := 32) (i := 4) (ls2 := [(4, .int 0), (3, .int 0), (0, .ref s_MO), (1, .int x1), (2, .int x2)]) (Nat.le_of_ble_eq_true rfl) rfl rfl ?_
    exact eb_pick [2, 4, 1, 0] rfl w
  · replace w := w.2 c4
    refine eb_bipush (pc := 17) (n := -3) (v := (-3)) rfl rfl ?_
    exact eb_ireturn (pc := 19) rfl rfl rfl w
theorem b_X11_night_34 {d : Nat} {h0 h : eb_H} {Q : Option Value → eb_H → Prop} (x2 : Int32) (x3 : Int32) (x4 : Int32)  (ko : eb_KO h) (w : ((x2 ≤ x4 → ((x3 ≤ 0 → Q (some (.int x3)) h) ∧ (¬ (x3 ≤ 0) → eb_Ct d 208 [.ref s_MO] h (fun r h3 => r = none ∧ eb_KO h3 ∧ Q (some (.int x3)) h3)))) ∧ (¬ (x2 ≤ x4) → eb_Ct d 225 [.ref s_MO] h (fun r h6 => ∃ y7, r = some (.int y7) ∧ eb_KO h6 ∧ eb_Ct d 218 [.ref s_MO, .long y7.toInt64] h6 (fun r h9 => ∃ y10, r = some (.int y10) ∧ eb_KO h9 ∧ ((y10 = 0 → eb_Ct d 219 [.ref s_MO, .int y7] h9 (fun r h13 => r = none ∧ eb_KO h13 ∧ eb_Sn (d + 1) m_X11_night h0 34 [(0, .ref s_MO), (2, .int x2), (3, .int (x3 + 1)), (4, .int (x4 + 1))] [] h13 Q)) ∧ (¬ (y10 = 0) → eb_Sn (d + 1) m_X11_night h0 34 [(0, .ref s_MO), (2, .int x2), (3, .int x3), (4, .int (x4 + 1))] [] h9 Q))))))) : eb_Sn (d + 1) m_X11_night h0 34 [(0, .ref s_MO), (2, .int x2), (3, .int x3), (4, .int x4)] [] h Q := by
  refine eb_iload (pc := 34) (i := 4) rfl rfl ?_
  refine eb_iload_n (pc := 36) (n := 2) (i := 2) rfl rfl rfl ?_
  refine eb_icmp_ge (pc := 37) (tgt := 74) rfl (by decide) (fun c1 => ?_) (fun c1 => ?_)
  · replace w := w.1 c1
    refine eb_iload_n (pc := 74) (n := 3) (i := 3) rfl rfl rfl ?_
    refine eb_if_le (pc := 75) (tgt := 82) rfl (by decide) (fun c2 => ?_) (fun c2 => ?_)
    · replace w := w.1 c2
      refine eb_iload_n (pc := 82) (n := 3) (i := 3) rfl rfl rfl ?_
      exact eb_ireturn (pc := 83) rfl rfl rfl w
    · replace w := w.2 c2
      refine eb_aload_n (pc := 78) (n := 0) (i := 0) rfl rfl rfl ?_
      refine eb_ctV (pc := 79) (As := []) (rest := []) rfl (by decide) rfl rfl (by decide) rfl (Nat.le_of_ble_eq_true rfl) ?_
      refine eb_Ct.mono w ?_
      rintro r h3 ⟨rfl, ko5, w⟩
      change eb_Sn _ _ _ 82 _ [] _ _
      refine eb_iload_n (pc := 82) (n := 3) (i := 3) rfl rfl rfl ?_
      exact eb_ireturn (pc := 83) rfl rfl rfl w
  · replace w := w.2 c1
    refine eb_aload_n (pc := 40) (n := 0) (i := 0) rfl rfl rfl ?_
    refine eb_ctV (pc := 41) (As := []) (rest := []) rfl (by decide) rfl rfl (by decide) rfl (Nat.le_of_ble_eq_true rfl) ?_
    refine eb_Ct.mono w ?_
    rintro r h6 ⟨y7, rfl, ko8, w⟩
    change eb_Sn _ _ _ 44 _ [.int y7] _ _
    refine eb_istore (pc := 44) (i := 5) (ls2 := [(5, .int y7), (0, .ref s_MO), (2, .int x2), (3, .int x3), (4, .int x4)]) (Nat.le_of_ble_eq_true rfl) rfl rfl ?_
    refine eb_aload_n (pc := 46) (n := 0) (i := 0) rfl rfl rfl ?_
    refine eb_iload (pc := 47) (i := 5) rfl rfl ?_
    refine eb_i2l (pc := 49) rfl ?_
    refine eb_ctV (pc := 50) (As := [.long y7.toInt64]) (rest := []) rfl (by decide) rfl rfl (by decide) rfl (Nat.le_of_ble_eq_true rfl) ?_
    refine eb_Ct.mono w ?_
    rintro r h9 ⟨y10, rfl, ko11, w⟩
    change eb_Sn _ _ _ 53 _ [.int y10] _ _
    refine eb_if_eq (pc := 53) (tgt := 59) rfl (by decide) (fun c12 => ?_) (fun c12 => ?_)
    · replace w := w.1 c12
      refine eb_aload_n (pc := 59) (n := 0) (i := 0) rfl rfl rfl ?_
      refine eb_iload (pc := 60) (i := 5) rfl rfl ?_
      refine eb_ctV (pc := 62) (As := [.int y7]) (rest := []) rfl (by decide) rfl rfl (by decide) rfl (Nat.le_of_ble_eq_true rfl) ?_
      refine eb_Ct.mono w ?_
      rintro r h13 ⟨rfl, ko15, w⟩
      change eb_Sn _ _ _ 65 _ [] _ _
      refine eb_iinc (pc := 65) (i := 3) (n := 1) (v := x3 + 1) (ls2 := [(3, .int (x3 + 1)), (5, .int y7), (0, .ref s_MO), (2, .int x2), (4, .int x4)]) (Nat.le_of_ble_eq_true rfl) rfl rfl rfl rfl ?_
      refine eb_iinc (pc := 68) (i := 4) (n := 1) (v := x4 + 1) (ls2 := [(4, .int (x4 + 1)), (3, .int (x3 + 1)), (5, .int y7), (0, .ref s_MO), (2, .int x2)]) (Nat.le_of_ble_eq_true rfl) rfl rfl rfl rfl ?_
      refine eb_goto (pc := 71) (tgt := 34) rfl (by decide) ?_
      exact eb_pick [3, 4, 1, 0] rfl w
    · replace w := w.2 c12
      refine eb_goto (pc := 56) (tgt := 68) rfl (by decide) ?_
      refine eb_iinc (pc := 68) (i := 4) (n := 1) (v := x4 + 1) (ls2 := [(4, .int (x4 + 1)), (5, .int y7), (0, .ref s_MO), (2, .int x2), (3, .int x3)]) (Nat.le_of_ble_eq_true rfl) rfl rfl rfl rfl ?_
      refine eb_goto (pc := 71) (tgt := 34) rfl (by decide) ?_
      exact eb_pick [2, 3, 4, 0] rfl w
theorem T_X11_night {d : Nat} {h : eb_H} {Q : Option Value → eb_H → Prop} (x1 : Int32) (x2 : Int32)  (ko : eb_KO h) (w : eb_Ct d 156 [.long x2.toInt64, .long 1, .long 40] (eb_sI h s_MO 0 0) (fun r h1 => ∃ y2, r = some (.int y2) ∧ eb_KO h1 ∧ ((¬ y2 = 0 → eb_Ct d 206 [.ref s_MO] h1 (fun r h5 => r = none ∧ eb_KO h5 ∧ eb_Sn (d + 1) m_X11_night h 34 [(0, .ref s_MO), (2, .int x2), (3, .int 0), (4, .int 0)] [] (eb_sI h5 s_MO 20 x1) Q)) ∧ (y2 = 0 → Q (some (.int (-3))) h1)))) : eb_Ct (d + 1) 226 [.ref s_MO, .int x1, .int x2] h Q :=
  eb_bodyQ (by decide) ok_X11_night (Nat.le_of_ble_eq_true rfl) (b_X11_night_0 (h0 := h) x1 x2  ko w)
theorem b_X11_laysThen_0 {d : Nat} {h0 h : eb_H} {Q : Option Value → eb_H → Prop} (x1 : Int32)  (ko : eb_KO h) (w : eb_Sn (d + 1) m_X11_laysThen h0 2 [(0, .ref s_MO), (1, .int x1), (2, .int 0)] [] h Q) : eb_Sn (d + 1) m_X11_laysThen h0 0 [(0, .ref s_MO), (1, .int x1)] [] h Q := by
  refine eb_iconst (pc := 0) (n := 0) (v := 0) rfl rfl ?_
  refine eb_istore_n (pc := 1) (n := 2) (i := 2) (ls2 := [(2, .int 0), (0, .ref s_MO), (1, .int x1)]) rfl (Nat.le_of_ble_eq_true rfl) rfl rfl ?_
  exact eb_pick [1, 2, 0] rfl w
theorem b_X11_laysThen_2 {d : Nat} {h0 h : eb_H} {Q : Option Value → eb_H → Prop} (x1 : Int32) (x2 : Int32)  (ko : eb_KO h) (w : eb_Ct d 190 [.ref s_MO] h (fun r h1 => ∃ y2, r = some (.int y2) ∧ eb_KO h1 ∧ ((((64 : Int32) * y2) ≤ x2 → Q none h1) ∧ (¬ (((64 : Int32) * y2) ≤ x2) → eb_Sn (d + 1) m_X11_laysThen h0 15 [(0, .ref s_MO), (1, .int x1), (2, .int x2), (3, .int 0)] [] h1 Q)))) : eb_Sn (d + 1) m_X11_laysThen h0 2 [(0, .ref s_MO), (1, .int x1), (2, .int x2)] [] h Q := by
  refine eb_iload_n (pc := 2) (n := 2) (i := 2) rfl rfl rfl ?_
  refine eb_bipush (pc := 3) (n := 64) (v := 64) rfl rfl ?_
  refine eb_aload_n (pc := 5) (n := 0) (i := 0) rfl rfl rfl ?_
  refine eb_ctV (pc := 6) (As := []) (rest := [.int 64, .int x2]) rfl (by decide) rfl rfl (by decide) rfl (Nat.le_of_ble_eq_true rfl) ?_
  refine eb_Ct.mono w ?_
  rintro r h1 ⟨y2, rfl, ko3, w⟩
  change eb_Sn _ _ _ 9 _ [.int y2, .int 64, .int x2] _ _
  refine eb_imul (pc := 9) rfl ?_
  refine eb_icmp_ge (pc := 10) (tgt := 62) rfl (by decide) (fun c4 => ?_) (fun c4 => ?_)
  · replace w := w.1 c4
    exact eb_return (pc := 62) rfl rfl w
  · replace w := w.2 c4
    refine eb_iconst (pc := 13) (n := 0) (v := 0) rfl rfl ?_
    refine eb_istore_n (pc := 14) (n := 3) (i := 3) (ls2 := [(3, .int 0), (0, .ref s_MO), (1, .int x1), (2, .int x2)]) rfl (Nat.le_of_ble_eq_true rfl) rfl rfl ?_
    exact eb_pick [1, 2, 3, 0] rfl w
theorem b_X11_laysThen_15 {d : Nat} {h0 h : eb_H} {Q : Option Value → eb_H → Prop} (x1 : Int32) (x2 : Int32) (x3 : Int32)  (ko : eb_KO h) (w : (((4 : Int32) ≤ x3 → eb_Sn (d + 1) m_X11_laysThen h0 2 [(0, .ref s_MO), (1, .int x1), (2, .int (x2 + 1))] [] h Q) ∧ (¬ ((4 : Int32) ≤ x3) → eb_Ct d 199 [.ref s_MO, .int x2, .int x3, .int x1] h (fun r h2 => ∃ y3, r = some (.int y3) ∧ eb_KO h2 ∧ ((¬ y3 = 0 → (vp_in (((4 : Int32) * x2) + x3) 4096) ∧ eb_Sn (d + 1) m_X11_laysThen h0 15 [(0, .ref s_MO), (1, .int x1), (2, .int x2), (3, .int (x3 + 1))] [] (eb_sI h2 s_m_then (((4 : Int32) * x2) + x3).toNatClampNeg (-1)) Q) ∧ (y3 = 0 → eb_Ct d 200 [.ref s_MO, .int x2, .int x3] h2 (fun r h7 => ∃ y8, r = some (.int y8) ∧ eb_KO h7 ∧ (vp_in (((4 : Int32) * x2) + x3) 4096) ∧ eb_Sn (d + 1) m_X11_laysThen h0 15 [(0, .ref s_MO), (1, .int x1), (2, .int x2), (3, .int (x3 + 1))] [] (eb_sI h7 s_m_then (((4 : Int32) * x2) + x3).toNatClampNeg y8) Q))))))) : eb_Sn (d + 1) m_X11_laysThen h0 15 [(0, .ref s_MO), (1, .int x1), (2, .int x2), (3, .int x3)] [] h Q := by
  refine eb_iload_n (pc := 15) (n := 3) (i := 3) rfl rfl rfl ?_
  refine eb_iconst (pc := 16) (n := 4) (v := 4) rfl rfl ?_
  refine eb_icmp_ge (pc := 17) (tgt := 56) rfl (by decide) (fun c1 => ?_) (fun c1 => ?_)
  · replace w := w.1 c1
    refine eb_iinc (pc := 56) (i := 2) (n := 1) (v := x2 + 1) (ls2 := [(2, .int (x2 + 1)), (0, .ref s_MO), (1, .int x1), (3, .int x3)]) (Nat.le_of_ble_eq_true rfl) rfl rfl rfl rfl ?_
    refine eb_goto (pc := 59) (tgt := 2) rfl (by decide) ?_
    exact eb_pick [1, 2, 0] rfl w
  · replace w := w.2 c1
    refine eb_aload_n (pc := 20) (n := 0) (i := 0) rfl rfl rfl ?_
    refine eb_getR (pc := 21) rfl rfl (by decide) (by decide) rfl (ko_s_MO_21 ko) ?_
    refine eb_iconst (pc := 24) (n := 4) (v := 4) rfl rfl ?_
    refine eb_iload_n (pc := 25) (n := 2) (i := 2) rfl rfl rfl ?_
    refine eb_imul (pc := 26) rfl ?_
    refine eb_iload_n (pc := 27) (n := 3) (i := 3) rfl rfl rfl ?_
    refine eb_iadd (pc := 28) rfl ?_
    refine eb_aload_n (pc := 29) (n := 0) (i := 0) rfl rfl rfl ?_
    refine eb_iload_n (pc := 30) (n := 2) (i := 2) rfl rfl rfl ?_
    refine eb_iload_n (pc := 31) (n := 3) (i := 3) rfl rfl rfl ?_
    refine eb_iload_n (pc := 32) (n := 1) (i := 1) rfl rfl rfl ?_
    refine eb_ctV (pc := 33) (As := [.int x2, .int x3, .int x1]) (rest := [.int (((4 : Int32) * x2) + x3), .ref s_m_then]) rfl (by decide) rfl rfl (by decide) rfl (Nat.le_of_ble_eq_true rfl) ?_
    refine eb_Ct.mono w ?_
    rintro r h2 ⟨y3, rfl, ko4, w⟩
    change eb_Sn _ _ _ 36 _ [.int y3, .int (((4 : Int32) * x2) + x3), .ref s_m_then] _ _
    refine eb_if_ne (pc := 36) (tgt := 48) rfl (by decide) (fun c5 => ?_) (fun c5 => ?_)
    · replace w := w.1 c5
      refine eb_iconst (pc := 48) (n := -1) (v := (-1)) rfl rfl ?_
      obtain ⟨c6, w⟩ := w
      refine eb_iastore (pc := 49) rfl rfl c6 ?_
      refine eb_iinc (pc := 50) (i := 3) (n := 1) (v := x3 + 1) (ls2 := [(3, .int (x3 + 1)), (0, .ref s_MO), (1, .int x1), (2, .int x2)]) (Nat.le_of_ble_eq_true rfl) rfl rfl rfl rfl ?_
      refine eb_goto (pc := 53) (tgt := 15) rfl (by decide) ?_
      exact eb_pick [1, 2, 3, 0] rfl w
    · replace w := w.2 c5
      refine eb_aload_n (pc := 39) (n := 0) (i := 0) rfl rfl rfl ?_
      refine eb_iload_n (pc := 40) (n := 2) (i := 2) rfl rfl rfl ?_
      refine eb_iload_n (pc := 41) (n := 3) (i := 3) rfl rfl rfl ?_
      refine eb_ctV (pc := 42) (As := [.int x2, .int x3]) (rest := [.int (((4 : Int32) * x2) + x3), .ref s_m_then]) rfl (by decide) rfl rfl (by decide) rfl (Nat.le_of_ble_eq_true rfl) ?_
      refine eb_Ct.mono w ?_
      rintro r h7 ⟨y8, rfl, ko9, w⟩
      change eb_Sn _ _ _ 45 _ [.int y8, .int (((4 : Int32) * x2) + x3), .ref s_m_then] _ _
      refine eb_goto (pc := 45) (tgt := 49) rfl (by decide) ?_
      obtain ⟨c10, w⟩ := w
      refine eb_iastore (pc := 49) rfl rfl c10 ?_
      refine eb_iinc (pc := 50) (i := 3) (n := 1) (v := x3 + 1) (ls2 := [(3, .int (x3 + 1)), (0, .ref s_MO), (1, .int x1), (2, .int x2)]) (Nat.le_of_ble_eq_true rfl) rfl rfl rfl rfl ?_
      refine eb_goto (pc := 53) (tgt := 15) rfl (by decide) ?_
      exact eb_pick [1, 2, 3, 0] rfl w
theorem T_X11_laysThen {d : Nat} {h : eb_H} {Q : Option Value → eb_H → Prop} (x1 : Int32)  (ko : eb_KO h) (w : eb_Sn (d + 1) m_X11_laysThen h 2 [(0, .ref s_MO), (1, .int x1), (2, .int 0)] [] h Q) : eb_Ct (d + 1) 227 [.ref s_MO, .int x1] h Q :=
  eb_bodyQ (by decide) ok_X11_laysThen (Nat.le_of_ble_eq_true rfl) (b_X11_laysThen_0 (h0 := h) x1  ko w)
theorem b_X11_stands_0 {d : Nat} {h0 h : eb_H} {Q : Option Value → eb_H → Prop}   (ko : eb_KO h) (w : eb_Ct d 190 [.ref s_MO] h (fun r h1 => ∃ y2, r = some (.int y2) ∧ eb_KO h1 ∧ Q (some (.int ((64 : Int32) * y2))) h1)) : eb_Sn (d + 1) m_X11_stands h0 0 [(0, .ref s_MO)] [] h Q := by
  refine eb_bipush (pc := 0) (n := 64) (v := 64) rfl rfl ?_
  refine eb_aload_n (pc := 2) (n := 0) (i := 0) rfl rfl rfl ?_
  refine eb_ctV (pc := 3) (As := []) (rest := [.int 64]) rfl (by decide) rfl rfl (by decide) rfl (Nat.le_of_ble_eq_true rfl) ?_
  refine eb_Ct.mono w ?_
  rintro r h1 ⟨y2, rfl, ko3, w⟩
  change eb_Sn _ _ _ 6 _ [.int y2, .int 64] _ _
  refine eb_imul (pc := 6) rfl ?_
  exact eb_ireturn (pc := 7) rfl rfl rfl w
theorem T_X11_stands {d : Nat} {h : eb_H} {Q : Option Value → eb_H → Prop}   (ko : eb_KO h) (w : eb_Ct d 190 [.ref s_MO] h (fun r h1 => ∃ y2, r = some (.int y2) ∧ eb_KO h1 ∧ Q (some (.int ((64 : Int32) * y2))) h1)) : eb_Ct (d + 1) 228 [.ref s_MO] h Q :=
  eb_bodyQ (by decide) ok_X11_stands (Nat.le_of_ble_eq_true rfl) (b_X11_stands_0 (h0 := h)   ko w)
theorem b_X11_laysReached_0 {d : Nat} {h0 h : eb_H} {Q : Option Value → eb_H → Prop} (x1 : Int32)  (ko : eb_KO h) (w : eb_Ct d 227 [.ref s_MO, .int x1] h (fun r h1 => r = none ∧ eb_KO h1 ∧ eb_Sn (d + 1) m_X11_laysReached h0 7 [(0, .ref s_MO), (2, .int 0)] [] h1 Q)) : eb_Sn (d + 1) m_X11_laysReached h0 0 [(0, .ref s_MO), (1, .int x1)] [] h Q := by
  refine eb_aload_n (pc := 0) (n := 0) (i := 0) rfl rfl rfl ?_
  refine eb_iload_n (pc := 1) (n := 1) (i := 1) rfl rfl rfl ?_
  refine eb_ctV (pc := 2) (As := [.int x1]) (rest := []) rfl (by decide) rfl rfl (by decide) rfl (Nat.le_of_ble_eq_true rfl) ?_
  refine eb_Ct.mono w ?_
  rintro r h1 ⟨rfl, ko3, w⟩
  change eb_Sn _ _ _ 5 _ [] _ _
  refine eb_iconst (pc := 5) (n := 0) (v := 0) rfl rfl ?_
  refine eb_istore_n (pc := 6) (n := 2) (i := 2) (ls2 := [(2, .int 0), (0, .ref s_MO), (1, .int x1)]) rfl (Nat.le_of_ble_eq_true rfl) rfl rfl ?_
  exact eb_pick [1, 0] rfl w
theorem b_X11_laysReached_7 {d : Nat} {h0 h : eb_H} {Q : Option Value → eb_H → Prop} (x2 : Int32)  (ko : eb_KO h) (w : (((1024 : Int32) ≤ x2 → eb_Sn (d + 1) m_X11_laysReached h0 41 [(0, .ref s_MO), (2, .int 1)] [] h Q) ∧ (¬ ((1024 : Int32) ≤ x2) → eb_Ct d 195 [.ref s_MO] h (fun r h2 => ∃ y3, r = some (.int y3) ∧ eb_KO h2 ∧ (vp_in x2 1024) ∧ eb_Sn (d + 1) m_X11_laysReached h0 7 [(0, .ref s_MO), (2, .int (x2 + 1))] [] (eb_sI h2 s_m_reached x2.toNatClampNeg ((if x2 = y3 then 1 else 0 : Int32) &&& 1)) Q)))) : eb_Sn (d + 1) m_X11_laysReached h0 7 [(0, .ref s_MO), (2, .int x2)] [] h Q := by
  refine eb_iload_n (pc := 7) (n := 2) (i := 2) rfl rfl rfl ?_
  refine eb_sipush (pc := 8) (n := 1024) (v := 1024) rfl rfl ?_
  refine eb_icmp_ge (pc := 11) (tgt := 39) rfl (by decide) (fun c1 => ?_) (fun c1 => ?_)
  · replace w := w.1 c1
    refine eb_iconst (pc := 39) (n := 1) (v := 1) rfl rfl ?_
    refine eb_istore_n (pc := 40) (n := 2) (i := 2) (ls2 := [(2, .int 1), (0, .ref s_MO)]) rfl (Nat.le_of_ble_eq_true rfl) rfl rfl ?_
    exact eb_pick [1, 0] rfl w
  · replace w := w.2 c1
    refine eb_aload_n (pc := 14) (n := 0) (i := 0) rfl rfl rfl ?_
    refine eb_getR (pc := 15) rfl rfl (by decide) (by decide) rfl (ko_s_MO_23 ko) ?_
    refine eb_iload_n (pc := 18) (n := 2) (i := 2) rfl rfl rfl ?_
    refine eb_iload_n (pc := 19) (n := 2) (i := 2) rfl rfl rfl ?_
    refine eb_aload_n (pc := 20) (n := 0) (i := 0) rfl rfl rfl ?_
    refine eb_ctV (pc := 21) (As := []) (rest := [.int x2, .int x2, .ref s_m_reached]) rfl (by decide) rfl rfl (by decide) rfl (Nat.le_of_ble_eq_true rfl) ?_
    refine eb_Ct.mono w ?_
    rintro r h2 ⟨y3, rfl, ko4, w⟩
    change eb_Sn _ _ _ 24 _ [.int y3, .int x2, .int x2, .ref s_m_reached] _ _
    have jj7 : eb_Sn (d + 1) m_X11_laysReached h0 32 [(0, .ref s_MO), (2, .int x2)] [.int (if x2 = y3 then 1 else 0 : Int32), .int x2, .ref s_m_reached] h2 Q := by
      obtain ⟨c6, w⟩ := w
      refine eb_zastore (pc := 32) rfl rfl c6 ?_
      refine eb_iinc (pc := 33) (i := 2) (n := 1) (v := x2 + 1) (ls2 := [(2, .int (x2 + 1)), (0, .ref s_MO)]) (Nat.le_of_ble_eq_true rfl) rfl rfl rfl rfl ?_
      refine eb_goto (pc := 36) (tgt := 7) rfl (by decide) ?_
      exact eb_pick [1, 0] rfl w
    refine eb_icmp_ne (pc := 24) (tgt := 31) rfl (by decide) (fun c5 => ?_) (fun c5 => ?_)
    · refine eb_iconst (pc := 31) (n := 0) (v := 0) rfl rfl ?_
      simp only [if_neg c5] at jj7 ⊢
      exact jj7
    · refine eb_iconst (pc := 27) (n := 1) (v := 1) rfl rfl ?_
      refine eb_goto (pc := 28) (tgt := 32) rfl (by decide) ?_
      simp only [if_pos c5] at jj7 ⊢
      exact jj7
theorem b_X11_laysReached_41 {d : Nat} {h0 h : eb_H} {Q : Option Value → eb_H → Prop} (x2 : Int32)  (ko : eb_KO h) (w : ((x2 = 0 → Q none h) ∧ (¬ (x2 = 0) → eb_Sn (d + 1) m_X11_laysReached h0 49 [(0, .ref s_MO), (2, .int 0), (3, .int 0)] [] h Q))) : eb_Sn (d + 1) m_X11_laysReached h0 41 [(0, .ref s_MO), (2, .int x2)] [] h Q := by
  refine eb_iload_n (pc := 41) (n := 2) (i := 2) rfl rfl rfl ?_
  refine eb_if_eq (pc := 42) (tgt := 132) rfl (by decide) (fun c1 => ?_) (fun c1 => ?_)
  · replace w := w.1 c1
    exact eb_return (pc := 132) rfl rfl w
  · replace w := w.2 c1
    refine eb_iconst (pc := 45) (n := 0) (v := 0) rfl rfl ?_
    refine eb_istore_n (pc := 46) (n := 2) (i := 2) (ls2 := [(2, .int 0), (0, .ref s_MO)]) rfl (Nat.le_of_ble_eq_true rfl) rfl rfl ?_
    refine eb_iconst (pc := 47) (n := 0) (v := 0) rfl rfl ?_
    refine eb_istore_n (pc := 48) (n := 3) (i := 3) (ls2 := [(3, .int 0), (2, .int 0), (0, .ref s_MO)]) rfl (Nat.le_of_ble_eq_true rfl) rfl rfl ?_
    exact eb_pick [2, 1, 0] rfl w
theorem b_X11_laysReached_49 {d : Nat} {h0 h : eb_H} {Q : Option Value → eb_H → Prop} (x2 : Int32) (x3 : Int32)  (ko : eb_KO h) (w : eb_Ct d 228 [.ref s_MO] h (fun r h1 => ∃ y2, r = some (.int y2) ∧ eb_KO h1 ∧ ((y2 ≤ x3 → eb_Sn (d + 1) m_X11_laysReached h0 41 [(0, .ref s_MO), (2, .int x2)] [] h1 Q) ∧ (¬ (y2 ≤ x3) → eb_Sn (d + 1) m_X11_laysReached h0 60 [(0, .ref s_MO), (2, .int x2), (3, .int x3), (4, .int 0)] [] h1 Q)))) : eb_Sn (d + 1) m_X11_laysReached h0 49 [(0, .ref s_MO), (2, .int x2), (3, .int x3)] [] h Q := by
  refine eb_iload_n (pc := 49) (n := 3) (i := 3) rfl rfl rfl ?_
  refine eb_aload_n (pc := 50) (n := 0) (i := 0) rfl rfl rfl ?_
  refine eb_ctV (pc := 51) (As := []) (rest := [.int x3]) rfl (by decide) rfl rfl (by decide) rfl (Nat.le_of_ble_eq_true rfl) ?_
  refine eb_Ct.mono w ?_
  rintro r h1 ⟨y2, rfl, ko3, w⟩
  change eb_Sn _ _ _ 54 _ [.int y2, .int x3] _ _
  refine eb_icmp_ge (pc := 54) (tgt := 129) rfl (by decide) (fun c4 => ?_) (fun c4 => ?_)
  · replace w := w.1 c4
    refine eb_goto (pc := 129) (tgt := 41) rfl (by decide) ?_
    exact eb_pick [0, 1] rfl w
  · replace w := w.2 c4
    refine eb_iconst (pc := 57) (n := 0) (v := 0) rfl rfl ?_
    refine eb_istore (pc := 58) (i := 4) (ls2 := [(4, .int 0), (0, .ref s_MO), (2, .int x2), (3, .int x3)]) (Nat.le_of_ble_eq_true rfl) rfl rfl ?_
    exact eb_pick [1, 2, 3, 0] rfl w
theorem b_X11_laysReached_60 {d : Nat} {h0 h : eb_H} {Q : Option Value → eb_H → Prop} (x2 : Int32) (x3 : Int32) (x4 : Int32)  (ko : eb_KO h) (w : (((4 : Int32) ≤ x4 → eb_Sn (d + 1) m_X11_laysReached h0 49 [(0, .ref s_MO), (2, .int x2), (3, .int (x3 + 1))] [] h Q) ∧ (¬ ((4 : Int32) ≤ x4) → (vp_in x3 1024) ∧ (((eb_I h s_m_reached x3.toNatClampNeg) = 0 → eb_Sn (d + 1) m_X11_laysReached h0 49 [(0, .ref s_MO), (2, .int x2), (3, .int (x3 + 1))] [] h Q) ∧ (¬ ((eb_I h s_m_reached x3.toNatClampNeg) = 0) → (vp_in (((4 : Int32) * x3) + x4) 4096) ∧ (((eb_I h s_m_then (((4 : Int32) * x3) + x4).toNatClampNeg) = ((-1) : Int32) → eb_Sn (d + 1) m_X11_laysReached h0 60 [(0, .ref s_MO), (2, .int x2), (3, .int x3), (4, .int (x4 + 1))] [] h Q) ∧ (¬ ((eb_I h s_m_then (((4 : Int32) * x3) + x4).toNatClampNeg) = ((-1) : Int32)) → (vp_in (eb_I h s_m_then (((4 : Int32) * x3) + x4).toNatClampNeg) 1024) ∧ (((eb_I h s_m_reached (eb_I h s_m_then (((4 : Int32) * x3) + x4).toNatClampNeg).toNatClampNeg) = 0 → (vp_in (eb_I h s_m_then (((4 : Int32) * x3) + x4).toNatClampNeg) 1024) ∧ eb_Sn (d + 1) m_X11_laysReached h0 60 [(0, .ref s_MO), (2, .int 1), (3, .int x3), (4, .int (x4 + 1))] [] (eb_sI h s_m_reached (eb_I h s_m_then (((4 : Int32) * x3) + x4).toNatClampNeg).toNatClampNeg ((1 : Int32) &&& 1)) Q) ∧ (¬ ((eb_I h s_m_reached (eb_I h s_m_then (((4 : Int32) * x3) + x4).toNatClampNeg).toNatClampNeg) = 0) → eb_Sn (d + 1) m_X11_laysReached h0 60 [(0, .ref s_MO), (2, .int x2), (3, .int x3), (4, .int (x4 + 1))] [] h Q))))))))) : eb_Sn (d + 1) m_X11_laysReached h0 60 [(0, .ref s_MO), (2, .int x2), (3, .int x3), (4, .int x4)] [] h Q := by
  refine eb_iload (pc := 60) (i := 4) rfl rfl ?_
  refine eb_iconst (pc := 62) (n := 4) (v := 4) rfl rfl ?_
  refine eb_icmp_ge (pc := 63) (tgt := 123) rfl (by decide) (fun c1 => ?_) (fun c1 => ?_)
  · replace w := w.1 c1
    refine eb_iinc (pc := 123) (i := 3) (n := 1) (v := x3 + 1) (ls2 := [(3, .int (x3 + 1)), (0, .ref s_MO), (2, .int x2), (4, .int x4)]) (Nat.le_of_ble_eq_true rfl) rfl rfl rfl rfl ?_
    refine eb_goto (pc := 126) (tgt := 49) rfl (by decide) ?_
    exact eb_pick [1, 2, 0] rfl w
  · replace w := w.2 c1
    refine eb_aload_n (pc := 66) (n := 0) (i := 0) rfl rfl rfl ?_
    refine eb_getR (pc := 67) rfl rfl (by decide) (by decide) rfl (ko_s_MO_23 ko) ?_
    refine eb_iload_n (pc := 70) (n := 3) (i := 3) rfl rfl rfl ?_
    obtain ⟨c2, w⟩ := w
    refine eb_zaload (pc := 71) rfl rfl c2 ?_
    refine eb_if_eq (pc := 72) (tgt := 123) rfl (by decide) (fun c3 => ?_) (fun c3 => ?_)
    · replace w := w.1 c3
      refine eb_iinc (pc := 123) (i := 3) (n := 1) (v := x3 + 1) (ls2 := [(3, .int (x3 + 1)), (0, .ref s_MO), (2, .int x2), (4, .int x4)]) (Nat.le_of_ble_eq_true rfl) rfl rfl rfl rfl ?_
      refine eb_goto (pc := 126) (tgt := 49) rfl (by decide) ?_
      exact eb_pick [1, 2, 0] rfl w
    · replace w := w.2 c3
      refine eb_aload_n (pc := 75) (n := 0) (i := 0) rfl rfl rfl ?_
      refine eb_getR (pc := 76) rfl rfl (by decide) (by decide) rfl (ko_s_MO_21 ko) ?_
      refine eb_iconst (pc := 79) (n := 4) (v := 4) rfl rfl ?_
      refine eb_iload_n (pc := 80) (n := 3) (i := 3) rfl rfl rfl ?_
      refine eb_imul (pc := 81) rfl ?_
      refine eb_iload (pc := 82) (i := 4) rfl rfl ?_
      refine eb_iadd (pc := 84) rfl ?_
      obtain ⟨c4, w⟩ := w
      refine eb_iaload (pc := 85) rfl rfl c4 ?_
      refine eb_istore (pc := 86) (i := 5) (ls2 := [(5, .int (eb_I h s_m_then (((4 : Int32) * x3) + x4).toNatClampNeg)), (0, .ref s_MO), (2, .int x2), (3, .int x3), (4, .int x4)]) (Nat.le_of_ble_eq_true rfl) rfl rfl ?_
      refine eb_iload (pc := 88) (i := 5) rfl rfl ?_
      refine eb_iconst (pc := 90) (n := -1) (v := (-1)) rfl rfl ?_
      refine eb_icmp_eq (pc := 91) (tgt := 117) rfl (by decide) (fun c5 => ?_) (fun c5 => ?_)
      · replace w := w.1 c5
        refine eb_iinc (pc := 117) (i := 4) (n := 1) (v := x4 + 1) (ls2 := [(4, .int (x4 + 1)), (5, .int (eb_I h s_m_then (((4 : Int32) * x3) + x4).toNatClampNeg)), (0, .ref s_MO), (2, .int x2), (3, .int x3)]) (Nat.le_of_ble_eq_true rfl) rfl rfl rfl rfl ?_
        refine eb_goto (pc := 120) (tgt := 60) rfl (by decide) ?_
        exact eb_pick [2, 3, 4, 0] rfl w
      · replace w := w.2 c5
        refine eb_aload_n (pc := 94) (n := 0) (i := 0) rfl rfl rfl ?_
        refine eb_getR (pc := 95) rfl rfl (by decide) (by decide) rfl (ko_s_MO_23 ko) ?_
        refine eb_iload (pc := 98) (i := 5) rfl rfl ?_
        obtain ⟨c6, w⟩ := w
        refine eb_zaload (pc := 100) rfl rfl c6 ?_
        refine eb_if_eq (pc := 101) (tgt := 107) rfl (by decide) (fun c7 => ?_) (fun c7 => ?_)
        · replace w := w.1 c7
          refine eb_aload_n (pc := 107) (n := 0) (i := 0) rfl rfl rfl ?_
          refine eb_getR (pc := 108) rfl rfl (by decide) (by decide) rfl (ko_s_MO_23 ko) ?_
          refine eb_iload (pc := 111) (i := 5) rfl rfl ?_
          refine eb_iconst (pc := 113) (n := 1) (v := 1) rfl rfl ?_
          obtain ⟨c8, w⟩ := w
          refine eb_zastore (pc := 114) rfl rfl c8 ?_
          refine eb_iconst (pc := 115) (n := 1) (v := 1) rfl rfl ?_
          refine eb_istore_n (pc := 116) (n := 2) (i := 2) (ls2 := [(2, .int 1), (5, .int (eb_I h s_m_then (((4 : Int32) * x3) + x4).toNatClampNeg)), (0, .ref s_MO), (3, .int x3), (4, .int x4)]) rfl (Nat.le_of_ble_eq_true rfl) rfl rfl ?_
          refine eb_iinc (pc := 117) (i := 4) (n := 1) (v := x4 + 1) (ls2 := [(4, .int (x4 + 1)), (2, .int 1), (5, .int (eb_I h s_m_then (((4 : Int32) * x3) + x4).toNatClampNeg)), (0, .ref s_MO), (3, .int x3)]) (Nat.le_of_ble_eq_true rfl) rfl rfl rfl rfl ?_
          refine eb_goto (pc := 120) (tgt := 60) rfl (by decide) ?_
          exact eb_pick [3, 1, 4, 0] rfl w
        · replace w := w.2 c7
          refine eb_goto (pc := 104) (tgt := 117) rfl (by decide) ?_
          refine eb_iinc (pc := 117) (i := 4) (n := 1) (v := x4 + 1) (ls2 := [(4, .int (x4 + 1)), (5, .int (eb_I h s_m_then (((4 : Int32) * x3) + x4).toNatClampNeg)), (0, .ref s_MO), (2, .int x2), (3, .int x3)]) (Nat.le_of_ble_eq_true rfl) rfl rfl rfl rfl ?_
          refine eb_goto (pc := 120) (tgt := 60) rfl (by decide) ?_
          exact eb_pick [2, 3, 4, 0] rfl w
theorem T_X11_laysReached {d : Nat} {h : eb_H} {Q : Option Value → eb_H → Prop} (x1 : Int32)  (ko : eb_KO h) (w : eb_Ct d 227 [.ref s_MO, .int x1] h (fun r h1 => r = none ∧ eb_KO h1 ∧ eb_Sn (d + 1) m_X11_laysReached h 7 [(0, .ref s_MO), (2, .int 0)] [] h1 Q)) : eb_Ct (d + 1) 229 [.ref s_MO, .int x1] h Q :=
  eb_bodyQ (by decide) ok_X11_laysReached (Nat.le_of_ble_eq_true rfl) (b_X11_laysReached_0 (h0 := h) x1  ko w)
theorem b_X11_isGoal_0 {d : Nat} {h0 h : eb_H} {Q : Option Value → eb_H → Prop} (x0 : Int32) (x1 : Int32) (x2 : Int32) (x3 : Int32)  (ko : eb_KO h) (w : Q (some (.int (if (x0 / 64) = x1 then (if (x0 &&& x2) = x2 then (if (x0 &&& x3) = 0 then 1 else 0) else 0) else 0 : Int32))) h) : eb_Sn d m_X11_isGoal h0 0 [(0, .int x0), (1, .int x1), (2, .int x2), (3, .int x3)] [] h Q := by
  refine eb_iload_n (pc := 0) (n := 0) (i := 0) rfl rfl rfl ?_
  refine eb_bipush (pc := 1) (n := 64) (v := 64) rfl rfl ?_
  refine eb_idiv (pc := 3) (by decide) rfl ?_
  refine eb_iload_n (pc := 4) (n := 1) (i := 1) rfl rfl rfl ?_
  have jj4 : eb_Sn d m_X11_isGoal h0 26 [(0, .int x0), (1, .int x1), (2, .int x2), (3, .int x3)] [.int (if (x0 / 64) = x1 then (if (x0 &&& x2) = x2 then (if (x0 &&& x3) = 0 then 1 else 0) else 0) else 0 : Int32)] h Q := by
    exact eb_ireturn (pc := 26) rfl rfl (by (repeat' split) <;> rfl) w
  refine eb_icmp_ne (pc := 5) (tgt := 25) rfl (by decide) (fun c1 => ?_) (fun c1 => ?_)
  · refine eb_iconst (pc := 25) (n := 0) (v := 0) rfl rfl ?_
    simp only [if_neg c1] at jj4 ⊢
    exact jj4
  · refine eb_iload_n (pc := 8) (n := 0) (i := 0) rfl rfl rfl ?_
    refine eb_iload_n (pc := 9) (n := 2) (i := 2) rfl rfl rfl ?_
    refine eb_iand (pc := 10) rfl ?_
    refine eb_iload_n (pc := 11) (n := 2) (i := 2) rfl rfl rfl ?_
    refine eb_icmp_ne (pc := 12) (tgt := 25) rfl (by decide) (fun c2 => ?_) (fun c2 => ?_)
    · refine eb_iconst (pc := 25) (n := 0) (v := 0) rfl rfl ?_
      simp only [if_pos c1, if_neg c2] at jj4 ⊢
      exact jj4
    · refine eb_iload_n (pc := 15) (n := 0) (i := 0) rfl rfl rfl ?_
      refine eb_iload_n (pc := 16) (n := 3) (i := 3) rfl rfl rfl ?_
      refine eb_iand (pc := 17) rfl ?_
      refine eb_if_ne (pc := 18) (tgt := 25) rfl (by decide) (fun c3 => ?_) (fun c3 => ?_)
      · refine eb_iconst (pc := 25) (n := 0) (v := 0) rfl rfl ?_
        simp only [if_pos c1, if_pos c2, if_neg c3] at jj4 ⊢
        exact jj4
      · refine eb_iconst (pc := 21) (n := 1) (v := 1) rfl rfl ?_
        refine eb_goto (pc := 22) (tgt := 26) rfl (by decide) ?_
        simp only [if_pos c1, if_pos c2, if_pos c3] at jj4 ⊢
        exact jj4
theorem T_X11_isGoal {d : Nat} {h : eb_H} {Q : Option Value → eb_H → Prop} (x0 : Int32) (x1 : Int32) (x2 : Int32) (x3 : Int32)  (ko : eb_KO h) (w : Q (some (.int (if (x0 / 64) = x1 then (if (x0 &&& x2) = x2 then (if (x0 &&& x3) = 0 then 1 else 0) else 0) else 0 : Int32))) h) : eb_Ct d 230 [.int x0, .int x1, .int x2, .int x3] h Q :=
  eb_bodyQ (by decide) ok_X11_isGoal (Nat.le_of_ble_eq_true rfl) (b_X11_isGoal_0 (h0 := h) x0 x1 x2 x3  ko w)
theorem b_X11_farBy_0 {d : Nat} {h0 h : eb_H} {Q : Option Value → eb_H → Prop} (x1 : Int32) (x2 : Int32)  (ko : eb_KO h) (w : (vp_in (((4 : Int32) * x1) + x2) 4096) ∧ (((eb_I h s_m_then (((4 : Int32) * x1) + x2).toNatClampNeg) = ((-1) : Int32) → Q (some (.int 268435456)) h) ∧ (¬ ((eb_I h s_m_then (((4 : Int32) * x1) + x2).toNatClampNeg) = ((-1) : Int32)) → (vp_in (eb_I h s_m_then (((4 : Int32) * x1) + x2).toNatClampNeg) 1024) ∧ ((¬ (eb_I h s_m_far (eb_I h s_m_then (((4 : Int32) * x1) + x2).toNatClampNeg).toNatClampNeg) = (268435456 : Int32) → (vp_in (eb_I h s_m_then (((4 : Int32) * x1) + x2).toNatClampNeg) 1024) ∧ Q (some (.int ((eb_I h s_m_far (eb_I h s_m_then (((4 : Int32) * x1) + x2).toNatClampNeg).toNatClampNeg) + 1))) h) ∧ ((eb_I h s_m_far (eb_I h s_m_then (((4 : Int32) * x1) + x2).toNatClampNeg).toNatClampNeg) = (268435456 : Int32) → Q (some (.int 268435456)) h))))) : eb_Sn d m_X11_farBy h0 0 [(0, .ref s_MO), (1, .int x1), (2, .int x2)] [] h Q := by
  refine eb_aload_n (pc := 0) (n := 0) (i := 0) rfl rfl rfl ?_
  refine eb_getR (pc := 1) rfl rfl (by decide) (by decide) rfl (ko_s_MO_21 ko) ?_
  refine eb_iconst (pc := 4) (n := 4) (v := 4) rfl rfl ?_
  refine eb_iload_n (pc := 5) (n := 1) (i := 1) rfl rfl rfl ?_
  refine eb_imul (pc := 6) rfl ?_
  refine eb_iload_n (pc := 7) (n := 2) (i := 2) rfl rfl rfl ?_
  refine eb_iadd (pc := 8) rfl ?_
  obtain ⟨c1, w⟩ := w
  refine eb_iaload (pc := 9) rfl rfl c1 ?_
  refine eb_istore_n (pc := 10) (n := 3) (i := 3) (ls2 := [(3, .int (eb_I h s_m_then (((4 : Int32) * x1) + x2).toNatClampNeg)), (0, .ref s_MO), (1, .int x1), (2, .int x2)]) rfl (Nat.le_of_ble_eq_true rfl) rfl rfl ?_
  refine eb_iload_n (pc := 11) (n := 3) (i := 3) rfl rfl rfl ?_
  refine eb_iconst (pc := 12) (n := -1) (v := (-1)) rfl rfl ?_
  refine eb_icmp_eq (pc := 13) (tgt := 28) rfl (by decide) (fun c2 => ?_) (fun c2 => ?_)
  · replace w := w.1 c2
    refine eb_ldcw (pc := 28) (a := 268435456) (v := 268435456) rfl (by decide) ?_
    refine eb_goto (pc := 31) (tgt := 42) rfl (by decide) ?_
    exact eb_ireturn (pc := 42) rfl rfl rfl w
  · replace w := w.2 c2
    refine eb_aload_n (pc := 16) (n := 0) (i := 0) rfl rfl rfl ?_
    refine eb_getR (pc := 17) rfl rfl (by decide) (by decide) rfl (ko_s_MO_22 ko) ?_
    refine eb_iload_n (pc := 20) (n := 3) (i := 3) rfl rfl rfl ?_
    obtain ⟨c3, w⟩ := w
    refine eb_iaload (pc := 21) rfl rfl c3 ?_
    refine eb_ldcw (pc := 22) (a := 268435456) (v := 268435456) rfl (by decide) ?_
    refine eb_icmp_ne (pc := 25) (tgt := 34) rfl (by decide) (fun c4 => ?_) (fun c4 => ?_)
    · replace w := w.1 c4
      refine eb_aload_n (pc := 34) (n := 0) (i := 0) rfl rfl rfl ?_
      refine eb_getR (pc := 35) rfl rfl (by decide) (by decide) rfl (ko_s_MO_22 ko) ?_
      refine eb_iload_n (pc := 38) (n := 3) (i := 3) rfl rfl rfl ?_
      obtain ⟨c5, w⟩ := w
      refine eb_iaload (pc := 39) rfl rfl c5 ?_
      refine eb_iconst (pc := 40) (n := 1) (v := 1) rfl rfl ?_
      refine eb_iadd (pc := 41) rfl ?_
      exact eb_ireturn (pc := 42) rfl rfl rfl w
    · replace w := w.2 c4
      refine eb_ldcw (pc := 28) (a := 268435456) (v := 268435456) rfl (by decide) ?_
      refine eb_goto (pc := 31) (tgt := 42) rfl (by decide) ?_
      exact eb_ireturn (pc := 42) rfl rfl rfl w
theorem T_X11_farBy {d : Nat} {h : eb_H} {Q : Option Value → eb_H → Prop} (x1 : Int32) (x2 : Int32)  (ko : eb_KO h) (w : (vp_in (((4 : Int32) * x1) + x2) 4096) ∧ (((eb_I h s_m_then (((4 : Int32) * x1) + x2).toNatClampNeg) = ((-1) : Int32) → Q (some (.int 268435456)) h) ∧ (¬ ((eb_I h s_m_then (((4 : Int32) * x1) + x2).toNatClampNeg) = ((-1) : Int32)) → (vp_in (eb_I h s_m_then (((4 : Int32) * x1) + x2).toNatClampNeg) 1024) ∧ ((¬ (eb_I h s_m_far (eb_I h s_m_then (((4 : Int32) * x1) + x2).toNatClampNeg).toNatClampNeg) = (268435456 : Int32) → (vp_in (eb_I h s_m_then (((4 : Int32) * x1) + x2).toNatClampNeg) 1024) ∧ Q (some (.int ((eb_I h s_m_far (eb_I h s_m_then (((4 : Int32) * x1) + x2).toNatClampNeg).toNatClampNeg) + 1))) h) ∧ ((eb_I h s_m_far (eb_I h s_m_then (((4 : Int32) * x1) + x2).toNatClampNeg).toNatClampNeg) = (268435456 : Int32) → Q (some (.int 268435456)) h))))) : eb_Ct d 231 [.ref s_MO, .int x1, .int x2] h Q :=
  eb_bodyQ (by decide) ok_X11_farBy (Nat.le_of_ble_eq_true rfl) (b_X11_farBy_0 (h0 := h) x1 x2  ko w)
theorem b_X11_laysFar_0 {d : Nat} {h0 h : eb_H} {Q : Option Value → eb_H → Prop} (x1 : Int32) (x2 : Int32) (x3 : Int32)  (ko : eb_KO h) (w : eb_Ct d 227 [.ref s_MO, .int (eb_I h s_m_all (50 : Int32).toNatClampNeg)] h (fun r h1 => r = none ∧ eb_KO h1 ∧ eb_Sn (d + 1) m_X11_laysFar h0 14 [(0, .ref s_MO), (1, .int x1), (2, .int x2), (3, .int x3), (4, .int 0)] [] h1 Q)) : eb_Sn (d + 1) m_X11_laysFar h0 0 [(0, .ref s_MO), (1, .int x1), (2, .int x2), (3, .int x3)] [] h Q := by
  refine eb_aload_n (pc := 0) (n := 0) (i := 0) rfl rfl rfl ?_
  refine eb_aload_n (pc := 1) (n := 0) (i := 0) rfl rfl rfl ?_
  refine eb_getR (pc := 2) rfl rfl (by decide) (by decide) rfl (ko_s_MO_1 ko) ?_
  refine eb_bipush (pc := 5) (n := 50) (v := 50) rfl rfl ?_
  refine eb_iaload (pc := 7) rfl rfl (by unfold vp_in; decide) ?_
  refine eb_ctV (pc := 8) (As := [.int (eb_I h s_m_all (50 : Int32).toNatClampNeg)]) (rest := []) rfl (by decide) rfl rfl (by decide) rfl (Nat.le_of_ble_eq_true rfl) ?_
  refine eb_Ct.mono w ?_
  rintro r h1 ⟨rfl, ko3, w⟩
  change eb_Sn _ _ _ 11 _ [] _ _
  refine eb_iconst (pc := 11) (n := 0) (v := 0) rfl rfl ?_
  refine eb_istore (pc := 12) (i := 4) (ls2 := [(4, .int 0), (0, .ref s_MO), (1, .int x1), (2, .int x2), (3, .int x3)]) (Nat.le_of_ble_eq_true rfl) rfl rfl ?_
  exact eb_pick [1, 2, 3, 4, 0] rfl w
theorem b_X11_laysFar_14 {d : Nat} {h0 h : eb_H} {Q : Option Value → eb_H → Prop} (x1 : Int32) (x2 : Int32) (x3 : Int32) (x4 : Int32)  (ko : eb_KO h) (w : eb_Ct d 228 [.ref s_MO] h (fun r h1 => ∃ y2, r = some (.int y2) ∧ eb_KO h1 ∧ ((y2 ≤ x4 → eb_Sn (d + 1) m_X11_laysFar h0 57 [(0, .ref s_MO), (4, .int 1)] [] h1 Q) ∧ (¬ (y2 ≤ x4) → eb_Ct d 230 [.int x4, .int x1, .int x2, .int x3] h1 (fun r h5 => ∃ y6, r = some (.int y6) ∧ eb_KO h5 ∧ (vp_in x4 1024) ∧ eb_Sn (d + 1) m_X11_laysFar h0 14 [(0, .ref s_MO), (1, .int x1), (2, .int x2), (3, .int x3), (4, .int (x4 + 1))] [] (eb_sI h5 s_m_far x4.toNatClampNeg (if y6 = 0 then 268435456 else 0 : Int32)) Q))))) : eb_Sn (d + 1) m_X11_laysFar h0 14 [(0, .ref s_MO), (1, .int x1), (2, .int x2), (3, .int x3), (4, .int x4)] [] h Q := by
  refine eb_iload (pc := 14) (i := 4) rfl rfl ?_
  refine eb_aload_n (pc := 16) (n := 0) (i := 0) rfl rfl rfl ?_
  refine eb_ctV (pc := 17) (As := []) (rest := [.int x4]) rfl (by decide) rfl rfl (by decide) rfl (Nat.le_of_ble_eq_true rfl) ?_
  refine eb_Ct.mono w ?_
  rintro r h1 ⟨y2, rfl, ko3, w⟩
  change eb_Sn _ _ _ 20 _ [.int y2, .int x4] _ _
  refine eb_icmp_ge (pc := 20) (tgt := 54) rfl (by decide) (fun c4 => ?_) (fun c4 => ?_)
  · replace w := w.1 c4
    refine eb_iconst (pc := 54) (n := 1) (v := 1) rfl rfl ?_
    refine eb_istore (pc := 55) (i := 4) (ls2 := [(4, .int 1), (0, .ref s_MO), (1, .int x1), (2, .int x2), (3, .int x3)]) (Nat.le_of_ble_eq_true rfl) rfl rfl ?_
    exact eb_pick [1, 0] rfl w
  · replace w := w.2 c4
    refine eb_aload_n (pc := 23) (n := 0) (i := 0) rfl rfl rfl ?_
    refine eb_getR (pc := 24) rfl rfl (by decide) (by decide) rfl (ko_s_MO_22 ko3) ?_
    refine eb_iload (pc := 27) (i := 4) rfl rfl ?_
    refine eb_iload (pc := 29) (i := 4) rfl rfl ?_
    refine eb_iload_n (pc := 31) (n := 1) (i := 1) rfl rfl rfl ?_
    refine eb_iload_n (pc := 32) (n := 2) (i := 2) rfl rfl rfl ?_
    refine eb_iload_n (pc := 33) (n := 3) (i := 3) rfl rfl rfl ?_
    refine eb_ctS (pc := 34) (As := [.int x4, .int x1, .int x2, .int x3]) (rest := [.int x4, .ref s_m_far]) rfl (by decide) (by decide) rfl rfl (Nat.le_of_ble_eq_true rfl) ?_
    refine eb_Ct.mono w ?_
    rintro r h5 ⟨y6, rfl, ko7, w⟩
    change eb_Sn _ _ _ 37 _ [.int y6, .int x4, .ref s_m_far] _ _
    have jj10 : eb_Sn (d + 1) m_X11_laysFar h0 47 [(0, .ref s_MO), (1, .int x1), (2, .int x2), (3, .int x3), (4, .int x4)] [.int (if y6 = 0 then 268435456 else 0 : Int32), .int x4, .ref s_m_far] h5 Q := by
      obtain ⟨c9, w⟩ := w
      refine eb_iastore (pc := 47) rfl rfl c9 ?_
      refine eb_iinc (pc := 48) (i := 4) (n := 1) (v := x4 + 1) (ls2 := [(4, .int (x4 + 1)), (0, .ref s_MO), (1, .int x1), (2, .int x2), (3, .int x3)]) (Nat.le_of_ble_eq_true rfl) rfl rfl rfl rfl ?_
      refine eb_goto (pc := 51) (tgt := 14) rfl (by decide) ?_
      exact eb_pick [1, 2, 3, 4, 0] rfl w
    refine eb_if_eq (pc := 37) (tgt := 44) rfl (by decide) (fun c8 => ?_) (fun c8 => ?_)
    · refine eb_ldcw (pc := 44) (a := 268435456) (v := 268435456) rfl (by decide) ?_
      simp only [if_pos c8] at jj10 ⊢
      exact jj10
    · refine eb_iconst (pc := 40) (n := 0) (v := 0) rfl rfl ?_
      refine eb_goto (pc := 41) (tgt := 47) rfl (by decide) ?_
      simp only [if_neg c8] at jj10 ⊢
      exact jj10
theorem b_X11_laysFar_57 {d : Nat} {h0 h : eb_H} {Q : Option Value → eb_H → Prop} (x4 : Int32)  (ko : eb_KO h) (w : ((x4 = 0 → eb_Ct d 195 [.ref s_MO] h (fun r h2 => ∃ y3, r = some (.int y3) ∧ eb_KO h2 ∧ (vp_in y3 1024) ∧ Q (some (.int (eb_I h2 s_m_far y3.toNatClampNeg))) h2)) ∧ (¬ (x4 = 0) → eb_Sn (d + 1) m_X11_laysFar h0 68 [(0, .ref s_MO), (4, .int 0), (5, .int 0)] [] h Q))) : eb_Sn (d + 1) m_X11_laysFar h0 57 [(0, .ref s_MO), (4, .int x4)] [] h Q := by
  refine eb_iload (pc := 57) (i := 4) rfl rfl ?_
  refine eb_if_eq (pc := 59) (tgt := 150) rfl (by decide) (fun c1 => ?_) (fun c1 => ?_)
  · replace w := w.1 c1
    refine eb_aload_n (pc := 150) (n := 0) (i := 0) rfl rfl rfl ?_
    refine eb_getR (pc := 151) rfl rfl (by decide) (by decide) rfl (ko_s_MO_22 ko) ?_
    refine eb_aload_n (pc := 154) (n := 0) (i := 0) rfl rfl rfl ?_
    refine eb_ctV (pc := 155) (As := []) (rest := [.ref s_m_far]) rfl (by decide) rfl rfl (by decide) rfl (Nat.le_of_ble_eq_true rfl) ?_
    refine eb_Ct.mono w ?_
    rintro r h2 ⟨y3, rfl, ko4, w⟩
    change eb_Sn _ _ _ 158 _ [.int y3, .ref s_m_far] _ _
    obtain ⟨c5, w⟩ := w
    refine eb_iaload (pc := 158) rfl rfl c5 ?_
    exact eb_ireturn (pc := 159) rfl rfl rfl w
  · replace w := w.2 c1
    refine eb_iconst (pc := 62) (n := 0) (v := 0) rfl rfl ?_
    refine eb_istore (pc := 63) (i := 4) (ls2 := [(4, .int 0), (0, .ref s_MO)]) (Nat.le_of_ble_eq_true rfl) rfl rfl ?_
    refine eb_iconst (pc := 65) (n := 0) (v := 0) rfl rfl ?_
    refine eb_istore (pc := 66) (i := 5) (ls2 := [(5, .int 0), (4, .int 0), (0, .ref s_MO)]) (Nat.le_of_ble_eq_true rfl) rfl rfl ?_
    exact eb_pick [2, 1, 0] rfl w
theorem b_X11_laysFar_68 {d : Nat} {h0 h : eb_H} {Q : Option Value → eb_H → Prop} (x4 : Int32) (x5 : Int32)  (ko : eb_KO h) (w : eb_Ct d 228 [.ref s_MO] h (fun r h1 => ∃ y2, r = some (.int y2) ∧ eb_KO h1 ∧ ((y2 ≤ x5 → eb_Sn (d + 1) m_X11_laysFar h0 57 [(0, .ref s_MO), (4, .int x4)] [] h1 Q) ∧ (¬ (y2 ≤ x5) → eb_Sn (d + 1) m_X11_laysFar h0 80 [(0, .ref s_MO), (4, .int x4), (5, .int x5), (6, .int 0)] [] h1 Q)))) : eb_Sn (d + 1) m_X11_laysFar h0 68 [(0, .ref s_MO), (4, .int x4), (5, .int x5)] [] h Q := by
  refine eb_iload (pc := 68) (i := 5) rfl rfl ?_
  refine eb_aload_n (pc := 70) (n := 0) (i := 0) rfl rfl rfl ?_
  refine eb_ctV (pc := 71) (As := []) (rest := [.int x5]) rfl (by decide) rfl rfl (by decide) rfl (Nat.le_of_ble_eq_true rfl) ?_
  refine eb_Ct.mono w ?_
  rintro r h1 ⟨y2, rfl, ko3, w⟩
  change eb_Sn _ _ _ 74 _ [.int y2, .int x5] _ _
  refine eb_icmp_ge (pc := 74) (tgt := 147) rfl (by decide) (fun c4 => ?_) (fun c4 => ?_)
  · replace w := w.1 c4
    refine eb_goto (pc := 147) (tgt := 57) rfl (by decide) ?_
    exact eb_pick [0, 1] rfl w
  · replace w := w.2 c4
    refine eb_iconst (pc := 77) (n := 0) (v := 0) rfl rfl ?_
    refine eb_istore (pc := 78) (i := 6) (ls2 := [(6, .int 0), (0, .ref s_MO), (4, .int x4), (5, .int x5)]) (Nat.le_of_ble_eq_true rfl) rfl rfl ?_
    exact eb_pick [1, 2, 3, 0] rfl w
theorem b_X11_laysFar_80 {d : Nat} {h0 h : eb_H} {Q : Option Value → eb_H → Prop} (x4 : Int32) (x5 : Int32) (x6 : Int32)  (ko : eb_KO h) (w : (((4 : Int32) ≤ x6 → eb_Sn (d + 1) m_X11_laysFar h0 68 [(0, .ref s_MO), (4, .int x4), (5, .int (x5 + 1))] [] h Q) ∧ (¬ ((4 : Int32) ≤ x6) → (vp_in x5 1024) ∧ (((eb_I h s_m_far x5.toNatClampNeg) ≤ 0 → eb_Sn (d + 1) m_X11_laysFar h0 68 [(0, .ref s_MO), (4, .int x4), (5, .int (x5 + 1))] [] h Q) ∧ (¬ ((eb_I h s_m_far x5.toNatClampNeg) ≤ 0) → eb_Ct d 231 [.ref s_MO, .int x5, .int x6] h (fun r h4 => ∃ y5, r = some (.int y5) ∧ eb_KO h4 ∧ (vp_in x5 1024) ∧ ((y5 < (eb_I h4 s_m_far x5.toNatClampNeg) → eb_Ct d 231 [.ref s_MO, .int x5, .int x6] h4 (fun r h9 => ∃ y10, r = some (.int y10) ∧ eb_KO h9 ∧ (vp_in x5 1024) ∧ eb_Sn (d + 1) m_X11_laysFar h0 80 [(0, .ref s_MO), (4, .int 1), (5, .int x5), (6, .int (x6 + 1))] [] (eb_sI h9 s_m_far x5.toNatClampNeg y10) Q)) ∧ (¬ (y5 < (eb_I h4 s_m_far x5.toNatClampNeg)) → eb_Sn (d + 1) m_X11_laysFar h0 80 [(0, .ref s_MO), (4, .int x4), (5, .int x5), (6, .int (x6 + 1))] [] h4 Q)))))))) : eb_Sn (d + 1) m_X11_laysFar h0 80 [(0, .ref s_MO), (4, .int x4), (5, .int x5), (6, .int x6)] [] h Q := by
  refine eb_iload (pc := 80) (i := 6) rfl rfl ?_
  refine eb_iconst (pc := 82) (n := 4) (v := 4) rfl rfl ?_
  refine eb_icmp_ge (pc := 83) (tgt := 141) rfl (by decide) (fun c1 => ?_) (fun c1 => ?_)
  · replace w := w.1 c1
    refine eb_iinc (pc := 141) (i := 5) (n := 1) (v := x5 + 1) (ls2 := [(5, .int (x5 + 1)), (0, .ref s_MO), (4, .int x4), (6, .int x6)]) (Nat.le_of_ble_eq_true rfl) rfl rfl rfl rfl ?_
    refine eb_goto (pc := 144) (tgt := 68) rfl (by decide) ?_
    exact eb_pick [1, 2, 0] rfl w
  · replace w := w.2 c1
    refine eb_aload_n (pc := 86) (n := 0) (i := 0) rfl rfl rfl ?_
    refine eb_getR (pc := 87) rfl rfl (by decide) (by decide) rfl (ko_s_MO_22 ko) ?_
    refine eb_iload (pc := 90) (i := 5) rfl rfl ?_
    obtain ⟨c2, w⟩ := w
    refine eb_iaload (pc := 92) rfl rfl c2 ?_
    refine eb_if_le (pc := 93) (tgt := 141) rfl (by decide) (fun c3 => ?_) (fun c3 => ?_)
    · replace w := w.1 c3
      refine eb_iinc (pc := 141) (i := 5) (n := 1) (v := x5 + 1) (ls2 := [(5, .int (x5 + 1)), (0, .ref s_MO), (4, .int x4), (6, .int x6)]) (Nat.le_of_ble_eq_true rfl) rfl rfl rfl rfl ?_
      refine eb_goto (pc := 144) (tgt := 68) rfl (by decide) ?_
      exact eb_pick [1, 2, 0] rfl w
    · replace w := w.2 c3
      refine eb_aload_n (pc := 96) (n := 0) (i := 0) rfl rfl rfl ?_
      refine eb_iload (pc := 97) (i := 5) rfl rfl ?_
      refine eb_iload (pc := 99) (i := 6) rfl rfl ?_
      refine eb_ctV (pc := 101) (As := [.int x5, .int x6]) (rest := []) rfl (by decide) rfl rfl (by decide) rfl (Nat.le_of_ble_eq_true rfl) ?_
      refine eb_Ct.mono w ?_
      rintro r h4 ⟨y5, rfl, ko6, w⟩
      change eb_Sn _ _ _ 104 _ [.int y5] _ _
      refine eb_aload_n (pc := 104) (n := 0) (i := 0) rfl rfl rfl ?_
      refine eb_getR (pc := 105) rfl rfl (by decide) (by decide) rfl (ko_s_MO_22 ko6) ?_
      refine eb_iload (pc := 108) (i := 5) rfl rfl ?_
      obtain ⟨c7, w⟩ := w
      refine eb_iaload (pc := 110) rfl rfl c7 ?_
      refine eb_icmp_lt (pc := 111) (tgt := 117) rfl (by decide) (fun c8 => ?_) (fun c8 => ?_)
      · replace w := w.1 c8
        refine eb_aload_n (pc := 117) (n := 0) (i := 0) rfl rfl rfl ?_
        refine eb_getR (pc := 118) rfl rfl (by decide) (by decide) rfl (ko_s_MO_22 ko6) ?_
        refine eb_iload (pc := 121) (i := 5) rfl rfl ?_
        refine eb_aload_n (pc := 123) (n := 0) (i := 0) rfl rfl rfl ?_
        refine eb_iload (pc := 124) (i := 5) rfl rfl ?_
        refine eb_iload (pc := 126) (i := 6) rfl rfl ?_
        refine eb_ctV (pc := 128) (As := [.int x5, .int x6]) (rest := [.int x5, .ref s_m_far]) rfl (by decide) rfl rfl (by decide) rfl (Nat.le_of_ble_eq_true rfl) ?_
        refine eb_Ct.mono w ?_
        rintro r h9 ⟨y10, rfl, ko11, w⟩
        change eb_Sn _ _ _ 131 _ [.int y10, .int x5, .ref s_m_far] _ _
        obtain ⟨c12, w⟩ := w
        refine eb_iastore (pc := 131) rfl rfl c12 ?_
        refine eb_iconst (pc := 132) (n := 1) (v := 1) rfl rfl ?_
        refine eb_istore (pc := 133) (i := 4) (ls2 := [(4, .int 1), (0, .ref s_MO), (5, .int x5), (6, .int x6)]) (Nat.le_of_ble_eq_true rfl) rfl rfl ?_
        refine eb_iinc (pc := 135) (i := 6) (n := 1) (v := x6 + 1) (ls2 := [(6, .int (x6 + 1)), (4, .int 1), (0, .ref s_MO), (5, .int x5)]) (Nat.le_of_ble_eq_true rfl) rfl rfl rfl rfl ?_
        refine eb_goto (pc := 138) (tgt := 80) rfl (by decide) ?_
        exact eb_pick [2, 1, 3, 0] rfl w
      · replace w := w.2 c8
        refine eb_goto (pc := 114) (tgt := 135) rfl (by decide) ?_
        refine eb_iinc (pc := 135) (i := 6) (n := 1) (v := x6 + 1) (ls2 := [(6, .int (x6 + 1)), (0, .ref s_MO), (4, .int x4), (5, .int x5)]) (Nat.le_of_ble_eq_true rfl) rfl rfl rfl rfl ?_
        refine eb_goto (pc := 138) (tgt := 80) rfl (by decide) ?_
        exact eb_pick [1, 2, 3, 0] rfl w
theorem T_X11_laysFar {d : Nat} {h : eb_H} {Q : Option Value → eb_H → Prop} (x1 : Int32) (x2 : Int32) (x3 : Int32)  (ko : eb_KO h) (w : eb_Ct d 227 [.ref s_MO, .int (eb_I h s_m_all (50 : Int32).toNatClampNeg)] h (fun r h1 => r = none ∧ eb_KO h1 ∧ eb_Sn (d + 1) m_X11_laysFar h 14 [(0, .ref s_MO), (1, .int x1), (2, .int x2), (3, .int x3), (4, .int 0)] [] h1 Q)) : eb_Ct (d + 1) 232 [.ref s_MO, .int x1, .int x2, .int x3] h Q :=
  eb_bodyQ (by decide) ok_X11_laysFar (Nat.le_of_ble_eq_true rfl) (b_X11_laysFar_0 (h0 := h) x1 x2 x3  ko w)
theorem b_X11_noComing_0 {d : Nat} {h0 h : eb_H} {Q : Option Value → eb_H → Prop} (x1 : Int32) (x2 : Int32) (x3 : Int32)  (ko : eb_KO h) (w : eb_Ct d 191 [.ref s_MO, .long x1.toInt64] h (fun r h1 => ∃ y2, r = some (.int y2) ∧ eb_KO h1 ∧ ((¬ y2 = 0 → eb_Ct d 193 [.int x2] h1 (fun r h5 => ∃ y6, r = some (.int y6) ∧ eb_KO h5 ∧ ((y6 = 0 → Q (some (.int (-3))) h5) ∧ (¬ (y6 = 0) → eb_Ct d 193 [.int x3] h5 (fun r h9 => ∃ y10, r = some (.int y10) ∧ eb_KO h9 ∧ Q (some (.int (if y10 = 0 then (-3) else (if (x2 &&& x3) = 0 then 0 else (-3)) : Int32))) h9))))) ∧ (y2 = 0 → Q (some (.int (-2))) h1)))) : eb_Sn (d + 1) m_X11_noComing h0 0 [(0, .ref s_MO), (1, .int x1), (2, .int x2), (3, .int x3)] [] h Q := by
  refine eb_aload_n (pc := 0) (n := 0) (i := 0) rfl rfl rfl ?_
  refine eb_iload_n (pc := 1) (n := 1) (i := 1) rfl rfl rfl ?_
  refine eb_i2l (pc := 2) rfl ?_
  refine eb_ctV (pc := 3) (As := [.long x1.toInt64]) (rest := []) rfl (by decide) rfl rfl (by decide) rfl (Nat.le_of_ble_eq_true rfl) ?_
  refine eb_Ct.mono w ?_
  rintro r h1 ⟨y2, rfl, ko3, w⟩
  change eb_Sn _ _ _ 6 _ [.int y2] _ _
  refine eb_if_ne (pc := 6) (tgt := 14) rfl (by decide) (fun c4 => ?_) (fun c4 => ?_)
  · replace w := w.1 c4
    refine eb_iload_n (pc := 14) (n := 2) (i := 2) rfl rfl rfl ?_
    refine eb_ctS (pc := 15) (As := [.int x2]) (rest := []) rfl (by decide) (by decide) rfl rfl (Nat.le_of_ble_eq_true rfl) ?_
    refine eb_Ct.mono w ?_
    rintro r h5 ⟨y6, rfl, ko7, w⟩
    change eb_Sn _ _ _ 18 _ [.int y6] _ _
    refine eb_if_eq (pc := 18) (tgt := 38) rfl (by decide) (fun c8 => ?_) (fun c8 => ?_)
    · replace w := w.1 c8
      refine eb_bipush (pc := 38) (n := -3) (v := (-3)) rfl rfl ?_
      exact eb_ireturn (pc := 40) rfl rfl rfl w
    · replace w := w.2 c8
      refine eb_iload_n (pc := 21) (n := 3) (i := 3) rfl rfl rfl ?_
      refine eb_ctS (pc := 22) (As := [.int x3]) (rest := []) rfl (by decide) (by decide) rfl rfl (Nat.le_of_ble_eq_true rfl) ?_
      refine eb_Ct.mono w ?_
      rintro r h9 ⟨y10, rfl, ko11, w⟩
      change eb_Sn _ _ _ 25 _ [.int y10] _ _
      have jj14 : eb_Sn (d + 1) m_X11_noComing h0 40 [(0, .ref s_MO), (1, .int x1), (2, .int x2), (3, .int x3)] [.int (if y10 = 0 then (-3) else (if (x2 &&& x3) = 0 then 0 else (-3)) : Int32)] h9 Q := by
        exact eb_ireturn (pc := 40) rfl rfl rfl w
      refine eb_if_eq (pc := 25) (tgt := 38) rfl (by decide) (fun c12 => ?_) (fun c12 => ?_)
      · refine eb_bipush (pc := 38) (n := -3) (v := (-3)) rfl rfl ?_
        simp only [if_pos c12] at jj14 ⊢
        exact jj14
      · refine eb_iload_n (pc := 28) (n := 2) (i := 2) rfl rfl rfl ?_
        refine eb_iload_n (pc := 29) (n := 3) (i := 3) rfl rfl rfl ?_
        refine eb_iand (pc := 30) rfl ?_
        refine eb_if_ne (pc := 31) (tgt := 38) rfl (by decide) (fun c13 => ?_) (fun c13 => ?_)
        · refine eb_bipush (pc := 38) (n := -3) (v := (-3)) rfl rfl ?_
          simp only [if_neg c12, if_neg c13] at jj14 ⊢
          exact jj14
        · refine eb_iconst (pc := 34) (n := 0) (v := 0) rfl rfl ?_
          refine eb_goto (pc := 35) (tgt := 40) rfl (by decide) ?_
          simp only [if_neg c12, if_pos c13] at jj14 ⊢
          exact jj14
  · replace w := w.2 c4
    refine eb_bipush (pc := 9) (n := -2) (v := (-2)) rfl rfl ?_
    refine eb_goto (pc := 11) (tgt := 40) rfl (by decide) ?_
    exact eb_ireturn (pc := 40) rfl rfl rfl w
theorem T_X11_noComing {d : Nat} {h : eb_H} {Q : Option Value → eb_H → Prop} (x1 : Int32) (x2 : Int32) (x3 : Int32)  (ko : eb_KO h) (w : eb_Ct d 191 [.ref s_MO, .long x1.toInt64] h (fun r h1 => ∃ y2, r = some (.int y2) ∧ eb_KO h1 ∧ ((¬ y2 = 0 → eb_Ct d 193 [.int x2] h1 (fun r h5 => ∃ y6, r = some (.int y6) ∧ eb_KO h5 ∧ ((y6 = 0 → Q (some (.int (-3))) h5) ∧ (¬ (y6 = 0) → eb_Ct d 193 [.int x3] h5 (fun r h9 => ∃ y10, r = some (.int y10) ∧ eb_KO h9 ∧ Q (some (.int (if y10 = 0 then (-3) else (if (x2 &&& x3) = 0 then 0 else (-3)) : Int32))) h9))))) ∧ (y2 = 0 → Q (some (.int (-2))) h1)))) : eb_Ct (d + 1) 233 [.ref s_MO, .int x1, .int x2, .int x3] h Q :=
  eb_bodyQ (by decide) ok_X11_noComing (Nat.le_of_ble_eq_true rfl) (b_X11_noComing_0 (h0 := h) x1 x2 x3  ko w)
theorem b_X11_stepAt_0 {d : Nat} {h0 h : eb_H} {Q : Option Value → eb_H → Prop} (x1 : Int32)  (ko : eb_KO h) (w : eb_Ct d 195 [.ref s_MO] h (fun r h1 => ∃ y2, r = some (.int y2) ∧ eb_KO h1 ∧ eb_Sn (d + 1) m_X11_stepAt h0 7 [(0, .ref s_MO), (1, .int x1), (2, .int y2), (3, .int 0)] [] h1 Q)) : eb_Sn (d + 1) m_X11_stepAt h0 0 [(0, .ref s_MO), (1, .int x1)] [] h Q := by
  refine eb_aload_n (pc := 0) (n := 0) (i := 0) rfl rfl rfl ?_
  refine eb_ctV (pc := 1) (As := []) (rest := []) rfl (by decide) rfl rfl (by decide) rfl (Nat.le_of_ble_eq_true rfl) ?_
  refine eb_Ct.mono w ?_
  rintro r h1 ⟨y2, rfl, ko3, w⟩
  change eb_Sn _ _ _ 4 _ [.int y2] _ _
  refine eb_istore_n (pc := 4) (n := 2) (i := 2) (ls2 := [(2, .int y2), (0, .ref s_MO), (1, .int x1)]) rfl (Nat.le_of_ble_eq_true rfl) rfl rfl ?_
  refine eb_iconst (pc := 5) (n := 0) (v := 0) rfl rfl ?_
  refine eb_istore_n (pc := 6) (n := 3) (i := 3) (ls2 := [(3, .int 0), (2, .int y2), (0, .ref s_MO), (1, .int x1)]) rfl (Nat.le_of_ble_eq_true rfl) rfl rfl ?_
  exact eb_pick [2, 3, 1, 0] rfl w
theorem b_X11_stepAt_7 {d : Nat} {h0 h : eb_H} {Q : Option Value → eb_H → Prop} (x1 : Int32) (x2 : Int32) (x3 : Int32)  (ko : eb_KO h) (w : (vp_in x2 1024) ∧ (((eb_I h s_m_far x2.toNatClampNeg) ≤ 0 → Q (some (.int (-1))) h) ∧ (¬ ((eb_I h s_m_far x2.toNatClampNeg) ≤ 0) → (vp_in x2 1024) ∧ (((268435456 : Int32) ≤ (eb_I h s_m_far x2.toNatClampNeg) → Q (some (.int (-1))) h) ∧ (¬ ((268435456 : Int32) ≤ (eb_I h s_m_far x2.toNatClampNeg)) → eb_Sn (d + 1) m_X11_stepAt h0 31 [(0, .ref s_MO), (1, .int x1), (2, .int x2), (3, .int x3), (4, .int 0)] [] h Q))))) : eb_Sn (d + 1) m_X11_stepAt h0 7 [(0, .ref s_MO), (1, .int x1), (2, .int x2), (3, .int x3)] [] h Q := by
  refine eb_aload_n (pc := 7) (n := 0) (i := 0) rfl rfl rfl ?_
  refine eb_getR (pc := 8) rfl rfl (by decide) (by decide) rfl (ko_s_MO_22 ko) ?_
  refine eb_iload_n (pc := 11) (n := 2) (i := 2) rfl rfl rfl ?_
  obtain ⟨c1, w⟩ := w
  refine eb_iaload (pc := 12) rfl rfl c1 ?_
  refine eb_if_le (pc := 13) (tgt := 79) rfl (by decide) (fun c2 => ?_) (fun c2 => ?_)
  · replace w := w.1 c2
    refine eb_iconst (pc := 79) (n := -1) (v := (-1)) rfl rfl ?_
    exact eb_ireturn (pc := 80) rfl rfl rfl w
  · replace w := w.2 c2
    refine eb_aload_n (pc := 16) (n := 0) (i := 0) rfl rfl rfl ?_
    refine eb_getR (pc := 17) rfl rfl (by decide) (by decide) rfl (ko_s_MO_22 ko) ?_
    refine eb_iload_n (pc := 20) (n := 2) (i := 2) rfl rfl rfl ?_
    obtain ⟨c3, w⟩ := w
    refine eb_iaload (pc := 21) rfl rfl c3 ?_
    refine eb_ldcw (pc := 22) (a := 268435456) (v := 268435456) rfl (by decide) ?_
    refine eb_icmp_ge (pc := 25) (tgt := 79) rfl (by decide) (fun c4 => ?_) (fun c4 => ?_)
    · replace w := w.1 c4
      refine eb_iconst (pc := 79) (n := -1) (v := (-1)) rfl rfl ?_
      exact eb_ireturn (pc := 80) rfl rfl rfl w
    · replace w := w.2 c4
      refine eb_iconst (pc := 28) (n := 0) (v := 0) rfl rfl ?_
      refine eb_istore (pc := 29) (i := 4) (ls2 := [(4, .int 0), (0, .ref s_MO), (1, .int x1), (2, .int x2), (3, .int x3)]) (Nat.le_of_ble_eq_true rfl) rfl rfl ?_
      exact eb_pick [1, 2, 3, 4, 0] rfl w
theorem b_X11_stepAt_31 {d : Nat} {h0 h : eb_H} {Q : Option Value → eb_H → Prop} (x1 : Int32) (x2 : Int32) (x3 : Int32) (x4 : Int32)  (ko : eb_KO h) (w : eb_Ct d 231 [.ref s_MO, .int x2, .int x4] h (fun r h1 => ∃ y2, r = some (.int y2) ∧ eb_KO h1 ∧ (vp_in x2 1024) ∧ ((y2 = (eb_I h1 s_m_far x2.toNatClampNeg) → ((¬ x3 = x1 → (vp_in (((4 : Int32) * x2) + x4) 4096) ∧ eb_Sn (d + 1) m_X11_stepAt h0 7 [(0, .ref s_MO), (1, .int x1), (2, .int (eb_I h1 s_m_then (((4 : Int32) * x2) + x4).toNatClampNeg)), (3, .int (x3 + 1))] [] h1 Q) ∧ (x3 = x1 → Q (some (.int x4)) h1))) ∧ (¬ (y2 = (eb_I h1 s_m_far x2.toNatClampNeg)) → eb_Sn (d + 1) m_X11_stepAt h0 31 [(0, .ref s_MO), (1, .int x1), (2, .int x2), (3, .int x3), (4, .int (x4 + 1))] [] h1 Q)))) : eb_Sn (d + 1) m_X11_stepAt h0 31 [(0, .ref s_MO), (1, .int x1), (2, .int x2), (3, .int x3), (4, .int x4)] [] h Q := by
  refine eb_aload_n (pc := 31) (n := 0) (i := 0) rfl rfl rfl ?_
  refine eb_iload_n (pc := 32) (n := 2) (i := 2) rfl rfl rfl ?_
  refine eb_iload (pc := 33) (i := 4) rfl rfl ?_
  refine eb_ctV (pc := 35) (As := [.int x2, .int x4]) (rest := []) rfl (by decide) rfl rfl (by decide) rfl (Nat.le_of_ble_eq_true rfl) ?_
  refine eb_Ct.mono w ?_
  rintro r h1 ⟨y2, rfl, ko3, w⟩
  change eb_Sn _ _ _ 38 _ [.int y2] _ _
  refine eb_aload_n (pc := 38) (n := 0) (i := 0) rfl rfl rfl ?_
  refine eb_getR (pc := 39) rfl rfl (by decide) (by decide) rfl (ko_s_MO_22 ko3) ?_
  refine eb_iload_n (pc := 42) (n := 2) (i := 2) rfl rfl rfl ?_
  obtain ⟨c4, w⟩ := w
  refine eb_iaload (pc := 43) rfl rfl c4 ?_
  refine eb_icmp_eq (pc := 44) (tgt := 53) rfl (by decide) (fun c5 => ?_) (fun c5 => ?_)
  · replace w := w.1 c5
    refine eb_iload_n (pc := 53) (n := 3) (i := 3) rfl rfl rfl ?_
    refine eb_iload_n (pc := 54) (n := 1) (i := 1) rfl rfl rfl ?_
    refine eb_icmp_ne (pc := 55) (tgt := 61) rfl (by decide) (fun c6 => ?_) (fun c6 => ?_)
    · replace w := w.1 c6
      refine eb_aload_n (pc := 61) (n := 0) (i := 0) rfl rfl rfl ?_
      refine eb_getR (pc := 62) rfl rfl (by decide) (by decide) rfl (ko_s_MO_21 ko3) ?_
      refine eb_iconst (pc := 65) (n := 4) (v := 4) rfl rfl ?_
      refine eb_iload_n (pc := 66) (n := 2) (i := 2) rfl rfl rfl ?_
      refine eb_imul (pc := 67) rfl ?_
      refine eb_iload (pc := 68) (i := 4) rfl rfl ?_
      refine eb_iadd (pc := 70) rfl ?_
      obtain ⟨c7, w⟩ := w
      refine eb_iaload (pc := 71) rfl rfl c7 ?_
      refine eb_istore_n (pc := 72) (n := 2) (i := 2) (ls2 := [(2, .int (eb_I h1 s_m_then (((4 : Int32) * x2) + x4).toNatClampNeg)), (0, .ref s_MO), (1, .int x1), (3, .int x3), (4, .int x4)]) rfl (Nat.le_of_ble_eq_true rfl) rfl rfl ?_
      refine eb_iinc (pc := 73) (i := 3) (n := 1) (v := x3 + 1) (ls2 := [(3, .int (x3 + 1)), (2, .int (eb_I h1 s_m_then (((4 : Int32) * x2) + x4).toNatClampNeg)), (0, .ref s_MO), (1, .int x1), (4, .int x4)]) (Nat.le_of_ble_eq_true rfl) rfl rfl rfl rfl ?_
      refine eb_goto (pc := 76) (tgt := 7) rfl (by decide) ?_
      exact eb_pick [2, 3, 1, 0] rfl w
    · replace w := w.2 c6
      refine eb_iload (pc := 58) (i := 4) rfl rfl ?_
      exact eb_ireturn (pc := 60) rfl rfl rfl w
  · replace w := w.2 c5
    refine eb_iinc (pc := 47) (i := 4) (n := 1) (v := x4 + 1) (ls2 := [(4, .int (x4 + 1)), (0, .ref s_MO), (1, .int x1), (2, .int x2), (3, .int x3)]) (Nat.le_of_ble_eq_true rfl) rfl rfl rfl rfl ?_
    refine eb_goto (pc := 50) (tgt := 31) rfl (by decide) ?_
    exact eb_pick [1, 2, 3, 4, 0] rfl w
theorem T_X11_stepAt {d : Nat} {h : eb_H} {Q : Option Value → eb_H → Prop} (x1 : Int32)  (ko : eb_KO h) (w : eb_Ct d 195 [.ref s_MO] h (fun r h1 => ∃ y2, r = some (.int y2) ∧ eb_KO h1 ∧ eb_Sn (d + 1) m_X11_stepAt h 7 [(0, .ref s_MO), (1, .int x1), (2, .int y2), (3, .int 0)] [] h1 Q)) : eb_Ct (d + 1) 234 [.ref s_MO, .int x1] h Q :=
  eb_bodyQ (by decide) ok_X11_stepAt (Nat.le_of_ble_eq_true rfl) (b_X11_stepAt_0 (h0 := h) x1  ko w)
theorem b_X11_soonest_0 {d : Nat} {h0 h : eb_H} {Q : Option Value → eb_H → Prop} (x1 : Int32) (x2 : Int32) (x3 : Int32)  (ko : eb_KO h) (w : eb_Ct d 233 [.ref s_MO, .int x1, .int x2, .int x3] (eb_sI h s_MO 0 0) (fun r h1 => ∃ y2, r = some (.int y2) ∧ eb_KO h1 ∧ ((y2 = 0 → eb_Ct d 232 [.ref s_MO, .int x1, .int x2, .int x3] h1 (fun r h5 => ∃ y6, r = some (.int y6) ∧ eb_KO h5 ∧ Q (some (.int (if y6 = (268435456 : Int32) then (-1) else y6 : Int32))) h5)) ∧ (¬ (y2 = 0) → Q (some (.int y2)) h1)))) : eb_Sn (d + 1) m_X11_soonest h0 0 [(0, .ref s_MO), (1, .int x1), (2, .int x2), (3, .int x3)] [] h Q := by
  refine eb_aload_n (pc := 0) (n := 0) (i := 0) rfl rfl rfl ?_
  refine eb_iconst (pc := 1) (n := 0) (v := 0) rfl rfl ?_
  refine eb_putI (pc := 2) rfl rfl (by decide) (by decide) rfl rfl ⟨rfl, rfl⟩ ?_
  refine eb_aload_n (pc := 5) (n := 0) (i := 0) rfl rfl rfl ?_
  refine eb_iload_n (pc := 6) (n := 1) (i := 1) rfl rfl rfl ?_
  refine eb_iload_n (pc := 7) (n := 2) (i := 2) rfl rfl rfl ?_
  refine eb_iload_n (pc := 8) (n := 3) (i := 3) rfl rfl rfl ?_
  refine eb_ctV (pc := 9) (As := [.int x1, .int x2, .int x3]) (rest := []) rfl (by decide) rfl rfl (by decide) rfl (Nat.le_of_ble_eq_true rfl) ?_
  refine eb_Ct.mono w ?_
  rintro r h1 ⟨y2, rfl, ko3, w⟩
  change eb_Sn _ _ _ 12 _ [.int y2] _ _
  refine eb_istore (pc := 12) (i := 4) (ls2 := [(4, .int y2), (0, .ref s_MO), (1, .int x1), (2, .int x2), (3, .int x3)]) (Nat.le_of_ble_eq_true rfl) rfl rfl ?_
  refine eb_iload (pc := 14) (i := 4) rfl rfl ?_
  refine eb_if_eq (pc := 16) (tgt := 22) rfl (by decide) (fun c4 => ?_) (fun c4 => ?_)
  · replace w := w.1 c4
    refine eb_aload_n (pc := 22) (n := 0) (i := 0) rfl rfl rfl ?_
    refine eb_iload_n (pc := 23) (n := 1) (i := 1) rfl rfl rfl ?_
    refine eb_iload_n (pc := 24) (n := 2) (i := 2) rfl rfl rfl ?_
    refine eb_iload_n (pc := 25) (n := 3) (i := 3) rfl rfl rfl ?_
    refine eb_ctV (pc := 26) (As := [.int x1, .int x2, .int x3]) (rest := []) rfl (by decide) rfl rfl (by decide) rfl (Nat.le_of_ble_eq_true rfl) ?_
    refine eb_Ct.mono w ?_
    rintro r h5 ⟨y6, rfl, ko7, w⟩
    change eb_Sn _ _ _ 29 _ [.int y6] _ _
    refine eb_istore (pc := 29) (i := 5) (ls2 := [(5, .int y6), (4, .int y2), (0, .ref s_MO), (1, .int x1), (2, .int x2), (3, .int x3)]) (Nat.le_of_ble_eq_true rfl) rfl rfl ?_
    refine eb_iload (pc := 31) (i := 5) rfl rfl ?_
    refine eb_ldcw (pc := 33) (a := 268435456) (v := 268435456) rfl (by decide) ?_
    have jj9 : eb_Sn (d + 1) m_X11_soonest h0 45 [(5, .int y6), (4, .int y2), (0, .ref s_MO), (1, .int x1), (2, .int x2), (3, .int x3)] [.int (if y6 = (268435456 : Int32) then (-1) else y6 : Int32)] h5 Q := by
      exact eb_ireturn (pc := 45) rfl rfl rfl w
    refine eb_icmp_ne (pc := 36) (tgt := 43) rfl (by decide) (fun c8 => ?_) (fun c8 => ?_)
    · refine eb_iload (pc := 43) (i := 5) rfl rfl ?_
      simp only [if_neg c8] at jj9 ⊢
      exact jj9
    · refine eb_iconst (pc := 39) (n := -1) (v := (-1)) rfl rfl ?_
      refine eb_goto (pc := 40) (tgt := 45) rfl (by decide) ?_
      simp only [if_pos c8] at jj9 ⊢
      exact jj9
  · replace w := w.2 c4
    refine eb_iload (pc := 19) (i := 4) rfl rfl ?_
    exact eb_ireturn (pc := 21) rfl rfl rfl w
theorem T_X11_soonest {d : Nat} {h : eb_H} {Q : Option Value → eb_H → Prop} (x1 : Int32) (x2 : Int32) (x3 : Int32)  (ko : eb_KO h) (w : eb_Ct d 233 [.ref s_MO, .int x1, .int x2, .int x3] (eb_sI h s_MO 0 0) (fun r h1 => ∃ y2, r = some (.int y2) ∧ eb_KO h1 ∧ ((y2 = 0 → eb_Ct d 232 [.ref s_MO, .int x1, .int x2, .int x3] h1 (fun r h5 => ∃ y6, r = some (.int y6) ∧ eb_KO h5 ∧ Q (some (.int (if y6 = (268435456 : Int32) then (-1) else y6 : Int32))) h5)) ∧ (¬ (y2 = 0) → Q (some (.int y2)) h1)))) : eb_Ct (d + 1) 235 [.ref s_MO, .int x1, .int x2, .int x3] h Q :=
  eb_bodyQ (by decide) ok_X11_soonest (Nat.le_of_ble_eq_true rfl) (b_X11_soonest_0 (h0 := h) x1 x2 x3  ko w)
theorem b_X11_way_0 {d : Nat} {h0 h : eb_H} {Q : Option Value → eb_H → Prop} (x1 : Int32) (x2 : Int32) (x3 : Int32) (x4 : Int32)  (ko : eb_KO h) (w : eb_Ct d 233 [.ref s_MO, .int x1, .int x2, .int x3] (eb_sI h s_MO 0 0) (fun r h1 => ∃ y2, r = some (.int y2) ∧ eb_KO h1 ∧ ((y2 = 0 → ((0 ≤ x4 → eb_Ct d 232 [.ref s_MO, .int x1, .int x2, .int x3] h1 (fun r h6 => ∃ y7, r = some (.int y7) ∧ eb_KO h6 ∧ eb_Ct d 234 [.ref s_MO, .int x4] h6 (fun r h9 => ∃ y10, r = some (.int y10) ∧ eb_KO h9 ∧ Q (some (.int y10)) h9))) ∧ (¬ (0 ≤ x4) → Q (some (.int (-3))) h1))) ∧ (¬ (y2 = 0) → Q (some (.int y2)) h1)))) : eb_Sn (d + 1) m_X11_way h0 0 [(0, .ref s_MO), (1, .int x1), (2, .int x2), (3, .int x3), (4, .int x4)] [] h Q := by
  refine eb_aload_n (pc := 0) (n := 0) (i := 0) rfl rfl rfl ?_
  refine eb_iconst (pc := 1) (n := 0) (v := 0) rfl rfl ?_
  refine eb_putI (pc := 2) rfl rfl (by decide) (by decide) rfl rfl ⟨rfl, rfl⟩ ?_
  refine eb_aload_n (pc := 5) (n := 0) (i := 0) rfl rfl rfl ?_
  refine eb_iload_n (pc := 6) (n := 1) (i := 1) rfl rfl rfl ?_
  refine eb_iload_n (pc := 7) (n := 2) (i := 2) rfl rfl rfl ?_
  refine eb_iload_n (pc := 8) (n := 3) (i := 3) rfl rfl rfl ?_
  refine eb_ctV (pc := 9) (As := [.int x1, .int x2, .int x3]) (rest := []) rfl (by decide) rfl rfl (by decide) rfl (Nat.le_of_ble_eq_true rfl) ?_
  refine eb_Ct.mono w ?_
  rintro r h1 ⟨y2, rfl, ko3, w⟩
  change eb_Sn _ _ _ 12 _ [.int y2] _ _
  refine eb_istore (pc := 12) (i := 5) (ls2 := [(5, .int y2), (0, .ref s_MO), (1, .int x1), (2, .int x2), (3, .int x3), (4, .int x4)]) (Nat.le_of_ble_eq_true rfl) rfl rfl ?_
  refine eb_iload (pc := 14) (i := 5) rfl rfl ?_
  refine eb_if_eq (pc := 16) (tgt := 22) rfl (by decide) (fun c4 => ?_) (fun c4 => ?_)
  · replace w := w.1 c4
    refine eb_iload (pc := 22) (i := 4) rfl rfl ?_
    refine eb_if_ge (pc := 24) (tgt := 30) rfl (by decide) (fun c5 => ?_) (fun c5 => ?_)
    · replace w := w.1 c5
      refine eb_aload_n (pc := 30) (n := 0) (i := 0) rfl rfl rfl ?_
      refine eb_iload_n (pc := 31) (n := 1) (i := 1) rfl rfl rfl ?_
      refine eb_iload_n (pc := 32) (n := 2) (i := 2) rfl rfl rfl ?_
      refine eb_iload_n (pc := 33) (n := 3) (i := 3) rfl rfl rfl ?_
      refine eb_ctV (pc := 34) (As := [.int x1, .int x2, .int x3]) (rest := []) rfl (by decide) rfl rfl (by decide) rfl (Nat.le_of_ble_eq_true rfl) ?_
      refine eb_Ct.mono w ?_
      rintro r h6 ⟨y7, rfl, ko8, w⟩
      change eb_Sn _ _ _ 37 _ [.int y7] _ _
      refine eb_popi (pc := 37) rfl ?_
      refine eb_aload_n (pc := 38) (n := 0) (i := 0) rfl rfl rfl ?_
      refine eb_iload (pc := 39) (i := 4) rfl rfl ?_
      refine eb_ctV (pc := 41) (As := [.int x4]) (rest := []) rfl (by decide) rfl rfl (by decide) rfl (Nat.le_of_ble_eq_true rfl) ?_
      refine eb_Ct.mono w ?_
      rintro r h9 ⟨y10, rfl, ko11, w⟩
      change eb_Sn _ _ _ 44 _ [.int y10] _ _
      exact eb_ireturn (pc := 44) rfl rfl rfl w
    · replace w := w.2 c5
      refine eb_bipush (pc := 27) (n := -3) (v := (-3)) rfl rfl ?_
      exact eb_ireturn (pc := 29) rfl rfl rfl w
  · replace w := w.2 c4
    refine eb_iload (pc := 19) (i := 5) rfl rfl ?_
    exact eb_ireturn (pc := 21) rfl rfl rfl w
theorem T_X11_way {d : Nat} {h : eb_H} {Q : Option Value → eb_H → Prop} (x1 : Int32) (x2 : Int32) (x3 : Int32) (x4 : Int32)  (ko : eb_KO h) (w : eb_Ct d 233 [.ref s_MO, .int x1, .int x2, .int x3] (eb_sI h s_MO 0 0) (fun r h1 => ∃ y2, r = some (.int y2) ∧ eb_KO h1 ∧ ((y2 = 0 → ((0 ≤ x4 → eb_Ct d 232 [.ref s_MO, .int x1, .int x2, .int x3] h1 (fun r h6 => ∃ y7, r = some (.int y7) ∧ eb_KO h6 ∧ eb_Ct d 234 [.ref s_MO, .int x4] h6 (fun r h9 => ∃ y10, r = some (.int y10) ∧ eb_KO h9 ∧ Q (some (.int y10)) h9))) ∧ (¬ (0 ≤ x4) → Q (some (.int (-3))) h1))) ∧ (¬ (y2 = 0) → Q (some (.int y2)) h1)))) : eb_Ct (d + 1) 236 [.ref s_MO, .int x1, .int x2, .int x3, .int x4] h Q :=
  eb_bodyQ (by decide) ok_X11_way (Nat.le_of_ble_eq_true rfl) (b_X11_way_0 (h0 := h) x1 x2 x3 x4  ko w)
theorem b_X11_beginsMany_0 {d : Nat} {h0 h : eb_H} {Q : Option Value → eb_H → Prop}   (ko : eb_KO h) (w : eb_Ct d 227 [.ref s_MO, .int (eb_I h s_m_all (50 : Int32).toNatClampNeg)] h (fun r h1 => r = none ∧ eb_KO h1 ∧ eb_Sn (d + 1) m_X11_beginsMany h0 13 [(0, .ref s_MO), (1, .int 0)] [] h1 Q)) : eb_Sn (d + 1) m_X11_beginsMany h0 0 [(0, .ref s_MO)] [] h Q := by
  refine eb_aload_n (pc := 0) (n := 0) (i := 0) rfl rfl rfl ?_
  refine eb_aload_n (pc := 1) (n := 0) (i := 0) rfl rfl rfl ?_
  refine eb_getR (pc := 2) rfl rfl (by decide) (by decide) rfl (ko_s_MO_1 ko) ?_
  refine eb_bipush (pc := 5) (n := 50) (v := 50) rfl rfl ?_
  refine eb_iaload (pc := 7) rfl rfl (by unfold vp_in; decide) ?_
  refine eb_ctV (pc := 8) (As := [.int (eb_I h s_m_all (50 : Int32).toNatClampNeg)]) (rest := []) rfl (by decide) rfl rfl (by decide) rfl (Nat.le_of_ble_eq_true rfl) ?_
  refine eb_Ct.mono w ?_
  rintro r h1 ⟨rfl, ko3, w⟩
  change eb_Sn _ _ _ 11 _ [] _ _
  refine eb_iconst (pc := 11) (n := 0) (v := 0) rfl rfl ?_
  refine eb_istore_n (pc := 12) (n := 1) (i := 1) (ls2 := [(1, .int 0), (0, .ref s_MO)]) rfl (Nat.le_of_ble_eq_true rfl) rfl rfl ?_
  exact eb_pick [1, 0] rfl w
theorem b_X11_beginsMany_13 {d : Nat} {h0 h : eb_H} {Q : Option Value → eb_H → Prop} (x1 : Int32)  (ko : eb_KO h) (w : (((1024 : Int32) ≤ x1 → Q none h) ∧ (¬ ((1024 : Int32) ≤ x1) → eb_Ct d 195 [.ref s_MO] h (fun r h2 => ∃ y3, r = some (.int y3) ∧ eb_KO h2 ∧ (vp_in x1 1024) ∧ (vp_in x1 1024) ∧ eb_Sn (d + 1) m_X11_beginsMany h0 13 [(0, .ref s_MO), (1, .int (x1 + 1))] [] (eb_sJ (eb_sJ h2 s_m_many x1.toNatClampNeg (if x1 = y3 then 1 else 0 : Int64)) s_m_manyThen x1.toNatClampNeg 0) Q)))) : eb_Sn (d + 1) m_X11_beginsMany h0 13 [(0, .ref s_MO), (1, .int x1)] [] h Q := by
  refine eb_iload_n (pc := 13) (n := 1) (i := 1) rfl rfl rfl ?_
  refine eb_sipush (pc := 14) (n := 1024) (v := 1024) rfl rfl ?_
  refine eb_icmp_ge (pc := 17) (tgt := 52) rfl (by decide) (fun c1 => ?_) (fun c1 => ?_)
  · replace w := w.1 c1
    exact eb_return (pc := 52) rfl rfl w
  · replace w := w.2 c1
    refine eb_aload_n (pc := 20) (n := 0) (i := 0) rfl rfl rfl ?_
    refine eb_getR (pc := 21) rfl rfl (by decide) (by decide) rfl (ko_s_MO_24 ko) ?_
    refine eb_iload_n (pc := 24) (n := 1) (i := 1) rfl rfl rfl ?_
    refine eb_iload_n (pc := 25) (n := 1) (i := 1) rfl rfl rfl ?_
    refine eb_aload_n (pc := 26) (n := 0) (i := 0) rfl rfl rfl ?_
    refine eb_ctV (pc := 27) (As := []) (rest := [.int x1, .int x1, .ref s_m_many]) rfl (by decide) rfl rfl (by decide) rfl (Nat.le_of_ble_eq_true rfl) ?_
    refine eb_Ct.mono w ?_
    rintro r h2 ⟨y3, rfl, ko4, w⟩
    change eb_Sn _ _ _ 30 _ [.int y3, .int x1, .int x1, .ref s_m_many] _ _
    have jj8 : eb_Sn (d + 1) m_X11_beginsMany h0 38 [(0, .ref s_MO), (1, .int x1)] [.long (if x1 = y3 then 1 else 0 : Int64), .int x1, .ref s_m_many] h2 Q := by
      obtain ⟨c6, w⟩ := w
      refine eb_lastore (pc := 38) rfl rfl c6 ?_
      refine eb_aload_n (pc := 39) (n := 0) (i := 0) rfl rfl rfl ?_
      refine eb_getR (pc := 40) rfl rfl (by decide) (by decide) rfl (ko_s_MO_25 ko4) ?_
      refine eb_iload_n (pc := 43) (n := 1) (i := 1) rfl rfl rfl ?_
      refine eb_lconst (pc := 44) (n := 0) (v := 0) rfl rfl ?_
      obtain ⟨c7, w⟩ := w
      refine eb_lastore (pc := 45) rfl rfl c7 ?_
      refine eb_iinc (pc := 46) (i := 1) (n := 1) (v := x1 + 1) (ls2 := [(1, .int (x1 + 1)), (0, .ref s_MO)]) (Nat.le_of_ble_eq_true rfl) rfl rfl rfl rfl ?_
      refine eb_goto (pc := 49) (tgt := 13) rfl (by decide) ?_
      exact eb_pick [1, 0] rfl w
    refine eb_icmp_ne (pc := 30) (tgt := 37) rfl (by decide) (fun c5 => ?_) (fun c5 => ?_)
    · refine eb_lconst (pc := 37) (n := 0) (v := 0) rfl rfl ?_
      simp only [if_neg c5] at jj8 ⊢
      exact jj8
    · refine eb_lconst (pc := 33) (n := 1) (v := 1) rfl rfl ?_
      refine eb_goto (pc := 34) (tgt := 38) rfl (by decide) ?_
      simp only [if_pos c5] at jj8 ⊢
      exact jj8
theorem T_X11_beginsMany {d : Nat} {h : eb_H} {Q : Option Value → eb_H → Prop}   (ko : eb_KO h) (w : eb_Ct d 227 [.ref s_MO, .int (eb_I h s_m_all (50 : Int32).toNatClampNeg)] h (fun r h1 => r = none ∧ eb_KO h1 ∧ eb_Sn (d + 1) m_X11_beginsMany h 13 [(0, .ref s_MO), (1, .int 0)] [] h1 Q)) : eb_Ct (d + 1) 237 [.ref s_MO] h Q :=
  eb_bodyQ (by decide) ok_X11_beginsMany (Nat.le_of_ble_eq_true rfl) (b_X11_beginsMany_0 (h0 := h)   ko w)
theorem b_X11_goesMany_0 {d : Nat} {h0 h : eb_H} {Q : Option Value → eb_H → Prop} (x1 : Int32)  (ko : eb_KO h) (w : eb_Sn (d + 1) m_X11_goesMany h0 2 [(0, .ref s_MO), (1, .int x1), (2, .int 0)] [] h Q) : eb_Sn (d + 1) m_X11_goesMany h0 0 [(0, .ref s_MO), (1, .int x1)] [] h Q := by
  refine eb_iconst (pc := 0) (n := 0) (v := 0) rfl rfl ?_
  refine eb_istore_n (pc := 1) (n := 2) (i := 2) (ls2 := [(2, .int 0), (0, .ref s_MO), (1, .int x1)]) rfl (Nat.le_of_ble_eq_true rfl) rfl rfl ?_
  exact eb_pick [1, 2, 0] rfl w
theorem b_X11_goesMany_2 {d : Nat} {h0 h : eb_H} {Q : Option Value → eb_H → Prop} (x1 : Int32) (x2 : Int32)  (ko : eb_KO h) (w : eb_Ct d 228 [.ref s_MO] h (fun r h1 => ∃ y2, r = some (.int y2) ∧ eb_KO h1 ∧ ((y2 ≤ x2 → eb_Sn (d + 1) m_X11_goesMany h0 98 [(0, .ref s_MO), (2, .int 0)] [] h1 Q) ∧ (¬ (y2 ≤ x2) → eb_Sn (d + 1) m_X11_goesMany h0 12 [(0, .ref s_MO), (1, .int x1), (2, .int x2), (3, .int 0)] [] h1 Q)))) : eb_Sn (d + 1) m_X11_goesMany h0 2 [(0, .ref s_MO), (1, .int x1), (2, .int x2)] [] h Q := by
  refine eb_iload_n (pc := 2) (n := 2) (i := 2) rfl rfl rfl ?_
  refine eb_aload_n (pc := 3) (n := 0) (i := 0) rfl rfl rfl ?_
  refine eb_ctV (pc := 4) (As := []) (rest := [.int x2]) rfl (by decide) rfl rfl (by decide) rfl (Nat.le_of_ble_eq_true rfl) ?_
  refine eb_Ct.mono w ?_
  rintro r h1 ⟨y2, rfl, ko3, w⟩
  change eb_Sn _ _ _ 7 _ [.int y2, .int x2] _ _
  refine eb_icmp_ge (pc := 7) (tgt := 96) rfl (by decide) (fun c4 => ?_) (fun c4 => ?_)
  · replace w := w.1 c4
    refine eb_iconst (pc := 96) (n := 0) (v := 0) rfl rfl ?_
    refine eb_istore_n (pc := 97) (n := 2) (i := 2) (ls2 := [(2, .int 0), (0, .ref s_MO), (1, .int x1)]) rfl (Nat.le_of_ble_eq_true rfl) rfl rfl ?_
    exact eb_pick [1, 0] rfl w
  · replace w := w.2 c4
    refine eb_iconst (pc := 10) (n := 0) (v := 0) rfl rfl ?_
    refine eb_istore_n (pc := 11) (n := 3) (i := 3) (ls2 := [(3, .int 0), (0, .ref s_MO), (1, .int x1), (2, .int x2)]) rfl (Nat.le_of_ble_eq_true rfl) rfl rfl ?_
    exact eb_pick [1, 2, 3, 0] rfl w
theorem b_X11_goesMany_98 {d : Nat} {h0 h : eb_H} {Q : Option Value → eb_H → Prop} (x2 : Int32)  (ko : eb_KO h) (w : (((1024 : Int32) ≤ x2 → Q none h) ∧ (¬ ((1024 : Int32) ≤ x2) → (vp_in x2 1024) ∧ (vp_in x2 1024) ∧ (vp_in x2 1024) ∧ eb_Sn (d + 1) m_X11_goesMany h0 98 [(0, .ref s_MO), (2, .int (x2 + 1))] [] (eb_sJ (eb_sJ h s_m_many x2.toNatClampNeg (eb_J h s_m_manyThen x2.toNatClampNeg)) s_m_manyThen x2.toNatClampNeg 0) Q))) : eb_Sn (d + 1) m_X11_goesMany h0 98 [(0, .ref s_MO), (2, .int x2)] [] h Q := by
  refine eb_iload_n (pc := 98) (n := 2) (i := 2) rfl rfl rfl ?_
  refine eb_sipush (pc := 99) (n := 1024) (v := 1024) rfl rfl ?_
  refine eb_icmp_ge (pc := 102) (tgt := 130) rfl (by decide) (fun c1 => ?_) (fun c1 => ?_)
  · replace w := w.1 c1
    exact eb_return (pc := 130) rfl rfl w
  · replace w := w.2 c1
    refine eb_aload_n (pc := 105) (n := 0) (i := 0) rfl rfl rfl ?_
    refine eb_getR (pc := 106) rfl rfl (by decide) (by decide) rfl (ko_s_MO_24 ko) ?_
    refine eb_iload_n (pc := 109) (n := 2) (i := 2) rfl rfl rfl ?_
    refine eb_aload_n (pc := 110) (n := 0) (i := 0) rfl rfl rfl ?_
    refine eb_getR (pc := 111) rfl rfl (by decide) (by decide) rfl (ko_s_MO_25 ko) ?_
    refine eb_iload_n (pc := 114) (n := 2) (i := 2) rfl rfl rfl ?_
    obtain ⟨c2, w⟩ := w
    refine eb_laload (pc := 115) rfl rfl c2 ?_
    obtain ⟨c3, w⟩ := w
    refine eb_lastore (pc := 116) rfl rfl c3 ?_
    refine eb_aload_n (pc := 117) (n := 0) (i := 0) rfl rfl rfl ?_
    refine eb_getR (pc := 118) rfl rfl (by decide) (by decide) rfl (ko_s_MO_25 ko) ?_
    refine eb_iload_n (pc := 121) (n := 2) (i := 2) rfl rfl rfl ?_
    refine eb_lconst (pc := 122) (n := 0) (v := 0) rfl rfl ?_
    obtain ⟨c4, w⟩ := w
    refine eb_lastore (pc := 123) rfl rfl c4 ?_
    refine eb_iinc (pc := 124) (i := 2) (n := 1) (v := x2 + 1) (ls2 := [(2, .int (x2 + 1)), (0, .ref s_MO)]) (Nat.le_of_ble_eq_true rfl) rfl rfl rfl rfl ?_
    refine eb_goto (pc := 127) (tgt := 98) rfl (by decide) ?_
    exact eb_pick [1, 0] rfl w
theorem b_X11_goesMany_12 {d : Nat} {h0 h : eb_H} {Q : Option Value → eb_H → Prop} (x1 : Int32) (x2 : Int32) (x3 : Int32)  (ko : eb_KO h) (w : (((4 : Int32) ≤ x3 → eb_Sn (d + 1) m_X11_goesMany h0 2 [(0, .ref s_MO), (1, .int x1), (2, .int (x2 + 1))] [] h Q) ∧ (¬ ((4 : Int32) ≤ x3) → (vp_in x2 1024) ∧ (((eb_J h s_m_many x2.toNatClampNeg) ≤ 0 → eb_Sn (d + 1) m_X11_goesMany h0 2 [(0, .ref s_MO), (1, .int x1), (2, .int (x2 + 1))] [] h Q) ∧ (¬ ((eb_J h s_m_many x2.toNatClampNeg) ≤ 0) → (vp_in (((4 : Int32) * x2) + x3) 4096) ∧ (((eb_I h s_m_then (((4 : Int32) * x2) + x3).toNatClampNeg) = ((-1) : Int32) → ((x1 = 0 → eb_Sn (d + 1) m_X11_goesMany h0 12 [(0, .ref s_MO), (1, .int x1), (2, .int x2), (3, .int (x3 + 1))] [] h Q) ∧ (¬ (x1 = 0) → (vp_in x2 1024) ∧ (vp_in x2 1024) ∧ (vp_in x2 1024) ∧ eb_Sn (d + 1) m_X11_goesMany h0 12 [(0, .ref s_MO), (1, .int x1), (2, .int x2), (3, .int (x3 + 1))] [] (eb_sJ h s_m_manyThen x2.toNatClampNeg ((eb_J h s_m_manyThen x2.toNatClampNeg) + (eb_J h s_m_many x2.toNatClampNeg))) Q))) ∧ (¬ ((eb_I h s_m_then (((4 : Int32) * x2) + x3).toNatClampNeg) = ((-1) : Int32)) → (vp_in (eb_I h s_m_then (((4 : Int32) * x2) + x3).toNatClampNeg) 1024) ∧ (vp_in x2 1024) ∧ (vp_in (eb_I h s_m_then (((4 : Int32) * x2) + x3).toNatClampNeg) 1024) ∧ eb_Sn (d + 1) m_X11_goesMany h0 12 [(0, .ref s_MO), (1, .int x1), (2, .int x2), (3, .int (x3 + 1))] [] (eb_sJ h s_m_manyThen (eb_I h s_m_then (((4 : Int32) * x2) + x3).toNatClampNeg).toNatClampNeg ((eb_J h s_m_manyThen (eb_I h s_m_then (((4 : Int32) * x2) + x3).toNatClampNeg).toNatClampNeg) + (eb_J h s_m_many x2.toNatClampNeg))) Q))))))) : eb_Sn (d + 1) m_X11_goesMany h0 12 [(0, .ref s_MO), (1, .int x1), (2, .int x2), (3, .int x3)] [] h Q := by
  refine eb_iload_n (pc := 12) (n := 3) (i := 3) rfl rfl rfl ?_
  refine eb_iconst (pc := 13) (n := 4) (v := 4) rfl rfl ?_
  refine eb_icmp_ge (pc := 14) (tgt := 90) rfl (by decide) (fun c1 => ?_) (fun c1 => ?_)
  · replace w := w.1 c1
    refine eb_iinc (pc := 90) (i := 2) (n := 1) (v := x2 + 1) (ls2 := [(2, .int (x2 + 1)), (0, .ref s_MO), (1, .int x1), (3, .int x3)]) (Nat.le_of_ble_eq_true rfl) rfl rfl rfl rfl ?_
    refine eb_goto (pc := 93) (tgt := 2) rfl (by decide) ?_
    exact eb_pick [1, 2, 0] rfl w
  · replace w := w.2 c1
    refine eb_aload_n (pc := 17) (n := 0) (i := 0) rfl rfl rfl ?_
    refine eb_getR (pc := 18) rfl rfl (by decide) (by decide) rfl (ko_s_MO_24 ko) ?_
    refine eb_iload_n (pc := 21) (n := 2) (i := 2) rfl rfl rfl ?_
    obtain ⟨c2, w⟩ := w
    refine eb_laload (pc := 22) rfl rfl c2 ?_
    refine eb_lconst (pc := 23) (n := 0) (v := 0) rfl rfl ?_
    refine eb_lcmp (pc := 24) rfl ?_
    refine eb_if_le (pc := 25) (tgt := 90) rfl (by decide) (fun c3 => ?_) (fun c3 => ?_)
    · replace c3 := eb_lc_le.mp c3
      replace w := w.1 c3
      refine eb_iinc (pc := 90) (i := 2) (n := 1) (v := x2 + 1) (ls2 := [(2, .int (x2 + 1)), (0, .ref s_MO), (1, .int x1), (3, .int x3)]) (Nat.le_of_ble_eq_true rfl) rfl rfl rfl rfl ?_
      refine eb_goto (pc := 93) (tgt := 2) rfl (by decide) ?_
      exact eb_pick [1, 2, 0] rfl w
    · replace c3 := (fun hh => mt eb_lc_le.mpr hh) c3
      replace w := w.2 c3
      refine eb_aload_n (pc := 28) (n := 0) (i := 0) rfl rfl rfl ?_
      refine eb_getR (pc := 29) rfl rfl (by decide) (by decide) rfl (ko_s_MO_21 ko) ?_
      refine eb_iconst (pc := 32) (n := 4) (v := 4) rfl rfl ?_
      refine eb_iload_n (pc := 33) (n := 2) (i := 2) rfl rfl rfl ?_
      refine eb_imul (pc := 34) rfl ?_
      refine eb_iload_n (pc := 35) (n := 3) (i := 3) rfl rfl rfl ?_
      refine eb_iadd (pc := 36) rfl ?_
      obtain ⟨c4, w⟩ := w
      refine eb_iaload (pc := 37) rfl rfl c4 ?_
      refine eb_istore (pc := 38) (i := 4) (ls2 := [(4, .int (eb_I h s_m_then (((4 : Int32) * x2) + x3).toNatClampNeg)), (0, .ref s_MO), (1, .int x1), (2, .int x2), (3, .int x3)]) (Nat.le_of_ble_eq_true rfl) rfl rfl ?_
      refine eb_iload (pc := 40) (i := 4) rfl rfl ?_
      refine eb_iconst (pc := 42) (n := -1) (v := (-1)) rfl rfl ?_
      refine eb_icmp_eq (pc := 43) (tgt := 65) rfl (by decide) (fun c5 => ?_) (fun c5 => ?_)
      · replace w := w.1 c5
        refine eb_iload_n (pc := 65) (n := 1) (i := 1) rfl rfl rfl ?_
        refine eb_if_eq (pc := 66) (tgt := 84) rfl (by decide) (fun c6 => ?_) (fun c6 => ?_)
        · replace w := w.1 c6
          refine eb_iinc (pc := 84) (i := 3) (n := 1) (v := x3 + 1) (ls2 := [(3, .int (x3 + 1)), (4, .int (eb_I h s_m_then (((4 : Int32) * x2) + x3).toNatClampNeg)), (0, .ref s_MO), (1, .int x1), (2, .int x2)]) (Nat.le_of_ble_eq_true rfl) rfl rfl rfl rfl ?_
          refine eb_goto (pc := 87) (tgt := 12) rfl (by decide) ?_
          exact eb_pick [2, 3, 4, 0] rfl w
        · replace w := w.2 c6
          refine eb_aload_n (pc := 69) (n := 0) (i := 0) rfl rfl rfl ?_
          refine eb_getR (pc := 70) rfl rfl (by decide) (by decide) rfl (ko_s_MO_25 ko) ?_
          refine eb_iload_n (pc := 73) (n := 2) (i := 2) rfl rfl rfl ?_
          refine eb_dup2 (pc := 74) rfl ?_
          obtain ⟨c7, w⟩ := w
          refine eb_laload (pc := 75) rfl rfl c7 ?_
          refine eb_aload_n (pc := 76) (n := 0) (i := 0) rfl rfl rfl ?_
          refine eb_getR (pc := 77) rfl rfl (by decide) (by decide) rfl (ko_s_MO_24 ko) ?_
          refine eb_iload_n (pc := 80) (n := 2) (i := 2) rfl rfl rfl ?_
          obtain ⟨c8, w⟩ := w
          refine eb_laload (pc := 81) rfl rfl c8 ?_
          refine eb_ladd (pc := 82) rfl ?_
          obtain ⟨c9, w⟩ := w
          refine eb_lastore (pc := 83) rfl rfl c9 ?_
          refine eb_iinc (pc := 84) (i := 3) (n := 1) (v := x3 + 1) (ls2 := [(3, .int (x3 + 1)), (4, .int (eb_I h s_m_then (((4 : Int32) * x2) + x3).toNatClampNeg)), (0, .ref s_MO), (1, .int x1), (2, .int x2)]) (Nat.le_of_ble_eq_true rfl) rfl rfl rfl rfl ?_
          refine eb_goto (pc := 87) (tgt := 12) rfl (by decide) ?_
          exact eb_pick [2, 3, 4, 0] rfl w
      · replace w := w.2 c5
        refine eb_aload_n (pc := 46) (n := 0) (i := 0) rfl rfl rfl ?_
        refine eb_getR (pc := 47) rfl rfl (by decide) (by decide) rfl (ko_s_MO_25 ko) ?_
        refine eb_iload (pc := 50) (i := 4) rfl rfl ?_
        refine eb_dup2 (pc := 52) rfl ?_
        obtain ⟨c10, w⟩ := w
        refine eb_laload (pc := 53) rfl rfl c10 ?_
        refine eb_aload_n (pc := 54) (n := 0) (i := 0) rfl rfl rfl ?_
        refine eb_getR (pc := 55) rfl rfl (by decide) (by decide) rfl (ko_s_MO_24 ko) ?_
        refine eb_iload_n (pc := 58) (n := 2) (i := 2) rfl rfl rfl ?_
        obtain ⟨c11, w⟩ := w
        refine eb_laload (pc := 59) rfl rfl c11 ?_
        refine eb_ladd (pc := 60) rfl ?_
        obtain ⟨c12, w⟩ := w
        refine eb_lastore (pc := 61) rfl rfl c12 ?_
        refine eb_goto (pc := 62) (tgt := 84) rfl (by decide) ?_
        refine eb_iinc (pc := 84) (i := 3) (n := 1) (v := x3 + 1) (ls2 := [(3, .int (x3 + 1)), (4, .int (eb_I h s_m_then (((4 : Int32) * x2) + x3).toNatClampNeg)), (0, .ref s_MO), (1, .int x1), (2, .int x2)]) (Nat.le_of_ble_eq_true rfl) rfl rfl rfl rfl ?_
        refine eb_goto (pc := 87) (tgt := 12) rfl (by decide) ?_
        exact eb_pick [2, 3, 4, 0] rfl w
theorem T_X11_goesMany {d : Nat} {h : eb_H} {Q : Option Value → eb_H → Prop} (x1 : Int32)  (ko : eb_KO h) (w : eb_Sn (d + 1) m_X11_goesMany h 2 [(0, .ref s_MO), (1, .int x1), (2, .int 0)] [] h Q) : eb_Ct (d + 1) 238 [.ref s_MO, .int x1] h Q :=
  eb_bodyQ (by decide) ok_X11_goesMany (Nat.le_of_ble_eq_true rfl) (b_X11_goesMany_0 (h0 := h) x1  ko w)
theorem b_X11_ways_0 {d : Nat} {h0 h : eb_H} {Q : Option Value → eb_H → Prop} (x1 : Int32) (x2 : Int32) (x3 : Int32) (x4 : Int32)  (ko : eb_KO h) (w : eb_Ct d 233 [.ref s_MO, .int x1, .int x2, .int x3] (eb_sI h s_MO 0 0) (fun r h1 => ∃ y2, r = some (.int y2) ∧ eb_KO h1 ∧ ((y2 = 0 → eb_Ct d 156 [.long x4.toInt64, .long 0, .long 12] h1 (fun r h5 => ∃ y6, r = some (.int y6) ∧ eb_KO h5 ∧ ((¬ y6 = 0 → eb_Ct d 237 [.ref s_MO] h5 (fun r h9 => r = none ∧ eb_KO h9 ∧ eb_Sn (d + 1) m_X11_ways h0 47 [(0, .ref s_MO), (1, .int x1), (2, .int x2), (3, .int x3), (4, .int x4), (6, .int 0)] [] h9 Q)) ∧ (y6 = 0 → Q (some (.long (-3))) h5)))) ∧ (¬ (y2 = 0) → Q (some (.long y2.toInt64)) h1)))) : eb_Sn (d + 1) m_X11_ways h0 0 [(0, .ref s_MO), (1, .int x1), (2, .int x2), (3, .int x3), (4, .int x4)] [] h Q := by
  refine eb_aload_n (pc := 0) (n := 0) (i := 0) rfl rfl rfl ?_
  refine eb_iconst (pc := 1) (n := 0) (v := 0) rfl rfl ?_
  refine eb_putI (pc := 2) rfl rfl (by decide) (by decide) rfl rfl ⟨rfl, rfl⟩ ?_
  refine eb_aload_n (pc := 5) (n := 0) (i := 0) rfl rfl rfl ?_
  refine eb_iload_n (pc := 6) (n := 1) (i := 1) rfl rfl rfl ?_
  refine eb_iload_n (pc := 7) (n := 2) (i := 2) rfl rfl rfl ?_
  refine eb_iload_n (pc := 8) (n := 3) (i := 3) rfl rfl rfl ?_
  refine eb_ctV (pc := 9) (As := [.int x1, .int x2, .int x3]) (rest := []) rfl (by decide) rfl rfl (by decide) rfl (Nat.le_of_ble_eq_true rfl) ?_
  refine eb_Ct.mono w ?_
  rintro r h1 ⟨y2, rfl, ko3, w⟩
  change eb_Sn _ _ _ 12 _ [.int y2] _ _
  refine eb_istore (pc := 12) (i := 5) (ls2 := [(5, .int y2), (0, .ref s_MO), (1, .int x1), (2, .int x2), (3, .int x3), (4, .int x4)]) (Nat.le_of_ble_eq_true rfl) rfl rfl ?_
  refine eb_iload (pc := 14) (i := 5) rfl rfl ?_
  refine eb_if_eq (pc := 16) (tgt := 23) rfl (by decide) (fun c4 => ?_) (fun c4 => ?_)
  · replace w := w.1 c4
    refine eb_iload (pc := 23) (i := 4) rfl rfl ?_
    refine eb_i2l (pc := 25) rfl ?_
    refine eb_lconst (pc := 26) (n := 0) (v := 0) rfl rfl ?_
    refine eb_ldc2 (pc := 27) (a := 12) (v := 12) rfl (by decide) ?_
    refine eb_ctS (pc := 30) (As := [.long x4.toInt64, .long 0, .long 12]) (rest := []) rfl (by decide) (by decide) rfl rfl (Nat.le_of_ble_eq_true rfl) ?_
    refine eb_Ct.mono w ?_
    rintro r h5 ⟨y6, rfl, ko7, w⟩
    change eb_Sn _ _ _ 33 _ [.int y6] _ _
    refine eb_if_ne (pc := 33) (tgt := 40) rfl (by decide) (fun c8 => ?_) (fun c8 => ?_)
    · replace w := w.1 c8
      refine eb_aload_n (pc := 40) (n := 0) (i := 0) rfl rfl rfl ?_
      refine eb_ctV (pc := 41) (As := []) (rest := []) rfl (by decide) rfl rfl (by decide) rfl (Nat.le_of_ble_eq_true rfl) ?_
      refine eb_Ct.mono w ?_
      rintro r h9 ⟨rfl, ko11, w⟩
      change eb_Sn _ _ _ 44 _ [] _ _
      refine eb_iconst (pc := 44) (n := 0) (v := 0) rfl rfl ?_
      refine eb_istore (pc := 45) (i := 6) (ls2 := [(6, .int 0), (5, .int y2), (0, .ref s_MO), (1, .int x1), (2, .int x2), (3, .int x3), (4, .int x4)]) (Nat.le_of_ble_eq_true rfl) rfl rfl ?_
      exact eb_pick [2, 3, 4, 5, 6, 0] rfl w
    · replace w := w.2 c8
      refine eb_ldc2 (pc := 36) (a := 18446744073709551613) (v := (-3)) rfl (by decide) ?_
      exact eb_lreturn (pc := 39) rfl rfl w
  · replace w := w.2 c4
    refine eb_iload (pc := 19) (i := 5) rfl rfl ?_
    refine eb_i2l (pc := 21) rfl ?_
    exact eb_lreturn (pc := 22) rfl rfl w
theorem b_X11_ways_47 {d : Nat} {h0 h : eb_H} {Q : Option Value → eb_H → Prop} (x1 : Int32) (x2 : Int32) (x3 : Int32) (x4 : Int32) (x6 : Int32)  (ko : eb_KO h) (w : ((x4 ≤ x6 → eb_Sn (d + 1) m_X11_ways h0 71 [(0, .ref s_MO), (1, .int x1), (2, .int x2), (3, .int x3), (6, .long 0), (8, .int 0)] [] h Q) ∧ (¬ (x4 ≤ x6) → eb_Ct d 238 [.ref s_MO, .int 0] h (fun r h2 => r = none ∧ eb_KO h2 ∧ eb_Sn (d + 1) m_X11_ways h0 47 [(0, .ref s_MO), (1, .int x1), (2, .int x2), (3, .int x3), (4, .int x4), (6, .int (x6 + 1))] [] h2 Q)))) : eb_Sn (d + 1) m_X11_ways h0 47 [(0, .ref s_MO), (1, .int x1), (2, .int x2), (3, .int x3), (4, .int x4), (6, .int x6)] [] h Q := by
  refine eb_iload (pc := 47) (i := 6) rfl rfl ?_
  refine eb_iload (pc := 49) (i := 4) rfl rfl ?_
  refine eb_icmp_ge (pc := 51) (tgt := 65) rfl (by decide) (fun c1 => ?_) (fun c1 => ?_)
  · replace w := w.1 c1
    refine eb_lconst (pc := 65) (n := 0) (v := 0) rfl rfl ?_
    refine eb_lstore (pc := 66) (i := 6) (ls2 := [(6, .long 0), (0, .ref s_MO), (1, .int x1), (2, .int x2), (3, .int x3), (4, .int x4)]) (Nat.le_of_ble_eq_true rfl) rfl rfl ?_
    refine eb_iconst (pc := 68) (n := 0) (v := 0) rfl rfl ?_
    refine eb_istore (pc := 69) (i := 8) (ls2 := [(8, .int 0), (6, .long 0), (0, .ref s_MO), (1, .int x1), (2, .int x2), (3, .int x3), (4, .int x4)]) (Nat.le_of_ble_eq_true rfl) rfl rfl ?_
    exact eb_pick [2, 3, 4, 5, 1, 0] rfl w
  · replace w := w.2 c1
    refine eb_aload_n (pc := 54) (n := 0) (i := 0) rfl rfl rfl ?_
    refine eb_iconst (pc := 55) (n := 0) (v := 0) rfl rfl ?_
    refine eb_ctV (pc := 56) (As := [.int 0]) (rest := []) rfl (by decide) rfl rfl (by decide) rfl (Nat.le_of_ble_eq_true rfl) ?_
    refine eb_Ct.mono w ?_
    rintro r h2 ⟨rfl, ko4, w⟩
    change eb_Sn _ _ _ 59 _ [] _ _
    refine eb_iinc (pc := 59) (i := 6) (n := 1) (v := x6 + 1) (ls2 := [(6, .int (x6 + 1)), (0, .ref s_MO), (1, .int x1), (2, .int x2), (3, .int x3), (4, .int x4)]) (Nat.le_of_ble_eq_true rfl) rfl rfl rfl rfl ?_
    refine eb_goto (pc := 62) (tgt := 47) rfl (by decide) ?_
    exact eb_pick [1, 2, 3, 4, 5, 0] rfl w
theorem b_X11_ways_71 {d : Nat} {h0 h : eb_H} {Q : Option Value → eb_H → Prop} (x1 : Int32) (x2 : Int32) (x3 : Int32) (x6 : Int64) (x8 : Int32)  (ko : eb_KO h) (w : eb_Ct d 228 [.ref s_MO] h (fun r h1 => ∃ y2, r = some (.int y2) ∧ eb_KO h1 ∧ ((y2 ≤ x8 → Q (some (.long x6)) h1) ∧ (¬ (y2 ≤ x8) → eb_Ct d 230 [.int x8, .int x1, .int x2, .int x3] h1 (fun r h5 => ∃ y6, r = some (.int y6) ∧ eb_KO h5 ∧ ((y6 = 0 → eb_Sn (d + 1) m_X11_ways h0 71 [(0, .ref s_MO), (1, .int x1), (2, .int x2), (3, .int x3), (6, .long (x6 + 0)), (8, .int (x8 + 1))] [] h5 Q) ∧ (¬ (y6 = 0) → (vp_in x8 1024) ∧ eb_Sn (d + 1) m_X11_ways h0 71 [(0, .ref s_MO), (1, .int x1), (2, .int x2), (3, .int x3), (6, .long (x6 + (eb_J h5 s_m_many x8.toNatClampNeg))), (8, .int (x8 + 1))] [] h5 Q))))))) : eb_Sn (d + 1) m_X11_ways h0 71 [(0, .ref s_MO), (1, .int x1), (2, .int x2), (3, .int x3), (6, .long x6), (8, .int x8)] [] h Q := by
  refine eb_iload (pc := 71) (i := 8) rfl rfl ?_
  refine eb_aload_n (pc := 73) (n := 0) (i := 0) rfl rfl rfl ?_
  refine eb_ctV (pc := 74) (As := []) (rest := [.int x8]) rfl (by decide) rfl rfl (by decide) rfl (Nat.le_of_ble_eq_true rfl) ?_
  refine eb_Ct.mono w ?_
  rintro r h1 ⟨y2, rfl, ko3, w⟩
  change eb_Sn _ _ _ 77 _ [.int y2, .int x8] _ _
  refine eb_icmp_ge (pc := 77) (tgt := 113) rfl (by decide) (fun c4 => ?_) (fun c4 => ?_)
  · replace w := w.1 c4
    refine eb_lload (pc := 113) (i := 6) rfl rfl ?_
    exact eb_lreturn (pc := 115) rfl rfl w
  · replace w := w.2 c4
    refine eb_lload (pc := 80) (i := 6) rfl rfl ?_
    refine eb_iload (pc := 82) (i := 8) rfl rfl ?_
    refine eb_iload_n (pc := 84) (n := 1) (i := 1) rfl rfl rfl ?_
    refine eb_iload_n (pc := 85) (n := 2) (i := 2) rfl rfl rfl ?_
    refine eb_iload_n (pc := 86) (n := 3) (i := 3) rfl rfl rfl ?_
    refine eb_ctS (pc := 87) (As := [.int x8, .int x1, .int x2, .int x3]) (rest := [.long x6]) rfl (by decide) (by decide) rfl rfl (Nat.le_of_ble_eq_true rfl) ?_
    refine eb_Ct.mono w ?_
    rintro r h5 ⟨y6, rfl, ko7, w⟩
    change eb_Sn _ _ _ 90 _ [.int y6, .long x6] _ _
    refine eb_if_eq (pc := 90) (tgt := 103) rfl (by decide) (fun c8 => ?_) (fun c8 => ?_)
    · replace w := w.1 c8
      refine eb_lconst (pc := 103) (n := 0) (v := 0) rfl rfl ?_
      refine eb_ladd (pc := 104) rfl ?_
      refine eb_lstore (pc := 105) (i := 6) (ls2 := [(6, .long (x6 + 0)), (0, .ref s_MO), (1, .int x1), (2, .int x2), (3, .int x3), (8, .int x8)]) (Nat.le_of_ble_eq_true rfl) rfl rfl ?_
      refine eb_iinc (pc := 107) (i := 8) (n := 1) (v := x8 + 1) (ls2 := [(8, .int (x8 + 1)), (6, .long (x6 + 0)), (0, .ref s_MO), (1, .int x1), (2, .int x2), (3, .int x3)]) (Nat.le_of_ble_eq_true rfl) rfl rfl rfl rfl ?_
      refine eb_goto (pc := 110) (tgt := 71) rfl (by decide) ?_
      exact eb_pick [2, 3, 4, 5, 1, 0] rfl w
    · replace w := w.2 c8
      refine eb_aload_n (pc := 93) (n := 0) (i := 0) rfl rfl rfl ?_
      refine eb_getR (pc := 94) rfl rfl (by decide) (by decide) rfl (ko_s_MO_24 ko7) ?_
      refine eb_iload (pc := 97) (i := 8) rfl rfl ?_
      obtain ⟨c9, w⟩ := w
      refine eb_laload (pc := 99) rfl rfl c9 ?_
      refine eb_goto (pc := 100) (tgt := 104) rfl (by decide) ?_
      refine eb_ladd (pc := 104) rfl ?_
      refine eb_lstore (pc := 105) (i := 6) (ls2 := [(6, .long (x6 + (eb_J h5 s_m_many x8.toNatClampNeg))), (0, .ref s_MO), (1, .int x1), (2, .int x2), (3, .int x3), (8, .int x8)]) (Nat.le_of_ble_eq_true rfl) rfl rfl ?_
      refine eb_iinc (pc := 107) (i := 8) (n := 1) (v := x8 + 1) (ls2 := [(8, .int (x8 + 1)), (6, .long (x6 + (eb_J h5 s_m_many x8.toNatClampNeg))), (0, .ref s_MO), (1, .int x1), (2, .int x2), (3, .int x3)]) (Nat.le_of_ble_eq_true rfl) rfl rfl rfl rfl ?_
      refine eb_goto (pc := 110) (tgt := 71) rfl (by decide) ?_
      exact eb_pick [2, 3, 4, 5, 1, 0] rfl w
theorem T_X11_ways {d : Nat} {h : eb_H} {Q : Option Value → eb_H → Prop} (x1 : Int32) (x2 : Int32) (x3 : Int32) (x4 : Int32)  (ko : eb_KO h) (w : eb_Ct d 233 [.ref s_MO, .int x1, .int x2, .int x3] (eb_sI h s_MO 0 0) (fun r h1 => ∃ y2, r = some (.int y2) ∧ eb_KO h1 ∧ ((y2 = 0 → eb_Ct d 156 [.long x4.toInt64, .long 0, .long 12] h1 (fun r h5 => ∃ y6, r = some (.int y6) ∧ eb_KO h5 ∧ ((¬ y6 = 0 → eb_Ct d 237 [.ref s_MO] h5 (fun r h9 => r = none ∧ eb_KO h9 ∧ eb_Sn (d + 1) m_X11_ways h 47 [(0, .ref s_MO), (1, .int x1), (2, .int x2), (3, .int x3), (4, .int x4), (6, .int 0)] [] h9 Q)) ∧ (y6 = 0 → Q (some (.long (-3))) h5)))) ∧ (¬ (y2 = 0) → Q (some (.long y2.toInt64)) h1)))) : eb_Ct (d + 1) 239 [.ref s_MO, .int x1, .int x2, .int x3, .int x4] h Q :=
  eb_bodyQ (by decide) ok_X11_ways (Nat.le_of_ble_eq_true rfl) (b_X11_ways_0 (h0 := h) x1 x2 x3 x4  ko w)
theorem b_X11_canCome_0 {d : Nat} {h0 h : eb_H} {Q : Option Value → eb_H → Prop} (x1 : Int32) (x2 : Int32) (x3 : Int32) (x4 : Int32)  (ko : eb_KO h) (w : eb_Ct d 229 [.ref s_MO, .int x4] h (fun r h1 => r = none ∧ eb_KO h1 ∧ eb_Sn (d + 1) m_X11_canCome h0 9 [(0, .ref s_MO), (1, .int x1), (2, .int x2), (3, .int x3), (5, .int 0)] [] h1 Q)) : eb_Sn (d + 1) m_X11_canCome h0 0 [(0, .ref s_MO), (1, .int x1), (2, .int x2), (3, .int x3), (4, .int x4)] [] h Q := by
  refine eb_aload_n (pc := 0) (n := 0) (i := 0) rfl rfl rfl ?_
  refine eb_iload (pc := 1) (i := 4) rfl rfl ?_
  refine eb_ctV (pc := 3) (As := [.int x4]) (rest := []) rfl (by decide) rfl rfl (by decide) rfl (Nat.le_of_ble_eq_true rfl) ?_
  refine eb_Ct.mono w ?_
  rintro r h1 ⟨rfl, ko3, w⟩
  change eb_Sn _ _ _ 6 _ [] _ _
  refine eb_iconst (pc := 6) (n := 0) (v := 0) rfl rfl ?_
  refine eb_istore (pc := 7) (i := 5) (ls2 := [(5, .int 0), (0, .ref s_MO), (1, .int x1), (2, .int x2), (3, .int x3), (4, .int x4)]) (Nat.le_of_ble_eq_true rfl) rfl rfl ?_
  exact eb_pick [1, 2, 3, 4, 0] rfl w
theorem b_X11_canCome_9 {d : Nat} {h0 h : eb_H} {Q : Option Value → eb_H → Prop} (x1 : Int32) (x2 : Int32) (x3 : Int32) (x5 : Int32)  (ko : eb_KO h) (w : eb_Ct d 228 [.ref s_MO] h (fun r h1 => ∃ y2, r = some (.int y2) ∧ eb_KO h1 ∧ ((y2 ≤ x5 → Q (some (.int 0)) h1) ∧ (¬ (y2 ≤ x5) → (vp_in x5 1024) ∧ (((eb_I h1 s_m_reached x5.toNatClampNeg) = 0 → eb_Sn (d + 1) m_X11_canCome h0 9 [(0, .ref s_MO), (1, .int x1), (2, .int x2), (3, .int x3), (5, .int (x5 + 1))] [] h1 Q) ∧ (¬ ((eb_I h1 s_m_reached x5.toNatClampNeg) = 0) → eb_Ct d 230 [.int x5, .int x1, .int x2, .int x3] h1 (fun r h7 => ∃ y8, r = some (.int y8) ∧ eb_KO h7 ∧ ((y8 = 0 → eb_Sn (d + 1) m_X11_canCome h0 9 [(0, .ref s_MO), (1, .int x1), (2, .int x2), (3, .int x3), (5, .int (x5 + 1))] [] h7 Q) ∧ (¬ (y8 = 0) → Q (some (.int 1)) h7))))))))) : eb_Sn (d + 1) m_X11_canCome h0 9 [(0, .ref s_MO), (1, .int x1), (2, .int x2), (3, .int x3), (5, .int x5)] [] h Q := by
  refine eb_iload (pc := 9) (i := 5) rfl rfl ?_
  refine eb_aload_n (pc := 11) (n := 0) (i := 0) rfl rfl rfl ?_
  refine eb_ctV (pc := 12) (As := []) (rest := [.int x5]) rfl (by decide) rfl rfl (by decide) rfl (Nat.le_of_ble_eq_true rfl) ?_
  refine eb_Ct.mono w ?_
  rintro r h1 ⟨y2, rfl, ko3, w⟩
  change eb_Sn _ _ _ 15 _ [.int y2, .int x5] _ _
  refine eb_icmp_ge (pc := 15) (tgt := 47) rfl (by decide) (fun c4 => ?_) (fun c4 => ?_)
  · replace w := w.1 c4
    refine eb_iconst (pc := 47) (n := 0) (v := 0) rfl rfl ?_
    exact eb_ireturn (pc := 48) rfl rfl (by decide) w
  · replace w := w.2 c4
    refine eb_aload_n (pc := 18) (n := 0) (i := 0) rfl rfl rfl ?_
    refine eb_getR (pc := 19) rfl rfl (by decide) (by decide) rfl (ko_s_MO_23 ko3) ?_
    refine eb_iload (pc := 22) (i := 5) rfl rfl ?_
    obtain ⟨c5, w⟩ := w
    refine eb_zaload (pc := 24) rfl rfl c5 ?_
    refine eb_if_eq (pc := 25) (tgt := 41) rfl (by decide) (fun c6 => ?_) (fun c6 => ?_)
    · replace w := w.1 c6
      refine eb_iinc (pc := 41) (i := 5) (n := 1) (v := x5 + 1) (ls2 := [(5, .int (x5 + 1)), (0, .ref s_MO), (1, .int x1), (2, .int x2), (3, .int x3)]) (Nat.le_of_ble_eq_true rfl) rfl rfl rfl rfl ?_
      refine eb_goto (pc := 44) (tgt := 9) rfl (by decide) ?_
      exact eb_pick [1, 2, 3, 4, 0] rfl w
    · replace w := w.2 c6
      refine eb_iload (pc := 28) (i := 5) rfl rfl ?_
      refine eb_iload_n (pc := 30) (n := 1) (i := 1) rfl rfl rfl ?_
      refine eb_iload_n (pc := 31) (n := 2) (i := 2) rfl rfl rfl ?_
      refine eb_iload_n (pc := 32) (n := 3) (i := 3) rfl rfl rfl ?_
      refine eb_ctS (pc := 33) (As := [.int x5, .int x1, .int x2, .int x3]) (rest := []) rfl (by decide) (by decide) rfl rfl (Nat.le_of_ble_eq_true rfl) ?_
      refine eb_Ct.mono w ?_
      rintro r h7 ⟨y8, rfl, ko9, w⟩
      change eb_Sn _ _ _ 36 _ [.int y8] _ _
      refine eb_if_eq (pc := 36) (tgt := 41) rfl (by decide) (fun c10 => ?_) (fun c10 => ?_)
      · replace w := w.1 c10
        refine eb_iinc (pc := 41) (i := 5) (n := 1) (v := x5 + 1) (ls2 := [(5, .int (x5 + 1)), (0, .ref s_MO), (1, .int x1), (2, .int x2), (3, .int x3)]) (Nat.le_of_ble_eq_true rfl) rfl rfl rfl rfl ?_
        refine eb_goto (pc := 44) (tgt := 9) rfl (by decide) ?_
        exact eb_pick [1, 2, 3, 4, 0] rfl w
      · replace w := w.2 c10
        refine eb_iconst (pc := 39) (n := 1) (v := 1) rfl rfl ?_
        exact eb_ireturn (pc := 40) rfl rfl (by decide) w
theorem T_X11_canCome {d : Nat} {h : eb_H} {Q : Option Value → eb_H → Prop} (x1 : Int32) (x2 : Int32) (x3 : Int32) (x4 : Int32)  (ko : eb_KO h) (w : eb_Ct d 229 [.ref s_MO, .int x4] h (fun r h1 => r = none ∧ eb_KO h1 ∧ eb_Sn (d + 1) m_X11_canCome h 9 [(0, .ref s_MO), (1, .int x1), (2, .int x2), (3, .int x3), (5, .int 0)] [] h1 Q)) : eb_Ct (d + 1) 240 [.ref s_MO, .int x1, .int x2, .int x3, .int x4] h Q :=
  eb_bodyQ (by decide) ok_X11_canCome (Nat.le_of_ble_eq_true rfl) (b_X11_canCome_0 (h0 := h) x1 x2 x3 x4  ko w)
theorem b_X11_needed_0 {d : Nat} {h0 h : eb_H} {Q : Option Value → eb_H → Prop} (x1 : Int32) (x2 : Int32) (x3 : Int32)  (ko : eb_KO h) (w : eb_Ct d 233 [.ref s_MO, .int x1, .int x2, .int x3] (eb_sI h s_MO 0 0) (fun r h1 => ∃ y2, r = some (.int y2) ∧ eb_KO h1 ∧ ((y2 = 0 → eb_Ct d 240 [.ref s_MO, .int x1, .int x2, .int x3, .int (eb_I h1 s_m_all (50 : Int32).toNatClampNeg)] h1 (fun r h5 => ∃ y6, r = some (.int y6) ∧ eb_KO h5 ∧ ((¬ y6 = 0 → eb_Sn (d + 1) m_X11_needed h0 48 [(0, .ref s_MO), (1, .int x1), (2, .int x2), (3, .int x3), (5, .int 0), (6, .int 0)] [] h5 Q) ∧ (y6 = 0 → Q (some (.int 0)) h5)))) ∧ (¬ (y2 = 0) → Q (some (.int y2)) h1)))) : eb_Sn (d + 1) m_X11_needed h0 0 [(0, .ref s_MO), (1, .int x1), (2, .int x2), (3, .int x3)] [] h Q := by
  refine eb_aload_n (pc := 0) (n := 0) (i := 0) rfl rfl rfl ?_
  refine eb_iconst (pc := 1) (n := 0) (v := 0) rfl rfl ?_
  refine eb_putI (pc := 2) rfl rfl (by decide) (by decide) rfl rfl ⟨rfl, rfl⟩ ?_
  refine eb_aload_n (pc := 5) (n := 0) (i := 0) rfl rfl rfl ?_
  refine eb_iload_n (pc := 6) (n := 1) (i := 1) rfl rfl rfl ?_
  refine eb_iload_n (pc := 7) (n := 2) (i := 2) rfl rfl rfl ?_
  refine eb_iload_n (pc := 8) (n := 3) (i := 3) rfl rfl rfl ?_
  refine eb_ctV (pc := 9) (As := [.int x1, .int x2, .int x3]) (rest := []) rfl (by decide) rfl rfl (by decide) rfl (Nat.le_of_ble_eq_true rfl) ?_
  refine eb_Ct.mono w ?_
  rintro r h1 ⟨y2, rfl, ko3, w⟩
  change eb_Sn _ _ _ 12 _ [.int y2] _ _
  refine eb_istore (pc := 12) (i := 4) (ls2 := [(4, .int y2), (0, .ref s_MO), (1, .int x1), (2, .int x2), (3, .int x3)]) (Nat.le_of_ble_eq_true rfl) rfl rfl ?_
  refine eb_iload (pc := 14) (i := 4) rfl rfl ?_
  refine eb_if_eq (pc := 16) (tgt := 22) rfl (by decide) (fun c4 => ?_) (fun c4 => ?_)
  · replace w := w.1 c4
    refine eb_iconst (pc := 22) (n := 0) (v := 0) rfl rfl ?_
    refine eb_istore (pc := 23) (i := 5) (ls2 := [(5, .int 0), (4, .int y2), (0, .ref s_MO), (1, .int x1), (2, .int x2), (3, .int x3)]) (Nat.le_of_ble_eq_true rfl) rfl rfl ?_
    refine eb_aload_n (pc := 25) (n := 0) (i := 0) rfl rfl rfl ?_
    refine eb_iload_n (pc := 26) (n := 1) (i := 1) rfl rfl rfl ?_
    refine eb_iload_n (pc := 27) (n := 2) (i := 2) rfl rfl rfl ?_
    refine eb_iload_n (pc := 28) (n := 3) (i := 3) rfl rfl rfl ?_
    refine eb_aload_n (pc := 29) (n := 0) (i := 0) rfl rfl rfl ?_
    refine eb_getR (pc := 30) rfl rfl (by decide) (by decide) rfl (ko_s_MO_1 ko3) ?_
    refine eb_bipush (pc := 33) (n := 50) (v := 50) rfl rfl ?_
    refine eb_iaload (pc := 35) rfl rfl (by unfold vp_in; decide) ?_
    refine eb_ctV (pc := 36) (As := [.int x1, .int x2, .int x3, .int (eb_I h1 s_m_all (50 : Int32).toNatClampNeg)]) (rest := []) rfl (by decide) rfl rfl (by decide) rfl (Nat.le_of_ble_eq_true rfl) ?_
    refine eb_Ct.mono w ?_
    rintro r h5 ⟨y6, rfl, ko7, w⟩
    change eb_Sn _ _ _ 39 _ [.int y6] _ _
    refine eb_if_ne (pc := 39) (tgt := 45) rfl (by decide) (fun c8 => ?_) (fun c8 => ?_)
    · replace w := w.1 c8
      refine eb_iconst (pc := 45) (n := 0) (v := 0) rfl rfl ?_
      refine eb_istore (pc := 46) (i := 6) (ls2 := [(6, .int 0), (5, .int 0), (4, .int y2), (0, .ref s_MO), (1, .int x1), (2, .int x2), (3, .int x3)]) (Nat.le_of_ble_eq_true rfl) rfl rfl ?_
      exact eb_pick [3, 4, 5, 6, 1, 0] rfl w
    · replace w := w.2 c8
      refine eb_iload (pc := 42) (i := 5) rfl rfl ?_
      exact eb_ireturn (pc := 44) rfl rfl rfl w
  · replace w := w.2 c4
    refine eb_iload (pc := 19) (i := 4) rfl rfl ?_
    exact eb_ireturn (pc := 21) rfl rfl rfl w
theorem b_X11_needed_48 {d : Nat} {h0 h : eb_H} {Q : Option Value → eb_H → Prop} (x1 : Int32) (x2 : Int32) (x3 : Int32) (x5 : Int32) (x6 : Int32)  (ko : eb_KO h) (w : eb_Ct d 190 [.ref s_MO] h (fun r h1 => ∃ y2, r = some (.int y2) ∧ eb_KO h1 ∧ ((y2 ≤ x6 → Q (some (.int x5)) h1) ∧ (¬ (y2 ≤ x6) → ((x6 = x1 → eb_Sn (d + 1) m_X11_needed h0 48 [(0, .ref s_MO), (1, .int x1), (2, .int x2), (3, .int x3), (5, .int x5), (6, .int (x6 + 1))] [] h1 Q) ∧ (¬ (x6 = x1) → ((x6 = (eb_I h1 s_m_all (31 : Int32).toNatClampNeg) → eb_Sn (d + 1) m_X11_needed h0 48 [(0, .ref s_MO), (1, .int x1), (2, .int x2), (3, .int x3), (5, .int x5), (6, .int (x6 + 1))] [] h1 Q) ∧ (¬ (x6 = (eb_I h1 s_m_all (31 : Int32).toNatClampNeg)) → eb_Ct d 169 [.long ((eb_I h1 s_m_all (50 : Int32).toNatClampNeg).toInt64), .int x6] h1 (fun r h7 => ∃ y8, r = some (.int y8) ∧ eb_KO h7 ∧ ((y8 = 0 → eb_Ct d 240 [.ref s_MO, .int x1, .int x2, .int x3, .int ((eb_I h7 s_m_all (50 : Int32).toNatClampNeg) ||| ((1 : Int32) <<< (x6 &&& 31)))] h7 (fun r h11 => ∃ y12, r = some (.int y12) ∧ eb_KO h11 ∧ ((¬ y12 = 0 → eb_Sn (d + 1) m_X11_needed h0 48 [(0, .ref s_MO), (1, .int x1), (2, .int x2), (3, .int x3), (5, .int x5), (6, .int (x6 + 1))] [] h11 Q) ∧ (y12 = 0 → eb_Sn (d + 1) m_X11_needed h0 48 [(0, .ref s_MO), (1, .int x1), (2, .int x2), (3, .int x3), (5, .int (x5 ||| ((1 : Int32) <<< (x6 &&& 31)))), (6, .int (x6 + 1))] [] h11 Q)))) ∧ (¬ (y8 = 0) → eb_Sn (d + 1) m_X11_needed h0 48 [(0, .ref s_MO), (1, .int x1), (2, .int x2), (3, .int x3), (5, .int x5), (6, .int (x6 + 1))] [] h7 Q))))))))))) : eb_Sn (d + 1) m_X11_needed h0 48 [(0, .ref s_MO), (1, .int x1), (2, .int x2), (3, .int x3), (5, .int x5), (6, .int x6)] [] h Q := by
  refine eb_iload (pc := 48) (i := 6) rfl rfl ?_
  refine eb_aload_n (pc := 50) (n := 0) (i := 0) rfl rfl rfl ?_
  refine eb_ctV (pc := 51) (As := []) (rest := [.int x6]) rfl (by decide) rfl rfl (by decide) rfl (Nat.le_of_ble_eq_true rfl) ?_
  refine eb_Ct.mono w ?_
  rintro r h1 ⟨y2, rfl, ko3, w⟩
  change eb_Sn _ _ _ 54 _ [.int y2, .int x6] _ _
  refine eb_icmp_ge (pc := 54) (tgt := 131) rfl (by decide) (fun c4 => ?_) (fun c4 => ?_)
  · replace w := w.1 c4
    refine eb_iload (pc := 131) (i := 5) rfl rfl ?_
    exact eb_ireturn (pc := 133) rfl rfl rfl w
  · replace w := w.2 c4
    refine eb_iload (pc := 57) (i := 6) rfl rfl ?_
    refine eb_iload_n (pc := 59) (n := 1) (i := 1) rfl rfl rfl ?_
    refine eb_icmp_eq (pc := 60) (tgt := 125) rfl (by decide) (fun c5 => ?_) (fun c5 => ?_)
    · replace w := w.1 c5
      refine eb_iinc (pc := 125) (i := 6) (n := 1) (v := x6 + 1) (ls2 := [(6, .int (x6 + 1)), (0, .ref s_MO), (1, .int x1), (2, .int x2), (3, .int x3), (5, .int x5)]) (Nat.le_of_ble_eq_true rfl) rfl rfl rfl rfl ?_
      refine eb_goto (pc := 128) (tgt := 48) rfl (by decide) ?_
      exact eb_pick [1, 2, 3, 4, 5, 0] rfl w
    · replace w := w.2 c5
      refine eb_iload (pc := 63) (i := 6) rfl rfl ?_
      refine eb_aload_n (pc := 65) (n := 0) (i := 0) rfl rfl rfl ?_
      refine eb_getR (pc := 66) rfl rfl (by decide) (by decide) rfl (ko_s_MO_1 ko3) ?_
      refine eb_bipush (pc := 69) (n := 31) (v := 31) rfl rfl ?_
      refine eb_iaload (pc := 71) rfl rfl (by unfold vp_in; decide) ?_
      refine eb_icmp_eq (pc := 72) (tgt := 125) rfl (by decide) (fun c6 => ?_) (fun c6 => ?_)
      · replace w := w.1 c6
        refine eb_iinc (pc := 125) (i := 6) (n := 1) (v := x6 + 1) (ls2 := [(6, .int (x6 + 1)), (0, .ref s_MO), (1, .int x1), (2, .int x2), (3, .int x3), (5, .int x5)]) (Nat.le_of_ble_eq_true rfl) rfl rfl rfl rfl ?_
        refine eb_goto (pc := 128) (tgt := 48) rfl (by decide) ?_
        exact eb_pick [1, 2, 3, 4, 5, 0] rfl w
      · replace w := w.2 c6
        refine eb_aload_n (pc := 75) (n := 0) (i := 0) rfl rfl rfl ?_
        refine eb_getR (pc := 76) rfl rfl (by decide) (by decide) rfl (ko_s_MO_1 ko3) ?_
        refine eb_bipush (pc := 79) (n := 50) (v := 50) rfl rfl ?_
        refine eb_iaload (pc := 81) rfl rfl (by unfold vp_in; decide) ?_
        refine eb_i2l (pc := 82) rfl ?_
        refine eb_iload (pc := 83) (i := 6) rfl rfl ?_
        refine eb_ctS (pc := 85) (As := [.long ((eb_I h1 s_m_all (50 : Int32).toNatClampNeg).toInt64), .int x6]) (rest := []) rfl (by decide) (by decide) rfl rfl (Nat.le_of_ble_eq_true rfl) ?_
        refine eb_Ct.mono w ?_
        rintro r h7 ⟨y8, rfl, ko9, w⟩
        change eb_Sn _ _ _ 88 _ [.int y8] _ _
        refine eb_if_eq (pc := 88) (tgt := 94) rfl (by decide) (fun c10 => ?_) (fun c10 => ?_)
        · replace w := w.1 c10
          refine eb_aload_n (pc := 94) (n := 0) (i := 0) rfl rfl rfl ?_
          refine eb_iload_n (pc := 95) (n := 1) (i := 1) rfl rfl rfl ?_
          refine eb_iload_n (pc := 96) (n := 2) (i := 2) rfl rfl rfl ?_
          refine eb_iload_n (pc := 97) (n := 3) (i := 3) rfl rfl rfl ?_
          refine eb_aload_n (pc := 98) (n := 0) (i := 0) rfl rfl rfl ?_
          refine eb_getR (pc := 99) rfl rfl (by decide) (by decide) rfl (ko_s_MO_1 ko9) ?_
          refine eb_bipush (pc := 102) (n := 50) (v := 50) rfl rfl ?_
          refine eb_iaload (pc := 104) rfl rfl (by unfold vp_in; decide) ?_
          refine eb_iconst (pc := 105) (n := 1) (v := 1) rfl rfl ?_
          refine eb_iload (pc := 106) (i := 6) rfl rfl ?_
          refine eb_ishl (pc := 108) rfl ?_
          refine eb_ior (pc := 109) rfl ?_
          refine eb_ctV (pc := 110) (As := [.int x1, .int x2, .int x3, .int ((eb_I h7 s_m_all (50 : Int32).toNatClampNeg) ||| ((1 : Int32) <<< (x6 &&& 31)))]) (rest := []) rfl (by decide) rfl rfl (by decide) rfl (Nat.le_of_ble_eq_true rfl) ?_
          refine eb_Ct.mono w ?_
          rintro r h11 ⟨y12, rfl, ko13, w⟩
          change eb_Sn _ _ _ 113 _ [.int y12] _ _
          refine eb_if_ne (pc := 113) (tgt := 125) rfl (by decide) (fun c14 => ?_) (fun c14 => ?_)
          · replace w := w.1 c14
            refine eb_iinc (pc := 125) (i := 6) (n := 1) (v := x6 + 1) (ls2 := [(6, .int (x6 + 1)), (0, .ref s_MO), (1, .int x1), (2, .int x2), (3, .int x3), (5, .int x5)]) (Nat.le_of_ble_eq_true rfl) rfl rfl rfl rfl ?_
            refine eb_goto (pc := 128) (tgt := 48) rfl (by decide) ?_
            exact eb_pick [1, 2, 3, 4, 5, 0] rfl w
          · replace w := w.2 c14
            refine eb_iload (pc := 116) (i := 5) rfl rfl ?_
            refine eb_iconst (pc := 118) (n := 1) (v := 1) rfl rfl ?_
            refine eb_iload (pc := 119) (i := 6) rfl rfl ?_
            refine eb_ishl (pc := 121) rfl ?_
            refine eb_ior (pc := 122) rfl ?_
            refine eb_istore (pc := 123) (i := 5) (ls2 := [(5, .int (x5 ||| ((1 : Int32) <<< (x6 &&& 31)))), (0, .ref s_MO), (1, .int x1), (2, .int x2), (3, .int x3), (6, .int x6)]) (Nat.le_of_ble_eq_true rfl) rfl rfl ?_
            refine eb_iinc (pc := 125) (i := 6) (n := 1) (v := x6 + 1) (ls2 := [(6, .int (x6 + 1)), (5, .int (x5 ||| ((1 : Int32) <<< (x6 &&& 31)))), (0, .ref s_MO), (1, .int x1), (2, .int x2), (3, .int x3)]) (Nat.le_of_ble_eq_true rfl) rfl rfl rfl rfl ?_
            refine eb_goto (pc := 128) (tgt := 48) rfl (by decide) ?_
            exact eb_pick [2, 3, 4, 5, 1, 0] rfl w
        · replace w := w.2 c10
          refine eb_goto (pc := 91) (tgt := 125) rfl (by decide) ?_
          refine eb_iinc (pc := 125) (i := 6) (n := 1) (v := x6 + 1) (ls2 := [(6, .int (x6 + 1)), (0, .ref s_MO), (1, .int x1), (2, .int x2), (3, .int x3), (5, .int x5)]) (Nat.le_of_ble_eq_true rfl) rfl rfl rfl rfl ?_
          refine eb_goto (pc := 128) (tgt := 48) rfl (by decide) ?_
          exact eb_pick [1, 2, 3, 4, 5, 0] rfl w
theorem T_X11_needed {d : Nat} {h : eb_H} {Q : Option Value → eb_H → Prop} (x1 : Int32) (x2 : Int32) (x3 : Int32)  (ko : eb_KO h) (w : eb_Ct d 233 [.ref s_MO, .int x1, .int x2, .int x3] (eb_sI h s_MO 0 0) (fun r h1 => ∃ y2, r = some (.int y2) ∧ eb_KO h1 ∧ ((y2 = 0 → eb_Ct d 240 [.ref s_MO, .int x1, .int x2, .int x3, .int (eb_I h1 s_m_all (50 : Int32).toNatClampNeg)] h1 (fun r h5 => ∃ y6, r = some (.int y6) ∧ eb_KO h5 ∧ ((¬ y6 = 0 → eb_Sn (d + 1) m_X11_needed h 48 [(0, .ref s_MO), (1, .int x1), (2, .int x2), (3, .int x3), (5, .int 0), (6, .int 0)] [] h5 Q) ∧ (y6 = 0 → Q (some (.int 0)) h5)))) ∧ (¬ (y2 = 0) → Q (some (.int y2)) h1)))) : eb_Ct (d + 1) 241 [.ref s_MO, .int x1, .int x2, .int x3] h Q :=
  eb_bodyQ (by decide) ok_X11_needed (Nat.le_of_ble_eq_true rfl) (b_X11_needed_0 (h0 := h) x1 x2 x3  ko w)
theorem b_X11_reach_0 {d : Nat} {h0 h : eb_H} {Q : Option Value → eb_H → Prop}   (ko : eb_KO h) (w : eb_Ct d 229 [.ref s_MO, .int (eb_I (eb_sI h s_MO 0 0) s_m_all (50 : Int32).toNatClampNeg)] (eb_sI h s_MO 0 0) (fun r h1 => r = none ∧ eb_KO h1 ∧ eb_Sn (d + 1) m_X11_reach h0 20 [(0, .ref s_MO), (1, .int 0), (2, .int 0)] [] h1 Q)) : eb_Sn (d + 1) m_X11_reach h0 0 [(0, .ref s_MO)] [] h Q := by
  refine eb_aload_n (pc := 0) (n := 0) (i := 0) rfl rfl rfl ?_
  refine eb_iconst (pc := 1) (n := 0) (v := 0) rfl rfl ?_
  refine eb_putI (pc := 2) rfl rfl (by decide) (by decide) rfl rfl ⟨rfl, rfl⟩ ?_
  refine eb_aload_n (pc := 5) (n := 0) (i := 0) rfl rfl rfl ?_
  refine eb_aload_n (pc := 6) (n := 0) (i := 0) rfl rfl rfl ?_
  refine eb_getR (pc := 7) rfl rfl (by decide) (by decide) rfl (ko_s_MO_1 ko) ?_
  refine eb_bipush (pc := 10) (n := 50) (v := 50) rfl rfl ?_
  refine eb_iaload (pc := 12) rfl rfl (by unfold vp_in; decide) ?_
  refine eb_ctV (pc := 13) (As := [.int (eb_I (eb_sI h s_MO 0 0) s_m_all (50 : Int32).toNatClampNeg)]) (rest := []) rfl (by decide) rfl rfl (by decide) rfl (Nat.le_of_ble_eq_true rfl) ?_
  refine eb_Ct.mono w ?_
  rintro r h1 ⟨rfl, ko3, w⟩
  change eb_Sn _ _ _ 16 _ [] _ _
  refine eb_iconst (pc := 16) (n := 0) (v := 0) rfl rfl ?_
  refine eb_istore_n (pc := 17) (n := 1) (i := 1) (ls2 := [(1, .int 0), (0, .ref s_MO)]) rfl (Nat.le_of_ble_eq_true rfl) rfl rfl ?_
  refine eb_iconst (pc := 18) (n := 0) (v := 0) rfl rfl ?_
  refine eb_istore_n (pc := 19) (n := 2) (i := 2) (ls2 := [(2, .int 0), (1, .int 0), (0, .ref s_MO)]) rfl (Nat.le_of_ble_eq_true rfl) rfl rfl ?_
  exact eb_pick [2, 1, 0] rfl w
theorem b_X11_reach_20 {d : Nat} {h0 h : eb_H} {Q : Option Value → eb_H → Prop} (x1 : Int32) (x2 : Int32)  (ko : eb_KO h) (w : eb_Ct d 228 [.ref s_MO] h (fun r h1 => ∃ y2, r = some (.int y2) ∧ eb_KO h1 ∧ ((y2 ≤ x2 → Q (some (.int x1)) h1) ∧ (¬ (y2 ≤ x2) → (vp_in x2 1024) ∧ eb_Sn (d + 1) m_X11_reach h0 20 [(0, .ref s_MO), (1, .int (x1 ||| (if (eb_I h1 s_m_reached x2.toNatClampNeg) = 0 then 0 else (1 : Int32) <<< ((x2 / 64) &&& 31) : Int32))), (2, .int (x2 + 1))] [] h1 Q)))) : eb_Sn (d + 1) m_X11_reach h0 20 [(0, .ref s_MO), (1, .int x1), (2, .int x2)] [] h Q := by
  refine eb_iload_n (pc := 20) (n := 2) (i := 2) rfl rfl rfl ?_
  refine eb_aload_n (pc := 21) (n := 0) (i := 0) rfl rfl rfl ?_
  refine eb_ctV (pc := 22) (As := []) (rest := [.int x2]) rfl (by decide) rfl rfl (by decide) rfl (Nat.le_of_ble_eq_true rfl) ?_
  refine eb_Ct.mono w ?_
  rintro r h1 ⟨y2, rfl, ko3, w⟩
  change eb_Sn _ _ _ 25 _ [.int y2, .int x2] _ _
  refine eb_icmp_ge (pc := 25) (tgt := 56) rfl (by decide) (fun c4 => ?_) (fun c4 => ?_)
  · replace w := w.1 c4
    refine eb_iload_n (pc := 56) (n := 1) (i := 1) rfl rfl rfl ?_
    exact eb_ireturn (pc := 57) rfl rfl rfl w
  · replace w := w.2 c4
    refine eb_iload_n (pc := 28) (n := 1) (i := 1) rfl rfl rfl ?_
    refine eb_aload_n (pc := 29) (n := 0) (i := 0) rfl rfl rfl ?_
    refine eb_getR (pc := 30) rfl rfl (by decide) (by decide) rfl (ko_s_MO_23 ko3) ?_
    refine eb_iload_n (pc := 33) (n := 2) (i := 2) rfl rfl rfl ?_
    obtain ⟨c5, w⟩ := w
    refine eb_zaload (pc := 34) rfl rfl c5 ?_
    have jj7 : eb_Sn (d + 1) m_X11_reach h0 48 [(0, .ref s_MO), (1, .int x1), (2, .int x2)] [.int (if (eb_I h1 s_m_reached x2.toNatClampNeg) = 0 then 0 else (1 : Int32) <<< ((x2 / 64) &&& 31) : Int32), .int x1] h1 Q := by
      refine eb_ior (pc := 48) rfl ?_
      refine eb_istore_n (pc := 49) (n := 1) (i := 1) (ls2 := [(1, .int (x1 ||| (if (eb_I h1 s_m_reached x2.toNatClampNeg) = 0 then 0 else (1 : Int32) <<< ((x2 / 64) &&& 31) : Int32))), (0, .ref s_MO), (2, .int x2)]) rfl (Nat.le_of_ble_eq_true rfl) rfl rfl ?_
      refine eb_iinc (pc := 50) (i := 2) (n := 1) (v := x2 + 1) (ls2 := [(2, .int (x2 + 1)), (1, .int (x1 ||| (if (eb_I h1 s_m_reached x2.toNatClampNeg) = 0 then 0 else (1 : Int32) <<< ((x2 / 64) &&& 31) : Int32))), (0, .ref s_MO)]) (Nat.le_of_ble_eq_true rfl) rfl rfl rfl rfl ?_
      refine eb_goto (pc := 53) (tgt := 20) rfl (by decide) ?_
      exact eb_pick [2, 1, 0] rfl w
    refine eb_if_eq (pc := 35) (tgt := 47) rfl (by decide) (fun c6 => ?_) (fun c6 => ?_)
    · refine eb_iconst (pc := 47) (n := 0) (v := 0) rfl rfl ?_
      simp only [if_pos c6] at jj7 ⊢
      exact jj7
    · refine eb_iconst (pc := 38) (n := 1) (v := 1) rfl rfl ?_
      refine eb_iload_n (pc := 39) (n := 2) (i := 2) rfl rfl rfl ?_
      refine eb_bipush (pc := 40) (n := 64) (v := 64) rfl rfl ?_
      refine eb_idiv (pc := 42) (by decide) rfl ?_
      refine eb_ishl (pc := 43) rfl ?_
      refine eb_goto (pc := 44) (tgt := 48) rfl (by decide) ?_
      simp only [if_neg c6] at jj7 ⊢
      exact jj7
theorem T_X11_reach {d : Nat} {h : eb_H} {Q : Option Value → eb_H → Prop}   (ko : eb_KO h) (w : eb_Ct d 229 [.ref s_MO, .int (eb_I (eb_sI h s_MO 0 0) s_m_all (50 : Int32).toNatClampNeg)] (eb_sI h s_MO 0 0) (fun r h1 => r = none ∧ eb_KO h1 ∧ eb_Sn (d + 1) m_X11_reach h 20 [(0, .ref s_MO), (1, .int 0), (2, .int 0)] [] h1 Q)) : eb_Ct (d + 1) 242 [.ref s_MO] h Q :=
  eb_bodyQ (by decide) ok_X11_reach (Nat.le_of_ble_eq_true rfl) (b_X11_reach_0 (h0 := h)   ko w)
theorem b_X11_heard_0 {d : Nat} {h0 h : eb_H} {Q : Option Value → eb_H → Prop}   (ko : eb_KO h) (w : eb_Ct d 229 [.ref s_MO, .int (eb_I (eb_sI h s_MO 0 0) s_m_all (50 : Int32).toNatClampNeg)] (eb_sI h s_MO 0 0) (fun r h1 => r = none ∧ eb_KO h1 ∧ eb_Sn (d + 1) m_X11_heard h0 20 [(0, .ref s_MO), (1, .int 0), (2, .int 0)] [] h1 Q)) : eb_Sn (d + 1) m_X11_heard h0 0 [(0, .ref s_MO)] [] h Q := by
  refine eb_aload_n (pc := 0) (n := 0) (i := 0) rfl rfl rfl ?_
  refine eb_iconst (pc := 1) (n := 0) (v := 0) rfl rfl ?_
  refine eb_putI (pc := 2) rfl rfl (by decide) (by decide) rfl rfl ⟨rfl, rfl⟩ ?_
  refine eb_aload_n (pc := 5) (n := 0) (i := 0) rfl rfl rfl ?_
  refine eb_aload_n (pc := 6) (n := 0) (i := 0) rfl rfl rfl ?_
  refine eb_getR (pc := 7) rfl rfl (by decide) (by decide) rfl (ko_s_MO_1 ko) ?_
  refine eb_bipush (pc := 10) (n := 50) (v := 50) rfl rfl ?_
  refine eb_iaload (pc := 12) rfl rfl (by unfold vp_in; decide) ?_
  refine eb_ctV (pc := 13) (As := [.int (eb_I (eb_sI h s_MO 0 0) s_m_all (50 : Int32).toNatClampNeg)]) (rest := []) rfl (by decide) rfl rfl (by decide) rfl (Nat.le_of_ble_eq_true rfl) ?_
  refine eb_Ct.mono w ?_
  rintro r h1 ⟨rfl, ko3, w⟩
  change eb_Sn _ _ _ 16 _ [] _ _
  refine eb_iconst (pc := 16) (n := 0) (v := 0) rfl rfl ?_
  refine eb_istore_n (pc := 17) (n := 1) (i := 1) (ls2 := [(1, .int 0), (0, .ref s_MO)]) rfl (Nat.le_of_ble_eq_true rfl) rfl rfl ?_
  refine eb_iconst (pc := 18) (n := 0) (v := 0) rfl rfl ?_
  refine eb_istore_n (pc := 19) (n := 2) (i := 2) (ls2 := [(2, .int 0), (1, .int 0), (0, .ref s_MO)]) rfl (Nat.le_of_ble_eq_true rfl) rfl rfl ?_
  exact eb_pick [2, 1, 0] rfl w
theorem b_X11_heard_20 {d : Nat} {h0 h : eb_H} {Q : Option Value → eb_H → Prop} (x1 : Int32) (x2 : Int32)  (ko : eb_KO h) (w : eb_Ct d 228 [.ref s_MO] h (fun r h1 => ∃ y2, r = some (.int y2) ∧ eb_KO h1 ∧ ((y2 ≤ x2 → Q (some (.int x1)) h1) ∧ (¬ (y2 ≤ x2) → (vp_in x2 1024) ∧ eb_Sn (d + 1) m_X11_heard h0 20 [(0, .ref s_MO), (1, .int (x1 ||| (if (eb_I h1 s_m_reached x2.toNatClampNeg) = 0 then 0 else x2 - x2 / 64 * 64 : Int32))), (2, .int (x2 + 1))] [] h1 Q)))) : eb_Sn (d + 1) m_X11_heard h0 20 [(0, .ref s_MO), (1, .int x1), (2, .int x2)] [] h Q := by
  refine eb_iload_n (pc := 20) (n := 2) (i := 2) rfl rfl rfl ?_
  refine eb_aload_n (pc := 21) (n := 0) (i := 0) rfl rfl rfl ?_
  refine eb_ctV (pc := 22) (As := []) (rest := [.int x2]) rfl (by decide) rfl rfl (by decide) rfl (Nat.le_of_ble_eq_true rfl) ?_
  refine eb_Ct.mono w ?_
  rintro r h1 ⟨y2, rfl, ko3, w⟩
  change eb_Sn _ _ _ 25 _ [.int y2, .int x2] _ _
  refine eb_icmp_ge (pc := 25) (tgt := 54) rfl (by decide) (fun c4 => ?_) (fun c4 => ?_)
  · replace w := w.1 c4
    refine eb_iload_n (pc := 54) (n := 1) (i := 1) rfl rfl rfl ?_
    exact eb_ireturn (pc := 55) rfl rfl rfl w
  · replace w := w.2 c4
    refine eb_iload_n (pc := 28) (n := 1) (i := 1) rfl rfl rfl ?_
    refine eb_aload_n (pc := 29) (n := 0) (i := 0) rfl rfl rfl ?_
    refine eb_getR (pc := 30) rfl rfl (by decide) (by decide) rfl (ko_s_MO_23 ko3) ?_
    refine eb_iload_n (pc := 33) (n := 2) (i := 2) rfl rfl rfl ?_
    obtain ⟨c5, w⟩ := w
    refine eb_zaload (pc := 34) rfl rfl c5 ?_
    have jj7 : eb_Sn (d + 1) m_X11_heard h0 46 [(0, .ref s_MO), (1, .int x1), (2, .int x2)] [.int (if (eb_I h1 s_m_reached x2.toNatClampNeg) = 0 then 0 else x2 - x2 / 64 * 64 : Int32), .int x1] h1 Q := by
      refine eb_ior (pc := 46) rfl ?_
      refine eb_istore_n (pc := 47) (n := 1) (i := 1) (ls2 := [(1, .int (x1 ||| (if (eb_I h1 s_m_reached x2.toNatClampNeg) = 0 then 0 else x2 - x2 / 64 * 64 : Int32))), (0, .ref s_MO), (2, .int x2)]) rfl (Nat.le_of_ble_eq_true rfl) rfl rfl ?_
      refine eb_iinc (pc := 48) (i := 2) (n := 1) (v := x2 + 1) (ls2 := [(2, .int (x2 + 1)), (1, .int (x1 ||| (if (eb_I h1 s_m_reached x2.toNatClampNeg) = 0 then 0 else x2 - x2 / 64 * 64 : Int32))), (0, .ref s_MO)]) (Nat.le_of_ble_eq_true rfl) rfl rfl rfl rfl ?_
      refine eb_goto (pc := 51) (tgt := 20) rfl (by decide) ?_
      exact eb_pick [2, 1, 0] rfl w
    refine eb_if_eq (pc := 35) (tgt := 45) rfl (by decide) (fun c6 => ?_) (fun c6 => ?_)
    · refine eb_iconst (pc := 45) (n := 0) (v := 0) rfl rfl ?_
      simp only [if_pos c6] at jj7 ⊢
      exact jj7
    · refine eb_iload_n (pc := 38) (n := 2) (i := 2) rfl rfl rfl ?_
      refine eb_bipush (pc := 39) (n := 64) (v := 64) rfl rfl ?_
      refine eb_irem (pc := 41) (by decide) rfl ?_
      refine eb_goto (pc := 42) (tgt := 46) rfl (by decide) ?_
      simp only [if_neg c6] at jj7 ⊢
      exact jj7
theorem T_X11_heard {d : Nat} {h : eb_H} {Q : Option Value → eb_H → Prop}   (ko : eb_KO h) (w : eb_Ct d 229 [.ref s_MO, .int (eb_I (eb_sI h s_MO 0 0) s_m_all (50 : Int32).toNatClampNeg)] (eb_sI h s_MO 0 0) (fun r h1 => r = none ∧ eb_KO h1 ∧ eb_Sn (d + 1) m_X11_heard h 20 [(0, .ref s_MO), (1, .int 0), (2, .int 0)] [] h1 Q)) : eb_Ct (d + 1) 243 [.ref s_MO] h Q :=
  eb_bodyQ (by decide) ok_X11_heard (Nat.le_of_ble_eq_true rfl) (b_X11_heard_0 (h0 := h)   ko w)
theorem b_X11_most_0 {d : Nat} {h0 h : eb_H} {Q : Option Value → eb_H → Prop} (x1 : Int32)  (ko : eb_KO h) (w : eb_Ct d 191 [.ref s_MO, .long x1.toInt64] (eb_sI h s_MO 0 0) (fun r h1 => ∃ y2, r = some (.int y2) ∧ eb_KO h1 ∧ ((¬ y2 = 0 → eb_Ct d 229 [.ref s_MO, .int (eb_I h1 s_m_all (50 : Int32).toNatClampNeg)] h1 (fun r h5 => r = none ∧ eb_KO h5 ∧ eb_Sn (d + 1) m_X11_most h0 32 [(0, .ref s_MO), (1, .int x1), (2, .int (-1)), (3, .int 0)] [] h5 Q)) ∧ (y2 = 0 → Q (some (.int (-2))) h1)))) : eb_Sn (d + 1) m_X11_most h0 0 [(0, .ref s_MO), (1, .int x1)] [] h Q := by
  refine eb_aload_n (pc := 0) (n := 0) (i := 0) rfl rfl rfl ?_
  refine eb_iconst (pc := 1) (n := 0) (v := 0) rfl rfl ?_
  refine eb_putI (pc := 2) rfl rfl (by decide) (by decide) rfl rfl ⟨rfl, rfl⟩ ?_
  refine eb_aload_n (pc := 5) (n := 0) (i := 0) rfl rfl rfl ?_
  refine eb_iload_n (pc := 6) (n := 1) (i := 1) rfl rfl rfl ?_
  refine eb_i2l (pc := 7) rfl ?_
  refine eb_ctV (pc := 8) (As := [.long x1.toInt64]) (rest := []) rfl (by decide) rfl rfl (by decide) rfl (Nat.le_of_ble_eq_true rfl) ?_
  refine eb_Ct.mono w ?_
  rintro r h1 ⟨y2, rfl, ko3, w⟩
  change eb_Sn _ _ _ 11 _ [.int y2] _ _
  refine eb_if_ne (pc := 11) (tgt := 17) rfl (by decide) (fun c4 => ?_) (fun c4 => ?_)
  · replace w := w.1 c4
    refine eb_aload_n (pc := 17) (n := 0) (i := 0) rfl rfl rfl ?_
    refine eb_aload_n (pc := 18) (n := 0) (i := 0) rfl rfl rfl ?_
    refine eb_getR (pc := 19) rfl rfl (by decide) (by decide) rfl (ko_s_MO_1 ko3) ?_
    refine eb_bipush (pc := 22) (n := 50) (v := 50) rfl rfl ?_
    refine eb_iaload (pc := 24) rfl rfl (by unfold vp_in; decide) ?_
    refine eb_ctV (pc := 25) (As := [.int (eb_I h1 s_m_all (50 : Int32).toNatClampNeg)]) (rest := []) rfl (by decide) rfl rfl (by decide) rfl (Nat.le_of_ble_eq_true rfl) ?_
    refine eb_Ct.mono w ?_
    rintro r h5 ⟨rfl, ko7, w⟩
    change eb_Sn _ _ _ 28 _ [] _ _
    refine eb_iconst (pc := 28) (n := -1) (v := (-1)) rfl rfl ?_
    refine eb_istore_n (pc := 29) (n := 2) (i := 2) (ls2 := [(2, .int (-1)), (0, .ref s_MO), (1, .int x1)]) rfl (Nat.le_of_ble_eq_true rfl) rfl rfl ?_
    refine eb_iconst (pc := 30) (n := 0) (v := 0) rfl rfl ?_
    refine eb_istore_n (pc := 31) (n := 3) (i := 3) (ls2 := [(3, .int 0), (2, .int (-1)), (0, .ref s_MO), (1, .int x1)]) rfl (Nat.le_of_ble_eq_true rfl) rfl rfl ?_
    exact eb_pick [2, 3, 1, 0] rfl w
  · replace w := w.2 c4
    refine eb_bipush (pc := 14) (n := -2) (v := (-2)) rfl rfl ?_
    exact eb_ireturn (pc := 16) rfl rfl rfl w
theorem b_X11_most_32 {d : Nat} {h0 h : eb_H} {Q : Option Value → eb_H → Prop} (x1 : Int32) (x2 : Int32) (x3 : Int32)  (ko : eb_KO h) (w : (((64 : Int32) ≤ x3 → Q (some (.int x2)) h) ∧ (¬ ((64 : Int32) ≤ x3) → (vp_in (((64 : Int32) * x1) + x3) 1024) ∧ (((eb_I h s_m_reached (((64 : Int32) * x1) + x3).toNatClampNeg) = 0 → eb_Sn (d + 1) m_X11_most h0 32 [(0, .ref s_MO), (1, .int x1), (2, .int x2), (3, .int (x3 + 1))] [] h Q) ∧ (¬ ((eb_I h s_m_reached (((64 : Int32) * x1) + x3).toNatClampNeg) = 0) → eb_Ct d 194 [.int x3] h (fun r h4 => ∃ y5, r = some (.int y5) ∧ eb_KO h4 ∧ ((y5 ≤ x2 → eb_Sn (d + 1) m_X11_most h0 32 [(0, .ref s_MO), (1, .int x1), (2, .int x2), (3, .int (x3 + 1))] [] h4 Q) ∧ (¬ (y5 ≤ x2) → eb_Ct d 194 [.int x3] h4 (fun r h8 => ∃ y9, r = some (.int y9) ∧ eb_KO h8 ∧ eb_Sn (d + 1) m_X11_most h0 32 [(0, .ref s_MO), (1, .int x1), (2, .int y9), (3, .int (x3 + 1))] [] h8 Q))))))))) : eb_Sn (d + 1) m_X11_most h0 32 [(0, .ref s_MO), (1, .int x1), (2, .int x2), (3, .int x3)] [] h Q := by
  refine eb_iload_n (pc := 32) (n := 3) (i := 3) rfl rfl rfl ?_
  refine eb_bipush (pc := 33) (n := 64) (v := 64) rfl rfl ?_
  refine eb_icmp_ge (pc := 35) (tgt := 71) rfl (by decide) (fun c1 => ?_) (fun c1 => ?_)
  · replace w := w.1 c1
    refine eb_iload_n (pc := 71) (n := 2) (i := 2) rfl rfl rfl ?_
    exact eb_ireturn (pc := 72) rfl rfl rfl w
  · replace w := w.2 c1
    refine eb_aload_n (pc := 38) (n := 0) (i := 0) rfl rfl rfl ?_
    refine eb_getR (pc := 39) rfl rfl (by decide) (by decide) rfl (ko_s_MO_23 ko) ?_
    refine eb_bipush (pc := 42) (n := 64) (v := 64) rfl rfl ?_
    refine eb_iload_n (pc := 44) (n := 1) (i := 1) rfl rfl rfl ?_
    refine eb_imul (pc := 45) rfl ?_
    refine eb_iload_n (pc := 46) (n := 3) (i := 3) rfl rfl rfl ?_
    refine eb_iadd (pc := 47) rfl ?_
    obtain ⟨c2, w⟩ := w
    refine eb_zaload (pc := 48) rfl rfl c2 ?_
    refine eb_if_eq (pc := 49) (tgt := 65) rfl (by decide) (fun c3 => ?_) (fun c3 => ?_)
    · replace w := w.1 c3
      refine eb_iinc (pc := 65) (i := 3) (n := 1) (v := x3 + 1) (ls2 := [(3, .int (x3 + 1)), (0, .ref s_MO), (1, .int x1), (2, .int x2)]) (Nat.le_of_ble_eq_true rfl) rfl rfl rfl rfl ?_
      refine eb_goto (pc := 68) (tgt := 32) rfl (by decide) ?_
      exact eb_pick [1, 2, 3, 0] rfl w
    · replace w := w.2 c3
      refine eb_iload_n (pc := 52) (n := 3) (i := 3) rfl rfl rfl ?_
      refine eb_ctS (pc := 53) (As := [.int x3]) (rest := []) rfl (by decide) (by decide) rfl rfl (Nat.le_of_ble_eq_true rfl) ?_
      refine eb_Ct.mono w ?_
      rintro r h4 ⟨y5, rfl, ko6, w⟩
      change eb_Sn _ _ _ 56 _ [.int y5] _ _
      refine eb_iload_n (pc := 56) (n := 2) (i := 2) rfl rfl rfl ?_
      refine eb_icmp_le (pc := 57) (tgt := 65) rfl (by decide) (fun c7 => ?_) (fun c7 => ?_)
      · replace w := w.1 c7
        refine eb_iinc (pc := 65) (i := 3) (n := 1) (v := x3 + 1) (ls2 := [(3, .int (x3 + 1)), (0, .ref s_MO), (1, .int x1), (2, .int x2)]) (Nat.le_of_ble_eq_true rfl) rfl rfl rfl rfl ?_
        refine eb_goto (pc := 68) (tgt := 32) rfl (by decide) ?_
        exact eb_pick [1, 2, 3, 0] rfl w
      · replace w := w.2 c7
        refine eb_iload_n (pc := 60) (n := 3) (i := 3) rfl rfl rfl ?_
        refine eb_ctS (pc := 61) (As := [.int x3]) (rest := []) rfl (by decide) (by decide) rfl rfl (Nat.le_of_ble_eq_true rfl) ?_
        refine eb_Ct.mono w ?_
        rintro r h8 ⟨y9, rfl, ko10, w⟩
        change eb_Sn _ _ _ 64 _ [.int y9] _ _
        refine eb_istore_n (pc := 64) (n := 2) (i := 2) (ls2 := [(2, .int y9), (0, .ref s_MO), (1, .int x1), (3, .int x3)]) rfl (Nat.le_of_ble_eq_true rfl) rfl rfl ?_
        refine eb_iinc (pc := 65) (i := 3) (n := 1) (v := x3 + 1) (ls2 := [(3, .int (x3 + 1)), (2, .int y9), (0, .ref s_MO), (1, .int x1)]) (Nat.le_of_ble_eq_true rfl) rfl rfl rfl rfl ?_
        refine eb_goto (pc := 68) (tgt := 32) rfl (by decide) ?_
        exact eb_pick [2, 3, 1, 0] rfl w
theorem T_X11_most {d : Nat} {h : eb_H} {Q : Option Value → eb_H → Prop} (x1 : Int32)  (ko : eb_KO h) (w : eb_Ct d 191 [.ref s_MO, .long x1.toInt64] (eb_sI h s_MO 0 0) (fun r h1 => ∃ y2, r = some (.int y2) ∧ eb_KO h1 ∧ ((¬ y2 = 0 → eb_Ct d 229 [.ref s_MO, .int (eb_I h1 s_m_all (50 : Int32).toNatClampNeg)] h1 (fun r h5 => r = none ∧ eb_KO h5 ∧ eb_Sn (d + 1) m_X11_most h 32 [(0, .ref s_MO), (1, .int x1), (2, .int (-1)), (3, .int 0)] [] h5 Q)) ∧ (y2 = 0 → Q (some (.int (-2))) h1)))) : eb_Ct (d + 1) 244 [.ref s_MO, .int x1] h Q :=
  eb_bodyQ (by decide) ok_X11_most (Nat.le_of_ble_eq_true rfl) (b_X11_most_0 (h0 := h) x1  ko w)
theorem b_X11_tidingAt_0 {d : Nat} {h0 h : eb_H} {Q : Option Value → eb_H → Prop} (x1 : Int32) (x2 : Int32) (x3 : Int32)  (ko : eb_KO h) (w : eb_Sn d m_X11_tidingAt h0 6 [(0, .ref s_MO), (1, .int x1), (2, .int x2), (3, .int x3), (4, .int 0), (5, .int 0)] [] h Q) : eb_Sn d m_X11_tidingAt h0 0 [(0, .ref s_MO), (1, .int x1), (2, .int x2), (3, .int x3)] [] h Q := by
  refine eb_iconst (pc := 0) (n := 0) (v := 0) rfl rfl ?_
  refine eb_istore (pc := 1) (i := 4) (ls2 := [(4, .int 0), (0, .ref s_MO), (1, .int x1), (2, .int x2), (3, .int x3)]) (Nat.le_of_ble_eq_true rfl) rfl rfl ?_
  refine eb_iconst (pc := 3) (n := 0) (v := 0) rfl rfl ?_
  refine eb_istore (pc := 4) (i := 5) (ls2 := [(5, .int 0), (4, .int 0), (0, .ref s_MO), (1, .int x1), (2, .int x2), (3, .int x3)]) (Nat.le_of_ble_eq_true rfl) rfl rfl ?_
  exact eb_pick [2, 3, 4, 5, 1, 0] rfl w
theorem b_X11_tidingAt_6 {d : Nat} {h0 h : eb_H} {Q : Option Value → eb_H → Prop} (x1 : Int32) (x2 : Int32) (x3 : Int32) (x4 : Int32) (x5 : Int32)  (ko : eb_KO h) (w : (((64 : Int32) ≤ x5 → Q (some (.int (if 0 ≤ x3 then (-1) else x4 : Int32))) h) ∧ (¬ ((64 : Int32) ≤ x5) → (vp_in ((27 : Int32) + x1) 3492) ∧ (vp_in (((64 : Int32) * (eb_I h s_m_all ((27 : Int32) + x1).toNatClampNeg)) + x5) 1024) ∧ (((eb_I h s_m_reached (((64 : Int32) * (eb_I h s_m_all ((27 : Int32) + x1).toNatClampNeg)) + x5).toNatClampNeg) = 0 → eb_Sn d m_X11_tidingAt h0 6 [(0, .ref s_MO), (1, .int x1), (2, .int x2), (3, .int x3), (4, .int x4), (5, .int (x5 + 1))] [] h Q) ∧ (¬ ((eb_I h s_m_reached (((64 : Int32) * (eb_I h s_m_all ((27 : Int32) + x1).toNatClampNeg)) + x5).toNatClampNeg) = 0) → ((x2 = ((-1) : Int32) → ((¬ x4 = x3 → eb_Sn d m_X11_tidingAt h0 6 [(0, .ref s_MO), (1, .int x1), (2, .int x2), (3, .int x3), (4, .int (x4 + 1)), (5, .int (x5 + 1))] [] h Q) ∧ (x4 = x3 → Q (some (.int x5)) h))) ∧ (¬ (x2 = ((-1) : Int32)) → (vp_in ((27 : Int32) + x2) 3492) ∧ (vp_in (((64 : Int32) * (eb_I h s_m_all ((27 : Int32) + x2).toNatClampNeg)) + x5) 1024) ∧ (((eb_I h s_m_reached (((64 : Int32) * (eb_I h s_m_all ((27 : Int32) + x2).toNatClampNeg)) + x5).toNatClampNeg) = 0 → ((¬ x4 = x3 → eb_Sn d m_X11_tidingAt h0 6 [(0, .ref s_MO), (1, .int x1), (2, .int x2), (3, .int x3), (4, .int (x4 + 1)), (5, .int (x5 + 1))] [] h Q) ∧ (x4 = x3 → Q (some (.int x5)) h))) ∧ (¬ ((eb_I h s_m_reached (((64 : Int32) * (eb_I h s_m_all ((27 : Int32) + x2).toNatClampNeg)) + x5).toNatClampNeg) = 0) → eb_Sn d m_X11_tidingAt h0 6 [(0, .ref s_MO), (1, .int x1), (2, .int x2), (3, .int x3), (4, .int x4), (5, .int (x5 + 1))] [] h Q))))))))) : eb_Sn d m_X11_tidingAt h0 6 [(0, .ref s_MO), (1, .int x1), (2, .int x2), (3, .int x3), (4, .int x4), (5, .int x5)] [] h Q := by
  refine eb_iload (pc := 6) (i := 5) rfl rfl ?_
  refine eb_bipush (pc := 8) (n := 64) (v := 64) rfl rfl ?_
  refine eb_icmp_ge (pc := 10) (tgt := 85) rfl (by decide) (fun c1 => ?_) (fun c1 => ?_)
  · replace w := w.1 c1
    refine eb_iload_n (pc := 85) (n := 3) (i := 3) rfl rfl rfl ?_
    have jj3 : eb_Sn d m_X11_tidingAt h0 95 [(0, .ref s_MO), (1, .int x1), (2, .int x2), (3, .int x3), (4, .int x4), (5, .int x5)] [.int (if 0 ≤ x3 then (-1) else x4 : Int32)] h Q := by
      exact eb_ireturn (pc := 95) rfl rfl rfl w
    refine eb_if_ge (pc := 86) (tgt := 94) rfl (by decide) (fun c2 => ?_) (fun c2 => ?_)
    · refine eb_iconst (pc := 94) (n := -1) (v := (-1)) rfl rfl ?_
      simp only [if_pos c2] at jj3 ⊢
      exact jj3
    · refine eb_iload (pc := 89) (i := 4) rfl rfl ?_
      refine eb_goto (pc := 91) (tgt := 95) rfl (by decide) ?_
      simp only [if_neg c2] at jj3 ⊢
      exact jj3
  · replace w := w.2 c1
    refine eb_aload_n (pc := 13) (n := 0) (i := 0) rfl rfl rfl ?_
    refine eb_getR (pc := 14) rfl rfl (by decide) (by decide) rfl (ko_s_MO_23 ko) ?_
    refine eb_bipush (pc := 17) (n := 64) (v := 64) rfl rfl ?_
    refine eb_aload_n (pc := 19) (n := 0) (i := 0) rfl rfl rfl ?_
    refine eb_getR (pc := 20) rfl rfl (by decide) (by decide) rfl (ko_s_MO_1 ko) ?_
    refine eb_bipush (pc := 23) (n := 27) (v := 27) rfl rfl ?_
    refine eb_iload_n (pc := 25) (n := 1) (i := 1) rfl rfl rfl ?_
    refine eb_iadd (pc := 26) rfl ?_
    obtain ⟨c4, w⟩ := w
    refine eb_iaload (pc := 27) rfl rfl c4 ?_
    refine eb_imul (pc := 28) rfl ?_
    refine eb_iload (pc := 29) (i := 5) rfl rfl ?_
    refine eb_iadd (pc := 31) rfl ?_
    obtain ⟨c5, w⟩ := w
    refine eb_zaload (pc := 32) rfl rfl c5 ?_
    refine eb_if_eq (pc := 33) (tgt := 79) rfl (by decide) (fun c6 => ?_) (fun c6 => ?_)
    · replace w := w.1 c6
      refine eb_iinc (pc := 79) (i := 5) (n := 1) (v := x5 + 1) (ls2 := [(5, .int (x5 + 1)), (0, .ref s_MO), (1, .int x1), (2, .int x2), (3, .int x3), (4, .int x4)]) (Nat.le_of_ble_eq_true rfl) rfl rfl rfl rfl ?_
      refine eb_goto (pc := 82) (tgt := 6) rfl (by decide) ?_
      exact eb_pick [1, 2, 3, 4, 5, 0] rfl w
    · replace w := w.2 c6
      refine eb_iload_n (pc := 36) (n := 2) (i := 2) rfl rfl rfl ?_
      refine eb_iconst (pc := 37) (n := -1) (v := (-1)) rfl rfl ?_
      refine eb_icmp_eq (pc := 38) (tgt := 67) rfl (by decide) (fun c7 => ?_) (fun c7 => ?_)
      · replace w := w.1 c7
        refine eb_iload (pc := 67) (i := 4) rfl rfl ?_
        refine eb_iload_n (pc := 69) (n := 3) (i := 3) rfl rfl rfl ?_
        refine eb_icmp_ne (pc := 70) (tgt := 76) rfl (by decide) (fun c8 => ?_) (fun c8 => ?_)
        · replace w := w.1 c8
          refine eb_iinc (pc := 76) (i := 4) (n := 1) (v := x4 + 1) (ls2 := [(4, .int (x4 + 1)), (0, .ref s_MO), (1, .int x1), (2, .int x2), (3, .int x3), (5, .int x5)]) (Nat.le_of_ble_eq_true rfl) rfl rfl rfl rfl ?_
          refine eb_iinc (pc := 79) (i := 5) (n := 1) (v := x5 + 1) (ls2 := [(5, .int (x5 + 1)), (4, .int (x4 + 1)), (0, .ref s_MO), (1, .int x1), (2, .int x2), (3, .int x3)]) (Nat.le_of_ble_eq_true rfl) rfl rfl rfl rfl ?_
          refine eb_goto (pc := 82) (tgt := 6) rfl (by decide) ?_
          exact eb_pick [2, 3, 4, 5, 1, 0] rfl w
        · replace w := w.2 c8
          refine eb_iload (pc := 73) (i := 5) rfl rfl ?_
          exact eb_ireturn (pc := 75) rfl rfl rfl w
      · replace w := w.2 c7
        refine eb_aload_n (pc := 41) (n := 0) (i := 0) rfl rfl rfl ?_
        refine eb_getR (pc := 42) rfl rfl (by decide) (by decide) rfl (ko_s_MO_23 ko) ?_
        refine eb_bipush (pc := 45) (n := 64) (v := 64) rfl rfl ?_
        refine eb_aload_n (pc := 47) (n := 0) (i := 0) rfl rfl rfl ?_
        refine eb_getR (pc := 48) rfl rfl (by decide) (by decide) rfl (ko_s_MO_1 ko) ?_
        refine eb_bipush (pc := 51) (n := 27) (v := 27) rfl rfl ?_
        refine eb_iload_n (pc := 53) (n := 2) (i := 2) rfl rfl rfl ?_
        refine eb_iadd (pc := 54) rfl ?_
        obtain ⟨c9, w⟩ := w
        refine eb_iaload (pc := 55) rfl rfl c9 ?_
        refine eb_imul (pc := 56) rfl ?_
        refine eb_iload (pc := 57) (i := 5) rfl rfl ?_
        refine eb_iadd (pc := 59) rfl ?_
        obtain ⟨c10, w⟩ := w
        refine eb_zaload (pc := 60) rfl rfl c10 ?_
        refine eb_if_eq (pc := 61) (tgt := 67) rfl (by decide) (fun c11 => ?_) (fun c11 => ?_)
        · replace w := w.1 c11
          refine eb_iload (pc := 67) (i := 4) rfl rfl ?_
          refine eb_iload_n (pc := 69) (n := 3) (i := 3) rfl rfl rfl ?_
          refine eb_icmp_ne (pc := 70) (tgt := 76) rfl (by decide) (fun c12 => ?_) (fun c12 => ?_)
          · replace w := w.1 c12
            refine eb_iinc (pc := 76) (i := 4) (n := 1) (v := x4 + 1) (ls2 := [(4, .int (x4 + 1)), (0, .ref s_MO), (1, .int x1), (2, .int x2), (3, .int x3), (5, .int x5)]) (Nat.le_of_ble_eq_true rfl) rfl rfl rfl rfl ?_
            refine eb_iinc (pc := 79) (i := 5) (n := 1) (v := x5 + 1) (ls2 := [(5, .int (x5 + 1)), (4, .int (x4 + 1)), (0, .ref s_MO), (1, .int x1), (2, .int x2), (3, .int x3)]) (Nat.le_of_ble_eq_true rfl) rfl rfl rfl rfl ?_
            refine eb_goto (pc := 82) (tgt := 6) rfl (by decide) ?_
            exact eb_pick [2, 3, 4, 5, 1, 0] rfl w
          · replace w := w.2 c12
            refine eb_iload (pc := 73) (i := 5) rfl rfl ?_
            exact eb_ireturn (pc := 75) rfl rfl rfl w
        · replace w := w.2 c11
          refine eb_goto (pc := 64) (tgt := 79) rfl (by decide) ?_
          refine eb_iinc (pc := 79) (i := 5) (n := 1) (v := x5 + 1) (ls2 := [(5, .int (x5 + 1)), (0, .ref s_MO), (1, .int x1), (2, .int x2), (3, .int x3), (4, .int x4)]) (Nat.le_of_ble_eq_true rfl) rfl rfl rfl rfl ?_
          refine eb_goto (pc := 82) (tgt := 6) rfl (by decide) ?_
          exact eb_pick [1, 2, 3, 4, 5, 0] rfl w
theorem T_X11_tidingAt {d : Nat} {h : eb_H} {Q : Option Value → eb_H → Prop} (x1 : Int32) (x2 : Int32) (x3 : Int32)  (ko : eb_KO h) (w : eb_Sn d m_X11_tidingAt h 6 [(0, .ref s_MO), (1, .int x1), (2, .int x2), (3, .int x3), (4, .int 0), (5, .int 0)] [] h Q) : eb_Ct d 245 [.ref s_MO, .int x1, .int x2, .int x3] h Q :=
  eb_bodyQ (by decide) ok_X11_tidingAt (Nat.le_of_ble_eq_true rfl) (b_X11_tidingAt_0 (h0 := h) x1 x2 x3  ko w)
theorem b_X11_tidings_0 {d : Nat} {h0 h : eb_H} {Q : Option Value → eb_H → Prop} (x1 : Int32)  (ko : eb_KO h) (w : eb_Ct d 192 [.ref s_MO, .int x1] (eb_sI h s_MO 0 0) (fun r h1 => ∃ y2, r = some (.int y2) ∧ eb_KO h1 ∧ ((¬ y2 = 0 → eb_Ct d 229 [.ref s_MO, .int (eb_I h1 s_m_all (50 : Int32).toNatClampNeg)] h1 (fun r h5 => r = none ∧ eb_KO h5 ∧ eb_Ct d 245 [.ref s_MO, .int x1, .int (-1), .int (-1)] h5 (fun r h8 => ∃ y9, r = some (.int y9) ∧ eb_KO h8 ∧ Q (some (.int y9)) h8))) ∧ (y2 = 0 → Q (some (.int (-2))) h1)))) : eb_Sn (d + 1) m_X11_tidings h0 0 [(0, .ref s_MO), (1, .int x1)] [] h Q := by
  refine eb_aload_n (pc := 0) (n := 0) (i := 0) rfl rfl rfl ?_
  refine eb_iconst (pc := 1) (n := 0) (v := 0) rfl rfl ?_
  refine eb_putI (pc := 2) rfl rfl (by decide) (by decide) rfl rfl ⟨rfl, rfl⟩ ?_
  refine eb_aload_n (pc := 5) (n := 0) (i := 0) rfl rfl rfl ?_
  refine eb_iload_n (pc := 6) (n := 1) (i := 1) rfl rfl rfl ?_
  refine eb_ctV (pc := 7) (As := [.int x1]) (rest := []) rfl (by decide) rfl rfl (by decide) rfl (Nat.le_of_ble_eq_true rfl) ?_
  refine eb_Ct.mono w ?_
  rintro r h1 ⟨y2, rfl, ko3, w⟩
  change eb_Sn _ _ _ 10 _ [.int y2] _ _
  refine eb_if_ne (pc := 10) (tgt := 16) rfl (by decide) (fun c4 => ?_) (fun c4 => ?_)
  · replace w := w.1 c4
    refine eb_aload_n (pc := 16) (n := 0) (i := 0) rfl rfl rfl ?_
    refine eb_aload_n (pc := 17) (n := 0) (i := 0) rfl rfl rfl ?_
    refine eb_getR (pc := 18) rfl rfl (by decide) (by decide) rfl (ko_s_MO_1 ko3) ?_
    refine eb_bipush (pc := 21) (n := 50) (v := 50) rfl rfl ?_
    refine eb_iaload (pc := 23) rfl rfl (by unfold vp_in; decide) ?_
    refine eb_ctV (pc := 24) (As := [.int (eb_I h1 s_m_all (50 : Int32).toNatClampNeg)]) (rest := []) rfl (by decide) rfl rfl (by decide) rfl (Nat.le_of_ble_eq_true rfl) ?_
    refine eb_Ct.mono w ?_
    rintro r h5 ⟨rfl, ko7, w⟩
    change eb_Sn _ _ _ 27 _ [] _ _
    refine eb_aload_n (pc := 27) (n := 0) (i := 0) rfl rfl rfl ?_
    refine eb_iload_n (pc := 28) (n := 1) (i := 1) rfl rfl rfl ?_
    refine eb_iconst (pc := 29) (n := -1) (v := (-1)) rfl rfl ?_
    refine eb_iconst (pc := 30) (n := -1) (v := (-1)) rfl rfl ?_
    refine eb_ctV (pc := 31) (As := [.int x1, .int (-1), .int (-1)]) (rest := []) rfl (by decide) rfl rfl (by decide) rfl (Nat.le_of_ble_eq_true rfl) ?_
    refine eb_Ct.mono w ?_
    rintro r h8 ⟨y9, rfl, ko10, w⟩
    change eb_Sn _ _ _ 34 _ [.int y9] _ _
    exact eb_ireturn (pc := 34) rfl rfl rfl w
  · replace w := w.2 c4
    refine eb_bipush (pc := 13) (n := -2) (v := (-2)) rfl rfl ?_
    exact eb_ireturn (pc := 15) rfl rfl rfl w
theorem T_X11_tidings {d : Nat} {h : eb_H} {Q : Option Value → eb_H → Prop} (x1 : Int32)  (ko : eb_KO h) (w : eb_Ct d 192 [.ref s_MO, .int x1] (eb_sI h s_MO 0 0) (fun r h1 => ∃ y2, r = some (.int y2) ∧ eb_KO h1 ∧ ((¬ y2 = 0 → eb_Ct d 229 [.ref s_MO, .int (eb_I h1 s_m_all (50 : Int32).toNatClampNeg)] h1 (fun r h5 => r = none ∧ eb_KO h5 ∧ eb_Ct d 245 [.ref s_MO, .int x1, .int (-1), .int (-1)] h5 (fun r h8 => ∃ y9, r = some (.int y9) ∧ eb_KO h8 ∧ Q (some (.int y9)) h8))) ∧ (y2 = 0 → Q (some (.int (-2))) h1)))) : eb_Ct (d + 1) 246 [.ref s_MO, .int x1] h Q :=
  eb_bodyQ (by decide) ok_X11_tidings (Nat.le_of_ble_eq_true rfl) (b_X11_tidings_0 (h0 := h) x1  ko w)
theorem b_X11_tiding_0 {d : Nat} {h0 h : eb_H} {Q : Option Value → eb_H → Prop} (x1 : Int32) (x2 : Int32)  (ko : eb_KO h) (w : eb_Ct d 192 [.ref s_MO, .int x1] (eb_sI h s_MO 0 0) (fun r h1 => ∃ y2, r = some (.int y2) ∧ eb_KO h1 ∧ ((¬ y2 = 0 → ((0 ≤ x2 → eb_Ct d 229 [.ref s_MO, .int (eb_I h1 s_m_all (50 : Int32).toNatClampNeg)] h1 (fun r h6 => r = none ∧ eb_KO h6 ∧ eb_Ct d 245 [.ref s_MO, .int x1, .int (-1), .int x2] h6 (fun r h9 => ∃ y10, r = some (.int y10) ∧ eb_KO h9 ∧ Q (some (.int y10)) h9))) ∧ (¬ (0 ≤ x2) → Q (some (.int (-3))) h1))) ∧ (y2 = 0 → Q (some (.int (-2))) h1)))) : eb_Sn (d + 1) m_X11_tiding h0 0 [(0, .ref s_MO), (1, .int x1), (2, .int x2)] [] h Q := by
  refine eb_aload_n (pc := 0) (n := 0) (i := 0) rfl rfl rfl ?_
  refine eb_iconst (pc := 1) (n := 0) (v := 0) rfl rfl ?_
  refine eb_putI (pc := 2) rfl rfl (by decide) (by decide) rfl rfl ⟨rfl, rfl⟩ ?_
  refine eb_aload_n (pc := 5) (n := 0) (i := 0) rfl rfl rfl ?_
  refine eb_iload_n (pc := 6) (n := 1) (i := 1) rfl rfl rfl ?_
  refine eb_ctV (pc := 7) (As := [.int x1]) (rest := []) rfl (by decide) rfl rfl (by decide) rfl (Nat.le_of_ble_eq_true rfl) ?_
  refine eb_Ct.mono w ?_
  rintro r h1 ⟨y2, rfl, ko3, w⟩
  change eb_Sn _ _ _ 10 _ [.int y2] _ _
  refine eb_if_ne (pc := 10) (tgt := 16) rfl (by decide) (fun c4 => ?_) (fun c4 => ?_)
  · replace w := w.1 c4
    refine eb_iload_n (pc := 16) (n := 2) (i := 2) rfl rfl rfl ?_
    refine eb_if_ge (pc := 17) (tgt := 23) rfl (by decide) (fun c5 => ?_) (fun c5 => ?_)
    · replace w := w.1 c5
      refine eb_aload_n (pc := 23) (n := 0) (i := 0) rfl rfl rfl ?_
      refine eb_aload_n (pc := 24) (n := 0) (i := 0) rfl rfl rfl ?_
      refine eb_getR (pc := 25) rfl rfl (by decide) (by decide) rfl (ko_s_MO_1 ko3) ?_
      refine eb_bipush (pc := 28) (n := 50) (v := 50) rfl rfl ?_
      refine eb_iaload (pc := 30) rfl rfl (by unfold vp_in; decide) ?_
      refine eb_ctV (pc := 31) (As := [.int (eb_I h1 s_m_all (50 : Int32).toNatClampNeg)]) (rest := []) rfl (by decide) rfl rfl (by decide) rfl (Nat.le_of_ble_eq_true rfl) ?_
      refine eb_Ct.mono w ?_
      rintro r h6 ⟨rfl, ko8, w⟩
      change eb_Sn _ _ _ 34 _ [] _ _
      refine eb_aload_n (pc := 34) (n := 0) (i := 0) rfl rfl rfl ?_
      refine eb_iload_n (pc := 35) (n := 1) (i := 1) rfl rfl rfl ?_
      refine eb_iconst (pc := 36) (n := -1) (v := (-1)) rfl rfl ?_
      refine eb_iload_n (pc := 37) (n := 2) (i := 2) rfl rfl rfl ?_
      refine eb_ctV (pc := 38) (As := [.int x1, .int (-1), .int x2]) (rest := []) rfl (by decide) rfl rfl (by decide) rfl (Nat.le_of_ble_eq_true rfl) ?_
      refine eb_Ct.mono w ?_
      rintro r h9 ⟨y10, rfl, ko11, w⟩
      change eb_Sn _ _ _ 41 _ [.int y10] _ _
      exact eb_ireturn (pc := 41) rfl rfl rfl w
    · replace w := w.2 c5
      refine eb_bipush (pc := 20) (n := -3) (v := (-3)) rfl rfl ?_
      exact eb_ireturn (pc := 22) rfl rfl rfl w
  · replace w := w.2 c4
    refine eb_bipush (pc := 13) (n := -2) (v := (-2)) rfl rfl ?_
    exact eb_ireturn (pc := 15) rfl rfl rfl w
theorem T_X11_tiding {d : Nat} {h : eb_H} {Q : Option Value → eb_H → Prop} (x1 : Int32) (x2 : Int32)  (ko : eb_KO h) (w : eb_Ct d 192 [.ref s_MO, .int x1] (eb_sI h s_MO 0 0) (fun r h1 => ∃ y2, r = some (.int y2) ∧ eb_KO h1 ∧ ((¬ y2 = 0 → ((0 ≤ x2 → eb_Ct d 229 [.ref s_MO, .int (eb_I h1 s_m_all (50 : Int32).toNatClampNeg)] h1 (fun r h6 => r = none ∧ eb_KO h6 ∧ eb_Ct d 245 [.ref s_MO, .int x1, .int (-1), .int x2] h6 (fun r h9 => ∃ y10, r = some (.int y10) ∧ eb_KO h9 ∧ Q (some (.int y10)) h9))) ∧ (¬ (0 ≤ x2) → Q (some (.int (-3))) h1))) ∧ (y2 = 0 → Q (some (.int (-2))) h1)))) : eb_Ct (d + 1) 247 [.ref s_MO, .int x1, .int x2] h Q :=
  eb_bodyQ (by decide) ok_X11_tiding (Nat.le_of_ble_eq_true rfl) (b_X11_tiding_0 (h0 := h) x1 x2  ko w)
theorem b_X11_secret_0 {d : Nat} {h0 h : eb_H} {Q : Option Value → eb_H → Prop} (x1 : Int32) (x2 : Int32)  (ko : eb_KO h) (w : eb_Ct d 192 [.ref s_MO, .int x1] (eb_sI h s_MO 0 0) (fun r h1 => ∃ y2, r = some (.int y2) ∧ eb_KO h1 ∧ ((y2 = 0 → Q (some (.int (-2))) h1) ∧ (¬ (y2 = 0) → eb_Ct d 192 [.ref s_MO, .int x2] h1 (fun r h5 => ∃ y6, r = some (.int y6) ∧ eb_KO h5 ∧ ((¬ y6 = 0 → eb_Ct d 229 [.ref s_MO, .int (eb_I h5 s_m_all (50 : Int32).toNatClampNeg)] h5 (fun r h9 => r = none ∧ eb_KO h9 ∧ eb_Ct d 245 [.ref s_MO, .int x1, .int x2, .int (-1)] h9 (fun r h12 => ∃ y13, r = some (.int y13) ∧ eb_KO h12 ∧ Q (some (.int y13)) h12))) ∧ (y6 = 0 → Q (some (.int (-2))) h5))))))) : eb_Sn (d + 1) m_X11_secret h0 0 [(0, .ref s_MO), (1, .int x1), (2, .int x2)] [] h Q := by
  refine eb_aload_n (pc := 0) (n := 0) (i := 0) rfl rfl rfl ?_
  refine eb_iconst (pc := 1) (n := 0) (v := 0) rfl rfl ?_
  refine eb_putI (pc := 2) rfl rfl (by decide) (by decide) rfl rfl ⟨rfl, rfl⟩ ?_
  refine eb_aload_n (pc := 5) (n := 0) (i := 0) rfl rfl rfl ?_
  refine eb_iload_n (pc := 6) (n := 1) (i := 1) rfl rfl rfl ?_
  refine eb_ctV (pc := 7) (As := [.int x1]) (rest := []) rfl (by decide) rfl rfl (by decide) rfl (Nat.le_of_ble_eq_true rfl) ?_
  refine eb_Ct.mono w ?_
  rintro r h1 ⟨y2, rfl, ko3, w⟩
  change eb_Sn _ _ _ 10 _ [.int y2] _ _
  refine eb_if_eq (pc := 10) (tgt := 21) rfl (by decide) (fun c4 => ?_) (fun c4 => ?_)
  · replace w := w.1 c4
    refine eb_bipush (pc := 21) (n := -2) (v := (-2)) rfl rfl ?_
    exact eb_ireturn (pc := 23) rfl rfl rfl w
  · replace w := w.2 c4
    refine eb_aload_n (pc := 13) (n := 0) (i := 0) rfl rfl rfl ?_
    refine eb_iload_n (pc := 14) (n := 2) (i := 2) rfl rfl rfl ?_
    refine eb_ctV (pc := 15) (As := [.int x2]) (rest := []) rfl (by decide) rfl rfl (by decide) rfl (Nat.le_of_ble_eq_true rfl) ?_
    refine eb_Ct.mono w ?_
    rintro r h5 ⟨y6, rfl, ko7, w⟩
    change eb_Sn _ _ _ 18 _ [.int y6] _ _
    refine eb_if_ne (pc := 18) (tgt := 24) rfl (by decide) (fun c8 => ?_) (fun c8 => ?_)
    · replace w := w.1 c8
      refine eb_aload_n (pc := 24) (n := 0) (i := 0) rfl rfl rfl ?_
      refine eb_aload_n (pc := 25) (n := 0) (i := 0) rfl rfl rfl ?_
      refine eb_getR (pc := 26) rfl rfl (by decide) (by decide) rfl (ko_s_MO_1 ko7) ?_
      refine eb_bipush (pc := 29) (n := 50) (v := 50) rfl rfl ?_
      refine eb_iaload (pc := 31) rfl rfl (by unfold vp_in; decide) ?_
      refine eb_ctV (pc := 32) (As := [.int (eb_I h5 s_m_all (50 : Int32).toNatClampNeg)]) (rest := []) rfl (by decide) rfl rfl (by decide) rfl (Nat.le_of_ble_eq_true rfl) ?_
      refine eb_Ct.mono w ?_
      rintro r h9 ⟨rfl, ko11, w⟩
      change eb_Sn _ _ _ 35 _ [] _ _
      refine eb_aload_n (pc := 35) (n := 0) (i := 0) rfl rfl rfl ?_
      refine eb_iload_n (pc := 36) (n := 1) (i := 1) rfl rfl rfl ?_
      refine eb_iload_n (pc := 37) (n := 2) (i := 2) rfl rfl rfl ?_
      refine eb_iconst (pc := 38) (n := -1) (v := (-1)) rfl rfl ?_
      refine eb_ctV (pc := 39) (As := [.int x1, .int x2, .int (-1)]) (rest := []) rfl (by decide) rfl rfl (by decide) rfl (Nat.le_of_ble_eq_true rfl) ?_
      refine eb_Ct.mono w ?_
      rintro r h12 ⟨y13, rfl, ko14, w⟩
      change eb_Sn _ _ _ 42 _ [.int y13] _ _
      exact eb_ireturn (pc := 42) rfl rfl rfl w
    · replace w := w.2 c8
      refine eb_bipush (pc := 21) (n := -2) (v := (-2)) rfl rfl ?_
      exact eb_ireturn (pc := 23) rfl rfl rfl w
theorem T_X11_secret {d : Nat} {h : eb_H} {Q : Option Value → eb_H → Prop} (x1 : Int32) (x2 : Int32)  (ko : eb_KO h) (w : eb_Ct d 192 [.ref s_MO, .int x1] (eb_sI h s_MO 0 0) (fun r h1 => ∃ y2, r = some (.int y2) ∧ eb_KO h1 ∧ ((y2 = 0 → Q (some (.int (-2))) h1) ∧ (¬ (y2 = 0) → eb_Ct d 192 [.ref s_MO, .int x2] h1 (fun r h5 => ∃ y6, r = some (.int y6) ∧ eb_KO h5 ∧ ((¬ y6 = 0 → eb_Ct d 229 [.ref s_MO, .int (eb_I h5 s_m_all (50 : Int32).toNatClampNeg)] h5 (fun r h9 => r = none ∧ eb_KO h9 ∧ eb_Ct d 245 [.ref s_MO, .int x1, .int x2, .int (-1)] h9 (fun r h12 => ∃ y13, r = some (.int y13) ∧ eb_KO h12 ∧ Q (some (.int y13)) h12))) ∧ (y6 = 0 → Q (some (.int (-2))) h5))))))) : eb_Ct (d + 1) 248 [.ref s_MO, .int x1, .int x2] h Q :=
  eb_bodyQ (by decide) ok_X11_secret (Nat.le_of_ble_eq_true rfl) (b_X11_secret_0 (h0 := h) x1 x2  ko w)
theorem b_X11_noCame_0 {d : Nat} {h0 h : eb_H} {Q : Option Value → eb_H → Prop} (x1 : Int32) (x2 : Int32) (x3 : Int32)  (ko : eb_KO h) (w : eb_Ct d 191 [.ref s_MO, .long x2.toInt64] h (fun r h1 => ∃ y2, r = some (.int y2) ∧ eb_KO h1 ∧ ((¬ y2 = 0 → eb_Ct d 156 [.long x1.toInt64, .long 0, .long 10] h1 (fun r h5 => ∃ y6, r = some (.int y6) ∧ eb_KO h5 ∧ ((y6 = 0 → Q (some (.int (-3))) h5) ∧ (¬ (y6 = 0) → eb_Ct d 193 [.int x3] h5 (fun r h9 => ∃ y10, r = some (.int y10) ∧ eb_KO h9 ∧ Q (some (.int (if y10 = 0 then (-3) else 0 : Int32))) h9))))) ∧ (y2 = 0 → Q (some (.int (-2))) h1)))) : eb_Sn (d + 1) m_X11_noCame h0 0 [(0, .ref s_MO), (1, .int x1), (2, .int x2), (3, .int x3)] [] h Q := by
  refine eb_aload_n (pc := 0) (n := 0) (i := 0) rfl rfl rfl ?_
  refine eb_iload_n (pc := 1) (n := 2) (i := 2) rfl rfl rfl ?_
  refine eb_i2l (pc := 2) rfl ?_
  refine eb_ctV (pc := 3) (As := [.long x2.toInt64]) (rest := []) rfl (by decide) rfl rfl (by decide) rfl (Nat.le_of_ble_eq_true rfl) ?_
  refine eb_Ct.mono w ?_
  rintro r h1 ⟨y2, rfl, ko3, w⟩
  change eb_Sn _ _ _ 6 _ [.int y2] _ _
  refine eb_if_ne (pc := 6) (tgt := 14) rfl (by decide) (fun c4 => ?_) (fun c4 => ?_)
  · replace w := w.1 c4
    refine eb_iload_n (pc := 14) (n := 1) (i := 1) rfl rfl rfl ?_
    refine eb_i2l (pc := 15) rfl ?_
    refine eb_lconst (pc := 16) (n := 0) (v := 0) rfl rfl ?_
    refine eb_ldc2 (pc := 17) (a := 10) (v := 10) rfl (by decide) ?_
    refine eb_ctS (pc := 20) (As := [.long x1.toInt64, .long 0, .long 10]) (rest := []) rfl (by decide) (by decide) rfl rfl (Nat.le_of_ble_eq_true rfl) ?_
    refine eb_Ct.mono w ?_
    rintro r h5 ⟨y6, rfl, ko7, w⟩
    change eb_Sn _ _ _ 23 _ [.int y6] _ _
    refine eb_if_eq (pc := 23) (tgt := 37) rfl (by decide) (fun c8 => ?_) (fun c8 => ?_)
    · replace w := w.1 c8
      refine eb_bipush (pc := 37) (n := -3) (v := (-3)) rfl rfl ?_
      exact eb_ireturn (pc := 39) rfl rfl rfl w
    · replace w := w.2 c8
      refine eb_iload_n (pc := 26) (n := 3) (i := 3) rfl rfl rfl ?_
      refine eb_ctS (pc := 27) (As := [.int x3]) (rest := []) rfl (by decide) (by decide) rfl rfl (Nat.le_of_ble_eq_true rfl) ?_
      refine eb_Ct.mono w ?_
      rintro r h9 ⟨y10, rfl, ko11, w⟩
      change eb_Sn _ _ _ 30 _ [.int y10] _ _
      have jj13 : eb_Sn (d + 1) m_X11_noCame h0 39 [(0, .ref s_MO), (1, .int x1), (2, .int x2), (3, .int x3)] [.int (if y10 = 0 then (-3) else 0 : Int32)] h9 Q := by
        exact eb_ireturn (pc := 39) rfl rfl rfl w
      refine eb_if_eq (pc := 30) (tgt := 37) rfl (by decide) (fun c12 => ?_) (fun c12 => ?_)
      · refine eb_bipush (pc := 37) (n := -3) (v := (-3)) rfl rfl ?_
        simp only [if_pos c12] at jj13 ⊢
        exact jj13
      · refine eb_iconst (pc := 33) (n := 0) (v := 0) rfl rfl ?_
        refine eb_goto (pc := 34) (tgt := 39) rfl (by decide) ?_
        simp only [if_neg c12] at jj13 ⊢
        exact jj13
  · replace w := w.2 c4
    refine eb_bipush (pc := 9) (n := -2) (v := (-2)) rfl rfl ?_
    refine eb_goto (pc := 11) (tgt := 39) rfl (by decide) ?_
    exact eb_ireturn (pc := 39) rfl rfl rfl w
theorem T_X11_noCame {d : Nat} {h : eb_H} {Q : Option Value → eb_H → Prop} (x1 : Int32) (x2 : Int32) (x3 : Int32)  (ko : eb_KO h) (w : eb_Ct d 191 [.ref s_MO, .long x2.toInt64] h (fun r h1 => ∃ y2, r = some (.int y2) ∧ eb_KO h1 ∧ ((¬ y2 = 0 → eb_Ct d 156 [.long x1.toInt64, .long 0, .long 10] h1 (fun r h5 => ∃ y6, r = some (.int y6) ∧ eb_KO h5 ∧ ((y6 = 0 → Q (some (.int (-3))) h5) ∧ (¬ (y6 = 0) → eb_Ct d 193 [.int x3] h5 (fun r h9 => ∃ y10, r = some (.int y10) ∧ eb_KO h9 ∧ Q (some (.int (if y10 = 0 then (-3) else 0 : Int32))) h9))))) ∧ (y2 = 0 → Q (some (.int (-2))) h1)))) : eb_Ct (d + 1) 249 [.ref s_MO, .int x1, .int x2, .int x3] h Q :=
  eb_bodyQ (by decide) ok_X11_noCame (Nat.le_of_ble_eq_true rfl) (b_X11_noCame_0 (h0 := h) x1 x2 x3  ko w)
theorem b_X11_laysCame_0 {d : Nat} {h0 h : eb_H} {Q : Option Value → eb_H → Prop} (x1 : Int32) (x2 : Int32) (x3 : Int32) (x4 : Int32)  (ko : eb_KO h) (w : eb_Ct d 227 [.ref s_MO, .int (eb_I h s_m_all (50 : Int32).toNatClampNeg)] h (fun r h1 => r = none ∧ eb_KO h1 ∧ eb_Sn (d + 1) m_X11_laysCame h0 14 [(0, .ref s_MO), (1, .int x1), (2, .int x2), (3, .int x3), (4, .int x4), (5, .int 0)] [] h1 Q)) : eb_Sn (d + 1) m_X11_laysCame h0 0 [(0, .ref s_MO), (1, .int x1), (2, .int x2), (3, .int x3), (4, .int x4)] [] h Q := by
  refine eb_aload_n (pc := 0) (n := 0) (i := 0) rfl rfl rfl ?_
  refine eb_aload_n (pc := 1) (n := 0) (i := 0) rfl rfl rfl ?_
  refine eb_getR (pc := 2) rfl rfl (by decide) (by decide) rfl (ko_s_MO_1 ko) ?_
  refine eb_bipush (pc := 5) (n := 50) (v := 50) rfl rfl ?_
  refine eb_iaload (pc := 7) rfl rfl (by unfold vp_in; decide) ?_
  refine eb_ctV (pc := 8) (As := [.int (eb_I h s_m_all (50 : Int32).toNatClampNeg)]) (rest := []) rfl (by decide) rfl rfl (by decide) rfl (Nat.le_of_ble_eq_true rfl) ?_
  refine eb_Ct.mono w ?_
  rintro r h1 ⟨rfl, ko3, w⟩
  change eb_Sn _ _ _ 11 _ [] _ _
  refine eb_iconst (pc := 11) (n := 0) (v := 0) rfl rfl ?_
  refine eb_istore (pc := 12) (i := 5) (ls2 := [(5, .int 0), (0, .ref s_MO), (1, .int x1), (2, .int x2), (3, .int x3), (4, .int x4)]) (Nat.le_of_ble_eq_true rfl) rfl rfl ?_
  exact eb_pick [1, 2, 3, 4, 5, 0] rfl w
theorem b_X11_laysCame_14 {d : Nat} {h0 h : eb_H} {Q : Option Value → eb_H → Prop} (x1 : Int32) (x2 : Int32) (x3 : Int32) (x4 : Int32) (x5 : Int32)  (ko : eb_KO h) (w : eb_Ct d 228 [.ref s_MO] h (fun r h1 => ∃ y2, r = some (.int y2) ∧ eb_KO h1 ∧ ((y2 ≤ x5 → eb_Sn (d + 1) m_X11_laysCame h0 55 [(0, .ref s_MO), (1, .int x1), (4, .int x4), (5, .int 1)] [] h1 Q) ∧ (¬ (y2 ≤ x5) → (vp_in x5 11264) ∧ eb_Sn (d + 1) m_X11_laysCame h0 14 [(0, .ref s_MO), (1, .int x1), (2, .int x2), (3, .int x3), (4, .int x4), (5, .int (x5 + 1))] [] (eb_sJ h1 s_m_still x5.toNatClampNeg (if x5 = (((64 : Int32) * x2) + x3) then 1 else 0 : Int64)) Q)))) : eb_Sn (d + 1) m_X11_laysCame h0 14 [(0, .ref s_MO), (1, .int x1), (2, .int x2), (3, .int x3), (4, .int x4), (5, .int x5)] [] h Q := by
  refine eb_iload (pc := 14) (i := 5) rfl rfl ?_
  refine eb_aload_n (pc := 16) (n := 0) (i := 0) rfl rfl rfl ?_
  refine eb_ctV (pc := 17) (As := []) (rest := [.int x5]) rfl (by decide) rfl rfl (by decide) rfl (Nat.le_of_ble_eq_true rfl) ?_
  refine eb_Ct.mono w ?_
  rintro r h1 ⟨y2, rfl, ko3, w⟩
  change eb_Sn _ _ _ 20 _ [.int y2, .int x5] _ _
  refine eb_icmp_ge (pc := 20) (tgt := 52) rfl (by decide) (fun c4 => ?_) (fun c4 => ?_)
  · replace w := w.1 c4
    refine eb_iconst (pc := 52) (n := 1) (v := 1) rfl rfl ?_
    refine eb_istore (pc := 53) (i := 5) (ls2 := [(5, .int 1), (0, .ref s_MO), (1, .int x1), (2, .int x2), (3, .int x3), (4, .int x4)]) (Nat.le_of_ble_eq_true rfl) rfl rfl ?_
    exact eb_pick [1, 2, 5, 0] rfl w
  · replace w := w.2 c4
    refine eb_aload_n (pc := 23) (n := 0) (i := 0) rfl rfl rfl ?_
    refine eb_getR (pc := 24) rfl rfl (by decide) (by decide) rfl (ko_s_MO_26 ko3) ?_
    refine eb_iload (pc := 27) (i := 5) rfl rfl ?_
    refine eb_iload (pc := 29) (i := 5) rfl rfl ?_
    refine eb_bipush (pc := 31) (n := 64) (v := 64) rfl rfl ?_
    refine eb_iload_n (pc := 33) (n := 2) (i := 2) rfl rfl rfl ?_
    refine eb_imul (pc := 34) rfl ?_
    refine eb_iload_n (pc := 35) (n := 3) (i := 3) rfl rfl rfl ?_
    refine eb_iadd (pc := 36) rfl ?_
    have jj7 : eb_Sn (d + 1) m_X11_laysCame h0 45 [(0, .ref s_MO), (1, .int x1), (2, .int x2), (3, .int x3), (4, .int x4), (5, .int x5)] [.long (if x5 = (((64 : Int32) * x2) + x3) then 1 else 0 : Int64), .int x5, .ref s_m_still] h1 Q := by
      obtain ⟨c6, w⟩ := w
      refine eb_lastore (pc := 45) rfl rfl c6 ?_
      refine eb_iinc (pc := 46) (i := 5) (n := 1) (v := x5 + 1) (ls2 := [(5, .int (x5 + 1)), (0, .ref s_MO), (1, .int x1), (2, .int x2), (3, .int x3), (4, .int x4)]) (Nat.le_of_ble_eq_true rfl) rfl rfl rfl rfl ?_
      refine eb_goto (pc := 49) (tgt := 14) rfl (by decide) ?_
      exact eb_pick [1, 2, 3, 4, 5, 0] rfl w
    refine eb_icmp_ne (pc := 37) (tgt := 44) rfl (by decide) (fun c5 => ?_) (fun c5 => ?_)
    · refine eb_lconst (pc := 44) (n := 0) (v := 0) rfl rfl ?_
      simp only [if_neg c5] at jj7 ⊢
      exact jj7
    · refine eb_lconst (pc := 40) (n := 1) (v := 1) rfl rfl ?_
      refine eb_goto (pc := 41) (tgt := 45) rfl (by decide) ?_
      simp only [if_pos c5] at jj7 ⊢
      exact jj7
theorem b_X11_laysCame_55 {d : Nat} {h0 h : eb_H} {Q : Option Value → eb_H → Prop} (x1 : Int32) (x4 : Int32) (x5 : Int32)  (ko : eb_KO h) (w : ((x1 < x5 → eb_Ct d 195 [.ref s_MO] h (fun r h2 => ∃ y3, r = some (.int y3) ∧ eb_KO h2 ∧ (vp_in (((1024 : Int32) * x1) + y3) 11264) ∧ Q (some (.long (eb_J h2 s_m_still (((1024 : Int32) * x1) + y3).toNatClampNeg))) h2)) ∧ (¬ (x1 < x5) → eb_Sn (d + 1) m_X11_laysCame h0 64 [(0, .ref s_MO), (1, .int x1), (4, .int x4), (5, .int x5), (6, .int 0)] [] h Q))) : eb_Sn (d + 1) m_X11_laysCame h0 55 [(0, .ref s_MO), (1, .int x1), (4, .int x4), (5, .int x5)] [] h Q := by
  refine eb_iload (pc := 55) (i := 5) rfl rfl ?_
  refine eb_iload_n (pc := 57) (n := 1) (i := 1) rfl rfl rfl ?_
  refine eb_icmp_gt (pc := 58) (tgt := 170) rfl (by decide) (fun c1 => ?_) (fun c1 => ?_)
  · replace w := w.1 c1
    refine eb_aload_n (pc := 170) (n := 0) (i := 0) rfl rfl rfl ?_
    refine eb_getR (pc := 171) rfl rfl (by decide) (by decide) rfl (ko_s_MO_26 ko) ?_
    refine eb_sipush (pc := 174) (n := 1024) (v := 1024) rfl rfl ?_
    refine eb_iload_n (pc := 177) (n := 1) (i := 1) rfl rfl rfl ?_
    refine eb_imul (pc := 178) rfl ?_
    refine eb_aload_n (pc := 179) (n := 0) (i := 0) rfl rfl rfl ?_
    refine eb_ctV (pc := 180) (As := []) (rest := [.int ((1024 : Int32) * x1), .ref s_m_still]) rfl (by decide) rfl rfl (by decide) rfl (Nat.le_of_ble_eq_true rfl) ?_
    refine eb_Ct.mono w ?_
    rintro r h2 ⟨y3, rfl, ko4, w⟩
    change eb_Sn _ _ _ 183 _ [.int y3, .int ((1024 : Int32) * x1), .ref s_m_still] _ _
    refine eb_iadd (pc := 183) rfl ?_
    obtain ⟨c5, w⟩ := w
    refine eb_laload (pc := 184) rfl rfl c5 ?_
    exact eb_lreturn (pc := 185) rfl rfl w
  · replace w := w.2 c1
    refine eb_iconst (pc := 61) (n := 0) (v := 0) rfl rfl ?_
    refine eb_istore (pc := 62) (i := 6) (ls2 := [(6, .int 0), (0, .ref s_MO), (1, .int x1), (4, .int x4), (5, .int x5)]) (Nat.le_of_ble_eq_true rfl) rfl rfl ?_
    exact eb_pick [1, 2, 3, 4, 0] rfl w
theorem b_X11_laysCame_64 {d : Nat} {h0 h : eb_H} {Q : Option Value → eb_H → Prop} (x1 : Int32) (x4 : Int32) (x5 : Int32) (x6 : Int32)  (ko : eb_KO h) (w : eb_Ct d 228 [.ref s_MO] h (fun r h1 => ∃ y2, r = some (.int y2) ∧ eb_KO h1 ∧ ((y2 ≤ x6 → eb_Sn (d + 1) m_X11_laysCame h0 55 [(0, .ref s_MO), (1, .int x1), (4, .int x4), (5, .int (x5 + 1))] [] h1 Q) ∧ (¬ (y2 ≤ x6) → eb_Sn (d + 1) m_X11_laysCame h0 79 [(0, .ref s_MO), (1, .int x1), (4, .int x4), (5, .int x5), (6, .int x6), (7, .long 0), (9, .int 0)] [] h1 Q)))) : eb_Sn (d + 1) m_X11_laysCame h0 64 [(0, .ref s_MO), (1, .int x1), (4, .int x4), (5, .int x5), (6, .int x6)] [] h Q := by
  refine eb_iload (pc := 64) (i := 6) rfl rfl ?_
  refine eb_aload_n (pc := 66) (n := 0) (i := 0) rfl rfl rfl ?_
  refine eb_ctV (pc := 67) (As := []) (rest := [.int x6]) rfl (by decide) rfl rfl (by decide) rfl (Nat.le_of_ble_eq_true rfl) ?_
  refine eb_Ct.mono w ?_
  rintro r h1 ⟨y2, rfl, ko3, w⟩
  change eb_Sn _ _ _ 70 _ [.int y2, .int x6] _ _
  refine eb_icmp_ge (pc := 70) (tgt := 164) rfl (by decide) (fun c4 => ?_) (fun c4 => ?_)
  · replace w := w.1 c4
    refine eb_iinc (pc := 164) (i := 5) (n := 1) (v := x5 + 1) (ls2 := [(5, .int (x5 + 1)), (0, .ref s_MO), (1, .int x1), (4, .int x4), (6, .int x6)]) (Nat.le_of_ble_eq_true rfl) rfl rfl rfl rfl ?_
    refine eb_goto (pc := 167) (tgt := 55) rfl (by decide) ?_
    exact eb_pick [1, 2, 3, 0] rfl w
  · replace w := w.2 c4
    refine eb_lconst (pc := 73) (n := 0) (v := 0) rfl rfl ?_
    refine eb_lstore (pc := 74) (i := 7) (ls2 := [(7, .long 0), (0, .ref s_MO), (1, .int x1), (4, .int x4), (5, .int x5), (6, .int x6)]) (Nat.le_of_ble_eq_true rfl) rfl rfl ?_
    refine eb_iconst (pc := 76) (n := 0) (v := 0) rfl rfl ?_
    refine eb_istore (pc := 77) (i := 9) (ls2 := [(9, .int 0), (7, .long 0), (0, .ref s_MO), (1, .int x1), (4, .int x4), (5, .int x5), (6, .int x6)]) (Nat.le_of_ble_eq_true rfl) rfl rfl ?_
    exact eb_pick [2, 3, 4, 5, 6, 1, 0] rfl w
theorem b_X11_laysCame_79 {d : Nat} {h0 h : eb_H} {Q : Option Value → eb_H → Prop} (x1 : Int32) (x4 : Int32) (x5 : Int32) (x6 : Int32) (x7 : Int64) (x9 : Int32)  (ko : eb_KO h) (w : (((4 : Int32) ≤ x9 → (vp_in (((1024 : Int32) * x5) + x6) 11264) ∧ eb_Sn (d + 1) m_X11_laysCame h0 64 [(0, .ref s_MO), (1, .int x1), (4, .int x4), (5, .int x5), (6, .int (x6 + 1))] [] (eb_sJ h s_m_still (((1024 : Int32) * x5) + x6).toNatClampNeg x7) Q) ∧ (¬ ((4 : Int32) ≤ x9) → (vp_in (((4 : Int32) * x6) + x9) 4096) ∧ (((eb_I h s_m_then (((4 : Int32) * x6) + x9).toNatClampNeg) = ((-1) : Int32) → eb_Sn (d + 1) m_X11_laysCame h0 79 [(0, .ref s_MO), (1, .int x1), (4, .int x4), (5, .int x5), (6, .int x6), (7, .long x7), (9, .int (x9 + 1))] [] h Q) ∧ (¬ ((eb_I h s_m_then (((4 : Int32) * x6) + x9).toNatClampNeg) = ((-1) : Int32)) → ((((eb_I h s_m_then (((4 : Int32) * x6) + x9).toNatClampNeg) / 64) = x4 → eb_Sn (d + 1) m_X11_laysCame h0 79 [(0, .ref s_MO), (1, .int x1), (4, .int x4), (5, .int x5), (6, .int x6), (7, .long x7), (9, .int (x9 + 1))] [] h Q) ∧ (¬ (((eb_I h s_m_then (((4 : Int32) * x6) + x9).toNatClampNeg) / 64) = x4) → (vp_in (((1024 : Int32) * (x5 - 1)) + (eb_I h s_m_then (((4 : Int32) * x6) + x9).toNatClampNeg)) 11264) ∧ eb_Sn (d + 1) m_X11_laysCame h0 79 [(0, .ref s_MO), (1, .int x1), (4, .int x4), (5, .int x5), (6, .int x6), (7, .long (x7 + (eb_J h s_m_still (((1024 : Int32) * (x5 - 1)) + (eb_I h s_m_then (((4 : Int32) * x6) + x9).toNatClampNeg)).toNatClampNeg))), (9, .int (x9 + 1))] [] h Q))))))) : eb_Sn (d + 1) m_X11_laysCame h0 79 [(0, .ref s_MO), (1, .int x1), (4, .int x4), (5, .int x5), (6, .int x6), (7, .long x7), (9, .int x9)] [] h Q := by
  refine eb_iload (pc := 79) (i := 9) rfl rfl ?_
  refine eb_iconst (pc := 81) (n := 4) (v := 4) rfl rfl ?_
  refine eb_icmp_ge (pc := 82) (tgt := 142) rfl (by decide) (fun c1 => ?_) (fun c1 => ?_)
  · replace w := w.1 c1
    refine eb_aload_n (pc := 142) (n := 0) (i := 0) rfl rfl rfl ?_
    refine eb_getR (pc := 143) rfl rfl (by decide) (by decide) rfl (ko_s_MO_26 ko) ?_
    refine eb_sipush (pc := 146) (n := 1024) (v := 1024) rfl rfl ?_
    refine eb_iload (pc := 149) (i := 5) rfl rfl ?_
    refine eb_imul (pc := 151) rfl ?_
    refine eb_iload (pc := 152) (i := 6) rfl rfl ?_
    refine eb_iadd (pc := 154) rfl ?_
    refine eb_lload (pc := 155) (i := 7) rfl rfl ?_
    obtain ⟨c2, w⟩ := w
    refine eb_lastore (pc := 157) rfl rfl c2 ?_
    refine eb_iinc (pc := 158) (i := 6) (n := 1) (v := x6 + 1) (ls2 := [(6, .int (x6 + 1)), (0, .ref s_MO), (1, .int x1), (4, .int x4), (5, .int x5), (7, .long x7), (9, .int x9)]) (Nat.le_of_ble_eq_true rfl) rfl rfl rfl rfl ?_
    refine eb_goto (pc := 161) (tgt := 64) rfl (by decide) ?_
    exact eb_pick [1, 2, 3, 4, 0] rfl w
  · replace w := w.2 c1
    refine eb_aload_n (pc := 85) (n := 0) (i := 0) rfl rfl rfl ?_
    refine eb_getR (pc := 86) rfl rfl (by decide) (by decide) rfl (ko_s_MO_21 ko) ?_
    refine eb_iconst (pc := 89) (n := 4) (v := 4) rfl rfl ?_
    refine eb_iload (pc := 90) (i := 6) rfl rfl ?_
    refine eb_imul (pc := 92) rfl ?_
    refine eb_iload (pc := 93) (i := 9) rfl rfl ?_
    refine eb_iadd (pc := 95) rfl ?_
    obtain ⟨c3, w⟩ := w
    refine eb_iaload (pc := 96) rfl rfl c3 ?_
    refine eb_istore (pc := 97) (i := 10) (ls2 := [(10, .int (eb_I h s_m_then (((4 : Int32) * x6) + x9).toNatClampNeg)), (0, .ref s_MO), (1, .int x1), (4, .int x4), (5, .int x5), (6, .int x6), (7, .long x7), (9, .int x9)]) (Nat.le_of_ble_eq_true rfl) rfl rfl ?_
    refine eb_iload (pc := 99) (i := 10) rfl rfl ?_
    refine eb_iconst (pc := 101) (n := -1) (v := (-1)) rfl rfl ?_
    refine eb_icmp_eq (pc := 102) (tgt := 136) rfl (by decide) (fun c4 => ?_) (fun c4 => ?_)
    · replace w := w.1 c4
      refine eb_iinc (pc := 136) (i := 9) (n := 1) (v := x9 + 1) (ls2 := [(9, .int (x9 + 1)), (10, .int (eb_I h s_m_then (((4 : Int32) * x6) + x9).toNatClampNeg)), (0, .ref s_MO), (1, .int x1), (4, .int x4), (5, .int x5), (6, .int x6), (7, .long x7)]) (Nat.le_of_ble_eq_true rfl) rfl rfl rfl rfl ?_
      refine eb_goto (pc := 139) (tgt := 79) rfl (by decide) ?_
      exact eb_pick [2, 3, 4, 5, 6, 7, 0] rfl w
    · replace w := w.2 c4
      refine eb_iload (pc := 105) (i := 10) rfl rfl ?_
      refine eb_bipush (pc := 107) (n := 64) (v := 64) rfl rfl ?_
      refine eb_idiv (pc := 109) (by decide) rfl ?_
      refine eb_iload (pc := 110) (i := 4) rfl rfl ?_
      refine eb_icmp_eq (pc := 112) (tgt := 136) rfl (by decide) (fun c5 => ?_) (fun c5 => ?_)
      · replace w := w.1 c5
        refine eb_iinc (pc := 136) (i := 9) (n := 1) (v := x9 + 1) (ls2 := [(9, .int (x9 + 1)), (10, .int (eb_I h s_m_then (((4 : Int32) * x6) + x9).toNatClampNeg)), (0, .ref s_MO), (1, .int x1), (4, .int x4), (5, .int x5), (6, .int x6), (7, .long x7)]) (Nat.le_of_ble_eq_true rfl) rfl rfl rfl rfl ?_
        refine eb_goto (pc := 139) (tgt := 79) rfl (by decide) ?_
        exact eb_pick [2, 3, 4, 5, 6, 7, 0] rfl w
      · replace w := w.2 c5
        refine eb_lload (pc := 115) (i := 7) rfl rfl ?_
        refine eb_aload_n (pc := 117) (n := 0) (i := 0) rfl rfl rfl ?_
        refine eb_getR (pc := 118) rfl rfl (by decide) (by decide) rfl (ko_s_MO_26 ko) ?_
        refine eb_sipush (pc := 121) (n := 1024) (v := 1024) rfl rfl ?_
        refine eb_iload (pc := 124) (i := 5) rfl rfl ?_
        refine eb_iconst (pc := 126) (n := 1) (v := 1) rfl rfl ?_
        refine eb_isub (pc := 127) rfl ?_
        refine eb_imul (pc := 128) rfl ?_
        refine eb_iload (pc := 129) (i := 10) rfl rfl ?_
        refine eb_iadd (pc := 131) rfl ?_
        obtain ⟨c6, w⟩ := w
        refine eb_laload (pc := 132) rfl rfl c6 ?_
        refine eb_ladd (pc := 133) rfl ?_
        refine eb_lstore (pc := 134) (i := 7) (ls2 := [(7, .long (x7 + (eb_J h s_m_still (((1024 : Int32) * (x5 - 1)) + (eb_I h s_m_then (((4 : Int32) * x6) + x9).toNatClampNeg)).toNatClampNeg))), (10, .int (eb_I h s_m_then (((4 : Int32) * x6) + x9).toNatClampNeg)), (0, .ref s_MO), (1, .int x1), (4, .int x4), (5, .int x5), (6, .int x6), (9, .int x9)]) (Nat.le_of_ble_eq_true rfl) rfl rfl ?_
        refine eb_iinc (pc := 136) (i := 9) (n := 1) (v := x9 + 1) (ls2 := [(9, .int (x9 + 1)), (7, .long (x7 + (eb_J h s_m_still (((1024 : Int32) * (x5 - 1)) + (eb_I h s_m_then (((4 : Int32) * x6) + x9).toNatClampNeg)).toNatClampNeg))), (10, .int (eb_I h s_m_then (((4 : Int32) * x6) + x9).toNatClampNeg)), (0, .ref s_MO), (1, .int x1), (4, .int x4), (5, .int x5), (6, .int x6)]) (Nat.le_of_ble_eq_true rfl) rfl rfl rfl rfl ?_
        refine eb_goto (pc := 139) (tgt := 79) rfl (by decide) ?_
        exact eb_pick [3, 4, 5, 6, 7, 1, 0] rfl w
theorem T_X11_laysCame {d : Nat} {h : eb_H} {Q : Option Value → eb_H → Prop} (x1 : Int32) (x2 : Int32) (x3 : Int32) (x4 : Int32)  (ko : eb_KO h) (w : eb_Ct d 227 [.ref s_MO, .int (eb_I h s_m_all (50 : Int32).toNatClampNeg)] h (fun r h1 => r = none ∧ eb_KO h1 ∧ eb_Sn (d + 1) m_X11_laysCame h 14 [(0, .ref s_MO), (1, .int x1), (2, .int x2), (3, .int x3), (4, .int x4), (5, .int 0)] [] h1 Q)) : eb_Ct (d + 1) 250 [.ref s_MO, .int x1, .int x2, .int x3, .int x4] h Q :=
  eb_bodyQ (by decide) ok_X11_laysCame (Nat.le_of_ble_eq_true rfl) (b_X11_laysCame_0 (h0 := h) x1 x2 x3 x4  ko w)
theorem b_X11_came_0 {d : Nat} {h0 h : eb_H} {Q : Option Value → eb_H → Prop} (x1 : Int32) (x2 : Int32) (x3 : Int32)  (ko : eb_KO h) (w : eb_Ct d 249 [.ref s_MO, .int x1, .int x2, .int x3] (eb_sI h s_MO 0 0) (fun r h1 => ∃ y2, r = some (.int y2) ∧ eb_KO h1 ∧ ((y2 = 0 → eb_Ct d 250 [.ref s_MO, .int x1, .int x2, .int x3, .int (-1)] h1 (fun r h5 => ∃ y6, r = some (.long y6) ∧ eb_KO h5 ∧ Q (some (.long y6)) h5)) ∧ (¬ (y2 = 0) → Q (some (.long y2.toInt64)) h1)))) : eb_Sn (d + 1) m_X11_came h0 0 [(0, .ref s_MO), (1, .int x1), (2, .int x2), (3, .int x3)] [] h Q := by
  refine eb_aload_n (pc := 0) (n := 0) (i := 0) rfl rfl rfl ?_
  refine eb_iconst (pc := 1) (n := 0) (v := 0) rfl rfl ?_
  refine eb_putI (pc := 2) rfl rfl (by decide) (by decide) rfl rfl ⟨rfl, rfl⟩ ?_
  refine eb_aload_n (pc := 5) (n := 0) (i := 0) rfl rfl rfl ?_
  refine eb_iload_n (pc := 6) (n := 1) (i := 1) rfl rfl rfl ?_
  refine eb_iload_n (pc := 7) (n := 2) (i := 2) rfl rfl rfl ?_
  refine eb_iload_n (pc := 8) (n := 3) (i := 3) rfl rfl rfl ?_
  refine eb_ctV (pc := 9) (As := [.int x1, .int x2, .int x3]) (rest := []) rfl (by decide) rfl rfl (by decide) rfl (Nat.le_of_ble_eq_true rfl) ?_
  refine eb_Ct.mono w ?_
  rintro r h1 ⟨y2, rfl, ko3, w⟩
  change eb_Sn _ _ _ 12 _ [.int y2] _ _
  refine eb_istore (pc := 12) (i := 4) (ls2 := [(4, .int y2), (0, .ref s_MO), (1, .int x1), (2, .int x2), (3, .int x3)]) (Nat.le_of_ble_eq_true rfl) rfl rfl ?_
  refine eb_iload (pc := 14) (i := 4) rfl rfl ?_
  refine eb_if_eq (pc := 16) (tgt := 25) rfl (by decide) (fun c4 => ?_) (fun c4 => ?_)
  · replace w := w.1 c4
    refine eb_aload_n (pc := 25) (n := 0) (i := 0) rfl rfl rfl ?_
    refine eb_iload_n (pc := 26) (n := 1) (i := 1) rfl rfl rfl ?_
    refine eb_iload_n (pc := 27) (n := 2) (i := 2) rfl rfl rfl ?_
    refine eb_iload_n (pc := 28) (n := 3) (i := 3) rfl rfl rfl ?_
    refine eb_iconst (pc := 29) (n := -1) (v := (-1)) rfl rfl ?_
    refine eb_ctV (pc := 30) (As := [.int x1, .int x2, .int x3, .int (-1)]) (rest := []) rfl (by decide) rfl rfl (by decide) rfl (Nat.le_of_ble_eq_true rfl) ?_
    refine eb_Ct.mono w ?_
    rintro r h5 ⟨y6, rfl, ko7, w⟩
    change eb_Sn _ _ _ 33 _ [.long y6] _ _
    exact eb_lreturn (pc := 33) rfl rfl w
  · replace w := w.2 c4
    refine eb_iload (pc := 19) (i := 4) rfl rfl ?_
    refine eb_i2l (pc := 21) rfl ?_
    refine eb_goto (pc := 22) (tgt := 33) rfl (by decide) ?_
    exact eb_lreturn (pc := 33) rfl rfl w
theorem T_X11_came {d : Nat} {h : eb_H} {Q : Option Value → eb_H → Prop} (x1 : Int32) (x2 : Int32) (x3 : Int32)  (ko : eb_KO h) (w : eb_Ct d 249 [.ref s_MO, .int x1, .int x2, .int x3] (eb_sI h s_MO 0 0) (fun r h1 => ∃ y2, r = some (.int y2) ∧ eb_KO h1 ∧ ((y2 = 0 → eb_Ct d 250 [.ref s_MO, .int x1, .int x2, .int x3, .int (-1)] h1 (fun r h5 => ∃ y6, r = some (.long y6) ∧ eb_KO h5 ∧ Q (some (.long y6)) h5)) ∧ (¬ (y2 = 0) → Q (some (.long y2.toInt64)) h1)))) : eb_Ct (d + 1) 251 [.ref s_MO, .int x1, .int x2, .int x3] h Q :=
  eb_bodyQ (by decide) ok_X11_came (Nat.le_of_ble_eq_true rfl) (b_X11_came_0 (h0 := h) x1 x2 x3  ko w)
theorem b_X11_cameBy_0 {d : Nat} {h0 h : eb_H} {Q : Option Value → eb_H → Prop} (x1 : Int32) (x2 : Int32) (x3 : Int32) (x4 : Int32)  (ko : eb_KO h) (w : eb_Ct d 249 [.ref s_MO, .int x1, .int x2, .int x3] (eb_sI h s_MO 0 0) (fun r h1 => ∃ y2, r = some (.int y2) ∧ eb_KO h1 ∧ ((y2 = 0 → ((0 ≤ x4 → eb_Ct d 250 [.ref s_MO, .int x1, .int x2, .int x3, .int (-1)] h1 (fun r h6 => ∃ y7, r = some (.long y7) ∧ eb_KO h6 ∧ ((y7 = 0 → Q (some (.int (-1))) h6) ∧ (¬ (y7 = 0) → ((x4 < x1 → eb_Ct d 195 [.ref s_MO] h6 (fun r h11 => ∃ y12, r = some (.int y12) ∧ eb_KO h11 ∧ eb_Sn (d + 1) m_X11_cameBy h0 60 [(0, .ref s_MO), (1, .int x1), (4, .int x4), (6, .int y12), (7, .int 0)] [] h11 Q)) ∧ (¬ (x4 < x1) → Q (some (.int (-1))) h6)))))) ∧ (¬ (0 ≤ x4) → Q (some (.int (-3))) h1))) ∧ (¬ (y2 = 0) → Q (some (.int y2)) h1)))) : eb_Sn (d + 1) m_X11_cameBy h0 0 [(0, .ref s_MO), (1, .int x1), (2, .int x2), (3, .int x3), (4, .int x4)] [] h Q := by
  refine eb_aload_n (pc := 0) (n := 0) (i := 0) rfl rfl rfl ?_
  refine eb_iconst (pc := 1) (n := 0) (v := 0) rfl rfl ?_
  refine eb_putI (pc := 2) rfl rfl (by decide) (by decide) rfl rfl ⟨rfl, rfl⟩ ?_
  refine eb_aload_n (pc := 5) (n := 0) (i := 0) rfl rfl rfl ?_
  refine eb_iload_n (pc := 6) (n := 1) (i := 1) rfl rfl rfl ?_
  refine eb_iload_n (pc := 7) (n := 2) (i := 2) rfl rfl rfl ?_
  refine eb_iload_n (pc := 8) (n := 3) (i := 3) rfl rfl rfl ?_
  refine eb_ctV (pc := 9) (As := [.int x1, .int x2, .int x3]) (rest := []) rfl (by decide) rfl rfl (by decide) rfl (Nat.le_of_ble_eq_true rfl) ?_
  refine eb_Ct.mono w ?_
  rintro r h1 ⟨y2, rfl, ko3, w⟩
  change eb_Sn _ _ _ 12 _ [.int y2] _ _
  refine eb_istore (pc := 12) (i := 5) (ls2 := [(5, .int y2), (0, .ref s_MO), (1, .int x1), (2, .int x2), (3, .int x3), (4, .int x4)]) (Nat.le_of_ble_eq_true rfl) rfl rfl ?_
  refine eb_iload (pc := 14) (i := 5) rfl rfl ?_
  refine eb_if_eq (pc := 16) (tgt := 22) rfl (by decide) (fun c4 => ?_) (fun c4 => ?_)
  · replace w := w.1 c4
    refine eb_iload (pc := 22) (i := 4) rfl rfl ?_
    refine eb_if_ge (pc := 24) (tgt := 30) rfl (by decide) (fun c5 => ?_) (fun c5 => ?_)
    · replace w := w.1 c5
      refine eb_aload_n (pc := 30) (n := 0) (i := 0) rfl rfl rfl ?_
      refine eb_iload_n (pc := 31) (n := 1) (i := 1) rfl rfl rfl ?_
      refine eb_iload_n (pc := 32) (n := 2) (i := 2) rfl rfl rfl ?_
      refine eb_iload_n (pc := 33) (n := 3) (i := 3) rfl rfl rfl ?_
      refine eb_iconst (pc := 34) (n := -1) (v := (-1)) rfl rfl ?_
      refine eb_ctV (pc := 35) (As := [.int x1, .int x2, .int x3, .int (-1)]) (rest := []) rfl (by decide) rfl rfl (by decide) rfl (Nat.le_of_ble_eq_true rfl) ?_
      refine eb_Ct.mono w ?_
      rintro r h6 ⟨y7, rfl, ko8, w⟩
      change eb_Sn _ _ _ 38 _ [.long y7] _ _
      refine eb_lconst (pc := 38) (n := 0) (v := 0) rfl rfl ?_
      refine eb_lcmp (pc := 39) rfl ?_
      refine eb_if_eq (pc := 40) (tgt := 49) rfl (by decide) (fun c9 => ?_) (fun c9 => ?_)
      · replace c9 := eb_lc_eq.mp c9
        replace w := w.1 c9
        refine eb_iconst (pc := 49) (n := -1) (v := (-1)) rfl rfl ?_
        exact eb_ireturn (pc := 50) rfl rfl rfl w
      · replace c9 := (fun hh => mt eb_lc_eq.mpr hh) c9
        replace w := w.2 c9
        refine eb_iload (pc := 43) (i := 4) rfl rfl ?_
        refine eb_iload_n (pc := 45) (n := 1) (i := 1) rfl rfl rfl ?_
        refine eb_icmp_lt (pc := 46) (tgt := 51) rfl (by decide) (fun c10 => ?_) (fun c10 => ?_)
        · replace w := w.1 c10
          refine eb_aload_n (pc := 51) (n := 0) (i := 0) rfl rfl rfl ?_
          refine eb_ctV (pc := 52) (As := []) (rest := []) rfl (by decide) rfl rfl (by decide) rfl (Nat.le_of_ble_eq_true rfl) ?_
          refine eb_Ct.mono w ?_
          rintro r h11 ⟨y12, rfl, ko13, w⟩
          change eb_Sn _ _ _ 55 _ [.int y12] _ _
          refine eb_istore (pc := 55) (i := 6) (ls2 := [(6, .int y12), (5, .int y2), (0, .ref s_MO), (1, .int x1), (2, .int x2), (3, .int x3), (4, .int x4)]) (Nat.le_of_ble_eq_true rfl) rfl rfl ?_
          refine eb_iconst (pc := 57) (n := 0) (v := 0) rfl rfl ?_
          refine eb_istore (pc := 58) (i := 7) (ls2 := [(7, .int 0), (6, .int y12), (5, .int y2), (0, .ref s_MO), (1, .int x1), (2, .int x2), (3, .int x3), (4, .int x4)]) (Nat.le_of_ble_eq_true rfl) rfl rfl ?_
          exact eb_pick [3, 4, 7, 1, 0] rfl w
        · replace w := w.2 c10
          refine eb_iconst (pc := 49) (n := -1) (v := (-1)) rfl rfl ?_
          exact eb_ireturn (pc := 50) rfl rfl rfl w
    · replace w := w.2 c5
      refine eb_bipush (pc := 27) (n := -3) (v := (-3)) rfl rfl ?_
      exact eb_ireturn (pc := 29) rfl rfl rfl w
  · replace w := w.2 c4
    refine eb_iload (pc := 19) (i := 5) rfl rfl ?_
    exact eb_ireturn (pc := 21) rfl rfl rfl w
theorem b_X11_cameBy_60 {d : Nat} {h0 h : eb_H} {Q : Option Value → eb_H → Prop} (x1 : Int32) (x4 : Int32) (x6 : Int32) (x7 : Int32)  (ko : eb_KO h) (w : eb_Sn (d + 1) m_X11_cameBy h0 63 [(0, .ref s_MO), (1, .int x1), (4, .int x4), (6, .int x6), (7, .int x7), (8, .int 0)] [] h Q) : eb_Sn (d + 1) m_X11_cameBy h0 60 [(0, .ref s_MO), (1, .int x1), (4, .int x4), (6, .int x6), (7, .int x7)] [] h Q := by
  refine eb_iconst (pc := 60) (n := 0) (v := 0) rfl rfl ?_
  refine eb_istore (pc := 61) (i := 8) (ls2 := [(8, .int 0), (0, .ref s_MO), (1, .int x1), (4, .int x4), (6, .int x6), (7, .int x7)]) (Nat.le_of_ble_eq_true rfl) rfl rfl ?_
  exact eb_pick [1, 2, 3, 4, 5, 0] rfl w
theorem b_X11_cameBy_63 {d : Nat} {h0 h : eb_H} {Q : Option Value → eb_H → Prop} (x1 : Int32) (x4 : Int32) (x6 : Int32) (x7 : Int32) (x8 : Int32)  (ko : eb_KO h) (w : (vp_in (((4 : Int32) * x6) + x8) 4096) ∧ (((eb_I h s_m_then (((4 : Int32) * x6) + x8).toNatClampNeg) = ((-1) : Int32) → eb_Sn (d + 1) m_X11_cameBy h0 63 [(0, .ref s_MO), (1, .int x1), (4, .int x4), (6, .int x6), (7, .int x7), (8, .int (x8 + 1))] [] h Q) ∧ (¬ ((eb_I h s_m_then (((4 : Int32) * x6) + x8).toNatClampNeg) = ((-1) : Int32)) → (vp_in (((4 : Int32) * x6) + x8) 4096) ∧ (vp_in (((1024 : Int32) * ((x1 - x7) - 1)) + (eb_I h s_m_then (((4 : Int32) * x6) + x8).toNatClampNeg)) 11264) ∧ ((¬ (eb_J h s_m_still (((1024 : Int32) * ((x1 - x7) - 1)) + (eb_I h s_m_then (((4 : Int32) * x6) + x8).toNatClampNeg)).toNatClampNeg) = 0 → ((¬ x7 = x4 → (vp_in (((4 : Int32) * x6) + x8) 4096) ∧ eb_Sn (d + 1) m_X11_cameBy h0 60 [(0, .ref s_MO), (1, .int x1), (4, .int x4), (6, .int (eb_I h s_m_then (((4 : Int32) * x6) + x8).toNatClampNeg)), (7, .int (x7 + 1))] [] h Q) ∧ (x7 = x4 → Q (some (.int x8)) h))) ∧ ((eb_J h s_m_still (((1024 : Int32) * ((x1 - x7) - 1)) + (eb_I h s_m_then (((4 : Int32) * x6) + x8).toNatClampNeg)).toNatClampNeg) = 0 → eb_Sn (d + 1) m_X11_cameBy h0 63 [(0, .ref s_MO), (1, .int x1), (4, .int x4), (6, .int x6), (7, .int x7), (8, .int (x8 + 1))] [] h Q))))) : eb_Sn (d + 1) m_X11_cameBy h0 63 [(0, .ref s_MO), (1, .int x1), (4, .int x4), (6, .int x6), (7, .int x7), (8, .int x8)] [] h Q := by
  refine eb_aload_n (pc := 63) (n := 0) (i := 0) rfl rfl rfl ?_
  refine eb_getR (pc := 64) rfl rfl (by decide) (by decide) rfl (ko_s_MO_21 ko) ?_
  refine eb_iconst (pc := 67) (n := 4) (v := 4) rfl rfl ?_
  refine eb_iload (pc := 68) (i := 6) rfl rfl ?_
  refine eb_imul (pc := 70) rfl ?_
  refine eb_iload (pc := 71) (i := 8) rfl rfl ?_
  refine eb_iadd (pc := 73) rfl ?_
  obtain ⟨c1, w⟩ := w
  refine eb_iaload (pc := 74) rfl rfl c1 ?_
  refine eb_iconst (pc := 75) (n := -1) (v := (-1)) rfl rfl ?_
  refine eb_icmp_eq (pc := 76) (tgt := 112) rfl (by decide) (fun c2 => ?_) (fun c2 => ?_)
  · replace w := w.1 c2
    refine eb_iinc (pc := 112) (i := 8) (n := 1) (v := x8 + 1) (ls2 := [(8, .int (x8 + 1)), (0, .ref s_MO), (1, .int x1), (4, .int x4), (6, .int x6), (7, .int x7)]) (Nat.le_of_ble_eq_true rfl) rfl rfl rfl rfl ?_
    refine eb_goto (pc := 115) (tgt := 63) rfl (by decide) ?_
    exact eb_pick [1, 2, 3, 4, 5, 0] rfl w
  · replace w := w.2 c2
    refine eb_aload_n (pc := 79) (n := 0) (i := 0) rfl rfl rfl ?_
    refine eb_getR (pc := 80) rfl rfl (by decide) (by decide) rfl (ko_s_MO_26 ko) ?_
    refine eb_sipush (pc := 83) (n := 1024) (v := 1024) rfl rfl ?_
    refine eb_iload_n (pc := 86) (n := 1) (i := 1) rfl rfl rfl ?_
    refine eb_iload (pc := 87) (i := 7) rfl rfl ?_
    refine eb_isub (pc := 89) rfl ?_
    refine eb_iconst (pc := 90) (n := 1) (v := 1) rfl rfl ?_
    refine eb_isub (pc := 91) rfl ?_
    refine eb_imul (pc := 92) rfl ?_
    refine eb_aload_n (pc := 93) (n := 0) (i := 0) rfl rfl rfl ?_
    refine eb_getR (pc := 94) rfl rfl (by decide) (by decide) rfl (ko_s_MO_21 ko) ?_
    refine eb_iconst (pc := 97) (n := 4) (v := 4) rfl rfl ?_
    refine eb_iload (pc := 98) (i := 6) rfl rfl ?_
    refine eb_imul (pc := 100) rfl ?_
    refine eb_iload (pc := 101) (i := 8) rfl rfl ?_
    refine eb_iadd (pc := 103) rfl ?_
    obtain ⟨c3, w⟩ := w
    refine eb_iaload (pc := 104) rfl rfl c3 ?_
    refine eb_iadd (pc := 105) rfl ?_
    obtain ⟨c4, w⟩ := w
    refine eb_laload (pc := 106) rfl rfl c4 ?_
    refine eb_lconst (pc := 107) (n := 0) (v := 0) rfl rfl ?_
    refine eb_lcmp (pc := 108) rfl ?_
    refine eb_if_ne (pc := 109) (tgt := 118) rfl (by decide) (fun c5 => ?_) (fun c5 => ?_)
    · replace c5 := eb_lc_ne.mp c5
      replace w := w.1 c5
      refine eb_iload (pc := 118) (i := 7) rfl rfl ?_
      refine eb_iload (pc := 120) (i := 4) rfl rfl ?_
      refine eb_icmp_ne (pc := 122) (tgt := 128) rfl (by decide) (fun c6 => ?_) (fun c6 => ?_)
      · replace w := w.1 c6
        refine eb_aload_n (pc := 128) (n := 0) (i := 0) rfl rfl rfl ?_
        refine eb_getR (pc := 129) rfl rfl (by decide) (by decide) rfl (ko_s_MO_21 ko) ?_
        refine eb_iconst (pc := 132) (n := 4) (v := 4) rfl rfl ?_
        refine eb_iload (pc := 133) (i := 6) rfl rfl ?_
        refine eb_imul (pc := 135) rfl ?_
        refine eb_iload (pc := 136) (i := 8) rfl rfl ?_
        refine eb_iadd (pc := 138) rfl ?_
        obtain ⟨c7, w⟩ := w
        refine eb_iaload (pc := 139) rfl rfl c7 ?_
        refine eb_istore (pc := 140) (i := 6) (ls2 := [(6, .int (eb_I h s_m_then (((4 : Int32) * x6) + x8).toNatClampNeg)), (0, .ref s_MO), (1, .int x1), (4, .int x4), (7, .int x7), (8, .int x8)]) (Nat.le_of_ble_eq_true rfl) rfl rfl ?_
        refine eb_iinc (pc := 142) (i := 7) (n := 1) (v := x7 + 1) (ls2 := [(7, .int (x7 + 1)), (6, .int (eb_I h s_m_then (((4 : Int32) * x6) + x8).toNatClampNeg)), (0, .ref s_MO), (1, .int x1), (4, .int x4), (8, .int x8)]) (Nat.le_of_ble_eq_true rfl) rfl rfl rfl rfl ?_
        refine eb_goto (pc := 145) (tgt := 60) rfl (by decide) ?_
        exact eb_pick [2, 3, 4, 1, 0] rfl w
      · replace w := w.2 c6
        refine eb_iload (pc := 125) (i := 8) rfl rfl ?_
        exact eb_ireturn (pc := 127) rfl rfl rfl w
    · replace c5 := eb_lc_eq.mp c5
      replace w := w.2 c5
      refine eb_iinc (pc := 112) (i := 8) (n := 1) (v := x8 + 1) (ls2 := [(8, .int (x8 + 1)), (0, .ref s_MO), (1, .int x1), (4, .int x4), (6, .int x6), (7, .int x7)]) (Nat.le_of_ble_eq_true rfl) rfl rfl rfl rfl ?_
      refine eb_goto (pc := 115) (tgt := 63) rfl (by decide) ?_
      exact eb_pick [1, 2, 3, 4, 5, 0] rfl w
theorem T_X11_cameBy {d : Nat} {h : eb_H} {Q : Option Value → eb_H → Prop} (x1 : Int32) (x2 : Int32) (x3 : Int32) (x4 : Int32)  (ko : eb_KO h) (w : eb_Ct d 249 [.ref s_MO, .int x1, .int x2, .int x3] (eb_sI h s_MO 0 0) (fun r h1 => ∃ y2, r = some (.int y2) ∧ eb_KO h1 ∧ ((y2 = 0 → ((0 ≤ x4 → eb_Ct d 250 [.ref s_MO, .int x1, .int x2, .int x3, .int (-1)] h1 (fun r h6 => ∃ y7, r = some (.long y7) ∧ eb_KO h6 ∧ ((y7 = 0 → Q (some (.int (-1))) h6) ∧ (¬ (y7 = 0) → ((x4 < x1 → eb_Ct d 195 [.ref s_MO] h6 (fun r h11 => ∃ y12, r = some (.int y12) ∧ eb_KO h11 ∧ eb_Sn (d + 1) m_X11_cameBy h 60 [(0, .ref s_MO), (1, .int x1), (4, .int x4), (6, .int y12), (7, .int 0)] [] h11 Q)) ∧ (¬ (x4 < x1) → Q (some (.int (-1))) h6)))))) ∧ (¬ (0 ≤ x4) → Q (some (.int (-3))) h1))) ∧ (¬ (y2 = 0) → Q (some (.int y2)) h1)))) : eb_Ct (d + 1) 252 [.ref s_MO, .int x1, .int x2, .int x3, .int x4] h Q :=
  eb_bodyQ (by decide) ok_X11_cameBy (Nat.le_of_ble_eq_true rfl) (b_X11_cameBy_0 (h0 := h) x1 x2 x3 x4  ko w)
theorem b_X11_surely_0 {d : Nat} {h0 h : eb_H} {Q : Option Value → eb_H → Prop} (x1 : Int32) (x2 : Int32) (x3 : Int32)  (ko : eb_KO h) (w : eb_Ct d 249 [.ref s_MO, .int x1, .int x2, .int x3] (eb_sI h s_MO 0 0) (fun r h1 => ∃ y2, r = some (.int y2) ∧ eb_KO h1 ∧ ((y2 = 0 → eb_Ct d 250 [.ref s_MO, .int x1, .int x2, .int x3, .int (-1)] h1 (fun r h5 => ∃ y6, r = some (.long y6) ∧ eb_KO h5 ∧ ((¬ y6 = 0 → eb_Sn (d + 1) m_X11_surely h0 44 [(0, .ref s_MO), (1, .int x1), (2, .int x2), (3, .int x3), (5, .int 0), (6, .int 0)] [] h5 Q) ∧ (y6 = 0 → Q (some (.int 0)) h5)))) ∧ (¬ (y2 = 0) → Q (some (.int y2)) h1)))) : eb_Sn (d + 1) m_X11_surely h0 0 [(0, .ref s_MO), (1, .int x1), (2, .int x2), (3, .int x3)] [] h Q := by
  refine eb_aload_n (pc := 0) (n := 0) (i := 0) rfl rfl rfl ?_
  refine eb_iconst (pc := 1) (n := 0) (v := 0) rfl rfl ?_
  refine eb_putI (pc := 2) rfl rfl (by decide) (by decide) rfl rfl ⟨rfl, rfl⟩ ?_
  refine eb_aload_n (pc := 5) (n := 0) (i := 0) rfl rfl rfl ?_
  refine eb_iload_n (pc := 6) (n := 1) (i := 1) rfl rfl rfl ?_
  refine eb_iload_n (pc := 7) (n := 2) (i := 2) rfl rfl rfl ?_
  refine eb_iload_n (pc := 8) (n := 3) (i := 3) rfl rfl rfl ?_
  refine eb_ctV (pc := 9) (As := [.int x1, .int x2, .int x3]) (rest := []) rfl (by decide) rfl rfl (by decide) rfl (Nat.le_of_ble_eq_true rfl) ?_
  refine eb_Ct.mono w ?_
  rintro r h1 ⟨y2, rfl, ko3, w⟩
  change eb_Sn _ _ _ 12 _ [.int y2] _ _
  refine eb_istore (pc := 12) (i := 4) (ls2 := [(4, .int y2), (0, .ref s_MO), (1, .int x1), (2, .int x2), (3, .int x3)]) (Nat.le_of_ble_eq_true rfl) rfl rfl ?_
  refine eb_iload (pc := 14) (i := 4) rfl rfl ?_
  refine eb_if_eq (pc := 16) (tgt := 22) rfl (by decide) (fun c4 => ?_) (fun c4 => ?_)
  · replace w := w.1 c4
    refine eb_iconst (pc := 22) (n := 0) (v := 0) rfl rfl ?_
    refine eb_istore (pc := 23) (i := 5) (ls2 := [(5, .int 0), (4, .int y2), (0, .ref s_MO), (1, .int x1), (2, .int x2), (3, .int x3)]) (Nat.le_of_ble_eq_true rfl) rfl rfl ?_
    refine eb_aload_n (pc := 25) (n := 0) (i := 0) rfl rfl rfl ?_
    refine eb_iload_n (pc := 26) (n := 1) (i := 1) rfl rfl rfl ?_
    refine eb_iload_n (pc := 27) (n := 2) (i := 2) rfl rfl rfl ?_
    refine eb_iload_n (pc := 28) (n := 3) (i := 3) rfl rfl rfl ?_
    refine eb_iconst (pc := 29) (n := -1) (v := (-1)) rfl rfl ?_
    refine eb_ctV (pc := 30) (As := [.int x1, .int x2, .int x3, .int (-1)]) (rest := []) rfl (by decide) rfl rfl (by decide) rfl (Nat.le_of_ble_eq_true rfl) ?_
    refine eb_Ct.mono w ?_
    rintro r h5 ⟨y6, rfl, ko7, w⟩
    change eb_Sn _ _ _ 33 _ [.long y6] _ _
    refine eb_lconst (pc := 33) (n := 0) (v := 0) rfl rfl ?_
    refine eb_lcmp (pc := 34) rfl ?_
    refine eb_if_ne (pc := 35) (tgt := 41) rfl (by decide) (fun c8 => ?_) (fun c8 => ?_)
    · replace c8 := eb_lc_ne.mp c8
      replace w := w.1 c8
      refine eb_iconst (pc := 41) (n := 0) (v := 0) rfl rfl ?_
      refine eb_istore (pc := 42) (i := 6) (ls2 := [(6, .int 0), (5, .int 0), (4, .int y2), (0, .ref s_MO), (1, .int x1), (2, .int x2), (3, .int x3)]) (Nat.le_of_ble_eq_true rfl) rfl rfl ?_
      exact eb_pick [3, 4, 5, 6, 1, 0] rfl w
    · replace c8 := eb_lc_eq.mp c8
      replace w := w.2 c8
      refine eb_iload (pc := 38) (i := 5) rfl rfl ?_
      exact eb_ireturn (pc := 40) rfl rfl rfl w
  · replace w := w.2 c4
    refine eb_iload (pc := 19) (i := 4) rfl rfl ?_
    exact eb_ireturn (pc := 21) rfl rfl rfl w
theorem b_X11_surely_44 {d : Nat} {h0 h : eb_H} {Q : Option Value → eb_H → Prop} (x1 : Int32) (x2 : Int32) (x3 : Int32) (x5 : Int32) (x6 : Int32)  (ko : eb_KO h) (w : eb_Ct d 190 [.ref s_MO] h (fun r h1 => ∃ y2, r = some (.int y2) ∧ eb_KO h1 ∧ ((y2 ≤ x6 → Q (some (.int x5)) h1) ∧ (¬ (y2 ≤ x6) → eb_Ct d 250 [.ref s_MO, .int x1, .int x2, .int x3, .int x6] h1 (fun r h5 => ∃ y6, r = some (.long y6) ∧ eb_KO h5 ∧ eb_Sn (d + 1) m_X11_surely h0 44 [(0, .ref s_MO), (1, .int x1), (2, .int x2), (3, .int x3), (5, .int (x5 ||| (if y6 = 0 then (1 : Int32) <<< (x6 &&& 31) else 0 : Int32))), (6, .int (x6 + 1))] [] h5 Q))))) : eb_Sn (d + 1) m_X11_surely h0 44 [(0, .ref s_MO), (1, .int x1), (2, .int x2), (3, .int x3), (5, .int x5), (6, .int x6)] [] h Q := by
  refine eb_iload (pc := 44) (i := 6) rfl rfl ?_
  refine eb_aload_n (pc := 46) (n := 0) (i := 0) rfl rfl rfl ?_
  refine eb_ctV (pc := 47) (As := []) (rest := [.int x6]) rfl (by decide) rfl rfl (by decide) rfl (Nat.le_of_ble_eq_true rfl) ?_
  refine eb_Ct.mono w ?_
  rintro r h1 ⟨y2, rfl, ko3, w⟩
  change eb_Sn _ _ _ 50 _ [.int y2, .int x6] _ _
  refine eb_icmp_ge (pc := 50) (tgt := 86) rfl (by decide) (fun c4 => ?_) (fun c4 => ?_)
  · replace w := w.1 c4
    refine eb_iload (pc := 86) (i := 5) rfl rfl ?_
    exact eb_ireturn (pc := 88) rfl rfl rfl w
  · replace w := w.2 c4
    refine eb_iload (pc := 53) (i := 5) rfl rfl ?_
    refine eb_aload_n (pc := 55) (n := 0) (i := 0) rfl rfl rfl ?_
    refine eb_iload_n (pc := 56) (n := 1) (i := 1) rfl rfl rfl ?_
    refine eb_iload_n (pc := 57) (n := 2) (i := 2) rfl rfl rfl ?_
    refine eb_iload_n (pc := 58) (n := 3) (i := 3) rfl rfl rfl ?_
    refine eb_iload (pc := 59) (i := 6) rfl rfl ?_
    refine eb_ctV (pc := 61) (As := [.int x1, .int x2, .int x3, .int x6]) (rest := [.int x5]) rfl (by decide) rfl rfl (by decide) rfl (Nat.le_of_ble_eq_true rfl) ?_
    refine eb_Ct.mono w ?_
    rintro r h5 ⟨y6, rfl, ko7, w⟩
    change eb_Sn _ _ _ 64 _ [.long y6, .int x5] _ _
    refine eb_lconst (pc := 64) (n := 0) (v := 0) rfl rfl ?_
    refine eb_lcmp (pc := 65) rfl ?_
    have jj9 : eb_Sn (d + 1) m_X11_surely h0 77 [(0, .ref s_MO), (1, .int x1), (2, .int x2), (3, .int x3), (5, .int x5), (6, .int x6)] [.int (if y6 = 0 then (1 : Int32) <<< (x6 &&& 31) else 0 : Int32), .int x5] h5 Q := by
      refine eb_ior (pc := 77) rfl ?_
      refine eb_istore (pc := 78) (i := 5) (ls2 := [(5, .int (x5 ||| (if y6 = 0 then (1 : Int32) <<< (x6 &&& 31) else 0 : Int32))), (0, .ref s_MO), (1, .int x1), (2, .int x2), (3, .int x3), (6, .int x6)]) (Nat.le_of_ble_eq_true rfl) rfl rfl ?_
      refine eb_iinc (pc := 80) (i := 6) (n := 1) (v := x6 + 1) (ls2 := [(6, .int (x6 + 1)), (5, .int (x5 ||| (if y6 = 0 then (1 : Int32) <<< (x6 &&& 31) else 0 : Int32))), (0, .ref s_MO), (1, .int x1), (2, .int x2), (3, .int x3)]) (Nat.le_of_ble_eq_true rfl) rfl rfl rfl rfl ?_
      refine eb_goto (pc := 83) (tgt := 44) rfl (by decide) ?_
      exact eb_pick [2, 3, 4, 5, 1, 0] rfl w
    refine eb_if_ne (pc := 66) (tgt := 76) rfl (by decide) (fun c8 => ?_) (fun c8 => ?_)
    · replace c8 := eb_lc_ne.mp c8
      refine eb_iconst (pc := 76) (n := 0) (v := 0) rfl rfl ?_
      simp only [if_neg c8] at jj9 ⊢
      exact jj9
    · replace c8 := eb_lc_eq.mp c8
      refine eb_iconst (pc := 69) (n := 1) (v := 1) rfl rfl ?_
      refine eb_iload (pc := 70) (i := 6) rfl rfl ?_
      refine eb_ishl (pc := 72) rfl ?_
      refine eb_goto (pc := 73) (tgt := 77) rfl (by decide) ?_
      simp only [if_pos c8] at jj9 ⊢
      exact jj9
theorem T_X11_surely {d : Nat} {h : eb_H} {Q : Option Value → eb_H → Prop} (x1 : Int32) (x2 : Int32) (x3 : Int32)  (ko : eb_KO h) (w : eb_Ct d 249 [.ref s_MO, .int x1, .int x2, .int x3] (eb_sI h s_MO 0 0) (fun r h1 => ∃ y2, r = some (.int y2) ∧ eb_KO h1 ∧ ((y2 = 0 → eb_Ct d 250 [.ref s_MO, .int x1, .int x2, .int x3, .int (-1)] h1 (fun r h5 => ∃ y6, r = some (.long y6) ∧ eb_KO h5 ∧ ((¬ y6 = 0 → eb_Sn (d + 1) m_X11_surely h 44 [(0, .ref s_MO), (1, .int x1), (2, .int x2), (3, .int x3), (5, .int 0), (6, .int 0)] [] h5 Q) ∧ (y6 = 0 → Q (some (.int 0)) h5)))) ∧ (¬ (y2 = 0) → Q (some (.int y2)) h1)))) : eb_Ct (d + 1) 253 [.ref s_MO, .int x1, .int x2, .int x3] h Q :=
  eb_bodyQ (by decide) ok_X11_surely (Nat.le_of_ble_eq_true rfl) (b_X11_surely_0 (h0 := h) x1 x2 x3  ko w)
theorem b_X11_noFlown_0 {d : Nat} {h0 h : eb_H} {Q : Option Value → eb_H → Prop} (x1 : Int32) (x2 : Int32)  (ko : eb_KO h) (w : eb_Ct d 221 [.ref s_MO, .int x1] h (fun r h1 => ∃ y2, r = some (.int y2) ∧ eb_KO h1 ∧ ((y2 = 0 → (vp_in x1 4) ∧ eb_Ct d 156 [.long ((eb_I h1 s_m_rowMany x1.toNatClampNeg).toInt64), .long 1, .long 12] h1 (fun r h6 => ∃ y7, r = some (.int y7) ∧ eb_KO h6 ∧ ((¬ y7 = 0 → eb_Sn (d + 1) m_X11_noFlown h0 35 [(0, .ref s_MO), (1, .int x1), (2, .int x2), (4, .int 0)] [] h6 Q) ∧ (y7 = 0 → Q (some (.int (-4))) h6)))) ∧ (¬ (y2 = 0) → Q (some (.int y2)) h1)))) : eb_Sn (d + 1) m_X11_noFlown h0 0 [(0, .ref s_MO), (1, .int x1), (2, .int x2)] [] h Q := by
  refine eb_aload_n (pc := 0) (n := 0) (i := 0) rfl rfl rfl ?_
  refine eb_iload_n (pc := 1) (n := 1) (i := 1) rfl rfl rfl ?_
  refine eb_ctV (pc := 2) (As := [.int x1]) (rest := []) rfl (by decide) rfl rfl (by decide) rfl (Nat.le_of_ble_eq_true rfl) ?_
  refine eb_Ct.mono w ?_
  rintro r h1 ⟨y2, rfl, ko3, w⟩
  change eb_Sn _ _ _ 5 _ [.int y2] _ _
  refine eb_istore_n (pc := 5) (n := 3) (i := 3) (ls2 := [(3, .int y2), (0, .ref s_MO), (1, .int x1), (2, .int x2)]) rfl (Nat.le_of_ble_eq_true rfl) rfl rfl ?_
  refine eb_iload_n (pc := 6) (n := 3) (i := 3) rfl rfl rfl ?_
  refine eb_if_eq (pc := 7) (tgt := 12) rfl (by decide) (fun c4 => ?_) (fun c4 => ?_)
  · replace w := w.1 c4
    refine eb_aload_n (pc := 12) (n := 0) (i := 0) rfl rfl rfl ?_
    refine eb_getR (pc := 13) rfl rfl (by decide) (by decide) rfl (ko_s_MO_29 ko3) ?_
    refine eb_iload_n (pc := 16) (n := 1) (i := 1) rfl rfl rfl ?_
    obtain ⟨c5, w⟩ := w
    refine eb_iaload (pc := 17) rfl rfl c5 ?_
    refine eb_i2l (pc := 18) rfl ?_
    refine eb_lconst (pc := 19) (n := 1) (v := 1) rfl rfl ?_
    refine eb_ldc2 (pc := 20) (a := 12) (v := 12) rfl (by decide) ?_
    refine eb_ctS (pc := 23) (As := [.long ((eb_I h1 s_m_rowMany x1.toNatClampNeg).toInt64), .long 1, .long 12]) (rest := []) rfl (by decide) (by decide) rfl rfl (Nat.le_of_ble_eq_true rfl) ?_
    refine eb_Ct.mono w ?_
    rintro r h6 ⟨y7, rfl, ko8, w⟩
    change eb_Sn _ _ _ 26 _ [.int y7] _ _
    refine eb_if_ne (pc := 26) (tgt := 32) rfl (by decide) (fun c9 => ?_) (fun c9 => ?_)
    · replace w := w.1 c9
      refine eb_iconst (pc := 32) (n := 0) (v := 0) rfl rfl ?_
      refine eb_istore (pc := 33) (i := 4) (ls2 := [(4, .int 0), (3, .int y2), (0, .ref s_MO), (1, .int x1), (2, .int x2)]) (Nat.le_of_ble_eq_true rfl) rfl rfl ?_
      exact eb_pick [2, 3, 4, 0] rfl w
    · replace w := w.2 c9
      refine eb_bipush (pc := 29) (n := -4) (v := (-4)) rfl rfl ?_
      exact eb_ireturn (pc := 31) rfl rfl rfl w
  · replace w := w.2 c4
    refine eb_iload_n (pc := 10) (n := 3) (i := 3) rfl rfl rfl ?_
    exact eb_ireturn (pc := 11) rfl rfl rfl w
theorem b_X11_noFlown_35 {d : Nat} {h0 h : eb_H} {Q : Option Value → eb_H → Prop} (x1 : Int32) (x2 : Int32) (x4 : Int32)  (ko : eb_KO h) (w : (vp_in x1 4) ∧ (((eb_I h s_m_rowMany x1.toNatClampNeg) ≤ x4 → eb_Ct d 193 [.int x2] h (fun r h3 => ∃ y4, r = some (.int y4) ∧ eb_KO h3 ∧ Q (some (.int (if y4 = 0 then (-3) else 0 : Int32))) h3)) ∧ (¬ ((eb_I h s_m_rowMany x1.toNatClampNeg) ≤ x4) → (vp_in (((40 : Int32) * x1) + x4) 160) ∧ eb_Ct d 156 [.long (eb_J h s_m_numbers (((40 : Int32) * x1) + x4).toNatClampNeg), .long 0, .long 3] h (fun r h9 => ∃ y10, r = some (.int y10) ∧ eb_KO h9 ∧ ((¬ y10 = 0 → eb_Sn (d + 1) m_X11_noFlown h0 35 [(0, .ref s_MO), (1, .int x1), (2, .int x2), (4, .int (x4 + 1))] [] h9 Q) ∧ (y10 = 0 → Q (some (.int (-3))) h9)))))) : eb_Sn (d + 1) m_X11_noFlown h0 35 [(0, .ref s_MO), (1, .int x1), (2, .int x2), (4, .int x4)] [] h Q := by
  refine eb_iload (pc := 35) (i := 4) rfl rfl ?_
  refine eb_aload_n (pc := 37) (n := 0) (i := 0) rfl rfl rfl ?_
  refine eb_getR (pc := 38) rfl rfl (by decide) (by decide) rfl (ko_s_MO_29 ko) ?_
  refine eb_iload_n (pc := 41) (n := 1) (i := 1) rfl rfl rfl ?_
  obtain ⟨c1, w⟩ := w
  refine eb_iaload (pc := 42) rfl rfl c1 ?_
  refine eb_icmp_ge (pc := 43) (tgt := 77) rfl (by decide) (fun c2 => ?_) (fun c2 => ?_)
  · replace w := w.1 c2
    refine eb_iload_n (pc := 77) (n := 2) (i := 2) rfl rfl rfl ?_
    refine eb_ctS (pc := 78) (As := [.int x2]) (rest := []) rfl (by decide) (by decide) rfl rfl (Nat.le_of_ble_eq_true rfl) ?_
    refine eb_Ct.mono w ?_
    rintro r h3 ⟨y4, rfl, ko5, w⟩
    change eb_Sn _ _ _ 81 _ [.int y4] _ _
    have jj7 : eb_Sn (d + 1) m_X11_noFlown h0 90 [(0, .ref s_MO), (1, .int x1), (2, .int x2), (4, .int x4)] [.int (if y4 = 0 then (-3) else 0 : Int32)] h3 Q := by
      exact eb_ireturn (pc := 90) rfl rfl rfl w
    refine eb_if_eq (pc := 81) (tgt := 88) rfl (by decide) (fun c6 => ?_) (fun c6 => ?_)
    · refine eb_bipush (pc := 88) (n := -3) (v := (-3)) rfl rfl ?_
      simp only [if_pos c6] at jj7 ⊢
      exact jj7
    · refine eb_iconst (pc := 84) (n := 0) (v := 0) rfl rfl ?_
      refine eb_goto (pc := 85) (tgt := 90) rfl (by decide) ?_
      simp only [if_neg c6] at jj7 ⊢
      exact jj7
  · replace w := w.2 c2
    refine eb_aload_n (pc := 46) (n := 0) (i := 0) rfl rfl rfl ?_
    refine eb_getR (pc := 47) rfl rfl (by decide) (by decide) rfl (ko_s_MO_30 ko) ?_
    refine eb_bipush (pc := 50) (n := 40) (v := 40) rfl rfl ?_
    refine eb_iload_n (pc := 52) (n := 1) (i := 1) rfl rfl rfl ?_
    refine eb_imul (pc := 53) rfl ?_
    refine eb_iload (pc := 54) (i := 4) rfl rfl ?_
    refine eb_iadd (pc := 56) rfl ?_
    obtain ⟨c8, w⟩ := w
    refine eb_laload (pc := 57) rfl rfl c8 ?_
    refine eb_lconst (pc := 58) (n := 0) (v := 0) rfl rfl ?_
    refine eb_ldc2 (pc := 59) (a := 3) (v := 3) rfl (by decide) ?_
    refine eb_ctS (pc := 62) (As := [.long (eb_J h s_m_numbers (((40 : Int32) * x1) + x4).toNatClampNeg), .long 0, .long 3]) (rest := []) rfl (by decide) (by decide) rfl rfl (Nat.le_of_ble_eq_true rfl) ?_
    refine eb_Ct.mono w ?_
    rintro r h9 ⟨y10, rfl, ko11, w⟩
    change eb_Sn _ _ _ 65 _ [.int y10] _ _
    refine eb_if_ne (pc := 65) (tgt := 71) rfl (by decide) (fun c12 => ?_) (fun c12 => ?_)
    · replace w := w.1 c12
      refine eb_iinc (pc := 71) (i := 4) (n := 1) (v := x4 + 1) (ls2 := [(4, .int (x4 + 1)), (0, .ref s_MO), (1, .int x1), (2, .int x2)]) (Nat.le_of_ble_eq_true rfl) rfl rfl rfl rfl ?_
      refine eb_goto (pc := 74) (tgt := 35) rfl (by decide) ?_
      exact eb_pick [1, 2, 3, 0] rfl w
    · replace w := w.2 c12
      refine eb_bipush (pc := 68) (n := -3) (v := (-3)) rfl rfl ?_
      exact eb_ireturn (pc := 70) rfl rfl rfl w
theorem T_X11_noFlown {d : Nat} {h : eb_H} {Q : Option Value → eb_H → Prop} (x1 : Int32) (x2 : Int32)  (ko : eb_KO h) (w : eb_Ct d 221 [.ref s_MO, .int x1] h (fun r h1 => ∃ y2, r = some (.int y2) ∧ eb_KO h1 ∧ ((y2 = 0 → (vp_in x1 4) ∧ eb_Ct d 156 [.long ((eb_I h1 s_m_rowMany x1.toNatClampNeg).toInt64), .long 1, .long 12] h1 (fun r h6 => ∃ y7, r = some (.int y7) ∧ eb_KO h6 ∧ ((¬ y7 = 0 → eb_Sn (d + 1) m_X11_noFlown h 35 [(0, .ref s_MO), (1, .int x1), (2, .int x2), (4, .int 0)] [] h6 Q) ∧ (y7 = 0 → Q (some (.int (-4))) h6)))) ∧ (¬ (y2 = 0) → Q (some (.int y2)) h1)))) : eb_Ct (d + 1) 254 [.ref s_MO, .int x1, .int x2] h Q :=
  eb_bodyQ (by decide) ok_X11_noFlown (Nat.le_of_ble_eq_true rfl) (b_X11_noFlown_0 (h0 := h) x1 x2  ko w)
theorem b_X11_isFlown_0 {d : Nat} {h0 h : eb_H} {Q : Option Value → eb_H → Prop} (x1 : Int32) (x2 : Int32)  (ko : eb_KO h) (w : eb_Ct d 195 [.ref s_MO] h (fun r h1 => ∃ y2, r = some (.int y2) ∧ eb_KO h1 ∧ eb_Sn (d + 1) m_X11_isFlown h0 8 [(0, .ref s_MO), (1, .int x1), (2, .int x2), (3, .int y2), (4, .int 0)] [] h1 Q)) : eb_Sn (d + 1) m_X11_isFlown h0 0 [(0, .ref s_MO), (1, .int x1), (2, .int x2)] [] h Q := by
  refine eb_aload_n (pc := 0) (n := 0) (i := 0) rfl rfl rfl ?_
  refine eb_ctV (pc := 1) (As := []) (rest := []) rfl (by decide) rfl rfl (by decide) rfl (Nat.le_of_ble_eq_true rfl) ?_
  refine eb_Ct.mono w ?_
  rintro r h1 ⟨y2, rfl, ko3, w⟩
  change eb_Sn _ _ _ 4 _ [.int y2] _ _
  refine eb_istore_n (pc := 4) (n := 3) (i := 3) (ls2 := [(3, .int y2), (0, .ref s_MO), (1, .int x1), (2, .int x2)]) rfl (Nat.le_of_ble_eq_true rfl) rfl rfl ?_
  refine eb_iconst (pc := 5) (n := 0) (v := 0) rfl rfl ?_
  refine eb_istore (pc := 6) (i := 4) (ls2 := [(4, .int 0), (3, .int y2), (0, .ref s_MO), (1, .int x1), (2, .int x2)]) (Nat.le_of_ble_eq_true rfl) rfl rfl ?_
  exact eb_pick [2, 3, 4, 1, 0] rfl w
theorem b_X11_isFlown_8 {d : Nat} {h0 h : eb_H} {Q : Option Value → eb_H → Prop} (x1 : Int32) (x2 : Int32) (x3 : Int32) (x4 : Int32)  (ko : eb_KO h) (w : (vp_in x1 4) ∧ (((eb_I h s_m_rowMany x1.toNatClampNeg) ≤ x4 → Q (some (.int (if (x3 - x3 / 64 * 64) = x2 then 1 else 0 : Int32))) h) ∧ (¬ ((eb_I h s_m_rowMany x1.toNatClampNeg) ≤ x4) → (vp_in (((40 : Int32) * x1) + x4) 160) ∧ eb_Ct d 199 [.ref s_MO, .int x3, .int ((eb_J h s_m_numbers (((40 : Int32) * x1) + x4).toNatClampNeg).toInt32), .int (eb_I h s_m_all (50 : Int32).toNatClampNeg)] h (fun r h6 => ∃ y7, r = some (.int y7) ∧ eb_KO h6 ∧ ((y7 = 0 → eb_Ct d 200 [.ref s_MO, .int x3, .int ((eb_J h s_m_numbers (((40 : Int32) * x1) + x4).toNatClampNeg).toInt32)] h6 (fun r h10 => ∃ y11, r = some (.int y11) ∧ eb_KO h10 ∧ eb_Sn (d + 1) m_X11_isFlown h0 8 [(0, .ref s_MO), (1, .int x1), (2, .int x2), (3, .int y11), (4, .int (x4 + 1))] [] h10 Q)) ∧ (¬ (y7 = 0) → Q (some (.int 0)) h6)))))) : eb_Sn (d + 1) m_X11_isFlown h0 8 [(0, .ref s_MO), (1, .int x1), (2, .int x2), (3, .int x3), (4, .int x4)] [] h Q := by
  refine eb_iload (pc := 8) (i := 4) rfl rfl ?_
  refine eb_aload_n (pc := 10) (n := 0) (i := 0) rfl rfl rfl ?_
  refine eb_getR (pc := 11) rfl rfl (by decide) (by decide) rfl (ko_s_MO_29 ko) ?_
  refine eb_iload_n (pc := 14) (n := 1) (i := 1) rfl rfl rfl ?_
  obtain ⟨c1, w⟩ := w
  refine eb_iaload (pc := 15) rfl rfl c1 ?_
  refine eb_icmp_ge (pc := 16) (tgt := 67) rfl (by decide) (fun c2 => ?_) (fun c2 => ?_)
  · replace w := w.1 c2
    refine eb_iload_n (pc := 67) (n := 3) (i := 3) rfl rfl rfl ?_
    refine eb_bipush (pc := 68) (n := 64) (v := 64) rfl rfl ?_
    refine eb_irem (pc := 70) (by decide) rfl ?_
    refine eb_iload_n (pc := 71) (n := 2) (i := 2) rfl rfl rfl ?_
    have jj4 : eb_Sn (d + 1) m_X11_isFlown h0 80 [(0, .ref s_MO), (1, .int x1), (2, .int x2), (3, .int x3), (4, .int x4)] [.int (if (x3 - x3 / 64 * 64) = x2 then 1 else 0 : Int32)] h Q := by
      exact eb_ireturn (pc := 80) rfl rfl (by (repeat' split) <;> rfl) w
    refine eb_icmp_ne (pc := 72) (tgt := 79) rfl (by decide) (fun c3 => ?_) (fun c3 => ?_)
    · refine eb_iconst (pc := 79) (n := 0) (v := 0) rfl rfl ?_
      simp only [if_neg c3] at jj4 ⊢
      exact jj4
    · refine eb_iconst (pc := 75) (n := 1) (v := 1) rfl rfl ?_
      refine eb_goto (pc := 76) (tgt := 80) rfl (by decide) ?_
      simp only [if_pos c3] at jj4 ⊢
      exact jj4
  · replace w := w.2 c2
    refine eb_aload_n (pc := 19) (n := 0) (i := 0) rfl rfl rfl ?_
    refine eb_getR (pc := 20) rfl rfl (by decide) (by decide) rfl (ko_s_MO_30 ko) ?_
    refine eb_bipush (pc := 23) (n := 40) (v := 40) rfl rfl ?_
    refine eb_iload_n (pc := 25) (n := 1) (i := 1) rfl rfl rfl ?_
    refine eb_imul (pc := 26) rfl ?_
    refine eb_iload (pc := 27) (i := 4) rfl rfl ?_
    refine eb_iadd (pc := 29) rfl ?_
    obtain ⟨c5, w⟩ := w
    refine eb_laload (pc := 30) rfl rfl c5 ?_
    refine eb_l2i (pc := 31) rfl ?_
    refine eb_istore (pc := 32) (i := 5) (ls2 := [(5, .int ((eb_J h s_m_numbers (((40 : Int32) * x1) + x4).toNatClampNeg).toInt32)), (0, .ref s_MO), (1, .int x1), (2, .int x2), (3, .int x3), (4, .int x4)]) (Nat.le_of_ble_eq_true rfl) rfl rfl ?_
    refine eb_aload_n (pc := 34) (n := 0) (i := 0) rfl rfl rfl ?_
    refine eb_iload_n (pc := 35) (n := 3) (i := 3) rfl rfl rfl ?_
    refine eb_iload (pc := 36) (i := 5) rfl rfl ?_
    refine eb_aload_n (pc := 38) (n := 0) (i := 0) rfl rfl rfl ?_
    refine eb_getR (pc := 39) rfl rfl (by decide) (by decide) rfl (ko_s_MO_1 ko) ?_
    refine eb_bipush (pc := 42) (n := 50) (v := 50) rfl rfl ?_
    refine eb_iaload (pc := 44) rfl rfl (by unfold vp_in; decide) ?_
    refine eb_ctV (pc := 45) (As := [.int x3, .int ((eb_J h s_m_numbers (((40 : Int32) * x1) + x4).toNatClampNeg).toInt32), .int (eb_I h s_m_all (50 : Int32).toNatClampNeg)]) (rest := []) rfl (by decide) rfl rfl (by decide) rfl (Nat.le_of_ble_eq_true rfl) ?_
    refine eb_Ct.mono w ?_
    rintro r h6 ⟨y7, rfl, ko8, w⟩
    change eb_Sn _ _ _ 48 _ [.int y7] _ _
    refine eb_if_eq (pc := 48) (tgt := 53) rfl (by decide) (fun c9 => ?_) (fun c9 => ?_)
    · replace w := w.1 c9
      refine eb_aload_n (pc := 53) (n := 0) (i := 0) rfl rfl rfl ?_
      refine eb_iload_n (pc := 54) (n := 3) (i := 3) rfl rfl rfl ?_
      refine eb_iload (pc := 55) (i := 5) rfl rfl ?_
      refine eb_ctV (pc := 57) (As := [.int x3, .int ((eb_J h s_m_numbers (((40 : Int32) * x1) + x4).toNatClampNeg).toInt32)]) (rest := []) rfl (by decide) rfl rfl (by decide) rfl (Nat.le_of_ble_eq_true rfl) ?_
      refine eb_Ct.mono w ?_
      rintro r h10 ⟨y11, rfl, ko12, w⟩
      change eb_Sn _ _ _ 60 _ [.int y11] _ _
      refine eb_istore_n (pc := 60) (n := 3) (i := 3) (ls2 := [(3, .int y11), (5, .int ((eb_J h s_m_numbers (((40 : Int32) * x1) + x4).toNatClampNeg).toInt32)), (0, .ref s_MO), (1, .int x1), (2, .int x2), (4, .int x4)]) rfl (Nat.le_of_ble_eq_true rfl) rfl rfl ?_
      refine eb_iinc (pc := 61) (i := 4) (n := 1) (v := x4 + 1) (ls2 := [(4, .int (x4 + 1)), (3, .int y11), (5, .int ((eb_J h s_m_numbers (((40 : Int32) * x1) + x4).toNatClampNeg).toInt32)), (0, .ref s_MO), (1, .int x1), (2, .int x2)]) (Nat.le_of_ble_eq_true rfl) rfl rfl rfl rfl ?_
      refine eb_goto (pc := 64) (tgt := 8) rfl (by decide) ?_
      exact eb_pick [3, 4, 5, 1, 0] rfl w
    · replace w := w.2 c9
      refine eb_iconst (pc := 51) (n := 0) (v := 0) rfl rfl ?_
      exact eb_ireturn (pc := 52) rfl rfl (by decide) w
theorem T_X11_isFlown {d : Nat} {h : eb_H} {Q : Option Value → eb_H → Prop} (x1 : Int32) (x2 : Int32)  (ko : eb_KO h) (w : eb_Ct d 195 [.ref s_MO] h (fun r h1 => ∃ y2, r = some (.int y2) ∧ eb_KO h1 ∧ eb_Sn (d + 1) m_X11_isFlown h 8 [(0, .ref s_MO), (1, .int x1), (2, .int x2), (3, .int y2), (4, .int 0)] [] h1 Q)) : eb_Ct (d + 1) 255 [.ref s_MO, .int x1, .int x2] h Q :=
  eb_bodyQ (by decide) ok_X11_isFlown (Nat.le_of_ble_eq_true rfl) (b_X11_isFlown_0 (h0 := h) x1 x2  ko w)
theorem b_X11_kinds_0 {d : Nat} {h0 h : eb_H} {Q : Option Value → eb_H → Prop} (x1 : Int32) (x2 : Int32) (x3 : Int32)  (ko : eb_KO h) (w : eb_Ct d 156 [.long x1.toInt64, .long 0, .long 3] (eb_sI h s_MO 0 0) (fun r h1 => ∃ y2, r = some (.int y2) ∧ eb_KO h1 ∧ ((y2 = 0 → Q (some (.int (-2))) h1) ∧ (¬ (y2 = 0) → eb_Ct d 191 [.ref s_MO, .long x2.toInt64] h1 (fun r h5 => ∃ y6, r = some (.int y6) ∧ eb_KO h5 ∧ ((¬ y6 = 0 → eb_Ct d 254 [.ref s_MO, .int x1, .int x3] h5 (fun r h9 => ∃ y10, r = some (.int y10) ∧ eb_KO h9 ∧ ((y10 = 0 → (vp_in ((34 : Int32) + x2) 3492) ∧ eb_Sn (d + 1) m_X11_kinds h0 62 [(0, .ref s_MO), (1, .int x1), (2, .int x2), (3, .int x3), (5, .int (eb_I h9 s_m_all ((34 : Int32) + x2).toNatClampNeg)), (6, .int 0), (7, .int 0)] [] h9 Q) ∧ (¬ (y10 = 0) → Q (some (.int y10)) h9)))) ∧ (y6 = 0 → Q (some (.int (-2))) h5))))))) : eb_Sn (d + 1) m_X11_kinds h0 0 [(0, .ref s_MO), (1, .int x1), (2, .int x2), (3, .int x3)] [] h Q := by
  refine eb_aload_n (pc := 0) (n := 0) (i := 0) rfl rfl rfl ?_
  refine eb_iconst (pc := 1) (n := 0) (v := 0) rfl rfl ?_
  refine eb_putI (pc := 2) rfl rfl (by decide) (by decide) rfl rfl ⟨rfl, rfl⟩ ?_
  refine eb_iload_n (pc := 5) (n := 1) (i := 1) rfl rfl rfl ?_
  refine eb_i2l (pc := 6) rfl ?_
  refine eb_lconst (pc := 7) (n := 0) (v := 0) rfl rfl ?_
  refine eb_ldc2 (pc := 8) (a := 3) (v := 3) rfl (by decide) ?_
  refine eb_ctS (pc := 11) (As := [.long x1.toInt64, .long 0, .long 3]) (rest := []) rfl (by decide) (by decide) rfl rfl (Nat.le_of_ble_eq_true rfl) ?_
  refine eb_Ct.mono w ?_
  rintro r h1 ⟨y2, rfl, ko3, w⟩
  change eb_Sn _ _ _ 14 _ [.int y2] _ _
  refine eb_if_eq (pc := 14) (tgt := 26) rfl (by decide) (fun c4 => ?_) (fun c4 => ?_)
  · replace w := w.1 c4
    refine eb_bipush (pc := 26) (n := -2) (v := (-2)) rfl rfl ?_
    exact eb_ireturn (pc := 28) rfl rfl rfl w
  · replace w := w.2 c4
    refine eb_aload_n (pc := 17) (n := 0) (i := 0) rfl rfl rfl ?_
    refine eb_iload_n (pc := 18) (n := 2) (i := 2) rfl rfl rfl ?_
    refine eb_i2l (pc := 19) rfl ?_
    refine eb_ctV (pc := 20) (As := [.long x2.toInt64]) (rest := []) rfl (by decide) rfl rfl (by decide) rfl (Nat.le_of_ble_eq_true rfl) ?_
    refine eb_Ct.mono w ?_
    rintro r h5 ⟨y6, rfl, ko7, w⟩
    change eb_Sn _ _ _ 23 _ [.int y6] _ _
    refine eb_if_ne (pc := 23) (tgt := 29) rfl (by decide) (fun c8 => ?_) (fun c8 => ?_)
    · replace w := w.1 c8
      refine eb_aload_n (pc := 29) (n := 0) (i := 0) rfl rfl rfl ?_
      refine eb_iload_n (pc := 30) (n := 1) (i := 1) rfl rfl rfl ?_
      refine eb_iload_n (pc := 31) (n := 3) (i := 3) rfl rfl rfl ?_
      refine eb_ctV (pc := 32) (As := [.int x1, .int x3]) (rest := []) rfl (by decide) rfl rfl (by decide) rfl (Nat.le_of_ble_eq_true rfl) ?_
      refine eb_Ct.mono w ?_
      rintro r h9 ⟨y10, rfl, ko11, w⟩
      change eb_Sn _ _ _ 35 _ [.int y10] _ _
      refine eb_istore (pc := 35) (i := 4) (ls2 := [(4, .int y10), (0, .ref s_MO), (1, .int x1), (2, .int x2), (3, .int x3)]) (Nat.le_of_ble_eq_true rfl) rfl rfl ?_
      refine eb_iload (pc := 37) (i := 4) rfl rfl ?_
      refine eb_if_eq (pc := 39) (tgt := 45) rfl (by decide) (fun c12 => ?_) (fun c12 => ?_)
      · replace w := w.1 c12
        refine eb_aload_n (pc := 45) (n := 0) (i := 0) rfl rfl rfl ?_
        refine eb_getR (pc := 46) rfl rfl (by decide) (by decide) rfl (ko_s_MO_1 ko11) ?_
        refine eb_bipush (pc := 49) (n := 34) (v := 34) rfl rfl ?_
        refine eb_iload_n (pc := 51) (n := 2) (i := 2) rfl rfl rfl ?_
        refine eb_iadd (pc := 52) rfl ?_
        obtain ⟨c13, w⟩ := w
        refine eb_iaload (pc := 53) rfl rfl c13 ?_
        refine eb_istore (pc := 54) (i := 5) (ls2 := [(5, .int (eb_I h9 s_m_all ((34 : Int32) + x2).toNatClampNeg)), (4, .int y10), (0, .ref s_MO), (1, .int x1), (2, .int x2), (3, .int x3)]) (Nat.le_of_ble_eq_true rfl) rfl rfl ?_
        refine eb_iconst (pc := 56) (n := 0) (v := 0) rfl rfl ?_
        refine eb_istore (pc := 57) (i := 6) (ls2 := [(6, .int 0), (5, .int (eb_I h9 s_m_all ((34 : Int32) + x2).toNatClampNeg)), (4, .int y10), (0, .ref s_MO), (1, .int x1), (2, .int x2), (3, .int x3)]) (Nat.le_of_ble_eq_true rfl) rfl rfl ?_
        refine eb_iconst (pc := 59) (n := 0) (v := 0) rfl rfl ?_
        refine eb_istore (pc := 60) (i := 7) (ls2 := [(7, .int 0), (6, .int 0), (5, .int (eb_I h9 s_m_all ((34 : Int32) + x2).toNatClampNeg)), (4, .int y10), (0, .ref s_MO), (1, .int x1), (2, .int x2), (3, .int x3)]) (Nat.le_of_ble_eq_true rfl) rfl rfl ?_
        exact eb_pick [4, 5, 6, 7, 2, 1, 0] rfl w
      · replace w := w.2 c12
        refine eb_iload (pc := 42) (i := 4) rfl rfl ?_
        exact eb_ireturn (pc := 44) rfl rfl rfl w
    · replace w := w.2 c8
      refine eb_bipush (pc := 26) (n := -2) (v := (-2)) rfl rfl ?_
      exact eb_ireturn (pc := 28) rfl rfl rfl w
theorem b_X11_kinds_62 {d : Nat} {h0 h : eb_H} {Q : Option Value → eb_H → Prop} (x1 : Int32) (x2 : Int32) (x3 : Int32) (x5 : Int32) (x6 : Int32) (x7 : Int32)  (ko : eb_KO h) (w : (((6 : Int32) < x7 → (vp_in ((34 : Int32) + x2) 3492) ∧ Q (some (.int x6)) (eb_sI h s_m_all ((34 : Int32) + x2).toNatClampNeg x5)) ∧ (¬ ((6 : Int32) < x7) → (vp_in ((34 : Int32) + x2) 3492) ∧ eb_Ct d 255 [.ref s_MO, .int x1, .int x3] (eb_sI h s_m_all ((34 : Int32) + x2).toNatClampNeg x7) (fun r h4 => ∃ y5, r = some (.int y5) ∧ eb_KO h4 ∧ eb_Sn (d + 1) m_X11_kinds h0 62 [(0, .ref s_MO), (1, .int x1), (2, .int x2), (3, .int x3), (5, .int x5), (6, .int (x6 ||| (if y5 = 0 then 0 else (1 : Int32) <<< (x7 &&& 31) : Int32))), (7, .int (x7 + 1))] [] h4 Q)))) : eb_Sn (d + 1) m_X11_kinds h0 62 [(0, .ref s_MO), (1, .int x1), (2, .int x2), (3, .int x3), (5, .int x5), (6, .int x6), (7, .int x7)] [] h Q := by
  refine eb_iload (pc := 62) (i := 7) rfl rfl ?_
  refine eb_bipush (pc := 64) (n := 6) (v := 6) rfl rfl ?_
  refine eb_icmp_gt (pc := 66) (tgt := 108) rfl (by decide) (fun c1 => ?_) (fun c1 => ?_)
  · replace w := w.1 c1
    refine eb_aload_n (pc := 108) (n := 0) (i := 0) rfl rfl rfl ?_
    refine eb_getR (pc := 109) rfl rfl (by decide) (by decide) rfl (ko_s_MO_1 ko) ?_
    refine eb_bipush (pc := 112) (n := 34) (v := 34) rfl rfl ?_
    refine eb_iload_n (pc := 114) (n := 2) (i := 2) rfl rfl rfl ?_
    refine eb_iadd (pc := 115) rfl ?_
    refine eb_iload (pc := 116) (i := 5) rfl rfl ?_
    obtain ⟨c2, w⟩ := w
    refine eb_iastore (pc := 118) rfl rfl c2 ?_
    refine eb_iload (pc := 119) (i := 6) rfl rfl ?_
    exact eb_ireturn (pc := 121) rfl rfl rfl w
  · replace w := w.2 c1
    refine eb_aload_n (pc := 69) (n := 0) (i := 0) rfl rfl rfl ?_
    refine eb_getR (pc := 70) rfl rfl (by decide) (by decide) rfl (ko_s_MO_1 ko) ?_
    refine eb_bipush (pc := 73) (n := 34) (v := 34) rfl rfl ?_
    refine eb_iload_n (pc := 75) (n := 2) (i := 2) rfl rfl rfl ?_
    refine eb_iadd (pc := 76) rfl ?_
    refine eb_iload (pc := 77) (i := 7) rfl rfl ?_
    obtain ⟨c3, w⟩ := w
    refine eb_iastore (pc := 79) rfl rfl c3 ?_
    refine eb_iload (pc := 80) (i := 6) rfl rfl ?_
    refine eb_aload_n (pc := 82) (n := 0) (i := 0) rfl rfl rfl ?_
    refine eb_iload_n (pc := 83) (n := 1) (i := 1) rfl rfl rfl ?_
    refine eb_iload_n (pc := 84) (n := 3) (i := 3) rfl rfl rfl ?_
    refine eb_ctV (pc := 85) (As := [.int x1, .int x3]) (rest := [.int x6]) rfl (by decide) rfl rfl (by decide) rfl (Nat.le_of_ble_eq_true rfl) ?_
    refine eb_Ct.mono w ?_
    rintro r h4 ⟨y5, rfl, ko6, w⟩
    change eb_Sn _ _ _ 88 _ [.int y5, .int x6] _ _
    have jj8 : eb_Sn (d + 1) m_X11_kinds h0 99 [(0, .ref s_MO), (1, .int x1), (2, .int x2), (3, .int x3), (5, .int x5), (6, .int x6), (7, .int x7)] [.int (if y5 = 0 then 0 else (1 : Int32) <<< (x7 &&& 31) : Int32), .int x6] h4 Q := by
      refine eb_ior (pc := 99) rfl ?_
      refine eb_istore (pc := 100) (i := 6) (ls2 := [(6, .int (x6 ||| (if y5 = 0 then 0 else (1 : Int32) <<< (x7 &&& 31) : Int32))), (0, .ref s_MO), (1, .int x1), (2, .int x2), (3, .int x3), (5, .int x5), (7, .int x7)]) (Nat.le_of_ble_eq_true rfl) rfl rfl ?_
      refine eb_iinc (pc := 102) (i := 7) (n := 1) (v := x7 + 1) (ls2 := [(7, .int (x7 + 1)), (6, .int (x6 ||| (if y5 = 0 then 0 else (1 : Int32) <<< (x7 &&& 31) : Int32))), (0, .ref s_MO), (1, .int x1), (2, .int x2), (3, .int x3), (5, .int x5)]) (Nat.le_of_ble_eq_true rfl) rfl rfl rfl rfl ?_
      refine eb_goto (pc := 105) (tgt := 62) rfl (by decide) ?_
      exact eb_pick [2, 3, 4, 5, 6, 1, 0] rfl w
    refine eb_if_eq (pc := 88) (tgt := 98) rfl (by decide) (fun c7 => ?_) (fun c7 => ?_)
    · refine eb_iconst (pc := 98) (n := 0) (v := 0) rfl rfl ?_
      simp only [if_pos c7] at jj8 ⊢
      exact jj8
    · refine eb_iconst (pc := 91) (n := 1) (v := 1) rfl rfl ?_
      refine eb_iload (pc := 92) (i := 7) rfl rfl ?_
      refine eb_ishl (pc := 94) rfl ?_
      refine eb_goto (pc := 95) (tgt := 99) rfl (by decide) ?_
      simp only [if_neg c7] at jj8 ⊢
      exact jj8
theorem T_X11_kinds {d : Nat} {h : eb_H} {Q : Option Value → eb_H → Prop} (x1 : Int32) (x2 : Int32) (x3 : Int32)  (ko : eb_KO h) (w : eb_Ct d 156 [.long x1.toInt64, .long 0, .long 3] (eb_sI h s_MO 0 0) (fun r h1 => ∃ y2, r = some (.int y2) ∧ eb_KO h1 ∧ ((y2 = 0 → Q (some (.int (-2))) h1) ∧ (¬ (y2 = 0) → eb_Ct d 191 [.ref s_MO, .long x2.toInt64] h1 (fun r h5 => ∃ y6, r = some (.int y6) ∧ eb_KO h5 ∧ ((¬ y6 = 0 → eb_Ct d 254 [.ref s_MO, .int x1, .int x3] h5 (fun r h9 => ∃ y10, r = some (.int y10) ∧ eb_KO h9 ∧ ((y10 = 0 → (vp_in ((34 : Int32) + x2) 3492) ∧ eb_Sn (d + 1) m_X11_kinds h 62 [(0, .ref s_MO), (1, .int x1), (2, .int x2), (3, .int x3), (5, .int (eb_I h9 s_m_all ((34 : Int32) + x2).toNatClampNeg)), (6, .int 0), (7, .int 0)] [] h9 Q) ∧ (¬ (y10 = 0) → Q (some (.int y10)) h9)))) ∧ (y6 = 0 → Q (some (.int (-2))) h5))))))) : eb_Ct (d + 1) 256 [.ref s_MO, .int x1, .int x2, .int x3] h Q :=
  eb_bodyQ (by decide) ok_X11_kinds (Nat.le_of_ble_eq_true rfl) (b_X11_kinds_0 (h0 := h) x1 x2 x3  ko w)
theorem b_X11_windsOf_0 {d : Nat} {h0 h : eb_H} {Q : Option Value → eb_H → Prop} (x1 : Int32) (x2 : Int32)  (ko : eb_KO h) (w : eb_Sn (d + 1) m_X11_windsOf h0 14 [(0, .ref s_MO), (1, .int x1), (2, .int x2), (3, .int (eb_I h s_m_all (51 : Int32).toNatClampNeg)), (4, .int 0), (5, .int 0)] [] h Q) : eb_Sn (d + 1) m_X11_windsOf h0 0 [(0, .ref s_MO), (1, .int x1), (2, .int x2)] [] h Q := by
  refine eb_aload_n (pc := 0) (n := 0) (i := 0) rfl rfl rfl ?_
  refine eb_getR (pc := 1) rfl rfl (by decide) (by decide) rfl (ko_s_MO_1 ko) ?_
  refine eb_bipush (pc := 4) (n := 51) (v := 51) rfl rfl ?_
  refine eb_iaload (pc := 6) rfl rfl (by unfold vp_in; decide) ?_
  refine eb_istore_n (pc := 7) (n := 3) (i := 3) (ls2 := [(3, .int (eb_I h s_m_all (51 : Int32).toNatClampNeg)), (0, .ref s_MO), (1, .int x1), (2, .int x2)]) rfl (Nat.le_of_ble_eq_true rfl) rfl rfl ?_
  refine eb_iconst (pc := 8) (n := 0) (v := 0) rfl rfl ?_
  refine eb_istore (pc := 9) (i := 4) (ls2 := [(4, .int 0), (3, .int (eb_I h s_m_all (51 : Int32).toNatClampNeg)), (0, .ref s_MO), (1, .int x1), (2, .int x2)]) (Nat.le_of_ble_eq_true rfl) rfl rfl ?_
  refine eb_iconst (pc := 11) (n := 0) (v := 0) rfl rfl ?_
  refine eb_istore (pc := 12) (i := 5) (ls2 := [(5, .int 0), (4, .int 0), (3, .int (eb_I h s_m_all (51 : Int32).toNatClampNeg)), (0, .ref s_MO), (1, .int x1), (2, .int x2)]) (Nat.le_of_ble_eq_true rfl) rfl rfl ?_
  exact eb_pick [3, 4, 5, 2, 1, 0] rfl w
theorem b_X11_windsOf_14 {d : Nat} {h0 h : eb_H} {Q : Option Value → eb_H → Prop} (x1 : Int32) (x2 : Int32) (x3 : Int32) (x4 : Int32) (x5 : Int32)  (ko : eb_KO h) (w : (((10 : Int32) ≤ x5 → Q (some (.int x4)) (eb_sI h s_m_all (51 : Int32).toNatClampNeg x3)) ∧ (¬ ((10 : Int32) ≤ x5) → eb_Ct d 255 [.ref s_MO, .int x1, .int x2] (eb_sI h s_m_all (51 : Int32).toNatClampNeg x5) (fun r h2 => ∃ y3, r = some (.int y3) ∧ eb_KO h2 ∧ eb_Sn (d + 1) m_X11_windsOf h0 14 [(0, .ref s_MO), (1, .int x1), (2, .int x2), (3, .int x3), (4, .int (x4 ||| (if y3 = 0 then 0 else (1 : Int32) <<< (x5 &&& 31) : Int32))), (5, .int (x5 + 1))] [] h2 Q)))) : eb_Sn (d + 1) m_X11_windsOf h0 14 [(0, .ref s_MO), (1, .int x1), (2, .int x2), (3, .int x3), (4, .int x4), (5, .int x5)] [] h Q := by
  refine eb_iload (pc := 14) (i := 5) rfl rfl ?_
  refine eb_bipush (pc := 16) (n := 10) (v := 10) rfl rfl ?_
  refine eb_icmp_ge (pc := 18) (tgt := 58) rfl (by decide) (fun c1 => ?_) (fun c1 => ?_)
  · replace w := w.1 c1
    refine eb_aload_n (pc := 58) (n := 0) (i := 0) rfl rfl rfl ?_
    refine eb_getR (pc := 59) rfl rfl (by decide) (by decide) rfl (ko_s_MO_1 ko) ?_
    refine eb_bipush (pc := 62) (n := 51) (v := 51) rfl rfl ?_
    refine eb_iload_n (pc := 64) (n := 3) (i := 3) rfl rfl rfl ?_
    refine eb_iastore (pc := 65) rfl rfl (by unfold vp_in; decide) ?_
    refine eb_iload (pc := 66) (i := 4) rfl rfl ?_
    exact eb_ireturn (pc := 68) rfl rfl rfl w
  · replace w := w.2 c1
    refine eb_aload_n (pc := 21) (n := 0) (i := 0) rfl rfl rfl ?_
    refine eb_getR (pc := 22) rfl rfl (by decide) (by decide) rfl (ko_s_MO_1 ko) ?_
    refine eb_bipush (pc := 25) (n := 51) (v := 51) rfl rfl ?_
    refine eb_iload (pc := 27) (i := 5) rfl rfl ?_
    refine eb_iastore (pc := 29) rfl rfl (by unfold vp_in; decide) ?_
    refine eb_iload (pc := 30) (i := 4) rfl rfl ?_
    refine eb_aload_n (pc := 32) (n := 0) (i := 0) rfl rfl rfl ?_
    refine eb_iload_n (pc := 33) (n := 1) (i := 1) rfl rfl rfl ?_
    refine eb_iload_n (pc := 34) (n := 2) (i := 2) rfl rfl rfl ?_
    refine eb_ctV (pc := 35) (As := [.int x1, .int x2]) (rest := [.int x4]) rfl (by decide) rfl rfl (by decide) rfl (Nat.le_of_ble_eq_true rfl) ?_
    refine eb_Ct.mono w ?_
    rintro r h2 ⟨y3, rfl, ko4, w⟩
    change eb_Sn _ _ _ 38 _ [.int y3, .int x4] _ _
    have jj6 : eb_Sn (d + 1) m_X11_windsOf h0 49 [(0, .ref s_MO), (1, .int x1), (2, .int x2), (3, .int x3), (4, .int x4), (5, .int x5)] [.int (if y3 = 0 then 0 else (1 : Int32) <<< (x5 &&& 31) : Int32), .int x4] h2 Q := by
      refine eb_ior (pc := 49) rfl ?_
      refine eb_istore (pc := 50) (i := 4) (ls2 := [(4, .int (x4 ||| (if y3 = 0 then 0 else (1 : Int32) <<< (x5 &&& 31) : Int32))), (0, .ref s_MO), (1, .int x1), (2, .int x2), (3, .int x3), (5, .int x5)]) (Nat.le_of_ble_eq_true rfl) rfl rfl ?_
      refine eb_iinc (pc := 52) (i := 5) (n := 1) (v := x5 + 1) (ls2 := [(5, .int (x5 + 1)), (4, .int (x4 ||| (if y3 = 0 then 0 else (1 : Int32) <<< (x5 &&& 31) : Int32))), (0, .ref s_MO), (1, .int x1), (2, .int x2), (3, .int x3)]) (Nat.le_of_ble_eq_true rfl) rfl rfl rfl rfl ?_
      refine eb_goto (pc := 55) (tgt := 14) rfl (by decide) ?_
      exact eb_pick [2, 3, 4, 5, 1, 0] rfl w
    refine eb_if_eq (pc := 38) (tgt := 48) rfl (by decide) (fun c5 => ?_) (fun c5 => ?_)
    · refine eb_iconst (pc := 48) (n := 0) (v := 0) rfl rfl ?_
      simp only [if_pos c5] at jj6 ⊢
      exact jj6
    · refine eb_iconst (pc := 41) (n := 1) (v := 1) rfl rfl ?_
      refine eb_iload (pc := 42) (i := 5) rfl rfl ?_
      refine eb_ishl (pc := 44) rfl ?_
      refine eb_goto (pc := 45) (tgt := 49) rfl (by decide) ?_
      simp only [if_neg c5] at jj6 ⊢
      exact jj6
theorem T_X11_windsOf {d : Nat} {h : eb_H} {Q : Option Value → eb_H → Prop} (x1 : Int32) (x2 : Int32)  (ko : eb_KO h) (w : eb_Sn (d + 1) m_X11_windsOf h 14 [(0, .ref s_MO), (1, .int x1), (2, .int x2), (3, .int (eb_I h s_m_all (51 : Int32).toNatClampNeg)), (4, .int 0), (5, .int 0)] [] h Q) : eb_Ct (d + 1) 257 [.ref s_MO, .int x1, .int x2] h Q :=
  eb_bodyQ (by decide) ok_X11_windsOf (Nat.le_of_ble_eq_true rfl) (b_X11_windsOf_0 (h0 := h) x1 x2  ko w)
theorem b_X11_winds_0 {d : Nat} {h0 h : eb_H} {Q : Option Value → eb_H → Prop} (x1 : Int32) (x2 : Int32)  (ko : eb_KO h) (w : eb_Ct d 254 [.ref s_MO, .int x1, .int x2] (eb_sI h s_MO 0 0) (fun r h1 => ∃ y2, r = some (.int y2) ∧ eb_KO h1 ∧ ((y2 = 0 → eb_Ct d 257 [.ref s_MO, .int x1, .int x2] h1 (fun r h5 => ∃ y6, r = some (.int y6) ∧ eb_KO h5 ∧ Q (some (.int y6)) h5)) ∧ (¬ (y2 = 0) → Q (some (.int y2)) h1)))) : eb_Sn (d + 1) m_X11_winds h0 0 [(0, .ref s_MO), (1, .int x1), (2, .int x2)] [] h Q := by
  refine eb_aload_n (pc := 0) (n := 0) (i := 0) rfl rfl rfl ?_
  refine eb_iconst (pc := 1) (n := 0) (v := 0) rfl rfl ?_
  refine eb_putI (pc := 2) rfl rfl (by decide) (by decide) rfl rfl ⟨rfl, rfl⟩ ?_
  refine eb_aload_n (pc := 5) (n := 0) (i := 0) rfl rfl rfl ?_
  refine eb_iload_n (pc := 6) (n := 1) (i := 1) rfl rfl rfl ?_
  refine eb_iload_n (pc := 7) (n := 2) (i := 2) rfl rfl rfl ?_
  refine eb_ctV (pc := 8) (As := [.int x1, .int x2]) (rest := []) rfl (by decide) rfl rfl (by decide) rfl (Nat.le_of_ble_eq_true rfl) ?_
  refine eb_Ct.mono w ?_
  rintro r h1 ⟨y2, rfl, ko3, w⟩
  change eb_Sn _ _ _ 11 _ [.int y2] _ _
  refine eb_istore_n (pc := 11) (n := 3) (i := 3) (ls2 := [(3, .int y2), (0, .ref s_MO), (1, .int x1), (2, .int x2)]) rfl (Nat.le_of_ble_eq_true rfl) rfl rfl ?_
  refine eb_iload_n (pc := 12) (n := 3) (i := 3) rfl rfl rfl ?_
  refine eb_if_eq (pc := 13) (tgt := 20) rfl (by decide) (fun c4 => ?_) (fun c4 => ?_)
  · replace w := w.1 c4
    refine eb_aload_n (pc := 20) (n := 0) (i := 0) rfl rfl rfl ?_
    refine eb_iload_n (pc := 21) (n := 1) (i := 1) rfl rfl rfl ?_
    refine eb_iload_n (pc := 22) (n := 2) (i := 2) rfl rfl rfl ?_
    refine eb_ctV (pc := 23) (As := [.int x1, .int x2]) (rest := []) rfl (by decide) rfl rfl (by decide) rfl (Nat.le_of_ble_eq_true rfl) ?_
    refine eb_Ct.mono w ?_
    rintro r h5 ⟨y6, rfl, ko7, w⟩
    change eb_Sn _ _ _ 26 _ [.int y6] _ _
    exact eb_ireturn (pc := 26) rfl rfl rfl w
  · replace w := w.2 c4
    refine eb_iload_n (pc := 16) (n := 3) (i := 3) rfl rfl rfl ?_
    refine eb_goto (pc := 17) (tgt := 26) rfl (by decide) ?_
    exact eb_ireturn (pc := 26) rfl rfl rfl w
theorem T_X11_winds {d : Nat} {h : eb_H} {Q : Option Value → eb_H → Prop} (x1 : Int32) (x2 : Int32)  (ko : eb_KO h) (w : eb_Ct d 254 [.ref s_MO, .int x1, .int x2] (eb_sI h s_MO 0 0) (fun r h1 => ∃ y2, r = some (.int y2) ∧ eb_KO h1 ∧ ((y2 = 0 → eb_Ct d 257 [.ref s_MO, .int x1, .int x2] h1 (fun r h5 => ∃ y6, r = some (.int y6) ∧ eb_KO h5 ∧ Q (some (.int y6)) h5)) ∧ (¬ (y2 = 0) → Q (some (.int y2)) h1)))) : eb_Ct (d + 1) 258 [.ref s_MO, .int x1, .int x2] h Q :=
  eb_bodyQ (by decide) ok_X11_winds (Nat.le_of_ble_eq_true rfl) (b_X11_winds_0 (h0 := h) x1 x2  ko w)
theorem b_X11_mostAlike_0 {d : Nat} {h0 h : eb_H} {Q : Option Value → eb_H → Prop} (x1 : Int32) (x2 : Int32)  (ko : eb_KO h) (w : eb_Sn (d + 1) m_X11_mostAlike h0 14 [(0, .ref s_MO), (1, .int x1), (2, .int x2), (3, .int (eb_I h s_m_all (51 : Int32).toNatClampNeg)), (4, .int 0), (5, .int 0)] [] h Q) : eb_Sn (d + 1) m_X11_mostAlike h0 0 [(0, .ref s_MO), (1, .int x1), (2, .int x2)] [] h Q := by
  refine eb_aload_n (pc := 0) (n := 0) (i := 0) rfl rfl rfl ?_
  refine eb_getR (pc := 1) rfl rfl (by decide) (by decide) rfl (ko_s_MO_1 ko) ?_
  refine eb_bipush (pc := 4) (n := 51) (v := 51) rfl rfl ?_
  refine eb_iaload (pc := 6) rfl rfl (by unfold vp_in; decide) ?_
  refine eb_istore_n (pc := 7) (n := 3) (i := 3) (ls2 := [(3, .int (eb_I h s_m_all (51 : Int32).toNatClampNeg)), (0, .ref s_MO), (1, .int x1), (2, .int x2)]) rfl (Nat.le_of_ble_eq_true rfl) rfl rfl ?_
  refine eb_iconst (pc := 8) (n := 0) (v := 0) rfl rfl ?_
  refine eb_istore (pc := 9) (i := 4) (ls2 := [(4, .int 0), (3, .int (eb_I h s_m_all (51 : Int32).toNatClampNeg)), (0, .ref s_MO), (1, .int x1), (2, .int x2)]) (Nat.le_of_ble_eq_true rfl) rfl rfl ?_
  refine eb_iconst (pc := 11) (n := 0) (v := 0) rfl rfl ?_
  refine eb_istore (pc := 12) (i := 5) (ls2 := [(5, .int 0), (4, .int 0), (3, .int (eb_I h s_m_all (51 : Int32).toNatClampNeg)), (0, .ref s_MO), (1, .int x1), (2, .int x2)]) (Nat.le_of_ble_eq_true rfl) rfl rfl ?_
  exact eb_pick [3, 4, 5, 2, 1, 0] rfl w
theorem b_X11_mostAlike_14 {d : Nat} {h0 h : eb_H} {Q : Option Value → eb_H → Prop} (x1 : Int32) (x2 : Int32) (x3 : Int32) (x4 : Int32) (x5 : Int32)  (ko : eb_KO h) (w : (((10 : Int32) ≤ x5 → eb_Sn (d + 1) m_X11_mostAlike h0 92 [(0, .ref s_MO), (4, .int x4), (5, .int 0)] [] (eb_sI h s_m_all (51 : Int32).toNatClampNeg x3) Q) ∧ (¬ ((10 : Int32) ≤ x5) → eb_Ct d 169 [.long x2.toInt64, .int x5] (eb_sI h s_m_all (51 : Int32).toNatClampNeg x5) (fun r h2 => ∃ y3, r = some (.int y3) ∧ eb_KO h2 ∧ ((¬ y3 = 0 → eb_Ct d 203 [.ref s_MO, .int x1] h2 (fun r h6 => ∃ y7, r = some (.int y7) ∧ eb_KO h6 ∧ ((¬ y7 = 0 → eb_Ct d 195 [.ref s_MO] h6 (fun r h10 => ∃ y11, r = some (.int y11) ∧ eb_KO h10 ∧ (vp_in x5 10) ∧ eb_Sn (d + 1) m_X11_mostAlike h0 14 [(0, .ref s_MO), (1, .int x1), (2, .int x2), (3, .int x3), (4, .int x4), (5, .int (x5 + 1))] [] (eb_sI h10 s_m_standBy x5.toNatClampNeg y11) Q)) ∧ (y7 = 0 → eb_Ct d 195 [.ref s_MO] h6 (fun r h14 => ∃ y15, r = some (.int y15) ∧ eb_KO h14 ∧ eb_Ct d 200 [.ref s_MO, .int y15, .int x1] h14 (fun r h17 => ∃ y18, r = some (.int y18) ∧ eb_KO h17 ∧ (vp_in x5 10) ∧ eb_Sn (d + 1) m_X11_mostAlike h0 14 [(0, .ref s_MO), (1, .int x1), (2, .int x2), (3, .int x3), (4, .int x4), (5, .int (x5 + 1))] [] (eb_sI h17 s_m_standBy x5.toNatClampNeg y18) Q)))))) ∧ (y3 = 0 → (vp_in x5 10) ∧ eb_Sn (d + 1) m_X11_mostAlike h0 14 [(0, .ref s_MO), (1, .int x1), (2, .int x2), (3, .int x3), (4, .int x4), (5, .int (x5 + 1))] [] (eb_sI h2 s_m_standBy x5.toNatClampNeg (-1)) Q)))))) : eb_Sn (d + 1) m_X11_mostAlike h0 14 [(0, .ref s_MO), (1, .int x1), (2, .int x2), (3, .int x3), (4, .int x4), (5, .int x5)] [] h Q := by
  refine eb_iload (pc := 14) (i := 5) rfl rfl ?_
  refine eb_bipush (pc := 16) (n := 10) (v := 10) rfl rfl ?_
  refine eb_icmp_ge (pc := 18) (tgt := 81) rfl (by decide) (fun c1 => ?_) (fun c1 => ?_)
  · replace w := w.1 c1
    refine eb_aload_n (pc := 81) (n := 0) (i := 0) rfl rfl rfl ?_
    refine eb_getR (pc := 82) rfl rfl (by decide) (by decide) rfl (ko_s_MO_1 ko) ?_
    refine eb_bipush (pc := 85) (n := 51) (v := 51) rfl rfl ?_
    refine eb_iload_n (pc := 87) (n := 3) (i := 3) rfl rfl rfl ?_
    refine eb_iastore (pc := 88) rfl rfl (by unfold vp_in; decide) ?_
    refine eb_iconst (pc := 89) (n := 0) (v := 0) rfl rfl ?_
    refine eb_istore (pc := 90) (i := 5) (ls2 := [(5, .int 0), (0, .ref s_MO), (1, .int x1), (2, .int x2), (3, .int x3), (4, .int x4)]) (Nat.le_of_ble_eq_true rfl) rfl rfl ?_
    exact eb_pick [1, 5, 0] rfl w
  · replace w := w.2 c1
    refine eb_aload_n (pc := 21) (n := 0) (i := 0) rfl rfl rfl ?_
    refine eb_getR (pc := 22) rfl rfl (by decide) (by decide) rfl (ko_s_MO_1 ko) ?_
    refine eb_bipush (pc := 25) (n := 51) (v := 51) rfl rfl ?_
    refine eb_iload (pc := 27) (i := 5) rfl rfl ?_
    refine eb_iastore (pc := 29) rfl rfl (by unfold vp_in; decide) ?_
    refine eb_aload_n (pc := 30) (n := 0) (i := 0) rfl rfl rfl ?_
    refine eb_getR (pc := 31) rfl rfl (by decide) (by decide) rfl (ko_s_MO_27 ko) ?_
    refine eb_iload (pc := 34) (i := 5) rfl rfl ?_
    refine eb_iload_n (pc := 36) (n := 2) (i := 2) rfl rfl rfl ?_
    refine eb_i2l (pc := 37) rfl ?_
    refine eb_iload (pc := 38) (i := 5) rfl rfl ?_
    refine eb_ctS (pc := 40) (As := [.long x2.toInt64, .int x5]) (rest := [.int x5, .ref s_m_standBy]) rfl (by decide) (by decide) rfl rfl (Nat.le_of_ble_eq_true rfl) ?_
    refine eb_Ct.mono w ?_
    rintro r h2 ⟨y3, rfl, ko4, w⟩
    change eb_Sn _ _ _ 43 _ [.int y3, .int x5, .ref s_m_standBy] _ _
    refine eb_if_ne (pc := 43) (tgt := 50) rfl (by decide) (fun c5 => ?_) (fun c5 => ?_)
    · replace w := w.1 c5
      refine eb_aload_n (pc := 50) (n := 0) (i := 0) rfl rfl rfl ?_
      refine eb_iload_n (pc := 51) (n := 1) (i := 1) rfl rfl rfl ?_
      refine eb_ctV (pc := 52) (As := [.int x1]) (rest := [.int x5, .ref s_m_standBy]) rfl (by decide) rfl rfl (by decide) rfl (Nat.le_of_ble_eq_true rfl) ?_
      refine eb_Ct.mono w ?_
      rintro r h6 ⟨y7, rfl, ko8, w⟩
      change eb_Sn _ _ _ 55 _ [.int y7, .int x5, .ref s_m_standBy] _ _
      refine eb_if_ne (pc := 55) (tgt := 70) rfl (by decide) (fun c9 => ?_) (fun c9 => ?_)
      · replace w := w.1 c9
        refine eb_aload_n (pc := 70) (n := 0) (i := 0) rfl rfl rfl ?_
        refine eb_ctV (pc := 71) (As := []) (rest := [.int x5, .ref s_m_standBy]) rfl (by decide) rfl rfl (by decide) rfl (Nat.le_of_ble_eq_true rfl) ?_
        refine eb_Ct.mono w ?_
        rintro r h10 ⟨y11, rfl, ko12, w⟩
        change eb_Sn _ _ _ 74 _ [.int y11, .int x5, .ref s_m_standBy] _ _
        obtain ⟨c13, w⟩ := w
        refine eb_iastore (pc := 74) rfl rfl c13 ?_
        refine eb_iinc (pc := 75) (i := 5) (n := 1) (v := x5 + 1) (ls2 := [(5, .int (x5 + 1)), (0, .ref s_MO), (1, .int x1), (2, .int x2), (3, .int x3), (4, .int x4)]) (Nat.le_of_ble_eq_true rfl) rfl rfl rfl rfl ?_
        refine eb_goto (pc := 78) (tgt := 14) rfl (by decide) ?_
        exact eb_pick [1, 2, 3, 4, 5, 0] rfl w
      · replace w := w.2 c9
        refine eb_aload_n (pc := 58) (n := 0) (i := 0) rfl rfl rfl ?_
        refine eb_aload_n (pc := 59) (n := 0) (i := 0) rfl rfl rfl ?_
        refine eb_ctV (pc := 60) (As := []) (rest := [.ref s_MO, .int x5, .ref s_m_standBy]) rfl (by decide) rfl rfl (by decide) rfl (Nat.le_of_ble_eq_true rfl) ?_
        refine eb_Ct.mono w ?_
        rintro r h14 ⟨y15, rfl, ko16, w⟩
        change eb_Sn _ _ _ 63 _ [.int y15, .ref s_MO, .int x5, .ref s_m_standBy] _ _
        refine eb_iload_n (pc := 63) (n := 1) (i := 1) rfl rfl rfl ?_
        refine eb_ctV (pc := 64) (As := [.int y15, .int x1]) (rest := [.int x5, .ref s_m_standBy]) rfl (by decide) rfl rfl (by decide) rfl (Nat.le_of_ble_eq_true rfl) ?_
        refine eb_Ct.mono w ?_
        rintro r h17 ⟨y18, rfl, ko19, w⟩
        change eb_Sn _ _ _ 67 _ [.int y18, .int x5, .ref s_m_standBy] _ _
        refine eb_goto (pc := 67) (tgt := 74) rfl (by decide) ?_
        obtain ⟨c20, w⟩ := w
        refine eb_iastore (pc := 74) rfl rfl c20 ?_
        refine eb_iinc (pc := 75) (i := 5) (n := 1) (v := x5 + 1) (ls2 := [(5, .int (x5 + 1)), (0, .ref s_MO), (1, .int x1), (2, .int x2), (3, .int x3), (4, .int x4)]) (Nat.le_of_ble_eq_true rfl) rfl rfl rfl rfl ?_
        refine eb_goto (pc := 78) (tgt := 14) rfl (by decide) ?_
        exact eb_pick [1, 2, 3, 4, 5, 0] rfl w
    · replace w := w.2 c5
      refine eb_iconst (pc := 46) (n := -1) (v := (-1)) rfl rfl ?_
      refine eb_goto (pc := 47) (tgt := 74) rfl (by decide) ?_
      obtain ⟨c21, w⟩ := w
      refine eb_iastore (pc := 74) rfl rfl c21 ?_
      refine eb_iinc (pc := 75) (i := 5) (n := 1) (v := x5 + 1) (ls2 := [(5, .int (x5 + 1)), (0, .ref s_MO), (1, .int x1), (2, .int x2), (3, .int x3), (4, .int x4)]) (Nat.le_of_ble_eq_true rfl) rfl rfl rfl rfl ?_
      refine eb_goto (pc := 78) (tgt := 14) rfl (by decide) ?_
      exact eb_pick [1, 2, 3, 4, 5, 0] rfl w
theorem b_X11_mostAlike_92 {d : Nat} {h0 h : eb_H} {Q : Option Value → eb_H → Prop} (x4 : Int32) (x5 : Int32)  (ko : eb_KO h) (w : (((10 : Int32) ≤ x5 → Q (some (.int x4)) h) ∧ (¬ ((10 : Int32) ≤ x5) → eb_Sn (d + 1) m_X11_mostAlike h0 105 [(0, .ref s_MO), (4, .int x4), (5, .int x5), (6, .int 0), (7, .int 0)] [] h Q))) : eb_Sn (d + 1) m_X11_mostAlike h0 92 [(0, .ref s_MO), (4, .int x4), (5, .int x5)] [] h Q := by
  refine eb_iload (pc := 92) (i := 5) rfl rfl ?_
  refine eb_bipush (pc := 94) (n := 10) (v := 10) rfl rfl ?_
  refine eb_icmp_ge (pc := 96) (tgt := 178) rfl (by decide) (fun c1 => ?_) (fun c1 => ?_)
  · replace w := w.1 c1
    refine eb_iload (pc := 178) (i := 4) rfl rfl ?_
    exact eb_ireturn (pc := 180) rfl rfl rfl w
  · replace w := w.2 c1
    refine eb_iconst (pc := 99) (n := 0) (v := 0) rfl rfl ?_
    refine eb_istore (pc := 100) (i := 6) (ls2 := [(6, .int 0), (0, .ref s_MO), (4, .int x4), (5, .int x5)]) (Nat.le_of_ble_eq_true rfl) rfl rfl ?_
    refine eb_iconst (pc := 102) (n := 0) (v := 0) rfl rfl ?_
    refine eb_istore (pc := 103) (i := 7) (ls2 := [(7, .int 0), (6, .int 0), (0, .ref s_MO), (4, .int x4), (5, .int x5)]) (Nat.le_of_ble_eq_true rfl) rfl rfl ?_
    exact eb_pick [2, 3, 4, 1, 0] rfl w
theorem b_X11_mostAlike_105 {d : Nat} {h0 h : eb_H} {Q : Option Value → eb_H → Prop} (x4 : Int32) (x5 : Int32) (x6 : Int32) (x7 : Int32)  (ko : eb_KO h) (w : (((10 : Int32) ≤ x7 → eb_Sn (d + 1) m_X11_mostAlike h0 92 [(0, .ref s_MO), (4, .int (if x6 ≤ x4 then x4 else x6 : Int32)), (5, .int (x5 + 1))] [] h Q) ∧ (¬ ((10 : Int32) ≤ x7) → (vp_in x5 10) ∧ (((eb_I h s_m_standBy x5.toNatClampNeg) = ((-1) : Int32) → eb_Sn (d + 1) m_X11_mostAlike h0 105 [(0, .ref s_MO), (4, .int x4), (5, .int x5), (6, .int (x6 + 0)), (7, .int (x7 + 1))] [] h Q) ∧ (¬ ((eb_I h s_m_standBy x5.toNatClampNeg) = ((-1) : Int32)) → (vp_in x7 10) ∧ (vp_in x5 10) ∧ eb_Sn (d + 1) m_X11_mostAlike h0 105 [(0, .ref s_MO), (4, .int x4), (5, .int x5), (6, .int (x6 + (if (eb_I h s_m_standBy x7.toNatClampNeg) = (eb_I h s_m_standBy x5.toNatClampNeg) then 1 else 0 : Int32))), (7, .int (x7 + 1))] [] h Q))))) : eb_Sn (d + 1) m_X11_mostAlike h0 105 [(0, .ref s_MO), (4, .int x4), (5, .int x5), (6, .int x6), (7, .int x7)] [] h Q := by
  refine eb_iload (pc := 105) (i := 7) rfl rfl ?_
  refine eb_bipush (pc := 107) (n := 10) (v := 10) rfl rfl ?_
  refine eb_icmp_ge (pc := 109) (tgt := 156) rfl (by decide) (fun c1 => ?_) (fun c1 => ?_)
  · replace w := w.1 c1
    refine eb_iload (pc := 156) (i := 6) rfl rfl ?_
    refine eb_iload (pc := 158) (i := 4) rfl rfl ?_
    have jj3 : eb_Sn (d + 1) m_X11_mostAlike h0 170 [(0, .ref s_MO), (4, .int x4), (5, .int x5), (6, .int x6), (7, .int x7)] [.int (if x6 ≤ x4 then x4 else x6 : Int32)] h Q := by
      refine eb_istore (pc := 170) (i := 4) (ls2 := [(4, .int (if x6 ≤ x4 then x4 else x6 : Int32)), (0, .ref s_MO), (5, .int x5), (6, .int x6), (7, .int x7)]) (Nat.le_of_ble_eq_true rfl) rfl rfl ?_
      refine eb_iinc (pc := 172) (i := 5) (n := 1) (v := x5 + 1) (ls2 := [(5, .int (x5 + 1)), (4, .int (if x6 ≤ x4 then x4 else x6 : Int32)), (0, .ref s_MO), (6, .int x6), (7, .int x7)]) (Nat.le_of_ble_eq_true rfl) rfl rfl rfl rfl ?_
      refine eb_goto (pc := 175) (tgt := 92) rfl (by decide) ?_
      exact eb_pick [2, 1, 0] rfl w
    refine eb_icmp_le (pc := 160) (tgt := 168) rfl (by decide) (fun c2 => ?_) (fun c2 => ?_)
    · refine eb_iload (pc := 168) (i := 4) rfl rfl ?_
      simp only [if_pos c2] at jj3 ⊢
      exact jj3
    · refine eb_iload (pc := 163) (i := 6) rfl rfl ?_
      refine eb_goto (pc := 165) (tgt := 170) rfl (by decide) ?_
      simp only [if_neg c2] at jj3 ⊢
      exact jj3
  · replace w := w.2 c1
    refine eb_iload (pc := 112) (i := 6) rfl rfl ?_
    refine eb_aload_n (pc := 114) (n := 0) (i := 0) rfl rfl rfl ?_
    refine eb_getR (pc := 115) rfl rfl (by decide) (by decide) rfl (ko_s_MO_27 ko) ?_
    refine eb_iload (pc := 118) (i := 5) rfl rfl ?_
    obtain ⟨c4, w⟩ := w
    refine eb_iaload (pc := 120) rfl rfl c4 ?_
    refine eb_iconst (pc := 121) (n := -1) (v := (-1)) rfl rfl ?_
    refine eb_icmp_eq (pc := 122) (tgt := 146) rfl (by decide) (fun c5 => ?_) (fun c5 => ?_)
    · replace w := w.1 c5
      refine eb_iconst (pc := 146) (n := 0) (v := 0) rfl rfl ?_
      refine eb_iadd (pc := 147) rfl ?_
      refine eb_istore (pc := 148) (i := 6) (ls2 := [(6, .int (x6 + 0)), (0, .ref s_MO), (4, .int x4), (5, .int x5), (7, .int x7)]) (Nat.le_of_ble_eq_true rfl) rfl rfl ?_
      refine eb_iinc (pc := 150) (i := 7) (n := 1) (v := x7 + 1) (ls2 := [(7, .int (x7 + 1)), (6, .int (x6 + 0)), (0, .ref s_MO), (4, .int x4), (5, .int x5)]) (Nat.le_of_ble_eq_true rfl) rfl rfl rfl rfl ?_
      refine eb_goto (pc := 153) (tgt := 105) rfl (by decide) ?_
      exact eb_pick [2, 3, 4, 1, 0] rfl w
    · replace w := w.2 c5
      refine eb_aload_n (pc := 125) (n := 0) (i := 0) rfl rfl rfl ?_
      refine eb_getR (pc := 126) rfl rfl (by decide) (by decide) rfl (ko_s_MO_27 ko) ?_
      refine eb_iload (pc := 129) (i := 7) rfl rfl ?_
      obtain ⟨c6, w⟩ := w
      refine eb_iaload (pc := 131) rfl rfl c6 ?_
      refine eb_aload_n (pc := 132) (n := 0) (i := 0) rfl rfl rfl ?_
      refine eb_getR (pc := 133) rfl rfl (by decide) (by decide) rfl (ko_s_MO_27 ko) ?_
      refine eb_iload (pc := 136) (i := 5) rfl rfl ?_
      obtain ⟨c7, w⟩ := w
      refine eb_iaload (pc := 138) rfl rfl c7 ?_
      have jj9 : eb_Sn (d + 1) m_X11_mostAlike h0 147 [(0, .ref s_MO), (4, .int x4), (5, .int x5), (6, .int x6), (7, .int x7)] [.int (if (eb_I h s_m_standBy x7.toNatClampNeg) = (eb_I h s_m_standBy x5.toNatClampNeg) then 1 else 0 : Int32), .int x6] h Q := by
        refine eb_iadd (pc := 147) rfl ?_
        refine eb_istore (pc := 148) (i := 6) (ls2 := [(6, .int (x6 + (if (eb_I h s_m_standBy x7.toNatClampNeg) = (eb_I h s_m_standBy x5.toNatClampNeg) then 1 else 0 : Int32))), (0, .ref s_MO), (4, .int x4), (5, .int x5), (7, .int x7)]) (Nat.le_of_ble_eq_true rfl) rfl rfl ?_
        refine eb_iinc (pc := 150) (i := 7) (n := 1) (v := x7 + 1) (ls2 := [(7, .int (x7 + 1)), (6, .int (x6 + (if (eb_I h s_m_standBy x7.toNatClampNeg) = (eb_I h s_m_standBy x5.toNatClampNeg) then 1 else 0 : Int32))), (0, .ref s_MO), (4, .int x4), (5, .int x5)]) (Nat.le_of_ble_eq_true rfl) rfl rfl rfl rfl ?_
        refine eb_goto (pc := 153) (tgt := 105) rfl (by decide) ?_
        exact eb_pick [2, 3, 4, 1, 0] rfl w
      refine eb_icmp_ne (pc := 139) (tgt := 146) rfl (by decide) (fun c8 => ?_) (fun c8 => ?_)
      · refine eb_iconst (pc := 146) (n := 0) (v := 0) rfl rfl ?_
        simp only [if_neg c8] at jj9 ⊢
        exact jj9
      · refine eb_iconst (pc := 142) (n := 1) (v := 1) rfl rfl ?_
        refine eb_goto (pc := 143) (tgt := 147) rfl (by decide) ?_
        simp only [if_pos c8] at jj9 ⊢
        exact jj9
theorem T_X11_mostAlike {d : Nat} {h : eb_H} {Q : Option Value → eb_H → Prop} (x1 : Int32) (x2 : Int32)  (ko : eb_KO h) (w : eb_Sn (d + 1) m_X11_mostAlike h 14 [(0, .ref s_MO), (1, .int x1), (2, .int x2), (3, .int (eb_I h s_m_all (51 : Int32).toNatClampNeg)), (4, .int 0), (5, .int 0)] [] h Q) : eb_Ct (d + 1) 259 [.ref s_MO, .int x1, .int x2] h Q :=
  eb_bodyQ (by decide) ok_X11_mostAlike (Nat.le_of_ble_eq_true rfl) (b_X11_mostAlike_0 (h0 := h) x1 x2  ko w)
