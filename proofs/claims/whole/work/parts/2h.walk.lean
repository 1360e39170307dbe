theorem b_X11_codes_0 {d : Nat} {h0 h : eb_H} {Q : Option Value → eb_H → Prop} (x1 : Int32)  (ko : eb_KO h) (w : (((eb_I h s_MO 11) = 0 → (vp_in ((264 : Int32) + (eb_I h s_m_fresh (263 : Int32).toNatClampNeg)) 1164) ∧ Q none (eb_sI (eb_sI h s_m_fresh ((264 : Int32) + (eb_I h s_m_fresh (263 : Int32).toNatClampNeg)).toNatClampNeg x1) s_m_fresh (263 : Int32).toNatClampNeg ((eb_I (eb_sI h s_m_fresh ((264 : Int32) + (eb_I h s_m_fresh (263 : Int32).toNatClampNeg)).toNatClampNeg x1) s_m_fresh (263 : Int32).toNatClampNeg) + 1))) ∧ (¬ ((eb_I h s_MO 11) = 0) → Q none h))) : eb_Sn d m_X11_codes h0 0 [(0, .ref s_MO), (1, .int x1)] [] h Q := by
  refine eb_aload_n (pc := 0) (n := 0) (i := 0) rfl rfl rfl ?_
  refine eb_getI (pc := 1) rfl rfl (by decide) (by decide) rfl ?_
  refine eb_if_eq (pc := 4) (tgt := 8) rfl (by decide) (fun c1 => ?_) (fun c1 => ?_)
  · replace w := w.1 c1
    refine eb_aload_n (pc := 8) (n := 0) (i := 0) rfl rfl rfl ?_
    refine eb_getR (pc := 9) rfl rfl (by decide) (by decide) rfl (ko_s_MO_4 ko) ?_
    refine eb_sipush (pc := 12) (n := 264) (v := 264) rfl rfl ?_
    refine eb_aload_n (pc := 15) (n := 0) (i := 0) rfl rfl rfl ?_
    refine eb_getR (pc := 16) rfl rfl (by decide) (by decide) rfl (ko_s_MO_4 ko) ?_
    refine eb_sipush (pc := 19) (n := 263) (v := 263) rfl rfl ?_
    refine eb_iaload (pc := 22) rfl rfl (by decide) (by unfold vp_in; decide) ?_
    refine eb_iadd (pc := 23) rfl ?_
    refine eb_iload_n (pc := 24) (n := 1) (i := 1) rfl rfl rfl ?_
    obtain ⟨c2, w⟩ := w
    refine eb_iastore (pc := 25) rfl rfl (by decide) c2 ?_
    refine eb_aload_n (pc := 26) (n := 0) (i := 0) rfl rfl rfl ?_
    refine eb_getR (pc := 27) rfl rfl (by decide) (by decide) rfl (ko_s_MO_4 ko) ?_
    refine eb_sipush (pc := 30) (n := 263) (v := 263) rfl rfl ?_
    refine eb_dup2 (pc := 33) rfl ?_
    refine eb_iaload (pc := 34) rfl rfl (by decide) (by unfold vp_in; decide) ?_
    refine eb_iconst (pc := 35) (n := 1) (v := 1) rfl rfl ?_
    refine eb_iadd (pc := 36) rfl ?_
    refine eb_iastore (pc := 37) rfl rfl (by decide) (by unfold vp_in; decide) ?_
    exact eb_return (pc := 38) rfl rfl w
  · replace w := w.2 c1
    exact eb_return (pc := 7) rfl rfl w
theorem T_X11_codes {d : Nat} {h : eb_H} {Q : Option Value → eb_H → Prop} (x1 : Int32)  (ko : eb_KO h) (w : (((eb_I h s_MO 11) = 0 → (vp_in ((264 : Int32) + (eb_I h s_m_fresh (263 : Int32).toNatClampNeg)) 1164) ∧ Q none (eb_sI (eb_sI h s_m_fresh ((264 : Int32) + (eb_I h s_m_fresh (263 : Int32).toNatClampNeg)).toNatClampNeg x1) s_m_fresh (263 : Int32).toNatClampNeg ((eb_I (eb_sI h s_m_fresh ((264 : Int32) + (eb_I h s_m_fresh (263 : Int32).toNatClampNeg)).toNatClampNeg x1) s_m_fresh (263 : Int32).toNatClampNeg) + 1))) ∧ (¬ ((eb_I h s_MO 11) = 0) → Q none h))) : eb_Ct d 171 [.ref s_MO, .int x1] h Q :=
  eb_bodyQ (by decide) ok_X11_codes (Nat.le_of_ble_eq_true rfl) (b_X11_codes_0 (h0 := h) x1  ko w)
theorem b_X11_goesIn_0 {d : Nat} {h0 h : eb_H} {Q : Option Value → eb_H → Prop} (x1 : Int32)  (ko : eb_KO h) (w : ((¬ x1 = (6 : Int32) → ((¬ (eb_I h s_MO 11) = 0 → Q (some (.int 0)) h) ∧ ((eb_I h s_MO 11) = 0 → eb_Ct d 164 [.ref s_MO] h (fun r h3 => r = none ∧ eb_KO h3 ∧ Q (some (.int (eb_q ((eb_I h3 s_MO 11) = 0)))) h3)))) ∧ (x1 = (6 : Int32) → eb_Ct d 165 [.ref s_MO, .int 4] h (fun r h9 => r = none ∧ eb_KO h9 ∧ ((¬ (eb_I h9 s_MO 11) = 0 → Q (some (.int 0)) h9) ∧ ((eb_I h9 s_MO 11) = 0 → eb_Ct d 164 [.ref s_MO] h9 (fun r h13 => r = none ∧ eb_KO h13 ∧ Q (some (.int (eb_q ((eb_I h13 s_MO 11) = 0)))) h13))))))) : eb_Sn (d + 1) m_X11_goesIn h0 0 [(0, .ref s_MO), (1, .int x1)] [] h Q := by
  refine eb_iload_n (pc := 0) (n := 1) (i := 1) rfl rfl rfl ?_
  refine eb_bipush (pc := 1) (n := 6) (v := 6) rfl rfl ?_
  refine eb_icmp_ne (pc := 3) (tgt := 11) rfl (by decide) (fun c1 => ?_) (fun c1 => ?_)
  · replace w := w.1 c1
    refine eb_aload_n (pc := 11) (n := 0) (i := 0) rfl rfl rfl ?_
    refine eb_getI (pc := 12) rfl rfl (by decide) (by decide) rfl ?_
    refine eb_if_ne (pc := 15) (tgt := 22) rfl (by decide) (fun c2 => ?_) (fun c2 => ?_)
    · replace w := w.1 c2
      refine eb_aload_n (pc := 22) (n := 0) (i := 0) rfl rfl rfl ?_
      refine eb_getI (pc := 23) rfl rfl (by decide) (by decide) rfl ?_
      refine eb_if_ne (pc := 26) (tgt := 33) rfl (by decide) (fun _ => ?_) (fun c => by have c9 := c; contradiction)
      refine eb_iconst (pc := 33) (n := 0) (v := 0) rfl rfl ?_
      exact eb_ireturn (pc := 34) rfl rfl (by decide) w
    · replace w := w.2 c2
      refine eb_aload_n (pc := 18) (n := 0) (i := 0) rfl rfl rfl ?_
      refine eb_ctV (pc := 19) (As := []) (rest := []) rfl (by decide) rfl rfl (by decide) rfl (Nat.le_of_ble_eq_true rfl) ?_
      refine eb_Ct.mono w ?_
      rintro r h3 ⟨rfl, ko5, w⟩
      change eb_Sn _ _ _ 22 _ [] _ _
      refine eb_aload_n (pc := 22) (n := 0) (i := 0) rfl rfl rfl ?_
      refine eb_getI (pc := 23) rfl rfl (by decide) (by decide) rfl ?_
      refine eb_joinI (pc2 := 34) (ls2 := [(0, .ref s_MO), (1, .int x1)]) (st2 := []) (v := eb_q ((eb_I h3 s_MO 11) = 0)) ?_ (fun jj7 => ?_)
      · exact eb_ireturn (pc := 34) rfl rfl eb_qn w
      refine eb_if_ne (pc := 26) (tgt := 33) rfl (by decide) (fun c6 => ?_) (fun c6 => ?_)
      · refine eb_iconst (pc := 33) (n := 0) (v := 0) rfl rfl ?_
        exact jj7 0 (eb_qf c6).symm
      · refine eb_iconst (pc := 29) (n := 1) (v := 1) rfl rfl ?_
        refine eb_goto (pc := 30) (tgt := 34) rfl (by decide) ?_
        exact jj7 1 (eb_qt c6).symm
  · replace w := w.2 c1
    refine eb_aload_n (pc := 6) (n := 0) (i := 0) rfl rfl rfl ?_
    refine eb_iconst (pc := 7) (n := 4) (v := 4) rfl rfl ?_
    refine eb_ctV (pc := 8) (As := [.int 4]) (rest := []) rfl (by decide) rfl rfl (by decide) rfl (Nat.le_of_ble_eq_true rfl) ?_
    refine eb_Ct.mono w ?_
    rintro r h9 ⟨rfl, ko11, w⟩
    change eb_Sn _ _ _ 11 _ [] _ _
    refine eb_aload_n (pc := 11) (n := 0) (i := 0) rfl rfl rfl ?_
    refine eb_getI (pc := 12) rfl rfl (by decide) (by decide) rfl ?_
    refine eb_if_ne (pc := 15) (tgt := 22) rfl (by decide) (fun c12 => ?_) (fun c12 => ?_)
    · replace w := w.1 c12
      refine eb_aload_n (pc := 22) (n := 0) (i := 0) rfl rfl rfl ?_
      refine eb_getI (pc := 23) rfl rfl (by decide) (by decide) rfl ?_
      refine eb_if_ne (pc := 26) (tgt := 33) rfl (by decide) (fun _ => ?_) (fun c => by have c9 := c; contradiction)
      refine eb_iconst (pc := 33) (n := 0) (v := 0) rfl rfl ?_
      exact eb_ireturn (pc := 34) rfl rfl (by decide) w
    · replace w := w.2 c12
      refine eb_aload_n (pc := 18) (n := 0) (i := 0) rfl rfl rfl ?_
      refine eb_ctV (pc := 19) (As := []) (rest := []) rfl (by decide) rfl rfl (by decide) rfl (Nat.le_of_ble_eq_true rfl) ?_
      refine eb_Ct.mono w ?_
      rintro r h13 ⟨rfl, ko15, w⟩
      change eb_Sn _ _ _ 22 _ [] _ _
      refine eb_aload_n (pc := 22) (n := 0) (i := 0) rfl rfl rfl ?_
      refine eb_getI (pc := 23) rfl rfl (by decide) (by decide) rfl ?_
      refine eb_joinI (pc2 := 34) (ls2 := [(0, .ref s_MO), (1, .int x1)]) (st2 := []) (v := eb_q ((eb_I h13 s_MO 11) = 0)) ?_ (fun jj17 => ?_)
      · exact eb_ireturn (pc := 34) rfl rfl eb_qn w
      refine eb_if_ne (pc := 26) (tgt := 33) rfl (by decide) (fun c16 => ?_) (fun c16 => ?_)
      · refine eb_iconst (pc := 33) (n := 0) (v := 0) rfl rfl ?_
        exact jj17 0 (eb_qf c16).symm
      · refine eb_iconst (pc := 29) (n := 1) (v := 1) rfl rfl ?_
        refine eb_goto (pc := 30) (tgt := 34) rfl (by decide) ?_
        exact jj17 1 (eb_qt c16).symm
theorem T_X11_goesIn {d : Nat} {h : eb_H} {Q : Option Value → eb_H → Prop} (x1 : Int32)  (ko : eb_KO h) (w : ((¬ x1 = (6 : Int32) → ((¬ (eb_I h s_MO 11) = 0 → Q (some (.int 0)) h) ∧ ((eb_I h s_MO 11) = 0 → eb_Ct d 164 [.ref s_MO] h (fun r h3 => r = none ∧ eb_KO h3 ∧ Q (some (.int (eb_q ((eb_I h3 s_MO 11) = 0)))) h3)))) ∧ (x1 = (6 : Int32) → eb_Ct d 165 [.ref s_MO, .int 4] h (fun r h9 => r = none ∧ eb_KO h9 ∧ ((¬ (eb_I h9 s_MO 11) = 0 → Q (some (.int 0)) h9) ∧ ((eb_I h9 s_MO 11) = 0 → eb_Ct d 164 [.ref s_MO] h9 (fun r h13 => r = none ∧ eb_KO h13 ∧ Q (some (.int (eb_q ((eb_I h13 s_MO 11) = 0)))) h13))))))) : eb_Ct (d + 1) 172 [.ref s_MO, .int x1] h Q :=
  eb_bodyQ (by decide) ok_X11_goesIn (Nat.le_of_ble_eq_true rfl) (b_X11_goesIn_0 (h0 := h) x1  ko w)
theorem b_X11_readAtom_0 {d : Nat} {h0 h : eb_H} {Q : Option Value → eb_H → Prop} (x1 : Int32)  (ko : eb_KO h) (w : eb_Ct d 166 [.ref s_MO, .int 23] h (fun r h1 => ∃ y2, r = some (.int y2) ∧ eb_KO h1 ∧ ((y2 = 0 → ((¬ (eb_I h1 s_MO 11) = 0 → eb_Ct d 166 [.ref s_MO, .int 35] h1 (fun r h6 => ∃ y7, r = some (.int y7) ∧ eb_KO h6 ∧ ((y7 = 0 → eb_Ct d 165 [.ref s_MO, .int 2] h6 (fun r h10 => r = none ∧ eb_KO h10 ∧ Q none h10)) ∧ (¬ (y7 = 0) → eb_Ct d 172 [.ref s_MO, .int x1] h6 (fun r h13 => ∃ y14, r = some (.int y14) ∧ eb_KO h13 ∧ ((¬ y14 = 0 → eb_Ct d 175 [.ref s_MO, .int (x1 + 1)] h13 (fun r h17 => r = none ∧ eb_KO h17 ∧ eb_Ct d 167 [.ref s_MO, .int 36] h17 (fun r h20 => ∃ y21, r = some (.int y21) ∧ eb_KO h20 ∧ ((¬ y21 = 0 → Q none h20) ∧ (y21 = 0 → eb_Ct d 165 [.ref s_MO, .int 2] h20 (fun r h24 => r = none ∧ eb_KO h24 ∧ Q none h24)))))) ∧ (y14 = 0 → Q none h13))))))) ∧ ((eb_I h1 s_MO 11) = 0 → eb_Ct d 170 [.ref s_MO, .int (eb_I h1 s_MO 9)] h1 (fun r h27 => ∃ y28, r = some (.int y28) ∧ eb_KO h27 ∧ ((y28 = ((-1) : Int32) → eb_Ct d 166 [.ref s_MO, .int 35] h27 (fun r h31 => ∃ y32, r = some (.int y32) ∧ eb_KO h31 ∧ ((y32 = 0 → eb_Ct d 165 [.ref s_MO, .int 2] h31 (fun r h35 => r = none ∧ eb_KO h35 ∧ Q none h35)) ∧ (¬ (y32 = 0) → eb_Ct d 172 [.ref s_MO, .int x1] h31 (fun r h38 => ∃ y39, r = some (.int y39) ∧ eb_KO h38 ∧ ((¬ y39 = 0 → eb_Ct d 175 [.ref s_MO, .int (x1 + 1)] h38 (fun r h42 => r = none ∧ eb_KO h42 ∧ eb_Ct d 167 [.ref s_MO, .int 36] h42 (fun r h45 => ∃ y46, r = some (.int y46) ∧ eb_KO h45 ∧ ((¬ y46 = 0 → Q none h45) ∧ (y46 = 0 → eb_Ct d 165 [.ref s_MO, .int 2] h45 (fun r h49 => r = none ∧ eb_KO h49 ∧ Q none h49)))))) ∧ (y39 = 0 → Q none h38))))))) ∧ (¬ (y28 = ((-1) : Int32)) → eb_Ct d 170 [.ref s_MO, .int (eb_I h27 s_MO 9)] h27 (fun r h52 => ∃ y53, r = some (.int y53) ∧ eb_KO h52 ∧ eb_Ct d 171 [.ref s_MO, .int ((1000 : Int32) + y53)] h52 (fun r h55 => r = none ∧ eb_KO h55 ∧ eb_Ct d 164 [.ref s_MO] h55 (fun r h58 => r = none ∧ eb_KO h58 ∧ Q none h58))))))))) ∧ (¬ (y2 = 0) → eb_Ct d 171 [.ref s_MO, .int (eb_I h1 s_MO 10)] h1 (fun r h61 => r = none ∧ eb_KO h61 ∧ eb_Ct d 164 [.ref s_MO] h61 (fun r h64 => r = none ∧ eb_KO h64 ∧ Q none h64)))))) : eb_Sn (d + 1) m_X11_readAtom h0 0 [(0, .ref s_MO), (1, .int x1)] [] h Q := by
  refine eb_aload_n (pc := 0) (n := 0) (i := 0) rfl rfl rfl ?_
  refine eb_bipush (pc := 1) (n := 23) (v := 23) rfl rfl ?_
  refine eb_ctV (pc := 3) (As := [.int 23]) (rest := []) rfl (by decide) rfl rfl (by decide) rfl (Nat.le_of_ble_eq_true rfl) ?_
  refine eb_Ct.mono w ?_
  rintro r h1 ⟨y2, rfl, ko3, w⟩
  change eb_Sn _ _ _ 6 _ [.int y2] _ _
  refine eb_if_eq (pc := 6) (tgt := 24) rfl (by decide) (fun c4 => ?_) (fun c4 => ?_)
  · replace w := w.1 c4
    refine eb_aload_n (pc := 24) (n := 0) (i := 0) rfl rfl rfl ?_
    refine eb_getI (pc := 25) rfl rfl (by decide) (by decide) rfl ?_
    refine eb_if_ne (pc := 28) (tgt := 66) rfl (by decide) (fun c5 => ?_) (fun c5 => ?_)
    · replace w := w.1 c5
      refine eb_aload_n (pc := 66) (n := 0) (i := 0) rfl rfl rfl ?_
      refine eb_bipush (pc := 67) (n := 35) (v := 35) rfl rfl ?_
      refine eb_ctV (pc := 69) (As := [.int 35]) (rest := []) rfl (by decide) rfl rfl (by decide) rfl (Nat.le_of_ble_eq_true rfl) ?_
      refine eb_Ct.mono w ?_
      rintro r h6 ⟨y7, rfl, ko8, w⟩
      change eb_Sn _ _ _ 72 _ [.int y7] _ _
      refine eb_if_eq (pc := 72) (tgt := 108) rfl (by decide) (fun c9 => ?_) (fun c9 => ?_)
      · replace w := w.1 c9
        refine eb_aload_n (pc := 108) (n := 0) (i := 0) rfl rfl rfl ?_
        refine eb_iconst (pc := 109) (n := 2) (v := 2) rfl rfl ?_
        refine eb_ctV (pc := 110) (As := [.int 2]) (rest := []) rfl (by decide) rfl rfl (by decide) rfl (Nat.le_of_ble_eq_true rfl) ?_
        refine eb_Ct.mono w ?_
        rintro r h10 ⟨rfl, ko12, w⟩
        change eb_Sn _ _ _ 113 _ [] _ _
        exact eb_return (pc := 113) rfl rfl w
      · replace w := w.2 c9
        refine eb_aload_n (pc := 75) (n := 0) (i := 0) rfl rfl rfl ?_
        refine eb_iload_n (pc := 76) (n := 1) (i := 1) rfl rfl rfl ?_
        refine eb_ctV (pc := 77) (As := [.int x1]) (rest := []) rfl (by decide) rfl rfl (by decide) rfl (Nat.le_of_ble_eq_true rfl) ?_
        refine eb_Ct.mono w ?_
        rintro r h13 ⟨y14, rfl, ko15, w⟩
        change eb_Sn _ _ _ 80 _ [.int y14] _ _
        refine eb_if_ne (pc := 80) (tgt := 84) rfl (by decide) (fun c16 => ?_) (fun c16 => ?_)
        · replace w := w.1 c16
          refine eb_aload_n (pc := 84) (n := 0) (i := 0) rfl rfl rfl ?_
          refine eb_iload_n (pc := 85) (n := 1) (i := 1) rfl rfl rfl ?_
          refine eb_iconst (pc := 86) (n := 1) (v := 1) rfl rfl ?_
          refine eb_iadd (pc := 87) rfl ?_
          refine eb_ctV (pc := 88) (As := [.int (x1 + 1)]) (rest := []) rfl (by decide) rfl rfl (by decide) rfl (Nat.le_of_ble_eq_true rfl) ?_
          refine eb_Ct.mono w ?_
          rintro r h17 ⟨rfl, ko19, w⟩
          change eb_Sn _ _ _ 91 _ [] _ _
          refine eb_aload_n (pc := 91) (n := 0) (i := 0) rfl rfl rfl ?_
          refine eb_bipush (pc := 92) (n := 36) (v := 36) rfl rfl ?_
          refine eb_ctV (pc := 94) (As := [.int 36]) (rest := []) rfl (by decide) rfl rfl (by decide) rfl (Nat.le_of_ble_eq_true rfl) ?_
          refine eb_Ct.mono w ?_
          rintro r h20 ⟨y21, rfl, ko22, w⟩
          change eb_Sn _ _ _ 97 _ [.int y21] _ _
          refine eb_if_ne (pc := 97) (tgt := 113) rfl (by decide) (fun c23 => ?_) (fun c23 => ?_)
          · replace w := w.1 c23
            exact eb_return (pc := 113) rfl rfl w
          · replace w := w.2 c23
            refine eb_aload_n (pc := 100) (n := 0) (i := 0) rfl rfl rfl ?_
            refine eb_iconst (pc := 101) (n := 2) (v := 2) rfl rfl ?_
            refine eb_ctV (pc := 102) (As := [.int 2]) (rest := []) rfl (by decide) rfl rfl (by decide) rfl (Nat.le_of_ble_eq_true rfl) ?_
            refine eb_Ct.mono w ?_
            rintro r h24 ⟨rfl, ko26, w⟩
            change eb_Sn _ _ _ 105 _ [] _ _
            refine eb_goto (pc := 105) (tgt := 113) rfl (by decide) ?_
            exact eb_return (pc := 113) rfl rfl w
        · replace w := w.2 c16
          exact eb_return (pc := 83) rfl rfl w
    · replace w := w.2 c5
      refine eb_aload_n (pc := 31) (n := 0) (i := 0) rfl rfl rfl ?_
      refine eb_aload_n (pc := 32) (n := 0) (i := 0) rfl rfl rfl ?_
      refine eb_getI (pc := 33) rfl rfl (by decide) (by decide) rfl ?_
      refine eb_ctV (pc := 36) (As := [.int (eb_I h1 s_MO 9)]) (rest := []) rfl (by decide) rfl rfl (by decide) rfl (Nat.le_of_ble_eq_true rfl) ?_
      refine eb_Ct.mono w ?_
      rintro r h27 ⟨y28, rfl, ko29, w⟩
      change eb_Sn _ _ _ 39 _ [.int y28] _ _
      refine eb_iconst (pc := 39) (n := -1) (v := (-1)) rfl rfl ?_
      refine eb_icmp_eq (pc := 40) (tgt := 66) rfl (by decide) (fun c30 => ?_) (fun c30 => ?_)
      · replace w := w.1 c30
        refine eb_aload_n (pc := 66) (n := 0) (i := 0) rfl rfl rfl ?_
        refine eb_bipush (pc := 67) (n := 35) (v := 35) rfl rfl ?_
        refine eb_ctV (pc := 69) (As := [.int 35]) (rest := []) rfl (by decide) rfl rfl (by decide) rfl (Nat.le_of_ble_eq_true rfl) ?_
        refine eb_Ct.mono w ?_
        rintro r h31 ⟨y32, rfl, ko33, w⟩
        change eb_Sn _ _ _ 72 _ [.int y32] _ _
        refine eb_if_eq (pc := 72) (tgt := 108) rfl (by decide) (fun c34 => ?_) (fun c34 => ?_)
        · replace w := w.1 c34
          refine eb_aload_n (pc := 108) (n := 0) (i := 0) rfl rfl rfl ?_
          refine eb_iconst (pc := 109) (n := 2) (v := 2) rfl rfl ?_
          refine eb_ctV (pc := 110) (As := [.int 2]) (rest := []) rfl (by decide) rfl rfl (by decide) rfl (Nat.le_of_ble_eq_true rfl) ?_
          refine eb_Ct.mono w ?_
          rintro r h35 ⟨rfl, ko37, w⟩
          change eb_Sn _ _ _ 113 _ [] _ _
          exact eb_return (pc := 113) rfl rfl w
        · replace w := w.2 c34
          refine eb_aload_n (pc := 75) (n := 0) (i := 0) rfl rfl rfl ?_
          refine eb_iload_n (pc := 76) (n := 1) (i := 1) rfl rfl rfl ?_
          refine eb_ctV (pc := 77) (As := [.int x1]) (rest := []) rfl (by decide) rfl rfl (by decide) rfl (Nat.le_of_ble_eq_true rfl) ?_
          refine eb_Ct.mono w ?_
          rintro r h38 ⟨y39, rfl, ko40, w⟩
          change eb_Sn _ _ _ 80 _ [.int y39] _ _
          refine eb_if_ne (pc := 80) (tgt := 84) rfl (by decide) (fun c41 => ?_) (fun c41 => ?_)
          · replace w := w.1 c41
            refine eb_aload_n (pc := 84) (n := 0) (i := 0) rfl rfl rfl ?_
            refine eb_iload_n (pc := 85) (n := 1) (i := 1) rfl rfl rfl ?_
            refine eb_iconst (pc := 86) (n := 1) (v := 1) rfl rfl ?_
            refine eb_iadd (pc := 87) rfl ?_
            refine eb_ctV (pc := 88) (As := [.int (x1 + 1)]) (rest := []) rfl (by decide) rfl rfl (by decide) rfl (Nat.le_of_ble_eq_true rfl) ?_
            refine eb_Ct.mono w ?_
            rintro r h42 ⟨rfl, ko44, w⟩
            change eb_Sn _ _ _ 91 _ [] _ _
            refine eb_aload_n (pc := 91) (n := 0) (i := 0) rfl rfl rfl ?_
            refine eb_bipush (pc := 92) (n := 36) (v := 36) rfl rfl ?_
            refine eb_ctV (pc := 94) (As := [.int 36]) (rest := []) rfl (by decide) rfl rfl (by decide) rfl (Nat.le_of_ble_eq_true rfl) ?_
            refine eb_Ct.mono w ?_
            rintro r h45 ⟨y46, rfl, ko47, w⟩
            change eb_Sn _ _ _ 97 _ [.int y46] _ _
            refine eb_if_ne (pc := 97) (tgt := 113) rfl (by decide) (fun c48 => ?_) (fun c48 => ?_)
            · replace w := w.1 c48
              exact eb_return (pc := 113) rfl rfl w
            · replace w := w.2 c48
              refine eb_aload_n (pc := 100) (n := 0) (i := 0) rfl rfl rfl ?_
              refine eb_iconst (pc := 101) (n := 2) (v := 2) rfl rfl ?_
              refine eb_ctV (pc := 102) (As := [.int 2]) (rest := []) rfl (by decide) rfl rfl (by decide) rfl (Nat.le_of_ble_eq_true rfl) ?_
              refine eb_Ct.mono w ?_
              rintro r h49 ⟨rfl, ko51, w⟩
              change eb_Sn _ _ _ 105 _ [] _ _
              refine eb_goto (pc := 105) (tgt := 113) rfl (by decide) ?_
              exact eb_return (pc := 113) rfl rfl w
          · replace w := w.2 c41
            exact eb_return (pc := 83) rfl rfl w
      · replace w := w.2 c30
        refine eb_aload_n (pc := 43) (n := 0) (i := 0) rfl rfl rfl ?_
        refine eb_sipush (pc := 44) (n := 1000) (v := 1000) rfl rfl ?_
        refine eb_aload_n (pc := 47) (n := 0) (i := 0) rfl rfl rfl ?_
        refine eb_aload_n (pc := 48) (n := 0) (i := 0) rfl rfl rfl ?_
        refine eb_getI (pc := 49) rfl rfl (by decide) (by decide) rfl ?_
        refine eb_ctV (pc := 52) (As := [.int (eb_I h27 s_MO 9)]) (rest := [.int 1000, .ref s_MO]) rfl (by decide) rfl rfl (by decide) rfl (Nat.le_of_ble_eq_true rfl) ?_
        refine eb_Ct.mono w ?_
        rintro r h52 ⟨y53, rfl, ko54, w⟩
        change eb_Sn _ _ _ 55 _ [.int y53, .int 1000, .ref s_MO] _ _
        refine eb_iadd (pc := 55) rfl ?_
        refine eb_ctV (pc := 56) (As := [.int ((1000 : Int32) + y53)]) (rest := []) rfl (by decide) rfl rfl (by decide) rfl (Nat.le_of_ble_eq_true rfl) ?_
        refine eb_Ct.mono w ?_
        rintro r h55 ⟨rfl, ko57, w⟩
        change eb_Sn _ _ _ 59 _ [] _ _
        refine eb_aload_n (pc := 59) (n := 0) (i := 0) rfl rfl rfl ?_
        refine eb_ctV (pc := 60) (As := []) (rest := []) rfl (by decide) rfl rfl (by decide) rfl (Nat.le_of_ble_eq_true rfl) ?_
        refine eb_Ct.mono w ?_
        rintro r h58 ⟨rfl, ko60, w⟩
        change eb_Sn _ _ _ 63 _ [] _ _
        refine eb_goto (pc := 63) (tgt := 113) rfl (by decide) ?_
        exact eb_return (pc := 113) rfl rfl w
  · replace w := w.2 c4
    refine eb_aload_n (pc := 9) (n := 0) (i := 0) rfl rfl rfl ?_
    refine eb_aload_n (pc := 10) (n := 0) (i := 0) rfl rfl rfl ?_
    refine eb_getI (pc := 11) rfl rfl (by decide) (by decide) rfl ?_
    refine eb_ctV (pc := 14) (As := [.int (eb_I h1 s_MO 10)]) (rest := []) rfl (by decide) rfl rfl (by decide) rfl (Nat.le_of_ble_eq_true rfl) ?_
    refine eb_Ct.mono w ?_
    rintro r h61 ⟨rfl, ko63, w⟩
    change eb_Sn _ _ _ 17 _ [] _ _
    refine eb_aload_n (pc := 17) (n := 0) (i := 0) rfl rfl rfl ?_
    refine eb_ctV (pc := 18) (As := []) (rest := []) rfl (by decide) rfl rfl (by decide) rfl (Nat.le_of_ble_eq_true rfl) ?_
    refine eb_Ct.mono w ?_
    rintro r h64 ⟨rfl, ko66, w⟩
    change eb_Sn _ _ _ 21 _ [] _ _
    refine eb_goto (pc := 21) (tgt := 113) rfl (by decide) ?_
    exact eb_return (pc := 113) rfl rfl w
theorem T_X11_readAtom {d : Nat} {h : eb_H} {Q : Option Value → eb_H → Prop} (x1 : Int32)  (ko : eb_KO h) (w : eb_Ct d 166 [.ref s_MO, .int 23] h (fun r h1 => ∃ y2, r = some (.int y2) ∧ eb_KO h1 ∧ ((y2 = 0 → ((¬ (eb_I h1 s_MO 11) = 0 → eb_Ct d 166 [.ref s_MO, .int 35] h1 (fun r h6 => ∃ y7, r = some (.int y7) ∧ eb_KO h6 ∧ ((y7 = 0 → eb_Ct d 165 [.ref s_MO, .int 2] h6 (fun r h10 => r = none ∧ eb_KO h10 ∧ Q none h10)) ∧ (¬ (y7 = 0) → eb_Ct d 172 [.ref s_MO, .int x1] h6 (fun r h13 => ∃ y14, r = some (.int y14) ∧ eb_KO h13 ∧ ((¬ y14 = 0 → eb_Ct d 175 [.ref s_MO, .int (x1 + 1)] h13 (fun r h17 => r = none ∧ eb_KO h17 ∧ eb_Ct d 167 [.ref s_MO, .int 36] h17 (fun r h20 => ∃ y21, r = some (.int y21) ∧ eb_KO h20 ∧ ((¬ y21 = 0 → Q none h20) ∧ (y21 = 0 → eb_Ct d 165 [.ref s_MO, .int 2] h20 (fun r h24 => r = none ∧ eb_KO h24 ∧ Q none h24)))))) ∧ (y14 = 0 → Q none h13))))))) ∧ ((eb_I h1 s_MO 11) = 0 → eb_Ct d 170 [.ref s_MO, .int (eb_I h1 s_MO 9)] h1 (fun r h27 => ∃ y28, r = some (.int y28) ∧ eb_KO h27 ∧ ((y28 = ((-1) : Int32) → eb_Ct d 166 [.ref s_MO, .int 35] h27 (fun r h31 => ∃ y32, r = some (.int y32) ∧ eb_KO h31 ∧ ((y32 = 0 → eb_Ct d 165 [.ref s_MO, .int 2] h31 (fun r h35 => r = none ∧ eb_KO h35 ∧ Q none h35)) ∧ (¬ (y32 = 0) → eb_Ct d 172 [.ref s_MO, .int x1] h31 (fun r h38 => ∃ y39, r = some (.int y39) ∧ eb_KO h38 ∧ ((¬ y39 = 0 → eb_Ct d 175 [.ref s_MO, .int (x1 + 1)] h38 (fun r h42 => r = none ∧ eb_KO h42 ∧ eb_Ct d 167 [.ref s_MO, .int 36] h42 (fun r h45 => ∃ y46, r = some (.int y46) ∧ eb_KO h45 ∧ ((¬ y46 = 0 → Q none h45) ∧ (y46 = 0 → eb_Ct d 165 [.ref s_MO, .int 2] h45 (fun r h49 => r = none ∧ eb_KO h49 ∧ Q none h49)))))) ∧ (y39 = 0 → Q none h38))))))) ∧ (¬ (y28 = ((-1) : Int32)) → eb_Ct d 170 [.ref s_MO, .int (eb_I h27 s_MO 9)] h27 (fun r h52 => ∃ y53, r = some (.int y53) ∧ eb_KO h52 ∧ eb_Ct d 171 [.ref s_MO, .int ((1000 : Int32) + y53)] h52 (fun r h55 => r = none ∧ eb_KO h55 ∧ eb_Ct d 164 [.ref s_MO] h55 (fun r h58 => r = none ∧ eb_KO h58 ∧ Q none h58))))))))) ∧ (¬ (y2 = 0) → eb_Ct d 171 [.ref s_MO, .int (eb_I h1 s_MO 10)] h1 (fun r h61 => r = none ∧ eb_KO h61 ∧ eb_Ct d 164 [.ref s_MO] h61 (fun r h64 => r = none ∧ eb_KO h64 ∧ Q none h64)))))) : eb_Ct (d + 1) 173 [.ref s_MO, .int x1] h Q :=
  eb_bodyQ (by decide) ok_X11_readAtom (Nat.le_of_ble_eq_true rfl) (b_X11_readAtom_0 (h0 := h) x1  ko w)
theorem b_X11_readTerm_0 {d : Nat} {h0 h : eb_H} {Q : Option Value → eb_H → Prop} (x1 : Int32)  (ko : eb_KO h) (w : eb_Ct d 173 [.ref s_MO, .int x1] h (fun r h1 => r = none ∧ eb_KO h1 ∧ eb_Sn (d + 1) m_X11_readTerm h0 5 [(0, .ref s_MO), (1, .int x1)] [] h1 Q)) : eb_Sn (d + 1) m_X11_readTerm h0 0 [(0, .ref s_MO), (1, .int x1)] [] h Q := by
  refine eb_aload_n (pc := 0) (n := 0) (i := 0) rfl rfl rfl ?_
  refine eb_iload_n (pc := 1) (n := 1) (i := 1) rfl rfl rfl ?_
  refine eb_ctV (pc := 2) (As := [.int x1]) (rest := []) rfl (by decide) rfl rfl (by decide) rfl (Nat.le_of_ble_eq_true rfl) ?_
  refine eb_Ct.mono w ?_
  rintro r h1 ⟨rfl, ko3, w⟩
  change eb_Sn _ _ _ 5 _ [] _ _
  exact eb_pick [0, 1] rfl w
theorem b_X11_readTerm_5 {d : Nat} {h0 h : eb_H} {Q : Option Value → eb_H → Prop} (x1 : Int32)  (ko : eb_KO h) (w : eb_Ct d 167 [.ref s_MO, .int 34] h (fun r h1 => ∃ y2, r = some (.int y2) ∧ eb_KO h1 ∧ ((y2 = 0 → Q none h1) ∧ (¬ (y2 = 0) → eb_Ct d 173 [.ref s_MO, .int x1] h1 (fun r h5 => r = none ∧ eb_KO h5 ∧ eb_Ct d 171 [.ref s_MO, .int 3002] h5 (fun r h8 => r = none ∧ eb_KO h8 ∧ eb_Sn (d + 1) m_X11_readTerm h0 5 [(0, .ref s_MO), (1, .int x1)] [] h8 Q)))))) : eb_Sn (d + 1) m_X11_readTerm h0 5 [(0, .ref s_MO), (1, .int x1)] [] h Q := by
  refine eb_aload_n (pc := 5) (n := 0) (i := 0) rfl rfl rfl ?_
  refine eb_bipush (pc := 6) (n := 34) (v := 34) rfl rfl ?_
  refine eb_ctV (pc := 8) (As := [.int 34]) (rest := []) rfl (by decide) rfl rfl (by decide) rfl (Nat.le_of_ble_eq_true rfl) ?_
  refine eb_Ct.mono w ?_
  rintro r h1 ⟨y2, rfl, ko3, w⟩
  change eb_Sn _ _ _ 11 _ [.int y2] _ _
  refine eb_if_eq (pc := 11) (tgt := 29) rfl (by decide) (fun c4 => ?_) (fun c4 => ?_)
  · replace w := w.1 c4
    exact eb_return (pc := 29) rfl rfl w
  · replace w := w.2 c4
    refine eb_aload_n (pc := 14) (n := 0) (i := 0) rfl rfl rfl ?_
    refine eb_iload_n (pc := 15) (n := 1) (i := 1) rfl rfl rfl ?_
    refine eb_ctV (pc := 16) (As := [.int x1]) (rest := []) rfl (by decide) rfl rfl (by decide) rfl (Nat.le_of_ble_eq_true rfl) ?_
    refine eb_Ct.mono w ?_
    rintro r h5 ⟨rfl, ko7, w⟩
    change eb_Sn _ _ _ 19 _ [] _ _
    refine eb_aload_n (pc := 19) (n := 0) (i := 0) rfl rfl rfl ?_
    refine eb_sipush (pc := 20) (n := 3002) (v := 3002) rfl rfl ?_
    refine eb_ctV (pc := 23) (As := [.int 3002]) (rest := []) rfl (by decide) rfl rfl (by decide) rfl (Nat.le_of_ble_eq_true rfl) ?_
    refine eb_Ct.mono w ?_
    rintro r h8 ⟨rfl, ko10, w⟩
    change eb_Sn _ _ _ 26 _ [] _ _
    refine eb_goto (pc := 26) (tgt := 5) rfl (by decide) ?_
    exact eb_pick [0, 1] rfl w
theorem T_X11_readTerm {d : Nat} {h : eb_H} {Q : Option Value → eb_H → Prop} (x1 : Int32)  (ko : eb_KO h) (w : eb_Ct d 173 [.ref s_MO, .int x1] h (fun r h1 => r = none ∧ eb_KO h1 ∧ eb_Sn (d + 1) m_X11_readTerm h 5 [(0, .ref s_MO), (1, .int x1)] [] h1 Q)) : eb_Ct (d + 1) 174 [.ref s_MO, .int x1] h Q :=
  eb_bodyQ (by decide) ok_X11_readTerm (Nat.le_of_ble_eq_true rfl) (b_X11_readTerm_0 (h0 := h) x1  ko w)
theorem b_X11_readSum_0 {d : Nat} {h0 h : eb_H} {Q : Option Value → eb_H → Prop} (x1 : Int32)  (ko : eb_KO h) (w : eb_Ct d 174 [.ref s_MO, .int x1] h (fun r h1 => r = none ∧ eb_KO h1 ∧ eb_Sn (d + 1) m_X11_readSum h0 5 [(0, .ref s_MO), (1, .int x1)] [] h1 Q)) : eb_Sn (d + 1) m_X11_readSum h0 0 [(0, .ref s_MO), (1, .int x1)] [] h Q := by
  refine eb_aload_n (pc := 0) (n := 0) (i := 0) rfl rfl rfl ?_
  refine eb_iload_n (pc := 1) (n := 1) (i := 1) rfl rfl rfl ?_
  refine eb_ctV (pc := 2) (As := [.int x1]) (rest := []) rfl (by decide) rfl rfl (by decide) rfl (Nat.le_of_ble_eq_true rfl) ?_
  refine eb_Ct.mono w ?_
  rintro r h1 ⟨rfl, ko3, w⟩
  change eb_Sn _ _ _ 5 _ [] _ _
  exact eb_pick [0, 1] rfl w
theorem b_X11_readSum_5 {d : Nat} {h0 h : eb_H} {Q : Option Value → eb_H → Prop} (x1 : Int32)  (ko : eb_KO h) (w : eb_Ct d 166 [.ref s_MO, .int 32] h (fun r h1 => ∃ y2, r = some (.int y2) ∧ eb_KO h1 ∧ ((¬ y2 = 0 → eb_Ct d 164 [.ref s_MO] h1 (fun r h8 => r = none ∧ eb_KO h8 ∧ eb_Ct d 174 [.ref s_MO, .int x1] h8 (fun r h11 => r = none ∧ eb_KO h11 ∧ eb_Ct d 171 [.ref s_MO, .int (if (eb_I h1 s_MO 9) = (32 : Int32) then 3000 else 3001 : Int32)] h11 (fun r h14 => r = none ∧ eb_KO h14 ∧ eb_Sn (d + 1) m_X11_readSum h0 5 [(0, .ref s_MO), (1, .int x1)] [] h14 Q)))) ∧ (y2 = 0 → eb_Ct d 166 [.ref s_MO, .int 33] h1 (fun r h17 => ∃ y18, r = some (.int y18) ∧ eb_KO h17 ∧ ((y18 = 0 → Q none h17) ∧ (¬ (y18 = 0) → eb_Ct d 164 [.ref s_MO] h17 (fun r h24 => r = none ∧ eb_KO h24 ∧ eb_Ct d 174 [.ref s_MO, .int x1] h24 (fun r h27 => r = none ∧ eb_KO h27 ∧ eb_Ct d 171 [.ref s_MO, .int (if (eb_I h17 s_MO 9) = (32 : Int32) then 3000 else 3001 : Int32)] h27 (fun r h30 => r = none ∧ eb_KO h30 ∧ eb_Sn (d + 1) m_X11_readSum h0 5 [(0, .ref s_MO), (1, .int x1)] [] h30 Q)))))))))) : eb_Sn (d + 1) m_X11_readSum h0 5 [(0, .ref s_MO), (1, .int x1)] [] h Q := by
  refine eb_aload_n (pc := 5) (n := 0) (i := 0) rfl rfl rfl ?_
  refine eb_bipush (pc := 6) (n := 32) (v := 32) rfl rfl ?_
  refine eb_ctV (pc := 8) (As := [.int 32]) (rest := []) rfl (by decide) rfl rfl (by decide) rfl (Nat.le_of_ble_eq_true rfl) ?_
  refine eb_Ct.mono w ?_
  rintro r h1 ⟨y2, rfl, ko3, w⟩
  change eb_Sn _ _ _ 11 _ [.int y2] _ _
  refine eb_if_ne (pc := 11) (tgt := 23) rfl (by decide) (fun c4 => ?_) (fun c4 => ?_)
  · replace w := w.1 c4
    refine eb_aload_n (pc := 23) (n := 0) (i := 0) rfl rfl rfl ?_
    refine eb_getI (pc := 24) rfl rfl (by decide) (by decide) rfl ?_
    refine eb_bipush (pc := 27) (n := 32) (v := 32) rfl rfl ?_
    refine eb_joinI (pc2 := 41) (ls2 := [(0, .ref s_MO), (1, .int x1)]) (st2 := []) (v := (if (eb_I h1 s_MO 9) = (32 : Int32) then 3000 else 3001 : Int32)) ?_ (fun jj6 => ?_)
    · refine eb_istore_n (pc := 41) (n := 2) (i := 2) (ls2 := [(2, .int (if (eb_I h1 s_MO 9) = (32 : Int32) then 3000 else 3001 : Int32)), (0, .ref s_MO), (1, .int x1)]) rfl (Nat.le_of_ble_eq_true rfl) rfl rfl ?_
      refine eb_aload_n (pc := 42) (n := 0) (i := 0) rfl rfl rfl ?_
      refine eb_ctV (pc := 43) (As := []) (rest := []) rfl (by decide) rfl rfl (by decide) rfl (Nat.le_of_ble_eq_true rfl) ?_
      refine eb_Ct.mono w ?_
      rintro r h8 ⟨rfl, ko10, w⟩
      change eb_Sn _ _ _ 46 _ [] _ _
      refine eb_aload_n (pc := 46) (n := 0) (i := 0) rfl rfl rfl ?_
      refine eb_iload_n (pc := 47) (n := 1) (i := 1) rfl rfl rfl ?_
      refine eb_ctV (pc := 48) (As := [.int x1]) (rest := []) rfl (by decide) rfl rfl (by decide) rfl (Nat.le_of_ble_eq_true rfl) ?_
      refine eb_Ct.mono w ?_
      rintro r h11 ⟨rfl, ko13, w⟩
      change eb_Sn _ _ _ 51 _ [] _ _
      refine eb_aload_n (pc := 51) (n := 0) (i := 0) rfl rfl rfl ?_
      refine eb_iload_n (pc := 52) (n := 2) (i := 2) rfl rfl rfl ?_
      refine eb_ctV (pc := 53) (As := [.int (if (eb_I h1 s_MO 9) = (32 : Int32) then 3000 else 3001 : Int32)]) (rest := []) rfl (by decide) rfl rfl (by decide) rfl (Nat.le_of_ble_eq_true rfl) ?_
      refine eb_Ct.mono w ?_
      rintro r h14 ⟨rfl, ko16, w⟩
      change eb_Sn _ _ _ 56 _ [] _ _
      refine eb_goto (pc := 56) (tgt := 5) rfl (by decide) ?_
      exact eb_pick [1, 2] rfl w
    refine eb_icmp_ne (pc := 29) (tgt := 38) rfl (by decide) (fun c5 => ?_) (fun c5 => ?_)
    · refine eb_sipush (pc := 38) (n := 3001) (v := 3001) rfl rfl ?_
      exact jj6 _ (by simp only [if_neg c5])
    · refine eb_sipush (pc := 32) (n := 3000) (v := 3000) rfl rfl ?_
      refine eb_goto (pc := 35) (tgt := 41) rfl (by decide) ?_
      exact jj6 _ (by simp only [if_pos c5])
  · replace w := w.2 c4
    refine eb_aload_n (pc := 14) (n := 0) (i := 0) rfl rfl rfl ?_
    refine eb_bipush (pc := 15) (n := 33) (v := 33) rfl rfl ?_
    refine eb_ctV (pc := 17) (As := [.int 33]) (rest := []) rfl (by decide) rfl rfl (by decide) rfl (Nat.le_of_ble_eq_true rfl) ?_
    refine eb_Ct.mono w ?_
    rintro r h17 ⟨y18, rfl, ko19, w⟩
    change eb_Sn _ _ _ 20 _ [.int y18] _ _
    refine eb_if_eq (pc := 20) (tgt := 59) rfl (by decide) (fun c20 => ?_) (fun c20 => ?_)
    · replace w := w.1 c20
      exact eb_return (pc := 59) rfl rfl w
    · replace w := w.2 c20
      refine eb_aload_n (pc := 23) (n := 0) (i := 0) rfl rfl rfl ?_
      refine eb_getI (pc := 24) rfl rfl (by decide) (by decide) rfl ?_
      refine eb_bipush (pc := 27) (n := 32) (v := 32) rfl rfl ?_
      refine eb_joinI (pc2 := 41) (ls2 := [(0, .ref s_MO), (1, .int x1)]) (st2 := []) (v := (if (eb_I h17 s_MO 9) = (32 : Int32) then 3000 else 3001 : Int32)) ?_ (fun jj22 => ?_)
      · refine eb_istore_n (pc := 41) (n := 2) (i := 2) (ls2 := [(2, .int (if (eb_I h17 s_MO 9) = (32 : Int32) then 3000 else 3001 : Int32)), (0, .ref s_MO), (1, .int x1)]) rfl (Nat.le_of_ble_eq_true rfl) rfl rfl ?_
        refine eb_aload_n (pc := 42) (n := 0) (i := 0) rfl rfl rfl ?_
        refine eb_ctV (pc := 43) (As := []) (rest := []) rfl (by decide) rfl rfl (by decide) rfl (Nat.le_of_ble_eq_true rfl) ?_
        refine eb_Ct.mono w ?_
        rintro r h24 ⟨rfl, ko26, w⟩
        change eb_Sn _ _ _ 46 _ [] _ _
        refine eb_aload_n (pc := 46) (n := 0) (i := 0) rfl rfl rfl ?_
        refine eb_iload_n (pc := 47) (n := 1) (i := 1) rfl rfl rfl ?_
        refine eb_ctV (pc := 48) (As := [.int x1]) (rest := []) rfl (by decide) rfl rfl (by decide) rfl (Nat.le_of_ble_eq_true rfl) ?_
        refine eb_Ct.mono w ?_
        rintro r h27 ⟨rfl, ko29, w⟩
        change eb_Sn _ _ _ 51 _ [] _ _
        refine eb_aload_n (pc := 51) (n := 0) (i := 0) rfl rfl rfl ?_
        refine eb_iload_n (pc := 52) (n := 2) (i := 2) rfl rfl rfl ?_
        refine eb_ctV (pc := 53) (As := [.int (if (eb_I h17 s_MO 9) = (32 : Int32) then 3000 else 3001 : Int32)]) (rest := []) rfl (by decide) rfl rfl (by decide) rfl (Nat.le_of_ble_eq_true rfl) ?_
        refine eb_Ct.mono w ?_
        rintro r h30 ⟨rfl, ko32, w⟩
        change eb_Sn _ _ _ 56 _ [] _ _
        refine eb_goto (pc := 56) (tgt := 5) rfl (by decide) ?_
        exact eb_pick [1, 2] rfl w
      refine eb_icmp_ne (pc := 29) (tgt := 38) rfl (by decide) (fun c21 => ?_) (fun c21 => ?_)
      · refine eb_sipush (pc := 38) (n := 3001) (v := 3001) rfl rfl ?_
        exact jj22 _ (by simp only [if_neg c21])
      · refine eb_sipush (pc := 32) (n := 3000) (v := 3000) rfl rfl ?_
        refine eb_goto (pc := 35) (tgt := 41) rfl (by decide) ?_
        exact jj22 _ (by simp only [if_pos c21])
theorem T_X11_readSum {d : Nat} {h : eb_H} {Q : Option Value → eb_H → Prop} (x1 : Int32)  (ko : eb_KO h) (w : eb_Ct d 174 [.ref s_MO, .int x1] h (fun r h1 => r = none ∧ eb_KO h1 ∧ eb_Sn (d + 1) m_X11_readSum h 5 [(0, .ref s_MO), (1, .int x1)] [] h1 Q)) : eb_Ct (d + 1) 175 [.ref s_MO, .int x1] h Q :=
  eb_bodyQ (by decide) ok_X11_readSum (Nat.le_of_ble_eq_true rfl) (b_X11_readSum_0 (h0 := h) x1  ko w)
theorem b_X11_readUnit_0 {d : Nat} {h0 h : eb_H} {Q : Option Value → eb_H → Prop} (x1 : Int32)  (ko : eb_KO h) (w : eb_Ct d 166 [.ref s_MO, .int 16] h (fun r h1 => ∃ y2, r = some (.int y2) ∧ eb_KO h1 ∧ ((y2 = 0 → eb_Ct d 166 [.ref s_MO, .int 37] h1 (fun r h5 => ∃ y6, r = some (.int y6) ∧ eb_KO h5 ∧ ((y6 = 0 → eb_Ct d 175 [.ref s_MO, .int x1] h5 (fun r h9 => r = none ∧ eb_KO h9 ∧ eb_Ct d 166 [.ref s_MO, .int 39] h9 (fun r h12 => ∃ y13, r = some (.int y13) ∧ eb_KO h12 ∧ ((y13 = 0 → eb_Ct d 166 [.ref s_MO, .int 40] h12 (fun r h16 => ∃ y17, r = some (.int y17) ∧ eb_KO h16 ∧ eb_Ct d 166 [.ref s_MO, .int 39] h16 (fun r h22 => ∃ y23, r = some (.int y23) ∧ eb_KO h22 ∧ ((¬ y23 = 0 → eb_Ct d 164 [.ref s_MO] h22 (fun r h26 => r = none ∧ eb_KO h26 ∧ eb_Ct d 175 [.ref s_MO, .int x1] h26 (fun r h29 => r = none ∧ eb_KO h29 ∧ eb_Ct d 171 [.ref s_MO, .int (if y17 = 0 then 3005 else 3004 : Int32)] h29 (fun r h32 => r = none ∧ eb_KO h32 ∧ Q none h32)))) ∧ (y23 = 0 → eb_Ct d 166 [.ref s_MO, .int 40] h22 (fun r h35 => ∃ y36, r = some (.int y36) ∧ eb_KO h35 ∧ ((¬ y36 = 0 → eb_Ct d 164 [.ref s_MO] h35 (fun r h39 => r = none ∧ eb_KO h39 ∧ eb_Ct d 175 [.ref s_MO, .int x1] h39 (fun r h42 => r = none ∧ eb_KO h42 ∧ eb_Ct d 171 [.ref s_MO, .int (if y17 = 0 then 3005 else 3004 : Int32)] h42 (fun r h45 => r = none ∧ eb_KO h45 ∧ Q none h45)))) ∧ (y36 = 0 → eb_Ct d 166 [.ref s_MO, .int 41] h35 (fun r h48 => ∃ y49, r = some (.int y49) ∧ eb_KO h48 ∧ ((y49 = 0 → eb_Ct d 165 [.ref s_MO, .int 2] h48 (fun r h52 => r = none ∧ eb_KO h52 ∧ eb_Ct d 175 [.ref s_MO, .int x1] h52 (fun r h55 => r = none ∧ eb_KO h55 ∧ eb_Ct d 171 [.ref s_MO, .int (if y17 = 0 then 3005 else 3004 : Int32)] h55 (fun r h58 => r = none ∧ eb_KO h58 ∧ Q none h58)))) ∧ (¬ (y49 = 0) → eb_Ct d 164 [.ref s_MO] h48 (fun r h61 => r = none ∧ eb_KO h61 ∧ eb_Ct d 175 [.ref s_MO, .int x1] h61 (fun r h64 => r = none ∧ eb_KO h64 ∧ eb_Ct d 171 [.ref s_MO, .int (if y17 = 0 then 3005 else 3004 : Int32)] h64 (fun r h67 => r = none ∧ eb_KO h67 ∧ Q none h67)))))))))))))) ∧ (¬ (y13 = 0) → eb_Ct d 166 [.ref s_MO, .int 39] h12 (fun r h70 => ∃ y71, r = some (.int y71) ∧ eb_KO h70 ∧ ((¬ y71 = 0 → eb_Ct d 164 [.ref s_MO] h70 (fun r h74 => r = none ∧ eb_KO h74 ∧ eb_Ct d 175 [.ref s_MO, .int x1] h74 (fun r h77 => r = none ∧ eb_KO h77 ∧ eb_Ct d 171 [.ref s_MO, .int 3003] h77 (fun r h80 => r = none ∧ eb_KO h80 ∧ Q none h80)))) ∧ (y71 = 0 → eb_Ct d 166 [.ref s_MO, .int 40] h70 (fun r h83 => ∃ y84, r = some (.int y84) ∧ eb_KO h83 ∧ ((¬ y84 = 0 → eb_Ct d 164 [.ref s_MO] h83 (fun r h87 => r = none ∧ eb_KO h87 ∧ eb_Ct d 175 [.ref s_MO, .int x1] h87 (fun r h90 => r = none ∧ eb_KO h90 ∧ eb_Ct d 171 [.ref s_MO, .int 3003] h90 (fun r h93 => r = none ∧ eb_KO h93 ∧ Q none h93)))) ∧ (y84 = 0 → eb_Ct d 166 [.ref s_MO, .int 41] h83 (fun r h96 => ∃ y97, r = some (.int y97) ∧ eb_KO h96 ∧ ((y97 = 0 → eb_Ct d 165 [.ref s_MO, .int 2] h96 (fun r h100 => r = none ∧ eb_KO h100 ∧ eb_Ct d 175 [.ref s_MO, .int x1] h100 (fun r h103 => r = none ∧ eb_KO h103 ∧ eb_Ct d 171 [.ref s_MO, .int 3003] h103 (fun r h106 => r = none ∧ eb_KO h106 ∧ Q none h106)))) ∧ (¬ (y97 = 0) → eb_Ct d 164 [.ref s_MO] h96 (fun r h109 => r = none ∧ eb_KO h109 ∧ eb_Ct d 175 [.ref s_MO, .int x1] h109 (fun r h112 => r = none ∧ eb_KO h112 ∧ eb_Ct d 171 [.ref s_MO, .int 3003] h112 (fun r h115 => r = none ∧ eb_KO h115 ∧ Q none h115))))))))))))))))) ∧ (¬ (y6 = 0) → eb_Ct d 172 [.ref s_MO, .int x1] h5 (fun r h118 => ∃ y119, r = some (.int y119) ∧ eb_KO h118 ∧ ((¬ y119 = 0 → eb_Ct d 178 [.ref s_MO, .int (x1 + 1)] h118 (fun r h122 => r = none ∧ eb_KO h122 ∧ eb_Ct d 167 [.ref s_MO, .int 38] h122 (fun r h125 => ∃ y126, r = some (.int y126) ∧ eb_KO h125 ∧ ((¬ y126 = 0 → Q none h125) ∧ (y126 = 0 → eb_Ct d 165 [.ref s_MO, .int 2] h125 (fun r h129 => r = none ∧ eb_KO h129 ∧ Q none h129)))))) ∧ (y119 = 0 → Q none h118))))))) ∧ (¬ (y2 = 0) → eb_Ct d 172 [.ref s_MO, .int x1] h1 (fun r h132 => ∃ y133, r = some (.int y133) ∧ eb_KO h132 ∧ ((¬ y133 = 0 → eb_Ct d 176 [.ref s_MO, .int (x1 + 1)] h132 (fun r h136 => r = none ∧ eb_KO h136 ∧ eb_Ct d 171 [.ref s_MO, .int 3006] h136 (fun r h139 => r = none ∧ eb_KO h139 ∧ Q none h139))) ∧ (y133 = 0 → Q none h132))))))) : eb_Sn (d + 1) m_X11_readUnit h0 0 [(0, .ref s_MO), (1, .int x1)] [] h Q := by
  refine eb_aload_n (pc := 0) (n := 0) (i := 0) rfl rfl rfl ?_
  refine eb_bipush (pc := 1) (n := 16) (v := 16) rfl rfl ?_
  refine eb_ctV (pc := 3) (As := [.int 16]) (rest := []) rfl (by decide) rfl rfl (by decide) rfl (Nat.le_of_ble_eq_true rfl) ?_
  refine eb_Ct.mono w ?_
  rintro r h1 ⟨y2, rfl, ko3, w⟩
  change eb_Sn _ _ _ 6 _ [.int y2] _ _
  refine eb_if_eq (pc := 6) (tgt := 33) rfl (by decide) (fun c4 => ?_) (fun c4 => ?_)
  · replace w := w.1 c4
    refine eb_aload_n (pc := 33) (n := 0) (i := 0) rfl rfl rfl ?_
    refine eb_bipush (pc := 34) (n := 37) (v := 37) rfl rfl ?_
    refine eb_ctV (pc := 36) (As := [.int 37]) (rest := []) rfl (by decide) rfl rfl (by decide) rfl (Nat.le_of_ble_eq_true rfl) ?_
    refine eb_Ct.mono w ?_
    rintro r h5 ⟨y6, rfl, ko7, w⟩
    change eb_Sn _ _ _ 39 _ [.int y6] _ _
    refine eb_if_eq (pc := 39) (tgt := 73) rfl (by decide) (fun c8 => ?_) (fun c8 => ?_)
    · replace w := w.1 c8
      refine eb_aload_n (pc := 73) (n := 0) (i := 0) rfl rfl rfl ?_
      refine eb_iload_n (pc := 74) (n := 1) (i := 1) rfl rfl rfl ?_
      refine eb_ctV (pc := 75) (As := [.int x1]) (rest := []) rfl (by decide) rfl rfl (by decide) rfl (Nat.le_of_ble_eq_true rfl) ?_
      refine eb_Ct.mono w ?_
      rintro r h9 ⟨rfl, ko11, w⟩
      change eb_Sn _ _ _ 78 _ [] _ _
      refine eb_aload_n (pc := 78) (n := 0) (i := 0) rfl rfl rfl ?_
      refine eb_bipush (pc := 79) (n := 39) (v := 39) rfl rfl ?_
      refine eb_ctV (pc := 81) (As := [.int 39]) (rest := []) rfl (by decide) rfl rfl (by decide) rfl (Nat.le_of_ble_eq_true rfl) ?_
      refine eb_Ct.mono w ?_
      rintro r h12 ⟨y13, rfl, ko14, w⟩
      change eb_Sn _ _ _ 84 _ [.int y13] _ _
      refine eb_if_eq (pc := 84) (tgt := 93) rfl (by decide) (fun c15 => ?_) (fun c15 => ?_)
      · replace w := w.1 c15
        refine eb_aload_n (pc := 93) (n := 0) (i := 0) rfl rfl rfl ?_
        refine eb_bipush (pc := 94) (n := 40) (v := 40) rfl rfl ?_
        refine eb_ctV (pc := 96) (As := [.int 40]) (rest := []) rfl (by decide) rfl rfl (by decide) rfl (Nat.le_of_ble_eq_true rfl) ?_
        refine eb_Ct.mono w ?_
        rintro r h16 ⟨y17, rfl, ko18, w⟩
        change eb_Sn _ _ _ 99 _ [.int y17] _ _
        refine eb_joinI (pc2 := 111) (ls2 := [(0, .ref s_MO), (1, .int x1)]) (st2 := []) (v := (if y17 = 0 then 3005 else 3004 : Int32)) ?_ (fun jj20 => ?_)
        · refine eb_istore_n (pc := 111) (n := 2) (i := 2) (ls2 := [(2, .int (if y17 = 0 then 3005 else 3004 : Int32)), (0, .ref s_MO), (1, .int x1)]) rfl (Nat.le_of_ble_eq_true rfl) rfl rfl ?_
          refine eb_aload_n (pc := 112) (n := 0) (i := 0) rfl rfl rfl ?_
          refine eb_bipush (pc := 113) (n := 39) (v := 39) rfl rfl ?_
          refine eb_ctV (pc := 115) (As := [.int 39]) (rest := []) rfl (by decide) rfl rfl (by decide) rfl (Nat.le_of_ble_eq_true rfl) ?_
          refine eb_Ct.mono w ?_
          rintro r h22 ⟨y23, rfl, ko24, w⟩
          change eb_Sn _ _ _ 118 _ [.int y23] _ _
          refine eb_if_ne (pc := 118) (tgt := 139) rfl (by decide) (fun c25 => ?_) (fun c25 => ?_)
          · replace w := w.1 c25
            refine eb_aload_n (pc := 139) (n := 0) (i := 0) rfl rfl rfl ?_
            refine eb_ctV (pc := 140) (As := []) (rest := []) rfl (by decide) rfl rfl (by decide) rfl (Nat.le_of_ble_eq_true rfl) ?_
            refine eb_Ct.mono w ?_
            rintro r h26 ⟨rfl, ko28, w⟩
            change eb_Sn _ _ _ 143 _ [] _ _
            refine eb_goto (pc := 143) (tgt := 151) rfl (by decide) ?_
            refine eb_aload_n (pc := 151) (n := 0) (i := 0) rfl rfl rfl ?_
            refine eb_iload_n (pc := 152) (n := 1) (i := 1) rfl rfl rfl ?_
            refine eb_ctV (pc := 153) (As := [.int x1]) (rest := []) rfl (by decide) rfl rfl (by decide) rfl (Nat.le_of_ble_eq_true rfl) ?_
            refine eb_Ct.mono w ?_
            rintro r h29 ⟨rfl, ko31, w⟩
            change eb_Sn _ _ _ 156 _ [] _ _
            refine eb_aload_n (pc := 156) (n := 0) (i := 0) rfl rfl rfl ?_
            refine eb_iload_n (pc := 157) (n := 2) (i := 2) rfl rfl rfl ?_
            refine eb_ctV (pc := 158) (As := [.int (if y17 = 0 then 3005 else 3004 : Int32)]) (rest := []) rfl (by decide) rfl rfl (by decide) rfl (Nat.le_of_ble_eq_true rfl) ?_
            refine eb_Ct.mono w ?_
            rintro r h32 ⟨rfl, ko34, w⟩
            change eb_Sn _ _ _ 161 _ [] _ _
            exact eb_return (pc := 161) rfl rfl w
          · replace w := w.2 c25
            refine eb_aload_n (pc := 121) (n := 0) (i := 0) rfl rfl rfl ?_
            refine eb_bipush (pc := 122) (n := 40) (v := 40) rfl rfl ?_
            refine eb_ctV (pc := 124) (As := [.int 40]) (rest := []) rfl (by decide) rfl rfl (by decide) rfl (Nat.le_of_ble_eq_true rfl) ?_
            refine eb_Ct.mono w ?_
            rintro r h35 ⟨y36, rfl, ko37, w⟩
            change eb_Sn _ _ _ 127 _ [.int y36] _ _
            refine eb_if_ne (pc := 127) (tgt := 139) rfl (by decide) (fun c38 => ?_) (fun c38 => ?_)
            · replace w := w.1 c38
              refine eb_aload_n (pc := 139) (n := 0) (i := 0) rfl rfl rfl ?_
              refine eb_ctV (pc := 140) (As := []) (rest := []) rfl (by decide) rfl rfl (by decide) rfl (Nat.le_of_ble_eq_true rfl) ?_
              refine eb_Ct.mono w ?_
              rintro r h39 ⟨rfl, ko41, w⟩
              change eb_Sn _ _ _ 143 _ [] _ _
              refine eb_goto (pc := 143) (tgt := 151) rfl (by decide) ?_
              refine eb_aload_n (pc := 151) (n := 0) (i := 0) rfl rfl rfl ?_
              refine eb_iload_n (pc := 152) (n := 1) (i := 1) rfl rfl rfl ?_
              refine eb_ctV (pc := 153) (As := [.int x1]) (rest := []) rfl (by decide) rfl rfl (by decide) rfl (Nat.le_of_ble_eq_true rfl) ?_
              refine eb_Ct.mono w ?_
              rintro r h42 ⟨rfl, ko44, w⟩
              change eb_Sn _ _ _ 156 _ [] _ _
              refine eb_aload_n (pc := 156) (n := 0) (i := 0) rfl rfl rfl ?_
              refine eb_iload_n (pc := 157) (n := 2) (i := 2) rfl rfl rfl ?_
              refine eb_ctV (pc := 158) (As := [.int (if y17 = 0 then 3005 else 3004 : Int32)]) (rest := []) rfl (by decide) rfl rfl (by decide) rfl (Nat.le_of_ble_eq_true rfl) ?_
              refine eb_Ct.mono w ?_
              rintro r h45 ⟨rfl, ko47, w⟩
              change eb_Sn _ _ _ 161 _ [] _ _
              exact eb_return (pc := 161) rfl rfl w
            · replace w := w.2 c38
              refine eb_aload_n (pc := 130) (n := 0) (i := 0) rfl rfl rfl ?_
              refine eb_bipush (pc := 131) (n := 41) (v := 41) rfl rfl ?_
              refine eb_ctV (pc := 133) (As := [.int 41]) (rest := []) rfl (by decide) rfl rfl (by decide) rfl (Nat.le_of_ble_eq_true rfl) ?_
              refine eb_Ct.mono w ?_
              rintro r h48 ⟨y49, rfl, ko50, w⟩
              change eb_Sn _ _ _ 136 _ [.int y49] _ _
              refine eb_if_eq (pc := 136) (tgt := 146) rfl (by decide) (fun c51 => ?_) (fun c51 => ?_)
              · replace w := w.1 c51
                refine eb_aload_n (pc := 146) (n := 0) (i := 0) rfl rfl rfl ?_
                refine eb_iconst (pc := 147) (n := 2) (v := 2) rfl rfl ?_
                refine eb_ctV (pc := 148) (As := [.int 2]) (rest := []) rfl (by decide) rfl rfl (by decide) rfl (Nat.le_of_ble_eq_true rfl) ?_
                refine eb_Ct.mono w ?_
                rintro r h52 ⟨rfl, ko54, w⟩
                change eb_Sn _ _ _ 151 _ [] _ _
                refine eb_aload_n (pc := 151) (n := 0) (i := 0) rfl rfl rfl ?_
                refine eb_iload_n (pc := 152) (n := 1) (i := 1) rfl rfl rfl ?_
                refine eb_ctV (pc := 153) (As := [.int x1]) (rest := []) rfl (by decide) rfl rfl (by decide) rfl (Nat.le_of_ble_eq_true rfl) ?_
                refine eb_Ct.mono w ?_
                rintro r h55 ⟨rfl, ko57, w⟩
                change eb_Sn _ _ _ 156 _ [] _ _
                refine eb_aload_n (pc := 156) (n := 0) (i := 0) rfl rfl rfl ?_
                refine eb_iload_n (pc := 157) (n := 2) (i := 2) rfl rfl rfl ?_
                refine eb_ctV (pc := 158) (As := [.int (if y17 = 0 then 3005 else 3004 : Int32)]) (rest := []) rfl (by decide) rfl rfl (by decide) rfl (Nat.le_of_ble_eq_true rfl) ?_
                refine eb_Ct.mono w ?_
                rintro r h58 ⟨rfl, ko60, w⟩
                change eb_Sn _ _ _ 161 _ [] _ _
                exact eb_return (pc := 161) rfl rfl w
              · replace w := w.2 c51
                refine eb_aload_n (pc := 139) (n := 0) (i := 0) rfl rfl rfl ?_
                refine eb_ctV (pc := 140) (As := []) (rest := []) rfl (by decide) rfl rfl (by decide) rfl (Nat.le_of_ble_eq_true rfl) ?_
                refine eb_Ct.mono w ?_
                rintro r h61 ⟨rfl, ko63, w⟩
                change eb_Sn _ _ _ 143 _ [] _ _
                refine eb_goto (pc := 143) (tgt := 151) rfl (by decide) ?_
                refine eb_aload_n (pc := 151) (n := 0) (i := 0) rfl rfl rfl ?_
                refine eb_iload_n (pc := 152) (n := 1) (i := 1) rfl rfl rfl ?_
                refine eb_ctV (pc := 153) (As := [.int x1]) (rest := []) rfl (by decide) rfl rfl (by decide) rfl (Nat.le_of_ble_eq_true rfl) ?_
                refine eb_Ct.mono w ?_
                rintro r h64 ⟨rfl, ko66, w⟩
                change eb_Sn _ _ _ 156 _ [] _ _
                refine eb_aload_n (pc := 156) (n := 0) (i := 0) rfl rfl rfl ?_
                refine eb_iload_n (pc := 157) (n := 2) (i := 2) rfl rfl rfl ?_
                refine eb_ctV (pc := 158) (As := [.int (if y17 = 0 then 3005 else 3004 : Int32)]) (rest := []) rfl (by decide) rfl rfl (by decide) rfl (Nat.le_of_ble_eq_true rfl) ?_
                refine eb_Ct.mono w ?_
                rintro r h67 ⟨rfl, ko69, w⟩
                change eb_Sn _ _ _ 161 _ [] _ _
                exact eb_return (pc := 161) rfl rfl w
        refine eb_if_eq (pc := 99) (tgt := 108) rfl (by decide) (fun c19 => ?_) (fun c19 => ?_)
        · refine eb_sipush (pc := 108) (n := 3005) (v := 3005) rfl rfl ?_
          exact jj20 _ (by simp only [if_pos c19])
        · refine eb_sipush (pc := 102) (n := 3004) (v := 3004) rfl rfl ?_
          refine eb_goto (pc := 105) (tgt := 111) rfl (by decide) ?_
          exact jj20 _ (by simp only [if_neg c19])
      · replace w := w.2 c15
        refine eb_sipush (pc := 87) (n := 3003) (v := 3003) rfl rfl ?_
        refine eb_goto (pc := 90) (tgt := 111) rfl (by decide) ?_
        refine eb_istore_n (pc := 111) (n := 2) (i := 2) (ls2 := [(2, .int 3003), (0, .ref s_MO), (1, .int x1)]) rfl (Nat.le_of_ble_eq_true rfl) rfl rfl ?_
        refine eb_aload_n (pc := 112) (n := 0) (i := 0) rfl rfl rfl ?_
        refine eb_bipush (pc := 113) (n := 39) (v := 39) rfl rfl ?_
        refine eb_ctV (pc := 115) (As := [.int 39]) (rest := []) rfl (by decide) rfl rfl (by decide) rfl (Nat.le_of_ble_eq_true rfl) ?_
        refine eb_Ct.mono w ?_
        rintro r h70 ⟨y71, rfl, ko72, w⟩
        change eb_Sn _ _ _ 118 _ [.int y71] _ _
        refine eb_if_ne (pc := 118) (tgt := 139) rfl (by decide) (fun c73 => ?_) (fun c73 => ?_)
        · replace w := w.1 c73
          refine eb_aload_n (pc := 139) (n := 0) (i := 0) rfl rfl rfl ?_
          refine eb_ctV (pc := 140) (As := []) (rest := []) rfl (by decide) rfl rfl (by decide) rfl (Nat.le_of_ble_eq_true rfl) ?_
          refine eb_Ct.mono w ?_
          rintro r h74 ⟨rfl, ko76, w⟩
          change eb_Sn _ _ _ 143 _ [] _ _
          refine eb_goto (pc := 143) (tgt := 151) rfl (by decide) ?_
          refine eb_aload_n (pc := 151) (n := 0) (i := 0) rfl rfl rfl ?_
          refine eb_iload_n (pc := 152) (n := 1) (i := 1) rfl rfl rfl ?_
          refine eb_ctV (pc := 153) (As := [.int x1]) (rest := []) rfl (by decide) rfl rfl (by decide) rfl (Nat.le_of_ble_eq_true rfl) ?_
          refine eb_Ct.mono w ?_
          rintro r h77 ⟨rfl, ko79, w⟩
          change eb_Sn _ _ _ 156 _ [] _ _
          refine eb_aload_n (pc := 156) (n := 0) (i := 0) rfl rfl rfl ?_
          refine eb_iload_n (pc := 157) (n := 2) (i := 2) rfl rfl rfl ?_
          refine eb_ctV (pc := 158) (As := [.int 3003]) (rest := []) rfl (by decide) rfl rfl (by decide) rfl (Nat.le_of_ble_eq_true rfl) ?_
          refine eb_Ct.mono w ?_
          rintro r h80 ⟨rfl, ko82, w⟩
          change eb_Sn _ _ _ 161 _ [] _ _
          exact eb_return (pc := 161) rfl rfl w
        · replace w := w.2 c73
          refine eb_aload_n (pc := 121) (n := 0) (i := 0) rfl rfl rfl ?_
          refine eb_bipush (pc := 122) (n := 40) (v := 40) rfl rfl ?_
          refine eb_ctV (pc := 124) (As := [.int 40]) (rest := []) rfl (by decide) rfl rfl (by decide) rfl (Nat.le_of_ble_eq_true rfl) ?_
          refine eb_Ct.mono w ?_
          rintro r h83 ⟨y84, rfl, ko85, w⟩
          change eb_Sn _ _ _ 127 _ [.int y84] _ _
          refine eb_if_ne (pc := 127) (tgt := 139) rfl (by decide) (fun c86 => ?_) (fun c86 => ?_)
          · replace w := w.1 c86
            refine eb_aload_n (pc := 139) (n := 0) (i := 0) rfl rfl rfl ?_
            refine eb_ctV (pc := 140) (As := []) (rest := []) rfl (by decide) rfl rfl (by decide) rfl (Nat.le_of_ble_eq_true rfl) ?_
            refine eb_Ct.mono w ?_
            rintro r h87 ⟨rfl, ko89, w⟩
            change eb_Sn _ _ _ 143 _ [] _ _
            refine eb_goto (pc := 143) (tgt := 151) rfl (by decide) ?_
            refine eb_aload_n (pc := 151) (n := 0) (i := 0) rfl rfl rfl ?_
            refine eb_iload_n (pc := 152) (n := 1) (i := 1) rfl rfl rfl ?_
            refine eb_ctV (pc := 153) (As := [.int x1]) (rest := []) rfl (by decide) rfl rfl (by decide) rfl (Nat.le_of_ble_eq_true rfl) ?_
            refine eb_Ct.mono w ?_
            rintro r h90 ⟨rfl, ko92, w⟩
            change eb_Sn _ _ _ 156 _ [] _ _
            refine eb_aload_n (pc := 156) (n := 0) (i := 0) rfl rfl rfl ?_
            refine eb_iload_n (pc := 157) (n := 2) (i := 2) rfl rfl rfl ?_
            refine eb_ctV (pc := 158) (As := [.int 3003]) (rest := []) rfl (by decide) rfl rfl (by decide) rfl (Nat.le_of_ble_eq_true rfl) ?_
            refine eb_Ct.mono w ?_
            rintro r h93 ⟨rfl, ko95, w⟩
            change eb_Sn _ _ _ 161 _ [] _ _
            exact eb_return (pc := 161) rfl rfl w
          · replace w := w.2 c86
            refine eb_aload_n (pc := 130) (n := 0) (i := 0) rfl rfl rfl ?_
            refine eb_bipush (pc := 131) (n := 41) (v := 41) rfl rfl ?_
            refine eb_ctV (pc := 133) (As := [.int 41]) (rest := []) rfl (by decide) rfl rfl (by decide) rfl (Nat.le_of_ble_eq_true rfl) ?_
            refine eb_Ct.mono w ?_
            rintro r h96 ⟨y97, rfl, ko98, w⟩
            change eb_Sn _ _ _ 136 _ [.int y97] _ _
            refine eb_if_eq (pc := 136) (tgt := 146) rfl (by decide) (fun c99 => ?_) (fun c99 => ?_)
            · replace w := w.1 c99
              refine eb_aload_n (pc := 146) (n := 0) (i := 0) rfl rfl rfl ?_
              refine eb_iconst (pc := 147) (n := 2) (v := 2) rfl rfl ?_
              refine eb_ctV (pc := 148) (As := [.int 2]) (rest := []) rfl (by decide) rfl rfl (by decide) rfl (Nat.le_of_ble_eq_true rfl) ?_
              refine eb_Ct.mono w ?_
              rintro r h100 ⟨rfl, ko102, w⟩
              change eb_Sn _ _ _ 151 _ [] _ _
              refine eb_aload_n (pc := 151) (n := 0) (i := 0) rfl rfl rfl ?_
              refine eb_iload_n (pc := 152) (n := 1) (i := 1) rfl rfl rfl ?_
              refine eb_ctV (pc := 153) (As := [.int x1]) (rest := []) rfl (by decide) rfl rfl (by decide) rfl (Nat.le_of_ble_eq_true rfl) ?_
              refine eb_Ct.mono w ?_
              rintro r h103 ⟨rfl, ko105, w⟩
              change eb_Sn _ _ _ 156 _ [] _ _
              refine eb_aload_n (pc := 156) (n := 0) (i := 0) rfl rfl rfl ?_
              refine eb_iload_n (pc := 157) (n := 2) (i := 2) rfl rfl rfl ?_
              refine eb_ctV (pc := 158) (As := [.int 3003]) (rest := []) rfl (by decide) rfl rfl (by decide) rfl (Nat.le_of_ble_eq_true rfl) ?_
              refine eb_Ct.mono w ?_
              rintro r h106 ⟨rfl, ko108, w⟩
              change eb_Sn _ _ _ 161 _ [] _ _
              exact eb_return (pc := 161) rfl rfl w
            · replace w := w.2 c99
              refine eb_aload_n (pc := 139) (n := 0) (i := 0) rfl rfl rfl ?_
              refine eb_ctV (pc := 140) (As := []) (rest := []) rfl (by decide) rfl rfl (by decide) rfl (Nat.le_of_ble_eq_true rfl) ?_
              refine eb_Ct.mono w ?_
              rintro r h109 ⟨rfl, ko111, w⟩
              change eb_Sn _ _ _ 143 _ [] _ _
              refine eb_goto (pc := 143) (tgt := 151) rfl (by decide) ?_
              refine eb_aload_n (pc := 151) (n := 0) (i := 0) rfl rfl rfl ?_
              refine eb_iload_n (pc := 152) (n := 1) (i := 1) rfl rfl rfl ?_
              refine eb_ctV (pc := 153) (As := [.int x1]) (rest := []) rfl (by decide) rfl rfl (by decide) rfl (Nat.le_of_ble_eq_true rfl) ?_
              refine eb_Ct.mono w ?_
              rintro r h112 ⟨rfl, ko114, w⟩
              change eb_Sn _ _ _ 156 _ [] _ _
              refine eb_aload_n (pc := 156) (n := 0) (i := 0) rfl rfl rfl ?_
              refine eb_iload_n (pc := 157) (n := 2) (i := 2) rfl rfl rfl ?_
              refine eb_ctV (pc := 158) (As := [.int 3003]) (rest := []) rfl (by decide) rfl rfl (by decide) rfl (Nat.le_of_ble_eq_true rfl) ?_
              refine eb_Ct.mono w ?_
              rintro r h115 ⟨rfl, ko117, w⟩
              change eb_Sn _ _ _ 161 _ [] _ _
              exact eb_return (pc := 161) rfl rfl w
    · replace w := w.2 c8
      refine eb_aload_n (pc := 42) (n := 0) (i := 0) rfl rfl rfl ?_
      refine eb_iload_n (pc := 43) (n := 1) (i := 1) rfl rfl rfl ?_
      refine eb_ctV (pc := 44) (As := [.int x1]) (rest := []) rfl (by decide) rfl rfl (by decide) rfl (Nat.le_of_ble_eq_true rfl) ?_
      refine eb_Ct.mono w ?_
      rintro r h118 ⟨y119, rfl, ko120, w⟩
      change eb_Sn _ _ _ 47 _ [.int y119] _ _
      refine eb_if_ne (pc := 47) (tgt := 51) rfl (by decide) (fun c121 => ?_) (fun c121 => ?_)
      · replace w := w.1 c121
        refine eb_aload_n (pc := 51) (n := 0) (i := 0) rfl rfl rfl ?_
        refine eb_iload_n (pc := 52) (n := 1) (i := 1) rfl rfl rfl ?_
        refine eb_iconst (pc := 53) (n := 1) (v := 1) rfl rfl ?_
        refine eb_iadd (pc := 54) rfl ?_
        refine eb_ctV (pc := 55) (As := [.int (x1 + 1)]) (rest := []) rfl (by decide) rfl rfl (by decide) rfl (Nat.le_of_ble_eq_true rfl) ?_
        refine eb_Ct.mono w ?_
        rintro r h122 ⟨rfl, ko124, w⟩
        change eb_Sn _ _ _ 58 _ [] _ _
        refine eb_aload_n (pc := 58) (n := 0) (i := 0) rfl rfl rfl ?_
        refine eb_bipush (pc := 59) (n := 38) (v := 38) rfl rfl ?_
        refine eb_ctV (pc := 61) (As := [.int 38]) (rest := []) rfl (by decide) rfl rfl (by decide) rfl (Nat.le_of_ble_eq_true rfl) ?_
        refine eb_Ct.mono w ?_
        rintro r h125 ⟨y126, rfl, ko127, w⟩
        change eb_Sn _ _ _ 64 _ [.int y126] _ _
        refine eb_if_ne (pc := 64) (tgt := 72) rfl (by decide) (fun c128 => ?_) (fun c128 => ?_)
        · replace w := w.1 c128
          exact eb_return (pc := 72) rfl rfl w
        · replace w := w.2 c128
          refine eb_aload_n (pc := 67) (n := 0) (i := 0) rfl rfl rfl ?_
          refine eb_iconst (pc := 68) (n := 2) (v := 2) rfl rfl ?_
          refine eb_ctV (pc := 69) (As := [.int 2]) (rest := []) rfl (by decide) rfl rfl (by decide) rfl (Nat.le_of_ble_eq_true rfl) ?_
          refine eb_Ct.mono w ?_
          rintro r h129 ⟨rfl, ko131, w⟩
          change eb_Sn _ _ _ 72 _ [] _ _
          exact eb_return (pc := 72) rfl rfl w
      · replace w := w.2 c121
        exact eb_return (pc := 50) rfl rfl w
  · replace w := w.2 c4
    refine eb_aload_n (pc := 9) (n := 0) (i := 0) rfl rfl rfl ?_
    refine eb_iload_n (pc := 10) (n := 1) (i := 1) rfl rfl rfl ?_
    refine eb_ctV (pc := 11) (As := [.int x1]) (rest := []) rfl (by decide) rfl rfl (by decide) rfl (Nat.le_of_ble_eq_true rfl) ?_
    refine eb_Ct.mono w ?_
    rintro r h132 ⟨y133, rfl, ko134, w⟩
    change eb_Sn _ _ _ 14 _ [.int y133] _ _
    refine eb_if_ne (pc := 14) (tgt := 18) rfl (by decide) (fun c135 => ?_) (fun c135 => ?_)
    · replace w := w.1 c135
      refine eb_aload_n (pc := 18) (n := 0) (i := 0) rfl rfl rfl ?_
      refine eb_iload_n (pc := 19) (n := 1) (i := 1) rfl rfl rfl ?_
      refine eb_iconst (pc := 20) (n := 1) (v := 1) rfl rfl ?_
      refine eb_iadd (pc := 21) rfl ?_
      refine eb_ctV (pc := 22) (As := [.int (x1 + 1)]) (rest := []) rfl (by decide) rfl rfl (by decide) rfl (Nat.le_of_ble_eq_true rfl) ?_
      refine eb_Ct.mono w ?_
      rintro r h136 ⟨rfl, ko138, w⟩
      change eb_Sn _ _ _ 25 _ [] _ _
      refine eb_aload_n (pc := 25) (n := 0) (i := 0) rfl rfl rfl ?_
      refine eb_sipush (pc := 26) (n := 3006) (v := 3006) rfl rfl ?_
      refine eb_ctV (pc := 29) (As := [.int 3006]) (rest := []) rfl (by decide) rfl rfl (by decide) rfl (Nat.le_of_ble_eq_true rfl) ?_
      refine eb_Ct.mono w ?_
      rintro r h139 ⟨rfl, ko141, w⟩
      change eb_Sn _ _ _ 32 _ [] _ _
      exact eb_return (pc := 32) rfl rfl w
    · replace w := w.2 c135
      exact eb_return (pc := 17) rfl rfl w
theorem T_X11_readUnit {d : Nat} {h : eb_H} {Q : Option Value → eb_H → Prop} (x1 : Int32)  (ko : eb_KO h) (w : eb_Ct d 166 [.ref s_MO, .int 16] h (fun r h1 => ∃ y2, r = some (.int y2) ∧ eb_KO h1 ∧ ((y2 = 0 → eb_Ct d 166 [.ref s_MO, .int 37] h1 (fun r h5 => ∃ y6, r = some (.int y6) ∧ eb_KO h5 ∧ ((y6 = 0 → eb_Ct d 175 [.ref s_MO, .int x1] h5 (fun r h9 => r = none ∧ eb_KO h9 ∧ eb_Ct d 166 [.ref s_MO, .int 39] h9 (fun r h12 => ∃ y13, r = some (.int y13) ∧ eb_KO h12 ∧ ((y13 = 0 → eb_Ct d 166 [.ref s_MO, .int 40] h12 (fun r h16 => ∃ y17, r = some (.int y17) ∧ eb_KO h16 ∧ eb_Ct d 166 [.ref s_MO, .int 39] h16 (fun r h22 => ∃ y23, r = some (.int y23) ∧ eb_KO h22 ∧ ((¬ y23 = 0 → eb_Ct d 164 [.ref s_MO] h22 (fun r h26 => r = none ∧ eb_KO h26 ∧ eb_Ct d 175 [.ref s_MO, .int x1] h26 (fun r h29 => r = none ∧ eb_KO h29 ∧ eb_Ct d 171 [.ref s_MO, .int (if y17 = 0 then 3005 else 3004 : Int32)] h29 (fun r h32 => r = none ∧ eb_KO h32 ∧ Q none h32)))) ∧ (y23 = 0 → eb_Ct d 166 [.ref s_MO, .int 40] h22 (fun r h35 => ∃ y36, r = some (.int y36) ∧ eb_KO h35 ∧ ((¬ y36 = 0 → eb_Ct d 164 [.ref s_MO] h35 (fun r h39 => r = none ∧ eb_KO h39 ∧ eb_Ct d 175 [.ref s_MO, .int x1] h39 (fun r h42 => r = none ∧ eb_KO h42 ∧ eb_Ct d 171 [.ref s_MO, .int (if y17 = 0 then 3005 else 3004 : Int32)] h42 (fun r h45 => r = none ∧ eb_KO h45 ∧ Q none h45)))) ∧ (y36 = 0 → eb_Ct d 166 [.ref s_MO, .int 41] h35 (fun r h48 => ∃ y49, r = some (.int y49) ∧ eb_KO h48 ∧ ((y49 = 0 → eb_Ct d 165 [.ref s_MO, .int 2] h48 (fun r h52 => r = none ∧ eb_KO h52 ∧ eb_Ct d 175 [.ref s_MO, .int x1] h52 (fun r h55 => r = none ∧ eb_KO h55 ∧ eb_Ct d 171 [.ref s_MO, .int (if y17 = 0 then 3005 else 3004 : Int32)] h55 (fun r h58 => r = none ∧ eb_KO h58 ∧ Q none h58)))) ∧ (¬ (y49 = 0) → eb_Ct d 164 [.ref s_MO] h48 (fun r h61 => r = none ∧ eb_KO h61 ∧ eb_Ct d 175 [.ref s_MO, .int x1] h61 (fun r h64 => r = none ∧ eb_KO h64 ∧ eb_Ct d 171 [.ref s_MO, .int (if y17 = 0 then 3005 else 3004 : Int32)] h64 (fun r h67 => r = none ∧ eb_KO h67 ∧ Q none h67)))))))))))))) ∧ (¬ (y13 = 0) → eb_Ct d 166 [.ref s_MO, .int 39] h12 (fun r h70 => ∃ y71, r = some (.int y71) ∧ eb_KO h70 ∧ ((¬ y71 = 0 → eb_Ct d 164 [.ref s_MO] h70 (fun r h74 => r = none ∧ eb_KO h74 ∧ eb_Ct d 175 [.ref s_MO, .int x1] h74 (fun r h77 => r = none ∧ eb_KO h77 ∧ eb_Ct d 171 [.ref s_MO, .int 3003] h77 (fun r h80 => r = none ∧ eb_KO h80 ∧ Q none h80)))) ∧ (y71 = 0 → eb_Ct d 166 [.ref s_MO, .int 40] h70 (fun r h83 => ∃ y84, r = some (.int y84) ∧ eb_KO h83 ∧ ((¬ y84 = 0 → eb_Ct d 164 [.ref s_MO] h83 (fun r h87 => r = none ∧ eb_KO h87 ∧ eb_Ct d 175 [.ref s_MO, .int x1] h87 (fun r h90 => r = none ∧ eb_KO h90 ∧ eb_Ct d 171 [.ref s_MO, .int 3003] h90 (fun r h93 => r = none ∧ eb_KO h93 ∧ Q none h93)))) ∧ (y84 = 0 → eb_Ct d 166 [.ref s_MO, .int 41] h83 (fun r h96 => ∃ y97, r = some (.int y97) ∧ eb_KO h96 ∧ ((y97 = 0 → eb_Ct d 165 [.ref s_MO, .int 2] h96 (fun r h100 => r = none ∧ eb_KO h100 ∧ eb_Ct d 175 [.ref s_MO, .int x1] h100 (fun r h103 => r = none ∧ eb_KO h103 ∧ eb_Ct d 171 [.ref s_MO, .int 3003] h103 (fun r h106 => r = none ∧ eb_KO h106 ∧ Q none h106)))) ∧ (¬ (y97 = 0) → eb_Ct d 164 [.ref s_MO] h96 (fun r h109 => r = none ∧ eb_KO h109 ∧ eb_Ct d 175 [.ref s_MO, .int x1] h109 (fun r h112 => r = none ∧ eb_KO h112 ∧ eb_Ct d 171 [.ref s_MO, .int 3003] h112 (fun r h115 => r = none ∧ eb_KO h115 ∧ Q none h115))))))))))))))))) ∧ (¬ (y6 = 0) → eb_Ct d 172 [.ref s_MO, .int x1] h5 (fun r h118 => ∃ y119, r = some (.int y119) ∧ eb_KO h118 ∧ ((¬ y119 = 0 → eb_Ct d 178 [.ref s_MO, .int (x1 + 1)] h118 (fun r h122 => r = none ∧ eb_KO h122 ∧ eb_Ct d 167 [.ref s_MO, .int 38] h122 (fun r h125 => ∃ y126, r = some (.int y126) ∧ eb_KO h125 ∧ ((¬ y126 = 0 → Q none h125) ∧ (y126 = 0 → eb_Ct d 165 [.ref s_MO, .int 2] h125 (fun r h129 => r = none ∧ eb_KO h129 ∧ Q none h129)))))) ∧ (y119 = 0 → Q none h118))))))) ∧ (¬ (y2 = 0) → eb_Ct d 172 [.ref s_MO, .int x1] h1 (fun r h132 => ∃ y133, r = some (.int y133) ∧ eb_KO h132 ∧ ((¬ y133 = 0 → eb_Ct d 176 [.ref s_MO, .int (x1 + 1)] h132 (fun r h136 => r = none ∧ eb_KO h136 ∧ eb_Ct d 171 [.ref s_MO, .int 3006] h136 (fun r h139 => r = none ∧ eb_KO h139 ∧ Q none h139))) ∧ (y133 = 0 → Q none h132))))))) : eb_Ct (d + 1) 176 [.ref s_MO, .int x1] h Q :=
  eb_bodyQ (by decide) ok_X11_readUnit (Nat.le_of_ble_eq_true rfl) (b_X11_readUnit_0 (h0 := h) x1  ko w)
theorem b_X11_readBoth_0 {d : Nat} {h0 h : eb_H} {Q : Option Value → eb_H → Prop} (x1 : Int32)  (ko : eb_KO h) (w : eb_Ct d 176 [.ref s_MO, .int x1] h (fun r h1 => r = none ∧ eb_KO h1 ∧ eb_Sn (d + 1) m_X11_readBoth h0 5 [(0, .ref s_MO), (1, .int x1)] [] h1 Q)) : eb_Sn (d + 1) m_X11_readBoth h0 0 [(0, .ref s_MO), (1, .int x1)] [] h Q := by
  refine eb_aload_n (pc := 0) (n := 0) (i := 0) rfl rfl rfl ?_
  refine eb_iload_n (pc := 1) (n := 1) (i := 1) rfl rfl rfl ?_
  refine eb_ctV (pc := 2) (As := [.int x1]) (rest := []) rfl (by decide) rfl rfl (by decide) rfl (Nat.le_of_ble_eq_true rfl) ?_
  refine eb_Ct.mono w ?_
  rintro r h1 ⟨rfl, ko3, w⟩
  change eb_Sn _ _ _ 5 _ [] _ _
  exact eb_pick [0, 1] rfl w
theorem b_X11_readBoth_5 {d : Nat} {h0 h : eb_H} {Q : Option Value → eb_H → Prop} (x1 : Int32)  (ko : eb_KO h) (w : eb_Ct d 167 [.ref s_MO, .int 14] h (fun r h1 => ∃ y2, r = some (.int y2) ∧ eb_KO h1 ∧ ((y2 = 0 → Q none h1) ∧ (¬ (y2 = 0) → eb_Ct d 176 [.ref s_MO, .int x1] h1 (fun r h5 => r = none ∧ eb_KO h5 ∧ eb_Ct d 171 [.ref s_MO, .int 3007] h5 (fun r h8 => r = none ∧ eb_KO h8 ∧ eb_Sn (d + 1) m_X11_readBoth h0 5 [(0, .ref s_MO), (1, .int x1)] [] h8 Q)))))) : eb_Sn (d + 1) m_X11_readBoth h0 5 [(0, .ref s_MO), (1, .int x1)] [] h Q := by
  refine eb_aload_n (pc := 5) (n := 0) (i := 0) rfl rfl rfl ?_
  refine eb_bipush (pc := 6) (n := 14) (v := 14) rfl rfl ?_
  refine eb_ctV (pc := 8) (As := [.int 14]) (rest := []) rfl (by decide) rfl rfl (by decide) rfl (Nat.le_of_ble_eq_true rfl) ?_
  refine eb_Ct.mono w ?_
  rintro r h1 ⟨y2, rfl, ko3, w⟩
  change eb_Sn _ _ _ 11 _ [.int y2] _ _
  refine eb_if_eq (pc := 11) (tgt := 29) rfl (by decide) (fun c4 => ?_) (fun c4 => ?_)
  · replace w := w.1 c4
    exact eb_return (pc := 29) rfl rfl w
  · replace w := w.2 c4
    refine eb_aload_n (pc := 14) (n := 0) (i := 0) rfl rfl rfl ?_
    refine eb_iload_n (pc := 15) (n := 1) (i := 1) rfl rfl rfl ?_
    refine eb_ctV (pc := 16) (As := [.int x1]) (rest := []) rfl (by decide) rfl rfl (by decide) rfl (Nat.le_of_ble_eq_true rfl) ?_
    refine eb_Ct.mono w ?_
    rintro r h5 ⟨rfl, ko7, w⟩
    change eb_Sn _ _ _ 19 _ [] _ _
    refine eb_aload_n (pc := 19) (n := 0) (i := 0) rfl rfl rfl ?_
    refine eb_sipush (pc := 20) (n := 3007) (v := 3007) rfl rfl ?_
    refine eb_ctV (pc := 23) (As := [.int 3007]) (rest := []) rfl (by decide) rfl rfl (by decide) rfl (Nat.le_of_ble_eq_true rfl) ?_
    refine eb_Ct.mono w ?_
    rintro r h8 ⟨rfl, ko10, w⟩
    change eb_Sn _ _ _ 26 _ [] _ _
    refine eb_goto (pc := 26) (tgt := 5) rfl (by decide) ?_
    exact eb_pick [0, 1] rfl w
theorem T_X11_readBoth {d : Nat} {h : eb_H} {Q : Option Value → eb_H → Prop} (x1 : Int32)  (ko : eb_KO h) (w : eb_Ct d 176 [.ref s_MO, .int x1] h (fun r h1 => r = none ∧ eb_KO h1 ∧ eb_Sn (d + 1) m_X11_readBoth h 5 [(0, .ref s_MO), (1, .int x1)] [] h1 Q)) : eb_Ct (d + 1) 177 [.ref s_MO, .int x1] h Q :=
  eb_bodyQ (by decide) ok_X11_readBoth (Nat.le_of_ble_eq_true rfl) (b_X11_readBoth_0 (h0 := h) x1  ko w)
theorem b_X11_readTruth_0 {d : Nat} {h0 h : eb_H} {Q : Option Value → eb_H → Prop} (x1 : Int32)  (ko : eb_KO h) (w : eb_Ct d 177 [.ref s_MO, .int x1] h (fun r h1 => r = none ∧ eb_KO h1 ∧ eb_Sn (d + 1) m_X11_readTruth h0 5 [(0, .ref s_MO), (1, .int x1)] [] h1 Q)) : eb_Sn (d + 1) m_X11_readTruth h0 0 [(0, .ref s_MO), (1, .int x1)] [] h Q := by
  refine eb_aload_n (pc := 0) (n := 0) (i := 0) rfl rfl rfl ?_
  refine eb_iload_n (pc := 1) (n := 1) (i := 1) rfl rfl rfl ?_
  refine eb_ctV (pc := 2) (As := [.int x1]) (rest := []) rfl (by decide) rfl rfl (by decide) rfl (Nat.le_of_ble_eq_true rfl) ?_
  refine eb_Ct.mono w ?_
  rintro r h1 ⟨rfl, ko3, w⟩
  change eb_Sn _ _ _ 5 _ [] _ _
  exact eb_pick [0, 1] rfl w
theorem b_X11_readTruth_5 {d : Nat} {h0 h : eb_H} {Q : Option Value → eb_H → Prop} (x1 : Int32)  (ko : eb_KO h) (w : eb_Ct d 167 [.ref s_MO, .int 15] h (fun r h1 => ∃ y2, r = some (.int y2) ∧ eb_KO h1 ∧ ((y2 = 0 → Q none h1) ∧ (¬ (y2 = 0) → eb_Ct d 177 [.ref s_MO, .int x1] h1 (fun r h5 => r = none ∧ eb_KO h5 ∧ eb_Ct d 171 [.ref s_MO, .int 3008] h5 (fun r h8 => r = none ∧ eb_KO h8 ∧ eb_Sn (d + 1) m_X11_readTruth h0 5 [(0, .ref s_MO), (1, .int x1)] [] h8 Q)))))) : eb_Sn (d + 1) m_X11_readTruth h0 5 [(0, .ref s_MO), (1, .int x1)] [] h Q := by
  refine eb_aload_n (pc := 5) (n := 0) (i := 0) rfl rfl rfl ?_
  refine eb_bipush (pc := 6) (n := 15) (v := 15) rfl rfl ?_
  refine eb_ctV (pc := 8) (As := [.int 15]) (rest := []) rfl (by decide) rfl rfl (by decide) rfl (Nat.le_of_ble_eq_true rfl) ?_
  refine eb_Ct.mono w ?_
  rintro r h1 ⟨y2, rfl, ko3, w⟩
  change eb_Sn _ _ _ 11 _ [.int y2] _ _
  refine eb_if_eq (pc := 11) (tgt := 29) rfl (by decide) (fun c4 => ?_) (fun c4 => ?_)
  · replace w := w.1 c4
    exact eb_return (pc := 29) rfl rfl w
  · replace w := w.2 c4
    refine eb_aload_n (pc := 14) (n := 0) (i := 0) rfl rfl rfl ?_
    refine eb_iload_n (pc := 15) (n := 1) (i := 1) rfl rfl rfl ?_
    refine eb_ctV (pc := 16) (As := [.int x1]) (rest := []) rfl (by decide) rfl rfl (by decide) rfl (Nat.le_of_ble_eq_true rfl) ?_
    refine eb_Ct.mono w ?_
    rintro r h5 ⟨rfl, ko7, w⟩
    change eb_Sn _ _ _ 19 _ [] _ _
    refine eb_aload_n (pc := 19) (n := 0) (i := 0) rfl rfl rfl ?_
    refine eb_sipush (pc := 20) (n := 3008) (v := 3008) rfl rfl ?_
    refine eb_ctV (pc := 23) (As := [.int 3008]) (rest := []) rfl (by decide) rfl rfl (by decide) rfl (Nat.le_of_ble_eq_true rfl) ?_
    refine eb_Ct.mono w ?_
    rintro r h8 ⟨rfl, ko10, w⟩
    change eb_Sn _ _ _ 26 _ [] _ _
    refine eb_goto (pc := 26) (tgt := 5) rfl (by decide) ?_
    exact eb_pick [0, 1] rfl w
theorem T_X11_readTruth {d : Nat} {h : eb_H} {Q : Option Value → eb_H → Prop} (x1 : Int32)  (ko : eb_KO h) (w : eb_Ct d 177 [.ref s_MO, .int x1] h (fun r h1 => r = none ∧ eb_KO h1 ∧ eb_Sn (d + 1) m_X11_readTruth h 5 [(0, .ref s_MO), (1, .int x1)] [] h1 Q)) : eb_Ct (d + 1) 178 [.ref s_MO, .int x1] h Q :=
  eb_bodyQ (by decide) ok_X11_readTruth (Nat.le_of_ble_eq_true rfl) (b_X11_readTruth_0 (h0 := h) x1  ko w)
theorem b_X11_readCell_0 {d : Nat} {h0 h : eb_H} {Q : Option Value → eb_H → Prop}   (ko : eb_KO h) (w : eb_Ct d 168 [.ref s_MO, .int 0, .int (((eb_I h s_m_fresh (1 : Int32).toNatClampNeg) * (eb_I h s_m_fresh (2 : Int32).toNatClampNeg)) - 1)] h (fun r h1 => ∃ y2, r = some (.int y2) ∧ eb_KO h1 ∧ Q (some (.int y2)) h1)) : eb_Sn (d + 1) m_X11_readCell h0 0 [(0, .ref s_MO)] [] h Q := by
  refine eb_aload_n (pc := 0) (n := 0) (i := 0) rfl rfl rfl ?_
  refine eb_iconst (pc := 1) (n := 0) (v := 0) rfl rfl ?_
  refine eb_aload_n (pc := 2) (n := 0) (i := 0) rfl rfl rfl ?_
  refine eb_getR (pc := 3) rfl rfl (by decide) (by decide) rfl (ko_s_MO_4 ko) ?_
  refine eb_iconst (pc := 6) (n := 1) (v := 1) rfl rfl ?_
  refine eb_iaload (pc := 7) rfl rfl (by decide) (by unfold vp_in; decide) ?_
  refine eb_aload_n (pc := 8) (n := 0) (i := 0) rfl rfl rfl ?_
  refine eb_getR (pc := 9) rfl rfl (by decide) (by decide) rfl (ko_s_MO_4 ko) ?_
  refine eb_iconst (pc := 12) (n := 2) (v := 2) rfl rfl ?_
  refine eb_iaload (pc := 13) rfl rfl (by decide) (by unfold vp_in; decide) ?_
  refine eb_imul (pc := 14) rfl ?_
  refine eb_iconst (pc := 15) (n := 1) (v := 1) rfl rfl ?_
  refine eb_isub (pc := 16) rfl ?_
  refine eb_ctV (pc := 17) (As := [.int 0, .int (((eb_I h s_m_fresh (1 : Int32).toNatClampNeg) * (eb_I h s_m_fresh (2 : Int32).toNatClampNeg)) - 1)]) (rest := []) rfl (by decide) rfl rfl (by decide) rfl (Nat.le_of_ble_eq_true rfl) ?_
  refine eb_Ct.mono w ?_
  rintro r h1 ⟨y2, rfl, ko3, w⟩
  change eb_Sn _ _ _ 20 _ [.int y2] _ _
  exact eb_ireturn (pc := 20) rfl rfl rfl w
theorem T_X11_readCell {d : Nat} {h : eb_H} {Q : Option Value → eb_H → Prop}   (ko : eb_KO h) (w : eb_Ct d 168 [.ref s_MO, .int 0, .int (((eb_I h s_m_fresh (1 : Int32).toNatClampNeg) * (eb_I h s_m_fresh (2 : Int32).toNatClampNeg)) - 1)] h (fun r h1 => ∃ y2, r = some (.int y2) ∧ eb_KO h1 ∧ Q (some (.int y2)) h1)) : eb_Ct (d + 1) 179 [.ref s_MO] h Q :=
  eb_bodyQ (by decide) ok_X11_readCell (Nat.le_of_ble_eq_true rfl) (b_X11_readCell_0 (h0 := h)   ko w)
theorem b_X11_readRow_0 {d : Nat} {h0 h : eb_H} {Q : Option Value → eb_H → Prop}   (ko : eb_KO h) (w : eb_Ct d 164 [.ref s_MO] h (fun r h1 => r = none ∧ eb_KO h1 ∧ eb_Ct d 168 [.ref s_MO, .int 0, .int ((eb_I h1 s_m_fresh (1 : Int32).toNatClampNeg) - 1)] h1 (fun r h4 => ∃ y5, r = some (.int y5) ∧ eb_KO h4 ∧ eb_Sn (d + 1) m_X11_readRow h0 20 [(0, .ref s_MO), (1, .int y5), (2, .int 0)] [] h4 Q))) : eb_Sn (d + 1) m_X11_readRow h0 0 [(0, .ref s_MO)] [] h Q := by
  refine eb_aload_n (pc := 0) (n := 0) (i := 0) rfl rfl rfl ?_
  refine eb_ctV (pc := 1) (As := []) (rest := []) rfl (by decide) rfl rfl (by decide) rfl (Nat.le_of_ble_eq_true rfl) ?_
  refine eb_Ct.mono w ?_
  rintro r h1 ⟨rfl, ko3, w⟩
  change eb_Sn _ _ _ 4 _ [] _ _
  refine eb_aload_n (pc := 4) (n := 0) (i := 0) rfl rfl rfl ?_
  refine eb_iconst (pc := 5) (n := 0) (v := 0) rfl rfl ?_
  refine eb_aload_n (pc := 6) (n := 0) (i := 0) rfl rfl rfl ?_
  refine eb_getR (pc := 7) rfl rfl (by decide) (by decide) rfl (ko_s_MO_4 ko3) ?_
  refine eb_iconst (pc := 10) (n := 1) (v := 1) rfl rfl ?_
  refine eb_iaload (pc := 11) rfl rfl (by decide) (by unfold vp_in; decide) ?_
  refine eb_iconst (pc := 12) (n := 1) (v := 1) rfl rfl ?_
  refine eb_isub (pc := 13) rfl ?_
  refine eb_ctV (pc := 14) (As := [.int 0, .int ((eb_I h1 s_m_fresh (1 : Int32).toNatClampNeg) - 1)]) (rest := []) rfl (by decide) rfl rfl (by decide) rfl (Nat.le_of_ble_eq_true rfl) ?_
  refine eb_Ct.mono w ?_
  rintro r h4 ⟨y5, rfl, ko6, w⟩
  change eb_Sn _ _ _ 17 _ [.int y5] _ _
  refine eb_istore_n (pc := 17) (n := 1) (i := 1) (ls2 := [(1, .int y5), (0, .ref s_MO)]) rfl (Nat.le_of_ble_eq_true rfl) rfl rfl ?_
  refine eb_iconst (pc := 18) (n := 0) (v := 0) rfl rfl ?_
  refine eb_istore_n (pc := 19) (n := 2) (i := 2) (ls2 := [(2, .int 0), (1, .int y5), (0, .ref s_MO)]) rfl (Nat.le_of_ble_eq_true rfl) rfl rfl ?_
  exact eb_pick [2, 1, 0] rfl w
theorem b_X11_readRow_20 {d : Nat} {h0 h : eb_H} {Q : Option Value → eb_H → Prop} (x1 : Int32) (x2 : Int32)  (ko : eb_KO h) (w : (((eb_I h s_m_fresh (2 : Int32).toNatClampNeg) ≤ x2 → Q none h) ∧ (¬ ((eb_I h s_m_fresh (2 : Int32).toNatClampNeg) ≤ x2) → ((¬ (eb_I h s_MO 11) = 0 → Q none h) ∧ ((eb_I h s_MO 11) = 0 → eb_Ct d 168 [.ref s_MO, .int 0, .int 9] h (fun r h3 => ∃ y4, r = some (.int y4) ∧ eb_KO h3 ∧ (vp_in (((11 : Int32) + ((eb_I h s_m_fresh (2 : Int32).toNatClampNeg) * x1)) + x2) 1164) ∧ eb_Sn (d + 1) m_X11_readRow h0 20 [(0, .ref s_MO), (1, .int x1), (2, .int (x2 + 1))] [] (eb_sI h3 s_m_fresh (((11 : Int32) + ((eb_I h s_m_fresh (2 : Int32).toNatClampNeg) * x1)) + x2).toNatClampNeg y4) Q)))))) : eb_Sn (d + 1) m_X11_readRow h0 20 [(0, .ref s_MO), (1, .int x1), (2, .int x2)] [] h Q := by
  refine eb_iload_n (pc := 20) (n := 2) (i := 2) rfl rfl rfl ?_
  refine eb_aload_n (pc := 21) (n := 0) (i := 0) rfl rfl rfl ?_
  refine eb_getR (pc := 22) rfl rfl (by decide) (by decide) rfl (ko_s_MO_4 ko) ?_
  refine eb_iconst (pc := 25) (n := 2) (v := 2) rfl rfl ?_
  refine eb_iaload (pc := 26) rfl rfl (by decide) (by unfold vp_in; decide) ?_
  refine eb_icmp_ge (pc := 27) (tgt := 68) rfl (by decide) (fun c1 => ?_) (fun c1 => ?_)
  · replace w := w.1 c1
    exact eb_return (pc := 68) rfl rfl w
  · replace w := w.2 c1
    refine eb_aload_n (pc := 30) (n := 0) (i := 0) rfl rfl rfl ?_
    refine eb_getI (pc := 31) rfl rfl (by decide) (by decide) rfl ?_
    refine eb_if_ne (pc := 34) (tgt := 68) rfl (by decide) (fun c2 => ?_) (fun c2 => ?_)
    · replace w := w.1 c2
      exact eb_return (pc := 68) rfl rfl w
    · replace w := w.2 c2
      refine eb_aload_n (pc := 37) (n := 0) (i := 0) rfl rfl rfl ?_
      refine eb_getR (pc := 38) rfl rfl (by decide) (by decide) rfl (ko_s_MO_4 ko) ?_
      refine eb_bipush (pc := 41) (n := 11) (v := 11) rfl rfl ?_
      refine eb_aload_n (pc := 43) (n := 0) (i := 0) rfl rfl rfl ?_
      refine eb_getR (pc := 44) rfl rfl (by decide) (by decide) rfl (ko_s_MO_4 ko) ?_
      refine eb_iconst (pc := 47) (n := 2) (v := 2) rfl rfl ?_
      refine eb_iaload (pc := 48) rfl rfl (by decide) (by unfold vp_in; decide) ?_
      refine eb_iload_n (pc := 49) (n := 1) (i := 1) rfl rfl rfl ?_
      refine eb_imul (pc := 50) rfl ?_
      refine eb_iadd (pc := 51) rfl ?_
      refine eb_iload_n (pc := 52) (n := 2) (i := 2) rfl rfl rfl ?_
      refine eb_iadd (pc := 53) rfl ?_
      refine eb_aload_n (pc := 54) (n := 0) (i := 0) rfl rfl rfl ?_
      refine eb_iconst (pc := 55) (n := 0) (v := 0) rfl rfl ?_
      refine eb_bipush (pc := 56) (n := 9) (v := 9) rfl rfl ?_
      refine eb_ctV (pc := 58) (As := [.int 0, .int 9]) (rest := [.int (((11 : Int32) + ((eb_I h s_m_fresh (2 : Int32).toNatClampNeg) * x1)) + x2), .ref s_m_fresh]) rfl (by decide) rfl rfl (by decide) rfl (Nat.le_of_ble_eq_true rfl) ?_
      refine eb_Ct.mono w ?_
      rintro r h3 ⟨y4, rfl, ko5, w⟩
      change eb_Sn _ _ _ 61 _ [.int y4, .int (((11 : Int32) + ((eb_I h s_m_fresh (2 : Int32).toNatClampNeg) * x1)) + x2), .ref s_m_fresh] _ _
      obtain ⟨c6, w⟩ := w
      refine eb_iastore (pc := 61) rfl rfl (by decide) c6 ?_
      refine eb_iinc (pc := 62) (i := 2) (n := 1) (v := x2 + 1) (ls2 := [(2, .int (x2 + 1)), (0, .ref s_MO), (1, .int x1)]) (Nat.le_of_ble_eq_true rfl) rfl rfl rfl rfl ?_
      refine eb_goto (pc := 65) (tgt := 20) rfl (by decide) ?_
      exact eb_pick [1, 2, 0] rfl w
theorem T_X11_readRow {d : Nat} {h : eb_H} {Q : Option Value → eb_H → Prop}   (ko : eb_KO h) (w : eb_Ct d 164 [.ref s_MO] h (fun r h1 => r = none ∧ eb_KO h1 ∧ eb_Ct d 168 [.ref s_MO, .int 0, .int ((eb_I h1 s_m_fresh (1 : Int32).toNatClampNeg) - 1)] h1 (fun r h4 => ∃ y5, r = some (.int y5) ∧ eb_KO h4 ∧ eb_Sn (d + 1) m_X11_readRow h 20 [(0, .ref s_MO), (1, .int y5), (2, .int 0)] [] h4 Q))) : eb_Ct (d + 1) 180 [.ref s_MO] h Q :=
  eb_bodyQ (by decide) ok_X11_readRow (Nat.le_of_ble_eq_true rfl) (b_X11_readRow_0 (h0 := h)   ko w)
theorem b_X11_readThing_0 {d : Nat} {h0 h : eb_H} {Q : Option Value → eb_H → Prop}   (ko : eb_KO h) (w : eb_Ct d 164 [.ref s_MO] h (fun r h1 => r = none ∧ eb_KO h1 ∧ eb_Ct d 179 [.ref s_MO] h1 (fun r h4 => ∃ y5, r = some (.int y5) ∧ eb_KO h4 ∧ eb_Ct d 168 [.ref s_MO, .int 0, .int 6] h4 (fun r h7 => ∃ y8, r = some (.int y8) ∧ eb_KO h7 ∧ ((¬ (eb_I h7 s_MO 11) = 0 → Q none h7) ∧ ((eb_I h7 s_MO 11) = 0 → (vp_in ((34 : Int32) + y5) 1164) ∧ Q none (eb_sI h7 s_m_fresh ((34 : Int32) + y5).toNatClampNeg y8))))))) : eb_Sn (d + 1) m_X11_readThing h0 0 [(0, .ref s_MO)] [] h Q := by
  refine eb_aload_n (pc := 0) (n := 0) (i := 0) rfl rfl rfl ?_
  refine eb_ctV (pc := 1) (As := []) (rest := []) rfl (by decide) rfl rfl (by decide) rfl (Nat.le_of_ble_eq_true rfl) ?_
  refine eb_Ct.mono w ?_
  rintro r h1 ⟨rfl, ko3, w⟩
  change eb_Sn _ _ _ 4 _ [] _ _
  refine eb_aload_n (pc := 4) (n := 0) (i := 0) rfl rfl rfl ?_
  refine eb_ctV (pc := 5) (As := []) (rest := []) rfl (by decide) rfl rfl (by decide) rfl (Nat.le_of_ble_eq_true rfl) ?_
  refine eb_Ct.mono w ?_
  rintro r h4 ⟨y5, rfl, ko6, w⟩
  change eb_Sn _ _ _ 8 _ [.int y5] _ _
  refine eb_istore_n (pc := 8) (n := 1) (i := 1) (ls2 := [(1, .int y5), (0, .ref s_MO)]) rfl (Nat.le_of_ble_eq_true rfl) rfl rfl ?_
  refine eb_aload_n (pc := 9) (n := 0) (i := 0) rfl rfl rfl ?_
  refine eb_iconst (pc := 10) (n := 0) (v := 0) rfl rfl ?_
  refine eb_bipush (pc := 11) (n := 6) (v := 6) rfl rfl ?_
  refine eb_ctV (pc := 13) (As := [.int 0, .int 6]) (rest := []) rfl (by decide) rfl rfl (by decide) rfl (Nat.le_of_ble_eq_true rfl) ?_
  refine eb_Ct.mono w ?_
  rintro r h7 ⟨y8, rfl, ko9, w⟩
  change eb_Sn _ _ _ 16 _ [.int y8] _ _
  refine eb_istore_n (pc := 16) (n := 2) (i := 2) (ls2 := [(2, .int y8), (1, .int y5), (0, .ref s_MO)]) rfl (Nat.le_of_ble_eq_true rfl) rfl rfl ?_
  refine eb_aload_n (pc := 17) (n := 0) (i := 0) rfl rfl rfl ?_
  refine eb_getI (pc := 18) rfl rfl (by decide) (by decide) rfl ?_
  refine eb_if_ne (pc := 21) (tgt := 34) rfl (by decide) (fun c10 => ?_) (fun c10 => ?_)
  · replace w := w.1 c10
    exact eb_return (pc := 34) rfl rfl w
  · replace w := w.2 c10
    refine eb_aload_n (pc := 24) (n := 0) (i := 0) rfl rfl rfl ?_
    refine eb_getR (pc := 25) rfl rfl (by decide) (by decide) rfl (ko_s_MO_4 ko9) ?_
    refine eb_bipush (pc := 28) (n := 34) (v := 34) rfl rfl ?_
    refine eb_iload_n (pc := 30) (n := 1) (i := 1) rfl rfl rfl ?_
    refine eb_iadd (pc := 31) rfl ?_
    refine eb_iload_n (pc := 32) (n := 2) (i := 2) rfl rfl rfl ?_
    obtain ⟨c11, w⟩ := w
    refine eb_iastore (pc := 33) rfl rfl (by decide) c11 ?_
    exact eb_return (pc := 34) rfl rfl w
theorem T_X11_readThing {d : Nat} {h : eb_H} {Q : Option Value → eb_H → Prop}   (ko : eb_KO h) (w : eb_Ct d 164 [.ref s_MO] h (fun r h1 => r = none ∧ eb_KO h1 ∧ eb_Ct d 179 [.ref s_MO] h1 (fun r h4 => ∃ y5, r = some (.int y5) ∧ eb_KO h4 ∧ eb_Ct d 168 [.ref s_MO, .int 0, .int 6] h4 (fun r h7 => ∃ y8, r = some (.int y8) ∧ eb_KO h7 ∧ ((¬ (eb_I h7 s_MO 11) = 0 → Q none h7) ∧ ((eb_I h7 s_MO 11) = 0 → (vp_in ((34 : Int32) + y5) 1164) ∧ Q none (eb_sI h7 s_m_fresh ((34 : Int32) + y5).toNatClampNeg y8))))))) : eb_Ct (d + 1) 181 [.ref s_MO] h Q :=
  eb_bodyQ (by decide) ok_X11_readThing (Nat.le_of_ble_eq_true rfl) (b_X11_readThing_0 (h0 := h)   ko w)
theorem b_X11_readHouse_0 {d : Nat} {h0 h : eb_H} {Q : Option Value → eb_H → Prop}   (ko : eb_KO h) (w : ((¬ (eb_I h s_m_fresh (4 : Int32).toNatClampNeg) = (4 : Int32) → (((eb_I h s_MO 11) = 0 → eb_Ct d 164 [.ref s_MO] h (fun r h3 => r = none ∧ eb_KO h3 ∧ eb_Ct d 179 [.ref s_MO] h3 (fun r h6 => ∃ y7, r = some (.int y7) ∧ eb_KO h6 ∧ (vp_in ((27 : Int32) + (eb_I h s_m_fresh (4 : Int32).toNatClampNeg)) 1164) ∧ ((¬ (eb_I (eb_sI h6 s_m_fresh ((27 : Int32) + (eb_I h s_m_fresh (4 : Int32).toNatClampNeg)).toNatClampNeg y7) s_MO 11) = 0 → Q none (eb_sI h6 s_m_fresh ((27 : Int32) + (eb_I h s_m_fresh (4 : Int32).toNatClampNeg)).toNatClampNeg y7)) ∧ ((eb_I (eb_sI h6 s_m_fresh ((27 : Int32) + (eb_I h s_m_fresh (4 : Int32).toNatClampNeg)).toNatClampNeg y7) s_MO 11) = 0 → Q none (eb_sI (eb_sI h6 s_m_fresh ((27 : Int32) + (eb_I h s_m_fresh (4 : Int32).toNatClampNeg)).toNatClampNeg y7) s_m_fresh (4 : Int32).toNatClampNeg ((eb_I (eb_sI h6 s_m_fresh ((27 : Int32) + (eb_I h s_m_fresh (4 : Int32).toNatClampNeg)).toNatClampNeg y7) s_m_fresh (4 : Int32).toNatClampNeg) + 1))))))) ∧ (¬ ((eb_I h s_MO 11) = 0) → Q none h))) ∧ ((eb_I h s_m_fresh (4 : Int32).toNatClampNeg) = (4 : Int32) → eb_Ct d 165 [.ref s_MO, .int 4] h (fun r h11 => r = none ∧ eb_KO h11 ∧ (((eb_I h11 s_MO 11) = 0 → eb_Ct d 164 [.ref s_MO] h11 (fun r h15 => r = none ∧ eb_KO h15 ∧ eb_Ct d 179 [.ref s_MO] h15 (fun r h18 => ∃ y19, r = some (.int y19) ∧ eb_KO h18 ∧ (vp_in ((27 : Int32) + (eb_I h s_m_fresh (4 : Int32).toNatClampNeg)) 1164) ∧ ((¬ (eb_I (eb_sI h18 s_m_fresh ((27 : Int32) + (eb_I h s_m_fresh (4 : Int32).toNatClampNeg)).toNatClampNeg y19) s_MO 11) = 0 → Q none (eb_sI h18 s_m_fresh ((27 : Int32) + (eb_I h s_m_fresh (4 : Int32).toNatClampNeg)).toNatClampNeg y19)) ∧ ((eb_I (eb_sI h18 s_m_fresh ((27 : Int32) + (eb_I h s_m_fresh (4 : Int32).toNatClampNeg)).toNatClampNeg y19) s_MO 11) = 0 → Q none (eb_sI (eb_sI h18 s_m_fresh ((27 : Int32) + (eb_I h s_m_fresh (4 : Int32).toNatClampNeg)).toNatClampNeg y19) s_m_fresh (4 : Int32).toNatClampNeg ((eb_I (eb_sI h18 s_m_fresh ((27 : Int32) + (eb_I h s_m_fresh (4 : Int32).toNatClampNeg)).toNatClampNeg y19) s_m_fresh (4 : Int32).toNatClampNeg) + 1))))))) ∧ (¬ ((eb_I h11 s_MO 11) = 0) → Q none h11)))))) : eb_Sn (d + 1) m_X11_readHouse h0 0 [(0, .ref s_MO)] [] h Q := by
  refine eb_aload_n (pc := 0) (n := 0) (i := 0) rfl rfl rfl ?_
  refine eb_getR (pc := 1) rfl rfl (by decide) (by decide) rfl (ko_s_MO_4 ko) ?_
  refine eb_iconst (pc := 4) (n := 4) (v := 4) rfl rfl ?_
  refine eb_iaload (pc := 5) rfl rfl (by decide) (by unfold vp_in; decide) ?_
  refine eb_istore_n (pc := 6) (n := 1) (i := 1) (ls2 := [(1, .int (eb_I h s_m_fresh (4 : Int32).toNatClampNeg)), (0, .ref s_MO)]) rfl (Nat.le_of_ble_eq_true rfl) rfl rfl ?_
  refine eb_iload_n (pc := 7) (n := 1) (i := 1) rfl rfl rfl ?_
  refine eb_iconst (pc := 8) (n := 4) (v := 4) rfl rfl ?_
  refine eb_icmp_ne (pc := 9) (tgt := 17) rfl (by decide) (fun c1 => ?_) (fun c1 => ?_)
  · replace w := w.1 c1
    refine eb_aload_n (pc := 17) (n := 0) (i := 0) rfl rfl rfl ?_
    refine eb_getI (pc := 18) rfl rfl (by decide) (by decide) rfl ?_
    refine eb_if_eq (pc := 21) (tgt := 25) rfl (by decide) (fun c2 => ?_) (fun c2 => ?_)
    · replace w := w.1 c2
      refine eb_aload_n (pc := 25) (n := 0) (i := 0) rfl rfl rfl ?_
      refine eb_ctV (pc := 26) (As := []) (rest := []) rfl (by decide) rfl rfl (by decide) rfl (Nat.le_of_ble_eq_true rfl) ?_
      refine eb_Ct.mono w ?_
      rintro r h3 ⟨rfl, ko5, w⟩
      change eb_Sn _ _ _ 29 _ [] _ _
      refine eb_aload_n (pc := 29) (n := 0) (i := 0) rfl rfl rfl ?_
      refine eb_getR (pc := 30) rfl rfl (by decide) (by decide) rfl (ko_s_MO_4 ko5) ?_
      refine eb_bipush (pc := 33) (n := 27) (v := 27) rfl rfl ?_
      refine eb_iload_n (pc := 35) (n := 1) (i := 1) rfl rfl rfl ?_
      refine eb_iadd (pc := 36) rfl ?_
      refine eb_aload_n (pc := 37) (n := 0) (i := 0) rfl rfl rfl ?_
      refine eb_ctV (pc := 38) (As := []) (rest := [.int ((27 : Int32) + (eb_I h s_m_fresh (4 : Int32).toNatClampNeg)), .ref s_m_fresh]) rfl (by decide) rfl rfl (by decide) rfl (Nat.le_of_ble_eq_true rfl) ?_
      refine eb_Ct.mono w ?_
      rintro r h6 ⟨y7, rfl, ko8, w⟩
      change eb_Sn _ _ _ 41 _ [.int y7, .int ((27 : Int32) + (eb_I h s_m_fresh (4 : Int32).toNatClampNeg)), .ref s_m_fresh] _ _
      obtain ⟨c9, w⟩ := w
      refine eb_iastore (pc := 41) rfl rfl (by decide) c9 ?_
      refine eb_aload_n (pc := 42) (n := 0) (i := 0) rfl rfl rfl ?_
      refine eb_getI (pc := 43) rfl rfl (by decide) (by decide) rfl ?_
      refine eb_if_ne (pc := 46) (tgt := 59) rfl (by decide) (fun c10 => ?_) (fun c10 => ?_)
      · replace w := w.1 c10
        exact eb_return (pc := 59) rfl rfl w
      · replace w := w.2 c10
        refine eb_aload_n (pc := 49) (n := 0) (i := 0) rfl rfl rfl ?_
        refine eb_getR (pc := 50) rfl rfl (by decide) (by decide) rfl (ko_s_MO_4 ko8) ?_
        refine eb_iconst (pc := 53) (n := 4) (v := 4) rfl rfl ?_
        refine eb_dup2 (pc := 54) rfl ?_
        refine eb_iaload (pc := 55) rfl rfl (by decide) (by unfold vp_in; decide) ?_
        refine eb_iconst (pc := 56) (n := 1) (v := 1) rfl rfl ?_
        refine eb_iadd (pc := 57) rfl ?_
        refine eb_iastore (pc := 58) rfl rfl (by decide) (by unfold vp_in; decide) ?_
        exact eb_return (pc := 59) rfl rfl w
    · replace w := w.2 c2
      exact eb_return (pc := 24) rfl rfl w
  · replace w := w.2 c1
    refine eb_aload_n (pc := 12) (n := 0) (i := 0) rfl rfl rfl ?_
    refine eb_iconst (pc := 13) (n := 4) (v := 4) rfl rfl ?_
    refine eb_ctV (pc := 14) (As := [.int 4]) (rest := []) rfl (by decide) rfl rfl (by decide) rfl (Nat.le_of_ble_eq_true rfl) ?_
    refine eb_Ct.mono w ?_
    rintro r h11 ⟨rfl, ko13, w⟩
    change eb_Sn _ _ _ 17 _ [] _ _
    refine eb_aload_n (pc := 17) (n := 0) (i := 0) rfl rfl rfl ?_
    refine eb_getI (pc := 18) rfl rfl (by decide) (by decide) rfl ?_
    refine eb_if_eq (pc := 21) (tgt := 25) rfl (by decide) (fun c14 => ?_) (fun c14 => ?_)
    · replace w := w.1 c14
      refine eb_aload_n (pc := 25) (n := 0) (i := 0) rfl rfl rfl ?_
      refine eb_ctV (pc := 26) (As := []) (rest := []) rfl (by decide) rfl rfl (by decide) rfl (Nat.le_of_ble_eq_true rfl) ?_
      refine eb_Ct.mono w ?_
      rintro r h15 ⟨rfl, ko17, w⟩
      change eb_Sn _ _ _ 29 _ [] _ _
      refine eb_aload_n (pc := 29) (n := 0) (i := 0) rfl rfl rfl ?_
      refine eb_getR (pc := 30) rfl rfl (by decide) (by decide) rfl (ko_s_MO_4 ko17) ?_
      refine eb_bipush (pc := 33) (n := 27) (v := 27) rfl rfl ?_
      refine eb_iload_n (pc := 35) (n := 1) (i := 1) rfl rfl rfl ?_
      refine eb_iadd (pc := 36) rfl ?_
      refine eb_aload_n (pc := 37) (n := 0) (i := 0) rfl rfl rfl ?_
      refine eb_ctV (pc := 38) (As := []) (rest := [.int ((27 : Int32) + (eb_I h s_m_fresh (4 : Int32).toNatClampNeg)), .ref s_m_fresh]) rfl (by decide) rfl rfl (by decide) rfl (Nat.le_of_ble_eq_true rfl) ?_
      refine eb_Ct.mono w ?_
      rintro r h18 ⟨y19, rfl, ko20, w⟩
      change eb_Sn _ _ _ 41 _ [.int y19, .int ((27 : Int32) + (eb_I h s_m_fresh (4 : Int32).toNatClampNeg)), .ref s_m_fresh] _ _
      obtain ⟨c21, w⟩ := w
      refine eb_iastore (pc := 41) rfl rfl (by decide) c21 ?_
      refine eb_aload_n (pc := 42) (n := 0) (i := 0) rfl rfl rfl ?_
      refine eb_getI (pc := 43) rfl rfl (by decide) (by decide) rfl ?_
      refine eb_if_ne (pc := 46) (tgt := 59) rfl (by decide) (fun c22 => ?_) (fun c22 => ?_)
      · replace w := w.1 c22
        exact eb_return (pc := 59) rfl rfl w
      · replace w := w.2 c22
        refine eb_aload_n (pc := 49) (n := 0) (i := 0) rfl rfl rfl ?_
        refine eb_getR (pc := 50) rfl rfl (by decide) (by decide) rfl (ko_s_MO_4 ko20) ?_
        refine eb_iconst (pc := 53) (n := 4) (v := 4) rfl rfl ?_
        refine eb_dup2 (pc := 54) rfl ?_
        refine eb_iaload (pc := 55) rfl rfl (by decide) (by unfold vp_in; decide) ?_
        refine eb_iconst (pc := 56) (n := 1) (v := 1) rfl rfl ?_
        refine eb_iadd (pc := 57) rfl ?_
        refine eb_iastore (pc := 58) rfl rfl (by decide) (by unfold vp_in; decide) ?_
        exact eb_return (pc := 59) rfl rfl w
    · replace w := w.2 c14
      exact eb_return (pc := 24) rfl rfl w
theorem T_X11_readHouse {d : Nat} {h : eb_H} {Q : Option Value → eb_H → Prop}   (ko : eb_KO h) (w : ((¬ (eb_I h s_m_fresh (4 : Int32).toNatClampNeg) = (4 : Int32) → (((eb_I h s_MO 11) = 0 → eb_Ct d 164 [.ref s_MO] h (fun r h3 => r = none ∧ eb_KO h3 ∧ eb_Ct d 179 [.ref s_MO] h3 (fun r h6 => ∃ y7, r = some (.int y7) ∧ eb_KO h6 ∧ (vp_in ((27 : Int32) + (eb_I h s_m_fresh (4 : Int32).toNatClampNeg)) 1164) ∧ ((¬ (eb_I (eb_sI h6 s_m_fresh ((27 : Int32) + (eb_I h s_m_fresh (4 : Int32).toNatClampNeg)).toNatClampNeg y7) s_MO 11) = 0 → Q none (eb_sI h6 s_m_fresh ((27 : Int32) + (eb_I h s_m_fresh (4 : Int32).toNatClampNeg)).toNatClampNeg y7)) ∧ ((eb_I (eb_sI h6 s_m_fresh ((27 : Int32) + (eb_I h s_m_fresh (4 : Int32).toNatClampNeg)).toNatClampNeg y7) s_MO 11) = 0 → Q none (eb_sI (eb_sI h6 s_m_fresh ((27 : Int32) + (eb_I h s_m_fresh (4 : Int32).toNatClampNeg)).toNatClampNeg y7) s_m_fresh (4 : Int32).toNatClampNeg ((eb_I (eb_sI h6 s_m_fresh ((27 : Int32) + (eb_I h s_m_fresh (4 : Int32).toNatClampNeg)).toNatClampNeg y7) s_m_fresh (4 : Int32).toNatClampNeg) + 1))))))) ∧ (¬ ((eb_I h s_MO 11) = 0) → Q none h))) ∧ ((eb_I h s_m_fresh (4 : Int32).toNatClampNeg) = (4 : Int32) → eb_Ct d 165 [.ref s_MO, .int 4] h (fun r h11 => r = none ∧ eb_KO h11 ∧ (((eb_I h11 s_MO 11) = 0 → eb_Ct d 164 [.ref s_MO] h11 (fun r h15 => r = none ∧ eb_KO h15 ∧ eb_Ct d 179 [.ref s_MO] h15 (fun r h18 => ∃ y19, r = some (.int y19) ∧ eb_KO h18 ∧ (vp_in ((27 : Int32) + (eb_I h s_m_fresh (4 : Int32).toNatClampNeg)) 1164) ∧ ((¬ (eb_I (eb_sI h18 s_m_fresh ((27 : Int32) + (eb_I h s_m_fresh (4 : Int32).toNatClampNeg)).toNatClampNeg y19) s_MO 11) = 0 → Q none (eb_sI h18 s_m_fresh ((27 : Int32) + (eb_I h s_m_fresh (4 : Int32).toNatClampNeg)).toNatClampNeg y19)) ∧ ((eb_I (eb_sI h18 s_m_fresh ((27 : Int32) + (eb_I h s_m_fresh (4 : Int32).toNatClampNeg)).toNatClampNeg y19) s_MO 11) = 0 → Q none (eb_sI (eb_sI h18 s_m_fresh ((27 : Int32) + (eb_I h s_m_fresh (4 : Int32).toNatClampNeg)).toNatClampNeg y19) s_m_fresh (4 : Int32).toNatClampNeg ((eb_I (eb_sI h18 s_m_fresh ((27 : Int32) + (eb_I h s_m_fresh (4 : Int32).toNatClampNeg)).toNatClampNeg y19) s_m_fresh (4 : Int32).toNatClampNeg) + 1))))))) ∧ (¬ ((eb_I h11 s_MO 11) = 0) → Q none h11)))))) : eb_Ct (d + 1) 182 [.ref s_MO] h Q :=
  eb_bodyQ (by decide) ok_X11_readHouse (Nat.le_of_ble_eq_true rfl) (b_X11_readHouse_0 (h0 := h)   ko w)
theorem b_X11_readBat_0 {d : Nat} {h0 h : eb_H} {Q : Option Value → eb_H → Prop}   (ko : eb_KO h) (w : eb_Ct d 164 [.ref s_MO] h (fun r h1 => r = none ∧ eb_KO h1 ∧ eb_Ct d 179 [.ref s_MO] h1 (fun r h4 => ∃ y5, r = some (.int y5) ∧ eb_KO h4 ∧ eb_Sn (d + 1) m_X11_readBat h0 17 [(0, .ref s_MO), (1, .int 0)] [] (eb_sI h4 s_m_fresh (31 : Int32).toNatClampNeg y5) Q))) : eb_Sn (d + 1) m_X11_readBat h0 0 [(0, .ref s_MO)] [] h Q := by
  refine eb_aload_n (pc := 0) (n := 0) (i := 0) rfl rfl rfl ?_
  refine eb_ctV (pc := 1) (As := []) (rest := []) rfl (by decide) rfl rfl (by decide) rfl (Nat.le_of_ble_eq_true rfl) ?_
  refine eb_Ct.mono w ?_
  rintro r h1 ⟨rfl, ko3, w⟩
  change eb_Sn _ _ _ 4 _ [] _ _
  refine eb_aload_n (pc := 4) (n := 0) (i := 0) rfl rfl rfl ?_
  refine eb_getR (pc := 5) rfl rfl (by decide) (by decide) rfl (ko_s_MO_4 ko3) ?_
  refine eb_bipush (pc := 8) (n := 31) (v := 31) rfl rfl ?_
  refine eb_aload_n (pc := 10) (n := 0) (i := 0) rfl rfl rfl ?_
  refine eb_ctV (pc := 11) (As := []) (rest := [.int 31, .ref s_m_fresh]) rfl (by decide) rfl rfl (by decide) rfl (Nat.le_of_ble_eq_true rfl) ?_
  refine eb_Ct.mono w ?_
  rintro r h4 ⟨y5, rfl, ko6, w⟩
  change eb_Sn _ _ _ 14 _ [.int y5, .int 31, .ref s_m_fresh] _ _
  refine eb_iastore (pc := 14) rfl rfl (by decide) (by unfold vp_in; decide) ?_
  refine eb_iconst (pc := 15) (n := 0) (v := 0) rfl rfl ?_
  refine eb_istore_n (pc := 16) (n := 1) (i := 1) (ls2 := [(1, .int 0), (0, .ref s_MO)]) rfl (Nat.le_of_ble_eq_true rfl) rfl rfl ?_
  exact eb_pick [1, 0] rfl w
theorem b_X11_readBat_17 {d : Nat} {h0 h : eb_H} {Q : Option Value → eb_H → Prop} (x1 : Int32)  (ko : eb_KO h) (w : ((¬ (eb_I h s_MO 11) = 0 → Q none (eb_sI h s_m_fresh (32 : Int32).toNatClampNeg x1)) ∧ ((eb_I h s_MO 11) = 0 → eb_Ct d 166 [.ref s_MO, .int 23] h (fun r h2 => ∃ y3, r = some (.int y3) ∧ eb_KO h2 ∧ ((y3 = 0 → Q none (eb_sI h2 s_m_fresh (32 : Int32).toNatClampNeg x1)) ∧ (¬ (y3 = 0) → ((¬ ((¬ (((eb_I h2 s_MO 10).toInt64) < 1)) ∧ (¬ (6 < ((eb_I h2 s_MO 10).toInt64)))) → eb_Ct d 168 [.ref s_MO, .int 1, .int 6] h2 (fun r h9 => ∃ y10, r = some (.int y10) ∧ eb_KO h9 ∧ ((¬ (eb_I h9 s_MO 11) = 0 → eb_Sn (d + 1) m_X11_readBat h0 17 [(0, .ref s_MO), (1, .int x1)] [] h9 Q) ∧ ((eb_I h9 s_MO 11) = 0 → eb_Sn (d + 1) m_X11_readBat h0 17 [(0, .ref s_MO), (1, .int (x1 ||| ((1 : Int32) <<< ((y10 - 1) &&& 31))))] [] h9 Q)))) ∧ ((¬ (((eb_I h2 s_MO 10).toInt64) < 1)) ∧ (¬ (6 < ((eb_I h2 s_MO 10).toInt64))) → ((((x1.toInt64 >>> (((eb_I h2 s_MO 10) - 1).toInt64 &&& 63)) &&& 1) = 1 → eb_Ct d 168 [.ref s_MO, .int 1, .int 6] h2 (fun r h15 => ∃ y16, r = some (.int y16) ∧ eb_KO h15 ∧ ((¬ (eb_I h15 s_MO 11) = 0 → eb_Sn (d + 1) m_X11_readBat h0 17 [(0, .ref s_MO), (1, .int x1)] [] h15 Q) ∧ ((eb_I h15 s_MO 11) = 0 → eb_Sn (d + 1) m_X11_readBat h0 17 [(0, .ref s_MO), (1, .int (x1 ||| ((1 : Int32) <<< ((y16 - 1) &&& 31))))] [] h15 Q)))) ∧ (¬ (((x1.toInt64 >>> (((eb_I h2 s_MO 10) - 1).toInt64 &&& 63)) &&& 1) = 1) → eb_Ct d 194 [.int x1] h2 (fun r h19 => ∃ y20, r = some (.int y20) ∧ eb_KO h19 ∧ ((¬ y20 = (eb_I h19 s_m_fresh (3 : Int32).toNatClampNeg) → eb_Ct d 168 [.ref s_MO, .int 1, .int 6] h19 (fun r h23 => ∃ y24, r = some (.int y24) ∧ eb_KO h23 ∧ ((¬ (eb_I h23 s_MO 11) = 0 → eb_Sn (d + 1) m_X11_readBat h0 17 [(0, .ref s_MO), (1, .int x1)] [] h23 Q) ∧ ((eb_I h23 s_MO 11) = 0 → eb_Sn (d + 1) m_X11_readBat h0 17 [(0, .ref s_MO), (1, .int (x1 ||| ((1 : Int32) <<< ((y24 - 1) &&& 31))))] [] h23 Q)))) ∧ (y20 = (eb_I h19 s_m_fresh (3 : Int32).toNatClampNeg) → eb_Ct d 165 [.ref s_MO, .int 3] h19 (fun r h27 => r = none ∧ eb_KO h27 ∧ eb_Ct d 168 [.ref s_MO, .int 1, .int 6] h27 (fun r h30 => ∃ y31, r = some (.int y31) ∧ eb_KO h30 ∧ ((¬ (eb_I h30 s_MO 11) = 0 → eb_Sn (d + 1) m_X11_readBat h0 17 [(0, .ref s_MO), (1, .int x1)] [] h30 Q) ∧ ((eb_I h30 s_MO 11) = 0 → eb_Sn (d + 1) m_X11_readBat h0 17 [(0, .ref s_MO), (1, .int (x1 ||| ((1 : Int32) <<< ((y31 - 1) &&& 31))))] [] h30 Q))))))))))))))))) : eb_Sn (d + 1) m_X11_readBat h0 17 [(0, .ref s_MO), (1, .int x1)] [] h Q := by
  refine eb_aload_n (pc := 17) (n := 0) (i := 0) rfl rfl rfl ?_
  refine eb_getI (pc := 18) rfl rfl (by decide) (by decide) rfl ?_
  refine eb_if_ne (pc := 21) (tgt := 106) rfl (by decide) (fun c1 => ?_) (fun c1 => ?_)
  · replace w := w.1 c1
    refine eb_aload_n (pc := 106) (n := 0) (i := 0) rfl rfl rfl ?_
    refine eb_getR (pc := 107) rfl rfl (by decide) (by decide) rfl (ko_s_MO_4 ko) ?_
    refine eb_bipush (pc := 110) (n := 32) (v := 32) rfl rfl ?_
    refine eb_iload_n (pc := 112) (n := 1) (i := 1) rfl rfl rfl ?_
    refine eb_iastore (pc := 113) rfl rfl (by decide) (by unfold vp_in; decide) ?_
    exact eb_return (pc := 114) rfl rfl w
  · replace w := w.2 c1
    refine eb_aload_n (pc := 24) (n := 0) (i := 0) rfl rfl rfl ?_
    refine eb_bipush (pc := 25) (n := 23) (v := 23) rfl rfl ?_
    refine eb_ctV (pc := 27) (As := [.int 23]) (rest := []) rfl (by decide) rfl rfl (by decide) rfl (Nat.le_of_ble_eq_true rfl) ?_
    refine eb_Ct.mono w ?_
    rintro r h2 ⟨y3, rfl, ko4, w⟩
    change eb_Sn _ _ _ 30 _ [.int y3] _ _
    refine eb_if_eq (pc := 30) (tgt := 106) rfl (by decide) (fun c5 => ?_) (fun c5 => ?_)
    · replace w := w.1 c5
      refine eb_aload_n (pc := 106) (n := 0) (i := 0) rfl rfl rfl ?_
      refine eb_getR (pc := 107) rfl rfl (by decide) (by decide) rfl (ko_s_MO_4 ko4) ?_
      refine eb_bipush (pc := 110) (n := 32) (v := 32) rfl rfl ?_
      refine eb_iload_n (pc := 112) (n := 1) (i := 1) rfl rfl rfl ?_
      refine eb_iastore (pc := 113) rfl rfl (by decide) (by unfold vp_in; decide) ?_
      exact eb_return (pc := 114) rfl rfl w
    · replace w := w.2 c5
      refine eb_aload_n (pc := 33) (n := 0) (i := 0) rfl rfl rfl ?_
      refine eb_getI (pc := 34) rfl rfl (by decide) (by decide) rfl ?_
      refine eb_i2l (pc := 37) rfl ?_
      refine eb_lconst (pc := 38) (n := 1) (v := 1) rfl rfl ?_
      refine eb_ldc2 (pc := 39) (a := 6) (v := 6) rfl (by decide) ?_
      refine eb_joinI (pc2 := 45) (ls2 := [(0, .ref s_MO), (1, .int x1)]) (st2 := []) (v := eb_q ((¬ (((eb_I h2 s_MO 10).toInt64) < 1)) ∧ (¬ (6 < ((eb_I h2 s_MO 10).toInt64))))) ?_ (fun jj36 => ?_)
      · refine eb_if_eq (pc := 45) (tgt := 80) rfl (by decide) (fun c8 => ?_) (fun c8 => ?_)
        · replace c8 := eb_q0.mp c8
          replace w := w.1 c8
          refine eb_aload_n (pc := 80) (n := 0) (i := 0) rfl rfl rfl ?_
          refine eb_iconst (pc := 81) (n := 1) (v := 1) rfl rfl ?_
          refine eb_bipush (pc := 82) (n := 6) (v := 6) rfl rfl ?_
          refine eb_ctV (pc := 84) (As := [.int 1, .int 6]) (rest := []) rfl (by decide) rfl rfl (by decide) rfl (Nat.le_of_ble_eq_true rfl) ?_
          refine eb_Ct.mono w ?_
          rintro r h9 ⟨y10, rfl, ko11, w⟩
          change eb_Sn _ _ _ 87 _ [.int y10] _ _
          refine eb_istore_n (pc := 87) (n := 2) (i := 2) (ls2 := [(2, .int y10), (0, .ref s_MO), (1, .int x1)]) rfl (Nat.le_of_ble_eq_true rfl) rfl rfl ?_
          refine eb_aload_n (pc := 88) (n := 0) (i := 0) rfl rfl rfl ?_
          refine eb_getI (pc := 89) rfl rfl (by decide) (by decide) rfl ?_
          refine eb_if_ne (pc := 92) (tgt := 103) rfl (by decide) (fun c12 => ?_) (fun c12 => ?_)
          · replace w := w.1 c12
            refine eb_goto (pc := 103) (tgt := 17) rfl (by decide) ?_
            exact eb_pick [1, 2] rfl w
          · replace w := w.2 c12
            refine eb_iload_n (pc := 95) (n := 1) (i := 1) rfl rfl rfl ?_
            refine eb_iconst (pc := 96) (n := 1) (v := 1) rfl rfl ?_
            refine eb_iload_n (pc := 97) (n := 2) (i := 2) rfl rfl rfl ?_
            refine eb_iconst (pc := 98) (n := 1) (v := 1) rfl rfl ?_
            refine eb_isub (pc := 99) rfl ?_
            refine eb_ishl (pc := 100) rfl ?_
            refine eb_ior (pc := 101) rfl ?_
            refine eb_istore_n (pc := 102) (n := 1) (i := 1) (ls2 := [(1, .int (x1 ||| ((1 : Int32) <<< ((y10 - 1) &&& 31)))), (2, .int y10), (0, .ref s_MO)]) rfl (Nat.le_of_ble_eq_true rfl) rfl rfl ?_
            refine eb_goto (pc := 103) (tgt := 17) rfl (by decide) ?_
            exact eb_pick [2, 0] rfl w
        · replace c8 := eb_q1.mp c8
          replace w := w.2 c8
          refine eb_iload_n (pc := 48) (n := 1) (i := 1) rfl rfl rfl ?_
          refine eb_i2l (pc := 49) rfl ?_
          refine eb_aload_n (pc := 50) (n := 0) (i := 0) rfl rfl rfl ?_
          refine eb_getI (pc := 51) rfl rfl (by decide) (by decide) rfl ?_
          refine eb_iconst (pc := 54) (n := 1) (v := 1) rfl rfl ?_
          refine eb_isub (pc := 55) rfl ?_
          refine eb_joinI (pc2 := 59) (ls2 := [(0, .ref s_MO), (1, .int x1)]) (st2 := []) (v := eb_q (((x1.toInt64 >>> (((eb_I h2 s_MO 10) - 1).toInt64 &&& 63)) &&& 1) = 1)) ?_ (fun jj34 => ?_)
          · refine eb_if_ne (pc := 59) (tgt := 80) rfl (by decide) (fun c14 => ?_) (fun c14 => ?_)
            · replace c14 := eb_q1.mp c14
              replace w := w.1 c14
              refine eb_aload_n (pc := 80) (n := 0) (i := 0) rfl rfl rfl ?_
              refine eb_iconst (pc := 81) (n := 1) (v := 1) rfl rfl ?_
              refine eb_bipush (pc := 82) (n := 6) (v := 6) rfl rfl ?_
              refine eb_ctV (pc := 84) (As := [.int 1, .int 6]) (rest := []) rfl (by decide) rfl rfl (by decide) rfl (Nat.le_of_ble_eq_true rfl) ?_
              refine eb_Ct.mono w ?_
              rintro r h15 ⟨y16, rfl, ko17, w⟩
              change eb_Sn _ _ _ 87 _ [.int y16] _ _
              refine eb_istore_n (pc := 87) (n := 2) (i := 2) (ls2 := [(2, .int y16), (0, .ref s_MO), (1, .int x1)]) rfl (Nat.le_of_ble_eq_true rfl) rfl rfl ?_
              refine eb_aload_n (pc := 88) (n := 0) (i := 0) rfl rfl rfl ?_
              refine eb_getI (pc := 89) rfl rfl (by decide) (by decide) rfl ?_
              refine eb_if_ne (pc := 92) (tgt := 103) rfl (by decide) (fun c18 => ?_) (fun c18 => ?_)
              · replace w := w.1 c18
                refine eb_goto (pc := 103) (tgt := 17) rfl (by decide) ?_
                exact eb_pick [1, 2] rfl w
              · replace w := w.2 c18
                refine eb_iload_n (pc := 95) (n := 1) (i := 1) rfl rfl rfl ?_
                refine eb_iconst (pc := 96) (n := 1) (v := 1) rfl rfl ?_
                refine eb_iload_n (pc := 97) (n := 2) (i := 2) rfl rfl rfl ?_
                refine eb_iconst (pc := 98) (n := 1) (v := 1) rfl rfl ?_
                refine eb_isub (pc := 99) rfl ?_
                refine eb_ishl (pc := 100) rfl ?_
                refine eb_ior (pc := 101) rfl ?_
                refine eb_istore_n (pc := 102) (n := 1) (i := 1) (ls2 := [(1, .int (x1 ||| ((1 : Int32) <<< ((y16 - 1) &&& 31)))), (2, .int y16), (0, .ref s_MO)]) rfl (Nat.le_of_ble_eq_true rfl) rfl rfl ?_
                refine eb_goto (pc := 103) (tgt := 17) rfl (by decide) ?_
                exact eb_pick [2, 0] rfl w
            · replace c14 := eb_q0.mp c14
              replace w := w.2 c14
              refine eb_iload_n (pc := 62) (n := 1) (i := 1) rfl rfl rfl ?_
              refine eb_ctS (pc := 63) (As := [.int x1]) (rest := []) rfl (by decide) (by decide) rfl rfl (Nat.le_of_ble_eq_true rfl) ?_
              refine eb_Ct.mono w ?_
              rintro r h19 ⟨y20, rfl, ko21, w⟩
              change eb_Sn _ _ _ 66 _ [.int y20] _ _
              refine eb_aload_n (pc := 66) (n := 0) (i := 0) rfl rfl rfl ?_
              refine eb_getR (pc := 67) rfl rfl (by decide) (by decide) rfl (ko_s_MO_4 ko21) ?_
              refine eb_iconst (pc := 70) (n := 3) (v := 3) rfl rfl ?_
              refine eb_iaload (pc := 71) rfl rfl (by decide) (by unfold vp_in; decide) ?_
              refine eb_icmp_ne (pc := 72) (tgt := 80) rfl (by decide) (fun c22 => ?_) (fun c22 => ?_)
              · replace w := w.1 c22
                refine eb_aload_n (pc := 80) (n := 0) (i := 0) rfl rfl rfl ?_
                refine eb_iconst (pc := 81) (n := 1) (v := 1) rfl rfl ?_
                refine eb_bipush (pc := 82) (n := 6) (v := 6) rfl rfl ?_
                refine eb_ctV (pc := 84) (As := [.int 1, .int 6]) (rest := []) rfl (by decide) rfl rfl (by decide) rfl (Nat.le_of_ble_eq_true rfl) ?_
                refine eb_Ct.mono w ?_
                rintro r h23 ⟨y24, rfl, ko25, w⟩
                change eb_Sn _ _ _ 87 _ [.int y24] _ _
                refine eb_istore_n (pc := 87) (n := 2) (i := 2) (ls2 := [(2, .int y24), (0, .ref s_MO), (1, .int x1)]) rfl (Nat.le_of_ble_eq_true rfl) rfl rfl ?_
                refine eb_aload_n (pc := 88) (n := 0) (i := 0) rfl rfl rfl ?_
                refine eb_getI (pc := 89) rfl rfl (by decide) (by decide) rfl ?_
                refine eb_if_ne (pc := 92) (tgt := 103) rfl (by decide) (fun c26 => ?_) (fun c26 => ?_)
                · replace w := w.1 c26
                  refine eb_goto (pc := 103) (tgt := 17) rfl (by decide) ?_
                  exact eb_pick [1, 2] rfl w
                · replace w := w.2 c26
                  refine eb_iload_n (pc := 95) (n := 1) (i := 1) rfl rfl rfl ?_
                  refine eb_iconst (pc := 96) (n := 1) (v := 1) rfl rfl ?_
                  refine eb_iload_n (pc := 97) (n := 2) (i := 2) rfl rfl rfl ?_
                  refine eb_iconst (pc := 98) (n := 1) (v := 1) rfl rfl ?_
                  refine eb_isub (pc := 99) rfl ?_
                  refine eb_ishl (pc := 100) rfl ?_
                  refine eb_ior (pc := 101) rfl ?_
                  refine eb_istore_n (pc := 102) (n := 1) (i := 1) (ls2 := [(1, .int (x1 ||| ((1 : Int32) <<< ((y24 - 1) &&& 31)))), (2, .int y24), (0, .ref s_MO)]) rfl (Nat.le_of_ble_eq_true rfl) rfl rfl ?_
                  refine eb_goto (pc := 103) (tgt := 17) rfl (by decide) ?_
                  exact eb_pick [2, 0] rfl w
              · replace w := w.2 c22
                refine eb_aload_n (pc := 75) (n := 0) (i := 0) rfl rfl rfl ?_
                refine eb_iconst (pc := 76) (n := 3) (v := 3) rfl rfl ?_
                refine eb_ctV (pc := 77) (As := [.int 3]) (rest := []) rfl (by decide) rfl rfl (by decide) rfl (Nat.le_of_ble_eq_true rfl) ?_
                refine eb_Ct.mono w ?_
                rintro r h27 ⟨rfl, ko29, w⟩
                change eb_Sn _ _ _ 80 _ [] _ _
                refine eb_aload_n (pc := 80) (n := 0) (i := 0) rfl rfl rfl ?_
                refine eb_iconst (pc := 81) (n := 1) (v := 1) rfl rfl ?_
                refine eb_bipush (pc := 82) (n := 6) (v := 6) rfl rfl ?_
                refine eb_ctV (pc := 84) (As := [.int 1, .int 6]) (rest := []) rfl (by decide) rfl rfl (by decide) rfl (Nat.le_of_ble_eq_true rfl) ?_
                refine eb_Ct.mono w ?_
                rintro r h30 ⟨y31, rfl, ko32, w⟩
                change eb_Sn _ _ _ 87 _ [.int y31] _ _
                refine eb_istore_n (pc := 87) (n := 2) (i := 2) (ls2 := [(2, .int y31), (0, .ref s_MO), (1, .int x1)]) rfl (Nat.le_of_ble_eq_true rfl) rfl rfl ?_
                refine eb_aload_n (pc := 88) (n := 0) (i := 0) rfl rfl rfl ?_
                refine eb_getI (pc := 89) rfl rfl (by decide) (by decide) rfl ?_
                refine eb_if_ne (pc := 92) (tgt := 103) rfl (by decide) (fun c33 => ?_) (fun c33 => ?_)
                · replace w := w.1 c33
                  refine eb_goto (pc := 103) (tgt := 17) rfl (by decide) ?_
                  exact eb_pick [1, 2] rfl w
                · replace w := w.2 c33
                  refine eb_iload_n (pc := 95) (n := 1) (i := 1) rfl rfl rfl ?_
                  refine eb_iconst (pc := 96) (n := 1) (v := 1) rfl rfl ?_
                  refine eb_iload_n (pc := 97) (n := 2) (i := 2) rfl rfl rfl ?_
                  refine eb_iconst (pc := 98) (n := 1) (v := 1) rfl rfl ?_
                  refine eb_isub (pc := 99) rfl ?_
                  refine eb_ishl (pc := 100) rfl ?_
                  refine eb_ior (pc := 101) rfl ?_
                  refine eb_istore_n (pc := 102) (n := 1) (i := 1) (ls2 := [(1, .int (x1 ||| ((1 : Int32) <<< ((y31 - 1) &&& 31)))), (2, .int y31), (0, .ref s_MO)]) rfl (Nat.le_of_ble_eq_true rfl) rfl rfl ?_
                  refine eb_goto (pc := 103) (tgt := 17) rfl (by decide) ?_
                  exact eb_pick [2, 0] rfl w
          refine eb_ctS (pc := 56) (As := [.long x1.toInt64, .int ((eb_I h2 s_MO 10) - 1)]) (rest := []) rfl (by decide) (by decide) rfl rfl (Nat.le_of_ble_eq_true rfl) ?_
          refine eb_bodyQ (by decide) ok_X11_isIn (Nat.le_of_ble_eq_true rfl) ?_
          change eb_Sn _ m_X11_isIn _ 0 [(0, .long x1.toInt64), (2, .int ((eb_I h2 s_MO 10) - 1))] [] _ _
          refine eb_lload_n (pc := 0) (n := 0) (i := 0) rfl rfl rfl ?_
          refine eb_iload_n (pc := 1) (n := 2) (i := 2) rfl rfl rfl ?_
          refine eb_lshr (pc := 2) rfl ?_
          refine eb_lconst (pc := 3) (n := 1) (v := 1) rfl rfl ?_
          refine eb_land (pc := 4) rfl ?_
          refine eb_lconst (pc := 5) (n := 1) (v := 1) rfl rfl ?_
          refine eb_lcmp (pc := 6) rfl ?_
          refine eb_if_ne (pc := 7) (tgt := 14) rfl (by decide) (fun c13 => ?_) (fun c13 => ?_)
          · replace c13 := eb_lc_ne.mp c13
            refine eb_iconst (pc := 14) (n := 0) (v := 0) rfl rfl ?_
            refine eb_ireturn (pc := 15) rfl rfl (by decide) ?_
            change eb_Sn _ _ _ 59 _ _ _ _
            exact jj34 0 (eb_qf c13).symm
          · replace c13 := eb_lc_eq.mp c13
            refine eb_iconst (pc := 10) (n := 1) (v := 1) rfl rfl ?_
            refine eb_goto (pc := 11) (tgt := 15) rfl (by decide) ?_
            refine eb_ireturn (pc := 15) rfl rfl (by decide) ?_
            change eb_Sn _ _ _ 59 _ _ _ _
            exact jj34 1 (eb_qt c13).symm
      refine eb_ctS (pc := 42) (As := [.long ((eb_I h2 s_MO 10).toInt64), .long 1, .long 6]) (rest := []) rfl (by decide) (by decide) rfl rfl (Nat.le_of_ble_eq_true rfl) ?_
      refine eb_bodyQ (by decide) ok_X11_within (Nat.le_of_ble_eq_true rfl) ?_
      change eb_Sn _ m_X11_within _ 0 [(0, .long ((eb_I h2 s_MO 10).toInt64)), (2, .long 1), (4, .long 6)] [] _ _
      refine eb_lload_n (pc := 0) (n := 0) (i := 0) rfl rfl rfl ?_
      refine eb_lload_n (pc := 1) (n := 2) (i := 2) rfl rfl rfl ?_
      refine eb_lcmp (pc := 2) rfl ?_
      refine eb_if_lt (pc := 3) (tgt := 17) rfl (by decide) (fun c6 => ?_) (fun c6 => ?_)
      · replace c6 := eb_lc_lt.mp c6
        refine eb_iconst (pc := 17) (n := 0) (v := 0) rfl rfl ?_
        refine eb_ireturn (pc := 18) rfl rfl (by decide) ?_
        change eb_Sn _ _ _ 45 _ _ _ _
        exact jj36 0 (eb_qf (fun z => z.1 c6)).symm
      · replace c6 := (fun hh => mt eb_lc_lt.mpr hh) c6
        refine eb_lload_n (pc := 6) (n := 0) (i := 0) rfl rfl rfl ?_
        refine eb_lload (pc := 7) (i := 4) rfl rfl ?_
        refine eb_lcmp (pc := 9) rfl ?_
        refine eb_if_gt (pc := 10) (tgt := 17) rfl (by decide) (fun c7 => ?_) (fun c7 => ?_)
        · replace c7 := eb_lc_gt.mp c7
          refine eb_iconst (pc := 17) (n := 0) (v := 0) rfl rfl ?_
          refine eb_ireturn (pc := 18) rfl rfl (by decide) ?_
          change eb_Sn _ _ _ 45 _ _ _ _
          exact jj36 0 (eb_qf (fun z => (fun z => z c7) z.2)).symm
        · replace c7 := (fun hh => mt eb_lc_gt.mpr hh) c7
          refine eb_iconst (pc := 13) (n := 1) (v := 1) rfl rfl ?_
          refine eb_goto (pc := 14) (tgt := 18) rfl (by decide) ?_
          refine eb_ireturn (pc := 18) rfl rfl (by decide) ?_
          change eb_Sn _ _ _ 45 _ _ _ _
          exact jj36 1 (eb_qt (⟨c6, c7⟩)).symm
theorem T_X11_readBat {d : Nat} {h : eb_H} {Q : Option Value → eb_H → Prop}   (ko : eb_KO h) (w : eb_Ct d 164 [.ref s_MO] h (fun r h1 => r = none ∧ eb_KO h1 ∧ eb_Ct d 179 [.ref s_MO] h1 (fun r h4 => ∃ y5, r = some (.int y5) ∧ eb_KO h4 ∧ eb_Sn (d + 1) m_X11_readBat h 17 [(0, .ref s_MO), (1, .int 0)] [] (eb_sI h4 s_m_fresh (31 : Int32).toNatClampNeg y5) Q))) : eb_Ct (d + 1) 183 [.ref s_MO] h Q :=
  eb_bodyQ (by decide) ok_X11_readBat (Nat.le_of_ble_eq_true rfl) (b_X11_readBat_0 (h0 := h)   ko w)
theorem b_X11_readLaw_0 {d : Nat} {h0 h : eb_H} {Q : Option Value → eb_H → Prop} (x1 : Int32)  (ko : eb_KO h) (w : eb_Ct d 164 [.ref s_MO] h (fun r h1 => r = none ∧ eb_KO h1 ∧ eb_Ct d 167 [.ref s_MO, .int 31] h1 (fun r h4 => ∃ y5, r = some (.int y5) ∧ eb_KO h4 ∧ ((¬ y5 = 0 → eb_Ct d 178 [.ref s_MO, .int 0] (eb_sI h4 s_MO 15 x1) (fun r h8 => r = none ∧ eb_KO h8 ∧ (((eb_I h8 s_MO 11) = 0 → (vp_in ((5 : Int32) + x1) 1164) ∧ (vp_in ((7 : Int32) + x1) 1164) ∧ (vp_in ((9 : Int32) + x1) 1164) ∧ Q none (eb_sI (eb_sI (eb_sI h8 s_m_fresh ((5 : Int32) + x1).toNatClampNeg 1) s_m_fresh ((7 : Int32) + x1).toNatClampNeg (eb_I h4 s_m_fresh (263 : Int32).toNatClampNeg)) s_m_fresh ((9 : Int32) + x1).toNatClampNeg ((eb_I (eb_sI (eb_sI h8 s_m_fresh ((5 : Int32) + x1).toNatClampNeg 1) s_m_fresh ((7 : Int32) + x1).toNatClampNeg (eb_I h4 s_m_fresh (263 : Int32).toNatClampNeg)) s_m_fresh (263 : Int32).toNatClampNeg) - (eb_I h4 s_m_fresh (263 : Int32).toNatClampNeg)))) ∧ (¬ ((eb_I h8 s_MO 11) = 0) → Q none h8)))) ∧ (y5 = 0 → eb_Ct d 165 [.ref s_MO, .int 2] h4 (fun r h15 => r = none ∧ eb_KO h15 ∧ eb_Ct d 178 [.ref s_MO, .int 0] (eb_sI h15 s_MO 15 x1) (fun r h18 => r = none ∧ eb_KO h18 ∧ (((eb_I h18 s_MO 11) = 0 → (vp_in ((5 : Int32) + x1) 1164) ∧ (vp_in ((7 : Int32) + x1) 1164) ∧ (vp_in ((9 : Int32) + x1) 1164) ∧ Q none (eb_sI (eb_sI (eb_sI h18 s_m_fresh ((5 : Int32) + x1).toNatClampNeg 1) s_m_fresh ((7 : Int32) + x1).toNatClampNeg (eb_I h15 s_m_fresh (263 : Int32).toNatClampNeg)) s_m_fresh ((9 : Int32) + x1).toNatClampNeg ((eb_I (eb_sI (eb_sI h18 s_m_fresh ((5 : Int32) + x1).toNatClampNeg 1) s_m_fresh ((7 : Int32) + x1).toNatClampNeg (eb_I h15 s_m_fresh (263 : Int32).toNatClampNeg)) s_m_fresh (263 : Int32).toNatClampNeg) - (eb_I h15 s_m_fresh (263 : Int32).toNatClampNeg)))) ∧ (¬ ((eb_I h18 s_MO 11) = 0) → Q none h18))))))))) : eb_Sn (d + 1) m_X11_readLaw h0 0 [(0, .ref s_MO), (1, .int x1)] [] h Q := by
  refine eb_aload_n (pc := 0) (n := 0) (i := 0) rfl rfl rfl ?_
  refine eb_ctV (pc := 1) (As := []) (rest := []) rfl (by decide) rfl rfl (by decide) rfl (Nat.le_of_ble_eq_true rfl) ?_
  refine eb_Ct.mono w ?_
  rintro r h1 ⟨rfl, ko3, w⟩
  change eb_Sn _ _ _ 4 _ [] _ _
  refine eb_aload_n (pc := 4) (n := 0) (i := 0) rfl rfl rfl ?_
  refine eb_bipush (pc := 5) (n := 31) (v := 31) rfl rfl ?_
  refine eb_ctV (pc := 7) (As := [.int 31]) (rest := []) rfl (by decide) rfl rfl (by decide) rfl (Nat.le_of_ble_eq_true rfl) ?_
  refine eb_Ct.mono w ?_
  rintro r h4 ⟨y5, rfl, ko6, w⟩
  change eb_Sn _ _ _ 10 _ [.int y5] _ _
  refine eb_if_ne (pc := 10) (tgt := 18) rfl (by decide) (fun c7 => ?_) (fun c7 => ?_)
  · replace w := w.1 c7
    refine eb_aload_n (pc := 18) (n := 0) (i := 0) rfl rfl rfl ?_
    refine eb_getR (pc := 19) rfl rfl (by decide) (by decide) rfl (ko_s_MO_4 ko6) ?_
    refine eb_sipush (pc := 22) (n := 263) (v := 263) rfl rfl ?_
    refine eb_iaload (pc := 25) rfl rfl (by decide) (by unfold vp_in; decide) ?_
    refine eb_istore_n (pc := 26) (n := 2) (i := 2) (ls2 := [(2, .int (eb_I h4 s_m_fresh (263 : Int32).toNatClampNeg)), (0, .ref s_MO), (1, .int x1)]) rfl (Nat.le_of_ble_eq_true rfl) rfl rfl ?_
    refine eb_aload_n (pc := 27) (n := 0) (i := 0) rfl rfl rfl ?_
    refine eb_iload_n (pc := 28) (n := 1) (i := 1) rfl rfl rfl ?_
    refine eb_putI (pc := 29) rfl rfl (by decide) (by decide) rfl rfl ⟨rfl, rfl⟩ ?_
    refine eb_aload_n (pc := 32) (n := 0) (i := 0) rfl rfl rfl ?_
    refine eb_iconst (pc := 33) (n := 0) (v := 0) rfl rfl ?_
    refine eb_ctV (pc := 34) (As := [.int 0]) (rest := []) rfl (by decide) rfl rfl (by decide) rfl (Nat.le_of_ble_eq_true rfl) ?_
    refine eb_Ct.mono w ?_
    rintro r h8 ⟨rfl, ko10, w⟩
    change eb_Sn _ _ _ 37 _ [] _ _
    refine eb_aload_n (pc := 37) (n := 0) (i := 0) rfl rfl rfl ?_
    refine eb_getI (pc := 38) rfl rfl (by decide) (by decide) rfl ?_
    refine eb_if_eq (pc := 41) (tgt := 45) rfl (by decide) (fun c11 => ?_) (fun c11 => ?_)
    · replace w := w.1 c11
      refine eb_aload_n (pc := 45) (n := 0) (i := 0) rfl rfl rfl ?_
      refine eb_getR (pc := 46) rfl rfl (by decide) (by decide) rfl (ko_s_MO_4 ko10) ?_
      refine eb_iconst (pc := 49) (n := 5) (v := 5) rfl rfl ?_
      refine eb_iload_n (pc := 50) (n := 1) (i := 1) rfl rfl rfl ?_
      refine eb_iadd (pc := 51) rfl ?_
      refine eb_iconst (pc := 52) (n := 1) (v := 1) rfl rfl ?_
      obtain ⟨c12, w⟩ := w
      refine eb_iastore (pc := 53) rfl rfl (by decide) c12 ?_
      refine eb_aload_n (pc := 54) (n := 0) (i := 0) rfl rfl rfl ?_
      refine eb_getR (pc := 55) rfl rfl (by decide) (by decide) rfl (ko_s_MO_4 ko10) ?_
      refine eb_bipush (pc := 58) (n := 7) (v := 7) rfl rfl ?_
      refine eb_iload_n (pc := 60) (n := 1) (i := 1) rfl rfl rfl ?_
      refine eb_iadd (pc := 61) rfl ?_
      refine eb_iload_n (pc := 62) (n := 2) (i := 2) rfl rfl rfl ?_
      obtain ⟨c13, w⟩ := w
      refine eb_iastore (pc := 63) rfl rfl (by decide) c13 ?_
      refine eb_aload_n (pc := 64) (n := 0) (i := 0) rfl rfl rfl ?_
      refine eb_getR (pc := 65) rfl rfl (by decide) (by decide) rfl (ko_s_MO_4 ko10) ?_
      refine eb_bipush (pc := 68) (n := 9) (v := 9) rfl rfl ?_
      refine eb_iload_n (pc := 70) (n := 1) (i := 1) rfl rfl rfl ?_
      refine eb_iadd (pc := 71) rfl ?_
      refine eb_aload_n (pc := 72) (n := 0) (i := 0) rfl rfl rfl ?_
      refine eb_getR (pc := 73) rfl rfl (by decide) (by decide) rfl (ko_s_MO_4 ko10) ?_
      refine eb_sipush (pc := 76) (n := 263) (v := 263) rfl rfl ?_
      refine eb_iaload (pc := 79) rfl rfl (by decide) (by unfold vp_in; decide) ?_
      refine eb_iload_n (pc := 80) (n := 2) (i := 2) rfl rfl rfl ?_
      refine eb_isub (pc := 81) rfl ?_
      obtain ⟨c14, w⟩ := w
      refine eb_iastore (pc := 82) rfl rfl (by decide) c14 ?_
      exact eb_return (pc := 83) rfl rfl w
    · replace w := w.2 c11
      exact eb_return (pc := 44) rfl rfl w
  · replace w := w.2 c7
    refine eb_aload_n (pc := 13) (n := 0) (i := 0) rfl rfl rfl ?_
    refine eb_iconst (pc := 14) (n := 2) (v := 2) rfl rfl ?_
    refine eb_ctV (pc := 15) (As := [.int 2]) (rest := []) rfl (by decide) rfl rfl (by decide) rfl (Nat.le_of_ble_eq_true rfl) ?_
    refine eb_Ct.mono w ?_
    rintro r h15 ⟨rfl, ko17, w⟩
    change eb_Sn _ _ _ 18 _ [] _ _
    refine eb_aload_n (pc := 18) (n := 0) (i := 0) rfl rfl rfl ?_
    refine eb_getR (pc := 19) rfl rfl (by decide) (by decide) rfl (ko_s_MO_4 ko17) ?_
    refine eb_sipush (pc := 22) (n := 263) (v := 263) rfl rfl ?_
    refine eb_iaload (pc := 25) rfl rfl (by decide) (by unfold vp_in; decide) ?_
    refine eb_istore_n (pc := 26) (n := 2) (i := 2) (ls2 := [(2, .int (eb_I h15 s_m_fresh (263 : Int32).toNatClampNeg)), (0, .ref s_MO), (1, .int x1)]) rfl (Nat.le_of_ble_eq_true rfl) rfl rfl ?_
    refine eb_aload_n (pc := 27) (n := 0) (i := 0) rfl rfl rfl ?_
    refine eb_iload_n (pc := 28) (n := 1) (i := 1) rfl rfl rfl ?_
    refine eb_putI (pc := 29) rfl rfl (by decide) (by decide) rfl rfl ⟨rfl, rfl⟩ ?_
    refine eb_aload_n (pc := 32) (n := 0) (i := 0) rfl rfl rfl ?_
    refine eb_iconst (pc := 33) (n := 0) (v := 0) rfl rfl ?_
    refine eb_ctV (pc := 34) (As := [.int 0]) (rest := []) rfl (by decide) rfl rfl (by decide) rfl (Nat.le_of_ble_eq_true rfl) ?_
    refine eb_Ct.mono w ?_
    rintro r h18 ⟨rfl, ko20, w⟩
    change eb_Sn _ _ _ 37 _ [] _ _
    refine eb_aload_n (pc := 37) (n := 0) (i := 0) rfl rfl rfl ?_
    refine eb_getI (pc := 38) rfl rfl (by decide) (by decide) rfl ?_
    refine eb_if_eq (pc := 41) (tgt := 45) rfl (by decide) (fun c21 => ?_) (fun c21 => ?_)
    · replace w := w.1 c21
      refine eb_aload_n (pc := 45) (n := 0) (i := 0) rfl rfl rfl ?_
      refine eb_getR (pc := 46) rfl rfl (by decide) (by decide) rfl (ko_s_MO_4 ko20) ?_
      refine eb_iconst (pc := 49) (n := 5) (v := 5) rfl rfl ?_
      refine eb_iload_n (pc := 50) (n := 1) (i := 1) rfl rfl rfl ?_
      refine eb_iadd (pc := 51) rfl ?_
      refine eb_iconst (pc := 52) (n := 1) (v := 1) rfl rfl ?_
      obtain ⟨c22, w⟩ := w
      refine eb_iastore (pc := 53) rfl rfl (by decide) c22 ?_
      refine eb_aload_n (pc := 54) (n := 0) (i := 0) rfl rfl rfl ?_
      refine eb_getR (pc := 55) rfl rfl (by decide) (by decide) rfl (ko_s_MO_4 ko20) ?_
      refine eb_bipush (pc := 58) (n := 7) (v := 7) rfl rfl ?_
      refine eb_iload_n (pc := 60) (n := 1) (i := 1) rfl rfl rfl ?_
      refine eb_iadd (pc := 61) rfl ?_
      refine eb_iload_n (pc := 62) (n := 2) (i := 2) rfl rfl rfl ?_
      obtain ⟨c23, w⟩ := w
      refine eb_iastore (pc := 63) rfl rfl (by decide) c23 ?_
      refine eb_aload_n (pc := 64) (n := 0) (i := 0) rfl rfl rfl ?_
      refine eb_getR (pc := 65) rfl rfl (by decide) (by decide) rfl (ko_s_MO_4 ko20) ?_
      refine eb_bipush (pc := 68) (n := 9) (v := 9) rfl rfl ?_
      refine eb_iload_n (pc := 70) (n := 1) (i := 1) rfl rfl rfl ?_
      refine eb_iadd (pc := 71) rfl ?_
      refine eb_aload_n (pc := 72) (n := 0) (i := 0) rfl rfl rfl ?_
      refine eb_getR (pc := 73) rfl rfl (by decide) (by decide) rfl (ko_s_MO_4 ko20) ?_
      refine eb_sipush (pc := 76) (n := 263) (v := 263) rfl rfl ?_
      refine eb_iaload (pc := 79) rfl rfl (by decide) (by unfold vp_in; decide) ?_
      refine eb_iload_n (pc := 80) (n := 2) (i := 2) rfl rfl rfl ?_
      refine eb_isub (pc := 81) rfl ?_
      obtain ⟨c24, w⟩ := w
      refine eb_iastore (pc := 82) rfl rfl (by decide) c24 ?_
      exact eb_return (pc := 83) rfl rfl w
    · replace w := w.2 c21
      exact eb_return (pc := 44) rfl rfl w
theorem T_X11_readLaw {d : Nat} {h : eb_H} {Q : Option Value → eb_H → Prop} (x1 : Int32)  (ko : eb_KO h) (w : eb_Ct d 164 [.ref s_MO] h (fun r h1 => r = none ∧ eb_KO h1 ∧ eb_Ct d 167 [.ref s_MO, .int 31] h1 (fun r h4 => ∃ y5, r = some (.int y5) ∧ eb_KO h4 ∧ ((¬ y5 = 0 → eb_Ct d 178 [.ref s_MO, .int 0] (eb_sI h4 s_MO 15 x1) (fun r h8 => r = none ∧ eb_KO h8 ∧ (((eb_I h8 s_MO 11) = 0 → (vp_in ((5 : Int32) + x1) 1164) ∧ (vp_in ((7 : Int32) + x1) 1164) ∧ (vp_in ((9 : Int32) + x1) 1164) ∧ Q none (eb_sI (eb_sI (eb_sI h8 s_m_fresh ((5 : Int32) + x1).toNatClampNeg 1) s_m_fresh ((7 : Int32) + x1).toNatClampNeg (eb_I h4 s_m_fresh (263 : Int32).toNatClampNeg)) s_m_fresh ((9 : Int32) + x1).toNatClampNeg ((eb_I (eb_sI (eb_sI h8 s_m_fresh ((5 : Int32) + x1).toNatClampNeg 1) s_m_fresh ((7 : Int32) + x1).toNatClampNeg (eb_I h4 s_m_fresh (263 : Int32).toNatClampNeg)) s_m_fresh (263 : Int32).toNatClampNeg) - (eb_I h4 s_m_fresh (263 : Int32).toNatClampNeg)))) ∧ (¬ ((eb_I h8 s_MO 11) = 0) → Q none h8)))) ∧ (y5 = 0 → eb_Ct d 165 [.ref s_MO, .int 2] h4 (fun r h15 => r = none ∧ eb_KO h15 ∧ eb_Ct d 178 [.ref s_MO, .int 0] (eb_sI h15 s_MO 15 x1) (fun r h18 => r = none ∧ eb_KO h18 ∧ (((eb_I h18 s_MO 11) = 0 → (vp_in ((5 : Int32) + x1) 1164) ∧ (vp_in ((7 : Int32) + x1) 1164) ∧ (vp_in ((9 : Int32) + x1) 1164) ∧ Q none (eb_sI (eb_sI (eb_sI h18 s_m_fresh ((5 : Int32) + x1).toNatClampNeg 1) s_m_fresh ((7 : Int32) + x1).toNatClampNeg (eb_I h15 s_m_fresh (263 : Int32).toNatClampNeg)) s_m_fresh ((9 : Int32) + x1).toNatClampNeg ((eb_I (eb_sI (eb_sI h18 s_m_fresh ((5 : Int32) + x1).toNatClampNeg 1) s_m_fresh ((7 : Int32) + x1).toNatClampNeg (eb_I h15 s_m_fresh (263 : Int32).toNatClampNeg)) s_m_fresh (263 : Int32).toNatClampNeg) - (eb_I h15 s_m_fresh (263 : Int32).toNatClampNeg)))) ∧ (¬ ((eb_I h18 s_MO 11) = 0) → Q none h18))))))))) : eb_Ct (d + 1) 184 [.ref s_MO, .int x1] h Q :=
  eb_bodyQ (by decide) ok_X11_readLaw (Nat.le_of_ble_eq_true rfl) (b_X11_readLaw_0 (h0 := h) x1  ko w)
theorem b_X11_readDrift_0 {d : Nat} {h0 h : eb_H} {Q : Option Value → eb_H → Prop}   (ko : eb_KO h) (w : eb_Ct d 164 [.ref s_MO] h (fun r h1 => r = none ∧ eb_KO h1 ∧ eb_Ct d 179 [.ref s_MO] h1 (fun r h4 => ∃ y5, r = some (.int y5) ∧ eb_KO h4 ∧ Q none (eb_sI h4 s_m_fresh (50 : Int32).toNatClampNeg ((eb_I h1 s_m_fresh (50 : Int32).toNatClampNeg) ||| ((1 : Int32) <<< (y5 &&& 31))))))) : eb_Sn (d + 1) m_X11_readDrift h0 0 [(0, .ref s_MO)] [] h Q := by
  refine eb_aload_n (pc := 0) (n := 0) (i := 0) rfl rfl rfl ?_
  refine eb_ctV (pc := 1) (As := []) (rest := []) rfl (by decide) rfl rfl (by decide) rfl (Nat.le_of_ble_eq_true rfl) ?_
  refine eb_Ct.mono w ?_
  rintro r h1 ⟨rfl, ko3, w⟩
  change eb_Sn _ _ _ 4 _ [] _ _
  refine eb_aload_n (pc := 4) (n := 0) (i := 0) rfl rfl rfl ?_
  refine eb_getR (pc := 5) rfl rfl (by decide) (by decide) rfl (ko_s_MO_4 ko3) ?_
  refine eb_bipush (pc := 8) (n := 50) (v := 50) rfl rfl ?_
  refine eb_dup2 (pc := 10) rfl ?_
  refine eb_iaload (pc := 11) rfl rfl (by decide) (by unfold vp_in; decide) ?_
  refine eb_iconst (pc := 12) (n := 1) (v := 1) rfl rfl ?_
  refine eb_aload_n (pc := 13) (n := 0) (i := 0) rfl rfl rfl ?_
  refine eb_ctV (pc := 14) (As := []) (rest := [.int 1, .int (eb_I h1 s_m_fresh (50 : Int32).toNatClampNeg), .int 50, .ref s_m_fresh]) rfl (by decide) rfl rfl (by decide) rfl (Nat.le_of_ble_eq_true rfl) ?_
  refine eb_Ct.mono w ?_
  rintro r h4 ⟨y5, rfl, ko6, w⟩
  change eb_Sn _ _ _ 17 _ [.int y5, .int 1, .int (eb_I h1 s_m_fresh (50 : Int32).toNatClampNeg), .int 50, .ref s_m_fresh] _ _
  refine eb_ishl (pc := 17) rfl ?_
  refine eb_ior (pc := 18) rfl ?_
  refine eb_iastore (pc := 19) rfl rfl (by decide) (by unfold vp_in; decide) ?_
  exact eb_return (pc := 20) rfl rfl w
theorem T_X11_readDrift {d : Nat} {h : eb_H} {Q : Option Value → eb_H → Prop}   (ko : eb_KO h) (w : eb_Ct d 164 [.ref s_MO] h (fun r h1 => r = none ∧ eb_KO h1 ∧ eb_Ct d 179 [.ref s_MO] h1 (fun r h4 => ∃ y5, r = some (.int y5) ∧ eb_KO h4 ∧ Q none (eb_sI h4 s_m_fresh (50 : Int32).toNatClampNeg ((eb_I h1 s_m_fresh (50 : Int32).toNatClampNeg) ||| ((1 : Int32) <<< (y5 &&& 31))))))) : eb_Ct (d + 1) 185 [.ref s_MO] h Q :=
  eb_bodyQ (by decide) ok_X11_readDrift (Nat.le_of_ble_eq_true rfl) (b_X11_readDrift_0 (h0 := h)   ko w)
theorem b_X11_readLine_0 {d : Nat} {h0 h : eb_H} {Q : Option Value → eb_H → Prop}   (ko : eb_KO h) (w : (((eb_I h s_MO 11) = 0 → eb_Ct d 166 [.ref s_MO, .int 2] h (fun r h2 => ∃ y3, r = some (.int y3) ∧ eb_KO h2 ∧ ((y3 = 0 → eb_Ct d 166 [.ref s_MO, .int 3] h2 (fun r h6 => ∃ y7, r = some (.int y7) ∧ eb_KO h6 ∧ ((y7 = 0 → eb_Ct d 166 [.ref s_MO, .int 4] h6 (fun r h10 => ∃ y11, r = some (.int y11) ∧ eb_KO h10 ∧ ((y11 = 0 → eb_Ct d 166 [.ref s_MO, .int 5] h10 (fun r h14 => ∃ y15, r = some (.int y15) ∧ eb_KO h14 ∧ ((y15 = 0 → eb_Ct d 167 [.ref s_MO, .int 6] h14 (fun r h18 => ∃ y19, r = some (.int y19) ∧ eb_KO h18 ∧ ((y19 = 0 → eb_Ct d 166 [.ref s_MO, .int 7] h18 (fun r h22 => ∃ y23, r = some (.int y23) ∧ eb_KO h22 ∧ ((y23 = 0 → eb_Ct d 166 [.ref s_MO, .int 8] h22 (fun r h26 => ∃ y27, r = some (.int y27) ∧ eb_KO h26 ∧ ((¬ y27 = 0 → eb_Ct d 184 [.ref s_MO, .int ((eb_I h26 s_MO 9) - 8)] h26 (fun r h30 => r = none ∧ eb_KO h30 ∧ Q none h30)) ∧ (y27 = 0 → eb_Ct d 166 [.ref s_MO, .int 9] h26 (fun r h33 => ∃ y34, r = some (.int y34) ∧ eb_KO h33 ∧ ((y34 = 0 → eb_Ct d 165 [.ref s_MO, .int 2] h33 (fun r h37 => r = none ∧ eb_KO h37 ∧ Q none h37)) ∧ (¬ (y34 = 0) → eb_Ct d 184 [.ref s_MO, .int ((eb_I h33 s_MO 9) - 8)] h33 (fun r h40 => r = none ∧ eb_KO h40 ∧ Q none h40)))))))) ∧ (¬ (y23 = 0) → eb_Ct d 183 [.ref s_MO] h22 (fun r h43 => r = none ∧ eb_KO h43 ∧ Q none h43))))) ∧ (¬ (y19 = 0) → eb_Ct d 168 [.ref s_MO, .int 0, .int 9] h18 (fun r h46 => ∃ y47, r = some (.int y47) ∧ eb_KO h46 ∧ Q none (eb_sI h46 s_m_fresh (51 : Int32).toNatClampNeg y47)))))) ∧ (¬ (y15 = 0) → eb_Ct d 182 [.ref s_MO] h14 (fun r h49 => r = none ∧ eb_KO h49 ∧ Q none h49))))) ∧ (¬ (y11 = 0) → eb_Ct d 185 [.ref s_MO] h10 (fun r h52 => r = none ∧ eb_KO h52 ∧ Q none h52))))) ∧ (¬ (y7 = 0) → eb_Ct d 181 [.ref s_MO] h6 (fun r h55 => r = none ∧ eb_KO h55 ∧ Q none h55))))) ∧ (¬ (y3 = 0) → eb_Ct d 180 [.ref s_MO] h2 (fun r h58 => r = none ∧ eb_KO h58 ∧ Q none h58))))) ∧ (¬ ((eb_I h s_MO 11) = 0) → Q none h))) : eb_Sn (d + 1) m_X11_readLine h0 0 [(0, .ref s_MO)] [] h Q := by
  refine eb_aload_n (pc := 0) (n := 0) (i := 0) rfl rfl rfl ?_
  refine eb_getI (pc := 1) rfl rfl (by decide) (by decide) rfl ?_
  refine eb_if_eq (pc := 4) (tgt := 8) rfl (by decide) (fun c1 => ?_) (fun c1 => ?_)
  · replace w := w.1 c1
    refine eb_aload_n (pc := 8) (n := 0) (i := 0) rfl rfl rfl ?_
    refine eb_iconst (pc := 9) (n := 2) (v := 2) rfl rfl ?_
    refine eb_ctV (pc := 10) (As := [.int 2]) (rest := []) rfl (by decide) rfl rfl (by decide) rfl (Nat.le_of_ble_eq_true rfl) ?_
    refine eb_Ct.mono w ?_
    rintro r h2 ⟨y3, rfl, ko4, w⟩
    change eb_Sn _ _ _ 13 _ [.int y3] _ _
    refine eb_if_eq (pc := 13) (tgt := 23) rfl (by decide) (fun c5 => ?_) (fun c5 => ?_)
    · replace w := w.1 c5
      refine eb_aload_n (pc := 23) (n := 0) (i := 0) rfl rfl rfl ?_
      refine eb_iconst (pc := 24) (n := 3) (v := 3) rfl rfl ?_
      refine eb_ctV (pc := 25) (As := [.int 3]) (rest := []) rfl (by decide) rfl rfl (by decide) rfl (Nat.le_of_ble_eq_true rfl) ?_
      refine eb_Ct.mono w ?_
      rintro r h6 ⟨y7, rfl, ko8, w⟩
      change eb_Sn _ _ _ 28 _ [.int y7] _ _
      refine eb_if_eq (pc := 28) (tgt := 38) rfl (by decide) (fun c9 => ?_) (fun c9 => ?_)
      · replace w := w.1 c9
        refine eb_aload_n (pc := 38) (n := 0) (i := 0) rfl rfl rfl ?_
        refine eb_iconst (pc := 39) (n := 4) (v := 4) rfl rfl ?_
        refine eb_ctV (pc := 40) (As := [.int 4]) (rest := []) rfl (by decide) rfl rfl (by decide) rfl (Nat.le_of_ble_eq_true rfl) ?_
        refine eb_Ct.mono w ?_
        rintro r h10 ⟨y11, rfl, ko12, w⟩
        change eb_Sn _ _ _ 43 _ [.int y11] _ _
        refine eb_if_eq (pc := 43) (tgt := 53) rfl (by decide) (fun c13 => ?_) (fun c13 => ?_)
        · replace w := w.1 c13
          refine eb_aload_n (pc := 53) (n := 0) (i := 0) rfl rfl rfl ?_
          refine eb_iconst (pc := 54) (n := 5) (v := 5) rfl rfl ?_
          refine eb_ctV (pc := 55) (As := [.int 5]) (rest := []) rfl (by decide) rfl rfl (by decide) rfl (Nat.le_of_ble_eq_true rfl) ?_
          refine eb_Ct.mono w ?_
          rintro r h14 ⟨y15, rfl, ko16, w⟩
          change eb_Sn _ _ _ 58 _ [.int y15] _ _
          refine eb_if_eq (pc := 58) (tgt := 68) rfl (by decide) (fun c17 => ?_) (fun c17 => ?_)
          · replace w := w.1 c17
            refine eb_aload_n (pc := 68) (n := 0) (i := 0) rfl rfl rfl ?_
            refine eb_bipush (pc := 69) (n := 6) (v := 6) rfl rfl ?_
            refine eb_ctV (pc := 71) (As := [.int 6]) (rest := []) rfl (by decide) rfl rfl (by decide) rfl (Nat.le_of_ble_eq_true rfl) ?_
            refine eb_Ct.mono w ?_
            rintro r h18 ⟨y19, rfl, ko20, w⟩
            change eb_Sn _ _ _ 74 _ [.int y19] _ _
            refine eb_if_eq (pc := 74) (tgt := 94) rfl (by decide) (fun c21 => ?_) (fun c21 => ?_)
            · replace w := w.1 c21
              refine eb_aload_n (pc := 94) (n := 0) (i := 0) rfl rfl rfl ?_
              refine eb_bipush (pc := 95) (n := 7) (v := 7) rfl rfl ?_
              refine eb_ctV (pc := 97) (As := [.int 7]) (rest := []) rfl (by decide) rfl rfl (by decide) rfl (Nat.le_of_ble_eq_true rfl) ?_
              refine eb_Ct.mono w ?_
              rintro r h22 ⟨y23, rfl, ko24, w⟩
              change eb_Sn _ _ _ 100 _ [.int y23] _ _
              refine eb_if_eq (pc := 100) (tgt := 110) rfl (by decide) (fun c25 => ?_) (fun c25 => ?_)
              · replace w := w.1 c25
                refine eb_aload_n (pc := 110) (n := 0) (i := 0) rfl rfl rfl ?_
                refine eb_bipush (pc := 111) (n := 8) (v := 8) rfl rfl ?_
                refine eb_ctV (pc := 113) (As := [.int 8]) (rest := []) rfl (by decide) rfl rfl (by decide) rfl (Nat.le_of_ble_eq_true rfl) ?_
                refine eb_Ct.mono w ?_
                rintro r h26 ⟨y27, rfl, ko28, w⟩
                change eb_Sn _ _ _ 116 _ [.int y27] _ _
                refine eb_if_ne (pc := 116) (tgt := 128) rfl (by decide) (fun c29 => ?_) (fun c29 => ?_)
                · replace w := w.1 c29
                  refine eb_aload_n (pc := 128) (n := 0) (i := 0) rfl rfl rfl ?_
                  refine eb_aload_n (pc := 129) (n := 0) (i := 0) rfl rfl rfl ?_
                  refine eb_getI (pc := 130) rfl rfl (by decide) (by decide) rfl ?_
                  refine eb_bipush (pc := 133) (n := 8) (v := 8) rfl rfl ?_
                  refine eb_isub (pc := 135) rfl ?_
                  refine eb_ctV (pc := 136) (As := [.int ((eb_I h26 s_MO 9) - 8)]) (rest := []) rfl (by decide) rfl rfl (by decide) rfl (Nat.le_of_ble_eq_true rfl) ?_
                  refine eb_Ct.mono w ?_
                  rintro r h30 ⟨rfl, ko32, w⟩
                  change eb_Sn _ _ _ 139 _ [] _ _
                  refine eb_goto (pc := 139) (tgt := 147) rfl (by decide) ?_
                  exact eb_return (pc := 147) rfl rfl w
                · replace w := w.2 c29
                  refine eb_aload_n (pc := 119) (n := 0) (i := 0) rfl rfl rfl ?_
                  refine eb_bipush (pc := 120) (n := 9) (v := 9) rfl rfl ?_
                  refine eb_ctV (pc := 122) (As := [.int 9]) (rest := []) rfl (by decide) rfl rfl (by decide) rfl (Nat.le_of_ble_eq_true rfl) ?_
                  refine eb_Ct.mono w ?_
                  rintro r h33 ⟨y34, rfl, ko35, w⟩
                  change eb_Sn _ _ _ 125 _ [.int y34] _ _
                  refine eb_if_eq (pc := 125) (tgt := 142) rfl (by decide) (fun c36 => ?_) (fun c36 => ?_)
                  · replace w := w.1 c36
                    refine eb_aload_n (pc := 142) (n := 0) (i := 0) rfl rfl rfl ?_
                    refine eb_iconst (pc := 143) (n := 2) (v := 2) rfl rfl ?_
                    refine eb_ctV (pc := 144) (As := [.int 2]) (rest := []) rfl (by decide) rfl rfl (by decide) rfl (Nat.le_of_ble_eq_true rfl) ?_
                    refine eb_Ct.mono w ?_
                    rintro r h37 ⟨rfl, ko39, w⟩
                    change eb_Sn _ _ _ 147 _ [] _ _
                    exact eb_return (pc := 147) rfl rfl w
                  · replace w := w.2 c36
                    refine eb_aload_n (pc := 128) (n := 0) (i := 0) rfl rfl rfl ?_
                    refine eb_aload_n (pc := 129) (n := 0) (i := 0) rfl rfl rfl ?_
                    refine eb_getI (pc := 130) rfl rfl (by decide) (by decide) rfl ?_
                    refine eb_bipush (pc := 133) (n := 8) (v := 8) rfl rfl ?_
                    refine eb_isub (pc := 135) rfl ?_
                    refine eb_ctV (pc := 136) (As := [.int ((eb_I h33 s_MO 9) - 8)]) (rest := []) rfl (by decide) rfl rfl (by decide) rfl (Nat.le_of_ble_eq_true rfl) ?_
                    refine eb_Ct.mono w ?_
                    rintro r h40 ⟨rfl, ko42, w⟩
                    change eb_Sn _ _ _ 139 _ [] _ _
                    refine eb_goto (pc := 139) (tgt := 147) rfl (by decide) ?_
                    exact eb_return (pc := 147) rfl rfl w
              · replace w := w.2 c25
                refine eb_aload_n (pc := 103) (n := 0) (i := 0) rfl rfl rfl ?_
                refine eb_ctV (pc := 104) (As := []) (rest := []) rfl (by decide) rfl rfl (by decide) rfl (Nat.le_of_ble_eq_true rfl) ?_
                refine eb_Ct.mono w ?_
                rintro r h43 ⟨rfl, ko45, w⟩
                change eb_Sn _ _ _ 107 _ [] _ _
                refine eb_goto (pc := 107) (tgt := 147) rfl (by decide) ?_
                exact eb_return (pc := 147) rfl rfl w
            · replace w := w.2 c21
              refine eb_aload_n (pc := 77) (n := 0) (i := 0) rfl rfl rfl ?_
              refine eb_getR (pc := 78) rfl rfl (by decide) (by decide) rfl (ko_s_MO_4 ko20) ?_
              refine eb_bipush (pc := 81) (n := 51) (v := 51) rfl rfl ?_
              refine eb_aload_n (pc := 83) (n := 0) (i := 0) rfl rfl rfl ?_
              refine eb_iconst (pc := 84) (n := 0) (v := 0) rfl rfl ?_
              refine eb_bipush (pc := 85) (n := 9) (v := 9) rfl rfl ?_
              refine eb_ctV (pc := 87) (As := [.int 0, .int 9]) (rest := [.int 51, .ref s_m_fresh]) rfl (by decide) rfl rfl (by decide) rfl (Nat.le_of_ble_eq_true rfl) ?_
              refine eb_Ct.mono w ?_
              rintro r h46 ⟨y47, rfl, ko48, w⟩
              change eb_Sn _ _ _ 90 _ [.int y47, .int 51, .ref s_m_fresh] _ _
              refine eb_iastore (pc := 90) rfl rfl (by decide) (by unfold vp_in; decide) ?_
              refine eb_goto (pc := 91) (tgt := 147) rfl (by decide) ?_
              exact eb_return (pc := 147) rfl rfl w
          · replace w := w.2 c17
            refine eb_aload_n (pc := 61) (n := 0) (i := 0) rfl rfl rfl ?_
            refine eb_ctV (pc := 62) (As := []) (rest := []) rfl (by decide) rfl rfl (by decide) rfl (Nat.le_of_ble_eq_true rfl) ?_
            refine eb_Ct.mono w ?_
            rintro r h49 ⟨rfl, ko51, w⟩
            change eb_Sn _ _ _ 65 _ [] _ _
            refine eb_goto (pc := 65) (tgt := 147) rfl (by decide) ?_
            exact eb_return (pc := 147) rfl rfl w
        · replace w := w.2 c13
          refine eb_aload_n (pc := 46) (n := 0) (i := 0) rfl rfl rfl ?_
          refine eb_ctV (pc := 47) (As := []) (rest := []) rfl (by decide) rfl rfl (by decide) rfl (Nat.le_of_ble_eq_true rfl) ?_
          refine eb_Ct.mono w ?_
          rintro r h52 ⟨rfl, ko54, w⟩
          change eb_Sn _ _ _ 50 _ [] _ _
          refine eb_goto (pc := 50) (tgt := 147) rfl (by decide) ?_
          exact eb_return (pc := 147) rfl rfl w
      · replace w := w.2 c9
        refine eb_aload_n (pc := 31) (n := 0) (i := 0) rfl rfl rfl ?_
        refine eb_ctV (pc := 32) (As := []) (rest := []) rfl (by decide) rfl rfl (by decide) rfl (Nat.le_of_ble_eq_true rfl) ?_
        refine eb_Ct.mono w ?_
        rintro r h55 ⟨rfl, ko57, w⟩
        change eb_Sn _ _ _ 35 _ [] _ _
        refine eb_goto (pc := 35) (tgt := 147) rfl (by decide) ?_
        exact eb_return (pc := 147) rfl rfl w
    · replace w := w.2 c5
      refine eb_aload_n (pc := 16) (n := 0) (i := 0) rfl rfl rfl ?_
      refine eb_ctV (pc := 17) (As := []) (rest := []) rfl (by decide) rfl rfl (by decide) rfl (Nat.le_of_ble_eq_true rfl) ?_
      refine eb_Ct.mono w ?_
      rintro r h58 ⟨rfl, ko60, w⟩
      change eb_Sn _ _ _ 20 _ [] _ _
      refine eb_goto (pc := 20) (tgt := 147) rfl (by decide) ?_
      exact eb_return (pc := 147) rfl rfl w
  · replace w := w.2 c1
    exact eb_return (pc := 7) rfl rfl w
theorem T_X11_readLine {d : Nat} {h : eb_H} {Q : Option Value → eb_H → Prop}   (ko : eb_KO h) (w : (((eb_I h s_MO 11) = 0 → eb_Ct d 166 [.ref s_MO, .int 2] h (fun r h2 => ∃ y3, r = some (.int y3) ∧ eb_KO h2 ∧ ((y3 = 0 → eb_Ct d 166 [.ref s_MO, .int 3] h2 (fun r h6 => ∃ y7, r = some (.int y7) ∧ eb_KO h6 ∧ ((y7 = 0 → eb_Ct d 166 [.ref s_MO, .int 4] h6 (fun r h10 => ∃ y11, r = some (.int y11) ∧ eb_KO h10 ∧ ((y11 = 0 → eb_Ct d 166 [.ref s_MO, .int 5] h10 (fun r h14 => ∃ y15, r = some (.int y15) ∧ eb_KO h14 ∧ ((y15 = 0 → eb_Ct d 167 [.ref s_MO, .int 6] h14 (fun r h18 => ∃ y19, r = some (.int y19) ∧ eb_KO h18 ∧ ((y19 = 0 → eb_Ct d 166 [.ref s_MO, .int 7] h18 (fun r h22 => ∃ y23, r = some (.int y23) ∧ eb_KO h22 ∧ ((y23 = 0 → eb_Ct d 166 [.ref s_MO, .int 8] h22 (fun r h26 => ∃ y27, r = some (.int y27) ∧ eb_KO h26 ∧ ((¬ y27 = 0 → eb_Ct d 184 [.ref s_MO, .int ((eb_I h26 s_MO 9) - 8)] h26 (fun r h30 => r = none ∧ eb_KO h30 ∧ Q none h30)) ∧ (y27 = 0 → eb_Ct d 166 [.ref s_MO, .int 9] h26 (fun r h33 => ∃ y34, r = some (.int y34) ∧ eb_KO h33 ∧ ((y34 = 0 → eb_Ct d 165 [.ref s_MO, .int 2] h33 (fun r h37 => r = none ∧ eb_KO h37 ∧ Q none h37)) ∧ (¬ (y34 = 0) → eb_Ct d 184 [.ref s_MO, .int ((eb_I h33 s_MO 9) - 8)] h33 (fun r h40 => r = none ∧ eb_KO h40 ∧ Q none h40)))))))) ∧ (¬ (y23 = 0) → eb_Ct d 183 [.ref s_MO] h22 (fun r h43 => r = none ∧ eb_KO h43 ∧ Q none h43))))) ∧ (¬ (y19 = 0) → eb_Ct d 168 [.ref s_MO, .int 0, .int 9] h18 (fun r h46 => ∃ y47, r = some (.int y47) ∧ eb_KO h46 ∧ Q none (eb_sI h46 s_m_fresh (51 : Int32).toNatClampNeg y47)))))) ∧ (¬ (y15 = 0) → eb_Ct d 182 [.ref s_MO] h14 (fun r h49 => r = none ∧ eb_KO h49 ∧ Q none h49))))) ∧ (¬ (y11 = 0) → eb_Ct d 185 [.ref s_MO] h10 (fun r h52 => r = none ∧ eb_KO h52 ∧ Q none h52))))) ∧ (¬ (y7 = 0) → eb_Ct d 181 [.ref s_MO] h6 (fun r h55 => r = none ∧ eb_KO h55 ∧ Q none h55))))) ∧ (¬ (y3 = 0) → eb_Ct d 180 [.ref s_MO] h2 (fun r h58 => r = none ∧ eb_KO h58 ∧ Q none h58))))) ∧ (¬ ((eb_I h s_MO 11) = 0) → Q none h))) : eb_Ct (d + 1) 186 [.ref s_MO] h Q :=
  eb_bodyQ (by decide) ok_X11_readLine (Nat.le_of_ble_eq_true rfl) (b_X11_readLine_0 (h0 := h)   ko w)
theorem b_X11_ends_0 {d : Nat} {h0 h : eb_H} {Q : Option Value → eb_H → Prop}   (ko : eb_KO h) (w : eb_Ct d 167 [.ref s_MO, .int 30] h (fun r h1 => ∃ y2, r = some (.int y2) ∧ eb_KO h1 ∧ ((¬ y2 = 0 → Q none (eb_sI h1 s_m_fresh (0 : Int32).toNatClampNeg ((eb_I h1 s_m_fresh (0 : Int32).toNatClampNeg) + 1))) ∧ (y2 = 0 → eb_Ct d 165 [.ref s_MO, .int 2] h1 (fun r h5 => r = none ∧ eb_KO h5 ∧ Q none (eb_sI h5 s_m_fresh (0 : Int32).toNatClampNeg ((eb_I h5 s_m_fresh (0 : Int32).toNatClampNeg) + 1))))))) : eb_Sn (d + 1) m_X11_ends h0 0 [(0, .ref s_MO)] [] h Q := by
  refine eb_aload_n (pc := 0) (n := 0) (i := 0) rfl rfl rfl ?_
  refine eb_bipush (pc := 1) (n := 30) (v := 30) rfl rfl ?_
  refine eb_ctV (pc := 3) (As := [.int 30]) (rest := []) rfl (by decide) rfl rfl (by decide) rfl (Nat.le_of_ble_eq_true rfl) ?_
  refine eb_Ct.mono w ?_
  rintro r h1 ⟨y2, rfl, ko3, w⟩
  change eb_Sn _ _ _ 6 _ [.int y2] _ _
  refine eb_if_ne (pc := 6) (tgt := 14) rfl (by decide) (fun c4 => ?_) (fun c4 => ?_)
  · replace w := w.1 c4
    refine eb_aload_n (pc := 14) (n := 0) (i := 0) rfl rfl rfl ?_
    refine eb_getR (pc := 15) rfl rfl (by decide) (by decide) rfl (ko_s_MO_4 ko3) ?_
    refine eb_iconst (pc := 18) (n := 0) (v := 0) rfl rfl ?_
    refine eb_dup2 (pc := 19) rfl ?_
    refine eb_iaload (pc := 20) rfl rfl (by decide) (by unfold vp_in; decide) ?_
    refine eb_iconst (pc := 21) (n := 1) (v := 1) rfl rfl ?_
    refine eb_iadd (pc := 22) rfl ?_
    refine eb_iastore (pc := 23) rfl rfl (by decide) (by unfold vp_in; decide) ?_
    exact eb_return (pc := 24) rfl rfl w
  · replace w := w.2 c4
    refine eb_aload_n (pc := 9) (n := 0) (i := 0) rfl rfl rfl ?_
    refine eb_iconst (pc := 10) (n := 2) (v := 2) rfl rfl ?_
    refine eb_ctV (pc := 11) (As := [.int 2]) (rest := []) rfl (by decide) rfl rfl (by decide) rfl (Nat.le_of_ble_eq_true rfl) ?_
    refine eb_Ct.mono w ?_
    rintro r h5 ⟨rfl, ko7, w⟩
    change eb_Sn _ _ _ 14 _ [] _ _
    refine eb_aload_n (pc := 14) (n := 0) (i := 0) rfl rfl rfl ?_
    refine eb_getR (pc := 15) rfl rfl (by decide) (by decide) rfl (ko_s_MO_4 ko7) ?_
    refine eb_iconst (pc := 18) (n := 0) (v := 0) rfl rfl ?_
    refine eb_dup2 (pc := 19) rfl ?_
    refine eb_iaload (pc := 20) rfl rfl (by decide) (by unfold vp_in; decide) ?_
    refine eb_iconst (pc := 21) (n := 1) (v := 1) rfl rfl ?_
    refine eb_iadd (pc := 22) rfl ?_
    refine eb_iastore (pc := 23) rfl rfl (by decide) (by unfold vp_in; decide) ?_
    exact eb_return (pc := 24) rfl rfl w
theorem T_X11_ends {d : Nat} {h : eb_H} {Q : Option Value → eb_H → Prop}   (ko : eb_KO h) (w : eb_Ct d 167 [.ref s_MO, .int 30] h (fun r h1 => ∃ y2, r = some (.int y2) ∧ eb_KO h1 ∧ ((¬ y2 = 0 → Q none (eb_sI h1 s_m_fresh (0 : Int32).toNatClampNeg ((eb_I h1 s_m_fresh (0 : Int32).toNatClampNeg) + 1))) ∧ (y2 = 0 → eb_Ct d 165 [.ref s_MO, .int 2] h1 (fun r h5 => r = none ∧ eb_KO h5 ∧ Q none (eb_sI h5 s_m_fresh (0 : Int32).toNatClampNeg ((eb_I h5 s_m_fresh (0 : Int32).toNatClampNeg) + 1))))))) : eb_Ct (d + 1) 187 [.ref s_MO] h Q :=
  eb_bodyQ (by decide) ok_X11_ends (Nat.le_of_ble_eq_true rfl) (b_X11_ends_0 (h0 := h)   ko w)
theorem b_X11_valley_0 {d : Nat} {h0 h : eb_H} {Q : Option Value → eb_H → Prop} (x1 : Int32)  (ko : eb_KO h) (w : (((¬ (x1.toInt64 < 0)) ∧ (¬ (((eb_I (eb_sI h s_MO 0 0) s_MO 5).toInt64) < x1.toInt64)) → eb_Ct d 158 [.ref s_m_fresh] (eb_sI (eb_sI (eb_sI (eb_sI (eb_sI h s_MO 0 0) s_MO 8 x1) s_MO 5 0) s_MO 7 0) s_MO 11 0) (fun r h4 => r = none ∧ eb_KO h4 ∧ eb_Ct d 164 [.ref s_MO] h4 (fun r h7 => r = none ∧ eb_KO h7 ∧ eb_Ct d 167 [.ref s_MO, .int 0] h7 (fun r h10 => ∃ y11, r = some (.int y11) ∧ eb_KO h10 ∧ ((¬ y11 = 0 → eb_Ct d 168 [.ref s_MO, .int 1, .int 4] h10 (fun r h14 => ∃ y15, r = some (.int y15) ∧ eb_KO h14 ∧ eb_Ct d 168 [.ref s_MO, .int 1, .int 4] (eb_sI h14 s_m_fresh (1 : Int32).toNatClampNeg y15) (fun r h17 => ∃ y18, r = some (.int y18) ∧ eb_KO h17 ∧ eb_Ct d 167 [.ref s_MO, .int 1] (eb_sI h17 s_m_fresh (2 : Int32).toNatClampNeg y18) (fun r h20 => ∃ y21, r = some (.int y21) ∧ eb_KO h20 ∧ ((¬ y21 = 0 → eb_Ct d 168 [.ref s_MO, .int 1, .int 6] h20 (fun r h24 => ∃ y25, r = some (.int y25) ∧ eb_KO h24 ∧ eb_Ct d 187 [.ref s_MO] (eb_sI h24 s_m_fresh (3 : Int32).toNatClampNeg y25) (fun r h27 => r = none ∧ eb_KO h27 ∧ eb_Sn (d + 1) m_X11_valley h0 120 [(0, .ref s_MO)] [] h27 Q))) ∧ (y21 = 0 → eb_Ct d 165 [.ref s_MO, .int 2] h20 (fun r h30 => r = none ∧ eb_KO h30 ∧ eb_Ct d 168 [.ref s_MO, .int 1, .int 6] h30 (fun r h33 => ∃ y34, r = some (.int y34) ∧ eb_KO h33 ∧ eb_Ct d 187 [.ref s_MO] (eb_sI h33 s_m_fresh (3 : Int32).toNatClampNeg y34) (fun r h36 => r = none ∧ eb_KO h36 ∧ eb_Sn (d + 1) m_X11_valley h0 120 [(0, .ref s_MO)] [] h36 Q))))))))) ∧ (y11 = 0 → eb_Ct d 165 [.ref s_MO, .int 2] h10 (fun r h39 => r = none ∧ eb_KO h39 ∧ eb_Ct d 168 [.ref s_MO, .int 1, .int 4] h39 (fun r h42 => ∃ y43, r = some (.int y43) ∧ eb_KO h42 ∧ eb_Ct d 168 [.ref s_MO, .int 1, .int 4] (eb_sI h42 s_m_fresh (1 : Int32).toNatClampNeg y43) (fun r h45 => ∃ y46, r = some (.int y46) ∧ eb_KO h45 ∧ eb_Ct d 167 [.ref s_MO, .int 1] (eb_sI h45 s_m_fresh (2 : Int32).toNatClampNeg y46) (fun r h48 => ∃ y49, r = some (.int y49) ∧ eb_KO h48 ∧ ((¬ y49 = 0 → eb_Ct d 168 [.ref s_MO, .int 1, .int 6] h48 (fun r h52 => ∃ y53, r = some (.int y53) ∧ eb_KO h52 ∧ eb_Ct d 187 [.ref s_MO] (eb_sI h52 s_m_fresh (3 : Int32).toNatClampNeg y53) (fun r h55 => r = none ∧ eb_KO h55 ∧ eb_Sn (d + 1) m_X11_valley h0 120 [(0, .ref s_MO)] [] h55 Q))) ∧ (y49 = 0 → eb_Ct d 165 [.ref s_MO, .int 2] h48 (fun r h58 => r = none ∧ eb_KO h58 ∧ eb_Ct d 168 [.ref s_MO, .int 1, .int 6] h58 (fun r h61 => ∃ y62, r = some (.int y62) ∧ eb_KO h61 ∧ eb_Ct d 187 [.ref s_MO] (eb_sI h61 s_m_fresh (3 : Int32).toNatClampNeg y62) (fun r h64 => r = none ∧ eb_KO h64 ∧ eb_Sn (d + 1) m_X11_valley h0 120 [(0, .ref s_MO)] [] h64 Q))))))))))))))) ∧ (¬ ((¬ (x1.toInt64 < 0)) ∧ (¬ (((eb_I (eb_sI h s_MO 0 0) s_MO 5).toInt64) < x1.toInt64))) → Q (some (.int (-3))) (eb_sI h s_MO 0 0)))) : eb_Sn (d + 1) m_X11_valley h0 0 [(0, .ref s_MO), (1, .int x1)] [] h Q := by
  refine eb_aload_n (pc := 0) (n := 0) (i := 0) rfl rfl rfl ?_
  refine eb_iconst (pc := 1) (n := 0) (v := 0) rfl rfl ?_
  refine eb_putI (pc := 2) rfl rfl (by decide) (by decide) rfl rfl ⟨rfl, rfl⟩ ?_
  refine eb_iload_n (pc := 5) (n := 1) (i := 1) rfl rfl rfl ?_
  refine eb_i2l (pc := 6) rfl ?_
  refine eb_lconst (pc := 7) (n := 0) (v := 0) rfl rfl ?_
  refine eb_aload_n (pc := 8) (n := 0) (i := 0) rfl rfl rfl ?_
  refine eb_getI (pc := 9) rfl rfl (by decide) (by decide) rfl ?_
  refine eb_i2l (pc := 12) rfl ?_
  refine eb_joinI (pc2 := 16) (ls2 := [(0, .ref s_MO), (1, .int x1)]) (st2 := []) (v := eb_q ((¬ (x1.toInt64 < 0)) ∧ (¬ (((eb_I (eb_sI h s_MO 0 0) s_MO 5).toInt64) < x1.toInt64)))) ?_ (fun jj67 => ?_)
  · refine eb_if_ne (pc := 16) (tgt := 22) rfl (by decide) (fun c3 => ?_) (fun c3 => ?_)
    · replace c3 := eb_q1.mp c3
      replace w := w.1 c3
      refine eb_aload_n (pc := 22) (n := 0) (i := 0) rfl rfl rfl ?_
      refine eb_iload_n (pc := 23) (n := 1) (i := 1) rfl rfl rfl ?_
      refine eb_putI (pc := 24) rfl rfl (by decide) (by decide) rfl rfl ⟨rfl, rfl⟩ ?_
      refine eb_aload_n (pc := 27) (n := 0) (i := 0) rfl rfl rfl ?_
      refine eb_iconst (pc := 28) (n := 0) (v := 0) rfl rfl ?_
      refine eb_putI (pc := 29) rfl rfl (by decide) (by decide) rfl rfl ⟨rfl, rfl⟩ ?_
      refine eb_aload_n (pc := 32) (n := 0) (i := 0) rfl rfl rfl ?_
      refine eb_iconst (pc := 33) (n := 0) (v := 0) rfl rfl ?_
      refine eb_putI (pc := 34) rfl rfl (by decide) (by decide) rfl rfl ⟨rfl, rfl⟩ ?_
      refine eb_aload_n (pc := 37) (n := 0) (i := 0) rfl rfl rfl ?_
      refine eb_iconst (pc := 38) (n := 0) (v := 0) rfl rfl ?_
      refine eb_putI (pc := 39) rfl rfl (by decide) (by decide) rfl rfl ⟨rfl, rfl⟩ ?_
      refine eb_aload_n (pc := 42) (n := 0) (i := 0) rfl rfl rfl ?_
      refine eb_getR (pc := 43) rfl rfl (by decide) (by decide) rfl (ko_s_MO_4 ko) ?_
      refine eb_ctS (pc := 46) (As := [.ref s_m_fresh]) (rest := []) rfl (by decide) (by decide) rfl rfl (Nat.le_of_ble_eq_true rfl) ?_
      refine eb_Ct.mono w ?_
      rintro r h4 ⟨rfl, ko6, w⟩
      change eb_Sn _ _ _ 49 _ [] _ _
      refine eb_aload_n (pc := 49) (n := 0) (i := 0) rfl rfl rfl ?_
      refine eb_ctV (pc := 50) (As := []) (rest := []) rfl (by decide) rfl rfl (by decide) rfl (Nat.le_of_ble_eq_true rfl) ?_
      refine eb_Ct.mono w ?_
      rintro r h7 ⟨rfl, ko9, w⟩
      change eb_Sn _ _ _ 53 _ [] _ _
      refine eb_aload_n (pc := 53) (n := 0) (i := 0) rfl rfl rfl ?_
      refine eb_iconst (pc := 54) (n := 0) (v := 0) rfl rfl ?_
      refine eb_ctV (pc := 55) (As := [.int 0]) (rest := []) rfl (by decide) rfl rfl (by decide) rfl (Nat.le_of_ble_eq_true rfl) ?_
      refine eb_Ct.mono w ?_
      rintro r h10 ⟨y11, rfl, ko12, w⟩
      change eb_Sn _ _ _ 58 _ [.int y11] _ _
      refine eb_if_ne (pc := 58) (tgt := 66) rfl (by decide) (fun c13 => ?_) (fun c13 => ?_)
      · replace w := w.1 c13
        refine eb_aload_n (pc := 66) (n := 0) (i := 0) rfl rfl rfl ?_
        refine eb_getR (pc := 67) rfl rfl (by decide) (by decide) rfl (ko_s_MO_4 ko12) ?_
        refine eb_iconst (pc := 70) (n := 1) (v := 1) rfl rfl ?_
        refine eb_aload_n (pc := 71) (n := 0) (i := 0) rfl rfl rfl ?_
        refine eb_iconst (pc := 72) (n := 1) (v := 1) rfl rfl ?_
        refine eb_iconst (pc := 73) (n := 4) (v := 4) rfl rfl ?_
        refine eb_ctV (pc := 74) (As := [.int 1, .int 4]) (rest := [.int 1, .ref s_m_fresh]) rfl (by decide) rfl rfl (by decide) rfl (Nat.le_of_ble_eq_true rfl) ?_
        refine eb_Ct.mono w ?_
        rintro r h14 ⟨y15, rfl, ko16, w⟩
        change eb_Sn _ _ _ 77 _ [.int y15, .int 1, .ref s_m_fresh] _ _
        refine eb_iastore (pc := 77) rfl rfl (by decide) (by unfold vp_in; decide) ?_
        refine eb_aload_n (pc := 78) (n := 0) (i := 0) rfl rfl rfl ?_
        refine eb_getR (pc := 79) rfl rfl (by decide) (by decide) rfl (ko_s_MO_4 ko16) ?_
        refine eb_iconst (pc := 82) (n := 2) (v := 2) rfl rfl ?_
        refine eb_aload_n (pc := 83) (n := 0) (i := 0) rfl rfl rfl ?_
        refine eb_iconst (pc := 84) (n := 1) (v := 1) rfl rfl ?_
        refine eb_iconst (pc := 85) (n := 4) (v := 4) rfl rfl ?_
        refine eb_ctV (pc := 86) (As := [.int 1, .int 4]) (rest := [.int 2, .ref s_m_fresh]) rfl (by decide) rfl rfl (by decide) rfl (Nat.le_of_ble_eq_true rfl) ?_
        refine eb_Ct.mono w ?_
        rintro r h17 ⟨y18, rfl, ko19, w⟩
        change eb_Sn _ _ _ 89 _ [.int y18, .int 2, .ref s_m_fresh] _ _
        refine eb_iastore (pc := 89) rfl rfl (by decide) (by unfold vp_in; decide) ?_
        refine eb_aload_n (pc := 90) (n := 0) (i := 0) rfl rfl rfl ?_
        refine eb_iconst (pc := 91) (n := 1) (v := 1) rfl rfl ?_
        refine eb_ctV (pc := 92) (As := [.int 1]) (rest := []) rfl (by decide) rfl rfl (by decide) rfl (Nat.le_of_ble_eq_true rfl) ?_
        refine eb_Ct.mono w ?_
        rintro r h20 ⟨y21, rfl, ko22, w⟩
        change eb_Sn _ _ _ 95 _ [.int y21] _ _
        refine eb_if_ne (pc := 95) (tgt := 103) rfl (by decide) (fun c23 => ?_) (fun c23 => ?_)
        · replace w := w.1 c23
          refine eb_aload_n (pc := 103) (n := 0) (i := 0) rfl rfl rfl ?_
          refine eb_getR (pc := 104) rfl rfl (by decide) (by decide) rfl (ko_s_MO_4 ko22) ?_
          refine eb_iconst (pc := 107) (n := 3) (v := 3) rfl rfl ?_
          refine eb_aload_n (pc := 108) (n := 0) (i := 0) rfl rfl rfl ?_
          refine eb_iconst (pc := 109) (n := 1) (v := 1) rfl rfl ?_
          refine eb_bipush (pc := 110) (n := 6) (v := 6) rfl rfl ?_
          refine eb_ctV (pc := 112) (As := [.int 1, .int 6]) (rest := [.int 3, .ref s_m_fresh]) rfl (by decide) rfl rfl (by decide) rfl (Nat.le_of_ble_eq_true rfl) ?_
          refine eb_Ct.mono w ?_
          rintro r h24 ⟨y25, rfl, ko26, w⟩
          change eb_Sn _ _ _ 115 _ [.int y25, .int 3, .ref s_m_fresh] _ _
          refine eb_iastore (pc := 115) rfl rfl (by decide) (by unfold vp_in; decide) ?_
          refine eb_aload_n (pc := 116) (n := 0) (i := 0) rfl rfl rfl ?_
          refine eb_ctV (pc := 117) (As := []) (rest := []) rfl (by decide) rfl rfl (by decide) rfl (Nat.le_of_ble_eq_true rfl) ?_
          refine eb_Ct.mono w ?_
          rintro r h27 ⟨rfl, ko29, w⟩
          change eb_Sn _ _ _ 120 _ [] _ _
          exact eb_pick [0] rfl w
        · replace w := w.2 c23
          refine eb_aload_n (pc := 98) (n := 0) (i := 0) rfl rfl rfl ?_
          refine eb_iconst (pc := 99) (n := 2) (v := 2) rfl rfl ?_
          refine eb_ctV (pc := 100) (As := [.int 2]) (rest := []) rfl (by decide) rfl rfl (by decide) rfl (Nat.le_of_ble_eq_true rfl) ?_
          refine eb_Ct.mono w ?_
          rintro r h30 ⟨rfl, ko32, w⟩
          change eb_Sn _ _ _ 103 _ [] _ _
          refine eb_aload_n (pc := 103) (n := 0) (i := 0) rfl rfl rfl ?_
          refine eb_getR (pc := 104) rfl rfl (by decide) (by decide) rfl (ko_s_MO_4 ko32) ?_
          refine eb_iconst (pc := 107) (n := 3) (v := 3) rfl rfl ?_
          refine eb_aload_n (pc := 108) (n := 0) (i := 0) rfl rfl rfl ?_
          refine eb_iconst (pc := 109) (n := 1) (v := 1) rfl rfl ?_
          refine eb_bipush (pc := 110) (n := 6) (v := 6) rfl rfl ?_
          refine eb_ctV (pc := 112) (As := [.int 1, .int 6]) (rest := [.int 3, .ref s_m_fresh]) rfl (by decide) rfl rfl (by decide) rfl (Nat.le_of_ble_eq_true rfl) ?_
          refine eb_Ct.mono w ?_
          rintro r h33 ⟨y34, rfl, ko35, w⟩
          change eb_Sn _ _ _ 115 _ [.int y34, .int 3, .ref s_m_fresh] _ _
          refine eb_iastore (pc := 115) rfl rfl (by decide) (by unfold vp_in; decide) ?_
          refine eb_aload_n (pc := 116) (n := 0) (i := 0) rfl rfl rfl ?_
          refine eb_ctV (pc := 117) (As := []) (rest := []) rfl (by decide) rfl rfl (by decide) rfl (Nat.le_of_ble_eq_true rfl) ?_
          refine eb_Ct.mono w ?_
          rintro r h36 ⟨rfl, ko38, w⟩
          change eb_Sn _ _ _ 120 _ [] _ _
          exact eb_pick [0] rfl w
      · replace w := w.2 c13
        refine eb_aload_n (pc := 61) (n := 0) (i := 0) rfl rfl rfl ?_
        refine eb_iconst (pc := 62) (n := 2) (v := 2) rfl rfl ?_
        refine eb_ctV (pc := 63) (As := [.int 2]) (rest := []) rfl (by decide) rfl rfl (by decide) rfl (Nat.le_of_ble_eq_true rfl) ?_
        refine eb_Ct.mono w ?_
        rintro r h39 ⟨rfl, ko41, w⟩
        change eb_Sn _ _ _ 66 _ [] _ _
        refine eb_aload_n (pc := 66) (n := 0) (i := 0) rfl rfl rfl ?_
        refine eb_getR (pc := 67) rfl rfl (by decide) (by decide) rfl (ko_s_MO_4 ko41) ?_
        refine eb_iconst (pc := 70) (n := 1) (v := 1) rfl rfl ?_
        refine eb_aload_n (pc := 71) (n := 0) (i := 0) rfl rfl rfl ?_
        refine eb_iconst (pc := 72) (n := 1) (v := 1) rfl rfl ?_
        refine eb_iconst (pc := 73) (n := 4) (v := 4) rfl rfl ?_
        refine eb_ctV (pc := 74) (As := [.int 1, .int 4]) (rest := [.int 1, .ref s_m_fresh]) rfl (by decide) rfl rfl (by decide) rfl (Nat.le_of_ble_eq_true rfl) ?_
        refine eb_Ct.mono w ?_
        rintro r h42 ⟨y43, rfl, ko44, w⟩
        change eb_Sn _ _ _ 77 _ [.int y43, .int 1, .ref s_m_fresh] _ _
        refine eb_iastore (pc := 77) rfl rfl (by decide) (by unfold vp_in; decide) ?_
        refine eb_aload_n (pc := 78) (n := 0) (i := 0) rfl rfl rfl ?_
        refine eb_getR (pc := 79) rfl rfl (by decide) (by decide) rfl (ko_s_MO_4 ko44) ?_
        refine eb_iconst (pc := 82) (n := 2) (v := 2) rfl rfl ?_
        refine eb_aload_n (pc := 83) (n := 0) (i := 0) rfl rfl rfl ?_
        refine eb_iconst (pc := 84) (n := 1) (v := 1) rfl rfl ?_
        refine eb_iconst (pc := 85) (n := 4) (v := 4) rfl rfl ?_
        refine eb_ctV (pc := 86) (As := [.int 1, .int 4]) (rest := [.int 2, .ref s_m_fresh]) rfl (by decide) rfl rfl (by decide) rfl (Nat.le_of_ble_eq_true rfl) ?_
        refine eb_Ct.mono w ?_
        rintro r h45 ⟨y46, rfl, ko47, w⟩
        change eb_Sn _ _ _ 89 _ [.int y46, .int 2, .ref s_m_fresh] _ _
        refine eb_iastore (pc := 89) rfl rfl (by decide) (by unfold vp_in; decide) ?_
        refine eb_aload_n (pc := 90) (n := 0) (i := 0) rfl rfl rfl ?_
        refine eb_iconst (pc := 91) (n := 1) (v := 1) rfl rfl ?_
        refine eb_ctV (pc := 92) (As := [.int 1]) (rest := []) rfl (by decide) rfl rfl (by decide) rfl (Nat.le_of_ble_eq_true rfl) ?_
        refine eb_Ct.mono w ?_
        rintro r h48 ⟨y49, rfl, ko50, w⟩
        change eb_Sn _ _ _ 95 _ [.int y49] _ _
        refine eb_if_ne (pc := 95) (tgt := 103) rfl (by decide) (fun c51 => ?_) (fun c51 => ?_)
        · replace w := w.1 c51
          refine eb_aload_n (pc := 103) (n := 0) (i := 0) rfl rfl rfl ?_
          refine eb_getR (pc := 104) rfl rfl (by decide) (by decide) rfl (ko_s_MO_4 ko50) ?_
          refine eb_iconst (pc := 107) (n := 3) (v := 3) rfl rfl ?_
          refine eb_aload_n (pc := 108) (n := 0) (i := 0) rfl rfl rfl ?_
          refine eb_iconst (pc := 109) (n := 1) (v := 1) rfl rfl ?_
          refine eb_bipush (pc := 110) (n := 6) (v := 6) rfl rfl ?_
          refine eb_ctV (pc := 112) (As := [.int 1, .int 6]) (rest := [.int 3, .ref s_m_fresh]) rfl (by decide) rfl rfl (by decide) rfl (Nat.le_of_ble_eq_true rfl) ?_
          refine eb_Ct.mono w ?_
          rintro r h52 ⟨y53, rfl, ko54, w⟩
          change eb_Sn _ _ _ 115 _ [.int y53, .int 3, .ref s_m_fresh] _ _
          refine eb_iastore (pc := 115) rfl rfl (by decide) (by unfold vp_in; decide) ?_
          refine eb_aload_n (pc := 116) (n := 0) (i := 0) rfl rfl rfl ?_
          refine eb_ctV (pc := 117) (As := []) (rest := []) rfl (by decide) rfl rfl (by decide) rfl (Nat.le_of_ble_eq_true rfl) ?_
          refine eb_Ct.mono w ?_
          rintro r h55 ⟨rfl, ko57, w⟩
          change eb_Sn _ _ _ 120 _ [] _ _
          exact eb_pick [0] rfl w
        · replace w := w.2 c51
          refine eb_aload_n (pc := 98) (n := 0) (i := 0) rfl rfl rfl ?_
          refine eb_iconst (pc := 99) (n := 2) (v := 2) rfl rfl ?_
          refine eb_ctV (pc := 100) (As := [.int 2]) (rest := []) rfl (by decide) rfl rfl (by decide) rfl (Nat.le_of_ble_eq_true rfl) ?_
          refine eb_Ct.mono w ?_
          rintro r h58 ⟨rfl, ko60, w⟩
          change eb_Sn _ _ _ 103 _ [] _ _
          refine eb_aload_n (pc := 103) (n := 0) (i := 0) rfl rfl rfl ?_
          refine eb_getR (pc := 104) rfl rfl (by decide) (by decide) rfl (ko_s_MO_4 ko60) ?_
          refine eb_iconst (pc := 107) (n := 3) (v := 3) rfl rfl ?_
          refine eb_aload_n (pc := 108) (n := 0) (i := 0) rfl rfl rfl ?_
          refine eb_iconst (pc := 109) (n := 1) (v := 1) rfl rfl ?_
          refine eb_bipush (pc := 110) (n := 6) (v := 6) rfl rfl ?_
          refine eb_ctV (pc := 112) (As := [.int 1, .int 6]) (rest := [.int 3, .ref s_m_fresh]) rfl (by decide) rfl rfl (by decide) rfl (Nat.le_of_ble_eq_true rfl) ?_
          refine eb_Ct.mono w ?_
          rintro r h61 ⟨y62, rfl, ko63, w⟩
          change eb_Sn _ _ _ 115 _ [.int y62, .int 3, .ref s_m_fresh] _ _
          refine eb_iastore (pc := 115) rfl rfl (by decide) (by unfold vp_in; decide) ?_
          refine eb_aload_n (pc := 116) (n := 0) (i := 0) rfl rfl rfl ?_
          refine eb_ctV (pc := 117) (As := []) (rest := []) rfl (by decide) rfl rfl (by decide) rfl (Nat.le_of_ble_eq_true rfl) ?_
          refine eb_Ct.mono w ?_
          rintro r h64 ⟨rfl, ko66, w⟩
          change eb_Sn _ _ _ 120 _ [] _ _
          exact eb_pick [0] rfl w
    · replace c3 := eb_q0.mp c3
      replace w := w.2 c3
      refine eb_bipush (pc := 19) (n := -3) (v := (-3)) rfl rfl ?_
      exact eb_ireturn (pc := 21) rfl rfl rfl w
  refine eb_ctS (pc := 13) (As := [.long x1.toInt64, .long 0, .long ((eb_I (eb_sI h s_MO 0 0) s_MO 5).toInt64)]) (rest := []) rfl (by decide) (by decide) rfl rfl (Nat.le_of_ble_eq_true rfl) ?_
  refine eb_bodyQ (by decide) ok_X11_within (Nat.le_of_ble_eq_true rfl) ?_
  change eb_Sn _ m_X11_within _ 0 [(0, .long x1.toInt64), (2, .long 0), (4, .long ((eb_I (eb_sI h s_MO 0 0) s_MO 5).toInt64))] [] _ _
  refine eb_lload_n (pc := 0) (n := 0) (i := 0) rfl rfl rfl ?_
  refine eb_lload_n (pc := 1) (n := 2) (i := 2) rfl rfl rfl ?_
  refine eb_lcmp (pc := 2) rfl ?_
  refine eb_if_lt (pc := 3) (tgt := 17) rfl (by decide) (fun c1 => ?_) (fun c1 => ?_)
  · replace c1 := eb_lc_lt.mp c1
    refine eb_iconst (pc := 17) (n := 0) (v := 0) rfl rfl ?_
    refine eb_ireturn (pc := 18) rfl rfl (by decide) ?_
    change eb_Sn _ _ _ 16 _ _ _ _
    exact jj67 0 (eb_qf (fun z => z.1 c1)).symm
  · replace c1 := (fun hh => mt eb_lc_lt.mpr hh) c1
    refine eb_lload_n (pc := 6) (n := 0) (i := 0) rfl rfl rfl ?_
    refine eb_lload (pc := 7) (i := 4) rfl rfl ?_
    refine eb_lcmp (pc := 9) rfl ?_
    refine eb_if_gt (pc := 10) (tgt := 17) rfl (by decide) (fun c2 => ?_) (fun c2 => ?_)
    · replace c2 := eb_lc_gt.mp c2
      refine eb_iconst (pc := 17) (n := 0) (v := 0) rfl rfl ?_
      refine eb_ireturn (pc := 18) rfl rfl (by decide) ?_
      change eb_Sn _ _ _ 16 _ _ _ _
      exact jj67 0 (eb_qf (fun z => (fun z => z c2) z.2)).symm
    · replace c2 := (fun hh => mt eb_lc_gt.mpr hh) c2
      refine eb_iconst (pc := 13) (n := 1) (v := 1) rfl rfl ?_
      refine eb_goto (pc := 14) (tgt := 18) rfl (by decide) ?_
      refine eb_ireturn (pc := 18) rfl rfl (by decide) ?_
      change eb_Sn _ _ _ 16 _ _ _ _
      exact jj67 1 (eb_qt (⟨c1, c2⟩)).symm
theorem b_X11_valley_120 {d : Nat} {h0 h : eb_H} {Q : Option Value → eb_H → Prop}   (ko : eb_KO h) (w : ((¬ (eb_I h s_MO 11) = 0 → (((eb_I (eb_sI (eb_sI h s_MO 13 (eb_I h s_MO 11)) s_MO 14 (if (eb_I (eb_sI h s_MO 13 (eb_I h s_MO 11)) s_MO 11) = 0 then (-1) else eb_I (eb_sI h s_MO 13 (eb_I h s_MO 11)) s_MO 12 : Int32)) s_MO 11) = 0 → eb_Sn (d + 1) m_X11_valley h0 191 [(0, .ref s_MO), (2, .int 0)] [] (eb_sI (eb_sI h s_MO 13 (eb_I h s_MO 11)) s_MO 14 (if (eb_I (eb_sI h s_MO 13 (eb_I h s_MO 11)) s_MO 11) = 0 then (-1) else eb_I (eb_sI h s_MO 13 (eb_I h s_MO 11)) s_MO 12 : Int32)) Q) ∧ (¬ ((eb_I (eb_sI (eb_sI h s_MO 13 (eb_I h s_MO 11)) s_MO 14 (if (eb_I (eb_sI h s_MO 13 (eb_I h s_MO 11)) s_MO 11) = 0 then (-1) else eb_I (eb_sI h s_MO 13 (eb_I h s_MO 11)) s_MO 12 : Int32)) s_MO 11) = 0) → Q (some (.int (((-30) : Int32) - (eb_I (eb_sI (eb_sI h s_MO 13 (eb_I h s_MO 11)) s_MO 14 (if (eb_I (eb_sI h s_MO 13 (eb_I h s_MO 11)) s_MO 11) = 0 then (-1) else eb_I (eb_sI h s_MO 13 (eb_I h s_MO 11)) s_MO 12 : Int32)) s_MO 11)))) (eb_sI (eb_sI h s_MO 13 (eb_I h s_MO 11)) s_MO 14 (if (eb_I (eb_sI h s_MO 13 (eb_I h s_MO 11)) s_MO 11) = 0 then (-1) else eb_I (eb_sI h s_MO 13 (eb_I h s_MO 11)) s_MO 12 : Int32))))) ∧ ((eb_I h s_MO 11) = 0 → (((eb_I h s_MO 9) = (24 : Int32) → (((eb_I (eb_sI (eb_sI h s_MO 13 (eb_I h s_MO 11)) s_MO 14 (if (eb_I (eb_sI h s_MO 13 (eb_I h s_MO 11)) s_MO 11) = 0 then (-1) else eb_I (eb_sI h s_MO 13 (eb_I h s_MO 11)) s_MO 12 : Int32)) s_MO 11) = 0 → eb_Sn (d + 1) m_X11_valley h0 191 [(0, .ref s_MO), (2, .int 0)] [] (eb_sI (eb_sI h s_MO 13 (eb_I h s_MO 11)) s_MO 14 (if (eb_I (eb_sI h s_MO 13 (eb_I h s_MO 11)) s_MO 11) = 0 then (-1) else eb_I (eb_sI h s_MO 13 (eb_I h s_MO 11)) s_MO 12 : Int32)) Q) ∧ (¬ ((eb_I (eb_sI (eb_sI h s_MO 13 (eb_I h s_MO 11)) s_MO 14 (if (eb_I (eb_sI h s_MO 13 (eb_I h s_MO 11)) s_MO 11) = 0 then (-1) else eb_I (eb_sI h s_MO 13 (eb_I h s_MO 11)) s_MO 12 : Int32)) s_MO 11) = 0) → Q (some (.int (((-30) : Int32) - (eb_I (eb_sI (eb_sI h s_MO 13 (eb_I h s_MO 11)) s_MO 14 (if (eb_I (eb_sI h s_MO 13 (eb_I h s_MO 11)) s_MO 11) = 0 then (-1) else eb_I (eb_sI h s_MO 13 (eb_I h s_MO 11)) s_MO 12 : Int32)) s_MO 11)))) (eb_sI (eb_sI h s_MO 13 (eb_I h s_MO 11)) s_MO 14 (if (eb_I (eb_sI h s_MO 13 (eb_I h s_MO 11)) s_MO 11) = 0 then (-1) else eb_I (eb_sI h s_MO 13 (eb_I h s_MO 11)) s_MO 12 : Int32))))) ∧ (¬ ((eb_I h s_MO 9) = (24 : Int32)) → eb_Ct d 186 [.ref s_MO] h (fun r h11 => r = none ∧ eb_KO h11 ∧ eb_Ct d 187 [.ref s_MO] h11 (fun r h14 => r = none ∧ eb_KO h14 ∧ eb_Sn (d + 1) m_X11_valley h0 120 [(0, .ref s_MO)] [] h14 Q))))))) : eb_Sn (d + 1) m_X11_valley h0 120 [(0, .ref s_MO)] [] h Q := by
  refine eb_aload_n (pc := 120) (n := 0) (i := 0) rfl rfl rfl ?_
  refine eb_getI (pc := 121) rfl rfl (by decide) (by decide) rfl ?_
  refine eb_if_ne (pc := 124) (tgt := 147) rfl (by decide) (fun c1 => ?_) (fun c1 => ?_)
  · replace w := w.1 c1
    refine eb_aload_n (pc := 147) (n := 0) (i := 0) rfl rfl rfl ?_
    refine eb_aload_n (pc := 148) (n := 0) (i := 0) rfl rfl rfl ?_
    refine eb_getI (pc := 149) rfl rfl (by decide) (by decide) rfl ?_
    refine eb_putI (pc := 152) rfl rfl (by decide) (by decide) rfl rfl ⟨rfl, rfl⟩ ?_
    refine eb_aload_n (pc := 155) (n := 0) (i := 0) rfl rfl rfl ?_
    refine eb_aload_n (pc := 156) (n := 0) (i := 0) rfl rfl rfl ?_
    refine eb_getI (pc := 157) rfl rfl (by decide) (by decide) rfl ?_
    refine eb_joinI (pc2 := 171) (ls2 := [(0, .ref s_MO)]) (st2 := [.ref s_MO]) (v := (if (eb_I (eb_sI h s_MO 13 (eb_I h s_MO 11)) s_MO 11) = 0 then (-1) else eb_I (eb_sI h s_MO 13 (eb_I h s_MO 11)) s_MO 12 : Int32)) ?_ (fun jj3 => ?_)
    · refine eb_putI (pc := 171) rfl rfl (by decide) (by decide) rfl rfl ⟨rfl, rfl⟩ ?_
      refine eb_aload_n (pc := 174) (n := 0) (i := 0) rfl rfl rfl ?_
      refine eb_getI (pc := 175) rfl rfl (by decide) (by decide) rfl ?_
      refine eb_if_eq (pc := 178) (tgt := 189) rfl (by decide) (fun c5 => ?_) (fun c5 => ?_)
      · replace w := w.1 c5
        refine eb_iconst (pc := 189) (n := 0) (v := 0) rfl rfl ?_
        refine eb_istore_n (pc := 190) (n := 2) (i := 2) (ls2 := [(2, .int 0), (0, .ref s_MO)]) rfl (Nat.le_of_ble_eq_true rfl) rfl rfl ?_
        exact eb_pick [1, 0] rfl w
      · replace w := w.2 c5
        refine eb_bipush (pc := 181) (n := -30) (v := (-30)) rfl rfl ?_
        refine eb_aload_n (pc := 183) (n := 0) (i := 0) rfl rfl rfl ?_
        refine eb_getI (pc := 184) rfl rfl (by decide) (by decide) rfl ?_
        refine eb_isub (pc := 187) rfl ?_
        exact eb_ireturn (pc := 188) rfl rfl rfl w
    refine eb_if_ne (pc := 160) (tgt := 167) rfl (by decide) (fun c2 => ?_) (fun c2 => ?_)
    · refine eb_aload_n (pc := 167) (n := 0) (i := 0) rfl rfl rfl ?_
      refine eb_getI (pc := 168) rfl rfl (by decide) (by decide) rfl ?_
      exact jj3 _ (by simp only [if_neg c2])
    · refine eb_iconst (pc := 163) (n := -1) (v := (-1)) rfl rfl ?_
      refine eb_goto (pc := 164) (tgt := 171) rfl (by decide) ?_
      exact jj3 _ (by simp only [if_pos c2])
  · replace w := w.2 c1
    refine eb_aload_n (pc := 127) (n := 0) (i := 0) rfl rfl rfl ?_
    refine eb_getI (pc := 128) rfl rfl (by decide) (by decide) rfl ?_
    refine eb_bipush (pc := 131) (n := 24) (v := 24) rfl rfl ?_
    refine eb_icmp_eq (pc := 133) (tgt := 147) rfl (by decide) (fun c6 => ?_) (fun c6 => ?_)
    · replace w := w.1 c6
      refine eb_aload_n (pc := 147) (n := 0) (i := 0) rfl rfl rfl ?_
      refine eb_aload_n (pc := 148) (n := 0) (i := 0) rfl rfl rfl ?_
      refine eb_getI (pc := 149) rfl rfl (by decide) (by decide) rfl ?_
      refine eb_putI (pc := 152) rfl rfl (by decide) (by decide) rfl rfl ⟨rfl, rfl⟩ ?_
      refine eb_aload_n (pc := 155) (n := 0) (i := 0) rfl rfl rfl ?_
      refine eb_aload_n (pc := 156) (n := 0) (i := 0) rfl rfl rfl ?_
      refine eb_getI (pc := 157) rfl rfl (by decide) (by decide) rfl ?_
      refine eb_joinI (pc2 := 171) (ls2 := [(0, .ref s_MO)]) (st2 := [.ref s_MO]) (v := (if (eb_I (eb_sI h s_MO 13 (eb_I h s_MO 11)) s_MO 11) = 0 then (-1) else eb_I (eb_sI h s_MO 13 (eb_I h s_MO 11)) s_MO 12 : Int32)) ?_ (fun jj8 => ?_)
      · refine eb_putI (pc := 171) rfl rfl (by decide) (by decide) rfl rfl ⟨rfl, rfl⟩ ?_
        refine eb_aload_n (pc := 174) (n := 0) (i := 0) rfl rfl rfl ?_
        refine eb_getI (pc := 175) rfl rfl (by decide) (by decide) rfl ?_
        refine eb_if_eq (pc := 178) (tgt := 189) rfl (by decide) (fun c10 => ?_) (fun c10 => ?_)
        · replace w := w.1 c10
          refine eb_iconst (pc := 189) (n := 0) (v := 0) rfl rfl ?_
          refine eb_istore_n (pc := 190) (n := 2) (i := 2) (ls2 := [(2, .int 0), (0, .ref s_MO)]) rfl (Nat.le_of_ble_eq_true rfl) rfl rfl ?_
          exact eb_pick [1, 0] rfl w
        · replace w := w.2 c10
          refine eb_bipush (pc := 181) (n := -30) (v := (-30)) rfl rfl ?_
          refine eb_aload_n (pc := 183) (n := 0) (i := 0) rfl rfl rfl ?_
          refine eb_getI (pc := 184) rfl rfl (by decide) (by decide) rfl ?_
          refine eb_isub (pc := 187) rfl ?_
          exact eb_ireturn (pc := 188) rfl rfl rfl w
      refine eb_if_ne (pc := 160) (tgt := 167) rfl (by decide) (fun c7 => ?_) (fun c7 => ?_)
      · refine eb_aload_n (pc := 167) (n := 0) (i := 0) rfl rfl rfl ?_
        refine eb_getI (pc := 168) rfl rfl (by decide) (by decide) rfl ?_
        exact jj8 _ (by simp only [if_neg c7])
      · refine eb_iconst (pc := 163) (n := -1) (v := (-1)) rfl rfl ?_
        refine eb_goto (pc := 164) (tgt := 171) rfl (by decide) ?_
        exact jj8 _ (by simp only [if_pos c7])
    · replace w := w.2 c6
      refine eb_aload_n (pc := 136) (n := 0) (i := 0) rfl rfl rfl ?_
      refine eb_ctV (pc := 137) (As := []) (rest := []) rfl (by decide) rfl rfl (by decide) rfl (Nat.le_of_ble_eq_true rfl) ?_
      refine eb_Ct.mono w ?_
      rintro r h11 ⟨rfl, ko13, w⟩
      change eb_Sn _ _ _ 140 _ [] _ _
      refine eb_aload_n (pc := 140) (n := 0) (i := 0) rfl rfl rfl ?_
      refine eb_ctV (pc := 141) (As := []) (rest := []) rfl (by decide) rfl rfl (by decide) rfl (Nat.le_of_ble_eq_true rfl) ?_
      refine eb_Ct.mono w ?_
      rintro r h14 ⟨rfl, ko16, w⟩
      change eb_Sn _ _ _ 144 _ [] _ _
      refine eb_goto (pc := 144) (tgt := 120) rfl (by decide) ?_
      exact eb_pick [0] rfl w
theorem b_X11_valley_191 {d : Nat} {h0 h : eb_H} {Q : Option Value → eb_H → Prop} (x2 : Int32)  (ko : eb_KO h) (w : (((1164 : Int32) ≤ x2 → Q (some (.int (eb_I h s_m_all (0 : Int32).toNatClampNeg))) h) ∧ (¬ ((1164 : Int32) ≤ x2) → (vp_in x2 1164) ∧ (vp_in x2 3492) ∧ eb_Sn (d + 1) m_X11_valley h0 191 [(0, .ref s_MO), (2, .int (x2 + 1))] [] (eb_sI h s_m_all x2.toNatClampNeg (eb_I h s_m_fresh x2.toNatClampNeg)) Q))) : eb_Sn (d + 1) m_X11_valley h0 191 [(0, .ref s_MO), (2, .int x2)] [] h Q := by
  refine eb_iload_n (pc := 191) (n := 2) (i := 2) rfl rfl rfl ?_
  refine eb_sipush (pc := 192) (n := 1164) (v := 1164) rfl rfl ?_
  refine eb_icmp_ge (pc := 195) (tgt := 216) rfl (by decide) (fun c1 => ?_) (fun c1 => ?_)
  · replace w := w.1 c1
    refine eb_aload_n (pc := 216) (n := 0) (i := 0) rfl rfl rfl ?_
    refine eb_getR (pc := 217) rfl rfl (by decide) (by decide) rfl (ko_s_MO_1 ko) ?_
    refine eb_iconst (pc := 220) (n := 0) (v := 0) rfl rfl ?_
    refine eb_iaload (pc := 221) rfl rfl (by decide) (by unfold vp_in; decide) ?_
    exact eb_ireturn (pc := 222) rfl rfl rfl w
  · replace w := w.2 c1
    refine eb_aload_n (pc := 198) (n := 0) (i := 0) rfl rfl rfl ?_
    refine eb_getR (pc := 199) rfl rfl (by decide) (by decide) rfl (ko_s_MO_1 ko) ?_
    refine eb_iload_n (pc := 202) (n := 2) (i := 2) rfl rfl rfl ?_
    refine eb_aload_n (pc := 203) (n := 0) (i := 0) rfl rfl rfl ?_
    refine eb_getR (pc := 204) rfl rfl (by decide) (by decide) rfl (ko_s_MO_4 ko) ?_
    refine eb_iload_n (pc := 207) (n := 2) (i := 2) rfl rfl rfl ?_
    obtain ⟨c2, w⟩ := w
    refine eb_iaload (pc := 208) rfl rfl (by decide) c2 ?_
    obtain ⟨c3, w⟩ := w
    refine eb_iastore (pc := 209) rfl rfl (by decide) c3 ?_
    refine eb_iinc (pc := 210) (i := 2) (n := 1) (v := x2 + 1) (ls2 := [(2, .int (x2 + 1)), (0, .ref s_MO)]) (Nat.le_of_ble_eq_true rfl) rfl rfl rfl rfl ?_
    refine eb_goto (pc := 213) (tgt := 191) rfl (by decide) ?_
    exact eb_pick [1, 0] rfl w
theorem T_X11_valley {d : Nat} {h : eb_H} {Q : Option Value → eb_H → Prop} (x1 : Int32)  (ko : eb_KO h) (w : (((¬ (x1.toInt64 < 0)) ∧ (¬ (((eb_I (eb_sI h s_MO 0 0) s_MO 5).toInt64) < x1.toInt64)) → eb_Ct d 158 [.ref s_m_fresh] (eb_sI (eb_sI (eb_sI (eb_sI (eb_sI h s_MO 0 0) s_MO 8 x1) s_MO 5 0) s_MO 7 0) s_MO 11 0) (fun r h4 => r = none ∧ eb_KO h4 ∧ eb_Ct d 164 [.ref s_MO] h4 (fun r h7 => r = none ∧ eb_KO h7 ∧ eb_Ct d 167 [.ref s_MO, .int 0] h7 (fun r h10 => ∃ y11, r = some (.int y11) ∧ eb_KO h10 ∧ ((¬ y11 = 0 → eb_Ct d 168 [.ref s_MO, .int 1, .int 4] h10 (fun r h14 => ∃ y15, r = some (.int y15) ∧ eb_KO h14 ∧ eb_Ct d 168 [.ref s_MO, .int 1, .int 4] (eb_sI h14 s_m_fresh (1 : Int32).toNatClampNeg y15) (fun r h17 => ∃ y18, r = some (.int y18) ∧ eb_KO h17 ∧ eb_Ct d 167 [.ref s_MO, .int 1] (eb_sI h17 s_m_fresh (2 : Int32).toNatClampNeg y18) (fun r h20 => ∃ y21, r = some (.int y21) ∧ eb_KO h20 ∧ ((¬ y21 = 0 → eb_Ct d 168 [.ref s_MO, .int 1, .int 6] h20 (fun r h24 => ∃ y25, r = some (.int y25) ∧ eb_KO h24 ∧ eb_Ct d 187 [.ref s_MO] (eb_sI h24 s_m_fresh (3 : Int32).toNatClampNeg y25) (fun r h27 => r = none ∧ eb_KO h27 ∧ eb_Sn (d + 1) m_X11_valley h 120 [(0, .ref s_MO)] [] h27 Q))) ∧ (y21 = 0 → eb_Ct d 165 [.ref s_MO, .int 2] h20 (fun r h30 => r = none ∧ eb_KO h30 ∧ eb_Ct d 168 [.ref s_MO, .int 1, .int 6] h30 (fun r h33 => ∃ y34, r = some (.int y34) ∧ eb_KO h33 ∧ eb_Ct d 187 [.ref s_MO] (eb_sI h33 s_m_fresh (3 : Int32).toNatClampNeg y34) (fun r h36 => r = none ∧ eb_KO h36 ∧ eb_Sn (d + 1) m_X11_valley h 120 [(0, .ref s_MO)] [] h36 Q))))))))) ∧ (y11 = 0 → eb_Ct d 165 [.ref s_MO, .int 2] h10 (fun r h39 => r = none ∧ eb_KO h39 ∧ eb_Ct d 168 [.ref s_MO, .int 1, .int 4] h39 (fun r h42 => ∃ y43, r = some (.int y43) ∧ eb_KO h42 ∧ eb_Ct d 168 [.ref s_MO, .int 1, .int 4] (eb_sI h42 s_m_fresh (1 : Int32).toNatClampNeg y43) (fun r h45 => ∃ y46, r = some (.int y46) ∧ eb_KO h45 ∧ eb_Ct d 167 [.ref s_MO, .int 1] (eb_sI h45 s_m_fresh (2 : Int32).toNatClampNeg y46) (fun r h48 => ∃ y49, r = some (.int y49) ∧ eb_KO h48 ∧ ((¬ y49 = 0 → eb_Ct d 168 [.ref s_MO, .int 1, .int 6] h48 (fun r h52 => ∃ y53, r = some (.int y53) ∧ eb_KO h52 ∧ eb_Ct d 187 [.ref s_MO] (eb_sI h52 s_m_fresh (3 : Int32).toNatClampNeg y53) (fun r h55 => r = none ∧ eb_KO h55 ∧ eb_Sn (d + 1) m_X11_valley h 120 [(0, .ref s_MO)] [] h55 Q))) ∧ (y49 = 0 → eb_Ct d 165 [.ref s_MO, .int 2] h48 (fun r h58 => r = none ∧ eb_KO h58 ∧ eb_Ct d 168 [.ref s_MO, .int 1, .int 6] h58 (fun r h61 => ∃ y62, r = some (.int y62) ∧ eb_KO h61 ∧ eb_Ct d 187 [.ref s_MO] (eb_sI h61 s_m_fresh (3 : Int32).toNatClampNeg y62) (fun r h64 => r = none ∧ eb_KO h64 ∧ eb_Sn (d + 1) m_X11_valley h 120 [(0, .ref s_MO)] [] h64 Q))))))))))))))) ∧ (¬ ((¬ (x1.toInt64 < 0)) ∧ (¬ (((eb_I (eb_sI h s_MO 0 0) s_MO 5).toInt64) < x1.toInt64))) → Q (some (.int (-3))) (eb_sI h s_MO 0 0)))) : eb_Ct (d + 1) 188 [.ref s_MO, .int x1] h Q :=
  eb_bodyQ (by decide) ok_X11_valley (Nat.le_of_ble_eq_true rfl) (b_X11_valley_0 (h0 := h) x1  ko w)
theorem b_X11_fault_0 {d : Nat} {h0 h : eb_H} {Q : Option Value → eb_H → Prop} (x1 : Int32)  (ko : eb_KO h) (w : Q (some (.int (if x1 = 0 then eb_I (eb_sI h s_MO 0 0) s_MO 13 else (if x1 = (1 : Int32) then eb_I (eb_sI h s_MO 0 0) s_MO 14 else (-1)) : Int32))) (eb_sI h s_MO 0 0)) : eb_Sn d m_X11_fault h0 0 [(0, .ref s_MO), (1, .int x1)] [] h Q := by
  refine eb_aload_n (pc := 0) (n := 0) (i := 0) rfl rfl rfl ?_
  refine eb_iconst (pc := 1) (n := 0) (v := 0) rfl rfl ?_
  refine eb_putI (pc := 2) rfl rfl (by decide) (by decide) rfl rfl ⟨rfl, rfl⟩ ?_
  refine eb_iload_n (pc := 5) (n := 1) (i := 1) rfl rfl rfl ?_
  refine eb_joinI (pc2 := 29) (ls2 := [(0, .ref s_MO), (1, .int x1)]) (st2 := []) (v := (if x1 = 0 then eb_I (eb_sI h s_MO 0 0) s_MO 13 else (if x1 = (1 : Int32) then eb_I (eb_sI h s_MO 0 0) s_MO 14 else (-1)) : Int32)) ?_ (fun jj3 => ?_)
  · exact eb_ireturn (pc := 29) rfl rfl rfl w
  refine eb_if_ne (pc := 6) (tgt := 16) rfl (by decide) (fun c1 => ?_) (fun c1 => ?_)
  · refine eb_iload_n (pc := 16) (n := 1) (i := 1) rfl rfl rfl ?_
    refine eb_iconst (pc := 17) (n := 1) (v := 1) rfl rfl ?_
    refine eb_icmp_ne (pc := 18) (tgt := 28) rfl (by decide) (fun c2 => ?_) (fun c2 => ?_)
    · refine eb_iconst (pc := 28) (n := -1) (v := (-1)) rfl rfl ?_
      exact jj3 _ (by simp only [if_neg c1, if_neg c2])
    · refine eb_aload_n (pc := 21) (n := 0) (i := 0) rfl rfl rfl ?_
      refine eb_getI (pc := 22) rfl rfl (by decide) (by decide) rfl ?_
      refine eb_goto (pc := 25) (tgt := 29) rfl (by decide) ?_
      exact jj3 _ (by simp only [if_neg c1, if_pos c2])
  · refine eb_aload_n (pc := 9) (n := 0) (i := 0) rfl rfl rfl ?_
    refine eb_getI (pc := 10) rfl rfl (by decide) (by decide) rfl ?_
    refine eb_goto (pc := 13) (tgt := 29) rfl (by decide) ?_
    exact jj3 _ (by simp only [if_pos c1])
theorem T_X11_fault {d : Nat} {h : eb_H} {Q : Option Value → eb_H → Prop} (x1 : Int32)  (ko : eb_KO h) (w : Q (some (.int (if x1 = 0 then eb_I (eb_sI h s_MO 0 0) s_MO 13 else (if x1 = (1 : Int32) then eb_I (eb_sI h s_MO 0 0) s_MO 14 else (-1)) : Int32))) (eb_sI h s_MO 0 0)) : eb_Ct d 189 [.ref s_MO, .int x1] h Q :=
  eb_bodyQ (by decide) ok_X11_fault (Nat.le_of_ble_eq_true rfl) (b_X11_fault_0 (h0 := h) x1  ko w)
theorem b_X11_cells_0 {d : Nat} {h0 h : eb_H} {Q : Option Value → eb_H → Prop}   (ko : eb_KO h) (w : Q (some (.int ((eb_I h s_m_all (1 : Int32).toNatClampNeg) * (eb_I h s_m_all (2 : Int32).toNatClampNeg)))) h) : eb_Sn d m_X11_cells h0 0 [(0, .ref s_MO)] [] h Q := by
  refine eb_aload_n (pc := 0) (n := 0) (i := 0) rfl rfl rfl ?_
  refine eb_getR (pc := 1) rfl rfl (by decide) (by decide) rfl (ko_s_MO_1 ko) ?_
  refine eb_iconst (pc := 4) (n := 1) (v := 1) rfl rfl ?_
  refine eb_iaload (pc := 5) rfl rfl (by decide) (by unfold vp_in; decide) ?_
  refine eb_aload_n (pc := 6) (n := 0) (i := 0) rfl rfl rfl ?_
  refine eb_getR (pc := 7) rfl rfl (by decide) (by decide) rfl (ko_s_MO_1 ko) ?_
  refine eb_iconst (pc := 10) (n := 2) (v := 2) rfl rfl ?_
  refine eb_iaload (pc := 11) rfl rfl (by decide) (by unfold vp_in; decide) ?_
  refine eb_imul (pc := 12) rfl ?_
  exact eb_ireturn (pc := 13) rfl rfl rfl w
theorem T_X11_cells {d : Nat} {h : eb_H} {Q : Option Value → eb_H → Prop}   (ko : eb_KO h) (w : Q (some (.int ((eb_I h s_m_all (1 : Int32).toNatClampNeg) * (eb_I h s_m_all (2 : Int32).toNatClampNeg)))) h) : eb_Ct d 190 [.ref s_MO] h Q :=
  eb_bodyQ (by decide) ok_X11_cells (Nat.le_of_ble_eq_true rfl) (b_X11_cells_0 (h0 := h)   ko w)
theorem b_X11_isCell_0 {d : Nat} {h0 h : eb_H} {Q : Option Value → eb_H → Prop} (x1 : Int64)  (ko : eb_KO h) (w : Q (some (.int (eb_q ((¬ (x1 < 0)) ∧ (¬ (((((eb_I h s_m_all (1 : Int32).toNatClampNeg) * (eb_I h s_m_all (2 : Int32).toNatClampNeg)) - 1).toInt64) < x1)))))) h) : eb_Sn (d + 1) m_X11_isCell h0 0 [(0, .ref s_MO), (1, .long x1)] [] h Q := by
  refine eb_lload_n (pc := 0) (n := 1) (i := 1) rfl rfl rfl ?_
  refine eb_lconst (pc := 1) (n := 0) (v := 0) rfl rfl ?_
  refine eb_aload_n (pc := 2) (n := 0) (i := 0) rfl rfl rfl ?_
  refine eb_ctV (pc := 3) (As := []) (rest := [.long 0, .long x1]) rfl (by decide) rfl rfl (by decide) rfl (Nat.le_of_ble_eq_true rfl) ?_
  refine eb_bodyQ (by decide) ok_X11_cells (Nat.le_of_ble_eq_true rfl) ?_
  change eb_Sn _ m_X11_cells _ 0 [(0, .ref s_MO)] [] _ _
  refine eb_aload_n (pc := 0) (n := 0) (i := 0) rfl rfl rfl ?_
  refine eb_getR (pc := 1) rfl rfl (by decide) (by decide) rfl (ko_s_MO_1 ko) ?_
  refine eb_iconst (pc := 4) (n := 1) (v := 1) rfl rfl ?_
  refine eb_iaload (pc := 5) rfl rfl (by decide) (by unfold vp_in; decide) ?_
  refine eb_aload_n (pc := 6) (n := 0) (i := 0) rfl rfl rfl ?_
  refine eb_getR (pc := 7) rfl rfl (by decide) (by decide) rfl (ko_s_MO_1 ko) ?_
  refine eb_iconst (pc := 10) (n := 2) (v := 2) rfl rfl ?_
  refine eb_iaload (pc := 11) rfl rfl (by decide) (by unfold vp_in; decide) ?_
  refine eb_imul (pc := 12) rfl ?_
  refine eb_ireturn (pc := 13) rfl rfl rfl ?_
  change eb_Sn _ _ _ 6 _ [.int ((eb_I h s_m_all (1 : Int32).toNatClampNeg) * (eb_I h s_m_all (2 : Int32).toNatClampNeg)), .long 0, .long x1] _ _
  refine eb_iconst (pc := 6) (n := 1) (v := 1) rfl rfl ?_
  refine eb_isub (pc := 7) rfl ?_
  refine eb_i2l (pc := 8) rfl ?_
  refine eb_joinI (pc2 := 12) (ls2 := [(0, .ref s_MO), (1, .long x1)]) (st2 := []) (v := eb_q ((¬ (x1 < 0)) ∧ (¬ (((((eb_I h s_m_all (1 : Int32).toNatClampNeg) * (eb_I h s_m_all (2 : Int32).toNatClampNeg)) - 1).toInt64) < x1)))) ?_ (fun jj3 => ?_)
  · exact eb_ireturn (pc := 12) rfl rfl eb_qn w
  refine eb_ctS (pc := 9) (As := [.long x1, .long 0, .long ((((eb_I h s_m_all (1 : Int32).toNatClampNeg) * (eb_I h s_m_all (2 : Int32).toNatClampNeg)) - 1).toInt64)]) (rest := []) rfl (by decide) (by decide) rfl rfl (Nat.le_of_ble_eq_true rfl) ?_
  refine eb_bodyQ (by decide) ok_X11_within (Nat.le_of_ble_eq_true rfl) ?_
  change eb_Sn _ m_X11_within _ 0 [(0, .long x1), (2, .long 0), (4, .long ((((eb_I h s_m_all (1 : Int32).toNatClampNeg) * (eb_I h s_m_all (2 : Int32).toNatClampNeg)) - 1).toInt64))] [] _ _
  refine eb_lload_n (pc := 0) (n := 0) (i := 0) rfl rfl rfl ?_
  refine eb_lload_n (pc := 1) (n := 2) (i := 2) rfl rfl rfl ?_
  refine eb_lcmp (pc := 2) rfl ?_
  refine eb_if_lt (pc := 3) (tgt := 17) rfl (by decide) (fun c1 => ?_) (fun c1 => ?_)
  · replace c1 := eb_lc_lt.mp c1
    refine eb_iconst (pc := 17) (n := 0) (v := 0) rfl rfl ?_
    refine eb_ireturn (pc := 18) rfl rfl (by decide) ?_
    change eb_Sn _ _ _ 12 _ _ _ _
    exact jj3 0 (eb_qf (fun z => z.1 c1)).symm
  · replace c1 := (fun hh => mt eb_lc_lt.mpr hh) c1
    refine eb_lload_n (pc := 6) (n := 0) (i := 0) rfl rfl rfl ?_
    refine eb_lload (pc := 7) (i := 4) rfl rfl ?_
    refine eb_lcmp (pc := 9) rfl ?_
    refine eb_if_gt (pc := 10) (tgt := 17) rfl (by decide) (fun c2 => ?_) (fun c2 => ?_)
    · replace c2 := eb_lc_gt.mp c2
      refine eb_iconst (pc := 17) (n := 0) (v := 0) rfl rfl ?_
      refine eb_ireturn (pc := 18) rfl rfl (by decide) ?_
      change eb_Sn _ _ _ 12 _ _ _ _
      exact jj3 0 (eb_qf (fun z => (fun z => z c2) z.2)).symm
    · replace c2 := (fun hh => mt eb_lc_gt.mpr hh) c2
      refine eb_iconst (pc := 13) (n := 1) (v := 1) rfl rfl ?_
      refine eb_goto (pc := 14) (tgt := 18) rfl (by decide) ?_
      refine eb_ireturn (pc := 18) rfl rfl (by decide) ?_
      change eb_Sn _ _ _ 12 _ _ _ _
      exact jj3 1 (eb_qt (⟨c1, c2⟩)).symm
theorem T_X11_isCell {d : Nat} {h : eb_H} {Q : Option Value → eb_H → Prop} (x1 : Int64)  (ko : eb_KO h) (w : Q (some (.int (eb_q ((¬ (x1 < 0)) ∧ (¬ (((((eb_I h s_m_all (1 : Int32).toNatClampNeg) * (eb_I h s_m_all (2 : Int32).toNatClampNeg)) - 1).toInt64) < x1)))))) h) : eb_Ct (d + 1) 191 [.ref s_MO, .long x1] h Q :=
  eb_bodyQ (by decide) ok_X11_isCell (Nat.le_of_ble_eq_true rfl) (b_X11_isCell_0 (h0 := h) x1  ko w)
theorem b_X11_isHouse_0 {d : Nat} {h0 h : eb_H} {Q : Option Value → eb_H → Prop} (x1 : Int32)  (ko : eb_KO h) (w : Q (some (.int (eb_q ((¬ (x1.toInt64 < 0)) ∧ (¬ ((((eb_I h s_m_all (4 : Int32).toNatClampNeg) - 1).toInt64) < x1.toInt64)))))) h) : eb_Sn (d + 1) m_X11_isHouse h0 0 [(0, .ref s_MO), (1, .int x1)] [] h Q := by
  refine eb_iload_n (pc := 0) (n := 1) (i := 1) rfl rfl rfl ?_
  refine eb_i2l (pc := 1) rfl ?_
  refine eb_lconst (pc := 2) (n := 0) (v := 0) rfl rfl ?_
  refine eb_aload_n (pc := 3) (n := 0) (i := 0) rfl rfl rfl ?_
  refine eb_getR (pc := 4) rfl rfl (by decide) (by decide) rfl (ko_s_MO_1 ko) ?_
  refine eb_iconst (pc := 7) (n := 4) (v := 4) rfl rfl ?_
  refine eb_iaload (pc := 8) rfl rfl (by decide) (by unfold vp_in; decide) ?_
  refine eb_iconst (pc := 9) (n := 1) (v := 1) rfl rfl ?_
  refine eb_isub (pc := 10) rfl ?_
  refine eb_i2l (pc := 11) rfl ?_
  refine eb_joinI (pc2 := 15) (ls2 := [(0, .ref s_MO), (1, .int x1)]) (st2 := []) (v := eb_q ((¬ (x1.toInt64 < 0)) ∧ (¬ ((((eb_I h s_m_all (4 : Int32).toNatClampNeg) - 1).toInt64) < x1.toInt64)))) ?_ (fun jj3 => ?_)
  · exact eb_ireturn (pc := 15) rfl rfl eb_qn w
  refine eb_ctS (pc := 12) (As := [.long x1.toInt64, .long 0, .long (((eb_I h s_m_all (4 : Int32).toNatClampNeg) - 1).toInt64)]) (rest := []) rfl (by decide) (by decide) rfl rfl (Nat.le_of_ble_eq_true rfl) ?_
  refine eb_bodyQ (by decide) ok_X11_within (Nat.le_of_ble_eq_true rfl) ?_
  change eb_Sn _ m_X11_within _ 0 [(0, .long x1.toInt64), (2, .long 0), (4, .long (((eb_I h s_m_all (4 : Int32).toNatClampNeg) - 1).toInt64))] [] _ _
  refine eb_lload_n (pc := 0) (n := 0) (i := 0) rfl rfl rfl ?_
  refine eb_lload_n (pc := 1) (n := 2) (i := 2) rfl rfl rfl ?_
  refine eb_lcmp (pc := 2) rfl ?_
  refine eb_if_lt (pc := 3) (tgt := 17) rfl (by decide) (fun c1 => ?_) (fun c1 => ?_)
  · replace c1 := eb_lc_lt.mp c1
    refine eb_iconst (pc := 17) (n := 0) (v := 0) rfl rfl ?_
    refine eb_ireturn (pc := 18) rfl rfl (by decide) ?_
    change eb_Sn _ _ _ 15 _ _ _ _
    exact jj3 0 (eb_qf (fun z => z.1 c1)).symm
  · replace c1 := (fun hh => mt eb_lc_lt.mpr hh) c1
    refine eb_lload_n (pc := 6) (n := 0) (i := 0) rfl rfl rfl ?_
    refine eb_lload (pc := 7) (i := 4) rfl rfl ?_
    refine eb_lcmp (pc := 9) rfl ?_
    refine eb_if_gt (pc := 10) (tgt := 17) rfl (by decide) (fun c2 => ?_) (fun c2 => ?_)
    · replace c2 := eb_lc_gt.mp c2
      refine eb_iconst (pc := 17) (n := 0) (v := 0) rfl rfl ?_
      refine eb_ireturn (pc := 18) rfl rfl (by decide) ?_
      change eb_Sn _ _ _ 15 _ _ _ _
      exact jj3 0 (eb_qf (fun z => (fun z => z c2) z.2)).symm
    · replace c2 := (fun hh => mt eb_lc_gt.mpr hh) c2
      refine eb_iconst (pc := 13) (n := 1) (v := 1) rfl rfl ?_
      refine eb_goto (pc := 14) (tgt := 18) rfl (by decide) ?_
      refine eb_ireturn (pc := 18) rfl rfl (by decide) ?_
      change eb_Sn _ _ _ 15 _ _ _ _
      exact jj3 1 (eb_qt (⟨c1, c2⟩)).symm
theorem T_X11_isHouse {d : Nat} {h : eb_H} {Q : Option Value → eb_H → Prop} (x1 : Int32)  (ko : eb_KO h) (w : Q (some (.int (eb_q ((¬ (x1.toInt64 < 0)) ∧ (¬ ((((eb_I h s_m_all (4 : Int32).toNatClampNeg) - 1).toInt64) < x1.toInt64)))))) h) : eb_Ct (d + 1) 192 [.ref s_MO, .int x1] h Q :=
  eb_bodyQ (by decide) ok_X11_isHouse (Nat.le_of_ble_eq_true rfl) (b_X11_isHouse_0 (h0 := h) x1  ko w)
theorem b_X11_isEchoes_0 {d : Nat} {h0 h : eb_H} {Q : Option Value → eb_H → Prop} (x0 : Int32)  (ko : eb_KO h) (w : Q (some (.int (eb_q ((¬ (x0.toInt64 < 0)) ∧ (¬ (63 < x0.toInt64)))))) h) : eb_Sn (d + 1) m_X11_isEchoes h0 0 [(0, .int x0)] [] h Q := by
  refine eb_iload_n (pc := 0) (n := 0) (i := 0) rfl rfl rfl ?_
  refine eb_i2l (pc := 1) rfl ?_
  refine eb_lconst (pc := 2) (n := 0) (v := 0) rfl rfl ?_
  refine eb_ldc2 (pc := 3) (a := 63) (v := 63) rfl (by decide) ?_
  refine eb_joinI (pc2 := 9) (ls2 := [(0, .int x0)]) (st2 := []) (v := eb_q ((¬ (x0.toInt64 < 0)) ∧ (¬ (63 < x0.toInt64)))) ?_ (fun jj3 => ?_)
  · exact eb_ireturn (pc := 9) rfl rfl eb_qn w
  refine eb_ctS (pc := 6) (As := [.long x0.toInt64, .long 0, .long 63]) (rest := []) rfl (by decide) (by decide) rfl rfl (Nat.le_of_ble_eq_true rfl) ?_
  refine eb_bodyQ (by decide) ok_X11_within (Nat.le_of_ble_eq_true rfl) ?_
  change eb_Sn _ m_X11_within _ 0 [(0, .long x0.toInt64), (2, .long 0), (4, .long 63)] [] _ _
  refine eb_lload_n (pc := 0) (n := 0) (i := 0) rfl rfl rfl ?_
  refine eb_lload_n (pc := 1) (n := 2) (i := 2) rfl rfl rfl ?_
  refine eb_lcmp (pc := 2) rfl ?_
  refine eb_if_lt (pc := 3) (tgt := 17) rfl (by decide) (fun c1 => ?_) (fun c1 => ?_)
  · replace c1 := eb_lc_lt.mp c1
    refine eb_iconst (pc := 17) (n := 0) (v := 0) rfl rfl ?_
    refine eb_ireturn (pc := 18) rfl rfl (by decide) ?_
    change eb_Sn _ _ _ 9 _ _ _ _
    exact jj3 0 (eb_qf (fun z => z.1 c1)).symm
  · replace c1 := (fun hh => mt eb_lc_lt.mpr hh) c1
    refine eb_lload_n (pc := 6) (n := 0) (i := 0) rfl rfl rfl ?_
    refine eb_lload (pc := 7) (i := 4) rfl rfl ?_
    refine eb_lcmp (pc := 9) rfl ?_
    refine eb_if_gt (pc := 10) (tgt := 17) rfl (by decide) (fun c2 => ?_) (fun c2 => ?_)
    · replace c2 := eb_lc_gt.mp c2
      refine eb_iconst (pc := 17) (n := 0) (v := 0) rfl rfl ?_
      refine eb_ireturn (pc := 18) rfl rfl (by decide) ?_
      change eb_Sn _ _ _ 9 _ _ _ _
      exact jj3 0 (eb_qf (fun z => (fun z => z c2) z.2)).symm
    · replace c2 := (fun hh => mt eb_lc_gt.mpr hh) c2
      refine eb_iconst (pc := 13) (n := 1) (v := 1) rfl rfl ?_
      refine eb_goto (pc := 14) (tgt := 18) rfl (by decide) ?_
      refine eb_ireturn (pc := 18) rfl rfl (by decide) ?_
      change eb_Sn _ _ _ 9 _ _ _ _
      exact jj3 1 (eb_qt (⟨c1, c2⟩)).symm
theorem T_X11_isEchoes {d : Nat} {h : eb_H} {Q : Option Value → eb_H → Prop} (x0 : Int32)  (ko : eb_KO h) (w : Q (some (.int (eb_q ((¬ (x0.toInt64 < 0)) ∧ (¬ (63 < x0.toInt64)))))) h) : eb_Ct (d + 1) 193 [.int x0] h Q :=
  eb_bodyQ (by decide) ok_X11_isEchoes (Nat.le_of_ble_eq_true rfl) (b_X11_isEchoes_0 (h0 := h) x0  ko w)
theorem b_X11_bitsOf_0 {d : Nat} {h0 h : eb_H} {Q : Option Value → eb_H → Prop} (x0 : Int32)  (ko : eb_KO h) (w : eb_Sn d m_X11_bitsOf h0 4 [(0, .int x0), (1, .int 0), (2, .int 0)] [] h Q) : eb_Sn d m_X11_bitsOf h0 0 [(0, .int x0)] [] h Q := by
  refine eb_iconst (pc := 0) (n := 0) (v := 0) rfl rfl ?_
  refine eb_istore_n (pc := 1) (n := 1) (i := 1) (ls2 := [(1, .int 0), (0, .int x0)]) rfl (Nat.le_of_ble_eq_true rfl) rfl rfl ?_
  refine eb_iconst (pc := 2) (n := 0) (v := 0) rfl rfl ?_
  refine eb_istore_n (pc := 3) (n := 2) (i := 2) (ls2 := [(2, .int 0), (1, .int 0), (0, .int x0)]) rfl (Nat.le_of_ble_eq_true rfl) rfl rfl ?_
  exact eb_pick [2, 1, 0] rfl w
theorem b_X11_bitsOf_4 {d : Nat} {h0 h : eb_H} {Q : Option Value → eb_H → Prop} (x0 : Int32) (x1 : Int32) (x2 : Int32)  (ko : eb_KO h) (w : (((10 : Int32) ≤ x2 → Q (some (.int x1)) h) ∧ (¬ ((10 : Int32) ≤ x2) → eb_Sn d m_X11_bitsOf h0 4 [(0, .int x0), (1, .int (x1 + ((x0 >>> (x2 &&& 31)) &&& 1))), (2, .int (x2 + 1))] [] h Q))) : eb_Sn d m_X11_bitsOf h0 4 [(0, .int x0), (1, .int x1), (2, .int x2)] [] h Q := by
  refine eb_iload_n (pc := 4) (n := 2) (i := 2) rfl rfl rfl ?_
  refine eb_bipush (pc := 5) (n := 10) (v := 10) rfl rfl ?_
  refine eb_icmp_ge (pc := 7) (tgt := 24) rfl (by decide) (fun c1 => ?_) (fun c1 => ?_)
  · replace w := w.1 c1
    refine eb_iload_n (pc := 24) (n := 1) (i := 1) rfl rfl rfl ?_
    exact eb_ireturn (pc := 25) rfl rfl rfl w
  · replace w := w.2 c1
    refine eb_iload_n (pc := 10) (n := 1) (i := 1) rfl rfl rfl ?_
    refine eb_iload_n (pc := 11) (n := 0) (i := 0) rfl rfl rfl ?_
    refine eb_iload_n (pc := 12) (n := 2) (i := 2) rfl rfl rfl ?_
    refine eb_ishr (pc := 13) rfl ?_
    refine eb_iconst (pc := 14) (n := 1) (v := 1) rfl rfl ?_
    refine eb_iand (pc := 15) rfl ?_
    refine eb_iadd (pc := 16) rfl ?_
    refine eb_istore_n (pc := 17) (n := 1) (i := 1) (ls2 := [(1, .int (x1 + ((x0 >>> (x2 &&& 31)) &&& 1))), (0, .int x0), (2, .int x2)]) rfl (Nat.le_of_ble_eq_true rfl) rfl rfl ?_
    refine eb_iinc (pc := 18) (i := 2) (n := 1) (v := x2 + 1) (ls2 := [(2, .int (x2 + 1)), (1, .int (x1 + ((x0 >>> (x2 &&& 31)) &&& 1))), (0, .int x0)]) (Nat.le_of_ble_eq_true rfl) rfl rfl rfl rfl ?_
    refine eb_goto (pc := 21) (tgt := 4) rfl (by decide) ?_
    exact eb_pick [2, 1, 0] rfl w
theorem T_X11_bitsOf {d : Nat} {h : eb_H} {Q : Option Value → eb_H → Prop} (x0 : Int32)  (ko : eb_KO h) (w : eb_Sn d m_X11_bitsOf h 4 [(0, .int x0), (1, .int 0), (2, .int 0)] [] h Q) : eb_Ct d 194 [.int x0] h Q :=
  eb_bodyQ (by decide) ok_X11_bitsOf (Nat.le_of_ble_eq_true rfl) (b_X11_bitsOf_0 (h0 := h) x0  ko w)
theorem b_X11_standNow_0 {d : Nat} {h0 h : eb_H} {Q : Option Value → eb_H → Prop}   (ko : eb_KO h) (w : Q (some (.int (((64 : Int32) * (eb_I h s_m_all (31 : Int32).toNatClampNeg)) + (eb_I h s_m_all (32 : Int32).toNatClampNeg)))) h) : eb_Sn d m_X11_standNow h0 0 [(0, .ref s_MO)] [] h Q := by
  refine eb_bipush (pc := 0) (n := 64) (v := 64) rfl rfl ?_
  refine eb_aload_n (pc := 2) (n := 0) (i := 0) rfl rfl rfl ?_
  refine eb_getR (pc := 3) rfl rfl (by decide) (by decide) rfl (ko_s_MO_1 ko) ?_
  refine eb_bipush (pc := 6) (n := 31) (v := 31) rfl rfl ?_
  refine eb_iaload (pc := 8) rfl rfl (by decide) (by unfold vp_in; decide) ?_
  refine eb_imul (pc := 9) rfl ?_
  refine eb_aload_n (pc := 10) (n := 0) (i := 0) rfl rfl rfl ?_
  refine eb_getR (pc := 11) rfl rfl (by decide) (by decide) rfl (ko_s_MO_1 ko) ?_
  refine eb_bipush (pc := 14) (n := 32) (v := 32) rfl rfl ?_
  refine eb_iaload (pc := 16) rfl rfl (by decide) (by unfold vp_in; decide) ?_
  refine eb_iadd (pc := 17) rfl ?_
  exact eb_ireturn (pc := 18) rfl rfl rfl w
theorem T_X11_standNow {d : Nat} {h : eb_H} {Q : Option Value → eb_H → Prop}   (ko : eb_KO h) (w : Q (some (.int (((64 : Int32) * (eb_I h s_m_all (31 : Int32).toNatClampNeg)) + (eb_I h s_m_all (32 : Int32).toNatClampNeg)))) h) : eb_Ct d 195 [.ref s_MO] h Q :=
  eb_bodyQ (by decide) ok_X11_standNow (Nat.le_of_ble_eq_true rfl) (b_X11_standNow_0 (h0 := h)   ko w)
theorem b_X11_cellBy_0 {d : Nat} {h0 h : eb_H} {Q : Option Value → eb_H → Prop} (x1 : Int32) (x2 : Int32)  (ko : eb_KO h) (w : (¬ (eb_I h s_m_all (2 : Int32).toNatClampNeg) = 0) ∧ (¬ (eb_I h s_m_all (2 : Int32).toNatClampNeg) = 0) ∧ ((x2 = 0 → Q (some (.int (if (x1 / (eb_I h s_m_all (2 : Int32).toNatClampNeg)) = 0 then (-1) else x1 - (eb_I h s_m_all (2 : Int32).toNatClampNeg) : Int32))) h) ∧ (x2 = 1 → Q (some (.int (if (x1 - x1 / (eb_I h s_m_all (2 : Int32).toNatClampNeg) * (eb_I h s_m_all (2 : Int32).toNatClampNeg)) = ((eb_I h s_m_all (2 : Int32).toNatClampNeg) - 1) then (-1) else x1 + 1 : Int32))) h) ∧ (x2 = 2 → Q (some (.int (if (x1 / (eb_I h s_m_all (2 : Int32).toNatClampNeg)) = ((eb_I h s_m_all (1 : Int32).toNatClampNeg) - 1) then (-1) else x1 + (eb_I h s_m_all (2 : Int32).toNatClampNeg) : Int32))) h) ∧ (¬ x2 = 0 → ¬ x2 = 1 → ¬ x2 = 2 → Q (some (.int (if (x1 - x1 / (eb_I h s_m_all (2 : Int32).toNatClampNeg) * (eb_I h s_m_all (2 : Int32).toNatClampNeg)) = 0 then (-1) else x1 - 1 : Int32))) h))) : eb_Sn d m_X11_cellBy h0 0 [(0, .ref s_MO), (1, .int x1), (2, .int x2)] [] h Q := by
  refine eb_iload_n (pc := 0) (n := 1) (i := 1) rfl rfl rfl ?_
  refine eb_aload_n (pc := 1) (n := 0) (i := 0) rfl rfl rfl ?_
  refine eb_getR (pc := 2) rfl rfl (by decide) (by decide) rfl (ko_s_MO_1 ko) ?_
  refine eb_iconst (pc := 5) (n := 2) (v := 2) rfl rfl ?_
  refine eb_iaload (pc := 6) rfl rfl (by decide) (by unfold vp_in; decide) ?_
  obtain ⟨c1, w⟩ := w
  refine eb_idiv (pc := 7) c1 rfl ?_
  refine eb_istore_n (pc := 8) (n := 3) (i := 3) (ls2 := [(3, .int (x1 / (eb_I h s_m_all (2 : Int32).toNatClampNeg))), (0, .ref s_MO), (1, .int x1), (2, .int x2)]) rfl (Nat.le_of_ble_eq_true rfl) rfl rfl ?_
  refine eb_iload_n (pc := 9) (n := 1) (i := 1) rfl rfl rfl ?_
  refine eb_aload_n (pc := 10) (n := 0) (i := 0) rfl rfl rfl ?_
  refine eb_getR (pc := 11) rfl rfl (by decide) (by decide) rfl (ko_s_MO_1 ko) ?_
  refine eb_iconst (pc := 14) (n := 2) (v := 2) rfl rfl ?_
  refine eb_iaload (pc := 15) rfl rfl (by decide) (by unfold vp_in; decide) ?_
  obtain ⟨c2, w⟩ := w
  refine eb_irem (pc := 16) c2 rfl ?_
  refine eb_istore (pc := 17) (i := 4) (ls2 := [(4, .int (x1 - x1 / (eb_I h s_m_all (2 : Int32).toNatClampNeg) * (eb_I h s_m_all (2 : Int32).toNatClampNeg))), (3, .int (x1 / (eb_I h s_m_all (2 : Int32).toNatClampNeg))), (0, .ref s_MO), (1, .int x1), (2, .int x2)]) (Nat.le_of_ble_eq_true rfl) rfl rfl ?_
  refine eb_iload_n (pc := 19) (n := 2) (i := 2) rfl rfl rfl ?_
  by_cases s0 : x2 = 0
  · refine eb_tableIn (pc := 20) (j := 0) (tgt := 48) (by rw [s0]; decide) (by decide) (by rfl) (by decide) rfl ?_
    replace w := w.1 s0
    refine eb_iload_n (pc := 48) (n := 3) (i := 3) rfl rfl rfl ?_
    refine eb_joinI (pc2 := 64) (ls2 := [(4, .int (x1 - x1 / (eb_I h s_m_all (2 : Int32).toNatClampNeg) * (eb_I h s_m_all (2 : Int32).toNatClampNeg))), (3, .int (x1 / (eb_I h s_m_all (2 : Int32).toNatClampNeg))), (0, .ref s_MO), (1, .int x1), (2, .int x2)]) (st2 := []) (v := (if (x1 / (eb_I h s_m_all (2 : Int32).toNatClampNeg)) = 0 then (-1) else x1 - (eb_I h s_m_all (2 : Int32).toNatClampNeg) : Int32)) ?_ (fun jj4 => ?_)
    · exact eb_ireturn (pc := 64) rfl rfl rfl w
    refine eb_if_ne (pc := 49) (tgt := 56) rfl (by decide) (fun c3 => ?_) (fun c3 => ?_)
    · refine eb_iload_n (pc := 56) (n := 1) (i := 1) rfl rfl rfl ?_
      refine eb_aload_n (pc := 57) (n := 0) (i := 0) rfl rfl rfl ?_
      refine eb_getR (pc := 58) rfl rfl (by decide) (by decide) rfl (ko_s_MO_1 ko) ?_
      refine eb_iconst (pc := 61) (n := 2) (v := 2) rfl rfl ?_
      refine eb_iaload (pc := 62) rfl rfl (by decide) (by unfold vp_in; decide) ?_
      refine eb_isub (pc := 63) rfl ?_
      exact jj4 _ (by simp only [if_neg c3])
    · refine eb_iconst (pc := 52) (n := -1) (v := (-1)) rfl rfl ?_
      refine eb_goto (pc := 53) (tgt := 64) rfl (by decide) ?_
      exact jj4 _ (by simp only [if_pos c3])
  by_cases s1 : x2 = 1
  · refine eb_tableIn (pc := 20) (j := 1) (tgt := 65) (by rw [s1]; decide) (by decide) (by rfl) (by decide) rfl ?_
    replace w := w.2.1 s1
    refine eb_iload (pc := 65) (i := 4) rfl rfl ?_
    refine eb_aload_n (pc := 67) (n := 0) (i := 0) rfl rfl rfl ?_
    refine eb_getR (pc := 68) rfl rfl (by decide) (by decide) rfl (ko_s_MO_1 ko) ?_
    refine eb_iconst (pc := 71) (n := 2) (v := 2) rfl rfl ?_
    refine eb_iaload (pc := 72) rfl rfl (by decide) (by unfold vp_in; decide) ?_
    refine eb_iconst (pc := 73) (n := 1) (v := 1) rfl rfl ?_
    refine eb_isub (pc := 74) rfl ?_
    refine eb_joinI (pc2 := 85) (ls2 := [(4, .int (x1 - x1 / (eb_I h s_m_all (2 : Int32).toNatClampNeg) * (eb_I h s_m_all (2 : Int32).toNatClampNeg))), (3, .int (x1 / (eb_I h s_m_all (2 : Int32).toNatClampNeg))), (0, .ref s_MO), (1, .int x1), (2, .int x2)]) (st2 := []) (v := (if (x1 - x1 / (eb_I h s_m_all (2 : Int32).toNatClampNeg) * (eb_I h s_m_all (2 : Int32).toNatClampNeg)) = ((eb_I h s_m_all (2 : Int32).toNatClampNeg) - 1) then (-1) else x1 + 1 : Int32)) ?_ (fun jj7 => ?_)
    · exact eb_ireturn (pc := 85) rfl rfl rfl w
    refine eb_icmp_ne (pc := 75) (tgt := 82) rfl (by decide) (fun c6 => ?_) (fun c6 => ?_)
    · refine eb_iload_n (pc := 82) (n := 1) (i := 1) rfl rfl rfl ?_
      refine eb_iconst (pc := 83) (n := 1) (v := 1) rfl rfl ?_
      refine eb_iadd (pc := 84) rfl ?_
      exact jj7 _ (by simp only [if_neg c6])
    · refine eb_iconst (pc := 78) (n := -1) (v := (-1)) rfl rfl ?_
      refine eb_goto (pc := 79) (tgt := 85) rfl (by decide) ?_
      exact jj7 _ (by simp only [if_pos c6])
  by_cases s2 : x2 = 2
  · refine eb_tableIn (pc := 20) (j := 2) (tgt := 86) (by rw [s2]; decide) (by decide) (by rfl) (by decide) rfl ?_
    replace w := w.2.2.1 s2
    refine eb_iload_n (pc := 86) (n := 3) (i := 3) rfl rfl rfl ?_
    refine eb_aload_n (pc := 87) (n := 0) (i := 0) rfl rfl rfl ?_
    refine eb_getR (pc := 88) rfl rfl (by decide) (by decide) rfl (ko_s_MO_1 ko) ?_
    refine eb_iconst (pc := 91) (n := 1) (v := 1) rfl rfl ?_
    refine eb_iaload (pc := 92) rfl rfl (by decide) (by unfold vp_in; decide) ?_
    refine eb_iconst (pc := 93) (n := 1) (v := 1) rfl rfl ?_
    refine eb_isub (pc := 94) rfl ?_
    refine eb_joinI (pc2 := 110) (ls2 := [(4, .int (x1 - x1 / (eb_I h s_m_all (2 : Int32).toNatClampNeg) * (eb_I h s_m_all (2 : Int32).toNatClampNeg))), (3, .int (x1 / (eb_I h s_m_all (2 : Int32).toNatClampNeg))), (0, .ref s_MO), (1, .int x1), (2, .int x2)]) (st2 := []) (v := (if (x1 / (eb_I h s_m_all (2 : Int32).toNatClampNeg)) = ((eb_I h s_m_all (1 : Int32).toNatClampNeg) - 1) then (-1) else x1 + (eb_I h s_m_all (2 : Int32).toNatClampNeg) : Int32)) ?_ (fun jj10 => ?_)
    · exact eb_ireturn (pc := 110) rfl rfl rfl w
    refine eb_icmp_ne (pc := 95) (tgt := 102) rfl (by decide) (fun c9 => ?_) (fun c9 => ?_)
    · refine eb_iload_n (pc := 102) (n := 1) (i := 1) rfl rfl rfl ?_
      refine eb_aload_n (pc := 103) (n := 0) (i := 0) rfl rfl rfl ?_
      refine eb_getR (pc := 104) rfl rfl (by decide) (by decide) rfl (ko_s_MO_1 ko) ?_
      refine eb_iconst (pc := 107) (n := 2) (v := 2) rfl rfl ?_
      refine eb_iaload (pc := 108) rfl rfl (by decide) (by unfold vp_in; decide) ?_
      refine eb_iadd (pc := 109) rfl ?_
      exact jj10 _ (by simp only [if_neg c9])
    · refine eb_iconst (pc := 98) (n := -1) (v := (-1)) rfl rfl ?_
      refine eb_goto (pc := 99) (tgt := 110) rfl (by decide) ?_
      exact jj10 _ (by simp only [if_pos c9])
  refine eb_tableOut (pc := 20) (tgt := 111) (by have z0 := lv_neT (a := 0) s0 (by decide); have z1 := lv_neT (a := 1) s1 (by decide); have z2 := lv_neT (a := 2) s2 (by decide); omega) (by decide) rfl ?_
  replace w := w.2.2.2 s0 s1 s2
  refine eb_iload (pc := 111) (i := 4) rfl rfl ?_
  refine eb_joinI (pc2 := 123) (ls2 := [(4, .int (x1 - x1 / (eb_I h s_m_all (2 : Int32).toNatClampNeg) * (eb_I h s_m_all (2 : Int32).toNatClampNeg))), (3, .int (x1 / (eb_I h s_m_all (2 : Int32).toNatClampNeg))), (0, .ref s_MO), (1, .int x1), (2, .int x2)]) (st2 := []) (v := (if (x1 - x1 / (eb_I h s_m_all (2 : Int32).toNatClampNeg) * (eb_I h s_m_all (2 : Int32).toNatClampNeg)) = 0 then (-1) else x1 - 1 : Int32)) ?_ (fun jj13 => ?_)
  · exact eb_ireturn (pc := 123) rfl rfl rfl w
  refine eb_if_ne (pc := 113) (tgt := 120) rfl (by decide) (fun c12 => ?_) (fun c12 => ?_)
  · refine eb_iload_n (pc := 120) (n := 1) (i := 1) rfl rfl rfl ?_
    refine eb_iconst (pc := 121) (n := 1) (v := 1) rfl rfl ?_
    refine eb_isub (pc := 122) rfl ?_
    exact jj13 _ (by simp only [if_neg c12])
  · refine eb_iconst (pc := 116) (n := -1) (v := (-1)) rfl rfl ?_
    refine eb_goto (pc := 117) (tgt := 123) rfl (by decide) ?_
    exact jj13 _ (by simp only [if_pos c12])
theorem T_X11_cellBy {d : Nat} {h : eb_H} {Q : Option Value → eb_H → Prop} (x1 : Int32) (x2 : Int32)  (ko : eb_KO h) (w : (¬ (eb_I h s_m_all (2 : Int32).toNatClampNeg) = 0) ∧ (¬ (eb_I h s_m_all (2 : Int32).toNatClampNeg) = 0) ∧ ((x2 = 0 → Q (some (.int (if (x1 / (eb_I h s_m_all (2 : Int32).toNatClampNeg)) = 0 then (-1) else x1 - (eb_I h s_m_all (2 : Int32).toNatClampNeg) : Int32))) h) ∧ (x2 = 1 → Q (some (.int (if (x1 - x1 / (eb_I h s_m_all (2 : Int32).toNatClampNeg) * (eb_I h s_m_all (2 : Int32).toNatClampNeg)) = ((eb_I h s_m_all (2 : Int32).toNatClampNeg) - 1) then (-1) else x1 + 1 : Int32))) h) ∧ (x2 = 2 → Q (some (.int (if (x1 / (eb_I h s_m_all (2 : Int32).toNatClampNeg)) = ((eb_I h s_m_all (1 : Int32).toNatClampNeg) - 1) then (-1) else x1 + (eb_I h s_m_all (2 : Int32).toNatClampNeg) : Int32))) h) ∧ (¬ x2 = 0 → ¬ x2 = 1 → ¬ x2 = 2 → Q (some (.int (if (x1 - x1 / (eb_I h s_m_all (2 : Int32).toNatClampNeg) * (eb_I h s_m_all (2 : Int32).toNatClampNeg)) = 0 then (-1) else x1 - 1 : Int32))) h))) : eb_Ct d 196 [.ref s_MO, .int x1, .int x2] h Q :=
  eb_bodyQ (by decide) ok_X11_cellBy (Nat.le_of_ble_eq_true rfl) (b_X11_cellBy_0 (h0 := h) x1 x2  ko w)
theorem b_X11_between_0 {d : Nat} {h0 h : eb_H} {Q : Option Value → eb_H → Prop} (x0 : Int32) (x1 : Int32) (x2 : Int32)  (ko : eb_KO h) (w : ((x0 = 3003 → Q (some (.int (eb_q (x1 = x2)))) h) ∧ (x0 = 3004 → Q (some (.int (eb_q (¬ (x2 ≤ x1))))) h) ∧ (x0 = 3005 → Q (some (.int (eb_q (¬ (x1 ≤ x2))))) h) ∧ (x0 = 3007 → Q (some (.int (x1 &&& x2))) h) ∧ (x0 = 3008 → Q (some (.int (x1 ||| x2))) h) ∧ (¬ x0 = 3003 → ¬ x0 = 3004 → ¬ x0 = 3005 → ¬ x0 = 3007 → ¬ x0 = 3008 → Q (some (.int ((if (if x0 = (3000 : Int32) then x1.toInt64 + x2.toInt64 else (if x0 = (3001 : Int32) then x1.toInt64 - x2.toInt64 else x1.toInt64 * x2.toInt64) : Int64) ≤ 1000000 then (if (-1000000) ≤ (if x0 = (3000 : Int32) then x1.toInt64 + x2.toInt64 else (if x0 = (3001 : Int32) then x1.toInt64 - x2.toInt64 else x1.toInt64 * x2.toInt64) : Int64) then (if x0 = (3000 : Int32) then x1.toInt64 + x2.toInt64 else (if x0 = (3001 : Int32) then x1.toInt64 - x2.toInt64 else x1.toInt64 * x2.toInt64) : Int64) else (-1000000)) else 1000000 : Int64).toInt32))) h))) : eb_Sn d m_X11_between h0 0 [(0, .int x0), (1, .int x1), (2, .int x2)] [] h Q := by
  refine eb_iload_n (pc := 0) (n := 0) (i := 0) rfl rfl rfl ?_
  by_cases s0 : x0 = 3003
  · refine eb_tableIn (pc := 1) (j := 0) (tgt := 40) (by rw [s0]; decide) (by decide) (by rfl) (by decide) rfl ?_
    replace w := w.1 s0
    refine eb_iload_n (pc := 40) (n := 1) (i := 1) rfl rfl rfl ?_
    refine eb_iload_n (pc := 41) (n := 2) (i := 2) rfl rfl rfl ?_
    refine eb_joinI (pc2 := 50) (ls2 := [(0, .int x0), (1, .int x1), (2, .int x2)]) (st2 := []) (v := eb_q (x1 = x2)) ?_ (fun jj2 => ?_)
    · exact eb_ireturn (pc := 50) rfl rfl rfl w
    refine eb_icmp_ne (pc := 42) (tgt := 49) rfl (by decide) (fun c1 => ?_) (fun c1 => ?_)
    · refine eb_iconst (pc := 49) (n := 0) (v := 0) rfl rfl ?_
      exact jj2 0 (eb_qf c1).symm
    · refine eb_iconst (pc := 45) (n := 1) (v := 1) rfl rfl ?_
      refine eb_goto (pc := 46) (tgt := 50) rfl (by decide) ?_
      exact jj2 1 (eb_qt c1).symm
  by_cases s1 : x0 = 3004
  · refine eb_tableIn (pc := 1) (j := 1) (tgt := 51) (by rw [s1]; decide) (by decide) (by rfl) (by decide) rfl ?_
    replace w := w.2.1 s1
    refine eb_iload_n (pc := 51) (n := 1) (i := 1) rfl rfl rfl ?_
    refine eb_iload_n (pc := 52) (n := 2) (i := 2) rfl rfl rfl ?_
    refine eb_joinI (pc2 := 61) (ls2 := [(0, .int x0), (1, .int x1), (2, .int x2)]) (st2 := []) (v := eb_q (¬ (x2 ≤ x1))) ?_ (fun jj5 => ?_)
    · exact eb_ireturn (pc := 61) rfl rfl rfl w
    refine eb_icmp_ge (pc := 53) (tgt := 60) rfl (by decide) (fun c4 => ?_) (fun c4 => ?_)
    · refine eb_iconst (pc := 60) (n := 0) (v := 0) rfl rfl ?_
      exact jj5 0 (eb_qf (fun z => z c4)).symm
    · refine eb_iconst (pc := 56) (n := 1) (v := 1) rfl rfl ?_
      refine eb_goto (pc := 57) (tgt := 61) rfl (by decide) ?_
      exact jj5 1 (eb_qt c4).symm
  by_cases s2 : x0 = 3005
  · refine eb_tableIn (pc := 1) (j := 2) (tgt := 62) (by rw [s2]; decide) (by decide) (by rfl) (by decide) rfl ?_
    replace w := w.2.2.1 s2
    refine eb_iload_n (pc := 62) (n := 1) (i := 1) rfl rfl rfl ?_
    refine eb_iload_n (pc := 63) (n := 2) (i := 2) rfl rfl rfl ?_
    refine eb_joinI (pc2 := 72) (ls2 := [(0, .int x0), (1, .int x1), (2, .int x2)]) (st2 := []) (v := eb_q (¬ (x1 ≤ x2))) ?_ (fun jj8 => ?_)
    · exact eb_ireturn (pc := 72) rfl rfl rfl w
    refine eb_icmp_le (pc := 64) (tgt := 71) rfl (by decide) (fun c7 => ?_) (fun c7 => ?_)
    · refine eb_iconst (pc := 71) (n := 0) (v := 0) rfl rfl ?_
      exact jj8 0 (eb_qf (fun z => z c7)).symm
    · refine eb_iconst (pc := 67) (n := 1) (v := 1) rfl rfl ?_
      refine eb_goto (pc := 68) (tgt := 72) rfl (by decide) ?_
      exact jj8 1 (eb_qt c7).symm
  by_cases s3 : x0 = 3006
  · refine eb_tableIn (pc := 1) (j := 3) (tgt := 81) (by rw [s3]; decide) (by decide) (by rfl) (by decide) rfl ?_
    replace w := w.2.2.2.2.2 (by rw [s3]; decide) (by rw [s3]; decide) (by rw [s3]; decide) (by rw [s3]; decide) (by rw [s3]; decide)
    refine eb_iload_n (pc := 81) (n := 0) (i := 0) rfl rfl rfl ?_
    refine eb_sipush (pc := 82) (n := 3000) (v := 3000) rfl rfl ?_
    refine eb_joinL (pc2 := 116) (ls2 := [(0, .int x0), (1, .int x1), (2, .int x2)]) (st2 := []) (v := (if x0 = (3000 : Int32) then x1.toInt64 + x2.toInt64 else (if x0 = (3001 : Int32) then x1.toInt64 - x2.toInt64 else x1.toInt64 * x2.toInt64) : Int64)) ?_ (fun jj12 => ?_)
    · refine eb_lstore_n (pc := 116) (n := 3) (i := 3) (ls2 := [(3, .long (if x0 = (3000 : Int32) then x1.toInt64 + x2.toInt64 else (if x0 = (3001 : Int32) then x1.toInt64 - x2.toInt64 else x1.toInt64 * x2.toInt64) : Int64)), (0, .int x0), (1, .int x1), (2, .int x2)]) rfl (Nat.le_of_ble_eq_true rfl) rfl rfl ?_
      refine eb_lload_n (pc := 117) (n := 3) (i := 3) rfl rfl rfl ?_
      refine eb_ldc2 (pc := 118) (a := 1000000) (v := 1000000) rfl (by decide) ?_
      refine eb_lcmp (pc := 121) rfl ?_
      refine eb_joinL (pc2 := 146) (ls2 := [(3, .long (if x0 = (3000 : Int32) then x1.toInt64 + x2.toInt64 else (if x0 = (3001 : Int32) then x1.toInt64 - x2.toInt64 else x1.toInt64 * x2.toInt64) : Int64)), (0, .int x0), (1, .int x1), (2, .int x2)]) (st2 := []) (v := (if (if x0 = (3000 : Int32) then x1.toInt64 + x2.toInt64 else (if x0 = (3001 : Int32) then x1.toInt64 - x2.toInt64 else x1.toInt64 * x2.toInt64) : Int64) ≤ 1000000 then (if (-1000000) ≤ (if x0 = (3000 : Int32) then x1.toInt64 + x2.toInt64 else (if x0 = (3001 : Int32) then x1.toInt64 - x2.toInt64 else x1.toInt64 * x2.toInt64) : Int64) then (if x0 = (3000 : Int32) then x1.toInt64 + x2.toInt64 else (if x0 = (3001 : Int32) then x1.toInt64 - x2.toInt64 else x1.toInt64 * x2.toInt64) : Int64) else (-1000000)) else 1000000 : Int64)) ?_ (fun jj16 => ?_)
      · refine eb_l2i (pc := 146) rfl ?_
        exact eb_ireturn (pc := 147) rfl rfl rfl w
      refine eb_if_le (pc := 122) (tgt := 131) rfl (by decide) (fun c14 => ?_) (fun c14 => ?_)
      · replace c14 := eb_lc_le.mp c14
        refine eb_lload_n (pc := 131) (n := 3) (i := 3) rfl rfl rfl ?_
        refine eb_ldc2 (pc := 132) (a := 18446744073708551616) (v := (-1000000)) rfl (by decide) ?_
        refine eb_lcmp (pc := 135) rfl ?_
        refine eb_if_ge (pc := 136) (tgt := 145) rfl (by decide) (fun c15 => ?_) (fun c15 => ?_)
        · replace c15 := eb_lc_ge.mp c15
          refine eb_lload_n (pc := 145) (n := 3) (i := 3) rfl rfl rfl ?_
          exact jj16 _ (by simp only [if_pos c14, if_pos c15])
        · replace c15 := (fun hh => mt eb_lc_ge.mpr hh) c15
          refine eb_ldc2 (pc := 139) (a := 18446744073708551616) (v := (-1000000)) rfl (by decide) ?_
          refine eb_goto (pc := 142) (tgt := 146) rfl (by decide) ?_
          exact jj16 _ (by simp only [if_pos c14, if_neg c15])
      · replace c14 := (fun hh => mt eb_lc_le.mpr hh) c14
        refine eb_ldc2 (pc := 125) (a := 1000000) (v := 1000000) rfl (by decide) ?_
        refine eb_goto (pc := 128) (tgt := 146) rfl (by decide) ?_
        exact jj16 _ (by simp only [if_neg c14])
    refine eb_icmp_ne (pc := 85) (tgt := 96) rfl (by decide) (fun c10 => ?_) (fun c10 => ?_)
    · refine eb_iload_n (pc := 96) (n := 0) (i := 0) rfl rfl rfl ?_
      refine eb_sipush (pc := 97) (n := 3001) (v := 3001) rfl rfl ?_
      refine eb_icmp_ne (pc := 100) (tgt := 111) rfl (by decide) (fun c11 => ?_) (fun c11 => ?_)
      · refine eb_iload_n (pc := 111) (n := 1) (i := 1) rfl rfl rfl ?_
        refine eb_i2l (pc := 112) rfl ?_
        refine eb_iload_n (pc := 113) (n := 2) (i := 2) rfl rfl rfl ?_
        refine eb_i2l (pc := 114) rfl ?_
        refine eb_lmul (pc := 115) rfl ?_
        exact jj12 _ (by simp only [if_neg c10, if_neg c11])
      · refine eb_iload_n (pc := 103) (n := 1) (i := 1) rfl rfl rfl ?_
        refine eb_i2l (pc := 104) rfl ?_
        refine eb_iload_n (pc := 105) (n := 2) (i := 2) rfl rfl rfl ?_
        refine eb_i2l (pc := 106) rfl ?_
        refine eb_lsub (pc := 107) rfl ?_
        refine eb_goto (pc := 108) (tgt := 116) rfl (by decide) ?_
        exact jj12 _ (by simp only [if_neg c10, if_pos c11])
    · refine eb_iload_n (pc := 88) (n := 1) (i := 1) rfl rfl rfl ?_
      refine eb_i2l (pc := 89) rfl ?_
      refine eb_iload_n (pc := 90) (n := 2) (i := 2) rfl rfl rfl ?_
      refine eb_i2l (pc := 91) rfl ?_
      refine eb_ladd (pc := 92) rfl ?_
      refine eb_goto (pc := 93) (tgt := 116) rfl (by decide) ?_
      exact jj12 _ (by simp only [if_pos c10])
  by_cases s4 : x0 = 3007
  · refine eb_tableIn (pc := 1) (j := 4) (tgt := 73) (by rw [s4]; decide) (by decide) (by rfl) (by decide) rfl ?_
    replace w := w.2.2.2.1 s4
    refine eb_iload_n (pc := 73) (n := 1) (i := 1) rfl rfl rfl ?_
    refine eb_iload_n (pc := 74) (n := 2) (i := 2) rfl rfl rfl ?_
    refine eb_iand (pc := 75) rfl ?_
    exact eb_ireturn (pc := 76) rfl rfl rfl w
  by_cases s5 : x0 = 3008
  · refine eb_tableIn (pc := 1) (j := 5) (tgt := 77) (by rw [s5]; decide) (by decide) (by rfl) (by decide) rfl ?_
    replace w := w.2.2.2.2.1 s5
    refine eb_iload_n (pc := 77) (n := 1) (i := 1) rfl rfl rfl ?_
    refine eb_iload_n (pc := 78) (n := 2) (i := 2) rfl rfl rfl ?_
    refine eb_ior (pc := 79) rfl ?_
    exact eb_ireturn (pc := 80) rfl rfl rfl w
  refine eb_tableOut (pc := 1) (tgt := 81) (by have z0 := lv_neT (a := 3003) s0 (by decide); have z1 := lv_neT (a := 3004) s1 (by decide); have z2 := lv_neT (a := 3005) s2 (by decide); have z3 := lv_neT (a := 3006) s3 (by decide); have z4 := lv_neT (a := 3007) s4 (by decide); have z5 := lv_neT (a := 3008) s5 (by decide); omega) (by decide) rfl ?_
  replace w := w.2.2.2.2.2 s0 s1 s2 s4 s5
  refine eb_iload_n (pc := 81) (n := 0) (i := 0) rfl rfl rfl ?_
  refine eb_sipush (pc := 82) (n := 3000) (v := 3000) rfl rfl ?_
  refine eb_joinL (pc2 := 116) (ls2 := [(0, .int x0), (1, .int x1), (2, .int x2)]) (st2 := []) (v := (if x0 = (3000 : Int32) then x1.toInt64 + x2.toInt64 else (if x0 = (3001 : Int32) then x1.toInt64 - x2.toInt64 else x1.toInt64 * x2.toInt64) : Int64)) ?_ (fun jj12 => ?_)
  · refine eb_lstore_n (pc := 116) (n := 3) (i := 3) (ls2 := [(3, .long (if x0 = (3000 : Int32) then x1.toInt64 + x2.toInt64 else (if x0 = (3001 : Int32) then x1.toInt64 - x2.toInt64 else x1.toInt64 * x2.toInt64) : Int64)), (0, .int x0), (1, .int x1), (2, .int x2)]) rfl (Nat.le_of_ble_eq_true rfl) rfl rfl ?_
    refine eb_lload_n (pc := 117) (n := 3) (i := 3) rfl rfl rfl ?_
    refine eb_ldc2 (pc := 118) (a := 1000000) (v := 1000000) rfl (by decide) ?_
    refine eb_lcmp (pc := 121) rfl ?_
    refine eb_joinL (pc2 := 146) (ls2 := [(3, .long (if x0 = (3000 : Int32) then x1.toInt64 + x2.toInt64 else (if x0 = (3001 : Int32) then x1.toInt64 - x2.toInt64 else x1.toInt64 * x2.toInt64) : Int64)), (0, .int x0), (1, .int x1), (2, .int x2)]) (st2 := []) (v := (if (if x0 = (3000 : Int32) then x1.toInt64 + x2.toInt64 else (if x0 = (3001 : Int32) then x1.toInt64 - x2.toInt64 else x1.toInt64 * x2.toInt64) : Int64) ≤ 1000000 then (if (-1000000) ≤ (if x0 = (3000 : Int32) then x1.toInt64 + x2.toInt64 else (if x0 = (3001 : Int32) then x1.toInt64 - x2.toInt64 else x1.toInt64 * x2.toInt64) : Int64) then (if x0 = (3000 : Int32) then x1.toInt64 + x2.toInt64 else (if x0 = (3001 : Int32) then x1.toInt64 - x2.toInt64 else x1.toInt64 * x2.toInt64) : Int64) else (-1000000)) else 1000000 : Int64)) ?_ (fun jj16 => ?_)
    · refine eb_l2i (pc := 146) rfl ?_
      exact eb_ireturn (pc := 147) rfl rfl rfl w
    refine eb_if_le (pc := 122) (tgt := 131) rfl (by decide) (fun c14 => ?_) (fun c14 => ?_)
    · replace c14 := eb_lc_le.mp c14
      refine eb_lload_n (pc := 131) (n := 3) (i := 3) rfl rfl rfl ?_
      refine eb_ldc2 (pc := 132) (a := 18446744073708551616) (v := (-1000000)) rfl (by decide) ?_
      refine eb_lcmp (pc := 135) rfl ?_
      refine eb_if_ge (pc := 136) (tgt := 145) rfl (by decide) (fun c15 => ?_) (fun c15 => ?_)
      · replace c15 := eb_lc_ge.mp c15
        refine eb_lload_n (pc := 145) (n := 3) (i := 3) rfl rfl rfl ?_
        exact jj16 _ (by simp only [if_pos c14, if_pos c15])
      · replace c15 := (fun hh => mt eb_lc_ge.mpr hh) c15
        refine eb_ldc2 (pc := 139) (a := 18446744073708551616) (v := (-1000000)) rfl (by decide) ?_
        refine eb_goto (pc := 142) (tgt := 146) rfl (by decide) ?_
        exact jj16 _ (by simp only [if_pos c14, if_neg c15])
    · replace c14 := (fun hh => mt eb_lc_le.mpr hh) c14
      refine eb_ldc2 (pc := 125) (a := 1000000) (v := 1000000) rfl (by decide) ?_
      refine eb_goto (pc := 128) (tgt := 146) rfl (by decide) ?_
      exact jj16 _ (by simp only [if_neg c14])
  refine eb_icmp_ne (pc := 85) (tgt := 96) rfl (by decide) (fun c10 => ?_) (fun c10 => ?_)
  · refine eb_iload_n (pc := 96) (n := 0) (i := 0) rfl rfl rfl ?_
    refine eb_sipush (pc := 97) (n := 3001) (v := 3001) rfl rfl ?_
    refine eb_icmp_ne (pc := 100) (tgt := 111) rfl (by decide) (fun c11 => ?_) (fun c11 => ?_)
    · refine eb_iload_n (pc := 111) (n := 1) (i := 1) rfl rfl rfl ?_
      refine eb_i2l (pc := 112) rfl ?_
      refine eb_iload_n (pc := 113) (n := 2) (i := 2) rfl rfl rfl ?_
      refine eb_i2l (pc := 114) rfl ?_
      refine eb_lmul (pc := 115) rfl ?_
      exact jj12 _ (by simp only [if_neg c10, if_neg c11])
    · refine eb_iload_n (pc := 103) (n := 1) (i := 1) rfl rfl rfl ?_
      refine eb_i2l (pc := 104) rfl ?_
      refine eb_iload_n (pc := 105) (n := 2) (i := 2) rfl rfl rfl ?_
      refine eb_i2l (pc := 106) rfl ?_
      refine eb_lsub (pc := 107) rfl ?_
      refine eb_goto (pc := 108) (tgt := 116) rfl (by decide) ?_
      exact jj12 _ (by simp only [if_neg c10, if_pos c11])
  · refine eb_iload_n (pc := 88) (n := 1) (i := 1) rfl rfl rfl ?_
    refine eb_i2l (pc := 89) rfl ?_
    refine eb_iload_n (pc := 90) (n := 2) (i := 2) rfl rfl rfl ?_
    refine eb_i2l (pc := 91) rfl ?_
    refine eb_ladd (pc := 92) rfl ?_
    refine eb_goto (pc := 93) (tgt := 116) rfl (by decide) ?_
    exact jj12 _ (by simp only [if_pos c10])
theorem T_X11_between {d : Nat} {h : eb_H} {Q : Option Value → eb_H → Prop} (x0 : Int32) (x1 : Int32) (x2 : Int32)  (ko : eb_KO h) (w : ((x0 = 3003 → Q (some (.int (eb_q (x1 = x2)))) h) ∧ (x0 = 3004 → Q (some (.int (eb_q (¬ (x2 ≤ x1))))) h) ∧ (x0 = 3005 → Q (some (.int (eb_q (¬ (x1 ≤ x2))))) h) ∧ (x0 = 3007 → Q (some (.int (x1 &&& x2))) h) ∧ (x0 = 3008 → Q (some (.int (x1 ||| x2))) h) ∧ (¬ x0 = 3003 → ¬ x0 = 3004 → ¬ x0 = 3005 → ¬ x0 = 3007 → ¬ x0 = 3008 → Q (some (.int ((if (if x0 = (3000 : Int32) then x1.toInt64 + x2.toInt64 else (if x0 = (3001 : Int32) then x1.toInt64 - x2.toInt64 else x1.toInt64 * x2.toInt64) : Int64) ≤ 1000000 then (if (-1000000) ≤ (if x0 = (3000 : Int32) then x1.toInt64 + x2.toInt64 else (if x0 = (3001 : Int32) then x1.toInt64 - x2.toInt64 else x1.toInt64 * x2.toInt64) : Int64) then (if x0 = (3000 : Int32) then x1.toInt64 + x2.toInt64 else (if x0 = (3001 : Int32) then x1.toInt64 - x2.toInt64 else x1.toInt64 * x2.toInt64) : Int64) else (-1000000)) else 1000000 : Int64).toInt32))) h))) : eb_Ct d 197 [.int x0, .int x1, .int x2] h Q :=
  eb_bodyQ (by decide) ok_X11_between (Nat.le_of_ble_eq_true rfl) (b_X11_between_0 (h0 := h) x0 x1 x2  ko w)
theorem b_X11_reckons_0 {d : Nat} {h0 h : eb_H} {Q : Option Value → eb_H → Prop} (x1 : Int32) (x2 : Int32) (x3 : Int32)  (ko : eb_KO h) (w : (vp_in ((11 : Int32) + x3) 3492) ∧ (vp_in ((11 : Int32) + (x2 / 64)) 3492) ∧ eb_Ct d 194 [.int (x2 - x2 / 64 * 64)] (eb_sI (eb_sI h s_m_words (0 : Int32).toNatClampNeg (eb_I h s_m_all ((11 : Int32) + x3).toNatClampNeg)) s_m_words (1 : Int32).toNatClampNeg (eb_I (eb_sI h s_m_words (0 : Int32).toNatClampNeg (eb_I h s_m_all ((11 : Int32) + x3).toNatClampNeg)) s_m_all ((11 : Int32) + (x2 / 64)).toNatClampNeg)) (fun r h3 => ∃ y4, r = some (.int y4) ∧ eb_KO h3 ∧ (vp_in ((34 : Int32) + x3) 3492) ∧ eb_Sn (d + 1) m_X11_reckons h0 87 [(0, .ref s_MO), (1, .int x1), (4, .int 0), (5, .int 0)] [] (eb_sI (eb_sI (eb_sI (eb_sI h3 s_m_words (2 : Int32).toNatClampNeg y4) s_m_words (3 : Int32).toNatClampNeg (eb_I (eb_sI h3 s_m_words (2 : Int32).toNatClampNeg y4) s_m_all (51 : Int32).toNatClampNeg)) s_m_words (4 : Int32).toNatClampNeg x3) s_m_words (5 : Int32).toNatClampNeg (eb_I (eb_sI (eb_sI (eb_sI h3 s_m_words (2 : Int32).toNatClampNeg y4) s_m_words (3 : Int32).toNatClampNeg (eb_I (eb_sI h3 s_m_words (2 : Int32).toNatClampNeg y4) s_m_all (51 : Int32).toNatClampNeg)) s_m_words (4 : Int32).toNatClampNeg x3) s_m_all ((34 : Int32) + x3).toNatClampNeg)) Q)) : eb_Sn (d + 1) m_X11_reckons h0 0 [(0, .ref s_MO), (1, .int x1), (2, .int x2), (3, .int x3)] [] h Q := by
  refine eb_aload_n (pc := 0) (n := 0) (i := 0) rfl rfl rfl ?_
  refine eb_getR (pc := 1) rfl rfl (by decide) (by decide) rfl (ko_s_MO_17 ko) ?_
  refine eb_iconst (pc := 4) (n := 0) (v := 0) rfl rfl ?_
  refine eb_aload_n (pc := 5) (n := 0) (i := 0) rfl rfl rfl ?_
  refine eb_getR (pc := 6) rfl rfl (by decide) (by decide) rfl (ko_s_MO_1 ko) ?_
  refine eb_bipush (pc := 9) (n := 11) (v := 11) rfl rfl ?_
  refine eb_iload_n (pc := 11) (n := 3) (i := 3) rfl rfl rfl ?_
  refine eb_iadd (pc := 12) rfl ?_
  obtain ⟨c1, w⟩ := w
  refine eb_iaload (pc := 13) rfl rfl (by decide) c1 ?_
  refine eb_iastore (pc := 14) rfl rfl (by decide) (by unfold vp_in; decide) ?_
  refine eb_aload_n (pc := 15) (n := 0) (i := 0) rfl rfl rfl ?_
  refine eb_getR (pc := 16) rfl rfl (by decide) (by decide) rfl (ko_s_MO_17 ko) ?_
  refine eb_iconst (pc := 19) (n := 1) (v := 1) rfl rfl ?_
  refine eb_aload_n (pc := 20) (n := 0) (i := 0) rfl rfl rfl ?_
  refine eb_getR (pc := 21) rfl rfl (by decide) (by decide) rfl (ko_s_MO_1 ko) ?_
  refine eb_bipush (pc := 24) (n := 11) (v := 11) rfl rfl ?_
  refine eb_iload_n (pc := 26) (n := 2) (i := 2) rfl rfl rfl ?_
  refine eb_bipush (pc := 27) (n := 64) (v := 64) rfl rfl ?_
  refine eb_idiv (pc := 29) (by decide) rfl ?_
  refine eb_iadd (pc := 30) rfl ?_
  obtain ⟨c2, w⟩ := w
  refine eb_iaload (pc := 31) rfl rfl (by decide) c2 ?_
  refine eb_iastore (pc := 32) rfl rfl (by decide) (by unfold vp_in; decide) ?_
  refine eb_aload_n (pc := 33) (n := 0) (i := 0) rfl rfl rfl ?_
  refine eb_getR (pc := 34) rfl rfl (by decide) (by decide) rfl (ko_s_MO_17 ko) ?_
  refine eb_iconst (pc := 37) (n := 2) (v := 2) rfl rfl ?_
  refine eb_iload_n (pc := 38) (n := 2) (i := 2) rfl rfl rfl ?_
  refine eb_bipush (pc := 39) (n := 64) (v := 64) rfl rfl ?_
  refine eb_irem (pc := 41) (by decide) rfl ?_
  refine eb_ctS (pc := 42) (As := [.int (x2 - x2 / 64 * 64)]) (rest := [.int 2, .ref s_m_words]) rfl (by decide) (by decide) rfl rfl (Nat.le_of_ble_eq_true rfl) ?_
  refine eb_Ct.mono w ?_
  rintro r h3 ⟨y4, rfl, ko5, w⟩
  change eb_Sn _ _ _ 45 _ [.int y4, .int 2, .ref s_m_words] _ _
  refine eb_iastore (pc := 45) rfl rfl (by decide) (by unfold vp_in; decide) ?_
  refine eb_aload_n (pc := 46) (n := 0) (i := 0) rfl rfl rfl ?_
  refine eb_getR (pc := 47) rfl rfl (by decide) (by decide) rfl (ko_s_MO_17 ko5) ?_
  refine eb_iconst (pc := 50) (n := 3) (v := 3) rfl rfl ?_
  refine eb_aload_n (pc := 51) (n := 0) (i := 0) rfl rfl rfl ?_
  refine eb_getR (pc := 52) rfl rfl (by decide) (by decide) rfl (ko_s_MO_1 ko5) ?_
  refine eb_bipush (pc := 55) (n := 51) (v := 51) rfl rfl ?_
  refine eb_iaload (pc := 57) rfl rfl (by decide) (by unfold vp_in; decide) ?_
  refine eb_iastore (pc := 58) rfl rfl (by decide) (by unfold vp_in; decide) ?_
  refine eb_aload_n (pc := 59) (n := 0) (i := 0) rfl rfl rfl ?_
  refine eb_getR (pc := 60) rfl rfl (by decide) (by decide) rfl (ko_s_MO_17 ko5) ?_
  refine eb_iconst (pc := 63) (n := 4) (v := 4) rfl rfl ?_
  refine eb_iload_n (pc := 64) (n := 3) (i := 3) rfl rfl rfl ?_
  refine eb_iastore (pc := 65) rfl rfl (by decide) (by unfold vp_in; decide) ?_
  refine eb_aload_n (pc := 66) (n := 0) (i := 0) rfl rfl rfl ?_
  refine eb_getR (pc := 67) rfl rfl (by decide) (by decide) rfl (ko_s_MO_17 ko5) ?_
  refine eb_iconst (pc := 70) (n := 5) (v := 5) rfl rfl ?_
  refine eb_aload_n (pc := 71) (n := 0) (i := 0) rfl rfl rfl ?_
  refine eb_getR (pc := 72) rfl rfl (by decide) (by decide) rfl (ko_s_MO_1 ko5) ?_
  refine eb_bipush (pc := 75) (n := 34) (v := 34) rfl rfl ?_
  refine eb_iload_n (pc := 77) (n := 3) (i := 3) rfl rfl rfl ?_
  refine eb_iadd (pc := 78) rfl ?_
  obtain ⟨c6, w⟩ := w
  refine eb_iaload (pc := 79) rfl rfl (by decide) c6 ?_
  refine eb_iastore (pc := 80) rfl rfl (by decide) (by unfold vp_in; decide) ?_
  refine eb_iconst (pc := 81) (n := 0) (v := 0) rfl rfl ?_
  refine eb_istore (pc := 82) (i := 4) (ls2 := [(4, .int 0), (0, .ref s_MO), (1, .int x1), (2, .int x2), (3, .int x3)]) (Nat.le_of_ble_eq_true rfl) rfl rfl ?_
  refine eb_iconst (pc := 84) (n := 0) (v := 0) rfl rfl ?_
  refine eb_istore (pc := 85) (i := 5) (ls2 := [(5, .int 0), (4, .int 0), (0, .ref s_MO), (1, .int x1), (2, .int x2), (3, .int x3)]) (Nat.le_of_ble_eq_true rfl) rfl rfl ?_
  exact eb_pick [2, 3, 1, 0] rfl w
theorem b_X11_reckons_87 {d : Nat} {h0 h : eb_H} {Q : Option Value → eb_H → Prop} (x1 : Int32) (x4 : Int32) (x5 : Int32)  (ko : eb_KO h) (w : (vp_in ((9 : Int32) + x1) 3492) ∧ (((eb_I h s_m_all ((9 : Int32) + x1).toNatClampNeg) ≤ x5 → Q (some (.int (eb_q ((eb_I h s_m_reckoned (0 : Int32).toNatClampNeg) = (1 : Int32))))) h) ∧ (¬ ((eb_I h s_m_all ((9 : Int32) + x1).toNatClampNeg) ≤ x5) → (vp_in ((7 : Int32) + x1) 3492) ∧ (vp_in (((264 : Int32) + (eb_I h s_m_all ((7 : Int32) + x1).toNatClampNeg)) + x5) 3492) ∧ (((3000 : Int32) ≤ (eb_I h s_m_all (((264 : Int32) + (eb_I h s_m_all ((7 : Int32) + x1).toNatClampNeg)) + x5).toNatClampNeg) → ((¬ (eb_I h s_m_all (((264 : Int32) + (eb_I h s_m_all ((7 : Int32) + x1).toNatClampNeg)) + x5).toNatClampNeg) = (3006 : Int32) → (vp_in ((x4 + (-1)) - 1) 900) ∧ (vp_in (x4 + (-1)) 900) ∧ eb_Ct d 197 [.int (eb_I h s_m_all (((264 : Int32) + (eb_I h s_m_all ((7 : Int32) + x1).toNatClampNeg)) + x5).toNatClampNeg), .int (eb_I h s_m_reckoned ((x4 + (-1)) - 1).toNatClampNeg), .int (eb_I h s_m_reckoned (x4 + (-1)).toNatClampNeg)] h (fun r h12 => ∃ y13, r = some (.int y13) ∧ eb_KO h12 ∧ (vp_in ((x4 + (-1)) - 1) 900) ∧ eb_Sn (d + 1) m_X11_reckons h0 87 [(0, .ref s_MO), (1, .int x1), (4, .int (x4 + (-1))), (5, .int (x5 + 1))] [] (eb_sI h12 s_m_reckoned ((x4 + (-1)) - 1).toNatClampNeg y13) Q)) ∧ ((eb_I h s_m_all (((264 : Int32) + (eb_I h s_m_all ((7 : Int32) + x1).toNatClampNeg)) + x5).toNatClampNeg) = (3006 : Int32) → (vp_in (x4 - 1) 900) ∧ (vp_in (x4 - 1) 900) ∧ eb_Sn (d + 1) m_X11_reckons h0 87 [(0, .ref s_MO), (1, .int x1), (4, .int x4), (5, .int (x5 + 1))] [] (eb_sI h s_m_reckoned (x4 - 1).toNatClampNeg ((1 : Int32) - (eb_I h s_m_reckoned (x4 - 1).toNatClampNeg))) Q))) ∧ (¬ ((3000 : Int32) ≤ (eb_I h s_m_all (((264 : Int32) + (eb_I h s_m_all ((7 : Int32) + x1).toNatClampNeg)) + x5).toNatClampNeg)) → (((1000 : Int32) ≤ (eb_I h s_m_all (((264 : Int32) + (eb_I h s_m_all ((7 : Int32) + x1).toNatClampNeg)) + x5).toNatClampNeg) → (vp_in ((eb_I h s_m_all (((264 : Int32) + (eb_I h s_m_all ((7 : Int32) + x1).toNatClampNeg)) + x5).toNatClampNeg) - 1000) 6) ∧ (vp_in x4 900) ∧ eb_Sn (d + 1) m_X11_reckons h0 87 [(0, .ref s_MO), (1, .int x1), (4, .int (x4 + 1)), (5, .int (x5 + 1))] [] (eb_sI h s_m_reckoned x4.toNatClampNeg (eb_I h s_m_words ((eb_I h s_m_all (((264 : Int32) + (eb_I h s_m_all ((7 : Int32) + x1).toNatClampNeg)) + x5).toNatClampNeg) - 1000).toNatClampNeg)) Q) ∧ (¬ ((1000 : Int32) ≤ (eb_I h s_m_all (((264 : Int32) + (eb_I h s_m_all ((7 : Int32) + x1).toNatClampNeg)) + x5).toNatClampNeg)) → (vp_in x4 900) ∧ eb_Sn (d + 1) m_X11_reckons h0 87 [(0, .ref s_MO), (1, .int x1), (4, .int (x4 + 1)), (5, .int (x5 + 1))] [] (eb_sI h s_m_reckoned x4.toNatClampNeg (eb_I h s_m_all (((264 : Int32) + (eb_I h s_m_all ((7 : Int32) + x1).toNatClampNeg)) + x5).toNatClampNeg)) Q))))))) : eb_Sn (d + 1) m_X11_reckons h0 87 [(0, .ref s_MO), (1, .int x1), (4, .int x4), (5, .int x5)] [] h Q := by
  refine eb_iload (pc := 87) (i := 5) rfl rfl ?_
  refine eb_aload_n (pc := 89) (n := 0) (i := 0) rfl rfl rfl ?_
  refine eb_getR (pc := 90) rfl rfl (by decide) (by decide) rfl (ko_s_MO_1 ko) ?_
  refine eb_bipush (pc := 93) (n := 9) (v := 9) rfl rfl ?_
  refine eb_iload_n (pc := 95) (n := 1) (i := 1) rfl rfl rfl ?_
  refine eb_iadd (pc := 96) rfl ?_
  obtain ⟨c1, w⟩ := w
  refine eb_iaload (pc := 97) rfl rfl (by decide) c1 ?_
  refine eb_icmp_ge (pc := 98) (tgt := 239) rfl (by decide) (fun c2 => ?_) (fun c2 => ?_)
  · replace w := w.1 c2
    refine eb_aload_n (pc := 239) (n := 0) (i := 0) rfl rfl rfl ?_
    refine eb_getR (pc := 240) rfl rfl (by decide) (by decide) rfl (ko_s_MO_16 ko) ?_
    refine eb_iconst (pc := 243) (n := 0) (v := 0) rfl rfl ?_
    refine eb_iaload (pc := 244) rfl rfl (by decide) (by unfold vp_in; decide) ?_
    refine eb_iconst (pc := 245) (n := 1) (v := 1) rfl rfl ?_
    refine eb_joinI (pc2 := 254) (ls2 := [(0, .ref s_MO), (1, .int x1), (4, .int x4), (5, .int x5)]) (st2 := []) (v := eb_q ((eb_I h s_m_reckoned (0 : Int32).toNatClampNeg) = (1 : Int32))) ?_ (fun jj4 => ?_)
    · exact eb_ireturn (pc := 254) rfl rfl eb_qn w
    refine eb_icmp_ne (pc := 246) (tgt := 253) rfl (by decide) (fun c3 => ?_) (fun c3 => ?_)
    · refine eb_iconst (pc := 253) (n := 0) (v := 0) rfl rfl ?_
      exact jj4 0 (eb_qf c3).symm
    · refine eb_iconst (pc := 249) (n := 1) (v := 1) rfl rfl ?_
      refine eb_goto (pc := 250) (tgt := 254) rfl (by decide) ?_
      exact jj4 1 (eb_qt c3).symm
  · replace w := w.2 c2
    refine eb_aload_n (pc := 101) (n := 0) (i := 0) rfl rfl rfl ?_
    refine eb_getR (pc := 102) rfl rfl (by decide) (by decide) rfl (ko_s_MO_1 ko) ?_
    refine eb_sipush (pc := 105) (n := 264) (v := 264) rfl rfl ?_
    refine eb_aload_n (pc := 108) (n := 0) (i := 0) rfl rfl rfl ?_
    refine eb_getR (pc := 109) rfl rfl (by decide) (by decide) rfl (ko_s_MO_1 ko) ?_
    refine eb_bipush (pc := 112) (n := 7) (v := 7) rfl rfl ?_
    refine eb_iload_n (pc := 114) (n := 1) (i := 1) rfl rfl rfl ?_
    refine eb_iadd (pc := 115) rfl ?_
    obtain ⟨c6, w⟩ := w
    refine eb_iaload (pc := 116) rfl rfl (by decide) c6 ?_
    refine eb_iadd (pc := 117) rfl ?_
    refine eb_iload (pc := 118) (i := 5) rfl rfl ?_
    refine eb_iadd (pc := 120) rfl ?_
    obtain ⟨c7, w⟩ := w
    refine eb_iaload (pc := 121) rfl rfl (by decide) c7 ?_
    refine eb_istore (pc := 122) (i := 6) (ls2 := [(6, .int (eb_I h s_m_all (((264 : Int32) + (eb_I h s_m_all ((7 : Int32) + x1).toNatClampNeg)) + x5).toNatClampNeg)), (0, .ref s_MO), (1, .int x1), (4, .int x4), (5, .int x5)]) (Nat.le_of_ble_eq_true rfl) rfl rfl ?_
    refine eb_iload (pc := 124) (i := 6) rfl rfl ?_
    refine eb_sipush (pc := 126) (n := 3000) (v := 3000) rfl rfl ?_
    refine eb_icmp_ge (pc := 129) (tgt := 169) rfl (by decide) (fun c8 => ?_) (fun c8 => ?_)
    · replace w := w.1 c8
      refine eb_iload (pc := 169) (i := 6) rfl rfl ?_
      refine eb_sipush (pc := 171) (n := 3006) (v := 3006) rfl rfl ?_
      refine eb_icmp_ne (pc := 174) (tgt := 200) rfl (by decide) (fun c9 => ?_) (fun c9 => ?_)
      · replace w := w.1 c9
        refine eb_iinc (pc := 200) (i := 4) (n := -1) (v := x4 + (-1)) (ls2 := [(4, .int (x4 + (-1))), (6, .int (eb_I h s_m_all (((264 : Int32) + (eb_I h s_m_all ((7 : Int32) + x1).toNatClampNeg)) + x5).toNatClampNeg)), (0, .ref s_MO), (1, .int x1), (5, .int x5)]) (Nat.le_of_ble_eq_true rfl) rfl rfl rfl rfl ?_
        refine eb_aload_n (pc := 203) (n := 0) (i := 0) rfl rfl rfl ?_
        refine eb_getR (pc := 204) rfl rfl (by decide) (by decide) rfl (ko_s_MO_16 ko) ?_
        refine eb_iload (pc := 207) (i := 4) rfl rfl ?_
        refine eb_iconst (pc := 209) (n := 1) (v := 1) rfl rfl ?_
        refine eb_isub (pc := 210) rfl ?_
        refine eb_iload (pc := 211) (i := 6) rfl rfl ?_
        refine eb_aload_n (pc := 213) (n := 0) (i := 0) rfl rfl rfl ?_
        refine eb_getR (pc := 214) rfl rfl (by decide) (by decide) rfl (ko_s_MO_16 ko) ?_
        refine eb_iload (pc := 217) (i := 4) rfl rfl ?_
        refine eb_iconst (pc := 219) (n := 1) (v := 1) rfl rfl ?_
        refine eb_isub (pc := 220) rfl ?_
        obtain ⟨c10, w⟩ := w
        refine eb_iaload (pc := 221) rfl rfl (by decide) c10 ?_
        refine eb_aload_n (pc := 222) (n := 0) (i := 0) rfl rfl rfl ?_
        refine eb_getR (pc := 223) rfl rfl (by decide) (by decide) rfl (ko_s_MO_16 ko) ?_
        refine eb_iload (pc := 226) (i := 4) rfl rfl ?_
        obtain ⟨c11, w⟩ := w
        refine eb_iaload (pc := 228) rfl rfl (by decide) c11 ?_
        refine eb_ctS (pc := 229) (As := [.int (eb_I h s_m_all (((264 : Int32) + (eb_I h s_m_all ((7 : Int32) + x1).toNatClampNeg)) + x5).toNatClampNeg), .int (eb_I h s_m_reckoned ((x4 + (-1)) - 1).toNatClampNeg), .int (eb_I h s_m_reckoned (x4 + (-1)).toNatClampNeg)]) (rest := [.int ((x4 + (-1)) - 1), .ref s_m_reckoned]) rfl (by decide) (by decide) rfl rfl (Nat.le_of_ble_eq_true rfl) ?_
        refine eb_Ct.mono w ?_
        rintro r h12 ⟨y13, rfl, ko14, w⟩
        change eb_Sn _ _ _ 232 _ [.int y13, .int ((x4 + (-1)) - 1), .ref s_m_reckoned] _ _
        obtain ⟨c15, w⟩ := w
        refine eb_iastore (pc := 232) rfl rfl (by decide) c15 ?_
        refine eb_iinc (pc := 233) (i := 5) (n := 1) (v := x5 + 1) (ls2 := [(5, .int (x5 + 1)), (4, .int (x4 + (-1))), (6, .int (eb_I h s_m_all (((264 : Int32) + (eb_I h s_m_all ((7 : Int32) + x1).toNatClampNeg)) + x5).toNatClampNeg)), (0, .ref s_MO), (1, .int x1)]) (Nat.le_of_ble_eq_true rfl) rfl rfl rfl rfl ?_
        refine eb_goto (pc := 236) (tgt := 87) rfl (by decide) ?_
        exact eb_pick [3, 4, 1, 0] rfl w
      · replace w := w.2 c9
        refine eb_aload_n (pc := 177) (n := 0) (i := 0) rfl rfl rfl ?_
        refine eb_getR (pc := 178) rfl rfl (by decide) (by decide) rfl (ko_s_MO_16 ko) ?_
        refine eb_iload (pc := 181) (i := 4) rfl rfl ?_
        refine eb_iconst (pc := 183) (n := 1) (v := 1) rfl rfl ?_
        refine eb_isub (pc := 184) rfl ?_
        refine eb_iconst (pc := 185) (n := 1) (v := 1) rfl rfl ?_
        refine eb_aload_n (pc := 186) (n := 0) (i := 0) rfl rfl rfl ?_
        refine eb_getR (pc := 187) rfl rfl (by decide) (by decide) rfl (ko_s_MO_16 ko) ?_
        refine eb_iload (pc := 190) (i := 4) rfl rfl ?_
        refine eb_iconst (pc := 192) (n := 1) (v := 1) rfl rfl ?_
        refine eb_isub (pc := 193) rfl ?_
        obtain ⟨c16, w⟩ := w
        refine eb_iaload (pc := 194) rfl rfl (by decide) c16 ?_
        refine eb_isub (pc := 195) rfl ?_
        obtain ⟨c17, w⟩ := w
        refine eb_iastore (pc := 196) rfl rfl (by decide) c17 ?_
        refine eb_goto (pc := 197) (tgt := 233) rfl (by decide) ?_
        refine eb_iinc (pc := 233) (i := 5) (n := 1) (v := x5 + 1) (ls2 := [(5, .int (x5 + 1)), (6, .int (eb_I h s_m_all (((264 : Int32) + (eb_I h s_m_all ((7 : Int32) + x1).toNatClampNeg)) + x5).toNatClampNeg)), (0, .ref s_MO), (1, .int x1), (4, .int x4)]) (Nat.le_of_ble_eq_true rfl) rfl rfl rfl rfl ?_
        refine eb_goto (pc := 236) (tgt := 87) rfl (by decide) ?_
        exact eb_pick [2, 3, 4, 0] rfl w
    · replace w := w.2 c8
      refine eb_aload_n (pc := 132) (n := 0) (i := 0) rfl rfl rfl ?_
      refine eb_getR (pc := 133) rfl rfl (by decide) (by decide) rfl (ko_s_MO_16 ko) ?_
      refine eb_iload (pc := 136) (i := 4) rfl rfl ?_
      refine eb_iload (pc := 138) (i := 6) rfl rfl ?_
      refine eb_sipush (pc := 140) (n := 1000) (v := 1000) rfl rfl ?_
      refine eb_icmp_ge (pc := 143) (tgt := 151) rfl (by decide) (fun c18 => ?_) (fun c18 => ?_)
      · replace w := w.1 c18
        refine eb_aload_n (pc := 151) (n := 0) (i := 0) rfl rfl rfl ?_
        refine eb_getR (pc := 152) rfl rfl (by decide) (by decide) rfl (ko_s_MO_17 ko) ?_
        refine eb_iload (pc := 155) (i := 6) rfl rfl ?_
        refine eb_sipush (pc := 157) (n := 1000) (v := 1000) rfl rfl ?_
        refine eb_isub (pc := 160) rfl ?_
        obtain ⟨c19, w⟩ := w
        refine eb_iaload (pc := 161) rfl rfl (by decide) c19 ?_
        obtain ⟨c20, w⟩ := w
        refine eb_iastore (pc := 162) rfl rfl (by decide) c20 ?_
        refine eb_iinc (pc := 163) (i := 4) (n := 1) (v := x4 + 1) (ls2 := [(4, .int (x4 + 1)), (6, .int (eb_I h s_m_all (((264 : Int32) + (eb_I h s_m_all ((7 : Int32) + x1).toNatClampNeg)) + x5).toNatClampNeg)), (0, .ref s_MO), (1, .int x1), (5, .int x5)]) (Nat.le_of_ble_eq_true rfl) rfl rfl rfl rfl ?_
        refine eb_goto (pc := 166) (tgt := 233) rfl (by decide) ?_
        refine eb_iinc (pc := 233) (i := 5) (n := 1) (v := x5 + 1) (ls2 := [(5, .int (x5 + 1)), (4, .int (x4 + 1)), (6, .int (eb_I h s_m_all (((264 : Int32) + (eb_I h s_m_all ((7 : Int32) + x1).toNatClampNeg)) + x5).toNatClampNeg)), (0, .ref s_MO), (1, .int x1)]) (Nat.le_of_ble_eq_true rfl) rfl rfl rfl rfl ?_
        refine eb_goto (pc := 236) (tgt := 87) rfl (by decide) ?_
        exact eb_pick [3, 4, 1, 0] rfl w
      · replace w := w.2 c18
        refine eb_iload (pc := 146) (i := 6) rfl rfl ?_
        refine eb_goto (pc := 148) (tgt := 162) rfl (by decide) ?_
        obtain ⟨c21, w⟩ := w
        refine eb_iastore (pc := 162) rfl rfl (by decide) c21 ?_
        refine eb_iinc (pc := 163) (i := 4) (n := 1) (v := x4 + 1) (ls2 := [(4, .int (x4 + 1)), (6, .int (eb_I h s_m_all (((264 : Int32) + (eb_I h s_m_all ((7 : Int32) + x1).toNatClampNeg)) + x5).toNatClampNeg)), (0, .ref s_MO), (1, .int x1), (5, .int x5)]) (Nat.le_of_ble_eq_true rfl) rfl rfl rfl rfl ?_
        refine eb_goto (pc := 166) (tgt := 233) rfl (by decide) ?_
        refine eb_iinc (pc := 233) (i := 5) (n := 1) (v := x5 + 1) (ls2 := [(5, .int (x5 + 1)), (4, .int (x4 + 1)), (6, .int (eb_I h s_m_all (((264 : Int32) + (eb_I h s_m_all ((7 : Int32) + x1).toNatClampNeg)) + x5).toNatClampNeg)), (0, .ref s_MO), (1, .int x1)]) (Nat.le_of_ble_eq_true rfl) rfl rfl rfl rfl ?_
        refine eb_goto (pc := 236) (tgt := 87) rfl (by decide) ?_
        exact eb_pick [3, 4, 1, 0] rfl w
theorem T_X11_reckons {d : Nat} {h : eb_H} {Q : Option Value → eb_H → Prop} (x1 : Int32) (x2 : Int32) (x3 : Int32)  (ko : eb_KO h) (w : (vp_in ((11 : Int32) + x3) 3492) ∧ (vp_in ((11 : Int32) + (x2 / 64)) 3492) ∧ eb_Ct d 194 [.int (x2 - x2 / 64 * 64)] (eb_sI (eb_sI h s_m_words (0 : Int32).toNatClampNeg (eb_I h s_m_all ((11 : Int32) + x3).toNatClampNeg)) s_m_words (1 : Int32).toNatClampNeg (eb_I (eb_sI h s_m_words (0 : Int32).toNatClampNeg (eb_I h s_m_all ((11 : Int32) + x3).toNatClampNeg)) s_m_all ((11 : Int32) + (x2 / 64)).toNatClampNeg)) (fun r h3 => ∃ y4, r = some (.int y4) ∧ eb_KO h3 ∧ (vp_in ((34 : Int32) + x3) 3492) ∧ eb_Sn (d + 1) m_X11_reckons h 87 [(0, .ref s_MO), (1, .int x1), (4, .int 0), (5, .int 0)] [] (eb_sI (eb_sI (eb_sI (eb_sI h3 s_m_words (2 : Int32).toNatClampNeg y4) s_m_words (3 : Int32).toNatClampNeg (eb_I (eb_sI h3 s_m_words (2 : Int32).toNatClampNeg y4) s_m_all (51 : Int32).toNatClampNeg)) s_m_words (4 : Int32).toNatClampNeg x3) s_m_words (5 : Int32).toNatClampNeg (eb_I (eb_sI (eb_sI (eb_sI h3 s_m_words (2 : Int32).toNatClampNeg y4) s_m_words (3 : Int32).toNatClampNeg (eb_I (eb_sI h3 s_m_words (2 : Int32).toNatClampNeg y4) s_m_all (51 : Int32).toNatClampNeg)) s_m_words (4 : Int32).toNatClampNeg x3) s_m_all ((34 : Int32) + x3).toNatClampNeg)) Q)) : eb_Ct (d + 1) 198 [.ref s_MO, .int x1, .int x2, .int x3] h Q :=
  eb_bodyQ (by decide) ok_X11_reckons (Nat.le_of_ble_eq_true rfl) (b_X11_reckons_0 (h0 := h) x1 x2 x3  ko w)
