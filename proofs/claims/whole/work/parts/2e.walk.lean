theorem b_X10_put_0 {d : Nat} {h0 h : eb_H} {Q : Option Value → eb_H → Prop} (x1 : Int32) (x2 : Int32)  (ko : eb_KO h) (w : eb_Ct d 62 [.ref s_now, .int x1] h (fun r h1 => ∃ y2, r = some (.int y2) ∧ eb_KO h1 ∧ ∃ r4, eb_R h1 s_EB 2 = some r4 ∧ eb_kd r4 = 9 ∧ eb_Ct d 80 [.ref r4, .int x1] h1 (fun r h7 => ∃ y8, r = some (.int y8) ∧ eb_KO h7 ∧ (((if y8 = 0 then 0 else (if x2 < 0 then 0 else (if (6 : Int32) < x2 then 0 else 1)) : Int32) = 0 → Q (some (.int (-11))) h7) ∧ (¬ ((if y8 = 0 then 0 else (if x2 < 0 then 0 else (if (6 : Int32) < x2 then 0 else 1)) : Int32) = 0) → eb_Ct d 139 [.ref s_EB, .int (((1000 : Int32) + ((10 : Int32) * x1)) + x2)] h7 (fun r h14 => ∃ y15, r = some (.int y15) ∧ eb_KO h14 ∧ Q (some (.int (if y15 = 0 then (-11) else y2 : Int32))) h14)))))) : eb_Sn (d + 1) m_X10_put h0 0 [(0, .ref s_EB), (1, .int x1), (2, .int x2)] [] h Q := by
  refine eb_aload_n (pc := 0) (n := 0) (i := 0) rfl rfl rfl ?_
  refine eb_getR (pc := 1) rfl rfl (by decide) (by decide) rfl (ko_s_EB_3 ko) ?_
  refine eb_iload_n (pc := 4) (n := 1) (i := 1) rfl rfl rfl ?_
  refine eb_ctV (pc := 5) (As := [.int x1]) (rest := []) rfl (by decide) rfl rfl (by decide) rfl (Nat.le_of_ble_eq_true rfl) ?_
  refine eb_Ct.mono w ?_
  rintro r h1 ⟨y2, rfl, ko3, w⟩
  change eb_Sn _ _ _ 8 _ [.int y2] _ _
  refine eb_istore_n (pc := 8) (n := 3) (i := 3) (ls2 := [(3, .int y2), (0, .ref s_EB), (1, .int x1), (2, .int x2)]) rfl (Nat.le_of_ble_eq_true rfl) rfl rfl ?_
  refine eb_aload_n (pc := 9) (n := 0) (i := 0) rfl rfl rfl ?_
  obtain ⟨r4, q5, k6, w⟩ := w
  refine eb_getR (pc := 10) rfl rfl (by decide) (by decide) rfl q5 ?_
  refine eb_iload_n (pc := 13) (n := 1) (i := 1) rfl rfl rfl ?_
  refine eb_ctV (pc := 14) (As := [.int x1]) (rest := []) rfl (by decide) rfl k6 (by decide) rfl (Nat.le_of_ble_eq_true rfl) ?_
  refine eb_Ct.mono w ?_
  rintro r h7 ⟨y8, rfl, ko9, w⟩
  change eb_Sn _ _ _ 17 _ [.int y8] _ _
  have jj19 : eb_Sn (d + 1) m_X10_put h0 35 [(3, .int y2), (0, .ref s_EB), (1, .int x1), (2, .int x2)] [.int (if y8 = 0 then 0 else (if x2 < 0 then 0 else (if (6 : Int32) < x2 then 0 else 1)) : Int32)] h7 Q := by
    refine eb_istore (pc := 35) (i := 4) (ls2 := [(4, .int (if y8 = 0 then 0 else (if x2 < 0 then 0 else (if (6 : Int32) < x2 then 0 else 1)) : Int32)), (3, .int y2), (0, .ref s_EB), (1, .int x1), (2, .int x2)]) (Nat.le_of_ble_eq_true rfl) rfl rfl ?_
    refine eb_iload (pc := 37) (i := 4) rfl rfl ?_
    refine eb_if_eq (pc := 39) (tgt := 63) rfl (by decide) (fun c13 => ?_) (fun c13 => ?_)
    · replace w := w.1 c13
      refine eb_bipush (pc := 63) (n := -11) (v := (-11)) rfl rfl ?_
      exact eb_ireturn (pc := 65) rfl rfl rfl w
    · replace w := w.2 c13
      refine eb_aload_n (pc := 42) (n := 0) (i := 0) rfl rfl rfl ?_
      refine eb_sipush (pc := 43) (n := 1000) (v := 1000) rfl rfl ?_
      refine eb_bipush (pc := 46) (n := 10) (v := 10) rfl rfl ?_
      refine eb_iload_n (pc := 48) (n := 1) (i := 1) rfl rfl rfl ?_
      refine eb_imul (pc := 49) rfl ?_
      refine eb_iadd (pc := 50) rfl ?_
      refine eb_iload_n (pc := 51) (n := 2) (i := 2) rfl rfl rfl ?_
      refine eb_iadd (pc := 52) rfl ?_
      refine eb_ctV (pc := 53) (As := [.int (((1000 : Int32) + ((10 : Int32) * x1)) + x2)]) (rest := []) rfl (by decide) rfl rfl (by decide) rfl (Nat.le_of_ble_eq_true rfl) ?_
      refine eb_Ct.mono w ?_
      rintro r h14 ⟨y15, rfl, ko16, w⟩
      change eb_Sn _ _ _ 56 _ [.int y15] _ _
      have jj18 : eb_Sn (d + 1) m_X10_put h0 65 [(4, .int (if y8 = 0 then 0 else (if x2 < 0 then 0 else (if (6 : Int32) < x2 then 0 else 1)) : Int32)), (3, .int y2), (0, .ref s_EB), (1, .int x1), (2, .int x2)] [.int (if y15 = 0 then (-11) else y2 : Int32)] h14 Q := by
        exact eb_ireturn (pc := 65) rfl rfl rfl w
      refine eb_if_eq (pc := 56) (tgt := 63) rfl (by decide) (fun c17 => ?_) (fun c17 => ?_)
      · refine eb_bipush (pc := 63) (n := -11) (v := (-11)) rfl rfl ?_
        simp only [if_pos c17] at jj18 ⊢
        exact jj18
      · refine eb_iload_n (pc := 59) (n := 3) (i := 3) rfl rfl rfl ?_
        refine eb_goto (pc := 60) (tgt := 65) rfl (by decide) ?_
        simp only [if_neg c17] at jj18 ⊢
        exact jj18
  refine eb_if_eq (pc := 17) (tgt := 34) rfl (by decide) (fun c10 => ?_) (fun c10 => ?_)
  · refine eb_iconst (pc := 34) (n := 0) (v := 0) rfl rfl ?_
    simp only [if_pos c10] at jj19 ⊢
    exact jj19
  · refine eb_iload_n (pc := 20) (n := 2) (i := 2) rfl rfl rfl ?_
    refine eb_if_lt (pc := 21) (tgt := 34) rfl (by decide) (fun c11 => ?_) (fun c11 => ?_)
    · refine eb_iconst (pc := 34) (n := 0) (v := 0) rfl rfl ?_
      simp only [if_neg c10, if_pos c11] at jj19 ⊢
      exact jj19
    · refine eb_iload_n (pc := 24) (n := 2) (i := 2) rfl rfl rfl ?_
      refine eb_bipush (pc := 25) (n := 6) (v := 6) rfl rfl ?_
      refine eb_icmp_gt (pc := 27) (tgt := 34) rfl (by decide) (fun c12 => ?_) (fun c12 => ?_)
      · refine eb_iconst (pc := 34) (n := 0) (v := 0) rfl rfl ?_
        simp only [if_neg c10, if_neg c11, if_pos c12] at jj19 ⊢
        exact jj19
      · refine eb_iconst (pc := 30) (n := 1) (v := 1) rfl rfl ?_
        refine eb_goto (pc := 31) (tgt := 35) rfl (by decide) ?_
        simp only [if_neg c10, if_neg c11, if_neg c12] at jj19 ⊢
        exact jj19
theorem T_X10_put {d : Nat} {h : eb_H} {Q : Option Value → eb_H → Prop} (x1 : Int32) (x2 : Int32)  (ko : eb_KO h) (w : eb_Ct d 62 [.ref s_now, .int x1] h (fun r h1 => ∃ y2, r = some (.int y2) ∧ eb_KO h1 ∧ ∃ r4, eb_R h1 s_EB 2 = some r4 ∧ eb_kd r4 = 9 ∧ eb_Ct d 80 [.ref r4, .int x1] h1 (fun r h7 => ∃ y8, r = some (.int y8) ∧ eb_KO h7 ∧ (((if y8 = 0 then 0 else (if x2 < 0 then 0 else (if (6 : Int32) < x2 then 0 else 1)) : Int32) = 0 → Q (some (.int (-11))) h7) ∧ (¬ ((if y8 = 0 then 0 else (if x2 < 0 then 0 else (if (6 : Int32) < x2 then 0 else 1)) : Int32) = 0) → eb_Ct d 139 [.ref s_EB, .int (((1000 : Int32) + ((10 : Int32) * x1)) + x2)] h7 (fun r h14 => ∃ y15, r = some (.int y15) ∧ eb_KO h14 ∧ Q (some (.int (if y15 = 0 then (-11) else y2 : Int32))) h14)))))) : eb_Ct (d + 1) 105 [.ref s_EB, .int x1, .int x2] h Q :=
  eb_bodyQ (by decide) ok_X10_put (Nat.le_of_ble_eq_true rfl) (b_X10_put_0 (h0 := h) x1 x2  ko w)
theorem b_X10_drift_0 {d : Nat} {h0 h : eb_H} {Q : Option Value → eb_H → Prop} (x1 : Int32)  (ko : eb_KO h) (w : ∃ r1, eb_R h s_EB 2 = some r1 ∧ eb_kd r1 = 9 ∧ eb_Ct d 80 [.ref r1, .int x1] h (fun r h4 => ∃ y5, r = some (.int y5) ∧ eb_KO h4 ∧ ((y5 = 0 → Q (some (.int (-11))) h4) ∧ (¬ (y5 = 0) → eb_Ct d 139 [.ref s_EB, .int ((200 : Int32) + x1)] h4 (fun r h8 => ∃ y9, r = some (.int y9) ∧ eb_KO h8 ∧ ((¬ y9 = 0 → eb_Ct d 64 [.ref s_now, .int x1] h8 (fun r h12 => ∃ y13, r = some (.int y13) ∧ eb_KO h12 ∧ Q (some (.int (if y13 = 0 then 0 else 1 : Int32))) h12)) ∧ (y9 = 0 → Q (some (.int (-11))) h8))))))) : eb_Sn (d + 1) m_X10_drift h0 0 [(0, .ref s_EB), (1, .int x1)] [] h Q := by
  refine eb_aload_n (pc := 0) (n := 0) (i := 0) rfl rfl rfl ?_
  obtain ⟨r1, q2, k3, w⟩ := w
  refine eb_getR (pc := 1) rfl rfl (by decide) (by decide) rfl q2 ?_
  refine eb_iload_n (pc := 4) (n := 1) (i := 1) rfl rfl rfl ?_
  refine eb_ctV (pc := 5) (As := [.int x1]) (rest := []) rfl (by decide) rfl k3 (by decide) rfl (Nat.le_of_ble_eq_true rfl) ?_
  refine eb_Ct.mono w ?_
  rintro r h4 ⟨y5, rfl, ko6, w⟩
  change eb_Sn _ _ _ 8 _ [.int y5] _ _
  refine eb_if_eq (pc := 8) (tgt := 23) rfl (by decide) (fun c7 => ?_) (fun c7 => ?_)
  · replace w := w.1 c7
    refine eb_bipush (pc := 23) (n := -11) (v := (-11)) rfl rfl ?_
    exact eb_ireturn (pc := 25) rfl rfl rfl w
  · replace w := w.2 c7
    refine eb_aload_n (pc := 11) (n := 0) (i := 0) rfl rfl rfl ?_
    refine eb_sipush (pc := 12) (n := 200) (v := 200) rfl rfl ?_
    refine eb_iload_n (pc := 15) (n := 1) (i := 1) rfl rfl rfl ?_
    refine eb_iadd (pc := 16) rfl ?_
    refine eb_ctV (pc := 17) (As := [.int ((200 : Int32) + x1)]) (rest := []) rfl (by decide) rfl rfl (by decide) rfl (Nat.le_of_ble_eq_true rfl) ?_
    refine eb_Ct.mono w ?_
    rintro r h8 ⟨y9, rfl, ko10, w⟩
    change eb_Sn _ _ _ 20 _ [.int y9] _ _
    refine eb_if_ne (pc := 20) (tgt := 26) rfl (by decide) (fun c11 => ?_) (fun c11 => ?_)
    · replace w := w.1 c11
      refine eb_aload_n (pc := 26) (n := 0) (i := 0) rfl rfl rfl ?_
      refine eb_getR (pc := 27) rfl rfl (by decide) (by decide) rfl (ko_s_EB_3 ko10) ?_
      refine eb_iload_n (pc := 30) (n := 1) (i := 1) rfl rfl rfl ?_
      refine eb_ctV (pc := 31) (As := [.int x1]) (rest := []) rfl (by decide) rfl rfl (by decide) rfl (Nat.le_of_ble_eq_true rfl) ?_
      refine eb_Ct.mono w ?_
      rintro r h12 ⟨y13, rfl, ko14, w⟩
      change eb_Sn _ _ _ 34 _ [.int y13] _ _
      have jj16 : eb_Sn (d + 1) m_X10_drift h0 42 [(0, .ref s_EB), (1, .int x1)] [.int (if y13 = 0 then 0 else 1 : Int32)] h12 Q := by
        exact eb_ireturn (pc := 42) rfl rfl rfl w
      refine eb_if_eq (pc := 34) (tgt := 41) rfl (by decide) (fun c15 => ?_) (fun c15 => ?_)
      · refine eb_iconst (pc := 41) (n := 0) (v := 0) rfl rfl ?_
        simp only [if_pos c15] at jj16 ⊢
        exact jj16
      · refine eb_iconst (pc := 37) (n := 1) (v := 1) rfl rfl ?_
        refine eb_goto (pc := 38) (tgt := 42) rfl (by decide) ?_
        simp only [if_neg c15] at jj16 ⊢
        exact jj16
    · replace w := w.2 c11
      refine eb_bipush (pc := 23) (n := -11) (v := (-11)) rfl rfl ?_
      exact eb_ireturn (pc := 25) rfl rfl rfl w
theorem T_X10_drift {d : Nat} {h : eb_H} {Q : Option Value → eb_H → Prop} (x1 : Int32)  (ko : eb_KO h) (w : ∃ r1, eb_R h s_EB 2 = some r1 ∧ eb_kd r1 = 9 ∧ eb_Ct d 80 [.ref r1, .int x1] h (fun r h4 => ∃ y5, r = some (.int y5) ∧ eb_KO h4 ∧ ((y5 = 0 → Q (some (.int (-11))) h4) ∧ (¬ (y5 = 0) → eb_Ct d 139 [.ref s_EB, .int ((200 : Int32) + x1)] h4 (fun r h8 => ∃ y9, r = some (.int y9) ∧ eb_KO h8 ∧ ((¬ y9 = 0 → eb_Ct d 64 [.ref s_now, .int x1] h8 (fun r h12 => ∃ y13, r = some (.int y13) ∧ eb_KO h12 ∧ Q (some (.int (if y13 = 0 then 0 else 1 : Int32))) h12)) ∧ (y9 = 0 → Q (some (.int (-11))) h8))))))) : eb_Ct (d + 1) 106 [.ref s_EB, .int x1] h Q :=
  eb_bodyQ (by decide) ok_X10_drift (Nat.le_of_ble_eq_true rfl) (b_X10_drift_0 (h0 := h) x1  ko w)
theorem b_X10_wind_0 {d : Nat} {h0 h : eb_H} {Q : Option Value → eb_H → Prop} (x1 : Int32)  (ko : eb_KO h) (w : (((if x1 < 0 then 0 else (if (9 : Int32) < x1 then 0 else 1) : Int32) = 0 → Q (some (.int (-11))) h) ∧ (¬ ((if x1 < 0 then 0 else (if (9 : Int32) < x1 then 0 else 1) : Int32) = 0) → eb_Ct d 139 [.ref s_EB, .int ((300 : Int32) + x1)] h (fun r h4 => ∃ y5, r = some (.int y5) ∧ eb_KO h4 ∧ Q (some (.int (if y5 = 0 then (-11) else eb_I h s_now 4 : Int32))) h4)))) : eb_Sn (d + 1) m_X10_wind h0 0 [(0, .ref s_EB), (1, .int x1)] [] h Q := by
  refine eb_aload_n (pc := 0) (n := 0) (i := 0) rfl rfl rfl ?_
  refine eb_getR (pc := 1) rfl rfl (by decide) (by decide) rfl (ko_s_EB_3 ko) ?_
  refine eb_getI (pc := 4) rfl rfl (by decide) (by decide) rfl ?_
  refine eb_istore_n (pc := 7) (n := 2) (i := 2) (ls2 := [(2, .int (eb_I h s_now 4)), (0, .ref s_EB), (1, .int x1)]) rfl (Nat.le_of_ble_eq_true rfl) rfl rfl ?_
  refine eb_iload_n (pc := 8) (n := 1) (i := 1) rfl rfl rfl ?_
  have jj9 : eb_Sn (d + 1) m_X10_wind h0 23 [(2, .int (eb_I h s_now 4)), (0, .ref s_EB), (1, .int x1)] [.int (if x1 < 0 then 0 else (if (9 : Int32) < x1 then 0 else 1) : Int32)] h Q := by
    refine eb_istore_n (pc := 23) (n := 3) (i := 3) (ls2 := [(3, .int (if x1 < 0 then 0 else (if (9 : Int32) < x1 then 0 else 1) : Int32)), (2, .int (eb_I h s_now 4)), (0, .ref s_EB), (1, .int x1)]) rfl (Nat.le_of_ble_eq_true rfl) rfl rfl ?_
    refine eb_iload_n (pc := 24) (n := 3) (i := 3) rfl rfl rfl ?_
    refine eb_if_eq (pc := 25) (tgt := 44) rfl (by decide) (fun c3 => ?_) (fun c3 => ?_)
    · replace w := w.1 c3
      refine eb_bipush (pc := 44) (n := -11) (v := (-11)) rfl rfl ?_
      exact eb_ireturn (pc := 46) rfl rfl rfl w
    · replace w := w.2 c3
      refine eb_aload_n (pc := 28) (n := 0) (i := 0) rfl rfl rfl ?_
      refine eb_sipush (pc := 29) (n := 300) (v := 300) rfl rfl ?_
      refine eb_iload_n (pc := 32) (n := 1) (i := 1) rfl rfl rfl ?_
      refine eb_iadd (pc := 33) rfl ?_
      refine eb_ctV (pc := 34) (As := [.int ((300 : Int32) + x1)]) (rest := []) rfl (by decide) rfl rfl (by decide) rfl (Nat.le_of_ble_eq_true rfl) ?_
      refine eb_Ct.mono w ?_
      rintro r h4 ⟨y5, rfl, ko6, w⟩
      change eb_Sn _ _ _ 37 _ [.int y5] _ _
      have jj8 : eb_Sn (d + 1) m_X10_wind h0 46 [(3, .int (if x1 < 0 then 0 else (if (9 : Int32) < x1 then 0 else 1) : Int32)), (2, .int (eb_I h s_now 4)), (0, .ref s_EB), (1, .int x1)] [.int (if y5 = 0 then (-11) else eb_I h s_now 4 : Int32)] h4 Q := by
        exact eb_ireturn (pc := 46) rfl rfl rfl w
      refine eb_if_eq (pc := 37) (tgt := 44) rfl (by decide) (fun c7 => ?_) (fun c7 => ?_)
      · refine eb_bipush (pc := 44) (n := -11) (v := (-11)) rfl rfl ?_
        simp only [if_pos c7] at jj8 ⊢
        exact jj8
      · refine eb_iload_n (pc := 40) (n := 2) (i := 2) rfl rfl rfl ?_
        refine eb_goto (pc := 41) (tgt := 46) rfl (by decide) ?_
        simp only [if_neg c7] at jj8 ⊢
        exact jj8
  refine eb_if_lt (pc := 9) (tgt := 22) rfl (by decide) (fun c1 => ?_) (fun c1 => ?_)
  · refine eb_iconst (pc := 22) (n := 0) (v := 0) rfl rfl ?_
    simp only [if_pos c1] at jj9 ⊢
    exact jj9
  · refine eb_iload_n (pc := 12) (n := 1) (i := 1) rfl rfl rfl ?_
    refine eb_bipush (pc := 13) (n := 9) (v := 9) rfl rfl ?_
    refine eb_icmp_gt (pc := 15) (tgt := 22) rfl (by decide) (fun c2 => ?_) (fun c2 => ?_)
    · refine eb_iconst (pc := 22) (n := 0) (v := 0) rfl rfl ?_
      simp only [if_neg c1, if_pos c2] at jj9 ⊢
      exact jj9
    · refine eb_iconst (pc := 18) (n := 1) (v := 1) rfl rfl ?_
      refine eb_goto (pc := 19) (tgt := 23) rfl (by decide) ?_
      simp only [if_neg c1, if_neg c2] at jj9 ⊢
      exact jj9
theorem T_X10_wind {d : Nat} {h : eb_H} {Q : Option Value → eb_H → Prop} (x1 : Int32)  (ko : eb_KO h) (w : (((if x1 < 0 then 0 else (if (9 : Int32) < x1 then 0 else 1) : Int32) = 0 → Q (some (.int (-11))) h) ∧ (¬ ((if x1 < 0 then 0 else (if (9 : Int32) < x1 then 0 else 1) : Int32) = 0) → eb_Ct d 139 [.ref s_EB, .int ((300 : Int32) + x1)] h (fun r h4 => ∃ y5, r = some (.int y5) ∧ eb_KO h4 ∧ Q (some (.int (if y5 = 0 then (-11) else eb_I h s_now 4 : Int32))) h4)))) : eb_Ct (d + 1) 107 [.ref s_EB, .int x1] h Q :=
  eb_bodyQ (by decide) ok_X10_wind (Nat.le_of_ble_eq_true rfl) (b_X10_wind_0 (h0 := h) x1  ko w)
theorem b_X10_undo_0 {d : Nat} {h0 h : eb_H} {Q : Option Value → eb_H → Prop} (x1 : Int32)  (ko : eb_KO h) (w : ((x1 < (1 : Int32) → Q (some (.int (-3))) h) ∧ (¬ (x1 < (1 : Int32)) → ((x1 ≤ (eb_I h s_past 2) → eb_Ct d 43 [.ref s_past, .ref s_now, .int x1] h (fun r h3 => r = none ∧ eb_KO h3 ∧ Q (some (.int (eb_I h3 s_past 2))) h3)) ∧ (¬ (x1 ≤ (eb_I h s_past 2)) → Q (some (.int (-3))) h))))) : eb_Sn (d + 1) m_X10_undo h0 0 [(0, .ref s_EB), (1, .int x1)] [] h Q := by
  refine eb_iload_n (pc := 0) (n := 1) (i := 1) rfl rfl rfl ?_
  refine eb_iconst (pc := 1) (n := 1) (v := 1) rfl rfl ?_
  refine eb_icmp_lt (pc := 2) (tgt := 16) rfl (by decide) (fun c1 => ?_) (fun c1 => ?_)
  · replace w := w.1 c1
    refine eb_bipush (pc := 16) (n := -3) (v := (-3)) rfl rfl ?_
    exact eb_ireturn (pc := 18) rfl rfl rfl w
  · replace w := w.2 c1
    refine eb_iload_n (pc := 5) (n := 1) (i := 1) rfl rfl rfl ?_
    refine eb_aload_n (pc := 6) (n := 0) (i := 0) rfl rfl rfl ?_
    refine eb_getR (pc := 7) rfl rfl (by decide) (by decide) rfl (ko_s_EB_6 ko) ?_
    refine eb_getI (pc := 10) rfl rfl (by decide) (by decide) rfl ?_
    refine eb_icmp_le (pc := 13) (tgt := 19) rfl (by decide) (fun c2 => ?_) (fun c2 => ?_)
    · replace w := w.1 c2
      refine eb_aload_n (pc := 19) (n := 0) (i := 0) rfl rfl rfl ?_
      refine eb_getR (pc := 20) rfl rfl (by decide) (by decide) rfl (ko_s_EB_6 ko) ?_
      refine eb_aload_n (pc := 23) (n := 0) (i := 0) rfl rfl rfl ?_
      refine eb_getR (pc := 24) rfl rfl (by decide) (by decide) rfl (ko_s_EB_3 ko) ?_
      refine eb_iload_n (pc := 27) (n := 1) (i := 1) rfl rfl rfl ?_
      refine eb_ctV (pc := 28) (As := [.ref s_now, .int x1]) (rest := []) rfl (by decide) rfl rfl (by decide) rfl (Nat.le_of_ble_eq_true rfl) ?_
      refine eb_Ct.mono w ?_
      rintro r h3 ⟨rfl, ko5, w⟩
      change eb_Sn _ _ _ 31 _ [] _ _
      refine eb_aload_n (pc := 31) (n := 0) (i := 0) rfl rfl rfl ?_
      refine eb_getR (pc := 32) rfl rfl (by decide) (by decide) rfl (ko_s_EB_6 ko5) ?_
      refine eb_getI (pc := 35) rfl rfl (by decide) (by decide) rfl ?_
      exact eb_ireturn (pc := 38) rfl rfl rfl w
    · replace w := w.2 c2
      refine eb_bipush (pc := 16) (n := -3) (v := (-3)) rfl rfl ?_
      exact eb_ireturn (pc := 18) rfl rfl rfl w
theorem T_X10_undo {d : Nat} {h : eb_H} {Q : Option Value → eb_H → Prop} (x1 : Int32)  (ko : eb_KO h) (w : ((x1 < (1 : Int32) → Q (some (.int (-3))) h) ∧ (¬ (x1 < (1 : Int32)) → ((x1 ≤ (eb_I h s_past 2) → eb_Ct d 43 [.ref s_past, .ref s_now, .int x1] h (fun r h3 => r = none ∧ eb_KO h3 ∧ Q (some (.int (eb_I h3 s_past 2))) h3)) ∧ (¬ (x1 ≤ (eb_I h s_past 2)) → Q (some (.int (-3))) h))))) : eb_Ct (d + 1) 108 [.ref s_EB, .int x1] h Q :=
  eb_bodyQ (by decide) ok_X10_undo (Nat.le_of_ble_eq_true rfl) (b_X10_undo_0 (h0 := h) x1  ko w)
theorem b_X10_judge_0 {d : Nat} {h0 h : eb_H} {Q : Option Value → eb_H → Prop} (x1 : Int32) (x2 : Int32)  (ko : eb_KO h) (w : eb_Ct d 142 [.int x1] h (fun r h1 => ∃ y2, r = some (.int y2) ∧ eb_KO h1 ∧ ((¬ y2 = 0 → Q (some (.int (-2))) h1) ∧ (y2 = 0 → ((x2 < 0 → Q (some (.int (-2))) h1) ∧ (¬ (x2 < 0) → ((x2 ≤ (3 : Int32) → (vp_in x1 4) ∧ ∃ r8, eb_R h1 s_trays x1.toNatClampNeg = some r8 ∧ (eb_kd r8 = 8) ∧ (((eb_I h1 r8 2) = 0 → eb_Ct d 60 [.ref s_trial, .ref s_now] h1 (fun r h12 => r = none ∧ eb_KO h12 ∧ eb_Ct d 140 [.ref s_EB, .ref r8, .ref s_trial] h12 (fun r h15 => ∃ y16, r = some (.int y16) ∧ eb_KO h15 ∧ ((x2 = 0 → Q (some (.int (if (if y16 = (eb_I h15 r8 3) then 1 else 0 : Int32) = 0 then y16 else (-1) : Int32))) h15) ∧ (x2 = 1 → (((if y16 = (eb_I h15 r8 3) then 1 else 0 : Int32) = 0 → ∃ r22, eb_R h15 s_EB 2 = some r22 ∧ eb_kd r22 = 9 ∧ eb_Ct d 76 [.ref r8, .int y16] h15 (fun r h25 => ∃ y26, r = some (.long y26) ∧ eb_KO h25 ∧ eb_Ct d 91 [.ref r22, .ref s_trial, .long y26] h25 (fun r h28 => ∃ y29, r = some (.int y29) ∧ eb_KO h28 ∧ Q (some (.int y29)) h28))) ∧ (¬ ((if y16 = (eb_I h15 r8 3) then 1 else 0 : Int32) = 0) → Q (some (.int 0)) h15))) ∧ (x2 = 2 → Q (some (.int (eb_I h15 s_trial 0))) h15) ∧ (¬ x2 = 0 → ¬ x2 = 1 → ¬ x2 = 2 → Q (some (.int (eb_I h15 s_trial 1))) h15))))) ∧ (¬ ((eb_I h1 r8 2) = 0) → Q (some (.int (-6))) h1))) ∧ (¬ (x2 ≤ (3 : Int32)) → Q (some (.int (-2))) h1)))))))) : eb_Sn (d + 1) m_X10_judge h0 0 [(0, .ref s_EB), (1, .int x1), (2, .int x2)] [] h Q := by
  refine eb_iload_n (pc := 0) (n := 1) (i := 1) rfl rfl rfl ?_
  refine eb_ctS (pc := 1) (As := [.int x1]) (rest := []) rfl (by decide) (by decide) rfl rfl (Nat.le_of_ble_eq_true rfl) ?_
  refine eb_Ct.mono w ?_
  rintro r h1 ⟨y2, rfl, ko3, w⟩
  change eb_Sn _ _ _ 4 _ [.int y2] _ _
  refine eb_if_ne (pc := 4) (tgt := 16) rfl (by decide) (fun c4 => ?_) (fun c4 => ?_)
  · replace w := w.1 c4
    refine eb_bipush (pc := 16) (n := -2) (v := (-2)) rfl rfl ?_
    exact eb_ireturn (pc := 18) rfl rfl rfl w
  · replace w := w.2 c4
    refine eb_iload_n (pc := 7) (n := 2) (i := 2) rfl rfl rfl ?_
    refine eb_if_lt (pc := 8) (tgt := 16) rfl (by decide) (fun c5 => ?_) (fun c5 => ?_)
    · replace w := w.1 c5
      refine eb_bipush (pc := 16) (n := -2) (v := (-2)) rfl rfl ?_
      exact eb_ireturn (pc := 18) rfl rfl rfl w
    · replace w := w.2 c5
      refine eb_iload_n (pc := 11) (n := 2) (i := 2) rfl rfl rfl ?_
      refine eb_iconst (pc := 12) (n := 3) (v := 3) rfl rfl ?_
      refine eb_icmp_le (pc := 13) (tgt := 19) rfl (by decide) (fun c6 => ?_) (fun c6 => ?_)
      · replace w := w.1 c6
        refine eb_aload_n (pc := 19) (n := 0) (i := 0) rfl rfl rfl ?_
        refine eb_getR (pc := 20) rfl rfl (by decide) (by decide) rfl (ko_s_EB_9 ko3) ?_
        refine eb_iload_n (pc := 23) (n := 1) (i := 1) rfl rfl rfl ?_
        obtain ⟨c7, w⟩ := w
        obtain ⟨r8, q9, w⟩ := w
        refine eb_aaloadR (pc := 24) rfl rfl (by decide) (by decide) c7 q9 ?_
        refine eb_astore_n (pc := 25) (n := 3) (i := 3) (ls2 := [(3, .ref r8), (0, .ref s_EB), (1, .int x1), (2, .int x2)]) rfl (Nat.le_of_ble_eq_true rfl) rfl rfl ?_
        refine eb_aload_n (pc := 26) (n := 3) (i := 3) rfl rfl rfl ?_
        obtain ⟨k10, w⟩ := w
        refine eb_getI (pc := 27) rfl k10 (by decide) (by decide) rfl ?_
        refine eb_if_eq (pc := 30) (tgt := 36) rfl (by decide) (fun c11 => ?_) (fun c11 => ?_)
        · replace w := w.1 c11
          refine eb_aload_n (pc := 36) (n := 0) (i := 0) rfl rfl rfl ?_
          refine eb_getR (pc := 37) rfl rfl (by decide) (by decide) rfl (ko_s_EB_5 ko3) ?_
          refine eb_aload_n (pc := 40) (n := 0) (i := 0) rfl rfl rfl ?_
          refine eb_getR (pc := 41) rfl rfl (by decide) (by decide) rfl (ko_s_EB_3 ko3) ?_
          refine eb_ctV (pc := 44) (As := [.ref s_now]) (rest := []) rfl (by decide) rfl rfl (by decide) rfl (Nat.le_of_ble_eq_true rfl) ?_
          refine eb_Ct.mono w ?_
          rintro r h12 ⟨rfl, ko14, w⟩
          change eb_Sn _ _ _ 47 _ [] _ _
          refine eb_aload_n (pc := 47) (n := 0) (i := 0) rfl rfl rfl ?_
          refine eb_aload_n (pc := 48) (n := 3) (i := 3) rfl rfl rfl ?_
          refine eb_aload_n (pc := 49) (n := 0) (i := 0) rfl rfl rfl ?_
          refine eb_getR (pc := 50) rfl rfl (by decide) (by decide) rfl (ko_s_EB_5 ko14) ?_
          refine eb_ctV (pc := 53) (As := [.ref r8, .ref s_trial]) (rest := []) rfl (by decide) rfl rfl (by decide) rfl (Nat.le_of_ble_eq_true rfl) ?_
          refine eb_Ct.mono w ?_
          rintro r h15 ⟨y16, rfl, ko17, w⟩
          change eb_Sn _ _ _ 56 _ [.int y16] _ _
          refine eb_istore (pc := 56) (i := 4) (ls2 := [(4, .int y16), (3, .ref r8), (0, .ref s_EB), (1, .int x1), (2, .int x2)]) (Nat.le_of_ble_eq_true rfl) rfl rfl ?_
          refine eb_iload (pc := 58) (i := 4) rfl rfl ?_
          refine eb_aload_n (pc := 60) (n := 3) (i := 3) rfl rfl rfl ?_
          refine eb_getI (pc := 61) rfl k10 (by decide) (by decide) rfl ?_
          have jj31 : eb_Sn (d + 1) m_X10_judge h0 72 [(4, .int y16), (3, .ref r8), (0, .ref s_EB), (1, .int x1), (2, .int x2)] [.int (if y16 = (eb_I h15 r8 3) then 1 else 0 : Int32)] h15 Q := by
            refine eb_istore (pc := 72) (i := 5) (ls2 := [(5, .int (if y16 = (eb_I h15 r8 3) then 1 else 0 : Int32)), (4, .int y16), (3, .ref r8), (0, .ref s_EB), (1, .int x1), (2, .int x2)]) (Nat.le_of_ble_eq_true rfl) rfl rfl ?_
            refine eb_iload_n (pc := 74) (n := 2) (i := 2) rfl rfl rfl ?_
            by_cases s0 : x2 = 0
            · refine eb_tableIn (pc := 75) (j := 0) (tgt := 100) (by rw [s0]; decide) (by decide) (by rfl) (by decide) rfl ?_
              replace w := w.1 s0
              refine eb_iload (pc := 100) (i := 5) rfl rfl ?_
              have jj20 : eb_Sn (d + 1) m_X10_judge h0 111 [(5, .int (if y16 = (eb_I h15 r8 3) then 1 else 0 : Int32)), (4, .int y16), (3, .ref r8), (0, .ref s_EB), (1, .int x1), (2, .int x2)] [.int (if (if y16 = (eb_I h15 r8 3) then 1 else 0 : Int32) = 0 then y16 else (-1) : Int32)] h15 Q := by
                exact eb_ireturn (pc := 111) rfl rfl rfl w
              refine eb_if_eq (pc := 102) (tgt := 109) rfl (by decide) (fun c19 => ?_) (fun c19 => ?_)
              · refine eb_iload (pc := 109) (i := 4) rfl rfl ?_
                simp only [if_pos c19] at jj20 ⊢
                exact jj20
              · refine eb_iconst (pc := 105) (n := -1) (v := (-1)) rfl rfl ?_
                refine eb_goto (pc := 106) (tgt := 111) rfl (by decide) ?_
                simp only [if_neg c19] at jj20 ⊢
                exact jj20
            by_cases s1 : x2 = 1
            · refine eb_tableIn (pc := 75) (j := 1) (tgt := 112) (by rw [s1]; decide) (by decide) (by rfl) (by decide) rfl ?_
              replace w := w.2.1 s1
              refine eb_iload (pc := 112) (i := 5) rfl rfl ?_
              refine eb_if_eq (pc := 114) (tgt := 121) rfl (by decide) (fun c21 => ?_) (fun c21 => ?_)
              · replace w := w.1 c21
                refine eb_aload_n (pc := 121) (n := 0) (i := 0) rfl rfl rfl ?_
                obtain ⟨r22, q23, k24, w⟩ := w
                refine eb_getR (pc := 122) rfl rfl (by decide) (by decide) rfl q23 ?_
                refine eb_aload_n (pc := 125) (n := 0) (i := 0) rfl rfl rfl ?_
                refine eb_getR (pc := 126) rfl rfl (by decide) (by decide) rfl (ko_s_EB_5 ko17) ?_
                refine eb_aload_n (pc := 129) (n := 3) (i := 3) rfl rfl rfl ?_
                refine eb_iload (pc := 130) (i := 4) rfl rfl ?_
                refine eb_ctV (pc := 132) (As := [.int y16]) (rest := [.ref s_trial, .ref r22]) rfl (by decide) rfl k10 (by decide) rfl (Nat.le_of_ble_eq_true rfl) ?_
                refine eb_Ct.mono w ?_
                rintro r h25 ⟨y26, rfl, ko27, w⟩
                change eb_Sn _ _ _ 135 _ [.long y26, .ref s_trial, .ref r22] _ _
                refine eb_ctV (pc := 135) (As := [.ref s_trial, .long y26]) (rest := []) rfl (by decide) rfl k24 (by decide) rfl (Nat.le_of_ble_eq_true rfl) ?_
                refine eb_Ct.mono w ?_
                rintro r h28 ⟨y29, rfl, ko30, w⟩
                change eb_Sn _ _ _ 138 _ [.int y29] _ _
                exact eb_ireturn (pc := 138) rfl rfl rfl w
              · replace w := w.2 c21
                refine eb_iconst (pc := 117) (n := 0) (v := 0) rfl rfl ?_
                refine eb_goto (pc := 118) (tgt := 138) rfl (by decide) ?_
                exact eb_ireturn (pc := 138) rfl rfl rfl w
            by_cases s2 : x2 = 2
            · refine eb_tableIn (pc := 75) (j := 2) (tgt := 139) (by rw [s2]; decide) (by decide) (by rfl) (by decide) rfl ?_
              replace w := w.2.2.1 s2
              refine eb_aload_n (pc := 139) (n := 0) (i := 0) rfl rfl rfl ?_
              refine eb_getR (pc := 140) rfl rfl (by decide) (by decide) rfl (ko_s_EB_5 ko17) ?_
              refine eb_getI (pc := 143) rfl rfl (by decide) (by decide) rfl ?_
              exact eb_ireturn (pc := 146) rfl rfl rfl w
            refine eb_tableOut (pc := 75) (tgt := 147) (by have z0 := lv_neT (a := 0) s0 (by decide); have z1 := lv_neT (a := 1) s1 (by decide); have z2 := lv_neT (a := 2) s2 (by decide); omega) (by decide) rfl ?_
            replace w := w.2.2.2 s0 s1 s2
            refine eb_aload_n (pc := 147) (n := 0) (i := 0) rfl rfl rfl ?_
            refine eb_getR (pc := 148) rfl rfl (by decide) (by decide) rfl (ko_s_EB_5 ko17) ?_
            refine eb_getI (pc := 151) rfl rfl (by decide) (by decide) rfl ?_
            exact eb_ireturn (pc := 154) rfl rfl rfl w
          refine eb_icmp_ne (pc := 64) (tgt := 71) rfl (by decide) (fun c18 => ?_) (fun c18 => ?_)
          · refine eb_iconst (pc := 71) (n := 0) (v := 0) rfl rfl ?_
            simp only [if_neg c18] at jj31 ⊢
            exact jj31
          · refine eb_iconst (pc := 67) (n := 1) (v := 1) rfl rfl ?_
            refine eb_goto (pc := 68) (tgt := 72) rfl (by decide) ?_
            simp only [if_pos c18] at jj31 ⊢
            exact jj31
        · replace w := w.2 c11
          refine eb_bipush (pc := 33) (n := -6) (v := (-6)) rfl rfl ?_
          exact eb_ireturn (pc := 35) rfl rfl rfl w
      · replace w := w.2 c6
        refine eb_bipush (pc := 16) (n := -2) (v := (-2)) rfl rfl ?_
        exact eb_ireturn (pc := 18) rfl rfl rfl w
theorem T_X10_judge {d : Nat} {h : eb_H} {Q : Option Value → eb_H → Prop} (x1 : Int32) (x2 : Int32)  (ko : eb_KO h) (w : eb_Ct d 142 [.int x1] h (fun r h1 => ∃ y2, r = some (.int y2) ∧ eb_KO h1 ∧ ((¬ y2 = 0 → Q (some (.int (-2))) h1) ∧ (y2 = 0 → ((x2 < 0 → Q (some (.int (-2))) h1) ∧ (¬ (x2 < 0) → ((x2 ≤ (3 : Int32) → (vp_in x1 4) ∧ ∃ r8, eb_R h1 s_trays x1.toNatClampNeg = some r8 ∧ (eb_kd r8 = 8) ∧ (((eb_I h1 r8 2) = 0 → eb_Ct d 60 [.ref s_trial, .ref s_now] h1 (fun r h12 => r = none ∧ eb_KO h12 ∧ eb_Ct d 140 [.ref s_EB, .ref r8, .ref s_trial] h12 (fun r h15 => ∃ y16, r = some (.int y16) ∧ eb_KO h15 ∧ ((x2 = 0 → Q (some (.int (if (if y16 = (eb_I h15 r8 3) then 1 else 0 : Int32) = 0 then y16 else (-1) : Int32))) h15) ∧ (x2 = 1 → (((if y16 = (eb_I h15 r8 3) then 1 else 0 : Int32) = 0 → ∃ r22, eb_R h15 s_EB 2 = some r22 ∧ eb_kd r22 = 9 ∧ eb_Ct d 76 [.ref r8, .int y16] h15 (fun r h25 => ∃ y26, r = some (.long y26) ∧ eb_KO h25 ∧ eb_Ct d 91 [.ref r22, .ref s_trial, .long y26] h25 (fun r h28 => ∃ y29, r = some (.int y29) ∧ eb_KO h28 ∧ Q (some (.int y29)) h28))) ∧ (¬ ((if y16 = (eb_I h15 r8 3) then 1 else 0 : Int32) = 0) → Q (some (.int 0)) h15))) ∧ (x2 = 2 → Q (some (.int (eb_I h15 s_trial 0))) h15) ∧ (¬ x2 = 0 → ¬ x2 = 1 → ¬ x2 = 2 → Q (some (.int (eb_I h15 s_trial 1))) h15))))) ∧ (¬ ((eb_I h1 r8 2) = 0) → Q (some (.int (-6))) h1))) ∧ (¬ (x2 ≤ (3 : Int32)) → Q (some (.int (-2))) h1)))))))) : eb_Ct (d + 1) 109 [.ref s_EB, .int x1, .int x2] h Q :=
  eb_bodyQ (by decide) ok_X10_judge (Nat.le_of_ble_eq_true rfl) (b_X10_judge_0 (h0 := h) x1 x2  ko w)
theorem b_X10_perform_0 {d : Nat} {h0 h : eb_H} {Q : Option Value → eb_H → Prop} (x1 : Int32)  (ko : eb_KO h) (w : eb_Ct d 142 [.int x1] h (fun r h1 => ∃ y2, r = some (.int y2) ∧ eb_KO h1 ∧ ((y2 = 0 → (vp_in x1 4) ∧ ∃ r6, eb_R h1 s_trays x1.toNatClampNeg = some r6 ∧ (eb_kd r6 = 8) ∧ (((eb_I h1 r6 2) = 0 → eb_Ct d 60 [.ref s_before, .ref s_now] h1 (fun r h10 => r = none ∧ eb_KO h10 ∧ (vp_in x1 4) ∧ ∃ r14, eb_R h10 s_trays x1.toNatClampNeg = some r14 ∧ eb_Ct d 140 [.ref s_EB, .ref r14, .ref s_now] h10 (fun r h16 => ∃ y17, r = some (.int y17) ∧ eb_KO h16 ∧ ((y17 ≤ 0 → Q (some (.int y17)) h16) ∧ (¬ (y17 ≤ 0) → eb_Ct d 42 [.ref s_past, .ref s_before] h16 (fun r h20 => r = none ∧ eb_KO h20 ∧ Q (some (.int y17)) h20)))))) ∧ (¬ ((eb_I h1 r6 2) = 0) → Q (some (.int (-6))) h1))) ∧ (¬ (y2 = 0) → Q (some (.int (-2))) h1)))) : eb_Sn (d + 1) m_X10_perform h0 0 [(0, .ref s_EB), (1, .int x1)] [] h Q := by
  refine eb_iload_n (pc := 0) (n := 1) (i := 1) rfl rfl rfl ?_
  refine eb_ctS (pc := 1) (As := [.int x1]) (rest := []) rfl (by decide) (by decide) rfl rfl (Nat.le_of_ble_eq_true rfl) ?_
  refine eb_Ct.mono w ?_
  rintro r h1 ⟨y2, rfl, ko3, w⟩
  change eb_Sn _ _ _ 4 _ [.int y2] _ _
  refine eb_if_eq (pc := 4) (tgt := 10) rfl (by decide) (fun c4 => ?_) (fun c4 => ?_)
  · replace w := w.1 c4
    refine eb_aload_n (pc := 10) (n := 0) (i := 0) rfl rfl rfl ?_
    refine eb_getR (pc := 11) rfl rfl (by decide) (by decide) rfl (ko_s_EB_9 ko3) ?_
    refine eb_iload_n (pc := 14) (n := 1) (i := 1) rfl rfl rfl ?_
    obtain ⟨c5, w⟩ := w
    obtain ⟨r6, q7, w⟩ := w
    refine eb_aaloadR (pc := 15) rfl rfl (by decide) (by decide) c5 q7 ?_
    obtain ⟨k8, w⟩ := w
    refine eb_getI (pc := 16) rfl k8 (by decide) (by decide) rfl ?_
    refine eb_if_eq (pc := 19) (tgt := 25) rfl (by decide) (fun c9 => ?_) (fun c9 => ?_)
    · replace w := w.1 c9
      refine eb_aload_n (pc := 25) (n := 0) (i := 0) rfl rfl rfl ?_
      refine eb_getR (pc := 26) rfl rfl (by decide) (by decide) rfl (ko_s_EB_4 ko3) ?_
      refine eb_aload_n (pc := 29) (n := 0) (i := 0) rfl rfl rfl ?_
      refine eb_getR (pc := 30) rfl rfl (by decide) (by decide) rfl (ko_s_EB_3 ko3) ?_
      refine eb_ctV (pc := 33) (As := [.ref s_now]) (rest := []) rfl (by decide) rfl rfl (by decide) rfl (Nat.le_of_ble_eq_true rfl) ?_
      refine eb_Ct.mono w ?_
      rintro r h10 ⟨rfl, ko12, w⟩
      change eb_Sn _ _ _ 36 _ [] _ _
      refine eb_aload_n (pc := 36) (n := 0) (i := 0) rfl rfl rfl ?_
      refine eb_aload_n (pc := 37) (n := 0) (i := 0) rfl rfl rfl ?_
      refine eb_getR (pc := 38) rfl rfl (by decide) (by decide) rfl (ko_s_EB_9 ko12) ?_
      refine eb_iload_n (pc := 41) (n := 1) (i := 1) rfl rfl rfl ?_
      obtain ⟨c13, w⟩ := w
      obtain ⟨r14, q15, w⟩ := w
      refine eb_aaloadR (pc := 42) rfl rfl (by decide) (by decide) c13 q15 ?_
      refine eb_aload_n (pc := 43) (n := 0) (i := 0) rfl rfl rfl ?_
      refine eb_getR (pc := 44) rfl rfl (by decide) (by decide) rfl (ko_s_EB_3 ko12) ?_
      refine eb_ctV (pc := 47) (As := [.ref r14, .ref s_now]) (rest := []) rfl (by decide) rfl rfl (by decide) rfl (Nat.le_of_ble_eq_true rfl) ?_
      refine eb_Ct.mono w ?_
      rintro r h16 ⟨y17, rfl, ko18, w⟩
      change eb_Sn _ _ _ 50 _ [.int y17] _ _
      refine eb_istore_n (pc := 50) (n := 2) (i := 2) (ls2 := [(2, .int y17), (0, .ref s_EB), (1, .int x1)]) rfl (Nat.le_of_ble_eq_true rfl) rfl rfl ?_
      refine eb_iload_n (pc := 51) (n := 2) (i := 2) rfl rfl rfl ?_
      refine eb_if_le (pc := 52) (tgt := 66) rfl (by decide) (fun c19 => ?_) (fun c19 => ?_)
      · replace w := w.1 c19
        refine eb_iload_n (pc := 66) (n := 2) (i := 2) rfl rfl rfl ?_
        exact eb_ireturn (pc := 67) rfl rfl rfl w
      · replace w := w.2 c19
        refine eb_aload_n (pc := 55) (n := 0) (i := 0) rfl rfl rfl ?_
        refine eb_getR (pc := 56) rfl rfl (by decide) (by decide) rfl (ko_s_EB_6 ko18) ?_
        refine eb_aload_n (pc := 59) (n := 0) (i := 0) rfl rfl rfl ?_
        refine eb_getR (pc := 60) rfl rfl (by decide) (by decide) rfl (ko_s_EB_4 ko18) ?_
        refine eb_ctV (pc := 63) (As := [.ref s_before]) (rest := []) rfl (by decide) rfl rfl (by decide) rfl (Nat.le_of_ble_eq_true rfl) ?_
        refine eb_Ct.mono w ?_
        rintro r h20 ⟨rfl, ko22, w⟩
        change eb_Sn _ _ _ 66 _ [] _ _
        refine eb_iload_n (pc := 66) (n := 2) (i := 2) rfl rfl rfl ?_
        exact eb_ireturn (pc := 67) rfl rfl rfl w
    · replace w := w.2 c9
      refine eb_bipush (pc := 22) (n := -6) (v := (-6)) rfl rfl ?_
      exact eb_ireturn (pc := 24) rfl rfl rfl w
  · replace w := w.2 c4
    refine eb_bipush (pc := 7) (n := -2) (v := (-2)) rfl rfl ?_
    exact eb_ireturn (pc := 9) rfl rfl rfl w
theorem T_X10_perform {d : Nat} {h : eb_H} {Q : Option Value → eb_H → Prop} (x1 : Int32)  (ko : eb_KO h) (w : eb_Ct d 142 [.int x1] h (fun r h1 => ∃ y2, r = some (.int y2) ∧ eb_KO h1 ∧ ((y2 = 0 → (vp_in x1 4) ∧ ∃ r6, eb_R h1 s_trays x1.toNatClampNeg = some r6 ∧ (eb_kd r6 = 8) ∧ (((eb_I h1 r6 2) = 0 → eb_Ct d 60 [.ref s_before, .ref s_now] h1 (fun r h10 => r = none ∧ eb_KO h10 ∧ (vp_in x1 4) ∧ ∃ r14, eb_R h10 s_trays x1.toNatClampNeg = some r14 ∧ eb_Ct d 140 [.ref s_EB, .ref r14, .ref s_now] h10 (fun r h16 => ∃ y17, r = some (.int y17) ∧ eb_KO h16 ∧ ((y17 ≤ 0 → Q (some (.int y17)) h16) ∧ (¬ (y17 ≤ 0) → eb_Ct d 42 [.ref s_past, .ref s_before] h16 (fun r h20 => r = none ∧ eb_KO h20 ∧ Q (some (.int y17)) h20)))))) ∧ (¬ ((eb_I h1 r6 2) = 0) → Q (some (.int (-6))) h1))) ∧ (¬ (y2 = 0) → Q (some (.int (-2))) h1)))) : eb_Ct (d + 1) 110 [.ref s_EB, .int x1] h Q :=
  eb_bodyQ (by decide) ok_X10_perform (Nat.le_of_ble_eq_true rfl) (b_X10_perform_0 (h0 := h) x1  ko w)
theorem b_X10_night_0 {d : Nat} {h0 h : eb_H} {Q : Option Value → eb_H → Prop} (x1 : Int32) (x2 : Int32)  (ko : eb_KO h) (w : ((x2 < (1 : Int32) → Q (some (.int (-3))) h) ∧ (¬ (x2 < (1 : Int32)) → ((x2 ≤ (40 : Int32) → eb_Ct d 60 [.ref s_before, .ref s_now] h (fun r h3 => r = none ∧ eb_KO h3 ∧ eb_Sn (d + 1) m_X10_night h0 38 [(0, .ref s_EB), (2, .int x2), (3, .int 0), (4, .int 0)] [] (eb_sI h3 s_draws 0 x1) Q)) ∧ (¬ (x2 ≤ (40 : Int32)) → Q (some (.int (-3))) h))))) : eb_Sn (d + 1) m_X10_night h0 0 [(0, .ref s_EB), (1, .int x1), (2, .int x2)] [] h Q := by
  refine eb_iload_n (pc := 0) (n := 2) (i := 2) rfl rfl rfl ?_
  refine eb_iconst (pc := 1) (n := 1) (v := 1) rfl rfl ?_
  refine eb_icmp_lt (pc := 2) (tgt := 11) rfl (by decide) (fun c1 => ?_) (fun c1 => ?_)
  · replace w := w.1 c1
    refine eb_bipush (pc := 11) (n := -3) (v := (-3)) rfl rfl ?_
    exact eb_ireturn (pc := 13) rfl rfl rfl w
  · replace w := w.2 c1
    refine eb_iload_n (pc := 5) (n := 2) (i := 2) rfl rfl rfl ?_
    refine eb_bipush (pc := 6) (n := 40) (v := 40) rfl rfl ?_
    refine eb_icmp_le (pc := 8) (tgt := 14) rfl (by decide) (fun c2 => ?_) (fun c2 => ?_)
    · replace w := w.1 c2
      refine eb_aload_n (pc := 14) (n := 0) (i := 0) rfl rfl rfl ?_
      refine eb_getR (pc := 15) rfl rfl (by decide) (by decide) rfl (ko_s_EB_4 ko) ?_
      refine eb_aload_n (pc := 18) (n := 0) (i := 0) rfl rfl rfl ?_
      refine eb_getR (pc := 19) rfl rfl (by decide) (by decide) rfl (ko_s_EB_3 ko) ?_
      refine eb_ctV (pc := 22) (As := [.ref s_now]) (rest := []) rfl (by decide) rfl rfl (by decide) rfl (Nat.le_of_ble_eq_true rfl) ?_
      refine eb_Ct.mono w ?_
      rintro r h3 ⟨rfl, ko5, w⟩
      change eb_Sn _ _ _ 25 _ [] _ _
      refine eb_aload_n (pc := 25) (n := 0) (i := 0) rfl rfl rfl ?_
      refine eb_getR (pc := 26) rfl rfl (by decide) (by decide) rfl (ko_s_EB_8 ko5) ?_
      refine eb_iload_n (pc := 29) (n := 1) (i := 1) rfl rfl rfl ?_
      refine eb_putI (pc := 30) rfl rfl (by decide) (by decide) rfl rfl ⟨rfl, rfl⟩ ?_
      refine eb_iconst (pc := 33) (n := 0) (v := 0) rfl rfl ?_
      refine eb_istore_n (pc := 34) (n := 3) (i := 3) (ls2 := [(3, .int 0), (0, .ref s_EB), (1, .int x1), (2, .int x2)]) rfl (Nat.le_of_ble_eq_true rfl) rfl rfl ?_
      refine eb_iconst (pc := 35) (n := 0) (v := 0) rfl rfl ?_
      refine eb_istore (pc := 36) (i := 4) (ls2 := [(4, .int 0), (3, .int 0), (0, .ref s_EB), (1, .int x1), (2, .int x2)]) (Nat.le_of_ble_eq_true rfl) rfl rfl ?_
      exact eb_pick [2, 4, 1, 0] rfl w
    · replace w := w.2 c2
      refine eb_bipush (pc := 11) (n := -3) (v := (-3)) rfl rfl ?_
      exact eb_ireturn (pc := 13) rfl rfl rfl w
theorem b_X10_night_38 {d : Nat} {h0 h : eb_H} {Q : Option Value → eb_H → Prop} (x2 : Int32) (x3 : Int32) (x4 : Int32)  (ko : eb_KO h) (w : ((x2 ≤ x4 → ((x3 ≤ 0 → Q (some (.int x3)) h) ∧ (¬ (x3 ≤ 0) → eb_Ct d 42 [.ref s_past, .ref s_before] h (fun r h3 => r = none ∧ eb_KO h3 ∧ Q (some (.int x3)) h3)))) ∧ (¬ (x2 ≤ x4) → ∃ r6, eb_R h s_EB 2 = some r6 ∧ eb_kd r6 = 9 ∧ eb_Ct d 1 [.ref s_draws] h (fun r h9 => ∃ y10, r = some (.int y10) ∧ eb_KO h9 ∧ eb_Ct d 91 [.ref r6, .ref s_now, .long y10.toInt64] h9 (fun r h12 => ∃ y13, r = some (.int y13) ∧ eb_KO h12 ∧ ((¬ y13 = 0 → eb_Sn (d + 1) m_X10_night h0 38 [(0, .ref s_EB), (2, .int x2), (3, .int x3), (4, .int (x4 + 1))] [] h12 Q) ∧ (y13 = 0 → eb_Sn (d + 1) m_X10_night h0 38 [(0, .ref s_EB), (2, .int x2), (3, .int (x3 + 1)), (4, .int (x4 + 1))] [] h12 Q))))))) : eb_Sn (d + 1) m_X10_night h0 38 [(0, .ref s_EB), (2, .int x2), (3, .int x3), (4, .int x4)] [] h Q := by
  refine eb_iload (pc := 38) (i := 4) rfl rfl ?_
  refine eb_iload_n (pc := 40) (n := 2) (i := 2) rfl rfl rfl ?_
  refine eb_icmp_ge (pc := 41) (tgt := 75) rfl (by decide) (fun c1 => ?_) (fun c1 => ?_)
  · replace w := w.1 c1
    refine eb_iload_n (pc := 75) (n := 3) (i := 3) rfl rfl rfl ?_
    refine eb_if_le (pc := 76) (tgt := 90) rfl (by decide) (fun c2 => ?_) (fun c2 => ?_)
    · replace w := w.1 c2
      refine eb_iload_n (pc := 90) (n := 3) (i := 3) rfl rfl rfl ?_
      exact eb_ireturn (pc := 91) rfl rfl rfl w
    · replace w := w.2 c2
      refine eb_aload_n (pc := 79) (n := 0) (i := 0) rfl rfl rfl ?_
      refine eb_getR (pc := 80) rfl rfl (by decide) (by decide) rfl (ko_s_EB_6 ko) ?_
      refine eb_aload_n (pc := 83) (n := 0) (i := 0) rfl rfl rfl ?_
      refine eb_getR (pc := 84) rfl rfl (by decide) (by decide) rfl (ko_s_EB_4 ko) ?_
      refine eb_ctV (pc := 87) (As := [.ref s_before]) (rest := []) rfl (by decide) rfl rfl (by decide) rfl (Nat.le_of_ble_eq_true rfl) ?_
      refine eb_Ct.mono w ?_
      rintro r h3 ⟨rfl, ko5, w⟩
      change eb_Sn _ _ _ 90 _ [] _ _
      refine eb_iload_n (pc := 90) (n := 3) (i := 3) rfl rfl rfl ?_
      exact eb_ireturn (pc := 91) rfl rfl rfl w
  · replace w := w.2 c1
    refine eb_aload_n (pc := 44) (n := 0) (i := 0) rfl rfl rfl ?_
    obtain ⟨r6, q7, k8, w⟩ := w
    refine eb_getR (pc := 45) rfl rfl (by decide) (by decide) rfl q7 ?_
    refine eb_aload_n (pc := 48) (n := 0) (i := 0) rfl rfl rfl ?_
    refine eb_getR (pc := 49) rfl rfl (by decide) (by decide) rfl (ko_s_EB_3 ko) ?_
    refine eb_aload_n (pc := 52) (n := 0) (i := 0) rfl rfl rfl ?_
    refine eb_getR (pc := 53) rfl rfl (by decide) (by decide) rfl (ko_s_EB_8 ko) ?_
    refine eb_ctV (pc := 56) (As := []) (rest := [.ref s_now, .ref r6]) rfl (by decide) rfl rfl (by decide) rfl (Nat.le_of_ble_eq_true rfl) ?_
    refine eb_Ct.mono w ?_
    rintro r h9 ⟨y10, rfl, ko11, w⟩
    change eb_Sn _ _ _ 59 _ [.int y10, .ref s_now, .ref r6] _ _
    refine eb_i2l (pc := 59) rfl ?_
    refine eb_ctV (pc := 60) (As := [.ref s_now, .long y10.toInt64]) (rest := []) rfl (by decide) rfl k8 (by decide) rfl (Nat.le_of_ble_eq_true rfl) ?_
    refine eb_Ct.mono w ?_
    rintro r h12 ⟨y13, rfl, ko14, w⟩
    change eb_Sn _ _ _ 63 _ [.int y13] _ _
    refine eb_if_ne (pc := 63) (tgt := 69) rfl (by decide) (fun c15 => ?_) (fun c15 => ?_)
    · replace w := w.1 c15
      refine eb_iinc (pc := 69) (i := 4) (n := 1) (v := x4 + 1) (ls2 := [(4, .int (x4 + 1)), (0, .ref s_EB), (2, .int x2), (3, .int x3)]) (Nat.le_of_ble_eq_true rfl) rfl rfl rfl rfl ?_
      refine eb_goto (pc := 72) (tgt := 38) rfl (by decide) ?_
      exact eb_pick [1, 2, 3, 0] rfl w
    · replace w := w.2 c15
      refine eb_iinc (pc := 66) (i := 3) (n := 1) (v := x3 + 1) (ls2 := [(3, .int (x3 + 1)), (0, .ref s_EB), (2, .int x2), (4, .int x4)]) (Nat.le_of_ble_eq_true rfl) rfl rfl rfl rfl ?_
      refine eb_iinc (pc := 69) (i := 4) (n := 1) (v := x4 + 1) (ls2 := [(4, .int (x4 + 1)), (3, .int (x3 + 1)), (0, .ref s_EB), (2, .int x2)]) (Nat.le_of_ble_eq_true rfl) rfl rfl rfl rfl ?_
      refine eb_goto (pc := 72) (tgt := 38) rfl (by decide) ?_
      exact eb_pick [2, 3, 1, 0] rfl w
theorem T_X10_night {d : Nat} {h : eb_H} {Q : Option Value → eb_H → Prop} (x1 : Int32) (x2 : Int32)  (ko : eb_KO h) (w : ((x2 < (1 : Int32) → Q (some (.int (-3))) h) ∧ (¬ (x2 < (1 : Int32)) → ((x2 ≤ (40 : Int32) → eb_Ct d 60 [.ref s_before, .ref s_now] h (fun r h3 => r = none ∧ eb_KO h3 ∧ eb_Sn (d + 1) m_X10_night h 38 [(0, .ref s_EB), (2, .int x2), (3, .int 0), (4, .int 0)] [] (eb_sI h3 s_draws 0 x1) Q)) ∧ (¬ (x2 ≤ (40 : Int32)) → Q (some (.int (-3))) h))))) : eb_Ct (d + 1) 111 [.ref s_EB, .int x1, .int x2] h Q :=
  eb_bodyQ (by decide) ok_X10_night (Nat.le_of_ble_eq_true rfl) (b_X10_night_0 (h0 := h) x1 x2  ko w)
theorem b_X10_soonest_0 {d : Nat} {h0 h : eb_H} {Q : Option Value → eb_H → Prop} (x1 : Int32) (x2 : Int32) (x3 : Int32)  (ko : eb_KO h) (w : eb_Ct d 145 [.ref s_EB, .int x1, .int x2, .int x3] h (fun r h1 => ∃ y2, r = some (.int y2) ∧ eb_KO h1 ∧ ((y2 = 0 → ∃ r5, eb_R h1 s_EB 2 = some r5 ∧ eb_kd r5 = 9 ∧ eb_Ct d 8 [.ref s_flights, .ref r5, .ref s_now] h1 (fun r h8 => r = none ∧ eb_KO h8 ∧ eb_Ct d 12 [.ref s_flights, .int x1, .int x2, .int x3] h8 (fun r h11 => ∃ y12, r = some (.int y12) ∧ eb_KO h11 ∧ Q (some (.int y12)) h11))) ∧ (¬ (y2 = 0) → Q (some (.int y2)) h1)))) : eb_Sn (d + 1) m_X10_soonest h0 0 [(0, .ref s_EB), (1, .int x1), (2, .int x2), (3, .int x3)] [] h Q := by
  refine eb_aload_n (pc := 0) (n := 0) (i := 0) rfl rfl rfl ?_
  refine eb_iload_n (pc := 1) (n := 1) (i := 1) rfl rfl rfl ?_
  refine eb_iload_n (pc := 2) (n := 2) (i := 2) rfl rfl rfl ?_
  refine eb_iload_n (pc := 3) (n := 3) (i := 3) rfl rfl rfl ?_
  refine eb_ctV (pc := 4) (As := [.int x1, .int x2, .int x3]) (rest := []) rfl (by decide) rfl rfl (by decide) rfl (Nat.le_of_ble_eq_true rfl) ?_
  refine eb_Ct.mono w ?_
  rintro r h1 ⟨y2, rfl, ko3, w⟩
  change eb_Sn _ _ _ 7 _ [.int y2] _ _
  refine eb_istore (pc := 7) (i := 4) (ls2 := [(4, .int y2), (0, .ref s_EB), (1, .int x1), (2, .int x2), (3, .int x3)]) (Nat.le_of_ble_eq_true rfl) rfl rfl ?_
  refine eb_iload (pc := 9) (i := 4) rfl rfl ?_
  refine eb_if_eq (pc := 11) (tgt := 17) rfl (by decide) (fun c4 => ?_) (fun c4 => ?_)
  · replace w := w.1 c4
    refine eb_aload_n (pc := 17) (n := 0) (i := 0) rfl rfl rfl ?_
    refine eb_getR (pc := 18) rfl rfl (by decide) (by decide) rfl (ko_s_EB_7 ko3) ?_
    refine eb_aload_n (pc := 21) (n := 0) (i := 0) rfl rfl rfl ?_
    obtain ⟨r5, q6, k7, w⟩ := w
    refine eb_getR (pc := 22) rfl rfl (by decide) (by decide) rfl q6 ?_
    refine eb_aload_n (pc := 25) (n := 0) (i := 0) rfl rfl rfl ?_
    refine eb_getR (pc := 26) rfl rfl (by decide) (by decide) rfl (ko_s_EB_3 ko3) ?_
    refine eb_ctV (pc := 29) (As := [.ref r5, .ref s_now]) (rest := []) rfl (by decide) rfl rfl (by decide) rfl (Nat.le_of_ble_eq_true rfl) ?_
    refine eb_Ct.mono w ?_
    rintro r h8 ⟨rfl, ko10, w⟩
    change eb_Sn _ _ _ 32 _ [] _ _
    refine eb_aload_n (pc := 32) (n := 0) (i := 0) rfl rfl rfl ?_
    refine eb_getR (pc := 33) rfl rfl (by decide) (by decide) rfl (ko_s_EB_7 ko10) ?_
    refine eb_iload_n (pc := 36) (n := 1) (i := 1) rfl rfl rfl ?_
    refine eb_iload_n (pc := 37) (n := 2) (i := 2) rfl rfl rfl ?_
    refine eb_iload_n (pc := 38) (n := 3) (i := 3) rfl rfl rfl ?_
    refine eb_ctV (pc := 39) (As := [.int x1, .int x2, .int x3]) (rest := []) rfl (by decide) rfl rfl (by decide) rfl (Nat.le_of_ble_eq_true rfl) ?_
    refine eb_Ct.mono w ?_
    rintro r h11 ⟨y12, rfl, ko13, w⟩
    change eb_Sn _ _ _ 42 _ [.int y12] _ _
    exact eb_ireturn (pc := 42) rfl rfl rfl w
  · replace w := w.2 c4
    refine eb_iload (pc := 14) (i := 4) rfl rfl ?_
    exact eb_ireturn (pc := 16) rfl rfl rfl w
theorem T_X10_soonest {d : Nat} {h : eb_H} {Q : Option Value → eb_H → Prop} (x1 : Int32) (x2 : Int32) (x3 : Int32)  (ko : eb_KO h) (w : eb_Ct d 145 [.ref s_EB, .int x1, .int x2, .int x3] h (fun r h1 => ∃ y2, r = some (.int y2) ∧ eb_KO h1 ∧ ((y2 = 0 → ∃ r5, eb_R h1 s_EB 2 = some r5 ∧ eb_kd r5 = 9 ∧ eb_Ct d 8 [.ref s_flights, .ref r5, .ref s_now] h1 (fun r h8 => r = none ∧ eb_KO h8 ∧ eb_Ct d 12 [.ref s_flights, .int x1, .int x2, .int x3] h8 (fun r h11 => ∃ y12, r = some (.int y12) ∧ eb_KO h11 ∧ Q (some (.int y12)) h11))) ∧ (¬ (y2 = 0) → Q (some (.int y2)) h1)))) : eb_Ct (d + 1) 112 [.ref s_EB, .int x1, .int x2, .int x3] h Q :=
  eb_bodyQ (by decide) ok_X10_soonest (Nat.le_of_ble_eq_true rfl) (b_X10_soonest_0 (h0 := h) x1 x2 x3  ko w)
theorem b_X10_way_0 {d : Nat} {h0 h : eb_H} {Q : Option Value → eb_H → Prop} (x1 : Int32) (x2 : Int32) (x3 : Int32) (x4 : Int32)  (ko : eb_KO h) (w : eb_Ct d 145 [.ref s_EB, .int x1, .int x2, .int x3] h (fun r h1 => ∃ y2, r = some (.int y2) ∧ eb_KO h1 ∧ ((y2 = 0 → ((0 ≤ x4 → ∃ r6, eb_R h1 s_EB 2 = some r6 ∧ eb_kd r6 = 9 ∧ eb_Ct d 8 [.ref s_flights, .ref r6, .ref s_now] h1 (fun r h9 => r = none ∧ eb_KO h9 ∧ eb_Ct d 12 [.ref s_flights, .int x1, .int x2, .int x3] h9 (fun r h12 => ∃ y13, r = some (.int y13) ∧ eb_KO h12 ∧ ((y13 ≤ x4 → Q (some (.int (-1))) h12) ∧ (¬ (y13 ≤ x4) → eb_Ct d 15 [.ref s_flights, .int x4] h12 (fun r h16 => ∃ y17, r = some (.int y17) ∧ eb_KO h16 ∧ Q (some (.int y17)) h16)))))) ∧ (¬ (0 ≤ x4) → Q (some (.int (-3))) h1))) ∧ (¬ (y2 = 0) → Q (some (.int y2)) h1)))) : eb_Sn (d + 1) m_X10_way h0 0 [(0, .ref s_EB), (1, .int x1), (2, .int x2), (3, .int x3), (4, .int x4)] [] h Q := by
  refine eb_aload_n (pc := 0) (n := 0) (i := 0) rfl rfl rfl ?_
  refine eb_iload_n (pc := 1) (n := 1) (i := 1) rfl rfl rfl ?_
  refine eb_iload_n (pc := 2) (n := 2) (i := 2) rfl rfl rfl ?_
  refine eb_iload_n (pc := 3) (n := 3) (i := 3) rfl rfl rfl ?_
  refine eb_ctV (pc := 4) (As := [.int x1, .int x2, .int x3]) (rest := []) rfl (by decide) rfl rfl (by decide) rfl (Nat.le_of_ble_eq_true rfl) ?_
  refine eb_Ct.mono w ?_
  rintro r h1 ⟨y2, rfl, ko3, w⟩
  change eb_Sn _ _ _ 7 _ [.int y2] _ _
  refine eb_istore (pc := 7) (i := 5) (ls2 := [(5, .int y2), (0, .ref s_EB), (1, .int x1), (2, .int x2), (3, .int x3), (4, .int x4)]) (Nat.le_of_ble_eq_true rfl) rfl rfl ?_
  refine eb_iload (pc := 9) (i := 5) rfl rfl ?_
  refine eb_if_eq (pc := 11) (tgt := 17) rfl (by decide) (fun c4 => ?_) (fun c4 => ?_)
  · replace w := w.1 c4
    refine eb_iload (pc := 17) (i := 4) rfl rfl ?_
    refine eb_if_ge (pc := 19) (tgt := 25) rfl (by decide) (fun c5 => ?_) (fun c5 => ?_)
    · replace w := w.1 c5
      refine eb_aload_n (pc := 25) (n := 0) (i := 0) rfl rfl rfl ?_
      refine eb_getR (pc := 26) rfl rfl (by decide) (by decide) rfl (ko_s_EB_7 ko3) ?_
      refine eb_aload_n (pc := 29) (n := 0) (i := 0) rfl rfl rfl ?_
      obtain ⟨r6, q7, k8, w⟩ := w
      refine eb_getR (pc := 30) rfl rfl (by decide) (by decide) rfl q7 ?_
      refine eb_aload_n (pc := 33) (n := 0) (i := 0) rfl rfl rfl ?_
      refine eb_getR (pc := 34) rfl rfl (by decide) (by decide) rfl (ko_s_EB_3 ko3) ?_
      refine eb_ctV (pc := 37) (As := [.ref r6, .ref s_now]) (rest := []) rfl (by decide) rfl rfl (by decide) rfl (Nat.le_of_ble_eq_true rfl) ?_
      refine eb_Ct.mono w ?_
      rintro r h9 ⟨rfl, ko11, w⟩
      change eb_Sn _ _ _ 40 _ [] _ _
      refine eb_iload (pc := 40) (i := 4) rfl rfl ?_
      refine eb_aload_n (pc := 42) (n := 0) (i := 0) rfl rfl rfl ?_
      refine eb_getR (pc := 43) rfl rfl (by decide) (by decide) rfl (ko_s_EB_7 ko11) ?_
      refine eb_iload_n (pc := 46) (n := 1) (i := 1) rfl rfl rfl ?_
      refine eb_iload_n (pc := 47) (n := 2) (i := 2) rfl rfl rfl ?_
      refine eb_iload_n (pc := 48) (n := 3) (i := 3) rfl rfl rfl ?_
      refine eb_ctV (pc := 49) (As := [.int x1, .int x2, .int x3]) (rest := [.int x4]) rfl (by decide) rfl rfl (by decide) rfl (Nat.le_of_ble_eq_true rfl) ?_
      refine eb_Ct.mono w ?_
      rintro r h12 ⟨y13, rfl, ko14, w⟩
      change eb_Sn _ _ _ 52 _ [.int y13, .int x4] _ _
      refine eb_icmp_ge (pc := 52) (tgt := 67) rfl (by decide) (fun c15 => ?_) (fun c15 => ?_)
      · replace w := w.1 c15
        refine eb_iconst (pc := 67) (n := -1) (v := (-1)) rfl rfl ?_
        exact eb_ireturn (pc := 68) rfl rfl rfl w
      · replace w := w.2 c15
        refine eb_aload_n (pc := 55) (n := 0) (i := 0) rfl rfl rfl ?_
        refine eb_getR (pc := 56) rfl rfl (by decide) (by decide) rfl (ko_s_EB_7 ko14) ?_
        refine eb_iload (pc := 59) (i := 4) rfl rfl ?_
        refine eb_ctV (pc := 61) (As := [.int x4]) (rest := []) rfl (by decide) rfl rfl (by decide) rfl (Nat.le_of_ble_eq_true rfl) ?_
        refine eb_Ct.mono w ?_
        rintro r h16 ⟨y17, rfl, ko18, w⟩
        change eb_Sn _ _ _ 64 _ [.int y17] _ _
        refine eb_goto (pc := 64) (tgt := 68) rfl (by decide) ?_
        exact eb_ireturn (pc := 68) rfl rfl rfl w
    · replace w := w.2 c5
      refine eb_bipush (pc := 22) (n := -3) (v := (-3)) rfl rfl ?_
      exact eb_ireturn (pc := 24) rfl rfl rfl w
  · replace w := w.2 c4
    refine eb_iload (pc := 14) (i := 5) rfl rfl ?_
    exact eb_ireturn (pc := 16) rfl rfl rfl w
theorem T_X10_way {d : Nat} {h : eb_H} {Q : Option Value → eb_H → Prop} (x1 : Int32) (x2 : Int32) (x3 : Int32) (x4 : Int32)  (ko : eb_KO h) (w : eb_Ct d 145 [.ref s_EB, .int x1, .int x2, .int x3] h (fun r h1 => ∃ y2, r = some (.int y2) ∧ eb_KO h1 ∧ ((y2 = 0 → ((0 ≤ x4 → ∃ r6, eb_R h1 s_EB 2 = some r6 ∧ eb_kd r6 = 9 ∧ eb_Ct d 8 [.ref s_flights, .ref r6, .ref s_now] h1 (fun r h9 => r = none ∧ eb_KO h9 ∧ eb_Ct d 12 [.ref s_flights, .int x1, .int x2, .int x3] h9 (fun r h12 => ∃ y13, r = some (.int y13) ∧ eb_KO h12 ∧ ((y13 ≤ x4 → Q (some (.int (-1))) h12) ∧ (¬ (y13 ≤ x4) → eb_Ct d 15 [.ref s_flights, .int x4] h12 (fun r h16 => ∃ y17, r = some (.int y17) ∧ eb_KO h16 ∧ Q (some (.int y17)) h16)))))) ∧ (¬ (0 ≤ x4) → Q (some (.int (-3))) h1))) ∧ (¬ (y2 = 0) → Q (some (.int y2)) h1)))) : eb_Ct (d + 1) 113 [.ref s_EB, .int x1, .int x2, .int x3, .int x4] h Q :=
  eb_bodyQ (by decide) ok_X10_way (Nat.le_of_ble_eq_true rfl) (b_X10_way_0 (h0 := h) x1 x2 x3 x4  ko w)
theorem b_X10_ways_0 {d : Nat} {h0 h : eb_H} {Q : Option Value → eb_H → Prop} (x1 : Int32) (x2 : Int32) (x3 : Int32) (x4 : Int32)  (ko : eb_KO h) (w : eb_Ct d 145 [.ref s_EB, .int x1, .int x2, .int x3] h (fun r h1 => ∃ y2, r = some (.int y2) ∧ eb_KO h1 ∧ ((y2 = 0 → ((x4 < 0 → Q (some (.long (-3))) h1) ∧ (¬ (x4 < 0) → ((x4 ≤ (12 : Int32) → ∃ r7, eb_R h1 s_EB 2 = some r7 ∧ eb_kd r7 = 9 ∧ eb_Ct d 18 [.ref s_flights, .ref r7, .ref s_now, .int x4, .int 0] h1 (fun r h10 => r = none ∧ eb_KO h10 ∧ eb_Ct d 22 [.ref s_flights, .int x1, .int x2, .int x3] h10 (fun r h13 => ∃ y14, r = some (.long y14) ∧ eb_KO h13 ∧ Q (some (.long y14)) h13))) ∧ (¬ (x4 ≤ (12 : Int32)) → Q (some (.long (-3))) h1))))) ∧ (¬ (y2 = 0) → Q (some (.long y2.toInt64)) h1)))) : eb_Sn (d + 1) m_X10_ways h0 0 [(0, .ref s_EB), (1, .int x1), (2, .int x2), (3, .int x3), (4, .int x4)] [] h Q := by
  refine eb_aload_n (pc := 0) (n := 0) (i := 0) rfl rfl rfl ?_
  refine eb_iload_n (pc := 1) (n := 1) (i := 1) rfl rfl rfl ?_
  refine eb_iload_n (pc := 2) (n := 2) (i := 2) rfl rfl rfl ?_
  refine eb_iload_n (pc := 3) (n := 3) (i := 3) rfl rfl rfl ?_
  refine eb_ctV (pc := 4) (As := [.int x1, .int x2, .int x3]) (rest := []) rfl (by decide) rfl rfl (by decide) rfl (Nat.le_of_ble_eq_true rfl) ?_
  refine eb_Ct.mono w ?_
  rintro r h1 ⟨y2, rfl, ko3, w⟩
  change eb_Sn _ _ _ 7 _ [.int y2] _ _
  refine eb_istore (pc := 7) (i := 5) (ls2 := [(5, .int y2), (0, .ref s_EB), (1, .int x1), (2, .int x2), (3, .int x3), (4, .int x4)]) (Nat.le_of_ble_eq_true rfl) rfl rfl ?_
  refine eb_iload (pc := 9) (i := 5) rfl rfl ?_
  refine eb_if_eq (pc := 11) (tgt := 18) rfl (by decide) (fun c4 => ?_) (fun c4 => ?_)
  · replace w := w.1 c4
    refine eb_iload (pc := 18) (i := 4) rfl rfl ?_
    refine eb_if_lt (pc := 20) (tgt := 30) rfl (by decide) (fun c5 => ?_) (fun c5 => ?_)
    · replace w := w.1 c5
      refine eb_ldc2 (pc := 30) (a := 18446744073709551613) (v := (-3)) rfl (by decide) ?_
      exact eb_lreturn (pc := 33) rfl rfl w
    · replace w := w.2 c5
      refine eb_iload (pc := 23) (i := 4) rfl rfl ?_
      refine eb_bipush (pc := 25) (n := 12) (v := 12) rfl rfl ?_
      refine eb_icmp_le (pc := 27) (tgt := 34) rfl (by decide) (fun c6 => ?_) (fun c6 => ?_)
      · replace w := w.1 c6
        refine eb_aload_n (pc := 34) (n := 0) (i := 0) rfl rfl rfl ?_
        refine eb_getR (pc := 35) rfl rfl (by decide) (by decide) rfl (ko_s_EB_7 ko3) ?_
        refine eb_aload_n (pc := 38) (n := 0) (i := 0) rfl rfl rfl ?_
        obtain ⟨r7, q8, k9, w⟩ := w
        refine eb_getR (pc := 39) rfl rfl (by decide) (by decide) rfl q8 ?_
        refine eb_aload_n (pc := 42) (n := 0) (i := 0) rfl rfl rfl ?_
        refine eb_getR (pc := 43) rfl rfl (by decide) (by decide) rfl (ko_s_EB_3 ko3) ?_
        refine eb_iload (pc := 46) (i := 4) rfl rfl ?_
        refine eb_iconst (pc := 48) (n := 0) (v := 0) rfl rfl ?_
        refine eb_ctV (pc := 49) (As := [.ref r7, .ref s_now, .int x4, .int 0]) (rest := []) rfl (by decide) rfl rfl (by decide) rfl (Nat.le_of_ble_eq_true rfl) ?_
        refine eb_Ct.mono w ?_
        rintro r h10 ⟨rfl, ko12, w⟩
        change eb_Sn _ _ _ 52 _ [] _ _
        refine eb_aload_n (pc := 52) (n := 0) (i := 0) rfl rfl rfl ?_
        refine eb_getR (pc := 53) rfl rfl (by decide) (by decide) rfl (ko_s_EB_7 ko12) ?_
        refine eb_iload_n (pc := 56) (n := 1) (i := 1) rfl rfl rfl ?_
        refine eb_iload_n (pc := 57) (n := 2) (i := 2) rfl rfl rfl ?_
        refine eb_iload_n (pc := 58) (n := 3) (i := 3) rfl rfl rfl ?_
        refine eb_ctV (pc := 59) (As := [.int x1, .int x2, .int x3]) (rest := []) rfl (by decide) rfl rfl (by decide) rfl (Nat.le_of_ble_eq_true rfl) ?_
        refine eb_Ct.mono w ?_
        rintro r h13 ⟨y14, rfl, ko15, w⟩
        change eb_Sn _ _ _ 62 _ [.long y14] _ _
        exact eb_lreturn (pc := 62) rfl rfl w
      · replace w := w.2 c6
        refine eb_ldc2 (pc := 30) (a := 18446744073709551613) (v := (-3)) rfl (by decide) ?_
        exact eb_lreturn (pc := 33) rfl rfl w
  · replace w := w.2 c4
    refine eb_iload (pc := 14) (i := 5) rfl rfl ?_
    refine eb_i2l (pc := 16) rfl ?_
    exact eb_lreturn (pc := 17) rfl rfl w
theorem T_X10_ways {d : Nat} {h : eb_H} {Q : Option Value → eb_H → Prop} (x1 : Int32) (x2 : Int32) (x3 : Int32) (x4 : Int32)  (ko : eb_KO h) (w : eb_Ct d 145 [.ref s_EB, .int x1, .int x2, .int x3] h (fun r h1 => ∃ y2, r = some (.int y2) ∧ eb_KO h1 ∧ ((y2 = 0 → ((x4 < 0 → Q (some (.long (-3))) h1) ∧ (¬ (x4 < 0) → ((x4 ≤ (12 : Int32) → ∃ r7, eb_R h1 s_EB 2 = some r7 ∧ eb_kd r7 = 9 ∧ eb_Ct d 18 [.ref s_flights, .ref r7, .ref s_now, .int x4, .int 0] h1 (fun r h10 => r = none ∧ eb_KO h10 ∧ eb_Ct d 22 [.ref s_flights, .int x1, .int x2, .int x3] h10 (fun r h13 => ∃ y14, r = some (.long y14) ∧ eb_KO h13 ∧ Q (some (.long y14)) h13))) ∧ (¬ (x4 ≤ (12 : Int32)) → Q (some (.long (-3))) h1))))) ∧ (¬ (y2 = 0) → Q (some (.long y2.toInt64)) h1)))) : eb_Ct (d + 1) 114 [.ref s_EB, .int x1, .int x2, .int x3, .int x4] h Q :=
  eb_bodyQ (by decide) ok_X10_ways (Nat.le_of_ble_eq_true rfl) (b_X10_ways_0 (h0 := h) x1 x2 x3 x4  ko w)
theorem b_X10_needed_0 {d : Nat} {h0 h : eb_H} {Q : Option Value → eb_H → Prop} (x1 : Int32) (x2 : Int32) (x3 : Int32)  (ko : eb_KO h) (w : eb_Ct d 145 [.ref s_EB, .int x1, .int x2, .int x3] h (fun r h1 => ∃ y2, r = some (.int y2) ∧ eb_KO h1 ∧ ((y2 = 0 → ∃ r5, eb_R h1 s_EB 2 = some r5 ∧ eb_kd r5 = 9 ∧ eb_Ct d 8 [.ref s_flights, .ref r5, .ref s_now] h1 (fun r h8 => r = none ∧ eb_KO h8 ∧ eb_Ct d 12 [.ref s_flights, .int x1, .int x2, .int x3] h8 (fun r h11 => ∃ y12, r = some (.int y12) ∧ eb_KO h11 ∧ ((0 < y12 → eb_Sn (d + 1) m_X10_needed h0 80 [(0, .ref s_EB), (1, .int x1), (2, .int x2), (3, .int x3), (5, .int (((eb_I h11 s_flights 3) &&& (((1 : Int32) <<< ((eb_I h11 s_now 0) &&& 31)) ^^^ (-1))) &&& (((1 : Int32) <<< (x1 &&& 31)) ^^^ (-1)))), (6, .int 0), (7, .int 0)] [] h11 Q) ∧ (¬ (0 < y12) → Q (some (.int 0)) h11))))) ∧ (¬ (y2 = 0) → Q (some (.int y2)) h1)))) : eb_Sn (d + 1) m_X10_needed h0 0 [(0, .ref s_EB), (1, .int x1), (2, .int x2), (3, .int x3)] [] h Q := by
  refine eb_aload_n (pc := 0) (n := 0) (i := 0) rfl rfl rfl ?_
  refine eb_iload_n (pc := 1) (n := 1) (i := 1) rfl rfl rfl ?_
  refine eb_iload_n (pc := 2) (n := 2) (i := 2) rfl rfl rfl ?_
  refine eb_iload_n (pc := 3) (n := 3) (i := 3) rfl rfl rfl ?_
  refine eb_ctV (pc := 4) (As := [.int x1, .int x2, .int x3]) (rest := []) rfl (by decide) rfl rfl (by decide) rfl (Nat.le_of_ble_eq_true rfl) ?_
  refine eb_Ct.mono w ?_
  rintro r h1 ⟨y2, rfl, ko3, w⟩
  change eb_Sn _ _ _ 7 _ [.int y2] _ _
  refine eb_istore (pc := 7) (i := 4) (ls2 := [(4, .int y2), (0, .ref s_EB), (1, .int x1), (2, .int x2), (3, .int x3)]) (Nat.le_of_ble_eq_true rfl) rfl rfl ?_
  refine eb_iload (pc := 9) (i := 4) rfl rfl ?_
  refine eb_if_eq (pc := 11) (tgt := 17) rfl (by decide) (fun c4 => ?_) (fun c4 => ?_)
  · replace w := w.1 c4
    refine eb_aload_n (pc := 17) (n := 0) (i := 0) rfl rfl rfl ?_
    refine eb_getR (pc := 18) rfl rfl (by decide) (by decide) rfl (ko_s_EB_7 ko3) ?_
    refine eb_aload_n (pc := 21) (n := 0) (i := 0) rfl rfl rfl ?_
    obtain ⟨r5, q6, k7, w⟩ := w
    refine eb_getR (pc := 22) rfl rfl (by decide) (by decide) rfl q6 ?_
    refine eb_aload_n (pc := 25) (n := 0) (i := 0) rfl rfl rfl ?_
    refine eb_getR (pc := 26) rfl rfl (by decide) (by decide) rfl (ko_s_EB_3 ko3) ?_
    refine eb_ctV (pc := 29) (As := [.ref r5, .ref s_now]) (rest := []) rfl (by decide) rfl rfl (by decide) rfl (Nat.le_of_ble_eq_true rfl) ?_
    refine eb_Ct.mono w ?_
    rintro r h8 ⟨rfl, ko10, w⟩
    change eb_Sn _ _ _ 32 _ [] _ _
    refine eb_aload_n (pc := 32) (n := 0) (i := 0) rfl rfl rfl ?_
    refine eb_getR (pc := 33) rfl rfl (by decide) (by decide) rfl (ko_s_EB_7 ko10) ?_
    refine eb_iload_n (pc := 36) (n := 1) (i := 1) rfl rfl rfl ?_
    refine eb_iload_n (pc := 37) (n := 2) (i := 2) rfl rfl rfl ?_
    refine eb_iload_n (pc := 38) (n := 3) (i := 3) rfl rfl rfl ?_
    refine eb_ctV (pc := 39) (As := [.int x1, .int x2, .int x3]) (rest := []) rfl (by decide) rfl rfl (by decide) rfl (Nat.le_of_ble_eq_true rfl) ?_
    refine eb_Ct.mono w ?_
    rintro r h11 ⟨y12, rfl, ko13, w⟩
    change eb_Sn _ _ _ 42 _ [.int y12] _ _
    refine eb_if_gt (pc := 42) (tgt := 47) rfl (by decide) (fun c14 => ?_) (fun c14 => ?_)
    · replace w := w.1 c14
      refine eb_aload_n (pc := 47) (n := 0) (i := 0) rfl rfl rfl ?_
      refine eb_getR (pc := 48) rfl rfl (by decide) (by decide) rfl (ko_s_EB_7 ko13) ?_
      refine eb_getI (pc := 51) rfl rfl (by decide) (by decide) rfl ?_
      refine eb_iconst (pc := 54) (n := 1) (v := 1) rfl rfl ?_
      refine eb_aload_n (pc := 55) (n := 0) (i := 0) rfl rfl rfl ?_
      refine eb_getR (pc := 56) rfl rfl (by decide) (by decide) rfl (ko_s_EB_3 ko13) ?_
      refine eb_getI (pc := 59) rfl rfl (by decide) (by decide) rfl ?_
      refine eb_ishl (pc := 62) rfl ?_
      refine eb_iconst (pc := 63) (n := -1) (v := (-1)) rfl rfl ?_
      refine eb_ixor (pc := 64) rfl ?_
      refine eb_iand (pc := 65) rfl ?_
      refine eb_iconst (pc := 66) (n := 1) (v := 1) rfl rfl ?_
      refine eb_iload_n (pc := 67) (n := 1) (i := 1) rfl rfl rfl ?_
      refine eb_ishl (pc := 68) rfl ?_
      refine eb_iconst (pc := 69) (n := -1) (v := (-1)) rfl rfl ?_
      refine eb_ixor (pc := 70) rfl ?_
      refine eb_iand (pc := 71) rfl ?_
      refine eb_istore (pc := 72) (i := 5) (ls2 := [(5, .int (((eb_I h11 s_flights 3) &&& (((1 : Int32) <<< ((eb_I h11 s_now 0) &&& 31)) ^^^ (-1))) &&& (((1 : Int32) <<< (x1 &&& 31)) ^^^ (-1)))), (4, .int y2), (0, .ref s_EB), (1, .int x1), (2, .int x2), (3, .int x3)]) (Nat.le_of_ble_eq_true rfl) rfl rfl ?_
      refine eb_iconst (pc := 74) (n := 0) (v := 0) rfl rfl ?_
      refine eb_istore (pc := 75) (i := 6) (ls2 := [(6, .int 0), (5, .int (((eb_I h11 s_flights 3) &&& (((1 : Int32) <<< ((eb_I h11 s_now 0) &&& 31)) ^^^ (-1))) &&& (((1 : Int32) <<< (x1 &&& 31)) ^^^ (-1)))), (4, .int y2), (0, .ref s_EB), (1, .int x1), (2, .int x2), (3, .int x3)]) (Nat.le_of_ble_eq_true rfl) rfl rfl ?_
      refine eb_iconst (pc := 77) (n := 0) (v := 0) rfl rfl ?_
      refine eb_istore (pc := 78) (i := 7) (ls2 := [(7, .int 0), (6, .int 0), (5, .int (((eb_I h11 s_flights 3) &&& (((1 : Int32) <<< ((eb_I h11 s_now 0) &&& 31)) ^^^ (-1))) &&& (((1 : Int32) <<< (x1 &&& 31)) ^^^ (-1)))), (4, .int y2), (0, .ref s_EB), (1, .int x1), (2, .int x2), (3, .int x3)]) (Nat.le_of_ble_eq_true rfl) rfl rfl ?_
      exact eb_pick [4, 5, 6, 7, 2, 1, 0] rfl w
    · replace w := w.2 c14
      refine eb_iconst (pc := 45) (n := 0) (v := 0) rfl rfl ?_
      exact eb_ireturn (pc := 46) rfl rfl rfl w
  · replace w := w.2 c4
    refine eb_iload (pc := 14) (i := 4) rfl rfl ?_
    exact eb_ireturn (pc := 16) rfl rfl rfl w
theorem b_X10_needed_80 {d : Nat} {h0 h : eb_H} {Q : Option Value → eb_H → Prop} (x1 : Int32) (x2 : Int32) (x3 : Int32) (x5 : Int32) (x6 : Int32) (x7 : Int32)  (ko : eb_KO h) (w : (((16 : Int32) ≤ x7 → Q (some (.int x6)) h) ∧ (¬ ((16 : Int32) ≤ x7) → ((¬ ((x5 >>> (x7 &&& 31)) &&& 1) = 0 → eb_Ct d 12 [.ref s_flights, .int x1, .int x2, .int x3] (eb_sI h s_flights 2 ((eb_I h s_now 3) ||| ((1 : Int32) <<< (x7 &&& 31)))) (fun r h3 => ∃ y4, r = some (.int y4) ∧ eb_KO h3 ∧ ((¬ y4 = ((-1) : Int32) → eb_Sn (d + 1) m_X10_needed h0 80 [(0, .ref s_EB), (1, .int x1), (2, .int x2), (3, .int x3), (5, .int x5), (6, .int x6), (7, .int (x7 + 1))] [] h3 Q) ∧ (y4 = ((-1) : Int32) → eb_Sn (d + 1) m_X10_needed h0 80 [(0, .ref s_EB), (1, .int x1), (2, .int x2), (3, .int x3), (5, .int x5), (6, .int (x6 ||| ((1 : Int32) <<< (x7 &&& 31)))), (7, .int (x7 + 1))] [] h3 Q)))) ∧ (((x5 >>> (x7 &&& 31)) &&& 1) = 0 → eb_Sn (d + 1) m_X10_needed h0 80 [(0, .ref s_EB), (1, .int x1), (2, .int x2), (3, .int x3), (5, .int x5), (6, .int x6), (7, .int (x7 + 1))] [] h Q))))) : eb_Sn (d + 1) m_X10_needed h0 80 [(0, .ref s_EB), (1, .int x1), (2, .int x2), (3, .int x3), (5, .int x5), (6, .int x6), (7, .int x7)] [] h Q := by
  refine eb_iload (pc := 80) (i := 7) rfl rfl ?_
  refine eb_bipush (pc := 82) (n := 16) (v := 16) rfl rfl ?_
  refine eb_icmp_ge (pc := 84) (tgt := 148) rfl (by decide) (fun c1 => ?_) (fun c1 => ?_)
  · replace w := w.1 c1
    refine eb_iload (pc := 148) (i := 6) rfl rfl ?_
    exact eb_ireturn (pc := 150) rfl rfl rfl w
  · replace w := w.2 c1
    refine eb_iload (pc := 87) (i := 5) rfl rfl ?_
    refine eb_iload (pc := 89) (i := 7) rfl rfl ?_
    refine eb_ishr (pc := 91) rfl ?_
    refine eb_iconst (pc := 92) (n := 1) (v := 1) rfl rfl ?_
    refine eb_iand (pc := 93) rfl ?_
    refine eb_if_ne (pc := 94) (tgt := 100) rfl (by decide) (fun c2 => ?_) (fun c2 => ?_)
    · replace w := w.1 c2
      refine eb_aload_n (pc := 100) (n := 0) (i := 0) rfl rfl rfl ?_
      refine eb_getR (pc := 101) rfl rfl (by decide) (by decide) rfl (ko_s_EB_7 ko) ?_
      refine eb_aload_n (pc := 104) (n := 0) (i := 0) rfl rfl rfl ?_
      refine eb_getR (pc := 105) rfl rfl (by decide) (by decide) rfl (ko_s_EB_3 ko) ?_
      refine eb_getI (pc := 108) rfl rfl (by decide) (by decide) rfl ?_
      refine eb_iconst (pc := 111) (n := 1) (v := 1) rfl rfl ?_
      refine eb_iload (pc := 112) (i := 7) rfl rfl ?_
      refine eb_ishl (pc := 114) rfl ?_
      refine eb_ior (pc := 115) rfl ?_
      refine eb_putI (pc := 116) rfl rfl (by decide) (by decide) rfl rfl ⟨rfl, rfl⟩ ?_
      refine eb_aload_n (pc := 119) (n := 0) (i := 0) rfl rfl rfl ?_
      refine eb_getR (pc := 120) rfl rfl (by decide) (by decide) rfl (ko_s_EB_7 ko) ?_
      refine eb_iload_n (pc := 123) (n := 1) (i := 1) rfl rfl rfl ?_
      refine eb_iload_n (pc := 124) (n := 2) (i := 2) rfl rfl rfl ?_
      refine eb_iload_n (pc := 125) (n := 3) (i := 3) rfl rfl rfl ?_
      refine eb_ctV (pc := 126) (As := [.int x1, .int x2, .int x3]) (rest := []) rfl (by decide) rfl rfl (by decide) rfl (Nat.le_of_ble_eq_true rfl) ?_
      refine eb_Ct.mono w ?_
      rintro r h3 ⟨y4, rfl, ko5, w⟩
      change eb_Sn _ _ _ 129 _ [.int y4] _ _
      refine eb_iconst (pc := 129) (n := -1) (v := (-1)) rfl rfl ?_
      refine eb_icmp_ne (pc := 130) (tgt := 142) rfl (by decide) (fun c6 => ?_) (fun c6 => ?_)
      · replace w := w.1 c6
        refine eb_iinc (pc := 142) (i := 7) (n := 1) (v := x7 + 1) (ls2 := [(7, .int (x7 + 1)), (0, .ref s_EB), (1, .int x1), (2, .int x2), (3, .int x3), (5, .int x5), (6, .int x6)]) (Nat.le_of_ble_eq_true rfl) rfl rfl rfl rfl ?_
        refine eb_goto (pc := 145) (tgt := 80) rfl (by decide) ?_
        exact eb_pick [1, 2, 3, 4, 5, 6, 0] rfl w
      · replace w := w.2 c6
        refine eb_iload (pc := 133) (i := 6) rfl rfl ?_
        refine eb_iconst (pc := 135) (n := 1) (v := 1) rfl rfl ?_
        refine eb_iload (pc := 136) (i := 7) rfl rfl ?_
        refine eb_ishl (pc := 138) rfl ?_
        refine eb_ior (pc := 139) rfl ?_
        refine eb_istore (pc := 140) (i := 6) (ls2 := [(6, .int (x6 ||| ((1 : Int32) <<< (x7 &&& 31)))), (0, .ref s_EB), (1, .int x1), (2, .int x2), (3, .int x3), (5, .int x5), (7, .int x7)]) (Nat.le_of_ble_eq_true rfl) rfl rfl ?_
        refine eb_iinc (pc := 142) (i := 7) (n := 1) (v := x7 + 1) (ls2 := [(7, .int (x7 + 1)), (6, .int (x6 ||| ((1 : Int32) <<< (x7 &&& 31)))), (0, .ref s_EB), (1, .int x1), (2, .int x2), (3, .int x3), (5, .int x5)]) (Nat.le_of_ble_eq_true rfl) rfl rfl rfl rfl ?_
        refine eb_goto (pc := 145) (tgt := 80) rfl (by decide) ?_
        exact eb_pick [2, 3, 4, 5, 6, 1, 0] rfl w
    · replace w := w.2 c2
      refine eb_goto (pc := 97) (tgt := 142) rfl (by decide) ?_
      refine eb_iinc (pc := 142) (i := 7) (n := 1) (v := x7 + 1) (ls2 := [(7, .int (x7 + 1)), (0, .ref s_EB), (1, .int x1), (2, .int x2), (3, .int x3), (5, .int x5), (6, .int x6)]) (Nat.le_of_ble_eq_true rfl) rfl rfl rfl rfl ?_
      refine eb_goto (pc := 145) (tgt := 80) rfl (by decide) ?_
      exact eb_pick [1, 2, 3, 4, 5, 6, 0] rfl w
theorem T_X10_needed {d : Nat} {h : eb_H} {Q : Option Value → eb_H → Prop} (x1 : Int32) (x2 : Int32) (x3 : Int32)  (ko : eb_KO h) (w : eb_Ct d 145 [.ref s_EB, .int x1, .int x2, .int x3] h (fun r h1 => ∃ y2, r = some (.int y2) ∧ eb_KO h1 ∧ ((y2 = 0 → ∃ r5, eb_R h1 s_EB 2 = some r5 ∧ eb_kd r5 = 9 ∧ eb_Ct d 8 [.ref s_flights, .ref r5, .ref s_now] h1 (fun r h8 => r = none ∧ eb_KO h8 ∧ eb_Ct d 12 [.ref s_flights, .int x1, .int x2, .int x3] h8 (fun r h11 => ∃ y12, r = some (.int y12) ∧ eb_KO h11 ∧ ((0 < y12 → eb_Sn (d + 1) m_X10_needed h 80 [(0, .ref s_EB), (1, .int x1), (2, .int x2), (3, .int x3), (5, .int (((eb_I h11 s_flights 3) &&& (((1 : Int32) <<< ((eb_I h11 s_now 0) &&& 31)) ^^^ (-1))) &&& (((1 : Int32) <<< (x1 &&& 31)) ^^^ (-1)))), (6, .int 0), (7, .int 0)] [] h11 Q) ∧ (¬ (0 < y12) → Q (some (.int 0)) h11))))) ∧ (¬ (y2 = 0) → Q (some (.int y2)) h1)))) : eb_Ct (d + 1) 115 [.ref s_EB, .int x1, .int x2, .int x3] h Q :=
  eb_bodyQ (by decide) ok_X10_needed (Nat.le_of_ble_eq_true rfl) (b_X10_needed_0 (h0 := h) x1 x2 x3  ko w)
theorem b_X10_reach_0 {d : Nat} {h0 h : eb_H} {Q : Option Value → eb_H → Prop}   (ko : eb_KO h) (w : ∃ r1, eb_R h s_EB 2 = some r1 ∧ eb_kd r1 = 9 ∧ eb_Ct d 8 [.ref s_flights, .ref r1, .ref s_now] h (fun r h4 => r = none ∧ eb_KO h4 ∧ eb_Ct d 11 [.ref s_flights] h4 (fun r h7 => r = none ∧ eb_KO h7 ∧ eb_Sn (d + 1) m_X10_reach h0 26 [(0, .ref s_EB), (1, .int 0), (2, .int 0)] [] h7 Q))) : eb_Sn (d + 1) m_X10_reach h0 0 [(0, .ref s_EB)] [] h Q := by
  refine eb_aload_n (pc := 0) (n := 0) (i := 0) rfl rfl rfl ?_
  refine eb_getR (pc := 1) rfl rfl (by decide) (by decide) rfl (ko_s_EB_7 ko) ?_
  refine eb_aload_n (pc := 4) (n := 0) (i := 0) rfl rfl rfl ?_
  obtain ⟨r1, q2, k3, w⟩ := w
  refine eb_getR (pc := 5) rfl rfl (by decide) (by decide) rfl q2 ?_
  refine eb_aload_n (pc := 8) (n := 0) (i := 0) rfl rfl rfl ?_
  refine eb_getR (pc := 9) rfl rfl (by decide) (by decide) rfl (ko_s_EB_3 ko) ?_
  refine eb_ctV (pc := 12) (As := [.ref r1, .ref s_now]) (rest := []) rfl (by decide) rfl rfl (by decide) rfl (Nat.le_of_ble_eq_true rfl) ?_
  refine eb_Ct.mono w ?_
  rintro r h4 ⟨rfl, ko6, w⟩
  change eb_Sn _ _ _ 15 _ [] _ _
  refine eb_aload_n (pc := 15) (n := 0) (i := 0) rfl rfl rfl ?_
  refine eb_getR (pc := 16) rfl rfl (by decide) (by decide) rfl (ko_s_EB_7 ko6) ?_
  refine eb_ctV (pc := 19) (As := []) (rest := []) rfl (by decide) rfl rfl (by decide) rfl (Nat.le_of_ble_eq_true rfl) ?_
  refine eb_Ct.mono w ?_
  rintro r h7 ⟨rfl, ko9, w⟩
  change eb_Sn _ _ _ 22 _ [] _ _
  refine eb_iconst (pc := 22) (n := 0) (v := 0) rfl rfl ?_
  refine eb_istore_n (pc := 23) (n := 1) (i := 1) (ls2 := [(1, .int 0), (0, .ref s_EB)]) rfl (Nat.le_of_ble_eq_true rfl) rfl rfl ?_
  refine eb_iconst (pc := 24) (n := 0) (v := 0) rfl rfl ?_
  refine eb_istore_n (pc := 25) (n := 2) (i := 2) (ls2 := [(2, .int 0), (1, .int 0), (0, .ref s_EB)]) rfl (Nat.le_of_ble_eq_true rfl) rfl rfl ?_
  exact eb_pick [2, 1, 0] rfl w
theorem b_X10_reach_26 {d : Nat} {h0 h : eb_H} {Q : Option Value → eb_H → Prop} (x1 : Int32) (x2 : Int32)  (ko : eb_KO h) (w : (((16 : Int32) ≤ x2 → Q (some (.int x1)) h) ∧ (¬ ((16 : Int32) ≤ x2) → eb_Ct d 16 [.ref s_flights, .int x2] h (fun r h2 => ∃ y3, r = some (.long y3) ∧ eb_KO h2 ∧ ((y3 = 0 → eb_Sn (d + 1) m_X10_reach h0 26 [(0, .ref s_EB), (1, .int x1), (2, .int (x2 + 1))] [] h2 Q) ∧ (¬ (y3 = 0) → eb_Sn (d + 1) m_X10_reach h0 26 [(0, .ref s_EB), (1, .int (x1 ||| ((1 : Int32) <<< (x2 &&& 31)))), (2, .int (x2 + 1))] [] h2 Q)))))) : eb_Sn (d + 1) m_X10_reach h0 26 [(0, .ref s_EB), (1, .int x1), (2, .int x2)] [] h Q := by
  refine eb_iload_n (pc := 26) (n := 2) (i := 2) rfl rfl rfl ?_
  refine eb_bipush (pc := 27) (n := 16) (v := 16) rfl rfl ?_
  refine eb_icmp_ge (pc := 29) (tgt := 57) rfl (by decide) (fun c1 => ?_) (fun c1 => ?_)
  · replace w := w.1 c1
    refine eb_iload_n (pc := 57) (n := 1) (i := 1) rfl rfl rfl ?_
    exact eb_ireturn (pc := 58) rfl rfl rfl w
  · replace w := w.2 c1
    refine eb_aload_n (pc := 32) (n := 0) (i := 0) rfl rfl rfl ?_
    refine eb_getR (pc := 33) rfl rfl (by decide) (by decide) rfl (ko_s_EB_7 ko) ?_
    refine eb_iload_n (pc := 36) (n := 2) (i := 2) rfl rfl rfl ?_
    refine eb_ctV (pc := 37) (As := [.int x2]) (rest := []) rfl (by decide) rfl rfl (by decide) rfl (Nat.le_of_ble_eq_true rfl) ?_
    refine eb_Ct.mono w ?_
    rintro r h2 ⟨y3, rfl, ko4, w⟩
    change eb_Sn _ _ _ 40 _ [.long y3] _ _
    refine eb_lconst (pc := 40) (n := 0) (v := 0) rfl rfl ?_
    refine eb_lcmp (pc := 41) rfl ?_
    refine eb_if_eq (pc := 42) (tgt := 51) rfl (by decide) (fun c5 => ?_) (fun c5 => ?_)
    · replace c5 := eb_lc_eq.mp c5
      replace w := w.1 c5
      refine eb_iinc (pc := 51) (i := 2) (n := 1) (v := x2 + 1) (ls2 := [(2, .int (x2 + 1)), (0, .ref s_EB), (1, .int x1)]) (Nat.le_of_ble_eq_true rfl) rfl rfl rfl rfl ?_
      refine eb_goto (pc := 54) (tgt := 26) rfl (by decide) ?_
      exact eb_pick [1, 2, 0] rfl w
    · replace c5 := (fun hh => mt eb_lc_eq.mpr hh) c5
      replace w := w.2 c5
      refine eb_iload_n (pc := 45) (n := 1) (i := 1) rfl rfl rfl ?_
      refine eb_iconst (pc := 46) (n := 1) (v := 1) rfl rfl ?_
      refine eb_iload_n (pc := 47) (n := 2) (i := 2) rfl rfl rfl ?_
      refine eb_ishl (pc := 48) rfl ?_
      refine eb_ior (pc := 49) rfl ?_
      refine eb_istore_n (pc := 50) (n := 1) (i := 1) (ls2 := [(1, .int (x1 ||| ((1 : Int32) <<< (x2 &&& 31)))), (0, .ref s_EB), (2, .int x2)]) rfl (Nat.le_of_ble_eq_true rfl) rfl rfl ?_
      refine eb_iinc (pc := 51) (i := 2) (n := 1) (v := x2 + 1) (ls2 := [(2, .int (x2 + 1)), (1, .int (x1 ||| ((1 : Int32) <<< (x2 &&& 31)))), (0, .ref s_EB)]) (Nat.le_of_ble_eq_true rfl) rfl rfl rfl rfl ?_
      refine eb_goto (pc := 54) (tgt := 26) rfl (by decide) ?_
      exact eb_pick [2, 1, 0] rfl w
theorem T_X10_reach {d : Nat} {h : eb_H} {Q : Option Value → eb_H → Prop}   (ko : eb_KO h) (w : ∃ r1, eb_R h s_EB 2 = some r1 ∧ eb_kd r1 = 9 ∧ eb_Ct d 8 [.ref s_flights, .ref r1, .ref s_now] h (fun r h4 => r = none ∧ eb_KO h4 ∧ eb_Ct d 11 [.ref s_flights] h4 (fun r h7 => r = none ∧ eb_KO h7 ∧ eb_Sn (d + 1) m_X10_reach h 26 [(0, .ref s_EB), (1, .int 0), (2, .int 0)] [] h7 Q))) : eb_Ct (d + 1) 116 [.ref s_EB] h Q :=
  eb_bodyQ (by decide) ok_X10_reach (Nat.le_of_ble_eq_true rfl) (b_X10_reach_0 (h0 := h)   ko w)
theorem b_X10_heard_0 {d : Nat} {h0 h : eb_H} {Q : Option Value → eb_H → Prop}   (ko : eb_KO h) (w : ∃ r1, eb_R h s_EB 2 = some r1 ∧ eb_kd r1 = 9 ∧ eb_Ct d 8 [.ref s_flights, .ref r1, .ref s_now] h (fun r h4 => r = none ∧ eb_KO h4 ∧ eb_Ct d 11 [.ref s_flights] h4 (fun r h7 => r = none ∧ eb_KO h7 ∧ eb_Ct d 17 [.ref s_flights] h7 (fun r h10 => ∃ y11, r = some (.int y11) ∧ eb_KO h10 ∧ Q (some (.int y11)) h10)))) : eb_Sn (d + 1) m_X10_heard h0 0 [(0, .ref s_EB)] [] h Q := by
  refine eb_aload_n (pc := 0) (n := 0) (i := 0) rfl rfl rfl ?_
  refine eb_getR (pc := 1) rfl rfl (by decide) (by decide) rfl (ko_s_EB_7 ko) ?_
  refine eb_aload_n (pc := 4) (n := 0) (i := 0) rfl rfl rfl ?_
  obtain ⟨r1, q2, k3, w⟩ := w
  refine eb_getR (pc := 5) rfl rfl (by decide) (by decide) rfl q2 ?_
  refine eb_aload_n (pc := 8) (n := 0) (i := 0) rfl rfl rfl ?_
  refine eb_getR (pc := 9) rfl rfl (by decide) (by decide) rfl (ko_s_EB_3 ko) ?_
  refine eb_ctV (pc := 12) (As := [.ref r1, .ref s_now]) (rest := []) rfl (by decide) rfl rfl (by decide) rfl (Nat.le_of_ble_eq_true rfl) ?_
  refine eb_Ct.mono w ?_
  rintro r h4 ⟨rfl, ko6, w⟩
  change eb_Sn _ _ _ 15 _ [] _ _
  refine eb_aload_n (pc := 15) (n := 0) (i := 0) rfl rfl rfl ?_
  refine eb_getR (pc := 16) rfl rfl (by decide) (by decide) rfl (ko_s_EB_7 ko6) ?_
  refine eb_ctV (pc := 19) (As := []) (rest := []) rfl (by decide) rfl rfl (by decide) rfl (Nat.le_of_ble_eq_true rfl) ?_
  refine eb_Ct.mono w ?_
  rintro r h7 ⟨rfl, ko9, w⟩
  change eb_Sn _ _ _ 22 _ [] _ _
  refine eb_aload_n (pc := 22) (n := 0) (i := 0) rfl rfl rfl ?_
  refine eb_getR (pc := 23) rfl rfl (by decide) (by decide) rfl (ko_s_EB_7 ko9) ?_
  refine eb_ctV (pc := 26) (As := []) (rest := []) rfl (by decide) rfl rfl (by decide) rfl (Nat.le_of_ble_eq_true rfl) ?_
  refine eb_Ct.mono w ?_
  rintro r h10 ⟨y11, rfl, ko12, w⟩
  change eb_Sn _ _ _ 29 _ [.int y11] _ _
  exact eb_ireturn (pc := 29) rfl rfl rfl w
theorem T_X10_heard {d : Nat} {h : eb_H} {Q : Option Value → eb_H → Prop}   (ko : eb_KO h) (w : ∃ r1, eb_R h s_EB 2 = some r1 ∧ eb_kd r1 = 9 ∧ eb_Ct d 8 [.ref s_flights, .ref r1, .ref s_now] h (fun r h4 => r = none ∧ eb_KO h4 ∧ eb_Ct d 11 [.ref s_flights] h4 (fun r h7 => r = none ∧ eb_KO h7 ∧ eb_Ct d 17 [.ref s_flights] h7 (fun r h10 => ∃ y11, r = some (.int y11) ∧ eb_KO h10 ∧ Q (some (.int y11)) h10)))) : eb_Ct (d + 1) 117 [.ref s_EB] h Q :=
  eb_bodyQ (by decide) ok_X10_heard (Nat.le_of_ble_eq_true rfl) (b_X10_heard_0 (h0 := h)   ko w)
theorem b_X10_most_0 {d : Nat} {h0 h : eb_H} {Q : Option Value → eb_H → Prop} (x1 : Int32)  (ko : eb_KO h) (w : ∃ r1, eb_R h s_EB 2 = some r1 ∧ eb_kd r1 = 9 ∧ eb_Ct d 80 [.ref r1, .int x1] h (fun r h4 => ∃ y5, r = some (.int y5) ∧ eb_KO h4 ∧ ((¬ y5 = 0 → eb_Ct d 148 [.ref s_EB, .int x1] h4 (fun r h8 => ∃ y9, r = some (.long y9) ∧ eb_KO h8 ∧ eb_Sn (d + 1) m_X10_most h0 26 [(2, .long y9), (4, .int (-1)), (5, .int 0)] [] h8 Q)) ∧ (y5 = 0 → Q (some (.int (-2))) h4)))) : eb_Sn (d + 1) m_X10_most h0 0 [(0, .ref s_EB), (1, .int x1)] [] h Q := by
  refine eb_aload_n (pc := 0) (n := 0) (i := 0) rfl rfl rfl ?_
  obtain ⟨r1, q2, k3, w⟩ := w
  refine eb_getR (pc := 1) rfl rfl (by decide) (by decide) rfl q2 ?_
  refine eb_iload_n (pc := 4) (n := 1) (i := 1) rfl rfl rfl ?_
  refine eb_ctV (pc := 5) (As := [.int x1]) (rest := []) rfl (by decide) rfl k3 (by decide) rfl (Nat.le_of_ble_eq_true rfl) ?_
  refine eb_Ct.mono w ?_
  rintro r h4 ⟨y5, rfl, ko6, w⟩
  change eb_Sn _ _ _ 8 _ [.int y5] _ _
  refine eb_if_ne (pc := 8) (tgt := 14) rfl (by decide) (fun c7 => ?_) (fun c7 => ?_)
  · replace w := w.1 c7
    refine eb_aload_n (pc := 14) (n := 0) (i := 0) rfl rfl rfl ?_
    refine eb_iload_n (pc := 15) (n := 1) (i := 1) rfl rfl rfl ?_
    refine eb_ctV (pc := 16) (As := [.int x1]) (rest := []) rfl (by decide) rfl rfl (by decide) rfl (Nat.le_of_ble_eq_true rfl) ?_
    refine eb_Ct.mono w ?_
    rintro r h8 ⟨y9, rfl, ko10, w⟩
    change eb_Sn _ _ _ 19 _ [.long y9] _ _
    refine eb_lstore_n (pc := 19) (n := 2) (i := 2) (ls2 := [(2, .long y9), (0, .ref s_EB), (1, .int x1)]) rfl (Nat.le_of_ble_eq_true rfl) rfl rfl ?_
    refine eb_iconst (pc := 20) (n := -1) (v := (-1)) rfl rfl ?_
    refine eb_istore (pc := 21) (i := 4) (ls2 := [(4, .int (-1)), (2, .long y9), (0, .ref s_EB), (1, .int x1)]) (Nat.le_of_ble_eq_true rfl) rfl rfl ?_
    refine eb_iconst (pc := 23) (n := 0) (v := 0) rfl rfl ?_
    refine eb_istore (pc := 24) (i := 5) (ls2 := [(5, .int 0), (4, .int (-1)), (2, .long y9), (0, .ref s_EB), (1, .int x1)]) (Nat.le_of_ble_eq_true rfl) rfl rfl ?_
    exact eb_pick [2, 1, 0] rfl w
  · replace w := w.2 c7
    refine eb_bipush (pc := 11) (n := -2) (v := (-2)) rfl rfl ?_
    exact eb_ireturn (pc := 13) rfl rfl rfl w
theorem b_X10_most_26 {d : Nat} {h0 h : eb_H} {Q : Option Value → eb_H → Prop} (x2 : Int64) (x4 : Int32) (x5 : Int32)  (ko : eb_KO h) (w : (((64 : Int32) ≤ x5 → Q (some (.int x4)) h) ∧ (¬ ((64 : Int32) ≤ x5) → ((¬ (((x2.toUInt64 >>> (x5.toInt64.toUInt64 &&& Int64.toUInt64 63)).toInt64) &&& 1) = 1 → eb_Sn (d + 1) m_X10_most h0 26 [(2, .long x2), (4, .int x4), (5, .int (x5 + 1))] [] h Q) ∧ ((((x2.toUInt64 >>> (x5.toInt64.toUInt64 &&& Int64.toUInt64 63)).toInt64) &&& 1) = 1 → eb_Ct d 283 [.int x5] h (fun r h3 => ∃ y4, r = some (.int y4) ∧ eb_KO h3 ∧ eb_Ct d 286 [.int x4, .int y4] h3 (fun r h6 => ∃ y7, r = some (.int y7) ∧ eb_KO h6 ∧ eb_Sn (d + 1) m_X10_most h0 26 [(2, .long x2), (4, .int y7), (5, .int (x5 + 1))] [] h6 Q))))))) : eb_Sn (d + 1) m_X10_most h0 26 [(2, .long x2), (4, .int x4), (5, .int x5)] [] h Q := by
  refine eb_iload (pc := 26) (i := 5) rfl rfl ?_
  refine eb_bipush (pc := 28) (n := 64) (v := 64) rfl rfl ?_
  refine eb_icmp_ge (pc := 30) (tgt := 62) rfl (by decide) (fun c1 => ?_) (fun c1 => ?_)
  · replace w := w.1 c1
    refine eb_iload (pc := 62) (i := 4) rfl rfl ?_
    exact eb_ireturn (pc := 64) rfl rfl rfl w
  · replace w := w.2 c1
    refine eb_lload_n (pc := 33) (n := 2) (i := 2) rfl rfl rfl ?_
    refine eb_iload (pc := 34) (i := 5) rfl rfl ?_
    refine eb_lushr (pc := 36) rfl ?_
    refine eb_lconst (pc := 37) (n := 1) (v := 1) rfl rfl ?_
    refine eb_land (pc := 38) rfl ?_
    refine eb_lconst (pc := 39) (n := 1) (v := 1) rfl rfl ?_
    refine eb_lcmp (pc := 40) rfl ?_
    refine eb_if_ne (pc := 41) (tgt := 56) rfl (by decide) (fun c2 => ?_) (fun c2 => ?_)
    · replace c2 := eb_lc_ne.mp c2
      replace w := w.1 c2
      refine eb_iinc (pc := 56) (i := 5) (n := 1) (v := x5 + 1) (ls2 := [(5, .int (x5 + 1)), (2, .long x2), (4, .int x4)]) (Nat.le_of_ble_eq_true rfl) rfl rfl rfl rfl ?_
      refine eb_goto (pc := 59) (tgt := 26) rfl (by decide) ?_
      exact eb_pick [1, 2, 0] rfl w
    · replace c2 := eb_lc_eq.mp c2
      replace w := w.2 c2
      refine eb_iload (pc := 44) (i := 4) rfl rfl ?_
      refine eb_iload (pc := 46) (i := 5) rfl rfl ?_
      refine eb_ctS (pc := 48) (As := [.int x5]) (rest := [.int x4]) rfl (by decide) (by decide) rfl rfl (Nat.le_of_ble_eq_true rfl) ?_
      refine eb_Ct.mono w ?_
      rintro r h3 ⟨y4, rfl, ko5, w⟩
      change eb_Sn _ _ _ 51 _ [.int y4, .int x4] _ _
      refine eb_ctS (pc := 51) (As := [.int x4, .int y4]) (rest := []) rfl (by decide) (by decide) rfl rfl (Nat.le_of_ble_eq_true rfl) ?_
      refine eb_Ct.mono w ?_
      rintro r h6 ⟨y7, rfl, ko8, w⟩
      change eb_Sn _ _ _ 54 _ [.int y7] _ _
      refine eb_istore (pc := 54) (i := 4) (ls2 := [(4, .int y7), (2, .long x2), (5, .int x5)]) (Nat.le_of_ble_eq_true rfl) rfl rfl ?_
      refine eb_iinc (pc := 56) (i := 5) (n := 1) (v := x5 + 1) (ls2 := [(5, .int (x5 + 1)), (4, .int y7), (2, .long x2)]) (Nat.le_of_ble_eq_true rfl) rfl rfl rfl rfl ?_
      refine eb_goto (pc := 59) (tgt := 26) rfl (by decide) ?_
      exact eb_pick [2, 1, 0] rfl w
theorem T_X10_most {d : Nat} {h : eb_H} {Q : Option Value → eb_H → Prop} (x1 : Int32)  (ko : eb_KO h) (w : ∃ r1, eb_R h s_EB 2 = some r1 ∧ eb_kd r1 = 9 ∧ eb_Ct d 80 [.ref r1, .int x1] h (fun r h4 => ∃ y5, r = some (.int y5) ∧ eb_KO h4 ∧ ((¬ y5 = 0 → eb_Ct d 148 [.ref s_EB, .int x1] h4 (fun r h8 => ∃ y9, r = some (.long y9) ∧ eb_KO h8 ∧ eb_Sn (d + 1) m_X10_most h 26 [(2, .long y9), (4, .int (-1)), (5, .int 0)] [] h8 Q)) ∧ (y5 = 0 → Q (some (.int (-2))) h4)))) : eb_Ct (d + 1) 118 [.ref s_EB, .int x1] h Q :=
  eb_bodyQ (by decide) ok_X10_most (Nat.le_of_ble_eq_true rfl) (b_X10_most_0 (h0 := h) x1  ko w)
theorem b_X10_tidings_0 {d : Nat} {h0 h : eb_H} {Q : Option Value → eb_H → Prop} (x1 : Int32)  (ko : eb_KO h) (w : ∃ r1, eb_R h s_EB 2 = some r1 ∧ eb_kd r1 = 9 ∧ eb_Ct d 83 [.ref r1, .int x1] h (fun r h4 => ∃ y5, r = some (.int y5) ∧ eb_KO h4 ∧ ((y5 = 0 → Q (some (.int (-2))) h4) ∧ (¬ (y5 = 0) → ∃ r8, eb_R h4 s_EB 2 = some r8 ∧ eb_kd r8 = 9 ∧ eb_Ct d 84 [.ref r8, .int x1] h4 (fun r h11 => ∃ y12, r = some (.int y12) ∧ eb_KO h11 ∧ eb_Ct d 148 [.ref s_EB, .int y12] h11 (fun r h14 => ∃ y15, r = some (.long y15) ∧ eb_KO h14 ∧ eb_Ct d 284 [.long y15] h14 (fun r h17 => ∃ y18, r = some (.int y18) ∧ eb_KO h17 ∧ Q (some (.int y18)) h17))))))) : eb_Sn (d + 1) m_X10_tidings h0 0 [(0, .ref s_EB), (1, .int x1)] [] h Q := by
  refine eb_aload_n (pc := 0) (n := 0) (i := 0) rfl rfl rfl ?_
  obtain ⟨r1, q2, k3, w⟩ := w
  refine eb_getR (pc := 1) rfl rfl (by decide) (by decide) rfl q2 ?_
  refine eb_iload_n (pc := 4) (n := 1) (i := 1) rfl rfl rfl ?_
  refine eb_ctV (pc := 5) (As := [.int x1]) (rest := []) rfl (by decide) rfl k3 (by decide) rfl (Nat.le_of_ble_eq_true rfl) ?_
  refine eb_Ct.mono w ?_
  rintro r h4 ⟨y5, rfl, ko6, w⟩
  change eb_Sn _ _ _ 8 _ [.int y5] _ _
  refine eb_if_eq (pc := 8) (tgt := 29) rfl (by decide) (fun c7 => ?_) (fun c7 => ?_)
  · replace w := w.1 c7
    refine eb_bipush (pc := 29) (n := -2) (v := (-2)) rfl rfl ?_
    exact eb_ireturn (pc := 31) rfl rfl rfl w
  · replace w := w.2 c7
    refine eb_aload_n (pc := 11) (n := 0) (i := 0) rfl rfl rfl ?_
    refine eb_aload_n (pc := 12) (n := 0) (i := 0) rfl rfl rfl ?_
    obtain ⟨r8, q9, k10, w⟩ := w
    refine eb_getR (pc := 13) rfl rfl (by decide) (by decide) rfl q9 ?_
    refine eb_iload_n (pc := 16) (n := 1) (i := 1) rfl rfl rfl ?_
    refine eb_ctV (pc := 17) (As := [.int x1]) (rest := [.ref s_EB]) rfl (by decide) rfl k10 (by decide) rfl (Nat.le_of_ble_eq_true rfl) ?_
    refine eb_Ct.mono w ?_
    rintro r h11 ⟨y12, rfl, ko13, w⟩
    change eb_Sn _ _ _ 20 _ [.int y12, .ref s_EB] _ _
    refine eb_ctV (pc := 20) (As := [.int y12]) (rest := []) rfl (by decide) rfl rfl (by decide) rfl (Nat.le_of_ble_eq_true rfl) ?_
    refine eb_Ct.mono w ?_
    rintro r h14 ⟨y15, rfl, ko16, w⟩
    change eb_Sn _ _ _ 23 _ [.long y15] _ _
    refine eb_ctS (pc := 23) (As := [.long y15]) (rest := []) rfl (by decide) (by decide) rfl rfl (Nat.le_of_ble_eq_true rfl) ?_
    refine eb_Ct.mono w ?_
    rintro r h17 ⟨y18, rfl, ko19, w⟩
    change eb_Sn _ _ _ 26 _ [.int y18] _ _
    refine eb_goto (pc := 26) (tgt := 31) rfl (by decide) ?_
    exact eb_ireturn (pc := 31) rfl rfl rfl w
theorem T_X10_tidings {d : Nat} {h : eb_H} {Q : Option Value → eb_H → Prop} (x1 : Int32)  (ko : eb_KO h) (w : ∃ r1, eb_R h s_EB 2 = some r1 ∧ eb_kd r1 = 9 ∧ eb_Ct d 83 [.ref r1, .int x1] h (fun r h4 => ∃ y5, r = some (.int y5) ∧ eb_KO h4 ∧ ((y5 = 0 → Q (some (.int (-2))) h4) ∧ (¬ (y5 = 0) → ∃ r8, eb_R h4 s_EB 2 = some r8 ∧ eb_kd r8 = 9 ∧ eb_Ct d 84 [.ref r8, .int x1] h4 (fun r h11 => ∃ y12, r = some (.int y12) ∧ eb_KO h11 ∧ eb_Ct d 148 [.ref s_EB, .int y12] h11 (fun r h14 => ∃ y15, r = some (.long y15) ∧ eb_KO h14 ∧ eb_Ct d 284 [.long y15] h14 (fun r h17 => ∃ y18, r = some (.int y18) ∧ eb_KO h17 ∧ Q (some (.int y18)) h17))))))) : eb_Ct (d + 1) 119 [.ref s_EB, .int x1] h Q :=
  eb_bodyQ (by decide) ok_X10_tidings (Nat.le_of_ble_eq_true rfl) (b_X10_tidings_0 (h0 := h) x1  ko w)
theorem b_X10_tiding_0 {d : Nat} {h0 h : eb_H} {Q : Option Value → eb_H → Prop} (x1 : Int32) (x2 : Int32)  (ko : eb_KO h) (w : ∃ r1, eb_R h s_EB 2 = some r1 ∧ eb_kd r1 = 9 ∧ eb_Ct d 83 [.ref r1, .int x1] h (fun r h4 => ∃ y5, r = some (.int y5) ∧ eb_KO h4 ∧ ((¬ y5 = 0 → ((0 ≤ x2 → ∃ r9, eb_R h4 s_EB 2 = some r9 ∧ eb_kd r9 = 9 ∧ eb_Ct d 84 [.ref r9, .int x1] h4 (fun r h12 => ∃ y13, r = some (.int y13) ∧ eb_KO h12 ∧ eb_Ct d 148 [.ref s_EB, .int y13] h12 (fun r h15 => ∃ y16, r = some (.long y16) ∧ eb_KO h15 ∧ eb_Sn (d + 1) m_X10_tiding h0 40 [(2, .int x2), (3, .long y16), (5, .int 0), (6, .int 0)] [] h15 Q))) ∧ (¬ (0 ≤ x2) → Q (some (.int (-3))) h4))) ∧ (y5 = 0 → Q (some (.int (-2))) h4)))) : eb_Sn (d + 1) m_X10_tiding h0 0 [(0, .ref s_EB), (1, .int x1), (2, .int x2)] [] h Q := by
  refine eb_aload_n (pc := 0) (n := 0) (i := 0) rfl rfl rfl ?_
  obtain ⟨r1, q2, k3, w⟩ := w
  refine eb_getR (pc := 1) rfl rfl (by decide) (by decide) rfl q2 ?_
  refine eb_iload_n (pc := 4) (n := 1) (i := 1) rfl rfl rfl ?_
  refine eb_ctV (pc := 5) (As := [.int x1]) (rest := []) rfl (by decide) rfl k3 (by decide) rfl (Nat.le_of_ble_eq_true rfl) ?_
  refine eb_Ct.mono w ?_
  rintro r h4 ⟨y5, rfl, ko6, w⟩
  change eb_Sn _ _ _ 8 _ [.int y5] _ _
  refine eb_if_ne (pc := 8) (tgt := 14) rfl (by decide) (fun c7 => ?_) (fun c7 => ?_)
  · replace w := w.1 c7
    refine eb_iload_n (pc := 14) (n := 2) (i := 2) rfl rfl rfl ?_
    refine eb_if_ge (pc := 15) (tgt := 21) rfl (by decide) (fun c8 => ?_) (fun c8 => ?_)
    · replace w := w.1 c8
      refine eb_aload_n (pc := 21) (n := 0) (i := 0) rfl rfl rfl ?_
      refine eb_aload_n (pc := 22) (n := 0) (i := 0) rfl rfl rfl ?_
      obtain ⟨r9, q10, k11, w⟩ := w
      refine eb_getR (pc := 23) rfl rfl (by decide) (by decide) rfl q10 ?_
      refine eb_iload_n (pc := 26) (n := 1) (i := 1) rfl rfl rfl ?_
      refine eb_ctV (pc := 27) (As := [.int x1]) (rest := [.ref s_EB]) rfl (by decide) rfl k11 (by decide) rfl (Nat.le_of_ble_eq_true rfl) ?_
      refine eb_Ct.mono w ?_
      rintro r h12 ⟨y13, rfl, ko14, w⟩
      change eb_Sn _ _ _ 30 _ [.int y13, .ref s_EB] _ _
      refine eb_ctV (pc := 30) (As := [.int y13]) (rest := []) rfl (by decide) rfl rfl (by decide) rfl (Nat.le_of_ble_eq_true rfl) ?_
      refine eb_Ct.mono w ?_
      rintro r h15 ⟨y16, rfl, ko17, w⟩
      change eb_Sn _ _ _ 33 _ [.long y16] _ _
      refine eb_lstore_n (pc := 33) (n := 3) (i := 3) (ls2 := [(3, .long y16), (0, .ref s_EB), (1, .int x1), (2, .int x2)]) rfl (Nat.le_of_ble_eq_true rfl) rfl rfl ?_
      refine eb_iconst (pc := 34) (n := 0) (v := 0) rfl rfl ?_
      refine eb_istore (pc := 35) (i := 5) (ls2 := [(5, .int 0), (3, .long y16), (0, .ref s_EB), (1, .int x1), (2, .int x2)]) (Nat.le_of_ble_eq_true rfl) rfl rfl ?_
      refine eb_iconst (pc := 37) (n := 0) (v := 0) rfl rfl ?_
      refine eb_istore (pc := 38) (i := 6) (ls2 := [(6, .int 0), (5, .int 0), (3, .long y16), (0, .ref s_EB), (1, .int x1), (2, .int x2)]) (Nat.le_of_ble_eq_true rfl) rfl rfl ?_
      exact eb_pick [5, 2, 1, 0] rfl w
    · replace w := w.2 c8
      refine eb_bipush (pc := 18) (n := -3) (v := (-3)) rfl rfl ?_
      exact eb_ireturn (pc := 20) rfl rfl rfl w
  · replace w := w.2 c7
    refine eb_bipush (pc := 11) (n := -2) (v := (-2)) rfl rfl ?_
    exact eb_ireturn (pc := 13) rfl rfl rfl w
theorem b_X10_tiding_40 {d : Nat} {h0 h : eb_H} {Q : Option Value → eb_H → Prop} (x2 : Int32) (x3 : Int64) (x5 : Int32) (x6 : Int32)  (ko : eb_KO h) (w : (((64 : Int32) ≤ x6 → Q (some (.int (-1))) h) ∧ (¬ ((64 : Int32) ≤ x6) → ((¬ (((x3.toUInt64 >>> (x6.toInt64.toUInt64 &&& Int64.toUInt64 63)).toInt64) &&& 1) = 0 → ((¬ x5 = x2 → eb_Sn (d + 1) m_X10_tiding h0 40 [(2, .int x2), (3, .long x3), (5, .int (x5 + 1)), (6, .int (x6 + 1))] [] h Q) ∧ (x5 = x2 → Q (some (.int x6)) h))) ∧ ((((x3.toUInt64 >>> (x6.toInt64.toUInt64 &&& Int64.toUInt64 63)).toInt64) &&& 1) = 0 → eb_Sn (d + 1) m_X10_tiding h0 40 [(2, .int x2), (3, .long x3), (5, .int x5), (6, .int (x6 + 1))] [] h Q))))) : eb_Sn (d + 1) m_X10_tiding h0 40 [(2, .int x2), (3, .long x3), (5, .int x5), (6, .int x6)] [] h Q := by
  refine eb_iload (pc := 40) (i := 6) rfl rfl ?_
  refine eb_bipush (pc := 42) (n := 64) (v := 64) rfl rfl ?_
  refine eb_icmp_ge (pc := 44) (tgt := 79) rfl (by decide) (fun c1 => ?_) (fun c1 => ?_)
  · replace w := w.1 c1
    refine eb_iconst (pc := 79) (n := -1) (v := (-1)) rfl rfl ?_
    exact eb_ireturn (pc := 80) rfl rfl rfl w
  · replace w := w.2 c1
    refine eb_lload_n (pc := 47) (n := 3) (i := 3) rfl rfl rfl ?_
    refine eb_iload (pc := 48) (i := 6) rfl rfl ?_
    refine eb_lushr (pc := 50) rfl ?_
    refine eb_lconst (pc := 51) (n := 1) (v := 1) rfl rfl ?_
    refine eb_land (pc := 52) rfl ?_
    refine eb_lconst (pc := 53) (n := 0) (v := 0) rfl rfl ?_
    refine eb_lcmp (pc := 54) rfl ?_
    refine eb_if_ne (pc := 55) (tgt := 61) rfl (by decide) (fun c2 => ?_) (fun c2 => ?_)
    · replace c2 := eb_lc_ne.mp c2
      replace w := w.1 c2
      refine eb_iload (pc := 61) (i := 5) rfl rfl ?_
      refine eb_iload_n (pc := 63) (n := 2) (i := 2) rfl rfl rfl ?_
      refine eb_icmp_ne (pc := 64) (tgt := 70) rfl (by decide) (fun c3 => ?_) (fun c3 => ?_)
      · replace w := w.1 c3
        refine eb_iinc (pc := 70) (i := 5) (n := 1) (v := x5 + 1) (ls2 := [(5, .int (x5 + 1)), (2, .int x2), (3, .long x3), (6, .int x6)]) (Nat.le_of_ble_eq_true rfl) rfl rfl rfl rfl ?_
        refine eb_iinc (pc := 73) (i := 6) (n := 1) (v := x6 + 1) (ls2 := [(6, .int (x6 + 1)), (5, .int (x5 + 1)), (2, .int x2), (3, .long x3)]) (Nat.le_of_ble_eq_true rfl) rfl rfl rfl rfl ?_
        refine eb_goto (pc := 76) (tgt := 40) rfl (by decide) ?_
        exact eb_pick [2, 3, 1, 0] rfl w
      · replace w := w.2 c3
        refine eb_iload (pc := 67) (i := 6) rfl rfl ?_
        exact eb_ireturn (pc := 69) rfl rfl rfl w
    · replace c2 := eb_lc_eq.mp c2
      replace w := w.2 c2
      refine eb_goto (pc := 58) (tgt := 73) rfl (by decide) ?_
      refine eb_iinc (pc := 73) (i := 6) (n := 1) (v := x6 + 1) (ls2 := [(6, .int (x6 + 1)), (2, .int x2), (3, .long x3), (5, .int x5)]) (Nat.le_of_ble_eq_true rfl) rfl rfl rfl rfl ?_
      refine eb_goto (pc := 76) (tgt := 40) rfl (by decide) ?_
      exact eb_pick [1, 2, 3, 0] rfl w
theorem T_X10_tiding {d : Nat} {h : eb_H} {Q : Option Value → eb_H → Prop} (x1 : Int32) (x2 : Int32)  (ko : eb_KO h) (w : ∃ r1, eb_R h s_EB 2 = some r1 ∧ eb_kd r1 = 9 ∧ eb_Ct d 83 [.ref r1, .int x1] h (fun r h4 => ∃ y5, r = some (.int y5) ∧ eb_KO h4 ∧ ((¬ y5 = 0 → ((0 ≤ x2 → ∃ r9, eb_R h4 s_EB 2 = some r9 ∧ eb_kd r9 = 9 ∧ eb_Ct d 84 [.ref r9, .int x1] h4 (fun r h12 => ∃ y13, r = some (.int y13) ∧ eb_KO h12 ∧ eb_Ct d 148 [.ref s_EB, .int y13] h12 (fun r h15 => ∃ y16, r = some (.long y16) ∧ eb_KO h15 ∧ eb_Sn (d + 1) m_X10_tiding h 40 [(2, .int x2), (3, .long y16), (5, .int 0), (6, .int 0)] [] h15 Q))) ∧ (¬ (0 ≤ x2) → Q (some (.int (-3))) h4))) ∧ (y5 = 0 → Q (some (.int (-2))) h4)))) : eb_Ct (d + 1) 120 [.ref s_EB, .int x1, .int x2] h Q :=
  eb_bodyQ (by decide) ok_X10_tiding (Nat.le_of_ble_eq_true rfl) (b_X10_tiding_0 (h0 := h) x1 x2  ko w)
theorem b_X10_secret_0 {d : Nat} {h0 h : eb_H} {Q : Option Value → eb_H → Prop} (x1 : Int32) (x2 : Int32)  (ko : eb_KO h) (w : ∃ r1, eb_R h s_EB 2 = some r1 ∧ eb_kd r1 = 9 ∧ eb_Ct d 83 [.ref r1, .int x1] h (fun r h4 => ∃ y5, r = some (.int y5) ∧ eb_KO h4 ∧ ((y5 = 0 → Q (some (.int (-2))) h4) ∧ (¬ (y5 = 0) → ∃ r8, eb_R h4 s_EB 2 = some r8 ∧ eb_kd r8 = 9 ∧ eb_Ct d 83 [.ref r8, .int x2] h4 (fun r h11 => ∃ y12, r = some (.int y12) ∧ eb_KO h11 ∧ ((¬ y12 = 0 → ∃ r15, eb_R h11 s_EB 2 = some r15 ∧ eb_kd r15 = 9 ∧ eb_Ct d 84 [.ref r15, .int x1] h11 (fun r h18 => ∃ y19, r = some (.int y19) ∧ eb_KO h18 ∧ eb_Ct d 148 [.ref s_EB, .int y19] h18 (fun r h21 => ∃ y22, r = some (.long y22) ∧ eb_KO h21 ∧ ∃ r24, eb_R h21 s_EB 2 = some r24 ∧ eb_kd r24 = 9 ∧ eb_Ct d 84 [.ref r24, .int x2] h21 (fun r h27 => ∃ y28, r = some (.int y28) ∧ eb_KO h27 ∧ eb_Ct d 16 [.ref s_flights, .int y28] h27 (fun r h30 => ∃ y31, r = some (.long y31) ∧ eb_KO h30 ∧ eb_Ct d 284 [.long (y22 &&& (y31 ^^^ (-1)))] h30 (fun r h33 => ∃ y34, r = some (.int y34) ∧ eb_KO h33 ∧ Q (some (.int y34)) h33)))))) ∧ (y12 = 0 → Q (some (.int (-2))) h11))))))) : eb_Sn (d + 1) m_X10_secret h0 0 [(0, .ref s_EB), (1, .int x1), (2, .int x2)] [] h Q := by
  refine eb_aload_n (pc := 0) (n := 0) (i := 0) rfl rfl rfl ?_
  obtain ⟨r1, q2, k3, w⟩ := w
  refine eb_getR (pc := 1) rfl rfl (by decide) (by decide) rfl q2 ?_
  refine eb_iload_n (pc := 4) (n := 1) (i := 1) rfl rfl rfl ?_
  refine eb_ctV (pc := 5) (As := [.int x1]) (rest := []) rfl (by decide) rfl k3 (by decide) rfl (Nat.le_of_ble_eq_true rfl) ?_
  refine eb_Ct.mono w ?_
  rintro r h4 ⟨y5, rfl, ko6, w⟩
  change eb_Sn _ _ _ 8 _ [.int y5] _ _
  refine eb_if_eq (pc := 8) (tgt := 22) rfl (by decide) (fun c7 => ?_) (fun c7 => ?_)
  · replace w := w.1 c7
    refine eb_bipush (pc := 22) (n := -2) (v := (-2)) rfl rfl ?_
    exact eb_ireturn (pc := 24) rfl rfl rfl w
  · replace w := w.2 c7
    refine eb_aload_n (pc := 11) (n := 0) (i := 0) rfl rfl rfl ?_
    obtain ⟨r8, q9, k10, w⟩ := w
    refine eb_getR (pc := 12) rfl rfl (by decide) (by decide) rfl q9 ?_
    refine eb_iload_n (pc := 15) (n := 2) (i := 2) rfl rfl rfl ?_
    refine eb_ctV (pc := 16) (As := [.int x2]) (rest := []) rfl (by decide) rfl k10 (by decide) rfl (Nat.le_of_ble_eq_true rfl) ?_
    refine eb_Ct.mono w ?_
    rintro r h11 ⟨y12, rfl, ko13, w⟩
    change eb_Sn _ _ _ 19 _ [.int y12] _ _
    refine eb_if_ne (pc := 19) (tgt := 25) rfl (by decide) (fun c14 => ?_) (fun c14 => ?_)
    · replace w := w.1 c14
      refine eb_aload_n (pc := 25) (n := 0) (i := 0) rfl rfl rfl ?_
      refine eb_aload_n (pc := 26) (n := 0) (i := 0) rfl rfl rfl ?_
      obtain ⟨r15, q16, k17, w⟩ := w
      refine eb_getR (pc := 27) rfl rfl (by decide) (by decide) rfl q16 ?_
      refine eb_iload_n (pc := 30) (n := 1) (i := 1) rfl rfl rfl ?_
      refine eb_ctV (pc := 31) (As := [.int x1]) (rest := [.ref s_EB]) rfl (by decide) rfl k17 (by decide) rfl (Nat.le_of_ble_eq_true rfl) ?_
      refine eb_Ct.mono w ?_
      rintro r h18 ⟨y19, rfl, ko20, w⟩
      change eb_Sn _ _ _ 34 _ [.int y19, .ref s_EB] _ _
      refine eb_ctV (pc := 34) (As := [.int y19]) (rest := []) rfl (by decide) rfl rfl (by decide) rfl (Nat.le_of_ble_eq_true rfl) ?_
      refine eb_Ct.mono w ?_
      rintro r h21 ⟨y22, rfl, ko23, w⟩
      change eb_Sn _ _ _ 37 _ [.long y22] _ _
      refine eb_lstore_n (pc := 37) (n := 3) (i := 3) (ls2 := [(3, .long y22), (0, .ref s_EB), (1, .int x1), (2, .int x2)]) rfl (Nat.le_of_ble_eq_true rfl) rfl rfl ?_
      refine eb_lload_n (pc := 38) (n := 3) (i := 3) rfl rfl rfl ?_
      refine eb_aload_n (pc := 39) (n := 0) (i := 0) rfl rfl rfl ?_
      refine eb_getR (pc := 40) rfl rfl (by decide) (by decide) rfl (ko_s_EB_7 ko23) ?_
      refine eb_aload_n (pc := 43) (n := 0) (i := 0) rfl rfl rfl ?_
      obtain ⟨r24, q25, k26, w⟩ := w
      refine eb_getR (pc := 44) rfl rfl (by decide) (by decide) rfl q25 ?_
      refine eb_iload_n (pc := 47) (n := 2) (i := 2) rfl rfl rfl ?_
      refine eb_ctV (pc := 48) (As := [.int x2]) (rest := [.ref s_flights, .long y22]) rfl (by decide) rfl k26 (by decide) rfl (Nat.le_of_ble_eq_true rfl) ?_
      refine eb_Ct.mono w ?_
      rintro r h27 ⟨y28, rfl, ko29, w⟩
      change eb_Sn _ _ _ 51 _ [.int y28, .ref s_flights, .long y22] _ _
      refine eb_ctV (pc := 51) (As := [.int y28]) (rest := [.long y22]) rfl (by decide) rfl rfl (by decide) rfl (Nat.le_of_ble_eq_true rfl) ?_
      refine eb_Ct.mono w ?_
      rintro r h30 ⟨y31, rfl, ko32, w⟩
      change eb_Sn _ _ _ 54 _ [.long y31, .long y22] _ _
      refine eb_ldc2 (pc := 54) (a := 18446744073709551615) (v := (-1)) rfl (by decide) ?_
      refine eb_lxor (pc := 57) rfl ?_
      refine eb_land (pc := 58) rfl ?_
      refine eb_ctS (pc := 59) (As := [.long (y22 &&& (y31 ^^^ (-1)))]) (rest := []) rfl (by decide) (by decide) rfl rfl (Nat.le_of_ble_eq_true rfl) ?_
      refine eb_Ct.mono w ?_
      rintro r h33 ⟨y34, rfl, ko35, w⟩
      change eb_Sn _ _ _ 62 _ [.int y34] _ _
      exact eb_ireturn (pc := 62) rfl rfl rfl w
    · replace w := w.2 c14
      refine eb_bipush (pc := 22) (n := -2) (v := (-2)) rfl rfl ?_
      exact eb_ireturn (pc := 24) rfl rfl rfl w
theorem T_X10_secret {d : Nat} {h : eb_H} {Q : Option Value → eb_H → Prop} (x1 : Int32) (x2 : Int32)  (ko : eb_KO h) (w : ∃ r1, eb_R h s_EB 2 = some r1 ∧ eb_kd r1 = 9 ∧ eb_Ct d 83 [.ref r1, .int x1] h (fun r h4 => ∃ y5, r = some (.int y5) ∧ eb_KO h4 ∧ ((y5 = 0 → Q (some (.int (-2))) h4) ∧ (¬ (y5 = 0) → ∃ r8, eb_R h4 s_EB 2 = some r8 ∧ eb_kd r8 = 9 ∧ eb_Ct d 83 [.ref r8, .int x2] h4 (fun r h11 => ∃ y12, r = some (.int y12) ∧ eb_KO h11 ∧ ((¬ y12 = 0 → ∃ r15, eb_R h11 s_EB 2 = some r15 ∧ eb_kd r15 = 9 ∧ eb_Ct d 84 [.ref r15, .int x1] h11 (fun r h18 => ∃ y19, r = some (.int y19) ∧ eb_KO h18 ∧ eb_Ct d 148 [.ref s_EB, .int y19] h18 (fun r h21 => ∃ y22, r = some (.long y22) ∧ eb_KO h21 ∧ ∃ r24, eb_R h21 s_EB 2 = some r24 ∧ eb_kd r24 = 9 ∧ eb_Ct d 84 [.ref r24, .int x2] h21 (fun r h27 => ∃ y28, r = some (.int y28) ∧ eb_KO h27 ∧ eb_Ct d 16 [.ref s_flights, .int y28] h27 (fun r h30 => ∃ y31, r = some (.long y31) ∧ eb_KO h30 ∧ eb_Ct d 284 [.long (y22 &&& (y31 ^^^ (-1)))] h30 (fun r h33 => ∃ y34, r = some (.int y34) ∧ eb_KO h33 ∧ Q (some (.int y34)) h33)))))) ∧ (y12 = 0 → Q (some (.int (-2))) h11))))))) : eb_Ct (d + 1) 121 [.ref s_EB, .int x1, .int x2] h Q :=
  eb_bodyQ (by decide) ok_X10_secret (Nat.le_of_ble_eq_true rfl) (b_X10_secret_0 (h0 := h) x1 x2  ko w)
theorem b_X10_came_0 {d : Nat} {h0 h : eb_H} {Q : Option Value → eb_H → Prop} (x1 : Int32) (x2 : Int32) (x3 : Int32)  (ko : eb_KO h) (w : eb_Ct d 146 [.ref s_EB, .int x1, .int x2, .int x3] h (fun r h1 => ∃ y2, r = some (.int y2) ∧ eb_KO h1 ∧ ((y2 = 0 → ∃ r5, eb_R h1 s_EB 2 = some r5 ∧ eb_kd r5 = 9 ∧ eb_Ct d 18 [.ref s_flights, .ref r5, .ref s_now, .int x1, .int 0] h1 (fun r h8 => r = none ∧ eb_KO h8 ∧ eb_Ct d 21 [.ref s_flights, .int x2, .int x3] h8 (fun r h11 => ∃ y12, r = some (.long y12) ∧ eb_KO h11 ∧ Q (some (.long y12)) h11))) ∧ (¬ (y2 = 0) → Q (some (.long y2.toInt64)) h1)))) : eb_Sn (d + 1) m_X10_came h0 0 [(0, .ref s_EB), (1, .int x1), (2, .int x2), (3, .int x3)] [] h Q := by
  refine eb_aload_n (pc := 0) (n := 0) (i := 0) rfl rfl rfl ?_
  refine eb_iload_n (pc := 1) (n := 1) (i := 1) rfl rfl rfl ?_
  refine eb_iload_n (pc := 2) (n := 2) (i := 2) rfl rfl rfl ?_
  refine eb_iload_n (pc := 3) (n := 3) (i := 3) rfl rfl rfl ?_
  refine eb_ctV (pc := 4) (As := [.int x1, .int x2, .int x3]) (rest := []) rfl (by decide) rfl rfl (by decide) rfl (Nat.le_of_ble_eq_true rfl) ?_
  refine eb_Ct.mono w ?_
  rintro r h1 ⟨y2, rfl, ko3, w⟩
  change eb_Sn _ _ _ 7 _ [.int y2] _ _
  refine eb_istore (pc := 7) (i := 4) (ls2 := [(4, .int y2), (0, .ref s_EB), (1, .int x1), (2, .int x2), (3, .int x3)]) (Nat.le_of_ble_eq_true rfl) rfl rfl ?_
  refine eb_iload (pc := 9) (i := 4) rfl rfl ?_
  refine eb_if_eq (pc := 11) (tgt := 18) rfl (by decide) (fun c4 => ?_) (fun c4 => ?_)
  · replace w := w.1 c4
    refine eb_aload_n (pc := 18) (n := 0) (i := 0) rfl rfl rfl ?_
    refine eb_getR (pc := 19) rfl rfl (by decide) (by decide) rfl (ko_s_EB_7 ko3) ?_
    refine eb_aload_n (pc := 22) (n := 0) (i := 0) rfl rfl rfl ?_
    obtain ⟨r5, q6, k7, w⟩ := w
    refine eb_getR (pc := 23) rfl rfl (by decide) (by decide) rfl q6 ?_
    refine eb_aload_n (pc := 26) (n := 0) (i := 0) rfl rfl rfl ?_
    refine eb_getR (pc := 27) rfl rfl (by decide) (by decide) rfl (ko_s_EB_3 ko3) ?_
    refine eb_iload_n (pc := 30) (n := 1) (i := 1) rfl rfl rfl ?_
    refine eb_iconst (pc := 31) (n := 0) (v := 0) rfl rfl ?_
    refine eb_ctV (pc := 32) (As := [.ref r5, .ref s_now, .int x1, .int 0]) (rest := []) rfl (by decide) rfl rfl (by decide) rfl (Nat.le_of_ble_eq_true rfl) ?_
    refine eb_Ct.mono w ?_
    rintro r h8 ⟨rfl, ko10, w⟩
    change eb_Sn _ _ _ 35 _ [] _ _
    refine eb_aload_n (pc := 35) (n := 0) (i := 0) rfl rfl rfl ?_
    refine eb_getR (pc := 36) rfl rfl (by decide) (by decide) rfl (ko_s_EB_7 ko10) ?_
    refine eb_iload_n (pc := 39) (n := 2) (i := 2) rfl rfl rfl ?_
    refine eb_iload_n (pc := 40) (n := 3) (i := 3) rfl rfl rfl ?_
    refine eb_ctV (pc := 41) (As := [.int x2, .int x3]) (rest := []) rfl (by decide) rfl rfl (by decide) rfl (Nat.le_of_ble_eq_true rfl) ?_
    refine eb_Ct.mono w ?_
    rintro r h11 ⟨y12, rfl, ko13, w⟩
    change eb_Sn _ _ _ 44 _ [.long y12] _ _
    exact eb_lreturn (pc := 44) rfl rfl w
  · replace w := w.2 c4
    refine eb_iload (pc := 14) (i := 4) rfl rfl ?_
    refine eb_i2l (pc := 16) rfl ?_
    exact eb_lreturn (pc := 17) rfl rfl w
theorem T_X10_came {d : Nat} {h : eb_H} {Q : Option Value → eb_H → Prop} (x1 : Int32) (x2 : Int32) (x3 : Int32)  (ko : eb_KO h) (w : eb_Ct d 146 [.ref s_EB, .int x1, .int x2, .int x3] h (fun r h1 => ∃ y2, r = some (.int y2) ∧ eb_KO h1 ∧ ((y2 = 0 → ∃ r5, eb_R h1 s_EB 2 = some r5 ∧ eb_kd r5 = 9 ∧ eb_Ct d 18 [.ref s_flights, .ref r5, .ref s_now, .int x1, .int 0] h1 (fun r h8 => r = none ∧ eb_KO h8 ∧ eb_Ct d 21 [.ref s_flights, .int x2, .int x3] h8 (fun r h11 => ∃ y12, r = some (.long y12) ∧ eb_KO h11 ∧ Q (some (.long y12)) h11))) ∧ (¬ (y2 = 0) → Q (some (.long y2.toInt64)) h1)))) : eb_Ct (d + 1) 122 [.ref s_EB, .int x1, .int x2, .int x3] h Q :=
  eb_bodyQ (by decide) ok_X10_came (Nat.le_of_ble_eq_true rfl) (b_X10_came_0 (h0 := h) x1 x2 x3  ko w)
theorem b_X10_cameBy_0 {d : Nat} {h0 h : eb_H} {Q : Option Value → eb_H → Prop} (x1 : Int32) (x2 : Int32) (x3 : Int32) (x4 : Int32)  (ko : eb_KO h) (w : eb_Ct d 146 [.ref s_EB, .int x1, .int x2, .int x3] h (fun r h1 => ∃ y2, r = some (.int y2) ∧ eb_KO h1 ∧ ((y2 = 0 → ((0 ≤ x4 → ∃ r6, eb_R h1 s_EB 2 = some r6 ∧ eb_kd r6 = 9 ∧ eb_Ct d 18 [.ref s_flights, .ref r6, .ref s_now, .int x1, .int 2] h1 (fun r h9 => r = none ∧ eb_KO h9 ∧ eb_Ct d 21 [.ref s_flights, .int x2, .int x3] h9 (fun r h12 => ∃ y13, r = some (.long y13) ∧ eb_KO h12 ∧ ((y13 = (-1) → Q (some (.int (-1))) h12) ∧ (¬ (y13 = (-1)) → ((x4 < x1 → Q (some (.int (((y13 >>> (((2 : Int32) * ((x1 - 1) - x4)).toInt64 &&& 63)) &&& 3).toInt32))) h12) ∧ (¬ (x4 < x1) → Q (some (.int (-1))) h12))))))) ∧ (¬ (0 ≤ x4) → Q (some (.int (-3))) h1))) ∧ (¬ (y2 = 0) → Q (some (.int y2)) h1)))) : eb_Sn (d + 1) m_X10_cameBy h0 0 [(0, .ref s_EB), (1, .int x1), (2, .int x2), (3, .int x3), (4, .int x4)] [] h Q := by
  refine eb_aload_n (pc := 0) (n := 0) (i := 0) rfl rfl rfl ?_
  refine eb_iload_n (pc := 1) (n := 1) (i := 1) rfl rfl rfl ?_
  refine eb_iload_n (pc := 2) (n := 2) (i := 2) rfl rfl rfl ?_
  refine eb_iload_n (pc := 3) (n := 3) (i := 3) rfl rfl rfl ?_
  refine eb_ctV (pc := 4) (As := [.int x1, .int x2, .int x3]) (rest := []) rfl (by decide) rfl rfl (by decide) rfl (Nat.le_of_ble_eq_true rfl) ?_
  refine eb_Ct.mono w ?_
  rintro r h1 ⟨y2, rfl, ko3, w⟩
  change eb_Sn _ _ _ 7 _ [.int y2] _ _
  refine eb_istore (pc := 7) (i := 5) (ls2 := [(5, .int y2), (0, .ref s_EB), (1, .int x1), (2, .int x2), (3, .int x3), (4, .int x4)]) (Nat.le_of_ble_eq_true rfl) rfl rfl ?_
  refine eb_iload (pc := 9) (i := 5) rfl rfl ?_
  refine eb_if_eq (pc := 11) (tgt := 17) rfl (by decide) (fun c4 => ?_) (fun c4 => ?_)
  · replace w := w.1 c4
    refine eb_iload (pc := 17) (i := 4) rfl rfl ?_
    refine eb_if_ge (pc := 19) (tgt := 25) rfl (by decide) (fun c5 => ?_) (fun c5 => ?_)
    · replace w := w.1 c5
      refine eb_aload_n (pc := 25) (n := 0) (i := 0) rfl rfl rfl ?_
      refine eb_getR (pc := 26) rfl rfl (by decide) (by decide) rfl (ko_s_EB_7 ko3) ?_
      refine eb_aload_n (pc := 29) (n := 0) (i := 0) rfl rfl rfl ?_
      obtain ⟨r6, q7, k8, w⟩ := w
      refine eb_getR (pc := 30) rfl rfl (by decide) (by decide) rfl q7 ?_
      refine eb_aload_n (pc := 33) (n := 0) (i := 0) rfl rfl rfl ?_
      refine eb_getR (pc := 34) rfl rfl (by decide) (by decide) rfl (ko_s_EB_3 ko3) ?_
      refine eb_iload_n (pc := 37) (n := 1) (i := 1) rfl rfl rfl ?_
      refine eb_iconst (pc := 38) (n := 2) (v := 2) rfl rfl ?_
      refine eb_ctV (pc := 39) (As := [.ref r6, .ref s_now, .int x1, .int 2]) (rest := []) rfl (by decide) rfl rfl (by decide) rfl (Nat.le_of_ble_eq_true rfl) ?_
      refine eb_Ct.mono w ?_
      rintro r h9 ⟨rfl, ko11, w⟩
      change eb_Sn _ _ _ 42 _ [] _ _
      refine eb_aload_n (pc := 42) (n := 0) (i := 0) rfl rfl rfl ?_
      refine eb_getR (pc := 43) rfl rfl (by decide) (by decide) rfl (ko_s_EB_7 ko11) ?_
      refine eb_iload_n (pc := 46) (n := 2) (i := 2) rfl rfl rfl ?_
      refine eb_iload_n (pc := 47) (n := 3) (i := 3) rfl rfl rfl ?_
      refine eb_ctV (pc := 48) (As := [.int x2, .int x3]) (rest := []) rfl (by decide) rfl rfl (by decide) rfl (Nat.le_of_ble_eq_true rfl) ?_
      refine eb_Ct.mono w ?_
      rintro r h12 ⟨y13, rfl, ko14, w⟩
      change eb_Sn _ _ _ 51 _ [.long y13] _ _
      refine eb_lstore (pc := 51) (i := 6) (ls2 := [(6, .long y13), (5, .int y2), (0, .ref s_EB), (1, .int x1), (2, .int x2), (3, .int x3), (4, .int x4)]) (Nat.le_of_ble_eq_true rfl) rfl rfl ?_
      refine eb_lload (pc := 53) (i := 6) rfl rfl ?_
      refine eb_ldc2 (pc := 55) (a := 18446744073709551615) (v := (-1)) rfl (by decide) ?_
      refine eb_lcmp (pc := 58) rfl ?_
      refine eb_if_eq (pc := 59) (tgt := 68) rfl (by decide) (fun c15 => ?_) (fun c15 => ?_)
      · replace c15 := eb_lc_eq.mp c15
        replace w := w.1 c15
        refine eb_iconst (pc := 68) (n := -1) (v := (-1)) rfl rfl ?_
        exact eb_ireturn (pc := 69) rfl rfl rfl w
      · replace c15 := (fun hh => mt eb_lc_eq.mpr hh) c15
        replace w := w.2 c15
        refine eb_iload (pc := 62) (i := 4) rfl rfl ?_
        refine eb_iload_n (pc := 64) (n := 1) (i := 1) rfl rfl rfl ?_
        refine eb_icmp_lt (pc := 65) (tgt := 70) rfl (by decide) (fun c16 => ?_) (fun c16 => ?_)
        · replace w := w.1 c16
          refine eb_lload (pc := 70) (i := 6) rfl rfl ?_
          refine eb_iconst (pc := 72) (n := 2) (v := 2) rfl rfl ?_
          refine eb_iload_n (pc := 73) (n := 1) (i := 1) rfl rfl rfl ?_
          refine eb_iconst (pc := 74) (n := 1) (v := 1) rfl rfl ?_
          refine eb_isub (pc := 75) rfl ?_
          refine eb_iload (pc := 76) (i := 4) rfl rfl ?_
          refine eb_isub (pc := 78) rfl ?_
          refine eb_imul (pc := 79) rfl ?_
          refine eb_lshr (pc := 80) rfl ?_
          refine eb_ldc2 (pc := 81) (a := 3) (v := 3) rfl (by decide) ?_
          refine eb_land (pc := 84) rfl ?_
          refine eb_l2i (pc := 85) rfl ?_
          exact eb_ireturn (pc := 86) rfl rfl rfl w
        · replace w := w.2 c16
          refine eb_iconst (pc := 68) (n := -1) (v := (-1)) rfl rfl ?_
          exact eb_ireturn (pc := 69) rfl rfl rfl w
    · replace w := w.2 c5
      refine eb_bipush (pc := 22) (n := -3) (v := (-3)) rfl rfl ?_
      exact eb_ireturn (pc := 24) rfl rfl rfl w
  · replace w := w.2 c4
    refine eb_iload (pc := 14) (i := 5) rfl rfl ?_
    exact eb_ireturn (pc := 16) rfl rfl rfl w
theorem T_X10_cameBy {d : Nat} {h : eb_H} {Q : Option Value → eb_H → Prop} (x1 : Int32) (x2 : Int32) (x3 : Int32) (x4 : Int32)  (ko : eb_KO h) (w : eb_Ct d 146 [.ref s_EB, .int x1, .int x2, .int x3] h (fun r h1 => ∃ y2, r = some (.int y2) ∧ eb_KO h1 ∧ ((y2 = 0 → ((0 ≤ x4 → ∃ r6, eb_R h1 s_EB 2 = some r6 ∧ eb_kd r6 = 9 ∧ eb_Ct d 18 [.ref s_flights, .ref r6, .ref s_now, .int x1, .int 2] h1 (fun r h9 => r = none ∧ eb_KO h9 ∧ eb_Ct d 21 [.ref s_flights, .int x2, .int x3] h9 (fun r h12 => ∃ y13, r = some (.long y13) ∧ eb_KO h12 ∧ ((y13 = (-1) → Q (some (.int (-1))) h12) ∧ (¬ (y13 = (-1)) → ((x4 < x1 → Q (some (.int (((y13 >>> (((2 : Int32) * ((x1 - 1) - x4)).toInt64 &&& 63)) &&& 3).toInt32))) h12) ∧ (¬ (x4 < x1) → Q (some (.int (-1))) h12))))))) ∧ (¬ (0 ≤ x4) → Q (some (.int (-3))) h1))) ∧ (¬ (y2 = 0) → Q (some (.int y2)) h1)))) : eb_Ct (d + 1) 123 [.ref s_EB, .int x1, .int x2, .int x3, .int x4] h Q :=
  eb_bodyQ (by decide) ok_X10_cameBy (Nat.le_of_ble_eq_true rfl) (b_X10_cameBy_0 (h0 := h) x1 x2 x3 x4  ko w)
theorem b_X10_surely_0 {d : Nat} {h0 h : eb_H} {Q : Option Value → eb_H → Prop} (x1 : Int32) (x2 : Int32) (x3 : Int32)  (ko : eb_KO h) (w : eb_Ct d 146 [.ref s_EB, .int x1, .int x2, .int x3] h (fun r h1 => ∃ y2, r = some (.int y2) ∧ eb_KO h1 ∧ ((y2 = 0 → ∃ r5, eb_R h1 s_EB 2 = some r5 ∧ eb_kd r5 = 9 ∧ eb_Ct d 18 [.ref s_flights, .ref r5, .ref s_now, .int x1, .int 3] h1 (fun r h8 => r = none ∧ eb_KO h8 ∧ eb_Ct d 21 [.ref s_flights, .int x2, .int x3] h8 (fun r h11 => ∃ y12, r = some (.long y12) ∧ eb_KO h11 ∧ Q (some (.int (if y12 = (-1) then 0 else y12.toInt32 : Int32))) h11))) ∧ (¬ (y2 = 0) → Q (some (.int y2)) h1)))) : eb_Sn (d + 1) m_X10_surely h0 0 [(0, .ref s_EB), (1, .int x1), (2, .int x2), (3, .int x3)] [] h Q := by
  refine eb_aload_n (pc := 0) (n := 0) (i := 0) rfl rfl rfl ?_
  refine eb_iload_n (pc := 1) (n := 1) (i := 1) rfl rfl rfl ?_
  refine eb_iload_n (pc := 2) (n := 2) (i := 2) rfl rfl rfl ?_
  refine eb_iload_n (pc := 3) (n := 3) (i := 3) rfl rfl rfl ?_
  refine eb_ctV (pc := 4) (As := [.int x1, .int x2, .int x3]) (rest := []) rfl (by decide) rfl rfl (by decide) rfl (Nat.le_of_ble_eq_true rfl) ?_
  refine eb_Ct.mono w ?_
  rintro r h1 ⟨y2, rfl, ko3, w⟩
  change eb_Sn _ _ _ 7 _ [.int y2] _ _
  refine eb_istore (pc := 7) (i := 4) (ls2 := [(4, .int y2), (0, .ref s_EB), (1, .int x1), (2, .int x2), (3, .int x3)]) (Nat.le_of_ble_eq_true rfl) rfl rfl ?_
  refine eb_iload (pc := 9) (i := 4) rfl rfl ?_
  refine eb_if_eq (pc := 11) (tgt := 17) rfl (by decide) (fun c4 => ?_) (fun c4 => ?_)
  · replace w := w.1 c4
    refine eb_aload_n (pc := 17) (n := 0) (i := 0) rfl rfl rfl ?_
    refine eb_getR (pc := 18) rfl rfl (by decide) (by decide) rfl (ko_s_EB_7 ko3) ?_
    refine eb_aload_n (pc := 21) (n := 0) (i := 0) rfl rfl rfl ?_
    obtain ⟨r5, q6, k7, w⟩ := w
    refine eb_getR (pc := 22) rfl rfl (by decide) (by decide) rfl q6 ?_
    refine eb_aload_n (pc := 25) (n := 0) (i := 0) rfl rfl rfl ?_
    refine eb_getR (pc := 26) rfl rfl (by decide) (by decide) rfl (ko_s_EB_3 ko3) ?_
    refine eb_iload_n (pc := 29) (n := 1) (i := 1) rfl rfl rfl ?_
    refine eb_iconst (pc := 30) (n := 3) (v := 3) rfl rfl ?_
    refine eb_ctV (pc := 31) (As := [.ref r5, .ref s_now, .int x1, .int 3]) (rest := []) rfl (by decide) rfl rfl (by decide) rfl (Nat.le_of_ble_eq_true rfl) ?_
    refine eb_Ct.mono w ?_
    rintro r h8 ⟨rfl, ko10, w⟩
    change eb_Sn _ _ _ 34 _ [] _ _
    refine eb_aload_n (pc := 34) (n := 0) (i := 0) rfl rfl rfl ?_
    refine eb_getR (pc := 35) rfl rfl (by decide) (by decide) rfl (ko_s_EB_7 ko10) ?_
    refine eb_iload_n (pc := 38) (n := 2) (i := 2) rfl rfl rfl ?_
    refine eb_iload_n (pc := 39) (n := 3) (i := 3) rfl rfl rfl ?_
    refine eb_ctV (pc := 40) (As := [.int x2, .int x3]) (rest := []) rfl (by decide) rfl rfl (by decide) rfl (Nat.le_of_ble_eq_true rfl) ?_
    refine eb_Ct.mono w ?_
    rintro r h11 ⟨y12, rfl, ko13, w⟩
    change eb_Sn _ _ _ 43 _ [.long y12] _ _
    refine eb_lstore (pc := 43) (i := 5) (ls2 := [(5, .long y12), (4, .int y2), (0, .ref s_EB), (1, .int x1), (2, .int x2), (3, .int x3)]) (Nat.le_of_ble_eq_true rfl) rfl rfl ?_
    refine eb_lload (pc := 45) (i := 5) rfl rfl ?_
    refine eb_ldc2 (pc := 47) (a := 18446744073709551615) (v := (-1)) rfl (by decide) ?_
    refine eb_lcmp (pc := 50) rfl ?_
    have jj15 : eb_Sn (d + 1) m_X10_surely h0 61 [(5, .long y12), (4, .int y2), (0, .ref s_EB), (1, .int x1), (2, .int x2), (3, .int x3)] [.int (if y12 = (-1) then 0 else y12.toInt32 : Int32)] h11 Q := by
      exact eb_ireturn (pc := 61) rfl rfl rfl w
    refine eb_if_ne (pc := 51) (tgt := 58) rfl (by decide) (fun c14 => ?_) (fun c14 => ?_)
    · replace c14 := eb_lc_ne.mp c14
      refine eb_lload (pc := 58) (i := 5) rfl rfl ?_
      refine eb_l2i (pc := 60) rfl ?_
      simp only [if_neg c14] at jj15 ⊢
      exact jj15
    · replace c14 := eb_lc_eq.mp c14
      refine eb_iconst (pc := 54) (n := 0) (v := 0) rfl rfl ?_
      refine eb_goto (pc := 55) (tgt := 61) rfl (by decide) ?_
      simp only [if_pos c14] at jj15 ⊢
      exact jj15
  · replace w := w.2 c4
    refine eb_iload (pc := 14) (i := 4) rfl rfl ?_
    exact eb_ireturn (pc := 16) rfl rfl rfl w
theorem T_X10_surely {d : Nat} {h : eb_H} {Q : Option Value → eb_H → Prop} (x1 : Int32) (x2 : Int32) (x3 : Int32)  (ko : eb_KO h) (w : eb_Ct d 146 [.ref s_EB, .int x1, .int x2, .int x3] h (fun r h1 => ∃ y2, r = some (.int y2) ∧ eb_KO h1 ∧ ((y2 = 0 → ∃ r5, eb_R h1 s_EB 2 = some r5 ∧ eb_kd r5 = 9 ∧ eb_Ct d 18 [.ref s_flights, .ref r5, .ref s_now, .int x1, .int 3] h1 (fun r h8 => r = none ∧ eb_KO h8 ∧ eb_Ct d 21 [.ref s_flights, .int x2, .int x3] h8 (fun r h11 => ∃ y12, r = some (.long y12) ∧ eb_KO h11 ∧ Q (some (.int (if y12 = (-1) then 0 else y12.toInt32 : Int32))) h11))) ∧ (¬ (y2 = 0) → Q (some (.int y2)) h1)))) : eb_Ct (d + 1) 124 [.ref s_EB, .int x1, .int x2, .int x3] h Q :=
  eb_bodyQ (by decide) ok_X10_surely (Nat.le_of_ble_eq_true rfl) (b_X10_surely_0 (h0 := h) x1 x2 x3  ko w)
theorem b_X10_kinds_0 {d : Nat} {h0 h : eb_H} {Q : Option Value → eb_H → Prop} (x1 : Int32) (x2 : Int32) (x3 : Int32)  (ko : eb_KO h) (w : eb_Ct d 142 [.int x1] h (fun r h1 => ∃ y2, r = some (.int y2) ∧ eb_KO h1 ∧ ((¬ y2 = 0 → Q (some (.int (-2))) h1) ∧ (y2 = 0 → ∃ r5, eb_R h1 s_EB 2 = some r5 ∧ eb_kd r5 = 9 ∧ eb_Ct d 80 [.ref r5, .int x2] h1 (fun r h8 => ∃ y9, r = some (.int y9) ∧ eb_KO h8 ∧ ((¬ y9 = 0 → (vp_in x1 4) ∧ ∃ r13, eb_R h8 s_trays x1.toNatClampNeg = some r13 ∧ eb_Ct d 147 [.ref r13, .int x3] h8 (fun r h15 => ∃ y16, r = some (.int y16) ∧ eb_KO h15 ∧ ((y16 = 0 → eb_Sn (d + 1) m_X10_kinds h0 47 [(0, .ref s_EB), (1, .int x1), (2, .int x2), (3, .int x3), (5, .int 0), (6, .int 0)] [] h15 Q) ∧ (¬ (y16 = 0) → Q (some (.int y16)) h15)))) ∧ (y9 = 0 → Q (some (.int (-2))) h8))))))) : eb_Sn (d + 1) m_X10_kinds h0 0 [(0, .ref s_EB), (1, .int x1), (2, .int x2), (3, .int x3)] [] h Q := by
  refine eb_iload_n (pc := 0) (n := 1) (i := 1) rfl rfl rfl ?_
  refine eb_ctS (pc := 1) (As := [.int x1]) (rest := []) rfl (by decide) (by decide) rfl rfl (Nat.le_of_ble_eq_true rfl) ?_
  refine eb_Ct.mono w ?_
  rintro r h1 ⟨y2, rfl, ko3, w⟩
  change eb_Sn _ _ _ 4 _ [.int y2] _ _
  refine eb_if_ne (pc := 4) (tgt := 18) rfl (by decide) (fun c4 => ?_) (fun c4 => ?_)
  · replace w := w.1 c4
    refine eb_bipush (pc := 18) (n := -2) (v := (-2)) rfl rfl ?_
    exact eb_ireturn (pc := 20) rfl rfl rfl w
  · replace w := w.2 c4
    refine eb_aload_n (pc := 7) (n := 0) (i := 0) rfl rfl rfl ?_
    obtain ⟨r5, q6, k7, w⟩ := w
    refine eb_getR (pc := 8) rfl rfl (by decide) (by decide) rfl q6 ?_
    refine eb_iload_n (pc := 11) (n := 2) (i := 2) rfl rfl rfl ?_
    refine eb_ctV (pc := 12) (As := [.int x2]) (rest := []) rfl (by decide) rfl k7 (by decide) rfl (Nat.le_of_ble_eq_true rfl) ?_
    refine eb_Ct.mono w ?_
    rintro r h8 ⟨y9, rfl, ko10, w⟩
    change eb_Sn _ _ _ 15 _ [.int y9] _ _
    refine eb_if_ne (pc := 15) (tgt := 21) rfl (by decide) (fun c11 => ?_) (fun c11 => ?_)
    · replace w := w.1 c11
      refine eb_aload_n (pc := 21) (n := 0) (i := 0) rfl rfl rfl ?_
      refine eb_getR (pc := 22) rfl rfl (by decide) (by decide) rfl (ko_s_EB_9 ko10) ?_
      refine eb_iload_n (pc := 25) (n := 1) (i := 1) rfl rfl rfl ?_
      obtain ⟨c12, w⟩ := w
      obtain ⟨r13, q14, w⟩ := w
      refine eb_aaloadR (pc := 26) rfl rfl (by decide) (by decide) c12 q14 ?_
      refine eb_iload_n (pc := 27) (n := 3) (i := 3) rfl rfl rfl ?_
      refine eb_ctS (pc := 28) (As := [.ref r13, .int x3]) (rest := []) rfl (by decide) (by decide) rfl rfl (Nat.le_of_ble_eq_true rfl) ?_
      refine eb_Ct.mono w ?_
      rintro r h15 ⟨y16, rfl, ko17, w⟩
      change eb_Sn _ _ _ 31 _ [.int y16] _ _
      refine eb_istore (pc := 31) (i := 4) (ls2 := [(4, .int y16), (0, .ref s_EB), (1, .int x1), (2, .int x2), (3, .int x3)]) (Nat.le_of_ble_eq_true rfl) rfl rfl ?_
      refine eb_iload (pc := 33) (i := 4) rfl rfl ?_
      refine eb_if_eq (pc := 35) (tgt := 41) rfl (by decide) (fun c18 => ?_) (fun c18 => ?_)
      · replace w := w.1 c18
        refine eb_iconst (pc := 41) (n := 0) (v := 0) rfl rfl ?_
        refine eb_istore (pc := 42) (i := 5) (ls2 := [(5, .int 0), (4, .int y16), (0, .ref s_EB), (1, .int x1), (2, .int x2), (3, .int x3)]) (Nat.le_of_ble_eq_true rfl) rfl rfl ?_
        refine eb_iconst (pc := 44) (n := 0) (v := 0) rfl rfl ?_
        refine eb_istore (pc := 45) (i := 6) (ls2 := [(6, .int 0), (5, .int 0), (4, .int y16), (0, .ref s_EB), (1, .int x1), (2, .int x2), (3, .int x3)]) (Nat.le_of_ble_eq_true rfl) rfl rfl ?_
        exact eb_pick [3, 4, 5, 6, 1, 0] rfl w
      · replace w := w.2 c18
        refine eb_iload (pc := 38) (i := 4) rfl rfl ?_
        exact eb_ireturn (pc := 40) rfl rfl rfl w
    · replace w := w.2 c11
      refine eb_bipush (pc := 18) (n := -2) (v := (-2)) rfl rfl ?_
      exact eb_ireturn (pc := 20) rfl rfl rfl w
theorem b_X10_kinds_47 {d : Nat} {h0 h : eb_H} {Q : Option Value → eb_H → Prop} (x1 : Int32) (x2 : Int32) (x3 : Int32) (x5 : Int32) (x6 : Int32)  (ko : eb_KO h) (w : (((6 : Int32) < x6 → Q (some (.int x5)) h) ∧ (¬ ((6 : Int32) < x6) → eb_Ct d 60 [.ref s_trial, .ref s_now] h (fun r h2 => r = none ∧ eb_KO h2 ∧ eb_Ct d 63 [.ref s_trial, .int x2, .int x6] h2 (fun r h5 => r = none ∧ eb_KO h5 ∧ (vp_in x1 4) ∧ ∃ r9, eb_R h5 s_trays x1.toNatClampNeg = some r9 ∧ eb_Ct d 149 [.ref s_EB, .ref r9, .int x3] h5 (fun r h11 => ∃ y12, r = some (.int y12) ∧ eb_KO h11 ∧ ((y12 = 0 → eb_Sn (d + 1) m_X10_kinds h0 47 [(0, .ref s_EB), (1, .int x1), (2, .int x2), (3, .int x3), (5, .int x5), (6, .int (x6 + 1))] [] h11 Q) ∧ (¬ (y12 = 0) → eb_Sn (d + 1) m_X10_kinds h0 47 [(0, .ref s_EB), (1, .int x1), (2, .int x2), (3, .int x3), (5, .int (x5 ||| ((1 : Int32) <<< (x6 &&& 31)))), (6, .int (x6 + 1))] [] h11 Q)))))))) : eb_Sn (d + 1) m_X10_kinds h0 47 [(0, .ref s_EB), (1, .int x1), (2, .int x2), (3, .int x3), (5, .int x5), (6, .int x6)] [] h Q := by
  refine eb_iload (pc := 47) (i := 6) rfl rfl ?_
  refine eb_bipush (pc := 49) (n := 6) (v := 6) rfl rfl ?_
  refine eb_icmp_gt (pc := 51) (tgt := 104) rfl (by decide) (fun c1 => ?_) (fun c1 => ?_)
  · replace w := w.1 c1
    refine eb_iload (pc := 104) (i := 5) rfl rfl ?_
    exact eb_ireturn (pc := 106) rfl rfl rfl w
  · replace w := w.2 c1
    refine eb_aload_n (pc := 54) (n := 0) (i := 0) rfl rfl rfl ?_
    refine eb_getR (pc := 55) rfl rfl (by decide) (by decide) rfl (ko_s_EB_5 ko) ?_
    refine eb_aload_n (pc := 58) (n := 0) (i := 0) rfl rfl rfl ?_
    refine eb_getR (pc := 59) rfl rfl (by decide) (by decide) rfl (ko_s_EB_3 ko) ?_
    refine eb_ctV (pc := 62) (As := [.ref s_now]) (rest := []) rfl (by decide) rfl rfl (by decide) rfl (Nat.le_of_ble_eq_true rfl) ?_
    refine eb_Ct.mono w ?_
    rintro r h2 ⟨rfl, ko4, w⟩
    change eb_Sn _ _ _ 65 _ [] _ _
    refine eb_aload_n (pc := 65) (n := 0) (i := 0) rfl rfl rfl ?_
    refine eb_getR (pc := 66) rfl rfl (by decide) (by decide) rfl (ko_s_EB_5 ko4) ?_
    refine eb_iload_n (pc := 69) (n := 2) (i := 2) rfl rfl rfl ?_
    refine eb_iload (pc := 70) (i := 6) rfl rfl ?_
    refine eb_ctV (pc := 72) (As := [.int x2, .int x6]) (rest := []) rfl (by decide) rfl rfl (by decide) rfl (Nat.le_of_ble_eq_true rfl) ?_
    refine eb_Ct.mono w ?_
    rintro r h5 ⟨rfl, ko7, w⟩
    change eb_Sn _ _ _ 75 _ [] _ _
    refine eb_aload_n (pc := 75) (n := 0) (i := 0) rfl rfl rfl ?_
    refine eb_aload_n (pc := 76) (n := 0) (i := 0) rfl rfl rfl ?_
    refine eb_getR (pc := 77) rfl rfl (by decide) (by decide) rfl (ko_s_EB_9 ko7) ?_
    refine eb_iload_n (pc := 80) (n := 1) (i := 1) rfl rfl rfl ?_
    obtain ⟨c8, w⟩ := w
    obtain ⟨r9, q10, w⟩ := w
    refine eb_aaloadR (pc := 81) rfl rfl (by decide) (by decide) c8 q10 ?_
    refine eb_iload_n (pc := 82) (n := 3) (i := 3) rfl rfl rfl ?_
    refine eb_ctV (pc := 83) (As := [.ref r9, .int x3]) (rest := []) rfl (by decide) rfl rfl (by decide) rfl (Nat.le_of_ble_eq_true rfl) ?_
    refine eb_Ct.mono w ?_
    rintro r h11 ⟨y12, rfl, ko13, w⟩
    change eb_Sn _ _ _ 86 _ [.int y12] _ _
    refine eb_if_eq (pc := 86) (tgt := 98) rfl (by decide) (fun c14 => ?_) (fun c14 => ?_)
    · replace w := w.1 c14
      refine eb_iinc (pc := 98) (i := 6) (n := 1) (v := x6 + 1) (ls2 := [(6, .int (x6 + 1)), (0, .ref s_EB), (1, .int x1), (2, .int x2), (3, .int x3), (5, .int x5)]) (Nat.le_of_ble_eq_true rfl) rfl rfl rfl rfl ?_
      refine eb_goto (pc := 101) (tgt := 47) rfl (by decide) ?_
      exact eb_pick [1, 2, 3, 4, 5, 0] rfl w
    · replace w := w.2 c14
      refine eb_iload (pc := 89) (i := 5) rfl rfl ?_
      refine eb_iconst (pc := 91) (n := 1) (v := 1) rfl rfl ?_
      refine eb_iload (pc := 92) (i := 6) rfl rfl ?_
      refine eb_ishl (pc := 94) rfl ?_
      refine eb_ior (pc := 95) rfl ?_
      refine eb_istore (pc := 96) (i := 5) (ls2 := [(5, .int (x5 ||| ((1 : Int32) <<< (x6 &&& 31)))), (0, .ref s_EB), (1, .int x1), (2, .int x2), (3, .int x3), (6, .int x6)]) (Nat.le_of_ble_eq_true rfl) rfl rfl ?_
      refine eb_iinc (pc := 98) (i := 6) (n := 1) (v := x6 + 1) (ls2 := [(6, .int (x6 + 1)), (5, .int (x5 ||| ((1 : Int32) <<< (x6 &&& 31)))), (0, .ref s_EB), (1, .int x1), (2, .int x2), (3, .int x3)]) (Nat.le_of_ble_eq_true rfl) rfl rfl rfl rfl ?_
      refine eb_goto (pc := 101) (tgt := 47) rfl (by decide) ?_
      exact eb_pick [2, 3, 4, 5, 1, 0] rfl w
theorem T_X10_kinds {d : Nat} {h : eb_H} {Q : Option Value → eb_H → Prop} (x1 : Int32) (x2 : Int32) (x3 : Int32)  (ko : eb_KO h) (w : eb_Ct d 142 [.int x1] h (fun r h1 => ∃ y2, r = some (.int y2) ∧ eb_KO h1 ∧ ((¬ y2 = 0 → Q (some (.int (-2))) h1) ∧ (y2 = 0 → ∃ r5, eb_R h1 s_EB 2 = some r5 ∧ eb_kd r5 = 9 ∧ eb_Ct d 80 [.ref r5, .int x2] h1 (fun r h8 => ∃ y9, r = some (.int y9) ∧ eb_KO h8 ∧ ((¬ y9 = 0 → (vp_in x1 4) ∧ ∃ r13, eb_R h8 s_trays x1.toNatClampNeg = some r13 ∧ eb_Ct d 147 [.ref r13, .int x3] h8 (fun r h15 => ∃ y16, r = some (.int y16) ∧ eb_KO h15 ∧ ((y16 = 0 → eb_Sn (d + 1) m_X10_kinds h 47 [(0, .ref s_EB), (1, .int x1), (2, .int x2), (3, .int x3), (5, .int 0), (6, .int 0)] [] h15 Q) ∧ (¬ (y16 = 0) → Q (some (.int y16)) h15)))) ∧ (y9 = 0 → Q (some (.int (-2))) h8))))))) : eb_Ct (d + 1) 125 [.ref s_EB, .int x1, .int x2, .int x3] h Q :=
  eb_bodyQ (by decide) ok_X10_kinds (Nat.le_of_ble_eq_true rfl) (b_X10_kinds_0 (h0 := h) x1 x2 x3  ko w)
theorem b_X10_winds_0 {d : Nat} {h0 h : eb_H} {Q : Option Value → eb_H → Prop} (x1 : Int32) (x2 : Int32)  (ko : eb_KO h) (w : eb_Ct d 142 [.int x1] h (fun r h1 => ∃ y2, r = some (.int y2) ∧ eb_KO h1 ∧ ((y2 = 0 → (vp_in x1 4) ∧ ∃ r6, eb_R h1 s_trays x1.toNatClampNeg = some r6 ∧ eb_Ct d 147 [.ref r6, .int x2] h1 (fun r h8 => ∃ y9, r = some (.int y9) ∧ eb_KO h8 ∧ ((y9 = 0 → (vp_in x1 4) ∧ ∃ r13, eb_R h8 s_trays x1.toNatClampNeg = some r13 ∧ eb_Ct d 150 [.ref s_EB, .ref r13, .int x2] h8 (fun r h15 => ∃ y16, r = some (.int y16) ∧ eb_KO h15 ∧ Q (some (.int y16)) h15)) ∧ (¬ (y9 = 0) → Q (some (.int y9)) h8)))) ∧ (¬ (y2 = 0) → Q (some (.int (-2))) h1)))) : eb_Sn (d + 1) m_X10_winds h0 0 [(0, .ref s_EB), (1, .int x1), (2, .int x2)] [] h Q := by
  refine eb_iload_n (pc := 0) (n := 1) (i := 1) rfl rfl rfl ?_
  refine eb_ctS (pc := 1) (As := [.int x1]) (rest := []) rfl (by decide) (by decide) rfl rfl (Nat.le_of_ble_eq_true rfl) ?_
  refine eb_Ct.mono w ?_
  rintro r h1 ⟨y2, rfl, ko3, w⟩
  change eb_Sn _ _ _ 4 _ [.int y2] _ _
  refine eb_if_eq (pc := 4) (tgt := 10) rfl (by decide) (fun c4 => ?_) (fun c4 => ?_)
  · replace w := w.1 c4
    refine eb_aload_n (pc := 10) (n := 0) (i := 0) rfl rfl rfl ?_
    refine eb_getR (pc := 11) rfl rfl (by decide) (by decide) rfl (ko_s_EB_9 ko3) ?_
    refine eb_iload_n (pc := 14) (n := 1) (i := 1) rfl rfl rfl ?_
    obtain ⟨c5, w⟩ := w
    obtain ⟨r6, q7, w⟩ := w
    refine eb_aaloadR (pc := 15) rfl rfl (by decide) (by decide) c5 q7 ?_
    refine eb_iload_n (pc := 16) (n := 2) (i := 2) rfl rfl rfl ?_
    refine eb_ctS (pc := 17) (As := [.ref r6, .int x2]) (rest := []) rfl (by decide) (by decide) rfl rfl (Nat.le_of_ble_eq_true rfl) ?_
    refine eb_Ct.mono w ?_
    rintro r h8 ⟨y9, rfl, ko10, w⟩
    change eb_Sn _ _ _ 20 _ [.int y9] _ _
    refine eb_istore_n (pc := 20) (n := 3) (i := 3) (ls2 := [(3, .int y9), (0, .ref s_EB), (1, .int x1), (2, .int x2)]) rfl (Nat.le_of_ble_eq_true rfl) rfl rfl ?_
    refine eb_iload_n (pc := 21) (n := 3) (i := 3) rfl rfl rfl ?_
    refine eb_if_eq (pc := 22) (tgt := 29) rfl (by decide) (fun c11 => ?_) (fun c11 => ?_)
    · replace w := w.1 c11
      refine eb_aload_n (pc := 29) (n := 0) (i := 0) rfl rfl rfl ?_
      refine eb_aload_n (pc := 30) (n := 0) (i := 0) rfl rfl rfl ?_
      refine eb_getR (pc := 31) rfl rfl (by decide) (by decide) rfl (ko_s_EB_9 ko10) ?_
      refine eb_iload_n (pc := 34) (n := 1) (i := 1) rfl rfl rfl ?_
      obtain ⟨c12, w⟩ := w
      obtain ⟨r13, q14, w⟩ := w
      refine eb_aaloadR (pc := 35) rfl rfl (by decide) (by decide) c12 q14 ?_
      refine eb_iload_n (pc := 36) (n := 2) (i := 2) rfl rfl rfl ?_
      refine eb_ctV (pc := 37) (As := [.ref r13, .int x2]) (rest := []) rfl (by decide) rfl rfl (by decide) rfl (Nat.le_of_ble_eq_true rfl) ?_
      refine eb_Ct.mono w ?_
      rintro r h15 ⟨y16, rfl, ko17, w⟩
      change eb_Sn _ _ _ 40 _ [.int y16] _ _
      exact eb_ireturn (pc := 40) rfl rfl rfl w
    · replace w := w.2 c11
      refine eb_iload_n (pc := 25) (n := 3) (i := 3) rfl rfl rfl ?_
      refine eb_goto (pc := 26) (tgt := 40) rfl (by decide) ?_
      exact eb_ireturn (pc := 40) rfl rfl rfl w
  · replace w := w.2 c4
    refine eb_bipush (pc := 7) (n := -2) (v := (-2)) rfl rfl ?_
    exact eb_ireturn (pc := 9) rfl rfl rfl w
theorem T_X10_winds {d : Nat} {h : eb_H} {Q : Option Value → eb_H → Prop} (x1 : Int32) (x2 : Int32)  (ko : eb_KO h) (w : eb_Ct d 142 [.int x1] h (fun r h1 => ∃ y2, r = some (.int y2) ∧ eb_KO h1 ∧ ((y2 = 0 → (vp_in x1 4) ∧ ∃ r6, eb_R h1 s_trays x1.toNatClampNeg = some r6 ∧ eb_Ct d 147 [.ref r6, .int x2] h1 (fun r h8 => ∃ y9, r = some (.int y9) ∧ eb_KO h8 ∧ ((y9 = 0 → (vp_in x1 4) ∧ ∃ r13, eb_R h8 s_trays x1.toNatClampNeg = some r13 ∧ eb_Ct d 150 [.ref s_EB, .ref r13, .int x2] h8 (fun r h15 => ∃ y16, r = some (.int y16) ∧ eb_KO h15 ∧ Q (some (.int y16)) h15)) ∧ (¬ (y9 = 0) → Q (some (.int y9)) h8)))) ∧ (¬ (y2 = 0) → Q (some (.int (-2))) h1)))) : eb_Ct (d + 1) 126 [.ref s_EB, .int x1, .int x2] h Q :=
  eb_bodyQ (by decide) ok_X10_winds (Nat.le_of_ble_eq_true rfl) (b_X10_winds_0 (h0 := h) x1 x2  ko w)
theorem b_X10_attempt_0 {d : Nat} {h0 h : eb_H} {Q : Option Value → eb_H → Prop} (x1 : Int32) (x2 : Int32)  (ko : eb_KO h) (w : eb_Ct d 142 [.int x1] h (fun r h1 => ∃ y2, r = some (.int y2) ∧ eb_KO h1 ∧ ((y2 = 0 → (vp_in x1 4) ∧ ∃ r6, eb_R h1 s_trays x1.toNatClampNeg = some r6 ∧ eb_Ct d 147 [.ref r6, .int x2] h1 (fun r h8 => ∃ y9, r = some (.int y9) ∧ eb_KO h8 ∧ ((y9 = 0 → (vp_in x1 4) ∧ ∃ r13, eb_R h8 s_trays x1.toNatClampNeg = some r13 ∧ eb_Ct d 150 [.ref s_EB, .ref r13, .int x2] h8 (fun r h15 => ∃ y16, r = some (.int y16) ∧ eb_KO h15 ∧ ((¬ y16 = 0 → eb_Sn (d + 1) m_X10_attempt h0 57 [(0, .ref s_EB), (4, .int y16), (5, .int 0), (6, .int 11), (7, .int 0)] [] h15 Q) ∧ (y16 = 0 → Q (some (.int (-1))) h15)))) ∧ (¬ (y9 = 0) → Q (some (.int y9)) h8)))) ∧ (¬ (y2 = 0) → Q (some (.int (-2))) h1)))) : eb_Sn (d + 1) m_X10_attempt h0 0 [(0, .ref s_EB), (1, .int x1), (2, .int x2)] [] h Q := by
  refine eb_iload_n (pc := 0) (n := 1) (i := 1) rfl rfl rfl ?_
  refine eb_ctS (pc := 1) (As := [.int x1]) (rest := []) rfl (by decide) (by decide) rfl rfl (Nat.le_of_ble_eq_true rfl) ?_
  refine eb_Ct.mono w ?_
  rintro r h1 ⟨y2, rfl, ko3, w⟩
  change eb_Sn _ _ _ 4 _ [.int y2] _ _
  refine eb_if_eq (pc := 4) (tgt := 10) rfl (by decide) (fun c4 => ?_) (fun c4 => ?_)
  · replace w := w.1 c4
    refine eb_aload_n (pc := 10) (n := 0) (i := 0) rfl rfl rfl ?_
    refine eb_getR (pc := 11) rfl rfl (by decide) (by decide) rfl (ko_s_EB_9 ko3) ?_
    refine eb_iload_n (pc := 14) (n := 1) (i := 1) rfl rfl rfl ?_
    obtain ⟨c5, w⟩ := w
    obtain ⟨r6, q7, w⟩ := w
    refine eb_aaloadR (pc := 15) rfl rfl (by decide) (by decide) c5 q7 ?_
    refine eb_iload_n (pc := 16) (n := 2) (i := 2) rfl rfl rfl ?_
    refine eb_ctS (pc := 17) (As := [.ref r6, .int x2]) (rest := []) rfl (by decide) (by decide) rfl rfl (Nat.le_of_ble_eq_true rfl) ?_
    refine eb_Ct.mono w ?_
    rintro r h8 ⟨y9, rfl, ko10, w⟩
    change eb_Sn _ _ _ 20 _ [.int y9] _ _
    refine eb_istore_n (pc := 20) (n := 3) (i := 3) (ls2 := [(3, .int y9), (0, .ref s_EB), (1, .int x1), (2, .int x2)]) rfl (Nat.le_of_ble_eq_true rfl) rfl rfl ?_
    refine eb_iload_n (pc := 21) (n := 3) (i := 3) rfl rfl rfl ?_
    refine eb_if_eq (pc := 22) (tgt := 27) rfl (by decide) (fun c11 => ?_) (fun c11 => ?_)
    · replace w := w.1 c11
      refine eb_aload_n (pc := 27) (n := 0) (i := 0) rfl rfl rfl ?_
      refine eb_aload_n (pc := 28) (n := 0) (i := 0) rfl rfl rfl ?_
      refine eb_getR (pc := 29) rfl rfl (by decide) (by decide) rfl (ko_s_EB_9 ko10) ?_
      refine eb_iload_n (pc := 32) (n := 1) (i := 1) rfl rfl rfl ?_
      obtain ⟨c12, w⟩ := w
      obtain ⟨r13, q14, w⟩ := w
      refine eb_aaloadR (pc := 33) rfl rfl (by decide) (by decide) c12 q14 ?_
      refine eb_iload_n (pc := 34) (n := 2) (i := 2) rfl rfl rfl ?_
      refine eb_ctV (pc := 35) (As := [.ref r13, .int x2]) (rest := []) rfl (by decide) rfl rfl (by decide) rfl (Nat.le_of_ble_eq_true rfl) ?_
      refine eb_Ct.mono w ?_
      rintro r h15 ⟨y16, rfl, ko17, w⟩
      change eb_Sn _ _ _ 38 _ [.int y16] _ _
      refine eb_istore (pc := 38) (i := 4) (ls2 := [(4, .int y16), (3, .int y9), (0, .ref s_EB), (1, .int x1), (2, .int x2)]) (Nat.le_of_ble_eq_true rfl) rfl rfl ?_
      refine eb_iload (pc := 40) (i := 4) rfl rfl ?_
      refine eb_if_ne (pc := 42) (tgt := 47) rfl (by decide) (fun c18 => ?_) (fun c18 => ?_)
      · replace w := w.1 c18
        refine eb_iconst (pc := 47) (n := 0) (v := 0) rfl rfl ?_
        refine eb_istore (pc := 48) (i := 5) (ls2 := [(5, .int 0), (4, .int y16), (3, .int y9), (0, .ref s_EB), (1, .int x1), (2, .int x2)]) (Nat.le_of_ble_eq_true rfl) rfl rfl ?_
        refine eb_bipush (pc := 50) (n := 11) (v := 11) rfl rfl ?_
        refine eb_istore (pc := 52) (i := 6) (ls2 := [(6, .int 11), (5, .int 0), (4, .int y16), (3, .int y9), (0, .ref s_EB), (1, .int x1), (2, .int x2)]) (Nat.le_of_ble_eq_true rfl) rfl rfl ?_
        refine eb_iconst (pc := 54) (n := 0) (v := 0) rfl rfl ?_
        refine eb_istore (pc := 55) (i := 7) (ls2 := [(7, .int 0), (6, .int 11), (5, .int 0), (4, .int y16), (3, .int y9), (0, .ref s_EB), (1, .int x1), (2, .int x2)]) (Nat.le_of_ble_eq_true rfl) rfl rfl ?_
        exact eb_pick [5, 3, 2, 1, 0] rfl w
      · replace w := w.2 c18
        refine eb_iconst (pc := 45) (n := -1) (v := (-1)) rfl rfl ?_
        exact eb_ireturn (pc := 46) rfl rfl rfl w
    · replace w := w.2 c11
      refine eb_iload_n (pc := 25) (n := 3) (i := 3) rfl rfl rfl ?_
      exact eb_ireturn (pc := 26) rfl rfl rfl w
  · replace w := w.2 c4
    refine eb_bipush (pc := 7) (n := -2) (v := (-2)) rfl rfl ?_
    exact eb_ireturn (pc := 9) rfl rfl rfl w
theorem b_X10_attempt_57 {d : Nat} {h0 h : eb_H} {Q : Option Value → eb_H → Prop} (x4 : Int32) (x5 : Int32) (x6 : Int32) (x7 : Int32)  (ko : eb_KO h) (w : (((4 : Int32) ≤ x7 → Q (some (.int x5)) h) ∧ (¬ ((4 : Int32) ≤ x7) → eb_Ct d 151 [.ref s_EB, .int x4, .int x7] h (fun r h2 => ∃ y3, r = some (.int y3) ∧ eb_KO h2 ∧ ((x6 ≤ y3 → eb_Sn (d + 1) m_X10_attempt h0 57 [(0, .ref s_EB), (4, .int x4), (5, .int x5), (6, .int x6), (7, .int (x7 + 1))] [] h2 Q) ∧ (¬ (x6 ≤ y3) → eb_Sn (d + 1) m_X10_attempt h0 57 [(0, .ref s_EB), (4, .int x4), (5, .int x7), (6, .int y3), (7, .int (x7 + 1))] [] h2 Q)))))) : eb_Sn (d + 1) m_X10_attempt h0 57 [(0, .ref s_EB), (4, .int x4), (5, .int x5), (6, .int x6), (7, .int x7)] [] h Q := by
  refine eb_iload (pc := 57) (i := 7) rfl rfl ?_
  refine eb_iconst (pc := 59) (n := 4) (v := 4) rfl rfl ?_
  refine eb_icmp_ge (pc := 60) (tgt := 94) rfl (by decide) (fun c1 => ?_) (fun c1 => ?_)
  · replace w := w.1 c1
    refine eb_iload (pc := 94) (i := 5) rfl rfl ?_
    exact eb_ireturn (pc := 96) rfl rfl rfl w
  · replace w := w.2 c1
    refine eb_aload_n (pc := 63) (n := 0) (i := 0) rfl rfl rfl ?_
    refine eb_iload (pc := 64) (i := 4) rfl rfl ?_
    refine eb_iload (pc := 66) (i := 7) rfl rfl ?_
    refine eb_ctV (pc := 68) (As := [.int x4, .int x7]) (rest := []) rfl (by decide) rfl rfl (by decide) rfl (Nat.le_of_ble_eq_true rfl) ?_
    refine eb_Ct.mono w ?_
    rintro r h2 ⟨y3, rfl, ko4, w⟩
    change eb_Sn _ _ _ 71 _ [.int y3] _ _
    refine eb_istore (pc := 71) (i := 8) (ls2 := [(8, .int y3), (0, .ref s_EB), (4, .int x4), (5, .int x5), (6, .int x6), (7, .int x7)]) (Nat.le_of_ble_eq_true rfl) rfl rfl ?_
    refine eb_iload (pc := 73) (i := 8) rfl rfl ?_
    refine eb_iload (pc := 75) (i := 6) rfl rfl ?_
    refine eb_icmp_ge (pc := 77) (tgt := 88) rfl (by decide) (fun c5 => ?_) (fun c5 => ?_)
    · replace w := w.1 c5
      refine eb_iinc (pc := 88) (i := 7) (n := 1) (v := x7 + 1) (ls2 := [(7, .int (x7 + 1)), (8, .int y3), (0, .ref s_EB), (4, .int x4), (5, .int x5), (6, .int x6)]) (Nat.le_of_ble_eq_true rfl) rfl rfl rfl rfl ?_
      refine eb_goto (pc := 91) (tgt := 57) rfl (by decide) ?_
      exact eb_pick [2, 3, 4, 5, 0] rfl w
    · replace w := w.2 c5
      refine eb_iload (pc := 80) (i := 8) rfl rfl ?_
      refine eb_istore (pc := 82) (i := 6) (ls2 := [(6, .int y3), (8, .int y3), (0, .ref s_EB), (4, .int x4), (5, .int x5), (7, .int x7)]) (Nat.le_of_ble_eq_true rfl) rfl rfl ?_
      refine eb_iload (pc := 84) (i := 7) rfl rfl ?_
      refine eb_istore (pc := 86) (i := 5) (ls2 := [(5, .int x7), (6, .int y3), (8, .int y3), (0, .ref s_EB), (4, .int x4), (7, .int x7)]) (Nat.le_of_ble_eq_true rfl) rfl rfl ?_
      refine eb_iinc (pc := 88) (i := 7) (n := 1) (v := x7 + 1) (ls2 := [(7, .int (x7 + 1)), (5, .int x7), (6, .int y3), (8, .int y3), (0, .ref s_EB), (4, .int x4)]) (Nat.le_of_ble_eq_true rfl) rfl rfl rfl rfl ?_
      refine eb_goto (pc := 91) (tgt := 57) rfl (by decide) ?_
      exact eb_pick [4, 5, 1, 2, 0] rfl w
theorem T_X10_attempt {d : Nat} {h : eb_H} {Q : Option Value → eb_H → Prop} (x1 : Int32) (x2 : Int32)  (ko : eb_KO h) (w : eb_Ct d 142 [.int x1] h (fun r h1 => ∃ y2, r = some (.int y2) ∧ eb_KO h1 ∧ ((y2 = 0 → (vp_in x1 4) ∧ ∃ r6, eb_R h1 s_trays x1.toNatClampNeg = some r6 ∧ eb_Ct d 147 [.ref r6, .int x2] h1 (fun r h8 => ∃ y9, r = some (.int y9) ∧ eb_KO h8 ∧ ((y9 = 0 → (vp_in x1 4) ∧ ∃ r13, eb_R h8 s_trays x1.toNatClampNeg = some r13 ∧ eb_Ct d 150 [.ref s_EB, .ref r13, .int x2] h8 (fun r h15 => ∃ y16, r = some (.int y16) ∧ eb_KO h15 ∧ ((¬ y16 = 0 → eb_Sn (d + 1) m_X10_attempt h 57 [(0, .ref s_EB), (4, .int y16), (5, .int 0), (6, .int 11), (7, .int 0)] [] h15 Q) ∧ (y16 = 0 → Q (some (.int (-1))) h15)))) ∧ (¬ (y9 = 0) → Q (some (.int y9)) h8)))) ∧ (¬ (y2 = 0) → Q (some (.int (-2))) h1)))) : eb_Ct (d + 1) 127 [.ref s_EB, .int x1, .int x2] h Q :=
  eb_bodyQ (by decide) ok_X10_attempt (Nat.le_of_ble_eq_true rfl) (b_X10_attempt_0 (h0 := h) x1 x2  ko w)
theorem b_X10_forces_0 {d : Nat} {h0 h : eb_H} {Q : Option Value → eb_H → Prop} (x1 : Int32) (x2 : Int32)  (ko : eb_KO h) (w : ∃ r1, eb_R h s_EB 2 = some r1 ∧ eb_kd r1 = 9 ∧ eb_Ct d 83 [.ref r1, .int x1] h (fun r h4 => ∃ y5, r = some (.int y5) ∧ eb_KO h4 ∧ ((¬ y5 = 0 → eb_Ct d 143 [.int x2] h4 (fun r h8 => ∃ y9, r = some (.int y9) ∧ eb_KO h8 ∧ ((y9 = 0 → eb_Ct d 153 [.ref s_EB, .ref s_now, .int x1, .int x2] h8 (fun r h12 => ∃ y13, r = some (.int y13) ∧ eb_KO h12 ∧ ((y13 = 0 → eb_Ct d 154 [.ref s_EB, .int x1, .int x2] h12 (fun r h16 => ∃ y17, r = some (.int y17) ∧ eb_KO h16 ∧ Q (some (.int (if y17 = ((-1) : Int32) then (-1) else 1 : Int32))) h16)) ∧ (¬ (y13 = 0) → Q (some (.int 0)) h12)))) ∧ (¬ (y9 = 0) → Q (some (.int (-3))) h8)))) ∧ (y5 = 0 → Q (some (.int (-2))) h4)))) : eb_Sn (d + 1) m_X10_forces h0 0 [(0, .ref s_EB), (1, .int x1), (2, .int x2)] [] h Q := by
  refine eb_aload_n (pc := 0) (n := 0) (i := 0) rfl rfl rfl ?_
  obtain ⟨r1, q2, k3, w⟩ := w
  refine eb_getR (pc := 1) rfl rfl (by decide) (by decide) rfl q2 ?_
  refine eb_iload_n (pc := 4) (n := 1) (i := 1) rfl rfl rfl ?_
  refine eb_ctV (pc := 5) (As := [.int x1]) (rest := []) rfl (by decide) rfl k3 (by decide) rfl (Nat.le_of_ble_eq_true rfl) ?_
  refine eb_Ct.mono w ?_
  rintro r h4 ⟨y5, rfl, ko6, w⟩
  change eb_Sn _ _ _ 8 _ [.int y5] _ _
  refine eb_if_ne (pc := 8) (tgt := 14) rfl (by decide) (fun c7 => ?_) (fun c7 => ?_)
  · replace w := w.1 c7
    refine eb_iload_n (pc := 14) (n := 2) (i := 2) rfl rfl rfl ?_
    refine eb_ctS (pc := 15) (As := [.int x2]) (rest := []) rfl (by decide) (by decide) rfl rfl (Nat.le_of_ble_eq_true rfl) ?_
    refine eb_Ct.mono w ?_
    rintro r h8 ⟨y9, rfl, ko10, w⟩
    change eb_Sn _ _ _ 18 _ [.int y9] _ _
    refine eb_if_eq (pc := 18) (tgt := 24) rfl (by decide) (fun c11 => ?_) (fun c11 => ?_)
    · replace w := w.1 c11
      refine eb_aload_n (pc := 24) (n := 0) (i := 0) rfl rfl rfl ?_
      refine eb_aload_n (pc := 25) (n := 0) (i := 0) rfl rfl rfl ?_
      refine eb_getR (pc := 26) rfl rfl (by decide) (by decide) rfl (ko_s_EB_3 ko10) ?_
      refine eb_iload_n (pc := 29) (n := 1) (i := 1) rfl rfl rfl ?_
      refine eb_iload_n (pc := 30) (n := 2) (i := 2) rfl rfl rfl ?_
      refine eb_ctV (pc := 31) (As := [.ref s_now, .int x1, .int x2]) (rest := []) rfl (by decide) rfl rfl (by decide) rfl (Nat.le_of_ble_eq_true rfl) ?_
      refine eb_Ct.mono w ?_
      rintro r h12 ⟨y13, rfl, ko14, w⟩
      change eb_Sn _ _ _ 34 _ [.int y13] _ _
      refine eb_if_eq (pc := 34) (tgt := 39) rfl (by decide) (fun c15 => ?_) (fun c15 => ?_)
      · replace w := w.1 c15
        refine eb_aload_n (pc := 39) (n := 0) (i := 0) rfl rfl rfl ?_
        refine eb_iload_n (pc := 40) (n := 1) (i := 1) rfl rfl rfl ?_
        refine eb_iload_n (pc := 41) (n := 2) (i := 2) rfl rfl rfl ?_
        refine eb_ctV (pc := 42) (As := [.int x1, .int x2]) (rest := []) rfl (by decide) rfl rfl (by decide) rfl (Nat.le_of_ble_eq_true rfl) ?_
        refine eb_Ct.mono w ?_
        rintro r h16 ⟨y17, rfl, ko18, w⟩
        change eb_Sn _ _ _ 45 _ [.int y17] _ _
        refine eb_iconst (pc := 45) (n := -1) (v := (-1)) rfl rfl ?_
        have jj20 : eb_Sn (d + 1) m_X10_forces h0 54 [(0, .ref s_EB), (1, .int x1), (2, .int x2)] [.int (if y17 = ((-1) : Int32) then (-1) else 1 : Int32)] h16 Q := by
          exact eb_ireturn (pc := 54) rfl rfl rfl w
        refine eb_icmp_ne (pc := 46) (tgt := 53) rfl (by decide) (fun c19 => ?_) (fun c19 => ?_)
        · refine eb_iconst (pc := 53) (n := 1) (v := 1) rfl rfl ?_
          simp only [if_neg c19] at jj20 ⊢
          exact jj20
        · refine eb_iconst (pc := 49) (n := -1) (v := (-1)) rfl rfl ?_
          refine eb_goto (pc := 50) (tgt := 54) rfl (by decide) ?_
          simp only [if_pos c19] at jj20 ⊢
          exact jj20
      · replace w := w.2 c15
        refine eb_iconst (pc := 37) (n := 0) (v := 0) rfl rfl ?_
        exact eb_ireturn (pc := 38) rfl rfl rfl w
    · replace w := w.2 c11
      refine eb_bipush (pc := 21) (n := -3) (v := (-3)) rfl rfl ?_
      exact eb_ireturn (pc := 23) rfl rfl rfl w
  · replace w := w.2 c7
    refine eb_bipush (pc := 11) (n := -2) (v := (-2)) rfl rfl ?_
    exact eb_ireturn (pc := 13) rfl rfl rfl w
theorem T_X10_forces {d : Nat} {h : eb_H} {Q : Option Value → eb_H → Prop} (x1 : Int32) (x2 : Int32)  (ko : eb_KO h) (w : ∃ r1, eb_R h s_EB 2 = some r1 ∧ eb_kd r1 = 9 ∧ eb_Ct d 83 [.ref r1, .int x1] h (fun r h4 => ∃ y5, r = some (.int y5) ∧ eb_KO h4 ∧ ((¬ y5 = 0 → eb_Ct d 143 [.int x2] h4 (fun r h8 => ∃ y9, r = some (.int y9) ∧ eb_KO h8 ∧ ((y9 = 0 → eb_Ct d 153 [.ref s_EB, .ref s_now, .int x1, .int x2] h8 (fun r h12 => ∃ y13, r = some (.int y13) ∧ eb_KO h12 ∧ ((y13 = 0 → eb_Ct d 154 [.ref s_EB, .int x1, .int x2] h12 (fun r h16 => ∃ y17, r = some (.int y17) ∧ eb_KO h16 ∧ Q (some (.int (if y17 = ((-1) : Int32) then (-1) else 1 : Int32))) h16)) ∧ (¬ (y13 = 0) → Q (some (.int 0)) h12)))) ∧ (¬ (y9 = 0) → Q (some (.int (-3))) h8)))) ∧ (y5 = 0 → Q (some (.int (-2))) h4)))) : eb_Ct (d + 1) 128 [.ref s_EB, .int x1, .int x2] h Q :=
  eb_bodyQ (by decide) ok_X10_forces (Nat.le_of_ble_eq_true rfl) (b_X10_forces_0 (h0 := h) x1 x2  ko w)
theorem b_X10_best_0 {d : Nat} {h0 h : eb_H} {Q : Option Value → eb_H → Prop} (x1 : Int32) (x2 : Int32)  (ko : eb_KO h) (w : ∃ r1, eb_R h s_EB 2 = some r1 ∧ eb_kd r1 = 9 ∧ eb_Ct d 83 [.ref r1, .int x1] h (fun r h4 => ∃ y5, r = some (.int y5) ∧ eb_KO h4 ∧ ((¬ y5 = 0 → eb_Ct d 143 [.int x2] h4 (fun r h8 => ∃ y9, r = some (.int y9) ∧ eb_KO h8 ∧ ((y9 = 0 → eb_Ct d 153 [.ref s_EB, .ref s_now, .int x1, .int x2] h8 (fun r h12 => ∃ y13, r = some (.int y13) ∧ eb_KO h12 ∧ ((y13 = 0 → eb_Ct d 154 [.ref s_EB, .int x1, .int x2] h12 (fun r h16 => ∃ y17, r = some (.int y17) ∧ eb_KO h16 ∧ Q (some (.int y17)) h16)) ∧ (¬ (y13 = 0) → Q (some (.int (-1))) h12)))) ∧ (¬ (y9 = 0) → Q (some (.int (-3))) h8)))) ∧ (y5 = 0 → Q (some (.int (-2))) h4)))) : eb_Sn (d + 1) m_X10_best h0 0 [(0, .ref s_EB), (1, .int x1), (2, .int x2)] [] h Q := by
  refine eb_aload_n (pc := 0) (n := 0) (i := 0) rfl rfl rfl ?_
  obtain ⟨r1, q2, k3, w⟩ := w
  refine eb_getR (pc := 1) rfl rfl (by decide) (by decide) rfl q2 ?_
  refine eb_iload_n (pc := 4) (n := 1) (i := 1) rfl rfl rfl ?_
  refine eb_ctV (pc := 5) (As := [.int x1]) (rest := []) rfl (by decide) rfl k3 (by decide) rfl (Nat.le_of_ble_eq_true rfl) ?_
  refine eb_Ct.mono w ?_
  rintro r h4 ⟨y5, rfl, ko6, w⟩
  change eb_Sn _ _ _ 8 _ [.int y5] _ _
  refine eb_if_ne (pc := 8) (tgt := 14) rfl (by decide) (fun c7 => ?_) (fun c7 => ?_)
  · replace w := w.1 c7
    refine eb_iload_n (pc := 14) (n := 2) (i := 2) rfl rfl rfl ?_
    refine eb_ctS (pc := 15) (As := [.int x2]) (rest := []) rfl (by decide) (by decide) rfl rfl (Nat.le_of_ble_eq_true rfl) ?_
    refine eb_Ct.mono w ?_
    rintro r h8 ⟨y9, rfl, ko10, w⟩
    change eb_Sn _ _ _ 18 _ [.int y9] _ _
    refine eb_if_eq (pc := 18) (tgt := 24) rfl (by decide) (fun c11 => ?_) (fun c11 => ?_)
    · replace w := w.1 c11
      refine eb_aload_n (pc := 24) (n := 0) (i := 0) rfl rfl rfl ?_
      refine eb_aload_n (pc := 25) (n := 0) (i := 0) rfl rfl rfl ?_
      refine eb_getR (pc := 26) rfl rfl (by decide) (by decide) rfl (ko_s_EB_3 ko10) ?_
      refine eb_iload_n (pc := 29) (n := 1) (i := 1) rfl rfl rfl ?_
      refine eb_iload_n (pc := 30) (n := 2) (i := 2) rfl rfl rfl ?_
      refine eb_ctV (pc := 31) (As := [.ref s_now, .int x1, .int x2]) (rest := []) rfl (by decide) rfl rfl (by decide) rfl (Nat.le_of_ble_eq_true rfl) ?_
      refine eb_Ct.mono w ?_
      rintro r h12 ⟨y13, rfl, ko14, w⟩
      change eb_Sn _ _ _ 34 _ [.int y13] _ _
      refine eb_if_eq (pc := 34) (tgt := 41) rfl (by decide) (fun c15 => ?_) (fun c15 => ?_)
      · replace w := w.1 c15
        refine eb_aload_n (pc := 41) (n := 0) (i := 0) rfl rfl rfl ?_
        refine eb_iload_n (pc := 42) (n := 1) (i := 1) rfl rfl rfl ?_
        refine eb_iload_n (pc := 43) (n := 2) (i := 2) rfl rfl rfl ?_
        refine eb_ctV (pc := 44) (As := [.int x1, .int x2]) (rest := []) rfl (by decide) rfl rfl (by decide) rfl (Nat.le_of_ble_eq_true rfl) ?_
        refine eb_Ct.mono w ?_
        rintro r h16 ⟨y17, rfl, ko18, w⟩
        change eb_Sn _ _ _ 47 _ [.int y17] _ _
        exact eb_ireturn (pc := 47) rfl rfl rfl w
      · replace w := w.2 c15
        refine eb_iconst (pc := 37) (n := -1) (v := (-1)) rfl rfl ?_
        refine eb_goto (pc := 38) (tgt := 47) rfl (by decide) ?_
        exact eb_ireturn (pc := 47) rfl rfl rfl w
    · replace w := w.2 c11
      refine eb_bipush (pc := 21) (n := -3) (v := (-3)) rfl rfl ?_
      exact eb_ireturn (pc := 23) rfl rfl rfl w
  · replace w := w.2 c7
    refine eb_bipush (pc := 11) (n := -2) (v := (-2)) rfl rfl ?_
    exact eb_ireturn (pc := 13) rfl rfl rfl w
theorem T_X10_best {d : Nat} {h : eb_H} {Q : Option Value → eb_H → Prop} (x1 : Int32) (x2 : Int32)  (ko : eb_KO h) (w : ∃ r1, eb_R h s_EB 2 = some r1 ∧ eb_kd r1 = 9 ∧ eb_Ct d 83 [.ref r1, .int x1] h (fun r h4 => ∃ y5, r = some (.int y5) ∧ eb_KO h4 ∧ ((¬ y5 = 0 → eb_Ct d 143 [.int x2] h4 (fun r h8 => ∃ y9, r = some (.int y9) ∧ eb_KO h8 ∧ ((y9 = 0 → eb_Ct d 153 [.ref s_EB, .ref s_now, .int x1, .int x2] h8 (fun r h12 => ∃ y13, r = some (.int y13) ∧ eb_KO h12 ∧ ((y13 = 0 → eb_Ct d 154 [.ref s_EB, .int x1, .int x2] h12 (fun r h16 => ∃ y17, r = some (.int y17) ∧ eb_KO h16 ∧ Q (some (.int y17)) h16)) ∧ (¬ (y13 = 0) → Q (some (.int (-1))) h12)))) ∧ (¬ (y9 = 0) → Q (some (.int (-3))) h8)))) ∧ (y5 = 0 → Q (some (.int (-2))) h4)))) : eb_Ct (d + 1) 129 [.ref s_EB, .int x1, .int x2] h Q :=
  eb_bodyQ (by decide) ok_X10_best (Nat.le_of_ble_eq_true rfl) (b_X10_best_0 (h0 := h) x1 x2  ko w)
theorem b_X10_chance_0 {d : Nat} {h0 h : eb_H} {Q : Option Value → eb_H → Prop} (x1 : Int32) (x2 : Int32) (x3 : Int32) (x4 : Int32)  (ko : eb_KO h) (w : ∃ r1, eb_R h s_EB 2 = some r1 ∧ eb_kd r1 = 9 ∧ eb_Ct d 80 [.ref r1, .int x1] h (fun r h4 => ∃ y5, r = some (.int y5) ∧ eb_KO h4 ∧ ((y5 = 0 → Q (some (.int (-2))) h4) ∧ (¬ (y5 = 0) → ((x4 < 0 → Q (some (.int (-2))) h4) ∧ (¬ (x4 < 0) → ((x4 ≤ (1 : Int32) → eb_Ct d 143 [.int x2] h4 (fun r h10 => ∃ y11, r = some (.int y11) ∧ eb_KO h10 ∧ ((¬ y11 = 0 → Q (some (.int (-3))) h10) ∧ (y11 = 0 → ((x3 < 0 → Q (some (.int (-3))) h10) ∧ (¬ (x3 < 0) → ((x3 ≤ (8 : Int32) → ∃ r16, eb_R h10 s_EB 2 = some r16 ∧ eb_kd r16 = 9 ∧ eb_Ct d 18 [.ref s_flights, .ref r16, .ref s_now, .int x3, .int 1] h10 (fun r h19 => r = none ∧ eb_KO h19 ∧ eb_Ct d 22 [.ref s_flights, .int x1, .int x2, .int 0] h19 (fun r h22 => ∃ y23, r = some (.long y23) ∧ eb_KO h22 ∧ eb_Ct d 155 [.long y23, .int x3, .int x4] h22 (fun r h25 => ∃ y26, r = some (.int y26) ∧ eb_KO h25 ∧ Q (some (.int y26)) h25)))) ∧ (¬ (x3 ≤ (8 : Int32)) → Q (some (.int (-3))) h10)))))))) ∧ (¬ (x4 ≤ (1 : Int32)) → Q (some (.int (-2))) h4)))))))) : eb_Sn (d + 1) m_X10_chance h0 0 [(0, .ref s_EB), (1, .int x1), (2, .int x2), (3, .int x3), (4, .int x4)] [] h Q := by
  refine eb_aload_n (pc := 0) (n := 0) (i := 0) rfl rfl rfl ?_
  obtain ⟨r1, q2, k3, w⟩ := w
  refine eb_getR (pc := 1) rfl rfl (by decide) (by decide) rfl q2 ?_
  refine eb_iload_n (pc := 4) (n := 1) (i := 1) rfl rfl rfl ?_
  refine eb_ctV (pc := 5) (As := [.int x1]) (rest := []) rfl (by decide) rfl k3 (by decide) rfl (Nat.le_of_ble_eq_true rfl) ?_
  refine eb_Ct.mono w ?_
  rintro r h4 ⟨y5, rfl, ko6, w⟩
  change eb_Sn _ _ _ 8 _ [.int y5] _ _
  refine eb_if_eq (pc := 8) (tgt := 22) rfl (by decide) (fun c7 => ?_) (fun c7 => ?_)
  · replace w := w.1 c7
    refine eb_bipush (pc := 22) (n := -2) (v := (-2)) rfl rfl ?_
    exact eb_ireturn (pc := 24) rfl rfl rfl w
  · replace w := w.2 c7
    refine eb_iload (pc := 11) (i := 4) rfl rfl ?_
    refine eb_if_lt (pc := 13) (tgt := 22) rfl (by decide) (fun c8 => ?_) (fun c8 => ?_)
    · replace w := w.1 c8
      refine eb_bipush (pc := 22) (n := -2) (v := (-2)) rfl rfl ?_
      exact eb_ireturn (pc := 24) rfl rfl rfl w
    · replace w := w.2 c8
      refine eb_iload (pc := 16) (i := 4) rfl rfl ?_
      refine eb_iconst (pc := 18) (n := 1) (v := 1) rfl rfl ?_
      refine eb_icmp_le (pc := 19) (tgt := 25) rfl (by decide) (fun c9 => ?_) (fun c9 => ?_)
      · replace w := w.1 c9
        refine eb_iload_n (pc := 25) (n := 2) (i := 2) rfl rfl rfl ?_
        refine eb_ctS (pc := 26) (As := [.int x2]) (rest := []) rfl (by decide) (by decide) rfl rfl (Nat.le_of_ble_eq_true rfl) ?_
        refine eb_Ct.mono w ?_
        rintro r h10 ⟨y11, rfl, ko12, w⟩
        change eb_Sn _ _ _ 29 _ [.int y11] _ _
        refine eb_if_ne (pc := 29) (tgt := 42) rfl (by decide) (fun c13 => ?_) (fun c13 => ?_)
        · replace w := w.1 c13
          refine eb_bipush (pc := 42) (n := -3) (v := (-3)) rfl rfl ?_
          exact eb_ireturn (pc := 44) rfl rfl rfl w
        · replace w := w.2 c13
          refine eb_iload_n (pc := 32) (n := 3) (i := 3) rfl rfl rfl ?_
          refine eb_if_lt (pc := 33) (tgt := 42) rfl (by decide) (fun c14 => ?_) (fun c14 => ?_)
          · replace w := w.1 c14
            refine eb_bipush (pc := 42) (n := -3) (v := (-3)) rfl rfl ?_
            exact eb_ireturn (pc := 44) rfl rfl rfl w
          · replace w := w.2 c14
            refine eb_iload_n (pc := 36) (n := 3) (i := 3) rfl rfl rfl ?_
            refine eb_bipush (pc := 37) (n := 8) (v := 8) rfl rfl ?_
            refine eb_icmp_le (pc := 39) (tgt := 45) rfl (by decide) (fun c15 => ?_) (fun c15 => ?_)
            · replace w := w.1 c15
              refine eb_aload_n (pc := 45) (n := 0) (i := 0) rfl rfl rfl ?_
              refine eb_getR (pc := 46) rfl rfl (by decide) (by decide) rfl (ko_s_EB_7 ko12) ?_
              refine eb_aload_n (pc := 49) (n := 0) (i := 0) rfl rfl rfl ?_
              obtain ⟨r16, q17, k18, w⟩ := w
              refine eb_getR (pc := 50) rfl rfl (by decide) (by decide) rfl q17 ?_
              refine eb_aload_n (pc := 53) (n := 0) (i := 0) rfl rfl rfl ?_
              refine eb_getR (pc := 54) rfl rfl (by decide) (by decide) rfl (ko_s_EB_3 ko12) ?_
              refine eb_iload_n (pc := 57) (n := 3) (i := 3) rfl rfl rfl ?_
              refine eb_iconst (pc := 58) (n := 1) (v := 1) rfl rfl ?_
              refine eb_ctV (pc := 59) (As := [.ref r16, .ref s_now, .int x3, .int 1]) (rest := []) rfl (by decide) rfl rfl (by decide) rfl (Nat.le_of_ble_eq_true rfl) ?_
              refine eb_Ct.mono w ?_
              rintro r h19 ⟨rfl, ko21, w⟩
              change eb_Sn _ _ _ 62 _ [] _ _
              refine eb_aload_n (pc := 62) (n := 0) (i := 0) rfl rfl rfl ?_
              refine eb_getR (pc := 63) rfl rfl (by decide) (by decide) rfl (ko_s_EB_7 ko21) ?_
              refine eb_iload_n (pc := 66) (n := 1) (i := 1) rfl rfl rfl ?_
              refine eb_iload_n (pc := 67) (n := 2) (i := 2) rfl rfl rfl ?_
              refine eb_iconst (pc := 68) (n := 0) (v := 0) rfl rfl ?_
              refine eb_ctV (pc := 69) (As := [.int x1, .int x2, .int 0]) (rest := []) rfl (by decide) rfl rfl (by decide) rfl (Nat.le_of_ble_eq_true rfl) ?_
              refine eb_Ct.mono w ?_
              rintro r h22 ⟨y23, rfl, ko24, w⟩
              change eb_Sn _ _ _ 72 _ [.long y23] _ _
              refine eb_iload_n (pc := 72) (n := 3) (i := 3) rfl rfl rfl ?_
              refine eb_iload (pc := 73) (i := 4) rfl rfl ?_
              refine eb_ctS (pc := 75) (As := [.long y23, .int x3, .int x4]) (rest := []) rfl (by decide) (by decide) rfl rfl (Nat.le_of_ble_eq_true rfl) ?_
              refine eb_Ct.mono w ?_
              rintro r h25 ⟨y26, rfl, ko27, w⟩
              change eb_Sn _ _ _ 78 _ [.int y26] _ _
              exact eb_ireturn (pc := 78) rfl rfl rfl w
            · replace w := w.2 c15
              refine eb_bipush (pc := 42) (n := -3) (v := (-3)) rfl rfl ?_
              exact eb_ireturn (pc := 44) rfl rfl rfl w
      · replace w := w.2 c9
        refine eb_bipush (pc := 22) (n := -2) (v := (-2)) rfl rfl ?_
        exact eb_ireturn (pc := 24) rfl rfl rfl w
theorem T_X10_chance {d : Nat} {h : eb_H} {Q : Option Value → eb_H → Prop} (x1 : Int32) (x2 : Int32) (x3 : Int32) (x4 : Int32)  (ko : eb_KO h) (w : ∃ r1, eb_R h s_EB 2 = some r1 ∧ eb_kd r1 = 9 ∧ eb_Ct d 80 [.ref r1, .int x1] h (fun r h4 => ∃ y5, r = some (.int y5) ∧ eb_KO h4 ∧ ((y5 = 0 → Q (some (.int (-2))) h4) ∧ (¬ (y5 = 0) → ((x4 < 0 → Q (some (.int (-2))) h4) ∧ (¬ (x4 < 0) → ((x4 ≤ (1 : Int32) → eb_Ct d 143 [.int x2] h4 (fun r h10 => ∃ y11, r = some (.int y11) ∧ eb_KO h10 ∧ ((¬ y11 = 0 → Q (some (.int (-3))) h10) ∧ (y11 = 0 → ((x3 < 0 → Q (some (.int (-3))) h10) ∧ (¬ (x3 < 0) → ((x3 ≤ (8 : Int32) → ∃ r16, eb_R h10 s_EB 2 = some r16 ∧ eb_kd r16 = 9 ∧ eb_Ct d 18 [.ref s_flights, .ref r16, .ref s_now, .int x3, .int 1] h10 (fun r h19 => r = none ∧ eb_KO h19 ∧ eb_Ct d 22 [.ref s_flights, .int x1, .int x2, .int 0] h19 (fun r h22 => ∃ y23, r = some (.long y23) ∧ eb_KO h22 ∧ eb_Ct d 155 [.long y23, .int x3, .int x4] h22 (fun r h25 => ∃ y26, r = some (.int y26) ∧ eb_KO h25 ∧ Q (some (.int y26)) h25)))) ∧ (¬ (x3 ≤ (8 : Int32)) → Q (some (.int (-3))) h10)))))))) ∧ (¬ (x4 ≤ (1 : Int32)) → Q (some (.int (-2))) h4)))))))) : eb_Ct (d + 1) 130 [.ref s_EB, .int x1, .int x2, .int x3, .int x4] h Q :=
  eb_bodyQ (by decide) ok_X10_chance (Nat.le_of_ble_eq_true rfl) (b_X10_chance_0 (h0 := h) x1 x2 x3 x4  ko w)
theorem b_X10_mean_0 {d : Nat} {h0 h : eb_H} {Q : Option Value → eb_H → Prop} (x1 : Int32) (x2 : Int32)  (ko : eb_KO h) (w : ((x2 < 0 → Q (some (.int (-2))) h) ∧ (¬ (x2 < 0) → ((x2 ≤ (1 : Int32) → ((x1 < 0 → Q (some (.int (-3))) h) ∧ (¬ (x1 < 0) → ((x1 ≤ (8 : Int32) → ∃ r5, eb_R h s_EB 2 = some r5 ∧ eb_kd r5 = 9 ∧ eb_Ct d 18 [.ref s_flights, .ref r5, .ref s_now, .int x1, .int 1] h (fun r h8 => r = none ∧ eb_KO h8 ∧ eb_Ct d 23 [.ref s_flights] h8 (fun r h11 => ∃ y12, r = some (.long y12) ∧ eb_KO h11 ∧ eb_Ct d 155 [.long y12, .int x1, .int x2] h11 (fun r h14 => ∃ y15, r = some (.int y15) ∧ eb_KO h14 ∧ Q (some (.int y15)) h14)))) ∧ (¬ (x1 ≤ (8 : Int32)) → Q (some (.int (-3))) h))))) ∧ (¬ (x2 ≤ (1 : Int32)) → Q (some (.int (-2))) h))))) : eb_Sn (d + 1) m_X10_mean h0 0 [(0, .ref s_EB), (1, .int x1), (2, .int x2)] [] h Q := by
  refine eb_iload_n (pc := 0) (n := 2) (i := 2) rfl rfl rfl ?_
  refine eb_if_lt (pc := 1) (tgt := 9) rfl (by decide) (fun c1 => ?_) (fun c1 => ?_)
  · replace w := w.1 c1
    refine eb_bipush (pc := 9) (n := -2) (v := (-2)) rfl rfl ?_
    exact eb_ireturn (pc := 11) rfl rfl rfl w
  · replace w := w.2 c1
    refine eb_iload_n (pc := 4) (n := 2) (i := 2) rfl rfl rfl ?_
    refine eb_iconst (pc := 5) (n := 1) (v := 1) rfl rfl ?_
    refine eb_icmp_le (pc := 6) (tgt := 12) rfl (by decide) (fun c2 => ?_) (fun c2 => ?_)
    · replace w := w.1 c2
      refine eb_iload_n (pc := 12) (n := 1) (i := 1) rfl rfl rfl ?_
      refine eb_if_lt (pc := 13) (tgt := 22) rfl (by decide) (fun c3 => ?_) (fun c3 => ?_)
      · replace w := w.1 c3
        refine eb_bipush (pc := 22) (n := -3) (v := (-3)) rfl rfl ?_
        exact eb_ireturn (pc := 24) rfl rfl rfl w
      · replace w := w.2 c3
        refine eb_iload_n (pc := 16) (n := 1) (i := 1) rfl rfl rfl ?_
        refine eb_bipush (pc := 17) (n := 8) (v := 8) rfl rfl ?_
        refine eb_icmp_le (pc := 19) (tgt := 25) rfl (by decide) (fun c4 => ?_) (fun c4 => ?_)
        · replace w := w.1 c4
          refine eb_aload_n (pc := 25) (n := 0) (i := 0) rfl rfl rfl ?_
          refine eb_getR (pc := 26) rfl rfl (by decide) (by decide) rfl (ko_s_EB_7 ko) ?_
          refine eb_aload_n (pc := 29) (n := 0) (i := 0) rfl rfl rfl ?_
          obtain ⟨r5, q6, k7, w⟩ := w
          refine eb_getR (pc := 30) rfl rfl (by decide) (by decide) rfl q6 ?_
          refine eb_aload_n (pc := 33) (n := 0) (i := 0) rfl rfl rfl ?_
          refine eb_getR (pc := 34) rfl rfl (by decide) (by decide) rfl (ko_s_EB_3 ko) ?_
          refine eb_iload_n (pc := 37) (n := 1) (i := 1) rfl rfl rfl ?_
          refine eb_iconst (pc := 38) (n := 1) (v := 1) rfl rfl ?_
          refine eb_ctV (pc := 39) (As := [.ref r5, .ref s_now, .int x1, .int 1]) (rest := []) rfl (by decide) rfl rfl (by decide) rfl (Nat.le_of_ble_eq_true rfl) ?_
          refine eb_Ct.mono w ?_
          rintro r h8 ⟨rfl, ko10, w⟩
          change eb_Sn _ _ _ 42 _ [] _ _
          refine eb_aload_n (pc := 42) (n := 0) (i := 0) rfl rfl rfl ?_
          refine eb_getR (pc := 43) rfl rfl (by decide) (by decide) rfl (ko_s_EB_7 ko10) ?_
          refine eb_ctV (pc := 46) (As := []) (rest := []) rfl (by decide) rfl rfl (by decide) rfl (Nat.le_of_ble_eq_true rfl) ?_
          refine eb_Ct.mono w ?_
          rintro r h11 ⟨y12, rfl, ko13, w⟩
          change eb_Sn _ _ _ 49 _ [.long y12] _ _
          refine eb_iload_n (pc := 49) (n := 1) (i := 1) rfl rfl rfl ?_
          refine eb_iload_n (pc := 50) (n := 2) (i := 2) rfl rfl rfl ?_
          refine eb_ctS (pc := 51) (As := [.long y12, .int x1, .int x2]) (rest := []) rfl (by decide) (by decide) rfl rfl (Nat.le_of_ble_eq_true rfl) ?_
          refine eb_Ct.mono w ?_
          rintro r h14 ⟨y15, rfl, ko16, w⟩
          change eb_Sn _ _ _ 54 _ [.int y15] _ _
          exact eb_ireturn (pc := 54) rfl rfl rfl w
        · replace w := w.2 c4
          refine eb_bipush (pc := 22) (n := -3) (v := (-3)) rfl rfl ?_
          exact eb_ireturn (pc := 24) rfl rfl rfl w
    · replace w := w.2 c2
      refine eb_bipush (pc := 9) (n := -2) (v := (-2)) rfl rfl ?_
      exact eb_ireturn (pc := 11) rfl rfl rfl w
theorem T_X10_mean {d : Nat} {h : eb_H} {Q : Option Value → eb_H → Prop} (x1 : Int32) (x2 : Int32)  (ko : eb_KO h) (w : ((x2 < 0 → Q (some (.int (-2))) h) ∧ (¬ (x2 < 0) → ((x2 ≤ (1 : Int32) → ((x1 < 0 → Q (some (.int (-3))) h) ∧ (¬ (x1 < 0) → ((x1 ≤ (8 : Int32) → ∃ r5, eb_R h s_EB 2 = some r5 ∧ eb_kd r5 = 9 ∧ eb_Ct d 18 [.ref s_flights, .ref r5, .ref s_now, .int x1, .int 1] h (fun r h8 => r = none ∧ eb_KO h8 ∧ eb_Ct d 23 [.ref s_flights] h8 (fun r h11 => ∃ y12, r = some (.long y12) ∧ eb_KO h11 ∧ eb_Ct d 155 [.long y12, .int x1, .int x2] h11 (fun r h14 => ∃ y15, r = some (.int y15) ∧ eb_KO h14 ∧ Q (some (.int y15)) h14)))) ∧ (¬ (x1 ≤ (8 : Int32)) → Q (some (.int (-3))) h))))) ∧ (¬ (x2 ≤ (1 : Int32)) → Q (some (.int (-2))) h))))) : eb_Ct (d + 1) 131 [.ref s_EB, .int x1, .int x2] h Q :=
  eb_bodyQ (by decide) ok_X10_mean (Nat.le_of_ble_eq_true rfl) (b_X10_mean_0 (h0 := h) x1 x2  ko w)
theorem b_X10_likeliest_0 {d : Nat} {h0 h : eb_H} {Q : Option Value → eb_H → Prop} (x1 : Int32)  (ko : eb_KO h) (w : ((x1 < 0 → Q (some (.int (-3))) h) ∧ (¬ (x1 < 0) → ((x1 ≤ (8 : Int32) → ∃ r3, eb_R h s_EB 2 = some r3 ∧ eb_kd r3 = 9 ∧ eb_Ct d 18 [.ref s_flights, .ref r3, .ref s_now, .int x1, .int 1] h (fun r h6 => r = none ∧ eb_KO h6 ∧ eb_Sn (d + 1) m_X10_likeliest h0 39 [(0, .ref s_EB), (2, .int 0), (3, .long (-1)), (5, .int 0)] [] h6 Q)) ∧ (¬ (x1 ≤ (8 : Int32)) → Q (some (.int (-3))) h))))) : eb_Sn (d + 1) m_X10_likeliest h0 0 [(0, .ref s_EB), (1, .int x1)] [] h Q := by
  refine eb_iload_n (pc := 0) (n := 1) (i := 1) rfl rfl rfl ?_
  refine eb_if_lt (pc := 1) (tgt := 10) rfl (by decide) (fun c1 => ?_) (fun c1 => ?_)
  · replace w := w.1 c1
    refine eb_bipush (pc := 10) (n := -3) (v := (-3)) rfl rfl ?_
    exact eb_ireturn (pc := 12) rfl rfl rfl w
  · replace w := w.2 c1
    refine eb_iload_n (pc := 4) (n := 1) (i := 1) rfl rfl rfl ?_
    refine eb_bipush (pc := 5) (n := 8) (v := 8) rfl rfl ?_
    refine eb_icmp_le (pc := 7) (tgt := 13) rfl (by decide) (fun c2 => ?_) (fun c2 => ?_)
    · replace w := w.1 c2
      refine eb_aload_n (pc := 13) (n := 0) (i := 0) rfl rfl rfl ?_
      refine eb_getR (pc := 14) rfl rfl (by decide) (by decide) rfl (ko_s_EB_7 ko) ?_
      refine eb_aload_n (pc := 17) (n := 0) (i := 0) rfl rfl rfl ?_
      obtain ⟨r3, q4, k5, w⟩ := w
      refine eb_getR (pc := 18) rfl rfl (by decide) (by decide) rfl q4 ?_
      refine eb_aload_n (pc := 21) (n := 0) (i := 0) rfl rfl rfl ?_
      refine eb_getR (pc := 22) rfl rfl (by decide) (by decide) rfl (ko_s_EB_3 ko) ?_
      refine eb_iload_n (pc := 25) (n := 1) (i := 1) rfl rfl rfl ?_
      refine eb_iconst (pc := 26) (n := 1) (v := 1) rfl rfl ?_
      refine eb_ctV (pc := 27) (As := [.ref r3, .ref s_now, .int x1, .int 1]) (rest := []) rfl (by decide) rfl rfl (by decide) rfl (Nat.le_of_ble_eq_true rfl) ?_
      refine eb_Ct.mono w ?_
      rintro r h6 ⟨rfl, ko8, w⟩
      change eb_Sn _ _ _ 30 _ [] _ _
      refine eb_iconst (pc := 30) (n := 0) (v := 0) rfl rfl ?_
      refine eb_istore_n (pc := 31) (n := 2) (i := 2) (ls2 := [(2, .int 0), (0, .ref s_EB), (1, .int x1)]) rfl (Nat.le_of_ble_eq_true rfl) rfl rfl ?_
      refine eb_ldc2 (pc := 32) (a := 18446744073709551615) (v := (-1)) rfl (by decide) ?_
      refine eb_lstore_n (pc := 35) (n := 3) (i := 3) (ls2 := [(3, .long (-1)), (2, .int 0), (0, .ref s_EB), (1, .int x1)]) rfl (Nat.le_of_ble_eq_true rfl) rfl rfl ?_
      refine eb_iconst (pc := 36) (n := 0) (v := 0) rfl rfl ?_
      refine eb_istore (pc := 37) (i := 5) (ls2 := [(5, .int 0), (3, .long (-1)), (2, .int 0), (0, .ref s_EB), (1, .int x1)]) (Nat.le_of_ble_eq_true rfl) rfl rfl ?_
      exact eb_pick [3, 2, 1, 0] rfl w
    · replace w := w.2 c2
      refine eb_bipush (pc := 10) (n := -3) (v := (-3)) rfl rfl ?_
      exact eb_ireturn (pc := 12) rfl rfl rfl w
theorem b_X10_likeliest_39 {d : Nat} {h0 h : eb_H} {Q : Option Value → eb_H → Prop} (x2 : Int32) (x3 : Int64) (x5 : Int32)  (ko : eb_KO h) (w : (((16 : Int32) ≤ x5 → Q (some (.int x2)) h) ∧ (¬ ((16 : Int32) ≤ x5) → eb_Ct d 22 [.ref s_flights, .int x5, .int 0, .int 0] h (fun r h2 => ∃ y3, r = some (.long y3) ∧ eb_KO h2 ∧ ((y3 ≤ x3 → eb_Sn (d + 1) m_X10_likeliest h0 39 [(0, .ref s_EB), (2, .int x2), (3, .long x3), (5, .int (x5 + 1))] [] h2 Q) ∧ (¬ (y3 ≤ x3) → eb_Sn (d + 1) m_X10_likeliest h0 39 [(0, .ref s_EB), (2, .int x5), (3, .long y3), (5, .int (x5 + 1))] [] h2 Q)))))) : eb_Sn (d + 1) m_X10_likeliest h0 39 [(0, .ref s_EB), (2, .int x2), (3, .long x3), (5, .int x5)] [] h Q := by
  refine eb_iload (pc := 39) (i := 5) rfl rfl ?_
  refine eb_bipush (pc := 41) (n := 16) (v := 16) rfl rfl ?_
  refine eb_icmp_ge (pc := 43) (tgt := 78) rfl (by decide) (fun c1 => ?_) (fun c1 => ?_)
  · replace w := w.1 c1
    refine eb_iload_n (pc := 78) (n := 2) (i := 2) rfl rfl rfl ?_
    exact eb_ireturn (pc := 79) rfl rfl rfl w
  · replace w := w.2 c1
    refine eb_aload_n (pc := 46) (n := 0) (i := 0) rfl rfl rfl ?_
    refine eb_getR (pc := 47) rfl rfl (by decide) (by decide) rfl (ko_s_EB_7 ko) ?_
    refine eb_iload (pc := 50) (i := 5) rfl rfl ?_
    refine eb_iconst (pc := 52) (n := 0) (v := 0) rfl rfl ?_
    refine eb_iconst (pc := 53) (n := 0) (v := 0) rfl rfl ?_
    refine eb_ctV (pc := 54) (As := [.int x5, .int 0, .int 0]) (rest := []) rfl (by decide) rfl rfl (by decide) rfl (Nat.le_of_ble_eq_true rfl) ?_
    refine eb_Ct.mono w ?_
    rintro r h2 ⟨y3, rfl, ko4, w⟩
    change eb_Sn _ _ _ 57 _ [.long y3] _ _
    refine eb_lstore (pc := 57) (i := 6) (ls2 := [(6, .long y3), (0, .ref s_EB), (2, .int x2), (3, .long x3), (5, .int x5)]) (Nat.le_of_ble_eq_true rfl) rfl rfl ?_
    refine eb_lload (pc := 59) (i := 6) rfl rfl ?_
    refine eb_lload_n (pc := 61) (n := 3) (i := 3) rfl rfl rfl ?_
    refine eb_lcmp (pc := 62) rfl ?_
    refine eb_if_le (pc := 63) (tgt := 72) rfl (by decide) (fun c5 => ?_) (fun c5 => ?_)
    · replace c5 := eb_lc_le.mp c5
      replace w := w.1 c5
      refine eb_iinc (pc := 72) (i := 5) (n := 1) (v := x5 + 1) (ls2 := [(5, .int (x5 + 1)), (6, .long y3), (0, .ref s_EB), (2, .int x2), (3, .long x3)]) (Nat.le_of_ble_eq_true rfl) rfl rfl rfl rfl ?_
      refine eb_goto (pc := 75) (tgt := 39) rfl (by decide) ?_
      exact eb_pick [2, 3, 4, 0] rfl w
    · replace c5 := (fun hh => mt eb_lc_le.mpr hh) c5
      replace w := w.2 c5
      refine eb_lload (pc := 66) (i := 6) rfl rfl ?_
      refine eb_lstore_n (pc := 68) (n := 3) (i := 3) (ls2 := [(3, .long y3), (6, .long y3), (0, .ref s_EB), (2, .int x2), (5, .int x5)]) rfl (Nat.le_of_ble_eq_true rfl) rfl rfl ?_
      refine eb_iload (pc := 69) (i := 5) rfl rfl ?_
      refine eb_istore_n (pc := 71) (n := 2) (i := 2) (ls2 := [(2, .int x5), (3, .long y3), (6, .long y3), (0, .ref s_EB), (5, .int x5)]) rfl (Nat.le_of_ble_eq_true rfl) rfl rfl ?_
      refine eb_iinc (pc := 72) (i := 5) (n := 1) (v := x5 + 1) (ls2 := [(5, .int (x5 + 1)), (2, .int x5), (3, .long y3), (6, .long y3), (0, .ref s_EB)]) (Nat.le_of_ble_eq_true rfl) rfl rfl rfl rfl ?_
      refine eb_goto (pc := 75) (tgt := 39) rfl (by decide) ?_
      exact eb_pick [4, 1, 2, 0] rfl w
theorem T_X10_likeliest {d : Nat} {h : eb_H} {Q : Option Value → eb_H → Prop} (x1 : Int32)  (ko : eb_KO h) (w : ((x1 < 0 → Q (some (.int (-3))) h) ∧ (¬ (x1 < 0) → ((x1 ≤ (8 : Int32) → ∃ r3, eb_R h s_EB 2 = some r3 ∧ eb_kd r3 = 9 ∧ eb_Ct d 18 [.ref s_flights, .ref r3, .ref s_now, .int x1, .int 1] h (fun r h6 => r = none ∧ eb_KO h6 ∧ eb_Sn (d + 1) m_X10_likeliest h 39 [(0, .ref s_EB), (2, .int 0), (3, .long (-1)), (5, .int 0)] [] h6 Q)) ∧ (¬ (x1 ≤ (8 : Int32)) → Q (some (.int (-3))) h))))) : eb_Ct (d + 1) 132 [.ref s_EB, .int x1] h Q :=
  eb_bodyQ (by decide) ok_X10_likeliest (Nat.le_of_ble_eq_true rfl) (b_X10_likeliest_0 (h0 := h) x1  ko w)
theorem b_X10_numbers_0 {d : Nat} {h0 h : eb_H} {Q : Option Value → eb_H → Prop} (x1 : Int32) (x2 : Int32) (x3 : Int32)  (ko : eb_KO h) (w : eb_Ct d 142 [.int x1] h (fun r h1 => ∃ y2, r = some (.int y2) ∧ eb_KO h1 ∧ ((¬ y2 = 0 → Q (some (.int (-2))) h1) ∧ (y2 = 0 → ((x2 < 0 → Q (some (.int (-2))) h1) ∧ (¬ (x2 < 0) → ((x2 < (4 : Int32) → ((x3 < 0 → Q (some (.int (-3))) h1) ∧ (¬ (x3 < 0) → ((x3 ≤ (40 : Int32) → (vp_in x1 4) ∧ ∃ r10, eb_R h1 s_trays x1.toNatClampNeg = some r10 ∧ (eb_kd r10 = 8) ∧ eb_Ct d 75 [.ref r10, .int x2, .int x3] h1 (fun r h13 => r = none ∧ eb_KO h13 ∧ Q (some (.int 0)) h13)) ∧ (¬ (x3 ≤ (40 : Int32)) → Q (some (.int (-3))) h1))))) ∧ (¬ (x2 < (4 : Int32)) → Q (some (.int (-2))) h1)))))))) : eb_Sn (d + 1) m_X10_numbers h0 0 [(0, .ref s_EB), (1, .int x1), (2, .int x2), (3, .int x3)] [] h Q := by
  refine eb_iload_n (pc := 0) (n := 1) (i := 1) rfl rfl rfl ?_
  refine eb_ctS (pc := 1) (As := [.int x1]) (rest := []) rfl (by decide) (by decide) rfl rfl (Nat.le_of_ble_eq_true rfl) ?_
  refine eb_Ct.mono w ?_
  rintro r h1 ⟨y2, rfl, ko3, w⟩
  change eb_Sn _ _ _ 4 _ [.int y2] _ _
  refine eb_if_ne (pc := 4) (tgt := 16) rfl (by decide) (fun c4 => ?_) (fun c4 => ?_)
  · replace w := w.1 c4
    refine eb_bipush (pc := 16) (n := -2) (v := (-2)) rfl rfl ?_
    exact eb_ireturn (pc := 18) rfl rfl rfl w
  · replace w := w.2 c4
    refine eb_iload_n (pc := 7) (n := 2) (i := 2) rfl rfl rfl ?_
    refine eb_if_lt (pc := 8) (tgt := 16) rfl (by decide) (fun c5 => ?_) (fun c5 => ?_)
    · replace w := w.1 c5
      refine eb_bipush (pc := 16) (n := -2) (v := (-2)) rfl rfl ?_
      exact eb_ireturn (pc := 18) rfl rfl rfl w
    · replace w := w.2 c5
      refine eb_iload_n (pc := 11) (n := 2) (i := 2) rfl rfl rfl ?_
      refine eb_iconst (pc := 12) (n := 4) (v := 4) rfl rfl ?_
      refine eb_icmp_lt (pc := 13) (tgt := 19) rfl (by decide) (fun c6 => ?_) (fun c6 => ?_)
      · replace w := w.1 c6
        refine eb_iload_n (pc := 19) (n := 3) (i := 3) rfl rfl rfl ?_
        refine eb_if_lt (pc := 20) (tgt := 29) rfl (by decide) (fun c7 => ?_) (fun c7 => ?_)
        · replace w := w.1 c7
          refine eb_bipush (pc := 29) (n := -3) (v := (-3)) rfl rfl ?_
          exact eb_ireturn (pc := 31) rfl rfl rfl w
        · replace w := w.2 c7
          refine eb_iload_n (pc := 23) (n := 3) (i := 3) rfl rfl rfl ?_
          refine eb_bipush (pc := 24) (n := 40) (v := 40) rfl rfl ?_
          refine eb_icmp_le (pc := 26) (tgt := 32) rfl (by decide) (fun c8 => ?_) (fun c8 => ?_)
          · replace w := w.1 c8
            refine eb_aload_n (pc := 32) (n := 0) (i := 0) rfl rfl rfl ?_
            refine eb_getR (pc := 33) rfl rfl (by decide) (by decide) rfl (ko_s_EB_9 ko3) ?_
            refine eb_iload_n (pc := 36) (n := 1) (i := 1) rfl rfl rfl ?_
            obtain ⟨c9, w⟩ := w
            obtain ⟨r10, q11, w⟩ := w
            refine eb_aaloadR (pc := 37) rfl rfl (by decide) (by decide) c9 q11 ?_
            refine eb_iload_n (pc := 38) (n := 2) (i := 2) rfl rfl rfl ?_
            refine eb_iload_n (pc := 39) (n := 3) (i := 3) rfl rfl rfl ?_
            obtain ⟨k12, w⟩ := w
            refine eb_ctV (pc := 40) (As := [.int x2, .int x3]) (rest := []) rfl (by decide) rfl k12 (by decide) rfl (Nat.le_of_ble_eq_true rfl) ?_
            refine eb_Ct.mono w ?_
            rintro r h13 ⟨rfl, ko15, w⟩
            change eb_Sn _ _ _ 43 _ [] _ _
            refine eb_iconst (pc := 43) (n := 0) (v := 0) rfl rfl ?_
            exact eb_ireturn (pc := 44) rfl rfl rfl w
          · replace w := w.2 c8
            refine eb_bipush (pc := 29) (n := -3) (v := (-3)) rfl rfl ?_
            exact eb_ireturn (pc := 31) rfl rfl rfl w
      · replace w := w.2 c6
        refine eb_bipush (pc := 16) (n := -2) (v := (-2)) rfl rfl ?_
        exact eb_ireturn (pc := 18) rfl rfl rfl w
theorem T_X10_numbers {d : Nat} {h : eb_H} {Q : Option Value → eb_H → Prop} (x1 : Int32) (x2 : Int32) (x3 : Int32)  (ko : eb_KO h) (w : eb_Ct d 142 [.int x1] h (fun r h1 => ∃ y2, r = some (.int y2) ∧ eb_KO h1 ∧ ((¬ y2 = 0 → Q (some (.int (-2))) h1) ∧ (y2 = 0 → ((x2 < 0 → Q (some (.int (-2))) h1) ∧ (¬ (x2 < 0) → ((x2 < (4 : Int32) → ((x3 < 0 → Q (some (.int (-3))) h1) ∧ (¬ (x3 < 0) → ((x3 ≤ (40 : Int32) → (vp_in x1 4) ∧ ∃ r10, eb_R h1 s_trays x1.toNatClampNeg = some r10 ∧ (eb_kd r10 = 8) ∧ eb_Ct d 75 [.ref r10, .int x2, .int x3] h1 (fun r h13 => r = none ∧ eb_KO h13 ∧ Q (some (.int 0)) h13)) ∧ (¬ (x3 ≤ (40 : Int32)) → Q (some (.int (-3))) h1))))) ∧ (¬ (x2 < (4 : Int32)) → Q (some (.int (-2))) h1)))))))) : eb_Ct (d + 1) 133 [.ref s_EB, .int x1, .int x2, .int x3] h Q :=
  eb_bodyQ (by decide) ok_X10_numbers (Nat.le_of_ble_eq_true rfl) (b_X10_numbers_0 (h0 := h) x1 x2 x3  ko w)
theorem b_X10_write_0 {d : Nat} {h0 h : eb_H} {Q : Option Value → eb_H → Prop} (x1 : Int32) (x2 : Int32) (x3 : Int64)  (ko : eb_KO h) (w : eb_Ct d 142 [.int x1] h (fun r h1 => ∃ y2, r = some (.int y2) ∧ eb_KO h1 ∧ ((y2 = 0 → (vp_in x1 4) ∧ ∃ r6, eb_R h1 s_trays x1.toNatClampNeg = some r6 ∧ (eb_kd r6 = 8) ∧ (((eb_I h1 r6 2) = 0 → ((x2 < 0 → Q (some (.long (-7))) h1) ∧ (¬ (x2 < 0) → ((x2 < (eb_I h1 r6 3) → eb_Ct d 77 [.ref r6, .int x2, .long x3] h1 (fun r h12 => r = none ∧ eb_KO h12 ∧ eb_Ct d 76 [.ref r6, .int x2] h12 (fun r h15 => ∃ y16, r = some (.long y16) ∧ eb_KO h15 ∧ Q (some (.long y16)) h15))) ∧ (¬ (x2 < (eb_I h1 r6 3)) → Q (some (.long (-7))) h1))))) ∧ (¬ ((eb_I h1 r6 2) = 0) → Q (some (.long (-6))) h1))) ∧ (¬ (y2 = 0) → Q (some (.long (-2))) h1)))) : eb_Sn (d + 1) m_X10_write h0 0 [(0, .ref s_EB), (1, .int x1), (2, .int x2), (3, .long x3)] [] h Q := by
  refine eb_iload_n (pc := 0) (n := 1) (i := 1) rfl rfl rfl ?_
  refine eb_ctS (pc := 1) (As := [.int x1]) (rest := []) rfl (by decide) (by decide) rfl rfl (Nat.le_of_ble_eq_true rfl) ?_
  refine eb_Ct.mono w ?_
  rintro r h1 ⟨y2, rfl, ko3, w⟩
  change eb_Sn _ _ _ 4 _ [.int y2] _ _
  refine eb_if_eq (pc := 4) (tgt := 11) rfl (by decide) (fun c4 => ?_) (fun c4 => ?_)
  · replace w := w.1 c4
    refine eb_aload_n (pc := 11) (n := 0) (i := 0) rfl rfl rfl ?_
    refine eb_getR (pc := 12) rfl rfl (by decide) (by decide) rfl (ko_s_EB_9 ko3) ?_
    refine eb_iload_n (pc := 15) (n := 1) (i := 1) rfl rfl rfl ?_
    obtain ⟨c5, w⟩ := w
    obtain ⟨r6, q7, w⟩ := w
    refine eb_aaloadR (pc := 16) rfl rfl (by decide) (by decide) c5 q7 ?_
    refine eb_astore (pc := 17) (i := 5) (ls2 := [(5, .ref r6), (0, .ref s_EB), (1, .int x1), (2, .int x2), (3, .long x3)]) (Nat.le_of_ble_eq_true rfl) rfl rfl ?_
    refine eb_aload (pc := 19) (i := 5) rfl rfl ?_
    obtain ⟨k8, w⟩ := w
    refine eb_getI (pc := 21) rfl k8 (by decide) (by decide) rfl ?_
    refine eb_if_eq (pc := 24) (tgt := 31) rfl (by decide) (fun c9 => ?_) (fun c9 => ?_)
    · replace w := w.1 c9
      refine eb_iload_n (pc := 31) (n := 2) (i := 2) rfl rfl rfl ?_
      refine eb_if_lt (pc := 32) (tgt := 44) rfl (by decide) (fun c10 => ?_) (fun c10 => ?_)
      · replace w := w.1 c10
        refine eb_ldc2 (pc := 44) (a := 18446744073709551609) (v := (-7)) rfl (by decide) ?_
        exact eb_lreturn (pc := 47) rfl rfl w
      · replace w := w.2 c10
        refine eb_iload_n (pc := 35) (n := 2) (i := 2) rfl rfl rfl ?_
        refine eb_aload (pc := 36) (i := 5) rfl rfl ?_
        refine eb_getI (pc := 38) rfl k8 (by decide) (by decide) rfl ?_
        refine eb_icmp_lt (pc := 41) (tgt := 48) rfl (by decide) (fun c11 => ?_) (fun c11 => ?_)
        · replace w := w.1 c11
          refine eb_aload (pc := 48) (i := 5) rfl rfl ?_
          refine eb_iload_n (pc := 50) (n := 2) (i := 2) rfl rfl rfl ?_
          refine eb_lload_n (pc := 51) (n := 3) (i := 3) rfl rfl rfl ?_
          refine eb_ctV (pc := 52) (As := [.int x2, .long x3]) (rest := []) rfl (by decide) rfl k8 (by decide) rfl (Nat.le_of_ble_eq_true rfl) ?_
          refine eb_Ct.mono w ?_
          rintro r h12 ⟨rfl, ko14, w⟩
          change eb_Sn _ _ _ 55 _ [] _ _
          refine eb_aload (pc := 55) (i := 5) rfl rfl ?_
          refine eb_iload_n (pc := 57) (n := 2) (i := 2) rfl rfl rfl ?_
          refine eb_ctV (pc := 58) (As := [.int x2]) (rest := []) rfl (by decide) rfl k8 (by decide) rfl (Nat.le_of_ble_eq_true rfl) ?_
          refine eb_Ct.mono w ?_
          rintro r h15 ⟨y16, rfl, ko17, w⟩
          change eb_Sn _ _ _ 61 _ [.long y16] _ _
          exact eb_lreturn (pc := 61) rfl rfl w
        · replace w := w.2 c11
          refine eb_ldc2 (pc := 44) (a := 18446744073709551609) (v := (-7)) rfl (by decide) ?_
          exact eb_lreturn (pc := 47) rfl rfl w
    · replace w := w.2 c9
      refine eb_ldc2 (pc := 27) (a := 18446744073709551610) (v := (-6)) rfl (by decide) ?_
      exact eb_lreturn (pc := 30) rfl rfl w
  · replace w := w.2 c4
    refine eb_ldc2 (pc := 7) (a := 18446744073709551614) (v := (-2)) rfl (by decide) ?_
    exact eb_lreturn (pc := 10) rfl rfl w
theorem T_X10_write {d : Nat} {h : eb_H} {Q : Option Value → eb_H → Prop} (x1 : Int32) (x2 : Int32) (x3 : Int64)  (ko : eb_KO h) (w : eb_Ct d 142 [.int x1] h (fun r h1 => ∃ y2, r = some (.int y2) ∧ eb_KO h1 ∧ ((y2 = 0 → (vp_in x1 4) ∧ ∃ r6, eb_R h1 s_trays x1.toNatClampNeg = some r6 ∧ (eb_kd r6 = 8) ∧ (((eb_I h1 r6 2) = 0 → ((x2 < 0 → Q (some (.long (-7))) h1) ∧ (¬ (x2 < 0) → ((x2 < (eb_I h1 r6 3) → eb_Ct d 77 [.ref r6, .int x2, .long x3] h1 (fun r h12 => r = none ∧ eb_KO h12 ∧ eb_Ct d 76 [.ref r6, .int x2] h12 (fun r h15 => ∃ y16, r = some (.long y16) ∧ eb_KO h15 ∧ Q (some (.long y16)) h15))) ∧ (¬ (x2 < (eb_I h1 r6 3)) → Q (some (.long (-7))) h1))))) ∧ (¬ ((eb_I h1 r6 2) = 0) → Q (some (.long (-6))) h1))) ∧ (¬ (y2 = 0) → Q (some (.long (-2))) h1)))) : eb_Ct (d + 1) 134 [.ref s_EB, .int x1, .int x2, .long x3] h Q :=
  eb_bodyQ (by decide) ok_X10_write (Nat.le_of_ble_eq_true rfl) (b_X10_write_0 (h0 := h) x1 x2 x3  ko w)
theorem b_X10_lists_0 {d : Nat} {h0 h : eb_H} {Q : Option Value → eb_H → Prop} (x1 : Int32) (x2 : Int32) (x3 : Int32) (x4 : Int32)  (ko : eb_KO h) (w : eb_Ct d 142 [.int x1] h (fun r h1 => ∃ y2, r = some (.int y2) ∧ eb_KO h1 ∧ ((¬ y2 = 0 → Q (some (.int (-2))) h1) ∧ (y2 = 0 → ∃ r5, eb_R h1 s_EB 2 = some r5 ∧ eb_kd r5 = 9 ∧ eb_Ct d 80 [.ref r5, .int x2] h1 (fun r h8 => ∃ y9, r = some (.int y9) ∧ eb_KO h8 ∧ ((¬ y9 = 0 → (vp_in x1 4) ∧ ∃ r13, eb_R h8 s_trays x1.toNatClampNeg = some r13 ∧ (eb_kd r13 = 8) ∧ (((eb_I h8 r13 2) = 0 → eb_Ct d 144 [.int x3, .int x4] h8 (fun r h17 => ∃ y18, r = some (.int y18) ∧ eb_KO h17 ∧ ((y18 = 0 → ∃ r21, eb_R h17 s_EB 2 = some r21 ∧ eb_kd r21 = 9 ∧ eb_Ct d 8 [.ref s_flights, .ref r21, .ref s_now] h17 (fun r h24 => r = none ∧ eb_KO h24 ∧ eb_Ct d 12 [.ref s_flights, .int x2, .int x3, .int x4] h24 (fun r h27 => ∃ y28, r = some (.int y28) ∧ eb_KO h27 ∧ ((¬ y28 = ((-1) : Int32) → eb_Ct d 287 [.int y28, .int (eb_I h27 r13 3)] h27 (fun r h31 => ∃ y32, r = some (.int y32) ∧ eb_KO h31 ∧ eb_Sn (d + 1) m_X10_lists h0 104 [(0, .ref s_EB), (5, .ref r13), (7, .int y32), (8, .int 0)] [] h31 Q)) ∧ (y28 = ((-1) : Int32) → Q (some (.int (-5))) h27))))) ∧ (¬ (y18 = 0) → Q (some (.int (-3))) h17)))) ∧ (¬ ((eb_I h8 r13 2) = 0) → Q (some (.int (-6))) h8))) ∧ (y9 = 0 → Q (some (.int (-2))) h8))))))) : eb_Sn (d + 1) m_X10_lists h0 0 [(0, .ref s_EB), (1, .int x1), (2, .int x2), (3, .int x3), (4, .int x4)] [] h Q := by
  refine eb_iload_n (pc := 0) (n := 1) (i := 1) rfl rfl rfl ?_
  refine eb_ctS (pc := 1) (As := [.int x1]) (rest := []) rfl (by decide) (by decide) rfl rfl (Nat.le_of_ble_eq_true rfl) ?_
  refine eb_Ct.mono w ?_
  rintro r h1 ⟨y2, rfl, ko3, w⟩
  change eb_Sn _ _ _ 4 _ [.int y2] _ _
  refine eb_if_ne (pc := 4) (tgt := 18) rfl (by decide) (fun c4 => ?_) (fun c4 => ?_)
  · replace w := w.1 c4
    refine eb_bipush (pc := 18) (n := -2) (v := (-2)) rfl rfl ?_
    exact eb_ireturn (pc := 20) rfl rfl rfl w
  · replace w := w.2 c4
    refine eb_aload_n (pc := 7) (n := 0) (i := 0) rfl rfl rfl ?_
    obtain ⟨r5, q6, k7, w⟩ := w
    refine eb_getR (pc := 8) rfl rfl (by decide) (by decide) rfl q6 ?_
    refine eb_iload_n (pc := 11) (n := 2) (i := 2) rfl rfl rfl ?_
    refine eb_ctV (pc := 12) (As := [.int x2]) (rest := []) rfl (by decide) rfl k7 (by decide) rfl (Nat.le_of_ble_eq_true rfl) ?_
    refine eb_Ct.mono w ?_
    rintro r h8 ⟨y9, rfl, ko10, w⟩
    change eb_Sn _ _ _ 15 _ [.int y9] _ _
    refine eb_if_ne (pc := 15) (tgt := 21) rfl (by decide) (fun c11 => ?_) (fun c11 => ?_)
    · replace w := w.1 c11
      refine eb_aload_n (pc := 21) (n := 0) (i := 0) rfl rfl rfl ?_
      refine eb_getR (pc := 22) rfl rfl (by decide) (by decide) rfl (ko_s_EB_9 ko10) ?_
      refine eb_iload_n (pc := 25) (n := 1) (i := 1) rfl rfl rfl ?_
      obtain ⟨c12, w⟩ := w
      obtain ⟨r13, q14, w⟩ := w
      refine eb_aaloadR (pc := 26) rfl rfl (by decide) (by decide) c12 q14 ?_
      refine eb_astore (pc := 27) (i := 5) (ls2 := [(5, .ref r13), (0, .ref s_EB), (1, .int x1), (2, .int x2), (3, .int x3), (4, .int x4)]) (Nat.le_of_ble_eq_true rfl) rfl rfl ?_
      refine eb_aload (pc := 29) (i := 5) rfl rfl ?_
      obtain ⟨k15, w⟩ := w
      refine eb_getI (pc := 31) rfl k15 (by decide) (by decide) rfl ?_
      refine eb_if_eq (pc := 34) (tgt := 40) rfl (by decide) (fun c16 => ?_) (fun c16 => ?_)
      · replace w := w.1 c16
        refine eb_iload_n (pc := 40) (n := 3) (i := 3) rfl rfl rfl ?_
        refine eb_iload (pc := 41) (i := 4) rfl rfl ?_
        refine eb_ctS (pc := 43) (As := [.int x3, .int x4]) (rest := []) rfl (by decide) (by decide) rfl rfl (Nat.le_of_ble_eq_true rfl) ?_
        refine eb_Ct.mono w ?_
        rintro r h17 ⟨y18, rfl, ko19, w⟩
        change eb_Sn _ _ _ 46 _ [.int y18] _ _
        refine eb_if_eq (pc := 46) (tgt := 52) rfl (by decide) (fun c20 => ?_) (fun c20 => ?_)
        · replace w := w.1 c20
          refine eb_aload_n (pc := 52) (n := 0) (i := 0) rfl rfl rfl ?_
          refine eb_getR (pc := 53) rfl rfl (by decide) (by decide) rfl (ko_s_EB_7 ko19) ?_
          refine eb_aload_n (pc := 56) (n := 0) (i := 0) rfl rfl rfl ?_
          obtain ⟨r21, q22, k23, w⟩ := w
          refine eb_getR (pc := 57) rfl rfl (by decide) (by decide) rfl q22 ?_
          refine eb_aload_n (pc := 60) (n := 0) (i := 0) rfl rfl rfl ?_
          refine eb_getR (pc := 61) rfl rfl (by decide) (by decide) rfl (ko_s_EB_3 ko19) ?_
          refine eb_ctV (pc := 64) (As := [.ref r21, .ref s_now]) (rest := []) rfl (by decide) rfl rfl (by decide) rfl (Nat.le_of_ble_eq_true rfl) ?_
          refine eb_Ct.mono w ?_
          rintro r h24 ⟨rfl, ko26, w⟩
          change eb_Sn _ _ _ 67 _ [] _ _
          refine eb_aload_n (pc := 67) (n := 0) (i := 0) rfl rfl rfl ?_
          refine eb_getR (pc := 68) rfl rfl (by decide) (by decide) rfl (ko_s_EB_7 ko26) ?_
          refine eb_iload_n (pc := 71) (n := 2) (i := 2) rfl rfl rfl ?_
          refine eb_iload_n (pc := 72) (n := 3) (i := 3) rfl rfl rfl ?_
          refine eb_iload (pc := 73) (i := 4) rfl rfl ?_
          refine eb_ctV (pc := 75) (As := [.int x2, .int x3, .int x4]) (rest := []) rfl (by decide) rfl rfl (by decide) rfl (Nat.le_of_ble_eq_true rfl) ?_
          refine eb_Ct.mono w ?_
          rintro r h27 ⟨y28, rfl, ko29, w⟩
          change eb_Sn _ _ _ 78 _ [.int y28] _ _
          refine eb_istore (pc := 78) (i := 6) (ls2 := [(6, .int y28), (5, .ref r13), (0, .ref s_EB), (1, .int x1), (2, .int x2), (3, .int x3), (4, .int x4)]) (Nat.le_of_ble_eq_true rfl) rfl rfl ?_
          refine eb_iload (pc := 80) (i := 6) rfl rfl ?_
          refine eb_iconst (pc := 82) (n := -1) (v := (-1)) rfl rfl ?_
          refine eb_icmp_ne (pc := 83) (tgt := 89) rfl (by decide) (fun c30 => ?_) (fun c30 => ?_)
          · replace w := w.1 c30
            refine eb_iload (pc := 89) (i := 6) rfl rfl ?_
            refine eb_aload (pc := 91) (i := 5) rfl rfl ?_
            refine eb_getI (pc := 93) rfl k15 (by decide) (by decide) rfl ?_
            refine eb_ctS (pc := 96) (As := [.int y28, .int (eb_I h27 r13 3)]) (rest := []) rfl (by decide) (by decide) rfl rfl (Nat.le_of_ble_eq_true rfl) ?_
            refine eb_Ct.mono w ?_
            rintro r h31 ⟨y32, rfl, ko33, w⟩
            change eb_Sn _ _ _ 99 _ [.int y32] _ _
            refine eb_istore (pc := 99) (i := 7) (ls2 := [(7, .int y32), (6, .int y28), (5, .ref r13), (0, .ref s_EB), (1, .int x1), (2, .int x2), (3, .int x3), (4, .int x4)]) (Nat.le_of_ble_eq_true rfl) rfl rfl ?_
            refine eb_iconst (pc := 101) (n := 0) (v := 0) rfl rfl ?_
            refine eb_istore (pc := 102) (i := 8) (ls2 := [(8, .int 0), (7, .int y32), (6, .int y28), (5, .ref r13), (0, .ref s_EB), (1, .int x1), (2, .int x2), (3, .int x3), (4, .int x4)]) (Nat.le_of_ble_eq_true rfl) rfl rfl ?_
            exact eb_pick [4, 3, 1, 0] rfl w
          · replace w := w.2 c30
            refine eb_bipush (pc := 86) (n := -5) (v := (-5)) rfl rfl ?_
            exact eb_ireturn (pc := 88) rfl rfl rfl w
        · replace w := w.2 c20
          refine eb_bipush (pc := 49) (n := -3) (v := (-3)) rfl rfl ?_
          exact eb_ireturn (pc := 51) rfl rfl rfl w
      · replace w := w.2 c16
        refine eb_bipush (pc := 37) (n := -6) (v := (-6)) rfl rfl ?_
        exact eb_ireturn (pc := 39) rfl rfl rfl w
    · replace w := w.2 c11
      refine eb_bipush (pc := 18) (n := -2) (v := (-2)) rfl rfl ?_
      exact eb_ireturn (pc := 20) rfl rfl rfl w
theorem b_X10_lists_104 {d : Nat} {h0 h : eb_H} {Q : Option Value → eb_H → Prop} (a5 : Nat) (x7 : Int32) (x8 : Int32) (ka5 : eb_kd a5 = 8) (ko : eb_KO h) (w : ((x7 ≤ x8 → Q (some (.int x7)) h) ∧ (¬ (x7 ≤ x8) → eb_Ct d 15 [.ref s_flights, .int x8] h (fun r h2 => ∃ y3, r = some (.int y3) ∧ eb_KO h2 ∧ eb_Ct d 77 [.ref a5, .int x8, .long y3.toInt64] h2 (fun r h5 => r = none ∧ eb_KO h5 ∧ eb_Sn (d + 1) m_X10_lists h0 104 [(0, .ref s_EB), (5, .ref a5), (7, .int x7), (8, .int (x8 + 1))] [] h5 Q))))) : eb_Sn (d + 1) m_X10_lists h0 104 [(0, .ref s_EB), (5, .ref a5), (7, .int x7), (8, .int x8)] [] h Q := by
  refine eb_iload (pc := 104) (i := 8) rfl rfl ?_
  refine eb_iload (pc := 106) (i := 7) rfl rfl ?_
  refine eb_icmp_ge (pc := 108) (tgt := 134) rfl (by decide) (fun c1 => ?_) (fun c1 => ?_)
  · replace w := w.1 c1
    refine eb_iload (pc := 134) (i := 7) rfl rfl ?_
    exact eb_ireturn (pc := 136) rfl rfl rfl w
  · replace w := w.2 c1
    refine eb_aload (pc := 111) (i := 5) rfl rfl ?_
    refine eb_iload (pc := 113) (i := 8) rfl rfl ?_
    refine eb_aload_n (pc := 115) (n := 0) (i := 0) rfl rfl rfl ?_
    refine eb_getR (pc := 116) rfl rfl (by decide) (by decide) rfl (ko_s_EB_7 ko) ?_
    refine eb_iload (pc := 119) (i := 8) rfl rfl ?_
    refine eb_ctV (pc := 121) (As := [.int x8]) (rest := [.int x8, .ref a5]) rfl (by decide) rfl rfl (by decide) rfl (Nat.le_of_ble_eq_true rfl) ?_
    refine eb_Ct.mono w ?_
    rintro r h2 ⟨y3, rfl, ko4, w⟩
    change eb_Sn _ _ _ 124 _ [.int y3, .int x8, .ref a5] _ _
    refine eb_i2l (pc := 124) rfl ?_
    refine eb_ctV (pc := 125) (As := [.int x8, .long y3.toInt64]) (rest := []) rfl (by decide) rfl ka5 (by decide) rfl (Nat.le_of_ble_eq_true rfl) ?_
    refine eb_Ct.mono w ?_
    rintro r h5 ⟨rfl, ko7, w⟩
    change eb_Sn _ _ _ 128 _ [] _ _
    refine eb_iinc (pc := 128) (i := 8) (n := 1) (v := x8 + 1) (ls2 := [(8, .int (x8 + 1)), (0, .ref s_EB), (5, .ref a5), (7, .int x7)]) (Nat.le_of_ble_eq_true rfl) rfl rfl rfl rfl ?_
    refine eb_goto (pc := 131) (tgt := 104) rfl (by decide) ?_
    exact eb_pick [1, 2, 3, 0] rfl w
theorem T_X10_lists {d : Nat} {h : eb_H} {Q : Option Value → eb_H → Prop} (x1 : Int32) (x2 : Int32) (x3 : Int32) (x4 : Int32)  (ko : eb_KO h) (w : eb_Ct d 142 [.int x1] h (fun r h1 => ∃ y2, r = some (.int y2) ∧ eb_KO h1 ∧ ((¬ y2 = 0 → Q (some (.int (-2))) h1) ∧ (y2 = 0 → ∃ r5, eb_R h1 s_EB 2 = some r5 ∧ eb_kd r5 = 9 ∧ eb_Ct d 80 [.ref r5, .int x2] h1 (fun r h8 => ∃ y9, r = some (.int y9) ∧ eb_KO h8 ∧ ((¬ y9 = 0 → (vp_in x1 4) ∧ ∃ r13, eb_R h8 s_trays x1.toNatClampNeg = some r13 ∧ (eb_kd r13 = 8) ∧ (((eb_I h8 r13 2) = 0 → eb_Ct d 144 [.int x3, .int x4] h8 (fun r h17 => ∃ y18, r = some (.int y18) ∧ eb_KO h17 ∧ ((y18 = 0 → ∃ r21, eb_R h17 s_EB 2 = some r21 ∧ eb_kd r21 = 9 ∧ eb_Ct d 8 [.ref s_flights, .ref r21, .ref s_now] h17 (fun r h24 => r = none ∧ eb_KO h24 ∧ eb_Ct d 12 [.ref s_flights, .int x2, .int x3, .int x4] h24 (fun r h27 => ∃ y28, r = some (.int y28) ∧ eb_KO h27 ∧ ((¬ y28 = ((-1) : Int32) → eb_Ct d 287 [.int y28, .int (eb_I h27 r13 3)] h27 (fun r h31 => ∃ y32, r = some (.int y32) ∧ eb_KO h31 ∧ eb_Sn (d + 1) m_X10_lists h 104 [(0, .ref s_EB), (5, .ref r13), (7, .int y32), (8, .int 0)] [] h31 Q)) ∧ (y28 = ((-1) : Int32) → Q (some (.int (-5))) h27))))) ∧ (¬ (y18 = 0) → Q (some (.int (-3))) h17)))) ∧ (¬ ((eb_I h8 r13 2) = 0) → Q (some (.int (-6))) h8))) ∧ (y9 = 0 → Q (some (.int (-2))) h8))))))) : eb_Ct (d + 1) 135 [.ref s_EB, .int x1, .int x2, .int x3, .int x4] h Q :=
  eb_bodyQ (by decide) ok_X10_lists (Nat.le_of_ble_eq_true rfl) (b_X10_lists_0 (h0 := h) x1 x2 x3 x4  ko w)
theorem b_X10_image_0 {d : Nat} {h0 h : eb_H} {Q : Option Value → eb_H → Prop} (x1 : Int32)  (ko : eb_KO h) (w : ((x1 < 0 → Q (some (.int (-2))) h) ∧ (¬ (x1 < 0) → ((x1 < (2 : Int32) → ∃ r3, eb_R h s_EB 2 = some r3 ∧ eb_kd r3 = 9 ∧ (vp_in x1 2) ∧ (vp_in x1 2) ∧ ∃ r8, eb_R (eb_sR h s_imageValleys x1.toNatClampNeg (some r3)) s_imageStates x1.toNatClampNeg = some r8 ∧ (eb_kd r8 = 6) ∧ eb_Ct d 60 [.ref r8, .ref s_now] (eb_sR h s_imageValleys x1.toNatClampNeg (some r3)) (fun r h11 => r = none ∧ eb_KO h11 ∧ Q (some (.int 0)) h11)) ∧ (¬ (x1 < (2 : Int32)) → Q (some (.int (-2))) h))))) : eb_Sn (d + 1) m_X10_image h0 0 [(0, .ref s_EB), (1, .int x1)] [] h Q := by
  refine eb_iload_n (pc := 0) (n := 1) (i := 1) rfl rfl rfl ?_
  refine eb_if_lt (pc := 1) (tgt := 9) rfl (by decide) (fun c1 => ?_) (fun c1 => ?_)
  · replace w := w.1 c1
    refine eb_bipush (pc := 9) (n := -2) (v := (-2)) rfl rfl ?_
    exact eb_ireturn (pc := 11) rfl rfl rfl w
  · replace w := w.2 c1
    refine eb_iload_n (pc := 4) (n := 1) (i := 1) rfl rfl rfl ?_
    refine eb_iconst (pc := 5) (n := 2) (v := 2) rfl rfl ?_
    refine eb_icmp_lt (pc := 6) (tgt := 12) rfl (by decide) (fun c2 => ?_) (fun c2 => ?_)
    · replace w := w.1 c2
      refine eb_aload_n (pc := 12) (n := 0) (i := 0) rfl rfl rfl ?_
      refine eb_getR (pc := 13) rfl rfl (by decide) (by decide) rfl (ko_s_EB_10 ko) ?_
      refine eb_iload_n (pc := 16) (n := 1) (i := 1) rfl rfl rfl ?_
      refine eb_aload_n (pc := 17) (n := 0) (i := 0) rfl rfl rfl ?_
      obtain ⟨r3, q4, k5, w⟩ := w
      refine eb_getR (pc := 18) rfl rfl (by decide) (by decide) rfl q4 ?_
      obtain ⟨c6, w⟩ := w
      refine eb_aastore (pc := 21) rfl rfl (by decide) (by decide) c6 k5 ?_
      refine eb_aload_n (pc := 22) (n := 0) (i := 0) rfl rfl rfl ?_
      refine eb_getR (pc := 23) rfl rfl (by decide) (by decide) rfl (ko_s_EB_11 (ko_sRi (by decide +kernel) ko)) ?_
      refine eb_iload_n (pc := 26) (n := 1) (i := 1) rfl rfl rfl ?_
      obtain ⟨c7, w⟩ := w
      obtain ⟨r8, q9, w⟩ := w
      refine eb_aaloadR (pc := 27) rfl rfl (by decide) (by decide) c7 q9 ?_
      refine eb_aload_n (pc := 28) (n := 0) (i := 0) rfl rfl rfl ?_
      refine eb_getR (pc := 29) rfl rfl (by decide) (by decide) rfl (ko_s_EB_3 (ko_sRi (by decide +kernel) ko)) ?_
      obtain ⟨k10, w⟩ := w
      refine eb_ctV (pc := 32) (As := [.ref s_now]) (rest := []) rfl (by decide) rfl k10 (by decide) rfl (Nat.le_of_ble_eq_true rfl) ?_
      refine eb_Ct.mono w ?_
      rintro r h11 ⟨rfl, ko13, w⟩
      change eb_Sn _ _ _ 35 _ [] _ _
      refine eb_iconst (pc := 35) (n := 0) (v := 0) rfl rfl ?_
      exact eb_ireturn (pc := 36) rfl rfl rfl w
    · replace w := w.2 c2
      refine eb_bipush (pc := 9) (n := -2) (v := (-2)) rfl rfl ?_
      exact eb_ireturn (pc := 11) rfl rfl rfl w
theorem T_X10_image {d : Nat} {h : eb_H} {Q : Option Value → eb_H → Prop} (x1 : Int32)  (ko : eb_KO h) (w : ((x1 < 0 → Q (some (.int (-2))) h) ∧ (¬ (x1 < 0) → ((x1 < (2 : Int32) → ∃ r3, eb_R h s_EB 2 = some r3 ∧ eb_kd r3 = 9 ∧ (vp_in x1 2) ∧ (vp_in x1 2) ∧ ∃ r8, eb_R (eb_sR h s_imageValleys x1.toNatClampNeg (some r3)) s_imageStates x1.toNatClampNeg = some r8 ∧ (eb_kd r8 = 6) ∧ eb_Ct d 60 [.ref r8, .ref s_now] (eb_sR h s_imageValleys x1.toNatClampNeg (some r3)) (fun r h11 => r = none ∧ eb_KO h11 ∧ Q (some (.int 0)) h11)) ∧ (¬ (x1 < (2 : Int32)) → Q (some (.int (-2))) h))))) : eb_Ct (d + 1) 136 [.ref s_EB, .int x1] h Q :=
  eb_bodyQ (by decide) ok_X10_image (Nat.le_of_ble_eq_true rfl) (b_X10_image_0 (h0 := h) x1  ko w)
theorem b_X10_restore_0 {d : Nat} {h0 h : eb_H} {Q : Option Value → eb_H → Prop} (x1 : Int32)  (ko : eb_KO h) (w : ((x1 < 0 → Q (some (.int (-2))) h) ∧ (¬ (x1 < 0) → ((x1 < (2 : Int32) → (vp_in x1 2) ∧ ((eb_R h s_imageValleys x1.toNatClampNeg = none → Q (some (.int (-5))) h) ∧ (∀ r5, eb_R h s_imageValleys x1.toNatClampNeg = some r5 → (vp_in x1 2) ∧ (eb_kd r5 = 9) ∧ (vp_in x1 2) ∧ ∃ r9, eb_R (eb_sR h s_EB 2 (some r5)) s_imageStates x1.toNatClampNeg = some r9 ∧ eb_Ct d 60 [.ref s_now, .ref r9] (eb_sR h s_EB 2 (some r5)) (fun r h11 => r = none ∧ eb_KO h11 ∧ eb_Ct d 44 [.ref s_past] h11 (fun r h14 => r = none ∧ eb_KO h14 ∧ Q (some (.int 0)) h14))))) ∧ (¬ (x1 < (2 : Int32)) → Q (some (.int (-2))) h))))) : eb_Sn (d + 1) m_X10_restore h0 0 [(0, .ref s_EB), (1, .int x1)] [] h Q := by
  refine eb_iload_n (pc := 0) (n := 1) (i := 1) rfl rfl rfl ?_
  refine eb_if_lt (pc := 1) (tgt := 9) rfl (by decide) (fun c1 => ?_) (fun c1 => ?_)
  · replace w := w.1 c1
    refine eb_bipush (pc := 9) (n := -2) (v := (-2)) rfl rfl ?_
    exact eb_ireturn (pc := 11) rfl rfl rfl w
  · replace w := w.2 c1
    refine eb_iload_n (pc := 4) (n := 1) (i := 1) rfl rfl rfl ?_
    refine eb_iconst (pc := 5) (n := 2) (v := 2) rfl rfl ?_
    refine eb_icmp_lt (pc := 6) (tgt := 12) rfl (by decide) (fun c2 => ?_) (fun c2 => ?_)
    · replace w := w.1 c2
      refine eb_aload_n (pc := 12) (n := 0) (i := 0) rfl rfl rfl ?_
      refine eb_getR (pc := 13) rfl rfl (by decide) (by decide) rfl (ko_s_EB_10 ko) ?_
      refine eb_iload_n (pc := 16) (n := 1) (i := 1) rfl rfl rfl ?_
      obtain ⟨c3, w⟩ := w
      rcases q4 : eb_R h s_imageValleys x1.toNatClampNeg with _ | r5
      · replace w := w.1 q4
        refine eb_aaloadN (pc := 17) rfl rfl (by decide) (by decide) c3 q4 ?_
        refine eb_ifnonnull_n (pc := 18) rfl ?_
        refine eb_bipush (pc := 21) (n := -5) (v := (-5)) rfl rfl ?_
        exact eb_ireturn (pc := 23) rfl rfl rfl w
      · replace w := w.2 r5 q4
        refine eb_aaloadR (pc := 17) rfl rfl (by decide) (by decide) c3 q4 ?_
        refine eb_ifnonnull_r (pc := 18) (tgt := 24) (by decide) rfl ?_
        refine eb_aload_n (pc := 24) (n := 0) (i := 0) rfl rfl rfl ?_
        refine eb_aload_n (pc := 25) (n := 0) (i := 0) rfl rfl rfl ?_
        refine eb_getR (pc := 26) rfl rfl (by decide) (by decide) rfl (ko_s_EB_10 ko) ?_
        refine eb_iload_n (pc := 29) (n := 1) (i := 1) rfl rfl rfl ?_
        obtain ⟨c6, w⟩ := w
        refine eb_aaloadR (pc := 30) rfl rfl (by decide) (by decide) c6 q4 ?_
        obtain ⟨k7, w⟩ := w
        refine eb_putR (pc := 31) rfl rfl (by decide) (by decide) rfl (Or.inl rfl) (eb_k20 (c := 9) k7 (by decide)) ?_
        refine eb_aload_n (pc := 34) (n := 0) (i := 0) rfl rfl rfl ?_
        refine eb_getR (pc := 35) rfl rfl (by decide) (by decide) rfl (ko_s_EB_3 (ko_sR (by decide +kernel) ko)) ?_
        refine eb_aload_n (pc := 38) (n := 0) (i := 0) rfl rfl rfl ?_
        refine eb_getR (pc := 39) rfl rfl (by decide) (by decide) rfl (ko_s_EB_11 (ko_sR (by decide +kernel) ko)) ?_
        refine eb_iload_n (pc := 42) (n := 1) (i := 1) rfl rfl rfl ?_
        obtain ⟨c8, w⟩ := w
        obtain ⟨r9, q10, w⟩ := w
        refine eb_aaloadR (pc := 43) rfl rfl (by decide) (by decide) c8 q10 ?_
        refine eb_ctV (pc := 44) (As := [.ref r9]) (rest := []) rfl (by decide) rfl rfl (by decide) rfl (Nat.le_of_ble_eq_true rfl) ?_
        refine eb_Ct.mono w ?_
        rintro r h11 ⟨rfl, ko13, w⟩
        change eb_Sn _ _ _ 47 _ [] _ _
        refine eb_aload_n (pc := 47) (n := 0) (i := 0) rfl rfl rfl ?_
        refine eb_getR (pc := 48) rfl rfl (by decide) (by decide) rfl (ko_s_EB_6 ko13) ?_
        refine eb_ctV (pc := 51) (As := []) (rest := []) rfl (by decide) rfl rfl (by decide) rfl (Nat.le_of_ble_eq_true rfl) ?_
        refine eb_Ct.mono w ?_
        rintro r h14 ⟨rfl, ko16, w⟩
        change eb_Sn _ _ _ 54 _ [] _ _
        refine eb_iconst (pc := 54) (n := 0) (v := 0) rfl rfl ?_
        exact eb_ireturn (pc := 55) rfl rfl rfl w
    · replace w := w.2 c2
      refine eb_bipush (pc := 9) (n := -2) (v := (-2)) rfl rfl ?_
      exact eb_ireturn (pc := 11) rfl rfl rfl w
theorem T_X10_restore {d : Nat} {h : eb_H} {Q : Option Value → eb_H → Prop} (x1 : Int32)  (ko : eb_KO h) (w : ((x1 < 0 → Q (some (.int (-2))) h) ∧ (¬ (x1 < 0) → ((x1 < (2 : Int32) → (vp_in x1 2) ∧ ((eb_R h s_imageValleys x1.toNatClampNeg = none → Q (some (.int (-5))) h) ∧ (∀ r5, eb_R h s_imageValleys x1.toNatClampNeg = some r5 → (vp_in x1 2) ∧ (eb_kd r5 = 9) ∧ (vp_in x1 2) ∧ ∃ r9, eb_R (eb_sR h s_EB 2 (some r5)) s_imageStates x1.toNatClampNeg = some r9 ∧ eb_Ct d 60 [.ref s_now, .ref r9] (eb_sR h s_EB 2 (some r5)) (fun r h11 => r = none ∧ eb_KO h11 ∧ eb_Ct d 44 [.ref s_past] h11 (fun r h14 => r = none ∧ eb_KO h14 ∧ Q (some (.int 0)) h14))))) ∧ (¬ (x1 < (2 : Int32)) → Q (some (.int (-2))) h))))) : eb_Ct (d + 1) 137 [.ref s_EB, .int x1] h Q :=
  eb_bodyQ (by decide) ok_X10_restore (Nat.le_of_ble_eq_true rfl) (b_X10_restore_0 (h0 := h) x1  ko w)
theorem b_X10_count_0 {d : Nat} {h0 h : eb_H} {Q : Option Value → eb_H → Prop} (x1 : Int32)  (ko : eb_KO h) (w : ((x1 = 0 → ∃ r1, eb_R h s_EB 2 = some r1 ∧ eb_kd r1 = 9 ∧ Q (some (.int (eb_I h r1 0))) h) ∧ (x1 = 1 → ∃ r4, eb_R h s_EB 2 = some r4 ∧ eb_kd r4 = 9 ∧ Q (some (.int (eb_I h r4 1))) h) ∧ (x1 = 2 → ∃ r7, eb_R h s_EB 2 = some r7 ∧ eb_kd r7 = 9 ∧ Q (some (.int (eb_I h r7 2))) h) ∧ (x1 = 3 → Q (some (.int (eb_I h s_now 0))) h) ∧ (x1 = 4 → Q (some (.int (eb_I h s_now 1))) h) ∧ (x1 = 5 → Q (some (.int (eb_I h s_now 3))) h) ∧ (x1 = 6 → Q (some (.int (eb_I h s_now 4))) h) ∧ (x1 = 7 → ∃ r10, eb_R h s_EB 2 = some r10 ∧ eb_kd r10 = 9 ∧ Q (some (.int (eb_I h r10 4))) h) ∧ (x1 = 8 → Q (some (.int (eb_I h s_now 2))) h) ∧ (x1 = 9 → Q (some (.int (eb_I h s_past 2))) h) ∧ (x1 = 10 → Q (some (.int (eb_I h s_tape 1))) h) ∧ (x1 = 11 → ∃ r13, eb_R h s_EB 2 = some r13 ∧ eb_kd r13 = 9 ∧ Q (some (.int (eb_I h r13 3))) h) ∧ (¬ x1 = 0 → ¬ x1 = 1 → ¬ x1 = 2 → ¬ x1 = 3 → ¬ x1 = 4 → ¬ x1 = 5 → ¬ x1 = 6 → ¬ x1 = 7 → ¬ x1 = 8 → ¬ x1 = 9 → ¬ x1 = 10 → ¬ x1 = 11 → Q (some (.int (-1))) h))) : eb_Sn d m_X10_count h0 0 [(0, .ref s_EB), (1, .int x1)] [] h Q := by
  refine eb_iload_n (pc := 0) (n := 1) (i := 1) rfl rfl rfl ?_
  by_cases s0 : x1 = 0
  · refine eb_tableIn (pc := 1) (j := 0) (tgt := 64) (by rw [s0]; decide) (by decide) (by rfl) (by decide) rfl ?_
    replace w := w.1 s0
    refine eb_aload_n (pc := 64) (n := 0) (i := 0) rfl rfl rfl ?_
    obtain ⟨r1, q2, k3, w⟩ := w
    refine eb_getR (pc := 65) rfl rfl (by decide) (by decide) rfl q2 ?_
    refine eb_getI (pc := 68) rfl k3 (by decide) (by decide) rfl ?_
    exact eb_ireturn (pc := 71) rfl rfl rfl w
  by_cases s1 : x1 = 1
  · refine eb_tableIn (pc := 1) (j := 1) (tgt := 72) (by rw [s1]; decide) (by decide) (by rfl) (by decide) rfl ?_
    replace w := w.2.1 s1
    refine eb_aload_n (pc := 72) (n := 0) (i := 0) rfl rfl rfl ?_
    obtain ⟨r4, q5, k6, w⟩ := w
    refine eb_getR (pc := 73) rfl rfl (by decide) (by decide) rfl q5 ?_
    refine eb_getI (pc := 76) rfl k6 (by decide) (by decide) rfl ?_
    exact eb_ireturn (pc := 79) rfl rfl rfl w
  by_cases s2 : x1 = 2
  · refine eb_tableIn (pc := 1) (j := 2) (tgt := 80) (by rw [s2]; decide) (by decide) (by rfl) (by decide) rfl ?_
    replace w := w.2.2.1 s2
    refine eb_aload_n (pc := 80) (n := 0) (i := 0) rfl rfl rfl ?_
    obtain ⟨r7, q8, k9, w⟩ := w
    refine eb_getR (pc := 81) rfl rfl (by decide) (by decide) rfl q8 ?_
    refine eb_getI (pc := 84) rfl k9 (by decide) (by decide) rfl ?_
    exact eb_ireturn (pc := 87) rfl rfl rfl w
  by_cases s3 : x1 = 3
  · refine eb_tableIn (pc := 1) (j := 3) (tgt := 88) (by rw [s3]; decide) (by decide) (by rfl) (by decide) rfl ?_
    replace w := w.2.2.2.1 s3
    refine eb_aload_n (pc := 88) (n := 0) (i := 0) rfl rfl rfl ?_
    refine eb_getR (pc := 89) rfl rfl (by decide) (by decide) rfl (ko_s_EB_3 ko) ?_
    refine eb_getI (pc := 92) rfl rfl (by decide) (by decide) rfl ?_
    exact eb_ireturn (pc := 95) rfl rfl rfl w
  by_cases s4 : x1 = 4
  · refine eb_tableIn (pc := 1) (j := 4) (tgt := 96) (by rw [s4]; decide) (by decide) (by rfl) (by decide) rfl ?_
    replace w := w.2.2.2.2.1 s4
    refine eb_aload_n (pc := 96) (n := 0) (i := 0) rfl rfl rfl ?_
    refine eb_getR (pc := 97) rfl rfl (by decide) (by decide) rfl (ko_s_EB_3 ko) ?_
    refine eb_getI (pc := 100) rfl rfl (by decide) (by decide) rfl ?_
    exact eb_ireturn (pc := 103) rfl rfl rfl w
  by_cases s5 : x1 = 5
  · refine eb_tableIn (pc := 1) (j := 5) (tgt := 104) (by rw [s5]; decide) (by decide) (by rfl) (by decide) rfl ?_
    replace w := w.2.2.2.2.2.1 s5
    refine eb_aload_n (pc := 104) (n := 0) (i := 0) rfl rfl rfl ?_
    refine eb_getR (pc := 105) rfl rfl (by decide) (by decide) rfl (ko_s_EB_3 ko) ?_
    refine eb_getI (pc := 108) rfl rfl (by decide) (by decide) rfl ?_
    exact eb_ireturn (pc := 111) rfl rfl rfl w
  by_cases s6 : x1 = 6
  · refine eb_tableIn (pc := 1) (j := 6) (tgt := 112) (by rw [s6]; decide) (by decide) (by rfl) (by decide) rfl ?_
    replace w := w.2.2.2.2.2.2.1 s6
    refine eb_aload_n (pc := 112) (n := 0) (i := 0) rfl rfl rfl ?_
    refine eb_getR (pc := 113) rfl rfl (by decide) (by decide) rfl (ko_s_EB_3 ko) ?_
    refine eb_getI (pc := 116) rfl rfl (by decide) (by decide) rfl ?_
    exact eb_ireturn (pc := 119) rfl rfl rfl w
  by_cases s7 : x1 = 7
  · refine eb_tableIn (pc := 1) (j := 7) (tgt := 120) (by rw [s7]; decide) (by decide) (by rfl) (by decide) rfl ?_
    replace w := w.2.2.2.2.2.2.2.1 s7
    refine eb_aload_n (pc := 120) (n := 0) (i := 0) rfl rfl rfl ?_
    obtain ⟨r10, q11, k12, w⟩ := w
    refine eb_getR (pc := 121) rfl rfl (by decide) (by decide) rfl q11 ?_
    refine eb_getI (pc := 124) rfl k12 (by decide) (by decide) rfl ?_
    exact eb_ireturn (pc := 127) rfl rfl rfl w
  by_cases s8 : x1 = 8
  · refine eb_tableIn (pc := 1) (j := 8) (tgt := 128) (by rw [s8]; decide) (by decide) (by rfl) (by decide) rfl ?_
    replace w := w.2.2.2.2.2.2.2.2.1 s8
    refine eb_aload_n (pc := 128) (n := 0) (i := 0) rfl rfl rfl ?_
    refine eb_getR (pc := 129) rfl rfl (by decide) (by decide) rfl (ko_s_EB_3 ko) ?_
    refine eb_getI (pc := 132) rfl rfl (by decide) (by decide) rfl ?_
    exact eb_ireturn (pc := 135) rfl rfl rfl w
  by_cases s9 : x1 = 9
  · refine eb_tableIn (pc := 1) (j := 9) (tgt := 136) (by rw [s9]; decide) (by decide) (by rfl) (by decide) rfl ?_
    replace w := w.2.2.2.2.2.2.2.2.2.1 s9
    refine eb_aload_n (pc := 136) (n := 0) (i := 0) rfl rfl rfl ?_
    refine eb_getR (pc := 137) rfl rfl (by decide) (by decide) rfl (ko_s_EB_6 ko) ?_
    refine eb_getI (pc := 140) rfl rfl (by decide) (by decide) rfl ?_
    exact eb_ireturn (pc := 143) rfl rfl rfl w
  by_cases s10 : x1 = 10
  · refine eb_tableIn (pc := 1) (j := 10) (tgt := 144) (by rw [s10]; decide) (by decide) (by rfl) (by decide) rfl ?_
    replace w := w.2.2.2.2.2.2.2.2.2.2.1 s10
    refine eb_aload_n (pc := 144) (n := 0) (i := 0) rfl rfl rfl ?_
    refine eb_getR (pc := 145) rfl rfl (by decide) (by decide) rfl (ko_s_EB_1 ko) ?_
    refine eb_getI (pc := 148) rfl rfl (by decide) (by decide) rfl ?_
    exact eb_ireturn (pc := 151) rfl rfl rfl w
  by_cases s11 : x1 = 11
  · refine eb_tableIn (pc := 1) (j := 11) (tgt := 152) (by rw [s11]; decide) (by decide) (by rfl) (by decide) rfl ?_
    replace w := w.2.2.2.2.2.2.2.2.2.2.2.1 s11
    refine eb_aload_n (pc := 152) (n := 0) (i := 0) rfl rfl rfl ?_
    obtain ⟨r13, q14, k15, w⟩ := w
    refine eb_getR (pc := 153) rfl rfl (by decide) (by decide) rfl q14 ?_
    refine eb_getI (pc := 156) rfl k15 (by decide) (by decide) rfl ?_
    exact eb_ireturn (pc := 159) rfl rfl rfl w
  refine eb_tableOut (pc := 1) (tgt := 160) (by have z0 := lv_neT (a := 0) s0 (by decide); have z1 := lv_neT (a := 1) s1 (by decide); have z2 := lv_neT (a := 2) s2 (by decide); have z3 := lv_neT (a := 3) s3 (by decide); have z4 := lv_neT (a := 4) s4 (by decide); have z5 := lv_neT (a := 5) s5 (by decide); have z6 := lv_neT (a := 6) s6 (by decide); have z7 := lv_neT (a := 7) s7 (by decide); have z8 := lv_neT (a := 8) s8 (by decide); have z9 := lv_neT (a := 9) s9 (by decide); have z10 := lv_neT (a := 10) s10 (by decide); have z11 := lv_neT (a := 11) s11 (by decide); omega) (by decide) rfl ?_
  replace w := w.2.2.2.2.2.2.2.2.2.2.2.2 s0 s1 s2 s3 s4 s5 s6 s7 s8 s9 s10 s11
  refine eb_iconst (pc := 160) (n := -1) (v := (-1)) rfl rfl ?_
  exact eb_ireturn (pc := 161) rfl rfl rfl w
theorem T_X10_count {d : Nat} {h : eb_H} {Q : Option Value → eb_H → Prop} (x1 : Int32)  (ko : eb_KO h) (w : ((x1 = 0 → ∃ r1, eb_R h s_EB 2 = some r1 ∧ eb_kd r1 = 9 ∧ Q (some (.int (eb_I h r1 0))) h) ∧ (x1 = 1 → ∃ r4, eb_R h s_EB 2 = some r4 ∧ eb_kd r4 = 9 ∧ Q (some (.int (eb_I h r4 1))) h) ∧ (x1 = 2 → ∃ r7, eb_R h s_EB 2 = some r7 ∧ eb_kd r7 = 9 ∧ Q (some (.int (eb_I h r7 2))) h) ∧ (x1 = 3 → Q (some (.int (eb_I h s_now 0))) h) ∧ (x1 = 4 → Q (some (.int (eb_I h s_now 1))) h) ∧ (x1 = 5 → Q (some (.int (eb_I h s_now 3))) h) ∧ (x1 = 6 → Q (some (.int (eb_I h s_now 4))) h) ∧ (x1 = 7 → ∃ r10, eb_R h s_EB 2 = some r10 ∧ eb_kd r10 = 9 ∧ Q (some (.int (eb_I h r10 4))) h) ∧ (x1 = 8 → Q (some (.int (eb_I h s_now 2))) h) ∧ (x1 = 9 → Q (some (.int (eb_I h s_past 2))) h) ∧ (x1 = 10 → Q (some (.int (eb_I h s_tape 1))) h) ∧ (x1 = 11 → ∃ r13, eb_R h s_EB 2 = some r13 ∧ eb_kd r13 = 9 ∧ Q (some (.int (eb_I h r13 3))) h) ∧ (¬ x1 = 0 → ¬ x1 = 1 → ¬ x1 = 2 → ¬ x1 = 3 → ¬ x1 = 4 → ¬ x1 = 5 → ¬ x1 = 6 → ¬ x1 = 7 → ¬ x1 = 8 → ¬ x1 = 9 → ¬ x1 = 10 → ¬ x1 = 11 → Q (some (.int (-1))) h))) : eb_Ct d 138 [.ref s_EB, .int x1] h Q :=
  eb_bodyQ (by decide) ok_X10_count (Nat.le_of_ble_eq_true rfl) (b_X10_count_0 (h0 := h) x1  ko w)
theorem b_X10_doAlone_0 {d : Nat} {h0 h : eb_H} {Q : Option Value → eb_H → Prop} (x1 : Int32)  (ko : eb_KO h) (w : eb_Ct d 60 [.ref s_before, .ref s_now] h (fun r h1 => r = none ∧ eb_KO h1 ∧ ∃ r4, eb_R h1 s_EB 2 = some r4 ∧ eb_kd r4 = 9 ∧ eb_Ct d 91 [.ref r4, .ref s_now, .long x1.toInt64] h1 (fun r h7 => ∃ y8, r = some (.int y8) ∧ eb_KO h7 ∧ ((y8 = 0 → eb_Ct d 42 [.ref s_past, .ref s_before] h7 (fun r h11 => r = none ∧ eb_KO h11 ∧ Q (some (.int 1)) h11)) ∧ (¬ (y8 = 0) → Q (some (.int 0)) h7))))) : eb_Sn (d + 1) m_X10_doAlone h0 0 [(0, .ref s_EB), (1, .int x1)] [] h Q := by
  refine eb_aload_n (pc := 0) (n := 0) (i := 0) rfl rfl rfl ?_
  refine eb_getR (pc := 1) rfl rfl (by decide) (by decide) rfl (ko_s_EB_4 ko) ?_
  refine eb_aload_n (pc := 4) (n := 0) (i := 0) rfl rfl rfl ?_
  refine eb_getR (pc := 5) rfl rfl (by decide) (by decide) rfl (ko_s_EB_3 ko) ?_
  refine eb_ctV (pc := 8) (As := [.ref s_now]) (rest := []) rfl (by decide) rfl rfl (by decide) rfl (Nat.le_of_ble_eq_true rfl) ?_
  refine eb_Ct.mono w ?_
  rintro r h1 ⟨rfl, ko3, w⟩
  change eb_Sn _ _ _ 11 _ [] _ _
  refine eb_aload_n (pc := 11) (n := 0) (i := 0) rfl rfl rfl ?_
  obtain ⟨r4, q5, k6, w⟩ := w
  refine eb_getR (pc := 12) rfl rfl (by decide) (by decide) rfl q5 ?_
  refine eb_aload_n (pc := 15) (n := 0) (i := 0) rfl rfl rfl ?_
  refine eb_getR (pc := 16) rfl rfl (by decide) (by decide) rfl (ko_s_EB_3 ko3) ?_
  refine eb_iload_n (pc := 19) (n := 1) (i := 1) rfl rfl rfl ?_
  refine eb_i2l (pc := 20) rfl ?_
  refine eb_ctV (pc := 21) (As := [.ref s_now, .long x1.toInt64]) (rest := []) rfl (by decide) rfl k6 (by decide) rfl (Nat.le_of_ble_eq_true rfl) ?_
  refine eb_Ct.mono w ?_
  rintro r h7 ⟨y8, rfl, ko9, w⟩
  change eb_Sn _ _ _ 24 _ [.int y8] _ _
  refine eb_if_eq (pc := 24) (tgt := 29) rfl (by decide) (fun c10 => ?_) (fun c10 => ?_)
  · replace w := w.1 c10
    refine eb_aload_n (pc := 29) (n := 0) (i := 0) rfl rfl rfl ?_
    refine eb_getR (pc := 30) rfl rfl (by decide) (by decide) rfl (ko_s_EB_6 ko9) ?_
    refine eb_aload_n (pc := 33) (n := 0) (i := 0) rfl rfl rfl ?_
    refine eb_getR (pc := 34) rfl rfl (by decide) (by decide) rfl (ko_s_EB_4 ko9) ?_
    refine eb_ctV (pc := 37) (As := [.ref s_before]) (rest := []) rfl (by decide) rfl rfl (by decide) rfl (Nat.le_of_ble_eq_true rfl) ?_
    refine eb_Ct.mono w ?_
    rintro r h11 ⟨rfl, ko13, w⟩
    change eb_Sn _ _ _ 40 _ [] _ _
    refine eb_iconst (pc := 40) (n := 1) (v := 1) rfl rfl ?_
    exact eb_ireturn (pc := 41) rfl rfl (by decide) w
  · replace w := w.2 c10
    refine eb_iconst (pc := 27) (n := 0) (v := 0) rfl rfl ?_
    exact eb_ireturn (pc := 28) rfl rfl (by decide) w
theorem T_X10_doAlone {d : Nat} {h : eb_H} {Q : Option Value → eb_H → Prop} (x1 : Int32)  (ko : eb_KO h) (w : eb_Ct d 60 [.ref s_before, .ref s_now] h (fun r h1 => r = none ∧ eb_KO h1 ∧ ∃ r4, eb_R h1 s_EB 2 = some r4 ∧ eb_kd r4 = 9 ∧ eb_Ct d 91 [.ref r4, .ref s_now, .long x1.toInt64] h1 (fun r h7 => ∃ y8, r = some (.int y8) ∧ eb_KO h7 ∧ ((y8 = 0 → eb_Ct d 42 [.ref s_past, .ref s_before] h7 (fun r h11 => r = none ∧ eb_KO h11 ∧ Q (some (.int 1)) h11)) ∧ (¬ (y8 = 0) → Q (some (.int 0)) h7))))) : eb_Ct (d + 1) 139 [.ref s_EB, .int x1] h Q :=
  eb_bodyQ (by decide) ok_X10_doAlone (Nat.le_of_ble_eq_true rfl) (b_X10_doAlone_0 (h0 := h) x1  ko w)
theorem b_X10_doAll_0 {d : Nat} {h0 h : eb_H} {Q : Option Value → eb_H → Prop} (a1 : Nat) (a2 : Nat) (ka1 : eb_kd a1 = 8) (ka2 : eb_kd a2 = 6) (ko : eb_KO h) (w : eb_Sn (d + 1) m_X10_doAll h0 2 [(0, .ref s_EB), (1, .ref a1), (2, .ref a2), (3, .int 0)] [] h Q) : eb_Sn (d + 1) m_X10_doAll h0 0 [(0, .ref s_EB), (1, .ref a1), (2, .ref a2)] [] h Q := by
  refine eb_iconst (pc := 0) (n := 0) (v := 0) rfl rfl ?_
  refine eb_istore_n (pc := 1) (n := 3) (i := 3) (ls2 := [(3, .int 0), (0, .ref s_EB), (1, .ref a1), (2, .ref a2)]) rfl (Nat.le_of_ble_eq_true rfl) rfl rfl ?_
  exact eb_pick [1, 2, 3, 0] rfl w
theorem b_X10_doAll_2 {d : Nat} {h0 h : eb_H} {Q : Option Value → eb_H → Prop} (a1 : Nat) (a2 : Nat) (x3 : Int32) (ka1 : eb_kd a1 = 8) (ka2 : eb_kd a2 = 6) (ko : eb_KO h) (w : (((eb_I h a1 3) ≤ x3 → Q (some (.int (eb_I h a1 3))) h) ∧ (¬ ((eb_I h a1 3) ≤ x3) → ∃ r2, eb_R h s_EB 2 = some r2 ∧ eb_kd r2 = 9 ∧ eb_Ct d 76 [.ref a1, .int x3] h (fun r h5 => ∃ y6, r = some (.long y6) ∧ eb_KO h5 ∧ eb_Ct d 91 [.ref r2, .ref a2, .long y6] h5 (fun r h8 => ∃ y9, r = some (.int y9) ∧ eb_KO h8 ∧ ((y9 = 0 → eb_Sn (d + 1) m_X10_doAll h0 2 [(0, .ref s_EB), (1, .ref a1), (2, .ref a2), (3, .int (x3 + 1))] [] h8 Q) ∧ (¬ (y9 = 0) → Q (some (.int x3)) h8))))))) : eb_Sn (d + 1) m_X10_doAll h0 2 [(0, .ref s_EB), (1, .ref a1), (2, .ref a2), (3, .int x3)] [] h Q := by
  refine eb_iload_n (pc := 2) (n := 3) (i := 3) rfl rfl rfl ?_
  refine eb_aload_n (pc := 3) (n := 1) (i := 1) rfl rfl rfl ?_
  refine eb_getI (pc := 4) rfl ka1 (by decide) (by decide) rfl ?_
  refine eb_icmp_ge (pc := 7) (tgt := 34) rfl (by decide) (fun c1 => ?_) (fun c1 => ?_)
  · replace w := w.1 c1
    refine eb_aload_n (pc := 34) (n := 1) (i := 1) rfl rfl rfl ?_
    refine eb_getI (pc := 35) rfl ka1 (by decide) (by decide) rfl ?_
    exact eb_ireturn (pc := 38) rfl rfl rfl w
  · replace w := w.2 c1
    refine eb_aload_n (pc := 10) (n := 0) (i := 0) rfl rfl rfl ?_
    obtain ⟨r2, q3, k4, w⟩ := w
    refine eb_getR (pc := 11) rfl rfl (by decide) (by decide) rfl q3 ?_
    refine eb_aload_n (pc := 14) (n := 2) (i := 2) rfl rfl rfl ?_
    refine eb_aload_n (pc := 15) (n := 1) (i := 1) rfl rfl rfl ?_
    refine eb_iload_n (pc := 16) (n := 3) (i := 3) rfl rfl rfl ?_
    refine eb_ctV (pc := 17) (As := [.int x3]) (rest := [.ref a2, .ref r2]) rfl (by decide) rfl ka1 (by decide) rfl (Nat.le_of_ble_eq_true rfl) ?_
    refine eb_Ct.mono w ?_
    rintro r h5 ⟨y6, rfl, ko7, w⟩
    change eb_Sn _ _ _ 20 _ [.long y6, .ref a2, .ref r2] _ _
    refine eb_ctV (pc := 20) (As := [.ref a2, .long y6]) (rest := []) rfl (by decide) rfl k4 (by decide) rfl (Nat.le_of_ble_eq_true rfl) ?_
    refine eb_Ct.mono w ?_
    rintro r h8 ⟨y9, rfl, ko10, w⟩
    change eb_Sn _ _ _ 23 _ [.int y9] _ _
    refine eb_if_eq (pc := 23) (tgt := 28) rfl (by decide) (fun c11 => ?_) (fun c11 => ?_)
    · replace w := w.1 c11
      refine eb_iinc (pc := 28) (i := 3) (n := 1) (v := x3 + 1) (ls2 := [(3, .int (x3 + 1)), (0, .ref s_EB), (1, .ref a1), (2, .ref a2)]) (Nat.le_of_ble_eq_true rfl) rfl rfl rfl rfl ?_
      refine eb_goto (pc := 31) (tgt := 2) rfl (by decide) ?_
      exact eb_pick [1, 2, 3, 0] rfl w
    · replace w := w.2 c11
      refine eb_iload_n (pc := 26) (n := 3) (i := 3) rfl rfl rfl ?_
      exact eb_ireturn (pc := 27) rfl rfl rfl w
theorem T_X10_doAll {d : Nat} {h : eb_H} {Q : Option Value → eb_H → Prop} (a1 : Nat) (a2 : Nat) (ka1 : eb_kd a1 = 8) (ka2 : eb_kd a2 = 6) (ko : eb_KO h) (w : eb_Sn (d + 1) m_X10_doAll h 2 [(0, .ref s_EB), (1, .ref a1), (2, .ref a2), (3, .int 0)] [] h Q) : eb_Ct (d + 1) 140 [.ref s_EB, .ref a1, .ref a2] h Q :=
  eb_bodyQ (by decide) ok_X10_doAll (Nat.le_of_ble_eq_true rfl) (b_X10_doAll_0 (h0 := h) a1 a2 ka1 ka2 ko w)
theorem b_X10_bitOf_0 {d : Nat} {h0 h : eb_H} {Q : Option Value → eb_H → Prop} (x0 : Int32)  (ko : eb_KO h) (w : Q (some (.int (if (1 : Int32) ≤ x0 then (1 : Int32) <<< ((x0 - 1) &&& 31) else 0 : Int32))) h) : eb_Sn d m_X10_bitOf h0 0 [(0, .int x0)] [] h Q := by
  refine eb_iload_n (pc := 0) (n := 0) (i := 0) rfl rfl rfl ?_
  refine eb_iconst (pc := 1) (n := 1) (v := 1) rfl rfl ?_
  have jj2 : eb_Sn d m_X10_bitOf h0 14 [(0, .int x0)] [.int (if (1 : Int32) ≤ x0 then (1 : Int32) <<< ((x0 - 1) &&& 31) else 0 : Int32)] h Q := by
    exact eb_ireturn (pc := 14) rfl rfl rfl w
  refine eb_icmp_ge (pc := 2) (tgt := 9) rfl (by decide) (fun c1 => ?_) (fun c1 => ?_)
  · refine eb_iconst (pc := 9) (n := 1) (v := 1) rfl rfl ?_
    refine eb_iload_n (pc := 10) (n := 0) (i := 0) rfl rfl rfl ?_
    refine eb_iconst (pc := 11) (n := 1) (v := 1) rfl rfl ?_
    refine eb_isub (pc := 12) rfl ?_
    refine eb_ishl (pc := 13) rfl ?_
    simp only [if_pos c1] at jj2 ⊢
    exact jj2
  · refine eb_iconst (pc := 5) (n := 0) (v := 0) rfl rfl ?_
    refine eb_goto (pc := 6) (tgt := 14) rfl (by decide) ?_
    simp only [if_neg c1] at jj2 ⊢
    exact jj2
theorem T_X10_bitOf {d : Nat} {h : eb_H} {Q : Option Value → eb_H → Prop} (x0 : Int32)  (ko : eb_KO h) (w : Q (some (.int (if (1 : Int32) ≤ x0 then (1 : Int32) <<< ((x0 - 1) &&& 31) else 0 : Int32))) h) : eb_Ct d 141 [.int x0] h Q :=
  eb_bodyQ (by decide) ok_X10_bitOf (Nat.le_of_ble_eq_true rfl) (b_X10_bitOf_0 (h0 := h) x0  ko w)
theorem b_X10_noTray_0 {d : Nat} {h0 h : eb_H} {Q : Option Value → eb_H → Prop} (x0 : Int32)  (ko : eb_KO h) (w : Q (some (.int (if x0 < 0 then 1 else (if x0 < (4 : Int32) then 0 else 1) : Int32))) h) : eb_Sn d m_X10_noTray h0 0 [(0, .int x0)] [] h Q := by
  refine eb_iload_n (pc := 0) (n := 0) (i := 0) rfl rfl rfl ?_
  have jj3 : eb_Sn d m_X10_noTray h0 14 [(0, .int x0)] [.int (if x0 < 0 then 1 else (if x0 < (4 : Int32) then 0 else 1) : Int32)] h Q := by
    exact eb_ireturn (pc := 14) rfl rfl (by (repeat' split) <;> rfl) w
  refine eb_if_lt (pc := 1) (tgt := 9) rfl (by decide) (fun c1 => ?_) (fun c1 => ?_)
  · refine eb_iconst (pc := 9) (n := 1) (v := 1) rfl rfl ?_
    refine eb_goto (pc := 10) (tgt := 14) rfl (by decide) ?_
    simp only [if_pos c1] at jj3 ⊢
    exact jj3
  · refine eb_iload_n (pc := 4) (n := 0) (i := 0) rfl rfl rfl ?_
    refine eb_iconst (pc := 5) (n := 4) (v := 4) rfl rfl ?_
    refine eb_icmp_lt (pc := 6) (tgt := 13) rfl (by decide) (fun c2 => ?_) (fun c2 => ?_)
    · refine eb_iconst (pc := 13) (n := 0) (v := 0) rfl rfl ?_
      simp only [if_neg c1, if_pos c2] at jj3 ⊢
      exact jj3
    · refine eb_iconst (pc := 9) (n := 1) (v := 1) rfl rfl ?_
      refine eb_goto (pc := 10) (tgt := 14) rfl (by decide) ?_
      simp only [if_neg c1, if_neg c2] at jj3 ⊢
      exact jj3
theorem T_X10_noTray {d : Nat} {h : eb_H} {Q : Option Value → eb_H → Prop} (x0 : Int32)  (ko : eb_KO h) (w : Q (some (.int (if x0 < 0 then 1 else (if x0 < (4 : Int32) then 0 else 1) : Int32))) h) : eb_Ct d 142 [.int x0] h Q :=
  eb_bodyQ (by decide) ok_X10_noTray (Nat.le_of_ble_eq_true rfl) (b_X10_noTray_0 (h0 := h) x0  ko w)
theorem b_X10_notSet_0 {d : Nat} {h0 h : eb_H} {Q : Option Value → eb_H → Prop} (x0 : Int32)  (ko : eb_KO h) (w : Q (some (.int (if x0 < 0 then 1 else (if x0 < (64 : Int32) then 0 else 1) : Int32))) h) : eb_Sn d m_X10_notSet h0 0 [(0, .int x0)] [] h Q := by
  refine eb_iload_n (pc := 0) (n := 0) (i := 0) rfl rfl rfl ?_
  have jj3 : eb_Sn d m_X10_notSet h0 15 [(0, .int x0)] [.int (if x0 < 0 then 1 else (if x0 < (64 : Int32) then 0 else 1) : Int32)] h Q := by
    exact eb_ireturn (pc := 15) rfl rfl (by (repeat' split) <;> rfl) w
  refine eb_if_lt (pc := 1) (tgt := 10) rfl (by decide) (fun c1 => ?_) (fun c1 => ?_)
  · refine eb_iconst (pc := 10) (n := 1) (v := 1) rfl rfl ?_
    refine eb_goto (pc := 11) (tgt := 15) rfl (by decide) ?_
    simp only [if_pos c1] at jj3 ⊢
    exact jj3
  · refine eb_iload_n (pc := 4) (n := 0) (i := 0) rfl rfl rfl ?_
    refine eb_bipush (pc := 5) (n := 64) (v := 64) rfl rfl ?_
    refine eb_icmp_lt (pc := 7) (tgt := 14) rfl (by decide) (fun c2 => ?_) (fun c2 => ?_)
    · refine eb_iconst (pc := 14) (n := 0) (v := 0) rfl rfl ?_
      simp only [if_neg c1, if_pos c2] at jj3 ⊢
      exact jj3
    · refine eb_iconst (pc := 10) (n := 1) (v := 1) rfl rfl ?_
      refine eb_goto (pc := 11) (tgt := 15) rfl (by decide) ?_
      simp only [if_neg c1, if_neg c2] at jj3 ⊢
      exact jj3
theorem T_X10_notSet {d : Nat} {h : eb_H} {Q : Option Value → eb_H → Prop} (x0 : Int32)  (ko : eb_KO h) (w : Q (some (.int (if x0 < 0 then 1 else (if x0 < (64 : Int32) then 0 else 1) : Int32))) h) : eb_Ct d 143 [.int x0] h Q :=
  eb_bodyQ (by decide) ok_X10_notSet (Nat.le_of_ble_eq_true rfl) (b_X10_notSet_0 (h0 := h) x0  ko w)
theorem b_X10_notSets_0 {d : Nat} {h0 h : eb_H} {Q : Option Value → eb_H → Prop} (x0 : Int32) (x1 : Int32)  (ko : eb_KO h) (w : eb_Ct d 143 [.int x0] h (fun r h1 => ∃ y2, r = some (.int y2) ∧ eb_KO h1 ∧ ((¬ y2 = 0 → Q (some (.int 1)) h1) ∧ (y2 = 0 → eb_Ct d 143 [.int x1] h1 (fun r h5 => ∃ y6, r = some (.int y6) ∧ eb_KO h5 ∧ Q (some (.int (if y6 = 0 then (if (x0 &&& x1) = 0 then 0 else 1) else 1 : Int32))) h5))))) : eb_Sn (d + 1) m_X10_notSets h0 0 [(0, .int x0), (1, .int x1)] [] h Q := by
  refine eb_iload_n (pc := 0) (n := 0) (i := 0) rfl rfl rfl ?_
  refine eb_ctS (pc := 1) (As := [.int x0]) (rest := []) rfl (by decide) (by decide) rfl rfl (Nat.le_of_ble_eq_true rfl) ?_
  refine eb_Ct.mono w ?_
  rintro r h1 ⟨y2, rfl, ko3, w⟩
  change eb_Sn _ _ _ 4 _ [.int y2] _ _
  refine eb_if_ne (pc := 4) (tgt := 20) rfl (by decide) (fun c4 => ?_) (fun c4 => ?_)
  · replace w := w.1 c4
    refine eb_iconst (pc := 20) (n := 1) (v := 1) rfl rfl ?_
    refine eb_goto (pc := 21) (tgt := 25) rfl (by decide) ?_
    exact eb_ireturn (pc := 25) rfl rfl (by decide) w
  · replace w := w.2 c4
    refine eb_iload_n (pc := 7) (n := 1) (i := 1) rfl rfl rfl ?_
    refine eb_ctS (pc := 8) (As := [.int x1]) (rest := []) rfl (by decide) (by decide) rfl rfl (Nat.le_of_ble_eq_true rfl) ?_
    refine eb_Ct.mono w ?_
    rintro r h5 ⟨y6, rfl, ko7, w⟩
    change eb_Sn _ _ _ 11 _ [.int y6] _ _
    have jj10 : eb_Sn (d + 1) m_X10_notSets h0 25 [(0, .int x0), (1, .int x1)] [.int (if y6 = 0 then (if (x0 &&& x1) = 0 then 0 else 1) else 1 : Int32)] h5 Q := by
      exact eb_ireturn (pc := 25) rfl rfl (by (repeat' split) <;> rfl) w
    refine eb_if_ne (pc := 11) (tgt := 20) rfl (by decide) (fun c8 => ?_) (fun c8 => ?_)
    · refine eb_iconst (pc := 20) (n := 1) (v := 1) rfl rfl ?_
      refine eb_goto (pc := 21) (tgt := 25) rfl (by decide) ?_
      simp only [if_neg c8] at jj10 ⊢
      exact jj10
    · refine eb_iload_n (pc := 14) (n := 0) (i := 0) rfl rfl rfl ?_
      refine eb_iload_n (pc := 15) (n := 1) (i := 1) rfl rfl rfl ?_
      refine eb_iand (pc := 16) rfl ?_
      refine eb_if_eq (pc := 17) (tgt := 24) rfl (by decide) (fun c9 => ?_) (fun c9 => ?_)
      · refine eb_iconst (pc := 24) (n := 0) (v := 0) rfl rfl ?_
        simp only [if_pos c8, if_pos c9] at jj10 ⊢
        exact jj10
      · refine eb_iconst (pc := 20) (n := 1) (v := 1) rfl rfl ?_
        refine eb_goto (pc := 21) (tgt := 25) rfl (by decide) ?_
        simp only [if_pos c8, if_neg c9] at jj10 ⊢
        exact jj10
theorem T_X10_notSets {d : Nat} {h : eb_H} {Q : Option Value → eb_H → Prop} (x0 : Int32) (x1 : Int32)  (ko : eb_KO h) (w : eb_Ct d 143 [.int x0] h (fun r h1 => ∃ y2, r = some (.int y2) ∧ eb_KO h1 ∧ ((¬ y2 = 0 → Q (some (.int 1)) h1) ∧ (y2 = 0 → eb_Ct d 143 [.int x1] h1 (fun r h5 => ∃ y6, r = some (.int y6) ∧ eb_KO h5 ∧ Q (some (.int (if y6 = 0 then (if (x0 &&& x1) = 0 then 0 else 1) else 1 : Int32))) h5))))) : eb_Ct (d + 1) 144 [.int x0, .int x1] h Q :=
  eb_bodyQ (by decide) ok_X10_notSets (Nat.le_of_ble_eq_true rfl) (b_X10_notSets_0 (h0 := h) x0 x1  ko w)
theorem b_X10_comingRefusal_0 {d : Nat} {h0 h : eb_H} {Q : Option Value → eb_H → Prop} (x1 : Int32) (x2 : Int32) (x3 : Int32)  (ko : eb_KO h) (w : ∃ r1, eb_R h s_EB 2 = some r1 ∧ eb_kd r1 = 9 ∧ eb_Ct d 80 [.ref r1, .int x1] h (fun r h4 => ∃ y5, r = some (.int y5) ∧ eb_KO h4 ∧ ((¬ y5 = 0 → eb_Ct d 144 [.int x2, .int x3] h4 (fun r h8 => ∃ y9, r = some (.int y9) ∧ eb_KO h8 ∧ Q (some (.int (if y9 = 0 then 0 else (-3) : Int32))) h8)) ∧ (y5 = 0 → Q (some (.int (-2))) h4)))) : eb_Sn (d + 1) m_X10_comingRefusal h0 0 [(0, .ref s_EB), (1, .int x1), (2, .int x2), (3, .int x3)] [] h Q := by
  refine eb_aload_n (pc := 0) (n := 0) (i := 0) rfl rfl rfl ?_
  obtain ⟨r1, q2, k3, w⟩ := w
  refine eb_getR (pc := 1) rfl rfl (by decide) (by decide) rfl q2 ?_
  refine eb_iload_n (pc := 4) (n := 1) (i := 1) rfl rfl rfl ?_
  refine eb_ctV (pc := 5) (As := [.int x1]) (rest := []) rfl (by decide) rfl k3 (by decide) rfl (Nat.le_of_ble_eq_true rfl) ?_
  refine eb_Ct.mono w ?_
  rintro r h4 ⟨y5, rfl, ko6, w⟩
  change eb_Sn _ _ _ 8 _ [.int y5] _ _
  refine eb_if_ne (pc := 8) (tgt := 14) rfl (by decide) (fun c7 => ?_) (fun c7 => ?_)
  · replace w := w.1 c7
    refine eb_iload_n (pc := 14) (n := 2) (i := 2) rfl rfl rfl ?_
    refine eb_iload_n (pc := 15) (n := 3) (i := 3) rfl rfl rfl ?_
    refine eb_ctS (pc := 16) (As := [.int x2, .int x3]) (rest := []) rfl (by decide) (by decide) rfl rfl (Nat.le_of_ble_eq_true rfl) ?_
    refine eb_Ct.mono w ?_
    rintro r h8 ⟨y9, rfl, ko10, w⟩
    change eb_Sn _ _ _ 19 _ [.int y9] _ _
    have jj12 : eb_Sn (d + 1) m_X10_comingRefusal h0 28 [(0, .ref s_EB), (1, .int x1), (2, .int x2), (3, .int x3)] [.int (if y9 = 0 then 0 else (-3) : Int32)] h8 Q := by
      exact eb_ireturn (pc := 28) rfl rfl rfl w
    refine eb_if_eq (pc := 19) (tgt := 27) rfl (by decide) (fun c11 => ?_) (fun c11 => ?_)
    · refine eb_iconst (pc := 27) (n := 0) (v := 0) rfl rfl ?_
      simp only [if_pos c11] at jj12 ⊢
      exact jj12
    · refine eb_bipush (pc := 22) (n := -3) (v := (-3)) rfl rfl ?_
      refine eb_goto (pc := 24) (tgt := 28) rfl (by decide) ?_
      simp only [if_neg c11] at jj12 ⊢
      exact jj12
  · replace w := w.2 c7
    refine eb_bipush (pc := 11) (n := -2) (v := (-2)) rfl rfl ?_
    exact eb_ireturn (pc := 13) rfl rfl rfl w
theorem T_X10_comingRefusal {d : Nat} {h : eb_H} {Q : Option Value → eb_H → Prop} (x1 : Int32) (x2 : Int32) (x3 : Int32)  (ko : eb_KO h) (w : ∃ r1, eb_R h s_EB 2 = some r1 ∧ eb_kd r1 = 9 ∧ eb_Ct d 80 [.ref r1, .int x1] h (fun r h4 => ∃ y5, r = some (.int y5) ∧ eb_KO h4 ∧ ((¬ y5 = 0 → eb_Ct d 144 [.int x2, .int x3] h4 (fun r h8 => ∃ y9, r = some (.int y9) ∧ eb_KO h8 ∧ Q (some (.int (if y9 = 0 then 0 else (-3) : Int32))) h8)) ∧ (y5 = 0 → Q (some (.int (-2))) h4)))) : eb_Ct (d + 1) 145 [.ref s_EB, .int x1, .int x2, .int x3] h Q :=
  eb_bodyQ (by decide) ok_X10_comingRefusal (Nat.le_of_ble_eq_true rfl) (b_X10_comingRefusal_0 (h0 := h) x1 x2 x3  ko w)
theorem b_X10_cameRefusal_0 {d : Nat} {h0 h : eb_H} {Q : Option Value → eb_H → Prop} (x1 : Int32) (x2 : Int32) (x3 : Int32)  (ko : eb_KO h) (w : ∃ r1, eb_R h s_EB 2 = some r1 ∧ eb_kd r1 = 9 ∧ eb_Ct d 80 [.ref r1, .int x2] h (fun r h4 => ∃ y5, r = some (.int y5) ∧ eb_KO h4 ∧ ((¬ y5 = 0 → ((x1 < 0 → Q (some (.int (-3))) h4) ∧ (¬ (x1 < 0) → (((10 : Int32) < x1 → Q (some (.int (-3))) h4) ∧ (¬ ((10 : Int32) < x1) → eb_Ct d 143 [.int x3] h4 (fun r h10 => ∃ y11, r = some (.int y11) ∧ eb_KO h10 ∧ Q (some (.int (if y11 = 0 then 0 else (-3) : Int32))) h10)))))) ∧ (y5 = 0 → Q (some (.int (-2))) h4)))) : eb_Sn (d + 1) m_X10_cameRefusal h0 0 [(0, .ref s_EB), (1, .int x1), (2, .int x2), (3, .int x3)] [] h Q := by
  refine eb_aload_n (pc := 0) (n := 0) (i := 0) rfl rfl rfl ?_
  obtain ⟨r1, q2, k3, w⟩ := w
  refine eb_getR (pc := 1) rfl rfl (by decide) (by decide) rfl q2 ?_
  refine eb_iload_n (pc := 4) (n := 2) (i := 2) rfl rfl rfl ?_
  refine eb_ctV (pc := 5) (As := [.int x2]) (rest := []) rfl (by decide) rfl k3 (by decide) rfl (Nat.le_of_ble_eq_true rfl) ?_
  refine eb_Ct.mono w ?_
  rintro r h4 ⟨y5, rfl, ko6, w⟩
  change eb_Sn _ _ _ 8 _ [.int y5] _ _
  refine eb_if_ne (pc := 8) (tgt := 14) rfl (by decide) (fun c7 => ?_) (fun c7 => ?_)
  · replace w := w.1 c7
    refine eb_iload_n (pc := 14) (n := 1) (i := 1) rfl rfl rfl ?_
    refine eb_if_lt (pc := 15) (tgt := 31) rfl (by decide) (fun c8 => ?_) (fun c8 => ?_)
    · replace w := w.1 c8
      refine eb_bipush (pc := 31) (n := -3) (v := (-3)) rfl rfl ?_
      refine eb_goto (pc := 33) (tgt := 37) rfl (by decide) ?_
      exact eb_ireturn (pc := 37) rfl rfl rfl w
    · replace w := w.2 c8
      refine eb_iload_n (pc := 18) (n := 1) (i := 1) rfl rfl rfl ?_
      refine eb_bipush (pc := 19) (n := 10) (v := 10) rfl rfl ?_
      refine eb_icmp_gt (pc := 21) (tgt := 31) rfl (by decide) (fun c9 => ?_) (fun c9 => ?_)
      · replace w := w.1 c9
        refine eb_bipush (pc := 31) (n := -3) (v := (-3)) rfl rfl ?_
        refine eb_goto (pc := 33) (tgt := 37) rfl (by decide) ?_
        exact eb_ireturn (pc := 37) rfl rfl rfl w
      · replace w := w.2 c9
        refine eb_iload_n (pc := 24) (n := 3) (i := 3) rfl rfl rfl ?_
        refine eb_ctS (pc := 25) (As := [.int x3]) (rest := []) rfl (by decide) (by decide) rfl rfl (Nat.le_of_ble_eq_true rfl) ?_
        refine eb_Ct.mono w ?_
        rintro r h10 ⟨y11, rfl, ko12, w⟩
        change eb_Sn _ _ _ 28 _ [.int y11] _ _
        have jj14 : eb_Sn (d + 1) m_X10_cameRefusal h0 37 [(0, .ref s_EB), (1, .int x1), (2, .int x2), (3, .int x3)] [.int (if y11 = 0 then 0 else (-3) : Int32)] h10 Q := by
          exact eb_ireturn (pc := 37) rfl rfl rfl w
        refine eb_if_eq (pc := 28) (tgt := 36) rfl (by decide) (fun c13 => ?_) (fun c13 => ?_)
        · refine eb_iconst (pc := 36) (n := 0) (v := 0) rfl rfl ?_
          simp only [if_pos c13] at jj14 ⊢
          exact jj14
        · refine eb_bipush (pc := 31) (n := -3) (v := (-3)) rfl rfl ?_
          refine eb_goto (pc := 33) (tgt := 37) rfl (by decide) ?_
          simp only [if_neg c13] at jj14 ⊢
          exact jj14
  · replace w := w.2 c7
    refine eb_bipush (pc := 11) (n := -2) (v := (-2)) rfl rfl ?_
    exact eb_ireturn (pc := 13) rfl rfl rfl w
theorem T_X10_cameRefusal {d : Nat} {h : eb_H} {Q : Option Value → eb_H → Prop} (x1 : Int32) (x2 : Int32) (x3 : Int32)  (ko : eb_KO h) (w : ∃ r1, eb_R h s_EB 2 = some r1 ∧ eb_kd r1 = 9 ∧ eb_Ct d 80 [.ref r1, .int x2] h (fun r h4 => ∃ y5, r = some (.int y5) ∧ eb_KO h4 ∧ ((¬ y5 = 0 → ((x1 < 0 → Q (some (.int (-3))) h4) ∧ (¬ (x1 < 0) → (((10 : Int32) < x1 → Q (some (.int (-3))) h4) ∧ (¬ ((10 : Int32) < x1) → eb_Ct d 143 [.int x3] h4 (fun r h10 => ∃ y11, r = some (.int y11) ∧ eb_KO h10 ∧ Q (some (.int (if y11 = 0 then 0 else (-3) : Int32))) h10)))))) ∧ (y5 = 0 → Q (some (.int (-2))) h4)))) : eb_Ct (d + 1) 146 [.ref s_EB, .int x1, .int x2, .int x3] h Q :=
  eb_bodyQ (by decide) ok_X10_cameRefusal (Nat.le_of_ble_eq_true rfl) (b_X10_cameRefusal_0 (h0 := h) x1 x2 x3  ko w)
theorem b_X10_flownRefusal_0 {d : Nat} {h0 h : eb_H} {Q : Option Value → eb_H → Prop} (a0 : Nat) (x1 : Int32) (ka0 : eb_kd a0 = 8) (ko : eb_KO h) (w : (((eb_I h a0 2) = 0 → (((eb_I h a0 3) < (1 : Int32) → Q (some (.int (-4))) h) ∧ (¬ ((eb_I h a0 3) < (1 : Int32)) → (((eb_I h a0 3) ≤ (12 : Int32) → eb_Sn (d + 1) m_X10_flownRefusal h0 32 [(0, .ref a0), (1, .int x1), (2, .int 0)] [] h Q) ∧ (¬ ((eb_I h a0 3) ≤ (12 : Int32)) → Q (some (.int (-4))) h))))) ∧ (¬ ((eb_I h a0 2) = 0) → Q (some (.int (-6))) h))) : eb_Sn (d + 1) m_X10_flownRefusal h0 0 [(0, .ref a0), (1, .int x1)] [] h Q := by
  refine eb_aload_n (pc := 0) (n := 0) (i := 0) rfl rfl rfl ?_
  refine eb_getI (pc := 1) rfl ka0 (by decide) (by decide) rfl ?_
  refine eb_if_eq (pc := 4) (tgt := 10) rfl (by decide) (fun c1 => ?_) (fun c1 => ?_)
  · replace w := w.1 c1
    refine eb_aload_n (pc := 10) (n := 0) (i := 0) rfl rfl rfl ?_
    refine eb_getI (pc := 11) rfl ka0 (by decide) (by decide) rfl ?_
    refine eb_iconst (pc := 14) (n := 1) (v := 1) rfl rfl ?_
    refine eb_icmp_lt (pc := 15) (tgt := 27) rfl (by decide) (fun c2 => ?_) (fun c2 => ?_)
    · replace w := w.1 c2
      refine eb_bipush (pc := 27) (n := -4) (v := (-4)) rfl rfl ?_
      exact eb_ireturn (pc := 29) rfl rfl rfl w
    · replace w := w.2 c2
      refine eb_aload_n (pc := 18) (n := 0) (i := 0) rfl rfl rfl ?_
      refine eb_getI (pc := 19) rfl ka0 (by decide) (by decide) rfl ?_
      refine eb_bipush (pc := 22) (n := 12) (v := 12) rfl rfl ?_
      refine eb_icmp_le (pc := 24) (tgt := 30) rfl (by decide) (fun c3 => ?_) (fun c3 => ?_)
      · replace w := w.1 c3
        refine eb_iconst (pc := 30) (n := 0) (v := 0) rfl rfl ?_
        refine eb_istore_n (pc := 31) (n := 2) (i := 2) (ls2 := [(2, .int 0), (0, .ref a0), (1, .int x1)]) rfl (Nat.le_of_ble_eq_true rfl) rfl rfl ?_
        exact eb_pick [1, 2, 0] rfl w
      · replace w := w.2 c3
        refine eb_bipush (pc := 27) (n := -4) (v := (-4)) rfl rfl ?_
        exact eb_ireturn (pc := 29) rfl rfl rfl w
  · replace w := w.2 c1
    refine eb_bipush (pc := 7) (n := -6) (v := (-6)) rfl rfl ?_
    exact eb_ireturn (pc := 9) rfl rfl rfl w
theorem b_X10_flownRefusal_32 {d : Nat} {h0 h : eb_H} {Q : Option Value → eb_H → Prop} (a0 : Nat) (x1 : Int32) (x2 : Int32) (ka0 : eb_kd a0 = 8) (ko : eb_KO h) (w : (((eb_I h a0 3) ≤ x2 → eb_Ct d 143 [.int x1] h (fun r h2 => ∃ y3, r = some (.int y3) ∧ eb_KO h2 ∧ Q (some (.int (if y3 = 0 then 0 else (-3) : Int32))) h2)) ∧ (¬ ((eb_I h a0 3) ≤ x2) → eb_Ct d 76 [.ref a0, .int x2] h (fun r h7 => ∃ y8, r = some (.long y8) ∧ eb_KO h7 ∧ ((y8 < 0 → Q (some (.int (-3))) h7) ∧ (¬ (y8 < 0) → ((y8 < 4 → eb_Sn (d + 1) m_X10_flownRefusal h0 32 [(0, .ref a0), (1, .int x1), (2, .int (x2 + 1))] [] h7 Q) ∧ (¬ (y8 < 4) → Q (some (.int (-3))) h7)))))))) : eb_Sn (d + 1) m_X10_flownRefusal h0 32 [(0, .ref a0), (1, .int x1), (2, .int x2)] [] h Q := by
  refine eb_iload_n (pc := 32) (n := 2) (i := 2) rfl rfl rfl ?_
  refine eb_aload_n (pc := 33) (n := 0) (i := 0) rfl rfl rfl ?_
  refine eb_getI (pc := 34) rfl ka0 (by decide) (by decide) rfl ?_
  refine eb_icmp_ge (pc := 37) (tgt := 69) rfl (by decide) (fun c1 => ?_) (fun c1 => ?_)
  · replace w := w.1 c1
    refine eb_iload_n (pc := 69) (n := 1) (i := 1) rfl rfl rfl ?_
    refine eb_ctS (pc := 70) (As := [.int x1]) (rest := []) rfl (by decide) (by decide) rfl rfl (Nat.le_of_ble_eq_true rfl) ?_
    refine eb_Ct.mono w ?_
    rintro r h2 ⟨y3, rfl, ko4, w⟩
    change eb_Sn _ _ _ 73 _ [.int y3] _ _
    have jj6 : eb_Sn (d + 1) m_X10_flownRefusal h0 82 [(0, .ref a0), (1, .int x1), (2, .int x2)] [.int (if y3 = 0 then 0 else (-3) : Int32)] h2 Q := by
      exact eb_ireturn (pc := 82) rfl rfl rfl w
    refine eb_if_eq (pc := 73) (tgt := 81) rfl (by decide) (fun c5 => ?_) (fun c5 => ?_)
    · refine eb_iconst (pc := 81) (n := 0) (v := 0) rfl rfl ?_
      simp only [if_pos c5] at jj6 ⊢
      exact jj6
    · refine eb_bipush (pc := 76) (n := -3) (v := (-3)) rfl rfl ?_
      refine eb_goto (pc := 78) (tgt := 82) rfl (by decide) ?_
      simp only [if_neg c5] at jj6 ⊢
      exact jj6
  · replace w := w.2 c1
    refine eb_aload_n (pc := 40) (n := 0) (i := 0) rfl rfl rfl ?_
    refine eb_iload_n (pc := 41) (n := 2) (i := 2) rfl rfl rfl ?_
    refine eb_ctV (pc := 42) (As := [.int x2]) (rest := []) rfl (by decide) rfl ka0 (by decide) rfl (Nat.le_of_ble_eq_true rfl) ?_
    refine eb_Ct.mono w ?_
    rintro r h7 ⟨y8, rfl, ko9, w⟩
    change eb_Sn _ _ _ 45 _ [.long y8] _ _
    refine eb_lstore_n (pc := 45) (n := 3) (i := 3) (ls2 := [(3, .long y8), (0, .ref a0), (1, .int x1), (2, .int x2)]) rfl (Nat.le_of_ble_eq_true rfl) rfl rfl ?_
    refine eb_lload_n (pc := 46) (n := 3) (i := 3) rfl rfl rfl ?_
    refine eb_lconst (pc := 47) (n := 0) (v := 0) rfl rfl ?_
    refine eb_lcmp (pc := 48) rfl ?_
    refine eb_if_lt (pc := 49) (tgt := 60) rfl (by decide) (fun c10 => ?_) (fun c10 => ?_)
    · replace c10 := eb_lc_lt.mp c10
      replace w := w.1 c10
      refine eb_bipush (pc := 60) (n := -3) (v := (-3)) rfl rfl ?_
      exact eb_ireturn (pc := 62) rfl rfl rfl w
    · replace c10 := (fun hh => mt eb_lc_lt.mpr hh) c10
      replace w := w.2 c10
      refine eb_lload_n (pc := 52) (n := 3) (i := 3) rfl rfl rfl ?_
      refine eb_ldc2 (pc := 53) (a := 4) (v := 4) rfl (by decide) ?_
      refine eb_lcmp (pc := 56) rfl ?_
      refine eb_if_lt (pc := 57) (tgt := 63) rfl (by decide) (fun c11 => ?_) (fun c11 => ?_)
      · replace c11 := eb_lc_lt.mp c11
        replace w := w.1 c11
        refine eb_iinc (pc := 63) (i := 2) (n := 1) (v := x2 + 1) (ls2 := [(2, .int (x2 + 1)), (3, .long y8), (0, .ref a0), (1, .int x1)]) (Nat.le_of_ble_eq_true rfl) rfl rfl rfl rfl ?_
        refine eb_goto (pc := 66) (tgt := 32) rfl (by decide) ?_
        exact eb_pick [2, 3, 0] rfl w
      · replace c11 := (fun hh => mt eb_lc_lt.mpr hh) c11
        replace w := w.2 c11
        refine eb_bipush (pc := 60) (n := -3) (v := (-3)) rfl rfl ?_
        exact eb_ireturn (pc := 62) rfl rfl rfl w
theorem T_X10_flownRefusal {d : Nat} {h : eb_H} {Q : Option Value → eb_H → Prop} (a0 : Nat) (x1 : Int32) (ka0 : eb_kd a0 = 8) (ko : eb_KO h) (w : (((eb_I h a0 2) = 0 → (((eb_I h a0 3) < (1 : Int32) → Q (some (.int (-4))) h) ∧ (¬ ((eb_I h a0 3) < (1 : Int32)) → (((eb_I h a0 3) ≤ (12 : Int32) → eb_Sn (d + 1) m_X10_flownRefusal h 32 [(0, .ref a0), (1, .int x1), (2, .int 0)] [] h Q) ∧ (¬ ((eb_I h a0 3) ≤ (12 : Int32)) → Q (some (.int (-4))) h))))) ∧ (¬ ((eb_I h a0 2) = 0) → Q (some (.int (-6))) h))) : eb_Ct (d + 1) 147 [.ref a0, .int x1] h Q :=
  eb_bodyQ (by decide) ok_X10_flownRefusal (Nat.le_of_ble_eq_true rfl) (b_X10_flownRefusal_0 (h0 := h) a0 x1 ka0 ko w)
