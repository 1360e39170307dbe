theorem b_X10_setsIn_0 {d : Nat} {h0 h : eb_H} {Q : Option Value → eb_H → Prop} (x1 : Int32)  (ko : eb_KO h) (w : ∃ r1, eb_R h s_EB 2 = some r1 ∧ eb_kd r1 = 9 ∧ eb_Ct d 8 [.ref s_flights, .ref r1, .ref s_now] h (fun r h4 => r = none ∧ eb_KO h4 ∧ eb_Ct d 11 [.ref s_flights] h4 (fun r h7 => r = none ∧ eb_KO h7 ∧ eb_Ct d 16 [.ref s_flights, .int x1] h7 (fun r h10 => ∃ y11, r = some (.long y11) ∧ eb_KO h10 ∧ Q (some (.long y11)) h10)))) : eb_Sn (d + 1) m_X10_setsIn h0 0 [(0, .ref s_EB), (1, .int x1)] [] h Q := by
  refine eb_aload_n (pc := 0) (n := 0) (i := 0) rfl rfl rfl ?_
  refine eb_getR (pc := 1) rfl rfl (by decide) (by decide) rfl (ko_s_EB_7 ko) ?_
  refine eb_aload_n (pc := 4) (n := 0) (i := 0) rfl rfl rfl ?_
  obtain ⟨r1, q2, k3, w⟩ := w
  refine eb_getR (pc := 5) rfl rfl (by decide) (by decide) rfl q2 ?_
  refine eb_aload_n (pc := 8) (n := 0) (i := 0) rfl rfl rfl ?_
  refine eb_getR (pc := 9) rfl rfl (by decide) (by decide) rfl (ko_s_EB_3 ko) ?_
  refine eb_ctV (pc := 12) (As := [.ref r1, .ref s_now]) (rest := []) rfl (by decide) rfl rfl (by decide) rfl (Nat.le_of_ble_eq_true rfl) ?_
  refine eb_Ct.mono w ?_
  rintro r h4 ⟨rfl, ko6, w⟩
  change eb_Sn _ _ _ 15 _ [] _ _
  refine eb_aload_n (pc := 15) (n := 0) (i := 0) rfl rfl rfl ?_
  refine eb_getR (pc := 16) rfl rfl (by decide) (by decide) rfl (ko_s_EB_7 ko6) ?_
  refine eb_ctV (pc := 19) (As := []) (rest := []) rfl (by decide) rfl rfl (by decide) rfl (Nat.le_of_ble_eq_true rfl) ?_
  refine eb_Ct.mono w ?_
  rintro r h7 ⟨rfl, ko9, w⟩
  change eb_Sn _ _ _ 22 _ [] _ _
  refine eb_aload_n (pc := 22) (n := 0) (i := 0) rfl rfl rfl ?_
  refine eb_getR (pc := 23) rfl rfl (by decide) (by decide) rfl (ko_s_EB_7 ko9) ?_
  refine eb_iload_n (pc := 26) (n := 1) (i := 1) rfl rfl rfl ?_
  refine eb_ctV (pc := 27) (As := [.int x1]) (rest := []) rfl (by decide) rfl rfl (by decide) rfl (Nat.le_of_ble_eq_true rfl) ?_
  refine eb_Ct.mono w ?_
  rintro r h10 ⟨y11, rfl, ko12, w⟩
  change eb_Sn _ _ _ 30 _ [.long y11] _ _
  exact eb_lreturn (pc := 30) rfl rfl w
theorem T_X10_setsIn {d : Nat} {h : eb_H} {Q : Option Value → eb_H → Prop} (x1 : Int32)  (ko : eb_KO h) (w : ∃ r1, eb_R h s_EB 2 = some r1 ∧ eb_kd r1 = 9 ∧ eb_Ct d 8 [.ref s_flights, .ref r1, .ref s_now] h (fun r h4 => r = none ∧ eb_KO h4 ∧ eb_Ct d 11 [.ref s_flights] h4 (fun r h7 => r = none ∧ eb_KO h7 ∧ eb_Ct d 16 [.ref s_flights, .int x1] h7 (fun r h10 => ∃ y11, r = some (.long y11) ∧ eb_KO h10 ∧ Q (some (.long y11)) h10)))) : eb_Ct (d + 1) 148 [.ref s_EB, .int x1] h Q :=
  eb_bodyQ (by decide) ok_X10_setsIn (Nat.le_of_ble_eq_true rfl) (b_X10_setsIn_0 (h0 := h) x1  ko w)
theorem b_X10_couldFly_0 {d : Nat} {h0 h : eb_H} {Q : Option Value → eb_H → Prop} (a1 : Nat) (x2 : Int32) (ka1 : eb_kd a1 = 8) (ko : eb_KO h) (w : eb_Sn (d + 1) m_X10_couldFly h0 2 [(0, .ref s_EB), (1, .ref a1), (2, .int x2), (3, .int 0)] [] h Q) : eb_Sn (d + 1) m_X10_couldFly h0 0 [(0, .ref s_EB), (1, .ref a1), (2, .int x2)] [] h Q := by
  refine eb_iconst (pc := 0) (n := 0) (v := 0) rfl rfl ?_
  refine eb_istore_n (pc := 1) (n := 3) (i := 3) (ls2 := [(3, .int 0), (0, .ref s_EB), (1, .ref a1), (2, .int x2)]) rfl (Nat.le_of_ble_eq_true rfl) rfl rfl ?_
  exact eb_pick [1, 2, 3, 0] rfl w
theorem b_X10_couldFly_2 {d : Nat} {h0 h : eb_H} {Q : Option Value → eb_H → Prop} (a1 : Nat) (x2 : Int32) (x3 : Int32) (ka1 : eb_kd a1 = 8) (ko : eb_KO h) (w : (((eb_I h a1 3) ≤ x3 → Q (some (.int (if (eb_I h s_trial 1) = x2 then 1 else 0 : Int32))) h) ∧ (¬ ((eb_I h a1 3) ≤ x3) → ∃ r4, eb_R h s_EB 2 = some r4 ∧ eb_kd r4 = 9 ∧ eb_Ct d 76 [.ref a1, .int x3] h (fun r h7 => ∃ y8, r = some (.long y8) ∧ eb_KO h7 ∧ eb_Ct d 90 [.ref r4, .ref s_trial, .int y8.toInt32] h7 (fun r h10 => ∃ y11, r = some (.int y11) ∧ eb_KO h10 ∧ ((0 ≤ y11 → eb_Sn (d + 1) m_X10_couldFly h0 2 [(0, .ref s_EB), (1, .ref a1), (2, .int x2), (3, .int (x3 + 1))] [] h10 Q) ∧ (¬ (0 ≤ y11) → Q (some (.int 0)) h10))))))) : eb_Sn (d + 1) m_X10_couldFly h0 2 [(0, .ref s_EB), (1, .ref a1), (2, .int x2), (3, .int x3)] [] h Q := by
  refine eb_iload_n (pc := 2) (n := 3) (i := 3) rfl rfl rfl ?_
  refine eb_aload_n (pc := 3) (n := 1) (i := 1) rfl rfl rfl ?_
  refine eb_getI (pc := 4) rfl ka1 (by decide) (by decide) rfl ?_
  refine eb_icmp_ge (pc := 7) (tgt := 38) rfl (by decide) (fun c1 => ?_) (fun c1 => ?_)
  · replace w := w.1 c1
    refine eb_aload_n (pc := 38) (n := 0) (i := 0) rfl rfl rfl ?_
    refine eb_getR (pc := 39) rfl rfl (by decide) (by decide) rfl (ko_s_EB_5 ko) ?_
    refine eb_getI (pc := 42) rfl rfl (by decide) (by decide) rfl ?_
    refine eb_iload_n (pc := 45) (n := 2) (i := 2) rfl rfl rfl ?_
    have jj3 : eb_Sn (d + 1) m_X10_couldFly h0 54 [(0, .ref s_EB), (1, .ref a1), (2, .int x2), (3, .int x3)] [.int (if (eb_I h s_trial 1) = x2 then 1 else 0 : Int32)] h Q := by
      exact eb_ireturn (pc := 54) rfl rfl (by (repeat' split) <;> rfl) w
    refine eb_icmp_ne (pc := 46) (tgt := 53) rfl (by decide) (fun c2 => ?_) (fun c2 => ?_)
    · refine eb_iconst (pc := 53) (n := 0) (v := 0) rfl rfl ?_
      simp only [if_neg c2] at jj3 ⊢
      exact jj3
    · refine eb_iconst (pc := 49) (n := 1) (v := 1) rfl rfl ?_
      refine eb_goto (pc := 50) (tgt := 54) rfl (by decide) ?_
      simp only [if_pos c2] at jj3 ⊢
      exact jj3
  · replace w := w.2 c1
    refine eb_aload_n (pc := 10) (n := 0) (i := 0) rfl rfl rfl ?_
    obtain ⟨r4, q5, k6, w⟩ := w
    refine eb_getR (pc := 11) rfl rfl (by decide) (by decide) rfl q5 ?_
    refine eb_aload_n (pc := 14) (n := 0) (i := 0) rfl rfl rfl ?_
    refine eb_getR (pc := 15) rfl rfl (by decide) (by decide) rfl (ko_s_EB_5 ko) ?_
    refine eb_aload_n (pc := 18) (n := 1) (i := 1) rfl rfl rfl ?_
    refine eb_iload_n (pc := 19) (n := 3) (i := 3) rfl rfl rfl ?_
    refine eb_ctV (pc := 20) (As := [.int x3]) (rest := [.ref s_trial, .ref r4]) rfl (by decide) rfl ka1 (by decide) rfl (Nat.le_of_ble_eq_true rfl) ?_
    refine eb_Ct.mono w ?_
    rintro r h7 ⟨y8, rfl, ko9, w⟩
    change eb_Sn _ _ _ 23 _ [.long y8, .ref s_trial, .ref r4] _ _
    refine eb_l2i (pc := 23) rfl ?_
    refine eb_ctV (pc := 24) (As := [.ref s_trial, .int y8.toInt32]) (rest := []) rfl (by decide) rfl k6 (by decide) rfl (Nat.le_of_ble_eq_true rfl) ?_
    refine eb_Ct.mono w ?_
    rintro r h10 ⟨y11, rfl, ko12, w⟩
    change eb_Sn _ _ _ 27 _ [.int y11] _ _
    refine eb_if_ge (pc := 27) (tgt := 32) rfl (by decide) (fun c13 => ?_) (fun c13 => ?_)
    · replace w := w.1 c13
      refine eb_iinc (pc := 32) (i := 3) (n := 1) (v := x3 + 1) (ls2 := [(3, .int (x3 + 1)), (0, .ref s_EB), (1, .ref a1), (2, .int x2)]) (Nat.le_of_ble_eq_true rfl) rfl rfl rfl rfl ?_
      refine eb_goto (pc := 35) (tgt := 2) rfl (by decide) ?_
      exact eb_pick [1, 2, 3, 0] rfl w
    · replace w := w.2 c13
      refine eb_iconst (pc := 30) (n := 0) (v := 0) rfl rfl ?_
      exact eb_ireturn (pc := 31) rfl rfl (by decide) w
theorem T_X10_couldFly {d : Nat} {h : eb_H} {Q : Option Value → eb_H → Prop} (a1 : Nat) (x2 : Int32) (ka1 : eb_kd a1 = 8) (ko : eb_KO h) (w : eb_Sn (d + 1) m_X10_couldFly h 2 [(0, .ref s_EB), (1, .ref a1), (2, .int x2), (3, .int 0)] [] h Q) : eb_Ct (d + 1) 149 [.ref s_EB, .ref a1, .int x2] h Q :=
  eb_bodyQ (by decide) ok_X10_couldFly (Nat.le_of_ble_eq_true rfl) (b_X10_couldFly_0 (h0 := h) a1 x2 ka1 ko w)
theorem b_X10_windsOf_0 {d : Nat} {h0 h : eb_H} {Q : Option Value → eb_H → Prop} (a1 : Nat) (x2 : Int32) (ka1 : eb_kd a1 = 8) (ko : eb_KO h) (w : eb_Sn (d + 1) m_X10_windsOf h0 5 [(0, .ref s_EB), (1, .ref a1), (2, .int x2), (3, .int 0), (4, .int 0)] [] h Q) : eb_Sn (d + 1) m_X10_windsOf h0 0 [(0, .ref s_EB), (1, .ref a1), (2, .int x2)] [] h Q := by
  refine eb_iconst (pc := 0) (n := 0) (v := 0) rfl rfl ?_
  refine eb_istore_n (pc := 1) (n := 3) (i := 3) (ls2 := [(3, .int 0), (0, .ref s_EB), (1, .ref a1), (2, .int x2)]) rfl (Nat.le_of_ble_eq_true rfl) rfl rfl ?_
  refine eb_iconst (pc := 2) (n := 0) (v := 0) rfl rfl ?_
  refine eb_istore (pc := 3) (i := 4) (ls2 := [(4, .int 0), (3, .int 0), (0, .ref s_EB), (1, .ref a1), (2, .int x2)]) (Nat.le_of_ble_eq_true rfl) rfl rfl ?_
  exact eb_pick [2, 3, 4, 1, 0] rfl w
theorem b_X10_windsOf_5 {d : Nat} {h0 h : eb_H} {Q : Option Value → eb_H → Prop} (a1 : Nat) (x2 : Int32) (x3 : Int32) (x4 : Int32) (ka1 : eb_kd a1 = 8) (ko : eb_KO h) (w : (((9 : Int32) < x4 → Q (some (.int x3)) h) ∧ (¬ ((9 : Int32) < x4) → eb_Ct d 60 [.ref s_trial, .ref s_now] h (fun r h2 => r = none ∧ eb_KO h2 ∧ eb_Ct d 149 [.ref s_EB, .ref a1, .int x2] (eb_sI h2 s_trial 4 x4) (fun r h5 => ∃ y6, r = some (.int y6) ∧ eb_KO h5 ∧ ((y6 = 0 → eb_Sn (d + 1) m_X10_windsOf h0 5 [(0, .ref s_EB), (1, .ref a1), (2, .int x2), (3, .int x3), (4, .int (x4 + 1))] [] h5 Q) ∧ (¬ (y6 = 0) → eb_Sn (d + 1) m_X10_windsOf h0 5 [(0, .ref s_EB), (1, .ref a1), (2, .int x2), (3, .int (x3 ||| ((1 : Int32) <<< (x4 &&& 31)))), (4, .int (x4 + 1))] [] h5 Q))))))) : eb_Sn (d + 1) m_X10_windsOf h0 5 [(0, .ref s_EB), (1, .ref a1), (2, .int x2), (3, .int x3), (4, .int x4)] [] h Q := by
  refine eb_iload (pc := 5) (i := 4) rfl rfl ?_
  refine eb_bipush (pc := 7) (n := 9) (v := 9) rfl rfl ?_
  refine eb_icmp_gt (pc := 9) (tgt := 54) rfl (by decide) (fun c1 => ?_) (fun c1 => ?_)
  · replace w := w.1 c1
    refine eb_iload_n (pc := 54) (n := 3) (i := 3) rfl rfl rfl ?_
    exact eb_ireturn (pc := 55) rfl rfl rfl w
  · replace w := w.2 c1
    refine eb_aload_n (pc := 12) (n := 0) (i := 0) rfl rfl rfl ?_
    refine eb_getR (pc := 13) rfl rfl (by decide) (by decide) rfl (ko_s_EB_5 ko) ?_
    refine eb_aload_n (pc := 16) (n := 0) (i := 0) rfl rfl rfl ?_
    refine eb_getR (pc := 17) rfl rfl (by decide) (by decide) rfl (ko_s_EB_3 ko) ?_
    refine eb_ctV (pc := 20) (As := [.ref s_now]) (rest := []) rfl (by decide) rfl rfl (by decide) rfl (Nat.le_of_ble_eq_true rfl) ?_
    refine eb_Ct.mono w ?_
    rintro r h2 ⟨rfl, ko4, w⟩
    change eb_Sn _ _ _ 23 _ [] _ _
    refine eb_aload_n (pc := 23) (n := 0) (i := 0) rfl rfl rfl ?_
    refine eb_getR (pc := 24) rfl rfl (by decide) (by decide) rfl (ko_s_EB_5 ko4) ?_
    refine eb_iload (pc := 27) (i := 4) rfl rfl ?_
    refine eb_putI (pc := 29) rfl rfl (by decide) (by decide) rfl rfl ⟨rfl, rfl⟩ ?_
    refine eb_aload_n (pc := 32) (n := 0) (i := 0) rfl rfl rfl ?_
    refine eb_aload_n (pc := 33) (n := 1) (i := 1) rfl rfl rfl ?_
    refine eb_iload_n (pc := 34) (n := 2) (i := 2) rfl rfl rfl ?_
    refine eb_ctV (pc := 35) (As := [.ref a1, .int x2]) (rest := []) rfl (by decide) rfl rfl (by decide) rfl (Nat.le_of_ble_eq_true rfl) ?_
    refine eb_Ct.mono w ?_
    rintro r h5 ⟨y6, rfl, ko7, w⟩
    change eb_Sn _ _ _ 38 _ [.int y6] _ _
    refine eb_if_eq (pc := 38) (tgt := 48) rfl (by decide) (fun c8 => ?_) (fun c8 => ?_)
    · replace w := w.1 c8
      refine eb_iinc (pc := 48) (i := 4) (n := 1) (v := x4 + 1) (ls2 := [(4, .int (x4 + 1)), (0, .ref s_EB), (1, .ref a1), (2, .int x2), (3, .int x3)]) (Nat.le_of_ble_eq_true rfl) rfl rfl rfl rfl ?_
      refine eb_goto (pc := 51) (tgt := 5) rfl (by decide) ?_
      exact eb_pick [1, 2, 3, 4, 0] rfl w
    · replace w := w.2 c8
      refine eb_iload_n (pc := 41) (n := 3) (i := 3) rfl rfl rfl ?_
      refine eb_iconst (pc := 42) (n := 1) (v := 1) rfl rfl ?_
      refine eb_iload (pc := 43) (i := 4) rfl rfl ?_
      refine eb_ishl (pc := 45) rfl ?_
      refine eb_ior (pc := 46) rfl ?_
      refine eb_istore_n (pc := 47) (n := 3) (i := 3) (ls2 := [(3, .int (x3 ||| ((1 : Int32) <<< (x4 &&& 31)))), (0, .ref s_EB), (1, .ref a1), (2, .int x2), (4, .int x4)]) rfl (Nat.le_of_ble_eq_true rfl) rfl rfl ?_
      refine eb_iinc (pc := 48) (i := 4) (n := 1) (v := x4 + 1) (ls2 := [(4, .int (x4 + 1)), (3, .int (x3 ||| ((1 : Int32) <<< (x4 &&& 31)))), (0, .ref s_EB), (1, .ref a1), (2, .int x2)]) (Nat.le_of_ble_eq_true rfl) rfl rfl rfl rfl ?_
      refine eb_goto (pc := 51) (tgt := 5) rfl (by decide) ?_
      exact eb_pick [2, 3, 4, 1, 0] rfl w
theorem T_X10_windsOf {d : Nat} {h : eb_H} {Q : Option Value → eb_H → Prop} (a1 : Nat) (x2 : Int32) (ka1 : eb_kd a1 = 8) (ko : eb_KO h) (w : eb_Sn (d + 1) m_X10_windsOf h 5 [(0, .ref s_EB), (1, .ref a1), (2, .int x2), (3, .int 0), (4, .int 0)] [] h Q) : eb_Ct (d + 1) 150 [.ref s_EB, .ref a1, .int x2] h Q :=
  eb_bodyQ (by decide) ok_X10_windsOf (Nat.le_of_ble_eq_true rfl) (b_X10_windsOf_0 (h0 := h) a1 x2 ka1 ko w)
theorem b_X10_mostAlike_0 {d : Nat} {h0 h : eb_H} {Q : Option Value → eb_H → Prop} (x1 : Int32) (x2 : Int32)  (ko : eb_KO h) (w : eb_Sn (d + 1) m_X10_mostAlike h0 5 [(0, .ref s_EB), (1, .int x1), (2, .int x2), (3, .int 0), (4, .int 0)] [] h Q) : eb_Sn (d + 1) m_X10_mostAlike h0 0 [(0, .ref s_EB), (1, .int x1), (2, .int x2)] [] h Q := by
  refine eb_iconst (pc := 0) (n := 0) (v := 0) rfl rfl ?_
  refine eb_istore_n (pc := 1) (n := 3) (i := 3) (ls2 := [(3, .int 0), (0, .ref s_EB), (1, .int x1), (2, .int x2)]) rfl (Nat.le_of_ble_eq_true rfl) rfl rfl ?_
  refine eb_iconst (pc := 2) (n := 0) (v := 0) rfl rfl ?_
  refine eb_istore (pc := 3) (i := 4) (ls2 := [(4, .int 0), (3, .int 0), (0, .ref s_EB), (1, .int x1), (2, .int x2)]) (Nat.le_of_ble_eq_true rfl) rfl rfl ?_
  exact eb_pick [2, 3, 4, 1, 0] rfl w
theorem b_X10_mostAlike_5 {d : Nat} {h0 h : eb_H} {Q : Option Value → eb_H → Prop} (x1 : Int32) (x2 : Int32) (x3 : Int32) (x4 : Int32)  (ko : eb_KO h) (w : (((9 : Int32) < x4 → Q (some (.int x3)) h) ∧ (¬ ((9 : Int32) < x4) → ((¬ ((x1 >>> (x4 &&& 31)) &&& 1) = 0 → eb_Ct d 152 [.ref s_EB, .int x4, .int x2] h (fun r h3 => ∃ y4, r = some (.int y4) ∧ eb_KO h3 ∧ eb_Sn (d + 1) m_X10_mostAlike h0 42 [(0, .ref s_EB), (1, .int x1), (2, .int x2), (3, .int x3), (4, .int x4), (5, .int y4), (6, .int 1), (7, .int (x4 + 1))] [] h3 Q)) ∧ (((x1 >>> (x4 &&& 31)) &&& 1) = 0 → eb_Sn (d + 1) m_X10_mostAlike h0 5 [(0, .ref s_EB), (1, .int x1), (2, .int x2), (3, .int x3), (4, .int (x4 + 1))] [] h Q))))) : eb_Sn (d + 1) m_X10_mostAlike h0 5 [(0, .ref s_EB), (1, .int x1), (2, .int x2), (3, .int x3), (4, .int x4)] [] h Q := by
  refine eb_iload (pc := 5) (i := 4) rfl rfl ?_
  refine eb_bipush (pc := 7) (n := 9) (v := 9) rfl rfl ?_
  refine eb_icmp_gt (pc := 9) (tgt := 93) rfl (by decide) (fun c1 => ?_) (fun c1 => ?_)
  · replace w := w.1 c1
    refine eb_iload_n (pc := 93) (n := 3) (i := 3) rfl rfl rfl ?_
    exact eb_ireturn (pc := 94) rfl rfl rfl w
  · replace w := w.2 c1
    refine eb_iload_n (pc := 12) (n := 1) (i := 1) rfl rfl rfl ?_
    refine eb_iload (pc := 13) (i := 4) rfl rfl ?_
    refine eb_ishr (pc := 15) rfl ?_
    refine eb_iconst (pc := 16) (n := 1) (v := 1) rfl rfl ?_
    refine eb_iand (pc := 17) rfl ?_
    refine eb_if_ne (pc := 18) (tgt := 24) rfl (by decide) (fun c2 => ?_) (fun c2 => ?_)
    · replace w := w.1 c2
      refine eb_aload_n (pc := 24) (n := 0) (i := 0) rfl rfl rfl ?_
      refine eb_iload (pc := 25) (i := 4) rfl rfl ?_
      refine eb_iload_n (pc := 27) (n := 2) (i := 2) rfl rfl rfl ?_
      refine eb_ctV (pc := 28) (As := [.int x4, .int x2]) (rest := []) rfl (by decide) rfl rfl (by decide) rfl (Nat.le_of_ble_eq_true rfl) ?_
      refine eb_Ct.mono w ?_
      rintro r h3 ⟨y4, rfl, ko5, w⟩
      change eb_Sn _ _ _ 31 _ [.int y4] _ _
      refine eb_istore (pc := 31) (i := 5) (ls2 := [(5, .int y4), (0, .ref s_EB), (1, .int x1), (2, .int x2), (3, .int x3), (4, .int x4)]) (Nat.le_of_ble_eq_true rfl) rfl rfl ?_
      refine eb_iconst (pc := 33) (n := 1) (v := 1) rfl rfl ?_
      refine eb_istore (pc := 34) (i := 6) (ls2 := [(6, .int 1), (5, .int y4), (0, .ref s_EB), (1, .int x1), (2, .int x2), (3, .int x3), (4, .int x4)]) (Nat.le_of_ble_eq_true rfl) rfl rfl ?_
      refine eb_iload (pc := 36) (i := 4) rfl rfl ?_
      refine eb_iconst (pc := 38) (n := 1) (v := 1) rfl rfl ?_
      refine eb_iadd (pc := 39) rfl ?_
      refine eb_istore (pc := 40) (i := 7) (ls2 := [(7, .int (x4 + 1)), (6, .int 1), (5, .int y4), (0, .ref s_EB), (1, .int x1), (2, .int x2), (3, .int x3), (4, .int x4)]) (Nat.le_of_ble_eq_true rfl) rfl rfl ?_
      exact eb_pick [3, 4, 5, 6, 7, 2, 1, 0] rfl w
    · replace w := w.2 c2
      refine eb_goto (pc := 21) (tgt := 87) rfl (by decide) ?_
      refine eb_iinc (pc := 87) (i := 4) (n := 1) (v := x4 + 1) (ls2 := [(4, .int (x4 + 1)), (0, .ref s_EB), (1, .int x1), (2, .int x2), (3, .int x3)]) (Nat.le_of_ble_eq_true rfl) rfl rfl rfl rfl ?_
      refine eb_goto (pc := 90) (tgt := 5) rfl (by decide) ?_
      exact eb_pick [1, 2, 3, 4, 0] rfl w
theorem b_X10_mostAlike_42 {d : Nat} {h0 h : eb_H} {Q : Option Value → eb_H → Prop} (x1 : Int32) (x2 : Int32) (x3 : Int32) (x4 : Int32) (x5 : Int32) (x6 : Int32) (x7 : Int32)  (ko : eb_KO h) (w : (((9 : Int32) < x7 → eb_Ct d 286 [.int x3, .int x6] h (fun r h2 => ∃ y3, r = some (.int y3) ∧ eb_KO h2 ∧ eb_Sn (d + 1) m_X10_mostAlike h0 5 [(0, .ref s_EB), (1, .int x1), (2, .int x2), (3, .int y3), (4, .int (x4 + 1))] [] h2 Q)) ∧ (¬ ((9 : Int32) < x7) → ((¬ ((x1 >>> (x7 &&& 31)) &&& 1) = (1 : Int32) → eb_Sn (d + 1) m_X10_mostAlike h0 42 [(0, .ref s_EB), (1, .int x1), (2, .int x2), (3, .int x3), (4, .int x4), (5, .int x5), (6, .int x6), (7, .int (x7 + 1))] [] h Q) ∧ (((x1 >>> (x7 &&& 31)) &&& 1) = (1 : Int32) → eb_Ct d 152 [.ref s_EB, .int x7, .int x2] h (fun r h6 => ∃ y7, r = some (.int y7) ∧ eb_KO h6 ∧ ((¬ y7 = x5 → eb_Sn (d + 1) m_X10_mostAlike h0 42 [(0, .ref s_EB), (1, .int x1), (2, .int x2), (3, .int x3), (4, .int x4), (5, .int x5), (6, .int x6), (7, .int (x7 + 1))] [] h6 Q) ∧ (y7 = x5 → eb_Sn (d + 1) m_X10_mostAlike h0 42 [(0, .ref s_EB), (1, .int x1), (2, .int x2), (3, .int x3), (4, .int x4), (5, .int x5), (6, .int (x6 + 1)), (7, .int (x7 + 1))] [] h6 Q)))))))) : eb_Sn (d + 1) m_X10_mostAlike h0 42 [(0, .ref s_EB), (1, .int x1), (2, .int x2), (3, .int x3), (4, .int x4), (5, .int x5), (6, .int x6), (7, .int x7)] [] h Q := by
  refine eb_iload (pc := 42) (i := 7) rfl rfl ?_
  refine eb_bipush (pc := 44) (n := 9) (v := 9) rfl rfl ?_
  refine eb_icmp_gt (pc := 46) (tgt := 80) rfl (by decide) (fun c1 => ?_) (fun c1 => ?_)
  · replace w := w.1 c1
    refine eb_iload_n (pc := 80) (n := 3) (i := 3) rfl rfl rfl ?_
    refine eb_iload (pc := 81) (i := 6) rfl rfl ?_
    refine eb_ctS (pc := 83) (As := [.int x3, .int x6]) (rest := []) rfl (by decide) (by decide) rfl rfl (Nat.le_of_ble_eq_true rfl) ?_
    refine eb_Ct.mono w ?_
    rintro r h2 ⟨y3, rfl, ko4, w⟩
    change eb_Sn _ _ _ 86 _ [.int y3] _ _
    refine eb_istore_n (pc := 86) (n := 3) (i := 3) (ls2 := [(3, .int y3), (0, .ref s_EB), (1, .int x1), (2, .int x2), (4, .int x4), (5, .int x5), (6, .int x6), (7, .int x7)]) rfl (Nat.le_of_ble_eq_true rfl) rfl rfl ?_
    refine eb_iinc (pc := 87) (i := 4) (n := 1) (v := x4 + 1) (ls2 := [(4, .int (x4 + 1)), (3, .int y3), (0, .ref s_EB), (1, .int x1), (2, .int x2), (5, .int x5), (6, .int x6), (7, .int x7)]) (Nat.le_of_ble_eq_true rfl) rfl rfl rfl rfl ?_
    refine eb_goto (pc := 90) (tgt := 5) rfl (by decide) ?_
    exact eb_pick [2, 3, 4, 1, 0] rfl w
  · replace w := w.2 c1
    refine eb_iload_n (pc := 49) (n := 1) (i := 1) rfl rfl rfl ?_
    refine eb_iload (pc := 50) (i := 7) rfl rfl ?_
    refine eb_ishr (pc := 52) rfl ?_
    refine eb_iconst (pc := 53) (n := 1) (v := 1) rfl rfl ?_
    refine eb_iand (pc := 54) rfl ?_
    refine eb_iconst (pc := 55) (n := 1) (v := 1) rfl rfl ?_
    refine eb_icmp_ne (pc := 56) (tgt := 74) rfl (by decide) (fun c5 => ?_) (fun c5 => ?_)
    · replace w := w.1 c5
      refine eb_iinc (pc := 74) (i := 7) (n := 1) (v := x7 + 1) (ls2 := [(7, .int (x7 + 1)), (0, .ref s_EB), (1, .int x1), (2, .int x2), (3, .int x3), (4, .int x4), (5, .int x5), (6, .int x6)]) (Nat.le_of_ble_eq_true rfl) rfl rfl rfl rfl ?_
      refine eb_goto (pc := 77) (tgt := 42) rfl (by decide) ?_
      exact eb_pick [1, 2, 3, 4, 5, 6, 7, 0] rfl w
    · replace w := w.2 c5
      refine eb_aload_n (pc := 59) (n := 0) (i := 0) rfl rfl rfl ?_
      refine eb_iload (pc := 60) (i := 7) rfl rfl ?_
      refine eb_iload_n (pc := 62) (n := 2) (i := 2) rfl rfl rfl ?_
      refine eb_ctV (pc := 63) (As := [.int x7, .int x2]) (rest := []) rfl (by decide) rfl rfl (by decide) rfl (Nat.le_of_ble_eq_true rfl) ?_
      refine eb_Ct.mono w ?_
      rintro r h6 ⟨y7, rfl, ko8, w⟩
      change eb_Sn _ _ _ 66 _ [.int y7] _ _
      refine eb_iload (pc := 66) (i := 5) rfl rfl ?_
      refine eb_icmp_ne (pc := 68) (tgt := 74) rfl (by decide) (fun c9 => ?_) (fun c9 => ?_)
      · replace w := w.1 c9
        refine eb_iinc (pc := 74) (i := 7) (n := 1) (v := x7 + 1) (ls2 := [(7, .int (x7 + 1)), (0, .ref s_EB), (1, .int x1), (2, .int x2), (3, .int x3), (4, .int x4), (5, .int x5), (6, .int x6)]) (Nat.le_of_ble_eq_true rfl) rfl rfl rfl rfl ?_
        refine eb_goto (pc := 77) (tgt := 42) rfl (by decide) ?_
        exact eb_pick [1, 2, 3, 4, 5, 6, 7, 0] rfl w
      · replace w := w.2 c9
        refine eb_iinc (pc := 71) (i := 6) (n := 1) (v := x6 + 1) (ls2 := [(6, .int (x6 + 1)), (0, .ref s_EB), (1, .int x1), (2, .int x2), (3, .int x3), (4, .int x4), (5, .int x5), (7, .int x7)]) (Nat.le_of_ble_eq_true rfl) rfl rfl rfl rfl ?_
        refine eb_iinc (pc := 74) (i := 7) (n := 1) (v := x7 + 1) (ls2 := [(7, .int (x7 + 1)), (6, .int (x6 + 1)), (0, .ref s_EB), (1, .int x1), (2, .int x2), (3, .int x3), (4, .int x4), (5, .int x5)]) (Nat.le_of_ble_eq_true rfl) rfl rfl rfl rfl ?_
        refine eb_goto (pc := 77) (tgt := 42) rfl (by decide) ?_
        exact eb_pick [2, 3, 4, 5, 6, 7, 1, 0] rfl w
theorem T_X10_mostAlike {d : Nat} {h : eb_H} {Q : Option Value → eb_H → Prop} (x1 : Int32) (x2 : Int32)  (ko : eb_KO h) (w : eb_Sn (d + 1) m_X10_mostAlike h 5 [(0, .ref s_EB), (1, .int x1), (2, .int x2), (3, .int 0), (4, .int 0)] [] h Q) : eb_Ct (d + 1) 151 [.ref s_EB, .int x1, .int x2] h Q :=
  eb_bodyQ (by decide) ok_X10_mostAlike (Nat.le_of_ble_eq_true rfl) (b_X10_mostAlike_0 (h0 := h) x1 x2  ko w)
theorem b_X10_broughtBy_0 {d : Nat} {h0 h : eb_H} {Q : Option Value → eb_H → Prop} (x1 : Int32) (x2 : Int32)  (ko : eb_KO h) (w : eb_Ct d 60 [.ref s_trial, .ref s_now] h (fun r h1 => r = none ∧ eb_KO h1 ∧ ∃ r4, eb_R (eb_sI h1 s_trial 4 x1) s_EB 2 = some r4 ∧ eb_kd r4 = 9 ∧ eb_Ct d 90 [.ref r4, .ref s_trial, .int x2] (eb_sI h1 s_trial 4 x1) (fun r h7 => ∃ y8, r = some (.int y8) ∧ eb_KO h7 ∧ eb_Ct d 4 [.int (eb_I h7 s_trial 0), .int (eb_I h7 s_trial 1)] h7 (fun r h10 => ∃ y11, r = some (.int y11) ∧ eb_KO h10 ∧ Q (some (.int y11)) h10)))) : eb_Sn (d + 1) m_X10_broughtBy h0 0 [(0, .ref s_EB), (1, .int x1), (2, .int x2)] [] h Q := by
  refine eb_aload_n (pc := 0) (n := 0) (i := 0) rfl rfl rfl ?_
  refine eb_getR (pc := 1) rfl rfl (by decide) (by decide) rfl (ko_s_EB_5 ko) ?_
  refine eb_aload_n (pc := 4) (n := 0) (i := 0) rfl rfl rfl ?_
  refine eb_getR (pc := 5) rfl rfl (by decide) (by decide) rfl (ko_s_EB_3 ko) ?_
  refine eb_ctV (pc := 8) (As := [.ref s_now]) (rest := []) rfl (by decide) rfl rfl (by decide) rfl (Nat.le_of_ble_eq_true rfl) ?_
  refine eb_Ct.mono w ?_
  rintro r h1 ⟨rfl, ko3, w⟩
  change eb_Sn _ _ _ 11 _ [] _ _
  refine eb_aload_n (pc := 11) (n := 0) (i := 0) rfl rfl rfl ?_
  refine eb_getR (pc := 12) rfl rfl (by decide) (by decide) rfl (ko_s_EB_5 ko3) ?_
  refine eb_iload_n (pc := 15) (n := 1) (i := 1) rfl rfl rfl ?_
  refine eb_putI (pc := 16) rfl rfl (by decide) (by decide) rfl rfl ⟨rfl, rfl⟩ ?_
  refine eb_aload_n (pc := 19) (n := 0) (i := 0) rfl rfl rfl ?_
  obtain ⟨r4, q5, k6, w⟩ := w
  refine eb_getR (pc := 20) rfl rfl (by decide) (by decide) rfl q5 ?_
  refine eb_aload_n (pc := 23) (n := 0) (i := 0) rfl rfl rfl ?_
  refine eb_getR (pc := 24) rfl rfl (by decide) (by decide) rfl (ko_s_EB_5 ko3) ?_
  refine eb_iload_n (pc := 27) (n := 2) (i := 2) rfl rfl rfl ?_
  refine eb_ctV (pc := 28) (As := [.ref s_trial, .int x2]) (rest := []) rfl (by decide) rfl k6 (by decide) rfl (Nat.le_of_ble_eq_true rfl) ?_
  refine eb_Ct.mono w ?_
  rintro r h7 ⟨y8, rfl, ko9, w⟩
  change eb_Sn _ _ _ 31 _ [.int y8] _ _
  refine eb_popi (pc := 31) rfl ?_
  refine eb_aload_n (pc := 32) (n := 0) (i := 0) rfl rfl rfl ?_
  refine eb_getR (pc := 33) rfl rfl (by decide) (by decide) rfl (ko_s_EB_5 ko9) ?_
  refine eb_getI (pc := 36) rfl rfl (by decide) (by decide) rfl ?_
  refine eb_aload_n (pc := 39) (n := 0) (i := 0) rfl rfl rfl ?_
  refine eb_getR (pc := 40) rfl rfl (by decide) (by decide) rfl (ko_s_EB_5 ko9) ?_
  refine eb_getI (pc := 43) rfl rfl (by decide) (by decide) rfl ?_
  refine eb_ctS (pc := 46) (As := [.int (eb_I h7 s_trial 0), .int (eb_I h7 s_trial 1)]) (rest := []) rfl (by decide) (by decide) rfl rfl (Nat.le_of_ble_eq_true rfl) ?_
  refine eb_Ct.mono w ?_
  rintro r h10 ⟨y11, rfl, ko12, w⟩
  change eb_Sn _ _ _ 49 _ [.int y11] _ _
  exact eb_ireturn (pc := 49) rfl rfl rfl w
theorem T_X10_broughtBy {d : Nat} {h : eb_H} {Q : Option Value → eb_H → Prop} (x1 : Int32) (x2 : Int32)  (ko : eb_KO h) (w : eb_Ct d 60 [.ref s_trial, .ref s_now] h (fun r h1 => r = none ∧ eb_KO h1 ∧ ∃ r4, eb_R (eb_sI h1 s_trial 4 x1) s_EB 2 = some r4 ∧ eb_kd r4 = 9 ∧ eb_Ct d 90 [.ref r4, .ref s_trial, .int x2] (eb_sI h1 s_trial 4 x1) (fun r h7 => ∃ y8, r = some (.int y8) ∧ eb_KO h7 ∧ eb_Ct d 4 [.int (eb_I h7 s_trial 0), .int (eb_I h7 s_trial 1)] h7 (fun r h10 => ∃ y11, r = some (.int y11) ∧ eb_KO h10 ∧ Q (some (.int y11)) h10)))) : eb_Ct (d + 1) 152 [.ref s_EB, .int x1, .int x2] h Q :=
  eb_bodyQ (by decide) ok_X10_broughtBy (Nat.le_of_ble_eq_true rfl) (b_X10_broughtBy_0 (h0 := h) x1 x2  ko w)
theorem b_X10_isAt_0 {d : Nat} {h0 h : eb_H} {Q : Option Value → eb_H → Prop} (a1 : Nat) (x2 : Int32) (x3 : Int32) (ka1 : eb_kd a1 = 6) (ko : eb_KO h) (w : ∃ r1, eb_R h s_EB 2 = some r1 ∧ eb_kd r1 = 9 ∧ eb_Ct d 84 [.ref r1, .int x2] h (fun r h4 => ∃ y5, r = some (.int y5) ∧ eb_KO h4 ∧ Q (some (.int (if (eb_I h a1 0) = y5 then (if ((eb_I h4 a1 1) &&& x3) = x3 then 1 else 0) else 0 : Int32))) h4)) : eb_Sn (d + 1) m_X10_isAt h0 0 [(0, .ref s_EB), (1, .ref a1), (2, .int x2), (3, .int x3)] [] h Q := by
  refine eb_aload_n (pc := 0) (n := 1) (i := 1) rfl rfl rfl ?_
  refine eb_getI (pc := 1) rfl ka1 (by decide) (by decide) rfl ?_
  refine eb_aload_n (pc := 4) (n := 0) (i := 0) rfl rfl rfl ?_
  obtain ⟨r1, q2, k3, w⟩ := w
  refine eb_getR (pc := 5) rfl rfl (by decide) (by decide) rfl q2 ?_
  refine eb_iload_n (pc := 8) (n := 2) (i := 2) rfl rfl rfl ?_
  refine eb_ctV (pc := 9) (As := [.int x2]) (rest := [.int (eb_I h a1 0)]) rfl (by decide) rfl k3 (by decide) rfl (Nat.le_of_ble_eq_true rfl) ?_
  refine eb_Ct.mono w ?_
  rintro r h4 ⟨y5, rfl, ko6, w⟩
  change eb_Sn _ _ _ 12 _ [.int y5, .int (eb_I h a1 0)] _ _
  have jj9 : eb_Sn (d + 1) m_X10_isAt h0 30 [(0, .ref s_EB), (1, .ref a1), (2, .int x2), (3, .int x3)] [.int (if (eb_I h a1 0) = y5 then (if ((eb_I h4 a1 1) &&& x3) = x3 then 1 else 0) else 0 : Int32)] h4 Q := by
    exact eb_ireturn (pc := 30) rfl rfl (by (repeat' split) <;> rfl) w
  refine eb_icmp_ne (pc := 12) (tgt := 29) rfl (by decide) (fun c7 => ?_) (fun c7 => ?_)
  · refine eb_iconst (pc := 29) (n := 0) (v := 0) rfl rfl ?_
    simp only [if_neg c7] at jj9 ⊢
    exact jj9
  · refine eb_aload_n (pc := 15) (n := 1) (i := 1) rfl rfl rfl ?_
    refine eb_getI (pc := 16) rfl ka1 (by decide) (by decide) rfl ?_
    refine eb_iload_n (pc := 19) (n := 3) (i := 3) rfl rfl rfl ?_
    refine eb_iand (pc := 20) rfl ?_
    refine eb_iload_n (pc := 21) (n := 3) (i := 3) rfl rfl rfl ?_
    refine eb_icmp_ne (pc := 22) (tgt := 29) rfl (by decide) (fun c8 => ?_) (fun c8 => ?_)
    · refine eb_iconst (pc := 29) (n := 0) (v := 0) rfl rfl ?_
      simp only [if_pos c7, if_neg c8] at jj9 ⊢
      exact jj9
    · refine eb_iconst (pc := 25) (n := 1) (v := 1) rfl rfl ?_
      refine eb_goto (pc := 26) (tgt := 30) rfl (by decide) ?_
      simp only [if_pos c7, if_pos c8] at jj9 ⊢
      exact jj9
theorem T_X10_isAt {d : Nat} {h : eb_H} {Q : Option Value → eb_H → Prop} (a1 : Nat) (x2 : Int32) (x3 : Int32) (ka1 : eb_kd a1 = 6) (ko : eb_KO h) (w : ∃ r1, eb_R h s_EB 2 = some r1 ∧ eb_kd r1 = 9 ∧ eb_Ct d 84 [.ref r1, .int x2] h (fun r h4 => ∃ y5, r = some (.int y5) ∧ eb_KO h4 ∧ Q (some (.int (if (eb_I h a1 0) = y5 then (if ((eb_I h4 a1 1) &&& x3) = x3 then 1 else 0) else 0 : Int32))) h4)) : eb_Ct (d + 1) 153 [.ref s_EB, .ref a1, .int x2, .int x3] h Q :=
  eb_bodyQ (by decide) ok_X10_isAt (Nat.le_of_ble_eq_true rfl) (b_X10_isAt_0 (h0 := h) a1 x2 x3 ka1 ko w)
theorem b_X10_forcingStep_0 {d : Nat} {h0 h : eb_H} {Q : Option Value → eb_H → Prop} (x1 : Int32) (x2 : Int32)  (ko : eb_KO h) (w : eb_Sn (d + 1) m_X10_forcingStep h0 2 [(0, .ref s_EB), (1, .int x1), (2, .int x2), (3, .int 0)] [] h Q) : eb_Sn (d + 1) m_X10_forcingStep h0 0 [(0, .ref s_EB), (1, .int x1), (2, .int x2)] [] h Q := by
  refine eb_iconst (pc := 0) (n := 0) (v := 0) rfl rfl ?_
  refine eb_istore_n (pc := 1) (n := 3) (i := 3) (ls2 := [(3, .int 0), (0, .ref s_EB), (1, .int x1), (2, .int x2)]) rfl (Nat.le_of_ble_eq_true rfl) rfl rfl ?_
  exact eb_pick [1, 2, 3, 0] rfl w
theorem b_X10_forcingStep_2 {d : Nat} {h0 h : eb_H} {Q : Option Value → eb_H → Prop} (x1 : Int32) (x2 : Int32) (x3 : Int32)  (ko : eb_KO h) (w : (((4 : Int32) ≤ x3 → Q (some (.int (-1))) h) ∧ (¬ ((4 : Int32) ≤ x3) → eb_Ct d 60 [.ref s_trial, .ref s_now] h (fun r h2 => r = none ∧ eb_KO h2 ∧ ∃ r5, eb_R h2 s_EB 2 = some r5 ∧ eb_kd r5 = 9 ∧ eb_Ct d 90 [.ref r5, .ref s_trial, .int x3] h2 (fun r h8 => ∃ y9, r = some (.int y9) ∧ eb_KO h8 ∧ ((y9 < 0 → eb_Sn (d + 1) m_X10_forcingStep h0 2 [(0, .ref s_EB), (1, .int x1), (2, .int x2), (3, .int (x3 + 1))] [] h8 Q) ∧ (¬ (y9 < 0) → eb_Ct d 153 [.ref s_EB, .ref s_trial, .int x1, .int x2] h8 (fun r h12 => ∃ y13, r = some (.int y13) ∧ eb_KO h12 ∧ ((y13 = 0 → eb_Sn (d + 1) m_X10_forcingStep h0 2 [(0, .ref s_EB), (1, .int x1), (2, .int x2), (3, .int (x3 + 1))] [] h12 Q) ∧ (¬ (y13 = 0) → Q (some (.int x3)) h12)))))))))) : eb_Sn (d + 1) m_X10_forcingStep h0 2 [(0, .ref s_EB), (1, .int x1), (2, .int x2), (3, .int x3)] [] h Q := by
  refine eb_iload_n (pc := 2) (n := 3) (i := 3) rfl rfl rfl ?_
  refine eb_iconst (pc := 3) (n := 4) (v := 4) rfl rfl ?_
  refine eb_icmp_ge (pc := 4) (tgt := 54) rfl (by decide) (fun c1 => ?_) (fun c1 => ?_)
  · replace w := w.1 c1
    refine eb_iconst (pc := 54) (n := -1) (v := (-1)) rfl rfl ?_
    exact eb_ireturn (pc := 55) rfl rfl rfl w
  · replace w := w.2 c1
    refine eb_aload_n (pc := 7) (n := 0) (i := 0) rfl rfl rfl ?_
    refine eb_getR (pc := 8) rfl rfl (by decide) (by decide) rfl (ko_s_EB_5 ko) ?_
    refine eb_aload_n (pc := 11) (n := 0) (i := 0) rfl rfl rfl ?_
    refine eb_getR (pc := 12) rfl rfl (by decide) (by decide) rfl (ko_s_EB_3 ko) ?_
    refine eb_ctV (pc := 15) (As := [.ref s_now]) (rest := []) rfl (by decide) rfl rfl (by decide) rfl (Nat.le_of_ble_eq_true rfl) ?_
    refine eb_Ct.mono w ?_
    rintro r h2 ⟨rfl, ko4, w⟩
    change eb_Sn _ _ _ 18 _ [] _ _
    refine eb_aload_n (pc := 18) (n := 0) (i := 0) rfl rfl rfl ?_
    obtain ⟨r5, q6, k7, w⟩ := w
    refine eb_getR (pc := 19) rfl rfl (by decide) (by decide) rfl q6 ?_
    refine eb_aload_n (pc := 22) (n := 0) (i := 0) rfl rfl rfl ?_
    refine eb_getR (pc := 23) rfl rfl (by decide) (by decide) rfl (ko_s_EB_5 ko4) ?_
    refine eb_iload_n (pc := 26) (n := 3) (i := 3) rfl rfl rfl ?_
    refine eb_ctV (pc := 27) (As := [.ref s_trial, .int x3]) (rest := []) rfl (by decide) rfl k7 (by decide) rfl (Nat.le_of_ble_eq_true rfl) ?_
    refine eb_Ct.mono w ?_
    rintro r h8 ⟨y9, rfl, ko10, w⟩
    change eb_Sn _ _ _ 30 _ [.int y9] _ _
    refine eb_if_lt (pc := 30) (tgt := 48) rfl (by decide) (fun c11 => ?_) (fun c11 => ?_)
    · replace w := w.1 c11
      refine eb_iinc (pc := 48) (i := 3) (n := 1) (v := x3 + 1) (ls2 := [(3, .int (x3 + 1)), (0, .ref s_EB), (1, .int x1), (2, .int x2)]) (Nat.le_of_ble_eq_true rfl) rfl rfl rfl rfl ?_
      refine eb_goto (pc := 51) (tgt := 2) rfl (by decide) ?_
      exact eb_pick [1, 2, 3, 0] rfl w
    · replace w := w.2 c11
      refine eb_aload_n (pc := 33) (n := 0) (i := 0) rfl rfl rfl ?_
      refine eb_aload_n (pc := 34) (n := 0) (i := 0) rfl rfl rfl ?_
      refine eb_getR (pc := 35) rfl rfl (by decide) (by decide) rfl (ko_s_EB_5 ko10) ?_
      refine eb_iload_n (pc := 38) (n := 1) (i := 1) rfl rfl rfl ?_
      refine eb_iload_n (pc := 39) (n := 2) (i := 2) rfl rfl rfl ?_
      refine eb_ctV (pc := 40) (As := [.ref s_trial, .int x1, .int x2]) (rest := []) rfl (by decide) rfl rfl (by decide) rfl (Nat.le_of_ble_eq_true rfl) ?_
      refine eb_Ct.mono w ?_
      rintro r h12 ⟨y13, rfl, ko14, w⟩
      change eb_Sn _ _ _ 43 _ [.int y13] _ _
      refine eb_if_eq (pc := 43) (tgt := 48) rfl (by decide) (fun c15 => ?_) (fun c15 => ?_)
      · replace w := w.1 c15
        refine eb_iinc (pc := 48) (i := 3) (n := 1) (v := x3 + 1) (ls2 := [(3, .int (x3 + 1)), (0, .ref s_EB), (1, .int x1), (2, .int x2)]) (Nat.le_of_ble_eq_true rfl) rfl rfl rfl rfl ?_
        refine eb_goto (pc := 51) (tgt := 2) rfl (by decide) ?_
        exact eb_pick [1, 2, 3, 0] rfl w
      · replace w := w.2 c15
        refine eb_iload_n (pc := 46) (n := 3) (i := 3) rfl rfl rfl ?_
        exact eb_ireturn (pc := 47) rfl rfl rfl w
theorem T_X10_forcingStep {d : Nat} {h : eb_H} {Q : Option Value → eb_H → Prop} (x1 : Int32) (x2 : Int32)  (ko : eb_KO h) (w : eb_Sn (d + 1) m_X10_forcingStep h 2 [(0, .ref s_EB), (1, .int x1), (2, .int x2), (3, .int 0)] [] h Q) : eb_Ct (d + 1) 154 [.ref s_EB, .int x1, .int x2] h Q :=
  eb_bodyQ (by decide) ok_X10_forcingStep (Nat.le_of_ble_eq_true rfl) (b_X10_forcingStep_0 (h0 := h) x1 x2  ko w)
theorem b_X10_partOfAll_0 {d : Nat} {h0 h : eb_H} {Q : Option Value → eb_H → Prop} (x0 : Int64) (x2 : Int32) (x3 : Int32)  (ko : eb_KO h) (w : eb_Sn d m_X10_partOfAll h0 13 [(3, .int x3), (4, .long x0), (6, .long ((1 : Int64) <<< (((2 : Int32) * x2).toInt64 &&& 63))), (8, .int 0)] [] h Q) : eb_Sn d m_X10_partOfAll h0 0 [(0, .long x0), (2, .int x2), (3, .int x3)] [] h Q := by
  refine eb_lload_n (pc := 0) (n := 0) (i := 0) rfl rfl rfl ?_
  refine eb_lstore (pc := 1) (i := 4) (ls2 := [(4, .long x0), (0, .long x0), (2, .int x2), (3, .int x3)]) (Nat.le_of_ble_eq_true rfl) rfl rfl ?_
  refine eb_lconst (pc := 3) (n := 1) (v := 1) rfl rfl ?_
  refine eb_iconst (pc := 4) (n := 2) (v := 2) rfl rfl ?_
  refine eb_iload_n (pc := 5) (n := 2) (i := 2) rfl rfl rfl ?_
  refine eb_imul (pc := 6) rfl ?_
  refine eb_lshl (pc := 7) rfl ?_
  refine eb_lstore (pc := 8) (i := 6) (ls2 := [(6, .long ((1 : Int64) <<< (((2 : Int32) * x2).toInt64 &&& 63))), (4, .long x0), (0, .long x0), (2, .int x2), (3, .int x3)]) (Nat.le_of_ble_eq_true rfl) rfl rfl ?_
  refine eb_iconst (pc := 10) (n := 0) (v := 0) rfl rfl ?_
  refine eb_istore (pc := 11) (i := 8) (ls2 := [(8, .int 0), (6, .long ((1 : Int64) <<< (((2 : Int32) * x2).toInt64 &&& 63))), (4, .long x0), (0, .long x0), (2, .int x2), (3, .int x3)]) (Nat.le_of_ble_eq_true rfl) rfl rfl ?_
  exact eb_pick [5, 2, 1, 0] rfl w
theorem b_X10_partOfAll_13 {d : Nat} {h0 h : eb_H} {Q : Option Value → eb_H → Prop} (x3 : Int32) (x4 : Int64) (x6 : Int64) (x8 : Int32)  (ko : eb_KO h) (w : (((16 : Int32) ≤ x8 → Q (some (.int ((if x3 = 0 then x4 else x6 : Int64).toInt32))) h) ∧ (¬ ((16 : Int32) ≤ x8) → ((x6 ≤ 1 → Q (some (.int ((if x3 = 0 then x4 else x6 : Int64).toInt32))) h) ∧ (¬ (x6 ≤ 1) → ((¬ (x4 &&& 1) = 0 → Q (some (.int ((if x3 = 0 then x4 else x6 : Int64).toInt32))) h) ∧ ((x4 &&& 1) = 0 → eb_Sn d m_X10_partOfAll h0 13 [(3, .int x3), (4, .long (x4 >>> ((1 : Int32).toInt64 &&& 63))), (6, .long (x6 >>> ((1 : Int32).toInt64 &&& 63))), (8, .int (x8 + 1))] [] h Q))))))) : eb_Sn d m_X10_partOfAll h0 13 [(3, .int x3), (4, .long x4), (6, .long x6), (8, .int x8)] [] h Q := by
  refine eb_iload (pc := 13) (i := 8) rfl rfl ?_
  refine eb_bipush (pc := 15) (n := 16) (v := 16) rfl rfl ?_
  refine eb_icmp_ge (pc := 17) (tgt := 54) rfl (by decide) (fun c1 => ?_) (fun c1 => ?_)
  · replace w := w.1 c1
    refine eb_iload_n (pc := 54) (n := 3) (i := 3) rfl rfl rfl ?_
    have jj3 : eb_Sn d m_X10_partOfAll h0 65 [(3, .int x3), (4, .long x4), (6, .long x6), (8, .int x8)] [.long (if x3 = 0 then x4 else x6 : Int64)] h Q := by
      refine eb_l2i (pc := 65) rfl ?_
      exact eb_ireturn (pc := 66) rfl rfl rfl w
    refine eb_if_ne (pc := 55) (tgt := 63) rfl (by decide) (fun c2 => ?_) (fun c2 => ?_)
    · refine eb_lload (pc := 63) (i := 6) rfl rfl ?_
      simp only [if_neg c2] at jj3 ⊢
      exact jj3
    · refine eb_lload (pc := 58) (i := 4) rfl rfl ?_
      refine eb_goto (pc := 60) (tgt := 65) rfl (by decide) ?_
      simp only [if_pos c2] at jj3 ⊢
      exact jj3
  · replace w := w.2 c1
    refine eb_lload (pc := 20) (i := 6) rfl rfl ?_
    refine eb_lconst (pc := 22) (n := 1) (v := 1) rfl rfl ?_
    refine eb_lcmp (pc := 23) rfl ?_
    refine eb_if_le (pc := 24) (tgt := 54) rfl (by decide) (fun c4 => ?_) (fun c4 => ?_)
    · replace c4 := eb_lc_le.mp c4
      replace w := w.1 c4
      refine eb_iload_n (pc := 54) (n := 3) (i := 3) rfl rfl rfl ?_
      have jj6 : eb_Sn d m_X10_partOfAll h0 65 [(3, .int x3), (4, .long x4), (6, .long x6), (8, .int x8)] [.long (if x3 = 0 then x4 else x6 : Int64)] h Q := by
        refine eb_l2i (pc := 65) rfl ?_
        exact eb_ireturn (pc := 66) rfl rfl rfl w
      refine eb_if_ne (pc := 55) (tgt := 63) rfl (by decide) (fun c5 => ?_) (fun c5 => ?_)
      · refine eb_lload (pc := 63) (i := 6) rfl rfl ?_
        simp only [if_neg c5] at jj6 ⊢
        exact jj6
      · refine eb_lload (pc := 58) (i := 4) rfl rfl ?_
        refine eb_goto (pc := 60) (tgt := 65) rfl (by decide) ?_
        simp only [if_pos c5] at jj6 ⊢
        exact jj6
    · replace c4 := (fun hh => mt eb_lc_le.mpr hh) c4
      replace w := w.2 c4
      refine eb_lload (pc := 27) (i := 4) rfl rfl ?_
      refine eb_lconst (pc := 29) (n := 1) (v := 1) rfl rfl ?_
      refine eb_land (pc := 30) rfl ?_
      refine eb_lconst (pc := 31) (n := 0) (v := 0) rfl rfl ?_
      refine eb_lcmp (pc := 32) rfl ?_
      refine eb_if_ne (pc := 33) (tgt := 54) rfl (by decide) (fun c7 => ?_) (fun c7 => ?_)
      · replace c7 := eb_lc_ne.mp c7
        replace w := w.1 c7
        refine eb_iload_n (pc := 54) (n := 3) (i := 3) rfl rfl rfl ?_
        have jj9 : eb_Sn d m_X10_partOfAll h0 65 [(3, .int x3), (4, .long x4), (6, .long x6), (8, .int x8)] [.long (if x3 = 0 then x4 else x6 : Int64)] h Q := by
          refine eb_l2i (pc := 65) rfl ?_
          exact eb_ireturn (pc := 66) rfl rfl rfl w
        refine eb_if_ne (pc := 55) (tgt := 63) rfl (by decide) (fun c8 => ?_) (fun c8 => ?_)
        · refine eb_lload (pc := 63) (i := 6) rfl rfl ?_
          simp only [if_neg c8] at jj9 ⊢
          exact jj9
        · refine eb_lload (pc := 58) (i := 4) rfl rfl ?_
          refine eb_goto (pc := 60) (tgt := 65) rfl (by decide) ?_
          simp only [if_pos c8] at jj9 ⊢
          exact jj9
      · replace c7 := eb_lc_eq.mp c7
        replace w := w.2 c7
        refine eb_lload (pc := 36) (i := 4) rfl rfl ?_
        refine eb_iconst (pc := 38) (n := 1) (v := 1) rfl rfl ?_
        refine eb_lshr (pc := 39) rfl ?_
        refine eb_lstore (pc := 40) (i := 4) (ls2 := [(4, .long (x4 >>> ((1 : Int32).toInt64 &&& 63))), (3, .int x3), (6, .long x6), (8, .int x8)]) (Nat.le_of_ble_eq_true rfl) rfl rfl ?_
        refine eb_lload (pc := 42) (i := 6) rfl rfl ?_
        refine eb_iconst (pc := 44) (n := 1) (v := 1) rfl rfl ?_
        refine eb_lshr (pc := 45) rfl ?_
        refine eb_lstore (pc := 46) (i := 6) (ls2 := [(6, .long (x6 >>> ((1 : Int32).toInt64 &&& 63))), (4, .long (x4 >>> ((1 : Int32).toInt64 &&& 63))), (3, .int x3), (8, .int x8)]) (Nat.le_of_ble_eq_true rfl) rfl rfl ?_
        refine eb_iinc (pc := 48) (i := 8) (n := 1) (v := x8 + 1) (ls2 := [(8, .int (x8 + 1)), (6, .long (x6 >>> ((1 : Int32).toInt64 &&& 63))), (4, .long (x4 >>> ((1 : Int32).toInt64 &&& 63))), (3, .int x3)]) (Nat.le_of_ble_eq_true rfl) rfl rfl rfl rfl ?_
        refine eb_goto (pc := 51) (tgt := 13) rfl (by decide) ?_
        exact eb_pick [3, 2, 1, 0] rfl w
theorem T_X10_partOfAll {d : Nat} {h : eb_H} {Q : Option Value → eb_H → Prop} (x0 : Int64) (x2 : Int32) (x3 : Int32)  (ko : eb_KO h) (w : eb_Sn d m_X10_partOfAll h 13 [(3, .int x3), (4, .long x0), (6, .long ((1 : Int64) <<< (((2 : Int32) * x2).toInt64 &&& 63))), (8, .int 0)] [] h Q) : eb_Ct d 155 [.long x0, .int x2, .int x3] h Q :=
  eb_bodyQ (by decide) ok_X10_partOfAll (Nat.le_of_ble_eq_true rfl) (b_X10_partOfAll_0 (h0 := h) x0 x2 x3  ko w)
theorem b_X11_within_0 {d : Nat} {h0 h : eb_H} {Q : Option Value → eb_H → Prop} (x0 : Int64) (x2 : Int64) (x4 : Int64)  (ko : eb_KO h) (w : Q (some (.int (if x0 < x2 then 0 else (if x4 < x0 then 0 else 1) : Int32))) h) : eb_Sn d m_X11_within h0 0 [(0, .long x0), (2, .long x2), (4, .long x4)] [] h Q := by
  refine eb_lload_n (pc := 0) (n := 0) (i := 0) rfl rfl rfl ?_
  refine eb_lload_n (pc := 1) (n := 2) (i := 2) rfl rfl rfl ?_
  refine eb_lcmp (pc := 2) rfl ?_
  have jj3 : eb_Sn d m_X11_within h0 18 [(0, .long x0), (2, .long x2), (4, .long x4)] [.int (if x0 < x2 then 0 else (if x4 < x0 then 0 else 1) : Int32)] h Q := by
    exact eb_ireturn (pc := 18) rfl rfl (by (repeat' split) <;> rfl) w
  refine eb_if_lt (pc := 3) (tgt := 17) rfl (by decide) (fun c1 => ?_) (fun c1 => ?_)
  · replace c1 := eb_lc_lt.mp c1
    refine eb_iconst (pc := 17) (n := 0) (v := 0) rfl rfl ?_
    simp only [if_pos c1] at jj3 ⊢
    exact jj3
  · replace c1 := (fun hh => mt eb_lc_lt.mpr hh) c1
    refine eb_lload_n (pc := 6) (n := 0) (i := 0) rfl rfl rfl ?_
    refine eb_lload (pc := 7) (i := 4) rfl rfl ?_
    refine eb_lcmp (pc := 9) rfl ?_
    refine eb_if_gt (pc := 10) (tgt := 17) rfl (by decide) (fun c2 => ?_) (fun c2 => ?_)
    · replace c2 := eb_lc_gt.mp c2
      refine eb_iconst (pc := 17) (n := 0) (v := 0) rfl rfl ?_
      simp only [if_neg c1, if_pos c2] at jj3 ⊢
      exact jj3
    · replace c2 := (fun hh => mt eb_lc_gt.mpr hh) c2
      refine eb_iconst (pc := 13) (n := 1) (v := 1) rfl rfl ?_
      refine eb_goto (pc := 14) (tgt := 18) rfl (by decide) ?_
      simp only [if_neg c1, if_neg c2] at jj3 ⊢
      exact jj3
theorem T_X11_within {d : Nat} {h : eb_H} {Q : Option Value → eb_H → Prop} (x0 : Int64) (x2 : Int64) (x4 : Int64)  (ko : eb_KO h) (w : Q (some (.int (if x0 < x2 then 0 else (if x4 < x0 then 0 else 1) : Int32))) h) : eb_Ct d 156 [.long x0, .long x2, .long x4] h Q :=
  eb_bodyQ (by decide) ok_X11_within (Nat.le_of_ble_eq_true rfl) (b_X11_within_0 (h0 := h) x0 x2 x4  ko w)
theorem b_X11_plain_0 {d : Nat} {h0 h : eb_H} {Q : Option Value → eb_H → Prop} (a0 : Nat) (ka0 : eb_kd a0 = 13) (ko : eb_KO h) (w : eb_Sn d m_X11_plain h0 2 [(0, .ref a0), (1, .int 0)] [] h Q) : eb_Sn d m_X11_plain h0 0 [(0, .ref a0)] [] h Q := by
  refine eb_iconst (pc := 0) (n := 0) (v := 0) rfl rfl ?_
  refine eb_istore_n (pc := 1) (n := 1) (i := 1) (ls2 := [(1, .int 0), (0, .ref a0)]) rfl (Nat.le_of_ble_eq_true rfl) rfl rfl ?_
  exact eb_pick [1, 0] rfl w
theorem b_X11_plain_2 {d : Nat} {h0 h : eb_H} {Q : Option Value → eb_H → Prop} (a0 : Nat) (x1 : Int32) (ka0 : eb_kd a0 = 13) (ko : eb_KO h) (w : (((1164 : Int32) ≤ x1 → (vp_in (1 : Int32) (eb_ln a0)) ∧ (vp_in (2 : Int32) (eb_ln a0)) ∧ (vp_in (3 : Int32) (eb_ln a0)) ∧ Q none (eb_sI (eb_sI (eb_sI h a0 (1 : Int32).toNatClampNeg 1) a0 (2 : Int32).toNatClampNeg 1) a0 (3 : Int32).toNatClampNeg 3)) ∧ (¬ ((1164 : Int32) ≤ x1) → (vp_in x1 (eb_ln a0)) ∧ eb_Sn d m_X11_plain h0 2 [(0, .ref a0), (1, .int (x1 + 1))] [] (eb_sI h a0 x1.toNatClampNeg 0) Q))) : eb_Sn d m_X11_plain h0 2 [(0, .ref a0), (1, .int x1)] [] h Q := by
  refine eb_iload_n (pc := 2) (n := 1) (i := 1) rfl rfl rfl ?_
  refine eb_sipush (pc := 3) (n := 1164) (v := 1164) rfl rfl ?_
  refine eb_icmp_ge (pc := 6) (tgt := 19) rfl (by decide) (fun c1 => ?_) (fun c1 => ?_)
  · replace w := w.1 c1
    refine eb_aload_n (pc := 19) (n := 0) (i := 0) rfl rfl rfl ?_
    refine eb_iconst (pc := 20) (n := 1) (v := 1) rfl rfl ?_
    refine eb_iconst (pc := 21) (n := 1) (v := 1) rfl rfl ?_
    obtain ⟨c2, w⟩ := w
    refine eb_iastore (pc := 22) rfl ka0 c2 ?_
    refine eb_aload_n (pc := 23) (n := 0) (i := 0) rfl rfl rfl ?_
    refine eb_iconst (pc := 24) (n := 2) (v := 2) rfl rfl ?_
    refine eb_iconst (pc := 25) (n := 1) (v := 1) rfl rfl ?_
    obtain ⟨c3, w⟩ := w
    refine eb_iastore (pc := 26) rfl ka0 c3 ?_
    refine eb_aload_n (pc := 27) (n := 0) (i := 0) rfl rfl rfl ?_
    refine eb_iconst (pc := 28) (n := 3) (v := 3) rfl rfl ?_
    refine eb_iconst (pc := 29) (n := 3) (v := 3) rfl rfl ?_
    obtain ⟨c4, w⟩ := w
    refine eb_iastore (pc := 30) rfl ka0 c4 ?_
    exact eb_return (pc := 31) rfl rfl w
  · replace w := w.2 c1
    refine eb_aload_n (pc := 9) (n := 0) (i := 0) rfl rfl rfl ?_
    refine eb_iload_n (pc := 10) (n := 1) (i := 1) rfl rfl rfl ?_
    refine eb_iconst (pc := 11) (n := 0) (v := 0) rfl rfl ?_
    obtain ⟨c5, w⟩ := w
    refine eb_iastore (pc := 12) rfl ka0 c5 ?_
    refine eb_iinc (pc := 13) (i := 1) (n := 1) (v := x1 + 1) (ls2 := [(1, .int (x1 + 1)), (0, .ref a0)]) (Nat.le_of_ble_eq_true rfl) rfl rfl rfl rfl ?_
    refine eb_goto (pc := 16) (tgt := 2) rfl (by decide) ?_
    exact eb_pick [1, 0] rfl w
theorem T_X11_plain {d : Nat} {h : eb_H} {Q : Option Value → eb_H → Prop} (a0 : Nat) (ka0 : eb_kd a0 = 13) (ko : eb_KO h) (w : eb_Sn d m_X11_plain h 2 [(0, .ref a0), (1, .int 0)] [] h Q) : eb_Ct d 158 [.ref a0] h Q :=
  eb_bodyQ (by decide) ok_X11_plain (Nat.le_of_ble_eq_true rfl) (b_X11_plain_0 (h0 := h) a0 ka0 ko w)
theorem b_X11_feed_0 {d : Nat} {h0 h : eb_H} {Q : Option Value → eb_H → Prop} (x1 : Int32) (x2 : Int32) (x3 : Int32) (x4 : Int32) (x5 : Int32)  (ko : eb_KO h) (w : ((((eb_I (eb_sI h s_MO 0 0) s_MO 5) + 20) ≤ (900 : Int32) → eb_Sn d m_X11_feed h0 24 [(0, .ref s_MO), (1, .int x1), (2, .int x2), (3, .int x3), (4, .int x4), (5, .int x5), (6, .int 0)] [] (eb_sI h s_MO 0 0) Q) ∧ (¬ (((eb_I (eb_sI h s_MO 0 0) s_MO 5) + 20) ≤ (900 : Int32)) → Q (some (.int (-5))) (eb_sI h s_MO 0 0)))) : eb_Sn d m_X11_feed h0 0 [(0, .ref s_MO), (1, .int x1), (2, .int x2), (3, .int x3), (4, .int x4), (5, .int x5)] [] h Q := by
  refine eb_aload_n (pc := 0) (n := 0) (i := 0) rfl rfl rfl ?_
  refine eb_iconst (pc := 1) (n := 0) (v := 0) rfl rfl ?_
  refine eb_putI (pc := 2) rfl rfl (by decide) (by decide) rfl rfl ⟨rfl, rfl⟩ ?_
  refine eb_aload_n (pc := 5) (n := 0) (i := 0) rfl rfl rfl ?_
  refine eb_getI (pc := 6) rfl rfl (by decide) (by decide) rfl ?_
  refine eb_bipush (pc := 9) (n := 20) (v := 20) rfl rfl ?_
  refine eb_iadd (pc := 11) rfl ?_
  refine eb_sipush (pc := 12) (n := 900) (v := 900) rfl rfl ?_
  refine eb_icmp_le (pc := 15) (tgt := 21) rfl (by decide) (fun c1 => ?_) (fun c1 => ?_)
  · replace w := w.1 c1
    refine eb_iconst (pc := 21) (n := 0) (v := 0) rfl rfl ?_
    refine eb_istore (pc := 22) (i := 6) (ls2 := [(6, .int 0), (0, .ref s_MO), (1, .int x1), (2, .int x2), (3, .int x3), (4, .int x4), (5, .int x5)]) (Nat.le_of_ble_eq_true rfl) rfl rfl ?_
    exact eb_pick [1, 2, 3, 4, 5, 6, 0] rfl w
  · replace w := w.2 c1
    refine eb_bipush (pc := 18) (n := -5) (v := (-5)) rfl rfl ?_
    exact eb_ireturn (pc := 20) rfl rfl rfl w
theorem b_X11_feed_24 {d : Nat} {h0 h : eb_H} {Q : Option Value → eb_H → Prop} (x1 : Int32) (x2 : Int32) (x3 : Int32) (x4 : Int32) (x5 : Int32) (x6 : Int32)  (ko : eb_KO h) (w : (((20 : Int32) ≤ x6 → Q (some (.int (eb_I h s_MO 5))) h) ∧ (¬ ((20 : Int32) ≤ x6) → (vp_in (eb_I h s_MO 5) 900) ∧ eb_Sn d m_X11_feed h0 24 [(0, .ref s_MO), (1, .int x1), (2, .int x2), (3, .int x3), (4, .int x4), (5, .int x5), (6, .int (x6 + 1))] [] (eb_sI (eb_sI h s_m_tape (eb_I h s_MO 5).toNatClampNeg (((if (4 : Int32) ≤ x6 then (if (8 : Int32) ≤ x6 then (if (12 : Int32) ≤ x6 then (if (16 : Int32) ≤ x6 then x5 else x4) else x3) else x2) else x1 : Int32) >>> (((24 : Int32) - ((8 : Int32) * (x6 - x6 / 4 * 4))) &&& 31)) &&& 255)) s_MO 5 ((eb_I (eb_sI h s_m_tape (eb_I h s_MO 5).toNatClampNeg (((if (4 : Int32) ≤ x6 then (if (8 : Int32) ≤ x6 then (if (12 : Int32) ≤ x6 then (if (16 : Int32) ≤ x6 then x5 else x4) else x3) else x2) else x1 : Int32) >>> (((24 : Int32) - ((8 : Int32) * (x6 - x6 / 4 * 4))) &&& 31)) &&& 255)) s_MO 5) + 1)) Q))) : eb_Sn d m_X11_feed h0 24 [(0, .ref s_MO), (1, .int x1), (2, .int x2), (3, .int x3), (4, .int x4), (5, .int x5), (6, .int x6)] [] h Q := by
  refine eb_iload (pc := 24) (i := 6) rfl rfl ?_
  refine eb_bipush (pc := 26) (n := 20) (v := 20) rfl rfl ?_
  refine eb_icmp_ge (pc := 28) (tgt := 121) rfl (by decide) (fun c1 => ?_) (fun c1 => ?_)
  · replace w := w.1 c1
    refine eb_aload_n (pc := 121) (n := 0) (i := 0) rfl rfl rfl ?_
    refine eb_getI (pc := 122) rfl rfl (by decide) (by decide) rfl ?_
    exact eb_ireturn (pc := 125) rfl rfl rfl w
  · replace w := w.2 c1
    refine eb_iload (pc := 31) (i := 6) rfl rfl ?_
    refine eb_iconst (pc := 33) (n := 4) (v := 4) rfl rfl ?_
    have jj7 : eb_Sn d m_X11_feed h0 77 [(0, .ref s_MO), (1, .int x1), (2, .int x2), (3, .int x3), (4, .int x4), (5, .int x5), (6, .int x6)] [.int (if (4 : Int32) ≤ x6 then (if (8 : Int32) ≤ x6 then (if (12 : Int32) ≤ x6 then (if (16 : Int32) ≤ x6 then x5 else x4) else x3) else x2) else x1 : Int32)] h Q := by
      refine eb_istore (pc := 77) (i := 7) (ls2 := [(7, .int (if (4 : Int32) ≤ x6 then (if (8 : Int32) ≤ x6 then (if (12 : Int32) ≤ x6 then (if (16 : Int32) ≤ x6 then x5 else x4) else x3) else x2) else x1 : Int32)), (0, .ref s_MO), (1, .int x1), (2, .int x2), (3, .int x3), (4, .int x4), (5, .int x5), (6, .int x6)]) (Nat.le_of_ble_eq_true rfl) rfl rfl ?_
      refine eb_aload_n (pc := 79) (n := 0) (i := 0) rfl rfl rfl ?_
      refine eb_getR (pc := 80) rfl rfl (by decide) (by decide) rfl (ko_s_MO_3 ko) ?_
      refine eb_aload_n (pc := 83) (n := 0) (i := 0) rfl rfl rfl ?_
      refine eb_getI (pc := 84) rfl rfl (by decide) (by decide) rfl ?_
      refine eb_iload (pc := 87) (i := 7) rfl rfl ?_
      refine eb_bipush (pc := 89) (n := 24) (v := 24) rfl rfl ?_
      refine eb_bipush (pc := 91) (n := 8) (v := 8) rfl rfl ?_
      refine eb_iload (pc := 93) (i := 6) rfl rfl ?_
      refine eb_iconst (pc := 95) (n := 4) (v := 4) rfl rfl ?_
      refine eb_irem (pc := 96) (by decide) rfl ?_
      refine eb_imul (pc := 97) rfl ?_
      refine eb_isub (pc := 98) rfl ?_
      refine eb_ishr (pc := 99) rfl ?_
      refine eb_sipush (pc := 100) (n := 255) (v := 255) rfl rfl ?_
      refine eb_iand (pc := 103) rfl ?_
      obtain ⟨c6, w⟩ := w
      refine eb_iastore (pc := 104) rfl rfl c6 ?_
      refine eb_aload_n (pc := 105) (n := 0) (i := 0) rfl rfl rfl ?_
      refine eb_dupr (pc := 106) rfl ?_
      refine eb_getI (pc := 107) rfl rfl (by decide) (by decide) rfl ?_
      refine eb_iconst (pc := 110) (n := 1) (v := 1) rfl rfl ?_
      refine eb_iadd (pc := 111) rfl ?_
      refine eb_putI (pc := 112) rfl rfl (by decide) (by decide) rfl rfl ⟨rfl, rfl⟩ ?_
      refine eb_iinc (pc := 115) (i := 6) (n := 1) (v := x6 + 1) (ls2 := [(6, .int (x6 + 1)), (7, .int (if (4 : Int32) ≤ x6 then (if (8 : Int32) ≤ x6 then (if (12 : Int32) ≤ x6 then (if (16 : Int32) ≤ x6 then x5 else x4) else x3) else x2) else x1 : Int32)), (0, .ref s_MO), (1, .int x1), (2, .int x2), (3, .int x3), (4, .int x4), (5, .int x5)]) (Nat.le_of_ble_eq_true rfl) rfl rfl rfl rfl ?_
      refine eb_goto (pc := 118) (tgt := 24) rfl (by decide) ?_
      exact eb_pick [2, 3, 4, 5, 6, 7, 0] rfl w
    refine eb_icmp_ge (pc := 34) (tgt := 41) rfl (by decide) (fun c2 => ?_) (fun c2 => ?_)
    · refine eb_iload (pc := 41) (i := 6) rfl rfl ?_
      refine eb_bipush (pc := 43) (n := 8) (v := 8) rfl rfl ?_
      refine eb_icmp_ge (pc := 45) (tgt := 52) rfl (by decide) (fun c3 => ?_) (fun c3 => ?_)
      · refine eb_iload (pc := 52) (i := 6) rfl rfl ?_
        refine eb_bipush (pc := 54) (n := 12) (v := 12) rfl rfl ?_
        refine eb_icmp_ge (pc := 56) (tgt := 63) rfl (by decide) (fun c4 => ?_) (fun c4 => ?_)
        · refine eb_iload (pc := 63) (i := 6) rfl rfl ?_
          refine eb_bipush (pc := 65) (n := 16) (v := 16) rfl rfl ?_
          refine eb_icmp_ge (pc := 67) (tgt := 75) rfl (by decide) (fun c5 => ?_) (fun c5 => ?_)
          · refine eb_iload (pc := 75) (i := 5) rfl rfl ?_
            simp only [if_pos c2, if_pos c3, if_pos c4, if_pos c5] at jj7 ⊢
            exact jj7
          · refine eb_iload (pc := 70) (i := 4) rfl rfl ?_
            refine eb_goto (pc := 72) (tgt := 77) rfl (by decide) ?_
            simp only [if_pos c2, if_pos c3, if_pos c4, if_neg c5] at jj7 ⊢
            exact jj7
        · refine eb_iload_n (pc := 59) (n := 3) (i := 3) rfl rfl rfl ?_
          refine eb_goto (pc := 60) (tgt := 77) rfl (by decide) ?_
          simp only [if_pos c2, if_pos c3, if_neg c4] at jj7 ⊢
          exact jj7
      · refine eb_iload_n (pc := 48) (n := 2) (i := 2) rfl rfl rfl ?_
        refine eb_goto (pc := 49) (tgt := 77) rfl (by decide) ?_
        simp only [if_pos c2, if_neg c3] at jj7 ⊢
        exact jj7
    · refine eb_iload_n (pc := 37) (n := 1) (i := 1) rfl rfl rfl ?_
      refine eb_goto (pc := 38) (tgt := 77) rfl (by decide) ?_
      simp only [if_neg c2] at jj7 ⊢
      exact jj7
theorem T_X11_feed {d : Nat} {h : eb_H} {Q : Option Value → eb_H → Prop} (x1 : Int32) (x2 : Int32) (x3 : Int32) (x4 : Int32) (x5 : Int32)  (ko : eb_KO h) (w : ((((eb_I (eb_sI h s_MO 0 0) s_MO 5) + 20) ≤ (900 : Int32) → eb_Sn d m_X11_feed h 24 [(0, .ref s_MO), (1, .int x1), (2, .int x2), (3, .int x3), (4, .int x4), (5, .int x5), (6, .int 0)] [] (eb_sI h s_MO 0 0) Q) ∧ (¬ (((eb_I (eb_sI h s_MO 0 0) s_MO 5) + 20) ≤ (900 : Int32)) → Q (some (.int (-5))) (eb_sI h s_MO 0 0)))) : eb_Ct d 159 [.ref s_MO, .int x1, .int x2, .int x3, .int x4, .int x5] h Q :=
  eb_bodyQ (by decide) ok_X11_feed (Nat.le_of_ble_eq_true rfl) (b_X11_feed_0 (h0 := h) x1 x2 x3 x4 x5  ko w)
theorem b_X11_see_0 {d : Nat} {h0 h : eb_H} {Q : Option Value → eb_H → Prop} (x1 : Int32)  (ko : eb_KO h) (w : (((eb_I h s_MO 8) ≤ x1 → Q (some (.int (-1))) h) ∧ (¬ ((eb_I h s_MO 8) ≤ x1) → (vp_in x1 900) ∧ Q (some (.int (eb_I h s_m_tape x1.toNatClampNeg))) h))) : eb_Sn d m_X11_see h0 0 [(0, .ref s_MO), (1, .int x1)] [] h Q := by
  refine eb_iload_n (pc := 0) (n := 1) (i := 1) rfl rfl rfl ?_
  refine eb_aload_n (pc := 1) (n := 0) (i := 0) rfl rfl rfl ?_
  refine eb_getI (pc := 2) rfl rfl (by decide) (by decide) rfl ?_
  refine eb_icmp_ge (pc := 5) (tgt := 17) rfl (by decide) (fun c1 => ?_) (fun c1 => ?_)
  · replace w := w.1 c1
    refine eb_iconst (pc := 17) (n := -1) (v := (-1)) rfl rfl ?_
    exact eb_ireturn (pc := 18) rfl rfl rfl w
  · replace w := w.2 c1
    refine eb_aload_n (pc := 8) (n := 0) (i := 0) rfl rfl rfl ?_
    refine eb_getR (pc := 9) rfl rfl (by decide) (by decide) rfl (ko_s_MO_3 ko) ?_
    refine eb_iload_n (pc := 12) (n := 1) (i := 1) rfl rfl rfl ?_
    obtain ⟨c2, w⟩ := w
    refine eb_iaload (pc := 13) rfl rfl c2 ?_
    refine eb_goto (pc := 14) (tgt := 18) rfl (by decide) ?_
    exact eb_ireturn (pc := 18) rfl rfl rfl w
theorem T_X11_see {d : Nat} {h : eb_H} {Q : Option Value → eb_H → Prop} (x1 : Int32)  (ko : eb_KO h) (w : (((eb_I h s_MO 8) ≤ x1 → Q (some (.int (-1))) h) ∧ (¬ ((eb_I h s_MO 8) ≤ x1) → (vp_in x1 900) ∧ Q (some (.int (eb_I h s_m_tape x1.toNatClampNeg))) h))) : eb_Ct d 160 [.ref s_MO, .int x1] h Q :=
  eb_bodyQ (by decide) ok_X11_see (Nat.le_of_ble_eq_true rfl) (b_X11_see_0 (h0 := h) x1  ko w)
theorem b_X11_isSmall_0 {d : Nat} {h0 h : eb_H} {Q : Option Value → eb_H → Prop} (x0 : Int32)  (ko : eb_KO h) (w : Q (some (.int (if x0 < (97 : Int32) then 0 else (if (122 : Int32) < x0 then 0 else 1) : Int32))) h) : eb_Sn d m_X11_isSmall h0 0 [(0, .int x0)] [] h Q := by
  refine eb_iload_n (pc := 0) (n := 0) (i := 0) rfl rfl rfl ?_
  refine eb_bipush (pc := 1) (n := 97) (v := 97) rfl rfl ?_
  have jj3 : eb_Sn d m_X11_isSmall h0 17 [(0, .int x0)] [.int (if x0 < (97 : Int32) then 0 else (if (122 : Int32) < x0 then 0 else 1) : Int32)] h Q := by
    exact eb_ireturn (pc := 17) rfl rfl (by (repeat' split) <;> rfl) w
  refine eb_icmp_lt (pc := 3) (tgt := 16) rfl (by decide) (fun c1 => ?_) (fun c1 => ?_)
  · refine eb_iconst (pc := 16) (n := 0) (v := 0) rfl rfl ?_
    simp only [if_pos c1] at jj3 ⊢
    exact jj3
  · refine eb_iload_n (pc := 6) (n := 0) (i := 0) rfl rfl rfl ?_
    refine eb_bipush (pc := 7) (n := 122) (v := 122) rfl rfl ?_
    refine eb_icmp_gt (pc := 9) (tgt := 16) rfl (by decide) (fun c2 => ?_) (fun c2 => ?_)
    · refine eb_iconst (pc := 16) (n := 0) (v := 0) rfl rfl ?_
      simp only [if_neg c1, if_pos c2] at jj3 ⊢
      exact jj3
    · refine eb_iconst (pc := 12) (n := 1) (v := 1) rfl rfl ?_
      refine eb_goto (pc := 13) (tgt := 17) rfl (by decide) ?_
      simp only [if_neg c1, if_neg c2] at jj3 ⊢
      exact jj3
theorem T_X11_isSmall {d : Nat} {h : eb_H} {Q : Option Value → eb_H → Prop} (x0 : Int32)  (ko : eb_KO h) (w : Q (some (.int (if x0 < (97 : Int32) then 0 else (if (122 : Int32) < x0 then 0 else 1) : Int32))) h) : eb_Ct d 161 [.int x0] h Q :=
  eb_bodyQ (by decide) ok_X11_isSmall (Nat.le_of_ble_eq_true rfl) (b_X11_isSmall_0 (h0 := h) x0  ko w)
theorem b_X11_isDigit_0 {d : Nat} {h0 h : eb_H} {Q : Option Value → eb_H → Prop} (x0 : Int32)  (ko : eb_KO h) (w : Q (some (.int (if x0 < (48 : Int32) then 0 else (if (57 : Int32) < x0 then 0 else 1) : Int32))) h) : eb_Sn d m_X11_isDigit h0 0 [(0, .int x0)] [] h Q := by
  refine eb_iload_n (pc := 0) (n := 0) (i := 0) rfl rfl rfl ?_
  refine eb_bipush (pc := 1) (n := 48) (v := 48) rfl rfl ?_
  have jj3 : eb_Sn d m_X11_isDigit h0 17 [(0, .int x0)] [.int (if x0 < (48 : Int32) then 0 else (if (57 : Int32) < x0 then 0 else 1) : Int32)] h Q := by
    exact eb_ireturn (pc := 17) rfl rfl (by (repeat' split) <;> rfl) w
  refine eb_icmp_lt (pc := 3) (tgt := 16) rfl (by decide) (fun c1 => ?_) (fun c1 => ?_)
  · refine eb_iconst (pc := 16) (n := 0) (v := 0) rfl rfl ?_
    simp only [if_pos c1] at jj3 ⊢
    exact jj3
  · refine eb_iload_n (pc := 6) (n := 0) (i := 0) rfl rfl rfl ?_
    refine eb_bipush (pc := 7) (n := 57) (v := 57) rfl rfl ?_
    refine eb_icmp_gt (pc := 9) (tgt := 16) rfl (by decide) (fun c2 => ?_) (fun c2 => ?_)
    · refine eb_iconst (pc := 16) (n := 0) (v := 0) rfl rfl ?_
      simp only [if_neg c1, if_pos c2] at jj3 ⊢
      exact jj3
    · refine eb_iconst (pc := 12) (n := 1) (v := 1) rfl rfl ?_
      refine eb_goto (pc := 13) (tgt := 17) rfl (by decide) ?_
      simp only [if_neg c1, if_neg c2] at jj3 ⊢
      exact jj3
theorem T_X11_isDigit {d : Nat} {h : eb_H} {Q : Option Value → eb_H → Prop} (x0 : Int32)  (ko : eb_KO h) (w : Q (some (.int (if x0 < (48 : Int32) then 0 else (if (57 : Int32) < x0 then 0 else 1) : Int32))) h) : eb_Ct d 162 [.int x0] h Q :=
  eb_bodyQ (by decide) ok_X11_isDigit (Nat.le_of_ble_eq_true rfl) (b_X11_isDigit_0 (h0 := h) x0  ko w)
theorem b_X11_keyAt_0 {d : Nat} {h0 h : eb_H} {Q : Option Value → eb_H → Prop}   (ko : eb_KO h) (w : eb_Sn (d + 1) m_X11_keyAt h0 4 [(0, .ref s_MO), (1, .int 0), (2, .int 1)] [] h Q) : eb_Sn (d + 1) m_X11_keyAt h0 0 [(0, .ref s_MO)] [] h Q := by
  refine eb_iconst (pc := 0) (n := 0) (v := 0) rfl rfl ?_
  refine eb_istore_n (pc := 1) (n := 1) (i := 1) (ls2 := [(1, .int 0), (0, .ref s_MO)]) rfl (Nat.le_of_ble_eq_true rfl) rfl rfl ?_
  refine eb_iconst (pc := 2) (n := 1) (v := 1) rfl rfl ?_
  refine eb_istore_n (pc := 3) (n := 2) (i := 2) (ls2 := [(2, .int 1), (1, .int 0), (0, .ref s_MO)]) rfl (Nat.le_of_ble_eq_true rfl) rfl rfl ?_
  exact eb_pick [2, 1, 0] rfl w
theorem b_X11_keyAt_4 {d : Nat} {h0 h : eb_H} {Q : Option Value → eb_H → Prop} (x1 : Int32) (x2 : Int32)  (ko : eb_KO h) (w : eb_Ct d 289 [.ref (eb_mk 0 21 0)] h (fun r h1 => ∃ y2, r = some (.int y2) ∧ eb_KO h1 ∧ ((y2 ≤ x2 → Q (some (.int 22)) h1) ∧ (¬ (y2 ≤ x2) → eb_Sn (d + 1) m_X11_keyAt h0 15 [(0, .ref s_MO), (1, .int x1), (2, .int x2), (3, .int 0)] [] h1 Q)))) : eb_Sn (d + 1) m_X11_keyAt h0 4 [(0, .ref s_MO), (1, .int x1), (2, .int x2)] [] h Q := by
  refine eb_iload_n (pc := 4) (n := 2) (i := 2) rfl rfl rfl ?_
  refine eb_ldcS (pc := 5) (a := 0) (i := eb_mk 0 21 0) rfl rfl rfl ?_
  refine eb_ctT (pc := 7) (i := 0) (As := []) (rest := [.int x2]) rfl (by decide) rfl (by decide) rfl rfl (Nat.le_of_ble_eq_true rfl) ?_
  refine eb_Ct.mono w ?_
  rintro r h1 ⟨y2, rfl, ko3, w⟩
  change eb_Sn _ _ _ 10 _ [.int y2, .int x2] _ _
  refine eb_icmp_ge (pc := 10) (tgt := 123) rfl (by decide) (fun c4 => ?_) (fun c4 => ?_)
  · replace w := w.1 c4
    refine eb_bipush (pc := 123) (n := 22) (v := 22) rfl rfl ?_
    exact eb_ireturn (pc := 125) rfl rfl rfl w
  · replace w := w.2 c4
    refine eb_iconst (pc := 13) (n := 0) (v := 0) rfl rfl ?_
    refine eb_istore_n (pc := 14) (n := 3) (i := 3) (ls2 := [(3, .int 0), (0, .ref s_MO), (1, .int x1), (2, .int x2)]) rfl (Nat.le_of_ble_eq_true rfl) rfl rfl ?_
    exact eb_pick [1, 2, 3, 0] rfl w
theorem b_X11_keyAt_15 {d : Nat} {h0 h : eb_H} {Q : Option Value → eb_H → Prop} (x1 : Int32) (x2 : Int32) (x3 : Int32)  (ko : eb_KO h) (w : eb_Ct d 290 [.ref (eb_mk 0 21 0), .int (x2 + x3)] h (fun r h1 => ∃ y2, r = some (.int y2) ∧ eb_KO h1 ∧ ((y2 = (32 : Int32) → eb_Ct d 290 [.ref (eb_mk 0 21 0), .int (x2 + x3)] h1 (fun r h5 => ∃ y6, r = some (.int y6) ∧ eb_KO h5 ∧ ((¬ y6 = (32 : Int32) → eb_Sn (d + 1) m_X11_keyAt h0 97 [(0, .ref s_MO), (1, .int x1), (2, .int x2)] [] h5 Q) ∧ (y6 = (32 : Int32) → ((¬ ((eb_I h5 s_MO 6) + x3) = (eb_I h5 s_MO 7) → eb_Sn (d + 1) m_X11_keyAt h0 97 [(0, .ref s_MO), (1, .int x1), (2, .int x2)] [] h5 Q) ∧ (((eb_I h5 s_MO 6) + x3) = (eb_I h5 s_MO 7) → Q (some (.int x1)) h5)))))) ∧ (¬ (y2 = (32 : Int32)) → (((eb_I h1 s_MO 7) ≤ ((eb_I h1 s_MO 6) + x3) → eb_Ct d 290 [.ref (eb_mk 0 21 0), .int (x2 + x3)] h1 (fun r h11 => ∃ y12, r = some (.int y12) ∧ eb_KO h11 ∧ ((¬ y12 = (32 : Int32) → eb_Sn (d + 1) m_X11_keyAt h0 97 [(0, .ref s_MO), (1, .int x1), (2, .int x2)] [] h11 Q) ∧ (y12 = (32 : Int32) → ((¬ ((eb_I h11 s_MO 6) + x3) = (eb_I h11 s_MO 7) → eb_Sn (d + 1) m_X11_keyAt h0 97 [(0, .ref s_MO), (1, .int x1), (2, .int x2)] [] h11 Q) ∧ (((eb_I h11 s_MO 6) + x3) = (eb_I h11 s_MO 7) → Q (some (.int x1)) h11)))))) ∧ (¬ ((eb_I h1 s_MO 7) ≤ ((eb_I h1 s_MO 6) + x3)) → (vp_in ((eb_I h1 s_MO 6) + x3) 900) ∧ eb_Ct d 290 [.ref (eb_mk 0 21 0), .int (x2 + x3)] h1 (fun r h17 => ∃ y18, r = some (.int y18) ∧ eb_KO h17 ∧ ((¬ (eb_I h1 s_m_tape ((eb_I h1 s_MO 6) + x3).toNatClampNeg) = y18 → eb_Ct d 290 [.ref (eb_mk 0 21 0), .int (x2 + x3)] h17 (fun r h21 => ∃ y22, r = some (.int y22) ∧ eb_KO h21 ∧ ((¬ y22 = (32 : Int32) → eb_Sn (d + 1) m_X11_keyAt h0 97 [(0, .ref s_MO), (1, .int x1), (2, .int x2)] [] h21 Q) ∧ (y22 = (32 : Int32) → ((¬ ((eb_I h21 s_MO 6) + x3) = (eb_I h21 s_MO 7) → eb_Sn (d + 1) m_X11_keyAt h0 97 [(0, .ref s_MO), (1, .int x1), (2, .int x2)] [] h21 Q) ∧ (((eb_I h21 s_MO 6) + x3) = (eb_I h21 s_MO 7) → Q (some (.int x1)) h21)))))) ∧ ((eb_I h1 s_m_tape ((eb_I h1 s_MO 6) + x3).toNatClampNeg) = y18 → eb_Sn (d + 1) m_X11_keyAt h0 15 [(0, .ref s_MO), (1, .int x1), (2, .int x2), (3, .int (x3 + 1))] [] h17 Q))))))))) : eb_Sn (d + 1) m_X11_keyAt h0 15 [(0, .ref s_MO), (1, .int x1), (2, .int x2), (3, .int x3)] [] h Q := by
  refine eb_ldcS (pc := 15) (a := 0) (i := eb_mk 0 21 0) rfl rfl rfl ?_
  refine eb_iload_n (pc := 17) (n := 2) (i := 2) rfl rfl rfl ?_
  refine eb_iload_n (pc := 18) (n := 3) (i := 3) rfl rfl rfl ?_
  refine eb_iadd (pc := 19) rfl ?_
  refine eb_ctT (pc := 20) (i := 0) (As := [.int (x2 + x3)]) (rest := []) rfl (by decide) rfl (by decide) rfl rfl (Nat.le_of_ble_eq_true rfl) ?_
  refine eb_Ct.mono w ?_
  rintro r h1 ⟨y2, rfl, ko3, w⟩
  change eb_Sn _ _ _ 23 _ [.int y2] _ _
  refine eb_bipush (pc := 23) (n := 32) (v := 32) rfl rfl ?_
  refine eb_icmp_eq (pc := 25) (tgt := 69) rfl (by decide) (fun c4 => ?_) (fun c4 => ?_)
  · replace w := w.1 c4
    refine eb_ldcS (pc := 69) (a := 0) (i := eb_mk 0 21 0) rfl rfl rfl ?_
    refine eb_iload_n (pc := 71) (n := 2) (i := 2) rfl rfl rfl ?_
    refine eb_iload_n (pc := 72) (n := 3) (i := 3) rfl rfl rfl ?_
    refine eb_iadd (pc := 73) rfl ?_
    refine eb_ctT (pc := 74) (i := 0) (As := [.int (x2 + x3)]) (rest := []) rfl (by decide) rfl (by decide) rfl rfl (Nat.le_of_ble_eq_true rfl) ?_
    refine eb_Ct.mono w ?_
    rintro r h5 ⟨y6, rfl, ko7, w⟩
    change eb_Sn _ _ _ 77 _ [.int y6] _ _
    refine eb_bipush (pc := 77) (n := 32) (v := 32) rfl rfl ?_
    refine eb_icmp_ne (pc := 79) (tgt := 97) rfl (by decide) (fun c8 => ?_) (fun c8 => ?_)
    · replace w := w.1 c8
      exact eb_pick [0, 1, 2] rfl w
    · replace w := w.2 c8
      refine eb_aload_n (pc := 82) (n := 0) (i := 0) rfl rfl rfl ?_
      refine eb_getI (pc := 83) rfl rfl (by decide) (by decide) rfl ?_
      refine eb_iload_n (pc := 86) (n := 3) (i := 3) rfl rfl rfl ?_
      refine eb_iadd (pc := 87) rfl ?_
      refine eb_aload_n (pc := 88) (n := 0) (i := 0) rfl rfl rfl ?_
      refine eb_getI (pc := 89) rfl rfl (by decide) (by decide) rfl ?_
      refine eb_icmp_ne (pc := 92) (tgt := 97) rfl (by decide) (fun c9 => ?_) (fun c9 => ?_)
      · replace w := w.1 c9
        exact eb_pick [0, 1, 2] rfl w
      · replace w := w.2 c9
        refine eb_iload_n (pc := 95) (n := 1) (i := 1) rfl rfl rfl ?_
        exact eb_ireturn (pc := 96) rfl rfl rfl w
  · replace w := w.2 c4
    refine eb_aload_n (pc := 28) (n := 0) (i := 0) rfl rfl rfl ?_
    refine eb_getI (pc := 29) rfl rfl (by decide) (by decide) rfl ?_
    refine eb_iload_n (pc := 32) (n := 3) (i := 3) rfl rfl rfl ?_
    refine eb_iadd (pc := 33) rfl ?_
    refine eb_aload_n (pc := 34) (n := 0) (i := 0) rfl rfl rfl ?_
    refine eb_getI (pc := 35) rfl rfl (by decide) (by decide) rfl ?_
    refine eb_icmp_ge (pc := 38) (tgt := 69) rfl (by decide) (fun c10 => ?_) (fun c10 => ?_)
    · replace w := w.1 c10
      refine eb_ldcS (pc := 69) (a := 0) (i := eb_mk 0 21 0) rfl rfl rfl ?_
      refine eb_iload_n (pc := 71) (n := 2) (i := 2) rfl rfl rfl ?_
      refine eb_iload_n (pc := 72) (n := 3) (i := 3) rfl rfl rfl ?_
      refine eb_iadd (pc := 73) rfl ?_
      refine eb_ctT (pc := 74) (i := 0) (As := [.int (x2 + x3)]) (rest := []) rfl (by decide) rfl (by decide) rfl rfl (Nat.le_of_ble_eq_true rfl) ?_
      refine eb_Ct.mono w ?_
      rintro r h11 ⟨y12, rfl, ko13, w⟩
      change eb_Sn _ _ _ 77 _ [.int y12] _ _
      refine eb_bipush (pc := 77) (n := 32) (v := 32) rfl rfl ?_
      refine eb_icmp_ne (pc := 79) (tgt := 97) rfl (by decide) (fun c14 => ?_) (fun c14 => ?_)
      · replace w := w.1 c14
        exact eb_pick [0, 1, 2] rfl w
      · replace w := w.2 c14
        refine eb_aload_n (pc := 82) (n := 0) (i := 0) rfl rfl rfl ?_
        refine eb_getI (pc := 83) rfl rfl (by decide) (by decide) rfl ?_
        refine eb_iload_n (pc := 86) (n := 3) (i := 3) rfl rfl rfl ?_
        refine eb_iadd (pc := 87) rfl ?_
        refine eb_aload_n (pc := 88) (n := 0) (i := 0) rfl rfl rfl ?_
        refine eb_getI (pc := 89) rfl rfl (by decide) (by decide) rfl ?_
        refine eb_icmp_ne (pc := 92) (tgt := 97) rfl (by decide) (fun c15 => ?_) (fun c15 => ?_)
        · replace w := w.1 c15
          exact eb_pick [0, 1, 2] rfl w
        · replace w := w.2 c15
          refine eb_iload_n (pc := 95) (n := 1) (i := 1) rfl rfl rfl ?_
          exact eb_ireturn (pc := 96) rfl rfl rfl w
    · replace w := w.2 c10
      refine eb_aload_n (pc := 41) (n := 0) (i := 0) rfl rfl rfl ?_
      refine eb_getR (pc := 42) rfl rfl (by decide) (by decide) rfl (ko_s_MO_3 ko3) ?_
      refine eb_aload_n (pc := 45) (n := 0) (i := 0) rfl rfl rfl ?_
      refine eb_getI (pc := 46) rfl rfl (by decide) (by decide) rfl ?_
      refine eb_iload_n (pc := 49) (n := 3) (i := 3) rfl rfl rfl ?_
      refine eb_iadd (pc := 50) rfl ?_
      obtain ⟨c16, w⟩ := w
      refine eb_iaload (pc := 51) rfl rfl c16 ?_
      refine eb_ldcS (pc := 52) (a := 0) (i := eb_mk 0 21 0) rfl rfl rfl ?_
      refine eb_iload_n (pc := 54) (n := 2) (i := 2) rfl rfl rfl ?_
      refine eb_iload_n (pc := 55) (n := 3) (i := 3) rfl rfl rfl ?_
      refine eb_iadd (pc := 56) rfl ?_
      refine eb_ctT (pc := 57) (i := 0) (As := [.int (x2 + x3)]) (rest := [.int (eb_I h1 s_m_tape ((eb_I h1 s_MO 6) + x3).toNatClampNeg)]) rfl (by decide) rfl (by decide) rfl rfl (Nat.le_of_ble_eq_true rfl) ?_
      refine eb_Ct.mono w ?_
      rintro r h17 ⟨y18, rfl, ko19, w⟩
      change eb_Sn _ _ _ 60 _ [.int y18, .int (eb_I h1 s_m_tape ((eb_I h1 s_MO 6) + x3).toNatClampNeg)] _ _
      refine eb_icmp_ne (pc := 60) (tgt := 69) rfl (by decide) (fun c20 => ?_) (fun c20 => ?_)
      · replace w := w.1 c20
        refine eb_ldcS (pc := 69) (a := 0) (i := eb_mk 0 21 0) rfl rfl rfl ?_
        refine eb_iload_n (pc := 71) (n := 2) (i := 2) rfl rfl rfl ?_
        refine eb_iload_n (pc := 72) (n := 3) (i := 3) rfl rfl rfl ?_
        refine eb_iadd (pc := 73) rfl ?_
        refine eb_ctT (pc := 74) (i := 0) (As := [.int (x2 + x3)]) (rest := []) rfl (by decide) rfl (by decide) rfl rfl (Nat.le_of_ble_eq_true rfl) ?_
        refine eb_Ct.mono w ?_
        rintro r h21 ⟨y22, rfl, ko23, w⟩
        change eb_Sn _ _ _ 77 _ [.int y22] _ _
        refine eb_bipush (pc := 77) (n := 32) (v := 32) rfl rfl ?_
        refine eb_icmp_ne (pc := 79) (tgt := 97) rfl (by decide) (fun c24 => ?_) (fun c24 => ?_)
        · replace w := w.1 c24
          exact eb_pick [0, 1, 2] rfl w
        · replace w := w.2 c24
          refine eb_aload_n (pc := 82) (n := 0) (i := 0) rfl rfl rfl ?_
          refine eb_getI (pc := 83) rfl rfl (by decide) (by decide) rfl ?_
          refine eb_iload_n (pc := 86) (n := 3) (i := 3) rfl rfl rfl ?_
          refine eb_iadd (pc := 87) rfl ?_
          refine eb_aload_n (pc := 88) (n := 0) (i := 0) rfl rfl rfl ?_
          refine eb_getI (pc := 89) rfl rfl (by decide) (by decide) rfl ?_
          refine eb_icmp_ne (pc := 92) (tgt := 97) rfl (by decide) (fun c25 => ?_) (fun c25 => ?_)
          · replace w := w.1 c25
            exact eb_pick [0, 1, 2] rfl w
          · replace w := w.2 c25
            refine eb_iload_n (pc := 95) (n := 1) (i := 1) rfl rfl rfl ?_
            exact eb_ireturn (pc := 96) rfl rfl rfl w
      · replace w := w.2 c20
        refine eb_iinc (pc := 63) (i := 3) (n := 1) (v := x3 + 1) (ls2 := [(3, .int (x3 + 1)), (0, .ref s_MO), (1, .int x1), (2, .int x2)]) (Nat.le_of_ble_eq_true rfl) rfl rfl rfl rfl ?_
        refine eb_goto (pc := 66) (tgt := 15) rfl (by decide) ?_
        exact eb_pick [1, 2, 3, 0] rfl w
theorem b_X11_keyAt_97 {d : Nat} {h0 h : eb_H} {Q : Option Value → eb_H → Prop} (x1 : Int32) (x2 : Int32)  (ko : eb_KO h) (w : eb_Ct d 290 [.ref (eb_mk 0 21 0), .int x2] h (fun r h1 => ∃ y2, r = some (.int y2) ∧ eb_KO h1 ∧ ((y2 = (32 : Int32) → eb_Sn (d + 1) m_X11_keyAt h0 4 [(0, .ref s_MO), (1, .int (x1 + 1)), (2, .int (x2 + 1))] [] h1 Q) ∧ (¬ (y2 = (32 : Int32)) → eb_Sn (d + 1) m_X11_keyAt h0 97 [(0, .ref s_MO), (1, .int x1), (2, .int (x2 + 1))] [] h1 Q)))) : eb_Sn (d + 1) m_X11_keyAt h0 97 [(0, .ref s_MO), (1, .int x1), (2, .int x2)] [] h Q := by
  refine eb_ldcS (pc := 97) (a := 0) (i := eb_mk 0 21 0) rfl rfl rfl ?_
  refine eb_iload_n (pc := 99) (n := 2) (i := 2) rfl rfl rfl ?_
  refine eb_ctT (pc := 100) (i := 0) (As := [.int x2]) (rest := []) rfl (by decide) rfl (by decide) rfl rfl (Nat.le_of_ble_eq_true rfl) ?_
  refine eb_Ct.mono w ?_
  rintro r h1 ⟨y2, rfl, ko3, w⟩
  change eb_Sn _ _ _ 103 _ [.int y2] _ _
  refine eb_bipush (pc := 103) (n := 32) (v := 32) rfl rfl ?_
  refine eb_icmp_eq (pc := 105) (tgt := 114) rfl (by decide) (fun c4 => ?_) (fun c4 => ?_)
  · replace w := w.1 c4
    refine eb_iinc (pc := 114) (i := 2) (n := 1) (v := x2 + 1) (ls2 := [(2, .int (x2 + 1)), (0, .ref s_MO), (1, .int x1)]) (Nat.le_of_ble_eq_true rfl) rfl rfl rfl rfl ?_
    refine eb_iinc (pc := 117) (i := 1) (n := 1) (v := x1 + 1) (ls2 := [(1, .int (x1 + 1)), (2, .int (x2 + 1)), (0, .ref s_MO)]) (Nat.le_of_ble_eq_true rfl) rfl rfl rfl rfl ?_
    refine eb_goto (pc := 120) (tgt := 4) rfl (by decide) ?_
    exact eb_pick [2, 0, 1] rfl w
  · replace w := w.2 c4
    refine eb_iinc (pc := 108) (i := 2) (n := 1) (v := x2 + 1) (ls2 := [(2, .int (x2 + 1)), (0, .ref s_MO), (1, .int x1)]) (Nat.le_of_ble_eq_true rfl) rfl rfl rfl rfl ?_
    refine eb_goto (pc := 111) (tgt := 97) rfl (by decide) ?_
    exact eb_pick [1, 2, 0] rfl w
theorem T_X11_keyAt {d : Nat} {h : eb_H} {Q : Option Value → eb_H → Prop}   (ko : eb_KO h) (w : eb_Sn (d + 1) m_X11_keyAt h 4 [(0, .ref s_MO), (1, .int 0), (2, .int 1)] [] h Q) : eb_Ct (d + 1) 163 [.ref s_MO] h Q :=
  eb_bodyQ (by decide) ok_X11_keyAt (Nat.le_of_ble_eq_true rfl) (b_X11_keyAt_0 (h0 := h)   ko w)
theorem b_X11_next_0 {d : Nat} {h0 h : eb_H} {Q : Option Value → eb_H → Prop}   (ko : eb_KO h) (w : eb_Sn (d + 1) m_X11_next h0 8 [(0, .ref s_MO)] [] (eb_sI h s_MO 6 (eb_I h s_MO 7)) Q) : eb_Sn (d + 1) m_X11_next h0 0 [(0, .ref s_MO)] [] h Q := by
  refine eb_aload_n (pc := 0) (n := 0) (i := 0) rfl rfl rfl ?_
  refine eb_aload_n (pc := 1) (n := 0) (i := 0) rfl rfl rfl ?_
  refine eb_getI (pc := 2) rfl rfl (by decide) (by decide) rfl ?_
  refine eb_putI (pc := 5) rfl rfl (by decide) (by decide) rfl rfl ⟨rfl, rfl⟩ ?_
  exact eb_pick [0] rfl w
theorem b_X11_next_8 {d : Nat} {h0 h : eb_H} {Q : Option Value → eb_H → Prop}   (ko : eb_KO h) (w : eb_Ct d 160 [.ref s_MO, .int (eb_I h s_MO 6)] h (fun r h1 => ∃ y2, r = some (.int y2) ∧ eb_KO h1 ∧ ((y2 = (10 : Int32) → eb_Sn (d + 1) m_X11_next h0 8 [(0, .ref s_MO)] [] (eb_sI h1 s_MO 6 ((eb_I h1 s_MO 6) + 1)) Q) ∧ (¬ (y2 = (10 : Int32)) → eb_Ct d 160 [.ref s_MO, .int (eb_I h1 s_MO 6)] h1 (fun r h5 => ∃ y6, r = some (.int y6) ∧ eb_KO h5 ∧ ((¬ y6 = (32 : Int32) → (((eb_I (eb_sI h5 s_MO 7 (eb_I h5 s_MO 6)) s_MO 6) < (eb_I (eb_sI h5 s_MO 7 (eb_I h5 s_MO 6)) s_MO 8) → eb_Ct d 160 [.ref s_MO, .int (eb_I (eb_sI h5 s_MO 7 (eb_I h5 s_MO 6)) s_MO 6)] (eb_sI h5 s_MO 7 (eb_I h5 s_MO 6)) (fun r h10 => ∃ y11, r = some (.int y11) ∧ eb_KO h10 ∧ eb_Ct d 161 [.int y11] h10 (fun r h13 => ∃ y14, r = some (.int y14) ∧ eb_KO h13 ∧ ((y14 = 0 → eb_Ct d 160 [.ref s_MO, .int (eb_I h13 s_MO 6)] h13 (fun r h17 => ∃ y18, r = some (.int y18) ∧ eb_KO h17 ∧ eb_Ct d 162 [.int y18] h17 (fun r h20 => ∃ y21, r = some (.int y21) ∧ eb_KO h20 ∧ ((y21 = 0 → eb_Sn (d + 1) m_X11_next h0 254 [(0, .ref s_MO), (1, .int 0)] [] (eb_sI (eb_sI h20 s_MO 7 ((eb_I h20 s_MO 7) + 1)) s_MO 9 25) Q) ∧ (¬ (y21 = 0) → eb_Sn (d + 1) m_X11_next h0 146 [(0, .ref s_MO)] [] (eb_sI h20 s_MO 10 0) Q))))) ∧ (¬ (y14 = 0) → eb_Sn (d + 1) m_X11_next h0 89 [(0, .ref s_MO)] [] h13 Q))))) ∧ (¬ ((eb_I (eb_sI h5 s_MO 7 (eb_I h5 s_MO 6)) s_MO 6) < (eb_I (eb_sI h5 s_MO 7 (eb_I h5 s_MO 6)) s_MO 8)) → Q none (eb_sI (eb_sI h5 s_MO 7 (eb_I h5 s_MO 6)) s_MO 9 24)))) ∧ (y6 = (32 : Int32) → eb_Sn (d + 1) m_X11_next h0 8 [(0, .ref s_MO)] [] (eb_sI h5 s_MO 6 ((eb_I h5 s_MO 6) + 1)) Q))))))) : eb_Sn (d + 1) m_X11_next h0 8 [(0, .ref s_MO)] [] h Q := by
  refine eb_aload_n (pc := 8) (n := 0) (i := 0) rfl rfl rfl ?_
  refine eb_aload_n (pc := 9) (n := 0) (i := 0) rfl rfl rfl ?_
  refine eb_getI (pc := 10) rfl rfl (by decide) (by decide) rfl ?_
  refine eb_ctV (pc := 13) (As := [.int (eb_I h s_MO 6)]) (rest := []) rfl (by decide) rfl rfl (by decide) rfl (Nat.le_of_ble_eq_true rfl) ?_
  refine eb_Ct.mono w ?_
  rintro r h1 ⟨y2, rfl, ko3, w⟩
  change eb_Sn _ _ _ 16 _ [.int y2] _ _
  refine eb_bipush (pc := 16) (n := 10) (v := 10) rfl rfl ?_
  refine eb_icmp_eq (pc := 18) (tgt := 34) rfl (by decide) (fun c4 => ?_) (fun c4 => ?_)
  · replace w := w.1 c4
    refine eb_aload_n (pc := 34) (n := 0) (i := 0) rfl rfl rfl ?_
    refine eb_dupr (pc := 35) rfl ?_
    refine eb_getI (pc := 36) rfl rfl (by decide) (by decide) rfl ?_
    refine eb_iconst (pc := 39) (n := 1) (v := 1) rfl rfl ?_
    refine eb_iadd (pc := 40) rfl ?_
    refine eb_putI (pc := 41) rfl rfl (by decide) (by decide) rfl rfl ⟨rfl, rfl⟩ ?_
    refine eb_goto (pc := 44) (tgt := 8) rfl (by decide) ?_
    exact eb_pick [0] rfl w
  · replace w := w.2 c4
    refine eb_aload_n (pc := 21) (n := 0) (i := 0) rfl rfl rfl ?_
    refine eb_aload_n (pc := 22) (n := 0) (i := 0) rfl rfl rfl ?_
    refine eb_getI (pc := 23) rfl rfl (by decide) (by decide) rfl ?_
    refine eb_ctV (pc := 26) (As := [.int (eb_I h1 s_MO 6)]) (rest := []) rfl (by decide) rfl rfl (by decide) rfl (Nat.le_of_ble_eq_true rfl) ?_
    refine eb_Ct.mono w ?_
    rintro r h5 ⟨y6, rfl, ko7, w⟩
    change eb_Sn _ _ _ 29 _ [.int y6] _ _
    refine eb_bipush (pc := 29) (n := 32) (v := 32) rfl rfl ?_
    refine eb_icmp_ne (pc := 31) (tgt := 47) rfl (by decide) (fun c8 => ?_) (fun c8 => ?_)
    · replace w := w.1 c8
      refine eb_aload_n (pc := 47) (n := 0) (i := 0) rfl rfl rfl ?_
      refine eb_aload_n (pc := 48) (n := 0) (i := 0) rfl rfl rfl ?_
      refine eb_getI (pc := 49) rfl rfl (by decide) (by decide) rfl ?_
      refine eb_putI (pc := 52) rfl rfl (by decide) (by decide) rfl rfl ⟨rfl, rfl⟩ ?_
      refine eb_aload_n (pc := 55) (n := 0) (i := 0) rfl rfl rfl ?_
      refine eb_getI (pc := 56) rfl rfl (by decide) (by decide) rfl ?_
      refine eb_aload_n (pc := 59) (n := 0) (i := 0) rfl rfl rfl ?_
      refine eb_getI (pc := 60) rfl rfl (by decide) (by decide) rfl ?_
      refine eb_icmp_lt (pc := 63) (tgt := 75) rfl (by decide) (fun c9 => ?_) (fun c9 => ?_)
      · replace w := w.1 c9
        refine eb_aload_n (pc := 75) (n := 0) (i := 0) rfl rfl rfl ?_
        refine eb_aload_n (pc := 76) (n := 0) (i := 0) rfl rfl rfl ?_
        refine eb_getI (pc := 77) rfl rfl (by decide) (by decide) rfl ?_
        refine eb_ctV (pc := 80) (As := [.int (eb_I (eb_sI h5 s_MO 7 (eb_I h5 s_MO 6)) s_MO 6)]) (rest := []) rfl (by decide) rfl rfl (by decide) rfl (Nat.le_of_ble_eq_true rfl) ?_
        refine eb_Ct.mono w ?_
        rintro r h10 ⟨y11, rfl, ko12, w⟩
        change eb_Sn _ _ _ 83 _ [.int y11] _ _
        refine eb_ctS (pc := 83) (As := [.int y11]) (rest := []) rfl (by decide) (by decide) rfl rfl (Nat.le_of_ble_eq_true rfl) ?_
        refine eb_Ct.mono w ?_
        rintro r h13 ⟨y14, rfl, ko15, w⟩
        change eb_Sn _ _ _ 86 _ [.int y14] _ _
        refine eb_if_eq (pc := 86) (tgt := 127) rfl (by decide) (fun c16 => ?_) (fun c16 => ?_)
        · replace w := w.1 c16
          refine eb_aload_n (pc := 127) (n := 0) (i := 0) rfl rfl rfl ?_
          refine eb_aload_n (pc := 128) (n := 0) (i := 0) rfl rfl rfl ?_
          refine eb_getI (pc := 129) rfl rfl (by decide) (by decide) rfl ?_
          refine eb_ctV (pc := 132) (As := [.int (eb_I h13 s_MO 6)]) (rest := []) rfl (by decide) rfl rfl (by decide) rfl (Nat.le_of_ble_eq_true rfl) ?_
          refine eb_Ct.mono w ?_
          rintro r h17 ⟨y18, rfl, ko19, w⟩
          change eb_Sn _ _ _ 135 _ [.int y18] _ _
          refine eb_ctS (pc := 135) (As := [.int y18]) (rest := []) rfl (by decide) (by decide) rfl rfl (Nat.le_of_ble_eq_true rfl) ?_
          refine eb_Ct.mono w ?_
          rintro r h20 ⟨y21, rfl, ko22, w⟩
          change eb_Sn _ _ _ 138 _ [.int y21] _ _
          refine eb_if_eq (pc := 138) (tgt := 236) rfl (by decide) (fun c23 => ?_) (fun c23 => ?_)
          · replace w := w.1 c23
            refine eb_aload_n (pc := 236) (n := 0) (i := 0) rfl rfl rfl ?_
            refine eb_dupr (pc := 237) rfl ?_
            refine eb_getI (pc := 238) rfl rfl (by decide) (by decide) rfl ?_
            refine eb_iconst (pc := 241) (n := 1) (v := 1) rfl rfl ?_
            refine eb_iadd (pc := 242) rfl ?_
            refine eb_putI (pc := 243) rfl rfl (by decide) (by decide) rfl rfl ⟨rfl, rfl⟩ ?_
            refine eb_aload_n (pc := 246) (n := 0) (i := 0) rfl rfl rfl ?_
            refine eb_bipush (pc := 247) (n := 25) (v := 25) rfl rfl ?_
            refine eb_putI (pc := 249) rfl rfl (by decide) (by decide) rfl rfl ⟨rfl, rfl⟩ ?_
            refine eb_iconst (pc := 252) (n := 0) (v := 0) rfl rfl ?_
            refine eb_istore_n (pc := 253) (n := 1) (i := 1) (ls2 := [(1, .int 0), (0, .ref s_MO)]) rfl (Nat.le_of_ble_eq_true rfl) rfl rfl ?_
            exact eb_pick [1, 0] rfl w
          · replace w := w.2 c23
            refine eb_aload_n (pc := 141) (n := 0) (i := 0) rfl rfl rfl ?_
            refine eb_iconst (pc := 142) (n := 0) (v := 0) rfl rfl ?_
            refine eb_putI (pc := 143) rfl rfl (by decide) (by decide) rfl rfl ⟨rfl, rfl⟩ ?_
            exact eb_pick [0] rfl w
        · replace w := w.2 c16
          exact eb_pick [0] rfl w
      · replace w := w.2 c9
        refine eb_aload_n (pc := 66) (n := 0) (i := 0) rfl rfl rfl ?_
        refine eb_bipush (pc := 67) (n := 24) (v := 24) rfl rfl ?_
        refine eb_putI (pc := 69) rfl rfl (by decide) (by decide) rfl rfl ⟨rfl, rfl⟩ ?_
        refine eb_goto (pc := 72) (tgt := 294) rfl (by decide) ?_
        exact eb_return (pc := 294) rfl rfl w
    · replace w := w.2 c8
      refine eb_aload_n (pc := 34) (n := 0) (i := 0) rfl rfl rfl ?_
      refine eb_dupr (pc := 35) rfl ?_
      refine eb_getI (pc := 36) rfl rfl (by decide) (by decide) rfl ?_
      refine eb_iconst (pc := 39) (n := 1) (v := 1) rfl rfl ?_
      refine eb_iadd (pc := 40) rfl ?_
      refine eb_putI (pc := 41) rfl rfl (by decide) (by decide) rfl rfl ⟨rfl, rfl⟩ ?_
      refine eb_goto (pc := 44) (tgt := 8) rfl (by decide) ?_
      exact eb_pick [0] rfl w
theorem b_X11_next_254 {d : Nat} {h0 h : eb_H} {Q : Option Value → eb_H → Prop} (x1 : Int32)  (ko : eb_KO h) (w : eb_Ct d 289 [.ref (eb_mk 3 21 0)] h (fun r h1 => ∃ y2, r = some (.int y2) ∧ eb_KO h1 ∧ ((y2 ≤ x1 → Q none h1) ∧ (¬ (y2 ≤ x1) → eb_Ct d 160 [.ref s_MO, .int (eb_I h1 s_MO 6)] h1 (fun r h5 => ∃ y6, r = some (.int y6) ∧ eb_KO h5 ∧ eb_Ct d 290 [.ref (eb_mk 3 21 0), .int x1] h5 (fun r h8 => ∃ y9, r = some (.int y9) ∧ eb_KO h8 ∧ ((¬ y6 = y9 → eb_Sn (d + 1) m_X11_next h0 254 [(0, .ref s_MO), (1, .int (x1 + 1))] [] h8 Q) ∧ (y6 = y9 → eb_Sn (d + 1) m_X11_next h0 254 [(0, .ref s_MO), (1, .int (x1 + 1))] [] (eb_sI h8 s_MO 9 ((30 : Int32) + x1)) Q)))))))) : eb_Sn (d + 1) m_X11_next h0 254 [(0, .ref s_MO), (1, .int x1)] [] h Q := by
  refine eb_iload_n (pc := 254) (n := 1) (i := 1) rfl rfl rfl ?_
  refine eb_ldcS (pc := 255) (a := 3) (i := eb_mk 3 21 0) rfl rfl rfl ?_
  refine eb_ctT (pc := 257) (i := 3) (As := []) (rest := [.int x1]) rfl (by decide) rfl (by decide) rfl rfl (Nat.le_of_ble_eq_true rfl) ?_
  refine eb_Ct.mono w ?_
  rintro r h1 ⟨y2, rfl, ko3, w⟩
  change eb_Sn _ _ _ 260 _ [.int y2, .int x1] _ _
  refine eb_icmp_ge (pc := 260) (tgt := 294) rfl (by decide) (fun c4 => ?_) (fun c4 => ?_)
  · replace w := w.1 c4
    exact eb_return (pc := 294) rfl rfl w
  · replace w := w.2 c4
    refine eb_aload_n (pc := 263) (n := 0) (i := 0) rfl rfl rfl ?_
    refine eb_aload_n (pc := 264) (n := 0) (i := 0) rfl rfl rfl ?_
    refine eb_getI (pc := 265) rfl rfl (by decide) (by decide) rfl ?_
    refine eb_ctV (pc := 268) (As := [.int (eb_I h1 s_MO 6)]) (rest := []) rfl (by decide) rfl rfl (by decide) rfl (Nat.le_of_ble_eq_true rfl) ?_
    refine eb_Ct.mono w ?_
    rintro r h5 ⟨y6, rfl, ko7, w⟩
    change eb_Sn _ _ _ 271 _ [.int y6] _ _
    refine eb_ldcS (pc := 271) (a := 3) (i := eb_mk 3 21 0) rfl rfl rfl ?_
    refine eb_iload_n (pc := 273) (n := 1) (i := 1) rfl rfl rfl ?_
    refine eb_ctT (pc := 274) (i := 3) (As := [.int x1]) (rest := [.int y6]) rfl (by decide) rfl (by decide) rfl rfl (Nat.le_of_ble_eq_true rfl) ?_
    refine eb_Ct.mono w ?_
    rintro r h8 ⟨y9, rfl, ko10, w⟩
    change eb_Sn _ _ _ 277 _ [.int y9, .int y6] _ _
    refine eb_icmp_ne (pc := 277) (tgt := 288) rfl (by decide) (fun c11 => ?_) (fun c11 => ?_)
    · replace w := w.1 c11
      refine eb_iinc (pc := 288) (i := 1) (n := 1) (v := x1 + 1) (ls2 := [(1, .int (x1 + 1)), (0, .ref s_MO)]) (Nat.le_of_ble_eq_true rfl) rfl rfl rfl rfl ?_
      refine eb_goto (pc := 291) (tgt := 254) rfl (by decide) ?_
      exact eb_pick [1, 0] rfl w
    · replace w := w.2 c11
      refine eb_aload_n (pc := 280) (n := 0) (i := 0) rfl rfl rfl ?_
      refine eb_bipush (pc := 281) (n := 30) (v := 30) rfl rfl ?_
      refine eb_iload_n (pc := 283) (n := 1) (i := 1) rfl rfl rfl ?_
      refine eb_iadd (pc := 284) rfl ?_
      refine eb_putI (pc := 285) rfl rfl (by decide) (by decide) rfl rfl ⟨rfl, rfl⟩ ?_
      refine eb_iinc (pc := 288) (i := 1) (n := 1) (v := x1 + 1) (ls2 := [(1, .int (x1 + 1)), (0, .ref s_MO)]) (Nat.le_of_ble_eq_true rfl) rfl rfl rfl rfl ?_
      refine eb_goto (pc := 291) (tgt := 254) rfl (by decide) ?_
      exact eb_pick [1, 0] rfl w
theorem b_X11_next_146 {d : Nat} {h0 h : eb_H} {Q : Option Value → eb_H → Prop}   (ko : eb_KO h) (w : eb_Ct d 160 [.ref s_MO, .int (eb_I h s_MO 7)] h (fun r h1 => ∃ y2, r = some (.int y2) ∧ eb_KO h1 ∧ eb_Ct d 162 [.int y2] h1 (fun r h4 => ∃ y5, r = some (.int y5) ∧ eb_KO h4 ∧ ((y5 = 0 → Q none (eb_sI h4 s_MO 9 (if ((eb_I h4 s_MO 7) - (eb_I h4 s_MO 6)) ≤ (3 : Int32) then 23 else 25 : Int32))) ∧ (¬ (y5 = 0) → (((3 : Int32) ≤ ((eb_I h4 s_MO 7) - (eb_I h4 s_MO 6)) → eb_Sn (d + 1) m_X11_next h0 146 [(0, .ref s_MO)] [] (eb_sI h4 s_MO 7 ((eb_I h4 s_MO 7) + 1)) Q) ∧ (¬ ((3 : Int32) ≤ ((eb_I h4 s_MO 7) - (eb_I h4 s_MO 6))) → eb_Ct d 160 [.ref s_MO, .int (eb_I h4 s_MO 7)] h4 (fun r h11 => ∃ y12, r = some (.int y12) ∧ eb_KO h11 ∧ eb_Sn (d + 1) m_X11_next h0 146 [(0, .ref s_MO)] [] (eb_sI (eb_sI h11 s_MO 10 ((((10 : Int32) * (eb_I h4 s_MO 10)) + y12) - 48)) s_MO 7 ((eb_I (eb_sI h11 s_MO 10 ((((10 : Int32) * (eb_I h4 s_MO 10)) + y12) - 48)) s_MO 7) + 1)) Q)))))))) : eb_Sn (d + 1) m_X11_next h0 146 [(0, .ref s_MO)] [] h Q := by
  refine eb_aload_n (pc := 146) (n := 0) (i := 0) rfl rfl rfl ?_
  refine eb_aload_n (pc := 147) (n := 0) (i := 0) rfl rfl rfl ?_
  refine eb_getI (pc := 148) rfl rfl (by decide) (by decide) rfl ?_
  refine eb_ctV (pc := 151) (As := [.int (eb_I h s_MO 7)]) (rest := []) rfl (by decide) rfl rfl (by decide) rfl (Nat.le_of_ble_eq_true rfl) ?_
  refine eb_Ct.mono w ?_
  rintro r h1 ⟨y2, rfl, ko3, w⟩
  change eb_Sn _ _ _ 154 _ [.int y2] _ _
  refine eb_ctS (pc := 154) (As := [.int y2]) (rest := []) rfl (by decide) (by decide) rfl rfl (Nat.le_of_ble_eq_true rfl) ?_
  refine eb_Ct.mono w ?_
  rintro r h4 ⟨y5, rfl, ko6, w⟩
  change eb_Sn _ _ _ 157 _ [.int y5] _ _
  refine eb_if_eq (pc := 157) (tgt := 209) rfl (by decide) (fun c7 => ?_) (fun c7 => ?_)
  · replace w := w.1 c7
    refine eb_aload_n (pc := 209) (n := 0) (i := 0) rfl rfl rfl ?_
    refine eb_aload_n (pc := 210) (n := 0) (i := 0) rfl rfl rfl ?_
    refine eb_getI (pc := 211) rfl rfl (by decide) (by decide) rfl ?_
    refine eb_aload_n (pc := 214) (n := 0) (i := 0) rfl rfl rfl ?_
    refine eb_getI (pc := 215) rfl rfl (by decide) (by decide) rfl ?_
    refine eb_isub (pc := 218) rfl ?_
    refine eb_iconst (pc := 219) (n := 3) (v := 3) rfl rfl ?_
    have jj9 : eb_Sn (d + 1) m_X11_next h0 230 [(0, .ref s_MO)] [.int (if ((eb_I h4 s_MO 7) - (eb_I h4 s_MO 6)) ≤ (3 : Int32) then 23 else 25 : Int32), .ref s_MO] h4 Q := by
      refine eb_putI (pc := 230) rfl rfl (by decide) (by decide) rfl rfl ⟨rfl, rfl⟩ ?_
      refine eb_goto (pc := 233) (tgt := 294) rfl (by decide) ?_
      exact eb_return (pc := 294) rfl rfl w
    refine eb_icmp_le (pc := 220) (tgt := 228) rfl (by decide) (fun c8 => ?_) (fun c8 => ?_)
    · refine eb_bipush (pc := 228) (n := 23) (v := 23) rfl rfl ?_
      simp only [if_pos c8] at jj9 ⊢
      exact jj9
    · refine eb_bipush (pc := 223) (n := 25) (v := 25) rfl rfl ?_
      refine eb_goto (pc := 225) (tgt := 230) rfl (by decide) ?_
      simp only [if_neg c8] at jj9 ⊢
      exact jj9
  · replace w := w.2 c7
    refine eb_aload_n (pc := 160) (n := 0) (i := 0) rfl rfl rfl ?_
    refine eb_getI (pc := 161) rfl rfl (by decide) (by decide) rfl ?_
    refine eb_aload_n (pc := 164) (n := 0) (i := 0) rfl rfl rfl ?_
    refine eb_getI (pc := 165) rfl rfl (by decide) (by decide) rfl ?_
    refine eb_isub (pc := 168) rfl ?_
    refine eb_iconst (pc := 169) (n := 3) (v := 3) rfl rfl ?_
    refine eb_icmp_ge (pc := 170) (tgt := 196) rfl (by decide) (fun c10 => ?_) (fun c10 => ?_)
    · replace w := w.1 c10
      refine eb_aload_n (pc := 196) (n := 0) (i := 0) rfl rfl rfl ?_
      refine eb_dupr (pc := 197) rfl ?_
      refine eb_getI (pc := 198) rfl rfl (by decide) (by decide) rfl ?_
      refine eb_iconst (pc := 201) (n := 1) (v := 1) rfl rfl ?_
      refine eb_iadd (pc := 202) rfl ?_
      refine eb_putI (pc := 203) rfl rfl (by decide) (by decide) rfl rfl ⟨rfl, rfl⟩ ?_
      refine eb_goto (pc := 206) (tgt := 146) rfl (by decide) ?_
      exact eb_pick [0] rfl w
    · replace w := w.2 c10
      refine eb_aload_n (pc := 173) (n := 0) (i := 0) rfl rfl rfl ?_
      refine eb_bipush (pc := 174) (n := 10) (v := 10) rfl rfl ?_
      refine eb_aload_n (pc := 176) (n := 0) (i := 0) rfl rfl rfl ?_
      refine eb_getI (pc := 177) rfl rfl (by decide) (by decide) rfl ?_
      refine eb_imul (pc := 180) rfl ?_
      refine eb_aload_n (pc := 181) (n := 0) (i := 0) rfl rfl rfl ?_
      refine eb_aload_n (pc := 182) (n := 0) (i := 0) rfl rfl rfl ?_
      refine eb_getI (pc := 183) rfl rfl (by decide) (by decide) rfl ?_
      refine eb_ctV (pc := 186) (As := [.int (eb_I h4 s_MO 7)]) (rest := [.int ((10 : Int32) * (eb_I h4 s_MO 10)), .ref s_MO]) rfl (by decide) rfl rfl (by decide) rfl (Nat.le_of_ble_eq_true rfl) ?_
      refine eb_Ct.mono w ?_
      rintro r h11 ⟨y12, rfl, ko13, w⟩
      change eb_Sn _ _ _ 189 _ [.int y12, .int ((10 : Int32) * (eb_I h4 s_MO 10)), .ref s_MO] _ _
      refine eb_iadd (pc := 189) rfl ?_
      refine eb_bipush (pc := 190) (n := 48) (v := 48) rfl rfl ?_
      refine eb_isub (pc := 192) rfl ?_
      refine eb_putI (pc := 193) rfl rfl (by decide) (by decide) rfl rfl ⟨rfl, rfl⟩ ?_
      refine eb_aload_n (pc := 196) (n := 0) (i := 0) rfl rfl rfl ?_
      refine eb_dupr (pc := 197) rfl ?_
      refine eb_getI (pc := 198) rfl rfl (by decide) (by decide) rfl ?_
      refine eb_iconst (pc := 201) (n := 1) (v := 1) rfl rfl ?_
      refine eb_iadd (pc := 202) rfl ?_
      refine eb_putI (pc := 203) rfl rfl (by decide) (by decide) rfl rfl ⟨rfl, rfl⟩ ?_
      refine eb_goto (pc := 206) (tgt := 146) rfl (by decide) ?_
      exact eb_pick [0] rfl w
theorem b_X11_next_89 {d : Nat} {h0 h : eb_H} {Q : Option Value → eb_H → Prop}   (ko : eb_KO h) (w : eb_Ct d 160 [.ref s_MO, .int (eb_I h s_MO 7)] h (fun r h1 => ∃ y2, r = some (.int y2) ∧ eb_KO h1 ∧ eb_Ct d 161 [.int y2] h1 (fun r h4 => ∃ y5, r = some (.int y5) ∧ eb_KO h4 ∧ ((y5 = 0 → eb_Ct d 163 [.ref s_MO] h4 (fun r h8 => ∃ y9, r = some (.int y9) ∧ eb_KO h8 ∧ Q none (eb_sI h8 s_MO 9 y9))) ∧ (¬ (y5 = 0) → eb_Sn (d + 1) m_X11_next h0 89 [(0, .ref s_MO)] [] (eb_sI h4 s_MO 7 ((eb_I h4 s_MO 7) + 1)) Q))))) : eb_Sn (d + 1) m_X11_next h0 89 [(0, .ref s_MO)] [] h Q := by
  refine eb_aload_n (pc := 89) (n := 0) (i := 0) rfl rfl rfl ?_
  refine eb_aload_n (pc := 90) (n := 0) (i := 0) rfl rfl rfl ?_
  refine eb_getI (pc := 91) rfl rfl (by decide) (by decide) rfl ?_
  refine eb_ctV (pc := 94) (As := [.int (eb_I h s_MO 7)]) (rest := []) rfl (by decide) rfl rfl (by decide) rfl (Nat.le_of_ble_eq_true rfl) ?_
  refine eb_Ct.mono w ?_
  rintro r h1 ⟨y2, rfl, ko3, w⟩
  change eb_Sn _ _ _ 97 _ [.int y2] _ _
  refine eb_ctS (pc := 97) (As := [.int y2]) (rest := []) rfl (by decide) (by decide) rfl rfl (Nat.le_of_ble_eq_true rfl) ?_
  refine eb_Ct.mono w ?_
  rintro r h4 ⟨y5, rfl, ko6, w⟩
  change eb_Sn _ _ _ 100 _ [.int y5] _ _
  refine eb_if_eq (pc := 100) (tgt := 116) rfl (by decide) (fun c7 => ?_) (fun c7 => ?_)
  · replace w := w.1 c7
    refine eb_aload_n (pc := 116) (n := 0) (i := 0) rfl rfl rfl ?_
    refine eb_aload_n (pc := 117) (n := 0) (i := 0) rfl rfl rfl ?_
    refine eb_ctV (pc := 118) (As := []) (rest := [.ref s_MO]) rfl (by decide) rfl rfl (by decide) rfl (Nat.le_of_ble_eq_true rfl) ?_
    refine eb_Ct.mono w ?_
    rintro r h8 ⟨y9, rfl, ko10, w⟩
    change eb_Sn _ _ _ 121 _ [.int y9, .ref s_MO] _ _
    refine eb_putI (pc := 121) rfl rfl (by decide) (by decide) rfl rfl ⟨rfl, rfl⟩ ?_
    refine eb_goto (pc := 124) (tgt := 294) rfl (by decide) ?_
    exact eb_return (pc := 294) rfl rfl w
  · replace w := w.2 c7
    refine eb_aload_n (pc := 103) (n := 0) (i := 0) rfl rfl rfl ?_
    refine eb_dupr (pc := 104) rfl ?_
    refine eb_getI (pc := 105) rfl rfl (by decide) (by decide) rfl ?_
    refine eb_iconst (pc := 108) (n := 1) (v := 1) rfl rfl ?_
    refine eb_iadd (pc := 109) rfl ?_
    refine eb_putI (pc := 110) rfl rfl (by decide) (by decide) rfl rfl ⟨rfl, rfl⟩ ?_
    refine eb_goto (pc := 113) (tgt := 89) rfl (by decide) ?_
    exact eb_pick [0] rfl w
theorem T_X11_next {d : Nat} {h : eb_H} {Q : Option Value → eb_H → Prop}   (ko : eb_KO h) (w : eb_Sn (d + 1) m_X11_next h 8 [(0, .ref s_MO)] [] (eb_sI h s_MO 6 (eb_I h s_MO 7)) Q) : eb_Ct (d + 1) 164 [.ref s_MO] h Q :=
  eb_bodyQ (by decide) ok_X11_next (Nat.le_of_ble_eq_true rfl) (b_X11_next_0 (h0 := h)   ko w)
theorem b_X11_fails_0 {d : Nat} {h0 h : eb_H} {Q : Option Value → eb_H → Prop} (x1 : Int32)  (ko : eb_KO h) (w : (((eb_I h s_MO 11) = 0 → Q none (eb_sI (eb_sI h s_MO 11 (if (eb_I h s_MO 9) = (25 : Int32) then 1 else x1 : Int32)) s_MO 12 (eb_I (eb_sI h s_MO 11 (if (eb_I h s_MO 9) = (25 : Int32) then 1 else x1 : Int32)) s_MO 6))) ∧ (¬ ((eb_I h s_MO 11) = 0) → Q none h))) : eb_Sn d m_X11_fails h0 0 [(0, .ref s_MO), (1, .int x1)] [] h Q := by
  refine eb_aload_n (pc := 0) (n := 0) (i := 0) rfl rfl rfl ?_
  refine eb_getI (pc := 1) rfl rfl (by decide) (by decide) rfl ?_
  refine eb_if_eq (pc := 4) (tgt := 8) rfl (by decide) (fun c1 => ?_) (fun c1 => ?_)
  · replace w := w.1 c1
    refine eb_aload_n (pc := 8) (n := 0) (i := 0) rfl rfl rfl ?_
    refine eb_aload_n (pc := 9) (n := 0) (i := 0) rfl rfl rfl ?_
    refine eb_getI (pc := 10) rfl rfl (by decide) (by decide) rfl ?_
    refine eb_bipush (pc := 13) (n := 25) (v := 25) rfl rfl ?_
    have jj3 : eb_Sn d m_X11_fails h0 23 [(0, .ref s_MO), (1, .int x1)] [.int (if (eb_I h s_MO 9) = (25 : Int32) then 1 else x1 : Int32), .ref s_MO] h Q := by
      refine eb_putI (pc := 23) rfl rfl (by decide) (by decide) rfl rfl ⟨rfl, rfl⟩ ?_
      refine eb_aload_n (pc := 26) (n := 0) (i := 0) rfl rfl rfl ?_
      refine eb_aload_n (pc := 27) (n := 0) (i := 0) rfl rfl rfl ?_
      refine eb_getI (pc := 28) rfl rfl (by decide) (by decide) rfl ?_
      refine eb_putI (pc := 31) rfl rfl (by decide) (by decide) rfl rfl ⟨rfl, rfl⟩ ?_
      exact eb_return (pc := 34) rfl rfl w
    refine eb_icmp_ne (pc := 15) (tgt := 22) rfl (by decide) (fun c2 => ?_) (fun c2 => ?_)
    · refine eb_iload_n (pc := 22) (n := 1) (i := 1) rfl rfl rfl ?_
      simp only [if_neg c2] at jj3 ⊢
      exact jj3
    · refine eb_iconst (pc := 18) (n := 1) (v := 1) rfl rfl ?_
      refine eb_goto (pc := 19) (tgt := 23) rfl (by decide) ?_
      simp only [if_pos c2] at jj3 ⊢
      exact jj3
  · replace w := w.2 c1
    exact eb_return (pc := 7) rfl rfl w
theorem T_X11_fails {d : Nat} {h : eb_H} {Q : Option Value → eb_H → Prop} (x1 : Int32)  (ko : eb_KO h) (w : (((eb_I h s_MO 11) = 0 → Q none (eb_sI (eb_sI h s_MO 11 (if (eb_I h s_MO 9) = (25 : Int32) then 1 else x1 : Int32)) s_MO 12 (eb_I (eb_sI h s_MO 11 (if (eb_I h s_MO 9) = (25 : Int32) then 1 else x1 : Int32)) s_MO 6))) ∧ (¬ ((eb_I h s_MO 11) = 0) → Q none h))) : eb_Ct d 165 [.ref s_MO, .int x1] h Q :=
  eb_bodyQ (by decide) ok_X11_fails (Nat.le_of_ble_eq_true rfl) (b_X11_fails_0 (h0 := h) x1  ko w)
theorem b_X11_is_0 {d : Nat} {h0 h : eb_H} {Q : Option Value → eb_H → Prop} (x1 : Int32)  (ko : eb_KO h) (w : Q (some (.int (if (eb_I h s_MO 11) = 0 then (if (eb_I h s_MO 9) = x1 then 1 else 0) else 0 : Int32))) h) : eb_Sn d m_X11_is h0 0 [(0, .ref s_MO), (1, .int x1)] [] h Q := by
  refine eb_aload_n (pc := 0) (n := 0) (i := 0) rfl rfl rfl ?_
  refine eb_getI (pc := 1) rfl rfl (by decide) (by decide) rfl ?_
  have jj3 : eb_Sn d m_X11_is h0 20 [(0, .ref s_MO), (1, .int x1)] [.int (if (eb_I h s_MO 11) = 0 then (if (eb_I h s_MO 9) = x1 then 1 else 0) else 0 : Int32)] h Q := by
    exact eb_ireturn (pc := 20) rfl rfl (by (repeat' split) <;> rfl) w
  refine eb_if_ne (pc := 4) (tgt := 19) rfl (by decide) (fun c1 => ?_) (fun c1 => ?_)
  · refine eb_iconst (pc := 19) (n := 0) (v := 0) rfl rfl ?_
    simp only [if_neg c1] at jj3 ⊢
    exact jj3
  · refine eb_aload_n (pc := 7) (n := 0) (i := 0) rfl rfl rfl ?_
    refine eb_getI (pc := 8) rfl rfl (by decide) (by decide) rfl ?_
    refine eb_iload_n (pc := 11) (n := 1) (i := 1) rfl rfl rfl ?_
    refine eb_icmp_ne (pc := 12) (tgt := 19) rfl (by decide) (fun c2 => ?_) (fun c2 => ?_)
    · refine eb_iconst (pc := 19) (n := 0) (v := 0) rfl rfl ?_
      simp only [if_pos c1, if_neg c2] at jj3 ⊢
      exact jj3
    · refine eb_iconst (pc := 15) (n := 1) (v := 1) rfl rfl ?_
      refine eb_goto (pc := 16) (tgt := 20) rfl (by decide) ?_
      simp only [if_pos c1, if_pos c2] at jj3 ⊢
      exact jj3
theorem T_X11_is {d : Nat} {h : eb_H} {Q : Option Value → eb_H → Prop} (x1 : Int32)  (ko : eb_KO h) (w : Q (some (.int (if (eb_I h s_MO 11) = 0 then (if (eb_I h s_MO 9) = x1 then 1 else 0) else 0 : Int32))) h) : eb_Ct d 166 [.ref s_MO, .int x1] h Q :=
  eb_bodyQ (by decide) ok_X11_is (Nat.le_of_ble_eq_true rfl) (b_X11_is_0 (h0 := h) x1  ko w)
theorem b_X11_eats_0 {d : Nat} {h0 h : eb_H} {Q : Option Value → eb_H → Prop} (x1 : Int32)  (ko : eb_KO h) (w : eb_Ct d 166 [.ref s_MO, .int x1] h (fun r h1 => ∃ y2, r = some (.int y2) ∧ eb_KO h1 ∧ ((¬ y2 = 0 → eb_Ct d 164 [.ref s_MO] h1 (fun r h5 => r = none ∧ eb_KO h5 ∧ Q (some (.int 1)) h5)) ∧ (y2 = 0 → Q (some (.int 0)) h1)))) : eb_Sn (d + 1) m_X11_eats h0 0 [(0, .ref s_MO), (1, .int x1)] [] h Q := by
  refine eb_aload_n (pc := 0) (n := 0) (i := 0) rfl rfl rfl ?_
  refine eb_iload_n (pc := 1) (n := 1) (i := 1) rfl rfl rfl ?_
  refine eb_ctV (pc := 2) (As := [.int x1]) (rest := []) rfl (by decide) rfl rfl (by decide) rfl (Nat.le_of_ble_eq_true rfl) ?_
  refine eb_Ct.mono w ?_
  rintro r h1 ⟨y2, rfl, ko3, w⟩
  change eb_Sn _ _ _ 5 _ [.int y2] _ _
  refine eb_if_ne (pc := 5) (tgt := 10) rfl (by decide) (fun c4 => ?_) (fun c4 => ?_)
  · replace w := w.1 c4
    refine eb_aload_n (pc := 10) (n := 0) (i := 0) rfl rfl rfl ?_
    refine eb_ctV (pc := 11) (As := []) (rest := []) rfl (by decide) rfl rfl (by decide) rfl (Nat.le_of_ble_eq_true rfl) ?_
    refine eb_Ct.mono w ?_
    rintro r h5 ⟨rfl, ko7, w⟩
    change eb_Sn _ _ _ 14 _ [] _ _
    refine eb_iconst (pc := 14) (n := 1) (v := 1) rfl rfl ?_
    exact eb_ireturn (pc := 15) rfl rfl (by decide) w
  · replace w := w.2 c4
    refine eb_iconst (pc := 8) (n := 0) (v := 0) rfl rfl ?_
    exact eb_ireturn (pc := 9) rfl rfl (by decide) w
theorem T_X11_eats {d : Nat} {h : eb_H} {Q : Option Value → eb_H → Prop} (x1 : Int32)  (ko : eb_KO h) (w : eb_Ct d 166 [.ref s_MO, .int x1] h (fun r h1 => ∃ y2, r = some (.int y2) ∧ eb_KO h1 ∧ ((¬ y2 = 0 → eb_Ct d 164 [.ref s_MO] h1 (fun r h5 => r = none ∧ eb_KO h5 ∧ Q (some (.int 1)) h5)) ∧ (y2 = 0 → Q (some (.int 0)) h1)))) : eb_Ct (d + 1) 167 [.ref s_MO, .int x1] h Q :=
  eb_bodyQ (by decide) ok_X11_eats (Nat.le_of_ble_eq_true rfl) (b_X11_eats_0 (h0 := h) x1  ko w)
theorem b_X11_takes_0 {d : Nat} {h0 h : eb_H} {Q : Option Value → eb_H → Prop} (x1 : Int32) (x2 : Int32)  (ko : eb_KO h) (w : eb_Ct d 166 [.ref s_MO, .int 23] h (fun r h1 => ∃ y2, r = some (.int y2) ∧ eb_KO h1 ∧ ((¬ y2 = 0 → eb_Ct d 156 [.long ((eb_I h1 s_MO 10).toInt64), .long x1.toInt64, .long x2.toInt64] h1 (fun r h5 => ∃ y6, r = some (.int y6) ∧ eb_KO h5 ∧ ((¬ y6 = 0 → ((¬ (eb_I h5 s_MO 11) = 0 → Q (some (.int (eb_I h5 s_MO 10))) h5) ∧ ((eb_I h5 s_MO 11) = 0 → eb_Ct d 164 [.ref s_MO] h5 (fun r h10 => r = none ∧ eb_KO h10 ∧ Q (some (.int (eb_I h5 s_MO 10))) h10)))) ∧ (y6 = 0 → eb_Ct d 165 [.ref s_MO, .int 3] h5 (fun r h13 => r = none ∧ eb_KO h13 ∧ ((¬ (eb_I h13 s_MO 11) = 0 → Q (some (.int (eb_I h13 s_MO 10))) h13) ∧ ((eb_I h13 s_MO 11) = 0 → eb_Ct d 164 [.ref s_MO] h13 (fun r h17 => r = none ∧ eb_KO h17 ∧ Q (some (.int (eb_I h13 s_MO 10))) h17)))))))) ∧ (y2 = 0 → eb_Ct d 165 [.ref s_MO, .int 2] h1 (fun r h20 => r = none ∧ eb_KO h20 ∧ ((¬ (eb_I h20 s_MO 11) = 0 → Q (some (.int (eb_I h20 s_MO 10))) h20) ∧ ((eb_I h20 s_MO 11) = 0 → eb_Ct d 164 [.ref s_MO] h20 (fun r h24 => r = none ∧ eb_KO h24 ∧ Q (some (.int (eb_I h20 s_MO 10))) h24)))))))) : eb_Sn (d + 1) m_X11_takes h0 0 [(0, .ref s_MO), (1, .int x1), (2, .int x2)] [] h Q := by
  refine eb_aload_n (pc := 0) (n := 0) (i := 0) rfl rfl rfl ?_
  refine eb_bipush (pc := 1) (n := 23) (v := 23) rfl rfl ?_
  refine eb_ctV (pc := 3) (As := [.int 23]) (rest := []) rfl (by decide) rfl rfl (by decide) rfl (Nat.le_of_ble_eq_true rfl) ?_
  refine eb_Ct.mono w ?_
  rintro r h1 ⟨y2, rfl, ko3, w⟩
  change eb_Sn _ _ _ 6 _ [.int y2] _ _
  refine eb_if_ne (pc := 6) (tgt := 17) rfl (by decide) (fun c4 => ?_) (fun c4 => ?_)
  · replace w := w.1 c4
    refine eb_aload_n (pc := 17) (n := 0) (i := 0) rfl rfl rfl ?_
    refine eb_getI (pc := 18) rfl rfl (by decide) (by decide) rfl ?_
    refine eb_i2l (pc := 21) rfl ?_
    refine eb_iload_n (pc := 22) (n := 1) (i := 1) rfl rfl rfl ?_
    refine eb_i2l (pc := 23) rfl ?_
    refine eb_iload_n (pc := 24) (n := 2) (i := 2) rfl rfl rfl ?_
    refine eb_i2l (pc := 25) rfl ?_
    refine eb_ctS (pc := 26) (As := [.long ((eb_I h1 s_MO 10).toInt64), .long x1.toInt64, .long x2.toInt64]) (rest := []) rfl (by decide) (by decide) rfl rfl (Nat.le_of_ble_eq_true rfl) ?_
    refine eb_Ct.mono w ?_
    rintro r h5 ⟨y6, rfl, ko7, w⟩
    change eb_Sn _ _ _ 29 _ [.int y6] _ _
    refine eb_if_ne (pc := 29) (tgt := 37) rfl (by decide) (fun c8 => ?_) (fun c8 => ?_)
    · replace w := w.1 c8
      refine eb_aload_n (pc := 37) (n := 0) (i := 0) rfl rfl rfl ?_
      refine eb_getI (pc := 38) rfl rfl (by decide) (by decide) rfl ?_
      refine eb_istore_n (pc := 41) (n := 3) (i := 3) (ls2 := [(3, .int (eb_I h5 s_MO 10)), (0, .ref s_MO), (1, .int x1), (2, .int x2)]) rfl (Nat.le_of_ble_eq_true rfl) rfl rfl ?_
      refine eb_aload_n (pc := 42) (n := 0) (i := 0) rfl rfl rfl ?_
      refine eb_getI (pc := 43) rfl rfl (by decide) (by decide) rfl ?_
      refine eb_if_ne (pc := 46) (tgt := 53) rfl (by decide) (fun c9 => ?_) (fun c9 => ?_)
      · replace w := w.1 c9
        refine eb_iload_n (pc := 53) (n := 3) (i := 3) rfl rfl rfl ?_
        exact eb_ireturn (pc := 54) rfl rfl rfl w
      · replace w := w.2 c9
        refine eb_aload_n (pc := 49) (n := 0) (i := 0) rfl rfl rfl ?_
        refine eb_ctV (pc := 50) (As := []) (rest := []) rfl (by decide) rfl rfl (by decide) rfl (Nat.le_of_ble_eq_true rfl) ?_
        refine eb_Ct.mono w ?_
        rintro r h10 ⟨rfl, ko12, w⟩
        change eb_Sn _ _ _ 53 _ [] _ _
        refine eb_iload_n (pc := 53) (n := 3) (i := 3) rfl rfl rfl ?_
        exact eb_ireturn (pc := 54) rfl rfl rfl w
    · replace w := w.2 c8
      refine eb_aload_n (pc := 32) (n := 0) (i := 0) rfl rfl rfl ?_
      refine eb_iconst (pc := 33) (n := 3) (v := 3) rfl rfl ?_
      refine eb_ctV (pc := 34) (As := [.int 3]) (rest := []) rfl (by decide) rfl rfl (by decide) rfl (Nat.le_of_ble_eq_true rfl) ?_
      refine eb_Ct.mono w ?_
      rintro r h13 ⟨rfl, ko15, w⟩
      change eb_Sn _ _ _ 37 _ [] _ _
      refine eb_aload_n (pc := 37) (n := 0) (i := 0) rfl rfl rfl ?_
      refine eb_getI (pc := 38) rfl rfl (by decide) (by decide) rfl ?_
      refine eb_istore_n (pc := 41) (n := 3) (i := 3) (ls2 := [(3, .int (eb_I h13 s_MO 10)), (0, .ref s_MO), (1, .int x1), (2, .int x2)]) rfl (Nat.le_of_ble_eq_true rfl) rfl rfl ?_
      refine eb_aload_n (pc := 42) (n := 0) (i := 0) rfl rfl rfl ?_
      refine eb_getI (pc := 43) rfl rfl (by decide) (by decide) rfl ?_
      refine eb_if_ne (pc := 46) (tgt := 53) rfl (by decide) (fun c16 => ?_) (fun c16 => ?_)
      · replace w := w.1 c16
        refine eb_iload_n (pc := 53) (n := 3) (i := 3) rfl rfl rfl ?_
        exact eb_ireturn (pc := 54) rfl rfl rfl w
      · replace w := w.2 c16
        refine eb_aload_n (pc := 49) (n := 0) (i := 0) rfl rfl rfl ?_
        refine eb_ctV (pc := 50) (As := []) (rest := []) rfl (by decide) rfl rfl (by decide) rfl (Nat.le_of_ble_eq_true rfl) ?_
        refine eb_Ct.mono w ?_
        rintro r h17 ⟨rfl, ko19, w⟩
        change eb_Sn _ _ _ 53 _ [] _ _
        refine eb_iload_n (pc := 53) (n := 3) (i := 3) rfl rfl rfl ?_
        exact eb_ireturn (pc := 54) rfl rfl rfl w
  · replace w := w.2 c4
    refine eb_aload_n (pc := 9) (n := 0) (i := 0) rfl rfl rfl ?_
    refine eb_iconst (pc := 10) (n := 2) (v := 2) rfl rfl ?_
    refine eb_ctV (pc := 11) (As := [.int 2]) (rest := []) rfl (by decide) rfl rfl (by decide) rfl (Nat.le_of_ble_eq_true rfl) ?_
    refine eb_Ct.mono w ?_
    rintro r h20 ⟨rfl, ko22, w⟩
    change eb_Sn _ _ _ 14 _ [] _ _
    refine eb_goto (pc := 14) (tgt := 37) rfl (by decide) ?_
    refine eb_aload_n (pc := 37) (n := 0) (i := 0) rfl rfl rfl ?_
    refine eb_getI (pc := 38) rfl rfl (by decide) (by decide) rfl ?_
    refine eb_istore_n (pc := 41) (n := 3) (i := 3) (ls2 := [(3, .int (eb_I h20 s_MO 10)), (0, .ref s_MO), (1, .int x1), (2, .int x2)]) rfl (Nat.le_of_ble_eq_true rfl) rfl rfl ?_
    refine eb_aload_n (pc := 42) (n := 0) (i := 0) rfl rfl rfl ?_
    refine eb_getI (pc := 43) rfl rfl (by decide) (by decide) rfl ?_
    refine eb_if_ne (pc := 46) (tgt := 53) rfl (by decide) (fun c23 => ?_) (fun c23 => ?_)
    · replace w := w.1 c23
      refine eb_iload_n (pc := 53) (n := 3) (i := 3) rfl rfl rfl ?_
      exact eb_ireturn (pc := 54) rfl rfl rfl w
    · replace w := w.2 c23
      refine eb_aload_n (pc := 49) (n := 0) (i := 0) rfl rfl rfl ?_
      refine eb_ctV (pc := 50) (As := []) (rest := []) rfl (by decide) rfl rfl (by decide) rfl (Nat.le_of_ble_eq_true rfl) ?_
      refine eb_Ct.mono w ?_
      rintro r h24 ⟨rfl, ko26, w⟩
      change eb_Sn _ _ _ 53 _ [] _ _
      refine eb_iload_n (pc := 53) (n := 3) (i := 3) rfl rfl rfl ?_
      exact eb_ireturn (pc := 54) rfl rfl rfl w
theorem T_X11_takes {d : Nat} {h : eb_H} {Q : Option Value → eb_H → Prop} (x1 : Int32) (x2 : Int32)  (ko : eb_KO h) (w : eb_Ct d 166 [.ref s_MO, .int 23] h (fun r h1 => ∃ y2, r = some (.int y2) ∧ eb_KO h1 ∧ ((¬ y2 = 0 → eb_Ct d 156 [.long ((eb_I h1 s_MO 10).toInt64), .long x1.toInt64, .long x2.toInt64] h1 (fun r h5 => ∃ y6, r = some (.int y6) ∧ eb_KO h5 ∧ ((¬ y6 = 0 → ((¬ (eb_I h5 s_MO 11) = 0 → Q (some (.int (eb_I h5 s_MO 10))) h5) ∧ ((eb_I h5 s_MO 11) = 0 → eb_Ct d 164 [.ref s_MO] h5 (fun r h10 => r = none ∧ eb_KO h10 ∧ Q (some (.int (eb_I h5 s_MO 10))) h10)))) ∧ (y6 = 0 → eb_Ct d 165 [.ref s_MO, .int 3] h5 (fun r h13 => r = none ∧ eb_KO h13 ∧ ((¬ (eb_I h13 s_MO 11) = 0 → Q (some (.int (eb_I h13 s_MO 10))) h13) ∧ ((eb_I h13 s_MO 11) = 0 → eb_Ct d 164 [.ref s_MO] h13 (fun r h17 => r = none ∧ eb_KO h17 ∧ Q (some (.int (eb_I h13 s_MO 10))) h17)))))))) ∧ (y2 = 0 → eb_Ct d 165 [.ref s_MO, .int 2] h1 (fun r h20 => r = none ∧ eb_KO h20 ∧ ((¬ (eb_I h20 s_MO 11) = 0 → Q (some (.int (eb_I h20 s_MO 10))) h20) ∧ ((eb_I h20 s_MO 11) = 0 → eb_Ct d 164 [.ref s_MO] h20 (fun r h24 => r = none ∧ eb_KO h24 ∧ Q (some (.int (eb_I h20 s_MO 10))) h24)))))))) : eb_Ct (d + 1) 168 [.ref s_MO, .int x1, .int x2] h Q :=
  eb_bodyQ (by decide) ok_X11_takes (Nat.le_of_ble_eq_true rfl) (b_X11_takes_0 (h0 := h) x1 x2  ko w)
theorem b_X11_isIn_0 {d : Nat} {h0 h : eb_H} {Q : Option Value → eb_H → Prop} (x0 : Int64) (x2 : Int32)  (ko : eb_KO h) (w : Q (some (.int (if ((x0 >>> (x2.toInt64 &&& 63)) &&& 1) = 1 then 1 else 0 : Int32))) h) : eb_Sn d m_X11_isIn h0 0 [(0, .long x0), (2, .int x2)] [] h Q := by
  refine eb_lload_n (pc := 0) (n := 0) (i := 0) rfl rfl rfl ?_
  refine eb_iload_n (pc := 1) (n := 2) (i := 2) rfl rfl rfl ?_
  refine eb_lshr (pc := 2) rfl ?_
  refine eb_lconst (pc := 3) (n := 1) (v := 1) rfl rfl ?_
  refine eb_land (pc := 4) rfl ?_
  refine eb_lconst (pc := 5) (n := 1) (v := 1) rfl rfl ?_
  refine eb_lcmp (pc := 6) rfl ?_
  have jj2 : eb_Sn d m_X11_isIn h0 15 [(0, .long x0), (2, .int x2)] [.int (if ((x0 >>> (x2.toInt64 &&& 63)) &&& 1) = 1 then 1 else 0 : Int32)] h Q := by
    exact eb_ireturn (pc := 15) rfl rfl (by (repeat' split) <;> rfl) w
  refine eb_if_ne (pc := 7) (tgt := 14) rfl (by decide) (fun c1 => ?_) (fun c1 => ?_)
  · replace c1 := eb_lc_ne.mp c1
    refine eb_iconst (pc := 14) (n := 0) (v := 0) rfl rfl ?_
    simp only [if_neg c1] at jj2 ⊢
    exact jj2
  · replace c1 := eb_lc_eq.mp c1
    refine eb_iconst (pc := 10) (n := 1) (v := 1) rfl rfl ?_
    refine eb_goto (pc := 11) (tgt := 15) rfl (by decide) ?_
    simp only [if_pos c1] at jj2 ⊢
    exact jj2
theorem T_X11_isIn {d : Nat} {h : eb_H} {Q : Option Value → eb_H → Prop} (x0 : Int64) (x2 : Int32)  (ko : eb_KO h) (w : Q (some (.int (if ((x0 >>> (x2.toInt64 &&& 63)) &&& 1) = 1 then 1 else 0 : Int32))) h) : eb_Ct d 169 [.long x0, .int x2] h Q :=
  eb_bodyQ (by decide) ok_X11_isIn (Nat.le_of_ble_eq_true rfl) (b_X11_isIn_0 (h0 := h) x0 x2  ko w)
theorem b_X11_wordOf_0 {d : Nat} {h0 h : eb_H} {Q : Option Value → eb_H → Prop} (x1 : Int32)  (ko : eb_KO h) (w : ((x1 = 3 → Q (some (.int (if (eb_I h s_MO 15) = (1 : Int32) then 5 else (-1) : Int32))) h) ∧ (x1 = 6 → Q (some (.int 3)) h) ∧ (x1 = 10 → Q (some (.int 0)) h) ∧ (x1 = 11 → Q (some (.int 1)) h) ∧ (x1 = 12 → Q (some (.int 2)) h) ∧ (x1 = 13 → Q (some (.int 4)) h) ∧ (¬ x1 = 3 → ¬ x1 = 6 → ¬ x1 = 10 → ¬ x1 = 11 → ¬ x1 = 12 → ¬ x1 = 13 → Q (some (.int (-1))) h))) : eb_Sn d m_X11_wordOf h0 0 [(0, .ref s_MO), (1, .int x1)] [] h Q := by
  refine eb_iload_n (pc := 0) (n := 1) (i := 1) rfl rfl rfl ?_
  by_cases s0 : x1 = 3
  · refine eb_tableIn (pc := 1) (j := 0) (tgt := 70) (by rw [s0]; decide) (by decide) (by rfl) (by decide) rfl ?_
    replace w := w.1 s0
    refine eb_aload_n (pc := 70) (n := 0) (i := 0) rfl rfl rfl ?_
    refine eb_getI (pc := 71) rfl rfl (by decide) (by decide) rfl ?_
    refine eb_iconst (pc := 74) (n := 1) (v := 1) rfl rfl ?_
    have jj2 : eb_Sn d m_X11_wordOf h0 83 [(0, .ref s_MO), (1, .int x1)] [.int (if (eb_I h s_MO 15) = (1 : Int32) then 5 else (-1) : Int32)] h Q := by
      exact eb_ireturn (pc := 83) rfl rfl rfl w
    refine eb_icmp_ne (pc := 75) (tgt := 82) rfl (by decide) (fun c1 => ?_) (fun c1 => ?_)
    · refine eb_iconst (pc := 82) (n := -1) (v := (-1)) rfl rfl ?_
      simp only [if_neg c1] at jj2 ⊢
      exact jj2
    · refine eb_iconst (pc := 78) (n := 5) (v := 5) rfl rfl ?_
      refine eb_goto (pc := 79) (tgt := 83) rfl (by decide) ?_
      simp only [if_pos c1] at jj2 ⊢
      exact jj2
  by_cases s1 : x1 = 4
  · refine eb_tableIn (pc := 1) (j := 1) (tgt := 84) (by rw [s1]; decide) (by decide) (by rfl) (by decide) rfl ?_
    replace w := w.2.2.2.2.2.2 (by rw [s1]; decide) (by rw [s1]; decide) (by rw [s1]; decide) (by rw [s1]; decide) (by rw [s1]; decide) (by rw [s1]; decide)
    refine eb_iconst (pc := 84) (n := -1) (v := (-1)) rfl rfl ?_
    exact eb_ireturn (pc := 85) rfl rfl rfl w
  by_cases s2 : x1 = 5
  · refine eb_tableIn (pc := 1) (j := 2) (tgt := 84) (by rw [s2]; decide) (by decide) (by rfl) (by decide) rfl ?_
    replace w := w.2.2.2.2.2.2 (by rw [s2]; decide) (by rw [s2]; decide) (by rw [s2]; decide) (by rw [s2]; decide) (by rw [s2]; decide) (by rw [s2]; decide)
    refine eb_iconst (pc := 84) (n := -1) (v := (-1)) rfl rfl ?_
    exact eb_ireturn (pc := 85) rfl rfl rfl w
  by_cases s3 : x1 = 6
  · refine eb_tableIn (pc := 1) (j := 3) (tgt := 66) (by rw [s3]; decide) (by decide) (by rfl) (by decide) rfl ?_
    replace w := w.2.1 s3
    refine eb_iconst (pc := 66) (n := 3) (v := 3) rfl rfl ?_
    exact eb_ireturn (pc := 67) rfl rfl rfl w
  by_cases s4 : x1 = 7
  · refine eb_tableIn (pc := 1) (j := 4) (tgt := 84) (by rw [s4]; decide) (by decide) (by rfl) (by decide) rfl ?_
    replace w := w.2.2.2.2.2.2 (by rw [s4]; decide) (by rw [s4]; decide) (by rw [s4]; decide) (by rw [s4]; decide) (by rw [s4]; decide) (by rw [s4]; decide)
    refine eb_iconst (pc := 84) (n := -1) (v := (-1)) rfl rfl ?_
    exact eb_ireturn (pc := 85) rfl rfl rfl w
  by_cases s5 : x1 = 8
  · refine eb_tableIn (pc := 1) (j := 5) (tgt := 84) (by rw [s5]; decide) (by decide) (by rfl) (by decide) rfl ?_
    replace w := w.2.2.2.2.2.2 (by rw [s5]; decide) (by rw [s5]; decide) (by rw [s5]; decide) (by rw [s5]; decide) (by rw [s5]; decide) (by rw [s5]; decide)
    refine eb_iconst (pc := 84) (n := -1) (v := (-1)) rfl rfl ?_
    exact eb_ireturn (pc := 85) rfl rfl rfl w
  by_cases s6 : x1 = 9
  · refine eb_tableIn (pc := 1) (j := 6) (tgt := 84) (by rw [s6]; decide) (by decide) (by rfl) (by decide) rfl ?_
    replace w := w.2.2.2.2.2.2 (by rw [s6]; decide) (by rw [s6]; decide) (by rw [s6]; decide) (by rw [s6]; decide) (by rw [s6]; decide) (by rw [s6]; decide)
    refine eb_iconst (pc := 84) (n := -1) (v := (-1)) rfl rfl ?_
    exact eb_ireturn (pc := 85) rfl rfl rfl w
  by_cases s7 : x1 = 10
  · refine eb_tableIn (pc := 1) (j := 7) (tgt := 60) (by rw [s7]; decide) (by decide) (by rfl) (by decide) rfl ?_
    replace w := w.2.2.1 s7
    refine eb_iconst (pc := 60) (n := 0) (v := 0) rfl rfl ?_
    exact eb_ireturn (pc := 61) rfl rfl rfl w
  by_cases s8 : x1 = 11
  · refine eb_tableIn (pc := 1) (j := 8) (tgt := 62) (by rw [s8]; decide) (by decide) (by rfl) (by decide) rfl ?_
    replace w := w.2.2.2.1 s8
    refine eb_iconst (pc := 62) (n := 1) (v := 1) rfl rfl ?_
    exact eb_ireturn (pc := 63) rfl rfl rfl w
  by_cases s9 : x1 = 12
  · refine eb_tableIn (pc := 1) (j := 9) (tgt := 64) (by rw [s9]; decide) (by decide) (by rfl) (by decide) rfl ?_
    replace w := w.2.2.2.2.1 s9
    refine eb_iconst (pc := 64) (n := 2) (v := 2) rfl rfl ?_
    exact eb_ireturn (pc := 65) rfl rfl rfl w
  by_cases s10 : x1 = 13
  · refine eb_tableIn (pc := 1) (j := 10) (tgt := 68) (by rw [s10]; decide) (by decide) (by rfl) (by decide) rfl ?_
    replace w := w.2.2.2.2.2.1 s10
    refine eb_iconst (pc := 68) (n := 4) (v := 4) rfl rfl ?_
    exact eb_ireturn (pc := 69) rfl rfl rfl w
  refine eb_tableOut (pc := 1) (tgt := 84) (by have z0 := lv_neT (a := 3) s0 (by decide); have z1 := lv_neT (a := 4) s1 (by decide); have z2 := lv_neT (a := 5) s2 (by decide); have z3 := lv_neT (a := 6) s3 (by decide); have z4 := lv_neT (a := 7) s4 (by decide); have z5 := lv_neT (a := 8) s5 (by decide); have z6 := lv_neT (a := 9) s6 (by decide); have z7 := lv_neT (a := 10) s7 (by decide); have z8 := lv_neT (a := 11) s8 (by decide); have z9 := lv_neT (a := 12) s9 (by decide); have z10 := lv_neT (a := 13) s10 (by decide); omega) (by decide) rfl ?_
  replace w := w.2.2.2.2.2.2 s0 s3 s7 s8 s9 s10
  refine eb_iconst (pc := 84) (n := -1) (v := (-1)) rfl rfl ?_
  exact eb_ireturn (pc := 85) rfl rfl rfl w
theorem T_X11_wordOf {d : Nat} {h : eb_H} {Q : Option Value → eb_H → Prop} (x1 : Int32)  (ko : eb_KO h) (w : ((x1 = 3 → Q (some (.int (if (eb_I h s_MO 15) = (1 : Int32) then 5 else (-1) : Int32))) h) ∧ (x1 = 6 → Q (some (.int 3)) h) ∧ (x1 = 10 → Q (some (.int 0)) h) ∧ (x1 = 11 → Q (some (.int 1)) h) ∧ (x1 = 12 → Q (some (.int 2)) h) ∧ (x1 = 13 → Q (some (.int 4)) h) ∧ (¬ x1 = 3 → ¬ x1 = 6 → ¬ x1 = 10 → ¬ x1 = 11 → ¬ x1 = 12 → ¬ x1 = 13 → Q (some (.int (-1))) h))) : eb_Ct d 170 [.ref s_MO, .int x1] h Q :=
  eb_bodyQ (by decide) ok_X11_wordOf (Nat.le_of_ble_eq_true rfl) (b_X11_wordOf_0 (h0 := h) x1  ko w)
theorem b_X11_codes_0 {d : Nat} {h0 h : eb_H} {Q : Option Value → eb_H → Prop} (x1 : Int32)  (ko : eb_KO h) (w : (((eb_I h s_MO 11) = 0 → (vp_in ((264 : Int32) + (eb_I h s_m_fresh (263 : Int32).toNatClampNeg)) 1164) ∧ Q none (eb_sI (eb_sI h s_m_fresh ((264 : Int32) + (eb_I h s_m_fresh (263 : Int32).toNatClampNeg)).toNatClampNeg x1) s_m_fresh (263 : Int32).toNatClampNeg ((eb_I (eb_sI h s_m_fresh ((264 : Int32) + (eb_I h s_m_fresh (263 : Int32).toNatClampNeg)).toNatClampNeg x1) s_m_fresh (263 : Int32).toNatClampNeg) + 1))) ∧ (¬ ((eb_I h s_MO 11) = 0) → Q none h))) : eb_Sn d m_X11_codes h0 0 [(0, .ref s_MO), (1, .int x1)] [] h Q := by
  refine eb_aload_n (pc := 0) (n := 0) (i := 0) rfl rfl rfl ?_
  refine eb_getI (pc := 1) rfl rfl (by decide) (by decide) rfl ?_
  refine eb_if_eq (pc := 4) (tgt := 8) rfl (by decide) (fun c1 => ?_) (fun c1 => ?_)
  · replace w := w.1 c1
    refine eb_aload_n (pc := 8) (n := 0) (i := 0) rfl rfl rfl ?_
    refine eb_getR (pc := 9) rfl rfl (by decide) (by decide) rfl (ko_s_MO_4 ko) ?_
    refine eb_sipush (pc := 12) (n := 264) (v := 264) rfl rfl ?_
    refine eb_aload_n (pc := 15) (n := 0) (i := 0) rfl rfl rfl ?_
    refine eb_getR (pc := 16) rfl rfl (by decide) (by decide) rfl (ko_s_MO_4 ko) ?_
    refine eb_sipush (pc := 19) (n := 263) (v := 263) rfl rfl ?_
    refine eb_iaload (pc := 22) rfl rfl (by unfold vp_in; decide) ?_
    refine eb_iadd (pc := 23) rfl ?_
    refine eb_iload_n (pc := 24) (n := 1) (i := 1) rfl rfl rfl ?_
    obtain ⟨c2, w⟩ := w
    refine eb_iastore (pc := 25) rfl rfl c2 ?_
    refine eb_aload_n (pc := 26) (n := 0) (i := 0) rfl rfl rfl ?_
    refine eb_getR (pc := 27) rfl rfl (by decide) (by decide) rfl (ko_s_MO_4 ko) ?_
    refine eb_sipush (pc := 30) (n := 263) (v := 263) rfl rfl ?_
    refine eb_dup2 (pc := 33) rfl ?_
    refine eb_iaload (pc := 34) rfl rfl (by unfold vp_in; decide) ?_
    refine eb_iconst (pc := 35) (n := 1) (v := 1) rfl rfl ?_
    refine eb_iadd (pc := 36) rfl ?_
    refine eb_iastore (pc := 37) rfl rfl (by unfold vp_in; decide) ?_
    exact eb_return (pc := 38) rfl rfl w
  · replace w := w.2 c1
    exact eb_return (pc := 7) rfl rfl w
theorem T_X11_codes {d : Nat} {h : eb_H} {Q : Option Value → eb_H → Prop} (x1 : Int32)  (ko : eb_KO h) (w : (((eb_I h s_MO 11) = 0 → (vp_in ((264 : Int32) + (eb_I h s_m_fresh (263 : Int32).toNatClampNeg)) 1164) ∧ Q none (eb_sI (eb_sI h s_m_fresh ((264 : Int32) + (eb_I h s_m_fresh (263 : Int32).toNatClampNeg)).toNatClampNeg x1) s_m_fresh (263 : Int32).toNatClampNeg ((eb_I (eb_sI h s_m_fresh ((264 : Int32) + (eb_I h s_m_fresh (263 : Int32).toNatClampNeg)).toNatClampNeg x1) s_m_fresh (263 : Int32).toNatClampNeg) + 1))) ∧ (¬ ((eb_I h s_MO 11) = 0) → Q none h))) : eb_Ct d 171 [.ref s_MO, .int x1] h Q :=
  eb_bodyQ (by decide) ok_X11_codes (Nat.le_of_ble_eq_true rfl) (b_X11_codes_0 (h0 := h) x1  ko w)
theorem b_X11_goesIn_0 {d : Nat} {h0 h : eb_H} {Q : Option Value → eb_H → Prop} (x1 : Int32)  (ko : eb_KO h) (w : ((¬ x1 = (6 : Int32) → ((¬ (eb_I h s_MO 11) = 0 → Q (some (.int (if (eb_I h s_MO 11) = 0 then 1 else 0 : Int32))) h) ∧ ((eb_I h s_MO 11) = 0 → eb_Ct d 164 [.ref s_MO] h (fun r h5 => r = none ∧ eb_KO h5 ∧ Q (some (.int (if (eb_I h5 s_MO 11) = 0 then 1 else 0 : Int32))) h5)))) ∧ (x1 = (6 : Int32) → eb_Ct d 165 [.ref s_MO, .int 4] h (fun r h10 => r = none ∧ eb_KO h10 ∧ ((¬ (eb_I h10 s_MO 11) = 0 → Q (some (.int (if (eb_I h10 s_MO 11) = 0 then 1 else 0 : Int32))) h10) ∧ ((eb_I h10 s_MO 11) = 0 → eb_Ct d 164 [.ref s_MO] h10 (fun r h16 => r = none ∧ eb_KO h16 ∧ Q (some (.int (if (eb_I h16 s_MO 11) = 0 then 1 else 0 : Int32))) h16))))))) : eb_Sn (d + 1) m_X11_goesIn h0 0 [(0, .ref s_MO), (1, .int x1)] [] h Q := by
  refine eb_iload_n (pc := 0) (n := 1) (i := 1) rfl rfl rfl ?_
  refine eb_bipush (pc := 1) (n := 6) (v := 6) rfl rfl ?_
  refine eb_icmp_ne (pc := 3) (tgt := 11) rfl (by decide) (fun c1 => ?_) (fun c1 => ?_)
  · replace w := w.1 c1
    refine eb_aload_n (pc := 11) (n := 0) (i := 0) rfl rfl rfl ?_
    refine eb_getI (pc := 12) rfl rfl (by decide) (by decide) rfl ?_
    refine eb_if_ne (pc := 15) (tgt := 22) rfl (by decide) (fun c2 => ?_) (fun c2 => ?_)
    · replace w := w.1 c2
      refine eb_aload_n (pc := 22) (n := 0) (i := 0) rfl rfl rfl ?_
      refine eb_getI (pc := 23) rfl rfl (by decide) (by decide) rfl ?_
      have jj4 : eb_Sn (d + 1) m_X11_goesIn h0 34 [(0, .ref s_MO), (1, .int x1)] [.int (if (eb_I h s_MO 11) = 0 then 1 else 0 : Int32)] h Q := by
        exact eb_ireturn (pc := 34) rfl rfl (by (repeat' split) <;> rfl) w
      refine eb_if_ne (pc := 26) (tgt := 33) rfl (by decide) (fun c3 => ?_) (fun c3 => ?_)
      · refine eb_iconst (pc := 33) (n := 0) (v := 0) rfl rfl ?_
        simp only [if_neg c3] at jj4 ⊢
        exact jj4
      · refine eb_iconst (pc := 29) (n := 1) (v := 1) rfl rfl ?_
        refine eb_goto (pc := 30) (tgt := 34) rfl (by decide) ?_
        simp only [if_pos c3] at jj4 ⊢
        exact jj4
    · replace w := w.2 c2
      refine eb_aload_n (pc := 18) (n := 0) (i := 0) rfl rfl rfl ?_
      refine eb_ctV (pc := 19) (As := []) (rest := []) rfl (by decide) rfl rfl (by decide) rfl (Nat.le_of_ble_eq_true rfl) ?_
      refine eb_Ct.mono w ?_
      rintro r h5 ⟨rfl, ko7, w⟩
      change eb_Sn _ _ _ 22 _ [] _ _
      refine eb_aload_n (pc := 22) (n := 0) (i := 0) rfl rfl rfl ?_
      refine eb_getI (pc := 23) rfl rfl (by decide) (by decide) rfl ?_
      have jj9 : eb_Sn (d + 1) m_X11_goesIn h0 34 [(0, .ref s_MO), (1, .int x1)] [.int (if (eb_I h5 s_MO 11) = 0 then 1 else 0 : Int32)] h5 Q := by
        exact eb_ireturn (pc := 34) rfl rfl (by (repeat' split) <;> rfl) w
      refine eb_if_ne (pc := 26) (tgt := 33) rfl (by decide) (fun c8 => ?_) (fun c8 => ?_)
      · refine eb_iconst (pc := 33) (n := 0) (v := 0) rfl rfl ?_
        simp only [if_neg c8] at jj9 ⊢
        exact jj9
      · refine eb_iconst (pc := 29) (n := 1) (v := 1) rfl rfl ?_
        refine eb_goto (pc := 30) (tgt := 34) rfl (by decide) ?_
        simp only [if_pos c8] at jj9 ⊢
        exact jj9
  · replace w := w.2 c1
    refine eb_aload_n (pc := 6) (n := 0) (i := 0) rfl rfl rfl ?_
    refine eb_iconst (pc := 7) (n := 4) (v := 4) rfl rfl ?_
    refine eb_ctV (pc := 8) (As := [.int 4]) (rest := []) rfl (by decide) rfl rfl (by decide) rfl (Nat.le_of_ble_eq_true rfl) ?_
    refine eb_Ct.mono w ?_
    rintro r h10 ⟨rfl, ko12, w⟩
    change eb_Sn _ _ _ 11 _ [] _ _
    refine eb_aload_n (pc := 11) (n := 0) (i := 0) rfl rfl rfl ?_
    refine eb_getI (pc := 12) rfl rfl (by decide) (by decide) rfl ?_
    refine eb_if_ne (pc := 15) (tgt := 22) rfl (by decide) (fun c13 => ?_) (fun c13 => ?_)
    · replace w := w.1 c13
      refine eb_aload_n (pc := 22) (n := 0) (i := 0) rfl rfl rfl ?_
      refine eb_getI (pc := 23) rfl rfl (by decide) (by decide) rfl ?_
      have jj15 : eb_Sn (d + 1) m_X11_goesIn h0 34 [(0, .ref s_MO), (1, .int x1)] [.int (if (eb_I h10 s_MO 11) = 0 then 1 else 0 : Int32)] h10 Q := by
        exact eb_ireturn (pc := 34) rfl rfl (by (repeat' split) <;> rfl) w
      refine eb_if_ne (pc := 26) (tgt := 33) rfl (by decide) (fun c14 => ?_) (fun c14 => ?_)
      · refine eb_iconst (pc := 33) (n := 0) (v := 0) rfl rfl ?_
        simp only [if_neg c14] at jj15 ⊢
        exact jj15
      · refine eb_iconst (pc := 29) (n := 1) (v := 1) rfl rfl ?_
        refine eb_goto (pc := 30) (tgt := 34) rfl (by decide) ?_
        simp only [if_pos c14] at jj15 ⊢
        exact jj15
    · replace w := w.2 c13
      refine eb_aload_n (pc := 18) (n := 0) (i := 0) rfl rfl rfl ?_
      refine eb_ctV (pc := 19) (As := []) (rest := []) rfl (by decide) rfl rfl (by decide) rfl (Nat.le_of_ble_eq_true rfl) ?_
      refine eb_Ct.mono w ?_
      rintro r h16 ⟨rfl, ko18, w⟩
      change eb_Sn _ _ _ 22 _ [] _ _
      refine eb_aload_n (pc := 22) (n := 0) (i := 0) rfl rfl rfl ?_
      refine eb_getI (pc := 23) rfl rfl (by decide) (by decide) rfl ?_
      have jj20 : eb_Sn (d + 1) m_X11_goesIn h0 34 [(0, .ref s_MO), (1, .int x1)] [.int (if (eb_I h16 s_MO 11) = 0 then 1 else 0 : Int32)] h16 Q := by
        exact eb_ireturn (pc := 34) rfl rfl (by (repeat' split) <;> rfl) w
      refine eb_if_ne (pc := 26) (tgt := 33) rfl (by decide) (fun c19 => ?_) (fun c19 => ?_)
      · refine eb_iconst (pc := 33) (n := 0) (v := 0) rfl rfl ?_
        simp only [if_neg c19] at jj20 ⊢
        exact jj20
      · refine eb_iconst (pc := 29) (n := 1) (v := 1) rfl rfl ?_
        refine eb_goto (pc := 30) (tgt := 34) rfl (by decide) ?_
        simp only [if_pos c19] at jj20 ⊢
        exact jj20
theorem T_X11_goesIn {d : Nat} {h : eb_H} {Q : Option Value → eb_H → Prop} (x1 : Int32)  (ko : eb_KO h) (w : ((¬ x1 = (6 : Int32) → ((¬ (eb_I h s_MO 11) = 0 → Q (some (.int (if (eb_I h s_MO 11) = 0 then 1 else 0 : Int32))) h) ∧ ((eb_I h s_MO 11) = 0 → eb_Ct d 164 [.ref s_MO] h (fun r h5 => r = none ∧ eb_KO h5 ∧ Q (some (.int (if (eb_I h5 s_MO 11) = 0 then 1 else 0 : Int32))) h5)))) ∧ (x1 = (6 : Int32) → eb_Ct d 165 [.ref s_MO, .int 4] h (fun r h10 => r = none ∧ eb_KO h10 ∧ ((¬ (eb_I h10 s_MO 11) = 0 → Q (some (.int (if (eb_I h10 s_MO 11) = 0 then 1 else 0 : Int32))) h10) ∧ ((eb_I h10 s_MO 11) = 0 → eb_Ct d 164 [.ref s_MO] h10 (fun r h16 => r = none ∧ eb_KO h16 ∧ Q (some (.int (if (eb_I h16 s_MO 11) = 0 then 1 else 0 : Int32))) h16))))))) : eb_Ct (d + 1) 172 [.ref s_MO, .int x1] h Q :=
  eb_bodyQ (by decide) ok_X11_goesIn (Nat.le_of_ble_eq_true rfl) (b_X11_goesIn_0 (h0 := h) x1  ko w)
theorem b_X11_readAtom_0 {d : Nat} {h0 h : eb_H} {Q : Option Value → eb_H → Prop} (x1 : Int32)  (ko : eb_KO h) (w : eb_Ct d 166 [.ref s_MO, .int 23] h (fun r h1 => ∃ y2, r = some (.int y2) ∧ eb_KO h1 ∧ ((y2 = 0 → ((¬ (eb_I h1 s_MO 11) = 0 → eb_Ct d 166 [.ref s_MO, .int 35] h1 (fun r h6 => ∃ y7, r = some (.int y7) ∧ eb_KO h6 ∧ ((y7 = 0 → eb_Ct d 165 [.ref s_MO, .int 2] h6 (fun r h10 => r = none ∧ eb_KO h10 ∧ Q none h10)) ∧ (¬ (y7 = 0) → eb_Ct d 172 [.ref s_MO, .int x1] h6 (fun r h13 => ∃ y14, r = some (.int y14) ∧ eb_KO h13 ∧ ((¬ y14 = 0 → eb_Ct d 175 [.ref s_MO, .int (x1 + 1)] h13 (fun r h17 => r = none ∧ eb_KO h17 ∧ eb_Ct d 167 [.ref s_MO, .int 36] h17 (fun r h20 => ∃ y21, r = some (.int y21) ∧ eb_KO h20 ∧ ((¬ y21 = 0 → Q none h20) ∧ (y21 = 0 → eb_Ct d 165 [.ref s_MO, .int 2] h20 (fun r h24 => r = none ∧ eb_KO h24 ∧ Q none h24)))))) ∧ (y14 = 0 → Q none h13))))))) ∧ ((eb_I h1 s_MO 11) = 0 → eb_Ct d 170 [.ref s_MO, .int (eb_I h1 s_MO 9)] h1 (fun r h27 => ∃ y28, r = some (.int y28) ∧ eb_KO h27 ∧ ((y28 = ((-1) : Int32) → eb_Ct d 166 [.ref s_MO, .int 35] h27 (fun r h31 => ∃ y32, r = some (.int y32) ∧ eb_KO h31 ∧ ((y32 = 0 → eb_Ct d 165 [.ref s_MO, .int 2] h31 (fun r h35 => r = none ∧ eb_KO h35 ∧ Q none h35)) ∧ (¬ (y32 = 0) → eb_Ct d 172 [.ref s_MO, .int x1] h31 (fun r h38 => ∃ y39, r = some (.int y39) ∧ eb_KO h38 ∧ ((¬ y39 = 0 → eb_Ct d 175 [.ref s_MO, .int (x1 + 1)] h38 (fun r h42 => r = none ∧ eb_KO h42 ∧ eb_Ct d 167 [.ref s_MO, .int 36] h42 (fun r h45 => ∃ y46, r = some (.int y46) ∧ eb_KO h45 ∧ ((¬ y46 = 0 → Q none h45) ∧ (y46 = 0 → eb_Ct d 165 [.ref s_MO, .int 2] h45 (fun r h49 => r = none ∧ eb_KO h49 ∧ Q none h49)))))) ∧ (y39 = 0 → Q none h38))))))) ∧ (¬ (y28 = ((-1) : Int32)) → eb_Ct d 170 [.ref s_MO, .int (eb_I h27 s_MO 9)] h27 (fun r h52 => ∃ y53, r = some (.int y53) ∧ eb_KO h52 ∧ eb_Ct d 171 [.ref s_MO, .int ((1000 : Int32) + y53)] h52 (fun r h55 => r = none ∧ eb_KO h55 ∧ eb_Ct d 164 [.ref s_MO] h55 (fun r h58 => r = none ∧ eb_KO h58 ∧ Q none h58))))))))) ∧ (¬ (y2 = 0) → eb_Ct d 171 [.ref s_MO, .int (eb_I h1 s_MO 10)] h1 (fun r h61 => r = none ∧ eb_KO h61 ∧ eb_Ct d 164 [.ref s_MO] h61 (fun r h64 => r = none ∧ eb_KO h64 ∧ Q none h64)))))) : eb_Sn (d + 1) m_X11_readAtom h0 0 [(0, .ref s_MO), (1, .int x1)] [] h Q := by
  refine eb_aload_n (pc := 0) (n := 0) (i := 0) rfl rfl rfl ?_
  refine eb_bipush (pc := 1) (n := 23) (v := 23) rfl rfl ?_
  refine eb_ctV (pc := 3) (As := [.int 23]) (rest := []) rfl (by decide) rfl rfl (by decide) rfl (Nat.le_of_ble_eq_true rfl) ?_
  refine eb_Ct.mono w ?_
  rintro r h1 ⟨y2, rfl, ko3, w⟩
  change eb_Sn _ _ _ 6 _ [.int y2] _ _
  refine eb_if_eq (pc := 6) (tgt := 24) rfl (by decide) (fun c4 => ?_) (fun c4 => ?_)
  · replace w := w.1 c4
    refine eb_aload_n (pc := 24) (n := 0) (i := 0) rfl rfl rfl ?_
    refine eb_getI (pc := 25) rfl rfl (by decide) (by decide) rfl ?_
    refine eb_if_ne (pc := 28) (tgt := 66) rfl (by decide) (fun c5 => ?_) (fun c5 => ?_)
    · replace w := w.1 c5
      refine eb_aload_n (pc := 66) (n := 0) (i := 0) rfl rfl rfl ?_
      refine eb_bipush (pc := 67) (n := 35) (v := 35) rfl rfl ?_
      refine eb_ctV (pc := 69) (As := [.int 35]) (rest := []) rfl (by decide) rfl rfl (by decide) rfl (Nat.le_of_ble_eq_true rfl) ?_
      refine eb_Ct.mono w ?_
      rintro r h6 ⟨y7, rfl, ko8, w⟩
      change eb_Sn _ _ _ 72 _ [.int y7] _ _
      refine eb_if_eq (pc := 72) (tgt := 108) rfl (by decide) (fun c9 => ?_) (fun c9 => ?_)
      · replace w := w.1 c9
        refine eb_aload_n (pc := 108) (n := 0) (i := 0) rfl rfl rfl ?_
        refine eb_iconst (pc := 109) (n := 2) (v := 2) rfl rfl ?_
        refine eb_ctV (pc := 110) (As := [.int 2]) (rest := []) rfl (by decide) rfl rfl (by decide) rfl (Nat.le_of_ble_eq_true rfl) ?_
        refine eb_Ct.mono w ?_
        rintro r h10 ⟨rfl, ko12, w⟩
        change eb_Sn _ _ _ 113 _ [] _ _
        exact eb_return (pc := 113) rfl rfl w
      · replace w := w.2 c9
        refine eb_aload_n (pc := 75) (n := 0) (i := 0) rfl rfl rfl ?_
        refine eb_iload_n (pc := 76) (n := 1) (i := 1) rfl rfl rfl ?_
        refine eb_ctV (pc := 77) (As := [.int x1]) (rest := []) rfl (by decide) rfl rfl (by decide) rfl (Nat.le_of_ble_eq_true rfl) ?_
        refine eb_Ct.mono w ?_
        rintro r h13 ⟨y14, rfl, ko15, w⟩
        change eb_Sn _ _ _ 80 _ [.int y14] _ _
        refine eb_if_ne (pc := 80) (tgt := 84) rfl (by decide) (fun c16 => ?_) (fun c16 => ?_)
        · replace w := w.1 c16
          refine eb_aload_n (pc := 84) (n := 0) (i := 0) rfl rfl rfl ?_
          refine eb_iload_n (pc := 85) (n := 1) (i := 1) rfl rfl rfl ?_
          refine eb_iconst (pc := 86) (n := 1) (v := 1) rfl rfl ?_
          refine eb_iadd (pc := 87) rfl ?_
          refine eb_ctV (pc := 88) (As := [.int (x1 + 1)]) (rest := []) rfl (by decide) rfl rfl (by decide) rfl (Nat.le_of_ble_eq_true rfl) ?_
          refine eb_Ct.mono w ?_
          rintro r h17 ⟨rfl, ko19, w⟩
          change eb_Sn _ _ _ 91 _ [] _ _
          refine eb_aload_n (pc := 91) (n := 0) (i := 0) rfl rfl rfl ?_
          refine eb_bipush (pc := 92) (n := 36) (v := 36) rfl rfl ?_
          refine eb_ctV (pc := 94) (As := [.int 36]) (rest := []) rfl (by decide) rfl rfl (by decide) rfl (Nat.le_of_ble_eq_true rfl) ?_
          refine eb_Ct.mono w ?_
          rintro r h20 ⟨y21, rfl, ko22, w⟩
          change eb_Sn _ _ _ 97 _ [.int y21] _ _
          refine eb_if_ne (pc := 97) (tgt := 113) rfl (by decide) (fun c23 => ?_) (fun c23 => ?_)
          · replace w := w.1 c23
            exact eb_return (pc := 113) rfl rfl w
          · replace w := w.2 c23
            refine eb_aload_n (pc := 100) (n := 0) (i := 0) rfl rfl rfl ?_
            refine eb_iconst (pc := 101) (n := 2) (v := 2) rfl rfl ?_
            refine eb_ctV (pc := 102) (As := [.int 2]) (rest := []) rfl (by decide) rfl rfl (by decide) rfl (Nat.le_of_ble_eq_true rfl) ?_
            refine eb_Ct.mono w ?_
            rintro r h24 ⟨rfl, ko26, w⟩
            change eb_Sn _ _ _ 105 _ [] _ _
            refine eb_goto (pc := 105) (tgt := 113) rfl (by decide) ?_
            exact eb_return (pc := 113) rfl rfl w
        · replace w := w.2 c16
          exact eb_return (pc := 83) rfl rfl w
    · replace w := w.2 c5
      refine eb_aload_n (pc := 31) (n := 0) (i := 0) rfl rfl rfl ?_
      refine eb_aload_n (pc := 32) (n := 0) (i := 0) rfl rfl rfl ?_
      refine eb_getI (pc := 33) rfl rfl (by decide) (by decide) rfl ?_
      refine eb_ctV (pc := 36) (As := [.int (eb_I h1 s_MO 9)]) (rest := []) rfl (by decide) rfl rfl (by decide) rfl (Nat.le_of_ble_eq_true rfl) ?_
      refine eb_Ct.mono w ?_
      rintro r h27 ⟨y28, rfl, ko29, w⟩
      change eb_Sn _ _ _ 39 _ [.int y28] _ _
      refine eb_iconst (pc := 39) (n := -1) (v := (-1)) rfl rfl ?_
      refine eb_icmp_eq (pc := 40) (tgt := 66) rfl (by decide) (fun c30 => ?_) (fun c30 => ?_)
      · replace w := w.1 c30
        refine eb_aload_n (pc := 66) (n := 0) (i := 0) rfl rfl rfl ?_
        refine eb_bipush (pc := 67) (n := 35) (v := 35) rfl rfl ?_
        refine eb_ctV (pc := 69) (As := [.int 35]) (rest := []) rfl (by decide) rfl rfl (by decide) rfl (Nat.le_of_ble_eq_true rfl) ?_
        refine eb_Ct.mono w ?_
        rintro r h31 ⟨y32, rfl, ko33, w⟩
        change eb_Sn _ _ _ 72 _ [.int y32] _ _
        refine eb_if_eq (pc := 72) (tgt := 108) rfl (by decide) (fun c34 => ?_) (fun c34 => ?_)
        · replace w := w.1 c34
          refine eb_aload_n (pc := 108) (n := 0) (i := 0) rfl rfl rfl ?_
          refine eb_iconst (pc := 109) (n := 2) (v := 2) rfl rfl ?_
          refine eb_ctV (pc := 110) (As := [.int 2]) (rest := []) rfl (by decide) rfl rfl (by decide) rfl (Nat.le_of_ble_eq_true rfl) ?_
          refine eb_Ct.mono w ?_
          rintro r h35 ⟨rfl, ko37, w⟩
          change eb_Sn _ _ _ 113 _ [] _ _
          exact eb_return (pc := 113) rfl rfl w
        · replace w := w.2 c34
          refine eb_aload_n (pc := 75) (n := 0) (i := 0) rfl rfl rfl ?_
          refine eb_iload_n (pc := 76) (n := 1) (i := 1) rfl rfl rfl ?_
          refine eb_ctV (pc := 77) (As := [.int x1]) (rest := []) rfl (by decide) rfl rfl (by decide) rfl (Nat.le_of_ble_eq_true rfl) ?_
          refine eb_Ct.mono w ?_
          rintro r h38 ⟨y39, rfl, ko40, w⟩
          change eb_Sn _ _ _ 80 _ [.int y39] _ _
          refine eb_if_ne (pc := 80) (tgt := 84) rfl (by decide) (fun c41 => ?_) (fun c41 => ?_)
          · replace w := w.1 c41
            refine eb_aload_n (pc := 84) (n := 0) (i := 0) rfl rfl rfl ?_
            refine eb_iload_n (pc := 85) (n := 1) (i := 1) rfl rfl rfl ?_
            refine eb_iconst (pc := 86) (n := 1) (v := 1) rfl rfl ?_
            refine eb_iadd (pc := 87) rfl ?_
            refine eb_ctV (pc := 88) (As := [.int (x1 + 1)]) (rest := []) rfl (by decide) rfl rfl (by decide) rfl (Nat.le_of_ble_eq_true rfl) ?_
            refine eb_Ct.mono w ?_
            rintro r h42 ⟨rfl, ko44, w⟩
            change eb_Sn _ _ _ 91 _ [] _ _
            refine eb_aload_n (pc := 91) (n := 0) (i := 0) rfl rfl rfl ?_
            refine eb_bipush (pc := 92) (n := 36) (v := 36) rfl rfl ?_
            refine eb_ctV (pc := 94) (As := [.int 36]) (rest := []) rfl (by decide) rfl rfl (by decide) rfl (Nat.le_of_ble_eq_true rfl) ?_
            refine eb_Ct.mono w ?_
            rintro r h45 ⟨y46, rfl, ko47, w⟩
            change eb_Sn _ _ _ 97 _ [.int y46] _ _
            refine eb_if_ne (pc := 97) (tgt := 113) rfl (by decide) (fun c48 => ?_) (fun c48 => ?_)
            · replace w := w.1 c48
              exact eb_return (pc := 113) rfl rfl w
            · replace w := w.2 c48
              refine eb_aload_n (pc := 100) (n := 0) (i := 0) rfl rfl rfl ?_
              refine eb_iconst (pc := 101) (n := 2) (v := 2) rfl rfl ?_
              refine eb_ctV (pc := 102) (As := [.int 2]) (rest := []) rfl (by decide) rfl rfl (by decide) rfl (Nat.le_of_ble_eq_true rfl) ?_
              refine eb_Ct.mono w ?_
              rintro r h49 ⟨rfl, ko51, w⟩
              change eb_Sn _ _ _ 105 _ [] _ _
              refine eb_goto (pc := 105) (tgt := 113) rfl (by decide) ?_
              exact eb_return (pc := 113) rfl rfl w
          · replace w := w.2 c41
            exact eb_return (pc := 83) rfl rfl w
      · replace w := w.2 c30
        refine eb_aload_n (pc := 43) (n := 0) (i := 0) rfl rfl rfl ?_
        refine eb_sipush (pc := 44) (n := 1000) (v := 1000) rfl rfl ?_
        refine eb_aload_n (pc := 47) (n := 0) (i := 0) rfl rfl rfl ?_
        refine eb_aload_n (pc := 48) (n := 0) (i := 0) rfl rfl rfl ?_
        refine eb_getI (pc := 49) rfl rfl (by decide) (by decide) rfl ?_
        refine eb_ctV (pc := 52) (As := [.int (eb_I h27 s_MO 9)]) (rest := [.int 1000, .ref s_MO]) rfl (by decide) rfl rfl (by decide) rfl (Nat.le_of_ble_eq_true rfl) ?_
        refine eb_Ct.mono w ?_
        rintro r h52 ⟨y53, rfl, ko54, w⟩
        change eb_Sn _ _ _ 55 _ [.int y53, .int 1000, .ref s_MO] _ _
        refine eb_iadd (pc := 55) rfl ?_
        refine eb_ctV (pc := 56) (As := [.int ((1000 : Int32) + y53)]) (rest := []) rfl (by decide) rfl rfl (by decide) rfl (Nat.le_of_ble_eq_true rfl) ?_
        refine eb_Ct.mono w ?_
        rintro r h55 ⟨rfl, ko57, w⟩
        change eb_Sn _ _ _ 59 _ [] _ _
        refine eb_aload_n (pc := 59) (n := 0) (i := 0) rfl rfl rfl ?_
        refine eb_ctV (pc := 60) (As := []) (rest := []) rfl (by decide) rfl rfl (by decide) rfl (Nat.le_of_ble_eq_true rfl) ?_
        refine eb_Ct.mono w ?_
        rintro r h58 ⟨rfl, ko60, w⟩
        change eb_Sn _ _ _ 63 _ [] _ _
        refine eb_goto (pc := 63) (tgt := 113) rfl (by decide) ?_
        exact eb_return (pc := 113) rfl rfl w
  · replace w := w.2 c4
    refine eb_aload_n (pc := 9) (n := 0) (i := 0) rfl rfl rfl ?_
    refine eb_aload_n (pc := 10) (n := 0) (i := 0) rfl rfl rfl ?_
    refine eb_getI (pc := 11) rfl rfl (by decide) (by decide) rfl ?_
    refine eb_ctV (pc := 14) (As := [.int (eb_I h1 s_MO 10)]) (rest := []) rfl (by decide) rfl rfl (by decide) rfl (Nat.le_of_ble_eq_true rfl) ?_
    refine eb_Ct.mono w ?_
    rintro r h61 ⟨rfl, ko63, w⟩
    change eb_Sn _ _ _ 17 _ [] _ _
    refine eb_aload_n (pc := 17) (n := 0) (i := 0) rfl rfl rfl ?_
    refine eb_ctV (pc := 18) (As := []) (rest := []) rfl (by decide) rfl rfl (by decide) rfl (Nat.le_of_ble_eq_true rfl) ?_
    refine eb_Ct.mono w ?_
    rintro r h64 ⟨rfl, ko66, w⟩
    change eb_Sn _ _ _ 21 _ [] _ _
    refine eb_goto (pc := 21) (tgt := 113) rfl (by decide) ?_
    exact eb_return (pc := 113) rfl rfl w
theorem T_X11_readAtom {d : Nat} {h : eb_H} {Q : Option Value → eb_H → Prop} (x1 : Int32)  (ko : eb_KO h) (w : eb_Ct d 166 [.ref s_MO, .int 23] h (fun r h1 => ∃ y2, r = some (.int y2) ∧ eb_KO h1 ∧ ((y2 = 0 → ((¬ (eb_I h1 s_MO 11) = 0 → eb_Ct d 166 [.ref s_MO, .int 35] h1 (fun r h6 => ∃ y7, r = some (.int y7) ∧ eb_KO h6 ∧ ((y7 = 0 → eb_Ct d 165 [.ref s_MO, .int 2] h6 (fun r h10 => r = none ∧ eb_KO h10 ∧ Q none h10)) ∧ (¬ (y7 = 0) → eb_Ct d 172 [.ref s_MO, .int x1] h6 (fun r h13 => ∃ y14, r = some (.int y14) ∧ eb_KO h13 ∧ ((¬ y14 = 0 → eb_Ct d 175 [.ref s_MO, .int (x1 + 1)] h13 (fun r h17 => r = none ∧ eb_KO h17 ∧ eb_Ct d 167 [.ref s_MO, .int 36] h17 (fun r h20 => ∃ y21, r = some (.int y21) ∧ eb_KO h20 ∧ ((¬ y21 = 0 → Q none h20) ∧ (y21 = 0 → eb_Ct d 165 [.ref s_MO, .int 2] h20 (fun r h24 => r = none ∧ eb_KO h24 ∧ Q none h24)))))) ∧ (y14 = 0 → Q none h13))))))) ∧ ((eb_I h1 s_MO 11) = 0 → eb_Ct d 170 [.ref s_MO, .int (eb_I h1 s_MO 9)] h1 (fun r h27 => ∃ y28, r = some (.int y28) ∧ eb_KO h27 ∧ ((y28 = ((-1) : Int32) → eb_Ct d 166 [.ref s_MO, .int 35] h27 (fun r h31 => ∃ y32, r = some (.int y32) ∧ eb_KO h31 ∧ ((y32 = 0 → eb_Ct d 165 [.ref s_MO, .int 2] h31 (fun r h35 => r = none ∧ eb_KO h35 ∧ Q none h35)) ∧ (¬ (y32 = 0) → eb_Ct d 172 [.ref s_MO, .int x1] h31 (fun r h38 => ∃ y39, r = some (.int y39) ∧ eb_KO h38 ∧ ((¬ y39 = 0 → eb_Ct d 175 [.ref s_MO, .int (x1 + 1)] h38 (fun r h42 => r = none ∧ eb_KO h42 ∧ eb_Ct d 167 [.ref s_MO, .int 36] h42 (fun r h45 => ∃ y46, r = some (.int y46) ∧ eb_KO h45 ∧ ((¬ y46 = 0 → Q none h45) ∧ (y46 = 0 → eb_Ct d 165 [.ref s_MO, .int 2] h45 (fun r h49 => r = none ∧ eb_KO h49 ∧ Q none h49)))))) ∧ (y39 = 0 → Q none h38))))))) ∧ (¬ (y28 = ((-1) : Int32)) → eb_Ct d 170 [.ref s_MO, .int (eb_I h27 s_MO 9)] h27 (fun r h52 => ∃ y53, r = some (.int y53) ∧ eb_KO h52 ∧ eb_Ct d 171 [.ref s_MO, .int ((1000 : Int32) + y53)] h52 (fun r h55 => r = none ∧ eb_KO h55 ∧ eb_Ct d 164 [.ref s_MO] h55 (fun r h58 => r = none ∧ eb_KO h58 ∧ Q none h58))))))))) ∧ (¬ (y2 = 0) → eb_Ct d 171 [.ref s_MO, .int (eb_I h1 s_MO 10)] h1 (fun r h61 => r = none ∧ eb_KO h61 ∧ eb_Ct d 164 [.ref s_MO] h61 (fun r h64 => r = none ∧ eb_KO h64 ∧ Q none h64)))))) : eb_Ct (d + 1) 173 [.ref s_MO, .int x1] h Q :=
  eb_bodyQ (by decide) ok_X11_readAtom (Nat.le_of_ble_eq_true rfl) (b_X11_readAtom_0 (h0 := h) x1  ko w)
theorem b_X11_readTerm_0 {d : Nat} {h0 h : eb_H} {Q : Option Value → eb_H → Prop} (x1 : Int32)  (ko : eb_KO h) (w : eb_Ct d 173 [.ref s_MO, .int x1] h (fun r h1 => r = none ∧ eb_KO h1 ∧ eb_Sn (d + 1) m_X11_readTerm h0 5 [(0, .ref s_MO), (1, .int x1)] [] h1 Q)) : eb_Sn (d + 1) m_X11_readTerm h0 0 [(0, .ref s_MO), (1, .int x1)] [] h Q := by
  refine eb_aload_n (pc := 0) (n := 0) (i := 0) rfl rfl rfl ?_
  refine eb_iload_n (pc := 1) (n := 1) (i := 1) rfl rfl rfl ?_
  refine eb_ctV (pc := 2) (As := [.int x1]) (rest := []) rfl (by decide) rfl rfl (by decide) rfl (Nat.le_of_ble_eq_true rfl) ?_
  refine eb_Ct.mono w ?_
  rintro r h1 ⟨rfl, ko3, w⟩
  change eb_Sn _ _ _ 5 _ [] _ _
  exact eb_pick [0, 1] rfl w
theorem b_X11_readTerm_5 {d : Nat} {h0 h : eb_H} {Q : Option Value → eb_H → Prop} (x1 : Int32)  (ko : eb_KO h) (w : eb_Ct d 167 [.ref s_MO, .int 34] h (fun r h1 => ∃ y2, r = some (.int y2) ∧ eb_KO h1 ∧ ((y2 = 0 → Q none h1) ∧ (¬ (y2 = 0) → eb_Ct d 173 [.ref s_MO, .int x1] h1 (fun r h5 => r = none ∧ eb_KO h5 ∧ eb_Ct d 171 [.ref s_MO, .int 3002] h5 (fun r h8 => r = none ∧ eb_KO h8 ∧ eb_Sn (d + 1) m_X11_readTerm h0 5 [(0, .ref s_MO), (1, .int x1)] [] h8 Q)))))) : eb_Sn (d + 1) m_X11_readTerm h0 5 [(0, .ref s_MO), (1, .int x1)] [] h Q := by
  refine eb_aload_n (pc := 5) (n := 0) (i := 0) rfl rfl rfl ?_
  refine eb_bipush (pc := 6) (n := 34) (v := 34) rfl rfl ?_
  refine eb_ctV (pc := 8) (As := [.int 34]) (rest := []) rfl (by decide) rfl rfl (by decide) rfl (Nat.le_of_ble_eq_true rfl) ?_
  refine eb_Ct.mono w ?_
  rintro r h1 ⟨y2, rfl, ko3, w⟩
  change eb_Sn _ _ _ 11 _ [.int y2] _ _
  refine eb_if_eq (pc := 11) (tgt := 29) rfl (by decide) (fun c4 => ?_) (fun c4 => ?_)
  · replace w := w.1 c4
    exact eb_return (pc := 29) rfl rfl w
  · replace w := w.2 c4
    refine eb_aload_n (pc := 14) (n := 0) (i := 0) rfl rfl rfl ?_
    refine eb_iload_n (pc := 15) (n := 1) (i := 1) rfl rfl rfl ?_
    refine eb_ctV (pc := 16) (As := [.int x1]) (rest := []) rfl (by decide) rfl rfl (by decide) rfl (Nat.le_of_ble_eq_true rfl) ?_
    refine eb_Ct.mono w ?_
    rintro r h5 ⟨rfl, ko7, w⟩
    change eb_Sn _ _ _ 19 _ [] _ _
    refine eb_aload_n (pc := 19) (n := 0) (i := 0) rfl rfl rfl ?_
    refine eb_sipush (pc := 20) (n := 3002) (v := 3002) rfl rfl ?_
    refine eb_ctV (pc := 23) (As := [.int 3002]) (rest := []) rfl (by decide) rfl rfl (by decide) rfl (Nat.le_of_ble_eq_true rfl) ?_
    refine eb_Ct.mono w ?_
    rintro r h8 ⟨rfl, ko10, w⟩
    change eb_Sn _ _ _ 26 _ [] _ _
    refine eb_goto (pc := 26) (tgt := 5) rfl (by decide) ?_
    exact eb_pick [0, 1] rfl w
theorem T_X11_readTerm {d : Nat} {h : eb_H} {Q : Option Value → eb_H → Prop} (x1 : Int32)  (ko : eb_KO h) (w : eb_Ct d 173 [.ref s_MO, .int x1] h (fun r h1 => r = none ∧ eb_KO h1 ∧ eb_Sn (d + 1) m_X11_readTerm h 5 [(0, .ref s_MO), (1, .int x1)] [] h1 Q)) : eb_Ct (d + 1) 174 [.ref s_MO, .int x1] h Q :=
  eb_bodyQ (by decide) ok_X11_readTerm (Nat.le_of_ble_eq_true rfl) (b_X11_readTerm_0 (h0 := h) x1  ko w)
theorem b_X11_readSum_0 {d : Nat} {h0 h : eb_H} {Q : Option Value → eb_H → Prop} (x1 : Int32)  (ko : eb_KO h) (w : eb_Ct d 174 [.ref s_MO, .int x1] h (fun r h1 => r = none ∧ eb_KO h1 ∧ eb_Sn (d + 1) m_X11_readSum h0 5 [(0, .ref s_MO), (1, .int x1)] [] h1 Q)) : eb_Sn (d + 1) m_X11_readSum h0 0 [(0, .ref s_MO), (1, .int x1)] [] h Q := by
  refine eb_aload_n (pc := 0) (n := 0) (i := 0) rfl rfl rfl ?_
  refine eb_iload_n (pc := 1) (n := 1) (i := 1) rfl rfl rfl ?_
  refine eb_ctV (pc := 2) (As := [.int x1]) (rest := []) rfl (by decide) rfl rfl (by decide) rfl (Nat.le_of_ble_eq_true rfl) ?_
  refine eb_Ct.mono w ?_
  rintro r h1 ⟨rfl, ko3, w⟩
  change eb_Sn _ _ _ 5 _ [] _ _
  exact eb_pick [0, 1] rfl w
theorem b_X11_readSum_5 {d : Nat} {h0 h : eb_H} {Q : Option Value → eb_H → Prop} (x1 : Int32)  (ko : eb_KO h) (w : eb_Ct d 166 [.ref s_MO, .int 32] h (fun r h1 => ∃ y2, r = some (.int y2) ∧ eb_KO h1 ∧ ((¬ y2 = 0 → eb_Ct d 164 [.ref s_MO] h1 (fun r h6 => r = none ∧ eb_KO h6 ∧ eb_Ct d 174 [.ref s_MO, .int x1] h6 (fun r h9 => r = none ∧ eb_KO h9 ∧ eb_Ct d 171 [.ref s_MO, .int (if (eb_I h1 s_MO 9) = (32 : Int32) then 3000 else 3001 : Int32)] h9 (fun r h12 => r = none ∧ eb_KO h12 ∧ eb_Sn (d + 1) m_X11_readSum h0 5 [(0, .ref s_MO), (1, .int x1)] [] h12 Q)))) ∧ (y2 = 0 → eb_Ct d 166 [.ref s_MO, .int 33] h1 (fun r h16 => ∃ y17, r = some (.int y17) ∧ eb_KO h16 ∧ ((y17 = 0 → Q none h16) ∧ (¬ (y17 = 0) → eb_Ct d 164 [.ref s_MO] h16 (fun r h21 => r = none ∧ eb_KO h21 ∧ eb_Ct d 174 [.ref s_MO, .int x1] h21 (fun r h24 => r = none ∧ eb_KO h24 ∧ eb_Ct d 171 [.ref s_MO, .int (if (eb_I h16 s_MO 9) = (32 : Int32) then 3000 else 3001 : Int32)] h24 (fun r h27 => r = none ∧ eb_KO h27 ∧ eb_Sn (d + 1) m_X11_readSum h0 5 [(0, .ref s_MO), (1, .int x1)] [] h27 Q)))))))))) : eb_Sn (d + 1) m_X11_readSum h0 5 [(0, .ref s_MO), (1, .int x1)] [] h Q := by
  refine eb_aload_n (pc := 5) (n := 0) (i := 0) rfl rfl rfl ?_
  refine eb_bipush (pc := 6) (n := 32) (v := 32) rfl rfl ?_
  refine eb_ctV (pc := 8) (As := [.int 32]) (rest := []) rfl (by decide) rfl rfl (by decide) rfl (Nat.le_of_ble_eq_true rfl) ?_
  refine eb_Ct.mono w ?_
  rintro r h1 ⟨y2, rfl, ko3, w⟩
  change eb_Sn _ _ _ 11 _ [.int y2] _ _
  refine eb_if_ne (pc := 11) (tgt := 23) rfl (by decide) (fun c4 => ?_) (fun c4 => ?_)
  · replace w := w.1 c4
    refine eb_aload_n (pc := 23) (n := 0) (i := 0) rfl rfl rfl ?_
    refine eb_getI (pc := 24) rfl rfl (by decide) (by decide) rfl ?_
    refine eb_bipush (pc := 27) (n := 32) (v := 32) rfl rfl ?_
    have jj15 : eb_Sn (d + 1) m_X11_readSum h0 41 [(0, .ref s_MO), (1, .int x1)] [.int (if (eb_I h1 s_MO 9) = (32 : Int32) then 3000 else 3001 : Int32)] h1 Q := by
      refine eb_istore_n (pc := 41) (n := 2) (i := 2) (ls2 := [(2, .int (if (eb_I h1 s_MO 9) = (32 : Int32) then 3000 else 3001 : Int32)), (0, .ref s_MO), (1, .int x1)]) rfl (Nat.le_of_ble_eq_true rfl) rfl rfl ?_
      refine eb_aload_n (pc := 42) (n := 0) (i := 0) rfl rfl rfl ?_
      refine eb_ctV (pc := 43) (As := []) (rest := []) rfl (by decide) rfl rfl (by decide) rfl (Nat.le_of_ble_eq_true rfl) ?_
      refine eb_Ct.mono w ?_
      rintro r h6 ⟨rfl, ko8, w⟩
      change eb_Sn _ _ _ 46 _ [] _ _
      refine eb_aload_n (pc := 46) (n := 0) (i := 0) rfl rfl rfl ?_
      refine eb_iload_n (pc := 47) (n := 1) (i := 1) rfl rfl rfl ?_
      refine eb_ctV (pc := 48) (As := [.int x1]) (rest := []) rfl (by decide) rfl rfl (by decide) rfl (Nat.le_of_ble_eq_true rfl) ?_
      refine eb_Ct.mono w ?_
      rintro r h9 ⟨rfl, ko11, w⟩
      change eb_Sn _ _ _ 51 _ [] _ _
      refine eb_aload_n (pc := 51) (n := 0) (i := 0) rfl rfl rfl ?_
      refine eb_iload_n (pc := 52) (n := 2) (i := 2) rfl rfl rfl ?_
      refine eb_ctV (pc := 53) (As := [.int (if (eb_I h1 s_MO 9) = (32 : Int32) then 3000 else 3001 : Int32)]) (rest := []) rfl (by decide) rfl rfl (by decide) rfl (Nat.le_of_ble_eq_true rfl) ?_
      refine eb_Ct.mono w ?_
      rintro r h12 ⟨rfl, ko14, w⟩
      change eb_Sn _ _ _ 56 _ [] _ _
      refine eb_goto (pc := 56) (tgt := 5) rfl (by decide) ?_
      exact eb_pick [1, 2] rfl w
    refine eb_icmp_ne (pc := 29) (tgt := 38) rfl (by decide) (fun c5 => ?_) (fun c5 => ?_)
    · refine eb_sipush (pc := 38) (n := 3001) (v := 3001) rfl rfl ?_
      simp only [if_neg c5] at jj15 ⊢
      exact jj15
    · refine eb_sipush (pc := 32) (n := 3000) (v := 3000) rfl rfl ?_
      refine eb_goto (pc := 35) (tgt := 41) rfl (by decide) ?_
      simp only [if_pos c5] at jj15 ⊢
      exact jj15
  · replace w := w.2 c4
    refine eb_aload_n (pc := 14) (n := 0) (i := 0) rfl rfl rfl ?_
    refine eb_bipush (pc := 15) (n := 33) (v := 33) rfl rfl ?_
    refine eb_ctV (pc := 17) (As := [.int 33]) (rest := []) rfl (by decide) rfl rfl (by decide) rfl (Nat.le_of_ble_eq_true rfl) ?_
    refine eb_Ct.mono w ?_
    rintro r h16 ⟨y17, rfl, ko18, w⟩
    change eb_Sn _ _ _ 20 _ [.int y17] _ _
    refine eb_if_eq (pc := 20) (tgt := 59) rfl (by decide) (fun c19 => ?_) (fun c19 => ?_)
    · replace w := w.1 c19
      exact eb_return (pc := 59) rfl rfl w
    · replace w := w.2 c19
      refine eb_aload_n (pc := 23) (n := 0) (i := 0) rfl rfl rfl ?_
      refine eb_getI (pc := 24) rfl rfl (by decide) (by decide) rfl ?_
      refine eb_bipush (pc := 27) (n := 32) (v := 32) rfl rfl ?_
      have jj30 : eb_Sn (d + 1) m_X11_readSum h0 41 [(0, .ref s_MO), (1, .int x1)] [.int (if (eb_I h16 s_MO 9) = (32 : Int32) then 3000 else 3001 : Int32)] h16 Q := by
        refine eb_istore_n (pc := 41) (n := 2) (i := 2) (ls2 := [(2, .int (if (eb_I h16 s_MO 9) = (32 : Int32) then 3000 else 3001 : Int32)), (0, .ref s_MO), (1, .int x1)]) rfl (Nat.le_of_ble_eq_true rfl) rfl rfl ?_
        refine eb_aload_n (pc := 42) (n := 0) (i := 0) rfl rfl rfl ?_
        refine eb_ctV (pc := 43) (As := []) (rest := []) rfl (by decide) rfl rfl (by decide) rfl (Nat.le_of_ble_eq_true rfl) ?_
        refine eb_Ct.mono w ?_
        rintro r h21 ⟨rfl, ko23, w⟩
        change eb_Sn _ _ _ 46 _ [] _ _
        refine eb_aload_n (pc := 46) (n := 0) (i := 0) rfl rfl rfl ?_
        refine eb_iload_n (pc := 47) (n := 1) (i := 1) rfl rfl rfl ?_
        refine eb_ctV (pc := 48) (As := [.int x1]) (rest := []) rfl (by decide) rfl rfl (by decide) rfl (Nat.le_of_ble_eq_true rfl) ?_
        refine eb_Ct.mono w ?_
        rintro r h24 ⟨rfl, ko26, w⟩
        change eb_Sn _ _ _ 51 _ [] _ _
        refine eb_aload_n (pc := 51) (n := 0) (i := 0) rfl rfl rfl ?_
        refine eb_iload_n (pc := 52) (n := 2) (i := 2) rfl rfl rfl ?_
        refine eb_ctV (pc := 53) (As := [.int (if (eb_I h16 s_MO 9) = (32 : Int32) then 3000 else 3001 : Int32)]) (rest := []) rfl (by decide) rfl rfl (by decide) rfl (Nat.le_of_ble_eq_true rfl) ?_
        refine eb_Ct.mono w ?_
        rintro r h27 ⟨rfl, ko29, w⟩
        change eb_Sn _ _ _ 56 _ [] _ _
        refine eb_goto (pc := 56) (tgt := 5) rfl (by decide) ?_
        exact eb_pick [1, 2] rfl w
      refine eb_icmp_ne (pc := 29) (tgt := 38) rfl (by decide) (fun c20 => ?_) (fun c20 => ?_)
      · refine eb_sipush (pc := 38) (n := 3001) (v := 3001) rfl rfl ?_
        simp only [if_neg c20] at jj30 ⊢
        exact jj30
      · refine eb_sipush (pc := 32) (n := 3000) (v := 3000) rfl rfl ?_
        refine eb_goto (pc := 35) (tgt := 41) rfl (by decide) ?_
        simp only [if_pos c20] at jj30 ⊢
        exact jj30
theorem T_X11_readSum {d : Nat} {h : eb_H} {Q : Option Value → eb_H → Prop} (x1 : Int32)  (ko : eb_KO h) (w : eb_Ct d 174 [.ref s_MO, .int x1] h (fun r h1 => r = none ∧ eb_KO h1 ∧ eb_Sn (d + 1) m_X11_readSum h 5 [(0, .ref s_MO), (1, .int x1)] [] h1 Q)) : eb_Ct (d + 1) 175 [.ref s_MO, .int x1] h Q :=
  eb_bodyQ (by decide) ok_X11_readSum (Nat.le_of_ble_eq_true rfl) (b_X11_readSum_0 (h0 := h) x1  ko w)
theorem b_X11_readUnit_0 {d : Nat} {h0 h : eb_H} {Q : Option Value → eb_H → Prop} (x1 : Int32)  (ko : eb_KO h) (w : eb_Ct d 166 [.ref s_MO, .int 16] h (fun r h1 => ∃ y2, r = some (.int y2) ∧ eb_KO h1 ∧ ((y2 = 0 → eb_Ct d 166 [.ref s_MO, .int 37] h1 (fun r h5 => ∃ y6, r = some (.int y6) ∧ eb_KO h5 ∧ ((y6 = 0 → eb_Ct d 175 [.ref s_MO, .int x1] h5 (fun r h9 => r = none ∧ eb_KO h9 ∧ eb_Ct d 166 [.ref s_MO, .int 39] h9 (fun r h12 => ∃ y13, r = some (.int y13) ∧ eb_KO h12 ∧ ((y13 = 0 → eb_Ct d 166 [.ref s_MO, .int 40] h12 (fun r h16 => ∃ y17, r = some (.int y17) ∧ eb_KO h16 ∧ eb_Ct d 166 [.ref s_MO, .int 39] h16 (fun r h20 => ∃ y21, r = some (.int y21) ∧ eb_KO h20 ∧ ((¬ y21 = 0 → eb_Ct d 164 [.ref s_MO] h20 (fun r h24 => r = none ∧ eb_KO h24 ∧ eb_Ct d 175 [.ref s_MO, .int x1] h24 (fun r h27 => r = none ∧ eb_KO h27 ∧ eb_Ct d 171 [.ref s_MO, .int (if y17 = 0 then 3005 else 3004 : Int32)] h27 (fun r h30 => r = none ∧ eb_KO h30 ∧ Q none h30)))) ∧ (y21 = 0 → eb_Ct d 166 [.ref s_MO, .int 40] h20 (fun r h33 => ∃ y34, r = some (.int y34) ∧ eb_KO h33 ∧ ((¬ y34 = 0 → eb_Ct d 164 [.ref s_MO] h33 (fun r h37 => r = none ∧ eb_KO h37 ∧ eb_Ct d 175 [.ref s_MO, .int x1] h37 (fun r h40 => r = none ∧ eb_KO h40 ∧ eb_Ct d 171 [.ref s_MO, .int (if y17 = 0 then 3005 else 3004 : Int32)] h40 (fun r h43 => r = none ∧ eb_KO h43 ∧ Q none h43)))) ∧ (y34 = 0 → eb_Ct d 166 [.ref s_MO, .int 41] h33 (fun r h46 => ∃ y47, r = some (.int y47) ∧ eb_KO h46 ∧ ((y47 = 0 → eb_Ct d 165 [.ref s_MO, .int 2] h46 (fun r h50 => r = none ∧ eb_KO h50 ∧ eb_Ct d 175 [.ref s_MO, .int x1] h50 (fun r h53 => r = none ∧ eb_KO h53 ∧ eb_Ct d 171 [.ref s_MO, .int (if y17 = 0 then 3005 else 3004 : Int32)] h53 (fun r h56 => r = none ∧ eb_KO h56 ∧ Q none h56)))) ∧ (¬ (y47 = 0) → eb_Ct d 164 [.ref s_MO] h46 (fun r h59 => r = none ∧ eb_KO h59 ∧ eb_Ct d 175 [.ref s_MO, .int x1] h59 (fun r h62 => r = none ∧ eb_KO h62 ∧ eb_Ct d 171 [.ref s_MO, .int (if y17 = 0 then 3005 else 3004 : Int32)] h62 (fun r h65 => r = none ∧ eb_KO h65 ∧ Q none h65)))))))))))))) ∧ (¬ (y13 = 0) → eb_Ct d 166 [.ref s_MO, .int 39] h12 (fun r h69 => ∃ y70, r = some (.int y70) ∧ eb_KO h69 ∧ ((¬ y70 = 0 → eb_Ct d 164 [.ref s_MO] h69 (fun r h73 => r = none ∧ eb_KO h73 ∧ eb_Ct d 175 [.ref s_MO, .int x1] h73 (fun r h76 => r = none ∧ eb_KO h76 ∧ eb_Ct d 171 [.ref s_MO, .int 3003] h76 (fun r h79 => r = none ∧ eb_KO h79 ∧ Q none h79)))) ∧ (y70 = 0 → eb_Ct d 166 [.ref s_MO, .int 40] h69 (fun r h82 => ∃ y83, r = some (.int y83) ∧ eb_KO h82 ∧ ((¬ y83 = 0 → eb_Ct d 164 [.ref s_MO] h82 (fun r h86 => r = none ∧ eb_KO h86 ∧ eb_Ct d 175 [.ref s_MO, .int x1] h86 (fun r h89 => r = none ∧ eb_KO h89 ∧ eb_Ct d 171 [.ref s_MO, .int 3003] h89 (fun r h92 => r = none ∧ eb_KO h92 ∧ Q none h92)))) ∧ (y83 = 0 → eb_Ct d 166 [.ref s_MO, .int 41] h82 (fun r h95 => ∃ y96, r = some (.int y96) ∧ eb_KO h95 ∧ ((y96 = 0 → eb_Ct d 165 [.ref s_MO, .int 2] h95 (fun r h99 => r = none ∧ eb_KO h99 ∧ eb_Ct d 175 [.ref s_MO, .int x1] h99 (fun r h102 => r = none ∧ eb_KO h102 ∧ eb_Ct d 171 [.ref s_MO, .int 3003] h102 (fun r h105 => r = none ∧ eb_KO h105 ∧ Q none h105)))) ∧ (¬ (y96 = 0) → eb_Ct d 164 [.ref s_MO] h95 (fun r h108 => r = none ∧ eb_KO h108 ∧ eb_Ct d 175 [.ref s_MO, .int x1] h108 (fun r h111 => r = none ∧ eb_KO h111 ∧ eb_Ct d 171 [.ref s_MO, .int 3003] h111 (fun r h114 => r = none ∧ eb_KO h114 ∧ Q none h114))))))))))))))))) ∧ (¬ (y6 = 0) → eb_Ct d 172 [.ref s_MO, .int x1] h5 (fun r h117 => ∃ y118, r = some (.int y118) ∧ eb_KO h117 ∧ ((¬ y118 = 0 → eb_Ct d 178 [.ref s_MO, .int (x1 + 1)] h117 (fun r h121 => r = none ∧ eb_KO h121 ∧ eb_Ct d 167 [.ref s_MO, .int 38] h121 (fun r h124 => ∃ y125, r = some (.int y125) ∧ eb_KO h124 ∧ ((¬ y125 = 0 → Q none h124) ∧ (y125 = 0 → eb_Ct d 165 [.ref s_MO, .int 2] h124 (fun r h128 => r = none ∧ eb_KO h128 ∧ Q none h128)))))) ∧ (y118 = 0 → Q none h117))))))) ∧ (¬ (y2 = 0) → eb_Ct d 172 [.ref s_MO, .int x1] h1 (fun r h131 => ∃ y132, r = some (.int y132) ∧ eb_KO h131 ∧ ((¬ y132 = 0 → eb_Ct d 176 [.ref s_MO, .int (x1 + 1)] h131 (fun r h135 => r = none ∧ eb_KO h135 ∧ eb_Ct d 171 [.ref s_MO, .int 3006] h135 (fun r h138 => r = none ∧ eb_KO h138 ∧ Q none h138))) ∧ (y132 = 0 → Q none h131))))))) : eb_Sn (d + 1) m_X11_readUnit h0 0 [(0, .ref s_MO), (1, .int x1)] [] h Q := by
  refine eb_aload_n (pc := 0) (n := 0) (i := 0) rfl rfl rfl ?_
  refine eb_bipush (pc := 1) (n := 16) (v := 16) rfl rfl ?_
  refine eb_ctV (pc := 3) (As := [.int 16]) (rest := []) rfl (by decide) rfl rfl (by decide) rfl (Nat.le_of_ble_eq_true rfl) ?_
  refine eb_Ct.mono w ?_
  rintro r h1 ⟨y2, rfl, ko3, w⟩
  change eb_Sn _ _ _ 6 _ [.int y2] _ _
  refine eb_if_eq (pc := 6) (tgt := 33) rfl (by decide) (fun c4 => ?_) (fun c4 => ?_)
  · replace w := w.1 c4
    refine eb_aload_n (pc := 33) (n := 0) (i := 0) rfl rfl rfl ?_
    refine eb_bipush (pc := 34) (n := 37) (v := 37) rfl rfl ?_
    refine eb_ctV (pc := 36) (As := [.int 37]) (rest := []) rfl (by decide) rfl rfl (by decide) rfl (Nat.le_of_ble_eq_true rfl) ?_
    refine eb_Ct.mono w ?_
    rintro r h5 ⟨y6, rfl, ko7, w⟩
    change eb_Sn _ _ _ 39 _ [.int y6] _ _
    refine eb_if_eq (pc := 39) (tgt := 73) rfl (by decide) (fun c8 => ?_) (fun c8 => ?_)
    · replace w := w.1 c8
      refine eb_aload_n (pc := 73) (n := 0) (i := 0) rfl rfl rfl ?_
      refine eb_iload_n (pc := 74) (n := 1) (i := 1) rfl rfl rfl ?_
      refine eb_ctV (pc := 75) (As := [.int x1]) (rest := []) rfl (by decide) rfl rfl (by decide) rfl (Nat.le_of_ble_eq_true rfl) ?_
      refine eb_Ct.mono w ?_
      rintro r h9 ⟨rfl, ko11, w⟩
      change eb_Sn _ _ _ 78 _ [] _ _
      refine eb_aload_n (pc := 78) (n := 0) (i := 0) rfl rfl rfl ?_
      refine eb_bipush (pc := 79) (n := 39) (v := 39) rfl rfl ?_
      refine eb_ctV (pc := 81) (As := [.int 39]) (rest := []) rfl (by decide) rfl rfl (by decide) rfl (Nat.le_of_ble_eq_true rfl) ?_
      refine eb_Ct.mono w ?_
      rintro r h12 ⟨y13, rfl, ko14, w⟩
      change eb_Sn _ _ _ 84 _ [.int y13] _ _
      refine eb_if_eq (pc := 84) (tgt := 93) rfl (by decide) (fun c15 => ?_) (fun c15 => ?_)
      · replace w := w.1 c15
        refine eb_aload_n (pc := 93) (n := 0) (i := 0) rfl rfl rfl ?_
        refine eb_bipush (pc := 94) (n := 40) (v := 40) rfl rfl ?_
        refine eb_ctV (pc := 96) (As := [.int 40]) (rest := []) rfl (by decide) rfl rfl (by decide) rfl (Nat.le_of_ble_eq_true rfl) ?_
        refine eb_Ct.mono w ?_
        rintro r h16 ⟨y17, rfl, ko18, w⟩
        change eb_Sn _ _ _ 99 _ [.int y17] _ _
        have jj68 : eb_Sn (d + 1) m_X11_readUnit h0 111 [(0, .ref s_MO), (1, .int x1)] [.int (if y17 = 0 then 3005 else 3004 : Int32)] h16 Q := by
          refine eb_istore_n (pc := 111) (n := 2) (i := 2) (ls2 := [(2, .int (if y17 = 0 then 3005 else 3004 : Int32)), (0, .ref s_MO), (1, .int x1)]) rfl (Nat.le_of_ble_eq_true rfl) rfl rfl ?_
          refine eb_aload_n (pc := 112) (n := 0) (i := 0) rfl rfl rfl ?_
          refine eb_bipush (pc := 113) (n := 39) (v := 39) rfl rfl ?_
          refine eb_ctV (pc := 115) (As := [.int 39]) (rest := []) rfl (by decide) rfl rfl (by decide) rfl (Nat.le_of_ble_eq_true rfl) ?_
          refine eb_Ct.mono w ?_
          rintro r h20 ⟨y21, rfl, ko22, w⟩
          change eb_Sn _ _ _ 118 _ [.int y21] _ _
          refine eb_if_ne (pc := 118) (tgt := 139) rfl (by decide) (fun c23 => ?_) (fun c23 => ?_)
          · replace w := w.1 c23
            refine eb_aload_n (pc := 139) (n := 0) (i := 0) rfl rfl rfl ?_
            refine eb_ctV (pc := 140) (As := []) (rest := []) rfl (by decide) rfl rfl (by decide) rfl (Nat.le_of_ble_eq_true rfl) ?_
            refine eb_Ct.mono w ?_
            rintro r h24 ⟨rfl, ko26, w⟩
            change eb_Sn _ _ _ 143 _ [] _ _
            refine eb_goto (pc := 143) (tgt := 151) rfl (by decide) ?_
            refine eb_aload_n (pc := 151) (n := 0) (i := 0) rfl rfl rfl ?_
            refine eb_iload_n (pc := 152) (n := 1) (i := 1) rfl rfl rfl ?_
            refine eb_ctV (pc := 153) (As := [.int x1]) (rest := []) rfl (by decide) rfl rfl (by decide) rfl (Nat.le_of_ble_eq_true rfl) ?_
            refine eb_Ct.mono w ?_
            rintro r h27 ⟨rfl, ko29, w⟩
            change eb_Sn _ _ _ 156 _ [] _ _
            refine eb_aload_n (pc := 156) (n := 0) (i := 0) rfl rfl rfl ?_
            refine eb_iload_n (pc := 157) (n := 2) (i := 2) rfl rfl rfl ?_
            refine eb_ctV (pc := 158) (As := [.int (if y17 = 0 then 3005 else 3004 : Int32)]) (rest := []) rfl (by decide) rfl rfl (by decide) rfl (Nat.le_of_ble_eq_true rfl) ?_
            refine eb_Ct.mono w ?_
            rintro r h30 ⟨rfl, ko32, w⟩
            change eb_Sn _ _ _ 161 _ [] _ _
            exact eb_return (pc := 161) rfl rfl w
          · replace w := w.2 c23
            refine eb_aload_n (pc := 121) (n := 0) (i := 0) rfl rfl rfl ?_
            refine eb_bipush (pc := 122) (n := 40) (v := 40) rfl rfl ?_
            refine eb_ctV (pc := 124) (As := [.int 40]) (rest := []) rfl (by decide) rfl rfl (by decide) rfl (Nat.le_of_ble_eq_true rfl) ?_
            refine eb_Ct.mono w ?_
            rintro r h33 ⟨y34, rfl, ko35, w⟩
            change eb_Sn _ _ _ 127 _ [.int y34] _ _
            refine eb_if_ne (pc := 127) (tgt := 139) rfl (by decide) (fun c36 => ?_) (fun c36 => ?_)
            · replace w := w.1 c36
              refine eb_aload_n (pc := 139) (n := 0) (i := 0) rfl rfl rfl ?_
              refine eb_ctV (pc := 140) (As := []) (rest := []) rfl (by decide) rfl rfl (by decide) rfl (Nat.le_of_ble_eq_true rfl) ?_
              refine eb_Ct.mono w ?_
              rintro r h37 ⟨rfl, ko39, w⟩
              change eb_Sn _ _ _ 143 _ [] _ _
              refine eb_goto (pc := 143) (tgt := 151) rfl (by decide) ?_
              refine eb_aload_n (pc := 151) (n := 0) (i := 0) rfl rfl rfl ?_
              refine eb_iload_n (pc := 152) (n := 1) (i := 1) rfl rfl rfl ?_
              refine eb_ctV (pc := 153) (As := [.int x1]) (rest := []) rfl (by decide) rfl rfl (by decide) rfl (Nat.le_of_ble_eq_true rfl) ?_
              refine eb_Ct.mono w ?_
              rintro r h40 ⟨rfl, ko42, w⟩
              change eb_Sn _ _ _ 156 _ [] _ _
              refine eb_aload_n (pc := 156) (n := 0) (i := 0) rfl rfl rfl ?_
              refine eb_iload_n (pc := 157) (n := 2) (i := 2) rfl rfl rfl ?_
              refine eb_ctV (pc := 158) (As := [.int (if y17 = 0 then 3005 else 3004 : Int32)]) (rest := []) rfl (by decide) rfl rfl (by decide) rfl (Nat.le_of_ble_eq_true rfl) ?_
              refine eb_Ct.mono w ?_
              rintro r h43 ⟨rfl, ko45, w⟩
              change eb_Sn _ _ _ 161 _ [] _ _
              exact eb_return (pc := 161) rfl rfl w
            · replace w := w.2 c36
              refine eb_aload_n (pc := 130) (n := 0) (i := 0) rfl rfl rfl ?_
              refine eb_bipush (pc := 131) (n := 41) (v := 41) rfl rfl ?_
              refine eb_ctV (pc := 133) (As := [.int 41]) (rest := []) rfl (by decide) rfl rfl (by decide) rfl (Nat.le_of_ble_eq_true rfl) ?_
              refine eb_Ct.mono w ?_
              rintro r h46 ⟨y47, rfl, ko48, w⟩
              change eb_Sn _ _ _ 136 _ [.int y47] _ _
              refine eb_if_eq (pc := 136) (tgt := 146) rfl (by decide) (fun c49 => ?_) (fun c49 => ?_)
              · replace w := w.1 c49
                refine eb_aload_n (pc := 146) (n := 0) (i := 0) rfl rfl rfl ?_
                refine eb_iconst (pc := 147) (n := 2) (v := 2) rfl rfl ?_
                refine eb_ctV (pc := 148) (As := [.int 2]) (rest := []) rfl (by decide) rfl rfl (by decide) rfl (Nat.le_of_ble_eq_true rfl) ?_
                refine eb_Ct.mono w ?_
                rintro r h50 ⟨rfl, ko52, w⟩
                change eb_Sn _ _ _ 151 _ [] _ _
                refine eb_aload_n (pc := 151) (n := 0) (i := 0) rfl rfl rfl ?_
                refine eb_iload_n (pc := 152) (n := 1) (i := 1) rfl rfl rfl ?_
                refine eb_ctV (pc := 153) (As := [.int x1]) (rest := []) rfl (by decide) rfl rfl (by decide) rfl (Nat.le_of_ble_eq_true rfl) ?_
                refine eb_Ct.mono w ?_
                rintro r h53 ⟨rfl, ko55, w⟩
                change eb_Sn _ _ _ 156 _ [] _ _
                refine eb_aload_n (pc := 156) (n := 0) (i := 0) rfl rfl rfl ?_
                refine eb_iload_n (pc := 157) (n := 2) (i := 2) rfl rfl rfl ?_
                refine eb_ctV (pc := 158) (As := [.int (if y17 = 0 then 3005 else 3004 : Int32)]) (rest := []) rfl (by decide) rfl rfl (by decide) rfl (Nat.le_of_ble_eq_true rfl) ?_
                refine eb_Ct.mono w ?_
                rintro r h56 ⟨rfl, ko58, w⟩
                change eb_Sn _ _ _ 161 _ [] _ _
                exact eb_return (pc := 161) rfl rfl w
              · replace w := w.2 c49
                refine eb_aload_n (pc := 139) (n := 0) (i := 0) rfl rfl rfl ?_
                refine eb_ctV (pc := 140) (As := []) (rest := []) rfl (by decide) rfl rfl (by decide) rfl (Nat.le_of_ble_eq_true rfl) ?_
                refine eb_Ct.mono w ?_
                rintro r h59 ⟨rfl, ko61, w⟩
                change eb_Sn _ _ _ 143 _ [] _ _
                refine eb_goto (pc := 143) (tgt := 151) rfl (by decide) ?_
                refine eb_aload_n (pc := 151) (n := 0) (i := 0) rfl rfl rfl ?_
                refine eb_iload_n (pc := 152) (n := 1) (i := 1) rfl rfl rfl ?_
                refine eb_ctV (pc := 153) (As := [.int x1]) (rest := []) rfl (by decide) rfl rfl (by decide) rfl (Nat.le_of_ble_eq_true rfl) ?_
                refine eb_Ct.mono w ?_
                rintro r h62 ⟨rfl, ko64, w⟩
                change eb_Sn _ _ _ 156 _ [] _ _
                refine eb_aload_n (pc := 156) (n := 0) (i := 0) rfl rfl rfl ?_
                refine eb_iload_n (pc := 157) (n := 2) (i := 2) rfl rfl rfl ?_
                refine eb_ctV (pc := 158) (As := [.int (if y17 = 0 then 3005 else 3004 : Int32)]) (rest := []) rfl (by decide) rfl rfl (by decide) rfl (Nat.le_of_ble_eq_true rfl) ?_
                refine eb_Ct.mono w ?_
                rintro r h65 ⟨rfl, ko67, w⟩
                change eb_Sn _ _ _ 161 _ [] _ _
                exact eb_return (pc := 161) rfl rfl w
        refine eb_if_eq (pc := 99) (tgt := 108) rfl (by decide) (fun c19 => ?_) (fun c19 => ?_)
        · refine eb_sipush (pc := 108) (n := 3005) (v := 3005) rfl rfl ?_
          simp only [if_pos c19] at jj68 ⊢
          exact jj68
        · refine eb_sipush (pc := 102) (n := 3004) (v := 3004) rfl rfl ?_
          refine eb_goto (pc := 105) (tgt := 111) rfl (by decide) ?_
          simp only [if_neg c19] at jj68 ⊢
          exact jj68
      · replace w := w.2 c15
        refine eb_sipush (pc := 87) (n := 3003) (v := 3003) rfl rfl ?_
        refine eb_goto (pc := 90) (tgt := 111) rfl (by decide) ?_
        refine eb_istore_n (pc := 111) (n := 2) (i := 2) (ls2 := [(2, .int 3003), (0, .ref s_MO), (1, .int x1)]) rfl (Nat.le_of_ble_eq_true rfl) rfl rfl ?_
        refine eb_aload_n (pc := 112) (n := 0) (i := 0) rfl rfl rfl ?_
        refine eb_bipush (pc := 113) (n := 39) (v := 39) rfl rfl ?_
        refine eb_ctV (pc := 115) (As := [.int 39]) (rest := []) rfl (by decide) rfl rfl (by decide) rfl (Nat.le_of_ble_eq_true rfl) ?_
        refine eb_Ct.mono w ?_
        rintro r h69 ⟨y70, rfl, ko71, w⟩
        change eb_Sn _ _ _ 118 _ [.int y70] _ _
        refine eb_if_ne (pc := 118) (tgt := 139) rfl (by decide) (fun c72 => ?_) (fun c72 => ?_)
        · replace w := w.1 c72
          refine eb_aload_n (pc := 139) (n := 0) (i := 0) rfl rfl rfl ?_
          refine eb_ctV (pc := 140) (As := []) (rest := []) rfl (by decide) rfl rfl (by decide) rfl (Nat.le_of_ble_eq_true rfl) ?_
          refine eb_Ct.mono w ?_
          rintro r h73 ⟨rfl, ko75, w⟩
          change eb_Sn _ _ _ 143 _ [] _ _
          refine eb_goto (pc := 143) (tgt := 151) rfl (by decide) ?_
          refine eb_aload_n (pc := 151) (n := 0) (i := 0) rfl rfl rfl ?_
          refine eb_iload_n (pc := 152) (n := 1) (i := 1) rfl rfl rfl ?_
          refine eb_ctV (pc := 153) (As := [.int x1]) (rest := []) rfl (by decide) rfl rfl (by decide) rfl (Nat.le_of_ble_eq_true rfl) ?_
          refine eb_Ct.mono w ?_
          rintro r h76 ⟨rfl, ko78, w⟩
          change eb_Sn _ _ _ 156 _ [] _ _
          refine eb_aload_n (pc := 156) (n := 0) (i := 0) rfl rfl rfl ?_
          refine eb_iload_n (pc := 157) (n := 2) (i := 2) rfl rfl rfl ?_
          refine eb_ctV (pc := 158) (As := [.int 3003]) (rest := []) rfl (by decide) rfl rfl (by decide) rfl (Nat.le_of_ble_eq_true rfl) ?_
          refine eb_Ct.mono w ?_
          rintro r h79 ⟨rfl, ko81, w⟩
          change eb_Sn _ _ _ 161 _ [] _ _
          exact eb_return (pc := 161) rfl rfl w
        · replace w := w.2 c72
          refine eb_aload_n (pc := 121) (n := 0) (i := 0) rfl rfl rfl ?_
          refine eb_bipush (pc := 122) (n := 40) (v := 40) rfl rfl ?_
          refine eb_ctV (pc := 124) (As := [.int 40]) (rest := []) rfl (by decide) rfl rfl (by decide) rfl (Nat.le_of_ble_eq_true rfl) ?_
          refine eb_Ct.mono w ?_
          rintro r h82 ⟨y83, rfl, ko84, w⟩
          change eb_Sn _ _ _ 127 _ [.int y83] _ _
          refine eb_if_ne (pc := 127) (tgt := 139) rfl (by decide) (fun c85 => ?_) (fun c85 => ?_)
          · replace w := w.1 c85
            refine eb_aload_n (pc := 139) (n := 0) (i := 0) rfl rfl rfl ?_
            refine eb_ctV (pc := 140) (As := []) (rest := []) rfl (by decide) rfl rfl (by decide) rfl (Nat.le_of_ble_eq_true rfl) ?_
            refine eb_Ct.mono w ?_
            rintro r h86 ⟨rfl, ko88, w⟩
            change eb_Sn _ _ _ 143 _ [] _ _
            refine eb_goto (pc := 143) (tgt := 151) rfl (by decide) ?_
            refine eb_aload_n (pc := 151) (n := 0) (i := 0) rfl rfl rfl ?_
            refine eb_iload_n (pc := 152) (n := 1) (i := 1) rfl rfl rfl ?_
            refine eb_ctV (pc := 153) (As := [.int x1]) (rest := []) rfl (by decide) rfl rfl (by decide) rfl (Nat.le_of_ble_eq_true rfl) ?_
            refine eb_Ct.mono w ?_
            rintro r h89 ⟨rfl, ko91, w⟩
            change eb_Sn _ _ _ 156 _ [] _ _
            refine eb_aload_n (pc := 156) (n := 0) (i := 0) rfl rfl rfl ?_
            refine eb_iload_n (pc := 157) (n := 2) (i := 2) rfl rfl rfl ?_
            refine eb_ctV (pc := 158) (As := [.int 3003]) (rest := []) rfl (by decide) rfl rfl (by decide) rfl (Nat.le_of_ble_eq_true rfl) ?_
            refine eb_Ct.mono w ?_
            rintro r h92 ⟨rfl, ko94, w⟩
            change eb_Sn _ _ _ 161 _ [] _ _
            exact eb_return (pc := 161) rfl rfl w
          · replace w := w.2 c85
            refine eb_aload_n (pc := 130) (n := 0) (i := 0) rfl rfl rfl ?_
            refine eb_bipush (pc := 131) (n := 41) (v := 41) rfl rfl ?_
            refine eb_ctV (pc := 133) (As := [.int 41]) (rest := []) rfl (by decide) rfl rfl (by decide) rfl (Nat.le_of_ble_eq_true rfl) ?_
            refine eb_Ct.mono w ?_
            rintro r h95 ⟨y96, rfl, ko97, w⟩
            change eb_Sn _ _ _ 136 _ [.int y96] _ _
            refine eb_if_eq (pc := 136) (tgt := 146) rfl (by decide) (fun c98 => ?_) (fun c98 => ?_)
            · replace w := w.1 c98
              refine eb_aload_n (pc := 146) (n := 0) (i := 0) rfl rfl rfl ?_
              refine eb_iconst (pc := 147) (n := 2) (v := 2) rfl rfl ?_
              refine eb_ctV (pc := 148) (As := [.int 2]) (rest := []) rfl (by decide) rfl rfl (by decide) rfl (Nat.le_of_ble_eq_true rfl) ?_
              refine eb_Ct.mono w ?_
              rintro r h99 ⟨rfl, ko101, w⟩
              change eb_Sn _ _ _ 151 _ [] _ _
              refine eb_aload_n (pc := 151) (n := 0) (i := 0) rfl rfl rfl ?_
              refine eb_iload_n (pc := 152) (n := 1) (i := 1) rfl rfl rfl ?_
              refine eb_ctV (pc := 153) (As := [.int x1]) (rest := []) rfl (by decide) rfl rfl (by decide) rfl (Nat.le_of_ble_eq_true rfl) ?_
              refine eb_Ct.mono w ?_
              rintro r h102 ⟨rfl, ko104, w⟩
              change eb_Sn _ _ _ 156 _ [] _ _
              refine eb_aload_n (pc := 156) (n := 0) (i := 0) rfl rfl rfl ?_
              refine eb_iload_n (pc := 157) (n := 2) (i := 2) rfl rfl rfl ?_
              refine eb_ctV (pc := 158) (As := [.int 3003]) (rest := []) rfl (by decide) rfl rfl (by decide) rfl (Nat.le_of_ble_eq_true rfl) ?_
              refine eb_Ct.mono w ?_
              rintro r h105 ⟨rfl, ko107, w⟩
              change eb_Sn _ _ _ 161 _ [] _ _
              exact eb_return (pc := 161) rfl rfl w
            · replace w := w.2 c98
              refine eb_aload_n (pc := 139) (n := 0) (i := 0) rfl rfl rfl ?_
              refine eb_ctV (pc := 140) (As := []) (rest := []) rfl (by decide) rfl rfl (by decide) rfl (Nat.le_of_ble_eq_true rfl) ?_
              refine eb_Ct.mono w ?_
              rintro r h108 ⟨rfl, ko110, w⟩
              change eb_Sn _ _ _ 143 _ [] _ _
              refine eb_goto (pc := 143) (tgt := 151) rfl (by decide) ?_
              refine eb_aload_n (pc := 151) (n := 0) (i := 0) rfl rfl rfl ?_
              refine eb_iload_n (pc := 152) (n := 1) (i := 1) rfl rfl rfl ?_
              refine eb_ctV (pc := 153) (As := [.int x1]) (rest := []) rfl (by decide) rfl rfl (by decide) rfl (Nat.le_of_ble_eq_true rfl) ?_
              refine eb_Ct.mono w ?_
              rintro r h111 ⟨rfl, ko113, w⟩
              change eb_Sn _ _ _ 156 _ [] _ _
              refine eb_aload_n (pc := 156) (n := 0) (i := 0) rfl rfl rfl ?_
              refine eb_iload_n (pc := 157) (n := 2) (i := 2) rfl rfl rfl ?_
              refine eb_ctV (pc := 158) (As := [.int 3003]) (rest := []) rfl (by decide) rfl rfl (by decide) rfl (Nat.le_of_ble_eq_true rfl) ?_
              refine eb_Ct.mono w ?_
              rintro r h114 ⟨rfl, ko116, w⟩
              change eb_Sn _ _ _ 161 _ [] _ _
              exact eb_return (pc := 161) rfl rfl w
    · replace w := w.2 c8
      refine eb_aload_n (pc := 42) (n := 0) (i := 0) rfl rfl rfl ?_
      refine eb_iload_n (pc := 43) (n := 1) (i := 1) rfl rfl rfl ?_
      refine eb_ctV (pc := 44) (As := [.int x1]) (rest := []) rfl (by decide) rfl rfl (by decide) rfl (Nat.le_of_ble_eq_true rfl) ?_
      refine eb_Ct.mono w ?_
      rintro r h117 ⟨y118, rfl, ko119, w⟩
      change eb_Sn _ _ _ 47 _ [.int y118] _ _
      refine eb_if_ne (pc := 47) (tgt := 51) rfl (by decide) (fun c120 => ?_) (fun c120 => ?_)
      · replace w := w.1 c120
        refine eb_aload_n (pc := 51) (n := 0) (i := 0) rfl rfl rfl ?_
        refine eb_iload_n (pc := 52) (n := 1) (i := 1) rfl rfl rfl ?_
        refine eb_iconst (pc := 53) (n := 1) (v := 1) rfl rfl ?_
        refine eb_iadd (pc := 54) rfl ?_
        refine eb_ctV (pc := 55) (As := [.int (x1 + 1)]) (rest := []) rfl (by decide) rfl rfl (by decide) rfl (Nat.le_of_ble_eq_true rfl) ?_
        refine eb_Ct.mono w ?_
        rintro r h121 ⟨rfl, ko123, w⟩
        change eb_Sn _ _ _ 58 _ [] _ _
        refine eb_aload_n (pc := 58) (n := 0) (i := 0) rfl rfl rfl ?_
        refine eb_bipush (pc := 59) (n := 38) (v := 38) rfl rfl ?_
        refine eb_ctV (pc := 61) (As := [.int 38]) (rest := []) rfl (by decide) rfl rfl (by decide) rfl (Nat.le_of_ble_eq_true rfl) ?_
        refine eb_Ct.mono w ?_
        rintro r h124 ⟨y125, rfl, ko126, w⟩
        change eb_Sn _ _ _ 64 _ [.int y125] _ _
        refine eb_if_ne (pc := 64) (tgt := 72) rfl (by decide) (fun c127 => ?_) (fun c127 => ?_)
        · replace w := w.1 c127
          exact eb_return (pc := 72) rfl rfl w
        · replace w := w.2 c127
          refine eb_aload_n (pc := 67) (n := 0) (i := 0) rfl rfl rfl ?_
          refine eb_iconst (pc := 68) (n := 2) (v := 2) rfl rfl ?_
          refine eb_ctV (pc := 69) (As := [.int 2]) (rest := []) rfl (by decide) rfl rfl (by decide) rfl (Nat.le_of_ble_eq_true rfl) ?_
          refine eb_Ct.mono w ?_
          rintro r h128 ⟨rfl, ko130, w⟩
          change eb_Sn _ _ _ 72 _ [] _ _
          exact eb_return (pc := 72) rfl rfl w
      · replace w := w.2 c120
        exact eb_return (pc := 50) rfl rfl w
  · replace w := w.2 c4
    refine eb_aload_n (pc := 9) (n := 0) (i := 0) rfl rfl rfl ?_
    refine eb_iload_n (pc := 10) (n := 1) (i := 1) rfl rfl rfl ?_
    refine eb_ctV (pc := 11) (As := [.int x1]) (rest := []) rfl (by decide) rfl rfl (by decide) rfl (Nat.le_of_ble_eq_true rfl) ?_
    refine eb_Ct.mono w ?_
    rintro r h131 ⟨y132, rfl, ko133, w⟩
    change eb_Sn _ _ _ 14 _ [.int y132] _ _
    refine eb_if_ne (pc := 14) (tgt := 18) rfl (by decide) (fun c134 => ?_) (fun c134 => ?_)
    · replace w := w.1 c134
      refine eb_aload_n (pc := 18) (n := 0) (i := 0) rfl rfl rfl ?_
      refine eb_iload_n (pc := 19) (n := 1) (i := 1) rfl rfl rfl ?_
      refine eb_iconst (pc := 20) (n := 1) (v := 1) rfl rfl ?_
      refine eb_iadd (pc := 21) rfl ?_
      refine eb_ctV (pc := 22) (As := [.int (x1 + 1)]) (rest := []) rfl (by decide) rfl rfl (by decide) rfl (Nat.le_of_ble_eq_true rfl) ?_
      refine eb_Ct.mono w ?_
      rintro r h135 ⟨rfl, ko137, w⟩
      change eb_Sn _ _ _ 25 _ [] _ _
      refine eb_aload_n (pc := 25) (n := 0) (i := 0) rfl rfl rfl ?_
      refine eb_sipush (pc := 26) (n := 3006) (v := 3006) rfl rfl ?_
      refine eb_ctV (pc := 29) (As := [.int 3006]) (rest := []) rfl (by decide) rfl rfl (by decide) rfl (Nat.le_of_ble_eq_true rfl) ?_
      refine eb_Ct.mono w ?_
      rintro r h138 ⟨rfl, ko140, w⟩
      change eb_Sn _ _ _ 32 _ [] _ _
      exact eb_return (pc := 32) rfl rfl w
    · replace w := w.2 c134
      exact eb_return (pc := 17) rfl rfl w
theorem T_X11_readUnit {d : Nat} {h : eb_H} {Q : Option Value → eb_H → Prop} (x1 : Int32)  (ko : eb_KO h) (w : eb_Ct d 166 [.ref s_MO, .int 16] h (fun r h1 => ∃ y2, r = some (.int y2) ∧ eb_KO h1 ∧ ((y2 = 0 → eb_Ct d 166 [.ref s_MO, .int 37] h1 (fun r h5 => ∃ y6, r = some (.int y6) ∧ eb_KO h5 ∧ ((y6 = 0 → eb_Ct d 175 [.ref s_MO, .int x1] h5 (fun r h9 => r = none ∧ eb_KO h9 ∧ eb_Ct d 166 [.ref s_MO, .int 39] h9 (fun r h12 => ∃ y13, r = some (.int y13) ∧ eb_KO h12 ∧ ((y13 = 0 → eb_Ct d 166 [.ref s_MO, .int 40] h12 (fun r h16 => ∃ y17, r = some (.int y17) ∧ eb_KO h16 ∧ eb_Ct d 166 [.ref s_MO, .int 39] h16 (fun r h20 => ∃ y21, r = some (.int y21) ∧ eb_KO h20 ∧ ((¬ y21 = 0 → eb_Ct d 164 [.ref s_MO] h20 (fun r h24 => r = none ∧ eb_KO h24 ∧ eb_Ct d 175 [.ref s_MO, .int x1] h24 (fun r h27 => r = none ∧ eb_KO h27 ∧ eb_Ct d 171 [.ref s_MO, .int (if y17 = 0 then 3005 else 3004 : Int32)] h27 (fun r h30 => r = none ∧ eb_KO h30 ∧ Q none h30)))) ∧ (y21 = 0 → eb_Ct d 166 [.ref s_MO, .int 40] h20 (fun r h33 => ∃ y34, r = some (.int y34) ∧ eb_KO h33 ∧ ((¬ y34 = 0 → eb_Ct d 164 [.ref s_MO] h33 (fun r h37 => r = none ∧ eb_KO h37 ∧ eb_Ct d 175 [.ref s_MO, .int x1] h37 (fun r h40 => r = none ∧ eb_KO h40 ∧ eb_Ct d 171 [.ref s_MO, .int (if y17 = 0 then 3005 else 3004 : Int32)] h40 (fun r h43 => r = none ∧ eb_KO h43 ∧ Q none h43)))) ∧ (y34 = 0 → eb_Ct d 166 [.ref s_MO, .int 41] h33 (fun r h46 => ∃ y47, r = some (.int y47) ∧ eb_KO h46 ∧ ((y47 = 0 → eb_Ct d 165 [.ref s_MO, .int 2] h46 (fun r h50 => r = none ∧ eb_KO h50 ∧ eb_Ct d 175 [.ref s_MO, .int x1] h50 (fun r h53 => r = none ∧ eb_KO h53 ∧ eb_Ct d 171 [.ref s_MO, .int (if y17 = 0 then 3005 else 3004 : Int32)] h53 (fun r h56 => r = none ∧ eb_KO h56 ∧ Q none h56)))) ∧ (¬ (y47 = 0) → eb_Ct d 164 [.ref s_MO] h46 (fun r h59 => r = none ∧ eb_KO h59 ∧ eb_Ct d 175 [.ref s_MO, .int x1] h59 (fun r h62 => r = none ∧ eb_KO h62 ∧ eb_Ct d 171 [.ref s_MO, .int (if y17 = 0 then 3005 else 3004 : Int32)] h62 (fun r h65 => r = none ∧ eb_KO h65 ∧ Q none h65)))))))))))))) ∧ (¬ (y13 = 0) → eb_Ct d 166 [.ref s_MO, .int 39] h12 (fun r h69 => ∃ y70, r = some (.int y70) ∧ eb_KO h69 ∧ ((¬ y70 = 0 → eb_Ct d 164 [.ref s_MO] h69 (fun r h73 => r = none ∧ eb_KO h73 ∧ eb_Ct d 175 [.ref s_MO, .int x1] h73 (fun r h76 => r = none ∧ eb_KO h76 ∧ eb_Ct d 171 [.ref s_MO, .int 3003] h76 (fun r h79 => r = none ∧ eb_KO h79 ∧ Q none h79)))) ∧ (y70 = 0 → eb_Ct d 166 [.ref s_MO, .int 40] h69 (fun r h82 => ∃ y83, r = some (.int y83) ∧ eb_KO h82 ∧ ((¬ y83 = 0 → eb_Ct d 164 [.ref s_MO] h82 (fun r h86 => r = none ∧ eb_KO h86 ∧ eb_Ct d 175 [.ref s_MO, .int x1] h86 (fun r h89 => r = none ∧ eb_KO h89 ∧ eb_Ct d 171 [.ref s_MO, .int 3003] h89 (fun r h92 => r = none ∧ eb_KO h92 ∧ Q none h92)))) ∧ (y83 = 0 → eb_Ct d 166 [.ref s_MO, .int 41] h82 (fun r h95 => ∃ y96, r = some (.int y96) ∧ eb_KO h95 ∧ ((y96 = 0 → eb_Ct d 165 [.ref s_MO, .int 2] h95 (fun r h99 => r = none ∧ eb_KO h99 ∧ eb_Ct d 175 [.ref s_MO, .int x1] h99 (fun r h102 => r = none ∧ eb_KO h102 ∧ eb_Ct d 171 [.ref s_MO, .int 3003] h102 (fun r h105 => r = none ∧ eb_KO h105 ∧ Q none h105)))) ∧ (¬ (y96 = 0) → eb_Ct d 164 [.ref s_MO] h95 (fun r h108 => r = none ∧ eb_KO h108 ∧ eb_Ct d 175 [.ref s_MO, .int x1] h108 (fun r h111 => r = none ∧ eb_KO h111 ∧ eb_Ct d 171 [.ref s_MO, .int 3003] h111 (fun r h114 => r = none ∧ eb_KO h114 ∧ Q none h114))))))))))))))))) ∧ (¬ (y6 = 0) → eb_Ct d 172 [.ref s_MO, .int x1] h5 (fun r h117 => ∃ y118, r = some (.int y118) ∧ eb_KO h117 ∧ ((¬ y118 = 0 → eb_Ct d 178 [.ref s_MO, .int (x1 + 1)] h117 (fun r h121 => r = none ∧ eb_KO h121 ∧ eb_Ct d 167 [.ref s_MO, .int 38] h121 (fun r h124 => ∃ y125, r = some (.int y125) ∧ eb_KO h124 ∧ ((¬ y125 = 0 → Q none h124) ∧ (y125 = 0 → eb_Ct d 165 [.ref s_MO, .int 2] h124 (fun r h128 => r = none ∧ eb_KO h128 ∧ Q none h128)))))) ∧ (y118 = 0 → Q none h117))))))) ∧ (¬ (y2 = 0) → eb_Ct d 172 [.ref s_MO, .int x1] h1 (fun r h131 => ∃ y132, r = some (.int y132) ∧ eb_KO h131 ∧ ((¬ y132 = 0 → eb_Ct d 176 [.ref s_MO, .int (x1 + 1)] h131 (fun r h135 => r = none ∧ eb_KO h135 ∧ eb_Ct d 171 [.ref s_MO, .int 3006] h135 (fun r h138 => r = none ∧ eb_KO h138 ∧ Q none h138))) ∧ (y132 = 0 → Q none h131))))))) : eb_Ct (d + 1) 176 [.ref s_MO, .int x1] h Q :=
  eb_bodyQ (by decide) ok_X11_readUnit (Nat.le_of_ble_eq_true rfl) (b_X11_readUnit_0 (h0 := h) x1  ko w)
theorem b_X11_readBoth_0 {d : Nat} {h0 h : eb_H} {Q : Option Value → eb_H → Prop} (x1 : Int32)  (ko : eb_KO h) (w : eb_Ct d 176 [.ref s_MO, .int x1] h (fun r h1 => r = none ∧ eb_KO h1 ∧ eb_Sn (d + 1) m_X11_readBoth h0 5 [(0, .ref s_MO), (1, .int x1)] [] h1 Q)) : eb_Sn (d + 1) m_X11_readBoth h0 0 [(0, .ref s_MO), (1, .int x1)] [] h Q := by
  refine eb_aload_n (pc := 0) (n := 0) (i := 0) rfl rfl rfl ?_
  refine eb_iload_n (pc := 1) (n := 1) (i := 1) rfl rfl rfl ?_
  refine eb_ctV (pc := 2) (As := [.int x1]) (rest := []) rfl (by decide) rfl rfl (by decide) rfl (Nat.le_of_ble_eq_true rfl) ?_
  refine eb_Ct.mono w ?_
  rintro r h1 ⟨rfl, ko3, w⟩
  change eb_Sn _ _ _ 5 _ [] _ _
  exact eb_pick [0, 1] rfl w
theorem b_X11_readBoth_5 {d : Nat} {h0 h : eb_H} {Q : Option Value → eb_H → Prop} (x1 : Int32)  (ko : eb_KO h) (w : eb_Ct d 167 [.ref s_MO, .int 14] h (fun r h1 => ∃ y2, r = some (.int y2) ∧ eb_KO h1 ∧ ((y2 = 0 → Q none h1) ∧ (¬ (y2 = 0) → eb_Ct d 176 [.ref s_MO, .int x1] h1 (fun r h5 => r = none ∧ eb_KO h5 ∧ eb_Ct d 171 [.ref s_MO, .int 3007] h5 (fun r h8 => r = none ∧ eb_KO h8 ∧ eb_Sn (d + 1) m_X11_readBoth h0 5 [(0, .ref s_MO), (1, .int x1)] [] h8 Q)))))) : eb_Sn (d + 1) m_X11_readBoth h0 5 [(0, .ref s_MO), (1, .int x1)] [] h Q := by
  refine eb_aload_n (pc := 5) (n := 0) (i := 0) rfl rfl rfl ?_
  refine eb_bipush (pc := 6) (n := 14) (v := 14) rfl rfl ?_
  refine eb_ctV (pc := 8) (As := [.int 14]) (rest := []) rfl (by decide) rfl rfl (by decide) rfl (Nat.le_of_ble_eq_true rfl) ?_
  refine eb_Ct.mono w ?_
  rintro r h1 ⟨y2, rfl, ko3, w⟩
  change eb_Sn _ _ _ 11 _ [.int y2] _ _
  refine eb_if_eq (pc := 11) (tgt := 29) rfl (by decide) (fun c4 => ?_) (fun c4 => ?_)
  · replace w := w.1 c4
    exact eb_return (pc := 29) rfl rfl w
  · replace w := w.2 c4
    refine eb_aload_n (pc := 14) (n := 0) (i := 0) rfl rfl rfl ?_
    refine eb_iload_n (pc := 15) (n := 1) (i := 1) rfl rfl rfl ?_
    refine eb_ctV (pc := 16) (As := [.int x1]) (rest := []) rfl (by decide) rfl rfl (by decide) rfl (Nat.le_of_ble_eq_true rfl) ?_
    refine eb_Ct.mono w ?_
    rintro r h5 ⟨rfl, ko7, w⟩
    change eb_Sn _ _ _ 19 _ [] _ _
    refine eb_aload_n (pc := 19) (n := 0) (i := 0) rfl rfl rfl ?_
    refine eb_sipush (pc := 20) (n := 3007) (v := 3007) rfl rfl ?_
    refine eb_ctV (pc := 23) (As := [.int 3007]) (rest := []) rfl (by decide) rfl rfl (by decide) rfl (Nat.le_of_ble_eq_true rfl) ?_
    refine eb_Ct.mono w ?_
    rintro r h8 ⟨rfl, ko10, w⟩
    change eb_Sn _ _ _ 26 _ [] _ _
    refine eb_goto (pc := 26) (tgt := 5) rfl (by decide) ?_
    exact eb_pick [0, 1] rfl w
theorem T_X11_readBoth {d : Nat} {h : eb_H} {Q : Option Value → eb_H → Prop} (x1 : Int32)  (ko : eb_KO h) (w : eb_Ct d 176 [.ref s_MO, .int x1] h (fun r h1 => r = none ∧ eb_KO h1 ∧ eb_Sn (d + 1) m_X11_readBoth h 5 [(0, .ref s_MO), (1, .int x1)] [] h1 Q)) : eb_Ct (d + 1) 177 [.ref s_MO, .int x1] h Q :=
  eb_bodyQ (by decide) ok_X11_readBoth (Nat.le_of_ble_eq_true rfl) (b_X11_readBoth_0 (h0 := h) x1  ko w)
theorem b_X11_readTruth_0 {d : Nat} {h0 h : eb_H} {Q : Option Value → eb_H → Prop} (x1 : Int32)  (ko : eb_KO h) (w : eb_Ct d 177 [.ref s_MO, .int x1] h (fun r h1 => r = none ∧ eb_KO h1 ∧ eb_Sn (d + 1) m_X11_readTruth h0 5 [(0, .ref s_MO), (1, .int x1)] [] h1 Q)) : eb_Sn (d + 1) m_X11_readTruth h0 0 [(0, .ref s_MO), (1, .int x1)] [] h Q := by
  refine eb_aload_n (pc := 0) (n := 0) (i := 0) rfl rfl rfl ?_
  refine eb_iload_n (pc := 1) (n := 1) (i := 1) rfl rfl rfl ?_
  refine eb_ctV (pc := 2) (As := [.int x1]) (rest := []) rfl (by decide) rfl rfl (by decide) rfl (Nat.le_of_ble_eq_true rfl) ?_
  refine eb_Ct.mono w ?_
  rintro r h1 ⟨rfl, ko3, w⟩
  change eb_Sn _ _ _ 5 _ [] _ _
  exact eb_pick [0, 1] rfl w
theorem b_X11_readTruth_5 {d : Nat} {h0 h : eb_H} {Q : Option Value → eb_H → Prop} (x1 : Int32)  (ko : eb_KO h) (w : eb_Ct d 167 [.ref s_MO, .int 15] h (fun r h1 => ∃ y2, r = some (.int y2) ∧ eb_KO h1 ∧ ((y2 = 0 → Q none h1) ∧ (¬ (y2 = 0) → eb_Ct d 177 [.ref s_MO, .int x1] h1 (fun r h5 => r = none ∧ eb_KO h5 ∧ eb_Ct d 171 [.ref s_MO, .int 3008] h5 (fun r h8 => r = none ∧ eb_KO h8 ∧ eb_Sn (d + 1) m_X11_readTruth h0 5 [(0, .ref s_MO), (1, .int x1)] [] h8 Q)))))) : eb_Sn (d + 1) m_X11_readTruth h0 5 [(0, .ref s_MO), (1, .int x1)] [] h Q := by
  refine eb_aload_n (pc := 5) (n := 0) (i := 0) rfl rfl rfl ?_
  refine eb_bipush (pc := 6) (n := 15) (v := 15) rfl rfl ?_
  refine eb_ctV (pc := 8) (As := [.int 15]) (rest := []) rfl (by decide) rfl rfl (by decide) rfl (Nat.le_of_ble_eq_true rfl) ?_
  refine eb_Ct.mono w ?_
  rintro r h1 ⟨y2, rfl, ko3, w⟩
  change eb_Sn _ _ _ 11 _ [.int y2] _ _
  refine eb_if_eq (pc := 11) (tgt := 29) rfl (by decide) (fun c4 => ?_) (fun c4 => ?_)
  · replace w := w.1 c4
    exact eb_return (pc := 29) rfl rfl w
  · replace w := w.2 c4
    refine eb_aload_n (pc := 14) (n := 0) (i := 0) rfl rfl rfl ?_
    refine eb_iload_n (pc := 15) (n := 1) (i := 1) rfl rfl rfl ?_
    refine eb_ctV (pc := 16) (As := [.int x1]) (rest := []) rfl (by decide) rfl rfl (by decide) rfl (Nat.le_of_ble_eq_true rfl) ?_
    refine eb_Ct.mono w ?_
    rintro r h5 ⟨rfl, ko7, w⟩
    change eb_Sn _ _ _ 19 _ [] _ _
    refine eb_aload_n (pc := 19) (n := 0) (i := 0) rfl rfl rfl ?_
    refine eb_sipush (pc := 20) (n := 3008) (v := 3008) rfl rfl ?_
    refine eb_ctV (pc := 23) (As := [.int 3008]) (rest := []) rfl (by decide) rfl rfl (by decide) rfl (Nat.le_of_ble_eq_true rfl) ?_
    refine eb_Ct.mono w ?_
    rintro r h8 ⟨rfl, ko10, w⟩
    change eb_Sn _ _ _ 26 _ [] _ _
    refine eb_goto (pc := 26) (tgt := 5) rfl (by decide) ?_
    exact eb_pick [0, 1] rfl w
theorem T_X11_readTruth {d : Nat} {h : eb_H} {Q : Option Value → eb_H → Prop} (x1 : Int32)  (ko : eb_KO h) (w : eb_Ct d 177 [.ref s_MO, .int x1] h (fun r h1 => r = none ∧ eb_KO h1 ∧ eb_Sn (d + 1) m_X11_readTruth h 5 [(0, .ref s_MO), (1, .int x1)] [] h1 Q)) : eb_Ct (d + 1) 178 [.ref s_MO, .int x1] h Q :=
  eb_bodyQ (by decide) ok_X11_readTruth (Nat.le_of_ble_eq_true rfl) (b_X11_readTruth_0 (h0 := h) x1  ko w)
theorem b_X11_readCell_0 {d : Nat} {h0 h : eb_H} {Q : Option Value → eb_H → Prop}   (ko : eb_KO h) (w : eb_Ct d 168 [.ref s_MO, .int 0, .int (((eb_I h s_m_fresh (1 : Int32).toNatClampNeg) * (eb_I h s_m_fresh (2 : Int32).toNatClampNeg)) - 1)] h (fun r h1 => ∃ y2, r = some (.int y2) ∧ eb_KO h1 ∧ Q (some (.int y2)) h1)) : eb_Sn (d + 1) m_X11_readCell h0 0 [(0, .ref s_MO)] [] h Q := by
  refine eb_aload_n (pc := 0) (n := 0) (i := 0) rfl rfl rfl ?_
  refine eb_iconst (pc := 1) (n := 0) (v := 0) rfl rfl ?_
  refine eb_aload_n (pc := 2) (n := 0) (i := 0) rfl rfl rfl ?_
  refine eb_getR (pc := 3) rfl rfl (by decide) (by decide) rfl (ko_s_MO_4 ko) ?_
  refine eb_iconst (pc := 6) (n := 1) (v := 1) rfl rfl ?_
  refine eb_iaload (pc := 7) rfl rfl (by unfold vp_in; decide) ?_
  refine eb_aload_n (pc := 8) (n := 0) (i := 0) rfl rfl rfl ?_
  refine eb_getR (pc := 9) rfl rfl (by decide) (by decide) rfl (ko_s_MO_4 ko) ?_
  refine eb_iconst (pc := 12) (n := 2) (v := 2) rfl rfl ?_
  refine eb_iaload (pc := 13) rfl rfl (by unfold vp_in; decide) ?_
  refine eb_imul (pc := 14) rfl ?_
  refine eb_iconst (pc := 15) (n := 1) (v := 1) rfl rfl ?_
  refine eb_isub (pc := 16) rfl ?_
  refine eb_ctV (pc := 17) (As := [.int 0, .int (((eb_I h s_m_fresh (1 : Int32).toNatClampNeg) * (eb_I h s_m_fresh (2 : Int32).toNatClampNeg)) - 1)]) (rest := []) rfl (by decide) rfl rfl (by decide) rfl (Nat.le_of_ble_eq_true rfl) ?_
  refine eb_Ct.mono w ?_
  rintro r h1 ⟨y2, rfl, ko3, w⟩
  change eb_Sn _ _ _ 20 _ [.int y2] _ _
  exact eb_ireturn (pc := 20) rfl rfl rfl w
theorem T_X11_readCell {d : Nat} {h : eb_H} {Q : Option Value → eb_H → Prop}   (ko : eb_KO h) (w : eb_Ct d 168 [.ref s_MO, .int 0, .int (((eb_I h s_m_fresh (1 : Int32).toNatClampNeg) * (eb_I h s_m_fresh (2 : Int32).toNatClampNeg)) - 1)] h (fun r h1 => ∃ y2, r = some (.int y2) ∧ eb_KO h1 ∧ Q (some (.int y2)) h1)) : eb_Ct (d + 1) 179 [.ref s_MO] h Q :=
  eb_bodyQ (by decide) ok_X11_readCell (Nat.le_of_ble_eq_true rfl) (b_X11_readCell_0 (h0 := h)   ko w)
theorem b_X11_readRow_0 {d : Nat} {h0 h : eb_H} {Q : Option Value → eb_H → Prop}   (ko : eb_KO h) (w : eb_Ct d 164 [.ref s_MO] h (fun r h1 => r = none ∧ eb_KO h1 ∧ eb_Ct d 168 [.ref s_MO, .int 0, .int ((eb_I h1 s_m_fresh (1 : Int32).toNatClampNeg) - 1)] h1 (fun r h4 => ∃ y5, r = some (.int y5) ∧ eb_KO h4 ∧ eb_Sn (d + 1) m_X11_readRow h0 20 [(0, .ref s_MO), (1, .int y5), (2, .int 0)] [] h4 Q))) : eb_Sn (d + 1) m_X11_readRow h0 0 [(0, .ref s_MO)] [] h Q := by
  refine eb_aload_n (pc := 0) (n := 0) (i := 0) rfl rfl rfl ?_
  refine eb_ctV (pc := 1) (As := []) (rest := []) rfl (by decide) rfl rfl (by decide) rfl (Nat.le_of_ble_eq_true rfl) ?_
  refine eb_Ct.mono w ?_
  rintro r h1 ⟨rfl, ko3, w⟩
  change eb_Sn _ _ _ 4 _ [] _ _
  refine eb_aload_n (pc := 4) (n := 0) (i := 0) rfl rfl rfl ?_
  refine eb_iconst (pc := 5) (n := 0) (v := 0) rfl rfl ?_
  refine eb_aload_n (pc := 6) (n := 0) (i := 0) rfl rfl rfl ?_
  refine eb_getR (pc := 7) rfl rfl (by decide) (by decide) rfl (ko_s_MO_4 ko3) ?_
  refine eb_iconst (pc := 10) (n := 1) (v := 1) rfl rfl ?_
  refine eb_iaload (pc := 11) rfl rfl (by unfold vp_in; decide) ?_
  refine eb_iconst (pc := 12) (n := 1) (v := 1) rfl rfl ?_
  refine eb_isub (pc := 13) rfl ?_
  refine eb_ctV (pc := 14) (As := [.int 0, .int ((eb_I h1 s_m_fresh (1 : Int32).toNatClampNeg) - 1)]) (rest := []) rfl (by decide) rfl rfl (by decide) rfl (Nat.le_of_ble_eq_true rfl) ?_
  refine eb_Ct.mono w ?_
  rintro r h4 ⟨y5, rfl, ko6, w⟩
  change eb_Sn _ _ _ 17 _ [.int y5] _ _
  refine eb_istore_n (pc := 17) (n := 1) (i := 1) (ls2 := [(1, .int y5), (0, .ref s_MO)]) rfl (Nat.le_of_ble_eq_true rfl) rfl rfl ?_
  refine eb_iconst (pc := 18) (n := 0) (v := 0) rfl rfl ?_
  refine eb_istore_n (pc := 19) (n := 2) (i := 2) (ls2 := [(2, .int 0), (1, .int y5), (0, .ref s_MO)]) rfl (Nat.le_of_ble_eq_true rfl) rfl rfl ?_
  exact eb_pick [2, 1, 0] rfl w
theorem b_X11_readRow_20 {d : Nat} {h0 h : eb_H} {Q : Option Value → eb_H → Prop} (x1 : Int32) (x2 : Int32)  (ko : eb_KO h) (w : (((eb_I h s_m_fresh (2 : Int32).toNatClampNeg) ≤ x2 → Q none h) ∧ (¬ ((eb_I h s_m_fresh (2 : Int32).toNatClampNeg) ≤ x2) → ((¬ (eb_I h s_MO 11) = 0 → Q none h) ∧ ((eb_I h s_MO 11) = 0 → eb_Ct d 168 [.ref s_MO, .int 0, .int 9] h (fun r h3 => ∃ y4, r = some (.int y4) ∧ eb_KO h3 ∧ (vp_in (((11 : Int32) + ((eb_I h s_m_fresh (2 : Int32).toNatClampNeg) * x1)) + x2) 1164) ∧ eb_Sn (d + 1) m_X11_readRow h0 20 [(0, .ref s_MO), (1, .int x1), (2, .int (x2 + 1))] [] (eb_sI h3 s_m_fresh (((11 : Int32) + ((eb_I h s_m_fresh (2 : Int32).toNatClampNeg) * x1)) + x2).toNatClampNeg y4) Q)))))) : eb_Sn (d + 1) m_X11_readRow h0 20 [(0, .ref s_MO), (1, .int x1), (2, .int x2)] [] h Q := by
  refine eb_iload_n (pc := 20) (n := 2) (i := 2) rfl rfl rfl ?_
  refine eb_aload_n (pc := 21) (n := 0) (i := 0) rfl rfl rfl ?_
  refine eb_getR (pc := 22) rfl rfl (by decide) (by decide) rfl (ko_s_MO_4 ko) ?_
  refine eb_iconst (pc := 25) (n := 2) (v := 2) rfl rfl ?_
  refine eb_iaload (pc := 26) rfl rfl (by unfold vp_in; decide) ?_
  refine eb_icmp_ge (pc := 27) (tgt := 68) rfl (by decide) (fun c1 => ?_) (fun c1 => ?_)
  · replace w := w.1 c1
    exact eb_return (pc := 68) rfl rfl w
  · replace w := w.2 c1
    refine eb_aload_n (pc := 30) (n := 0) (i := 0) rfl rfl rfl ?_
    refine eb_getI (pc := 31) rfl rfl (by decide) (by decide) rfl ?_
    refine eb_if_ne (pc := 34) (tgt := 68) rfl (by decide) (fun c2 => ?_) (fun c2 => ?_)
    · replace w := w.1 c2
      exact eb_return (pc := 68) rfl rfl w
    · replace w := w.2 c2
      refine eb_aload_n (pc := 37) (n := 0) (i := 0) rfl rfl rfl ?_
      refine eb_getR (pc := 38) rfl rfl (by decide) (by decide) rfl (ko_s_MO_4 ko) ?_
      refine eb_bipush (pc := 41) (n := 11) (v := 11) rfl rfl ?_
      refine eb_aload_n (pc := 43) (n := 0) (i := 0) rfl rfl rfl ?_
      refine eb_getR (pc := 44) rfl rfl (by decide) (by decide) rfl (ko_s_MO_4 ko) ?_
      refine eb_iconst (pc := 47) (n := 2) (v := 2) rfl rfl ?_
      refine eb_iaload (pc := 48) rfl rfl (by unfold vp_in; decide) ?_
      refine eb_iload_n (pc := 49) (n := 1) (i := 1) rfl rfl rfl ?_
      refine eb_imul (pc := 50) rfl ?_
      refine eb_iadd (pc := 51) rfl ?_
      refine eb_iload_n (pc := 52) (n := 2) (i := 2) rfl rfl rfl ?_
      refine eb_iadd (pc := 53) rfl ?_
      refine eb_aload_n (pc := 54) (n := 0) (i := 0) rfl rfl rfl ?_
      refine eb_iconst (pc := 55) (n := 0) (v := 0) rfl rfl ?_
      refine eb_bipush (pc := 56) (n := 9) (v := 9) rfl rfl ?_
      refine eb_ctV (pc := 58) (As := [.int 0, .int 9]) (rest := [.int (((11 : Int32) + ((eb_I h s_m_fresh (2 : Int32).toNatClampNeg) * x1)) + x2), .ref s_m_fresh]) rfl (by decide) rfl rfl (by decide) rfl (Nat.le_of_ble_eq_true rfl) ?_
      refine eb_Ct.mono w ?_
      rintro r h3 ⟨y4, rfl, ko5, w⟩
      change eb_Sn _ _ _ 61 _ [.int y4, .int (((11 : Int32) + ((eb_I h s_m_fresh (2 : Int32).toNatClampNeg) * x1)) + x2), .ref s_m_fresh] _ _
      obtain ⟨c6, w⟩ := w
      refine eb_iastore (pc := 61) rfl rfl c6 ?_
      refine eb_iinc (pc := 62) (i := 2) (n := 1) (v := x2 + 1) (ls2 := [(2, .int (x2 + 1)), (0, .ref s_MO), (1, .int x1)]) (Nat.le_of_ble_eq_true rfl) rfl rfl rfl rfl ?_
      refine eb_goto (pc := 65) (tgt := 20) rfl (by decide) ?_
      exact eb_pick [1, 2, 0] rfl w
theorem T_X11_readRow {d : Nat} {h : eb_H} {Q : Option Value → eb_H → Prop}   (ko : eb_KO h) (w : eb_Ct d 164 [.ref s_MO] h (fun r h1 => r = none ∧ eb_KO h1 ∧ eb_Ct d 168 [.ref s_MO, .int 0, .int ((eb_I h1 s_m_fresh (1 : Int32).toNatClampNeg) - 1)] h1 (fun r h4 => ∃ y5, r = some (.int y5) ∧ eb_KO h4 ∧ eb_Sn (d + 1) m_X11_readRow h 20 [(0, .ref s_MO), (1, .int y5), (2, .int 0)] [] h4 Q))) : eb_Ct (d + 1) 180 [.ref s_MO] h Q :=
  eb_bodyQ (by decide) ok_X11_readRow (Nat.le_of_ble_eq_true rfl) (b_X11_readRow_0 (h0 := h)   ko w)
theorem b_X11_readThing_0 {d : Nat} {h0 h : eb_H} {Q : Option Value → eb_H → Prop}   (ko : eb_KO h) (w : eb_Ct d 164 [.ref s_MO] h (fun r h1 => r = none ∧ eb_KO h1 ∧ eb_Ct d 179 [.ref s_MO] h1 (fun r h4 => ∃ y5, r = some (.int y5) ∧ eb_KO h4 ∧ eb_Ct d 168 [.ref s_MO, .int 0, .int 6] h4 (fun r h7 => ∃ y8, r = some (.int y8) ∧ eb_KO h7 ∧ ((¬ (eb_I h7 s_MO 11) = 0 → Q none h7) ∧ ((eb_I h7 s_MO 11) = 0 → (vp_in ((34 : Int32) + y5) 1164) ∧ Q none (eb_sI h7 s_m_fresh ((34 : Int32) + y5).toNatClampNeg y8))))))) : eb_Sn (d + 1) m_X11_readThing h0 0 [(0, .ref s_MO)] [] h Q := by
  refine eb_aload_n (pc := 0) (n := 0) (i := 0) rfl rfl rfl ?_
  refine eb_ctV (pc := 1) (As := []) (rest := []) rfl (by decide) rfl rfl (by decide) rfl (Nat.le_of_ble_eq_true rfl) ?_
  refine eb_Ct.mono w ?_
  rintro r h1 ⟨rfl, ko3, w⟩
  change eb_Sn _ _ _ 4 _ [] _ _
  refine eb_aload_n (pc := 4) (n := 0) (i := 0) rfl rfl rfl ?_
  refine eb_ctV (pc := 5) (As := []) (rest := []) rfl (by decide) rfl rfl (by decide) rfl (Nat.le_of_ble_eq_true rfl) ?_
  refine eb_Ct.mono w ?_
  rintro r h4 ⟨y5, rfl, ko6, w⟩
  change eb_Sn _ _ _ 8 _ [.int y5] _ _
  refine eb_istore_n (pc := 8) (n := 1) (i := 1) (ls2 := [(1, .int y5), (0, .ref s_MO)]) rfl (Nat.le_of_ble_eq_true rfl) rfl rfl ?_
  refine eb_aload_n (pc := 9) (n := 0) (i := 0) rfl rfl rfl ?_
  refine eb_iconst (pc := 10) (n := 0) (v := 0) rfl rfl ?_
  refine eb_bipush (pc := 11) (n := 6) (v := 6) rfl rfl ?_
  refine eb_ctV (pc := 13) (As := [.int 0, .int 6]) (rest := []) rfl (by decide) rfl rfl (by decide) rfl (Nat.le_of_ble_eq_true rfl) ?_
  refine eb_Ct.mono w ?_
  rintro r h7 ⟨y8, rfl, ko9, w⟩
  change eb_Sn _ _ _ 16 _ [.int y8] _ _
  refine eb_istore_n (pc := 16) (n := 2) (i := 2) (ls2 := [(2, .int y8), (1, .int y5), (0, .ref s_MO)]) rfl (Nat.le_of_ble_eq_true rfl) rfl rfl ?_
  refine eb_aload_n (pc := 17) (n := 0) (i := 0) rfl rfl rfl ?_
  refine eb_getI (pc := 18) rfl rfl (by decide) (by decide) rfl ?_
  refine eb_if_ne (pc := 21) (tgt := 34) rfl (by decide) (fun c10 => ?_) (fun c10 => ?_)
  · replace w := w.1 c10
    exact eb_return (pc := 34) rfl rfl w
  · replace w := w.2 c10
    refine eb_aload_n (pc := 24) (n := 0) (i := 0) rfl rfl rfl ?_
    refine eb_getR (pc := 25) rfl rfl (by decide) (by decide) rfl (ko_s_MO_4 ko9) ?_
    refine eb_bipush (pc := 28) (n := 34) (v := 34) rfl rfl ?_
    refine eb_iload_n (pc := 30) (n := 1) (i := 1) rfl rfl rfl ?_
    refine eb_iadd (pc := 31) rfl ?_
    refine eb_iload_n (pc := 32) (n := 2) (i := 2) rfl rfl rfl ?_
    obtain ⟨c11, w⟩ := w
    refine eb_iastore (pc := 33) rfl rfl c11 ?_
    exact eb_return (pc := 34) rfl rfl w
theorem T_X11_readThing {d : Nat} {h : eb_H} {Q : Option Value → eb_H → Prop}   (ko : eb_KO h) (w : eb_Ct d 164 [.ref s_MO] h (fun r h1 => r = none ∧ eb_KO h1 ∧ eb_Ct d 179 [.ref s_MO] h1 (fun r h4 => ∃ y5, r = some (.int y5) ∧ eb_KO h4 ∧ eb_Ct d 168 [.ref s_MO, .int 0, .int 6] h4 (fun r h7 => ∃ y8, r = some (.int y8) ∧ eb_KO h7 ∧ ((¬ (eb_I h7 s_MO 11) = 0 → Q none h7) ∧ ((eb_I h7 s_MO 11) = 0 → (vp_in ((34 : Int32) + y5) 1164) ∧ Q none (eb_sI h7 s_m_fresh ((34 : Int32) + y5).toNatClampNeg y8))))))) : eb_Ct (d + 1) 181 [.ref s_MO] h Q :=
  eb_bodyQ (by decide) ok_X11_readThing (Nat.le_of_ble_eq_true rfl) (b_X11_readThing_0 (h0 := h)   ko w)
theorem b_X11_readHouse_0 {d : Nat} {h0 h : eb_H} {Q : Option Value → eb_H → Prop}   (ko : eb_KO h) (w : ((¬ (eb_I h s_m_fresh (4 : Int32).toNatClampNeg) = (4 : Int32) → (((eb_I h s_MO 11) = 0 → eb_Ct d 164 [.ref s_MO] h (fun r h3 => r = none ∧ eb_KO h3 ∧ eb_Ct d 179 [.ref s_MO] h3 (fun r h6 => ∃ y7, r = some (.int y7) ∧ eb_KO h6 ∧ (vp_in ((27 : Int32) + (eb_I h s_m_fresh (4 : Int32).toNatClampNeg)) 1164) ∧ ((¬ (eb_I (eb_sI h6 s_m_fresh ((27 : Int32) + (eb_I h s_m_fresh (4 : Int32).toNatClampNeg)).toNatClampNeg y7) s_MO 11) = 0 → Q none (eb_sI h6 s_m_fresh ((27 : Int32) + (eb_I h s_m_fresh (4 : Int32).toNatClampNeg)).toNatClampNeg y7)) ∧ ((eb_I (eb_sI h6 s_m_fresh ((27 : Int32) + (eb_I h s_m_fresh (4 : Int32).toNatClampNeg)).toNatClampNeg y7) s_MO 11) = 0 → Q none (eb_sI (eb_sI h6 s_m_fresh ((27 : Int32) + (eb_I h s_m_fresh (4 : Int32).toNatClampNeg)).toNatClampNeg y7) s_m_fresh (4 : Int32).toNatClampNeg ((eb_I (eb_sI h6 s_m_fresh ((27 : Int32) + (eb_I h s_m_fresh (4 : Int32).toNatClampNeg)).toNatClampNeg y7) s_m_fresh (4 : Int32).toNatClampNeg) + 1))))))) ∧ (¬ ((eb_I h s_MO 11) = 0) → Q none h))) ∧ ((eb_I h s_m_fresh (4 : Int32).toNatClampNeg) = (4 : Int32) → eb_Ct d 165 [.ref s_MO, .int 4] h (fun r h11 => r = none ∧ eb_KO h11 ∧ (((eb_I h11 s_MO 11) = 0 → eb_Ct d 164 [.ref s_MO] h11 (fun r h15 => r = none ∧ eb_KO h15 ∧ eb_Ct d 179 [.ref s_MO] h15 (fun r h18 => ∃ y19, r = some (.int y19) ∧ eb_KO h18 ∧ (vp_in ((27 : Int32) + (eb_I h s_m_fresh (4 : Int32).toNatClampNeg)) 1164) ∧ ((¬ (eb_I (eb_sI h18 s_m_fresh ((27 : Int32) + (eb_I h s_m_fresh (4 : Int32).toNatClampNeg)).toNatClampNeg y19) s_MO 11) = 0 → Q none (eb_sI h18 s_m_fresh ((27 : Int32) + (eb_I h s_m_fresh (4 : Int32).toNatClampNeg)).toNatClampNeg y19)) ∧ ((eb_I (eb_sI h18 s_m_fresh ((27 : Int32) + (eb_I h s_m_fresh (4 : Int32).toNatClampNeg)).toNatClampNeg y19) s_MO 11) = 0 → Q none (eb_sI (eb_sI h18 s_m_fresh ((27 : Int32) + (eb_I h s_m_fresh (4 : Int32).toNatClampNeg)).toNatClampNeg y19) s_m_fresh (4 : Int32).toNatClampNeg ((eb_I (eb_sI h18 s_m_fresh ((27 : Int32) + (eb_I h s_m_fresh (4 : Int32).toNatClampNeg)).toNatClampNeg y19) s_m_fresh (4 : Int32).toNatClampNeg) + 1))))))) ∧ (¬ ((eb_I h11 s_MO 11) = 0) → Q none h11)))))) : eb_Sn (d + 1) m_X11_readHouse h0 0 [(0, .ref s_MO)] [] h Q := by
  refine eb_aload_n (pc := 0) (n := 0) (i := 0) rfl rfl rfl ?_
  refine eb_getR (pc := 1) rfl rfl (by decide) (by decide) rfl (ko_s_MO_4 ko) ?_
  refine eb_iconst (pc := 4) (n := 4) (v := 4) rfl rfl ?_
  refine eb_iaload (pc := 5) rfl rfl (by unfold vp_in; decide) ?_
  refine eb_istore_n (pc := 6) (n := 1) (i := 1) (ls2 := [(1, .int (eb_I h s_m_fresh (4 : Int32).toNatClampNeg)), (0, .ref s_MO)]) rfl (Nat.le_of_ble_eq_true rfl) rfl rfl ?_
  refine eb_iload_n (pc := 7) (n := 1) (i := 1) rfl rfl rfl ?_
  refine eb_iconst (pc := 8) (n := 4) (v := 4) rfl rfl ?_
  refine eb_icmp_ne (pc := 9) (tgt := 17) rfl (by decide) (fun c1 => ?_) (fun c1 => ?_)
  · replace w := w.1 c1
    refine eb_aload_n (pc := 17) (n := 0) (i := 0) rfl rfl rfl ?_
    refine eb_getI (pc := 18) rfl rfl (by decide) (by decide) rfl ?_
    refine eb_if_eq (pc := 21) (tgt := 25) rfl (by decide) (fun c2 => ?_) (fun c2 => ?_)
    · replace w := w.1 c2
      refine eb_aload_n (pc := 25) (n := 0) (i := 0) rfl rfl rfl ?_
      refine eb_ctV (pc := 26) (As := []) (rest := []) rfl (by decide) rfl rfl (by decide) rfl (Nat.le_of_ble_eq_true rfl) ?_
      refine eb_Ct.mono w ?_
      rintro r h3 ⟨rfl, ko5, w⟩
      change eb_Sn _ _ _ 29 _ [] _ _
      refine eb_aload_n (pc := 29) (n := 0) (i := 0) rfl rfl rfl ?_
      refine eb_getR (pc := 30) rfl rfl (by decide) (by decide) rfl (ko_s_MO_4 ko5) ?_
      refine eb_bipush (pc := 33) (n := 27) (v := 27) rfl rfl ?_
      refine eb_iload_n (pc := 35) (n := 1) (i := 1) rfl rfl rfl ?_
      refine eb_iadd (pc := 36) rfl ?_
      refine eb_aload_n (pc := 37) (n := 0) (i := 0) rfl rfl rfl ?_
      refine eb_ctV (pc := 38) (As := []) (rest := [.int ((27 : Int32) + (eb_I h s_m_fresh (4 : Int32).toNatClampNeg)), .ref s_m_fresh]) rfl (by decide) rfl rfl (by decide) rfl (Nat.le_of_ble_eq_true rfl) ?_
      refine eb_Ct.mono w ?_
      rintro r h6 ⟨y7, rfl, ko8, w⟩
      change eb_Sn _ _ _ 41 _ [.int y7, .int ((27 : Int32) + (eb_I h s_m_fresh (4 : Int32).toNatClampNeg)), .ref s_m_fresh] _ _
      obtain ⟨c9, w⟩ := w
      refine eb_iastore (pc := 41) rfl rfl c9 ?_
      refine eb_aload_n (pc := 42) (n := 0) (i := 0) rfl rfl rfl ?_
      refine eb_getI (pc := 43) rfl rfl (by decide) (by decide) rfl ?_
      refine eb_if_ne (pc := 46) (tgt := 59) rfl (by decide) (fun c10 => ?_) (fun c10 => ?_)
      · replace w := w.1 c10
        exact eb_return (pc := 59) rfl rfl w
      · replace w := w.2 c10
        refine eb_aload_n (pc := 49) (n := 0) (i := 0) rfl rfl rfl ?_
        refine eb_getR (pc := 50) rfl rfl (by decide) (by decide) rfl (ko_s_MO_4 ko8) ?_
        refine eb_iconst (pc := 53) (n := 4) (v := 4) rfl rfl ?_
        refine eb_dup2 (pc := 54) rfl ?_
        refine eb_iaload (pc := 55) rfl rfl (by unfold vp_in; decide) ?_
        refine eb_iconst (pc := 56) (n := 1) (v := 1) rfl rfl ?_
        refine eb_iadd (pc := 57) rfl ?_
        refine eb_iastore (pc := 58) rfl rfl (by unfold vp_in; decide) ?_
        exact eb_return (pc := 59) rfl rfl w
    · replace w := w.2 c2
      exact eb_return (pc := 24) rfl rfl w
  · replace w := w.2 c1
    refine eb_aload_n (pc := 12) (n := 0) (i := 0) rfl rfl rfl ?_
    refine eb_iconst (pc := 13) (n := 4) (v := 4) rfl rfl ?_
    refine eb_ctV (pc := 14) (As := [.int 4]) (rest := []) rfl (by decide) rfl rfl (by decide) rfl (Nat.le_of_ble_eq_true rfl) ?_
    refine eb_Ct.mono w ?_
    rintro r h11 ⟨rfl, ko13, w⟩
    change eb_Sn _ _ _ 17 _ [] _ _
    refine eb_aload_n (pc := 17) (n := 0) (i := 0) rfl rfl rfl ?_
    refine eb_getI (pc := 18) rfl rfl (by decide) (by decide) rfl ?_
    refine eb_if_eq (pc := 21) (tgt := 25) rfl (by decide) (fun c14 => ?_) (fun c14 => ?_)
    · replace w := w.1 c14
      refine eb_aload_n (pc := 25) (n := 0) (i := 0) rfl rfl rfl ?_
      refine eb_ctV (pc := 26) (As := []) (rest := []) rfl (by decide) rfl rfl (by decide) rfl (Nat.le_of_ble_eq_true rfl) ?_
      refine eb_Ct.mono w ?_
      rintro r h15 ⟨rfl, ko17, w⟩
      change eb_Sn _ _ _ 29 _ [] _ _
      refine eb_aload_n (pc := 29) (n := 0) (i := 0) rfl rfl rfl ?_
      refine eb_getR (pc := 30) rfl rfl (by decide) (by decide) rfl (ko_s_MO_4 ko17) ?_
      refine eb_bipush (pc := 33) (n := 27) (v := 27) rfl rfl ?_
      refine eb_iload_n (pc := 35) (n := 1) (i := 1) rfl rfl rfl ?_
      refine eb_iadd (pc := 36) rfl ?_
      refine eb_aload_n (pc := 37) (n := 0) (i := 0) rfl rfl rfl ?_
      refine eb_ctV (pc := 38) (As := []) (rest := [.int ((27 : Int32) + (eb_I h s_m_fresh (4 : Int32).toNatClampNeg)), .ref s_m_fresh]) rfl (by decide) rfl rfl (by decide) rfl (Nat.le_of_ble_eq_true rfl) ?_
      refine eb_Ct.mono w ?_
      rintro r h18 ⟨y19, rfl, ko20, w⟩
      change eb_Sn _ _ _ 41 _ [.int y19, .int ((27 : Int32) + (eb_I h s_m_fresh (4 : Int32).toNatClampNeg)), .ref s_m_fresh] _ _
      obtain ⟨c21, w⟩ := w
      refine eb_iastore (pc := 41) rfl rfl c21 ?_
      refine eb_aload_n (pc := 42) (n := 0) (i := 0) rfl rfl rfl ?_
      refine eb_getI (pc := 43) rfl rfl (by decide) (by decide) rfl ?_
      refine eb_if_ne (pc := 46) (tgt := 59) rfl (by decide) (fun c22 => ?_) (fun c22 => ?_)
      · replace w := w.1 c22
        exact eb_return (pc := 59) rfl rfl w
      · replace w := w.2 c22
        refine eb_aload_n (pc := 49) (n := 0) (i := 0) rfl rfl rfl ?_
        refine eb_getR (pc := 50) rfl rfl (by decide) (by decide) rfl (ko_s_MO_4 ko20) ?_
        refine eb_iconst (pc := 53) (n := 4) (v := 4) rfl rfl ?_
        refine eb_dup2 (pc := 54) rfl ?_
        refine eb_iaload (pc := 55) rfl rfl (by unfold vp_in; decide) ?_
        refine eb_iconst (pc := 56) (n := 1) (v := 1) rfl rfl ?_
        refine eb_iadd (pc := 57) rfl ?_
        refine eb_iastore (pc := 58) rfl rfl (by unfold vp_in; decide) ?_
        exact eb_return (pc := 59) rfl rfl w
    · replace w := w.2 c14
      exact eb_return (pc := 24) rfl rfl w
theorem T_X11_readHouse {d : Nat} {h : eb_H} {Q : Option Value → eb_H → Prop}   (ko : eb_KO h) (w : ((¬ (eb_I h s_m_fresh (4 : Int32).toNatClampNeg) = (4 : Int32) → (((eb_I h s_MO 11) = 0 → eb_Ct d 164 [.ref s_MO] h (fun r h3 => r = none ∧ eb_KO h3 ∧ eb_Ct d 179 [.ref s_MO] h3 (fun r h6 => ∃ y7, r = some (.int y7) ∧ eb_KO h6 ∧ (vp_in ((27 : Int32) + (eb_I h s_m_fresh (4 : Int32).toNatClampNeg)) 1164) ∧ ((¬ (eb_I (eb_sI h6 s_m_fresh ((27 : Int32) + (eb_I h s_m_fresh (4 : Int32).toNatClampNeg)).toNatClampNeg y7) s_MO 11) = 0 → Q none (eb_sI h6 s_m_fresh ((27 : Int32) + (eb_I h s_m_fresh (4 : Int32).toNatClampNeg)).toNatClampNeg y7)) ∧ ((eb_I (eb_sI h6 s_m_fresh ((27 : Int32) + (eb_I h s_m_fresh (4 : Int32).toNatClampNeg)).toNatClampNeg y7) s_MO 11) = 0 → Q none (eb_sI (eb_sI h6 s_m_fresh ((27 : Int32) + (eb_I h s_m_fresh (4 : Int32).toNatClampNeg)).toNatClampNeg y7) s_m_fresh (4 : Int32).toNatClampNeg ((eb_I (eb_sI h6 s_m_fresh ((27 : Int32) + (eb_I h s_m_fresh (4 : Int32).toNatClampNeg)).toNatClampNeg y7) s_m_fresh (4 : Int32).toNatClampNeg) + 1))))))) ∧ (¬ ((eb_I h s_MO 11) = 0) → Q none h))) ∧ ((eb_I h s_m_fresh (4 : Int32).toNatClampNeg) = (4 : Int32) → eb_Ct d 165 [.ref s_MO, .int 4] h (fun r h11 => r = none ∧ eb_KO h11 ∧ (((eb_I h11 s_MO 11) = 0 → eb_Ct d 164 [.ref s_MO] h11 (fun r h15 => r = none ∧ eb_KO h15 ∧ eb_Ct d 179 [.ref s_MO] h15 (fun r h18 => ∃ y19, r = some (.int y19) ∧ eb_KO h18 ∧ (vp_in ((27 : Int32) + (eb_I h s_m_fresh (4 : Int32).toNatClampNeg)) 1164) ∧ ((¬ (eb_I (eb_sI h18 s_m_fresh ((27 : Int32) + (eb_I h s_m_fresh (4 : Int32).toNatClampNeg)).toNatClampNeg y19) s_MO 11) = 0 → Q none (eb_sI h18 s_m_fresh ((27 : Int32) + (eb_I h s_m_fresh (4 : Int32).toNatClampNeg)).toNatClampNeg y19)) ∧ ((eb_I (eb_sI h18 s_m_fresh ((27 : Int32) + (eb_I h s_m_fresh (4 : Int32).toNatClampNeg)).toNatClampNeg y19) s_MO 11) = 0 → Q none (eb_sI (eb_sI h18 s_m_fresh ((27 : Int32) + (eb_I h s_m_fresh (4 : Int32).toNatClampNeg)).toNatClampNeg y19) s_m_fresh (4 : Int32).toNatClampNeg ((eb_I (eb_sI h18 s_m_fresh ((27 : Int32) + (eb_I h s_m_fresh (4 : Int32).toNatClampNeg)).toNatClampNeg y19) s_m_fresh (4 : Int32).toNatClampNeg) + 1))))))) ∧ (¬ ((eb_I h11 s_MO 11) = 0) → Q none h11)))))) : eb_Ct (d + 1) 182 [.ref s_MO] h Q :=
  eb_bodyQ (by decide) ok_X11_readHouse (Nat.le_of_ble_eq_true rfl) (b_X11_readHouse_0 (h0 := h)   ko w)
theorem b_X11_readBat_0 {d : Nat} {h0 h : eb_H} {Q : Option Value → eb_H → Prop}   (ko : eb_KO h) (w : eb_Ct d 164 [.ref s_MO] h (fun r h1 => r = none ∧ eb_KO h1 ∧ eb_Ct d 179 [.ref s_MO] h1 (fun r h4 => ∃ y5, r = some (.int y5) ∧ eb_KO h4 ∧ eb_Sn (d + 1) m_X11_readBat h0 17 [(0, .ref s_MO), (1, .int 0)] [] (eb_sI h4 s_m_fresh (31 : Int32).toNatClampNeg y5) Q))) : eb_Sn (d + 1) m_X11_readBat h0 0 [(0, .ref s_MO)] [] h Q := by
  refine eb_aload_n (pc := 0) (n := 0) (i := 0) rfl rfl rfl ?_
  refine eb_ctV (pc := 1) (As := []) (rest := []) rfl (by decide) rfl rfl (by decide) rfl (Nat.le_of_ble_eq_true rfl) ?_
  refine eb_Ct.mono w ?_
  rintro r h1 ⟨rfl, ko3, w⟩
  change eb_Sn _ _ _ 4 _ [] _ _
  refine eb_aload_n (pc := 4) (n := 0) (i := 0) rfl rfl rfl ?_
  refine eb_getR (pc := 5) rfl rfl (by decide) (by decide) rfl (ko_s_MO_4 ko3) ?_
  refine eb_bipush (pc := 8) (n := 31) (v := 31) rfl rfl ?_
  refine eb_aload_n (pc := 10) (n := 0) (i := 0) rfl rfl rfl ?_
  refine eb_ctV (pc := 11) (As := []) (rest := [.int 31, .ref s_m_fresh]) rfl (by decide) rfl rfl (by decide) rfl (Nat.le_of_ble_eq_true rfl) ?_
  refine eb_Ct.mono w ?_
  rintro r h4 ⟨y5, rfl, ko6, w⟩
  change eb_Sn _ _ _ 14 _ [.int y5, .int 31, .ref s_m_fresh] _ _
  refine eb_iastore (pc := 14) rfl rfl (by unfold vp_in; decide) ?_
  refine eb_iconst (pc := 15) (n := 0) (v := 0) rfl rfl ?_
  refine eb_istore_n (pc := 16) (n := 1) (i := 1) (ls2 := [(1, .int 0), (0, .ref s_MO)]) rfl (Nat.le_of_ble_eq_true rfl) rfl rfl ?_
  exact eb_pick [1, 0] rfl w
theorem b_X11_readBat_17 {d : Nat} {h0 h : eb_H} {Q : Option Value → eb_H → Prop} (x1 : Int32)  (ko : eb_KO h) (w : ((¬ (eb_I h s_MO 11) = 0 → Q none (eb_sI h s_m_fresh (32 : Int32).toNatClampNeg x1)) ∧ ((eb_I h s_MO 11) = 0 → eb_Ct d 166 [.ref s_MO, .int 23] h (fun r h2 => ∃ y3, r = some (.int y3) ∧ eb_KO h2 ∧ ((y3 = 0 → Q none (eb_sI h2 s_m_fresh (32 : Int32).toNatClampNeg x1)) ∧ (¬ (y3 = 0) → eb_Ct d 156 [.long ((eb_I h2 s_MO 10).toInt64), .long 1, .long 6] h2 (fun r h6 => ∃ y7, r = some (.int y7) ∧ eb_KO h6 ∧ ((y7 = 0 → eb_Ct d 168 [.ref s_MO, .int 1, .int 6] h6 (fun r h10 => ∃ y11, r = some (.int y11) ∧ eb_KO h10 ∧ ((¬ (eb_I h10 s_MO 11) = 0 → eb_Sn (d + 1) m_X11_readBat h0 17 [(0, .ref s_MO), (1, .int x1)] [] h10 Q) ∧ ((eb_I h10 s_MO 11) = 0 → eb_Sn (d + 1) m_X11_readBat h0 17 [(0, .ref s_MO), (1, .int (x1 ||| ((1 : Int32) <<< ((y11 - 1) &&& 31))))] [] h10 Q)))) ∧ (¬ (y7 = 0) → eb_Ct d 169 [.long x1.toInt64, .int ((eb_I h6 s_MO 10) - 1)] h6 (fun r h14 => ∃ y15, r = some (.int y15) ∧ eb_KO h14 ∧ ((¬ y15 = 0 → eb_Ct d 168 [.ref s_MO, .int 1, .int 6] h14 (fun r h18 => ∃ y19, r = some (.int y19) ∧ eb_KO h18 ∧ ((¬ (eb_I h18 s_MO 11) = 0 → eb_Sn (d + 1) m_X11_readBat h0 17 [(0, .ref s_MO), (1, .int x1)] [] h18 Q) ∧ ((eb_I h18 s_MO 11) = 0 → eb_Sn (d + 1) m_X11_readBat h0 17 [(0, .ref s_MO), (1, .int (x1 ||| ((1 : Int32) <<< ((y19 - 1) &&& 31))))] [] h18 Q)))) ∧ (y15 = 0 → eb_Ct d 194 [.int x1] h14 (fun r h22 => ∃ y23, r = some (.int y23) ∧ eb_KO h22 ∧ ((¬ y23 = (eb_I h22 s_m_fresh (3 : Int32).toNatClampNeg) → eb_Ct d 168 [.ref s_MO, .int 1, .int 6] h22 (fun r h26 => ∃ y27, r = some (.int y27) ∧ eb_KO h26 ∧ ((¬ (eb_I h26 s_MO 11) = 0 → eb_Sn (d + 1) m_X11_readBat h0 17 [(0, .ref s_MO), (1, .int x1)] [] h26 Q) ∧ ((eb_I h26 s_MO 11) = 0 → eb_Sn (d + 1) m_X11_readBat h0 17 [(0, .ref s_MO), (1, .int (x1 ||| ((1 : Int32) <<< ((y27 - 1) &&& 31))))] [] h26 Q)))) ∧ (y23 = (eb_I h22 s_m_fresh (3 : Int32).toNatClampNeg) → eb_Ct d 165 [.ref s_MO, .int 3] h22 (fun r h30 => r = none ∧ eb_KO h30 ∧ eb_Ct d 168 [.ref s_MO, .int 1, .int 6] h30 (fun r h33 => ∃ y34, r = some (.int y34) ∧ eb_KO h33 ∧ ((¬ (eb_I h33 s_MO 11) = 0 → eb_Sn (d + 1) m_X11_readBat h0 17 [(0, .ref s_MO), (1, .int x1)] [] h33 Q) ∧ ((eb_I h33 s_MO 11) = 0 → eb_Sn (d + 1) m_X11_readBat h0 17 [(0, .ref s_MO), (1, .int (x1 ||| ((1 : Int32) <<< ((y34 - 1) &&& 31))))] [] h33 Q))))))))))))))))))) : eb_Sn (d + 1) m_X11_readBat h0 17 [(0, .ref s_MO), (1, .int x1)] [] h Q := by
  refine eb_aload_n (pc := 17) (n := 0) (i := 0) rfl rfl rfl ?_
  refine eb_getI (pc := 18) rfl rfl (by decide) (by decide) rfl ?_
  refine eb_if_ne (pc := 21) (tgt := 106) rfl (by decide) (fun c1 => ?_) (fun c1 => ?_)
  · replace w := w.1 c1
    refine eb_aload_n (pc := 106) (n := 0) (i := 0) rfl rfl rfl ?_
    refine eb_getR (pc := 107) rfl rfl (by decide) (by decide) rfl (ko_s_MO_4 ko) ?_
    refine eb_bipush (pc := 110) (n := 32) (v := 32) rfl rfl ?_
    refine eb_iload_n (pc := 112) (n := 1) (i := 1) rfl rfl rfl ?_
    refine eb_iastore (pc := 113) rfl rfl (by unfold vp_in; decide) ?_
    exact eb_return (pc := 114) rfl rfl w
  · replace w := w.2 c1
    refine eb_aload_n (pc := 24) (n := 0) (i := 0) rfl rfl rfl ?_
    refine eb_bipush (pc := 25) (n := 23) (v := 23) rfl rfl ?_
    refine eb_ctV (pc := 27) (As := [.int 23]) (rest := []) rfl (by decide) rfl rfl (by decide) rfl (Nat.le_of_ble_eq_true rfl) ?_
    refine eb_Ct.mono w ?_
    rintro r h2 ⟨y3, rfl, ko4, w⟩
    change eb_Sn _ _ _ 30 _ [.int y3] _ _
    refine eb_if_eq (pc := 30) (tgt := 106) rfl (by decide) (fun c5 => ?_) (fun c5 => ?_)
    · replace w := w.1 c5
      refine eb_aload_n (pc := 106) (n := 0) (i := 0) rfl rfl rfl ?_
      refine eb_getR (pc := 107) rfl rfl (by decide) (by decide) rfl (ko_s_MO_4 ko4) ?_
      refine eb_bipush (pc := 110) (n := 32) (v := 32) rfl rfl ?_
      refine eb_iload_n (pc := 112) (n := 1) (i := 1) rfl rfl rfl ?_
      refine eb_iastore (pc := 113) rfl rfl (by unfold vp_in; decide) ?_
      exact eb_return (pc := 114) rfl rfl w
    · replace w := w.2 c5
      refine eb_aload_n (pc := 33) (n := 0) (i := 0) rfl rfl rfl ?_
      refine eb_getI (pc := 34) rfl rfl (by decide) (by decide) rfl ?_
      refine eb_i2l (pc := 37) rfl ?_
      refine eb_lconst (pc := 38) (n := 1) (v := 1) rfl rfl ?_
      refine eb_ldc2 (pc := 39) (a := 6) (v := 6) rfl (by decide) ?_
      refine eb_ctS (pc := 42) (As := [.long ((eb_I h2 s_MO 10).toInt64), .long 1, .long 6]) (rest := []) rfl (by decide) (by decide) rfl rfl (Nat.le_of_ble_eq_true rfl) ?_
      refine eb_Ct.mono w ?_
      rintro r h6 ⟨y7, rfl, ko8, w⟩
      change eb_Sn _ _ _ 45 _ [.int y7] _ _
      refine eb_if_eq (pc := 45) (tgt := 80) rfl (by decide) (fun c9 => ?_) (fun c9 => ?_)
      · replace w := w.1 c9
        refine eb_aload_n (pc := 80) (n := 0) (i := 0) rfl rfl rfl ?_
        refine eb_iconst (pc := 81) (n := 1) (v := 1) rfl rfl ?_
        refine eb_bipush (pc := 82) (n := 6) (v := 6) rfl rfl ?_
        refine eb_ctV (pc := 84) (As := [.int 1, .int 6]) (rest := []) rfl (by decide) rfl rfl (by decide) rfl (Nat.le_of_ble_eq_true rfl) ?_
        refine eb_Ct.mono w ?_
        rintro r h10 ⟨y11, rfl, ko12, w⟩
        change eb_Sn _ _ _ 87 _ [.int y11] _ _
        refine eb_istore_n (pc := 87) (n := 2) (i := 2) (ls2 := [(2, .int y11), (0, .ref s_MO), (1, .int x1)]) rfl (Nat.le_of_ble_eq_true rfl) rfl rfl ?_
        refine eb_aload_n (pc := 88) (n := 0) (i := 0) rfl rfl rfl ?_
        refine eb_getI (pc := 89) rfl rfl (by decide) (by decide) rfl ?_
        refine eb_if_ne (pc := 92) (tgt := 103) rfl (by decide) (fun c13 => ?_) (fun c13 => ?_)
        · replace w := w.1 c13
          refine eb_goto (pc := 103) (tgt := 17) rfl (by decide) ?_
          exact eb_pick [1, 2] rfl w
        · replace w := w.2 c13
          refine eb_iload_n (pc := 95) (n := 1) (i := 1) rfl rfl rfl ?_
          refine eb_iconst (pc := 96) (n := 1) (v := 1) rfl rfl ?_
          refine eb_iload_n (pc := 97) (n := 2) (i := 2) rfl rfl rfl ?_
          refine eb_iconst (pc := 98) (n := 1) (v := 1) rfl rfl ?_
          refine eb_isub (pc := 99) rfl ?_
          refine eb_ishl (pc := 100) rfl ?_
          refine eb_ior (pc := 101) rfl ?_
          refine eb_istore_n (pc := 102) (n := 1) (i := 1) (ls2 := [(1, .int (x1 ||| ((1 : Int32) <<< ((y11 - 1) &&& 31)))), (2, .int y11), (0, .ref s_MO)]) rfl (Nat.le_of_ble_eq_true rfl) rfl rfl ?_
          refine eb_goto (pc := 103) (tgt := 17) rfl (by decide) ?_
          exact eb_pick [2, 0] rfl w
      · replace w := w.2 c9
        refine eb_iload_n (pc := 48) (n := 1) (i := 1) rfl rfl rfl ?_
        refine eb_i2l (pc := 49) rfl ?_
        refine eb_aload_n (pc := 50) (n := 0) (i := 0) rfl rfl rfl ?_
        refine eb_getI (pc := 51) rfl rfl (by decide) (by decide) rfl ?_
        refine eb_iconst (pc := 54) (n := 1) (v := 1) rfl rfl ?_
        refine eb_isub (pc := 55) rfl ?_
        refine eb_ctS (pc := 56) (As := [.long x1.toInt64, .int ((eb_I h6 s_MO 10) - 1)]) (rest := []) rfl (by decide) (by decide) rfl rfl (Nat.le_of_ble_eq_true rfl) ?_
        refine eb_Ct.mono w ?_
        rintro r h14 ⟨y15, rfl, ko16, w⟩
        change eb_Sn _ _ _ 59 _ [.int y15] _ _
        refine eb_if_ne (pc := 59) (tgt := 80) rfl (by decide) (fun c17 => ?_) (fun c17 => ?_)
        · replace w := w.1 c17
          refine eb_aload_n (pc := 80) (n := 0) (i := 0) rfl rfl rfl ?_
          refine eb_iconst (pc := 81) (n := 1) (v := 1) rfl rfl ?_
          refine eb_bipush (pc := 82) (n := 6) (v := 6) rfl rfl ?_
          refine eb_ctV (pc := 84) (As := [.int 1, .int 6]) (rest := []) rfl (by decide) rfl rfl (by decide) rfl (Nat.le_of_ble_eq_true rfl) ?_
          refine eb_Ct.mono w ?_
          rintro r h18 ⟨y19, rfl, ko20, w⟩
          change eb_Sn _ _ _ 87 _ [.int y19] _ _
          refine eb_istore_n (pc := 87) (n := 2) (i := 2) (ls2 := [(2, .int y19), (0, .ref s_MO), (1, .int x1)]) rfl (Nat.le_of_ble_eq_true rfl) rfl rfl ?_
          refine eb_aload_n (pc := 88) (n := 0) (i := 0) rfl rfl rfl ?_
          refine eb_getI (pc := 89) rfl rfl (by decide) (by decide) rfl ?_
          refine eb_if_ne (pc := 92) (tgt := 103) rfl (by decide) (fun c21 => ?_) (fun c21 => ?_)
          · replace w := w.1 c21
            refine eb_goto (pc := 103) (tgt := 17) rfl (by decide) ?_
            exact eb_pick [1, 2] rfl w
          · replace w := w.2 c21
            refine eb_iload_n (pc := 95) (n := 1) (i := 1) rfl rfl rfl ?_
            refine eb_iconst (pc := 96) (n := 1) (v := 1) rfl rfl ?_
            refine eb_iload_n (pc := 97) (n := 2) (i := 2) rfl rfl rfl ?_
            refine eb_iconst (pc := 98) (n := 1) (v := 1) rfl rfl ?_
            refine eb_isub (pc := 99) rfl ?_
            refine eb_ishl (pc := 100) rfl ?_
            refine eb_ior (pc := 101) rfl ?_
            refine eb_istore_n (pc := 102) (n := 1) (i := 1) (ls2 := [(1, .int (x1 ||| ((1 : Int32) <<< ((y19 - 1) &&& 31)))), (2, .int y19), (0, .ref s_MO)]) rfl (Nat.le_of_ble_eq_true rfl) rfl rfl ?_
            refine eb_goto (pc := 103) (tgt := 17) rfl (by decide) ?_
            exact eb_pick [2, 0] rfl w
        · replace w := w.2 c17
          refine eb_iload_n (pc := 62) (n := 1) (i := 1) rfl rfl rfl ?_
          refine eb_ctS (pc := 63) (As := [.int x1]) (rest := []) rfl (by decide) (by decide) rfl rfl (Nat.le_of_ble_eq_true rfl) ?_
          refine eb_Ct.mono w ?_
          rintro r h22 ⟨y23, rfl, ko24, w⟩
          change eb_Sn _ _ _ 66 _ [.int y23] _ _
          refine eb_aload_n (pc := 66) (n := 0) (i := 0) rfl rfl rfl ?_
          refine eb_getR (pc := 67) rfl rfl (by decide) (by decide) rfl (ko_s_MO_4 ko24) ?_
          refine eb_iconst (pc := 70) (n := 3) (v := 3) rfl rfl ?_
          refine eb_iaload (pc := 71) rfl rfl (by unfold vp_in; decide) ?_
          refine eb_icmp_ne (pc := 72) (tgt := 80) rfl (by decide) (fun c25 => ?_) (fun c25 => ?_)
          · replace w := w.1 c25
            refine eb_aload_n (pc := 80) (n := 0) (i := 0) rfl rfl rfl ?_
            refine eb_iconst (pc := 81) (n := 1) (v := 1) rfl rfl ?_
            refine eb_bipush (pc := 82) (n := 6) (v := 6) rfl rfl ?_
            refine eb_ctV (pc := 84) (As := [.int 1, .int 6]) (rest := []) rfl (by decide) rfl rfl (by decide) rfl (Nat.le_of_ble_eq_true rfl) ?_
            refine eb_Ct.mono w ?_
            rintro r h26 ⟨y27, rfl, ko28, w⟩
            change eb_Sn _ _ _ 87 _ [.int y27] _ _
            refine eb_istore_n (pc := 87) (n := 2) (i := 2) (ls2 := [(2, .int y27), (0, .ref s_MO), (1, .int x1)]) rfl (Nat.le_of_ble_eq_true rfl) rfl rfl ?_
            refine eb_aload_n (pc := 88) (n := 0) (i := 0) rfl rfl rfl ?_
            refine eb_getI (pc := 89) rfl rfl (by decide) (by decide) rfl ?_
            refine eb_if_ne (pc := 92) (tgt := 103) rfl (by decide) (fun c29 => ?_) (fun c29 => ?_)
            · replace w := w.1 c29
              refine eb_goto (pc := 103) (tgt := 17) rfl (by decide) ?_
              exact eb_pick [1, 2] rfl w
            · replace w := w.2 c29
              refine eb_iload_n (pc := 95) (n := 1) (i := 1) rfl rfl rfl ?_
              refine eb_iconst (pc := 96) (n := 1) (v := 1) rfl rfl ?_
              refine eb_iload_n (pc := 97) (n := 2) (i := 2) rfl rfl rfl ?_
              refine eb_iconst (pc := 98) (n := 1) (v := 1) rfl rfl ?_
              refine eb_isub (pc := 99) rfl ?_
              refine eb_ishl (pc := 100) rfl ?_
              refine eb_ior (pc := 101) rfl ?_
              refine eb_istore_n (pc := 102) (n := 1) (i := 1) (ls2 := [(1, .int (x1 ||| ((1 : Int32) <<< ((y27 - 1) &&& 31)))), (2, .int y27), (0, .ref s_MO)]) rfl (Nat.le_of_ble_eq_true rfl) rfl rfl ?_
              refine eb_goto (pc := 103) (tgt := 17) rfl (by decide) ?_
              exact eb_pick [2, 0] rfl w
          · replace w := w.2 c25
            refine eb_aload_n (pc := 75) (n := 0) (i := 0) rfl rfl rfl ?_
            refine eb_iconst (pc := 76) (n := 3) (v := 3) rfl rfl ?_
            refine eb_ctV (pc := 77) (As := [.int 3]) (rest := []) rfl (by decide) rfl rfl (by decide) rfl (Nat.le_of_ble_eq_true rfl) ?_
            refine eb_Ct.mono w ?_
            rintro r h30 ⟨rfl, ko32, w⟩
            change eb_Sn _ _ _ 80 _ [] _ _
            refine eb_aload_n (pc := 80) (n := 0) (i := 0) rfl rfl rfl ?_
            refine eb_iconst (pc := 81) (n := 1) (v := 1) rfl rfl ?_
            refine eb_bipush (pc := 82) (n := 6) (v := 6) rfl rfl ?_
            refine eb_ctV (pc := 84) (As := [.int 1, .int 6]) (rest := []) rfl (by decide) rfl rfl (by decide) rfl (Nat.le_of_ble_eq_true rfl) ?_
            refine eb_Ct.mono w ?_
            rintro r h33 ⟨y34, rfl, ko35, w⟩
            change eb_Sn _ _ _ 87 _ [.int y34] _ _
            refine eb_istore_n (pc := 87) (n := 2) (i := 2) (ls2 := [(2, .int y34), (0, .ref s_MO), (1, .int x1)]) rfl (Nat.le_of_ble_eq_true rfl) rfl rfl ?_
            refine eb_aload_n (pc := 88) (n := 0) (i := 0) rfl rfl rfl ?_
            refine eb_getI (pc := 89) rfl rfl (by decide) (by decide) rfl ?_
            refine eb_if_ne (pc := 92) (tgt := 103) rfl (by decide) (fun c36 => ?_) (fun c36 => ?_)
            · replace w := w.1 c36
              refine eb_goto (pc := 103) (tgt := 17) rfl (by decide) ?_
              exact eb_pick [1, 2] rfl w
            · replace w := w.2 c36
              refine eb_iload_n (pc := 95) (n := 1) (i := 1) rfl rfl rfl ?_
              refine eb_iconst (pc := 96) (n := 1) (v := 1) rfl rfl ?_
              refine eb_iload_n (pc := 97) (n := 2) (i := 2) rfl rfl rfl ?_
              refine eb_iconst (pc := 98) (n := 1) (v := 1) rfl rfl ?_
              refine eb_isub (pc := 99) rfl ?_
              refine eb_ishl (pc := 100) rfl ?_
              refine eb_ior (pc := 101) rfl ?_
              refine eb_istore_n (pc := 102) (n := 1) (i := 1) (ls2 := [(1, .int (x1 ||| ((1 : Int32) <<< ((y34 - 1) &&& 31)))), (2, .int y34), (0, .ref s_MO)]) rfl (Nat.le_of_ble_eq_true rfl) rfl rfl ?_
              refine eb_goto (pc := 103) (tgt := 17) rfl (by decide) ?_
              exact eb_pick [2, 0] rfl w
theorem T_X11_readBat {d : Nat} {h : eb_H} {Q : Option Value → eb_H → Prop}   (ko : eb_KO h) (w : eb_Ct d 164 [.ref s_MO] h (fun r h1 => r = none ∧ eb_KO h1 ∧ eb_Ct d 179 [.ref s_MO] h1 (fun r h4 => ∃ y5, r = some (.int y5) ∧ eb_KO h4 ∧ eb_Sn (d + 1) m_X11_readBat h 17 [(0, .ref s_MO), (1, .int 0)] [] (eb_sI h4 s_m_fresh (31 : Int32).toNatClampNeg y5) Q))) : eb_Ct (d + 1) 183 [.ref s_MO] h Q :=
  eb_bodyQ (by decide) ok_X11_readBat (Nat.le_of_ble_eq_true rfl) (b_X11_readBat_0 (h0 := h)   ko w)
theorem b_X11_readLaw_0 {d : Nat} {h0 h : eb_H} {Q : Option Value → eb_H → Prop} (x1 : Int32)  (ko : eb_KO h) (w : eb_Ct d 164 [.ref s_MO] h (fun r h1 => r = none ∧ eb_KO h1 ∧ eb_Ct d 167 [.ref s_MO, .int 31] h1 (fun r h4 => ∃ y5, r = some (.int y5) ∧ eb_KO h4 ∧ ((¬ y5 = 0 → eb_Ct d 178 [.ref s_MO, .int 0] (eb_sI h4 s_MO 15 x1) (fun r h8 => r = none ∧ eb_KO h8 ∧ (((eb_I h8 s_MO 11) = 0 → (vp_in ((5 : Int32) + x1) 1164) ∧ (vp_in ((7 : Int32) + x1) 1164) ∧ (vp_in ((9 : Int32) + x1) 1164) ∧ Q none (eb_sI (eb_sI (eb_sI h8 s_m_fresh ((5 : Int32) + x1).toNatClampNeg 1) s_m_fresh ((7 : Int32) + x1).toNatClampNeg (eb_I h4 s_m_fresh (263 : Int32).toNatClampNeg)) s_m_fresh ((9 : Int32) + x1).toNatClampNeg ((eb_I (eb_sI (eb_sI h8 s_m_fresh ((5 : Int32) + x1).toNatClampNeg 1) s_m_fresh ((7 : Int32) + x1).toNatClampNeg (eb_I h4 s_m_fresh (263 : Int32).toNatClampNeg)) s_m_fresh (263 : Int32).toNatClampNeg) - (eb_I h4 s_m_fresh (263 : Int32).toNatClampNeg)))) ∧ (¬ ((eb_I h8 s_MO 11) = 0) → Q none h8)))) ∧ (y5 = 0 → eb_Ct d 165 [.ref s_MO, .int 2] h4 (fun r h15 => r = none ∧ eb_KO h15 ∧ eb_Ct d 178 [.ref s_MO, .int 0] (eb_sI h15 s_MO 15 x1) (fun r h18 => r = none ∧ eb_KO h18 ∧ (((eb_I h18 s_MO 11) = 0 → (vp_in ((5 : Int32) + x1) 1164) ∧ (vp_in ((7 : Int32) + x1) 1164) ∧ (vp_in ((9 : Int32) + x1) 1164) ∧ Q none (eb_sI (eb_sI (eb_sI h18 s_m_fresh ((5 : Int32) + x1).toNatClampNeg 1) s_m_fresh ((7 : Int32) + x1).toNatClampNeg (eb_I h15 s_m_fresh (263 : Int32).toNatClampNeg)) s_m_fresh ((9 : Int32) + x1).toNatClampNeg ((eb_I (eb_sI (eb_sI h18 s_m_fresh ((5 : Int32) + x1).toNatClampNeg 1) s_m_fresh ((7 : Int32) + x1).toNatClampNeg (eb_I h15 s_m_fresh (263 : Int32).toNatClampNeg)) s_m_fresh (263 : Int32).toNatClampNeg) - (eb_I h15 s_m_fresh (263 : Int32).toNatClampNeg)))) ∧ (¬ ((eb_I h18 s_MO 11) = 0) → Q none h18))))))))) : eb_Sn (d + 1) m_X11_readLaw h0 0 [(0, .ref s_MO), (1, .int x1)] [] h Q := by
  refine eb_aload_n (pc := 0) (n := 0) (i := 0) rfl rfl rfl ?_
  refine eb_ctV (pc := 1) (As := []) (rest := []) rfl (by decide) rfl rfl (by decide) rfl (Nat.le_of_ble_eq_true rfl) ?_
  refine eb_Ct.mono w ?_
  rintro r h1 ⟨rfl, ko3, w⟩
  change eb_Sn _ _ _ 4 _ [] _ _
  refine eb_aload_n (pc := 4) (n := 0) (i := 0) rfl rfl rfl ?_
  refine eb_bipush (pc := 5) (n := 31) (v := 31) rfl rfl ?_
  refine eb_ctV (pc := 7) (As := [.int 31]) (rest := []) rfl (by decide) rfl rfl (by decide) rfl (Nat.le_of_ble_eq_true rfl) ?_
  refine eb_Ct.mono w ?_
  rintro r h4 ⟨y5, rfl, ko6, w⟩
  change eb_Sn _ _ _ 10 _ [.int y5] _ _
  refine eb_if_ne (pc := 10) (tgt := 18) rfl (by decide) (fun c7 => ?_) (fun c7 => ?_)
  · replace w := w.1 c7
    refine eb_aload_n (pc := 18) (n := 0) (i := 0) rfl rfl rfl ?_
    refine eb_getR (pc := 19) rfl rfl (by decide) (by decide) rfl (ko_s_MO_4 ko6) ?_
    refine eb_sipush (pc := 22) (n := 263) (v := 263) rfl rfl ?_
    refine eb_iaload (pc := 25) rfl rfl (by unfold vp_in; decide) ?_
    refine eb_istore_n (pc := 26) (n := 2) (i := 2) (ls2 := [(2, .int (eb_I h4 s_m_fresh (263 : Int32).toNatClampNeg)), (0, .ref s_MO), (1, .int x1)]) rfl (Nat.le_of_ble_eq_true rfl) rfl rfl ?_
    refine eb_aload_n (pc := 27) (n := 0) (i := 0) rfl rfl rfl ?_
    refine eb_iload_n (pc := 28) (n := 1) (i := 1) rfl rfl rfl ?_
    refine eb_putI (pc := 29) rfl rfl (by decide) (by decide) rfl rfl ⟨rfl, rfl⟩ ?_
    refine eb_aload_n (pc := 32) (n := 0) (i := 0) rfl rfl rfl ?_
    refine eb_iconst (pc := 33) (n := 0) (v := 0) rfl rfl ?_
    refine eb_ctV (pc := 34) (As := [.int 0]) (rest := []) rfl (by decide) rfl rfl (by decide) rfl (Nat.le_of_ble_eq_true rfl) ?_
    refine eb_Ct.mono w ?_
    rintro r h8 ⟨rfl, ko10, w⟩
    change eb_Sn _ _ _ 37 _ [] _ _
    refine eb_aload_n (pc := 37) (n := 0) (i := 0) rfl rfl rfl ?_
    refine eb_getI (pc := 38) rfl rfl (by decide) (by decide) rfl ?_
    refine eb_if_eq (pc := 41) (tgt := 45) rfl (by decide) (fun c11 => ?_) (fun c11 => ?_)
    · replace w := w.1 c11
      refine eb_aload_n (pc := 45) (n := 0) (i := 0) rfl rfl rfl ?_
      refine eb_getR (pc := 46) rfl rfl (by decide) (by decide) rfl (ko_s_MO_4 ko10) ?_
      refine eb_iconst (pc := 49) (n := 5) (v := 5) rfl rfl ?_
      refine eb_iload_n (pc := 50) (n := 1) (i := 1) rfl rfl rfl ?_
      refine eb_iadd (pc := 51) rfl ?_
      refine eb_iconst (pc := 52) (n := 1) (v := 1) rfl rfl ?_
      obtain ⟨c12, w⟩ := w
      refine eb_iastore (pc := 53) rfl rfl c12 ?_
      refine eb_aload_n (pc := 54) (n := 0) (i := 0) rfl rfl rfl ?_
      refine eb_getR (pc := 55) rfl rfl (by decide) (by decide) rfl (ko_s_MO_4 ko10) ?_
      refine eb_bipush (pc := 58) (n := 7) (v := 7) rfl rfl ?_
      refine eb_iload_n (pc := 60) (n := 1) (i := 1) rfl rfl rfl ?_
      refine eb_iadd (pc := 61) rfl ?_
      refine eb_iload_n (pc := 62) (n := 2) (i := 2) rfl rfl rfl ?_
      obtain ⟨c13, w⟩ := w
      refine eb_iastore (pc := 63) rfl rfl c13 ?_
      refine eb_aload_n (pc := 64) (n := 0) (i := 0) rfl rfl rfl ?_
      refine eb_getR (pc := 65) rfl rfl (by decide) (by decide) rfl (ko_s_MO_4 ko10) ?_
      refine eb_bipush (pc := 68) (n := 9) (v := 9) rfl rfl ?_
      refine eb_iload_n (pc := 70) (n := 1) (i := 1) rfl rfl rfl ?_
      refine eb_iadd (pc := 71) rfl ?_
      refine eb_aload_n (pc := 72) (n := 0) (i := 0) rfl rfl rfl ?_
      refine eb_getR (pc := 73) rfl rfl (by decide) (by decide) rfl (ko_s_MO_4 ko10) ?_
      refine eb_sipush (pc := 76) (n := 263) (v := 263) rfl rfl ?_
      refine eb_iaload (pc := 79) rfl rfl (by unfold vp_in; decide) ?_
      refine eb_iload_n (pc := 80) (n := 2) (i := 2) rfl rfl rfl ?_
      refine eb_isub (pc := 81) rfl ?_
      obtain ⟨c14, w⟩ := w
      refine eb_iastore (pc := 82) rfl rfl c14 ?_
      exact eb_return (pc := 83) rfl rfl w
    · replace w := w.2 c11
      exact eb_return (pc := 44) rfl rfl w
  · replace w := w.2 c7
    refine eb_aload_n (pc := 13) (n := 0) (i := 0) rfl rfl rfl ?_
    refine eb_iconst (pc := 14) (n := 2) (v := 2) rfl rfl ?_
    refine eb_ctV (pc := 15) (As := [.int 2]) (rest := []) rfl (by decide) rfl rfl (by decide) rfl (Nat.le_of_ble_eq_true rfl) ?_
    refine eb_Ct.mono w ?_
    rintro r h15 ⟨rfl, ko17, w⟩
    change eb_Sn _ _ _ 18 _ [] _ _
    refine eb_aload_n (pc := 18) (n := 0) (i := 0) rfl rfl rfl ?_
    refine eb_getR (pc := 19) rfl rfl (by decide) (by decide) rfl (ko_s_MO_4 ko17) ?_
    refine eb_sipush (pc := 22) (n := 263) (v := 263) rfl rfl ?_
    refine eb_iaload (pc := 25) rfl rfl (by unfold vp_in; decide) ?_
    refine eb_istore_n (pc := 26) (n := 2) (i := 2) (ls2 := [(2, .int (eb_I h15 s_m_fresh (263 : Int32).toNatClampNeg)), (0, .ref s_MO), (1, .int x1)]) rfl (Nat.le_of_ble_eq_true rfl) rfl rfl ?_
    refine eb_aload_n (pc := 27) (n := 0) (i := 0) rfl rfl rfl ?_
    refine eb_iload_n (pc := 28) (n := 1) (i := 1) rfl rfl rfl ?_
    refine eb_putI (pc := 29) rfl rfl (by decide) (by decide) rfl rfl ⟨rfl, rfl⟩ ?_
    refine eb_aload_n (pc := 32) (n := 0) (i := 0) rfl rfl rfl ?_
    refine eb_iconst (pc := 33) (n := 0) (v := 0) rfl rfl ?_
    refine eb_ctV (pc := 34) (As := [.int 0]) (rest := []) rfl (by decide) rfl rfl (by decide) rfl (Nat.le_of_ble_eq_true rfl) ?_
    refine eb_Ct.mono w ?_
    rintro r h18 ⟨rfl, ko20, w⟩
    change eb_Sn _ _ _ 37 _ [] _ _
    refine eb_aload_n (pc := 37) (n := 0) (i := 0) rfl rfl rfl ?_
    refine eb_getI (pc := 38) rfl rfl (by decide) (by decide) rfl ?_
    refine eb_if_eq (pc := 41) (tgt := 45) rfl (by decide) (fun c21 => ?_) (fun c21 => ?_)
    · replace w := w.1 c21
      refine eb_aload_n (pc := 45) (n := 0) (i := 0) rfl rfl rfl ?_
      refine eb_getR (pc := 46) rfl rfl (by decide) (by decide) rfl (ko_s_MO_4 ko20) ?_
      refine eb_iconst (pc := 49) (n := 5) (v := 5) rfl rfl ?_
      refine eb_iload_n (pc := 50) (n := 1) (i := 1) rfl rfl rfl ?_
      refine eb_iadd (pc := 51) rfl ?_
      refine eb_iconst (pc := 52) (n := 1) (v := 1) rfl rfl ?_
      obtain ⟨c22, w⟩ := w
      refine eb_iastore (pc := 53) rfl rfl c22 ?_
      refine eb_aload_n (pc := 54) (n := 0) (i := 0) rfl rfl rfl ?_
      refine eb_getR (pc := 55) rfl rfl (by decide) (by decide) rfl (ko_s_MO_4 ko20) ?_
      refine eb_bipush (pc := 58) (n := 7) (v := 7) rfl rfl ?_
      refine eb_iload_n (pc := 60) (n := 1) (i := 1) rfl rfl rfl ?_
      refine eb_iadd (pc := 61) rfl ?_
      refine eb_iload_n (pc := 62) (n := 2) (i := 2) rfl rfl rfl ?_
      obtain ⟨c23, w⟩ := w
      refine eb_iastore (pc := 63) rfl rfl c23 ?_
      refine eb_aload_n (pc := 64) (n := 0) (i := 0) rfl rfl rfl ?_
      refine eb_getR (pc := 65) rfl rfl (by decide) (by decide) rfl (ko_s_MO_4 ko20) ?_
      refine eb_bipush (pc := 68) (n := 9) (v := 9) rfl rfl ?_
      refine eb_iload_n (pc := 70) (n := 1) (i := 1) rfl rfl rfl ?_
      refine eb_iadd (pc := 71) rfl ?_
      refine eb_aload_n (pc := 72) (n := 0) (i := 0) rfl rfl rfl ?_
      refine eb_getR (pc := 73) rfl rfl (by decide) (by decide) rfl (ko_s_MO_4 ko20) ?_
      refine eb_sipush (pc := 76) (n := 263) (v := 263) rfl rfl ?_
      refine eb_iaload (pc := 79) rfl rfl (by unfold vp_in; decide) ?_
      refine eb_iload_n (pc := 80) (n := 2) (i := 2) rfl rfl rfl ?_
      refine eb_isub (pc := 81) rfl ?_
      obtain ⟨c24, w⟩ := w
      refine eb_iastore (pc := 82) rfl rfl c24 ?_
      exact eb_return (pc := 83) rfl rfl w
    · replace w := w.2 c21
      exact eb_return (pc := 44) rfl rfl w
theorem T_X11_readLaw {d : Nat} {h : eb_H} {Q : Option Value → eb_H → Prop} (x1 : Int32)  (ko : eb_KO h) (w : eb_Ct d 164 [.ref s_MO] h (fun r h1 => r = none ∧ eb_KO h1 ∧ eb_Ct d 167 [.ref s_MO, .int 31] h1 (fun r h4 => ∃ y5, r = some (.int y5) ∧ eb_KO h4 ∧ ((¬ y5 = 0 → eb_Ct d 178 [.ref s_MO, .int 0] (eb_sI h4 s_MO 15 x1) (fun r h8 => r = none ∧ eb_KO h8 ∧ (((eb_I h8 s_MO 11) = 0 → (vp_in ((5 : Int32) + x1) 1164) ∧ (vp_in ((7 : Int32) + x1) 1164) ∧ (vp_in ((9 : Int32) + x1) 1164) ∧ Q none (eb_sI (eb_sI (eb_sI h8 s_m_fresh ((5 : Int32) + x1).toNatClampNeg 1) s_m_fresh ((7 : Int32) + x1).toNatClampNeg (eb_I h4 s_m_fresh (263 : Int32).toNatClampNeg)) s_m_fresh ((9 : Int32) + x1).toNatClampNeg ((eb_I (eb_sI (eb_sI h8 s_m_fresh ((5 : Int32) + x1).toNatClampNeg 1) s_m_fresh ((7 : Int32) + x1).toNatClampNeg (eb_I h4 s_m_fresh (263 : Int32).toNatClampNeg)) s_m_fresh (263 : Int32).toNatClampNeg) - (eb_I h4 s_m_fresh (263 : Int32).toNatClampNeg)))) ∧ (¬ ((eb_I h8 s_MO 11) = 0) → Q none h8)))) ∧ (y5 = 0 → eb_Ct d 165 [.ref s_MO, .int 2] h4 (fun r h15 => r = none ∧ eb_KO h15 ∧ eb_Ct d 178 [.ref s_MO, .int 0] (eb_sI h15 s_MO 15 x1) (fun r h18 => r = none ∧ eb_KO h18 ∧ (((eb_I h18 s_MO 11) = 0 → (vp_in ((5 : Int32) + x1) 1164) ∧ (vp_in ((7 : Int32) + x1) 1164) ∧ (vp_in ((9 : Int32) + x1) 1164) ∧ Q none (eb_sI (eb_sI (eb_sI h18 s_m_fresh ((5 : Int32) + x1).toNatClampNeg 1) s_m_fresh ((7 : Int32) + x1).toNatClampNeg (eb_I h15 s_m_fresh (263 : Int32).toNatClampNeg)) s_m_fresh ((9 : Int32) + x1).toNatClampNeg ((eb_I (eb_sI (eb_sI h18 s_m_fresh ((5 : Int32) + x1).toNatClampNeg 1) s_m_fresh ((7 : Int32) + x1).toNatClampNeg (eb_I h15 s_m_fresh (263 : Int32).toNatClampNeg)) s_m_fresh (263 : Int32).toNatClampNeg) - (eb_I h15 s_m_fresh (263 : Int32).toNatClampNeg)))) ∧ (¬ ((eb_I h18 s_MO 11) = 0) → Q none h18))))))))) : eb_Ct (d + 1) 184 [.ref s_MO, .int x1] h Q :=
  eb_bodyQ (by decide) ok_X11_readLaw (Nat.le_of_ble_eq_true rfl) (b_X11_readLaw_0 (h0 := h) x1  ko w)
