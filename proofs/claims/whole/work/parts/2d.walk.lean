theorem b_X5_expect_0 {d : Nat} {h0 h : eb_H} {Q : Option Value → eb_H → Prop} (i1 : Nat) (hi_i1 : i1 < 21) (ko : eb_KO h) (w : eb_Ct d 72 [.ref s_tape, .ref (eb_mk i1 21 0)] h (fun r h1 => ∃ y2, r = some (.int y2) ∧ eb_KO h1 ∧ ((y2 = 0 → eb_Ct d 68 [.ref s_tape, .int 2] h1 (fun r h5 => r = none ∧ eb_KO h5 ∧ Q none h5)) ∧ (¬ (y2 = 0) → eb_Ct d 69 [.ref s_tape] h1 (fun r h8 => r = none ∧ eb_KO h8 ∧ Q none h8))))) : eb_Sn (d + 1) m_X5_expect h0 0 [(0, .ref s_reader), (1, .ref (eb_mk i1 21 0))] [] h Q := by
  refine eb_aload_n (pc := 0) (n := 0) (i := 0) rfl rfl rfl ?_
  refine eb_getR (pc := 1) rfl rfl (by decide) (by decide) rfl (ko_s_reader_1 ko) ?_
  refine eb_aload_n (pc := 4) (n := 1) (i := 1) rfl rfl rfl ?_
  refine eb_ctV (pc := 5) (As := [.ref (eb_mk i1 21 0)]) (rest := []) rfl (by decide) rfl rfl (by decide) rfl (Nat.le_of_ble_eq_true rfl) ?_
  refine eb_Ct.mono w ?_
  rintro r h1 ⟨y2, rfl, ko3, w⟩
  change eb_Sn _ _ _ 8 _ [.int y2] _ _
  refine eb_if_eq (pc := 8) (tgt := 21) rfl (by decide) (fun c4 => ?_) (fun c4 => ?_)
  · replace w := w.1 c4
    refine eb_aload_n (pc := 21) (n := 0) (i := 0) rfl rfl rfl ?_
    refine eb_getR (pc := 22) rfl rfl (by decide) (by decide) rfl (ko_s_reader_1 ko3) ?_
    refine eb_iconst (pc := 25) (n := 2) (v := 2) rfl rfl ?_
    refine eb_ctV (pc := 26) (As := [.int 2]) (rest := []) rfl (by decide) rfl rfl (by decide) rfl (Nat.le_of_ble_eq_true rfl) ?_
    refine eb_Ct.mono w ?_
    rintro r h5 ⟨rfl, ko7, w⟩
    change eb_Sn _ _ _ 29 _ [] _ _
    exact eb_return (pc := 29) rfl rfl w
  · replace w := w.2 c4
    refine eb_aload_n (pc := 11) (n := 0) (i := 0) rfl rfl rfl ?_
    refine eb_getR (pc := 12) rfl rfl (by decide) (by decide) rfl (ko_s_reader_1 ko3) ?_
    refine eb_ctV (pc := 15) (As := []) (rest := []) rfl (by decide) rfl rfl (by decide) rfl (Nat.le_of_ble_eq_true rfl) ?_
    refine eb_Ct.mono w ?_
    rintro r h8 ⟨rfl, ko10, w⟩
    change eb_Sn _ _ _ 18 _ [] _ _
    refine eb_goto (pc := 18) (tgt := 29) rfl (by decide) ?_
    exact eb_return (pc := 29) rfl rfl w
theorem T_X5_expect {d : Nat} {h : eb_H} {Q : Option Value → eb_H → Prop} (i1 : Nat) (hi_i1 : i1 < 21) (ko : eb_KO h) (w : eb_Ct d 72 [.ref s_tape, .ref (eb_mk i1 21 0)] h (fun r h1 => ∃ y2, r = some (.int y2) ∧ eb_KO h1 ∧ ((y2 = 0 → eb_Ct d 68 [.ref s_tape, .int 2] h1 (fun r h5 => r = none ∧ eb_KO h5 ∧ Q none h5)) ∧ (¬ (y2 = 0) → eb_Ct d 69 [.ref s_tape] h1 (fun r h8 => r = none ∧ eb_KO h8 ∧ Q none h8))))) : eb_Ct (d + 1) 49 [.ref s_reader, .ref (eb_mk i1 21 0)] h Q :=
  eb_bodyQ (by decide) ok_X5_expect (Nat.le_of_ble_eq_true rfl) (b_X5_expect_0 (h0 := h) i1 hi_i1 ko w)
theorem b_X5_endLine_0 {d : Nat} {h0 h : eb_H} {Q : Option Value → eb_H → Prop}   (ko : eb_KO h) (w : eb_Ct d 49 [.ref s_reader, .ref (eb_mk 2 21 0)] h (fun r h1 => r = none ∧ eb_KO h1 ∧ ∃ r4, eb_R h1 s_reader 2 = some r4 ∧ eb_kd r4 = 9 ∧ Q none (eb_sI h1 r4 3 ((eb_I h1 r4 3) + 1)))) : eb_Sn (d + 1) m_X5_endLine h0 0 [(0, .ref s_reader)] [] h Q := by
  refine eb_aload_n (pc := 0) (n := 0) (i := 0) rfl rfl rfl ?_
  refine eb_ldcS (pc := 1) (a := 2) (i := eb_mk 2 21 0) rfl rfl rfl ?_
  refine eb_ctV (pc := 3) (As := [.ref (eb_mk 2 21 0)]) (rest := []) rfl (by decide) rfl rfl (by decide) rfl (Nat.le_of_ble_eq_true rfl) ?_
  refine eb_Ct.mono w ?_
  rintro r h1 ⟨rfl, ko3, w⟩
  change eb_Sn _ _ _ 6 _ [] _ _
  refine eb_aload_n (pc := 6) (n := 0) (i := 0) rfl rfl rfl ?_
  obtain ⟨r4, q5, k6, w⟩ := w
  refine eb_getR (pc := 7) rfl rfl (by decide) (by decide) rfl q5 ?_
  refine eb_dupr (pc := 10) rfl ?_
  refine eb_getI (pc := 11) rfl k6 (by decide) (by decide) rfl ?_
  refine eb_iconst (pc := 14) (n := 1) (v := 1) rfl rfl ?_
  refine eb_iadd (pc := 15) rfl ?_
  refine eb_putI (pc := 16) rfl k6 (by decide) (by decide) rfl rfl ⟨rfl, rfl⟩ ?_
  exact eb_return (pc := 19) rfl rfl w
theorem T_X5_endLine {d : Nat} {h : eb_H} {Q : Option Value → eb_H → Prop}   (ko : eb_KO h) (w : eb_Ct d 49 [.ref s_reader, .ref (eb_mk 2 21 0)] h (fun r h1 => r = none ∧ eb_KO h1 ∧ ∃ r4, eb_R h1 s_reader 2 = some r4 ∧ eb_kd r4 = 9 ∧ Q none (eb_sI h1 r4 3 ((eb_I h1 r4 3) + 1)))) : eb_Ct (d + 1) 50 [.ref s_reader] h Q :=
  eb_bodyQ (by decide) ok_X5_endLine (Nat.le_of_ble_eq_true rfl) (b_X5_endLine_0 (h0 := h)   ko w)
theorem b_X5_number_0 {d : Nat} {h0 h : eb_H} {Q : Option Value → eb_H → Prop} (x1 : Int32) (x2 : Int32)  (ko : eb_KO h) (w : (((eb_I h s_tape 5) = (2 : Int32) → (((eb_I h s_tape 6) < x1 → eb_Ct d 68 [.ref s_tape, .int 3] h (fun r h3 => r = none ∧ eb_KO h3 ∧ (((eb_I h3 s_tape 7) = 0 → eb_Ct d 69 [.ref s_tape] h3 (fun r h7 => r = none ∧ eb_KO h7 ∧ Q (some (.int (eb_I h s_tape 6))) h7)) ∧ (¬ ((eb_I h3 s_tape 7) = 0) → Q (some (.int x1)) h3)))) ∧ (¬ ((eb_I h s_tape 6) < x1) → (((eb_I h s_tape 6) ≤ x2 → (((eb_I h s_tape 7) = 0 → eb_Ct d 69 [.ref s_tape] h (fun r h12 => r = none ∧ eb_KO h12 ∧ Q (some (.int (eb_I h s_tape 6))) h12)) ∧ (¬ ((eb_I h s_tape 7) = 0) → Q (some (.int x1)) h))) ∧ (¬ ((eb_I h s_tape 6) ≤ x2) → eb_Ct d 68 [.ref s_tape, .int 3] h (fun r h15 => r = none ∧ eb_KO h15 ∧ (((eb_I h15 s_tape 7) = 0 → eb_Ct d 69 [.ref s_tape] h15 (fun r h19 => r = none ∧ eb_KO h19 ∧ Q (some (.int (eb_I h s_tape 6))) h19)) ∧ (¬ ((eb_I h15 s_tape 7) = 0) → Q (some (.int x1)) h15)))))))) ∧ (¬ ((eb_I h s_tape 5) = (2 : Int32)) → eb_Ct d 68 [.ref s_tape, .int 2] h (fun r h22 => r = none ∧ eb_KO h22 ∧ (((eb_I h22 s_tape 7) = 0 → eb_Ct d 69 [.ref s_tape] h22 (fun r h26 => r = none ∧ eb_KO h26 ∧ Q (some (.int (eb_I h s_tape 6))) h26)) ∧ (¬ ((eb_I h22 s_tape 7) = 0) → Q (some (.int x1)) h22)))))) : eb_Sn (d + 1) m_X5_number h0 0 [(0, .ref s_reader), (1, .int x1), (2, .int x2)] [] h Q := by
  refine eb_aload_n (pc := 0) (n := 0) (i := 0) rfl rfl rfl ?_
  refine eb_getR (pc := 1) rfl rfl (by decide) (by decide) rfl (ko_s_reader_1 ko) ?_
  refine eb_getI (pc := 4) rfl rfl (by decide) (by decide) rfl ?_
  refine eb_istore_n (pc := 7) (n := 3) (i := 3) (ls2 := [(3, .int (eb_I h s_tape 6)), (0, .ref s_reader), (1, .int x1), (2, .int x2)]) rfl (Nat.le_of_ble_eq_true rfl) rfl rfl ?_
  refine eb_aload_n (pc := 8) (n := 0) (i := 0) rfl rfl rfl ?_
  refine eb_getR (pc := 9) rfl rfl (by decide) (by decide) rfl (ko_s_reader_1 ko) ?_
  refine eb_getI (pc := 12) rfl rfl (by decide) (by decide) rfl ?_
  refine eb_iconst (pc := 15) (n := 2) (v := 2) rfl rfl ?_
  refine eb_icmp_eq (pc := 16) (tgt := 30) rfl (by decide) (fun c1 => ?_) (fun c1 => ?_)
  · replace w := w.1 c1
    refine eb_iload_n (pc := 30) (n := 3) (i := 3) rfl rfl rfl ?_
    refine eb_iload_n (pc := 31) (n := 1) (i := 1) rfl rfl rfl ?_
    refine eb_icmp_lt (pc := 32) (tgt := 40) rfl (by decide) (fun c2 => ?_) (fun c2 => ?_)
    · replace w := w.1 c2
      refine eb_aload_n (pc := 40) (n := 0) (i := 0) rfl rfl rfl ?_
      refine eb_getR (pc := 41) rfl rfl (by decide) (by decide) rfl (ko_s_reader_1 ko) ?_
      refine eb_iconst (pc := 44) (n := 3) (v := 3) rfl rfl ?_
      refine eb_ctV (pc := 45) (As := [.int 3]) (rest := []) rfl (by decide) rfl rfl (by decide) rfl (Nat.le_of_ble_eq_true rfl) ?_
      refine eb_Ct.mono w ?_
      rintro r h3 ⟨rfl, ko5, w⟩
      change eb_Sn _ _ _ 48 _ [] _ _
      refine eb_aload_n (pc := 48) (n := 0) (i := 0) rfl rfl rfl ?_
      refine eb_getR (pc := 49) rfl rfl (by decide) (by decide) rfl (ko_s_reader_1 ko5) ?_
      refine eb_getI (pc := 52) rfl rfl (by decide) (by decide) rfl ?_
      refine eb_if_eq (pc := 55) (tgt := 60) rfl (by decide) (fun c6 => ?_) (fun c6 => ?_)
      · replace w := w.1 c6
        refine eb_aload_n (pc := 60) (n := 0) (i := 0) rfl rfl rfl ?_
        refine eb_getR (pc := 61) rfl rfl (by decide) (by decide) rfl (ko_s_reader_1 ko5) ?_
        refine eb_ctV (pc := 64) (As := []) (rest := []) rfl (by decide) rfl rfl (by decide) rfl (Nat.le_of_ble_eq_true rfl) ?_
        refine eb_Ct.mono w ?_
        rintro r h7 ⟨rfl, ko9, w⟩
        change eb_Sn _ _ _ 67 _ [] _ _
        refine eb_iload_n (pc := 67) (n := 3) (i := 3) rfl rfl rfl ?_
        exact eb_ireturn (pc := 68) rfl rfl rfl w
      · replace w := w.2 c6
        refine eb_iload_n (pc := 58) (n := 1) (i := 1) rfl rfl rfl ?_
        exact eb_ireturn (pc := 59) rfl rfl rfl w
    · replace w := w.2 c2
      refine eb_iload_n (pc := 35) (n := 3) (i := 3) rfl rfl rfl ?_
      refine eb_iload_n (pc := 36) (n := 2) (i := 2) rfl rfl rfl ?_
      refine eb_icmp_le (pc := 37) (tgt := 48) rfl (by decide) (fun c10 => ?_) (fun c10 => ?_)
      · replace w := w.1 c10
        refine eb_aload_n (pc := 48) (n := 0) (i := 0) rfl rfl rfl ?_
        refine eb_getR (pc := 49) rfl rfl (by decide) (by decide) rfl (ko_s_reader_1 ko) ?_
        refine eb_getI (pc := 52) rfl rfl (by decide) (by decide) rfl ?_
        refine eb_if_eq (pc := 55) (tgt := 60) rfl (by decide) (fun c11 => ?_) (fun c11 => ?_)
        · replace w := w.1 c11
          refine eb_aload_n (pc := 60) (n := 0) (i := 0) rfl rfl rfl ?_
          refine eb_getR (pc := 61) rfl rfl (by decide) (by decide) rfl (ko_s_reader_1 ko) ?_
          refine eb_ctV (pc := 64) (As := []) (rest := []) rfl (by decide) rfl rfl (by decide) rfl (Nat.le_of_ble_eq_true rfl) ?_
          refine eb_Ct.mono w ?_
          rintro r h12 ⟨rfl, ko14, w⟩
          change eb_Sn _ _ _ 67 _ [] _ _
          refine eb_iload_n (pc := 67) (n := 3) (i := 3) rfl rfl rfl ?_
          exact eb_ireturn (pc := 68) rfl rfl rfl w
        · replace w := w.2 c11
          refine eb_iload_n (pc := 58) (n := 1) (i := 1) rfl rfl rfl ?_
          exact eb_ireturn (pc := 59) rfl rfl rfl w
      · replace w := w.2 c10
        refine eb_aload_n (pc := 40) (n := 0) (i := 0) rfl rfl rfl ?_
        refine eb_getR (pc := 41) rfl rfl (by decide) (by decide) rfl (ko_s_reader_1 ko) ?_
        refine eb_iconst (pc := 44) (n := 3) (v := 3) rfl rfl ?_
        refine eb_ctV (pc := 45) (As := [.int 3]) (rest := []) rfl (by decide) rfl rfl (by decide) rfl (Nat.le_of_ble_eq_true rfl) ?_
        refine eb_Ct.mono w ?_
        rintro r h15 ⟨rfl, ko17, w⟩
        change eb_Sn _ _ _ 48 _ [] _ _
        refine eb_aload_n (pc := 48) (n := 0) (i := 0) rfl rfl rfl ?_
        refine eb_getR (pc := 49) rfl rfl (by decide) (by decide) rfl (ko_s_reader_1 ko17) ?_
        refine eb_getI (pc := 52) rfl rfl (by decide) (by decide) rfl ?_
        refine eb_if_eq (pc := 55) (tgt := 60) rfl (by decide) (fun c18 => ?_) (fun c18 => ?_)
        · replace w := w.1 c18
          refine eb_aload_n (pc := 60) (n := 0) (i := 0) rfl rfl rfl ?_
          refine eb_getR (pc := 61) rfl rfl (by decide) (by decide) rfl (ko_s_reader_1 ko17) ?_
          refine eb_ctV (pc := 64) (As := []) (rest := []) rfl (by decide) rfl rfl (by decide) rfl (Nat.le_of_ble_eq_true rfl) ?_
          refine eb_Ct.mono w ?_
          rintro r h19 ⟨rfl, ko21, w⟩
          change eb_Sn _ _ _ 67 _ [] _ _
          refine eb_iload_n (pc := 67) (n := 3) (i := 3) rfl rfl rfl ?_
          exact eb_ireturn (pc := 68) rfl rfl rfl w
        · replace w := w.2 c18
          refine eb_iload_n (pc := 58) (n := 1) (i := 1) rfl rfl rfl ?_
          exact eb_ireturn (pc := 59) rfl rfl rfl w
  · replace w := w.2 c1
    refine eb_aload_n (pc := 19) (n := 0) (i := 0) rfl rfl rfl ?_
    refine eb_getR (pc := 20) rfl rfl (by decide) (by decide) rfl (ko_s_reader_1 ko) ?_
    refine eb_iconst (pc := 23) (n := 2) (v := 2) rfl rfl ?_
    refine eb_ctV (pc := 24) (As := [.int 2]) (rest := []) rfl (by decide) rfl rfl (by decide) rfl (Nat.le_of_ble_eq_true rfl) ?_
    refine eb_Ct.mono w ?_
    rintro r h22 ⟨rfl, ko24, w⟩
    change eb_Sn _ _ _ 27 _ [] _ _
    refine eb_goto (pc := 27) (tgt := 48) rfl (by decide) ?_
    refine eb_aload_n (pc := 48) (n := 0) (i := 0) rfl rfl rfl ?_
    refine eb_getR (pc := 49) rfl rfl (by decide) (by decide) rfl (ko_s_reader_1 ko24) ?_
    refine eb_getI (pc := 52) rfl rfl (by decide) (by decide) rfl ?_
    refine eb_if_eq (pc := 55) (tgt := 60) rfl (by decide) (fun c25 => ?_) (fun c25 => ?_)
    · replace w := w.1 c25
      refine eb_aload_n (pc := 60) (n := 0) (i := 0) rfl rfl rfl ?_
      refine eb_getR (pc := 61) rfl rfl (by decide) (by decide) rfl (ko_s_reader_1 ko24) ?_
      refine eb_ctV (pc := 64) (As := []) (rest := []) rfl (by decide) rfl rfl (by decide) rfl (Nat.le_of_ble_eq_true rfl) ?_
      refine eb_Ct.mono w ?_
      rintro r h26 ⟨rfl, ko28, w⟩
      change eb_Sn _ _ _ 67 _ [] _ _
      refine eb_iload_n (pc := 67) (n := 3) (i := 3) rfl rfl rfl ?_
      exact eb_ireturn (pc := 68) rfl rfl rfl w
    · replace w := w.2 c25
      refine eb_iload_n (pc := 58) (n := 1) (i := 1) rfl rfl rfl ?_
      exact eb_ireturn (pc := 59) rfl rfl rfl w
theorem T_X5_number {d : Nat} {h : eb_H} {Q : Option Value → eb_H → Prop} (x1 : Int32) (x2 : Int32)  (ko : eb_KO h) (w : (((eb_I h s_tape 5) = (2 : Int32) → (((eb_I h s_tape 6) < x1 → eb_Ct d 68 [.ref s_tape, .int 3] h (fun r h3 => r = none ∧ eb_KO h3 ∧ (((eb_I h3 s_tape 7) = 0 → eb_Ct d 69 [.ref s_tape] h3 (fun r h7 => r = none ∧ eb_KO h7 ∧ Q (some (.int (eb_I h s_tape 6))) h7)) ∧ (¬ ((eb_I h3 s_tape 7) = 0) → Q (some (.int x1)) h3)))) ∧ (¬ ((eb_I h s_tape 6) < x1) → (((eb_I h s_tape 6) ≤ x2 → (((eb_I h s_tape 7) = 0 → eb_Ct d 69 [.ref s_tape] h (fun r h12 => r = none ∧ eb_KO h12 ∧ Q (some (.int (eb_I h s_tape 6))) h12)) ∧ (¬ ((eb_I h s_tape 7) = 0) → Q (some (.int x1)) h))) ∧ (¬ ((eb_I h s_tape 6) ≤ x2) → eb_Ct d 68 [.ref s_tape, .int 3] h (fun r h15 => r = none ∧ eb_KO h15 ∧ (((eb_I h15 s_tape 7) = 0 → eb_Ct d 69 [.ref s_tape] h15 (fun r h19 => r = none ∧ eb_KO h19 ∧ Q (some (.int (eb_I h s_tape 6))) h19)) ∧ (¬ ((eb_I h15 s_tape 7) = 0) → Q (some (.int x1)) h15)))))))) ∧ (¬ ((eb_I h s_tape 5) = (2 : Int32)) → eb_Ct d 68 [.ref s_tape, .int 2] h (fun r h22 => r = none ∧ eb_KO h22 ∧ (((eb_I h22 s_tape 7) = 0 → eb_Ct d 69 [.ref s_tape] h22 (fun r h26 => r = none ∧ eb_KO h26 ∧ Q (some (.int (eb_I h s_tape 6))) h26)) ∧ (¬ ((eb_I h22 s_tape 7) = 0) → Q (some (.int x1)) h22)))))) : eb_Ct (d + 1) 51 [.ref s_reader, .int x1, .int x2] h Q :=
  eb_bodyQ (by decide) ok_X5_number (Nat.le_of_ble_eq_true rfl) (b_X5_number_0 (h0 := h) x1 x2  ko w)
theorem b_X5_lastCell_0 {d : Nat} {h0 h : eb_H} {Q : Option Value → eb_H → Prop}   (ko : eb_KO h) (w : ∃ r1, eb_R h s_reader 2 = some r1 ∧ eb_kd r1 = 9 ∧ Q (some (.int (((eb_I h r1 0) * (eb_I h r1 1)) - 1))) h) : eb_Sn d m_X5_lastCell h0 0 [(0, .ref s_reader)] [] h Q := by
  refine eb_aload_n (pc := 0) (n := 0) (i := 0) rfl rfl rfl ?_
  obtain ⟨r1, q2, k3, w⟩ := w
  refine eb_getR (pc := 1) rfl rfl (by decide) (by decide) rfl q2 ?_
  refine eb_getI (pc := 4) rfl k3 (by decide) (by decide) rfl ?_
  refine eb_aload_n (pc := 7) (n := 0) (i := 0) rfl rfl rfl ?_
  refine eb_getR (pc := 8) rfl rfl (by decide) (by decide) rfl q2 ?_
  refine eb_getI (pc := 11) rfl k3 (by decide) (by decide) rfl ?_
  refine eb_imul (pc := 14) rfl ?_
  refine eb_iconst (pc := 15) (n := 1) (v := 1) rfl rfl ?_
  refine eb_isub (pc := 16) rfl ?_
  exact eb_ireturn (pc := 17) rfl rfl rfl w
theorem T_X5_lastCell {d : Nat} {h : eb_H} {Q : Option Value → eb_H → Prop}   (ko : eb_KO h) (w : ∃ r1, eb_R h s_reader 2 = some r1 ∧ eb_kd r1 = 9 ∧ Q (some (.int (((eb_I h r1 0) * (eb_I h r1 1)) - 1))) h) : eb_Ct d 52 [.ref s_reader] h Q :=
  eb_bodyQ (by decide) ok_X5_lastCell (Nat.le_of_ble_eq_true rfl) (b_X5_lastCell_0 (h0 := h)   ko w)
theorem b_X5_readRow_0 {d : Nat} {h0 h : eb_H} {Q : Option Value → eb_H → Prop}   (ko : eb_KO h) (w : eb_Ct d 69 [.ref s_tape] h (fun r h1 => r = none ∧ eb_KO h1 ∧ ∃ r4, eb_R h1 s_reader 2 = some r4 ∧ eb_kd r4 = 9 ∧ eb_Ct d 51 [.ref s_reader, .int 0, .int ((eb_I h1 r4 0) - 1)] h1 (fun r h7 => ∃ y8, r = some (.int y8) ∧ eb_KO h7 ∧ eb_Sn (d + 1) m_X5_readRow h0 32 [(0, .ref s_reader), (1, .int ((eb_I h1 r4 1) * y8)), (2, .int 0)] [] h7 Q))) : eb_Sn (d + 1) m_X5_readRow h0 0 [(0, .ref s_reader)] [] h Q := by
  refine eb_aload_n (pc := 0) (n := 0) (i := 0) rfl rfl rfl ?_
  refine eb_getR (pc := 1) rfl rfl (by decide) (by decide) rfl (ko_s_reader_1 ko) ?_
  refine eb_ctV (pc := 4) (As := []) (rest := []) rfl (by decide) rfl rfl (by decide) rfl (Nat.le_of_ble_eq_true rfl) ?_
  refine eb_Ct.mono w ?_
  rintro r h1 ⟨rfl, ko3, w⟩
  change eb_Sn _ _ _ 7 _ [] _ _
  refine eb_aload_n (pc := 7) (n := 0) (i := 0) rfl rfl rfl ?_
  obtain ⟨r4, q5, k6, w⟩ := w
  refine eb_getR (pc := 8) rfl rfl (by decide) (by decide) rfl q5 ?_
  refine eb_getI (pc := 11) rfl k6 (by decide) (by decide) rfl ?_
  refine eb_aload_n (pc := 14) (n := 0) (i := 0) rfl rfl rfl ?_
  refine eb_iconst (pc := 15) (n := 0) (v := 0) rfl rfl ?_
  refine eb_aload_n (pc := 16) (n := 0) (i := 0) rfl rfl rfl ?_
  refine eb_getR (pc := 17) rfl rfl (by decide) (by decide) rfl q5 ?_
  refine eb_getI (pc := 20) rfl k6 (by decide) (by decide) rfl ?_
  refine eb_iconst (pc := 23) (n := 1) (v := 1) rfl rfl ?_
  refine eb_isub (pc := 24) rfl ?_
  refine eb_ctV (pc := 25) (As := [.int 0, .int ((eb_I h1 r4 0) - 1)]) (rest := [.int (eb_I h1 r4 1)]) rfl (by decide) rfl rfl (by decide) rfl (Nat.le_of_ble_eq_true rfl) ?_
  refine eb_Ct.mono w ?_
  rintro r h7 ⟨y8, rfl, ko9, w⟩
  change eb_Sn _ _ _ 28 _ [.int y8, .int (eb_I h1 r4 1)] _ _
  refine eb_imul (pc := 28) rfl ?_
  refine eb_istore_n (pc := 29) (n := 1) (i := 1) (ls2 := [(1, .int ((eb_I h1 r4 1) * y8)), (0, .ref s_reader)]) rfl (Nat.le_of_ble_eq_true rfl) rfl rfl ?_
  refine eb_iconst (pc := 30) (n := 0) (v := 0) rfl rfl ?_
  refine eb_istore_n (pc := 31) (n := 2) (i := 2) (ls2 := [(2, .int 0), (1, .int ((eb_I h1 r4 1) * y8)), (0, .ref s_reader)]) rfl (Nat.le_of_ble_eq_true rfl) rfl rfl ?_
  exact eb_pick [2, 1, 0] rfl w
theorem b_X5_readRow_32 {d : Nat} {h0 h : eb_H} {Q : Option Value → eb_H → Prop} (x1 : Int32) (x2 : Int32)  (ko : eb_KO h) (w : ∃ r1, eb_R h s_reader 2 = some r1 ∧ eb_kd r1 = 9 ∧ (((eb_I h r1 1) ≤ x2 → Q none h) ∧ (¬ ((eb_I h r1 1) ≤ x2) → eb_Ct d 51 [.ref s_reader, .int 0, .int 9] h (fun r h5 => ∃ y6, r = some (.int y6) ∧ eb_KO h5 ∧ eb_Ct d 82 [.ref r1, .int (x1 + x2), .int y6] h5 (fun r h8 => r = none ∧ eb_KO h8 ∧ eb_Sn (d + 1) m_X5_readRow h0 32 [(0, .ref s_reader), (1, .int x1), (2, .int (x2 + 1))] [] h8 Q))))) : eb_Sn (d + 1) m_X5_readRow h0 32 [(0, .ref s_reader), (1, .int x1), (2, .int x2)] [] h Q := by
  refine eb_iload_n (pc := 32) (n := 2) (i := 2) rfl rfl rfl ?_
  refine eb_aload_n (pc := 33) (n := 0) (i := 0) rfl rfl rfl ?_
  obtain ⟨r1, q2, k3, w⟩ := w
  refine eb_getR (pc := 34) rfl rfl (by decide) (by decide) rfl q2 ?_
  refine eb_getI (pc := 37) rfl k3 (by decide) (by decide) rfl ?_
  refine eb_icmp_ge (pc := 40) (tgt := 66) rfl (by decide) (fun c4 => ?_) (fun c4 => ?_)
  · replace w := w.1 c4
    exact eb_return (pc := 66) rfl rfl w
  · replace w := w.2 c4
    refine eb_aload_n (pc := 43) (n := 0) (i := 0) rfl rfl rfl ?_
    refine eb_getR (pc := 44) rfl rfl (by decide) (by decide) rfl q2 ?_
    refine eb_iload_n (pc := 47) (n := 1) (i := 1) rfl rfl rfl ?_
    refine eb_iload_n (pc := 48) (n := 2) (i := 2) rfl rfl rfl ?_
    refine eb_iadd (pc := 49) rfl ?_
    refine eb_aload_n (pc := 50) (n := 0) (i := 0) rfl rfl rfl ?_
    refine eb_iconst (pc := 51) (n := 0) (v := 0) rfl rfl ?_
    refine eb_bipush (pc := 52) (n := 9) (v := 9) rfl rfl ?_
    refine eb_ctV (pc := 54) (As := [.int 0, .int 9]) (rest := [.int (x1 + x2), .ref r1]) rfl (by decide) rfl rfl (by decide) rfl (Nat.le_of_ble_eq_true rfl) ?_
    refine eb_Ct.mono w ?_
    rintro r h5 ⟨y6, rfl, ko7, w⟩
    change eb_Sn _ _ _ 57 _ [.int y6, .int (x1 + x2), .ref r1] _ _
    refine eb_ctV (pc := 57) (As := [.int (x1 + x2), .int y6]) (rest := []) rfl (by decide) rfl k3 (by decide) rfl (Nat.le_of_ble_eq_true rfl) ?_
    refine eb_Ct.mono w ?_
    rintro r h8 ⟨rfl, ko10, w⟩
    change eb_Sn _ _ _ 60 _ [] _ _
    refine eb_iinc (pc := 60) (i := 2) (n := 1) (v := x2 + 1) (ls2 := [(2, .int (x2 + 1)), (0, .ref s_reader), (1, .int x1)]) (Nat.le_of_ble_eq_true rfl) rfl rfl rfl rfl ?_
    refine eb_goto (pc := 63) (tgt := 32) rfl (by decide) ?_
    exact eb_pick [1, 2, 0] rfl w
theorem T_X5_readRow {d : Nat} {h : eb_H} {Q : Option Value → eb_H → Prop}   (ko : eb_KO h) (w : eb_Ct d 69 [.ref s_tape] h (fun r h1 => r = none ∧ eb_KO h1 ∧ ∃ r4, eb_R h1 s_reader 2 = some r4 ∧ eb_kd r4 = 9 ∧ eb_Ct d 51 [.ref s_reader, .int 0, .int ((eb_I h1 r4 0) - 1)] h1 (fun r h7 => ∃ y8, r = some (.int y8) ∧ eb_KO h7 ∧ eb_Sn (d + 1) m_X5_readRow h 32 [(0, .ref s_reader), (1, .int ((eb_I h1 r4 1) * y8)), (2, .int 0)] [] h7 Q))) : eb_Ct (d + 1) 53 [.ref s_reader] h Q :=
  eb_bodyQ (by decide) ok_X5_readRow (Nat.le_of_ble_eq_true rfl) (b_X5_readRow_0 (h0 := h)   ko w)
theorem b_X5_readThing_0 {d : Nat} {h0 h : eb_H} {Q : Option Value → eb_H → Prop}   (ko : eb_KO h) (w : eb_Ct d 69 [.ref s_tape] h (fun r h1 => r = none ∧ eb_KO h1 ∧ ∃ r4, eb_R h1 s_reader 2 = some r4 ∧ eb_kd r4 = 9 ∧ eb_Ct d 51 [.ref s_reader, .int 0, .int (((eb_I h1 r4 0) * (eb_I h1 r4 1)) - 1)] h1 (fun r h7 => ∃ y8, r = some (.int y8) ∧ eb_KO h7 ∧ eb_Ct d 51 [.ref s_reader, .int 0, .int 6] h7 (fun r h10 => ∃ y11, r = some (.int y11) ∧ eb_KO h10 ∧ eb_Ct d 63 [.ref s_reader_start, .int y8, .int y11] h10 (fun r h13 => r = none ∧ eb_KO h13 ∧ Q none h13))))) : eb_Sn (d + 1) m_X5_readThing h0 0 [(0, .ref s_reader)] [] h Q := by
  refine eb_aload_n (pc := 0) (n := 0) (i := 0) rfl rfl rfl ?_
  refine eb_getR (pc := 1) rfl rfl (by decide) (by decide) rfl (ko_s_reader_1 ko) ?_
  refine eb_ctV (pc := 4) (As := []) (rest := []) rfl (by decide) rfl rfl (by decide) rfl (Nat.le_of_ble_eq_true rfl) ?_
  refine eb_Ct.mono w ?_
  rintro r h1 ⟨rfl, ko3, w⟩
  change eb_Sn _ _ _ 7 _ [] _ _
  refine eb_aload_n (pc := 7) (n := 0) (i := 0) rfl rfl rfl ?_
  refine eb_iconst (pc := 8) (n := 0) (v := 0) rfl rfl ?_
  refine eb_aload_n (pc := 9) (n := 0) (i := 0) rfl rfl rfl ?_
  refine eb_ctV (pc := 10) (As := []) (rest := [.int 0, .ref s_reader]) rfl (by decide) rfl rfl (by decide) rfl (Nat.le_of_ble_eq_true rfl) ?_
  refine eb_bodyQ (by decide) ok_X5_lastCell (Nat.le_of_ble_eq_true rfl) ?_
  change eb_Sn _ m_X5_lastCell _ 0 [(0, .ref s_reader)] [] _ _
  refine eb_aload_n (pc := 0) (n := 0) (i := 0) rfl rfl rfl ?_
  obtain ⟨r4, q5, k6, w⟩ := w
  refine eb_getR (pc := 1) rfl rfl (by decide) (by decide) rfl q5 ?_
  refine eb_getI (pc := 4) rfl k6 (by decide) (by decide) rfl ?_
  refine eb_aload_n (pc := 7) (n := 0) (i := 0) rfl rfl rfl ?_
  refine eb_getR (pc := 8) rfl rfl (by decide) (by decide) rfl q5 ?_
  refine eb_getI (pc := 11) rfl k6 (by decide) (by decide) rfl ?_
  refine eb_imul (pc := 14) rfl ?_
  refine eb_iconst (pc := 15) (n := 1) (v := 1) rfl rfl ?_
  refine eb_isub (pc := 16) rfl ?_
  refine eb_ireturn (pc := 17) rfl rfl rfl ?_
  change eb_Sn _ _ _ 13 _ [.int (((eb_I h1 r4 0) * (eb_I h1 r4 1)) - 1), .int 0, .ref s_reader] _ _
  refine eb_ctV (pc := 13) (As := [.int 0, .int (((eb_I h1 r4 0) * (eb_I h1 r4 1)) - 1)]) (rest := []) rfl (by decide) rfl rfl (by decide) rfl (Nat.le_of_ble_eq_true rfl) ?_
  refine eb_Ct.mono w ?_
  rintro r h7 ⟨y8, rfl, ko9, w⟩
  change eb_Sn _ _ _ 16 _ [.int y8] _ _
  refine eb_istore_n (pc := 16) (n := 1) (i := 1) (ls2 := [(1, .int y8), (0, .ref s_reader)]) rfl (Nat.le_of_ble_eq_true rfl) rfl rfl ?_
  refine eb_aload_n (pc := 17) (n := 0) (i := 0) rfl rfl rfl ?_
  refine eb_getR (pc := 18) rfl rfl (by decide) (by decide) rfl (ko_s_reader_3 ko9) ?_
  refine eb_iload_n (pc := 21) (n := 1) (i := 1) rfl rfl rfl ?_
  refine eb_aload_n (pc := 22) (n := 0) (i := 0) rfl rfl rfl ?_
  refine eb_iconst (pc := 23) (n := 0) (v := 0) rfl rfl ?_
  refine eb_bipush (pc := 24) (n := 6) (v := 6) rfl rfl ?_
  refine eb_ctV (pc := 26) (As := [.int 0, .int 6]) (rest := [.int y8, .ref s_reader_start]) rfl (by decide) rfl rfl (by decide) rfl (Nat.le_of_ble_eq_true rfl) ?_
  refine eb_Ct.mono w ?_
  rintro r h10 ⟨y11, rfl, ko12, w⟩
  change eb_Sn _ _ _ 29 _ [.int y11, .int y8, .ref s_reader_start] _ _
  refine eb_ctV (pc := 29) (As := [.int y8, .int y11]) (rest := []) rfl (by decide) rfl rfl (by decide) rfl (Nat.le_of_ble_eq_true rfl) ?_
  refine eb_Ct.mono w ?_
  rintro r h13 ⟨rfl, ko15, w⟩
  change eb_Sn _ _ _ 32 _ [] _ _
  exact eb_return (pc := 32) rfl rfl w
theorem T_X5_readThing {d : Nat} {h : eb_H} {Q : Option Value → eb_H → Prop}   (ko : eb_KO h) (w : eb_Ct d 69 [.ref s_tape] h (fun r h1 => r = none ∧ eb_KO h1 ∧ ∃ r4, eb_R h1 s_reader 2 = some r4 ∧ eb_kd r4 = 9 ∧ eb_Ct d 51 [.ref s_reader, .int 0, .int (((eb_I h1 r4 0) * (eb_I h1 r4 1)) - 1)] h1 (fun r h7 => ∃ y8, r = some (.int y8) ∧ eb_KO h7 ∧ eb_Ct d 51 [.ref s_reader, .int 0, .int 6] h7 (fun r h10 => ∃ y11, r = some (.int y11) ∧ eb_KO h10 ∧ eb_Ct d 63 [.ref s_reader_start, .int y8, .int y11] h10 (fun r h13 => r = none ∧ eb_KO h13 ∧ Q none h13))))) : eb_Ct (d + 1) 54 [.ref s_reader] h Q :=
  eb_bodyQ (by decide) ok_X5_readThing (Nat.le_of_ble_eq_true rfl) (b_X5_readThing_0 (h0 := h)   ko w)
theorem b_X5_readDrift_0 {d : Nat} {h0 h : eb_H} {Q : Option Value → eb_H → Prop}   (ko : eb_KO h) (w : eb_Ct d 69 [.ref s_tape] h (fun r h1 => r = none ∧ eb_KO h1 ∧ ∃ r4, eb_R h1 s_reader 2 = some r4 ∧ eb_kd r4 = 9 ∧ eb_Ct d 51 [.ref s_reader, .int 0, .int (((eb_I h1 r4 0) * (eb_I h1 r4 1)) - 1)] h1 (fun r h7 => ∃ y8, r = some (.int y8) ∧ eb_KO h7 ∧ Q none (eb_sI h7 s_reader_start 3 ((eb_I h1 s_reader_start 3) ||| ((1 : Int32) <<< (y8 &&& 31))))))) : eb_Sn (d + 1) m_X5_readDrift h0 0 [(0, .ref s_reader)] [] h Q := by
  refine eb_aload_n (pc := 0) (n := 0) (i := 0) rfl rfl rfl ?_
  refine eb_getR (pc := 1) rfl rfl (by decide) (by decide) rfl (ko_s_reader_1 ko) ?_
  refine eb_ctV (pc := 4) (As := []) (rest := []) rfl (by decide) rfl rfl (by decide) rfl (Nat.le_of_ble_eq_true rfl) ?_
  refine eb_Ct.mono w ?_
  rintro r h1 ⟨rfl, ko3, w⟩
  change eb_Sn _ _ _ 7 _ [] _ _
  refine eb_aload_n (pc := 7) (n := 0) (i := 0) rfl rfl rfl ?_
  refine eb_getR (pc := 8) rfl rfl (by decide) (by decide) rfl (ko_s_reader_3 ko3) ?_
  refine eb_dupr (pc := 11) rfl ?_
  refine eb_getI (pc := 12) rfl rfl (by decide) (by decide) rfl ?_
  refine eb_iconst (pc := 15) (n := 1) (v := 1) rfl rfl ?_
  refine eb_aload_n (pc := 16) (n := 0) (i := 0) rfl rfl rfl ?_
  refine eb_iconst (pc := 17) (n := 0) (v := 0) rfl rfl ?_
  refine eb_aload_n (pc := 18) (n := 0) (i := 0) rfl rfl rfl ?_
  refine eb_ctV (pc := 19) (As := []) (rest := [.int 0, .ref s_reader, .int 1, .int (eb_I h1 s_reader_start 3), .ref s_reader_start]) rfl (by decide) rfl rfl (by decide) rfl (Nat.le_of_ble_eq_true rfl) ?_
  refine eb_bodyQ (by decide) ok_X5_lastCell (Nat.le_of_ble_eq_true rfl) ?_
  change eb_Sn _ m_X5_lastCell _ 0 [(0, .ref s_reader)] [] _ _
  refine eb_aload_n (pc := 0) (n := 0) (i := 0) rfl rfl rfl ?_
  obtain ⟨r4, q5, k6, w⟩ := w
  refine eb_getR (pc := 1) rfl rfl (by decide) (by decide) rfl q5 ?_
  refine eb_getI (pc := 4) rfl k6 (by decide) (by decide) rfl ?_
  refine eb_aload_n (pc := 7) (n := 0) (i := 0) rfl rfl rfl ?_
  refine eb_getR (pc := 8) rfl rfl (by decide) (by decide) rfl q5 ?_
  refine eb_getI (pc := 11) rfl k6 (by decide) (by decide) rfl ?_
  refine eb_imul (pc := 14) rfl ?_
  refine eb_iconst (pc := 15) (n := 1) (v := 1) rfl rfl ?_
  refine eb_isub (pc := 16) rfl ?_
  refine eb_ireturn (pc := 17) rfl rfl rfl ?_
  change eb_Sn _ _ _ 22 _ [.int (((eb_I h1 r4 0) * (eb_I h1 r4 1)) - 1), .int 0, .ref s_reader, .int 1, .int (eb_I h1 s_reader_start 3), .ref s_reader_start] _ _
  refine eb_ctV (pc := 22) (As := [.int 0, .int (((eb_I h1 r4 0) * (eb_I h1 r4 1)) - 1)]) (rest := [.int 1, .int (eb_I h1 s_reader_start 3), .ref s_reader_start]) rfl (by decide) rfl rfl (by decide) rfl (Nat.le_of_ble_eq_true rfl) ?_
  refine eb_Ct.mono w ?_
  rintro r h7 ⟨y8, rfl, ko9, w⟩
  change eb_Sn _ _ _ 25 _ [.int y8, .int 1, .int (eb_I h1 s_reader_start 3), .ref s_reader_start] _ _
  refine eb_ishl (pc := 25) rfl ?_
  refine eb_ior (pc := 26) rfl ?_
  refine eb_putI (pc := 27) rfl rfl (by decide) (by decide) rfl rfl ⟨rfl, rfl⟩ ?_
  exact eb_return (pc := 30) rfl rfl w
theorem T_X5_readDrift {d : Nat} {h : eb_H} {Q : Option Value → eb_H → Prop}   (ko : eb_KO h) (w : eb_Ct d 69 [.ref s_tape] h (fun r h1 => r = none ∧ eb_KO h1 ∧ ∃ r4, eb_R h1 s_reader 2 = some r4 ∧ eb_kd r4 = 9 ∧ eb_Ct d 51 [.ref s_reader, .int 0, .int (((eb_I h1 r4 0) * (eb_I h1 r4 1)) - 1)] h1 (fun r h7 => ∃ y8, r = some (.int y8) ∧ eb_KO h7 ∧ Q none (eb_sI h7 s_reader_start 3 ((eb_I h1 s_reader_start 3) ||| ((1 : Int32) <<< (y8 &&& 31))))))) : eb_Ct (d + 1) 55 [.ref s_reader] h Q :=
  eb_bodyQ (by decide) ok_X5_readDrift (Nat.le_of_ble_eq_true rfl) (b_X5_readDrift_0 (h0 := h)   ko w)
theorem b_X5_readHouse_0 {d : Nat} {h0 h : eb_H} {Q : Option Value → eb_H → Prop}   (ko : eb_KO h) (w : ∃ r1, eb_R h s_reader 2 = some r1 ∧ eb_kd r1 = 9 ∧ (((eb_I h r1 4) < (4 : Int32) → eb_Ct d 69 [.ref s_tape] h (fun r h5 => r = none ∧ eb_KO h5 ∧ ∃ r8, eb_R h5 s_reader 2 = some r8 ∧ eb_kd r8 = 9 ∧ eb_Ct d 51 [.ref s_reader, .int 0, .int (((eb_I h5 r8 0) * (eb_I h5 r8 1)) - 1)] h5 (fun r h11 => ∃ y12, r = some (.int y12) ∧ eb_KO h11 ∧ eb_Ct d 85 [.ref r8, .int y12] h11 (fun r h14 => r = none ∧ eb_KO h14 ∧ Q none h14)))) ∧ (¬ ((eb_I h r1 4) < (4 : Int32)) → eb_Ct d 68 [.ref s_tape, .int 4] h (fun r h17 => r = none ∧ eb_KO h17 ∧ eb_Ct d 69 [.ref s_tape] h17 (fun r h20 => r = none ∧ eb_KO h20 ∧ ∃ r23, eb_R h20 s_reader 2 = some r23 ∧ eb_kd r23 = 9 ∧ eb_Ct d 51 [.ref s_reader, .int 0, .int (((eb_I h20 r23 0) * (eb_I h20 r23 1)) - 1)] h20 (fun r h26 => ∃ y27, r = some (.int y27) ∧ eb_KO h26 ∧ eb_Ct d 85 [.ref r23, .int y27] h26 (fun r h29 => r = none ∧ eb_KO h29 ∧ Q none h29))))))) : eb_Sn (d + 1) m_X5_readHouse h0 0 [(0, .ref s_reader)] [] h Q := by
  refine eb_aload_n (pc := 0) (n := 0) (i := 0) rfl rfl rfl ?_
  obtain ⟨r1, q2, k3, w⟩ := w
  refine eb_getR (pc := 1) rfl rfl (by decide) (by decide) rfl q2 ?_
  refine eb_getI (pc := 4) rfl k3 (by decide) (by decide) rfl ?_
  refine eb_iconst (pc := 7) (n := 4) (v := 4) rfl rfl ?_
  refine eb_icmp_lt (pc := 8) (tgt := 19) rfl (by decide) (fun c4 => ?_) (fun c4 => ?_)
  · replace w := w.1 c4
    refine eb_aload_n (pc := 19) (n := 0) (i := 0) rfl rfl rfl ?_
    refine eb_getR (pc := 20) rfl rfl (by decide) (by decide) rfl (ko_s_reader_1 ko) ?_
    refine eb_ctV (pc := 23) (As := []) (rest := []) rfl (by decide) rfl rfl (by decide) rfl (Nat.le_of_ble_eq_true rfl) ?_
    refine eb_Ct.mono w ?_
    rintro r h5 ⟨rfl, ko7, w⟩
    change eb_Sn _ _ _ 26 _ [] _ _
    refine eb_aload_n (pc := 26) (n := 0) (i := 0) rfl rfl rfl ?_
    obtain ⟨r8, q9, k10, w⟩ := w
    refine eb_getR (pc := 27) rfl rfl (by decide) (by decide) rfl q9 ?_
    refine eb_aload_n (pc := 30) (n := 0) (i := 0) rfl rfl rfl ?_
    refine eb_iconst (pc := 31) (n := 0) (v := 0) rfl rfl ?_
    refine eb_aload_n (pc := 32) (n := 0) (i := 0) rfl rfl rfl ?_
    refine eb_ctV (pc := 33) (As := []) (rest := [.int 0, .ref s_reader, .ref r8]) rfl (by decide) rfl rfl (by decide) rfl (Nat.le_of_ble_eq_true rfl) ?_
    refine eb_bodyQ (by decide) ok_X5_lastCell (Nat.le_of_ble_eq_true rfl) ?_
    change eb_Sn _ m_X5_lastCell _ 0 [(0, .ref s_reader)] [] _ _
    refine eb_aload_n (pc := 0) (n := 0) (i := 0) rfl rfl rfl ?_
    refine eb_getR (pc := 1) rfl rfl (by decide) (by decide) rfl q9 ?_
    refine eb_getI (pc := 4) rfl k10 (by decide) (by decide) rfl ?_
    refine eb_aload_n (pc := 7) (n := 0) (i := 0) rfl rfl rfl ?_
    refine eb_getR (pc := 8) rfl rfl (by decide) (by decide) rfl q9 ?_
    refine eb_getI (pc := 11) rfl k10 (by decide) (by decide) rfl ?_
    refine eb_imul (pc := 14) rfl ?_
    refine eb_iconst (pc := 15) (n := 1) (v := 1) rfl rfl ?_
    refine eb_isub (pc := 16) rfl ?_
    refine eb_ireturn (pc := 17) rfl rfl rfl ?_
    change eb_Sn _ _ _ 36 _ [.int (((eb_I h5 r8 0) * (eb_I h5 r8 1)) - 1), .int 0, .ref s_reader, .ref r8] _ _
    refine eb_ctV (pc := 36) (As := [.int 0, .int (((eb_I h5 r8 0) * (eb_I h5 r8 1)) - 1)]) (rest := [.ref r8]) rfl (by decide) rfl rfl (by decide) rfl (Nat.le_of_ble_eq_true rfl) ?_
    refine eb_Ct.mono w ?_
    rintro r h11 ⟨y12, rfl, ko13, w⟩
    change eb_Sn _ _ _ 39 _ [.int y12, .ref r8] _ _
    refine eb_ctV (pc := 39) (As := [.int y12]) (rest := []) rfl (by decide) rfl k10 (by decide) rfl (Nat.le_of_ble_eq_true rfl) ?_
    refine eb_Ct.mono w ?_
    rintro r h14 ⟨rfl, ko16, w⟩
    change eb_Sn _ _ _ 42 _ [] _ _
    exact eb_return (pc := 42) rfl rfl w
  · replace w := w.2 c4
    refine eb_aload_n (pc := 11) (n := 0) (i := 0) rfl rfl rfl ?_
    refine eb_getR (pc := 12) rfl rfl (by decide) (by decide) rfl (ko_s_reader_1 ko) ?_
    refine eb_iconst (pc := 15) (n := 4) (v := 4) rfl rfl ?_
    refine eb_ctV (pc := 16) (As := [.int 4]) (rest := []) rfl (by decide) rfl rfl (by decide) rfl (Nat.le_of_ble_eq_true rfl) ?_
    refine eb_Ct.mono w ?_
    rintro r h17 ⟨rfl, ko19, w⟩
    change eb_Sn _ _ _ 19 _ [] _ _
    refine eb_aload_n (pc := 19) (n := 0) (i := 0) rfl rfl rfl ?_
    refine eb_getR (pc := 20) rfl rfl (by decide) (by decide) rfl (ko_s_reader_1 ko19) ?_
    refine eb_ctV (pc := 23) (As := []) (rest := []) rfl (by decide) rfl rfl (by decide) rfl (Nat.le_of_ble_eq_true rfl) ?_
    refine eb_Ct.mono w ?_
    rintro r h20 ⟨rfl, ko22, w⟩
    change eb_Sn _ _ _ 26 _ [] _ _
    refine eb_aload_n (pc := 26) (n := 0) (i := 0) rfl rfl rfl ?_
    obtain ⟨r23, q24, k25, w⟩ := w
    refine eb_getR (pc := 27) rfl rfl (by decide) (by decide) rfl q24 ?_
    refine eb_aload_n (pc := 30) (n := 0) (i := 0) rfl rfl rfl ?_
    refine eb_iconst (pc := 31) (n := 0) (v := 0) rfl rfl ?_
    refine eb_aload_n (pc := 32) (n := 0) (i := 0) rfl rfl rfl ?_
    refine eb_ctV (pc := 33) (As := []) (rest := [.int 0, .ref s_reader, .ref r23]) rfl (by decide) rfl rfl (by decide) rfl (Nat.le_of_ble_eq_true rfl) ?_
    refine eb_bodyQ (by decide) ok_X5_lastCell (Nat.le_of_ble_eq_true rfl) ?_
    change eb_Sn _ m_X5_lastCell _ 0 [(0, .ref s_reader)] [] _ _
    refine eb_aload_n (pc := 0) (n := 0) (i := 0) rfl rfl rfl ?_
    refine eb_getR (pc := 1) rfl rfl (by decide) (by decide) rfl q24 ?_
    refine eb_getI (pc := 4) rfl k25 (by decide) (by decide) rfl ?_
    refine eb_aload_n (pc := 7) (n := 0) (i := 0) rfl rfl rfl ?_
    refine eb_getR (pc := 8) rfl rfl (by decide) (by decide) rfl q24 ?_
    refine eb_getI (pc := 11) rfl k25 (by decide) (by decide) rfl ?_
    refine eb_imul (pc := 14) rfl ?_
    refine eb_iconst (pc := 15) (n := 1) (v := 1) rfl rfl ?_
    refine eb_isub (pc := 16) rfl ?_
    refine eb_ireturn (pc := 17) rfl rfl rfl ?_
    change eb_Sn _ _ _ 36 _ [.int (((eb_I h20 r23 0) * (eb_I h20 r23 1)) - 1), .int 0, .ref s_reader, .ref r23] _ _
    refine eb_ctV (pc := 36) (As := [.int 0, .int (((eb_I h20 r23 0) * (eb_I h20 r23 1)) - 1)]) (rest := [.ref r23]) rfl (by decide) rfl rfl (by decide) rfl (Nat.le_of_ble_eq_true rfl) ?_
    refine eb_Ct.mono w ?_
    rintro r h26 ⟨y27, rfl, ko28, w⟩
    change eb_Sn _ _ _ 39 _ [.int y27, .ref r23] _ _
    refine eb_ctV (pc := 39) (As := [.int y27]) (rest := []) rfl (by decide) rfl k25 (by decide) rfl (Nat.le_of_ble_eq_true rfl) ?_
    refine eb_Ct.mono w ?_
    rintro r h29 ⟨rfl, ko31, w⟩
    change eb_Sn _ _ _ 42 _ [] _ _
    exact eb_return (pc := 42) rfl rfl w
theorem T_X5_readHouse {d : Nat} {h : eb_H} {Q : Option Value → eb_H → Prop}   (ko : eb_KO h) (w : ∃ r1, eb_R h s_reader 2 = some r1 ∧ eb_kd r1 = 9 ∧ (((eb_I h r1 4) < (4 : Int32) → eb_Ct d 69 [.ref s_tape] h (fun r h5 => r = none ∧ eb_KO h5 ∧ ∃ r8, eb_R h5 s_reader 2 = some r8 ∧ eb_kd r8 = 9 ∧ eb_Ct d 51 [.ref s_reader, .int 0, .int (((eb_I h5 r8 0) * (eb_I h5 r8 1)) - 1)] h5 (fun r h11 => ∃ y12, r = some (.int y12) ∧ eb_KO h11 ∧ eb_Ct d 85 [.ref r8, .int y12] h11 (fun r h14 => r = none ∧ eb_KO h14 ∧ Q none h14)))) ∧ (¬ ((eb_I h r1 4) < (4 : Int32)) → eb_Ct d 68 [.ref s_tape, .int 4] h (fun r h17 => r = none ∧ eb_KO h17 ∧ eb_Ct d 69 [.ref s_tape] h17 (fun r h20 => r = none ∧ eb_KO h20 ∧ ∃ r23, eb_R h20 s_reader 2 = some r23 ∧ eb_kd r23 = 9 ∧ eb_Ct d 51 [.ref s_reader, .int 0, .int (((eb_I h20 r23 0) * (eb_I h20 r23 1)) - 1)] h20 (fun r h26 => ∃ y27, r = some (.int y27) ∧ eb_KO h26 ∧ eb_Ct d 85 [.ref r23, .int y27] h26 (fun r h29 => r = none ∧ eb_KO h29 ∧ Q none h29))))))) : eb_Ct (d + 1) 56 [.ref s_reader] h Q :=
  eb_bodyQ (by decide) ok_X5_readHouse (Nat.le_of_ble_eq_true rfl) (b_X5_readHouse_0 (h0 := h)   ko w)
theorem b_X5_readWind_0 {d : Nat} {h0 h : eb_H} {Q : Option Value → eb_H → Prop}   (ko : eb_KO h) (w : eb_Ct d 69 [.ref s_tape] h (fun r h1 => r = none ∧ eb_KO h1 ∧ eb_Ct d 51 [.ref s_reader, .int 0, .int 9] h1 (fun r h4 => ∃ y5, r = some (.int y5) ∧ eb_KO h4 ∧ Q none (eb_sI h4 s_reader_start 4 y5)))) : eb_Sn (d + 1) m_X5_readWind h0 0 [(0, .ref s_reader)] [] h Q := by
  refine eb_aload_n (pc := 0) (n := 0) (i := 0) rfl rfl rfl ?_
  refine eb_getR (pc := 1) rfl rfl (by decide) (by decide) rfl (ko_s_reader_1 ko) ?_
  refine eb_ctV (pc := 4) (As := []) (rest := []) rfl (by decide) rfl rfl (by decide) rfl (Nat.le_of_ble_eq_true rfl) ?_
  refine eb_Ct.mono w ?_
  rintro r h1 ⟨rfl, ko3, w⟩
  change eb_Sn _ _ _ 7 _ [] _ _
  refine eb_aload_n (pc := 7) (n := 0) (i := 0) rfl rfl rfl ?_
  refine eb_getR (pc := 8) rfl rfl (by decide) (by decide) rfl (ko_s_reader_3 ko3) ?_
  refine eb_aload_n (pc := 11) (n := 0) (i := 0) rfl rfl rfl ?_
  refine eb_iconst (pc := 12) (n := 0) (v := 0) rfl rfl ?_
  refine eb_bipush (pc := 13) (n := 9) (v := 9) rfl rfl ?_
  refine eb_ctV (pc := 15) (As := [.int 0, .int 9]) (rest := [.ref s_reader_start]) rfl (by decide) rfl rfl (by decide) rfl (Nat.le_of_ble_eq_true rfl) ?_
  refine eb_Ct.mono w ?_
  rintro r h4 ⟨y5, rfl, ko6, w⟩
  change eb_Sn _ _ _ 18 _ [.int y5, .ref s_reader_start] _ _
  refine eb_putI (pc := 18) rfl rfl (by decide) (by decide) rfl rfl ⟨rfl, rfl⟩ ?_
  exact eb_return (pc := 21) rfl rfl w
theorem T_X5_readWind {d : Nat} {h : eb_H} {Q : Option Value → eb_H → Prop}   (ko : eb_KO h) (w : eb_Ct d 69 [.ref s_tape] h (fun r h1 => r = none ∧ eb_KO h1 ∧ eb_Ct d 51 [.ref s_reader, .int 0, .int 9] h1 (fun r h4 => ∃ y5, r = some (.int y5) ∧ eb_KO h4 ∧ Q none (eb_sI h4 s_reader_start 4 y5)))) : eb_Ct (d + 1) 57 [.ref s_reader] h Q :=
  eb_bodyQ (by decide) ok_X5_readWind (Nat.le_of_ble_eq_true rfl) (b_X5_readWind_0 (h0 := h)   ko w)
theorem b_X5_readBat_0 {d : Nat} {h0 h : eb_H} {Q : Option Value → eb_H → Prop}   (ko : eb_KO h) (w : eb_Ct d 69 [.ref s_tape] h (fun r h1 => r = none ∧ eb_KO h1 ∧ ∃ r4, eb_R h1 s_reader 2 = some r4 ∧ eb_kd r4 = 9 ∧ eb_Ct d 51 [.ref s_reader, .int 0, .int (((eb_I h1 r4 0) * (eb_I h1 r4 1)) - 1)] h1 (fun r h7 => ∃ y8, r = some (.int y8) ∧ eb_KO h7 ∧ eb_Sn (d + 1) m_X5_readBat h0 33 [(0, .ref s_reader), (1, .int 0)] [] (eb_sI (eb_sI h7 s_reader_start 0 y8) s_reader_start 1 0) Q))) : eb_Sn (d + 1) m_X5_readBat h0 0 [(0, .ref s_reader)] [] h Q := by
  refine eb_aload_n (pc := 0) (n := 0) (i := 0) rfl rfl rfl ?_
  refine eb_getR (pc := 1) rfl rfl (by decide) (by decide) rfl (ko_s_reader_1 ko) ?_
  refine eb_ctV (pc := 4) (As := []) (rest := []) rfl (by decide) rfl rfl (by decide) rfl (Nat.le_of_ble_eq_true rfl) ?_
  refine eb_Ct.mono w ?_
  rintro r h1 ⟨rfl, ko3, w⟩
  change eb_Sn _ _ _ 7 _ [] _ _
  refine eb_aload_n (pc := 7) (n := 0) (i := 0) rfl rfl rfl ?_
  refine eb_getR (pc := 8) rfl rfl (by decide) (by decide) rfl (ko_s_reader_3 ko3) ?_
  refine eb_aload_n (pc := 11) (n := 0) (i := 0) rfl rfl rfl ?_
  refine eb_iconst (pc := 12) (n := 0) (v := 0) rfl rfl ?_
  refine eb_aload_n (pc := 13) (n := 0) (i := 0) rfl rfl rfl ?_
  refine eb_ctV (pc := 14) (As := []) (rest := [.int 0, .ref s_reader, .ref s_reader_start]) rfl (by decide) rfl rfl (by decide) rfl (Nat.le_of_ble_eq_true rfl) ?_
  refine eb_bodyQ (by decide) ok_X5_lastCell (Nat.le_of_ble_eq_true rfl) ?_
  change eb_Sn _ m_X5_lastCell _ 0 [(0, .ref s_reader)] [] _ _
  refine eb_aload_n (pc := 0) (n := 0) (i := 0) rfl rfl rfl ?_
  obtain ⟨r4, q5, k6, w⟩ := w
  refine eb_getR (pc := 1) rfl rfl (by decide) (by decide) rfl q5 ?_
  refine eb_getI (pc := 4) rfl k6 (by decide) (by decide) rfl ?_
  refine eb_aload_n (pc := 7) (n := 0) (i := 0) rfl rfl rfl ?_
  refine eb_getR (pc := 8) rfl rfl (by decide) (by decide) rfl q5 ?_
  refine eb_getI (pc := 11) rfl k6 (by decide) (by decide) rfl ?_
  refine eb_imul (pc := 14) rfl ?_
  refine eb_iconst (pc := 15) (n := 1) (v := 1) rfl rfl ?_
  refine eb_isub (pc := 16) rfl ?_
  refine eb_ireturn (pc := 17) rfl rfl rfl ?_
  change eb_Sn _ _ _ 17 _ [.int (((eb_I h1 r4 0) * (eb_I h1 r4 1)) - 1), .int 0, .ref s_reader, .ref s_reader_start] _ _
  refine eb_ctV (pc := 17) (As := [.int 0, .int (((eb_I h1 r4 0) * (eb_I h1 r4 1)) - 1)]) (rest := [.ref s_reader_start]) rfl (by decide) rfl rfl (by decide) rfl (Nat.le_of_ble_eq_true rfl) ?_
  refine eb_Ct.mono w ?_
  rintro r h7 ⟨y8, rfl, ko9, w⟩
  change eb_Sn _ _ _ 20 _ [.int y8, .ref s_reader_start] _ _
  refine eb_putI (pc := 20) rfl rfl (by decide) (by decide) rfl rfl ⟨rfl, rfl⟩ ?_
  refine eb_aload_n (pc := 23) (n := 0) (i := 0) rfl rfl rfl ?_
  refine eb_getR (pc := 24) rfl rfl (by decide) (by decide) rfl (ko_s_reader_3 ko9) ?_
  refine eb_iconst (pc := 27) (n := 0) (v := 0) rfl rfl ?_
  refine eb_putI (pc := 28) rfl rfl (by decide) (by decide) rfl rfl ⟨rfl, rfl⟩ ?_
  refine eb_iconst (pc := 31) (n := 0) (v := 0) rfl rfl ?_
  refine eb_istore_n (pc := 32) (n := 1) (i := 1) (ls2 := [(1, .int 0), (0, .ref s_reader)]) rfl (Nat.le_of_ble_eq_true rfl) rfl rfl ?_
  exact eb_pick [1, 0] rfl w
theorem b_X5_readBat_33 {d : Nat} {h0 h : eb_H} {Q : Option Value → eb_H → Prop} (x1 : Int32)  (ko : eb_KO h) (w : (((900 : Int32) ≤ x1 → Q none h) ∧ (¬ ((900 : Int32) ≤ x1) → ((¬ (eb_I h s_tape 7) = 0 → Q none h) ∧ ((eb_I h s_tape 7) = 0 → ((¬ (eb_I h s_tape 5) = (2 : Int32) → Q none h) ∧ ((eb_I h s_tape 5) = (2 : Int32) → eb_Ct d 283 [.int ((eb_I h s_reader_start 1) ||| (if (1 : Int32) ≤ (if (6 : Int32) < (eb_I h s_tape 6) then 6 else eb_I h s_tape 6 : Int32) then (1 : Int32) <<< (((if (6 : Int32) < (eb_I h s_tape 6) then 6 else eb_I h s_tape 6 : Int32) - 1) &&& 31) else 0 : Int32))] h (fun r h10 => ∃ y11, r = some (.int y11) ∧ eb_KO h10 ∧ ∃ r13, eb_R h10 s_reader 2 = some r13 ∧ eb_kd r13 = 9 ∧ ((y11 ≤ (eb_I h10 r13 2) → eb_Ct d 51 [.ref s_reader, .int 1, .int 6] h10 (fun r h17 => ∃ y18, r = some (.int y18) ∧ eb_KO h17 ∧ eb_Sn (d + 1) m_X5_readBat h0 33 [(0, .ref s_reader), (1, .int (x1 + 1))] [] (eb_sI h17 s_reader_start 1 ((eb_I h s_reader_start 1) ||| (if (1 : Int32) ≤ (if (6 : Int32) < (eb_I h s_tape 6) then 6 else eb_I h s_tape 6 : Int32) then (1 : Int32) <<< (((if (6 : Int32) < (eb_I h s_tape 6) then 6 else eb_I h s_tape 6 : Int32) - 1) &&& 31) else 0 : Int32))) Q)) ∧ (¬ (y11 ≤ (eb_I h10 r13 2)) → eb_Ct d 68 [.ref s_tape, .int 3] h10 (fun r h20 => r = none ∧ eb_KO h20 ∧ eb_Ct d 51 [.ref s_reader, .int 1, .int 6] h20 (fun r h23 => ∃ y24, r = some (.int y24) ∧ eb_KO h23 ∧ eb_Sn (d + 1) m_X5_readBat h0 33 [(0, .ref s_reader), (1, .int (x1 + 1))] [] (eb_sI h23 s_reader_start 1 ((eb_I h s_reader_start 1) ||| (if (1 : Int32) ≤ (if (6 : Int32) < (eb_I h s_tape 6) then 6 else eb_I h s_tape 6 : Int32) then (1 : Int32) <<< (((if (6 : Int32) < (eb_I h s_tape 6) then 6 else eb_I h s_tape 6 : Int32) - 1) &&& 31) else 0 : Int32))) Q)))))))))))) : eb_Sn (d + 1) m_X5_readBat h0 33 [(0, .ref s_reader), (1, .int x1)] [] h Q := by
  refine eb_iload_n (pc := 33) (n := 1) (i := 1) rfl rfl rfl ?_
  refine eb_sipush (pc := 34) (n := 900) (v := 900) rfl rfl ?_
  refine eb_icmp_ge (pc := 37) (tgt := 129) rfl (by decide) (fun c1 => ?_) (fun c1 => ?_)
  · replace w := w.1 c1
    exact eb_return (pc := 129) rfl rfl w
  · replace w := w.2 c1
    refine eb_aload_n (pc := 40) (n := 0) (i := 0) rfl rfl rfl ?_
    refine eb_getR (pc := 41) rfl rfl (by decide) (by decide) rfl (ko_s_reader_1 ko) ?_
    refine eb_getI (pc := 44) rfl rfl (by decide) (by decide) rfl ?_
    refine eb_if_ne (pc := 47) (tgt := 129) rfl (by decide) (fun c2 => ?_) (fun c2 => ?_)
    · replace w := w.1 c2
      exact eb_return (pc := 129) rfl rfl w
    · replace w := w.2 c2
      refine eb_aload_n (pc := 50) (n := 0) (i := 0) rfl rfl rfl ?_
      refine eb_getR (pc := 51) rfl rfl (by decide) (by decide) rfl (ko_s_reader_1 ko) ?_
      refine eb_getI (pc := 54) rfl rfl (by decide) (by decide) rfl ?_
      refine eb_iconst (pc := 57) (n := 2) (v := 2) rfl rfl ?_
      refine eb_icmp_ne (pc := 58) (tgt := 129) rfl (by decide) (fun c3 => ?_) (fun c3 => ?_)
      · replace w := w.1 c3
        exact eb_return (pc := 129) rfl rfl w
      · replace w := w.2 c3
        refine eb_aload_n (pc := 61) (n := 0) (i := 0) rfl rfl rfl ?_
        refine eb_getR (pc := 62) rfl rfl (by decide) (by decide) rfl (ko_s_reader_3 ko) ?_
        refine eb_getI (pc := 65) rfl rfl (by decide) (by decide) rfl ?_
        refine eb_aload_n (pc := 68) (n := 0) (i := 0) rfl rfl rfl ?_
        refine eb_getR (pc := 69) rfl rfl (by decide) (by decide) rfl (ko_s_reader_1 ko) ?_
        refine eb_getI (pc := 72) rfl rfl (by decide) (by decide) rfl ?_
        refine eb_bipush (pc := 75) (n := 6) (v := 6) rfl rfl ?_
        refine eb_ctS (pc := 77) (As := [.int (eb_I h s_tape 6), .int 6]) (rest := [.int (eb_I h s_reader_start 1)]) rfl (by decide) (by decide) rfl rfl (Nat.le_of_ble_eq_true rfl) ?_
        refine eb_bodyQ (by decide) ok_J9_min_7cf53 (Nat.le_of_ble_eq_true rfl) ?_
        change eb_Sn _ m_J9_min_7cf53 _ 0 [(0, .int (eb_I h s_tape 6)), (1, .int 6)] [] _ _
        refine eb_iload_n (pc := 0) (n := 0) (i := 0) rfl rfl rfl ?_
        refine eb_iload_n (pc := 1) (n := 1) (i := 1) rfl rfl rfl ?_
        refine eb_joinI (pc2 := 10) (ls2 := [(0, .int (eb_I h s_tape 6)), (1, .int 6)]) (st2 := []) (v := (if (6 : Int32) < (eb_I h s_tape 6) then 6 else eb_I h s_tape 6 : Int32)) ?_ (fun jj5 => ?_)
        · refine eb_ireturn (pc := 10) rfl rfl rfl ?_
          change eb_Sn _ _ _ 80 _ [.int (if (6 : Int32) < (eb_I h s_tape 6) then 6 else eb_I h s_tape 6 : Int32), .int (eb_I h s_reader_start 1)] _ _
          refine eb_ctS (pc := 80) (As := [.int (if (6 : Int32) < (eb_I h s_tape 6) then 6 else eb_I h s_tape 6 : Int32)]) (rest := [.int (eb_I h s_reader_start 1)]) rfl (by decide) (by decide) rfl rfl (Nat.le_of_ble_eq_true rfl) ?_
          refine eb_bodyQ (by decide) ok_X10_bitOf (Nat.le_of_ble_eq_true rfl) ?_
          change eb_Sn _ m_X10_bitOf _ 0 [(0, .int (if (6 : Int32) < (eb_I h s_tape 6) then 6 else eb_I h s_tape 6 : Int32))] [] _ _
          refine eb_iload_n (pc := 0) (n := 0) (i := 0) rfl rfl rfl ?_
          refine eb_iconst (pc := 1) (n := 1) (v := 1) rfl rfl ?_
          refine eb_joinI (pc2 := 14) (ls2 := [(0, .int (if (6 : Int32) < (eb_I h s_tape 6) then 6 else eb_I h s_tape 6 : Int32))]) (st2 := []) (v := (if (1 : Int32) ≤ (if (6 : Int32) < (eb_I h s_tape 6) then 6 else eb_I h s_tape 6 : Int32) then (1 : Int32) <<< (((if (6 : Int32) < (eb_I h s_tape 6) then 6 else eb_I h s_tape 6 : Int32) - 1) &&& 31) else 0 : Int32)) ?_ (fun jj8 => ?_)
          · refine eb_ireturn (pc := 14) rfl rfl rfl ?_
            change eb_Sn _ _ _ 83 _ [.int (if (1 : Int32) ≤ (if (6 : Int32) < (eb_I h s_tape 6) then 6 else eb_I h s_tape 6 : Int32) then (1 : Int32) <<< (((if (6 : Int32) < (eb_I h s_tape 6) then 6 else eb_I h s_tape 6 : Int32) - 1) &&& 31) else 0 : Int32), .int (eb_I h s_reader_start 1)] _ _
            refine eb_ior (pc := 83) rfl ?_
            refine eb_istore_n (pc := 84) (n := 2) (i := 2) (ls2 := [(2, .int ((eb_I h s_reader_start 1) ||| (if (1 : Int32) ≤ (if (6 : Int32) < (eb_I h s_tape 6) then 6 else eb_I h s_tape 6 : Int32) then (1 : Int32) <<< (((if (6 : Int32) < (eb_I h s_tape 6) then 6 else eb_I h s_tape 6 : Int32) - 1) &&& 31) else 0 : Int32))), (0, .ref s_reader), (1, .int x1)]) rfl (Nat.le_of_ble_eq_true rfl) rfl rfl ?_
            refine eb_iload_n (pc := 85) (n := 2) (i := 2) rfl rfl rfl ?_
            refine eb_ctS (pc := 86) (As := [.int ((eb_I h s_reader_start 1) ||| (if (1 : Int32) ≤ (if (6 : Int32) < (eb_I h s_tape 6) then 6 else eb_I h s_tape 6 : Int32) then (1 : Int32) <<< (((if (6 : Int32) < (eb_I h s_tape 6) then 6 else eb_I h s_tape 6 : Int32) - 1) &&& 31) else 0 : Int32))]) (rest := []) rfl (by decide) (by decide) rfl rfl (Nat.le_of_ble_eq_true rfl) ?_
            refine eb_Ct.mono w ?_
            rintro r h10 ⟨y11, rfl, ko12, w⟩
            change eb_Sn _ _ _ 89 _ [.int y11] _ _
            refine eb_aload_n (pc := 89) (n := 0) (i := 0) rfl rfl rfl ?_
            obtain ⟨r13, q14, k15, w⟩ := w
            refine eb_getR (pc := 90) rfl rfl (by decide) (by decide) rfl q14 ?_
            refine eb_getI (pc := 93) rfl k15 (by decide) (by decide) rfl ?_
            refine eb_icmp_le (pc := 96) (tgt := 107) rfl (by decide) (fun c16 => ?_) (fun c16 => ?_)
            · replace w := w.1 c16
              refine eb_aload_n (pc := 107) (n := 0) (i := 0) rfl rfl rfl ?_
              refine eb_iconst (pc := 108) (n := 1) (v := 1) rfl rfl ?_
              refine eb_bipush (pc := 109) (n := 6) (v := 6) rfl rfl ?_
              refine eb_ctV (pc := 111) (As := [.int 1, .int 6]) (rest := []) rfl (by decide) rfl rfl (by decide) rfl (Nat.le_of_ble_eq_true rfl) ?_
              refine eb_Ct.mono w ?_
              rintro r h17 ⟨y18, rfl, ko19, w⟩
              change eb_Sn _ _ _ 114 _ [.int y18] _ _
              refine eb_popi (pc := 114) rfl ?_
              refine eb_aload_n (pc := 115) (n := 0) (i := 0) rfl rfl rfl ?_
              refine eb_getR (pc := 116) rfl rfl (by decide) (by decide) rfl (ko_s_reader_3 ko19) ?_
              refine eb_iload_n (pc := 119) (n := 2) (i := 2) rfl rfl rfl ?_
              refine eb_putI (pc := 120) rfl rfl (by decide) (by decide) rfl rfl ⟨rfl, rfl⟩ ?_
              refine eb_iinc (pc := 123) (i := 1) (n := 1) (v := x1 + 1) (ls2 := [(1, .int (x1 + 1)), (2, .int ((eb_I h s_reader_start 1) ||| (if (1 : Int32) ≤ (if (6 : Int32) < (eb_I h s_tape 6) then 6 else eb_I h s_tape 6 : Int32) then (1 : Int32) <<< (((if (6 : Int32) < (eb_I h s_tape 6) then 6 else eb_I h s_tape 6 : Int32) - 1) &&& 31) else 0 : Int32))), (0, .ref s_reader)]) (Nat.le_of_ble_eq_true rfl) rfl rfl rfl rfl ?_
              refine eb_goto (pc := 126) (tgt := 33) rfl (by decide) ?_
              exact eb_pick [2, 0] rfl w
            · replace w := w.2 c16
              refine eb_aload_n (pc := 99) (n := 0) (i := 0) rfl rfl rfl ?_
              refine eb_getR (pc := 100) rfl rfl (by decide) (by decide) rfl (ko_s_reader_1 ko12) ?_
              refine eb_iconst (pc := 103) (n := 3) (v := 3) rfl rfl ?_
              refine eb_ctV (pc := 104) (As := [.int 3]) (rest := []) rfl (by decide) rfl rfl (by decide) rfl (Nat.le_of_ble_eq_true rfl) ?_
              refine eb_Ct.mono w ?_
              rintro r h20 ⟨rfl, ko22, w⟩
              change eb_Sn _ _ _ 107 _ [] _ _
              refine eb_aload_n (pc := 107) (n := 0) (i := 0) rfl rfl rfl ?_
              refine eb_iconst (pc := 108) (n := 1) (v := 1) rfl rfl ?_
              refine eb_bipush (pc := 109) (n := 6) (v := 6) rfl rfl ?_
              refine eb_ctV (pc := 111) (As := [.int 1, .int 6]) (rest := []) rfl (by decide) rfl rfl (by decide) rfl (Nat.le_of_ble_eq_true rfl) ?_
              refine eb_Ct.mono w ?_
              rintro r h23 ⟨y24, rfl, ko25, w⟩
              change eb_Sn _ _ _ 114 _ [.int y24] _ _
              refine eb_popi (pc := 114) rfl ?_
              refine eb_aload_n (pc := 115) (n := 0) (i := 0) rfl rfl rfl ?_
              refine eb_getR (pc := 116) rfl rfl (by decide) (by decide) rfl (ko_s_reader_3 ko25) ?_
              refine eb_iload_n (pc := 119) (n := 2) (i := 2) rfl rfl rfl ?_
              refine eb_putI (pc := 120) rfl rfl (by decide) (by decide) rfl rfl ⟨rfl, rfl⟩ ?_
              refine eb_iinc (pc := 123) (i := 1) (n := 1) (v := x1 + 1) (ls2 := [(1, .int (x1 + 1)), (2, .int ((eb_I h s_reader_start 1) ||| (if (1 : Int32) ≤ (if (6 : Int32) < (eb_I h s_tape 6) then 6 else eb_I h s_tape 6 : Int32) then (1 : Int32) <<< (((if (6 : Int32) < (eb_I h s_tape 6) then 6 else eb_I h s_tape 6 : Int32) - 1) &&& 31) else 0 : Int32))), (0, .ref s_reader)]) (Nat.le_of_ble_eq_true rfl) rfl rfl rfl rfl ?_
              refine eb_goto (pc := 126) (tgt := 33) rfl (by decide) ?_
              exact eb_pick [2, 0] rfl w
          refine eb_icmp_ge (pc := 2) (tgt := 9) rfl (by decide) (fun c7 => ?_) (fun c7 => ?_)
          · refine eb_iconst (pc := 9) (n := 1) (v := 1) rfl rfl ?_
            refine eb_iload_n (pc := 10) (n := 0) (i := 0) rfl rfl rfl ?_
            refine eb_iconst (pc := 11) (n := 1) (v := 1) rfl rfl ?_
            refine eb_isub (pc := 12) rfl ?_
            refine eb_ishl (pc := 13) rfl ?_
            exact jj8 _ (by simp only [if_pos c7])
          · refine eb_iconst (pc := 5) (n := 0) (v := 0) rfl rfl ?_
            refine eb_goto (pc := 6) (tgt := 14) rfl (by decide) ?_
            exact jj8 _ (by simp only [if_neg c7])
        refine eb_icmp_gt (pc := 2) (tgt := 9) rfl (by decide) (fun c4 => ?_) (fun c4 => ?_)
        · refine eb_iload_n (pc := 9) (n := 1) (i := 1) rfl rfl rfl ?_
          exact jj5 _ (by simp only [if_pos c4])
        · refine eb_iload_n (pc := 5) (n := 0) (i := 0) rfl rfl rfl ?_
          refine eb_goto (pc := 6) (tgt := 10) rfl (by decide) ?_
          exact jj5 _ (by simp only [if_neg c4])
theorem T_X5_readBat {d : Nat} {h : eb_H} {Q : Option Value → eb_H → Prop}   (ko : eb_KO h) (w : eb_Ct d 69 [.ref s_tape] h (fun r h1 => r = none ∧ eb_KO h1 ∧ ∃ r4, eb_R h1 s_reader 2 = some r4 ∧ eb_kd r4 = 9 ∧ eb_Ct d 51 [.ref s_reader, .int 0, .int (((eb_I h1 r4 0) * (eb_I h1 r4 1)) - 1)] h1 (fun r h7 => ∃ y8, r = some (.int y8) ∧ eb_KO h7 ∧ eb_Sn (d + 1) m_X5_readBat h 33 [(0, .ref s_reader), (1, .int 0)] [] (eb_sI (eb_sI h7 s_reader_start 0 y8) s_reader_start 1 0) Q))) : eb_Ct (d + 1) 58 [.ref s_reader] h Q :=
  eb_bodyQ (by decide) ok_X5_readBat (Nat.le_of_ble_eq_true rfl) (b_X5_readBat_0 (h0 := h)   ko w)
theorem b_X6_init_0 {d : Nat} {h0 h : eb_H} {Q : Option Value → eb_H → Prop} (a0 : Nat) (ka0 : eb_kd a0 = 6) (w : ∀ h1, h1 = eb_sI h a0 0 0 → ∀ h3, h3 = eb_sI h1 a0 1 0 → ∀ h5, h5 = eb_sI h3 a0 2 0 → ∀ h7, h7 = eb_sI h5 a0 3 0 → ∀ h9, h9 = eb_sI h7 a0 4 0 → ∀ r13, r13 = eb_nx h9 13 16 → ∀ h11, h11 = eb_nw h9 13 16 16 → ∀ h15, h15 = eb_sR h11 a0 5 (some r13) → Q none h15) : eb_Sn (d + 1) m_X6_init h0 0 [(0, .ref a0)] [] h Q := by
  refine eb_aload_n (pc := 0) (n := 0) (i := 0) rfl rfl rfl ?_
  refine eb_objInit (pc := 1) rfl (by decide +kernel) (by omega) (Nat.le_of_ble_eq_true rfl) ?_
  refine eb_aload_n (pc := 4) (n := 0) (i := 0) rfl rfl rfl ?_
  refine eb_iconst (pc := 5) (n := 0) (v := 0) rfl rfl ?_
  refine eb_putI (pc := 6) rfl ka0 (by decide) (by decide) rfl rfl ⟨rfl, rfl⟩ ?_
  obtain ⟨h1, e2⟩ : ∃ z, z = eb_sI h a0 0 0 := ⟨_, rfl⟩
  rw [← e2]
  replace w := w h1 e2
  refine eb_aload_n (pc := 9) (n := 0) (i := 0) rfl rfl rfl ?_
  refine eb_iconst (pc := 10) (n := 0) (v := 0) rfl rfl ?_
  refine eb_putI (pc := 11) rfl ka0 (by decide) (by decide) rfl rfl ⟨rfl, rfl⟩ ?_
  obtain ⟨h3, e4⟩ : ∃ z, z = eb_sI h1 a0 1 0 := ⟨_, rfl⟩
  rw [← e4]
  replace w := w h3 e4
  refine eb_aload_n (pc := 14) (n := 0) (i := 0) rfl rfl rfl ?_
  refine eb_iconst (pc := 15) (n := 0) (v := 0) rfl rfl ?_
  refine eb_putI (pc := 16) rfl ka0 (by decide) (by decide) rfl rfl ⟨rfl, rfl⟩ ?_
  obtain ⟨h5, e6⟩ : ∃ z, z = eb_sI h3 a0 2 0 := ⟨_, rfl⟩
  rw [← e6]
  replace w := w h5 e6
  refine eb_aload_n (pc := 19) (n := 0) (i := 0) rfl rfl rfl ?_
  refine eb_iconst (pc := 20) (n := 0) (v := 0) rfl rfl ?_
  refine eb_putI (pc := 21) rfl ka0 (by decide) (by decide) rfl rfl ⟨rfl, rfl⟩ ?_
  obtain ⟨h7, e8⟩ : ∃ z, z = eb_sI h5 a0 3 0 := ⟨_, rfl⟩
  rw [← e8]
  replace w := w h7 e8
  refine eb_aload_n (pc := 24) (n := 0) (i := 0) rfl rfl rfl ?_
  refine eb_iconst (pc := 25) (n := 0) (v := 0) rfl rfl ?_
  refine eb_putI (pc := 26) rfl ka0 (by decide) (by decide) rfl rfl ⟨rfl, rfl⟩ ?_
  obtain ⟨h9, e10⟩ : ∃ z, z = eb_sI h7 a0 4 0 := ⟨_, rfl⟩
  rw [← e10]
  replace w := w h9 e10
  refine eb_aload_n (pc := 29) (n := 0) (i := 0) rfl rfl rfl ?_
  refine eb_bipush (pc := 30) (n := 16) (v := 16) rfl rfl ?_
  refine eb_newI (pc := 32) (kd := 13) (len := 16) rfl rfl (by decide) (by decide) rfl (by decide) ?_
  obtain ⟨r13, e14⟩ : ∃ z, z = eb_nx h9 13 16 := ⟨_, rfl⟩
  rw [← e14]
  replace w := w r13 e14
  obtain ⟨h11, e12⟩ : ∃ z, z = eb_nw h9 13 16 16 := ⟨_, rfl⟩
  rw [← e12]
  replace w := w h11 e12
  refine eb_putR (pc := 34) rfl ka0 (by decide) (by decide) rfl (Or.inr ⟨rfl, rfl, rfl⟩) (eb_k20 (c := 13) (by rw [e14]; exact eb_mk_kd (by decide)) (by decide)) ?_
  obtain ⟨h15, e16⟩ : ∃ z, z = eb_sR h11 a0 5 (some r13) := ⟨_, rfl⟩
  rw [← e16]
  replace w := w h15 e16
  exact eb_return (pc := 37) rfl rfl w
theorem T_X6_init {d : Nat} {h : eb_H} {Q : Option Value → eb_H → Prop} (a0 : Nat) (ka0 : eb_kd a0 = 6) (w : ∀ h1, h1 = eb_sI h a0 0 0 → ∀ h3, h3 = eb_sI h1 a0 1 0 → ∀ h5, h5 = eb_sI h3 a0 2 0 → ∀ h7, h7 = eb_sI h5 a0 3 0 → ∀ h9, h9 = eb_sI h7 a0 4 0 → ∀ r13, r13 = eb_nx h9 13 16 → ∀ h11, h11 = eb_nw h9 13 16 16 → ∀ h15, h15 = eb_sR h11 a0 5 (some r13) → Q none h15) : eb_Ct (d + 1) 59 [.ref a0] h Q :=
  eb_bodyQ (by decide) ok_X6_init (Nat.le_of_ble_eq_true rfl) (b_X6_init_0 (h0 := h) a0 ka0 w)
theorem b_X6_become_0 {d : Nat} {h0 h : eb_H} {Q : Option Value → eb_H → Prop} (a0 : Nat) (a1 : Nat) (ka0 : eb_kd a0 = 6) (ka1 : eb_kd a1 = 6) (ko : eb_KO h) (w : ∃ r1, eb_R (eb_sI (eb_sI (eb_sI (eb_sI (eb_sI h a0 0 (eb_I h a1 0)) a0 1 (eb_I (eb_sI h a0 0 (eb_I h a1 0)) a1 1)) a0 2 (eb_I (eb_sI (eb_sI h a0 0 (eb_I h a1 0)) a0 1 (eb_I (eb_sI h a0 0 (eb_I h a1 0)) a1 1)) a1 2)) a0 3 (eb_I (eb_sI (eb_sI (eb_sI h a0 0 (eb_I h a1 0)) a0 1 (eb_I (eb_sI h a0 0 (eb_I h a1 0)) a1 1)) a0 2 (eb_I (eb_sI (eb_sI h a0 0 (eb_I h a1 0)) a0 1 (eb_I (eb_sI h a0 0 (eb_I h a1 0)) a1 1)) a1 2)) a1 3)) a0 4 (eb_I (eb_sI (eb_sI (eb_sI (eb_sI h a0 0 (eb_I h a1 0)) a0 1 (eb_I (eb_sI h a0 0 (eb_I h a1 0)) a1 1)) a0 2 (eb_I (eb_sI (eb_sI h a0 0 (eb_I h a1 0)) a0 1 (eb_I (eb_sI h a0 0 (eb_I h a1 0)) a1 1)) a1 2)) a0 3 (eb_I (eb_sI (eb_sI (eb_sI h a0 0 (eb_I h a1 0)) a0 1 (eb_I (eb_sI h a0 0 (eb_I h a1 0)) a1 1)) a0 2 (eb_I (eb_sI (eb_sI h a0 0 (eb_I h a1 0)) a0 1 (eb_I (eb_sI h a0 0 (eb_I h a1 0)) a1 1)) a1 2)) a1 3)) a1 4)) a1 5 = some r1 ∧ eb_kd r1 = 13 ∧ ∃ r4, eb_R (eb_sI (eb_sI (eb_sI (eb_sI (eb_sI h a0 0 (eb_I h a1 0)) a0 1 (eb_I (eb_sI h a0 0 (eb_I h a1 0)) a1 1)) a0 2 (eb_I (eb_sI (eb_sI h a0 0 (eb_I h a1 0)) a0 1 (eb_I (eb_sI h a0 0 (eb_I h a1 0)) a1 1)) a1 2)) a0 3 (eb_I (eb_sI (eb_sI (eb_sI h a0 0 (eb_I h a1 0)) a0 1 (eb_I (eb_sI h a0 0 (eb_I h a1 0)) a1 1)) a0 2 (eb_I (eb_sI (eb_sI h a0 0 (eb_I h a1 0)) a0 1 (eb_I (eb_sI h a0 0 (eb_I h a1 0)) a1 1)) a1 2)) a1 3)) a0 4 (eb_I (eb_sI (eb_sI (eb_sI (eb_sI h a0 0 (eb_I h a1 0)) a0 1 (eb_I (eb_sI h a0 0 (eb_I h a1 0)) a1 1)) a0 2 (eb_I (eb_sI (eb_sI h a0 0 (eb_I h a1 0)) a0 1 (eb_I (eb_sI h a0 0 (eb_I h a1 0)) a1 1)) a1 2)) a0 3 (eb_I (eb_sI (eb_sI (eb_sI h a0 0 (eb_I h a1 0)) a0 1 (eb_I (eb_sI h a0 0 (eb_I h a1 0)) a1 1)) a0 2 (eb_I (eb_sI (eb_sI h a0 0 (eb_I h a1 0)) a0 1 (eb_I (eb_sI h a0 0 (eb_I h a1 0)) a1 1)) a1 2)) a1 3)) a1 4)) a0 5 = some r4 ∧ eb_kd r4 = 13 ∧ ((0 : Int32).toNatClampNeg + (16 : Int32).toNatClampNeg ≤ eb_ln r1) ∧ ((0 : Int32).toNatClampNeg + (16 : Int32).toNatClampNeg ≤ eb_ln r4) ∧ Q none (eb_rI (eb_sI (eb_sI (eb_sI (eb_sI (eb_sI h a0 0 (eb_I h a1 0)) a0 1 (eb_I (eb_sI h a0 0 (eb_I h a1 0)) a1 1)) a0 2 (eb_I (eb_sI (eb_sI h a0 0 (eb_I h a1 0)) a0 1 (eb_I (eb_sI h a0 0 (eb_I h a1 0)) a1 1)) a1 2)) a0 3 (eb_I (eb_sI (eb_sI (eb_sI h a0 0 (eb_I h a1 0)) a0 1 (eb_I (eb_sI h a0 0 (eb_I h a1 0)) a1 1)) a0 2 (eb_I (eb_sI (eb_sI h a0 0 (eb_I h a1 0)) a0 1 (eb_I (eb_sI h a0 0 (eb_I h a1 0)) a1 1)) a1 2)) a1 3)) a0 4 (eb_I (eb_sI (eb_sI (eb_sI (eb_sI h a0 0 (eb_I h a1 0)) a0 1 (eb_I (eb_sI h a0 0 (eb_I h a1 0)) a1 1)) a0 2 (eb_I (eb_sI (eb_sI h a0 0 (eb_I h a1 0)) a0 1 (eb_I (eb_sI h a0 0 (eb_I h a1 0)) a1 1)) a1 2)) a0 3 (eb_I (eb_sI (eb_sI (eb_sI h a0 0 (eb_I h a1 0)) a0 1 (eb_I (eb_sI h a0 0 (eb_I h a1 0)) a1 1)) a0 2 (eb_I (eb_sI (eb_sI h a0 0 (eb_I h a1 0)) a0 1 (eb_I (eb_sI h a0 0 (eb_I h a1 0)) a1 1)) a1 2)) a1 3)) a1 4)) r4 (va_cpy (eb_I (eb_sI (eb_sI (eb_sI (eb_sI (eb_sI h a0 0 (eb_I h a1 0)) a0 1 (eb_I (eb_sI h a0 0 (eb_I h a1 0)) a1 1)) a0 2 (eb_I (eb_sI (eb_sI h a0 0 (eb_I h a1 0)) a0 1 (eb_I (eb_sI h a0 0 (eb_I h a1 0)) a1 1)) a1 2)) a0 3 (eb_I (eb_sI (eb_sI (eb_sI h a0 0 (eb_I h a1 0)) a0 1 (eb_I (eb_sI h a0 0 (eb_I h a1 0)) a1 1)) a0 2 (eb_I (eb_sI (eb_sI h a0 0 (eb_I h a1 0)) a0 1 (eb_I (eb_sI h a0 0 (eb_I h a1 0)) a1 1)) a1 2)) a1 3)) a0 4 (eb_I (eb_sI (eb_sI (eb_sI (eb_sI h a0 0 (eb_I h a1 0)) a0 1 (eb_I (eb_sI h a0 0 (eb_I h a1 0)) a1 1)) a0 2 (eb_I (eb_sI (eb_sI h a0 0 (eb_I h a1 0)) a0 1 (eb_I (eb_sI h a0 0 (eb_I h a1 0)) a1 1)) a1 2)) a0 3 (eb_I (eb_sI (eb_sI (eb_sI h a0 0 (eb_I h a1 0)) a0 1 (eb_I (eb_sI h a0 0 (eb_I h a1 0)) a1 1)) a0 2 (eb_I (eb_sI (eb_sI h a0 0 (eb_I h a1 0)) a0 1 (eb_I (eb_sI h a0 0 (eb_I h a1 0)) a1 1)) a1 2)) a1 3)) a1 4)) r1) (eb_I (eb_sI (eb_sI (eb_sI (eb_sI (eb_sI h a0 0 (eb_I h a1 0)) a0 1 (eb_I (eb_sI h a0 0 (eb_I h a1 0)) a1 1)) a0 2 (eb_I (eb_sI (eb_sI h a0 0 (eb_I h a1 0)) a0 1 (eb_I (eb_sI h a0 0 (eb_I h a1 0)) a1 1)) a1 2)) a0 3 (eb_I (eb_sI (eb_sI (eb_sI h a0 0 (eb_I h a1 0)) a0 1 (eb_I (eb_sI h a0 0 (eb_I h a1 0)) a1 1)) a0 2 (eb_I (eb_sI (eb_sI h a0 0 (eb_I h a1 0)) a0 1 (eb_I (eb_sI h a0 0 (eb_I h a1 0)) a1 1)) a1 2)) a1 3)) a0 4 (eb_I (eb_sI (eb_sI (eb_sI (eb_sI h a0 0 (eb_I h a1 0)) a0 1 (eb_I (eb_sI h a0 0 (eb_I h a1 0)) a1 1)) a0 2 (eb_I (eb_sI (eb_sI h a0 0 (eb_I h a1 0)) a0 1 (eb_I (eb_sI h a0 0 (eb_I h a1 0)) a1 1)) a1 2)) a0 3 (eb_I (eb_sI (eb_sI (eb_sI h a0 0 (eb_I h a1 0)) a0 1 (eb_I (eb_sI h a0 0 (eb_I h a1 0)) a1 1)) a0 2 (eb_I (eb_sI (eb_sI h a0 0 (eb_I h a1 0)) a0 1 (eb_I (eb_sI h a0 0 (eb_I h a1 0)) a1 1)) a1 2)) a1 3)) a1 4)) r4) (0 : Int32).toNatClampNeg (0 : Int32).toNatClampNeg (16 : Int32).toNatClampNeg))) : eb_Sn (d + 1) m_X6_become h0 0 [(0, .ref a0), (1, .ref a1)] [] h Q := by
  refine eb_aload_n (pc := 0) (n := 0) (i := 0) rfl rfl rfl ?_
  refine eb_aload_n (pc := 1) (n := 1) (i := 1) rfl rfl rfl ?_
  refine eb_getI (pc := 2) rfl ka1 (by decide) (by decide) rfl ?_
  refine eb_putI (pc := 5) rfl ka0 (by decide) (by decide) rfl rfl ⟨rfl, rfl⟩ ?_
  refine eb_aload_n (pc := 8) (n := 0) (i := 0) rfl rfl rfl ?_
  refine eb_aload_n (pc := 9) (n := 1) (i := 1) rfl rfl rfl ?_
  refine eb_getI (pc := 10) rfl ka1 (by decide) (by decide) rfl ?_
  refine eb_putI (pc := 13) rfl ka0 (by decide) (by decide) rfl rfl ⟨rfl, rfl⟩ ?_
  refine eb_aload_n (pc := 16) (n := 0) (i := 0) rfl rfl rfl ?_
  refine eb_aload_n (pc := 17) (n := 1) (i := 1) rfl rfl rfl ?_
  refine eb_getI (pc := 18) rfl ka1 (by decide) (by decide) rfl ?_
  refine eb_putI (pc := 21) rfl ka0 (by decide) (by decide) rfl rfl ⟨rfl, rfl⟩ ?_
  refine eb_aload_n (pc := 24) (n := 0) (i := 0) rfl rfl rfl ?_
  refine eb_aload_n (pc := 25) (n := 1) (i := 1) rfl rfl rfl ?_
  refine eb_getI (pc := 26) rfl ka1 (by decide) (by decide) rfl ?_
  refine eb_putI (pc := 29) rfl ka0 (by decide) (by decide) rfl rfl ⟨rfl, rfl⟩ ?_
  refine eb_aload_n (pc := 32) (n := 0) (i := 0) rfl rfl rfl ?_
  refine eb_aload_n (pc := 33) (n := 1) (i := 1) rfl rfl rfl ?_
  refine eb_getI (pc := 34) rfl ka1 (by decide) (by decide) rfl ?_
  refine eb_putI (pc := 37) rfl ka0 (by decide) (by decide) rfl rfl ⟨rfl, rfl⟩ ?_
  refine eb_aload_n (pc := 40) (n := 1) (i := 1) rfl rfl rfl ?_
  obtain ⟨r1, q2, k3, w⟩ := w
  refine eb_getR (pc := 41) rfl ka1 (by decide) (by decide) rfl q2 ?_
  refine eb_iconst (pc := 44) (n := 0) (v := 0) rfl rfl ?_
  refine eb_aload_n (pc := 45) (n := 0) (i := 0) rfl rfl rfl ?_
  obtain ⟨r4, q5, k6, w⟩ := w
  refine eb_getR (pc := 46) rfl ka0 (by decide) (by decide) rfl q5 ?_
  refine eb_iconst (pc := 49) (n := 0) (v := 0) rfl rfl ?_
  refine eb_bipush (pc := 50) (n := 16) (v := 16) rfl rfl ?_
  obtain ⟨c7, w⟩ := w
  obtain ⟨c8, w⟩ := w
  refine eb_acopy (pc := 52) rfl (by decide +kernel) (by omega) k6 k3 (by decide) (by decide) (by decide) c7 c8 (Nat.le_of_ble_eq_true rfl) ?_
  exact eb_return (pc := 55) rfl rfl w
theorem T_X6_become {d : Nat} {h : eb_H} {Q : Option Value → eb_H → Prop} (a0 : Nat) (a1 : Nat) (ka0 : eb_kd a0 = 6) (ka1 : eb_kd a1 = 6) (ko : eb_KO h) (w : ∃ r1, eb_R (eb_sI (eb_sI (eb_sI (eb_sI (eb_sI h a0 0 (eb_I h a1 0)) a0 1 (eb_I (eb_sI h a0 0 (eb_I h a1 0)) a1 1)) a0 2 (eb_I (eb_sI (eb_sI h a0 0 (eb_I h a1 0)) a0 1 (eb_I (eb_sI h a0 0 (eb_I h a1 0)) a1 1)) a1 2)) a0 3 (eb_I (eb_sI (eb_sI (eb_sI h a0 0 (eb_I h a1 0)) a0 1 (eb_I (eb_sI h a0 0 (eb_I h a1 0)) a1 1)) a0 2 (eb_I (eb_sI (eb_sI h a0 0 (eb_I h a1 0)) a0 1 (eb_I (eb_sI h a0 0 (eb_I h a1 0)) a1 1)) a1 2)) a1 3)) a0 4 (eb_I (eb_sI (eb_sI (eb_sI (eb_sI h a0 0 (eb_I h a1 0)) a0 1 (eb_I (eb_sI h a0 0 (eb_I h a1 0)) a1 1)) a0 2 (eb_I (eb_sI (eb_sI h a0 0 (eb_I h a1 0)) a0 1 (eb_I (eb_sI h a0 0 (eb_I h a1 0)) a1 1)) a1 2)) a0 3 (eb_I (eb_sI (eb_sI (eb_sI h a0 0 (eb_I h a1 0)) a0 1 (eb_I (eb_sI h a0 0 (eb_I h a1 0)) a1 1)) a0 2 (eb_I (eb_sI (eb_sI h a0 0 (eb_I h a1 0)) a0 1 (eb_I (eb_sI h a0 0 (eb_I h a1 0)) a1 1)) a1 2)) a1 3)) a1 4)) a1 5 = some r1 ∧ eb_kd r1 = 13 ∧ ∃ r4, eb_R (eb_sI (eb_sI (eb_sI (eb_sI (eb_sI h a0 0 (eb_I h a1 0)) a0 1 (eb_I (eb_sI h a0 0 (eb_I h a1 0)) a1 1)) a0 2 (eb_I (eb_sI (eb_sI h a0 0 (eb_I h a1 0)) a0 1 (eb_I (eb_sI h a0 0 (eb_I h a1 0)) a1 1)) a1 2)) a0 3 (eb_I (eb_sI (eb_sI (eb_sI h a0 0 (eb_I h a1 0)) a0 1 (eb_I (eb_sI h a0 0 (eb_I h a1 0)) a1 1)) a0 2 (eb_I (eb_sI (eb_sI h a0 0 (eb_I h a1 0)) a0 1 (eb_I (eb_sI h a0 0 (eb_I h a1 0)) a1 1)) a1 2)) a1 3)) a0 4 (eb_I (eb_sI (eb_sI (eb_sI (eb_sI h a0 0 (eb_I h a1 0)) a0 1 (eb_I (eb_sI h a0 0 (eb_I h a1 0)) a1 1)) a0 2 (eb_I (eb_sI (eb_sI h a0 0 (eb_I h a1 0)) a0 1 (eb_I (eb_sI h a0 0 (eb_I h a1 0)) a1 1)) a1 2)) a0 3 (eb_I (eb_sI (eb_sI (eb_sI h a0 0 (eb_I h a1 0)) a0 1 (eb_I (eb_sI h a0 0 (eb_I h a1 0)) a1 1)) a0 2 (eb_I (eb_sI (eb_sI h a0 0 (eb_I h a1 0)) a0 1 (eb_I (eb_sI h a0 0 (eb_I h a1 0)) a1 1)) a1 2)) a1 3)) a1 4)) a0 5 = some r4 ∧ eb_kd r4 = 13 ∧ ((0 : Int32).toNatClampNeg + (16 : Int32).toNatClampNeg ≤ eb_ln r1) ∧ ((0 : Int32).toNatClampNeg + (16 : Int32).toNatClampNeg ≤ eb_ln r4) ∧ Q none (eb_rI (eb_sI (eb_sI (eb_sI (eb_sI (eb_sI h a0 0 (eb_I h a1 0)) a0 1 (eb_I (eb_sI h a0 0 (eb_I h a1 0)) a1 1)) a0 2 (eb_I (eb_sI (eb_sI h a0 0 (eb_I h a1 0)) a0 1 (eb_I (eb_sI h a0 0 (eb_I h a1 0)) a1 1)) a1 2)) a0 3 (eb_I (eb_sI (eb_sI (eb_sI h a0 0 (eb_I h a1 0)) a0 1 (eb_I (eb_sI h a0 0 (eb_I h a1 0)) a1 1)) a0 2 (eb_I (eb_sI (eb_sI h a0 0 (eb_I h a1 0)) a0 1 (eb_I (eb_sI h a0 0 (eb_I h a1 0)) a1 1)) a1 2)) a1 3)) a0 4 (eb_I (eb_sI (eb_sI (eb_sI (eb_sI h a0 0 (eb_I h a1 0)) a0 1 (eb_I (eb_sI h a0 0 (eb_I h a1 0)) a1 1)) a0 2 (eb_I (eb_sI (eb_sI h a0 0 (eb_I h a1 0)) a0 1 (eb_I (eb_sI h a0 0 (eb_I h a1 0)) a1 1)) a1 2)) a0 3 (eb_I (eb_sI (eb_sI (eb_sI h a0 0 (eb_I h a1 0)) a0 1 (eb_I (eb_sI h a0 0 (eb_I h a1 0)) a1 1)) a0 2 (eb_I (eb_sI (eb_sI h a0 0 (eb_I h a1 0)) a0 1 (eb_I (eb_sI h a0 0 (eb_I h a1 0)) a1 1)) a1 2)) a1 3)) a1 4)) r4 (va_cpy (eb_I (eb_sI (eb_sI (eb_sI (eb_sI (eb_sI h a0 0 (eb_I h a1 0)) a0 1 (eb_I (eb_sI h a0 0 (eb_I h a1 0)) a1 1)) a0 2 (eb_I (eb_sI (eb_sI h a0 0 (eb_I h a1 0)) a0 1 (eb_I (eb_sI h a0 0 (eb_I h a1 0)) a1 1)) a1 2)) a0 3 (eb_I (eb_sI (eb_sI (eb_sI h a0 0 (eb_I h a1 0)) a0 1 (eb_I (eb_sI h a0 0 (eb_I h a1 0)) a1 1)) a0 2 (eb_I (eb_sI (eb_sI h a0 0 (eb_I h a1 0)) a0 1 (eb_I (eb_sI h a0 0 (eb_I h a1 0)) a1 1)) a1 2)) a1 3)) a0 4 (eb_I (eb_sI (eb_sI (eb_sI (eb_sI h a0 0 (eb_I h a1 0)) a0 1 (eb_I (eb_sI h a0 0 (eb_I h a1 0)) a1 1)) a0 2 (eb_I (eb_sI (eb_sI h a0 0 (eb_I h a1 0)) a0 1 (eb_I (eb_sI h a0 0 (eb_I h a1 0)) a1 1)) a1 2)) a0 3 (eb_I (eb_sI (eb_sI (eb_sI h a0 0 (eb_I h a1 0)) a0 1 (eb_I (eb_sI h a0 0 (eb_I h a1 0)) a1 1)) a0 2 (eb_I (eb_sI (eb_sI h a0 0 (eb_I h a1 0)) a0 1 (eb_I (eb_sI h a0 0 (eb_I h a1 0)) a1 1)) a1 2)) a1 3)) a1 4)) r1) (eb_I (eb_sI (eb_sI (eb_sI (eb_sI (eb_sI h a0 0 (eb_I h a1 0)) a0 1 (eb_I (eb_sI h a0 0 (eb_I h a1 0)) a1 1)) a0 2 (eb_I (eb_sI (eb_sI h a0 0 (eb_I h a1 0)) a0 1 (eb_I (eb_sI h a0 0 (eb_I h a1 0)) a1 1)) a1 2)) a0 3 (eb_I (eb_sI (eb_sI (eb_sI h a0 0 (eb_I h a1 0)) a0 1 (eb_I (eb_sI h a0 0 (eb_I h a1 0)) a1 1)) a0 2 (eb_I (eb_sI (eb_sI h a0 0 (eb_I h a1 0)) a0 1 (eb_I (eb_sI h a0 0 (eb_I h a1 0)) a1 1)) a1 2)) a1 3)) a0 4 (eb_I (eb_sI (eb_sI (eb_sI (eb_sI h a0 0 (eb_I h a1 0)) a0 1 (eb_I (eb_sI h a0 0 (eb_I h a1 0)) a1 1)) a0 2 (eb_I (eb_sI (eb_sI h a0 0 (eb_I h a1 0)) a0 1 (eb_I (eb_sI h a0 0 (eb_I h a1 0)) a1 1)) a1 2)) a0 3 (eb_I (eb_sI (eb_sI (eb_sI h a0 0 (eb_I h a1 0)) a0 1 (eb_I (eb_sI h a0 0 (eb_I h a1 0)) a1 1)) a0 2 (eb_I (eb_sI (eb_sI h a0 0 (eb_I h a1 0)) a0 1 (eb_I (eb_sI h a0 0 (eb_I h a1 0)) a1 1)) a1 2)) a1 3)) a1 4)) r4) (0 : Int32).toNatClampNeg (0 : Int32).toNatClampNeg (16 : Int32).toNatClampNeg))) : eb_Ct (d + 1) 60 [.ref a0, .ref a1] h Q :=
  eb_bodyQ (by decide) ok_X6_become (Nat.le_of_ble_eq_true rfl) (b_X6_become_0 (h0 := h) a0 a1 ka0 ka1 ko w)
theorem b_X6_clearAll_0 {d : Nat} {h0 h : eb_H} {Q : Option Value → eb_H → Prop} (a0 : Nat) (ka0 : eb_kd a0 = 6) (ko : eb_KO h) (w : ∃ r1, eb_R (eb_sI (eb_sI (eb_sI (eb_sI (eb_sI h a0 0 0) a0 1 0) a0 2 0) a0 3 0) a0 4 0) a0 5 = some r1 ∧ eb_kd r1 = 13 ∧ eb_Ct d 301 [.ref r1, .int 0] (eb_sI (eb_sI (eb_sI (eb_sI (eb_sI h a0 0 0) a0 1 0) a0 2 0) a0 3 0) a0 4 0) (fun r h4 => r = none ∧ eb_KO h4 ∧ Q none h4)) : eb_Sn (d + 1) m_X6_clearAll h0 0 [(0, .ref a0)] [] h Q := by
  refine eb_aload_n (pc := 0) (n := 0) (i := 0) rfl rfl rfl ?_
  refine eb_iconst (pc := 1) (n := 0) (v := 0) rfl rfl ?_
  refine eb_putI (pc := 2) rfl ka0 (by decide) (by decide) rfl rfl ⟨rfl, rfl⟩ ?_
  refine eb_aload_n (pc := 5) (n := 0) (i := 0) rfl rfl rfl ?_
  refine eb_iconst (pc := 6) (n := 0) (v := 0) rfl rfl ?_
  refine eb_putI (pc := 7) rfl ka0 (by decide) (by decide) rfl rfl ⟨rfl, rfl⟩ ?_
  refine eb_aload_n (pc := 10) (n := 0) (i := 0) rfl rfl rfl ?_
  refine eb_iconst (pc := 11) (n := 0) (v := 0) rfl rfl ?_
  refine eb_putI (pc := 12) rfl ka0 (by decide) (by decide) rfl rfl ⟨rfl, rfl⟩ ?_
  refine eb_aload_n (pc := 15) (n := 0) (i := 0) rfl rfl rfl ?_
  refine eb_iconst (pc := 16) (n := 0) (v := 0) rfl rfl ?_
  refine eb_putI (pc := 17) rfl ka0 (by decide) (by decide) rfl rfl ⟨rfl, rfl⟩ ?_
  refine eb_aload_n (pc := 20) (n := 0) (i := 0) rfl rfl rfl ?_
  refine eb_iconst (pc := 21) (n := 0) (v := 0) rfl rfl ?_
  refine eb_putI (pc := 22) rfl ka0 (by decide) (by decide) rfl rfl ⟨rfl, rfl⟩ ?_
  refine eb_aload_n (pc := 25) (n := 0) (i := 0) rfl rfl rfl ?_
  obtain ⟨r1, q2, k3, w⟩ := w
  refine eb_getR (pc := 26) rfl ka0 (by decide) (by decide) rfl q2 ?_
  refine eb_iconst (pc := 29) (n := 0) (v := 0) rfl rfl ?_
  refine eb_ctS (pc := 30) (As := [.ref r1, .int 0]) (rest := []) rfl (by decide) (by decide) rfl rfl (Nat.le_of_ble_eq_true rfl) ?_
  refine eb_Ct.mono w ?_
  rintro r h4 ⟨rfl, ko6, w⟩
  change eb_Sn _ _ _ 33 _ [] _ _
  exact eb_return (pc := 33) rfl rfl w
theorem T_X6_clearAll {d : Nat} {h : eb_H} {Q : Option Value → eb_H → Prop} (a0 : Nat) (ka0 : eb_kd a0 = 6) (ko : eb_KO h) (w : ∃ r1, eb_R (eb_sI (eb_sI (eb_sI (eb_sI (eb_sI h a0 0 0) a0 1 0) a0 2 0) a0 3 0) a0 4 0) a0 5 = some r1 ∧ eb_kd r1 = 13 ∧ eb_Ct d 301 [.ref r1, .int 0] (eb_sI (eb_sI (eb_sI (eb_sI (eb_sI h a0 0 0) a0 1 0) a0 2 0) a0 3 0) a0 4 0) (fun r h4 => r = none ∧ eb_KO h4 ∧ Q none h4)) : eb_Ct (d + 1) 61 [.ref a0] h Q :=
  eb_bodyQ (by decide) ok_X6_clearAll (Nat.le_of_ble_eq_true rfl) (b_X6_clearAll_0 (h0 := h) a0 ka0 ko w)
theorem b_X6_thingIn_0 {d : Nat} {h0 h : eb_H} {Q : Option Value → eb_H → Prop} (a0 : Nat) (x1 : Int32) (ka0 : eb_kd a0 = 6) (ko : eb_KO h) (w : ((x1 < 0 → Q (some (.int 0)) h) ∧ (¬ (x1 < 0) → ∃ r2, eb_R h a0 5 = some r2 ∧ eb_kd r2 = 13 ∧ (((Int32.ofNat (eb_ln r2)) ≤ x1 → Q (some (.int 0)) h) ∧ (¬ ((Int32.ofNat (eb_ln r2)) ≤ x1) → (vp_in x1 (eb_ln r2)) ∧ Q (some (.int (eb_I h r2 x1.toNatClampNeg))) h))))) : eb_Sn d m_X6_thingIn h0 0 [(0, .ref a0), (1, .int x1)] [] h Q := by
  refine eb_iload_n (pc := 0) (n := 1) (i := 1) rfl rfl rfl ?_
  refine eb_if_lt (pc := 1) (tgt := 22) rfl (by decide) (fun c1 => ?_) (fun c1 => ?_)
  · replace w := w.1 c1
    refine eb_iconst (pc := 22) (n := 0) (v := 0) rfl rfl ?_
    exact eb_ireturn (pc := 23) rfl rfl rfl w
  · replace w := w.2 c1
    refine eb_iload_n (pc := 4) (n := 1) (i := 1) rfl rfl rfl ?_
    refine eb_aload_n (pc := 5) (n := 0) (i := 0) rfl rfl rfl ?_
    obtain ⟨r2, q3, k4, w⟩ := w
    refine eb_getR (pc := 6) rfl ka0 (by decide) (by decide) rfl q3 ?_
    refine eb_alen (pc := 9) rfl (by rw [k4]; decide) (by rw [k4]; decide) rfl ?_
    refine eb_icmp_ge (pc := 10) (tgt := 22) rfl (by decide) (fun c5 => ?_) (fun c5 => ?_)
    · replace w := w.1 c5
      refine eb_iconst (pc := 22) (n := 0) (v := 0) rfl rfl ?_
      exact eb_ireturn (pc := 23) rfl rfl rfl w
    · replace w := w.2 c5
      refine eb_aload_n (pc := 13) (n := 0) (i := 0) rfl rfl rfl ?_
      refine eb_getR (pc := 14) rfl ka0 (by decide) (by decide) rfl q3 ?_
      refine eb_iload_n (pc := 17) (n := 1) (i := 1) rfl rfl rfl ?_
      obtain ⟨c6, w⟩ := w
      refine eb_iaload (pc := 18) rfl k4 (by decide) c6 ?_
      refine eb_goto (pc := 19) (tgt := 23) rfl (by decide) ?_
      exact eb_ireturn (pc := 23) rfl rfl rfl w
theorem T_X6_thingIn {d : Nat} {h : eb_H} {Q : Option Value → eb_H → Prop} (a0 : Nat) (x1 : Int32) (ka0 : eb_kd a0 = 6) (ko : eb_KO h) (w : ((x1 < 0 → Q (some (.int 0)) h) ∧ (¬ (x1 < 0) → ∃ r2, eb_R h a0 5 = some r2 ∧ eb_kd r2 = 13 ∧ (((Int32.ofNat (eb_ln r2)) ≤ x1 → Q (some (.int 0)) h) ∧ (¬ ((Int32.ofNat (eb_ln r2)) ≤ x1) → (vp_in x1 (eb_ln r2)) ∧ Q (some (.int (eb_I h r2 x1.toNatClampNeg))) h))))) : eb_Ct d 62 [.ref a0, .int x1] h Q :=
  eb_bodyQ (by decide) ok_X6_thingIn (Nat.le_of_ble_eq_true rfl) (b_X6_thingIn_0 (h0 := h) a0 x1 ka0 ko w)
theorem b_X6_putThing_0 {d : Nat} {h0 h : eb_H} {Q : Option Value → eb_H → Prop} (a0 : Nat) (x1 : Int32) (x2 : Int32) (ka0 : eb_kd a0 = 6) (ko : eb_KO h) (w : ((x1 < 0 → Q none h) ∧ (¬ (x1 < 0) → ∃ r2, eb_R h a0 5 = some r2 ∧ eb_kd r2 = 13 ∧ (((Int32.ofNat (eb_ln r2)) ≤ x1 → Q none h) ∧ (¬ ((Int32.ofNat (eb_ln r2)) ≤ x1) → (vp_in x1 (eb_ln r2)) ∧ Q none (eb_sI h r2 x1.toNatClampNeg x2)))))) : eb_Sn d m_X6_putThing h0 0 [(0, .ref a0), (1, .int x1), (2, .int x2)] [] h Q := by
  refine eb_iload_n (pc := 0) (n := 1) (i := 1) rfl rfl rfl ?_
  refine eb_if_lt (pc := 1) (tgt := 20) rfl (by decide) (fun c1 => ?_) (fun c1 => ?_)
  · replace w := w.1 c1
    exact eb_return (pc := 20) rfl rfl w
  · replace w := w.2 c1
    refine eb_iload_n (pc := 4) (n := 1) (i := 1) rfl rfl rfl ?_
    refine eb_aload_n (pc := 5) (n := 0) (i := 0) rfl rfl rfl ?_
    obtain ⟨r2, q3, k4, w⟩ := w
    refine eb_getR (pc := 6) rfl ka0 (by decide) (by decide) rfl q3 ?_
    refine eb_alen (pc := 9) rfl (by rw [k4]; decide) (by rw [k4]; decide) rfl ?_
    refine eb_icmp_ge (pc := 10) (tgt := 20) rfl (by decide) (fun c5 => ?_) (fun c5 => ?_)
    · replace w := w.1 c5
      exact eb_return (pc := 20) rfl rfl w
    · replace w := w.2 c5
      refine eb_aload_n (pc := 13) (n := 0) (i := 0) rfl rfl rfl ?_
      refine eb_getR (pc := 14) rfl ka0 (by decide) (by decide) rfl q3 ?_
      refine eb_iload_n (pc := 17) (n := 1) (i := 1) rfl rfl rfl ?_
      refine eb_iload_n (pc := 18) (n := 2) (i := 2) rfl rfl rfl ?_
      obtain ⟨c6, w⟩ := w
      refine eb_iastore (pc := 19) rfl k4 (by decide) c6 ?_
      exact eb_return (pc := 20) rfl rfl w
theorem T_X6_putThing {d : Nat} {h : eb_H} {Q : Option Value → eb_H → Prop} (a0 : Nat) (x1 : Int32) (x2 : Int32) (ka0 : eb_kd a0 = 6) (ko : eb_KO h) (w : ((x1 < 0 → Q none h) ∧ (¬ (x1 < 0) → ∃ r2, eb_R h a0 5 = some r2 ∧ eb_kd r2 = 13 ∧ (((Int32.ofNat (eb_ln r2)) ≤ x1 → Q none h) ∧ (¬ ((Int32.ofNat (eb_ln r2)) ≤ x1) → (vp_in x1 (eb_ln r2)) ∧ Q none (eb_sI h r2 x1.toNatClampNeg x2)))))) : eb_Ct d 63 [.ref a0, .int x1, .int x2] h Q :=
  eb_bodyQ (by decide) ok_X6_putThing (Nat.le_of_ble_eq_true rfl) (b_X6_putThing_0 (h0 := h) a0 x1 x2 ka0 ko w)
theorem b_X6_hasDrift_0 {d : Nat} {h0 h : eb_H} {Q : Option Value → eb_H → Prop} (a0 : Nat) (x1 : Int32) (ka0 : eb_kd a0 = 6) (ko : eb_KO h) (w : Q (some (.int (eb_q ((((eb_I h a0 3) >>> (x1 &&& 31)) &&& 1) = (1 : Int32))))) h) : eb_Sn d m_X6_hasDrift h0 0 [(0, .ref a0), (1, .int x1)] [] h Q := by
  refine eb_aload_n (pc := 0) (n := 0) (i := 0) rfl rfl rfl ?_
  refine eb_getI (pc := 1) rfl ka0 (by decide) (by decide) rfl ?_
  refine eb_iload_n (pc := 4) (n := 1) (i := 1) rfl rfl rfl ?_
  refine eb_ishr (pc := 5) rfl ?_
  refine eb_iconst (pc := 6) (n := 1) (v := 1) rfl rfl ?_
  refine eb_iand (pc := 7) rfl ?_
  refine eb_iconst (pc := 8) (n := 1) (v := 1) rfl rfl ?_
  refine eb_joinI (pc2 := 17) (ls2 := [(0, .ref a0), (1, .int x1)]) (st2 := []) (v := eb_q ((((eb_I h a0 3) >>> (x1 &&& 31)) &&& 1) = (1 : Int32))) ?_ (fun jj2 => ?_)
  · exact eb_ireturn (pc := 17) rfl rfl eb_qn w
  refine eb_icmp_ne (pc := 9) (tgt := 16) rfl (by decide) (fun c1 => ?_) (fun c1 => ?_)
  · refine eb_iconst (pc := 16) (n := 0) (v := 0) rfl rfl ?_
    exact jj2 0 (eb_qf c1).symm
  · refine eb_iconst (pc := 12) (n := 1) (v := 1) rfl rfl ?_
    refine eb_goto (pc := 13) (tgt := 17) rfl (by decide) ?_
    exact jj2 1 (eb_qt c1).symm
theorem T_X6_hasDrift {d : Nat} {h : eb_H} {Q : Option Value → eb_H → Prop} (a0 : Nat) (x1 : Int32) (ka0 : eb_kd a0 = 6) (ko : eb_KO h) (w : Q (some (.int (eb_q ((((eb_I h a0 3) >>> (x1 &&& 31)) &&& 1) = (1 : Int32))))) h) : eb_Ct d 64 [.ref a0, .int x1] h Q :=
  eb_bodyQ (by decide) ok_X6_hasDrift (Nat.le_of_ble_eq_true rfl) (b_X6_hasDrift_0 (h0 := h) a0 x1 ka0 ko w)
theorem b_X7_init_0 {d : Nat} {h0 h : eb_H} {Q : Option Value → eb_H → Prop} (a0 : Nat) (ka0 : eb_kd a0 = 7) (w : ∀ r3, r3 = eb_nx h 12 900 → ∀ h1, h1 = eb_nw h 12 900 900 → ∀ h5, h5 = eb_sR h1 a0 0 (some r3) → ∀ h7, h7 = eb_sI h5 a0 1 0 → ∀ h9, h9 = eb_sI h7 a0 2 0 → ∀ h11, h11 = eb_sI h9 a0 3 0 → ∀ h13, h13 = eb_sI h11 a0 4 0 → ∀ h15, h15 = eb_sI h13 a0 5 0 → ∀ h17, h17 = eb_sI h15 a0 6 0 → ∀ h19, h19 = eb_sI h17 a0 7 0 → ∀ h21, h21 = eb_sI h19 a0 8 (-1) → Q none h21) : eb_Sn (d + 1) m_X7_init h0 0 [(0, .ref a0)] [] h Q := by
  refine eb_aload_n (pc := 0) (n := 0) (i := 0) rfl rfl rfl ?_
  refine eb_objInit (pc := 1) rfl (by decide +kernel) (by omega) (Nat.le_of_ble_eq_true rfl) ?_
  refine eb_aload_n (pc := 4) (n := 0) (i := 0) rfl rfl rfl ?_
  refine eb_sipush (pc := 5) (n := 900) (v := 900) rfl rfl ?_
  refine eb_newI (pc := 8) (kd := 12) (len := 900) rfl rfl (by decide) (by decide) rfl (by decide) ?_
  obtain ⟨r3, e4⟩ : ∃ z, z = eb_nx h 12 900 := ⟨_, rfl⟩
  rw [← e4]
  replace w := w r3 e4
  obtain ⟨h1, e2⟩ : ∃ z, z = eb_nw h 12 900 900 := ⟨_, rfl⟩
  rw [← e2]
  replace w := w h1 e2
  refine eb_putR (pc := 10) rfl ka0 (by decide) (by decide) rfl (Or.inr ⟨rfl, rfl, rfl⟩) (eb_k20 (c := 12) (by rw [e4]; exact eb_mk_kd (by decide)) (by decide)) ?_
  obtain ⟨h5, e6⟩ : ∃ z, z = eb_sR h1 a0 0 (some r3) := ⟨_, rfl⟩
  rw [← e6]
  replace w := w h5 e6
  refine eb_aload_n (pc := 13) (n := 0) (i := 0) rfl rfl rfl ?_
  refine eb_iconst (pc := 14) (n := 0) (v := 0) rfl rfl ?_
  refine eb_putI (pc := 15) rfl ka0 (by decide) (by decide) rfl rfl ⟨rfl, rfl⟩ ?_
  obtain ⟨h7, e8⟩ : ∃ z, z = eb_sI h5 a0 1 0 := ⟨_, rfl⟩
  rw [← e8]
  replace w := w h7 e8
  refine eb_aload_n (pc := 18) (n := 0) (i := 0) rfl rfl rfl ?_
  refine eb_iconst (pc := 19) (n := 0) (v := 0) rfl rfl ?_
  refine eb_putI (pc := 20) rfl ka0 (by decide) (by decide) rfl rfl ⟨rfl, rfl⟩ ?_
  obtain ⟨h9, e10⟩ : ∃ z, z = eb_sI h7 a0 2 0 := ⟨_, rfl⟩
  rw [← e10]
  replace w := w h9 e10
  refine eb_aload_n (pc := 23) (n := 0) (i := 0) rfl rfl rfl ?_
  refine eb_iconst (pc := 24) (n := 0) (v := 0) rfl rfl ?_
  refine eb_putI (pc := 25) rfl ka0 (by decide) (by decide) rfl rfl ⟨rfl, rfl⟩ ?_
  obtain ⟨h11, e12⟩ : ∃ z, z = eb_sI h9 a0 3 0 := ⟨_, rfl⟩
  rw [← e12]
  replace w := w h11 e12
  refine eb_aload_n (pc := 28) (n := 0) (i := 0) rfl rfl rfl ?_
  refine eb_iconst (pc := 29) (n := 0) (v := 0) rfl rfl ?_
  refine eb_putI (pc := 30) rfl ka0 (by decide) (by decide) rfl rfl ⟨rfl, rfl⟩ ?_
  obtain ⟨h13, e14⟩ : ∃ z, z = eb_sI h11 a0 4 0 := ⟨_, rfl⟩
  rw [← e14]
  replace w := w h13 e14
  refine eb_aload_n (pc := 33) (n := 0) (i := 0) rfl rfl rfl ?_
  refine eb_iconst (pc := 34) (n := 0) (v := 0) rfl rfl ?_
  refine eb_putI (pc := 35) rfl ka0 (by decide) (by decide) rfl rfl ⟨rfl, rfl⟩ ?_
  obtain ⟨h15, e16⟩ : ∃ z, z = eb_sI h13 a0 5 0 := ⟨_, rfl⟩
  rw [← e16]
  replace w := w h15 e16
  refine eb_aload_n (pc := 38) (n := 0) (i := 0) rfl rfl rfl ?_
  refine eb_iconst (pc := 39) (n := 0) (v := 0) rfl rfl ?_
  refine eb_putI (pc := 40) rfl ka0 (by decide) (by decide) rfl rfl ⟨rfl, rfl⟩ ?_
  obtain ⟨h17, e18⟩ : ∃ z, z = eb_sI h15 a0 6 0 := ⟨_, rfl⟩
  rw [← e18]
  replace w := w h17 e18
  refine eb_aload_n (pc := 43) (n := 0) (i := 0) rfl rfl rfl ?_
  refine eb_iconst (pc := 44) (n := 0) (v := 0) rfl rfl ?_
  refine eb_putI (pc := 45) rfl ka0 (by decide) (by decide) rfl rfl ⟨rfl, rfl⟩ ?_
  obtain ⟨h19, e20⟩ : ∃ z, z = eb_sI h17 a0 7 0 := ⟨_, rfl⟩
  rw [← e20]
  replace w := w h19 e20
  refine eb_aload_n (pc := 48) (n := 0) (i := 0) rfl rfl rfl ?_
  refine eb_iconst (pc := 49) (n := -1) (v := (-1)) rfl rfl ?_
  refine eb_putI (pc := 50) rfl ka0 (by decide) (by decide) rfl rfl ⟨rfl, rfl⟩ ?_
  obtain ⟨h21, e22⟩ : ∃ z, z = eb_sI h19 a0 8 (-1) := ⟨_, rfl⟩
  rw [← e22]
  replace w := w h21 e22
  exact eb_return (pc := 53) rfl rfl w
theorem T_X7_init {d : Nat} {h : eb_H} {Q : Option Value → eb_H → Prop} (a0 : Nat) (ka0 : eb_kd a0 = 7) (w : ∀ r3, r3 = eb_nx h 12 900 → ∀ h1, h1 = eb_nw h 12 900 900 → ∀ h5, h5 = eb_sR h1 a0 0 (some r3) → ∀ h7, h7 = eb_sI h5 a0 1 0 → ∀ h9, h9 = eb_sI h7 a0 2 0 → ∀ h11, h11 = eb_sI h9 a0 3 0 → ∀ h13, h13 = eb_sI h11 a0 4 0 → ∀ h15, h15 = eb_sI h13 a0 5 0 → ∀ h17, h17 = eb_sI h15 a0 6 0 → ∀ h19, h19 = eb_sI h17 a0 7 0 → ∀ h21, h21 = eb_sI h19 a0 8 (-1) → Q none h21) : eb_Ct (d + 1) 65 [.ref a0] h Q :=
  eb_bodyQ (by decide) ok_X7_init (Nat.le_of_ble_eq_true rfl) (b_X7_init_0 (h0 := h) a0 ka0 w)
theorem b_X7_add_0 {d : Nat} {h0 h : eb_H} {Q : Option Value → eb_H → Prop} (x1 : Int32)  (ko : eb_KO h) (w : eb_Sn d m_X7_add h0 3 [(0, .ref s_tape), (1, .int x1), (2, .int 24)] [] h Q) : eb_Sn d m_X7_add h0 0 [(0, .ref s_tape), (1, .int x1)] [] h Q := by
  refine eb_bipush (pc := 0) (n := 24) (v := 24) rfl rfl ?_
  refine eb_istore_n (pc := 2) (n := 2) (i := 2) (ls2 := [(2, .int 24), (0, .ref s_tape), (1, .int x1)]) rfl (Nat.le_of_ble_eq_true rfl) rfl rfl ?_
  exact eb_pick [1, 2, 0] rfl w
theorem b_X7_add_3 {d : Nat} {h0 h : eb_H} {Q : Option Value → eb_H → Prop} (x1 : Int32) (x2 : Int32)  (ko : eb_KO h) (w : ((x2 < 0 → Q none h) ∧ (¬ (x2 < 0) → (((eb_I h s_tape 1) < 0 → Q none h) ∧ (¬ ((eb_I h s_tape 1) < 0) → (((900 : Int32) ≤ (eb_I h s_tape 1) → Q none h) ∧ (¬ ((900 : Int32) ≤ (eb_I h s_tape 1)) → (vp_in (eb_I h s_tape 1) 900) ∧ eb_Sn d m_X7_add h0 3 [(0, .ref s_tape), (1, .int x1), (2, .int (x2 + (-8)))] [] (eb_sI (eb_sI h s_tape_text (eb_I h s_tape 1).toNatClampNeg (((x1.toUInt32 >>> (x2.toUInt32 &&& Int32.toUInt32 31)).toInt32).toInt8.toInt32).toInt8.toInt32) s_tape 1 ((eb_I (eb_sI h s_tape_text (eb_I h s_tape 1).toNatClampNeg (((x1.toUInt32 >>> (x2.toUInt32 &&& Int32.toUInt32 31)).toInt32).toInt8.toInt32).toInt8.toInt32) s_tape 1) + 1)) Q))))))) : eb_Sn d m_X7_add h0 3 [(0, .ref s_tape), (1, .int x1), (2, .int x2)] [] h Q := by
  refine eb_iload_n (pc := 3) (n := 2) (i := 2) rfl rfl rfl ?_
  refine eb_if_lt (pc := 4) (tgt := 53) rfl (by decide) (fun c1 => ?_) (fun c1 => ?_)
  · replace w := w.1 c1
    exact eb_return (pc := 53) rfl rfl w
  · replace w := w.2 c1
    refine eb_aload_n (pc := 7) (n := 0) (i := 0) rfl rfl rfl ?_
    refine eb_getI (pc := 8) rfl rfl (by decide) (by decide) rfl ?_
    refine eb_if_lt (pc := 11) (tgt := 53) rfl (by decide) (fun c2 => ?_) (fun c2 => ?_)
    · replace w := w.1 c2
      exact eb_return (pc := 53) rfl rfl w
    · replace w := w.2 c2
      refine eb_aload_n (pc := 14) (n := 0) (i := 0) rfl rfl rfl ?_
      refine eb_getI (pc := 15) rfl rfl (by decide) (by decide) rfl ?_
      refine eb_sipush (pc := 18) (n := 900) (v := 900) rfl rfl ?_
      refine eb_icmp_ge (pc := 21) (tgt := 53) rfl (by decide) (fun c3 => ?_) (fun c3 => ?_)
      · replace w := w.1 c3
        exact eb_return (pc := 53) rfl rfl w
      · replace w := w.2 c3
        refine eb_aload_n (pc := 24) (n := 0) (i := 0) rfl rfl rfl ?_
        refine eb_getR (pc := 25) rfl rfl (by decide) (by decide) rfl (ko_s_tape_0 ko) ?_
        refine eb_aload_n (pc := 28) (n := 0) (i := 0) rfl rfl rfl ?_
        refine eb_getI (pc := 29) rfl rfl (by decide) (by decide) rfl ?_
        refine eb_iload_n (pc := 32) (n := 1) (i := 1) rfl rfl rfl ?_
        refine eb_iload_n (pc := 33) (n := 2) (i := 2) rfl rfl rfl ?_
        refine eb_iushr (pc := 34) rfl ?_
        refine eb_i2b (pc := 35) rfl ?_
        obtain ⟨c4, w⟩ := w
        refine eb_bastore (pc := 36) rfl rfl c4 ?_
        refine eb_aload_n (pc := 37) (n := 0) (i := 0) rfl rfl rfl ?_
        refine eb_dupr (pc := 38) rfl ?_
        refine eb_getI (pc := 39) rfl rfl (by decide) (by decide) rfl ?_
        refine eb_iconst (pc := 42) (n := 1) (v := 1) rfl rfl ?_
        refine eb_iadd (pc := 43) rfl ?_
        refine eb_putI (pc := 44) rfl rfl (by decide) (by decide) rfl rfl ⟨rfl, rfl⟩ ?_
        refine eb_iinc (pc := 47) (i := 2) (n := -8) (v := x2 + (-8)) (ls2 := [(2, .int (x2 + (-8))), (0, .ref s_tape), (1, .int x1)]) (Nat.le_of_ble_eq_true rfl) rfl rfl rfl rfl ?_
        refine eb_goto (pc := 50) (tgt := 3) rfl (by decide) ?_
        exact eb_pick [1, 2, 0] rfl w
theorem T_X7_add {d : Nat} {h : eb_H} {Q : Option Value → eb_H → Prop} (x1 : Int32)  (ko : eb_KO h) (w : eb_Sn d m_X7_add h 3 [(0, .ref s_tape), (1, .int x1), (2, .int 24)] [] h Q) : eb_Ct d 66 [.ref s_tape, .int x1] h Q :=
  eb_bodyQ (by decide) ok_X7_add (Nat.le_of_ble_eq_true rfl) (b_X7_add_0 (h0 := h) x1  ko w)
theorem b_X7_open_0 {d : Nat} {h0 h : eb_H} {Q : Option Value → eb_H → Prop} (x1 : Int32)  (ko : eb_KO h) (w : eb_Ct d 69 [.ref s_tape] (eb_sI (eb_sI (eb_sI (eb_sI h s_tape 2 (if (900 : Int32) < x1 then 900 else x1 : Int32)) s_tape 4 0) s_tape 7 0) s_tape 8 (-1)) (fun r h4 => r = none ∧ eb_KO h4 ∧ Q none h4)) : eb_Sn (d + 1) m_X7_open h0 0 [(0, .ref s_tape), (1, .int x1)] [] h Q := by
  refine eb_aload_n (pc := 0) (n := 0) (i := 0) rfl rfl rfl ?_
  refine eb_iload_n (pc := 1) (n := 1) (i := 1) rfl rfl rfl ?_
  refine eb_sipush (pc := 2) (n := 900) (v := 900) rfl rfl ?_
  refine eb_ctS (pc := 5) (As := [.int x1, .int 900]) (rest := [.ref s_tape]) rfl (by decide) (by decide) rfl rfl (Nat.le_of_ble_eq_true rfl) ?_
  refine eb_bodyQ (by decide) ok_J9_min_7cf53 (Nat.le_of_ble_eq_true rfl) ?_
  change eb_Sn _ m_J9_min_7cf53 _ 0 [(0, .int x1), (1, .int 900)] [] _ _
  refine eb_iload_n (pc := 0) (n := 0) (i := 0) rfl rfl rfl ?_
  refine eb_iload_n (pc := 1) (n := 1) (i := 1) rfl rfl rfl ?_
  refine eb_joinI (pc2 := 10) (ls2 := [(0, .int x1), (1, .int 900)]) (st2 := []) (v := (if (900 : Int32) < x1 then 900 else x1 : Int32)) ?_ (fun jj2 => ?_)
  · refine eb_ireturn (pc := 10) rfl rfl rfl ?_
    change eb_Sn _ _ _ 8 _ [.int (if (900 : Int32) < x1 then 900 else x1 : Int32), .ref s_tape] _ _
    refine eb_putI (pc := 8) rfl rfl (by decide) (by decide) rfl rfl ⟨rfl, rfl⟩ ?_
    refine eb_aload_n (pc := 11) (n := 0) (i := 0) rfl rfl rfl ?_
    refine eb_iconst (pc := 12) (n := 0) (v := 0) rfl rfl ?_
    refine eb_putI (pc := 13) rfl rfl (by decide) (by decide) rfl rfl ⟨rfl, rfl⟩ ?_
    refine eb_aload_n (pc := 16) (n := 0) (i := 0) rfl rfl rfl ?_
    refine eb_iconst (pc := 17) (n := 0) (v := 0) rfl rfl ?_
    refine eb_putI (pc := 18) rfl rfl (by decide) (by decide) rfl rfl ⟨rfl, rfl⟩ ?_
    refine eb_aload_n (pc := 21) (n := 0) (i := 0) rfl rfl rfl ?_
    refine eb_iconst (pc := 22) (n := -1) (v := (-1)) rfl rfl ?_
    refine eb_putI (pc := 23) rfl rfl (by decide) (by decide) rfl rfl ⟨rfl, rfl⟩ ?_
    refine eb_aload_n (pc := 26) (n := 0) (i := 0) rfl rfl rfl ?_
    refine eb_ctV (pc := 27) (As := []) (rest := []) rfl (by decide) rfl rfl (by decide) rfl (Nat.le_of_ble_eq_true rfl) ?_
    refine eb_Ct.mono w ?_
    rintro r h4 ⟨rfl, ko6, w⟩
    change eb_Sn _ _ _ 30 _ [] _ _
    exact eb_return (pc := 30) rfl rfl w
  refine eb_icmp_gt (pc := 2) (tgt := 9) rfl (by decide) (fun c1 => ?_) (fun c1 => ?_)
  · refine eb_iload_n (pc := 9) (n := 1) (i := 1) rfl rfl rfl ?_
    exact jj2 _ (by simp only [if_pos c1])
  · refine eb_iload_n (pc := 5) (n := 0) (i := 0) rfl rfl rfl ?_
    refine eb_goto (pc := 6) (tgt := 10) rfl (by decide) ?_
    exact jj2 _ (by simp only [if_neg c1])
theorem T_X7_open {d : Nat} {h : eb_H} {Q : Option Value → eb_H → Prop} (x1 : Int32)  (ko : eb_KO h) (w : eb_Ct d 69 [.ref s_tape] (eb_sI (eb_sI (eb_sI (eb_sI h s_tape 2 (if (900 : Int32) < x1 then 900 else x1 : Int32)) s_tape 4 0) s_tape 7 0) s_tape 8 (-1)) (fun r h4 => r = none ∧ eb_KO h4 ∧ Q none h4)) : eb_Ct (d + 1) 67 [.ref s_tape, .int x1] h Q :=
  eb_bodyQ (by decide) ok_X7_open (Nat.le_of_ble_eq_true rfl) (b_X7_open_0 (h0 := h) x1  ko w)
theorem b_X7_fail_0 {d : Nat} {h0 h : eb_H} {Q : Option Value → eb_H → Prop} (x1 : Int32)  (ko : eb_KO h) (w : (((eb_I h s_tape 7) = 0 → Q none (eb_sI (eb_sI h s_tape 7 x1) s_tape 8 (eb_I (eb_sI h s_tape 7 x1) s_tape 3))) ∧ (¬ ((eb_I h s_tape 7) = 0) → Q none h))) : eb_Sn d m_X7_fail h0 0 [(0, .ref s_tape), (1, .int x1)] [] h Q := by
  refine eb_aload_n (pc := 0) (n := 0) (i := 0) rfl rfl rfl ?_
  refine eb_getI (pc := 1) rfl rfl (by decide) (by decide) rfl ?_
  refine eb_if_eq (pc := 4) (tgt := 8) rfl (by decide) (fun c1 => ?_) (fun c1 => ?_)
  · replace w := w.1 c1
    refine eb_aload_n (pc := 8) (n := 0) (i := 0) rfl rfl rfl ?_
    refine eb_iload_n (pc := 9) (n := 1) (i := 1) rfl rfl rfl ?_
    refine eb_putI (pc := 10) rfl rfl (by decide) (by decide) rfl rfl ⟨rfl, rfl⟩ ?_
    refine eb_aload_n (pc := 13) (n := 0) (i := 0) rfl rfl rfl ?_
    refine eb_aload_n (pc := 14) (n := 0) (i := 0) rfl rfl rfl ?_
    refine eb_getI (pc := 15) rfl rfl (by decide) (by decide) rfl ?_
    refine eb_putI (pc := 18) rfl rfl (by decide) (by decide) rfl rfl ⟨rfl, rfl⟩ ?_
    exact eb_return (pc := 21) rfl rfl w
  · replace w := w.2 c1
    exact eb_return (pc := 7) rfl rfl w
theorem T_X7_fail {d : Nat} {h : eb_H} {Q : Option Value → eb_H → Prop} (x1 : Int32)  (ko : eb_KO h) (w : (((eb_I h s_tape 7) = 0 → Q none (eb_sI (eb_sI h s_tape 7 x1) s_tape 8 (eb_I (eb_sI h s_tape 7 x1) s_tape 3))) ∧ (¬ ((eb_I h s_tape 7) = 0) → Q none h))) : eb_Ct d 68 [.ref s_tape, .int x1] h Q :=
  eb_bodyQ (by decide) ok_X7_fail (Nat.le_of_ble_eq_true rfl) (b_X7_fail_0 (h0 := h) x1  ko w)
theorem b_X7_advance_0 {d : Nat} {h0 h : eb_H} {Q : Option Value → eb_H → Prop}   (ko : eb_KO h) (w : (((eb_I h s_tape 7) = 0 → eb_Sn (d + 1) m_X7_advance h0 16 [(0, .ref s_tape)] [] (eb_sI h s_tape 3 (eb_I h s_tape 4)) Q) ∧ (¬ ((eb_I h s_tape 7) = 0) → Q none h))) : eb_Sn (d + 1) m_X7_advance h0 0 [(0, .ref s_tape)] [] h Q := by
  refine eb_aload_n (pc := 0) (n := 0) (i := 0) rfl rfl rfl ?_
  refine eb_getI (pc := 1) rfl rfl (by decide) (by decide) rfl ?_
  refine eb_if_eq (pc := 4) (tgt := 8) rfl (by decide) (fun c1 => ?_) (fun c1 => ?_)
  · replace w := w.1 c1
    refine eb_aload_n (pc := 8) (n := 0) (i := 0) rfl rfl rfl ?_
    refine eb_aload_n (pc := 9) (n := 0) (i := 0) rfl rfl rfl ?_
    refine eb_getI (pc := 10) rfl rfl (by decide) (by decide) rfl ?_
    refine eb_putI (pc := 13) rfl rfl (by decide) (by decide) rfl rfl ⟨rfl, rfl⟩ ?_
    exact eb_pick [0] rfl w
  · replace w := w.2 c1
    exact eb_return (pc := 7) rfl rfl w
theorem b_X7_advance_16 {d : Nat} {h0 h : eb_H} {Q : Option Value → eb_H → Prop}   (ko : eb_KO h) (w : (((eb_I h s_tape 2) ≤ (eb_I h s_tape 3) → eb_Ct d 70 [.ref s_tape, .int (eb_I h s_tape 3)] h (fun r h2 => ∃ y3, r = some (.int y3) ∧ eb_KO h2 ∧ (((eb_I (eb_sI (eb_sI h2 s_tape 5 y3) s_tape 4 (if (eb_I (eb_sI h2 s_tape 5 y3) s_tape 5) = 0 then eb_I (eb_sI h2 s_tape 5 y3) s_tape 3 else (eb_I (eb_sI h2 s_tape 5 y3) s_tape 3) + 1 : Int32)) s_tape 5) = (1 : Int32) → eb_Sn (d + 1) m_X7_advance h0 104 [(0, .ref s_tape)] [] (eb_sI (eb_sI h2 s_tape 5 y3) s_tape 4 (if (eb_I (eb_sI h2 s_tape 5 y3) s_tape 5) = 0 then eb_I (eb_sI h2 s_tape 5 y3) s_tape 3 else (eb_I (eb_sI h2 s_tape 5 y3) s_tape 3) + 1 : Int32)) Q) ∧ (¬ ((eb_I (eb_sI (eb_sI h2 s_tape 5 y3) s_tape 4 (if (eb_I (eb_sI h2 s_tape 5 y3) s_tape 5) = 0 then eb_I (eb_sI h2 s_tape 5 y3) s_tape 3 else (eb_I (eb_sI h2 s_tape 5 y3) s_tape 3) + 1 : Int32)) s_tape 5) = (1 : Int32)) → ((¬ (eb_I (eb_sI (eb_sI h2 s_tape 5 y3) s_tape 4 (if (eb_I (eb_sI h2 s_tape 5 y3) s_tape 5) = 0 then eb_I (eb_sI h2 s_tape 5 y3) s_tape 3 else (eb_I (eb_sI h2 s_tape 5 y3) s_tape 3) + 1 : Int32)) s_tape 5) = (2 : Int32) → (((eb_I (eb_sI (eb_sI h2 s_tape 5 y3) s_tape 4 (if (eb_I (eb_sI h2 s_tape 5 y3) s_tape 5) = 0 then eb_I (eb_sI h2 s_tape 5 y3) s_tape 3 else (eb_I (eb_sI h2 s_tape 5 y3) s_tape 3) + 1 : Int32)) s_tape 5) = (5 : Int32) → eb_Ct d 68 [.ref s_tape, .int 1] (eb_sI (eb_sI h2 s_tape 5 y3) s_tape 4 (if (eb_I (eb_sI h2 s_tape 5 y3) s_tape 5) = 0 then eb_I (eb_sI h2 s_tape 5 y3) s_tape 3 else (eb_I (eb_sI h2 s_tape 5 y3) s_tape 3) + 1 : Int32)) (fun r h11 => r = none ∧ eb_KO h11 ∧ Q none h11)) ∧ (¬ ((eb_I (eb_sI (eb_sI h2 s_tape 5 y3) s_tape 4 (if (eb_I (eb_sI h2 s_tape 5 y3) s_tape 5) = 0 then eb_I (eb_sI h2 s_tape 5 y3) s_tape 3 else (eb_I (eb_sI h2 s_tape 5 y3) s_tape 3) + 1 : Int32)) s_tape 5) = (5 : Int32)) → Q none (eb_sI (eb_sI h2 s_tape 5 y3) s_tape 4 (if (eb_I (eb_sI h2 s_tape 5 y3) s_tape 5) = 0 then eb_I (eb_sI h2 s_tape 5 y3) s_tape 3 else (eb_I (eb_sI h2 s_tape 5 y3) s_tape 3) + 1 : Int32))))) ∧ ((eb_I (eb_sI (eb_sI h2 s_tape 5 y3) s_tape 4 (if (eb_I (eb_sI h2 s_tape 5 y3) s_tape 5) = 0 then eb_I (eb_sI h2 s_tape 5 y3) s_tape 3 else (eb_I (eb_sI h2 s_tape 5 y3) s_tape 3) + 1 : Int32)) s_tape 5) = (2 : Int32) → eb_Sn (d + 1) m_X7_advance h0 104 [(0, .ref s_tape)] [] (eb_sI (eb_sI h2 s_tape 5 y3) s_tape 4 (if (eb_I (eb_sI h2 s_tape 5 y3) s_tape 5) = 0 then eb_I (eb_sI h2 s_tape 5 y3) s_tape 3 else (eb_I (eb_sI h2 s_tape 5 y3) s_tape 3) + 1 : Int32)) Q)))))) ∧ (¬ ((eb_I h s_tape 2) ≤ (eb_I h s_tape 3)) → eb_Ct d 70 [.ref s_tape, .int (eb_I h s_tape 3)] h (fun r h14 => ∃ y15, r = some (.int y15) ∧ eb_KO h14 ∧ ((¬ y15 = (4 : Int32) → eb_Ct d 70 [.ref s_tape, .int (eb_I h14 s_tape 3)] h14 (fun r h18 => ∃ y19, r = some (.int y19) ∧ eb_KO h18 ∧ (((eb_I (eb_sI (eb_sI h18 s_tape 5 y19) s_tape 4 (if (eb_I (eb_sI h18 s_tape 5 y19) s_tape 5) = 0 then eb_I (eb_sI h18 s_tape 5 y19) s_tape 3 else (eb_I (eb_sI h18 s_tape 5 y19) s_tape 3) + 1 : Int32)) s_tape 5) = (1 : Int32) → eb_Sn (d + 1) m_X7_advance h0 104 [(0, .ref s_tape)] [] (eb_sI (eb_sI h18 s_tape 5 y19) s_tape 4 (if (eb_I (eb_sI h18 s_tape 5 y19) s_tape 5) = 0 then eb_I (eb_sI h18 s_tape 5 y19) s_tape 3 else (eb_I (eb_sI h18 s_tape 5 y19) s_tape 3) + 1 : Int32)) Q) ∧ (¬ ((eb_I (eb_sI (eb_sI h18 s_tape 5 y19) s_tape 4 (if (eb_I (eb_sI h18 s_tape 5 y19) s_tape 5) = 0 then eb_I (eb_sI h18 s_tape 5 y19) s_tape 3 else (eb_I (eb_sI h18 s_tape 5 y19) s_tape 3) + 1 : Int32)) s_tape 5) = (1 : Int32)) → ((¬ (eb_I (eb_sI (eb_sI h18 s_tape 5 y19) s_tape 4 (if (eb_I (eb_sI h18 s_tape 5 y19) s_tape 5) = 0 then eb_I (eb_sI h18 s_tape 5 y19) s_tape 3 else (eb_I (eb_sI h18 s_tape 5 y19) s_tape 3) + 1 : Int32)) s_tape 5) = (2 : Int32) → (((eb_I (eb_sI (eb_sI h18 s_tape 5 y19) s_tape 4 (if (eb_I (eb_sI h18 s_tape 5 y19) s_tape 5) = 0 then eb_I (eb_sI h18 s_tape 5 y19) s_tape 3 else (eb_I (eb_sI h18 s_tape 5 y19) s_tape 3) + 1 : Int32)) s_tape 5) = (5 : Int32) → eb_Ct d 68 [.ref s_tape, .int 1] (eb_sI (eb_sI h18 s_tape 5 y19) s_tape 4 (if (eb_I (eb_sI h18 s_tape 5 y19) s_tape 5) = 0 then eb_I (eb_sI h18 s_tape 5 y19) s_tape 3 else (eb_I (eb_sI h18 s_tape 5 y19) s_tape 3) + 1 : Int32)) (fun r h27 => r = none ∧ eb_KO h27 ∧ Q none h27)) ∧ (¬ ((eb_I (eb_sI (eb_sI h18 s_tape 5 y19) s_tape 4 (if (eb_I (eb_sI h18 s_tape 5 y19) s_tape 5) = 0 then eb_I (eb_sI h18 s_tape 5 y19) s_tape 3 else (eb_I (eb_sI h18 s_tape 5 y19) s_tape 3) + 1 : Int32)) s_tape 5) = (5 : Int32)) → Q none (eb_sI (eb_sI h18 s_tape 5 y19) s_tape 4 (if (eb_I (eb_sI h18 s_tape 5 y19) s_tape 5) = 0 then eb_I (eb_sI h18 s_tape 5 y19) s_tape 3 else (eb_I (eb_sI h18 s_tape 5 y19) s_tape 3) + 1 : Int32))))) ∧ ((eb_I (eb_sI (eb_sI h18 s_tape 5 y19) s_tape 4 (if (eb_I (eb_sI h18 s_tape 5 y19) s_tape 5) = 0 then eb_I (eb_sI h18 s_tape 5 y19) s_tape 3 else (eb_I (eb_sI h18 s_tape 5 y19) s_tape 3) + 1 : Int32)) s_tape 5) = (2 : Int32) → eb_Sn (d + 1) m_X7_advance h0 104 [(0, .ref s_tape)] [] (eb_sI (eb_sI h18 s_tape 5 y19) s_tape 4 (if (eb_I (eb_sI h18 s_tape 5 y19) s_tape 5) = 0 then eb_I (eb_sI h18 s_tape 5 y19) s_tape 3 else (eb_I (eb_sI h18 s_tape 5 y19) s_tape 3) + 1 : Int32)) Q)))))) ∧ (y15 = (4 : Int32) → eb_Sn (d + 1) m_X7_advance h0 16 [(0, .ref s_tape)] [] (eb_sI h14 s_tape 3 ((eb_I h14 s_tape 3) + 1)) Q)))))) : eb_Sn (d + 1) m_X7_advance h0 16 [(0, .ref s_tape)] [] h Q := by
  refine eb_aload_n (pc := 16) (n := 0) (i := 0) rfl rfl rfl ?_
  refine eb_getI (pc := 17) rfl rfl (by decide) (by decide) rfl ?_
  refine eb_aload_n (pc := 20) (n := 0) (i := 0) rfl rfl rfl ?_
  refine eb_getI (pc := 21) rfl rfl (by decide) (by decide) rfl ?_
  refine eb_icmp_ge (pc := 24) (tgt := 52) rfl (by decide) (fun c1 => ?_) (fun c1 => ?_)
  · replace w := w.1 c1
    refine eb_aload_n (pc := 52) (n := 0) (i := 0) rfl rfl rfl ?_
    refine eb_aload_n (pc := 53) (n := 0) (i := 0) rfl rfl rfl ?_
    refine eb_aload_n (pc := 54) (n := 0) (i := 0) rfl rfl rfl ?_
    refine eb_getI (pc := 55) rfl rfl (by decide) (by decide) rfl ?_
    refine eb_ctV (pc := 58) (As := [.int (eb_I h s_tape 3)]) (rest := [.ref s_tape]) rfl (by decide) rfl rfl (by decide) rfl (Nat.le_of_ble_eq_true rfl) ?_
    refine eb_Ct.mono w ?_
    rintro r h2 ⟨y3, rfl, ko4, w⟩
    change eb_Sn _ _ _ 61 _ [.int y3, .ref s_tape] _ _
    refine eb_putI (pc := 61) rfl rfl (by decide) (by decide) rfl rfl ⟨rfl, rfl⟩ ?_
    refine eb_aload_n (pc := 64) (n := 0) (i := 0) rfl rfl rfl ?_
    refine eb_aload_n (pc := 65) (n := 0) (i := 0) rfl rfl rfl ?_
    refine eb_getI (pc := 66) rfl rfl (by decide) (by decide) rfl ?_
    refine eb_joinI (pc2 := 85) (ls2 := [(0, .ref s_tape)]) (st2 := [.ref s_tape]) (v := (if (eb_I (eb_sI h2 s_tape 5 y3) s_tape 5) = 0 then eb_I (eb_sI h2 s_tape 5 y3) s_tape 3 else (eb_I (eb_sI h2 s_tape 5 y3) s_tape 3) + 1 : Int32)) ?_ (fun jj6 => ?_)
    · refine eb_putI (pc := 85) rfl rfl (by decide) (by decide) rfl rfl ⟨rfl, rfl⟩ ?_
      refine eb_aload_n (pc := 88) (n := 0) (i := 0) rfl rfl rfl ?_
      refine eb_getI (pc := 89) rfl rfl (by decide) (by decide) rfl ?_
      refine eb_iconst (pc := 92) (n := 1) (v := 1) rfl rfl ?_
      refine eb_icmp_eq (pc := 93) (tgt := 104) rfl (by decide) (fun c8 => ?_) (fun c8 => ?_)
      · replace w := w.1 c8
        exact eb_pick [0] rfl w
      · replace w := w.2 c8
        refine eb_aload_n (pc := 96) (n := 0) (i := 0) rfl rfl rfl ?_
        refine eb_getI (pc := 97) rfl rfl (by decide) (by decide) rfl ?_
        refine eb_iconst (pc := 100) (n := 2) (v := 2) rfl rfl ?_
        refine eb_icmp_ne (pc := 101) (tgt := 143) rfl (by decide) (fun c9 => ?_) (fun c9 => ?_)
        · replace w := w.1 c9
          refine eb_aload_n (pc := 143) (n := 0) (i := 0) rfl rfl rfl ?_
          refine eb_getI (pc := 144) rfl rfl (by decide) (by decide) rfl ?_
          refine eb_iconst (pc := 147) (n := 2) (v := 2) rfl rfl ?_
          refine eb_icmp_ne (pc := 148) (tgt := 159) rfl (by decide) (fun _ => ?_) (fun c => by have c9 := c; contradiction)
          refine eb_aload_n (pc := 159) (n := 0) (i := 0) rfl rfl rfl ?_
          refine eb_getI (pc := 160) rfl rfl (by decide) (by decide) rfl ?_
          refine eb_iconst (pc := 163) (n := 5) (v := 5) rfl rfl ?_
          refine eb_icmp_eq (pc := 164) (tgt := 188) rfl (by decide) (fun c10 => ?_) (fun c10 => ?_)
          · replace w := w.1 c10
            refine eb_aload_n (pc := 188) (n := 0) (i := 0) rfl rfl rfl ?_
            refine eb_iconst (pc := 189) (n := 1) (v := 1) rfl rfl ?_
            refine eb_ctV (pc := 190) (As := [.int 1]) (rest := []) rfl (by decide) rfl rfl (by decide) rfl (Nat.le_of_ble_eq_true rfl) ?_
            refine eb_Ct.mono w ?_
            rintro r h11 ⟨rfl, ko13, w⟩
            change eb_Sn _ _ _ 193 _ [] _ _
            exact eb_return (pc := 193) rfl rfl w
          · replace w := w.2 c10
            refine eb_aload_n (pc := 167) (n := 0) (i := 0) rfl rfl rfl ?_
            refine eb_getI (pc := 168) rfl rfl (by decide) (by decide) rfl ?_
            refine eb_iconst (pc := 171) (n := 2) (v := 2) rfl rfl ?_
            refine eb_icmp_ne (pc := 172) (tgt := 193) rfl (by decide) (fun _ => ?_) (fun c => by have c9 := c; contradiction)
            exact eb_return (pc := 193) rfl rfl w
        · replace w := w.2 c9
          exact eb_pick [0] rfl w
    refine eb_if_ne (pc := 69) (tgt := 79) rfl (by decide) (fun c5 => ?_) (fun c5 => ?_)
    · refine eb_aload_n (pc := 79) (n := 0) (i := 0) rfl rfl rfl ?_
      refine eb_getI (pc := 80) rfl rfl (by decide) (by decide) rfl ?_
      refine eb_iconst (pc := 83) (n := 1) (v := 1) rfl rfl ?_
      refine eb_iadd (pc := 84) rfl ?_
      exact jj6 _ (by simp only [if_neg c5])
    · refine eb_aload_n (pc := 72) (n := 0) (i := 0) rfl rfl rfl ?_
      refine eb_getI (pc := 73) rfl rfl (by decide) (by decide) rfl ?_
      refine eb_goto (pc := 76) (tgt := 85) rfl (by decide) ?_
      exact jj6 _ (by simp only [if_pos c5])
  · replace w := w.2 c1
    refine eb_aload_n (pc := 27) (n := 0) (i := 0) rfl rfl rfl ?_
    refine eb_aload_n (pc := 28) (n := 0) (i := 0) rfl rfl rfl ?_
    refine eb_getI (pc := 29) rfl rfl (by decide) (by decide) rfl ?_
    refine eb_ctV (pc := 32) (As := [.int (eb_I h s_tape 3)]) (rest := []) rfl (by decide) rfl rfl (by decide) rfl (Nat.le_of_ble_eq_true rfl) ?_
    refine eb_Ct.mono w ?_
    rintro r h14 ⟨y15, rfl, ko16, w⟩
    change eb_Sn _ _ _ 35 _ [.int y15] _ _
    refine eb_iconst (pc := 35) (n := 4) (v := 4) rfl rfl ?_
    refine eb_icmp_ne (pc := 36) (tgt := 52) rfl (by decide) (fun c17 => ?_) (fun c17 => ?_)
    · replace w := w.1 c17
      refine eb_aload_n (pc := 52) (n := 0) (i := 0) rfl rfl rfl ?_
      refine eb_aload_n (pc := 53) (n := 0) (i := 0) rfl rfl rfl ?_
      refine eb_aload_n (pc := 54) (n := 0) (i := 0) rfl rfl rfl ?_
      refine eb_getI (pc := 55) rfl rfl (by decide) (by decide) rfl ?_
      refine eb_ctV (pc := 58) (As := [.int (eb_I h14 s_tape 3)]) (rest := [.ref s_tape]) rfl (by decide) rfl rfl (by decide) rfl (Nat.le_of_ble_eq_true rfl) ?_
      refine eb_Ct.mono w ?_
      rintro r h18 ⟨y19, rfl, ko20, w⟩
      change eb_Sn _ _ _ 61 _ [.int y19, .ref s_tape] _ _
      refine eb_putI (pc := 61) rfl rfl (by decide) (by decide) rfl rfl ⟨rfl, rfl⟩ ?_
      refine eb_aload_n (pc := 64) (n := 0) (i := 0) rfl rfl rfl ?_
      refine eb_aload_n (pc := 65) (n := 0) (i := 0) rfl rfl rfl ?_
      refine eb_getI (pc := 66) rfl rfl (by decide) (by decide) rfl ?_
      refine eb_joinI (pc2 := 85) (ls2 := [(0, .ref s_tape)]) (st2 := [.ref s_tape]) (v := (if (eb_I (eb_sI h18 s_tape 5 y19) s_tape 5) = 0 then eb_I (eb_sI h18 s_tape 5 y19) s_tape 3 else (eb_I (eb_sI h18 s_tape 5 y19) s_tape 3) + 1 : Int32)) ?_ (fun jj22 => ?_)
      · refine eb_putI (pc := 85) rfl rfl (by decide) (by decide) rfl rfl ⟨rfl, rfl⟩ ?_
        refine eb_aload_n (pc := 88) (n := 0) (i := 0) rfl rfl rfl ?_
        refine eb_getI (pc := 89) rfl rfl (by decide) (by decide) rfl ?_
        refine eb_iconst (pc := 92) (n := 1) (v := 1) rfl rfl ?_
        refine eb_icmp_eq (pc := 93) (tgt := 104) rfl (by decide) (fun c24 => ?_) (fun c24 => ?_)
        · replace w := w.1 c24
          exact eb_pick [0] rfl w
        · replace w := w.2 c24
          refine eb_aload_n (pc := 96) (n := 0) (i := 0) rfl rfl rfl ?_
          refine eb_getI (pc := 97) rfl rfl (by decide) (by decide) rfl ?_
          refine eb_iconst (pc := 100) (n := 2) (v := 2) rfl rfl ?_
          refine eb_icmp_ne (pc := 101) (tgt := 143) rfl (by decide) (fun c25 => ?_) (fun c25 => ?_)
          · replace w := w.1 c25
            refine eb_aload_n (pc := 143) (n := 0) (i := 0) rfl rfl rfl ?_
            refine eb_getI (pc := 144) rfl rfl (by decide) (by decide) rfl ?_
            refine eb_iconst (pc := 147) (n := 2) (v := 2) rfl rfl ?_
            refine eb_icmp_ne (pc := 148) (tgt := 159) rfl (by decide) (fun _ => ?_) (fun c => by have c9 := c; contradiction)
            refine eb_aload_n (pc := 159) (n := 0) (i := 0) rfl rfl rfl ?_
            refine eb_getI (pc := 160) rfl rfl (by decide) (by decide) rfl ?_
            refine eb_iconst (pc := 163) (n := 5) (v := 5) rfl rfl ?_
            refine eb_icmp_eq (pc := 164) (tgt := 188) rfl (by decide) (fun c26 => ?_) (fun c26 => ?_)
            · replace w := w.1 c26
              refine eb_aload_n (pc := 188) (n := 0) (i := 0) rfl rfl rfl ?_
              refine eb_iconst (pc := 189) (n := 1) (v := 1) rfl rfl ?_
              refine eb_ctV (pc := 190) (As := [.int 1]) (rest := []) rfl (by decide) rfl rfl (by decide) rfl (Nat.le_of_ble_eq_true rfl) ?_
              refine eb_Ct.mono w ?_
              rintro r h27 ⟨rfl, ko29, w⟩
              change eb_Sn _ _ _ 193 _ [] _ _
              exact eb_return (pc := 193) rfl rfl w
            · replace w := w.2 c26
              refine eb_aload_n (pc := 167) (n := 0) (i := 0) rfl rfl rfl ?_
              refine eb_getI (pc := 168) rfl rfl (by decide) (by decide) rfl ?_
              refine eb_iconst (pc := 171) (n := 2) (v := 2) rfl rfl ?_
              refine eb_icmp_ne (pc := 172) (tgt := 193) rfl (by decide) (fun _ => ?_) (fun c => by have c9 := c; contradiction)
              exact eb_return (pc := 193) rfl rfl w
          · replace w := w.2 c25
            exact eb_pick [0] rfl w
      refine eb_if_ne (pc := 69) (tgt := 79) rfl (by decide) (fun c21 => ?_) (fun c21 => ?_)
      · refine eb_aload_n (pc := 79) (n := 0) (i := 0) rfl rfl rfl ?_
        refine eb_getI (pc := 80) rfl rfl (by decide) (by decide) rfl ?_
        refine eb_iconst (pc := 83) (n := 1) (v := 1) rfl rfl ?_
        refine eb_iadd (pc := 84) rfl ?_
        exact jj22 _ (by simp only [if_neg c21])
      · refine eb_aload_n (pc := 72) (n := 0) (i := 0) rfl rfl rfl ?_
        refine eb_getI (pc := 73) rfl rfl (by decide) (by decide) rfl ?_
        refine eb_goto (pc := 76) (tgt := 85) rfl (by decide) ?_
        exact jj22 _ (by simp only [if_pos c21])
    · replace w := w.2 c17
      refine eb_aload_n (pc := 39) (n := 0) (i := 0) rfl rfl rfl ?_
      refine eb_dupr (pc := 40) rfl ?_
      refine eb_getI (pc := 41) rfl rfl (by decide) (by decide) rfl ?_
      refine eb_iconst (pc := 44) (n := 1) (v := 1) rfl rfl ?_
      refine eb_iadd (pc := 45) rfl ?_
      refine eb_putI (pc := 46) rfl rfl (by decide) (by decide) rfl rfl ⟨rfl, rfl⟩ ?_
      refine eb_goto (pc := 49) (tgt := 16) rfl (by decide) ?_
      exact eb_pick [0] rfl w
theorem b_X7_advance_104 {d : Nat} {h0 h : eb_H} {Q : Option Value → eb_H → Prop}   (ko : eb_KO h) (w : (((eb_I h s_tape 2) ≤ (eb_I h s_tape 4) → ((¬ (eb_I h s_tape 5) = (2 : Int32) → (((eb_I h s_tape 5) = (5 : Int32) → eb_Ct d 68 [.ref s_tape, .int 1] h (fun r h4 => r = none ∧ eb_KO h4 ∧ Q none h4)) ∧ (¬ ((eb_I h s_tape 5) = (5 : Int32)) → Q none h))) ∧ ((eb_I h s_tape 5) = (2 : Int32) → eb_Ct d 71 [.ref s_tape] h (fun r h7 => ∃ y8, r = some (.int y8) ∧ eb_KO h7 ∧ (((eb_I (eb_sI h7 s_tape 6 y8) s_tape 5) = (5 : Int32) → eb_Ct d 68 [.ref s_tape, .int 1] (eb_sI h7 s_tape 6 y8) (fun r h11 => r = none ∧ eb_KO h11 ∧ Q none h11)) ∧ (¬ ((eb_I (eb_sI h7 s_tape 6 y8) s_tape 5) = (5 : Int32)) → ((¬ (eb_I (eb_sI h7 s_tape 6 y8) s_tape 5) = (2 : Int32) → Q none (eb_sI h7 s_tape 6 y8)) ∧ ((eb_I (eb_sI h7 s_tape 6 y8) s_tape 5) = (2 : Int32) → ((((eb_I (eb_sI h7 s_tape 6 y8) s_tape 4) - (eb_I (eb_sI h7 s_tape 6 y8) s_tape 3)) ≤ (3 : Int32) → Q none (eb_sI h7 s_tape 6 y8)) ∧ (¬ (((eb_I (eb_sI h7 s_tape 6 y8) s_tape 4) - (eb_I (eb_sI h7 s_tape 6 y8) s_tape 3)) ≤ (3 : Int32)) → eb_Ct d 68 [.ref s_tape, .int 1] (eb_sI h7 s_tape 6 y8) (fun r h16 => r = none ∧ eb_KO h16 ∧ Q none h16))))))))))) ∧ (¬ ((eb_I h s_tape 2) ≤ (eb_I h s_tape 4)) → eb_Ct d 70 [.ref s_tape, .int (eb_I h s_tape 4)] h (fun r h19 => ∃ y20, r = some (.int y20) ∧ eb_KO h19 ∧ ((¬ y20 = (eb_I h19 s_tape 5) → ((¬ (eb_I h19 s_tape 5) = (2 : Int32) → (((eb_I h19 s_tape 5) = (5 : Int32) → eb_Ct d 68 [.ref s_tape, .int 1] h19 (fun r h25 => r = none ∧ eb_KO h25 ∧ Q none h25)) ∧ (¬ ((eb_I h19 s_tape 5) = (5 : Int32)) → Q none h19))) ∧ ((eb_I h19 s_tape 5) = (2 : Int32) → eb_Ct d 71 [.ref s_tape] h19 (fun r h28 => ∃ y29, r = some (.int y29) ∧ eb_KO h28 ∧ (((eb_I (eb_sI h28 s_tape 6 y29) s_tape 5) = (5 : Int32) → eb_Ct d 68 [.ref s_tape, .int 1] (eb_sI h28 s_tape 6 y29) (fun r h32 => r = none ∧ eb_KO h32 ∧ Q none h32)) ∧ (¬ ((eb_I (eb_sI h28 s_tape 6 y29) s_tape 5) = (5 : Int32)) → ((¬ (eb_I (eb_sI h28 s_tape 6 y29) s_tape 5) = (2 : Int32) → Q none (eb_sI h28 s_tape 6 y29)) ∧ ((eb_I (eb_sI h28 s_tape 6 y29) s_tape 5) = (2 : Int32) → ((((eb_I (eb_sI h28 s_tape 6 y29) s_tape 4) - (eb_I (eb_sI h28 s_tape 6 y29) s_tape 3)) ≤ (3 : Int32) → Q none (eb_sI h28 s_tape 6 y29)) ∧ (¬ (((eb_I (eb_sI h28 s_tape 6 y29) s_tape 4) - (eb_I (eb_sI h28 s_tape 6 y29) s_tape 3)) ≤ (3 : Int32)) → eb_Ct d 68 [.ref s_tape, .int 1] (eb_sI h28 s_tape 6 y29) (fun r h37 => r = none ∧ eb_KO h37 ∧ Q none h37))))))))))) ∧ (y20 = (eb_I h19 s_tape 5) → eb_Sn (d + 1) m_X7_advance h0 104 [(0, .ref s_tape)] [] (eb_sI h19 s_tape 4 ((eb_I h19 s_tape 4) + 1)) Q)))))) : eb_Sn (d + 1) m_X7_advance h0 104 [(0, .ref s_tape)] [] h Q := by
  refine eb_aload_n (pc := 104) (n := 0) (i := 0) rfl rfl rfl ?_
  refine eb_getI (pc := 105) rfl rfl (by decide) (by decide) rfl ?_
  refine eb_aload_n (pc := 108) (n := 0) (i := 0) rfl rfl rfl ?_
  refine eb_getI (pc := 109) rfl rfl (by decide) (by decide) rfl ?_
  refine eb_icmp_ge (pc := 112) (tgt := 143) rfl (by decide) (fun c1 => ?_) (fun c1 => ?_)
  · replace w := w.1 c1
    refine eb_aload_n (pc := 143) (n := 0) (i := 0) rfl rfl rfl ?_
    refine eb_getI (pc := 144) rfl rfl (by decide) (by decide) rfl ?_
    refine eb_iconst (pc := 147) (n := 2) (v := 2) rfl rfl ?_
    refine eb_icmp_ne (pc := 148) (tgt := 159) rfl (by decide) (fun c2 => ?_) (fun c2 => ?_)
    · replace w := w.1 c2
      refine eb_aload_n (pc := 159) (n := 0) (i := 0) rfl rfl rfl ?_
      refine eb_getI (pc := 160) rfl rfl (by decide) (by decide) rfl ?_
      refine eb_iconst (pc := 163) (n := 5) (v := 5) rfl rfl ?_
      refine eb_icmp_eq (pc := 164) (tgt := 188) rfl (by decide) (fun c3 => ?_) (fun c3 => ?_)
      · replace w := w.1 c3
        refine eb_aload_n (pc := 188) (n := 0) (i := 0) rfl rfl rfl ?_
        refine eb_iconst (pc := 189) (n := 1) (v := 1) rfl rfl ?_
        refine eb_ctV (pc := 190) (As := [.int 1]) (rest := []) rfl (by decide) rfl rfl (by decide) rfl (Nat.le_of_ble_eq_true rfl) ?_
        refine eb_Ct.mono w ?_
        rintro r h4 ⟨rfl, ko6, w⟩
        change eb_Sn _ _ _ 193 _ [] _ _
        exact eb_return (pc := 193) rfl rfl w
      · replace w := w.2 c3
        refine eb_aload_n (pc := 167) (n := 0) (i := 0) rfl rfl rfl ?_
        refine eb_getI (pc := 168) rfl rfl (by decide) (by decide) rfl ?_
        refine eb_iconst (pc := 171) (n := 2) (v := 2) rfl rfl ?_
        refine eb_icmp_ne (pc := 172) (tgt := 193) rfl (by decide) (fun _ => ?_) (fun c => by have c9 := c; contradiction)
        exact eb_return (pc := 193) rfl rfl w
    · replace w := w.2 c2
      refine eb_aload_n (pc := 151) (n := 0) (i := 0) rfl rfl rfl ?_
      refine eb_aload_n (pc := 152) (n := 0) (i := 0) rfl rfl rfl ?_
      refine eb_ctV (pc := 153) (As := []) (rest := [.ref s_tape]) rfl (by decide) rfl rfl (by decide) rfl (Nat.le_of_ble_eq_true rfl) ?_
      refine eb_Ct.mono w ?_
      rintro r h7 ⟨y8, rfl, ko9, w⟩
      change eb_Sn _ _ _ 156 _ [.int y8, .ref s_tape] _ _
      refine eb_putI (pc := 156) rfl rfl (by decide) (by decide) rfl rfl ⟨rfl, rfl⟩ ?_
      refine eb_aload_n (pc := 159) (n := 0) (i := 0) rfl rfl rfl ?_
      refine eb_getI (pc := 160) rfl rfl (by decide) (by decide) rfl ?_
      refine eb_iconst (pc := 163) (n := 5) (v := 5) rfl rfl ?_
      refine eb_icmp_eq (pc := 164) (tgt := 188) rfl (by decide) (fun c10 => ?_) (fun c10 => ?_)
      · replace w := w.1 c10
        refine eb_aload_n (pc := 188) (n := 0) (i := 0) rfl rfl rfl ?_
        refine eb_iconst (pc := 189) (n := 1) (v := 1) rfl rfl ?_
        refine eb_ctV (pc := 190) (As := [.int 1]) (rest := []) rfl (by decide) rfl rfl (by decide) rfl (Nat.le_of_ble_eq_true rfl) ?_
        refine eb_Ct.mono w ?_
        rintro r h11 ⟨rfl, ko13, w⟩
        change eb_Sn _ _ _ 193 _ [] _ _
        exact eb_return (pc := 193) rfl rfl w
      · replace w := w.2 c10
        refine eb_aload_n (pc := 167) (n := 0) (i := 0) rfl rfl rfl ?_
        refine eb_getI (pc := 168) rfl rfl (by decide) (by decide) rfl ?_
        refine eb_iconst (pc := 171) (n := 2) (v := 2) rfl rfl ?_
        refine eb_icmp_ne (pc := 172) (tgt := 193) rfl (by decide) (fun c14 => ?_) (fun c14 => ?_)
        · replace w := w.1 c14
          exact eb_return (pc := 193) rfl rfl w
        · replace w := w.2 c14
          refine eb_aload_n (pc := 175) (n := 0) (i := 0) rfl rfl rfl ?_
          refine eb_getI (pc := 176) rfl rfl (by decide) (by decide) rfl ?_
          refine eb_aload_n (pc := 179) (n := 0) (i := 0) rfl rfl rfl ?_
          refine eb_getI (pc := 180) rfl rfl (by decide) (by decide) rfl ?_
          refine eb_isub (pc := 183) rfl ?_
          refine eb_iconst (pc := 184) (n := 3) (v := 3) rfl rfl ?_
          refine eb_icmp_le (pc := 185) (tgt := 193) rfl (by decide) (fun c15 => ?_) (fun c15 => ?_)
          · replace w := w.1 c15
            exact eb_return (pc := 193) rfl rfl w
          · replace w := w.2 c15
            refine eb_aload_n (pc := 188) (n := 0) (i := 0) rfl rfl rfl ?_
            refine eb_iconst (pc := 189) (n := 1) (v := 1) rfl rfl ?_
            refine eb_ctV (pc := 190) (As := [.int 1]) (rest := []) rfl (by decide) rfl rfl (by decide) rfl (Nat.le_of_ble_eq_true rfl) ?_
            refine eb_Ct.mono w ?_
            rintro r h16 ⟨rfl, ko18, w⟩
            change eb_Sn _ _ _ 193 _ [] _ _
            exact eb_return (pc := 193) rfl rfl w
  · replace w := w.2 c1
    refine eb_aload_n (pc := 115) (n := 0) (i := 0) rfl rfl rfl ?_
    refine eb_aload_n (pc := 116) (n := 0) (i := 0) rfl rfl rfl ?_
    refine eb_getI (pc := 117) rfl rfl (by decide) (by decide) rfl ?_
    refine eb_ctV (pc := 120) (As := [.int (eb_I h s_tape 4)]) (rest := []) rfl (by decide) rfl rfl (by decide) rfl (Nat.le_of_ble_eq_true rfl) ?_
    refine eb_Ct.mono w ?_
    rintro r h19 ⟨y20, rfl, ko21, w⟩
    change eb_Sn _ _ _ 123 _ [.int y20] _ _
    refine eb_aload_n (pc := 123) (n := 0) (i := 0) rfl rfl rfl ?_
    refine eb_getI (pc := 124) rfl rfl (by decide) (by decide) rfl ?_
    refine eb_icmp_ne (pc := 127) (tgt := 143) rfl (by decide) (fun c22 => ?_) (fun c22 => ?_)
    · replace w := w.1 c22
      refine eb_aload_n (pc := 143) (n := 0) (i := 0) rfl rfl rfl ?_
      refine eb_getI (pc := 144) rfl rfl (by decide) (by decide) rfl ?_
      refine eb_iconst (pc := 147) (n := 2) (v := 2) rfl rfl ?_
      refine eb_icmp_ne (pc := 148) (tgt := 159) rfl (by decide) (fun c23 => ?_) (fun c23 => ?_)
      · replace w := w.1 c23
        refine eb_aload_n (pc := 159) (n := 0) (i := 0) rfl rfl rfl ?_
        refine eb_getI (pc := 160) rfl rfl (by decide) (by decide) rfl ?_
        refine eb_iconst (pc := 163) (n := 5) (v := 5) rfl rfl ?_
        refine eb_icmp_eq (pc := 164) (tgt := 188) rfl (by decide) (fun c24 => ?_) (fun c24 => ?_)
        · replace w := w.1 c24
          refine eb_aload_n (pc := 188) (n := 0) (i := 0) rfl rfl rfl ?_
          refine eb_iconst (pc := 189) (n := 1) (v := 1) rfl rfl ?_
          refine eb_ctV (pc := 190) (As := [.int 1]) (rest := []) rfl (by decide) rfl rfl (by decide) rfl (Nat.le_of_ble_eq_true rfl) ?_
          refine eb_Ct.mono w ?_
          rintro r h25 ⟨rfl, ko27, w⟩
          change eb_Sn _ _ _ 193 _ [] _ _
          exact eb_return (pc := 193) rfl rfl w
        · replace w := w.2 c24
          refine eb_aload_n (pc := 167) (n := 0) (i := 0) rfl rfl rfl ?_
          refine eb_getI (pc := 168) rfl rfl (by decide) (by decide) rfl ?_
          refine eb_iconst (pc := 171) (n := 2) (v := 2) rfl rfl ?_
          refine eb_icmp_ne (pc := 172) (tgt := 193) rfl (by decide) (fun _ => ?_) (fun c => by have c9 := c; contradiction)
          exact eb_return (pc := 193) rfl rfl w
      · replace w := w.2 c23
        refine eb_aload_n (pc := 151) (n := 0) (i := 0) rfl rfl rfl ?_
        refine eb_aload_n (pc := 152) (n := 0) (i := 0) rfl rfl rfl ?_
        refine eb_ctV (pc := 153) (As := []) (rest := [.ref s_tape]) rfl (by decide) rfl rfl (by decide) rfl (Nat.le_of_ble_eq_true rfl) ?_
        refine eb_Ct.mono w ?_
        rintro r h28 ⟨y29, rfl, ko30, w⟩
        change eb_Sn _ _ _ 156 _ [.int y29, .ref s_tape] _ _
        refine eb_putI (pc := 156) rfl rfl (by decide) (by decide) rfl rfl ⟨rfl, rfl⟩ ?_
        refine eb_aload_n (pc := 159) (n := 0) (i := 0) rfl rfl rfl ?_
        refine eb_getI (pc := 160) rfl rfl (by decide) (by decide) rfl ?_
        refine eb_iconst (pc := 163) (n := 5) (v := 5) rfl rfl ?_
        refine eb_icmp_eq (pc := 164) (tgt := 188) rfl (by decide) (fun c31 => ?_) (fun c31 => ?_)
        · replace w := w.1 c31
          refine eb_aload_n (pc := 188) (n := 0) (i := 0) rfl rfl rfl ?_
          refine eb_iconst (pc := 189) (n := 1) (v := 1) rfl rfl ?_
          refine eb_ctV (pc := 190) (As := [.int 1]) (rest := []) rfl (by decide) rfl rfl (by decide) rfl (Nat.le_of_ble_eq_true rfl) ?_
          refine eb_Ct.mono w ?_
          rintro r h32 ⟨rfl, ko34, w⟩
          change eb_Sn _ _ _ 193 _ [] _ _
          exact eb_return (pc := 193) rfl rfl w
        · replace w := w.2 c31
          refine eb_aload_n (pc := 167) (n := 0) (i := 0) rfl rfl rfl ?_
          refine eb_getI (pc := 168) rfl rfl (by decide) (by decide) rfl ?_
          refine eb_iconst (pc := 171) (n := 2) (v := 2) rfl rfl ?_
          refine eb_icmp_ne (pc := 172) (tgt := 193) rfl (by decide) (fun c35 => ?_) (fun c35 => ?_)
          · replace w := w.1 c35
            exact eb_return (pc := 193) rfl rfl w
          · replace w := w.2 c35
            refine eb_aload_n (pc := 175) (n := 0) (i := 0) rfl rfl rfl ?_
            refine eb_getI (pc := 176) rfl rfl (by decide) (by decide) rfl ?_
            refine eb_aload_n (pc := 179) (n := 0) (i := 0) rfl rfl rfl ?_
            refine eb_getI (pc := 180) rfl rfl (by decide) (by decide) rfl ?_
            refine eb_isub (pc := 183) rfl ?_
            refine eb_iconst (pc := 184) (n := 3) (v := 3) rfl rfl ?_
            refine eb_icmp_le (pc := 185) (tgt := 193) rfl (by decide) (fun c36 => ?_) (fun c36 => ?_)
            · replace w := w.1 c36
              exact eb_return (pc := 193) rfl rfl w
            · replace w := w.2 c36
              refine eb_aload_n (pc := 188) (n := 0) (i := 0) rfl rfl rfl ?_
              refine eb_iconst (pc := 189) (n := 1) (v := 1) rfl rfl ?_
              refine eb_ctV (pc := 190) (As := [.int 1]) (rest := []) rfl (by decide) rfl rfl (by decide) rfl (Nat.le_of_ble_eq_true rfl) ?_
              refine eb_Ct.mono w ?_
              rintro r h37 ⟨rfl, ko39, w⟩
              change eb_Sn _ _ _ 193 _ [] _ _
              exact eb_return (pc := 193) rfl rfl w
    · replace w := w.2 c22
      refine eb_aload_n (pc := 130) (n := 0) (i := 0) rfl rfl rfl ?_
      refine eb_dupr (pc := 131) rfl ?_
      refine eb_getI (pc := 132) rfl rfl (by decide) (by decide) rfl ?_
      refine eb_iconst (pc := 135) (n := 1) (v := 1) rfl rfl ?_
      refine eb_iadd (pc := 136) rfl ?_
      refine eb_putI (pc := 137) rfl rfl (by decide) (by decide) rfl rfl ⟨rfl, rfl⟩ ?_
      refine eb_goto (pc := 140) (tgt := 104) rfl (by decide) ?_
      exact eb_pick [0] rfl w
theorem T_X7_advance {d : Nat} {h : eb_H} {Q : Option Value → eb_H → Prop}   (ko : eb_KO h) (w : (((eb_I h s_tape 7) = 0 → eb_Sn (d + 1) m_X7_advance h 16 [(0, .ref s_tape)] [] (eb_sI h s_tape 3 (eb_I h s_tape 4)) Q) ∧ (¬ ((eb_I h s_tape 7) = 0) → Q none h))) : eb_Ct (d + 1) 69 [.ref s_tape] h Q :=
  eb_bodyQ (by decide) ok_X7_advance (Nat.le_of_ble_eq_true rfl) (b_X7_advance_0 (h0 := h)   ko w)
theorem b_X7_sortAt_0 {d : Nat} {h0 h : eb_H} {Q : Option Value → eb_H → Prop} (x1 : Int32)  (ko : eb_KO h) (w : ((x1 < 0 → Q (some (.int 0)) h) ∧ (¬ (x1 < 0) → (((eb_I h s_tape 2) ≤ x1 → Q (some (.int 0)) h) ∧ (¬ ((eb_I h s_tape 2) ≤ x1) → ((x1 < (900 : Int32) → (vp_in x1 900) ∧ ((((((eb_I h s_tape_text x1.toNatClampNeg) &&& 255).toUInt32 % 65536).toInt32) = (10 : Int32) → Q (some (.int 4)) h) ∧ (¬ (((((eb_I h s_tape_text x1.toNatClampNeg) &&& 255).toUInt32 % 65536).toInt32) = (10 : Int32)) → ((¬ ((((eb_I h s_tape_text x1.toNatClampNeg) &&& 255).toUInt32 % 65536).toInt32) = (32 : Int32) → ((((((eb_I h s_tape_text x1.toNatClampNeg) &&& 255).toUInt32 % 65536).toInt32) < (97 : Int32) → ((((((eb_I h s_tape_text x1.toNatClampNeg) &&& 255).toUInt32 % 65536).toInt32) < (48 : Int32) → eb_Ct d 291 [.ref (eb_mk 3 21 0), .int ((((eb_I h s_tape_text x1.toNatClampNeg) &&& 255).toUInt32 % 65536).toInt32)] h (fun r h9 => ∃ y10, r = some (.int y10) ∧ eb_KO h9 ∧ Q (some (.int (if y10 < 0 then 5 else 3 : Int32))) h9)) ∧ (¬ (((((eb_I h s_tape_text x1.toNatClampNeg) &&& 255).toUInt32 % 65536).toInt32) < (48 : Int32)) → (((57 : Int32) < ((((eb_I h s_tape_text x1.toNatClampNeg) &&& 255).toUInt32 % 65536).toInt32) → eb_Ct d 291 [.ref (eb_mk 3 21 0), .int ((((eb_I h s_tape_text x1.toNatClampNeg) &&& 255).toUInt32 % 65536).toInt32)] h (fun r h16 => ∃ y17, r = some (.int y17) ∧ eb_KO h16 ∧ Q (some (.int (if y17 < 0 then 5 else 3 : Int32))) h16)) ∧ (¬ ((57 : Int32) < ((((eb_I h s_tape_text x1.toNatClampNeg) &&& 255).toUInt32 % 65536).toInt32)) → Q (some (.int 2)) h))))) ∧ (¬ (((((eb_I h s_tape_text x1.toNatClampNeg) &&& 255).toUInt32 % 65536).toInt32) < (97 : Int32)) → (((122 : Int32) < ((((eb_I h s_tape_text x1.toNatClampNeg) &&& 255).toUInt32 % 65536).toInt32) → ((((((eb_I h s_tape_text x1.toNatClampNeg) &&& 255).toUInt32 % 65536).toInt32) < (48 : Int32) → eb_Ct d 291 [.ref (eb_mk 3 21 0), .int ((((eb_I h s_tape_text x1.toNatClampNeg) &&& 255).toUInt32 % 65536).toInt32)] h (fun r h24 => ∃ y25, r = some (.int y25) ∧ eb_KO h24 ∧ Q (some (.int (if y25 < 0 then 5 else 3 : Int32))) h24)) ∧ (¬ (((((eb_I h s_tape_text x1.toNatClampNeg) &&& 255).toUInt32 % 65536).toInt32) < (48 : Int32)) → (((57 : Int32) < ((((eb_I h s_tape_text x1.toNatClampNeg) &&& 255).toUInt32 % 65536).toInt32) → eb_Ct d 291 [.ref (eb_mk 3 21 0), .int ((((eb_I h s_tape_text x1.toNatClampNeg) &&& 255).toUInt32 % 65536).toInt32)] h (fun r h31 => ∃ y32, r = some (.int y32) ∧ eb_KO h31 ∧ Q (some (.int (if y32 < 0 then 5 else 3 : Int32))) h31)) ∧ (¬ ((57 : Int32) < ((((eb_I h s_tape_text x1.toNatClampNeg) &&& 255).toUInt32 % 65536).toInt32)) → Q (some (.int 2)) h))))) ∧ (¬ ((122 : Int32) < ((((eb_I h s_tape_text x1.toNatClampNeg) &&& 255).toUInt32 % 65536).toInt32)) → Q (some (.int 1)) h))))) ∧ (((((eb_I h s_tape_text x1.toNatClampNeg) &&& 255).toUInt32 % 65536).toInt32) = (32 : Int32) → Q (some (.int 4)) h))))) ∧ (¬ (x1 < (900 : Int32)) → Q (some (.int 0)) h))))))) : eb_Sn (d + 1) m_X7_sortAt h0 0 [(0, .ref s_tape), (1, .int x1)] [] h Q := by
  refine eb_iload_n (pc := 0) (n := 1) (i := 1) rfl rfl rfl ?_
  refine eb_if_lt (pc := 1) (tgt := 21) rfl (by decide) (fun c1 => ?_) (fun c1 => ?_)
  · replace w := w.1 c1
    refine eb_iconst (pc := 21) (n := 0) (v := 0) rfl rfl ?_
    exact eb_ireturn (pc := 22) rfl rfl rfl w
  · replace w := w.2 c1
    refine eb_iload_n (pc := 4) (n := 1) (i := 1) rfl rfl rfl ?_
    refine eb_aload_n (pc := 5) (n := 0) (i := 0) rfl rfl rfl ?_
    refine eb_getI (pc := 6) rfl rfl (by decide) (by decide) rfl ?_
    refine eb_icmp_ge (pc := 9) (tgt := 21) rfl (by decide) (fun c2 => ?_) (fun c2 => ?_)
    · replace w := w.1 c2
      refine eb_iconst (pc := 21) (n := 0) (v := 0) rfl rfl ?_
      exact eb_ireturn (pc := 22) rfl rfl rfl w
    · replace w := w.2 c2
      refine eb_iload_n (pc := 12) (n := 1) (i := 1) rfl rfl rfl ?_
      refine eb_aload_n (pc := 13) (n := 0) (i := 0) rfl rfl rfl ?_
      refine eb_getR (pc := 14) rfl rfl (by decide) (by decide) rfl (ko_s_tape_0 ko) ?_
      refine eb_alen (pc := 17) (v := 900) rfl (by decide) (by decide) rfl ?_
      refine eb_icmp_lt (pc := 18) (tgt := 23) rfl (by decide) (fun c3 => ?_) (fun c3 => ?_)
      · replace w := w.1 c3
        refine eb_aload_n (pc := 23) (n := 0) (i := 0) rfl rfl rfl ?_
        refine eb_getR (pc := 24) rfl rfl (by decide) (by decide) rfl (ko_s_tape_0 ko) ?_
        refine eb_iload_n (pc := 27) (n := 1) (i := 1) rfl rfl rfl ?_
        obtain ⟨c4, w⟩ := w
        refine eb_baload (pc := 28) rfl rfl c4 ?_
        refine eb_sipush (pc := 29) (n := 255) (v := 255) rfl rfl ?_
        refine eb_iand (pc := 32) rfl ?_
        refine eb_i2c (pc := 33) rfl ?_
        refine eb_istore_n (pc := 34) (n := 2) (i := 2) (ls2 := [(2, .int ((((eb_I h s_tape_text x1.toNatClampNeg) &&& 255).toUInt32 % 65536).toInt32)), (0, .ref s_tape), (1, .int x1)]) rfl (Nat.le_of_ble_eq_true rfl) rfl rfl ?_
        refine eb_iload_n (pc := 35) (n := 2) (i := 2) rfl rfl rfl ?_
        refine eb_bipush (pc := 36) (n := 10) (v := 10) rfl rfl ?_
        refine eb_icmp_eq (pc := 38) (tgt := 47) rfl (by decide) (fun c5 => ?_) (fun c5 => ?_)
        · replace w := w.1 c5
          refine eb_iconst (pc := 47) (n := 4) (v := 4) rfl rfl ?_
          exact eb_ireturn (pc := 48) rfl rfl rfl w
        · replace w := w.2 c5
          refine eb_iload_n (pc := 41) (n := 2) (i := 2) rfl rfl rfl ?_
          refine eb_bipush (pc := 42) (n := 32) (v := 32) rfl rfl ?_
          refine eb_icmp_ne (pc := 44) (tgt := 49) rfl (by decide) (fun c6 => ?_) (fun c6 => ?_)
          · replace w := w.1 c6
            refine eb_iload_n (pc := 49) (n := 2) (i := 2) rfl rfl rfl ?_
            refine eb_bipush (pc := 50) (n := 97) (v := 97) rfl rfl ?_
            refine eb_icmp_lt (pc := 52) (tgt := 63) rfl (by decide) (fun c7 => ?_) (fun c7 => ?_)
            · replace w := w.1 c7
              refine eb_iload_n (pc := 63) (n := 2) (i := 2) rfl rfl rfl ?_
              refine eb_bipush (pc := 64) (n := 48) (v := 48) rfl rfl ?_
              refine eb_icmp_lt (pc := 66) (tgt := 77) rfl (by decide) (fun c8 => ?_) (fun c8 => ?_)
              · replace w := w.1 c8
                refine eb_ldcS (pc := 77) (a := 3) (i := eb_mk 3 21 0) rfl rfl rfl ?_
                refine eb_iload_n (pc := 79) (n := 2) (i := 2) rfl rfl rfl ?_
                refine eb_ctT (pc := 80) (i := 3) (As := [.int ((((eb_I h s_tape_text x1.toNatClampNeg) &&& 255).toUInt32 % 65536).toInt32)]) (rest := []) rfl (by decide) rfl (by decide) rfl rfl (Nat.le_of_ble_eq_true rfl) ?_
                refine eb_Ct.mono w ?_
                rintro r h9 ⟨y10, rfl, ko11, w⟩
                change eb_Sn _ _ _ 83 _ [.int y10] _ _
                refine eb_joinI (pc2 := 91) (ls2 := [(2, .int ((((eb_I h s_tape_text x1.toNatClampNeg) &&& 255).toUInt32 % 65536).toInt32)), (0, .ref s_tape), (1, .int x1)]) (st2 := []) (v := (if y10 < 0 then 5 else 3 : Int32)) ?_ (fun jj13 => ?_)
                · exact eb_ireturn (pc := 91) rfl rfl rfl w
                refine eb_if_lt (pc := 83) (tgt := 90) rfl (by decide) (fun c12 => ?_) (fun c12 => ?_)
                · refine eb_iconst (pc := 90) (n := 5) (v := 5) rfl rfl ?_
                  exact jj13 _ (by simp only [if_pos c12])
                · refine eb_iconst (pc := 86) (n := 3) (v := 3) rfl rfl ?_
                  refine eb_goto (pc := 87) (tgt := 91) rfl (by decide) ?_
                  exact jj13 _ (by simp only [if_neg c12])
              · replace w := w.2 c8
                refine eb_iload_n (pc := 69) (n := 2) (i := 2) rfl rfl rfl ?_
                refine eb_bipush (pc := 70) (n := 57) (v := 57) rfl rfl ?_
                refine eb_icmp_gt (pc := 72) (tgt := 77) rfl (by decide) (fun c15 => ?_) (fun c15 => ?_)
                · replace w := w.1 c15
                  refine eb_ldcS (pc := 77) (a := 3) (i := eb_mk 3 21 0) rfl rfl rfl ?_
                  refine eb_iload_n (pc := 79) (n := 2) (i := 2) rfl rfl rfl ?_
                  refine eb_ctT (pc := 80) (i := 3) (As := [.int ((((eb_I h s_tape_text x1.toNatClampNeg) &&& 255).toUInt32 % 65536).toInt32)]) (rest := []) rfl (by decide) rfl (by decide) rfl rfl (Nat.le_of_ble_eq_true rfl) ?_
                  refine eb_Ct.mono w ?_
                  rintro r h16 ⟨y17, rfl, ko18, w⟩
                  change eb_Sn _ _ _ 83 _ [.int y17] _ _
                  refine eb_joinI (pc2 := 91) (ls2 := [(2, .int ((((eb_I h s_tape_text x1.toNatClampNeg) &&& 255).toUInt32 % 65536).toInt32)), (0, .ref s_tape), (1, .int x1)]) (st2 := []) (v := (if y17 < 0 then 5 else 3 : Int32)) ?_ (fun jj20 => ?_)
                  · exact eb_ireturn (pc := 91) rfl rfl rfl w
                  refine eb_if_lt (pc := 83) (tgt := 90) rfl (by decide) (fun c19 => ?_) (fun c19 => ?_)
                  · refine eb_iconst (pc := 90) (n := 5) (v := 5) rfl rfl ?_
                    exact jj20 _ (by simp only [if_pos c19])
                  · refine eb_iconst (pc := 86) (n := 3) (v := 3) rfl rfl ?_
                    refine eb_goto (pc := 87) (tgt := 91) rfl (by decide) ?_
                    exact jj20 _ (by simp only [if_neg c19])
                · replace w := w.2 c15
                  refine eb_iconst (pc := 75) (n := 2) (v := 2) rfl rfl ?_
                  exact eb_ireturn (pc := 76) rfl rfl rfl w
            · replace w := w.2 c7
              refine eb_iload_n (pc := 55) (n := 2) (i := 2) rfl rfl rfl ?_
              refine eb_bipush (pc := 56) (n := 122) (v := 122) rfl rfl ?_
              refine eb_icmp_gt (pc := 58) (tgt := 63) rfl (by decide) (fun c22 => ?_) (fun c22 => ?_)
              · replace w := w.1 c22
                refine eb_iload_n (pc := 63) (n := 2) (i := 2) rfl rfl rfl ?_
                refine eb_bipush (pc := 64) (n := 48) (v := 48) rfl rfl ?_
                refine eb_icmp_lt (pc := 66) (tgt := 77) rfl (by decide) (fun c23 => ?_) (fun c23 => ?_)
                · replace w := w.1 c23
                  refine eb_ldcS (pc := 77) (a := 3) (i := eb_mk 3 21 0) rfl rfl rfl ?_
                  refine eb_iload_n (pc := 79) (n := 2) (i := 2) rfl rfl rfl ?_
                  refine eb_ctT (pc := 80) (i := 3) (As := [.int ((((eb_I h s_tape_text x1.toNatClampNeg) &&& 255).toUInt32 % 65536).toInt32)]) (rest := []) rfl (by decide) rfl (by decide) rfl rfl (Nat.le_of_ble_eq_true rfl) ?_
                  refine eb_Ct.mono w ?_
                  rintro r h24 ⟨y25, rfl, ko26, w⟩
                  change eb_Sn _ _ _ 83 _ [.int y25] _ _
                  refine eb_joinI (pc2 := 91) (ls2 := [(2, .int ((((eb_I h s_tape_text x1.toNatClampNeg) &&& 255).toUInt32 % 65536).toInt32)), (0, .ref s_tape), (1, .int x1)]) (st2 := []) (v := (if y25 < 0 then 5 else 3 : Int32)) ?_ (fun jj28 => ?_)
                  · exact eb_ireturn (pc := 91) rfl rfl rfl w
                  refine eb_if_lt (pc := 83) (tgt := 90) rfl (by decide) (fun c27 => ?_) (fun c27 => ?_)
                  · refine eb_iconst (pc := 90) (n := 5) (v := 5) rfl rfl ?_
                    exact jj28 _ (by simp only [if_pos c27])
                  · refine eb_iconst (pc := 86) (n := 3) (v := 3) rfl rfl ?_
                    refine eb_goto (pc := 87) (tgt := 91) rfl (by decide) ?_
                    exact jj28 _ (by simp only [if_neg c27])
                · replace w := w.2 c23
                  refine eb_iload_n (pc := 69) (n := 2) (i := 2) rfl rfl rfl ?_
                  refine eb_bipush (pc := 70) (n := 57) (v := 57) rfl rfl ?_
                  refine eb_icmp_gt (pc := 72) (tgt := 77) rfl (by decide) (fun c30 => ?_) (fun c30 => ?_)
                  · replace w := w.1 c30
                    refine eb_ldcS (pc := 77) (a := 3) (i := eb_mk 3 21 0) rfl rfl rfl ?_
                    refine eb_iload_n (pc := 79) (n := 2) (i := 2) rfl rfl rfl ?_
                    refine eb_ctT (pc := 80) (i := 3) (As := [.int ((((eb_I h s_tape_text x1.toNatClampNeg) &&& 255).toUInt32 % 65536).toInt32)]) (rest := []) rfl (by decide) rfl (by decide) rfl rfl (Nat.le_of_ble_eq_true rfl) ?_
                    refine eb_Ct.mono w ?_
                    rintro r h31 ⟨y32, rfl, ko33, w⟩
                    change eb_Sn _ _ _ 83 _ [.int y32] _ _
                    refine eb_joinI (pc2 := 91) (ls2 := [(2, .int ((((eb_I h s_tape_text x1.toNatClampNeg) &&& 255).toUInt32 % 65536).toInt32)), (0, .ref s_tape), (1, .int x1)]) (st2 := []) (v := (if y32 < 0 then 5 else 3 : Int32)) ?_ (fun jj35 => ?_)
                    · exact eb_ireturn (pc := 91) rfl rfl rfl w
                    refine eb_if_lt (pc := 83) (tgt := 90) rfl (by decide) (fun c34 => ?_) (fun c34 => ?_)
                    · refine eb_iconst (pc := 90) (n := 5) (v := 5) rfl rfl ?_
                      exact jj35 _ (by simp only [if_pos c34])
                    · refine eb_iconst (pc := 86) (n := 3) (v := 3) rfl rfl ?_
                      refine eb_goto (pc := 87) (tgt := 91) rfl (by decide) ?_
                      exact jj35 _ (by simp only [if_neg c34])
                  · replace w := w.2 c30
                    refine eb_iconst (pc := 75) (n := 2) (v := 2) rfl rfl ?_
                    exact eb_ireturn (pc := 76) rfl rfl rfl w
              · replace w := w.2 c22
                refine eb_iconst (pc := 61) (n := 1) (v := 1) rfl rfl ?_
                exact eb_ireturn (pc := 62) rfl rfl rfl w
          · replace w := w.2 c6
            refine eb_iconst (pc := 47) (n := 4) (v := 4) rfl rfl ?_
            exact eb_ireturn (pc := 48) rfl rfl rfl w
      · replace w := w.2 c3
        refine eb_iconst (pc := 21) (n := 0) (v := 0) rfl rfl ?_
        exact eb_ireturn (pc := 22) rfl rfl rfl w
theorem T_X7_sortAt {d : Nat} {h : eb_H} {Q : Option Value → eb_H → Prop} (x1 : Int32)  (ko : eb_KO h) (w : ((x1 < 0 → Q (some (.int 0)) h) ∧ (¬ (x1 < 0) → (((eb_I h s_tape 2) ≤ x1 → Q (some (.int 0)) h) ∧ (¬ ((eb_I h s_tape 2) ≤ x1) → ((x1 < (900 : Int32) → (vp_in x1 900) ∧ ((((((eb_I h s_tape_text x1.toNatClampNeg) &&& 255).toUInt32 % 65536).toInt32) = (10 : Int32) → Q (some (.int 4)) h) ∧ (¬ (((((eb_I h s_tape_text x1.toNatClampNeg) &&& 255).toUInt32 % 65536).toInt32) = (10 : Int32)) → ((¬ ((((eb_I h s_tape_text x1.toNatClampNeg) &&& 255).toUInt32 % 65536).toInt32) = (32 : Int32) → ((((((eb_I h s_tape_text x1.toNatClampNeg) &&& 255).toUInt32 % 65536).toInt32) < (97 : Int32) → ((((((eb_I h s_tape_text x1.toNatClampNeg) &&& 255).toUInt32 % 65536).toInt32) < (48 : Int32) → eb_Ct d 291 [.ref (eb_mk 3 21 0), .int ((((eb_I h s_tape_text x1.toNatClampNeg) &&& 255).toUInt32 % 65536).toInt32)] h (fun r h9 => ∃ y10, r = some (.int y10) ∧ eb_KO h9 ∧ Q (some (.int (if y10 < 0 then 5 else 3 : Int32))) h9)) ∧ (¬ (((((eb_I h s_tape_text x1.toNatClampNeg) &&& 255).toUInt32 % 65536).toInt32) < (48 : Int32)) → (((57 : Int32) < ((((eb_I h s_tape_text x1.toNatClampNeg) &&& 255).toUInt32 % 65536).toInt32) → eb_Ct d 291 [.ref (eb_mk 3 21 0), .int ((((eb_I h s_tape_text x1.toNatClampNeg) &&& 255).toUInt32 % 65536).toInt32)] h (fun r h16 => ∃ y17, r = some (.int y17) ∧ eb_KO h16 ∧ Q (some (.int (if y17 < 0 then 5 else 3 : Int32))) h16)) ∧ (¬ ((57 : Int32) < ((((eb_I h s_tape_text x1.toNatClampNeg) &&& 255).toUInt32 % 65536).toInt32)) → Q (some (.int 2)) h))))) ∧ (¬ (((((eb_I h s_tape_text x1.toNatClampNeg) &&& 255).toUInt32 % 65536).toInt32) < (97 : Int32)) → (((122 : Int32) < ((((eb_I h s_tape_text x1.toNatClampNeg) &&& 255).toUInt32 % 65536).toInt32) → ((((((eb_I h s_tape_text x1.toNatClampNeg) &&& 255).toUInt32 % 65536).toInt32) < (48 : Int32) → eb_Ct d 291 [.ref (eb_mk 3 21 0), .int ((((eb_I h s_tape_text x1.toNatClampNeg) &&& 255).toUInt32 % 65536).toInt32)] h (fun r h24 => ∃ y25, r = some (.int y25) ∧ eb_KO h24 ∧ Q (some (.int (if y25 < 0 then 5 else 3 : Int32))) h24)) ∧ (¬ (((((eb_I h s_tape_text x1.toNatClampNeg) &&& 255).toUInt32 % 65536).toInt32) < (48 : Int32)) → (((57 : Int32) < ((((eb_I h s_tape_text x1.toNatClampNeg) &&& 255).toUInt32 % 65536).toInt32) → eb_Ct d 291 [.ref (eb_mk 3 21 0), .int ((((eb_I h s_tape_text x1.toNatClampNeg) &&& 255).toUInt32 % 65536).toInt32)] h (fun r h31 => ∃ y32, r = some (.int y32) ∧ eb_KO h31 ∧ Q (some (.int (if y32 < 0 then 5 else 3 : Int32))) h31)) ∧ (¬ ((57 : Int32) < ((((eb_I h s_tape_text x1.toNatClampNeg) &&& 255).toUInt32 % 65536).toInt32)) → Q (some (.int 2)) h))))) ∧ (¬ ((122 : Int32) < ((((eb_I h s_tape_text x1.toNatClampNeg) &&& 255).toUInt32 % 65536).toInt32)) → Q (some (.int 1)) h))))) ∧ (((((eb_I h s_tape_text x1.toNatClampNeg) &&& 255).toUInt32 % 65536).toInt32) = (32 : Int32) → Q (some (.int 4)) h))))) ∧ (¬ (x1 < (900 : Int32)) → Q (some (.int 0)) h))))))) : eb_Ct (d + 1) 70 [.ref s_tape, .int x1] h Q :=
  eb_bodyQ (by decide) ok_X7_sortAt (Nat.le_of_ble_eq_true rfl) (b_X7_sortAt_0 (h0 := h) x1  ko w)
theorem b_X7_numberAtHand_0 {d : Nat} {h0 h : eb_H} {Q : Option Value → eb_H → Prop}   (ko : eb_KO h) (w : eb_Sn (d + 1) m_X7_numberAtHand h0 11 [(0, .ref s_tape), (1, .int 0), (2, .int (if (eb_I h s_tape 3) < (0 : Int32) then 0 else eb_I h s_tape 3 : Int32))] [] h Q) : eb_Sn (d + 1) m_X7_numberAtHand h0 0 [(0, .ref s_tape)] [] h Q := by
  refine eb_iconst (pc := 0) (n := 0) (v := 0) rfl rfl ?_
  refine eb_istore_n (pc := 1) (n := 1) (i := 1) (ls2 := [(1, .int 0), (0, .ref s_tape)]) rfl (Nat.le_of_ble_eq_true rfl) rfl rfl ?_
  refine eb_aload_n (pc := 2) (n := 0) (i := 0) rfl rfl rfl ?_
  refine eb_getI (pc := 3) rfl rfl (by decide) (by decide) rfl ?_
  refine eb_iconst (pc := 6) (n := 0) (v := 0) rfl rfl ?_
  refine eb_ctS (pc := 7) (As := [.int (eb_I h s_tape 3), .int 0]) (rest := []) rfl (by decide) (by decide) rfl rfl (Nat.le_of_ble_eq_true rfl) ?_
  refine eb_bodyQ (by decide) ok_J9_max_7cf53 (Nat.le_of_ble_eq_true rfl) ?_
  change eb_Sn _ m_J9_max_7cf53 _ 0 [(0, .int (eb_I h s_tape 3)), (1, .int 0)] [] _ _
  refine eb_iload_n (pc := 0) (n := 0) (i := 0) rfl rfl rfl ?_
  refine eb_iload_n (pc := 1) (n := 1) (i := 1) rfl rfl rfl ?_
  refine eb_joinI (pc2 := 10) (ls2 := [(0, .int (eb_I h s_tape 3)), (1, .int 0)]) (st2 := []) (v := (if (eb_I h s_tape 3) < (0 : Int32) then 0 else eb_I h s_tape 3 : Int32)) ?_ (fun jj2 => ?_)
  · refine eb_ireturn (pc := 10) rfl rfl rfl ?_
    change eb_Sn _ _ _ 10 _ [.int (if (eb_I h s_tape 3) < (0 : Int32) then 0 else eb_I h s_tape 3 : Int32)] _ _
    refine eb_istore_n (pc := 10) (n := 2) (i := 2) (ls2 := [(2, .int (if (eb_I h s_tape 3) < (0 : Int32) then 0 else eb_I h s_tape 3 : Int32)), (1, .int 0), (0, .ref s_tape)]) rfl (Nat.le_of_ble_eq_true rfl) rfl rfl ?_
    exact eb_pick [2, 1, 0] rfl w
  refine eb_icmp_lt (pc := 2) (tgt := 9) rfl (by decide) (fun c1 => ?_) (fun c1 => ?_)
  · refine eb_iload_n (pc := 9) (n := 1) (i := 1) rfl rfl rfl ?_
    exact jj2 _ (by simp only [if_pos c1])
  · refine eb_iload_n (pc := 5) (n := 0) (i := 0) rfl rfl rfl ?_
    refine eb_goto (pc := 6) (tgt := 10) rfl (by decide) ?_
    exact jj2 _ (by simp only [if_neg c1])
theorem b_X7_numberAtHand_11 {d : Nat} {h0 h : eb_H} {Q : Option Value → eb_H → Prop} (x1 : Int32) (x2 : Int32)  (ko : eb_KO h) (w : (((eb_I h s_tape 4) ≤ x2 → Q (some (.int x1)) h) ∧ (¬ ((eb_I h s_tape 4) ≤ x2) → (((900 : Int32) ≤ x2 → Q (some (.int x1)) h) ∧ (¬ ((900 : Int32) ≤ x2) → (vp_in x2 900) ∧ eb_Sn (d + 1) m_X7_numberAtHand h0 11 [(0, .ref s_tape), (1, .int ((((10 : Int32) * x1) + (eb_I h s_tape_text x2.toNatClampNeg)) - 48)), (2, .int (x2 + 1))] [] h Q))))) : eb_Sn (d + 1) m_X7_numberAtHand h0 11 [(0, .ref s_tape), (1, .int x1), (2, .int x2)] [] h Q := by
  refine eb_iload_n (pc := 11) (n := 2) (i := 2) rfl rfl rfl ?_
  refine eb_aload_n (pc := 12) (n := 0) (i := 0) rfl rfl rfl ?_
  refine eb_getI (pc := 13) rfl rfl (by decide) (by decide) rfl ?_
  refine eb_icmp_ge (pc := 16) (tgt := 49) rfl (by decide) (fun c1 => ?_) (fun c1 => ?_)
  · replace w := w.1 c1
    refine eb_iload_n (pc := 49) (n := 1) (i := 1) rfl rfl rfl ?_
    exact eb_ireturn (pc := 50) rfl rfl rfl w
  · replace w := w.2 c1
    refine eb_iload_n (pc := 19) (n := 2) (i := 2) rfl rfl rfl ?_
    refine eb_aload_n (pc := 20) (n := 0) (i := 0) rfl rfl rfl ?_
    refine eb_getR (pc := 21) rfl rfl (by decide) (by decide) rfl (ko_s_tape_0 ko) ?_
    refine eb_alen (pc := 24) (v := 900) rfl (by decide) (by decide) rfl ?_
    refine eb_icmp_ge (pc := 25) (tgt := 49) rfl (by decide) (fun c2 => ?_) (fun c2 => ?_)
    · replace w := w.1 c2
      refine eb_iload_n (pc := 49) (n := 1) (i := 1) rfl rfl rfl ?_
      exact eb_ireturn (pc := 50) rfl rfl rfl w
    · replace w := w.2 c2
      refine eb_bipush (pc := 28) (n := 10) (v := 10) rfl rfl ?_
      refine eb_iload_n (pc := 30) (n := 1) (i := 1) rfl rfl rfl ?_
      refine eb_imul (pc := 31) rfl ?_
      refine eb_aload_n (pc := 32) (n := 0) (i := 0) rfl rfl rfl ?_
      refine eb_getR (pc := 33) rfl rfl (by decide) (by decide) rfl (ko_s_tape_0 ko) ?_
      refine eb_iload_n (pc := 36) (n := 2) (i := 2) rfl rfl rfl ?_
      obtain ⟨c3, w⟩ := w
      refine eb_baload (pc := 37) rfl rfl c3 ?_
      refine eb_iadd (pc := 38) rfl ?_
      refine eb_bipush (pc := 39) (n := 48) (v := 48) rfl rfl ?_
      refine eb_isub (pc := 41) rfl ?_
      refine eb_istore_n (pc := 42) (n := 1) (i := 1) (ls2 := [(1, .int ((((10 : Int32) * x1) + (eb_I h s_tape_text x2.toNatClampNeg)) - 48)), (0, .ref s_tape), (2, .int x2)]) rfl (Nat.le_of_ble_eq_true rfl) rfl rfl ?_
      refine eb_iinc (pc := 43) (i := 2) (n := 1) (v := x2 + 1) (ls2 := [(2, .int (x2 + 1)), (1, .int ((((10 : Int32) * x1) + (eb_I h s_tape_text x2.toNatClampNeg)) - 48)), (0, .ref s_tape)]) (Nat.le_of_ble_eq_true rfl) rfl rfl rfl rfl ?_
      refine eb_goto (pc := 46) (tgt := 11) rfl (by decide) ?_
      exact eb_pick [2, 1, 0] rfl w
theorem T_X7_numberAtHand {d : Nat} {h : eb_H} {Q : Option Value → eb_H → Prop}   (ko : eb_KO h) (w : eb_Sn (d + 1) m_X7_numberAtHand h 11 [(0, .ref s_tape), (1, .int 0), (2, .int (if (eb_I h s_tape 3) < (0 : Int32) then 0 else eb_I h s_tape 3 : Int32))] [] h Q) : eb_Ct (d + 1) 71 [.ref s_tape] h Q :=
  eb_bodyQ (by decide) ok_X7_numberAtHand (Nat.le_of_ble_eq_true rfl) (b_X7_numberAtHand_0 (h0 := h)   ko w)
theorem b_X7_is_0 {d : Nat} {h0 h : eb_H} {Q : Option Value → eb_H → Prop} (i1 : Nat) (hi_i1 : i1 < 21) (ko : eb_KO h) (w : (((eb_I h s_tape 3) < 0 → Q (some (.int 0)) h) ∧ (¬ ((eb_I h s_tape 3) < 0) → (((900 : Int32) < (eb_I h s_tape 4) → Q (some (.int 0)) h) ∧ (¬ ((900 : Int32) < (eb_I h s_tape 4)) → eb_Ct d 289 [.ref (eb_mk i1 21 0)] h (fun r h3 => ∃ y4, r = some (.int y4) ∧ eb_KO h3 ∧ ((y4 = ((eb_I h3 s_tape 4) - (eb_I h3 s_tape 3)) → eb_Sn (d + 1) m_X7_is h0 39 [(0, .ref s_tape), (1, .ref (eb_mk i1 21 0)), (2, .int 0)] [] h3 Q) ∧ (¬ (y4 = ((eb_I h3 s_tape 4) - (eb_I h3 s_tape 3))) → Q (some (.int 0)) h3)))))))) : eb_Sn (d + 1) m_X7_is h0 0 [(0, .ref s_tape), (1, .ref (eb_mk i1 21 0))] [] h Q := by
  refine eb_aload_n (pc := 0) (n := 0) (i := 0) rfl rfl rfl ?_
  refine eb_getI (pc := 1) rfl rfl (by decide) (by decide) rfl ?_
  refine eb_if_lt (pc := 4) (tgt := 35) rfl (by decide) (fun c1 => ?_) (fun c1 => ?_)
  · replace w := w.1 c1
    refine eb_iconst (pc := 35) (n := 0) (v := 0) rfl rfl ?_
    exact eb_ireturn (pc := 36) rfl rfl (by decide) w
  · replace w := w.2 c1
    refine eb_aload_n (pc := 7) (n := 0) (i := 0) rfl rfl rfl ?_
    refine eb_getI (pc := 8) rfl rfl (by decide) (by decide) rfl ?_
    refine eb_aload_n (pc := 11) (n := 0) (i := 0) rfl rfl rfl ?_
    refine eb_getR (pc := 12) rfl rfl (by decide) (by decide) rfl (ko_s_tape_0 ko) ?_
    refine eb_alen (pc := 15) (v := 900) rfl (by decide) (by decide) rfl ?_
    refine eb_icmp_gt (pc := 16) (tgt := 35) rfl (by decide) (fun c2 => ?_) (fun c2 => ?_)
    · replace w := w.1 c2
      refine eb_iconst (pc := 35) (n := 0) (v := 0) rfl rfl ?_
      exact eb_ireturn (pc := 36) rfl rfl (by decide) w
    · replace w := w.2 c2
      refine eb_aload_n (pc := 19) (n := 1) (i := 1) rfl rfl rfl ?_
      refine eb_ctT (pc := 20) (i := i1) (As := []) (rest := []) rfl (by decide) rfl hi_i1 rfl rfl (Nat.le_of_ble_eq_true rfl) ?_
      refine eb_Ct.mono w ?_
      rintro r h3 ⟨y4, rfl, ko5, w⟩
      change eb_Sn _ _ _ 23 _ [.int y4] _ _
      refine eb_aload_n (pc := 23) (n := 0) (i := 0) rfl rfl rfl ?_
      refine eb_getI (pc := 24) rfl rfl (by decide) (by decide) rfl ?_
      refine eb_aload_n (pc := 27) (n := 0) (i := 0) rfl rfl rfl ?_
      refine eb_getI (pc := 28) rfl rfl (by decide) (by decide) rfl ?_
      refine eb_isub (pc := 31) rfl ?_
      refine eb_icmp_eq (pc := 32) (tgt := 37) rfl (by decide) (fun c6 => ?_) (fun c6 => ?_)
      · replace w := w.1 c6
        refine eb_iconst (pc := 37) (n := 0) (v := 0) rfl rfl ?_
        refine eb_istore_n (pc := 38) (n := 2) (i := 2) (ls2 := [(2, .int 0), (0, .ref s_tape), (1, .ref (eb_mk i1 21 0))]) rfl (Nat.le_of_ble_eq_true rfl) rfl rfl ?_
        exact eb_pick [1, 2, 0] rfl w
      · replace w := w.2 c6
        refine eb_iconst (pc := 35) (n := 0) (v := 0) rfl rfl ?_
        exact eb_ireturn (pc := 36) rfl rfl (by decide) w
theorem b_X7_is_39 {d : Nat} {h0 h : eb_H} {Q : Option Value → eb_H → Prop} (i1 : Nat) (x2 : Int32) (hi_i1 : i1 < 21) (ko : eb_KO h) (w : eb_Ct d 289 [.ref (eb_mk i1 21 0)] h (fun r h1 => ∃ y2, r = some (.int y2) ∧ eb_KO h1 ∧ ((y2 ≤ x2 → Q (some (.int 1)) h1) ∧ (¬ (y2 ≤ x2) → (vp_in ((eb_I h1 s_tape 3) + x2) 900) ∧ eb_Ct d 290 [.ref (eb_mk i1 21 0), .int x2] h1 (fun r h6 => ∃ y7, r = some (.int y7) ∧ eb_KO h6 ∧ ((((eb_I h1 s_tape_text ((eb_I h1 s_tape 3) + x2).toNatClampNeg) &&& 255) = y7 → eb_Sn (d + 1) m_X7_is h0 39 [(0, .ref s_tape), (1, .ref (eb_mk i1 21 0)), (2, .int (x2 + 1))] [] h6 Q) ∧ (¬ (((eb_I h1 s_tape_text ((eb_I h1 s_tape 3) + x2).toNatClampNeg) &&& 255) = y7) → Q (some (.int 0)) h6))))))) : eb_Sn (d + 1) m_X7_is h0 39 [(0, .ref s_tape), (1, .ref (eb_mk i1 21 0)), (2, .int x2)] [] h Q := by
  refine eb_iload_n (pc := 39) (n := 2) (i := 2) rfl rfl rfl ?_
  refine eb_aload_n (pc := 40) (n := 1) (i := 1) rfl rfl rfl ?_
  refine eb_ctT (pc := 41) (i := i1) (As := []) (rest := [.int x2]) rfl (by decide) rfl hi_i1 rfl rfl (Nat.le_of_ble_eq_true rfl) ?_
  refine eb_Ct.mono w ?_
  rintro r h1 ⟨y2, rfl, ko3, w⟩
  change eb_Sn _ _ _ 44 _ [.int y2, .int x2] _ _
  refine eb_icmp_ge (pc := 44) (tgt := 78) rfl (by decide) (fun c4 => ?_) (fun c4 => ?_)
  · replace w := w.1 c4
    refine eb_iconst (pc := 78) (n := 1) (v := 1) rfl rfl ?_
    exact eb_ireturn (pc := 79) rfl rfl (by decide) w
  · replace w := w.2 c4
    refine eb_aload_n (pc := 47) (n := 0) (i := 0) rfl rfl rfl ?_
    refine eb_getR (pc := 48) rfl rfl (by decide) (by decide) rfl (ko_s_tape_0 ko3) ?_
    refine eb_aload_n (pc := 51) (n := 0) (i := 0) rfl rfl rfl ?_
    refine eb_getI (pc := 52) rfl rfl (by decide) (by decide) rfl ?_
    refine eb_iload_n (pc := 55) (n := 2) (i := 2) rfl rfl rfl ?_
    refine eb_iadd (pc := 56) rfl ?_
    obtain ⟨c5, w⟩ := w
    refine eb_baload (pc := 57) rfl rfl c5 ?_
    refine eb_sipush (pc := 58) (n := 255) (v := 255) rfl rfl ?_
    refine eb_iand (pc := 61) rfl ?_
    refine eb_aload_n (pc := 62) (n := 1) (i := 1) rfl rfl rfl ?_
    refine eb_iload_n (pc := 63) (n := 2) (i := 2) rfl rfl rfl ?_
    refine eb_ctT (pc := 64) (i := i1) (As := [.int x2]) (rest := [.int ((eb_I h1 s_tape_text ((eb_I h1 s_tape 3) + x2).toNatClampNeg) &&& 255)]) rfl (by decide) rfl hi_i1 rfl rfl (Nat.le_of_ble_eq_true rfl) ?_
    refine eb_Ct.mono w ?_
    rintro r h6 ⟨y7, rfl, ko8, w⟩
    change eb_Sn _ _ _ 67 _ [.int y7, .int ((eb_I h1 s_tape_text ((eb_I h1 s_tape 3) + x2).toNatClampNeg) &&& 255)] _ _
    refine eb_icmp_eq (pc := 67) (tgt := 72) rfl (by decide) (fun c9 => ?_) (fun c9 => ?_)
    · replace w := w.1 c9
      refine eb_iinc (pc := 72) (i := 2) (n := 1) (v := x2 + 1) (ls2 := [(2, .int (x2 + 1)), (0, .ref s_tape), (1, .ref (eb_mk i1 21 0))]) (Nat.le_of_ble_eq_true rfl) rfl rfl rfl rfl ?_
      refine eb_goto (pc := 75) (tgt := 39) rfl (by decide) ?_
      exact eb_pick [1, 2, 0] rfl w
    · replace w := w.2 c9
      refine eb_iconst (pc := 70) (n := 0) (v := 0) rfl rfl ?_
      exact eb_ireturn (pc := 71) rfl rfl (by decide) w
theorem T_X7_is {d : Nat} {h : eb_H} {Q : Option Value → eb_H → Prop} (i1 : Nat) (hi_i1 : i1 < 21) (ko : eb_KO h) (w : (((eb_I h s_tape 3) < 0 → Q (some (.int 0)) h) ∧ (¬ ((eb_I h s_tape 3) < 0) → (((900 : Int32) < (eb_I h s_tape 4) → Q (some (.int 0)) h) ∧ (¬ ((900 : Int32) < (eb_I h s_tape 4)) → eb_Ct d 289 [.ref (eb_mk i1 21 0)] h (fun r h3 => ∃ y4, r = some (.int y4) ∧ eb_KO h3 ∧ ((y4 = ((eb_I h3 s_tape 4) - (eb_I h3 s_tape 3)) → eb_Sn (d + 1) m_X7_is h 39 [(0, .ref s_tape), (1, .ref (eb_mk i1 21 0)), (2, .int 0)] [] h3 Q) ∧ (¬ (y4 = ((eb_I h3 s_tape 4) - (eb_I h3 s_tape 3))) → Q (some (.int 0)) h3)))))))) : eb_Ct (d + 1) 72 [.ref s_tape, .ref (eb_mk i1 21 0)] h Q :=
  eb_bodyQ (by decide) ok_X7_is (Nat.le_of_ble_eq_true rfl) (b_X7_is_0 (h0 := h) i1 hi_i1 ko w)
theorem b_X7_sign_0 {d : Nat} {h0 h : eb_H} {Q : Option Value → eb_H → Prop}   (ko : eb_KO h) (w : ((¬ (eb_I h s_tape 5) = (3 : Int32) → Q (some (.int 0)) h) ∧ ((eb_I h s_tape 5) = (3 : Int32) → (((eb_I h s_tape 3) < 0 → Q (some (.int 0)) h) ∧ (¬ ((eb_I h s_tape 3) < 0) → (((900 : Int32) ≤ (eb_I h s_tape 3) → Q (some (.int 0)) h) ∧ (¬ ((900 : Int32) ≤ (eb_I h s_tape 3)) → (vp_in (eb_I h s_tape 3) 900) ∧ (narrow .char (.int ((((eb_I h s_tape_text (eb_I h s_tape 3).toNatClampNeg) &&& 255).toUInt32 % 65536).toInt32)) = .int ((((eb_I h s_tape_text (eb_I h s_tape 3).toNatClampNeg) &&& 255).toUInt32 % 65536).toInt32)) ∧ Q (some (.int ((((eb_I h s_tape_text (eb_I h s_tape 3).toNatClampNeg) &&& 255).toUInt32 % 65536).toInt32))) h))))))) : eb_Sn d m_X7_sign h0 0 [(0, .ref s_tape)] [] h Q := by
  refine eb_aload_n (pc := 0) (n := 0) (i := 0) rfl rfl rfl ?_
  refine eb_getI (pc := 1) rfl rfl (by decide) (by decide) rfl ?_
  refine eb_iconst (pc := 4) (n := 3) (v := 3) rfl rfl ?_
  refine eb_icmp_ne (pc := 5) (tgt := 44) rfl (by decide) (fun c1 => ?_) (fun c1 => ?_)
  · replace w := w.1 c1
    refine eb_iconst (pc := 44) (n := 0) (v := 0) rfl rfl ?_
    exact eb_ireturn (pc := 45) rfl rfl (by decide) w
  · replace w := w.2 c1
    refine eb_aload_n (pc := 8) (n := 0) (i := 0) rfl rfl rfl ?_
    refine eb_getI (pc := 9) rfl rfl (by decide) (by decide) rfl ?_
    refine eb_if_lt (pc := 12) (tgt := 44) rfl (by decide) (fun c2 => ?_) (fun c2 => ?_)
    · replace w := w.1 c2
      refine eb_iconst (pc := 44) (n := 0) (v := 0) rfl rfl ?_
      exact eb_ireturn (pc := 45) rfl rfl (by decide) w
    · replace w := w.2 c2
      refine eb_aload_n (pc := 15) (n := 0) (i := 0) rfl rfl rfl ?_
      refine eb_getI (pc := 16) rfl rfl (by decide) (by decide) rfl ?_
      refine eb_aload_n (pc := 19) (n := 0) (i := 0) rfl rfl rfl ?_
      refine eb_getR (pc := 20) rfl rfl (by decide) (by decide) rfl (ko_s_tape_0 ko) ?_
      refine eb_alen (pc := 23) (v := 900) rfl (by decide) (by decide) rfl ?_
      refine eb_icmp_ge (pc := 24) (tgt := 44) rfl (by decide) (fun c3 => ?_) (fun c3 => ?_)
      · replace w := w.1 c3
        refine eb_iconst (pc := 44) (n := 0) (v := 0) rfl rfl ?_
        exact eb_ireturn (pc := 45) rfl rfl (by decide) w
      · replace w := w.2 c3
        refine eb_aload_n (pc := 27) (n := 0) (i := 0) rfl rfl rfl ?_
        refine eb_getR (pc := 28) rfl rfl (by decide) (by decide) rfl (ko_s_tape_0 ko) ?_
        refine eb_aload_n (pc := 31) (n := 0) (i := 0) rfl rfl rfl ?_
        refine eb_getI (pc := 32) rfl rfl (by decide) (by decide) rfl ?_
        obtain ⟨c4, w⟩ := w
        refine eb_baload (pc := 35) rfl rfl c4 ?_
        refine eb_sipush (pc := 36) (n := 255) (v := 255) rfl rfl ?_
        refine eb_iand (pc := 39) rfl ?_
        refine eb_i2c (pc := 40) rfl ?_
        refine eb_goto (pc := 41) (tgt := 45) rfl (by decide) ?_
        obtain ⟨c5, w⟩ := w
        exact eb_ireturn (pc := 45) rfl rfl c5 w
theorem T_X7_sign {d : Nat} {h : eb_H} {Q : Option Value → eb_H → Prop}   (ko : eb_KO h) (w : ((¬ (eb_I h s_tape 5) = (3 : Int32) → Q (some (.int 0)) h) ∧ ((eb_I h s_tape 5) = (3 : Int32) → (((eb_I h s_tape 3) < 0 → Q (some (.int 0)) h) ∧ (¬ ((eb_I h s_tape 3) < 0) → (((900 : Int32) ≤ (eb_I h s_tape 3) → Q (some (.int 0)) h) ∧ (¬ ((900 : Int32) ≤ (eb_I h s_tape 3)) → (vp_in (eb_I h s_tape 3) 900) ∧ (narrow .char (.int ((((eb_I h s_tape_text (eb_I h s_tape 3).toNatClampNeg) &&& 255).toUInt32 % 65536).toInt32)) = .int ((((eb_I h s_tape_text (eb_I h s_tape 3).toNatClampNeg) &&& 255).toUInt32 % 65536).toInt32)) ∧ Q (some (.int ((((eb_I h s_tape_text (eb_I h s_tape 3).toNatClampNeg) &&& 255).toUInt32 % 65536).toInt32))) h))))))) : eb_Ct d 73 [.ref s_tape] h Q :=
  eb_bodyQ (by decide) ok_X7_sign (Nat.le_of_ble_eq_true rfl) (b_X7_sign_0 (h0 := h)   ko w)
theorem b_X8_init_0 {d : Nat} {h0 h : eb_H} {Q : Option Value → eb_H → Prop} (a0 : Nat) (ka0 : eb_kd a0 = 8) (w : ∀ r3, r3 = eb_nx h 14 40 → ∀ h1, h1 = eb_nw h 14 40 40 → ∀ h5, h5 = eb_sR h1 a0 0 (some r3) → ∀ h7, h7 = eb_sI h5 a0 1 0 → ∀ h9, h9 = eb_sI h7 a0 2 1 → ∀ h11, h11 = eb_sI h9 a0 3 0 → Q none h11) : eb_Sn (d + 1) m_X8_init h0 0 [(0, .ref a0)] [] h Q := by
  refine eb_aload_n (pc := 0) (n := 0) (i := 0) rfl rfl rfl ?_
  refine eb_objInit (pc := 1) rfl (by decide +kernel) (by omega) (Nat.le_of_ble_eq_true rfl) ?_
  refine eb_aload_n (pc := 4) (n := 0) (i := 0) rfl rfl rfl ?_
  refine eb_bipush (pc := 5) (n := 40) (v := 40) rfl rfl ?_
  refine eb_newL (pc := 7) (len := 40) rfl (by decide) rfl (by decide) ?_
  obtain ⟨r3, e4⟩ : ∃ z, z = eb_nx h 14 40 := ⟨_, rfl⟩
  rw [← e4]
  replace w := w r3 e4
  obtain ⟨h1, e2⟩ : ∃ z, z = eb_nw h 14 40 40 := ⟨_, rfl⟩
  rw [← e2]
  replace w := w h1 e2
  refine eb_putR (pc := 9) rfl ka0 (by decide) (by decide) rfl (Or.inr ⟨rfl, rfl, rfl⟩) (eb_k20 (c := 14) (by rw [e4]; exact eb_mk_kd (by decide)) (by decide)) ?_
  obtain ⟨h5, e6⟩ : ∃ z, z = eb_sR h1 a0 0 (some r3) := ⟨_, rfl⟩
  rw [← e6]
  replace w := w h5 e6
  refine eb_aload_n (pc := 12) (n := 0) (i := 0) rfl rfl rfl ?_
  refine eb_iconst (pc := 13) (n := 0) (v := 0) rfl rfl ?_
  refine eb_putI (pc := 14) rfl ka0 (by decide) (by decide) rfl rfl ⟨rfl, rfl⟩ ?_
  obtain ⟨h7, e8⟩ : ∃ z, z = eb_sI h5 a0 1 0 := ⟨_, rfl⟩
  rw [← e8]
  replace w := w h7 e8
  refine eb_aload_n (pc := 17) (n := 0) (i := 0) rfl rfl rfl ?_
  refine eb_iconst (pc := 18) (n := 1) (v := 1) rfl rfl ?_
  refine eb_putI (pc := 19) rfl ka0 (by decide) (by decide) rfl rfl ⟨rfl, rfl⟩ ?_
  obtain ⟨h9, e10⟩ : ∃ z, z = eb_sI h7 a0 2 1 := ⟨_, rfl⟩
  rw [← e10]
  replace w := w h9 e10
  refine eb_aload_n (pc := 22) (n := 0) (i := 0) rfl rfl rfl ?_
  refine eb_iconst (pc := 23) (n := 0) (v := 0) rfl rfl ?_
  refine eb_putI (pc := 24) rfl ka0 (by decide) (by decide) rfl rfl ⟨rfl, rfl⟩ ?_
  obtain ⟨h11, e12⟩ : ∃ z, z = eb_sI h9 a0 3 0 := ⟨_, rfl⟩
  rw [← e12]
  replace w := w h11 e12
  exact eb_return (pc := 27) rfl rfl w
theorem T_X8_init {d : Nat} {h : eb_H} {Q : Option Value → eb_H → Prop} (a0 : Nat) (ka0 : eb_kd a0 = 8) (w : ∀ r3, r3 = eb_nx h 14 40 → ∀ h1, h1 = eb_nw h 14 40 40 → ∀ h5, h5 = eb_sR h1 a0 0 (some r3) → ∀ h7, h7 = eb_sI h5 a0 1 0 → ∀ h9, h9 = eb_sI h7 a0 2 1 → ∀ h11, h11 = eb_sI h9 a0 3 0 → Q none h11) : eb_Ct (d + 1) 74 [.ref a0] h Q :=
  eb_bodyQ (by decide) ok_X8_init (Nat.le_of_ble_eq_true rfl) (b_X8_init_0 (h0 := h) a0 ka0 w)
theorem b_X8_makeAnew_0 {d : Nat} {h0 h : eb_H} {Q : Option Value → eb_H → Prop} (a0 : Nat) (x1 : Int32) (x2 : Int32) (ka0 : eb_kd a0 = 8) (ko : eb_KO h) (w : ∃ r1, eb_R h a0 0 = some r1 ∧ eb_kd r1 = 14 ∧ eb_Ct d 300 [.ref r1, .long 0] h (fun r h4 => r = none ∧ eb_KO h4 ∧ Q none (eb_sI (eb_sI (eb_sI h4 a0 1 x1) a0 3 x2) a0 2 0))) : eb_Sn (d + 1) m_X8_makeAnew h0 0 [(0, .ref a0), (1, .int x1), (2, .int x2)] [] h Q := by
  refine eb_aload_n (pc := 0) (n := 0) (i := 0) rfl rfl rfl ?_
  obtain ⟨r1, q2, k3, w⟩ := w
  refine eb_getR (pc := 1) rfl ka0 (by decide) (by decide) rfl q2 ?_
  refine eb_lconst (pc := 4) (n := 0) (v := 0) rfl rfl ?_
  refine eb_ctS (pc := 5) (As := [.ref r1, .long 0]) (rest := []) rfl (by decide) (by decide) rfl rfl (Nat.le_of_ble_eq_true rfl) ?_
  refine eb_Ct.mono w ?_
  rintro r h4 ⟨rfl, ko6, w⟩
  change eb_Sn _ _ _ 8 _ [] _ _
  refine eb_aload_n (pc := 8) (n := 0) (i := 0) rfl rfl rfl ?_
  refine eb_iload_n (pc := 9) (n := 1) (i := 1) rfl rfl rfl ?_
  refine eb_putI (pc := 10) rfl ka0 (by decide) (by decide) rfl rfl ⟨rfl, rfl⟩ ?_
  refine eb_aload_n (pc := 13) (n := 0) (i := 0) rfl rfl rfl ?_
  refine eb_iload_n (pc := 14) (n := 2) (i := 2) rfl rfl rfl ?_
  refine eb_putI (pc := 15) rfl ka0 (by decide) (by decide) rfl rfl ⟨rfl, rfl⟩ ?_
  refine eb_aload_n (pc := 18) (n := 0) (i := 0) rfl rfl rfl ?_
  refine eb_iconst (pc := 19) (n := 0) (v := 0) rfl rfl ?_
  refine eb_putI (pc := 20) rfl ka0 (by decide) (by decide) rfl rfl ⟨rfl, rfl⟩ ?_
  exact eb_return (pc := 23) rfl rfl w
theorem T_X8_makeAnew {d : Nat} {h : eb_H} {Q : Option Value → eb_H → Prop} (a0 : Nat) (x1 : Int32) (x2 : Int32) (ka0 : eb_kd a0 = 8) (ko : eb_KO h) (w : ∃ r1, eb_R h a0 0 = some r1 ∧ eb_kd r1 = 14 ∧ eb_Ct d 300 [.ref r1, .long 0] h (fun r h4 => r = none ∧ eb_KO h4 ∧ Q none (eb_sI (eb_sI (eb_sI h4 a0 1 x1) a0 3 x2) a0 2 0))) : eb_Ct (d + 1) 75 [.ref a0, .int x1, .int x2] h Q :=
  eb_bodyQ (by decide) ok_X8_makeAnew (Nat.le_of_ble_eq_true rfl) (b_X8_makeAnew_0 (h0 := h) a0 x1 x2 ka0 ko w)
theorem b_X8_numberAt_0 {d : Nat} {h0 h : eb_H} {Q : Option Value → eb_H → Prop} (a0 : Nat) (x1 : Int32) (ka0 : eb_kd a0 = 8) (ko : eb_KO h) (w : ((x1 < 0 → Q (some (.long 0)) h) ∧ (¬ (x1 < 0) → ∃ r2, eb_R h a0 0 = some r2 ∧ eb_kd r2 = 14 ∧ (((Int32.ofNat (eb_ln r2)) ≤ x1 → Q (some (.long 0)) h) ∧ (¬ ((Int32.ofNat (eb_ln r2)) ≤ x1) → (vp_in x1 (eb_ln r2)) ∧ Q (some (.long (eb_J h r2 x1.toNatClampNeg))) h))))) : eb_Sn d m_X8_numberAt h0 0 [(0, .ref a0), (1, .int x1)] [] h Q := by
  refine eb_iload_n (pc := 0) (n := 1) (i := 1) rfl rfl rfl ?_
  refine eb_if_lt (pc := 1) (tgt := 22) rfl (by decide) (fun c1 => ?_) (fun c1 => ?_)
  · replace w := w.1 c1
    refine eb_lconst (pc := 22) (n := 0) (v := 0) rfl rfl ?_
    exact eb_lreturn (pc := 23) rfl rfl w
  · replace w := w.2 c1
    refine eb_iload_n (pc := 4) (n := 1) (i := 1) rfl rfl rfl ?_
    refine eb_aload_n (pc := 5) (n := 0) (i := 0) rfl rfl rfl ?_
    obtain ⟨r2, q3, k4, w⟩ := w
    refine eb_getR (pc := 6) rfl ka0 (by decide) (by decide) rfl q3 ?_
    refine eb_alen (pc := 9) rfl (by rw [k4]; decide) (by rw [k4]; decide) rfl ?_
    refine eb_icmp_ge (pc := 10) (tgt := 22) rfl (by decide) (fun c5 => ?_) (fun c5 => ?_)
    · replace w := w.1 c5
      refine eb_lconst (pc := 22) (n := 0) (v := 0) rfl rfl ?_
      exact eb_lreturn (pc := 23) rfl rfl w
    · replace w := w.2 c5
      refine eb_aload_n (pc := 13) (n := 0) (i := 0) rfl rfl rfl ?_
      refine eb_getR (pc := 14) rfl ka0 (by decide) (by decide) rfl q3 ?_
      refine eb_iload_n (pc := 17) (n := 1) (i := 1) rfl rfl rfl ?_
      obtain ⟨c6, w⟩ := w
      refine eb_laload (pc := 18) rfl k4 c6 ?_
      refine eb_goto (pc := 19) (tgt := 23) rfl (by decide) ?_
      exact eb_lreturn (pc := 23) rfl rfl w
theorem T_X8_numberAt {d : Nat} {h : eb_H} {Q : Option Value → eb_H → Prop} (a0 : Nat) (x1 : Int32) (ka0 : eb_kd a0 = 8) (ko : eb_KO h) (w : ((x1 < 0 → Q (some (.long 0)) h) ∧ (¬ (x1 < 0) → ∃ r2, eb_R h a0 0 = some r2 ∧ eb_kd r2 = 14 ∧ (((Int32.ofNat (eb_ln r2)) ≤ x1 → Q (some (.long 0)) h) ∧ (¬ ((Int32.ofNat (eb_ln r2)) ≤ x1) → (vp_in x1 (eb_ln r2)) ∧ Q (some (.long (eb_J h r2 x1.toNatClampNeg))) h))))) : eb_Ct d 76 [.ref a0, .int x1] h Q :=
  eb_bodyQ (by decide) ok_X8_numberAt (Nat.le_of_ble_eq_true rfl) (b_X8_numberAt_0 (h0 := h) a0 x1 ka0 ko w)
theorem b_X8_setNumber_0 {d : Nat} {h0 h : eb_H} {Q : Option Value → eb_H → Prop} (a0 : Nat) (x1 : Int32) (x2 : Int64) (ka0 : eb_kd a0 = 8) (ko : eb_KO h) (w : ((x1 < 0 → Q none h) ∧ (¬ (x1 < 0) → ∃ r2, eb_R h a0 0 = some r2 ∧ eb_kd r2 = 14 ∧ (((Int32.ofNat (eb_ln r2)) ≤ x1 → Q none h) ∧ (¬ ((Int32.ofNat (eb_ln r2)) ≤ x1) → eb_Ct d 78 [.ref a0, .long x2] h (fun r h6 => ∃ y7, r = some (.long y7) ∧ eb_KO h6 ∧ (vp_in x1 (eb_ln r2)) ∧ Q none (eb_sJ h6 r2 x1.toNatClampNeg y7))))))) : eb_Sn (d + 1) m_X8_setNumber h0 0 [(0, .ref a0), (1, .int x1), (2, .long x2)] [] h Q := by
  refine eb_iload_n (pc := 0) (n := 1) (i := 1) rfl rfl rfl ?_
  refine eb_if_lt (pc := 1) (tgt := 24) rfl (by decide) (fun c1 => ?_) (fun c1 => ?_)
  · replace w := w.1 c1
    exact eb_return (pc := 24) rfl rfl w
  · replace w := w.2 c1
    refine eb_iload_n (pc := 4) (n := 1) (i := 1) rfl rfl rfl ?_
    refine eb_aload_n (pc := 5) (n := 0) (i := 0) rfl rfl rfl ?_
    obtain ⟨r2, q3, k4, w⟩ := w
    refine eb_getR (pc := 6) rfl ka0 (by decide) (by decide) rfl q3 ?_
    refine eb_alen (pc := 9) rfl (by rw [k4]; decide) (by rw [k4]; decide) rfl ?_
    refine eb_icmp_ge (pc := 10) (tgt := 24) rfl (by decide) (fun c5 => ?_) (fun c5 => ?_)
    · replace w := w.1 c5
      exact eb_return (pc := 24) rfl rfl w
    · replace w := w.2 c5
      refine eb_aload_n (pc := 13) (n := 0) (i := 0) rfl rfl rfl ?_
      refine eb_getR (pc := 14) rfl ka0 (by decide) (by decide) rfl q3 ?_
      refine eb_iload_n (pc := 17) (n := 1) (i := 1) rfl rfl rfl ?_
      refine eb_aload_n (pc := 18) (n := 0) (i := 0) rfl rfl rfl ?_
      refine eb_lload_n (pc := 19) (n := 2) (i := 2) rfl rfl rfl ?_
      refine eb_ctV (pc := 20) (As := [.long x2]) (rest := [.int x1, .ref r2]) rfl (by decide) rfl ka0 (by decide) rfl (Nat.le_of_ble_eq_true rfl) ?_
      refine eb_Ct.mono w ?_
      rintro r h6 ⟨y7, rfl, ko8, w⟩
      change eb_Sn _ _ _ 23 _ [.long y7, .int x1, .ref r2] _ _
      obtain ⟨c9, w⟩ := w
      refine eb_lastore (pc := 23) rfl k4 c9 ?_
      exact eb_return (pc := 24) rfl rfl w
theorem T_X8_setNumber {d : Nat} {h : eb_H} {Q : Option Value → eb_H → Prop} (a0 : Nat) (x1 : Int32) (x2 : Int64) (ka0 : eb_kd a0 = 8) (ko : eb_KO h) (w : ((x1 < 0 → Q none h) ∧ (¬ (x1 < 0) → ∃ r2, eb_R h a0 0 = some r2 ∧ eb_kd r2 = 14 ∧ (((Int32.ofNat (eb_ln r2)) ≤ x1 → Q none h) ∧ (¬ ((Int32.ofNat (eb_ln r2)) ≤ x1) → eb_Ct d 78 [.ref a0, .long x2] h (fun r h6 => ∃ y7, r = some (.long y7) ∧ eb_KO h6 ∧ (vp_in x1 (eb_ln r2)) ∧ Q none (eb_sJ h6 r2 x1.toNatClampNeg y7))))))) : eb_Ct (d + 1) 77 [.ref a0, .int x1, .long x2] h Q :=
  eb_bodyQ (by decide) ok_X8_setNumber (Nat.le_of_ble_eq_true rfl) (b_X8_setNumber_0 (h0 := h) a0 x1 x2 ka0 ko w)
theorem b_X8_cut_0 {d : Nat} {h0 h : eb_H} {Q : Option Value → eb_H → Prop} (a0 : Nat) (x1 : Int64) (ka0 : eb_kd a0 = 8) (ko : eb_KO h) (w : (((eb_I h a0 1) = 0 → Q (some (.long x1.toInt32.toInt8.toInt32.toInt64)) h) ∧ ((eb_I h a0 1) = 1 → Q (some (.long x1.toInt32.toInt16.toInt32.toInt64)) h) ∧ ((eb_I h a0 1) = 2 → Q (some (.long x1.toInt32.toInt64)) h) ∧ (¬ (eb_I h a0 1) = 0 → ¬ (eb_I h a0 1) = 1 → ¬ (eb_I h a0 1) = 2 → Q (some (.long x1)) h))) : eb_Sn d m_X8_cut h0 0 [(0, .ref a0), (1, .long x1)] [] h Q := by
  refine eb_aload_n (pc := 0) (n := 0) (i := 0) rfl rfl rfl ?_
  refine eb_getI (pc := 1) rfl ka0 (by decide) (by decide) rfl ?_
  by_cases s0 : (eb_I h a0 1) = 0
  · refine eb_tableIn (pc := 4) (j := 0) (tgt := 32) (by rw [s0]; decide) (by decide) (by rfl) (by decide) rfl ?_
    replace w := w.1 s0
    refine eb_lload_n (pc := 32) (n := 1) (i := 1) rfl rfl rfl ?_
    refine eb_l2i (pc := 33) rfl ?_
    refine eb_i2b (pc := 34) rfl ?_
    refine eb_i2l (pc := 35) rfl ?_
    exact eb_lreturn (pc := 36) rfl rfl w
  by_cases s1 : (eb_I h a0 1) = 1
  · refine eb_tableIn (pc := 4) (j := 1) (tgt := 37) (by rw [s1]; decide) (by decide) (by rfl) (by decide) rfl ?_
    replace w := w.2.1 s1
    refine eb_lload_n (pc := 37) (n := 1) (i := 1) rfl rfl rfl ?_
    refine eb_l2i (pc := 38) rfl ?_
    refine eb_i2s (pc := 39) rfl ?_
    refine eb_i2l (pc := 40) rfl ?_
    exact eb_lreturn (pc := 41) rfl rfl w
  by_cases s2 : (eb_I h a0 1) = 2
  · refine eb_tableIn (pc := 4) (j := 2) (tgt := 42) (by rw [s2]; decide) (by decide) (by rfl) (by decide) rfl ?_
    replace w := w.2.2.1 s2
    refine eb_lload_n (pc := 42) (n := 1) (i := 1) rfl rfl rfl ?_
    refine eb_l2i (pc := 43) rfl ?_
    refine eb_i2l (pc := 44) rfl ?_
    exact eb_lreturn (pc := 45) rfl rfl w
  refine eb_tableOut (pc := 4) (tgt := 46) (by have z0 := lv_neT (a := 0) s0 (by decide); have z1 := lv_neT (a := 1) s1 (by decide); have z2 := lv_neT (a := 2) s2 (by decide); omega) (by decide) rfl ?_
  replace w := w.2.2.2 s0 s1 s2
  refine eb_lload_n (pc := 46) (n := 1) (i := 1) rfl rfl rfl ?_
  exact eb_lreturn (pc := 47) rfl rfl w
theorem T_X8_cut {d : Nat} {h : eb_H} {Q : Option Value → eb_H → Prop} (a0 : Nat) (x1 : Int64) (ka0 : eb_kd a0 = 8) (ko : eb_KO h) (w : (((eb_I h a0 1) = 0 → Q (some (.long x1.toInt32.toInt8.toInt32.toInt64)) h) ∧ ((eb_I h a0 1) = 1 → Q (some (.long x1.toInt32.toInt16.toInt32.toInt64)) h) ∧ ((eb_I h a0 1) = 2 → Q (some (.long x1.toInt32.toInt64)) h) ∧ (¬ (eb_I h a0 1) = 0 → ¬ (eb_I h a0 1) = 1 → ¬ (eb_I h a0 1) = 2 → Q (some (.long x1)) h))) : eb_Ct d 78 [.ref a0, .long x1] h Q :=
  eb_bodyQ (by decide) ok_X8_cut (Nat.le_of_ble_eq_true rfl) (b_X8_cut_0 (h0 := h) a0 x1 ka0 ko w)
theorem b_X9_init_0 {d : Nat} {h0 h : eb_H} {Q : Option Value → eb_H → Prop} (a0 : Nat) (ka0 : eb_kd a0 = 9) (w : ∀ h1, h1 = eb_sI h a0 0 1 → ∀ h3, h3 = eb_sI h1 a0 1 1 → ∀ h5, h5 = eb_sI h3 a0 2 3 → ∀ h7, h7 = eb_sI h5 a0 3 0 → ∀ h9, h9 = eb_sI h7 a0 4 0 → ∀ r13, r13 = eb_nx h9 13 4 → ∀ h11, h11 = eb_nw h9 13 4 4 → ∀ h15, h15 = eb_sR h11 a0 5 (some r13) → ∀ r19, r19 = eb_nx h15 13 16 → ∀ h17, h17 = eb_nw h15 13 16 16 → ∀ h21, h21 = eb_sR h17 a0 6 (some r19) → ∀ h23, h23 = eb_sR h21 a0 7 none → ∀ h25, h25 = eb_sR h23 a0 8 none → Q none h25) : eb_Sn (d + 1) m_X9_init h0 0 [(0, .ref a0)] [] h Q := by
  refine eb_aload_n (pc := 0) (n := 0) (i := 0) rfl rfl rfl ?_
  refine eb_objInit (pc := 1) rfl (by decide +kernel) (by omega) (Nat.le_of_ble_eq_true rfl) ?_
  refine eb_aload_n (pc := 4) (n := 0) (i := 0) rfl rfl rfl ?_
  refine eb_iconst (pc := 5) (n := 1) (v := 1) rfl rfl ?_
  refine eb_putI (pc := 6) rfl ka0 (by decide) (by decide) rfl rfl ⟨rfl, rfl⟩ ?_
  obtain ⟨h1, e2⟩ : ∃ z, z = eb_sI h a0 0 1 := ⟨_, rfl⟩
  rw [← e2]
  replace w := w h1 e2
  refine eb_aload_n (pc := 9) (n := 0) (i := 0) rfl rfl rfl ?_
  refine eb_iconst (pc := 10) (n := 1) (v := 1) rfl rfl ?_
  refine eb_putI (pc := 11) rfl ka0 (by decide) (by decide) rfl rfl ⟨rfl, rfl⟩ ?_
  obtain ⟨h3, e4⟩ : ∃ z, z = eb_sI h1 a0 1 1 := ⟨_, rfl⟩
  rw [← e4]
  replace w := w h3 e4
  refine eb_aload_n (pc := 14) (n := 0) (i := 0) rfl rfl rfl ?_
  refine eb_iconst (pc := 15) (n := 3) (v := 3) rfl rfl ?_
  refine eb_putI (pc := 16) rfl ka0 (by decide) (by decide) rfl rfl ⟨rfl, rfl⟩ ?_
  obtain ⟨h5, e6⟩ : ∃ z, z = eb_sI h3 a0 2 3 := ⟨_, rfl⟩
  rw [← e6]
  replace w := w h5 e6
  refine eb_aload_n (pc := 19) (n := 0) (i := 0) rfl rfl rfl ?_
  refine eb_iconst (pc := 20) (n := 0) (v := 0) rfl rfl ?_
  refine eb_putI (pc := 21) rfl ka0 (by decide) (by decide) rfl rfl ⟨rfl, rfl⟩ ?_
  obtain ⟨h7, e8⟩ : ∃ z, z = eb_sI h5 a0 3 0 := ⟨_, rfl⟩
  rw [← e8]
  replace w := w h7 e8
  refine eb_aload_n (pc := 24) (n := 0) (i := 0) rfl rfl rfl ?_
  refine eb_iconst (pc := 25) (n := 0) (v := 0) rfl rfl ?_
  refine eb_putI (pc := 26) rfl ka0 (by decide) (by decide) rfl rfl ⟨rfl, rfl⟩ ?_
  obtain ⟨h9, e10⟩ : ∃ z, z = eb_sI h7 a0 4 0 := ⟨_, rfl⟩
  rw [← e10]
  replace w := w h9 e10
  refine eb_aload_n (pc := 29) (n := 0) (i := 0) rfl rfl rfl ?_
  refine eb_iconst (pc := 30) (n := 4) (v := 4) rfl rfl ?_
  refine eb_newI (pc := 31) (kd := 13) (len := 4) rfl rfl (by decide) (by decide) rfl (by decide) ?_
  obtain ⟨r13, e14⟩ : ∃ z, z = eb_nx h9 13 4 := ⟨_, rfl⟩
  rw [← e14]
  replace w := w r13 e14
  obtain ⟨h11, e12⟩ : ∃ z, z = eb_nw h9 13 4 4 := ⟨_, rfl⟩
  rw [← e12]
  replace w := w h11 e12
  refine eb_putR (pc := 33) rfl ka0 (by decide) (by decide) rfl (Or.inr ⟨rfl, rfl, rfl⟩) (eb_k20 (c := 13) (by rw [e14]; exact eb_mk_kd (by decide)) (by decide)) ?_
  obtain ⟨h15, e16⟩ : ∃ z, z = eb_sR h11 a0 5 (some r13) := ⟨_, rfl⟩
  rw [← e16]
  replace w := w h15 e16
  refine eb_aload_n (pc := 36) (n := 0) (i := 0) rfl rfl rfl ?_
  refine eb_bipush (pc := 37) (n := 16) (v := 16) rfl rfl ?_
  refine eb_newI (pc := 39) (kd := 13) (len := 16) rfl rfl (by decide) (by decide) rfl (by decide) ?_
  obtain ⟨r19, e20⟩ : ∃ z, z = eb_nx h15 13 16 := ⟨_, rfl⟩
  rw [← e20]
  replace w := w r19 e20
  obtain ⟨h17, e18⟩ : ∃ z, z = eb_nw h15 13 16 16 := ⟨_, rfl⟩
  rw [← e18]
  replace w := w h17 e18
  refine eb_putR (pc := 41) rfl ka0 (by decide) (by decide) rfl (Or.inr ⟨rfl, rfl, rfl⟩) (eb_k20 (c := 13) (by rw [e20]; exact eb_mk_kd (by decide)) (by decide)) ?_
  obtain ⟨h21, e22⟩ : ∃ z, z = eb_sR h17 a0 6 (some r19) := ⟨_, rfl⟩
  rw [← e22]
  replace w := w h21 e22
  refine eb_aload_n (pc := 44) (n := 0) (i := 0) rfl rfl rfl ?_
  refine eb_null (pc := 45) rfl ?_
  refine eb_putN (pc := 46) rfl ka0 (by decide) (by decide) rfl (Or.inl rfl) ?_
  obtain ⟨h23, e24⟩ : ∃ z, z = eb_sR h21 a0 7 none := ⟨_, rfl⟩
  rw [← e24]
  replace w := w h23 e24
  refine eb_aload_n (pc := 49) (n := 0) (i := 0) rfl rfl rfl ?_
  refine eb_null (pc := 50) rfl ?_
  refine eb_putN (pc := 51) rfl ka0 (by decide) (by decide) rfl (Or.inl rfl) ?_
  obtain ⟨h25, e26⟩ : ∃ z, z = eb_sR h23 a0 8 none := ⟨_, rfl⟩
  rw [← e26]
  replace w := w h25 e26
  exact eb_return (pc := 54) rfl rfl w
theorem T_X9_init {d : Nat} {h : eb_H} {Q : Option Value → eb_H → Prop} (a0 : Nat) (ka0 : eb_kd a0 = 9) (w : ∀ h1, h1 = eb_sI h a0 0 1 → ∀ h3, h3 = eb_sI h1 a0 1 1 → ∀ h5, h5 = eb_sI h3 a0 2 3 → ∀ h7, h7 = eb_sI h5 a0 3 0 → ∀ h9, h9 = eb_sI h7 a0 4 0 → ∀ r13, r13 = eb_nx h9 13 4 → ∀ h11, h11 = eb_nw h9 13 4 4 → ∀ h15, h15 = eb_sR h11 a0 5 (some r13) → ∀ r19, r19 = eb_nx h15 13 16 → ∀ h17, h17 = eb_nw h15 13 16 16 → ∀ h21, h21 = eb_sR h17 a0 6 (some r19) → ∀ h23, h23 = eb_sR h21 a0 7 none → ∀ h25, h25 = eb_sR h23 a0 8 none → Q none h25) : eb_Ct (d + 1) 79 [.ref a0] h Q :=
  eb_bodyQ (by decide) ok_X9_init (Nat.le_of_ble_eq_true rfl) (b_X9_init_0 (h0 := h) a0 ka0 w)
theorem b_X9_has_0 {d : Nat} {h0 h : eb_H} {Q : Option Value → eb_H → Prop} (a0 : Nat) (x1 : Int32) (ka0 : eb_kd a0 = 9) (ko : eb_KO h) (w : Q (some (.int (eb_q ((¬ (x1 < 0)) ∧ (¬ (((eb_I h a0 0) * (eb_I h a0 1)) ≤ x1)))))) h) : eb_Sn d m_X9_has h0 0 [(0, .ref a0), (1, .int x1)] [] h Q := by
  refine eb_iload_n (pc := 0) (n := 1) (i := 1) rfl rfl rfl ?_
  refine eb_joinI (pc2 := 22) (ls2 := [(0, .ref a0), (1, .int x1)]) (st2 := []) (v := eb_q ((¬ (x1 < 0)) ∧ (¬ (((eb_I h a0 0) * (eb_I h a0 1)) ≤ x1)))) ?_ (fun jj3 => ?_)
  · exact eb_ireturn (pc := 22) rfl rfl eb_qn w
  refine eb_if_lt (pc := 1) (tgt := 21) rfl (by decide) (fun c1 => ?_) (fun c1 => ?_)
  · refine eb_iconst (pc := 21) (n := 0) (v := 0) rfl rfl ?_
    exact jj3 0 (eb_qf (fun z => z.1 c1)).symm
  · refine eb_iload_n (pc := 4) (n := 1) (i := 1) rfl rfl rfl ?_
    refine eb_aload_n (pc := 5) (n := 0) (i := 0) rfl rfl rfl ?_
    refine eb_getI (pc := 6) rfl ka0 (by decide) (by decide) rfl ?_
    refine eb_aload_n (pc := 9) (n := 0) (i := 0) rfl rfl rfl ?_
    refine eb_getI (pc := 10) rfl ka0 (by decide) (by decide) rfl ?_
    refine eb_imul (pc := 13) rfl ?_
    refine eb_icmp_ge (pc := 14) (tgt := 21) rfl (by decide) (fun c2 => ?_) (fun c2 => ?_)
    · refine eb_iconst (pc := 21) (n := 0) (v := 0) rfl rfl ?_
      exact jj3 0 (eb_qf (fun z => (fun z => z c2) z.2)).symm
    · refine eb_iconst (pc := 17) (n := 1) (v := 1) rfl rfl ?_
      refine eb_goto (pc := 18) (tgt := 22) rfl (by decide) ?_
      exact jj3 1 (eb_qt (⟨c1, c2⟩)).symm
theorem T_X9_has {d : Nat} {h : eb_H} {Q : Option Value → eb_H → Prop} (a0 : Nat) (x1 : Int32) (ka0 : eb_kd a0 = 9) (ko : eb_KO h) (w : Q (some (.int (eb_q ((¬ (x1 < 0)) ∧ (¬ (((eb_I h a0 0) * (eb_I h a0 1)) ≤ x1)))))) h) : eb_Ct d 80 [.ref a0, .int x1] h Q :=
  eb_bodyQ (by decide) ok_X9_has (Nat.le_of_ble_eq_true rfl) (b_X9_has_0 (h0 := h) a0 x1 ka0 ko w)
theorem b_X9_heightOf_0 {d : Nat} {h0 h : eb_H} {Q : Option Value → eb_H → Prop} (a0 : Nat) (x1 : Int32) (ka0 : eb_kd a0 = 9) (ko : eb_KO h) (w : ((x1 < 0 → Q (some (.int 0)) h) ∧ (¬ (x1 < 0) → ∃ r2, eb_R h a0 6 = some r2 ∧ eb_kd r2 = 13 ∧ (((Int32.ofNat (eb_ln r2)) ≤ x1 → Q (some (.int 0)) h) ∧ (¬ ((Int32.ofNat (eb_ln r2)) ≤ x1) → (vp_in x1 (eb_ln r2)) ∧ Q (some (.int (eb_I h r2 x1.toNatClampNeg))) h))))) : eb_Sn d m_X9_heightOf h0 0 [(0, .ref a0), (1, .int x1)] [] h Q := by
  refine eb_iload_n (pc := 0) (n := 1) (i := 1) rfl rfl rfl ?_
  refine eb_if_lt (pc := 1) (tgt := 22) rfl (by decide) (fun c1 => ?_) (fun c1 => ?_)
  · replace w := w.1 c1
    refine eb_iconst (pc := 22) (n := 0) (v := 0) rfl rfl ?_
    exact eb_ireturn (pc := 23) rfl rfl rfl w
  · replace w := w.2 c1
    refine eb_iload_n (pc := 4) (n := 1) (i := 1) rfl rfl rfl ?_
    refine eb_aload_n (pc := 5) (n := 0) (i := 0) rfl rfl rfl ?_
    obtain ⟨r2, q3, k4, w⟩ := w
    refine eb_getR (pc := 6) rfl ka0 (by decide) (by decide) rfl q3 ?_
    refine eb_alen (pc := 9) rfl (by rw [k4]; decide) (by rw [k4]; decide) rfl ?_
    refine eb_icmp_ge (pc := 10) (tgt := 22) rfl (by decide) (fun c5 => ?_) (fun c5 => ?_)
    · replace w := w.1 c5
      refine eb_iconst (pc := 22) (n := 0) (v := 0) rfl rfl ?_
      exact eb_ireturn (pc := 23) rfl rfl rfl w
    · replace w := w.2 c5
      refine eb_aload_n (pc := 13) (n := 0) (i := 0) rfl rfl rfl ?_
      refine eb_getR (pc := 14) rfl ka0 (by decide) (by decide) rfl q3 ?_
      refine eb_iload_n (pc := 17) (n := 1) (i := 1) rfl rfl rfl ?_
      obtain ⟨c6, w⟩ := w
      refine eb_iaload (pc := 18) rfl k4 (by decide) c6 ?_
      refine eb_goto (pc := 19) (tgt := 23) rfl (by decide) ?_
      exact eb_ireturn (pc := 23) rfl rfl rfl w
theorem T_X9_heightOf {d : Nat} {h : eb_H} {Q : Option Value → eb_H → Prop} (a0 : Nat) (x1 : Int32) (ka0 : eb_kd a0 = 9) (ko : eb_KO h) (w : ((x1 < 0 → Q (some (.int 0)) h) ∧ (¬ (x1 < 0) → ∃ r2, eb_R h a0 6 = some r2 ∧ eb_kd r2 = 13 ∧ (((Int32.ofNat (eb_ln r2)) ≤ x1 → Q (some (.int 0)) h) ∧ (¬ ((Int32.ofNat (eb_ln r2)) ≤ x1) → (vp_in x1 (eb_ln r2)) ∧ Q (some (.int (eb_I h r2 x1.toNatClampNeg))) h))))) : eb_Ct d 81 [.ref a0, .int x1] h Q :=
  eb_bodyQ (by decide) ok_X9_heightOf (Nat.le_of_ble_eq_true rfl) (b_X9_heightOf_0 (h0 := h) a0 x1 ka0 ko w)
theorem b_X9_setHeight_0 {d : Nat} {h0 h : eb_H} {Q : Option Value → eb_H → Prop} (a0 : Nat) (x1 : Int32) (x2 : Int32) (ka0 : eb_kd a0 = 9) (ko : eb_KO h) (w : ((x1 < 0 → Q none h) ∧ (¬ (x1 < 0) → ∃ r2, eb_R h a0 6 = some r2 ∧ eb_kd r2 = 13 ∧ (((Int32.ofNat (eb_ln r2)) ≤ x1 → Q none h) ∧ (¬ ((Int32.ofNat (eb_ln r2)) ≤ x1) → (vp_in x1 (eb_ln r2)) ∧ Q none (eb_sI h r2 x1.toNatClampNeg x2)))))) : eb_Sn d m_X9_setHeight h0 0 [(0, .ref a0), (1, .int x1), (2, .int x2)] [] h Q := by
  refine eb_iload_n (pc := 0) (n := 1) (i := 1) rfl rfl rfl ?_
  refine eb_if_lt (pc := 1) (tgt := 20) rfl (by decide) (fun c1 => ?_) (fun c1 => ?_)
  · replace w := w.1 c1
    exact eb_return (pc := 20) rfl rfl w
  · replace w := w.2 c1
    refine eb_iload_n (pc := 4) (n := 1) (i := 1) rfl rfl rfl ?_
    refine eb_aload_n (pc := 5) (n := 0) (i := 0) rfl rfl rfl ?_
    obtain ⟨r2, q3, k4, w⟩ := w
    refine eb_getR (pc := 6) rfl ka0 (by decide) (by decide) rfl q3 ?_
    refine eb_alen (pc := 9) rfl (by rw [k4]; decide) (by rw [k4]; decide) rfl ?_
    refine eb_icmp_ge (pc := 10) (tgt := 20) rfl (by decide) (fun c5 => ?_) (fun c5 => ?_)
    · replace w := w.1 c5
      exact eb_return (pc := 20) rfl rfl w
    · replace w := w.2 c5
      refine eb_aload_n (pc := 13) (n := 0) (i := 0) rfl rfl rfl ?_
      refine eb_getR (pc := 14) rfl ka0 (by decide) (by decide) rfl q3 ?_
      refine eb_iload_n (pc := 17) (n := 1) (i := 1) rfl rfl rfl ?_
      refine eb_iload_n (pc := 18) (n := 2) (i := 2) rfl rfl rfl ?_
      obtain ⟨c6, w⟩ := w
      refine eb_iastore (pc := 19) rfl k4 (by decide) c6 ?_
      exact eb_return (pc := 20) rfl rfl w
theorem T_X9_setHeight {d : Nat} {h : eb_H} {Q : Option Value → eb_H → Prop} (a0 : Nat) (x1 : Int32) (x2 : Int32) (ka0 : eb_kd a0 = 9) (ko : eb_KO h) (w : ((x1 < 0 → Q none h) ∧ (¬ (x1 < 0) → ∃ r2, eb_R h a0 6 = some r2 ∧ eb_kd r2 = 13 ∧ (((Int32.ofNat (eb_ln r2)) ≤ x1 → Q none h) ∧ (¬ ((Int32.ofNat (eb_ln r2)) ≤ x1) → (vp_in x1 (eb_ln r2)) ∧ Q none (eb_sI h r2 x1.toNatClampNeg x2)))))) : eb_Ct d 82 [.ref a0, .int x1, .int x2] h Q :=
  eb_bodyQ (by decide) ok_X9_setHeight (Nat.le_of_ble_eq_true rfl) (b_X9_setHeight_0 (h0 := h) a0 x1 x2 ka0 ko w)
theorem b_X9_hasHouse_0 {d : Nat} {h0 h : eb_H} {Q : Option Value → eb_H → Prop} (a0 : Nat) (x1 : Int32) (ka0 : eb_kd a0 = 9) (ko : eb_KO h) (w : Q (some (.int (eb_q ((¬ (x1 < 0)) ∧ (¬ ((eb_I h a0 4) ≤ x1)))))) h) : eb_Sn d m_X9_hasHouse h0 0 [(0, .ref a0), (1, .int x1)] [] h Q := by
  refine eb_iload_n (pc := 0) (n := 1) (i := 1) rfl rfl rfl ?_
  refine eb_joinI (pc2 := 17) (ls2 := [(0, .ref a0), (1, .int x1)]) (st2 := []) (v := eb_q ((¬ (x1 < 0)) ∧ (¬ ((eb_I h a0 4) ≤ x1)))) ?_ (fun jj3 => ?_)
  · exact eb_ireturn (pc := 17) rfl rfl eb_qn w
  refine eb_if_lt (pc := 1) (tgt := 16) rfl (by decide) (fun c1 => ?_) (fun c1 => ?_)
  · refine eb_iconst (pc := 16) (n := 0) (v := 0) rfl rfl ?_
    exact jj3 0 (eb_qf (fun z => z.1 c1)).symm
  · refine eb_iload_n (pc := 4) (n := 1) (i := 1) rfl rfl rfl ?_
    refine eb_aload_n (pc := 5) (n := 0) (i := 0) rfl rfl rfl ?_
    refine eb_getI (pc := 6) rfl ka0 (by decide) (by decide) rfl ?_
    refine eb_icmp_ge (pc := 9) (tgt := 16) rfl (by decide) (fun c2 => ?_) (fun c2 => ?_)
    · refine eb_iconst (pc := 16) (n := 0) (v := 0) rfl rfl ?_
      exact jj3 0 (eb_qf (fun z => (fun z => z c2) z.2)).symm
    · refine eb_iconst (pc := 12) (n := 1) (v := 1) rfl rfl ?_
      refine eb_goto (pc := 13) (tgt := 17) rfl (by decide) ?_
      exact jj3 1 (eb_qt (⟨c1, c2⟩)).symm
theorem T_X9_hasHouse {d : Nat} {h : eb_H} {Q : Option Value → eb_H → Prop} (a0 : Nat) (x1 : Int32) (ka0 : eb_kd a0 = 9) (ko : eb_KO h) (w : Q (some (.int (eb_q ((¬ (x1 < 0)) ∧ (¬ ((eb_I h a0 4) ≤ x1)))))) h) : eb_Ct d 83 [.ref a0, .int x1] h Q :=
  eb_bodyQ (by decide) ok_X9_hasHouse (Nat.le_of_ble_eq_true rfl) (b_X9_hasHouse_0 (h0 := h) a0 x1 ka0 ko w)
theorem b_X9_houseCell_0 {d : Nat} {h0 h : eb_H} {Q : Option Value → eb_H → Prop} (a0 : Nat) (x1 : Int32) (ka0 : eb_kd a0 = 9) (ko : eb_KO h) (w : ((x1 < 0 → Q (some (.int (-1))) h) ∧ (¬ (x1 < 0) → ∃ r2, eb_R h a0 5 = some r2 ∧ eb_kd r2 = 13 ∧ (((Int32.ofNat (eb_ln r2)) ≤ x1 → Q (some (.int (-1))) h) ∧ (¬ ((Int32.ofNat (eb_ln r2)) ≤ x1) → (vp_in x1 (eb_ln r2)) ∧ Q (some (.int (eb_I h r2 x1.toNatClampNeg))) h))))) : eb_Sn d m_X9_houseCell h0 0 [(0, .ref a0), (1, .int x1)] [] h Q := by
  refine eb_iload_n (pc := 0) (n := 1) (i := 1) rfl rfl rfl ?_
  refine eb_if_lt (pc := 1) (tgt := 22) rfl (by decide) (fun c1 => ?_) (fun c1 => ?_)
  · replace w := w.1 c1
    refine eb_iconst (pc := 22) (n := -1) (v := (-1)) rfl rfl ?_
    exact eb_ireturn (pc := 23) rfl rfl rfl w
  · replace w := w.2 c1
    refine eb_iload_n (pc := 4) (n := 1) (i := 1) rfl rfl rfl ?_
    refine eb_aload_n (pc := 5) (n := 0) (i := 0) rfl rfl rfl ?_
    obtain ⟨r2, q3, k4, w⟩ := w
    refine eb_getR (pc := 6) rfl ka0 (by decide) (by decide) rfl q3 ?_
    refine eb_alen (pc := 9) rfl (by rw [k4]; decide) (by rw [k4]; decide) rfl ?_
    refine eb_icmp_ge (pc := 10) (tgt := 22) rfl (by decide) (fun c5 => ?_) (fun c5 => ?_)
    · replace w := w.1 c5
      refine eb_iconst (pc := 22) (n := -1) (v := (-1)) rfl rfl ?_
      exact eb_ireturn (pc := 23) rfl rfl rfl w
    · replace w := w.2 c5
      refine eb_aload_n (pc := 13) (n := 0) (i := 0) rfl rfl rfl ?_
      refine eb_getR (pc := 14) rfl ka0 (by decide) (by decide) rfl q3 ?_
      refine eb_iload_n (pc := 17) (n := 1) (i := 1) rfl rfl rfl ?_
      obtain ⟨c6, w⟩ := w
      refine eb_iaload (pc := 18) rfl k4 (by decide) c6 ?_
      refine eb_goto (pc := 19) (tgt := 23) rfl (by decide) ?_
      exact eb_ireturn (pc := 23) rfl rfl rfl w
theorem T_X9_houseCell {d : Nat} {h : eb_H} {Q : Option Value → eb_H → Prop} (a0 : Nat) (x1 : Int32) (ka0 : eb_kd a0 = 9) (ko : eb_KO h) (w : ((x1 < 0 → Q (some (.int (-1))) h) ∧ (¬ (x1 < 0) → ∃ r2, eb_R h a0 5 = some r2 ∧ eb_kd r2 = 13 ∧ (((Int32.ofNat (eb_ln r2)) ≤ x1 → Q (some (.int (-1))) h) ∧ (¬ ((Int32.ofNat (eb_ln r2)) ≤ x1) → (vp_in x1 (eb_ln r2)) ∧ Q (some (.int (eb_I h r2 x1.toNatClampNeg))) h))))) : eb_Ct d 84 [.ref a0, .int x1] h Q :=
  eb_bodyQ (by decide) ok_X9_houseCell (Nat.le_of_ble_eq_true rfl) (b_X9_houseCell_0 (h0 := h) a0 x1 ka0 ko w)
theorem b_X9_addHouse_0 {d : Nat} {h0 h : eb_H} {Q : Option Value → eb_H → Prop} (a0 : Nat) (x1 : Int32) (ka0 : eb_kd a0 = 9) (ko : eb_KO h) (w : (((eb_I h a0 4) < 0 → Q none h) ∧ (¬ ((eb_I h a0 4) < 0) → ∃ r2, eb_R h a0 5 = some r2 ∧ eb_kd r2 = 13 ∧ (((eb_I h a0 4) < (Int32.ofNat (eb_ln r2)) → (vp_in (eb_I h a0 4) (eb_ln r2)) ∧ Q none (eb_sI (eb_sI h r2 (eb_I h a0 4).toNatClampNeg x1) a0 4 ((eb_I (eb_sI h r2 (eb_I h a0 4).toNatClampNeg x1) a0 4) + 1))) ∧ (¬ ((eb_I h a0 4) < (Int32.ofNat (eb_ln r2))) → Q none h))))) : eb_Sn d m_X9_addHouse h0 0 [(0, .ref a0), (1, .int x1)] [] h Q := by
  refine eb_aload_n (pc := 0) (n := 0) (i := 0) rfl rfl rfl ?_
  refine eb_getI (pc := 1) rfl ka0 (by decide) (by decide) rfl ?_
  refine eb_if_lt (pc := 4) (tgt := 19) rfl (by decide) (fun c1 => ?_) (fun c1 => ?_)
  · replace w := w.1 c1
    exact eb_return (pc := 19) rfl rfl w
  · replace w := w.2 c1
    refine eb_aload_n (pc := 7) (n := 0) (i := 0) rfl rfl rfl ?_
    refine eb_getI (pc := 8) rfl ka0 (by decide) (by decide) rfl ?_
    refine eb_aload_n (pc := 11) (n := 0) (i := 0) rfl rfl rfl ?_
    obtain ⟨r2, q3, k4, w⟩ := w
    refine eb_getR (pc := 12) rfl ka0 (by decide) (by decide) rfl q3 ?_
    refine eb_alen (pc := 15) rfl (by rw [k4]; decide) (by rw [k4]; decide) rfl ?_
    refine eb_icmp_lt (pc := 16) (tgt := 20) rfl (by decide) (fun c5 => ?_) (fun c5 => ?_)
    · replace w := w.1 c5
      refine eb_aload_n (pc := 20) (n := 0) (i := 0) rfl rfl rfl ?_
      refine eb_getR (pc := 21) rfl ka0 (by decide) (by decide) rfl q3 ?_
      refine eb_aload_n (pc := 24) (n := 0) (i := 0) rfl rfl rfl ?_
      refine eb_getI (pc := 25) rfl ka0 (by decide) (by decide) rfl ?_
      refine eb_iload_n (pc := 28) (n := 1) (i := 1) rfl rfl rfl ?_
      obtain ⟨c6, w⟩ := w
      refine eb_iastore (pc := 29) rfl k4 (by decide) c6 ?_
      refine eb_aload_n (pc := 30) (n := 0) (i := 0) rfl rfl rfl ?_
      refine eb_dupr (pc := 31) rfl ?_
      refine eb_getI (pc := 32) rfl ka0 (by decide) (by decide) rfl ?_
      refine eb_iconst (pc := 35) (n := 1) (v := 1) rfl rfl ?_
      refine eb_iadd (pc := 36) rfl ?_
      refine eb_putI (pc := 37) rfl ka0 (by decide) (by decide) rfl rfl ⟨rfl, rfl⟩ ?_
      exact eb_return (pc := 40) rfl rfl w
    · replace w := w.2 c5
      exact eb_return (pc := 19) rfl rfl w
theorem T_X9_addHouse {d : Nat} {h : eb_H} {Q : Option Value → eb_H → Prop} (a0 : Nat) (x1 : Int32) (ka0 : eb_kd a0 = 9) (ko : eb_KO h) (w : (((eb_I h a0 4) < 0 → Q none h) ∧ (¬ ((eb_I h a0 4) < 0) → ∃ r2, eb_R h a0 5 = some r2 ∧ eb_kd r2 = 13 ∧ (((eb_I h a0 4) < (Int32.ofNat (eb_ln r2)) → (vp_in (eb_I h a0 4) (eb_ln r2)) ∧ Q none (eb_sI (eb_sI h r2 (eb_I h a0 4).toNatClampNeg x1) a0 4 ((eb_I (eb_sI h r2 (eb_I h a0 4).toNatClampNeg x1) a0 4) + 1))) ∧ (¬ ((eb_I h a0 4) < (Int32.ofNat (eb_ln r2))) → Q none h))))) : eb_Ct d 85 [.ref a0, .int x1] h Q :=
  eb_bodyQ (by decide) ok_X9_addHouse (Nat.le_of_ble_eq_true rfl) (b_X9_addHouse_0 (h0 := h) a0 x1 ka0 ko w)
theorem b_X9_firstHouseIn_0 {d : Nat} {h0 h : eb_H} {Q : Option Value → eb_H → Prop} (a0 : Nat) (x1 : Int32) (ka0 : eb_kd a0 = 9) (ko : eb_KO h) (w : eb_Sn (d + 1) m_X9_firstHouseIn h0 2 [(0, .ref a0), (1, .int x1), (2, .int 0)] [] h Q) : eb_Sn (d + 1) m_X9_firstHouseIn h0 0 [(0, .ref a0), (1, .int x1)] [] h Q := by
  refine eb_iconst (pc := 0) (n := 0) (v := 0) rfl rfl ?_
  refine eb_istore_n (pc := 1) (n := 2) (i := 2) (ls2 := [(2, .int 0), (0, .ref a0), (1, .int x1)]) rfl (Nat.le_of_ble_eq_true rfl) rfl rfl ?_
  exact eb_pick [1, 2, 0] rfl w
theorem b_X9_firstHouseIn_2 {d : Nat} {h0 h : eb_H} {Q : Option Value → eb_H → Prop} (a0 : Nat) (x1 : Int32) (x2 : Int32) (ka0 : eb_kd a0 = 9) (ko : eb_KO h) (w : (((eb_I h a0 4) ≤ x2 → Q (some (.int (-1))) h) ∧ (¬ ((eb_I h a0 4) ≤ x2) → ((x2 < 0 → ((¬ ((-1) : Int32) = x1 → eb_Sn (d + 1) m_X9_firstHouseIn h0 2 [(0, .ref a0), (1, .int x1), (2, .int (x2 + 1))] [] h Q) ∧ (((-1) : Int32) = x1 → Q (some (.int x2)) h))) ∧ (¬ (x2 < 0) → ∃ r3, eb_R h a0 5 = some r3 ∧ eb_kd r3 = 13 ∧ (((Int32.ofNat (eb_ln r3)) ≤ x2 → ((¬ ((-1) : Int32) = x1 → eb_Sn (d + 1) m_X9_firstHouseIn h0 2 [(0, .ref a0), (1, .int x1), (2, .int (x2 + 1))] [] h Q) ∧ (((-1) : Int32) = x1 → Q (some (.int x2)) h))) ∧ (¬ ((Int32.ofNat (eb_ln r3)) ≤ x2) → (vp_in x2 (eb_ln r3)) ∧ ((¬ (eb_I h r3 x2.toNatClampNeg) = x1 → eb_Sn (d + 1) m_X9_firstHouseIn h0 2 [(0, .ref a0), (1, .int x1), (2, .int (x2 + 1))] [] h Q) ∧ ((eb_I h r3 x2.toNatClampNeg) = x1 → Q (some (.int x2)) h))))))))) : eb_Sn (d + 1) m_X9_firstHouseIn h0 2 [(0, .ref a0), (1, .int x1), (2, .int x2)] [] h Q := by
  refine eb_iload_n (pc := 2) (n := 2) (i := 2) rfl rfl rfl ?_
  refine eb_aload_n (pc := 3) (n := 0) (i := 0) rfl rfl rfl ?_
  refine eb_getI (pc := 4) rfl ka0 (by decide) (by decide) rfl ?_
  refine eb_icmp_ge (pc := 7) (tgt := 27) rfl (by decide) (fun c1 => ?_) (fun c1 => ?_)
  · replace w := w.1 c1
    refine eb_iconst (pc := 27) (n := -1) (v := (-1)) rfl rfl ?_
    exact eb_ireturn (pc := 28) rfl rfl rfl w
  · replace w := w.2 c1
    refine eb_aload_n (pc := 10) (n := 0) (i := 0) rfl rfl rfl ?_
    refine eb_iload_n (pc := 11) (n := 2) (i := 2) rfl rfl rfl ?_
    refine eb_ctV (pc := 12) (As := [.int x2]) (rest := []) rfl (by decide) rfl ka0 (by decide) rfl (Nat.le_of_ble_eq_true rfl) ?_
    refine eb_bodyQ (by decide) ok_X9_houseCell (Nat.le_of_ble_eq_true rfl) ?_
    change eb_Sn _ m_X9_houseCell _ 0 [(0, .ref a0), (1, .int x2)] [] _ _
    refine eb_iload_n (pc := 0) (n := 1) (i := 1) rfl rfl rfl ?_
    refine eb_if_lt (pc := 1) (tgt := 22) rfl (by decide) (fun c2 => ?_) (fun c2 => ?_)
    · replace w := w.1 c2
      refine eb_iconst (pc := 22) (n := -1) (v := (-1)) rfl rfl ?_
      refine eb_ireturn (pc := 23) rfl rfl rfl ?_
      change eb_Sn _ _ _ 15 _ [.int (-1)] _ _
      refine eb_iload_n (pc := 15) (n := 1) (i := 1) rfl rfl rfl ?_
      refine eb_icmp_ne (pc := 16) (tgt := 21) rfl (by decide) (fun c8 => ?_) (fun c8 => ?_)
      · replace w := w.1 c8
        refine eb_iinc (pc := 21) (i := 2) (n := 1) (v := x2 + 1) (ls2 := [(2, .int (x2 + 1)), (0, .ref a0), (1, .int x1)]) (Nat.le_of_ble_eq_true rfl) rfl rfl rfl rfl ?_
        refine eb_goto (pc := 24) (tgt := 2) rfl (by decide) ?_
        exact eb_pick [1, 2, 0] rfl w
      · replace w := w.2 c8
        refine eb_iload_n (pc := 19) (n := 2) (i := 2) rfl rfl rfl ?_
        exact eb_ireturn (pc := 20) rfl rfl rfl w
    · replace w := w.2 c2
      refine eb_iload_n (pc := 4) (n := 1) (i := 1) rfl rfl rfl ?_
      refine eb_aload_n (pc := 5) (n := 0) (i := 0) rfl rfl rfl ?_
      obtain ⟨r3, q4, k5, w⟩ := w
      refine eb_getR (pc := 6) rfl ka0 (by decide) (by decide) rfl q4 ?_
      refine eb_alen (pc := 9) rfl (by rw [k5]; decide) (by rw [k5]; decide) rfl ?_
      refine eb_icmp_ge (pc := 10) (tgt := 22) rfl (by decide) (fun c6 => ?_) (fun c6 => ?_)
      · replace w := w.1 c6
        refine eb_iconst (pc := 22) (n := -1) (v := (-1)) rfl rfl ?_
        refine eb_ireturn (pc := 23) rfl rfl rfl ?_
        change eb_Sn _ _ _ 15 _ [.int (-1)] _ _
        refine eb_iload_n (pc := 15) (n := 1) (i := 1) rfl rfl rfl ?_
        refine eb_icmp_ne (pc := 16) (tgt := 21) rfl (by decide) (fun c9 => ?_) (fun c9 => ?_)
        · replace w := w.1 c9
          refine eb_iinc (pc := 21) (i := 2) (n := 1) (v := x2 + 1) (ls2 := [(2, .int (x2 + 1)), (0, .ref a0), (1, .int x1)]) (Nat.le_of_ble_eq_true rfl) rfl rfl rfl rfl ?_
          refine eb_goto (pc := 24) (tgt := 2) rfl (by decide) ?_
          exact eb_pick [1, 2, 0] rfl w
        · replace w := w.2 c9
          refine eb_iload_n (pc := 19) (n := 2) (i := 2) rfl rfl rfl ?_
          exact eb_ireturn (pc := 20) rfl rfl rfl w
      · replace w := w.2 c6
        refine eb_aload_n (pc := 13) (n := 0) (i := 0) rfl rfl rfl ?_
        refine eb_getR (pc := 14) rfl ka0 (by decide) (by decide) rfl q4 ?_
        refine eb_iload_n (pc := 17) (n := 1) (i := 1) rfl rfl rfl ?_
        obtain ⟨c7, w⟩ := w
        refine eb_iaload (pc := 18) rfl k5 (by decide) c7 ?_
        refine eb_goto (pc := 19) (tgt := 23) rfl (by decide) ?_
        refine eb_ireturn (pc := 23) rfl rfl rfl ?_
        change eb_Sn _ _ _ 15 _ [.int (eb_I h r3 x2.toNatClampNeg)] _ _
        refine eb_iload_n (pc := 15) (n := 1) (i := 1) rfl rfl rfl ?_
        refine eb_icmp_ne (pc := 16) (tgt := 21) rfl (by decide) (fun c10 => ?_) (fun c10 => ?_)
        · replace w := w.1 c10
          refine eb_iinc (pc := 21) (i := 2) (n := 1) (v := x2 + 1) (ls2 := [(2, .int (x2 + 1)), (0, .ref a0), (1, .int x1)]) (Nat.le_of_ble_eq_true rfl) rfl rfl rfl rfl ?_
          refine eb_goto (pc := 24) (tgt := 2) rfl (by decide) ?_
          exact eb_pick [1, 2, 0] rfl w
        · replace w := w.2 c10
          refine eb_iload_n (pc := 19) (n := 2) (i := 2) rfl rfl rfl ?_
          exact eb_ireturn (pc := 20) rfl rfl rfl w
theorem T_X9_firstHouseIn {d : Nat} {h : eb_H} {Q : Option Value → eb_H → Prop} (a0 : Nat) (x1 : Int32) (ka0 : eb_kd a0 = 9) (ko : eb_KO h) (w : eb_Sn (d + 1) m_X9_firstHouseIn h 2 [(0, .ref a0), (1, .int x1), (2, .int 0)] [] h Q) : eb_Ct (d + 1) 86 [.ref a0, .int x1] h Q :=
  eb_bodyQ (by decide) ok_X9_firstHouseIn (Nat.le_of_ble_eq_true rfl) (b_X9_firstHouseIn_0 (h0 := h) a0 x1 ka0 ko w)
theorem b_X9_neighbour_0 {d : Nat} {h0 h : eb_H} {Q : Option Value → eb_H → Prop} (a0 : Nat) (x1 : Int32) (x2 : Int32) (ka0 : eb_kd a0 = 9) (ko : eb_KO h) (w : ((¬ ((¬ (x1 < 0)) ∧ (¬ (((eb_I h a0 0) * (eb_I h a0 1)) ≤ x1))) → Q (some (.int (-1))) h) ∧ ((¬ (x1 < 0)) ∧ (¬ (((eb_I h a0 0) * (eb_I h a0 1)) ≤ x1)) → (((1 : Int32) ≤ (eb_I h a0 1) → (¬ (eb_I h a0 1) = 0) ∧ ((x2 = 0 → Q (some (.int (if x1 < (eb_I h a0 1) then (-1) else x1 - (eb_I h a0 1) : Int32))) h) ∧ (x2 = 1 → Q (some (.int (if (eb_I h a0 1) ≤ ((x1 - x1 / (eb_I h a0 1) * (eb_I h a0 1)) + 1) then (-1) else x1 + 1 : Int32))) h) ∧ (x2 = 2 → Q (some (.int (if (¬ ((x1 + (eb_I h a0 1)) < 0)) ∧ (¬ (((eb_I h a0 0) * (eb_I h a0 1)) ≤ (x1 + (eb_I h a0 1)))) then x1 + (eb_I h a0 1) else (-1) : Int32))) h) ∧ (x2 = 3 → Q (some (.int (if (x1 - x1 / (eb_I h a0 1) * (eb_I h a0 1)) ≤ 0 then (-1) else x1 - 1 : Int32))) h) ∧ (¬ x2 = 0 → ¬ x2 = 1 → ¬ x2 = 2 → ¬ x2 = 3 → Q (some (.int (-1))) h))) ∧ (¬ ((1 : Int32) ≤ (eb_I h a0 1)) → Q (some (.int (-1))) h))))) : eb_Sn (d + 1) m_X9_neighbour h0 0 [(0, .ref a0), (1, .int x1), (2, .int x2)] [] h Q := by
  refine eb_aload_n (pc := 0) (n := 0) (i := 0) rfl rfl rfl ?_
  refine eb_iload_n (pc := 1) (n := 1) (i := 1) rfl rfl rfl ?_
  refine eb_joinI (pc2 := 5) (ls2 := [(0, .ref a0), (1, .int x1), (2, .int x2)]) (st2 := []) (v := eb_q ((¬ (x1 < 0)) ∧ (¬ (((eb_I h a0 0) * (eb_I h a0 1)) ≤ x1)))) ?_ (fun jj22 => ?_)
  · refine eb_if_eq (pc := 5) (tgt := 16) rfl (by decide) (fun c3 => ?_) (fun c3 => ?_)
    · replace c3 := eb_q0.mp c3
      replace w := w.1 c3
      refine eb_iconst (pc := 16) (n := -1) (v := (-1)) rfl rfl ?_
      exact eb_ireturn (pc := 17) rfl rfl rfl w
    · replace c3 := eb_q1.mp c3
      replace w := w.2 c3
      refine eb_aload_n (pc := 8) (n := 0) (i := 0) rfl rfl rfl ?_
      refine eb_getI (pc := 9) rfl ka0 (by decide) (by decide) rfl ?_
      refine eb_iconst (pc := 12) (n := 1) (v := 1) rfl rfl ?_
      refine eb_icmp_ge (pc := 13) (tgt := 18) rfl (by decide) (fun c4 => ?_) (fun c4 => ?_)
      · replace w := w.1 c4
        refine eb_iload_n (pc := 18) (n := 1) (i := 1) rfl rfl rfl ?_
        refine eb_aload_n (pc := 19) (n := 0) (i := 0) rfl rfl rfl ?_
        refine eb_getI (pc := 20) rfl ka0 (by decide) (by decide) rfl ?_
        obtain ⟨c5, w⟩ := w
        refine eb_irem (pc := 23) c5 rfl ?_
        refine eb_istore_n (pc := 24) (n := 3) (i := 3) (ls2 := [(3, .int (x1 - x1 / (eb_I h a0 1) * (eb_I h a0 1))), (0, .ref a0), (1, .int x1), (2, .int x2)]) rfl (Nat.le_of_ble_eq_true rfl) rfl rfl ?_
        refine eb_iload_n (pc := 25) (n := 2) (i := 2) rfl rfl rfl ?_
        by_cases s0 : x2 = 0
        · refine eb_tableIn (pc := 26) (j := 0) (tgt := 56) (by rw [s0]; decide) (by decide) (by rfl) (by decide) rfl ?_
          replace w := w.1 s0
          refine eb_iload_n (pc := 56) (n := 1) (i := 1) rfl rfl rfl ?_
          refine eb_aload_n (pc := 57) (n := 0) (i := 0) rfl rfl rfl ?_
          refine eb_getI (pc := 58) rfl ka0 (by decide) (by decide) rfl ?_
          refine eb_joinI (pc2 := 74) (ls2 := [(3, .int (x1 - x1 / (eb_I h a0 1) * (eb_I h a0 1))), (0, .ref a0), (1, .int x1), (2, .int x2)]) (st2 := []) (v := (if x1 < (eb_I h a0 1) then (-1) else x1 - (eb_I h a0 1) : Int32)) ?_ (fun jj7 => ?_)
          · exact eb_ireturn (pc := 74) rfl rfl rfl w
          refine eb_icmp_lt (pc := 61) (tgt := 73) rfl (by decide) (fun c6 => ?_) (fun c6 => ?_)
          · refine eb_iconst (pc := 73) (n := -1) (v := (-1)) rfl rfl ?_
            exact jj7 _ (by simp only [if_pos c6])
          · refine eb_iload_n (pc := 64) (n := 1) (i := 1) rfl rfl rfl ?_
            refine eb_aload_n (pc := 65) (n := 0) (i := 0) rfl rfl rfl ?_
            refine eb_getI (pc := 66) rfl ka0 (by decide) (by decide) rfl ?_
            refine eb_isub (pc := 69) rfl ?_
            refine eb_goto (pc := 70) (tgt := 74) rfl (by decide) ?_
            exact jj7 _ (by simp only [if_neg c6])
        by_cases s1 : x2 = 1
        · refine eb_tableIn (pc := 26) (j := 1) (tgt := 75) (by rw [s1]; decide) (by decide) (by rfl) (by decide) rfl ?_
          replace w := w.2.1 s1
          refine eb_iload_n (pc := 75) (n := 3) (i := 3) rfl rfl rfl ?_
          refine eb_iconst (pc := 76) (n := 1) (v := 1) rfl rfl ?_
          refine eb_iadd (pc := 77) rfl ?_
          refine eb_aload_n (pc := 78) (n := 0) (i := 0) rfl rfl rfl ?_
          refine eb_getI (pc := 79) rfl ka0 (by decide) (by decide) rfl ?_
          refine eb_joinI (pc2 := 92) (ls2 := [(3, .int (x1 - x1 / (eb_I h a0 1) * (eb_I h a0 1))), (0, .ref a0), (1, .int x1), (2, .int x2)]) (st2 := []) (v := (if (eb_I h a0 1) ≤ ((x1 - x1 / (eb_I h a0 1) * (eb_I h a0 1)) + 1) then (-1) else x1 + 1 : Int32)) ?_ (fun jj10 => ?_)
          · exact eb_ireturn (pc := 92) rfl rfl rfl w
          refine eb_icmp_ge (pc := 82) (tgt := 91) rfl (by decide) (fun c9 => ?_) (fun c9 => ?_)
          · refine eb_iconst (pc := 91) (n := -1) (v := (-1)) rfl rfl ?_
            exact jj10 _ (by simp only [if_pos c9])
          · refine eb_iload_n (pc := 85) (n := 1) (i := 1) rfl rfl rfl ?_
            refine eb_iconst (pc := 86) (n := 1) (v := 1) rfl rfl ?_
            refine eb_iadd (pc := 87) rfl ?_
            refine eb_goto (pc := 88) (tgt := 92) rfl (by decide) ?_
            exact jj10 _ (by simp only [if_neg c9])
        by_cases s2 : x2 = 2
        · refine eb_tableIn (pc := 26) (j := 2) (tgt := 93) (by rw [s2]; decide) (by decide) (by rfl) (by decide) rfl ?_
          replace w := w.2.2.1 s2
          refine eb_aload_n (pc := 93) (n := 0) (i := 0) rfl rfl rfl ?_
          refine eb_iload_n (pc := 94) (n := 1) (i := 1) rfl rfl rfl ?_
          refine eb_aload_n (pc := 95) (n := 0) (i := 0) rfl rfl rfl ?_
          refine eb_getI (pc := 96) rfl ka0 (by decide) (by decide) rfl ?_
          refine eb_iadd (pc := 99) rfl ?_
          refine eb_joinI (pc2 := 103) (ls2 := [(3, .int (x1 - x1 / (eb_I h a0 1) * (eb_I h a0 1))), (0, .ref a0), (1, .int x1), (2, .int x2)]) (st2 := []) (v := eb_q ((¬ ((x1 + (eb_I h a0 1)) < 0)) ∧ (¬ (((eb_I h a0 0) * (eb_I h a0 1)) ≤ (x1 + (eb_I h a0 1)))))) ?_ (fun jj17 => ?_)
          · refine eb_joinI (pc2 := 116) (ls2 := [(3, .int (x1 - x1 / (eb_I h a0 1) * (eb_I h a0 1))), (0, .ref a0), (1, .int x1), (2, .int x2)]) (st2 := []) (v := (if (¬ ((x1 + (eb_I h a0 1)) < 0)) ∧ (¬ (((eb_I h a0 0) * (eb_I h a0 1)) ≤ (x1 + (eb_I h a0 1)))) then x1 + (eb_I h a0 1) else (-1) : Int32)) ?_ (fun jj15 => ?_)
            · exact eb_ireturn (pc := 116) rfl rfl rfl w
            refine eb_if_eq (pc := 103) (tgt := 115) rfl (by decide) (fun c14 => ?_) (fun c14 => ?_)
            · replace c14 := eb_q0.mp c14
              refine eb_iconst (pc := 115) (n := -1) (v := (-1)) rfl rfl ?_
              exact jj15 _ (by simp only [if_neg c14])
            · replace c14 := eb_q1.mp c14
              refine eb_iload_n (pc := 106) (n := 1) (i := 1) rfl rfl rfl ?_
              refine eb_aload_n (pc := 107) (n := 0) (i := 0) rfl rfl rfl ?_
              refine eb_getI (pc := 108) rfl ka0 (by decide) (by decide) rfl ?_
              refine eb_iadd (pc := 111) rfl ?_
              refine eb_goto (pc := 112) (tgt := 116) rfl (by decide) ?_
              exact jj15 _ (by simp only [if_pos c14])
          refine eb_ctV (pc := 100) (As := [.int (x1 + (eb_I h a0 1))]) (rest := []) rfl (by decide) rfl ka0 (by decide) rfl (Nat.le_of_ble_eq_true rfl) ?_
          refine eb_bodyQ (by decide) ok_X9_has (Nat.le_of_ble_eq_true rfl) ?_
          change eb_Sn _ m_X9_has _ 0 [(0, .ref a0), (1, .int (x1 + (eb_I h a0 1)))] [] _ _
          refine eb_iload_n (pc := 0) (n := 1) (i := 1) rfl rfl rfl ?_
          refine eb_if_lt (pc := 1) (tgt := 21) rfl (by decide) (fun c12 => ?_) (fun c12 => ?_)
          · refine eb_iconst (pc := 21) (n := 0) (v := 0) rfl rfl ?_
            refine eb_ireturn (pc := 22) rfl rfl (by decide) ?_
            change eb_Sn _ _ _ 103 _ _ _ _
            exact jj17 0 (eb_qf (fun z => z.1 c12)).symm
          · refine eb_iload_n (pc := 4) (n := 1) (i := 1) rfl rfl rfl ?_
            refine eb_aload_n (pc := 5) (n := 0) (i := 0) rfl rfl rfl ?_
            refine eb_getI (pc := 6) rfl ka0 (by decide) (by decide) rfl ?_
            refine eb_aload_n (pc := 9) (n := 0) (i := 0) rfl rfl rfl ?_
            refine eb_getI (pc := 10) rfl ka0 (by decide) (by decide) rfl ?_
            refine eb_imul (pc := 13) rfl ?_
            refine eb_icmp_ge (pc := 14) (tgt := 21) rfl (by decide) (fun c13 => ?_) (fun c13 => ?_)
            · refine eb_iconst (pc := 21) (n := 0) (v := 0) rfl rfl ?_
              refine eb_ireturn (pc := 22) rfl rfl (by decide) ?_
              change eb_Sn _ _ _ 103 _ _ _ _
              exact jj17 0 (eb_qf (fun z => (fun z => z c13) z.2)).symm
            · refine eb_iconst (pc := 17) (n := 1) (v := 1) rfl rfl ?_
              refine eb_goto (pc := 18) (tgt := 22) rfl (by decide) ?_
              refine eb_ireturn (pc := 22) rfl rfl (by decide) ?_
              change eb_Sn _ _ _ 103 _ _ _ _
              exact jj17 1 (eb_qt (⟨c12, c13⟩)).symm
        by_cases s3 : x2 = 3
        · refine eb_tableIn (pc := 26) (j := 3) (tgt := 117) (by rw [s3]; decide) (by decide) (by rfl) (by decide) rfl ?_
          replace w := w.2.2.2.1 s3
          refine eb_iload_n (pc := 117) (n := 3) (i := 3) rfl rfl rfl ?_
          refine eb_joinI (pc2 := 128) (ls2 := [(3, .int (x1 - x1 / (eb_I h a0 1) * (eb_I h a0 1))), (0, .ref a0), (1, .int x1), (2, .int x2)]) (st2 := []) (v := (if (x1 - x1 / (eb_I h a0 1) * (eb_I h a0 1)) ≤ 0 then (-1) else x1 - 1 : Int32)) ?_ (fun jj20 => ?_)
          · exact eb_ireturn (pc := 128) rfl rfl rfl w
          refine eb_if_le (pc := 118) (tgt := 127) rfl (by decide) (fun c19 => ?_) (fun c19 => ?_)
          · refine eb_iconst (pc := 127) (n := -1) (v := (-1)) rfl rfl ?_
            exact jj20 _ (by simp only [if_pos c19])
          · refine eb_iload_n (pc := 121) (n := 1) (i := 1) rfl rfl rfl ?_
            refine eb_iconst (pc := 122) (n := 1) (v := 1) rfl rfl ?_
            refine eb_isub (pc := 123) rfl ?_
            refine eb_goto (pc := 124) (tgt := 128) rfl (by decide) ?_
            exact jj20 _ (by simp only [if_neg c19])
        refine eb_tableOut (pc := 26) (tgt := 129) (by have z0 := lv_neT (a := 0) s0 (by decide); have z1 := lv_neT (a := 1) s1 (by decide); have z2 := lv_neT (a := 2) s2 (by decide); have z3 := lv_neT (a := 3) s3 (by decide); omega) (by decide) rfl ?_
        replace w := w.2.2.2.2 s0 s1 s2 s3
        refine eb_iconst (pc := 129) (n := -1) (v := (-1)) rfl rfl ?_
        exact eb_ireturn (pc := 130) rfl rfl rfl w
      · replace w := w.2 c4
        refine eb_iconst (pc := 16) (n := -1) (v := (-1)) rfl rfl ?_
        exact eb_ireturn (pc := 17) rfl rfl rfl w
  refine eb_ctV (pc := 2) (As := [.int x1]) (rest := []) rfl (by decide) rfl ka0 (by decide) rfl (Nat.le_of_ble_eq_true rfl) ?_
  refine eb_bodyQ (by decide) ok_X9_has (Nat.le_of_ble_eq_true rfl) ?_
  change eb_Sn _ m_X9_has _ 0 [(0, .ref a0), (1, .int x1)] [] _ _
  refine eb_iload_n (pc := 0) (n := 1) (i := 1) rfl rfl rfl ?_
  refine eb_if_lt (pc := 1) (tgt := 21) rfl (by decide) (fun c1 => ?_) (fun c1 => ?_)
  · refine eb_iconst (pc := 21) (n := 0) (v := 0) rfl rfl ?_
    refine eb_ireturn (pc := 22) rfl rfl (by decide) ?_
    change eb_Sn _ _ _ 5 _ _ _ _
    exact jj22 0 (eb_qf (fun z => z.1 c1)).symm
  · refine eb_iload_n (pc := 4) (n := 1) (i := 1) rfl rfl rfl ?_
    refine eb_aload_n (pc := 5) (n := 0) (i := 0) rfl rfl rfl ?_
    refine eb_getI (pc := 6) rfl ka0 (by decide) (by decide) rfl ?_
    refine eb_aload_n (pc := 9) (n := 0) (i := 0) rfl rfl rfl ?_
    refine eb_getI (pc := 10) rfl ka0 (by decide) (by decide) rfl ?_
    refine eb_imul (pc := 13) rfl ?_
    refine eb_icmp_ge (pc := 14) (tgt := 21) rfl (by decide) (fun c2 => ?_) (fun c2 => ?_)
    · refine eb_iconst (pc := 21) (n := 0) (v := 0) rfl rfl ?_
      refine eb_ireturn (pc := 22) rfl rfl (by decide) ?_
      change eb_Sn _ _ _ 5 _ _ _ _
      exact jj22 0 (eb_qf (fun z => (fun z => z c2) z.2)).symm
    · refine eb_iconst (pc := 17) (n := 1) (v := 1) rfl rfl ?_
      refine eb_goto (pc := 18) (tgt := 22) rfl (by decide) ?_
      refine eb_ireturn (pc := 22) rfl rfl (by decide) ?_
      change eb_Sn _ _ _ 5 _ _ _ _
      exact jj22 1 (eb_qt (⟨c1, c2⟩)).symm
theorem T_X9_neighbour {d : Nat} {h : eb_H} {Q : Option Value → eb_H → Prop} (a0 : Nat) (x1 : Int32) (x2 : Int32) (ka0 : eb_kd a0 = 9) (ko : eb_KO h) (w : ((¬ ((¬ (x1 < 0)) ∧ (¬ (((eb_I h a0 0) * (eb_I h a0 1)) ≤ x1))) → Q (some (.int (-1))) h) ∧ ((¬ (x1 < 0)) ∧ (¬ (((eb_I h a0 0) * (eb_I h a0 1)) ≤ x1)) → (((1 : Int32) ≤ (eb_I h a0 1) → (¬ (eb_I h a0 1) = 0) ∧ ((x2 = 0 → Q (some (.int (if x1 < (eb_I h a0 1) then (-1) else x1 - (eb_I h a0 1) : Int32))) h) ∧ (x2 = 1 → Q (some (.int (if (eb_I h a0 1) ≤ ((x1 - x1 / (eb_I h a0 1) * (eb_I h a0 1)) + 1) then (-1) else x1 + 1 : Int32))) h) ∧ (x2 = 2 → Q (some (.int (if (¬ ((x1 + (eb_I h a0 1)) < 0)) ∧ (¬ (((eb_I h a0 0) * (eb_I h a0 1)) ≤ (x1 + (eb_I h a0 1)))) then x1 + (eb_I h a0 1) else (-1) : Int32))) h) ∧ (x2 = 3 → Q (some (.int (if (x1 - x1 / (eb_I h a0 1) * (eb_I h a0 1)) ≤ 0 then (-1) else x1 - 1 : Int32))) h) ∧ (¬ x2 = 0 → ¬ x2 = 1 → ¬ x2 = 2 → ¬ x2 = 3 → Q (some (.int (-1))) h))) ∧ (¬ ((1 : Int32) ≤ (eb_I h a0 1)) → Q (some (.int (-1))) h))))) : eb_Ct (d + 1) 87 [.ref a0, .int x1, .int x2] h Q :=
  eb_bodyQ (by decide) ok_X9_neighbour (Nat.le_of_ble_eq_true rfl) (b_X9_neighbour_0 (h0 := h) a0 x1 x2 ka0 ko w)
theorem b_X9_verdict_0 {d : Nat} {h0 h : eb_H} {Q : Option Value → eb_H → Prop} (a0 : Nat) (x1 : Int32) (x2 : Int32) (x3 : Int32) (x4 : Int32) (x5 : Int32) (ka0 : eb_kd a0 = 9) (ko : eb_KO h) (w : ((x2 < 0 → ((x1 < 0 → ((eb_R h a0 7 = none → ((x5 < (1 : Int32) → Q (some (.int 2)) h) ∧ (¬ (x5 < (1 : Int32)) → ((x3 < (eb_I h a0 2) → ((eb_R h a0 8 = none → Q (some (.int 3)) h) ∧ (∀ r18, eb_R h a0 8 = some r18 → (eb_kd r18 = 2) ∧ eb_Ct d 25 [.ref r18, .int 0, .int 0, .int x3, .int x4, .int x2, .int x5] h (fun r h20 => ∃ y21, r = some (.int y21) ∧ eb_KO h20 ∧ ((¬ y21 = 0 → Q (some (.int 3)) h20) ∧ (y21 = 0 → Q (some (.int 2)) h20)))))) ∧ (¬ (x3 < (eb_I h a0 2)) → Q (some (.int 2)) h))))) ∧ (∀ r14, eb_R h a0 7 = some r14 → (eb_kd r14 = 2) ∧ eb_Ct d 25 [.ref r14, .int 0, .int 0, .int x3, .int x4, .int x2, .int x5] h (fun r h25 => ∃ y26, r = some (.int y26) ∧ eb_KO h25 ∧ ((¬ y26 = 0 → ((x5 < (1 : Int32) → Q (some (.int 2)) h25) ∧ (¬ (x5 < (1 : Int32)) → ((x3 < (eb_I h25 a0 2) → ((eb_R h25 a0 8 = none → Q (some (.int 3)) h25) ∧ (∀ r32, eb_R h25 a0 8 = some r32 → (eb_kd r32 = 2) ∧ eb_Ct d 25 [.ref r32, .int 0, .int 0, .int x3, .int x4, .int x2, .int x5] h25 (fun r h34 => ∃ y35, r = some (.int y35) ∧ eb_KO h34 ∧ ((¬ y35 = 0 → Q (some (.int 3)) h34) ∧ (y35 = 0 → Q (some (.int 2)) h34)))))) ∧ (¬ (x3 < (eb_I h25 a0 2)) → Q (some (.int 2)) h25))))) ∧ (y26 = 0 → Q (some (.int 1)) h25)))))) ∧ (¬ (x1 < 0) → ∃ r8, eb_R h a0 6 = some r8 ∧ eb_kd r8 = 13 ∧ (((Int32.ofNat (eb_ln r8)) ≤ x1 → ((eb_R h a0 7 = none → ((x5 < (1 : Int32) → Q (some (.int 2)) h) ∧ (¬ (x5 < (1 : Int32)) → ((x3 < (eb_I h a0 2) → ((eb_R h a0 8 = none → Q (some (.int 3)) h) ∧ (∀ r43, eb_R h a0 8 = some r43 → (eb_kd r43 = 2) ∧ eb_Ct d 25 [.ref r43, .int 0, .int 0, .int x3, .int x4, .int x2, .int x5] h (fun r h45 => ∃ y46, r = some (.int y46) ∧ eb_KO h45 ∧ ((¬ y46 = 0 → Q (some (.int 3)) h45) ∧ (y46 = 0 → Q (some (.int 2)) h45)))))) ∧ (¬ (x3 < (eb_I h a0 2)) → Q (some (.int 2)) h))))) ∧ (∀ r39, eb_R h a0 7 = some r39 → (eb_kd r39 = 2) ∧ eb_Ct d 25 [.ref r39, .int 0, .int 0, .int x3, .int x4, .int x2, .int x5] h (fun r h50 => ∃ y51, r = some (.int y51) ∧ eb_KO h50 ∧ ((¬ y51 = 0 → ((x5 < (1 : Int32) → Q (some (.int 2)) h50) ∧ (¬ (x5 < (1 : Int32)) → ((x3 < (eb_I h50 a0 2) → ((eb_R h50 a0 8 = none → Q (some (.int 3)) h50) ∧ (∀ r57, eb_R h50 a0 8 = some r57 → (eb_kd r57 = 2) ∧ eb_Ct d 25 [.ref r57, .int 0, .int 0, .int x3, .int x4, .int x2, .int x5] h50 (fun r h59 => ∃ y60, r = some (.int y60) ∧ eb_KO h59 ∧ ((¬ y60 = 0 → Q (some (.int 3)) h59) ∧ (y60 = 0 → Q (some (.int 2)) h59)))))) ∧ (¬ (x3 < (eb_I h50 a0 2)) → Q (some (.int 2)) h50))))) ∧ (y51 = 0 → Q (some (.int 1)) h50)))))) ∧ (¬ ((Int32.ofNat (eb_ln r8)) ≤ x1) → (vp_in x1 (eb_ln r8)) ∧ ((eb_R h a0 7 = none → ((x5 < (1 : Int32) → Q (some (.int 2)) h) ∧ (¬ (x5 < (1 : Int32)) → ((x3 < (eb_I h a0 2) → ((eb_R h a0 8 = none → Q (some (.int 3)) h) ∧ (∀ r68, eb_R h a0 8 = some r68 → (eb_kd r68 = 2) ∧ eb_Ct d 25 [.ref r68, .int 0, .int (eb_I h r8 x1.toNatClampNeg), .int x3, .int x4, .int x2, .int x5] h (fun r h70 => ∃ y71, r = some (.int y71) ∧ eb_KO h70 ∧ ((¬ y71 = 0 → Q (some (.int 3)) h70) ∧ (y71 = 0 → Q (some (.int 2)) h70)))))) ∧ (¬ (x3 < (eb_I h a0 2)) → Q (some (.int 2)) h))))) ∧ (∀ r64, eb_R h a0 7 = some r64 → (eb_kd r64 = 2) ∧ eb_Ct d 25 [.ref r64, .int 0, .int (eb_I h r8 x1.toNatClampNeg), .int x3, .int x4, .int x2, .int x5] h (fun r h75 => ∃ y76, r = some (.int y76) ∧ eb_KO h75 ∧ ((¬ y76 = 0 → ((x5 < (1 : Int32) → Q (some (.int 2)) h75) ∧ (¬ (x5 < (1 : Int32)) → ((x3 < (eb_I h75 a0 2) → ((eb_R h75 a0 8 = none → Q (some (.int 3)) h75) ∧ (∀ r82, eb_R h75 a0 8 = some r82 → (eb_kd r82 = 2) ∧ eb_Ct d 25 [.ref r82, .int 0, .int (eb_I h r8 x1.toNatClampNeg), .int x3, .int x4, .int x2, .int x5] h75 (fun r h84 => ∃ y85, r = some (.int y85) ∧ eb_KO h84 ∧ ((¬ y85 = 0 → Q (some (.int 3)) h84) ∧ (y85 = 0 → Q (some (.int 2)) h84)))))) ∧ (¬ (x3 < (eb_I h75 a0 2)) → Q (some (.int 2)) h75))))) ∧ (y76 = 0 → Q (some (.int 1)) h75)))))))))) ∧ (¬ (x2 < 0) → ∃ r2, eb_R h a0 6 = some r2 ∧ eb_kd r2 = 13 ∧ (((Int32.ofNat (eb_ln r2)) ≤ x2 → ((x1 < 0 → ((eb_R h a0 7 = none → ((x5 < (1 : Int32) → Q (some (.int 2)) h) ∧ (¬ (x5 < (1 : Int32)) → ((x3 < (eb_I h a0 2) → ((eb_R h a0 8 = none → Q (some (.int 3)) h) ∧ (∀ r96, eb_R h a0 8 = some r96 → (eb_kd r96 = 2) ∧ eb_Ct d 25 [.ref r96, .int 0, .int 0, .int x3, .int x4, .int x2, .int x5] h (fun r h98 => ∃ y99, r = some (.int y99) ∧ eb_KO h98 ∧ ((¬ y99 = 0 → Q (some (.int 3)) h98) ∧ (y99 = 0 → Q (some (.int 2)) h98)))))) ∧ (¬ (x3 < (eb_I h a0 2)) → Q (some (.int 2)) h))))) ∧ (∀ r92, eb_R h a0 7 = some r92 → (eb_kd r92 = 2) ∧ eb_Ct d 25 [.ref r92, .int 0, .int 0, .int x3, .int x4, .int x2, .int x5] h (fun r h103 => ∃ y104, r = some (.int y104) ∧ eb_KO h103 ∧ ((¬ y104 = 0 → ((x5 < (1 : Int32) → Q (some (.int 2)) h103) ∧ (¬ (x5 < (1 : Int32)) → ((x3 < (eb_I h103 a0 2) → ((eb_R h103 a0 8 = none → Q (some (.int 3)) h103) ∧ (∀ r110, eb_R h103 a0 8 = some r110 → (eb_kd r110 = 2) ∧ eb_Ct d 25 [.ref r110, .int 0, .int 0, .int x3, .int x4, .int x2, .int x5] h103 (fun r h112 => ∃ y113, r = some (.int y113) ∧ eb_KO h112 ∧ ((¬ y113 = 0 → Q (some (.int 3)) h112) ∧ (y113 = 0 → Q (some (.int 2)) h112)))))) ∧ (¬ (x3 < (eb_I h103 a0 2)) → Q (some (.int 2)) h103))))) ∧ (y104 = 0 → Q (some (.int 1)) h103)))))) ∧ (¬ (x1 < 0) → (((Int32.ofNat (eb_ln r2)) ≤ x1 → ((eb_R h a0 7 = none → ((x5 < (1 : Int32) → Q (some (.int 2)) h) ∧ (¬ (x5 < (1 : Int32)) → ((x3 < (eb_I h a0 2) → ((eb_R h a0 8 = none → Q (some (.int 3)) h) ∧ (∀ r121, eb_R h a0 8 = some r121 → (eb_kd r121 = 2) ∧ eb_Ct d 25 [.ref r121, .int 0, .int 0, .int x3, .int x4, .int x2, .int x5] h (fun r h123 => ∃ y124, r = some (.int y124) ∧ eb_KO h123 ∧ ((¬ y124 = 0 → Q (some (.int 3)) h123) ∧ (y124 = 0 → Q (some (.int 2)) h123)))))) ∧ (¬ (x3 < (eb_I h a0 2)) → Q (some (.int 2)) h))))) ∧ (∀ r117, eb_R h a0 7 = some r117 → (eb_kd r117 = 2) ∧ eb_Ct d 25 [.ref r117, .int 0, .int 0, .int x3, .int x4, .int x2, .int x5] h (fun r h128 => ∃ y129, r = some (.int y129) ∧ eb_KO h128 ∧ ((¬ y129 = 0 → ((x5 < (1 : Int32) → Q (some (.int 2)) h128) ∧ (¬ (x5 < (1 : Int32)) → ((x3 < (eb_I h128 a0 2) → ((eb_R h128 a0 8 = none → Q (some (.int 3)) h128) ∧ (∀ r135, eb_R h128 a0 8 = some r135 → (eb_kd r135 = 2) ∧ eb_Ct d 25 [.ref r135, .int 0, .int 0, .int x3, .int x4, .int x2, .int x5] h128 (fun r h137 => ∃ y138, r = some (.int y138) ∧ eb_KO h137 ∧ ((¬ y138 = 0 → Q (some (.int 3)) h137) ∧ (y138 = 0 → Q (some (.int 2)) h137)))))) ∧ (¬ (x3 < (eb_I h128 a0 2)) → Q (some (.int 2)) h128))))) ∧ (y129 = 0 → Q (some (.int 1)) h128)))))) ∧ (¬ ((Int32.ofNat (eb_ln r2)) ≤ x1) → (vp_in x1 (eb_ln r2)) ∧ ((eb_R h a0 7 = none → ((x5 < (1 : Int32) → Q (some (.int 2)) h) ∧ (¬ (x5 < (1 : Int32)) → ((x3 < (eb_I h a0 2) → ((eb_R h a0 8 = none → Q (some (.int 3)) h) ∧ (∀ r146, eb_R h a0 8 = some r146 → (eb_kd r146 = 2) ∧ eb_Ct d 25 [.ref r146, .int 0, .int (eb_I h r2 x1.toNatClampNeg), .int x3, .int x4, .int x2, .int x5] h (fun r h148 => ∃ y149, r = some (.int y149) ∧ eb_KO h148 ∧ ((¬ y149 = 0 → Q (some (.int 3)) h148) ∧ (y149 = 0 → Q (some (.int 2)) h148)))))) ∧ (¬ (x3 < (eb_I h a0 2)) → Q (some (.int 2)) h))))) ∧ (∀ r142, eb_R h a0 7 = some r142 → (eb_kd r142 = 2) ∧ eb_Ct d 25 [.ref r142, .int 0, .int (eb_I h r2 x1.toNatClampNeg), .int x3, .int x4, .int x2, .int x5] h (fun r h153 => ∃ y154, r = some (.int y154) ∧ eb_KO h153 ∧ ((¬ y154 = 0 → ((x5 < (1 : Int32) → Q (some (.int 2)) h153) ∧ (¬ (x5 < (1 : Int32)) → ((x3 < (eb_I h153 a0 2) → ((eb_R h153 a0 8 = none → Q (some (.int 3)) h153) ∧ (∀ r160, eb_R h153 a0 8 = some r160 → (eb_kd r160 = 2) ∧ eb_Ct d 25 [.ref r160, .int 0, .int (eb_I h r2 x1.toNatClampNeg), .int x3, .int x4, .int x2, .int x5] h153 (fun r h162 => ∃ y163, r = some (.int y163) ∧ eb_KO h162 ∧ ((¬ y163 = 0 → Q (some (.int 3)) h162) ∧ (y163 = 0 → Q (some (.int 2)) h162)))))) ∧ (¬ (x3 < (eb_I h153 a0 2)) → Q (some (.int 2)) h153))))) ∧ (y154 = 0 → Q (some (.int 1)) h153)))))))))) ∧ (¬ ((Int32.ofNat (eb_ln r2)) ≤ x2) → (vp_in x2 (eb_ln r2)) ∧ ((x1 < 0 → ((eb_R h a0 7 = none → ((x5 < (1 : Int32) → Q (some (.int 2)) h) ∧ (¬ (x5 < (1 : Int32)) → ((x3 < (eb_I h a0 2) → ((eb_R h a0 8 = none → Q (some (.int 3)) h) ∧ (∀ r174, eb_R h a0 8 = some r174 → (eb_kd r174 = 2) ∧ eb_Ct d 25 [.ref r174, .int (eb_I h r2 x2.toNatClampNeg), .int 0, .int x3, .int x4, .int x2, .int x5] h (fun r h176 => ∃ y177, r = some (.int y177) ∧ eb_KO h176 ∧ ((¬ y177 = 0 → Q (some (.int 3)) h176) ∧ (y177 = 0 → Q (some (.int 2)) h176)))))) ∧ (¬ (x3 < (eb_I h a0 2)) → Q (some (.int 2)) h))))) ∧ (∀ r170, eb_R h a0 7 = some r170 → (eb_kd r170 = 2) ∧ eb_Ct d 25 [.ref r170, .int (eb_I h r2 x2.toNatClampNeg), .int 0, .int x3, .int x4, .int x2, .int x5] h (fun r h181 => ∃ y182, r = some (.int y182) ∧ eb_KO h181 ∧ ((¬ y182 = 0 → ((x5 < (1 : Int32) → Q (some (.int 2)) h181) ∧ (¬ (x5 < (1 : Int32)) → ((x3 < (eb_I h181 a0 2) → ((eb_R h181 a0 8 = none → Q (some (.int 3)) h181) ∧ (∀ r188, eb_R h181 a0 8 = some r188 → (eb_kd r188 = 2) ∧ eb_Ct d 25 [.ref r188, .int (eb_I h r2 x2.toNatClampNeg), .int 0, .int x3, .int x4, .int x2, .int x5] h181 (fun r h190 => ∃ y191, r = some (.int y191) ∧ eb_KO h190 ∧ ((¬ y191 = 0 → Q (some (.int 3)) h190) ∧ (y191 = 0 → Q (some (.int 2)) h190)))))) ∧ (¬ (x3 < (eb_I h181 a0 2)) → Q (some (.int 2)) h181))))) ∧ (y182 = 0 → Q (some (.int 1)) h181)))))) ∧ (¬ (x1 < 0) → (((Int32.ofNat (eb_ln r2)) ≤ x1 → ((eb_R h a0 7 = none → ((x5 < (1 : Int32) → Q (some (.int 2)) h) ∧ (¬ (x5 < (1 : Int32)) → ((x3 < (eb_I h a0 2) → ((eb_R h a0 8 = none → Q (some (.int 3)) h) ∧ (∀ r199, eb_R h a0 8 = some r199 → (eb_kd r199 = 2) ∧ eb_Ct d 25 [.ref r199, .int (eb_I h r2 x2.toNatClampNeg), .int 0, .int x3, .int x4, .int x2, .int x5] h (fun r h201 => ∃ y202, r = some (.int y202) ∧ eb_KO h201 ∧ ((¬ y202 = 0 → Q (some (.int 3)) h201) ∧ (y202 = 0 → Q (some (.int 2)) h201)))))) ∧ (¬ (x3 < (eb_I h a0 2)) → Q (some (.int 2)) h))))) ∧ (∀ r195, eb_R h a0 7 = some r195 → (eb_kd r195 = 2) ∧ eb_Ct d 25 [.ref r195, .int (eb_I h r2 x2.toNatClampNeg), .int 0, .int x3, .int x4, .int x2, .int x5] h (fun r h206 => ∃ y207, r = some (.int y207) ∧ eb_KO h206 ∧ ((¬ y207 = 0 → ((x5 < (1 : Int32) → Q (some (.int 2)) h206) ∧ (¬ (x5 < (1 : Int32)) → ((x3 < (eb_I h206 a0 2) → ((eb_R h206 a0 8 = none → Q (some (.int 3)) h206) ∧ (∀ r213, eb_R h206 a0 8 = some r213 → (eb_kd r213 = 2) ∧ eb_Ct d 25 [.ref r213, .int (eb_I h r2 x2.toNatClampNeg), .int 0, .int x3, .int x4, .int x2, .int x5] h206 (fun r h215 => ∃ y216, r = some (.int y216) ∧ eb_KO h215 ∧ ((¬ y216 = 0 → Q (some (.int 3)) h215) ∧ (y216 = 0 → Q (some (.int 2)) h215)))))) ∧ (¬ (x3 < (eb_I h206 a0 2)) → Q (some (.int 2)) h206))))) ∧ (y207 = 0 → Q (some (.int 1)) h206)))))) ∧ (¬ ((Int32.ofNat (eb_ln r2)) ≤ x1) → (vp_in x1 (eb_ln r2)) ∧ ((eb_R h a0 7 = none → ((x5 < (1 : Int32) → Q (some (.int 2)) h) ∧ (¬ (x5 < (1 : Int32)) → ((x3 < (eb_I h a0 2) → ((eb_R h a0 8 = none → Q (some (.int 3)) h) ∧ (∀ r224, eb_R h a0 8 = some r224 → (eb_kd r224 = 2) ∧ eb_Ct d 25 [.ref r224, .int (eb_I h r2 x2.toNatClampNeg), .int (eb_I h r2 x1.toNatClampNeg), .int x3, .int x4, .int x2, .int x5] h (fun r h226 => ∃ y227, r = some (.int y227) ∧ eb_KO h226 ∧ ((¬ y227 = 0 → Q (some (.int 3)) h226) ∧ (y227 = 0 → Q (some (.int 2)) h226)))))) ∧ (¬ (x3 < (eb_I h a0 2)) → Q (some (.int 2)) h))))) ∧ (∀ r220, eb_R h a0 7 = some r220 → (eb_kd r220 = 2) ∧ eb_Ct d 25 [.ref r220, .int (eb_I h r2 x2.toNatClampNeg), .int (eb_I h r2 x1.toNatClampNeg), .int x3, .int x4, .int x2, .int x5] h (fun r h231 => ∃ y232, r = some (.int y232) ∧ eb_KO h231 ∧ ((¬ y232 = 0 → ((x5 < (1 : Int32) → Q (some (.int 2)) h231) ∧ (¬ (x5 < (1 : Int32)) → ((x3 < (eb_I h231 a0 2) → ((eb_R h231 a0 8 = none → Q (some (.int 3)) h231) ∧ (∀ r238, eb_R h231 a0 8 = some r238 → (eb_kd r238 = 2) ∧ eb_Ct d 25 [.ref r238, .int (eb_I h r2 x2.toNatClampNeg), .int (eb_I h r2 x1.toNatClampNeg), .int x3, .int x4, .int x2, .int x5] h231 (fun r h240 => ∃ y241, r = some (.int y241) ∧ eb_KO h240 ∧ ((¬ y241 = 0 → Q (some (.int 3)) h240) ∧ (y241 = 0 → Q (some (.int 2)) h240)))))) ∧ (¬ (x3 < (eb_I h231 a0 2)) → Q (some (.int 2)) h231))))) ∧ (y232 = 0 → Q (some (.int 1)) h231)))))))))))))) : eb_Sn (d + 1) m_X9_verdict h0 0 [(0, .ref a0), (1, .int x1), (2, .int x2), (3, .int x3), (4, .int x4), (5, .int x5)] [] h Q := by
  refine eb_aload_n (pc := 0) (n := 0) (i := 0) rfl rfl rfl ?_
  refine eb_iload_n (pc := 1) (n := 2) (i := 2) rfl rfl rfl ?_
  refine eb_ctV (pc := 2) (As := [.int x2]) (rest := []) rfl (by decide) rfl ka0 (by decide) rfl (Nat.le_of_ble_eq_true rfl) ?_
  refine eb_bodyQ (by decide) ok_X9_heightOf (Nat.le_of_ble_eq_true rfl) ?_
  change eb_Sn _ m_X9_heightOf _ 0 [(0, .ref a0), (1, .int x2)] [] _ _
  refine eb_iload_n (pc := 0) (n := 1) (i := 1) rfl rfl rfl ?_
  refine eb_if_lt (pc := 1) (tgt := 22) rfl (by decide) (fun c1 => ?_) (fun c1 => ?_)
  · replace w := w.1 c1
    refine eb_iconst (pc := 22) (n := 0) (v := 0) rfl rfl ?_
    refine eb_ireturn (pc := 23) rfl rfl rfl ?_
    change eb_Sn _ _ _ 5 _ [.int 0] _ _
    refine eb_istore (pc := 5) (i := 6) (ls2 := [(6, .int 0), (0, .ref a0), (1, .int x1), (2, .int x2), (3, .int x3), (4, .int x4), (5, .int x5)]) (Nat.le_of_ble_eq_true rfl) rfl rfl ?_
    refine eb_aload_n (pc := 7) (n := 0) (i := 0) rfl rfl rfl ?_
    refine eb_iload_n (pc := 8) (n := 1) (i := 1) rfl rfl rfl ?_
    refine eb_ctV (pc := 9) (As := [.int x1]) (rest := []) rfl (by decide) rfl ka0 (by decide) rfl (Nat.le_of_ble_eq_true rfl) ?_
    refine eb_bodyQ (by decide) ok_X9_heightOf (Nat.le_of_ble_eq_true rfl) ?_
    change eb_Sn _ m_X9_heightOf _ 0 [(0, .ref a0), (1, .int x1)] [] _ _
    refine eb_iload_n (pc := 0) (n := 1) (i := 1) rfl rfl rfl ?_
    refine eb_if_lt (pc := 1) (tgt := 22) rfl (by decide) (fun c7 => ?_) (fun c7 => ?_)
    · replace w := w.1 c7
      refine eb_iconst (pc := 22) (n := 0) (v := 0) rfl rfl ?_
      refine eb_ireturn (pc := 23) rfl rfl rfl ?_
      change eb_Sn _ _ _ 12 _ [.int 0] _ _
      refine eb_istore (pc := 12) (i := 7) (ls2 := [(7, .int 0), (6, .int 0), (0, .ref a0), (1, .int x1), (2, .int x2), (3, .int x3), (4, .int x4), (5, .int x5)]) (Nat.le_of_ble_eq_true rfl) rfl rfl ?_
      refine eb_aload_n (pc := 14) (n := 0) (i := 0) rfl rfl rfl ?_
      rcases q13 : eb_R h a0 7 with _ | r14
      · replace w := w.1 q13
        refine eb_getN (pc := 15) rfl ka0 (by decide) (by decide) rfl q13 ?_
        refine eb_ifnull_n (pc := 18) (tgt := 43) (by decide) rfl ?_
        refine eb_iload (pc := 43) (i := 5) rfl rfl ?_
        refine eb_iconst (pc := 45) (n := 1) (v := 1) rfl rfl ?_
        refine eb_icmp_lt (pc := 46) (tgt := 57) rfl (by decide) (fun c15 => ?_) (fun c15 => ?_)
        · replace w := w.1 c15
          refine eb_iconst (pc := 57) (n := 2) (v := 2) rfl rfl ?_
          exact eb_ireturn (pc := 58) rfl rfl rfl w
        · replace w := w.2 c15
          refine eb_iload_n (pc := 49) (n := 3) (i := 3) rfl rfl rfl ?_
          refine eb_aload_n (pc := 50) (n := 0) (i := 0) rfl rfl rfl ?_
          refine eb_getI (pc := 51) rfl ka0 (by decide) (by decide) rfl ?_
          refine eb_icmp_lt (pc := 54) (tgt := 59) rfl (by decide) (fun c16 => ?_) (fun c16 => ?_)
          · replace w := w.1 c16
            refine eb_aload_n (pc := 59) (n := 0) (i := 0) rfl rfl rfl ?_
            rcases q17 : eb_R h a0 8 with _ | r18
            · replace w := w.1 q17
              refine eb_getN (pc := 60) rfl ka0 (by decide) (by decide) rfl q17 ?_
              refine eb_ifnull_n (pc := 63) (tgt := 88) (by decide) rfl ?_
              refine eb_iconst (pc := 88) (n := 3) (v := 3) rfl rfl ?_
              exact eb_ireturn (pc := 89) rfl rfl rfl w
            · replace w := w.2 r18 q17
              refine eb_getR (pc := 60) rfl ka0 (by decide) (by decide) rfl q17 ?_
              refine eb_ifnull_r (pc := 63) rfl ?_
              refine eb_aload_n (pc := 66) (n := 0) (i := 0) rfl rfl rfl ?_
              refine eb_getR (pc := 67) rfl ka0 (by decide) (by decide) rfl q17 ?_
              refine eb_iload (pc := 70) (i := 6) rfl rfl ?_
              refine eb_iload (pc := 72) (i := 7) rfl rfl ?_
              refine eb_iload_n (pc := 74) (n := 3) (i := 3) rfl rfl rfl ?_
              refine eb_iload (pc := 75) (i := 4) rfl rfl ?_
              refine eb_iload_n (pc := 77) (n := 2) (i := 2) rfl rfl rfl ?_
              refine eb_iload (pc := 78) (i := 5) rfl rfl ?_
              obtain ⟨k19, w⟩ := w
              refine eb_ctV (pc := 80) (As := [.int 0, .int 0, .int x3, .int x4, .int x2, .int x5]) (rest := []) rfl (by decide) rfl k19 (by decide) rfl (Nat.le_of_ble_eq_true rfl) ?_
              refine eb_Ct.mono w ?_
              rintro r h20 ⟨y21, rfl, ko22, w⟩
              change eb_Sn _ _ _ 83 _ [.int y21] _ _
              refine eb_if_ne (pc := 83) (tgt := 88) rfl (by decide) (fun c23 => ?_) (fun c23 => ?_)
              · replace w := w.1 c23
                refine eb_iconst (pc := 88) (n := 3) (v := 3) rfl rfl ?_
                exact eb_ireturn (pc := 89) rfl rfl rfl w
              · replace w := w.2 c23
                refine eb_iconst (pc := 86) (n := 2) (v := 2) rfl rfl ?_
                exact eb_ireturn (pc := 87) rfl rfl rfl w
          · replace w := w.2 c16
            refine eb_iconst (pc := 57) (n := 2) (v := 2) rfl rfl ?_
            exact eb_ireturn (pc := 58) rfl rfl rfl w
      · replace w := w.2 r14 q13
        refine eb_getR (pc := 15) rfl ka0 (by decide) (by decide) rfl q13 ?_
        refine eb_ifnull_r (pc := 18) rfl ?_
        refine eb_aload_n (pc := 21) (n := 0) (i := 0) rfl rfl rfl ?_
        refine eb_getR (pc := 22) rfl ka0 (by decide) (by decide) rfl q13 ?_
        refine eb_iload (pc := 25) (i := 6) rfl rfl ?_
        refine eb_iload (pc := 27) (i := 7) rfl rfl ?_
        refine eb_iload_n (pc := 29) (n := 3) (i := 3) rfl rfl rfl ?_
        refine eb_iload (pc := 30) (i := 4) rfl rfl ?_
        refine eb_iload_n (pc := 32) (n := 2) (i := 2) rfl rfl rfl ?_
        refine eb_iload (pc := 33) (i := 5) rfl rfl ?_
        obtain ⟨k24, w⟩ := w
        refine eb_ctV (pc := 35) (As := [.int 0, .int 0, .int x3, .int x4, .int x2, .int x5]) (rest := []) rfl (by decide) rfl k24 (by decide) rfl (Nat.le_of_ble_eq_true rfl) ?_
        refine eb_Ct.mono w ?_
        rintro r h25 ⟨y26, rfl, ko27, w⟩
        change eb_Sn _ _ _ 38 _ [.int y26] _ _
        refine eb_if_ne (pc := 38) (tgt := 43) rfl (by decide) (fun c28 => ?_) (fun c28 => ?_)
        · replace w := w.1 c28
          refine eb_iload (pc := 43) (i := 5) rfl rfl ?_
          refine eb_iconst (pc := 45) (n := 1) (v := 1) rfl rfl ?_
          refine eb_icmp_lt (pc := 46) (tgt := 57) rfl (by decide) (fun c29 => ?_) (fun c29 => ?_)
          · replace w := w.1 c29
            refine eb_iconst (pc := 57) (n := 2) (v := 2) rfl rfl ?_
            exact eb_ireturn (pc := 58) rfl rfl rfl w
          · replace w := w.2 c29
            refine eb_iload_n (pc := 49) (n := 3) (i := 3) rfl rfl rfl ?_
            refine eb_aload_n (pc := 50) (n := 0) (i := 0) rfl rfl rfl ?_
            refine eb_getI (pc := 51) rfl ka0 (by decide) (by decide) rfl ?_
            refine eb_icmp_lt (pc := 54) (tgt := 59) rfl (by decide) (fun c30 => ?_) (fun c30 => ?_)
            · replace w := w.1 c30
              refine eb_aload_n (pc := 59) (n := 0) (i := 0) rfl rfl rfl ?_
              rcases q31 : eb_R h25 a0 8 with _ | r32
              · replace w := w.1 q31
                refine eb_getN (pc := 60) rfl ka0 (by decide) (by decide) rfl q31 ?_
                refine eb_ifnull_n (pc := 63) (tgt := 88) (by decide) rfl ?_
                refine eb_iconst (pc := 88) (n := 3) (v := 3) rfl rfl ?_
                exact eb_ireturn (pc := 89) rfl rfl rfl w
              · replace w := w.2 r32 q31
                refine eb_getR (pc := 60) rfl ka0 (by decide) (by decide) rfl q31 ?_
                refine eb_ifnull_r (pc := 63) rfl ?_
                refine eb_aload_n (pc := 66) (n := 0) (i := 0) rfl rfl rfl ?_
                refine eb_getR (pc := 67) rfl ka0 (by decide) (by decide) rfl q31 ?_
                refine eb_iload (pc := 70) (i := 6) rfl rfl ?_
                refine eb_iload (pc := 72) (i := 7) rfl rfl ?_
                refine eb_iload_n (pc := 74) (n := 3) (i := 3) rfl rfl rfl ?_
                refine eb_iload (pc := 75) (i := 4) rfl rfl ?_
                refine eb_iload_n (pc := 77) (n := 2) (i := 2) rfl rfl rfl ?_
                refine eb_iload (pc := 78) (i := 5) rfl rfl ?_
                obtain ⟨k33, w⟩ := w
                refine eb_ctV (pc := 80) (As := [.int 0, .int 0, .int x3, .int x4, .int x2, .int x5]) (rest := []) rfl (by decide) rfl k33 (by decide) rfl (Nat.le_of_ble_eq_true rfl) ?_
                refine eb_Ct.mono w ?_
                rintro r h34 ⟨y35, rfl, ko36, w⟩
                change eb_Sn _ _ _ 83 _ [.int y35] _ _
                refine eb_if_ne (pc := 83) (tgt := 88) rfl (by decide) (fun c37 => ?_) (fun c37 => ?_)
                · replace w := w.1 c37
                  refine eb_iconst (pc := 88) (n := 3) (v := 3) rfl rfl ?_
                  exact eb_ireturn (pc := 89) rfl rfl rfl w
                · replace w := w.2 c37
                  refine eb_iconst (pc := 86) (n := 2) (v := 2) rfl rfl ?_
                  exact eb_ireturn (pc := 87) rfl rfl rfl w
            · replace w := w.2 c30
              refine eb_iconst (pc := 57) (n := 2) (v := 2) rfl rfl ?_
              exact eb_ireturn (pc := 58) rfl rfl rfl w
        · replace w := w.2 c28
          refine eb_iconst (pc := 41) (n := 1) (v := 1) rfl rfl ?_
          exact eb_ireturn (pc := 42) rfl rfl rfl w
    · replace w := w.2 c7
      refine eb_iload_n (pc := 4) (n := 1) (i := 1) rfl rfl rfl ?_
      refine eb_aload_n (pc := 5) (n := 0) (i := 0) rfl rfl rfl ?_
      obtain ⟨r8, q9, k10, w⟩ := w
      refine eb_getR (pc := 6) rfl ka0 (by decide) (by decide) rfl q9 ?_
      refine eb_alen (pc := 9) rfl (by rw [k10]; decide) (by rw [k10]; decide) rfl ?_
      refine eb_icmp_ge (pc := 10) (tgt := 22) rfl (by decide) (fun c11 => ?_) (fun c11 => ?_)
      · replace w := w.1 c11
        refine eb_iconst (pc := 22) (n := 0) (v := 0) rfl rfl ?_
        refine eb_ireturn (pc := 23) rfl rfl rfl ?_
        change eb_Sn _ _ _ 12 _ [.int 0] _ _
        refine eb_istore (pc := 12) (i := 7) (ls2 := [(7, .int 0), (6, .int 0), (0, .ref a0), (1, .int x1), (2, .int x2), (3, .int x3), (4, .int x4), (5, .int x5)]) (Nat.le_of_ble_eq_true rfl) rfl rfl ?_
        refine eb_aload_n (pc := 14) (n := 0) (i := 0) rfl rfl rfl ?_
        rcases q38 : eb_R h a0 7 with _ | r39
        · replace w := w.1 q38
          refine eb_getN (pc := 15) rfl ka0 (by decide) (by decide) rfl q38 ?_
          refine eb_ifnull_n (pc := 18) (tgt := 43) (by decide) rfl ?_
          refine eb_iload (pc := 43) (i := 5) rfl rfl ?_
          refine eb_iconst (pc := 45) (n := 1) (v := 1) rfl rfl ?_
          refine eb_icmp_lt (pc := 46) (tgt := 57) rfl (by decide) (fun c40 => ?_) (fun c40 => ?_)
          · replace w := w.1 c40
            refine eb_iconst (pc := 57) (n := 2) (v := 2) rfl rfl ?_
            exact eb_ireturn (pc := 58) rfl rfl rfl w
          · replace w := w.2 c40
            refine eb_iload_n (pc := 49) (n := 3) (i := 3) rfl rfl rfl ?_
            refine eb_aload_n (pc := 50) (n := 0) (i := 0) rfl rfl rfl ?_
            refine eb_getI (pc := 51) rfl ka0 (by decide) (by decide) rfl ?_
            refine eb_icmp_lt (pc := 54) (tgt := 59) rfl (by decide) (fun c41 => ?_) (fun c41 => ?_)
            · replace w := w.1 c41
              refine eb_aload_n (pc := 59) (n := 0) (i := 0) rfl rfl rfl ?_
              rcases q42 : eb_R h a0 8 with _ | r43
              · replace w := w.1 q42
                refine eb_getN (pc := 60) rfl ka0 (by decide) (by decide) rfl q42 ?_
                refine eb_ifnull_n (pc := 63) (tgt := 88) (by decide) rfl ?_
                refine eb_iconst (pc := 88) (n := 3) (v := 3) rfl rfl ?_
                exact eb_ireturn (pc := 89) rfl rfl rfl w
              · replace w := w.2 r43 q42
                refine eb_getR (pc := 60) rfl ka0 (by decide) (by decide) rfl q42 ?_
                refine eb_ifnull_r (pc := 63) rfl ?_
                refine eb_aload_n (pc := 66) (n := 0) (i := 0) rfl rfl rfl ?_
                refine eb_getR (pc := 67) rfl ka0 (by decide) (by decide) rfl q42 ?_
                refine eb_iload (pc := 70) (i := 6) rfl rfl ?_
                refine eb_iload (pc := 72) (i := 7) rfl rfl ?_
                refine eb_iload_n (pc := 74) (n := 3) (i := 3) rfl rfl rfl ?_
                refine eb_iload (pc := 75) (i := 4) rfl rfl ?_
                refine eb_iload_n (pc := 77) (n := 2) (i := 2) rfl rfl rfl ?_
                refine eb_iload (pc := 78) (i := 5) rfl rfl ?_
                obtain ⟨k44, w⟩ := w
                refine eb_ctV (pc := 80) (As := [.int 0, .int 0, .int x3, .int x4, .int x2, .int x5]) (rest := []) rfl (by decide) rfl k44 (by decide) rfl (Nat.le_of_ble_eq_true rfl) ?_
                refine eb_Ct.mono w ?_
                rintro r h45 ⟨y46, rfl, ko47, w⟩
                change eb_Sn _ _ _ 83 _ [.int y46] _ _
                refine eb_if_ne (pc := 83) (tgt := 88) rfl (by decide) (fun c48 => ?_) (fun c48 => ?_)
                · replace w := w.1 c48
                  refine eb_iconst (pc := 88) (n := 3) (v := 3) rfl rfl ?_
                  exact eb_ireturn (pc := 89) rfl rfl rfl w
                · replace w := w.2 c48
                  refine eb_iconst (pc := 86) (n := 2) (v := 2) rfl rfl ?_
                  exact eb_ireturn (pc := 87) rfl rfl rfl w
            · replace w := w.2 c41
              refine eb_iconst (pc := 57) (n := 2) (v := 2) rfl rfl ?_
              exact eb_ireturn (pc := 58) rfl rfl rfl w
        · replace w := w.2 r39 q38
          refine eb_getR (pc := 15) rfl ka0 (by decide) (by decide) rfl q38 ?_
          refine eb_ifnull_r (pc := 18) rfl ?_
          refine eb_aload_n (pc := 21) (n := 0) (i := 0) rfl rfl rfl ?_
          refine eb_getR (pc := 22) rfl ka0 (by decide) (by decide) rfl q38 ?_
          refine eb_iload (pc := 25) (i := 6) rfl rfl ?_
          refine eb_iload (pc := 27) (i := 7) rfl rfl ?_
          refine eb_iload_n (pc := 29) (n := 3) (i := 3) rfl rfl rfl ?_
          refine eb_iload (pc := 30) (i := 4) rfl rfl ?_
          refine eb_iload_n (pc := 32) (n := 2) (i := 2) rfl rfl rfl ?_
          refine eb_iload (pc := 33) (i := 5) rfl rfl ?_
          obtain ⟨k49, w⟩ := w
          refine eb_ctV (pc := 35) (As := [.int 0, .int 0, .int x3, .int x4, .int x2, .int x5]) (rest := []) rfl (by decide) rfl k49 (by decide) rfl (Nat.le_of_ble_eq_true rfl) ?_
          refine eb_Ct.mono w ?_
          rintro r h50 ⟨y51, rfl, ko52, w⟩
          change eb_Sn _ _ _ 38 _ [.int y51] _ _
          refine eb_if_ne (pc := 38) (tgt := 43) rfl (by decide) (fun c53 => ?_) (fun c53 => ?_)
          · replace w := w.1 c53
            refine eb_iload (pc := 43) (i := 5) rfl rfl ?_
            refine eb_iconst (pc := 45) (n := 1) (v := 1) rfl rfl ?_
            refine eb_icmp_lt (pc := 46) (tgt := 57) rfl (by decide) (fun c54 => ?_) (fun c54 => ?_)
            · replace w := w.1 c54
              refine eb_iconst (pc := 57) (n := 2) (v := 2) rfl rfl ?_
              exact eb_ireturn (pc := 58) rfl rfl rfl w
            · replace w := w.2 c54
              refine eb_iload_n (pc := 49) (n := 3) (i := 3) rfl rfl rfl ?_
              refine eb_aload_n (pc := 50) (n := 0) (i := 0) rfl rfl rfl ?_
              refine eb_getI (pc := 51) rfl ka0 (by decide) (by decide) rfl ?_
              refine eb_icmp_lt (pc := 54) (tgt := 59) rfl (by decide) (fun c55 => ?_) (fun c55 => ?_)
              · replace w := w.1 c55
                refine eb_aload_n (pc := 59) (n := 0) (i := 0) rfl rfl rfl ?_
                rcases q56 : eb_R h50 a0 8 with _ | r57
                · replace w := w.1 q56
                  refine eb_getN (pc := 60) rfl ka0 (by decide) (by decide) rfl q56 ?_
                  refine eb_ifnull_n (pc := 63) (tgt := 88) (by decide) rfl ?_
                  refine eb_iconst (pc := 88) (n := 3) (v := 3) rfl rfl ?_
                  exact eb_ireturn (pc := 89) rfl rfl rfl w
                · replace w := w.2 r57 q56
                  refine eb_getR (pc := 60) rfl ka0 (by decide) (by decide) rfl q56 ?_
                  refine eb_ifnull_r (pc := 63) rfl ?_
                  refine eb_aload_n (pc := 66) (n := 0) (i := 0) rfl rfl rfl ?_
                  refine eb_getR (pc := 67) rfl ka0 (by decide) (by decide) rfl q56 ?_
                  refine eb_iload (pc := 70) (i := 6) rfl rfl ?_
                  refine eb_iload (pc := 72) (i := 7) rfl rfl ?_
                  refine eb_iload_n (pc := 74) (n := 3) (i := 3) rfl rfl rfl ?_
                  refine eb_iload (pc := 75) (i := 4) rfl rfl ?_
                  refine eb_iload_n (pc := 77) (n := 2) (i := 2) rfl rfl rfl ?_
                  refine eb_iload (pc := 78) (i := 5) rfl rfl ?_
                  obtain ⟨k58, w⟩ := w
                  refine eb_ctV (pc := 80) (As := [.int 0, .int 0, .int x3, .int x4, .int x2, .int x5]) (rest := []) rfl (by decide) rfl k58 (by decide) rfl (Nat.le_of_ble_eq_true rfl) ?_
                  refine eb_Ct.mono w ?_
                  rintro r h59 ⟨y60, rfl, ko61, w⟩
                  change eb_Sn _ _ _ 83 _ [.int y60] _ _
                  refine eb_if_ne (pc := 83) (tgt := 88) rfl (by decide) (fun c62 => ?_) (fun c62 => ?_)
                  · replace w := w.1 c62
                    refine eb_iconst (pc := 88) (n := 3) (v := 3) rfl rfl ?_
                    exact eb_ireturn (pc := 89) rfl rfl rfl w
                  · replace w := w.2 c62
                    refine eb_iconst (pc := 86) (n := 2) (v := 2) rfl rfl ?_
                    exact eb_ireturn (pc := 87) rfl rfl rfl w
              · replace w := w.2 c55
                refine eb_iconst (pc := 57) (n := 2) (v := 2) rfl rfl ?_
                exact eb_ireturn (pc := 58) rfl rfl rfl w
          · replace w := w.2 c53
            refine eb_iconst (pc := 41) (n := 1) (v := 1) rfl rfl ?_
            exact eb_ireturn (pc := 42) rfl rfl rfl w
      · replace w := w.2 c11
        refine eb_aload_n (pc := 13) (n := 0) (i := 0) rfl rfl rfl ?_
        refine eb_getR (pc := 14) rfl ka0 (by decide) (by decide) rfl q9 ?_
        refine eb_iload_n (pc := 17) (n := 1) (i := 1) rfl rfl rfl ?_
        obtain ⟨c12, w⟩ := w
        refine eb_iaload (pc := 18) rfl k10 (by decide) c12 ?_
        refine eb_goto (pc := 19) (tgt := 23) rfl (by decide) ?_
        refine eb_ireturn (pc := 23) rfl rfl rfl ?_
        change eb_Sn _ _ _ 12 _ [.int (eb_I h r8 x1.toNatClampNeg)] _ _
        refine eb_istore (pc := 12) (i := 7) (ls2 := [(7, .int (eb_I h r8 x1.toNatClampNeg)), (6, .int 0), (0, .ref a0), (1, .int x1), (2, .int x2), (3, .int x3), (4, .int x4), (5, .int x5)]) (Nat.le_of_ble_eq_true rfl) rfl rfl ?_
        refine eb_aload_n (pc := 14) (n := 0) (i := 0) rfl rfl rfl ?_
        rcases q63 : eb_R h a0 7 with _ | r64
        · replace w := w.1 q63
          refine eb_getN (pc := 15) rfl ka0 (by decide) (by decide) rfl q63 ?_
          refine eb_ifnull_n (pc := 18) (tgt := 43) (by decide) rfl ?_
          refine eb_iload (pc := 43) (i := 5) rfl rfl ?_
          refine eb_iconst (pc := 45) (n := 1) (v := 1) rfl rfl ?_
          refine eb_icmp_lt (pc := 46) (tgt := 57) rfl (by decide) (fun c65 => ?_) (fun c65 => ?_)
          · replace w := w.1 c65
            refine eb_iconst (pc := 57) (n := 2) (v := 2) rfl rfl ?_
            exact eb_ireturn (pc := 58) rfl rfl rfl w
          · replace w := w.2 c65
            refine eb_iload_n (pc := 49) (n := 3) (i := 3) rfl rfl rfl ?_
            refine eb_aload_n (pc := 50) (n := 0) (i := 0) rfl rfl rfl ?_
            refine eb_getI (pc := 51) rfl ka0 (by decide) (by decide) rfl ?_
            refine eb_icmp_lt (pc := 54) (tgt := 59) rfl (by decide) (fun c66 => ?_) (fun c66 => ?_)
            · replace w := w.1 c66
              refine eb_aload_n (pc := 59) (n := 0) (i := 0) rfl rfl rfl ?_
              rcases q67 : eb_R h a0 8 with _ | r68
              · replace w := w.1 q67
                refine eb_getN (pc := 60) rfl ka0 (by decide) (by decide) rfl q67 ?_
                refine eb_ifnull_n (pc := 63) (tgt := 88) (by decide) rfl ?_
                refine eb_iconst (pc := 88) (n := 3) (v := 3) rfl rfl ?_
                exact eb_ireturn (pc := 89) rfl rfl rfl w
              · replace w := w.2 r68 q67
                refine eb_getR (pc := 60) rfl ka0 (by decide) (by decide) rfl q67 ?_
                refine eb_ifnull_r (pc := 63) rfl ?_
                refine eb_aload_n (pc := 66) (n := 0) (i := 0) rfl rfl rfl ?_
                refine eb_getR (pc := 67) rfl ka0 (by decide) (by decide) rfl q67 ?_
                refine eb_iload (pc := 70) (i := 6) rfl rfl ?_
                refine eb_iload (pc := 72) (i := 7) rfl rfl ?_
                refine eb_iload_n (pc := 74) (n := 3) (i := 3) rfl rfl rfl ?_
                refine eb_iload (pc := 75) (i := 4) rfl rfl ?_
                refine eb_iload_n (pc := 77) (n := 2) (i := 2) rfl rfl rfl ?_
                refine eb_iload (pc := 78) (i := 5) rfl rfl ?_
                obtain ⟨k69, w⟩ := w
                refine eb_ctV (pc := 80) (As := [.int 0, .int (eb_I h r8 x1.toNatClampNeg), .int x3, .int x4, .int x2, .int x5]) (rest := []) rfl (by decide) rfl k69 (by decide) rfl (Nat.le_of_ble_eq_true rfl) ?_
                refine eb_Ct.mono w ?_
                rintro r h70 ⟨y71, rfl, ko72, w⟩
                change eb_Sn _ _ _ 83 _ [.int y71] _ _
                refine eb_if_ne (pc := 83) (tgt := 88) rfl (by decide) (fun c73 => ?_) (fun c73 => ?_)
                · replace w := w.1 c73
                  refine eb_iconst (pc := 88) (n := 3) (v := 3) rfl rfl ?_
                  exact eb_ireturn (pc := 89) rfl rfl rfl w
                · replace w := w.2 c73
                  refine eb_iconst (pc := 86) (n := 2) (v := 2) rfl rfl ?_
                  exact eb_ireturn (pc := 87) rfl rfl rfl w
            · replace w := w.2 c66
              refine eb_iconst (pc := 57) (n := 2) (v := 2) rfl rfl ?_
              exact eb_ireturn (pc := 58) rfl rfl rfl w
        · replace w := w.2 r64 q63
          refine eb_getR (pc := 15) rfl ka0 (by decide) (by decide) rfl q63 ?_
          refine eb_ifnull_r (pc := 18) rfl ?_
          refine eb_aload_n (pc := 21) (n := 0) (i := 0) rfl rfl rfl ?_
          refine eb_getR (pc := 22) rfl ka0 (by decide) (by decide) rfl q63 ?_
          refine eb_iload (pc := 25) (i := 6) rfl rfl ?_
          refine eb_iload (pc := 27) (i := 7) rfl rfl ?_
          refine eb_iload_n (pc := 29) (n := 3) (i := 3) rfl rfl rfl ?_
          refine eb_iload (pc := 30) (i := 4) rfl rfl ?_
          refine eb_iload_n (pc := 32) (n := 2) (i := 2) rfl rfl rfl ?_
          refine eb_iload (pc := 33) (i := 5) rfl rfl ?_
          obtain ⟨k74, w⟩ := w
          refine eb_ctV (pc := 35) (As := [.int 0, .int (eb_I h r8 x1.toNatClampNeg), .int x3, .int x4, .int x2, .int x5]) (rest := []) rfl (by decide) rfl k74 (by decide) rfl (Nat.le_of_ble_eq_true rfl) ?_
          refine eb_Ct.mono w ?_
          rintro r h75 ⟨y76, rfl, ko77, w⟩
          change eb_Sn _ _ _ 38 _ [.int y76] _ _
          refine eb_if_ne (pc := 38) (tgt := 43) rfl (by decide) (fun c78 => ?_) (fun c78 => ?_)
          · replace w := w.1 c78
            refine eb_iload (pc := 43) (i := 5) rfl rfl ?_
            refine eb_iconst (pc := 45) (n := 1) (v := 1) rfl rfl ?_
            refine eb_icmp_lt (pc := 46) (tgt := 57) rfl (by decide) (fun c79 => ?_) (fun c79 => ?_)
            · replace w := w.1 c79
              refine eb_iconst (pc := 57) (n := 2) (v := 2) rfl rfl ?_
              exact eb_ireturn (pc := 58) rfl rfl rfl w
            · replace w := w.2 c79
              refine eb_iload_n (pc := 49) (n := 3) (i := 3) rfl rfl rfl ?_
              refine eb_aload_n (pc := 50) (n := 0) (i := 0) rfl rfl rfl ?_
              refine eb_getI (pc := 51) rfl ka0 (by decide) (by decide) rfl ?_
              refine eb_icmp_lt (pc := 54) (tgt := 59) rfl (by decide) (fun c80 => ?_) (fun c80 => ?_)
              · replace w := w.1 c80
                refine eb_aload_n (pc := 59) (n := 0) (i := 0) rfl rfl rfl ?_
                rcases q81 : eb_R h75 a0 8 with _ | r82
                · replace w := w.1 q81
                  refine eb_getN (pc := 60) rfl ka0 (by decide) (by decide) rfl q81 ?_
                  refine eb_ifnull_n (pc := 63) (tgt := 88) (by decide) rfl ?_
                  refine eb_iconst (pc := 88) (n := 3) (v := 3) rfl rfl ?_
                  exact eb_ireturn (pc := 89) rfl rfl rfl w
                · replace w := w.2 r82 q81
                  refine eb_getR (pc := 60) rfl ka0 (by decide) (by decide) rfl q81 ?_
                  refine eb_ifnull_r (pc := 63) rfl ?_
                  refine eb_aload_n (pc := 66) (n := 0) (i := 0) rfl rfl rfl ?_
                  refine eb_getR (pc := 67) rfl ka0 (by decide) (by decide) rfl q81 ?_
                  refine eb_iload (pc := 70) (i := 6) rfl rfl ?_
                  refine eb_iload (pc := 72) (i := 7) rfl rfl ?_
                  refine eb_iload_n (pc := 74) (n := 3) (i := 3) rfl rfl rfl ?_
                  refine eb_iload (pc := 75) (i := 4) rfl rfl ?_
                  refine eb_iload_n (pc := 77) (n := 2) (i := 2) rfl rfl rfl ?_
                  refine eb_iload (pc := 78) (i := 5) rfl rfl ?_
                  obtain ⟨k83, w⟩ := w
                  refine eb_ctV (pc := 80) (As := [.int 0, .int (eb_I h r8 x1.toNatClampNeg), .int x3, .int x4, .int x2, .int x5]) (rest := []) rfl (by decide) rfl k83 (by decide) rfl (Nat.le_of_ble_eq_true rfl) ?_
                  refine eb_Ct.mono w ?_
                  rintro r h84 ⟨y85, rfl, ko86, w⟩
                  change eb_Sn _ _ _ 83 _ [.int y85] _ _
                  refine eb_if_ne (pc := 83) (tgt := 88) rfl (by decide) (fun c87 => ?_) (fun c87 => ?_)
                  · replace w := w.1 c87
                    refine eb_iconst (pc := 88) (n := 3) (v := 3) rfl rfl ?_
                    exact eb_ireturn (pc := 89) rfl rfl rfl w
                  · replace w := w.2 c87
                    refine eb_iconst (pc := 86) (n := 2) (v := 2) rfl rfl ?_
                    exact eb_ireturn (pc := 87) rfl rfl rfl w
              · replace w := w.2 c80
                refine eb_iconst (pc := 57) (n := 2) (v := 2) rfl rfl ?_
                exact eb_ireturn (pc := 58) rfl rfl rfl w
          · replace w := w.2 c78
            refine eb_iconst (pc := 41) (n := 1) (v := 1) rfl rfl ?_
            exact eb_ireturn (pc := 42) rfl rfl rfl w
  · replace w := w.2 c1
    refine eb_iload_n (pc := 4) (n := 1) (i := 1) rfl rfl rfl ?_
    refine eb_aload_n (pc := 5) (n := 0) (i := 0) rfl rfl rfl ?_
    obtain ⟨r2, q3, k4, w⟩ := w
    refine eb_getR (pc := 6) rfl ka0 (by decide) (by decide) rfl q3 ?_
    refine eb_alen (pc := 9) rfl (by rw [k4]; decide) (by rw [k4]; decide) rfl ?_
    refine eb_icmp_ge (pc := 10) (tgt := 22) rfl (by decide) (fun c5 => ?_) (fun c5 => ?_)
    · replace w := w.1 c5
      refine eb_iconst (pc := 22) (n := 0) (v := 0) rfl rfl ?_
      refine eb_ireturn (pc := 23) rfl rfl rfl ?_
      change eb_Sn _ _ _ 5 _ [.int 0] _ _
      refine eb_istore (pc := 5) (i := 6) (ls2 := [(6, .int 0), (0, .ref a0), (1, .int x1), (2, .int x2), (3, .int x3), (4, .int x4), (5, .int x5)]) (Nat.le_of_ble_eq_true rfl) rfl rfl ?_
      refine eb_aload_n (pc := 7) (n := 0) (i := 0) rfl rfl rfl ?_
      refine eb_iload_n (pc := 8) (n := 1) (i := 1) rfl rfl rfl ?_
      refine eb_ctV (pc := 9) (As := [.int x1]) (rest := []) rfl (by decide) rfl ka0 (by decide) rfl (Nat.le_of_ble_eq_true rfl) ?_
      refine eb_bodyQ (by decide) ok_X9_heightOf (Nat.le_of_ble_eq_true rfl) ?_
      change eb_Sn _ m_X9_heightOf _ 0 [(0, .ref a0), (1, .int x1)] [] _ _
      refine eb_iload_n (pc := 0) (n := 1) (i := 1) rfl rfl rfl ?_
      refine eb_if_lt (pc := 1) (tgt := 22) rfl (by decide) (fun c88 => ?_) (fun c88 => ?_)
      · replace w := w.1 c88
        refine eb_iconst (pc := 22) (n := 0) (v := 0) rfl rfl ?_
        refine eb_ireturn (pc := 23) rfl rfl rfl ?_
        change eb_Sn _ _ _ 12 _ [.int 0] _ _
        refine eb_istore (pc := 12) (i := 7) (ls2 := [(7, .int 0), (6, .int 0), (0, .ref a0), (1, .int x1), (2, .int x2), (3, .int x3), (4, .int x4), (5, .int x5)]) (Nat.le_of_ble_eq_true rfl) rfl rfl ?_
        refine eb_aload_n (pc := 14) (n := 0) (i := 0) rfl rfl rfl ?_
        rcases q91 : eb_R h a0 7 with _ | r92
        · replace w := w.1 q91
          refine eb_getN (pc := 15) rfl ka0 (by decide) (by decide) rfl q91 ?_
          refine eb_ifnull_n (pc := 18) (tgt := 43) (by decide) rfl ?_
          refine eb_iload (pc := 43) (i := 5) rfl rfl ?_
          refine eb_iconst (pc := 45) (n := 1) (v := 1) rfl rfl ?_
          refine eb_icmp_lt (pc := 46) (tgt := 57) rfl (by decide) (fun c93 => ?_) (fun c93 => ?_)
          · replace w := w.1 c93
            refine eb_iconst (pc := 57) (n := 2) (v := 2) rfl rfl ?_
            exact eb_ireturn (pc := 58) rfl rfl rfl w
          · replace w := w.2 c93
            refine eb_iload_n (pc := 49) (n := 3) (i := 3) rfl rfl rfl ?_
            refine eb_aload_n (pc := 50) (n := 0) (i := 0) rfl rfl rfl ?_
            refine eb_getI (pc := 51) rfl ka0 (by decide) (by decide) rfl ?_
            refine eb_icmp_lt (pc := 54) (tgt := 59) rfl (by decide) (fun c94 => ?_) (fun c94 => ?_)
            · replace w := w.1 c94
              refine eb_aload_n (pc := 59) (n := 0) (i := 0) rfl rfl rfl ?_
              rcases q95 : eb_R h a0 8 with _ | r96
              · replace w := w.1 q95
                refine eb_getN (pc := 60) rfl ka0 (by decide) (by decide) rfl q95 ?_
                refine eb_ifnull_n (pc := 63) (tgt := 88) (by decide) rfl ?_
                refine eb_iconst (pc := 88) (n := 3) (v := 3) rfl rfl ?_
                exact eb_ireturn (pc := 89) rfl rfl rfl w
              · replace w := w.2 r96 q95
                refine eb_getR (pc := 60) rfl ka0 (by decide) (by decide) rfl q95 ?_
                refine eb_ifnull_r (pc := 63) rfl ?_
                refine eb_aload_n (pc := 66) (n := 0) (i := 0) rfl rfl rfl ?_
                refine eb_getR (pc := 67) rfl ka0 (by decide) (by decide) rfl q95 ?_
                refine eb_iload (pc := 70) (i := 6) rfl rfl ?_
                refine eb_iload (pc := 72) (i := 7) rfl rfl ?_
                refine eb_iload_n (pc := 74) (n := 3) (i := 3) rfl rfl rfl ?_
                refine eb_iload (pc := 75) (i := 4) rfl rfl ?_
                refine eb_iload_n (pc := 77) (n := 2) (i := 2) rfl rfl rfl ?_
                refine eb_iload (pc := 78) (i := 5) rfl rfl ?_
                obtain ⟨k97, w⟩ := w
                refine eb_ctV (pc := 80) (As := [.int 0, .int 0, .int x3, .int x4, .int x2, .int x5]) (rest := []) rfl (by decide) rfl k97 (by decide) rfl (Nat.le_of_ble_eq_true rfl) ?_
                refine eb_Ct.mono w ?_
                rintro r h98 ⟨y99, rfl, ko100, w⟩
                change eb_Sn _ _ _ 83 _ [.int y99] _ _
                refine eb_if_ne (pc := 83) (tgt := 88) rfl (by decide) (fun c101 => ?_) (fun c101 => ?_)
                · replace w := w.1 c101
                  refine eb_iconst (pc := 88) (n := 3) (v := 3) rfl rfl ?_
                  exact eb_ireturn (pc := 89) rfl rfl rfl w
                · replace w := w.2 c101
                  refine eb_iconst (pc := 86) (n := 2) (v := 2) rfl rfl ?_
                  exact eb_ireturn (pc := 87) rfl rfl rfl w
            · replace w := w.2 c94
              refine eb_iconst (pc := 57) (n := 2) (v := 2) rfl rfl ?_
              exact eb_ireturn (pc := 58) rfl rfl rfl w
        · replace w := w.2 r92 q91
          refine eb_getR (pc := 15) rfl ka0 (by decide) (by decide) rfl q91 ?_
          refine eb_ifnull_r (pc := 18) rfl ?_
          refine eb_aload_n (pc := 21) (n := 0) (i := 0) rfl rfl rfl ?_
          refine eb_getR (pc := 22) rfl ka0 (by decide) (by decide) rfl q91 ?_
          refine eb_iload (pc := 25) (i := 6) rfl rfl ?_
          refine eb_iload (pc := 27) (i := 7) rfl rfl ?_
          refine eb_iload_n (pc := 29) (n := 3) (i := 3) rfl rfl rfl ?_
          refine eb_iload (pc := 30) (i := 4) rfl rfl ?_
          refine eb_iload_n (pc := 32) (n := 2) (i := 2) rfl rfl rfl ?_
          refine eb_iload (pc := 33) (i := 5) rfl rfl ?_
          obtain ⟨k102, w⟩ := w
          refine eb_ctV (pc := 35) (As := [.int 0, .int 0, .int x3, .int x4, .int x2, .int x5]) (rest := []) rfl (by decide) rfl k102 (by decide) rfl (Nat.le_of_ble_eq_true rfl) ?_
          refine eb_Ct.mono w ?_
          rintro r h103 ⟨y104, rfl, ko105, w⟩
          change eb_Sn _ _ _ 38 _ [.int y104] _ _
          refine eb_if_ne (pc := 38) (tgt := 43) rfl (by decide) (fun c106 => ?_) (fun c106 => ?_)
          · replace w := w.1 c106
            refine eb_iload (pc := 43) (i := 5) rfl rfl ?_
            refine eb_iconst (pc := 45) (n := 1) (v := 1) rfl rfl ?_
            refine eb_icmp_lt (pc := 46) (tgt := 57) rfl (by decide) (fun c107 => ?_) (fun c107 => ?_)
            · replace w := w.1 c107
              refine eb_iconst (pc := 57) (n := 2) (v := 2) rfl rfl ?_
              exact eb_ireturn (pc := 58) rfl rfl rfl w
            · replace w := w.2 c107
              refine eb_iload_n (pc := 49) (n := 3) (i := 3) rfl rfl rfl ?_
              refine eb_aload_n (pc := 50) (n := 0) (i := 0) rfl rfl rfl ?_
              refine eb_getI (pc := 51) rfl ka0 (by decide) (by decide) rfl ?_
              refine eb_icmp_lt (pc := 54) (tgt := 59) rfl (by decide) (fun c108 => ?_) (fun c108 => ?_)
              · replace w := w.1 c108
                refine eb_aload_n (pc := 59) (n := 0) (i := 0) rfl rfl rfl ?_
                rcases q109 : eb_R h103 a0 8 with _ | r110
                · replace w := w.1 q109
                  refine eb_getN (pc := 60) rfl ka0 (by decide) (by decide) rfl q109 ?_
                  refine eb_ifnull_n (pc := 63) (tgt := 88) (by decide) rfl ?_
                  refine eb_iconst (pc := 88) (n := 3) (v := 3) rfl rfl ?_
                  exact eb_ireturn (pc := 89) rfl rfl rfl w
                · replace w := w.2 r110 q109
                  refine eb_getR (pc := 60) rfl ka0 (by decide) (by decide) rfl q109 ?_
                  refine eb_ifnull_r (pc := 63) rfl ?_
                  refine eb_aload_n (pc := 66) (n := 0) (i := 0) rfl rfl rfl ?_
                  refine eb_getR (pc := 67) rfl ka0 (by decide) (by decide) rfl q109 ?_
                  refine eb_iload (pc := 70) (i := 6) rfl rfl ?_
                  refine eb_iload (pc := 72) (i := 7) rfl rfl ?_
                  refine eb_iload_n (pc := 74) (n := 3) (i := 3) rfl rfl rfl ?_
                  refine eb_iload (pc := 75) (i := 4) rfl rfl ?_
                  refine eb_iload_n (pc := 77) (n := 2) (i := 2) rfl rfl rfl ?_
                  refine eb_iload (pc := 78) (i := 5) rfl rfl ?_
                  obtain ⟨k111, w⟩ := w
                  refine eb_ctV (pc := 80) (As := [.int 0, .int 0, .int x3, .int x4, .int x2, .int x5]) (rest := []) rfl (by decide) rfl k111 (by decide) rfl (Nat.le_of_ble_eq_true rfl) ?_
                  refine eb_Ct.mono w ?_
                  rintro r h112 ⟨y113, rfl, ko114, w⟩
                  change eb_Sn _ _ _ 83 _ [.int y113] _ _
                  refine eb_if_ne (pc := 83) (tgt := 88) rfl (by decide) (fun c115 => ?_) (fun c115 => ?_)
                  · replace w := w.1 c115
                    refine eb_iconst (pc := 88) (n := 3) (v := 3) rfl rfl ?_
                    exact eb_ireturn (pc := 89) rfl rfl rfl w
                  · replace w := w.2 c115
                    refine eb_iconst (pc := 86) (n := 2) (v := 2) rfl rfl ?_
                    exact eb_ireturn (pc := 87) rfl rfl rfl w
              · replace w := w.2 c108
                refine eb_iconst (pc := 57) (n := 2) (v := 2) rfl rfl ?_
                exact eb_ireturn (pc := 58) rfl rfl rfl w
          · replace w := w.2 c106
            refine eb_iconst (pc := 41) (n := 1) (v := 1) rfl rfl ?_
            exact eb_ireturn (pc := 42) rfl rfl rfl w
      · replace w := w.2 c88
        refine eb_iload_n (pc := 4) (n := 1) (i := 1) rfl rfl rfl ?_
        refine eb_aload_n (pc := 5) (n := 0) (i := 0) rfl rfl rfl ?_
        refine eb_getR (pc := 6) rfl ka0 (by decide) (by decide) rfl q3 ?_
        refine eb_alen (pc := 9) rfl (by rw [k4]; decide) (by rw [k4]; decide) rfl ?_
        refine eb_icmp_ge (pc := 10) (tgt := 22) rfl (by decide) (fun c89 => ?_) (fun c89 => ?_)
        · replace w := w.1 c89
          refine eb_iconst (pc := 22) (n := 0) (v := 0) rfl rfl ?_
          refine eb_ireturn (pc := 23) rfl rfl rfl ?_
          change eb_Sn _ _ _ 12 _ [.int 0] _ _
          refine eb_istore (pc := 12) (i := 7) (ls2 := [(7, .int 0), (6, .int 0), (0, .ref a0), (1, .int x1), (2, .int x2), (3, .int x3), (4, .int x4), (5, .int x5)]) (Nat.le_of_ble_eq_true rfl) rfl rfl ?_
          refine eb_aload_n (pc := 14) (n := 0) (i := 0) rfl rfl rfl ?_
          rcases q116 : eb_R h a0 7 with _ | r117
          · replace w := w.1 q116
            refine eb_getN (pc := 15) rfl ka0 (by decide) (by decide) rfl q116 ?_
            refine eb_ifnull_n (pc := 18) (tgt := 43) (by decide) rfl ?_
            refine eb_iload (pc := 43) (i := 5) rfl rfl ?_
            refine eb_iconst (pc := 45) (n := 1) (v := 1) rfl rfl ?_
            refine eb_icmp_lt (pc := 46) (tgt := 57) rfl (by decide) (fun c118 => ?_) (fun c118 => ?_)
            · replace w := w.1 c118
              refine eb_iconst (pc := 57) (n := 2) (v := 2) rfl rfl ?_
              exact eb_ireturn (pc := 58) rfl rfl rfl w
            · replace w := w.2 c118
              refine eb_iload_n (pc := 49) (n := 3) (i := 3) rfl rfl rfl ?_
              refine eb_aload_n (pc := 50) (n := 0) (i := 0) rfl rfl rfl ?_
              refine eb_getI (pc := 51) rfl ka0 (by decide) (by decide) rfl ?_
              refine eb_icmp_lt (pc := 54) (tgt := 59) rfl (by decide) (fun c119 => ?_) (fun c119 => ?_)
              · replace w := w.1 c119
                refine eb_aload_n (pc := 59) (n := 0) (i := 0) rfl rfl rfl ?_
                rcases q120 : eb_R h a0 8 with _ | r121
                · replace w := w.1 q120
                  refine eb_getN (pc := 60) rfl ka0 (by decide) (by decide) rfl q120 ?_
                  refine eb_ifnull_n (pc := 63) (tgt := 88) (by decide) rfl ?_
                  refine eb_iconst (pc := 88) (n := 3) (v := 3) rfl rfl ?_
                  exact eb_ireturn (pc := 89) rfl rfl rfl w
                · replace w := w.2 r121 q120
                  refine eb_getR (pc := 60) rfl ka0 (by decide) (by decide) rfl q120 ?_
                  refine eb_ifnull_r (pc := 63) rfl ?_
                  refine eb_aload_n (pc := 66) (n := 0) (i := 0) rfl rfl rfl ?_
                  refine eb_getR (pc := 67) rfl ka0 (by decide) (by decide) rfl q120 ?_
                  refine eb_iload (pc := 70) (i := 6) rfl rfl ?_
                  refine eb_iload (pc := 72) (i := 7) rfl rfl ?_
                  refine eb_iload_n (pc := 74) (n := 3) (i := 3) rfl rfl rfl ?_
                  refine eb_iload (pc := 75) (i := 4) rfl rfl ?_
                  refine eb_iload_n (pc := 77) (n := 2) (i := 2) rfl rfl rfl ?_
                  refine eb_iload (pc := 78) (i := 5) rfl rfl ?_
                  obtain ⟨k122, w⟩ := w
                  refine eb_ctV (pc := 80) (As := [.int 0, .int 0, .int x3, .int x4, .int x2, .int x5]) (rest := []) rfl (by decide) rfl k122 (by decide) rfl (Nat.le_of_ble_eq_true rfl) ?_
                  refine eb_Ct.mono w ?_
                  rintro r h123 ⟨y124, rfl, ko125, w⟩
                  change eb_Sn _ _ _ 83 _ [.int y124] _ _
                  refine eb_if_ne (pc := 83) (tgt := 88) rfl (by decide) (fun c126 => ?_) (fun c126 => ?_)
                  · replace w := w.1 c126
                    refine eb_iconst (pc := 88) (n := 3) (v := 3) rfl rfl ?_
                    exact eb_ireturn (pc := 89) rfl rfl rfl w
                  · replace w := w.2 c126
                    refine eb_iconst (pc := 86) (n := 2) (v := 2) rfl rfl ?_
                    exact eb_ireturn (pc := 87) rfl rfl rfl w
              · replace w := w.2 c119
                refine eb_iconst (pc := 57) (n := 2) (v := 2) rfl rfl ?_
                exact eb_ireturn (pc := 58) rfl rfl rfl w
          · replace w := w.2 r117 q116
            refine eb_getR (pc := 15) rfl ka0 (by decide) (by decide) rfl q116 ?_
            refine eb_ifnull_r (pc := 18) rfl ?_
            refine eb_aload_n (pc := 21) (n := 0) (i := 0) rfl rfl rfl ?_
            refine eb_getR (pc := 22) rfl ka0 (by decide) (by decide) rfl q116 ?_
            refine eb_iload (pc := 25) (i := 6) rfl rfl ?_
            refine eb_iload (pc := 27) (i := 7) rfl rfl ?_
            refine eb_iload_n (pc := 29) (n := 3) (i := 3) rfl rfl rfl ?_
            refine eb_iload (pc := 30) (i := 4) rfl rfl ?_
            refine eb_iload_n (pc := 32) (n := 2) (i := 2) rfl rfl rfl ?_
            refine eb_iload (pc := 33) (i := 5) rfl rfl ?_
            obtain ⟨k127, w⟩ := w
            refine eb_ctV (pc := 35) (As := [.int 0, .int 0, .int x3, .int x4, .int x2, .int x5]) (rest := []) rfl (by decide) rfl k127 (by decide) rfl (Nat.le_of_ble_eq_true rfl) ?_
            refine eb_Ct.mono w ?_
            rintro r h128 ⟨y129, rfl, ko130, w⟩
            change eb_Sn _ _ _ 38 _ [.int y129] _ _
            refine eb_if_ne (pc := 38) (tgt := 43) rfl (by decide) (fun c131 => ?_) (fun c131 => ?_)
            · replace w := w.1 c131
              refine eb_iload (pc := 43) (i := 5) rfl rfl ?_
              refine eb_iconst (pc := 45) (n := 1) (v := 1) rfl rfl ?_
              refine eb_icmp_lt (pc := 46) (tgt := 57) rfl (by decide) (fun c132 => ?_) (fun c132 => ?_)
              · replace w := w.1 c132
                refine eb_iconst (pc := 57) (n := 2) (v := 2) rfl rfl ?_
                exact eb_ireturn (pc := 58) rfl rfl rfl w
              · replace w := w.2 c132
                refine eb_iload_n (pc := 49) (n := 3) (i := 3) rfl rfl rfl ?_
                refine eb_aload_n (pc := 50) (n := 0) (i := 0) rfl rfl rfl ?_
                refine eb_getI (pc := 51) rfl ka0 (by decide) (by decide) rfl ?_
                refine eb_icmp_lt (pc := 54) (tgt := 59) rfl (by decide) (fun c133 => ?_) (fun c133 => ?_)
                · replace w := w.1 c133
                  refine eb_aload_n (pc := 59) (n := 0) (i := 0) rfl rfl rfl ?_
                  rcases q134 : eb_R h128 a0 8 with _ | r135
                  · replace w := w.1 q134
                    refine eb_getN (pc := 60) rfl ka0 (by decide) (by decide) rfl q134 ?_
                    refine eb_ifnull_n (pc := 63) (tgt := 88) (by decide) rfl ?_
                    refine eb_iconst (pc := 88) (n := 3) (v := 3) rfl rfl ?_
                    exact eb_ireturn (pc := 89) rfl rfl rfl w
                  · replace w := w.2 r135 q134
                    refine eb_getR (pc := 60) rfl ka0 (by decide) (by decide) rfl q134 ?_
                    refine eb_ifnull_r (pc := 63) rfl ?_
                    refine eb_aload_n (pc := 66) (n := 0) (i := 0) rfl rfl rfl ?_
                    refine eb_getR (pc := 67) rfl ka0 (by decide) (by decide) rfl q134 ?_
                    refine eb_iload (pc := 70) (i := 6) rfl rfl ?_
                    refine eb_iload (pc := 72) (i := 7) rfl rfl ?_
                    refine eb_iload_n (pc := 74) (n := 3) (i := 3) rfl rfl rfl ?_
                    refine eb_iload (pc := 75) (i := 4) rfl rfl ?_
                    refine eb_iload_n (pc := 77) (n := 2) (i := 2) rfl rfl rfl ?_
                    refine eb_iload (pc := 78) (i := 5) rfl rfl ?_
                    obtain ⟨k136, w⟩ := w
                    refine eb_ctV (pc := 80) (As := [.int 0, .int 0, .int x3, .int x4, .int x2, .int x5]) (rest := []) rfl (by decide) rfl k136 (by decide) rfl (Nat.le_of_ble_eq_true rfl) ?_
                    refine eb_Ct.mono w ?_
                    rintro r h137 ⟨y138, rfl, ko139, w⟩
                    change eb_Sn _ _ _ 83 _ [.int y138] _ _
                    refine eb_if_ne (pc := 83) (tgt := 88) rfl (by decide) (fun c140 => ?_) (fun c140 => ?_)
                    · replace w := w.1 c140
                      refine eb_iconst (pc := 88) (n := 3) (v := 3) rfl rfl ?_
                      exact eb_ireturn (pc := 89) rfl rfl rfl w
                    · replace w := w.2 c140
                      refine eb_iconst (pc := 86) (n := 2) (v := 2) rfl rfl ?_
                      exact eb_ireturn (pc := 87) rfl rfl rfl w
                · replace w := w.2 c133
                  refine eb_iconst (pc := 57) (n := 2) (v := 2) rfl rfl ?_
                  exact eb_ireturn (pc := 58) rfl rfl rfl w
            · replace w := w.2 c131
              refine eb_iconst (pc := 41) (n := 1) (v := 1) rfl rfl ?_
              exact eb_ireturn (pc := 42) rfl rfl rfl w
        · replace w := w.2 c89
          refine eb_aload_n (pc := 13) (n := 0) (i := 0) rfl rfl rfl ?_
          refine eb_getR (pc := 14) rfl ka0 (by decide) (by decide) rfl q3 ?_
          refine eb_iload_n (pc := 17) (n := 1) (i := 1) rfl rfl rfl ?_
          obtain ⟨c90, w⟩ := w
          refine eb_iaload (pc := 18) rfl k4 (by decide) c90 ?_
          refine eb_goto (pc := 19) (tgt := 23) rfl (by decide) ?_
          refine eb_ireturn (pc := 23) rfl rfl rfl ?_
          change eb_Sn _ _ _ 12 _ [.int (eb_I h r2 x1.toNatClampNeg)] _ _
          refine eb_istore (pc := 12) (i := 7) (ls2 := [(7, .int (eb_I h r2 x1.toNatClampNeg)), (6, .int 0), (0, .ref a0), (1, .int x1), (2, .int x2), (3, .int x3), (4, .int x4), (5, .int x5)]) (Nat.le_of_ble_eq_true rfl) rfl rfl ?_
          refine eb_aload_n (pc := 14) (n := 0) (i := 0) rfl rfl rfl ?_
          rcases q141 : eb_R h a0 7 with _ | r142
          · replace w := w.1 q141
            refine eb_getN (pc := 15) rfl ka0 (by decide) (by decide) rfl q141 ?_
            refine eb_ifnull_n (pc := 18) (tgt := 43) (by decide) rfl ?_
            refine eb_iload (pc := 43) (i := 5) rfl rfl ?_
            refine eb_iconst (pc := 45) (n := 1) (v := 1) rfl rfl ?_
            refine eb_icmp_lt (pc := 46) (tgt := 57) rfl (by decide) (fun c143 => ?_) (fun c143 => ?_)
            · replace w := w.1 c143
              refine eb_iconst (pc := 57) (n := 2) (v := 2) rfl rfl ?_
              exact eb_ireturn (pc := 58) rfl rfl rfl w
            · replace w := w.2 c143
              refine eb_iload_n (pc := 49) (n := 3) (i := 3) rfl rfl rfl ?_
              refine eb_aload_n (pc := 50) (n := 0) (i := 0) rfl rfl rfl ?_
              refine eb_getI (pc := 51) rfl ka0 (by decide) (by decide) rfl ?_
              refine eb_icmp_lt (pc := 54) (tgt := 59) rfl (by decide) (fun c144 => ?_) (fun c144 => ?_)
              · replace w := w.1 c144
                refine eb_aload_n (pc := 59) (n := 0) (i := 0) rfl rfl rfl ?_
                rcases q145 : eb_R h a0 8 with _ | r146
                · replace w := w.1 q145
                  refine eb_getN (pc := 60) rfl ka0 (by decide) (by decide) rfl q145 ?_
                  refine eb_ifnull_n (pc := 63) (tgt := 88) (by decide) rfl ?_
                  refine eb_iconst (pc := 88) (n := 3) (v := 3) rfl rfl ?_
                  exact eb_ireturn (pc := 89) rfl rfl rfl w
                · replace w := w.2 r146 q145
                  refine eb_getR (pc := 60) rfl ka0 (by decide) (by decide) rfl q145 ?_
                  refine eb_ifnull_r (pc := 63) rfl ?_
                  refine eb_aload_n (pc := 66) (n := 0) (i := 0) rfl rfl rfl ?_
                  refine eb_getR (pc := 67) rfl ka0 (by decide) (by decide) rfl q145 ?_
                  refine eb_iload (pc := 70) (i := 6) rfl rfl ?_
                  refine eb_iload (pc := 72) (i := 7) rfl rfl ?_
                  refine eb_iload_n (pc := 74) (n := 3) (i := 3) rfl rfl rfl ?_
                  refine eb_iload (pc := 75) (i := 4) rfl rfl ?_
                  refine eb_iload_n (pc := 77) (n := 2) (i := 2) rfl rfl rfl ?_
                  refine eb_iload (pc := 78) (i := 5) rfl rfl ?_
                  obtain ⟨k147, w⟩ := w
                  refine eb_ctV (pc := 80) (As := [.int 0, .int (eb_I h r2 x1.toNatClampNeg), .int x3, .int x4, .int x2, .int x5]) (rest := []) rfl (by decide) rfl k147 (by decide) rfl (Nat.le_of_ble_eq_true rfl) ?_
                  refine eb_Ct.mono w ?_
                  rintro r h148 ⟨y149, rfl, ko150, w⟩
                  change eb_Sn _ _ _ 83 _ [.int y149] _ _
                  refine eb_if_ne (pc := 83) (tgt := 88) rfl (by decide) (fun c151 => ?_) (fun c151 => ?_)
                  · replace w := w.1 c151
                    refine eb_iconst (pc := 88) (n := 3) (v := 3) rfl rfl ?_
                    exact eb_ireturn (pc := 89) rfl rfl rfl w
                  · replace w := w.2 c151
                    refine eb_iconst (pc := 86) (n := 2) (v := 2) rfl rfl ?_
                    exact eb_ireturn (pc := 87) rfl rfl rfl w
              · replace w := w.2 c144
                refine eb_iconst (pc := 57) (n := 2) (v := 2) rfl rfl ?_
                exact eb_ireturn (pc := 58) rfl rfl rfl w
          · replace w := w.2 r142 q141
            refine eb_getR (pc := 15) rfl ka0 (by decide) (by decide) rfl q141 ?_
            refine eb_ifnull_r (pc := 18) rfl ?_
            refine eb_aload_n (pc := 21) (n := 0) (i := 0) rfl rfl rfl ?_
            refine eb_getR (pc := 22) rfl ka0 (by decide) (by decide) rfl q141 ?_
            refine eb_iload (pc := 25) (i := 6) rfl rfl ?_
            refine eb_iload (pc := 27) (i := 7) rfl rfl ?_
            refine eb_iload_n (pc := 29) (n := 3) (i := 3) rfl rfl rfl ?_
            refine eb_iload (pc := 30) (i := 4) rfl rfl ?_
            refine eb_iload_n (pc := 32) (n := 2) (i := 2) rfl rfl rfl ?_
            refine eb_iload (pc := 33) (i := 5) rfl rfl ?_
            obtain ⟨k152, w⟩ := w
            refine eb_ctV (pc := 35) (As := [.int 0, .int (eb_I h r2 x1.toNatClampNeg), .int x3, .int x4, .int x2, .int x5]) (rest := []) rfl (by decide) rfl k152 (by decide) rfl (Nat.le_of_ble_eq_true rfl) ?_
            refine eb_Ct.mono w ?_
            rintro r h153 ⟨y154, rfl, ko155, w⟩
            change eb_Sn _ _ _ 38 _ [.int y154] _ _
            refine eb_if_ne (pc := 38) (tgt := 43) rfl (by decide) (fun c156 => ?_) (fun c156 => ?_)
            · replace w := w.1 c156
              refine eb_iload (pc := 43) (i := 5) rfl rfl ?_
              refine eb_iconst (pc := 45) (n := 1) (v := 1) rfl rfl ?_
              refine eb_icmp_lt (pc := 46) (tgt := 57) rfl (by decide) (fun c157 => ?_) (fun c157 => ?_)
              · replace w := w.1 c157
                refine eb_iconst (pc := 57) (n := 2) (v := 2) rfl rfl ?_
                exact eb_ireturn (pc := 58) rfl rfl rfl w
              · replace w := w.2 c157
                refine eb_iload_n (pc := 49) (n := 3) (i := 3) rfl rfl rfl ?_
                refine eb_aload_n (pc := 50) (n := 0) (i := 0) rfl rfl rfl ?_
                refine eb_getI (pc := 51) rfl ka0 (by decide) (by decide) rfl ?_
                refine eb_icmp_lt (pc := 54) (tgt := 59) rfl (by decide) (fun c158 => ?_) (fun c158 => ?_)
                · replace w := w.1 c158
                  refine eb_aload_n (pc := 59) (n := 0) (i := 0) rfl rfl rfl ?_
                  rcases q159 : eb_R h153 a0 8 with _ | r160
                  · replace w := w.1 q159
                    refine eb_getN (pc := 60) rfl ka0 (by decide) (by decide) rfl q159 ?_
                    refine eb_ifnull_n (pc := 63) (tgt := 88) (by decide) rfl ?_
                    refine eb_iconst (pc := 88) (n := 3) (v := 3) rfl rfl ?_
                    exact eb_ireturn (pc := 89) rfl rfl rfl w
                  · replace w := w.2 r160 q159
                    refine eb_getR (pc := 60) rfl ka0 (by decide) (by decide) rfl q159 ?_
                    refine eb_ifnull_r (pc := 63) rfl ?_
                    refine eb_aload_n (pc := 66) (n := 0) (i := 0) rfl rfl rfl ?_
                    refine eb_getR (pc := 67) rfl ka0 (by decide) (by decide) rfl q159 ?_
                    refine eb_iload (pc := 70) (i := 6) rfl rfl ?_
                    refine eb_iload (pc := 72) (i := 7) rfl rfl ?_
                    refine eb_iload_n (pc := 74) (n := 3) (i := 3) rfl rfl rfl ?_
                    refine eb_iload (pc := 75) (i := 4) rfl rfl ?_
                    refine eb_iload_n (pc := 77) (n := 2) (i := 2) rfl rfl rfl ?_
                    refine eb_iload (pc := 78) (i := 5) rfl rfl ?_
                    obtain ⟨k161, w⟩ := w
                    refine eb_ctV (pc := 80) (As := [.int 0, .int (eb_I h r2 x1.toNatClampNeg), .int x3, .int x4, .int x2, .int x5]) (rest := []) rfl (by decide) rfl k161 (by decide) rfl (Nat.le_of_ble_eq_true rfl) ?_
                    refine eb_Ct.mono w ?_
                    rintro r h162 ⟨y163, rfl, ko164, w⟩
                    change eb_Sn _ _ _ 83 _ [.int y163] _ _
                    refine eb_if_ne (pc := 83) (tgt := 88) rfl (by decide) (fun c165 => ?_) (fun c165 => ?_)
                    · replace w := w.1 c165
                      refine eb_iconst (pc := 88) (n := 3) (v := 3) rfl rfl ?_
                      exact eb_ireturn (pc := 89) rfl rfl rfl w
                    · replace w := w.2 c165
                      refine eb_iconst (pc := 86) (n := 2) (v := 2) rfl rfl ?_
                      exact eb_ireturn (pc := 87) rfl rfl rfl w
                · replace w := w.2 c158
                  refine eb_iconst (pc := 57) (n := 2) (v := 2) rfl rfl ?_
                  exact eb_ireturn (pc := 58) rfl rfl rfl w
            · replace w := w.2 c156
              refine eb_iconst (pc := 41) (n := 1) (v := 1) rfl rfl ?_
              exact eb_ireturn (pc := 42) rfl rfl rfl w
    · replace w := w.2 c5
      refine eb_aload_n (pc := 13) (n := 0) (i := 0) rfl rfl rfl ?_
      refine eb_getR (pc := 14) rfl ka0 (by decide) (by decide) rfl q3 ?_
      refine eb_iload_n (pc := 17) (n := 1) (i := 1) rfl rfl rfl ?_
      obtain ⟨c6, w⟩ := w
      refine eb_iaload (pc := 18) rfl k4 (by decide) c6 ?_
      refine eb_goto (pc := 19) (tgt := 23) rfl (by decide) ?_
      refine eb_ireturn (pc := 23) rfl rfl rfl ?_
      change eb_Sn _ _ _ 5 _ [.int (eb_I h r2 x2.toNatClampNeg)] _ _
      refine eb_istore (pc := 5) (i := 6) (ls2 := [(6, .int (eb_I h r2 x2.toNatClampNeg)), (0, .ref a0), (1, .int x1), (2, .int x2), (3, .int x3), (4, .int x4), (5, .int x5)]) (Nat.le_of_ble_eq_true rfl) rfl rfl ?_
      refine eb_aload_n (pc := 7) (n := 0) (i := 0) rfl rfl rfl ?_
      refine eb_iload_n (pc := 8) (n := 1) (i := 1) rfl rfl rfl ?_
      refine eb_ctV (pc := 9) (As := [.int x1]) (rest := []) rfl (by decide) rfl ka0 (by decide) rfl (Nat.le_of_ble_eq_true rfl) ?_
      refine eb_bodyQ (by decide) ok_X9_heightOf (Nat.le_of_ble_eq_true rfl) ?_
      change eb_Sn _ m_X9_heightOf _ 0 [(0, .ref a0), (1, .int x1)] [] _ _
      refine eb_iload_n (pc := 0) (n := 1) (i := 1) rfl rfl rfl ?_
      refine eb_if_lt (pc := 1) (tgt := 22) rfl (by decide) (fun c166 => ?_) (fun c166 => ?_)
      · replace w := w.1 c166
        refine eb_iconst (pc := 22) (n := 0) (v := 0) rfl rfl ?_
        refine eb_ireturn (pc := 23) rfl rfl rfl ?_
        change eb_Sn _ _ _ 12 _ [.int 0] _ _
        refine eb_istore (pc := 12) (i := 7) (ls2 := [(7, .int 0), (6, .int (eb_I h r2 x2.toNatClampNeg)), (0, .ref a0), (1, .int x1), (2, .int x2), (3, .int x3), (4, .int x4), (5, .int x5)]) (Nat.le_of_ble_eq_true rfl) rfl rfl ?_
        refine eb_aload_n (pc := 14) (n := 0) (i := 0) rfl rfl rfl ?_
        rcases q169 : eb_R h a0 7 with _ | r170
        · replace w := w.1 q169
          refine eb_getN (pc := 15) rfl ka0 (by decide) (by decide) rfl q169 ?_
          refine eb_ifnull_n (pc := 18) (tgt := 43) (by decide) rfl ?_
          refine eb_iload (pc := 43) (i := 5) rfl rfl ?_
          refine eb_iconst (pc := 45) (n := 1) (v := 1) rfl rfl ?_
          refine eb_icmp_lt (pc := 46) (tgt := 57) rfl (by decide) (fun c171 => ?_) (fun c171 => ?_)
          · replace w := w.1 c171
            refine eb_iconst (pc := 57) (n := 2) (v := 2) rfl rfl ?_
            exact eb_ireturn (pc := 58) rfl rfl rfl w
          · replace w := w.2 c171
            refine eb_iload_n (pc := 49) (n := 3) (i := 3) rfl rfl rfl ?_
            refine eb_aload_n (pc := 50) (n := 0) (i := 0) rfl rfl rfl ?_
            refine eb_getI (pc := 51) rfl ka0 (by decide) (by decide) rfl ?_
            refine eb_icmp_lt (pc := 54) (tgt := 59) rfl (by decide) (fun c172 => ?_) (fun c172 => ?_)
            · replace w := w.1 c172
              refine eb_aload_n (pc := 59) (n := 0) (i := 0) rfl rfl rfl ?_
              rcases q173 : eb_R h a0 8 with _ | r174
              · replace w := w.1 q173
                refine eb_getN (pc := 60) rfl ka0 (by decide) (by decide) rfl q173 ?_
                refine eb_ifnull_n (pc := 63) (tgt := 88) (by decide) rfl ?_
                refine eb_iconst (pc := 88) (n := 3) (v := 3) rfl rfl ?_
                exact eb_ireturn (pc := 89) rfl rfl rfl w
              · replace w := w.2 r174 q173
                refine eb_getR (pc := 60) rfl ka0 (by decide) (by decide) rfl q173 ?_
                refine eb_ifnull_r (pc := 63) rfl ?_
                refine eb_aload_n (pc := 66) (n := 0) (i := 0) rfl rfl rfl ?_
                refine eb_getR (pc := 67) rfl ka0 (by decide) (by decide) rfl q173 ?_
                refine eb_iload (pc := 70) (i := 6) rfl rfl ?_
                refine eb_iload (pc := 72) (i := 7) rfl rfl ?_
                refine eb_iload_n (pc := 74) (n := 3) (i := 3) rfl rfl rfl ?_
                refine eb_iload (pc := 75) (i := 4) rfl rfl ?_
                refine eb_iload_n (pc := 77) (n := 2) (i := 2) rfl rfl rfl ?_
                refine eb_iload (pc := 78) (i := 5) rfl rfl ?_
                obtain ⟨k175, w⟩ := w
                refine eb_ctV (pc := 80) (As := [.int (eb_I h r2 x2.toNatClampNeg), .int 0, .int x3, .int x4, .int x2, .int x5]) (rest := []) rfl (by decide) rfl k175 (by decide) rfl (Nat.le_of_ble_eq_true rfl) ?_
                refine eb_Ct.mono w ?_
                rintro r h176 ⟨y177, rfl, ko178, w⟩
                change eb_Sn _ _ _ 83 _ [.int y177] _ _
                refine eb_if_ne (pc := 83) (tgt := 88) rfl (by decide) (fun c179 => ?_) (fun c179 => ?_)
                · replace w := w.1 c179
                  refine eb_iconst (pc := 88) (n := 3) (v := 3) rfl rfl ?_
                  exact eb_ireturn (pc := 89) rfl rfl rfl w
                · replace w := w.2 c179
                  refine eb_iconst (pc := 86) (n := 2) (v := 2) rfl rfl ?_
                  exact eb_ireturn (pc := 87) rfl rfl rfl w
            · replace w := w.2 c172
              refine eb_iconst (pc := 57) (n := 2) (v := 2) rfl rfl ?_
              exact eb_ireturn (pc := 58) rfl rfl rfl w
        · replace w := w.2 r170 q169
          refine eb_getR (pc := 15) rfl ka0 (by decide) (by decide) rfl q169 ?_
          refine eb_ifnull_r (pc := 18) rfl ?_
          refine eb_aload_n (pc := 21) (n := 0) (i := 0) rfl rfl rfl ?_
          refine eb_getR (pc := 22) rfl ka0 (by decide) (by decide) rfl q169 ?_
          refine eb_iload (pc := 25) (i := 6) rfl rfl ?_
          refine eb_iload (pc := 27) (i := 7) rfl rfl ?_
          refine eb_iload_n (pc := 29) (n := 3) (i := 3) rfl rfl rfl ?_
          refine eb_iload (pc := 30) (i := 4) rfl rfl ?_
          refine eb_iload_n (pc := 32) (n := 2) (i := 2) rfl rfl rfl ?_
          refine eb_iload (pc := 33) (i := 5) rfl rfl ?_
          obtain ⟨k180, w⟩ := w
          refine eb_ctV (pc := 35) (As := [.int (eb_I h r2 x2.toNatClampNeg), .int 0, .int x3, .int x4, .int x2, .int x5]) (rest := []) rfl (by decide) rfl k180 (by decide) rfl (Nat.le_of_ble_eq_true rfl) ?_
          refine eb_Ct.mono w ?_
          rintro r h181 ⟨y182, rfl, ko183, w⟩
          change eb_Sn _ _ _ 38 _ [.int y182] _ _
          refine eb_if_ne (pc := 38) (tgt := 43) rfl (by decide) (fun c184 => ?_) (fun c184 => ?_)
          · replace w := w.1 c184
            refine eb_iload (pc := 43) (i := 5) rfl rfl ?_
            refine eb_iconst (pc := 45) (n := 1) (v := 1) rfl rfl ?_
            refine eb_icmp_lt (pc := 46) (tgt := 57) rfl (by decide) (fun c185 => ?_) (fun c185 => ?_)
            · replace w := w.1 c185
              refine eb_iconst (pc := 57) (n := 2) (v := 2) rfl rfl ?_
              exact eb_ireturn (pc := 58) rfl rfl rfl w
            · replace w := w.2 c185
              refine eb_iload_n (pc := 49) (n := 3) (i := 3) rfl rfl rfl ?_
              refine eb_aload_n (pc := 50) (n := 0) (i := 0) rfl rfl rfl ?_
              refine eb_getI (pc := 51) rfl ka0 (by decide) (by decide) rfl ?_
              refine eb_icmp_lt (pc := 54) (tgt := 59) rfl (by decide) (fun c186 => ?_) (fun c186 => ?_)
              · replace w := w.1 c186
                refine eb_aload_n (pc := 59) (n := 0) (i := 0) rfl rfl rfl ?_
                rcases q187 : eb_R h181 a0 8 with _ | r188
                · replace w := w.1 q187
                  refine eb_getN (pc := 60) rfl ka0 (by decide) (by decide) rfl q187 ?_
                  refine eb_ifnull_n (pc := 63) (tgt := 88) (by decide) rfl ?_
                  refine eb_iconst (pc := 88) (n := 3) (v := 3) rfl rfl ?_
                  exact eb_ireturn (pc := 89) rfl rfl rfl w
                · replace w := w.2 r188 q187
                  refine eb_getR (pc := 60) rfl ka0 (by decide) (by decide) rfl q187 ?_
                  refine eb_ifnull_r (pc := 63) rfl ?_
                  refine eb_aload_n (pc := 66) (n := 0) (i := 0) rfl rfl rfl ?_
                  refine eb_getR (pc := 67) rfl ka0 (by decide) (by decide) rfl q187 ?_
                  refine eb_iload (pc := 70) (i := 6) rfl rfl ?_
                  refine eb_iload (pc := 72) (i := 7) rfl rfl ?_
                  refine eb_iload_n (pc := 74) (n := 3) (i := 3) rfl rfl rfl ?_
                  refine eb_iload (pc := 75) (i := 4) rfl rfl ?_
                  refine eb_iload_n (pc := 77) (n := 2) (i := 2) rfl rfl rfl ?_
                  refine eb_iload (pc := 78) (i := 5) rfl rfl ?_
                  obtain ⟨k189, w⟩ := w
                  refine eb_ctV (pc := 80) (As := [.int (eb_I h r2 x2.toNatClampNeg), .int 0, .int x3, .int x4, .int x2, .int x5]) (rest := []) rfl (by decide) rfl k189 (by decide) rfl (Nat.le_of_ble_eq_true rfl) ?_
                  refine eb_Ct.mono w ?_
                  rintro r h190 ⟨y191, rfl, ko192, w⟩
                  change eb_Sn _ _ _ 83 _ [.int y191] _ _
                  refine eb_if_ne (pc := 83) (tgt := 88) rfl (by decide) (fun c193 => ?_) (fun c193 => ?_)
                  · replace w := w.1 c193
                    refine eb_iconst (pc := 88) (n := 3) (v := 3) rfl rfl ?_
                    exact eb_ireturn (pc := 89) rfl rfl rfl w
                  · replace w := w.2 c193
                    refine eb_iconst (pc := 86) (n := 2) (v := 2) rfl rfl ?_
                    exact eb_ireturn (pc := 87) rfl rfl rfl w
              · replace w := w.2 c186
                refine eb_iconst (pc := 57) (n := 2) (v := 2) rfl rfl ?_
                exact eb_ireturn (pc := 58) rfl rfl rfl w
          · replace w := w.2 c184
            refine eb_iconst (pc := 41) (n := 1) (v := 1) rfl rfl ?_
            exact eb_ireturn (pc := 42) rfl rfl rfl w
      · replace w := w.2 c166
        refine eb_iload_n (pc := 4) (n := 1) (i := 1) rfl rfl rfl ?_
        refine eb_aload_n (pc := 5) (n := 0) (i := 0) rfl rfl rfl ?_
        refine eb_getR (pc := 6) rfl ka0 (by decide) (by decide) rfl q3 ?_
        refine eb_alen (pc := 9) rfl (by rw [k4]; decide) (by rw [k4]; decide) rfl ?_
        refine eb_icmp_ge (pc := 10) (tgt := 22) rfl (by decide) (fun c167 => ?_) (fun c167 => ?_)
        · replace w := w.1 c167
          refine eb_iconst (pc := 22) (n := 0) (v := 0) rfl rfl ?_
          refine eb_ireturn (pc := 23) rfl rfl rfl ?_
          change eb_Sn _ _ _ 12 _ [.int 0] _ _
          refine eb_istore (pc := 12) (i := 7) (ls2 := [(7, .int 0), (6, .int (eb_I h r2 x2.toNatClampNeg)), (0, .ref a0), (1, .int x1), (2, .int x2), (3, .int x3), (4, .int x4), (5, .int x5)]) (Nat.le_of_ble_eq_true rfl) rfl rfl ?_
          refine eb_aload_n (pc := 14) (n := 0) (i := 0) rfl rfl rfl ?_
          rcases q194 : eb_R h a0 7 with _ | r195
          · replace w := w.1 q194
            refine eb_getN (pc := 15) rfl ka0 (by decide) (by decide) rfl q194 ?_
            refine eb_ifnull_n (pc := 18) (tgt := 43) (by decide) rfl ?_
            refine eb_iload (pc := 43) (i := 5) rfl rfl ?_
            refine eb_iconst (pc := 45) (n := 1) (v := 1) rfl rfl ?_
            refine eb_icmp_lt (pc := 46) (tgt := 57) rfl (by decide) (fun c196 => ?_) (fun c196 => ?_)
            · replace w := w.1 c196
              refine eb_iconst (pc := 57) (n := 2) (v := 2) rfl rfl ?_
              exact eb_ireturn (pc := 58) rfl rfl rfl w
            · replace w := w.2 c196
              refine eb_iload_n (pc := 49) (n := 3) (i := 3) rfl rfl rfl ?_
              refine eb_aload_n (pc := 50) (n := 0) (i := 0) rfl rfl rfl ?_
              refine eb_getI (pc := 51) rfl ka0 (by decide) (by decide) rfl ?_
              refine eb_icmp_lt (pc := 54) (tgt := 59) rfl (by decide) (fun c197 => ?_) (fun c197 => ?_)
              · replace w := w.1 c197
                refine eb_aload_n (pc := 59) (n := 0) (i := 0) rfl rfl rfl ?_
                rcases q198 : eb_R h a0 8 with _ | r199
                · replace w := w.1 q198
                  refine eb_getN (pc := 60) rfl ka0 (by decide) (by decide) rfl q198 ?_
                  refine eb_ifnull_n (pc := 63) (tgt := 88) (by decide) rfl ?_
                  refine eb_iconst (pc := 88) (n := 3) (v := 3) rfl rfl ?_
                  exact eb_ireturn (pc := 89) rfl rfl rfl w
                · replace w := w.2 r199 q198
                  refine eb_getR (pc := 60) rfl ka0 (by decide) (by decide) rfl q198 ?_
                  refine eb_ifnull_r (pc := 63) rfl ?_
                  refine eb_aload_n (pc := 66) (n := 0) (i := 0) rfl rfl rfl ?_
                  refine eb_getR (pc := 67) rfl ka0 (by decide) (by decide) rfl q198 ?_
                  refine eb_iload (pc := 70) (i := 6) rfl rfl ?_
                  refine eb_iload (pc := 72) (i := 7) rfl rfl ?_
                  refine eb_iload_n (pc := 74) (n := 3) (i := 3) rfl rfl rfl ?_
                  refine eb_iload (pc := 75) (i := 4) rfl rfl ?_
                  refine eb_iload_n (pc := 77) (n := 2) (i := 2) rfl rfl rfl ?_
                  refine eb_iload (pc := 78) (i := 5) rfl rfl ?_
                  obtain ⟨k200, w⟩ := w
                  refine eb_ctV (pc := 80) (As := [.int (eb_I h r2 x2.toNatClampNeg), .int 0, .int x3, .int x4, .int x2, .int x5]) (rest := []) rfl (by decide) rfl k200 (by decide) rfl (Nat.le_of_ble_eq_true rfl) ?_
                  refine eb_Ct.mono w ?_
                  rintro r h201 ⟨y202, rfl, ko203, w⟩
                  change eb_Sn _ _ _ 83 _ [.int y202] _ _
                  refine eb_if_ne (pc := 83) (tgt := 88) rfl (by decide) (fun c204 => ?_) (fun c204 => ?_)
                  · replace w := w.1 c204
                    refine eb_iconst (pc := 88) (n := 3) (v := 3) rfl rfl ?_
                    exact eb_ireturn (pc := 89) rfl rfl rfl w
                  · replace w := w.2 c204
                    refine eb_iconst (pc := 86) (n := 2) (v := 2) rfl rfl ?_
                    exact eb_ireturn (pc := 87) rfl rfl rfl w
              · replace w := w.2 c197
                refine eb_iconst (pc := 57) (n := 2) (v := 2) rfl rfl ?_
                exact eb_ireturn (pc := 58) rfl rfl rfl w
          · replace w := w.2 r195 q194
            refine eb_getR (pc := 15) rfl ka0 (by decide) (by decide) rfl q194 ?_
            refine eb_ifnull_r (pc := 18) rfl ?_
            refine eb_aload_n (pc := 21) (n := 0) (i := 0) rfl rfl rfl ?_
            refine eb_getR (pc := 22) rfl ka0 (by decide) (by decide) rfl q194 ?_
            refine eb_iload (pc := 25) (i := 6) rfl rfl ?_
            refine eb_iload (pc := 27) (i := 7) rfl rfl ?_
            refine eb_iload_n (pc := 29) (n := 3) (i := 3) rfl rfl rfl ?_
            refine eb_iload (pc := 30) (i := 4) rfl rfl ?_
            refine eb_iload_n (pc := 32) (n := 2) (i := 2) rfl rfl rfl ?_
            refine eb_iload (pc := 33) (i := 5) rfl rfl ?_
            obtain ⟨k205, w⟩ := w
            refine eb_ctV (pc := 35) (As := [.int (eb_I h r2 x2.toNatClampNeg), .int 0, .int x3, .int x4, .int x2, .int x5]) (rest := []) rfl (by decide) rfl k205 (by decide) rfl (Nat.le_of_ble_eq_true rfl) ?_
            refine eb_Ct.mono w ?_
            rintro r h206 ⟨y207, rfl, ko208, w⟩
            change eb_Sn _ _ _ 38 _ [.int y207] _ _
            refine eb_if_ne (pc := 38) (tgt := 43) rfl (by decide) (fun c209 => ?_) (fun c209 => ?_)
            · replace w := w.1 c209
              refine eb_iload (pc := 43) (i := 5) rfl rfl ?_
              refine eb_iconst (pc := 45) (n := 1) (v := 1) rfl rfl ?_
              refine eb_icmp_lt (pc := 46) (tgt := 57) rfl (by decide) (fun c210 => ?_) (fun c210 => ?_)
              · replace w := w.1 c210
                refine eb_iconst (pc := 57) (n := 2) (v := 2) rfl rfl ?_
                exact eb_ireturn (pc := 58) rfl rfl rfl w
              · replace w := w.2 c210
                refine eb_iload_n (pc := 49) (n := 3) (i := 3) rfl rfl rfl ?_
                refine eb_aload_n (pc := 50) (n := 0) (i := 0) rfl rfl rfl ?_
                refine eb_getI (pc := 51) rfl ka0 (by decide) (by decide) rfl ?_
                refine eb_icmp_lt (pc := 54) (tgt := 59) rfl (by decide) (fun c211 => ?_) (fun c211 => ?_)
                · replace w := w.1 c211
                  refine eb_aload_n (pc := 59) (n := 0) (i := 0) rfl rfl rfl ?_
                  rcases q212 : eb_R h206 a0 8 with _ | r213
                  · replace w := w.1 q212
                    refine eb_getN (pc := 60) rfl ka0 (by decide) (by decide) rfl q212 ?_
                    refine eb_ifnull_n (pc := 63) (tgt := 88) (by decide) rfl ?_
                    refine eb_iconst (pc := 88) (n := 3) (v := 3) rfl rfl ?_
                    exact eb_ireturn (pc := 89) rfl rfl rfl w
                  · replace w := w.2 r213 q212
                    refine eb_getR (pc := 60) rfl ka0 (by decide) (by decide) rfl q212 ?_
                    refine eb_ifnull_r (pc := 63) rfl ?_
                    refine eb_aload_n (pc := 66) (n := 0) (i := 0) rfl rfl rfl ?_
                    refine eb_getR (pc := 67) rfl ka0 (by decide) (by decide) rfl q212 ?_
                    refine eb_iload (pc := 70) (i := 6) rfl rfl ?_
                    refine eb_iload (pc := 72) (i := 7) rfl rfl ?_
                    refine eb_iload_n (pc := 74) (n := 3) (i := 3) rfl rfl rfl ?_
                    refine eb_iload (pc := 75) (i := 4) rfl rfl ?_
                    refine eb_iload_n (pc := 77) (n := 2) (i := 2) rfl rfl rfl ?_
                    refine eb_iload (pc := 78) (i := 5) rfl rfl ?_
                    obtain ⟨k214, w⟩ := w
                    refine eb_ctV (pc := 80) (As := [.int (eb_I h r2 x2.toNatClampNeg), .int 0, .int x3, .int x4, .int x2, .int x5]) (rest := []) rfl (by decide) rfl k214 (by decide) rfl (Nat.le_of_ble_eq_true rfl) ?_
                    refine eb_Ct.mono w ?_
                    rintro r h215 ⟨y216, rfl, ko217, w⟩
                    change eb_Sn _ _ _ 83 _ [.int y216] _ _
                    refine eb_if_ne (pc := 83) (tgt := 88) rfl (by decide) (fun c218 => ?_) (fun c218 => ?_)
                    · replace w := w.1 c218
                      refine eb_iconst (pc := 88) (n := 3) (v := 3) rfl rfl ?_
                      exact eb_ireturn (pc := 89) rfl rfl rfl w
                    · replace w := w.2 c218
                      refine eb_iconst (pc := 86) (n := 2) (v := 2) rfl rfl ?_
                      exact eb_ireturn (pc := 87) rfl rfl rfl w
                · replace w := w.2 c211
                  refine eb_iconst (pc := 57) (n := 2) (v := 2) rfl rfl ?_
                  exact eb_ireturn (pc := 58) rfl rfl rfl w
            · replace w := w.2 c209
              refine eb_iconst (pc := 41) (n := 1) (v := 1) rfl rfl ?_
              exact eb_ireturn (pc := 42) rfl rfl rfl w
        · replace w := w.2 c167
          refine eb_aload_n (pc := 13) (n := 0) (i := 0) rfl rfl rfl ?_
          refine eb_getR (pc := 14) rfl ka0 (by decide) (by decide) rfl q3 ?_
          refine eb_iload_n (pc := 17) (n := 1) (i := 1) rfl rfl rfl ?_
          obtain ⟨c168, w⟩ := w
          refine eb_iaload (pc := 18) rfl k4 (by decide) c168 ?_
          refine eb_goto (pc := 19) (tgt := 23) rfl (by decide) ?_
          refine eb_ireturn (pc := 23) rfl rfl rfl ?_
          change eb_Sn _ _ _ 12 _ [.int (eb_I h r2 x1.toNatClampNeg)] _ _
          refine eb_istore (pc := 12) (i := 7) (ls2 := [(7, .int (eb_I h r2 x1.toNatClampNeg)), (6, .int (eb_I h r2 x2.toNatClampNeg)), (0, .ref a0), (1, .int x1), (2, .int x2), (3, .int x3), (4, .int x4), (5, .int x5)]) (Nat.le_of_ble_eq_true rfl) rfl rfl ?_
          refine eb_aload_n (pc := 14) (n := 0) (i := 0) rfl rfl rfl ?_
          rcases q219 : eb_R h a0 7 with _ | r220
          · replace w := w.1 q219
            refine eb_getN (pc := 15) rfl ka0 (by decide) (by decide) rfl q219 ?_
            refine eb_ifnull_n (pc := 18) (tgt := 43) (by decide) rfl ?_
            refine eb_iload (pc := 43) (i := 5) rfl rfl ?_
            refine eb_iconst (pc := 45) (n := 1) (v := 1) rfl rfl ?_
            refine eb_icmp_lt (pc := 46) (tgt := 57) rfl (by decide) (fun c221 => ?_) (fun c221 => ?_)
            · replace w := w.1 c221
              refine eb_iconst (pc := 57) (n := 2) (v := 2) rfl rfl ?_
              exact eb_ireturn (pc := 58) rfl rfl rfl w
            · replace w := w.2 c221
              refine eb_iload_n (pc := 49) (n := 3) (i := 3) rfl rfl rfl ?_
              refine eb_aload_n (pc := 50) (n := 0) (i := 0) rfl rfl rfl ?_
              refine eb_getI (pc := 51) rfl ka0 (by decide) (by decide) rfl ?_
              refine eb_icmp_lt (pc := 54) (tgt := 59) rfl (by decide) (fun c222 => ?_) (fun c222 => ?_)
              · replace w := w.1 c222
                refine eb_aload_n (pc := 59) (n := 0) (i := 0) rfl rfl rfl ?_
                rcases q223 : eb_R h a0 8 with _ | r224
                · replace w := w.1 q223
                  refine eb_getN (pc := 60) rfl ka0 (by decide) (by decide) rfl q223 ?_
                  refine eb_ifnull_n (pc := 63) (tgt := 88) (by decide) rfl ?_
                  refine eb_iconst (pc := 88) (n := 3) (v := 3) rfl rfl ?_
                  exact eb_ireturn (pc := 89) rfl rfl rfl w
                · replace w := w.2 r224 q223
                  refine eb_getR (pc := 60) rfl ka0 (by decide) (by decide) rfl q223 ?_
                  refine eb_ifnull_r (pc := 63) rfl ?_
                  refine eb_aload_n (pc := 66) (n := 0) (i := 0) rfl rfl rfl ?_
                  refine eb_getR (pc := 67) rfl ka0 (by decide) (by decide) rfl q223 ?_
                  refine eb_iload (pc := 70) (i := 6) rfl rfl ?_
                  refine eb_iload (pc := 72) (i := 7) rfl rfl ?_
                  refine eb_iload_n (pc := 74) (n := 3) (i := 3) rfl rfl rfl ?_
                  refine eb_iload (pc := 75) (i := 4) rfl rfl ?_
                  refine eb_iload_n (pc := 77) (n := 2) (i := 2) rfl rfl rfl ?_
                  refine eb_iload (pc := 78) (i := 5) rfl rfl ?_
                  obtain ⟨k225, w⟩ := w
                  refine eb_ctV (pc := 80) (As := [.int (eb_I h r2 x2.toNatClampNeg), .int (eb_I h r2 x1.toNatClampNeg), .int x3, .int x4, .int x2, .int x5]) (rest := []) rfl (by decide) rfl k225 (by decide) rfl (Nat.le_of_ble_eq_true rfl) ?_
                  refine eb_Ct.mono w ?_
                  rintro r h226 ⟨y227, rfl, ko228, w⟩
                  change eb_Sn _ _ _ 83 _ [.int y227] _ _
                  refine eb_if_ne (pc := 83) (tgt := 88) rfl (by decide) (fun c229 => ?_) (fun c229 => ?_)
                  · replace w := w.1 c229
                    refine eb_iconst (pc := 88) (n := 3) (v := 3) rfl rfl ?_
                    exact eb_ireturn (pc := 89) rfl rfl rfl w
                  · replace w := w.2 c229
                    refine eb_iconst (pc := 86) (n := 2) (v := 2) rfl rfl ?_
                    exact eb_ireturn (pc := 87) rfl rfl rfl w
              · replace w := w.2 c222
                refine eb_iconst (pc := 57) (n := 2) (v := 2) rfl rfl ?_
                exact eb_ireturn (pc := 58) rfl rfl rfl w
          · replace w := w.2 r220 q219
            refine eb_getR (pc := 15) rfl ka0 (by decide) (by decide) rfl q219 ?_
            refine eb_ifnull_r (pc := 18) rfl ?_
            refine eb_aload_n (pc := 21) (n := 0) (i := 0) rfl rfl rfl ?_
            refine eb_getR (pc := 22) rfl ka0 (by decide) (by decide) rfl q219 ?_
            refine eb_iload (pc := 25) (i := 6) rfl rfl ?_
            refine eb_iload (pc := 27) (i := 7) rfl rfl ?_
            refine eb_iload_n (pc := 29) (n := 3) (i := 3) rfl rfl rfl ?_
            refine eb_iload (pc := 30) (i := 4) rfl rfl ?_
            refine eb_iload_n (pc := 32) (n := 2) (i := 2) rfl rfl rfl ?_
            refine eb_iload (pc := 33) (i := 5) rfl rfl ?_
            obtain ⟨k230, w⟩ := w
            refine eb_ctV (pc := 35) (As := [.int (eb_I h r2 x2.toNatClampNeg), .int (eb_I h r2 x1.toNatClampNeg), .int x3, .int x4, .int x2, .int x5]) (rest := []) rfl (by decide) rfl k230 (by decide) rfl (Nat.le_of_ble_eq_true rfl) ?_
            refine eb_Ct.mono w ?_
            rintro r h231 ⟨y232, rfl, ko233, w⟩
            change eb_Sn _ _ _ 38 _ [.int y232] _ _
            refine eb_if_ne (pc := 38) (tgt := 43) rfl (by decide) (fun c234 => ?_) (fun c234 => ?_)
            · replace w := w.1 c234
              refine eb_iload (pc := 43) (i := 5) rfl rfl ?_
              refine eb_iconst (pc := 45) (n := 1) (v := 1) rfl rfl ?_
              refine eb_icmp_lt (pc := 46) (tgt := 57) rfl (by decide) (fun c235 => ?_) (fun c235 => ?_)
              · replace w := w.1 c235
                refine eb_iconst (pc := 57) (n := 2) (v := 2) rfl rfl ?_
                exact eb_ireturn (pc := 58) rfl rfl rfl w
              · replace w := w.2 c235
                refine eb_iload_n (pc := 49) (n := 3) (i := 3) rfl rfl rfl ?_
                refine eb_aload_n (pc := 50) (n := 0) (i := 0) rfl rfl rfl ?_
                refine eb_getI (pc := 51) rfl ka0 (by decide) (by decide) rfl ?_
                refine eb_icmp_lt (pc := 54) (tgt := 59) rfl (by decide) (fun c236 => ?_) (fun c236 => ?_)
                · replace w := w.1 c236
                  refine eb_aload_n (pc := 59) (n := 0) (i := 0) rfl rfl rfl ?_
                  rcases q237 : eb_R h231 a0 8 with _ | r238
                  · replace w := w.1 q237
                    refine eb_getN (pc := 60) rfl ka0 (by decide) (by decide) rfl q237 ?_
                    refine eb_ifnull_n (pc := 63) (tgt := 88) (by decide) rfl ?_
                    refine eb_iconst (pc := 88) (n := 3) (v := 3) rfl rfl ?_
                    exact eb_ireturn (pc := 89) rfl rfl rfl w
                  · replace w := w.2 r238 q237
                    refine eb_getR (pc := 60) rfl ka0 (by decide) (by decide) rfl q237 ?_
                    refine eb_ifnull_r (pc := 63) rfl ?_
                    refine eb_aload_n (pc := 66) (n := 0) (i := 0) rfl rfl rfl ?_
                    refine eb_getR (pc := 67) rfl ka0 (by decide) (by decide) rfl q237 ?_
                    refine eb_iload (pc := 70) (i := 6) rfl rfl ?_
                    refine eb_iload (pc := 72) (i := 7) rfl rfl ?_
                    refine eb_iload_n (pc := 74) (n := 3) (i := 3) rfl rfl rfl ?_
                    refine eb_iload (pc := 75) (i := 4) rfl rfl ?_
                    refine eb_iload_n (pc := 77) (n := 2) (i := 2) rfl rfl rfl ?_
                    refine eb_iload (pc := 78) (i := 5) rfl rfl ?_
                    obtain ⟨k239, w⟩ := w
                    refine eb_ctV (pc := 80) (As := [.int (eb_I h r2 x2.toNatClampNeg), .int (eb_I h r2 x1.toNatClampNeg), .int x3, .int x4, .int x2, .int x5]) (rest := []) rfl (by decide) rfl k239 (by decide) rfl (Nat.le_of_ble_eq_true rfl) ?_
                    refine eb_Ct.mono w ?_
                    rintro r h240 ⟨y241, rfl, ko242, w⟩
                    change eb_Sn _ _ _ 83 _ [.int y241] _ _
                    refine eb_if_ne (pc := 83) (tgt := 88) rfl (by decide) (fun c243 => ?_) (fun c243 => ?_)
                    · replace w := w.1 c243
                      refine eb_iconst (pc := 88) (n := 3) (v := 3) rfl rfl ?_
                      exact eb_ireturn (pc := 89) rfl rfl rfl w
                    · replace w := w.2 c243
                      refine eb_iconst (pc := 86) (n := 2) (v := 2) rfl rfl ?_
                      exact eb_ireturn (pc := 87) rfl rfl rfl w
                · replace w := w.2 c236
                  refine eb_iconst (pc := 57) (n := 2) (v := 2) rfl rfl ?_
                  exact eb_ireturn (pc := 58) rfl rfl rfl w
            · replace w := w.2 c234
              refine eb_iconst (pc := 41) (n := 1) (v := 1) rfl rfl ?_
              exact eb_ireturn (pc := 42) rfl rfl rfl w
theorem T_X9_verdict {d : Nat} {h : eb_H} {Q : Option Value → eb_H → Prop} (a0 : Nat) (x1 : Int32) (x2 : Int32) (x3 : Int32) (x4 : Int32) (x5 : Int32) (ka0 : eb_kd a0 = 9) (ko : eb_KO h) (w : ((x2 < 0 → ((x1 < 0 → ((eb_R h a0 7 = none → ((x5 < (1 : Int32) → Q (some (.int 2)) h) ∧ (¬ (x5 < (1 : Int32)) → ((x3 < (eb_I h a0 2) → ((eb_R h a0 8 = none → Q (some (.int 3)) h) ∧ (∀ r18, eb_R h a0 8 = some r18 → (eb_kd r18 = 2) ∧ eb_Ct d 25 [.ref r18, .int 0, .int 0, .int x3, .int x4, .int x2, .int x5] h (fun r h20 => ∃ y21, r = some (.int y21) ∧ eb_KO h20 ∧ ((¬ y21 = 0 → Q (some (.int 3)) h20) ∧ (y21 = 0 → Q (some (.int 2)) h20)))))) ∧ (¬ (x3 < (eb_I h a0 2)) → Q (some (.int 2)) h))))) ∧ (∀ r14, eb_R h a0 7 = some r14 → (eb_kd r14 = 2) ∧ eb_Ct d 25 [.ref r14, .int 0, .int 0, .int x3, .int x4, .int x2, .int x5] h (fun r h25 => ∃ y26, r = some (.int y26) ∧ eb_KO h25 ∧ ((¬ y26 = 0 → ((x5 < (1 : Int32) → Q (some (.int 2)) h25) ∧ (¬ (x5 < (1 : Int32)) → ((x3 < (eb_I h25 a0 2) → ((eb_R h25 a0 8 = none → Q (some (.int 3)) h25) ∧ (∀ r32, eb_R h25 a0 8 = some r32 → (eb_kd r32 = 2) ∧ eb_Ct d 25 [.ref r32, .int 0, .int 0, .int x3, .int x4, .int x2, .int x5] h25 (fun r h34 => ∃ y35, r = some (.int y35) ∧ eb_KO h34 ∧ ((¬ y35 = 0 → Q (some (.int 3)) h34) ∧ (y35 = 0 → Q (some (.int 2)) h34)))))) ∧ (¬ (x3 < (eb_I h25 a0 2)) → Q (some (.int 2)) h25))))) ∧ (y26 = 0 → Q (some (.int 1)) h25)))))) ∧ (¬ (x1 < 0) → ∃ r8, eb_R h a0 6 = some r8 ∧ eb_kd r8 = 13 ∧ (((Int32.ofNat (eb_ln r8)) ≤ x1 → ((eb_R h a0 7 = none → ((x5 < (1 : Int32) → Q (some (.int 2)) h) ∧ (¬ (x5 < (1 : Int32)) → ((x3 < (eb_I h a0 2) → ((eb_R h a0 8 = none → Q (some (.int 3)) h) ∧ (∀ r43, eb_R h a0 8 = some r43 → (eb_kd r43 = 2) ∧ eb_Ct d 25 [.ref r43, .int 0, .int 0, .int x3, .int x4, .int x2, .int x5] h (fun r h45 => ∃ y46, r = some (.int y46) ∧ eb_KO h45 ∧ ((¬ y46 = 0 → Q (some (.int 3)) h45) ∧ (y46 = 0 → Q (some (.int 2)) h45)))))) ∧ (¬ (x3 < (eb_I h a0 2)) → Q (some (.int 2)) h))))) ∧ (∀ r39, eb_R h a0 7 = some r39 → (eb_kd r39 = 2) ∧ eb_Ct d 25 [.ref r39, .int 0, .int 0, .int x3, .int x4, .int x2, .int x5] h (fun r h50 => ∃ y51, r = some (.int y51) ∧ eb_KO h50 ∧ ((¬ y51 = 0 → ((x5 < (1 : Int32) → Q (some (.int 2)) h50) ∧ (¬ (x5 < (1 : Int32)) → ((x3 < (eb_I h50 a0 2) → ((eb_R h50 a0 8 = none → Q (some (.int 3)) h50) ∧ (∀ r57, eb_R h50 a0 8 = some r57 → (eb_kd r57 = 2) ∧ eb_Ct d 25 [.ref r57, .int 0, .int 0, .int x3, .int x4, .int x2, .int x5] h50 (fun r h59 => ∃ y60, r = some (.int y60) ∧ eb_KO h59 ∧ ((¬ y60 = 0 → Q (some (.int 3)) h59) ∧ (y60 = 0 → Q (some (.int 2)) h59)))))) ∧ (¬ (x3 < (eb_I h50 a0 2)) → Q (some (.int 2)) h50))))) ∧ (y51 = 0 → Q (some (.int 1)) h50)))))) ∧ (¬ ((Int32.ofNat (eb_ln r8)) ≤ x1) → (vp_in x1 (eb_ln r8)) ∧ ((eb_R h a0 7 = none → ((x5 < (1 : Int32) → Q (some (.int 2)) h) ∧ (¬ (x5 < (1 : Int32)) → ((x3 < (eb_I h a0 2) → ((eb_R h a0 8 = none → Q (some (.int 3)) h) ∧ (∀ r68, eb_R h a0 8 = some r68 → (eb_kd r68 = 2) ∧ eb_Ct d 25 [.ref r68, .int 0, .int (eb_I h r8 x1.toNatClampNeg), .int x3, .int x4, .int x2, .int x5] h (fun r h70 => ∃ y71, r = some (.int y71) ∧ eb_KO h70 ∧ ((¬ y71 = 0 → Q (some (.int 3)) h70) ∧ (y71 = 0 → Q (some (.int 2)) h70)))))) ∧ (¬ (x3 < (eb_I h a0 2)) → Q (some (.int 2)) h))))) ∧ (∀ r64, eb_R h a0 7 = some r64 → (eb_kd r64 = 2) ∧ eb_Ct d 25 [.ref r64, .int 0, .int (eb_I h r8 x1.toNatClampNeg), .int x3, .int x4, .int x2, .int x5] h (fun r h75 => ∃ y76, r = some (.int y76) ∧ eb_KO h75 ∧ ((¬ y76 = 0 → ((x5 < (1 : Int32) → Q (some (.int 2)) h75) ∧ (¬ (x5 < (1 : Int32)) → ((x3 < (eb_I h75 a0 2) → ((eb_R h75 a0 8 = none → Q (some (.int 3)) h75) ∧ (∀ r82, eb_R h75 a0 8 = some r82 → (eb_kd r82 = 2) ∧ eb_Ct d 25 [.ref r82, .int 0, .int (eb_I h r8 x1.toNatClampNeg), .int x3, .int x4, .int x2, .int x5] h75 (fun r h84 => ∃ y85, r = some (.int y85) ∧ eb_KO h84 ∧ ((¬ y85 = 0 → Q (some (.int 3)) h84) ∧ (y85 = 0 → Q (some (.int 2)) h84)))))) ∧ (¬ (x3 < (eb_I h75 a0 2)) → Q (some (.int 2)) h75))))) ∧ (y76 = 0 → Q (some (.int 1)) h75)))))))))) ∧ (¬ (x2 < 0) → ∃ r2, eb_R h a0 6 = some r2 ∧ eb_kd r2 = 13 ∧ (((Int32.ofNat (eb_ln r2)) ≤ x2 → ((x1 < 0 → ((eb_R h a0 7 = none → ((x5 < (1 : Int32) → Q (some (.int 2)) h) ∧ (¬ (x5 < (1 : Int32)) → ((x3 < (eb_I h a0 2) → ((eb_R h a0 8 = none → Q (some (.int 3)) h) ∧ (∀ r96, eb_R h a0 8 = some r96 → (eb_kd r96 = 2) ∧ eb_Ct d 25 [.ref r96, .int 0, .int 0, .int x3, .int x4, .int x2, .int x5] h (fun r h98 => ∃ y99, r = some (.int y99) ∧ eb_KO h98 ∧ ((¬ y99 = 0 → Q (some (.int 3)) h98) ∧ (y99 = 0 → Q (some (.int 2)) h98)))))) ∧ (¬ (x3 < (eb_I h a0 2)) → Q (some (.int 2)) h))))) ∧ (∀ r92, eb_R h a0 7 = some r92 → (eb_kd r92 = 2) ∧ eb_Ct d 25 [.ref r92, .int 0, .int 0, .int x3, .int x4, .int x2, .int x5] h (fun r h103 => ∃ y104, r = some (.int y104) ∧ eb_KO h103 ∧ ((¬ y104 = 0 → ((x5 < (1 : Int32) → Q (some (.int 2)) h103) ∧ (¬ (x5 < (1 : Int32)) → ((x3 < (eb_I h103 a0 2) → ((eb_R h103 a0 8 = none → Q (some (.int 3)) h103) ∧ (∀ r110, eb_R h103 a0 8 = some r110 → (eb_kd r110 = 2) ∧ eb_Ct d 25 [.ref r110, .int 0, .int 0, .int x3, .int x4, .int x2, .int x5] h103 (fun r h112 => ∃ y113, r = some (.int y113) ∧ eb_KO h112 ∧ ((¬ y113 = 0 → Q (some (.int 3)) h112) ∧ (y113 = 0 → Q (some (.int 2)) h112)))))) ∧ (¬ (x3 < (eb_I h103 a0 2)) → Q (some (.int 2)) h103))))) ∧ (y104 = 0 → Q (some (.int 1)) h103)))))) ∧ (¬ (x1 < 0) → (((Int32.ofNat (eb_ln r2)) ≤ x1 → ((eb_R h a0 7 = none → ((x5 < (1 : Int32) → Q (some (.int 2)) h) ∧ (¬ (x5 < (1 : Int32)) → ((x3 < (eb_I h a0 2) → ((eb_R h a0 8 = none → Q (some (.int 3)) h) ∧ (∀ r121, eb_R h a0 8 = some r121 → (eb_kd r121 = 2) ∧ eb_Ct d 25 [.ref r121, .int 0, .int 0, .int x3, .int x4, .int x2, .int x5] h (fun r h123 => ∃ y124, r = some (.int y124) ∧ eb_KO h123 ∧ ((¬ y124 = 0 → Q (some (.int 3)) h123) ∧ (y124 = 0 → Q (some (.int 2)) h123)))))) ∧ (¬ (x3 < (eb_I h a0 2)) → Q (some (.int 2)) h))))) ∧ (∀ r117, eb_R h a0 7 = some r117 → (eb_kd r117 = 2) ∧ eb_Ct d 25 [.ref r117, .int 0, .int 0, .int x3, .int x4, .int x2, .int x5] h (fun r h128 => ∃ y129, r = some (.int y129) ∧ eb_KO h128 ∧ ((¬ y129 = 0 → ((x5 < (1 : Int32) → Q (some (.int 2)) h128) ∧ (¬ (x5 < (1 : Int32)) → ((x3 < (eb_I h128 a0 2) → ((eb_R h128 a0 8 = none → Q (some (.int 3)) h128) ∧ (∀ r135, eb_R h128 a0 8 = some r135 → (eb_kd r135 = 2) ∧ eb_Ct d 25 [.ref r135, .int 0, .int 0, .int x3, .int x4, .int x2, .int x5] h128 (fun r h137 => ∃ y138, r = some (.int y138) ∧ eb_KO h137 ∧ ((¬ y138 = 0 → Q (some (.int 3)) h137) ∧ (y138 = 0 → Q (some (.int 2)) h137)))))) ∧ (¬ (x3 < (eb_I h128 a0 2)) → Q (some (.int 2)) h128))))) ∧ (y129 = 0 → Q (some (.int 1)) h128)))))) ∧ (¬ ((Int32.ofNat (eb_ln r2)) ≤ x1) → (vp_in x1 (eb_ln r2)) ∧ ((eb_R h a0 7 = none → ((x5 < (1 : Int32) → Q (some (.int 2)) h) ∧ (¬ (x5 < (1 : Int32)) → ((x3 < (eb_I h a0 2) → ((eb_R h a0 8 = none → Q (some (.int 3)) h) ∧ (∀ r146, eb_R h a0 8 = some r146 → (eb_kd r146 = 2) ∧ eb_Ct d 25 [.ref r146, .int 0, .int (eb_I h r2 x1.toNatClampNeg), .int x3, .int x4, .int x2, .int x5] h (fun r h148 => ∃ y149, r = some (.int y149) ∧ eb_KO h148 ∧ ((¬ y149 = 0 → Q (some (.int 3)) h148) ∧ (y149 = 0 → Q (some (.int 2)) h148)))))) ∧ (¬ (x3 < (eb_I h a0 2)) → Q (some (.int 2)) h))))) ∧ (∀ r142, eb_R h a0 7 = some r142 → (eb_kd r142 = 2) ∧ eb_Ct d 25 [.ref r142, .int 0, .int (eb_I h r2 x1.toNatClampNeg), .int x3, .int x4, .int x2, .int x5] h (fun r h153 => ∃ y154, r = some (.int y154) ∧ eb_KO h153 ∧ ((¬ y154 = 0 → ((x5 < (1 : Int32) → Q (some (.int 2)) h153) ∧ (¬ (x5 < (1 : Int32)) → ((x3 < (eb_I h153 a0 2) → ((eb_R h153 a0 8 = none → Q (some (.int 3)) h153) ∧ (∀ r160, eb_R h153 a0 8 = some r160 → (eb_kd r160 = 2) ∧ eb_Ct d 25 [.ref r160, .int 0, .int (eb_I h r2 x1.toNatClampNeg), .int x3, .int x4, .int x2, .int x5] h153 (fun r h162 => ∃ y163, r = some (.int y163) ∧ eb_KO h162 ∧ ((¬ y163 = 0 → Q (some (.int 3)) h162) ∧ (y163 = 0 → Q (some (.int 2)) h162)))))) ∧ (¬ (x3 < (eb_I h153 a0 2)) → Q (some (.int 2)) h153))))) ∧ (y154 = 0 → Q (some (.int 1)) h153)))))))))) ∧ (¬ ((Int32.ofNat (eb_ln r2)) ≤ x2) → (vp_in x2 (eb_ln r2)) ∧ ((x1 < 0 → ((eb_R h a0 7 = none → ((x5 < (1 : Int32) → Q (some (.int 2)) h) ∧ (¬ (x5 < (1 : Int32)) → ((x3 < (eb_I h a0 2) → ((eb_R h a0 8 = none → Q (some (.int 3)) h) ∧ (∀ r174, eb_R h a0 8 = some r174 → (eb_kd r174 = 2) ∧ eb_Ct d 25 [.ref r174, .int (eb_I h r2 x2.toNatClampNeg), .int 0, .int x3, .int x4, .int x2, .int x5] h (fun r h176 => ∃ y177, r = some (.int y177) ∧ eb_KO h176 ∧ ((¬ y177 = 0 → Q (some (.int 3)) h176) ∧ (y177 = 0 → Q (some (.int 2)) h176)))))) ∧ (¬ (x3 < (eb_I h a0 2)) → Q (some (.int 2)) h))))) ∧ (∀ r170, eb_R h a0 7 = some r170 → (eb_kd r170 = 2) ∧ eb_Ct d 25 [.ref r170, .int (eb_I h r2 x2.toNatClampNeg), .int 0, .int x3, .int x4, .int x2, .int x5] h (fun r h181 => ∃ y182, r = some (.int y182) ∧ eb_KO h181 ∧ ((¬ y182 = 0 → ((x5 < (1 : Int32) → Q (some (.int 2)) h181) ∧ (¬ (x5 < (1 : Int32)) → ((x3 < (eb_I h181 a0 2) → ((eb_R h181 a0 8 = none → Q (some (.int 3)) h181) ∧ (∀ r188, eb_R h181 a0 8 = some r188 → (eb_kd r188 = 2) ∧ eb_Ct d 25 [.ref r188, .int (eb_I h r2 x2.toNatClampNeg), .int 0, .int x3, .int x4, .int x2, .int x5] h181 (fun r h190 => ∃ y191, r = some (.int y191) ∧ eb_KO h190 ∧ ((¬ y191 = 0 → Q (some (.int 3)) h190) ∧ (y191 = 0 → Q (some (.int 2)) h190)))))) ∧ (¬ (x3 < (eb_I h181 a0 2)) → Q (some (.int 2)) h181))))) ∧ (y182 = 0 → Q (some (.int 1)) h181)))))) ∧ (¬ (x1 < 0) → (((Int32.ofNat (eb_ln r2)) ≤ x1 → ((eb_R h a0 7 = none → ((x5 < (1 : Int32) → Q (some (.int 2)) h) ∧ (¬ (x5 < (1 : Int32)) → ((x3 < (eb_I h a0 2) → ((eb_R h a0 8 = none → Q (some (.int 3)) h) ∧ (∀ r199, eb_R h a0 8 = some r199 → (eb_kd r199 = 2) ∧ eb_Ct d 25 [.ref r199, .int (eb_I h r2 x2.toNatClampNeg), .int 0, .int x3, .int x4, .int x2, .int x5] h (fun r h201 => ∃ y202, r = some (.int y202) ∧ eb_KO h201 ∧ ((¬ y202 = 0 → Q (some (.int 3)) h201) ∧ (y202 = 0 → Q (some (.int 2)) h201)))))) ∧ (¬ (x3 < (eb_I h a0 2)) → Q (some (.int 2)) h))))) ∧ (∀ r195, eb_R h a0 7 = some r195 → (eb_kd r195 = 2) ∧ eb_Ct d 25 [.ref r195, .int (eb_I h r2 x2.toNatClampNeg), .int 0, .int x3, .int x4, .int x2, .int x5] h (fun r h206 => ∃ y207, r = some (.int y207) ∧ eb_KO h206 ∧ ((¬ y207 = 0 → ((x5 < (1 : Int32) → Q (some (.int 2)) h206) ∧ (¬ (x5 < (1 : Int32)) → ((x3 < (eb_I h206 a0 2) → ((eb_R h206 a0 8 = none → Q (some (.int 3)) h206) ∧ (∀ r213, eb_R h206 a0 8 = some r213 → (eb_kd r213 = 2) ∧ eb_Ct d 25 [.ref r213, .int (eb_I h r2 x2.toNatClampNeg), .int 0, .int x3, .int x4, .int x2, .int x5] h206 (fun r h215 => ∃ y216, r = some (.int y216) ∧ eb_KO h215 ∧ ((¬ y216 = 0 → Q (some (.int 3)) h215) ∧ (y216 = 0 → Q (some (.int 2)) h215)))))) ∧ (¬ (x3 < (eb_I h206 a0 2)) → Q (some (.int 2)) h206))))) ∧ (y207 = 0 → Q (some (.int 1)) h206)))))) ∧ (¬ ((Int32.ofNat (eb_ln r2)) ≤ x1) → (vp_in x1 (eb_ln r2)) ∧ ((eb_R h a0 7 = none → ((x5 < (1 : Int32) → Q (some (.int 2)) h) ∧ (¬ (x5 < (1 : Int32)) → ((x3 < (eb_I h a0 2) → ((eb_R h a0 8 = none → Q (some (.int 3)) h) ∧ (∀ r224, eb_R h a0 8 = some r224 → (eb_kd r224 = 2) ∧ eb_Ct d 25 [.ref r224, .int (eb_I h r2 x2.toNatClampNeg), .int (eb_I h r2 x1.toNatClampNeg), .int x3, .int x4, .int x2, .int x5] h (fun r h226 => ∃ y227, r = some (.int y227) ∧ eb_KO h226 ∧ ((¬ y227 = 0 → Q (some (.int 3)) h226) ∧ (y227 = 0 → Q (some (.int 2)) h226)))))) ∧ (¬ (x3 < (eb_I h a0 2)) → Q (some (.int 2)) h))))) ∧ (∀ r220, eb_R h a0 7 = some r220 → (eb_kd r220 = 2) ∧ eb_Ct d 25 [.ref r220, .int (eb_I h r2 x2.toNatClampNeg), .int (eb_I h r2 x1.toNatClampNeg), .int x3, .int x4, .int x2, .int x5] h (fun r h231 => ∃ y232, r = some (.int y232) ∧ eb_KO h231 ∧ ((¬ y232 = 0 → ((x5 < (1 : Int32) → Q (some (.int 2)) h231) ∧ (¬ (x5 < (1 : Int32)) → ((x3 < (eb_I h231 a0 2) → ((eb_R h231 a0 8 = none → Q (some (.int 3)) h231) ∧ (∀ r238, eb_R h231 a0 8 = some r238 → (eb_kd r238 = 2) ∧ eb_Ct d 25 [.ref r238, .int (eb_I h r2 x2.toNatClampNeg), .int (eb_I h r2 x1.toNatClampNeg), .int x3, .int x4, .int x2, .int x5] h231 (fun r h240 => ∃ y241, r = some (.int y241) ∧ eb_KO h240 ∧ ((¬ y241 = 0 → Q (some (.int 3)) h240) ∧ (y241 = 0 → Q (some (.int 2)) h240)))))) ∧ (¬ (x3 < (eb_I h231 a0 2)) → Q (some (.int 2)) h231))))) ∧ (y232 = 0 → Q (some (.int 1)) h231)))))))))))))) : eb_Ct (d + 1) 88 [.ref a0, .int x1, .int x2, .int x3, .int x4, .int x5] h Q :=
  eb_bodyQ (by decide) ok_X9_verdict (Nat.le_of_ble_eq_true rfl) (b_X9_verdict_0 (h0 := h) a0 x1 x2 x3 x4 x5 ka0 ko w)
