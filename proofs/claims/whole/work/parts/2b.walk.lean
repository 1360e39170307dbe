theorem b_X0_init_0 {d : Nat} {h0 h : eb_H} {Q : Option Value → eb_H → Prop} (a0 : Nat) (ka0 : eb_kd a0 = 0) (w : ∀ h1, h1 = eb_sI h a0 0 0 → Q none h1) : eb_Sn (d + 1) m_X0_init h0 0 [(0, .ref a0)] [] h Q := by
  refine eb_aload_n (pc := 0) (n := 0) (i := 0) rfl rfl rfl ?_
  refine eb_objInit (pc := 1) rfl (by decide +kernel) (by omega) (Nat.le_of_ble_eq_true rfl) ?_
  refine eb_aload_n (pc := 4) (n := 0) (i := 0) rfl rfl rfl ?_
  refine eb_iconst (pc := 5) (n := 0) (v := 0) rfl rfl ?_
  refine eb_putI (pc := 6) rfl ka0 (by decide) (by decide) rfl rfl ⟨rfl, rfl⟩ ?_
  obtain ⟨h1, e2⟩ : ∃ z, z = eb_sI h a0 0 0 := ⟨_, rfl⟩
  rw [← e2]
  replace w := w h1 e2
  exact eb_return (pc := 9) rfl rfl w
theorem T_X0_init {d : Nat} {h : eb_H} {Q : Option Value → eb_H → Prop} (a0 : Nat) (ka0 : eb_kd a0 = 0) (w : ∀ h1, h1 = eb_sI h a0 0 0 → Q none h1) : eb_Ct (d + 1) 0 [.ref a0] h Q :=
  eb_bodyQ (by decide) ok_X0_init (Nat.le_of_ble_eq_true rfl) (b_X0_init_0 (h0 := h) a0 ka0 w)
theorem b_X0_nextDeed_0 {d : Nat} {h0 h : eb_H} {Q : Option Value → eb_H → Prop}   (ko : eb_KO h) (w : eb_Ct d 2 [.ref s_draws, .int 8] h (fun r h1 => ∃ y2, r = some (.int y2) ∧ eb_KO h1 ∧ ((y2 = 4 → eb_Ct d 2 [.ref s_draws, .int 16] h1 (fun r h4 => ∃ y5, r = some (.int y5) ∧ eb_KO h4 ∧ Q (some (.int ((100 : Int32) + y5))) h4)) ∧ (y2 = 5 → eb_Ct d 2 [.ref s_draws, .int 16] h1 (fun r h7 => ∃ y8, r = some (.int y8) ∧ eb_KO h7 ∧ eb_Ct d 2 [.ref s_draws, .int 7] h7 (fun r h10 => ∃ y11, r = some (.int y11) ∧ eb_KO h10 ∧ Q (some (.int (((1000 : Int32) + ((10 : Int32) * y8)) + y11))) h10))) ∧ (y2 = 6 → eb_Ct d 2 [.ref s_draws, .int 16] h1 (fun r h13 => ∃ y14, r = some (.int y14) ∧ eb_KO h13 ∧ Q (some (.int ((200 : Int32) + y14))) h13)) ∧ (y2 = 7 → eb_Ct d 2 [.ref s_draws, .int 10] h1 (fun r h16 => ∃ y17, r = some (.int y17) ∧ eb_KO h16 ∧ Q (some (.int ((300 : Int32) + y17))) h16)) ∧ (¬ y2 = 4 → ¬ y2 = 5 → ¬ y2 = 6 → ¬ y2 = 7 → eb_Ct d 2 [.ref s_draws, .int 4] h1 (fun r h19 => ∃ y20, r = some (.int y20) ∧ eb_KO h19 ∧ Q (some (.int y20)) h19))))) : eb_Sn (d + 1) m_X0_nextDeed h0 0 [(0, .ref s_draws)] [] h Q := by
  refine eb_aload_n (pc := 0) (n := 0) (i := 0) rfl rfl rfl ?_
  refine eb_bipush (pc := 1) (n := 8) (v := 8) rfl rfl ?_
  refine eb_ctV (pc := 3) (As := [.int 8]) (rest := []) rfl (by decide) rfl rfl (by decide) rfl (Nat.le_of_ble_eq_true rfl) ?_
  refine eb_Ct.mono w ?_
  rintro r h1 ⟨y2, rfl, ko3, w⟩
  change eb_Sn _ _ _ 6 _ [.int y2] _ _
  refine eb_istore_n (pc := 6) (n := 1) (i := 1) (ls2 := [(1, .int y2), (0, .ref s_draws)]) rfl (Nat.le_of_ble_eq_true rfl) rfl rfl ?_
  refine eb_iload_n (pc := 7) (n := 1) (i := 1) rfl rfl rfl ?_
  by_cases s0 : y2 = 4
  · refine eb_tableIn (pc := 8) (j := 0) (tgt := 40) (by rw [s0]; decide) (by decide) (by rfl) (by decide) rfl ?_
    replace w := w.1 s0
    refine eb_bipush (pc := 40) (n := 100) (v := 100) rfl rfl ?_
    refine eb_aload_n (pc := 42) (n := 0) (i := 0) rfl rfl rfl ?_
    refine eb_bipush (pc := 43) (n := 16) (v := 16) rfl rfl ?_
    refine eb_ctV (pc := 45) (As := [.int 16]) (rest := [.int 100]) rfl (by decide) rfl rfl (by decide) rfl (Nat.le_of_ble_eq_true rfl) ?_
    refine eb_Ct.mono w ?_
    rintro r h4 ⟨y5, rfl, ko6, w⟩
    change eb_Sn _ _ _ 48 _ [.int y5, .int 100] _ _
    refine eb_iadd (pc := 48) rfl ?_
    exact eb_ireturn (pc := 49) rfl rfl rfl w
  by_cases s1 : y2 = 5
  · refine eb_tableIn (pc := 8) (j := 1) (tgt := 50) (by rw [s1]; decide) (by decide) (by rfl) (by decide) rfl ?_
    replace w := w.2.1 s1
    refine eb_sipush (pc := 50) (n := 1000) (v := 1000) rfl rfl ?_
    refine eb_bipush (pc := 53) (n := 10) (v := 10) rfl rfl ?_
    refine eb_aload_n (pc := 55) (n := 0) (i := 0) rfl rfl rfl ?_
    refine eb_bipush (pc := 56) (n := 16) (v := 16) rfl rfl ?_
    refine eb_ctV (pc := 58) (As := [.int 16]) (rest := [.int 10, .int 1000]) rfl (by decide) rfl rfl (by decide) rfl (Nat.le_of_ble_eq_true rfl) ?_
    refine eb_Ct.mono w ?_
    rintro r h7 ⟨y8, rfl, ko9, w⟩
    change eb_Sn _ _ _ 61 _ [.int y8, .int 10, .int 1000] _ _
    refine eb_imul (pc := 61) rfl ?_
    refine eb_iadd (pc := 62) rfl ?_
    refine eb_aload_n (pc := 63) (n := 0) (i := 0) rfl rfl rfl ?_
    refine eb_bipush (pc := 64) (n := 7) (v := 7) rfl rfl ?_
    refine eb_ctV (pc := 66) (As := [.int 7]) (rest := [.int ((1000 : Int32) + ((10 : Int32) * y8))]) rfl (by decide) rfl rfl (by decide) rfl (Nat.le_of_ble_eq_true rfl) ?_
    refine eb_Ct.mono w ?_
    rintro r h10 ⟨y11, rfl, ko12, w⟩
    change eb_Sn _ _ _ 69 _ [.int y11, .int ((1000 : Int32) + ((10 : Int32) * y8))] _ _
    refine eb_iadd (pc := 69) rfl ?_
    exact eb_ireturn (pc := 70) rfl rfl rfl w
  by_cases s2 : y2 = 6
  · refine eb_tableIn (pc := 8) (j := 2) (tgt := 71) (by rw [s2]; decide) (by decide) (by rfl) (by decide) rfl ?_
    replace w := w.2.2.1 s2
    refine eb_sipush (pc := 71) (n := 200) (v := 200) rfl rfl ?_
    refine eb_aload_n (pc := 74) (n := 0) (i := 0) rfl rfl rfl ?_
    refine eb_bipush (pc := 75) (n := 16) (v := 16) rfl rfl ?_
    refine eb_ctV (pc := 77) (As := [.int 16]) (rest := [.int 200]) rfl (by decide) rfl rfl (by decide) rfl (Nat.le_of_ble_eq_true rfl) ?_
    refine eb_Ct.mono w ?_
    rintro r h13 ⟨y14, rfl, ko15, w⟩
    change eb_Sn _ _ _ 80 _ [.int y14, .int 200] _ _
    refine eb_iadd (pc := 80) rfl ?_
    exact eb_ireturn (pc := 81) rfl rfl rfl w
  by_cases s3 : y2 = 7
  · refine eb_tableIn (pc := 8) (j := 3) (tgt := 82) (by rw [s3]; decide) (by decide) (by rfl) (by decide) rfl ?_
    replace w := w.2.2.2.1 s3
    refine eb_sipush (pc := 82) (n := 300) (v := 300) rfl rfl ?_
    refine eb_aload_n (pc := 85) (n := 0) (i := 0) rfl rfl rfl ?_
    refine eb_bipush (pc := 86) (n := 10) (v := 10) rfl rfl ?_
    refine eb_ctV (pc := 88) (As := [.int 10]) (rest := [.int 300]) rfl (by decide) rfl rfl (by decide) rfl (Nat.le_of_ble_eq_true rfl) ?_
    refine eb_Ct.mono w ?_
    rintro r h16 ⟨y17, rfl, ko18, w⟩
    change eb_Sn _ _ _ 91 _ [.int y17, .int 300] _ _
    refine eb_iadd (pc := 91) rfl ?_
    exact eb_ireturn (pc := 92) rfl rfl rfl w
  refine eb_tableOut (pc := 8) (tgt := 93) (by have z0 := lv_neT (a := 4) s0 (by decide); have z1 := lv_neT (a := 5) s1 (by decide); have z2 := lv_neT (a := 6) s2 (by decide); have z3 := lv_neT (a := 7) s3 (by decide); omega) (by decide) rfl ?_
  replace w := w.2.2.2.2 s0 s1 s2 s3
  refine eb_aload_n (pc := 93) (n := 0) (i := 0) rfl rfl rfl ?_
  refine eb_iconst (pc := 94) (n := 4) (v := 4) rfl rfl ?_
  refine eb_ctV (pc := 95) (As := [.int 4]) (rest := []) rfl (by decide) rfl rfl (by decide) rfl (Nat.le_of_ble_eq_true rfl) ?_
  refine eb_Ct.mono w ?_
  rintro r h19 ⟨y20, rfl, ko21, w⟩
  change eb_Sn _ _ _ 98 _ [.int y20] _ _
  exact eb_ireturn (pc := 98) rfl rfl rfl w
theorem T_X0_nextDeed {d : Nat} {h : eb_H} {Q : Option Value → eb_H → Prop}   (ko : eb_KO h) (w : eb_Ct d 2 [.ref s_draws, .int 8] h (fun r h1 => ∃ y2, r = some (.int y2) ∧ eb_KO h1 ∧ ((y2 = 4 → eb_Ct d 2 [.ref s_draws, .int 16] h1 (fun r h4 => ∃ y5, r = some (.int y5) ∧ eb_KO h4 ∧ Q (some (.int ((100 : Int32) + y5))) h4)) ∧ (y2 = 5 → eb_Ct d 2 [.ref s_draws, .int 16] h1 (fun r h7 => ∃ y8, r = some (.int y8) ∧ eb_KO h7 ∧ eb_Ct d 2 [.ref s_draws, .int 7] h7 (fun r h10 => ∃ y11, r = some (.int y11) ∧ eb_KO h10 ∧ Q (some (.int (((1000 : Int32) + ((10 : Int32) * y8)) + y11))) h10))) ∧ (y2 = 6 → eb_Ct d 2 [.ref s_draws, .int 16] h1 (fun r h13 => ∃ y14, r = some (.int y14) ∧ eb_KO h13 ∧ Q (some (.int ((200 : Int32) + y14))) h13)) ∧ (y2 = 7 → eb_Ct d 2 [.ref s_draws, .int 10] h1 (fun r h16 => ∃ y17, r = some (.int y17) ∧ eb_KO h16 ∧ Q (some (.int ((300 : Int32) + y17))) h16)) ∧ (¬ y2 = 4 → ¬ y2 = 5 → ¬ y2 = 6 → ¬ y2 = 7 → eb_Ct d 2 [.ref s_draws, .int 4] h1 (fun r h19 => ∃ y20, r = some (.int y20) ∧ eb_KO h19 ∧ Q (some (.int y20)) h19))))) : eb_Ct (d + 1) 1 [.ref s_draws] h Q :=
  eb_bodyQ (by decide) ok_X0_nextDeed (Nat.le_of_ble_eq_true rfl) (b_X0_nextDeed_0 (h0 := h)   ko w)
theorem b_X0_drawn_0 {d : Nat} {h0 h : eb_H} {Q : Option Value → eb_H → Prop} (x1 : Int32)  (ko : eb_KO h) (w : (((1 : Int32) ≤ x1 → (¬ x1 = 0) ∧ Q (some (.int ((((eb_I (eb_sI h s_draws 0 (((1103515245 : Int32) * (eb_I h s_draws 0)) + 12345)) s_draws 0).toUInt32 >>> ((16 : Int32).toUInt32 &&& Int32.toUInt32 31)).toInt32) - (((eb_I (eb_sI h s_draws 0 (((1103515245 : Int32) * (eb_I h s_draws 0)) + 12345)) s_draws 0).toUInt32 >>> ((16 : Int32).toUInt32 &&& Int32.toUInt32 31)).toInt32) / x1 * x1))) (eb_sI h s_draws 0 (((1103515245 : Int32) * (eb_I h s_draws 0)) + 12345))) ∧ (¬ ((1 : Int32) ≤ x1) → Q (some (.int 0)) (eb_sI h s_draws 0 (((1103515245 : Int32) * (eb_I h s_draws 0)) + 12345))))) : eb_Sn d m_X0_drawn h0 0 [(0, .ref s_draws), (1, .int x1)] [] h Q := by
  refine eb_aload_n (pc := 0) (n := 0) (i := 0) rfl rfl rfl ?_
  refine eb_ldc (pc := 1) (a := 1103515245) (v := 1103515245) rfl (by decide) ?_
  refine eb_aload_n (pc := 3) (n := 0) (i := 0) rfl rfl rfl ?_
  refine eb_getI (pc := 4) rfl rfl (by decide) (by decide) rfl ?_
  refine eb_imul (pc := 7) rfl ?_
  refine eb_sipush (pc := 8) (n := 12345) (v := 12345) rfl rfl ?_
  refine eb_iadd (pc := 11) rfl ?_
  refine eb_putI (pc := 12) rfl rfl (by decide) (by decide) rfl rfl ⟨rfl, rfl⟩ ?_
  refine eb_iload_n (pc := 15) (n := 1) (i := 1) rfl rfl rfl ?_
  refine eb_iconst (pc := 16) (n := 1) (v := 1) rfl rfl ?_
  refine eb_icmp_ge (pc := 17) (tgt := 24) rfl (by decide) (fun c1 => ?_) (fun c1 => ?_)
  · replace w := w.1 c1
    refine eb_aload_n (pc := 24) (n := 0) (i := 0) rfl rfl rfl ?_
    refine eb_getI (pc := 25) rfl rfl (by decide) (by decide) rfl ?_
    refine eb_bipush (pc := 28) (n := 16) (v := 16) rfl rfl ?_
    refine eb_iushr (pc := 30) rfl ?_
    refine eb_iload_n (pc := 31) (n := 1) (i := 1) rfl rfl rfl ?_
    obtain ⟨c2, w⟩ := w
    refine eb_irem (pc := 32) c2 rfl ?_
    exact eb_ireturn (pc := 33) rfl rfl rfl w
  · replace w := w.2 c1
    refine eb_iconst (pc := 20) (n := 0) (v := 0) rfl rfl ?_
    refine eb_goto (pc := 21) (tgt := 33) rfl (by decide) ?_
    exact eb_ireturn (pc := 33) rfl rfl rfl w
theorem T_X0_drawn {d : Nat} {h : eb_H} {Q : Option Value → eb_H → Prop} (x1 : Int32)  (ko : eb_KO h) (w : (((1 : Int32) ≤ x1 → (¬ x1 = 0) ∧ Q (some (.int ((((eb_I (eb_sI h s_draws 0 (((1103515245 : Int32) * (eb_I h s_draws 0)) + 12345)) s_draws 0).toUInt32 >>> ((16 : Int32).toUInt32 &&& Int32.toUInt32 31)).toInt32) - (((eb_I (eb_sI h s_draws 0 (((1103515245 : Int32) * (eb_I h s_draws 0)) + 12345)) s_draws 0).toUInt32 >>> ((16 : Int32).toUInt32 &&& Int32.toUInt32 31)).toInt32) / x1 * x1))) (eb_sI h s_draws 0 (((1103515245 : Int32) * (eb_I h s_draws 0)) + 12345))) ∧ (¬ ((1 : Int32) ≤ x1) → Q (some (.int 0)) (eb_sI h s_draws 0 (((1103515245 : Int32) * (eb_I h s_draws 0)) + 12345))))) : eb_Ct d 2 [.ref s_draws, .int x1] h Q :=
  eb_bodyQ (by decide) ok_X0_drawn (Nat.le_of_ble_eq_true rfl) (b_X0_drawn_0 (h0 := h) x1  ko w)
theorem b_X1_init_0 {d : Nat} {h0 h : eb_H} {Q : Option Value → eb_H → Prop} (a0 : Nat) (ka0 : eb_kd a0 = 1) (w : ∀ r3, r3 = eb_nx h 9 0 → ∀ h1, h1 = eb_nw h 9 0 (eb_nf 9) → eb_Ct d 79 [.ref r3] h1 (fun r h5 => r = none ∧ ∀ h8, h8 = eb_sR h5 a0 0 (some r3) → ∀ r12, r12 = eb_nx h8 6 0 → ∀ h10, h10 = eb_nw h8 6 0 (eb_nf 6) → eb_Ct d 59 [.ref r12] h10 (fun r h14 => r = none ∧ ∀ h17, h17 = eb_sR h14 a0 1 (some r12) → ∀ h19, h19 = eb_sI h17 a0 2 0 → ∀ h21, h21 = eb_sI h19 a0 3 0 → ∀ h23, h23 = eb_sI h21 a0 4 0 → ∀ h25, h25 = eb_sI h23 a0 5 0 → ∀ r29, r29 = eb_nx h25 12 448 → ∀ h27, h27 = eb_nw h25 12 448 448 → ∀ h31, h31 = eb_sR h27 a0 6 (some r29) → ∀ r35, r35 = eb_nx h31 13 1024 → ∀ h33, h33 = eb_nw h31 13 1024 1024 → ∀ h37, h37 = eb_sR h33 a0 7 (some r35) → ∀ r41, r41 = eb_nx h37 13 1024 → ∀ h39, h39 = eb_nw h37 13 1024 1024 → ∀ h43, h43 = eb_sR h39 a0 8 (some r41) → ∀ r47, r47 = eb_nx h43 12 1024 → ∀ h45, h45 = eb_nw h43 12 1024 1024 → ∀ h49, h49 = eb_sR h45 a0 9 (some r47) → ∀ r53, r53 = eb_nx h49 14 1024 → ∀ h51, h51 = eb_nw h49 14 1024 1024 → ∀ h55, h55 = eb_sR h51 a0 10 (some r53) → ∀ r59, r59 = eb_nx h55 14 1024 → ∀ h57, h57 = eb_nw h55 14 1024 1024 → ∀ h61, h61 = eb_sR h57 a0 11 (some r59) → Q none h61))) : eb_Sn (d + 1) m_X1_init h0 0 [(0, .ref a0)] [] h Q := by
  refine eb_aload_n (pc := 0) (n := 0) (i := 0) rfl rfl rfl ?_
  refine eb_objInit (pc := 1) rfl (by decide +kernel) (by omega) (Nat.le_of_ble_eq_true rfl) ?_
  refine eb_aload_n (pc := 4) (n := 0) (i := 0) rfl rfl rfl ?_
  refine eb_new (pc := 5) rfl (by decide) ?_
  obtain ⟨r3, e4⟩ : ∃ z, z = eb_nx h 9 0 := ⟨_, rfl⟩
  rw [← e4]
  replace w := w r3 e4
  obtain ⟨h1, e2⟩ : ∃ z, z = eb_nw h 9 0 (eb_nf 9) := ⟨_, rfl⟩
  rw [← e2]
  replace w := w h1 e2
  refine eb_dupr (pc := 8) rfl ?_
  refine eb_ctI (pc := 9) (As := []) (rest := [.ref r3, .ref a0]) rfl (by decide) (by decide) rfl rfl rfl rfl (Nat.le_of_ble_eq_true rfl) ?_
  refine eb_Ct.mono w ?_
  rintro r h5 ⟨rfl, w⟩
  change eb_Sn _ _ _ 12 _ [.ref r3, .ref a0] _ _
  refine eb_putR (pc := 12) rfl ka0 (by decide) (by decide) rfl (Or.inl rfl) (eb_k20 (c := 9) (by rw [e4]; exact eb_mk_kd (by decide)) (by decide)) ?_
  obtain ⟨h8, e9⟩ : ∃ z, z = eb_sR h5 a0 0 (some r3) := ⟨_, rfl⟩
  rw [← e9]
  replace w := w h8 e9
  refine eb_aload_n (pc := 15) (n := 0) (i := 0) rfl rfl rfl ?_
  refine eb_new (pc := 16) rfl (by decide) ?_
  obtain ⟨r12, e13⟩ : ∃ z, z = eb_nx h8 6 0 := ⟨_, rfl⟩
  rw [← e13]
  replace w := w r12 e13
  obtain ⟨h10, e11⟩ : ∃ z, z = eb_nw h8 6 0 (eb_nf 6) := ⟨_, rfl⟩
  rw [← e11]
  replace w := w h10 e11
  refine eb_dupr (pc := 19) rfl ?_
  refine eb_ctI (pc := 20) (As := []) (rest := [.ref r12, .ref a0]) rfl (by decide) (by decide) rfl rfl rfl rfl (Nat.le_of_ble_eq_true rfl) ?_
  refine eb_Ct.mono w ?_
  rintro r h14 ⟨rfl, w⟩
  change eb_Sn _ _ _ 23 _ [.ref r12, .ref a0] _ _
  refine eb_putR (pc := 23) rfl ka0 (by decide) (by decide) rfl (Or.inr ⟨rfl, rfl, rfl⟩) (eb_k20 (c := 6) (by rw [e13]; exact eb_mk_kd (by decide)) (by decide)) ?_
  obtain ⟨h17, e18⟩ : ∃ z, z = eb_sR h14 a0 1 (some r12) := ⟨_, rfl⟩
  rw [← e18]
  replace w := w h17 e18
  refine eb_aload_n (pc := 26) (n := 0) (i := 0) rfl rfl rfl ?_
  refine eb_iconst (pc := 27) (n := 0) (v := 0) rfl rfl ?_
  refine eb_putI (pc := 28) rfl ka0 (by decide) (by decide) rfl rfl ⟨rfl, rfl⟩ ?_
  obtain ⟨h19, e20⟩ : ∃ z, z = eb_sI h17 a0 2 0 := ⟨_, rfl⟩
  rw [← e20]
  replace w := w h19 e20
  refine eb_aload_n (pc := 31) (n := 0) (i := 0) rfl rfl rfl ?_
  refine eb_iconst (pc := 32) (n := 0) (v := 0) rfl rfl ?_
  refine eb_putI (pc := 33) rfl ka0 (by decide) (by decide) rfl rfl ⟨rfl, rfl⟩ ?_
  obtain ⟨h21, e22⟩ : ∃ z, z = eb_sI h19 a0 3 0 := ⟨_, rfl⟩
  rw [← e22]
  replace w := w h21 e22
  refine eb_aload_n (pc := 36) (n := 0) (i := 0) rfl rfl rfl ?_
  refine eb_iconst (pc := 37) (n := 0) (v := 0) rfl rfl ?_
  refine eb_putI (pc := 38) rfl ka0 (by decide) (by decide) rfl rfl ⟨rfl, rfl⟩ ?_
  obtain ⟨h23, e24⟩ : ∃ z, z = eb_sI h21 a0 4 0 := ⟨_, rfl⟩
  rw [← e24]
  replace w := w h23 e24
  refine eb_aload_n (pc := 41) (n := 0) (i := 0) rfl rfl rfl ?_
  refine eb_iconst (pc := 42) (n := 0) (v := 0) rfl rfl ?_
  refine eb_putI (pc := 43) rfl ka0 (by decide) (by decide) rfl rfl ⟨rfl, rfl⟩ ?_
  obtain ⟨h25, e26⟩ : ∃ z, z = eb_sI h23 a0 5 0 := ⟨_, rfl⟩
  rw [← e26]
  replace w := w h25 e26
  refine eb_aload_n (pc := 46) (n := 0) (i := 0) rfl rfl rfl ?_
  refine eb_sipush (pc := 47) (n := 448) (v := 448) rfl rfl ?_
  refine eb_newI (pc := 50) (kd := 12) (len := 448) rfl rfl (by decide) (by decide) rfl (by decide) ?_
  obtain ⟨r29, e30⟩ : ∃ z, z = eb_nx h25 12 448 := ⟨_, rfl⟩
  rw [← e30]
  replace w := w r29 e30
  obtain ⟨h27, e28⟩ : ∃ z, z = eb_nw h25 12 448 448 := ⟨_, rfl⟩
  rw [← e28]
  replace w := w h27 e28
  refine eb_putR (pc := 52) rfl ka0 (by decide) (by decide) rfl (Or.inr ⟨rfl, rfl, rfl⟩) (eb_k20 (c := 12) (by rw [e30]; exact eb_mk_kd (by decide)) (by decide)) ?_
  obtain ⟨h31, e32⟩ : ∃ z, z = eb_sR h27 a0 6 (some r29) := ⟨_, rfl⟩
  rw [← e32]
  replace w := w h31 e32
  refine eb_aload_n (pc := 55) (n := 0) (i := 0) rfl rfl rfl ?_
  refine eb_sipush (pc := 56) (n := 1024) (v := 1024) rfl rfl ?_
  refine eb_newI (pc := 59) (kd := 13) (len := 1024) rfl rfl (by decide) (by decide) rfl (by decide) ?_
  obtain ⟨r35, e36⟩ : ∃ z, z = eb_nx h31 13 1024 := ⟨_, rfl⟩
  rw [← e36]
  replace w := w r35 e36
  obtain ⟨h33, e34⟩ : ∃ z, z = eb_nw h31 13 1024 1024 := ⟨_, rfl⟩
  rw [← e34]
  replace w := w h33 e34
  refine eb_putR (pc := 61) rfl ka0 (by decide) (by decide) rfl (Or.inr ⟨rfl, rfl, rfl⟩) (eb_k20 (c := 13) (by rw [e36]; exact eb_mk_kd (by decide)) (by decide)) ?_
  obtain ⟨h37, e38⟩ : ∃ z, z = eb_sR h33 a0 7 (some r35) := ⟨_, rfl⟩
  rw [← e38]
  replace w := w h37 e38
  refine eb_aload_n (pc := 64) (n := 0) (i := 0) rfl rfl rfl ?_
  refine eb_sipush (pc := 65) (n := 1024) (v := 1024) rfl rfl ?_
  refine eb_newI (pc := 68) (kd := 13) (len := 1024) rfl rfl (by decide) (by decide) rfl (by decide) ?_
  obtain ⟨r41, e42⟩ : ∃ z, z = eb_nx h37 13 1024 := ⟨_, rfl⟩
  rw [← e42]
  replace w := w r41 e42
  obtain ⟨h39, e40⟩ : ∃ z, z = eb_nw h37 13 1024 1024 := ⟨_, rfl⟩
  rw [← e40]
  replace w := w h39 e40
  refine eb_putR (pc := 70) rfl ka0 (by decide) (by decide) rfl (Or.inr ⟨rfl, rfl, rfl⟩) (eb_k20 (c := 13) (by rw [e42]; exact eb_mk_kd (by decide)) (by decide)) ?_
  obtain ⟨h43, e44⟩ : ∃ z, z = eb_sR h39 a0 8 (some r41) := ⟨_, rfl⟩
  rw [← e44]
  replace w := w h43 e44
  refine eb_aload_n (pc := 73) (n := 0) (i := 0) rfl rfl rfl ?_
  refine eb_sipush (pc := 74) (n := 1024) (v := 1024) rfl rfl ?_
  refine eb_newI (pc := 77) (kd := 12) (len := 1024) rfl rfl (by decide) (by decide) rfl (by decide) ?_
  obtain ⟨r47, e48⟩ : ∃ z, z = eb_nx h43 12 1024 := ⟨_, rfl⟩
  rw [← e48]
  replace w := w r47 e48
  obtain ⟨h45, e46⟩ : ∃ z, z = eb_nw h43 12 1024 1024 := ⟨_, rfl⟩
  rw [← e46]
  replace w := w h45 e46
  refine eb_putR (pc := 79) rfl ka0 (by decide) (by decide) rfl (Or.inr ⟨rfl, rfl, rfl⟩) (eb_k20 (c := 12) (by rw [e48]; exact eb_mk_kd (by decide)) (by decide)) ?_
  obtain ⟨h49, e50⟩ : ∃ z, z = eb_sR h45 a0 9 (some r47) := ⟨_, rfl⟩
  rw [← e50]
  replace w := w h49 e50
  refine eb_aload_n (pc := 82) (n := 0) (i := 0) rfl rfl rfl ?_
  refine eb_sipush (pc := 83) (n := 1024) (v := 1024) rfl rfl ?_
  refine eb_newL (pc := 86) (len := 1024) rfl (by decide) rfl (by decide) ?_
  obtain ⟨r53, e54⟩ : ∃ z, z = eb_nx h49 14 1024 := ⟨_, rfl⟩
  rw [← e54]
  replace w := w r53 e54
  obtain ⟨h51, e52⟩ : ∃ z, z = eb_nw h49 14 1024 1024 := ⟨_, rfl⟩
  rw [← e52]
  replace w := w h51 e52
  refine eb_putR (pc := 88) rfl ka0 (by decide) (by decide) rfl (Or.inl rfl) (eb_k20 (c := 14) (by rw [e54]; exact eb_mk_kd (by decide)) (by decide)) ?_
  obtain ⟨h55, e56⟩ : ∃ z, z = eb_sR h51 a0 10 (some r53) := ⟨_, rfl⟩
  rw [← e56]
  replace w := w h55 e56
  refine eb_aload_n (pc := 91) (n := 0) (i := 0) rfl rfl rfl ?_
  refine eb_sipush (pc := 92) (n := 1024) (v := 1024) rfl rfl ?_
  refine eb_newL (pc := 95) (len := 1024) rfl (by decide) rfl (by decide) ?_
  obtain ⟨r59, e60⟩ : ∃ z, z = eb_nx h55 14 1024 := ⟨_, rfl⟩
  rw [← e60]
  replace w := w r59 e60
  obtain ⟨h57, e58⟩ : ∃ z, z = eb_nw h55 14 1024 1024 := ⟨_, rfl⟩
  rw [← e58]
  replace w := w h57 e58
  refine eb_putR (pc := 97) rfl ka0 (by decide) (by decide) rfl (Or.inl rfl) (eb_k20 (c := 14) (by rw [e60]; exact eb_mk_kd (by decide)) (by decide)) ?_
  obtain ⟨h61, e62⟩ : ∃ z, z = eb_sR h57 a0 11 (some r59) := ⟨_, rfl⟩
  rw [← e62]
  replace w := w h61 e62
  exact eb_return (pc := 100) rfl rfl w
theorem T_X1_init {d : Nat} {h : eb_H} {Q : Option Value → eb_H → Prop} (a0 : Nat) (ka0 : eb_kd a0 = 1) (w : ∀ r3, r3 = eb_nx h 9 0 → ∀ h1, h1 = eb_nw h 9 0 (eb_nf 9) → eb_Ct d 79 [.ref r3] h1 (fun r h5 => r = none ∧ ∀ h8, h8 = eb_sR h5 a0 0 (some r3) → ∀ r12, r12 = eb_nx h8 6 0 → ∀ h10, h10 = eb_nw h8 6 0 (eb_nf 6) → eb_Ct d 59 [.ref r12] h10 (fun r h14 => r = none ∧ ∀ h17, h17 = eb_sR h14 a0 1 (some r12) → ∀ h19, h19 = eb_sI h17 a0 2 0 → ∀ h21, h21 = eb_sI h19 a0 3 0 → ∀ h23, h23 = eb_sI h21 a0 4 0 → ∀ h25, h25 = eb_sI h23 a0 5 0 → ∀ r29, r29 = eb_nx h25 12 448 → ∀ h27, h27 = eb_nw h25 12 448 448 → ∀ h31, h31 = eb_sR h27 a0 6 (some r29) → ∀ r35, r35 = eb_nx h31 13 1024 → ∀ h33, h33 = eb_nw h31 13 1024 1024 → ∀ h37, h37 = eb_sR h33 a0 7 (some r35) → ∀ r41, r41 = eb_nx h37 13 1024 → ∀ h39, h39 = eb_nw h37 13 1024 1024 → ∀ h43, h43 = eb_sR h39 a0 8 (some r41) → ∀ r47, r47 = eb_nx h43 12 1024 → ∀ h45, h45 = eb_nw h43 12 1024 1024 → ∀ h49, h49 = eb_sR h45 a0 9 (some r47) → ∀ r53, r53 = eb_nx h49 14 1024 → ∀ h51, h51 = eb_nw h49 14 1024 1024 → ∀ h55, h55 = eb_sR h51 a0 10 (some r53) → ∀ r59, r59 = eb_nx h55 14 1024 → ∀ h57, h57 = eb_nw h55 14 1024 1024 → ∀ h61, h61 = eb_sR h57 a0 11 (some r59) → Q none h61))) : eb_Ct (d + 1) 3 [.ref a0] h Q :=
  eb_bodyQ (by decide) ok_X1_init (Nat.le_of_ble_eq_true rfl) (b_X1_init_0 (h0 := h) a0 ka0 w)
theorem b_X1_codeOf_0 {d : Nat} {h0 h : eb_H} {Q : Option Value → eb_H → Prop} (x0 : Int32) (x1 : Int32)  (ko : eb_KO h) (w : Q (some (.int (((16 : Int32) * x1) + x0))) h) : eb_Sn d m_X1_codeOf h0 0 [(0, .int x0), (1, .int x1)] [] h Q := by
  refine eb_bipush (pc := 0) (n := 16) (v := 16) rfl rfl ?_
  refine eb_iload_n (pc := 2) (n := 1) (i := 1) rfl rfl rfl ?_
  refine eb_imul (pc := 3) rfl ?_
  refine eb_iload_n (pc := 4) (n := 0) (i := 0) rfl rfl rfl ?_
  refine eb_iadd (pc := 5) rfl ?_
  exact eb_ireturn (pc := 6) rfl rfl rfl w
theorem T_X1_codeOf {d : Nat} {h : eb_H} {Q : Option Value → eb_H → Prop} (x0 : Int32) (x1 : Int32)  (ko : eb_KO h) (w : Q (some (.int (((16 : Int32) * x1) + x0))) h) : eb_Ct d 4 [.int x0, .int x1] h Q :=
  eb_bodyQ (by decide) ok_X1_codeOf (Nat.le_of_ble_eq_true rfl) (b_X1_codeOf_0 (h0 := h) x0 x1  ko w)
theorem b_X1_cellOf_0 {d : Nat} {h0 h : eb_H} {Q : Option Value → eb_H → Prop} (x0 : Int32)  (ko : eb_KO h) (w : Q (some (.int (x0 &&& 15))) h) : eb_Sn d m_X1_cellOf h0 0 [(0, .int x0)] [] h Q := by
  refine eb_iload_n (pc := 0) (n := 0) (i := 0) rfl rfl rfl ?_
  refine eb_bipush (pc := 1) (n := 15) (v := 15) rfl rfl ?_
  refine eb_iand (pc := 3) rfl ?_
  exact eb_ireturn (pc := 4) rfl rfl rfl w
theorem T_X1_cellOf {d : Nat} {h : eb_H} {Q : Option Value → eb_H → Prop} (x0 : Int32)  (ko : eb_KO h) (w : Q (some (.int (x0 &&& 15))) h) : eb_Ct d 5 [.int x0] h Q :=
  eb_bodyQ (by decide) ok_X1_cellOf (Nat.le_of_ble_eq_true rfl) (b_X1_cellOf_0 (h0 := h) x0  ko w)
theorem b_X1_setOf_0 {d : Nat} {h0 h : eb_H} {Q : Option Value → eb_H → Prop} (x0 : Int32)  (ko : eb_KO h) (w : Q (some (.int (x0 >>> ((4 : Int32) &&& 31)))) h) : eb_Sn d m_X1_setOf h0 0 [(0, .int x0)] [] h Q := by
  refine eb_iload_n (pc := 0) (n := 0) (i := 0) rfl rfl rfl ?_
  refine eb_iconst (pc := 1) (n := 4) (v := 4) rfl rfl ?_
  refine eb_ishr (pc := 2) rfl ?_
  exact eb_ireturn (pc := 3) rfl rfl rfl w
theorem T_X1_setOf {d : Nat} {h : eb_H} {Q : Option Value → eb_H → Prop} (x0 : Int32)  (ko : eb_KO h) (w : Q (some (.int (x0 >>> ((4 : Int32) &&& 31)))) h) : eb_Ct d 6 [.int x0] h Q :=
  eb_bodyQ (by decide) ok_X1_setOf (Nat.le_of_ble_eq_true rfl) (b_X1_setOf_0 (h0 := h) x0  ko w)
theorem b_X1_isCode_0 {d : Nat} {h0 h : eb_H} {Q : Option Value → eb_H → Prop} (x0 : Int32)  (ko : eb_KO h) (w : Q (some (.int (if x0 < 0 then 0 else (if (1024 : Int32) ≤ x0 then 0 else 1) : Int32))) h) : eb_Sn d m_X1_isCode h0 0 [(0, .int x0)] [] h Q := by
  refine eb_iload_n (pc := 0) (n := 0) (i := 0) rfl rfl rfl ?_
  have jj3 : eb_Sn d m_X1_isCode h0 16 [(0, .int x0)] [.int (if x0 < 0 then 0 else (if (1024 : Int32) ≤ x0 then 0 else 1) : Int32)] h Q := by
    exact eb_ireturn (pc := 16) rfl rfl (by (repeat' split) <;> rfl) w
  refine eb_if_lt (pc := 1) (tgt := 15) rfl (by decide) (fun c1 => ?_) (fun c1 => ?_)
  · refine eb_iconst (pc := 15) (n := 0) (v := 0) rfl rfl ?_
    simp only [if_pos c1] at jj3 ⊢
    exact jj3
  · refine eb_iload_n (pc := 4) (n := 0) (i := 0) rfl rfl rfl ?_
    refine eb_sipush (pc := 5) (n := 1024) (v := 1024) rfl rfl ?_
    refine eb_icmp_ge (pc := 8) (tgt := 15) rfl (by decide) (fun c2 => ?_) (fun c2 => ?_)
    · refine eb_iconst (pc := 15) (n := 0) (v := 0) rfl rfl ?_
      simp only [if_neg c1, if_pos c2] at jj3 ⊢
      exact jj3
    · refine eb_iconst (pc := 11) (n := 1) (v := 1) rfl rfl ?_
      refine eb_goto (pc := 12) (tgt := 16) rfl (by decide) ?_
      simp only [if_neg c1, if_neg c2] at jj3 ⊢
      exact jj3
theorem T_X1_isCode {d : Nat} {h : eb_H} {Q : Option Value → eb_H → Prop} (x0 : Int32)  (ko : eb_KO h) (w : Q (some (.int (if x0 < 0 then 0 else (if (1024 : Int32) ≤ x0 then 0 else 1) : Int32))) h) : eb_Ct d 7 [.int x0] h Q :=
  eb_bodyQ (by decide) ok_X1_isCode (Nat.le_of_ble_eq_true rfl) (b_X1_isCode_0 (h0 := h) x0  ko w)
theorem b_X1_start_0 {d : Nat} {h0 h : eb_H} {Q : Option Value → eb_H → Prop} (a1 : Nat) (a2 : Nat) (ka1 : eb_kd a1 = 9) (ka2 : eb_kd a2 = 6) (ko : eb_KO h) (w : eb_Ct d 60 [.ref s_flights_state, .ref a2] (eb_sR h s_flights 0 (some a1)) (fun r h1 => r = none ∧ eb_KO h1 ∧ eb_Ct d 302 [.ref s_flights_verdicts, .int 0] (eb_sI h1 s_flights 2 (eb_I h1 a2 3)) (fun r h4 => r = none ∧ eb_KO h4 ∧ Q none h4))) : eb_Sn (d + 1) m_X1_start h0 0 [(0, .ref s_flights), (1, .ref a1), (2, .ref a2)] [] h Q := by
  refine eb_aload_n (pc := 0) (n := 0) (i := 0) rfl rfl rfl ?_
  refine eb_aload_n (pc := 1) (n := 1) (i := 1) rfl rfl rfl ?_
  refine eb_putR (pc := 2) rfl rfl (by decide) (by decide) rfl (Or.inl rfl) (eb_k20 (c := 9) ka1 (by decide)) ?_
  refine eb_aload_n (pc := 5) (n := 0) (i := 0) rfl rfl rfl ?_
  refine eb_getR (pc := 6) rfl rfl (by decide) (by decide) rfl (ko_s_flights_1 (ko_sR (by decide +kernel) ko)) ?_
  refine eb_aload_n (pc := 9) (n := 2) (i := 2) rfl rfl rfl ?_
  refine eb_ctV (pc := 10) (As := [.ref a2]) (rest := []) rfl (by decide) rfl rfl (by decide) rfl (Nat.le_of_ble_eq_true rfl) ?_
  refine eb_Ct.mono w ?_
  rintro r h1 ⟨rfl, ko3, w⟩
  change eb_Sn _ _ _ 13 _ [] _ _
  refine eb_aload_n (pc := 13) (n := 0) (i := 0) rfl rfl rfl ?_
  refine eb_aload_n (pc := 14) (n := 2) (i := 2) rfl rfl rfl ?_
  refine eb_getI (pc := 15) rfl ka2 (by decide) (by decide) rfl ?_
  refine eb_putI (pc := 18) rfl rfl (by decide) (by decide) rfl rfl ⟨rfl, rfl⟩ ?_
  refine eb_aload_n (pc := 21) (n := 0) (i := 0) rfl rfl rfl ?_
  refine eb_getR (pc := 22) rfl rfl (by decide) (by decide) rfl (ko_s_flights_6 ko3) ?_
  refine eb_iconst (pc := 25) (n := 0) (v := 0) rfl rfl ?_
  refine eb_ctS (pc := 26) (As := [.ref s_flights_verdicts, .int 0]) (rest := []) rfl (by decide) (by decide) rfl rfl (Nat.le_of_ble_eq_true rfl) ?_
  refine eb_Ct.mono w ?_
  rintro r h4 ⟨rfl, ko6, w⟩
  change eb_Sn _ _ _ 29 _ [] _ _
  exact eb_return (pc := 29) rfl rfl w
theorem T_X1_start {d : Nat} {h : eb_H} {Q : Option Value → eb_H → Prop} (a1 : Nat) (a2 : Nat) (ka1 : eb_kd a1 = 9) (ka2 : eb_kd a2 = 6) (ko : eb_KO h) (w : eb_Ct d 60 [.ref s_flights_state, .ref a2] (eb_sR h s_flights 0 (some a1)) (fun r h1 => r = none ∧ eb_KO h1 ∧ eb_Ct d 302 [.ref s_flights_verdicts, .int 0] (eb_sI h1 s_flights 2 (eb_I h1 a2 3)) (fun r h4 => r = none ∧ eb_KO h4 ∧ Q none h4))) : eb_Ct (d + 1) 8 [.ref s_flights, .ref a1, .ref a2] h Q :=
  eb_bodyQ (by decide) ok_X1_start (Nat.le_of_ble_eq_true rfl) (b_X1_start_0 (h0 := h) a1 a2 ka1 ka2 ko w)
theorem b_X1_codeAfter_0 {d : Nat} {h0 h : eb_H} {Q : Option Value → eb_H → Prop} (x1 : Int32) (x2 : Int32)  (ko : eb_KO h) (w : eb_Ct d 5 [.int x1] h (fun r h1 => ∃ y2, r = some (.int y2) ∧ eb_KO h1 ∧ ∃ r4, eb_R h1 s_flights 0 = some r4 ∧ eb_kd r4 = 9 ∧ eb_Ct d 87 [.ref r4, .int y2, .int x2] h1 (fun r h7 => ∃ y8, r = some (.int y8) ∧ eb_KO h7 ∧ ((y8 = ((-1) : Int32) → Q (some (.int (-1))) h7) ∧ (¬ (y8 = ((-1) : Int32)) → ((¬ (((eb_I h7 s_flights 2) >>> (y8 &&& 31)) &&& 1) = (1 : Int32) → eb_Ct d 6 [.int x1] h7 (fun r h12 => ∃ y13, r = some (.int y13) ∧ eb_KO h12 ∧ eb_Ct d 283 [.int y13] h12 (fun r h15 => ∃ y16, r = some (.int y16) ∧ eb_KO h15 ∧ eb_Ct d 62 [.ref s_flights_state, .int y8] h15 (fun r h18 => ∃ y19, r = some (.int y19) ∧ eb_KO h18 ∧ ((((((y16 * 4) + x2) * 16) + y2) < 0 → Q (some (.int (-1))) h18) ∧ (¬ (((((y16 * 4) + x2) * 16) + y2) < 0) → ((((((y16 * 4) + x2) * 16) + y2) < (448 : Int32) → (vp_in ((((y16 * 4) + x2) * 16) + y2) 448) ∧ ((¬ (eb_I h18 s_flights_verdicts ((((y16 * 4) + x2) * 16) + y2).toNatClampNeg) = 0 → (vp_in ((((y16 * 4) + x2) * 16) + y2) 448) ∧ ((¬ (eb_I h18 s_flights_verdicts ((((y16 * 4) + x2) * 16) + y2).toNatClampNeg) = (1 : Int32) → (vp_in ((((y16 * 4) + x2) * 16) + y2) 448) ∧ ((¬ (eb_I h18 s_flights_verdicts ((((y16 * 4) + x2) * 16) + y2).toNatClampNeg) = (3 : Int32) → eb_Ct d 4 [.int y8, .int y13] h18 (fun r h29 => ∃ y30, r = some (.int y30) ∧ eb_KO h29 ∧ Q (some (.int y30)) h29)) ∧ ((eb_I h18 s_flights_verdicts ((((y16 * 4) + x2) * 16) + y2).toNatClampNeg) = (3 : Int32) → eb_Ct d 141 [.int y19] h18 (fun r h32 => ∃ y33, r = some (.int y33) ∧ eb_KO h32 ∧ eb_Ct d 4 [.int y8, .int (y13 ||| y33)] h32 (fun r h35 => ∃ y36, r = some (.int y36) ∧ eb_KO h35 ∧ Q (some (.int y36)) h35))))) ∧ ((eb_I h18 s_flights_verdicts ((((y16 * 4) + x2) * 16) + y2).toNatClampNeg) = (1 : Int32) → Q (some (.int (-1))) h18))) ∧ ((eb_I h18 s_flights_verdicts ((((y16 * 4) + x2) * 16) + y2).toNatClampNeg) = 0 → ∃ r38, eb_R h18 s_flights 0 = some r38 ∧ eb_kd r38 = 9 ∧ eb_Ct d 88 [.ref r38, .int y2, .int y8, .int y16, .int (eb_I h18 s_flights_state 4), .int y19] h18 (fun r h41 => ∃ y42, r = some (.int y42) ∧ eb_KO h41 ∧ (vp_in ((((y16 * 4) + x2) * 16) + y2) 448) ∧ (vp_in ((((y16 * 4) + x2) * 16) + y2) 448) ∧ ((¬ (eb_I (eb_sI h41 s_flights_verdicts ((((y16 * 4) + x2) * 16) + y2).toNatClampNeg y42.toInt8.toInt32.toInt8.toInt32) s_flights_verdicts ((((y16 * 4) + x2) * 16) + y2).toNatClampNeg) = (1 : Int32) → (vp_in ((((y16 * 4) + x2) * 16) + y2) 448) ∧ ((¬ (eb_I (eb_sI h41 s_flights_verdicts ((((y16 * 4) + x2) * 16) + y2).toNatClampNeg y42.toInt8.toInt32.toInt8.toInt32) s_flights_verdicts ((((y16 * 4) + x2) * 16) + y2).toNatClampNeg) = (3 : Int32) → eb_Ct d 4 [.int y8, .int y13] (eb_sI h41 s_flights_verdicts ((((y16 * 4) + x2) * 16) + y2).toNatClampNeg y42.toInt8.toInt32.toInt8.toInt32) (fun r h49 => ∃ y50, r = some (.int y50) ∧ eb_KO h49 ∧ Q (some (.int y50)) h49)) ∧ ((eb_I (eb_sI h41 s_flights_verdicts ((((y16 * 4) + x2) * 16) + y2).toNatClampNeg y42.toInt8.toInt32.toInt8.toInt32) s_flights_verdicts ((((y16 * 4) + x2) * 16) + y2).toNatClampNeg) = (3 : Int32) → eb_Ct d 141 [.int y19] (eb_sI h41 s_flights_verdicts ((((y16 * 4) + x2) * 16) + y2).toNatClampNeg y42.toInt8.toInt32.toInt8.toInt32) (fun r h52 => ∃ y53, r = some (.int y53) ∧ eb_KO h52 ∧ eb_Ct d 4 [.int y8, .int (y13 ||| y53)] h52 (fun r h55 => ∃ y56, r = some (.int y56) ∧ eb_KO h55 ∧ Q (some (.int y56)) h55))))) ∧ ((eb_I (eb_sI h41 s_flights_verdicts ((((y16 * 4) + x2) * 16) + y2).toNatClampNeg y42.toInt8.toInt32.toInt8.toInt32) s_flights_verdicts ((((y16 * 4) + x2) * 16) + y2).toNatClampNeg) = (1 : Int32) → Q (some (.int (-1))) (eb_sI h41 s_flights_verdicts ((((y16 * 4) + x2) * 16) + y2).toNatClampNeg y42.toInt8.toInt32.toInt8.toInt32))))))) ∧ (¬ (((((y16 * 4) + x2) * 16) + y2) < (448 : Int32)) → Q (some (.int (-1))) h18)))))))) ∧ ((((eb_I h7 s_flights 2) >>> (y8 &&& 31)) &&& 1) = (1 : Int32) → Q (some (.int (-1))) h7))))))) : eb_Sn (d + 1) m_X1_codeAfter h0 0 [(0, .ref s_flights), (1, .int x1), (2, .int x2)] [] h Q := by
  refine eb_iload_n (pc := 0) (n := 1) (i := 1) rfl rfl rfl ?_
  refine eb_ctS (pc := 1) (As := [.int x1]) (rest := []) rfl (by decide) (by decide) rfl rfl (Nat.le_of_ble_eq_true rfl) ?_
  refine eb_Ct.mono w ?_
  rintro r h1 ⟨y2, rfl, ko3, w⟩
  change eb_Sn _ _ _ 4 _ [.int y2] _ _
  refine eb_istore_n (pc := 4) (n := 3) (i := 3) (ls2 := [(3, .int y2), (0, .ref s_flights), (1, .int x1), (2, .int x2)]) rfl (Nat.le_of_ble_eq_true rfl) rfl rfl ?_
  refine eb_aload_n (pc := 5) (n := 0) (i := 0) rfl rfl rfl ?_
  obtain ⟨r4, q5, k6, w⟩ := w
  refine eb_getR (pc := 6) rfl rfl (by decide) (by decide) rfl q5 ?_
  refine eb_iload_n (pc := 9) (n := 3) (i := 3) rfl rfl rfl ?_
  refine eb_iload_n (pc := 10) (n := 2) (i := 2) rfl rfl rfl ?_
  refine eb_ctV (pc := 11) (As := [.int y2, .int x2]) (rest := []) rfl (by decide) rfl k6 (by decide) rfl (Nat.le_of_ble_eq_true rfl) ?_
  refine eb_Ct.mono w ?_
  rintro r h7 ⟨y8, rfl, ko9, w⟩
  change eb_Sn _ _ _ 14 _ [.int y8] _ _
  refine eb_istore (pc := 14) (i := 4) (ls2 := [(4, .int y8), (3, .int y2), (0, .ref s_flights), (1, .int x1), (2, .int x2)]) (Nat.le_of_ble_eq_true rfl) rfl rfl ?_
  refine eb_iload (pc := 16) (i := 4) rfl rfl ?_
  refine eb_iconst (pc := 18) (n := -1) (v := (-1)) rfl rfl ?_
  refine eb_icmp_eq (pc := 19) (tgt := 35) rfl (by decide) (fun c10 => ?_) (fun c10 => ?_)
  · replace w := w.1 c10
    refine eb_iconst (pc := 35) (n := -1) (v := (-1)) rfl rfl ?_
    exact eb_ireturn (pc := 36) rfl rfl rfl w
  · replace w := w.2 c10
    refine eb_aload_n (pc := 22) (n := 0) (i := 0) rfl rfl rfl ?_
    refine eb_getI (pc := 23) rfl rfl (by decide) (by decide) rfl ?_
    refine eb_iload (pc := 26) (i := 4) rfl rfl ?_
    refine eb_ishr (pc := 28) rfl ?_
    refine eb_iconst (pc := 29) (n := 1) (v := 1) rfl rfl ?_
    refine eb_iand (pc := 30) rfl ?_
    refine eb_iconst (pc := 31) (n := 1) (v := 1) rfl rfl ?_
    refine eb_icmp_ne (pc := 32) (tgt := 37) rfl (by decide) (fun c11 => ?_) (fun c11 => ?_)
    · replace w := w.1 c11
      refine eb_iload_n (pc := 37) (n := 1) (i := 1) rfl rfl rfl ?_
      refine eb_ctS (pc := 38) (As := [.int x1]) (rest := []) rfl (by decide) (by decide) rfl rfl (Nat.le_of_ble_eq_true rfl) ?_
      refine eb_Ct.mono w ?_
      rintro r h12 ⟨y13, rfl, ko14, w⟩
      change eb_Sn _ _ _ 41 _ [.int y13] _ _
      refine eb_istore (pc := 41) (i := 5) (ls2 := [(5, .int y13), (4, .int y8), (3, .int y2), (0, .ref s_flights), (1, .int x1), (2, .int x2)]) (Nat.le_of_ble_eq_true rfl) rfl rfl ?_
      refine eb_iload (pc := 43) (i := 5) rfl rfl ?_
      refine eb_ctS (pc := 45) (As := [.int y13]) (rest := []) rfl (by decide) (by decide) rfl rfl (Nat.le_of_ble_eq_true rfl) ?_
      refine eb_Ct.mono w ?_
      rintro r h15 ⟨y16, rfl, ko17, w⟩
      change eb_Sn _ _ _ 48 _ [.int y16] _ _
      refine eb_istore (pc := 48) (i := 6) (ls2 := [(6, .int y16), (5, .int y13), (4, .int y8), (3, .int y2), (0, .ref s_flights), (1, .int x1), (2, .int x2)]) (Nat.le_of_ble_eq_true rfl) rfl rfl ?_
      refine eb_aload_n (pc := 50) (n := 0) (i := 0) rfl rfl rfl ?_
      refine eb_getR (pc := 51) rfl rfl (by decide) (by decide) rfl (ko_s_flights_1 ko17) ?_
      refine eb_iload (pc := 54) (i := 4) rfl rfl ?_
      refine eb_ctV (pc := 56) (As := [.int y8]) (rest := []) rfl (by decide) rfl rfl (by decide) rfl (Nat.le_of_ble_eq_true rfl) ?_
      refine eb_Ct.mono w ?_
      rintro r h18 ⟨y19, rfl, ko20, w⟩
      change eb_Sn _ _ _ 59 _ [.int y19] _ _
      refine eb_istore (pc := 59) (i := 7) (ls2 := [(7, .int y19), (6, .int y16), (5, .int y13), (4, .int y8), (3, .int y2), (0, .ref s_flights), (1, .int x1), (2, .int x2)]) (Nat.le_of_ble_eq_true rfl) rfl rfl ?_
      refine eb_iload (pc := 61) (i := 6) rfl rfl ?_
      refine eb_iconst (pc := 63) (n := 4) (v := 4) rfl rfl ?_
      refine eb_imul (pc := 64) rfl ?_
      refine eb_iload_n (pc := 65) (n := 2) (i := 2) rfl rfl rfl ?_
      refine eb_iadd (pc := 66) rfl ?_
      refine eb_bipush (pc := 67) (n := 16) (v := 16) rfl rfl ?_
      refine eb_imul (pc := 69) rfl ?_
      refine eb_iload_n (pc := 70) (n := 3) (i := 3) rfl rfl rfl ?_
      refine eb_iadd (pc := 71) rfl ?_
      refine eb_istore (pc := 72) (i := 8) (ls2 := [(8, .int ((((y16 * 4) + x2) * 16) + y2)), (7, .int y19), (6, .int y16), (5, .int y13), (4, .int y8), (3, .int y2), (0, .ref s_flights), (1, .int x1), (2, .int x2)]) (Nat.le_of_ble_eq_true rfl) rfl rfl ?_
      refine eb_iload (pc := 74) (i := 8) rfl rfl ?_
      refine eb_if_lt (pc := 76) (tgt := 89) rfl (by decide) (fun c21 => ?_) (fun c21 => ?_)
      · replace w := w.1 c21
        refine eb_iconst (pc := 89) (n := -1) (v := (-1)) rfl rfl ?_
        exact eb_ireturn (pc := 90) rfl rfl rfl w
      · replace w := w.2 c21
        refine eb_iload (pc := 79) (i := 8) rfl rfl ?_
        refine eb_aload_n (pc := 81) (n := 0) (i := 0) rfl rfl rfl ?_
        refine eb_getR (pc := 82) rfl rfl (by decide) (by decide) rfl (ko_s_flights_6 ko20) ?_
        refine eb_alen (pc := 85) (v := 448) rfl (by decide) (by decide) rfl ?_
        refine eb_icmp_lt (pc := 86) (tgt := 91) rfl (by decide) (fun c22 => ?_) (fun c22 => ?_)
        · replace w := w.1 c22
          refine eb_aload_n (pc := 91) (n := 0) (i := 0) rfl rfl rfl ?_
          refine eb_getR (pc := 92) rfl rfl (by decide) (by decide) rfl (ko_s_flights_6 ko20) ?_
          refine eb_iload (pc := 95) (i := 8) rfl rfl ?_
          obtain ⟨c23, w⟩ := w
          refine eb_baload (pc := 97) rfl rfl c23 ?_
          refine eb_if_ne (pc := 98) (tgt := 130) rfl (by decide) (fun c24 => ?_) (fun c24 => ?_)
          · replace w := w.1 c24
            refine eb_aload_n (pc := 130) (n := 0) (i := 0) rfl rfl rfl ?_
            refine eb_getR (pc := 131) rfl rfl (by decide) (by decide) rfl (ko_s_flights_6 ko20) ?_
            refine eb_iload (pc := 134) (i := 8) rfl rfl ?_
            obtain ⟨c25, w⟩ := w
            refine eb_baload (pc := 136) rfl rfl c25 ?_
            refine eb_iconst (pc := 137) (n := 1) (v := 1) rfl rfl ?_
            refine eb_icmp_ne (pc := 138) (tgt := 143) rfl (by decide) (fun c26 => ?_) (fun c26 => ?_)
            · replace w := w.1 c26
              refine eb_iload (pc := 143) (i := 4) rfl rfl ?_
              refine eb_aload_n (pc := 145) (n := 0) (i := 0) rfl rfl rfl ?_
              refine eb_getR (pc := 146) rfl rfl (by decide) (by decide) rfl (ko_s_flights_6 ko20) ?_
              refine eb_iload (pc := 149) (i := 8) rfl rfl ?_
              obtain ⟨c27, w⟩ := w
              refine eb_baload (pc := 151) rfl rfl c27 ?_
              refine eb_iconst (pc := 152) (n := 3) (v := 3) rfl rfl ?_
              refine eb_icmp_ne (pc := 153) (tgt := 167) rfl (by decide) (fun c28 => ?_) (fun c28 => ?_)
              · replace w := w.1 c28
                refine eb_iload (pc := 167) (i := 5) rfl rfl ?_
                refine eb_ctS (pc := 169) (As := [.int y8, .int y13]) (rest := []) rfl (by decide) (by decide) rfl rfl (Nat.le_of_ble_eq_true rfl) ?_
                refine eb_Ct.mono w ?_
                rintro r h29 ⟨y30, rfl, ko31, w⟩
                change eb_Sn _ _ _ 172 _ [.int y30] _ _
                exact eb_ireturn (pc := 172) rfl rfl rfl w
              · replace w := w.2 c28
                refine eb_iload (pc := 156) (i := 5) rfl rfl ?_
                refine eb_iload (pc := 158) (i := 7) rfl rfl ?_
                refine eb_ctS (pc := 160) (As := [.int y19]) (rest := [.int y13, .int y8]) rfl (by decide) (by decide) rfl rfl (Nat.le_of_ble_eq_true rfl) ?_
                refine eb_Ct.mono w ?_
                rintro r h32 ⟨y33, rfl, ko34, w⟩
                change eb_Sn _ _ _ 163 _ [.int y33, .int y13, .int y8] _ _
                refine eb_ior (pc := 163) rfl ?_
                refine eb_goto (pc := 164) (tgt := 169) rfl (by decide) ?_
                refine eb_ctS (pc := 169) (As := [.int y8, .int (y13 ||| y33)]) (rest := []) rfl (by decide) (by decide) rfl rfl (Nat.le_of_ble_eq_true rfl) ?_
                refine eb_Ct.mono w ?_
                rintro r h35 ⟨y36, rfl, ko37, w⟩
                change eb_Sn _ _ _ 172 _ [.int y36] _ _
                exact eb_ireturn (pc := 172) rfl rfl rfl w
            · replace w := w.2 c26
              refine eb_iconst (pc := 141) (n := -1) (v := (-1)) rfl rfl ?_
              exact eb_ireturn (pc := 142) rfl rfl rfl w
          · replace w := w.2 c24
            refine eb_aload_n (pc := 101) (n := 0) (i := 0) rfl rfl rfl ?_
            refine eb_getR (pc := 102) rfl rfl (by decide) (by decide) rfl (ko_s_flights_6 ko20) ?_
            refine eb_iload (pc := 105) (i := 8) rfl rfl ?_
            refine eb_aload_n (pc := 107) (n := 0) (i := 0) rfl rfl rfl ?_
            obtain ⟨r38, q39, k40, w⟩ := w
            refine eb_getR (pc := 108) rfl rfl (by decide) (by decide) rfl q39 ?_
            refine eb_iload_n (pc := 111) (n := 3) (i := 3) rfl rfl rfl ?_
            refine eb_iload (pc := 112) (i := 4) rfl rfl ?_
            refine eb_iload (pc := 114) (i := 6) rfl rfl ?_
            refine eb_aload_n (pc := 116) (n := 0) (i := 0) rfl rfl rfl ?_
            refine eb_getR (pc := 117) rfl rfl (by decide) (by decide) rfl (ko_s_flights_1 ko20) ?_
            refine eb_getI (pc := 120) rfl rfl (by decide) (by decide) rfl ?_
            refine eb_iload (pc := 123) (i := 7) rfl rfl ?_
            refine eb_ctV (pc := 125) (As := [.int y2, .int y8, .int y16, .int (eb_I h18 s_flights_state 4), .int y19]) (rest := [.int ((((y16 * 4) + x2) * 16) + y2), .ref s_flights_verdicts]) rfl (by decide) rfl k40 (by decide) rfl (Nat.le_of_ble_eq_true rfl) ?_
            refine eb_Ct.mono w ?_
            rintro r h41 ⟨y42, rfl, ko43, w⟩
            change eb_Sn _ _ _ 128 _ [.int y42, .int ((((y16 * 4) + x2) * 16) + y2), .ref s_flights_verdicts] _ _
            refine eb_i2b (pc := 128) rfl ?_
            obtain ⟨c44, w⟩ := w
            refine eb_bastore (pc := 129) rfl rfl c44 ?_
            refine eb_aload_n (pc := 130) (n := 0) (i := 0) rfl rfl rfl ?_
            refine eb_getR (pc := 131) rfl rfl (by decide) (by decide) rfl (ko_s_flights_6 ko43) ?_
            refine eb_iload (pc := 134) (i := 8) rfl rfl ?_
            obtain ⟨c45, w⟩ := w
            refine eb_baload (pc := 136) rfl rfl c45 ?_
            refine eb_iconst (pc := 137) (n := 1) (v := 1) rfl rfl ?_
            refine eb_icmp_ne (pc := 138) (tgt := 143) rfl (by decide) (fun c46 => ?_) (fun c46 => ?_)
            · replace w := w.1 c46
              refine eb_iload (pc := 143) (i := 4) rfl rfl ?_
              refine eb_aload_n (pc := 145) (n := 0) (i := 0) rfl rfl rfl ?_
              refine eb_getR (pc := 146) rfl rfl (by decide) (by decide) rfl (ko_s_flights_6 ko43) ?_
              refine eb_iload (pc := 149) (i := 8) rfl rfl ?_
              obtain ⟨c47, w⟩ := w
              refine eb_baload (pc := 151) rfl rfl c47 ?_
              refine eb_iconst (pc := 152) (n := 3) (v := 3) rfl rfl ?_
              refine eb_icmp_ne (pc := 153) (tgt := 167) rfl (by decide) (fun c48 => ?_) (fun c48 => ?_)
              · replace w := w.1 c48
                refine eb_iload (pc := 167) (i := 5) rfl rfl ?_
                refine eb_ctS (pc := 169) (As := [.int y8, .int y13]) (rest := []) rfl (by decide) (by decide) rfl rfl (Nat.le_of_ble_eq_true rfl) ?_
                refine eb_Ct.mono w ?_
                rintro r h49 ⟨y50, rfl, ko51, w⟩
                change eb_Sn _ _ _ 172 _ [.int y50] _ _
                exact eb_ireturn (pc := 172) rfl rfl rfl w
              · replace w := w.2 c48
                refine eb_iload (pc := 156) (i := 5) rfl rfl ?_
                refine eb_iload (pc := 158) (i := 7) rfl rfl ?_
                refine eb_ctS (pc := 160) (As := [.int y19]) (rest := [.int y13, .int y8]) rfl (by decide) (by decide) rfl rfl (Nat.le_of_ble_eq_true rfl) ?_
                refine eb_Ct.mono w ?_
                rintro r h52 ⟨y53, rfl, ko54, w⟩
                change eb_Sn _ _ _ 163 _ [.int y53, .int y13, .int y8] _ _
                refine eb_ior (pc := 163) rfl ?_
                refine eb_goto (pc := 164) (tgt := 169) rfl (by decide) ?_
                refine eb_ctS (pc := 169) (As := [.int y8, .int (y13 ||| y53)]) (rest := []) rfl (by decide) (by decide) rfl rfl (Nat.le_of_ble_eq_true rfl) ?_
                refine eb_Ct.mono w ?_
                rintro r h55 ⟨y56, rfl, ko57, w⟩
                change eb_Sn _ _ _ 172 _ [.int y56] _ _
                exact eb_ireturn (pc := 172) rfl rfl rfl w
            · replace w := w.2 c46
              refine eb_iconst (pc := 141) (n := -1) (v := (-1)) rfl rfl ?_
              exact eb_ireturn (pc := 142) rfl rfl rfl w
        · replace w := w.2 c22
          refine eb_iconst (pc := 89) (n := -1) (v := (-1)) rfl rfl ?_
          exact eb_ireturn (pc := 90) rfl rfl rfl w
    · replace w := w.2 c11
      refine eb_iconst (pc := 35) (n := -1) (v := (-1)) rfl rfl ?_
      exact eb_ireturn (pc := 36) rfl rfl rfl w
theorem T_X1_codeAfter {d : Nat} {h : eb_H} {Q : Option Value → eb_H → Prop} (x1 : Int32) (x2 : Int32)  (ko : eb_KO h) (w : eb_Ct d 5 [.int x1] h (fun r h1 => ∃ y2, r = some (.int y2) ∧ eb_KO h1 ∧ ∃ r4, eb_R h1 s_flights 0 = some r4 ∧ eb_kd r4 = 9 ∧ eb_Ct d 87 [.ref r4, .int y2, .int x2] h1 (fun r h7 => ∃ y8, r = some (.int y8) ∧ eb_KO h7 ∧ ((y8 = ((-1) : Int32) → Q (some (.int (-1))) h7) ∧ (¬ (y8 = ((-1) : Int32)) → ((¬ (((eb_I h7 s_flights 2) >>> (y8 &&& 31)) &&& 1) = (1 : Int32) → eb_Ct d 6 [.int x1] h7 (fun r h12 => ∃ y13, r = some (.int y13) ∧ eb_KO h12 ∧ eb_Ct d 283 [.int y13] h12 (fun r h15 => ∃ y16, r = some (.int y16) ∧ eb_KO h15 ∧ eb_Ct d 62 [.ref s_flights_state, .int y8] h15 (fun r h18 => ∃ y19, r = some (.int y19) ∧ eb_KO h18 ∧ ((((((y16 * 4) + x2) * 16) + y2) < 0 → Q (some (.int (-1))) h18) ∧ (¬ (((((y16 * 4) + x2) * 16) + y2) < 0) → ((((((y16 * 4) + x2) * 16) + y2) < (448 : Int32) → (vp_in ((((y16 * 4) + x2) * 16) + y2) 448) ∧ ((¬ (eb_I h18 s_flights_verdicts ((((y16 * 4) + x2) * 16) + y2).toNatClampNeg) = 0 → (vp_in ((((y16 * 4) + x2) * 16) + y2) 448) ∧ ((¬ (eb_I h18 s_flights_verdicts ((((y16 * 4) + x2) * 16) + y2).toNatClampNeg) = (1 : Int32) → (vp_in ((((y16 * 4) + x2) * 16) + y2) 448) ∧ ((¬ (eb_I h18 s_flights_verdicts ((((y16 * 4) + x2) * 16) + y2).toNatClampNeg) = (3 : Int32) → eb_Ct d 4 [.int y8, .int y13] h18 (fun r h29 => ∃ y30, r = some (.int y30) ∧ eb_KO h29 ∧ Q (some (.int y30)) h29)) ∧ ((eb_I h18 s_flights_verdicts ((((y16 * 4) + x2) * 16) + y2).toNatClampNeg) = (3 : Int32) → eb_Ct d 141 [.int y19] h18 (fun r h32 => ∃ y33, r = some (.int y33) ∧ eb_KO h32 ∧ eb_Ct d 4 [.int y8, .int (y13 ||| y33)] h32 (fun r h35 => ∃ y36, r = some (.int y36) ∧ eb_KO h35 ∧ Q (some (.int y36)) h35))))) ∧ ((eb_I h18 s_flights_verdicts ((((y16 * 4) + x2) * 16) + y2).toNatClampNeg) = (1 : Int32) → Q (some (.int (-1))) h18))) ∧ ((eb_I h18 s_flights_verdicts ((((y16 * 4) + x2) * 16) + y2).toNatClampNeg) = 0 → ∃ r38, eb_R h18 s_flights 0 = some r38 ∧ eb_kd r38 = 9 ∧ eb_Ct d 88 [.ref r38, .int y2, .int y8, .int y16, .int (eb_I h18 s_flights_state 4), .int y19] h18 (fun r h41 => ∃ y42, r = some (.int y42) ∧ eb_KO h41 ∧ (vp_in ((((y16 * 4) + x2) * 16) + y2) 448) ∧ (vp_in ((((y16 * 4) + x2) * 16) + y2) 448) ∧ ((¬ (eb_I (eb_sI h41 s_flights_verdicts ((((y16 * 4) + x2) * 16) + y2).toNatClampNeg y42.toInt8.toInt32.toInt8.toInt32) s_flights_verdicts ((((y16 * 4) + x2) * 16) + y2).toNatClampNeg) = (1 : Int32) → (vp_in ((((y16 * 4) + x2) * 16) + y2) 448) ∧ ((¬ (eb_I (eb_sI h41 s_flights_verdicts ((((y16 * 4) + x2) * 16) + y2).toNatClampNeg y42.toInt8.toInt32.toInt8.toInt32) s_flights_verdicts ((((y16 * 4) + x2) * 16) + y2).toNatClampNeg) = (3 : Int32) → eb_Ct d 4 [.int y8, .int y13] (eb_sI h41 s_flights_verdicts ((((y16 * 4) + x2) * 16) + y2).toNatClampNeg y42.toInt8.toInt32.toInt8.toInt32) (fun r h49 => ∃ y50, r = some (.int y50) ∧ eb_KO h49 ∧ Q (some (.int y50)) h49)) ∧ ((eb_I (eb_sI h41 s_flights_verdicts ((((y16 * 4) + x2) * 16) + y2).toNatClampNeg y42.toInt8.toInt32.toInt8.toInt32) s_flights_verdicts ((((y16 * 4) + x2) * 16) + y2).toNatClampNeg) = (3 : Int32) → eb_Ct d 141 [.int y19] (eb_sI h41 s_flights_verdicts ((((y16 * 4) + x2) * 16) + y2).toNatClampNeg y42.toInt8.toInt32.toInt8.toInt32) (fun r h52 => ∃ y53, r = some (.int y53) ∧ eb_KO h52 ∧ eb_Ct d 4 [.int y8, .int (y13 ||| y53)] h52 (fun r h55 => ∃ y56, r = some (.int y56) ∧ eb_KO h55 ∧ Q (some (.int y56)) h55))))) ∧ ((eb_I (eb_sI h41 s_flights_verdicts ((((y16 * 4) + x2) * 16) + y2).toNatClampNeg y42.toInt8.toInt32.toInt8.toInt32) s_flights_verdicts ((((y16 * 4) + x2) * 16) + y2).toNatClampNeg) = (1 : Int32) → Q (some (.int (-1))) (eb_sI h41 s_flights_verdicts ((((y16 * 4) + x2) * 16) + y2).toNatClampNeg y42.toInt8.toInt32.toInt8.toInt32))))))) ∧ (¬ (((((y16 * 4) + x2) * 16) + y2) < (448 : Int32)) → Q (some (.int (-1))) h18)))))))) ∧ ((((eb_I h7 s_flights 2) >>> (y8 &&& 31)) &&& 1) = (1 : Int32) → Q (some (.int (-1))) h7))))))) : eb_Ct (d + 1) 9 [.ref s_flights, .int x1, .int x2] h Q :=
  eb_bodyQ (by decide) ok_X1_codeAfter (Nat.le_of_ble_eq_true rfl) (b_X1_codeAfter_0 (h0 := h) x1 x2  ko w)
theorem b_X1_startCode_0 {d : Nat} {h0 h : eb_H} {Q : Option Value → eb_H → Prop}   (ko : eb_KO h) (w : eb_Ct d 4 [.int (eb_I h s_flights_state 0), .int (eb_I h s_flights_state 1)] h (fun r h1 => ∃ y2, r = some (.int y2) ∧ eb_KO h1 ∧ eb_Ct d 7 [.int y2] h1 (fun r h4 => ∃ y5, r = some (.int y5) ∧ eb_KO h4 ∧ Q (some (.int (if y5 = 0 then 0 else y2 : Int32))) h4))) : eb_Sn (d + 1) m_X1_startCode h0 0 [(0, .ref s_flights)] [] h Q := by
  refine eb_aload_n (pc := 0) (n := 0) (i := 0) rfl rfl rfl ?_
  refine eb_getR (pc := 1) rfl rfl (by decide) (by decide) rfl (ko_s_flights_1 ko) ?_
  refine eb_getI (pc := 4) rfl rfl (by decide) (by decide) rfl ?_
  refine eb_aload_n (pc := 7) (n := 0) (i := 0) rfl rfl rfl ?_
  refine eb_getR (pc := 8) rfl rfl (by decide) (by decide) rfl (ko_s_flights_1 ko) ?_
  refine eb_getI (pc := 11) rfl rfl (by decide) (by decide) rfl ?_
  refine eb_ctS (pc := 14) (As := [.int (eb_I h s_flights_state 0), .int (eb_I h s_flights_state 1)]) (rest := []) rfl (by decide) (by decide) rfl rfl (Nat.le_of_ble_eq_true rfl) ?_
  refine eb_Ct.mono w ?_
  rintro r h1 ⟨y2, rfl, ko3, w⟩
  change eb_Sn _ _ _ 17 _ [.int y2] _ _
  refine eb_istore_n (pc := 17) (n := 1) (i := 1) (ls2 := [(1, .int y2), (0, .ref s_flights)]) rfl (Nat.le_of_ble_eq_true rfl) rfl rfl ?_
  refine eb_iload_n (pc := 18) (n := 1) (i := 1) rfl rfl rfl ?_
  refine eb_ctS (pc := 19) (As := [.int y2]) (rest := []) rfl (by decide) (by decide) rfl rfl (Nat.le_of_ble_eq_true rfl) ?_
  refine eb_Ct.mono w ?_
  rintro r h4 ⟨y5, rfl, ko6, w⟩
  change eb_Sn _ _ _ 22 _ [.int y5] _ _
  have jj8 : eb_Sn (d + 1) m_X1_startCode h0 30 [(1, .int y2), (0, .ref s_flights)] [.int (if y5 = 0 then 0 else y2 : Int32)] h4 Q := by
    exact eb_ireturn (pc := 30) rfl rfl rfl w
  refine eb_if_eq (pc := 22) (tgt := 29) rfl (by decide) (fun c7 => ?_) (fun c7 => ?_)
  · refine eb_iconst (pc := 29) (n := 0) (v := 0) rfl rfl ?_
    simp only [if_pos c7] at jj8 ⊢
    exact jj8
  · refine eb_iload_n (pc := 25) (n := 1) (i := 1) rfl rfl rfl ?_
    refine eb_goto (pc := 26) (tgt := 30) rfl (by decide) ?_
    simp only [if_neg c7] at jj8 ⊢
    exact jj8
theorem T_X1_startCode {d : Nat} {h : eb_H} {Q : Option Value → eb_H → Prop}   (ko : eb_KO h) (w : eb_Ct d 4 [.int (eb_I h s_flights_state 0), .int (eb_I h s_flights_state 1)] h (fun r h1 => ∃ y2, r = some (.int y2) ∧ eb_KO h1 ∧ eb_Ct d 7 [.int y2] h1 (fun r h4 => ∃ y5, r = some (.int y5) ∧ eb_KO h4 ∧ Q (some (.int (if y5 = 0 then 0 else y2 : Int32))) h4))) : eb_Ct (d + 1) 10 [.ref s_flights] h Q :=
  eb_bodyQ (by decide) ok_X1_startCode (Nat.le_of_ble_eq_true rfl) (b_X1_startCode_0 (h0 := h)   ko w)
theorem b_X1_spread_0 {d : Nat} {h0 h : eb_H} {Q : Option Value → eb_H → Prop}   (ko : eb_KO h) (w : eb_Ct d 301 [.ref s_flights_origins, .int (-1)] h (fun r h1 => r = none ∧ eb_KO h1 ∧ eb_Ct d 10 [.ref s_flights] h1 (fun r h4 => ∃ y5, r = some (.int y5) ∧ eb_KO h4 ∧ (vp_in y5 1024) ∧ eb_Sn (d + 1) m_X1_spread h0 36 [(0, .ref s_flights), (2, .int 0)] [] (eb_sI (eb_sI (eb_sI h4 s_flights_origins y5.toNatClampNeg ((4 : Int32) * y5)) s_flights_order (0 : Int32).toNatClampNeg y5) s_flights 4 1) Q))) : eb_Sn (d + 1) m_X1_spread h0 0 [(0, .ref s_flights)] [] h Q := by
  refine eb_aload_n (pc := 0) (n := 0) (i := 0) rfl rfl rfl ?_
  refine eb_getR (pc := 1) rfl rfl (by decide) (by decide) rfl (ko_s_flights_8 ko) ?_
  refine eb_iconst (pc := 4) (n := -1) (v := (-1)) rfl rfl ?_
  refine eb_ctS (pc := 5) (As := [.ref s_flights_origins, .int (-1)]) (rest := []) rfl (by decide) (by decide) rfl rfl (Nat.le_of_ble_eq_true rfl) ?_
  refine eb_Ct.mono w ?_
  rintro r h1 ⟨rfl, ko3, w⟩
  change eb_Sn _ _ _ 8 _ [] _ _
  refine eb_aload_n (pc := 8) (n := 0) (i := 0) rfl rfl rfl ?_
  refine eb_ctV (pc := 9) (As := []) (rest := []) rfl (by decide) rfl rfl (by decide) rfl (Nat.le_of_ble_eq_true rfl) ?_
  refine eb_Ct.mono w ?_
  rintro r h4 ⟨y5, rfl, ko6, w⟩
  change eb_Sn _ _ _ 12 _ [.int y5] _ _
  refine eb_istore_n (pc := 12) (n := 1) (i := 1) (ls2 := [(1, .int y5), (0, .ref s_flights)]) rfl (Nat.le_of_ble_eq_true rfl) rfl rfl ?_
  refine eb_aload_n (pc := 13) (n := 0) (i := 0) rfl rfl rfl ?_
  refine eb_getR (pc := 14) rfl rfl (by decide) (by decide) rfl (ko_s_flights_8 ko6) ?_
  refine eb_iload_n (pc := 17) (n := 1) (i := 1) rfl rfl rfl ?_
  refine eb_iconst (pc := 18) (n := 4) (v := 4) rfl rfl ?_
  refine eb_iload_n (pc := 19) (n := 1) (i := 1) rfl rfl rfl ?_
  refine eb_imul (pc := 20) rfl ?_
  obtain ⟨c7, w⟩ := w
  refine eb_iastore (pc := 21) rfl rfl c7 ?_
  refine eb_aload_n (pc := 22) (n := 0) (i := 0) rfl rfl rfl ?_
  refine eb_getR (pc := 23) rfl rfl (by decide) (by decide) rfl (ko_s_flights_7 ko6) ?_
  refine eb_iconst (pc := 26) (n := 0) (v := 0) rfl rfl ?_
  refine eb_iload_n (pc := 27) (n := 1) (i := 1) rfl rfl rfl ?_
  refine eb_iastore (pc := 28) rfl rfl (by unfold vp_in; decide) ?_
  refine eb_aload_n (pc := 29) (n := 0) (i := 0) rfl rfl rfl ?_
  refine eb_iconst (pc := 30) (n := 1) (v := 1) rfl rfl ?_
  refine eb_putI (pc := 31) rfl rfl (by decide) (by decide) rfl rfl ⟨rfl, rfl⟩ ?_
  refine eb_iconst (pc := 34) (n := 0) (v := 0) rfl rfl ?_
  refine eb_istore_n (pc := 35) (n := 2) (i := 2) (ls2 := [(2, .int 0), (1, .int y5), (0, .ref s_flights)]) rfl (Nat.le_of_ble_eq_true rfl) rfl rfl ?_
  exact eb_pick [2, 0] rfl w
theorem b_X1_spread_36 {d : Nat} {h0 h : eb_H} {Q : Option Value → eb_H → Prop} (x2 : Int32)  (ko : eb_KO h) (w : (((eb_I h s_flights 4) ≤ x2 → Q none h) ∧ (¬ ((eb_I h s_flights 4) ≤ x2) → (((1024 : Int32) ≤ x2 → Q none h) ∧ (¬ ((1024 : Int32) ≤ x2) → eb_Sn (d + 1) m_X1_spread h0 53 [(0, .ref s_flights), (2, .int x2), (3, .int 0)] [] h Q))))) : eb_Sn (d + 1) m_X1_spread h0 36 [(0, .ref s_flights), (2, .int x2)] [] h Q := by
  refine eb_iload_n (pc := 36) (n := 2) (i := 2) rfl rfl rfl ?_
  refine eb_aload_n (pc := 37) (n := 0) (i := 0) rfl rfl rfl ?_
  refine eb_getI (pc := 38) rfl rfl (by decide) (by decide) rfl ?_
  refine eb_icmp_ge (pc := 41) (tgt := 153) rfl (by decide) (fun c1 => ?_) (fun c1 => ?_)
  · replace w := w.1 c1
    exact eb_return (pc := 153) rfl rfl w
  · replace w := w.2 c1
    refine eb_iload_n (pc := 44) (n := 2) (i := 2) rfl rfl rfl ?_
    refine eb_sipush (pc := 45) (n := 1024) (v := 1024) rfl rfl ?_
    refine eb_icmp_ge (pc := 48) (tgt := 153) rfl (by decide) (fun c2 => ?_) (fun c2 => ?_)
    · replace w := w.1 c2
      exact eb_return (pc := 153) rfl rfl w
    · replace w := w.2 c2
      refine eb_iconst (pc := 51) (n := 0) (v := 0) rfl rfl ?_
      refine eb_istore_n (pc := 52) (n := 3) (i := 3) (ls2 := [(3, .int 0), (0, .ref s_flights), (2, .int x2)]) rfl (Nat.le_of_ble_eq_true rfl) rfl rfl ?_
      exact eb_pick [1, 2, 0] rfl w
theorem b_X1_spread_53 {d : Nat} {h0 h : eb_H} {Q : Option Value → eb_H → Prop} (x2 : Int32) (x3 : Int32)  (ko : eb_KO h) (w : (((4 : Int32) ≤ x3 → eb_Sn (d + 1) m_X1_spread h0 36 [(0, .ref s_flights), (2, .int (x2 + 1))] [] h Q) ∧ (¬ ((4 : Int32) ≤ x3) → (vp_in x2 1024) ∧ eb_Ct d 9 [.ref s_flights, .int (eb_I h s_flights_order x2.toNatClampNeg), .int x3] h (fun r h3 => ∃ y4, r = some (.int y4) ∧ eb_KO h3 ∧ eb_Ct d 7 [.int y4] h3 (fun r h6 => ∃ y7, r = some (.int y7) ∧ eb_KO h6 ∧ ((y7 = 0 → eb_Sn (d + 1) m_X1_spread h0 53 [(0, .ref s_flights), (2, .int x2), (3, .int (x3 + 1))] [] h6 Q) ∧ (¬ (y7 = 0) → (vp_in y4 1024) ∧ ((¬ (eb_I h6 s_flights_origins y4.toNatClampNeg) = ((-1) : Int32) → eb_Sn (d + 1) m_X1_spread h0 53 [(0, .ref s_flights), (2, .int x2), (3, .int (x3 + 1))] [] h6 Q) ∧ ((eb_I h6 s_flights_origins y4.toNatClampNeg) = ((-1) : Int32) → (((eb_I h6 s_flights 4) < (1024 : Int32) → (vp_in x2 1024) ∧ (vp_in y4 1024) ∧ (vp_in (eb_I (eb_sI h6 s_flights_origins y4.toNatClampNeg (((4 : Int32) * (eb_I h6 s_flights_order x2.toNatClampNeg)) + x3)) s_flights 4) 1024) ∧ eb_Sn (d + 1) m_X1_spread h0 53 [(0, .ref s_flights), (2, .int x2), (3, .int (x3 + 1))] [] (eb_sI (eb_sI (eb_sI h6 s_flights_origins y4.toNatClampNeg (((4 : Int32) * (eb_I h6 s_flights_order x2.toNatClampNeg)) + x3)) s_flights_order (eb_I (eb_sI h6 s_flights_origins y4.toNatClampNeg (((4 : Int32) * (eb_I h6 s_flights_order x2.toNatClampNeg)) + x3)) s_flights 4).toNatClampNeg y4) s_flights 4 ((eb_I (eb_sI (eb_sI h6 s_flights_origins y4.toNatClampNeg (((4 : Int32) * (eb_I h6 s_flights_order x2.toNatClampNeg)) + x3)) s_flights_order (eb_I (eb_sI h6 s_flights_origins y4.toNatClampNeg (((4 : Int32) * (eb_I h6 s_flights_order x2.toNatClampNeg)) + x3)) s_flights 4).toNatClampNeg y4) s_flights 4) + 1)) Q) ∧ (¬ ((eb_I h6 s_flights 4) < (1024 : Int32)) → eb_Sn (d + 1) m_X1_spread h0 53 [(0, .ref s_flights), (2, .int x2), (3, .int (x3 + 1))] [] h6 Q))))))))))) : eb_Sn (d + 1) m_X1_spread h0 53 [(0, .ref s_flights), (2, .int x2), (3, .int x3)] [] h Q := by
  refine eb_iload_n (pc := 53) (n := 3) (i := 3) rfl rfl rfl ?_
  refine eb_iconst (pc := 54) (n := 4) (v := 4) rfl rfl ?_
  refine eb_icmp_ge (pc := 55) (tgt := 147) rfl (by decide) (fun c1 => ?_) (fun c1 => ?_)
  · replace w := w.1 c1
    refine eb_iinc (pc := 147) (i := 2) (n := 1) (v := x2 + 1) (ls2 := [(2, .int (x2 + 1)), (0, .ref s_flights), (3, .int x3)]) (Nat.le_of_ble_eq_true rfl) rfl rfl rfl rfl ?_
    refine eb_goto (pc := 150) (tgt := 36) rfl (by decide) ?_
    exact eb_pick [1, 0] rfl w
  · replace w := w.2 c1
    refine eb_aload_n (pc := 58) (n := 0) (i := 0) rfl rfl rfl ?_
    refine eb_aload_n (pc := 59) (n := 0) (i := 0) rfl rfl rfl ?_
    refine eb_getR (pc := 60) rfl rfl (by decide) (by decide) rfl (ko_s_flights_7 ko) ?_
    refine eb_iload_n (pc := 63) (n := 2) (i := 2) rfl rfl rfl ?_
    obtain ⟨c2, w⟩ := w
    refine eb_iaload (pc := 64) rfl rfl c2 ?_
    refine eb_iload_n (pc := 65) (n := 3) (i := 3) rfl rfl rfl ?_
    refine eb_ctV (pc := 66) (As := [.int (eb_I h s_flights_order x2.toNatClampNeg), .int x3]) (rest := []) rfl (by decide) rfl rfl (by decide) rfl (Nat.le_of_ble_eq_true rfl) ?_
    refine eb_Ct.mono w ?_
    rintro r h3 ⟨y4, rfl, ko5, w⟩
    change eb_Sn _ _ _ 69 _ [.int y4] _ _
    refine eb_istore (pc := 69) (i := 4) (ls2 := [(4, .int y4), (0, .ref s_flights), (2, .int x2), (3, .int x3)]) (Nat.le_of_ble_eq_true rfl) rfl rfl ?_
    refine eb_iload (pc := 71) (i := 4) rfl rfl ?_
    refine eb_ctS (pc := 73) (As := [.int y4]) (rest := []) rfl (by decide) (by decide) rfl rfl (Nat.le_of_ble_eq_true rfl) ?_
    refine eb_Ct.mono w ?_
    rintro r h6 ⟨y7, rfl, ko8, w⟩
    change eb_Sn _ _ _ 76 _ [.int y7] _ _
    refine eb_if_eq (pc := 76) (tgt := 141) rfl (by decide) (fun c9 => ?_) (fun c9 => ?_)
    · replace w := w.1 c9
      refine eb_iinc (pc := 141) (i := 3) (n := 1) (v := x3 + 1) (ls2 := [(3, .int (x3 + 1)), (4, .int y4), (0, .ref s_flights), (2, .int x2)]) (Nat.le_of_ble_eq_true rfl) rfl rfl rfl rfl ?_
      refine eb_goto (pc := 144) (tgt := 53) rfl (by decide) ?_
      exact eb_pick [2, 3, 0] rfl w
    · replace w := w.2 c9
      refine eb_aload_n (pc := 79) (n := 0) (i := 0) rfl rfl rfl ?_
      refine eb_getR (pc := 80) rfl rfl (by decide) (by decide) rfl (ko_s_flights_8 ko8) ?_
      refine eb_iload (pc := 83) (i := 4) rfl rfl ?_
      obtain ⟨c10, w⟩ := w
      refine eb_iaload (pc := 85) rfl rfl c10 ?_
      refine eb_iconst (pc := 86) (n := -1) (v := (-1)) rfl rfl ?_
      refine eb_icmp_ne (pc := 87) (tgt := 141) rfl (by decide) (fun c11 => ?_) (fun c11 => ?_)
      · replace w := w.1 c11
        refine eb_iinc (pc := 141) (i := 3) (n := 1) (v := x3 + 1) (ls2 := [(3, .int (x3 + 1)), (4, .int y4), (0, .ref s_flights), (2, .int x2)]) (Nat.le_of_ble_eq_true rfl) rfl rfl rfl rfl ?_
        refine eb_goto (pc := 144) (tgt := 53) rfl (by decide) ?_
        exact eb_pick [2, 3, 0] rfl w
      · replace w := w.2 c11
        refine eb_aload_n (pc := 90) (n := 0) (i := 0) rfl rfl rfl ?_
        refine eb_getI (pc := 91) rfl rfl (by decide) (by decide) rfl ?_
        refine eb_sipush (pc := 94) (n := 1024) (v := 1024) rfl rfl ?_
        refine eb_icmp_lt (pc := 97) (tgt := 103) rfl (by decide) (fun c12 => ?_) (fun c12 => ?_)
        · replace w := w.1 c12
          refine eb_aload_n (pc := 103) (n := 0) (i := 0) rfl rfl rfl ?_
          refine eb_getR (pc := 104) rfl rfl (by decide) (by decide) rfl (ko_s_flights_8 ko8) ?_
          refine eb_iload (pc := 107) (i := 4) rfl rfl ?_
          refine eb_iconst (pc := 109) (n := 4) (v := 4) rfl rfl ?_
          refine eb_aload_n (pc := 110) (n := 0) (i := 0) rfl rfl rfl ?_
          refine eb_getR (pc := 111) rfl rfl (by decide) (by decide) rfl (ko_s_flights_7 ko8) ?_
          refine eb_iload_n (pc := 114) (n := 2) (i := 2) rfl rfl rfl ?_
          obtain ⟨c13, w⟩ := w
          refine eb_iaload (pc := 115) rfl rfl c13 ?_
          refine eb_imul (pc := 116) rfl ?_
          refine eb_iload_n (pc := 117) (n := 3) (i := 3) rfl rfl rfl ?_
          refine eb_iadd (pc := 118) rfl ?_
          obtain ⟨c14, w⟩ := w
          refine eb_iastore (pc := 119) rfl rfl c14 ?_
          refine eb_aload_n (pc := 120) (n := 0) (i := 0) rfl rfl rfl ?_
          refine eb_getR (pc := 121) rfl rfl (by decide) (by decide) rfl (ko_s_flights_7 ko8) ?_
          refine eb_aload_n (pc := 124) (n := 0) (i := 0) rfl rfl rfl ?_
          refine eb_getI (pc := 125) rfl rfl (by decide) (by decide) rfl ?_
          refine eb_iload (pc := 128) (i := 4) rfl rfl ?_
          obtain ⟨c15, w⟩ := w
          refine eb_iastore (pc := 130) rfl rfl c15 ?_
          refine eb_aload_n (pc := 131) (n := 0) (i := 0) rfl rfl rfl ?_
          refine eb_dupr (pc := 132) rfl ?_
          refine eb_getI (pc := 133) rfl rfl (by decide) (by decide) rfl ?_
          refine eb_iconst (pc := 136) (n := 1) (v := 1) rfl rfl ?_
          refine eb_iadd (pc := 137) rfl ?_
          refine eb_putI (pc := 138) rfl rfl (by decide) (by decide) rfl rfl ⟨rfl, rfl⟩ ?_
          refine eb_iinc (pc := 141) (i := 3) (n := 1) (v := x3 + 1) (ls2 := [(3, .int (x3 + 1)), (4, .int y4), (0, .ref s_flights), (2, .int x2)]) (Nat.le_of_ble_eq_true rfl) rfl rfl rfl rfl ?_
          refine eb_goto (pc := 144) (tgt := 53) rfl (by decide) ?_
          exact eb_pick [2, 3, 0] rfl w
        · replace w := w.2 c12
          refine eb_goto (pc := 100) (tgt := 141) rfl (by decide) ?_
          refine eb_iinc (pc := 141) (i := 3) (n := 1) (v := x3 + 1) (ls2 := [(3, .int (x3 + 1)), (4, .int y4), (0, .ref s_flights), (2, .int x2)]) (Nat.le_of_ble_eq_true rfl) rfl rfl rfl rfl ?_
          refine eb_goto (pc := 144) (tgt := 53) rfl (by decide) ?_
          exact eb_pick [2, 3, 0] rfl w
theorem T_X1_spread {d : Nat} {h : eb_H} {Q : Option Value → eb_H → Prop}   (ko : eb_KO h) (w : eb_Ct d 301 [.ref s_flights_origins, .int (-1)] h (fun r h1 => r = none ∧ eb_KO h1 ∧ eb_Ct d 10 [.ref s_flights] h1 (fun r h4 => ∃ y5, r = some (.int y5) ∧ eb_KO h4 ∧ (vp_in y5 1024) ∧ eb_Sn (d + 1) m_X1_spread h 36 [(0, .ref s_flights), (2, .int 0)] [] (eb_sI (eb_sI (eb_sI h4 s_flights_origins y5.toNatClampNeg ((4 : Int32) * y5)) s_flights_order (0 : Int32).toNatClampNeg y5) s_flights 4 1) Q))) : eb_Ct (d + 1) 11 [.ref s_flights] h Q :=
  eb_bodyQ (by decide) ok_X1_spread (Nat.le_of_ble_eq_true rfl) (b_X1_spread_0 (h0 := h)   ko w)
theorem b_X1_traceComing_0 {d : Nat} {h0 h : eb_H} {Q : Option Value → eb_H → Prop} (x1 : Int32) (x2 : Int32) (x3 : Int32)  (ko : eb_KO h) (w : eb_Ct d 11 [.ref s_flights] h (fun r h1 => r = none ∧ eb_KO h1 ∧ eb_Sn (d + 1) m_X1_traceComing h0 7 [(0, .ref s_flights), (1, .int x1), (2, .int x2), (3, .int x3), (4, .int 0)] [] h1 Q)) : eb_Sn (d + 1) m_X1_traceComing h0 0 [(0, .ref s_flights), (1, .int x1), (2, .int x2), (3, .int x3)] [] h Q := by
  refine eb_aload_n (pc := 0) (n := 0) (i := 0) rfl rfl rfl ?_
  refine eb_ctV (pc := 1) (As := []) (rest := []) rfl (by decide) rfl rfl (by decide) rfl (Nat.le_of_ble_eq_true rfl) ?_
  refine eb_Ct.mono w ?_
  rintro r h1 ⟨rfl, ko3, w⟩
  change eb_Sn _ _ _ 4 _ [] _ _
  refine eb_iconst (pc := 4) (n := 0) (v := 0) rfl rfl ?_
  refine eb_istore (pc := 5) (i := 4) (ls2 := [(4, .int 0), (0, .ref s_flights), (1, .int x1), (2, .int x2), (3, .int x3)]) (Nat.le_of_ble_eq_true rfl) rfl rfl ?_
  exact eb_pick [1, 2, 3, 4, 0] rfl w
theorem b_X1_traceComing_7 {d : Nat} {h0 h : eb_H} {Q : Option Value → eb_H → Prop} (x1 : Int32) (x2 : Int32) (x3 : Int32) (x4 : Int32)  (ko : eb_KO h) (w : (((eb_I h s_flights 4) ≤ x4 → Q (some (.int (-1))) h) ∧ (¬ ((eb_I h s_flights 4) ≤ x4) → (((1024 : Int32) ≤ x4 → Q (some (.int (-1))) h) ∧ (¬ ((1024 : Int32) ≤ x4) → (vp_in x4 1024) ∧ eb_Ct d 13 [.int (eb_I h s_flights_order x4.toNatClampNeg), .int x1, .int x2, .int x3] h (fun r h4 => ∃ y5, r = some (.int y5) ∧ eb_KO h4 ∧ ((¬ y5 = 0 → (vp_in x4 1024) ∧ eb_Ct d 14 [.ref s_flights, .int (eb_I h4 s_flights_order x4.toNatClampNeg)] h4 (fun r h9 => r = none ∧ eb_KO h9 ∧ Q (some (.int (eb_I h9 s_flights 5))) h9)) ∧ (y5 = 0 → eb_Sn (d + 1) m_X1_traceComing h0 7 [(0, .ref s_flights), (1, .int x1), (2, .int x2), (3, .int x3), (4, .int (x4 + 1))] [] h4 Q)))))))) : eb_Sn (d + 1) m_X1_traceComing h0 7 [(0, .ref s_flights), (1, .int x1), (2, .int x2), (3, .int x3), (4, .int x4)] [] h Q := by
  refine eb_iload (pc := 7) (i := 4) rfl rfl ?_
  refine eb_aload_n (pc := 9) (n := 0) (i := 0) rfl rfl rfl ?_
  refine eb_getI (pc := 10) rfl rfl (by decide) (by decide) rfl ?_
  refine eb_icmp_ge (pc := 13) (tgt := 65) rfl (by decide) (fun c1 => ?_) (fun c1 => ?_)
  · replace w := w.1 c1
    refine eb_iconst (pc := 65) (n := -1) (v := (-1)) rfl rfl ?_
    exact eb_ireturn (pc := 66) rfl rfl rfl w
  · replace w := w.2 c1
    refine eb_iload (pc := 16) (i := 4) rfl rfl ?_
    refine eb_sipush (pc := 18) (n := 1024) (v := 1024) rfl rfl ?_
    refine eb_icmp_ge (pc := 21) (tgt := 65) rfl (by decide) (fun c2 => ?_) (fun c2 => ?_)
    · replace w := w.1 c2
      refine eb_iconst (pc := 65) (n := -1) (v := (-1)) rfl rfl ?_
      exact eb_ireturn (pc := 66) rfl rfl rfl w
    · replace w := w.2 c2
      refine eb_aload_n (pc := 24) (n := 0) (i := 0) rfl rfl rfl ?_
      refine eb_getR (pc := 25) rfl rfl (by decide) (by decide) rfl (ko_s_flights_7 ko) ?_
      refine eb_iload (pc := 28) (i := 4) rfl rfl ?_
      obtain ⟨c3, w⟩ := w
      refine eb_iaload (pc := 30) rfl rfl c3 ?_
      refine eb_iload_n (pc := 31) (n := 1) (i := 1) rfl rfl rfl ?_
      refine eb_iload_n (pc := 32) (n := 2) (i := 2) rfl rfl rfl ?_
      refine eb_iload_n (pc := 33) (n := 3) (i := 3) rfl rfl rfl ?_
      refine eb_ctS (pc := 34) (As := [.int (eb_I h s_flights_order x4.toNatClampNeg), .int x1, .int x2, .int x3]) (rest := []) rfl (by decide) (by decide) rfl rfl (Nat.le_of_ble_eq_true rfl) ?_
      refine eb_Ct.mono w ?_
      rintro r h4 ⟨y5, rfl, ko6, w⟩
      change eb_Sn _ _ _ 37 _ [.int y5] _ _
      refine eb_if_ne (pc := 37) (tgt := 43) rfl (by decide) (fun c7 => ?_) (fun c7 => ?_)
      · replace w := w.1 c7
        refine eb_aload_n (pc := 43) (n := 0) (i := 0) rfl rfl rfl ?_
        refine eb_aload_n (pc := 44) (n := 0) (i := 0) rfl rfl rfl ?_
        refine eb_getR (pc := 45) rfl rfl (by decide) (by decide) rfl (ko_s_flights_7 ko6) ?_
        refine eb_iload (pc := 48) (i := 4) rfl rfl ?_
        obtain ⟨c8, w⟩ := w
        refine eb_iaload (pc := 50) rfl rfl c8 ?_
        refine eb_ctV (pc := 51) (As := [.int (eb_I h4 s_flights_order x4.toNatClampNeg)]) (rest := []) rfl (by decide) rfl rfl (by decide) rfl (Nat.le_of_ble_eq_true rfl) ?_
        refine eb_Ct.mono w ?_
        rintro r h9 ⟨rfl, ko11, w⟩
        change eb_Sn _ _ _ 54 _ [] _ _
        refine eb_aload_n (pc := 54) (n := 0) (i := 0) rfl rfl rfl ?_
        refine eb_getI (pc := 55) rfl rfl (by decide) (by decide) rfl ?_
        exact eb_ireturn (pc := 58) rfl rfl rfl w
      · replace w := w.2 c7
        refine eb_goto (pc := 40) (tgt := 59) rfl (by decide) ?_
        refine eb_iinc (pc := 59) (i := 4) (n := 1) (v := x4 + 1) (ls2 := [(4, .int (x4 + 1)), (0, .ref s_flights), (1, .int x1), (2, .int x2), (3, .int x3)]) (Nat.le_of_ble_eq_true rfl) rfl rfl rfl rfl ?_
        refine eb_goto (pc := 62) (tgt := 7) rfl (by decide) ?_
        exact eb_pick [1, 2, 3, 4, 0] rfl w
theorem T_X1_traceComing {d : Nat} {h : eb_H} {Q : Option Value → eb_H → Prop} (x1 : Int32) (x2 : Int32) (x3 : Int32)  (ko : eb_KO h) (w : eb_Ct d 11 [.ref s_flights] h (fun r h1 => r = none ∧ eb_KO h1 ∧ eb_Sn (d + 1) m_X1_traceComing h 7 [(0, .ref s_flights), (1, .int x1), (2, .int x2), (3, .int x3), (4, .int 0)] [] h1 Q)) : eb_Ct (d + 1) 12 [.ref s_flights, .int x1, .int x2, .int x3] h Q :=
  eb_bodyQ (by decide) ok_X1_traceComing (Nat.le_of_ble_eq_true rfl) (b_X1_traceComing_0 (h0 := h) x1 x2 x3  ko w)
theorem b_X1_isComing_0 {d : Nat} {h0 h : eb_H} {Q : Option Value → eb_H → Prop} (x0 : Int32) (x1 : Int32) (x2 : Int32) (x3 : Int32)  (ko : eb_KO h) (w : eb_Ct d 6 [.int x0] h (fun r h1 => ∃ y2, r = some (.int y2) ∧ eb_KO h1 ∧ eb_Ct d 5 [.int x0] h1 (fun r h4 => ∃ y5, r = some (.int y5) ∧ eb_KO h4 ∧ Q (some (.int (if y5 = x1 then (if (y2 &&& x2) = x2 then (if (y2 &&& x3) = 0 then 1 else 0) else 0) else 0 : Int32))) h4))) : eb_Sn (d + 1) m_X1_isComing h0 0 [(0, .int x0), (1, .int x1), (2, .int x2), (3, .int x3)] [] h Q := by
  refine eb_iload_n (pc := 0) (n := 0) (i := 0) rfl rfl rfl ?_
  refine eb_ctS (pc := 1) (As := [.int x0]) (rest := []) rfl (by decide) (by decide) rfl rfl (Nat.le_of_ble_eq_true rfl) ?_
  refine eb_Ct.mono w ?_
  rintro r h1 ⟨y2, rfl, ko3, w⟩
  change eb_Sn _ _ _ 4 _ [.int y2] _ _
  refine eb_istore (pc := 4) (i := 4) (ls2 := [(4, .int y2), (0, .int x0), (1, .int x1), (2, .int x2), (3, .int x3)]) (Nat.le_of_ble_eq_true rfl) rfl rfl ?_
  refine eb_iload_n (pc := 6) (n := 0) (i := 0) rfl rfl rfl ?_
  refine eb_ctS (pc := 7) (As := [.int x0]) (rest := []) rfl (by decide) (by decide) rfl rfl (Nat.le_of_ble_eq_true rfl) ?_
  refine eb_Ct.mono w ?_
  rintro r h4 ⟨y5, rfl, ko6, w⟩
  change eb_Sn _ _ _ 10 _ [.int y5] _ _
  refine eb_iload_n (pc := 10) (n := 1) (i := 1) rfl rfl rfl ?_
  have jj10 : eb_Sn (d + 1) m_X1_isComing h0 34 [(4, .int y2), (0, .int x0), (1, .int x1), (2, .int x2), (3, .int x3)] [.int (if y5 = x1 then (if (y2 &&& x2) = x2 then (if (y2 &&& x3) = 0 then 1 else 0) else 0) else 0 : Int32)] h4 Q := by
    exact eb_ireturn (pc := 34) rfl rfl (by (repeat' split) <;> rfl) w
  refine eb_icmp_ne (pc := 11) (tgt := 33) rfl (by decide) (fun c7 => ?_) (fun c7 => ?_)
  · refine eb_iconst (pc := 33) (n := 0) (v := 0) rfl rfl ?_
    simp only [if_neg c7] at jj10 ⊢
    exact jj10
  · refine eb_iload (pc := 14) (i := 4) rfl rfl ?_
    refine eb_iload_n (pc := 16) (n := 2) (i := 2) rfl rfl rfl ?_
    refine eb_iand (pc := 17) rfl ?_
    refine eb_iload_n (pc := 18) (n := 2) (i := 2) rfl rfl rfl ?_
    refine eb_icmp_ne (pc := 19) (tgt := 33) rfl (by decide) (fun c8 => ?_) (fun c8 => ?_)
    · refine eb_iconst (pc := 33) (n := 0) (v := 0) rfl rfl ?_
      simp only [if_pos c7, if_neg c8] at jj10 ⊢
      exact jj10
    · refine eb_iload (pc := 22) (i := 4) rfl rfl ?_
      refine eb_iload_n (pc := 24) (n := 3) (i := 3) rfl rfl rfl ?_
      refine eb_iand (pc := 25) rfl ?_
      refine eb_if_ne (pc := 26) (tgt := 33) rfl (by decide) (fun c9 => ?_) (fun c9 => ?_)
      · refine eb_iconst (pc := 33) (n := 0) (v := 0) rfl rfl ?_
        simp only [if_pos c7, if_pos c8, if_neg c9] at jj10 ⊢
        exact jj10
      · refine eb_iconst (pc := 29) (n := 1) (v := 1) rfl rfl ?_
        refine eb_goto (pc := 30) (tgt := 34) rfl (by decide) ?_
        simp only [if_pos c7, if_pos c8, if_pos c9] at jj10 ⊢
        exact jj10
theorem T_X1_isComing {d : Nat} {h : eb_H} {Q : Option Value → eb_H → Prop} (x0 : Int32) (x1 : Int32) (x2 : Int32) (x3 : Int32)  (ko : eb_KO h) (w : eb_Ct d 6 [.int x0] h (fun r h1 => ∃ y2, r = some (.int y2) ∧ eb_KO h1 ∧ eb_Ct d 5 [.int x0] h1 (fun r h4 => ∃ y5, r = some (.int y5) ∧ eb_KO h4 ∧ Q (some (.int (if y5 = x1 then (if (y2 &&& x2) = x2 then (if (y2 &&& x3) = 0 then 1 else 0) else 0) else 0 : Int32))) h4))) : eb_Ct (d + 1) 13 [.int x0, .int x1, .int x2, .int x3] h Q :=
  eb_bodyQ (by decide) ok_X1_isComing (Nat.le_of_ble_eq_true rfl) (b_X1_isComing_0 (h0 := h) x0 x1 x2 x3  ko w)
theorem b_X1_traceTo_0 {d : Nat} {h0 h : eb_H} {Q : Option Value → eb_H → Prop} (x1 : Int32)  (ko : eb_KO h) (w : eb_Ct d 10 [.ref s_flights] h (fun r h1 => ∃ y2, r = some (.int y2) ∧ eb_KO h1 ∧ eb_Sn (d + 1) m_X1_traceTo h0 17 [(0, .ref s_flights), (2, .int y2), (3, .int x1)] [] (eb_sI (eb_sI h1 s_flights 3 0) s_flights 5 0) Q)) : eb_Sn (d + 1) m_X1_traceTo h0 0 [(0, .ref s_flights), (1, .int x1)] [] h Q := by
  refine eb_aload_n (pc := 0) (n := 0) (i := 0) rfl rfl rfl ?_
  refine eb_ctV (pc := 1) (As := []) (rest := []) rfl (by decide) rfl rfl (by decide) rfl (Nat.le_of_ble_eq_true rfl) ?_
  refine eb_Ct.mono w ?_
  rintro r h1 ⟨y2, rfl, ko3, w⟩
  change eb_Sn _ _ _ 4 _ [.int y2] _ _
  refine eb_istore_n (pc := 4) (n := 2) (i := 2) (ls2 := [(2, .int y2), (0, .ref s_flights), (1, .int x1)]) rfl (Nat.le_of_ble_eq_true rfl) rfl rfl ?_
  refine eb_iload_n (pc := 5) (n := 1) (i := 1) rfl rfl rfl ?_
  refine eb_istore_n (pc := 6) (n := 3) (i := 3) (ls2 := [(3, .int x1), (2, .int y2), (0, .ref s_flights), (1, .int x1)]) rfl (Nat.le_of_ble_eq_true rfl) rfl rfl ?_
  refine eb_aload_n (pc := 7) (n := 0) (i := 0) rfl rfl rfl ?_
  refine eb_iconst (pc := 8) (n := 0) (v := 0) rfl rfl ?_
  refine eb_putI (pc := 9) rfl rfl (by decide) (by decide) rfl rfl ⟨rfl, rfl⟩ ?_
  refine eb_aload_n (pc := 12) (n := 0) (i := 0) rfl rfl rfl ?_
  refine eb_iconst (pc := 13) (n := 0) (v := 0) rfl rfl ?_
  refine eb_putI (pc := 14) rfl rfl (by decide) (by decide) rfl rfl ⟨rfl, rfl⟩ ?_
  exact eb_pick [2, 1, 0] rfl w
theorem b_X1_traceTo_17 {d : Nat} {h0 h : eb_H} {Q : Option Value → eb_H → Prop} (x2 : Int32) (x3 : Int32)  (ko : eb_KO h) (w : (((1024 : Int32) ≤ (eb_I h s_flights 5) → Q none h) ∧ (¬ ((1024 : Int32) ≤ (eb_I h s_flights 5)) → eb_Ct d 7 [.int x3] h (fun r h2 => ∃ y3, r = some (.int y3) ∧ eb_KO h2 ∧ ((y3 = 0 → Q none h2) ∧ (¬ (y3 = 0) → ((x3 = x2 → Q none h2) ∧ (¬ (x3 = x2) → eb_Ct d 5 [.int x3] h2 (fun r h7 => ∃ y8, r = some (.int y8) ∧ eb_KO h7 ∧ (vp_in x3 1024) ∧ (vp_in ((1023 : Int32) - (eb_I (eb_sI h7 s_flights 3 ((eb_I h2 s_flights 3) ||| ((1 : Int32) <<< (y8 &&& 31)))) s_flights 5)) 1024) ∧ (vp_in x3 1024) ∧ eb_Sn (d + 1) m_X1_traceTo h0 17 [(0, .ref s_flights), (2, .int x2), (3, .int ((eb_I (eb_sI (eb_sI h7 s_flights 3 ((eb_I h2 s_flights 3) ||| ((1 : Int32) <<< (y8 &&& 31)))) s_flights_trace ((1023 : Int32) - (eb_I (eb_sI h7 s_flights 3 ((eb_I h2 s_flights 3) ||| ((1 : Int32) <<< (y8 &&& 31)))) s_flights 5)).toNatClampNeg (((eb_I (eb_sI h7 s_flights 3 ((eb_I h2 s_flights 3) ||| ((1 : Int32) <<< (y8 &&& 31)))) s_flights_origins x3.toNatClampNeg) - (eb_I (eb_sI h7 s_flights 3 ((eb_I h2 s_flights 3) ||| ((1 : Int32) <<< (y8 &&& 31)))) s_flights_origins x3.toNatClampNeg) / 4 * 4).toInt8.toInt32).toInt8.toInt32) s_flights_origins x3.toNatClampNeg) / 4))] [] (eb_sI (eb_sI (eb_sI h7 s_flights 3 ((eb_I h2 s_flights 3) ||| ((1 : Int32) <<< (y8 &&& 31)))) s_flights_trace ((1023 : Int32) - (eb_I (eb_sI h7 s_flights 3 ((eb_I h2 s_flights 3) ||| ((1 : Int32) <<< (y8 &&& 31)))) s_flights 5)).toNatClampNeg (((eb_I (eb_sI h7 s_flights 3 ((eb_I h2 s_flights 3) ||| ((1 : Int32) <<< (y8 &&& 31)))) s_flights_origins x3.toNatClampNeg) - (eb_I (eb_sI h7 s_flights 3 ((eb_I h2 s_flights 3) ||| ((1 : Int32) <<< (y8 &&& 31)))) s_flights_origins x3.toNatClampNeg) / 4 * 4).toInt8.toInt32).toInt8.toInt32) s_flights 5 ((eb_I (eb_sI (eb_sI h7 s_flights 3 ((eb_I h2 s_flights 3) ||| ((1 : Int32) <<< (y8 &&& 31)))) s_flights_trace ((1023 : Int32) - (eb_I (eb_sI h7 s_flights 3 ((eb_I h2 s_flights 3) ||| ((1 : Int32) <<< (y8 &&& 31)))) s_flights 5)).toNatClampNeg (((eb_I (eb_sI h7 s_flights 3 ((eb_I h2 s_flights 3) ||| ((1 : Int32) <<< (y8 &&& 31)))) s_flights_origins x3.toNatClampNeg) - (eb_I (eb_sI h7 s_flights 3 ((eb_I h2 s_flights 3) ||| ((1 : Int32) <<< (y8 &&& 31)))) s_flights_origins x3.toNatClampNeg) / 4 * 4).toInt8.toInt32).toInt8.toInt32) s_flights 5) + 1)) Q))))))))) : eb_Sn (d + 1) m_X1_traceTo h0 17 [(0, .ref s_flights), (2, .int x2), (3, .int x3)] [] h Q := by
  refine eb_aload_n (pc := 17) (n := 0) (i := 0) rfl rfl rfl ?_
  refine eb_getI (pc := 18) rfl rfl (by decide) (by decide) rfl ?_
  refine eb_sipush (pc := 21) (n := 1024) (v := 1024) rfl rfl ?_
  refine eb_icmp_ge (pc := 24) (tgt := 98) rfl (by decide) (fun c1 => ?_) (fun c1 => ?_)
  · replace w := w.1 c1
    exact eb_return (pc := 98) rfl rfl w
  · replace w := w.2 c1
    refine eb_iload_n (pc := 27) (n := 3) (i := 3) rfl rfl rfl ?_
    refine eb_ctS (pc := 28) (As := [.int x3]) (rest := []) rfl (by decide) (by decide) rfl rfl (Nat.le_of_ble_eq_true rfl) ?_
    refine eb_Ct.mono w ?_
    rintro r h2 ⟨y3, rfl, ko4, w⟩
    change eb_Sn _ _ _ 31 _ [.int y3] _ _
    refine eb_if_eq (pc := 31) (tgt := 98) rfl (by decide) (fun c5 => ?_) (fun c5 => ?_)
    · replace w := w.1 c5
      exact eb_return (pc := 98) rfl rfl w
    · replace w := w.2 c5
      refine eb_iload_n (pc := 34) (n := 3) (i := 3) rfl rfl rfl ?_
      refine eb_iload_n (pc := 35) (n := 2) (i := 2) rfl rfl rfl ?_
      refine eb_icmp_eq (pc := 36) (tgt := 98) rfl (by decide) (fun c6 => ?_) (fun c6 => ?_)
      · replace w := w.1 c6
        exact eb_return (pc := 98) rfl rfl w
      · replace w := w.2 c6
        refine eb_aload_n (pc := 39) (n := 0) (i := 0) rfl rfl rfl ?_
        refine eb_dupr (pc := 40) rfl ?_
        refine eb_getI (pc := 41) rfl rfl (by decide) (by decide) rfl ?_
        refine eb_iconst (pc := 44) (n := 1) (v := 1) rfl rfl ?_
        refine eb_iload_n (pc := 45) (n := 3) (i := 3) rfl rfl rfl ?_
        refine eb_ctS (pc := 46) (As := [.int x3]) (rest := [.int 1, .int (eb_I h2 s_flights 3), .ref s_flights]) rfl (by decide) (by decide) rfl rfl (Nat.le_of_ble_eq_true rfl) ?_
        refine eb_Ct.mono w ?_
        rintro r h7 ⟨y8, rfl, ko9, w⟩
        change eb_Sn _ _ _ 49 _ [.int y8, .int 1, .int (eb_I h2 s_flights 3), .ref s_flights] _ _
        refine eb_ishl (pc := 49) rfl ?_
        refine eb_ior (pc := 50) rfl ?_
        refine eb_putI (pc := 51) rfl rfl (by decide) (by decide) rfl rfl ⟨rfl, rfl⟩ ?_
        refine eb_aload_n (pc := 54) (n := 0) (i := 0) rfl rfl rfl ?_
        refine eb_getR (pc := 55) rfl rfl (by decide) (by decide) rfl (ko_s_flights_9 ko9) ?_
        refine eb_sipush (pc := 58) (n := 1023) (v := 1023) rfl rfl ?_
        refine eb_aload_n (pc := 61) (n := 0) (i := 0) rfl rfl rfl ?_
        refine eb_getI (pc := 62) rfl rfl (by decide) (by decide) rfl ?_
        refine eb_isub (pc := 65) rfl ?_
        refine eb_aload_n (pc := 66) (n := 0) (i := 0) rfl rfl rfl ?_
        refine eb_getR (pc := 67) rfl rfl (by decide) (by decide) rfl (ko_s_flights_8 ko9) ?_
        refine eb_iload_n (pc := 70) (n := 3) (i := 3) rfl rfl rfl ?_
        obtain ⟨c10, w⟩ := w
        refine eb_iaload (pc := 71) rfl rfl c10 ?_
        refine eb_iconst (pc := 72) (n := 4) (v := 4) rfl rfl ?_
        refine eb_irem (pc := 73) (by decide) rfl ?_
        refine eb_i2b (pc := 74) rfl ?_
        obtain ⟨c11, w⟩ := w
        refine eb_bastore (pc := 75) rfl rfl c11 ?_
        refine eb_aload_n (pc := 76) (n := 0) (i := 0) rfl rfl rfl ?_
        refine eb_getR (pc := 77) rfl rfl (by decide) (by decide) rfl (ko_s_flights_8 ko9) ?_
        refine eb_iload_n (pc := 80) (n := 3) (i := 3) rfl rfl rfl ?_
        obtain ⟨c12, w⟩ := w
        refine eb_iaload (pc := 81) rfl rfl c12 ?_
        refine eb_iconst (pc := 82) (n := 4) (v := 4) rfl rfl ?_
        refine eb_idiv (pc := 83) (by decide) rfl ?_
        refine eb_istore_n (pc := 84) (n := 3) (i := 3) (ls2 := [(3, .int ((eb_I (eb_sI (eb_sI h7 s_flights 3 ((eb_I h2 s_flights 3) ||| ((1 : Int32) <<< (y8 &&& 31)))) s_flights_trace ((1023 : Int32) - (eb_I (eb_sI h7 s_flights 3 ((eb_I h2 s_flights 3) ||| ((1 : Int32) <<< (y8 &&& 31)))) s_flights 5)).toNatClampNeg (((eb_I (eb_sI h7 s_flights 3 ((eb_I h2 s_flights 3) ||| ((1 : Int32) <<< (y8 &&& 31)))) s_flights_origins x3.toNatClampNeg) - (eb_I (eb_sI h7 s_flights 3 ((eb_I h2 s_flights 3) ||| ((1 : Int32) <<< (y8 &&& 31)))) s_flights_origins x3.toNatClampNeg) / 4 * 4).toInt8.toInt32).toInt8.toInt32) s_flights_origins x3.toNatClampNeg) / 4)), (0, .ref s_flights), (2, .int x2)]) rfl (Nat.le_of_ble_eq_true rfl) rfl rfl ?_
        refine eb_aload_n (pc := 85) (n := 0) (i := 0) rfl rfl rfl ?_
        refine eb_dupr (pc := 86) rfl ?_
        refine eb_getI (pc := 87) rfl rfl (by decide) (by decide) rfl ?_
        refine eb_iconst (pc := 90) (n := 1) (v := 1) rfl rfl ?_
        refine eb_iadd (pc := 91) rfl ?_
        refine eb_putI (pc := 92) rfl rfl (by decide) (by decide) rfl rfl ⟨rfl, rfl⟩ ?_
        refine eb_goto (pc := 95) (tgt := 17) rfl (by decide) ?_
        exact eb_pick [1, 2, 0] rfl w
theorem T_X1_traceTo {d : Nat} {h : eb_H} {Q : Option Value → eb_H → Prop} (x1 : Int32)  (ko : eb_KO h) (w : eb_Ct d 10 [.ref s_flights] h (fun r h1 => ∃ y2, r = some (.int y2) ∧ eb_KO h1 ∧ eb_Sn (d + 1) m_X1_traceTo h 17 [(0, .ref s_flights), (2, .int y2), (3, .int x1)] [] (eb_sI (eb_sI h1 s_flights 3 0) s_flights 5 0) Q)) : eb_Ct (d + 1) 14 [.ref s_flights, .int x1] h Q :=
  eb_bodyQ (by decide) ok_X1_traceTo (Nat.le_of_ble_eq_true rfl) (b_X1_traceTo_0 (h0 := h) x1  ko w)
theorem b_X1_traced_0 {d : Nat} {h0 h : eb_H} {Q : Option Value → eb_H → Prop} (x1 : Int32)  (ko : eb_KO h) (w : (((((1024 : Int32) - (eb_I h s_flights 5)) + x1) < 0 → Q (some (.int (-1))) h) ∧ (¬ ((((1024 : Int32) - (eb_I h s_flights 5)) + x1) < 0) → (((1024 : Int32) ≤ (((1024 : Int32) - (eb_I h s_flights 5)) + x1) → Q (some (.int (-1))) h) ∧ (¬ ((1024 : Int32) ≤ (((1024 : Int32) - (eb_I h s_flights 5)) + x1)) → (vp_in (((1024 : Int32) - (eb_I h s_flights 5)) + x1) 1024) ∧ Q (some (.int (eb_I h s_flights_trace (((1024 : Int32) - (eb_I h s_flights 5)) + x1).toNatClampNeg))) h))))) : eb_Sn d m_X1_traced h0 0 [(0, .ref s_flights), (1, .int x1)] [] h Q := by
  refine eb_sipush (pc := 0) (n := 1024) (v := 1024) rfl rfl ?_
  refine eb_aload_n (pc := 3) (n := 0) (i := 0) rfl rfl rfl ?_
  refine eb_getI (pc := 4) rfl rfl (by decide) (by decide) rfl ?_
  refine eb_isub (pc := 7) rfl ?_
  refine eb_iload_n (pc := 8) (n := 1) (i := 1) rfl rfl rfl ?_
  refine eb_iadd (pc := 9) rfl ?_
  refine eb_istore_n (pc := 10) (n := 2) (i := 2) (ls2 := [(2, .int (((1024 : Int32) - (eb_I h s_flights 5)) + x1)), (0, .ref s_flights), (1, .int x1)]) rfl (Nat.le_of_ble_eq_true rfl) rfl rfl ?_
  refine eb_iload_n (pc := 11) (n := 2) (i := 2) rfl rfl rfl ?_
  refine eb_if_lt (pc := 12) (tgt := 31) rfl (by decide) (fun c1 => ?_) (fun c1 => ?_)
  · replace w := w.1 c1
    refine eb_iconst (pc := 31) (n := -1) (v := (-1)) rfl rfl ?_
    exact eb_ireturn (pc := 32) rfl rfl rfl w
  · replace w := w.2 c1
    refine eb_iload_n (pc := 15) (n := 2) (i := 2) rfl rfl rfl ?_
    refine eb_sipush (pc := 16) (n := 1024) (v := 1024) rfl rfl ?_
    refine eb_icmp_ge (pc := 19) (tgt := 31) rfl (by decide) (fun c2 => ?_) (fun c2 => ?_)
    · replace w := w.1 c2
      refine eb_iconst (pc := 31) (n := -1) (v := (-1)) rfl rfl ?_
      exact eb_ireturn (pc := 32) rfl rfl rfl w
    · replace w := w.2 c2
      refine eb_aload_n (pc := 22) (n := 0) (i := 0) rfl rfl rfl ?_
      refine eb_getR (pc := 23) rfl rfl (by decide) (by decide) rfl (ko_s_flights_9 ko) ?_
      refine eb_iload_n (pc := 26) (n := 2) (i := 2) rfl rfl rfl ?_
      obtain ⟨c3, w⟩ := w
      refine eb_baload (pc := 27) rfl rfl c3 ?_
      refine eb_goto (pc := 28) (tgt := 32) rfl (by decide) ?_
      exact eb_ireturn (pc := 32) rfl rfl rfl w
theorem T_X1_traced {d : Nat} {h : eb_H} {Q : Option Value → eb_H → Prop} (x1 : Int32)  (ko : eb_KO h) (w : (((((1024 : Int32) - (eb_I h s_flights 5)) + x1) < 0 → Q (some (.int (-1))) h) ∧ (¬ ((((1024 : Int32) - (eb_I h s_flights 5)) + x1) < 0) → (((1024 : Int32) ≤ (((1024 : Int32) - (eb_I h s_flights 5)) + x1) → Q (some (.int (-1))) h) ∧ (¬ ((1024 : Int32) ≤ (((1024 : Int32) - (eb_I h s_flights 5)) + x1)) → (vp_in (((1024 : Int32) - (eb_I h s_flights 5)) + x1) 1024) ∧ Q (some (.int (eb_I h s_flights_trace (((1024 : Int32) - (eb_I h s_flights 5)) + x1).toNatClampNeg))) h))))) : eb_Ct d 15 [.ref s_flights, .int x1] h Q :=
  eb_bodyQ (by decide) ok_X1_traced (Nat.le_of_ble_eq_true rfl) (b_X1_traced_0 (h0 := h) x1  ko w)
theorem b_X1_setsAt_0 {d : Nat} {h0 h : eb_H} {Q : Option Value → eb_H → Prop} (x1 : Int32)  (ko : eb_KO h) (w : eb_Sn (d + 1) m_X1_setsAt h0 5 [(0, .ref s_flights), (1, .int x1), (2, .long 0), (4, .int 0)] [] h Q) : eb_Sn (d + 1) m_X1_setsAt h0 0 [(0, .ref s_flights), (1, .int x1)] [] h Q := by
  refine eb_lconst (pc := 0) (n := 0) (v := 0) rfl rfl ?_
  refine eb_lstore_n (pc := 1) (n := 2) (i := 2) (ls2 := [(2, .long 0), (0, .ref s_flights), (1, .int x1)]) rfl (Nat.le_of_ble_eq_true rfl) rfl rfl ?_
  refine eb_iconst (pc := 2) (n := 0) (v := 0) rfl rfl ?_
  refine eb_istore (pc := 3) (i := 4) (ls2 := [(4, .int 0), (2, .long 0), (0, .ref s_flights), (1, .int x1)]) (Nat.le_of_ble_eq_true rfl) rfl rfl ?_
  exact eb_pick [2, 3, 1, 0] rfl w
theorem b_X1_setsAt_5 {d : Nat} {h0 h : eb_H} {Q : Option Value → eb_H → Prop} (x1 : Int32) (x2 : Int64) (x4 : Int32)  (ko : eb_KO h) (w : (((eb_I h s_flights 4) ≤ x4 → Q (some (.long x2)) h) ∧ (¬ ((eb_I h s_flights 4) ≤ x4) → (((1024 : Int32) ≤ x4 → Q (some (.long x2)) h) ∧ (¬ ((1024 : Int32) ≤ x4) → (vp_in x4 1024) ∧ eb_Ct d 5 [.int (eb_I h s_flights_order x4.toNatClampNeg)] h (fun r h4 => ∃ y5, r = some (.int y5) ∧ eb_KO h4 ∧ ((¬ y5 = x1 → eb_Sn (d + 1) m_X1_setsAt h0 5 [(0, .ref s_flights), (1, .int x1), (2, .long x2), (4, .int (x4 + 1))] [] h4 Q) ∧ (y5 = x1 → (vp_in x4 1024) ∧ eb_Ct d 6 [.int (eb_I h4 s_flights_order x4.toNatClampNeg)] h4 (fun r h9 => ∃ y10, r = some (.int y10) ∧ eb_KO h9 ∧ eb_Sn (d + 1) m_X1_setsAt h0 5 [(0, .ref s_flights), (1, .int x1), (2, .long (x2 ||| ((1 : Int64) <<< (y10.toInt64 &&& 63)))), (4, .int (x4 + 1))] [] h9 Q))))))))) : eb_Sn (d + 1) m_X1_setsAt h0 5 [(0, .ref s_flights), (1, .int x1), (2, .long x2), (4, .int x4)] [] h Q := by
  refine eb_iload (pc := 5) (i := 4) rfl rfl ?_
  refine eb_aload_n (pc := 7) (n := 0) (i := 0) rfl rfl rfl ?_
  refine eb_getI (pc := 8) rfl rfl (by decide) (by decide) rfl ?_
  refine eb_icmp_ge (pc := 11) (tgt := 57) rfl (by decide) (fun c1 => ?_) (fun c1 => ?_)
  · replace w := w.1 c1
    refine eb_lload_n (pc := 57) (n := 2) (i := 2) rfl rfl rfl ?_
    exact eb_lreturn (pc := 58) rfl rfl w
  · replace w := w.2 c1
    refine eb_iload (pc := 14) (i := 4) rfl rfl ?_
    refine eb_sipush (pc := 16) (n := 1024) (v := 1024) rfl rfl ?_
    refine eb_icmp_ge (pc := 19) (tgt := 57) rfl (by decide) (fun c2 => ?_) (fun c2 => ?_)
    · replace w := w.1 c2
      refine eb_lload_n (pc := 57) (n := 2) (i := 2) rfl rfl rfl ?_
      exact eb_lreturn (pc := 58) rfl rfl w
    · replace w := w.2 c2
      refine eb_aload_n (pc := 22) (n := 0) (i := 0) rfl rfl rfl ?_
      refine eb_getR (pc := 23) rfl rfl (by decide) (by decide) rfl (ko_s_flights_7 ko) ?_
      refine eb_iload (pc := 26) (i := 4) rfl rfl ?_
      obtain ⟨c3, w⟩ := w
      refine eb_iaload (pc := 28) rfl rfl c3 ?_
      refine eb_ctS (pc := 29) (As := [.int (eb_I h s_flights_order x4.toNatClampNeg)]) (rest := []) rfl (by decide) (by decide) rfl rfl (Nat.le_of_ble_eq_true rfl) ?_
      refine eb_Ct.mono w ?_
      rintro r h4 ⟨y5, rfl, ko6, w⟩
      change eb_Sn _ _ _ 32 _ [.int y5] _ _
      refine eb_iload_n (pc := 32) (n := 1) (i := 1) rfl rfl rfl ?_
      refine eb_icmp_ne (pc := 33) (tgt := 51) rfl (by decide) (fun c7 => ?_) (fun c7 => ?_)
      · replace w := w.1 c7
        refine eb_iinc (pc := 51) (i := 4) (n := 1) (v := x4 + 1) (ls2 := [(4, .int (x4 + 1)), (0, .ref s_flights), (1, .int x1), (2, .long x2)]) (Nat.le_of_ble_eq_true rfl) rfl rfl rfl rfl ?_
        refine eb_goto (pc := 54) (tgt := 5) rfl (by decide) ?_
        exact eb_pick [1, 2, 3, 0] rfl w
      · replace w := w.2 c7
        refine eb_lload_n (pc := 36) (n := 2) (i := 2) rfl rfl rfl ?_
        refine eb_lconst (pc := 37) (n := 1) (v := 1) rfl rfl ?_
        refine eb_aload_n (pc := 38) (n := 0) (i := 0) rfl rfl rfl ?_
        refine eb_getR (pc := 39) rfl rfl (by decide) (by decide) rfl (ko_s_flights_7 ko6) ?_
        refine eb_iload (pc := 42) (i := 4) rfl rfl ?_
        obtain ⟨c8, w⟩ := w
        refine eb_iaload (pc := 44) rfl rfl c8 ?_
        refine eb_ctS (pc := 45) (As := [.int (eb_I h4 s_flights_order x4.toNatClampNeg)]) (rest := [.long 1, .long x2]) rfl (by decide) (by decide) rfl rfl (Nat.le_of_ble_eq_true rfl) ?_
        refine eb_Ct.mono w ?_
        rintro r h9 ⟨y10, rfl, ko11, w⟩
        change eb_Sn _ _ _ 48 _ [.int y10, .long 1, .long x2] _ _
        refine eb_lshl (pc := 48) rfl ?_
        refine eb_lor (pc := 49) rfl ?_
        refine eb_lstore_n (pc := 50) (n := 2) (i := 2) (ls2 := [(2, .long (x2 ||| ((1 : Int64) <<< (y10.toInt64 &&& 63)))), (0, .ref s_flights), (1, .int x1), (4, .int x4)]) rfl (Nat.le_of_ble_eq_true rfl) rfl rfl ?_
        refine eb_iinc (pc := 51) (i := 4) (n := 1) (v := x4 + 1) (ls2 := [(4, .int (x4 + 1)), (2, .long (x2 ||| ((1 : Int64) <<< (y10.toInt64 &&& 63)))), (0, .ref s_flights), (1, .int x1)]) (Nat.le_of_ble_eq_true rfl) rfl rfl rfl rfl ?_
        refine eb_goto (pc := 54) (tgt := 5) rfl (by decide) ?_
        exact eb_pick [2, 3, 1, 0] rfl w
theorem T_X1_setsAt {d : Nat} {h : eb_H} {Q : Option Value → eb_H → Prop} (x1 : Int32)  (ko : eb_KO h) (w : eb_Sn (d + 1) m_X1_setsAt h 5 [(0, .ref s_flights), (1, .int x1), (2, .long 0), (4, .int 0)] [] h Q) : eb_Ct (d + 1) 16 [.ref s_flights, .int x1] h Q :=
  eb_bodyQ (by decide) ok_X1_setsAt (Nat.le_of_ble_eq_true rfl) (b_X1_setsAt_0 (h0 := h) x1  ko w)
theorem b_X1_echoesAnywhere_0 {d : Nat} {h0 h : eb_H} {Q : Option Value → eb_H → Prop}   (ko : eb_KO h) (w : eb_Sn (d + 1) m_X1_echoesAnywhere h0 4 [(0, .ref s_flights), (1, .int 0), (2, .int 0)] [] h Q) : eb_Sn (d + 1) m_X1_echoesAnywhere h0 0 [(0, .ref s_flights)] [] h Q := by
  refine eb_iconst (pc := 0) (n := 0) (v := 0) rfl rfl ?_
  refine eb_istore_n (pc := 1) (n := 1) (i := 1) (ls2 := [(1, .int 0), (0, .ref s_flights)]) rfl (Nat.le_of_ble_eq_true rfl) rfl rfl ?_
  refine eb_iconst (pc := 2) (n := 0) (v := 0) rfl rfl ?_
  refine eb_istore_n (pc := 3) (n := 2) (i := 2) (ls2 := [(2, .int 0), (1, .int 0), (0, .ref s_flights)]) rfl (Nat.le_of_ble_eq_true rfl) rfl rfl ?_
  exact eb_pick [2, 1, 0] rfl w
theorem b_X1_echoesAnywhere_4 {d : Nat} {h0 h : eb_H} {Q : Option Value → eb_H → Prop} (x1 : Int32) (x2 : Int32)  (ko : eb_KO h) (w : (((eb_I h s_flights 4) ≤ x2 → Q (some (.int x1)) h) ∧ (¬ ((eb_I h s_flights 4) ≤ x2) → (((1024 : Int32) ≤ x2 → Q (some (.int x1)) h) ∧ (¬ ((1024 : Int32) ≤ x2) → (vp_in x2 1024) ∧ eb_Ct d 6 [.int (eb_I h s_flights_order x2.toNatClampNeg)] h (fun r h4 => ∃ y5, r = some (.int y5) ∧ eb_KO h4 ∧ eb_Sn (d + 1) m_X1_echoesAnywhere h0 4 [(0, .ref s_flights), (1, .int (x1 ||| y5)), (2, .int (x2 + 1))] [] h4 Q)))))) : eb_Sn (d + 1) m_X1_echoesAnywhere h0 4 [(0, .ref s_flights), (1, .int x1), (2, .int x2)] [] h Q := by
  refine eb_iload_n (pc := 4) (n := 2) (i := 2) rfl rfl rfl ?_
  refine eb_aload_n (pc := 5) (n := 0) (i := 0) rfl rfl rfl ?_
  refine eb_getI (pc := 6) rfl rfl (by decide) (by decide) rfl ?_
  refine eb_icmp_ge (pc := 9) (tgt := 37) rfl (by decide) (fun c1 => ?_) (fun c1 => ?_)
  · replace w := w.1 c1
    refine eb_iload_n (pc := 37) (n := 1) (i := 1) rfl rfl rfl ?_
    exact eb_ireturn (pc := 38) rfl rfl rfl w
  · replace w := w.2 c1
    refine eb_iload_n (pc := 12) (n := 2) (i := 2) rfl rfl rfl ?_
    refine eb_sipush (pc := 13) (n := 1024) (v := 1024) rfl rfl ?_
    refine eb_icmp_ge (pc := 16) (tgt := 37) rfl (by decide) (fun c2 => ?_) (fun c2 => ?_)
    · replace w := w.1 c2
      refine eb_iload_n (pc := 37) (n := 1) (i := 1) rfl rfl rfl ?_
      exact eb_ireturn (pc := 38) rfl rfl rfl w
    · replace w := w.2 c2
      refine eb_iload_n (pc := 19) (n := 1) (i := 1) rfl rfl rfl ?_
      refine eb_aload_n (pc := 20) (n := 0) (i := 0) rfl rfl rfl ?_
      refine eb_getR (pc := 21) rfl rfl (by decide) (by decide) rfl (ko_s_flights_7 ko) ?_
      refine eb_iload_n (pc := 24) (n := 2) (i := 2) rfl rfl rfl ?_
      obtain ⟨c3, w⟩ := w
      refine eb_iaload (pc := 25) rfl rfl c3 ?_
      refine eb_ctS (pc := 26) (As := [.int (eb_I h s_flights_order x2.toNatClampNeg)]) (rest := [.int x1]) rfl (by decide) (by decide) rfl rfl (Nat.le_of_ble_eq_true rfl) ?_
      refine eb_Ct.mono w ?_
      rintro r h4 ⟨y5, rfl, ko6, w⟩
      change eb_Sn _ _ _ 29 _ [.int y5, .int x1] _ _
      refine eb_ior (pc := 29) rfl ?_
      refine eb_istore_n (pc := 30) (n := 1) (i := 1) (ls2 := [(1, .int (x1 ||| y5)), (0, .ref s_flights), (2, .int x2)]) rfl (Nat.le_of_ble_eq_true rfl) rfl rfl ?_
      refine eb_iinc (pc := 31) (i := 2) (n := 1) (v := x2 + 1) (ls2 := [(2, .int (x2 + 1)), (1, .int (x1 ||| y5)), (0, .ref s_flights)]) (Nat.le_of_ble_eq_true rfl) rfl rfl rfl rfl ?_
      refine eb_goto (pc := 34) (tgt := 4) rfl (by decide) ?_
      exact eb_pick [2, 1, 0] rfl w
theorem T_X1_echoesAnywhere {d : Nat} {h : eb_H} {Q : Option Value → eb_H → Prop}   (ko : eb_KO h) (w : eb_Sn (d + 1) m_X1_echoesAnywhere h 4 [(0, .ref s_flights), (1, .int 0), (2, .int 0)] [] h Q) : eb_Ct (d + 1) 17 [.ref s_flights] h Q :=
  eb_bodyQ (by decide) ok_X1_echoesAnywhere (Nat.le_of_ble_eq_true rfl) (b_X1_echoesAnywhere_0 (h0 := h)   ko w)
theorem b_X1_flyAll_0 {d : Nat} {h0 h : eb_H} {Q : Option Value → eb_H → Prop} (a1 : Nat) (a2 : Nat) (x3 : Int32) (x4 : Int32) (ka1 : eb_kd a1 = 9) (ka2 : eb_kd a2 = 6) (ko : eb_KO h) (w : eb_Ct d 8 [.ref s_flights, .ref a1, .ref a2] h (fun r h1 => r = none ∧ eb_KO h1 ∧ ∃ r6, eb_R h1 s_flights 10 = some r6 ∧ eb_kd r6 = 14 ∧ eb_Ct d 300 [.ref r6, .long (if x4 = (2 : Int32) then (-1) else (if x4 = (3 : Int32) then (-1) else 0) : Int64)] h1 (fun r h9 => r = none ∧ eb_KO h9 ∧ ∃ r12, eb_R h9 s_flights 10 = some r12 ∧ eb_kd r12 = 14 ∧ eb_Ct d 10 [.ref s_flights] h9 (fun r h15 => ∃ y16, r = some (.int y16) ∧ eb_KO h15 ∧ (vp_in y16 (eb_ln r12)) ∧ eb_Sn (d + 1) m_X1_flyAll h0 65 [(0, .ref s_flights), (3, .int x3), (4, .int x4), (5, .long (if x4 = (2 : Int32) then (-1) else (if x4 = (3 : Int32) then (-1) else 0) : Int64)), (7, .int 0)] [] (eb_sJ h15 r12 y16.toNatClampNeg (if x4 = (2 : Int32) then 0 else (if x4 = (3 : Int32) then 0 else 1) : Int64)) Q)))) : eb_Sn (d + 1) m_X1_flyAll h0 0 [(0, .ref s_flights), (1, .ref a1), (2, .ref a2), (3, .int x3), (4, .int x4)] [] h Q := by
  refine eb_aload_n (pc := 0) (n := 0) (i := 0) rfl rfl rfl ?_
  refine eb_aload_n (pc := 1) (n := 1) (i := 1) rfl rfl rfl ?_
  refine eb_aload_n (pc := 2) (n := 2) (i := 2) rfl rfl rfl ?_
  refine eb_ctV (pc := 3) (As := [.ref a1, .ref a2]) (rest := []) rfl (by decide) rfl rfl (by decide) rfl (Nat.le_of_ble_eq_true rfl) ?_
  refine eb_Ct.mono w ?_
  rintro r h1 ⟨rfl, ko3, w⟩
  change eb_Sn _ _ _ 6 _ [] _ _
  refine eb_iload (pc := 6) (i := 4) rfl rfl ?_
  refine eb_iconst (pc := 8) (n := 2) (v := 2) rfl rfl ?_
  have jj22 : eb_Sn (d + 1) m_X1_flyAll h0 25 [(0, .ref s_flights), (1, .ref a1), (2, .ref a2), (3, .int x3), (4, .int x4)] [.long (if x4 = (2 : Int32) then (-1) else (if x4 = (3 : Int32) then (-1) else 0) : Int64)] h1 Q := by
    refine eb_lstore (pc := 25) (i := 5) (ls2 := [(5, .long (if x4 = (2 : Int32) then (-1) else (if x4 = (3 : Int32) then (-1) else 0) : Int64)), (0, .ref s_flights), (1, .ref a1), (2, .ref a2), (3, .int x3), (4, .int x4)]) (Nat.le_of_ble_eq_true rfl) rfl rfl ?_
    refine eb_aload_n (pc := 27) (n := 0) (i := 0) rfl rfl rfl ?_
    obtain ⟨r6, q7, k8, w⟩ := w
    refine eb_getR (pc := 28) rfl rfl (by decide) (by decide) rfl q7 ?_
    refine eb_lload (pc := 31) (i := 5) rfl rfl ?_
    refine eb_ctS (pc := 33) (As := [.ref r6, .long (if x4 = (2 : Int32) then (-1) else (if x4 = (3 : Int32) then (-1) else 0) : Int64)]) (rest := []) rfl (by decide) (by decide) rfl rfl (Nat.le_of_ble_eq_true rfl) ?_
    refine eb_Ct.mono w ?_
    rintro r h9 ⟨rfl, ko11, w⟩
    change eb_Sn _ _ _ 36 _ [] _ _
    refine eb_aload_n (pc := 36) (n := 0) (i := 0) rfl rfl rfl ?_
    obtain ⟨r12, q13, k14, w⟩ := w
    refine eb_getR (pc := 37) rfl rfl (by decide) (by decide) rfl q13 ?_
    refine eb_aload_n (pc := 40) (n := 0) (i := 0) rfl rfl rfl ?_
    refine eb_ctV (pc := 41) (As := []) (rest := [.ref r12]) rfl (by decide) rfl rfl (by decide) rfl (Nat.le_of_ble_eq_true rfl) ?_
    refine eb_Ct.mono w ?_
    rintro r h15 ⟨y16, rfl, ko17, w⟩
    change eb_Sn _ _ _ 44 _ [.int y16, .ref r12] _ _
    refine eb_iload (pc := 44) (i := 4) rfl rfl ?_
    refine eb_iconst (pc := 46) (n := 2) (v := 2) rfl rfl ?_
    have jj21 : eb_Sn (d + 1) m_X1_flyAll h0 61 [(5, .long (if x4 = (2 : Int32) then (-1) else (if x4 = (3 : Int32) then (-1) else 0) : Int64)), (0, .ref s_flights), (1, .ref a1), (2, .ref a2), (3, .int x3), (4, .int x4)] [.long (if x4 = (2 : Int32) then 0 else (if x4 = (3 : Int32) then 0 else 1) : Int64), .int y16, .ref r12] h15 Q := by
      obtain ⟨c20, w⟩ := w
      refine eb_lastore (pc := 61) rfl k14 c20 ?_
      refine eb_iconst (pc := 62) (n := 0) (v := 0) rfl rfl ?_
      refine eb_istore (pc := 63) (i := 7) (ls2 := [(7, .int 0), (5, .long (if x4 = (2 : Int32) then (-1) else (if x4 = (3 : Int32) then (-1) else 0) : Int64)), (0, .ref s_flights), (1, .ref a1), (2, .ref a2), (3, .int x3), (4, .int x4)]) (Nat.le_of_ble_eq_true rfl) rfl rfl ?_
      exact eb_pick [2, 5, 6, 1, 0] rfl w
    refine eb_icmp_eq (pc := 47) (tgt := 56) rfl (by decide) (fun c18 => ?_) (fun c18 => ?_)
    · refine eb_lconst (pc := 56) (n := 0) (v := 0) rfl rfl ?_
      refine eb_goto (pc := 57) (tgt := 61) rfl (by decide) ?_
      simp only [if_pos c18] at jj21 ⊢
      exact jj21
    · refine eb_iload (pc := 50) (i := 4) rfl rfl ?_
      refine eb_iconst (pc := 52) (n := 3) (v := 3) rfl rfl ?_
      refine eb_icmp_ne (pc := 53) (tgt := 60) rfl (by decide) (fun c19 => ?_) (fun c19 => ?_)
      · refine eb_lconst (pc := 60) (n := 1) (v := 1) rfl rfl ?_
        simp only [if_neg c18, if_neg c19] at jj21 ⊢
        exact jj21
      · refine eb_lconst (pc := 56) (n := 0) (v := 0) rfl rfl ?_
        refine eb_goto (pc := 57) (tgt := 61) rfl (by decide) ?_
        simp only [if_neg c18, if_pos c19] at jj21 ⊢
        exact jj21
  refine eb_icmp_eq (pc := 9) (tgt := 18) rfl (by decide) (fun c4 => ?_) (fun c4 => ?_)
  · refine eb_ldc2 (pc := 18) (a := 18446744073709551615) (v := (-1)) rfl (by decide) ?_
    refine eb_goto (pc := 21) (tgt := 25) rfl (by decide) ?_
    simp only [if_pos c4] at jj22 ⊢
    exact jj22
  · refine eb_iload (pc := 12) (i := 4) rfl rfl ?_
    refine eb_iconst (pc := 14) (n := 3) (v := 3) rfl rfl ?_
    refine eb_icmp_ne (pc := 15) (tgt := 24) rfl (by decide) (fun c5 => ?_) (fun c5 => ?_)
    · refine eb_lconst (pc := 24) (n := 0) (v := 0) rfl rfl ?_
      simp only [if_neg c4, if_neg c5] at jj22 ⊢
      exact jj22
    · refine eb_ldc2 (pc := 18) (a := 18446744073709551615) (v := (-1)) rfl (by decide) ?_
      refine eb_goto (pc := 21) (tgt := 25) rfl (by decide) ?_
      simp only [if_neg c4, if_pos c5] at jj22 ⊢
      exact jj22
theorem b_X1_flyAll_65 {d : Nat} {h0 h : eb_H} {Q : Option Value → eb_H → Prop} (x3 : Int32) (x4 : Int32) (x5 : Int64) (x7 : Int32)  (ko : eb_KO h) (w : ((x3 ≤ x7 → Q none h) ∧ (¬ (x3 ≤ x7) → ∃ r2, eb_R h s_flights 11 = some r2 ∧ eb_kd r2 = 14 ∧ eb_Ct d 300 [.ref r2, .long x5] h (fun r h5 => r = none ∧ eb_KO h5 ∧ eb_Sn (d + 1) m_X1_flyAll h0 83 [(0, .ref s_flights), (3, .int x3), (4, .int x4), (5, .long x5), (7, .int x7), (8, .int 0)] [] h5 Q)))) : eb_Sn (d + 1) m_X1_flyAll h0 65 [(0, .ref s_flights), (3, .int x3), (4, .int x4), (5, .long x5), (7, .int x7)] [] h Q := by
  refine eb_iload (pc := 65) (i := 7) rfl rfl ?_
  refine eb_iload_n (pc := 67) (n := 3) (i := 3) rfl rfl rfl ?_
  refine eb_icmp_ge (pc := 68) (tgt := 144) rfl (by decide) (fun c1 => ?_) (fun c1 => ?_)
  · replace w := w.1 c1
    exact eb_return (pc := 144) rfl rfl w
  · replace w := w.2 c1
    refine eb_aload_n (pc := 71) (n := 0) (i := 0) rfl rfl rfl ?_
    obtain ⟨r2, q3, k4, w⟩ := w
    refine eb_getR (pc := 72) rfl rfl (by decide) (by decide) rfl q3 ?_
    refine eb_lload (pc := 75) (i := 5) rfl rfl ?_
    refine eb_ctS (pc := 77) (As := [.ref r2, .long x5]) (rest := []) rfl (by decide) (by decide) rfl rfl (Nat.le_of_ble_eq_true rfl) ?_
    refine eb_Ct.mono w ?_
    rintro r h5 ⟨rfl, ko7, w⟩
    change eb_Sn _ _ _ 80 _ [] _ _
    refine eb_iconst (pc := 80) (n := 0) (v := 0) rfl rfl ?_
    refine eb_istore (pc := 81) (i := 8) (ls2 := [(8, .int 0), (0, .ref s_flights), (3, .int x3), (4, .int x4), (5, .long x5), (7, .int x7)]) (Nat.le_of_ble_eq_true rfl) rfl rfl ?_
    exact eb_pick [1, 2, 3, 4, 5, 0] rfl w
theorem b_X1_flyAll_83 {d : Nat} {h0 h : eb_H} {Q : Option Value → eb_H → Prop} (x3 : Int32) (x4 : Int32) (x5 : Int64) (x7 : Int32) (x8 : Int32)  (ko : eb_KO h) (w : (((1024 : Int32) ≤ x8 → ∃ r2, eb_R h s_flights 10 = some r2 ∧ eb_kd r2 = 14 ∧ ∃ r5, eb_R h s_flights 11 = some r5 ∧ eb_kd r5 = 14 ∧ eb_Sn (d + 1) m_X1_flyAll h0 65 [(0, .ref s_flights), (3, .int x3), (4, .int x4), (5, .long x5), (7, .int (x7 + 1))] [] (eb_sR (eb_sR h s_flights 10 (some r5)) s_flights 11 (some r2)) Q) ∧ (¬ ((1024 : Int32) ≤ x8) → ∃ r8, eb_R h s_flights 10 = some r8 ∧ eb_kd r8 = 14 ∧ (vp_in x8 (eb_ln r8)) ∧ (((eb_J h r8 x8.toNatClampNeg) = x5 → eb_Sn (d + 1) m_X1_flyAll h0 83 [(0, .ref s_flights), (3, .int x3), (4, .int x4), (5, .long x5), (7, .int x7), (8, .int (x8 + 1))] [] h Q) ∧ (¬ ((eb_J h r8 x8.toNatClampNeg) = x5) → eb_Ct d 19 [.ref s_flights, .int x8, .int x4] h (fun r h13 => r = none ∧ eb_KO h13 ∧ eb_Sn (d + 1) m_X1_flyAll h0 83 [(0, .ref s_flights), (3, .int x3), (4, .int x4), (5, .long x5), (7, .int x7), (8, .int (x8 + 1))] [] h13 Q)))))) : eb_Sn (d + 1) m_X1_flyAll h0 83 [(0, .ref s_flights), (3, .int x3), (4, .int x4), (5, .long x5), (7, .int x7), (8, .int x8)] [] h Q := by
  refine eb_iload (pc := 83) (i := 8) rfl rfl ?_
  refine eb_sipush (pc := 85) (n := 1024) (v := 1024) rfl rfl ?_
  refine eb_icmp_ge (pc := 88) (tgt := 118) rfl (by decide) (fun c1 => ?_) (fun c1 => ?_)
  · replace w := w.1 c1
    refine eb_aload_n (pc := 118) (n := 0) (i := 0) rfl rfl rfl ?_
    obtain ⟨r2, q3, k4, w⟩ := w
    refine eb_getR (pc := 119) rfl rfl (by decide) (by decide) rfl q3 ?_
    refine eb_astore (pc := 122) (i := 8) (ls2 := [(8, .ref r2), (0, .ref s_flights), (3, .int x3), (4, .int x4), (5, .long x5), (7, .int x7)]) (Nat.le_of_ble_eq_true rfl) rfl rfl ?_
    refine eb_aload_n (pc := 124) (n := 0) (i := 0) rfl rfl rfl ?_
    refine eb_aload_n (pc := 125) (n := 0) (i := 0) rfl rfl rfl ?_
    obtain ⟨r5, q6, k7, w⟩ := w
    refine eb_getR (pc := 126) rfl rfl (by decide) (by decide) rfl q6 ?_
    refine eb_putR (pc := 129) rfl rfl (by decide) (by decide) rfl (Or.inl rfl) (eb_k20 (c := 14) k7 (by decide)) ?_
    refine eb_aload_n (pc := 132) (n := 0) (i := 0) rfl rfl rfl ?_
    refine eb_aload (pc := 133) (i := 8) rfl rfl ?_
    refine eb_putR (pc := 135) rfl rfl (by decide) (by decide) rfl (Or.inl rfl) (eb_k20 (c := 14) k4 (by decide)) ?_
    refine eb_iinc (pc := 138) (i := 7) (n := 1) (v := x7 + 1) (ls2 := [(7, .int (x7 + 1)), (8, .ref r2), (0, .ref s_flights), (3, .int x3), (4, .int x4), (5, .long x5)]) (Nat.le_of_ble_eq_true rfl) rfl rfl rfl rfl ?_
    refine eb_goto (pc := 141) (tgt := 65) rfl (by decide) ?_
    exact eb_pick [2, 3, 4, 5, 0] rfl w
  · replace w := w.2 c1
    refine eb_aload_n (pc := 91) (n := 0) (i := 0) rfl rfl rfl ?_
    obtain ⟨r8, q9, k10, w⟩ := w
    refine eb_getR (pc := 92) rfl rfl (by decide) (by decide) rfl q9 ?_
    refine eb_iload (pc := 95) (i := 8) rfl rfl ?_
    obtain ⟨c11, w⟩ := w
    refine eb_laload (pc := 97) rfl k10 c11 ?_
    refine eb_lload (pc := 98) (i := 5) rfl rfl ?_
    refine eb_lcmp (pc := 100) rfl ?_
    refine eb_if_eq (pc := 101) (tgt := 112) rfl (by decide) (fun c12 => ?_) (fun c12 => ?_)
    · replace c12 := eb_lc_eq.mp c12
      replace w := w.1 c12
      refine eb_iinc (pc := 112) (i := 8) (n := 1) (v := x8 + 1) (ls2 := [(8, .int (x8 + 1)), (0, .ref s_flights), (3, .int x3), (4, .int x4), (5, .long x5), (7, .int x7)]) (Nat.le_of_ble_eq_true rfl) rfl rfl rfl rfl ?_
      refine eb_goto (pc := 115) (tgt := 83) rfl (by decide) ?_
      exact eb_pick [1, 2, 3, 4, 5, 0] rfl w
    · replace c12 := (fun hh => mt eb_lc_eq.mpr hh) c12
      replace w := w.2 c12
      refine eb_aload_n (pc := 104) (n := 0) (i := 0) rfl rfl rfl ?_
      refine eb_iload (pc := 105) (i := 8) rfl rfl ?_
      refine eb_iload (pc := 107) (i := 4) rfl rfl ?_
      refine eb_ctV (pc := 109) (As := [.int x8, .int x4]) (rest := []) rfl (by decide) rfl rfl (by decide) rfl (Nat.le_of_ble_eq_true rfl) ?_
      refine eb_Ct.mono w ?_
      rintro r h13 ⟨rfl, ko15, w⟩
      change eb_Sn _ _ _ 112 _ [] _ _
      refine eb_iinc (pc := 112) (i := 8) (n := 1) (v := x8 + 1) (ls2 := [(8, .int (x8 + 1)), (0, .ref s_flights), (3, .int x3), (4, .int x4), (5, .long x5), (7, .int x7)]) (Nat.le_of_ble_eq_true rfl) rfl rfl rfl rfl ?_
      refine eb_goto (pc := 115) (tgt := 83) rfl (by decide) ?_
      exact eb_pick [1, 2, 3, 4, 5, 0] rfl w
theorem T_X1_flyAll {d : Nat} {h : eb_H} {Q : Option Value → eb_H → Prop} (a1 : Nat) (a2 : Nat) (x3 : Int32) (x4 : Int32) (ka1 : eb_kd a1 = 9) (ka2 : eb_kd a2 = 6) (ko : eb_KO h) (w : eb_Ct d 8 [.ref s_flights, .ref a1, .ref a2] h (fun r h1 => r = none ∧ eb_KO h1 ∧ ∃ r6, eb_R h1 s_flights 10 = some r6 ∧ eb_kd r6 = 14 ∧ eb_Ct d 300 [.ref r6, .long (if x4 = (2 : Int32) then (-1) else (if x4 = (3 : Int32) then (-1) else 0) : Int64)] h1 (fun r h9 => r = none ∧ eb_KO h9 ∧ ∃ r12, eb_R h9 s_flights 10 = some r12 ∧ eb_kd r12 = 14 ∧ eb_Ct d 10 [.ref s_flights] h9 (fun r h15 => ∃ y16, r = some (.int y16) ∧ eb_KO h15 ∧ (vp_in y16 (eb_ln r12)) ∧ eb_Sn (d + 1) m_X1_flyAll h 65 [(0, .ref s_flights), (3, .int x3), (4, .int x4), (5, .long (if x4 = (2 : Int32) then (-1) else (if x4 = (3 : Int32) then (-1) else 0) : Int64)), (7, .int 0)] [] (eb_sJ h15 r12 y16.toNatClampNeg (if x4 = (2 : Int32) then 0 else (if x4 = (3 : Int32) then 0 else 1) : Int64)) Q)))) : eb_Ct (d + 1) 18 [.ref s_flights, .ref a1, .ref a2, .int x3, .int x4] h Q :=
  eb_bodyQ (by decide) ok_X1_flyAll (Nat.le_of_ble_eq_true rfl) (b_X1_flyAll_0 (h0 := h) a1 a2 x3 x4 ka1 ka2 ko w)
theorem b_X1_flyOn_0 {d : Nat} {h0 h : eb_H} {Q : Option Value → eb_H → Prop} (x1 : Int32) (x2 : Int32)  (ko : eb_KO h) (w : eb_Sn (d + 1) m_X1_flyOn h0 2 [(0, .ref s_flights), (1, .int x1), (2, .int x2), (3, .int 0)] [] h Q) : eb_Sn (d + 1) m_X1_flyOn h0 0 [(0, .ref s_flights), (1, .int x1), (2, .int x2)] [] h Q := by
  refine eb_iconst (pc := 0) (n := 0) (v := 0) rfl rfl ?_
  refine eb_istore_n (pc := 1) (n := 3) (i := 3) (ls2 := [(3, .int 0), (0, .ref s_flights), (1, .int x1), (2, .int x2)]) rfl (Nat.le_of_ble_eq_true rfl) rfl rfl ?_
  exact eb_pick [1, 2, 3, 0] rfl w
theorem b_X1_flyOn_2 {d : Nat} {h0 h : eb_H} {Q : Option Value → eb_H → Prop} (x1 : Int32) (x2 : Int32) (x3 : Int32)  (ko : eb_KO h) (w : (((4 : Int32) ≤ x3 → Q none h) ∧ (¬ ((4 : Int32) ≤ x3) → eb_Ct d 9 [.ref s_flights, .int x1, .int x3] h (fun r h2 => ∃ y3, r = some (.int y3) ∧ eb_KO h2 ∧ ((¬ y3 = ((-1) : Int32) → eb_Ct d 7 [.int y3] h2 (fun r h6 => ∃ y7, r = some (.int y7) ∧ eb_KO h6 ∧ ((y7 = 0 → eb_Sn (d + 1) m_X1_flyOn h0 2 [(0, .ref s_flights), (1, .int x1), (2, .int x2), (3, .int (x3 + 1))] [] h6 Q) ∧ (¬ (y7 = 0) → ∃ r10, eb_R h6 s_flights 11 = some r10 ∧ eb_kd r10 = 14 ∧ (vp_in y3 (eb_ln r10)) ∧ ∃ r14, eb_R h6 s_flights 10 = some r14 ∧ eb_kd r14 = 14 ∧ (vp_in x1 (eb_ln r14)) ∧ eb_Ct d 5 [.int y3] h6 (fun r h18 => ∃ y19, r = some (.int y19) ∧ eb_KO h18 ∧ eb_Ct d 20 [.long (eb_J h6 r10 y3.toNatClampNeg), .long (eb_J h6 r14 x1.toNatClampNeg), .int x2, .int x3, .int y19] h18 (fun r h21 => ∃ y22, r = some (.long y22) ∧ eb_KO h21 ∧ (vp_in y3 (eb_ln r10)) ∧ eb_Sn (d + 1) m_X1_flyOn h0 2 [(0, .ref s_flights), (1, .int x1), (2, .int x2), (3, .int (x3 + 1))] [] (eb_sJ h21 r10 y3.toNatClampNeg y22) Q)))))) ∧ (y3 = ((-1) : Int32) → ((¬ x2 = (1 : Int32) → eb_Ct d 7 [.int y3] h2 (fun r h26 => ∃ y27, r = some (.int y27) ∧ eb_KO h26 ∧ ((y27 = 0 → eb_Sn (d + 1) m_X1_flyOn h0 2 [(0, .ref s_flights), (1, .int x1), (2, .int x2), (3, .int (x3 + 1))] [] h26 Q) ∧ (¬ (y27 = 0) → ∃ r30, eb_R h26 s_flights 11 = some r30 ∧ eb_kd r30 = 14 ∧ (vp_in y3 (eb_ln r30)) ∧ ∃ r34, eb_R h26 s_flights 10 = some r34 ∧ eb_kd r34 = 14 ∧ (vp_in x1 (eb_ln r34)) ∧ eb_Ct d 5 [.int y3] h26 (fun r h38 => ∃ y39, r = some (.int y39) ∧ eb_KO h38 ∧ eb_Ct d 20 [.long (eb_J h26 r30 y3.toNatClampNeg), .long (eb_J h26 r34 x1.toNatClampNeg), .int x2, .int x3, .int y39] h38 (fun r h41 => ∃ y42, r = some (.long y42) ∧ eb_KO h41 ∧ (vp_in y3 (eb_ln r30)) ∧ eb_Sn (d + 1) m_X1_flyOn h0 2 [(0, .ref s_flights), (1, .int x1), (2, .int x2), (3, .int (x3 + 1))] [] (eb_sJ h41 r30 y3.toNatClampNeg y42) Q)))))) ∧ (x2 = (1 : Int32) → eb_Ct d 7 [.int x1] h2 (fun r h45 => ∃ y46, r = some (.int y46) ∧ eb_KO h45 ∧ ((y46 = 0 → eb_Sn (d + 1) m_X1_flyOn h0 2 [(0, .ref s_flights), (1, .int x1), (2, .int x2), (3, .int (x3 + 1))] [] h45 Q) ∧ (¬ (y46 = 0) → ∃ r49, eb_R h45 s_flights 11 = some r49 ∧ eb_kd r49 = 14 ∧ (vp_in x1 (eb_ln r49)) ∧ ∃ r53, eb_R h45 s_flights 10 = some r53 ∧ eb_kd r53 = 14 ∧ (vp_in x1 (eb_ln r53)) ∧ eb_Ct d 5 [.int x1] h45 (fun r h57 => ∃ y58, r = some (.int y58) ∧ eb_KO h57 ∧ eb_Ct d 20 [.long (eb_J h45 r49 x1.toNatClampNeg), .long (eb_J h45 r53 x1.toNatClampNeg), .int x2, .int x3, .int y58] h57 (fun r h60 => ∃ y61, r = some (.long y61) ∧ eb_KO h60 ∧ (vp_in x1 (eb_ln r49)) ∧ eb_Sn (d + 1) m_X1_flyOn h0 2 [(0, .ref s_flights), (1, .int x1), (2, .int x2), (3, .int (x3 + 1))] [] (eb_sJ h60 r49 x1.toNatClampNeg y61) Q))))))))))))) : eb_Sn (d + 1) m_X1_flyOn h0 2 [(0, .ref s_flights), (1, .int x1), (2, .int x2), (3, .int x3)] [] h Q := by
  refine eb_iload_n (pc := 2) (n := 3) (i := 3) rfl rfl rfl ?_
  refine eb_iconst (pc := 3) (n := 4) (v := 4) rfl rfl ?_
  refine eb_icmp_ge (pc := 4) (tgt := 73) rfl (by decide) (fun c1 => ?_) (fun c1 => ?_)
  · replace w := w.1 c1
    exact eb_return (pc := 73) rfl rfl w
  · replace w := w.2 c1
    refine eb_aload_n (pc := 7) (n := 0) (i := 0) rfl rfl rfl ?_
    refine eb_iload_n (pc := 8) (n := 1) (i := 1) rfl rfl rfl ?_
    refine eb_iload_n (pc := 9) (n := 3) (i := 3) rfl rfl rfl ?_
    refine eb_ctV (pc := 10) (As := [.int x1, .int x3]) (rest := []) rfl (by decide) rfl rfl (by decide) rfl (Nat.le_of_ble_eq_true rfl) ?_
    refine eb_Ct.mono w ?_
    rintro r h2 ⟨y3, rfl, ko4, w⟩
    change eb_Sn _ _ _ 13 _ [.int y3] _ _
    refine eb_istore (pc := 13) (i := 4) (ls2 := [(4, .int y3), (0, .ref s_flights), (1, .int x1), (2, .int x2), (3, .int x3)]) (Nat.le_of_ble_eq_true rfl) rfl rfl ?_
    refine eb_iload (pc := 15) (i := 4) rfl rfl ?_
    refine eb_iconst (pc := 17) (n := -1) (v := (-1)) rfl rfl ?_
    refine eb_icmp_ne (pc := 18) (tgt := 29) rfl (by decide) (fun c5 => ?_) (fun c5 => ?_)
    · replace w := w.1 c5
      refine eb_iload (pc := 29) (i := 4) rfl rfl ?_
      refine eb_ctS (pc := 31) (As := [.int y3]) (rest := []) rfl (by decide) (by decide) rfl rfl (Nat.le_of_ble_eq_true rfl) ?_
      refine eb_Ct.mono w ?_
      rintro r h6 ⟨y7, rfl, ko8, w⟩
      change eb_Sn _ _ _ 34 _ [.int y7] _ _
      refine eb_if_eq (pc := 34) (tgt := 67) rfl (by decide) (fun c9 => ?_) (fun c9 => ?_)
      · replace w := w.1 c9
        refine eb_iinc (pc := 67) (i := 3) (n := 1) (v := x3 + 1) (ls2 := [(3, .int (x3 + 1)), (4, .int y3), (0, .ref s_flights), (1, .int x1), (2, .int x2)]) (Nat.le_of_ble_eq_true rfl) rfl rfl rfl rfl ?_
        refine eb_goto (pc := 70) (tgt := 2) rfl (by decide) ?_
        exact eb_pick [2, 3, 4, 0] rfl w
      · replace w := w.2 c9
        refine eb_aload_n (pc := 37) (n := 0) (i := 0) rfl rfl rfl ?_
        obtain ⟨r10, q11, k12, w⟩ := w
        refine eb_getR (pc := 38) rfl rfl (by decide) (by decide) rfl q11 ?_
        refine eb_iload (pc := 41) (i := 4) rfl rfl ?_
        refine eb_aload_n (pc := 43) (n := 0) (i := 0) rfl rfl rfl ?_
        refine eb_getR (pc := 44) rfl rfl (by decide) (by decide) rfl q11 ?_
        refine eb_iload (pc := 47) (i := 4) rfl rfl ?_
        obtain ⟨c13, w⟩ := w
        refine eb_laload (pc := 49) rfl k12 c13 ?_
        refine eb_aload_n (pc := 50) (n := 0) (i := 0) rfl rfl rfl ?_
        obtain ⟨r14, q15, k16, w⟩ := w
        refine eb_getR (pc := 51) rfl rfl (by decide) (by decide) rfl q15 ?_
        refine eb_iload_n (pc := 54) (n := 1) (i := 1) rfl rfl rfl ?_
        obtain ⟨c17, w⟩ := w
        refine eb_laload (pc := 55) rfl k16 c17 ?_
        refine eb_iload_n (pc := 56) (n := 2) (i := 2) rfl rfl rfl ?_
        refine eb_iload_n (pc := 57) (n := 3) (i := 3) rfl rfl rfl ?_
        refine eb_iload (pc := 58) (i := 4) rfl rfl ?_
        refine eb_ctS (pc := 60) (As := [.int y3]) (rest := [.int x3, .int x2, .long (eb_J h6 r14 x1.toNatClampNeg), .long (eb_J h6 r10 y3.toNatClampNeg), .int y3, .ref r10]) rfl (by decide) (by decide) rfl rfl (Nat.le_of_ble_eq_true rfl) ?_
        refine eb_Ct.mono w ?_
        rintro r h18 ⟨y19, rfl, ko20, w⟩
        change eb_Sn _ _ _ 63 _ [.int y19, .int x3, .int x2, .long (eb_J h6 r14 x1.toNatClampNeg), .long (eb_J h6 r10 y3.toNatClampNeg), .int y3, .ref r10] _ _
        refine eb_ctS (pc := 63) (As := [.long (eb_J h6 r10 y3.toNatClampNeg), .long (eb_J h6 r14 x1.toNatClampNeg), .int x2, .int x3, .int y19]) (rest := [.int y3, .ref r10]) rfl (by decide) (by decide) rfl rfl (Nat.le_of_ble_eq_true rfl) ?_
        refine eb_Ct.mono w ?_
        rintro r h21 ⟨y22, rfl, ko23, w⟩
        change eb_Sn _ _ _ 66 _ [.long y22, .int y3, .ref r10] _ _
        obtain ⟨c24, w⟩ := w
        refine eb_lastore (pc := 66) rfl k12 c24 ?_
        refine eb_iinc (pc := 67) (i := 3) (n := 1) (v := x3 + 1) (ls2 := [(3, .int (x3 + 1)), (4, .int y3), (0, .ref s_flights), (1, .int x1), (2, .int x2)]) (Nat.le_of_ble_eq_true rfl) rfl rfl rfl rfl ?_
        refine eb_goto (pc := 70) (tgt := 2) rfl (by decide) ?_
        exact eb_pick [2, 3, 4, 0] rfl w
    · replace w := w.2 c5
      refine eb_iload_n (pc := 21) (n := 2) (i := 2) rfl rfl rfl ?_
      refine eb_iconst (pc := 22) (n := 1) (v := 1) rfl rfl ?_
      refine eb_icmp_ne (pc := 23) (tgt := 29) rfl (by decide) (fun c25 => ?_) (fun c25 => ?_)
      · replace w := w.1 c25
        refine eb_iload (pc := 29) (i := 4) rfl rfl ?_
        refine eb_ctS (pc := 31) (As := [.int y3]) (rest := []) rfl (by decide) (by decide) rfl rfl (Nat.le_of_ble_eq_true rfl) ?_
        refine eb_Ct.mono w ?_
        rintro r h26 ⟨y27, rfl, ko28, w⟩
        change eb_Sn _ _ _ 34 _ [.int y27] _ _
        refine eb_if_eq (pc := 34) (tgt := 67) rfl (by decide) (fun c29 => ?_) (fun c29 => ?_)
        · replace w := w.1 c29
          refine eb_iinc (pc := 67) (i := 3) (n := 1) (v := x3 + 1) (ls2 := [(3, .int (x3 + 1)), (4, .int y3), (0, .ref s_flights), (1, .int x1), (2, .int x2)]) (Nat.le_of_ble_eq_true rfl) rfl rfl rfl rfl ?_
          refine eb_goto (pc := 70) (tgt := 2) rfl (by decide) ?_
          exact eb_pick [2, 3, 4, 0] rfl w
        · replace w := w.2 c29
          refine eb_aload_n (pc := 37) (n := 0) (i := 0) rfl rfl rfl ?_
          obtain ⟨r30, q31, k32, w⟩ := w
          refine eb_getR (pc := 38) rfl rfl (by decide) (by decide) rfl q31 ?_
          refine eb_iload (pc := 41) (i := 4) rfl rfl ?_
          refine eb_aload_n (pc := 43) (n := 0) (i := 0) rfl rfl rfl ?_
          refine eb_getR (pc := 44) rfl rfl (by decide) (by decide) rfl q31 ?_
          refine eb_iload (pc := 47) (i := 4) rfl rfl ?_
          obtain ⟨c33, w⟩ := w
          refine eb_laload (pc := 49) rfl k32 c33 ?_
          refine eb_aload_n (pc := 50) (n := 0) (i := 0) rfl rfl rfl ?_
          obtain ⟨r34, q35, k36, w⟩ := w
          refine eb_getR (pc := 51) rfl rfl (by decide) (by decide) rfl q35 ?_
          refine eb_iload_n (pc := 54) (n := 1) (i := 1) rfl rfl rfl ?_
          obtain ⟨c37, w⟩ := w
          refine eb_laload (pc := 55) rfl k36 c37 ?_
          refine eb_iload_n (pc := 56) (n := 2) (i := 2) rfl rfl rfl ?_
          refine eb_iload_n (pc := 57) (n := 3) (i := 3) rfl rfl rfl ?_
          refine eb_iload (pc := 58) (i := 4) rfl rfl ?_
          refine eb_ctS (pc := 60) (As := [.int y3]) (rest := [.int x3, .int x2, .long (eb_J h26 r34 x1.toNatClampNeg), .long (eb_J h26 r30 y3.toNatClampNeg), .int y3, .ref r30]) rfl (by decide) (by decide) rfl rfl (Nat.le_of_ble_eq_true rfl) ?_
          refine eb_Ct.mono w ?_
          rintro r h38 ⟨y39, rfl, ko40, w⟩
          change eb_Sn _ _ _ 63 _ [.int y39, .int x3, .int x2, .long (eb_J h26 r34 x1.toNatClampNeg), .long (eb_J h26 r30 y3.toNatClampNeg), .int y3, .ref r30] _ _
          refine eb_ctS (pc := 63) (As := [.long (eb_J h26 r30 y3.toNatClampNeg), .long (eb_J h26 r34 x1.toNatClampNeg), .int x2, .int x3, .int y39]) (rest := [.int y3, .ref r30]) rfl (by decide) (by decide) rfl rfl (Nat.le_of_ble_eq_true rfl) ?_
          refine eb_Ct.mono w ?_
          rintro r h41 ⟨y42, rfl, ko43, w⟩
          change eb_Sn _ _ _ 66 _ [.long y42, .int y3, .ref r30] _ _
          obtain ⟨c44, w⟩ := w
          refine eb_lastore (pc := 66) rfl k32 c44 ?_
          refine eb_iinc (pc := 67) (i := 3) (n := 1) (v := x3 + 1) (ls2 := [(3, .int (x3 + 1)), (4, .int y3), (0, .ref s_flights), (1, .int x1), (2, .int x2)]) (Nat.le_of_ble_eq_true rfl) rfl rfl rfl rfl ?_
          refine eb_goto (pc := 70) (tgt := 2) rfl (by decide) ?_
          exact eb_pick [2, 3, 4, 0] rfl w
      · replace w := w.2 c25
        refine eb_iload_n (pc := 26) (n := 1) (i := 1) rfl rfl rfl ?_
        refine eb_istore (pc := 27) (i := 4) (ls2 := [(4, .int x1), (0, .ref s_flights), (1, .int x1), (2, .int x2), (3, .int x3)]) (Nat.le_of_ble_eq_true rfl) rfl rfl ?_
        refine eb_iload (pc := 29) (i := 4) rfl rfl ?_
        refine eb_ctS (pc := 31) (As := [.int x1]) (rest := []) rfl (by decide) (by decide) rfl rfl (Nat.le_of_ble_eq_true rfl) ?_
        refine eb_Ct.mono w ?_
        rintro r h45 ⟨y46, rfl, ko47, w⟩
        change eb_Sn _ _ _ 34 _ [.int y46] _ _
        refine eb_if_eq (pc := 34) (tgt := 67) rfl (by decide) (fun c48 => ?_) (fun c48 => ?_)
        · replace w := w.1 c48
          refine eb_iinc (pc := 67) (i := 3) (n := 1) (v := x3 + 1) (ls2 := [(3, .int (x3 + 1)), (4, .int x1), (0, .ref s_flights), (1, .int x1), (2, .int x2)]) (Nat.le_of_ble_eq_true rfl) rfl rfl rfl rfl ?_
          refine eb_goto (pc := 70) (tgt := 2) rfl (by decide) ?_
          exact eb_pick [2, 3, 4, 0] rfl w
        · replace w := w.2 c48
          refine eb_aload_n (pc := 37) (n := 0) (i := 0) rfl rfl rfl ?_
          obtain ⟨r49, q50, k51, w⟩ := w
          refine eb_getR (pc := 38) rfl rfl (by decide) (by decide) rfl q50 ?_
          refine eb_iload (pc := 41) (i := 4) rfl rfl ?_
          refine eb_aload_n (pc := 43) (n := 0) (i := 0) rfl rfl rfl ?_
          refine eb_getR (pc := 44) rfl rfl (by decide) (by decide) rfl q50 ?_
          refine eb_iload (pc := 47) (i := 4) rfl rfl ?_
          obtain ⟨c52, w⟩ := w
          refine eb_laload (pc := 49) rfl k51 c52 ?_
          refine eb_aload_n (pc := 50) (n := 0) (i := 0) rfl rfl rfl ?_
          obtain ⟨r53, q54, k55, w⟩ := w
          refine eb_getR (pc := 51) rfl rfl (by decide) (by decide) rfl q54 ?_
          refine eb_iload_n (pc := 54) (n := 1) (i := 1) rfl rfl rfl ?_
          obtain ⟨c56, w⟩ := w
          refine eb_laload (pc := 55) rfl k55 c56 ?_
          refine eb_iload_n (pc := 56) (n := 2) (i := 2) rfl rfl rfl ?_
          refine eb_iload_n (pc := 57) (n := 3) (i := 3) rfl rfl rfl ?_
          refine eb_iload (pc := 58) (i := 4) rfl rfl ?_
          refine eb_ctS (pc := 60) (As := [.int x1]) (rest := [.int x3, .int x2, .long (eb_J h45 r53 x1.toNatClampNeg), .long (eb_J h45 r49 x1.toNatClampNeg), .int x1, .ref r49]) rfl (by decide) (by decide) rfl rfl (Nat.le_of_ble_eq_true rfl) ?_
          refine eb_Ct.mono w ?_
          rintro r h57 ⟨y58, rfl, ko59, w⟩
          change eb_Sn _ _ _ 63 _ [.int y58, .int x3, .int x2, .long (eb_J h45 r53 x1.toNatClampNeg), .long (eb_J h45 r49 x1.toNatClampNeg), .int x1, .ref r49] _ _
          refine eb_ctS (pc := 63) (As := [.long (eb_J h45 r49 x1.toNatClampNeg), .long (eb_J h45 r53 x1.toNatClampNeg), .int x2, .int x3, .int y58]) (rest := [.int x1, .ref r49]) rfl (by decide) (by decide) rfl rfl (Nat.le_of_ble_eq_true rfl) ?_
          refine eb_Ct.mono w ?_
          rintro r h60 ⟨y61, rfl, ko62, w⟩
          change eb_Sn _ _ _ 66 _ [.long y61, .int x1, .ref r49] _ _
          obtain ⟨c63, w⟩ := w
          refine eb_lastore (pc := 66) rfl k51 c63 ?_
          refine eb_iinc (pc := 67) (i := 3) (n := 1) (v := x3 + 1) (ls2 := [(3, .int (x3 + 1)), (4, .int x1), (0, .ref s_flights), (1, .int x1), (2, .int x2)]) (Nat.le_of_ble_eq_true rfl) rfl rfl rfl rfl ?_
          refine eb_goto (pc := 70) (tgt := 2) rfl (by decide) ?_
          exact eb_pick [2, 3, 4, 0] rfl w
theorem T_X1_flyOn {d : Nat} {h : eb_H} {Q : Option Value → eb_H → Prop} (x1 : Int32) (x2 : Int32)  (ko : eb_KO h) (w : eb_Sn (d + 1) m_X1_flyOn h 2 [(0, .ref s_flights), (1, .int x1), (2, .int x2), (3, .int 0)] [] h Q) : eb_Ct (d + 1) 19 [.ref s_flights, .int x1, .int x2] h Q :=
  eb_bodyQ (by decide) ok_X1_flyOn (Nat.le_of_ble_eq_true rfl) (b_X1_flyOn_0 (h0 := h) x1 x2  ko w)
theorem b_X1_joined_0 {d : Nat} {h0 h : eb_H} {Q : Option Value → eb_H → Prop} (x0 : Int64) (x2 : Int64) (x4 : Int32) (x5 : Int32) (x6 : Int32)  (ko : eb_KO h) (w : ((¬ x4 = (3 : Int32) → ((x4 = (2 : Int32) → ((¬ x0 = (-1) → eb_Ct d 288 [.long x0, .long (((4 : Int64) * x2) + x5.toInt64)] h (fun r h4 => ∃ y5, r = some (.long y5) ∧ eb_KO h4 ∧ Q (some (.long y5)) h4)) ∧ (x0 = (-1) → Q (some (.long (((4 : Int64) * x2) + x5.toInt64))) h))) ∧ (¬ (x4 = (2 : Int32)) → Q (some (.long (x0 + x2))) h))) ∧ (x4 = (3 : Int32) → Q (some (.long (x0 &&& (x2 ||| ((1 : Int64) <<< (x6.toInt64 &&& 63)))))) h))) : eb_Sn (d + 1) m_X1_joined h0 0 [(0, .long x0), (2, .long x2), (4, .int x4), (5, .int x5), (6, .int x6)] [] h Q := by
  refine eb_iload (pc := 0) (i := 4) rfl rfl ?_
  refine eb_iconst (pc := 2) (n := 3) (v := 3) rfl rfl ?_
  refine eb_icmp_ne (pc := 3) (tgt := 15) rfl (by decide) (fun c1 => ?_) (fun c1 => ?_)
  · replace w := w.1 c1
    refine eb_iload (pc := 15) (i := 4) rfl rfl ?_
    refine eb_iconst (pc := 17) (n := 2) (v := 2) rfl rfl ?_
    refine eb_icmp_eq (pc := 18) (tgt := 25) rfl (by decide) (fun c2 => ?_) (fun c2 => ?_)
    · replace w := w.1 c2
      refine eb_ldc2 (pc := 25) (a := 4) (v := 4) rfl (by decide) ?_
      refine eb_lload_n (pc := 28) (n := 2) (i := 2) rfl rfl rfl ?_
      refine eb_lmul (pc := 29) rfl ?_
      refine eb_iload (pc := 30) (i := 5) rfl rfl ?_
      refine eb_i2l (pc := 32) rfl ?_
      refine eb_ladd (pc := 33) rfl ?_
      refine eb_lstore (pc := 34) (i := 7) (ls2 := [(7, .long (((4 : Int64) * x2) + x5.toInt64)), (0, .long x0), (2, .long x2), (4, .int x4), (5, .int x5), (6, .int x6)]) (Nat.le_of_ble_eq_true rfl) rfl rfl ?_
      refine eb_lload_n (pc := 36) (n := 0) (i := 0) rfl rfl rfl ?_
      refine eb_ldc2 (pc := 37) (a := 18446744073709551615) (v := (-1)) rfl (by decide) ?_
      refine eb_lcmp (pc := 40) rfl ?_
      refine eb_if_ne (pc := 41) (tgt := 49) rfl (by decide) (fun c3 => ?_) (fun c3 => ?_)
      · replace c3 := eb_lc_ne.mp c3
        replace w := w.1 c3
        refine eb_lload_n (pc := 49) (n := 0) (i := 0) rfl rfl rfl ?_
        refine eb_lload (pc := 50) (i := 7) rfl rfl ?_
        refine eb_ctS (pc := 52) (As := [.long x0, .long (((4 : Int64) * x2) + x5.toInt64)]) (rest := []) rfl (by decide) (by decide) rfl rfl (Nat.le_of_ble_eq_true rfl) ?_
        refine eb_Ct.mono w ?_
        rintro r h4 ⟨y5, rfl, ko6, w⟩
        change eb_Sn _ _ _ 55 _ [.long y5] _ _
        exact eb_lreturn (pc := 55) rfl rfl w
      · replace c3 := eb_lc_eq.mp c3
        replace w := w.2 c3
        refine eb_lload (pc := 44) (i := 7) rfl rfl ?_
        refine eb_goto (pc := 46) (tgt := 55) rfl (by decide) ?_
        exact eb_lreturn (pc := 55) rfl rfl w
    · replace w := w.2 c2
      refine eb_lload_n (pc := 21) (n := 0) (i := 0) rfl rfl rfl ?_
      refine eb_lload_n (pc := 22) (n := 2) (i := 2) rfl rfl rfl ?_
      refine eb_ladd (pc := 23) rfl ?_
      exact eb_lreturn (pc := 24) rfl rfl w
  · replace w := w.2 c1
    refine eb_lload_n (pc := 6) (n := 0) (i := 0) rfl rfl rfl ?_
    refine eb_lload_n (pc := 7) (n := 2) (i := 2) rfl rfl rfl ?_
    refine eb_lconst (pc := 8) (n := 1) (v := 1) rfl rfl ?_
    refine eb_iload (pc := 9) (i := 6) rfl rfl ?_
    refine eb_lshl (pc := 11) rfl ?_
    refine eb_lor (pc := 12) rfl ?_
    refine eb_land (pc := 13) rfl ?_
    exact eb_lreturn (pc := 14) rfl rfl w
theorem T_X1_joined {d : Nat} {h : eb_H} {Q : Option Value → eb_H → Prop} (x0 : Int64) (x2 : Int64) (x4 : Int32) (x5 : Int32) (x6 : Int32)  (ko : eb_KO h) (w : ((¬ x4 = (3 : Int32) → ((x4 = (2 : Int32) → ((¬ x0 = (-1) → eb_Ct d 288 [.long x0, .long (((4 : Int64) * x2) + x5.toInt64)] h (fun r h4 => ∃ y5, r = some (.long y5) ∧ eb_KO h4 ∧ Q (some (.long y5)) h4)) ∧ (x0 = (-1) → Q (some (.long (((4 : Int64) * x2) + x5.toInt64))) h))) ∧ (¬ (x4 = (2 : Int32)) → Q (some (.long (x0 + x2))) h))) ∧ (x4 = (3 : Int32) → Q (some (.long (x0 &&& (x2 ||| ((1 : Int64) <<< (x6.toInt64 &&& 63)))))) h))) : eb_Ct (d + 1) 20 [.long x0, .long x2, .int x4, .int x5, .int x6] h Q :=
  eb_bodyQ (by decide) ok_X1_joined (Nat.le_of_ble_eq_true rfl) (b_X1_joined_0 (h0 := h) x0 x2 x4 x5 x6  ko w)
theorem b_X1_amountAt_0 {d : Nat} {h0 h : eb_H} {Q : Option Value → eb_H → Prop} (x1 : Int32) (x2 : Int32)  (ko : eb_KO h) (w : eb_Ct d 4 [.int x1, .int x2] h (fun r h1 => ∃ y2, r = some (.int y2) ∧ eb_KO h1 ∧ eb_Ct d 7 [.int y2] h1 (fun r h4 => ∃ y5, r = some (.int y5) ∧ eb_KO h4 ∧ ((y5 = 0 → Q (some (.long (-1))) h4) ∧ (¬ (y5 = 0) → ∃ r8, eb_R h4 s_flights 10 = some r8 ∧ eb_kd r8 = 14 ∧ (vp_in y2 (eb_ln r8)) ∧ Q (some (.long (eb_J h4 r8 y2.toNatClampNeg))) h4))))) : eb_Sn (d + 1) m_X1_amountAt h0 0 [(0, .ref s_flights), (1, .int x1), (2, .int x2)] [] h Q := by
  refine eb_iload_n (pc := 0) (n := 1) (i := 1) rfl rfl rfl ?_
  refine eb_iload_n (pc := 1) (n := 2) (i := 2) rfl rfl rfl ?_
  refine eb_ctS (pc := 2) (As := [.int x1, .int x2]) (rest := []) rfl (by decide) (by decide) rfl rfl (Nat.le_of_ble_eq_true rfl) ?_
  refine eb_Ct.mono w ?_
  rintro r h1 ⟨y2, rfl, ko3, w⟩
  change eb_Sn _ _ _ 5 _ [.int y2] _ _
  refine eb_istore_n (pc := 5) (n := 3) (i := 3) (ls2 := [(3, .int y2), (0, .ref s_flights), (1, .int x1), (2, .int x2)]) rfl (Nat.le_of_ble_eq_true rfl) rfl rfl ?_
  refine eb_iload_n (pc := 6) (n := 3) (i := 3) rfl rfl rfl ?_
  refine eb_ctS (pc := 7) (As := [.int y2]) (rest := []) rfl (by decide) (by decide) rfl rfl (Nat.le_of_ble_eq_true rfl) ?_
  refine eb_Ct.mono w ?_
  rintro r h4 ⟨y5, rfl, ko6, w⟩
  change eb_Sn _ _ _ 10 _ [.int y5] _ _
  refine eb_if_eq (pc := 10) (tgt := 22) rfl (by decide) (fun c7 => ?_) (fun c7 => ?_)
  · replace w := w.1 c7
    refine eb_ldc2 (pc := 22) (a := 18446744073709551615) (v := (-1)) rfl (by decide) ?_
    exact eb_lreturn (pc := 25) rfl rfl w
  · replace w := w.2 c7
    refine eb_aload_n (pc := 13) (n := 0) (i := 0) rfl rfl rfl ?_
    obtain ⟨r8, q9, k10, w⟩ := w
    refine eb_getR (pc := 14) rfl rfl (by decide) (by decide) rfl q9 ?_
    refine eb_iload_n (pc := 17) (n := 3) (i := 3) rfl rfl rfl ?_
    obtain ⟨c11, w⟩ := w
    refine eb_laload (pc := 18) rfl k10 c11 ?_
    refine eb_goto (pc := 19) (tgt := 25) rfl (by decide) ?_
    exact eb_lreturn (pc := 25) rfl rfl w
theorem T_X1_amountAt {d : Nat} {h : eb_H} {Q : Option Value → eb_H → Prop} (x1 : Int32) (x2 : Int32)  (ko : eb_KO h) (w : eb_Ct d 4 [.int x1, .int x2] h (fun r h1 => ∃ y2, r = some (.int y2) ∧ eb_KO h1 ∧ eb_Ct d 7 [.int y2] h1 (fun r h4 => ∃ y5, r = some (.int y5) ∧ eb_KO h4 ∧ ((y5 = 0 → Q (some (.long (-1))) h4) ∧ (¬ (y5 = 0) → ∃ r8, eb_R h4 s_flights 10 = some r8 ∧ eb_kd r8 = 14 ∧ (vp_in y2 (eb_ln r8)) ∧ Q (some (.long (eb_J h4 r8 y2.toNatClampNeg))) h4))))) : eb_Ct (d + 1) 21 [.ref s_flights, .int x1, .int x2] h Q :=
  eb_bodyQ (by decide) ok_X1_amountAt (Nat.le_of_ble_eq_true rfl) (b_X1_amountAt_0 (h0 := h) x1 x2  ko w)
theorem b_X1_amountOf_0 {d : Nat} {h0 h : eb_H} {Q : Option Value → eb_H → Prop} (x1 : Int32) (x2 : Int32) (x3 : Int32)  (ko : eb_KO h) (w : eb_Sn (d + 1) m_X1_amountOf h0 6 [(0, .ref s_flights), (1, .int x1), (2, .int x2), (3, .int x3), (4, .long 0), (6, .int 0)] [] h Q) : eb_Sn (d + 1) m_X1_amountOf h0 0 [(0, .ref s_flights), (1, .int x1), (2, .int x2), (3, .int x3)] [] h Q := by
  refine eb_lconst (pc := 0) (n := 0) (v := 0) rfl rfl ?_
  refine eb_lstore (pc := 1) (i := 4) (ls2 := [(4, .long 0), (0, .ref s_flights), (1, .int x1), (2, .int x2), (3, .int x3)]) (Nat.le_of_ble_eq_true rfl) rfl rfl ?_
  refine eb_iconst (pc := 3) (n := 0) (v := 0) rfl rfl ?_
  refine eb_istore (pc := 4) (i := 6) (ls2 := [(6, .int 0), (4, .long 0), (0, .ref s_flights), (1, .int x1), (2, .int x2), (3, .int x3)]) (Nat.le_of_ble_eq_true rfl) rfl rfl ?_
  exact eb_pick [2, 3, 4, 5, 1, 0] rfl w
theorem b_X1_amountOf_6 {d : Nat} {h0 h : eb_H} {Q : Option Value → eb_H → Prop} (x1 : Int32) (x2 : Int32) (x3 : Int32) (x4 : Int64) (x6 : Int32)  (ko : eb_KO h) (w : (((1024 : Int32) ≤ x6 → Q (some (.long x4)) h) ∧ (¬ ((1024 : Int32) ≤ x6) → eb_Ct d 13 [.int x6, .int x1, .int x2, .int x3] h (fun r h2 => ∃ y3, r = some (.int y3) ∧ eb_KO h2 ∧ ((y3 = 0 → eb_Sn (d + 1) m_X1_amountOf h0 6 [(0, .ref s_flights), (1, .int x1), (2, .int x2), (3, .int x3), (4, .long x4), (6, .int (x6 + 1))] [] h2 Q) ∧ (¬ (y3 = 0) → ∃ r6, eb_R h2 s_flights 10 = some r6 ∧ eb_kd r6 = 14 ∧ (vp_in x6 (eb_ln r6)) ∧ eb_Sn (d + 1) m_X1_amountOf h0 6 [(0, .ref s_flights), (1, .int x1), (2, .int x2), (3, .int x3), (4, .long (x4 + (eb_J h2 r6 x6.toNatClampNeg))), (6, .int (x6 + 1))] [] h2 Q)))))) : eb_Sn (d + 1) m_X1_amountOf h0 6 [(0, .ref s_flights), (1, .int x1), (2, .int x2), (3, .int x3), (4, .long x4), (6, .int x6)] [] h Q := by
  refine eb_iload (pc := 6) (i := 6) rfl rfl ?_
  refine eb_sipush (pc := 8) (n := 1024) (v := 1024) rfl rfl ?_
  refine eb_icmp_ge (pc := 11) (tgt := 43) rfl (by decide) (fun c1 => ?_) (fun c1 => ?_)
  · replace w := w.1 c1
    refine eb_lload (pc := 43) (i := 4) rfl rfl ?_
    exact eb_lreturn (pc := 45) rfl rfl w
  · replace w := w.2 c1
    refine eb_iload (pc := 14) (i := 6) rfl rfl ?_
    refine eb_iload_n (pc := 16) (n := 1) (i := 1) rfl rfl rfl ?_
    refine eb_iload_n (pc := 17) (n := 2) (i := 2) rfl rfl rfl ?_
    refine eb_iload_n (pc := 18) (n := 3) (i := 3) rfl rfl rfl ?_
    refine eb_ctS (pc := 19) (As := [.int x6, .int x1, .int x2, .int x3]) (rest := []) rfl (by decide) (by decide) rfl rfl (Nat.le_of_ble_eq_true rfl) ?_
    refine eb_Ct.mono w ?_
    rintro r h2 ⟨y3, rfl, ko4, w⟩
    change eb_Sn _ _ _ 22 _ [.int y3] _ _
    refine eb_if_eq (pc := 22) (tgt := 37) rfl (by decide) (fun c5 => ?_) (fun c5 => ?_)
    · replace w := w.1 c5
      refine eb_iinc (pc := 37) (i := 6) (n := 1) (v := x6 + 1) (ls2 := [(6, .int (x6 + 1)), (0, .ref s_flights), (1, .int x1), (2, .int x2), (3, .int x3), (4, .long x4)]) (Nat.le_of_ble_eq_true rfl) rfl rfl rfl rfl ?_
      refine eb_goto (pc := 40) (tgt := 6) rfl (by decide) ?_
      exact eb_pick [1, 2, 3, 4, 5, 0] rfl w
    · replace w := w.2 c5
      refine eb_lload (pc := 25) (i := 4) rfl rfl ?_
      refine eb_aload_n (pc := 27) (n := 0) (i := 0) rfl rfl rfl ?_
      obtain ⟨r6, q7, k8, w⟩ := w
      refine eb_getR (pc := 28) rfl rfl (by decide) (by decide) rfl q7 ?_
      refine eb_iload (pc := 31) (i := 6) rfl rfl ?_
      obtain ⟨c9, w⟩ := w
      refine eb_laload (pc := 33) rfl k8 c9 ?_
      refine eb_ladd (pc := 34) rfl ?_
      refine eb_lstore (pc := 35) (i := 4) (ls2 := [(4, .long (x4 + (eb_J h2 r6 x6.toNatClampNeg))), (0, .ref s_flights), (1, .int x1), (2, .int x2), (3, .int x3), (6, .int x6)]) (Nat.le_of_ble_eq_true rfl) rfl rfl ?_
      refine eb_iinc (pc := 37) (i := 6) (n := 1) (v := x6 + 1) (ls2 := [(6, .int (x6 + 1)), (4, .long (x4 + (eb_J h2 r6 x6.toNatClampNeg))), (0, .ref s_flights), (1, .int x1), (2, .int x2), (3, .int x3)]) (Nat.le_of_ble_eq_true rfl) rfl rfl rfl rfl ?_
      refine eb_goto (pc := 40) (tgt := 6) rfl (by decide) ?_
      exact eb_pick [2, 3, 4, 5, 1, 0] rfl w
theorem T_X1_amountOf {d : Nat} {h : eb_H} {Q : Option Value → eb_H → Prop} (x1 : Int32) (x2 : Int32) (x3 : Int32)  (ko : eb_KO h) (w : eb_Sn (d + 1) m_X1_amountOf h 6 [(0, .ref s_flights), (1, .int x1), (2, .int x2), (3, .int x3), (4, .long 0), (6, .int 0)] [] h Q) : eb_Ct (d + 1) 22 [.ref s_flights, .int x1, .int x2, .int x3] h Q :=
  eb_bodyQ (by decide) ok_X1_amountOf (Nat.le_of_ble_eq_true rfl) (b_X1_amountOf_0 (h0 := h) x1 x2 x3  ko w)
theorem b_X1_echoesInAll_0 {d : Nat} {h0 h : eb_H} {Q : Option Value → eb_H → Prop}   (ko : eb_KO h) (w : eb_Sn (d + 1) m_X1_echoesInAll h0 4 [(0, .ref s_flights), (1, .long 0), (3, .int 0)] [] h Q) : eb_Sn (d + 1) m_X1_echoesInAll h0 0 [(0, .ref s_flights)] [] h Q := by
  refine eb_lconst (pc := 0) (n := 0) (v := 0) rfl rfl ?_
  refine eb_lstore_n (pc := 1) (n := 1) (i := 1) (ls2 := [(1, .long 0), (0, .ref s_flights)]) rfl (Nat.le_of_ble_eq_true rfl) rfl rfl ?_
  refine eb_iconst (pc := 2) (n := 0) (v := 0) rfl rfl ?_
  refine eb_istore_n (pc := 3) (n := 3) (i := 3) (ls2 := [(3, .int 0), (1, .long 0), (0, .ref s_flights)]) rfl (Nat.le_of_ble_eq_true rfl) rfl rfl ?_
  exact eb_pick [2, 1, 0] rfl w
theorem b_X1_echoesInAll_4 {d : Nat} {h0 h : eb_H} {Q : Option Value → eb_H → Prop} (x1 : Int64) (x3 : Int32)  (ko : eb_KO h) (w : (((1024 : Int32) ≤ x3 → Q (some (.long x1)) h) ∧ (¬ ((1024 : Int32) ≤ x3) → ∃ r2, eb_R h s_flights 10 = some r2 ∧ eb_kd r2 = 14 ∧ (vp_in x3 (eb_ln r2)) ∧ eb_Ct d 6 [.int x3] h (fun r h6 => ∃ y7, r = some (.int y7) ∧ eb_KO h6 ∧ eb_Ct d 283 [.int y7] h6 (fun r h9 => ∃ y10, r = some (.int y10) ∧ eb_KO h9 ∧ eb_Sn (d + 1) m_X1_echoesInAll h0 4 [(0, .ref s_flights), (1, .long (x1 + ((eb_J h r2 x3.toNatClampNeg) * y10.toInt64))), (3, .int (x3 + 1))] [] h9 Q))))) : eb_Sn (d + 1) m_X1_echoesInAll h0 4 [(0, .ref s_flights), (1, .long x1), (3, .int x3)] [] h Q := by
  refine eb_iload_n (pc := 4) (n := 3) (i := 3) rfl rfl rfl ?_
  refine eb_sipush (pc := 5) (n := 1024) (v := 1024) rfl rfl ?_
  refine eb_icmp_ge (pc := 8) (tgt := 35) rfl (by decide) (fun c1 => ?_) (fun c1 => ?_)
  · replace w := w.1 c1
    refine eb_lload_n (pc := 35) (n := 1) (i := 1) rfl rfl rfl ?_
    exact eb_lreturn (pc := 36) rfl rfl w
  · replace w := w.2 c1
    refine eb_lload_n (pc := 11) (n := 1) (i := 1) rfl rfl rfl ?_
    refine eb_aload_n (pc := 12) (n := 0) (i := 0) rfl rfl rfl ?_
    obtain ⟨r2, q3, k4, w⟩ := w
    refine eb_getR (pc := 13) rfl rfl (by decide) (by decide) rfl q3 ?_
    refine eb_iload_n (pc := 16) (n := 3) (i := 3) rfl rfl rfl ?_
    obtain ⟨c5, w⟩ := w
    refine eb_laload (pc := 17) rfl k4 c5 ?_
    refine eb_iload_n (pc := 18) (n := 3) (i := 3) rfl rfl rfl ?_
    refine eb_ctS (pc := 19) (As := [.int x3]) (rest := [.long (eb_J h r2 x3.toNatClampNeg), .long x1]) rfl (by decide) (by decide) rfl rfl (Nat.le_of_ble_eq_true rfl) ?_
    refine eb_Ct.mono w ?_
    rintro r h6 ⟨y7, rfl, ko8, w⟩
    change eb_Sn _ _ _ 22 _ [.int y7, .long (eb_J h r2 x3.toNatClampNeg), .long x1] _ _
    refine eb_ctS (pc := 22) (As := [.int y7]) (rest := [.long (eb_J h r2 x3.toNatClampNeg), .long x1]) rfl (by decide) (by decide) rfl rfl (Nat.le_of_ble_eq_true rfl) ?_
    refine eb_Ct.mono w ?_
    rintro r h9 ⟨y10, rfl, ko11, w⟩
    change eb_Sn _ _ _ 25 _ [.int y10, .long (eb_J h r2 x3.toNatClampNeg), .long x1] _ _
    refine eb_i2l (pc := 25) rfl ?_
    refine eb_lmul (pc := 26) rfl ?_
    refine eb_ladd (pc := 27) rfl ?_
    refine eb_lstore_n (pc := 28) (n := 1) (i := 1) (ls2 := [(1, .long (x1 + ((eb_J h r2 x3.toNatClampNeg) * y10.toInt64))), (0, .ref s_flights), (3, .int x3)]) rfl (Nat.le_of_ble_eq_true rfl) rfl rfl ?_
    refine eb_iinc (pc := 29) (i := 3) (n := 1) (v := x3 + 1) (ls2 := [(3, .int (x3 + 1)), (1, .long (x1 + ((eb_J h r2 x3.toNatClampNeg) * y10.toInt64))), (0, .ref s_flights)]) (Nat.le_of_ble_eq_true rfl) rfl rfl rfl rfl ?_
    refine eb_goto (pc := 32) (tgt := 4) rfl (by decide) ?_
    exact eb_pick [2, 1, 0] rfl w
theorem T_X1_echoesInAll {d : Nat} {h : eb_H} {Q : Option Value → eb_H → Prop}   (ko : eb_KO h) (w : eb_Sn (d + 1) m_X1_echoesInAll h 4 [(0, .ref s_flights), (1, .long 0), (3, .int 0)] [] h Q) : eb_Ct (d + 1) 23 [.ref s_flights] h Q :=
  eb_bodyQ (by decide) ok_X1_echoesInAll (Nat.le_of_ble_eq_true rfl) (b_X1_echoesInAll_0 (h0 := h)   ko w)
theorem b_X2_init_0 {d : Nat} {h0 h : eb_H} {Q : Option Value → eb_H → Prop} (a0 : Nat) (a1 : Nat) (ka0 : eb_kd a0 = 2) (ka1 : eb_kd a1 = 13) (w : ∀ r3, r3 = eb_nx h 13 32 → ∀ h1, h1 = eb_nw h 13 32 32 → ∀ h5, h5 = eb_sR h1 a0 1 (some r3) → ∀ r9, r9 = eb_nx h5 13 6 → ∀ h7, h7 = eb_nw h5 13 6 6 → ∀ h11, h11 = eb_sR h7 a0 2 (some r9) → ∀ h13, h13 = eb_sR h11 a0 0 (some a1) → Q none h13) : eb_Sn (d + 1) m_X2_init h0 0 [(0, .ref a0), (1, .ref a1)] [] h Q := by
  refine eb_aload_n (pc := 0) (n := 0) (i := 0) rfl rfl rfl ?_
  refine eb_objInit (pc := 1) rfl (by decide +kernel) (by omega) (Nat.le_of_ble_eq_true rfl) ?_
  refine eb_aload_n (pc := 4) (n := 0) (i := 0) rfl rfl rfl ?_
  refine eb_bipush (pc := 5) (n := 32) (v := 32) rfl rfl ?_
  refine eb_newI (pc := 7) (kd := 13) (len := 32) rfl rfl (by decide) (by decide) rfl (by decide) ?_
  obtain ⟨r3, e4⟩ : ∃ z, z = eb_nx h 13 32 := ⟨_, rfl⟩
  rw [← e4]
  replace w := w r3 e4
  obtain ⟨h1, e2⟩ : ∃ z, z = eb_nw h 13 32 32 := ⟨_, rfl⟩
  rw [← e2]
  replace w := w h1 e2
  refine eb_putR (pc := 9) rfl ka0 (by decide) (by decide) rfl (Or.inr ⟨rfl, rfl, rfl⟩) (eb_k20 (c := 13) (by rw [e4]; exact eb_mk_kd (by decide)) (by decide)) ?_
  obtain ⟨h5, e6⟩ : ∃ z, z = eb_sR h1 a0 1 (some r3) := ⟨_, rfl⟩
  rw [← e6]
  replace w := w h5 e6
  refine eb_aload_n (pc := 12) (n := 0) (i := 0) rfl rfl rfl ?_
  refine eb_bipush (pc := 13) (n := 6) (v := 6) rfl rfl ?_
  refine eb_newI (pc := 15) (kd := 13) (len := 6) rfl rfl (by decide) (by decide) rfl (by decide) ?_
  obtain ⟨r9, e10⟩ : ∃ z, z = eb_nx h5 13 6 := ⟨_, rfl⟩
  rw [← e10]
  replace w := w r9 e10
  obtain ⟨h7, e8⟩ : ∃ z, z = eb_nw h5 13 6 6 := ⟨_, rfl⟩
  rw [← e8]
  replace w := w h7 e8
  refine eb_putR (pc := 17) rfl ka0 (by decide) (by decide) rfl (Or.inr ⟨rfl, rfl, rfl⟩) (eb_k20 (c := 13) (by rw [e10]; exact eb_mk_kd (by decide)) (by decide)) ?_
  obtain ⟨h11, e12⟩ : ∃ z, z = eb_sR h7 a0 2 (some r9) := ⟨_, rfl⟩
  rw [← e12]
  replace w := w h11 e12
  refine eb_aload_n (pc := 20) (n := 0) (i := 0) rfl rfl rfl ?_
  refine eb_aload_n (pc := 21) (n := 1) (i := 1) rfl rfl rfl ?_
  refine eb_putR (pc := 22) rfl ka0 (by decide) (by decide) rfl (Or.inr ⟨rfl, rfl, rfl⟩) (eb_k20 (c := 13) ka1 (by decide)) ?_
  obtain ⟨h13, e14⟩ : ∃ z, z = eb_sR h11 a0 0 (some a1) := ⟨_, rfl⟩
  rw [← e14]
  replace w := w h13 e14
  exact eb_return (pc := 25) rfl rfl w
theorem T_X2_init {d : Nat} {h : eb_H} {Q : Option Value → eb_H → Prop} (a0 : Nat) (a1 : Nat) (ka0 : eb_kd a0 = 2) (ka1 : eb_kd a1 = 13) (w : ∀ r3, r3 = eb_nx h 13 32 → ∀ h1, h1 = eb_nw h 13 32 32 → ∀ h5, h5 = eb_sR h1 a0 1 (some r3) → ∀ r9, r9 = eb_nx h5 13 6 → ∀ h7, h7 = eb_nw h5 13 6 6 → ∀ h11, h11 = eb_sR h7 a0 2 (some r9) → ∀ h13, h13 = eb_sR h11 a0 0 (some a1) → Q none h13) : eb_Ct (d + 1) 24 [.ref a0, .ref a1] h Q :=
  eb_bodyQ (by decide) ok_X2_init (Nat.le_of_ble_eq_true rfl) (b_X2_init_0 (h0 := h) a0 a1 ka0 ka1 w)
theorem b_X2_holds_0 {d : Nat} {h0 h : eb_H} {Q : Option Value → eb_H → Prop} (a0 : Nat) (x1 : Int32) (x2 : Int32) (x3 : Int32) (x4 : Int32) (x5 : Int32) (x6 : Int32) (ka0 : eb_kd a0 = 2) (ko : eb_KO h) (w : ∃ r1, eb_R h a0 2 = some r1 ∧ eb_kd r1 = 13 ∧ (vp_in (0 : Int32) (eb_ln r1)) ∧ (vp_in (1 : Int32) (eb_ln r1)) ∧ (vp_in (2 : Int32) (eb_ln r1)) ∧ (vp_in (3 : Int32) (eb_ln r1)) ∧ (vp_in (4 : Int32) (eb_ln r1)) ∧ (vp_in (5 : Int32) (eb_ln r1)) ∧ eb_Sn (d + 1) m_X2_holds h0 51 [(0, .ref a0), (7, .int 0), (8, .int 0)] [] (eb_sI (eb_sI (eb_sI (eb_sI (eb_sI (eb_sI h r1 (0 : Int32).toNatClampNeg x1) r1 (1 : Int32).toNatClampNeg x2) r1 (2 : Int32).toNatClampNeg x3) r1 (3 : Int32).toNatClampNeg x4) r1 (4 : Int32).toNatClampNeg x5) r1 (5 : Int32).toNatClampNeg x6) Q) : eb_Sn (d + 1) m_X2_holds h0 0 [(0, .ref a0), (1, .int x1), (2, .int x2), (3, .int x3), (4, .int x4), (5, .int x5), (6, .int x6)] [] h Q := by
  refine eb_aload_n (pc := 0) (n := 0) (i := 0) rfl rfl rfl ?_
  obtain ⟨r1, q2, k3, w⟩ := w
  refine eb_getR (pc := 1) rfl ka0 (by decide) (by decide) rfl q2 ?_
  refine eb_iconst (pc := 4) (n := 0) (v := 0) rfl rfl ?_
  refine eb_iload_n (pc := 5) (n := 1) (i := 1) rfl rfl rfl ?_
  obtain ⟨c4, w⟩ := w
  refine eb_iastore (pc := 6) rfl k3 c4 ?_
  refine eb_aload_n (pc := 7) (n := 0) (i := 0) rfl rfl rfl ?_
  refine eb_getR (pc := 8) rfl ka0 (by decide) (by decide) rfl q2 ?_
  refine eb_iconst (pc := 11) (n := 1) (v := 1) rfl rfl ?_
  refine eb_iload_n (pc := 12) (n := 2) (i := 2) rfl rfl rfl ?_
  obtain ⟨c5, w⟩ := w
  refine eb_iastore (pc := 13) rfl k3 c5 ?_
  refine eb_aload_n (pc := 14) (n := 0) (i := 0) rfl rfl rfl ?_
  refine eb_getR (pc := 15) rfl ka0 (by decide) (by decide) rfl q2 ?_
  refine eb_iconst (pc := 18) (n := 2) (v := 2) rfl rfl ?_
  refine eb_iload_n (pc := 19) (n := 3) (i := 3) rfl rfl rfl ?_
  obtain ⟨c6, w⟩ := w
  refine eb_iastore (pc := 20) rfl k3 c6 ?_
  refine eb_aload_n (pc := 21) (n := 0) (i := 0) rfl rfl rfl ?_
  refine eb_getR (pc := 22) rfl ka0 (by decide) (by decide) rfl q2 ?_
  refine eb_iconst (pc := 25) (n := 3) (v := 3) rfl rfl ?_
  refine eb_iload (pc := 26) (i := 4) rfl rfl ?_
  obtain ⟨c7, w⟩ := w
  refine eb_iastore (pc := 28) rfl k3 c7 ?_
  refine eb_aload_n (pc := 29) (n := 0) (i := 0) rfl rfl rfl ?_
  refine eb_getR (pc := 30) rfl ka0 (by decide) (by decide) rfl q2 ?_
  refine eb_iconst (pc := 33) (n := 4) (v := 4) rfl rfl ?_
  refine eb_iload (pc := 34) (i := 5) rfl rfl ?_
  obtain ⟨c8, w⟩ := w
  refine eb_iastore (pc := 36) rfl k3 c8 ?_
  refine eb_aload_n (pc := 37) (n := 0) (i := 0) rfl rfl rfl ?_
  refine eb_getR (pc := 38) rfl ka0 (by decide) (by decide) rfl q2 ?_
  refine eb_iconst (pc := 41) (n := 5) (v := 5) rfl rfl ?_
  refine eb_iload (pc := 42) (i := 6) rfl rfl ?_
  obtain ⟨c9, w⟩ := w
  refine eb_iastore (pc := 44) rfl k3 c9 ?_
  refine eb_iconst (pc := 45) (n := 0) (v := 0) rfl rfl ?_
  refine eb_istore (pc := 46) (i := 7) (ls2 := [(7, .int 0), (0, .ref a0), (1, .int x1), (2, .int x2), (3, .int x3), (4, .int x4), (5, .int x5), (6, .int x6)]) (Nat.le_of_ble_eq_true rfl) rfl rfl ?_
  refine eb_iconst (pc := 48) (n := 0) (v := 0) rfl rfl ?_
  refine eb_istore (pc := 49) (i := 8) (ls2 := [(8, .int 0), (7, .int 0), (0, .ref a0), (1, .int x1), (2, .int x2), (3, .int x3), (4, .int x4), (5, .int x5), (6, .int x6)]) (Nat.le_of_ble_eq_true rfl) rfl rfl ?_
  exact eb_pick [2, 1, 0] rfl w
theorem b_X2_holds_51 {d : Nat} {h0 h : eb_H} {Q : Option Value → eb_H → Prop} (a0 : Nat) (x7 : Int32) (x8 : Int32) (ka0 : eb_kd a0 = 2) (ko : eb_KO h) (w : ∃ r1, eb_R h a0 0 = some r1 ∧ eb_kd r1 = 13 ∧ (((Int32.ofNat (eb_ln r1)) ≤ x8 → ((x7 ≤ 0 → Q (some (.int 0)) h) ∧ (¬ (x7 ≤ 0) → ∃ r6, eb_R h a0 1 = some r6 ∧ eb_kd r6 = 13 ∧ (vp_in (0 : Int32) (eb_ln r6)) ∧ Q (some (.int (if (eb_I h r6 (0 : Int32).toNatClampNeg) = 0 then 0 else 1 : Int32))) h))) ∧ (¬ ((Int32.ofNat (eb_ln r1)) ≤ x8) → (vp_in x8 (eb_ln r1)) ∧ ((x7 < (if (1005 : Int32) < (eb_I h r1 x8.toNatClampNeg) then (if (eb_I h r1 x8.toNatClampNeg) = (1040 : Int32) then 1 else 2) else 0 : Int32) → Q (some (.int 0)) h) ∧ (¬ (x7 < (if (1005 : Int32) < (eb_I h r1 x8.toNatClampNeg) then (if (eb_I h r1 x8.toNatClampNeg) = (1040 : Int32) then 1 else 2) else 0 : Int32)) → ∃ r16, eb_R h a0 1 = some r16 ∧ eb_kd r16 = 13 ∧ (((x7 - (if (1005 : Int32) < (eb_I h r1 x8.toNatClampNeg) then (if (eb_I h r1 x8.toNatClampNeg) = (1040 : Int32) then 1 else 2) else 0 : Int32)) < (Int32.ofNat (eb_ln r16)) → ((¬ (if (1005 : Int32) < (eb_I h r1 x8.toNatClampNeg) then (if (eb_I h r1 x8.toNatClampNeg) = (1040 : Int32) then 1 else 2) else 0 : Int32) = 0 → (vp_in (x7 - 1) (eb_ln r16)) ∧ ((¬ (if (1005 : Int32) < (eb_I h r1 x8.toNatClampNeg) then (if (eb_I h r1 x8.toNatClampNeg) = (1040 : Int32) then 1 else 2) else 0 : Int32) = (2 : Int32) → eb_Ct d 26 [.ref a0, .int (eb_I h r1 x8.toNatClampNeg), .int 0, .int (eb_I h r16 (x7 - 1).toNatClampNeg)] h (fun r h23 => ∃ y24, r = some (.int y24) ∧ eb_KO h23 ∧ (vp_in (x7 - (if (1005 : Int32) < (eb_I h r1 x8.toNatClampNeg) then (if (eb_I h r1 x8.toNatClampNeg) = (1040 : Int32) then 1 else 2) else 0 : Int32)) (eb_ln r16)) ∧ eb_Sn (d + 1) m_X2_holds h0 51 [(0, .ref a0), (7, .int ((x7 - (if (1005 : Int32) < (eb_I h r1 x8.toNatClampNeg) then (if (eb_I h r1 x8.toNatClampNeg) = (1040 : Int32) then 1 else 2) else 0 : Int32)) + 1)), (8, .int (x8 + 1))] [] (eb_sI h23 r16 (x7 - (if (1005 : Int32) < (eb_I h r1 x8.toNatClampNeg) then (if (eb_I h r1 x8.toNatClampNeg) = (1040 : Int32) then 1 else 2) else 0 : Int32)).toNatClampNeg y24) Q)) ∧ ((if (1005 : Int32) < (eb_I h r1 x8.toNatClampNeg) then (if (eb_I h r1 x8.toNatClampNeg) = (1040 : Int32) then 1 else 2) else 0 : Int32) = (2 : Int32) → (vp_in (x7 - (if (1005 : Int32) < (eb_I h r1 x8.toNatClampNeg) then (if (eb_I h r1 x8.toNatClampNeg) = (1040 : Int32) then 1 else 2) else 0 : Int32)) (eb_ln r16)) ∧ eb_Ct d 26 [.ref a0, .int (eb_I h r1 x8.toNatClampNeg), .int (eb_I h r16 (x7 - (if (1005 : Int32) < (eb_I h r1 x8.toNatClampNeg) then (if (eb_I h r1 x8.toNatClampNeg) = (1040 : Int32) then 1 else 2) else 0 : Int32)).toNatClampNeg), .int (eb_I h r16 (x7 - 1).toNatClampNeg)] h (fun r h28 => ∃ y29, r = some (.int y29) ∧ eb_KO h28 ∧ (vp_in (x7 - (if (1005 : Int32) < (eb_I h r1 x8.toNatClampNeg) then (if (eb_I h r1 x8.toNatClampNeg) = (1040 : Int32) then 1 else 2) else 0 : Int32)) (eb_ln r16)) ∧ eb_Sn (d + 1) m_X2_holds h0 51 [(0, .ref a0), (7, .int ((x7 - (if (1005 : Int32) < (eb_I h r1 x8.toNatClampNeg) then (if (eb_I h r1 x8.toNatClampNeg) = (1040 : Int32) then 1 else 2) else 0 : Int32)) + 1)), (8, .int (x8 + 1))] [] (eb_sI h28 r16 (x7 - (if (1005 : Int32) < (eb_I h r1 x8.toNatClampNeg) then (if (eb_I h r1 x8.toNatClampNeg) = (1040 : Int32) then 1 else 2) else 0 : Int32)).toNatClampNeg y29) Q)))) ∧ ((if (1005 : Int32) < (eb_I h r1 x8.toNatClampNeg) then (if (eb_I h r1 x8.toNatClampNeg) = (1040 : Int32) then 1 else 2) else 0 : Int32) = 0 → ((¬ (if (1005 : Int32) < (eb_I h r1 x8.toNatClampNeg) then (if (eb_I h r1 x8.toNatClampNeg) = (1040 : Int32) then 1 else 2) else 0 : Int32) = (2 : Int32) → eb_Ct d 26 [.ref a0, .int (eb_I h r1 x8.toNatClampNeg), .int 0, .int 0] h (fun r h33 => ∃ y34, r = some (.int y34) ∧ eb_KO h33 ∧ (vp_in (x7 - (if (1005 : Int32) < (eb_I h r1 x8.toNatClampNeg) then (if (eb_I h r1 x8.toNatClampNeg) = (1040 : Int32) then 1 else 2) else 0 : Int32)) (eb_ln r16)) ∧ eb_Sn (d + 1) m_X2_holds h0 51 [(0, .ref a0), (7, .int ((x7 - (if (1005 : Int32) < (eb_I h r1 x8.toNatClampNeg) then (if (eb_I h r1 x8.toNatClampNeg) = (1040 : Int32) then 1 else 2) else 0 : Int32)) + 1)), (8, .int (x8 + 1))] [] (eb_sI h33 r16 (x7 - (if (1005 : Int32) < (eb_I h r1 x8.toNatClampNeg) then (if (eb_I h r1 x8.toNatClampNeg) = (1040 : Int32) then 1 else 2) else 0 : Int32)).toNatClampNeg y34) Q)) ∧ ((if (1005 : Int32) < (eb_I h r1 x8.toNatClampNeg) then (if (eb_I h r1 x8.toNatClampNeg) = (1040 : Int32) then 1 else 2) else 0 : Int32) = (2 : Int32) → (vp_in (x7 - (if (1005 : Int32) < (eb_I h r1 x8.toNatClampNeg) then (if (eb_I h r1 x8.toNatClampNeg) = (1040 : Int32) then 1 else 2) else 0 : Int32)) (eb_ln r16)) ∧ eb_Ct d 26 [.ref a0, .int (eb_I h r1 x8.toNatClampNeg), .int (eb_I h r16 (x7 - (if (1005 : Int32) < (eb_I h r1 x8.toNatClampNeg) then (if (eb_I h r1 x8.toNatClampNeg) = (1040 : Int32) then 1 else 2) else 0 : Int32)).toNatClampNeg), .int 0] h (fun r h38 => ∃ y39, r = some (.int y39) ∧ eb_KO h38 ∧ (vp_in (x7 - (if (1005 : Int32) < (eb_I h r1 x8.toNatClampNeg) then (if (eb_I h r1 x8.toNatClampNeg) = (1040 : Int32) then 1 else 2) else 0 : Int32)) (eb_ln r16)) ∧ eb_Sn (d + 1) m_X2_holds h0 51 [(0, .ref a0), (7, .int ((x7 - (if (1005 : Int32) < (eb_I h r1 x8.toNatClampNeg) then (if (eb_I h r1 x8.toNatClampNeg) = (1040 : Int32) then 1 else 2) else 0 : Int32)) + 1)), (8, .int (x8 + 1))] [] (eb_sI h38 r16 (x7 - (if (1005 : Int32) < (eb_I h r1 x8.toNatClampNeg) then (if (eb_I h r1 x8.toNatClampNeg) = (1040 : Int32) then 1 else 2) else 0 : Int32)).toNatClampNeg y39) Q)))))) ∧ (¬ ((x7 - (if (1005 : Int32) < (eb_I h r1 x8.toNatClampNeg) then (if (eb_I h r1 x8.toNatClampNeg) = (1040 : Int32) then 1 else 2) else 0 : Int32)) < (Int32.ofNat (eb_ln r16))) → Q (some (.int 0)) h))))))) : eb_Sn (d + 1) m_X2_holds h0 51 [(0, .ref a0), (7, .int x7), (8, .int x8)] [] h Q := by
  refine eb_iload (pc := 51) (i := 8) rfl rfl ?_
  refine eb_aload_n (pc := 53) (n := 0) (i := 0) rfl rfl rfl ?_
  obtain ⟨r1, q2, k3, w⟩ := w
  refine eb_getR (pc := 54) rfl ka0 (by decide) (by decide) rfl q2 ?_
  refine eb_alen (pc := 57) rfl (by rw [k3]; decide) (by rw [k3]; decide) rfl ?_
  refine eb_icmp_ge (pc := 58) (tgt := 187) rfl (by decide) (fun c4 => ?_) (fun c4 => ?_)
  · replace w := w.1 c4
    refine eb_iload (pc := 187) (i := 7) rfl rfl ?_
    refine eb_if_le (pc := 189) (tgt := 205) rfl (by decide) (fun c5 => ?_) (fun c5 => ?_)
    · replace w := w.1 c5
      refine eb_iconst (pc := 205) (n := 0) (v := 0) rfl rfl ?_
      exact eb_ireturn (pc := 206) rfl rfl (by decide) w
    · replace w := w.2 c5
      refine eb_aload_n (pc := 192) (n := 0) (i := 0) rfl rfl rfl ?_
      obtain ⟨r6, q7, k8, w⟩ := w
      refine eb_getR (pc := 193) rfl ka0 (by decide) (by decide) rfl q7 ?_
      refine eb_iconst (pc := 196) (n := 0) (v := 0) rfl rfl ?_
      obtain ⟨c9, w⟩ := w
      refine eb_iaload (pc := 197) rfl k8 c9 ?_
      have jj11 : eb_Sn (d + 1) m_X2_holds h0 206 [(0, .ref a0), (7, .int x7), (8, .int x8)] [.int (if (eb_I h r6 (0 : Int32).toNatClampNeg) = 0 then 0 else 1 : Int32)] h Q := by
        exact eb_ireturn (pc := 206) rfl rfl (by (repeat' split) <;> rfl) w
      refine eb_if_eq (pc := 198) (tgt := 205) rfl (by decide) (fun c10 => ?_) (fun c10 => ?_)
      · refine eb_iconst (pc := 205) (n := 0) (v := 0) rfl rfl ?_
        simp only [if_pos c10] at jj11 ⊢
        exact jj11
      · refine eb_iconst (pc := 201) (n := 1) (v := 1) rfl rfl ?_
        refine eb_goto (pc := 202) (tgt := 206) rfl (by decide) ?_
        simp only [if_neg c10] at jj11 ⊢
        exact jj11
  · replace w := w.2 c4
    refine eb_aload_n (pc := 61) (n := 0) (i := 0) rfl rfl rfl ?_
    refine eb_getR (pc := 62) rfl ka0 (by decide) (by decide) rfl q2 ?_
    refine eb_iload (pc := 65) (i := 8) rfl rfl ?_
    obtain ⟨c12, w⟩ := w
    refine eb_iaload (pc := 67) rfl k3 c12 ?_
    refine eb_istore (pc := 68) (i := 9) (ls2 := [(9, .int (eb_I h r1 x8.toNatClampNeg)), (0, .ref a0), (7, .int x7), (8, .int x8)]) (Nat.le_of_ble_eq_true rfl) rfl rfl ?_
    refine eb_iload (pc := 70) (i := 9) rfl rfl ?_
    refine eb_sipush (pc := 72) (n := 1005) (v := 1005) rfl rfl ?_
    have jj42 : eb_Sn (d + 1) m_X2_holds h0 95 [(9, .int (eb_I h r1 x8.toNatClampNeg)), (0, .ref a0), (7, .int x7), (8, .int x8)] [.int (if (1005 : Int32) < (eb_I h r1 x8.toNatClampNeg) then (if (eb_I h r1 x8.toNatClampNeg) = (1040 : Int32) then 1 else 2) else 0 : Int32)] h Q := by
      refine eb_istore (pc := 95) (i := 10) (ls2 := [(10, .int (if (1005 : Int32) < (eb_I h r1 x8.toNatClampNeg) then (if (eb_I h r1 x8.toNatClampNeg) = (1040 : Int32) then 1 else 2) else 0 : Int32)), (9, .int (eb_I h r1 x8.toNatClampNeg)), (0, .ref a0), (7, .int x7), (8, .int x8)]) (Nat.le_of_ble_eq_true rfl) rfl rfl ?_
      refine eb_iload (pc := 97) (i := 7) rfl rfl ?_
      refine eb_iload (pc := 99) (i := 10) rfl rfl ?_
      refine eb_icmp_lt (pc := 101) (tgt := 117) rfl (by decide) (fun c15 => ?_) (fun c15 => ?_)
      · replace w := w.1 c15
        refine eb_iconst (pc := 117) (n := 0) (v := 0) rfl rfl ?_
        exact eb_ireturn (pc := 118) rfl rfl (by decide) w
      · replace w := w.2 c15
        refine eb_iload (pc := 104) (i := 7) rfl rfl ?_
        refine eb_iload (pc := 106) (i := 10) rfl rfl ?_
        refine eb_isub (pc := 108) rfl ?_
        refine eb_aload_n (pc := 109) (n := 0) (i := 0) rfl rfl rfl ?_
        obtain ⟨r16, q17, k18, w⟩ := w
        refine eb_getR (pc := 110) rfl ka0 (by decide) (by decide) rfl q17 ?_
        refine eb_alen (pc := 113) rfl (by rw [k18]; decide) (by rw [k18]; decide) rfl ?_
        refine eb_icmp_lt (pc := 114) (tgt := 119) rfl (by decide) (fun c19 => ?_) (fun c19 => ?_)
        · replace w := w.1 c19
          refine eb_iload (pc := 119) (i := 10) rfl rfl ?_
          refine eb_if_ne (pc := 121) (tgt := 128) rfl (by decide) (fun c20 => ?_) (fun c20 => ?_)
          · replace w := w.1 c20
            refine eb_aload_n (pc := 128) (n := 0) (i := 0) rfl rfl rfl ?_
            refine eb_getR (pc := 129) rfl ka0 (by decide) (by decide) rfl q17 ?_
            refine eb_iload (pc := 132) (i := 7) rfl rfl ?_
            refine eb_iconst (pc := 134) (n := 1) (v := 1) rfl rfl ?_
            refine eb_isub (pc := 135) rfl ?_
            obtain ⟨c21, w⟩ := w
            refine eb_iaload (pc := 136) rfl k18 c21 ?_
            refine eb_istore (pc := 137) (i := 11) (ls2 := [(11, .int (eb_I h r16 (x7 - 1).toNatClampNeg)), (10, .int (if (1005 : Int32) < (eb_I h r1 x8.toNatClampNeg) then (if (eb_I h r1 x8.toNatClampNeg) = (1040 : Int32) then 1 else 2) else 0 : Int32)), (9, .int (eb_I h r1 x8.toNatClampNeg)), (0, .ref a0), (7, .int x7), (8, .int x8)]) (Nat.le_of_ble_eq_true rfl) rfl rfl ?_
            refine eb_iload (pc := 139) (i := 7) rfl rfl ?_
            refine eb_iload (pc := 141) (i := 10) rfl rfl ?_
            refine eb_isub (pc := 143) rfl ?_
            refine eb_istore (pc := 144) (i := 7) (ls2 := [(7, .int (x7 - (if (1005 : Int32) < (eb_I h r1 x8.toNatClampNeg) then (if (eb_I h r1 x8.toNatClampNeg) = (1040 : Int32) then 1 else 2) else 0 : Int32))), (11, .int (eb_I h r16 (x7 - 1).toNatClampNeg)), (10, .int (if (1005 : Int32) < (eb_I h r1 x8.toNatClampNeg) then (if (eb_I h r1 x8.toNatClampNeg) = (1040 : Int32) then 1 else 2) else 0 : Int32)), (9, .int (eb_I h r1 x8.toNatClampNeg)), (0, .ref a0), (8, .int x8)]) (Nat.le_of_ble_eq_true rfl) rfl rfl ?_
            refine eb_aload_n (pc := 146) (n := 0) (i := 0) rfl rfl rfl ?_
            refine eb_getR (pc := 147) rfl ka0 (by decide) (by decide) rfl q17 ?_
            refine eb_iload (pc := 150) (i := 7) rfl rfl ?_
            refine eb_aload_n (pc := 152) (n := 0) (i := 0) rfl rfl rfl ?_
            refine eb_iload (pc := 153) (i := 9) rfl rfl ?_
            refine eb_iload (pc := 155) (i := 10) rfl rfl ?_
            refine eb_iconst (pc := 157) (n := 2) (v := 2) rfl rfl ?_
            refine eb_icmp_ne (pc := 158) (tgt := 171) rfl (by decide) (fun c22 => ?_) (fun c22 => ?_)
            · replace w := w.1 c22
              refine eb_iconst (pc := 171) (n := 0) (v := 0) rfl rfl ?_
              refine eb_iload (pc := 172) (i := 11) rfl rfl ?_
              refine eb_ctV (pc := 174) (As := [.int (eb_I h r1 x8.toNatClampNeg), .int 0, .int (eb_I h r16 (x7 - 1).toNatClampNeg)]) (rest := [.int (x7 - (if (1005 : Int32) < (eb_I h r1 x8.toNatClampNeg) then (if (eb_I h r1 x8.toNatClampNeg) = (1040 : Int32) then 1 else 2) else 0 : Int32)), .ref r16]) rfl (by decide) rfl ka0 (by decide) rfl (Nat.le_of_ble_eq_true rfl) ?_
              refine eb_Ct.mono w ?_
              rintro r h23 ⟨y24, rfl, ko25, w⟩
              change eb_Sn _ _ _ 177 _ [.int y24, .int (x7 - (if (1005 : Int32) < (eb_I h r1 x8.toNatClampNeg) then (if (eb_I h r1 x8.toNatClampNeg) = (1040 : Int32) then 1 else 2) else 0 : Int32)), .ref r16] _ _
              obtain ⟨c26, w⟩ := w
              refine eb_iastore (pc := 177) rfl k18 c26 ?_
              refine eb_iinc (pc := 178) (i := 7) (n := 1) (v := (x7 - (if (1005 : Int32) < (eb_I h r1 x8.toNatClampNeg) then (if (eb_I h r1 x8.toNatClampNeg) = (1040 : Int32) then 1 else 2) else 0 : Int32)) + 1) (ls2 := [(7, .int ((x7 - (if (1005 : Int32) < (eb_I h r1 x8.toNatClampNeg) then (if (eb_I h r1 x8.toNatClampNeg) = (1040 : Int32) then 1 else 2) else 0 : Int32)) + 1)), (11, .int (eb_I h r16 (x7 - 1).toNatClampNeg)), (10, .int (if (1005 : Int32) < (eb_I h r1 x8.toNatClampNeg) then (if (eb_I h r1 x8.toNatClampNeg) = (1040 : Int32) then 1 else 2) else 0 : Int32)), (9, .int (eb_I h r1 x8.toNatClampNeg)), (0, .ref a0), (8, .int x8)]) (Nat.le_of_ble_eq_true rfl) rfl rfl rfl rfl ?_
              refine eb_iinc (pc := 181) (i := 8) (n := 1) (v := x8 + 1) (ls2 := [(8, .int (x8 + 1)), (7, .int ((x7 - (if (1005 : Int32) < (eb_I h r1 x8.toNatClampNeg) then (if (eb_I h r1 x8.toNatClampNeg) = (1040 : Int32) then 1 else 2) else 0 : Int32)) + 1)), (11, .int (eb_I h r16 (x7 - 1).toNatClampNeg)), (10, .int (if (1005 : Int32) < (eb_I h r1 x8.toNatClampNeg) then (if (eb_I h r1 x8.toNatClampNeg) = (1040 : Int32) then 1 else 2) else 0 : Int32)), (9, .int (eb_I h r1 x8.toNatClampNeg)), (0, .ref a0)]) (Nat.le_of_ble_eq_true rfl) rfl rfl rfl rfl ?_
              refine eb_goto (pc := 184) (tgt := 51) rfl (by decide) ?_
              exact eb_pick [5, 1, 0] rfl w
            · replace w := w.2 c22
              refine eb_aload_n (pc := 161) (n := 0) (i := 0) rfl rfl rfl ?_
              refine eb_getR (pc := 162) rfl ka0 (by decide) (by decide) rfl q17 ?_
              refine eb_iload (pc := 165) (i := 7) rfl rfl ?_
              obtain ⟨c27, w⟩ := w
              refine eb_iaload (pc := 167) rfl k18 c27 ?_
              refine eb_goto (pc := 168) (tgt := 172) rfl (by decide) ?_
              refine eb_iload (pc := 172) (i := 11) rfl rfl ?_
              refine eb_ctV (pc := 174) (As := [.int (eb_I h r1 x8.toNatClampNeg), .int (eb_I h r16 (x7 - (if (1005 : Int32) < (eb_I h r1 x8.toNatClampNeg) then (if (eb_I h r1 x8.toNatClampNeg) = (1040 : Int32) then 1 else 2) else 0 : Int32)).toNatClampNeg), .int (eb_I h r16 (x7 - 1).toNatClampNeg)]) (rest := [.int (x7 - (if (1005 : Int32) < (eb_I h r1 x8.toNatClampNeg) then (if (eb_I h r1 x8.toNatClampNeg) = (1040 : Int32) then 1 else 2) else 0 : Int32)), .ref r16]) rfl (by decide) rfl ka0 (by decide) rfl (Nat.le_of_ble_eq_true rfl) ?_
              refine eb_Ct.mono w ?_
              rintro r h28 ⟨y29, rfl, ko30, w⟩
              change eb_Sn _ _ _ 177 _ [.int y29, .int (x7 - (if (1005 : Int32) < (eb_I h r1 x8.toNatClampNeg) then (if (eb_I h r1 x8.toNatClampNeg) = (1040 : Int32) then 1 else 2) else 0 : Int32)), .ref r16] _ _
              obtain ⟨c31, w⟩ := w
              refine eb_iastore (pc := 177) rfl k18 c31 ?_
              refine eb_iinc (pc := 178) (i := 7) (n := 1) (v := (x7 - (if (1005 : Int32) < (eb_I h r1 x8.toNatClampNeg) then (if (eb_I h r1 x8.toNatClampNeg) = (1040 : Int32) then 1 else 2) else 0 : Int32)) + 1) (ls2 := [(7, .int ((x7 - (if (1005 : Int32) < (eb_I h r1 x8.toNatClampNeg) then (if (eb_I h r1 x8.toNatClampNeg) = (1040 : Int32) then 1 else 2) else 0 : Int32)) + 1)), (11, .int (eb_I h r16 (x7 - 1).toNatClampNeg)), (10, .int (if (1005 : Int32) < (eb_I h r1 x8.toNatClampNeg) then (if (eb_I h r1 x8.toNatClampNeg) = (1040 : Int32) then 1 else 2) else 0 : Int32)), (9, .int (eb_I h r1 x8.toNatClampNeg)), (0, .ref a0), (8, .int x8)]) (Nat.le_of_ble_eq_true rfl) rfl rfl rfl rfl ?_
              refine eb_iinc (pc := 181) (i := 8) (n := 1) (v := x8 + 1) (ls2 := [(8, .int (x8 + 1)), (7, .int ((x7 - (if (1005 : Int32) < (eb_I h r1 x8.toNatClampNeg) then (if (eb_I h r1 x8.toNatClampNeg) = (1040 : Int32) then 1 else 2) else 0 : Int32)) + 1)), (11, .int (eb_I h r16 (x7 - 1).toNatClampNeg)), (10, .int (if (1005 : Int32) < (eb_I h r1 x8.toNatClampNeg) then (if (eb_I h r1 x8.toNatClampNeg) = (1040 : Int32) then 1 else 2) else 0 : Int32)), (9, .int (eb_I h r1 x8.toNatClampNeg)), (0, .ref a0)]) (Nat.le_of_ble_eq_true rfl) rfl rfl rfl rfl ?_
              refine eb_goto (pc := 184) (tgt := 51) rfl (by decide) ?_
              exact eb_pick [5, 1, 0] rfl w
          · replace w := w.2 c20
            refine eb_iconst (pc := 124) (n := 0) (v := 0) rfl rfl ?_
            refine eb_goto (pc := 125) (tgt := 137) rfl (by decide) ?_
            refine eb_istore (pc := 137) (i := 11) (ls2 := [(11, .int 0), (10, .int (if (1005 : Int32) < (eb_I h r1 x8.toNatClampNeg) then (if (eb_I h r1 x8.toNatClampNeg) = (1040 : Int32) then 1 else 2) else 0 : Int32)), (9, .int (eb_I h r1 x8.toNatClampNeg)), (0, .ref a0), (7, .int x7), (8, .int x8)]) (Nat.le_of_ble_eq_true rfl) rfl rfl ?_
            refine eb_iload (pc := 139) (i := 7) rfl rfl ?_
            refine eb_iload (pc := 141) (i := 10) rfl rfl ?_
            refine eb_isub (pc := 143) rfl ?_
            refine eb_istore (pc := 144) (i := 7) (ls2 := [(7, .int (x7 - (if (1005 : Int32) < (eb_I h r1 x8.toNatClampNeg) then (if (eb_I h r1 x8.toNatClampNeg) = (1040 : Int32) then 1 else 2) else 0 : Int32))), (11, .int 0), (10, .int (if (1005 : Int32) < (eb_I h r1 x8.toNatClampNeg) then (if (eb_I h r1 x8.toNatClampNeg) = (1040 : Int32) then 1 else 2) else 0 : Int32)), (9, .int (eb_I h r1 x8.toNatClampNeg)), (0, .ref a0), (8, .int x8)]) (Nat.le_of_ble_eq_true rfl) rfl rfl ?_
            refine eb_aload_n (pc := 146) (n := 0) (i := 0) rfl rfl rfl ?_
            refine eb_getR (pc := 147) rfl ka0 (by decide) (by decide) rfl q17 ?_
            refine eb_iload (pc := 150) (i := 7) rfl rfl ?_
            refine eb_aload_n (pc := 152) (n := 0) (i := 0) rfl rfl rfl ?_
            refine eb_iload (pc := 153) (i := 9) rfl rfl ?_
            refine eb_iload (pc := 155) (i := 10) rfl rfl ?_
            refine eb_iconst (pc := 157) (n := 2) (v := 2) rfl rfl ?_
            refine eb_icmp_ne (pc := 158) (tgt := 171) rfl (by decide) (fun c32 => ?_) (fun c32 => ?_)
            · replace w := w.1 c32
              refine eb_iconst (pc := 171) (n := 0) (v := 0) rfl rfl ?_
              refine eb_iload (pc := 172) (i := 11) rfl rfl ?_
              refine eb_ctV (pc := 174) (As := [.int (eb_I h r1 x8.toNatClampNeg), .int 0, .int 0]) (rest := [.int (x7 - (if (1005 : Int32) < (eb_I h r1 x8.toNatClampNeg) then (if (eb_I h r1 x8.toNatClampNeg) = (1040 : Int32) then 1 else 2) else 0 : Int32)), .ref r16]) rfl (by decide) rfl ka0 (by decide) rfl (Nat.le_of_ble_eq_true rfl) ?_
              refine eb_Ct.mono w ?_
              rintro r h33 ⟨y34, rfl, ko35, w⟩
              change eb_Sn _ _ _ 177 _ [.int y34, .int (x7 - (if (1005 : Int32) < (eb_I h r1 x8.toNatClampNeg) then (if (eb_I h r1 x8.toNatClampNeg) = (1040 : Int32) then 1 else 2) else 0 : Int32)), .ref r16] _ _
              obtain ⟨c36, w⟩ := w
              refine eb_iastore (pc := 177) rfl k18 c36 ?_
              refine eb_iinc (pc := 178) (i := 7) (n := 1) (v := (x7 - (if (1005 : Int32) < (eb_I h r1 x8.toNatClampNeg) then (if (eb_I h r1 x8.toNatClampNeg) = (1040 : Int32) then 1 else 2) else 0 : Int32)) + 1) (ls2 := [(7, .int ((x7 - (if (1005 : Int32) < (eb_I h r1 x8.toNatClampNeg) then (if (eb_I h r1 x8.toNatClampNeg) = (1040 : Int32) then 1 else 2) else 0 : Int32)) + 1)), (11, .int 0), (10, .int (if (1005 : Int32) < (eb_I h r1 x8.toNatClampNeg) then (if (eb_I h r1 x8.toNatClampNeg) = (1040 : Int32) then 1 else 2) else 0 : Int32)), (9, .int (eb_I h r1 x8.toNatClampNeg)), (0, .ref a0), (8, .int x8)]) (Nat.le_of_ble_eq_true rfl) rfl rfl rfl rfl ?_
              refine eb_iinc (pc := 181) (i := 8) (n := 1) (v := x8 + 1) (ls2 := [(8, .int (x8 + 1)), (7, .int ((x7 - (if (1005 : Int32) < (eb_I h r1 x8.toNatClampNeg) then (if (eb_I h r1 x8.toNatClampNeg) = (1040 : Int32) then 1 else 2) else 0 : Int32)) + 1)), (11, .int 0), (10, .int (if (1005 : Int32) < (eb_I h r1 x8.toNatClampNeg) then (if (eb_I h r1 x8.toNatClampNeg) = (1040 : Int32) then 1 else 2) else 0 : Int32)), (9, .int (eb_I h r1 x8.toNatClampNeg)), (0, .ref a0)]) (Nat.le_of_ble_eq_true rfl) rfl rfl rfl rfl ?_
              refine eb_goto (pc := 184) (tgt := 51) rfl (by decide) ?_
              exact eb_pick [5, 1, 0] rfl w
            · replace w := w.2 c32
              refine eb_aload_n (pc := 161) (n := 0) (i := 0) rfl rfl rfl ?_
              refine eb_getR (pc := 162) rfl ka0 (by decide) (by decide) rfl q17 ?_
              refine eb_iload (pc := 165) (i := 7) rfl rfl ?_
              obtain ⟨c37, w⟩ := w
              refine eb_iaload (pc := 167) rfl k18 c37 ?_
              refine eb_goto (pc := 168) (tgt := 172) rfl (by decide) ?_
              refine eb_iload (pc := 172) (i := 11) rfl rfl ?_
              refine eb_ctV (pc := 174) (As := [.int (eb_I h r1 x8.toNatClampNeg), .int (eb_I h r16 (x7 - (if (1005 : Int32) < (eb_I h r1 x8.toNatClampNeg) then (if (eb_I h r1 x8.toNatClampNeg) = (1040 : Int32) then 1 else 2) else 0 : Int32)).toNatClampNeg), .int 0]) (rest := [.int (x7 - (if (1005 : Int32) < (eb_I h r1 x8.toNatClampNeg) then (if (eb_I h r1 x8.toNatClampNeg) = (1040 : Int32) then 1 else 2) else 0 : Int32)), .ref r16]) rfl (by decide) rfl ka0 (by decide) rfl (Nat.le_of_ble_eq_true rfl) ?_
              refine eb_Ct.mono w ?_
              rintro r h38 ⟨y39, rfl, ko40, w⟩
              change eb_Sn _ _ _ 177 _ [.int y39, .int (x7 - (if (1005 : Int32) < (eb_I h r1 x8.toNatClampNeg) then (if (eb_I h r1 x8.toNatClampNeg) = (1040 : Int32) then 1 else 2) else 0 : Int32)), .ref r16] _ _
              obtain ⟨c41, w⟩ := w
              refine eb_iastore (pc := 177) rfl k18 c41 ?_
              refine eb_iinc (pc := 178) (i := 7) (n := 1) (v := (x7 - (if (1005 : Int32) < (eb_I h r1 x8.toNatClampNeg) then (if (eb_I h r1 x8.toNatClampNeg) = (1040 : Int32) then 1 else 2) else 0 : Int32)) + 1) (ls2 := [(7, .int ((x7 - (if (1005 : Int32) < (eb_I h r1 x8.toNatClampNeg) then (if (eb_I h r1 x8.toNatClampNeg) = (1040 : Int32) then 1 else 2) else 0 : Int32)) + 1)), (11, .int 0), (10, .int (if (1005 : Int32) < (eb_I h r1 x8.toNatClampNeg) then (if (eb_I h r1 x8.toNatClampNeg) = (1040 : Int32) then 1 else 2) else 0 : Int32)), (9, .int (eb_I h r1 x8.toNatClampNeg)), (0, .ref a0), (8, .int x8)]) (Nat.le_of_ble_eq_true rfl) rfl rfl rfl rfl ?_
              refine eb_iinc (pc := 181) (i := 8) (n := 1) (v := x8 + 1) (ls2 := [(8, .int (x8 + 1)), (7, .int ((x7 - (if (1005 : Int32) < (eb_I h r1 x8.toNatClampNeg) then (if (eb_I h r1 x8.toNatClampNeg) = (1040 : Int32) then 1 else 2) else 0 : Int32)) + 1)), (11, .int 0), (10, .int (if (1005 : Int32) < (eb_I h r1 x8.toNatClampNeg) then (if (eb_I h r1 x8.toNatClampNeg) = (1040 : Int32) then 1 else 2) else 0 : Int32)), (9, .int (eb_I h r1 x8.toNatClampNeg)), (0, .ref a0)]) (Nat.le_of_ble_eq_true rfl) rfl rfl rfl rfl ?_
              refine eb_goto (pc := 184) (tgt := 51) rfl (by decide) ?_
              exact eb_pick [5, 1, 0] rfl w
        · replace w := w.2 c19
          refine eb_iconst (pc := 117) (n := 0) (v := 0) rfl rfl ?_
          exact eb_ireturn (pc := 118) rfl rfl (by decide) w
    refine eb_icmp_gt (pc := 75) (tgt := 82) rfl (by decide) (fun c13 => ?_) (fun c13 => ?_)
    · refine eb_iload (pc := 82) (i := 9) rfl rfl ?_
      refine eb_sipush (pc := 84) (n := 1040) (v := 1040) rfl rfl ?_
      refine eb_icmp_ne (pc := 87) (tgt := 94) rfl (by decide) (fun c14 => ?_) (fun c14 => ?_)
      · refine eb_iconst (pc := 94) (n := 2) (v := 2) rfl rfl ?_
        simp only [if_pos c13, if_neg c14] at jj42 ⊢
        exact jj42
      · refine eb_iconst (pc := 90) (n := 1) (v := 1) rfl rfl ?_
        refine eb_goto (pc := 91) (tgt := 95) rfl (by decide) ?_
        simp only [if_pos c13, if_pos c14] at jj42 ⊢
        exact jj42
    · refine eb_iconst (pc := 78) (n := 0) (v := 0) rfl rfl ?_
      refine eb_goto (pc := 79) (tgt := 95) rfl (by decide) ?_
      simp only [if_neg c13] at jj42 ⊢
      exact jj42
theorem T_X2_holds {d : Nat} {h : eb_H} {Q : Option Value → eb_H → Prop} (a0 : Nat) (x1 : Int32) (x2 : Int32) (x3 : Int32) (x4 : Int32) (x5 : Int32) (x6 : Int32) (ka0 : eb_kd a0 = 2) (ko : eb_KO h) (w : ∃ r1, eb_R h a0 2 = some r1 ∧ eb_kd r1 = 13 ∧ (vp_in (0 : Int32) (eb_ln r1)) ∧ (vp_in (1 : Int32) (eb_ln r1)) ∧ (vp_in (2 : Int32) (eb_ln r1)) ∧ (vp_in (3 : Int32) (eb_ln r1)) ∧ (vp_in (4 : Int32) (eb_ln r1)) ∧ (vp_in (5 : Int32) (eb_ln r1)) ∧ eb_Sn (d + 1) m_X2_holds h 51 [(0, .ref a0), (7, .int 0), (8, .int 0)] [] (eb_sI (eb_sI (eb_sI (eb_sI (eb_sI (eb_sI h r1 (0 : Int32).toNatClampNeg x1) r1 (1 : Int32).toNatClampNeg x2) r1 (2 : Int32).toNatClampNeg x3) r1 (3 : Int32).toNatClampNeg x4) r1 (4 : Int32).toNatClampNeg x5) r1 (5 : Int32).toNatClampNeg x6) Q) : eb_Ct (d + 1) 25 [.ref a0, .int x1, .int x2, .int x3, .int x4, .int x5, .int x6] h Q :=
  eb_bodyQ (by decide) ok_X2_holds (Nat.le_of_ble_eq_true rfl) (b_X2_holds_0 (h0 := h) a0 x1 x2 x3 x4 x5 x6 ka0 ko w)
theorem b_X2_weigh_0 {d : Nat} {h0 h : eb_H} {Q : Option Value → eb_H → Prop} (a0 : Nat) (x1 : Int32) (x2 : Int32) (x3 : Int32) (ka0 : eb_kd a0 = 2) (ko : eb_KO h) (w : ((x1 = 1020 → Q (some (.int (x2 ||| x3))) h) ∧ (x1 = 1030 → Q (some (.int (x2 &&& x3))) h) ∧ (x1 = 1040 → Q (some (.int (if x3 = 0 then 1 else 0 : Int32))) h) ∧ (x1 = 1050 → Q (some (.int (if x2 = x3 then 1 else 0 : Int32))) h) ∧ (x1 = 1051 → Q (some (.int (if x3 ≤ x2 then 0 else 1 : Int32))) h) ∧ (x1 = 1052 → Q (some (.int (if x2 ≤ x3 then 0 else 1 : Int32))) h) ∧ (x1 = 1060 → (((x2.toInt64 + x3.toInt64) ≤ 1000000 → Q (some (.int (if (-1000000) ≤ (x2.toInt64 + x3.toInt64) then (x2.toInt64 + x3.toInt64).toInt32 else (-1000000) : Int32))) h) ∧ (¬ ((x2.toInt64 + x3.toInt64) ≤ 1000000) → Q (some (.int 1000000)) h))) ∧ (x1 = 1061 → (((x2.toInt64 - x3.toInt64) ≤ 1000000 → Q (some (.int (if (-1000000) ≤ (x2.toInt64 - x3.toInt64) then (x2.toInt64 - x3.toInt64).toInt32 else (-1000000) : Int32))) h) ∧ (¬ ((x2.toInt64 - x3.toInt64) ≤ 1000000) → Q (some (.int 1000000)) h))) ∧ (x1 = 1070 → (((x2.toInt64 * x3.toInt64) ≤ 1000000 → Q (some (.int (if (-1000000) ≤ (x2.toInt64 * x3.toInt64) then (x2.toInt64 * x3.toInt64).toInt32 else (-1000000) : Int32))) h) ∧ (¬ ((x2.toInt64 * x3.toInt64) ≤ 1000000) → Q (some (.int 1000000)) h))) ∧ (¬ x1 = 1020 → ¬ x1 = 1030 → ¬ x1 = 1040 → ¬ x1 = 1050 → ¬ x1 = 1051 → ¬ x1 = 1052 → ¬ x1 = 1060 → ¬ x1 = 1061 → ¬ x1 = 1070 → (((x1 - 1000) < 0 → Q (some (.int x1)) h) ∧ (¬ ((x1 - 1000) < 0) → ∃ r19, eb_R h a0 2 = some r19 ∧ eb_kd r19 = 13 ∧ (((Int32.ofNat (eb_ln r19)) ≤ (x1 - 1000) → Q (some (.int x1)) h) ∧ (¬ ((Int32.ofNat (eb_ln r19)) ≤ (x1 - 1000)) → (vp_in (x1 - 1000) (eb_ln r19)) ∧ Q (some (.int (eb_I h r19 (x1 - 1000).toNatClampNeg))) h))))))) : eb_Sn d m_X2_weigh h0 0 [(0, .ref a0), (1, .int x1), (2, .int x2), (3, .int x3)] [] h Q := by
  refine eb_iload_n (pc := 0) (n := 1) (i := 1) rfl rfl rfl ?_
  by_cases s0 : x1 = 1020
  · refine eb_lookup (pc := 1) (off := 93) (tgt := 94) (by decide) (by rw [s0]; decide) (by decide) rfl ?_
    replace w := w.1 s0
    refine eb_iload_n (pc := 94) (n := 2) (i := 2) rfl rfl rfl ?_
    refine eb_iload_n (pc := 95) (n := 3) (i := 3) rfl rfl rfl ?_
    refine eb_ior (pc := 96) rfl ?_
    exact eb_ireturn (pc := 97) rfl rfl rfl w
  by_cases s1 : x1 = 1030
  · refine eb_lookup (pc := 1) (off := 97) (tgt := 98) (by decide) (by rw [s1]; decide) (by decide) rfl ?_
    replace w := w.2.1 s1
    refine eb_iload_n (pc := 98) (n := 2) (i := 2) rfl rfl rfl ?_
    refine eb_iload_n (pc := 99) (n := 3) (i := 3) rfl rfl rfl ?_
    refine eb_iand (pc := 100) rfl ?_
    exact eb_ireturn (pc := 101) rfl rfl rfl w
  by_cases s2 : x1 = 1040
  · refine eb_lookup (pc := 1) (off := 83) (tgt := 84) (by decide) (by rw [s2]; decide) (by decide) rfl ?_
    replace w := w.2.2.1 s2
    refine eb_iload_n (pc := 84) (n := 3) (i := 3) rfl rfl rfl ?_
    have jj2 : eb_Sn d m_X2_weigh h0 93 [(0, .ref a0), (1, .int x1), (2, .int x2), (3, .int x3)] [.int (if x3 = 0 then 1 else 0 : Int32)] h Q := by
      exact eb_ireturn (pc := 93) rfl rfl rfl w
    refine eb_if_ne (pc := 85) (tgt := 92) rfl (by decide) (fun c1 => ?_) (fun c1 => ?_)
    · refine eb_iconst (pc := 92) (n := 0) (v := 0) rfl rfl ?_
      simp only [if_neg c1] at jj2 ⊢
      exact jj2
    · refine eb_iconst (pc := 88) (n := 1) (v := 1) rfl rfl ?_
      refine eb_goto (pc := 89) (tgt := 93) rfl (by decide) ?_
      simp only [if_pos c1] at jj2 ⊢
      exact jj2
  by_cases s3 : x1 = 1050
  · refine eb_lookup (pc := 1) (off := 101) (tgt := 102) (by decide) (by rw [s3]; decide) (by decide) rfl ?_
    replace w := w.2.2.2.1 s3
    refine eb_iload_n (pc := 102) (n := 2) (i := 2) rfl rfl rfl ?_
    refine eb_iload_n (pc := 103) (n := 3) (i := 3) rfl rfl rfl ?_
    have jj4 : eb_Sn d m_X2_weigh h0 112 [(0, .ref a0), (1, .int x1), (2, .int x2), (3, .int x3)] [.int (if x2 = x3 then 1 else 0 : Int32)] h Q := by
      exact eb_ireturn (pc := 112) rfl rfl rfl w
    refine eb_icmp_ne (pc := 104) (tgt := 111) rfl (by decide) (fun c3 => ?_) (fun c3 => ?_)
    · refine eb_iconst (pc := 111) (n := 0) (v := 0) rfl rfl ?_
      simp only [if_neg c3] at jj4 ⊢
      exact jj4
    · refine eb_iconst (pc := 107) (n := 1) (v := 1) rfl rfl ?_
      refine eb_goto (pc := 108) (tgt := 112) rfl (by decide) ?_
      simp only [if_pos c3] at jj4 ⊢
      exact jj4
  by_cases s4 : x1 = 1051
  · refine eb_lookup (pc := 1) (off := 112) (tgt := 113) (by decide) (by rw [s4]; decide) (by decide) rfl ?_
    replace w := w.2.2.2.2.1 s4
    refine eb_iload_n (pc := 113) (n := 2) (i := 2) rfl rfl rfl ?_
    refine eb_iload_n (pc := 114) (n := 3) (i := 3) rfl rfl rfl ?_
    have jj6 : eb_Sn d m_X2_weigh h0 123 [(0, .ref a0), (1, .int x1), (2, .int x2), (3, .int x3)] [.int (if x3 ≤ x2 then 0 else 1 : Int32)] h Q := by
      exact eb_ireturn (pc := 123) rfl rfl rfl w
    refine eb_icmp_ge (pc := 115) (tgt := 122) rfl (by decide) (fun c5 => ?_) (fun c5 => ?_)
    · refine eb_iconst (pc := 122) (n := 0) (v := 0) rfl rfl ?_
      simp only [if_pos c5] at jj6 ⊢
      exact jj6
    · refine eb_iconst (pc := 118) (n := 1) (v := 1) rfl rfl ?_
      refine eb_goto (pc := 119) (tgt := 123) rfl (by decide) ?_
      simp only [if_neg c5] at jj6 ⊢
      exact jj6
  by_cases s5 : x1 = 1052
  · refine eb_lookup (pc := 1) (off := 123) (tgt := 124) (by decide) (by rw [s5]; decide) (by decide) rfl ?_
    replace w := w.2.2.2.2.2.1 s5
    refine eb_iload_n (pc := 124) (n := 2) (i := 2) rfl rfl rfl ?_
    refine eb_iload_n (pc := 125) (n := 3) (i := 3) rfl rfl rfl ?_
    have jj8 : eb_Sn d m_X2_weigh h0 134 [(0, .ref a0), (1, .int x1), (2, .int x2), (3, .int x3)] [.int (if x2 ≤ x3 then 0 else 1 : Int32)] h Q := by
      exact eb_ireturn (pc := 134) rfl rfl rfl w
    refine eb_icmp_le (pc := 126) (tgt := 133) rfl (by decide) (fun c7 => ?_) (fun c7 => ?_)
    · refine eb_iconst (pc := 133) (n := 0) (v := 0) rfl rfl ?_
      simp only [if_pos c7] at jj8 ⊢
      exact jj8
    · refine eb_iconst (pc := 129) (n := 1) (v := 1) rfl rfl ?_
      refine eb_goto (pc := 130) (tgt := 134) rfl (by decide) ?_
      simp only [if_neg c7] at jj8 ⊢
      exact jj8
  by_cases s6 : x1 = 1060
  · refine eb_lookup (pc := 1) (off := 134) (tgt := 135) (by decide) (by rw [s6]; decide) (by decide) rfl ?_
    replace w := w.2.2.2.2.2.2.1 s6
    refine eb_iload_n (pc := 135) (n := 2) (i := 2) rfl rfl rfl ?_
    refine eb_i2l (pc := 136) rfl ?_
    refine eb_iload_n (pc := 137) (n := 3) (i := 3) rfl rfl rfl ?_
    refine eb_i2l (pc := 138) rfl ?_
    refine eb_ladd (pc := 139) rfl ?_
    refine eb_lstore (pc := 140) (i := 4) (ls2 := [(4, .long (x2.toInt64 + x3.toInt64)), (0, .ref a0), (1, .int x1), (2, .int x2), (3, .int x3)]) (Nat.le_of_ble_eq_true rfl) rfl rfl ?_
    refine eb_goto (pc := 142) (tgt := 199) rfl (by decide) ?_
    refine eb_lload (pc := 199) (i := 4) rfl rfl ?_
    refine eb_ldc2 (pc := 201) (a := 1000000) (v := 1000000) rfl (by decide) ?_
    refine eb_lcmp (pc := 204) rfl ?_
    refine eb_if_le (pc := 205) (tgt := 211) rfl (by decide) (fun c9 => ?_) (fun c9 => ?_)
    · replace c9 := eb_lc_le.mp c9
      replace w := w.1 c9
      refine eb_lload (pc := 211) (i := 4) rfl rfl ?_
      refine eb_ldc2 (pc := 213) (a := 18446744073708551616) (v := (-1000000)) rfl (by decide) ?_
      refine eb_lcmp (pc := 216) rfl ?_
      have jj11 : eb_Sn d m_X2_weigh h0 228 [(4, .long (x2.toInt64 + x3.toInt64)), (0, .ref a0), (1, .int x1), (2, .int x2), (3, .int x3)] [.int (if (-1000000) ≤ (x2.toInt64 + x3.toInt64) then (x2.toInt64 + x3.toInt64).toInt32 else (-1000000) : Int32)] h Q := by
        exact eb_ireturn (pc := 228) rfl rfl rfl w
      refine eb_if_ge (pc := 217) (tgt := 225) rfl (by decide) (fun c10 => ?_) (fun c10 => ?_)
      · replace c10 := eb_lc_ge.mp c10
        refine eb_lload (pc := 225) (i := 4) rfl rfl ?_
        refine eb_l2i (pc := 227) rfl ?_
        simp only [if_pos c10] at jj11 ⊢
        exact jj11
      · replace c10 := (fun hh => mt eb_lc_ge.mpr hh) c10
        refine eb_ldc (pc := 220) (a := 4293967296) (v := (-1000000)) rfl (by decide) ?_
        refine eb_goto (pc := 222) (tgt := 228) rfl (by decide) ?_
        simp only [if_neg c10] at jj11 ⊢
        exact jj11
    · replace c9 := (fun hh => mt eb_lc_le.mpr hh) c9
      replace w := w.2 c9
      refine eb_ldc (pc := 208) (a := 1000000) (v := 1000000) rfl (by decide) ?_
      exact eb_ireturn (pc := 210) rfl rfl rfl w
  by_cases s7 : x1 = 1061
  · refine eb_lookup (pc := 1) (off := 144) (tgt := 145) (by decide) (by rw [s7]; decide) (by decide) rfl ?_
    replace w := w.2.2.2.2.2.2.2.1 s7
    refine eb_iload_n (pc := 145) (n := 2) (i := 2) rfl rfl rfl ?_
    refine eb_i2l (pc := 146) rfl ?_
    refine eb_iload_n (pc := 147) (n := 3) (i := 3) rfl rfl rfl ?_
    refine eb_i2l (pc := 148) rfl ?_
    refine eb_lsub (pc := 149) rfl ?_
    refine eb_lstore (pc := 150) (i := 4) (ls2 := [(4, .long (x2.toInt64 - x3.toInt64)), (0, .ref a0), (1, .int x1), (2, .int x2), (3, .int x3)]) (Nat.le_of_ble_eq_true rfl) rfl rfl ?_
    refine eb_goto (pc := 152) (tgt := 199) rfl (by decide) ?_
    refine eb_lload (pc := 199) (i := 4) rfl rfl ?_
    refine eb_ldc2 (pc := 201) (a := 1000000) (v := 1000000) rfl (by decide) ?_
    refine eb_lcmp (pc := 204) rfl ?_
    refine eb_if_le (pc := 205) (tgt := 211) rfl (by decide) (fun c12 => ?_) (fun c12 => ?_)
    · replace c12 := eb_lc_le.mp c12
      replace w := w.1 c12
      refine eb_lload (pc := 211) (i := 4) rfl rfl ?_
      refine eb_ldc2 (pc := 213) (a := 18446744073708551616) (v := (-1000000)) rfl (by decide) ?_
      refine eb_lcmp (pc := 216) rfl ?_
      have jj14 : eb_Sn d m_X2_weigh h0 228 [(4, .long (x2.toInt64 - x3.toInt64)), (0, .ref a0), (1, .int x1), (2, .int x2), (3, .int x3)] [.int (if (-1000000) ≤ (x2.toInt64 - x3.toInt64) then (x2.toInt64 - x3.toInt64).toInt32 else (-1000000) : Int32)] h Q := by
        exact eb_ireturn (pc := 228) rfl rfl rfl w
      refine eb_if_ge (pc := 217) (tgt := 225) rfl (by decide) (fun c13 => ?_) (fun c13 => ?_)
      · replace c13 := eb_lc_ge.mp c13
        refine eb_lload (pc := 225) (i := 4) rfl rfl ?_
        refine eb_l2i (pc := 227) rfl ?_
        simp only [if_pos c13] at jj14 ⊢
        exact jj14
      · replace c13 := (fun hh => mt eb_lc_ge.mpr hh) c13
        refine eb_ldc (pc := 220) (a := 4293967296) (v := (-1000000)) rfl (by decide) ?_
        refine eb_goto (pc := 222) (tgt := 228) rfl (by decide) ?_
        simp only [if_neg c13] at jj14 ⊢
        exact jj14
    · replace c12 := (fun hh => mt eb_lc_le.mpr hh) c12
      replace w := w.2 c12
      refine eb_ldc (pc := 208) (a := 1000000) (v := 1000000) rfl (by decide) ?_
      exact eb_ireturn (pc := 210) rfl rfl rfl w
  by_cases s8 : x1 = 1070
  · refine eb_lookup (pc := 1) (off := 154) (tgt := 155) (by decide) (by rw [s8]; decide) (by decide) rfl ?_
    replace w := w.2.2.2.2.2.2.2.2.1 s8
    refine eb_iload_n (pc := 155) (n := 2) (i := 2) rfl rfl rfl ?_
    refine eb_i2l (pc := 156) rfl ?_
    refine eb_iload_n (pc := 157) (n := 3) (i := 3) rfl rfl rfl ?_
    refine eb_i2l (pc := 158) rfl ?_
    refine eb_lmul (pc := 159) rfl ?_
    refine eb_lstore (pc := 160) (i := 4) (ls2 := [(4, .long (x2.toInt64 * x3.toInt64)), (0, .ref a0), (1, .int x1), (2, .int x2), (3, .int x3)]) (Nat.le_of_ble_eq_true rfl) rfl rfl ?_
    refine eb_goto (pc := 162) (tgt := 199) rfl (by decide) ?_
    refine eb_lload (pc := 199) (i := 4) rfl rfl ?_
    refine eb_ldc2 (pc := 201) (a := 1000000) (v := 1000000) rfl (by decide) ?_
    refine eb_lcmp (pc := 204) rfl ?_
    refine eb_if_le (pc := 205) (tgt := 211) rfl (by decide) (fun c15 => ?_) (fun c15 => ?_)
    · replace c15 := eb_lc_le.mp c15
      replace w := w.1 c15
      refine eb_lload (pc := 211) (i := 4) rfl rfl ?_
      refine eb_ldc2 (pc := 213) (a := 18446744073708551616) (v := (-1000000)) rfl (by decide) ?_
      refine eb_lcmp (pc := 216) rfl ?_
      have jj17 : eb_Sn d m_X2_weigh h0 228 [(4, .long (x2.toInt64 * x3.toInt64)), (0, .ref a0), (1, .int x1), (2, .int x2), (3, .int x3)] [.int (if (-1000000) ≤ (x2.toInt64 * x3.toInt64) then (x2.toInt64 * x3.toInt64).toInt32 else (-1000000) : Int32)] h Q := by
        exact eb_ireturn (pc := 228) rfl rfl rfl w
      refine eb_if_ge (pc := 217) (tgt := 225) rfl (by decide) (fun c16 => ?_) (fun c16 => ?_)
      · replace c16 := eb_lc_ge.mp c16
        refine eb_lload (pc := 225) (i := 4) rfl rfl ?_
        refine eb_l2i (pc := 227) rfl ?_
        simp only [if_pos c16] at jj17 ⊢
        exact jj17
      · replace c16 := (fun hh => mt eb_lc_ge.mpr hh) c16
        refine eb_ldc (pc := 220) (a := 4293967296) (v := (-1000000)) rfl (by decide) ?_
        refine eb_goto (pc := 222) (tgt := 228) rfl (by decide) ?_
        simp only [if_neg c16] at jj17 ⊢
        exact jj17
    · replace c15 := (fun hh => mt eb_lc_le.mpr hh) c15
      replace w := w.2 c15
      refine eb_ldc (pc := 208) (a := 1000000) (v := 1000000) rfl (by decide) ?_
      exact eb_ireturn (pc := 210) rfl rfl rfl w
  refine eb_lookup (pc := 1) (off := 164) (tgt := 165) (by decide) (by rw [lv_osw (k := 1020) s0 (by decide)]; rw [lv_osw (k := 1030) s1 (by decide)]; rw [lv_osw (k := 1040) s2 (by decide)]; rw [lv_osw (k := 1050) s3 (by decide)]; rw [lv_osw (k := 1051) s4 (by decide)]; rw [lv_osw (k := 1052) s5 (by decide)]; rw [lv_osw (k := 1060) s6 (by decide)]; rw [lv_osw (k := 1061) s7 (by decide)]; rw [lv_osw (k := 1070) s8 (by decide)]; rfl) (by decide) rfl ?_
  replace w := w.2.2.2.2.2.2.2.2.2 s0 s1 s2 s3 s4 s5 s6 s7 s8
  refine eb_iload_n (pc := 165) (n := 1) (i := 1) rfl rfl rfl ?_
  refine eb_sipush (pc := 166) (n := 1000) (v := 1000) rfl rfl ?_
  refine eb_isub (pc := 169) rfl ?_
  refine eb_istore (pc := 170) (i := 6) (ls2 := [(6, .int (x1 - 1000)), (0, .ref a0), (1, .int x1), (2, .int x2), (3, .int x3)]) (Nat.le_of_ble_eq_true rfl) rfl rfl ?_
  refine eb_iload (pc := 172) (i := 6) rfl rfl ?_
  refine eb_if_lt (pc := 174) (tgt := 197) rfl (by decide) (fun c18 => ?_) (fun c18 => ?_)
  · replace w := w.1 c18
    refine eb_iload_n (pc := 197) (n := 1) (i := 1) rfl rfl rfl ?_
    exact eb_ireturn (pc := 198) rfl rfl rfl w
  · replace w := w.2 c18
    refine eb_iload (pc := 177) (i := 6) rfl rfl ?_
    refine eb_aload_n (pc := 179) (n := 0) (i := 0) rfl rfl rfl ?_
    obtain ⟨r19, q20, k21, w⟩ := w
    refine eb_getR (pc := 180) rfl ka0 (by decide) (by decide) rfl q20 ?_
    refine eb_alen (pc := 183) rfl (by rw [k21]; decide) (by rw [k21]; decide) rfl ?_
    refine eb_icmp_ge (pc := 184) (tgt := 197) rfl (by decide) (fun c22 => ?_) (fun c22 => ?_)
    · replace w := w.1 c22
      refine eb_iload_n (pc := 197) (n := 1) (i := 1) rfl rfl rfl ?_
      exact eb_ireturn (pc := 198) rfl rfl rfl w
    · replace w := w.2 c22
      refine eb_aload_n (pc := 187) (n := 0) (i := 0) rfl rfl rfl ?_
      refine eb_getR (pc := 188) rfl ka0 (by decide) (by decide) rfl q20 ?_
      refine eb_iload (pc := 191) (i := 6) rfl rfl ?_
      obtain ⟨c23, w⟩ := w
      refine eb_iaload (pc := 193) rfl k21 c23 ?_
      refine eb_goto (pc := 194) (tgt := 198) rfl (by decide) ?_
      exact eb_ireturn (pc := 198) rfl rfl rfl w
theorem T_X2_weigh {d : Nat} {h : eb_H} {Q : Option Value → eb_H → Prop} (a0 : Nat) (x1 : Int32) (x2 : Int32) (x3 : Int32) (ka0 : eb_kd a0 = 2) (ko : eb_KO h) (w : ((x1 = 1020 → Q (some (.int (x2 ||| x3))) h) ∧ (x1 = 1030 → Q (some (.int (x2 &&& x3))) h) ∧ (x1 = 1040 → Q (some (.int (if x3 = 0 then 1 else 0 : Int32))) h) ∧ (x1 = 1050 → Q (some (.int (if x2 = x3 then 1 else 0 : Int32))) h) ∧ (x1 = 1051 → Q (some (.int (if x3 ≤ x2 then 0 else 1 : Int32))) h) ∧ (x1 = 1052 → Q (some (.int (if x2 ≤ x3 then 0 else 1 : Int32))) h) ∧ (x1 = 1060 → (((x2.toInt64 + x3.toInt64) ≤ 1000000 → Q (some (.int (if (-1000000) ≤ (x2.toInt64 + x3.toInt64) then (x2.toInt64 + x3.toInt64).toInt32 else (-1000000) : Int32))) h) ∧ (¬ ((x2.toInt64 + x3.toInt64) ≤ 1000000) → Q (some (.int 1000000)) h))) ∧ (x1 = 1061 → (((x2.toInt64 - x3.toInt64) ≤ 1000000 → Q (some (.int (if (-1000000) ≤ (x2.toInt64 - x3.toInt64) then (x2.toInt64 - x3.toInt64).toInt32 else (-1000000) : Int32))) h) ∧ (¬ ((x2.toInt64 - x3.toInt64) ≤ 1000000) → Q (some (.int 1000000)) h))) ∧ (x1 = 1070 → (((x2.toInt64 * x3.toInt64) ≤ 1000000 → Q (some (.int (if (-1000000) ≤ (x2.toInt64 * x3.toInt64) then (x2.toInt64 * x3.toInt64).toInt32 else (-1000000) : Int32))) h) ∧ (¬ ((x2.toInt64 * x3.toInt64) ≤ 1000000) → Q (some (.int 1000000)) h))) ∧ (¬ x1 = 1020 → ¬ x1 = 1030 → ¬ x1 = 1040 → ¬ x1 = 1050 → ¬ x1 = 1051 → ¬ x1 = 1052 → ¬ x1 = 1060 → ¬ x1 = 1061 → ¬ x1 = 1070 → (((x1 - 1000) < 0 → Q (some (.int x1)) h) ∧ (¬ ((x1 - 1000) < 0) → ∃ r19, eb_R h a0 2 = some r19 ∧ eb_kd r19 = 13 ∧ (((Int32.ofNat (eb_ln r19)) ≤ (x1 - 1000) → Q (some (.int x1)) h) ∧ (¬ ((Int32.ofNat (eb_ln r19)) ≤ (x1 - 1000)) → (vp_in (x1 - 1000) (eb_ln r19)) ∧ Q (some (.int (eb_I h r19 (x1 - 1000).toNatClampNeg))) h))))))) : eb_Ct d 26 [.ref a0, .int x1, .int x2, .int x3] h Q :=
  eb_bodyQ (by decide) ok_X2_weigh (Nat.le_of_ble_eq_true rfl) (b_X2_weigh_0 (h0 := h) a0 x1 x2 x3 ka0 ko w)
theorem b_X3_init_0 {d : Nat} {h0 h : eb_H} {Q : Option Value → eb_H → Prop} (a0 : Nat) (ka0 : eb_kd a0 = 3) (w : ∀ r3, r3 = eb_nx h 7 0 → ∀ h1, h1 = eb_nw h 7 0 (eb_nf 7) → eb_Ct d 65 [.ref r3] h1 (fun r h5 => r = none ∧ ∀ h8, h8 = eb_sR h5 a0 0 (some r3) → ∀ r12, r12 = eb_nx h8 13 900 → ∀ h10, h10 = eb_nw h8 13 900 900 → ∀ h14, h14 = eb_sR h10 a0 1 (some r12) → ∀ r18, r18 = eb_nx h14 13 32 → ∀ h16, h16 = eb_nw h14 13 32 32 → ∀ h20, h20 = eb_sR h16 a0 2 (some r18) → ∀ h22, h22 = eb_sI h20 a0 3 0 → ∀ h24, h24 = eb_sI h22 a0 4 0 → ∀ h26, h26 = eb_sI h24 a0 5 0 → ∀ h28, h28 = eb_sI h26 a0 6 0 → ∀ h30, h30 = eb_sI h28 a0 7 0 → ∀ h32, h32 = eb_sI h30 a0 8 0 → ∀ h34, h34 = eb_sI h32 a0 9 1 → ∀ h36, h36 = eb_sI h34 a0 10 1 → Q none h36)) : eb_Sn (d + 1) m_X3_init h0 0 [(0, .ref a0)] [] h Q := by
  refine eb_aload_n (pc := 0) (n := 0) (i := 0) rfl rfl rfl ?_
  refine eb_objInit (pc := 1) rfl (by decide +kernel) (by omega) (Nat.le_of_ble_eq_true rfl) ?_
  refine eb_aload_n (pc := 4) (n := 0) (i := 0) rfl rfl rfl ?_
  refine eb_new (pc := 5) rfl (by decide) ?_
  obtain ⟨r3, e4⟩ : ∃ z, z = eb_nx h 7 0 := ⟨_, rfl⟩
  rw [← e4]
  replace w := w r3 e4
  obtain ⟨h1, e2⟩ : ∃ z, z = eb_nw h 7 0 (eb_nf 7) := ⟨_, rfl⟩
  rw [← e2]
  replace w := w h1 e2
  refine eb_dupr (pc := 8) rfl ?_
  refine eb_ctI (pc := 9) (As := []) (rest := [.ref r3, .ref a0]) rfl (by decide) (by decide) rfl rfl rfl rfl (Nat.le_of_ble_eq_true rfl) ?_
  refine eb_Ct.mono w ?_
  rintro r h5 ⟨rfl, w⟩
  change eb_Sn _ _ _ 12 _ [.ref r3, .ref a0] _ _
  refine eb_putR (pc := 12) rfl ka0 (by decide) (by decide) rfl (Or.inr ⟨rfl, rfl, rfl⟩) (eb_k20 (c := 7) (by rw [e4]; exact eb_mk_kd (by decide)) (by decide)) ?_
  obtain ⟨h8, e9⟩ : ∃ z, z = eb_sR h5 a0 0 (some r3) := ⟨_, rfl⟩
  rw [← e9]
  replace w := w h8 e9
  refine eb_aload_n (pc := 15) (n := 0) (i := 0) rfl rfl rfl ?_
  refine eb_sipush (pc := 16) (n := 900) (v := 900) rfl rfl ?_
  refine eb_newI (pc := 19) (kd := 13) (len := 900) rfl rfl (by decide) (by decide) rfl (by decide) ?_
  obtain ⟨r12, e13⟩ : ∃ z, z = eb_nx h8 13 900 := ⟨_, rfl⟩
  rw [← e13]
  replace w := w r12 e13
  obtain ⟨h10, e11⟩ : ∃ z, z = eb_nw h8 13 900 900 := ⟨_, rfl⟩
  rw [← e11]
  replace w := w h10 e11
  refine eb_putR (pc := 21) rfl ka0 (by decide) (by decide) rfl (Or.inr ⟨rfl, rfl, rfl⟩) (eb_k20 (c := 13) (by rw [e13]; exact eb_mk_kd (by decide)) (by decide)) ?_
  obtain ⟨h14, e15⟩ : ∃ z, z = eb_sR h10 a0 1 (some r12) := ⟨_, rfl⟩
  rw [← e15]
  replace w := w h14 e15
  refine eb_aload_n (pc := 24) (n := 0) (i := 0) rfl rfl rfl ?_
  refine eb_bipush (pc := 25) (n := 32) (v := 32) rfl rfl ?_
  refine eb_newI (pc := 27) (kd := 13) (len := 32) rfl rfl (by decide) (by decide) rfl (by decide) ?_
  obtain ⟨r18, e19⟩ : ∃ z, z = eb_nx h14 13 32 := ⟨_, rfl⟩
  rw [← e19]
  replace w := w r18 e19
  obtain ⟨h16, e17⟩ : ∃ z, z = eb_nw h14 13 32 32 := ⟨_, rfl⟩
  rw [← e17]
  replace w := w h16 e17
  refine eb_putR (pc := 29) rfl ka0 (by decide) (by decide) rfl (Or.inr ⟨rfl, rfl, rfl⟩) (eb_k20 (c := 13) (by rw [e19]; exact eb_mk_kd (by decide)) (by decide)) ?_
  obtain ⟨h20, e21⟩ : ∃ z, z = eb_sR h16 a0 2 (some r18) := ⟨_, rfl⟩
  rw [← e21]
  replace w := w h20 e21
  refine eb_aload_n (pc := 32) (n := 0) (i := 0) rfl rfl rfl ?_
  refine eb_iconst (pc := 33) (n := 0) (v := 0) rfl rfl ?_
  refine eb_putI (pc := 34) rfl ka0 (by decide) (by decide) rfl rfl ⟨rfl, rfl⟩ ?_
  obtain ⟨h22, e23⟩ : ∃ z, z = eb_sI h20 a0 3 0 := ⟨_, rfl⟩
  rw [← e23]
  replace w := w h22 e23
  refine eb_aload_n (pc := 37) (n := 0) (i := 0) rfl rfl rfl ?_
  refine eb_iconst (pc := 38) (n := 0) (v := 0) rfl rfl ?_
  refine eb_putI (pc := 39) rfl ka0 (by decide) (by decide) rfl rfl ⟨rfl, rfl⟩ ?_
  obtain ⟨h24, e25⟩ : ∃ z, z = eb_sI h22 a0 4 0 := ⟨_, rfl⟩
  rw [← e25]
  replace w := w h24 e25
  refine eb_aload_n (pc := 42) (n := 0) (i := 0) rfl rfl rfl ?_
  refine eb_iconst (pc := 43) (n := 0) (v := 0) rfl rfl ?_
  refine eb_putI (pc := 44) rfl ka0 (by decide) (by decide) rfl rfl ⟨rfl, rfl⟩ ?_
  obtain ⟨h26, e27⟩ : ∃ z, z = eb_sI h24 a0 5 0 := ⟨_, rfl⟩
  rw [← e27]
  replace w := w h26 e27
  refine eb_aload_n (pc := 47) (n := 0) (i := 0) rfl rfl rfl ?_
  refine eb_iconst (pc := 48) (n := 0) (v := 0) rfl rfl ?_
  refine eb_putI (pc := 49) rfl ka0 (by decide) (by decide) rfl rfl ⟨rfl, rfl⟩ ?_
  obtain ⟨h28, e29⟩ : ∃ z, z = eb_sI h26 a0 6 0 := ⟨_, rfl⟩
  rw [← e29]
  replace w := w h28 e29
  refine eb_aload_n (pc := 52) (n := 0) (i := 0) rfl rfl rfl ?_
  refine eb_iconst (pc := 53) (n := 0) (v := 0) rfl rfl ?_
  refine eb_putI (pc := 54) rfl ka0 (by decide) (by decide) rfl rfl ⟨rfl, rfl⟩ ?_
  obtain ⟨h30, e31⟩ : ∃ z, z = eb_sI h28 a0 7 0 := ⟨_, rfl⟩
  rw [← e31]
  replace w := w h30 e31
  refine eb_aload_n (pc := 57) (n := 0) (i := 0) rfl rfl rfl ?_
  refine eb_iconst (pc := 58) (n := 0) (v := 0) rfl rfl ?_
  refine eb_putI (pc := 59) rfl ka0 (by decide) (by decide) rfl rfl ⟨rfl, rfl⟩ ?_
  obtain ⟨h32, e33⟩ : ∃ z, z = eb_sI h30 a0 8 0 := ⟨_, rfl⟩
  rw [← e33]
  replace w := w h32 e33
  refine eb_aload_n (pc := 62) (n := 0) (i := 0) rfl rfl rfl ?_
  refine eb_iconst (pc := 63) (n := 1) (v := 1) rfl rfl ?_
  refine eb_putI (pc := 64) rfl ka0 (by decide) (by decide) rfl rfl ⟨rfl, rfl⟩ ?_
  obtain ⟨h34, e35⟩ : ∃ z, z = eb_sI h32 a0 9 1 := ⟨_, rfl⟩
  rw [← e35]
  replace w := w h34 e35
  refine eb_aload_n (pc := 67) (n := 0) (i := 0) rfl rfl rfl ?_
  refine eb_iconst (pc := 68) (n := 1) (v := 1) rfl rfl ?_
  refine eb_putI (pc := 69) rfl ka0 (by decide) (by decide) rfl rfl ⟨rfl, rfl⟩ ?_
  obtain ⟨h36, e37⟩ : ∃ z, z = eb_sI h34 a0 10 1 := ⟨_, rfl⟩
  rw [← e37]
  replace w := w h36 e37
  exact eb_return (pc := 72) rfl rfl w
theorem T_X3_init {d : Nat} {h : eb_H} {Q : Option Value → eb_H → Prop} (a0 : Nat) (ka0 : eb_kd a0 = 3) (w : ∀ r3, r3 = eb_nx h 7 0 → ∀ h1, h1 = eb_nw h 7 0 (eb_nf 7) → eb_Ct d 65 [.ref r3] h1 (fun r h5 => r = none ∧ ∀ h8, h8 = eb_sR h5 a0 0 (some r3) → ∀ r12, r12 = eb_nx h8 13 900 → ∀ h10, h10 = eb_nw h8 13 900 900 → ∀ h14, h14 = eb_sR h10 a0 1 (some r12) → ∀ r18, r18 = eb_nx h14 13 32 → ∀ h16, h16 = eb_nw h14 13 32 32 → ∀ h20, h20 = eb_sR h16 a0 2 (some r18) → ∀ h22, h22 = eb_sI h20 a0 3 0 → ∀ h24, h24 = eb_sI h22 a0 4 0 → ∀ h26, h26 = eb_sI h24 a0 5 0 → ∀ h28, h28 = eb_sI h26 a0 6 0 → ∀ h30, h30 = eb_sI h28 a0 7 0 → ∀ h32, h32 = eb_sI h30 a0 8 0 → ∀ h34, h34 = eb_sI h32 a0 9 1 → ∀ h36, h36 = eb_sI h34 a0 10 1 → Q none h36)) : eb_Ct (d + 1) 27 [.ref a0] h Q :=
  eb_bodyQ (by decide) ok_X3_init (Nat.le_of_ble_eq_true rfl) (b_X3_init_0 (h0 := h) a0 ka0 w)
theorem b_X3_readTruth_0 {d : Nat} {h0 h : eb_H} {Q : Option Value → eb_H → Prop} (x1 : Int32)  (ko : eb_KO h) (w : eb_Ct d 29 [.ref s_reader_laws] h (fun r h1 => r = none ∧ eb_KO h1 ∧ eb_Ct d 69 [.ref s_tape] h1 (fun r h4 => r = none ∧ eb_KO h4 ∧ eb_Ct d 72 [.ref s_tape, .ref (eb_mk 1 21 0)] h4 (fun r h7 => ∃ y8, r = some (.int y8) ∧ eb_KO h7 ∧ ((¬ y8 = 0 → eb_Ct d 69 [.ref s_tape] h7 (fun r h11 => r = none ∧ eb_KO h11 ∧ eb_Sn (d + 1) m_X3_readTruth h0 40 [(0, .ref s_reader_laws), (1, .int x1), (2, .int 0)] [] h11 Q)) ∧ (y8 = 0 → eb_Ct d 68 [.ref s_tape, .int 2] h7 (fun r h14 => r = none ∧ eb_KO h14 ∧ eb_Ct d 69 [.ref s_tape] h14 (fun r h17 => r = none ∧ eb_KO h17 ∧ eb_Sn (d + 1) m_X3_readTruth h0 40 [(0, .ref s_reader_laws), (1, .int x1), (2, .int 0)] [] h17 Q)))))))) : eb_Sn (d + 1) m_X3_readTruth h0 0 [(0, .ref s_reader_laws), (1, .int x1)] [] h Q := by
  refine eb_aload_n (pc := 0) (n := 0) (i := 0) rfl rfl rfl ?_
  refine eb_ctV (pc := 1) (As := []) (rest := []) rfl (by decide) rfl rfl (by decide) rfl (Nat.le_of_ble_eq_true rfl) ?_
  refine eb_Ct.mono w ?_
  rintro r h1 ⟨rfl, ko3, w⟩
  change eb_Sn _ _ _ 4 _ [] _ _
  refine eb_aload_n (pc := 4) (n := 0) (i := 0) rfl rfl rfl ?_
  refine eb_getR (pc := 5) rfl rfl (by decide) (by decide) rfl (ko_s_reader_laws_0 ko3) ?_
  refine eb_ctV (pc := 8) (As := []) (rest := []) rfl (by decide) rfl rfl (by decide) rfl (Nat.le_of_ble_eq_true rfl) ?_
  refine eb_Ct.mono w ?_
  rintro r h4 ⟨rfl, ko6, w⟩
  change eb_Sn _ _ _ 11 _ [] _ _
  refine eb_aload_n (pc := 11) (n := 0) (i := 0) rfl rfl rfl ?_
  refine eb_getR (pc := 12) rfl rfl (by decide) (by decide) rfl (ko_s_reader_laws_0 ko6) ?_
  refine eb_ldcS (pc := 15) (a := 1) (i := eb_mk 1 21 0) rfl rfl rfl ?_
  refine eb_ctV (pc := 17) (As := [.ref (eb_mk 1 21 0)]) (rest := []) rfl (by decide) rfl rfl (by decide) rfl (Nat.le_of_ble_eq_true rfl) ?_
  refine eb_Ct.mono w ?_
  rintro r h7 ⟨y8, rfl, ko9, w⟩
  change eb_Sn _ _ _ 20 _ [.int y8] _ _
  refine eb_if_ne (pc := 20) (tgt := 31) rfl (by decide) (fun c10 => ?_) (fun c10 => ?_)
  · replace w := w.1 c10
    refine eb_aload_n (pc := 31) (n := 0) (i := 0) rfl rfl rfl ?_
    refine eb_getR (pc := 32) rfl rfl (by decide) (by decide) rfl (ko_s_reader_laws_0 ko9) ?_
    refine eb_ctV (pc := 35) (As := []) (rest := []) rfl (by decide) rfl rfl (by decide) rfl (Nat.le_of_ble_eq_true rfl) ?_
    refine eb_Ct.mono w ?_
    rintro r h11 ⟨rfl, ko13, w⟩
    change eb_Sn _ _ _ 38 _ [] _ _
    refine eb_iconst (pc := 38) (n := 0) (v := 0) rfl rfl ?_
    refine eb_istore_n (pc := 39) (n := 2) (i := 2) (ls2 := [(2, .int 0), (0, .ref s_reader_laws), (1, .int x1)]) rfl (Nat.le_of_ble_eq_true rfl) rfl rfl ?_
    exact eb_pick [1, 2, 0] rfl w
  · replace w := w.2 c10
    refine eb_aload_n (pc := 23) (n := 0) (i := 0) rfl rfl rfl ?_
    refine eb_getR (pc := 24) rfl rfl (by decide) (by decide) rfl (ko_s_reader_laws_0 ko9) ?_
    refine eb_iconst (pc := 27) (n := 2) (v := 2) rfl rfl ?_
    refine eb_ctV (pc := 28) (As := [.int 2]) (rest := []) rfl (by decide) rfl rfl (by decide) rfl (Nat.le_of_ble_eq_true rfl) ?_
    refine eb_Ct.mono w ?_
    rintro r h14 ⟨rfl, ko16, w⟩
    change eb_Sn _ _ _ 31 _ [] _ _
    refine eb_aload_n (pc := 31) (n := 0) (i := 0) rfl rfl rfl ?_
    refine eb_getR (pc := 32) rfl rfl (by decide) (by decide) rfl (ko_s_reader_laws_0 ko16) ?_
    refine eb_ctV (pc := 35) (As := []) (rest := []) rfl (by decide) rfl rfl (by decide) rfl (Nat.le_of_ble_eq_true rfl) ?_
    refine eb_Ct.mono w ?_
    rintro r h17 ⟨rfl, ko19, w⟩
    change eb_Sn _ _ _ 38 _ [] _ _
    refine eb_iconst (pc := 38) (n := 0) (v := 0) rfl rfl ?_
    refine eb_istore_n (pc := 39) (n := 2) (i := 2) (ls2 := [(2, .int 0), (0, .ref s_reader_laws), (1, .int x1)]) rfl (Nat.le_of_ble_eq_true rfl) rfl rfl ?_
    exact eb_pick [1, 2, 0] rfl w
theorem b_X3_readTruth_40 {d : Nat} {h0 h : eb_H} {Q : Option Value → eb_H → Prop} (x1 : Int32) (x2 : Int32)  (ko : eb_KO h) (w : (((900 : Int32) ≤ x2 → eb_Ct d 37 [.ref s_reader_laws, .int 1020] h (fun r h2 => r = none ∧ eb_KO h2 ∧ (89 ≤ eb_n h2) ∧ eb_Ct d 303 [.ref s_reader_laws_codes, .int (eb_I (eb_nw h2 2 0 (eb_nf 2)) s_reader_laws 3)] (eb_nw h2 2 0 (eb_nf 2)) (fun r h6 => ∃ y7, r = some (.ref y7) ∧ eb_KO h6 ∧ eb_Ct d 24 [.ref (eb_nx h2 2 0), .ref y7] h6 (fun r h9 => r = none ∧ eb_KO h9 ∧ Q (some (.ref (eb_nx h2 2 0))) h9)))) ∧ (¬ ((900 : Int32) ≤ x2) → ((¬ (eb_I h s_tape 7) = 0 → eb_Ct d 37 [.ref s_reader_laws, .int 1020] h (fun r h13 => r = none ∧ eb_KO h13 ∧ (89 ≤ eb_n h13) ∧ eb_Ct d 303 [.ref s_reader_laws_codes, .int (eb_I (eb_nw h13 2 0 (eb_nf 2)) s_reader_laws 3)] (eb_nw h13 2 0 (eb_nf 2)) (fun r h17 => ∃ y18, r = some (.ref y18) ∧ eb_KO h17 ∧ eb_Ct d 24 [.ref (eb_nx h13 2 0), .ref y18] h17 (fun r h20 => r = none ∧ eb_KO h20 ∧ Q (some (.ref (eb_nx h13 2 0))) h20)))) ∧ ((eb_I h s_tape 7) = 0 → eb_Ct d 30 [.ref s_reader_laws] h (fun r h23 => ∃ y24, r = some (.int y24) ∧ eb_KO h23 ∧ ((¬ y24 = 0 → eb_Ct d 37 [.ref s_reader_laws, .int 1020] h23 (fun r h27 => r = none ∧ eb_KO h27 ∧ (89 ≤ eb_n h27) ∧ eb_Ct d 303 [.ref s_reader_laws_codes, .int (eb_I (eb_nw h27 2 0 (eb_nf 2)) s_reader_laws 3)] (eb_nw h27 2 0 (eb_nf 2)) (fun r h31 => ∃ y32, r = some (.ref y32) ∧ eb_KO h31 ∧ eb_Ct d 24 [.ref (eb_nx h27 2 0), .ref y32] h31 (fun r h34 => r = none ∧ eb_KO h34 ∧ Q (some (.ref (eb_nx h27 2 0))) h34)))) ∧ (y24 = 0 → eb_Ct d 31 [.ref s_reader_laws, .int x1] h23 (fun r h37 => ∃ y38, r = some (.int y38) ∧ eb_KO h37 ∧ (((eb_I h37 s_reader_laws 9) = 0 → eb_Ct d 35 [.ref s_reader_laws, .int y38] h37 (fun r h41 => ∃ y42, r = some (.int y42) ∧ eb_KO h41 ∧ ((¬ y42 = 0 → eb_Ct d 69 [.ref s_tape] h41 (fun r h45 => r = none ∧ eb_KO h45 ∧ eb_Sn (d + 1) m_X3_readTruth h0 40 [(0, .ref s_reader_laws), (1, .int x1), (2, .int (x2 + 1))] [] h45 Q)) ∧ (y42 = 0 → eb_Ct d 68 [.ref s_tape, .int 2] h41 (fun r h48 => r = none ∧ eb_KO h48 ∧ eb_Ct d 69 [.ref s_tape] h48 (fun r h51 => r = none ∧ eb_KO h51 ∧ eb_Sn (d + 1) m_X3_readTruth h0 40 [(0, .ref s_reader_laws), (1, .int x1), (2, .int (x2 + 1))] [] h51 Q)))))) ∧ (¬ ((eb_I h37 s_reader_laws 9) = 0) → eb_Ct d 34 [.ref s_reader_laws, .int y38] h37 (fun r h54 => ∃ y55, r = some (.int y55) ∧ eb_KO h54 ∧ ((¬ y55 = 0 → eb_Ct d 69 [.ref s_tape] h54 (fun r h58 => r = none ∧ eb_KO h58 ∧ eb_Sn (d + 1) m_X3_readTruth h0 40 [(0, .ref s_reader_laws), (1, .int x1), (2, .int (x2 + 1))] [] h58 Q)) ∧ (y55 = 0 → eb_Ct d 68 [.ref s_tape, .int 2] h54 (fun r h61 => r = none ∧ eb_KO h61 ∧ eb_Ct d 69 [.ref s_tape] h61 (fun r h64 => r = none ∧ eb_KO h64 ∧ eb_Sn (d + 1) m_X3_readTruth h0 40 [(0, .ref s_reader_laws), (1, .int x1), (2, .int (x2 + 1))] [] h64 Q)))))))))))))))) : eb_Sn (d + 1) m_X3_readTruth h0 40 [(0, .ref s_reader_laws), (1, .int x1), (2, .int x2)] [] h Q := by
  refine eb_iload_n (pc := 40) (n := 2) (i := 2) rfl rfl rfl ?_
  refine eb_sipush (pc := 41) (n := 900) (v := 900) rfl rfl ?_
  refine eb_icmp_ge (pc := 44) (tgt := 118) rfl (by decide) (fun c1 => ?_) (fun c1 => ?_)
  · replace w := w.1 c1
    refine eb_aload_n (pc := 118) (n := 0) (i := 0) rfl rfl rfl ?_
    refine eb_sipush (pc := 119) (n := 1020) (v := 1020) rfl rfl ?_
    refine eb_ctV (pc := 122) (As := [.int 1020]) (rest := []) rfl (by decide) rfl rfl (by decide) rfl (Nat.le_of_ble_eq_true rfl) ?_
    refine eb_Ct.mono w ?_
    rintro r h2 ⟨rfl, ko4, w⟩
    change eb_Sn _ _ _ 125 _ [] _ _
    obtain ⟨c5, w⟩ := w
    refine eb_new (pc := 125) rfl (by decide) ?_
    refine eb_dupr (pc := 128) rfl ?_
    refine eb_aload_n (pc := 129) (n := 0) (i := 0) rfl rfl rfl ?_
    refine eb_getR (pc := 130) rfl rfl (by decide) (by decide) rfl (ko_s_reader_laws_1 (ko_nw c5 ko4)) ?_
    refine eb_aload_n (pc := 133) (n := 0) (i := 0) rfl rfl rfl ?_
    refine eb_getI (pc := 134) rfl rfl (by decide) (by decide) rfl ?_
    refine eb_ctS (pc := 137) (As := [.ref s_reader_laws_codes, .int (eb_I (eb_nw h2 2 0 (eb_nf 2)) s_reader_laws 3)]) (rest := [.ref (eb_nx h2 2 0), .ref (eb_nx h2 2 0)]) rfl (by decide) (by decide) rfl rfl (Nat.le_of_ble_eq_true rfl) ?_
    refine eb_Ct.mono w ?_
    rintro r h6 ⟨y7, rfl, ko8, w⟩
    change eb_Sn _ _ _ 140 _ [.ref y7, .ref (eb_nx h2 2 0), .ref (eb_nx h2 2 0)] _ _
    refine eb_ctI (pc := 140) (As := [.ref y7]) (rest := [.ref (eb_nx h2 2 0)]) rfl (by decide) (by decide) rfl rfl rfl rfl (Nat.le_of_ble_eq_true rfl) ?_
    refine eb_Ct.mono w ?_
    rintro r h9 ⟨rfl, ko11, w⟩
    change eb_Sn _ _ _ 143 _ [.ref (eb_nx h2 2 0)] _ _
    exact eb_areturn (pc := 143) rfl rfl rfl w
  · replace w := w.2 c1
    refine eb_aload_n (pc := 47) (n := 0) (i := 0) rfl rfl rfl ?_
    refine eb_getR (pc := 48) rfl rfl (by decide) (by decide) rfl (ko_s_reader_laws_0 ko) ?_
    refine eb_getI (pc := 51) rfl rfl (by decide) (by decide) rfl ?_
    refine eb_if_ne (pc := 54) (tgt := 118) rfl (by decide) (fun c12 => ?_) (fun c12 => ?_)
    · replace w := w.1 c12
      refine eb_aload_n (pc := 118) (n := 0) (i := 0) rfl rfl rfl ?_
      refine eb_sipush (pc := 119) (n := 1020) (v := 1020) rfl rfl ?_
      refine eb_ctV (pc := 122) (As := [.int 1020]) (rest := []) rfl (by decide) rfl rfl (by decide) rfl (Nat.le_of_ble_eq_true rfl) ?_
      refine eb_Ct.mono w ?_
      rintro r h13 ⟨rfl, ko15, w⟩
      change eb_Sn _ _ _ 125 _ [] _ _
      obtain ⟨c16, w⟩ := w
      refine eb_new (pc := 125) rfl (by decide) ?_
      refine eb_dupr (pc := 128) rfl ?_
      refine eb_aload_n (pc := 129) (n := 0) (i := 0) rfl rfl rfl ?_
      refine eb_getR (pc := 130) rfl rfl (by decide) (by decide) rfl (ko_s_reader_laws_1 (ko_nw c16 ko15)) ?_
      refine eb_aload_n (pc := 133) (n := 0) (i := 0) rfl rfl rfl ?_
      refine eb_getI (pc := 134) rfl rfl (by decide) (by decide) rfl ?_
      refine eb_ctS (pc := 137) (As := [.ref s_reader_laws_codes, .int (eb_I (eb_nw h13 2 0 (eb_nf 2)) s_reader_laws 3)]) (rest := [.ref (eb_nx h13 2 0), .ref (eb_nx h13 2 0)]) rfl (by decide) (by decide) rfl rfl (Nat.le_of_ble_eq_true rfl) ?_
      refine eb_Ct.mono w ?_
      rintro r h17 ⟨y18, rfl, ko19, w⟩
      change eb_Sn _ _ _ 140 _ [.ref y18, .ref (eb_nx h13 2 0), .ref (eb_nx h13 2 0)] _ _
      refine eb_ctI (pc := 140) (As := [.ref y18]) (rest := [.ref (eb_nx h13 2 0)]) rfl (by decide) (by decide) rfl rfl rfl rfl (Nat.le_of_ble_eq_true rfl) ?_
      refine eb_Ct.mono w ?_
      rintro r h20 ⟨rfl, ko22, w⟩
      change eb_Sn _ _ _ 143 _ [.ref (eb_nx h13 2 0)] _ _
      exact eb_areturn (pc := 143) rfl rfl rfl w
    · replace w := w.2 c12
      refine eb_aload_n (pc := 57) (n := 0) (i := 0) rfl rfl rfl ?_
      refine eb_ctV (pc := 58) (As := []) (rest := []) rfl (by decide) rfl rfl (by decide) rfl (Nat.le_of_ble_eq_true rfl) ?_
      refine eb_Ct.mono w ?_
      rintro r h23 ⟨y24, rfl, ko25, w⟩
      change eb_Sn _ _ _ 61 _ [.int y24] _ _
      refine eb_if_ne (pc := 61) (tgt := 118) rfl (by decide) (fun c26 => ?_) (fun c26 => ?_)
      · replace w := w.1 c26
        refine eb_aload_n (pc := 118) (n := 0) (i := 0) rfl rfl rfl ?_
        refine eb_sipush (pc := 119) (n := 1020) (v := 1020) rfl rfl ?_
        refine eb_ctV (pc := 122) (As := [.int 1020]) (rest := []) rfl (by decide) rfl rfl (by decide) rfl (Nat.le_of_ble_eq_true rfl) ?_
        refine eb_Ct.mono w ?_
        rintro r h27 ⟨rfl, ko29, w⟩
        change eb_Sn _ _ _ 125 _ [] _ _
        obtain ⟨c30, w⟩ := w
        refine eb_new (pc := 125) rfl (by decide) ?_
        refine eb_dupr (pc := 128) rfl ?_
        refine eb_aload_n (pc := 129) (n := 0) (i := 0) rfl rfl rfl ?_
        refine eb_getR (pc := 130) rfl rfl (by decide) (by decide) rfl (ko_s_reader_laws_1 (ko_nw c30 ko29)) ?_
        refine eb_aload_n (pc := 133) (n := 0) (i := 0) rfl rfl rfl ?_
        refine eb_getI (pc := 134) rfl rfl (by decide) (by decide) rfl ?_
        refine eb_ctS (pc := 137) (As := [.ref s_reader_laws_codes, .int (eb_I (eb_nw h27 2 0 (eb_nf 2)) s_reader_laws 3)]) (rest := [.ref (eb_nx h27 2 0), .ref (eb_nx h27 2 0)]) rfl (by decide) (by decide) rfl rfl (Nat.le_of_ble_eq_true rfl) ?_
        refine eb_Ct.mono w ?_
        rintro r h31 ⟨y32, rfl, ko33, w⟩
        change eb_Sn _ _ _ 140 _ [.ref y32, .ref (eb_nx h27 2 0), .ref (eb_nx h27 2 0)] _ _
        refine eb_ctI (pc := 140) (As := [.ref y32]) (rest := [.ref (eb_nx h27 2 0)]) rfl (by decide) (by decide) rfl rfl rfl rfl (Nat.le_of_ble_eq_true rfl) ?_
        refine eb_Ct.mono w ?_
        rintro r h34 ⟨rfl, ko36, w⟩
        change eb_Sn _ _ _ 143 _ [.ref (eb_nx h27 2 0)] _ _
        exact eb_areturn (pc := 143) rfl rfl rfl w
      · replace w := w.2 c26
        refine eb_aload_n (pc := 64) (n := 0) (i := 0) rfl rfl rfl ?_
        refine eb_iload_n (pc := 65) (n := 1) (i := 1) rfl rfl rfl ?_
        refine eb_ctV (pc := 66) (As := [.int x1]) (rest := []) rfl (by decide) rfl rfl (by decide) rfl (Nat.le_of_ble_eq_true rfl) ?_
        refine eb_Ct.mono w ?_
        rintro r h37 ⟨y38, rfl, ko39, w⟩
        change eb_Sn _ _ _ 69 _ [.int y38] _ _
        refine eb_istore_n (pc := 69) (n := 3) (i := 3) (ls2 := [(3, .int y38), (0, .ref s_reader_laws), (1, .int x1), (2, .int x2)]) rfl (Nat.le_of_ble_eq_true rfl) rfl rfl ?_
        refine eb_aload_n (pc := 70) (n := 0) (i := 0) rfl rfl rfl ?_
        refine eb_getI (pc := 71) rfl rfl (by decide) (by decide) rfl ?_
        refine eb_if_eq (pc := 74) (tgt := 85) rfl (by decide) (fun c40 => ?_) (fun c40 => ?_)
        · replace w := w.1 c40
          refine eb_aload_n (pc := 85) (n := 0) (i := 0) rfl rfl rfl ?_
          refine eb_iload_n (pc := 86) (n := 3) (i := 3) rfl rfl rfl ?_
          refine eb_ctV (pc := 87) (As := [.int y38]) (rest := []) rfl (by decide) rfl rfl (by decide) rfl (Nat.le_of_ble_eq_true rfl) ?_
          refine eb_Ct.mono w ?_
          rintro r h41 ⟨y42, rfl, ko43, w⟩
          change eb_Sn _ _ _ 90 _ [.int y42] _ _
          refine eb_istore (pc := 90) (i := 4) (ls2 := [(4, .int y42), (3, .int y38), (0, .ref s_reader_laws), (1, .int x1), (2, .int x2)]) (Nat.le_of_ble_eq_true rfl) rfl rfl ?_
          refine eb_iload (pc := 92) (i := 4) rfl rfl ?_
          refine eb_if_ne (pc := 94) (tgt := 105) rfl (by decide) (fun c44 => ?_) (fun c44 => ?_)
          · replace w := w.1 c44
            refine eb_aload_n (pc := 105) (n := 0) (i := 0) rfl rfl rfl ?_
            refine eb_getR (pc := 106) rfl rfl (by decide) (by decide) rfl (ko_s_reader_laws_0 ko43) ?_
            refine eb_ctV (pc := 109) (As := []) (rest := []) rfl (by decide) rfl rfl (by decide) rfl (Nat.le_of_ble_eq_true rfl) ?_
            refine eb_Ct.mono w ?_
            rintro r h45 ⟨rfl, ko47, w⟩
            change eb_Sn _ _ _ 112 _ [] _ _
            refine eb_iinc (pc := 112) (i := 2) (n := 1) (v := x2 + 1) (ls2 := [(2, .int (x2 + 1)), (4, .int y42), (3, .int y38), (0, .ref s_reader_laws), (1, .int x1)]) (Nat.le_of_ble_eq_true rfl) rfl rfl rfl rfl ?_
            refine eb_goto (pc := 115) (tgt := 40) rfl (by decide) ?_
            exact eb_pick [3, 4, 0] rfl w
          · replace w := w.2 c44
            refine eb_aload_n (pc := 97) (n := 0) (i := 0) rfl rfl rfl ?_
            refine eb_getR (pc := 98) rfl rfl (by decide) (by decide) rfl (ko_s_reader_laws_0 ko43) ?_
            refine eb_iconst (pc := 101) (n := 2) (v := 2) rfl rfl ?_
            refine eb_ctV (pc := 102) (As := [.int 2]) (rest := []) rfl (by decide) rfl rfl (by decide) rfl (Nat.le_of_ble_eq_true rfl) ?_
            refine eb_Ct.mono w ?_
            rintro r h48 ⟨rfl, ko50, w⟩
            change eb_Sn _ _ _ 105 _ [] _ _
            refine eb_aload_n (pc := 105) (n := 0) (i := 0) rfl rfl rfl ?_
            refine eb_getR (pc := 106) rfl rfl (by decide) (by decide) rfl (ko_s_reader_laws_0 ko50) ?_
            refine eb_ctV (pc := 109) (As := []) (rest := []) rfl (by decide) rfl rfl (by decide) rfl (Nat.le_of_ble_eq_true rfl) ?_
            refine eb_Ct.mono w ?_
            rintro r h51 ⟨rfl, ko53, w⟩
            change eb_Sn _ _ _ 112 _ [] _ _
            refine eb_iinc (pc := 112) (i := 2) (n := 1) (v := x2 + 1) (ls2 := [(2, .int (x2 + 1)), (4, .int y42), (3, .int y38), (0, .ref s_reader_laws), (1, .int x1)]) (Nat.le_of_ble_eq_true rfl) rfl rfl rfl rfl ?_
            refine eb_goto (pc := 115) (tgt := 40) rfl (by decide) ?_
            exact eb_pick [3, 4, 0] rfl w
        · replace w := w.2 c40
          refine eb_aload_n (pc := 77) (n := 0) (i := 0) rfl rfl rfl ?_
          refine eb_iload_n (pc := 78) (n := 3) (i := 3) rfl rfl rfl ?_
          refine eb_ctV (pc := 79) (As := [.int y38]) (rest := []) rfl (by decide) rfl rfl (by decide) rfl (Nat.le_of_ble_eq_true rfl) ?_
          refine eb_Ct.mono w ?_
          rintro r h54 ⟨y55, rfl, ko56, w⟩
          change eb_Sn _ _ _ 82 _ [.int y55] _ _
          refine eb_goto (pc := 82) (tgt := 90) rfl (by decide) ?_
          refine eb_istore (pc := 90) (i := 4) (ls2 := [(4, .int y55), (3, .int y38), (0, .ref s_reader_laws), (1, .int x1), (2, .int x2)]) (Nat.le_of_ble_eq_true rfl) rfl rfl ?_
          refine eb_iload (pc := 92) (i := 4) rfl rfl ?_
          refine eb_if_ne (pc := 94) (tgt := 105) rfl (by decide) (fun c57 => ?_) (fun c57 => ?_)
          · replace w := w.1 c57
            refine eb_aload_n (pc := 105) (n := 0) (i := 0) rfl rfl rfl ?_
            refine eb_getR (pc := 106) rfl rfl (by decide) (by decide) rfl (ko_s_reader_laws_0 ko56) ?_
            refine eb_ctV (pc := 109) (As := []) (rest := []) rfl (by decide) rfl rfl (by decide) rfl (Nat.le_of_ble_eq_true rfl) ?_
            refine eb_Ct.mono w ?_
            rintro r h58 ⟨rfl, ko60, w⟩
            change eb_Sn _ _ _ 112 _ [] _ _
            refine eb_iinc (pc := 112) (i := 2) (n := 1) (v := x2 + 1) (ls2 := [(2, .int (x2 + 1)), (4, .int y55), (3, .int y38), (0, .ref s_reader_laws), (1, .int x1)]) (Nat.le_of_ble_eq_true rfl) rfl rfl rfl rfl ?_
            refine eb_goto (pc := 115) (tgt := 40) rfl (by decide) ?_
            exact eb_pick [3, 4, 0] rfl w
          · replace w := w.2 c57
            refine eb_aload_n (pc := 97) (n := 0) (i := 0) rfl rfl rfl ?_
            refine eb_getR (pc := 98) rfl rfl (by decide) (by decide) rfl (ko_s_reader_laws_0 ko56) ?_
            refine eb_iconst (pc := 101) (n := 2) (v := 2) rfl rfl ?_
            refine eb_ctV (pc := 102) (As := [.int 2]) (rest := []) rfl (by decide) rfl rfl (by decide) rfl (Nat.le_of_ble_eq_true rfl) ?_
            refine eb_Ct.mono w ?_
            rintro r h61 ⟨rfl, ko63, w⟩
            change eb_Sn _ _ _ 105 _ [] _ _
            refine eb_aload_n (pc := 105) (n := 0) (i := 0) rfl rfl rfl ?_
            refine eb_getR (pc := 106) rfl rfl (by decide) (by decide) rfl (ko_s_reader_laws_0 ko63) ?_
            refine eb_ctV (pc := 109) (As := []) (rest := []) rfl (by decide) rfl rfl (by decide) rfl (Nat.le_of_ble_eq_true rfl) ?_
            refine eb_Ct.mono w ?_
            rintro r h64 ⟨rfl, ko66, w⟩
            change eb_Sn _ _ _ 112 _ [] _ _
            refine eb_iinc (pc := 112) (i := 2) (n := 1) (v := x2 + 1) (ls2 := [(2, .int (x2 + 1)), (4, .int y55), (3, .int y38), (0, .ref s_reader_laws), (1, .int x1)]) (Nat.le_of_ble_eq_true rfl) rfl rfl rfl rfl ?_
            refine eb_goto (pc := 115) (tgt := 40) rfl (by decide) ?_
            exact eb_pick [3, 4, 0] rfl w
theorem T_X3_readTruth {d : Nat} {h : eb_H} {Q : Option Value → eb_H → Prop} (x1 : Int32)  (ko : eb_KO h) (w : eb_Ct d 29 [.ref s_reader_laws] h (fun r h1 => r = none ∧ eb_KO h1 ∧ eb_Ct d 69 [.ref s_tape] h1 (fun r h4 => r = none ∧ eb_KO h4 ∧ eb_Ct d 72 [.ref s_tape, .ref (eb_mk 1 21 0)] h4 (fun r h7 => ∃ y8, r = some (.int y8) ∧ eb_KO h7 ∧ ((¬ y8 = 0 → eb_Ct d 69 [.ref s_tape] h7 (fun r h11 => r = none ∧ eb_KO h11 ∧ eb_Sn (d + 1) m_X3_readTruth h 40 [(0, .ref s_reader_laws), (1, .int x1), (2, .int 0)] [] h11 Q)) ∧ (y8 = 0 → eb_Ct d 68 [.ref s_tape, .int 2] h7 (fun r h14 => r = none ∧ eb_KO h14 ∧ eb_Ct d 69 [.ref s_tape] h14 (fun r h17 => r = none ∧ eb_KO h17 ∧ eb_Sn (d + 1) m_X3_readTruth h 40 [(0, .ref s_reader_laws), (1, .int x1), (2, .int 0)] [] h17 Q)))))))) : eb_Ct (d + 1) 28 [.ref s_reader_laws, .int x1] h Q :=
  eb_bodyQ (by decide) ok_X3_readTruth (Nat.le_of_ble_eq_true rfl) (b_X3_readTruth_0 (h0 := h) x1  ko w)
theorem b_X3_clearAll_0 {d : Nat} {h0 h : eb_H} {Q : Option Value → eb_H → Prop}   (ko : eb_KO h) (w : Q none (eb_sI (eb_sI (eb_sI (eb_sI (eb_sI (eb_sI (eb_sI (eb_sI h s_reader_laws 3 0) s_reader_laws 4 0) s_reader_laws 5 0) s_reader_laws 6 0) s_reader_laws 7 0) s_reader_laws 8 0) s_reader_laws 9 1) s_reader_laws 10 1)) : eb_Sn d m_X3_clearAll h0 0 [(0, .ref s_reader_laws)] [] h Q := by
  refine eb_aload_n (pc := 0) (n := 0) (i := 0) rfl rfl rfl ?_
  refine eb_iconst (pc := 1) (n := 0) (v := 0) rfl rfl ?_
  refine eb_putI (pc := 2) rfl rfl (by decide) (by decide) rfl rfl ⟨rfl, rfl⟩ ?_
  refine eb_aload_n (pc := 5) (n := 0) (i := 0) rfl rfl rfl ?_
  refine eb_iconst (pc := 6) (n := 0) (v := 0) rfl rfl ?_
  refine eb_putI (pc := 7) rfl rfl (by decide) (by decide) rfl rfl ⟨rfl, rfl⟩ ?_
  refine eb_aload_n (pc := 10) (n := 0) (i := 0) rfl rfl rfl ?_
  refine eb_iconst (pc := 11) (n := 0) (v := 0) rfl rfl ?_
  refine eb_putI (pc := 12) rfl rfl (by decide) (by decide) rfl rfl ⟨rfl, rfl⟩ ?_
  refine eb_aload_n (pc := 15) (n := 0) (i := 0) rfl rfl rfl ?_
  refine eb_iconst (pc := 16) (n := 0) (v := 0) rfl rfl ?_
  refine eb_putI (pc := 17) rfl rfl (by decide) (by decide) rfl rfl ⟨rfl, rfl⟩ ?_
  refine eb_aload_n (pc := 20) (n := 0) (i := 0) rfl rfl rfl ?_
  refine eb_iconst (pc := 21) (n := 0) (v := 0) rfl rfl ?_
  refine eb_putI (pc := 22) rfl rfl (by decide) (by decide) rfl rfl ⟨rfl, rfl⟩ ?_
  refine eb_aload_n (pc := 25) (n := 0) (i := 0) rfl rfl rfl ?_
  refine eb_iconst (pc := 26) (n := 0) (v := 0) rfl rfl ?_
  refine eb_putI (pc := 27) rfl rfl (by decide) (by decide) rfl rfl ⟨rfl, rfl⟩ ?_
  refine eb_aload_n (pc := 30) (n := 0) (i := 0) rfl rfl rfl ?_
  refine eb_iconst (pc := 31) (n := 1) (v := 1) rfl rfl ?_
  refine eb_putI (pc := 32) rfl rfl (by decide) (by decide) rfl rfl ⟨rfl, rfl⟩ ?_
  refine eb_aload_n (pc := 35) (n := 0) (i := 0) rfl rfl rfl ?_
  refine eb_iconst (pc := 36) (n := 1) (v := 1) rfl rfl ?_
  refine eb_putI (pc := 37) rfl rfl (by decide) (by decide) rfl rfl ⟨rfl, rfl⟩ ?_
  exact eb_return (pc := 40) rfl rfl w
theorem T_X3_clearAll {d : Nat} {h : eb_H} {Q : Option Value → eb_H → Prop}   (ko : eb_KO h) (w : Q none (eb_sI (eb_sI (eb_sI (eb_sI (eb_sI (eb_sI (eb_sI (eb_sI h s_reader_laws 3 0) s_reader_laws 4 0) s_reader_laws 5 0) s_reader_laws 6 0) s_reader_laws 7 0) s_reader_laws 8 0) s_reader_laws 9 1) s_reader_laws 10 1)) : eb_Ct d 29 [.ref s_reader_laws] h Q :=
  eb_bodyQ (by decide) ok_X3_clearAll (Nat.le_of_ble_eq_true rfl) (b_X3_clearAll_0 (h0 := h)   ko w)
theorem b_X3_isOver_0 {d : Nat} {h0 h : eb_H} {Q : Option Value → eb_H → Prop}   (ko : eb_KO h) (w : eb_Ct d 72 [.ref s_tape, .ref (eb_mk 2 21 0)] h (fun r h1 => ∃ y2, r = some (.int y2) ∧ eb_KO h1 ∧ Q (some (.int (if y2 = 0 then 0 else (if (eb_I h1 s_reader_laws 9) = 0 then (if (eb_I h1 s_reader_laws 8) = 0 then 0 else (if (eb_I h1 s_reader_laws 6) = 0 then (if (eb_I h1 s_reader_laws 7) = 0 then 1 else 0) else 0)) else 0) : Int32))) h1)) : eb_Sn (d + 1) m_X3_isOver h0 0 [(0, .ref s_reader_laws)] [] h Q := by
  refine eb_aload_n (pc := 0) (n := 0) (i := 0) rfl rfl rfl ?_
  refine eb_getR (pc := 1) rfl rfl (by decide) (by decide) rfl (ko_s_reader_laws_0 ko) ?_
  refine eb_ldcS (pc := 4) (a := 2) (i := eb_mk 2 21 0) rfl rfl rfl ?_
  refine eb_ctV (pc := 6) (As := [.ref (eb_mk 2 21 0)]) (rest := []) rfl (by decide) rfl rfl (by decide) rfl (Nat.le_of_ble_eq_true rfl) ?_
  refine eb_Ct.mono w ?_
  rintro r h1 ⟨y2, rfl, ko3, w⟩
  change eb_Sn _ _ _ 9 _ [.int y2] _ _
  have jj9 : eb_Sn (d + 1) m_X3_isOver h0 45 [(0, .ref s_reader_laws)] [.int (if y2 = 0 then 0 else (if (eb_I h1 s_reader_laws 9) = 0 then (if (eb_I h1 s_reader_laws 8) = 0 then 0 else (if (eb_I h1 s_reader_laws 6) = 0 then (if (eb_I h1 s_reader_laws 7) = 0 then 1 else 0) else 0)) else 0) : Int32)] h1 Q := by
    exact eb_ireturn (pc := 45) rfl rfl (by (repeat' split) <;> rfl) w
  refine eb_if_eq (pc := 9) (tgt := 44) rfl (by decide) (fun c4 => ?_) (fun c4 => ?_)
  · refine eb_iconst (pc := 44) (n := 0) (v := 0) rfl rfl ?_
    simp only [if_pos c4] at jj9 ⊢
    exact jj9
  · refine eb_aload_n (pc := 12) (n := 0) (i := 0) rfl rfl rfl ?_
    refine eb_getI (pc := 13) rfl rfl (by decide) (by decide) rfl ?_
    refine eb_if_ne (pc := 16) (tgt := 44) rfl (by decide) (fun c5 => ?_) (fun c5 => ?_)
    · refine eb_iconst (pc := 44) (n := 0) (v := 0) rfl rfl ?_
      simp only [if_neg c4, if_neg c5] at jj9 ⊢
      exact jj9
    · refine eb_aload_n (pc := 19) (n := 0) (i := 0) rfl rfl rfl ?_
      refine eb_getI (pc := 20) rfl rfl (by decide) (by decide) rfl ?_
      refine eb_if_eq (pc := 23) (tgt := 44) rfl (by decide) (fun c6 => ?_) (fun c6 => ?_)
      · refine eb_iconst (pc := 44) (n := 0) (v := 0) rfl rfl ?_
        simp only [if_neg c4, if_pos c5, if_pos c6] at jj9 ⊢
        exact jj9
      · refine eb_aload_n (pc := 26) (n := 0) (i := 0) rfl rfl rfl ?_
        refine eb_getI (pc := 27) rfl rfl (by decide) (by decide) rfl ?_
        refine eb_if_ne (pc := 30) (tgt := 44) rfl (by decide) (fun c7 => ?_) (fun c7 => ?_)
        · refine eb_iconst (pc := 44) (n := 0) (v := 0) rfl rfl ?_
          simp only [if_neg c4, if_pos c5, if_neg c6, if_neg c7] at jj9 ⊢
          exact jj9
        · refine eb_aload_n (pc := 33) (n := 0) (i := 0) rfl rfl rfl ?_
          refine eb_getI (pc := 34) rfl rfl (by decide) (by decide) rfl ?_
          refine eb_if_ne (pc := 37) (tgt := 44) rfl (by decide) (fun c8 => ?_) (fun c8 => ?_)
          · refine eb_iconst (pc := 44) (n := 0) (v := 0) rfl rfl ?_
            simp only [if_neg c4, if_pos c5, if_neg c6, if_pos c7, if_neg c8] at jj9 ⊢
            exact jj9
          · refine eb_iconst (pc := 40) (n := 1) (v := 1) rfl rfl ?_
            refine eb_goto (pc := 41) (tgt := 45) rfl (by decide) ?_
            simp only [if_neg c4, if_pos c5, if_neg c6, if_pos c7, if_pos c8] at jj9 ⊢
            exact jj9
theorem T_X3_isOver {d : Nat} {h : eb_H} {Q : Option Value → eb_H → Prop}   (ko : eb_KO h) (w : eb_Ct d 72 [.ref s_tape, .ref (eb_mk 2 21 0)] h (fun r h1 => ∃ y2, r = some (.int y2) ∧ eb_KO h1 ∧ Q (some (.int (if y2 = 0 then 0 else (if (eb_I h1 s_reader_laws 9) = 0 then (if (eb_I h1 s_reader_laws 8) = 0 then 0 else (if (eb_I h1 s_reader_laws 6) = 0 then (if (eb_I h1 s_reader_laws 7) = 0 then 1 else 0) else 0)) else 0) : Int32))) h1)) : eb_Ct (d + 1) 30 [.ref s_reader_laws] h Q :=
  eb_bodyQ (by decide) ok_X3_isOver (Nat.le_of_ble_eq_true rfl) (b_X3_isOver_0 (h0 := h)   ko w)
theorem b_X3_codeAtHand_0 {d : Nat} {h0 h : eb_H} {Q : Option Value → eb_H → Prop} (x1 : Int32)  (ko : eb_KO h) (w : (((eb_I h s_tape 5) = 1 → eb_Ct d 33 [.ref s_reader_laws, .int x1] h (fun r h1 => ∃ y2, r = some (.int y2) ∧ eb_KO h1 ∧ Q (some (.int y2)) h1)) ∧ ((eb_I h s_tape 5) = 2 → Q (some (.int (eb_I h s_tape 6))) h) ∧ ((eb_I h s_tape 5) = 3 → eb_Ct d 73 [.ref s_tape] h (fun r h4 => ∃ y5, r = some (.int y5) ∧ eb_KO h4 ∧ eb_Ct d 32 [.int y5] h4 (fun r h7 => ∃ y8, r = some (.int y8) ∧ eb_KO h7 ∧ Q (some (.int y8)) h7))) ∧ (¬ (eb_I h s_tape 5) = 1 → ¬ (eb_I h s_tape 5) = 2 → ¬ (eb_I h s_tape 5) = 3 → Q (some (.int (-1))) h))) : eb_Sn (d + 1) m_X3_codeAtHand h0 0 [(0, .ref s_reader_laws), (1, .int x1)] [] h Q := by
  refine eb_aload_n (pc := 0) (n := 0) (i := 0) rfl rfl rfl ?_
  refine eb_getR (pc := 1) rfl rfl (by decide) (by decide) rfl (ko_s_reader_laws_0 ko) ?_
  refine eb_getI (pc := 4) rfl rfl (by decide) (by decide) rfl ?_
  by_cases s0 : (eb_I h s_tape 5) = 1
  · refine eb_tableIn (pc := 7) (j := 0) (tgt := 51) (by rw [s0]; decide) (by decide) (by rfl) (by decide) rfl ?_
    replace w := w.1 s0
    refine eb_aload_n (pc := 51) (n := 0) (i := 0) rfl rfl rfl ?_
    refine eb_iload_n (pc := 52) (n := 1) (i := 1) rfl rfl rfl ?_
    refine eb_ctV (pc := 53) (As := [.int x1]) (rest := []) rfl (by decide) rfl rfl (by decide) rfl (Nat.le_of_ble_eq_true rfl) ?_
    refine eb_Ct.mono w ?_
    rintro r h1 ⟨y2, rfl, ko3, w⟩
    change eb_Sn _ _ _ 56 _ [.int y2] _ _
    exact eb_ireturn (pc := 56) rfl rfl rfl w
  by_cases s1 : (eb_I h s_tape 5) = 2
  · refine eb_tableIn (pc := 7) (j := 1) (tgt := 32) (by rw [s1]; decide) (by decide) (by rfl) (by decide) rfl ?_
    replace w := w.2.1 s1
    refine eb_aload_n (pc := 32) (n := 0) (i := 0) rfl rfl rfl ?_
    refine eb_getR (pc := 33) rfl rfl (by decide) (by decide) rfl (ko_s_reader_laws_0 ko) ?_
    refine eb_getI (pc := 36) rfl rfl (by decide) (by decide) rfl ?_
    exact eb_ireturn (pc := 39) rfl rfl rfl w
  by_cases s2 : (eb_I h s_tape 5) = 3
  · refine eb_tableIn (pc := 7) (j := 2) (tgt := 40) (by rw [s2]; decide) (by decide) (by rfl) (by decide) rfl ?_
    replace w := w.2.2.1 s2
    refine eb_aload_n (pc := 40) (n := 0) (i := 0) rfl rfl rfl ?_
    refine eb_getR (pc := 41) rfl rfl (by decide) (by decide) rfl (ko_s_reader_laws_0 ko) ?_
    refine eb_ctV (pc := 44) (As := []) (rest := []) rfl (by decide) rfl rfl (by decide) rfl (Nat.le_of_ble_eq_true rfl) ?_
    refine eb_Ct.mono w ?_
    rintro r h4 ⟨y5, rfl, ko6, w⟩
    change eb_Sn _ _ _ 47 _ [.int y5] _ _
    refine eb_ctS (pc := 47) (As := [.int y5]) (rest := []) rfl (by decide) (by decide) rfl rfl (Nat.le_of_ble_eq_true rfl) ?_
    refine eb_Ct.mono w ?_
    rintro r h7 ⟨y8, rfl, ko9, w⟩
    change eb_Sn _ _ _ 50 _ [.int y8] _ _
    exact eb_ireturn (pc := 50) rfl rfl rfl w
  refine eb_tableOut (pc := 7) (tgt := 57) (by have z0 := lv_neT (a := 1) s0 (by decide); have z1 := lv_neT (a := 2) s1 (by decide); have z2 := lv_neT (a := 3) s2 (by decide); omega) (by decide) rfl ?_
  replace w := w.2.2.2 s0 s1 s2
  refine eb_iconst (pc := 57) (n := -1) (v := (-1)) rfl rfl ?_
  exact eb_ireturn (pc := 58) rfl rfl rfl w
theorem T_X3_codeAtHand {d : Nat} {h : eb_H} {Q : Option Value → eb_H → Prop} (x1 : Int32)  (ko : eb_KO h) (w : (((eb_I h s_tape 5) = 1 → eb_Ct d 33 [.ref s_reader_laws, .int x1] h (fun r h1 => ∃ y2, r = some (.int y2) ∧ eb_KO h1 ∧ Q (some (.int y2)) h1)) ∧ ((eb_I h s_tape 5) = 2 → Q (some (.int (eb_I h s_tape 6))) h) ∧ ((eb_I h s_tape 5) = 3 → eb_Ct d 73 [.ref s_tape] h (fun r h4 => ∃ y5, r = some (.int y5) ∧ eb_KO h4 ∧ eb_Ct d 32 [.int y5] h4 (fun r h7 => ∃ y8, r = some (.int y8) ∧ eb_KO h7 ∧ Q (some (.int y8)) h7))) ∧ (¬ (eb_I h s_tape 5) = 1 → ¬ (eb_I h s_tape 5) = 2 → ¬ (eb_I h s_tape 5) = 3 → Q (some (.int (-1))) h))) : eb_Ct (d + 1) 31 [.ref s_reader_laws, .int x1] h Q :=
  eb_bodyQ (by decide) ok_X3_codeAtHand (Nat.le_of_ble_eq_true rfl) (b_X3_codeAtHand_0 (h0 := h) x1  ko w)
theorem b_X3_codeOfSign_0 {d : Nat} {h0 h : eb_H} {Q : Option Value → eb_H → Prop} (x0 : Int32)  (ko : eb_KO h) (w : ((x0 = 40 → Q (some (.int 1011)) h) ∧ (x0 = 41 → Q (some (.int 1081)) h) ∧ (x0 = 42 → Q (some (.int 1070)) h) ∧ (x0 = 43 → Q (some (.int 1060)) h) ∧ (x0 = 45 → Q (some (.int 1061)) h) ∧ (x0 = 60 → Q (some (.int 1051)) h) ∧ (x0 = 61 → Q (some (.int 1050)) h) ∧ (x0 = 62 → Q (some (.int 1052)) h) ∧ (x0 = 91 → Q (some (.int 1010)) h) ∧ (x0 = 93 → Q (some (.int 1080)) h) ∧ (¬ x0 = 40 → ¬ x0 = 41 → ¬ x0 = 42 → ¬ x0 = 43 → ¬ x0 = 45 → ¬ x0 = 60 → ¬ x0 = 61 → ¬ x0 = 62 → ¬ x0 = 91 → ¬ x0 = 93 → Q (some (.int (-1))) h))) : eb_Sn d m_X3_codeOfSign h0 0 [(0, .int x0)] [] h Q := by
  refine eb_iload_n (pc := 0) (n := 0) (i := 0) rfl rfl rfl ?_
  by_cases s0 : x0 = 40
  · refine eb_lookup (pc := 1) (off := 119) (tgt := 120) (by decide) (by rw [s0]; decide) (by decide) rfl ?_
    replace w := w.1 s0
    refine eb_sipush (pc := 120) (n := 1011) (v := 1011) rfl rfl ?_
    exact eb_ireturn (pc := 123) rfl rfl rfl w
  by_cases s1 : x0 = 41
  · refine eb_lookup (pc := 1) (off := 127) (tgt := 128) (by decide) (by rw [s1]; decide) (by decide) rfl ?_
    replace w := w.2.1 s1
    refine eb_sipush (pc := 128) (n := 1081) (v := 1081) rfl rfl ?_
    exact eb_ireturn (pc := 131) rfl rfl rfl w
  by_cases s2 : x0 = 42
  · refine eb_lookup (pc := 1) (off := 111) (tgt := 112) (by decide) (by rw [s2]; decide) (by decide) rfl ?_
    replace w := w.2.2.1 s2
    refine eb_sipush (pc := 112) (n := 1070) (v := 1070) rfl rfl ?_
    exact eb_ireturn (pc := 115) rfl rfl rfl w
  by_cases s3 : x0 = 43
  · refine eb_lookup (pc := 1) (off := 103) (tgt := 104) (by decide) (by rw [s3]; decide) (by decide) rfl ?_
    replace w := w.2.2.2.1 s3
    refine eb_sipush (pc := 104) (n := 1060) (v := 1060) rfl rfl ?_
    exact eb_ireturn (pc := 107) rfl rfl rfl w
  by_cases s4 : x0 = 45
  · refine eb_lookup (pc := 1) (off := 107) (tgt := 108) (by decide) (by rw [s4]; decide) (by decide) rfl ?_
    replace w := w.2.2.2.2.1 s4
    refine eb_sipush (pc := 108) (n := 1061) (v := 1061) rfl rfl ?_
    exact eb_ireturn (pc := 111) rfl rfl rfl w
  by_cases s5 : x0 = 60
  · refine eb_lookup (pc := 1) (off := 95) (tgt := 96) (by decide) (by rw [s5]; decide) (by decide) rfl ?_
    replace w := w.2.2.2.2.2.1 s5
    refine eb_sipush (pc := 96) (n := 1051) (v := 1051) rfl rfl ?_
    exact eb_ireturn (pc := 99) rfl rfl rfl w
  by_cases s6 : x0 = 61
  · refine eb_lookup (pc := 1) (off := 91) (tgt := 92) (by decide) (by rw [s6]; decide) (by decide) rfl ?_
    replace w := w.2.2.2.2.2.2.1 s6
    refine eb_sipush (pc := 92) (n := 1050) (v := 1050) rfl rfl ?_
    exact eb_ireturn (pc := 95) rfl rfl rfl w
  by_cases s7 : x0 = 62
  · refine eb_lookup (pc := 1) (off := 99) (tgt := 100) (by decide) (by rw [s7]; decide) (by decide) rfl ?_
    replace w := w.2.2.2.2.2.2.2.1 s7
    refine eb_sipush (pc := 100) (n := 1052) (v := 1052) rfl rfl ?_
    exact eb_ireturn (pc := 103) rfl rfl rfl w
  by_cases s8 : x0 = 91
  · refine eb_lookup (pc := 1) (off := 115) (tgt := 116) (by decide) (by rw [s8]; decide) (by decide) rfl ?_
    replace w := w.2.2.2.2.2.2.2.2.1 s8
    refine eb_sipush (pc := 116) (n := 1010) (v := 1010) rfl rfl ?_
    exact eb_ireturn (pc := 119) rfl rfl rfl w
  by_cases s9 : x0 = 93
  · refine eb_lookup (pc := 1) (off := 123) (tgt := 124) (by decide) (by rw [s9]; decide) (by decide) rfl ?_
    replace w := w.2.2.2.2.2.2.2.2.2.1 s9
    refine eb_sipush (pc := 124) (n := 1080) (v := 1080) rfl rfl ?_
    exact eb_ireturn (pc := 127) rfl rfl rfl w
  refine eb_lookup (pc := 1) (off := 131) (tgt := 132) (by decide) (by rw [lv_osw (k := 40) s0 (by decide)]; rw [lv_osw (k := 41) s1 (by decide)]; rw [lv_osw (k := 42) s2 (by decide)]; rw [lv_osw (k := 43) s3 (by decide)]; rw [lv_osw (k := 45) s4 (by decide)]; rw [lv_osw (k := 60) s5 (by decide)]; rw [lv_osw (k := 61) s6 (by decide)]; rw [lv_osw (k := 62) s7 (by decide)]; rw [lv_osw (k := 91) s8 (by decide)]; rw [lv_osw (k := 93) s9 (by decide)]; rfl) (by decide) rfl ?_
  replace w := w.2.2.2.2.2.2.2.2.2.2 s0 s1 s2 s3 s4 s5 s6 s7 s8 s9
  refine eb_iconst (pc := 132) (n := -1) (v := (-1)) rfl rfl ?_
  exact eb_ireturn (pc := 133) rfl rfl rfl w
theorem T_X3_codeOfSign {d : Nat} {h : eb_H} {Q : Option Value → eb_H → Prop} (x0 : Int32)  (ko : eb_KO h) (w : ((x0 = 40 → Q (some (.int 1011)) h) ∧ (x0 = 41 → Q (some (.int 1081)) h) ∧ (x0 = 42 → Q (some (.int 1070)) h) ∧ (x0 = 43 → Q (some (.int 1060)) h) ∧ (x0 = 45 → Q (some (.int 1061)) h) ∧ (x0 = 60 → Q (some (.int 1051)) h) ∧ (x0 = 61 → Q (some (.int 1050)) h) ∧ (x0 = 62 → Q (some (.int 1052)) h) ∧ (x0 = 91 → Q (some (.int 1010)) h) ∧ (x0 = 93 → Q (some (.int 1080)) h) ∧ (¬ x0 = 40 → ¬ x0 = 41 → ¬ x0 = 42 → ¬ x0 = 43 → ¬ x0 = 45 → ¬ x0 = 60 → ¬ x0 = 61 → ¬ x0 = 62 → ¬ x0 = 91 → ¬ x0 = 93 → Q (some (.int (-1))) h))) : eb_Ct d 32 [.int x0] h Q :=
  eb_bodyQ (by decide) ok_X3_codeOfSign (Nat.le_of_ble_eq_true rfl) (b_X3_codeOfSign_0 (h0 := h) x0  ko w)
theorem b_X3_codeOfWord_0 {d : Nat} {h0 h : eb_H} {Q : Option Value → eb_H → Prop} (x1 : Int32)  (ko : eb_KO h) (w : eb_Ct d 72 [.ref s_tape, .ref (eb_mk 10 21 0)] h (fun r h1 => ∃ y2, r = some (.int y2) ∧ eb_KO h1 ∧ ((y2 = 0 → eb_Ct d 72 [.ref s_tape, .ref (eb_mk 9 21 0)] h1 (fun r h5 => ∃ y6, r = some (.int y6) ∧ eb_KO h5 ∧ ((y6 = 0 → eb_Ct d 72 [.ref s_tape, .ref (eb_mk 12 21 0)] h5 (fun r h9 => ∃ y10, r = some (.int y10) ∧ eb_KO h9 ∧ ((y10 = 0 → eb_Ct d 72 [.ref s_tape, .ref (eb_mk 20 21 0)] h9 (fun r h13 => ∃ y14, r = some (.int y14) ∧ eb_KO h13 ∧ ((y14 = 0 → eb_Ct d 72 [.ref s_tape, .ref (eb_mk 7 21 0)] h13 (fun r h17 => ∃ y18, r = some (.int y18) ∧ eb_KO h17 ∧ ((y18 = 0 → eb_Ct d 72 [.ref s_tape, .ref (eb_mk 18 21 0)] h17 (fun r h21 => ∃ y22, r = some (.int y22) ∧ eb_KO h21 ∧ ((y22 = 0 → eb_Ct d 72 [.ref s_tape, .ref (eb_mk 15 21 0)] h21 (fun r h25 => ∃ y26, r = some (.int y26) ∧ eb_KO h25 ∧ ((y26 = 0 → eb_Ct d 72 [.ref s_tape, .ref (eb_mk 4 21 0)] h25 (fun r h29 => ∃ y30, r = some (.int y30) ∧ eb_KO h29 ∧ ((y30 = 0 → eb_Ct d 72 [.ref s_tape, .ref (eb_mk 14 21 0)] h29 (fun r h33 => ∃ y34, r = some (.int y34) ∧ eb_KO h33 ∧ Q (some (.int (if y34 = 0 then (-1) else 1040 : Int32))) h33)) ∧ (¬ (y30 = 0) → Q (some (.int 1030)) h29)))) ∧ (¬ (y26 = 0) → Q (some (.int 1020)) h25)))) ∧ (¬ (y22 = 0) → ((x1 = 0 → eb_Ct d 72 [.ref s_tape, .ref (eb_mk 15 21 0)] h21 (fun r h39 => ∃ y40, r = some (.int y40) ∧ eb_KO h39 ∧ ((y40 = 0 → eb_Ct d 72 [.ref s_tape, .ref (eb_mk 4 21 0)] h39 (fun r h43 => ∃ y44, r = some (.int y44) ∧ eb_KO h43 ∧ ((y44 = 0 → eb_Ct d 72 [.ref s_tape, .ref (eb_mk 14 21 0)] h43 (fun r h47 => ∃ y48, r = some (.int y48) ∧ eb_KO h47 ∧ Q (some (.int (if y48 = 0 then (-1) else 1040 : Int32))) h47)) ∧ (¬ (y44 = 0) → Q (some (.int 1030)) h43)))) ∧ (¬ (y40 = 0) → Q (some (.int 1020)) h39)))) ∧ (¬ (x1 = 0) → Q (some (.int 1005)) h21)))))) ∧ (¬ (y18 = 0) → Q (some (.int 1004)) h17)))) ∧ (¬ (y14 = 0) → Q (some (.int 1003)) h13)))) ∧ (¬ (y10 = 0) → Q (some (.int 1002)) h9)))) ∧ (¬ (y6 = 0) → Q (some (.int 1001)) h5)))) ∧ (¬ (y2 = 0) → Q (some (.int 1000)) h1)))) : eb_Sn (d + 1) m_X3_codeOfWord h0 0 [(0, .ref s_reader_laws), (1, .int x1)] [] h Q := by
  refine eb_aload_n (pc := 0) (n := 0) (i := 0) rfl rfl rfl ?_
  refine eb_getR (pc := 1) rfl rfl (by decide) (by decide) rfl (ko_s_reader_laws_0 ko) ?_
  refine eb_ldcS (pc := 4) (a := 10) (i := eb_mk 10 21 0) rfl rfl rfl ?_
  refine eb_ctV (pc := 6) (As := [.ref (eb_mk 10 21 0)]) (rest := []) rfl (by decide) rfl rfl (by decide) rfl (Nat.le_of_ble_eq_true rfl) ?_
  refine eb_Ct.mono w ?_
  rintro r h1 ⟨y2, rfl, ko3, w⟩
  change eb_Sn _ _ _ 9 _ [.int y2] _ _
  refine eb_if_eq (pc := 9) (tgt := 16) rfl (by decide) (fun c4 => ?_) (fun c4 => ?_)
  · replace w := w.1 c4
    refine eb_aload_n (pc := 16) (n := 0) (i := 0) rfl rfl rfl ?_
    refine eb_getR (pc := 17) rfl rfl (by decide) (by decide) rfl (ko_s_reader_laws_0 ko3) ?_
    refine eb_ldcS (pc := 20) (a := 9) (i := eb_mk 9 21 0) rfl rfl rfl ?_
    refine eb_ctV (pc := 22) (As := [.ref (eb_mk 9 21 0)]) (rest := []) rfl (by decide) rfl rfl (by decide) rfl (Nat.le_of_ble_eq_true rfl) ?_
    refine eb_Ct.mono w ?_
    rintro r h5 ⟨y6, rfl, ko7, w⟩
    change eb_Sn _ _ _ 25 _ [.int y6] _ _
    refine eb_if_eq (pc := 25) (tgt := 32) rfl (by decide) (fun c8 => ?_) (fun c8 => ?_)
    · replace w := w.1 c8
      refine eb_aload_n (pc := 32) (n := 0) (i := 0) rfl rfl rfl ?_
      refine eb_getR (pc := 33) rfl rfl (by decide) (by decide) rfl (ko_s_reader_laws_0 ko7) ?_
      refine eb_ldcS (pc := 36) (a := 12) (i := eb_mk 12 21 0) rfl rfl rfl ?_
      refine eb_ctV (pc := 38) (As := [.ref (eb_mk 12 21 0)]) (rest := []) rfl (by decide) rfl rfl (by decide) rfl (Nat.le_of_ble_eq_true rfl) ?_
      refine eb_Ct.mono w ?_
      rintro r h9 ⟨y10, rfl, ko11, w⟩
      change eb_Sn _ _ _ 41 _ [.int y10] _ _
      refine eb_if_eq (pc := 41) (tgt := 48) rfl (by decide) (fun c12 => ?_) (fun c12 => ?_)
      · replace w := w.1 c12
        refine eb_aload_n (pc := 48) (n := 0) (i := 0) rfl rfl rfl ?_
        refine eb_getR (pc := 49) rfl rfl (by decide) (by decide) rfl (ko_s_reader_laws_0 ko11) ?_
        refine eb_ldcS (pc := 52) (a := 20) (i := eb_mk 20 21 0) rfl rfl rfl ?_
        refine eb_ctV (pc := 54) (As := [.ref (eb_mk 20 21 0)]) (rest := []) rfl (by decide) rfl rfl (by decide) rfl (Nat.le_of_ble_eq_true rfl) ?_
        refine eb_Ct.mono w ?_
        rintro r h13 ⟨y14, rfl, ko15, w⟩
        change eb_Sn _ _ _ 57 _ [.int y14] _ _
        refine eb_if_eq (pc := 57) (tgt := 64) rfl (by decide) (fun c16 => ?_) (fun c16 => ?_)
        · replace w := w.1 c16
          refine eb_aload_n (pc := 64) (n := 0) (i := 0) rfl rfl rfl ?_
          refine eb_getR (pc := 65) rfl rfl (by decide) (by decide) rfl (ko_s_reader_laws_0 ko15) ?_
          refine eb_ldcS (pc := 68) (a := 7) (i := eb_mk 7 21 0) rfl rfl rfl ?_
          refine eb_ctV (pc := 70) (As := [.ref (eb_mk 7 21 0)]) (rest := []) rfl (by decide) rfl rfl (by decide) rfl (Nat.le_of_ble_eq_true rfl) ?_
          refine eb_Ct.mono w ?_
          rintro r h17 ⟨y18, rfl, ko19, w⟩
          change eb_Sn _ _ _ 73 _ [.int y18] _ _
          refine eb_if_eq (pc := 73) (tgt := 80) rfl (by decide) (fun c20 => ?_) (fun c20 => ?_)
          · replace w := w.1 c20
            refine eb_aload_n (pc := 80) (n := 0) (i := 0) rfl rfl rfl ?_
            refine eb_getR (pc := 81) rfl rfl (by decide) (by decide) rfl (ko_s_reader_laws_0 ko19) ?_
            refine eb_ldcS (pc := 84) (a := 18) (i := eb_mk 18 21 0) rfl rfl rfl ?_
            refine eb_ctV (pc := 86) (As := [.ref (eb_mk 18 21 0)]) (rest := []) rfl (by decide) rfl rfl (by decide) rfl (Nat.le_of_ble_eq_true rfl) ?_
            refine eb_Ct.mono w ?_
            rintro r h21 ⟨y22, rfl, ko23, w⟩
            change eb_Sn _ _ _ 89 _ [.int y22] _ _
            refine eb_if_eq (pc := 89) (tgt := 100) rfl (by decide) (fun c24 => ?_) (fun c24 => ?_)
            · replace w := w.1 c24
              refine eb_aload_n (pc := 100) (n := 0) (i := 0) rfl rfl rfl ?_
              refine eb_getR (pc := 101) rfl rfl (by decide) (by decide) rfl (ko_s_reader_laws_0 ko23) ?_
              refine eb_ldcS (pc := 104) (a := 15) (i := eb_mk 15 21 0) rfl rfl rfl ?_
              refine eb_ctV (pc := 106) (As := [.ref (eb_mk 15 21 0)]) (rest := []) rfl (by decide) rfl rfl (by decide) rfl (Nat.le_of_ble_eq_true rfl) ?_
              refine eb_Ct.mono w ?_
              rintro r h25 ⟨y26, rfl, ko27, w⟩
              change eb_Sn _ _ _ 109 _ [.int y26] _ _
              refine eb_if_eq (pc := 109) (tgt := 116) rfl (by decide) (fun c28 => ?_) (fun c28 => ?_)
              · replace w := w.1 c28
                refine eb_aload_n (pc := 116) (n := 0) (i := 0) rfl rfl rfl ?_
                refine eb_getR (pc := 117) rfl rfl (by decide) (by decide) rfl (ko_s_reader_laws_0 ko27) ?_
                refine eb_ldcS (pc := 120) (a := 4) (i := eb_mk 4 21 0) rfl rfl rfl ?_
                refine eb_ctV (pc := 122) (As := [.ref (eb_mk 4 21 0)]) (rest := []) rfl (by decide) rfl rfl (by decide) rfl (Nat.le_of_ble_eq_true rfl) ?_
                refine eb_Ct.mono w ?_
                rintro r h29 ⟨y30, rfl, ko31, w⟩
                change eb_Sn _ _ _ 125 _ [.int y30] _ _
                refine eb_if_eq (pc := 125) (tgt := 132) rfl (by decide) (fun c32 => ?_) (fun c32 => ?_)
                · replace w := w.1 c32
                  refine eb_aload_n (pc := 132) (n := 0) (i := 0) rfl rfl rfl ?_
                  refine eb_getR (pc := 133) rfl rfl (by decide) (by decide) rfl (ko_s_reader_laws_0 ko31) ?_
                  refine eb_ldcS (pc := 136) (a := 14) (i := eb_mk 14 21 0) rfl rfl rfl ?_
                  refine eb_ctV (pc := 138) (As := [.ref (eb_mk 14 21 0)]) (rest := []) rfl (by decide) rfl rfl (by decide) rfl (Nat.le_of_ble_eq_true rfl) ?_
                  refine eb_Ct.mono w ?_
                  rintro r h33 ⟨y34, rfl, ko35, w⟩
                  change eb_Sn _ _ _ 141 _ [.int y34] _ _
                  have jj37 : eb_Sn (d + 1) m_X3_codeOfWord h0 151 [(0, .ref s_reader_laws), (1, .int x1)] [.int (if y34 = 0 then (-1) else 1040 : Int32)] h33 Q := by
                    exact eb_ireturn (pc := 151) rfl rfl rfl w
                  refine eb_if_eq (pc := 141) (tgt := 150) rfl (by decide) (fun c36 => ?_) (fun c36 => ?_)
                  · refine eb_iconst (pc := 150) (n := -1) (v := (-1)) rfl rfl ?_
                    simp only [if_pos c36] at jj37 ⊢
                    exact jj37
                  · refine eb_sipush (pc := 144) (n := 1040) (v := 1040) rfl rfl ?_
                    refine eb_goto (pc := 147) (tgt := 151) rfl (by decide) ?_
                    simp only [if_neg c36] at jj37 ⊢
                    exact jj37
                · replace w := w.2 c32
                  refine eb_sipush (pc := 128) (n := 1030) (v := 1030) rfl rfl ?_
                  exact eb_ireturn (pc := 131) rfl rfl rfl w
              · replace w := w.2 c28
                refine eb_sipush (pc := 112) (n := 1020) (v := 1020) rfl rfl ?_
                exact eb_ireturn (pc := 115) rfl rfl rfl w
            · replace w := w.2 c24
              refine eb_iload_n (pc := 92) (n := 1) (i := 1) rfl rfl rfl ?_
              refine eb_if_eq (pc := 93) (tgt := 100) rfl (by decide) (fun c38 => ?_) (fun c38 => ?_)
              · replace w := w.1 c38
                refine eb_aload_n (pc := 100) (n := 0) (i := 0) rfl rfl rfl ?_
                refine eb_getR (pc := 101) rfl rfl (by decide) (by decide) rfl (ko_s_reader_laws_0 ko23) ?_
                refine eb_ldcS (pc := 104) (a := 15) (i := eb_mk 15 21 0) rfl rfl rfl ?_
                refine eb_ctV (pc := 106) (As := [.ref (eb_mk 15 21 0)]) (rest := []) rfl (by decide) rfl rfl (by decide) rfl (Nat.le_of_ble_eq_true rfl) ?_
                refine eb_Ct.mono w ?_
                rintro r h39 ⟨y40, rfl, ko41, w⟩
                change eb_Sn _ _ _ 109 _ [.int y40] _ _
                refine eb_if_eq (pc := 109) (tgt := 116) rfl (by decide) (fun c42 => ?_) (fun c42 => ?_)
                · replace w := w.1 c42
                  refine eb_aload_n (pc := 116) (n := 0) (i := 0) rfl rfl rfl ?_
                  refine eb_getR (pc := 117) rfl rfl (by decide) (by decide) rfl (ko_s_reader_laws_0 ko41) ?_
                  refine eb_ldcS (pc := 120) (a := 4) (i := eb_mk 4 21 0) rfl rfl rfl ?_
                  refine eb_ctV (pc := 122) (As := [.ref (eb_mk 4 21 0)]) (rest := []) rfl (by decide) rfl rfl (by decide) rfl (Nat.le_of_ble_eq_true rfl) ?_
                  refine eb_Ct.mono w ?_
                  rintro r h43 ⟨y44, rfl, ko45, w⟩
                  change eb_Sn _ _ _ 125 _ [.int y44] _ _
                  refine eb_if_eq (pc := 125) (tgt := 132) rfl (by decide) (fun c46 => ?_) (fun c46 => ?_)
                  · replace w := w.1 c46
                    refine eb_aload_n (pc := 132) (n := 0) (i := 0) rfl rfl rfl ?_
                    refine eb_getR (pc := 133) rfl rfl (by decide) (by decide) rfl (ko_s_reader_laws_0 ko45) ?_
                    refine eb_ldcS (pc := 136) (a := 14) (i := eb_mk 14 21 0) rfl rfl rfl ?_
                    refine eb_ctV (pc := 138) (As := [.ref (eb_mk 14 21 0)]) (rest := []) rfl (by decide) rfl rfl (by decide) rfl (Nat.le_of_ble_eq_true rfl) ?_
                    refine eb_Ct.mono w ?_
                    rintro r h47 ⟨y48, rfl, ko49, w⟩
                    change eb_Sn _ _ _ 141 _ [.int y48] _ _
                    have jj51 : eb_Sn (d + 1) m_X3_codeOfWord h0 151 [(0, .ref s_reader_laws), (1, .int x1)] [.int (if y48 = 0 then (-1) else 1040 : Int32)] h47 Q := by
                      exact eb_ireturn (pc := 151) rfl rfl rfl w
                    refine eb_if_eq (pc := 141) (tgt := 150) rfl (by decide) (fun c50 => ?_) (fun c50 => ?_)
                    · refine eb_iconst (pc := 150) (n := -1) (v := (-1)) rfl rfl ?_
                      simp only [if_pos c50] at jj51 ⊢
                      exact jj51
                    · refine eb_sipush (pc := 144) (n := 1040) (v := 1040) rfl rfl ?_
                      refine eb_goto (pc := 147) (tgt := 151) rfl (by decide) ?_
                      simp only [if_neg c50] at jj51 ⊢
                      exact jj51
                  · replace w := w.2 c46
                    refine eb_sipush (pc := 128) (n := 1030) (v := 1030) rfl rfl ?_
                    exact eb_ireturn (pc := 131) rfl rfl rfl w
                · replace w := w.2 c42
                  refine eb_sipush (pc := 112) (n := 1020) (v := 1020) rfl rfl ?_
                  exact eb_ireturn (pc := 115) rfl rfl rfl w
              · replace w := w.2 c38
                refine eb_sipush (pc := 96) (n := 1005) (v := 1005) rfl rfl ?_
                exact eb_ireturn (pc := 99) rfl rfl rfl w
          · replace w := w.2 c20
            refine eb_sipush (pc := 76) (n := 1004) (v := 1004) rfl rfl ?_
            exact eb_ireturn (pc := 79) rfl rfl rfl w
        · replace w := w.2 c16
          refine eb_sipush (pc := 60) (n := 1003) (v := 1003) rfl rfl ?_
          exact eb_ireturn (pc := 63) rfl rfl rfl w
      · replace w := w.2 c12
        refine eb_sipush (pc := 44) (n := 1002) (v := 1002) rfl rfl ?_
        exact eb_ireturn (pc := 47) rfl rfl rfl w
    · replace w := w.2 c8
      refine eb_sipush (pc := 28) (n := 1001) (v := 1001) rfl rfl ?_
      exact eb_ireturn (pc := 31) rfl rfl rfl w
  · replace w := w.2 c4
    refine eb_sipush (pc := 12) (n := 1000) (v := 1000) rfl rfl ?_
    exact eb_ireturn (pc := 15) rfl rfl rfl w
theorem T_X3_codeOfWord {d : Nat} {h : eb_H} {Q : Option Value → eb_H → Prop} (x1 : Int32)  (ko : eb_KO h) (w : eb_Ct d 72 [.ref s_tape, .ref (eb_mk 10 21 0)] h (fun r h1 => ∃ y2, r = some (.int y2) ∧ eb_KO h1 ∧ ((y2 = 0 → eb_Ct d 72 [.ref s_tape, .ref (eb_mk 9 21 0)] h1 (fun r h5 => ∃ y6, r = some (.int y6) ∧ eb_KO h5 ∧ ((y6 = 0 → eb_Ct d 72 [.ref s_tape, .ref (eb_mk 12 21 0)] h5 (fun r h9 => ∃ y10, r = some (.int y10) ∧ eb_KO h9 ∧ ((y10 = 0 → eb_Ct d 72 [.ref s_tape, .ref (eb_mk 20 21 0)] h9 (fun r h13 => ∃ y14, r = some (.int y14) ∧ eb_KO h13 ∧ ((y14 = 0 → eb_Ct d 72 [.ref s_tape, .ref (eb_mk 7 21 0)] h13 (fun r h17 => ∃ y18, r = some (.int y18) ∧ eb_KO h17 ∧ ((y18 = 0 → eb_Ct d 72 [.ref s_tape, .ref (eb_mk 18 21 0)] h17 (fun r h21 => ∃ y22, r = some (.int y22) ∧ eb_KO h21 ∧ ((y22 = 0 → eb_Ct d 72 [.ref s_tape, .ref (eb_mk 15 21 0)] h21 (fun r h25 => ∃ y26, r = some (.int y26) ∧ eb_KO h25 ∧ ((y26 = 0 → eb_Ct d 72 [.ref s_tape, .ref (eb_mk 4 21 0)] h25 (fun r h29 => ∃ y30, r = some (.int y30) ∧ eb_KO h29 ∧ ((y30 = 0 → eb_Ct d 72 [.ref s_tape, .ref (eb_mk 14 21 0)] h29 (fun r h33 => ∃ y34, r = some (.int y34) ∧ eb_KO h33 ∧ Q (some (.int (if y34 = 0 then (-1) else 1040 : Int32))) h33)) ∧ (¬ (y30 = 0) → Q (some (.int 1030)) h29)))) ∧ (¬ (y26 = 0) → Q (some (.int 1020)) h25)))) ∧ (¬ (y22 = 0) → ((x1 = 0 → eb_Ct d 72 [.ref s_tape, .ref (eb_mk 15 21 0)] h21 (fun r h39 => ∃ y40, r = some (.int y40) ∧ eb_KO h39 ∧ ((y40 = 0 → eb_Ct d 72 [.ref s_tape, .ref (eb_mk 4 21 0)] h39 (fun r h43 => ∃ y44, r = some (.int y44) ∧ eb_KO h43 ∧ ((y44 = 0 → eb_Ct d 72 [.ref s_tape, .ref (eb_mk 14 21 0)] h43 (fun r h47 => ∃ y48, r = some (.int y48) ∧ eb_KO h47 ∧ Q (some (.int (if y48 = 0 then (-1) else 1040 : Int32))) h47)) ∧ (¬ (y44 = 0) → Q (some (.int 1030)) h43)))) ∧ (¬ (y40 = 0) → Q (some (.int 1020)) h39)))) ∧ (¬ (x1 = 0) → Q (some (.int 1005)) h21)))))) ∧ (¬ (y18 = 0) → Q (some (.int 1004)) h17)))) ∧ (¬ (y14 = 0) → Q (some (.int 1003)) h13)))) ∧ (¬ (y10 = 0) → Q (some (.int 1002)) h9)))) ∧ (¬ (y6 = 0) → Q (some (.int 1001)) h5)))) ∧ (¬ (y2 = 0) → Q (some (.int 1000)) h1)))) : eb_Ct (d + 1) 33 [.ref s_reader_laws, .int x1] h Q :=
  eb_bodyQ (by decide) ok_X3_codeOfWord (Nat.le_of_ble_eq_true rfl) (b_X3_codeOfWord_0 (h0 := h) x1  ko w)
