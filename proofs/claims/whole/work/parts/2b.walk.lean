theorem b_X0_init_0 {d : Nat} {h0 h : eb_H} {Q : Option Value → eb_H → Prop} (a0 : Nat) (ka0 : eb_kd a0 = 0) (w : ∀ h1, h1 = eb_sI h a0 0 0 → Q none h1) : eb_Sn (d + 1) m_X0_init h0 0 [(0, .ref a0)] [] h Q := by
  refine eb_aload_n (pc := 0) (n := 0) (i := 0) rfl rfl rfl ?_
  refine eb_objInit (pc := 1) rfl (by decide +kernel) (by omega) (Nat.le_of_ble_eq_true rfl) ?_
  refine eb_aload_n (pc := 4) (n := 0) (i := 0) rfl rfl rfl ?_
  refine eb_iconst (pc := 5) (n := 0) (v := 0) rfl rfl ?_
  refine eb_putI (pc := 6) rfl ka0 (by decide) (by decide) rfl rfl ⟨rfl, rfl⟩ ?_
  obtain ⟨h1, e2⟩ : ∃ z, z = eb_sI h a0 0 0 := ⟨_, rfl⟩
  rw [← e2]
  replace w := w h1 e2
  exact eb_return (pc := 9) rfl rfl w
theorem T_X0_init {d : Nat} {h : eb_H} {Q : Option Value → eb_H → Prop} (a0 : Nat) (ka0 : eb_kd a0 = 0) (w : ∀ h1, h1 = eb_sI h a0 0 0 → Q none h1) : eb_Ct (d + 1) 0 [.ref a0] h Q :=
  eb_bodyQ (by decide) ok_X0_init (Nat.le_of_ble_eq_true rfl) (b_X0_init_0 (h0 := h) a0 ka0 w)
theorem b_X0_nextDeed_0 {d : Nat} {h0 h : eb_H} {Q : Option Value → eb_H → Prop}   (ko : eb_KO h) (w : eb_Ct d 2 [.ref s_draws, .int 8] h (fun r h1 => ∃ y2, r = some (.int y2) ∧ eb_KO h1 ∧ ((y2 = 4 → eb_Ct d 2 [.ref s_draws, .int 16] h1 (fun r h4 => ∃ y5, r = some (.int y5) ∧ eb_KO h4 ∧ Q (some (.int ((100 : Int32) + y5))) h4)) ∧ (y2 = 5 → eb_Ct d 2 [.ref s_draws, .int 16] h1 (fun r h7 => ∃ y8, r = some (.int y8) ∧ eb_KO h7 ∧ eb_Ct d 2 [.ref s_draws, .int 7] h7 (fun r h10 => ∃ y11, r = some (.int y11) ∧ eb_KO h10 ∧ Q (some (.int (((1000 : Int32) + ((10 : Int32) * y8)) + y11))) h10))) ∧ (y2 = 6 → eb_Ct d 2 [.ref s_draws, .int 16] h1 (fun r h13 => ∃ y14, r = some (.int y14) ∧ eb_KO h13 ∧ Q (some (.int ((200 : Int32) + y14))) h13)) ∧ (y2 = 7 → eb_Ct d 2 [.ref s_draws, .int 10] h1 (fun r h16 => ∃ y17, r = some (.int y17) ∧ eb_KO h16 ∧ Q (some (.int ((300 : Int32) + y17))) h16)) ∧ (¬ y2 = 4 → ¬ y2 = 5 → ¬ y2 = 6 → ¬ y2 = 7 → eb_Ct d 2 [.ref s_draws, .int 4] h1 (fun r h19 => ∃ y20, r = some (.int y20) ∧ eb_KO h19 ∧ Q (some (.int y20)) h19))))) : eb_Sn (d + 1) m_X0_nextDeed h0 0 [(0, .ref s_draws)] [] h Q := by
  refine eb_aload_n (pc := 0) (n := 0) (i := 0) rfl rfl rfl ?_
  refine eb_bipush (pc := 1) (n := 8) (v := 8) rfl rfl ?_
  refine eb_ctV (pc := 3) (As := [.int 8]) (rest := []) rfl (by decide) rfl rfl (by decide) rfl (Nat.le_of_ble_eq_true rfl) ?_
  refine eb_Ct.mono w ?_
  rintro r h1 ⟨y2, rfl, ko3, w⟩
  change eb_Sn _ _ _ 6 _ [.int y2] _ _
  refine eb_istore_n (pc := 6) (n := 1) (i := 1) (ls2 := [(1, .int y2), (0, .ref s_draws)]) rfl (Nat.le_of_ble_eq_true rfl) rfl rfl ?_
  refine eb_iload_n (pc := 7) (n := 1) (i := 1) rfl rfl rfl ?_
  by_cases s0 : y2 = 4
  · refine eb_tableIn (pc := 8) (j := 0) (tgt := 40) (by rw [s0]; decide) (by decide) (by rfl) (by decide) rfl ?_
    replace w := w.1 s0
    refine eb_bipush (pc := 40) (n := 100) (v := 100) rfl rfl ?_
    refine eb_aload_n (pc := 42) (n := 0) (i := 0) rfl rfl rfl ?_
    refine eb_bipush (pc := 43) (n := 16) (v := 16) rfl rfl ?_
    refine eb_ctV (pc := 45) (As := [.int 16]) (rest := [.int 100]) rfl (by decide) rfl rfl (by decide) rfl (Nat.le_of_ble_eq_true rfl) ?_
    refine eb_Ct.mono w ?_
    rintro r h4 ⟨y5, rfl, ko6, w⟩
    change eb_Sn _ _ _ 48 _ [.int y5, .int 100] _ _
    refine eb_iadd (pc := 48) rfl ?_
    exact eb_ireturn (pc := 49) rfl rfl rfl w
  by_cases s1 : y2 = 5
  · refine eb_tableIn (pc := 8) (j := 1) (tgt := 50) (by rw [s1]; decide) (by decide) (by rfl) (by decide) rfl ?_
    replace w := w.2.1 s1
    refine eb_sipush (pc := 50) (n := 1000) (v := 1000) rfl rfl ?_
    refine eb_bipush (pc := 53) (n := 10) (v := 10) rfl rfl ?_
    refine eb_aload_n (pc := 55) (n := 0) (i := 0) rfl rfl rfl ?_
    refine eb_bipush (pc := 56) (n := 16) (v := 16) rfl rfl ?_
    refine eb_ctV (pc := 58) (As := [.int 16]) (rest := [.int 10, .int 1000]) rfl (by decide) rfl rfl (by decide) rfl (Nat.le_of_ble_eq_true rfl) ?_
    refine eb_Ct.mono w ?_
    rintro r h7 ⟨y8, rfl, ko9, w⟩
    change eb_Sn _ _ _ 61 _ [.int y8, .int 10, .int 1000] _ _
    refine eb_imul (pc := 61) rfl ?_
    refine eb_iadd (pc := 62) rfl ?_
    refine eb_aload_n (pc := 63) (n := 0) (i := 0) rfl rfl rfl ?_
    refine eb_bipush (pc := 64) (n := 7) (v := 7) rfl rfl ?_
    refine eb_ctV (pc := 66) (As := [.int 7]) (rest := [.int ((1000 : Int32) + ((10 : Int32) * y8))]) rfl (by decide) rfl rfl (by decide) rfl (Nat.le_of_ble_eq_true rfl) ?_
    refine eb_Ct.mono w ?_
    rintro r h10 ⟨y11, rfl, ko12, w⟩
    change eb_Sn _ _ _ 69 _ [.int y11, .int ((1000 : Int32) + ((10 : Int32) * y8))] _ _
    refine eb_iadd (pc := 69) rfl ?_
    exact eb_ireturn (pc := 70) rfl rfl rfl w
  by_cases s2 : y2 = 6
  · refine eb_tableIn (pc := 8) (j := 2) (tgt := 71) (by rw [s2]; decide) (by decide) (by rfl) (by decide) rfl ?_
    replace w := w.2.2.1 s2
    refine eb_sipush (pc := 71) (n := 200) (v := 200) rfl rfl ?_
    refine eb_aload_n (pc := 74) (n := 0) (i := 0) rfl rfl rfl ?_
    refine eb_bipush (pc := 75) (n := 16) (v := 16) rfl rfl ?_
    refine eb_ctV (pc := 77) (As := [.int 16]) (rest := [.int 200]) rfl (by decide) rfl rfl (by decide) rfl (Nat.le_of_ble_eq_true rfl) ?_
    refine eb_Ct.mono w ?_
    rintro r h13 ⟨y14, rfl, ko15, w⟩
    change eb_Sn _ _ _ 80 _ [.int y14, .int 200] _ _
    refine eb_iadd (pc := 80) rfl ?_
    exact eb_ireturn (pc := 81) rfl rfl rfl w
  by_cases s3 : y2 = 7
  · refine eb_tableIn (pc := 8) (j := 3) (tgt := 82) (by rw [s3]; decide) (by decide) (by rfl) (by decide) rfl ?_
    replace w := w.2.2.2.1 s3
    refine eb_sipush (pc := 82) (n := 300) (v := 300) rfl rfl ?_
    refine eb_aload_n (pc := 85) (n := 0) (i := 0) rfl rfl rfl ?_
    refine eb_bipush (pc := 86) (n := 10) (v := 10) rfl rfl ?_
    refine eb_ctV (pc := 88) (As := [.int 10]) (rest := [.int 300]) rfl (by decide) rfl rfl (by decide) rfl (Nat.le_of_ble_eq_true rfl) ?_
    refine eb_Ct.mono w ?_
    rintro r h16 ⟨y17, rfl, ko18, w⟩
    change eb_Sn _ _ _ 91 _ [.int y17, .int 300] _ _
    refine eb_iadd (pc := 91) rfl ?_
    exact eb_ireturn (pc := 92) rfl rfl rfl w
  refine eb_tableOut (pc := 8) (tgt := 93) (by have z0 := lv_neT (a := 4) s0 (by decide); have z1 := lv_neT (a := 5) s1 (by decide); have z2 := lv_neT (a := 6) s2 (by decide); have z3 := lv_neT (a := 7) s3 (by decide); omega) (by decide) rfl ?_
  replace w := w.2.2.2.2 s0 s1 s2 s3
  refine eb_aload_n (pc := 93) (n := 0) (i := 0) rfl rfl rfl ?_
  refine eb_iconst (pc := 94) (n := 4) (v := 4) rfl rfl ?_
  refine eb_ctV (pc := 95) (As := [.int 4]) (rest := []) rfl (by decide) rfl rfl (by decide) rfl (Nat.le_of_ble_eq_true rfl) ?_
  refine eb_Ct.mono w ?_
  rintro r h19 ⟨y20, rfl, ko21, w⟩
  change eb_Sn _ _ _ 98 _ [.int y20] _ _
  exact eb_ireturn (pc := 98) rfl rfl rfl w
theorem T_X0_nextDeed {d : Nat} {h : eb_H} {Q : Option Value → eb_H → Prop}   (ko : eb_KO h) (w : eb_Ct d 2 [.ref s_draws, .int 8] h (fun r h1 => ∃ y2, r = some (.int y2) ∧ eb_KO h1 ∧ ((y2 = 4 → eb_Ct d 2 [.ref s_draws, .int 16] h1 (fun r h4 => ∃ y5, r = some (.int y5) ∧ eb_KO h4 ∧ Q (some (.int ((100 : Int32) + y5))) h4)) ∧ (y2 = 5 → eb_Ct d 2 [.ref s_draws, .int 16] h1 (fun r h7 => ∃ y8, r = some (.int y8) ∧ eb_KO h7 ∧ eb_Ct d 2 [.ref s_draws, .int 7] h7 (fun r h10 => ∃ y11, r = some (.int y11) ∧ eb_KO h10 ∧ Q (some (.int (((1000 : Int32) + ((10 : Int32) * y8)) + y11))) h10))) ∧ (y2 = 6 → eb_Ct d 2 [.ref s_draws, .int 16] h1 (fun r h13 => ∃ y14, r = some (.int y14) ∧ eb_KO h13 ∧ Q (some (.int ((200 : Int32) + y14))) h13)) ∧ (y2 = 7 → eb_Ct d 2 [.ref s_draws, .int 10] h1 (fun r h16 => ∃ y17, r = some (.int y17) ∧ eb_KO h16 ∧ Q (some (.int ((300 : Int32) + y17))) h16)) ∧ (¬ y2 = 4 → ¬ y2 = 5 → ¬ y2 = 6 → ¬ y2 = 7 → eb_Ct d 2 [.ref s_draws, .int 4] h1 (fun r h19 => ∃ y20, r = some (.int y20) ∧ eb_KO h19 ∧ Q (some (.int y20)) h19))))) : eb_Ct (d + 1) 1 [.ref s_draws] h Q :=
  eb_bodyQ (by decide) ok_X0_nextDeed (Nat.le_of_ble_eq_true rfl) (b_X0_nextDeed_0 (h0 := h)   ko w)
theorem b_X0_drawn_0 {d : Nat} {h0 h : eb_H} {Q : Option Value → eb_H → Prop} (x1 : Int32)  (ko : eb_KO h) (w : (((1 : Int32) ≤ x1 → (¬ x1 = 0) ∧ Q (some (.int ((((eb_I (eb_sI h s_draws 0 (((1103515245 : Int32) * (eb_I h s_draws 0)) + 12345)) s_draws 0).toUInt32 >>> ((16 : Int32).toUInt32 &&& Int32.toUInt32 31)).toInt32) - (((eb_I (eb_sI h s_draws 0 (((1103515245 : Int32) * (eb_I h s_draws 0)) + 12345)) s_draws 0).toUInt32 >>> ((16 : Int32).toUInt32 &&& Int32.toUInt32 31)).toInt32) / x1 * x1))) (eb_sI h s_draws 0 (((1103515245 : Int32) * (eb_I h s_draws 0)) + 12345))) ∧ (¬ ((1 : Int32) ≤ x1) → Q (some (.int 0)) (eb_sI h s_draws 0 (((1103515245 : Int32) * (eb_I h s_draws 0)) + 12345))))) : eb_Sn d m_X0_drawn h0 0 [(0, .ref s_draws), (1, .int x1)] [] h Q := by
  refine eb_aload_n (pc := 0) (n := 0) (i := 0) rfl rfl rfl ?_
  refine eb_ldc (pc := 1) (a := 1103515245) (v := 1103515245) rfl (by decide) ?_
  refine eb_aload_n (pc := 3) (n := 0) (i := 0) rfl rfl rfl ?_
  refine eb_getI (pc := 4) rfl rfl (by decide) (by decide) rfl ?_
  refine eb_imul (pc := 7) rfl ?_
  refine eb_sipush (pc := 8) (n := 12345) (v := 12345) rfl rfl ?_
  refine eb_iadd (pc := 11) rfl ?_
  refine eb_putI (pc := 12) rfl rfl (by decide) (by decide) rfl rfl ⟨rfl, rfl⟩ ?_
  refine eb_iload_n (pc := 15) (n := 1) (i := 1) rfl rfl rfl ?_
  refine eb_iconst (pc := 16) (n := 1) (v := 1) rfl rfl ?_
  refine eb_icmp_ge (pc := 17) (tgt := 24) rfl (by decide) (fun c1 => ?_) (fun c1 => ?_)
  · replace w := w.1 c1
    refine eb_aload_n (pc := 24) (n := 0) (i := 0) rfl rfl rfl ?_
    refine eb_getI (pc := 25) rfl rfl (by decide) (by decide) rfl ?_
    refine eb_bipush (pc := 28) (n := 16) (v := 16) rfl rfl ?_
    refine eb_iushr (pc := 30) rfl ?_
    refine eb_iload_n (pc := 31) (n := 1) (i := 1) rfl rfl rfl ?_
    obtain ⟨c2, w⟩ := w
    refine eb_irem (pc := 32) c2 rfl ?_
    exact eb_ireturn (pc := 33) rfl rfl rfl w
  · replace w := w.2 c1
    refine eb_iconst (pc := 20) (n := 0) (v := 0) rfl rfl ?_
    refine eb_goto (pc := 21) (tgt := 33) rfl (by decide) ?_
    exact eb_ireturn (pc := 33) rfl rfl rfl w
theorem T_X0_drawn {d : Nat} {h : eb_H} {Q : Option Value → eb_H → Prop} (x1 : Int32)  (ko : eb_KO h) (w : (((1 : Int32) ≤ x1 → (¬ x1 = 0) ∧ Q (some (.int ((((eb_I (eb_sI h s_draws 0 (((1103515245 : Int32) * (eb_I h s_draws 0)) + 12345)) s_draws 0).toUInt32 >>> ((16 : Int32).toUInt32 &&& Int32.toUInt32 31)).toInt32) - (((eb_I (eb_sI h s_draws 0 (((1103515245 : Int32) * (eb_I h s_draws 0)) + 12345)) s_draws 0).toUInt32 >>> ((16 : Int32).toUInt32 &&& Int32.toUInt32 31)).toInt32) / x1 * x1))) (eb_sI h s_draws 0 (((1103515245 : Int32) * (eb_I h s_draws 0)) + 12345))) ∧ (¬ ((1 : Int32) ≤ x1) → Q (some (.int 0)) (eb_sI h s_draws 0 (((1103515245 : Int32) * (eb_I h s_draws 0)) + 12345))))) : eb_Ct d 2 [.ref s_draws, .int x1] h Q :=
  eb_bodyQ (by decide) ok_X0_drawn (Nat.le_of_ble_eq_true rfl) (b_X0_drawn_0 (h0 := h) x1  ko w)
theorem b_X1_init_0 {d : Nat} {h0 h : eb_H} {Q : Option Value → eb_H → Prop} (a0 : Nat) (ka0 : eb_kd a0 = 1) (w : ∀ r3, r3 = eb_nx h 9 0 → ∀ h1, h1 = eb_nw h 9 0 (eb_nf 9) → eb_Ct d 79 [.ref r3] h1 (fun r h5 => r = none ∧ ∀ h8, h8 = eb_sR h5 a0 0 (some r3) → ∀ r12, r12 = eb_nx h8 6 0 → ∀ h10, h10 = eb_nw h8 6 0 (eb_nf 6) → eb_Ct d 59 [.ref r12] h10 (fun r h14 => r = none ∧ ∀ h17, h17 = eb_sR h14 a0 1 (some r12) → ∀ h19, h19 = eb_sI h17 a0 2 0 → ∀ h21, h21 = eb_sI h19 a0 3 0 → ∀ h23, h23 = eb_sI h21 a0 4 0 → ∀ h25, h25 = eb_sI h23 a0 5 0 → ∀ r29, r29 = eb_nx h25 12 448 → ∀ h27, h27 = eb_nw h25 12 448 448 → ∀ h31, h31 = eb_sR h27 a0 6 (some r29) → ∀ r35, r35 = eb_nx h31 13 1024 → ∀ h33, h33 = eb_nw h31 13 1024 1024 → ∀ h37, h37 = eb_sR h33 a0 7 (some r35) → ∀ r41, r41 = eb_nx h37 13 1024 → ∀ h39, h39 = eb_nw h37 13 1024 1024 → ∀ h43, h43 = eb_sR h39 a0 8 (some r41) → ∀ r47, r47 = eb_nx h43 12 1024 → ∀ h45, h45 = eb_nw h43 12 1024 1024 → ∀ h49, h49 = eb_sR h45 a0 9 (some r47) → ∀ r53, r53 = eb_nx h49 14 1024 → ∀ h51, h51 = eb_nw h49 14 1024 1024 → ∀ h55, h55 = eb_sR h51 a0 10 (some r53) → ∀ r59, r59 = eb_nx h55 14 1024 → ∀ h57, h57 = eb_nw h55 14 1024 1024 → ∀ h61, h61 = eb_sR h57 a0 11 (some r59) → Q none h61))) : eb_Sn (d + 1) m_X1_init h0 0 [(0, .ref a0)] [] h Q := by
  refine eb_aload_n (pc := 0) (n := 0) (i := 0) rfl rfl rfl ?_
  refine eb_objInit (pc := 1) rfl (by decide +kernel) (by omega) (Nat.le_of_ble_eq_true rfl) ?_
  refine eb_aload_n (pc := 4) (n := 0) (i := 0) rfl rfl rfl ?_
  refine eb_new (pc := 5) rfl (by decide) ?_
  obtain ⟨r3, e4⟩ : ∃ z, z = eb_nx h 9 0 := ⟨_, rfl⟩
  rw [← e4]
  replace w := w r3 e4
  obtain ⟨h1, e2⟩ : ∃ z, z = eb_nw h 9 0 (eb_nf 9) := ⟨_, rfl⟩
  rw [← e2]
  replace w := w h1 e2
  refine eb_dupr (pc := 8) rfl ?_
  refine eb_ctI (pc := 9) (As := []) (rest := [.ref r3, .ref a0]) rfl (by decide) (by decide) rfl rfl rfl rfl (Nat.le_of_ble_eq_true rfl) ?_
  refine eb_Ct.mono w ?_
  rintro r h5 ⟨rfl, w⟩
  change eb_Sn _ _ _ 12 _ [.ref r3, .ref a0] _ _
  refine eb_putR (pc := 12) rfl ka0 (by decide) (by decide) rfl (Or.inl rfl) (eb_k20 (c := 9) (by rw [e4]; exact eb_mk_kd (by decide)) (by decide)) ?_
  obtain ⟨h8, e9⟩ : ∃ z, z = eb_sR h5 a0 0 (some r3) := ⟨_, rfl⟩
  rw [← e9]
  replace w := w h8 e9
  refine eb_aload_n (pc := 15) (n := 0) (i := 0) rfl rfl rfl ?_
  refine eb_new (pc := 16) rfl (by decide) ?_
  obtain ⟨r12, e13⟩ : ∃ z, z = eb_nx h8 6 0 := ⟨_, rfl⟩
  rw [← e13]
  replace w := w r12 e13
  obtain ⟨h10, e11⟩ : ∃ z, z = eb_nw h8 6 0 (eb_nf 6) := ⟨_, rfl⟩
  rw [← e11]
  replace w := w h10 e11
  refine eb_dupr (pc := 19) rfl ?_
  refine eb_ctI (pc := 20) (As := []) (rest := [.ref r12, .ref a0]) rfl (by decide) (by decide) rfl rfl rfl rfl (Nat.le_of_ble_eq_true rfl) ?_
  refine eb_Ct.mono w ?_
  rintro r h14 ⟨rfl, w⟩
  change eb_Sn _ _ _ 23 _ [.ref r12, .ref a0] _ _
  refine eb_putR (pc := 23) rfl ka0 (by decide) (by decide) rfl (Or.inr ⟨rfl, rfl, rfl⟩) (eb_k20 (c := 6) (by rw [e13]; exact eb_mk_kd (by decide)) (by decide)) ?_
  obtain ⟨h17, e18⟩ : ∃ z, z = eb_sR h14 a0 1 (some r12) := ⟨_, rfl⟩
  rw [← e18]
  replace w := w h17 e18
  refine eb_aload_n (pc := 26) (n := 0) (i := 0) rfl rfl rfl ?_
  refine eb_iconst (pc := 27) (n := 0) (v := 0) rfl rfl ?_
  refine eb_putI (pc := 28) rfl ka0 (by decide) (by decide) rfl rfl ⟨rfl, rfl⟩ ?_
  obtain ⟨h19, e20⟩ : ∃ z, z = eb_sI h17 a0 2 0 := ⟨_, rfl⟩
  rw [← e20]
  replace w := w h19 e20
  refine eb_aload_n (pc := 31) (n := 0) (i := 0) rfl rfl rfl ?_
  refine eb_iconst (pc := 32) (n := 0) (v := 0) rfl rfl ?_
  refine eb_putI (pc := 33) rfl ka0 (by decide) (by decide) rfl rfl ⟨rfl, rfl⟩ ?_
  obtain ⟨h21, e22⟩ : ∃ z, z = eb_sI h19 a0 3 0 := ⟨_, rfl⟩
  rw [← e22]
  replace w := w h21 e22
  refine eb_aload_n (pc := 36) (n := 0) (i := 0) rfl rfl rfl ?_
  refine eb_iconst (pc := 37) (n := 0) (v := 0) rfl rfl ?_
  refine eb_putI (pc := 38) rfl ka0 (by decide) (by decide) rfl rfl ⟨rfl, rfl⟩ ?_
  obtain ⟨h23, e24⟩ : ∃ z, z = eb_sI h21 a0 4 0 := ⟨_, rfl⟩
  rw [← e24]
  replace w := w h23 e24
  refine eb_aload_n (pc := 41) (n := 0) (i := 0) rfl rfl rfl ?_
  refine eb_iconst (pc := 42) (n := 0) (v := 0) rfl rfl ?_
  refine eb_putI (pc := 43) rfl ka0 (by decide) (by decide) rfl rfl ⟨rfl, rfl⟩ ?_
  obtain ⟨h25, e26⟩ : ∃ z, z = eb_sI h23 a0 5 0 := ⟨_, rfl⟩
  rw [← e26]
  replace w := w h25 e26
  refine eb_aload_n (pc := 46) (n := 0) (i := 0) rfl rfl rfl ?_
  refine eb_sipush (pc := 47) (n := 448) (v := 448) rfl rfl ?_
  refine eb_newI (pc := 50) (kd := 12) (len := 448) rfl rfl (by decide) (by decide) rfl (by decide) ?_
  obtain ⟨r29, e30⟩ : ∃ z, z = eb_nx h25 12 448 := ⟨_, rfl⟩
  rw [← e30]
  replace w := w r29 e30
  obtain ⟨h27, e28⟩ : ∃ z, z = eb_nw h25 12 448 448 := ⟨_, rfl⟩
  rw [← e28]
  replace w := w h27 e28
  refine eb_putR (pc := 52) rfl ka0 (by decide) (by decide) rfl (Or.inr ⟨rfl, rfl, rfl⟩) (eb_k20 (c := 12) (by rw [e30]; exact eb_mk_kd (by decide)) (by decide)) ?_
  obtain ⟨h31, e32⟩ : ∃ z, z = eb_sR h27 a0 6 (some r29) := ⟨_, rfl⟩
  rw [← e32]
  replace w := w h31 e32
  refine eb_aload_n (pc := 55) (n := 0) (i := 0) rfl rfl rfl ?_
  refine eb_sipush (pc := 56) (n := 1024) (v := 1024) rfl rfl ?_
  refine eb_newI (pc := 59) (kd := 13) (len := 1024) rfl rfl (by decide) (by decide) rfl (by decide) ?_
  obtain ⟨r35, e36⟩ : ∃ z, z = eb_nx h31 13 1024 := ⟨_, rfl⟩
  rw [← e36]
  replace w := w r35 e36
  obtain ⟨h33, e34⟩ : ∃ z, z = eb_nw h31 13 1024 1024 := ⟨_, rfl⟩
  rw [← e34]
  replace w := w h33 e34
  refine eb_putR (pc := 61) rfl ka0 (by decide) (by decide) rfl (Or.inr ⟨rfl, rfl, rfl⟩) (eb_k20 (c := 13) (by rw [e36]; exact eb_mk_kd (by decide)) (by decide)) ?_
  obtain ⟨h37, e38⟩ : ∃ z, z = eb_sR h33 a0 7 (some r35) := ⟨_, rfl⟩
  rw [← e38]
  replace w := w h37 e38
  refine eb_aload_n (pc := 64) (n := 0) (i := 0) rfl rfl rfl ?_
  refine eb_sipush (pc := 65) (n := 1024) (v := 1024) rfl rfl ?_
  refine eb_newI (pc := 68) (kd := 13) (len := 1024) rfl rfl (by decide) (by decide) rfl (by decide) ?_
  obtain ⟨r41, e42⟩ : ∃ z, z = eb_nx h37 13 1024 := ⟨_, rfl⟩
  rw [← e42]
  replace w := w r41 e42
  obtain ⟨h39, e40⟩ : ∃ z, z = eb_nw h37 13 1024 1024 := ⟨_, rfl⟩
  rw [← e40]
  replace w := w h39 e40
  refine eb_putR (pc := 70) rfl ka0 (by decide) (by decide) rfl (Or.inr ⟨rfl, rfl, rfl⟩) (eb_k20 (c := 13) (by rw [e42]; exact eb_mk_kd (by decide)) (by decide)) ?_
  obtain ⟨h43, e44⟩ : ∃ z, z = eb_sR h39 a0 8 (some r41) := ⟨_, rfl⟩
  rw [← e44]
  replace w := w h43 e44
  refine eb_aload_n (pc := 73) (n := 0) (i := 0) rfl rfl rfl ?_
  refine eb_sipush (pc := 74) (n := 1024) (v := 1024) rfl rfl ?_
  refine eb_newI (pc := 77) (kd := 12) (len := 1024) rfl rfl (by decide) (by decide) rfl (by decide) ?_
  obtain ⟨r47, e48⟩ : ∃ z, z = eb_nx h43 12 1024 := ⟨_, rfl⟩
  rw [← e48]
  replace w := w r47 e48
  obtain ⟨h45, e46⟩ : ∃ z, z = eb_nw h43 12 1024 1024 := ⟨_, rfl⟩
  rw [← e46]
  replace w := w h45 e46
  refine eb_putR (pc := 79) rfl ka0 (by decide) (by decide) rfl (Or.inr ⟨rfl, rfl, rfl⟩) (eb_k20 (c := 12) (by rw [e48]; exact eb_mk_kd (by decide)) (by decide)) ?_
  obtain ⟨h49, e50⟩ : ∃ z, z = eb_sR h45 a0 9 (some r47) := ⟨_, rfl⟩
  rw [← e50]
  replace w := w h49 e50
  refine eb_aload_n (pc := 82) (n := 0) (i := 0) rfl rfl rfl ?_
  refine eb_sipush (pc := 83) (n := 1024) (v := 1024) rfl rfl ?_
  refine eb_newL (pc := 86) (len := 1024) rfl (by decide) rfl (by decide) ?_
  obtain ⟨r53, e54⟩ : ∃ z, z = eb_nx h49 14 1024 := ⟨_, rfl⟩
  rw [← e54]
  replace w := w r53 e54
  obtain ⟨h51, e52⟩ : ∃ z, z = eb_nw h49 14 1024 1024 := ⟨_, rfl⟩
  rw [← e52]
  replace w := w h51 e52
  refine eb_putR (pc := 88) rfl ka0 (by decide) (by decide) rfl (Or.inl rfl) (eb_k20 (c := 14) (by rw [e54]; exact eb_mk_kd (by decide)) (by decide)) ?_
  obtain ⟨h55, e56⟩ : ∃ z, z = eb_sR h51 a0 10 (some r53) := ⟨_, rfl⟩
  rw [← e56]
  replace w := w h55 e56
  refine eb_aload_n (pc := 91) (n := 0) (i := 0) rfl rfl rfl ?_
  refine eb_sipush (pc := 92) (n := 1024) (v := 1024) rfl rfl ?_
  refine eb_newL (pc := 95) (len := 1024) rfl (by decide) rfl (by decide) ?_
  obtain ⟨r59, e60⟩ : ∃ z, z = eb_nx h55 14 1024 := ⟨_, rfl⟩
  rw [← e60]
  replace w := w r59 e60
  obtain ⟨h57, e58⟩ : ∃ z, z = eb_nw h55 14 1024 1024 := ⟨_, rfl⟩
  rw [← e58]
  replace w := w h57 e58
  refine eb_putR (pc := 97) rfl ka0 (by decide) (by decide) rfl (Or.inl rfl) (eb_k20 (c := 14) (by rw [e60]; exact eb_mk_kd (by decide)) (by decide)) ?_
  obtain ⟨h61, e62⟩ : ∃ z, z = eb_sR h57 a0 11 (some r59) := ⟨_, rfl⟩
  rw [← e62]
  replace w := w h61 e62
  exact eb_return (pc := 100) rfl rfl w
theorem T_X1_init {d : Nat} {h : eb_H} {Q : Option Value → eb_H → Prop} (a0 : Nat) (ka0 : eb_kd a0 = 1) (w : ∀ r3, r3 = eb_nx h 9 0 → ∀ h1, h1 = eb_nw h 9 0 (eb_nf 9) → eb_Ct d 79 [.ref r3] h1 (fun r h5 => r = none ∧ ∀ h8, h8 = eb_sR h5 a0 0 (some r3) → ∀ r12, r12 = eb_nx h8 6 0 → ∀ h10, h10 = eb_nw h8 6 0 (eb_nf 6) → eb_Ct d 59 [.ref r12] h10 (fun r h14 => r = none ∧ ∀ h17, h17 = eb_sR h14 a0 1 (some r12) → ∀ h19, h19 = eb_sI h17 a0 2 0 → ∀ h21, h21 = eb_sI h19 a0 3 0 → ∀ h23, h23 = eb_sI h21 a0 4 0 → ∀ h25, h25 = eb_sI h23 a0 5 0 → ∀ r29, r29 = eb_nx h25 12 448 → ∀ h27, h27 = eb_nw h25 12 448 448 → ∀ h31, h31 = eb_sR h27 a0 6 (some r29) → ∀ r35, r35 = eb_nx h31 13 1024 → ∀ h33, h33 = eb_nw h31 13 1024 1024 → ∀ h37, h37 = eb_sR h33 a0 7 (some r35) → ∀ r41, r41 = eb_nx h37 13 1024 → ∀ h39, h39 = eb_nw h37 13 1024 1024 → ∀ h43, h43 = eb_sR h39 a0 8 (some r41) → ∀ r47, r47 = eb_nx h43 12 1024 → ∀ h45, h45 = eb_nw h43 12 1024 1024 → ∀ h49, h49 = eb_sR h45 a0 9 (some r47) → ∀ r53, r53 = eb_nx h49 14 1024 → ∀ h51, h51 = eb_nw h49 14 1024 1024 → ∀ h55, h55 = eb_sR h51 a0 10 (some r53) → ∀ r59, r59 = eb_nx h55 14 1024 → ∀ h57, h57 = eb_nw h55 14 1024 1024 → ∀ h61, h61 = eb_sR h57 a0 11 (some r59) → Q none h61))) : eb_Ct (d + 1) 3 [.ref a0] h Q :=
  eb_bodyQ (by decide) ok_X1_init (Nat.le_of_ble_eq_true rfl) (b_X1_init_0 (h0 := h) a0 ka0 w)
theorem b_X1_codeOf_0 {d : Nat} {h0 h : eb_H} {Q : Option Value → eb_H → Prop} (x0 : Int32) (x1 : Int32)  (ko : eb_KO h) (w : Q (some (.int (((16 : Int32) * x1) + x0))) h) : eb_Sn d m_X1_codeOf h0 0 [(0, .int x0), (1, .int x1)] [] h Q := by
  refine eb_bipush (pc := 0) (n := 16) (v := 16) rfl rfl ?_
  refine eb_iload_n (pc := 2) (n := 1) (i := 1) rfl rfl rfl ?_
  refine eb_imul (pc := 3) rfl ?_
  refine eb_iload_n (pc := 4) (n := 0) (i := 0) rfl rfl rfl ?_
  refine eb_iadd (pc := 5) rfl ?_
  exact eb_ireturn (pc := 6) rfl rfl rfl w
theorem T_X1_codeOf {d : Nat} {h : eb_H} {Q : Option Value → eb_H → Prop} (x0 : Int32) (x1 : Int32)  (ko : eb_KO h) (w : Q (some (.int (((16 : Int32) * x1) + x0))) h) : eb_Ct d 4 [.int x0, .int x1] h Q :=
  eb_bodyQ (by decide) ok_X1_codeOf (Nat.le_of_ble_eq_true rfl) (b_X1_codeOf_0 (h0 := h) x0 x1  ko w)
theorem b_X1_cellOf_0 {d : Nat} {h0 h : eb_H} {Q : Option Value → eb_H → Prop} (x0 : Int32)  (ko : eb_KO h) (w : Q (some (.int (x0 &&& 15))) h) : eb_Sn d m_X1_cellOf h0 0 [(0, .int x0)] [] h Q := by
  refine eb_iload_n (pc := 0) (n := 0) (i := 0) rfl rfl rfl ?_
  refine eb_bipush (pc := 1) (n := 15) (v := 15) rfl rfl ?_
  refine eb_iand (pc := 3) rfl ?_
  exact eb_ireturn (pc := 4) rfl rfl rfl w
theorem T_X1_cellOf {d : Nat} {h : eb_H} {Q : Option Value → eb_H → Prop} (x0 : Int32)  (ko : eb_KO h) (w : Q (some (.int (x0 &&& 15))) h) : eb_Ct d 5 [.int x0] h Q :=
  eb_bodyQ (by decide) ok_X1_cellOf (Nat.le_of_ble_eq_true rfl) (b_X1_cellOf_0 (h0 := h) x0  ko w)
theorem b_X1_setOf_0 {d : Nat} {h0 h : eb_H} {Q : Option Value → eb_H → Prop} (x0 : Int32)  (ko : eb_KO h) (w : Q (some (.int (x0 >>> ((4 : Int32) &&& 31)))) h) : eb_Sn d m_X1_setOf h0 0 [(0, .int x0)] [] h Q := by
  refine eb_iload_n (pc := 0) (n := 0) (i := 0) rfl rfl rfl ?_
  refine eb_iconst (pc := 1) (n := 4) (v := 4) rfl rfl ?_
  refine eb_ishr (pc := 2) rfl ?_
  exact eb_ireturn (pc := 3) rfl rfl rfl w
theorem T_X1_setOf {d : Nat} {h : eb_H} {Q : Option Value → eb_H → Prop} (x0 : Int32)  (ko : eb_KO h) (w : Q (some (.int (x0 >>> ((4 : Int32) &&& 31)))) h) : eb_Ct d 6 [.int x0] h Q :=
  eb_bodyQ (by decide) ok_X1_setOf (Nat.le_of_ble_eq_true rfl) (b_X1_setOf_0 (h0 := h) x0  ko w)
theorem b_X1_isCode_0 {d : Nat} {h0 h : eb_H} {Q : Option Value → eb_H → Prop} (x0 : Int32)  (ko : eb_KO h) (w : Q (some (.int (eb_q ((¬ (x0 < 0)) ∧ (¬ ((1024 : Int32) ≤ x0)))))) h) : eb_Sn d m_X1_isCode h0 0 [(0, .int x0)] [] h Q := by
  refine eb_iload_n (pc := 0) (n := 0) (i := 0) rfl rfl rfl ?_
  refine eb_joinI (pc2 := 16) (ls2 := [(0, .int x0)]) (st2 := []) (v := eb_q ((¬ (x0 < 0)) ∧ (¬ ((1024 : Int32) ≤ x0)))) ?_ (fun jj3 => ?_)
  · exact eb_ireturn (pc := 16) rfl rfl eb_qn w
  refine eb_if_lt (pc := 1) (tgt := 15) rfl (by decide) (fun c1 => ?_) (fun c1 => ?_)
  · refine eb_iconst (pc := 15) (n := 0) (v := 0) rfl rfl ?_
    exact jj3 0 (eb_qf (fun z => z.1 c1)).symm
  · refine eb_iload_n (pc := 4) (n := 0) (i := 0) rfl rfl rfl ?_
    refine eb_sipush (pc := 5) (n := 1024) (v := 1024) rfl rfl ?_
    refine eb_icmp_ge (pc := 8) (tgt := 15) rfl (by decide) (fun c2 => ?_) (fun c2 => ?_)
    · refine eb_iconst (pc := 15) (n := 0) (v := 0) rfl rfl ?_
      exact jj3 0 (eb_qf (fun z => (fun z => z c2) z.2)).symm
    · refine eb_iconst (pc := 11) (n := 1) (v := 1) rfl rfl ?_
      refine eb_goto (pc := 12) (tgt := 16) rfl (by decide) ?_
      exact jj3 1 (eb_qt (⟨c1, c2⟩)).symm
theorem T_X1_isCode {d : Nat} {h : eb_H} {Q : Option Value → eb_H → Prop} (x0 : Int32)  (ko : eb_KO h) (w : Q (some (.int (eb_q ((¬ (x0 < 0)) ∧ (¬ ((1024 : Int32) ≤ x0)))))) h) : eb_Ct d 7 [.int x0] h Q :=
  eb_bodyQ (by decide) ok_X1_isCode (Nat.le_of_ble_eq_true rfl) (b_X1_isCode_0 (h0 := h) x0  ko w)
theorem b_X1_start_0 {d : Nat} {h0 h : eb_H} {Q : Option Value → eb_H → Prop} (a1 : Nat) (a2 : Nat) (ka1 : eb_kd a1 = 9) (ka2 : eb_kd a2 = 6) (ko : eb_KO h) (w : eb_Ct d 60 [.ref s_flights_state, .ref a2] (eb_sR h s_flights 0 (some a1)) (fun r h1 => r = none ∧ eb_KO h1 ∧ eb_Ct d 302 [.ref s_flights_verdicts, .int 0] (eb_sI h1 s_flights 2 (eb_I h1 a2 3)) (fun r h4 => r = none ∧ eb_KO h4 ∧ Q none h4))) : eb_Sn (d + 1) m_X1_start h0 0 [(0, .ref s_flights), (1, .ref a1), (2, .ref a2)] [] h Q := by
  refine eb_aload_n (pc := 0) (n := 0) (i := 0) rfl rfl rfl ?_
  refine eb_aload_n (pc := 1) (n := 1) (i := 1) rfl rfl rfl ?_
  refine eb_putR (pc := 2) rfl rfl (by decide) (by decide) rfl (Or.inl rfl) (eb_k20 (c := 9) ka1 (by decide)) ?_
  refine eb_aload_n (pc := 5) (n := 0) (i := 0) rfl rfl rfl ?_
  refine eb_getR (pc := 6) rfl rfl (by decide) (by decide) rfl (ko_s_flights_1 (ko_sR (by decide +kernel) ko)) ?_
  refine eb_aload_n (pc := 9) (n := 2) (i := 2) rfl rfl rfl ?_
  refine eb_ctV (pc := 10) (As := [.ref a2]) (rest := []) rfl (by decide) rfl rfl (by decide) rfl (Nat.le_of_ble_eq_true rfl) ?_
  refine eb_Ct.mono w ?_
  rintro r h1 ⟨rfl, ko3, w⟩
  change eb_Sn _ _ _ 13 _ [] _ _
  refine eb_aload_n (pc := 13) (n := 0) (i := 0) rfl rfl rfl ?_
  refine eb_aload_n (pc := 14) (n := 2) (i := 2) rfl rfl rfl ?_
  refine eb_getI (pc := 15) rfl ka2 (by decide) (by decide) rfl ?_
  refine eb_putI (pc := 18) rfl rfl (by decide) (by decide) rfl rfl ⟨rfl, rfl⟩ ?_
  refine eb_aload_n (pc := 21) (n := 0) (i := 0) rfl rfl rfl ?_
  refine eb_getR (pc := 22) rfl rfl (by decide) (by decide) rfl (ko_s_flights_6 ko3) ?_
  refine eb_iconst (pc := 25) (n := 0) (v := 0) rfl rfl ?_
  refine eb_ctS (pc := 26) (As := [.ref s_flights_verdicts, .int 0]) (rest := []) rfl (by decide) (by decide) rfl rfl (Nat.le_of_ble_eq_true rfl) ?_
  refine eb_Ct.mono w ?_
  rintro r h4 ⟨rfl, ko6, w⟩
  change eb_Sn _ _ _ 29 _ [] _ _
  exact eb_return (pc := 29) rfl rfl w
theorem T_X1_start {d : Nat} {h : eb_H} {Q : Option Value → eb_H → Prop} (a1 : Nat) (a2 : Nat) (ka1 : eb_kd a1 = 9) (ka2 : eb_kd a2 = 6) (ko : eb_KO h) (w : eb_Ct d 60 [.ref s_flights_state, .ref a2] (eb_sR h s_flights 0 (some a1)) (fun r h1 => r = none ∧ eb_KO h1 ∧ eb_Ct d 302 [.ref s_flights_verdicts, .int 0] (eb_sI h1 s_flights 2 (eb_I h1 a2 3)) (fun r h4 => r = none ∧ eb_KO h4 ∧ Q none h4))) : eb_Ct (d + 1) 8 [.ref s_flights, .ref a1, .ref a2] h Q :=
  eb_bodyQ (by decide) ok_X1_start (Nat.le_of_ble_eq_true rfl) (b_X1_start_0 (h0 := h) a1 a2 ka1 ka2 ko w)
theorem b_X1_codeAfter_0 {d : Nat} {h0 h : eb_H} {Q : Option Value → eb_H → Prop} (x1 : Int32) (x2 : Int32)  (ko : eb_KO h) (w : ∃ r1, eb_R h s_flights 0 = some r1 ∧ eb_kd r1 = 9 ∧ eb_Ct d 87 [.ref r1, .int (x1 &&& 15), .int x2] h (fun r h4 => ∃ y5, r = some (.int y5) ∧ eb_KO h4 ∧ ((y5 = ((-1) : Int32) → Q (some (.int (-1))) h4) ∧ (¬ (y5 = ((-1) : Int32)) → ((¬ (((eb_I h4 s_flights 2) >>> (y5 &&& 31)) &&& 1) = (1 : Int32) → eb_Ct d 283 [.int (x1 >>> ((4 : Int32) &&& 31))] h4 (fun r h9 => ∃ y10, r = some (.int y10) ∧ eb_KO h9 ∧ ((y5 < 0 → ((((((y10 * 4) + x2) * 16) + (x1 &&& 15)) < 0 → Q (some (.int (-1))) h9) ∧ (¬ (((((y10 * 4) + x2) * 16) + (x1 &&& 15)) < 0) → ((((((y10 * 4) + x2) * 16) + (x1 &&& 15)) < (448 : Int32) → (vp_in ((((y10 * 4) + x2) * 16) + (x1 &&& 15)) 448) ∧ ((¬ (eb_I h9 s_flights_verdicts ((((y10 * 4) + x2) * 16) + (x1 &&& 15)).toNatClampNeg) = 0 → (vp_in ((((y10 * 4) + x2) * 16) + (x1 &&& 15)) 448) ∧ ((¬ (eb_I h9 s_flights_verdicts ((((y10 * 4) + x2) * 16) + (x1 &&& 15)).toNatClampNeg) = (1 : Int32) → (vp_in ((((y10 * 4) + x2) * 16) + (x1 &&& 15)) 448) ∧ Q (some (.int (((16 : Int32) * (if (eb_I h9 s_flights_verdicts ((((y10 * 4) + x2) * 16) + (x1 &&& 15)).toNatClampNeg) = (3 : Int32) then (x1 >>> ((4 : Int32) &&& 31)) ||| 0 else x1 >>> ((4 : Int32) &&& 31) : Int32)) + y5))) h9) ∧ ((eb_I h9 s_flights_verdicts ((((y10 * 4) + x2) * 16) + (x1 &&& 15)).toNatClampNeg) = (1 : Int32) → Q (some (.int (-1))) h9))) ∧ ((eb_I h9 s_flights_verdicts ((((y10 * 4) + x2) * 16) + (x1 &&& 15)).toNatClampNeg) = 0 → ∃ r25, eb_R h9 s_flights 0 = some r25 ∧ eb_kd r25 = 9 ∧ eb_Ct d 88 [.ref r25, .int (x1 &&& 15), .int y5, .int y10, .int (eb_I h9 s_flights_state 4), .int 0] h9 (fun r h28 => ∃ y29, r = some (.int y29) ∧ eb_KO h28 ∧ (vp_in ((((y10 * 4) + x2) * 16) + (x1 &&& 15)) 448) ∧ (vp_in ((((y10 * 4) + x2) * 16) + (x1 &&& 15)) 448) ∧ ((¬ (eb_I (eb_sI h28 s_flights_verdicts ((((y10 * 4) + x2) * 16) + (x1 &&& 15)).toNatClampNeg y29.toInt8.toInt32.toInt8.toInt32) s_flights_verdicts ((((y10 * 4) + x2) * 16) + (x1 &&& 15)).toNatClampNeg) = (1 : Int32) → (vp_in ((((y10 * 4) + x2) * 16) + (x1 &&& 15)) 448) ∧ Q (some (.int (((16 : Int32) * (if (eb_I (eb_sI h28 s_flights_verdicts ((((y10 * 4) + x2) * 16) + (x1 &&& 15)).toNatClampNeg y29.toInt8.toInt32.toInt8.toInt32) s_flights_verdicts ((((y10 * 4) + x2) * 16) + (x1 &&& 15)).toNatClampNeg) = (3 : Int32) then (x1 >>> ((4 : Int32) &&& 31)) ||| 0 else x1 >>> ((4 : Int32) &&& 31) : Int32)) + y5))) (eb_sI h28 s_flights_verdicts ((((y10 * 4) + x2) * 16) + (x1 &&& 15)).toNatClampNeg y29.toInt8.toInt32.toInt8.toInt32)) ∧ ((eb_I (eb_sI h28 s_flights_verdicts ((((y10 * 4) + x2) * 16) + (x1 &&& 15)).toNatClampNeg y29.toInt8.toInt32.toInt8.toInt32) s_flights_verdicts ((((y10 * 4) + x2) * 16) + (x1 &&& 15)).toNatClampNeg) = (1 : Int32) → Q (some (.int (-1))) (eb_sI h28 s_flights_verdicts ((((y10 * 4) + x2) * 16) + (x1 &&& 15)).toNatClampNeg y29.toInt8.toInt32.toInt8.toInt32))))))) ∧ (¬ (((((y10 * 4) + x2) * 16) + (x1 &&& 15)) < (448 : Int32)) → Q (some (.int (-1))) h9))))) ∧ (¬ (y5 < 0) → (((16 : Int32) ≤ y5 → ((((((y10 * 4) + x2) * 16) + (x1 &&& 15)) < 0 → Q (some (.int (-1))) h9) ∧ (¬ (((((y10 * 4) + x2) * 16) + (x1 &&& 15)) < 0) → ((((((y10 * 4) + x2) * 16) + (x1 &&& 15)) < (448 : Int32) → (vp_in ((((y10 * 4) + x2) * 16) + (x1 &&& 15)) 448) ∧ ((¬ (eb_I h9 s_flights_verdicts ((((y10 * 4) + x2) * 16) + (x1 &&& 15)).toNatClampNeg) = 0 → (vp_in ((((y10 * 4) + x2) * 16) + (x1 &&& 15)) 448) ∧ ((¬ (eb_I h9 s_flights_verdicts ((((y10 * 4) + x2) * 16) + (x1 &&& 15)).toNatClampNeg) = (1 : Int32) → (vp_in ((((y10 * 4) + x2) * 16) + (x1 &&& 15)) 448) ∧ Q (some (.int (((16 : Int32) * (if (eb_I h9 s_flights_verdicts ((((y10 * 4) + x2) * 16) + (x1 &&& 15)).toNatClampNeg) = (3 : Int32) then (x1 >>> ((4 : Int32) &&& 31)) ||| 0 else x1 >>> ((4 : Int32) &&& 31) : Int32)) + y5))) h9) ∧ ((eb_I h9 s_flights_verdicts ((((y10 * 4) + x2) * 16) + (x1 &&& 15)).toNatClampNeg) = (1 : Int32) → Q (some (.int (-1))) h9))) ∧ ((eb_I h9 s_flights_verdicts ((((y10 * 4) + x2) * 16) + (x1 &&& 15)).toNatClampNeg) = 0 → ∃ r48, eb_R h9 s_flights 0 = some r48 ∧ eb_kd r48 = 9 ∧ eb_Ct d 88 [.ref r48, .int (x1 &&& 15), .int y5, .int y10, .int (eb_I h9 s_flights_state 4), .int 0] h9 (fun r h51 => ∃ y52, r = some (.int y52) ∧ eb_KO h51 ∧ (vp_in ((((y10 * 4) + x2) * 16) + (x1 &&& 15)) 448) ∧ (vp_in ((((y10 * 4) + x2) * 16) + (x1 &&& 15)) 448) ∧ ((¬ (eb_I (eb_sI h51 s_flights_verdicts ((((y10 * 4) + x2) * 16) + (x1 &&& 15)).toNatClampNeg y52.toInt8.toInt32.toInt8.toInt32) s_flights_verdicts ((((y10 * 4) + x2) * 16) + (x1 &&& 15)).toNatClampNeg) = (1 : Int32) → (vp_in ((((y10 * 4) + x2) * 16) + (x1 &&& 15)) 448) ∧ Q (some (.int (((16 : Int32) * (if (eb_I (eb_sI h51 s_flights_verdicts ((((y10 * 4) + x2) * 16) + (x1 &&& 15)).toNatClampNeg y52.toInt8.toInt32.toInt8.toInt32) s_flights_verdicts ((((y10 * 4) + x2) * 16) + (x1 &&& 15)).toNatClampNeg) = (3 : Int32) then (x1 >>> ((4 : Int32) &&& 31)) ||| 0 else x1 >>> ((4 : Int32) &&& 31) : Int32)) + y5))) (eb_sI h51 s_flights_verdicts ((((y10 * 4) + x2) * 16) + (x1 &&& 15)).toNatClampNeg y52.toInt8.toInt32.toInt8.toInt32)) ∧ ((eb_I (eb_sI h51 s_flights_verdicts ((((y10 * 4) + x2) * 16) + (x1 &&& 15)).toNatClampNeg y52.toInt8.toInt32.toInt8.toInt32) s_flights_verdicts ((((y10 * 4) + x2) * 16) + (x1 &&& 15)).toNatClampNeg) = (1 : Int32) → Q (some (.int (-1))) (eb_sI h51 s_flights_verdicts ((((y10 * 4) + x2) * 16) + (x1 &&& 15)).toNatClampNeg y52.toInt8.toInt32.toInt8.toInt32))))))) ∧ (¬ (((((y10 * 4) + x2) * 16) + (x1 &&& 15)) < (448 : Int32)) → Q (some (.int (-1))) h9))))) ∧ (¬ ((16 : Int32) ≤ y5) → (vp_in y5 16) ∧ ((((((y10 * 4) + x2) * 16) + (x1 &&& 15)) < 0 → Q (some (.int (-1))) h9) ∧ (¬ (((((y10 * 4) + x2) * 16) + (x1 &&& 15)) < 0) → ((((((y10 * 4) + x2) * 16) + (x1 &&& 15)) < (448 : Int32) → (vp_in ((((y10 * 4) + x2) * 16) + (x1 &&& 15)) 448) ∧ ((¬ (eb_I h9 s_flights_verdicts ((((y10 * 4) + x2) * 16) + (x1 &&& 15)).toNatClampNeg) = 0 → (vp_in ((((y10 * 4) + x2) * 16) + (x1 &&& 15)) 448) ∧ ((¬ (eb_I h9 s_flights_verdicts ((((y10 * 4) + x2) * 16) + (x1 &&& 15)).toNatClampNeg) = (1 : Int32) → (vp_in ((((y10 * 4) + x2) * 16) + (x1 &&& 15)) 448) ∧ Q (some (.int (((16 : Int32) * (if (eb_I h9 s_flights_verdicts ((((y10 * 4) + x2) * 16) + (x1 &&& 15)).toNatClampNeg) = (3 : Int32) then (if (1 : Int32) ≤ (eb_I h9 s_flights_state_things y5.toNatClampNeg) then (x1 >>> ((4 : Int32) &&& 31)) ||| ((1 : Int32) <<< (((eb_I h9 s_flights_state_things y5.toNatClampNeg) - 1) &&& 31)) else (x1 >>> ((4 : Int32) &&& 31)) ||| 0) else x1 >>> ((4 : Int32) &&& 31) : Int32)) + y5))) h9) ∧ ((eb_I h9 s_flights_verdicts ((((y10 * 4) + x2) * 16) + (x1 &&& 15)).toNatClampNeg) = (1 : Int32) → Q (some (.int (-1))) h9))) ∧ ((eb_I h9 s_flights_verdicts ((((y10 * 4) + x2) * 16) + (x1 &&& 15)).toNatClampNeg) = 0 → ∃ r72, eb_R h9 s_flights 0 = some r72 ∧ eb_kd r72 = 9 ∧ eb_Ct d 88 [.ref r72, .int (x1 &&& 15), .int y5, .int y10, .int (eb_I h9 s_flights_state 4), .int (eb_I h9 s_flights_state_things y5.toNatClampNeg)] h9 (fun r h75 => ∃ y76, r = some (.int y76) ∧ eb_KO h75 ∧ (vp_in ((((y10 * 4) + x2) * 16) + (x1 &&& 15)) 448) ∧ (vp_in ((((y10 * 4) + x2) * 16) + (x1 &&& 15)) 448) ∧ ((¬ (eb_I (eb_sI h75 s_flights_verdicts ((((y10 * 4) + x2) * 16) + (x1 &&& 15)).toNatClampNeg y76.toInt8.toInt32.toInt8.toInt32) s_flights_verdicts ((((y10 * 4) + x2) * 16) + (x1 &&& 15)).toNatClampNeg) = (1 : Int32) → (vp_in ((((y10 * 4) + x2) * 16) + (x1 &&& 15)) 448) ∧ Q (some (.int (((16 : Int32) * (if (eb_I (eb_sI h75 s_flights_verdicts ((((y10 * 4) + x2) * 16) + (x1 &&& 15)).toNatClampNeg y76.toInt8.toInt32.toInt8.toInt32) s_flights_verdicts ((((y10 * 4) + x2) * 16) + (x1 &&& 15)).toNatClampNeg) = (3 : Int32) then (if (1 : Int32) ≤ (eb_I h9 s_flights_state_things y5.toNatClampNeg) then (x1 >>> ((4 : Int32) &&& 31)) ||| ((1 : Int32) <<< (((eb_I h9 s_flights_state_things y5.toNatClampNeg) - 1) &&& 31)) else (x1 >>> ((4 : Int32) &&& 31)) ||| 0) else x1 >>> ((4 : Int32) &&& 31) : Int32)) + y5))) (eb_sI h75 s_flights_verdicts ((((y10 * 4) + x2) * 16) + (x1 &&& 15)).toNatClampNeg y76.toInt8.toInt32.toInt8.toInt32)) ∧ ((eb_I (eb_sI h75 s_flights_verdicts ((((y10 * 4) + x2) * 16) + (x1 &&& 15)).toNatClampNeg y76.toInt8.toInt32.toInt8.toInt32) s_flights_verdicts ((((y10 * 4) + x2) * 16) + (x1 &&& 15)).toNatClampNeg) = (1 : Int32) → Q (some (.int (-1))) (eb_sI h75 s_flights_verdicts ((((y10 * 4) + x2) * 16) + (x1 &&& 15)).toNatClampNeg y76.toInt8.toInt32.toInt8.toInt32))))))) ∧ (¬ (((((y10 * 4) + x2) * 16) + (x1 &&& 15)) < (448 : Int32)) → Q (some (.int (-1))) h9)))))))))) ∧ ((((eb_I h4 s_flights 2) >>> (y5 &&& 31)) &&& 1) = (1 : Int32) → Q (some (.int (-1))) h4)))))) : eb_Sn (d + 1) m_X1_codeAfter h0 0 [(0, .ref s_flights), (1, .int x1), (2, .int x2)] [] h Q := by
  refine eb_iload_n (pc := 0) (n := 1) (i := 1) rfl rfl rfl ?_
  refine eb_ctS (pc := 1) (As := [.int x1]) (rest := []) rfl (by decide) (by decide) rfl rfl (Nat.le_of_ble_eq_true rfl) ?_
  refine eb_bodyQ (by decide) ok_X1_cellOf (Nat.le_of_ble_eq_true rfl) ?_
  change eb_Sn _ m_X1_cellOf _ 0 [(0, .int x1)] [] _ _
  refine eb_iload_n (pc := 0) (n := 0) (i := 0) rfl rfl rfl ?_
  refine eb_bipush (pc := 1) (n := 15) (v := 15) rfl rfl ?_
  refine eb_iand (pc := 3) rfl ?_
  refine eb_ireturn (pc := 4) rfl rfl rfl ?_
  change eb_Sn _ _ _ 4 _ [.int (x1 &&& 15)] _ _
  refine eb_istore_n (pc := 4) (n := 3) (i := 3) (ls2 := [(3, .int (x1 &&& 15)), (0, .ref s_flights), (1, .int x1), (2, .int x2)]) rfl (Nat.le_of_ble_eq_true rfl) rfl rfl ?_
  refine eb_aload_n (pc := 5) (n := 0) (i := 0) rfl rfl rfl ?_
  obtain ⟨r1, q2, k3, w⟩ := w
  refine eb_getR (pc := 6) rfl rfl (by decide) (by decide) rfl q2 ?_
  refine eb_iload_n (pc := 9) (n := 3) (i := 3) rfl rfl rfl ?_
  refine eb_iload_n (pc := 10) (n := 2) (i := 2) rfl rfl rfl ?_
  refine eb_ctV (pc := 11) (As := [.int (x1 &&& 15), .int x2]) (rest := []) rfl (by decide) rfl k3 (by decide) rfl (Nat.le_of_ble_eq_true rfl) ?_
  refine eb_Ct.mono w ?_
  rintro r h4 ⟨y5, rfl, ko6, w⟩
  change eb_Sn _ _ _ 14 _ [.int y5] _ _
  refine eb_istore (pc := 14) (i := 4) (ls2 := [(4, .int y5), (3, .int (x1 &&& 15)), (0, .ref s_flights), (1, .int x1), (2, .int x2)]) (Nat.le_of_ble_eq_true rfl) rfl rfl ?_
  refine eb_iload (pc := 16) (i := 4) rfl rfl ?_
  refine eb_iconst (pc := 18) (n := -1) (v := (-1)) rfl rfl ?_
  refine eb_icmp_eq (pc := 19) (tgt := 35) rfl (by decide) (fun c7 => ?_) (fun c7 => ?_)
  · replace w := w.1 c7
    refine eb_iconst (pc := 35) (n := -1) (v := (-1)) rfl rfl ?_
    exact eb_ireturn (pc := 36) rfl rfl rfl w
  · replace w := w.2 c7
    refine eb_aload_n (pc := 22) (n := 0) (i := 0) rfl rfl rfl ?_
    refine eb_getI (pc := 23) rfl rfl (by decide) (by decide) rfl ?_
    refine eb_iload (pc := 26) (i := 4) rfl rfl ?_
    refine eb_ishr (pc := 28) rfl ?_
    refine eb_iconst (pc := 29) (n := 1) (v := 1) rfl rfl ?_
    refine eb_iand (pc := 30) rfl ?_
    refine eb_iconst (pc := 31) (n := 1) (v := 1) rfl rfl ?_
    refine eb_icmp_ne (pc := 32) (tgt := 37) rfl (by decide) (fun c8 => ?_) (fun c8 => ?_)
    · replace w := w.1 c8
      refine eb_iload_n (pc := 37) (n := 1) (i := 1) rfl rfl rfl ?_
      refine eb_ctS (pc := 38) (As := [.int x1]) (rest := []) rfl (by decide) (by decide) rfl rfl (Nat.le_of_ble_eq_true rfl) ?_
      refine eb_bodyQ (by decide) ok_X1_setOf (Nat.le_of_ble_eq_true rfl) ?_
      change eb_Sn _ m_X1_setOf _ 0 [(0, .int x1)] [] _ _
      refine eb_iload_n (pc := 0) (n := 0) (i := 0) rfl rfl rfl ?_
      refine eb_iconst (pc := 1) (n := 4) (v := 4) rfl rfl ?_
      refine eb_ishr (pc := 2) rfl ?_
      refine eb_ireturn (pc := 3) rfl rfl rfl ?_
      change eb_Sn _ _ _ 41 _ [.int (x1 >>> ((4 : Int32) &&& 31))] _ _
      refine eb_istore (pc := 41) (i := 5) (ls2 := [(5, .int (x1 >>> ((4 : Int32) &&& 31))), (4, .int y5), (3, .int (x1 &&& 15)), (0, .ref s_flights), (1, .int x1), (2, .int x2)]) (Nat.le_of_ble_eq_true rfl) rfl rfl ?_
      refine eb_iload (pc := 43) (i := 5) rfl rfl ?_
      refine eb_ctS (pc := 45) (As := [.int (x1 >>> ((4 : Int32) &&& 31))]) (rest := []) rfl (by decide) (by decide) rfl rfl (Nat.le_of_ble_eq_true rfl) ?_
      refine eb_Ct.mono w ?_
      rintro r h9 ⟨y10, rfl, ko11, w⟩
      change eb_Sn _ _ _ 48 _ [.int y10] _ _
      refine eb_istore (pc := 48) (i := 6) (ls2 := [(6, .int y10), (5, .int (x1 >>> ((4 : Int32) &&& 31))), (4, .int y5), (3, .int (x1 &&& 15)), (0, .ref s_flights), (1, .int x1), (2, .int x2)]) (Nat.le_of_ble_eq_true rfl) rfl rfl ?_
      refine eb_aload_n (pc := 50) (n := 0) (i := 0) rfl rfl rfl ?_
      refine eb_getR (pc := 51) rfl rfl (by decide) (by decide) rfl (ko_s_flights_1 ko11) ?_
      refine eb_iload (pc := 54) (i := 4) rfl rfl ?_
      refine eb_ctV (pc := 56) (As := [.int y5]) (rest := []) rfl (by decide) rfl rfl (by decide) rfl (Nat.le_of_ble_eq_true rfl) ?_
      refine eb_bodyQ (by decide) ok_X6_thingIn (Nat.le_of_ble_eq_true rfl) ?_
      change eb_Sn _ m_X6_thingIn _ 0 [(0, .ref s_flights_state), (1, .int y5)] [] _ _
      refine eb_iload_n (pc := 0) (n := 1) (i := 1) rfl rfl rfl ?_
      refine eb_if_lt (pc := 1) (tgt := 22) rfl (by decide) (fun c12 => ?_) (fun c12 => ?_)
      · replace w := w.1 c12
        refine eb_iconst (pc := 22) (n := 0) (v := 0) rfl rfl ?_
        refine eb_ireturn (pc := 23) rfl rfl rfl ?_
        change eb_Sn _ _ _ 59 _ [.int 0] _ _
        refine eb_istore (pc := 59) (i := 7) (ls2 := [(7, .int 0), (6, .int y10), (5, .int (x1 >>> ((4 : Int32) &&& 31))), (4, .int y5), (3, .int (x1 &&& 15)), (0, .ref s_flights), (1, .int x1), (2, .int x2)]) (Nat.le_of_ble_eq_true rfl) rfl rfl ?_
        refine eb_iload (pc := 61) (i := 6) rfl rfl ?_
        refine eb_iconst (pc := 63) (n := 4) (v := 4) rfl rfl ?_
        refine eb_imul (pc := 64) rfl ?_
        refine eb_iload_n (pc := 65) (n := 2) (i := 2) rfl rfl rfl ?_
        refine eb_iadd (pc := 66) rfl ?_
        refine eb_bipush (pc := 67) (n := 16) (v := 16) rfl rfl ?_
        refine eb_imul (pc := 69) rfl ?_
        refine eb_iload_n (pc := 70) (n := 3) (i := 3) rfl rfl rfl ?_
        refine eb_iadd (pc := 71) rfl ?_
        refine eb_istore (pc := 72) (i := 8) (ls2 := [(8, .int ((((y10 * 4) + x2) * 16) + (x1 &&& 15))), (7, .int 0), (6, .int y10), (5, .int (x1 >>> ((4 : Int32) &&& 31))), (4, .int y5), (3, .int (x1 &&& 15)), (0, .ref s_flights), (1, .int x1), (2, .int x2)]) (Nat.le_of_ble_eq_true rfl) rfl rfl ?_
        refine eb_iload (pc := 74) (i := 8) rfl rfl ?_
        refine eb_if_lt (pc := 76) (tgt := 89) rfl (by decide) (fun c15 => ?_) (fun c15 => ?_)
        · replace w := w.1 c15
          refine eb_iconst (pc := 89) (n := -1) (v := (-1)) rfl rfl ?_
          exact eb_ireturn (pc := 90) rfl rfl rfl w
        · replace w := w.2 c15
          refine eb_iload (pc := 79) (i := 8) rfl rfl ?_
          refine eb_aload_n (pc := 81) (n := 0) (i := 0) rfl rfl rfl ?_
          refine eb_getR (pc := 82) rfl rfl (by decide) (by decide) rfl (ko_s_flights_6 ko11) ?_
          refine eb_alen (pc := 85) (v := 448) rfl (by decide) (by decide) rfl ?_
          refine eb_icmp_lt (pc := 86) (tgt := 91) rfl (by decide) (fun c16 => ?_) (fun c16 => ?_)
          · replace w := w.1 c16
            refine eb_aload_n (pc := 91) (n := 0) (i := 0) rfl rfl rfl ?_
            refine eb_getR (pc := 92) rfl rfl (by decide) (by decide) rfl (ko_s_flights_6 ko11) ?_
            refine eb_iload (pc := 95) (i := 8) rfl rfl ?_
            obtain ⟨c17, w⟩ := w
            refine eb_baload (pc := 97) rfl rfl c17 ?_
            refine eb_if_ne (pc := 98) (tgt := 130) rfl (by decide) (fun c18 => ?_) (fun c18 => ?_)
            · replace w := w.1 c18
              refine eb_aload_n (pc := 130) (n := 0) (i := 0) rfl rfl rfl ?_
              refine eb_getR (pc := 131) rfl rfl (by decide) (by decide) rfl (ko_s_flights_6 ko11) ?_
              refine eb_iload (pc := 134) (i := 8) rfl rfl ?_
              obtain ⟨c19, w⟩ := w
              refine eb_baload (pc := 136) rfl rfl c19 ?_
              refine eb_iconst (pc := 137) (n := 1) (v := 1) rfl rfl ?_
              refine eb_icmp_ne (pc := 138) (tgt := 143) rfl (by decide) (fun c20 => ?_) (fun c20 => ?_)
              · replace w := w.1 c20
                refine eb_iload (pc := 143) (i := 4) rfl rfl ?_
                refine eb_aload_n (pc := 145) (n := 0) (i := 0) rfl rfl rfl ?_
                refine eb_getR (pc := 146) rfl rfl (by decide) (by decide) rfl (ko_s_flights_6 ko11) ?_
                refine eb_iload (pc := 149) (i := 8) rfl rfl ?_
                obtain ⟨c21, w⟩ := w
                refine eb_baload (pc := 151) rfl rfl c21 ?_
                refine eb_iconst (pc := 152) (n := 3) (v := 3) rfl rfl ?_
                refine eb_joinI (pc2 := 169) (ls2 := [(8, .int ((((y10 * 4) + x2) * 16) + (x1 &&& 15))), (7, .int 0), (6, .int y10), (5, .int (x1 >>> ((4 : Int32) &&& 31))), (4, .int y5), (3, .int (x1 &&& 15)), (0, .ref s_flights), (1, .int x1), (2, .int x2)]) (st2 := [.int y5]) (v := (if (eb_I h9 s_flights_verdicts ((((y10 * 4) + x2) * 16) + (x1 &&& 15)).toNatClampNeg) = (3 : Int32) then (x1 >>> ((4 : Int32) &&& 31)) ||| 0 else x1 >>> ((4 : Int32) &&& 31) : Int32)) ?_ (fun jj23 => ?_)
                · refine eb_ctS (pc := 169) (As := [.int y5, .int (if (eb_I h9 s_flights_verdicts ((((y10 * 4) + x2) * 16) + (x1 &&& 15)).toNatClampNeg) = (3 : Int32) then (x1 >>> ((4 : Int32) &&& 31)) ||| 0 else x1 >>> ((4 : Int32) &&& 31) : Int32)]) (rest := []) rfl (by decide) (by decide) rfl rfl (Nat.le_of_ble_eq_true rfl) ?_
                  refine eb_bodyQ (by decide) ok_X1_codeOf (Nat.le_of_ble_eq_true rfl) ?_
                  change eb_Sn _ m_X1_codeOf _ 0 [(0, .int y5), (1, .int (if (eb_I h9 s_flights_verdicts ((((y10 * 4) + x2) * 16) + (x1 &&& 15)).toNatClampNeg) = (3 : Int32) then (x1 >>> ((4 : Int32) &&& 31)) ||| 0 else x1 >>> ((4 : Int32) &&& 31) : Int32))] [] _ _
                  refine eb_bipush (pc := 0) (n := 16) (v := 16) rfl rfl ?_
                  refine eb_iload_n (pc := 2) (n := 1) (i := 1) rfl rfl rfl ?_
                  refine eb_imul (pc := 3) rfl ?_
                  refine eb_iload_n (pc := 4) (n := 0) (i := 0) rfl rfl rfl ?_
                  refine eb_iadd (pc := 5) rfl ?_
                  refine eb_ireturn (pc := 6) rfl rfl rfl ?_
                  change eb_Sn _ _ _ 172 _ [.int (((16 : Int32) * (if (eb_I h9 s_flights_verdicts ((((y10 * 4) + x2) * 16) + (x1 &&& 15)).toNatClampNeg) = (3 : Int32) then (x1 >>> ((4 : Int32) &&& 31)) ||| 0 else x1 >>> ((4 : Int32) &&& 31) : Int32)) + y5)] _ _
                  exact eb_ireturn (pc := 172) rfl rfl rfl w
                refine eb_icmp_ne (pc := 153) (tgt := 167) rfl (by decide) (fun c22 => ?_) (fun c22 => ?_)
                · refine eb_iload (pc := 167) (i := 5) rfl rfl ?_
                  exact jj23 _ (by simp only [if_neg c22])
                · refine eb_iload (pc := 156) (i := 5) rfl rfl ?_
                  refine eb_iload (pc := 158) (i := 7) rfl rfl ?_
                  refine eb_ctS (pc := 160) (As := [.int 0]) (rest := [.int (x1 >>> ((4 : Int32) &&& 31)), .int y5]) rfl (by decide) (by decide) rfl rfl (Nat.le_of_ble_eq_true rfl) ?_
                  refine eb_bodyQ (by decide) ok_X10_bitOf (Nat.le_of_ble_eq_true rfl) ?_
                  change eb_Sn _ m_X10_bitOf _ 0 [(0, .int 0)] [] _ _
                  refine eb_iload_n (pc := 0) (n := 0) (i := 0) rfl rfl rfl ?_
                  refine eb_iconst (pc := 1) (n := 1) (v := 1) rfl rfl ?_
                  refine eb_icmp_ge (pc := 2) (tgt := 9) rfl (by decide) (fun c => absurd c (by decide)) (fun c => ?_)
                  refine eb_iconst (pc := 5) (n := 0) (v := 0) rfl rfl ?_
                  refine eb_goto (pc := 6) (tgt := 14) rfl (by decide) ?_
                  refine eb_ireturn (pc := 14) rfl rfl rfl ?_
                  change eb_Sn _ _ _ 163 _ [.int 0, .int (x1 >>> ((4 : Int32) &&& 31)), .int y5] _ _
                  refine eb_ior (pc := 163) rfl ?_
                  refine eb_goto (pc := 164) (tgt := 169) rfl (by decide) ?_
                  exact jj23 _ (by simp only [if_pos c22])
              · replace w := w.2 c20
                refine eb_iconst (pc := 141) (n := -1) (v := (-1)) rfl rfl ?_
                exact eb_ireturn (pc := 142) rfl rfl rfl w
            · replace w := w.2 c18
              refine eb_aload_n (pc := 101) (n := 0) (i := 0) rfl rfl rfl ?_
              refine eb_getR (pc := 102) rfl rfl (by decide) (by decide) rfl (ko_s_flights_6 ko11) ?_
              refine eb_iload (pc := 105) (i := 8) rfl rfl ?_
              refine eb_aload_n (pc := 107) (n := 0) (i := 0) rfl rfl rfl ?_
              obtain ⟨r25, q26, k27, w⟩ := w
              refine eb_getR (pc := 108) rfl rfl (by decide) (by decide) rfl q26 ?_
              refine eb_iload_n (pc := 111) (n := 3) (i := 3) rfl rfl rfl ?_
              refine eb_iload (pc := 112) (i := 4) rfl rfl ?_
              refine eb_iload (pc := 114) (i := 6) rfl rfl ?_
              refine eb_aload_n (pc := 116) (n := 0) (i := 0) rfl rfl rfl ?_
              refine eb_getR (pc := 117) rfl rfl (by decide) (by decide) rfl (ko_s_flights_1 ko11) ?_
              refine eb_getI (pc := 120) rfl rfl (by decide) (by decide) rfl ?_
              refine eb_iload (pc := 123) (i := 7) rfl rfl ?_
              refine eb_ctV (pc := 125) (As := [.int (x1 &&& 15), .int y5, .int y10, .int (eb_I h9 s_flights_state 4), .int 0]) (rest := [.int ((((y10 * 4) + x2) * 16) + (x1 &&& 15)), .ref s_flights_verdicts]) rfl (by decide) rfl k27 (by decide) rfl (Nat.le_of_ble_eq_true rfl) ?_
              refine eb_Ct.mono w ?_
              rintro r h28 ⟨y29, rfl, ko30, w⟩
              change eb_Sn _ _ _ 128 _ [.int y29, .int ((((y10 * 4) + x2) * 16) + (x1 &&& 15)), .ref s_flights_verdicts] _ _
              refine eb_i2b (pc := 128) rfl ?_
              obtain ⟨c31, w⟩ := w
              refine eb_bastore (pc := 129) rfl rfl c31 ?_
              refine eb_aload_n (pc := 130) (n := 0) (i := 0) rfl rfl rfl ?_
              refine eb_getR (pc := 131) rfl rfl (by decide) (by decide) rfl (ko_s_flights_6 ko30) ?_
              refine eb_iload (pc := 134) (i := 8) rfl rfl ?_
              obtain ⟨c32, w⟩ := w
              refine eb_baload (pc := 136) rfl rfl c32 ?_
              refine eb_iconst (pc := 137) (n := 1) (v := 1) rfl rfl ?_
              refine eb_icmp_ne (pc := 138) (tgt := 143) rfl (by decide) (fun c33 => ?_) (fun c33 => ?_)
              · replace w := w.1 c33
                refine eb_iload (pc := 143) (i := 4) rfl rfl ?_
                refine eb_aload_n (pc := 145) (n := 0) (i := 0) rfl rfl rfl ?_
                refine eb_getR (pc := 146) rfl rfl (by decide) (by decide) rfl (ko_s_flights_6 ko30) ?_
                refine eb_iload (pc := 149) (i := 8) rfl rfl ?_
                obtain ⟨c34, w⟩ := w
                refine eb_baload (pc := 151) rfl rfl c34 ?_
                refine eb_iconst (pc := 152) (n := 3) (v := 3) rfl rfl ?_
                refine eb_joinI (pc2 := 169) (ls2 := [(8, .int ((((y10 * 4) + x2) * 16) + (x1 &&& 15))), (7, .int 0), (6, .int y10), (5, .int (x1 >>> ((4 : Int32) &&& 31))), (4, .int y5), (3, .int (x1 &&& 15)), (0, .ref s_flights), (1, .int x1), (2, .int x2)]) (st2 := [.int y5]) (v := (if (eb_I (eb_sI h28 s_flights_verdicts ((((y10 * 4) + x2) * 16) + (x1 &&& 15)).toNatClampNeg y29.toInt8.toInt32.toInt8.toInt32) s_flights_verdicts ((((y10 * 4) + x2) * 16) + (x1 &&& 15)).toNatClampNeg) = (3 : Int32) then (x1 >>> ((4 : Int32) &&& 31)) ||| 0 else x1 >>> ((4 : Int32) &&& 31) : Int32)) ?_ (fun jj36 => ?_)
                · refine eb_ctS (pc := 169) (As := [.int y5, .int (if (eb_I (eb_sI h28 s_flights_verdicts ((((y10 * 4) + x2) * 16) + (x1 &&& 15)).toNatClampNeg y29.toInt8.toInt32.toInt8.toInt32) s_flights_verdicts ((((y10 * 4) + x2) * 16) + (x1 &&& 15)).toNatClampNeg) = (3 : Int32) then (x1 >>> ((4 : Int32) &&& 31)) ||| 0 else x1 >>> ((4 : Int32) &&& 31) : Int32)]) (rest := []) rfl (by decide) (by decide) rfl rfl (Nat.le_of_ble_eq_true rfl) ?_
                  refine eb_bodyQ (by decide) ok_X1_codeOf (Nat.le_of_ble_eq_true rfl) ?_
                  change eb_Sn _ m_X1_codeOf _ 0 [(0, .int y5), (1, .int (if (eb_I (eb_sI h28 s_flights_verdicts ((((y10 * 4) + x2) * 16) + (x1 &&& 15)).toNatClampNeg y29.toInt8.toInt32.toInt8.toInt32) s_flights_verdicts ((((y10 * 4) + x2) * 16) + (x1 &&& 15)).toNatClampNeg) = (3 : Int32) then (x1 >>> ((4 : Int32) &&& 31)) ||| 0 else x1 >>> ((4 : Int32) &&& 31) : Int32))] [] _ _
                  refine eb_bipush (pc := 0) (n := 16) (v := 16) rfl rfl ?_
                  refine eb_iload_n (pc := 2) (n := 1) (i := 1) rfl rfl rfl ?_
                  refine eb_imul (pc := 3) rfl ?_
                  refine eb_iload_n (pc := 4) (n := 0) (i := 0) rfl rfl rfl ?_
                  refine eb_iadd (pc := 5) rfl ?_
                  refine eb_ireturn (pc := 6) rfl rfl rfl ?_
                  change eb_Sn _ _ _ 172 _ [.int (((16 : Int32) * (if (eb_I (eb_sI h28 s_flights_verdicts ((((y10 * 4) + x2) * 16) + (x1 &&& 15)).toNatClampNeg y29.toInt8.toInt32.toInt8.toInt32) s_flights_verdicts ((((y10 * 4) + x2) * 16) + (x1 &&& 15)).toNatClampNeg) = (3 : Int32) then (x1 >>> ((4 : Int32) &&& 31)) ||| 0 else x1 >>> ((4 : Int32) &&& 31) : Int32)) + y5)] _ _
                  exact eb_ireturn (pc := 172) rfl rfl rfl w
                refine eb_icmp_ne (pc := 153) (tgt := 167) rfl (by decide) (fun c35 => ?_) (fun c35 => ?_)
                · refine eb_iload (pc := 167) (i := 5) rfl rfl ?_
                  exact jj36 _ (by simp only [if_neg c35])
                · refine eb_iload (pc := 156) (i := 5) rfl rfl ?_
                  refine eb_iload (pc := 158) (i := 7) rfl rfl ?_
                  refine eb_ctS (pc := 160) (As := [.int 0]) (rest := [.int (x1 >>> ((4 : Int32) &&& 31)), .int y5]) rfl (by decide) (by decide) rfl rfl (Nat.le_of_ble_eq_true rfl) ?_
                  refine eb_bodyQ (by decide) ok_X10_bitOf (Nat.le_of_ble_eq_true rfl) ?_
                  change eb_Sn _ m_X10_bitOf _ 0 [(0, .int 0)] [] _ _
                  refine eb_iload_n (pc := 0) (n := 0) (i := 0) rfl rfl rfl ?_
                  refine eb_iconst (pc := 1) (n := 1) (v := 1) rfl rfl ?_
                  refine eb_icmp_ge (pc := 2) (tgt := 9) rfl (by decide) (fun c => absurd c (by decide)) (fun c => ?_)
                  refine eb_iconst (pc := 5) (n := 0) (v := 0) rfl rfl ?_
                  refine eb_goto (pc := 6) (tgt := 14) rfl (by decide) ?_
                  refine eb_ireturn (pc := 14) rfl rfl rfl ?_
                  change eb_Sn _ _ _ 163 _ [.int 0, .int (x1 >>> ((4 : Int32) &&& 31)), .int y5] _ _
                  refine eb_ior (pc := 163) rfl ?_
                  refine eb_goto (pc := 164) (tgt := 169) rfl (by decide) ?_
                  exact jj36 _ (by simp only [if_pos c35])
              · replace w := w.2 c33
                refine eb_iconst (pc := 141) (n := -1) (v := (-1)) rfl rfl ?_
                exact eb_ireturn (pc := 142) rfl rfl rfl w
          · replace w := w.2 c16
            refine eb_iconst (pc := 89) (n := -1) (v := (-1)) rfl rfl ?_
            exact eb_ireturn (pc := 90) rfl rfl rfl w
      · replace w := w.2 c12
        refine eb_iload_n (pc := 4) (n := 1) (i := 1) rfl rfl rfl ?_
        refine eb_aload_n (pc := 5) (n := 0) (i := 0) rfl rfl rfl ?_
        refine eb_getR (pc := 6) rfl rfl (by decide) (by decide) rfl (ko_s_flights_state_5 ko11) ?_
        refine eb_alen (pc := 9) (v := 16) rfl (by decide) (by decide) rfl ?_
        refine eb_icmp_ge (pc := 10) (tgt := 22) rfl (by decide) (fun c13 => ?_) (fun c13 => ?_)
        · replace w := w.1 c13
          refine eb_iconst (pc := 22) (n := 0) (v := 0) rfl rfl ?_
          refine eb_ireturn (pc := 23) rfl rfl rfl ?_
          change eb_Sn _ _ _ 59 _ [.int 0] _ _
          refine eb_istore (pc := 59) (i := 7) (ls2 := [(7, .int 0), (6, .int y10), (5, .int (x1 >>> ((4 : Int32) &&& 31))), (4, .int y5), (3, .int (x1 &&& 15)), (0, .ref s_flights), (1, .int x1), (2, .int x2)]) (Nat.le_of_ble_eq_true rfl) rfl rfl ?_
          refine eb_iload (pc := 61) (i := 6) rfl rfl ?_
          refine eb_iconst (pc := 63) (n := 4) (v := 4) rfl rfl ?_
          refine eb_imul (pc := 64) rfl ?_
          refine eb_iload_n (pc := 65) (n := 2) (i := 2) rfl rfl rfl ?_
          refine eb_iadd (pc := 66) rfl ?_
          refine eb_bipush (pc := 67) (n := 16) (v := 16) rfl rfl ?_
          refine eb_imul (pc := 69) rfl ?_
          refine eb_iload_n (pc := 70) (n := 3) (i := 3) rfl rfl rfl ?_
          refine eb_iadd (pc := 71) rfl ?_
          refine eb_istore (pc := 72) (i := 8) (ls2 := [(8, .int ((((y10 * 4) + x2) * 16) + (x1 &&& 15))), (7, .int 0), (6, .int y10), (5, .int (x1 >>> ((4 : Int32) &&& 31))), (4, .int y5), (3, .int (x1 &&& 15)), (0, .ref s_flights), (1, .int x1), (2, .int x2)]) (Nat.le_of_ble_eq_true rfl) rfl rfl ?_
          refine eb_iload (pc := 74) (i := 8) rfl rfl ?_
          refine eb_if_lt (pc := 76) (tgt := 89) rfl (by decide) (fun c38 => ?_) (fun c38 => ?_)
          · replace w := w.1 c38
            refine eb_iconst (pc := 89) (n := -1) (v := (-1)) rfl rfl ?_
            exact eb_ireturn (pc := 90) rfl rfl rfl w
          · replace w := w.2 c38
            refine eb_iload (pc := 79) (i := 8) rfl rfl ?_
            refine eb_aload_n (pc := 81) (n := 0) (i := 0) rfl rfl rfl ?_
            refine eb_getR (pc := 82) rfl rfl (by decide) (by decide) rfl (ko_s_flights_6 ko11) ?_
            refine eb_alen (pc := 85) (v := 448) rfl (by decide) (by decide) rfl ?_
            refine eb_icmp_lt (pc := 86) (tgt := 91) rfl (by decide) (fun c39 => ?_) (fun c39 => ?_)
            · replace w := w.1 c39
              refine eb_aload_n (pc := 91) (n := 0) (i := 0) rfl rfl rfl ?_
              refine eb_getR (pc := 92) rfl rfl (by decide) (by decide) rfl (ko_s_flights_6 ko11) ?_
              refine eb_iload (pc := 95) (i := 8) rfl rfl ?_
              obtain ⟨c40, w⟩ := w
              refine eb_baload (pc := 97) rfl rfl c40 ?_
              refine eb_if_ne (pc := 98) (tgt := 130) rfl (by decide) (fun c41 => ?_) (fun c41 => ?_)
              · replace w := w.1 c41
                refine eb_aload_n (pc := 130) (n := 0) (i := 0) rfl rfl rfl ?_
                refine eb_getR (pc := 131) rfl rfl (by decide) (by decide) rfl (ko_s_flights_6 ko11) ?_
                refine eb_iload (pc := 134) (i := 8) rfl rfl ?_
                obtain ⟨c42, w⟩ := w
                refine eb_baload (pc := 136) rfl rfl c42 ?_
                refine eb_iconst (pc := 137) (n := 1) (v := 1) rfl rfl ?_
                refine eb_icmp_ne (pc := 138) (tgt := 143) rfl (by decide) (fun c43 => ?_) (fun c43 => ?_)
                · replace w := w.1 c43
                  refine eb_iload (pc := 143) (i := 4) rfl rfl ?_
                  refine eb_aload_n (pc := 145) (n := 0) (i := 0) rfl rfl rfl ?_
                  refine eb_getR (pc := 146) rfl rfl (by decide) (by decide) rfl (ko_s_flights_6 ko11) ?_
                  refine eb_iload (pc := 149) (i := 8) rfl rfl ?_
                  obtain ⟨c44, w⟩ := w
                  refine eb_baload (pc := 151) rfl rfl c44 ?_
                  refine eb_iconst (pc := 152) (n := 3) (v := 3) rfl rfl ?_
                  refine eb_joinI (pc2 := 169) (ls2 := [(8, .int ((((y10 * 4) + x2) * 16) + (x1 &&& 15))), (7, .int 0), (6, .int y10), (5, .int (x1 >>> ((4 : Int32) &&& 31))), (4, .int y5), (3, .int (x1 &&& 15)), (0, .ref s_flights), (1, .int x1), (2, .int x2)]) (st2 := [.int y5]) (v := (if (eb_I h9 s_flights_verdicts ((((y10 * 4) + x2) * 16) + (x1 &&& 15)).toNatClampNeg) = (3 : Int32) then (x1 >>> ((4 : Int32) &&& 31)) ||| 0 else x1 >>> ((4 : Int32) &&& 31) : Int32)) ?_ (fun jj46 => ?_)
                  · refine eb_ctS (pc := 169) (As := [.int y5, .int (if (eb_I h9 s_flights_verdicts ((((y10 * 4) + x2) * 16) + (x1 &&& 15)).toNatClampNeg) = (3 : Int32) then (x1 >>> ((4 : Int32) &&& 31)) ||| 0 else x1 >>> ((4 : Int32) &&& 31) : Int32)]) (rest := []) rfl (by decide) (by decide) rfl rfl (Nat.le_of_ble_eq_true rfl) ?_
                    refine eb_bodyQ (by decide) ok_X1_codeOf (Nat.le_of_ble_eq_true rfl) ?_
                    change eb_Sn _ m_X1_codeOf _ 0 [(0, .int y5), (1, .int (if (eb_I h9 s_flights_verdicts ((((y10 * 4) + x2) * 16) + (x1 &&& 15)).toNatClampNeg) = (3 : Int32) then (x1 >>> ((4 : Int32) &&& 31)) ||| 0 else x1 >>> ((4 : Int32) &&& 31) : Int32))] [] _ _
                    refine eb_bipush (pc := 0) (n := 16) (v := 16) rfl rfl ?_
                    refine eb_iload_n (pc := 2) (n := 1) (i := 1) rfl rfl rfl ?_
                    refine eb_imul (pc := 3) rfl ?_
                    refine eb_iload_n (pc := 4) (n := 0) (i := 0) rfl rfl rfl ?_
                    refine eb_iadd (pc := 5) rfl ?_
                    refine eb_ireturn (pc := 6) rfl rfl rfl ?_
                    change eb_Sn _ _ _ 172 _ [.int (((16 : Int32) * (if (eb_I h9 s_flights_verdicts ((((y10 * 4) + x2) * 16) + (x1 &&& 15)).toNatClampNeg) = (3 : Int32) then (x1 >>> ((4 : Int32) &&& 31)) ||| 0 else x1 >>> ((4 : Int32) &&& 31) : Int32)) + y5)] _ _
                    exact eb_ireturn (pc := 172) rfl rfl rfl w
                  refine eb_icmp_ne (pc := 153) (tgt := 167) rfl (by decide) (fun c45 => ?_) (fun c45 => ?_)
                  · refine eb_iload (pc := 167) (i := 5) rfl rfl ?_
                    exact jj46 _ (by simp only [if_neg c45])
                  · refine eb_iload (pc := 156) (i := 5) rfl rfl ?_
                    refine eb_iload (pc := 158) (i := 7) rfl rfl ?_
                    refine eb_ctS (pc := 160) (As := [.int 0]) (rest := [.int (x1 >>> ((4 : Int32) &&& 31)), .int y5]) rfl (by decide) (by decide) rfl rfl (Nat.le_of_ble_eq_true rfl) ?_
                    refine eb_bodyQ (by decide) ok_X10_bitOf (Nat.le_of_ble_eq_true rfl) ?_
                    change eb_Sn _ m_X10_bitOf _ 0 [(0, .int 0)] [] _ _
                    refine eb_iload_n (pc := 0) (n := 0) (i := 0) rfl rfl rfl ?_
                    refine eb_iconst (pc := 1) (n := 1) (v := 1) rfl rfl ?_
                    refine eb_icmp_ge (pc := 2) (tgt := 9) rfl (by decide) (fun c => absurd c (by decide)) (fun c => ?_)
                    refine eb_iconst (pc := 5) (n := 0) (v := 0) rfl rfl ?_
                    refine eb_goto (pc := 6) (tgt := 14) rfl (by decide) ?_
                    refine eb_ireturn (pc := 14) rfl rfl rfl ?_
                    change eb_Sn _ _ _ 163 _ [.int 0, .int (x1 >>> ((4 : Int32) &&& 31)), .int y5] _ _
                    refine eb_ior (pc := 163) rfl ?_
                    refine eb_goto (pc := 164) (tgt := 169) rfl (by decide) ?_
                    exact jj46 _ (by simp only [if_pos c45])
                · replace w := w.2 c43
                  refine eb_iconst (pc := 141) (n := -1) (v := (-1)) rfl rfl ?_
                  exact eb_ireturn (pc := 142) rfl rfl rfl w
              · replace w := w.2 c41
                refine eb_aload_n (pc := 101) (n := 0) (i := 0) rfl rfl rfl ?_
                refine eb_getR (pc := 102) rfl rfl (by decide) (by decide) rfl (ko_s_flights_6 ko11) ?_
                refine eb_iload (pc := 105) (i := 8) rfl rfl ?_
                refine eb_aload_n (pc := 107) (n := 0) (i := 0) rfl rfl rfl ?_
                obtain ⟨r48, q49, k50, w⟩ := w
                refine eb_getR (pc := 108) rfl rfl (by decide) (by decide) rfl q49 ?_
                refine eb_iload_n (pc := 111) (n := 3) (i := 3) rfl rfl rfl ?_
                refine eb_iload (pc := 112) (i := 4) rfl rfl ?_
                refine eb_iload (pc := 114) (i := 6) rfl rfl ?_
                refine eb_aload_n (pc := 116) (n := 0) (i := 0) rfl rfl rfl ?_
                refine eb_getR (pc := 117) rfl rfl (by decide) (by decide) rfl (ko_s_flights_1 ko11) ?_
                refine eb_getI (pc := 120) rfl rfl (by decide) (by decide) rfl ?_
                refine eb_iload (pc := 123) (i := 7) rfl rfl ?_
                refine eb_ctV (pc := 125) (As := [.int (x1 &&& 15), .int y5, .int y10, .int (eb_I h9 s_flights_state 4), .int 0]) (rest := [.int ((((y10 * 4) + x2) * 16) + (x1 &&& 15)), .ref s_flights_verdicts]) rfl (by decide) rfl k50 (by decide) rfl (Nat.le_of_ble_eq_true rfl) ?_
                refine eb_Ct.mono w ?_
                rintro r h51 ⟨y52, rfl, ko53, w⟩
                change eb_Sn _ _ _ 128 _ [.int y52, .int ((((y10 * 4) + x2) * 16) + (x1 &&& 15)), .ref s_flights_verdicts] _ _
                refine eb_i2b (pc := 128) rfl ?_
                obtain ⟨c54, w⟩ := w
                refine eb_bastore (pc := 129) rfl rfl c54 ?_
                refine eb_aload_n (pc := 130) (n := 0) (i := 0) rfl rfl rfl ?_
                refine eb_getR (pc := 131) rfl rfl (by decide) (by decide) rfl (ko_s_flights_6 ko53) ?_
                refine eb_iload (pc := 134) (i := 8) rfl rfl ?_
                obtain ⟨c55, w⟩ := w
                refine eb_baload (pc := 136) rfl rfl c55 ?_
                refine eb_iconst (pc := 137) (n := 1) (v := 1) rfl rfl ?_
                refine eb_icmp_ne (pc := 138) (tgt := 143) rfl (by decide) (fun c56 => ?_) (fun c56 => ?_)
                · replace w := w.1 c56
                  refine eb_iload (pc := 143) (i := 4) rfl rfl ?_
                  refine eb_aload_n (pc := 145) (n := 0) (i := 0) rfl rfl rfl ?_
                  refine eb_getR (pc := 146) rfl rfl (by decide) (by decide) rfl (ko_s_flights_6 ko53) ?_
                  refine eb_iload (pc := 149) (i := 8) rfl rfl ?_
                  obtain ⟨c57, w⟩ := w
                  refine eb_baload (pc := 151) rfl rfl c57 ?_
                  refine eb_iconst (pc := 152) (n := 3) (v := 3) rfl rfl ?_
                  refine eb_joinI (pc2 := 169) (ls2 := [(8, .int ((((y10 * 4) + x2) * 16) + (x1 &&& 15))), (7, .int 0), (6, .int y10), (5, .int (x1 >>> ((4 : Int32) &&& 31))), (4, .int y5), (3, .int (x1 &&& 15)), (0, .ref s_flights), (1, .int x1), (2, .int x2)]) (st2 := [.int y5]) (v := (if (eb_I (eb_sI h51 s_flights_verdicts ((((y10 * 4) + x2) * 16) + (x1 &&& 15)).toNatClampNeg y52.toInt8.toInt32.toInt8.toInt32) s_flights_verdicts ((((y10 * 4) + x2) * 16) + (x1 &&& 15)).toNatClampNeg) = (3 : Int32) then (x1 >>> ((4 : Int32) &&& 31)) ||| 0 else x1 >>> ((4 : Int32) &&& 31) : Int32)) ?_ (fun jj59 => ?_)
                  · refine eb_ctS (pc := 169) (As := [.int y5, .int (if (eb_I (eb_sI h51 s_flights_verdicts ((((y10 * 4) + x2) * 16) + (x1 &&& 15)).toNatClampNeg y52.toInt8.toInt32.toInt8.toInt32) s_flights_verdicts ((((y10 * 4) + x2) * 16) + (x1 &&& 15)).toNatClampNeg) = (3 : Int32) then (x1 >>> ((4 : Int32) &&& 31)) ||| 0 else x1 >>> ((4 : Int32) &&& 31) : Int32)]) (rest := []) rfl (by decide) (by decide) rfl rfl (Nat.le_of_ble_eq_true rfl) ?_
                    refine eb_bodyQ (by decide) ok_X1_codeOf (Nat.le_of_ble_eq_true rfl) ?_
                    change eb_Sn _ m_X1_codeOf _ 0 [(0, .int y5), (1, .int (if (eb_I (eb_sI h51 s_flights_verdicts ((((y10 * 4) + x2) * 16) + (x1 &&& 15)).toNatClampNeg y52.toInt8.toInt32.toInt8.toInt32) s_flights_verdicts ((((y10 * 4) + x2) * 16) + (x1 &&& 15)).toNatClampNeg) = (3 : Int32) then (x1 >>> ((4 : Int32) &&& 31)) ||| 0 else x1 >>> ((4 : Int32) &&& 31) : Int32))] [] _ _
                    refine eb_bipush (pc := 0) (n := 16) (v := 16) rfl rfl ?_
                    refine eb_iload_n (pc := 2) (n := 1) (i := 1) rfl rfl rfl ?_
                    refine eb_imul (pc := 3) rfl ?_
                    refine eb_iload_n (pc := 4) (n := 0) (i := 0) rfl rfl rfl ?_
                    refine eb_iadd (pc := 5) rfl ?_
                    refine eb_ireturn (pc := 6) rfl rfl rfl ?_
                    change eb_Sn _ _ _ 172 _ [.int (((16 : Int32) * (if (eb_I (eb_sI h51 s_flights_verdicts ((((y10 * 4) + x2) * 16) + (x1 &&& 15)).toNatClampNeg y52.toInt8.toInt32.toInt8.toInt32) s_flights_verdicts ((((y10 * 4) + x2) * 16) + (x1 &&& 15)).toNatClampNeg) = (3 : Int32) then (x1 >>> ((4 : Int32) &&& 31)) ||| 0 else x1 >>> ((4 : Int32) &&& 31) : Int32)) + y5)] _ _
                    exact eb_ireturn (pc := 172) rfl rfl rfl w
                  refine eb_icmp_ne (pc := 153) (tgt := 167) rfl (by decide) (fun c58 => ?_) (fun c58 => ?_)
                  · refine eb_iload (pc := 167) (i := 5) rfl rfl ?_
                    exact jj59 _ (by simp only [if_neg c58])
                  · refine eb_iload (pc := 156) (i := 5) rfl rfl ?_
                    refine eb_iload (pc := 158) (i := 7) rfl rfl ?_
                    refine eb_ctS (pc := 160) (As := [.int 0]) (rest := [.int (x1 >>> ((4 : Int32) &&& 31)), .int y5]) rfl (by decide) (by decide) rfl rfl (Nat.le_of_ble_eq_true rfl) ?_
                    refine eb_bodyQ (by decide) ok_X10_bitOf (Nat.le_of_ble_eq_true rfl) ?_
                    change eb_Sn _ m_X10_bitOf _ 0 [(0, .int 0)] [] _ _
                    refine eb_iload_n (pc := 0) (n := 0) (i := 0) rfl rfl rfl ?_
                    refine eb_iconst (pc := 1) (n := 1) (v := 1) rfl rfl ?_
                    refine eb_icmp_ge (pc := 2) (tgt := 9) rfl (by decide) (fun c => absurd c (by decide)) (fun c => ?_)
                    refine eb_iconst (pc := 5) (n := 0) (v := 0) rfl rfl ?_
                    refine eb_goto (pc := 6) (tgt := 14) rfl (by decide) ?_
                    refine eb_ireturn (pc := 14) rfl rfl rfl ?_
                    change eb_Sn _ _ _ 163 _ [.int 0, .int (x1 >>> ((4 : Int32) &&& 31)), .int y5] _ _
                    refine eb_ior (pc := 163) rfl ?_
                    refine eb_goto (pc := 164) (tgt := 169) rfl (by decide) ?_
                    exact jj59 _ (by simp only [if_pos c58])
                · replace w := w.2 c56
                  refine eb_iconst (pc := 141) (n := -1) (v := (-1)) rfl rfl ?_
                  exact eb_ireturn (pc := 142) rfl rfl rfl w
            · replace w := w.2 c39
              refine eb_iconst (pc := 89) (n := -1) (v := (-1)) rfl rfl ?_
              exact eb_ireturn (pc := 90) rfl rfl rfl w
        · replace w := w.2 c13
          refine eb_aload_n (pc := 13) (n := 0) (i := 0) rfl rfl rfl ?_
          refine eb_getR (pc := 14) rfl rfl (by decide) (by decide) rfl (ko_s_flights_state_5 ko11) ?_
          refine eb_iload_n (pc := 17) (n := 1) (i := 1) rfl rfl rfl ?_
          obtain ⟨c14, w⟩ := w
          refine eb_iaload (pc := 18) rfl rfl (by decide) c14 ?_
          refine eb_goto (pc := 19) (tgt := 23) rfl (by decide) ?_
          refine eb_ireturn (pc := 23) rfl rfl rfl ?_
          change eb_Sn _ _ _ 59 _ [.int (eb_I h9 s_flights_state_things y5.toNatClampNeg)] _ _
          refine eb_istore (pc := 59) (i := 7) (ls2 := [(7, .int (eb_I h9 s_flights_state_things y5.toNatClampNeg)), (6, .int y10), (5, .int (x1 >>> ((4 : Int32) &&& 31))), (4, .int y5), (3, .int (x1 &&& 15)), (0, .ref s_flights), (1, .int x1), (2, .int x2)]) (Nat.le_of_ble_eq_true rfl) rfl rfl ?_
          refine eb_iload (pc := 61) (i := 6) rfl rfl ?_
          refine eb_iconst (pc := 63) (n := 4) (v := 4) rfl rfl ?_
          refine eb_imul (pc := 64) rfl ?_
          refine eb_iload_n (pc := 65) (n := 2) (i := 2) rfl rfl rfl ?_
          refine eb_iadd (pc := 66) rfl ?_
          refine eb_bipush (pc := 67) (n := 16) (v := 16) rfl rfl ?_
          refine eb_imul (pc := 69) rfl ?_
          refine eb_iload_n (pc := 70) (n := 3) (i := 3) rfl rfl rfl ?_
          refine eb_iadd (pc := 71) rfl ?_
          refine eb_istore (pc := 72) (i := 8) (ls2 := [(8, .int ((((y10 * 4) + x2) * 16) + (x1 &&& 15))), (7, .int (eb_I h9 s_flights_state_things y5.toNatClampNeg)), (6, .int y10), (5, .int (x1 >>> ((4 : Int32) &&& 31))), (4, .int y5), (3, .int (x1 &&& 15)), (0, .ref s_flights), (1, .int x1), (2, .int x2)]) (Nat.le_of_ble_eq_true rfl) rfl rfl ?_
          refine eb_iload (pc := 74) (i := 8) rfl rfl ?_
          refine eb_if_lt (pc := 76) (tgt := 89) rfl (by decide) (fun c61 => ?_) (fun c61 => ?_)
          · replace w := w.1 c61
            refine eb_iconst (pc := 89) (n := -1) (v := (-1)) rfl rfl ?_
            exact eb_ireturn (pc := 90) rfl rfl rfl w
          · replace w := w.2 c61
            refine eb_iload (pc := 79) (i := 8) rfl rfl ?_
            refine eb_aload_n (pc := 81) (n := 0) (i := 0) rfl rfl rfl ?_
            refine eb_getR (pc := 82) rfl rfl (by decide) (by decide) rfl (ko_s_flights_6 ko11) ?_
            refine eb_alen (pc := 85) (v := 448) rfl (by decide) (by decide) rfl ?_
            refine eb_icmp_lt (pc := 86) (tgt := 91) rfl (by decide) (fun c62 => ?_) (fun c62 => ?_)
            · replace w := w.1 c62
              refine eb_aload_n (pc := 91) (n := 0) (i := 0) rfl rfl rfl ?_
              refine eb_getR (pc := 92) rfl rfl (by decide) (by decide) rfl (ko_s_flights_6 ko11) ?_
              refine eb_iload (pc := 95) (i := 8) rfl rfl ?_
              obtain ⟨c63, w⟩ := w
              refine eb_baload (pc := 97) rfl rfl c63 ?_
              refine eb_if_ne (pc := 98) (tgt := 130) rfl (by decide) (fun c64 => ?_) (fun c64 => ?_)
              · replace w := w.1 c64
                refine eb_aload_n (pc := 130) (n := 0) (i := 0) rfl rfl rfl ?_
                refine eb_getR (pc := 131) rfl rfl (by decide) (by decide) rfl (ko_s_flights_6 ko11) ?_
                refine eb_iload (pc := 134) (i := 8) rfl rfl ?_
                obtain ⟨c65, w⟩ := w
                refine eb_baload (pc := 136) rfl rfl c65 ?_
                refine eb_iconst (pc := 137) (n := 1) (v := 1) rfl rfl ?_
                refine eb_icmp_ne (pc := 138) (tgt := 143) rfl (by decide) (fun c66 => ?_) (fun c66 => ?_)
                · replace w := w.1 c66
                  refine eb_iload (pc := 143) (i := 4) rfl rfl ?_
                  refine eb_aload_n (pc := 145) (n := 0) (i := 0) rfl rfl rfl ?_
                  refine eb_getR (pc := 146) rfl rfl (by decide) (by decide) rfl (ko_s_flights_6 ko11) ?_
                  refine eb_iload (pc := 149) (i := 8) rfl rfl ?_
                  obtain ⟨c67, w⟩ := w
                  refine eb_baload (pc := 151) rfl rfl c67 ?_
                  refine eb_iconst (pc := 152) (n := 3) (v := 3) rfl rfl ?_
                  refine eb_joinI (pc2 := 169) (ls2 := [(8, .int ((((y10 * 4) + x2) * 16) + (x1 &&& 15))), (7, .int (eb_I h9 s_flights_state_things y5.toNatClampNeg)), (6, .int y10), (5, .int (x1 >>> ((4 : Int32) &&& 31))), (4, .int y5), (3, .int (x1 &&& 15)), (0, .ref s_flights), (1, .int x1), (2, .int x2)]) (st2 := [.int y5]) (v := (if (eb_I h9 s_flights_verdicts ((((y10 * 4) + x2) * 16) + (x1 &&& 15)).toNatClampNeg) = (3 : Int32) then (if (1 : Int32) ≤ (eb_I h9 s_flights_state_things y5.toNatClampNeg) then (x1 >>> ((4 : Int32) &&& 31)) ||| ((1 : Int32) <<< (((eb_I h9 s_flights_state_things y5.toNatClampNeg) - 1) &&& 31)) else (x1 >>> ((4 : Int32) &&& 31)) ||| 0) else x1 >>> ((4 : Int32) &&& 31) : Int32)) ?_ (fun jj70 => ?_)
                  · refine eb_ctS (pc := 169) (As := [.int y5, .int (if (eb_I h9 s_flights_verdicts ((((y10 * 4) + x2) * 16) + (x1 &&& 15)).toNatClampNeg) = (3 : Int32) then (if (1 : Int32) ≤ (eb_I h9 s_flights_state_things y5.toNatClampNeg) then (x1 >>> ((4 : Int32) &&& 31)) ||| ((1 : Int32) <<< (((eb_I h9 s_flights_state_things y5.toNatClampNeg) - 1) &&& 31)) else (x1 >>> ((4 : Int32) &&& 31)) ||| 0) else x1 >>> ((4 : Int32) &&& 31) : Int32)]) (rest := []) rfl (by decide) (by decide) rfl rfl (Nat.le_of_ble_eq_true rfl) ?_
                    refine eb_bodyQ (by decide) ok_X1_codeOf (Nat.le_of_ble_eq_true rfl) ?_
                    change eb_Sn _ m_X1_codeOf _ 0 [(0, .int y5), (1, .int (if (eb_I h9 s_flights_verdicts ((((y10 * 4) + x2) * 16) + (x1 &&& 15)).toNatClampNeg) = (3 : Int32) then (if (1 : Int32) ≤ (eb_I h9 s_flights_state_things y5.toNatClampNeg) then (x1 >>> ((4 : Int32) &&& 31)) ||| ((1 : Int32) <<< (((eb_I h9 s_flights_state_things y5.toNatClampNeg) - 1) &&& 31)) else (x1 >>> ((4 : Int32) &&& 31)) ||| 0) else x1 >>> ((4 : Int32) &&& 31) : Int32))] [] _ _
                    refine eb_bipush (pc := 0) (n := 16) (v := 16) rfl rfl ?_
                    refine eb_iload_n (pc := 2) (n := 1) (i := 1) rfl rfl rfl ?_
                    refine eb_imul (pc := 3) rfl ?_
                    refine eb_iload_n (pc := 4) (n := 0) (i := 0) rfl rfl rfl ?_
                    refine eb_iadd (pc := 5) rfl ?_
                    refine eb_ireturn (pc := 6) rfl rfl rfl ?_
                    change eb_Sn _ _ _ 172 _ [.int (((16 : Int32) * (if (eb_I h9 s_flights_verdicts ((((y10 * 4) + x2) * 16) + (x1 &&& 15)).toNatClampNeg) = (3 : Int32) then (if (1 : Int32) ≤ (eb_I h9 s_flights_state_things y5.toNatClampNeg) then (x1 >>> ((4 : Int32) &&& 31)) ||| ((1 : Int32) <<< (((eb_I h9 s_flights_state_things y5.toNatClampNeg) - 1) &&& 31)) else (x1 >>> ((4 : Int32) &&& 31)) ||| 0) else x1 >>> ((4 : Int32) &&& 31) : Int32)) + y5)] _ _
                    exact eb_ireturn (pc := 172) rfl rfl rfl w
                  refine eb_icmp_ne (pc := 153) (tgt := 167) rfl (by decide) (fun c68 => ?_) (fun c68 => ?_)
                  · refine eb_iload (pc := 167) (i := 5) rfl rfl ?_
                    exact jj70 _ (by simp only [if_neg c68])
                  · refine eb_iload (pc := 156) (i := 5) rfl rfl ?_
                    refine eb_iload (pc := 158) (i := 7) rfl rfl ?_
                    refine eb_ctS (pc := 160) (As := [.int (eb_I h9 s_flights_state_things y5.toNatClampNeg)]) (rest := [.int (x1 >>> ((4 : Int32) &&& 31)), .int y5]) rfl (by decide) (by decide) rfl rfl (Nat.le_of_ble_eq_true rfl) ?_
                    refine eb_bodyQ (by decide) ok_X10_bitOf (Nat.le_of_ble_eq_true rfl) ?_
                    change eb_Sn _ m_X10_bitOf _ 0 [(0, .int (eb_I h9 s_flights_state_things y5.toNatClampNeg))] [] _ _
                    refine eb_iload_n (pc := 0) (n := 0) (i := 0) rfl rfl rfl ?_
                    refine eb_iconst (pc := 1) (n := 1) (v := 1) rfl rfl ?_
                    refine eb_icmp_ge (pc := 2) (tgt := 9) rfl (by decide) (fun c69 => ?_) (fun c69 => ?_)
                    · refine eb_iconst (pc := 9) (n := 1) (v := 1) rfl rfl ?_
                      refine eb_iload_n (pc := 10) (n := 0) (i := 0) rfl rfl rfl ?_
                      refine eb_iconst (pc := 11) (n := 1) (v := 1) rfl rfl ?_
                      refine eb_isub (pc := 12) rfl ?_
                      refine eb_ishl (pc := 13) rfl ?_
                      refine eb_ireturn (pc := 14) rfl rfl rfl ?_
                      change eb_Sn _ _ _ 163 _ [.int ((1 : Int32) <<< (((eb_I h9 s_flights_state_things y5.toNatClampNeg) - 1) &&& 31)), .int (x1 >>> ((4 : Int32) &&& 31)), .int y5] _ _
                      refine eb_ior (pc := 163) rfl ?_
                      refine eb_goto (pc := 164) (tgt := 169) rfl (by decide) ?_
                      exact jj70 _ (by simp only [if_pos c68, if_pos c69])
                    · refine eb_iconst (pc := 5) (n := 0) (v := 0) rfl rfl ?_
                      refine eb_goto (pc := 6) (tgt := 14) rfl (by decide) ?_
                      refine eb_ireturn (pc := 14) rfl rfl rfl ?_
                      change eb_Sn _ _ _ 163 _ [.int 0, .int (x1 >>> ((4 : Int32) &&& 31)), .int y5] _ _
                      refine eb_ior (pc := 163) rfl ?_
                      refine eb_goto (pc := 164) (tgt := 169) rfl (by decide) ?_
                      exact jj70 _ (by simp only [if_pos c68, if_neg c69])
                · replace w := w.2 c66
                  refine eb_iconst (pc := 141) (n := -1) (v := (-1)) rfl rfl ?_
                  exact eb_ireturn (pc := 142) rfl rfl rfl w
              · replace w := w.2 c64
                refine eb_aload_n (pc := 101) (n := 0) (i := 0) rfl rfl rfl ?_
                refine eb_getR (pc := 102) rfl rfl (by decide) (by decide) rfl (ko_s_flights_6 ko11) ?_
                refine eb_iload (pc := 105) (i := 8) rfl rfl ?_
                refine eb_aload_n (pc := 107) (n := 0) (i := 0) rfl rfl rfl ?_
                obtain ⟨r72, q73, k74, w⟩ := w
                refine eb_getR (pc := 108) rfl rfl (by decide) (by decide) rfl q73 ?_
                refine eb_iload_n (pc := 111) (n := 3) (i := 3) rfl rfl rfl ?_
                refine eb_iload (pc := 112) (i := 4) rfl rfl ?_
                refine eb_iload (pc := 114) (i := 6) rfl rfl ?_
                refine eb_aload_n (pc := 116) (n := 0) (i := 0) rfl rfl rfl ?_
                refine eb_getR (pc := 117) rfl rfl (by decide) (by decide) rfl (ko_s_flights_1 ko11) ?_
                refine eb_getI (pc := 120) rfl rfl (by decide) (by decide) rfl ?_
                refine eb_iload (pc := 123) (i := 7) rfl rfl ?_
                refine eb_ctV (pc := 125) (As := [.int (x1 &&& 15), .int y5, .int y10, .int (eb_I h9 s_flights_state 4), .int (eb_I h9 s_flights_state_things y5.toNatClampNeg)]) (rest := [.int ((((y10 * 4) + x2) * 16) + (x1 &&& 15)), .ref s_flights_verdicts]) rfl (by decide) rfl k74 (by decide) rfl (Nat.le_of_ble_eq_true rfl) ?_
                refine eb_Ct.mono w ?_
                rintro r h75 ⟨y76, rfl, ko77, w⟩
                change eb_Sn _ _ _ 128 _ [.int y76, .int ((((y10 * 4) + x2) * 16) + (x1 &&& 15)), .ref s_flights_verdicts] _ _
                refine eb_i2b (pc := 128) rfl ?_
                obtain ⟨c78, w⟩ := w
                refine eb_bastore (pc := 129) rfl rfl c78 ?_
                refine eb_aload_n (pc := 130) (n := 0) (i := 0) rfl rfl rfl ?_
                refine eb_getR (pc := 131) rfl rfl (by decide) (by decide) rfl (ko_s_flights_6 ko77) ?_
                refine eb_iload (pc := 134) (i := 8) rfl rfl ?_
                obtain ⟨c79, w⟩ := w
                refine eb_baload (pc := 136) rfl rfl c79 ?_
                refine eb_iconst (pc := 137) (n := 1) (v := 1) rfl rfl ?_
                refine eb_icmp_ne (pc := 138) (tgt := 143) rfl (by decide) (fun c80 => ?_) (fun c80 => ?_)
                · replace w := w.1 c80
                  refine eb_iload (pc := 143) (i := 4) rfl rfl ?_
                  refine eb_aload_n (pc := 145) (n := 0) (i := 0) rfl rfl rfl ?_
                  refine eb_getR (pc := 146) rfl rfl (by decide) (by decide) rfl (ko_s_flights_6 ko77) ?_
                  refine eb_iload (pc := 149) (i := 8) rfl rfl ?_
                  obtain ⟨c81, w⟩ := w
                  refine eb_baload (pc := 151) rfl rfl c81 ?_
                  refine eb_iconst (pc := 152) (n := 3) (v := 3) rfl rfl ?_
                  refine eb_joinI (pc2 := 169) (ls2 := [(8, .int ((((y10 * 4) + x2) * 16) + (x1 &&& 15))), (7, .int (eb_I h9 s_flights_state_things y5.toNatClampNeg)), (6, .int y10), (5, .int (x1 >>> ((4 : Int32) &&& 31))), (4, .int y5), (3, .int (x1 &&& 15)), (0, .ref s_flights), (1, .int x1), (2, .int x2)]) (st2 := [.int y5]) (v := (if (eb_I (eb_sI h75 s_flights_verdicts ((((y10 * 4) + x2) * 16) + (x1 &&& 15)).toNatClampNeg y76.toInt8.toInt32.toInt8.toInt32) s_flights_verdicts ((((y10 * 4) + x2) * 16) + (x1 &&& 15)).toNatClampNeg) = (3 : Int32) then (if (1 : Int32) ≤ (eb_I h9 s_flights_state_things y5.toNatClampNeg) then (x1 >>> ((4 : Int32) &&& 31)) ||| ((1 : Int32) <<< (((eb_I h9 s_flights_state_things y5.toNatClampNeg) - 1) &&& 31)) else (x1 >>> ((4 : Int32) &&& 31)) ||| 0) else x1 >>> ((4 : Int32) &&& 31) : Int32)) ?_ (fun jj84 => ?_)
                  · refine eb_ctS (pc := 169) (As := [.int y5, .int (if (eb_I (eb_sI h75 s_flights_verdicts ((((y10 * 4) + x2) * 16) + (x1 &&& 15)).toNatClampNeg y76.toInt8.toInt32.toInt8.toInt32) s_flights_verdicts ((((y10 * 4) + x2) * 16) + (x1 &&& 15)).toNatClampNeg) = (3 : Int32) then (if (1 : Int32) ≤ (eb_I h9 s_flights_state_things y5.toNatClampNeg) then (x1 >>> ((4 : Int32) &&& 31)) ||| ((1 : Int32) <<< (((eb_I h9 s_flights_state_things y5.toNatClampNeg) - 1) &&& 31)) else (x1 >>> ((4 : Int32) &&& 31)) ||| 0) else x1 >>> ((4 : Int32) &&& 31) : Int32)]) (rest := []) rfl (by decide) (by decide) rfl rfl (Nat.le_of_ble_eq_true rfl) ?_
                    refine eb_bodyQ (by decide) ok_X1_codeOf (Nat.le_of_ble_eq_true rfl) ?_
                    change eb_Sn _ m_X1_codeOf _ 0 [(0, .int y5), (1, .int (if (eb_I (eb_sI h75 s_flights_verdicts ((((y10 * 4) + x2) * 16) + (x1 &&& 15)).toNatClampNeg y76.toInt8.toInt32.toInt8.toInt32) s_flights_verdicts ((((y10 * 4) + x2) * 16) + (x1 &&& 15)).toNatClampNeg) = (3 : Int32) then (if (1 : Int32) ≤ (eb_I h9 s_flights_state_things y5.toNatClampNeg) then (x1 >>> ((4 : Int32) &&& 31)) ||| ((1 : Int32) <<< (((eb_I h9 s_flights_state_things y5.toNatClampNeg) - 1) &&& 31)) else (x1 >>> ((4 : Int32) &&& 31)) ||| 0) else x1 >>> ((4 : Int32) &&& 31) : Int32))] [] _ _
                    refine eb_bipush (pc := 0) (n := 16) (v := 16) rfl rfl ?_
                    refine eb_iload_n (pc := 2) (n := 1) (i := 1) rfl rfl rfl ?_
                    refine eb_imul (pc := 3) rfl ?_
                    refine eb_iload_n (pc := 4) (n := 0) (i := 0) rfl rfl rfl ?_
                    refine eb_iadd (pc := 5) rfl ?_
                    refine eb_ireturn (pc := 6) rfl rfl rfl ?_
                    change eb_Sn _ _ _ 172 _ [.int (((16 : Int32) * (if (eb_I (eb_sI h75 s_flights_verdicts ((((y10 * 4) + x2) * 16) + (x1 &&& 15)).toNatClampNeg y76.toInt8.toInt32.toInt8.toInt32) s_flights_verdicts ((((y10 * 4) + x2) * 16) + (x1 &&& 15)).toNatClampNeg) = (3 : Int32) then (if (1 : Int32) ≤ (eb_I h9 s_flights_state_things y5.toNatClampNeg) then (x1 >>> ((4 : Int32) &&& 31)) ||| ((1 : Int32) <<< (((eb_I h9 s_flights_state_things y5.toNatClampNeg) - 1) &&& 31)) else (x1 >>> ((4 : Int32) &&& 31)) ||| 0) else x1 >>> ((4 : Int32) &&& 31) : Int32)) + y5)] _ _
                    exact eb_ireturn (pc := 172) rfl rfl rfl w
                  refine eb_icmp_ne (pc := 153) (tgt := 167) rfl (by decide) (fun c82 => ?_) (fun c82 => ?_)
                  · refine eb_iload (pc := 167) (i := 5) rfl rfl ?_
                    exact jj84 _ (by simp only [if_neg c82])
                  · refine eb_iload (pc := 156) (i := 5) rfl rfl ?_
                    refine eb_iload (pc := 158) (i := 7) rfl rfl ?_
                    refine eb_ctS (pc := 160) (As := [.int (eb_I h9 s_flights_state_things y5.toNatClampNeg)]) (rest := [.int (x1 >>> ((4 : Int32) &&& 31)), .int y5]) rfl (by decide) (by decide) rfl rfl (Nat.le_of_ble_eq_true rfl) ?_
                    refine eb_bodyQ (by decide) ok_X10_bitOf (Nat.le_of_ble_eq_true rfl) ?_
                    change eb_Sn _ m_X10_bitOf _ 0 [(0, .int (eb_I h9 s_flights_state_things y5.toNatClampNeg))] [] _ _
                    refine eb_iload_n (pc := 0) (n := 0) (i := 0) rfl rfl rfl ?_
                    refine eb_iconst (pc := 1) (n := 1) (v := 1) rfl rfl ?_
                    refine eb_icmp_ge (pc := 2) (tgt := 9) rfl (by decide) (fun c83 => ?_) (fun c83 => ?_)
                    · refine eb_iconst (pc := 9) (n := 1) (v := 1) rfl rfl ?_
                      refine eb_iload_n (pc := 10) (n := 0) (i := 0) rfl rfl rfl ?_
                      refine eb_iconst (pc := 11) (n := 1) (v := 1) rfl rfl ?_
                      refine eb_isub (pc := 12) rfl ?_
                      refine eb_ishl (pc := 13) rfl ?_
                      refine eb_ireturn (pc := 14) rfl rfl rfl ?_
                      change eb_Sn _ _ _ 163 _ [.int ((1 : Int32) <<< (((eb_I h9 s_flights_state_things y5.toNatClampNeg) - 1) &&& 31)), .int (x1 >>> ((4 : Int32) &&& 31)), .int y5] _ _
                      refine eb_ior (pc := 163) rfl ?_
                      refine eb_goto (pc := 164) (tgt := 169) rfl (by decide) ?_
                      exact jj84 _ (by simp only [if_pos c82, if_pos c83])
                    · refine eb_iconst (pc := 5) (n := 0) (v := 0) rfl rfl ?_
                      refine eb_goto (pc := 6) (tgt := 14) rfl (by decide) ?_
                      refine eb_ireturn (pc := 14) rfl rfl rfl ?_
                      change eb_Sn _ _ _ 163 _ [.int 0, .int (x1 >>> ((4 : Int32) &&& 31)), .int y5] _ _
                      refine eb_ior (pc := 163) rfl ?_
                      refine eb_goto (pc := 164) (tgt := 169) rfl (by decide) ?_
                      exact jj84 _ (by simp only [if_pos c82, if_neg c83])
                · replace w := w.2 c80
                  refine eb_iconst (pc := 141) (n := -1) (v := (-1)) rfl rfl ?_
                  exact eb_ireturn (pc := 142) rfl rfl rfl w
            · replace w := w.2 c62
              refine eb_iconst (pc := 89) (n := -1) (v := (-1)) rfl rfl ?_
              exact eb_ireturn (pc := 90) rfl rfl rfl w
    · replace w := w.2 c8
      refine eb_iconst (pc := 35) (n := -1) (v := (-1)) rfl rfl ?_
      exact eb_ireturn (pc := 36) rfl rfl rfl w
theorem T_X1_codeAfter {d : Nat} {h : eb_H} {Q : Option Value → eb_H → Prop} (x1 : Int32) (x2 : Int32)  (ko : eb_KO h) (w : ∃ r1, eb_R h s_flights 0 = some r1 ∧ eb_kd r1 = 9 ∧ eb_Ct d 87 [.ref r1, .int (x1 &&& 15), .int x2] h (fun r h4 => ∃ y5, r = some (.int y5) ∧ eb_KO h4 ∧ ((y5 = ((-1) : Int32) → Q (some (.int (-1))) h4) ∧ (¬ (y5 = ((-1) : Int32)) → ((¬ (((eb_I h4 s_flights 2) >>> (y5 &&& 31)) &&& 1) = (1 : Int32) → eb_Ct d 283 [.int (x1 >>> ((4 : Int32) &&& 31))] h4 (fun r h9 => ∃ y10, r = some (.int y10) ∧ eb_KO h9 ∧ ((y5 < 0 → ((((((y10 * 4) + x2) * 16) + (x1 &&& 15)) < 0 → Q (some (.int (-1))) h9) ∧ (¬ (((((y10 * 4) + x2) * 16) + (x1 &&& 15)) < 0) → ((((((y10 * 4) + x2) * 16) + (x1 &&& 15)) < (448 : Int32) → (vp_in ((((y10 * 4) + x2) * 16) + (x1 &&& 15)) 448) ∧ ((¬ (eb_I h9 s_flights_verdicts ((((y10 * 4) + x2) * 16) + (x1 &&& 15)).toNatClampNeg) = 0 → (vp_in ((((y10 * 4) + x2) * 16) + (x1 &&& 15)) 448) ∧ ((¬ (eb_I h9 s_flights_verdicts ((((y10 * 4) + x2) * 16) + (x1 &&& 15)).toNatClampNeg) = (1 : Int32) → (vp_in ((((y10 * 4) + x2) * 16) + (x1 &&& 15)) 448) ∧ Q (some (.int (((16 : Int32) * (if (eb_I h9 s_flights_verdicts ((((y10 * 4) + x2) * 16) + (x1 &&& 15)).toNatClampNeg) = (3 : Int32) then (x1 >>> ((4 : Int32) &&& 31)) ||| 0 else x1 >>> ((4 : Int32) &&& 31) : Int32)) + y5))) h9) ∧ ((eb_I h9 s_flights_verdicts ((((y10 * 4) + x2) * 16) + (x1 &&& 15)).toNatClampNeg) = (1 : Int32) → Q (some (.int (-1))) h9))) ∧ ((eb_I h9 s_flights_verdicts ((((y10 * 4) + x2) * 16) + (x1 &&& 15)).toNatClampNeg) = 0 → ∃ r25, eb_R h9 s_flights 0 = some r25 ∧ eb_kd r25 = 9 ∧ eb_Ct d 88 [.ref r25, .int (x1 &&& 15), .int y5, .int y10, .int (eb_I h9 s_flights_state 4), .int 0] h9 (fun r h28 => ∃ y29, r = some (.int y29) ∧ eb_KO h28 ∧ (vp_in ((((y10 * 4) + x2) * 16) + (x1 &&& 15)) 448) ∧ (vp_in ((((y10 * 4) + x2) * 16) + (x1 &&& 15)) 448) ∧ ((¬ (eb_I (eb_sI h28 s_flights_verdicts ((((y10 * 4) + x2) * 16) + (x1 &&& 15)).toNatClampNeg y29.toInt8.toInt32.toInt8.toInt32) s_flights_verdicts ((((y10 * 4) + x2) * 16) + (x1 &&& 15)).toNatClampNeg) = (1 : Int32) → (vp_in ((((y10 * 4) + x2) * 16) + (x1 &&& 15)) 448) ∧ Q (some (.int (((16 : Int32) * (if (eb_I (eb_sI h28 s_flights_verdicts ((((y10 * 4) + x2) * 16) + (x1 &&& 15)).toNatClampNeg y29.toInt8.toInt32.toInt8.toInt32) s_flights_verdicts ((((y10 * 4) + x2) * 16) + (x1 &&& 15)).toNatClampNeg) = (3 : Int32) then (x1 >>> ((4 : Int32) &&& 31)) ||| 0 else x1 >>> ((4 : Int32) &&& 31) : Int32)) + y5))) (eb_sI h28 s_flights_verdicts ((((y10 * 4) + x2) * 16) + (x1 &&& 15)).toNatClampNeg y29.toInt8.toInt32.toInt8.toInt32)) ∧ ((eb_I (eb_sI h28 s_flights_verdicts ((((y10 * 4) + x2) * 16) + (x1 &&& 15)).toNatClampNeg y29.toInt8.toInt32.toInt8.toInt32) s_flights_verdicts ((((y10 * 4) + x2) * 16) + (x1 &&& 15)).toNatClampNeg) = (1 : Int32) → Q (some (.int (-1))) (eb_sI h28 s_flights_verdicts ((((y10 * 4) + x2) * 16) + (x1 &&& 15)).toNatClampNeg y29.toInt8.toInt32.toInt8.toInt32))))))) ∧ (¬ (((((y10 * 4) + x2) * 16) + (x1 &&& 15)) < (448 : Int32)) → Q (some (.int (-1))) h9))))) ∧ (¬ (y5 < 0) → (((16 : Int32) ≤ y5 → ((((((y10 * 4) + x2) * 16) + (x1 &&& 15)) < 0 → Q (some (.int (-1))) h9) ∧ (¬ (((((y10 * 4) + x2) * 16) + (x1 &&& 15)) < 0) → ((((((y10 * 4) + x2) * 16) + (x1 &&& 15)) < (448 : Int32) → (vp_in ((((y10 * 4) + x2) * 16) + (x1 &&& 15)) 448) ∧ ((¬ (eb_I h9 s_flights_verdicts ((((y10 * 4) + x2) * 16) + (x1 &&& 15)).toNatClampNeg) = 0 → (vp_in ((((y10 * 4) + x2) * 16) + (x1 &&& 15)) 448) ∧ ((¬ (eb_I h9 s_flights_verdicts ((((y10 * 4) + x2) * 16) + (x1 &&& 15)).toNatClampNeg) = (1 : Int32) → (vp_in ((((y10 * 4) + x2) * 16) + (x1 &&& 15)) 448) ∧ Q (some (.int (((16 : Int32) * (if (eb_I h9 s_flights_verdicts ((((y10 * 4) + x2) * 16) + (x1 &&& 15)).toNatClampNeg) = (3 : Int32) then (x1 >>> ((4 : Int32) &&& 31)) ||| 0 else x1 >>> ((4 : Int32) &&& 31) : Int32)) + y5))) h9) ∧ ((eb_I h9 s_flights_verdicts ((((y10 * 4) + x2) * 16) + (x1 &&& 15)).toNatClampNeg) = (1 : Int32) → Q (some (.int (-1))) h9))) ∧ ((eb_I h9 s_flights_verdicts ((((y10 * 4) + x2) * 16) + (x1 &&& 15)).toNatClampNeg) = 0 → ∃ r48, eb_R h9 s_flights 0 = some r48 ∧ eb_kd r48 = 9 ∧ eb_Ct d 88 [.ref r48, .int (x1 &&& 15), .int y5, .int y10, .int (eb_I h9 s_flights_state 4), .int 0] h9 (fun r h51 => ∃ y52, r = some (.int y52) ∧ eb_KO h51 ∧ (vp_in ((((y10 * 4) + x2) * 16) + (x1 &&& 15)) 448) ∧ (vp_in ((((y10 * 4) + x2) * 16) + (x1 &&& 15)) 448) ∧ ((¬ (eb_I (eb_sI h51 s_flights_verdicts ((((y10 * 4) + x2) * 16) + (x1 &&& 15)).toNatClampNeg y52.toInt8.toInt32.toInt8.toInt32) s_flights_verdicts ((((y10 * 4) + x2) * 16) + (x1 &&& 15)).toNatClampNeg) = (1 : Int32) → (vp_in ((((y10 * 4) + x2) * 16) + (x1 &&& 15)) 448) ∧ Q (some (.int (((16 : Int32) * (if (eb_I (eb_sI h51 s_flights_verdicts ((((y10 * 4) + x2) * 16) + (x1 &&& 15)).toNatClampNeg y52.toInt8.toInt32.toInt8.toInt32) s_flights_verdicts ((((y10 * 4) + x2) * 16) + (x1 &&& 15)).toNatClampNeg) = (3 : Int32) then (x1 >>> ((4 : Int32) &&& 31)) ||| 0 else x1 >>> ((4 : Int32) &&& 31) : Int32)) + y5))) (eb_sI h51 s_flights_verdicts ((((y10 * 4) + x2) * 16) + (x1 &&& 15)).toNatClampNeg y52.toInt8.toInt32.toInt8.toInt32)) ∧ ((eb_I (eb_sI h51 s_flights_verdicts ((((y10 * 4) + x2) * 16) + (x1 &&& 15)).toNatClampNeg y52.toInt8.toInt32.toInt8.toInt32) s_flights_verdicts ((((y10 * 4) + x2) * 16) + (x1 &&& 15)).toNatClampNeg) = (1 : Int32) → Q (some (.int (-1))) (eb_sI h51 s_flights_verdicts ((((y10 * 4) + x2) * 16) + (x1 &&& 15)).toNatClampNeg y52.toInt8.toInt32.toInt8.toInt32))))))) ∧ (¬ (((((y10 * 4) + x2) * 16) + (x1 &&& 15)) < (448 : Int32)) → Q (some (.int (-1))) h9))))) ∧ (¬ ((16 : Int32) ≤ y5) → (vp_in y5 16) ∧ ((((((y10 * 4) + x2) * 16) + (x1 &&& 15)) < 0 → Q (some (.int (-1))) h9) ∧ (¬ (((((y10 * 4) + x2) * 16) + (x1 &&& 15)) < 0) → ((((((y10 * 4) + x2) * 16) + (x1 &&& 15)) < (448 : Int32) → (vp_in ((((y10 * 4) + x2) * 16) + (x1 &&& 15)) 448) ∧ ((¬ (eb_I h9 s_flights_verdicts ((((y10 * 4) + x2) * 16) + (x1 &&& 15)).toNatClampNeg) = 0 → (vp_in ((((y10 * 4) + x2) * 16) + (x1 &&& 15)) 448) ∧ ((¬ (eb_I h9 s_flights_verdicts ((((y10 * 4) + x2) * 16) + (x1 &&& 15)).toNatClampNeg) = (1 : Int32) → (vp_in ((((y10 * 4) + x2) * 16) + (x1 &&& 15)) 448) ∧ Q (some (.int (((16 : Int32) * (if (eb_I h9 s_flights_verdicts ((((y10 * 4) + x2) * 16) + (x1 &&& 15)).toNatClampNeg) = (3 : Int32) then (if (1 : Int32) ≤ (eb_I h9 s_flights_state_things y5.toNatClampNeg) then (x1 >>> ((4 : Int32) &&& 31)) ||| ((1 : Int32) <<< (((eb_I h9 s_flights_state_things y5.toNatClampNeg) - 1) &&& 31)) else (x1 >>> ((4 : Int32) &&& 31)) ||| 0) else x1 >>> ((4 : Int32) &&& 31) : Int32)) + y5))) h9) ∧ ((eb_I h9 s_flights_verdicts ((((y10 * 4) + x2) * 16) + (x1 &&& 15)).toNatClampNeg) = (1 : Int32) → Q (some (.int (-1))) h9))) ∧ ((eb_I h9 s_flights_verdicts ((((y10 * 4) + x2) * 16) + (x1 &&& 15)).toNatClampNeg) = 0 → ∃ r72, eb_R h9 s_flights 0 = some r72 ∧ eb_kd r72 = 9 ∧ eb_Ct d 88 [.ref r72, .int (x1 &&& 15), .int y5, .int y10, .int (eb_I h9 s_flights_state 4), .int (eb_I h9 s_flights_state_things y5.toNatClampNeg)] h9 (fun r h75 => ∃ y76, r = some (.int y76) ∧ eb_KO h75 ∧ (vp_in ((((y10 * 4) + x2) * 16) + (x1 &&& 15)) 448) ∧ (vp_in ((((y10 * 4) + x2) * 16) + (x1 &&& 15)) 448) ∧ ((¬ (eb_I (eb_sI h75 s_flights_verdicts ((((y10 * 4) + x2) * 16) + (x1 &&& 15)).toNatClampNeg y76.toInt8.toInt32.toInt8.toInt32) s_flights_verdicts ((((y10 * 4) + x2) * 16) + (x1 &&& 15)).toNatClampNeg) = (1 : Int32) → (vp_in ((((y10 * 4) + x2) * 16) + (x1 &&& 15)) 448) ∧ Q (some (.int (((16 : Int32) * (if (eb_I (eb_sI h75 s_flights_verdicts ((((y10 * 4) + x2) * 16) + (x1 &&& 15)).toNatClampNeg y76.toInt8.toInt32.toInt8.toInt32) s_flights_verdicts ((((y10 * 4) + x2) * 16) + (x1 &&& 15)).toNatClampNeg) = (3 : Int32) then (if (1 : Int32) ≤ (eb_I h9 s_flights_state_things y5.toNatClampNeg) then (x1 >>> ((4 : Int32) &&& 31)) ||| ((1 : Int32) <<< (((eb_I h9 s_flights_state_things y5.toNatClampNeg) - 1) &&& 31)) else (x1 >>> ((4 : Int32) &&& 31)) ||| 0) else x1 >>> ((4 : Int32) &&& 31) : Int32)) + y5))) (eb_sI h75 s_flights_verdicts ((((y10 * 4) + x2) * 16) + (x1 &&& 15)).toNatClampNeg y76.toInt8.toInt32.toInt8.toInt32)) ∧ ((eb_I (eb_sI h75 s_flights_verdicts ((((y10 * 4) + x2) * 16) + (x1 &&& 15)).toNatClampNeg y76.toInt8.toInt32.toInt8.toInt32) s_flights_verdicts ((((y10 * 4) + x2) * 16) + (x1 &&& 15)).toNatClampNeg) = (1 : Int32) → Q (some (.int (-1))) (eb_sI h75 s_flights_verdicts ((((y10 * 4) + x2) * 16) + (x1 &&& 15)).toNatClampNeg y76.toInt8.toInt32.toInt8.toInt32))))))) ∧ (¬ (((((y10 * 4) + x2) * 16) + (x1 &&& 15)) < (448 : Int32)) → Q (some (.int (-1))) h9)))))))))) ∧ ((((eb_I h4 s_flights 2) >>> (y5 &&& 31)) &&& 1) = (1 : Int32) → Q (some (.int (-1))) h4)))))) : eb_Ct (d + 1) 9 [.ref s_flights, .int x1, .int x2] h Q :=
  eb_bodyQ (by decide) ok_X1_codeAfter (Nat.le_of_ble_eq_true rfl) (b_X1_codeAfter_0 (h0 := h) x1 x2  ko w)
theorem b_X1_startCode_0 {d : Nat} {h0 h : eb_H} {Q : Option Value → eb_H → Prop}   (ko : eb_KO h) (w : Q (some (.int (if (¬ ((((16 : Int32) * (eb_I h s_flights_state 1)) + (eb_I h s_flights_state 0)) < 0)) ∧ (¬ ((1024 : Int32) ≤ (((16 : Int32) * (eb_I h s_flights_state 1)) + (eb_I h s_flights_state 0)))) then ((16 : Int32) * (eb_I h s_flights_state 1)) + (eb_I h s_flights_state 0) else 0 : Int32))) h) : eb_Sn (d + 1) m_X1_startCode h0 0 [(0, .ref s_flights)] [] h Q := by
  refine eb_aload_n (pc := 0) (n := 0) (i := 0) rfl rfl rfl ?_
  refine eb_getR (pc := 1) rfl rfl (by decide) (by decide) rfl (ko_s_flights_1 ko) ?_
  refine eb_getI (pc := 4) rfl rfl (by decide) (by decide) rfl ?_
  refine eb_aload_n (pc := 7) (n := 0) (i := 0) rfl rfl rfl ?_
  refine eb_getR (pc := 8) rfl rfl (by decide) (by decide) rfl (ko_s_flights_1 ko) ?_
  refine eb_getI (pc := 11) rfl rfl (by decide) (by decide) rfl ?_
  refine eb_ctS (pc := 14) (As := [.int (eb_I h s_flights_state 0), .int (eb_I h s_flights_state 1)]) (rest := []) rfl (by decide) (by decide) rfl rfl (Nat.le_of_ble_eq_true rfl) ?_
  refine eb_bodyQ (by decide) ok_X1_codeOf (Nat.le_of_ble_eq_true rfl) ?_
  change eb_Sn _ m_X1_codeOf _ 0 [(0, .int (eb_I h s_flights_state 0)), (1, .int (eb_I h s_flights_state 1))] [] _ _
  refine eb_bipush (pc := 0) (n := 16) (v := 16) rfl rfl ?_
  refine eb_iload_n (pc := 2) (n := 1) (i := 1) rfl rfl rfl ?_
  refine eb_imul (pc := 3) rfl ?_
  refine eb_iload_n (pc := 4) (n := 0) (i := 0) rfl rfl rfl ?_
  refine eb_iadd (pc := 5) rfl ?_
  refine eb_ireturn (pc := 6) rfl rfl rfl ?_
  change eb_Sn _ _ _ 17 _ [.int (((16 : Int32) * (eb_I h s_flights_state 1)) + (eb_I h s_flights_state 0))] _ _
  refine eb_istore_n (pc := 17) (n := 1) (i := 1) (ls2 := [(1, .int (((16 : Int32) * (eb_I h s_flights_state 1)) + (eb_I h s_flights_state 0))), (0, .ref s_flights)]) rfl (Nat.le_of_ble_eq_true rfl) rfl rfl ?_
  refine eb_iload_n (pc := 18) (n := 1) (i := 1) rfl rfl rfl ?_
  refine eb_joinI (pc2 := 22) (ls2 := [(1, .int (((16 : Int32) * (eb_I h s_flights_state 1)) + (eb_I h s_flights_state 0))), (0, .ref s_flights)]) (st2 := []) (v := eb_q ((¬ ((((16 : Int32) * (eb_I h s_flights_state 1)) + (eb_I h s_flights_state 0)) < 0)) ∧ (¬ ((1024 : Int32) ≤ (((16 : Int32) * (eb_I h s_flights_state 1)) + (eb_I h s_flights_state 0)))))) ?_ (fun jj6 => ?_)
  · refine eb_joinI (pc2 := 30) (ls2 := [(1, .int (((16 : Int32) * (eb_I h s_flights_state 1)) + (eb_I h s_flights_state 0))), (0, .ref s_flights)]) (st2 := []) (v := (if (¬ ((((16 : Int32) * (eb_I h s_flights_state 1)) + (eb_I h s_flights_state 0)) < 0)) ∧ (¬ ((1024 : Int32) ≤ (((16 : Int32) * (eb_I h s_flights_state 1)) + (eb_I h s_flights_state 0)))) then ((16 : Int32) * (eb_I h s_flights_state 1)) + (eb_I h s_flights_state 0) else 0 : Int32)) ?_ (fun jj4 => ?_)
    · exact eb_ireturn (pc := 30) rfl rfl rfl w
    refine eb_if_eq (pc := 22) (tgt := 29) rfl (by decide) (fun c3 => ?_) (fun c3 => ?_)
    · replace c3 := eb_q0.mp c3
      refine eb_iconst (pc := 29) (n := 0) (v := 0) rfl rfl ?_
      exact jj4 _ (by simp only [if_neg c3])
    · replace c3 := eb_q1.mp c3
      refine eb_iload_n (pc := 25) (n := 1) (i := 1) rfl rfl rfl ?_
      refine eb_goto (pc := 26) (tgt := 30) rfl (by decide) ?_
      exact jj4 _ (by simp only [if_pos c3])
  refine eb_ctS (pc := 19) (As := [.int (((16 : Int32) * (eb_I h s_flights_state 1)) + (eb_I h s_flights_state 0))]) (rest := []) rfl (by decide) (by decide) rfl rfl (Nat.le_of_ble_eq_true rfl) ?_
  refine eb_bodyQ (by decide) ok_X1_isCode (Nat.le_of_ble_eq_true rfl) ?_
  change eb_Sn _ m_X1_isCode _ 0 [(0, .int (((16 : Int32) * (eb_I h s_flights_state 1)) + (eb_I h s_flights_state 0)))] [] _ _
  refine eb_iload_n (pc := 0) (n := 0) (i := 0) rfl rfl rfl ?_
  refine eb_if_lt (pc := 1) (tgt := 15) rfl (by decide) (fun c1 => ?_) (fun c1 => ?_)
  · refine eb_iconst (pc := 15) (n := 0) (v := 0) rfl rfl ?_
    refine eb_ireturn (pc := 16) rfl rfl (by decide) ?_
    change eb_Sn _ _ _ 22 _ _ _ _
    exact jj6 0 (eb_qf (fun z => z.1 c1)).symm
  · refine eb_iload_n (pc := 4) (n := 0) (i := 0) rfl rfl rfl ?_
    refine eb_sipush (pc := 5) (n := 1024) (v := 1024) rfl rfl ?_
    refine eb_icmp_ge (pc := 8) (tgt := 15) rfl (by decide) (fun c2 => ?_) (fun c2 => ?_)
    · refine eb_iconst (pc := 15) (n := 0) (v := 0) rfl rfl ?_
      refine eb_ireturn (pc := 16) rfl rfl (by decide) ?_
      change eb_Sn _ _ _ 22 _ _ _ _
      exact jj6 0 (eb_qf (fun z => (fun z => z c2) z.2)).symm
    · refine eb_iconst (pc := 11) (n := 1) (v := 1) rfl rfl ?_
      refine eb_goto (pc := 12) (tgt := 16) rfl (by decide) ?_
      refine eb_ireturn (pc := 16) rfl rfl (by decide) ?_
      change eb_Sn _ _ _ 22 _ _ _ _
      exact jj6 1 (eb_qt (⟨c1, c2⟩)).symm
theorem T_X1_startCode {d : Nat} {h : eb_H} {Q : Option Value → eb_H → Prop}   (ko : eb_KO h) (w : Q (some (.int (if (¬ ((((16 : Int32) * (eb_I h s_flights_state 1)) + (eb_I h s_flights_state 0)) < 0)) ∧ (¬ ((1024 : Int32) ≤ (((16 : Int32) * (eb_I h s_flights_state 1)) + (eb_I h s_flights_state 0)))) then ((16 : Int32) * (eb_I h s_flights_state 1)) + (eb_I h s_flights_state 0) else 0 : Int32))) h) : eb_Ct (d + 1) 10 [.ref s_flights] h Q :=
  eb_bodyQ (by decide) ok_X1_startCode (Nat.le_of_ble_eq_true rfl) (b_X1_startCode_0 (h0 := h)   ko w)
theorem b_X1_spread_0 {d : Nat} {h0 h : eb_H} {Q : Option Value → eb_H → Prop}   (ko : eb_KO h) (w : eb_Ct (d + 1) 301 [.ref s_flights_origins, .int (-1)] h (fun r h1 => r = none ∧ eb_KO h1 ∧ (vp_in (if (¬ ((((16 : Int32) * (eb_I h1 s_flights_state 1)) + (eb_I h1 s_flights_state 0)) < 0)) ∧ (¬ ((1024 : Int32) ≤ (((16 : Int32) * (eb_I h1 s_flights_state 1)) + (eb_I h1 s_flights_state 0)))) then ((16 : Int32) * (eb_I h1 s_flights_state 1)) + (eb_I h1 s_flights_state 0) else 0 : Int32) 1024) ∧ eb_Sn (d + 2) m_X1_spread h0 36 [(0, .ref s_flights), (2, .int 0)] [] (eb_sI (eb_sI (eb_sI h1 s_flights_origins (if (¬ ((((16 : Int32) * (eb_I h1 s_flights_state 1)) + (eb_I h1 s_flights_state 0)) < 0)) ∧ (¬ ((1024 : Int32) ≤ (((16 : Int32) * (eb_I h1 s_flights_state 1)) + (eb_I h1 s_flights_state 0)))) then ((16 : Int32) * (eb_I h1 s_flights_state 1)) + (eb_I h1 s_flights_state 0) else 0 : Int32).toNatClampNeg ((4 : Int32) * (if (¬ ((((16 : Int32) * (eb_I h1 s_flights_state 1)) + (eb_I h1 s_flights_state 0)) < 0)) ∧ (¬ ((1024 : Int32) ≤ (((16 : Int32) * (eb_I h1 s_flights_state 1)) + (eb_I h1 s_flights_state 0)))) then ((16 : Int32) * (eb_I h1 s_flights_state 1)) + (eb_I h1 s_flights_state 0) else 0 : Int32))) s_flights_order (0 : Int32).toNatClampNeg (if (¬ ((((16 : Int32) * (eb_I h1 s_flights_state 1)) + (eb_I h1 s_flights_state 0)) < 0)) ∧ (¬ ((1024 : Int32) ≤ (((16 : Int32) * (eb_I h1 s_flights_state 1)) + (eb_I h1 s_flights_state 0)))) then ((16 : Int32) * (eb_I h1 s_flights_state 1)) + (eb_I h1 s_flights_state 0) else 0 : Int32)) s_flights 4 1) Q)) : eb_Sn (d + 2) m_X1_spread h0 0 [(0, .ref s_flights)] [] h Q := by
  refine eb_aload_n (pc := 0) (n := 0) (i := 0) rfl rfl rfl ?_
  refine eb_getR (pc := 1) rfl rfl (by decide) (by decide) rfl (ko_s_flights_8 ko) ?_
  refine eb_iconst (pc := 4) (n := -1) (v := (-1)) rfl rfl ?_
  refine eb_ctS (pc := 5) (As := [.ref s_flights_origins, .int (-1)]) (rest := []) rfl (by decide) (by decide) rfl rfl (Nat.le_of_ble_eq_true rfl) ?_
  refine eb_Ct.mono w ?_
  rintro r h1 ⟨rfl, ko3, w⟩
  change eb_Sn _ _ _ 8 _ [] _ _
  refine eb_aload_n (pc := 8) (n := 0) (i := 0) rfl rfl rfl ?_
  refine eb_ctV (pc := 9) (As := []) (rest := []) rfl (by decide) rfl rfl (by decide) rfl (Nat.le_of_ble_eq_true rfl) ?_
  refine eb_bodyQ (by decide) ok_X1_startCode (Nat.le_of_ble_eq_true rfl) ?_
  change eb_Sn _ m_X1_startCode _ 0 [(0, .ref s_flights)] [] _ _
  refine eb_aload_n (pc := 0) (n := 0) (i := 0) rfl rfl rfl ?_
  refine eb_getR (pc := 1) rfl rfl (by decide) (by decide) rfl (ko_s_flights_1 ko3) ?_
  refine eb_getI (pc := 4) rfl rfl (by decide) (by decide) rfl ?_
  refine eb_aload_n (pc := 7) (n := 0) (i := 0) rfl rfl rfl ?_
  refine eb_getR (pc := 8) rfl rfl (by decide) (by decide) rfl (ko_s_flights_1 ko3) ?_
  refine eb_getI (pc := 11) rfl rfl (by decide) (by decide) rfl ?_
  refine eb_ctS (pc := 14) (As := [.int (eb_I h1 s_flights_state 0), .int (eb_I h1 s_flights_state 1)]) (rest := []) rfl (by decide) (by decide) rfl rfl (Nat.le_of_ble_eq_true rfl) ?_
  refine eb_bodyQ (by decide) ok_X1_codeOf (Nat.le_of_ble_eq_true rfl) ?_
  change eb_Sn _ m_X1_codeOf _ 0 [(0, .int (eb_I h1 s_flights_state 0)), (1, .int (eb_I h1 s_flights_state 1))] [] _ _
  refine eb_bipush (pc := 0) (n := 16) (v := 16) rfl rfl ?_
  refine eb_iload_n (pc := 2) (n := 1) (i := 1) rfl rfl rfl ?_
  refine eb_imul (pc := 3) rfl ?_
  refine eb_iload_n (pc := 4) (n := 0) (i := 0) rfl rfl rfl ?_
  refine eb_iadd (pc := 5) rfl ?_
  refine eb_ireturn (pc := 6) rfl rfl rfl ?_
  change eb_Sn _ _ _ 17 _ [.int (((16 : Int32) * (eb_I h1 s_flights_state 1)) + (eb_I h1 s_flights_state 0))] _ _
  refine eb_istore_n (pc := 17) (n := 1) (i := 1) (ls2 := [(1, .int (((16 : Int32) * (eb_I h1 s_flights_state 1)) + (eb_I h1 s_flights_state 0))), (0, .ref s_flights)]) rfl (Nat.le_of_ble_eq_true rfl) rfl rfl ?_
  refine eb_iload_n (pc := 18) (n := 1) (i := 1) rfl rfl rfl ?_
  refine eb_joinI (pc2 := 22) (ls2 := [(1, .int (((16 : Int32) * (eb_I h1 s_flights_state 1)) + (eb_I h1 s_flights_state 0))), (0, .ref s_flights)]) (st2 := []) (v := eb_q ((¬ ((((16 : Int32) * (eb_I h1 s_flights_state 1)) + (eb_I h1 s_flights_state 0)) < 0)) ∧ (¬ ((1024 : Int32) ≤ (((16 : Int32) * (eb_I h1 s_flights_state 1)) + (eb_I h1 s_flights_state 0)))))) ?_ (fun jj9 => ?_)
  · refine eb_joinI (pc2 := 30) (ls2 := [(1, .int (((16 : Int32) * (eb_I h1 s_flights_state 1)) + (eb_I h1 s_flights_state 0))), (0, .ref s_flights)]) (st2 := []) (v := (if (¬ ((((16 : Int32) * (eb_I h1 s_flights_state 1)) + (eb_I h1 s_flights_state 0)) < 0)) ∧ (¬ ((1024 : Int32) ≤ (((16 : Int32) * (eb_I h1 s_flights_state 1)) + (eb_I h1 s_flights_state 0)))) then ((16 : Int32) * (eb_I h1 s_flights_state 1)) + (eb_I h1 s_flights_state 0) else 0 : Int32)) ?_ (fun jj7 => ?_)
    · refine eb_ireturn (pc := 30) rfl rfl rfl ?_
      change eb_Sn _ _ _ 12 _ [.int (if (¬ ((((16 : Int32) * (eb_I h1 s_flights_state 1)) + (eb_I h1 s_flights_state 0)) < 0)) ∧ (¬ ((1024 : Int32) ≤ (((16 : Int32) * (eb_I h1 s_flights_state 1)) + (eb_I h1 s_flights_state 0)))) then ((16 : Int32) * (eb_I h1 s_flights_state 1)) + (eb_I h1 s_flights_state 0) else 0 : Int32)] _ _
      refine eb_istore_n (pc := 12) (n := 1) (i := 1) (ls2 := [(1, .int (if (¬ ((((16 : Int32) * (eb_I h1 s_flights_state 1)) + (eb_I h1 s_flights_state 0)) < 0)) ∧ (¬ ((1024 : Int32) ≤ (((16 : Int32) * (eb_I h1 s_flights_state 1)) + (eb_I h1 s_flights_state 0)))) then ((16 : Int32) * (eb_I h1 s_flights_state 1)) + (eb_I h1 s_flights_state 0) else 0 : Int32)), (0, .ref s_flights)]) rfl (Nat.le_of_ble_eq_true rfl) rfl rfl ?_
      refine eb_aload_n (pc := 13) (n := 0) (i := 0) rfl rfl rfl ?_
      refine eb_getR (pc := 14) rfl rfl (by decide) (by decide) rfl (ko_s_flights_8 ko3) ?_
      refine eb_iload_n (pc := 17) (n := 1) (i := 1) rfl rfl rfl ?_
      refine eb_iconst (pc := 18) (n := 4) (v := 4) rfl rfl ?_
      refine eb_iload_n (pc := 19) (n := 1) (i := 1) rfl rfl rfl ?_
      refine eb_imul (pc := 20) rfl ?_
      obtain ⟨c11, w⟩ := w
      refine eb_iastore (pc := 21) rfl rfl (by decide) c11 ?_
      refine eb_aload_n (pc := 22) (n := 0) (i := 0) rfl rfl rfl ?_
      refine eb_getR (pc := 23) rfl rfl (by decide) (by decide) rfl (ko_s_flights_7 ko3) ?_
      refine eb_iconst (pc := 26) (n := 0) (v := 0) rfl rfl ?_
      refine eb_iload_n (pc := 27) (n := 1) (i := 1) rfl rfl rfl ?_
      refine eb_iastore (pc := 28) rfl rfl (by decide) (by unfold vp_in; decide) ?_
      refine eb_aload_n (pc := 29) (n := 0) (i := 0) rfl rfl rfl ?_
      refine eb_iconst (pc := 30) (n := 1) (v := 1) rfl rfl ?_
      refine eb_putI (pc := 31) rfl rfl (by decide) (by decide) rfl rfl ⟨rfl, rfl⟩ ?_
      refine eb_iconst (pc := 34) (n := 0) (v := 0) rfl rfl ?_
      refine eb_istore_n (pc := 35) (n := 2) (i := 2) (ls2 := [(2, .int 0), (1, .int (if (¬ ((((16 : Int32) * (eb_I h1 s_flights_state 1)) + (eb_I h1 s_flights_state 0)) < 0)) ∧ (¬ ((1024 : Int32) ≤ (((16 : Int32) * (eb_I h1 s_flights_state 1)) + (eb_I h1 s_flights_state 0)))) then ((16 : Int32) * (eb_I h1 s_flights_state 1)) + (eb_I h1 s_flights_state 0) else 0 : Int32)), (0, .ref s_flights)]) rfl (Nat.le_of_ble_eq_true rfl) rfl rfl ?_
      exact eb_pick [2, 0] rfl w
    refine eb_if_eq (pc := 22) (tgt := 29) rfl (by decide) (fun c6 => ?_) (fun c6 => ?_)
    · replace c6 := eb_q0.mp c6
      refine eb_iconst (pc := 29) (n := 0) (v := 0) rfl rfl ?_
      exact jj7 _ (by simp only [if_neg c6])
    · replace c6 := eb_q1.mp c6
      refine eb_iload_n (pc := 25) (n := 1) (i := 1) rfl rfl rfl ?_
      refine eb_goto (pc := 26) (tgt := 30) rfl (by decide) ?_
      exact jj7 _ (by simp only [if_pos c6])
  refine eb_ctS (pc := 19) (As := [.int (((16 : Int32) * (eb_I h1 s_flights_state 1)) + (eb_I h1 s_flights_state 0))]) (rest := []) rfl (by decide) (by decide) rfl rfl (Nat.le_of_ble_eq_true rfl) ?_
  refine eb_bodyQ (by decide) ok_X1_isCode (Nat.le_of_ble_eq_true rfl) ?_
  change eb_Sn _ m_X1_isCode _ 0 [(0, .int (((16 : Int32) * (eb_I h1 s_flights_state 1)) + (eb_I h1 s_flights_state 0)))] [] _ _
  refine eb_iload_n (pc := 0) (n := 0) (i := 0) rfl rfl rfl ?_
  refine eb_if_lt (pc := 1) (tgt := 15) rfl (by decide) (fun c4 => ?_) (fun c4 => ?_)
  · refine eb_iconst (pc := 15) (n := 0) (v := 0) rfl rfl ?_
    refine eb_ireturn (pc := 16) rfl rfl (by decide) ?_
    change eb_Sn _ _ _ 22 _ _ _ _
    exact jj9 0 (eb_qf (fun z => z.1 c4)).symm
  · refine eb_iload_n (pc := 4) (n := 0) (i := 0) rfl rfl rfl ?_
    refine eb_sipush (pc := 5) (n := 1024) (v := 1024) rfl rfl ?_
    refine eb_icmp_ge (pc := 8) (tgt := 15) rfl (by decide) (fun c5 => ?_) (fun c5 => ?_)
    · refine eb_iconst (pc := 15) (n := 0) (v := 0) rfl rfl ?_
      refine eb_ireturn (pc := 16) rfl rfl (by decide) ?_
      change eb_Sn _ _ _ 22 _ _ _ _
      exact jj9 0 (eb_qf (fun z => (fun z => z c5) z.2)).symm
    · refine eb_iconst (pc := 11) (n := 1) (v := 1) rfl rfl ?_
      refine eb_goto (pc := 12) (tgt := 16) rfl (by decide) ?_
      refine eb_ireturn (pc := 16) rfl rfl (by decide) ?_
      change eb_Sn _ _ _ 22 _ _ _ _
      exact jj9 1 (eb_qt (⟨c4, c5⟩)).symm
theorem b_X1_spread_36 {d : Nat} {h0 h : eb_H} {Q : Option Value → eb_H → Prop} (x2 : Int32)  (ko : eb_KO h) (w : (((eb_I h s_flights 4) ≤ x2 → Q none h) ∧ (¬ ((eb_I h s_flights 4) ≤ x2) → (((1024 : Int32) ≤ x2 → Q none h) ∧ (¬ ((1024 : Int32) ≤ x2) → eb_Sn (d + 2) m_X1_spread h0 53 [(0, .ref s_flights), (2, .int x2), (3, .int 0)] [] h Q))))) : eb_Sn (d + 2) m_X1_spread h0 36 [(0, .ref s_flights), (2, .int x2)] [] h Q := by
  refine eb_iload_n (pc := 36) (n := 2) (i := 2) rfl rfl rfl ?_
  refine eb_aload_n (pc := 37) (n := 0) (i := 0) rfl rfl rfl ?_
  refine eb_getI (pc := 38) rfl rfl (by decide) (by decide) rfl ?_
  refine eb_icmp_ge (pc := 41) (tgt := 153) rfl (by decide) (fun c1 => ?_) (fun c1 => ?_)
  · replace w := w.1 c1
    exact eb_return (pc := 153) rfl rfl w
  · replace w := w.2 c1
    refine eb_iload_n (pc := 44) (n := 2) (i := 2) rfl rfl rfl ?_
    refine eb_sipush (pc := 45) (n := 1024) (v := 1024) rfl rfl ?_
    refine eb_icmp_ge (pc := 48) (tgt := 153) rfl (by decide) (fun c2 => ?_) (fun c2 => ?_)
    · replace w := w.1 c2
      exact eb_return (pc := 153) rfl rfl w
    · replace w := w.2 c2
      refine eb_iconst (pc := 51) (n := 0) (v := 0) rfl rfl ?_
      refine eb_istore_n (pc := 52) (n := 3) (i := 3) (ls2 := [(3, .int 0), (0, .ref s_flights), (2, .int x2)]) rfl (Nat.le_of_ble_eq_true rfl) rfl rfl ?_
      exact eb_pick [1, 2, 0] rfl w
theorem b_X1_spread_53 {d : Nat} {h0 h : eb_H} {Q : Option Value → eb_H → Prop} (x2 : Int32) (x3 : Int32)  (ko : eb_KO h) (w : (((4 : Int32) ≤ x3 → eb_Sn (d + 2) m_X1_spread h0 36 [(0, .ref s_flights), (2, .int (x2 + 1))] [] h Q) ∧ (¬ ((4 : Int32) ≤ x3) → (vp_in x2 1024) ∧ eb_Ct (d + 1) 9 [.ref s_flights, .int (eb_I h s_flights_order x2.toNatClampNeg), .int x3] h (fun r h3 => ∃ y4, r = some (.int y4) ∧ eb_KO h3 ∧ ((¬ ((¬ (y4 < 0)) ∧ (¬ ((1024 : Int32) ≤ y4))) → eb_Sn (d + 2) m_X1_spread h0 53 [(0, .ref s_flights), (2, .int x2), (3, .int (x3 + 1))] [] h3 Q) ∧ ((¬ (y4 < 0)) ∧ (¬ ((1024 : Int32) ≤ y4)) → (vp_in y4 1024) ∧ ((¬ (eb_I h3 s_flights_origins y4.toNatClampNeg) = ((-1) : Int32) → eb_Sn (d + 2) m_X1_spread h0 53 [(0, .ref s_flights), (2, .int x2), (3, .int (x3 + 1))] [] h3 Q) ∧ ((eb_I h3 s_flights_origins y4.toNatClampNeg) = ((-1) : Int32) → (((eb_I h3 s_flights 4) < (1024 : Int32) → (vp_in x2 1024) ∧ (vp_in y4 1024) ∧ (vp_in (eb_I (eb_sI h3 s_flights_origins y4.toNatClampNeg (((4 : Int32) * (eb_I h3 s_flights_order x2.toNatClampNeg)) + x3)) s_flights 4) 1024) ∧ eb_Sn (d + 2) m_X1_spread h0 53 [(0, .ref s_flights), (2, .int x2), (3, .int (x3 + 1))] [] (eb_sI (eb_sI (eb_sI h3 s_flights_origins y4.toNatClampNeg (((4 : Int32) * (eb_I h3 s_flights_order x2.toNatClampNeg)) + x3)) s_flights_order (eb_I (eb_sI h3 s_flights_origins y4.toNatClampNeg (((4 : Int32) * (eb_I h3 s_flights_order x2.toNatClampNeg)) + x3)) s_flights 4).toNatClampNeg y4) s_flights 4 ((eb_I (eb_sI (eb_sI h3 s_flights_origins y4.toNatClampNeg (((4 : Int32) * (eb_I h3 s_flights_order x2.toNatClampNeg)) + x3)) s_flights_order (eb_I (eb_sI h3 s_flights_origins y4.toNatClampNeg (((4 : Int32) * (eb_I h3 s_flights_order x2.toNatClampNeg)) + x3)) s_flights 4).toNatClampNeg y4) s_flights 4) + 1)) Q) ∧ (¬ ((eb_I h3 s_flights 4) < (1024 : Int32)) → eb_Sn (d + 2) m_X1_spread h0 53 [(0, .ref s_flights), (2, .int x2), (3, .int (x3 + 1))] [] h3 Q)))))))))) : eb_Sn (d + 2) m_X1_spread h0 53 [(0, .ref s_flights), (2, .int x2), (3, .int x3)] [] h Q := by
  refine eb_iload_n (pc := 53) (n := 3) (i := 3) rfl rfl rfl ?_
  refine eb_iconst (pc := 54) (n := 4) (v := 4) rfl rfl ?_
  refine eb_icmp_ge (pc := 55) (tgt := 147) rfl (by decide) (fun c1 => ?_) (fun c1 => ?_)
  · replace w := w.1 c1
    refine eb_iinc (pc := 147) (i := 2) (n := 1) (v := x2 + 1) (ls2 := [(2, .int (x2 + 1)), (0, .ref s_flights), (3, .int x3)]) (Nat.le_of_ble_eq_true rfl) rfl rfl rfl rfl ?_
    refine eb_goto (pc := 150) (tgt := 36) rfl (by decide) ?_
    exact eb_pick [1, 0] rfl w
  · replace w := w.2 c1
    refine eb_aload_n (pc := 58) (n := 0) (i := 0) rfl rfl rfl ?_
    refine eb_aload_n (pc := 59) (n := 0) (i := 0) rfl rfl rfl ?_
    refine eb_getR (pc := 60) rfl rfl (by decide) (by decide) rfl (ko_s_flights_7 ko) ?_
    refine eb_iload_n (pc := 63) (n := 2) (i := 2) rfl rfl rfl ?_
    obtain ⟨c2, w⟩ := w
    refine eb_iaload (pc := 64) rfl rfl (by decide) c2 ?_
    refine eb_iload_n (pc := 65) (n := 3) (i := 3) rfl rfl rfl ?_
    refine eb_ctV (pc := 66) (As := [.int (eb_I h s_flights_order x2.toNatClampNeg), .int x3]) (rest := []) rfl (by decide) rfl rfl (by decide) rfl (Nat.le_of_ble_eq_true rfl) ?_
    refine eb_Ct.mono w ?_
    rintro r h3 ⟨y4, rfl, ko5, w⟩
    change eb_Sn _ _ _ 69 _ [.int y4] _ _
    refine eb_istore (pc := 69) (i := 4) (ls2 := [(4, .int y4), (0, .ref s_flights), (2, .int x2), (3, .int x3)]) (Nat.le_of_ble_eq_true rfl) rfl rfl ?_
    refine eb_iload (pc := 71) (i := 4) rfl rfl ?_
    refine eb_joinI (pc2 := 76) (ls2 := [(4, .int y4), (0, .ref s_flights), (2, .int x2), (3, .int x3)]) (st2 := []) (v := eb_q ((¬ (y4 < 0)) ∧ (¬ ((1024 : Int32) ≤ y4)))) ?_ (fun jj15 => ?_)
    · refine eb_if_eq (pc := 76) (tgt := 141) rfl (by decide) (fun c8 => ?_) (fun c8 => ?_)
      · replace c8 := eb_q0.mp c8
        replace w := w.1 c8
        refine eb_iinc (pc := 141) (i := 3) (n := 1) (v := x3 + 1) (ls2 := [(3, .int (x3 + 1)), (4, .int y4), (0, .ref s_flights), (2, .int x2)]) (Nat.le_of_ble_eq_true rfl) rfl rfl rfl rfl ?_
        refine eb_goto (pc := 144) (tgt := 53) rfl (by decide) ?_
        exact eb_pick [2, 3, 0] rfl w
      · replace c8 := eb_q1.mp c8
        replace w := w.2 c8
        refine eb_aload_n (pc := 79) (n := 0) (i := 0) rfl rfl rfl ?_
        refine eb_getR (pc := 80) rfl rfl (by decide) (by decide) rfl (ko_s_flights_8 ko5) ?_
        refine eb_iload (pc := 83) (i := 4) rfl rfl ?_
        obtain ⟨c9, w⟩ := w
        refine eb_iaload (pc := 85) rfl rfl (by decide) c9 ?_
        refine eb_iconst (pc := 86) (n := -1) (v := (-1)) rfl rfl ?_
        refine eb_icmp_ne (pc := 87) (tgt := 141) rfl (by decide) (fun c10 => ?_) (fun c10 => ?_)
        · replace w := w.1 c10
          refine eb_iinc (pc := 141) (i := 3) (n := 1) (v := x3 + 1) (ls2 := [(3, .int (x3 + 1)), (4, .int y4), (0, .ref s_flights), (2, .int x2)]) (Nat.le_of_ble_eq_true rfl) rfl rfl rfl rfl ?_
          refine eb_goto (pc := 144) (tgt := 53) rfl (by decide) ?_
          exact eb_pick [2, 3, 0] rfl w
        · replace w := w.2 c10
          refine eb_aload_n (pc := 90) (n := 0) (i := 0) rfl rfl rfl ?_
          refine eb_getI (pc := 91) rfl rfl (by decide) (by decide) rfl ?_
          refine eb_sipush (pc := 94) (n := 1024) (v := 1024) rfl rfl ?_
          refine eb_icmp_lt (pc := 97) (tgt := 103) rfl (by decide) (fun c11 => ?_) (fun c11 => ?_)
          · replace w := w.1 c11
            refine eb_aload_n (pc := 103) (n := 0) (i := 0) rfl rfl rfl ?_
            refine eb_getR (pc := 104) rfl rfl (by decide) (by decide) rfl (ko_s_flights_8 ko5) ?_
            refine eb_iload (pc := 107) (i := 4) rfl rfl ?_
            refine eb_iconst (pc := 109) (n := 4) (v := 4) rfl rfl ?_
            refine eb_aload_n (pc := 110) (n := 0) (i := 0) rfl rfl rfl ?_
            refine eb_getR (pc := 111) rfl rfl (by decide) (by decide) rfl (ko_s_flights_7 ko5) ?_
            refine eb_iload_n (pc := 114) (n := 2) (i := 2) rfl rfl rfl ?_
            obtain ⟨c12, w⟩ := w
            refine eb_iaload (pc := 115) rfl rfl (by decide) c12 ?_
            refine eb_imul (pc := 116) rfl ?_
            refine eb_iload_n (pc := 117) (n := 3) (i := 3) rfl rfl rfl ?_
            refine eb_iadd (pc := 118) rfl ?_
            obtain ⟨c13, w⟩ := w
            refine eb_iastore (pc := 119) rfl rfl (by decide) c13 ?_
            refine eb_aload_n (pc := 120) (n := 0) (i := 0) rfl rfl rfl ?_
            refine eb_getR (pc := 121) rfl rfl (by decide) (by decide) rfl (ko_s_flights_7 ko5) ?_
            refine eb_aload_n (pc := 124) (n := 0) (i := 0) rfl rfl rfl ?_
            refine eb_getI (pc := 125) rfl rfl (by decide) (by decide) rfl ?_
            refine eb_iload (pc := 128) (i := 4) rfl rfl ?_
            obtain ⟨c14, w⟩ := w
            refine eb_iastore (pc := 130) rfl rfl (by decide) c14 ?_
            refine eb_aload_n (pc := 131) (n := 0) (i := 0) rfl rfl rfl ?_
            refine eb_dupr (pc := 132) rfl ?_
            refine eb_getI (pc := 133) rfl rfl (by decide) (by decide) rfl ?_
            refine eb_iconst (pc := 136) (n := 1) (v := 1) rfl rfl ?_
            refine eb_iadd (pc := 137) rfl ?_
            refine eb_putI (pc := 138) rfl rfl (by decide) (by decide) rfl rfl ⟨rfl, rfl⟩ ?_
            refine eb_iinc (pc := 141) (i := 3) (n := 1) (v := x3 + 1) (ls2 := [(3, .int (x3 + 1)), (4, .int y4), (0, .ref s_flights), (2, .int x2)]) (Nat.le_of_ble_eq_true rfl) rfl rfl rfl rfl ?_
            refine eb_goto (pc := 144) (tgt := 53) rfl (by decide) ?_
            exact eb_pick [2, 3, 0] rfl w
          · replace w := w.2 c11
            refine eb_goto (pc := 100) (tgt := 141) rfl (by decide) ?_
            refine eb_iinc (pc := 141) (i := 3) (n := 1) (v := x3 + 1) (ls2 := [(3, .int (x3 + 1)), (4, .int y4), (0, .ref s_flights), (2, .int x2)]) (Nat.le_of_ble_eq_true rfl) rfl rfl rfl rfl ?_
            refine eb_goto (pc := 144) (tgt := 53) rfl (by decide) ?_
            exact eb_pick [2, 3, 0] rfl w
    refine eb_ctS (pc := 73) (As := [.int y4]) (rest := []) rfl (by decide) (by decide) rfl rfl (Nat.le_of_ble_eq_true rfl) ?_
    refine eb_bodyQ (by decide) ok_X1_isCode (Nat.le_of_ble_eq_true rfl) ?_
    change eb_Sn _ m_X1_isCode _ 0 [(0, .int y4)] [] _ _
    refine eb_iload_n (pc := 0) (n := 0) (i := 0) rfl rfl rfl ?_
    refine eb_if_lt (pc := 1) (tgt := 15) rfl (by decide) (fun c6 => ?_) (fun c6 => ?_)
    · refine eb_iconst (pc := 15) (n := 0) (v := 0) rfl rfl ?_
      refine eb_ireturn (pc := 16) rfl rfl (by decide) ?_
      change eb_Sn _ _ _ 76 _ _ _ _
      exact jj15 0 (eb_qf (fun z => z.1 c6)).symm
    · refine eb_iload_n (pc := 4) (n := 0) (i := 0) rfl rfl rfl ?_
      refine eb_sipush (pc := 5) (n := 1024) (v := 1024) rfl rfl ?_
      refine eb_icmp_ge (pc := 8) (tgt := 15) rfl (by decide) (fun c7 => ?_) (fun c7 => ?_)
      · refine eb_iconst (pc := 15) (n := 0) (v := 0) rfl rfl ?_
        refine eb_ireturn (pc := 16) rfl rfl (by decide) ?_
        change eb_Sn _ _ _ 76 _ _ _ _
        exact jj15 0 (eb_qf (fun z => (fun z => z c7) z.2)).symm
      · refine eb_iconst (pc := 11) (n := 1) (v := 1) rfl rfl ?_
        refine eb_goto (pc := 12) (tgt := 16) rfl (by decide) ?_
        refine eb_ireturn (pc := 16) rfl rfl (by decide) ?_
        change eb_Sn _ _ _ 76 _ _ _ _
        exact jj15 1 (eb_qt (⟨c6, c7⟩)).symm
theorem T_X1_spread {d : Nat} {h : eb_H} {Q : Option Value → eb_H → Prop}   (ko : eb_KO h) (w : eb_Ct (d + 1) 301 [.ref s_flights_origins, .int (-1)] h (fun r h1 => r = none ∧ eb_KO h1 ∧ (vp_in (if (¬ ((((16 : Int32) * (eb_I h1 s_flights_state 1)) + (eb_I h1 s_flights_state 0)) < 0)) ∧ (¬ ((1024 : Int32) ≤ (((16 : Int32) * (eb_I h1 s_flights_state 1)) + (eb_I h1 s_flights_state 0)))) then ((16 : Int32) * (eb_I h1 s_flights_state 1)) + (eb_I h1 s_flights_state 0) else 0 : Int32) 1024) ∧ eb_Sn (d + 2) m_X1_spread h 36 [(0, .ref s_flights), (2, .int 0)] [] (eb_sI (eb_sI (eb_sI h1 s_flights_origins (if (¬ ((((16 : Int32) * (eb_I h1 s_flights_state 1)) + (eb_I h1 s_flights_state 0)) < 0)) ∧ (¬ ((1024 : Int32) ≤ (((16 : Int32) * (eb_I h1 s_flights_state 1)) + (eb_I h1 s_flights_state 0)))) then ((16 : Int32) * (eb_I h1 s_flights_state 1)) + (eb_I h1 s_flights_state 0) else 0 : Int32).toNatClampNeg ((4 : Int32) * (if (¬ ((((16 : Int32) * (eb_I h1 s_flights_state 1)) + (eb_I h1 s_flights_state 0)) < 0)) ∧ (¬ ((1024 : Int32) ≤ (((16 : Int32) * (eb_I h1 s_flights_state 1)) + (eb_I h1 s_flights_state 0)))) then ((16 : Int32) * (eb_I h1 s_flights_state 1)) + (eb_I h1 s_flights_state 0) else 0 : Int32))) s_flights_order (0 : Int32).toNatClampNeg (if (¬ ((((16 : Int32) * (eb_I h1 s_flights_state 1)) + (eb_I h1 s_flights_state 0)) < 0)) ∧ (¬ ((1024 : Int32) ≤ (((16 : Int32) * (eb_I h1 s_flights_state 1)) + (eb_I h1 s_flights_state 0)))) then ((16 : Int32) * (eb_I h1 s_flights_state 1)) + (eb_I h1 s_flights_state 0) else 0 : Int32)) s_flights 4 1) Q)) : eb_Ct (d + 2) 11 [.ref s_flights] h Q :=
  eb_bodyQ (by decide) ok_X1_spread (Nat.le_of_ble_eq_true rfl) (b_X1_spread_0 (h0 := h)   ko w)
theorem b_X1_traceComing_0 {d : Nat} {h0 h : eb_H} {Q : Option Value → eb_H → Prop} (x1 : Int32) (x2 : Int32) (x3 : Int32)  (ko : eb_KO h) (w : eb_Ct (d + 1) 11 [.ref s_flights] h (fun r h1 => r = none ∧ eb_KO h1 ∧ eb_Sn (d + 2) m_X1_traceComing h0 7 [(0, .ref s_flights), (1, .int x1), (2, .int x2), (3, .int x3), (4, .int 0)] [] h1 Q)) : eb_Sn (d + 2) m_X1_traceComing h0 0 [(0, .ref s_flights), (1, .int x1), (2, .int x2), (3, .int x3)] [] h Q := by
  refine eb_aload_n (pc := 0) (n := 0) (i := 0) rfl rfl rfl ?_
  refine eb_ctV (pc := 1) (As := []) (rest := []) rfl (by decide) rfl rfl (by decide) rfl (Nat.le_of_ble_eq_true rfl) ?_
  refine eb_Ct.mono w ?_
  rintro r h1 ⟨rfl, ko3, w⟩
  change eb_Sn _ _ _ 4 _ [] _ _
  refine eb_iconst (pc := 4) (n := 0) (v := 0) rfl rfl ?_
  refine eb_istore (pc := 5) (i := 4) (ls2 := [(4, .int 0), (0, .ref s_flights), (1, .int x1), (2, .int x2), (3, .int x3)]) (Nat.le_of_ble_eq_true rfl) rfl rfl ?_
  exact eb_pick [1, 2, 3, 4, 0] rfl w
theorem b_X1_traceComing_7 {d : Nat} {h0 h : eb_H} {Q : Option Value → eb_H → Prop} (x1 : Int32) (x2 : Int32) (x3 : Int32) (x4 : Int32)  (ko : eb_KO h) (w : (((eb_I h s_flights 4) ≤ x4 → Q (some (.int (-1))) h) ∧ (¬ ((eb_I h s_flights 4) ≤ x4) → (((1024 : Int32) ≤ x4 → Q (some (.int (-1))) h) ∧ (¬ ((1024 : Int32) ≤ x4) → (vp_in x4 1024) ∧ (((((eb_I h s_flights_order x4.toNatClampNeg) &&& 15) = x1) ∧ (((((eb_I h s_flights_order x4.toNatClampNeg) >>> ((4 : Int32) &&& 31)) &&& x2) = x2) ∧ ((((eb_I h s_flights_order x4.toNatClampNeg) >>> ((4 : Int32) &&& 31)) &&& x3) = 0)) → (vp_in x4 1024) ∧ eb_Ct (d + 1) 14 [.ref s_flights, .int (eb_I h s_flights_order x4.toNatClampNeg)] h (fun r h11 => r = none ∧ eb_KO h11 ∧ Q (some (.int (eb_I h11 s_flights 5))) h11)) ∧ (¬ ((((eb_I h s_flights_order x4.toNatClampNeg) &&& 15) = x1) ∧ (((((eb_I h s_flights_order x4.toNatClampNeg) >>> ((4 : Int32) &&& 31)) &&& x2) = x2) ∧ ((((eb_I h s_flights_order x4.toNatClampNeg) >>> ((4 : Int32) &&& 31)) &&& x3) = 0))) → eb_Sn (d + 2) m_X1_traceComing h0 7 [(0, .ref s_flights), (1, .int x1), (2, .int x2), (3, .int x3), (4, .int (x4 + 1))] [] h Q))))))) : eb_Sn (d + 2) m_X1_traceComing h0 7 [(0, .ref s_flights), (1, .int x1), (2, .int x2), (3, .int x3), (4, .int x4)] [] h Q := by
  refine eb_iload (pc := 7) (i := 4) rfl rfl ?_
  refine eb_aload_n (pc := 9) (n := 0) (i := 0) rfl rfl rfl ?_
  refine eb_getI (pc := 10) rfl rfl (by decide) (by decide) rfl ?_
  refine eb_icmp_ge (pc := 13) (tgt := 65) rfl (by decide) (fun c1 => ?_) (fun c1 => ?_)
  · replace w := w.1 c1
    refine eb_iconst (pc := 65) (n := -1) (v := (-1)) rfl rfl ?_
    exact eb_ireturn (pc := 66) rfl rfl rfl w
  · replace w := w.2 c1
    refine eb_iload (pc := 16) (i := 4) rfl rfl ?_
    refine eb_sipush (pc := 18) (n := 1024) (v := 1024) rfl rfl ?_
    refine eb_icmp_ge (pc := 21) (tgt := 65) rfl (by decide) (fun c2 => ?_) (fun c2 => ?_)
    · replace w := w.1 c2
      refine eb_iconst (pc := 65) (n := -1) (v := (-1)) rfl rfl ?_
      exact eb_ireturn (pc := 66) rfl rfl rfl w
    · replace w := w.2 c2
      refine eb_aload_n (pc := 24) (n := 0) (i := 0) rfl rfl rfl ?_
      refine eb_getR (pc := 25) rfl rfl (by decide) (by decide) rfl (ko_s_flights_7 ko) ?_
      refine eb_iload (pc := 28) (i := 4) rfl rfl ?_
      obtain ⟨c3, w⟩ := w
      refine eb_iaload (pc := 30) rfl rfl (by decide) c3 ?_
      refine eb_iload_n (pc := 31) (n := 1) (i := 1) rfl rfl rfl ?_
      refine eb_iload_n (pc := 32) (n := 2) (i := 2) rfl rfl rfl ?_
      refine eb_iload_n (pc := 33) (n := 3) (i := 3) rfl rfl rfl ?_
      refine eb_ctS (pc := 34) (As := [.int (eb_I h s_flights_order x4.toNatClampNeg), .int x1, .int x2, .int x3]) (rest := []) rfl (by decide) (by decide) rfl rfl (Nat.le_of_ble_eq_true rfl) ?_
      refine eb_bodyQ (by decide) ok_X1_isComing (Nat.le_of_ble_eq_true rfl) ?_
      change eb_Sn _ m_X1_isComing _ 0 [(0, .int (eb_I h s_flights_order x4.toNatClampNeg)), (1, .int x1), (2, .int x2), (3, .int x3)] [] _ _
      refine eb_iload_n (pc := 0) (n := 0) (i := 0) rfl rfl rfl ?_
      refine eb_ctS (pc := 1) (As := [.int (eb_I h s_flights_order x4.toNatClampNeg)]) (rest := []) rfl (by decide) (by decide) rfl rfl (Nat.le_of_ble_eq_true rfl) ?_
      refine eb_bodyQ (by decide) ok_X1_setOf (Nat.le_of_ble_eq_true rfl) ?_
      change eb_Sn _ m_X1_setOf _ 0 [(0, .int (eb_I h s_flights_order x4.toNatClampNeg))] [] _ _
      refine eb_iload_n (pc := 0) (n := 0) (i := 0) rfl rfl rfl ?_
      refine eb_iconst (pc := 1) (n := 4) (v := 4) rfl rfl ?_
      refine eb_ishr (pc := 2) rfl ?_
      refine eb_ireturn (pc := 3) rfl rfl rfl ?_
      change eb_Sn _ _ _ 4 _ [.int ((eb_I h s_flights_order x4.toNatClampNeg) >>> ((4 : Int32) &&& 31))] _ _
      refine eb_istore (pc := 4) (i := 4) (ls2 := [(4, .int ((eb_I h s_flights_order x4.toNatClampNeg) >>> ((4 : Int32) &&& 31))), (0, .int (eb_I h s_flights_order x4.toNatClampNeg)), (1, .int x1), (2, .int x2), (3, .int x3)]) (Nat.le_of_ble_eq_true rfl) rfl rfl ?_
      refine eb_iload_n (pc := 6) (n := 0) (i := 0) rfl rfl rfl ?_
      refine eb_ctS (pc := 7) (As := [.int (eb_I h s_flights_order x4.toNatClampNeg)]) (rest := []) rfl (by decide) (by decide) rfl rfl (Nat.le_of_ble_eq_true rfl) ?_
      refine eb_bodyQ (by decide) ok_X1_cellOf (Nat.le_of_ble_eq_true rfl) ?_
      change eb_Sn _ m_X1_cellOf _ 0 [(0, .int (eb_I h s_flights_order x4.toNatClampNeg))] [] _ _
      refine eb_iload_n (pc := 0) (n := 0) (i := 0) rfl rfl rfl ?_
      refine eb_bipush (pc := 1) (n := 15) (v := 15) rfl rfl ?_
      refine eb_iand (pc := 3) rfl ?_
      refine eb_ireturn (pc := 4) rfl rfl rfl ?_
      change eb_Sn _ _ _ 10 _ [.int ((eb_I h s_flights_order x4.toNatClampNeg) &&& 15)] _ _
      refine eb_iload_n (pc := 10) (n := 1) (i := 1) rfl rfl rfl ?_
      refine eb_joinI (pc2 := 34) (ls2 := [(4, .int ((eb_I h s_flights_order x4.toNatClampNeg) >>> ((4 : Int32) &&& 31))), (0, .int (eb_I h s_flights_order x4.toNatClampNeg)), (1, .int x1), (2, .int x2), (3, .int x3)]) (st2 := []) (v := eb_q ((((eb_I h s_flights_order x4.toNatClampNeg) &&& 15) = x1) ∧ (((((eb_I h s_flights_order x4.toNatClampNeg) >>> ((4 : Int32) &&& 31)) &&& x2) = x2) ∧ ((((eb_I h s_flights_order x4.toNatClampNeg) >>> ((4 : Int32) &&& 31)) &&& x3) = 0)))) ?_ (fun jj7 => ?_)
      · refine eb_ireturn (pc := 34) rfl rfl eb_qn ?_
        change eb_Sn _ _ _ 37 _ [.int (eb_q ((((eb_I h s_flights_order x4.toNatClampNeg) &&& 15) = x1) ∧ (((((eb_I h s_flights_order x4.toNatClampNeg) >>> ((4 : Int32) &&& 31)) &&& x2) = x2) ∧ ((((eb_I h s_flights_order x4.toNatClampNeg) >>> ((4 : Int32) &&& 31)) &&& x3) = 0))))] _ _
        refine eb_if_ne (pc := 37) (tgt := 43) rfl (by decide) (fun c9 => ?_) (fun c9 => ?_)
        · replace c9 := eb_q1.mp c9
          replace w := w.1 c9
          refine eb_aload_n (pc := 43) (n := 0) (i := 0) rfl rfl rfl ?_
          refine eb_aload_n (pc := 44) (n := 0) (i := 0) rfl rfl rfl ?_
          refine eb_getR (pc := 45) rfl rfl (by decide) (by decide) rfl (ko_s_flights_7 ko) ?_
          refine eb_iload (pc := 48) (i := 4) rfl rfl ?_
          obtain ⟨c10, w⟩ := w
          refine eb_iaload (pc := 50) rfl rfl (by decide) c10 ?_
          refine eb_ctV (pc := 51) (As := [.int (eb_I h s_flights_order x4.toNatClampNeg)]) (rest := []) rfl (by decide) rfl rfl (by decide) rfl (Nat.le_of_ble_eq_true rfl) ?_
          refine eb_Ct.mono w ?_
          rintro r h11 ⟨rfl, ko13, w⟩
          change eb_Sn _ _ _ 54 _ [] _ _
          refine eb_aload_n (pc := 54) (n := 0) (i := 0) rfl rfl rfl ?_
          refine eb_getI (pc := 55) rfl rfl (by decide) (by decide) rfl ?_
          exact eb_ireturn (pc := 58) rfl rfl rfl w
        · replace c9 := eb_q0.mp c9
          replace w := w.2 c9
          refine eb_goto (pc := 40) (tgt := 59) rfl (by decide) ?_
          refine eb_iinc (pc := 59) (i := 4) (n := 1) (v := x4 + 1) (ls2 := [(4, .int (x4 + 1)), (0, .ref s_flights), (1, .int x1), (2, .int x2), (3, .int x3)]) (Nat.le_of_ble_eq_true rfl) rfl rfl rfl rfl ?_
          refine eb_goto (pc := 62) (tgt := 7) rfl (by decide) ?_
          exact eb_pick [1, 2, 3, 4, 0] rfl w
      refine eb_icmp_ne (pc := 11) (tgt := 33) rfl (by decide) (fun c4 => ?_) (fun c4 => ?_)
      · refine eb_iconst (pc := 33) (n := 0) (v := 0) rfl rfl ?_
        exact jj7 0 (eb_qf (fun z => c4 z.1)).symm
      · refine eb_iload (pc := 14) (i := 4) rfl rfl ?_
        refine eb_iload_n (pc := 16) (n := 2) (i := 2) rfl rfl rfl ?_
        refine eb_iand (pc := 17) rfl ?_
        refine eb_iload_n (pc := 18) (n := 2) (i := 2) rfl rfl rfl ?_
        refine eb_icmp_ne (pc := 19) (tgt := 33) rfl (by decide) (fun c5 => ?_) (fun c5 => ?_)
        · refine eb_iconst (pc := 33) (n := 0) (v := 0) rfl rfl ?_
          exact jj7 0 (eb_qf (fun z => (fun z => c5 z.1) z.2)).symm
        · refine eb_iload (pc := 22) (i := 4) rfl rfl ?_
          refine eb_iload_n (pc := 24) (n := 3) (i := 3) rfl rfl rfl ?_
          refine eb_iand (pc := 25) rfl ?_
          refine eb_if_ne (pc := 26) (tgt := 33) rfl (by decide) (fun c6 => ?_) (fun c6 => ?_)
          · refine eb_iconst (pc := 33) (n := 0) (v := 0) rfl rfl ?_
            exact jj7 0 (eb_qf (fun z => (fun z => c6 z.2) z.2)).symm
          · refine eb_iconst (pc := 29) (n := 1) (v := 1) rfl rfl ?_
            refine eb_goto (pc := 30) (tgt := 34) rfl (by decide) ?_
            exact jj7 1 (eb_qt (⟨c4, ⟨c5, c6⟩⟩)).symm
theorem T_X1_traceComing {d : Nat} {h : eb_H} {Q : Option Value → eb_H → Prop} (x1 : Int32) (x2 : Int32) (x3 : Int32)  (ko : eb_KO h) (w : eb_Ct (d + 1) 11 [.ref s_flights] h (fun r h1 => r = none ∧ eb_KO h1 ∧ eb_Sn (d + 2) m_X1_traceComing h 7 [(0, .ref s_flights), (1, .int x1), (2, .int x2), (3, .int x3), (4, .int 0)] [] h1 Q)) : eb_Ct (d + 2) 12 [.ref s_flights, .int x1, .int x2, .int x3] h Q :=
  eb_bodyQ (by decide) ok_X1_traceComing (Nat.le_of_ble_eq_true rfl) (b_X1_traceComing_0 (h0 := h) x1 x2 x3  ko w)
theorem b_X1_isComing_0 {d : Nat} {h0 h : eb_H} {Q : Option Value → eb_H → Prop} (x0 : Int32) (x1 : Int32) (x2 : Int32) (x3 : Int32)  (ko : eb_KO h) (w : Q (some (.int (eb_q (((x0 &&& 15) = x1) ∧ ((((x0 >>> ((4 : Int32) &&& 31)) &&& x2) = x2) ∧ (((x0 >>> ((4 : Int32) &&& 31)) &&& x3) = 0)))))) h) : eb_Sn (d + 1) m_X1_isComing h0 0 [(0, .int x0), (1, .int x1), (2, .int x2), (3, .int x3)] [] h Q := by
  refine eb_iload_n (pc := 0) (n := 0) (i := 0) rfl rfl rfl ?_
  refine eb_ctS (pc := 1) (As := [.int x0]) (rest := []) rfl (by decide) (by decide) rfl rfl (Nat.le_of_ble_eq_true rfl) ?_
  refine eb_bodyQ (by decide) ok_X1_setOf (Nat.le_of_ble_eq_true rfl) ?_
  change eb_Sn _ m_X1_setOf _ 0 [(0, .int x0)] [] _ _
  refine eb_iload_n (pc := 0) (n := 0) (i := 0) rfl rfl rfl ?_
  refine eb_iconst (pc := 1) (n := 4) (v := 4) rfl rfl ?_
  refine eb_ishr (pc := 2) rfl ?_
  refine eb_ireturn (pc := 3) rfl rfl rfl ?_
  change eb_Sn _ _ _ 4 _ [.int (x0 >>> ((4 : Int32) &&& 31))] _ _
  refine eb_istore (pc := 4) (i := 4) (ls2 := [(4, .int (x0 >>> ((4 : Int32) &&& 31))), (0, .int x0), (1, .int x1), (2, .int x2), (3, .int x3)]) (Nat.le_of_ble_eq_true rfl) rfl rfl ?_
  refine eb_iload_n (pc := 6) (n := 0) (i := 0) rfl rfl rfl ?_
  refine eb_ctS (pc := 7) (As := [.int x0]) (rest := []) rfl (by decide) (by decide) rfl rfl (Nat.le_of_ble_eq_true rfl) ?_
  refine eb_bodyQ (by decide) ok_X1_cellOf (Nat.le_of_ble_eq_true rfl) ?_
  change eb_Sn _ m_X1_cellOf _ 0 [(0, .int x0)] [] _ _
  refine eb_iload_n (pc := 0) (n := 0) (i := 0) rfl rfl rfl ?_
  refine eb_bipush (pc := 1) (n := 15) (v := 15) rfl rfl ?_
  refine eb_iand (pc := 3) rfl ?_
  refine eb_ireturn (pc := 4) rfl rfl rfl ?_
  change eb_Sn _ _ _ 10 _ [.int (x0 &&& 15)] _ _
  refine eb_iload_n (pc := 10) (n := 1) (i := 1) rfl rfl rfl ?_
  refine eb_joinI (pc2 := 34) (ls2 := [(4, .int (x0 >>> ((4 : Int32) &&& 31))), (0, .int x0), (1, .int x1), (2, .int x2), (3, .int x3)]) (st2 := []) (v := eb_q (((x0 &&& 15) = x1) ∧ ((((x0 >>> ((4 : Int32) &&& 31)) &&& x2) = x2) ∧ (((x0 >>> ((4 : Int32) &&& 31)) &&& x3) = 0)))) ?_ (fun jj4 => ?_)
  · exact eb_ireturn (pc := 34) rfl rfl eb_qn w
  refine eb_icmp_ne (pc := 11) (tgt := 33) rfl (by decide) (fun c1 => ?_) (fun c1 => ?_)
  · refine eb_iconst (pc := 33) (n := 0) (v := 0) rfl rfl ?_
    exact jj4 0 (eb_qf (fun z => c1 z.1)).symm
  · refine eb_iload (pc := 14) (i := 4) rfl rfl ?_
    refine eb_iload_n (pc := 16) (n := 2) (i := 2) rfl rfl rfl ?_
    refine eb_iand (pc := 17) rfl ?_
    refine eb_iload_n (pc := 18) (n := 2) (i := 2) rfl rfl rfl ?_
    refine eb_icmp_ne (pc := 19) (tgt := 33) rfl (by decide) (fun c2 => ?_) (fun c2 => ?_)
    · refine eb_iconst (pc := 33) (n := 0) (v := 0) rfl rfl ?_
      exact jj4 0 (eb_qf (fun z => (fun z => c2 z.1) z.2)).symm
    · refine eb_iload (pc := 22) (i := 4) rfl rfl ?_
      refine eb_iload_n (pc := 24) (n := 3) (i := 3) rfl rfl rfl ?_
      refine eb_iand (pc := 25) rfl ?_
      refine eb_if_ne (pc := 26) (tgt := 33) rfl (by decide) (fun c3 => ?_) (fun c3 => ?_)
      · refine eb_iconst (pc := 33) (n := 0) (v := 0) rfl rfl ?_
        exact jj4 0 (eb_qf (fun z => (fun z => c3 z.2) z.2)).symm
      · refine eb_iconst (pc := 29) (n := 1) (v := 1) rfl rfl ?_
        refine eb_goto (pc := 30) (tgt := 34) rfl (by decide) ?_
        exact jj4 1 (eb_qt (⟨c1, ⟨c2, c3⟩⟩)).symm
theorem T_X1_isComing {d : Nat} {h : eb_H} {Q : Option Value → eb_H → Prop} (x0 : Int32) (x1 : Int32) (x2 : Int32) (x3 : Int32)  (ko : eb_KO h) (w : Q (some (.int (eb_q (((x0 &&& 15) = x1) ∧ ((((x0 >>> ((4 : Int32) &&& 31)) &&& x2) = x2) ∧ (((x0 >>> ((4 : Int32) &&& 31)) &&& x3) = 0)))))) h) : eb_Ct (d + 1) 13 [.int x0, .int x1, .int x2, .int x3] h Q :=
  eb_bodyQ (by decide) ok_X1_isComing (Nat.le_of_ble_eq_true rfl) (b_X1_isComing_0 (h0 := h) x0 x1 x2 x3  ko w)
theorem b_X1_traceTo_0 {d : Nat} {h0 h : eb_H} {Q : Option Value → eb_H → Prop} (x1 : Int32)  (ko : eb_KO h) (w : eb_Sn (d + 2) m_X1_traceTo h0 17 [(0, .ref s_flights), (2, .int (if (¬ ((((16 : Int32) * (eb_I h s_flights_state 1)) + (eb_I h s_flights_state 0)) < 0)) ∧ (¬ ((1024 : Int32) ≤ (((16 : Int32) * (eb_I h s_flights_state 1)) + (eb_I h s_flights_state 0)))) then ((16 : Int32) * (eb_I h s_flights_state 1)) + (eb_I h s_flights_state 0) else 0 : Int32)), (3, .int x1)] [] (eb_sI (eb_sI h s_flights 3 0) s_flights 5 0) Q) : eb_Sn (d + 2) m_X1_traceTo h0 0 [(0, .ref s_flights), (1, .int x1)] [] h Q := by
  refine eb_aload_n (pc := 0) (n := 0) (i := 0) rfl rfl rfl ?_
  refine eb_ctV (pc := 1) (As := []) (rest := []) rfl (by decide) rfl rfl (by decide) rfl (Nat.le_of_ble_eq_true rfl) ?_
  refine eb_bodyQ (by decide) ok_X1_startCode (Nat.le_of_ble_eq_true rfl) ?_
  change eb_Sn _ m_X1_startCode _ 0 [(0, .ref s_flights)] [] _ _
  refine eb_aload_n (pc := 0) (n := 0) (i := 0) rfl rfl rfl ?_
  refine eb_getR (pc := 1) rfl rfl (by decide) (by decide) rfl (ko_s_flights_1 ko) ?_
  refine eb_getI (pc := 4) rfl rfl (by decide) (by decide) rfl ?_
  refine eb_aload_n (pc := 7) (n := 0) (i := 0) rfl rfl rfl ?_
  refine eb_getR (pc := 8) rfl rfl (by decide) (by decide) rfl (ko_s_flights_1 ko) ?_
  refine eb_getI (pc := 11) rfl rfl (by decide) (by decide) rfl ?_
  refine eb_ctS (pc := 14) (As := [.int (eb_I h s_flights_state 0), .int (eb_I h s_flights_state 1)]) (rest := []) rfl (by decide) (by decide) rfl rfl (Nat.le_of_ble_eq_true rfl) ?_
  refine eb_bodyQ (by decide) ok_X1_codeOf (Nat.le_of_ble_eq_true rfl) ?_
  change eb_Sn _ m_X1_codeOf _ 0 [(0, .int (eb_I h s_flights_state 0)), (1, .int (eb_I h s_flights_state 1))] [] _ _
  refine eb_bipush (pc := 0) (n := 16) (v := 16) rfl rfl ?_
  refine eb_iload_n (pc := 2) (n := 1) (i := 1) rfl rfl rfl ?_
  refine eb_imul (pc := 3) rfl ?_
  refine eb_iload_n (pc := 4) (n := 0) (i := 0) rfl rfl rfl ?_
  refine eb_iadd (pc := 5) rfl ?_
  refine eb_ireturn (pc := 6) rfl rfl rfl ?_
  change eb_Sn _ _ _ 17 _ [.int (((16 : Int32) * (eb_I h s_flights_state 1)) + (eb_I h s_flights_state 0))] _ _
  refine eb_istore_n (pc := 17) (n := 1) (i := 1) (ls2 := [(1, .int (((16 : Int32) * (eb_I h s_flights_state 1)) + (eb_I h s_flights_state 0))), (0, .ref s_flights)]) rfl (Nat.le_of_ble_eq_true rfl) rfl rfl ?_
  refine eb_iload_n (pc := 18) (n := 1) (i := 1) rfl rfl rfl ?_
  refine eb_joinI (pc2 := 22) (ls2 := [(1, .int (((16 : Int32) * (eb_I h s_flights_state 1)) + (eb_I h s_flights_state 0))), (0, .ref s_flights)]) (st2 := []) (v := eb_q ((¬ ((((16 : Int32) * (eb_I h s_flights_state 1)) + (eb_I h s_flights_state 0)) < 0)) ∧ (¬ ((1024 : Int32) ≤ (((16 : Int32) * (eb_I h s_flights_state 1)) + (eb_I h s_flights_state 0)))))) ?_ (fun jj6 => ?_)
  · refine eb_joinI (pc2 := 30) (ls2 := [(1, .int (((16 : Int32) * (eb_I h s_flights_state 1)) + (eb_I h s_flights_state 0))), (0, .ref s_flights)]) (st2 := []) (v := (if (¬ ((((16 : Int32) * (eb_I h s_flights_state 1)) + (eb_I h s_flights_state 0)) < 0)) ∧ (¬ ((1024 : Int32) ≤ (((16 : Int32) * (eb_I h s_flights_state 1)) + (eb_I h s_flights_state 0)))) then ((16 : Int32) * (eb_I h s_flights_state 1)) + (eb_I h s_flights_state 0) else 0 : Int32)) ?_ (fun jj4 => ?_)
    · refine eb_ireturn (pc := 30) rfl rfl rfl ?_
      change eb_Sn _ _ _ 4 _ [.int (if (¬ ((((16 : Int32) * (eb_I h s_flights_state 1)) + (eb_I h s_flights_state 0)) < 0)) ∧ (¬ ((1024 : Int32) ≤ (((16 : Int32) * (eb_I h s_flights_state 1)) + (eb_I h s_flights_state 0)))) then ((16 : Int32) * (eb_I h s_flights_state 1)) + (eb_I h s_flights_state 0) else 0 : Int32)] _ _
      refine eb_istore_n (pc := 4) (n := 2) (i := 2) (ls2 := [(2, .int (if (¬ ((((16 : Int32) * (eb_I h s_flights_state 1)) + (eb_I h s_flights_state 0)) < 0)) ∧ (¬ ((1024 : Int32) ≤ (((16 : Int32) * (eb_I h s_flights_state 1)) + (eb_I h s_flights_state 0)))) then ((16 : Int32) * (eb_I h s_flights_state 1)) + (eb_I h s_flights_state 0) else 0 : Int32)), (0, .ref s_flights), (1, .int x1)]) rfl (Nat.le_of_ble_eq_true rfl) rfl rfl ?_
      refine eb_iload_n (pc := 5) (n := 1) (i := 1) rfl rfl rfl ?_
      refine eb_istore_n (pc := 6) (n := 3) (i := 3) (ls2 := [(3, .int x1), (2, .int (if (¬ ((((16 : Int32) * (eb_I h s_flights_state 1)) + (eb_I h s_flights_state 0)) < 0)) ∧ (¬ ((1024 : Int32) ≤ (((16 : Int32) * (eb_I h s_flights_state 1)) + (eb_I h s_flights_state 0)))) then ((16 : Int32) * (eb_I h s_flights_state 1)) + (eb_I h s_flights_state 0) else 0 : Int32)), (0, .ref s_flights), (1, .int x1)]) rfl (Nat.le_of_ble_eq_true rfl) rfl rfl ?_
      refine eb_aload_n (pc := 7) (n := 0) (i := 0) rfl rfl rfl ?_
      refine eb_iconst (pc := 8) (n := 0) (v := 0) rfl rfl ?_
      refine eb_putI (pc := 9) rfl rfl (by decide) (by decide) rfl rfl ⟨rfl, rfl⟩ ?_
      refine eb_aload_n (pc := 12) (n := 0) (i := 0) rfl rfl rfl ?_
      refine eb_iconst (pc := 13) (n := 0) (v := 0) rfl rfl ?_
      refine eb_putI (pc := 14) rfl rfl (by decide) (by decide) rfl rfl ⟨rfl, rfl⟩ ?_
      exact eb_pick [2, 1, 0] rfl w
    refine eb_if_eq (pc := 22) (tgt := 29) rfl (by decide) (fun c3 => ?_) (fun c3 => ?_)
    · replace c3 := eb_q0.mp c3
      refine eb_iconst (pc := 29) (n := 0) (v := 0) rfl rfl ?_
      exact jj4 _ (by simp only [if_neg c3])
    · replace c3 := eb_q1.mp c3
      refine eb_iload_n (pc := 25) (n := 1) (i := 1) rfl rfl rfl ?_
      refine eb_goto (pc := 26) (tgt := 30) rfl (by decide) ?_
      exact jj4 _ (by simp only [if_pos c3])
  refine eb_ctS (pc := 19) (As := [.int (((16 : Int32) * (eb_I h s_flights_state 1)) + (eb_I h s_flights_state 0))]) (rest := []) rfl (by decide) (by decide) rfl rfl (Nat.le_of_ble_eq_true rfl) ?_
  refine eb_bodyQ (by decide) ok_X1_isCode (Nat.le_of_ble_eq_true rfl) ?_
  change eb_Sn _ m_X1_isCode _ 0 [(0, .int (((16 : Int32) * (eb_I h s_flights_state 1)) + (eb_I h s_flights_state 0)))] [] _ _
  refine eb_iload_n (pc := 0) (n := 0) (i := 0) rfl rfl rfl ?_
  refine eb_if_lt (pc := 1) (tgt := 15) rfl (by decide) (fun c1 => ?_) (fun c1 => ?_)
  · refine eb_iconst (pc := 15) (n := 0) (v := 0) rfl rfl ?_
    refine eb_ireturn (pc := 16) rfl rfl (by decide) ?_
    change eb_Sn _ _ _ 22 _ _ _ _
    exact jj6 0 (eb_qf (fun z => z.1 c1)).symm
  · refine eb_iload_n (pc := 4) (n := 0) (i := 0) rfl rfl rfl ?_
    refine eb_sipush (pc := 5) (n := 1024) (v := 1024) rfl rfl ?_
    refine eb_icmp_ge (pc := 8) (tgt := 15) rfl (by decide) (fun c2 => ?_) (fun c2 => ?_)
    · refine eb_iconst (pc := 15) (n := 0) (v := 0) rfl rfl ?_
      refine eb_ireturn (pc := 16) rfl rfl (by decide) ?_
      change eb_Sn _ _ _ 22 _ _ _ _
      exact jj6 0 (eb_qf (fun z => (fun z => z c2) z.2)).symm
    · refine eb_iconst (pc := 11) (n := 1) (v := 1) rfl rfl ?_
      refine eb_goto (pc := 12) (tgt := 16) rfl (by decide) ?_
      refine eb_ireturn (pc := 16) rfl rfl (by decide) ?_
      change eb_Sn _ _ _ 22 _ _ _ _
      exact jj6 1 (eb_qt (⟨c1, c2⟩)).symm
theorem b_X1_traceTo_17 {d : Nat} {h0 h : eb_H} {Q : Option Value → eb_H → Prop} (x2 : Int32) (x3 : Int32)  (ko : eb_KO h) (w : (((1024 : Int32) ≤ (eb_I h s_flights 5) → Q none h) ∧ (¬ ((1024 : Int32) ≤ (eb_I h s_flights 5)) → ((¬ ((¬ (x3 < 0)) ∧ (¬ ((1024 : Int32) ≤ x3))) → Q none h) ∧ ((¬ (x3 < 0)) ∧ (¬ ((1024 : Int32) ≤ x3)) → ((x3 = x2 → Q none h) ∧ (¬ (x3 = x2) → (vp_in x3 1024) ∧ (vp_in ((1023 : Int32) - (eb_I (eb_sI h s_flights 3 ((eb_I h s_flights 3) ||| ((1 : Int32) <<< ((x3 &&& 15) &&& 31)))) s_flights 5)) 1024) ∧ (vp_in x3 1024) ∧ eb_Sn (d + 2) m_X1_traceTo h0 17 [(0, .ref s_flights), (2, .int x2), (3, .int ((eb_I (eb_sI (eb_sI h s_flights 3 ((eb_I h s_flights 3) ||| ((1 : Int32) <<< ((x3 &&& 15) &&& 31)))) s_flights_trace ((1023 : Int32) - (eb_I (eb_sI h s_flights 3 ((eb_I h s_flights 3) ||| ((1 : Int32) <<< ((x3 &&& 15) &&& 31)))) s_flights 5)).toNatClampNeg (((eb_I (eb_sI h s_flights 3 ((eb_I h s_flights 3) ||| ((1 : Int32) <<< ((x3 &&& 15) &&& 31)))) s_flights_origins x3.toNatClampNeg) - (eb_I (eb_sI h s_flights 3 ((eb_I h s_flights 3) ||| ((1 : Int32) <<< ((x3 &&& 15) &&& 31)))) s_flights_origins x3.toNatClampNeg) / 4 * 4).toInt8.toInt32).toInt8.toInt32) s_flights_origins x3.toNatClampNeg) / 4))] [] (eb_sI (eb_sI (eb_sI h s_flights 3 ((eb_I h s_flights 3) ||| ((1 : Int32) <<< ((x3 &&& 15) &&& 31)))) s_flights_trace ((1023 : Int32) - (eb_I (eb_sI h s_flights 3 ((eb_I h s_flights 3) ||| ((1 : Int32) <<< ((x3 &&& 15) &&& 31)))) s_flights 5)).toNatClampNeg (((eb_I (eb_sI h s_flights 3 ((eb_I h s_flights 3) ||| ((1 : Int32) <<< ((x3 &&& 15) &&& 31)))) s_flights_origins x3.toNatClampNeg) - (eb_I (eb_sI h s_flights 3 ((eb_I h s_flights 3) ||| ((1 : Int32) <<< ((x3 &&& 15) &&& 31)))) s_flights_origins x3.toNatClampNeg) / 4 * 4).toInt8.toInt32).toInt8.toInt32) s_flights 5 ((eb_I (eb_sI (eb_sI h s_flights 3 ((eb_I h s_flights 3) ||| ((1 : Int32) <<< ((x3 &&& 15) &&& 31)))) s_flights_trace ((1023 : Int32) - (eb_I (eb_sI h s_flights 3 ((eb_I h s_flights 3) ||| ((1 : Int32) <<< ((x3 &&& 15) &&& 31)))) s_flights 5)).toNatClampNeg (((eb_I (eb_sI h s_flights 3 ((eb_I h s_flights 3) ||| ((1 : Int32) <<< ((x3 &&& 15) &&& 31)))) s_flights_origins x3.toNatClampNeg) - (eb_I (eb_sI h s_flights 3 ((eb_I h s_flights 3) ||| ((1 : Int32) <<< ((x3 &&& 15) &&& 31)))) s_flights_origins x3.toNatClampNeg) / 4 * 4).toInt8.toInt32).toInt8.toInt32) s_flights 5) + 1)) Q))))))) : eb_Sn (d + 2) m_X1_traceTo h0 17 [(0, .ref s_flights), (2, .int x2), (3, .int x3)] [] h Q := by
  refine eb_aload_n (pc := 17) (n := 0) (i := 0) rfl rfl rfl ?_
  refine eb_getI (pc := 18) rfl rfl (by decide) (by decide) rfl ?_
  refine eb_sipush (pc := 21) (n := 1024) (v := 1024) rfl rfl ?_
  refine eb_icmp_ge (pc := 24) (tgt := 98) rfl (by decide) (fun c1 => ?_) (fun c1 => ?_)
  · replace w := w.1 c1
    exact eb_return (pc := 98) rfl rfl w
  · replace w := w.2 c1
    refine eb_iload_n (pc := 27) (n := 3) (i := 3) rfl rfl rfl ?_
    refine eb_joinI (pc2 := 31) (ls2 := [(0, .ref s_flights), (2, .int x2), (3, .int x3)]) (st2 := []) (v := eb_q ((¬ (x3 < 0)) ∧ (¬ ((1024 : Int32) ≤ x3)))) ?_ (fun jj9 => ?_)
    · refine eb_if_eq (pc := 31) (tgt := 98) rfl (by decide) (fun c4 => ?_) (fun c4 => ?_)
      · replace c4 := eb_q0.mp c4
        replace w := w.1 c4
        exact eb_return (pc := 98) rfl rfl w
      · replace c4 := eb_q1.mp c4
        replace w := w.2 c4
        refine eb_iload_n (pc := 34) (n := 3) (i := 3) rfl rfl rfl ?_
        refine eb_iload_n (pc := 35) (n := 2) (i := 2) rfl rfl rfl ?_
        refine eb_icmp_eq (pc := 36) (tgt := 98) rfl (by decide) (fun c5 => ?_) (fun c5 => ?_)
        · replace w := w.1 c5
          exact eb_return (pc := 98) rfl rfl w
        · replace w := w.2 c5
          refine eb_aload_n (pc := 39) (n := 0) (i := 0) rfl rfl rfl ?_
          refine eb_dupr (pc := 40) rfl ?_
          refine eb_getI (pc := 41) rfl rfl (by decide) (by decide) rfl ?_
          refine eb_iconst (pc := 44) (n := 1) (v := 1) rfl rfl ?_
          refine eb_iload_n (pc := 45) (n := 3) (i := 3) rfl rfl rfl ?_
          refine eb_ctS (pc := 46) (As := [.int x3]) (rest := [.int 1, .int (eb_I h s_flights 3), .ref s_flights]) rfl (by decide) (by decide) rfl rfl (Nat.le_of_ble_eq_true rfl) ?_
          refine eb_bodyQ (by decide) ok_X1_cellOf (Nat.le_of_ble_eq_true rfl) ?_
          change eb_Sn _ m_X1_cellOf _ 0 [(0, .int x3)] [] _ _
          refine eb_iload_n (pc := 0) (n := 0) (i := 0) rfl rfl rfl ?_
          refine eb_bipush (pc := 1) (n := 15) (v := 15) rfl rfl ?_
          refine eb_iand (pc := 3) rfl ?_
          refine eb_ireturn (pc := 4) rfl rfl rfl ?_
          change eb_Sn _ _ _ 49 _ [.int (x3 &&& 15), .int 1, .int (eb_I h s_flights 3), .ref s_flights] _ _
          refine eb_ishl (pc := 49) rfl ?_
          refine eb_ior (pc := 50) rfl ?_
          refine eb_putI (pc := 51) rfl rfl (by decide) (by decide) rfl rfl ⟨rfl, rfl⟩ ?_
          refine eb_aload_n (pc := 54) (n := 0) (i := 0) rfl rfl rfl ?_
          refine eb_getR (pc := 55) rfl rfl (by decide) (by decide) rfl (ko_s_flights_9 ko) ?_
          refine eb_sipush (pc := 58) (n := 1023) (v := 1023) rfl rfl ?_
          refine eb_aload_n (pc := 61) (n := 0) (i := 0) rfl rfl rfl ?_
          refine eb_getI (pc := 62) rfl rfl (by decide) (by decide) rfl ?_
          refine eb_isub (pc := 65) rfl ?_
          refine eb_aload_n (pc := 66) (n := 0) (i := 0) rfl rfl rfl ?_
          refine eb_getR (pc := 67) rfl rfl (by decide) (by decide) rfl (ko_s_flights_8 ko) ?_
          refine eb_iload_n (pc := 70) (n := 3) (i := 3) rfl rfl rfl ?_
          obtain ⟨c6, w⟩ := w
          refine eb_iaload (pc := 71) rfl rfl (by decide) c6 ?_
          refine eb_iconst (pc := 72) (n := 4) (v := 4) rfl rfl ?_
          refine eb_irem (pc := 73) (by decide) rfl ?_
          refine eb_i2b (pc := 74) rfl ?_
          obtain ⟨c7, w⟩ := w
          refine eb_bastore (pc := 75) rfl rfl c7 ?_
          refine eb_aload_n (pc := 76) (n := 0) (i := 0) rfl rfl rfl ?_
          refine eb_getR (pc := 77) rfl rfl (by decide) (by decide) rfl (ko_s_flights_8 ko) ?_
          refine eb_iload_n (pc := 80) (n := 3) (i := 3) rfl rfl rfl ?_
          obtain ⟨c8, w⟩ := w
          refine eb_iaload (pc := 81) rfl rfl (by decide) c8 ?_
          refine eb_iconst (pc := 82) (n := 4) (v := 4) rfl rfl ?_
          refine eb_idiv (pc := 83) (by decide) rfl ?_
          refine eb_istore_n (pc := 84) (n := 3) (i := 3) (ls2 := [(3, .int ((eb_I (eb_sI (eb_sI h s_flights 3 ((eb_I h s_flights 3) ||| ((1 : Int32) <<< ((x3 &&& 15) &&& 31)))) s_flights_trace ((1023 : Int32) - (eb_I (eb_sI h s_flights 3 ((eb_I h s_flights 3) ||| ((1 : Int32) <<< ((x3 &&& 15) &&& 31)))) s_flights 5)).toNatClampNeg (((eb_I (eb_sI h s_flights 3 ((eb_I h s_flights 3) ||| ((1 : Int32) <<< ((x3 &&& 15) &&& 31)))) s_flights_origins x3.toNatClampNeg) - (eb_I (eb_sI h s_flights 3 ((eb_I h s_flights 3) ||| ((1 : Int32) <<< ((x3 &&& 15) &&& 31)))) s_flights_origins x3.toNatClampNeg) / 4 * 4).toInt8.toInt32).toInt8.toInt32) s_flights_origins x3.toNatClampNeg) / 4)), (0, .ref s_flights), (2, .int x2)]) rfl (Nat.le_of_ble_eq_true rfl) rfl rfl ?_
          refine eb_aload_n (pc := 85) (n := 0) (i := 0) rfl rfl rfl ?_
          refine eb_dupr (pc := 86) rfl ?_
          refine eb_getI (pc := 87) rfl rfl (by decide) (by decide) rfl ?_
          refine eb_iconst (pc := 90) (n := 1) (v := 1) rfl rfl ?_
          refine eb_iadd (pc := 91) rfl ?_
          refine eb_putI (pc := 92) rfl rfl (by decide) (by decide) rfl rfl ⟨rfl, rfl⟩ ?_
          refine eb_goto (pc := 95) (tgt := 17) rfl (by decide) ?_
          exact eb_pick [1, 2, 0] rfl w
    refine eb_ctS (pc := 28) (As := [.int x3]) (rest := []) rfl (by decide) (by decide) rfl rfl (Nat.le_of_ble_eq_true rfl) ?_
    refine eb_bodyQ (by decide) ok_X1_isCode (Nat.le_of_ble_eq_true rfl) ?_
    change eb_Sn _ m_X1_isCode _ 0 [(0, .int x3)] [] _ _
    refine eb_iload_n (pc := 0) (n := 0) (i := 0) rfl rfl rfl ?_
    refine eb_if_lt (pc := 1) (tgt := 15) rfl (by decide) (fun c2 => ?_) (fun c2 => ?_)
    · refine eb_iconst (pc := 15) (n := 0) (v := 0) rfl rfl ?_
      refine eb_ireturn (pc := 16) rfl rfl (by decide) ?_
      change eb_Sn _ _ _ 31 _ _ _ _
      exact jj9 0 (eb_qf (fun z => z.1 c2)).symm
    · refine eb_iload_n (pc := 4) (n := 0) (i := 0) rfl rfl rfl ?_
      refine eb_sipush (pc := 5) (n := 1024) (v := 1024) rfl rfl ?_
      refine eb_icmp_ge (pc := 8) (tgt := 15) rfl (by decide) (fun c3 => ?_) (fun c3 => ?_)
      · refine eb_iconst (pc := 15) (n := 0) (v := 0) rfl rfl ?_
        refine eb_ireturn (pc := 16) rfl rfl (by decide) ?_
        change eb_Sn _ _ _ 31 _ _ _ _
        exact jj9 0 (eb_qf (fun z => (fun z => z c3) z.2)).symm
      · refine eb_iconst (pc := 11) (n := 1) (v := 1) rfl rfl ?_
        refine eb_goto (pc := 12) (tgt := 16) rfl (by decide) ?_
        refine eb_ireturn (pc := 16) rfl rfl (by decide) ?_
        change eb_Sn _ _ _ 31 _ _ _ _
        exact jj9 1 (eb_qt (⟨c2, c3⟩)).symm
theorem T_X1_traceTo {d : Nat} {h : eb_H} {Q : Option Value → eb_H → Prop} (x1 : Int32)  (ko : eb_KO h) (w : eb_Sn (d + 2) m_X1_traceTo h 17 [(0, .ref s_flights), (2, .int (if (¬ ((((16 : Int32) * (eb_I h s_flights_state 1)) + (eb_I h s_flights_state 0)) < 0)) ∧ (¬ ((1024 : Int32) ≤ (((16 : Int32) * (eb_I h s_flights_state 1)) + (eb_I h s_flights_state 0)))) then ((16 : Int32) * (eb_I h s_flights_state 1)) + (eb_I h s_flights_state 0) else 0 : Int32)), (3, .int x1)] [] (eb_sI (eb_sI h s_flights 3 0) s_flights 5 0) Q) : eb_Ct (d + 2) 14 [.ref s_flights, .int x1] h Q :=
  eb_bodyQ (by decide) ok_X1_traceTo (Nat.le_of_ble_eq_true rfl) (b_X1_traceTo_0 (h0 := h) x1  ko w)
theorem b_X1_traced_0 {d : Nat} {h0 h : eb_H} {Q : Option Value → eb_H → Prop} (x1 : Int32)  (ko : eb_KO h) (w : (((((1024 : Int32) - (eb_I h s_flights 5)) + x1) < 0 → Q (some (.int (-1))) h) ∧ (¬ ((((1024 : Int32) - (eb_I h s_flights 5)) + x1) < 0) → (((1024 : Int32) ≤ (((1024 : Int32) - (eb_I h s_flights 5)) + x1) → Q (some (.int (-1))) h) ∧ (¬ ((1024 : Int32) ≤ (((1024 : Int32) - (eb_I h s_flights 5)) + x1)) → (vp_in (((1024 : Int32) - (eb_I h s_flights 5)) + x1) 1024) ∧ Q (some (.int (eb_I h s_flights_trace (((1024 : Int32) - (eb_I h s_flights 5)) + x1).toNatClampNeg))) h))))) : eb_Sn d m_X1_traced h0 0 [(0, .ref s_flights), (1, .int x1)] [] h Q := by
  refine eb_sipush (pc := 0) (n := 1024) (v := 1024) rfl rfl ?_
  refine eb_aload_n (pc := 3) (n := 0) (i := 0) rfl rfl rfl ?_
  refine eb_getI (pc := 4) rfl rfl (by decide) (by decide) rfl ?_
  refine eb_isub (pc := 7) rfl ?_
  refine eb_iload_n (pc := 8) (n := 1) (i := 1) rfl rfl rfl ?_
  refine eb_iadd (pc := 9) rfl ?_
  refine eb_istore_n (pc := 10) (n := 2) (i := 2) (ls2 := [(2, .int (((1024 : Int32) - (eb_I h s_flights 5)) + x1)), (0, .ref s_flights), (1, .int x1)]) rfl (Nat.le_of_ble_eq_true rfl) rfl rfl ?_
  refine eb_iload_n (pc := 11) (n := 2) (i := 2) rfl rfl rfl ?_
  refine eb_if_lt (pc := 12) (tgt := 31) rfl (by decide) (fun c1 => ?_) (fun c1 => ?_)
  · replace w := w.1 c1
    refine eb_iconst (pc := 31) (n := -1) (v := (-1)) rfl rfl ?_
    exact eb_ireturn (pc := 32) rfl rfl rfl w
  · replace w := w.2 c1
    refine eb_iload_n (pc := 15) (n := 2) (i := 2) rfl rfl rfl ?_
    refine eb_sipush (pc := 16) (n := 1024) (v := 1024) rfl rfl ?_
    refine eb_icmp_ge (pc := 19) (tgt := 31) rfl (by decide) (fun c2 => ?_) (fun c2 => ?_)
    · replace w := w.1 c2
      refine eb_iconst (pc := 31) (n := -1) (v := (-1)) rfl rfl ?_
      exact eb_ireturn (pc := 32) rfl rfl rfl w
    · replace w := w.2 c2
      refine eb_aload_n (pc := 22) (n := 0) (i := 0) rfl rfl rfl ?_
      refine eb_getR (pc := 23) rfl rfl (by decide) (by decide) rfl (ko_s_flights_9 ko) ?_
      refine eb_iload_n (pc := 26) (n := 2) (i := 2) rfl rfl rfl ?_
      obtain ⟨c3, w⟩ := w
      refine eb_baload (pc := 27) rfl rfl c3 ?_
      refine eb_goto (pc := 28) (tgt := 32) rfl (by decide) ?_
      exact eb_ireturn (pc := 32) rfl rfl rfl w
theorem T_X1_traced {d : Nat} {h : eb_H} {Q : Option Value → eb_H → Prop} (x1 : Int32)  (ko : eb_KO h) (w : (((((1024 : Int32) - (eb_I h s_flights 5)) + x1) < 0 → Q (some (.int (-1))) h) ∧ (¬ ((((1024 : Int32) - (eb_I h s_flights 5)) + x1) < 0) → (((1024 : Int32) ≤ (((1024 : Int32) - (eb_I h s_flights 5)) + x1) → Q (some (.int (-1))) h) ∧ (¬ ((1024 : Int32) ≤ (((1024 : Int32) - (eb_I h s_flights 5)) + x1)) → (vp_in (((1024 : Int32) - (eb_I h s_flights 5)) + x1) 1024) ∧ Q (some (.int (eb_I h s_flights_trace (((1024 : Int32) - (eb_I h s_flights 5)) + x1).toNatClampNeg))) h))))) : eb_Ct d 15 [.ref s_flights, .int x1] h Q :=
  eb_bodyQ (by decide) ok_X1_traced (Nat.le_of_ble_eq_true rfl) (b_X1_traced_0 (h0 := h) x1  ko w)
theorem b_X1_setsAt_0 {d : Nat} {h0 h : eb_H} {Q : Option Value → eb_H → Prop} (x1 : Int32)  (ko : eb_KO h) (w : eb_Sn (d + 1) m_X1_setsAt h0 5 [(0, .ref s_flights), (1, .int x1), (2, .long 0), (4, .int 0)] [] h Q) : eb_Sn (d + 1) m_X1_setsAt h0 0 [(0, .ref s_flights), (1, .int x1)] [] h Q := by
  refine eb_lconst (pc := 0) (n := 0) (v := 0) rfl rfl ?_
  refine eb_lstore_n (pc := 1) (n := 2) (i := 2) (ls2 := [(2, .long 0), (0, .ref s_flights), (1, .int x1)]) rfl (Nat.le_of_ble_eq_true rfl) rfl rfl ?_
  refine eb_iconst (pc := 2) (n := 0) (v := 0) rfl rfl ?_
  refine eb_istore (pc := 3) (i := 4) (ls2 := [(4, .int 0), (2, .long 0), (0, .ref s_flights), (1, .int x1)]) (Nat.le_of_ble_eq_true rfl) rfl rfl ?_
  exact eb_pick [2, 3, 1, 0] rfl w
theorem b_X1_setsAt_5 {d : Nat} {h0 h : eb_H} {Q : Option Value → eb_H → Prop} (x1 : Int32) (x2 : Int64) (x4 : Int32)  (ko : eb_KO h) (w : (((eb_I h s_flights 4) ≤ x4 → Q (some (.long x2)) h) ∧ (¬ ((eb_I h s_flights 4) ≤ x4) → (((1024 : Int32) ≤ x4 → Q (some (.long x2)) h) ∧ (¬ ((1024 : Int32) ≤ x4) → (vp_in x4 1024) ∧ ((¬ ((eb_I h s_flights_order x4.toNatClampNeg) &&& 15) = x1 → eb_Sn (d + 1) m_X1_setsAt h0 5 [(0, .ref s_flights), (1, .int x1), (2, .long x2), (4, .int (x4 + 1))] [] h Q) ∧ (((eb_I h s_flights_order x4.toNatClampNeg) &&& 15) = x1 → (vp_in x4 1024) ∧ eb_Sn (d + 1) m_X1_setsAt h0 5 [(0, .ref s_flights), (1, .int x1), (2, .long (x2 ||| ((1 : Int64) <<< (((eb_I h s_flights_order x4.toNatClampNeg) >>> ((4 : Int32) &&& 31)).toInt64 &&& 63)))), (4, .int (x4 + 1))] [] h Q))))))) : eb_Sn (d + 1) m_X1_setsAt h0 5 [(0, .ref s_flights), (1, .int x1), (2, .long x2), (4, .int x4)] [] h Q := by
  refine eb_iload (pc := 5) (i := 4) rfl rfl ?_
  refine eb_aload_n (pc := 7) (n := 0) (i := 0) rfl rfl rfl ?_
  refine eb_getI (pc := 8) rfl rfl (by decide) (by decide) rfl ?_
  refine eb_icmp_ge (pc := 11) (tgt := 57) rfl (by decide) (fun c1 => ?_) (fun c1 => ?_)
  · replace w := w.1 c1
    refine eb_lload_n (pc := 57) (n := 2) (i := 2) rfl rfl rfl ?_
    exact eb_lreturn (pc := 58) rfl rfl w
  · replace w := w.2 c1
    refine eb_iload (pc := 14) (i := 4) rfl rfl ?_
    refine eb_sipush (pc := 16) (n := 1024) (v := 1024) rfl rfl ?_
    refine eb_icmp_ge (pc := 19) (tgt := 57) rfl (by decide) (fun c2 => ?_) (fun c2 => ?_)
    · replace w := w.1 c2
      refine eb_lload_n (pc := 57) (n := 2) (i := 2) rfl rfl rfl ?_
      exact eb_lreturn (pc := 58) rfl rfl w
    · replace w := w.2 c2
      refine eb_aload_n (pc := 22) (n := 0) (i := 0) rfl rfl rfl ?_
      refine eb_getR (pc := 23) rfl rfl (by decide) (by decide) rfl (ko_s_flights_7 ko) ?_
      refine eb_iload (pc := 26) (i := 4) rfl rfl ?_
      obtain ⟨c3, w⟩ := w
      refine eb_iaload (pc := 28) rfl rfl (by decide) c3 ?_
      refine eb_ctS (pc := 29) (As := [.int (eb_I h s_flights_order x4.toNatClampNeg)]) (rest := []) rfl (by decide) (by decide) rfl rfl (Nat.le_of_ble_eq_true rfl) ?_
      refine eb_bodyQ (by decide) ok_X1_cellOf (Nat.le_of_ble_eq_true rfl) ?_
      change eb_Sn _ m_X1_cellOf _ 0 [(0, .int (eb_I h s_flights_order x4.toNatClampNeg))] [] _ _
      refine eb_iload_n (pc := 0) (n := 0) (i := 0) rfl rfl rfl ?_
      refine eb_bipush (pc := 1) (n := 15) (v := 15) rfl rfl ?_
      refine eb_iand (pc := 3) rfl ?_
      refine eb_ireturn (pc := 4) rfl rfl rfl ?_
      change eb_Sn _ _ _ 32 _ [.int ((eb_I h s_flights_order x4.toNatClampNeg) &&& 15)] _ _
      refine eb_iload_n (pc := 32) (n := 1) (i := 1) rfl rfl rfl ?_
      refine eb_icmp_ne (pc := 33) (tgt := 51) rfl (by decide) (fun c4 => ?_) (fun c4 => ?_)
      · replace w := w.1 c4
        refine eb_iinc (pc := 51) (i := 4) (n := 1) (v := x4 + 1) (ls2 := [(4, .int (x4 + 1)), (0, .ref s_flights), (1, .int x1), (2, .long x2)]) (Nat.le_of_ble_eq_true rfl) rfl rfl rfl rfl ?_
        refine eb_goto (pc := 54) (tgt := 5) rfl (by decide) ?_
        exact eb_pick [1, 2, 3, 0] rfl w
      · replace w := w.2 c4
        refine eb_lload_n (pc := 36) (n := 2) (i := 2) rfl rfl rfl ?_
        refine eb_lconst (pc := 37) (n := 1) (v := 1) rfl rfl ?_
        refine eb_aload_n (pc := 38) (n := 0) (i := 0) rfl rfl rfl ?_
        refine eb_getR (pc := 39) rfl rfl (by decide) (by decide) rfl (ko_s_flights_7 ko) ?_
        refine eb_iload (pc := 42) (i := 4) rfl rfl ?_
        obtain ⟨c5, w⟩ := w
        refine eb_iaload (pc := 44) rfl rfl (by decide) c5 ?_
        refine eb_ctS (pc := 45) (As := [.int (eb_I h s_flights_order x4.toNatClampNeg)]) (rest := [.long 1, .long x2]) rfl (by decide) (by decide) rfl rfl (Nat.le_of_ble_eq_true rfl) ?_
        refine eb_bodyQ (by decide) ok_X1_setOf (Nat.le_of_ble_eq_true rfl) ?_
        change eb_Sn _ m_X1_setOf _ 0 [(0, .int (eb_I h s_flights_order x4.toNatClampNeg))] [] _ _
        refine eb_iload_n (pc := 0) (n := 0) (i := 0) rfl rfl rfl ?_
        refine eb_iconst (pc := 1) (n := 4) (v := 4) rfl rfl ?_
        refine eb_ishr (pc := 2) rfl ?_
        refine eb_ireturn (pc := 3) rfl rfl rfl ?_
        change eb_Sn _ _ _ 48 _ [.int ((eb_I h s_flights_order x4.toNatClampNeg) >>> ((4 : Int32) &&& 31)), .long 1, .long x2] _ _
        refine eb_lshl (pc := 48) rfl ?_
        refine eb_lor (pc := 49) rfl ?_
        refine eb_lstore_n (pc := 50) (n := 2) (i := 2) (ls2 := [(2, .long (x2 ||| ((1 : Int64) <<< (((eb_I h s_flights_order x4.toNatClampNeg) >>> ((4 : Int32) &&& 31)).toInt64 &&& 63)))), (0, .ref s_flights), (1, .int x1), (4, .int x4)]) rfl (Nat.le_of_ble_eq_true rfl) rfl rfl ?_
        refine eb_iinc (pc := 51) (i := 4) (n := 1) (v := x4 + 1) (ls2 := [(4, .int (x4 + 1)), (2, .long (x2 ||| ((1 : Int64) <<< (((eb_I h s_flights_order x4.toNatClampNeg) >>> ((4 : Int32) &&& 31)).toInt64 &&& 63)))), (0, .ref s_flights), (1, .int x1)]) (Nat.le_of_ble_eq_true rfl) rfl rfl rfl rfl ?_
        refine eb_goto (pc := 54) (tgt := 5) rfl (by decide) ?_
        exact eb_pick [2, 3, 1, 0] rfl w
theorem T_X1_setsAt {d : Nat} {h : eb_H} {Q : Option Value → eb_H → Prop} (x1 : Int32)  (ko : eb_KO h) (w : eb_Sn (d + 1) m_X1_setsAt h 5 [(0, .ref s_flights), (1, .int x1), (2, .long 0), (4, .int 0)] [] h Q) : eb_Ct (d + 1) 16 [.ref s_flights, .int x1] h Q :=
  eb_bodyQ (by decide) ok_X1_setsAt (Nat.le_of_ble_eq_true rfl) (b_X1_setsAt_0 (h0 := h) x1  ko w)
theorem b_X1_echoesAnywhere_0 {d : Nat} {h0 h : eb_H} {Q : Option Value → eb_H → Prop}   (ko : eb_KO h) (w : eb_Sn (d + 1) m_X1_echoesAnywhere h0 4 [(0, .ref s_flights), (1, .int 0), (2, .int 0)] [] h Q) : eb_Sn (d + 1) m_X1_echoesAnywhere h0 0 [(0, .ref s_flights)] [] h Q := by
  refine eb_iconst (pc := 0) (n := 0) (v := 0) rfl rfl ?_
  refine eb_istore_n (pc := 1) (n := 1) (i := 1) (ls2 := [(1, .int 0), (0, .ref s_flights)]) rfl (Nat.le_of_ble_eq_true rfl) rfl rfl ?_
  refine eb_iconst (pc := 2) (n := 0) (v := 0) rfl rfl ?_
  refine eb_istore_n (pc := 3) (n := 2) (i := 2) (ls2 := [(2, .int 0), (1, .int 0), (0, .ref s_flights)]) rfl (Nat.le_of_ble_eq_true rfl) rfl rfl ?_
  exact eb_pick [2, 1, 0] rfl w
theorem b_X1_echoesAnywhere_4 {d : Nat} {h0 h : eb_H} {Q : Option Value → eb_H → Prop} (x1 : Int32) (x2 : Int32)  (ko : eb_KO h) (w : (((eb_I h s_flights 4) ≤ x2 → Q (some (.int x1)) h) ∧ (¬ ((eb_I h s_flights 4) ≤ x2) → (((1024 : Int32) ≤ x2 → Q (some (.int x1)) h) ∧ (¬ ((1024 : Int32) ≤ x2) → (vp_in x2 1024) ∧ eb_Sn (d + 1) m_X1_echoesAnywhere h0 4 [(0, .ref s_flights), (1, .int (x1 ||| ((eb_I h s_flights_order x2.toNatClampNeg) >>> ((4 : Int32) &&& 31)))), (2, .int (x2 + 1))] [] h Q))))) : eb_Sn (d + 1) m_X1_echoesAnywhere h0 4 [(0, .ref s_flights), (1, .int x1), (2, .int x2)] [] h Q := by
  refine eb_iload_n (pc := 4) (n := 2) (i := 2) rfl rfl rfl ?_
  refine eb_aload_n (pc := 5) (n := 0) (i := 0) rfl rfl rfl ?_
  refine eb_getI (pc := 6) rfl rfl (by decide) (by decide) rfl ?_
  refine eb_icmp_ge (pc := 9) (tgt := 37) rfl (by decide) (fun c1 => ?_) (fun c1 => ?_)
  · replace w := w.1 c1
    refine eb_iload_n (pc := 37) (n := 1) (i := 1) rfl rfl rfl ?_
    exact eb_ireturn (pc := 38) rfl rfl rfl w
  · replace w := w.2 c1
    refine eb_iload_n (pc := 12) (n := 2) (i := 2) rfl rfl rfl ?_
    refine eb_sipush (pc := 13) (n := 1024) (v := 1024) rfl rfl ?_
    refine eb_icmp_ge (pc := 16) (tgt := 37) rfl (by decide) (fun c2 => ?_) (fun c2 => ?_)
    · replace w := w.1 c2
      refine eb_iload_n (pc := 37) (n := 1) (i := 1) rfl rfl rfl ?_
      exact eb_ireturn (pc := 38) rfl rfl rfl w
    · replace w := w.2 c2
      refine eb_iload_n (pc := 19) (n := 1) (i := 1) rfl rfl rfl ?_
      refine eb_aload_n (pc := 20) (n := 0) (i := 0) rfl rfl rfl ?_
      refine eb_getR (pc := 21) rfl rfl (by decide) (by decide) rfl (ko_s_flights_7 ko) ?_
      refine eb_iload_n (pc := 24) (n := 2) (i := 2) rfl rfl rfl ?_
      obtain ⟨c3, w⟩ := w
      refine eb_iaload (pc := 25) rfl rfl (by decide) c3 ?_
      refine eb_ctS (pc := 26) (As := [.int (eb_I h s_flights_order x2.toNatClampNeg)]) (rest := [.int x1]) rfl (by decide) (by decide) rfl rfl (Nat.le_of_ble_eq_true rfl) ?_
      refine eb_bodyQ (by decide) ok_X1_setOf (Nat.le_of_ble_eq_true rfl) ?_
      change eb_Sn _ m_X1_setOf _ 0 [(0, .int (eb_I h s_flights_order x2.toNatClampNeg))] [] _ _
      refine eb_iload_n (pc := 0) (n := 0) (i := 0) rfl rfl rfl ?_
      refine eb_iconst (pc := 1) (n := 4) (v := 4) rfl rfl ?_
      refine eb_ishr (pc := 2) rfl ?_
      refine eb_ireturn (pc := 3) rfl rfl rfl ?_
      change eb_Sn _ _ _ 29 _ [.int ((eb_I h s_flights_order x2.toNatClampNeg) >>> ((4 : Int32) &&& 31)), .int x1] _ _
      refine eb_ior (pc := 29) rfl ?_
      refine eb_istore_n (pc := 30) (n := 1) (i := 1) (ls2 := [(1, .int (x1 ||| ((eb_I h s_flights_order x2.toNatClampNeg) >>> ((4 : Int32) &&& 31)))), (0, .ref s_flights), (2, .int x2)]) rfl (Nat.le_of_ble_eq_true rfl) rfl rfl ?_
      refine eb_iinc (pc := 31) (i := 2) (n := 1) (v := x2 + 1) (ls2 := [(2, .int (x2 + 1)), (1, .int (x1 ||| ((eb_I h s_flights_order x2.toNatClampNeg) >>> ((4 : Int32) &&& 31)))), (0, .ref s_flights)]) (Nat.le_of_ble_eq_true rfl) rfl rfl rfl rfl ?_
      refine eb_goto (pc := 34) (tgt := 4) rfl (by decide) ?_
      exact eb_pick [2, 1, 0] rfl w
theorem T_X1_echoesAnywhere {d : Nat} {h : eb_H} {Q : Option Value → eb_H → Prop}   (ko : eb_KO h) (w : eb_Sn (d + 1) m_X1_echoesAnywhere h 4 [(0, .ref s_flights), (1, .int 0), (2, .int 0)] [] h Q) : eb_Ct (d + 1) 17 [.ref s_flights] h Q :=
  eb_bodyQ (by decide) ok_X1_echoesAnywhere (Nat.le_of_ble_eq_true rfl) (b_X1_echoesAnywhere_0 (h0 := h)   ko w)
theorem b_X1_flyAll_0 {d : Nat} {h0 h : eb_H} {Q : Option Value → eb_H → Prop} (a1 : Nat) (a2 : Nat) (x3 : Int32) (x4 : Int32) (ka1 : eb_kd a1 = 9) (ka2 : eb_kd a2 = 6) (ko : eb_KO h) (w : eb_Ct (d + 1) 8 [.ref s_flights, .ref a1, .ref a2] h (fun r h1 => r = none ∧ eb_KO h1 ∧ ∃ r8, eb_R h1 s_flights 10 = some r8 ∧ eb_kd r8 = 14 ∧ eb_Ct (d + 1) 300 [.ref r8, .long (if x4 = (2 : Int32) then (-1) else (if x4 = (3 : Int32) then (-1) else 0) : Int64)] h1 (fun r h11 => r = none ∧ eb_KO h11 ∧ ∃ r14, eb_R h11 s_flights 10 = some r14 ∧ eb_kd r14 = 14 ∧ (vp_in (if (¬ ((((16 : Int32) * (eb_I h11 s_flights_state 1)) + (eb_I h11 s_flights_state 0)) < 0)) ∧ (¬ ((1024 : Int32) ≤ (((16 : Int32) * (eb_I h11 s_flights_state 1)) + (eb_I h11 s_flights_state 0)))) then ((16 : Int32) * (eb_I h11 s_flights_state 1)) + (eb_I h11 s_flights_state 0) else 0 : Int32) (eb_ln r14)) ∧ eb_Sn (d + 2) m_X1_flyAll h0 65 [(0, .ref s_flights), (3, .int x3), (4, .int x4), (5, .long (if x4 = (2 : Int32) then (-1) else (if x4 = (3 : Int32) then (-1) else 0) : Int64)), (7, .int 0)] [] (eb_sJ h11 r14 (if (¬ ((((16 : Int32) * (eb_I h11 s_flights_state 1)) + (eb_I h11 s_flights_state 0)) < 0)) ∧ (¬ ((1024 : Int32) ≤ (((16 : Int32) * (eb_I h11 s_flights_state 1)) + (eb_I h11 s_flights_state 0)))) then ((16 : Int32) * (eb_I h11 s_flights_state 1)) + (eb_I h11 s_flights_state 0) else 0 : Int32).toNatClampNeg (if x4 = (2 : Int32) then 0 else (if x4 = (3 : Int32) then 0 else 1) : Int64)) Q))) : eb_Sn (d + 2) m_X1_flyAll h0 0 [(0, .ref s_flights), (1, .ref a1), (2, .ref a2), (3, .int x3), (4, .int x4)] [] h Q := by
  refine eb_aload_n (pc := 0) (n := 0) (i := 0) rfl rfl rfl ?_
  refine eb_aload_n (pc := 1) (n := 1) (i := 1) rfl rfl rfl ?_
  refine eb_aload_n (pc := 2) (n := 2) (i := 2) rfl rfl rfl ?_
  refine eb_ctV (pc := 3) (As := [.ref a1, .ref a2]) (rest := []) rfl (by decide) rfl rfl (by decide) rfl (Nat.le_of_ble_eq_true rfl) ?_
  refine eb_Ct.mono w ?_
  rintro r h1 ⟨rfl, ko3, w⟩
  change eb_Sn _ _ _ 6 _ [] _ _
  refine eb_iload (pc := 6) (i := 4) rfl rfl ?_
  refine eb_iconst (pc := 8) (n := 2) (v := 2) rfl rfl ?_
  refine eb_joinL (pc2 := 25) (ls2 := [(0, .ref s_flights), (1, .ref a1), (2, .ref a2), (3, .int x3), (4, .int x4)]) (st2 := []) (v := (if x4 = (2 : Int32) then (-1) else (if x4 = (3 : Int32) then (-1) else 0) : Int64)) ?_ (fun jj6 => ?_)
  · refine eb_lstore (pc := 25) (i := 5) (ls2 := [(5, .long (if x4 = (2 : Int32) then (-1) else (if x4 = (3 : Int32) then (-1) else 0) : Int64)), (0, .ref s_flights), (1, .ref a1), (2, .ref a2), (3, .int x3), (4, .int x4)]) (Nat.le_of_ble_eq_true rfl) rfl rfl ?_
    refine eb_aload_n (pc := 27) (n := 0) (i := 0) rfl rfl rfl ?_
    obtain ⟨r8, q9, k10, w⟩ := w
    refine eb_getR (pc := 28) rfl rfl (by decide) (by decide) rfl q9 ?_
    refine eb_lload (pc := 31) (i := 5) rfl rfl ?_
    refine eb_ctS (pc := 33) (As := [.ref r8, .long (if x4 = (2 : Int32) then (-1) else (if x4 = (3 : Int32) then (-1) else 0) : Int64)]) (rest := []) rfl (by decide) (by decide) rfl rfl (Nat.le_of_ble_eq_true rfl) ?_
    refine eb_Ct.mono w ?_
    rintro r h11 ⟨rfl, ko13, w⟩
    change eb_Sn _ _ _ 36 _ [] _ _
    refine eb_aload_n (pc := 36) (n := 0) (i := 0) rfl rfl rfl ?_
    obtain ⟨r14, q15, k16, w⟩ := w
    refine eb_getR (pc := 37) rfl rfl (by decide) (by decide) rfl q15 ?_
    refine eb_aload_n (pc := 40) (n := 0) (i := 0) rfl rfl rfl ?_
    refine eb_ctV (pc := 41) (As := []) (rest := [.ref r14]) rfl (by decide) rfl rfl (by decide) rfl (Nat.le_of_ble_eq_true rfl) ?_
    refine eb_bodyQ (by decide) ok_X1_startCode (Nat.le_of_ble_eq_true rfl) ?_
    change eb_Sn _ m_X1_startCode _ 0 [(0, .ref s_flights)] [] _ _
    refine eb_aload_n (pc := 0) (n := 0) (i := 0) rfl rfl rfl ?_
    refine eb_getR (pc := 1) rfl rfl (by decide) (by decide) rfl (ko_s_flights_1 ko13) ?_
    refine eb_getI (pc := 4) rfl rfl (by decide) (by decide) rfl ?_
    refine eb_aload_n (pc := 7) (n := 0) (i := 0) rfl rfl rfl ?_
    refine eb_getR (pc := 8) rfl rfl (by decide) (by decide) rfl (ko_s_flights_1 ko13) ?_
    refine eb_getI (pc := 11) rfl rfl (by decide) (by decide) rfl ?_
    refine eb_ctS (pc := 14) (As := [.int (eb_I h11 s_flights_state 0), .int (eb_I h11 s_flights_state 1)]) (rest := []) rfl (by decide) (by decide) rfl rfl (Nat.le_of_ble_eq_true rfl) ?_
    refine eb_bodyQ (by decide) ok_X1_codeOf (Nat.le_of_ble_eq_true rfl) ?_
    change eb_Sn _ m_X1_codeOf _ 0 [(0, .int (eb_I h11 s_flights_state 0)), (1, .int (eb_I h11 s_flights_state 1))] [] _ _
    refine eb_bipush (pc := 0) (n := 16) (v := 16) rfl rfl ?_
    refine eb_iload_n (pc := 2) (n := 1) (i := 1) rfl rfl rfl ?_
    refine eb_imul (pc := 3) rfl ?_
    refine eb_iload_n (pc := 4) (n := 0) (i := 0) rfl rfl rfl ?_
    refine eb_iadd (pc := 5) rfl ?_
    refine eb_ireturn (pc := 6) rfl rfl rfl ?_
    change eb_Sn _ _ _ 17 _ [.int (((16 : Int32) * (eb_I h11 s_flights_state 1)) + (eb_I h11 s_flights_state 0))] _ _
    refine eb_istore_n (pc := 17) (n := 1) (i := 1) (ls2 := [(1, .int (((16 : Int32) * (eb_I h11 s_flights_state 1)) + (eb_I h11 s_flights_state 0))), (0, .ref s_flights)]) rfl (Nat.le_of_ble_eq_true rfl) rfl rfl ?_
    refine eb_iload_n (pc := 18) (n := 1) (i := 1) rfl rfl rfl ?_
    refine eb_joinI (pc2 := 22) (ls2 := [(1, .int (((16 : Int32) * (eb_I h11 s_flights_state 1)) + (eb_I h11 s_flights_state 0))), (0, .ref s_flights)]) (st2 := []) (v := eb_q ((¬ ((((16 : Int32) * (eb_I h11 s_flights_state 1)) + (eb_I h11 s_flights_state 0)) < 0)) ∧ (¬ ((1024 : Int32) ≤ (((16 : Int32) * (eb_I h11 s_flights_state 1)) + (eb_I h11 s_flights_state 0)))))) ?_ (fun jj22 => ?_)
    · refine eb_joinI (pc2 := 30) (ls2 := [(1, .int (((16 : Int32) * (eb_I h11 s_flights_state 1)) + (eb_I h11 s_flights_state 0))), (0, .ref s_flights)]) (st2 := []) (v := (if (¬ ((((16 : Int32) * (eb_I h11 s_flights_state 1)) + (eb_I h11 s_flights_state 0)) < 0)) ∧ (¬ ((1024 : Int32) ≤ (((16 : Int32) * (eb_I h11 s_flights_state 1)) + (eb_I h11 s_flights_state 0)))) then ((16 : Int32) * (eb_I h11 s_flights_state 1)) + (eb_I h11 s_flights_state 0) else 0 : Int32)) ?_ (fun jj20 => ?_)
      · refine eb_ireturn (pc := 30) rfl rfl rfl ?_
        change eb_Sn _ _ _ 44 _ [.int (if (¬ ((((16 : Int32) * (eb_I h11 s_flights_state 1)) + (eb_I h11 s_flights_state 0)) < 0)) ∧ (¬ ((1024 : Int32) ≤ (((16 : Int32) * (eb_I h11 s_flights_state 1)) + (eb_I h11 s_flights_state 0)))) then ((16 : Int32) * (eb_I h11 s_flights_state 1)) + (eb_I h11 s_flights_state 0) else 0 : Int32), .ref r14] _ _
        refine eb_iload (pc := 44) (i := 4) rfl rfl ?_
        refine eb_iconst (pc := 46) (n := 2) (v := 2) rfl rfl ?_
        refine eb_joinL (pc2 := 61) (ls2 := [(5, .long (if x4 = (2 : Int32) then (-1) else (if x4 = (3 : Int32) then (-1) else 0) : Int64)), (0, .ref s_flights), (1, .ref a1), (2, .ref a2), (3, .int x3), (4, .int x4)]) (st2 := [.int (if (¬ ((((16 : Int32) * (eb_I h11 s_flights_state 1)) + (eb_I h11 s_flights_state 0)) < 0)) ∧ (¬ ((1024 : Int32) ≤ (((16 : Int32) * (eb_I h11 s_flights_state 1)) + (eb_I h11 s_flights_state 0)))) then ((16 : Int32) * (eb_I h11 s_flights_state 1)) + (eb_I h11 s_flights_state 0) else 0 : Int32), .ref r14]) (v := (if x4 = (2 : Int32) then 0 else (if x4 = (3 : Int32) then 0 else 1) : Int64)) ?_ (fun jj26 => ?_)
        · obtain ⟨c28, w⟩ := w
          refine eb_lastore (pc := 61) rfl k16 c28 ?_
          refine eb_iconst (pc := 62) (n := 0) (v := 0) rfl rfl ?_
          refine eb_istore (pc := 63) (i := 7) (ls2 := [(7, .int 0), (5, .long (if x4 = (2 : Int32) then (-1) else (if x4 = (3 : Int32) then (-1) else 0) : Int64)), (0, .ref s_flights), (1, .ref a1), (2, .ref a2), (3, .int x3), (4, .int x4)]) (Nat.le_of_ble_eq_true rfl) rfl rfl ?_
          exact eb_pick [2, 5, 6, 1, 0] rfl w
        refine eb_icmp_eq (pc := 47) (tgt := 56) rfl (by decide) (fun c24 => ?_) (fun c24 => ?_)
        · refine eb_lconst (pc := 56) (n := 0) (v := 0) rfl rfl ?_
          refine eb_goto (pc := 57) (tgt := 61) rfl (by decide) ?_
          exact jj26 _ (by simp only [if_pos c24])
        · refine eb_iload (pc := 50) (i := 4) rfl rfl ?_
          refine eb_iconst (pc := 52) (n := 3) (v := 3) rfl rfl ?_
          refine eb_icmp_ne (pc := 53) (tgt := 60) rfl (by decide) (fun c25 => ?_) (fun c25 => ?_)
          · refine eb_lconst (pc := 60) (n := 1) (v := 1) rfl rfl ?_
            exact jj26 _ (by simp only [if_neg c24, if_neg c25])
          · refine eb_lconst (pc := 56) (n := 0) (v := 0) rfl rfl ?_
            refine eb_goto (pc := 57) (tgt := 61) rfl (by decide) ?_
            exact jj26 _ (by simp only [if_neg c24, if_pos c25])
      refine eb_if_eq (pc := 22) (tgt := 29) rfl (by decide) (fun c19 => ?_) (fun c19 => ?_)
      · replace c19 := eb_q0.mp c19
        refine eb_iconst (pc := 29) (n := 0) (v := 0) rfl rfl ?_
        exact jj20 _ (by simp only [if_neg c19])
      · replace c19 := eb_q1.mp c19
        refine eb_iload_n (pc := 25) (n := 1) (i := 1) rfl rfl rfl ?_
        refine eb_goto (pc := 26) (tgt := 30) rfl (by decide) ?_
        exact jj20 _ (by simp only [if_pos c19])
    refine eb_ctS (pc := 19) (As := [.int (((16 : Int32) * (eb_I h11 s_flights_state 1)) + (eb_I h11 s_flights_state 0))]) (rest := []) rfl (by decide) (by decide) rfl rfl (Nat.le_of_ble_eq_true rfl) ?_
    refine eb_bodyQ (by decide) ok_X1_isCode (Nat.le_of_ble_eq_true rfl) ?_
    change eb_Sn _ m_X1_isCode _ 0 [(0, .int (((16 : Int32) * (eb_I h11 s_flights_state 1)) + (eb_I h11 s_flights_state 0)))] [] _ _
    refine eb_iload_n (pc := 0) (n := 0) (i := 0) rfl rfl rfl ?_
    refine eb_if_lt (pc := 1) (tgt := 15) rfl (by decide) (fun c17 => ?_) (fun c17 => ?_)
    · refine eb_iconst (pc := 15) (n := 0) (v := 0) rfl rfl ?_
      refine eb_ireturn (pc := 16) rfl rfl (by decide) ?_
      change eb_Sn _ _ _ 22 _ _ _ _
      exact jj22 0 (eb_qf (fun z => z.1 c17)).symm
    · refine eb_iload_n (pc := 4) (n := 0) (i := 0) rfl rfl rfl ?_
      refine eb_sipush (pc := 5) (n := 1024) (v := 1024) rfl rfl ?_
      refine eb_icmp_ge (pc := 8) (tgt := 15) rfl (by decide) (fun c18 => ?_) (fun c18 => ?_)
      · refine eb_iconst (pc := 15) (n := 0) (v := 0) rfl rfl ?_
        refine eb_ireturn (pc := 16) rfl rfl (by decide) ?_
        change eb_Sn _ _ _ 22 _ _ _ _
        exact jj22 0 (eb_qf (fun z => (fun z => z c18) z.2)).symm
      · refine eb_iconst (pc := 11) (n := 1) (v := 1) rfl rfl ?_
        refine eb_goto (pc := 12) (tgt := 16) rfl (by decide) ?_
        refine eb_ireturn (pc := 16) rfl rfl (by decide) ?_
        change eb_Sn _ _ _ 22 _ _ _ _
        exact jj22 1 (eb_qt (⟨c17, c18⟩)).symm
  refine eb_icmp_eq (pc := 9) (tgt := 18) rfl (by decide) (fun c4 => ?_) (fun c4 => ?_)
  · refine eb_ldc2 (pc := 18) (a := 18446744073709551615) (v := (-1)) rfl (by decide) ?_
    refine eb_goto (pc := 21) (tgt := 25) rfl (by decide) ?_
    exact jj6 _ (by simp only [if_pos c4])
  · refine eb_iload (pc := 12) (i := 4) rfl rfl ?_
    refine eb_iconst (pc := 14) (n := 3) (v := 3) rfl rfl ?_
    refine eb_icmp_ne (pc := 15) (tgt := 24) rfl (by decide) (fun c5 => ?_) (fun c5 => ?_)
    · refine eb_lconst (pc := 24) (n := 0) (v := 0) rfl rfl ?_
      exact jj6 _ (by simp only [if_neg c4, if_neg c5])
    · refine eb_ldc2 (pc := 18) (a := 18446744073709551615) (v := (-1)) rfl (by decide) ?_
      refine eb_goto (pc := 21) (tgt := 25) rfl (by decide) ?_
      exact jj6 _ (by simp only [if_neg c4, if_pos c5])
theorem b_X1_flyAll_65 {d : Nat} {h0 h : eb_H} {Q : Option Value → eb_H → Prop} (x3 : Int32) (x4 : Int32) (x5 : Int64) (x7 : Int32)  (ko : eb_KO h) (w : ((x3 ≤ x7 → Q none h) ∧ (¬ (x3 ≤ x7) → ∃ r2, eb_R h s_flights 11 = some r2 ∧ eb_kd r2 = 14 ∧ eb_Ct (d + 1) 300 [.ref r2, .long x5] h (fun r h5 => r = none ∧ eb_KO h5 ∧ eb_Sn (d + 2) m_X1_flyAll h0 83 [(0, .ref s_flights), (3, .int x3), (4, .int x4), (5, .long x5), (7, .int x7), (8, .int 0)] [] h5 Q)))) : eb_Sn (d + 2) m_X1_flyAll h0 65 [(0, .ref s_flights), (3, .int x3), (4, .int x4), (5, .long x5), (7, .int x7)] [] h Q := by
  refine eb_iload (pc := 65) (i := 7) rfl rfl ?_
  refine eb_iload_n (pc := 67) (n := 3) (i := 3) rfl rfl rfl ?_
  refine eb_icmp_ge (pc := 68) (tgt := 144) rfl (by decide) (fun c1 => ?_) (fun c1 => ?_)
  · replace w := w.1 c1
    exact eb_return (pc := 144) rfl rfl w
  · replace w := w.2 c1
    refine eb_aload_n (pc := 71) (n := 0) (i := 0) rfl rfl rfl ?_
    obtain ⟨r2, q3, k4, w⟩ := w
    refine eb_getR (pc := 72) rfl rfl (by decide) (by decide) rfl q3 ?_
    refine eb_lload (pc := 75) (i := 5) rfl rfl ?_
    refine eb_ctS (pc := 77) (As := [.ref r2, .long x5]) (rest := []) rfl (by decide) (by decide) rfl rfl (Nat.le_of_ble_eq_true rfl) ?_
    refine eb_Ct.mono w ?_
    rintro r h5 ⟨rfl, ko7, w⟩
    change eb_Sn _ _ _ 80 _ [] _ _
    refine eb_iconst (pc := 80) (n := 0) (v := 0) rfl rfl ?_
    refine eb_istore (pc := 81) (i := 8) (ls2 := [(8, .int 0), (0, .ref s_flights), (3, .int x3), (4, .int x4), (5, .long x5), (7, .int x7)]) (Nat.le_of_ble_eq_true rfl) rfl rfl ?_
    exact eb_pick [1, 2, 3, 4, 5, 0] rfl w
theorem b_X1_flyAll_83 {d : Nat} {h0 h : eb_H} {Q : Option Value → eb_H → Prop} (x3 : Int32) (x4 : Int32) (x5 : Int64) (x7 : Int32) (x8 : Int32)  (ko : eb_KO h) (w : (((1024 : Int32) ≤ x8 → ∃ r2, eb_R h s_flights 10 = some r2 ∧ eb_kd r2 = 14 ∧ ∃ r5, eb_R h s_flights 11 = some r5 ∧ eb_kd r5 = 14 ∧ eb_Sn (d + 2) m_X1_flyAll h0 65 [(0, .ref s_flights), (3, .int x3), (4, .int x4), (5, .long x5), (7, .int (x7 + 1))] [] (eb_sR (eb_sR h s_flights 10 (some r5)) s_flights 11 (some r2)) Q) ∧ (¬ ((1024 : Int32) ≤ x8) → ∃ r8, eb_R h s_flights 10 = some r8 ∧ eb_kd r8 = 14 ∧ (vp_in x8 (eb_ln r8)) ∧ (((eb_J h r8 x8.toNatClampNeg) = x5 → eb_Sn (d + 2) m_X1_flyAll h0 83 [(0, .ref s_flights), (3, .int x3), (4, .int x4), (5, .long x5), (7, .int x7), (8, .int (x8 + 1))] [] h Q) ∧ (¬ ((eb_J h r8 x8.toNatClampNeg) = x5) → eb_Ct (d + 1) 19 [.ref s_flights, .int x8, .int x4] h (fun r h13 => r = none ∧ eb_KO h13 ∧ eb_Sn (d + 2) m_X1_flyAll h0 83 [(0, .ref s_flights), (3, .int x3), (4, .int x4), (5, .long x5), (7, .int x7), (8, .int (x8 + 1))] [] h13 Q)))))) : eb_Sn (d + 2) m_X1_flyAll h0 83 [(0, .ref s_flights), (3, .int x3), (4, .int x4), (5, .long x5), (7, .int x7), (8, .int x8)] [] h Q := by
  refine eb_iload (pc := 83) (i := 8) rfl rfl ?_
  refine eb_sipush (pc := 85) (n := 1024) (v := 1024) rfl rfl ?_
  refine eb_icmp_ge (pc := 88) (tgt := 118) rfl (by decide) (fun c1 => ?_) (fun c1 => ?_)
  · replace w := w.1 c1
    refine eb_aload_n (pc := 118) (n := 0) (i := 0) rfl rfl rfl ?_
    obtain ⟨r2, q3, k4, w⟩ := w
    refine eb_getR (pc := 119) rfl rfl (by decide) (by decide) rfl q3 ?_
    refine eb_astore (pc := 122) (i := 8) (ls2 := [(8, .ref r2), (0, .ref s_flights), (3, .int x3), (4, .int x4), (5, .long x5), (7, .int x7)]) (Nat.le_of_ble_eq_true rfl) rfl rfl ?_
    refine eb_aload_n (pc := 124) (n := 0) (i := 0) rfl rfl rfl ?_
    refine eb_aload_n (pc := 125) (n := 0) (i := 0) rfl rfl rfl ?_
    obtain ⟨r5, q6, k7, w⟩ := w
    refine eb_getR (pc := 126) rfl rfl (by decide) (by decide) rfl q6 ?_
    refine eb_putR (pc := 129) rfl rfl (by decide) (by decide) rfl (Or.inl rfl) (eb_k20 (c := 14) k7 (by decide)) ?_
    refine eb_aload_n (pc := 132) (n := 0) (i := 0) rfl rfl rfl ?_
    refine eb_aload (pc := 133) (i := 8) rfl rfl ?_
    refine eb_putR (pc := 135) rfl rfl (by decide) (by decide) rfl (Or.inl rfl) (eb_k20 (c := 14) k4 (by decide)) ?_
    refine eb_iinc (pc := 138) (i := 7) (n := 1) (v := x7 + 1) (ls2 := [(7, .int (x7 + 1)), (8, .ref r2), (0, .ref s_flights), (3, .int x3), (4, .int x4), (5, .long x5)]) (Nat.le_of_ble_eq_true rfl) rfl rfl rfl rfl ?_
    refine eb_goto (pc := 141) (tgt := 65) rfl (by decide) ?_
    exact eb_pick [2, 3, 4, 5, 0] rfl w
  · replace w := w.2 c1
    refine eb_aload_n (pc := 91) (n := 0) (i := 0) rfl rfl rfl ?_
    obtain ⟨r8, q9, k10, w⟩ := w
    refine eb_getR (pc := 92) rfl rfl (by decide) (by decide) rfl q9 ?_
    refine eb_iload (pc := 95) (i := 8) rfl rfl ?_
    obtain ⟨c11, w⟩ := w
    refine eb_laload (pc := 97) rfl k10 c11 ?_
    refine eb_lload (pc := 98) (i := 5) rfl rfl ?_
    refine eb_lcmp (pc := 100) rfl ?_
    refine eb_if_eq (pc := 101) (tgt := 112) rfl (by decide) (fun c12 => ?_) (fun c12 => ?_)
    · replace c12 := eb_lc_eq.mp c12
      replace w := w.1 c12
      refine eb_iinc (pc := 112) (i := 8) (n := 1) (v := x8 + 1) (ls2 := [(8, .int (x8 + 1)), (0, .ref s_flights), (3, .int x3), (4, .int x4), (5, .long x5), (7, .int x7)]) (Nat.le_of_ble_eq_true rfl) rfl rfl rfl rfl ?_
      refine eb_goto (pc := 115) (tgt := 83) rfl (by decide) ?_
      exact eb_pick [1, 2, 3, 4, 5, 0] rfl w
    · replace c12 := (fun hh => mt eb_lc_eq.mpr hh) c12
      replace w := w.2 c12
      refine eb_aload_n (pc := 104) (n := 0) (i := 0) rfl rfl rfl ?_
      refine eb_iload (pc := 105) (i := 8) rfl rfl ?_
      refine eb_iload (pc := 107) (i := 4) rfl rfl ?_
      refine eb_ctV (pc := 109) (As := [.int x8, .int x4]) (rest := []) rfl (by decide) rfl rfl (by decide) rfl (Nat.le_of_ble_eq_true rfl) ?_
      refine eb_Ct.mono w ?_
      rintro r h13 ⟨rfl, ko15, w⟩
      change eb_Sn _ _ _ 112 _ [] _ _
      refine eb_iinc (pc := 112) (i := 8) (n := 1) (v := x8 + 1) (ls2 := [(8, .int (x8 + 1)), (0, .ref s_flights), (3, .int x3), (4, .int x4), (5, .long x5), (7, .int x7)]) (Nat.le_of_ble_eq_true rfl) rfl rfl rfl rfl ?_
      refine eb_goto (pc := 115) (tgt := 83) rfl (by decide) ?_
      exact eb_pick [1, 2, 3, 4, 5, 0] rfl w
theorem T_X1_flyAll {d : Nat} {h : eb_H} {Q : Option Value → eb_H → Prop} (a1 : Nat) (a2 : Nat) (x3 : Int32) (x4 : Int32) (ka1 : eb_kd a1 = 9) (ka2 : eb_kd a2 = 6) (ko : eb_KO h) (w : eb_Ct (d + 1) 8 [.ref s_flights, .ref a1, .ref a2] h (fun r h1 => r = none ∧ eb_KO h1 ∧ ∃ r8, eb_R h1 s_flights 10 = some r8 ∧ eb_kd r8 = 14 ∧ eb_Ct (d + 1) 300 [.ref r8, .long (if x4 = (2 : Int32) then (-1) else (if x4 = (3 : Int32) then (-1) else 0) : Int64)] h1 (fun r h11 => r = none ∧ eb_KO h11 ∧ ∃ r14, eb_R h11 s_flights 10 = some r14 ∧ eb_kd r14 = 14 ∧ (vp_in (if (¬ ((((16 : Int32) * (eb_I h11 s_flights_state 1)) + (eb_I h11 s_flights_state 0)) < 0)) ∧ (¬ ((1024 : Int32) ≤ (((16 : Int32) * (eb_I h11 s_flights_state 1)) + (eb_I h11 s_flights_state 0)))) then ((16 : Int32) * (eb_I h11 s_flights_state 1)) + (eb_I h11 s_flights_state 0) else 0 : Int32) (eb_ln r14)) ∧ eb_Sn (d + 2) m_X1_flyAll h 65 [(0, .ref s_flights), (3, .int x3), (4, .int x4), (5, .long (if x4 = (2 : Int32) then (-1) else (if x4 = (3 : Int32) then (-1) else 0) : Int64)), (7, .int 0)] [] (eb_sJ h11 r14 (if (¬ ((((16 : Int32) * (eb_I h11 s_flights_state 1)) + (eb_I h11 s_flights_state 0)) < 0)) ∧ (¬ ((1024 : Int32) ≤ (((16 : Int32) * (eb_I h11 s_flights_state 1)) + (eb_I h11 s_flights_state 0)))) then ((16 : Int32) * (eb_I h11 s_flights_state 1)) + (eb_I h11 s_flights_state 0) else 0 : Int32).toNatClampNeg (if x4 = (2 : Int32) then 0 else (if x4 = (3 : Int32) then 0 else 1) : Int64)) Q))) : eb_Ct (d + 2) 18 [.ref s_flights, .ref a1, .ref a2, .int x3, .int x4] h Q :=
  eb_bodyQ (by decide) ok_X1_flyAll (Nat.le_of_ble_eq_true rfl) (b_X1_flyAll_0 (h0 := h) a1 a2 x3 x4 ka1 ka2 ko w)
theorem b_X1_flyOn_0 {d : Nat} {h0 h : eb_H} {Q : Option Value → eb_H → Prop} (x1 : Int32) (x2 : Int32)  (ko : eb_KO h) (w : eb_Sn (d + 1) m_X1_flyOn h0 2 [(0, .ref s_flights), (1, .int x1), (2, .int x2), (3, .int 0)] [] h Q) : eb_Sn (d + 1) m_X1_flyOn h0 0 [(0, .ref s_flights), (1, .int x1), (2, .int x2)] [] h Q := by
  refine eb_iconst (pc := 0) (n := 0) (v := 0) rfl rfl ?_
  refine eb_istore_n (pc := 1) (n := 3) (i := 3) (ls2 := [(3, .int 0), (0, .ref s_flights), (1, .int x1), (2, .int x2)]) rfl (Nat.le_of_ble_eq_true rfl) rfl rfl ?_
  exact eb_pick [1, 2, 3, 0] rfl w
theorem b_X1_flyOn_2 {d : Nat} {h0 h : eb_H} {Q : Option Value → eb_H → Prop} (x1 : Int32) (x2 : Int32) (x3 : Int32)  (ko : eb_KO h) (w : (((4 : Int32) ≤ x3 → Q none h) ∧ (¬ ((4 : Int32) ≤ x3) → eb_Ct d 9 [.ref s_flights, .int x1, .int x3] h (fun r h2 => ∃ y3, r = some (.int y3) ∧ eb_KO h2 ∧ ((¬ y3 = ((-1) : Int32) → ((¬ ((¬ (y3 < 0)) ∧ (¬ ((1024 : Int32) ≤ y3))) → eb_Sn (d + 1) m_X1_flyOn h0 2 [(0, .ref s_flights), (1, .int x1), (2, .int x2), (3, .int (x3 + 1))] [] h2 Q) ∧ ((¬ (y3 < 0)) ∧ (¬ ((1024 : Int32) ≤ y3)) → ∃ r9, eb_R h2 s_flights 11 = some r9 ∧ eb_kd r9 = 14 ∧ (vp_in y3 (eb_ln r9)) ∧ ∃ r13, eb_R h2 s_flights 10 = some r13 ∧ eb_kd r13 = 14 ∧ (vp_in x1 (eb_ln r13)) ∧ eb_Ct d 20 [.long (eb_J h2 r9 y3.toNatClampNeg), .long (eb_J h2 r13 x1.toNatClampNeg), .int x2, .int x3, .int (y3 &&& 15)] h2 (fun r h17 => ∃ y18, r = some (.long y18) ∧ eb_KO h17 ∧ (vp_in y3 (eb_ln r9)) ∧ eb_Sn (d + 1) m_X1_flyOn h0 2 [(0, .ref s_flights), (1, .int x1), (2, .int x2), (3, .int (x3 + 1))] [] (eb_sJ h17 r9 y3.toNatClampNeg y18) Q)))) ∧ (y3 = ((-1) : Int32) → ((¬ x2 = (1 : Int32) → ((¬ ((¬ (y3 < 0)) ∧ (¬ ((1024 : Int32) ≤ y3))) → eb_Sn (d + 1) m_X1_flyOn h0 2 [(0, .ref s_flights), (1, .int x1), (2, .int x2), (3, .int (x3 + 1))] [] h2 Q) ∧ ((¬ (y3 < 0)) ∧ (¬ ((1024 : Int32) ≤ y3)) → ∃ r27, eb_R h2 s_flights 11 = some r27 ∧ eb_kd r27 = 14 ∧ (vp_in y3 (eb_ln r27)) ∧ ∃ r31, eb_R h2 s_flights 10 = some r31 ∧ eb_kd r31 = 14 ∧ (vp_in x1 (eb_ln r31)) ∧ eb_Ct d 20 [.long (eb_J h2 r27 y3.toNatClampNeg), .long (eb_J h2 r31 x1.toNatClampNeg), .int x2, .int x3, .int (y3 &&& 15)] h2 (fun r h35 => ∃ y36, r = some (.long y36) ∧ eb_KO h35 ∧ (vp_in y3 (eb_ln r27)) ∧ eb_Sn (d + 1) m_X1_flyOn h0 2 [(0, .ref s_flights), (1, .int x1), (2, .int x2), (3, .int (x3 + 1))] [] (eb_sJ h35 r27 y3.toNatClampNeg y36) Q)))) ∧ (x2 = (1 : Int32) → ((¬ ((¬ (x1 < 0)) ∧ (¬ ((1024 : Int32) ≤ x1))) → eb_Sn (d + 1) m_X1_flyOn h0 2 [(0, .ref s_flights), (1, .int x1), (2, .int x2), (3, .int (x3 + 1))] [] h2 Q) ∧ ((¬ (x1 < 0)) ∧ (¬ ((1024 : Int32) ≤ x1)) → ∃ r44, eb_R h2 s_flights 11 = some r44 ∧ eb_kd r44 = 14 ∧ (vp_in x1 (eb_ln r44)) ∧ ∃ r48, eb_R h2 s_flights 10 = some r48 ∧ eb_kd r48 = 14 ∧ (vp_in x1 (eb_ln r48)) ∧ eb_Ct d 20 [.long (eb_J h2 r44 x1.toNatClampNeg), .long (eb_J h2 r48 x1.toNatClampNeg), .int x2, .int x3, .int (x1 &&& 15)] h2 (fun r h52 => ∃ y53, r = some (.long y53) ∧ eb_KO h52 ∧ (vp_in x1 (eb_ln r44)) ∧ eb_Sn (d + 1) m_X1_flyOn h0 2 [(0, .ref s_flights), (1, .int x1), (2, .int x2), (3, .int (x3 + 1))] [] (eb_sJ h52 r44 x1.toNatClampNeg y53) Q))))))))))) : eb_Sn (d + 1) m_X1_flyOn h0 2 [(0, .ref s_flights), (1, .int x1), (2, .int x2), (3, .int x3)] [] h Q := by
  refine eb_iload_n (pc := 2) (n := 3) (i := 3) rfl rfl rfl ?_
  refine eb_iconst (pc := 3) (n := 4) (v := 4) rfl rfl ?_
  refine eb_icmp_ge (pc := 4) (tgt := 73) rfl (by decide) (fun c1 => ?_) (fun c1 => ?_)
  · replace w := w.1 c1
    exact eb_return (pc := 73) rfl rfl w
  · replace w := w.2 c1
    refine eb_aload_n (pc := 7) (n := 0) (i := 0) rfl rfl rfl ?_
    refine eb_iload_n (pc := 8) (n := 1) (i := 1) rfl rfl rfl ?_
    refine eb_iload_n (pc := 9) (n := 3) (i := 3) rfl rfl rfl ?_
    refine eb_ctV (pc := 10) (As := [.int x1, .int x3]) (rest := []) rfl (by decide) rfl rfl (by decide) rfl (Nat.le_of_ble_eq_true rfl) ?_
    refine eb_Ct.mono w ?_
    rintro r h2 ⟨y3, rfl, ko4, w⟩
    change eb_Sn _ _ _ 13 _ [.int y3] _ _
    refine eb_istore (pc := 13) (i := 4) (ls2 := [(4, .int y3), (0, .ref s_flights), (1, .int x1), (2, .int x2), (3, .int x3)]) (Nat.le_of_ble_eq_true rfl) rfl rfl ?_
    refine eb_iload (pc := 15) (i := 4) rfl rfl ?_
    refine eb_iconst (pc := 17) (n := -1) (v := (-1)) rfl rfl ?_
    refine eb_icmp_ne (pc := 18) (tgt := 29) rfl (by decide) (fun c5 => ?_) (fun c5 => ?_)
    · replace w := w.1 c5
      refine eb_iload (pc := 29) (i := 4) rfl rfl ?_
      refine eb_joinI (pc2 := 34) (ls2 := [(4, .int y3), (0, .ref s_flights), (1, .int x1), (2, .int x2), (3, .int x3)]) (st2 := []) (v := eb_q ((¬ (y3 < 0)) ∧ (¬ ((1024 : Int32) ≤ y3)))) ?_ (fun jj21 => ?_)
      · refine eb_if_eq (pc := 34) (tgt := 67) rfl (by decide) (fun c8 => ?_) (fun c8 => ?_)
        · replace c8 := eb_q0.mp c8
          replace w := w.1 c8
          refine eb_iinc (pc := 67) (i := 3) (n := 1) (v := x3 + 1) (ls2 := [(3, .int (x3 + 1)), (4, .int y3), (0, .ref s_flights), (1, .int x1), (2, .int x2)]) (Nat.le_of_ble_eq_true rfl) rfl rfl rfl rfl ?_
          refine eb_goto (pc := 70) (tgt := 2) rfl (by decide) ?_
          exact eb_pick [2, 3, 4, 0] rfl w
        · replace c8 := eb_q1.mp c8
          replace w := w.2 c8
          refine eb_aload_n (pc := 37) (n := 0) (i := 0) rfl rfl rfl ?_
          obtain ⟨r9, q10, k11, w⟩ := w
          refine eb_getR (pc := 38) rfl rfl (by decide) (by decide) rfl q10 ?_
          refine eb_iload (pc := 41) (i := 4) rfl rfl ?_
          refine eb_aload_n (pc := 43) (n := 0) (i := 0) rfl rfl rfl ?_
          refine eb_getR (pc := 44) rfl rfl (by decide) (by decide) rfl q10 ?_
          refine eb_iload (pc := 47) (i := 4) rfl rfl ?_
          obtain ⟨c12, w⟩ := w
          refine eb_laload (pc := 49) rfl k11 c12 ?_
          refine eb_aload_n (pc := 50) (n := 0) (i := 0) rfl rfl rfl ?_
          obtain ⟨r13, q14, k15, w⟩ := w
          refine eb_getR (pc := 51) rfl rfl (by decide) (by decide) rfl q14 ?_
          refine eb_iload_n (pc := 54) (n := 1) (i := 1) rfl rfl rfl ?_
          obtain ⟨c16, w⟩ := w
          refine eb_laload (pc := 55) rfl k15 c16 ?_
          refine eb_iload_n (pc := 56) (n := 2) (i := 2) rfl rfl rfl ?_
          refine eb_iload_n (pc := 57) (n := 3) (i := 3) rfl rfl rfl ?_
          refine eb_iload (pc := 58) (i := 4) rfl rfl ?_
          refine eb_ctS (pc := 60) (As := [.int y3]) (rest := [.int x3, .int x2, .long (eb_J h2 r13 x1.toNatClampNeg), .long (eb_J h2 r9 y3.toNatClampNeg), .int y3, .ref r9]) rfl (by decide) (by decide) rfl rfl (Nat.le_of_ble_eq_true rfl) ?_
          refine eb_bodyQ (by decide) ok_X1_cellOf (Nat.le_of_ble_eq_true rfl) ?_
          change eb_Sn _ m_X1_cellOf _ 0 [(0, .int y3)] [] _ _
          refine eb_iload_n (pc := 0) (n := 0) (i := 0) rfl rfl rfl ?_
          refine eb_bipush (pc := 1) (n := 15) (v := 15) rfl rfl ?_
          refine eb_iand (pc := 3) rfl ?_
          refine eb_ireturn (pc := 4) rfl rfl rfl ?_
          change eb_Sn _ _ _ 63 _ [.int (y3 &&& 15), .int x3, .int x2, .long (eb_J h2 r13 x1.toNatClampNeg), .long (eb_J h2 r9 y3.toNatClampNeg), .int y3, .ref r9] _ _
          refine eb_ctS (pc := 63) (As := [.long (eb_J h2 r9 y3.toNatClampNeg), .long (eb_J h2 r13 x1.toNatClampNeg), .int x2, .int x3, .int (y3 &&& 15)]) (rest := [.int y3, .ref r9]) rfl (by decide) (by decide) rfl rfl (Nat.le_of_ble_eq_true rfl) ?_
          refine eb_Ct.mono w ?_
          rintro r h17 ⟨y18, rfl, ko19, w⟩
          change eb_Sn _ _ _ 66 _ [.long y18, .int y3, .ref r9] _ _
          obtain ⟨c20, w⟩ := w
          refine eb_lastore (pc := 66) rfl k11 c20 ?_
          refine eb_iinc (pc := 67) (i := 3) (n := 1) (v := x3 + 1) (ls2 := [(3, .int (x3 + 1)), (4, .int y3), (0, .ref s_flights), (1, .int x1), (2, .int x2)]) (Nat.le_of_ble_eq_true rfl) rfl rfl rfl rfl ?_
          refine eb_goto (pc := 70) (tgt := 2) rfl (by decide) ?_
          exact eb_pick [2, 3, 4, 0] rfl w
      refine eb_ctS (pc := 31) (As := [.int y3]) (rest := []) rfl (by decide) (by decide) rfl rfl (Nat.le_of_ble_eq_true rfl) ?_
      refine eb_bodyQ (by decide) ok_X1_isCode (Nat.le_of_ble_eq_true rfl) ?_
      change eb_Sn _ m_X1_isCode _ 0 [(0, .int y3)] [] _ _
      refine eb_iload_n (pc := 0) (n := 0) (i := 0) rfl rfl rfl ?_
      refine eb_if_lt (pc := 1) (tgt := 15) rfl (by decide) (fun c6 => ?_) (fun c6 => ?_)
      · refine eb_iconst (pc := 15) (n := 0) (v := 0) rfl rfl ?_
        refine eb_ireturn (pc := 16) rfl rfl (by decide) ?_
        change eb_Sn _ _ _ 34 _ _ _ _
        exact jj21 0 (eb_qf (fun z => z.1 c6)).symm
      · refine eb_iload_n (pc := 4) (n := 0) (i := 0) rfl rfl rfl ?_
        refine eb_sipush (pc := 5) (n := 1024) (v := 1024) rfl rfl ?_
        refine eb_icmp_ge (pc := 8) (tgt := 15) rfl (by decide) (fun c7 => ?_) (fun c7 => ?_)
        · refine eb_iconst (pc := 15) (n := 0) (v := 0) rfl rfl ?_
          refine eb_ireturn (pc := 16) rfl rfl (by decide) ?_
          change eb_Sn _ _ _ 34 _ _ _ _
          exact jj21 0 (eb_qf (fun z => (fun z => z c7) z.2)).symm
        · refine eb_iconst (pc := 11) (n := 1) (v := 1) rfl rfl ?_
          refine eb_goto (pc := 12) (tgt := 16) rfl (by decide) ?_
          refine eb_ireturn (pc := 16) rfl rfl (by decide) ?_
          change eb_Sn _ _ _ 34 _ _ _ _
          exact jj21 1 (eb_qt (⟨c6, c7⟩)).symm
    · replace w := w.2 c5
      refine eb_iload_n (pc := 21) (n := 2) (i := 2) rfl rfl rfl ?_
      refine eb_iconst (pc := 22) (n := 1) (v := 1) rfl rfl ?_
      refine eb_icmp_ne (pc := 23) (tgt := 29) rfl (by decide) (fun c23 => ?_) (fun c23 => ?_)
      · replace w := w.1 c23
        refine eb_iload (pc := 29) (i := 4) rfl rfl ?_
        refine eb_joinI (pc2 := 34) (ls2 := [(4, .int y3), (0, .ref s_flights), (1, .int x1), (2, .int x2), (3, .int x3)]) (st2 := []) (v := eb_q ((¬ (y3 < 0)) ∧ (¬ ((1024 : Int32) ≤ y3)))) ?_ (fun jj39 => ?_)
        · refine eb_if_eq (pc := 34) (tgt := 67) rfl (by decide) (fun c26 => ?_) (fun c26 => ?_)
          · replace c26 := eb_q0.mp c26
            replace w := w.1 c26
            refine eb_iinc (pc := 67) (i := 3) (n := 1) (v := x3 + 1) (ls2 := [(3, .int (x3 + 1)), (4, .int y3), (0, .ref s_flights), (1, .int x1), (2, .int x2)]) (Nat.le_of_ble_eq_true rfl) rfl rfl rfl rfl ?_
            refine eb_goto (pc := 70) (tgt := 2) rfl (by decide) ?_
            exact eb_pick [2, 3, 4, 0] rfl w
          · replace c26 := eb_q1.mp c26
            replace w := w.2 c26
            refine eb_aload_n (pc := 37) (n := 0) (i := 0) rfl rfl rfl ?_
            obtain ⟨r27, q28, k29, w⟩ := w
            refine eb_getR (pc := 38) rfl rfl (by decide) (by decide) rfl q28 ?_
            refine eb_iload (pc := 41) (i := 4) rfl rfl ?_
            refine eb_aload_n (pc := 43) (n := 0) (i := 0) rfl rfl rfl ?_
            refine eb_getR (pc := 44) rfl rfl (by decide) (by decide) rfl q28 ?_
            refine eb_iload (pc := 47) (i := 4) rfl rfl ?_
            obtain ⟨c30, w⟩ := w
            refine eb_laload (pc := 49) rfl k29 c30 ?_
            refine eb_aload_n (pc := 50) (n := 0) (i := 0) rfl rfl rfl ?_
            obtain ⟨r31, q32, k33, w⟩ := w
            refine eb_getR (pc := 51) rfl rfl (by decide) (by decide) rfl q32 ?_
            refine eb_iload_n (pc := 54) (n := 1) (i := 1) rfl rfl rfl ?_
            obtain ⟨c34, w⟩ := w
            refine eb_laload (pc := 55) rfl k33 c34 ?_
            refine eb_iload_n (pc := 56) (n := 2) (i := 2) rfl rfl rfl ?_
            refine eb_iload_n (pc := 57) (n := 3) (i := 3) rfl rfl rfl ?_
            refine eb_iload (pc := 58) (i := 4) rfl rfl ?_
            refine eb_ctS (pc := 60) (As := [.int y3]) (rest := [.int x3, .int x2, .long (eb_J h2 r31 x1.toNatClampNeg), .long (eb_J h2 r27 y3.toNatClampNeg), .int y3, .ref r27]) rfl (by decide) (by decide) rfl rfl (Nat.le_of_ble_eq_true rfl) ?_
            refine eb_bodyQ (by decide) ok_X1_cellOf (Nat.le_of_ble_eq_true rfl) ?_
            change eb_Sn _ m_X1_cellOf _ 0 [(0, .int y3)] [] _ _
            refine eb_iload_n (pc := 0) (n := 0) (i := 0) rfl rfl rfl ?_
            refine eb_bipush (pc := 1) (n := 15) (v := 15) rfl rfl ?_
            refine eb_iand (pc := 3) rfl ?_
            refine eb_ireturn (pc := 4) rfl rfl rfl ?_
            change eb_Sn _ _ _ 63 _ [.int (y3 &&& 15), .int x3, .int x2, .long (eb_J h2 r31 x1.toNatClampNeg), .long (eb_J h2 r27 y3.toNatClampNeg), .int y3, .ref r27] _ _
            refine eb_ctS (pc := 63) (As := [.long (eb_J h2 r27 y3.toNatClampNeg), .long (eb_J h2 r31 x1.toNatClampNeg), .int x2, .int x3, .int (y3 &&& 15)]) (rest := [.int y3, .ref r27]) rfl (by decide) (by decide) rfl rfl (Nat.le_of_ble_eq_true rfl) ?_
            refine eb_Ct.mono w ?_
            rintro r h35 ⟨y36, rfl, ko37, w⟩
            change eb_Sn _ _ _ 66 _ [.long y36, .int y3, .ref r27] _ _
            obtain ⟨c38, w⟩ := w
            refine eb_lastore (pc := 66) rfl k29 c38 ?_
            refine eb_iinc (pc := 67) (i := 3) (n := 1) (v := x3 + 1) (ls2 := [(3, .int (x3 + 1)), (4, .int y3), (0, .ref s_flights), (1, .int x1), (2, .int x2)]) (Nat.le_of_ble_eq_true rfl) rfl rfl rfl rfl ?_
            refine eb_goto (pc := 70) (tgt := 2) rfl (by decide) ?_
            exact eb_pick [2, 3, 4, 0] rfl w
        refine eb_ctS (pc := 31) (As := [.int y3]) (rest := []) rfl (by decide) (by decide) rfl rfl (Nat.le_of_ble_eq_true rfl) ?_
        refine eb_bodyQ (by decide) ok_X1_isCode (Nat.le_of_ble_eq_true rfl) ?_
        change eb_Sn _ m_X1_isCode _ 0 [(0, .int y3)] [] _ _
        refine eb_iload_n (pc := 0) (n := 0) (i := 0) rfl rfl rfl ?_
        refine eb_if_lt (pc := 1) (tgt := 15) rfl (by decide) (fun c24 => ?_) (fun c24 => ?_)
        · refine eb_iconst (pc := 15) (n := 0) (v := 0) rfl rfl ?_
          refine eb_ireturn (pc := 16) rfl rfl (by decide) ?_
          change eb_Sn _ _ _ 34 _ _ _ _
          exact jj39 0 (eb_qf (fun z => z.1 c24)).symm
        · refine eb_iload_n (pc := 4) (n := 0) (i := 0) rfl rfl rfl ?_
          refine eb_sipush (pc := 5) (n := 1024) (v := 1024) rfl rfl ?_
          refine eb_icmp_ge (pc := 8) (tgt := 15) rfl (by decide) (fun c25 => ?_) (fun c25 => ?_)
          · refine eb_iconst (pc := 15) (n := 0) (v := 0) rfl rfl ?_
            refine eb_ireturn (pc := 16) rfl rfl (by decide) ?_
            change eb_Sn _ _ _ 34 _ _ _ _
            exact jj39 0 (eb_qf (fun z => (fun z => z c25) z.2)).symm
          · refine eb_iconst (pc := 11) (n := 1) (v := 1) rfl rfl ?_
            refine eb_goto (pc := 12) (tgt := 16) rfl (by decide) ?_
            refine eb_ireturn (pc := 16) rfl rfl (by decide) ?_
            change eb_Sn _ _ _ 34 _ _ _ _
            exact jj39 1 (eb_qt (⟨c24, c25⟩)).symm
      · replace w := w.2 c23
        refine eb_iload_n (pc := 26) (n := 1) (i := 1) rfl rfl rfl ?_
        refine eb_istore (pc := 27) (i := 4) (ls2 := [(4, .int x1), (0, .ref s_flights), (1, .int x1), (2, .int x2), (3, .int x3)]) (Nat.le_of_ble_eq_true rfl) rfl rfl ?_
        refine eb_iload (pc := 29) (i := 4) rfl rfl ?_
        refine eb_joinI (pc2 := 34) (ls2 := [(4, .int x1), (0, .ref s_flights), (1, .int x1), (2, .int x2), (3, .int x3)]) (st2 := []) (v := eb_q ((¬ (x1 < 0)) ∧ (¬ ((1024 : Int32) ≤ x1)))) ?_ (fun jj56 => ?_)
        · refine eb_if_eq (pc := 34) (tgt := 67) rfl (by decide) (fun c43 => ?_) (fun c43 => ?_)
          · replace c43 := eb_q0.mp c43
            replace w := w.1 c43
            refine eb_iinc (pc := 67) (i := 3) (n := 1) (v := x3 + 1) (ls2 := [(3, .int (x3 + 1)), (4, .int x1), (0, .ref s_flights), (1, .int x1), (2, .int x2)]) (Nat.le_of_ble_eq_true rfl) rfl rfl rfl rfl ?_
            refine eb_goto (pc := 70) (tgt := 2) rfl (by decide) ?_
            exact eb_pick [2, 3, 4, 0] rfl w
          · replace c43 := eb_q1.mp c43
            replace w := w.2 c43
            refine eb_aload_n (pc := 37) (n := 0) (i := 0) rfl rfl rfl ?_
            obtain ⟨r44, q45, k46, w⟩ := w
            refine eb_getR (pc := 38) rfl rfl (by decide) (by decide) rfl q45 ?_
            refine eb_iload (pc := 41) (i := 4) rfl rfl ?_
            refine eb_aload_n (pc := 43) (n := 0) (i := 0) rfl rfl rfl ?_
            refine eb_getR (pc := 44) rfl rfl (by decide) (by decide) rfl q45 ?_
            refine eb_iload (pc := 47) (i := 4) rfl rfl ?_
            obtain ⟨c47, w⟩ := w
            refine eb_laload (pc := 49) rfl k46 c47 ?_
            refine eb_aload_n (pc := 50) (n := 0) (i := 0) rfl rfl rfl ?_
            obtain ⟨r48, q49, k50, w⟩ := w
            refine eb_getR (pc := 51) rfl rfl (by decide) (by decide) rfl q49 ?_
            refine eb_iload_n (pc := 54) (n := 1) (i := 1) rfl rfl rfl ?_
            obtain ⟨c51, w⟩ := w
            refine eb_laload (pc := 55) rfl k50 c51 ?_
            refine eb_iload_n (pc := 56) (n := 2) (i := 2) rfl rfl rfl ?_
            refine eb_iload_n (pc := 57) (n := 3) (i := 3) rfl rfl rfl ?_
            refine eb_iload (pc := 58) (i := 4) rfl rfl ?_
            refine eb_ctS (pc := 60) (As := [.int x1]) (rest := [.int x3, .int x2, .long (eb_J h2 r48 x1.toNatClampNeg), .long (eb_J h2 r44 x1.toNatClampNeg), .int x1, .ref r44]) rfl (by decide) (by decide) rfl rfl (Nat.le_of_ble_eq_true rfl) ?_
            refine eb_bodyQ (by decide) ok_X1_cellOf (Nat.le_of_ble_eq_true rfl) ?_
            change eb_Sn _ m_X1_cellOf _ 0 [(0, .int x1)] [] _ _
            refine eb_iload_n (pc := 0) (n := 0) (i := 0) rfl rfl rfl ?_
            refine eb_bipush (pc := 1) (n := 15) (v := 15) rfl rfl ?_
            refine eb_iand (pc := 3) rfl ?_
            refine eb_ireturn (pc := 4) rfl rfl rfl ?_
            change eb_Sn _ _ _ 63 _ [.int (x1 &&& 15), .int x3, .int x2, .long (eb_J h2 r48 x1.toNatClampNeg), .long (eb_J h2 r44 x1.toNatClampNeg), .int x1, .ref r44] _ _
            refine eb_ctS (pc := 63) (As := [.long (eb_J h2 r44 x1.toNatClampNeg), .long (eb_J h2 r48 x1.toNatClampNeg), .int x2, .int x3, .int (x1 &&& 15)]) (rest := [.int x1, .ref r44]) rfl (by decide) (by decide) rfl rfl (Nat.le_of_ble_eq_true rfl) ?_
            refine eb_Ct.mono w ?_
            rintro r h52 ⟨y53, rfl, ko54, w⟩
            change eb_Sn _ _ _ 66 _ [.long y53, .int x1, .ref r44] _ _
            obtain ⟨c55, w⟩ := w
            refine eb_lastore (pc := 66) rfl k46 c55 ?_
            refine eb_iinc (pc := 67) (i := 3) (n := 1) (v := x3 + 1) (ls2 := [(3, .int (x3 + 1)), (4, .int x1), (0, .ref s_flights), (1, .int x1), (2, .int x2)]) (Nat.le_of_ble_eq_true rfl) rfl rfl rfl rfl ?_
            refine eb_goto (pc := 70) (tgt := 2) rfl (by decide) ?_
            exact eb_pick [2, 3, 4, 0] rfl w
        refine eb_ctS (pc := 31) (As := [.int x1]) (rest := []) rfl (by decide) (by decide) rfl rfl (Nat.le_of_ble_eq_true rfl) ?_
        refine eb_bodyQ (by decide) ok_X1_isCode (Nat.le_of_ble_eq_true rfl) ?_
        change eb_Sn _ m_X1_isCode _ 0 [(0, .int x1)] [] _ _
        refine eb_iload_n (pc := 0) (n := 0) (i := 0) rfl rfl rfl ?_
        refine eb_if_lt (pc := 1) (tgt := 15) rfl (by decide) (fun c41 => ?_) (fun c41 => ?_)
        · refine eb_iconst (pc := 15) (n := 0) (v := 0) rfl rfl ?_
          refine eb_ireturn (pc := 16) rfl rfl (by decide) ?_
          change eb_Sn _ _ _ 34 _ _ _ _
          exact jj56 0 (eb_qf (fun z => z.1 c41)).symm
        · refine eb_iload_n (pc := 4) (n := 0) (i := 0) rfl rfl rfl ?_
          refine eb_sipush (pc := 5) (n := 1024) (v := 1024) rfl rfl ?_
          refine eb_icmp_ge (pc := 8) (tgt := 15) rfl (by decide) (fun c42 => ?_) (fun c42 => ?_)
          · refine eb_iconst (pc := 15) (n := 0) (v := 0) rfl rfl ?_
            refine eb_ireturn (pc := 16) rfl rfl (by decide) ?_
            change eb_Sn _ _ _ 34 _ _ _ _
            exact jj56 0 (eb_qf (fun z => (fun z => z c42) z.2)).symm
          · refine eb_iconst (pc := 11) (n := 1) (v := 1) rfl rfl ?_
            refine eb_goto (pc := 12) (tgt := 16) rfl (by decide) ?_
            refine eb_ireturn (pc := 16) rfl rfl (by decide) ?_
            change eb_Sn _ _ _ 34 _ _ _ _
            exact jj56 1 (eb_qt (⟨c41, c42⟩)).symm
theorem T_X1_flyOn {d : Nat} {h : eb_H} {Q : Option Value → eb_H → Prop} (x1 : Int32) (x2 : Int32)  (ko : eb_KO h) (w : eb_Sn (d + 1) m_X1_flyOn h 2 [(0, .ref s_flights), (1, .int x1), (2, .int x2), (3, .int 0)] [] h Q) : eb_Ct (d + 1) 19 [.ref s_flights, .int x1, .int x2] h Q :=
  eb_bodyQ (by decide) ok_X1_flyOn (Nat.le_of_ble_eq_true rfl) (b_X1_flyOn_0 (h0 := h) x1 x2  ko w)
theorem b_X1_joined_0 {d : Nat} {h0 h : eb_H} {Q : Option Value → eb_H → Prop} (x0 : Int64) (x2 : Int64) (x4 : Int32) (x5 : Int32) (x6 : Int32)  (ko : eb_KO h) (w : ((¬ x4 = (3 : Int32) → ((x4 = (2 : Int32) → Q (some (.long (if x0 = (-1) then ((4 : Int64) * x2) + x5.toInt64 else (if (((4 : Int64) * x2) + x5.toInt64) < x0 then ((4 : Int64) * x2) + x5.toInt64 else x0) : Int64))) h) ∧ (¬ (x4 = (2 : Int32)) → Q (some (.long (x0 + x2))) h))) ∧ (x4 = (3 : Int32) → Q (some (.long (x0 &&& (x2 ||| ((1 : Int64) <<< (x6.toInt64 &&& 63)))))) h))) : eb_Sn (d + 1) m_X1_joined h0 0 [(0, .long x0), (2, .long x2), (4, .int x4), (5, .int x5), (6, .int x6)] [] h Q := by
  refine eb_iload (pc := 0) (i := 4) rfl rfl ?_
  refine eb_iconst (pc := 2) (n := 3) (v := 3) rfl rfl ?_
  refine eb_icmp_ne (pc := 3) (tgt := 15) rfl (by decide) (fun c1 => ?_) (fun c1 => ?_)
  · replace w := w.1 c1
    refine eb_iload (pc := 15) (i := 4) rfl rfl ?_
    refine eb_iconst (pc := 17) (n := 2) (v := 2) rfl rfl ?_
    refine eb_icmp_eq (pc := 18) (tgt := 25) rfl (by decide) (fun c2 => ?_) (fun c2 => ?_)
    · replace w := w.1 c2
      refine eb_ldc2 (pc := 25) (a := 4) (v := 4) rfl (by decide) ?_
      refine eb_lload_n (pc := 28) (n := 2) (i := 2) rfl rfl rfl ?_
      refine eb_lmul (pc := 29) rfl ?_
      refine eb_iload (pc := 30) (i := 5) rfl rfl ?_
      refine eb_i2l (pc := 32) rfl ?_
      refine eb_ladd (pc := 33) rfl ?_
      refine eb_lstore (pc := 34) (i := 7) (ls2 := [(7, .long (((4 : Int64) * x2) + x5.toInt64)), (0, .long x0), (2, .long x2), (4, .int x4), (5, .int x5), (6, .int x6)]) (Nat.le_of_ble_eq_true rfl) rfl rfl ?_
      refine eb_lload_n (pc := 36) (n := 0) (i := 0) rfl rfl rfl ?_
      refine eb_ldc2 (pc := 37) (a := 18446744073709551615) (v := (-1)) rfl (by decide) ?_
      refine eb_lcmp (pc := 40) rfl ?_
      refine eb_joinL (pc2 := 55) (ls2 := [(7, .long (((4 : Int64) * x2) + x5.toInt64)), (0, .long x0), (2, .long x2), (4, .int x4), (5, .int x5), (6, .int x6)]) (st2 := []) (v := (if x0 = (-1) then ((4 : Int64) * x2) + x5.toInt64 else (if (((4 : Int64) * x2) + x5.toInt64) < x0 then ((4 : Int64) * x2) + x5.toInt64 else x0) : Int64)) ?_ (fun jj5 => ?_)
      · exact eb_lreturn (pc := 55) rfl rfl w
      refine eb_if_ne (pc := 41) (tgt := 49) rfl (by decide) (fun c3 => ?_) (fun c3 => ?_)
      · replace c3 := eb_lc_ne.mp c3
        refine eb_lload_n (pc := 49) (n := 0) (i := 0) rfl rfl rfl ?_
        refine eb_lload (pc := 50) (i := 7) rfl rfl ?_
        refine eb_ctS (pc := 52) (As := [.long x0, .long (((4 : Int64) * x2) + x5.toInt64)]) (rest := []) rfl (by decide) (by decide) rfl rfl (Nat.le_of_ble_eq_true rfl) ?_
        refine eb_bodyQ (by decide) ok_J9_min_f86c9 (Nat.le_of_ble_eq_true rfl) ?_
        change eb_Sn _ m_J9_min_f86c9 _ 0 [(0, .long x0), (2, .long (((4 : Int64) * x2) + x5.toInt64))] [] _ _
        refine eb_lload_n (pc := 0) (n := 0) (i := 0) rfl rfl rfl ?_
        refine eb_lload_n (pc := 1) (n := 2) (i := 2) rfl rfl rfl ?_
        refine eb_lcmp (pc := 2) rfl ?_
        refine eb_if_gt (pc := 3) (tgt := 10) rfl (by decide) (fun c4 => ?_) (fun c4 => ?_)
        · replace c4 := eb_lc_gt.mp c4
          refine eb_lload_n (pc := 10) (n := 2) (i := 2) rfl rfl rfl ?_
          refine eb_lreturn (pc := 11) rfl rfl ?_
          change eb_Sn _ _ _ 55 _ [.long (((4 : Int64) * x2) + x5.toInt64)] _ _
          exact jj5 _ (by simp only [if_neg c3, if_pos c4])
        · replace c4 := (fun hh => mt eb_lc_gt.mpr hh) c4
          refine eb_lload_n (pc := 6) (n := 0) (i := 0) rfl rfl rfl ?_
          refine eb_goto (pc := 7) (tgt := 11) rfl (by decide) ?_
          refine eb_lreturn (pc := 11) rfl rfl ?_
          change eb_Sn _ _ _ 55 _ [.long x0] _ _
          exact jj5 _ (by simp only [if_neg c3, if_neg c4])
      · replace c3 := eb_lc_eq.mp c3
        refine eb_lload (pc := 44) (i := 7) rfl rfl ?_
        refine eb_goto (pc := 46) (tgt := 55) rfl (by decide) ?_
        exact jj5 _ (by simp only [if_pos c3])
    · replace w := w.2 c2
      refine eb_lload_n (pc := 21) (n := 0) (i := 0) rfl rfl rfl ?_
      refine eb_lload_n (pc := 22) (n := 2) (i := 2) rfl rfl rfl ?_
      refine eb_ladd (pc := 23) rfl ?_
      exact eb_lreturn (pc := 24) rfl rfl w
  · replace w := w.2 c1
    refine eb_lload_n (pc := 6) (n := 0) (i := 0) rfl rfl rfl ?_
    refine eb_lload_n (pc := 7) (n := 2) (i := 2) rfl rfl rfl ?_
    refine eb_lconst (pc := 8) (n := 1) (v := 1) rfl rfl ?_
    refine eb_iload (pc := 9) (i := 6) rfl rfl ?_
    refine eb_lshl (pc := 11) rfl ?_
    refine eb_lor (pc := 12) rfl ?_
    refine eb_land (pc := 13) rfl ?_
    exact eb_lreturn (pc := 14) rfl rfl w
theorem T_X1_joined {d : Nat} {h : eb_H} {Q : Option Value → eb_H → Prop} (x0 : Int64) (x2 : Int64) (x4 : Int32) (x5 : Int32) (x6 : Int32)  (ko : eb_KO h) (w : ((¬ x4 = (3 : Int32) → ((x4 = (2 : Int32) → Q (some (.long (if x0 = (-1) then ((4 : Int64) * x2) + x5.toInt64 else (if (((4 : Int64) * x2) + x5.toInt64) < x0 then ((4 : Int64) * x2) + x5.toInt64 else x0) : Int64))) h) ∧ (¬ (x4 = (2 : Int32)) → Q (some (.long (x0 + x2))) h))) ∧ (x4 = (3 : Int32) → Q (some (.long (x0 &&& (x2 ||| ((1 : Int64) <<< (x6.toInt64 &&& 63)))))) h))) : eb_Ct (d + 1) 20 [.long x0, .long x2, .int x4, .int x5, .int x6] h Q :=
  eb_bodyQ (by decide) ok_X1_joined (Nat.le_of_ble_eq_true rfl) (b_X1_joined_0 (h0 := h) x0 x2 x4 x5 x6  ko w)
theorem b_X1_amountAt_0 {d : Nat} {h0 h : eb_H} {Q : Option Value → eb_H → Prop} (x1 : Int32) (x2 : Int32)  (ko : eb_KO h) (w : ((¬ ((¬ ((((16 : Int32) * x2) + x1) < 0)) ∧ (¬ ((1024 : Int32) ≤ (((16 : Int32) * x2) + x1)))) → Q (some (.long (-1))) h) ∧ ((¬ ((((16 : Int32) * x2) + x1) < 0)) ∧ (¬ ((1024 : Int32) ≤ (((16 : Int32) * x2) + x1))) → ∃ r4, eb_R h s_flights 10 = some r4 ∧ eb_kd r4 = 14 ∧ (vp_in (((16 : Int32) * x2) + x1) (eb_ln r4)) ∧ Q (some (.long (eb_J h r4 (((16 : Int32) * x2) + x1).toNatClampNeg))) h))) : eb_Sn (d + 1) m_X1_amountAt h0 0 [(0, .ref s_flights), (1, .int x1), (2, .int x2)] [] h Q := by
  refine eb_iload_n (pc := 0) (n := 1) (i := 1) rfl rfl rfl ?_
  refine eb_iload_n (pc := 1) (n := 2) (i := 2) rfl rfl rfl ?_
  refine eb_ctS (pc := 2) (As := [.int x1, .int x2]) (rest := []) rfl (by decide) (by decide) rfl rfl (Nat.le_of_ble_eq_true rfl) ?_
  refine eb_bodyQ (by decide) ok_X1_codeOf (Nat.le_of_ble_eq_true rfl) ?_
  change eb_Sn _ m_X1_codeOf _ 0 [(0, .int x1), (1, .int x2)] [] _ _
  refine eb_bipush (pc := 0) (n := 16) (v := 16) rfl rfl ?_
  refine eb_iload_n (pc := 2) (n := 1) (i := 1) rfl rfl rfl ?_
  refine eb_imul (pc := 3) rfl ?_
  refine eb_iload_n (pc := 4) (n := 0) (i := 0) rfl rfl rfl ?_
  refine eb_iadd (pc := 5) rfl ?_
  refine eb_ireturn (pc := 6) rfl rfl rfl ?_
  change eb_Sn _ _ _ 5 _ [.int (((16 : Int32) * x2) + x1)] _ _
  refine eb_istore_n (pc := 5) (n := 3) (i := 3) (ls2 := [(3, .int (((16 : Int32) * x2) + x1)), (0, .ref s_flights), (1, .int x1), (2, .int x2)]) rfl (Nat.le_of_ble_eq_true rfl) rfl rfl ?_
  refine eb_iload_n (pc := 6) (n := 3) (i := 3) rfl rfl rfl ?_
  refine eb_joinI (pc2 := 10) (ls2 := [(3, .int (((16 : Int32) * x2) + x1)), (0, .ref s_flights), (1, .int x1), (2, .int x2)]) (st2 := []) (v := eb_q ((¬ ((((16 : Int32) * x2) + x1) < 0)) ∧ (¬ ((1024 : Int32) ≤ (((16 : Int32) * x2) + x1))))) ?_ (fun jj8 => ?_)
  · refine eb_if_eq (pc := 10) (tgt := 22) rfl (by decide) (fun c3 => ?_) (fun c3 => ?_)
    · replace c3 := eb_q0.mp c3
      replace w := w.1 c3
      refine eb_ldc2 (pc := 22) (a := 18446744073709551615) (v := (-1)) rfl (by decide) ?_
      exact eb_lreturn (pc := 25) rfl rfl w
    · replace c3 := eb_q1.mp c3
      replace w := w.2 c3
      refine eb_aload_n (pc := 13) (n := 0) (i := 0) rfl rfl rfl ?_
      obtain ⟨r4, q5, k6, w⟩ := w
      refine eb_getR (pc := 14) rfl rfl (by decide) (by decide) rfl q5 ?_
      refine eb_iload_n (pc := 17) (n := 3) (i := 3) rfl rfl rfl ?_
      obtain ⟨c7, w⟩ := w
      refine eb_laload (pc := 18) rfl k6 c7 ?_
      refine eb_goto (pc := 19) (tgt := 25) rfl (by decide) ?_
      exact eb_lreturn (pc := 25) rfl rfl w
  refine eb_ctS (pc := 7) (As := [.int (((16 : Int32) * x2) + x1)]) (rest := []) rfl (by decide) (by decide) rfl rfl (Nat.le_of_ble_eq_true rfl) ?_
  refine eb_bodyQ (by decide) ok_X1_isCode (Nat.le_of_ble_eq_true rfl) ?_
  change eb_Sn _ m_X1_isCode _ 0 [(0, .int (((16 : Int32) * x2) + x1))] [] _ _
  refine eb_iload_n (pc := 0) (n := 0) (i := 0) rfl rfl rfl ?_
  refine eb_if_lt (pc := 1) (tgt := 15) rfl (by decide) (fun c1 => ?_) (fun c1 => ?_)
  · refine eb_iconst (pc := 15) (n := 0) (v := 0) rfl rfl ?_
    refine eb_ireturn (pc := 16) rfl rfl (by decide) ?_
    change eb_Sn _ _ _ 10 _ _ _ _
    exact jj8 0 (eb_qf (fun z => z.1 c1)).symm
  · refine eb_iload_n (pc := 4) (n := 0) (i := 0) rfl rfl rfl ?_
    refine eb_sipush (pc := 5) (n := 1024) (v := 1024) rfl rfl ?_
    refine eb_icmp_ge (pc := 8) (tgt := 15) rfl (by decide) (fun c2 => ?_) (fun c2 => ?_)
    · refine eb_iconst (pc := 15) (n := 0) (v := 0) rfl rfl ?_
      refine eb_ireturn (pc := 16) rfl rfl (by decide) ?_
      change eb_Sn _ _ _ 10 _ _ _ _
      exact jj8 0 (eb_qf (fun z => (fun z => z c2) z.2)).symm
    · refine eb_iconst (pc := 11) (n := 1) (v := 1) rfl rfl ?_
      refine eb_goto (pc := 12) (tgt := 16) rfl (by decide) ?_
      refine eb_ireturn (pc := 16) rfl rfl (by decide) ?_
      change eb_Sn _ _ _ 10 _ _ _ _
      exact jj8 1 (eb_qt (⟨c1, c2⟩)).symm
theorem T_X1_amountAt {d : Nat} {h : eb_H} {Q : Option Value → eb_H → Prop} (x1 : Int32) (x2 : Int32)  (ko : eb_KO h) (w : ((¬ ((¬ ((((16 : Int32) * x2) + x1) < 0)) ∧ (¬ ((1024 : Int32) ≤ (((16 : Int32) * x2) + x1)))) → Q (some (.long (-1))) h) ∧ ((¬ ((((16 : Int32) * x2) + x1) < 0)) ∧ (¬ ((1024 : Int32) ≤ (((16 : Int32) * x2) + x1))) → ∃ r4, eb_R h s_flights 10 = some r4 ∧ eb_kd r4 = 14 ∧ (vp_in (((16 : Int32) * x2) + x1) (eb_ln r4)) ∧ Q (some (.long (eb_J h r4 (((16 : Int32) * x2) + x1).toNatClampNeg))) h))) : eb_Ct (d + 1) 21 [.ref s_flights, .int x1, .int x2] h Q :=
  eb_bodyQ (by decide) ok_X1_amountAt (Nat.le_of_ble_eq_true rfl) (b_X1_amountAt_0 (h0 := h) x1 x2  ko w)
theorem b_X1_amountOf_0 {d : Nat} {h0 h : eb_H} {Q : Option Value → eb_H → Prop} (x1 : Int32) (x2 : Int32) (x3 : Int32)  (ko : eb_KO h) (w : eb_Sn (d + 2) m_X1_amountOf h0 6 [(0, .ref s_flights), (1, .int x1), (2, .int x2), (3, .int x3), (4, .long 0), (6, .int 0)] [] h Q) : eb_Sn (d + 2) m_X1_amountOf h0 0 [(0, .ref s_flights), (1, .int x1), (2, .int x2), (3, .int x3)] [] h Q := by
  refine eb_lconst (pc := 0) (n := 0) (v := 0) rfl rfl ?_
  refine eb_lstore (pc := 1) (i := 4) (ls2 := [(4, .long 0), (0, .ref s_flights), (1, .int x1), (2, .int x2), (3, .int x3)]) (Nat.le_of_ble_eq_true rfl) rfl rfl ?_
  refine eb_iconst (pc := 3) (n := 0) (v := 0) rfl rfl ?_
  refine eb_istore (pc := 4) (i := 6) (ls2 := [(6, .int 0), (4, .long 0), (0, .ref s_flights), (1, .int x1), (2, .int x2), (3, .int x3)]) (Nat.le_of_ble_eq_true rfl) rfl rfl ?_
  exact eb_pick [2, 3, 4, 5, 1, 0] rfl w
theorem b_X1_amountOf_6 {d : Nat} {h0 h : eb_H} {Q : Option Value → eb_H → Prop} (x1 : Int32) (x2 : Int32) (x3 : Int32) (x4 : Int64) (x6 : Int32)  (ko : eb_KO h) (w : (((1024 : Int32) ≤ x6 → Q (some (.long x4)) h) ∧ (¬ ((1024 : Int32) ≤ x6) → ((¬ (((x6 &&& 15) = x1) ∧ ((((x6 >>> ((4 : Int32) &&& 31)) &&& x2) = x2) ∧ (((x6 >>> ((4 : Int32) &&& 31)) &&& x3) = 0))) → eb_Sn (d + 2) m_X1_amountOf h0 6 [(0, .ref s_flights), (1, .int x1), (2, .int x2), (3, .int x3), (4, .long x4), (6, .int (x6 + 1))] [] h Q) ∧ (((x6 &&& 15) = x1) ∧ ((((x6 >>> ((4 : Int32) &&& 31)) &&& x2) = x2) ∧ (((x6 >>> ((4 : Int32) &&& 31)) &&& x3) = 0)) → ∃ r8, eb_R h s_flights 10 = some r8 ∧ eb_kd r8 = 14 ∧ (vp_in x6 (eb_ln r8)) ∧ eb_Sn (d + 2) m_X1_amountOf h0 6 [(0, .ref s_flights), (1, .int x1), (2, .int x2), (3, .int x3), (4, .long (x4 + (eb_J h r8 x6.toNatClampNeg))), (6, .int (x6 + 1))] [] h Q))))) : eb_Sn (d + 2) m_X1_amountOf h0 6 [(0, .ref s_flights), (1, .int x1), (2, .int x2), (3, .int x3), (4, .long x4), (6, .int x6)] [] h Q := by
  refine eb_iload (pc := 6) (i := 6) rfl rfl ?_
  refine eb_sipush (pc := 8) (n := 1024) (v := 1024) rfl rfl ?_
  refine eb_icmp_ge (pc := 11) (tgt := 43) rfl (by decide) (fun c1 => ?_) (fun c1 => ?_)
  · replace w := w.1 c1
    refine eb_lload (pc := 43) (i := 4) rfl rfl ?_
    exact eb_lreturn (pc := 45) rfl rfl w
  · replace w := w.2 c1
    refine eb_iload (pc := 14) (i := 6) rfl rfl ?_
    refine eb_iload_n (pc := 16) (n := 1) (i := 1) rfl rfl rfl ?_
    refine eb_iload_n (pc := 17) (n := 2) (i := 2) rfl rfl rfl ?_
    refine eb_iload_n (pc := 18) (n := 3) (i := 3) rfl rfl rfl ?_
    refine eb_ctS (pc := 19) (As := [.int x6, .int x1, .int x2, .int x3]) (rest := []) rfl (by decide) (by decide) rfl rfl (Nat.le_of_ble_eq_true rfl) ?_
    refine eb_bodyQ (by decide) ok_X1_isComing (Nat.le_of_ble_eq_true rfl) ?_
    change eb_Sn _ m_X1_isComing _ 0 [(0, .int x6), (1, .int x1), (2, .int x2), (3, .int x3)] [] _ _
    refine eb_iload_n (pc := 0) (n := 0) (i := 0) rfl rfl rfl ?_
    refine eb_ctS (pc := 1) (As := [.int x6]) (rest := []) rfl (by decide) (by decide) rfl rfl (Nat.le_of_ble_eq_true rfl) ?_
    refine eb_bodyQ (by decide) ok_X1_setOf (Nat.le_of_ble_eq_true rfl) ?_
    change eb_Sn _ m_X1_setOf _ 0 [(0, .int x6)] [] _ _
    refine eb_iload_n (pc := 0) (n := 0) (i := 0) rfl rfl rfl ?_
    refine eb_iconst (pc := 1) (n := 4) (v := 4) rfl rfl ?_
    refine eb_ishr (pc := 2) rfl ?_
    refine eb_ireturn (pc := 3) rfl rfl rfl ?_
    change eb_Sn _ _ _ 4 _ [.int (x6 >>> ((4 : Int32) &&& 31))] _ _
    refine eb_istore (pc := 4) (i := 4) (ls2 := [(4, .int (x6 >>> ((4 : Int32) &&& 31))), (0, .int x6), (1, .int x1), (2, .int x2), (3, .int x3)]) (Nat.le_of_ble_eq_true rfl) rfl rfl ?_
    refine eb_iload_n (pc := 6) (n := 0) (i := 0) rfl rfl rfl ?_
    refine eb_ctS (pc := 7) (As := [.int x6]) (rest := []) rfl (by decide) (by decide) rfl rfl (Nat.le_of_ble_eq_true rfl) ?_
    refine eb_bodyQ (by decide) ok_X1_cellOf (Nat.le_of_ble_eq_true rfl) ?_
    change eb_Sn _ m_X1_cellOf _ 0 [(0, .int x6)] [] _ _
    refine eb_iload_n (pc := 0) (n := 0) (i := 0) rfl rfl rfl ?_
    refine eb_bipush (pc := 1) (n := 15) (v := 15) rfl rfl ?_
    refine eb_iand (pc := 3) rfl ?_
    refine eb_ireturn (pc := 4) rfl rfl rfl ?_
    change eb_Sn _ _ _ 10 _ [.int (x6 &&& 15)] _ _
    refine eb_iload_n (pc := 10) (n := 1) (i := 1) rfl rfl rfl ?_
    refine eb_joinI (pc2 := 34) (ls2 := [(4, .int (x6 >>> ((4 : Int32) &&& 31))), (0, .int x6), (1, .int x1), (2, .int x2), (3, .int x3)]) (st2 := []) (v := eb_q (((x6 &&& 15) = x1) ∧ ((((x6 >>> ((4 : Int32) &&& 31)) &&& x2) = x2) ∧ (((x6 >>> ((4 : Int32) &&& 31)) &&& x3) = 0)))) ?_ (fun jj5 => ?_)
    · refine eb_ireturn (pc := 34) rfl rfl eb_qn ?_
      change eb_Sn _ _ _ 22 _ [.int (eb_q (((x6 &&& 15) = x1) ∧ ((((x6 >>> ((4 : Int32) &&& 31)) &&& x2) = x2) ∧ (((x6 >>> ((4 : Int32) &&& 31)) &&& x3) = 0))))] _ _
      refine eb_if_eq (pc := 22) (tgt := 37) rfl (by decide) (fun c7 => ?_) (fun c7 => ?_)
      · replace c7 := eb_q0.mp c7
        replace w := w.1 c7
        refine eb_iinc (pc := 37) (i := 6) (n := 1) (v := x6 + 1) (ls2 := [(6, .int (x6 + 1)), (0, .ref s_flights), (1, .int x1), (2, .int x2), (3, .int x3), (4, .long x4)]) (Nat.le_of_ble_eq_true rfl) rfl rfl rfl rfl ?_
        refine eb_goto (pc := 40) (tgt := 6) rfl (by decide) ?_
        exact eb_pick [1, 2, 3, 4, 5, 0] rfl w
      · replace c7 := eb_q1.mp c7
        replace w := w.2 c7
        refine eb_lload (pc := 25) (i := 4) rfl rfl ?_
        refine eb_aload_n (pc := 27) (n := 0) (i := 0) rfl rfl rfl ?_
        obtain ⟨r8, q9, k10, w⟩ := w
        refine eb_getR (pc := 28) rfl rfl (by decide) (by decide) rfl q9 ?_
        refine eb_iload (pc := 31) (i := 6) rfl rfl ?_
        obtain ⟨c11, w⟩ := w
        refine eb_laload (pc := 33) rfl k10 c11 ?_
        refine eb_ladd (pc := 34) rfl ?_
        refine eb_lstore (pc := 35) (i := 4) (ls2 := [(4, .long (x4 + (eb_J h r8 x6.toNatClampNeg))), (0, .ref s_flights), (1, .int x1), (2, .int x2), (3, .int x3), (6, .int x6)]) (Nat.le_of_ble_eq_true rfl) rfl rfl ?_
        refine eb_iinc (pc := 37) (i := 6) (n := 1) (v := x6 + 1) (ls2 := [(6, .int (x6 + 1)), (4, .long (x4 + (eb_J h r8 x6.toNatClampNeg))), (0, .ref s_flights), (1, .int x1), (2, .int x2), (3, .int x3)]) (Nat.le_of_ble_eq_true rfl) rfl rfl rfl rfl ?_
        refine eb_goto (pc := 40) (tgt := 6) rfl (by decide) ?_
        exact eb_pick [2, 3, 4, 5, 1, 0] rfl w
    refine eb_icmp_ne (pc := 11) (tgt := 33) rfl (by decide) (fun c2 => ?_) (fun c2 => ?_)
    · refine eb_iconst (pc := 33) (n := 0) (v := 0) rfl rfl ?_
      exact jj5 0 (eb_qf (fun z => c2 z.1)).symm
    · refine eb_iload (pc := 14) (i := 4) rfl rfl ?_
      refine eb_iload_n (pc := 16) (n := 2) (i := 2) rfl rfl rfl ?_
      refine eb_iand (pc := 17) rfl ?_
      refine eb_iload_n (pc := 18) (n := 2) (i := 2) rfl rfl rfl ?_
      refine eb_icmp_ne (pc := 19) (tgt := 33) rfl (by decide) (fun c3 => ?_) (fun c3 => ?_)
      · refine eb_iconst (pc := 33) (n := 0) (v := 0) rfl rfl ?_
        exact jj5 0 (eb_qf (fun z => (fun z => c3 z.1) z.2)).symm
      · refine eb_iload (pc := 22) (i := 4) rfl rfl ?_
        refine eb_iload_n (pc := 24) (n := 3) (i := 3) rfl rfl rfl ?_
        refine eb_iand (pc := 25) rfl ?_
        refine eb_if_ne (pc := 26) (tgt := 33) rfl (by decide) (fun c4 => ?_) (fun c4 => ?_)
        · refine eb_iconst (pc := 33) (n := 0) (v := 0) rfl rfl ?_
          exact jj5 0 (eb_qf (fun z => (fun z => c4 z.2) z.2)).symm
        · refine eb_iconst (pc := 29) (n := 1) (v := 1) rfl rfl ?_
          refine eb_goto (pc := 30) (tgt := 34) rfl (by decide) ?_
          exact jj5 1 (eb_qt (⟨c2, ⟨c3, c4⟩⟩)).symm
theorem T_X1_amountOf {d : Nat} {h : eb_H} {Q : Option Value → eb_H → Prop} (x1 : Int32) (x2 : Int32) (x3 : Int32)  (ko : eb_KO h) (w : eb_Sn (d + 2) m_X1_amountOf h 6 [(0, .ref s_flights), (1, .int x1), (2, .int x2), (3, .int x3), (4, .long 0), (6, .int 0)] [] h Q) : eb_Ct (d + 2) 22 [.ref s_flights, .int x1, .int x2, .int x3] h Q :=
  eb_bodyQ (by decide) ok_X1_amountOf (Nat.le_of_ble_eq_true rfl) (b_X1_amountOf_0 (h0 := h) x1 x2 x3  ko w)
theorem b_X1_echoesInAll_0 {d : Nat} {h0 h : eb_H} {Q : Option Value → eb_H → Prop}   (ko : eb_KO h) (w : eb_Sn (d + 1) m_X1_echoesInAll h0 4 [(0, .ref s_flights), (1, .long 0), (3, .int 0)] [] h Q) : eb_Sn (d + 1) m_X1_echoesInAll h0 0 [(0, .ref s_flights)] [] h Q := by
  refine eb_lconst (pc := 0) (n := 0) (v := 0) rfl rfl ?_
  refine eb_lstore_n (pc := 1) (n := 1) (i := 1) (ls2 := [(1, .long 0), (0, .ref s_flights)]) rfl (Nat.le_of_ble_eq_true rfl) rfl rfl ?_
  refine eb_iconst (pc := 2) (n := 0) (v := 0) rfl rfl ?_
  refine eb_istore_n (pc := 3) (n := 3) (i := 3) (ls2 := [(3, .int 0), (1, .long 0), (0, .ref s_flights)]) rfl (Nat.le_of_ble_eq_true rfl) rfl rfl ?_
  exact eb_pick [2, 1, 0] rfl w
theorem b_X1_echoesInAll_4 {d : Nat} {h0 h : eb_H} {Q : Option Value → eb_H → Prop} (x1 : Int64) (x3 : Int32)  (ko : eb_KO h) (w : (((1024 : Int32) ≤ x3 → Q (some (.long x1)) h) ∧ (¬ ((1024 : Int32) ≤ x3) → ∃ r2, eb_R h s_flights 10 = some r2 ∧ eb_kd r2 = 14 ∧ (vp_in x3 (eb_ln r2)) ∧ eb_Ct d 283 [.int (x3 >>> ((4 : Int32) &&& 31))] h (fun r h6 => ∃ y7, r = some (.int y7) ∧ eb_KO h6 ∧ eb_Sn (d + 1) m_X1_echoesInAll h0 4 [(0, .ref s_flights), (1, .long (x1 + ((eb_J h r2 x3.toNatClampNeg) * y7.toInt64))), (3, .int (x3 + 1))] [] h6 Q)))) : eb_Sn (d + 1) m_X1_echoesInAll h0 4 [(0, .ref s_flights), (1, .long x1), (3, .int x3)] [] h Q := by
  refine eb_iload_n (pc := 4) (n := 3) (i := 3) rfl rfl rfl ?_
  refine eb_sipush (pc := 5) (n := 1024) (v := 1024) rfl rfl ?_
  refine eb_icmp_ge (pc := 8) (tgt := 35) rfl (by decide) (fun c1 => ?_) (fun c1 => ?_)
  · replace w := w.1 c1
    refine eb_lload_n (pc := 35) (n := 1) (i := 1) rfl rfl rfl ?_
    exact eb_lreturn (pc := 36) rfl rfl w
  · replace w := w.2 c1
    refine eb_lload_n (pc := 11) (n := 1) (i := 1) rfl rfl rfl ?_
    refine eb_aload_n (pc := 12) (n := 0) (i := 0) rfl rfl rfl ?_
    obtain ⟨r2, q3, k4, w⟩ := w
    refine eb_getR (pc := 13) rfl rfl (by decide) (by decide) rfl q3 ?_
    refine eb_iload_n (pc := 16) (n := 3) (i := 3) rfl rfl rfl ?_
    obtain ⟨c5, w⟩ := w
    refine eb_laload (pc := 17) rfl k4 c5 ?_
    refine eb_iload_n (pc := 18) (n := 3) (i := 3) rfl rfl rfl ?_
    refine eb_ctS (pc := 19) (As := [.int x3]) (rest := [.long (eb_J h r2 x3.toNatClampNeg), .long x1]) rfl (by decide) (by decide) rfl rfl (Nat.le_of_ble_eq_true rfl) ?_
    refine eb_bodyQ (by decide) ok_X1_setOf (Nat.le_of_ble_eq_true rfl) ?_
    change eb_Sn _ m_X1_setOf _ 0 [(0, .int x3)] [] _ _
    refine eb_iload_n (pc := 0) (n := 0) (i := 0) rfl rfl rfl ?_
    refine eb_iconst (pc := 1) (n := 4) (v := 4) rfl rfl ?_
    refine eb_ishr (pc := 2) rfl ?_
    refine eb_ireturn (pc := 3) rfl rfl rfl ?_
    change eb_Sn _ _ _ 22 _ [.int (x3 >>> ((4 : Int32) &&& 31)), .long (eb_J h r2 x3.toNatClampNeg), .long x1] _ _
    refine eb_ctS (pc := 22) (As := [.int (x3 >>> ((4 : Int32) &&& 31))]) (rest := [.long (eb_J h r2 x3.toNatClampNeg), .long x1]) rfl (by decide) (by decide) rfl rfl (Nat.le_of_ble_eq_true rfl) ?_
    refine eb_Ct.mono w ?_
    rintro r h6 ⟨y7, rfl, ko8, w⟩
    change eb_Sn _ _ _ 25 _ [.int y7, .long (eb_J h r2 x3.toNatClampNeg), .long x1] _ _
    refine eb_i2l (pc := 25) rfl ?_
    refine eb_lmul (pc := 26) rfl ?_
    refine eb_ladd (pc := 27) rfl ?_
    refine eb_lstore_n (pc := 28) (n := 1) (i := 1) (ls2 := [(1, .long (x1 + ((eb_J h r2 x3.toNatClampNeg) * y7.toInt64))), (0, .ref s_flights), (3, .int x3)]) rfl (Nat.le_of_ble_eq_true rfl) rfl rfl ?_
    refine eb_iinc (pc := 29) (i := 3) (n := 1) (v := x3 + 1) (ls2 := [(3, .int (x3 + 1)), (1, .long (x1 + ((eb_J h r2 x3.toNatClampNeg) * y7.toInt64))), (0, .ref s_flights)]) (Nat.le_of_ble_eq_true rfl) rfl rfl rfl rfl ?_
    refine eb_goto (pc := 32) (tgt := 4) rfl (by decide) ?_
    exact eb_pick [2, 1, 0] rfl w
theorem T_X1_echoesInAll {d : Nat} {h : eb_H} {Q : Option Value → eb_H → Prop}   (ko : eb_KO h) (w : eb_Sn (d + 1) m_X1_echoesInAll h 4 [(0, .ref s_flights), (1, .long 0), (3, .int 0)] [] h Q) : eb_Ct (d + 1) 23 [.ref s_flights] h Q :=
  eb_bodyQ (by decide) ok_X1_echoesInAll (Nat.le_of_ble_eq_true rfl) (b_X1_echoesInAll_0 (h0 := h)   ko w)
theorem b_X2_init_0 {d : Nat} {h0 h : eb_H} {Q : Option Value → eb_H → Prop} (a0 : Nat) (a1 : Nat) (ka0 : eb_kd a0 = 2) (ka1 : eb_kd a1 = 13) (w : ∀ r3, r3 = eb_nx h 19 32 → ∀ h1, h1 = eb_nw h 19 32 32 → ∀ h5, h5 = eb_sR h1 a0 1 (some r3) → ∀ r9, r9 = eb_nx h5 19 6 → ∀ h7, h7 = eb_nw h5 19 6 6 → ∀ h11, h11 = eb_sR h7 a0 2 (some r9) → ∀ h13, h13 = eb_sR h11 a0 0 (some a1) → Q none h13) : eb_Sn (d + 1) m_X2_init h0 0 [(0, .ref a0), (1, .ref a1)] [] h Q := by
  refine eb_aload_n (pc := 0) (n := 0) (i := 0) rfl rfl rfl ?_
  refine eb_objInit (pc := 1) rfl (by decide +kernel) (by omega) (Nat.le_of_ble_eq_true rfl) ?_
  refine eb_aload_n (pc := 4) (n := 0) (i := 0) rfl rfl rfl ?_
  refine eb_bipush (pc := 5) (n := 32) (v := 32) rfl rfl ?_
  refine eb_newI (pc := 7) (kd := 19) (len := 32) rfl rfl (by decide) (by decide) rfl (by decide) ?_
  obtain ⟨r3, e4⟩ : ∃ z, z = eb_nx h 19 32 := ⟨_, rfl⟩
  rw [← e4]
  replace w := w r3 e4
  obtain ⟨h1, e2⟩ : ∃ z, z = eb_nw h 19 32 32 := ⟨_, rfl⟩
  rw [← e2]
  replace w := w h1 e2
  refine eb_putR (pc := 9) rfl ka0 (by decide) (by decide) rfl (Or.inr ⟨rfl, rfl, rfl⟩) (eb_k20 (c := 19) (by rw [e4]; exact eb_mk_kd (by decide)) (by decide)) ?_
  obtain ⟨h5, e6⟩ : ∃ z, z = eb_sR h1 a0 1 (some r3) := ⟨_, rfl⟩
  rw [← e6]
  replace w := w h5 e6
  refine eb_aload_n (pc := 12) (n := 0) (i := 0) rfl rfl rfl ?_
  refine eb_bipush (pc := 13) (n := 6) (v := 6) rfl rfl ?_
  refine eb_newI (pc := 15) (kd := 19) (len := 6) rfl rfl (by decide) (by decide) rfl (by decide) ?_
  obtain ⟨r9, e10⟩ : ∃ z, z = eb_nx h5 19 6 := ⟨_, rfl⟩
  rw [← e10]
  replace w := w r9 e10
  obtain ⟨h7, e8⟩ : ∃ z, z = eb_nw h5 19 6 6 := ⟨_, rfl⟩
  rw [← e8]
  replace w := w h7 e8
  refine eb_putR (pc := 17) rfl ka0 (by decide) (by decide) rfl (Or.inr ⟨rfl, rfl, rfl⟩) (eb_k20 (c := 19) (by rw [e10]; exact eb_mk_kd (by decide)) (by decide)) ?_
  obtain ⟨h11, e12⟩ : ∃ z, z = eb_sR h7 a0 2 (some r9) := ⟨_, rfl⟩
  rw [← e12]
  replace w := w h11 e12
  refine eb_aload_n (pc := 20) (n := 0) (i := 0) rfl rfl rfl ?_
  refine eb_aload_n (pc := 21) (n := 1) (i := 1) rfl rfl rfl ?_
  refine eb_putR (pc := 22) rfl ka0 (by decide) (by decide) rfl (Or.inr ⟨rfl, rfl, rfl⟩) (eb_k20 (c := 13) ka1 (by decide)) ?_
  obtain ⟨h13, e14⟩ : ∃ z, z = eb_sR h11 a0 0 (some a1) := ⟨_, rfl⟩
  rw [← e14]
  replace w := w h13 e14
  exact eb_return (pc := 25) rfl rfl w
theorem T_X2_init {d : Nat} {h : eb_H} {Q : Option Value → eb_H → Prop} (a0 : Nat) (a1 : Nat) (ka0 : eb_kd a0 = 2) (ka1 : eb_kd a1 = 13) (w : ∀ r3, r3 = eb_nx h 19 32 → ∀ h1, h1 = eb_nw h 19 32 32 → ∀ h5, h5 = eb_sR h1 a0 1 (some r3) → ∀ r9, r9 = eb_nx h5 19 6 → ∀ h7, h7 = eb_nw h5 19 6 6 → ∀ h11, h11 = eb_sR h7 a0 2 (some r9) → ∀ h13, h13 = eb_sR h11 a0 0 (some a1) → Q none h13) : eb_Ct (d + 1) 24 [.ref a0, .ref a1] h Q :=
  eb_bodyQ (by decide) ok_X2_init (Nat.le_of_ble_eq_true rfl) (b_X2_init_0 (h0 := h) a0 a1 ka0 ka1 w)
