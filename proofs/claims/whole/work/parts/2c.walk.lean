theorem b_X3_openAtom_0 {d : Nat} {h0 h : eb_H} {Q : Option Value → eb_H → Prop} (x1 : Int32)  (ko : eb_KO h) (w : ((x1 < 0 → ((¬ (if x1 = (1011 : Int32) then 1 else (if (eb_I h s_reader_laws 10) = 0 then 0 else (if x1 = (1040 : Int32) then 1 else (if x1 = (1010 : Int32) then 1 else 0))) : Int32) = 0 → (((eb_I h s_reader_laws 5) < (6 : Int32) → eb_Ct d 39 [.ref s_reader_laws, .int x1] (eb_sI h s_reader_laws 5 ((eb_I h s_reader_laws 5) + 1)) (fun r h8 => r = none ∧ eb_KO h8 ∧ ((¬ x1 = (1010 : Int32) → ((¬ x1 = (1011 : Int32) → Q (some (.int 1)) h8) ∧ (x1 = (1011 : Int32) → Q (some (.int 1)) (eb_sI (eb_sI h8 s_reader_laws 6 ((eb_I h8 s_reader_laws 6) + 1)) s_reader_laws 10 0)))) ∧ (x1 = (1010 : Int32) → ((¬ x1 = (1011 : Int32) → Q (some (.int 1)) (eb_sI h8 s_reader_laws 7 ((eb_I h8 s_reader_laws 7) + 1))) ∧ (x1 = (1011 : Int32) → Q (some (.int 1)) (eb_sI (eb_sI (eb_sI h8 s_reader_laws 7 ((eb_I h8 s_reader_laws 7) + 1)) s_reader_laws 6 ((eb_I (eb_sI h8 s_reader_laws 7 ((eb_I h8 s_reader_laws 7) + 1)) s_reader_laws 6) + 1)) s_reader_laws 10 0))))))) ∧ (¬ ((eb_I h s_reader_laws 5) < (6 : Int32)) → eb_Ct d 68 [.ref s_tape, .int 4] h (fun r h14 => r = none ∧ eb_KO h14 ∧ eb_Ct d 39 [.ref s_reader_laws, .int x1] (eb_sI h14 s_reader_laws 5 ((eb_I h14 s_reader_laws 5) + 1)) (fun r h17 => r = none ∧ eb_KO h17 ∧ ((¬ x1 = (1010 : Int32) → ((¬ x1 = (1011 : Int32) → Q (some (.int 1)) h17) ∧ (x1 = (1011 : Int32) → Q (some (.int 1)) (eb_sI (eb_sI h17 s_reader_laws 6 ((eb_I h17 s_reader_laws 6) + 1)) s_reader_laws 10 0)))) ∧ (x1 = (1010 : Int32) → ((¬ x1 = (1011 : Int32) → Q (some (.int 1)) (eb_sI h17 s_reader_laws 7 ((eb_I h17 s_reader_laws 7) + 1))) ∧ (x1 = (1011 : Int32) → Q (some (.int 1)) (eb_sI (eb_sI (eb_sI h17 s_reader_laws 7 ((eb_I h17 s_reader_laws 7) + 1)) s_reader_laws 6 ((eb_I (eb_sI h17 s_reader_laws 7 ((eb_I h17 s_reader_laws 7) + 1)) s_reader_laws 6) + 1)) s_reader_laws 10 0)))))))))) ∧ ((if x1 = (1011 : Int32) then 1 else (if (eb_I h s_reader_laws 10) = 0 then 0 else (if x1 = (1040 : Int32) then 1 else (if x1 = (1010 : Int32) then 1 else 0))) : Int32) = 0 → Q (some (.int 0)) h))) ∧ (¬ (x1 < 0) → (((1005 : Int32) < x1 → ((¬ (if x1 = (1011 : Int32) then 1 else (if (eb_I h s_reader_laws 10) = 0 then 0 else (if x1 = (1040 : Int32) then 1 else (if x1 = (1010 : Int32) then 1 else 0))) : Int32) = 0 → (((eb_I h s_reader_laws 5) < (6 : Int32) → eb_Ct d 39 [.ref s_reader_laws, .int x1] (eb_sI h s_reader_laws 5 ((eb_I h s_reader_laws 5) + 1)) (fun r h31 => r = none ∧ eb_KO h31 ∧ ((¬ x1 = (1010 : Int32) → ((¬ x1 = (1011 : Int32) → Q (some (.int 1)) h31) ∧ (x1 = (1011 : Int32) → Q (some (.int 1)) (eb_sI (eb_sI h31 s_reader_laws 6 ((eb_I h31 s_reader_laws 6) + 1)) s_reader_laws 10 0)))) ∧ (x1 = (1010 : Int32) → ((¬ x1 = (1011 : Int32) → Q (some (.int 1)) (eb_sI h31 s_reader_laws 7 ((eb_I h31 s_reader_laws 7) + 1))) ∧ (x1 = (1011 : Int32) → Q (some (.int 1)) (eb_sI (eb_sI (eb_sI h31 s_reader_laws 7 ((eb_I h31 s_reader_laws 7) + 1)) s_reader_laws 6 ((eb_I (eb_sI h31 s_reader_laws 7 ((eb_I h31 s_reader_laws 7) + 1)) s_reader_laws 6) + 1)) s_reader_laws 10 0))))))) ∧ (¬ ((eb_I h s_reader_laws 5) < (6 : Int32)) → eb_Ct d 68 [.ref s_tape, .int 4] h (fun r h37 => r = none ∧ eb_KO h37 ∧ eb_Ct d 39 [.ref s_reader_laws, .int x1] (eb_sI h37 s_reader_laws 5 ((eb_I h37 s_reader_laws 5) + 1)) (fun r h40 => r = none ∧ eb_KO h40 ∧ ((¬ x1 = (1010 : Int32) → ((¬ x1 = (1011 : Int32) → Q (some (.int 1)) h40) ∧ (x1 = (1011 : Int32) → Q (some (.int 1)) (eb_sI (eb_sI h40 s_reader_laws 6 ((eb_I h40 s_reader_laws 6) + 1)) s_reader_laws 10 0)))) ∧ (x1 = (1010 : Int32) → ((¬ x1 = (1011 : Int32) → Q (some (.int 1)) (eb_sI h40 s_reader_laws 7 ((eb_I h40 s_reader_laws 7) + 1))) ∧ (x1 = (1011 : Int32) → Q (some (.int 1)) (eb_sI (eb_sI (eb_sI h40 s_reader_laws 7 ((eb_I h40 s_reader_laws 7) + 1)) s_reader_laws 6 ((eb_I (eb_sI h40 s_reader_laws 7 ((eb_I h40 s_reader_laws 7) + 1)) s_reader_laws 6) + 1)) s_reader_laws 10 0)))))))))) ∧ ((if x1 = (1011 : Int32) then 1 else (if (eb_I h s_reader_laws 10) = 0 then 0 else (if x1 = (1040 : Int32) then 1 else (if x1 = (1010 : Int32) then 1 else 0))) : Int32) = 0 → Q (some (.int 0)) h))) ∧ (¬ ((1005 : Int32) < x1) → eb_Ct d 40 [.ref s_reader_laws, .int x1] h (fun r h47 => r = none ∧ eb_KO h47 ∧ Q (some (.int 1)) (eb_sI (eb_sI h47 s_reader_laws 9 0) s_reader_laws 10 0))))))) : eb_Sn (d + 1) m_X3_openAtom h0 0 [(0, .ref s_reader_laws), (1, .int x1)] [] h Q := by
  refine eb_iload_n (pc := 0) (n := 1) (i := 1) rfl rfl rfl ?_
  refine eb_if_lt (pc := 1) (tgt := 28) rfl (by decide) (fun c1 => ?_) (fun c1 => ?_)
  · replace w := w.1 c1
    refine eb_iload_n (pc := 28) (n := 1) (i := 1) rfl rfl rfl ?_
    refine eb_sipush (pc := 29) (n := 1011) (v := 1011) rfl rfl ?_
    have jj23 : eb_Sn (d + 1) m_X3_openAtom h0 61 [(0, .ref s_reader_laws), (1, .int x1)] [.int (if x1 = (1011 : Int32) then 1 else (if (eb_I h s_reader_laws 10) = 0 then 0 else (if x1 = (1040 : Int32) then 1 else (if x1 = (1010 : Int32) then 1 else 0))) : Int32)] h Q := by
      refine eb_istore_n (pc := 61) (n := 2) (i := 2) (ls2 := [(2, .int (if x1 = (1011 : Int32) then 1 else (if (eb_I h s_reader_laws 10) = 0 then 0 else (if x1 = (1040 : Int32) then 1 else (if x1 = (1010 : Int32) then 1 else 0))) : Int32)), (0, .ref s_reader_laws), (1, .int x1)]) rfl (Nat.le_of_ble_eq_true rfl) rfl rfl ?_
      refine eb_iload_n (pc := 62) (n := 2) (i := 2) rfl rfl rfl ?_
      refine eb_if_ne (pc := 63) (tgt := 68) rfl (by decide) (fun c6 => ?_) (fun c6 => ?_)
      · replace w := w.1 c6
        refine eb_aload_n (pc := 68) (n := 0) (i := 0) rfl rfl rfl ?_
        refine eb_getI (pc := 69) rfl rfl (by decide) (by decide) rfl ?_
        refine eb_bipush (pc := 72) (n := 6) (v := 6) rfl rfl ?_
        refine eb_icmp_lt (pc := 74) (tgt := 85) rfl (by decide) (fun c7 => ?_) (fun c7 => ?_)
        · replace w := w.1 c7
          refine eb_aload_n (pc := 85) (n := 0) (i := 0) rfl rfl rfl ?_
          refine eb_dupr (pc := 86) rfl ?_
          refine eb_getI (pc := 87) rfl rfl (by decide) (by decide) rfl ?_
          refine eb_iconst (pc := 90) (n := 1) (v := 1) rfl rfl ?_
          refine eb_iadd (pc := 91) rfl ?_
          refine eb_putI (pc := 92) rfl rfl (by decide) (by decide) rfl rfl ⟨rfl, rfl⟩ ?_
          refine eb_aload_n (pc := 95) (n := 0) (i := 0) rfl rfl rfl ?_
          refine eb_iload_n (pc := 96) (n := 1) (i := 1) rfl rfl rfl ?_
          refine eb_ctV (pc := 97) (As := [.int x1]) (rest := []) rfl (by decide) rfl rfl (by decide) rfl (Nat.le_of_ble_eq_true rfl) ?_
          refine eb_Ct.mono w ?_
          rintro r h8 ⟨rfl, ko10, w⟩
          change eb_Sn _ _ _ 100 _ [] _ _
          refine eb_iload_n (pc := 100) (n := 1) (i := 1) rfl rfl rfl ?_
          refine eb_sipush (pc := 101) (n := 1010) (v := 1010) rfl rfl ?_
          refine eb_icmp_ne (pc := 104) (tgt := 117) rfl (by decide) (fun c11 => ?_) (fun c11 => ?_)
          · replace w := w.1 c11
            refine eb_iload_n (pc := 117) (n := 1) (i := 1) rfl rfl rfl ?_
            refine eb_sipush (pc := 118) (n := 1011) (v := 1011) rfl rfl ?_
            refine eb_icmp_ne (pc := 121) (tgt := 139) rfl (by decide) (fun c12 => ?_) (fun c12 => ?_)
            · replace w := w.1 c12
              refine eb_iconst (pc := 139) (n := 1) (v := 1) rfl rfl ?_
              exact eb_ireturn (pc := 140) rfl rfl (by decide) w
            · replace w := w.2 c12
              refine eb_aload_n (pc := 124) (n := 0) (i := 0) rfl rfl rfl ?_
              refine eb_dupr (pc := 125) rfl ?_
              refine eb_getI (pc := 126) rfl rfl (by decide) (by decide) rfl ?_
              refine eb_iconst (pc := 129) (n := 1) (v := 1) rfl rfl ?_
              refine eb_iadd (pc := 130) rfl ?_
              refine eb_putI (pc := 131) rfl rfl (by decide) (by decide) rfl rfl ⟨rfl, rfl⟩ ?_
              refine eb_aload_n (pc := 134) (n := 0) (i := 0) rfl rfl rfl ?_
              refine eb_iconst (pc := 135) (n := 0) (v := 0) rfl rfl ?_
              refine eb_putI (pc := 136) rfl rfl (by decide) (by decide) rfl rfl ⟨rfl, rfl⟩ ?_
              refine eb_iconst (pc := 139) (n := 1) (v := 1) rfl rfl ?_
              exact eb_ireturn (pc := 140) rfl rfl (by decide) w
          · replace w := w.2 c11
            refine eb_aload_n (pc := 107) (n := 0) (i := 0) rfl rfl rfl ?_
            refine eb_dupr (pc := 108) rfl ?_
            refine eb_getI (pc := 109) rfl rfl (by decide) (by decide) rfl ?_
            refine eb_iconst (pc := 112) (n := 1) (v := 1) rfl rfl ?_
            refine eb_iadd (pc := 113) rfl ?_
            refine eb_putI (pc := 114) rfl rfl (by decide) (by decide) rfl rfl ⟨rfl, rfl⟩ ?_
            refine eb_iload_n (pc := 117) (n := 1) (i := 1) rfl rfl rfl ?_
            refine eb_sipush (pc := 118) (n := 1011) (v := 1011) rfl rfl ?_
            refine eb_icmp_ne (pc := 121) (tgt := 139) rfl (by decide) (fun c13 => ?_) (fun c13 => ?_)
            · replace w := w.1 c13
              refine eb_iconst (pc := 139) (n := 1) (v := 1) rfl rfl ?_
              exact eb_ireturn (pc := 140) rfl rfl (by decide) w
            · replace w := w.2 c13
              refine eb_aload_n (pc := 124) (n := 0) (i := 0) rfl rfl rfl ?_
              refine eb_dupr (pc := 125) rfl ?_
              refine eb_getI (pc := 126) rfl rfl (by decide) (by decide) rfl ?_
              refine eb_iconst (pc := 129) (n := 1) (v := 1) rfl rfl ?_
              refine eb_iadd (pc := 130) rfl ?_
              refine eb_putI (pc := 131) rfl rfl (by decide) (by decide) rfl rfl ⟨rfl, rfl⟩ ?_
              refine eb_aload_n (pc := 134) (n := 0) (i := 0) rfl rfl rfl ?_
              refine eb_iconst (pc := 135) (n := 0) (v := 0) rfl rfl ?_
              refine eb_putI (pc := 136) rfl rfl (by decide) (by decide) rfl rfl ⟨rfl, rfl⟩ ?_
              refine eb_iconst (pc := 139) (n := 1) (v := 1) rfl rfl ?_
              exact eb_ireturn (pc := 140) rfl rfl (by decide) w
        · replace w := w.2 c7
          refine eb_aload_n (pc := 77) (n := 0) (i := 0) rfl rfl rfl ?_
          refine eb_getR (pc := 78) rfl rfl (by decide) (by decide) rfl (ko_s_reader_laws_0 ko) ?_
          refine eb_iconst (pc := 81) (n := 4) (v := 4) rfl rfl ?_
          refine eb_ctV (pc := 82) (As := [.int 4]) (rest := []) rfl (by decide) rfl rfl (by decide) rfl (Nat.le_of_ble_eq_true rfl) ?_
          refine eb_Ct.mono w ?_
          rintro r h14 ⟨rfl, ko16, w⟩
          change eb_Sn _ _ _ 85 _ [] _ _
          refine eb_aload_n (pc := 85) (n := 0) (i := 0) rfl rfl rfl ?_
          refine eb_dupr (pc := 86) rfl ?_
          refine eb_getI (pc := 87) rfl rfl (by decide) (by decide) rfl ?_
          refine eb_iconst (pc := 90) (n := 1) (v := 1) rfl rfl ?_
          refine eb_iadd (pc := 91) rfl ?_
          refine eb_putI (pc := 92) rfl rfl (by decide) (by decide) rfl rfl ⟨rfl, rfl⟩ ?_
          refine eb_aload_n (pc := 95) (n := 0) (i := 0) rfl rfl rfl ?_
          refine eb_iload_n (pc := 96) (n := 1) (i := 1) rfl rfl rfl ?_
          refine eb_ctV (pc := 97) (As := [.int x1]) (rest := []) rfl (by decide) rfl rfl (by decide) rfl (Nat.le_of_ble_eq_true rfl) ?_
          refine eb_Ct.mono w ?_
          rintro r h17 ⟨rfl, ko19, w⟩
          change eb_Sn _ _ _ 100 _ [] _ _
          refine eb_iload_n (pc := 100) (n := 1) (i := 1) rfl rfl rfl ?_
          refine eb_sipush (pc := 101) (n := 1010) (v := 1010) rfl rfl ?_
          refine eb_icmp_ne (pc := 104) (tgt := 117) rfl (by decide) (fun c20 => ?_) (fun c20 => ?_)
          · replace w := w.1 c20
            refine eb_iload_n (pc := 117) (n := 1) (i := 1) rfl rfl rfl ?_
            refine eb_sipush (pc := 118) (n := 1011) (v := 1011) rfl rfl ?_
            refine eb_icmp_ne (pc := 121) (tgt := 139) rfl (by decide) (fun c21 => ?_) (fun c21 => ?_)
            · replace w := w.1 c21
              refine eb_iconst (pc := 139) (n := 1) (v := 1) rfl rfl ?_
              exact eb_ireturn (pc := 140) rfl rfl (by decide) w
            · replace w := w.2 c21
              refine eb_aload_n (pc := 124) (n := 0) (i := 0) rfl rfl rfl ?_
              refine eb_dupr (pc := 125) rfl ?_
              refine eb_getI (pc := 126) rfl rfl (by decide) (by decide) rfl ?_
              refine eb_iconst (pc := 129) (n := 1) (v := 1) rfl rfl ?_
              refine eb_iadd (pc := 130) rfl ?_
              refine eb_putI (pc := 131) rfl rfl (by decide) (by decide) rfl rfl ⟨rfl, rfl⟩ ?_
              refine eb_aload_n (pc := 134) (n := 0) (i := 0) rfl rfl rfl ?_
              refine eb_iconst (pc := 135) (n := 0) (v := 0) rfl rfl ?_
              refine eb_putI (pc := 136) rfl rfl (by decide) (by decide) rfl rfl ⟨rfl, rfl⟩ ?_
              refine eb_iconst (pc := 139) (n := 1) (v := 1) rfl rfl ?_
              exact eb_ireturn (pc := 140) rfl rfl (by decide) w
          · replace w := w.2 c20
            refine eb_aload_n (pc := 107) (n := 0) (i := 0) rfl rfl rfl ?_
            refine eb_dupr (pc := 108) rfl ?_
            refine eb_getI (pc := 109) rfl rfl (by decide) (by decide) rfl ?_
            refine eb_iconst (pc := 112) (n := 1) (v := 1) rfl rfl ?_
            refine eb_iadd (pc := 113) rfl ?_
            refine eb_putI (pc := 114) rfl rfl (by decide) (by decide) rfl rfl ⟨rfl, rfl⟩ ?_
            refine eb_iload_n (pc := 117) (n := 1) (i := 1) rfl rfl rfl ?_
            refine eb_sipush (pc := 118) (n := 1011) (v := 1011) rfl rfl ?_
            refine eb_icmp_ne (pc := 121) (tgt := 139) rfl (by decide) (fun c22 => ?_) (fun c22 => ?_)
            · replace w := w.1 c22
              refine eb_iconst (pc := 139) (n := 1) (v := 1) rfl rfl ?_
              exact eb_ireturn (pc := 140) rfl rfl (by decide) w
            · replace w := w.2 c22
              refine eb_aload_n (pc := 124) (n := 0) (i := 0) rfl rfl rfl ?_
              refine eb_dupr (pc := 125) rfl ?_
              refine eb_getI (pc := 126) rfl rfl (by decide) (by decide) rfl ?_
              refine eb_iconst (pc := 129) (n := 1) (v := 1) rfl rfl ?_
              refine eb_iadd (pc := 130) rfl ?_
              refine eb_putI (pc := 131) rfl rfl (by decide) (by decide) rfl rfl ⟨rfl, rfl⟩ ?_
              refine eb_aload_n (pc := 134) (n := 0) (i := 0) rfl rfl rfl ?_
              refine eb_iconst (pc := 135) (n := 0) (v := 0) rfl rfl ?_
              refine eb_putI (pc := 136) rfl rfl (by decide) (by decide) rfl rfl ⟨rfl, rfl⟩ ?_
              refine eb_iconst (pc := 139) (n := 1) (v := 1) rfl rfl ?_
              exact eb_ireturn (pc := 140) rfl rfl (by decide) w
      · replace w := w.2 c6
        refine eb_iconst (pc := 66) (n := 0) (v := 0) rfl rfl ?_
        exact eb_ireturn (pc := 67) rfl rfl (by decide) w
    refine eb_icmp_eq (pc := 32) (tgt := 56) rfl (by decide) (fun c2 => ?_) (fun c2 => ?_)
    · refine eb_iconst (pc := 56) (n := 1) (v := 1) rfl rfl ?_
      refine eb_goto (pc := 57) (tgt := 61) rfl (by decide) ?_
      simp only [if_pos c2] at jj23 ⊢
      exact jj23
    · refine eb_aload_n (pc := 35) (n := 0) (i := 0) rfl rfl rfl ?_
      refine eb_getI (pc := 36) rfl rfl (by decide) (by decide) rfl ?_
      refine eb_if_eq (pc := 39) (tgt := 60) rfl (by decide) (fun c3 => ?_) (fun c3 => ?_)
      · refine eb_iconst (pc := 60) (n := 0) (v := 0) rfl rfl ?_
        simp only [if_neg c2, if_pos c3] at jj23 ⊢
        exact jj23
      · refine eb_iload_n (pc := 42) (n := 1) (i := 1) rfl rfl rfl ?_
        refine eb_sipush (pc := 43) (n := 1040) (v := 1040) rfl rfl ?_
        refine eb_icmp_eq (pc := 46) (tgt := 56) rfl (by decide) (fun c4 => ?_) (fun c4 => ?_)
        · refine eb_iconst (pc := 56) (n := 1) (v := 1) rfl rfl ?_
          refine eb_goto (pc := 57) (tgt := 61) rfl (by decide) ?_
          simp only [if_neg c2, if_neg c3, if_pos c4] at jj23 ⊢
          exact jj23
        · refine eb_iload_n (pc := 49) (n := 1) (i := 1) rfl rfl rfl ?_
          refine eb_sipush (pc := 50) (n := 1010) (v := 1010) rfl rfl ?_
          refine eb_icmp_ne (pc := 53) (tgt := 60) rfl (by decide) (fun c5 => ?_) (fun c5 => ?_)
          · refine eb_iconst (pc := 60) (n := 0) (v := 0) rfl rfl ?_
            simp only [if_neg c2, if_neg c3, if_neg c4, if_neg c5] at jj23 ⊢
            exact jj23
          · refine eb_iconst (pc := 56) (n := 1) (v := 1) rfl rfl ?_
            refine eb_goto (pc := 57) (tgt := 61) rfl (by decide) ?_
            simp only [if_neg c2, if_neg c3, if_neg c4, if_pos c5] at jj23 ⊢
            exact jj23
  · replace w := w.2 c1
    refine eb_iload_n (pc := 4) (n := 1) (i := 1) rfl rfl rfl ?_
    refine eb_sipush (pc := 5) (n := 1005) (v := 1005) rfl rfl ?_
    refine eb_icmp_gt (pc := 8) (tgt := 28) rfl (by decide) (fun c24 => ?_) (fun c24 => ?_)
    · replace w := w.1 c24
      refine eb_iload_n (pc := 28) (n := 1) (i := 1) rfl rfl rfl ?_
      refine eb_sipush (pc := 29) (n := 1011) (v := 1011) rfl rfl ?_
      have jj46 : eb_Sn (d + 1) m_X3_openAtom h0 61 [(0, .ref s_reader_laws), (1, .int x1)] [.int (if x1 = (1011 : Int32) then 1 else (if (eb_I h s_reader_laws 10) = 0 then 0 else (if x1 = (1040 : Int32) then 1 else (if x1 = (1010 : Int32) then 1 else 0))) : Int32)] h Q := by
        refine eb_istore_n (pc := 61) (n := 2) (i := 2) (ls2 := [(2, .int (if x1 = (1011 : Int32) then 1 else (if (eb_I h s_reader_laws 10) = 0 then 0 else (if x1 = (1040 : Int32) then 1 else (if x1 = (1010 : Int32) then 1 else 0))) : Int32)), (0, .ref s_reader_laws), (1, .int x1)]) rfl (Nat.le_of_ble_eq_true rfl) rfl rfl ?_
        refine eb_iload_n (pc := 62) (n := 2) (i := 2) rfl rfl rfl ?_
        refine eb_if_ne (pc := 63) (tgt := 68) rfl (by decide) (fun c29 => ?_) (fun c29 => ?_)
        · replace w := w.1 c29
          refine eb_aload_n (pc := 68) (n := 0) (i := 0) rfl rfl rfl ?_
          refine eb_getI (pc := 69) rfl rfl (by decide) (by decide) rfl ?_
          refine eb_bipush (pc := 72) (n := 6) (v := 6) rfl rfl ?_
          refine eb_icmp_lt (pc := 74) (tgt := 85) rfl (by decide) (fun c30 => ?_) (fun c30 => ?_)
          · replace w := w.1 c30
            refine eb_aload_n (pc := 85) (n := 0) (i := 0) rfl rfl rfl ?_
            refine eb_dupr (pc := 86) rfl ?_
            refine eb_getI (pc := 87) rfl rfl (by decide) (by decide) rfl ?_
            refine eb_iconst (pc := 90) (n := 1) (v := 1) rfl rfl ?_
            refine eb_iadd (pc := 91) rfl ?_
            refine eb_putI (pc := 92) rfl rfl (by decide) (by decide) rfl rfl ⟨rfl, rfl⟩ ?_
            refine eb_aload_n (pc := 95) (n := 0) (i := 0) rfl rfl rfl ?_
            refine eb_iload_n (pc := 96) (n := 1) (i := 1) rfl rfl rfl ?_
            refine eb_ctV (pc := 97) (As := [.int x1]) (rest := []) rfl (by decide) rfl rfl (by decide) rfl (Nat.le_of_ble_eq_true rfl) ?_
            refine eb_Ct.mono w ?_
            rintro r h31 ⟨rfl, ko33, w⟩
            change eb_Sn _ _ _ 100 _ [] _ _
            refine eb_iload_n (pc := 100) (n := 1) (i := 1) rfl rfl rfl ?_
            refine eb_sipush (pc := 101) (n := 1010) (v := 1010) rfl rfl ?_
            refine eb_icmp_ne (pc := 104) (tgt := 117) rfl (by decide) (fun c34 => ?_) (fun c34 => ?_)
            · replace w := w.1 c34
              refine eb_iload_n (pc := 117) (n := 1) (i := 1) rfl rfl rfl ?_
              refine eb_sipush (pc := 118) (n := 1011) (v := 1011) rfl rfl ?_
              refine eb_icmp_ne (pc := 121) (tgt := 139) rfl (by decide) (fun c35 => ?_) (fun c35 => ?_)
              · replace w := w.1 c35
                refine eb_iconst (pc := 139) (n := 1) (v := 1) rfl rfl ?_
                exact eb_ireturn (pc := 140) rfl rfl (by decide) w
              · replace w := w.2 c35
                refine eb_aload_n (pc := 124) (n := 0) (i := 0) rfl rfl rfl ?_
                refine eb_dupr (pc := 125) rfl ?_
                refine eb_getI (pc := 126) rfl rfl (by decide) (by decide) rfl ?_
                refine eb_iconst (pc := 129) (n := 1) (v := 1) rfl rfl ?_
                refine eb_iadd (pc := 130) rfl ?_
                refine eb_putI (pc := 131) rfl rfl (by decide) (by decide) rfl rfl ⟨rfl, rfl⟩ ?_
                refine eb_aload_n (pc := 134) (n := 0) (i := 0) rfl rfl rfl ?_
                refine eb_iconst (pc := 135) (n := 0) (v := 0) rfl rfl ?_
                refine eb_putI (pc := 136) rfl rfl (by decide) (by decide) rfl rfl ⟨rfl, rfl⟩ ?_
                refine eb_iconst (pc := 139) (n := 1) (v := 1) rfl rfl ?_
                exact eb_ireturn (pc := 140) rfl rfl (by decide) w
            · replace w := w.2 c34
              refine eb_aload_n (pc := 107) (n := 0) (i := 0) rfl rfl rfl ?_
              refine eb_dupr (pc := 108) rfl ?_
              refine eb_getI (pc := 109) rfl rfl (by decide) (by decide) rfl ?_
              refine eb_iconst (pc := 112) (n := 1) (v := 1) rfl rfl ?_
              refine eb_iadd (pc := 113) rfl ?_
              refine eb_putI (pc := 114) rfl rfl (by decide) (by decide) rfl rfl ⟨rfl, rfl⟩ ?_
              refine eb_iload_n (pc := 117) (n := 1) (i := 1) rfl rfl rfl ?_
              refine eb_sipush (pc := 118) (n := 1011) (v := 1011) rfl rfl ?_
              refine eb_icmp_ne (pc := 121) (tgt := 139) rfl (by decide) (fun c36 => ?_) (fun c36 => ?_)
              · replace w := w.1 c36
                refine eb_iconst (pc := 139) (n := 1) (v := 1) rfl rfl ?_
                exact eb_ireturn (pc := 140) rfl rfl (by decide) w
              · replace w := w.2 c36
                refine eb_aload_n (pc := 124) (n := 0) (i := 0) rfl rfl rfl ?_
                refine eb_dupr (pc := 125) rfl ?_
                refine eb_getI (pc := 126) rfl rfl (by decide) (by decide) rfl ?_
                refine eb_iconst (pc := 129) (n := 1) (v := 1) rfl rfl ?_
                refine eb_iadd (pc := 130) rfl ?_
                refine eb_putI (pc := 131) rfl rfl (by decide) (by decide) rfl rfl ⟨rfl, rfl⟩ ?_
                refine eb_aload_n (pc := 134) (n := 0) (i := 0) rfl rfl rfl ?_
                refine eb_iconst (pc := 135) (n := 0) (v := 0) rfl rfl ?_
                refine eb_putI (pc := 136) rfl rfl (by decide) (by decide) rfl rfl ⟨rfl, rfl⟩ ?_
                refine eb_iconst (pc := 139) (n := 1) (v := 1) rfl rfl ?_
                exact eb_ireturn (pc := 140) rfl rfl (by decide) w
          · replace w := w.2 c30
            refine eb_aload_n (pc := 77) (n := 0) (i := 0) rfl rfl rfl ?_
            refine eb_getR (pc := 78) rfl rfl (by decide) (by decide) rfl (ko_s_reader_laws_0 ko) ?_
            refine eb_iconst (pc := 81) (n := 4) (v := 4) rfl rfl ?_
            refine eb_ctV (pc := 82) (As := [.int 4]) (rest := []) rfl (by decide) rfl rfl (by decide) rfl (Nat.le_of_ble_eq_true rfl) ?_
            refine eb_Ct.mono w ?_
            rintro r h37 ⟨rfl, ko39, w⟩
            change eb_Sn _ _ _ 85 _ [] _ _
            refine eb_aload_n (pc := 85) (n := 0) (i := 0) rfl rfl rfl ?_
            refine eb_dupr (pc := 86) rfl ?_
            refine eb_getI (pc := 87) rfl rfl (by decide) (by decide) rfl ?_
            refine eb_iconst (pc := 90) (n := 1) (v := 1) rfl rfl ?_
            refine eb_iadd (pc := 91) rfl ?_
            refine eb_putI (pc := 92) rfl rfl (by decide) (by decide) rfl rfl ⟨rfl, rfl⟩ ?_
            refine eb_aload_n (pc := 95) (n := 0) (i := 0) rfl rfl rfl ?_
            refine eb_iload_n (pc := 96) (n := 1) (i := 1) rfl rfl rfl ?_
            refine eb_ctV (pc := 97) (As := [.int x1]) (rest := []) rfl (by decide) rfl rfl (by decide) rfl (Nat.le_of_ble_eq_true rfl) ?_
            refine eb_Ct.mono w ?_
            rintro r h40 ⟨rfl, ko42, w⟩
            change eb_Sn _ _ _ 100 _ [] _ _
            refine eb_iload_n (pc := 100) (n := 1) (i := 1) rfl rfl rfl ?_
            refine eb_sipush (pc := 101) (n := 1010) (v := 1010) rfl rfl ?_
            refine eb_icmp_ne (pc := 104) (tgt := 117) rfl (by decide) (fun c43 => ?_) (fun c43 => ?_)
            · replace w := w.1 c43
              refine eb_iload_n (pc := 117) (n := 1) (i := 1) rfl rfl rfl ?_
              refine eb_sipush (pc := 118) (n := 1011) (v := 1011) rfl rfl ?_
              refine eb_icmp_ne (pc := 121) (tgt := 139) rfl (by decide) (fun c44 => ?_) (fun c44 => ?_)
              · replace w := w.1 c44
                refine eb_iconst (pc := 139) (n := 1) (v := 1) rfl rfl ?_
                exact eb_ireturn (pc := 140) rfl rfl (by decide) w
              · replace w := w.2 c44
                refine eb_aload_n (pc := 124) (n := 0) (i := 0) rfl rfl rfl ?_
                refine eb_dupr (pc := 125) rfl ?_
                refine eb_getI (pc := 126) rfl rfl (by decide) (by decide) rfl ?_
                refine eb_iconst (pc := 129) (n := 1) (v := 1) rfl rfl ?_
                refine eb_iadd (pc := 130) rfl ?_
                refine eb_putI (pc := 131) rfl rfl (by decide) (by decide) rfl rfl ⟨rfl, rfl⟩ ?_
                refine eb_aload_n (pc := 134) (n := 0) (i := 0) rfl rfl rfl ?_
                refine eb_iconst (pc := 135) (n := 0) (v := 0) rfl rfl ?_
                refine eb_putI (pc := 136) rfl rfl (by decide) (by decide) rfl rfl ⟨rfl, rfl⟩ ?_
                refine eb_iconst (pc := 139) (n := 1) (v := 1) rfl rfl ?_
                exact eb_ireturn (pc := 140) rfl rfl (by decide) w
            · replace w := w.2 c43
              refine eb_aload_n (pc := 107) (n := 0) (i := 0) rfl rfl rfl ?_
              refine eb_dupr (pc := 108) rfl ?_
              refine eb_getI (pc := 109) rfl rfl (by decide) (by decide) rfl ?_
              refine eb_iconst (pc := 112) (n := 1) (v := 1) rfl rfl ?_
              refine eb_iadd (pc := 113) rfl ?_
              refine eb_putI (pc := 114) rfl rfl (by decide) (by decide) rfl rfl ⟨rfl, rfl⟩ ?_
              refine eb_iload_n (pc := 117) (n := 1) (i := 1) rfl rfl rfl ?_
              refine eb_sipush (pc := 118) (n := 1011) (v := 1011) rfl rfl ?_
              refine eb_icmp_ne (pc := 121) (tgt := 139) rfl (by decide) (fun c45 => ?_) (fun c45 => ?_)
              · replace w := w.1 c45
                refine eb_iconst (pc := 139) (n := 1) (v := 1) rfl rfl ?_
                exact eb_ireturn (pc := 140) rfl rfl (by decide) w
              · replace w := w.2 c45
                refine eb_aload_n (pc := 124) (n := 0) (i := 0) rfl rfl rfl ?_
                refine eb_dupr (pc := 125) rfl ?_
                refine eb_getI (pc := 126) rfl rfl (by decide) (by decide) rfl ?_
                refine eb_iconst (pc := 129) (n := 1) (v := 1) rfl rfl ?_
                refine eb_iadd (pc := 130) rfl ?_
                refine eb_putI (pc := 131) rfl rfl (by decide) (by decide) rfl rfl ⟨rfl, rfl⟩ ?_
                refine eb_aload_n (pc := 134) (n := 0) (i := 0) rfl rfl rfl ?_
                refine eb_iconst (pc := 135) (n := 0) (v := 0) rfl rfl ?_
                refine eb_putI (pc := 136) rfl rfl (by decide) (by decide) rfl rfl ⟨rfl, rfl⟩ ?_
                refine eb_iconst (pc := 139) (n := 1) (v := 1) rfl rfl ?_
                exact eb_ireturn (pc := 140) rfl rfl (by decide) w
        · replace w := w.2 c29
          refine eb_iconst (pc := 66) (n := 0) (v := 0) rfl rfl ?_
          exact eb_ireturn (pc := 67) rfl rfl (by decide) w
      refine eb_icmp_eq (pc := 32) (tgt := 56) rfl (by decide) (fun c25 => ?_) (fun c25 => ?_)
      · refine eb_iconst (pc := 56) (n := 1) (v := 1) rfl rfl ?_
        refine eb_goto (pc := 57) (tgt := 61) rfl (by decide) ?_
        simp only [if_pos c25] at jj46 ⊢
        exact jj46
      · refine eb_aload_n (pc := 35) (n := 0) (i := 0) rfl rfl rfl ?_
        refine eb_getI (pc := 36) rfl rfl (by decide) (by decide) rfl ?_
        refine eb_if_eq (pc := 39) (tgt := 60) rfl (by decide) (fun c26 => ?_) (fun c26 => ?_)
        · refine eb_iconst (pc := 60) (n := 0) (v := 0) rfl rfl ?_
          simp only [if_neg c25, if_pos c26] at jj46 ⊢
          exact jj46
        · refine eb_iload_n (pc := 42) (n := 1) (i := 1) rfl rfl rfl ?_
          refine eb_sipush (pc := 43) (n := 1040) (v := 1040) rfl rfl ?_
          refine eb_icmp_eq (pc := 46) (tgt := 56) rfl (by decide) (fun c27 => ?_) (fun c27 => ?_)
          · refine eb_iconst (pc := 56) (n := 1) (v := 1) rfl rfl ?_
            refine eb_goto (pc := 57) (tgt := 61) rfl (by decide) ?_
            simp only [if_neg c25, if_neg c26, if_pos c27] at jj46 ⊢
            exact jj46
          · refine eb_iload_n (pc := 49) (n := 1) (i := 1) rfl rfl rfl ?_
            refine eb_sipush (pc := 50) (n := 1010) (v := 1010) rfl rfl ?_
            refine eb_icmp_ne (pc := 53) (tgt := 60) rfl (by decide) (fun c28 => ?_) (fun c28 => ?_)
            · refine eb_iconst (pc := 60) (n := 0) (v := 0) rfl rfl ?_
              simp only [if_neg c25, if_neg c26, if_neg c27, if_neg c28] at jj46 ⊢
              exact jj46
            · refine eb_iconst (pc := 56) (n := 1) (v := 1) rfl rfl ?_
              refine eb_goto (pc := 57) (tgt := 61) rfl (by decide) ?_
              simp only [if_neg c25, if_neg c26, if_neg c27, if_pos c28] at jj46 ⊢
              exact jj46
    · replace w := w.2 c24
      refine eb_aload_n (pc := 11) (n := 0) (i := 0) rfl rfl rfl ?_
      refine eb_iload_n (pc := 12) (n := 1) (i := 1) rfl rfl rfl ?_
      refine eb_ctV (pc := 13) (As := [.int x1]) (rest := []) rfl (by decide) rfl rfl (by decide) rfl (Nat.le_of_ble_eq_true rfl) ?_
      refine eb_Ct.mono w ?_
      rintro r h47 ⟨rfl, ko49, w⟩
      change eb_Sn _ _ _ 16 _ [] _ _
      refine eb_aload_n (pc := 16) (n := 0) (i := 0) rfl rfl rfl ?_
      refine eb_iconst (pc := 17) (n := 0) (v := 0) rfl rfl ?_
      refine eb_putI (pc := 18) rfl rfl (by decide) (by decide) rfl rfl ⟨rfl, rfl⟩ ?_
      refine eb_aload_n (pc := 21) (n := 0) (i := 0) rfl rfl rfl ?_
      refine eb_iconst (pc := 22) (n := 0) (v := 0) rfl rfl ?_
      refine eb_putI (pc := 23) rfl rfl (by decide) (by decide) rfl rfl ⟨rfl, rfl⟩ ?_
      refine eb_iconst (pc := 26) (n := 1) (v := 1) rfl rfl ?_
      exact eb_ireturn (pc := 27) rfl rfl (by decide) w
theorem T_X3_openAtom {d : Nat} {h : eb_H} {Q : Option Value → eb_H → Prop} (x1 : Int32)  (ko : eb_KO h) (w : ((x1 < 0 → ((¬ (if x1 = (1011 : Int32) then 1 else (if (eb_I h s_reader_laws 10) = 0 then 0 else (if x1 = (1040 : Int32) then 1 else (if x1 = (1010 : Int32) then 1 else 0))) : Int32) = 0 → (((eb_I h s_reader_laws 5) < (6 : Int32) → eb_Ct d 39 [.ref s_reader_laws, .int x1] (eb_sI h s_reader_laws 5 ((eb_I h s_reader_laws 5) + 1)) (fun r h8 => r = none ∧ eb_KO h8 ∧ ((¬ x1 = (1010 : Int32) → ((¬ x1 = (1011 : Int32) → Q (some (.int 1)) h8) ∧ (x1 = (1011 : Int32) → Q (some (.int 1)) (eb_sI (eb_sI h8 s_reader_laws 6 ((eb_I h8 s_reader_laws 6) + 1)) s_reader_laws 10 0)))) ∧ (x1 = (1010 : Int32) → ((¬ x1 = (1011 : Int32) → Q (some (.int 1)) (eb_sI h8 s_reader_laws 7 ((eb_I h8 s_reader_laws 7) + 1))) ∧ (x1 = (1011 : Int32) → Q (some (.int 1)) (eb_sI (eb_sI (eb_sI h8 s_reader_laws 7 ((eb_I h8 s_reader_laws 7) + 1)) s_reader_laws 6 ((eb_I (eb_sI h8 s_reader_laws 7 ((eb_I h8 s_reader_laws 7) + 1)) s_reader_laws 6) + 1)) s_reader_laws 10 0))))))) ∧ (¬ ((eb_I h s_reader_laws 5) < (6 : Int32)) → eb_Ct d 68 [.ref s_tape, .int 4] h (fun r h14 => r = none ∧ eb_KO h14 ∧ eb_Ct d 39 [.ref s_reader_laws, .int x1] (eb_sI h14 s_reader_laws 5 ((eb_I h14 s_reader_laws 5) + 1)) (fun r h17 => r = none ∧ eb_KO h17 ∧ ((¬ x1 = (1010 : Int32) → ((¬ x1 = (1011 : Int32) → Q (some (.int 1)) h17) ∧ (x1 = (1011 : Int32) → Q (some (.int 1)) (eb_sI (eb_sI h17 s_reader_laws 6 ((eb_I h17 s_reader_laws 6) + 1)) s_reader_laws 10 0)))) ∧ (x1 = (1010 : Int32) → ((¬ x1 = (1011 : Int32) → Q (some (.int 1)) (eb_sI h17 s_reader_laws 7 ((eb_I h17 s_reader_laws 7) + 1))) ∧ (x1 = (1011 : Int32) → Q (some (.int 1)) (eb_sI (eb_sI (eb_sI h17 s_reader_laws 7 ((eb_I h17 s_reader_laws 7) + 1)) s_reader_laws 6 ((eb_I (eb_sI h17 s_reader_laws 7 ((eb_I h17 s_reader_laws 7) + 1)) s_reader_laws 6) + 1)) s_reader_laws 10 0)))))))))) ∧ ((if x1 = (1011 : Int32) then 1 else (if (eb_I h s_reader_laws 10) = 0 then 0 else (if x1 = (1040 : Int32) then 1 else (if x1 = (1010 : Int32) then 1 else 0))) : Int32) = 0 → Q (some (.int 0)) h))) ∧ (¬ (x1 < 0) → (((1005 : Int32) < x1 → ((¬ (if x1 = (1011 : Int32) then 1 else (if (eb_I h s_reader_laws 10) = 0 then 0 else (if x1 = (1040 : Int32) then 1 else (if x1 = (1010 : Int32) then 1 else 0))) : Int32) = 0 → (((eb_I h s_reader_laws 5) < (6 : Int32) → eb_Ct d 39 [.ref s_reader_laws, .int x1] (eb_sI h s_reader_laws 5 ((eb_I h s_reader_laws 5) + 1)) (fun r h31 => r = none ∧ eb_KO h31 ∧ ((¬ x1 = (1010 : Int32) → ((¬ x1 = (1011 : Int32) → Q (some (.int 1)) h31) ∧ (x1 = (1011 : Int32) → Q (some (.int 1)) (eb_sI (eb_sI h31 s_reader_laws 6 ((eb_I h31 s_reader_laws 6) + 1)) s_reader_laws 10 0)))) ∧ (x1 = (1010 : Int32) → ((¬ x1 = (1011 : Int32) → Q (some (.int 1)) (eb_sI h31 s_reader_laws 7 ((eb_I h31 s_reader_laws 7) + 1))) ∧ (x1 = (1011 : Int32) → Q (some (.int 1)) (eb_sI (eb_sI (eb_sI h31 s_reader_laws 7 ((eb_I h31 s_reader_laws 7) + 1)) s_reader_laws 6 ((eb_I (eb_sI h31 s_reader_laws 7 ((eb_I h31 s_reader_laws 7) + 1)) s_reader_laws 6) + 1)) s_reader_laws 10 0))))))) ∧ (¬ ((eb_I h s_reader_laws 5) < (6 : Int32)) → eb_Ct d 68 [.ref s_tape, .int 4] h (fun r h37 => r = none ∧ eb_KO h37 ∧ eb_Ct d 39 [.ref s_reader_laws, .int x1] (eb_sI h37 s_reader_laws 5 ((eb_I h37 s_reader_laws 5) + 1)) (fun r h40 => r = none ∧ eb_KO h40 ∧ ((¬ x1 = (1010 : Int32) → ((¬ x1 = (1011 : Int32) → Q (some (.int 1)) h40) ∧ (x1 = (1011 : Int32) → Q (some (.int 1)) (eb_sI (eb_sI h40 s_reader_laws 6 ((eb_I h40 s_reader_laws 6) + 1)) s_reader_laws 10 0)))) ∧ (x1 = (1010 : Int32) → ((¬ x1 = (1011 : Int32) → Q (some (.int 1)) (eb_sI h40 s_reader_laws 7 ((eb_I h40 s_reader_laws 7) + 1))) ∧ (x1 = (1011 : Int32) → Q (some (.int 1)) (eb_sI (eb_sI (eb_sI h40 s_reader_laws 7 ((eb_I h40 s_reader_laws 7) + 1)) s_reader_laws 6 ((eb_I (eb_sI h40 s_reader_laws 7 ((eb_I h40 s_reader_laws 7) + 1)) s_reader_laws 6) + 1)) s_reader_laws 10 0)))))))))) ∧ ((if x1 = (1011 : Int32) then 1 else (if (eb_I h s_reader_laws 10) = 0 then 0 else (if x1 = (1040 : Int32) then 1 else (if x1 = (1010 : Int32) then 1 else 0))) : Int32) = 0 → Q (some (.int 0)) h))) ∧ (¬ ((1005 : Int32) < x1) → eb_Ct d 40 [.ref s_reader_laws, .int x1] h (fun r h47 => r = none ∧ eb_KO h47 ∧ Q (some (.int 1)) (eb_sI (eb_sI h47 s_reader_laws 9 0) s_reader_laws 10 0))))))) : eb_Ct (d + 1) 34 [.ref s_reader_laws, .int x1] h Q :=
  eb_bodyQ (by decide) ok_X3_openAtom (Nat.le_of_ble_eq_true rfl) (b_X3_openAtom_0 (h0 := h) x1  ko w)
theorem b_X3_joinOn_0 {d : Nat} {h0 h : eb_H} {Q : Option Value → eb_H → Prop} (x1 : Int32)  (ko : eb_KO h) (w : ((x1 = (1060 : Int32) → (((eb_I h s_reader_laws 8) = (2 : Int32) → Q (some (.int 0)) h) ∧ (¬ ((eb_I h s_reader_laws 8) = (2 : Int32)) → eb_Ct d 36 [.ref s_reader_laws, .int x1] h (fun r h3 => ∃ y4, r = some (.int y4) ∧ eb_KO h3 ∧ Q (some (.int (if y4 = 0 then 0 else 1 : Int32))) h3)))) ∧ (¬ (x1 = (1060 : Int32)) → ((x1 = (1061 : Int32) → (((eb_I h s_reader_laws 8) = (2 : Int32) → Q (some (.int 0)) h) ∧ (¬ ((eb_I h s_reader_laws 8) = (2 : Int32)) → eb_Ct d 36 [.ref s_reader_laws, .int x1] h (fun r h10 => ∃ y11, r = some (.int y11) ∧ eb_KO h10 ∧ Q (some (.int (if y11 = 0 then 0 else 1 : Int32))) h10)))) ∧ (¬ (x1 = (1061 : Int32)) → ((¬ x1 = (1070 : Int32) → (((eb_I h s_reader_laws 6) ≤ 0 → ((x1 = (1050 : Int32) → (((eb_I h s_reader_laws 8) = 0 → eb_Ct d 36 [.ref s_reader_laws, .int x1] (eb_sI h s_reader_laws 8 1) (fun r h19 => ∃ y20, r = some (.int y20) ∧ eb_KO h19 ∧ (narrow .boolean (.int y20) = .int y20) ∧ Q (some (.int y20)) h19)) ∧ (¬ ((eb_I h s_reader_laws 8) = 0) → Q (some (.int 0)) h))) ∧ (¬ (x1 = (1050 : Int32)) → ((x1 = (1051 : Int32) → (((eb_I h s_reader_laws 8) = 0 → eb_Ct d 36 [.ref s_reader_laws, .int x1] (eb_sI h s_reader_laws 8 1) (fun r h25 => ∃ y26, r = some (.int y26) ∧ eb_KO h25 ∧ (narrow .boolean (.int y26) = .int y26) ∧ Q (some (.int y26)) h25)) ∧ (¬ ((eb_I h s_reader_laws 8) = 0) → Q (some (.int 0)) h))) ∧ (¬ (x1 = (1051 : Int32)) → ((¬ x1 = (1052 : Int32) → ((¬ (eb_I h s_reader_laws 8) = 0 → ((x1 = (1030 : Int32) → eb_Ct d 36 [.ref s_reader_laws, .int x1] (eb_sI (eb_sI h s_reader_laws 8 0) s_reader_laws 10 1) (fun r h32 => ∃ y33, r = some (.int y33) ∧ eb_KO h32 ∧ (narrow .boolean (.int y33) = .int y33) ∧ Q (some (.int y33)) h32)) ∧ (¬ (x1 = (1030 : Int32)) → ((¬ x1 = (1020 : Int32) → ((¬ x1 = (1080 : Int32) → Q (some (.int 0)) h) ∧ (x1 = (1080 : Int32) → (((1 : Int32) ≤ (eb_I h s_reader_laws 7) → eb_Ct d 38 [.ref s_reader_laws] (eb_sI (eb_sI h s_reader_laws 7 ((eb_I h s_reader_laws 7) - 1)) s_reader_laws 8 2) (fun r h39 => r = none ∧ eb_KO h39 ∧ Q (some (.int 1)) h39)) ∧ (¬ ((1 : Int32) ≤ (eb_I h s_reader_laws 7)) → Q (some (.int 0)) h))))) ∧ (x1 = (1020 : Int32) → eb_Ct d 36 [.ref s_reader_laws, .int x1] (eb_sI (eb_sI h s_reader_laws 8 0) s_reader_laws 10 1) (fun r h42 => ∃ y43, r = some (.int y43) ∧ eb_KO h42 ∧ (narrow .boolean (.int y43) = .int y43) ∧ Q (some (.int y43)) h42)))))) ∧ ((eb_I h s_reader_laws 8) = 0 → Q (some (.int 0)) h))) ∧ (x1 = (1052 : Int32) → (((eb_I h s_reader_laws 8) = 0 → eb_Ct d 36 [.ref s_reader_laws, .int x1] (eb_sI h s_reader_laws 8 1) (fun r h47 => ∃ y48, r = some (.int y48) ∧ eb_KO h47 ∧ (narrow .boolean (.int y48) = .int y48) ∧ Q (some (.int y48)) h47)) ∧ (¬ ((eb_I h s_reader_laws 8) = 0) → Q (some (.int 0)) h))))))))) ∧ (¬ ((eb_I h s_reader_laws 6) ≤ 0) → ((x1 = (1081 : Int32) → eb_Ct d 38 [.ref s_reader_laws] (eb_sI h s_reader_laws 6 ((eb_I h s_reader_laws 6) - 1)) (fun r h52 => r = none ∧ eb_KO h52 ∧ Q (some (.int 1)) h52)) ∧ (¬ (x1 = (1081 : Int32)) → Q (some (.int 0)) h))))) ∧ (x1 = (1070 : Int32) → (((eb_I h s_reader_laws 8) = (2 : Int32) → Q (some (.int 0)) h) ∧ (¬ ((eb_I h s_reader_laws 8) = (2 : Int32)) → eb_Ct d 36 [.ref s_reader_laws, .int x1] h (fun r h56 => ∃ y57, r = some (.int y57) ∧ eb_KO h56 ∧ Q (some (.int (if y57 = 0 then 0 else 1 : Int32))) h56)))))))))) : eb_Sn (d + 1) m_X3_joinOn h0 0 [(0, .ref s_reader_laws), (1, .int x1)] [] h Q := by
  refine eb_iload_n (pc := 0) (n := 1) (i := 1) rfl rfl rfl ?_
  refine eb_sipush (pc := 1) (n := 1060) (v := 1060) rfl rfl ?_
  refine eb_icmp_eq (pc := 4) (tgt := 21) rfl (by decide) (fun c1 => ?_) (fun c1 => ?_)
  · replace w := w.1 c1
    refine eb_aload_n (pc := 21) (n := 0) (i := 0) rfl rfl rfl ?_
    refine eb_getI (pc := 22) rfl rfl (by decide) (by decide) rfl ?_
    refine eb_iconst (pc := 25) (n := 2) (v := 2) rfl rfl ?_
    refine eb_icmp_eq (pc := 26) (tgt := 41) rfl (by decide) (fun c2 => ?_) (fun c2 => ?_)
    · replace w := w.1 c2
      refine eb_iconst (pc := 41) (n := 0) (v := 0) rfl rfl ?_
      exact eb_ireturn (pc := 42) rfl rfl (by decide) w
    · replace w := w.2 c2
      refine eb_aload_n (pc := 29) (n := 0) (i := 0) rfl rfl rfl ?_
      refine eb_iload_n (pc := 30) (n := 1) (i := 1) rfl rfl rfl ?_
      refine eb_ctV (pc := 31) (As := [.int x1]) (rest := []) rfl (by decide) rfl rfl (by decide) rfl (Nat.le_of_ble_eq_true rfl) ?_
      refine eb_Ct.mono w ?_
      rintro r h3 ⟨y4, rfl, ko5, w⟩
      change eb_Sn _ _ _ 34 _ [.int y4] _ _
      have jj7 : eb_Sn (d + 1) m_X3_joinOn h0 42 [(0, .ref s_reader_laws), (1, .int x1)] [.int (if y4 = 0 then 0 else 1 : Int32)] h3 Q := by
        exact eb_ireturn (pc := 42) rfl rfl (by (repeat' split) <;> rfl) w
      refine eb_if_eq (pc := 34) (tgt := 41) rfl (by decide) (fun c6 => ?_) (fun c6 => ?_)
      · refine eb_iconst (pc := 41) (n := 0) (v := 0) rfl rfl ?_
        simp only [if_pos c6] at jj7 ⊢
        exact jj7
      · refine eb_iconst (pc := 37) (n := 1) (v := 1) rfl rfl ?_
        refine eb_goto (pc := 38) (tgt := 42) rfl (by decide) ?_
        simp only [if_neg c6] at jj7 ⊢
        exact jj7
  · replace w := w.2 c1
    refine eb_iload_n (pc := 7) (n := 1) (i := 1) rfl rfl rfl ?_
    refine eb_sipush (pc := 8) (n := 1061) (v := 1061) rfl rfl ?_
    refine eb_icmp_eq (pc := 11) (tgt := 21) rfl (by decide) (fun c8 => ?_) (fun c8 => ?_)
    · replace w := w.1 c8
      refine eb_aload_n (pc := 21) (n := 0) (i := 0) rfl rfl rfl ?_
      refine eb_getI (pc := 22) rfl rfl (by decide) (by decide) rfl ?_
      refine eb_iconst (pc := 25) (n := 2) (v := 2) rfl rfl ?_
      refine eb_icmp_eq (pc := 26) (tgt := 41) rfl (by decide) (fun c9 => ?_) (fun c9 => ?_)
      · replace w := w.1 c9
        refine eb_iconst (pc := 41) (n := 0) (v := 0) rfl rfl ?_
        exact eb_ireturn (pc := 42) rfl rfl (by decide) w
      · replace w := w.2 c9
        refine eb_aload_n (pc := 29) (n := 0) (i := 0) rfl rfl rfl ?_
        refine eb_iload_n (pc := 30) (n := 1) (i := 1) rfl rfl rfl ?_
        refine eb_ctV (pc := 31) (As := [.int x1]) (rest := []) rfl (by decide) rfl rfl (by decide) rfl (Nat.le_of_ble_eq_true rfl) ?_
        refine eb_Ct.mono w ?_
        rintro r h10 ⟨y11, rfl, ko12, w⟩
        change eb_Sn _ _ _ 34 _ [.int y11] _ _
        have jj14 : eb_Sn (d + 1) m_X3_joinOn h0 42 [(0, .ref s_reader_laws), (1, .int x1)] [.int (if y11 = 0 then 0 else 1 : Int32)] h10 Q := by
          exact eb_ireturn (pc := 42) rfl rfl (by (repeat' split) <;> rfl) w
        refine eb_if_eq (pc := 34) (tgt := 41) rfl (by decide) (fun c13 => ?_) (fun c13 => ?_)
        · refine eb_iconst (pc := 41) (n := 0) (v := 0) rfl rfl ?_
          simp only [if_pos c13] at jj14 ⊢
          exact jj14
        · refine eb_iconst (pc := 37) (n := 1) (v := 1) rfl rfl ?_
          refine eb_goto (pc := 38) (tgt := 42) rfl (by decide) ?_
          simp only [if_neg c13] at jj14 ⊢
          exact jj14
    · replace w := w.2 c8
      refine eb_iload_n (pc := 14) (n := 1) (i := 1) rfl rfl rfl ?_
      refine eb_sipush (pc := 15) (n := 1070) (v := 1070) rfl rfl ?_
      refine eb_icmp_ne (pc := 18) (tgt := 43) rfl (by decide) (fun c15 => ?_) (fun c15 => ?_)
      · replace w := w.1 c15
        refine eb_aload_n (pc := 43) (n := 0) (i := 0) rfl rfl rfl ?_
        refine eb_getI (pc := 44) rfl rfl (by decide) (by decide) rfl ?_
        refine eb_if_le (pc := 47) (tgt := 75) rfl (by decide) (fun c16 => ?_) (fun c16 => ?_)
        · replace w := w.1 c16
          refine eb_iload_n (pc := 75) (n := 1) (i := 1) rfl rfl rfl ?_
          refine eb_sipush (pc := 76) (n := 1050) (v := 1050) rfl rfl ?_
          refine eb_icmp_eq (pc := 79) (tgt := 96) rfl (by decide) (fun c17 => ?_) (fun c17 => ?_)
          · replace w := w.1 c17
            refine eb_aload_n (pc := 96) (n := 0) (i := 0) rfl rfl rfl ?_
            refine eb_getI (pc := 97) rfl rfl (by decide) (by decide) rfl ?_
            refine eb_if_eq (pc := 100) (tgt := 105) rfl (by decide) (fun c18 => ?_) (fun c18 => ?_)
            · replace w := w.1 c18
              refine eb_aload_n (pc := 105) (n := 0) (i := 0) rfl rfl rfl ?_
              refine eb_iconst (pc := 106) (n := 1) (v := 1) rfl rfl ?_
              refine eb_putI (pc := 107) rfl rfl (by decide) (by decide) rfl rfl ⟨rfl, rfl⟩ ?_
              refine eb_aload_n (pc := 110) (n := 0) (i := 0) rfl rfl rfl ?_
              refine eb_iload_n (pc := 111) (n := 1) (i := 1) rfl rfl rfl ?_
              refine eb_ctV (pc := 112) (As := [.int x1]) (rest := []) rfl (by decide) rfl rfl (by decide) rfl (Nat.le_of_ble_eq_true rfl) ?_
              refine eb_Ct.mono w ?_
              rintro r h19 ⟨y20, rfl, ko21, w⟩
              change eb_Sn _ _ _ 115 _ [.int y20] _ _
              obtain ⟨c22, w⟩ := w
              exact eb_ireturn (pc := 115) rfl rfl c22 w
            · replace w := w.2 c18
              refine eb_iconst (pc := 103) (n := 0) (v := 0) rfl rfl ?_
              exact eb_ireturn (pc := 104) rfl rfl (by decide) w
          · replace w := w.2 c17
            refine eb_iload_n (pc := 82) (n := 1) (i := 1) rfl rfl rfl ?_
            refine eb_sipush (pc := 83) (n := 1051) (v := 1051) rfl rfl ?_
            refine eb_icmp_eq (pc := 86) (tgt := 96) rfl (by decide) (fun c23 => ?_) (fun c23 => ?_)
            · replace w := w.1 c23
              refine eb_aload_n (pc := 96) (n := 0) (i := 0) rfl rfl rfl ?_
              refine eb_getI (pc := 97) rfl rfl (by decide) (by decide) rfl ?_
              refine eb_if_eq (pc := 100) (tgt := 105) rfl (by decide) (fun c24 => ?_) (fun c24 => ?_)
              · replace w := w.1 c24
                refine eb_aload_n (pc := 105) (n := 0) (i := 0) rfl rfl rfl ?_
                refine eb_iconst (pc := 106) (n := 1) (v := 1) rfl rfl ?_
                refine eb_putI (pc := 107) rfl rfl (by decide) (by decide) rfl rfl ⟨rfl, rfl⟩ ?_
                refine eb_aload_n (pc := 110) (n := 0) (i := 0) rfl rfl rfl ?_
                refine eb_iload_n (pc := 111) (n := 1) (i := 1) rfl rfl rfl ?_
                refine eb_ctV (pc := 112) (As := [.int x1]) (rest := []) rfl (by decide) rfl rfl (by decide) rfl (Nat.le_of_ble_eq_true rfl) ?_
                refine eb_Ct.mono w ?_
                rintro r h25 ⟨y26, rfl, ko27, w⟩
                change eb_Sn _ _ _ 115 _ [.int y26] _ _
                obtain ⟨c28, w⟩ := w
                exact eb_ireturn (pc := 115) rfl rfl c28 w
              · replace w := w.2 c24
                refine eb_iconst (pc := 103) (n := 0) (v := 0) rfl rfl ?_
                exact eb_ireturn (pc := 104) rfl rfl (by decide) w
            · replace w := w.2 c23
              refine eb_iload_n (pc := 89) (n := 1) (i := 1) rfl rfl rfl ?_
              refine eb_sipush (pc := 90) (n := 1052) (v := 1052) rfl rfl ?_
              refine eb_icmp_ne (pc := 93) (tgt := 116) rfl (by decide) (fun c29 => ?_) (fun c29 => ?_)
              · replace w := w.1 c29
                refine eb_aload_n (pc := 116) (n := 0) (i := 0) rfl rfl rfl ?_
                refine eb_getI (pc := 117) rfl rfl (by decide) (by decide) rfl ?_
                refine eb_if_ne (pc := 120) (tgt := 125) rfl (by decide) (fun c30 => ?_) (fun c30 => ?_)
                · replace w := w.1 c30
                  refine eb_iload_n (pc := 125) (n := 1) (i := 1) rfl rfl rfl ?_
                  refine eb_sipush (pc := 126) (n := 1030) (v := 1030) rfl rfl ?_
                  refine eb_icmp_eq (pc := 129) (tgt := 139) rfl (by decide) (fun c31 => ?_) (fun c31 => ?_)
                  · replace w := w.1 c31
                    refine eb_aload_n (pc := 139) (n := 0) (i := 0) rfl rfl rfl ?_
                    refine eb_iconst (pc := 140) (n := 0) (v := 0) rfl rfl ?_
                    refine eb_putI (pc := 141) rfl rfl (by decide) (by decide) rfl rfl ⟨rfl, rfl⟩ ?_
                    refine eb_aload_n (pc := 144) (n := 0) (i := 0) rfl rfl rfl ?_
                    refine eb_iconst (pc := 145) (n := 1) (v := 1) rfl rfl ?_
                    refine eb_putI (pc := 146) rfl rfl (by decide) (by decide) rfl rfl ⟨rfl, rfl⟩ ?_
                    refine eb_aload_n (pc := 149) (n := 0) (i := 0) rfl rfl rfl ?_
                    refine eb_iload_n (pc := 150) (n := 1) (i := 1) rfl rfl rfl ?_
                    refine eb_ctV (pc := 151) (As := [.int x1]) (rest := []) rfl (by decide) rfl rfl (by decide) rfl (Nat.le_of_ble_eq_true rfl) ?_
                    refine eb_Ct.mono w ?_
                    rintro r h32 ⟨y33, rfl, ko34, w⟩
                    change eb_Sn _ _ _ 154 _ [.int y33] _ _
                    obtain ⟨c35, w⟩ := w
                    exact eb_ireturn (pc := 154) rfl rfl c35 w
                  · replace w := w.2 c31
                    refine eb_iload_n (pc := 132) (n := 1) (i := 1) rfl rfl rfl ?_
                    refine eb_sipush (pc := 133) (n := 1020) (v := 1020) rfl rfl ?_
                    refine eb_icmp_ne (pc := 136) (tgt := 155) rfl (by decide) (fun c36 => ?_) (fun c36 => ?_)
                    · replace w := w.1 c36
                      refine eb_iload_n (pc := 155) (n := 1) (i := 1) rfl rfl rfl ?_
                      refine eb_sipush (pc := 156) (n := 1080) (v := 1080) rfl rfl ?_
                      refine eb_icmp_ne (pc := 159) (tgt := 170) rfl (by decide) (fun c37 => ?_) (fun c37 => ?_)
                      · replace w := w.1 c37
                        refine eb_iconst (pc := 170) (n := 0) (v := 0) rfl rfl ?_
                        exact eb_ireturn (pc := 171) rfl rfl (by decide) w
                      · replace w := w.2 c37
                        refine eb_aload_n (pc := 162) (n := 0) (i := 0) rfl rfl rfl ?_
                        refine eb_getI (pc := 163) rfl rfl (by decide) (by decide) rfl ?_
                        refine eb_iconst (pc := 166) (n := 1) (v := 1) rfl rfl ?_
                        refine eb_icmp_ge (pc := 167) (tgt := 172) rfl (by decide) (fun c38 => ?_) (fun c38 => ?_)
                        · replace w := w.1 c38
                          refine eb_aload_n (pc := 172) (n := 0) (i := 0) rfl rfl rfl ?_
                          refine eb_dupr (pc := 173) rfl ?_
                          refine eb_getI (pc := 174) rfl rfl (by decide) (by decide) rfl ?_
                          refine eb_iconst (pc := 177) (n := 1) (v := 1) rfl rfl ?_
                          refine eb_isub (pc := 178) rfl ?_
                          refine eb_putI (pc := 179) rfl rfl (by decide) (by decide) rfl rfl ⟨rfl, rfl⟩ ?_
                          refine eb_aload_n (pc := 182) (n := 0) (i := 0) rfl rfl rfl ?_
                          refine eb_iconst (pc := 183) (n := 2) (v := 2) rfl rfl ?_
                          refine eb_putI (pc := 184) rfl rfl (by decide) (by decide) rfl rfl ⟨rfl, rfl⟩ ?_
                          refine eb_aload_n (pc := 187) (n := 0) (i := 0) rfl rfl rfl ?_
                          refine eb_ctV (pc := 188) (As := []) (rest := []) rfl (by decide) rfl rfl (by decide) rfl (Nat.le_of_ble_eq_true rfl) ?_
                          refine eb_Ct.mono w ?_
                          rintro r h39 ⟨rfl, ko41, w⟩
                          change eb_Sn _ _ _ 191 _ [] _ _
                          refine eb_iconst (pc := 191) (n := 1) (v := 1) rfl rfl ?_
                          exact eb_ireturn (pc := 192) rfl rfl (by decide) w
                        · replace w := w.2 c38
                          refine eb_iconst (pc := 170) (n := 0) (v := 0) rfl rfl ?_
                          exact eb_ireturn (pc := 171) rfl rfl (by decide) w
                    · replace w := w.2 c36
                      refine eb_aload_n (pc := 139) (n := 0) (i := 0) rfl rfl rfl ?_
                      refine eb_iconst (pc := 140) (n := 0) (v := 0) rfl rfl ?_
                      refine eb_putI (pc := 141) rfl rfl (by decide) (by decide) rfl rfl ⟨rfl, rfl⟩ ?_
                      refine eb_aload_n (pc := 144) (n := 0) (i := 0) rfl rfl rfl ?_
                      refine eb_iconst (pc := 145) (n := 1) (v := 1) rfl rfl ?_
                      refine eb_putI (pc := 146) rfl rfl (by decide) (by decide) rfl rfl ⟨rfl, rfl⟩ ?_
                      refine eb_aload_n (pc := 149) (n := 0) (i := 0) rfl rfl rfl ?_
                      refine eb_iload_n (pc := 150) (n := 1) (i := 1) rfl rfl rfl ?_
                      refine eb_ctV (pc := 151) (As := [.int x1]) (rest := []) rfl (by decide) rfl rfl (by decide) rfl (Nat.le_of_ble_eq_true rfl) ?_
                      refine eb_Ct.mono w ?_
                      rintro r h42 ⟨y43, rfl, ko44, w⟩
                      change eb_Sn _ _ _ 154 _ [.int y43] _ _
                      obtain ⟨c45, w⟩ := w
                      exact eb_ireturn (pc := 154) rfl rfl c45 w
                · replace w := w.2 c30
                  refine eb_iconst (pc := 123) (n := 0) (v := 0) rfl rfl ?_
                  exact eb_ireturn (pc := 124) rfl rfl (by decide) w
              · replace w := w.2 c29
                refine eb_aload_n (pc := 96) (n := 0) (i := 0) rfl rfl rfl ?_
                refine eb_getI (pc := 97) rfl rfl (by decide) (by decide) rfl ?_
                refine eb_if_eq (pc := 100) (tgt := 105) rfl (by decide) (fun c46 => ?_) (fun c46 => ?_)
                · replace w := w.1 c46
                  refine eb_aload_n (pc := 105) (n := 0) (i := 0) rfl rfl rfl ?_
                  refine eb_iconst (pc := 106) (n := 1) (v := 1) rfl rfl ?_
                  refine eb_putI (pc := 107) rfl rfl (by decide) (by decide) rfl rfl ⟨rfl, rfl⟩ ?_
                  refine eb_aload_n (pc := 110) (n := 0) (i := 0) rfl rfl rfl ?_
                  refine eb_iload_n (pc := 111) (n := 1) (i := 1) rfl rfl rfl ?_
                  refine eb_ctV (pc := 112) (As := [.int x1]) (rest := []) rfl (by decide) rfl rfl (by decide) rfl (Nat.le_of_ble_eq_true rfl) ?_
                  refine eb_Ct.mono w ?_
                  rintro r h47 ⟨y48, rfl, ko49, w⟩
                  change eb_Sn _ _ _ 115 _ [.int y48] _ _
                  obtain ⟨c50, w⟩ := w
                  exact eb_ireturn (pc := 115) rfl rfl c50 w
                · replace w := w.2 c46
                  refine eb_iconst (pc := 103) (n := 0) (v := 0) rfl rfl ?_
                  exact eb_ireturn (pc := 104) rfl rfl (by decide) w
        · replace w := w.2 c16
          refine eb_iload_n (pc := 50) (n := 1) (i := 1) rfl rfl rfl ?_
          refine eb_sipush (pc := 51) (n := 1081) (v := 1081) rfl rfl ?_
          refine eb_icmp_eq (pc := 54) (tgt := 59) rfl (by decide) (fun c51 => ?_) (fun c51 => ?_)
          · replace w := w.1 c51
            refine eb_aload_n (pc := 59) (n := 0) (i := 0) rfl rfl rfl ?_
            refine eb_dupr (pc := 60) rfl ?_
            refine eb_getI (pc := 61) rfl rfl (by decide) (by decide) rfl ?_
            refine eb_iconst (pc := 64) (n := 1) (v := 1) rfl rfl ?_
            refine eb_isub (pc := 65) rfl ?_
            refine eb_putI (pc := 66) rfl rfl (by decide) (by decide) rfl rfl ⟨rfl, rfl⟩ ?_
            refine eb_aload_n (pc := 69) (n := 0) (i := 0) rfl rfl rfl ?_
            refine eb_ctV (pc := 70) (As := []) (rest := []) rfl (by decide) rfl rfl (by decide) rfl (Nat.le_of_ble_eq_true rfl) ?_
            refine eb_Ct.mono w ?_
            rintro r h52 ⟨rfl, ko54, w⟩
            change eb_Sn _ _ _ 73 _ [] _ _
            refine eb_iconst (pc := 73) (n := 1) (v := 1) rfl rfl ?_
            exact eb_ireturn (pc := 74) rfl rfl (by decide) w
          · replace w := w.2 c51
            refine eb_iconst (pc := 57) (n := 0) (v := 0) rfl rfl ?_
            exact eb_ireturn (pc := 58) rfl rfl (by decide) w
      · replace w := w.2 c15
        refine eb_aload_n (pc := 21) (n := 0) (i := 0) rfl rfl rfl ?_
        refine eb_getI (pc := 22) rfl rfl (by decide) (by decide) rfl ?_
        refine eb_iconst (pc := 25) (n := 2) (v := 2) rfl rfl ?_
        refine eb_icmp_eq (pc := 26) (tgt := 41) rfl (by decide) (fun c55 => ?_) (fun c55 => ?_)
        · replace w := w.1 c55
          refine eb_iconst (pc := 41) (n := 0) (v := 0) rfl rfl ?_
          exact eb_ireturn (pc := 42) rfl rfl (by decide) w
        · replace w := w.2 c55
          refine eb_aload_n (pc := 29) (n := 0) (i := 0) rfl rfl rfl ?_
          refine eb_iload_n (pc := 30) (n := 1) (i := 1) rfl rfl rfl ?_
          refine eb_ctV (pc := 31) (As := [.int x1]) (rest := []) rfl (by decide) rfl rfl (by decide) rfl (Nat.le_of_ble_eq_true rfl) ?_
          refine eb_Ct.mono w ?_
          rintro r h56 ⟨y57, rfl, ko58, w⟩
          change eb_Sn _ _ _ 34 _ [.int y57] _ _
          have jj60 : eb_Sn (d + 1) m_X3_joinOn h0 42 [(0, .ref s_reader_laws), (1, .int x1)] [.int (if y57 = 0 then 0 else 1 : Int32)] h56 Q := by
            exact eb_ireturn (pc := 42) rfl rfl (by (repeat' split) <;> rfl) w
          refine eb_if_eq (pc := 34) (tgt := 41) rfl (by decide) (fun c59 => ?_) (fun c59 => ?_)
          · refine eb_iconst (pc := 41) (n := 0) (v := 0) rfl rfl ?_
            simp only [if_pos c59] at jj60 ⊢
            exact jj60
          · refine eb_iconst (pc := 37) (n := 1) (v := 1) rfl rfl ?_
            refine eb_goto (pc := 38) (tgt := 42) rfl (by decide) ?_
            simp only [if_neg c59] at jj60 ⊢
            exact jj60
theorem T_X3_joinOn {d : Nat} {h : eb_H} {Q : Option Value → eb_H → Prop} (x1 : Int32)  (ko : eb_KO h) (w : ((x1 = (1060 : Int32) → (((eb_I h s_reader_laws 8) = (2 : Int32) → Q (some (.int 0)) h) ∧ (¬ ((eb_I h s_reader_laws 8) = (2 : Int32)) → eb_Ct d 36 [.ref s_reader_laws, .int x1] h (fun r h3 => ∃ y4, r = some (.int y4) ∧ eb_KO h3 ∧ Q (some (.int (if y4 = 0 then 0 else 1 : Int32))) h3)))) ∧ (¬ (x1 = (1060 : Int32)) → ((x1 = (1061 : Int32) → (((eb_I h s_reader_laws 8) = (2 : Int32) → Q (some (.int 0)) h) ∧ (¬ ((eb_I h s_reader_laws 8) = (2 : Int32)) → eb_Ct d 36 [.ref s_reader_laws, .int x1] h (fun r h10 => ∃ y11, r = some (.int y11) ∧ eb_KO h10 ∧ Q (some (.int (if y11 = 0 then 0 else 1 : Int32))) h10)))) ∧ (¬ (x1 = (1061 : Int32)) → ((¬ x1 = (1070 : Int32) → (((eb_I h s_reader_laws 6) ≤ 0 → ((x1 = (1050 : Int32) → (((eb_I h s_reader_laws 8) = 0 → eb_Ct d 36 [.ref s_reader_laws, .int x1] (eb_sI h s_reader_laws 8 1) (fun r h19 => ∃ y20, r = some (.int y20) ∧ eb_KO h19 ∧ (narrow .boolean (.int y20) = .int y20) ∧ Q (some (.int y20)) h19)) ∧ (¬ ((eb_I h s_reader_laws 8) = 0) → Q (some (.int 0)) h))) ∧ (¬ (x1 = (1050 : Int32)) → ((x1 = (1051 : Int32) → (((eb_I h s_reader_laws 8) = 0 → eb_Ct d 36 [.ref s_reader_laws, .int x1] (eb_sI h s_reader_laws 8 1) (fun r h25 => ∃ y26, r = some (.int y26) ∧ eb_KO h25 ∧ (narrow .boolean (.int y26) = .int y26) ∧ Q (some (.int y26)) h25)) ∧ (¬ ((eb_I h s_reader_laws 8) = 0) → Q (some (.int 0)) h))) ∧ (¬ (x1 = (1051 : Int32)) → ((¬ x1 = (1052 : Int32) → ((¬ (eb_I h s_reader_laws 8) = 0 → ((x1 = (1030 : Int32) → eb_Ct d 36 [.ref s_reader_laws, .int x1] (eb_sI (eb_sI h s_reader_laws 8 0) s_reader_laws 10 1) (fun r h32 => ∃ y33, r = some (.int y33) ∧ eb_KO h32 ∧ (narrow .boolean (.int y33) = .int y33) ∧ Q (some (.int y33)) h32)) ∧ (¬ (x1 = (1030 : Int32)) → ((¬ x1 = (1020 : Int32) → ((¬ x1 = (1080 : Int32) → Q (some (.int 0)) h) ∧ (x1 = (1080 : Int32) → (((1 : Int32) ≤ (eb_I h s_reader_laws 7) → eb_Ct d 38 [.ref s_reader_laws] (eb_sI (eb_sI h s_reader_laws 7 ((eb_I h s_reader_laws 7) - 1)) s_reader_laws 8 2) (fun r h39 => r = none ∧ eb_KO h39 ∧ Q (some (.int 1)) h39)) ∧ (¬ ((1 : Int32) ≤ (eb_I h s_reader_laws 7)) → Q (some (.int 0)) h))))) ∧ (x1 = (1020 : Int32) → eb_Ct d 36 [.ref s_reader_laws, .int x1] (eb_sI (eb_sI h s_reader_laws 8 0) s_reader_laws 10 1) (fun r h42 => ∃ y43, r = some (.int y43) ∧ eb_KO h42 ∧ (narrow .boolean (.int y43) = .int y43) ∧ Q (some (.int y43)) h42)))))) ∧ ((eb_I h s_reader_laws 8) = 0 → Q (some (.int 0)) h))) ∧ (x1 = (1052 : Int32) → (((eb_I h s_reader_laws 8) = 0 → eb_Ct d 36 [.ref s_reader_laws, .int x1] (eb_sI h s_reader_laws 8 1) (fun r h47 => ∃ y48, r = some (.int y48) ∧ eb_KO h47 ∧ (narrow .boolean (.int y48) = .int y48) ∧ Q (some (.int y48)) h47)) ∧ (¬ ((eb_I h s_reader_laws 8) = 0) → Q (some (.int 0)) h))))))))) ∧ (¬ ((eb_I h s_reader_laws 6) ≤ 0) → ((x1 = (1081 : Int32) → eb_Ct d 38 [.ref s_reader_laws] (eb_sI h s_reader_laws 6 ((eb_I h s_reader_laws 6) - 1)) (fun r h52 => r = none ∧ eb_KO h52 ∧ Q (some (.int 1)) h52)) ∧ (¬ (x1 = (1081 : Int32)) → Q (some (.int 0)) h))))) ∧ (x1 = (1070 : Int32) → (((eb_I h s_reader_laws 8) = (2 : Int32) → Q (some (.int 0)) h) ∧ (¬ ((eb_I h s_reader_laws 8) = (2 : Int32)) → eb_Ct d 36 [.ref s_reader_laws, .int x1] h (fun r h56 => ∃ y57, r = some (.int y57) ∧ eb_KO h56 ∧ Q (some (.int (if y57 = 0 then 0 else 1 : Int32))) h56)))))))))) : eb_Ct (d + 1) 35 [.ref s_reader_laws, .int x1] h Q :=
  eb_bodyQ (by decide) ok_X3_joinOn (Nat.le_of_ble_eq_true rfl) (b_X3_joinOn_0 (h0 := h) x1  ko w)
theorem b_X3_joinBy_0 {d : Nat} {h0 h : eb_H} {Q : Option Value → eb_H → Prop} (x1 : Int32)  (ko : eb_KO h) (w : eb_Ct d 37 [.ref s_reader_laws, .int x1] h (fun r h1 => r = none ∧ eb_KO h1 ∧ eb_Ct d 39 [.ref s_reader_laws, .int x1] h1 (fun r h4 => r = none ∧ eb_KO h4 ∧ Q (some (.int 1)) (eb_sI h4 s_reader_laws 9 1)))) : eb_Sn (d + 1) m_X3_joinBy h0 0 [(0, .ref s_reader_laws), (1, .int x1)] [] h Q := by
  refine eb_aload_n (pc := 0) (n := 0) (i := 0) rfl rfl rfl ?_
  refine eb_iload_n (pc := 1) (n := 1) (i := 1) rfl rfl rfl ?_
  refine eb_ctV (pc := 2) (As := [.int x1]) (rest := []) rfl (by decide) rfl rfl (by decide) rfl (Nat.le_of_ble_eq_true rfl) ?_
  refine eb_Ct.mono w ?_
  rintro r h1 ⟨rfl, ko3, w⟩
  change eb_Sn _ _ _ 5 _ [] _ _
  refine eb_aload_n (pc := 5) (n := 0) (i := 0) rfl rfl rfl ?_
  refine eb_iload_n (pc := 6) (n := 1) (i := 1) rfl rfl rfl ?_
  refine eb_ctV (pc := 7) (As := [.int x1]) (rest := []) rfl (by decide) rfl rfl (by decide) rfl (Nat.le_of_ble_eq_true rfl) ?_
  refine eb_Ct.mono w ?_
  rintro r h4 ⟨rfl, ko6, w⟩
  change eb_Sn _ _ _ 10 _ [] _ _
  refine eb_aload_n (pc := 10) (n := 0) (i := 0) rfl rfl rfl ?_
  refine eb_iconst (pc := 11) (n := 1) (v := 1) rfl rfl ?_
  refine eb_putI (pc := 12) rfl rfl (by decide) (by decide) rfl rfl ⟨rfl, rfl⟩ ?_
  refine eb_iconst (pc := 15) (n := 1) (v := 1) rfl rfl ?_
  exact eb_ireturn (pc := 16) rfl rfl (by decide) w
theorem T_X3_joinBy {d : Nat} {h : eb_H} {Q : Option Value → eb_H → Prop} (x1 : Int32)  (ko : eb_KO h) (w : eb_Ct d 37 [.ref s_reader_laws, .int x1] h (fun r h1 => r = none ∧ eb_KO h1 ∧ eb_Ct d 39 [.ref s_reader_laws, .int x1] h1 (fun r h4 => r = none ∧ eb_KO h4 ∧ Q (some (.int 1)) (eb_sI h4 s_reader_laws 9 1)))) : eb_Ct (d + 1) 36 [.ref s_reader_laws, .int x1] h Q :=
  eb_bodyQ (by decide) ok_X3_joinBy (Nat.le_of_ble_eq_true rfl) (b_X3_joinBy_0 (h0 := h) x1  ko w)
theorem b_X3_settle_0 {d : Nat} {h0 h : eb_H} {Q : Option Value → eb_H → Prop} (x1 : Int32)  (ko : eb_KO h) (w : eb_Sn (d + 1) m_X3_settle h0 2 [(0, .ref s_reader_laws), (1, .int x1), (2, .int 0)] [] h Q) : eb_Sn (d + 1) m_X3_settle h0 0 [(0, .ref s_reader_laws), (1, .int x1)] [] h Q := by
  refine eb_iconst (pc := 0) (n := 0) (v := 0) rfl rfl ?_
  refine eb_istore_n (pc := 1) (n := 2) (i := 2) (ls2 := [(2, .int 0), (0, .ref s_reader_laws), (1, .int x1)]) rfl (Nat.le_of_ble_eq_true rfl) rfl rfl ?_
  exact eb_pick [1, 2, 0] rfl w
theorem b_X3_settle_2 {d : Nat} {h0 h : eb_H} {Q : Option Value → eb_H → Prop} (x1 : Int32) (x2 : Int32)  (ko : eb_KO h) (w : (((32 : Int32) ≤ x2 → Q none h) ∧ (¬ ((32 : Int32) ≤ x2) → (((eb_I h s_reader_laws 4) ≤ 0 → Q none h) ∧ (¬ ((eb_I h s_reader_laws 4) ≤ 0) → (((32 : Int32) < (eb_I h s_reader_laws 4) → Q none h) ∧ (¬ ((32 : Int32) < (eb_I h s_reader_laws 4)) → (vp_in ((eb_I h s_reader_laws 4) - 1) 32) ∧ (((x1 / 10) ≤ ((eb_I h s_reader_laws_waiting ((eb_I h s_reader_laws 4) - 1).toNatClampNeg) / 10) → ((¬ (eb_I h s_reader_laws_waiting ((eb_I h s_reader_laws 4) - 1).toNatClampNeg) = (1040 : Int32) → eb_Ct d 40 [.ref s_reader_laws, .int (eb_I h s_reader_laws_waiting ((eb_I h s_reader_laws 4) - 1).toNatClampNeg)] (eb_sI h s_reader_laws 4 ((eb_I h s_reader_laws 4) - 1)) (fun r h7 => r = none ∧ eb_KO h7 ∧ eb_Sn (d + 1) m_X3_settle h0 2 [(0, .ref s_reader_laws), (1, .int x1), (2, .int (x2 + 1))] [] h7 Q)) ∧ ((eb_I h s_reader_laws_waiting ((eb_I h s_reader_laws 4) - 1).toNatClampNeg) = (1040 : Int32) → eb_Ct d 40 [.ref s_reader_laws, .int (eb_I h s_reader_laws_waiting ((eb_I h s_reader_laws 4) - 1).toNatClampNeg)] (eb_sI (eb_sI h s_reader_laws 4 ((eb_I h s_reader_laws 4) - 1)) s_reader_laws 5 ((eb_I (eb_sI h s_reader_laws 4 ((eb_I h s_reader_laws 4) - 1)) s_reader_laws 5) - 1)) (fun r h10 => r = none ∧ eb_KO h10 ∧ eb_Sn (d + 1) m_X3_settle h0 2 [(0, .ref s_reader_laws), (1, .int x1), (2, .int (x2 + 1))] [] h10 Q)))) ∧ (¬ ((x1 / 10) ≤ ((eb_I h s_reader_laws_waiting ((eb_I h s_reader_laws 4) - 1).toNatClampNeg) / 10)) → Q none h))))))))) : eb_Sn (d + 1) m_X3_settle h0 2 [(0, .ref s_reader_laws), (1, .int x1), (2, .int x2)] [] h Q := by
  refine eb_iload_n (pc := 2) (n := 2) (i := 2) rfl rfl rfl ?_
  refine eb_bipush (pc := 3) (n := 32) (v := 32) rfl rfl ?_
  refine eb_icmp_ge (pc := 5) (tgt := 89) rfl (by decide) (fun c1 => ?_) (fun c1 => ?_)
  · replace w := w.1 c1
    exact eb_return (pc := 89) rfl rfl w
  · replace w := w.2 c1
    refine eb_aload_n (pc := 8) (n := 0) (i := 0) rfl rfl rfl ?_
    refine eb_getI (pc := 9) rfl rfl (by decide) (by decide) rfl ?_
    refine eb_if_le (pc := 12) (tgt := 89) rfl (by decide) (fun c2 => ?_) (fun c2 => ?_)
    · replace w := w.1 c2
      exact eb_return (pc := 89) rfl rfl w
    · replace w := w.2 c2
      refine eb_aload_n (pc := 15) (n := 0) (i := 0) rfl rfl rfl ?_
      refine eb_getI (pc := 16) rfl rfl (by decide) (by decide) rfl ?_
      refine eb_aload_n (pc := 19) (n := 0) (i := 0) rfl rfl rfl ?_
      refine eb_getR (pc := 20) rfl rfl (by decide) (by decide) rfl (ko_s_reader_laws_2 ko) ?_
      refine eb_alen (pc := 23) (v := 32) rfl (by decide) (by decide) rfl ?_
      refine eb_icmp_gt (pc := 24) (tgt := 89) rfl (by decide) (fun c3 => ?_) (fun c3 => ?_)
      · replace w := w.1 c3
        exact eb_return (pc := 89) rfl rfl w
      · replace w := w.2 c3
        refine eb_aload_n (pc := 27) (n := 0) (i := 0) rfl rfl rfl ?_
        refine eb_getR (pc := 28) rfl rfl (by decide) (by decide) rfl (ko_s_reader_laws_2 ko) ?_
        refine eb_aload_n (pc := 31) (n := 0) (i := 0) rfl rfl rfl ?_
        refine eb_getI (pc := 32) rfl rfl (by decide) (by decide) rfl ?_
        refine eb_iconst (pc := 35) (n := 1) (v := 1) rfl rfl ?_
        refine eb_isub (pc := 36) rfl ?_
        obtain ⟨c4, w⟩ := w
        refine eb_iaload (pc := 37) rfl rfl c4 ?_
        refine eb_istore_n (pc := 38) (n := 3) (i := 3) (ls2 := [(3, .int (eb_I h s_reader_laws_waiting ((eb_I h s_reader_laws 4) - 1).toNatClampNeg)), (0, .ref s_reader_laws), (1, .int x1), (2, .int x2)]) rfl (Nat.le_of_ble_eq_true rfl) rfl rfl ?_
        refine eb_iload_n (pc := 39) (n := 3) (i := 3) rfl rfl rfl ?_
        refine eb_bipush (pc := 40) (n := 10) (v := 10) rfl rfl ?_
        refine eb_idiv (pc := 42) (by decide) rfl ?_
        refine eb_iload_n (pc := 43) (n := 1) (i := 1) rfl rfl rfl ?_
        refine eb_bipush (pc := 44) (n := 10) (v := 10) rfl rfl ?_
        refine eb_idiv (pc := 46) (by decide) rfl ?_
        refine eb_icmp_ge (pc := 47) (tgt := 51) rfl (by decide) (fun c5 => ?_) (fun c5 => ?_)
        · replace w := w.1 c5
          refine eb_aload_n (pc := 51) (n := 0) (i := 0) rfl rfl rfl ?_
          refine eb_dupr (pc := 52) rfl ?_
          refine eb_getI (pc := 53) rfl rfl (by decide) (by decide) rfl ?_
          refine eb_iconst (pc := 56) (n := 1) (v := 1) rfl rfl ?_
          refine eb_isub (pc := 57) rfl ?_
          refine eb_putI (pc := 58) rfl rfl (by decide) (by decide) rfl rfl ⟨rfl, rfl⟩ ?_
          refine eb_iload_n (pc := 61) (n := 3) (i := 3) rfl rfl rfl ?_
          refine eb_sipush (pc := 62) (n := 1040) (v := 1040) rfl rfl ?_
          refine eb_icmp_ne (pc := 65) (tgt := 78) rfl (by decide) (fun c6 => ?_) (fun c6 => ?_)
          · replace w := w.1 c6
            refine eb_aload_n (pc := 78) (n := 0) (i := 0) rfl rfl rfl ?_
            refine eb_iload_n (pc := 79) (n := 3) (i := 3) rfl rfl rfl ?_
            refine eb_ctV (pc := 80) (As := [.int (eb_I h s_reader_laws_waiting ((eb_I h s_reader_laws 4) - 1).toNatClampNeg)]) (rest := []) rfl (by decide) rfl rfl (by decide) rfl (Nat.le_of_ble_eq_true rfl) ?_
            refine eb_Ct.mono w ?_
            rintro r h7 ⟨rfl, ko9, w⟩
            change eb_Sn _ _ _ 83 _ [] _ _
            refine eb_iinc (pc := 83) (i := 2) (n := 1) (v := x2 + 1) (ls2 := [(2, .int (x2 + 1)), (3, .int (eb_I h s_reader_laws_waiting ((eb_I h s_reader_laws 4) - 1).toNatClampNeg)), (0, .ref s_reader_laws), (1, .int x1)]) (Nat.le_of_ble_eq_true rfl) rfl rfl rfl rfl ?_
            refine eb_goto (pc := 86) (tgt := 2) rfl (by decide) ?_
            exact eb_pick [2, 3, 0] rfl w
          · replace w := w.2 c6
            refine eb_aload_n (pc := 68) (n := 0) (i := 0) rfl rfl rfl ?_
            refine eb_dupr (pc := 69) rfl ?_
            refine eb_getI (pc := 70) rfl rfl (by decide) (by decide) rfl ?_
            refine eb_iconst (pc := 73) (n := 1) (v := 1) rfl rfl ?_
            refine eb_isub (pc := 74) rfl ?_
            refine eb_putI (pc := 75) rfl rfl (by decide) (by decide) rfl rfl ⟨rfl, rfl⟩ ?_
            refine eb_aload_n (pc := 78) (n := 0) (i := 0) rfl rfl rfl ?_
            refine eb_iload_n (pc := 79) (n := 3) (i := 3) rfl rfl rfl ?_
            refine eb_ctV (pc := 80) (As := [.int (eb_I h s_reader_laws_waiting ((eb_I h s_reader_laws 4) - 1).toNatClampNeg)]) (rest := []) rfl (by decide) rfl rfl (by decide) rfl (Nat.le_of_ble_eq_true rfl) ?_
            refine eb_Ct.mono w ?_
            rintro r h10 ⟨rfl, ko12, w⟩
            change eb_Sn _ _ _ 83 _ [] _ _
            refine eb_iinc (pc := 83) (i := 2) (n := 1) (v := x2 + 1) (ls2 := [(2, .int (x2 + 1)), (3, .int (eb_I h s_reader_laws_waiting ((eb_I h s_reader_laws 4) - 1).toNatClampNeg)), (0, .ref s_reader_laws), (1, .int x1)]) (Nat.le_of_ble_eq_true rfl) rfl rfl rfl rfl ?_
            refine eb_goto (pc := 86) (tgt := 2) rfl (by decide) ?_
            exact eb_pick [2, 3, 0] rfl w
        · replace w := w.2 c5
          exact eb_return (pc := 50) rfl rfl w
theorem T_X3_settle {d : Nat} {h : eb_H} {Q : Option Value → eb_H → Prop} (x1 : Int32)  (ko : eb_KO h) (w : eb_Sn (d + 1) m_X3_settle h 2 [(0, .ref s_reader_laws), (1, .int x1), (2, .int 0)] [] h Q) : eb_Ct (d + 1) 37 [.ref s_reader_laws, .int x1] h Q :=
  eb_bodyQ (by decide) ok_X3_settle (Nat.le_of_ble_eq_true rfl) (b_X3_settle_0 (h0 := h) x1  ko w)
theorem b_X3_close_0 {d : Nat} {h0 h : eb_H} {Q : Option Value → eb_H → Prop}   (ko : eb_KO h) (w : eb_Ct d 37 [.ref s_reader_laws, .int 1020] h (fun r h1 => r = none ∧ eb_KO h1 ∧ (((eb_I (eb_sI h1 s_reader_laws 5 ((eb_I h1 s_reader_laws 5) - 1)) s_reader_laws 4) ≤ 0 → Q none (eb_sI h1 s_reader_laws 5 ((eb_I h1 s_reader_laws 5) - 1))) ∧ (¬ ((eb_I (eb_sI h1 s_reader_laws 5 ((eb_I h1 s_reader_laws 5) - 1)) s_reader_laws 4) ≤ 0) → Q none (eb_sI (eb_sI h1 s_reader_laws 5 ((eb_I h1 s_reader_laws 5) - 1)) s_reader_laws 4 ((eb_I (eb_sI h1 s_reader_laws 5 ((eb_I h1 s_reader_laws 5) - 1)) s_reader_laws 4) - 1)))))) : eb_Sn (d + 1) m_X3_close h0 0 [(0, .ref s_reader_laws)] [] h Q := by
  refine eb_aload_n (pc := 0) (n := 0) (i := 0) rfl rfl rfl ?_
  refine eb_sipush (pc := 1) (n := 1020) (v := 1020) rfl rfl ?_
  refine eb_ctV (pc := 4) (As := [.int 1020]) (rest := []) rfl (by decide) rfl rfl (by decide) rfl (Nat.le_of_ble_eq_true rfl) ?_
  refine eb_Ct.mono w ?_
  rintro r h1 ⟨rfl, ko3, w⟩
  change eb_Sn _ _ _ 7 _ [] _ _
  refine eb_aload_n (pc := 7) (n := 0) (i := 0) rfl rfl rfl ?_
  refine eb_dupr (pc := 8) rfl ?_
  refine eb_getI (pc := 9) rfl rfl (by decide) (by decide) rfl ?_
  refine eb_iconst (pc := 12) (n := 1) (v := 1) rfl rfl ?_
  refine eb_isub (pc := 13) rfl ?_
  refine eb_putI (pc := 14) rfl rfl (by decide) (by decide) rfl rfl ⟨rfl, rfl⟩ ?_
  refine eb_aload_n (pc := 17) (n := 0) (i := 0) rfl rfl rfl ?_
  refine eb_getI (pc := 18) rfl rfl (by decide) (by decide) rfl ?_
  refine eb_if_le (pc := 21) (tgt := 34) rfl (by decide) (fun c4 => ?_) (fun c4 => ?_)
  · replace w := w.1 c4
    exact eb_return (pc := 34) rfl rfl w
  · replace w := w.2 c4
    refine eb_aload_n (pc := 24) (n := 0) (i := 0) rfl rfl rfl ?_
    refine eb_dupr (pc := 25) rfl ?_
    refine eb_getI (pc := 26) rfl rfl (by decide) (by decide) rfl ?_
    refine eb_iconst (pc := 29) (n := 1) (v := 1) rfl rfl ?_
    refine eb_isub (pc := 30) rfl ?_
    refine eb_putI (pc := 31) rfl rfl (by decide) (by decide) rfl rfl ⟨rfl, rfl⟩ ?_
    exact eb_return (pc := 34) rfl rfl w
theorem T_X3_close {d : Nat} {h : eb_H} {Q : Option Value → eb_H → Prop}   (ko : eb_KO h) (w : eb_Ct d 37 [.ref s_reader_laws, .int 1020] h (fun r h1 => r = none ∧ eb_KO h1 ∧ (((eb_I (eb_sI h1 s_reader_laws 5 ((eb_I h1 s_reader_laws 5) - 1)) s_reader_laws 4) ≤ 0 → Q none (eb_sI h1 s_reader_laws 5 ((eb_I h1 s_reader_laws 5) - 1))) ∧ (¬ ((eb_I (eb_sI h1 s_reader_laws 5 ((eb_I h1 s_reader_laws 5) - 1)) s_reader_laws 4) ≤ 0) → Q none (eb_sI (eb_sI h1 s_reader_laws 5 ((eb_I h1 s_reader_laws 5) - 1)) s_reader_laws 4 ((eb_I (eb_sI h1 s_reader_laws 5 ((eb_I h1 s_reader_laws 5) - 1)) s_reader_laws 4) - 1)))))) : eb_Ct (d + 1) 38 [.ref s_reader_laws] h Q :=
  eb_bodyQ (by decide) ok_X3_close (Nat.le_of_ble_eq_true rfl) (b_X3_close_0 (h0 := h)   ko w)
theorem b_X3_await_0 {d : Nat} {h0 h : eb_H} {Q : Option Value → eb_H → Prop} (x1 : Int32)  (ko : eb_KO h) (w : (((eb_I h s_reader_laws 4) < 0 → Q none h) ∧ (¬ ((eb_I h s_reader_laws 4) < 0) → (((eb_I h s_reader_laws 4) < (32 : Int32) → (vp_in (eb_I h s_reader_laws 4) 32) ∧ Q none (eb_sI (eb_sI h s_reader_laws_waiting (eb_I h s_reader_laws 4).toNatClampNeg x1) s_reader_laws 4 ((eb_I (eb_sI h s_reader_laws_waiting (eb_I h s_reader_laws 4).toNatClampNeg x1) s_reader_laws 4) + 1))) ∧ (¬ ((eb_I h s_reader_laws 4) < (32 : Int32)) → Q none h))))) : eb_Sn d m_X3_await h0 0 [(0, .ref s_reader_laws), (1, .int x1)] [] h Q := by
  refine eb_aload_n (pc := 0) (n := 0) (i := 0) rfl rfl rfl ?_
  refine eb_getI (pc := 1) rfl rfl (by decide) (by decide) rfl ?_
  refine eb_if_lt (pc := 4) (tgt := 19) rfl (by decide) (fun c1 => ?_) (fun c1 => ?_)
  · replace w := w.1 c1
    exact eb_return (pc := 19) rfl rfl w
  · replace w := w.2 c1
    refine eb_aload_n (pc := 7) (n := 0) (i := 0) rfl rfl rfl ?_
    refine eb_getI (pc := 8) rfl rfl (by decide) (by decide) rfl ?_
    refine eb_aload_n (pc := 11) (n := 0) (i := 0) rfl rfl rfl ?_
    refine eb_getR (pc := 12) rfl rfl (by decide) (by decide) rfl (ko_s_reader_laws_2 ko) ?_
    refine eb_alen (pc := 15) (v := 32) rfl (by decide) (by decide) rfl ?_
    refine eb_icmp_lt (pc := 16) (tgt := 20) rfl (by decide) (fun c2 => ?_) (fun c2 => ?_)
    · replace w := w.1 c2
      refine eb_aload_n (pc := 20) (n := 0) (i := 0) rfl rfl rfl ?_
      refine eb_getR (pc := 21) rfl rfl (by decide) (by decide) rfl (ko_s_reader_laws_2 ko) ?_
      refine eb_aload_n (pc := 24) (n := 0) (i := 0) rfl rfl rfl ?_
      refine eb_getI (pc := 25) rfl rfl (by decide) (by decide) rfl ?_
      refine eb_iload_n (pc := 28) (n := 1) (i := 1) rfl rfl rfl ?_
      obtain ⟨c3, w⟩ := w
      refine eb_iastore (pc := 29) rfl rfl c3 ?_
      refine eb_aload_n (pc := 30) (n := 0) (i := 0) rfl rfl rfl ?_
      refine eb_dupr (pc := 31) rfl ?_
      refine eb_getI (pc := 32) rfl rfl (by decide) (by decide) rfl ?_
      refine eb_iconst (pc := 35) (n := 1) (v := 1) rfl rfl ?_
      refine eb_iadd (pc := 36) rfl ?_
      refine eb_putI (pc := 37) rfl rfl (by decide) (by decide) rfl rfl ⟨rfl, rfl⟩ ?_
      exact eb_return (pc := 40) rfl rfl w
    · replace w := w.2 c2
      exact eb_return (pc := 19) rfl rfl w
theorem T_X3_await {d : Nat} {h : eb_H} {Q : Option Value → eb_H → Prop} (x1 : Int32)  (ko : eb_KO h) (w : (((eb_I h s_reader_laws 4) < 0 → Q none h) ∧ (¬ ((eb_I h s_reader_laws 4) < 0) → (((eb_I h s_reader_laws 4) < (32 : Int32) → (vp_in (eb_I h s_reader_laws 4) 32) ∧ Q none (eb_sI (eb_sI h s_reader_laws_waiting (eb_I h s_reader_laws 4).toNatClampNeg x1) s_reader_laws 4 ((eb_I (eb_sI h s_reader_laws_waiting (eb_I h s_reader_laws 4).toNatClampNeg x1) s_reader_laws 4) + 1))) ∧ (¬ ((eb_I h s_reader_laws 4) < (32 : Int32)) → Q none h))))) : eb_Ct d 39 [.ref s_reader_laws, .int x1] h Q :=
  eb_bodyQ (by decide) ok_X3_await (Nat.le_of_ble_eq_true rfl) (b_X3_await_0 (h0 := h) x1  ko w)
theorem b_X3_emit_0 {d : Nat} {h0 h : eb_H} {Q : Option Value → eb_H → Prop} (x1 : Int32)  (ko : eb_KO h) (w : (((eb_I h s_reader_laws 3) < 0 → Q none h) ∧ (¬ ((eb_I h s_reader_laws 3) < 0) → (((eb_I h s_reader_laws 3) < (900 : Int32) → (vp_in (eb_I h s_reader_laws 3) 900) ∧ Q none (eb_sI (eb_sI h s_reader_laws_codes (eb_I h s_reader_laws 3).toNatClampNeg x1) s_reader_laws 3 ((eb_I (eb_sI h s_reader_laws_codes (eb_I h s_reader_laws 3).toNatClampNeg x1) s_reader_laws 3) + 1))) ∧ (¬ ((eb_I h s_reader_laws 3) < (900 : Int32)) → Q none h))))) : eb_Sn d m_X3_emit h0 0 [(0, .ref s_reader_laws), (1, .int x1)] [] h Q := by
  refine eb_aload_n (pc := 0) (n := 0) (i := 0) rfl rfl rfl ?_
  refine eb_getI (pc := 1) rfl rfl (by decide) (by decide) rfl ?_
  refine eb_if_lt (pc := 4) (tgt := 19) rfl (by decide) (fun c1 => ?_) (fun c1 => ?_)
  · replace w := w.1 c1
    exact eb_return (pc := 19) rfl rfl w
  · replace w := w.2 c1
    refine eb_aload_n (pc := 7) (n := 0) (i := 0) rfl rfl rfl ?_
    refine eb_getI (pc := 8) rfl rfl (by decide) (by decide) rfl ?_
    refine eb_aload_n (pc := 11) (n := 0) (i := 0) rfl rfl rfl ?_
    refine eb_getR (pc := 12) rfl rfl (by decide) (by decide) rfl (ko_s_reader_laws_1 ko) ?_
    refine eb_alen (pc := 15) (v := 900) rfl (by decide) (by decide) rfl ?_
    refine eb_icmp_lt (pc := 16) (tgt := 20) rfl (by decide) (fun c2 => ?_) (fun c2 => ?_)
    · replace w := w.1 c2
      refine eb_aload_n (pc := 20) (n := 0) (i := 0) rfl rfl rfl ?_
      refine eb_getR (pc := 21) rfl rfl (by decide) (by decide) rfl (ko_s_reader_laws_1 ko) ?_
      refine eb_aload_n (pc := 24) (n := 0) (i := 0) rfl rfl rfl ?_
      refine eb_getI (pc := 25) rfl rfl (by decide) (by decide) rfl ?_
      refine eb_iload_n (pc := 28) (n := 1) (i := 1) rfl rfl rfl ?_
      obtain ⟨c3, w⟩ := w
      refine eb_iastore (pc := 29) rfl rfl c3 ?_
      refine eb_aload_n (pc := 30) (n := 0) (i := 0) rfl rfl rfl ?_
      refine eb_dupr (pc := 31) rfl ?_
      refine eb_getI (pc := 32) rfl rfl (by decide) (by decide) rfl ?_
      refine eb_iconst (pc := 35) (n := 1) (v := 1) rfl rfl ?_
      refine eb_iadd (pc := 36) rfl ?_
      refine eb_putI (pc := 37) rfl rfl (by decide) (by decide) rfl rfl ⟨rfl, rfl⟩ ?_
      exact eb_return (pc := 40) rfl rfl w
    · replace w := w.2 c2
      exact eb_return (pc := 19) rfl rfl w
theorem T_X3_emit {d : Nat} {h : eb_H} {Q : Option Value → eb_H → Prop} (x1 : Int32)  (ko : eb_KO h) (w : (((eb_I h s_reader_laws 3) < 0 → Q none h) ∧ (¬ ((eb_I h s_reader_laws 3) < 0) → (((eb_I h s_reader_laws 3) < (900 : Int32) → (vp_in (eb_I h s_reader_laws 3) 900) ∧ Q none (eb_sI (eb_sI h s_reader_laws_codes (eb_I h s_reader_laws 3).toNatClampNeg x1) s_reader_laws 3 ((eb_I (eb_sI h s_reader_laws_codes (eb_I h s_reader_laws 3).toNatClampNeg x1) s_reader_laws 3) + 1))) ∧ (¬ ((eb_I h s_reader_laws 3) < (900 : Int32)) → Q none h))))) : eb_Ct d 40 [.ref s_reader_laws, .int x1] h Q :=
  eb_bodyQ (by decide) ok_X3_emit (Nat.le_of_ble_eq_true rfl) (b_X3_emit_0 (h0 := h) x1  ko w)
theorem b_X4_init_0 {d : Nat} {h0 h : eb_H} {Q : Option Value → eb_H → Prop} (a0 : Nat) (ka0 : eb_kd a0 = 4) (w : ∀ r3, r3 = eb_nx h 16 10 → ∀ h1, h1 = eb_nw h 16 10 10 → ∀ h5, h5 = eb_sR h1 a0 0 (some r3) → ∀ h7, h7 = eb_sI h5 a0 1 0 → ∀ h9, h9 = eb_sI h7 a0 2 0 → eb_Sn (d + 1) m_X4_init h0 25 [(0, .ref a0), (1, .int 0)] [] h9 Q) : eb_Sn (d + 1) m_X4_init h0 0 [(0, .ref a0)] [] h Q := by
  refine eb_aload_n (pc := 0) (n := 0) (i := 0) rfl rfl rfl ?_
  refine eb_objInit (pc := 1) rfl (by decide +kernel) (by omega) (Nat.le_of_ble_eq_true rfl) ?_
  refine eb_aload_n (pc := 4) (n := 0) (i := 0) rfl rfl rfl ?_
  refine eb_bipush (pc := 5) (n := 10) (v := 10) rfl rfl ?_
  refine eb_newR (pc := 7) (kd := 16) (len := 10) rfl (by decide) (by decide) rfl (by decide) rfl (by decide) ?_
  obtain ⟨r3, e4⟩ : ∃ z, z = eb_nx h 16 10 := ⟨_, rfl⟩
  rw [← e4]
  replace w := w r3 e4
  obtain ⟨h1, e2⟩ : ∃ z, z = eb_nw h 16 10 10 := ⟨_, rfl⟩
  rw [← e2]
  replace w := w h1 e2
  refine eb_putR (pc := 10) rfl ka0 (by decide) (by decide) rfl (Or.inr ⟨rfl, rfl, rfl⟩) (eb_k20 (c := 16) (by rw [e4]; exact eb_mk_kd (by decide)) (by decide)) ?_
  obtain ⟨h5, e6⟩ : ∃ z, z = eb_sR h1 a0 0 (some r3) := ⟨_, rfl⟩
  rw [← e6]
  replace w := w h5 e6
  refine eb_aload_n (pc := 13) (n := 0) (i := 0) rfl rfl rfl ?_
  refine eb_iconst (pc := 14) (n := 0) (v := 0) rfl rfl ?_
  refine eb_putI (pc := 15) rfl ka0 (by decide) (by decide) rfl rfl ⟨rfl, rfl⟩ ?_
  obtain ⟨h7, e8⟩ : ∃ z, z = eb_sI h5 a0 1 0 := ⟨_, rfl⟩
  rw [← e8]
  replace w := w h7 e8
  refine eb_aload_n (pc := 18) (n := 0) (i := 0) rfl rfl rfl ?_
  refine eb_iconst (pc := 19) (n := 0) (v := 0) rfl rfl ?_
  refine eb_putI (pc := 20) rfl ka0 (by decide) (by decide) rfl rfl ⟨rfl, rfl⟩ ?_
  obtain ⟨h9, e10⟩ : ∃ z, z = eb_sI h7 a0 2 0 := ⟨_, rfl⟩
  rw [← e10]
  replace w := w h9 e10
  refine eb_iconst (pc := 23) (n := 0) (v := 0) rfl rfl ?_
  refine eb_istore_n (pc := 24) (n := 1) (i := 1) (ls2 := [(1, .int 0), (0, .ref a0)]) rfl (Nat.le_of_ble_eq_true rfl) rfl rfl ?_
  exact eb_pick [1, 0] rfl w
theorem b_X4_init_25 {d : Nat} {h0 h : eb_H} {Q : Option Value → eb_H → Prop} (a0 : Nat) (x1 : Int32) (ka0 : eb_kd a0 = 4) (w : (((10 : Int32) ≤ x1 → Q none h) ∧ (¬ ((10 : Int32) ≤ x1) → ∃ r2, eb_R h a0 0 = some r2 ∧ eb_kd r2 = 16 ∧ ∀ r7, r7 = eb_nx h 6 0 → ∀ h5, h5 = eb_nw h 6 0 (eb_nf 6) → eb_Ct d 59 [.ref r7] h5 (fun r h9 => r = none ∧ (vp_in x1 (eb_ln r2)) ∧ ∀ h13, h13 = eb_sR h9 r2 x1.toNatClampNeg (some r7) → eb_Sn (d + 1) m_X4_init h0 25 [(0, .ref a0), (1, .int (x1 + 1))] [] h13 Q)))) : eb_Sn (d + 1) m_X4_init h0 25 [(0, .ref a0), (1, .int x1)] [] h Q := by
  refine eb_iload_n (pc := 25) (n := 1) (i := 1) rfl rfl rfl ?_
  refine eb_bipush (pc := 26) (n := 10) (v := 10) rfl rfl ?_
  refine eb_icmp_ge (pc := 28) (tgt := 50) rfl (by decide) (fun c1 => ?_) (fun c1 => ?_)
  · replace w := w.1 c1
    exact eb_return (pc := 50) rfl rfl w
  · replace w := w.2 c1
    refine eb_aload_n (pc := 31) (n := 0) (i := 0) rfl rfl rfl ?_
    obtain ⟨r2, q3, k4, w⟩ := w
    refine eb_getR (pc := 32) rfl ka0 (by decide) (by decide) rfl q3 ?_
    refine eb_iload_n (pc := 35) (n := 1) (i := 1) rfl rfl rfl ?_
    refine eb_new (pc := 36) rfl (by decide) ?_
    obtain ⟨r7, e8⟩ : ∃ z, z = eb_nx h 6 0 := ⟨_, rfl⟩
    rw [← e8]
    replace w := w r7 e8
    obtain ⟨h5, e6⟩ : ∃ z, z = eb_nw h 6 0 (eb_nf 6) := ⟨_, rfl⟩
    rw [← e6]
    replace w := w h5 e6
    refine eb_dupr (pc := 39) rfl ?_
    refine eb_ctI (pc := 40) (As := []) (rest := [.ref r7, .int x1, .ref r2]) rfl (by decide) (by decide) rfl rfl rfl rfl (Nat.le_of_ble_eq_true rfl) ?_
    refine eb_Ct.mono w ?_
    rintro r h9 ⟨rfl, w⟩
    change eb_Sn _ _ _ 43 _ [.ref r7, .int x1, .ref r2] _ _
    obtain ⟨c12, w⟩ := w
    refine eb_aastore (pc := 43) rfl k4 (by decide) (by decide) c12 (by rw [e8]; exact eb_mk_kd (by decide)) ?_
    obtain ⟨h13, e14⟩ : ∃ z, z = eb_sR h9 r2 x1.toNatClampNeg (some r7) := ⟨_, rfl⟩
    rw [← e14]
    replace w := w h13 e14
    refine eb_iinc (pc := 44) (i := 1) (n := 1) (v := x1 + 1) (ls2 := [(1, .int (x1 + 1)), (0, .ref a0)]) (Nat.le_of_ble_eq_true rfl) rfl rfl rfl rfl ?_
    refine eb_goto (pc := 47) (tgt := 25) rfl (by decide) ?_
    exact eb_pick [1, 0] rfl w
theorem T_X4_init {d : Nat} {h : eb_H} {Q : Option Value → eb_H → Prop} (a0 : Nat) (ka0 : eb_kd a0 = 4) (w : ∀ r3, r3 = eb_nx h 16 10 → ∀ h1, h1 = eb_nw h 16 10 10 → ∀ h5, h5 = eb_sR h1 a0 0 (some r3) → ∀ h7, h7 = eb_sI h5 a0 1 0 → ∀ h9, h9 = eb_sI h7 a0 2 0 → eb_Sn (d + 1) m_X4_init h 25 [(0, .ref a0), (1, .int 0)] [] h9 Q) : eb_Ct (d + 1) 41 [.ref a0] h Q :=
  eb_bodyQ (by decide) ok_X4_init (Nat.le_of_ble_eq_true rfl) (b_X4_init_0 (h0 := h) a0 ka0 w)
theorem b_X4_remember_0 {d : Nat} {h0 h : eb_H} {Q : Option Value → eb_H → Prop} (a1 : Nat) (ka1 : eb_kd a1 = 6) (ko : eb_KO h) (w : (((eb_I h s_past 1) < 0 → Q none h) ∧ (¬ ((eb_I h s_past 1) < 0) → (((eb_I h s_past 1) < (10 : Int32) → (vp_in (eb_I h s_past 1) 10) ∧ ∃ r4, eb_R h s_past_states (eb_I h s_past 1).toNatClampNeg = some r4 ∧ (eb_kd r4 = 6) ∧ eb_Ct d 60 [.ref r4, .ref a1] h (fun r h7 => r = none ∧ eb_KO h7 ∧ eb_Ct d 287 [.int ((eb_I (eb_sI h7 s_past 1 (((eb_I h7 s_past 1) + 1) - ((eb_I h7 s_past 1) + 1) / 10 * 10)) s_past 2) + 1), .int 10] (eb_sI h7 s_past 1 (((eb_I h7 s_past 1) + 1) - ((eb_I h7 s_past 1) + 1) / 10 * 10)) (fun r h10 => ∃ y11, r = some (.int y11) ∧ eb_KO h10 ∧ Q none (eb_sI h10 s_past 2 y11)))) ∧ (¬ ((eb_I h s_past 1) < (10 : Int32)) → Q none h))))) : eb_Sn (d + 1) m_X4_remember h0 0 [(0, .ref s_past), (1, .ref a1)] [] h Q := by
  refine eb_aload_n (pc := 0) (n := 0) (i := 0) rfl rfl rfl ?_
  refine eb_getI (pc := 1) rfl rfl (by decide) (by decide) rfl ?_
  refine eb_if_lt (pc := 4) (tgt := 16) rfl (by decide) (fun c1 => ?_) (fun c1 => ?_)
  · replace w := w.1 c1
    exact eb_return (pc := 16) rfl rfl w
  · replace w := w.2 c1
    refine eb_aload_n (pc := 7) (n := 0) (i := 0) rfl rfl rfl ?_
    refine eb_getI (pc := 8) rfl rfl (by decide) (by decide) rfl ?_
    refine eb_bipush (pc := 11) (n := 10) (v := 10) rfl rfl ?_
    refine eb_icmp_lt (pc := 13) (tgt := 17) rfl (by decide) (fun c2 => ?_) (fun c2 => ?_)
    · replace w := w.1 c2
      refine eb_aload_n (pc := 17) (n := 0) (i := 0) rfl rfl rfl ?_
      refine eb_getR (pc := 18) rfl rfl (by decide) (by decide) rfl (ko_s_past_0 ko) ?_
      refine eb_aload_n (pc := 21) (n := 0) (i := 0) rfl rfl rfl ?_
      refine eb_getI (pc := 22) rfl rfl (by decide) (by decide) rfl ?_
      obtain ⟨c3, w⟩ := w
      obtain ⟨r4, q5, w⟩ := w
      refine eb_aaloadR (pc := 25) rfl rfl (by decide) (by decide) c3 q5 ?_
      refine eb_aload_n (pc := 26) (n := 1) (i := 1) rfl rfl rfl ?_
      obtain ⟨k6, w⟩ := w
      refine eb_ctV (pc := 27) (As := [.ref a1]) (rest := []) rfl (by decide) rfl k6 (by decide) rfl (Nat.le_of_ble_eq_true rfl) ?_
      refine eb_Ct.mono w ?_
      rintro r h7 ⟨rfl, ko9, w⟩
      change eb_Sn _ _ _ 30 _ [] _ _
      refine eb_aload_n (pc := 30) (n := 0) (i := 0) rfl rfl rfl ?_
      refine eb_aload_n (pc := 31) (n := 0) (i := 0) rfl rfl rfl ?_
      refine eb_getI (pc := 32) rfl rfl (by decide) (by decide) rfl ?_
      refine eb_iconst (pc := 35) (n := 1) (v := 1) rfl rfl ?_
      refine eb_iadd (pc := 36) rfl ?_
      refine eb_bipush (pc := 37) (n := 10) (v := 10) rfl rfl ?_
      refine eb_irem (pc := 39) (by decide) rfl ?_
      refine eb_putI (pc := 40) rfl rfl (by decide) (by decide) rfl rfl ⟨rfl, rfl⟩ ?_
      refine eb_aload_n (pc := 43) (n := 0) (i := 0) rfl rfl rfl ?_
      refine eb_aload_n (pc := 44) (n := 0) (i := 0) rfl rfl rfl ?_
      refine eb_getI (pc := 45) rfl rfl (by decide) (by decide) rfl ?_
      refine eb_iconst (pc := 48) (n := 1) (v := 1) rfl rfl ?_
      refine eb_iadd (pc := 49) rfl ?_
      refine eb_bipush (pc := 50) (n := 10) (v := 10) rfl rfl ?_
      refine eb_ctS (pc := 52) (As := [.int ((eb_I (eb_sI h7 s_past 1 (((eb_I h7 s_past 1) + 1) - ((eb_I h7 s_past 1) + 1) / 10 * 10)) s_past 2) + 1), .int 10]) (rest := [.ref s_past]) rfl (by decide) (by decide) rfl rfl (Nat.le_of_ble_eq_true rfl) ?_
      refine eb_Ct.mono w ?_
      rintro r h10 ⟨y11, rfl, ko12, w⟩
      change eb_Sn _ _ _ 55 _ [.int y11, .ref s_past] _ _
      refine eb_putI (pc := 55) rfl rfl (by decide) (by decide) rfl rfl ⟨rfl, rfl⟩ ?_
      exact eb_return (pc := 58) rfl rfl w
    · replace w := w.2 c2
      exact eb_return (pc := 16) rfl rfl w
theorem T_X4_remember {d : Nat} {h : eb_H} {Q : Option Value → eb_H → Prop} (a1 : Nat) (ka1 : eb_kd a1 = 6) (ko : eb_KO h) (w : (((eb_I h s_past 1) < 0 → Q none h) ∧ (¬ ((eb_I h s_past 1) < 0) → (((eb_I h s_past 1) < (10 : Int32) → (vp_in (eb_I h s_past 1) 10) ∧ ∃ r4, eb_R h s_past_states (eb_I h s_past 1).toNatClampNeg = some r4 ∧ (eb_kd r4 = 6) ∧ eb_Ct d 60 [.ref r4, .ref a1] h (fun r h7 => r = none ∧ eb_KO h7 ∧ eb_Ct d 287 [.int ((eb_I (eb_sI h7 s_past 1 (((eb_I h7 s_past 1) + 1) - ((eb_I h7 s_past 1) + 1) / 10 * 10)) s_past 2) + 1), .int 10] (eb_sI h7 s_past 1 (((eb_I h7 s_past 1) + 1) - ((eb_I h7 s_past 1) + 1) / 10 * 10)) (fun r h10 => ∃ y11, r = some (.int y11) ∧ eb_KO h10 ∧ Q none (eb_sI h10 s_past 2 y11)))) ∧ (¬ ((eb_I h s_past 1) < (10 : Int32)) → Q none h))))) : eb_Ct (d + 1) 42 [.ref s_past, .ref a1] h Q :=
  eb_bodyQ (by decide) ok_X4_remember (Nat.le_of_ble_eq_true rfl) (b_X4_remember_0 (h0 := h) a1 ka1 ko w)
theorem b_X4_bringBack_0 {d : Nat} {h0 h : eb_H} {Q : Option Value → eb_H → Prop} (a1 : Nat) (x2 : Int32) (ka1 : eb_kd a1 = 6) (ko : eb_KO h) (w : eb_Ct d 285 [.int ((eb_I h s_past 1) - x2), .int 10] h (fun r h1 => ∃ y2, r = some (.int y2) ∧ eb_KO h1 ∧ eb_Ct d 286 [.int ((eb_I (eb_sI h1 s_past 1 y2) s_past 2) - x2), .int 0] (eb_sI h1 s_past 1 y2) (fun r h4 => ∃ y5, r = some (.int y5) ∧ eb_KO h4 ∧ (((eb_I (eb_sI h4 s_past 2 y5) s_past 1) < 0 → Q none (eb_sI h4 s_past 2 y5)) ∧ (¬ ((eb_I (eb_sI h4 s_past 2 y5) s_past 1) < 0) → (((10 : Int32) ≤ (eb_I (eb_sI h4 s_past 2 y5) s_past 1) → Q none (eb_sI h4 s_past 2 y5)) ∧ (¬ ((10 : Int32) ≤ (eb_I (eb_sI h4 s_past 2 y5) s_past 1)) → (vp_in (eb_I (eb_sI h4 s_past 2 y5) s_past 1) 10) ∧ ∃ r10, eb_R (eb_sI h4 s_past 2 y5) s_past_states (eb_I (eb_sI h4 s_past 2 y5) s_past 1).toNatClampNeg = some r10 ∧ eb_Ct d 60 [.ref a1, .ref r10] (eb_sI h4 s_past 2 y5) (fun r h12 => r = none ∧ eb_KO h12 ∧ Q none h12)))))))) : eb_Sn (d + 1) m_X4_bringBack h0 0 [(0, .ref s_past), (1, .ref a1), (2, .int x2)] [] h Q := by
  refine eb_aload_n (pc := 0) (n := 0) (i := 0) rfl rfl rfl ?_
  refine eb_aload_n (pc := 1) (n := 0) (i := 0) rfl rfl rfl ?_
  refine eb_getI (pc := 2) rfl rfl (by decide) (by decide) rfl ?_
  refine eb_iload_n (pc := 5) (n := 2) (i := 2) rfl rfl rfl ?_
  refine eb_isub (pc := 6) rfl ?_
  refine eb_bipush (pc := 7) (n := 10) (v := 10) rfl rfl ?_
  refine eb_ctS (pc := 9) (As := [.int ((eb_I h s_past 1) - x2), .int 10]) (rest := [.ref s_past]) rfl (by decide) (by decide) rfl rfl (Nat.le_of_ble_eq_true rfl) ?_
  refine eb_Ct.mono w ?_
  rintro r h1 ⟨y2, rfl, ko3, w⟩
  change eb_Sn _ _ _ 12 _ [.int y2, .ref s_past] _ _
  refine eb_putI (pc := 12) rfl rfl (by decide) (by decide) rfl rfl ⟨rfl, rfl⟩ ?_
  refine eb_aload_n (pc := 15) (n := 0) (i := 0) rfl rfl rfl ?_
  refine eb_aload_n (pc := 16) (n := 0) (i := 0) rfl rfl rfl ?_
  refine eb_getI (pc := 17) rfl rfl (by decide) (by decide) rfl ?_
  refine eb_iload_n (pc := 20) (n := 2) (i := 2) rfl rfl rfl ?_
  refine eb_isub (pc := 21) rfl ?_
  refine eb_iconst (pc := 22) (n := 0) (v := 0) rfl rfl ?_
  refine eb_ctS (pc := 23) (As := [.int ((eb_I (eb_sI h1 s_past 1 y2) s_past 2) - x2), .int 0]) (rest := [.ref s_past]) rfl (by decide) (by decide) rfl rfl (Nat.le_of_ble_eq_true rfl) ?_
  refine eb_Ct.mono w ?_
  rintro r h4 ⟨y5, rfl, ko6, w⟩
  change eb_Sn _ _ _ 26 _ [.int y5, .ref s_past] _ _
  refine eb_putI (pc := 26) rfl rfl (by decide) (by decide) rfl rfl ⟨rfl, rfl⟩ ?_
  refine eb_aload_n (pc := 29) (n := 0) (i := 0) rfl rfl rfl ?_
  refine eb_getI (pc := 30) rfl rfl (by decide) (by decide) rfl ?_
  refine eb_if_lt (pc := 33) (tgt := 58) rfl (by decide) (fun c7 => ?_) (fun c7 => ?_)
  · replace w := w.1 c7
    exact eb_return (pc := 58) rfl rfl w
  · replace w := w.2 c7
    refine eb_aload_n (pc := 36) (n := 0) (i := 0) rfl rfl rfl ?_
    refine eb_getI (pc := 37) rfl rfl (by decide) (by decide) rfl ?_
    refine eb_bipush (pc := 40) (n := 10) (v := 10) rfl rfl ?_
    refine eb_icmp_ge (pc := 42) (tgt := 58) rfl (by decide) (fun c8 => ?_) (fun c8 => ?_)
    · replace w := w.1 c8
      exact eb_return (pc := 58) rfl rfl w
    · replace w := w.2 c8
      refine eb_aload_n (pc := 45) (n := 1) (i := 1) rfl rfl rfl ?_
      refine eb_aload_n (pc := 46) (n := 0) (i := 0) rfl rfl rfl ?_
      refine eb_getR (pc := 47) rfl rfl (by decide) (by decide) rfl (ko_s_past_0 ko6) ?_
      refine eb_aload_n (pc := 50) (n := 0) (i := 0) rfl rfl rfl ?_
      refine eb_getI (pc := 51) rfl rfl (by decide) (by decide) rfl ?_
      obtain ⟨c9, w⟩ := w
      obtain ⟨r10, q11, w⟩ := w
      refine eb_aaloadR (pc := 54) rfl rfl (by decide) (by decide) c9 q11 ?_
      refine eb_ctV (pc := 55) (As := [.ref r10]) (rest := []) rfl (by decide) rfl ka1 (by decide) rfl (Nat.le_of_ble_eq_true rfl) ?_
      refine eb_Ct.mono w ?_
      rintro r h12 ⟨rfl, ko14, w⟩
      change eb_Sn _ _ _ 58 _ [] _ _
      exact eb_return (pc := 58) rfl rfl w
theorem T_X4_bringBack {d : Nat} {h : eb_H} {Q : Option Value → eb_H → Prop} (a1 : Nat) (x2 : Int32) (ka1 : eb_kd a1 = 6) (ko : eb_KO h) (w : eb_Ct d 285 [.int ((eb_I h s_past 1) - x2), .int 10] h (fun r h1 => ∃ y2, r = some (.int y2) ∧ eb_KO h1 ∧ eb_Ct d 286 [.int ((eb_I (eb_sI h1 s_past 1 y2) s_past 2) - x2), .int 0] (eb_sI h1 s_past 1 y2) (fun r h4 => ∃ y5, r = some (.int y5) ∧ eb_KO h4 ∧ (((eb_I (eb_sI h4 s_past 2 y5) s_past 1) < 0 → Q none (eb_sI h4 s_past 2 y5)) ∧ (¬ ((eb_I (eb_sI h4 s_past 2 y5) s_past 1) < 0) → (((10 : Int32) ≤ (eb_I (eb_sI h4 s_past 2 y5) s_past 1) → Q none (eb_sI h4 s_past 2 y5)) ∧ (¬ ((10 : Int32) ≤ (eb_I (eb_sI h4 s_past 2 y5) s_past 1)) → (vp_in (eb_I (eb_sI h4 s_past 2 y5) s_past 1) 10) ∧ ∃ r10, eb_R (eb_sI h4 s_past 2 y5) s_past_states (eb_I (eb_sI h4 s_past 2 y5) s_past 1).toNatClampNeg = some r10 ∧ eb_Ct d 60 [.ref a1, .ref r10] (eb_sI h4 s_past 2 y5) (fun r h12 => r = none ∧ eb_KO h12 ∧ Q none h12)))))))) : eb_Ct (d + 1) 43 [.ref s_past, .ref a1, .int x2] h Q :=
  eb_bodyQ (by decide) ok_X4_bringBack (Nat.le_of_ble_eq_true rfl) (b_X4_bringBack_0 (h0 := h) a1 x2 ka1 ko w)
theorem b_X4_forget_0 {d : Nat} {h0 h : eb_H} {Q : Option Value → eb_H → Prop}   (ko : eb_KO h) (w : Q none (eb_sI h s_past 2 0)) : eb_Sn d m_X4_forget h0 0 [(0, .ref s_past)] [] h Q := by
  refine eb_aload_n (pc := 0) (n := 0) (i := 0) rfl rfl rfl ?_
  refine eb_iconst (pc := 1) (n := 0) (v := 0) rfl rfl ?_
  refine eb_putI (pc := 2) rfl rfl (by decide) (by decide) rfl rfl ⟨rfl, rfl⟩ ?_
  exact eb_return (pc := 5) rfl rfl w
theorem T_X4_forget {d : Nat} {h : eb_H} {Q : Option Value → eb_H → Prop}   (ko : eb_KO h) (w : Q none (eb_sI h s_past 2 0)) : eb_Ct d 44 [.ref s_past] h Q :=
  eb_bodyQ (by decide) ok_X4_forget (Nat.le_of_ble_eq_true rfl) (b_X4_forget_0 (h0 := h)   ko w)
theorem b_X5_init_0 {d : Nat} {h0 h : eb_H} {Q : Option Value → eb_H → Prop} (a0 : Nat) (ka0 : eb_kd a0 = 5) (w : ∀ r3, r3 = eb_nx h 3 0 → ∀ h1, h1 = eb_nw h 3 0 (eb_nf 3) → eb_Ct d 27 [.ref r3] h1 (fun r h5 => r = none ∧ ∀ h8, h8 = eb_sR h5 a0 0 (some r3) → ∃ r10, eb_R h8 a0 0 = some r10 ∧ eb_kd r10 = 3 ∧ ∃ r13, eb_R h8 r10 0 = some r13 ∧ eb_kd r13 = 7 ∧ ∀ h16, h16 = eb_sR h8 a0 1 (some r13) → ∀ r20, r20 = eb_nx h16 9 0 → ∀ h18, h18 = eb_nw h16 9 0 (eb_nf 9) → eb_Ct d 79 [.ref r20] h18 (fun r h22 => r = none ∧ ∀ h25, h25 = eb_sR h22 a0 2 (some r20) → ∀ r29, r29 = eb_nx h25 6 0 → ∀ h27, h27 = eb_nw h25 6 0 (eb_nf 6) → eb_Ct d 59 [.ref r29] h27 (fun r h31 => r = none ∧ ∀ h34, h34 = eb_sR h31 a0 3 (some r29) → Q none h34)))) : eb_Sn (d + 1) m_X5_init h0 0 [(0, .ref a0)] [] h Q := by
  refine eb_aload_n (pc := 0) (n := 0) (i := 0) rfl rfl rfl ?_
  refine eb_objInit (pc := 1) rfl (by decide +kernel) (by omega) (Nat.le_of_ble_eq_true rfl) ?_
  refine eb_aload_n (pc := 4) (n := 0) (i := 0) rfl rfl rfl ?_
  refine eb_new (pc := 5) rfl (by decide) ?_
  obtain ⟨r3, e4⟩ : ∃ z, z = eb_nx h 3 0 := ⟨_, rfl⟩
  rw [← e4]
  replace w := w r3 e4
  obtain ⟨h1, e2⟩ : ∃ z, z = eb_nw h 3 0 (eb_nf 3) := ⟨_, rfl⟩
  rw [← e2]
  replace w := w h1 e2
  refine eb_dupr (pc := 8) rfl ?_
  refine eb_ctI (pc := 9) (As := []) (rest := [.ref r3, .ref a0]) rfl (by decide) (by decide) rfl rfl rfl rfl (Nat.le_of_ble_eq_true rfl) ?_
  refine eb_Ct.mono w ?_
  rintro r h5 ⟨rfl, w⟩
  change eb_Sn _ _ _ 12 _ [.ref r3, .ref a0] _ _
  refine eb_putR (pc := 12) rfl ka0 (by decide) (by decide) rfl (Or.inr ⟨rfl, rfl, rfl⟩) (eb_k20 (c := 3) (by rw [e4]; exact eb_mk_kd (by decide)) (by decide)) ?_
  obtain ⟨h8, e9⟩ : ∃ z, z = eb_sR h5 a0 0 (some r3) := ⟨_, rfl⟩
  rw [← e9]
  replace w := w h8 e9
  refine eb_aload_n (pc := 15) (n := 0) (i := 0) rfl rfl rfl ?_
  refine eb_aload_n (pc := 16) (n := 0) (i := 0) rfl rfl rfl ?_
  obtain ⟨r10, q11, k12, w⟩ := w
  refine eb_getR (pc := 17) rfl ka0 (by decide) (by decide) rfl q11 ?_
  obtain ⟨r13, q14, k15, w⟩ := w
  refine eb_getR (pc := 20) rfl k12 (by decide) (by decide) rfl q14 ?_
  refine eb_putR (pc := 23) rfl ka0 (by decide) (by decide) rfl (Or.inr ⟨rfl, rfl, rfl⟩) (eb_k20 (c := 7) k15 (by decide)) ?_
  obtain ⟨h16, e17⟩ : ∃ z, z = eb_sR h8 a0 1 (some r13) := ⟨_, rfl⟩
  rw [← e17]
  replace w := w h16 e17
  refine eb_aload_n (pc := 26) (n := 0) (i := 0) rfl rfl rfl ?_
  refine eb_new (pc := 27) rfl (by decide) ?_
  obtain ⟨r20, e21⟩ : ∃ z, z = eb_nx h16 9 0 := ⟨_, rfl⟩
  rw [← e21]
  replace w := w r20 e21
  obtain ⟨h18, e19⟩ : ∃ z, z = eb_nw h16 9 0 (eb_nf 9) := ⟨_, rfl⟩
  rw [← e19]
  replace w := w h18 e19
  refine eb_dupr (pc := 30) rfl ?_
  refine eb_ctI (pc := 31) (As := []) (rest := [.ref r20, .ref a0]) rfl (by decide) (by decide) rfl rfl rfl rfl (Nat.le_of_ble_eq_true rfl) ?_
  refine eb_Ct.mono w ?_
  rintro r h22 ⟨rfl, w⟩
  change eb_Sn _ _ _ 34 _ [.ref r20, .ref a0] _ _
  refine eb_putR (pc := 34) rfl ka0 (by decide) (by decide) rfl (Or.inl rfl) (eb_k20 (c := 9) (by rw [e21]; exact eb_mk_kd (by decide)) (by decide)) ?_
  obtain ⟨h25, e26⟩ : ∃ z, z = eb_sR h22 a0 2 (some r20) := ⟨_, rfl⟩
  rw [← e26]
  replace w := w h25 e26
  refine eb_aload_n (pc := 37) (n := 0) (i := 0) rfl rfl rfl ?_
  refine eb_new (pc := 38) rfl (by decide) ?_
  obtain ⟨r29, e30⟩ : ∃ z, z = eb_nx h25 6 0 := ⟨_, rfl⟩
  rw [← e30]
  replace w := w r29 e30
  obtain ⟨h27, e28⟩ : ∃ z, z = eb_nw h25 6 0 (eb_nf 6) := ⟨_, rfl⟩
  rw [← e28]
  replace w := w h27 e28
  refine eb_dupr (pc := 41) rfl ?_
  refine eb_ctI (pc := 42) (As := []) (rest := [.ref r29, .ref a0]) rfl (by decide) (by decide) rfl rfl rfl rfl (Nat.le_of_ble_eq_true rfl) ?_
  refine eb_Ct.mono w ?_
  rintro r h31 ⟨rfl, w⟩
  change eb_Sn _ _ _ 45 _ [.ref r29, .ref a0] _ _
  refine eb_putR (pc := 45) rfl ka0 (by decide) (by decide) rfl (Or.inr ⟨rfl, rfl, rfl⟩) (eb_k20 (c := 6) (by rw [e30]; exact eb_mk_kd (by decide)) (by decide)) ?_
  obtain ⟨h34, e35⟩ : ∃ z, z = eb_sR h31 a0 3 (some r29) := ⟨_, rfl⟩
  rw [← e35]
  replace w := w h34 e35
  exact eb_return (pc := 48) rfl rfl w
theorem T_X5_init {d : Nat} {h : eb_H} {Q : Option Value → eb_H → Prop} (a0 : Nat) (ka0 : eb_kd a0 = 5) (w : ∀ r3, r3 = eb_nx h 3 0 → ∀ h1, h1 = eb_nw h 3 0 (eb_nf 3) → eb_Ct d 27 [.ref r3] h1 (fun r h5 => r = none ∧ ∀ h8, h8 = eb_sR h5 a0 0 (some r3) → ∃ r10, eb_R h8 a0 0 = some r10 ∧ eb_kd r10 = 3 ∧ ∃ r13, eb_R h8 r10 0 = some r13 ∧ eb_kd r13 = 7 ∧ ∀ h16, h16 = eb_sR h8 a0 1 (some r13) → ∀ r20, r20 = eb_nx h16 9 0 → ∀ h18, h18 = eb_nw h16 9 0 (eb_nf 9) → eb_Ct d 79 [.ref r20] h18 (fun r h22 => r = none ∧ ∀ h25, h25 = eb_sR h22 a0 2 (some r20) → ∀ r29, r29 = eb_nx h25 6 0 → ∀ h27, h27 = eb_nw h25 6 0 (eb_nf 6) → eb_Ct d 59 [.ref r29] h27 (fun r h31 => r = none ∧ ∀ h34, h34 = eb_sR h31 a0 3 (some r29) → Q none h34)))) : eb_Ct (d + 1) 45 [.ref a0] h Q :=
  eb_bodyQ (by decide) ok_X5_init (Nat.le_of_ble_eq_true rfl) (b_X5_init_0 (h0 := h) a0 ka0 w)
theorem b_X5_readText_0 {d : Nat} {h0 h : eb_H} {Q : Option Value → eb_H → Prop} (x1 : Int32)  (ko : eb_KO h) (w : (89 ≤ eb_n h) ∧ eb_Ct d 79 [.ref (eb_nx h 9 0)] (eb_nw h 9 0 (eb_nf 9)) (fun r h2 => r = none ∧ eb_KO h2 ∧ eb_Ct d 61 [.ref s_reader_start] (eb_sR h2 s_reader 2 (some (eb_nx h 9 0))) (fun r h5 => r = none ∧ eb_KO h5 ∧ eb_Ct d 67 [.ref s_tape, .int x1] h5 (fun r h8 => r = none ∧ eb_KO h8 ∧ eb_Ct d 47 [.ref s_reader] h8 (fun r h11 => r = none ∧ eb_KO h11 ∧ eb_Sn (d + 1) m_X5_readText h0 32 [(0, .ref s_reader), (1, .int x1), (2, .int 0)] [] h11 Q))))) : eb_Sn (d + 1) m_X5_readText h0 0 [(0, .ref s_reader), (1, .int x1)] [] h Q := by
  refine eb_aload_n (pc := 0) (n := 0) (i := 0) rfl rfl rfl ?_
  obtain ⟨c1, w⟩ := w
  refine eb_new (pc := 1) rfl (by decide) ?_
  refine eb_dupr (pc := 4) rfl ?_
  refine eb_ctI (pc := 5) (As := []) (rest := [.ref (eb_nx h 9 0), .ref s_reader]) rfl (by decide) (by decide) rfl rfl rfl rfl (Nat.le_of_ble_eq_true rfl) ?_
  refine eb_Ct.mono w ?_
  rintro r h2 ⟨rfl, ko4, w⟩
  change eb_Sn _ _ _ 8 _ [.ref (eb_nx h 9 0), .ref s_reader] _ _
  refine eb_putR (pc := 8) rfl rfl (by decide) (by decide) rfl (Or.inl rfl) (eb_k20 (c := 9) (eb_mk_kd (by decide)) (by decide)) ?_
  refine eb_aload_n (pc := 11) (n := 0) (i := 0) rfl rfl rfl ?_
  refine eb_getR (pc := 12) rfl rfl (by decide) (by decide) rfl (ko_s_reader_3 (ko_sR (by decide +kernel) ko4)) ?_
  refine eb_ctV (pc := 15) (As := []) (rest := []) rfl (by decide) rfl rfl (by decide) rfl (Nat.le_of_ble_eq_true rfl) ?_
  refine eb_Ct.mono w ?_
  rintro r h5 ⟨rfl, ko7, w⟩
  change eb_Sn _ _ _ 18 _ [] _ _
  refine eb_aload_n (pc := 18) (n := 0) (i := 0) rfl rfl rfl ?_
  refine eb_getR (pc := 19) rfl rfl (by decide) (by decide) rfl (ko_s_reader_1 ko7) ?_
  refine eb_iload_n (pc := 22) (n := 1) (i := 1) rfl rfl rfl ?_
  refine eb_ctV (pc := 23) (As := [.int x1]) (rest := []) rfl (by decide) rfl rfl (by decide) rfl (Nat.le_of_ble_eq_true rfl) ?_
  refine eb_Ct.mono w ?_
  rintro r h8 ⟨rfl, ko10, w⟩
  change eb_Sn _ _ _ 26 _ [] _ _
  refine eb_aload_n (pc := 26) (n := 0) (i := 0) rfl rfl rfl ?_
  refine eb_ctV (pc := 27) (As := []) (rest := []) rfl (by decide) rfl rfl (by decide) rfl (Nat.le_of_ble_eq_true rfl) ?_
  refine eb_Ct.mono w ?_
  rintro r h11 ⟨rfl, ko13, w⟩
  change eb_Sn _ _ _ 30 _ [] _ _
  refine eb_iconst (pc := 30) (n := 0) (v := 0) rfl rfl ?_
  refine eb_istore_n (pc := 31) (n := 2) (i := 2) (ls2 := [(2, .int 0), (0, .ref s_reader), (1, .int x1)]) rfl (Nat.le_of_ble_eq_true rfl) rfl rfl ?_
  exact eb_pick [1, 2, 0] rfl w
theorem b_X5_readText_32 {d : Nat} {h0 h : eb_H} {Q : Option Value → eb_H → Prop} (x1 : Int32) (x2 : Int32)  (ko : eb_KO h) (w : ((x1 ≤ x2 → Q none h) ∧ (¬ (x1 ≤ x2) → ((¬ (eb_I h s_tape 7) = 0 → Q none h) ∧ ((eb_I h s_tape 7) = 0 → (((eb_I h s_tape 5) = 0 → Q none h) ∧ (¬ ((eb_I h s_tape 5) = 0) → eb_Ct d 48 [.ref s_reader] h (fun r h4 => r = none ∧ eb_KO h4 ∧ eb_Sn (d + 1) m_X5_readText h0 32 [(0, .ref s_reader), (1, .int x1), (2, .int (x2 + 1))] [] h4 Q)))))))) : eb_Sn (d + 1) m_X5_readText h0 32 [(0, .ref s_reader), (1, .int x1), (2, .int x2)] [] h Q := by
  refine eb_iload_n (pc := 32) (n := 2) (i := 2) rfl rfl rfl ?_
  refine eb_iload_n (pc := 33) (n := 1) (i := 1) rfl rfl rfl ?_
  refine eb_icmp_ge (pc := 34) (tgt := 67) rfl (by decide) (fun c1 => ?_) (fun c1 => ?_)
  · replace w := w.1 c1
    exact eb_return (pc := 67) rfl rfl w
  · replace w := w.2 c1
    refine eb_aload_n (pc := 37) (n := 0) (i := 0) rfl rfl rfl ?_
    refine eb_getR (pc := 38) rfl rfl (by decide) (by decide) rfl (ko_s_reader_1 ko) ?_
    refine eb_getI (pc := 41) rfl rfl (by decide) (by decide) rfl ?_
    refine eb_if_ne (pc := 44) (tgt := 67) rfl (by decide) (fun c2 => ?_) (fun c2 => ?_)
    · replace w := w.1 c2
      exact eb_return (pc := 67) rfl rfl w
    · replace w := w.2 c2
      refine eb_aload_n (pc := 47) (n := 0) (i := 0) rfl rfl rfl ?_
      refine eb_getR (pc := 48) rfl rfl (by decide) (by decide) rfl (ko_s_reader_1 ko) ?_
      refine eb_getI (pc := 51) rfl rfl (by decide) (by decide) rfl ?_
      refine eb_if_eq (pc := 54) (tgt := 67) rfl (by decide) (fun c3 => ?_) (fun c3 => ?_)
      · replace w := w.1 c3
        exact eb_return (pc := 67) rfl rfl w
      · replace w := w.2 c3
        refine eb_aload_n (pc := 57) (n := 0) (i := 0) rfl rfl rfl ?_
        refine eb_ctV (pc := 58) (As := []) (rest := []) rfl (by decide) rfl rfl (by decide) rfl (Nat.le_of_ble_eq_true rfl) ?_
        refine eb_Ct.mono w ?_
        rintro r h4 ⟨rfl, ko6, w⟩
        change eb_Sn _ _ _ 61 _ [] _ _
        refine eb_iinc (pc := 61) (i := 2) (n := 1) (v := x2 + 1) (ls2 := [(2, .int (x2 + 1)), (0, .ref s_reader), (1, .int x1)]) (Nat.le_of_ble_eq_true rfl) rfl rfl rfl rfl ?_
        refine eb_goto (pc := 64) (tgt := 32) rfl (by decide) ?_
        exact eb_pick [1, 2, 0] rfl w
theorem T_X5_readText {d : Nat} {h : eb_H} {Q : Option Value → eb_H → Prop} (x1 : Int32)  (ko : eb_KO h) (w : (89 ≤ eb_n h) ∧ eb_Ct d 79 [.ref (eb_nx h 9 0)] (eb_nw h 9 0 (eb_nf 9)) (fun r h2 => r = none ∧ eb_KO h2 ∧ eb_Ct d 61 [.ref s_reader_start] (eb_sR h2 s_reader 2 (some (eb_nx h 9 0))) (fun r h5 => r = none ∧ eb_KO h5 ∧ eb_Ct d 67 [.ref s_tape, .int x1] h5 (fun r h8 => r = none ∧ eb_KO h8 ∧ eb_Ct d 47 [.ref s_reader] h8 (fun r h11 => r = none ∧ eb_KO h11 ∧ eb_Sn (d + 1) m_X5_readText h 32 [(0, .ref s_reader), (1, .int x1), (2, .int 0)] [] h11 Q))))) : eb_Ct (d + 1) 46 [.ref s_reader, .int x1] h Q :=
  eb_bodyQ (by decide) ok_X5_readText (Nat.le_of_ble_eq_true rfl) (b_X5_readText_0 (h0 := h) x1  ko w)
theorem b_X5_readOpening_0 {d : Nat} {h0 h : eb_H} {Q : Option Value → eb_H → Prop}   (ko : eb_KO h) (w : eb_Ct d 49 [.ref s_reader, .ref (eb_mk 19 21 0)] h (fun r h1 => r = none ∧ eb_KO h1 ∧ ∃ r4, eb_R h1 s_reader 2 = some r4 ∧ eb_kd r4 = 9 ∧ eb_Ct d 51 [.ref s_reader, .int 1, .int 4] h1 (fun r h7 => ∃ y8, r = some (.int y8) ∧ eb_KO h7 ∧ ∃ r10, eb_R (eb_sI h7 r4 0 y8) s_reader 2 = some r10 ∧ eb_kd r10 = 9 ∧ eb_Ct d 51 [.ref s_reader, .int 1, .int 4] (eb_sI h7 r4 0 y8) (fun r h13 => ∃ y14, r = some (.int y14) ∧ eb_KO h13 ∧ eb_Ct d 49 [.ref s_reader, .ref (eb_mk 6 21 0)] (eb_sI h13 r10 1 y14) (fun r h16 => r = none ∧ eb_KO h16 ∧ ∃ r19, eb_R h16 s_reader 2 = some r19 ∧ eb_kd r19 = 9 ∧ eb_Ct d 51 [.ref s_reader, .int 1, .int 6] h16 (fun r h22 => ∃ y23, r = some (.int y23) ∧ eb_KO h22 ∧ eb_Ct d 50 [.ref s_reader] (eb_sI h22 r19 2 y23) (fun r h25 => r = none ∧ eb_KO h25 ∧ Q none h25))))))) : eb_Sn (d + 1) m_X5_readOpening h0 0 [(0, .ref s_reader)] [] h Q := by
  refine eb_aload_n (pc := 0) (n := 0) (i := 0) rfl rfl rfl ?_
  refine eb_ldcS (pc := 1) (a := 19) (i := eb_mk 19 21 0) rfl rfl rfl ?_
  refine eb_ctV (pc := 3) (As := [.ref (eb_mk 19 21 0)]) (rest := []) rfl (by decide) rfl rfl (by decide) rfl (Nat.le_of_ble_eq_true rfl) ?_
  refine eb_Ct.mono w ?_
  rintro r h1 ⟨rfl, ko3, w⟩
  change eb_Sn _ _ _ 6 _ [] _ _
  refine eb_aload_n (pc := 6) (n := 0) (i := 0) rfl rfl rfl ?_
  obtain ⟨r4, q5, k6, w⟩ := w
  refine eb_getR (pc := 7) rfl rfl (by decide) (by decide) rfl q5 ?_
  refine eb_aload_n (pc := 10) (n := 0) (i := 0) rfl rfl rfl ?_
  refine eb_iconst (pc := 11) (n := 1) (v := 1) rfl rfl ?_
  refine eb_iconst (pc := 12) (n := 4) (v := 4) rfl rfl ?_
  refine eb_ctV (pc := 13) (As := [.int 1, .int 4]) (rest := [.ref r4]) rfl (by decide) rfl rfl (by decide) rfl (Nat.le_of_ble_eq_true rfl) ?_
  refine eb_Ct.mono w ?_
  rintro r h7 ⟨y8, rfl, ko9, w⟩
  change eb_Sn _ _ _ 16 _ [.int y8, .ref r4] _ _
  refine eb_putI (pc := 16) rfl k6 (by decide) (by decide) rfl rfl ⟨rfl, rfl⟩ ?_
  refine eb_aload_n (pc := 19) (n := 0) (i := 0) rfl rfl rfl ?_
  obtain ⟨r10, q11, k12, w⟩ := w
  refine eb_getR (pc := 20) rfl rfl (by decide) (by decide) rfl q11 ?_
  refine eb_aload_n (pc := 23) (n := 0) (i := 0) rfl rfl rfl ?_
  refine eb_iconst (pc := 24) (n := 1) (v := 1) rfl rfl ?_
  refine eb_iconst (pc := 25) (n := 4) (v := 4) rfl rfl ?_
  refine eb_ctV (pc := 26) (As := [.int 1, .int 4]) (rest := [.ref r10]) rfl (by decide) rfl rfl (by decide) rfl (Nat.le_of_ble_eq_true rfl) ?_
  refine eb_Ct.mono w ?_
  rintro r h13 ⟨y14, rfl, ko15, w⟩
  change eb_Sn _ _ _ 29 _ [.int y14, .ref r10] _ _
  refine eb_putI (pc := 29) rfl k12 (by decide) (by decide) rfl rfl ⟨rfl, rfl⟩ ?_
  refine eb_aload_n (pc := 32) (n := 0) (i := 0) rfl rfl rfl ?_
  refine eb_ldcS (pc := 33) (a := 6) (i := eb_mk 6 21 0) rfl rfl rfl ?_
  refine eb_ctV (pc := 35) (As := [.ref (eb_mk 6 21 0)]) (rest := []) rfl (by decide) rfl rfl (by decide) rfl (Nat.le_of_ble_eq_true rfl) ?_
  refine eb_Ct.mono w ?_
  rintro r h16 ⟨rfl, ko18, w⟩
  change eb_Sn _ _ _ 38 _ [] _ _
  refine eb_aload_n (pc := 38) (n := 0) (i := 0) rfl rfl rfl ?_
  obtain ⟨r19, q20, k21, w⟩ := w
  refine eb_getR (pc := 39) rfl rfl (by decide) (by decide) rfl q20 ?_
  refine eb_aload_n (pc := 42) (n := 0) (i := 0) rfl rfl rfl ?_
  refine eb_iconst (pc := 43) (n := 1) (v := 1) rfl rfl ?_
  refine eb_bipush (pc := 44) (n := 6) (v := 6) rfl rfl ?_
  refine eb_ctV (pc := 46) (As := [.int 1, .int 6]) (rest := [.ref r19]) rfl (by decide) rfl rfl (by decide) rfl (Nat.le_of_ble_eq_true rfl) ?_
  refine eb_Ct.mono w ?_
  rintro r h22 ⟨y23, rfl, ko24, w⟩
  change eb_Sn _ _ _ 49 _ [.int y23, .ref r19] _ _
  refine eb_putI (pc := 49) rfl k21 (by decide) (by decide) rfl rfl ⟨rfl, rfl⟩ ?_
  refine eb_aload_n (pc := 52) (n := 0) (i := 0) rfl rfl rfl ?_
  refine eb_ctV (pc := 53) (As := []) (rest := []) rfl (by decide) rfl rfl (by decide) rfl (Nat.le_of_ble_eq_true rfl) ?_
  refine eb_Ct.mono w ?_
  rintro r h25 ⟨rfl, ko27, w⟩
  change eb_Sn _ _ _ 56 _ [] _ _
  exact eb_return (pc := 56) rfl rfl w
theorem T_X5_readOpening {d : Nat} {h : eb_H} {Q : Option Value → eb_H → Prop}   (ko : eb_KO h) (w : eb_Ct d 49 [.ref s_reader, .ref (eb_mk 19 21 0)] h (fun r h1 => r = none ∧ eb_KO h1 ∧ ∃ r4, eb_R h1 s_reader 2 = some r4 ∧ eb_kd r4 = 9 ∧ eb_Ct d 51 [.ref s_reader, .int 1, .int 4] h1 (fun r h7 => ∃ y8, r = some (.int y8) ∧ eb_KO h7 ∧ ∃ r10, eb_R (eb_sI h7 r4 0 y8) s_reader 2 = some r10 ∧ eb_kd r10 = 9 ∧ eb_Ct d 51 [.ref s_reader, .int 1, .int 4] (eb_sI h7 r4 0 y8) (fun r h13 => ∃ y14, r = some (.int y14) ∧ eb_KO h13 ∧ eb_Ct d 49 [.ref s_reader, .ref (eb_mk 6 21 0)] (eb_sI h13 r10 1 y14) (fun r h16 => r = none ∧ eb_KO h16 ∧ ∃ r19, eb_R h16 s_reader 2 = some r19 ∧ eb_kd r19 = 9 ∧ eb_Ct d 51 [.ref s_reader, .int 1, .int 6] h16 (fun r h22 => ∃ y23, r = some (.int y23) ∧ eb_KO h22 ∧ eb_Ct d 50 [.ref s_reader] (eb_sI h22 r19 2 y23) (fun r h25 => r = none ∧ eb_KO h25 ∧ Q none h25))))))) : eb_Ct (d + 1) 47 [.ref s_reader] h Q :=
  eb_bodyQ (by decide) ok_X5_readOpening (Nat.le_of_ble_eq_true rfl) (b_X5_readOpening_0 (h0 := h)   ko w)
theorem b_X5_readLine_0 {d : Nat} {h0 h : eb_H} {Q : Option Value → eb_H → Prop}   (ko : eb_KO h) (w : eb_Ct d 72 [.ref s_tape, .ref (eb_mk 16 21 0)] h (fun r h1 => ∃ y2, r = some (.int y2) ∧ eb_KO h1 ∧ ((y2 = 0 → eb_Ct d 72 [.ref s_tape, .ref (eb_mk 18 21 0)] h1 (fun r h5 => ∃ y6, r = some (.int y6) ∧ eb_KO h5 ∧ ((y6 = 0 → eb_Ct d 72 [.ref s_tape, .ref (eb_mk 8 21 0)] h5 (fun r h9 => ∃ y10, r = some (.int y10) ∧ eb_KO h9 ∧ ((y10 = 0 → eb_Ct d 72 [.ref s_tape, .ref (eb_mk 11 21 0)] h9 (fun r h13 => ∃ y14, r = some (.int y14) ∧ eb_KO h13 ∧ ((y14 = 0 → eb_Ct d 72 [.ref s_tape, .ref (eb_mk 20 21 0)] h13 (fun r h17 => ∃ y18, r = some (.int y18) ∧ eb_KO h17 ∧ ((y18 = 0 → eb_Ct d 72 [.ref s_tape, .ref (eb_mk 5 21 0)] h17 (fun r h21 => ∃ y22, r = some (.int y22) ∧ eb_KO h21 ∧ ((y22 = 0 → eb_Ct d 72 [.ref s_tape, .ref (eb_mk 13 21 0)] h21 (fun r h25 => ∃ y26, r = some (.int y26) ∧ eb_KO h25 ∧ ((y26 = 0 → eb_Ct d 72 [.ref s_tape, .ref (eb_mk 17 21 0)] h25 (fun r h29 => ∃ y30, r = some (.int y30) ∧ eb_KO h29 ∧ ((y30 = 0 → eb_Ct d 68 [.ref s_tape, .int 2] h29 (fun r h33 => r = none ∧ eb_KO h33 ∧ eb_Ct d 50 [.ref s_reader] h33 (fun r h36 => r = none ∧ eb_KO h36 ∧ Q none h36))) ∧ (¬ (y30 = 0) → ∃ r39, eb_R h29 s_reader 2 = some r39 ∧ eb_kd r39 = 9 ∧ eb_Ct d 28 [.ref s_reader_laws, .int 1] h29 (fun r h42 => ∃ y43, r = some (.ref y43) ∧ eb_KO h42 ∧ (eb_kd y43 = 2) ∧ eb_Ct d 50 [.ref s_reader] (eb_sR h42 r39 8 (some y43)) (fun r h46 => r = none ∧ eb_KO h46 ∧ Q none h46)))))) ∧ (¬ (y26 = 0) → ∃ r49, eb_R h25 s_reader 2 = some r49 ∧ eb_kd r49 = 9 ∧ eb_Ct d 28 [.ref s_reader_laws, .int 0] h25 (fun r h52 => ∃ y53, r = some (.ref y53) ∧ eb_KO h52 ∧ (eb_kd y53 = 2) ∧ eb_Ct d 50 [.ref s_reader] (eb_sR h52 r49 7 (some y53)) (fun r h56 => r = none ∧ eb_KO h56 ∧ Q none h56)))))) ∧ (¬ (y22 = 0) → eb_Ct d 58 [.ref s_reader] h21 (fun r h59 => r = none ∧ eb_KO h59 ∧ eb_Ct d 50 [.ref s_reader] h59 (fun r h62 => r = none ∧ eb_KO h62 ∧ Q none h62)))))) ∧ (¬ (y18 = 0) → eb_Ct d 57 [.ref s_reader] h17 (fun r h65 => r = none ∧ eb_KO h65 ∧ eb_Ct d 50 [.ref s_reader] h65 (fun r h68 => r = none ∧ eb_KO h68 ∧ Q none h68)))))) ∧ (¬ (y14 = 0) → eb_Ct d 56 [.ref s_reader] h13 (fun r h71 => r = none ∧ eb_KO h71 ∧ eb_Ct d 50 [.ref s_reader] h71 (fun r h74 => r = none ∧ eb_KO h74 ∧ Q none h74)))))) ∧ (¬ (y10 = 0) → eb_Ct d 55 [.ref s_reader] h9 (fun r h77 => r = none ∧ eb_KO h77 ∧ eb_Ct d 50 [.ref s_reader] h77 (fun r h80 => r = none ∧ eb_KO h80 ∧ Q none h80)))))) ∧ (¬ (y6 = 0) → eb_Ct d 54 [.ref s_reader] h5 (fun r h83 => r = none ∧ eb_KO h83 ∧ eb_Ct d 50 [.ref s_reader] h83 (fun r h86 => r = none ∧ eb_KO h86 ∧ Q none h86)))))) ∧ (¬ (y2 = 0) → eb_Ct d 53 [.ref s_reader] h1 (fun r h89 => r = none ∧ eb_KO h89 ∧ eb_Ct d 50 [.ref s_reader] h89 (fun r h92 => r = none ∧ eb_KO h92 ∧ Q none h92)))))) : eb_Sn (d + 1) m_X5_readLine h0 0 [(0, .ref s_reader)] [] h Q := by
  refine eb_aload_n (pc := 0) (n := 0) (i := 0) rfl rfl rfl ?_
  refine eb_getR (pc := 1) rfl rfl (by decide) (by decide) rfl (ko_s_reader_1 ko) ?_
  refine eb_ldcS (pc := 4) (a := 16) (i := eb_mk 16 21 0) rfl rfl rfl ?_
  refine eb_ctV (pc := 6) (As := [.ref (eb_mk 16 21 0)]) (rest := []) rfl (by decide) rfl rfl (by decide) rfl (Nat.le_of_ble_eq_true rfl) ?_
  refine eb_Ct.mono w ?_
  rintro r h1 ⟨y2, rfl, ko3, w⟩
  change eb_Sn _ _ _ 9 _ [.int y2] _ _
  refine eb_if_eq (pc := 9) (tgt := 19) rfl (by decide) (fun c4 => ?_) (fun c4 => ?_)
  · replace w := w.1 c4
    refine eb_aload_n (pc := 19) (n := 0) (i := 0) rfl rfl rfl ?_
    refine eb_getR (pc := 20) rfl rfl (by decide) (by decide) rfl (ko_s_reader_1 ko3) ?_
    refine eb_ldcS (pc := 23) (a := 18) (i := eb_mk 18 21 0) rfl rfl rfl ?_
    refine eb_ctV (pc := 25) (As := [.ref (eb_mk 18 21 0)]) (rest := []) rfl (by decide) rfl rfl (by decide) rfl (Nat.le_of_ble_eq_true rfl) ?_
    refine eb_Ct.mono w ?_
    rintro r h5 ⟨y6, rfl, ko7, w⟩
    change eb_Sn _ _ _ 28 _ [.int y6] _ _
    refine eb_if_eq (pc := 28) (tgt := 38) rfl (by decide) (fun c8 => ?_) (fun c8 => ?_)
    · replace w := w.1 c8
      refine eb_aload_n (pc := 38) (n := 0) (i := 0) rfl rfl rfl ?_
      refine eb_getR (pc := 39) rfl rfl (by decide) (by decide) rfl (ko_s_reader_1 ko7) ?_
      refine eb_ldcS (pc := 42) (a := 8) (i := eb_mk 8 21 0) rfl rfl rfl ?_
      refine eb_ctV (pc := 44) (As := [.ref (eb_mk 8 21 0)]) (rest := []) rfl (by decide) rfl rfl (by decide) rfl (Nat.le_of_ble_eq_true rfl) ?_
      refine eb_Ct.mono w ?_
      rintro r h9 ⟨y10, rfl, ko11, w⟩
      change eb_Sn _ _ _ 47 _ [.int y10] _ _
      refine eb_if_eq (pc := 47) (tgt := 57) rfl (by decide) (fun c12 => ?_) (fun c12 => ?_)
      · replace w := w.1 c12
        refine eb_aload_n (pc := 57) (n := 0) (i := 0) rfl rfl rfl ?_
        refine eb_getR (pc := 58) rfl rfl (by decide) (by decide) rfl (ko_s_reader_1 ko11) ?_
        refine eb_ldcS (pc := 61) (a := 11) (i := eb_mk 11 21 0) rfl rfl rfl ?_
        refine eb_ctV (pc := 63) (As := [.ref (eb_mk 11 21 0)]) (rest := []) rfl (by decide) rfl rfl (by decide) rfl (Nat.le_of_ble_eq_true rfl) ?_
        refine eb_Ct.mono w ?_
        rintro r h13 ⟨y14, rfl, ko15, w⟩
        change eb_Sn _ _ _ 66 _ [.int y14] _ _
        refine eb_if_eq (pc := 66) (tgt := 76) rfl (by decide) (fun c16 => ?_) (fun c16 => ?_)
        · replace w := w.1 c16
          refine eb_aload_n (pc := 76) (n := 0) (i := 0) rfl rfl rfl ?_
          refine eb_getR (pc := 77) rfl rfl (by decide) (by decide) rfl (ko_s_reader_1 ko15) ?_
          refine eb_ldcS (pc := 80) (a := 20) (i := eb_mk 20 21 0) rfl rfl rfl ?_
          refine eb_ctV (pc := 82) (As := [.ref (eb_mk 20 21 0)]) (rest := []) rfl (by decide) rfl rfl (by decide) rfl (Nat.le_of_ble_eq_true rfl) ?_
          refine eb_Ct.mono w ?_
          rintro r h17 ⟨y18, rfl, ko19, w⟩
          change eb_Sn _ _ _ 85 _ [.int y18] _ _
          refine eb_if_eq (pc := 85) (tgt := 95) rfl (by decide) (fun c20 => ?_) (fun c20 => ?_)
          · replace w := w.1 c20
            refine eb_aload_n (pc := 95) (n := 0) (i := 0) rfl rfl rfl ?_
            refine eb_getR (pc := 96) rfl rfl (by decide) (by decide) rfl (ko_s_reader_1 ko19) ?_
            refine eb_ldcS (pc := 99) (a := 5) (i := eb_mk 5 21 0) rfl rfl rfl ?_
            refine eb_ctV (pc := 101) (As := [.ref (eb_mk 5 21 0)]) (rest := []) rfl (by decide) rfl rfl (by decide) rfl (Nat.le_of_ble_eq_true rfl) ?_
            refine eb_Ct.mono w ?_
            rintro r h21 ⟨y22, rfl, ko23, w⟩
            change eb_Sn _ _ _ 104 _ [.int y22] _ _
            refine eb_if_eq (pc := 104) (tgt := 114) rfl (by decide) (fun c24 => ?_) (fun c24 => ?_)
            · replace w := w.1 c24
              refine eb_aload_n (pc := 114) (n := 0) (i := 0) rfl rfl rfl ?_
              refine eb_getR (pc := 115) rfl rfl (by decide) (by decide) rfl (ko_s_reader_1 ko23) ?_
              refine eb_ldcS (pc := 118) (a := 13) (i := eb_mk 13 21 0) rfl rfl rfl ?_
              refine eb_ctV (pc := 120) (As := [.ref (eb_mk 13 21 0)]) (rest := []) rfl (by decide) rfl rfl (by decide) rfl (Nat.le_of_ble_eq_true rfl) ?_
              refine eb_Ct.mono w ?_
              rintro r h25 ⟨y26, rfl, ko27, w⟩
              change eb_Sn _ _ _ 123 _ [.int y26] _ _
              refine eb_if_eq (pc := 123) (tgt := 144) rfl (by decide) (fun c28 => ?_) (fun c28 => ?_)
              · replace w := w.1 c28
                refine eb_aload_n (pc := 144) (n := 0) (i := 0) rfl rfl rfl ?_
                refine eb_getR (pc := 145) rfl rfl (by decide) (by decide) rfl (ko_s_reader_1 ko27) ?_
                refine eb_ldcS (pc := 148) (a := 17) (i := eb_mk 17 21 0) rfl rfl rfl ?_
                refine eb_ctV (pc := 150) (As := [.ref (eb_mk 17 21 0)]) (rest := []) rfl (by decide) rfl rfl (by decide) rfl (Nat.le_of_ble_eq_true rfl) ?_
                refine eb_Ct.mono w ?_
                rintro r h29 ⟨y30, rfl, ko31, w⟩
                change eb_Sn _ _ _ 153 _ [.int y30] _ _
                refine eb_if_eq (pc := 153) (tgt := 174) rfl (by decide) (fun c32 => ?_) (fun c32 => ?_)
                · replace w := w.1 c32
                  refine eb_aload_n (pc := 174) (n := 0) (i := 0) rfl rfl rfl ?_
                  refine eb_getR (pc := 175) rfl rfl (by decide) (by decide) rfl (ko_s_reader_1 ko31) ?_
                  refine eb_iconst (pc := 178) (n := 2) (v := 2) rfl rfl ?_
                  refine eb_ctV (pc := 179) (As := [.int 2]) (rest := []) rfl (by decide) rfl rfl (by decide) rfl (Nat.le_of_ble_eq_true rfl) ?_
                  refine eb_Ct.mono w ?_
                  rintro r h33 ⟨rfl, ko35, w⟩
                  change eb_Sn _ _ _ 182 _ [] _ _
                  refine eb_aload_n (pc := 182) (n := 0) (i := 0) rfl rfl rfl ?_
                  refine eb_ctV (pc := 183) (As := []) (rest := []) rfl (by decide) rfl rfl (by decide) rfl (Nat.le_of_ble_eq_true rfl) ?_
                  refine eb_Ct.mono w ?_
                  rintro r h36 ⟨rfl, ko38, w⟩
                  change eb_Sn _ _ _ 186 _ [] _ _
                  exact eb_return (pc := 186) rfl rfl w
                · replace w := w.2 c32
                  refine eb_aload_n (pc := 156) (n := 0) (i := 0) rfl rfl rfl ?_
                  obtain ⟨r39, q40, k41, w⟩ := w
                  refine eb_getR (pc := 157) rfl rfl (by decide) (by decide) rfl q40 ?_
                  refine eb_aload_n (pc := 160) (n := 0) (i := 0) rfl rfl rfl ?_
                  refine eb_getR (pc := 161) rfl rfl (by decide) (by decide) rfl (ko_s_reader_0 ko31) ?_
                  refine eb_iconst (pc := 164) (n := 1) (v := 1) rfl rfl ?_
                  refine eb_ctV (pc := 165) (As := [.int 1]) (rest := [.ref r39]) rfl (by decide) rfl rfl (by decide) rfl (Nat.le_of_ble_eq_true rfl) ?_
                  refine eb_Ct.mono w ?_
                  rintro r h42 ⟨y43, rfl, ko44, w⟩
                  change eb_Sn _ _ _ 168 _ [.ref y43, .ref r39] _ _
                  obtain ⟨k45, w⟩ := w
                  refine eb_putR (pc := 168) rfl k41 (by decide) (by decide) rfl (Or.inl rfl) (eb_k20 (c := 2) k45 (by decide)) ?_
                  refine eb_goto (pc := 171) (tgt := 182) rfl (by decide) ?_
                  refine eb_aload_n (pc := 182) (n := 0) (i := 0) rfl rfl rfl ?_
                  refine eb_ctV (pc := 183) (As := []) (rest := []) rfl (by decide) rfl rfl (by decide) rfl (Nat.le_of_ble_eq_true rfl) ?_
                  refine eb_Ct.mono w ?_
                  rintro r h46 ⟨rfl, ko48, w⟩
                  change eb_Sn _ _ _ 186 _ [] _ _
                  exact eb_return (pc := 186) rfl rfl w
              · replace w := w.2 c28
                refine eb_aload_n (pc := 126) (n := 0) (i := 0) rfl rfl rfl ?_
                obtain ⟨r49, q50, k51, w⟩ := w
                refine eb_getR (pc := 127) rfl rfl (by decide) (by decide) rfl q50 ?_
                refine eb_aload_n (pc := 130) (n := 0) (i := 0) rfl rfl rfl ?_
                refine eb_getR (pc := 131) rfl rfl (by decide) (by decide) rfl (ko_s_reader_0 ko27) ?_
                refine eb_iconst (pc := 134) (n := 0) (v := 0) rfl rfl ?_
                refine eb_ctV (pc := 135) (As := [.int 0]) (rest := [.ref r49]) rfl (by decide) rfl rfl (by decide) rfl (Nat.le_of_ble_eq_true rfl) ?_
                refine eb_Ct.mono w ?_
                rintro r h52 ⟨y53, rfl, ko54, w⟩
                change eb_Sn _ _ _ 138 _ [.ref y53, .ref r49] _ _
                obtain ⟨k55, w⟩ := w
                refine eb_putR (pc := 138) rfl k51 (by decide) (by decide) rfl (Or.inl rfl) (eb_k20 (c := 2) k55 (by decide)) ?_
                refine eb_goto (pc := 141) (tgt := 182) rfl (by decide) ?_
                refine eb_aload_n (pc := 182) (n := 0) (i := 0) rfl rfl rfl ?_
                refine eb_ctV (pc := 183) (As := []) (rest := []) rfl (by decide) rfl rfl (by decide) rfl (Nat.le_of_ble_eq_true rfl) ?_
                refine eb_Ct.mono w ?_
                rintro r h56 ⟨rfl, ko58, w⟩
                change eb_Sn _ _ _ 186 _ [] _ _
                exact eb_return (pc := 186) rfl rfl w
            · replace w := w.2 c24
              refine eb_aload_n (pc := 107) (n := 0) (i := 0) rfl rfl rfl ?_
              refine eb_ctV (pc := 108) (As := []) (rest := []) rfl (by decide) rfl rfl (by decide) rfl (Nat.le_of_ble_eq_true rfl) ?_
              refine eb_Ct.mono w ?_
              rintro r h59 ⟨rfl, ko61, w⟩
              change eb_Sn _ _ _ 111 _ [] _ _
              refine eb_goto (pc := 111) (tgt := 182) rfl (by decide) ?_
              refine eb_aload_n (pc := 182) (n := 0) (i := 0) rfl rfl rfl ?_
              refine eb_ctV (pc := 183) (As := []) (rest := []) rfl (by decide) rfl rfl (by decide) rfl (Nat.le_of_ble_eq_true rfl) ?_
              refine eb_Ct.mono w ?_
              rintro r h62 ⟨rfl, ko64, w⟩
              change eb_Sn _ _ _ 186 _ [] _ _
              exact eb_return (pc := 186) rfl rfl w
          · replace w := w.2 c20
            refine eb_aload_n (pc := 88) (n := 0) (i := 0) rfl rfl rfl ?_
            refine eb_ctV (pc := 89) (As := []) (rest := []) rfl (by decide) rfl rfl (by decide) rfl (Nat.le_of_ble_eq_true rfl) ?_
            refine eb_Ct.mono w ?_
            rintro r h65 ⟨rfl, ko67, w⟩
            change eb_Sn _ _ _ 92 _ [] _ _
            refine eb_goto (pc := 92) (tgt := 182) rfl (by decide) ?_
            refine eb_aload_n (pc := 182) (n := 0) (i := 0) rfl rfl rfl ?_
            refine eb_ctV (pc := 183) (As := []) (rest := []) rfl (by decide) rfl rfl (by decide) rfl (Nat.le_of_ble_eq_true rfl) ?_
            refine eb_Ct.mono w ?_
            rintro r h68 ⟨rfl, ko70, w⟩
            change eb_Sn _ _ _ 186 _ [] _ _
            exact eb_return (pc := 186) rfl rfl w
        · replace w := w.2 c16
          refine eb_aload_n (pc := 69) (n := 0) (i := 0) rfl rfl rfl ?_
          refine eb_ctV (pc := 70) (As := []) (rest := []) rfl (by decide) rfl rfl (by decide) rfl (Nat.le_of_ble_eq_true rfl) ?_
          refine eb_Ct.mono w ?_
          rintro r h71 ⟨rfl, ko73, w⟩
          change eb_Sn _ _ _ 73 _ [] _ _
          refine eb_goto (pc := 73) (tgt := 182) rfl (by decide) ?_
          refine eb_aload_n (pc := 182) (n := 0) (i := 0) rfl rfl rfl ?_
          refine eb_ctV (pc := 183) (As := []) (rest := []) rfl (by decide) rfl rfl (by decide) rfl (Nat.le_of_ble_eq_true rfl) ?_
          refine eb_Ct.mono w ?_
          rintro r h74 ⟨rfl, ko76, w⟩
          change eb_Sn _ _ _ 186 _ [] _ _
          exact eb_return (pc := 186) rfl rfl w
      · replace w := w.2 c12
        refine eb_aload_n (pc := 50) (n := 0) (i := 0) rfl rfl rfl ?_
        refine eb_ctV (pc := 51) (As := []) (rest := []) rfl (by decide) rfl rfl (by decide) rfl (Nat.le_of_ble_eq_true rfl) ?_
        refine eb_Ct.mono w ?_
        rintro r h77 ⟨rfl, ko79, w⟩
        change eb_Sn _ _ _ 54 _ [] _ _
        refine eb_goto (pc := 54) (tgt := 182) rfl (by decide) ?_
        refine eb_aload_n (pc := 182) (n := 0) (i := 0) rfl rfl rfl ?_
        refine eb_ctV (pc := 183) (As := []) (rest := []) rfl (by decide) rfl rfl (by decide) rfl (Nat.le_of_ble_eq_true rfl) ?_
        refine eb_Ct.mono w ?_
        rintro r h80 ⟨rfl, ko82, w⟩
        change eb_Sn _ _ _ 186 _ [] _ _
        exact eb_return (pc := 186) rfl rfl w
    · replace w := w.2 c8
      refine eb_aload_n (pc := 31) (n := 0) (i := 0) rfl rfl rfl ?_
      refine eb_ctV (pc := 32) (As := []) (rest := []) rfl (by decide) rfl rfl (by decide) rfl (Nat.le_of_ble_eq_true rfl) ?_
      refine eb_Ct.mono w ?_
      rintro r h83 ⟨rfl, ko85, w⟩
      change eb_Sn _ _ _ 35 _ [] _ _
      refine eb_goto (pc := 35) (tgt := 182) rfl (by decide) ?_
      refine eb_aload_n (pc := 182) (n := 0) (i := 0) rfl rfl rfl ?_
      refine eb_ctV (pc := 183) (As := []) (rest := []) rfl (by decide) rfl rfl (by decide) rfl (Nat.le_of_ble_eq_true rfl) ?_
      refine eb_Ct.mono w ?_
      rintro r h86 ⟨rfl, ko88, w⟩
      change eb_Sn _ _ _ 186 _ [] _ _
      exact eb_return (pc := 186) rfl rfl w
  · replace w := w.2 c4
    refine eb_aload_n (pc := 12) (n := 0) (i := 0) rfl rfl rfl ?_
    refine eb_ctV (pc := 13) (As := []) (rest := []) rfl (by decide) rfl rfl (by decide) rfl (Nat.le_of_ble_eq_true rfl) ?_
    refine eb_Ct.mono w ?_
    rintro r h89 ⟨rfl, ko91, w⟩
    change eb_Sn _ _ _ 16 _ [] _ _
    refine eb_goto (pc := 16) (tgt := 182) rfl (by decide) ?_
    refine eb_aload_n (pc := 182) (n := 0) (i := 0) rfl rfl rfl ?_
    refine eb_ctV (pc := 183) (As := []) (rest := []) rfl (by decide) rfl rfl (by decide) rfl (Nat.le_of_ble_eq_true rfl) ?_
    refine eb_Ct.mono w ?_
    rintro r h92 ⟨rfl, ko94, w⟩
    change eb_Sn _ _ _ 186 _ [] _ _
    exact eb_return (pc := 186) rfl rfl w
theorem T_X5_readLine {d : Nat} {h : eb_H} {Q : Option Value → eb_H → Prop}   (ko : eb_KO h) (w : eb_Ct d 72 [.ref s_tape, .ref (eb_mk 16 21 0)] h (fun r h1 => ∃ y2, r = some (.int y2) ∧ eb_KO h1 ∧ ((y2 = 0 → eb_Ct d 72 [.ref s_tape, .ref (eb_mk 18 21 0)] h1 (fun r h5 => ∃ y6, r = some (.int y6) ∧ eb_KO h5 ∧ ((y6 = 0 → eb_Ct d 72 [.ref s_tape, .ref (eb_mk 8 21 0)] h5 (fun r h9 => ∃ y10, r = some (.int y10) ∧ eb_KO h9 ∧ ((y10 = 0 → eb_Ct d 72 [.ref s_tape, .ref (eb_mk 11 21 0)] h9 (fun r h13 => ∃ y14, r = some (.int y14) ∧ eb_KO h13 ∧ ((y14 = 0 → eb_Ct d 72 [.ref s_tape, .ref (eb_mk 20 21 0)] h13 (fun r h17 => ∃ y18, r = some (.int y18) ∧ eb_KO h17 ∧ ((y18 = 0 → eb_Ct d 72 [.ref s_tape, .ref (eb_mk 5 21 0)] h17 (fun r h21 => ∃ y22, r = some (.int y22) ∧ eb_KO h21 ∧ ((y22 = 0 → eb_Ct d 72 [.ref s_tape, .ref (eb_mk 13 21 0)] h21 (fun r h25 => ∃ y26, r = some (.int y26) ∧ eb_KO h25 ∧ ((y26 = 0 → eb_Ct d 72 [.ref s_tape, .ref (eb_mk 17 21 0)] h25 (fun r h29 => ∃ y30, r = some (.int y30) ∧ eb_KO h29 ∧ ((y30 = 0 → eb_Ct d 68 [.ref s_tape, .int 2] h29 (fun r h33 => r = none ∧ eb_KO h33 ∧ eb_Ct d 50 [.ref s_reader] h33 (fun r h36 => r = none ∧ eb_KO h36 ∧ Q none h36))) ∧ (¬ (y30 = 0) → ∃ r39, eb_R h29 s_reader 2 = some r39 ∧ eb_kd r39 = 9 ∧ eb_Ct d 28 [.ref s_reader_laws, .int 1] h29 (fun r h42 => ∃ y43, r = some (.ref y43) ∧ eb_KO h42 ∧ (eb_kd y43 = 2) ∧ eb_Ct d 50 [.ref s_reader] (eb_sR h42 r39 8 (some y43)) (fun r h46 => r = none ∧ eb_KO h46 ∧ Q none h46)))))) ∧ (¬ (y26 = 0) → ∃ r49, eb_R h25 s_reader 2 = some r49 ∧ eb_kd r49 = 9 ∧ eb_Ct d 28 [.ref s_reader_laws, .int 0] h25 (fun r h52 => ∃ y53, r = some (.ref y53) ∧ eb_KO h52 ∧ (eb_kd y53 = 2) ∧ eb_Ct d 50 [.ref s_reader] (eb_sR h52 r49 7 (some y53)) (fun r h56 => r = none ∧ eb_KO h56 ∧ Q none h56)))))) ∧ (¬ (y22 = 0) → eb_Ct d 58 [.ref s_reader] h21 (fun r h59 => r = none ∧ eb_KO h59 ∧ eb_Ct d 50 [.ref s_reader] h59 (fun r h62 => r = none ∧ eb_KO h62 ∧ Q none h62)))))) ∧ (¬ (y18 = 0) → eb_Ct d 57 [.ref s_reader] h17 (fun r h65 => r = none ∧ eb_KO h65 ∧ eb_Ct d 50 [.ref s_reader] h65 (fun r h68 => r = none ∧ eb_KO h68 ∧ Q none h68)))))) ∧ (¬ (y14 = 0) → eb_Ct d 56 [.ref s_reader] h13 (fun r h71 => r = none ∧ eb_KO h71 ∧ eb_Ct d 50 [.ref s_reader] h71 (fun r h74 => r = none ∧ eb_KO h74 ∧ Q none h74)))))) ∧ (¬ (y10 = 0) → eb_Ct d 55 [.ref s_reader] h9 (fun r h77 => r = none ∧ eb_KO h77 ∧ eb_Ct d 50 [.ref s_reader] h77 (fun r h80 => r = none ∧ eb_KO h80 ∧ Q none h80)))))) ∧ (¬ (y6 = 0) → eb_Ct d 54 [.ref s_reader] h5 (fun r h83 => r = none ∧ eb_KO h83 ∧ eb_Ct d 50 [.ref s_reader] h83 (fun r h86 => r = none ∧ eb_KO h86 ∧ Q none h86)))))) ∧ (¬ (y2 = 0) → eb_Ct d 53 [.ref s_reader] h1 (fun r h89 => r = none ∧ eb_KO h89 ∧ eb_Ct d 50 [.ref s_reader] h89 (fun r h92 => r = none ∧ eb_KO h92 ∧ Q none h92)))))) : eb_Ct (d + 1) 48 [.ref s_reader] h Q :=
  eb_bodyQ (by decide) ok_X5_readLine (Nat.le_of_ble_eq_true rfl) (b_X5_readLine_0 (h0 := h)   ko w)
theorem b_X5_expect_0 {d : Nat} {h0 h : eb_H} {Q : Option Value → eb_H → Prop} (i1 : Nat) (hi_i1 : i1 < 21) (ko : eb_KO h) (w : eb_Ct d 72 [.ref s_tape, .ref (eb_mk i1 21 0)] h (fun r h1 => ∃ y2, r = some (.int y2) ∧ eb_KO h1 ∧ ((y2 = 0 → eb_Ct d 68 [.ref s_tape, .int 2] h1 (fun r h5 => r = none ∧ eb_KO h5 ∧ Q none h5)) ∧ (¬ (y2 = 0) → eb_Ct d 69 [.ref s_tape] h1 (fun r h8 => r = none ∧ eb_KO h8 ∧ Q none h8))))) : eb_Sn (d + 1) m_X5_expect h0 0 [(0, .ref s_reader), (1, .ref (eb_mk i1 21 0))] [] h Q := by
  refine eb_aload_n (pc := 0) (n := 0) (i := 0) rfl rfl rfl ?_
  refine eb_getR (pc := 1) rfl rfl (by decide) (by decide) rfl (ko_s_reader_1 ko) ?_
  refine eb_aload_n (pc := 4) (n := 1) (i := 1) rfl rfl rfl ?_
  refine eb_ctV (pc := 5) (As := [.ref (eb_mk i1 21 0)]) (rest := []) rfl (by decide) rfl rfl (by decide) rfl (Nat.le_of_ble_eq_true rfl) ?_
  refine eb_Ct.mono w ?_
  rintro r h1 ⟨y2, rfl, ko3, w⟩
  change eb_Sn _ _ _ 8 _ [.int y2] _ _
  refine eb_if_eq (pc := 8) (tgt := 21) rfl (by decide) (fun c4 => ?_) (fun c4 => ?_)
  · replace w := w.1 c4
    refine eb_aload_n (pc := 21) (n := 0) (i := 0) rfl rfl rfl ?_
    refine eb_getR (pc := 22) rfl rfl (by decide) (by decide) rfl (ko_s_reader_1 ko3) ?_
    refine eb_iconst (pc := 25) (n := 2) (v := 2) rfl rfl ?_
    refine eb_ctV (pc := 26) (As := [.int 2]) (rest := []) rfl (by decide) rfl rfl (by decide) rfl (Nat.le_of_ble_eq_true rfl) ?_
    refine eb_Ct.mono w ?_
    rintro r h5 ⟨rfl, ko7, w⟩
    change eb_Sn _ _ _ 29 _ [] _ _
    exact eb_return (pc := 29) rfl rfl w
  · replace w := w.2 c4
    refine eb_aload_n (pc := 11) (n := 0) (i := 0) rfl rfl rfl ?_
    refine eb_getR (pc := 12) rfl rfl (by decide) (by decide) rfl (ko_s_reader_1 ko3) ?_
    refine eb_ctV (pc := 15) (As := []) (rest := []) rfl (by decide) rfl rfl (by decide) rfl (Nat.le_of_ble_eq_true rfl) ?_
    refine eb_Ct.mono w ?_
    rintro r h8 ⟨rfl, ko10, w⟩
    change eb_Sn _ _ _ 18 _ [] _ _
    refine eb_goto (pc := 18) (tgt := 29) rfl (by decide) ?_
    exact eb_return (pc := 29) rfl rfl w
theorem T_X5_expect {d : Nat} {h : eb_H} {Q : Option Value → eb_H → Prop} (i1 : Nat) (hi_i1 : i1 < 21) (ko : eb_KO h) (w : eb_Ct d 72 [.ref s_tape, .ref (eb_mk i1 21 0)] h (fun r h1 => ∃ y2, r = some (.int y2) ∧ eb_KO h1 ∧ ((y2 = 0 → eb_Ct d 68 [.ref s_tape, .int 2] h1 (fun r h5 => r = none ∧ eb_KO h5 ∧ Q none h5)) ∧ (¬ (y2 = 0) → eb_Ct d 69 [.ref s_tape] h1 (fun r h8 => r = none ∧ eb_KO h8 ∧ Q none h8))))) : eb_Ct (d + 1) 49 [.ref s_reader, .ref (eb_mk i1 21 0)] h Q :=
  eb_bodyQ (by decide) ok_X5_expect (Nat.le_of_ble_eq_true rfl) (b_X5_expect_0 (h0 := h) i1 hi_i1 ko w)
theorem b_X5_endLine_0 {d : Nat} {h0 h : eb_H} {Q : Option Value → eb_H → Prop}   (ko : eb_KO h) (w : eb_Ct d 49 [.ref s_reader, .ref (eb_mk 2 21 0)] h (fun r h1 => r = none ∧ eb_KO h1 ∧ ∃ r4, eb_R h1 s_reader 2 = some r4 ∧ eb_kd r4 = 9 ∧ Q none (eb_sI h1 r4 3 ((eb_I h1 r4 3) + 1)))) : eb_Sn (d + 1) m_X5_endLine h0 0 [(0, .ref s_reader)] [] h Q := by
  refine eb_aload_n (pc := 0) (n := 0) (i := 0) rfl rfl rfl ?_
  refine eb_ldcS (pc := 1) (a := 2) (i := eb_mk 2 21 0) rfl rfl rfl ?_
  refine eb_ctV (pc := 3) (As := [.ref (eb_mk 2 21 0)]) (rest := []) rfl (by decide) rfl rfl (by decide) rfl (Nat.le_of_ble_eq_true rfl) ?_
  refine eb_Ct.mono w ?_
  rintro r h1 ⟨rfl, ko3, w⟩
  change eb_Sn _ _ _ 6 _ [] _ _
  refine eb_aload_n (pc := 6) (n := 0) (i := 0) rfl rfl rfl ?_
  obtain ⟨r4, q5, k6, w⟩ := w
  refine eb_getR (pc := 7) rfl rfl (by decide) (by decide) rfl q5 ?_
  refine eb_dupr (pc := 10) rfl ?_
  refine eb_getI (pc := 11) rfl k6 (by decide) (by decide) rfl ?_
  refine eb_iconst (pc := 14) (n := 1) (v := 1) rfl rfl ?_
  refine eb_iadd (pc := 15) rfl ?_
  refine eb_putI (pc := 16) rfl k6 (by decide) (by decide) rfl rfl ⟨rfl, rfl⟩ ?_
  exact eb_return (pc := 19) rfl rfl w
theorem T_X5_endLine {d : Nat} {h : eb_H} {Q : Option Value → eb_H → Prop}   (ko : eb_KO h) (w : eb_Ct d 49 [.ref s_reader, .ref (eb_mk 2 21 0)] h (fun r h1 => r = none ∧ eb_KO h1 ∧ ∃ r4, eb_R h1 s_reader 2 = some r4 ∧ eb_kd r4 = 9 ∧ Q none (eb_sI h1 r4 3 ((eb_I h1 r4 3) + 1)))) : eb_Ct (d + 1) 50 [.ref s_reader] h Q :=
  eb_bodyQ (by decide) ok_X5_endLine (Nat.le_of_ble_eq_true rfl) (b_X5_endLine_0 (h0 := h)   ko w)
theorem b_X5_number_0 {d : Nat} {h0 h : eb_H} {Q : Option Value → eb_H → Prop} (x1 : Int32) (x2 : Int32)  (ko : eb_KO h) (w : (((eb_I h s_tape 5) = (2 : Int32) → (((eb_I h s_tape 6) < x1 → eb_Ct d 68 [.ref s_tape, .int 3] h (fun r h3 => r = none ∧ eb_KO h3 ∧ (((eb_I h3 s_tape 7) = 0 → eb_Ct d 69 [.ref s_tape] h3 (fun r h7 => r = none ∧ eb_KO h7 ∧ Q (some (.int (eb_I h s_tape 6))) h7)) ∧ (¬ ((eb_I h3 s_tape 7) = 0) → Q (some (.int x1)) h3)))) ∧ (¬ ((eb_I h s_tape 6) < x1) → (((eb_I h s_tape 6) ≤ x2 → (((eb_I h s_tape 7) = 0 → eb_Ct d 69 [.ref s_tape] h (fun r h12 => r = none ∧ eb_KO h12 ∧ Q (some (.int (eb_I h s_tape 6))) h12)) ∧ (¬ ((eb_I h s_tape 7) = 0) → Q (some (.int x1)) h))) ∧ (¬ ((eb_I h s_tape 6) ≤ x2) → eb_Ct d 68 [.ref s_tape, .int 3] h (fun r h15 => r = none ∧ eb_KO h15 ∧ (((eb_I h15 s_tape 7) = 0 → eb_Ct d 69 [.ref s_tape] h15 (fun r h19 => r = none ∧ eb_KO h19 ∧ Q (some (.int (eb_I h s_tape 6))) h19)) ∧ (¬ ((eb_I h15 s_tape 7) = 0) → Q (some (.int x1)) h15)))))))) ∧ (¬ ((eb_I h s_tape 5) = (2 : Int32)) → eb_Ct d 68 [.ref s_tape, .int 2] h (fun r h22 => r = none ∧ eb_KO h22 ∧ (((eb_I h22 s_tape 7) = 0 → eb_Ct d 69 [.ref s_tape] h22 (fun r h26 => r = none ∧ eb_KO h26 ∧ Q (some (.int (eb_I h s_tape 6))) h26)) ∧ (¬ ((eb_I h22 s_tape 7) = 0) → Q (some (.int x1)) h22)))))) : eb_Sn (d + 1) m_X5_number h0 0 [(0, .ref s_reader), (1, .int x1), (2, .int x2)] [] h Q := by
  refine eb_aload_n (pc := 0) (n := 0) (i := 0) rfl rfl rfl ?_
  refine eb_getR (pc := 1) rfl rfl (by decide) (by decide) rfl (ko_s_reader_1 ko) ?_
  refine eb_getI (pc := 4) rfl rfl (by decide) (by decide) rfl ?_
  refine eb_istore_n (pc := 7) (n := 3) (i := 3) (ls2 := [(3, .int (eb_I h s_tape 6)), (0, .ref s_reader), (1, .int x1), (2, .int x2)]) rfl (Nat.le_of_ble_eq_true rfl) rfl rfl ?_
  refine eb_aload_n (pc := 8) (n := 0) (i := 0) rfl rfl rfl ?_
  refine eb_getR (pc := 9) rfl rfl (by decide) (by decide) rfl (ko_s_reader_1 ko) ?_
  refine eb_getI (pc := 12) rfl rfl (by decide) (by decide) rfl ?_
  refine eb_iconst (pc := 15) (n := 2) (v := 2) rfl rfl ?_
  refine eb_icmp_eq (pc := 16) (tgt := 30) rfl (by decide) (fun c1 => ?_) (fun c1 => ?_)
  · replace w := w.1 c1
    refine eb_iload_n (pc := 30) (n := 3) (i := 3) rfl rfl rfl ?_
    refine eb_iload_n (pc := 31) (n := 1) (i := 1) rfl rfl rfl ?_
    refine eb_icmp_lt (pc := 32) (tgt := 40) rfl (by decide) (fun c2 => ?_) (fun c2 => ?_)
    · replace w := w.1 c2
      refine eb_aload_n (pc := 40) (n := 0) (i := 0) rfl rfl rfl ?_
      refine eb_getR (pc := 41) rfl rfl (by decide) (by decide) rfl (ko_s_reader_1 ko) ?_
      refine eb_iconst (pc := 44) (n := 3) (v := 3) rfl rfl ?_
      refine eb_ctV (pc := 45) (As := [.int 3]) (rest := []) rfl (by decide) rfl rfl (by decide) rfl (Nat.le_of_ble_eq_true rfl) ?_
      refine eb_Ct.mono w ?_
      rintro r h3 ⟨rfl, ko5, w⟩
      change eb_Sn _ _ _ 48 _ [] _ _
      refine eb_aload_n (pc := 48) (n := 0) (i := 0) rfl rfl rfl ?_
      refine eb_getR (pc := 49) rfl rfl (by decide) (by decide) rfl (ko_s_reader_1 ko5) ?_
      refine eb_getI (pc := 52) rfl rfl (by decide) (by decide) rfl ?_
      refine eb_if_eq (pc := 55) (tgt := 60) rfl (by decide) (fun c6 => ?_) (fun c6 => ?_)
      · replace w := w.1 c6
        refine eb_aload_n (pc := 60) (n := 0) (i := 0) rfl rfl rfl ?_
        refine eb_getR (pc := 61) rfl rfl (by decide) (by decide) rfl (ko_s_reader_1 ko5) ?_
        refine eb_ctV (pc := 64) (As := []) (rest := []) rfl (by decide) rfl rfl (by decide) rfl (Nat.le_of_ble_eq_true rfl) ?_
        refine eb_Ct.mono w ?_
        rintro r h7 ⟨rfl, ko9, w⟩
        change eb_Sn _ _ _ 67 _ [] _ _
        refine eb_iload_n (pc := 67) (n := 3) (i := 3) rfl rfl rfl ?_
        exact eb_ireturn (pc := 68) rfl rfl rfl w
      · replace w := w.2 c6
        refine eb_iload_n (pc := 58) (n := 1) (i := 1) rfl rfl rfl ?_
        exact eb_ireturn (pc := 59) rfl rfl rfl w
    · replace w := w.2 c2
      refine eb_iload_n (pc := 35) (n := 3) (i := 3) rfl rfl rfl ?_
      refine eb_iload_n (pc := 36) (n := 2) (i := 2) rfl rfl rfl ?_
      refine eb_icmp_le (pc := 37) (tgt := 48) rfl (by decide) (fun c10 => ?_) (fun c10 => ?_)
      · replace w := w.1 c10
        refine eb_aload_n (pc := 48) (n := 0) (i := 0) rfl rfl rfl ?_
        refine eb_getR (pc := 49) rfl rfl (by decide) (by decide) rfl (ko_s_reader_1 ko) ?_
        refine eb_getI (pc := 52) rfl rfl (by decide) (by decide) rfl ?_
        refine eb_if_eq (pc := 55) (tgt := 60) rfl (by decide) (fun c11 => ?_) (fun c11 => ?_)
        · replace w := w.1 c11
          refine eb_aload_n (pc := 60) (n := 0) (i := 0) rfl rfl rfl ?_
          refine eb_getR (pc := 61) rfl rfl (by decide) (by decide) rfl (ko_s_reader_1 ko) ?_
          refine eb_ctV (pc := 64) (As := []) (rest := []) rfl (by decide) rfl rfl (by decide) rfl (Nat.le_of_ble_eq_true rfl) ?_
          refine eb_Ct.mono w ?_
          rintro r h12 ⟨rfl, ko14, w⟩
          change eb_Sn _ _ _ 67 _ [] _ _
          refine eb_iload_n (pc := 67) (n := 3) (i := 3) rfl rfl rfl ?_
          exact eb_ireturn (pc := 68) rfl rfl rfl w
        · replace w := w.2 c11
          refine eb_iload_n (pc := 58) (n := 1) (i := 1) rfl rfl rfl ?_
          exact eb_ireturn (pc := 59) rfl rfl rfl w
      · replace w := w.2 c10
        refine eb_aload_n (pc := 40) (n := 0) (i := 0) rfl rfl rfl ?_
        refine eb_getR (pc := 41) rfl rfl (by decide) (by decide) rfl (ko_s_reader_1 ko) ?_
        refine eb_iconst (pc := 44) (n := 3) (v := 3) rfl rfl ?_
        refine eb_ctV (pc := 45) (As := [.int 3]) (rest := []) rfl (by decide) rfl rfl (by decide) rfl (Nat.le_of_ble_eq_true rfl) ?_
        refine eb_Ct.mono w ?_
        rintro r h15 ⟨rfl, ko17, w⟩
        change eb_Sn _ _ _ 48 _ [] _ _
        refine eb_aload_n (pc := 48) (n := 0) (i := 0) rfl rfl rfl ?_
        refine eb_getR (pc := 49) rfl rfl (by decide) (by decide) rfl (ko_s_reader_1 ko17) ?_
        refine eb_getI (pc := 52) rfl rfl (by decide) (by decide) rfl ?_
        refine eb_if_eq (pc := 55) (tgt := 60) rfl (by decide) (fun c18 => ?_) (fun c18 => ?_)
        · replace w := w.1 c18
          refine eb_aload_n (pc := 60) (n := 0) (i := 0) rfl rfl rfl ?_
          refine eb_getR (pc := 61) rfl rfl (by decide) (by decide) rfl (ko_s_reader_1 ko17) ?_
          refine eb_ctV (pc := 64) (As := []) (rest := []) rfl (by decide) rfl rfl (by decide) rfl (Nat.le_of_ble_eq_true rfl) ?_
          refine eb_Ct.mono w ?_
          rintro r h19 ⟨rfl, ko21, w⟩
          change eb_Sn _ _ _ 67 _ [] _ _
          refine eb_iload_n (pc := 67) (n := 3) (i := 3) rfl rfl rfl ?_
          exact eb_ireturn (pc := 68) rfl rfl rfl w
        · replace w := w.2 c18
          refine eb_iload_n (pc := 58) (n := 1) (i := 1) rfl rfl rfl ?_
          exact eb_ireturn (pc := 59) rfl rfl rfl w
  · replace w := w.2 c1
    refine eb_aload_n (pc := 19) (n := 0) (i := 0) rfl rfl rfl ?_
    refine eb_getR (pc := 20) rfl rfl (by decide) (by decide) rfl (ko_s_reader_1 ko) ?_
    refine eb_iconst (pc := 23) (n := 2) (v := 2) rfl rfl ?_
    refine eb_ctV (pc := 24) (As := [.int 2]) (rest := []) rfl (by decide) rfl rfl (by decide) rfl (Nat.le_of_ble_eq_true rfl) ?_
    refine eb_Ct.mono w ?_
    rintro r h22 ⟨rfl, ko24, w⟩
    change eb_Sn _ _ _ 27 _ [] _ _
    refine eb_goto (pc := 27) (tgt := 48) rfl (by decide) ?_
    refine eb_aload_n (pc := 48) (n := 0) (i := 0) rfl rfl rfl ?_
    refine eb_getR (pc := 49) rfl rfl (by decide) (by decide) rfl (ko_s_reader_1 ko24) ?_
    refine eb_getI (pc := 52) rfl rfl (by decide) (by decide) rfl ?_
    refine eb_if_eq (pc := 55) (tgt := 60) rfl (by decide) (fun c25 => ?_) (fun c25 => ?_)
    · replace w := w.1 c25
      refine eb_aload_n (pc := 60) (n := 0) (i := 0) rfl rfl rfl ?_
      refine eb_getR (pc := 61) rfl rfl (by decide) (by decide) rfl (ko_s_reader_1 ko24) ?_
      refine eb_ctV (pc := 64) (As := []) (rest := []) rfl (by decide) rfl rfl (by decide) rfl (Nat.le_of_ble_eq_true rfl) ?_
      refine eb_Ct.mono w ?_
      rintro r h26 ⟨rfl, ko28, w⟩
      change eb_Sn _ _ _ 67 _ [] _ _
      refine eb_iload_n (pc := 67) (n := 3) (i := 3) rfl rfl rfl ?_
      exact eb_ireturn (pc := 68) rfl rfl rfl w
    · replace w := w.2 c25
      refine eb_iload_n (pc := 58) (n := 1) (i := 1) rfl rfl rfl ?_
      exact eb_ireturn (pc := 59) rfl rfl rfl w
theorem T_X5_number {d : Nat} {h : eb_H} {Q : Option Value → eb_H → Prop} (x1 : Int32) (x2 : Int32)  (ko : eb_KO h) (w : (((eb_I h s_tape 5) = (2 : Int32) → (((eb_I h s_tape 6) < x1 → eb_Ct d 68 [.ref s_tape, .int 3] h (fun r h3 => r = none ∧ eb_KO h3 ∧ (((eb_I h3 s_tape 7) = 0 → eb_Ct d 69 [.ref s_tape] h3 (fun r h7 => r = none ∧ eb_KO h7 ∧ Q (some (.int (eb_I h s_tape 6))) h7)) ∧ (¬ ((eb_I h3 s_tape 7) = 0) → Q (some (.int x1)) h3)))) ∧ (¬ ((eb_I h s_tape 6) < x1) → (((eb_I h s_tape 6) ≤ x2 → (((eb_I h s_tape 7) = 0 → eb_Ct d 69 [.ref s_tape] h (fun r h12 => r = none ∧ eb_KO h12 ∧ Q (some (.int (eb_I h s_tape 6))) h12)) ∧ (¬ ((eb_I h s_tape 7) = 0) → Q (some (.int x1)) h))) ∧ (¬ ((eb_I h s_tape 6) ≤ x2) → eb_Ct d 68 [.ref s_tape, .int 3] h (fun r h15 => r = none ∧ eb_KO h15 ∧ (((eb_I h15 s_tape 7) = 0 → eb_Ct d 69 [.ref s_tape] h15 (fun r h19 => r = none ∧ eb_KO h19 ∧ Q (some (.int (eb_I h s_tape 6))) h19)) ∧ (¬ ((eb_I h15 s_tape 7) = 0) → Q (some (.int x1)) h15)))))))) ∧ (¬ ((eb_I h s_tape 5) = (2 : Int32)) → eb_Ct d 68 [.ref s_tape, .int 2] h (fun r h22 => r = none ∧ eb_KO h22 ∧ (((eb_I h22 s_tape 7) = 0 → eb_Ct d 69 [.ref s_tape] h22 (fun r h26 => r = none ∧ eb_KO h26 ∧ Q (some (.int (eb_I h s_tape 6))) h26)) ∧ (¬ ((eb_I h22 s_tape 7) = 0) → Q (some (.int x1)) h22)))))) : eb_Ct (d + 1) 51 [.ref s_reader, .int x1, .int x2] h Q :=
  eb_bodyQ (by decide) ok_X5_number (Nat.le_of_ble_eq_true rfl) (b_X5_number_0 (h0 := h) x1 x2  ko w)
theorem b_X5_lastCell_0 {d : Nat} {h0 h : eb_H} {Q : Option Value → eb_H → Prop}   (ko : eb_KO h) (w : ∃ r1, eb_R h s_reader 2 = some r1 ∧ eb_kd r1 = 9 ∧ Q (some (.int (((eb_I h r1 0) * (eb_I h r1 1)) - 1))) h) : eb_Sn d m_X5_lastCell h0 0 [(0, .ref s_reader)] [] h Q := by
  refine eb_aload_n (pc := 0) (n := 0) (i := 0) rfl rfl rfl ?_
  obtain ⟨r1, q2, k3, w⟩ := w
  refine eb_getR (pc := 1) rfl rfl (by decide) (by decide) rfl q2 ?_
  refine eb_getI (pc := 4) rfl k3 (by decide) (by decide) rfl ?_
  refine eb_aload_n (pc := 7) (n := 0) (i := 0) rfl rfl rfl ?_
  refine eb_getR (pc := 8) rfl rfl (by decide) (by decide) rfl q2 ?_
  refine eb_getI (pc := 11) rfl k3 (by decide) (by decide) rfl ?_
  refine eb_imul (pc := 14) rfl ?_
  refine eb_iconst (pc := 15) (n := 1) (v := 1) rfl rfl ?_
  refine eb_isub (pc := 16) rfl ?_
  exact eb_ireturn (pc := 17) rfl rfl rfl w
theorem T_X5_lastCell {d : Nat} {h : eb_H} {Q : Option Value → eb_H → Prop}   (ko : eb_KO h) (w : ∃ r1, eb_R h s_reader 2 = some r1 ∧ eb_kd r1 = 9 ∧ Q (some (.int (((eb_I h r1 0) * (eb_I h r1 1)) - 1))) h) : eb_Ct d 52 [.ref s_reader] h Q :=
  eb_bodyQ (by decide) ok_X5_lastCell (Nat.le_of_ble_eq_true rfl) (b_X5_lastCell_0 (h0 := h)   ko w)
theorem b_X5_readRow_0 {d : Nat} {h0 h : eb_H} {Q : Option Value → eb_H → Prop}   (ko : eb_KO h) (w : eb_Ct d 69 [.ref s_tape] h (fun r h1 => r = none ∧ eb_KO h1 ∧ ∃ r4, eb_R h1 s_reader 2 = some r4 ∧ eb_kd r4 = 9 ∧ eb_Ct d 51 [.ref s_reader, .int 0, .int ((eb_I h1 r4 0) - 1)] h1 (fun r h7 => ∃ y8, r = some (.int y8) ∧ eb_KO h7 ∧ eb_Sn (d + 1) m_X5_readRow h0 32 [(0, .ref s_reader), (1, .int ((eb_I h1 r4 1) * y8)), (2, .int 0)] [] h7 Q))) : eb_Sn (d + 1) m_X5_readRow h0 0 [(0, .ref s_reader)] [] h Q := by
  refine eb_aload_n (pc := 0) (n := 0) (i := 0) rfl rfl rfl ?_
  refine eb_getR (pc := 1) rfl rfl (by decide) (by decide) rfl (ko_s_reader_1 ko) ?_
  refine eb_ctV (pc := 4) (As := []) (rest := []) rfl (by decide) rfl rfl (by decide) rfl (Nat.le_of_ble_eq_true rfl) ?_
  refine eb_Ct.mono w ?_
  rintro r h1 ⟨rfl, ko3, w⟩
  change eb_Sn _ _ _ 7 _ [] _ _
  refine eb_aload_n (pc := 7) (n := 0) (i := 0) rfl rfl rfl ?_
  obtain ⟨r4, q5, k6, w⟩ := w
  refine eb_getR (pc := 8) rfl rfl (by decide) (by decide) rfl q5 ?_
  refine eb_getI (pc := 11) rfl k6 (by decide) (by decide) rfl ?_
  refine eb_aload_n (pc := 14) (n := 0) (i := 0) rfl rfl rfl ?_
  refine eb_iconst (pc := 15) (n := 0) (v := 0) rfl rfl ?_
  refine eb_aload_n (pc := 16) (n := 0) (i := 0) rfl rfl rfl ?_
  refine eb_getR (pc := 17) rfl rfl (by decide) (by decide) rfl q5 ?_
  refine eb_getI (pc := 20) rfl k6 (by decide) (by decide) rfl ?_
  refine eb_iconst (pc := 23) (n := 1) (v := 1) rfl rfl ?_
  refine eb_isub (pc := 24) rfl ?_
  refine eb_ctV (pc := 25) (As := [.int 0, .int ((eb_I h1 r4 0) - 1)]) (rest := [.int (eb_I h1 r4 1)]) rfl (by decide) rfl rfl (by decide) rfl (Nat.le_of_ble_eq_true rfl) ?_
  refine eb_Ct.mono w ?_
  rintro r h7 ⟨y8, rfl, ko9, w⟩
  change eb_Sn _ _ _ 28 _ [.int y8, .int (eb_I h1 r4 1)] _ _
  refine eb_imul (pc := 28) rfl ?_
  refine eb_istore_n (pc := 29) (n := 1) (i := 1) (ls2 := [(1, .int ((eb_I h1 r4 1) * y8)), (0, .ref s_reader)]) rfl (Nat.le_of_ble_eq_true rfl) rfl rfl ?_
  refine eb_iconst (pc := 30) (n := 0) (v := 0) rfl rfl ?_
  refine eb_istore_n (pc := 31) (n := 2) (i := 2) (ls2 := [(2, .int 0), (1, .int ((eb_I h1 r4 1) * y8)), (0, .ref s_reader)]) rfl (Nat.le_of_ble_eq_true rfl) rfl rfl ?_
  exact eb_pick [2, 1, 0] rfl w
theorem b_X5_readRow_32 {d : Nat} {h0 h : eb_H} {Q : Option Value → eb_H → Prop} (x1 : Int32) (x2 : Int32)  (ko : eb_KO h) (w : ∃ r1, eb_R h s_reader 2 = some r1 ∧ eb_kd r1 = 9 ∧ (((eb_I h r1 1) ≤ x2 → Q none h) ∧ (¬ ((eb_I h r1 1) ≤ x2) → eb_Ct d 51 [.ref s_reader, .int 0, .int 9] h (fun r h5 => ∃ y6, r = some (.int y6) ∧ eb_KO h5 ∧ eb_Ct d 82 [.ref r1, .int (x1 + x2), .int y6] h5 (fun r h8 => r = none ∧ eb_KO h8 ∧ eb_Sn (d + 1) m_X5_readRow h0 32 [(0, .ref s_reader), (1, .int x1), (2, .int (x2 + 1))] [] h8 Q))))) : eb_Sn (d + 1) m_X5_readRow h0 32 [(0, .ref s_reader), (1, .int x1), (2, .int x2)] [] h Q := by
  refine eb_iload_n (pc := 32) (n := 2) (i := 2) rfl rfl rfl ?_
  refine eb_aload_n (pc := 33) (n := 0) (i := 0) rfl rfl rfl ?_
  obtain ⟨r1, q2, k3, w⟩ := w
  refine eb_getR (pc := 34) rfl rfl (by decide) (by decide) rfl q2 ?_
  refine eb_getI (pc := 37) rfl k3 (by decide) (by decide) rfl ?_
  refine eb_icmp_ge (pc := 40) (tgt := 66) rfl (by decide) (fun c4 => ?_) (fun c4 => ?_)
  · replace w := w.1 c4
    exact eb_return (pc := 66) rfl rfl w
  · replace w := w.2 c4
    refine eb_aload_n (pc := 43) (n := 0) (i := 0) rfl rfl rfl ?_
    refine eb_getR (pc := 44) rfl rfl (by decide) (by decide) rfl q2 ?_
    refine eb_iload_n (pc := 47) (n := 1) (i := 1) rfl rfl rfl ?_
    refine eb_iload_n (pc := 48) (n := 2) (i := 2) rfl rfl rfl ?_
    refine eb_iadd (pc := 49) rfl ?_
    refine eb_aload_n (pc := 50) (n := 0) (i := 0) rfl rfl rfl ?_
    refine eb_iconst (pc := 51) (n := 0) (v := 0) rfl rfl ?_
    refine eb_bipush (pc := 52) (n := 9) (v := 9) rfl rfl ?_
    refine eb_ctV (pc := 54) (As := [.int 0, .int 9]) (rest := [.int (x1 + x2), .ref r1]) rfl (by decide) rfl rfl (by decide) rfl (Nat.le_of_ble_eq_true rfl) ?_
    refine eb_Ct.mono w ?_
    rintro r h5 ⟨y6, rfl, ko7, w⟩
    change eb_Sn _ _ _ 57 _ [.int y6, .int (x1 + x2), .ref r1] _ _
    refine eb_ctV (pc := 57) (As := [.int (x1 + x2), .int y6]) (rest := []) rfl (by decide) rfl k3 (by decide) rfl (Nat.le_of_ble_eq_true rfl) ?_
    refine eb_Ct.mono w ?_
    rintro r h8 ⟨rfl, ko10, w⟩
    change eb_Sn _ _ _ 60 _ [] _ _
    refine eb_iinc (pc := 60) (i := 2) (n := 1) (v := x2 + 1) (ls2 := [(2, .int (x2 + 1)), (0, .ref s_reader), (1, .int x1)]) (Nat.le_of_ble_eq_true rfl) rfl rfl rfl rfl ?_
    refine eb_goto (pc := 63) (tgt := 32) rfl (by decide) ?_
    exact eb_pick [1, 2, 0] rfl w
theorem T_X5_readRow {d : Nat} {h : eb_H} {Q : Option Value → eb_H → Prop}   (ko : eb_KO h) (w : eb_Ct d 69 [.ref s_tape] h (fun r h1 => r = none ∧ eb_KO h1 ∧ ∃ r4, eb_R h1 s_reader 2 = some r4 ∧ eb_kd r4 = 9 ∧ eb_Ct d 51 [.ref s_reader, .int 0, .int ((eb_I h1 r4 0) - 1)] h1 (fun r h7 => ∃ y8, r = some (.int y8) ∧ eb_KO h7 ∧ eb_Sn (d + 1) m_X5_readRow h 32 [(0, .ref s_reader), (1, .int ((eb_I h1 r4 1) * y8)), (2, .int 0)] [] h7 Q))) : eb_Ct (d + 1) 53 [.ref s_reader] h Q :=
  eb_bodyQ (by decide) ok_X5_readRow (Nat.le_of_ble_eq_true rfl) (b_X5_readRow_0 (h0 := h)   ko w)
theorem b_X5_readThing_0 {d : Nat} {h0 h : eb_H} {Q : Option Value → eb_H → Prop}   (ko : eb_KO h) (w : eb_Ct d 69 [.ref s_tape] h (fun r h1 => r = none ∧ eb_KO h1 ∧ eb_Ct d 52 [.ref s_reader] h1 (fun r h4 => ∃ y5, r = some (.int y5) ∧ eb_KO h4 ∧ eb_Ct d 51 [.ref s_reader, .int 0, .int y5] h4 (fun r h7 => ∃ y8, r = some (.int y8) ∧ eb_KO h7 ∧ eb_Ct d 51 [.ref s_reader, .int 0, .int 6] h7 (fun r h10 => ∃ y11, r = some (.int y11) ∧ eb_KO h10 ∧ eb_Ct d 63 [.ref s_reader_start, .int y8, .int y11] h10 (fun r h13 => r = none ∧ eb_KO h13 ∧ Q none h13)))))) : eb_Sn (d + 1) m_X5_readThing h0 0 [(0, .ref s_reader)] [] h Q := by
  refine eb_aload_n (pc := 0) (n := 0) (i := 0) rfl rfl rfl ?_
  refine eb_getR (pc := 1) rfl rfl (by decide) (by decide) rfl (ko_s_reader_1 ko) ?_
  refine eb_ctV (pc := 4) (As := []) (rest := []) rfl (by decide) rfl rfl (by decide) rfl (Nat.le_of_ble_eq_true rfl) ?_
  refine eb_Ct.mono w ?_
  rintro r h1 ⟨rfl, ko3, w⟩
  change eb_Sn _ _ _ 7 _ [] _ _
  refine eb_aload_n (pc := 7) (n := 0) (i := 0) rfl rfl rfl ?_
  refine eb_iconst (pc := 8) (n := 0) (v := 0) rfl rfl ?_
  refine eb_aload_n (pc := 9) (n := 0) (i := 0) rfl rfl rfl ?_
  refine eb_ctV (pc := 10) (As := []) (rest := [.int 0, .ref s_reader]) rfl (by decide) rfl rfl (by decide) rfl (Nat.le_of_ble_eq_true rfl) ?_
  refine eb_Ct.mono w ?_
  rintro r h4 ⟨y5, rfl, ko6, w⟩
  change eb_Sn _ _ _ 13 _ [.int y5, .int 0, .ref s_reader] _ _
  refine eb_ctV (pc := 13) (As := [.int 0, .int y5]) (rest := []) rfl (by decide) rfl rfl (by decide) rfl (Nat.le_of_ble_eq_true rfl) ?_
  refine eb_Ct.mono w ?_
  rintro r h7 ⟨y8, rfl, ko9, w⟩
  change eb_Sn _ _ _ 16 _ [.int y8] _ _
  refine eb_istore_n (pc := 16) (n := 1) (i := 1) (ls2 := [(1, .int y8), (0, .ref s_reader)]) rfl (Nat.le_of_ble_eq_true rfl) rfl rfl ?_
  refine eb_aload_n (pc := 17) (n := 0) (i := 0) rfl rfl rfl ?_
  refine eb_getR (pc := 18) rfl rfl (by decide) (by decide) rfl (ko_s_reader_3 ko9) ?_
  refine eb_iload_n (pc := 21) (n := 1) (i := 1) rfl rfl rfl ?_
  refine eb_aload_n (pc := 22) (n := 0) (i := 0) rfl rfl rfl ?_
  refine eb_iconst (pc := 23) (n := 0) (v := 0) rfl rfl ?_
  refine eb_bipush (pc := 24) (n := 6) (v := 6) rfl rfl ?_
  refine eb_ctV (pc := 26) (As := [.int 0, .int 6]) (rest := [.int y8, .ref s_reader_start]) rfl (by decide) rfl rfl (by decide) rfl (Nat.le_of_ble_eq_true rfl) ?_
  refine eb_Ct.mono w ?_
  rintro r h10 ⟨y11, rfl, ko12, w⟩
  change eb_Sn _ _ _ 29 _ [.int y11, .int y8, .ref s_reader_start] _ _
  refine eb_ctV (pc := 29) (As := [.int y8, .int y11]) (rest := []) rfl (by decide) rfl rfl (by decide) rfl (Nat.le_of_ble_eq_true rfl) ?_
  refine eb_Ct.mono w ?_
  rintro r h13 ⟨rfl, ko15, w⟩
  change eb_Sn _ _ _ 32 _ [] _ _
  exact eb_return (pc := 32) rfl rfl w
theorem T_X5_readThing {d : Nat} {h : eb_H} {Q : Option Value → eb_H → Prop}   (ko : eb_KO h) (w : eb_Ct d 69 [.ref s_tape] h (fun r h1 => r = none ∧ eb_KO h1 ∧ eb_Ct d 52 [.ref s_reader] h1 (fun r h4 => ∃ y5, r = some (.int y5) ∧ eb_KO h4 ∧ eb_Ct d 51 [.ref s_reader, .int 0, .int y5] h4 (fun r h7 => ∃ y8, r = some (.int y8) ∧ eb_KO h7 ∧ eb_Ct d 51 [.ref s_reader, .int 0, .int 6] h7 (fun r h10 => ∃ y11, r = some (.int y11) ∧ eb_KO h10 ∧ eb_Ct d 63 [.ref s_reader_start, .int y8, .int y11] h10 (fun r h13 => r = none ∧ eb_KO h13 ∧ Q none h13)))))) : eb_Ct (d + 1) 54 [.ref s_reader] h Q :=
  eb_bodyQ (by decide) ok_X5_readThing (Nat.le_of_ble_eq_true rfl) (b_X5_readThing_0 (h0 := h)   ko w)
theorem b_X5_readDrift_0 {d : Nat} {h0 h : eb_H} {Q : Option Value → eb_H → Prop}   (ko : eb_KO h) (w : eb_Ct d 69 [.ref s_tape] h (fun r h1 => r = none ∧ eb_KO h1 ∧ eb_Ct d 52 [.ref s_reader] h1 (fun r h4 => ∃ y5, r = some (.int y5) ∧ eb_KO h4 ∧ eb_Ct d 51 [.ref s_reader, .int 0, .int y5] h4 (fun r h7 => ∃ y8, r = some (.int y8) ∧ eb_KO h7 ∧ Q none (eb_sI h7 s_reader_start 3 ((eb_I h1 s_reader_start 3) ||| ((1 : Int32) <<< (y8 &&& 31)))))))) : eb_Sn (d + 1) m_X5_readDrift h0 0 [(0, .ref s_reader)] [] h Q := by
  refine eb_aload_n (pc := 0) (n := 0) (i := 0) rfl rfl rfl ?_
  refine eb_getR (pc := 1) rfl rfl (by decide) (by decide) rfl (ko_s_reader_1 ko) ?_
  refine eb_ctV (pc := 4) (As := []) (rest := []) rfl (by decide) rfl rfl (by decide) rfl (Nat.le_of_ble_eq_true rfl) ?_
  refine eb_Ct.mono w ?_
  rintro r h1 ⟨rfl, ko3, w⟩
  change eb_Sn _ _ _ 7 _ [] _ _
  refine eb_aload_n (pc := 7) (n := 0) (i := 0) rfl rfl rfl ?_
  refine eb_getR (pc := 8) rfl rfl (by decide) (by decide) rfl (ko_s_reader_3 ko3) ?_
  refine eb_dupr (pc := 11) rfl ?_
  refine eb_getI (pc := 12) rfl rfl (by decide) (by decide) rfl ?_
  refine eb_iconst (pc := 15) (n := 1) (v := 1) rfl rfl ?_
  refine eb_aload_n (pc := 16) (n := 0) (i := 0) rfl rfl rfl ?_
  refine eb_iconst (pc := 17) (n := 0) (v := 0) rfl rfl ?_
  refine eb_aload_n (pc := 18) (n := 0) (i := 0) rfl rfl rfl ?_
  refine eb_ctV (pc := 19) (As := []) (rest := [.int 0, .ref s_reader, .int 1, .int (eb_I h1 s_reader_start 3), .ref s_reader_start]) rfl (by decide) rfl rfl (by decide) rfl (Nat.le_of_ble_eq_true rfl) ?_
  refine eb_Ct.mono w ?_
  rintro r h4 ⟨y5, rfl, ko6, w⟩
  change eb_Sn _ _ _ 22 _ [.int y5, .int 0, .ref s_reader, .int 1, .int (eb_I h1 s_reader_start 3), .ref s_reader_start] _ _
  refine eb_ctV (pc := 22) (As := [.int 0, .int y5]) (rest := [.int 1, .int (eb_I h1 s_reader_start 3), .ref s_reader_start]) rfl (by decide) rfl rfl (by decide) rfl (Nat.le_of_ble_eq_true rfl) ?_
  refine eb_Ct.mono w ?_
  rintro r h7 ⟨y8, rfl, ko9, w⟩
  change eb_Sn _ _ _ 25 _ [.int y8, .int 1, .int (eb_I h1 s_reader_start 3), .ref s_reader_start] _ _
  refine eb_ishl (pc := 25) rfl ?_
  refine eb_ior (pc := 26) rfl ?_
  refine eb_putI (pc := 27) rfl rfl (by decide) (by decide) rfl rfl ⟨rfl, rfl⟩ ?_
  exact eb_return (pc := 30) rfl rfl w
theorem T_X5_readDrift {d : Nat} {h : eb_H} {Q : Option Value → eb_H → Prop}   (ko : eb_KO h) (w : eb_Ct d 69 [.ref s_tape] h (fun r h1 => r = none ∧ eb_KO h1 ∧ eb_Ct d 52 [.ref s_reader] h1 (fun r h4 => ∃ y5, r = some (.int y5) ∧ eb_KO h4 ∧ eb_Ct d 51 [.ref s_reader, .int 0, .int y5] h4 (fun r h7 => ∃ y8, r = some (.int y8) ∧ eb_KO h7 ∧ Q none (eb_sI h7 s_reader_start 3 ((eb_I h1 s_reader_start 3) ||| ((1 : Int32) <<< (y8 &&& 31)))))))) : eb_Ct (d + 1) 55 [.ref s_reader] h Q :=
  eb_bodyQ (by decide) ok_X5_readDrift (Nat.le_of_ble_eq_true rfl) (b_X5_readDrift_0 (h0 := h)   ko w)
theorem b_X5_readHouse_0 {d : Nat} {h0 h : eb_H} {Q : Option Value → eb_H → Prop}   (ko : eb_KO h) (w : ∃ r1, eb_R h s_reader 2 = some r1 ∧ eb_kd r1 = 9 ∧ (((eb_I h r1 4) < (4 : Int32) → eb_Ct d 69 [.ref s_tape] h (fun r h5 => r = none ∧ eb_KO h5 ∧ ∃ r8, eb_R h5 s_reader 2 = some r8 ∧ eb_kd r8 = 9 ∧ eb_Ct d 52 [.ref s_reader] h5 (fun r h11 => ∃ y12, r = some (.int y12) ∧ eb_KO h11 ∧ eb_Ct d 51 [.ref s_reader, .int 0, .int y12] h11 (fun r h14 => ∃ y15, r = some (.int y15) ∧ eb_KO h14 ∧ eb_Ct d 85 [.ref r8, .int y15] h14 (fun r h17 => r = none ∧ eb_KO h17 ∧ Q none h17))))) ∧ (¬ ((eb_I h r1 4) < (4 : Int32)) → eb_Ct d 68 [.ref s_tape, .int 4] h (fun r h20 => r = none ∧ eb_KO h20 ∧ eb_Ct d 69 [.ref s_tape] h20 (fun r h23 => r = none ∧ eb_KO h23 ∧ ∃ r26, eb_R h23 s_reader 2 = some r26 ∧ eb_kd r26 = 9 ∧ eb_Ct d 52 [.ref s_reader] h23 (fun r h29 => ∃ y30, r = some (.int y30) ∧ eb_KO h29 ∧ eb_Ct d 51 [.ref s_reader, .int 0, .int y30] h29 (fun r h32 => ∃ y33, r = some (.int y33) ∧ eb_KO h32 ∧ eb_Ct d 85 [.ref r26, .int y33] h32 (fun r h35 => r = none ∧ eb_KO h35 ∧ Q none h35)))))))) : eb_Sn (d + 1) m_X5_readHouse h0 0 [(0, .ref s_reader)] [] h Q := by
  refine eb_aload_n (pc := 0) (n := 0) (i := 0) rfl rfl rfl ?_
  obtain ⟨r1, q2, k3, w⟩ := w
  refine eb_getR (pc := 1) rfl rfl (by decide) (by decide) rfl q2 ?_
  refine eb_getI (pc := 4) rfl k3 (by decide) (by decide) rfl ?_
  refine eb_iconst (pc := 7) (n := 4) (v := 4) rfl rfl ?_
  refine eb_icmp_lt (pc := 8) (tgt := 19) rfl (by decide) (fun c4 => ?_) (fun c4 => ?_)
  · replace w := w.1 c4
    refine eb_aload_n (pc := 19) (n := 0) (i := 0) rfl rfl rfl ?_
    refine eb_getR (pc := 20) rfl rfl (by decide) (by decide) rfl (ko_s_reader_1 ko) ?_
    refine eb_ctV (pc := 23) (As := []) (rest := []) rfl (by decide) rfl rfl (by decide) rfl (Nat.le_of_ble_eq_true rfl) ?_
    refine eb_Ct.mono w ?_
    rintro r h5 ⟨rfl, ko7, w⟩
    change eb_Sn _ _ _ 26 _ [] _ _
    refine eb_aload_n (pc := 26) (n := 0) (i := 0) rfl rfl rfl ?_
    obtain ⟨r8, q9, k10, w⟩ := w
    refine eb_getR (pc := 27) rfl rfl (by decide) (by decide) rfl q9 ?_
    refine eb_aload_n (pc := 30) (n := 0) (i := 0) rfl rfl rfl ?_
    refine eb_iconst (pc := 31) (n := 0) (v := 0) rfl rfl ?_
    refine eb_aload_n (pc := 32) (n := 0) (i := 0) rfl rfl rfl ?_
    refine eb_ctV (pc := 33) (As := []) (rest := [.int 0, .ref s_reader, .ref r8]) rfl (by decide) rfl rfl (by decide) rfl (Nat.le_of_ble_eq_true rfl) ?_
    refine eb_Ct.mono w ?_
    rintro r h11 ⟨y12, rfl, ko13, w⟩
    change eb_Sn _ _ _ 36 _ [.int y12, .int 0, .ref s_reader, .ref r8] _ _
    refine eb_ctV (pc := 36) (As := [.int 0, .int y12]) (rest := [.ref r8]) rfl (by decide) rfl rfl (by decide) rfl (Nat.le_of_ble_eq_true rfl) ?_
    refine eb_Ct.mono w ?_
    rintro r h14 ⟨y15, rfl, ko16, w⟩
    change eb_Sn _ _ _ 39 _ [.int y15, .ref r8] _ _
    refine eb_ctV (pc := 39) (As := [.int y15]) (rest := []) rfl (by decide) rfl k10 (by decide) rfl (Nat.le_of_ble_eq_true rfl) ?_
    refine eb_Ct.mono w ?_
    rintro r h17 ⟨rfl, ko19, w⟩
    change eb_Sn _ _ _ 42 _ [] _ _
    exact eb_return (pc := 42) rfl rfl w
  · replace w := w.2 c4
    refine eb_aload_n (pc := 11) (n := 0) (i := 0) rfl rfl rfl ?_
    refine eb_getR (pc := 12) rfl rfl (by decide) (by decide) rfl (ko_s_reader_1 ko) ?_
    refine eb_iconst (pc := 15) (n := 4) (v := 4) rfl rfl ?_
    refine eb_ctV (pc := 16) (As := [.int 4]) (rest := []) rfl (by decide) rfl rfl (by decide) rfl (Nat.le_of_ble_eq_true rfl) ?_
    refine eb_Ct.mono w ?_
    rintro r h20 ⟨rfl, ko22, w⟩
    change eb_Sn _ _ _ 19 _ [] _ _
    refine eb_aload_n (pc := 19) (n := 0) (i := 0) rfl rfl rfl ?_
    refine eb_getR (pc := 20) rfl rfl (by decide) (by decide) rfl (ko_s_reader_1 ko22) ?_
    refine eb_ctV (pc := 23) (As := []) (rest := []) rfl (by decide) rfl rfl (by decide) rfl (Nat.le_of_ble_eq_true rfl) ?_
    refine eb_Ct.mono w ?_
    rintro r h23 ⟨rfl, ko25, w⟩
    change eb_Sn _ _ _ 26 _ [] _ _
    refine eb_aload_n (pc := 26) (n := 0) (i := 0) rfl rfl rfl ?_
    obtain ⟨r26, q27, k28, w⟩ := w
    refine eb_getR (pc := 27) rfl rfl (by decide) (by decide) rfl q27 ?_
    refine eb_aload_n (pc := 30) (n := 0) (i := 0) rfl rfl rfl ?_
    refine eb_iconst (pc := 31) (n := 0) (v := 0) rfl rfl ?_
    refine eb_aload_n (pc := 32) (n := 0) (i := 0) rfl rfl rfl ?_
    refine eb_ctV (pc := 33) (As := []) (rest := [.int 0, .ref s_reader, .ref r26]) rfl (by decide) rfl rfl (by decide) rfl (Nat.le_of_ble_eq_true rfl) ?_
    refine eb_Ct.mono w ?_
    rintro r h29 ⟨y30, rfl, ko31, w⟩
    change eb_Sn _ _ _ 36 _ [.int y30, .int 0, .ref s_reader, .ref r26] _ _
    refine eb_ctV (pc := 36) (As := [.int 0, .int y30]) (rest := [.ref r26]) rfl (by decide) rfl rfl (by decide) rfl (Nat.le_of_ble_eq_true rfl) ?_
    refine eb_Ct.mono w ?_
    rintro r h32 ⟨y33, rfl, ko34, w⟩
    change eb_Sn _ _ _ 39 _ [.int y33, .ref r26] _ _
    refine eb_ctV (pc := 39) (As := [.int y33]) (rest := []) rfl (by decide) rfl k28 (by decide) rfl (Nat.le_of_ble_eq_true rfl) ?_
    refine eb_Ct.mono w ?_
    rintro r h35 ⟨rfl, ko37, w⟩
    change eb_Sn _ _ _ 42 _ [] _ _
    exact eb_return (pc := 42) rfl rfl w
theorem T_X5_readHouse {d : Nat} {h : eb_H} {Q : Option Value → eb_H → Prop}   (ko : eb_KO h) (w : ∃ r1, eb_R h s_reader 2 = some r1 ∧ eb_kd r1 = 9 ∧ (((eb_I h r1 4) < (4 : Int32) → eb_Ct d 69 [.ref s_tape] h (fun r h5 => r = none ∧ eb_KO h5 ∧ ∃ r8, eb_R h5 s_reader 2 = some r8 ∧ eb_kd r8 = 9 ∧ eb_Ct d 52 [.ref s_reader] h5 (fun r h11 => ∃ y12, r = some (.int y12) ∧ eb_KO h11 ∧ eb_Ct d 51 [.ref s_reader, .int 0, .int y12] h11 (fun r h14 => ∃ y15, r = some (.int y15) ∧ eb_KO h14 ∧ eb_Ct d 85 [.ref r8, .int y15] h14 (fun r h17 => r = none ∧ eb_KO h17 ∧ Q none h17))))) ∧ (¬ ((eb_I h r1 4) < (4 : Int32)) → eb_Ct d 68 [.ref s_tape, .int 4] h (fun r h20 => r = none ∧ eb_KO h20 ∧ eb_Ct d 69 [.ref s_tape] h20 (fun r h23 => r = none ∧ eb_KO h23 ∧ ∃ r26, eb_R h23 s_reader 2 = some r26 ∧ eb_kd r26 = 9 ∧ eb_Ct d 52 [.ref s_reader] h23 (fun r h29 => ∃ y30, r = some (.int y30) ∧ eb_KO h29 ∧ eb_Ct d 51 [.ref s_reader, .int 0, .int y30] h29 (fun r h32 => ∃ y33, r = some (.int y33) ∧ eb_KO h32 ∧ eb_Ct d 85 [.ref r26, .int y33] h32 (fun r h35 => r = none ∧ eb_KO h35 ∧ Q none h35)))))))) : eb_Ct (d + 1) 56 [.ref s_reader] h Q :=
  eb_bodyQ (by decide) ok_X5_readHouse (Nat.le_of_ble_eq_true rfl) (b_X5_readHouse_0 (h0 := h)   ko w)
theorem b_X5_readWind_0 {d : Nat} {h0 h : eb_H} {Q : Option Value → eb_H → Prop}   (ko : eb_KO h) (w : eb_Ct d 69 [.ref s_tape] h (fun r h1 => r = none ∧ eb_KO h1 ∧ eb_Ct d 51 [.ref s_reader, .int 0, .int 9] h1 (fun r h4 => ∃ y5, r = some (.int y5) ∧ eb_KO h4 ∧ Q none (eb_sI h4 s_reader_start 4 y5)))) : eb_Sn (d + 1) m_X5_readWind h0 0 [(0, .ref s_reader)] [] h Q := by
  refine eb_aload_n (pc := 0) (n := 0) (i := 0) rfl rfl rfl ?_
  refine eb_getR (pc := 1) rfl rfl (by decide) (by decide) rfl (ko_s_reader_1 ko) ?_
  refine eb_ctV (pc := 4) (As := []) (rest := []) rfl (by decide) rfl rfl (by decide) rfl (Nat.le_of_ble_eq_true rfl) ?_
  refine eb_Ct.mono w ?_
  rintro r h1 ⟨rfl, ko3, w⟩
  change eb_Sn _ _ _ 7 _ [] _ _
  refine eb_aload_n (pc := 7) (n := 0) (i := 0) rfl rfl rfl ?_
  refine eb_getR (pc := 8) rfl rfl (by decide) (by decide) rfl (ko_s_reader_3 ko3) ?_
  refine eb_aload_n (pc := 11) (n := 0) (i := 0) rfl rfl rfl ?_
  refine eb_iconst (pc := 12) (n := 0) (v := 0) rfl rfl ?_
  refine eb_bipush (pc := 13) (n := 9) (v := 9) rfl rfl ?_
  refine eb_ctV (pc := 15) (As := [.int 0, .int 9]) (rest := [.ref s_reader_start]) rfl (by decide) rfl rfl (by decide) rfl (Nat.le_of_ble_eq_true rfl) ?_
  refine eb_Ct.mono w ?_
  rintro r h4 ⟨y5, rfl, ko6, w⟩
  change eb_Sn _ _ _ 18 _ [.int y5, .ref s_reader_start] _ _
  refine eb_putI (pc := 18) rfl rfl (by decide) (by decide) rfl rfl ⟨rfl, rfl⟩ ?_
  exact eb_return (pc := 21) rfl rfl w
theorem T_X5_readWind {d : Nat} {h : eb_H} {Q : Option Value → eb_H → Prop}   (ko : eb_KO h) (w : eb_Ct d 69 [.ref s_tape] h (fun r h1 => r = none ∧ eb_KO h1 ∧ eb_Ct d 51 [.ref s_reader, .int 0, .int 9] h1 (fun r h4 => ∃ y5, r = some (.int y5) ∧ eb_KO h4 ∧ Q none (eb_sI h4 s_reader_start 4 y5)))) : eb_Ct (d + 1) 57 [.ref s_reader] h Q :=
  eb_bodyQ (by decide) ok_X5_readWind (Nat.le_of_ble_eq_true rfl) (b_X5_readWind_0 (h0 := h)   ko w)
theorem b_X5_readBat_0 {d : Nat} {h0 h : eb_H} {Q : Option Value → eb_H → Prop}   (ko : eb_KO h) (w : eb_Ct d 69 [.ref s_tape] h (fun r h1 => r = none ∧ eb_KO h1 ∧ eb_Ct d 52 [.ref s_reader] h1 (fun r h4 => ∃ y5, r = some (.int y5) ∧ eb_KO h4 ∧ eb_Ct d 51 [.ref s_reader, .int 0, .int y5] h4 (fun r h7 => ∃ y8, r = some (.int y8) ∧ eb_KO h7 ∧ eb_Sn (d + 1) m_X5_readBat h0 33 [(0, .ref s_reader), (1, .int 0)] [] (eb_sI (eb_sI h7 s_reader_start 0 y8) s_reader_start 1 0) Q)))) : eb_Sn (d + 1) m_X5_readBat h0 0 [(0, .ref s_reader)] [] h Q := by
  refine eb_aload_n (pc := 0) (n := 0) (i := 0) rfl rfl rfl ?_
  refine eb_getR (pc := 1) rfl rfl (by decide) (by decide) rfl (ko_s_reader_1 ko) ?_
  refine eb_ctV (pc := 4) (As := []) (rest := []) rfl (by decide) rfl rfl (by decide) rfl (Nat.le_of_ble_eq_true rfl) ?_
  refine eb_Ct.mono w ?_
  rintro r h1 ⟨rfl, ko3, w⟩
  change eb_Sn _ _ _ 7 _ [] _ _
  refine eb_aload_n (pc := 7) (n := 0) (i := 0) rfl rfl rfl ?_
  refine eb_getR (pc := 8) rfl rfl (by decide) (by decide) rfl (ko_s_reader_3 ko3) ?_
  refine eb_aload_n (pc := 11) (n := 0) (i := 0) rfl rfl rfl ?_
  refine eb_iconst (pc := 12) (n := 0) (v := 0) rfl rfl ?_
  refine eb_aload_n (pc := 13) (n := 0) (i := 0) rfl rfl rfl ?_
  refine eb_ctV (pc := 14) (As := []) (rest := [.int 0, .ref s_reader, .ref s_reader_start]) rfl (by decide) rfl rfl (by decide) rfl (Nat.le_of_ble_eq_true rfl) ?_
  refine eb_Ct.mono w ?_
  rintro r h4 ⟨y5, rfl, ko6, w⟩
  change eb_Sn _ _ _ 17 _ [.int y5, .int 0, .ref s_reader, .ref s_reader_start] _ _
  refine eb_ctV (pc := 17) (As := [.int 0, .int y5]) (rest := [.ref s_reader_start]) rfl (by decide) rfl rfl (by decide) rfl (Nat.le_of_ble_eq_true rfl) ?_
  refine eb_Ct.mono w ?_
  rintro r h7 ⟨y8, rfl, ko9, w⟩
  change eb_Sn _ _ _ 20 _ [.int y8, .ref s_reader_start] _ _
  refine eb_putI (pc := 20) rfl rfl (by decide) (by decide) rfl rfl ⟨rfl, rfl⟩ ?_
  refine eb_aload_n (pc := 23) (n := 0) (i := 0) rfl rfl rfl ?_
  refine eb_getR (pc := 24) rfl rfl (by decide) (by decide) rfl (ko_s_reader_3 ko9) ?_
  refine eb_iconst (pc := 27) (n := 0) (v := 0) rfl rfl ?_
  refine eb_putI (pc := 28) rfl rfl (by decide) (by decide) rfl rfl ⟨rfl, rfl⟩ ?_
  refine eb_iconst (pc := 31) (n := 0) (v := 0) rfl rfl ?_
  refine eb_istore_n (pc := 32) (n := 1) (i := 1) (ls2 := [(1, .int 0), (0, .ref s_reader)]) rfl (Nat.le_of_ble_eq_true rfl) rfl rfl ?_
  exact eb_pick [1, 0] rfl w
theorem b_X5_readBat_33 {d : Nat} {h0 h : eb_H} {Q : Option Value → eb_H → Prop} (x1 : Int32)  (ko : eb_KO h) (w : (((900 : Int32) ≤ x1 → Q none h) ∧ (¬ ((900 : Int32) ≤ x1) → ((¬ (eb_I h s_tape 7) = 0 → Q none h) ∧ ((eb_I h s_tape 7) = 0 → ((¬ (eb_I h s_tape 5) = (2 : Int32) → Q none h) ∧ ((eb_I h s_tape 5) = (2 : Int32) → eb_Ct d 287 [.int (eb_I h s_tape 6), .int 6] h (fun r h4 => ∃ y5, r = some (.int y5) ∧ eb_KO h4 ∧ eb_Ct d 141 [.int y5] h4 (fun r h7 => ∃ y8, r = some (.int y8) ∧ eb_KO h7 ∧ eb_Ct d 283 [.int ((eb_I h s_reader_start 1) ||| y8)] h7 (fun r h10 => ∃ y11, r = some (.int y11) ∧ eb_KO h10 ∧ ∃ r13, eb_R h10 s_reader 2 = some r13 ∧ eb_kd r13 = 9 ∧ ((y11 ≤ (eb_I h10 r13 2) → eb_Ct d 51 [.ref s_reader, .int 1, .int 6] h10 (fun r h17 => ∃ y18, r = some (.int y18) ∧ eb_KO h17 ∧ eb_Sn (d + 1) m_X5_readBat h0 33 [(0, .ref s_reader), (1, .int (x1 + 1))] [] (eb_sI h17 s_reader_start 1 ((eb_I h s_reader_start 1) ||| y8)) Q)) ∧ (¬ (y11 ≤ (eb_I h10 r13 2)) → eb_Ct d 68 [.ref s_tape, .int 3] h10 (fun r h20 => r = none ∧ eb_KO h20 ∧ eb_Ct d 51 [.ref s_reader, .int 1, .int 6] h20 (fun r h23 => ∃ y24, r = some (.int y24) ∧ eb_KO h23 ∧ eb_Sn (d + 1) m_X5_readBat h0 33 [(0, .ref s_reader), (1, .int (x1 + 1))] [] (eb_sI h23 s_reader_start 1 ((eb_I h s_reader_start 1) ||| y8)) Q)))))))))))))) : eb_Sn (d + 1) m_X5_readBat h0 33 [(0, .ref s_reader), (1, .int x1)] [] h Q := by
  refine eb_iload_n (pc := 33) (n := 1) (i := 1) rfl rfl rfl ?_
  refine eb_sipush (pc := 34) (n := 900) (v := 900) rfl rfl ?_
  refine eb_icmp_ge (pc := 37) (tgt := 129) rfl (by decide) (fun c1 => ?_) (fun c1 => ?_)
  · replace w := w.1 c1
    exact eb_return (pc := 129) rfl rfl w
  · replace w := w.2 c1
    refine eb_aload_n (pc := 40) (n := 0) (i := 0) rfl rfl rfl ?_
    refine eb_getR (pc := 41) rfl rfl (by decide) (by decide) rfl (ko_s_reader_1 ko) ?_
    refine eb_getI (pc := 44) rfl rfl (by decide) (by decide) rfl ?_
    refine eb_if_ne (pc := 47) (tgt := 129) rfl (by decide) (fun c2 => ?_) (fun c2 => ?_)
    · replace w := w.1 c2
      exact eb_return (pc := 129) rfl rfl w
    · replace w := w.2 c2
      refine eb_aload_n (pc := 50) (n := 0) (i := 0) rfl rfl rfl ?_
      refine eb_getR (pc := 51) rfl rfl (by decide) (by decide) rfl (ko_s_reader_1 ko) ?_
      refine eb_getI (pc := 54) rfl rfl (by decide) (by decide) rfl ?_
      refine eb_iconst (pc := 57) (n := 2) (v := 2) rfl rfl ?_
      refine eb_icmp_ne (pc := 58) (tgt := 129) rfl (by decide) (fun c3 => ?_) (fun c3 => ?_)
      · replace w := w.1 c3
        exact eb_return (pc := 129) rfl rfl w
      · replace w := w.2 c3
        refine eb_aload_n (pc := 61) (n := 0) (i := 0) rfl rfl rfl ?_
        refine eb_getR (pc := 62) rfl rfl (by decide) (by decide) rfl (ko_s_reader_3 ko) ?_
        refine eb_getI (pc := 65) rfl rfl (by decide) (by decide) rfl ?_
        refine eb_aload_n (pc := 68) (n := 0) (i := 0) rfl rfl rfl ?_
        refine eb_getR (pc := 69) rfl rfl (by decide) (by decide) rfl (ko_s_reader_1 ko) ?_
        refine eb_getI (pc := 72) rfl rfl (by decide) (by decide) rfl ?_
        refine eb_bipush (pc := 75) (n := 6) (v := 6) rfl rfl ?_
        refine eb_ctS (pc := 77) (As := [.int (eb_I h s_tape 6), .int 6]) (rest := [.int (eb_I h s_reader_start 1)]) rfl (by decide) (by decide) rfl rfl (Nat.le_of_ble_eq_true rfl) ?_
        refine eb_Ct.mono w ?_
        rintro r h4 ⟨y5, rfl, ko6, w⟩
        change eb_Sn _ _ _ 80 _ [.int y5, .int (eb_I h s_reader_start 1)] _ _
        refine eb_ctS (pc := 80) (As := [.int y5]) (rest := [.int (eb_I h s_reader_start 1)]) rfl (by decide) (by decide) rfl rfl (Nat.le_of_ble_eq_true rfl) ?_
        refine eb_Ct.mono w ?_
        rintro r h7 ⟨y8, rfl, ko9, w⟩
        change eb_Sn _ _ _ 83 _ [.int y8, .int (eb_I h s_reader_start 1)] _ _
        refine eb_ior (pc := 83) rfl ?_
        refine eb_istore_n (pc := 84) (n := 2) (i := 2) (ls2 := [(2, .int ((eb_I h s_reader_start 1) ||| y8)), (0, .ref s_reader), (1, .int x1)]) rfl (Nat.le_of_ble_eq_true rfl) rfl rfl ?_
        refine eb_iload_n (pc := 85) (n := 2) (i := 2) rfl rfl rfl ?_
        refine eb_ctS (pc := 86) (As := [.int ((eb_I h s_reader_start 1) ||| y8)]) (rest := []) rfl (by decide) (by decide) rfl rfl (Nat.le_of_ble_eq_true rfl) ?_
        refine eb_Ct.mono w ?_
        rintro r h10 ⟨y11, rfl, ko12, w⟩
        change eb_Sn _ _ _ 89 _ [.int y11] _ _
        refine eb_aload_n (pc := 89) (n := 0) (i := 0) rfl rfl rfl ?_
        obtain ⟨r13, q14, k15, w⟩ := w
        refine eb_getR (pc := 90) rfl rfl (by decide) (by decide) rfl q14 ?_
        refine eb_getI (pc := 93) rfl k15 (by decide) (by decide) rfl ?_
        refine eb_icmp_le (pc := 96) (tgt := 107) rfl (by decide) (fun c16 => ?_) (fun c16 => ?_)
        · replace w := w.1 c16
          refine eb_aload_n (pc := 107) (n := 0) (i := 0) rfl rfl rfl ?_
          refine eb_iconst (pc := 108) (n := 1) (v := 1) rfl rfl ?_
          refine eb_bipush (pc := 109) (n := 6) (v := 6) rfl rfl ?_
          refine eb_ctV (pc := 111) (As := [.int 1, .int 6]) (rest := []) rfl (by decide) rfl rfl (by decide) rfl (Nat.le_of_ble_eq_true rfl) ?_
          refine eb_Ct.mono w ?_
          rintro r h17 ⟨y18, rfl, ko19, w⟩
          change eb_Sn _ _ _ 114 _ [.int y18] _ _
          refine eb_popi (pc := 114) rfl ?_
          refine eb_aload_n (pc := 115) (n := 0) (i := 0) rfl rfl rfl ?_
          refine eb_getR (pc := 116) rfl rfl (by decide) (by decide) rfl (ko_s_reader_3 ko19) ?_
          refine eb_iload_n (pc := 119) (n := 2) (i := 2) rfl rfl rfl ?_
          refine eb_putI (pc := 120) rfl rfl (by decide) (by decide) rfl rfl ⟨rfl, rfl⟩ ?_
          refine eb_iinc (pc := 123) (i := 1) (n := 1) (v := x1 + 1) (ls2 := [(1, .int (x1 + 1)), (2, .int ((eb_I h s_reader_start 1) ||| y8)), (0, .ref s_reader)]) (Nat.le_of_ble_eq_true rfl) rfl rfl rfl rfl ?_
          refine eb_goto (pc := 126) (tgt := 33) rfl (by decide) ?_
          exact eb_pick [2, 0] rfl w
        · replace w := w.2 c16
          refine eb_aload_n (pc := 99) (n := 0) (i := 0) rfl rfl rfl ?_
          refine eb_getR (pc := 100) rfl rfl (by decide) (by decide) rfl (ko_s_reader_1 ko12) ?_
          refine eb_iconst (pc := 103) (n := 3) (v := 3) rfl rfl ?_
          refine eb_ctV (pc := 104) (As := [.int 3]) (rest := []) rfl (by decide) rfl rfl (by decide) rfl (Nat.le_of_ble_eq_true rfl) ?_
          refine eb_Ct.mono w ?_
          rintro r h20 ⟨rfl, ko22, w⟩
          change eb_Sn _ _ _ 107 _ [] _ _
          refine eb_aload_n (pc := 107) (n := 0) (i := 0) rfl rfl rfl ?_
          refine eb_iconst (pc := 108) (n := 1) (v := 1) rfl rfl ?_
          refine eb_bipush (pc := 109) (n := 6) (v := 6) rfl rfl ?_
          refine eb_ctV (pc := 111) (As := [.int 1, .int 6]) (rest := []) rfl (by decide) rfl rfl (by decide) rfl (Nat.le_of_ble_eq_true rfl) ?_
          refine eb_Ct.mono w ?_
          rintro r h23 ⟨y24, rfl, ko25, w⟩
          change eb_Sn _ _ _ 114 _ [.int y24] _ _
          refine eb_popi (pc := 114) rfl ?_
          refine eb_aload_n (pc := 115) (n := 0) (i := 0) rfl rfl rfl ?_
          refine eb_getR (pc := 116) rfl rfl (by decide) (by decide) rfl (ko_s_reader_3 ko25) ?_
          refine eb_iload_n (pc := 119) (n := 2) (i := 2) rfl rfl rfl ?_
          refine eb_putI (pc := 120) rfl rfl (by decide) (by decide) rfl rfl ⟨rfl, rfl⟩ ?_
          refine eb_iinc (pc := 123) (i := 1) (n := 1) (v := x1 + 1) (ls2 := [(1, .int (x1 + 1)), (2, .int ((eb_I h s_reader_start 1) ||| y8)), (0, .ref s_reader)]) (Nat.le_of_ble_eq_true rfl) rfl rfl rfl rfl ?_
          refine eb_goto (pc := 126) (tgt := 33) rfl (by decide) ?_
          exact eb_pick [2, 0] rfl w
theorem T_X5_readBat {d : Nat} {h : eb_H} {Q : Option Value → eb_H → Prop}   (ko : eb_KO h) (w : eb_Ct d 69 [.ref s_tape] h (fun r h1 => r = none ∧ eb_KO h1 ∧ eb_Ct d 52 [.ref s_reader] h1 (fun r h4 => ∃ y5, r = some (.int y5) ∧ eb_KO h4 ∧ eb_Ct d 51 [.ref s_reader, .int 0, .int y5] h4 (fun r h7 => ∃ y8, r = some (.int y8) ∧ eb_KO h7 ∧ eb_Sn (d + 1) m_X5_readBat h 33 [(0, .ref s_reader), (1, .int 0)] [] (eb_sI (eb_sI h7 s_reader_start 0 y8) s_reader_start 1 0) Q)))) : eb_Ct (d + 1) 58 [.ref s_reader] h Q :=
  eb_bodyQ (by decide) ok_X5_readBat (Nat.le_of_ble_eq_true rfl) (b_X5_readBat_0 (h0 := h)   ko w)
theorem b_X6_init_0 {d : Nat} {h0 h : eb_H} {Q : Option Value → eb_H → Prop} (a0 : Nat) (ka0 : eb_kd a0 = 6) (w : ∀ h1, h1 = eb_sI h a0 0 0 → ∀ h3, h3 = eb_sI h1 a0 1 0 → ∀ h5, h5 = eb_sI h3 a0 2 0 → ∀ h7, h7 = eb_sI h5 a0 3 0 → ∀ h9, h9 = eb_sI h7 a0 4 0 → ∀ r13, r13 = eb_nx h9 13 16 → ∀ h11, h11 = eb_nw h9 13 16 16 → ∀ h15, h15 = eb_sR h11 a0 5 (some r13) → Q none h15) : eb_Sn (d + 1) m_X6_init h0 0 [(0, .ref a0)] [] h Q := by
  refine eb_aload_n (pc := 0) (n := 0) (i := 0) rfl rfl rfl ?_
  refine eb_objInit (pc := 1) rfl (by decide +kernel) (by omega) (Nat.le_of_ble_eq_true rfl) ?_
  refine eb_aload_n (pc := 4) (n := 0) (i := 0) rfl rfl rfl ?_
  refine eb_iconst (pc := 5) (n := 0) (v := 0) rfl rfl ?_
  refine eb_putI (pc := 6) rfl ka0 (by decide) (by decide) rfl rfl ⟨rfl, rfl⟩ ?_
  obtain ⟨h1, e2⟩ : ∃ z, z = eb_sI h a0 0 0 := ⟨_, rfl⟩
  rw [← e2]
  replace w := w h1 e2
  refine eb_aload_n (pc := 9) (n := 0) (i := 0) rfl rfl rfl ?_
  refine eb_iconst (pc := 10) (n := 0) (v := 0) rfl rfl ?_
  refine eb_putI (pc := 11) rfl ka0 (by decide) (by decide) rfl rfl ⟨rfl, rfl⟩ ?_
  obtain ⟨h3, e4⟩ : ∃ z, z = eb_sI h1 a0 1 0 := ⟨_, rfl⟩
  rw [← e4]
  replace w := w h3 e4
  refine eb_aload_n (pc := 14) (n := 0) (i := 0) rfl rfl rfl ?_
  refine eb_iconst (pc := 15) (n := 0) (v := 0) rfl rfl ?_
  refine eb_putI (pc := 16) rfl ka0 (by decide) (by decide) rfl rfl ⟨rfl, rfl⟩ ?_
  obtain ⟨h5, e6⟩ : ∃ z, z = eb_sI h3 a0 2 0 := ⟨_, rfl⟩
  rw [← e6]
  replace w := w h5 e6
  refine eb_aload_n (pc := 19) (n := 0) (i := 0) rfl rfl rfl ?_
  refine eb_iconst (pc := 20) (n := 0) (v := 0) rfl rfl ?_
  refine eb_putI (pc := 21) rfl ka0 (by decide) (by decide) rfl rfl ⟨rfl, rfl⟩ ?_
  obtain ⟨h7, e8⟩ : ∃ z, z = eb_sI h5 a0 3 0 := ⟨_, rfl⟩
  rw [← e8]
  replace w := w h7 e8
  refine eb_aload_n (pc := 24) (n := 0) (i := 0) rfl rfl rfl ?_
  refine eb_iconst (pc := 25) (n := 0) (v := 0) rfl rfl ?_
  refine eb_putI (pc := 26) rfl ka0 (by decide) (by decide) rfl rfl ⟨rfl, rfl⟩ ?_
  obtain ⟨h9, e10⟩ : ∃ z, z = eb_sI h7 a0 4 0 := ⟨_, rfl⟩
  rw [← e10]
  replace w := w h9 e10
  refine eb_aload_n (pc := 29) (n := 0) (i := 0) rfl rfl rfl ?_
  refine eb_bipush (pc := 30) (n := 16) (v := 16) rfl rfl ?_
  refine eb_newI (pc := 32) (kd := 13) (len := 16) rfl rfl (by decide) (by decide) rfl (by decide) ?_
  obtain ⟨r13, e14⟩ : ∃ z, z = eb_nx h9 13 16 := ⟨_, rfl⟩
  rw [← e14]
  replace w := w r13 e14
  obtain ⟨h11, e12⟩ : ∃ z, z = eb_nw h9 13 16 16 := ⟨_, rfl⟩
  rw [← e12]
  replace w := w h11 e12
  refine eb_putR (pc := 34) rfl ka0 (by decide) (by decide) rfl (Or.inr ⟨rfl, rfl, rfl⟩) (eb_k20 (c := 13) (by rw [e14]; exact eb_mk_kd (by decide)) (by decide)) ?_
  obtain ⟨h15, e16⟩ : ∃ z, z = eb_sR h11 a0 5 (some r13) := ⟨_, rfl⟩
  rw [← e16]
  replace w := w h15 e16
  exact eb_return (pc := 37) rfl rfl w
theorem T_X6_init {d : Nat} {h : eb_H} {Q : Option Value → eb_H → Prop} (a0 : Nat) (ka0 : eb_kd a0 = 6) (w : ∀ h1, h1 = eb_sI h a0 0 0 → ∀ h3, h3 = eb_sI h1 a0 1 0 → ∀ h5, h5 = eb_sI h3 a0 2 0 → ∀ h7, h7 = eb_sI h5 a0 3 0 → ∀ h9, h9 = eb_sI h7 a0 4 0 → ∀ r13, r13 = eb_nx h9 13 16 → ∀ h11, h11 = eb_nw h9 13 16 16 → ∀ h15, h15 = eb_sR h11 a0 5 (some r13) → Q none h15) : eb_Ct (d + 1) 59 [.ref a0] h Q :=
  eb_bodyQ (by decide) ok_X6_init (Nat.le_of_ble_eq_true rfl) (b_X6_init_0 (h0 := h) a0 ka0 w)
theorem b_X6_become_0 {d : Nat} {h0 h : eb_H} {Q : Option Value → eb_H → Prop} (a0 : Nat) (a1 : Nat) (ka0 : eb_kd a0 = 6) (ka1 : eb_kd a1 = 6) (ko : eb_KO h) (w : ∃ r1, eb_R (eb_sI (eb_sI (eb_sI (eb_sI (eb_sI h a0 0 (eb_I h a1 0)) a0 1 (eb_I (eb_sI h a0 0 (eb_I h a1 0)) a1 1)) a0 2 (eb_I (eb_sI (eb_sI h a0 0 (eb_I h a1 0)) a0 1 (eb_I (eb_sI h a0 0 (eb_I h a1 0)) a1 1)) a1 2)) a0 3 (eb_I (eb_sI (eb_sI (eb_sI h a0 0 (eb_I h a1 0)) a0 1 (eb_I (eb_sI h a0 0 (eb_I h a1 0)) a1 1)) a0 2 (eb_I (eb_sI (eb_sI h a0 0 (eb_I h a1 0)) a0 1 (eb_I (eb_sI h a0 0 (eb_I h a1 0)) a1 1)) a1 2)) a1 3)) a0 4 (eb_I (eb_sI (eb_sI (eb_sI (eb_sI h a0 0 (eb_I h a1 0)) a0 1 (eb_I (eb_sI h a0 0 (eb_I h a1 0)) a1 1)) a0 2 (eb_I (eb_sI (eb_sI h a0 0 (eb_I h a1 0)) a0 1 (eb_I (eb_sI h a0 0 (eb_I h a1 0)) a1 1)) a1 2)) a0 3 (eb_I (eb_sI (eb_sI (eb_sI h a0 0 (eb_I h a1 0)) a0 1 (eb_I (eb_sI h a0 0 (eb_I h a1 0)) a1 1)) a0 2 (eb_I (eb_sI (eb_sI h a0 0 (eb_I h a1 0)) a0 1 (eb_I (eb_sI h a0 0 (eb_I h a1 0)) a1 1)) a1 2)) a1 3)) a1 4)) a1 5 = some r1 ∧ eb_kd r1 = 13 ∧ ∃ r4, eb_R (eb_sI (eb_sI (eb_sI (eb_sI (eb_sI h a0 0 (eb_I h a1 0)) a0 1 (eb_I (eb_sI h a0 0 (eb_I h a1 0)) a1 1)) a0 2 (eb_I (eb_sI (eb_sI h a0 0 (eb_I h a1 0)) a0 1 (eb_I (eb_sI h a0 0 (eb_I h a1 0)) a1 1)) a1 2)) a0 3 (eb_I (eb_sI (eb_sI (eb_sI h a0 0 (eb_I h a1 0)) a0 1 (eb_I (eb_sI h a0 0 (eb_I h a1 0)) a1 1)) a0 2 (eb_I (eb_sI (eb_sI h a0 0 (eb_I h a1 0)) a0 1 (eb_I (eb_sI h a0 0 (eb_I h a1 0)) a1 1)) a1 2)) a1 3)) a0 4 (eb_I (eb_sI (eb_sI (eb_sI (eb_sI h a0 0 (eb_I h a1 0)) a0 1 (eb_I (eb_sI h a0 0 (eb_I h a1 0)) a1 1)) a0 2 (eb_I (eb_sI (eb_sI h a0 0 (eb_I h a1 0)) a0 1 (eb_I (eb_sI h a0 0 (eb_I h a1 0)) a1 1)) a1 2)) a0 3 (eb_I (eb_sI (eb_sI (eb_sI h a0 0 (eb_I h a1 0)) a0 1 (eb_I (eb_sI h a0 0 (eb_I h a1 0)) a1 1)) a0 2 (eb_I (eb_sI (eb_sI h a0 0 (eb_I h a1 0)) a0 1 (eb_I (eb_sI h a0 0 (eb_I h a1 0)) a1 1)) a1 2)) a1 3)) a1 4)) a0 5 = some r4 ∧ eb_kd r4 = 13 ∧ ((0 : Int32).toNatClampNeg + (16 : Int32).toNatClampNeg ≤ eb_ln r1) ∧ ((0 : Int32).toNatClampNeg + (16 : Int32).toNatClampNeg ≤ eb_ln r4) ∧ Q none (eb_rI (eb_sI (eb_sI (eb_sI (eb_sI (eb_sI h a0 0 (eb_I h a1 0)) a0 1 (eb_I (eb_sI h a0 0 (eb_I h a1 0)) a1 1)) a0 2 (eb_I (eb_sI (eb_sI h a0 0 (eb_I h a1 0)) a0 1 (eb_I (eb_sI h a0 0 (eb_I h a1 0)) a1 1)) a1 2)) a0 3 (eb_I (eb_sI (eb_sI (eb_sI h a0 0 (eb_I h a1 0)) a0 1 (eb_I (eb_sI h a0 0 (eb_I h a1 0)) a1 1)) a0 2 (eb_I (eb_sI (eb_sI h a0 0 (eb_I h a1 0)) a0 1 (eb_I (eb_sI h a0 0 (eb_I h a1 0)) a1 1)) a1 2)) a1 3)) a0 4 (eb_I (eb_sI (eb_sI (eb_sI (eb_sI h a0 0 (eb_I h a1 0)) a0 1 (eb_I (eb_sI h a0 0 (eb_I h a1 0)) a1 1)) a0 2 (eb_I (eb_sI (eb_sI h a0 0 (eb_I h a1 0)) a0 1 (eb_I (eb_sI h a0 0 (eb_I h a1 0)) a1 1)) a1 2)) a0 3 (eb_I (eb_sI (eb_sI (eb_sI h a0 0 (eb_I h a1 0)) a0 1 (eb_I (eb_sI h a0 0 (eb_I h a1 0)) a1 1)) a0 2 (eb_I (eb_sI (eb_sI h a0 0 (eb_I h a1 0)) a0 1 (eb_I (eb_sI h a0 0 (eb_I h a1 0)) a1 1)) a1 2)) a1 3)) a1 4)) r4 (va_cpy (eb_I (eb_sI (eb_sI (eb_sI (eb_sI (eb_sI h a0 0 (eb_I h a1 0)) a0 1 (eb_I (eb_sI h a0 0 (eb_I h a1 0)) a1 1)) a0 2 (eb_I (eb_sI (eb_sI h a0 0 (eb_I h a1 0)) a0 1 (eb_I (eb_sI h a0 0 (eb_I h a1 0)) a1 1)) a1 2)) a0 3 (eb_I (eb_sI (eb_sI (eb_sI h a0 0 (eb_I h a1 0)) a0 1 (eb_I (eb_sI h a0 0 (eb_I h a1 0)) a1 1)) a0 2 (eb_I (eb_sI (eb_sI h a0 0 (eb_I h a1 0)) a0 1 (eb_I (eb_sI h a0 0 (eb_I h a1 0)) a1 1)) a1 2)) a1 3)) a0 4 (eb_I (eb_sI (eb_sI (eb_sI (eb_sI h a0 0 (eb_I h a1 0)) a0 1 (eb_I (eb_sI h a0 0 (eb_I h a1 0)) a1 1)) a0 2 (eb_I (eb_sI (eb_sI h a0 0 (eb_I h a1 0)) a0 1 (eb_I (eb_sI h a0 0 (eb_I h a1 0)) a1 1)) a1 2)) a0 3 (eb_I (eb_sI (eb_sI (eb_sI h a0 0 (eb_I h a1 0)) a0 1 (eb_I (eb_sI h a0 0 (eb_I h a1 0)) a1 1)) a0 2 (eb_I (eb_sI (eb_sI h a0 0 (eb_I h a1 0)) a0 1 (eb_I (eb_sI h a0 0 (eb_I h a1 0)) a1 1)) a1 2)) a1 3)) a1 4)) r1) (eb_I (eb_sI (eb_sI (eb_sI (eb_sI (eb_sI h a0 0 (eb_I h a1 0)) a0 1 (eb_I (eb_sI h a0 0 (eb_I h a1 0)) a1 1)) a0 2 (eb_I (eb_sI (eb_sI h a0 0 (eb_I h a1 0)) a0 1 (eb_I (eb_sI h a0 0 (eb_I h a1 0)) a1 1)) a1 2)) a0 3 (eb_I (eb_sI (eb_sI (eb_sI h a0 0 (eb_I h a1 0)) a0 1 (eb_I (eb_sI h a0 0 (eb_I h a1 0)) a1 1)) a0 2 (eb_I (eb_sI (eb_sI h a0 0 (eb_I h a1 0)) a0 1 (eb_I (eb_sI h a0 0 (eb_I h a1 0)) a1 1)) a1 2)) a1 3)) a0 4 (eb_I (eb_sI (eb_sI (eb_sI (eb_sI h a0 0 (eb_I h a1 0)) a0 1 (eb_I (eb_sI h a0 0 (eb_I h a1 0)) a1 1)) a0 2 (eb_I (eb_sI (eb_sI h a0 0 (eb_I h a1 0)) a0 1 (eb_I (eb_sI h a0 0 (eb_I h a1 0)) a1 1)) a1 2)) a0 3 (eb_I (eb_sI (eb_sI (eb_sI h a0 0 (eb_I h a1 0)) a0 1 (eb_I (eb_sI h a0 0 (eb_I h a1 0)) a1 1)) a0 2 (eb_I (eb_sI (eb_sI h a0 0 (eb_I h a1 0)) a0 1 (eb_I (eb_sI h a0 0 (eb_I h a1 0)) a1 1)) a1 2)) a1 3)) a1 4)) r4) (0 : Int32).toNatClampNeg (0 : Int32).toNatClampNeg (16 : Int32).toNatClampNeg))) : eb_Sn (d + 1) m_X6_become h0 0 [(0, .ref a0), (1, .ref a1)] [] h Q := by
  refine eb_aload_n (pc := 0) (n := 0) (i := 0) rfl rfl rfl ?_
  refine eb_aload_n (pc := 1) (n := 1) (i := 1) rfl rfl rfl ?_
  refine eb_getI (pc := 2) rfl ka1 (by decide) (by decide) rfl ?_
  refine eb_putI (pc := 5) rfl ka0 (by decide) (by decide) rfl rfl ⟨rfl, rfl⟩ ?_
  refine eb_aload_n (pc := 8) (n := 0) (i := 0) rfl rfl rfl ?_
  refine eb_aload_n (pc := 9) (n := 1) (i := 1) rfl rfl rfl ?_
  refine eb_getI (pc := 10) rfl ka1 (by decide) (by decide) rfl ?_
  refine eb_putI (pc := 13) rfl ka0 (by decide) (by decide) rfl rfl ⟨rfl, rfl⟩ ?_
  refine eb_aload_n (pc := 16) (n := 0) (i := 0) rfl rfl rfl ?_
  refine eb_aload_n (pc := 17) (n := 1) (i := 1) rfl rfl rfl ?_
  refine eb_getI (pc := 18) rfl ka1 (by decide) (by decide) rfl ?_
  refine eb_putI (pc := 21) rfl ka0 (by decide) (by decide) rfl rfl ⟨rfl, rfl⟩ ?_
  refine eb_aload_n (pc := 24) (n := 0) (i := 0) rfl rfl rfl ?_
  refine eb_aload_n (pc := 25) (n := 1) (i := 1) rfl rfl rfl ?_
  refine eb_getI (pc := 26) rfl ka1 (by decide) (by decide) rfl ?_
  refine eb_putI (pc := 29) rfl ka0 (by decide) (by decide) rfl rfl ⟨rfl, rfl⟩ ?_
  refine eb_aload_n (pc := 32) (n := 0) (i := 0) rfl rfl rfl ?_
  refine eb_aload_n (pc := 33) (n := 1) (i := 1) rfl rfl rfl ?_
  refine eb_getI (pc := 34) rfl ka1 (by decide) (by decide) rfl ?_
  refine eb_putI (pc := 37) rfl ka0 (by decide) (by decide) rfl rfl ⟨rfl, rfl⟩ ?_
  refine eb_aload_n (pc := 40) (n := 1) (i := 1) rfl rfl rfl ?_
  obtain ⟨r1, q2, k3, w⟩ := w
  refine eb_getR (pc := 41) rfl ka1 (by decide) (by decide) rfl q2 ?_
  refine eb_iconst (pc := 44) (n := 0) (v := 0) rfl rfl ?_
  refine eb_aload_n (pc := 45) (n := 0) (i := 0) rfl rfl rfl ?_
  obtain ⟨r4, q5, k6, w⟩ := w
  refine eb_getR (pc := 46) rfl ka0 (by decide) (by decide) rfl q5 ?_
  refine eb_iconst (pc := 49) (n := 0) (v := 0) rfl rfl ?_
  refine eb_bipush (pc := 50) (n := 16) (v := 16) rfl rfl ?_
  obtain ⟨c7, w⟩ := w
  obtain ⟨c8, w⟩ := w
  refine eb_acopy (pc := 52) rfl (by decide +kernel) (by omega) k6 k3 (by decide) (by decide) (by decide) c7 c8 (Nat.le_of_ble_eq_true rfl) ?_
  exact eb_return (pc := 55) rfl rfl w
theorem T_X6_become {d : Nat} {h : eb_H} {Q : Option Value → eb_H → Prop} (a0 : Nat) (a1 : Nat) (ka0 : eb_kd a0 = 6) (ka1 : eb_kd a1 = 6) (ko : eb_KO h) (w : ∃ r1, eb_R (eb_sI (eb_sI (eb_sI (eb_sI (eb_sI h a0 0 (eb_I h a1 0)) a0 1 (eb_I (eb_sI h a0 0 (eb_I h a1 0)) a1 1)) a0 2 (eb_I (eb_sI (eb_sI h a0 0 (eb_I h a1 0)) a0 1 (eb_I (eb_sI h a0 0 (eb_I h a1 0)) a1 1)) a1 2)) a0 3 (eb_I (eb_sI (eb_sI (eb_sI h a0 0 (eb_I h a1 0)) a0 1 (eb_I (eb_sI h a0 0 (eb_I h a1 0)) a1 1)) a0 2 (eb_I (eb_sI (eb_sI h a0 0 (eb_I h a1 0)) a0 1 (eb_I (eb_sI h a0 0 (eb_I h a1 0)) a1 1)) a1 2)) a1 3)) a0 4 (eb_I (eb_sI (eb_sI (eb_sI (eb_sI h a0 0 (eb_I h a1 0)) a0 1 (eb_I (eb_sI h a0 0 (eb_I h a1 0)) a1 1)) a0 2 (eb_I (eb_sI (eb_sI h a0 0 (eb_I h a1 0)) a0 1 (eb_I (eb_sI h a0 0 (eb_I h a1 0)) a1 1)) a1 2)) a0 3 (eb_I (eb_sI (eb_sI (eb_sI h a0 0 (eb_I h a1 0)) a0 1 (eb_I (eb_sI h a0 0 (eb_I h a1 0)) a1 1)) a0 2 (eb_I (eb_sI (eb_sI h a0 0 (eb_I h a1 0)) a0 1 (eb_I (eb_sI h a0 0 (eb_I h a1 0)) a1 1)) a1 2)) a1 3)) a1 4)) a1 5 = some r1 ∧ eb_kd r1 = 13 ∧ ∃ r4, eb_R (eb_sI (eb_sI (eb_sI (eb_sI (eb_sI h a0 0 (eb_I h a1 0)) a0 1 (eb_I (eb_sI h a0 0 (eb_I h a1 0)) a1 1)) a0 2 (eb_I (eb_sI (eb_sI h a0 0 (eb_I h a1 0)) a0 1 (eb_I (eb_sI h a0 0 (eb_I h a1 0)) a1 1)) a1 2)) a0 3 (eb_I (eb_sI (eb_sI (eb_sI h a0 0 (eb_I h a1 0)) a0 1 (eb_I (eb_sI h a0 0 (eb_I h a1 0)) a1 1)) a0 2 (eb_I (eb_sI (eb_sI h a0 0 (eb_I h a1 0)) a0 1 (eb_I (eb_sI h a0 0 (eb_I h a1 0)) a1 1)) a1 2)) a1 3)) a0 4 (eb_I (eb_sI (eb_sI (eb_sI (eb_sI h a0 0 (eb_I h a1 0)) a0 1 (eb_I (eb_sI h a0 0 (eb_I h a1 0)) a1 1)) a0 2 (eb_I (eb_sI (eb_sI h a0 0 (eb_I h a1 0)) a0 1 (eb_I (eb_sI h a0 0 (eb_I h a1 0)) a1 1)) a1 2)) a0 3 (eb_I (eb_sI (eb_sI (eb_sI h a0 0 (eb_I h a1 0)) a0 1 (eb_I (eb_sI h a0 0 (eb_I h a1 0)) a1 1)) a0 2 (eb_I (eb_sI (eb_sI h a0 0 (eb_I h a1 0)) a0 1 (eb_I (eb_sI h a0 0 (eb_I h a1 0)) a1 1)) a1 2)) a1 3)) a1 4)) a0 5 = some r4 ∧ eb_kd r4 = 13 ∧ ((0 : Int32).toNatClampNeg + (16 : Int32).toNatClampNeg ≤ eb_ln r1) ∧ ((0 : Int32).toNatClampNeg + (16 : Int32).toNatClampNeg ≤ eb_ln r4) ∧ Q none (eb_rI (eb_sI (eb_sI (eb_sI (eb_sI (eb_sI h a0 0 (eb_I h a1 0)) a0 1 (eb_I (eb_sI h a0 0 (eb_I h a1 0)) a1 1)) a0 2 (eb_I (eb_sI (eb_sI h a0 0 (eb_I h a1 0)) a0 1 (eb_I (eb_sI h a0 0 (eb_I h a1 0)) a1 1)) a1 2)) a0 3 (eb_I (eb_sI (eb_sI (eb_sI h a0 0 (eb_I h a1 0)) a0 1 (eb_I (eb_sI h a0 0 (eb_I h a1 0)) a1 1)) a0 2 (eb_I (eb_sI (eb_sI h a0 0 (eb_I h a1 0)) a0 1 (eb_I (eb_sI h a0 0 (eb_I h a1 0)) a1 1)) a1 2)) a1 3)) a0 4 (eb_I (eb_sI (eb_sI (eb_sI (eb_sI h a0 0 (eb_I h a1 0)) a0 1 (eb_I (eb_sI h a0 0 (eb_I h a1 0)) a1 1)) a0 2 (eb_I (eb_sI (eb_sI h a0 0 (eb_I h a1 0)) a0 1 (eb_I (eb_sI h a0 0 (eb_I h a1 0)) a1 1)) a1 2)) a0 3 (eb_I (eb_sI (eb_sI (eb_sI h a0 0 (eb_I h a1 0)) a0 1 (eb_I (eb_sI h a0 0 (eb_I h a1 0)) a1 1)) a0 2 (eb_I (eb_sI (eb_sI h a0 0 (eb_I h a1 0)) a0 1 (eb_I (eb_sI h a0 0 (eb_I h a1 0)) a1 1)) a1 2)) a1 3)) a1 4)) r4 (va_cpy (eb_I (eb_sI (eb_sI (eb_sI (eb_sI (eb_sI h a0 0 (eb_I h a1 0)) a0 1 (eb_I (eb_sI h a0 0 (eb_I h a1 0)) a1 1)) a0 2 (eb_I (eb_sI (eb_sI h a0 0 (eb_I h a1 0)) a0 1 (eb_I (eb_sI h a0 0 (eb_I h a1 0)) a1 1)) a1 2)) a0 3 (eb_I (eb_sI (eb_sI (eb_sI h a0 0 (eb_I h a1 0)) a0 1 (eb_I (eb_sI h a0 0 (eb_I h a1 0)) a1 1)) a0 2 (eb_I (eb_sI (eb_sI h a0 0 (eb_I h a1 0)) a0 1 (eb_I (eb_sI h a0 0 (eb_I h a1 0)) a1 1)) a1 2)) a1 3)) a0 4 (eb_I (eb_sI (eb_sI (eb_sI (eb_sI h a0 0 (eb_I h a1 0)) a0 1 (eb_I (eb_sI h a0 0 (eb_I h a1 0)) a1 1)) a0 2 (eb_I (eb_sI (eb_sI h a0 0 (eb_I h a1 0)) a0 1 (eb_I (eb_sI h a0 0 (eb_I h a1 0)) a1 1)) a1 2)) a0 3 (eb_I (eb_sI (eb_sI (eb_sI h a0 0 (eb_I h a1 0)) a0 1 (eb_I (eb_sI h a0 0 (eb_I h a1 0)) a1 1)) a0 2 (eb_I (eb_sI (eb_sI h a0 0 (eb_I h a1 0)) a0 1 (eb_I (eb_sI h a0 0 (eb_I h a1 0)) a1 1)) a1 2)) a1 3)) a1 4)) r1) (eb_I (eb_sI (eb_sI (eb_sI (eb_sI (eb_sI h a0 0 (eb_I h a1 0)) a0 1 (eb_I (eb_sI h a0 0 (eb_I h a1 0)) a1 1)) a0 2 (eb_I (eb_sI (eb_sI h a0 0 (eb_I h a1 0)) a0 1 (eb_I (eb_sI h a0 0 (eb_I h a1 0)) a1 1)) a1 2)) a0 3 (eb_I (eb_sI (eb_sI (eb_sI h a0 0 (eb_I h a1 0)) a0 1 (eb_I (eb_sI h a0 0 (eb_I h a1 0)) a1 1)) a0 2 (eb_I (eb_sI (eb_sI h a0 0 (eb_I h a1 0)) a0 1 (eb_I (eb_sI h a0 0 (eb_I h a1 0)) a1 1)) a1 2)) a1 3)) a0 4 (eb_I (eb_sI (eb_sI (eb_sI (eb_sI h a0 0 (eb_I h a1 0)) a0 1 (eb_I (eb_sI h a0 0 (eb_I h a1 0)) a1 1)) a0 2 (eb_I (eb_sI (eb_sI h a0 0 (eb_I h a1 0)) a0 1 (eb_I (eb_sI h a0 0 (eb_I h a1 0)) a1 1)) a1 2)) a0 3 (eb_I (eb_sI (eb_sI (eb_sI h a0 0 (eb_I h a1 0)) a0 1 (eb_I (eb_sI h a0 0 (eb_I h a1 0)) a1 1)) a0 2 (eb_I (eb_sI (eb_sI h a0 0 (eb_I h a1 0)) a0 1 (eb_I (eb_sI h a0 0 (eb_I h a1 0)) a1 1)) a1 2)) a1 3)) a1 4)) r4) (0 : Int32).toNatClampNeg (0 : Int32).toNatClampNeg (16 : Int32).toNatClampNeg))) : eb_Ct (d + 1) 60 [.ref a0, .ref a1] h Q :=
  eb_bodyQ (by decide) ok_X6_become (Nat.le_of_ble_eq_true rfl) (b_X6_become_0 (h0 := h) a0 a1 ka0 ka1 ko w)
theorem b_X6_clearAll_0 {d : Nat} {h0 h : eb_H} {Q : Option Value → eb_H → Prop} (a0 : Nat) (ka0 : eb_kd a0 = 6) (ko : eb_KO h) (w : ∃ r1, eb_R (eb_sI (eb_sI (eb_sI (eb_sI (eb_sI h a0 0 0) a0 1 0) a0 2 0) a0 3 0) a0 4 0) a0 5 = some r1 ∧ eb_kd r1 = 13 ∧ eb_Ct d 301 [.ref r1, .int 0] (eb_sI (eb_sI (eb_sI (eb_sI (eb_sI h a0 0 0) a0 1 0) a0 2 0) a0 3 0) a0 4 0) (fun r h4 => r = none ∧ eb_KO h4 ∧ Q none h4)) : eb_Sn (d + 1) m_X6_clearAll h0 0 [(0, .ref a0)] [] h Q := by
  refine eb_aload_n (pc := 0) (n := 0) (i := 0) rfl rfl rfl ?_
  refine eb_iconst (pc := 1) (n := 0) (v := 0) rfl rfl ?_
  refine eb_putI (pc := 2) rfl ka0 (by decide) (by decide) rfl rfl ⟨rfl, rfl⟩ ?_
  refine eb_aload_n (pc := 5) (n := 0) (i := 0) rfl rfl rfl ?_
  refine eb_iconst (pc := 6) (n := 0) (v := 0) rfl rfl ?_
  refine eb_putI (pc := 7) rfl ka0 (by decide) (by decide) rfl rfl ⟨rfl, rfl⟩ ?_
  refine eb_aload_n (pc := 10) (n := 0) (i := 0) rfl rfl rfl ?_
  refine eb_iconst (pc := 11) (n := 0) (v := 0) rfl rfl ?_
  refine eb_putI (pc := 12) rfl ka0 (by decide) (by decide) rfl rfl ⟨rfl, rfl⟩ ?_
  refine eb_aload_n (pc := 15) (n := 0) (i := 0) rfl rfl rfl ?_
  refine eb_iconst (pc := 16) (n := 0) (v := 0) rfl rfl ?_
  refine eb_putI (pc := 17) rfl ka0 (by decide) (by decide) rfl rfl ⟨rfl, rfl⟩ ?_
  refine eb_aload_n (pc := 20) (n := 0) (i := 0) rfl rfl rfl ?_
  refine eb_iconst (pc := 21) (n := 0) (v := 0) rfl rfl ?_
  refine eb_putI (pc := 22) rfl ka0 (by decide) (by decide) rfl rfl ⟨rfl, rfl⟩ ?_
  refine eb_aload_n (pc := 25) (n := 0) (i := 0) rfl rfl rfl ?_
  obtain ⟨r1, q2, k3, w⟩ := w
  refine eb_getR (pc := 26) rfl ka0 (by decide) (by decide) rfl q2 ?_
  refine eb_iconst (pc := 29) (n := 0) (v := 0) rfl rfl ?_
  refine eb_ctS (pc := 30) (As := [.ref r1, .int 0]) (rest := []) rfl (by decide) (by decide) rfl rfl (Nat.le_of_ble_eq_true rfl) ?_
  refine eb_Ct.mono w ?_
  rintro r h4 ⟨rfl, ko6, w⟩
  change eb_Sn _ _ _ 33 _ [] _ _
  exact eb_return (pc := 33) rfl rfl w
theorem T_X6_clearAll {d : Nat} {h : eb_H} {Q : Option Value → eb_H → Prop} (a0 : Nat) (ka0 : eb_kd a0 = 6) (ko : eb_KO h) (w : ∃ r1, eb_R (eb_sI (eb_sI (eb_sI (eb_sI (eb_sI h a0 0 0) a0 1 0) a0 2 0) a0 3 0) a0 4 0) a0 5 = some r1 ∧ eb_kd r1 = 13 ∧ eb_Ct d 301 [.ref r1, .int 0] (eb_sI (eb_sI (eb_sI (eb_sI (eb_sI h a0 0 0) a0 1 0) a0 2 0) a0 3 0) a0 4 0) (fun r h4 => r = none ∧ eb_KO h4 ∧ Q none h4)) : eb_Ct (d + 1) 61 [.ref a0] h Q :=
  eb_bodyQ (by decide) ok_X6_clearAll (Nat.le_of_ble_eq_true rfl) (b_X6_clearAll_0 (h0 := h) a0 ka0 ko w)
theorem b_X6_thingIn_0 {d : Nat} {h0 h : eb_H} {Q : Option Value → eb_H → Prop} (a0 : Nat) (x1 : Int32) (ka0 : eb_kd a0 = 6) (ko : eb_KO h) (w : ((x1 < 0 → Q (some (.int 0)) h) ∧ (¬ (x1 < 0) → ∃ r2, eb_R h a0 5 = some r2 ∧ eb_kd r2 = 13 ∧ (((Int32.ofNat (eb_ln r2)) ≤ x1 → Q (some (.int 0)) h) ∧ (¬ ((Int32.ofNat (eb_ln r2)) ≤ x1) → (vp_in x1 (eb_ln r2)) ∧ Q (some (.int (eb_I h r2 x1.toNatClampNeg))) h))))) : eb_Sn d m_X6_thingIn h0 0 [(0, .ref a0), (1, .int x1)] [] h Q := by
  refine eb_iload_n (pc := 0) (n := 1) (i := 1) rfl rfl rfl ?_
  refine eb_if_lt (pc := 1) (tgt := 22) rfl (by decide) (fun c1 => ?_) (fun c1 => ?_)
  · replace w := w.1 c1
    refine eb_iconst (pc := 22) (n := 0) (v := 0) rfl rfl ?_
    exact eb_ireturn (pc := 23) rfl rfl rfl w
  · replace w := w.2 c1
    refine eb_iload_n (pc := 4) (n := 1) (i := 1) rfl rfl rfl ?_
    refine eb_aload_n (pc := 5) (n := 0) (i := 0) rfl rfl rfl ?_
    obtain ⟨r2, q3, k4, w⟩ := w
    refine eb_getR (pc := 6) rfl ka0 (by decide) (by decide) rfl q3 ?_
    refine eb_alen (pc := 9) rfl (by rw [k4]; decide) (by rw [k4]; decide) rfl ?_
    refine eb_icmp_ge (pc := 10) (tgt := 22) rfl (by decide) (fun c5 => ?_) (fun c5 => ?_)
    · replace w := w.1 c5
      refine eb_iconst (pc := 22) (n := 0) (v := 0) rfl rfl ?_
      exact eb_ireturn (pc := 23) rfl rfl rfl w
    · replace w := w.2 c5
      refine eb_aload_n (pc := 13) (n := 0) (i := 0) rfl rfl rfl ?_
      refine eb_getR (pc := 14) rfl ka0 (by decide) (by decide) rfl q3 ?_
      refine eb_iload_n (pc := 17) (n := 1) (i := 1) rfl rfl rfl ?_
      obtain ⟨c6, w⟩ := w
      refine eb_iaload (pc := 18) rfl k4 c6 ?_
      refine eb_goto (pc := 19) (tgt := 23) rfl (by decide) ?_
      exact eb_ireturn (pc := 23) rfl rfl rfl w
theorem T_X6_thingIn {d : Nat} {h : eb_H} {Q : Option Value → eb_H → Prop} (a0 : Nat) (x1 : Int32) (ka0 : eb_kd a0 = 6) (ko : eb_KO h) (w : ((x1 < 0 → Q (some (.int 0)) h) ∧ (¬ (x1 < 0) → ∃ r2, eb_R h a0 5 = some r2 ∧ eb_kd r2 = 13 ∧ (((Int32.ofNat (eb_ln r2)) ≤ x1 → Q (some (.int 0)) h) ∧ (¬ ((Int32.ofNat (eb_ln r2)) ≤ x1) → (vp_in x1 (eb_ln r2)) ∧ Q (some (.int (eb_I h r2 x1.toNatClampNeg))) h))))) : eb_Ct d 62 [.ref a0, .int x1] h Q :=
  eb_bodyQ (by decide) ok_X6_thingIn (Nat.le_of_ble_eq_true rfl) (b_X6_thingIn_0 (h0 := h) a0 x1 ka0 ko w)
theorem b_X6_putThing_0 {d : Nat} {h0 h : eb_H} {Q : Option Value → eb_H → Prop} (a0 : Nat) (x1 : Int32) (x2 : Int32) (ka0 : eb_kd a0 = 6) (ko : eb_KO h) (w : ((x1 < 0 → Q none h) ∧ (¬ (x1 < 0) → ∃ r2, eb_R h a0 5 = some r2 ∧ eb_kd r2 = 13 ∧ (((Int32.ofNat (eb_ln r2)) ≤ x1 → Q none h) ∧ (¬ ((Int32.ofNat (eb_ln r2)) ≤ x1) → (vp_in x1 (eb_ln r2)) ∧ Q none (eb_sI h r2 x1.toNatClampNeg x2)))))) : eb_Sn d m_X6_putThing h0 0 [(0, .ref a0), (1, .int x1), (2, .int x2)] [] h Q := by
  refine eb_iload_n (pc := 0) (n := 1) (i := 1) rfl rfl rfl ?_
  refine eb_if_lt (pc := 1) (tgt := 20) rfl (by decide) (fun c1 => ?_) (fun c1 => ?_)
  · replace w := w.1 c1
    exact eb_return (pc := 20) rfl rfl w
  · replace w := w.2 c1
    refine eb_iload_n (pc := 4) (n := 1) (i := 1) rfl rfl rfl ?_
    refine eb_aload_n (pc := 5) (n := 0) (i := 0) rfl rfl rfl ?_
    obtain ⟨r2, q3, k4, w⟩ := w
    refine eb_getR (pc := 6) rfl ka0 (by decide) (by decide) rfl q3 ?_
    refine eb_alen (pc := 9) rfl (by rw [k4]; decide) (by rw [k4]; decide) rfl ?_
    refine eb_icmp_ge (pc := 10) (tgt := 20) rfl (by decide) (fun c5 => ?_) (fun c5 => ?_)
    · replace w := w.1 c5
      exact eb_return (pc := 20) rfl rfl w
    · replace w := w.2 c5
      refine eb_aload_n (pc := 13) (n := 0) (i := 0) rfl rfl rfl ?_
      refine eb_getR (pc := 14) rfl ka0 (by decide) (by decide) rfl q3 ?_
      refine eb_iload_n (pc := 17) (n := 1) (i := 1) rfl rfl rfl ?_
      refine eb_iload_n (pc := 18) (n := 2) (i := 2) rfl rfl rfl ?_
      obtain ⟨c6, w⟩ := w
      refine eb_iastore (pc := 19) rfl k4 c6 ?_
      exact eb_return (pc := 20) rfl rfl w
theorem T_X6_putThing {d : Nat} {h : eb_H} {Q : Option Value → eb_H → Prop} (a0 : Nat) (x1 : Int32) (x2 : Int32) (ka0 : eb_kd a0 = 6) (ko : eb_KO h) (w : ((x1 < 0 → Q none h) ∧ (¬ (x1 < 0) → ∃ r2, eb_R h a0 5 = some r2 ∧ eb_kd r2 = 13 ∧ (((Int32.ofNat (eb_ln r2)) ≤ x1 → Q none h) ∧ (¬ ((Int32.ofNat (eb_ln r2)) ≤ x1) → (vp_in x1 (eb_ln r2)) ∧ Q none (eb_sI h r2 x1.toNatClampNeg x2)))))) : eb_Ct d 63 [.ref a0, .int x1, .int x2] h Q :=
  eb_bodyQ (by decide) ok_X6_putThing (Nat.le_of_ble_eq_true rfl) (b_X6_putThing_0 (h0 := h) a0 x1 x2 ka0 ko w)
theorem b_X6_hasDrift_0 {d : Nat} {h0 h : eb_H} {Q : Option Value → eb_H → Prop} (a0 : Nat) (x1 : Int32) (ka0 : eb_kd a0 = 6) (ko : eb_KO h) (w : Q (some (.int (if (((eb_I h a0 3) >>> (x1 &&& 31)) &&& 1) = (1 : Int32) then 1 else 0 : Int32))) h) : eb_Sn d m_X6_hasDrift h0 0 [(0, .ref a0), (1, .int x1)] [] h Q := by
  refine eb_aload_n (pc := 0) (n := 0) (i := 0) rfl rfl rfl ?_
  refine eb_getI (pc := 1) rfl ka0 (by decide) (by decide) rfl ?_
  refine eb_iload_n (pc := 4) (n := 1) (i := 1) rfl rfl rfl ?_
  refine eb_ishr (pc := 5) rfl ?_
  refine eb_iconst (pc := 6) (n := 1) (v := 1) rfl rfl ?_
  refine eb_iand (pc := 7) rfl ?_
  refine eb_iconst (pc := 8) (n := 1) (v := 1) rfl rfl ?_
  have jj2 : eb_Sn d m_X6_hasDrift h0 17 [(0, .ref a0), (1, .int x1)] [.int (if (((eb_I h a0 3) >>> (x1 &&& 31)) &&& 1) = (1 : Int32) then 1 else 0 : Int32)] h Q := by
    exact eb_ireturn (pc := 17) rfl rfl (by (repeat' split) <;> rfl) w
  refine eb_icmp_ne (pc := 9) (tgt := 16) rfl (by decide) (fun c1 => ?_) (fun c1 => ?_)
  · refine eb_iconst (pc := 16) (n := 0) (v := 0) rfl rfl ?_
    simp only [if_neg c1] at jj2 ⊢
    exact jj2
  · refine eb_iconst (pc := 12) (n := 1) (v := 1) rfl rfl ?_
    refine eb_goto (pc := 13) (tgt := 17) rfl (by decide) ?_
    simp only [if_pos c1] at jj2 ⊢
    exact jj2
theorem T_X6_hasDrift {d : Nat} {h : eb_H} {Q : Option Value → eb_H → Prop} (a0 : Nat) (x1 : Int32) (ka0 : eb_kd a0 = 6) (ko : eb_KO h) (w : Q (some (.int (if (((eb_I h a0 3) >>> (x1 &&& 31)) &&& 1) = (1 : Int32) then 1 else 0 : Int32))) h) : eb_Ct d 64 [.ref a0, .int x1] h Q :=
  eb_bodyQ (by decide) ok_X6_hasDrift (Nat.le_of_ble_eq_true rfl) (b_X6_hasDrift_0 (h0 := h) a0 x1 ka0 ko w)
theorem b_X7_init_0 {d : Nat} {h0 h : eb_H} {Q : Option Value → eb_H → Prop} (a0 : Nat) (ka0 : eb_kd a0 = 7) (w : ∀ r3, r3 = eb_nx h 12 900 → ∀ h1, h1 = eb_nw h 12 900 900 → ∀ h5, h5 = eb_sR h1 a0 0 (some r3) → ∀ h7, h7 = eb_sI h5 a0 1 0 → ∀ h9, h9 = eb_sI h7 a0 2 0 → ∀ h11, h11 = eb_sI h9 a0 3 0 → ∀ h13, h13 = eb_sI h11 a0 4 0 → ∀ h15, h15 = eb_sI h13 a0 5 0 → ∀ h17, h17 = eb_sI h15 a0 6 0 → ∀ h19, h19 = eb_sI h17 a0 7 0 → ∀ h21, h21 = eb_sI h19 a0 8 (-1) → Q none h21) : eb_Sn (d + 1) m_X7_init h0 0 [(0, .ref a0)] [] h Q := by
  refine eb_aload_n (pc := 0) (n := 0) (i := 0) rfl rfl rfl ?_
  refine eb_objInit (pc := 1) rfl (by decide +kernel) (by omega) (Nat.le_of_ble_eq_true rfl) ?_
  refine eb_aload_n (pc := 4) (n := 0) (i := 0) rfl rfl rfl ?_
  refine eb_sipush (pc := 5) (n := 900) (v := 900) rfl rfl ?_
  refine eb_newI (pc := 8) (kd := 12) (len := 900) rfl rfl (by decide) (by decide) rfl (by decide) ?_
  obtain ⟨r3, e4⟩ : ∃ z, z = eb_nx h 12 900 := ⟨_, rfl⟩
  rw [← e4]
  replace w := w r3 e4
  obtain ⟨h1, e2⟩ : ∃ z, z = eb_nw h 12 900 900 := ⟨_, rfl⟩
  rw [← e2]
  replace w := w h1 e2
  refine eb_putR (pc := 10) rfl ka0 (by decide) (by decide) rfl (Or.inr ⟨rfl, rfl, rfl⟩) (eb_k20 (c := 12) (by rw [e4]; exact eb_mk_kd (by decide)) (by decide)) ?_
  obtain ⟨h5, e6⟩ : ∃ z, z = eb_sR h1 a0 0 (some r3) := ⟨_, rfl⟩
  rw [← e6]
  replace w := w h5 e6
  refine eb_aload_n (pc := 13) (n := 0) (i := 0) rfl rfl rfl ?_
  refine eb_iconst (pc := 14) (n := 0) (v := 0) rfl rfl ?_
  refine eb_putI (pc := 15) rfl ka0 (by decide) (by decide) rfl rfl ⟨rfl, rfl⟩ ?_
  obtain ⟨h7, e8⟩ : ∃ z, z = eb_sI h5 a0 1 0 := ⟨_, rfl⟩
  rw [← e8]
  replace w := w h7 e8
  refine eb_aload_n (pc := 18) (n := 0) (i := 0) rfl rfl rfl ?_
  refine eb_iconst (pc := 19) (n := 0) (v := 0) rfl rfl ?_
  refine eb_putI (pc := 20) rfl ka0 (by decide) (by decide) rfl rfl ⟨rfl, rfl⟩ ?_
  obtain ⟨h9, e10⟩ : ∃ z, z = eb_sI h7 a0 2 0 := ⟨_, rfl⟩
  rw [← e10]
  replace w := w h9 e10
  refine eb_aload_n (pc := 23) (n := 0) (i := 0) rfl rfl rfl ?_
  refine eb_iconst (pc := 24) (n := 0) (v := 0) rfl rfl ?_
  refine eb_putI (pc := 25) rfl ka0 (by decide) (by decide) rfl rfl ⟨rfl, rfl⟩ ?_
  obtain ⟨h11, e12⟩ : ∃ z, z = eb_sI h9 a0 3 0 := ⟨_, rfl⟩
  rw [← e12]
  replace w := w h11 e12
  refine eb_aload_n (pc := 28) (n := 0) (i := 0) rfl rfl rfl ?_
  refine eb_iconst (pc := 29) (n := 0) (v := 0) rfl rfl ?_
  refine eb_putI (pc := 30) rfl ka0 (by decide) (by decide) rfl rfl ⟨rfl, rfl⟩ ?_
  obtain ⟨h13, e14⟩ : ∃ z, z = eb_sI h11 a0 4 0 := ⟨_, rfl⟩
  rw [← e14]
  replace w := w h13 e14
  refine eb_aload_n (pc := 33) (n := 0) (i := 0) rfl rfl rfl ?_
  refine eb_iconst (pc := 34) (n := 0) (v := 0) rfl rfl ?_
  refine eb_putI (pc := 35) rfl ka0 (by decide) (by decide) rfl rfl ⟨rfl, rfl⟩ ?_
  obtain ⟨h15, e16⟩ : ∃ z, z = eb_sI h13 a0 5 0 := ⟨_, rfl⟩
  rw [← e16]
  replace w := w h15 e16
  refine eb_aload_n (pc := 38) (n := 0) (i := 0) rfl rfl rfl ?_
  refine eb_iconst (pc := 39) (n := 0) (v := 0) rfl rfl ?_
  refine eb_putI (pc := 40) rfl ka0 (by decide) (by decide) rfl rfl ⟨rfl, rfl⟩ ?_
  obtain ⟨h17, e18⟩ : ∃ z, z = eb_sI h15 a0 6 0 := ⟨_, rfl⟩
  rw [← e18]
  replace w := w h17 e18
  refine eb_aload_n (pc := 43) (n := 0) (i := 0) rfl rfl rfl ?_
  refine eb_iconst (pc := 44) (n := 0) (v := 0) rfl rfl ?_
  refine eb_putI (pc := 45) rfl ka0 (by decide) (by decide) rfl rfl ⟨rfl, rfl⟩ ?_
  obtain ⟨h19, e20⟩ : ∃ z, z = eb_sI h17 a0 7 0 := ⟨_, rfl⟩
  rw [← e20]
  replace w := w h19 e20
  refine eb_aload_n (pc := 48) (n := 0) (i := 0) rfl rfl rfl ?_
  refine eb_iconst (pc := 49) (n := -1) (v := (-1)) rfl rfl ?_
  refine eb_putI (pc := 50) rfl ka0 (by decide) (by decide) rfl rfl ⟨rfl, rfl⟩ ?_
  obtain ⟨h21, e22⟩ : ∃ z, z = eb_sI h19 a0 8 (-1) := ⟨_, rfl⟩
  rw [← e22]
  replace w := w h21 e22
  exact eb_return (pc := 53) rfl rfl w
theorem T_X7_init {d : Nat} {h : eb_H} {Q : Option Value → eb_H → Prop} (a0 : Nat) (ka0 : eb_kd a0 = 7) (w : ∀ r3, r3 = eb_nx h 12 900 → ∀ h1, h1 = eb_nw h 12 900 900 → ∀ h5, h5 = eb_sR h1 a0 0 (some r3) → ∀ h7, h7 = eb_sI h5 a0 1 0 → ∀ h9, h9 = eb_sI h7 a0 2 0 → ∀ h11, h11 = eb_sI h9 a0 3 0 → ∀ h13, h13 = eb_sI h11 a0 4 0 → ∀ h15, h15 = eb_sI h13 a0 5 0 → ∀ h17, h17 = eb_sI h15 a0 6 0 → ∀ h19, h19 = eb_sI h17 a0 7 0 → ∀ h21, h21 = eb_sI h19 a0 8 (-1) → Q none h21) : eb_Ct (d + 1) 65 [.ref a0] h Q :=
  eb_bodyQ (by decide) ok_X7_init (Nat.le_of_ble_eq_true rfl) (b_X7_init_0 (h0 := h) a0 ka0 w)
theorem b_X7_add_0 {d : Nat} {h0 h : eb_H} {Q : Option Value → eb_H → Prop} (x1 : Int32)  (ko : eb_KO h) (w : eb_Sn d m_X7_add h0 3 [(0, .ref s_tape), (1, .int x1), (2, .int 24)] [] h Q) : eb_Sn d m_X7_add h0 0 [(0, .ref s_tape), (1, .int x1)] [] h Q := by
  refine eb_bipush (pc := 0) (n := 24) (v := 24) rfl rfl ?_
  refine eb_istore_n (pc := 2) (n := 2) (i := 2) (ls2 := [(2, .int 24), (0, .ref s_tape), (1, .int x1)]) rfl (Nat.le_of_ble_eq_true rfl) rfl rfl ?_
  exact eb_pick [1, 2, 0] rfl w
theorem b_X7_add_3 {d : Nat} {h0 h : eb_H} {Q : Option Value → eb_H → Prop} (x1 : Int32) (x2 : Int32)  (ko : eb_KO h) (w : ((x2 < 0 → Q none h) ∧ (¬ (x2 < 0) → (((eb_I h s_tape 1) < 0 → Q none h) ∧ (¬ ((eb_I h s_tape 1) < 0) → (((900 : Int32) ≤ (eb_I h s_tape 1) → Q none h) ∧ (¬ ((900 : Int32) ≤ (eb_I h s_tape 1)) → (vp_in (eb_I h s_tape 1) 900) ∧ eb_Sn d m_X7_add h0 3 [(0, .ref s_tape), (1, .int x1), (2, .int (x2 + (-8)))] [] (eb_sI (eb_sI h s_tape_text (eb_I h s_tape 1).toNatClampNeg (((x1.toUInt32 >>> (x2.toUInt32 &&& Int32.toUInt32 31)).toInt32).toInt8.toInt32).toInt8.toInt32) s_tape 1 ((eb_I (eb_sI h s_tape_text (eb_I h s_tape 1).toNatClampNeg (((x1.toUInt32 >>> (x2.toUInt32 &&& Int32.toUInt32 31)).toInt32).toInt8.toInt32).toInt8.toInt32) s_tape 1) + 1)) Q))))))) : eb_Sn d m_X7_add h0 3 [(0, .ref s_tape), (1, .int x1), (2, .int x2)] [] h Q := by
  refine eb_iload_n (pc := 3) (n := 2) (i := 2) rfl rfl rfl ?_
  refine eb_if_lt (pc := 4) (tgt := 53) rfl (by decide) (fun c1 => ?_) (fun c1 => ?_)
  · replace w := w.1 c1
    exact eb_return (pc := 53) rfl rfl w
  · replace w := w.2 c1
    refine eb_aload_n (pc := 7) (n := 0) (i := 0) rfl rfl rfl ?_
    refine eb_getI (pc := 8) rfl rfl (by decide) (by decide) rfl ?_
    refine eb_if_lt (pc := 11) (tgt := 53) rfl (by decide) (fun c2 => ?_) (fun c2 => ?_)
    · replace w := w.1 c2
      exact eb_return (pc := 53) rfl rfl w
    · replace w := w.2 c2
      refine eb_aload_n (pc := 14) (n := 0) (i := 0) rfl rfl rfl ?_
      refine eb_getI (pc := 15) rfl rfl (by decide) (by decide) rfl ?_
      refine eb_sipush (pc := 18) (n := 900) (v := 900) rfl rfl ?_
      refine eb_icmp_ge (pc := 21) (tgt := 53) rfl (by decide) (fun c3 => ?_) (fun c3 => ?_)
      · replace w := w.1 c3
        exact eb_return (pc := 53) rfl rfl w
      · replace w := w.2 c3
        refine eb_aload_n (pc := 24) (n := 0) (i := 0) rfl rfl rfl ?_
        refine eb_getR (pc := 25) rfl rfl (by decide) (by decide) rfl (ko_s_tape_0 ko) ?_
        refine eb_aload_n (pc := 28) (n := 0) (i := 0) rfl rfl rfl ?_
        refine eb_getI (pc := 29) rfl rfl (by decide) (by decide) rfl ?_
        refine eb_iload_n (pc := 32) (n := 1) (i := 1) rfl rfl rfl ?_
        refine eb_iload_n (pc := 33) (n := 2) (i := 2) rfl rfl rfl ?_
        refine eb_iushr (pc := 34) rfl ?_
        refine eb_i2b (pc := 35) rfl ?_
        obtain ⟨c4, w⟩ := w
        refine eb_bastore (pc := 36) rfl rfl c4 ?_
        refine eb_aload_n (pc := 37) (n := 0) (i := 0) rfl rfl rfl ?_
        refine eb_dupr (pc := 38) rfl ?_
        refine eb_getI (pc := 39) rfl rfl (by decide) (by decide) rfl ?_
        refine eb_iconst (pc := 42) (n := 1) (v := 1) rfl rfl ?_
        refine eb_iadd (pc := 43) rfl ?_
        refine eb_putI (pc := 44) rfl rfl (by decide) (by decide) rfl rfl ⟨rfl, rfl⟩ ?_
        refine eb_iinc (pc := 47) (i := 2) (n := -8) (v := x2 + (-8)) (ls2 := [(2, .int (x2 + (-8))), (0, .ref s_tape), (1, .int x1)]) (Nat.le_of_ble_eq_true rfl) rfl rfl rfl rfl ?_
        refine eb_goto (pc := 50) (tgt := 3) rfl (by decide) ?_
        exact eb_pick [1, 2, 0] rfl w
theorem T_X7_add {d : Nat} {h : eb_H} {Q : Option Value → eb_H → Prop} (x1 : Int32)  (ko : eb_KO h) (w : eb_Sn d m_X7_add h 3 [(0, .ref s_tape), (1, .int x1), (2, .int 24)] [] h Q) : eb_Ct d 66 [.ref s_tape, .int x1] h Q :=
  eb_bodyQ (by decide) ok_X7_add (Nat.le_of_ble_eq_true rfl) (b_X7_add_0 (h0 := h) x1  ko w)
theorem b_X7_open_0 {d : Nat} {h0 h : eb_H} {Q : Option Value → eb_H → Prop} (x1 : Int32)  (ko : eb_KO h) (w : eb_Ct d 287 [.int x1, .int 900] h (fun r h1 => ∃ y2, r = some (.int y2) ∧ eb_KO h1 ∧ eb_Ct d 69 [.ref s_tape] (eb_sI (eb_sI (eb_sI (eb_sI h1 s_tape 2 y2) s_tape 4 0) s_tape 7 0) s_tape 8 (-1)) (fun r h4 => r = none ∧ eb_KO h4 ∧ Q none h4))) : eb_Sn (d + 1) m_X7_open h0 0 [(0, .ref s_tape), (1, .int x1)] [] h Q := by
  refine eb_aload_n (pc := 0) (n := 0) (i := 0) rfl rfl rfl ?_
  refine eb_iload_n (pc := 1) (n := 1) (i := 1) rfl rfl rfl ?_
  refine eb_sipush (pc := 2) (n := 900) (v := 900) rfl rfl ?_
  refine eb_ctS (pc := 5) (As := [.int x1, .int 900]) (rest := [.ref s_tape]) rfl (by decide) (by decide) rfl rfl (Nat.le_of_ble_eq_true rfl) ?_
  refine eb_Ct.mono w ?_
  rintro r h1 ⟨y2, rfl, ko3, w⟩
  change eb_Sn _ _ _ 8 _ [.int y2, .ref s_tape] _ _
  refine eb_putI (pc := 8) rfl rfl (by decide) (by decide) rfl rfl ⟨rfl, rfl⟩ ?_
  refine eb_aload_n (pc := 11) (n := 0) (i := 0) rfl rfl rfl ?_
  refine eb_iconst (pc := 12) (n := 0) (v := 0) rfl rfl ?_
  refine eb_putI (pc := 13) rfl rfl (by decide) (by decide) rfl rfl ⟨rfl, rfl⟩ ?_
  refine eb_aload_n (pc := 16) (n := 0) (i := 0) rfl rfl rfl ?_
  refine eb_iconst (pc := 17) (n := 0) (v := 0) rfl rfl ?_
  refine eb_putI (pc := 18) rfl rfl (by decide) (by decide) rfl rfl ⟨rfl, rfl⟩ ?_
  refine eb_aload_n (pc := 21) (n := 0) (i := 0) rfl rfl rfl ?_
  refine eb_iconst (pc := 22) (n := -1) (v := (-1)) rfl rfl ?_
  refine eb_putI (pc := 23) rfl rfl (by decide) (by decide) rfl rfl ⟨rfl, rfl⟩ ?_
  refine eb_aload_n (pc := 26) (n := 0) (i := 0) rfl rfl rfl ?_
  refine eb_ctV (pc := 27) (As := []) (rest := []) rfl (by decide) rfl rfl (by decide) rfl (Nat.le_of_ble_eq_true rfl) ?_
  refine eb_Ct.mono w ?_
  rintro r h4 ⟨rfl, ko6, w⟩
  change eb_Sn _ _ _ 30 _ [] _ _
  exact eb_return (pc := 30) rfl rfl w
theorem T_X7_open {d : Nat} {h : eb_H} {Q : Option Value → eb_H → Prop} (x1 : Int32)  (ko : eb_KO h) (w : eb_Ct d 287 [.int x1, .int 900] h (fun r h1 => ∃ y2, r = some (.int y2) ∧ eb_KO h1 ∧ eb_Ct d 69 [.ref s_tape] (eb_sI (eb_sI (eb_sI (eb_sI h1 s_tape 2 y2) s_tape 4 0) s_tape 7 0) s_tape 8 (-1)) (fun r h4 => r = none ∧ eb_KO h4 ∧ Q none h4))) : eb_Ct (d + 1) 67 [.ref s_tape, .int x1] h Q :=
  eb_bodyQ (by decide) ok_X7_open (Nat.le_of_ble_eq_true rfl) (b_X7_open_0 (h0 := h) x1  ko w)
theorem b_X7_fail_0 {d : Nat} {h0 h : eb_H} {Q : Option Value → eb_H → Prop} (x1 : Int32)  (ko : eb_KO h) (w : (((eb_I h s_tape 7) = 0 → Q none (eb_sI (eb_sI h s_tape 7 x1) s_tape 8 (eb_I (eb_sI h s_tape 7 x1) s_tape 3))) ∧ (¬ ((eb_I h s_tape 7) = 0) → Q none h))) : eb_Sn d m_X7_fail h0 0 [(0, .ref s_tape), (1, .int x1)] [] h Q := by
  refine eb_aload_n (pc := 0) (n := 0) (i := 0) rfl rfl rfl ?_
  refine eb_getI (pc := 1) rfl rfl (by decide) (by decide) rfl ?_
  refine eb_if_eq (pc := 4) (tgt := 8) rfl (by decide) (fun c1 => ?_) (fun c1 => ?_)
  · replace w := w.1 c1
    refine eb_aload_n (pc := 8) (n := 0) (i := 0) rfl rfl rfl ?_
    refine eb_iload_n (pc := 9) (n := 1) (i := 1) rfl rfl rfl ?_
    refine eb_putI (pc := 10) rfl rfl (by decide) (by decide) rfl rfl ⟨rfl, rfl⟩ ?_
    refine eb_aload_n (pc := 13) (n := 0) (i := 0) rfl rfl rfl ?_
    refine eb_aload_n (pc := 14) (n := 0) (i := 0) rfl rfl rfl ?_
    refine eb_getI (pc := 15) rfl rfl (by decide) (by decide) rfl ?_
    refine eb_putI (pc := 18) rfl rfl (by decide) (by decide) rfl rfl ⟨rfl, rfl⟩ ?_
    exact eb_return (pc := 21) rfl rfl w
  · replace w := w.2 c1
    exact eb_return (pc := 7) rfl rfl w
theorem T_X7_fail {d : Nat} {h : eb_H} {Q : Option Value → eb_H → Prop} (x1 : Int32)  (ko : eb_KO h) (w : (((eb_I h s_tape 7) = 0 → Q none (eb_sI (eb_sI h s_tape 7 x1) s_tape 8 (eb_I (eb_sI h s_tape 7 x1) s_tape 3))) ∧ (¬ ((eb_I h s_tape 7) = 0) → Q none h))) : eb_Ct d 68 [.ref s_tape, .int x1] h Q :=
  eb_bodyQ (by decide) ok_X7_fail (Nat.le_of_ble_eq_true rfl) (b_X7_fail_0 (h0 := h) x1  ko w)
theorem b_X7_advance_0 {d : Nat} {h0 h : eb_H} {Q : Option Value → eb_H → Prop}   (ko : eb_KO h) (w : (((eb_I h s_tape 7) = 0 → eb_Sn (d + 1) m_X7_advance h0 16 [(0, .ref s_tape)] [] (eb_sI h s_tape 3 (eb_I h s_tape 4)) Q) ∧ (¬ ((eb_I h s_tape 7) = 0) → Q none h))) : eb_Sn (d + 1) m_X7_advance h0 0 [(0, .ref s_tape)] [] h Q := by
  refine eb_aload_n (pc := 0) (n := 0) (i := 0) rfl rfl rfl ?_
  refine eb_getI (pc := 1) rfl rfl (by decide) (by decide) rfl ?_
  refine eb_if_eq (pc := 4) (tgt := 8) rfl (by decide) (fun c1 => ?_) (fun c1 => ?_)
  · replace w := w.1 c1
    refine eb_aload_n (pc := 8) (n := 0) (i := 0) rfl rfl rfl ?_
    refine eb_aload_n (pc := 9) (n := 0) (i := 0) rfl rfl rfl ?_
    refine eb_getI (pc := 10) rfl rfl (by decide) (by decide) rfl ?_
    refine eb_putI (pc := 13) rfl rfl (by decide) (by decide) rfl rfl ⟨rfl, rfl⟩ ?_
    exact eb_pick [0] rfl w
  · replace w := w.2 c1
    exact eb_return (pc := 7) rfl rfl w
theorem b_X7_advance_16 {d : Nat} {h0 h : eb_H} {Q : Option Value → eb_H → Prop}   (ko : eb_KO h) (w : (((eb_I h s_tape 2) ≤ (eb_I h s_tape 3) → eb_Ct d 70 [.ref s_tape, .int (eb_I h s_tape 3)] h (fun r h2 => ∃ y3, r = some (.int y3) ∧ eb_KO h2 ∧ (((eb_I (eb_sI (eb_sI h2 s_tape 5 y3) s_tape 4 (if (eb_I (eb_sI h2 s_tape 5 y3) s_tape 5) = 0 then eb_I (eb_sI h2 s_tape 5 y3) s_tape 3 else (eb_I (eb_sI h2 s_tape 5 y3) s_tape 3) + 1 : Int32)) s_tape 5) = (1 : Int32) → eb_Sn (d + 1) m_X7_advance h0 104 [(0, .ref s_tape)] [] (eb_sI (eb_sI h2 s_tape 5 y3) s_tape 4 (if (eb_I (eb_sI h2 s_tape 5 y3) s_tape 5) = 0 then eb_I (eb_sI h2 s_tape 5 y3) s_tape 3 else (eb_I (eb_sI h2 s_tape 5 y3) s_tape 3) + 1 : Int32)) Q) ∧ (¬ ((eb_I (eb_sI (eb_sI h2 s_tape 5 y3) s_tape 4 (if (eb_I (eb_sI h2 s_tape 5 y3) s_tape 5) = 0 then eb_I (eb_sI h2 s_tape 5 y3) s_tape 3 else (eb_I (eb_sI h2 s_tape 5 y3) s_tape 3) + 1 : Int32)) s_tape 5) = (1 : Int32)) → ((¬ (eb_I (eb_sI (eb_sI h2 s_tape 5 y3) s_tape 4 (if (eb_I (eb_sI h2 s_tape 5 y3) s_tape 5) = 0 then eb_I (eb_sI h2 s_tape 5 y3) s_tape 3 else (eb_I (eb_sI h2 s_tape 5 y3) s_tape 3) + 1 : Int32)) s_tape 5) = (2 : Int32) → ((¬ (eb_I (eb_sI (eb_sI h2 s_tape 5 y3) s_tape 4 (if (eb_I (eb_sI h2 s_tape 5 y3) s_tape 5) = 0 then eb_I (eb_sI h2 s_tape 5 y3) s_tape 3 else (eb_I (eb_sI h2 s_tape 5 y3) s_tape 3) + 1 : Int32)) s_tape 5) = (2 : Int32) → (((eb_I (eb_sI (eb_sI h2 s_tape 5 y3) s_tape 4 (if (eb_I (eb_sI h2 s_tape 5 y3) s_tape 5) = 0 then eb_I (eb_sI h2 s_tape 5 y3) s_tape 3 else (eb_I (eb_sI h2 s_tape 5 y3) s_tape 3) + 1 : Int32)) s_tape 5) = (5 : Int32) → eb_Ct d 68 [.ref s_tape, .int 1] (eb_sI (eb_sI h2 s_tape 5 y3) s_tape 4 (if (eb_I (eb_sI h2 s_tape 5 y3) s_tape 5) = 0 then eb_I (eb_sI h2 s_tape 5 y3) s_tape 3 else (eb_I (eb_sI h2 s_tape 5 y3) s_tape 3) + 1 : Int32)) (fun r h10 => r = none ∧ eb_KO h10 ∧ Q none h10)) ∧ (¬ ((eb_I (eb_sI (eb_sI h2 s_tape 5 y3) s_tape 4 (if (eb_I (eb_sI h2 s_tape 5 y3) s_tape 5) = 0 then eb_I (eb_sI h2 s_tape 5 y3) s_tape 3 else (eb_I (eb_sI h2 s_tape 5 y3) s_tape 3) + 1 : Int32)) s_tape 5) = (5 : Int32)) → ((¬ (eb_I (eb_sI (eb_sI h2 s_tape 5 y3) s_tape 4 (if (eb_I (eb_sI h2 s_tape 5 y3) s_tape 5) = 0 then eb_I (eb_sI h2 s_tape 5 y3) s_tape 3 else (eb_I (eb_sI h2 s_tape 5 y3) s_tape 3) + 1 : Int32)) s_tape 5) = (2 : Int32) → Q none (eb_sI (eb_sI h2 s_tape 5 y3) s_tape 4 (if (eb_I (eb_sI h2 s_tape 5 y3) s_tape 5) = 0 then eb_I (eb_sI h2 s_tape 5 y3) s_tape 3 else (eb_I (eb_sI h2 s_tape 5 y3) s_tape 3) + 1 : Int32))) ∧ ((eb_I (eb_sI (eb_sI h2 s_tape 5 y3) s_tape 4 (if (eb_I (eb_sI h2 s_tape 5 y3) s_tape 5) = 0 then eb_I (eb_sI h2 s_tape 5 y3) s_tape 3 else (eb_I (eb_sI h2 s_tape 5 y3) s_tape 3) + 1 : Int32)) s_tape 5) = (2 : Int32) → ((((eb_I (eb_sI (eb_sI h2 s_tape 5 y3) s_tape 4 (if (eb_I (eb_sI h2 s_tape 5 y3) s_tape 5) = 0 then eb_I (eb_sI h2 s_tape 5 y3) s_tape 3 else (eb_I (eb_sI h2 s_tape 5 y3) s_tape 3) + 1 : Int32)) s_tape 4) - (eb_I (eb_sI (eb_sI h2 s_tape 5 y3) s_tape 4 (if (eb_I (eb_sI h2 s_tape 5 y3) s_tape 5) = 0 then eb_I (eb_sI h2 s_tape 5 y3) s_tape 3 else (eb_I (eb_sI h2 s_tape 5 y3) s_tape 3) + 1 : Int32)) s_tape 3)) ≤ (3 : Int32) → Q none (eb_sI (eb_sI h2 s_tape 5 y3) s_tape 4 (if (eb_I (eb_sI h2 s_tape 5 y3) s_tape 5) = 0 then eb_I (eb_sI h2 s_tape 5 y3) s_tape 3 else (eb_I (eb_sI h2 s_tape 5 y3) s_tape 3) + 1 : Int32))) ∧ (¬ (((eb_I (eb_sI (eb_sI h2 s_tape 5 y3) s_tape 4 (if (eb_I (eb_sI h2 s_tape 5 y3) s_tape 5) = 0 then eb_I (eb_sI h2 s_tape 5 y3) s_tape 3 else (eb_I (eb_sI h2 s_tape 5 y3) s_tape 3) + 1 : Int32)) s_tape 4) - (eb_I (eb_sI (eb_sI h2 s_tape 5 y3) s_tape 4 (if (eb_I (eb_sI h2 s_tape 5 y3) s_tape 5) = 0 then eb_I (eb_sI h2 s_tape 5 y3) s_tape 3 else (eb_I (eb_sI h2 s_tape 5 y3) s_tape 3) + 1 : Int32)) s_tape 3)) ≤ (3 : Int32)) → eb_Ct d 68 [.ref s_tape, .int 1] (eb_sI (eb_sI h2 s_tape 5 y3) s_tape 4 (if (eb_I (eb_sI h2 s_tape 5 y3) s_tape 5) = 0 then eb_I (eb_sI h2 s_tape 5 y3) s_tape 3 else (eb_I (eb_sI h2 s_tape 5 y3) s_tape 3) + 1 : Int32)) (fun r h15 => r = none ∧ eb_KO h15 ∧ Q none h15)))))))) ∧ ((eb_I (eb_sI (eb_sI h2 s_tape 5 y3) s_tape 4 (if (eb_I (eb_sI h2 s_tape 5 y3) s_tape 5) = 0 then eb_I (eb_sI h2 s_tape 5 y3) s_tape 3 else (eb_I (eb_sI h2 s_tape 5 y3) s_tape 3) + 1 : Int32)) s_tape 5) = (2 : Int32) → eb_Ct d 71 [.ref s_tape] (eb_sI (eb_sI h2 s_tape 5 y3) s_tape 4 (if (eb_I (eb_sI h2 s_tape 5 y3) s_tape 5) = 0 then eb_I (eb_sI h2 s_tape 5 y3) s_tape 3 else (eb_I (eb_sI h2 s_tape 5 y3) s_tape 3) + 1 : Int32)) (fun r h18 => ∃ y19, r = some (.int y19) ∧ eb_KO h18 ∧ (((eb_I (eb_sI h18 s_tape 6 y19) s_tape 5) = (5 : Int32) → eb_Ct d 68 [.ref s_tape, .int 1] (eb_sI h18 s_tape 6 y19) (fun r h22 => r = none ∧ eb_KO h22 ∧ Q none h22)) ∧ (¬ ((eb_I (eb_sI h18 s_tape 6 y19) s_tape 5) = (5 : Int32)) → ((¬ (eb_I (eb_sI h18 s_tape 6 y19) s_tape 5) = (2 : Int32) → Q none (eb_sI h18 s_tape 6 y19)) ∧ ((eb_I (eb_sI h18 s_tape 6 y19) s_tape 5) = (2 : Int32) → ((((eb_I (eb_sI h18 s_tape 6 y19) s_tape 4) - (eb_I (eb_sI h18 s_tape 6 y19) s_tape 3)) ≤ (3 : Int32) → Q none (eb_sI h18 s_tape 6 y19)) ∧ (¬ (((eb_I (eb_sI h18 s_tape 6 y19) s_tape 4) - (eb_I (eb_sI h18 s_tape 6 y19) s_tape 3)) ≤ (3 : Int32)) → eb_Ct d 68 [.ref s_tape, .int 1] (eb_sI h18 s_tape 6 y19) (fun r h27 => r = none ∧ eb_KO h27 ∧ Q none h27))))))))))) ∧ ((eb_I (eb_sI (eb_sI h2 s_tape 5 y3) s_tape 4 (if (eb_I (eb_sI h2 s_tape 5 y3) s_tape 5) = 0 then eb_I (eb_sI h2 s_tape 5 y3) s_tape 3 else (eb_I (eb_sI h2 s_tape 5 y3) s_tape 3) + 1 : Int32)) s_tape 5) = (2 : Int32) → eb_Sn (d + 1) m_X7_advance h0 104 [(0, .ref s_tape)] [] (eb_sI (eb_sI h2 s_tape 5 y3) s_tape 4 (if (eb_I (eb_sI h2 s_tape 5 y3) s_tape 5) = 0 then eb_I (eb_sI h2 s_tape 5 y3) s_tape 3 else (eb_I (eb_sI h2 s_tape 5 y3) s_tape 3) + 1 : Int32)) Q)))))) ∧ (¬ ((eb_I h s_tape 2) ≤ (eb_I h s_tape 3)) → eb_Ct d 70 [.ref s_tape, .int (eb_I h s_tape 3)] h (fun r h31 => ∃ y32, r = some (.int y32) ∧ eb_KO h31 ∧ ((¬ y32 = (4 : Int32) → eb_Ct d 70 [.ref s_tape, .int (eb_I h31 s_tape 3)] h31 (fun r h35 => ∃ y36, r = some (.int y36) ∧ eb_KO h35 ∧ (((eb_I (eb_sI (eb_sI h35 s_tape 5 y36) s_tape 4 (if (eb_I (eb_sI h35 s_tape 5 y36) s_tape 5) = 0 then eb_I (eb_sI h35 s_tape 5 y36) s_tape 3 else (eb_I (eb_sI h35 s_tape 5 y36) s_tape 3) + 1 : Int32)) s_tape 5) = (1 : Int32) → eb_Sn (d + 1) m_X7_advance h0 104 [(0, .ref s_tape)] [] (eb_sI (eb_sI h35 s_tape 5 y36) s_tape 4 (if (eb_I (eb_sI h35 s_tape 5 y36) s_tape 5) = 0 then eb_I (eb_sI h35 s_tape 5 y36) s_tape 3 else (eb_I (eb_sI h35 s_tape 5 y36) s_tape 3) + 1 : Int32)) Q) ∧ (¬ ((eb_I (eb_sI (eb_sI h35 s_tape 5 y36) s_tape 4 (if (eb_I (eb_sI h35 s_tape 5 y36) s_tape 5) = 0 then eb_I (eb_sI h35 s_tape 5 y36) s_tape 3 else (eb_I (eb_sI h35 s_tape 5 y36) s_tape 3) + 1 : Int32)) s_tape 5) = (1 : Int32)) → ((¬ (eb_I (eb_sI (eb_sI h35 s_tape 5 y36) s_tape 4 (if (eb_I (eb_sI h35 s_tape 5 y36) s_tape 5) = 0 then eb_I (eb_sI h35 s_tape 5 y36) s_tape 3 else (eb_I (eb_sI h35 s_tape 5 y36) s_tape 3) + 1 : Int32)) s_tape 5) = (2 : Int32) → ((¬ (eb_I (eb_sI (eb_sI h35 s_tape 5 y36) s_tape 4 (if (eb_I (eb_sI h35 s_tape 5 y36) s_tape 5) = 0 then eb_I (eb_sI h35 s_tape 5 y36) s_tape 3 else (eb_I (eb_sI h35 s_tape 5 y36) s_tape 3) + 1 : Int32)) s_tape 5) = (2 : Int32) → (((eb_I (eb_sI (eb_sI h35 s_tape 5 y36) s_tape 4 (if (eb_I (eb_sI h35 s_tape 5 y36) s_tape 5) = 0 then eb_I (eb_sI h35 s_tape 5 y36) s_tape 3 else (eb_I (eb_sI h35 s_tape 5 y36) s_tape 3) + 1 : Int32)) s_tape 5) = (5 : Int32) → eb_Ct d 68 [.ref s_tape, .int 1] (eb_sI (eb_sI h35 s_tape 5 y36) s_tape 4 (if (eb_I (eb_sI h35 s_tape 5 y36) s_tape 5) = 0 then eb_I (eb_sI h35 s_tape 5 y36) s_tape 3 else (eb_I (eb_sI h35 s_tape 5 y36) s_tape 3) + 1 : Int32)) (fun r h43 => r = none ∧ eb_KO h43 ∧ Q none h43)) ∧ (¬ ((eb_I (eb_sI (eb_sI h35 s_tape 5 y36) s_tape 4 (if (eb_I (eb_sI h35 s_tape 5 y36) s_tape 5) = 0 then eb_I (eb_sI h35 s_tape 5 y36) s_tape 3 else (eb_I (eb_sI h35 s_tape 5 y36) s_tape 3) + 1 : Int32)) s_tape 5) = (5 : Int32)) → ((¬ (eb_I (eb_sI (eb_sI h35 s_tape 5 y36) s_tape 4 (if (eb_I (eb_sI h35 s_tape 5 y36) s_tape 5) = 0 then eb_I (eb_sI h35 s_tape 5 y36) s_tape 3 else (eb_I (eb_sI h35 s_tape 5 y36) s_tape 3) + 1 : Int32)) s_tape 5) = (2 : Int32) → Q none (eb_sI (eb_sI h35 s_tape 5 y36) s_tape 4 (if (eb_I (eb_sI h35 s_tape 5 y36) s_tape 5) = 0 then eb_I (eb_sI h35 s_tape 5 y36) s_tape 3 else (eb_I (eb_sI h35 s_tape 5 y36) s_tape 3) + 1 : Int32))) ∧ ((eb_I (eb_sI (eb_sI h35 s_tape 5 y36) s_tape 4 (if (eb_I (eb_sI h35 s_tape 5 y36) s_tape 5) = 0 then eb_I (eb_sI h35 s_tape 5 y36) s_tape 3 else (eb_I (eb_sI h35 s_tape 5 y36) s_tape 3) + 1 : Int32)) s_tape 5) = (2 : Int32) → ((((eb_I (eb_sI (eb_sI h35 s_tape 5 y36) s_tape 4 (if (eb_I (eb_sI h35 s_tape 5 y36) s_tape 5) = 0 then eb_I (eb_sI h35 s_tape 5 y36) s_tape 3 else (eb_I (eb_sI h35 s_tape 5 y36) s_tape 3) + 1 : Int32)) s_tape 4) - (eb_I (eb_sI (eb_sI h35 s_tape 5 y36) s_tape 4 (if (eb_I (eb_sI h35 s_tape 5 y36) s_tape 5) = 0 then eb_I (eb_sI h35 s_tape 5 y36) s_tape 3 else (eb_I (eb_sI h35 s_tape 5 y36) s_tape 3) + 1 : Int32)) s_tape 3)) ≤ (3 : Int32) → Q none (eb_sI (eb_sI h35 s_tape 5 y36) s_tape 4 (if (eb_I (eb_sI h35 s_tape 5 y36) s_tape 5) = 0 then eb_I (eb_sI h35 s_tape 5 y36) s_tape 3 else (eb_I (eb_sI h35 s_tape 5 y36) s_tape 3) + 1 : Int32))) ∧ (¬ (((eb_I (eb_sI (eb_sI h35 s_tape 5 y36) s_tape 4 (if (eb_I (eb_sI h35 s_tape 5 y36) s_tape 5) = 0 then eb_I (eb_sI h35 s_tape 5 y36) s_tape 3 else (eb_I (eb_sI h35 s_tape 5 y36) s_tape 3) + 1 : Int32)) s_tape 4) - (eb_I (eb_sI (eb_sI h35 s_tape 5 y36) s_tape 4 (if (eb_I (eb_sI h35 s_tape 5 y36) s_tape 5) = 0 then eb_I (eb_sI h35 s_tape 5 y36) s_tape 3 else (eb_I (eb_sI h35 s_tape 5 y36) s_tape 3) + 1 : Int32)) s_tape 3)) ≤ (3 : Int32)) → eb_Ct d 68 [.ref s_tape, .int 1] (eb_sI (eb_sI h35 s_tape 5 y36) s_tape 4 (if (eb_I (eb_sI h35 s_tape 5 y36) s_tape 5) = 0 then eb_I (eb_sI h35 s_tape 5 y36) s_tape 3 else (eb_I (eb_sI h35 s_tape 5 y36) s_tape 3) + 1 : Int32)) (fun r h48 => r = none ∧ eb_KO h48 ∧ Q none h48)))))))) ∧ ((eb_I (eb_sI (eb_sI h35 s_tape 5 y36) s_tape 4 (if (eb_I (eb_sI h35 s_tape 5 y36) s_tape 5) = 0 then eb_I (eb_sI h35 s_tape 5 y36) s_tape 3 else (eb_I (eb_sI h35 s_tape 5 y36) s_tape 3) + 1 : Int32)) s_tape 5) = (2 : Int32) → eb_Ct d 71 [.ref s_tape] (eb_sI (eb_sI h35 s_tape 5 y36) s_tape 4 (if (eb_I (eb_sI h35 s_tape 5 y36) s_tape 5) = 0 then eb_I (eb_sI h35 s_tape 5 y36) s_tape 3 else (eb_I (eb_sI h35 s_tape 5 y36) s_tape 3) + 1 : Int32)) (fun r h51 => ∃ y52, r = some (.int y52) ∧ eb_KO h51 ∧ (((eb_I (eb_sI h51 s_tape 6 y52) s_tape 5) = (5 : Int32) → eb_Ct d 68 [.ref s_tape, .int 1] (eb_sI h51 s_tape 6 y52) (fun r h55 => r = none ∧ eb_KO h55 ∧ Q none h55)) ∧ (¬ ((eb_I (eb_sI h51 s_tape 6 y52) s_tape 5) = (5 : Int32)) → ((¬ (eb_I (eb_sI h51 s_tape 6 y52) s_tape 5) = (2 : Int32) → Q none (eb_sI h51 s_tape 6 y52)) ∧ ((eb_I (eb_sI h51 s_tape 6 y52) s_tape 5) = (2 : Int32) → ((((eb_I (eb_sI h51 s_tape 6 y52) s_tape 4) - (eb_I (eb_sI h51 s_tape 6 y52) s_tape 3)) ≤ (3 : Int32) → Q none (eb_sI h51 s_tape 6 y52)) ∧ (¬ (((eb_I (eb_sI h51 s_tape 6 y52) s_tape 4) - (eb_I (eb_sI h51 s_tape 6 y52) s_tape 3)) ≤ (3 : Int32)) → eb_Ct d 68 [.ref s_tape, .int 1] (eb_sI h51 s_tape 6 y52) (fun r h60 => r = none ∧ eb_KO h60 ∧ Q none h60))))))))))) ∧ ((eb_I (eb_sI (eb_sI h35 s_tape 5 y36) s_tape 4 (if (eb_I (eb_sI h35 s_tape 5 y36) s_tape 5) = 0 then eb_I (eb_sI h35 s_tape 5 y36) s_tape 3 else (eb_I (eb_sI h35 s_tape 5 y36) s_tape 3) + 1 : Int32)) s_tape 5) = (2 : Int32) → eb_Sn (d + 1) m_X7_advance h0 104 [(0, .ref s_tape)] [] (eb_sI (eb_sI h35 s_tape 5 y36) s_tape 4 (if (eb_I (eb_sI h35 s_tape 5 y36) s_tape 5) = 0 then eb_I (eb_sI h35 s_tape 5 y36) s_tape 3 else (eb_I (eb_sI h35 s_tape 5 y36) s_tape 3) + 1 : Int32)) Q)))))) ∧ (y32 = (4 : Int32) → eb_Sn (d + 1) m_X7_advance h0 16 [(0, .ref s_tape)] [] (eb_sI h31 s_tape 3 ((eb_I h31 s_tape 3) + 1)) Q)))))) : eb_Sn (d + 1) m_X7_advance h0 16 [(0, .ref s_tape)] [] h Q := by
  refine eb_aload_n (pc := 16) (n := 0) (i := 0) rfl rfl rfl ?_
  refine eb_getI (pc := 17) rfl rfl (by decide) (by decide) rfl ?_
  refine eb_aload_n (pc := 20) (n := 0) (i := 0) rfl rfl rfl ?_
  refine eb_getI (pc := 21) rfl rfl (by decide) (by decide) rfl ?_
  refine eb_icmp_ge (pc := 24) (tgt := 52) rfl (by decide) (fun c1 => ?_) (fun c1 => ?_)
  · replace w := w.1 c1
    refine eb_aload_n (pc := 52) (n := 0) (i := 0) rfl rfl rfl ?_
    refine eb_aload_n (pc := 53) (n := 0) (i := 0) rfl rfl rfl ?_
    refine eb_aload_n (pc := 54) (n := 0) (i := 0) rfl rfl rfl ?_
    refine eb_getI (pc := 55) rfl rfl (by decide) (by decide) rfl ?_
    refine eb_ctV (pc := 58) (As := [.int (eb_I h s_tape 3)]) (rest := [.ref s_tape]) rfl (by decide) rfl rfl (by decide) rfl (Nat.le_of_ble_eq_true rfl) ?_
    refine eb_Ct.mono w ?_
    rintro r h2 ⟨y3, rfl, ko4, w⟩
    change eb_Sn _ _ _ 61 _ [.int y3, .ref s_tape] _ _
    refine eb_putI (pc := 61) rfl rfl (by decide) (by decide) rfl rfl ⟨rfl, rfl⟩ ?_
    refine eb_aload_n (pc := 64) (n := 0) (i := 0) rfl rfl rfl ?_
    refine eb_aload_n (pc := 65) (n := 0) (i := 0) rfl rfl rfl ?_
    refine eb_getI (pc := 66) rfl rfl (by decide) (by decide) rfl ?_
    have jj30 : eb_Sn (d + 1) m_X7_advance h0 85 [(0, .ref s_tape)] [.int (if (eb_I (eb_sI h2 s_tape 5 y3) s_tape 5) = 0 then eb_I (eb_sI h2 s_tape 5 y3) s_tape 3 else (eb_I (eb_sI h2 s_tape 5 y3) s_tape 3) + 1 : Int32), .ref s_tape] (eb_sI h2 s_tape 5 y3) Q := by
      refine eb_putI (pc := 85) rfl rfl (by decide) (by decide) rfl rfl ⟨rfl, rfl⟩ ?_
      refine eb_aload_n (pc := 88) (n := 0) (i := 0) rfl rfl rfl ?_
      refine eb_getI (pc := 89) rfl rfl (by decide) (by decide) rfl ?_
      refine eb_iconst (pc := 92) (n := 1) (v := 1) rfl rfl ?_
      refine eb_icmp_eq (pc := 93) (tgt := 104) rfl (by decide) (fun c6 => ?_) (fun c6 => ?_)
      · replace w := w.1 c6
        exact eb_pick [0] rfl w
      · replace w := w.2 c6
        refine eb_aload_n (pc := 96) (n := 0) (i := 0) rfl rfl rfl ?_
        refine eb_getI (pc := 97) rfl rfl (by decide) (by decide) rfl ?_
        refine eb_iconst (pc := 100) (n := 2) (v := 2) rfl rfl ?_
        refine eb_icmp_ne (pc := 101) (tgt := 143) rfl (by decide) (fun c7 => ?_) (fun c7 => ?_)
        · replace w := w.1 c7
          refine eb_aload_n (pc := 143) (n := 0) (i := 0) rfl rfl rfl ?_
          refine eb_getI (pc := 144) rfl rfl (by decide) (by decide) rfl ?_
          refine eb_iconst (pc := 147) (n := 2) (v := 2) rfl rfl ?_
          refine eb_icmp_ne (pc := 148) (tgt := 159) rfl (by decide) (fun c8 => ?_) (fun c8 => ?_)
          · replace w := w.1 c8
            refine eb_aload_n (pc := 159) (n := 0) (i := 0) rfl rfl rfl ?_
            refine eb_getI (pc := 160) rfl rfl (by decide) (by decide) rfl ?_
            refine eb_iconst (pc := 163) (n := 5) (v := 5) rfl rfl ?_
            refine eb_icmp_eq (pc := 164) (tgt := 188) rfl (by decide) (fun c9 => ?_) (fun c9 => ?_)
            · replace w := w.1 c9
              refine eb_aload_n (pc := 188) (n := 0) (i := 0) rfl rfl rfl ?_
              refine eb_iconst (pc := 189) (n := 1) (v := 1) rfl rfl ?_
              refine eb_ctV (pc := 190) (As := [.int 1]) (rest := []) rfl (by decide) rfl rfl (by decide) rfl (Nat.le_of_ble_eq_true rfl) ?_
              refine eb_Ct.mono w ?_
              rintro r h10 ⟨rfl, ko12, w⟩
              change eb_Sn _ _ _ 193 _ [] _ _
              exact eb_return (pc := 193) rfl rfl w
            · replace w := w.2 c9
              refine eb_aload_n (pc := 167) (n := 0) (i := 0) rfl rfl rfl ?_
              refine eb_getI (pc := 168) rfl rfl (by decide) (by decide) rfl ?_
              refine eb_iconst (pc := 171) (n := 2) (v := 2) rfl rfl ?_
              refine eb_icmp_ne (pc := 172) (tgt := 193) rfl (by decide) (fun c13 => ?_) (fun c13 => ?_)
              · replace w := w.1 c13
                exact eb_return (pc := 193) rfl rfl w
              · replace w := w.2 c13
                refine eb_aload_n (pc := 175) (n := 0) (i := 0) rfl rfl rfl ?_
                refine eb_getI (pc := 176) rfl rfl (by decide) (by decide) rfl ?_
                refine eb_aload_n (pc := 179) (n := 0) (i := 0) rfl rfl rfl ?_
                refine eb_getI (pc := 180) rfl rfl (by decide) (by decide) rfl ?_
                refine eb_isub (pc := 183) rfl ?_
                refine eb_iconst (pc := 184) (n := 3) (v := 3) rfl rfl ?_
                refine eb_icmp_le (pc := 185) (tgt := 193) rfl (by decide) (fun c14 => ?_) (fun c14 => ?_)
                · replace w := w.1 c14
                  exact eb_return (pc := 193) rfl rfl w
                · replace w := w.2 c14
                  refine eb_aload_n (pc := 188) (n := 0) (i := 0) rfl rfl rfl ?_
                  refine eb_iconst (pc := 189) (n := 1) (v := 1) rfl rfl ?_
                  refine eb_ctV (pc := 190) (As := [.int 1]) (rest := []) rfl (by decide) rfl rfl (by decide) rfl (Nat.le_of_ble_eq_true rfl) ?_
                  refine eb_Ct.mono w ?_
                  rintro r h15 ⟨rfl, ko17, w⟩
                  change eb_Sn _ _ _ 193 _ [] _ _
                  exact eb_return (pc := 193) rfl rfl w
          · replace w := w.2 c8
            refine eb_aload_n (pc := 151) (n := 0) (i := 0) rfl rfl rfl ?_
            refine eb_aload_n (pc := 152) (n := 0) (i := 0) rfl rfl rfl ?_
            refine eb_ctV (pc := 153) (As := []) (rest := [.ref s_tape]) rfl (by decide) rfl rfl (by decide) rfl (Nat.le_of_ble_eq_true rfl) ?_
            refine eb_Ct.mono w ?_
            rintro r h18 ⟨y19, rfl, ko20, w⟩
            change eb_Sn _ _ _ 156 _ [.int y19, .ref s_tape] _ _
            refine eb_putI (pc := 156) rfl rfl (by decide) (by decide) rfl rfl ⟨rfl, rfl⟩ ?_
            refine eb_aload_n (pc := 159) (n := 0) (i := 0) rfl rfl rfl ?_
            refine eb_getI (pc := 160) rfl rfl (by decide) (by decide) rfl ?_
            refine eb_iconst (pc := 163) (n := 5) (v := 5) rfl rfl ?_
            refine eb_icmp_eq (pc := 164) (tgt := 188) rfl (by decide) (fun c21 => ?_) (fun c21 => ?_)
            · replace w := w.1 c21
              refine eb_aload_n (pc := 188) (n := 0) (i := 0) rfl rfl rfl ?_
              refine eb_iconst (pc := 189) (n := 1) (v := 1) rfl rfl ?_
              refine eb_ctV (pc := 190) (As := [.int 1]) (rest := []) rfl (by decide) rfl rfl (by decide) rfl (Nat.le_of_ble_eq_true rfl) ?_
              refine eb_Ct.mono w ?_
              rintro r h22 ⟨rfl, ko24, w⟩
              change eb_Sn _ _ _ 193 _ [] _ _
              exact eb_return (pc := 193) rfl rfl w
            · replace w := w.2 c21
              refine eb_aload_n (pc := 167) (n := 0) (i := 0) rfl rfl rfl ?_
              refine eb_getI (pc := 168) rfl rfl (by decide) (by decide) rfl ?_
              refine eb_iconst (pc := 171) (n := 2) (v := 2) rfl rfl ?_
              refine eb_icmp_ne (pc := 172) (tgt := 193) rfl (by decide) (fun c25 => ?_) (fun c25 => ?_)
              · replace w := w.1 c25
                exact eb_return (pc := 193) rfl rfl w
              · replace w := w.2 c25
                refine eb_aload_n (pc := 175) (n := 0) (i := 0) rfl rfl rfl ?_
                refine eb_getI (pc := 176) rfl rfl (by decide) (by decide) rfl ?_
                refine eb_aload_n (pc := 179) (n := 0) (i := 0) rfl rfl rfl ?_
                refine eb_getI (pc := 180) rfl rfl (by decide) (by decide) rfl ?_
                refine eb_isub (pc := 183) rfl ?_
                refine eb_iconst (pc := 184) (n := 3) (v := 3) rfl rfl ?_
                refine eb_icmp_le (pc := 185) (tgt := 193) rfl (by decide) (fun c26 => ?_) (fun c26 => ?_)
                · replace w := w.1 c26
                  exact eb_return (pc := 193) rfl rfl w
                · replace w := w.2 c26
                  refine eb_aload_n (pc := 188) (n := 0) (i := 0) rfl rfl rfl ?_
                  refine eb_iconst (pc := 189) (n := 1) (v := 1) rfl rfl ?_
                  refine eb_ctV (pc := 190) (As := [.int 1]) (rest := []) rfl (by decide) rfl rfl (by decide) rfl (Nat.le_of_ble_eq_true rfl) ?_
                  refine eb_Ct.mono w ?_
                  rintro r h27 ⟨rfl, ko29, w⟩
                  change eb_Sn _ _ _ 193 _ [] _ _
                  exact eb_return (pc := 193) rfl rfl w
        · replace w := w.2 c7
          exact eb_pick [0] rfl w
    refine eb_if_ne (pc := 69) (tgt := 79) rfl (by decide) (fun c5 => ?_) (fun c5 => ?_)
    · refine eb_aload_n (pc := 79) (n := 0) (i := 0) rfl rfl rfl ?_
      refine eb_getI (pc := 80) rfl rfl (by decide) (by decide) rfl ?_
      refine eb_iconst (pc := 83) (n := 1) (v := 1) rfl rfl ?_
      refine eb_iadd (pc := 84) rfl ?_
      simp only [if_neg c5] at jj30 ⊢
      exact jj30
    · refine eb_aload_n (pc := 72) (n := 0) (i := 0) rfl rfl rfl ?_
      refine eb_getI (pc := 73) rfl rfl (by decide) (by decide) rfl ?_
      refine eb_goto (pc := 76) (tgt := 85) rfl (by decide) ?_
      simp only [if_pos c5] at jj30 ⊢
      exact jj30
  · replace w := w.2 c1
    refine eb_aload_n (pc := 27) (n := 0) (i := 0) rfl rfl rfl ?_
    refine eb_aload_n (pc := 28) (n := 0) (i := 0) rfl rfl rfl ?_
    refine eb_getI (pc := 29) rfl rfl (by decide) (by decide) rfl ?_
    refine eb_ctV (pc := 32) (As := [.int (eb_I h s_tape 3)]) (rest := []) rfl (by decide) rfl rfl (by decide) rfl (Nat.le_of_ble_eq_true rfl) ?_
    refine eb_Ct.mono w ?_
    rintro r h31 ⟨y32, rfl, ko33, w⟩
    change eb_Sn _ _ _ 35 _ [.int y32] _ _
    refine eb_iconst (pc := 35) (n := 4) (v := 4) rfl rfl ?_
    refine eb_icmp_ne (pc := 36) (tgt := 52) rfl (by decide) (fun c34 => ?_) (fun c34 => ?_)
    · replace w := w.1 c34
      refine eb_aload_n (pc := 52) (n := 0) (i := 0) rfl rfl rfl ?_
      refine eb_aload_n (pc := 53) (n := 0) (i := 0) rfl rfl rfl ?_
      refine eb_aload_n (pc := 54) (n := 0) (i := 0) rfl rfl rfl ?_
      refine eb_getI (pc := 55) rfl rfl (by decide) (by decide) rfl ?_
      refine eb_ctV (pc := 58) (As := [.int (eb_I h31 s_tape 3)]) (rest := [.ref s_tape]) rfl (by decide) rfl rfl (by decide) rfl (Nat.le_of_ble_eq_true rfl) ?_
      refine eb_Ct.mono w ?_
      rintro r h35 ⟨y36, rfl, ko37, w⟩
      change eb_Sn _ _ _ 61 _ [.int y36, .ref s_tape] _ _
      refine eb_putI (pc := 61) rfl rfl (by decide) (by decide) rfl rfl ⟨rfl, rfl⟩ ?_
      refine eb_aload_n (pc := 64) (n := 0) (i := 0) rfl rfl rfl ?_
      refine eb_aload_n (pc := 65) (n := 0) (i := 0) rfl rfl rfl ?_
      refine eb_getI (pc := 66) rfl rfl (by decide) (by decide) rfl ?_
      have jj63 : eb_Sn (d + 1) m_X7_advance h0 85 [(0, .ref s_tape)] [.int (if (eb_I (eb_sI h35 s_tape 5 y36) s_tape 5) = 0 then eb_I (eb_sI h35 s_tape 5 y36) s_tape 3 else (eb_I (eb_sI h35 s_tape 5 y36) s_tape 3) + 1 : Int32), .ref s_tape] (eb_sI h35 s_tape 5 y36) Q := by
        refine eb_putI (pc := 85) rfl rfl (by decide) (by decide) rfl rfl ⟨rfl, rfl⟩ ?_
        refine eb_aload_n (pc := 88) (n := 0) (i := 0) rfl rfl rfl ?_
        refine eb_getI (pc := 89) rfl rfl (by decide) (by decide) rfl ?_
        refine eb_iconst (pc := 92) (n := 1) (v := 1) rfl rfl ?_
        refine eb_icmp_eq (pc := 93) (tgt := 104) rfl (by decide) (fun c39 => ?_) (fun c39 => ?_)
        · replace w := w.1 c39
          exact eb_pick [0] rfl w
        · replace w := w.2 c39
          refine eb_aload_n (pc := 96) (n := 0) (i := 0) rfl rfl rfl ?_
          refine eb_getI (pc := 97) rfl rfl (by decide) (by decide) rfl ?_
          refine eb_iconst (pc := 100) (n := 2) (v := 2) rfl rfl ?_
          refine eb_icmp_ne (pc := 101) (tgt := 143) rfl (by decide) (fun c40 => ?_) (fun c40 => ?_)
          · replace w := w.1 c40
            refine eb_aload_n (pc := 143) (n := 0) (i := 0) rfl rfl rfl ?_
            refine eb_getI (pc := 144) rfl rfl (by decide) (by decide) rfl ?_
            refine eb_iconst (pc := 147) (n := 2) (v := 2) rfl rfl ?_
            refine eb_icmp_ne (pc := 148) (tgt := 159) rfl (by decide) (fun c41 => ?_) (fun c41 => ?_)
            · replace w := w.1 c41
              refine eb_aload_n (pc := 159) (n := 0) (i := 0) rfl rfl rfl ?_
              refine eb_getI (pc := 160) rfl rfl (by decide) (by decide) rfl ?_
              refine eb_iconst (pc := 163) (n := 5) (v := 5) rfl rfl ?_
              refine eb_icmp_eq (pc := 164) (tgt := 188) rfl (by decide) (fun c42 => ?_) (fun c42 => ?_)
              · replace w := w.1 c42
                refine eb_aload_n (pc := 188) (n := 0) (i := 0) rfl rfl rfl ?_
                refine eb_iconst (pc := 189) (n := 1) (v := 1) rfl rfl ?_
                refine eb_ctV (pc := 190) (As := [.int 1]) (rest := []) rfl (by decide) rfl rfl (by decide) rfl (Nat.le_of_ble_eq_true rfl) ?_
                refine eb_Ct.mono w ?_
                rintro r h43 ⟨rfl, ko45, w⟩
                change eb_Sn _ _ _ 193 _ [] _ _
                exact eb_return (pc := 193) rfl rfl w
              · replace w := w.2 c42
                refine eb_aload_n (pc := 167) (n := 0) (i := 0) rfl rfl rfl ?_
                refine eb_getI (pc := 168) rfl rfl (by decide) (by decide) rfl ?_
                refine eb_iconst (pc := 171) (n := 2) (v := 2) rfl rfl ?_
                refine eb_icmp_ne (pc := 172) (tgt := 193) rfl (by decide) (fun c46 => ?_) (fun c46 => ?_)
                · replace w := w.1 c46
                  exact eb_return (pc := 193) rfl rfl w
                · replace w := w.2 c46
                  refine eb_aload_n (pc := 175) (n := 0) (i := 0) rfl rfl rfl ?_
                  refine eb_getI (pc := 176) rfl rfl (by decide) (by decide) rfl ?_
                  refine eb_aload_n (pc := 179) (n := 0) (i := 0) rfl rfl rfl ?_
                  refine eb_getI (pc := 180) rfl rfl (by decide) (by decide) rfl ?_
                  refine eb_isub (pc := 183) rfl ?_
                  refine eb_iconst (pc := 184) (n := 3) (v := 3) rfl rfl ?_
                  refine eb_icmp_le (pc := 185) (tgt := 193) rfl (by decide) (fun c47 => ?_) (fun c47 => ?_)
                  · replace w := w.1 c47
                    exact eb_return (pc := 193) rfl rfl w
                  · replace w := w.2 c47
                    refine eb_aload_n (pc := 188) (n := 0) (i := 0) rfl rfl rfl ?_
                    refine eb_iconst (pc := 189) (n := 1) (v := 1) rfl rfl ?_
                    refine eb_ctV (pc := 190) (As := [.int 1]) (rest := []) rfl (by decide) rfl rfl (by decide) rfl (Nat.le_of_ble_eq_true rfl) ?_
                    refine eb_Ct.mono w ?_
                    rintro r h48 ⟨rfl, ko50, w⟩
                    change eb_Sn _ _ _ 193 _ [] _ _
                    exact eb_return (pc := 193) rfl rfl w
            · replace w := w.2 c41
              refine eb_aload_n (pc := 151) (n := 0) (i := 0) rfl rfl rfl ?_
              refine eb_aload_n (pc := 152) (n := 0) (i := 0) rfl rfl rfl ?_
              refine eb_ctV (pc := 153) (As := []) (rest := [.ref s_tape]) rfl (by decide) rfl rfl (by decide) rfl (Nat.le_of_ble_eq_true rfl) ?_
              refine eb_Ct.mono w ?_
              rintro r h51 ⟨y52, rfl, ko53, w⟩
              change eb_Sn _ _ _ 156 _ [.int y52, .ref s_tape] _ _
              refine eb_putI (pc := 156) rfl rfl (by decide) (by decide) rfl rfl ⟨rfl, rfl⟩ ?_
              refine eb_aload_n (pc := 159) (n := 0) (i := 0) rfl rfl rfl ?_
              refine eb_getI (pc := 160) rfl rfl (by decide) (by decide) rfl ?_
              refine eb_iconst (pc := 163) (n := 5) (v := 5) rfl rfl ?_
              refine eb_icmp_eq (pc := 164) (tgt := 188) rfl (by decide) (fun c54 => ?_) (fun c54 => ?_)
              · replace w := w.1 c54
                refine eb_aload_n (pc := 188) (n := 0) (i := 0) rfl rfl rfl ?_
                refine eb_iconst (pc := 189) (n := 1) (v := 1) rfl rfl ?_
                refine eb_ctV (pc := 190) (As := [.int 1]) (rest := []) rfl (by decide) rfl rfl (by decide) rfl (Nat.le_of_ble_eq_true rfl) ?_
                refine eb_Ct.mono w ?_
                rintro r h55 ⟨rfl, ko57, w⟩
                change eb_Sn _ _ _ 193 _ [] _ _
                exact eb_return (pc := 193) rfl rfl w
              · replace w := w.2 c54
                refine eb_aload_n (pc := 167) (n := 0) (i := 0) rfl rfl rfl ?_
                refine eb_getI (pc := 168) rfl rfl (by decide) (by decide) rfl ?_
                refine eb_iconst (pc := 171) (n := 2) (v := 2) rfl rfl ?_
                refine eb_icmp_ne (pc := 172) (tgt := 193) rfl (by decide) (fun c58 => ?_) (fun c58 => ?_)
                · replace w := w.1 c58
                  exact eb_return (pc := 193) rfl rfl w
                · replace w := w.2 c58
                  refine eb_aload_n (pc := 175) (n := 0) (i := 0) rfl rfl rfl ?_
                  refine eb_getI (pc := 176) rfl rfl (by decide) (by decide) rfl ?_
                  refine eb_aload_n (pc := 179) (n := 0) (i := 0) rfl rfl rfl ?_
                  refine eb_getI (pc := 180) rfl rfl (by decide) (by decide) rfl ?_
                  refine eb_isub (pc := 183) rfl ?_
                  refine eb_iconst (pc := 184) (n := 3) (v := 3) rfl rfl ?_
                  refine eb_icmp_le (pc := 185) (tgt := 193) rfl (by decide) (fun c59 => ?_) (fun c59 => ?_)
                  · replace w := w.1 c59
                    exact eb_return (pc := 193) rfl rfl w
                  · replace w := w.2 c59
                    refine eb_aload_n (pc := 188) (n := 0) (i := 0) rfl rfl rfl ?_
                    refine eb_iconst (pc := 189) (n := 1) (v := 1) rfl rfl ?_
                    refine eb_ctV (pc := 190) (As := [.int 1]) (rest := []) rfl (by decide) rfl rfl (by decide) rfl (Nat.le_of_ble_eq_true rfl) ?_
                    refine eb_Ct.mono w ?_
                    rintro r h60 ⟨rfl, ko62, w⟩
                    change eb_Sn _ _ _ 193 _ [] _ _
                    exact eb_return (pc := 193) rfl rfl w
          · replace w := w.2 c40
            exact eb_pick [0] rfl w
      refine eb_if_ne (pc := 69) (tgt := 79) rfl (by decide) (fun c38 => ?_) (fun c38 => ?_)
      · refine eb_aload_n (pc := 79) (n := 0) (i := 0) rfl rfl rfl ?_
        refine eb_getI (pc := 80) rfl rfl (by decide) (by decide) rfl ?_
        refine eb_iconst (pc := 83) (n := 1) (v := 1) rfl rfl ?_
        refine eb_iadd (pc := 84) rfl ?_
        simp only [if_neg c38] at jj63 ⊢
        exact jj63
      · refine eb_aload_n (pc := 72) (n := 0) (i := 0) rfl rfl rfl ?_
        refine eb_getI (pc := 73) rfl rfl (by decide) (by decide) rfl ?_
        refine eb_goto (pc := 76) (tgt := 85) rfl (by decide) ?_
        simp only [if_pos c38] at jj63 ⊢
        exact jj63
    · replace w := w.2 c34
      refine eb_aload_n (pc := 39) (n := 0) (i := 0) rfl rfl rfl ?_
      refine eb_dupr (pc := 40) rfl ?_
      refine eb_getI (pc := 41) rfl rfl (by decide) (by decide) rfl ?_
      refine eb_iconst (pc := 44) (n := 1) (v := 1) rfl rfl ?_
      refine eb_iadd (pc := 45) rfl ?_
      refine eb_putI (pc := 46) rfl rfl (by decide) (by decide) rfl rfl ⟨rfl, rfl⟩ ?_
      refine eb_goto (pc := 49) (tgt := 16) rfl (by decide) ?_
      exact eb_pick [0] rfl w
theorem b_X7_advance_104 {d : Nat} {h0 h : eb_H} {Q : Option Value → eb_H → Prop}   (ko : eb_KO h) (w : (((eb_I h s_tape 2) ≤ (eb_I h s_tape 4) → ((¬ (eb_I h s_tape 5) = (2 : Int32) → (((eb_I h s_tape 5) = (5 : Int32) → eb_Ct d 68 [.ref s_tape, .int 1] h (fun r h4 => r = none ∧ eb_KO h4 ∧ Q none h4)) ∧ (¬ ((eb_I h s_tape 5) = (5 : Int32)) → ((¬ (eb_I h s_tape 5) = (2 : Int32) → Q none h) ∧ ((eb_I h s_tape 5) = (2 : Int32) → ((((eb_I h s_tape 4) - (eb_I h s_tape 3)) ≤ (3 : Int32) → Q none h) ∧ (¬ (((eb_I h s_tape 4) - (eb_I h s_tape 3)) ≤ (3 : Int32)) → eb_Ct d 68 [.ref s_tape, .int 1] h (fun r h9 => r = none ∧ eb_KO h9 ∧ Q none h9)))))))) ∧ ((eb_I h s_tape 5) = (2 : Int32) → eb_Ct d 71 [.ref s_tape] h (fun r h12 => ∃ y13, r = some (.int y13) ∧ eb_KO h12 ∧ (((eb_I (eb_sI h12 s_tape 6 y13) s_tape 5) = (5 : Int32) → eb_Ct d 68 [.ref s_tape, .int 1] (eb_sI h12 s_tape 6 y13) (fun r h16 => r = none ∧ eb_KO h16 ∧ Q none h16)) ∧ (¬ ((eb_I (eb_sI h12 s_tape 6 y13) s_tape 5) = (5 : Int32)) → ((¬ (eb_I (eb_sI h12 s_tape 6 y13) s_tape 5) = (2 : Int32) → Q none (eb_sI h12 s_tape 6 y13)) ∧ ((eb_I (eb_sI h12 s_tape 6 y13) s_tape 5) = (2 : Int32) → ((((eb_I (eb_sI h12 s_tape 6 y13) s_tape 4) - (eb_I (eb_sI h12 s_tape 6 y13) s_tape 3)) ≤ (3 : Int32) → Q none (eb_sI h12 s_tape 6 y13)) ∧ (¬ (((eb_I (eb_sI h12 s_tape 6 y13) s_tape 4) - (eb_I (eb_sI h12 s_tape 6 y13) s_tape 3)) ≤ (3 : Int32)) → eb_Ct d 68 [.ref s_tape, .int 1] (eb_sI h12 s_tape 6 y13) (fun r h21 => r = none ∧ eb_KO h21 ∧ Q none h21))))))))))) ∧ (¬ ((eb_I h s_tape 2) ≤ (eb_I h s_tape 4)) → eb_Ct d 70 [.ref s_tape, .int (eb_I h s_tape 4)] h (fun r h24 => ∃ y25, r = some (.int y25) ∧ eb_KO h24 ∧ ((¬ y25 = (eb_I h24 s_tape 5) → ((¬ (eb_I h24 s_tape 5) = (2 : Int32) → (((eb_I h24 s_tape 5) = (5 : Int32) → eb_Ct d 68 [.ref s_tape, .int 1] h24 (fun r h30 => r = none ∧ eb_KO h30 ∧ Q none h30)) ∧ (¬ ((eb_I h24 s_tape 5) = (5 : Int32)) → ((¬ (eb_I h24 s_tape 5) = (2 : Int32) → Q none h24) ∧ ((eb_I h24 s_tape 5) = (2 : Int32) → ((((eb_I h24 s_tape 4) - (eb_I h24 s_tape 3)) ≤ (3 : Int32) → Q none h24) ∧ (¬ (((eb_I h24 s_tape 4) - (eb_I h24 s_tape 3)) ≤ (3 : Int32)) → eb_Ct d 68 [.ref s_tape, .int 1] h24 (fun r h35 => r = none ∧ eb_KO h35 ∧ Q none h35)))))))) ∧ ((eb_I h24 s_tape 5) = (2 : Int32) → eb_Ct d 71 [.ref s_tape] h24 (fun r h38 => ∃ y39, r = some (.int y39) ∧ eb_KO h38 ∧ (((eb_I (eb_sI h38 s_tape 6 y39) s_tape 5) = (5 : Int32) → eb_Ct d 68 [.ref s_tape, .int 1] (eb_sI h38 s_tape 6 y39) (fun r h42 => r = none ∧ eb_KO h42 ∧ Q none h42)) ∧ (¬ ((eb_I (eb_sI h38 s_tape 6 y39) s_tape 5) = (5 : Int32)) → ((¬ (eb_I (eb_sI h38 s_tape 6 y39) s_tape 5) = (2 : Int32) → Q none (eb_sI h38 s_tape 6 y39)) ∧ ((eb_I (eb_sI h38 s_tape 6 y39) s_tape 5) = (2 : Int32) → ((((eb_I (eb_sI h38 s_tape 6 y39) s_tape 4) - (eb_I (eb_sI h38 s_tape 6 y39) s_tape 3)) ≤ (3 : Int32) → Q none (eb_sI h38 s_tape 6 y39)) ∧ (¬ (((eb_I (eb_sI h38 s_tape 6 y39) s_tape 4) - (eb_I (eb_sI h38 s_tape 6 y39) s_tape 3)) ≤ (3 : Int32)) → eb_Ct d 68 [.ref s_tape, .int 1] (eb_sI h38 s_tape 6 y39) (fun r h47 => r = none ∧ eb_KO h47 ∧ Q none h47))))))))))) ∧ (y25 = (eb_I h24 s_tape 5) → eb_Sn (d + 1) m_X7_advance h0 104 [(0, .ref s_tape)] [] (eb_sI h24 s_tape 4 ((eb_I h24 s_tape 4) + 1)) Q)))))) : eb_Sn (d + 1) m_X7_advance h0 104 [(0, .ref s_tape)] [] h Q := by
  refine eb_aload_n (pc := 104) (n := 0) (i := 0) rfl rfl rfl ?_
  refine eb_getI (pc := 105) rfl rfl (by decide) (by decide) rfl ?_
  refine eb_aload_n (pc := 108) (n := 0) (i := 0) rfl rfl rfl ?_
  refine eb_getI (pc := 109) rfl rfl (by decide) (by decide) rfl ?_
  refine eb_icmp_ge (pc := 112) (tgt := 143) rfl (by decide) (fun c1 => ?_) (fun c1 => ?_)
  · replace w := w.1 c1
    refine eb_aload_n (pc := 143) (n := 0) (i := 0) rfl rfl rfl ?_
    refine eb_getI (pc := 144) rfl rfl (by decide) (by decide) rfl ?_
    refine eb_iconst (pc := 147) (n := 2) (v := 2) rfl rfl ?_
    refine eb_icmp_ne (pc := 148) (tgt := 159) rfl (by decide) (fun c2 => ?_) (fun c2 => ?_)
    · replace w := w.1 c2
      refine eb_aload_n (pc := 159) (n := 0) (i := 0) rfl rfl rfl ?_
      refine eb_getI (pc := 160) rfl rfl (by decide) (by decide) rfl ?_
      refine eb_iconst (pc := 163) (n := 5) (v := 5) rfl rfl ?_
      refine eb_icmp_eq (pc := 164) (tgt := 188) rfl (by decide) (fun c3 => ?_) (fun c3 => ?_)
      · replace w := w.1 c3
        refine eb_aload_n (pc := 188) (n := 0) (i := 0) rfl rfl rfl ?_
        refine eb_iconst (pc := 189) (n := 1) (v := 1) rfl rfl ?_
        refine eb_ctV (pc := 190) (As := [.int 1]) (rest := []) rfl (by decide) rfl rfl (by decide) rfl (Nat.le_of_ble_eq_true rfl) ?_
        refine eb_Ct.mono w ?_
        rintro r h4 ⟨rfl, ko6, w⟩
        change eb_Sn _ _ _ 193 _ [] _ _
        exact eb_return (pc := 193) rfl rfl w
      · replace w := w.2 c3
        refine eb_aload_n (pc := 167) (n := 0) (i := 0) rfl rfl rfl ?_
        refine eb_getI (pc := 168) rfl rfl (by decide) (by decide) rfl ?_
        refine eb_iconst (pc := 171) (n := 2) (v := 2) rfl rfl ?_
        refine eb_icmp_ne (pc := 172) (tgt := 193) rfl (by decide) (fun c7 => ?_) (fun c7 => ?_)
        · replace w := w.1 c7
          exact eb_return (pc := 193) rfl rfl w
        · replace w := w.2 c7
          refine eb_aload_n (pc := 175) (n := 0) (i := 0) rfl rfl rfl ?_
          refine eb_getI (pc := 176) rfl rfl (by decide) (by decide) rfl ?_
          refine eb_aload_n (pc := 179) (n := 0) (i := 0) rfl rfl rfl ?_
          refine eb_getI (pc := 180) rfl rfl (by decide) (by decide) rfl ?_
          refine eb_isub (pc := 183) rfl ?_
          refine eb_iconst (pc := 184) (n := 3) (v := 3) rfl rfl ?_
          refine eb_icmp_le (pc := 185) (tgt := 193) rfl (by decide) (fun c8 => ?_) (fun c8 => ?_)
          · replace w := w.1 c8
            exact eb_return (pc := 193) rfl rfl w
          · replace w := w.2 c8
            refine eb_aload_n (pc := 188) (n := 0) (i := 0) rfl rfl rfl ?_
            refine eb_iconst (pc := 189) (n := 1) (v := 1) rfl rfl ?_
            refine eb_ctV (pc := 190) (As := [.int 1]) (rest := []) rfl (by decide) rfl rfl (by decide) rfl (Nat.le_of_ble_eq_true rfl) ?_
            refine eb_Ct.mono w ?_
            rintro r h9 ⟨rfl, ko11, w⟩
            change eb_Sn _ _ _ 193 _ [] _ _
            exact eb_return (pc := 193) rfl rfl w
    · replace w := w.2 c2
      refine eb_aload_n (pc := 151) (n := 0) (i := 0) rfl rfl rfl ?_
      refine eb_aload_n (pc := 152) (n := 0) (i := 0) rfl rfl rfl ?_
      refine eb_ctV (pc := 153) (As := []) (rest := [.ref s_tape]) rfl (by decide) rfl rfl (by decide) rfl (Nat.le_of_ble_eq_true rfl) ?_
      refine eb_Ct.mono w ?_
      rintro r h12 ⟨y13, rfl, ko14, w⟩
      change eb_Sn _ _ _ 156 _ [.int y13, .ref s_tape] _ _
      refine eb_putI (pc := 156) rfl rfl (by decide) (by decide) rfl rfl ⟨rfl, rfl⟩ ?_
      refine eb_aload_n (pc := 159) (n := 0) (i := 0) rfl rfl rfl ?_
      refine eb_getI (pc := 160) rfl rfl (by decide) (by decide) rfl ?_
      refine eb_iconst (pc := 163) (n := 5) (v := 5) rfl rfl ?_
      refine eb_icmp_eq (pc := 164) (tgt := 188) rfl (by decide) (fun c15 => ?_) (fun c15 => ?_)
      · replace w := w.1 c15
        refine eb_aload_n (pc := 188) (n := 0) (i := 0) rfl rfl rfl ?_
        refine eb_iconst (pc := 189) (n := 1) (v := 1) rfl rfl ?_
        refine eb_ctV (pc := 190) (As := [.int 1]) (rest := []) rfl (by decide) rfl rfl (by decide) rfl (Nat.le_of_ble_eq_true rfl) ?_
        refine eb_Ct.mono w ?_
        rintro r h16 ⟨rfl, ko18, w⟩
        change eb_Sn _ _ _ 193 _ [] _ _
        exact eb_return (pc := 193) rfl rfl w
      · replace w := w.2 c15
        refine eb_aload_n (pc := 167) (n := 0) (i := 0) rfl rfl rfl ?_
        refine eb_getI (pc := 168) rfl rfl (by decide) (by decide) rfl ?_
        refine eb_iconst (pc := 171) (n := 2) (v := 2) rfl rfl ?_
        refine eb_icmp_ne (pc := 172) (tgt := 193) rfl (by decide) (fun c19 => ?_) (fun c19 => ?_)
        · replace w := w.1 c19
          exact eb_return (pc := 193) rfl rfl w
        · replace w := w.2 c19
          refine eb_aload_n (pc := 175) (n := 0) (i := 0) rfl rfl rfl ?_
          refine eb_getI (pc := 176) rfl rfl (by decide) (by decide) rfl ?_
          refine eb_aload_n (pc := 179) (n := 0) (i := 0) rfl rfl rfl ?_
          refine eb_getI (pc := 180) rfl rfl (by decide) (by decide) rfl ?_
          refine eb_isub (pc := 183) rfl ?_
          refine eb_iconst (pc := 184) (n := 3) (v := 3) rfl rfl ?_
          refine eb_icmp_le (pc := 185) (tgt := 193) rfl (by decide) (fun c20 => ?_) (fun c20 => ?_)
          · replace w := w.1 c20
            exact eb_return (pc := 193) rfl rfl w
          · replace w := w.2 c20
            refine eb_aload_n (pc := 188) (n := 0) (i := 0) rfl rfl rfl ?_
            refine eb_iconst (pc := 189) (n := 1) (v := 1) rfl rfl ?_
            refine eb_ctV (pc := 190) (As := [.int 1]) (rest := []) rfl (by decide) rfl rfl (by decide) rfl (Nat.le_of_ble_eq_true rfl) ?_
            refine eb_Ct.mono w ?_
            rintro r h21 ⟨rfl, ko23, w⟩
            change eb_Sn _ _ _ 193 _ [] _ _
            exact eb_return (pc := 193) rfl rfl w
  · replace w := w.2 c1
    refine eb_aload_n (pc := 115) (n := 0) (i := 0) rfl rfl rfl ?_
    refine eb_aload_n (pc := 116) (n := 0) (i := 0) rfl rfl rfl ?_
    refine eb_getI (pc := 117) rfl rfl (by decide) (by decide) rfl ?_
    refine eb_ctV (pc := 120) (As := [.int (eb_I h s_tape 4)]) (rest := []) rfl (by decide) rfl rfl (by decide) rfl (Nat.le_of_ble_eq_true rfl) ?_
    refine eb_Ct.mono w ?_
    rintro r h24 ⟨y25, rfl, ko26, w⟩
    change eb_Sn _ _ _ 123 _ [.int y25] _ _
    refine eb_aload_n (pc := 123) (n := 0) (i := 0) rfl rfl rfl ?_
    refine eb_getI (pc := 124) rfl rfl (by decide) (by decide) rfl ?_
    refine eb_icmp_ne (pc := 127) (tgt := 143) rfl (by decide) (fun c27 => ?_) (fun c27 => ?_)
    · replace w := w.1 c27
      refine eb_aload_n (pc := 143) (n := 0) (i := 0) rfl rfl rfl ?_
      refine eb_getI (pc := 144) rfl rfl (by decide) (by decide) rfl ?_
      refine eb_iconst (pc := 147) (n := 2) (v := 2) rfl rfl ?_
      refine eb_icmp_ne (pc := 148) (tgt := 159) rfl (by decide) (fun c28 => ?_) (fun c28 => ?_)
      · replace w := w.1 c28
        refine eb_aload_n (pc := 159) (n := 0) (i := 0) rfl rfl rfl ?_
        refine eb_getI (pc := 160) rfl rfl (by decide) (by decide) rfl ?_
        refine eb_iconst (pc := 163) (n := 5) (v := 5) rfl rfl ?_
        refine eb_icmp_eq (pc := 164) (tgt := 188) rfl (by decide) (fun c29 => ?_) (fun c29 => ?_)
        · replace w := w.1 c29
          refine eb_aload_n (pc := 188) (n := 0) (i := 0) rfl rfl rfl ?_
          refine eb_iconst (pc := 189) (n := 1) (v := 1) rfl rfl ?_
          refine eb_ctV (pc := 190) (As := [.int 1]) (rest := []) rfl (by decide) rfl rfl (by decide) rfl (Nat.le_of_ble_eq_true rfl) ?_
          refine eb_Ct.mono w ?_
          rintro r h30 ⟨rfl, ko32, w⟩
          change eb_Sn _ _ _ 193 _ [] _ _
          exact eb_return (pc := 193) rfl rfl w
        · replace w := w.2 c29
          refine eb_aload_n (pc := 167) (n := 0) (i := 0) rfl rfl rfl ?_
          refine eb_getI (pc := 168) rfl rfl (by decide) (by decide) rfl ?_
          refine eb_iconst (pc := 171) (n := 2) (v := 2) rfl rfl ?_
          refine eb_icmp_ne (pc := 172) (tgt := 193) rfl (by decide) (fun c33 => ?_) (fun c33 => ?_)
          · replace w := w.1 c33
            exact eb_return (pc := 193) rfl rfl w
          · replace w := w.2 c33
            refine eb_aload_n (pc := 175) (n := 0) (i := 0) rfl rfl rfl ?_
            refine eb_getI (pc := 176) rfl rfl (by decide) (by decide) rfl ?_
            refine eb_aload_n (pc := 179) (n := 0) (i := 0) rfl rfl rfl ?_
            refine eb_getI (pc := 180) rfl rfl (by decide) (by decide) rfl ?_
            refine eb_isub (pc := 183) rfl ?_
            refine eb_iconst (pc := 184) (n := 3) (v := 3) rfl rfl ?_
            refine eb_icmp_le (pc := 185) (tgt := 193) rfl (by decide) (fun c34 => ?_) (fun c34 => ?_)
            · replace w := w.1 c34
              exact eb_return (pc := 193) rfl rfl w
            · replace w := w.2 c34
              refine eb_aload_n (pc := 188) (n := 0) (i := 0) rfl rfl rfl ?_
              refine eb_iconst (pc := 189) (n := 1) (v := 1) rfl rfl ?_
              refine eb_ctV (pc := 190) (As := [.int 1]) (rest := []) rfl (by decide) rfl rfl (by decide) rfl (Nat.le_of_ble_eq_true rfl) ?_
              refine eb_Ct.mono w ?_
              rintro r h35 ⟨rfl, ko37, w⟩
              change eb_Sn _ _ _ 193 _ [] _ _
              exact eb_return (pc := 193) rfl rfl w
      · replace w := w.2 c28
        refine eb_aload_n (pc := 151) (n := 0) (i := 0) rfl rfl rfl ?_
        refine eb_aload_n (pc := 152) (n := 0) (i := 0) rfl rfl rfl ?_
        refine eb_ctV (pc := 153) (As := []) (rest := [.ref s_tape]) rfl (by decide) rfl rfl (by decide) rfl (Nat.le_of_ble_eq_true rfl) ?_
        refine eb_Ct.mono w ?_
        rintro r h38 ⟨y39, rfl, ko40, w⟩
        change eb_Sn _ _ _ 156 _ [.int y39, .ref s_tape] _ _
        refine eb_putI (pc := 156) rfl rfl (by decide) (by decide) rfl rfl ⟨rfl, rfl⟩ ?_
        refine eb_aload_n (pc := 159) (n := 0) (i := 0) rfl rfl rfl ?_
        refine eb_getI (pc := 160) rfl rfl (by decide) (by decide) rfl ?_
        refine eb_iconst (pc := 163) (n := 5) (v := 5) rfl rfl ?_
        refine eb_icmp_eq (pc := 164) (tgt := 188) rfl (by decide) (fun c41 => ?_) (fun c41 => ?_)
        · replace w := w.1 c41
          refine eb_aload_n (pc := 188) (n := 0) (i := 0) rfl rfl rfl ?_
          refine eb_iconst (pc := 189) (n := 1) (v := 1) rfl rfl ?_
          refine eb_ctV (pc := 190) (As := [.int 1]) (rest := []) rfl (by decide) rfl rfl (by decide) rfl (Nat.le_of_ble_eq_true rfl) ?_
          refine eb_Ct.mono w ?_
          rintro r h42 ⟨rfl, ko44, w⟩
          change eb_Sn _ _ _ 193 _ [] _ _
          exact eb_return (pc := 193) rfl rfl w
        · replace w := w.2 c41
          refine eb_aload_n (pc := 167) (n := 0) (i := 0) rfl rfl rfl ?_
          refine eb_getI (pc := 168) rfl rfl (by decide) (by decide) rfl ?_
          refine eb_iconst (pc := 171) (n := 2) (v := 2) rfl rfl ?_
          refine eb_icmp_ne (pc := 172) (tgt := 193) rfl (by decide) (fun c45 => ?_) (fun c45 => ?_)
          · replace w := w.1 c45
            exact eb_return (pc := 193) rfl rfl w
          · replace w := w.2 c45
            refine eb_aload_n (pc := 175) (n := 0) (i := 0) rfl rfl rfl ?_
            refine eb_getI (pc := 176) rfl rfl (by decide) (by decide) rfl ?_
            refine eb_aload_n (pc := 179) (n := 0) (i := 0) rfl rfl rfl ?_
            refine eb_getI (pc := 180) rfl rfl (by decide) (by decide) rfl ?_
            refine eb_isub (pc := 183) rfl ?_
            refine eb_iconst (pc := 184) (n := 3) (v := 3) rfl rfl ?_
            refine eb_icmp_le (pc := 185) (tgt := 193) rfl (by decide) (fun c46 => ?_) (fun c46 => ?_)
            · replace w := w.1 c46
              exact eb_return (pc := 193) rfl rfl w
            · replace w := w.2 c46
              refine eb_aload_n (pc := 188) (n := 0) (i := 0) rfl rfl rfl ?_
              refine eb_iconst (pc := 189) (n := 1) (v := 1) rfl rfl ?_
              refine eb_ctV (pc := 190) (As := [.int 1]) (rest := []) rfl (by decide) rfl rfl (by decide) rfl (Nat.le_of_ble_eq_true rfl) ?_
              refine eb_Ct.mono w ?_
              rintro r h47 ⟨rfl, ko49, w⟩
              change eb_Sn _ _ _ 193 _ [] _ _
              exact eb_return (pc := 193) rfl rfl w
    · replace w := w.2 c27
      refine eb_aload_n (pc := 130) (n := 0) (i := 0) rfl rfl rfl ?_
      refine eb_dupr (pc := 131) rfl ?_
      refine eb_getI (pc := 132) rfl rfl (by decide) (by decide) rfl ?_
      refine eb_iconst (pc := 135) (n := 1) (v := 1) rfl rfl ?_
      refine eb_iadd (pc := 136) rfl ?_
      refine eb_putI (pc := 137) rfl rfl (by decide) (by decide) rfl rfl ⟨rfl, rfl⟩ ?_
      refine eb_goto (pc := 140) (tgt := 104) rfl (by decide) ?_
      exact eb_pick [0] rfl w
theorem T_X7_advance {d : Nat} {h : eb_H} {Q : Option Value → eb_H → Prop}   (ko : eb_KO h) (w : (((eb_I h s_tape 7) = 0 → eb_Sn (d + 1) m_X7_advance h 16 [(0, .ref s_tape)] [] (eb_sI h s_tape 3 (eb_I h s_tape 4)) Q) ∧ (¬ ((eb_I h s_tape 7) = 0) → Q none h))) : eb_Ct (d + 1) 69 [.ref s_tape] h Q :=
  eb_bodyQ (by decide) ok_X7_advance (Nat.le_of_ble_eq_true rfl) (b_X7_advance_0 (h0 := h)   ko w)
