theorem b_X2_holds_0 {d : Nat} {h0 h : eb_H} {Q : Option Value → eb_H → Prop} (a0 : Nat) (x1 : Int32) (x2 : Int32) (x3 : Int32) (x4 : Int32) (x5 : Int32) (x6 : Int32) (ka0 : eb_kd a0 = 2) (ko : eb_KO h) (w : ∃ r1, eb_R h a0 2 = some r1 ∧ eb_kd r1 = 19 ∧ (vp_in (0 : Int32) (eb_ln r1)) ∧ (vp_in (1 : Int32) (eb_ln r1)) ∧ (vp_in (2 : Int32) (eb_ln r1)) ∧ (vp_in (3 : Int32) (eb_ln r1)) ∧ (vp_in (4 : Int32) (eb_ln r1)) ∧ (vp_in (5 : Int32) (eb_ln r1)) ∧ eb_Sn (d + 1) m_X2_holds h0 51 [(0, .ref a0), (7, .int 0), (8, .int 0)] [] (eb_sI (eb_sI (eb_sI (eb_sI (eb_sI (eb_sI h r1 (0 : Int32).toNatClampNeg x1) r1 (1 : Int32).toNatClampNeg x2) r1 (2 : Int32).toNatClampNeg x3) r1 (3 : Int32).toNatClampNeg x4) r1 (4 : Int32).toNatClampNeg x5) r1 (5 : Int32).toNatClampNeg x6) Q) : eb_Sn (d + 1) m_X2_holds h0 0 [(0, .ref a0), (1, .int x1), (2, .int x2), (3, .int x3), (4, .int x4), (5, .int x5), (6, .int x6)] [] h Q := by
  refine eb_aload_n (pc := 0) (n := 0) (i := 0) rfl rfl rfl ?_
  obtain ⟨r1, q2, k3, w⟩ := w
  refine eb_getR (pc := 1) rfl ka0 (by decide) (by decide) rfl q2 ?_
  refine eb_iconst (pc := 4) (n := 0) (v := 0) rfl rfl ?_
  refine eb_iload_n (pc := 5) (n := 1) (i := 1) rfl rfl rfl ?_
  obtain ⟨c4, w⟩ := w
  refine eb_iastore (pc := 6) rfl k3 (by decide) c4 ?_
  refine eb_aload_n (pc := 7) (n := 0) (i := 0) rfl rfl rfl ?_
  refine eb_getR (pc := 8) rfl ka0 (by decide) (by decide) rfl q2 ?_
  refine eb_iconst (pc := 11) (n := 1) (v := 1) rfl rfl ?_
  refine eb_iload_n (pc := 12) (n := 2) (i := 2) rfl rfl rfl ?_
  obtain ⟨c5, w⟩ := w
  refine eb_iastore (pc := 13) rfl k3 (by decide) c5 ?_
  refine eb_aload_n (pc := 14) (n := 0) (i := 0) rfl rfl rfl ?_
  refine eb_getR (pc := 15) rfl ka0 (by decide) (by decide) rfl q2 ?_
  refine eb_iconst (pc := 18) (n := 2) (v := 2) rfl rfl ?_
  refine eb_iload_n (pc := 19) (n := 3) (i := 3) rfl rfl rfl ?_
  obtain ⟨c6, w⟩ := w
  refine eb_iastore (pc := 20) rfl k3 (by decide) c6 ?_
  refine eb_aload_n (pc := 21) (n := 0) (i := 0) rfl rfl rfl ?_
  refine eb_getR (pc := 22) rfl ka0 (by decide) (by decide) rfl q2 ?_
  refine eb_iconst (pc := 25) (n := 3) (v := 3) rfl rfl ?_
  refine eb_iload (pc := 26) (i := 4) rfl rfl ?_
  obtain ⟨c7, w⟩ := w
  refine eb_iastore (pc := 28) rfl k3 (by decide) c7 ?_
  refine eb_aload_n (pc := 29) (n := 0) (i := 0) rfl rfl rfl ?_
  refine eb_getR (pc := 30) rfl ka0 (by decide) (by decide) rfl q2 ?_
  refine eb_iconst (pc := 33) (n := 4) (v := 4) rfl rfl ?_
  refine eb_iload (pc := 34) (i := 5) rfl rfl ?_
  obtain ⟨c8, w⟩ := w
  refine eb_iastore (pc := 36) rfl k3 (by decide) c8 ?_
  refine eb_aload_n (pc := 37) (n := 0) (i := 0) rfl rfl rfl ?_
  refine eb_getR (pc := 38) rfl ka0 (by decide) (by decide) rfl q2 ?_
  refine eb_iconst (pc := 41) (n := 5) (v := 5) rfl rfl ?_
  refine eb_iload (pc := 42) (i := 6) rfl rfl ?_
  obtain ⟨c9, w⟩ := w
  refine eb_iastore (pc := 44) rfl k3 (by decide) c9 ?_
  refine eb_iconst (pc := 45) (n := 0) (v := 0) rfl rfl ?_
  refine eb_istore (pc := 46) (i := 7) (ls2 := [(7, .int 0), (0, .ref a0), (1, .int x1), (2, .int x2), (3, .int x3), (4, .int x4), (5, .int x5), (6, .int x6)]) (Nat.le_of_ble_eq_true rfl) rfl rfl ?_
  refine eb_iconst (pc := 48) (n := 0) (v := 0) rfl rfl ?_
  refine eb_istore (pc := 49) (i := 8) (ls2 := [(8, .int 0), (7, .int 0), (0, .ref a0), (1, .int x1), (2, .int x2), (3, .int x3), (4, .int x4), (5, .int x5), (6, .int x6)]) (Nat.le_of_ble_eq_true rfl) rfl rfl ?_
  exact eb_pick [2, 1, 0] rfl w
theorem b_X2_holds_51 {d : Nat} {h0 h : eb_H} {Q : Option Value → eb_H → Prop} (a0 : Nat) (x7 : Int32) (x8 : Int32) (ka0 : eb_kd a0 = 2) (ko : eb_KO h) (w : ∃ r1, eb_R h a0 0 = some r1 ∧ eb_kd r1 = 13 ∧ (((Int32.ofNat (eb_ln r1)) ≤ x8 → ((x7 ≤ 0 → Q (some (.int 0)) h) ∧ (¬ (x7 ≤ 0) → ∃ r6, eb_R h a0 1 = some r6 ∧ eb_kd r6 = 19 ∧ (vp_in (0 : Int32) (eb_ln r6)) ∧ Q (some (.int (eb_q (¬ ((eb_I h r6 (0 : Int32).toNatClampNeg) = 0))))) h))) ∧ (¬ ((Int32.ofNat (eb_ln r1)) ≤ x8) → (vp_in x8 (eb_ln r1)) ∧ ((x7 < (if (1005 : Int32) < (eb_I h r1 x8.toNatClampNeg) then (if (eb_I h r1 x8.toNatClampNeg) = (1040 : Int32) then 1 else 2) else 0 : Int32) → Q (some (.int 0)) h) ∧ (¬ (x7 < (if (1005 : Int32) < (eb_I h r1 x8.toNatClampNeg) then (if (eb_I h r1 x8.toNatClampNeg) = (1040 : Int32) then 1 else 2) else 0 : Int32)) → ∃ r19, eb_R h a0 1 = some r19 ∧ eb_kd r19 = 19 ∧ (((x7 - (if (1005 : Int32) < (eb_I h r1 x8.toNatClampNeg) then (if (eb_I h r1 x8.toNatClampNeg) = (1040 : Int32) then 1 else 2) else 0 : Int32)) < (Int32.ofNat (eb_ln r19)) → ((¬ (if (1005 : Int32) < (eb_I h r1 x8.toNatClampNeg) then (if (eb_I h r1 x8.toNatClampNeg) = (1040 : Int32) then 1 else 2) else 0 : Int32) = 0 → (vp_in (x7 - 1) (eb_ln r19)) ∧ ((¬ (if (1005 : Int32) < (eb_I h r1 x8.toNatClampNeg) then (if (eb_I h r1 x8.toNatClampNeg) = (1040 : Int32) then 1 else 2) else 0 : Int32) = (2 : Int32) → eb_Ct d 26 [.ref a0, .int (eb_I h r1 x8.toNatClampNeg), .int 0, .int (eb_I h r19 (x7 - 1).toNatClampNeg)] h (fun r h26 => ∃ y27, r = some (.int y27) ∧ eb_KO h26 ∧ (vp_in (x7 - (if (1005 : Int32) < (eb_I h r1 x8.toNatClampNeg) then (if (eb_I h r1 x8.toNatClampNeg) = (1040 : Int32) then 1 else 2) else 0 : Int32)) (eb_ln r19)) ∧ eb_Sn (d + 1) m_X2_holds h0 51 [(0, .ref a0), (7, .int ((x7 - (if (1005 : Int32) < (eb_I h r1 x8.toNatClampNeg) then (if (eb_I h r1 x8.toNatClampNeg) = (1040 : Int32) then 1 else 2) else 0 : Int32)) + 1)), (8, .int (x8 + 1))] [] (eb_sI h26 r19 (x7 - (if (1005 : Int32) < (eb_I h r1 x8.toNatClampNeg) then (if (eb_I h r1 x8.toNatClampNeg) = (1040 : Int32) then 1 else 2) else 0 : Int32)).toNatClampNeg y27) Q)) ∧ ((if (1005 : Int32) < (eb_I h r1 x8.toNatClampNeg) then (if (eb_I h r1 x8.toNatClampNeg) = (1040 : Int32) then 1 else 2) else 0 : Int32) = (2 : Int32) → (vp_in (x7 - (if (1005 : Int32) < (eb_I h r1 x8.toNatClampNeg) then (if (eb_I h r1 x8.toNatClampNeg) = (1040 : Int32) then 1 else 2) else 0 : Int32)) (eb_ln r19)) ∧ eb_Ct d 26 [.ref a0, .int (eb_I h r1 x8.toNatClampNeg), .int (eb_I h r19 (x7 - (if (1005 : Int32) < (eb_I h r1 x8.toNatClampNeg) then (if (eb_I h r1 x8.toNatClampNeg) = (1040 : Int32) then 1 else 2) else 0 : Int32)).toNatClampNeg), .int (eb_I h r19 (x7 - 1).toNatClampNeg)] h (fun r h31 => ∃ y32, r = some (.int y32) ∧ eb_KO h31 ∧ (vp_in (x7 - (if (1005 : Int32) < (eb_I h r1 x8.toNatClampNeg) then (if (eb_I h r1 x8.toNatClampNeg) = (1040 : Int32) then 1 else 2) else 0 : Int32)) (eb_ln r19)) ∧ eb_Sn (d + 1) m_X2_holds h0 51 [(0, .ref a0), (7, .int ((x7 - (if (1005 : Int32) < (eb_I h r1 x8.toNatClampNeg) then (if (eb_I h r1 x8.toNatClampNeg) = (1040 : Int32) then 1 else 2) else 0 : Int32)) + 1)), (8, .int (x8 + 1))] [] (eb_sI h31 r19 (x7 - (if (1005 : Int32) < (eb_I h r1 x8.toNatClampNeg) then (if (eb_I h r1 x8.toNatClampNeg) = (1040 : Int32) then 1 else 2) else 0 : Int32)).toNatClampNeg y32) Q)))) ∧ ((if (1005 : Int32) < (eb_I h r1 x8.toNatClampNeg) then (if (eb_I h r1 x8.toNatClampNeg) = (1040 : Int32) then 1 else 2) else 0 : Int32) = 0 → ((¬ (if (1005 : Int32) < (eb_I h r1 x8.toNatClampNeg) then (if (eb_I h r1 x8.toNatClampNeg) = (1040 : Int32) then 1 else 2) else 0 : Int32) = (2 : Int32) → eb_Ct d 26 [.ref a0, .int (eb_I h r1 x8.toNatClampNeg), .int 0, .int 0] h (fun r h36 => ∃ y37, r = some (.int y37) ∧ eb_KO h36 ∧ (vp_in (x7 - (if (1005 : Int32) < (eb_I h r1 x8.toNatClampNeg) then (if (eb_I h r1 x8.toNatClampNeg) = (1040 : Int32) then 1 else 2) else 0 : Int32)) (eb_ln r19)) ∧ eb_Sn (d + 1) m_X2_holds h0 51 [(0, .ref a0), (7, .int ((x7 - (if (1005 : Int32) < (eb_I h r1 x8.toNatClampNeg) then (if (eb_I h r1 x8.toNatClampNeg) = (1040 : Int32) then 1 else 2) else 0 : Int32)) + 1)), (8, .int (x8 + 1))] [] (eb_sI h36 r19 (x7 - (if (1005 : Int32) < (eb_I h r1 x8.toNatClampNeg) then (if (eb_I h r1 x8.toNatClampNeg) = (1040 : Int32) then 1 else 2) else 0 : Int32)).toNatClampNeg y37) Q)) ∧ ((if (1005 : Int32) < (eb_I h r1 x8.toNatClampNeg) then (if (eb_I h r1 x8.toNatClampNeg) = (1040 : Int32) then 1 else 2) else 0 : Int32) = (2 : Int32) → (vp_in (x7 - (if (1005 : Int32) < (eb_I h r1 x8.toNatClampNeg) then (if (eb_I h r1 x8.toNatClampNeg) = (1040 : Int32) then 1 else 2) else 0 : Int32)) (eb_ln r19)) ∧ eb_Ct d 26 [.ref a0, .int (eb_I h r1 x8.toNatClampNeg), .int (eb_I h r19 (x7 - (if (1005 : Int32) < (eb_I h r1 x8.toNatClampNeg) then (if (eb_I h r1 x8.toNatClampNeg) = (1040 : Int32) then 1 else 2) else 0 : Int32)).toNatClampNeg), .int 0] h (fun r h41 => ∃ y42, r = some (.int y42) ∧ eb_KO h41 ∧ (vp_in (x7 - (if (1005 : Int32) < (eb_I h r1 x8.toNatClampNeg) then (if (eb_I h r1 x8.toNatClampNeg) = (1040 : Int32) then 1 else 2) else 0 : Int32)) (eb_ln r19)) ∧ eb_Sn (d + 1) m_X2_holds h0 51 [(0, .ref a0), (7, .int ((x7 - (if (1005 : Int32) < (eb_I h r1 x8.toNatClampNeg) then (if (eb_I h r1 x8.toNatClampNeg) = (1040 : Int32) then 1 else 2) else 0 : Int32)) + 1)), (8, .int (x8 + 1))] [] (eb_sI h41 r19 (x7 - (if (1005 : Int32) < (eb_I h r1 x8.toNatClampNeg) then (if (eb_I h r1 x8.toNatClampNeg) = (1040 : Int32) then 1 else 2) else 0 : Int32)).toNatClampNeg y42) Q)))))) ∧ (¬ ((x7 - (if (1005 : Int32) < (eb_I h r1 x8.toNatClampNeg) then (if (eb_I h r1 x8.toNatClampNeg) = (1040 : Int32) then 1 else 2) else 0 : Int32)) < (Int32.ofNat (eb_ln r19))) → Q (some (.int 0)) h))))))) : eb_Sn (d + 1) m_X2_holds h0 51 [(0, .ref a0), (7, .int x7), (8, .int x8)] [] h Q := by
  refine eb_iload (pc := 51) (i := 8) rfl rfl ?_
  refine eb_aload_n (pc := 53) (n := 0) (i := 0) rfl rfl rfl ?_
  obtain ⟨r1, q2, k3, w⟩ := w
  refine eb_getR (pc := 54) rfl ka0 (by decide) (by decide) rfl q2 ?_
  refine eb_alen (pc := 57) rfl (by rw [k3]; decide) (by rw [k3]; decide) rfl ?_
  refine eb_icmp_ge (pc := 58) (tgt := 187) rfl (by decide) (fun c4 => ?_) (fun c4 => ?_)
  · replace w := w.1 c4
    refine eb_iload (pc := 187) (i := 7) rfl rfl ?_
    refine eb_if_le (pc := 189) (tgt := 205) rfl (by decide) (fun c5 => ?_) (fun c5 => ?_)
    · replace w := w.1 c5
      refine eb_iconst (pc := 205) (n := 0) (v := 0) rfl rfl ?_
      exact eb_ireturn (pc := 206) rfl rfl (by decide) w
    · replace w := w.2 c5
      refine eb_aload_n (pc := 192) (n := 0) (i := 0) rfl rfl rfl ?_
      obtain ⟨r6, q7, k8, w⟩ := w
      refine eb_getR (pc := 193) rfl ka0 (by decide) (by decide) rfl q7 ?_
      refine eb_iconst (pc := 196) (n := 0) (v := 0) rfl rfl ?_
      obtain ⟨c9, w⟩ := w
      refine eb_iaload (pc := 197) rfl k8 (by decide) c9 ?_
      refine eb_joinI (pc2 := 206) (ls2 := [(0, .ref a0), (7, .int x7), (8, .int x8)]) (st2 := []) (v := eb_q (¬ ((eb_I h r6 (0 : Int32).toNatClampNeg) = 0))) ?_ (fun jj11 => ?_)
      · exact eb_ireturn (pc := 206) rfl rfl eb_qn w
      refine eb_if_eq (pc := 198) (tgt := 205) rfl (by decide) (fun c10 => ?_) (fun c10 => ?_)
      · refine eb_iconst (pc := 205) (n := 0) (v := 0) rfl rfl ?_
        exact jj11 0 (eb_qf (fun z => z c10)).symm
      · refine eb_iconst (pc := 201) (n := 1) (v := 1) rfl rfl ?_
        refine eb_goto (pc := 202) (tgt := 206) rfl (by decide) ?_
        exact jj11 1 (eb_qt c10).symm
  · replace w := w.2 c4
    refine eb_aload_n (pc := 61) (n := 0) (i := 0) rfl rfl rfl ?_
    refine eb_getR (pc := 62) rfl ka0 (by decide) (by decide) rfl q2 ?_
    refine eb_iload (pc := 65) (i := 8) rfl rfl ?_
    obtain ⟨c13, w⟩ := w
    refine eb_iaload (pc := 67) rfl k3 (by decide) c13 ?_
    refine eb_istore (pc := 68) (i := 9) (ls2 := [(9, .int (eb_I h r1 x8.toNatClampNeg)), (0, .ref a0), (7, .int x7), (8, .int x8)]) (Nat.le_of_ble_eq_true rfl) rfl rfl ?_
    refine eb_iload (pc := 70) (i := 9) rfl rfl ?_
    refine eb_sipush (pc := 72) (n := 1005) (v := 1005) rfl rfl ?_
    refine eb_joinI (pc2 := 95) (ls2 := [(9, .int (eb_I h r1 x8.toNatClampNeg)), (0, .ref a0), (7, .int x7), (8, .int x8)]) (st2 := []) (v := (if (1005 : Int32) < (eb_I h r1 x8.toNatClampNeg) then (if (eb_I h r1 x8.toNatClampNeg) = (1040 : Int32) then 1 else 2) else 0 : Int32)) ?_ (fun jj16 => ?_)
    · refine eb_istore (pc := 95) (i := 10) (ls2 := [(10, .int (if (1005 : Int32) < (eb_I h r1 x8.toNatClampNeg) then (if (eb_I h r1 x8.toNatClampNeg) = (1040 : Int32) then 1 else 2) else 0 : Int32)), (9, .int (eb_I h r1 x8.toNatClampNeg)), (0, .ref a0), (7, .int x7), (8, .int x8)]) (Nat.le_of_ble_eq_true rfl) rfl rfl ?_
      refine eb_iload (pc := 97) (i := 7) rfl rfl ?_
      refine eb_iload (pc := 99) (i := 10) rfl rfl ?_
      refine eb_icmp_lt (pc := 101) (tgt := 117) rfl (by decide) (fun c18 => ?_) (fun c18 => ?_)
      · replace w := w.1 c18
        refine eb_iconst (pc := 117) (n := 0) (v := 0) rfl rfl ?_
        exact eb_ireturn (pc := 118) rfl rfl (by decide) w
      · replace w := w.2 c18
        refine eb_iload (pc := 104) (i := 7) rfl rfl ?_
        refine eb_iload (pc := 106) (i := 10) rfl rfl ?_
        refine eb_isub (pc := 108) rfl ?_
        refine eb_aload_n (pc := 109) (n := 0) (i := 0) rfl rfl rfl ?_
        obtain ⟨r19, q20, k21, w⟩ := w
        refine eb_getR (pc := 110) rfl ka0 (by decide) (by decide) rfl q20 ?_
        refine eb_alen (pc := 113) rfl (by rw [k21]; decide) (by rw [k21]; decide) rfl ?_
        refine eb_icmp_lt (pc := 114) (tgt := 119) rfl (by decide) (fun c22 => ?_) (fun c22 => ?_)
        · replace w := w.1 c22
          refine eb_iload (pc := 119) (i := 10) rfl rfl ?_
          refine eb_if_ne (pc := 121) (tgt := 128) rfl (by decide) (fun c23 => ?_) (fun c23 => ?_)
          · replace w := w.1 c23
            refine eb_aload_n (pc := 128) (n := 0) (i := 0) rfl rfl rfl ?_
            refine eb_getR (pc := 129) rfl ka0 (by decide) (by decide) rfl q20 ?_
            refine eb_iload (pc := 132) (i := 7) rfl rfl ?_
            refine eb_iconst (pc := 134) (n := 1) (v := 1) rfl rfl ?_
            refine eb_isub (pc := 135) rfl ?_
            obtain ⟨c24, w⟩ := w
            refine eb_iaload (pc := 136) rfl k21 (by decide) c24 ?_
            refine eb_istore (pc := 137) (i := 11) (ls2 := [(11, .int (eb_I h r19 (x7 - 1).toNatClampNeg)), (10, .int (if (1005 : Int32) < (eb_I h r1 x8.toNatClampNeg) then (if (eb_I h r1 x8.toNatClampNeg) = (1040 : Int32) then 1 else 2) else 0 : Int32)), (9, .int (eb_I h r1 x8.toNatClampNeg)), (0, .ref a0), (7, .int x7), (8, .int x8)]) (Nat.le_of_ble_eq_true rfl) rfl rfl ?_
            refine eb_iload (pc := 139) (i := 7) rfl rfl ?_
            refine eb_iload (pc := 141) (i := 10) rfl rfl ?_
            refine eb_isub (pc := 143) rfl ?_
            refine eb_istore (pc := 144) (i := 7) (ls2 := [(7, .int (x7 - (if (1005 : Int32) < (eb_I h r1 x8.toNatClampNeg) then (if (eb_I h r1 x8.toNatClampNeg) = (1040 : Int32) then 1 else 2) else 0 : Int32))), (11, .int (eb_I h r19 (x7 - 1).toNatClampNeg)), (10, .int (if (1005 : Int32) < (eb_I h r1 x8.toNatClampNeg) then (if (eb_I h r1 x8.toNatClampNeg) = (1040 : Int32) then 1 else 2) else 0 : Int32)), (9, .int (eb_I h r1 x8.toNatClampNeg)), (0, .ref a0), (8, .int x8)]) (Nat.le_of_ble_eq_true rfl) rfl rfl ?_
            refine eb_aload_n (pc := 146) (n := 0) (i := 0) rfl rfl rfl ?_
            refine eb_getR (pc := 147) rfl ka0 (by decide) (by decide) rfl q20 ?_
            refine eb_iload (pc := 150) (i := 7) rfl rfl ?_
            refine eb_aload_n (pc := 152) (n := 0) (i := 0) rfl rfl rfl ?_
            refine eb_iload (pc := 153) (i := 9) rfl rfl ?_
            refine eb_iload (pc := 155) (i := 10) rfl rfl ?_
            refine eb_iconst (pc := 157) (n := 2) (v := 2) rfl rfl ?_
            refine eb_icmp_ne (pc := 158) (tgt := 171) rfl (by decide) (fun c25 => ?_) (fun c25 => ?_)
            · replace w := w.1 c25
              refine eb_iconst (pc := 171) (n := 0) (v := 0) rfl rfl ?_
              refine eb_iload (pc := 172) (i := 11) rfl rfl ?_
              refine eb_ctV (pc := 174) (As := [.int (eb_I h r1 x8.toNatClampNeg), .int 0, .int (eb_I h r19 (x7 - 1).toNatClampNeg)]) (rest := [.int (x7 - (if (1005 : Int32) < (eb_I h r1 x8.toNatClampNeg) then (if (eb_I h r1 x8.toNatClampNeg) = (1040 : Int32) then 1 else 2) else 0 : Int32)), .ref r19]) rfl (by decide) rfl ka0 (by decide) rfl (Nat.le_of_ble_eq_true rfl) ?_
              refine eb_Ct.mono w ?_
              rintro r h26 ⟨y27, rfl, ko28, w⟩
              change eb_Sn _ _ _ 177 _ [.int y27, .int (x7 - (if (1005 : Int32) < (eb_I h r1 x8.toNatClampNeg) then (if (eb_I h r1 x8.toNatClampNeg) = (1040 : Int32) then 1 else 2) else 0 : Int32)), .ref r19] _ _
              obtain ⟨c29, w⟩ := w
              refine eb_iastore (pc := 177) rfl k21 (by decide) c29 ?_
              refine eb_iinc (pc := 178) (i := 7) (n := 1) (v := (x7 - (if (1005 : Int32) < (eb_I h r1 x8.toNatClampNeg) then (if (eb_I h r1 x8.toNatClampNeg) = (1040 : Int32) then 1 else 2) else 0 : Int32)) + 1) (ls2 := [(7, .int ((x7 - (if (1005 : Int32) < (eb_I h r1 x8.toNatClampNeg) then (if (eb_I h r1 x8.toNatClampNeg) = (1040 : Int32) then 1 else 2) else 0 : Int32)) + 1)), (11, .int (eb_I h r19 (x7 - 1).toNatClampNeg)), (10, .int (if (1005 : Int32) < (eb_I h r1 x8.toNatClampNeg) then (if (eb_I h r1 x8.toNatClampNeg) = (1040 : Int32) then 1 else 2) else 0 : Int32)), (9, .int (eb_I h r1 x8.toNatClampNeg)), (0, .ref a0), (8, .int x8)]) (Nat.le_of_ble_eq_true rfl) rfl rfl rfl rfl ?_
              refine eb_iinc (pc := 181) (i := 8) (n := 1) (v := x8 + 1) (ls2 := [(8, .int (x8 + 1)), (7, .int ((x7 - (if (1005 : Int32) < (eb_I h r1 x8.toNatClampNeg) then (if (eb_I h r1 x8.toNatClampNeg) = (1040 : Int32) then 1 else 2) else 0 : Int32)) + 1)), (11, .int (eb_I h r19 (x7 - 1).toNatClampNeg)), (10, .int (if (1005 : Int32) < (eb_I h r1 x8.toNatClampNeg) then (if (eb_I h r1 x8.toNatClampNeg) = (1040 : Int32) then 1 else 2) else 0 : Int32)), (9, .int (eb_I h r1 x8.toNatClampNeg)), (0, .ref a0)]) (Nat.le_of_ble_eq_true rfl) rfl rfl rfl rfl ?_
              refine eb_goto (pc := 184) (tgt := 51) rfl (by decide) ?_
              exact eb_pick [5, 1, 0] rfl w
            · replace w := w.2 c25
              refine eb_aload_n (pc := 161) (n := 0) (i := 0) rfl rfl rfl ?_
              refine eb_getR (pc := 162) rfl ka0 (by decide) (by decide) rfl q20 ?_
              refine eb_iload (pc := 165) (i := 7) rfl rfl ?_
              obtain ⟨c30, w⟩ := w
              refine eb_iaload (pc := 167) rfl k21 (by decide) c30 ?_
              refine eb_goto (pc := 168) (tgt := 172) rfl (by decide) ?_
              refine eb_iload (pc := 172) (i := 11) rfl rfl ?_
              refine eb_ctV (pc := 174) (As := [.int (eb_I h r1 x8.toNatClampNeg), .int (eb_I h r19 (x7 - (if (1005 : Int32) < (eb_I h r1 x8.toNatClampNeg) then (if (eb_I h r1 x8.toNatClampNeg) = (1040 : Int32) then 1 else 2) else 0 : Int32)).toNatClampNeg), .int (eb_I h r19 (x7 - 1).toNatClampNeg)]) (rest := [.int (x7 - (if (1005 : Int32) < (eb_I h r1 x8.toNatClampNeg) then (if (eb_I h r1 x8.toNatClampNeg) = (1040 : Int32) then 1 else 2) else 0 : Int32)), .ref r19]) rfl (by decide) rfl ka0 (by decide) rfl (Nat.le_of_ble_eq_true rfl) ?_
              refine eb_Ct.mono w ?_
              rintro r h31 ⟨y32, rfl, ko33, w⟩
              change eb_Sn _ _ _ 177 _ [.int y32, .int (x7 - (if (1005 : Int32) < (eb_I h r1 x8.toNatClampNeg) then (if (eb_I h r1 x8.toNatClampNeg) = (1040 : Int32) then 1 else 2) else 0 : Int32)), .ref r19] _ _
              obtain ⟨c34, w⟩ := w
              refine eb_iastore (pc := 177) rfl k21 (by decide) c34 ?_
              refine eb_iinc (pc := 178) (i := 7) (n := 1) (v := (x7 - (if (1005 : Int32) < (eb_I h r1 x8.toNatClampNeg) then (if (eb_I h r1 x8.toNatClampNeg) = (1040 : Int32) then 1 else 2) else 0 : Int32)) + 1) (ls2 := [(7, .int ((x7 - (if (1005 : Int32) < (eb_I h r1 x8.toNatClampNeg) then (if (eb_I h r1 x8.toNatClampNeg) = (1040 : Int32) then 1 else 2) else 0 : Int32)) + 1)), (11, .int (eb_I h r19 (x7 - 1).toNatClampNeg)), (10, .int (if (1005 : Int32) < (eb_I h r1 x8.toNatClampNeg) then (if (eb_I h r1 x8.toNatClampNeg) = (1040 : Int32) then 1 else 2) else 0 : Int32)), (9, .int (eb_I h r1 x8.toNatClampNeg)), (0, .ref a0), (8, .int x8)]) (Nat.le_of_ble_eq_true rfl) rfl rfl rfl rfl ?_
              refine eb_iinc (pc := 181) (i := 8) (n := 1) (v := x8 + 1) (ls2 := [(8, .int (x8 + 1)), (7, .int ((x7 - (if (1005 : Int32) < (eb_I h r1 x8.toNatClampNeg) then (if (eb_I h r1 x8.toNatClampNeg) = (1040 : Int32) then 1 else 2) else 0 : Int32)) + 1)), (11, .int (eb_I h r19 (x7 - 1).toNatClampNeg)), (10, .int (if (1005 : Int32) < (eb_I h r1 x8.toNatClampNeg) then (if (eb_I h r1 x8.toNatClampNeg) = (1040 : Int32) then 1 else 2) else 0 : Int32)), (9, .int (eb_I h r1 x8.toNatClampNeg)), (0, .ref a0)]) (Nat.le_of_ble_eq_true rfl) rfl rfl rfl rfl ?_
              refine eb_goto (pc := 184) (tgt := 51) rfl (by decide) ?_
              exact eb_pick [5, 1, 0] rfl w
          · replace w := w.2 c23
            refine eb_iconst (pc := 124) (n := 0) (v := 0) rfl rfl ?_
            refine eb_goto (pc := 125) (tgt := 137) rfl (by decide) ?_
            refine eb_istore (pc := 137) (i := 11) (ls2 := [(11, .int 0), (10, .int (if (1005 : Int32) < (eb_I h r1 x8.toNatClampNeg) then (if (eb_I h r1 x8.toNatClampNeg) = (1040 : Int32) then 1 else 2) else 0 : Int32)), (9, .int (eb_I h r1 x8.toNatClampNeg)), (0, .ref a0), (7, .int x7), (8, .int x8)]) (Nat.le_of_ble_eq_true rfl) rfl rfl ?_
            refine eb_iload (pc := 139) (i := 7) rfl rfl ?_
            refine eb_iload (pc := 141) (i := 10) rfl rfl ?_
            refine eb_isub (pc := 143) rfl ?_
            refine eb_istore (pc := 144) (i := 7) (ls2 := [(7, .int (x7 - (if (1005 : Int32) < (eb_I h r1 x8.toNatClampNeg) then (if (eb_I h r1 x8.toNatClampNeg) = (1040 : Int32) then 1 else 2) else 0 : Int32))), (11, .int 0), (10, .int (if (1005 : Int32) < (eb_I h r1 x8.toNatClampNeg) then (if (eb_I h r1 x8.toNatClampNeg) = (1040 : Int32) then 1 else 2) else 0 : Int32)), (9, .int (eb_I h r1 x8.toNatClampNeg)), (0, .ref a0), (8, .int x8)]) (Nat.le_of_ble_eq_true rfl) rfl rfl ?_
            refine eb_aload_n (pc := 146) (n := 0) (i := 0) rfl rfl rfl ?_
            refine eb_getR (pc := 147) rfl ka0 (by decide) (by decide) rfl q20 ?_
            refine eb_iload (pc := 150) (i := 7) rfl rfl ?_
            refine eb_aload_n (pc := 152) (n := 0) (i := 0) rfl rfl rfl ?_
            refine eb_iload (pc := 153) (i := 9) rfl rfl ?_
            refine eb_iload (pc := 155) (i := 10) rfl rfl ?_
            refine eb_iconst (pc := 157) (n := 2) (v := 2) rfl rfl ?_
            refine eb_icmp_ne (pc := 158) (tgt := 171) rfl (by decide) (fun c35 => ?_) (fun c35 => ?_)
            · replace w := w.1 c35
              refine eb_iconst (pc := 171) (n := 0) (v := 0) rfl rfl ?_
              refine eb_iload (pc := 172) (i := 11) rfl rfl ?_
              refine eb_ctV (pc := 174) (As := [.int (eb_I h r1 x8.toNatClampNeg), .int 0, .int 0]) (rest := [.int (x7 - (if (1005 : Int32) < (eb_I h r1 x8.toNatClampNeg) then (if (eb_I h r1 x8.toNatClampNeg) = (1040 : Int32) then 1 else 2) else 0 : Int32)), .ref r19]) rfl (by decide) rfl ka0 (by decide) rfl (Nat.le_of_ble_eq_true rfl) ?_
              refine eb_Ct.mono w ?_
              rintro r h36 ⟨y37, rfl, ko38, w⟩
              change eb_Sn _ _ _ 177 _ [.int y37, .int (x7 - (if (1005 : Int32) < (eb_I h r1 x8.toNatClampNeg) then (if (eb_I h r1 x8.toNatClampNeg) = (1040 : Int32) then 1 else 2) else 0 : Int32)), .ref r19] _ _
              obtain ⟨c39, w⟩ := w
              refine eb_iastore (pc := 177) rfl k21 (by decide) c39 ?_
              refine eb_iinc (pc := 178) (i := 7) (n := 1) (v := (x7 - (if (1005 : Int32) < (eb_I h r1 x8.toNatClampNeg) then (if (eb_I h r1 x8.toNatClampNeg) = (1040 : Int32) then 1 else 2) else 0 : Int32)) + 1) (ls2 := [(7, .int ((x7 - (if (1005 : Int32) < (eb_I h r1 x8.toNatClampNeg) then (if (eb_I h r1 x8.toNatClampNeg) = (1040 : Int32) then 1 else 2) else 0 : Int32)) + 1)), (11, .int 0), (10, .int (if (1005 : Int32) < (eb_I h r1 x8.toNatClampNeg) then (if (eb_I h r1 x8.toNatClampNeg) = (1040 : Int32) then 1 else 2) else 0 : Int32)), (9, .int (eb_I h r1 x8.toNatClampNeg)), (0, .ref a0), (8, .int x8)]) (Nat.le_of_ble_eq_true rfl) rfl rfl rfl rfl ?_
              refine eb_iinc (pc := 181) (i := 8) (n := 1) (v := x8 + 1) (ls2 := [(8, .int (x8 + 1)), (7, .int ((x7 - (if (1005 : Int32) < (eb_I h r1 x8.toNatClampNeg) then (if (eb_I h r1 x8.toNatClampNeg) = (1040 : Int32) then 1 else 2) else 0 : Int32)) + 1)), (11, .int 0), (10, .int (if (1005 : Int32) < (eb_I h r1 x8.toNatClampNeg) then (if (eb_I h r1 x8.toNatClampNeg) = (1040 : Int32) then 1 else 2) else 0 : Int32)), (9, .int (eb_I h r1 x8.toNatClampNeg)), (0, .ref a0)]) (Nat.le_of_ble_eq_true rfl) rfl rfl rfl rfl ?_
              refine eb_goto (pc := 184) (tgt := 51) rfl (by decide) ?_
              exact eb_pick [5, 1, 0] rfl w
            · replace w := w.2 c35
              refine eb_aload_n (pc := 161) (n := 0) (i := 0) rfl rfl rfl ?_
              refine eb_getR (pc := 162) rfl ka0 (by decide) (by decide) rfl q20 ?_
              refine eb_iload (pc := 165) (i := 7) rfl rfl ?_
              obtain ⟨c40, w⟩ := w
              refine eb_iaload (pc := 167) rfl k21 (by decide) c40 ?_
              refine eb_goto (pc := 168) (tgt := 172) rfl (by decide) ?_
              refine eb_iload (pc := 172) (i := 11) rfl rfl ?_
              refine eb_ctV (pc := 174) (As := [.int (eb_I h r1 x8.toNatClampNeg), .int (eb_I h r19 (x7 - (if (1005 : Int32) < (eb_I h r1 x8.toNatClampNeg) then (if (eb_I h r1 x8.toNatClampNeg) = (1040 : Int32) then 1 else 2) else 0 : Int32)).toNatClampNeg), .int 0]) (rest := [.int (x7 - (if (1005 : Int32) < (eb_I h r1 x8.toNatClampNeg) then (if (eb_I h r1 x8.toNatClampNeg) = (1040 : Int32) then 1 else 2) else 0 : Int32)), .ref r19]) rfl (by decide) rfl ka0 (by decide) rfl (Nat.le_of_ble_eq_true rfl) ?_
              refine eb_Ct.mono w ?_
              rintro r h41 ⟨y42, rfl, ko43, w⟩
              change eb_Sn _ _ _ 177 _ [.int y42, .int (x7 - (if (1005 : Int32) < (eb_I h r1 x8.toNatClampNeg) then (if (eb_I h r1 x8.toNatClampNeg) = (1040 : Int32) then 1 else 2) else 0 : Int32)), .ref r19] _ _
              obtain ⟨c44, w⟩ := w
              refine eb_iastore (pc := 177) rfl k21 (by decide) c44 ?_
              refine eb_iinc (pc := 178) (i := 7) (n := 1) (v := (x7 - (if (1005 : Int32) < (eb_I h r1 x8.toNatClampNeg) then (if (eb_I h r1 x8.toNatClampNeg) = (1040 : Int32) then 1 else 2) else 0 : Int32)) + 1) (ls2 := [(7, .int ((x7 - (if (1005 : Int32) < (eb_I h r1 x8.toNatClampNeg) then (if (eb_I h r1 x8.toNatClampNeg) = (1040 : Int32) then 1 else 2) else 0 : Int32)) + 1)), (11, .int 0), (10, .int (if (1005 : Int32) < (eb_I h r1 x8.toNatClampNeg) then (if (eb_I h r1 x8.toNatClampNeg) = (1040 : Int32) then 1 else 2) else 0 : Int32)), (9, .int (eb_I h r1 x8.toNatClampNeg)), (0, .ref a0), (8, .int x8)]) (Nat.le_of_ble_eq_true rfl) rfl rfl rfl rfl ?_
              refine eb_iinc (pc := 181) (i := 8) (n := 1) (v := x8 + 1) (ls2 := [(8, .int (x8 + 1)), (7, .int ((x7 - (if (1005 : Int32) < (eb_I h r1 x8.toNatClampNeg) then (if (eb_I h r1 x8.toNatClampNeg) = (1040 : Int32) then 1 else 2) else 0 : Int32)) + 1)), (11, .int 0), (10, .int (if (1005 : Int32) < (eb_I h r1 x8.toNatClampNeg) then (if (eb_I h r1 x8.toNatClampNeg) = (1040 : Int32) then 1 else 2) else 0 : Int32)), (9, .int (eb_I h r1 x8.toNatClampNeg)), (0, .ref a0)]) (Nat.le_of_ble_eq_true rfl) rfl rfl rfl rfl ?_
              refine eb_goto (pc := 184) (tgt := 51) rfl (by decide) ?_
              exact eb_pick [5, 1, 0] rfl w
        · replace w := w.2 c22
          refine eb_iconst (pc := 117) (n := 0) (v := 0) rfl rfl ?_
          exact eb_ireturn (pc := 118) rfl rfl (by decide) w
    refine eb_icmp_gt (pc := 75) (tgt := 82) rfl (by decide) (fun c14 => ?_) (fun c14 => ?_)
    · refine eb_iload (pc := 82) (i := 9) rfl rfl ?_
      refine eb_sipush (pc := 84) (n := 1040) (v := 1040) rfl rfl ?_
      refine eb_icmp_ne (pc := 87) (tgt := 94) rfl (by decide) (fun c15 => ?_) (fun c15 => ?_)
      · refine eb_iconst (pc := 94) (n := 2) (v := 2) rfl rfl ?_
        exact jj16 _ (by simp only [if_pos c14, if_neg c15])
      · refine eb_iconst (pc := 90) (n := 1) (v := 1) rfl rfl ?_
        refine eb_goto (pc := 91) (tgt := 95) rfl (by decide) ?_
        exact jj16 _ (by simp only [if_pos c14, if_pos c15])
    · refine eb_iconst (pc := 78) (n := 0) (v := 0) rfl rfl ?_
      refine eb_goto (pc := 79) (tgt := 95) rfl (by decide) ?_
      exact jj16 _ (by simp only [if_neg c14])
theorem T_X2_holds {d : Nat} {h : eb_H} {Q : Option Value → eb_H → Prop} (a0 : Nat) (x1 : Int32) (x2 : Int32) (x3 : Int32) (x4 : Int32) (x5 : Int32) (x6 : Int32) (ka0 : eb_kd a0 = 2) (ko : eb_KO h) (w : ∃ r1, eb_R h a0 2 = some r1 ∧ eb_kd r1 = 19 ∧ (vp_in (0 : Int32) (eb_ln r1)) ∧ (vp_in (1 : Int32) (eb_ln r1)) ∧ (vp_in (2 : Int32) (eb_ln r1)) ∧ (vp_in (3 : Int32) (eb_ln r1)) ∧ (vp_in (4 : Int32) (eb_ln r1)) ∧ (vp_in (5 : Int32) (eb_ln r1)) ∧ eb_Sn (d + 1) m_X2_holds h 51 [(0, .ref a0), (7, .int 0), (8, .int 0)] [] (eb_sI (eb_sI (eb_sI (eb_sI (eb_sI (eb_sI h r1 (0 : Int32).toNatClampNeg x1) r1 (1 : Int32).toNatClampNeg x2) r1 (2 : Int32).toNatClampNeg x3) r1 (3 : Int32).toNatClampNeg x4) r1 (4 : Int32).toNatClampNeg x5) r1 (5 : Int32).toNatClampNeg x6) Q) : eb_Ct (d + 1) 25 [.ref a0, .int x1, .int x2, .int x3, .int x4, .int x5, .int x6] h Q :=
  eb_bodyQ (by decide) ok_X2_holds (Nat.le_of_ble_eq_true rfl) (b_X2_holds_0 (h0 := h) a0 x1 x2 x3 x4 x5 x6 ka0 ko w)
theorem b_X2_weigh_0 {d : Nat} {h0 h : eb_H} {Q : Option Value → eb_H → Prop} (a0 : Nat) (x1 : Int32) (x2 : Int32) (x3 : Int32) (ka0 : eb_kd a0 = 2) (ko : eb_KO h) (w : ((x1 = 1020 → Q (some (.int (x2 ||| x3))) h) ∧ (x1 = 1030 → Q (some (.int (x2 &&& x3))) h) ∧ (x1 = 1040 → Q (some (.int (eb_q (x3 = 0)))) h) ∧ (x1 = 1050 → Q (some (.int (eb_q (x2 = x3)))) h) ∧ (x1 = 1051 → Q (some (.int (eb_q (¬ (x3 ≤ x2))))) h) ∧ (x1 = 1052 → Q (some (.int (eb_q (¬ (x2 ≤ x3))))) h) ∧ (x1 = 1060 → (((x2.toInt64 + x3.toInt64) ≤ 1000000 → Q (some (.int (if (-1000000) ≤ (x2.toInt64 + x3.toInt64) then (x2.toInt64 + x3.toInt64).toInt32 else (-1000000) : Int32))) h) ∧ (¬ ((x2.toInt64 + x3.toInt64) ≤ 1000000) → Q (some (.int 1000000)) h))) ∧ (x1 = 1061 → (((x2.toInt64 - x3.toInt64) ≤ 1000000 → Q (some (.int (if (-1000000) ≤ (x2.toInt64 - x3.toInt64) then (x2.toInt64 - x3.toInt64).toInt32 else (-1000000) : Int32))) h) ∧ (¬ ((x2.toInt64 - x3.toInt64) ≤ 1000000) → Q (some (.int 1000000)) h))) ∧ (x1 = 1070 → (((x2.toInt64 * x3.toInt64) ≤ 1000000 → Q (some (.int (if (-1000000) ≤ (x2.toInt64 * x3.toInt64) then (x2.toInt64 * x3.toInt64).toInt32 else (-1000000) : Int32))) h) ∧ (¬ ((x2.toInt64 * x3.toInt64) ≤ 1000000) → Q (some (.int 1000000)) h))) ∧ (¬ x1 = 1020 → ¬ x1 = 1030 → ¬ x1 = 1040 → ¬ x1 = 1050 → ¬ x1 = 1051 → ¬ x1 = 1052 → ¬ x1 = 1060 → ¬ x1 = 1061 → ¬ x1 = 1070 → (((x1 - 1000) < 0 → Q (some (.int x1)) h) ∧ (¬ ((x1 - 1000) < 0) → ∃ r26, eb_R h a0 2 = some r26 ∧ eb_kd r26 = 19 ∧ (((Int32.ofNat (eb_ln r26)) ≤ (x1 - 1000) → Q (some (.int x1)) h) ∧ (¬ ((Int32.ofNat (eb_ln r26)) ≤ (x1 - 1000)) → (vp_in (x1 - 1000) (eb_ln r26)) ∧ Q (some (.int (eb_I h r26 (x1 - 1000).toNatClampNeg))) h))))))) : eb_Sn d m_X2_weigh h0 0 [(0, .ref a0), (1, .int x1), (2, .int x2), (3, .int x3)] [] h Q := by
  refine eb_iload_n (pc := 0) (n := 1) (i := 1) rfl rfl rfl ?_
  by_cases s0 : x1 = 1020
  · refine eb_lookup (pc := 1) (off := 93) (tgt := 94) (by decide) (by rw [s0]; decide) (by decide) rfl ?_
    replace w := w.1 s0
    refine eb_iload_n (pc := 94) (n := 2) (i := 2) rfl rfl rfl ?_
    refine eb_iload_n (pc := 95) (n := 3) (i := 3) rfl rfl rfl ?_
    refine eb_ior (pc := 96) rfl ?_
    exact eb_ireturn (pc := 97) rfl rfl rfl w
  by_cases s1 : x1 = 1030
  · refine eb_lookup (pc := 1) (off := 97) (tgt := 98) (by decide) (by rw [s1]; decide) (by decide) rfl ?_
    replace w := w.2.1 s1
    refine eb_iload_n (pc := 98) (n := 2) (i := 2) rfl rfl rfl ?_
    refine eb_iload_n (pc := 99) (n := 3) (i := 3) rfl rfl rfl ?_
    refine eb_iand (pc := 100) rfl ?_
    exact eb_ireturn (pc := 101) rfl rfl rfl w
  by_cases s2 : x1 = 1040
  · refine eb_lookup (pc := 1) (off := 83) (tgt := 84) (by decide) (by rw [s2]; decide) (by decide) rfl ?_
    replace w := w.2.2.1 s2
    refine eb_iload_n (pc := 84) (n := 3) (i := 3) rfl rfl rfl ?_
    refine eb_joinI (pc2 := 93) (ls2 := [(0, .ref a0), (1, .int x1), (2, .int x2), (3, .int x3)]) (st2 := []) (v := eb_q (x3 = 0)) ?_ (fun jj2 => ?_)
    · exact eb_ireturn (pc := 93) rfl rfl rfl w
    refine eb_if_ne (pc := 85) (tgt := 92) rfl (by decide) (fun c1 => ?_) (fun c1 => ?_)
    · refine eb_iconst (pc := 92) (n := 0) (v := 0) rfl rfl ?_
      exact jj2 0 (eb_qf c1).symm
    · refine eb_iconst (pc := 88) (n := 1) (v := 1) rfl rfl ?_
      refine eb_goto (pc := 89) (tgt := 93) rfl (by decide) ?_
      exact jj2 1 (eb_qt c1).symm
  by_cases s3 : x1 = 1050
  · refine eb_lookup (pc := 1) (off := 101) (tgt := 102) (by decide) (by rw [s3]; decide) (by decide) rfl ?_
    replace w := w.2.2.2.1 s3
    refine eb_iload_n (pc := 102) (n := 2) (i := 2) rfl rfl rfl ?_
    refine eb_iload_n (pc := 103) (n := 3) (i := 3) rfl rfl rfl ?_
    refine eb_joinI (pc2 := 112) (ls2 := [(0, .ref a0), (1, .int x1), (2, .int x2), (3, .int x3)]) (st2 := []) (v := eb_q (x2 = x3)) ?_ (fun jj5 => ?_)
    · exact eb_ireturn (pc := 112) rfl rfl rfl w
    refine eb_icmp_ne (pc := 104) (tgt := 111) rfl (by decide) (fun c4 => ?_) (fun c4 => ?_)
    · refine eb_iconst (pc := 111) (n := 0) (v := 0) rfl rfl ?_
      exact jj5 0 (eb_qf c4).symm
    · refine eb_iconst (pc := 107) (n := 1) (v := 1) rfl rfl ?_
      refine eb_goto (pc := 108) (tgt := 112) rfl (by decide) ?_
      exact jj5 1 (eb_qt c4).symm
  by_cases s4 : x1 = 1051
  · refine eb_lookup (pc := 1) (off := 112) (tgt := 113) (by decide) (by rw [s4]; decide) (by decide) rfl ?_
    replace w := w.2.2.2.2.1 s4
    refine eb_iload_n (pc := 113) (n := 2) (i := 2) rfl rfl rfl ?_
    refine eb_iload_n (pc := 114) (n := 3) (i := 3) rfl rfl rfl ?_
    refine eb_joinI (pc2 := 123) (ls2 := [(0, .ref a0), (1, .int x1), (2, .int x2), (3, .int x3)]) (st2 := []) (v := eb_q (¬ (x3 ≤ x2))) ?_ (fun jj8 => ?_)
    · exact eb_ireturn (pc := 123) rfl rfl rfl w
    refine eb_icmp_ge (pc := 115) (tgt := 122) rfl (by decide) (fun c7 => ?_) (fun c7 => ?_)
    · refine eb_iconst (pc := 122) (n := 0) (v := 0) rfl rfl ?_
      exact jj8 0 (eb_qf (fun z => z c7)).symm
    · refine eb_iconst (pc := 118) (n := 1) (v := 1) rfl rfl ?_
      refine eb_goto (pc := 119) (tgt := 123) rfl (by decide) ?_
      exact jj8 1 (eb_qt c7).symm
  by_cases s5 : x1 = 1052
  · refine eb_lookup (pc := 1) (off := 123) (tgt := 124) (by decide) (by rw [s5]; decide) (by decide) rfl ?_
    replace w := w.2.2.2.2.2.1 s5
    refine eb_iload_n (pc := 124) (n := 2) (i := 2) rfl rfl rfl ?_
    refine eb_iload_n (pc := 125) (n := 3) (i := 3) rfl rfl rfl ?_
    refine eb_joinI (pc2 := 134) (ls2 := [(0, .ref a0), (1, .int x1), (2, .int x2), (3, .int x3)]) (st2 := []) (v := eb_q (¬ (x2 ≤ x3))) ?_ (fun jj11 => ?_)
    · exact eb_ireturn (pc := 134) rfl rfl rfl w
    refine eb_icmp_le (pc := 126) (tgt := 133) rfl (by decide) (fun c10 => ?_) (fun c10 => ?_)
    · refine eb_iconst (pc := 133) (n := 0) (v := 0) rfl rfl ?_
      exact jj11 0 (eb_qf (fun z => z c10)).symm
    · refine eb_iconst (pc := 129) (n := 1) (v := 1) rfl rfl ?_
      refine eb_goto (pc := 130) (tgt := 134) rfl (by decide) ?_
      exact jj11 1 (eb_qt c10).symm
  by_cases s6 : x1 = 1060
  · refine eb_lookup (pc := 1) (off := 134) (tgt := 135) (by decide) (by rw [s6]; decide) (by decide) rfl ?_
    replace w := w.2.2.2.2.2.2.1 s6
    refine eb_iload_n (pc := 135) (n := 2) (i := 2) rfl rfl rfl ?_
    refine eb_i2l (pc := 136) rfl ?_
    refine eb_iload_n (pc := 137) (n := 3) (i := 3) rfl rfl rfl ?_
    refine eb_i2l (pc := 138) rfl ?_
    refine eb_ladd (pc := 139) rfl ?_
    refine eb_lstore (pc := 140) (i := 4) (ls2 := [(4, .long (x2.toInt64 + x3.toInt64)), (0, .ref a0), (1, .int x1), (2, .int x2), (3, .int x3)]) (Nat.le_of_ble_eq_true rfl) rfl rfl ?_
    refine eb_goto (pc := 142) (tgt := 199) rfl (by decide) ?_
    refine eb_lload (pc := 199) (i := 4) rfl rfl ?_
    refine eb_ldc2 (pc := 201) (a := 1000000) (v := 1000000) rfl (by decide) ?_
    refine eb_lcmp (pc := 204) rfl ?_
    refine eb_if_le (pc := 205) (tgt := 211) rfl (by decide) (fun c13 => ?_) (fun c13 => ?_)
    · replace c13 := eb_lc_le.mp c13
      replace w := w.1 c13
      refine eb_lload (pc := 211) (i := 4) rfl rfl ?_
      refine eb_ldc2 (pc := 213) (a := 18446744073708551616) (v := (-1000000)) rfl (by decide) ?_
      refine eb_lcmp (pc := 216) rfl ?_
      refine eb_joinI (pc2 := 228) (ls2 := [(4, .long (x2.toInt64 + x3.toInt64)), (0, .ref a0), (1, .int x1), (2, .int x2), (3, .int x3)]) (st2 := []) (v := (if (-1000000) ≤ (x2.toInt64 + x3.toInt64) then (x2.toInt64 + x3.toInt64).toInt32 else (-1000000) : Int32)) ?_ (fun jj15 => ?_)
      · exact eb_ireturn (pc := 228) rfl rfl rfl w
      refine eb_if_ge (pc := 217) (tgt := 225) rfl (by decide) (fun c14 => ?_) (fun c14 => ?_)
      · replace c14 := eb_lc_ge.mp c14
        refine eb_lload (pc := 225) (i := 4) rfl rfl ?_
        refine eb_l2i (pc := 227) rfl ?_
        exact jj15 _ (by simp only [if_pos c14])
      · replace c14 := (fun hh => mt eb_lc_ge.mpr hh) c14
        refine eb_ldc (pc := 220) (a := 4293967296) (v := (-1000000)) rfl (by decide) ?_
        refine eb_goto (pc := 222) (tgt := 228) rfl (by decide) ?_
        exact jj15 _ (by simp only [if_neg c14])
    · replace c13 := (fun hh => mt eb_lc_le.mpr hh) c13
      replace w := w.2 c13
      refine eb_ldc (pc := 208) (a := 1000000) (v := 1000000) rfl (by decide) ?_
      exact eb_ireturn (pc := 210) rfl rfl rfl w
  by_cases s7 : x1 = 1061
  · refine eb_lookup (pc := 1) (off := 144) (tgt := 145) (by decide) (by rw [s7]; decide) (by decide) rfl ?_
    replace w := w.2.2.2.2.2.2.2.1 s7
    refine eb_iload_n (pc := 145) (n := 2) (i := 2) rfl rfl rfl ?_
    refine eb_i2l (pc := 146) rfl ?_
    refine eb_iload_n (pc := 147) (n := 3) (i := 3) rfl rfl rfl ?_
    refine eb_i2l (pc := 148) rfl ?_
    refine eb_lsub (pc := 149) rfl ?_
    refine eb_lstore (pc := 150) (i := 4) (ls2 := [(4, .long (x2.toInt64 - x3.toInt64)), (0, .ref a0), (1, .int x1), (2, .int x2), (3, .int x3)]) (Nat.le_of_ble_eq_true rfl) rfl rfl ?_
    refine eb_goto (pc := 152) (tgt := 199) rfl (by decide) ?_
    refine eb_lload (pc := 199) (i := 4) rfl rfl ?_
    refine eb_ldc2 (pc := 201) (a := 1000000) (v := 1000000) rfl (by decide) ?_
    refine eb_lcmp (pc := 204) rfl ?_
    refine eb_if_le (pc := 205) (tgt := 211) rfl (by decide) (fun c17 => ?_) (fun c17 => ?_)
    · replace c17 := eb_lc_le.mp c17
      replace w := w.1 c17
      refine eb_lload (pc := 211) (i := 4) rfl rfl ?_
      refine eb_ldc2 (pc := 213) (a := 18446744073708551616) (v := (-1000000)) rfl (by decide) ?_
      refine eb_lcmp (pc := 216) rfl ?_
      refine eb_joinI (pc2 := 228) (ls2 := [(4, .long (x2.toInt64 - x3.toInt64)), (0, .ref a0), (1, .int x1), (2, .int x2), (3, .int x3)]) (st2 := []) (v := (if (-1000000) ≤ (x2.toInt64 - x3.toInt64) then (x2.toInt64 - x3.toInt64).toInt32 else (-1000000) : Int32)) ?_ (fun jj19 => ?_)
      · exact eb_ireturn (pc := 228) rfl rfl rfl w
      refine eb_if_ge (pc := 217) (tgt := 225) rfl (by decide) (fun c18 => ?_) (fun c18 => ?_)
      · replace c18 := eb_lc_ge.mp c18
        refine eb_lload (pc := 225) (i := 4) rfl rfl ?_
        refine eb_l2i (pc := 227) rfl ?_
        exact jj19 _ (by simp only [if_pos c18])
      · replace c18 := (fun hh => mt eb_lc_ge.mpr hh) c18
        refine eb_ldc (pc := 220) (a := 4293967296) (v := (-1000000)) rfl (by decide) ?_
        refine eb_goto (pc := 222) (tgt := 228) rfl (by decide) ?_
        exact jj19 _ (by simp only [if_neg c18])
    · replace c17 := (fun hh => mt eb_lc_le.mpr hh) c17
      replace w := w.2 c17
      refine eb_ldc (pc := 208) (a := 1000000) (v := 1000000) rfl (by decide) ?_
      exact eb_ireturn (pc := 210) rfl rfl rfl w
  by_cases s8 : x1 = 1070
  · refine eb_lookup (pc := 1) (off := 154) (tgt := 155) (by decide) (by rw [s8]; decide) (by decide) rfl ?_
    replace w := w.2.2.2.2.2.2.2.2.1 s8
    refine eb_iload_n (pc := 155) (n := 2) (i := 2) rfl rfl rfl ?_
    refine eb_i2l (pc := 156) rfl ?_
    refine eb_iload_n (pc := 157) (n := 3) (i := 3) rfl rfl rfl ?_
    refine eb_i2l (pc := 158) rfl ?_
    refine eb_lmul (pc := 159) rfl ?_
    refine eb_lstore (pc := 160) (i := 4) (ls2 := [(4, .long (x2.toInt64 * x3.toInt64)), (0, .ref a0), (1, .int x1), (2, .int x2), (3, .int x3)]) (Nat.le_of_ble_eq_true rfl) rfl rfl ?_
    refine eb_goto (pc := 162) (tgt := 199) rfl (by decide) ?_
    refine eb_lload (pc := 199) (i := 4) rfl rfl ?_
    refine eb_ldc2 (pc := 201) (a := 1000000) (v := 1000000) rfl (by decide) ?_
    refine eb_lcmp (pc := 204) rfl ?_
    refine eb_if_le (pc := 205) (tgt := 211) rfl (by decide) (fun c21 => ?_) (fun c21 => ?_)
    · replace c21 := eb_lc_le.mp c21
      replace w := w.1 c21
      refine eb_lload (pc := 211) (i := 4) rfl rfl ?_
      refine eb_ldc2 (pc := 213) (a := 18446744073708551616) (v := (-1000000)) rfl (by decide) ?_
      refine eb_lcmp (pc := 216) rfl ?_
      refine eb_joinI (pc2 := 228) (ls2 := [(4, .long (x2.toInt64 * x3.toInt64)), (0, .ref a0), (1, .int x1), (2, .int x2), (3, .int x3)]) (st2 := []) (v := (if (-1000000) ≤ (x2.toInt64 * x3.toInt64) then (x2.toInt64 * x3.toInt64).toInt32 else (-1000000) : Int32)) ?_ (fun jj23 => ?_)
      · exact eb_ireturn (pc := 228) rfl rfl rfl w
      refine eb_if_ge (pc := 217) (tgt := 225) rfl (by decide) (fun c22 => ?_) (fun c22 => ?_)
      · replace c22 := eb_lc_ge.mp c22
        refine eb_lload (pc := 225) (i := 4) rfl rfl ?_
        refine eb_l2i (pc := 227) rfl ?_
        exact jj23 _ (by simp only [if_pos c22])
      · replace c22 := (fun hh => mt eb_lc_ge.mpr hh) c22
        refine eb_ldc (pc := 220) (a := 4293967296) (v := (-1000000)) rfl (by decide) ?_
        refine eb_goto (pc := 222) (tgt := 228) rfl (by decide) ?_
        exact jj23 _ (by simp only [if_neg c22])
    · replace c21 := (fun hh => mt eb_lc_le.mpr hh) c21
      replace w := w.2 c21
      refine eb_ldc (pc := 208) (a := 1000000) (v := 1000000) rfl (by decide) ?_
      exact eb_ireturn (pc := 210) rfl rfl rfl w
  refine eb_lookup (pc := 1) (off := 164) (tgt := 165) (by decide) (by rw [lv_osw (k := 1020) s0 (by decide)]; rw [lv_osw (k := 1030) s1 (by decide)]; rw [lv_osw (k := 1040) s2 (by decide)]; rw [lv_osw (k := 1050) s3 (by decide)]; rw [lv_osw (k := 1051) s4 (by decide)]; rw [lv_osw (k := 1052) s5 (by decide)]; rw [lv_osw (k := 1060) s6 (by decide)]; rw [lv_osw (k := 1061) s7 (by decide)]; rw [lv_osw (k := 1070) s8 (by decide)]; rfl) (by decide) rfl ?_
  replace w := w.2.2.2.2.2.2.2.2.2 s0 s1 s2 s3 s4 s5 s6 s7 s8
  refine eb_iload_n (pc := 165) (n := 1) (i := 1) rfl rfl rfl ?_
  refine eb_sipush (pc := 166) (n := 1000) (v := 1000) rfl rfl ?_
  refine eb_isub (pc := 169) rfl ?_
  refine eb_istore (pc := 170) (i := 6) (ls2 := [(6, .int (x1 - 1000)), (0, .ref a0), (1, .int x1), (2, .int x2), (3, .int x3)]) (Nat.le_of_ble_eq_true rfl) rfl rfl ?_
  refine eb_iload (pc := 172) (i := 6) rfl rfl ?_
  refine eb_if_lt (pc := 174) (tgt := 197) rfl (by decide) (fun c25 => ?_) (fun c25 => ?_)
  · replace w := w.1 c25
    refine eb_iload_n (pc := 197) (n := 1) (i := 1) rfl rfl rfl ?_
    exact eb_ireturn (pc := 198) rfl rfl rfl w
  · replace w := w.2 c25
    refine eb_iload (pc := 177) (i := 6) rfl rfl ?_
    refine eb_aload_n (pc := 179) (n := 0) (i := 0) rfl rfl rfl ?_
    obtain ⟨r26, q27, k28, w⟩ := w
    refine eb_getR (pc := 180) rfl ka0 (by decide) (by decide) rfl q27 ?_
    refine eb_alen (pc := 183) rfl (by rw [k28]; decide) (by rw [k28]; decide) rfl ?_
    refine eb_icmp_ge (pc := 184) (tgt := 197) rfl (by decide) (fun c29 => ?_) (fun c29 => ?_)
    · replace w := w.1 c29
      refine eb_iload_n (pc := 197) (n := 1) (i := 1) rfl rfl rfl ?_
      exact eb_ireturn (pc := 198) rfl rfl rfl w
    · replace w := w.2 c29
      refine eb_aload_n (pc := 187) (n := 0) (i := 0) rfl rfl rfl ?_
      refine eb_getR (pc := 188) rfl ka0 (by decide) (by decide) rfl q27 ?_
      refine eb_iload (pc := 191) (i := 6) rfl rfl ?_
      obtain ⟨c30, w⟩ := w
      refine eb_iaload (pc := 193) rfl k28 (by decide) c30 ?_
      refine eb_goto (pc := 194) (tgt := 198) rfl (by decide) ?_
      exact eb_ireturn (pc := 198) rfl rfl rfl w
theorem T_X2_weigh {d : Nat} {h : eb_H} {Q : Option Value → eb_H → Prop} (a0 : Nat) (x1 : Int32) (x2 : Int32) (x3 : Int32) (ka0 : eb_kd a0 = 2) (ko : eb_KO h) (w : ((x1 = 1020 → Q (some (.int (x2 ||| x3))) h) ∧ (x1 = 1030 → Q (some (.int (x2 &&& x3))) h) ∧ (x1 = 1040 → Q (some (.int (eb_q (x3 = 0)))) h) ∧ (x1 = 1050 → Q (some (.int (eb_q (x2 = x3)))) h) ∧ (x1 = 1051 → Q (some (.int (eb_q (¬ (x3 ≤ x2))))) h) ∧ (x1 = 1052 → Q (some (.int (eb_q (¬ (x2 ≤ x3))))) h) ∧ (x1 = 1060 → (((x2.toInt64 + x3.toInt64) ≤ 1000000 → Q (some (.int (if (-1000000) ≤ (x2.toInt64 + x3.toInt64) then (x2.toInt64 + x3.toInt64).toInt32 else (-1000000) : Int32))) h) ∧ (¬ ((x2.toInt64 + x3.toInt64) ≤ 1000000) → Q (some (.int 1000000)) h))) ∧ (x1 = 1061 → (((x2.toInt64 - x3.toInt64) ≤ 1000000 → Q (some (.int (if (-1000000) ≤ (x2.toInt64 - x3.toInt64) then (x2.toInt64 - x3.toInt64).toInt32 else (-1000000) : Int32))) h) ∧ (¬ ((x2.toInt64 - x3.toInt64) ≤ 1000000) → Q (some (.int 1000000)) h))) ∧ (x1 = 1070 → (((x2.toInt64 * x3.toInt64) ≤ 1000000 → Q (some (.int (if (-1000000) ≤ (x2.toInt64 * x3.toInt64) then (x2.toInt64 * x3.toInt64).toInt32 else (-1000000) : Int32))) h) ∧ (¬ ((x2.toInt64 * x3.toInt64) ≤ 1000000) → Q (some (.int 1000000)) h))) ∧ (¬ x1 = 1020 → ¬ x1 = 1030 → ¬ x1 = 1040 → ¬ x1 = 1050 → ¬ x1 = 1051 → ¬ x1 = 1052 → ¬ x1 = 1060 → ¬ x1 = 1061 → ¬ x1 = 1070 → (((x1 - 1000) < 0 → Q (some (.int x1)) h) ∧ (¬ ((x1 - 1000) < 0) → ∃ r26, eb_R h a0 2 = some r26 ∧ eb_kd r26 = 19 ∧ (((Int32.ofNat (eb_ln r26)) ≤ (x1 - 1000) → Q (some (.int x1)) h) ∧ (¬ ((Int32.ofNat (eb_ln r26)) ≤ (x1 - 1000)) → (vp_in (x1 - 1000) (eb_ln r26)) ∧ Q (some (.int (eb_I h r26 (x1 - 1000).toNatClampNeg))) h))))))) : eb_Ct d 26 [.ref a0, .int x1, .int x2, .int x3] h Q :=
  eb_bodyQ (by decide) ok_X2_weigh (Nat.le_of_ble_eq_true rfl) (b_X2_weigh_0 (h0 := h) a0 x1 x2 x3 ka0 ko w)
theorem b_X3_init_0 {d : Nat} {h0 h : eb_H} {Q : Option Value → eb_H → Prop} (a0 : Nat) (ka0 : eb_kd a0 = 3) (w : ∀ r3, r3 = eb_nx h 7 0 → ∀ h1, h1 = eb_nw h 7 0 (eb_nf 7) → eb_Ct d 65 [.ref r3] h1 (fun r h5 => r = none ∧ ∀ h8, h8 = eb_sR h5 a0 0 (some r3) → ∀ r12, r12 = eb_nx h8 13 900 → ∀ h10, h10 = eb_nw h8 13 900 900 → ∀ h14, h14 = eb_sR h10 a0 1 (some r12) → ∀ r18, r18 = eb_nx h14 13 32 → ∀ h16, h16 = eb_nw h14 13 32 32 → ∀ h20, h20 = eb_sR h16 a0 2 (some r18) → ∀ h22, h22 = eb_sI h20 a0 3 0 → ∀ h24, h24 = eb_sI h22 a0 4 0 → ∀ h26, h26 = eb_sI h24 a0 5 0 → ∀ h28, h28 = eb_sI h26 a0 6 0 → ∀ h30, h30 = eb_sI h28 a0 7 0 → ∀ h32, h32 = eb_sI h30 a0 8 0 → ∀ h34, h34 = eb_sI h32 a0 9 1 → ∀ h36, h36 = eb_sI h34 a0 10 1 → Q none h36)) : eb_Sn (d + 1) m_X3_init h0 0 [(0, .ref a0)] [] h Q := by
  refine eb_aload_n (pc := 0) (n := 0) (i := 0) rfl rfl rfl ?_
  refine eb_objInit (pc := 1) rfl (by decide +kernel) (by omega) (Nat.le_of_ble_eq_true rfl) ?_
  refine eb_aload_n (pc := 4) (n := 0) (i := 0) rfl rfl rfl ?_
  refine eb_new (pc := 5) rfl (by decide) ?_
  obtain ⟨r3, e4⟩ : ∃ z, z = eb_nx h 7 0 := ⟨_, rfl⟩
  rw [← e4]
  replace w := w r3 e4
  obtain ⟨h1, e2⟩ : ∃ z, z = eb_nw h 7 0 (eb_nf 7) := ⟨_, rfl⟩
  rw [← e2]
  replace w := w h1 e2
  refine eb_dupr (pc := 8) rfl ?_
  refine eb_ctI (pc := 9) (As := []) (rest := [.ref r3, .ref a0]) rfl (by decide) (by decide) rfl rfl rfl rfl (Nat.le_of_ble_eq_true rfl) ?_
  refine eb_Ct.mono w ?_
  rintro r h5 ⟨rfl, w⟩
  change eb_Sn _ _ _ 12 _ [.ref r3, .ref a0] _ _
  refine eb_putR (pc := 12) rfl ka0 (by decide) (by decide) rfl (Or.inr ⟨rfl, rfl, rfl⟩) (eb_k20 (c := 7) (by rw [e4]; exact eb_mk_kd (by decide)) (by decide)) ?_
  obtain ⟨h8, e9⟩ : ∃ z, z = eb_sR h5 a0 0 (some r3) := ⟨_, rfl⟩
  rw [← e9]
  replace w := w h8 e9
  refine eb_aload_n (pc := 15) (n := 0) (i := 0) rfl rfl rfl ?_
  refine eb_sipush (pc := 16) (n := 900) (v := 900) rfl rfl ?_
  refine eb_newI (pc := 19) (kd := 13) (len := 900) rfl rfl (by decide) (by decide) rfl (by decide) ?_
  obtain ⟨r12, e13⟩ : ∃ z, z = eb_nx h8 13 900 := ⟨_, rfl⟩
  rw [← e13]
  replace w := w r12 e13
  obtain ⟨h10, e11⟩ : ∃ z, z = eb_nw h8 13 900 900 := ⟨_, rfl⟩
  rw [← e11]
  replace w := w h10 e11
  refine eb_putR (pc := 21) rfl ka0 (by decide) (by decide) rfl (Or.inr ⟨rfl, rfl, rfl⟩) (eb_k20 (c := 13) (by rw [e13]; exact eb_mk_kd (by decide)) (by decide)) ?_
  obtain ⟨h14, e15⟩ : ∃ z, z = eb_sR h10 a0 1 (some r12) := ⟨_, rfl⟩
  rw [← e15]
  replace w := w h14 e15
  refine eb_aload_n (pc := 24) (n := 0) (i := 0) rfl rfl rfl ?_
  refine eb_bipush (pc := 25) (n := 32) (v := 32) rfl rfl ?_
  refine eb_newI (pc := 27) (kd := 13) (len := 32) rfl rfl (by decide) (by decide) rfl (by decide) ?_
  obtain ⟨r18, e19⟩ : ∃ z, z = eb_nx h14 13 32 := ⟨_, rfl⟩
  rw [← e19]
  replace w := w r18 e19
  obtain ⟨h16, e17⟩ : ∃ z, z = eb_nw h14 13 32 32 := ⟨_, rfl⟩
  rw [← e17]
  replace w := w h16 e17
  refine eb_putR (pc := 29) rfl ka0 (by decide) (by decide) rfl (Or.inr ⟨rfl, rfl, rfl⟩) (eb_k20 (c := 13) (by rw [e19]; exact eb_mk_kd (by decide)) (by decide)) ?_
  obtain ⟨h20, e21⟩ : ∃ z, z = eb_sR h16 a0 2 (some r18) := ⟨_, rfl⟩
  rw [← e21]
  replace w := w h20 e21
  refine eb_aload_n (pc := 32) (n := 0) (i := 0) rfl rfl rfl ?_
  refine eb_iconst (pc := 33) (n := 0) (v := 0) rfl rfl ?_
  refine eb_putI (pc := 34) rfl ka0 (by decide) (by decide) rfl rfl ⟨rfl, rfl⟩ ?_
  obtain ⟨h22, e23⟩ : ∃ z, z = eb_sI h20 a0 3 0 := ⟨_, rfl⟩
  rw [← e23]
  replace w := w h22 e23
  refine eb_aload_n (pc := 37) (n := 0) (i := 0) rfl rfl rfl ?_
  refine eb_iconst (pc := 38) (n := 0) (v := 0) rfl rfl ?_
  refine eb_putI (pc := 39) rfl ka0 (by decide) (by decide) rfl rfl ⟨rfl, rfl⟩ ?_
  obtain ⟨h24, e25⟩ : ∃ z, z = eb_sI h22 a0 4 0 := ⟨_, rfl⟩
  rw [← e25]
  replace w := w h24 e25
  refine eb_aload_n (pc := 42) (n := 0) (i := 0) rfl rfl rfl ?_
  refine eb_iconst (pc := 43) (n := 0) (v := 0) rfl rfl ?_
  refine eb_putI (pc := 44) rfl ka0 (by decide) (by decide) rfl rfl ⟨rfl, rfl⟩ ?_
  obtain ⟨h26, e27⟩ : ∃ z, z = eb_sI h24 a0 5 0 := ⟨_, rfl⟩
  rw [← e27]
  replace w := w h26 e27
  refine eb_aload_n (pc := 47) (n := 0) (i := 0) rfl rfl rfl ?_
  refine eb_iconst (pc := 48) (n := 0) (v := 0) rfl rfl ?_
  refine eb_putI (pc := 49) rfl ka0 (by decide) (by decide) rfl rfl ⟨rfl, rfl⟩ ?_
  obtain ⟨h28, e29⟩ : ∃ z, z = eb_sI h26 a0 6 0 := ⟨_, rfl⟩
  rw [← e29]
  replace w := w h28 e29
  refine eb_aload_n (pc := 52) (n := 0) (i := 0) rfl rfl rfl ?_
  refine eb_iconst (pc := 53) (n := 0) (v := 0) rfl rfl ?_
  refine eb_putI (pc := 54) rfl ka0 (by decide) (by decide) rfl rfl ⟨rfl, rfl⟩ ?_
  obtain ⟨h30, e31⟩ : ∃ z, z = eb_sI h28 a0 7 0 := ⟨_, rfl⟩
  rw [← e31]
  replace w := w h30 e31
  refine eb_aload_n (pc := 57) (n := 0) (i := 0) rfl rfl rfl ?_
  refine eb_iconst (pc := 58) (n := 0) (v := 0) rfl rfl ?_
  refine eb_putI (pc := 59) rfl ka0 (by decide) (by decide) rfl rfl ⟨rfl, rfl⟩ ?_
  obtain ⟨h32, e33⟩ : ∃ z, z = eb_sI h30 a0 8 0 := ⟨_, rfl⟩
  rw [← e33]
  replace w := w h32 e33
  refine eb_aload_n (pc := 62) (n := 0) (i := 0) rfl rfl rfl ?_
  refine eb_iconst (pc := 63) (n := 1) (v := 1) rfl rfl ?_
  refine eb_putI (pc := 64) rfl ka0 (by decide) (by decide) rfl rfl ⟨rfl, rfl⟩ ?_
  obtain ⟨h34, e35⟩ : ∃ z, z = eb_sI h32 a0 9 1 := ⟨_, rfl⟩
  rw [← e35]
  replace w := w h34 e35
  refine eb_aload_n (pc := 67) (n := 0) (i := 0) rfl rfl rfl ?_
  refine eb_iconst (pc := 68) (n := 1) (v := 1) rfl rfl ?_
  refine eb_putI (pc := 69) rfl ka0 (by decide) (by decide) rfl rfl ⟨rfl, rfl⟩ ?_
  obtain ⟨h36, e37⟩ : ∃ z, z = eb_sI h34 a0 10 1 := ⟨_, rfl⟩
  rw [← e37]
  replace w := w h36 e37
  exact eb_return (pc := 72) rfl rfl w
theorem T_X3_init {d : Nat} {h : eb_H} {Q : Option Value → eb_H → Prop} (a0 : Nat) (ka0 : eb_kd a0 = 3) (w : ∀ r3, r3 = eb_nx h 7 0 → ∀ h1, h1 = eb_nw h 7 0 (eb_nf 7) → eb_Ct d 65 [.ref r3] h1 (fun r h5 => r = none ∧ ∀ h8, h8 = eb_sR h5 a0 0 (some r3) → ∀ r12, r12 = eb_nx h8 13 900 → ∀ h10, h10 = eb_nw h8 13 900 900 → ∀ h14, h14 = eb_sR h10 a0 1 (some r12) → ∀ r18, r18 = eb_nx h14 13 32 → ∀ h16, h16 = eb_nw h14 13 32 32 → ∀ h20, h20 = eb_sR h16 a0 2 (some r18) → ∀ h22, h22 = eb_sI h20 a0 3 0 → ∀ h24, h24 = eb_sI h22 a0 4 0 → ∀ h26, h26 = eb_sI h24 a0 5 0 → ∀ h28, h28 = eb_sI h26 a0 6 0 → ∀ h30, h30 = eb_sI h28 a0 7 0 → ∀ h32, h32 = eb_sI h30 a0 8 0 → ∀ h34, h34 = eb_sI h32 a0 9 1 → ∀ h36, h36 = eb_sI h34 a0 10 1 → Q none h36)) : eb_Ct (d + 1) 27 [.ref a0] h Q :=
  eb_bodyQ (by decide) ok_X3_init (Nat.le_of_ble_eq_true rfl) (b_X3_init_0 (h0 := h) a0 ka0 w)
theorem b_X3_readTruth_0 {d : Nat} {h0 h : eb_H} {Q : Option Value → eb_H → Prop} (x1 : Int32)  (ko : eb_KO h) (w : eb_Ct d 29 [.ref s_reader_laws] h (fun r h1 => r = none ∧ eb_KO h1 ∧ eb_Ct d 69 [.ref s_tape] h1 (fun r h4 => r = none ∧ eb_KO h4 ∧ eb_Ct d 72 [.ref s_tape, .ref (eb_mk 1 21 0)] h4 (fun r h7 => ∃ y8, r = some (.int y8) ∧ eb_KO h7 ∧ ((¬ y8 = 0 → eb_Ct d 69 [.ref s_tape] h7 (fun r h11 => r = none ∧ eb_KO h11 ∧ eb_Sn (d + 1) m_X3_readTruth h0 40 [(0, .ref s_reader_laws), (1, .int x1), (2, .int 0)] [] h11 Q)) ∧ (y8 = 0 → eb_Ct d 68 [.ref s_tape, .int 2] h7 (fun r h14 => r = none ∧ eb_KO h14 ∧ eb_Ct d 69 [.ref s_tape] h14 (fun r h17 => r = none ∧ eb_KO h17 ∧ eb_Sn (d + 1) m_X3_readTruth h0 40 [(0, .ref s_reader_laws), (1, .int x1), (2, .int 0)] [] h17 Q)))))))) : eb_Sn (d + 1) m_X3_readTruth h0 0 [(0, .ref s_reader_laws), (1, .int x1)] [] h Q := by
  refine eb_aload_n (pc := 0) (n := 0) (i := 0) rfl rfl rfl ?_
  refine eb_ctV (pc := 1) (As := []) (rest := []) rfl (by decide) rfl rfl (by decide) rfl (Nat.le_of_ble_eq_true rfl) ?_
  refine eb_Ct.mono w ?_
  rintro r h1 ⟨rfl, ko3, w⟩
  change eb_Sn _ _ _ 4 _ [] _ _
  refine eb_aload_n (pc := 4) (n := 0) (i := 0) rfl rfl rfl ?_
  refine eb_getR (pc := 5) rfl rfl (by decide) (by decide) rfl (ko_s_reader_laws_0 ko3) ?_
  refine eb_ctV (pc := 8) (As := []) (rest := []) rfl (by decide) rfl rfl (by decide) rfl (Nat.le_of_ble_eq_true rfl) ?_
  refine eb_Ct.mono w ?_
  rintro r h4 ⟨rfl, ko6, w⟩
  change eb_Sn _ _ _ 11 _ [] _ _
  refine eb_aload_n (pc := 11) (n := 0) (i := 0) rfl rfl rfl ?_
  refine eb_getR (pc := 12) rfl rfl (by decide) (by decide) rfl (ko_s_reader_laws_0 ko6) ?_
  refine eb_ldcS (pc := 15) (a := 1) (i := eb_mk 1 21 0) rfl rfl rfl ?_
  refine eb_ctV (pc := 17) (As := [.ref (eb_mk 1 21 0)]) (rest := []) rfl (by decide) rfl rfl (by decide) rfl (Nat.le_of_ble_eq_true rfl) ?_
  refine eb_Ct.mono w ?_
  rintro r h7 ⟨y8, rfl, ko9, w⟩
  change eb_Sn _ _ _ 20 _ [.int y8] _ _
  refine eb_if_ne (pc := 20) (tgt := 31) rfl (by decide) (fun c10 => ?_) (fun c10 => ?_)
  · replace w := w.1 c10
    refine eb_aload_n (pc := 31) (n := 0) (i := 0) rfl rfl rfl ?_
    refine eb_getR (pc := 32) rfl rfl (by decide) (by decide) rfl (ko_s_reader_laws_0 ko9) ?_
    refine eb_ctV (pc := 35) (As := []) (rest := []) rfl (by decide) rfl rfl (by decide) rfl (Nat.le_of_ble_eq_true rfl) ?_
    refine eb_Ct.mono w ?_
    rintro r h11 ⟨rfl, ko13, w⟩
    change eb_Sn _ _ _ 38 _ [] _ _
    refine eb_iconst (pc := 38) (n := 0) (v := 0) rfl rfl ?_
    refine eb_istore_n (pc := 39) (n := 2) (i := 2) (ls2 := [(2, .int 0), (0, .ref s_reader_laws), (1, .int x1)]) rfl (Nat.le_of_ble_eq_true rfl) rfl rfl ?_
    exact eb_pick [1, 2, 0] rfl w
  · replace w := w.2 c10
    refine eb_aload_n (pc := 23) (n := 0) (i := 0) rfl rfl rfl ?_
    refine eb_getR (pc := 24) rfl rfl (by decide) (by decide) rfl (ko_s_reader_laws_0 ko9) ?_
    refine eb_iconst (pc := 27) (n := 2) (v := 2) rfl rfl ?_
    refine eb_ctV (pc := 28) (As := [.int 2]) (rest := []) rfl (by decide) rfl rfl (by decide) rfl (Nat.le_of_ble_eq_true rfl) ?_
    refine eb_Ct.mono w ?_
    rintro r h14 ⟨rfl, ko16, w⟩
    change eb_Sn _ _ _ 31 _ [] _ _
    refine eb_aload_n (pc := 31) (n := 0) (i := 0) rfl rfl rfl ?_
    refine eb_getR (pc := 32) rfl rfl (by decide) (by decide) rfl (ko_s_reader_laws_0 ko16) ?_
    refine eb_ctV (pc := 35) (As := []) (rest := []) rfl (by decide) rfl rfl (by decide) rfl (Nat.le_of_ble_eq_true rfl) ?_
    refine eb_Ct.mono w ?_
    rintro r h17 ⟨rfl, ko19, w⟩
    change eb_Sn _ _ _ 38 _ [] _ _
    refine eb_iconst (pc := 38) (n := 0) (v := 0) rfl rfl ?_
    refine eb_istore_n (pc := 39) (n := 2) (i := 2) (ls2 := [(2, .int 0), (0, .ref s_reader_laws), (1, .int x1)]) rfl (Nat.le_of_ble_eq_true rfl) rfl rfl ?_
    exact eb_pick [1, 2, 0] rfl w
theorem b_X3_readTruth_40 {d : Nat} {h0 h : eb_H} {Q : Option Value → eb_H → Prop} (x1 : Int32) (x2 : Int32)  (ko : eb_KO h) (w : (((900 : Int32) ≤ x2 → eb_Ct d 37 [.ref s_reader_laws, .int 1020] h (fun r h2 => r = none ∧ eb_KO h2 ∧ (89 ≤ eb_n h2) ∧ eb_Ct d 303 [.ref s_reader_laws_codes, .int (eb_I (eb_nw h2 2 0 (eb_nf 2)) s_reader_laws 3)] (eb_nw h2 2 0 (eb_nf 2)) (fun r h6 => ∃ y7, r = some (.ref y7) ∧ eb_KO h6 ∧ eb_Ct d 24 [.ref (eb_nx h2 2 0), .ref y7] h6 (fun r h9 => r = none ∧ eb_KO h9 ∧ Q (some (.ref (eb_nx h2 2 0))) h9)))) ∧ (¬ ((900 : Int32) ≤ x2) → ((¬ (eb_I h s_tape 7) = 0 → eb_Ct d 37 [.ref s_reader_laws, .int 1020] h (fun r h13 => r = none ∧ eb_KO h13 ∧ (89 ≤ eb_n h13) ∧ eb_Ct d 303 [.ref s_reader_laws_codes, .int (eb_I (eb_nw h13 2 0 (eb_nf 2)) s_reader_laws 3)] (eb_nw h13 2 0 (eb_nf 2)) (fun r h17 => ∃ y18, r = some (.ref y18) ∧ eb_KO h17 ∧ eb_Ct d 24 [.ref (eb_nx h13 2 0), .ref y18] h17 (fun r h20 => r = none ∧ eb_KO h20 ∧ Q (some (.ref (eb_nx h13 2 0))) h20)))) ∧ ((eb_I h s_tape 7) = 0 → eb_Ct d 30 [.ref s_reader_laws] h (fun r h23 => ∃ y24, r = some (.int y24) ∧ eb_KO h23 ∧ ((¬ y24 = 0 → eb_Ct d 37 [.ref s_reader_laws, .int 1020] h23 (fun r h27 => r = none ∧ eb_KO h27 ∧ (89 ≤ eb_n h27) ∧ eb_Ct d 303 [.ref s_reader_laws_codes, .int (eb_I (eb_nw h27 2 0 (eb_nf 2)) s_reader_laws 3)] (eb_nw h27 2 0 (eb_nf 2)) (fun r h31 => ∃ y32, r = some (.ref y32) ∧ eb_KO h31 ∧ eb_Ct d 24 [.ref (eb_nx h27 2 0), .ref y32] h31 (fun r h34 => r = none ∧ eb_KO h34 ∧ Q (some (.ref (eb_nx h27 2 0))) h34)))) ∧ (y24 = 0 → eb_Ct d 31 [.ref s_reader_laws, .int x1] h23 (fun r h37 => ∃ y38, r = some (.int y38) ∧ eb_KO h37 ∧ (((eb_I h37 s_reader_laws 9) = 0 → eb_Ct d 35 [.ref s_reader_laws, .int y38] h37 (fun r h41 => ∃ y42, r = some (.int y42) ∧ eb_KO h41 ∧ ((¬ y42 = 0 → eb_Ct d 69 [.ref s_tape] h41 (fun r h45 => r = none ∧ eb_KO h45 ∧ eb_Sn (d + 1) m_X3_readTruth h0 40 [(0, .ref s_reader_laws), (1, .int x1), (2, .int (x2 + 1))] [] h45 Q)) ∧ (y42 = 0 → eb_Ct d 68 [.ref s_tape, .int 2] h41 (fun r h48 => r = none ∧ eb_KO h48 ∧ eb_Ct d 69 [.ref s_tape] h48 (fun r h51 => r = none ∧ eb_KO h51 ∧ eb_Sn (d + 1) m_X3_readTruth h0 40 [(0, .ref s_reader_laws), (1, .int x1), (2, .int (x2 + 1))] [] h51 Q)))))) ∧ (¬ ((eb_I h37 s_reader_laws 9) = 0) → eb_Ct d 34 [.ref s_reader_laws, .int y38] h37 (fun r h54 => ∃ y55, r = some (.int y55) ∧ eb_KO h54 ∧ ((¬ y55 = 0 → eb_Ct d 69 [.ref s_tape] h54 (fun r h58 => r = none ∧ eb_KO h58 ∧ eb_Sn (d + 1) m_X3_readTruth h0 40 [(0, .ref s_reader_laws), (1, .int x1), (2, .int (x2 + 1))] [] h58 Q)) ∧ (y55 = 0 → eb_Ct d 68 [.ref s_tape, .int 2] h54 (fun r h61 => r = none ∧ eb_KO h61 ∧ eb_Ct d 69 [.ref s_tape] h61 (fun r h64 => r = none ∧ eb_KO h64 ∧ eb_Sn (d + 1) m_X3_readTruth h0 40 [(0, .ref s_reader_laws), (1, .int x1), (2, .int (x2 + 1))] [] h64 Q)))))))))))))))) : eb_Sn (d + 1) m_X3_readTruth h0 40 [(0, .ref s_reader_laws), (1, .int x1), (2, .int x2)] [] h Q := by
  refine eb_iload_n (pc := 40) (n := 2) (i := 2) rfl rfl rfl ?_
  refine eb_sipush (pc := 41) (n := 900) (v := 900) rfl rfl ?_
  refine eb_icmp_ge (pc := 44) (tgt := 118) rfl (by decide) (fun c1 => ?_) (fun c1 => ?_)
  · replace w := w.1 c1
    refine eb_aload_n (pc := 118) (n := 0) (i := 0) rfl rfl rfl ?_
    refine eb_sipush (pc := 119) (n := 1020) (v := 1020) rfl rfl ?_
    refine eb_ctV (pc := 122) (As := [.int 1020]) (rest := []) rfl (by decide) rfl rfl (by decide) rfl (Nat.le_of_ble_eq_true rfl) ?_
    refine eb_Ct.mono w ?_
    rintro r h2 ⟨rfl, ko4, w⟩
    change eb_Sn _ _ _ 125 _ [] _ _
    obtain ⟨c5, w⟩ := w
    refine eb_new (pc := 125) rfl (by decide) ?_
    refine eb_dupr (pc := 128) rfl ?_
    refine eb_aload_n (pc := 129) (n := 0) (i := 0) rfl rfl rfl ?_
    refine eb_getR (pc := 130) rfl rfl (by decide) (by decide) rfl (ko_s_reader_laws_1 (ko_nw c5 ko4)) ?_
    refine eb_aload_n (pc := 133) (n := 0) (i := 0) rfl rfl rfl ?_
    refine eb_getI (pc := 134) rfl rfl (by decide) (by decide) rfl ?_
    refine eb_ctS (pc := 137) (As := [.ref s_reader_laws_codes, .int (eb_I (eb_nw h2 2 0 (eb_nf 2)) s_reader_laws 3)]) (rest := [.ref (eb_nx h2 2 0), .ref (eb_nx h2 2 0)]) rfl (by decide) (by decide) rfl rfl (Nat.le_of_ble_eq_true rfl) ?_
    refine eb_Ct.mono w ?_
    rintro r h6 ⟨y7, rfl, ko8, w⟩
    change eb_Sn _ _ _ 140 _ [.ref y7, .ref (eb_nx h2 2 0), .ref (eb_nx h2 2 0)] _ _
    refine eb_ctI (pc := 140) (As := [.ref y7]) (rest := [.ref (eb_nx h2 2 0)]) rfl (by decide) (by decide) rfl rfl rfl rfl (Nat.le_of_ble_eq_true rfl) ?_
    refine eb_Ct.mono w ?_
    rintro r h9 ⟨rfl, ko11, w⟩
    change eb_Sn _ _ _ 143 _ [.ref (eb_nx h2 2 0)] _ _
    exact eb_areturn (pc := 143) rfl rfl rfl w
  · replace w := w.2 c1
    refine eb_aload_n (pc := 47) (n := 0) (i := 0) rfl rfl rfl ?_
    refine eb_getR (pc := 48) rfl rfl (by decide) (by decide) rfl (ko_s_reader_laws_0 ko) ?_
    refine eb_getI (pc := 51) rfl rfl (by decide) (by decide) rfl ?_
    refine eb_if_ne (pc := 54) (tgt := 118) rfl (by decide) (fun c12 => ?_) (fun c12 => ?_)
    · replace w := w.1 c12
      refine eb_aload_n (pc := 118) (n := 0) (i := 0) rfl rfl rfl ?_
      refine eb_sipush (pc := 119) (n := 1020) (v := 1020) rfl rfl ?_
      refine eb_ctV (pc := 122) (As := [.int 1020]) (rest := []) rfl (by decide) rfl rfl (by decide) rfl (Nat.le_of_ble_eq_true rfl) ?_
      refine eb_Ct.mono w ?_
      rintro r h13 ⟨rfl, ko15, w⟩
      change eb_Sn _ _ _ 125 _ [] _ _
      obtain ⟨c16, w⟩ := w
      refine eb_new (pc := 125) rfl (by decide) ?_
      refine eb_dupr (pc := 128) rfl ?_
      refine eb_aload_n (pc := 129) (n := 0) (i := 0) rfl rfl rfl ?_
      refine eb_getR (pc := 130) rfl rfl (by decide) (by decide) rfl (ko_s_reader_laws_1 (ko_nw c16 ko15)) ?_
      refine eb_aload_n (pc := 133) (n := 0) (i := 0) rfl rfl rfl ?_
      refine eb_getI (pc := 134) rfl rfl (by decide) (by decide) rfl ?_
      refine eb_ctS (pc := 137) (As := [.ref s_reader_laws_codes, .int (eb_I (eb_nw h13 2 0 (eb_nf 2)) s_reader_laws 3)]) (rest := [.ref (eb_nx h13 2 0), .ref (eb_nx h13 2 0)]) rfl (by decide) (by decide) rfl rfl (Nat.le_of_ble_eq_true rfl) ?_
      refine eb_Ct.mono w ?_
      rintro r h17 ⟨y18, rfl, ko19, w⟩
      change eb_Sn _ _ _ 140 _ [.ref y18, .ref (eb_nx h13 2 0), .ref (eb_nx h13 2 0)] _ _
      refine eb_ctI (pc := 140) (As := [.ref y18]) (rest := [.ref (eb_nx h13 2 0)]) rfl (by decide) (by decide) rfl rfl rfl rfl (Nat.le_of_ble_eq_true rfl) ?_
      refine eb_Ct.mono w ?_
      rintro r h20 ⟨rfl, ko22, w⟩
      change eb_Sn _ _ _ 143 _ [.ref (eb_nx h13 2 0)] _ _
      exact eb_areturn (pc := 143) rfl rfl rfl w
    · replace w := w.2 c12
      refine eb_aload_n (pc := 57) (n := 0) (i := 0) rfl rfl rfl ?_
      refine eb_ctV (pc := 58) (As := []) (rest := []) rfl (by decide) rfl rfl (by decide) rfl (Nat.le_of_ble_eq_true rfl) ?_
      refine eb_Ct.mono w ?_
      rintro r h23 ⟨y24, rfl, ko25, w⟩
      change eb_Sn _ _ _ 61 _ [.int y24] _ _
      refine eb_if_ne (pc := 61) (tgt := 118) rfl (by decide) (fun c26 => ?_) (fun c26 => ?_)
      · replace w := w.1 c26
        refine eb_aload_n (pc := 118) (n := 0) (i := 0) rfl rfl rfl ?_
        refine eb_sipush (pc := 119) (n := 1020) (v := 1020) rfl rfl ?_
        refine eb_ctV (pc := 122) (As := [.int 1020]) (rest := []) rfl (by decide) rfl rfl (by decide) rfl (Nat.le_of_ble_eq_true rfl) ?_
        refine eb_Ct.mono w ?_
        rintro r h27 ⟨rfl, ko29, w⟩
        change eb_Sn _ _ _ 125 _ [] _ _
        obtain ⟨c30, w⟩ := w
        refine eb_new (pc := 125) rfl (by decide) ?_
        refine eb_dupr (pc := 128) rfl ?_
        refine eb_aload_n (pc := 129) (n := 0) (i := 0) rfl rfl rfl ?_
        refine eb_getR (pc := 130) rfl rfl (by decide) (by decide) rfl (ko_s_reader_laws_1 (ko_nw c30 ko29)) ?_
        refine eb_aload_n (pc := 133) (n := 0) (i := 0) rfl rfl rfl ?_
        refine eb_getI (pc := 134) rfl rfl (by decide) (by decide) rfl ?_
        refine eb_ctS (pc := 137) (As := [.ref s_reader_laws_codes, .int (eb_I (eb_nw h27 2 0 (eb_nf 2)) s_reader_laws 3)]) (rest := [.ref (eb_nx h27 2 0), .ref (eb_nx h27 2 0)]) rfl (by decide) (by decide) rfl rfl (Nat.le_of_ble_eq_true rfl) ?_
        refine eb_Ct.mono w ?_
        rintro r h31 ⟨y32, rfl, ko33, w⟩
        change eb_Sn _ _ _ 140 _ [.ref y32, .ref (eb_nx h27 2 0), .ref (eb_nx h27 2 0)] _ _
        refine eb_ctI (pc := 140) (As := [.ref y32]) (rest := [.ref (eb_nx h27 2 0)]) rfl (by decide) (by decide) rfl rfl rfl rfl (Nat.le_of_ble_eq_true rfl) ?_
        refine eb_Ct.mono w ?_
        rintro r h34 ⟨rfl, ko36, w⟩
        change eb_Sn _ _ _ 143 _ [.ref (eb_nx h27 2 0)] _ _
        exact eb_areturn (pc := 143) rfl rfl rfl w
      · replace w := w.2 c26
        refine eb_aload_n (pc := 64) (n := 0) (i := 0) rfl rfl rfl ?_
        refine eb_iload_n (pc := 65) (n := 1) (i := 1) rfl rfl rfl ?_
        refine eb_ctV (pc := 66) (As := [.int x1]) (rest := []) rfl (by decide) rfl rfl (by decide) rfl (Nat.le_of_ble_eq_true rfl) ?_
        refine eb_Ct.mono w ?_
        rintro r h37 ⟨y38, rfl, ko39, w⟩
        change eb_Sn _ _ _ 69 _ [.int y38] _ _
        refine eb_istore_n (pc := 69) (n := 3) (i := 3) (ls2 := [(3, .int y38), (0, .ref s_reader_laws), (1, .int x1), (2, .int x2)]) rfl (Nat.le_of_ble_eq_true rfl) rfl rfl ?_
        refine eb_aload_n (pc := 70) (n := 0) (i := 0) rfl rfl rfl ?_
        refine eb_getI (pc := 71) rfl rfl (by decide) (by decide) rfl ?_
        refine eb_if_eq (pc := 74) (tgt := 85) rfl (by decide) (fun c40 => ?_) (fun c40 => ?_)
        · replace w := w.1 c40
          refine eb_aload_n (pc := 85) (n := 0) (i := 0) rfl rfl rfl ?_
          refine eb_iload_n (pc := 86) (n := 3) (i := 3) rfl rfl rfl ?_
          refine eb_ctV (pc := 87) (As := [.int y38]) (rest := []) rfl (by decide) rfl rfl (by decide) rfl (Nat.le_of_ble_eq_true rfl) ?_
          refine eb_Ct.mono w ?_
          rintro r h41 ⟨y42, rfl, ko43, w⟩
          change eb_Sn _ _ _ 90 _ [.int y42] _ _
          refine eb_istore (pc := 90) (i := 4) (ls2 := [(4, .int y42), (3, .int y38), (0, .ref s_reader_laws), (1, .int x1), (2, .int x2)]) (Nat.le_of_ble_eq_true rfl) rfl rfl ?_
          refine eb_iload (pc := 92) (i := 4) rfl rfl ?_
          refine eb_if_ne (pc := 94) (tgt := 105) rfl (by decide) (fun c44 => ?_) (fun c44 => ?_)
          · replace w := w.1 c44
            refine eb_aload_n (pc := 105) (n := 0) (i := 0) rfl rfl rfl ?_
            refine eb_getR (pc := 106) rfl rfl (by decide) (by decide) rfl (ko_s_reader_laws_0 ko43) ?_
            refine eb_ctV (pc := 109) (As := []) (rest := []) rfl (by decide) rfl rfl (by decide) rfl (Nat.le_of_ble_eq_true rfl) ?_
            refine eb_Ct.mono w ?_
            rintro r h45 ⟨rfl, ko47, w⟩
            change eb_Sn _ _ _ 112 _ [] _ _
            refine eb_iinc (pc := 112) (i := 2) (n := 1) (v := x2 + 1) (ls2 := [(2, .int (x2 + 1)), (4, .int y42), (3, .int y38), (0, .ref s_reader_laws), (1, .int x1)]) (Nat.le_of_ble_eq_true rfl) rfl rfl rfl rfl ?_
            refine eb_goto (pc := 115) (tgt := 40) rfl (by decide) ?_
            exact eb_pick [3, 4, 0] rfl w
          · replace w := w.2 c44
            refine eb_aload_n (pc := 97) (n := 0) (i := 0) rfl rfl rfl ?_
            refine eb_getR (pc := 98) rfl rfl (by decide) (by decide) rfl (ko_s_reader_laws_0 ko43) ?_
            refine eb_iconst (pc := 101) (n := 2) (v := 2) rfl rfl ?_
            refine eb_ctV (pc := 102) (As := [.int 2]) (rest := []) rfl (by decide) rfl rfl (by decide) rfl (Nat.le_of_ble_eq_true rfl) ?_
            refine eb_Ct.mono w ?_
            rintro r h48 ⟨rfl, ko50, w⟩
            change eb_Sn _ _ _ 105 _ [] _ _
            refine eb_aload_n (pc := 105) (n := 0) (i := 0) rfl rfl rfl ?_
            refine eb_getR (pc := 106) rfl rfl (by decide) (by decide) rfl (ko_s_reader_laws_0 ko50) ?_
            refine eb_ctV (pc := 109) (As := []) (rest := []) rfl (by decide) rfl rfl (by decide) rfl (Nat.le_of_ble_eq_true rfl) ?_
            refine eb_Ct.mono w ?_
            rintro r h51 ⟨rfl, ko53, w⟩
            change eb_Sn _ _ _ 112 _ [] _ _
            refine eb_iinc (pc := 112) (i := 2) (n := 1) (v := x2 + 1) (ls2 := [(2, .int (x2 + 1)), (4, .int y42), (3, .int y38), (0, .ref s_reader_laws), (1, .int x1)]) (Nat.le_of_ble_eq_true rfl) rfl rfl rfl rfl ?_
            refine eb_goto (pc := 115) (tgt := 40) rfl (by decide) ?_
            exact eb_pick [3, 4, 0] rfl w
        · replace w := w.2 c40
          refine eb_aload_n (pc := 77) (n := 0) (i := 0) rfl rfl rfl ?_
          refine eb_iload_n (pc := 78) (n := 3) (i := 3) rfl rfl rfl ?_
          refine eb_ctV (pc := 79) (As := [.int y38]) (rest := []) rfl (by decide) rfl rfl (by decide) rfl (Nat.le_of_ble_eq_true rfl) ?_
          refine eb_Ct.mono w ?_
          rintro r h54 ⟨y55, rfl, ko56, w⟩
          change eb_Sn _ _ _ 82 _ [.int y55] _ _
          refine eb_goto (pc := 82) (tgt := 90) rfl (by decide) ?_
          refine eb_istore (pc := 90) (i := 4) (ls2 := [(4, .int y55), (3, .int y38), (0, .ref s_reader_laws), (1, .int x1), (2, .int x2)]) (Nat.le_of_ble_eq_true rfl) rfl rfl ?_
          refine eb_iload (pc := 92) (i := 4) rfl rfl ?_
          refine eb_if_ne (pc := 94) (tgt := 105) rfl (by decide) (fun c57 => ?_) (fun c57 => ?_)
          · replace w := w.1 c57
            refine eb_aload_n (pc := 105) (n := 0) (i := 0) rfl rfl rfl ?_
            refine eb_getR (pc := 106) rfl rfl (by decide) (by decide) rfl (ko_s_reader_laws_0 ko56) ?_
            refine eb_ctV (pc := 109) (As := []) (rest := []) rfl (by decide) rfl rfl (by decide) rfl (Nat.le_of_ble_eq_true rfl) ?_
            refine eb_Ct.mono w ?_
            rintro r h58 ⟨rfl, ko60, w⟩
            change eb_Sn _ _ _ 112 _ [] _ _
            refine eb_iinc (pc := 112) (i := 2) (n := 1) (v := x2 + 1) (ls2 := [(2, .int (x2 + 1)), (4, .int y55), (3, .int y38), (0, .ref s_reader_laws), (1, .int x1)]) (Nat.le_of_ble_eq_true rfl) rfl rfl rfl rfl ?_
            refine eb_goto (pc := 115) (tgt := 40) rfl (by decide) ?_
            exact eb_pick [3, 4, 0] rfl w
          · replace w := w.2 c57
            refine eb_aload_n (pc := 97) (n := 0) (i := 0) rfl rfl rfl ?_
            refine eb_getR (pc := 98) rfl rfl (by decide) (by decide) rfl (ko_s_reader_laws_0 ko56) ?_
            refine eb_iconst (pc := 101) (n := 2) (v := 2) rfl rfl ?_
            refine eb_ctV (pc := 102) (As := [.int 2]) (rest := []) rfl (by decide) rfl rfl (by decide) rfl (Nat.le_of_ble_eq_true rfl) ?_
            refine eb_Ct.mono w ?_
            rintro r h61 ⟨rfl, ko63, w⟩
            change eb_Sn _ _ _ 105 _ [] _ _
            refine eb_aload_n (pc := 105) (n := 0) (i := 0) rfl rfl rfl ?_
            refine eb_getR (pc := 106) rfl rfl (by decide) (by decide) rfl (ko_s_reader_laws_0 ko63) ?_
            refine eb_ctV (pc := 109) (As := []) (rest := []) rfl (by decide) rfl rfl (by decide) rfl (Nat.le_of_ble_eq_true rfl) ?_
            refine eb_Ct.mono w ?_
            rintro r h64 ⟨rfl, ko66, w⟩
            change eb_Sn _ _ _ 112 _ [] _ _
            refine eb_iinc (pc := 112) (i := 2) (n := 1) (v := x2 + 1) (ls2 := [(2, .int (x2 + 1)), (4, .int y55), (3, .int y38), (0, .ref s_reader_laws), (1, .int x1)]) (Nat.le_of_ble_eq_true rfl) rfl rfl rfl rfl ?_
            refine eb_goto (pc := 115) (tgt := 40) rfl (by decide) ?_
            exact eb_pick [3, 4, 0] rfl w
theorem T_X3_readTruth {d : Nat} {h : eb_H} {Q : Option Value → eb_H → Prop} (x1 : Int32)  (ko : eb_KO h) (w : eb_Ct d 29 [.ref s_reader_laws] h (fun r h1 => r = none ∧ eb_KO h1 ∧ eb_Ct d 69 [.ref s_tape] h1 (fun r h4 => r = none ∧ eb_KO h4 ∧ eb_Ct d 72 [.ref s_tape, .ref (eb_mk 1 21 0)] h4 (fun r h7 => ∃ y8, r = some (.int y8) ∧ eb_KO h7 ∧ ((¬ y8 = 0 → eb_Ct d 69 [.ref s_tape] h7 (fun r h11 => r = none ∧ eb_KO h11 ∧ eb_Sn (d + 1) m_X3_readTruth h 40 [(0, .ref s_reader_laws), (1, .int x1), (2, .int 0)] [] h11 Q)) ∧ (y8 = 0 → eb_Ct d 68 [.ref s_tape, .int 2] h7 (fun r h14 => r = none ∧ eb_KO h14 ∧ eb_Ct d 69 [.ref s_tape] h14 (fun r h17 => r = none ∧ eb_KO h17 ∧ eb_Sn (d + 1) m_X3_readTruth h 40 [(0, .ref s_reader_laws), (1, .int x1), (2, .int 0)] [] h17 Q)))))))) : eb_Ct (d + 1) 28 [.ref s_reader_laws, .int x1] h Q :=
  eb_bodyQ (by decide) ok_X3_readTruth (Nat.le_of_ble_eq_true rfl) (b_X3_readTruth_0 (h0 := h) x1  ko w)
theorem b_X3_clearAll_0 {d : Nat} {h0 h : eb_H} {Q : Option Value → eb_H → Prop}   (ko : eb_KO h) (w : Q none (eb_sI (eb_sI (eb_sI (eb_sI (eb_sI (eb_sI (eb_sI (eb_sI h s_reader_laws 3 0) s_reader_laws 4 0) s_reader_laws 5 0) s_reader_laws 6 0) s_reader_laws 7 0) s_reader_laws 8 0) s_reader_laws 9 1) s_reader_laws 10 1)) : eb_Sn d m_X3_clearAll h0 0 [(0, .ref s_reader_laws)] [] h Q := by
  refine eb_aload_n (pc := 0) (n := 0) (i := 0) rfl rfl rfl ?_
  refine eb_iconst (pc := 1) (n := 0) (v := 0) rfl rfl ?_
  refine eb_putI (pc := 2) rfl rfl (by decide) (by decide) rfl rfl ⟨rfl, rfl⟩ ?_
  refine eb_aload_n (pc := 5) (n := 0) (i := 0) rfl rfl rfl ?_
  refine eb_iconst (pc := 6) (n := 0) (v := 0) rfl rfl ?_
  refine eb_putI (pc := 7) rfl rfl (by decide) (by decide) rfl rfl ⟨rfl, rfl⟩ ?_
  refine eb_aload_n (pc := 10) (n := 0) (i := 0) rfl rfl rfl ?_
  refine eb_iconst (pc := 11) (n := 0) (v := 0) rfl rfl ?_
  refine eb_putI (pc := 12) rfl rfl (by decide) (by decide) rfl rfl ⟨rfl, rfl⟩ ?_
  refine eb_aload_n (pc := 15) (n := 0) (i := 0) rfl rfl rfl ?_
  refine eb_iconst (pc := 16) (n := 0) (v := 0) rfl rfl ?_
  refine eb_putI (pc := 17) rfl rfl (by decide) (by decide) rfl rfl ⟨rfl, rfl⟩ ?_
  refine eb_aload_n (pc := 20) (n := 0) (i := 0) rfl rfl rfl ?_
  refine eb_iconst (pc := 21) (n := 0) (v := 0) rfl rfl ?_
  refine eb_putI (pc := 22) rfl rfl (by decide) (by decide) rfl rfl ⟨rfl, rfl⟩ ?_
  refine eb_aload_n (pc := 25) (n := 0) (i := 0) rfl rfl rfl ?_
  refine eb_iconst (pc := 26) (n := 0) (v := 0) rfl rfl ?_
  refine eb_putI (pc := 27) rfl rfl (by decide) (by decide) rfl rfl ⟨rfl, rfl⟩ ?_
  refine eb_aload_n (pc := 30) (n := 0) (i := 0) rfl rfl rfl ?_
  refine eb_iconst (pc := 31) (n := 1) (v := 1) rfl rfl ?_
  refine eb_putI (pc := 32) rfl rfl (by decide) (by decide) rfl rfl ⟨rfl, rfl⟩ ?_
  refine eb_aload_n (pc := 35) (n := 0) (i := 0) rfl rfl rfl ?_
  refine eb_iconst (pc := 36) (n := 1) (v := 1) rfl rfl ?_
  refine eb_putI (pc := 37) rfl rfl (by decide) (by decide) rfl rfl ⟨rfl, rfl⟩ ?_
  exact eb_return (pc := 40) rfl rfl w
theorem T_X3_clearAll {d : Nat} {h : eb_H} {Q : Option Value → eb_H → Prop}   (ko : eb_KO h) (w : Q none (eb_sI (eb_sI (eb_sI (eb_sI (eb_sI (eb_sI (eb_sI (eb_sI h s_reader_laws 3 0) s_reader_laws 4 0) s_reader_laws 5 0) s_reader_laws 6 0) s_reader_laws 7 0) s_reader_laws 8 0) s_reader_laws 9 1) s_reader_laws 10 1)) : eb_Ct d 29 [.ref s_reader_laws] h Q :=
  eb_bodyQ (by decide) ok_X3_clearAll (Nat.le_of_ble_eq_true rfl) (b_X3_clearAll_0 (h0 := h)   ko w)
theorem b_X3_isOver_0 {d : Nat} {h0 h : eb_H} {Q : Option Value → eb_H → Prop}   (ko : eb_KO h) (w : eb_Ct d 72 [.ref s_tape, .ref (eb_mk 2 21 0)] h (fun r h1 => ∃ y2, r = some (.int y2) ∧ eb_KO h1 ∧ Q (some (.int (eb_q ((¬ (y2 = 0)) ∧ (((eb_I h1 s_reader_laws 9) = 0) ∧ ((¬ ((eb_I h1 s_reader_laws 8) = 0)) ∧ (((eb_I h1 s_reader_laws 6) = 0) ∧ ((eb_I h1 s_reader_laws 7) = 0)))))))) h1)) : eb_Sn (d + 1) m_X3_isOver h0 0 [(0, .ref s_reader_laws)] [] h Q := by
  refine eb_aload_n (pc := 0) (n := 0) (i := 0) rfl rfl rfl ?_
  refine eb_getR (pc := 1) rfl rfl (by decide) (by decide) rfl (ko_s_reader_laws_0 ko) ?_
  refine eb_ldcS (pc := 4) (a := 2) (i := eb_mk 2 21 0) rfl rfl rfl ?_
  refine eb_ctV (pc := 6) (As := [.ref (eb_mk 2 21 0)]) (rest := []) rfl (by decide) rfl rfl (by decide) rfl (Nat.le_of_ble_eq_true rfl) ?_
  refine eb_Ct.mono w ?_
  rintro r h1 ⟨y2, rfl, ko3, w⟩
  change eb_Sn _ _ _ 9 _ [.int y2] _ _
  refine eb_joinI (pc2 := 45) (ls2 := [(0, .ref s_reader_laws)]) (st2 := []) (v := eb_q ((¬ (y2 = 0)) ∧ (((eb_I h1 s_reader_laws 9) = 0) ∧ ((¬ ((eb_I h1 s_reader_laws 8) = 0)) ∧ (((eb_I h1 s_reader_laws 6) = 0) ∧ ((eb_I h1 s_reader_laws 7) = 0)))))) ?_ (fun jj9 => ?_)
  · exact eb_ireturn (pc := 45) rfl rfl eb_qn w
  refine eb_if_eq (pc := 9) (tgt := 44) rfl (by decide) (fun c4 => ?_) (fun c4 => ?_)
  · refine eb_iconst (pc := 44) (n := 0) (v := 0) rfl rfl ?_
    exact jj9 0 (eb_qf (fun z => z.1 c4)).symm
  · refine eb_aload_n (pc := 12) (n := 0) (i := 0) rfl rfl rfl ?_
    refine eb_getI (pc := 13) rfl rfl (by decide) (by decide) rfl ?_
    refine eb_if_ne (pc := 16) (tgt := 44) rfl (by decide) (fun c5 => ?_) (fun c5 => ?_)
    · refine eb_iconst (pc := 44) (n := 0) (v := 0) rfl rfl ?_
      exact jj9 0 (eb_qf (fun z => (fun z => c5 z.1) z.2)).symm
    · refine eb_aload_n (pc := 19) (n := 0) (i := 0) rfl rfl rfl ?_
      refine eb_getI (pc := 20) rfl rfl (by decide) (by decide) rfl ?_
      refine eb_if_eq (pc := 23) (tgt := 44) rfl (by decide) (fun c6 => ?_) (fun c6 => ?_)
      · refine eb_iconst (pc := 44) (n := 0) (v := 0) rfl rfl ?_
        exact jj9 0 (eb_qf (fun z => (fun z => (fun z => z.1 c6) z.2) z.2)).symm
      · refine eb_aload_n (pc := 26) (n := 0) (i := 0) rfl rfl rfl ?_
        refine eb_getI (pc := 27) rfl rfl (by decide) (by decide) rfl ?_
        refine eb_if_ne (pc := 30) (tgt := 44) rfl (by decide) (fun c7 => ?_) (fun c7 => ?_)
        · refine eb_iconst (pc := 44) (n := 0) (v := 0) rfl rfl ?_
          exact jj9 0 (eb_qf (fun z => (fun z => (fun z => (fun z => c7 z.1) z.2) z.2) z.2)).symm
        · refine eb_aload_n (pc := 33) (n := 0) (i := 0) rfl rfl rfl ?_
          refine eb_getI (pc := 34) rfl rfl (by decide) (by decide) rfl ?_
          refine eb_if_ne (pc := 37) (tgt := 44) rfl (by decide) (fun c8 => ?_) (fun c8 => ?_)
          · refine eb_iconst (pc := 44) (n := 0) (v := 0) rfl rfl ?_
            exact jj9 0 (eb_qf (fun z => (fun z => (fun z => (fun z => c8 z.2) z.2) z.2) z.2)).symm
          · refine eb_iconst (pc := 40) (n := 1) (v := 1) rfl rfl ?_
            refine eb_goto (pc := 41) (tgt := 45) rfl (by decide) ?_
            exact jj9 1 (eb_qt (⟨c4, ⟨c5, ⟨c6, ⟨c7, c8⟩⟩⟩⟩)).symm
theorem T_X3_isOver {d : Nat} {h : eb_H} {Q : Option Value → eb_H → Prop}   (ko : eb_KO h) (w : eb_Ct d 72 [.ref s_tape, .ref (eb_mk 2 21 0)] h (fun r h1 => ∃ y2, r = some (.int y2) ∧ eb_KO h1 ∧ Q (some (.int (eb_q ((¬ (y2 = 0)) ∧ (((eb_I h1 s_reader_laws 9) = 0) ∧ ((¬ ((eb_I h1 s_reader_laws 8) = 0)) ∧ (((eb_I h1 s_reader_laws 6) = 0) ∧ ((eb_I h1 s_reader_laws 7) = 0)))))))) h1)) : eb_Ct (d + 1) 30 [.ref s_reader_laws] h Q :=
  eb_bodyQ (by decide) ok_X3_isOver (Nat.le_of_ble_eq_true rfl) (b_X3_isOver_0 (h0 := h)   ko w)
theorem b_X3_codeAtHand_0 {d : Nat} {h0 h : eb_H} {Q : Option Value → eb_H → Prop} (x1 : Int32)  (ko : eb_KO h) (w : (((eb_I h s_tape 5) = 1 → eb_Ct d 33 [.ref s_reader_laws, .int x1] h (fun r h1 => ∃ y2, r = some (.int y2) ∧ eb_KO h1 ∧ Q (some (.int y2)) h1)) ∧ ((eb_I h s_tape 5) = 2 → Q (some (.int (eb_I h s_tape 6))) h) ∧ ((eb_I h s_tape 5) = 3 → eb_Ct d 73 [.ref s_tape] h (fun r h4 => ∃ y5, r = some (.int y5) ∧ eb_KO h4 ∧ eb_Ct d 32 [.int y5] h4 (fun r h7 => ∃ y8, r = some (.int y8) ∧ eb_KO h7 ∧ Q (some (.int y8)) h7))) ∧ (¬ (eb_I h s_tape 5) = 1 → ¬ (eb_I h s_tape 5) = 2 → ¬ (eb_I h s_tape 5) = 3 → Q (some (.int (-1))) h))) : eb_Sn (d + 1) m_X3_codeAtHand h0 0 [(0, .ref s_reader_laws), (1, .int x1)] [] h Q := by
  refine eb_aload_n (pc := 0) (n := 0) (i := 0) rfl rfl rfl ?_
  refine eb_getR (pc := 1) rfl rfl (by decide) (by decide) rfl (ko_s_reader_laws_0 ko) ?_
  refine eb_getI (pc := 4) rfl rfl (by decide) (by decide) rfl ?_
  by_cases s0 : (eb_I h s_tape 5) = 1
  · refine eb_tableIn (pc := 7) (j := 0) (tgt := 51) (by rw [s0]; decide) (by decide) (by rfl) (by decide) rfl ?_
    replace w := w.1 s0
    refine eb_aload_n (pc := 51) (n := 0) (i := 0) rfl rfl rfl ?_
    refine eb_iload_n (pc := 52) (n := 1) (i := 1) rfl rfl rfl ?_
    refine eb_ctV (pc := 53) (As := [.int x1]) (rest := []) rfl (by decide) rfl rfl (by decide) rfl (Nat.le_of_ble_eq_true rfl) ?_
    refine eb_Ct.mono w ?_
    rintro r h1 ⟨y2, rfl, ko3, w⟩
    change eb_Sn _ _ _ 56 _ [.int y2] _ _
    exact eb_ireturn (pc := 56) rfl rfl rfl w
  by_cases s1 : (eb_I h s_tape 5) = 2
  · refine eb_tableIn (pc := 7) (j := 1) (tgt := 32) (by rw [s1]; decide) (by decide) (by rfl) (by decide) rfl ?_
    replace w := w.2.1 s1
    refine eb_aload_n (pc := 32) (n := 0) (i := 0) rfl rfl rfl ?_
    refine eb_getR (pc := 33) rfl rfl (by decide) (by decide) rfl (ko_s_reader_laws_0 ko) ?_
    refine eb_getI (pc := 36) rfl rfl (by decide) (by decide) rfl ?_
    exact eb_ireturn (pc := 39) rfl rfl rfl w
  by_cases s2 : (eb_I h s_tape 5) = 3
  · refine eb_tableIn (pc := 7) (j := 2) (tgt := 40) (by rw [s2]; decide) (by decide) (by rfl) (by decide) rfl ?_
    replace w := w.2.2.1 s2
    refine eb_aload_n (pc := 40) (n := 0) (i := 0) rfl rfl rfl ?_
    refine eb_getR (pc := 41) rfl rfl (by decide) (by decide) rfl (ko_s_reader_laws_0 ko) ?_
    refine eb_ctV (pc := 44) (As := []) (rest := []) rfl (by decide) rfl rfl (by decide) rfl (Nat.le_of_ble_eq_true rfl) ?_
    refine eb_Ct.mono w ?_
    rintro r h4 ⟨y5, rfl, ko6, w⟩
    change eb_Sn _ _ _ 47 _ [.int y5] _ _
    refine eb_ctS (pc := 47) (As := [.int y5]) (rest := []) rfl (by decide) (by decide) rfl rfl (Nat.le_of_ble_eq_true rfl) ?_
    refine eb_Ct.mono w ?_
    rintro r h7 ⟨y8, rfl, ko9, w⟩
    change eb_Sn _ _ _ 50 _ [.int y8] _ _
    exact eb_ireturn (pc := 50) rfl rfl rfl w
  refine eb_tableOut (pc := 7) (tgt := 57) (by have z0 := lv_neT (a := 1) s0 (by decide); have z1 := lv_neT (a := 2) s1 (by decide); have z2 := lv_neT (a := 3) s2 (by decide); omega) (by decide) rfl ?_
  replace w := w.2.2.2 s0 s1 s2
  refine eb_iconst (pc := 57) (n := -1) (v := (-1)) rfl rfl ?_
  exact eb_ireturn (pc := 58) rfl rfl rfl w
theorem T_X3_codeAtHand {d : Nat} {h : eb_H} {Q : Option Value → eb_H → Prop} (x1 : Int32)  (ko : eb_KO h) (w : (((eb_I h s_tape 5) = 1 → eb_Ct d 33 [.ref s_reader_laws, .int x1] h (fun r h1 => ∃ y2, r = some (.int y2) ∧ eb_KO h1 ∧ Q (some (.int y2)) h1)) ∧ ((eb_I h s_tape 5) = 2 → Q (some (.int (eb_I h s_tape 6))) h) ∧ ((eb_I h s_tape 5) = 3 → eb_Ct d 73 [.ref s_tape] h (fun r h4 => ∃ y5, r = some (.int y5) ∧ eb_KO h4 ∧ eb_Ct d 32 [.int y5] h4 (fun r h7 => ∃ y8, r = some (.int y8) ∧ eb_KO h7 ∧ Q (some (.int y8)) h7))) ∧ (¬ (eb_I h s_tape 5) = 1 → ¬ (eb_I h s_tape 5) = 2 → ¬ (eb_I h s_tape 5) = 3 → Q (some (.int (-1))) h))) : eb_Ct (d + 1) 31 [.ref s_reader_laws, .int x1] h Q :=
  eb_bodyQ (by decide) ok_X3_codeAtHand (Nat.le_of_ble_eq_true rfl) (b_X3_codeAtHand_0 (h0 := h) x1  ko w)
theorem b_X3_codeOfSign_0 {d : Nat} {h0 h : eb_H} {Q : Option Value → eb_H → Prop} (x0 : Int32)  (ko : eb_KO h) (w : ((x0 = 40 → Q (some (.int 1011)) h) ∧ (x0 = 41 → Q (some (.int 1081)) h) ∧ (x0 = 42 → Q (some (.int 1070)) h) ∧ (x0 = 43 → Q (some (.int 1060)) h) ∧ (x0 = 45 → Q (some (.int 1061)) h) ∧ (x0 = 60 → Q (some (.int 1051)) h) ∧ (x0 = 61 → Q (some (.int 1050)) h) ∧ (x0 = 62 → Q (some (.int 1052)) h) ∧ (x0 = 91 → Q (some (.int 1010)) h) ∧ (x0 = 93 → Q (some (.int 1080)) h) ∧ (¬ x0 = 40 → ¬ x0 = 41 → ¬ x0 = 42 → ¬ x0 = 43 → ¬ x0 = 45 → ¬ x0 = 60 → ¬ x0 = 61 → ¬ x0 = 62 → ¬ x0 = 91 → ¬ x0 = 93 → Q (some (.int (-1))) h))) : eb_Sn d m_X3_codeOfSign h0 0 [(0, .int x0)] [] h Q := by
  refine eb_iload_n (pc := 0) (n := 0) (i := 0) rfl rfl rfl ?_
  by_cases s0 : x0 = 40
  · refine eb_lookup (pc := 1) (off := 119) (tgt := 120) (by decide) (by rw [s0]; decide) (by decide) rfl ?_
    replace w := w.1 s0
    refine eb_sipush (pc := 120) (n := 1011) (v := 1011) rfl rfl ?_
    exact eb_ireturn (pc := 123) rfl rfl rfl w
  by_cases s1 : x0 = 41
  · refine eb_lookup (pc := 1) (off := 127) (tgt := 128) (by decide) (by rw [s1]; decide) (by decide) rfl ?_
    replace w := w.2.1 s1
    refine eb_sipush (pc := 128) (n := 1081) (v := 1081) rfl rfl ?_
    exact eb_ireturn (pc := 131) rfl rfl rfl w
  by_cases s2 : x0 = 42
  · refine eb_lookup (pc := 1) (off := 111) (tgt := 112) (by decide) (by rw [s2]; decide) (by decide) rfl ?_
    replace w := w.2.2.1 s2
    refine eb_sipush (pc := 112) (n := 1070) (v := 1070) rfl rfl ?_
    exact eb_ireturn (pc := 115) rfl rfl rfl w
  by_cases s3 : x0 = 43
  · refine eb_lookup (pc := 1) (off := 103) (tgt := 104) (by decide) (by rw [s3]; decide) (by decide) rfl ?_
    replace w := w.2.2.2.1 s3
    refine eb_sipush (pc := 104) (n := 1060) (v := 1060) rfl rfl ?_
    exact eb_ireturn (pc := 107) rfl rfl rfl w
  by_cases s4 : x0 = 45
  · refine eb_lookup (pc := 1) (off := 107) (tgt := 108) (by decide) (by rw [s4]; decide) (by decide) rfl ?_
    replace w := w.2.2.2.2.1 s4
    refine eb_sipush (pc := 108) (n := 1061) (v := 1061) rfl rfl ?_
    exact eb_ireturn (pc := 111) rfl rfl rfl w
  by_cases s5 : x0 = 60
  · refine eb_lookup (pc := 1) (off := 95) (tgt := 96) (by decide) (by rw [s5]; decide) (by decide) rfl ?_
    replace w := w.2.2.2.2.2.1 s5
    refine eb_sipush (pc := 96) (n := 1051) (v := 1051) rfl rfl ?_
    exact eb_ireturn (pc := 99) rfl rfl rfl w
  by_cases s6 : x0 = 61
  · refine eb_lookup (pc := 1) (off := 91) (tgt := 92) (by decide) (by rw [s6]; decide) (by decide) rfl ?_
    replace w := w.2.2.2.2.2.2.1 s6
    refine eb_sipush (pc := 92) (n := 1050) (v := 1050) rfl rfl ?_
    exact eb_ireturn (pc := 95) rfl rfl rfl w
  by_cases s7 : x0 = 62
  · refine eb_lookup (pc := 1) (off := 99) (tgt := 100) (by decide) (by rw [s7]; decide) (by decide) rfl ?_
    replace w := w.2.2.2.2.2.2.2.1 s7
    refine eb_sipush (pc := 100) (n := 1052) (v := 1052) rfl rfl ?_
    exact eb_ireturn (pc := 103) rfl rfl rfl w
  by_cases s8 : x0 = 91
  · refine eb_lookup (pc := 1) (off := 115) (tgt := 116) (by decide) (by rw [s8]; decide) (by decide) rfl ?_
    replace w := w.2.2.2.2.2.2.2.2.1 s8
    refine eb_sipush (pc := 116) (n := 1010) (v := 1010) rfl rfl ?_
    exact eb_ireturn (pc := 119) rfl rfl rfl w
  by_cases s9 : x0 = 93
  · refine eb_lookup (pc := 1) (off := 123) (tgt := 124) (by decide) (by rw [s9]; decide) (by decide) rfl ?_
    replace w := w.2.2.2.2.2.2.2.2.2.1 s9
    refine eb_sipush (pc := 124) (n := 1080) (v := 1080) rfl rfl ?_
    exact eb_ireturn (pc := 127) rfl rfl rfl w
  refine eb_lookup (pc := 1) (off := 131) (tgt := 132) (by decide) (by rw [lv_osw (k := 40) s0 (by decide)]; rw [lv_osw (k := 41) s1 (by decide)]; rw [lv_osw (k := 42) s2 (by decide)]; rw [lv_osw (k := 43) s3 (by decide)]; rw [lv_osw (k := 45) s4 (by decide)]; rw [lv_osw (k := 60) s5 (by decide)]; rw [lv_osw (k := 61) s6 (by decide)]; rw [lv_osw (k := 62) s7 (by decide)]; rw [lv_osw (k := 91) s8 (by decide)]; rw [lv_osw (k := 93) s9 (by decide)]; rfl) (by decide) rfl ?_
  replace w := w.2.2.2.2.2.2.2.2.2.2 s0 s1 s2 s3 s4 s5 s6 s7 s8 s9
  refine eb_iconst (pc := 132) (n := -1) (v := (-1)) rfl rfl ?_
  exact eb_ireturn (pc := 133) rfl rfl rfl w
theorem T_X3_codeOfSign {d : Nat} {h : eb_H} {Q : Option Value → eb_H → Prop} (x0 : Int32)  (ko : eb_KO h) (w : ((x0 = 40 → Q (some (.int 1011)) h) ∧ (x0 = 41 → Q (some (.int 1081)) h) ∧ (x0 = 42 → Q (some (.int 1070)) h) ∧ (x0 = 43 → Q (some (.int 1060)) h) ∧ (x0 = 45 → Q (some (.int 1061)) h) ∧ (x0 = 60 → Q (some (.int 1051)) h) ∧ (x0 = 61 → Q (some (.int 1050)) h) ∧ (x0 = 62 → Q (some (.int 1052)) h) ∧ (x0 = 91 → Q (some (.int 1010)) h) ∧ (x0 = 93 → Q (some (.int 1080)) h) ∧ (¬ x0 = 40 → ¬ x0 = 41 → ¬ x0 = 42 → ¬ x0 = 43 → ¬ x0 = 45 → ¬ x0 = 60 → ¬ x0 = 61 → ¬ x0 = 62 → ¬ x0 = 91 → ¬ x0 = 93 → Q (some (.int (-1))) h))) : eb_Ct d 32 [.int x0] h Q :=
  eb_bodyQ (by decide) ok_X3_codeOfSign (Nat.le_of_ble_eq_true rfl) (b_X3_codeOfSign_0 (h0 := h) x0  ko w)
theorem b_X3_codeOfWord_0 {d : Nat} {h0 h : eb_H} {Q : Option Value → eb_H → Prop} (x1 : Int32)  (ko : eb_KO h) (w : eb_Ct d 72 [.ref s_tape, .ref (eb_mk 10 21 0)] h (fun r h1 => ∃ y2, r = some (.int y2) ∧ eb_KO h1 ∧ ((y2 = 0 → eb_Ct d 72 [.ref s_tape, .ref (eb_mk 9 21 0)] h1 (fun r h5 => ∃ y6, r = some (.int y6) ∧ eb_KO h5 ∧ ((y6 = 0 → eb_Ct d 72 [.ref s_tape, .ref (eb_mk 12 21 0)] h5 (fun r h9 => ∃ y10, r = some (.int y10) ∧ eb_KO h9 ∧ ((y10 = 0 → eb_Ct d 72 [.ref s_tape, .ref (eb_mk 20 21 0)] h9 (fun r h13 => ∃ y14, r = some (.int y14) ∧ eb_KO h13 ∧ ((y14 = 0 → eb_Ct d 72 [.ref s_tape, .ref (eb_mk 7 21 0)] h13 (fun r h17 => ∃ y18, r = some (.int y18) ∧ eb_KO h17 ∧ ((y18 = 0 → eb_Ct d 72 [.ref s_tape, .ref (eb_mk 18 21 0)] h17 (fun r h21 => ∃ y22, r = some (.int y22) ∧ eb_KO h21 ∧ ((y22 = 0 → eb_Ct d 72 [.ref s_tape, .ref (eb_mk 15 21 0)] h21 (fun r h25 => ∃ y26, r = some (.int y26) ∧ eb_KO h25 ∧ ((y26 = 0 → eb_Ct d 72 [.ref s_tape, .ref (eb_mk 4 21 0)] h25 (fun r h29 => ∃ y30, r = some (.int y30) ∧ eb_KO h29 ∧ ((y30 = 0 → eb_Ct d 72 [.ref s_tape, .ref (eb_mk 14 21 0)] h29 (fun r h33 => ∃ y34, r = some (.int y34) ∧ eb_KO h33 ∧ Q (some (.int (if y34 = 0 then (-1) else 1040 : Int32))) h33)) ∧ (¬ (y30 = 0) → Q (some (.int 1030)) h29)))) ∧ (¬ (y26 = 0) → Q (some (.int 1020)) h25)))) ∧ (¬ (y22 = 0) → ((x1 = 0 → eb_Ct d 72 [.ref s_tape, .ref (eb_mk 15 21 0)] h21 (fun r h40 => ∃ y41, r = some (.int y41) ∧ eb_KO h40 ∧ ((y41 = 0 → eb_Ct d 72 [.ref s_tape, .ref (eb_mk 4 21 0)] h40 (fun r h44 => ∃ y45, r = some (.int y45) ∧ eb_KO h44 ∧ ((y45 = 0 → eb_Ct d 72 [.ref s_tape, .ref (eb_mk 14 21 0)] h44 (fun r h48 => ∃ y49, r = some (.int y49) ∧ eb_KO h48 ∧ Q (some (.int (if y49 = 0 then (-1) else 1040 : Int32))) h48)) ∧ (¬ (y45 = 0) → Q (some (.int 1030)) h44)))) ∧ (¬ (y41 = 0) → Q (some (.int 1020)) h40)))) ∧ (¬ (x1 = 0) → Q (some (.int 1005)) h21)))))) ∧ (¬ (y18 = 0) → Q (some (.int 1004)) h17)))) ∧ (¬ (y14 = 0) → Q (some (.int 1003)) h13)))) ∧ (¬ (y10 = 0) → Q (some (.int 1002)) h9)))) ∧ (¬ (y6 = 0) → Q (some (.int 1001)) h5)))) ∧ (¬ (y2 = 0) → Q (some (.int 1000)) h1)))) : eb_Sn (d + 1) m_X3_codeOfWord h0 0 [(0, .ref s_reader_laws), (1, .int x1)] [] h Q := by
  refine eb_aload_n (pc := 0) (n := 0) (i := 0) rfl rfl rfl ?_
  refine eb_getR (pc := 1) rfl rfl (by decide) (by decide) rfl (ko_s_reader_laws_0 ko) ?_
  refine eb_ldcS (pc := 4) (a := 10) (i := eb_mk 10 21 0) rfl rfl rfl ?_
  refine eb_ctV (pc := 6) (As := [.ref (eb_mk 10 21 0)]) (rest := []) rfl (by decide) rfl rfl (by decide) rfl (Nat.le_of_ble_eq_true rfl) ?_
  refine eb_Ct.mono w ?_
  rintro r h1 ⟨y2, rfl, ko3, w⟩
  change eb_Sn _ _ _ 9 _ [.int y2] _ _
  refine eb_if_eq (pc := 9) (tgt := 16) rfl (by decide) (fun c4 => ?_) (fun c4 => ?_)
  · replace w := w.1 c4
    refine eb_aload_n (pc := 16) (n := 0) (i := 0) rfl rfl rfl ?_
    refine eb_getR (pc := 17) rfl rfl (by decide) (by decide) rfl (ko_s_reader_laws_0 ko3) ?_
    refine eb_ldcS (pc := 20) (a := 9) (i := eb_mk 9 21 0) rfl rfl rfl ?_
    refine eb_ctV (pc := 22) (As := [.ref (eb_mk 9 21 0)]) (rest := []) rfl (by decide) rfl rfl (by decide) rfl (Nat.le_of_ble_eq_true rfl) ?_
    refine eb_Ct.mono w ?_
    rintro r h5 ⟨y6, rfl, ko7, w⟩
    change eb_Sn _ _ _ 25 _ [.int y6] _ _
    refine eb_if_eq (pc := 25) (tgt := 32) rfl (by decide) (fun c8 => ?_) (fun c8 => ?_)
    · replace w := w.1 c8
      refine eb_aload_n (pc := 32) (n := 0) (i := 0) rfl rfl rfl ?_
      refine eb_getR (pc := 33) rfl rfl (by decide) (by decide) rfl (ko_s_reader_laws_0 ko7) ?_
      refine eb_ldcS (pc := 36) (a := 12) (i := eb_mk 12 21 0) rfl rfl rfl ?_
      refine eb_ctV (pc := 38) (As := [.ref (eb_mk 12 21 0)]) (rest := []) rfl (by decide) rfl rfl (by decide) rfl (Nat.le_of_ble_eq_true rfl) ?_
      refine eb_Ct.mono w ?_
      rintro r h9 ⟨y10, rfl, ko11, w⟩
      change eb_Sn _ _ _ 41 _ [.int y10] _ _
      refine eb_if_eq (pc := 41) (tgt := 48) rfl (by decide) (fun c12 => ?_) (fun c12 => ?_)
      · replace w := w.1 c12
        refine eb_aload_n (pc := 48) (n := 0) (i := 0) rfl rfl rfl ?_
        refine eb_getR (pc := 49) rfl rfl (by decide) (by decide) rfl (ko_s_reader_laws_0 ko11) ?_
        refine eb_ldcS (pc := 52) (a := 20) (i := eb_mk 20 21 0) rfl rfl rfl ?_
        refine eb_ctV (pc := 54) (As := [.ref (eb_mk 20 21 0)]) (rest := []) rfl (by decide) rfl rfl (by decide) rfl (Nat.le_of_ble_eq_true rfl) ?_
        refine eb_Ct.mono w ?_
        rintro r h13 ⟨y14, rfl, ko15, w⟩
        change eb_Sn _ _ _ 57 _ [.int y14] _ _
        refine eb_if_eq (pc := 57) (tgt := 64) rfl (by decide) (fun c16 => ?_) (fun c16 => ?_)
        · replace w := w.1 c16
          refine eb_aload_n (pc := 64) (n := 0) (i := 0) rfl rfl rfl ?_
          refine eb_getR (pc := 65) rfl rfl (by decide) (by decide) rfl (ko_s_reader_laws_0 ko15) ?_
          refine eb_ldcS (pc := 68) (a := 7) (i := eb_mk 7 21 0) rfl rfl rfl ?_
          refine eb_ctV (pc := 70) (As := [.ref (eb_mk 7 21 0)]) (rest := []) rfl (by decide) rfl rfl (by decide) rfl (Nat.le_of_ble_eq_true rfl) ?_
          refine eb_Ct.mono w ?_
          rintro r h17 ⟨y18, rfl, ko19, w⟩
          change eb_Sn _ _ _ 73 _ [.int y18] _ _
          refine eb_if_eq (pc := 73) (tgt := 80) rfl (by decide) (fun c20 => ?_) (fun c20 => ?_)
          · replace w := w.1 c20
            refine eb_aload_n (pc := 80) (n := 0) (i := 0) rfl rfl rfl ?_
            refine eb_getR (pc := 81) rfl rfl (by decide) (by decide) rfl (ko_s_reader_laws_0 ko19) ?_
            refine eb_ldcS (pc := 84) (a := 18) (i := eb_mk 18 21 0) rfl rfl rfl ?_
            refine eb_ctV (pc := 86) (As := [.ref (eb_mk 18 21 0)]) (rest := []) rfl (by decide) rfl rfl (by decide) rfl (Nat.le_of_ble_eq_true rfl) ?_
            refine eb_Ct.mono w ?_
            rintro r h21 ⟨y22, rfl, ko23, w⟩
            change eb_Sn _ _ _ 89 _ [.int y22] _ _
            refine eb_if_eq (pc := 89) (tgt := 100) rfl (by decide) (fun c24 => ?_) (fun c24 => ?_)
            · replace w := w.1 c24
              refine eb_aload_n (pc := 100) (n := 0) (i := 0) rfl rfl rfl ?_
              refine eb_getR (pc := 101) rfl rfl (by decide) (by decide) rfl (ko_s_reader_laws_0 ko23) ?_
              refine eb_ldcS (pc := 104) (a := 15) (i := eb_mk 15 21 0) rfl rfl rfl ?_
              refine eb_ctV (pc := 106) (As := [.ref (eb_mk 15 21 0)]) (rest := []) rfl (by decide) rfl rfl (by decide) rfl (Nat.le_of_ble_eq_true rfl) ?_
              refine eb_Ct.mono w ?_
              rintro r h25 ⟨y26, rfl, ko27, w⟩
              change eb_Sn _ _ _ 109 _ [.int y26] _ _
              refine eb_if_eq (pc := 109) (tgt := 116) rfl (by decide) (fun c28 => ?_) (fun c28 => ?_)
              · replace w := w.1 c28
                refine eb_aload_n (pc := 116) (n := 0) (i := 0) rfl rfl rfl ?_
                refine eb_getR (pc := 117) rfl rfl (by decide) (by decide) rfl (ko_s_reader_laws_0 ko27) ?_
                refine eb_ldcS (pc := 120) (a := 4) (i := eb_mk 4 21 0) rfl rfl rfl ?_
                refine eb_ctV (pc := 122) (As := [.ref (eb_mk 4 21 0)]) (rest := []) rfl (by decide) rfl rfl (by decide) rfl (Nat.le_of_ble_eq_true rfl) ?_
                refine eb_Ct.mono w ?_
                rintro r h29 ⟨y30, rfl, ko31, w⟩
                change eb_Sn _ _ _ 125 _ [.int y30] _ _
                refine eb_if_eq (pc := 125) (tgt := 132) rfl (by decide) (fun c32 => ?_) (fun c32 => ?_)
                · replace w := w.1 c32
                  refine eb_aload_n (pc := 132) (n := 0) (i := 0) rfl rfl rfl ?_
                  refine eb_getR (pc := 133) rfl rfl (by decide) (by decide) rfl (ko_s_reader_laws_0 ko31) ?_
                  refine eb_ldcS (pc := 136) (a := 14) (i := eb_mk 14 21 0) rfl rfl rfl ?_
                  refine eb_ctV (pc := 138) (As := [.ref (eb_mk 14 21 0)]) (rest := []) rfl (by decide) rfl rfl (by decide) rfl (Nat.le_of_ble_eq_true rfl) ?_
                  refine eb_Ct.mono w ?_
                  rintro r h33 ⟨y34, rfl, ko35, w⟩
                  change eb_Sn _ _ _ 141 _ [.int y34] _ _
                  refine eb_joinI (pc2 := 151) (ls2 := [(0, .ref s_reader_laws), (1, .int x1)]) (st2 := []) (v := (if y34 = 0 then (-1) else 1040 : Int32)) ?_ (fun jj37 => ?_)
                  · exact eb_ireturn (pc := 151) rfl rfl rfl w
                  refine eb_if_eq (pc := 141) (tgt := 150) rfl (by decide) (fun c36 => ?_) (fun c36 => ?_)
                  · refine eb_iconst (pc := 150) (n := -1) (v := (-1)) rfl rfl ?_
                    exact jj37 _ (by simp only [if_pos c36])
                  · refine eb_sipush (pc := 144) (n := 1040) (v := 1040) rfl rfl ?_
                    refine eb_goto (pc := 147) (tgt := 151) rfl (by decide) ?_
                    exact jj37 _ (by simp only [if_neg c36])
                · replace w := w.2 c32
                  refine eb_sipush (pc := 128) (n := 1030) (v := 1030) rfl rfl ?_
                  exact eb_ireturn (pc := 131) rfl rfl rfl w
              · replace w := w.2 c28
                refine eb_sipush (pc := 112) (n := 1020) (v := 1020) rfl rfl ?_
                exact eb_ireturn (pc := 115) rfl rfl rfl w
            · replace w := w.2 c24
              refine eb_iload_n (pc := 92) (n := 1) (i := 1) rfl rfl rfl ?_
              refine eb_if_eq (pc := 93) (tgt := 100) rfl (by decide) (fun c39 => ?_) (fun c39 => ?_)
              · replace w := w.1 c39
                refine eb_aload_n (pc := 100) (n := 0) (i := 0) rfl rfl rfl ?_
                refine eb_getR (pc := 101) rfl rfl (by decide) (by decide) rfl (ko_s_reader_laws_0 ko23) ?_
                refine eb_ldcS (pc := 104) (a := 15) (i := eb_mk 15 21 0) rfl rfl rfl ?_
                refine eb_ctV (pc := 106) (As := [.ref (eb_mk 15 21 0)]) (rest := []) rfl (by decide) rfl rfl (by decide) rfl (Nat.le_of_ble_eq_true rfl) ?_
                refine eb_Ct.mono w ?_
                rintro r h40 ⟨y41, rfl, ko42, w⟩
                change eb_Sn _ _ _ 109 _ [.int y41] _ _
                refine eb_if_eq (pc := 109) (tgt := 116) rfl (by decide) (fun c43 => ?_) (fun c43 => ?_)
                · replace w := w.1 c43
                  refine eb_aload_n (pc := 116) (n := 0) (i := 0) rfl rfl rfl ?_
                  refine eb_getR (pc := 117) rfl rfl (by decide) (by decide) rfl (ko_s_reader_laws_0 ko42) ?_
                  refine eb_ldcS (pc := 120) (a := 4) (i := eb_mk 4 21 0) rfl rfl rfl ?_
                  refine eb_ctV (pc := 122) (As := [.ref (eb_mk 4 21 0)]) (rest := []) rfl (by decide) rfl rfl (by decide) rfl (Nat.le_of_ble_eq_true rfl) ?_
                  refine eb_Ct.mono w ?_
                  rintro r h44 ⟨y45, rfl, ko46, w⟩
                  change eb_Sn _ _ _ 125 _ [.int y45] _ _
                  refine eb_if_eq (pc := 125) (tgt := 132) rfl (by decide) (fun c47 => ?_) (fun c47 => ?_)
                  · replace w := w.1 c47
                    refine eb_aload_n (pc := 132) (n := 0) (i := 0) rfl rfl rfl ?_
                    refine eb_getR (pc := 133) rfl rfl (by decide) (by decide) rfl (ko_s_reader_laws_0 ko46) ?_
                    refine eb_ldcS (pc := 136) (a := 14) (i := eb_mk 14 21 0) rfl rfl rfl ?_
                    refine eb_ctV (pc := 138) (As := [.ref (eb_mk 14 21 0)]) (rest := []) rfl (by decide) rfl rfl (by decide) rfl (Nat.le_of_ble_eq_true rfl) ?_
                    refine eb_Ct.mono w ?_
                    rintro r h48 ⟨y49, rfl, ko50, w⟩
                    change eb_Sn _ _ _ 141 _ [.int y49] _ _
                    refine eb_joinI (pc2 := 151) (ls2 := [(0, .ref s_reader_laws), (1, .int x1)]) (st2 := []) (v := (if y49 = 0 then (-1) else 1040 : Int32)) ?_ (fun jj52 => ?_)
                    · exact eb_ireturn (pc := 151) rfl rfl rfl w
                    refine eb_if_eq (pc := 141) (tgt := 150) rfl (by decide) (fun c51 => ?_) (fun c51 => ?_)
                    · refine eb_iconst (pc := 150) (n := -1) (v := (-1)) rfl rfl ?_
                      exact jj52 _ (by simp only [if_pos c51])
                    · refine eb_sipush (pc := 144) (n := 1040) (v := 1040) rfl rfl ?_
                      refine eb_goto (pc := 147) (tgt := 151) rfl (by decide) ?_
                      exact jj52 _ (by simp only [if_neg c51])
                  · replace w := w.2 c47
                    refine eb_sipush (pc := 128) (n := 1030) (v := 1030) rfl rfl ?_
                    exact eb_ireturn (pc := 131) rfl rfl rfl w
                · replace w := w.2 c43
                  refine eb_sipush (pc := 112) (n := 1020) (v := 1020) rfl rfl ?_
                  exact eb_ireturn (pc := 115) rfl rfl rfl w
              · replace w := w.2 c39
                refine eb_sipush (pc := 96) (n := 1005) (v := 1005) rfl rfl ?_
                exact eb_ireturn (pc := 99) rfl rfl rfl w
          · replace w := w.2 c20
            refine eb_sipush (pc := 76) (n := 1004) (v := 1004) rfl rfl ?_
            exact eb_ireturn (pc := 79) rfl rfl rfl w
        · replace w := w.2 c16
          refine eb_sipush (pc := 60) (n := 1003) (v := 1003) rfl rfl ?_
          exact eb_ireturn (pc := 63) rfl rfl rfl w
      · replace w := w.2 c12
        refine eb_sipush (pc := 44) (n := 1002) (v := 1002) rfl rfl ?_
        exact eb_ireturn (pc := 47) rfl rfl rfl w
    · replace w := w.2 c8
      refine eb_sipush (pc := 28) (n := 1001) (v := 1001) rfl rfl ?_
      exact eb_ireturn (pc := 31) rfl rfl rfl w
  · replace w := w.2 c4
    refine eb_sipush (pc := 12) (n := 1000) (v := 1000) rfl rfl ?_
    exact eb_ireturn (pc := 15) rfl rfl rfl w
theorem T_X3_codeOfWord {d : Nat} {h : eb_H} {Q : Option Value → eb_H → Prop} (x1 : Int32)  (ko : eb_KO h) (w : eb_Ct d 72 [.ref s_tape, .ref (eb_mk 10 21 0)] h (fun r h1 => ∃ y2, r = some (.int y2) ∧ eb_KO h1 ∧ ((y2 = 0 → eb_Ct d 72 [.ref s_tape, .ref (eb_mk 9 21 0)] h1 (fun r h5 => ∃ y6, r = some (.int y6) ∧ eb_KO h5 ∧ ((y6 = 0 → eb_Ct d 72 [.ref s_tape, .ref (eb_mk 12 21 0)] h5 (fun r h9 => ∃ y10, r = some (.int y10) ∧ eb_KO h9 ∧ ((y10 = 0 → eb_Ct d 72 [.ref s_tape, .ref (eb_mk 20 21 0)] h9 (fun r h13 => ∃ y14, r = some (.int y14) ∧ eb_KO h13 ∧ ((y14 = 0 → eb_Ct d 72 [.ref s_tape, .ref (eb_mk 7 21 0)] h13 (fun r h17 => ∃ y18, r = some (.int y18) ∧ eb_KO h17 ∧ ((y18 = 0 → eb_Ct d 72 [.ref s_tape, .ref (eb_mk 18 21 0)] h17 (fun r h21 => ∃ y22, r = some (.int y22) ∧ eb_KO h21 ∧ ((y22 = 0 → eb_Ct d 72 [.ref s_tape, .ref (eb_mk 15 21 0)] h21 (fun r h25 => ∃ y26, r = some (.int y26) ∧ eb_KO h25 ∧ ((y26 = 0 → eb_Ct d 72 [.ref s_tape, .ref (eb_mk 4 21 0)] h25 (fun r h29 => ∃ y30, r = some (.int y30) ∧ eb_KO h29 ∧ ((y30 = 0 → eb_Ct d 72 [.ref s_tape, .ref (eb_mk 14 21 0)] h29 (fun r h33 => ∃ y34, r = some (.int y34) ∧ eb_KO h33 ∧ Q (some (.int (if y34 = 0 then (-1) else 1040 : Int32))) h33)) ∧ (¬ (y30 = 0) → Q (some (.int 1030)) h29)))) ∧ (¬ (y26 = 0) → Q (some (.int 1020)) h25)))) ∧ (¬ (y22 = 0) → ((x1 = 0 → eb_Ct d 72 [.ref s_tape, .ref (eb_mk 15 21 0)] h21 (fun r h40 => ∃ y41, r = some (.int y41) ∧ eb_KO h40 ∧ ((y41 = 0 → eb_Ct d 72 [.ref s_tape, .ref (eb_mk 4 21 0)] h40 (fun r h44 => ∃ y45, r = some (.int y45) ∧ eb_KO h44 ∧ ((y45 = 0 → eb_Ct d 72 [.ref s_tape, .ref (eb_mk 14 21 0)] h44 (fun r h48 => ∃ y49, r = some (.int y49) ∧ eb_KO h48 ∧ Q (some (.int (if y49 = 0 then (-1) else 1040 : Int32))) h48)) ∧ (¬ (y45 = 0) → Q (some (.int 1030)) h44)))) ∧ (¬ (y41 = 0) → Q (some (.int 1020)) h40)))) ∧ (¬ (x1 = 0) → Q (some (.int 1005)) h21)))))) ∧ (¬ (y18 = 0) → Q (some (.int 1004)) h17)))) ∧ (¬ (y14 = 0) → Q (some (.int 1003)) h13)))) ∧ (¬ (y10 = 0) → Q (some (.int 1002)) h9)))) ∧ (¬ (y6 = 0) → Q (some (.int 1001)) h5)))) ∧ (¬ (y2 = 0) → Q (some (.int 1000)) h1)))) : eb_Ct (d + 1) 33 [.ref s_reader_laws, .int x1] h Q :=
  eb_bodyQ (by decide) ok_X3_codeOfWord (Nat.le_of_ble_eq_true rfl) (b_X3_codeOfWord_0 (h0 := h) x1  ko w)
theorem b_X3_openAtom_0 {d : Nat} {h0 h : eb_H} {Q : Option Value → eb_H → Prop} (x1 : Int32)  (ko : eb_KO h) (w : ((x1 < 0 → (((x1 = (1011 : Int32)) ∨ ((¬ ((eb_I h s_reader_laws 10) = 0)) ∧ ((x1 = (1040 : Int32)) ∨ (x1 = (1010 : Int32)))) → (((eb_I h s_reader_laws 5) < (6 : Int32) → eb_Ct d 39 [.ref s_reader_laws, .int x1] (eb_sI h s_reader_laws 5 ((eb_I h s_reader_laws 5) + 1)) (fun r h10 => r = none ∧ eb_KO h10 ∧ ((¬ x1 = (1010 : Int32) → ((¬ x1 = (1011 : Int32) → Q (some (.int 1)) h10) ∧ (x1 = (1011 : Int32) → Q (some (.int 1)) (eb_sI (eb_sI h10 s_reader_laws 6 ((eb_I h10 s_reader_laws 6) + 1)) s_reader_laws 10 0)))) ∧ (x1 = (1010 : Int32) → ((¬ x1 = (1011 : Int32) → Q (some (.int 1)) (eb_sI h10 s_reader_laws 7 ((eb_I h10 s_reader_laws 7) + 1))) ∧ (x1 = (1011 : Int32) → Q (some (.int 1)) (eb_sI (eb_sI (eb_sI h10 s_reader_laws 7 ((eb_I h10 s_reader_laws 7) + 1)) s_reader_laws 6 ((eb_I (eb_sI h10 s_reader_laws 7 ((eb_I h10 s_reader_laws 7) + 1)) s_reader_laws 6) + 1)) s_reader_laws 10 0))))))) ∧ (¬ ((eb_I h s_reader_laws 5) < (6 : Int32)) → eb_Ct d 68 [.ref s_tape, .int 4] h (fun r h16 => r = none ∧ eb_KO h16 ∧ eb_Ct d 39 [.ref s_reader_laws, .int x1] (eb_sI h16 s_reader_laws 5 ((eb_I h16 s_reader_laws 5) + 1)) (fun r h19 => r = none ∧ eb_KO h19 ∧ ((¬ x1 = (1010 : Int32) → ((¬ x1 = (1011 : Int32) → Q (some (.int 1)) h19) ∧ (x1 = (1011 : Int32) → Q (some (.int 1)) (eb_sI (eb_sI h19 s_reader_laws 6 ((eb_I h19 s_reader_laws 6) + 1)) s_reader_laws 10 0)))) ∧ (x1 = (1010 : Int32) → ((¬ x1 = (1011 : Int32) → Q (some (.int 1)) (eb_sI h19 s_reader_laws 7 ((eb_I h19 s_reader_laws 7) + 1))) ∧ (x1 = (1011 : Int32) → Q (some (.int 1)) (eb_sI (eb_sI (eb_sI h19 s_reader_laws 7 ((eb_I h19 s_reader_laws 7) + 1)) s_reader_laws 6 ((eb_I (eb_sI h19 s_reader_laws 7 ((eb_I h19 s_reader_laws 7) + 1)) s_reader_laws 6) + 1)) s_reader_laws 10 0)))))))))) ∧ (¬ ((x1 = (1011 : Int32)) ∨ ((¬ ((eb_I h s_reader_laws 10) = 0)) ∧ ((x1 = (1040 : Int32)) ∨ (x1 = (1010 : Int32))))) → Q (some (.int 0)) h))) ∧ (¬ (x1 < 0) → (((1005 : Int32) < x1 → (((x1 = (1011 : Int32)) ∨ ((¬ ((eb_I h s_reader_laws 10) = 0)) ∧ ((x1 = (1040 : Int32)) ∨ (x1 = (1010 : Int32)))) → (((eb_I h s_reader_laws 5) < (6 : Int32) → eb_Ct d 39 [.ref s_reader_laws, .int x1] (eb_sI h s_reader_laws 5 ((eb_I h s_reader_laws 5) + 1)) (fun r h34 => r = none ∧ eb_KO h34 ∧ ((¬ x1 = (1010 : Int32) → ((¬ x1 = (1011 : Int32) → Q (some (.int 1)) h34) ∧ (x1 = (1011 : Int32) → Q (some (.int 1)) (eb_sI (eb_sI h34 s_reader_laws 6 ((eb_I h34 s_reader_laws 6) + 1)) s_reader_laws 10 0)))) ∧ (x1 = (1010 : Int32) → ((¬ x1 = (1011 : Int32) → Q (some (.int 1)) (eb_sI h34 s_reader_laws 7 ((eb_I h34 s_reader_laws 7) + 1))) ∧ (x1 = (1011 : Int32) → Q (some (.int 1)) (eb_sI (eb_sI (eb_sI h34 s_reader_laws 7 ((eb_I h34 s_reader_laws 7) + 1)) s_reader_laws 6 ((eb_I (eb_sI h34 s_reader_laws 7 ((eb_I h34 s_reader_laws 7) + 1)) s_reader_laws 6) + 1)) s_reader_laws 10 0))))))) ∧ (¬ ((eb_I h s_reader_laws 5) < (6 : Int32)) → eb_Ct d 68 [.ref s_tape, .int 4] h (fun r h40 => r = none ∧ eb_KO h40 ∧ eb_Ct d 39 [.ref s_reader_laws, .int x1] (eb_sI h40 s_reader_laws 5 ((eb_I h40 s_reader_laws 5) + 1)) (fun r h43 => r = none ∧ eb_KO h43 ∧ ((¬ x1 = (1010 : Int32) → ((¬ x1 = (1011 : Int32) → Q (some (.int 1)) h43) ∧ (x1 = (1011 : Int32) → Q (some (.int 1)) (eb_sI (eb_sI h43 s_reader_laws 6 ((eb_I h43 s_reader_laws 6) + 1)) s_reader_laws 10 0)))) ∧ (x1 = (1010 : Int32) → ((¬ x1 = (1011 : Int32) → Q (some (.int 1)) (eb_sI h43 s_reader_laws 7 ((eb_I h43 s_reader_laws 7) + 1))) ∧ (x1 = (1011 : Int32) → Q (some (.int 1)) (eb_sI (eb_sI (eb_sI h43 s_reader_laws 7 ((eb_I h43 s_reader_laws 7) + 1)) s_reader_laws 6 ((eb_I (eb_sI h43 s_reader_laws 7 ((eb_I h43 s_reader_laws 7) + 1)) s_reader_laws 6) + 1)) s_reader_laws 10 0)))))))))) ∧ (¬ ((x1 = (1011 : Int32)) ∨ ((¬ ((eb_I h s_reader_laws 10) = 0)) ∧ ((x1 = (1040 : Int32)) ∨ (x1 = (1010 : Int32))))) → Q (some (.int 0)) h))) ∧ (¬ ((1005 : Int32) < x1) → eb_Ct d 40 [.ref s_reader_laws, .int x1] h (fun r h49 => r = none ∧ eb_KO h49 ∧ Q (some (.int 1)) (eb_sI (eb_sI h49 s_reader_laws 9 0) s_reader_laws 10 0))))))) : eb_Sn (d + 1) m_X3_openAtom h0 0 [(0, .ref s_reader_laws), (1, .int x1)] [] h Q := by
  refine eb_iload_n (pc := 0) (n := 1) (i := 1) rfl rfl rfl ?_
  refine eb_if_lt (pc := 1) (tgt := 28) rfl (by decide) (fun c1 => ?_) (fun c1 => ?_)
  · replace w := w.1 c1
    refine eb_iload_n (pc := 28) (n := 1) (i := 1) rfl rfl rfl ?_
    refine eb_sipush (pc := 29) (n := 1011) (v := 1011) rfl rfl ?_
    refine eb_joinI (pc2 := 61) (ls2 := [(0, .ref s_reader_laws), (1, .int x1)]) (st2 := []) (v := eb_q ((x1 = (1011 : Int32)) ∨ ((¬ ((eb_I h s_reader_laws 10) = 0)) ∧ ((x1 = (1040 : Int32)) ∨ (x1 = (1010 : Int32)))))) ?_ (fun jj6 => ?_)
    · refine eb_istore_n (pc := 61) (n := 2) (i := 2) (ls2 := [(2, .int (eb_q ((x1 = (1011 : Int32)) ∨ ((¬ ((eb_I h s_reader_laws 10) = 0)) ∧ ((x1 = (1040 : Int32)) ∨ (x1 = (1010 : Int32))))))), (0, .ref s_reader_laws), (1, .int x1)]) rfl (Nat.le_of_ble_eq_true rfl) rfl rfl ?_
      refine eb_iload_n (pc := 62) (n := 2) (i := 2) rfl rfl rfl ?_
      refine eb_if_ne (pc := 63) (tgt := 68) rfl (by decide) (fun c8 => ?_) (fun c8 => ?_)
      · replace c8 := eb_q1.mp c8
        replace w := w.1 c8
        refine eb_aload_n (pc := 68) (n := 0) (i := 0) rfl rfl rfl ?_
        refine eb_getI (pc := 69) rfl rfl (by decide) (by decide) rfl ?_
        refine eb_bipush (pc := 72) (n := 6) (v := 6) rfl rfl ?_
        refine eb_icmp_lt (pc := 74) (tgt := 85) rfl (by decide) (fun c9 => ?_) (fun c9 => ?_)
        · replace w := w.1 c9
          refine eb_aload_n (pc := 85) (n := 0) (i := 0) rfl rfl rfl ?_
          refine eb_dupr (pc := 86) rfl ?_
          refine eb_getI (pc := 87) rfl rfl (by decide) (by decide) rfl ?_
          refine eb_iconst (pc := 90) (n := 1) (v := 1) rfl rfl ?_
          refine eb_iadd (pc := 91) rfl ?_
          refine eb_putI (pc := 92) rfl rfl (by decide) (by decide) rfl rfl ⟨rfl, rfl⟩ ?_
          refine eb_aload_n (pc := 95) (n := 0) (i := 0) rfl rfl rfl ?_
          refine eb_iload_n (pc := 96) (n := 1) (i := 1) rfl rfl rfl ?_
          refine eb_ctV (pc := 97) (As := [.int x1]) (rest := []) rfl (by decide) rfl rfl (by decide) rfl (Nat.le_of_ble_eq_true rfl) ?_
          refine eb_Ct.mono w ?_
          rintro r h10 ⟨rfl, ko12, w⟩
          change eb_Sn _ _ _ 100 _ [] _ _
          refine eb_iload_n (pc := 100) (n := 1) (i := 1) rfl rfl rfl ?_
          refine eb_sipush (pc := 101) (n := 1010) (v := 1010) rfl rfl ?_
          refine eb_icmp_ne (pc := 104) (tgt := 117) rfl (by decide) (fun c13 => ?_) (fun c13 => ?_)
          · replace w := w.1 c13
            refine eb_iload_n (pc := 117) (n := 1) (i := 1) rfl rfl rfl ?_
            refine eb_sipush (pc := 118) (n := 1011) (v := 1011) rfl rfl ?_
            refine eb_icmp_ne (pc := 121) (tgt := 139) rfl (by decide) (fun c14 => ?_) (fun c14 => ?_)
            · replace w := w.1 c14
              refine eb_iconst (pc := 139) (n := 1) (v := 1) rfl rfl ?_
              exact eb_ireturn (pc := 140) rfl rfl (by decide) w
            · replace w := w.2 c14
              refine eb_aload_n (pc := 124) (n := 0) (i := 0) rfl rfl rfl ?_
              refine eb_dupr (pc := 125) rfl ?_
              refine eb_getI (pc := 126) rfl rfl (by decide) (by decide) rfl ?_
              refine eb_iconst (pc := 129) (n := 1) (v := 1) rfl rfl ?_
              refine eb_iadd (pc := 130) rfl ?_
              refine eb_putI (pc := 131) rfl rfl (by decide) (by decide) rfl rfl ⟨rfl, rfl⟩ ?_
              refine eb_aload_n (pc := 134) (n := 0) (i := 0) rfl rfl rfl ?_
              refine eb_iconst (pc := 135) (n := 0) (v := 0) rfl rfl ?_
              refine eb_putI (pc := 136) rfl rfl (by decide) (by decide) rfl rfl ⟨rfl, rfl⟩ ?_
              refine eb_iconst (pc := 139) (n := 1) (v := 1) rfl rfl ?_
              exact eb_ireturn (pc := 140) rfl rfl (by decide) w
          · replace w := w.2 c13
            refine eb_aload_n (pc := 107) (n := 0) (i := 0) rfl rfl rfl ?_
            refine eb_dupr (pc := 108) rfl ?_
            refine eb_getI (pc := 109) rfl rfl (by decide) (by decide) rfl ?_
            refine eb_iconst (pc := 112) (n := 1) (v := 1) rfl rfl ?_
            refine eb_iadd (pc := 113) rfl ?_
            refine eb_putI (pc := 114) rfl rfl (by decide) (by decide) rfl rfl ⟨rfl, rfl⟩ ?_
            refine eb_iload_n (pc := 117) (n := 1) (i := 1) rfl rfl rfl ?_
            refine eb_sipush (pc := 118) (n := 1011) (v := 1011) rfl rfl ?_
            refine eb_icmp_ne (pc := 121) (tgt := 139) rfl (by decide) (fun c15 => ?_) (fun c15 => ?_)
            · replace w := w.1 c15
              refine eb_iconst (pc := 139) (n := 1) (v := 1) rfl rfl ?_
              exact eb_ireturn (pc := 140) rfl rfl (by decide) w
            · replace w := w.2 c15
              refine eb_aload_n (pc := 124) (n := 0) (i := 0) rfl rfl rfl ?_
              refine eb_dupr (pc := 125) rfl ?_
              refine eb_getI (pc := 126) rfl rfl (by decide) (by decide) rfl ?_
              refine eb_iconst (pc := 129) (n := 1) (v := 1) rfl rfl ?_
              refine eb_iadd (pc := 130) rfl ?_
              refine eb_putI (pc := 131) rfl rfl (by decide) (by decide) rfl rfl ⟨rfl, rfl⟩ ?_
              refine eb_aload_n (pc := 134) (n := 0) (i := 0) rfl rfl rfl ?_
              refine eb_iconst (pc := 135) (n := 0) (v := 0) rfl rfl ?_
              refine eb_putI (pc := 136) rfl rfl (by decide) (by decide) rfl rfl ⟨rfl, rfl⟩ ?_
              refine eb_iconst (pc := 139) (n := 1) (v := 1) rfl rfl ?_
              exact eb_ireturn (pc := 140) rfl rfl (by decide) w
        · replace w := w.2 c9
          refine eb_aload_n (pc := 77) (n := 0) (i := 0) rfl rfl rfl ?_
          refine eb_getR (pc := 78) rfl rfl (by decide) (by decide) rfl (ko_s_reader_laws_0 ko) ?_
          refine eb_iconst (pc := 81) (n := 4) (v := 4) rfl rfl ?_
          refine eb_ctV (pc := 82) (As := [.int 4]) (rest := []) rfl (by decide) rfl rfl (by decide) rfl (Nat.le_of_ble_eq_true rfl) ?_
          refine eb_Ct.mono w ?_
          rintro r h16 ⟨rfl, ko18, w⟩
          change eb_Sn _ _ _ 85 _ [] _ _
          refine eb_aload_n (pc := 85) (n := 0) (i := 0) rfl rfl rfl ?_
          refine eb_dupr (pc := 86) rfl ?_
          refine eb_getI (pc := 87) rfl rfl (by decide) (by decide) rfl ?_
          refine eb_iconst (pc := 90) (n := 1) (v := 1) rfl rfl ?_
          refine eb_iadd (pc := 91) rfl ?_
          refine eb_putI (pc := 92) rfl rfl (by decide) (by decide) rfl rfl ⟨rfl, rfl⟩ ?_
          refine eb_aload_n (pc := 95) (n := 0) (i := 0) rfl rfl rfl ?_
          refine eb_iload_n (pc := 96) (n := 1) (i := 1) rfl rfl rfl ?_
          refine eb_ctV (pc := 97) (As := [.int x1]) (rest := []) rfl (by decide) rfl rfl (by decide) rfl (Nat.le_of_ble_eq_true rfl) ?_
          refine eb_Ct.mono w ?_
          rintro r h19 ⟨rfl, ko21, w⟩
          change eb_Sn _ _ _ 100 _ [] _ _
          refine eb_iload_n (pc := 100) (n := 1) (i := 1) rfl rfl rfl ?_
          refine eb_sipush (pc := 101) (n := 1010) (v := 1010) rfl rfl ?_
          refine eb_icmp_ne (pc := 104) (tgt := 117) rfl (by decide) (fun c22 => ?_) (fun c22 => ?_)
          · replace w := w.1 c22
            refine eb_iload_n (pc := 117) (n := 1) (i := 1) rfl rfl rfl ?_
            refine eb_sipush (pc := 118) (n := 1011) (v := 1011) rfl rfl ?_
            refine eb_icmp_ne (pc := 121) (tgt := 139) rfl (by decide) (fun c23 => ?_) (fun c23 => ?_)
            · replace w := w.1 c23
              refine eb_iconst (pc := 139) (n := 1) (v := 1) rfl rfl ?_
              exact eb_ireturn (pc := 140) rfl rfl (by decide) w
            · replace w := w.2 c23
              refine eb_aload_n (pc := 124) (n := 0) (i := 0) rfl rfl rfl ?_
              refine eb_dupr (pc := 125) rfl ?_
              refine eb_getI (pc := 126) rfl rfl (by decide) (by decide) rfl ?_
              refine eb_iconst (pc := 129) (n := 1) (v := 1) rfl rfl ?_
              refine eb_iadd (pc := 130) rfl ?_
              refine eb_putI (pc := 131) rfl rfl (by decide) (by decide) rfl rfl ⟨rfl, rfl⟩ ?_
              refine eb_aload_n (pc := 134) (n := 0) (i := 0) rfl rfl rfl ?_
              refine eb_iconst (pc := 135) (n := 0) (v := 0) rfl rfl ?_
              refine eb_putI (pc := 136) rfl rfl (by decide) (by decide) rfl rfl ⟨rfl, rfl⟩ ?_
              refine eb_iconst (pc := 139) (n := 1) (v := 1) rfl rfl ?_
              exact eb_ireturn (pc := 140) rfl rfl (by decide) w
          · replace w := w.2 c22
            refine eb_aload_n (pc := 107) (n := 0) (i := 0) rfl rfl rfl ?_
            refine eb_dupr (pc := 108) rfl ?_
            refine eb_getI (pc := 109) rfl rfl (by decide) (by decide) rfl ?_
            refine eb_iconst (pc := 112) (n := 1) (v := 1) rfl rfl ?_
            refine eb_iadd (pc := 113) rfl ?_
            refine eb_putI (pc := 114) rfl rfl (by decide) (by decide) rfl rfl ⟨rfl, rfl⟩ ?_
            refine eb_iload_n (pc := 117) (n := 1) (i := 1) rfl rfl rfl ?_
            refine eb_sipush (pc := 118) (n := 1011) (v := 1011) rfl rfl ?_
            refine eb_icmp_ne (pc := 121) (tgt := 139) rfl (by decide) (fun c24 => ?_) (fun c24 => ?_)
            · replace w := w.1 c24
              refine eb_iconst (pc := 139) (n := 1) (v := 1) rfl rfl ?_
              exact eb_ireturn (pc := 140) rfl rfl (by decide) w
            · replace w := w.2 c24
              refine eb_aload_n (pc := 124) (n := 0) (i := 0) rfl rfl rfl ?_
              refine eb_dupr (pc := 125) rfl ?_
              refine eb_getI (pc := 126) rfl rfl (by decide) (by decide) rfl ?_
              refine eb_iconst (pc := 129) (n := 1) (v := 1) rfl rfl ?_
              refine eb_iadd (pc := 130) rfl ?_
              refine eb_putI (pc := 131) rfl rfl (by decide) (by decide) rfl rfl ⟨rfl, rfl⟩ ?_
              refine eb_aload_n (pc := 134) (n := 0) (i := 0) rfl rfl rfl ?_
              refine eb_iconst (pc := 135) (n := 0) (v := 0) rfl rfl ?_
              refine eb_putI (pc := 136) rfl rfl (by decide) (by decide) rfl rfl ⟨rfl, rfl⟩ ?_
              refine eb_iconst (pc := 139) (n := 1) (v := 1) rfl rfl ?_
              exact eb_ireturn (pc := 140) rfl rfl (by decide) w
      · replace c8 := eb_q0.mp c8
        replace w := w.2 c8
        refine eb_iconst (pc := 66) (n := 0) (v := 0) rfl rfl ?_
        exact eb_ireturn (pc := 67) rfl rfl (by decide) w
    refine eb_icmp_eq (pc := 32) (tgt := 56) rfl (by decide) (fun c2 => ?_) (fun c2 => ?_)
    · refine eb_iconst (pc := 56) (n := 1) (v := 1) rfl rfl ?_
      refine eb_goto (pc := 57) (tgt := 61) rfl (by decide) ?_
      exact jj6 1 (eb_qt (Or.inl c2)).symm
    · refine eb_aload_n (pc := 35) (n := 0) (i := 0) rfl rfl rfl ?_
      refine eb_getI (pc := 36) rfl rfl (by decide) (by decide) rfl ?_
      refine eb_if_eq (pc := 39) (tgt := 60) rfl (by decide) (fun c3 => ?_) (fun c3 => ?_)
      · refine eb_iconst (pc := 60) (n := 0) (v := 0) rfl rfl ?_
        exact jj6 0 (eb_qf (fun z => z.elim c2 (fun z => z.1 c3))).symm
      · refine eb_iload_n (pc := 42) (n := 1) (i := 1) rfl rfl rfl ?_
        refine eb_sipush (pc := 43) (n := 1040) (v := 1040) rfl rfl ?_
        refine eb_icmp_eq (pc := 46) (tgt := 56) rfl (by decide) (fun c4 => ?_) (fun c4 => ?_)
        · refine eb_iconst (pc := 56) (n := 1) (v := 1) rfl rfl ?_
          refine eb_goto (pc := 57) (tgt := 61) rfl (by decide) ?_
          exact jj6 1 (eb_qt (Or.inr (⟨c3, (Or.inl c4)⟩))).symm
        · refine eb_iload_n (pc := 49) (n := 1) (i := 1) rfl rfl rfl ?_
          refine eb_sipush (pc := 50) (n := 1010) (v := 1010) rfl rfl ?_
          refine eb_icmp_ne (pc := 53) (tgt := 60) rfl (by decide) (fun c5 => ?_) (fun c5 => ?_)
          · refine eb_iconst (pc := 60) (n := 0) (v := 0) rfl rfl ?_
            exact jj6 0 (eb_qf (fun z => z.elim c2 (fun z => (fun z => z.elim c4 c5) z.2))).symm
          · refine eb_iconst (pc := 56) (n := 1) (v := 1) rfl rfl ?_
            refine eb_goto (pc := 57) (tgt := 61) rfl (by decide) ?_
            exact jj6 1 (eb_qt (Or.inr (⟨c3, (Or.inr c5)⟩))).symm
  · replace w := w.2 c1
    refine eb_iload_n (pc := 4) (n := 1) (i := 1) rfl rfl rfl ?_
    refine eb_sipush (pc := 5) (n := 1005) (v := 1005) rfl rfl ?_
    refine eb_icmp_gt (pc := 8) (tgt := 28) rfl (by decide) (fun c25 => ?_) (fun c25 => ?_)
    · replace w := w.1 c25
      refine eb_iload_n (pc := 28) (n := 1) (i := 1) rfl rfl rfl ?_
      refine eb_sipush (pc := 29) (n := 1011) (v := 1011) rfl rfl ?_
      refine eb_joinI (pc2 := 61) (ls2 := [(0, .ref s_reader_laws), (1, .int x1)]) (st2 := []) (v := eb_q ((x1 = (1011 : Int32)) ∨ ((¬ ((eb_I h s_reader_laws 10) = 0)) ∧ ((x1 = (1040 : Int32)) ∨ (x1 = (1010 : Int32)))))) ?_ (fun jj30 => ?_)
      · refine eb_istore_n (pc := 61) (n := 2) (i := 2) (ls2 := [(2, .int (eb_q ((x1 = (1011 : Int32)) ∨ ((¬ ((eb_I h s_reader_laws 10) = 0)) ∧ ((x1 = (1040 : Int32)) ∨ (x1 = (1010 : Int32))))))), (0, .ref s_reader_laws), (1, .int x1)]) rfl (Nat.le_of_ble_eq_true rfl) rfl rfl ?_
        refine eb_iload_n (pc := 62) (n := 2) (i := 2) rfl rfl rfl ?_
        refine eb_if_ne (pc := 63) (tgt := 68) rfl (by decide) (fun c32 => ?_) (fun c32 => ?_)
        · replace c32 := eb_q1.mp c32
          replace w := w.1 c32
          refine eb_aload_n (pc := 68) (n := 0) (i := 0) rfl rfl rfl ?_
          refine eb_getI (pc := 69) rfl rfl (by decide) (by decide) rfl ?_
          refine eb_bipush (pc := 72) (n := 6) (v := 6) rfl rfl ?_
          refine eb_icmp_lt (pc := 74) (tgt := 85) rfl (by decide) (fun c33 => ?_) (fun c33 => ?_)
          · replace w := w.1 c33
            refine eb_aload_n (pc := 85) (n := 0) (i := 0) rfl rfl rfl ?_
            refine eb_dupr (pc := 86) rfl ?_
            refine eb_getI (pc := 87) rfl rfl (by decide) (by decide) rfl ?_
            refine eb_iconst (pc := 90) (n := 1) (v := 1) rfl rfl ?_
            refine eb_iadd (pc := 91) rfl ?_
            refine eb_putI (pc := 92) rfl rfl (by decide) (by decide) rfl rfl ⟨rfl, rfl⟩ ?_
            refine eb_aload_n (pc := 95) (n := 0) (i := 0) rfl rfl rfl ?_
            refine eb_iload_n (pc := 96) (n := 1) (i := 1) rfl rfl rfl ?_
            refine eb_ctV (pc := 97) (As := [.int x1]) (rest := []) rfl (by decide) rfl rfl (by decide) rfl (Nat.le_of_ble_eq_true rfl) ?_
            refine eb_Ct.mono w ?_
            rintro r h34 ⟨rfl, ko36, w⟩
            change eb_Sn _ _ _ 100 _ [] _ _
            refine eb_iload_n (pc := 100) (n := 1) (i := 1) rfl rfl rfl ?_
            refine eb_sipush (pc := 101) (n := 1010) (v := 1010) rfl rfl ?_
            refine eb_icmp_ne (pc := 104) (tgt := 117) rfl (by decide) (fun c37 => ?_) (fun c37 => ?_)
            · replace w := w.1 c37
              refine eb_iload_n (pc := 117) (n := 1) (i := 1) rfl rfl rfl ?_
              refine eb_sipush (pc := 118) (n := 1011) (v := 1011) rfl rfl ?_
              refine eb_icmp_ne (pc := 121) (tgt := 139) rfl (by decide) (fun c38 => ?_) (fun c38 => ?_)
              · replace w := w.1 c38
                refine eb_iconst (pc := 139) (n := 1) (v := 1) rfl rfl ?_
                exact eb_ireturn (pc := 140) rfl rfl (by decide) w
              · replace w := w.2 c38
                refine eb_aload_n (pc := 124) (n := 0) (i := 0) rfl rfl rfl ?_
                refine eb_dupr (pc := 125) rfl ?_
                refine eb_getI (pc := 126) rfl rfl (by decide) (by decide) rfl ?_
                refine eb_iconst (pc := 129) (n := 1) (v := 1) rfl rfl ?_
                refine eb_iadd (pc := 130) rfl ?_
                refine eb_putI (pc := 131) rfl rfl (by decide) (by decide) rfl rfl ⟨rfl, rfl⟩ ?_
                refine eb_aload_n (pc := 134) (n := 0) (i := 0) rfl rfl rfl ?_
                refine eb_iconst (pc := 135) (n := 0) (v := 0) rfl rfl ?_
                refine eb_putI (pc := 136) rfl rfl (by decide) (by decide) rfl rfl ⟨rfl, rfl⟩ ?_
                refine eb_iconst (pc := 139) (n := 1) (v := 1) rfl rfl ?_
                exact eb_ireturn (pc := 140) rfl rfl (by decide) w
            · replace w := w.2 c37
              refine eb_aload_n (pc := 107) (n := 0) (i := 0) rfl rfl rfl ?_
              refine eb_dupr (pc := 108) rfl ?_
              refine eb_getI (pc := 109) rfl rfl (by decide) (by decide) rfl ?_
              refine eb_iconst (pc := 112) (n := 1) (v := 1) rfl rfl ?_
              refine eb_iadd (pc := 113) rfl ?_
              refine eb_putI (pc := 114) rfl rfl (by decide) (by decide) rfl rfl ⟨rfl, rfl⟩ ?_
              refine eb_iload_n (pc := 117) (n := 1) (i := 1) rfl rfl rfl ?_
              refine eb_sipush (pc := 118) (n := 1011) (v := 1011) rfl rfl ?_
              refine eb_icmp_ne (pc := 121) (tgt := 139) rfl (by decide) (fun c39 => ?_) (fun c39 => ?_)
              · replace w := w.1 c39
                refine eb_iconst (pc := 139) (n := 1) (v := 1) rfl rfl ?_
                exact eb_ireturn (pc := 140) rfl rfl (by decide) w
              · replace w := w.2 c39
                refine eb_aload_n (pc := 124) (n := 0) (i := 0) rfl rfl rfl ?_
                refine eb_dupr (pc := 125) rfl ?_
                refine eb_getI (pc := 126) rfl rfl (by decide) (by decide) rfl ?_
                refine eb_iconst (pc := 129) (n := 1) (v := 1) rfl rfl ?_
                refine eb_iadd (pc := 130) rfl ?_
                refine eb_putI (pc := 131) rfl rfl (by decide) (by decide) rfl rfl ⟨rfl, rfl⟩ ?_
                refine eb_aload_n (pc := 134) (n := 0) (i := 0) rfl rfl rfl ?_
                refine eb_iconst (pc := 135) (n := 0) (v := 0) rfl rfl ?_
                refine eb_putI (pc := 136) rfl rfl (by decide) (by decide) rfl rfl ⟨rfl, rfl⟩ ?_
                refine eb_iconst (pc := 139) (n := 1) (v := 1) rfl rfl ?_
                exact eb_ireturn (pc := 140) rfl rfl (by decide) w
          · replace w := w.2 c33
            refine eb_aload_n (pc := 77) (n := 0) (i := 0) rfl rfl rfl ?_
            refine eb_getR (pc := 78) rfl rfl (by decide) (by decide) rfl (ko_s_reader_laws_0 ko) ?_
            refine eb_iconst (pc := 81) (n := 4) (v := 4) rfl rfl ?_
            refine eb_ctV (pc := 82) (As := [.int 4]) (rest := []) rfl (by decide) rfl rfl (by decide) rfl (Nat.le_of_ble_eq_true rfl) ?_
            refine eb_Ct.mono w ?_
            rintro r h40 ⟨rfl, ko42, w⟩
            change eb_Sn _ _ _ 85 _ [] _ _
            refine eb_aload_n (pc := 85) (n := 0) (i := 0) rfl rfl rfl ?_
            refine eb_dupr (pc := 86) rfl ?_
            refine eb_getI (pc := 87) rfl rfl (by decide) (by decide) rfl ?_
            refine eb_iconst (pc := 90) (n := 1) (v := 1) rfl rfl ?_
            refine eb_iadd (pc := 91) rfl ?_
            refine eb_putI (pc := 92) rfl rfl (by decide) (by decide) rfl rfl ⟨rfl, rfl⟩ ?_
            refine eb_aload_n (pc := 95) (n := 0) (i := 0) rfl rfl rfl ?_
            refine eb_iload_n (pc := 96) (n := 1) (i := 1) rfl rfl rfl ?_
            refine eb_ctV (pc := 97) (As := [.int x1]) (rest := []) rfl (by decide) rfl rfl (by decide) rfl (Nat.le_of_ble_eq_true rfl) ?_
            refine eb_Ct.mono w ?_
            rintro r h43 ⟨rfl, ko45, w⟩
            change eb_Sn _ _ _ 100 _ [] _ _
            refine eb_iload_n (pc := 100) (n := 1) (i := 1) rfl rfl rfl ?_
            refine eb_sipush (pc := 101) (n := 1010) (v := 1010) rfl rfl ?_
            refine eb_icmp_ne (pc := 104) (tgt := 117) rfl (by decide) (fun c46 => ?_) (fun c46 => ?_)
            · replace w := w.1 c46
              refine eb_iload_n (pc := 117) (n := 1) (i := 1) rfl rfl rfl ?_
              refine eb_sipush (pc := 118) (n := 1011) (v := 1011) rfl rfl ?_
              refine eb_icmp_ne (pc := 121) (tgt := 139) rfl (by decide) (fun c47 => ?_) (fun c47 => ?_)
              · replace w := w.1 c47
                refine eb_iconst (pc := 139) (n := 1) (v := 1) rfl rfl ?_
                exact eb_ireturn (pc := 140) rfl rfl (by decide) w
              · replace w := w.2 c47
                refine eb_aload_n (pc := 124) (n := 0) (i := 0) rfl rfl rfl ?_
                refine eb_dupr (pc := 125) rfl ?_
                refine eb_getI (pc := 126) rfl rfl (by decide) (by decide) rfl ?_
                refine eb_iconst (pc := 129) (n := 1) (v := 1) rfl rfl ?_
                refine eb_iadd (pc := 130) rfl ?_
                refine eb_putI (pc := 131) rfl rfl (by decide) (by decide) rfl rfl ⟨rfl, rfl⟩ ?_
                refine eb_aload_n (pc := 134) (n := 0) (i := 0) rfl rfl rfl ?_
                refine eb_iconst (pc := 135) (n := 0) (v := 0) rfl rfl ?_
                refine eb_putI (pc := 136) rfl rfl (by decide) (by decide) rfl rfl ⟨rfl, rfl⟩ ?_
                refine eb_iconst (pc := 139) (n := 1) (v := 1) rfl rfl ?_
                exact eb_ireturn (pc := 140) rfl rfl (by decide) w
            · replace w := w.2 c46
              refine eb_aload_n (pc := 107) (n := 0) (i := 0) rfl rfl rfl ?_
              refine eb_dupr (pc := 108) rfl ?_
              refine eb_getI (pc := 109) rfl rfl (by decide) (by decide) rfl ?_
              refine eb_iconst (pc := 112) (n := 1) (v := 1) rfl rfl ?_
              refine eb_iadd (pc := 113) rfl ?_
              refine eb_putI (pc := 114) rfl rfl (by decide) (by decide) rfl rfl ⟨rfl, rfl⟩ ?_
              refine eb_iload_n (pc := 117) (n := 1) (i := 1) rfl rfl rfl ?_
              refine eb_sipush (pc := 118) (n := 1011) (v := 1011) rfl rfl ?_
              refine eb_icmp_ne (pc := 121) (tgt := 139) rfl (by decide) (fun c48 => ?_) (fun c48 => ?_)
              · replace w := w.1 c48
                refine eb_iconst (pc := 139) (n := 1) (v := 1) rfl rfl ?_
                exact eb_ireturn (pc := 140) rfl rfl (by decide) w
              · replace w := w.2 c48
                refine eb_aload_n (pc := 124) (n := 0) (i := 0) rfl rfl rfl ?_
                refine eb_dupr (pc := 125) rfl ?_
                refine eb_getI (pc := 126) rfl rfl (by decide) (by decide) rfl ?_
                refine eb_iconst (pc := 129) (n := 1) (v := 1) rfl rfl ?_
                refine eb_iadd (pc := 130) rfl ?_
                refine eb_putI (pc := 131) rfl rfl (by decide) (by decide) rfl rfl ⟨rfl, rfl⟩ ?_
                refine eb_aload_n (pc := 134) (n := 0) (i := 0) rfl rfl rfl ?_
                refine eb_iconst (pc := 135) (n := 0) (v := 0) rfl rfl ?_
                refine eb_putI (pc := 136) rfl rfl (by decide) (by decide) rfl rfl ⟨rfl, rfl⟩ ?_
                refine eb_iconst (pc := 139) (n := 1) (v := 1) rfl rfl ?_
                exact eb_ireturn (pc := 140) rfl rfl (by decide) w
        · replace c32 := eb_q0.mp c32
          replace w := w.2 c32
          refine eb_iconst (pc := 66) (n := 0) (v := 0) rfl rfl ?_
          exact eb_ireturn (pc := 67) rfl rfl (by decide) w
      refine eb_icmp_eq (pc := 32) (tgt := 56) rfl (by decide) (fun c26 => ?_) (fun c26 => ?_)
      · refine eb_iconst (pc := 56) (n := 1) (v := 1) rfl rfl ?_
        refine eb_goto (pc := 57) (tgt := 61) rfl (by decide) ?_
        exact jj30 1 (eb_qt (Or.inl c26)).symm
      · refine eb_aload_n (pc := 35) (n := 0) (i := 0) rfl rfl rfl ?_
        refine eb_getI (pc := 36) rfl rfl (by decide) (by decide) rfl ?_
        refine eb_if_eq (pc := 39) (tgt := 60) rfl (by decide) (fun c27 => ?_) (fun c27 => ?_)
        · refine eb_iconst (pc := 60) (n := 0) (v := 0) rfl rfl ?_
          exact jj30 0 (eb_qf (fun z => z.elim c26 (fun z => z.1 c27))).symm
        · refine eb_iload_n (pc := 42) (n := 1) (i := 1) rfl rfl rfl ?_
          refine eb_sipush (pc := 43) (n := 1040) (v := 1040) rfl rfl ?_
          refine eb_icmp_eq (pc := 46) (tgt := 56) rfl (by decide) (fun c28 => ?_) (fun c28 => ?_)
          · refine eb_iconst (pc := 56) (n := 1) (v := 1) rfl rfl ?_
            refine eb_goto (pc := 57) (tgt := 61) rfl (by decide) ?_
            exact jj30 1 (eb_qt (Or.inr (⟨c27, (Or.inl c28)⟩))).symm
          · refine eb_iload_n (pc := 49) (n := 1) (i := 1) rfl rfl rfl ?_
            refine eb_sipush (pc := 50) (n := 1010) (v := 1010) rfl rfl ?_
            refine eb_icmp_ne (pc := 53) (tgt := 60) rfl (by decide) (fun c29 => ?_) (fun c29 => ?_)
            · refine eb_iconst (pc := 60) (n := 0) (v := 0) rfl rfl ?_
              exact jj30 0 (eb_qf (fun z => z.elim c26 (fun z => (fun z => z.elim c28 c29) z.2))).symm
            · refine eb_iconst (pc := 56) (n := 1) (v := 1) rfl rfl ?_
              refine eb_goto (pc := 57) (tgt := 61) rfl (by decide) ?_
              exact jj30 1 (eb_qt (Or.inr (⟨c27, (Or.inr c29)⟩))).symm
    · replace w := w.2 c25
      refine eb_aload_n (pc := 11) (n := 0) (i := 0) rfl rfl rfl ?_
      refine eb_iload_n (pc := 12) (n := 1) (i := 1) rfl rfl rfl ?_
      refine eb_ctV (pc := 13) (As := [.int x1]) (rest := []) rfl (by decide) rfl rfl (by decide) rfl (Nat.le_of_ble_eq_true rfl) ?_
      refine eb_Ct.mono w ?_
      rintro r h49 ⟨rfl, ko51, w⟩
      change eb_Sn _ _ _ 16 _ [] _ _
      refine eb_aload_n (pc := 16) (n := 0) (i := 0) rfl rfl rfl ?_
      refine eb_iconst (pc := 17) (n := 0) (v := 0) rfl rfl ?_
      refine eb_putI (pc := 18) rfl rfl (by decide) (by decide) rfl rfl ⟨rfl, rfl⟩ ?_
      refine eb_aload_n (pc := 21) (n := 0) (i := 0) rfl rfl rfl ?_
      refine eb_iconst (pc := 22) (n := 0) (v := 0) rfl rfl ?_
      refine eb_putI (pc := 23) rfl rfl (by decide) (by decide) rfl rfl ⟨rfl, rfl⟩ ?_
      refine eb_iconst (pc := 26) (n := 1) (v := 1) rfl rfl ?_
      exact eb_ireturn (pc := 27) rfl rfl (by decide) w
theorem T_X3_openAtom {d : Nat} {h : eb_H} {Q : Option Value → eb_H → Prop} (x1 : Int32)  (ko : eb_KO h) (w : ((x1 < 0 → (((x1 = (1011 : Int32)) ∨ ((¬ ((eb_I h s_reader_laws 10) = 0)) ∧ ((x1 = (1040 : Int32)) ∨ (x1 = (1010 : Int32)))) → (((eb_I h s_reader_laws 5) < (6 : Int32) → eb_Ct d 39 [.ref s_reader_laws, .int x1] (eb_sI h s_reader_laws 5 ((eb_I h s_reader_laws 5) + 1)) (fun r h10 => r = none ∧ eb_KO h10 ∧ ((¬ x1 = (1010 : Int32) → ((¬ x1 = (1011 : Int32) → Q (some (.int 1)) h10) ∧ (x1 = (1011 : Int32) → Q (some (.int 1)) (eb_sI (eb_sI h10 s_reader_laws 6 ((eb_I h10 s_reader_laws 6) + 1)) s_reader_laws 10 0)))) ∧ (x1 = (1010 : Int32) → ((¬ x1 = (1011 : Int32) → Q (some (.int 1)) (eb_sI h10 s_reader_laws 7 ((eb_I h10 s_reader_laws 7) + 1))) ∧ (x1 = (1011 : Int32) → Q (some (.int 1)) (eb_sI (eb_sI (eb_sI h10 s_reader_laws 7 ((eb_I h10 s_reader_laws 7) + 1)) s_reader_laws 6 ((eb_I (eb_sI h10 s_reader_laws 7 ((eb_I h10 s_reader_laws 7) + 1)) s_reader_laws 6) + 1)) s_reader_laws 10 0))))))) ∧ (¬ ((eb_I h s_reader_laws 5) < (6 : Int32)) → eb_Ct d 68 [.ref s_tape, .int 4] h (fun r h16 => r = none ∧ eb_KO h16 ∧ eb_Ct d 39 [.ref s_reader_laws, .int x1] (eb_sI h16 s_reader_laws 5 ((eb_I h16 s_reader_laws 5) + 1)) (fun r h19 => r = none ∧ eb_KO h19 ∧ ((¬ x1 = (1010 : Int32) → ((¬ x1 = (1011 : Int32) → Q (some (.int 1)) h19) ∧ (x1 = (1011 : Int32) → Q (some (.int 1)) (eb_sI (eb_sI h19 s_reader_laws 6 ((eb_I h19 s_reader_laws 6) + 1)) s_reader_laws 10 0)))) ∧ (x1 = (1010 : Int32) → ((¬ x1 = (1011 : Int32) → Q (some (.int 1)) (eb_sI h19 s_reader_laws 7 ((eb_I h19 s_reader_laws 7) + 1))) ∧ (x1 = (1011 : Int32) → Q (some (.int 1)) (eb_sI (eb_sI (eb_sI h19 s_reader_laws 7 ((eb_I h19 s_reader_laws 7) + 1)) s_reader_laws 6 ((eb_I (eb_sI h19 s_reader_laws 7 ((eb_I h19 s_reader_laws 7) + 1)) s_reader_laws 6) + 1)) s_reader_laws 10 0)))))))))) ∧ (¬ ((x1 = (1011 : Int32)) ∨ ((¬ ((eb_I h s_reader_laws 10) = 0)) ∧ ((x1 = (1040 : Int32)) ∨ (x1 = (1010 : Int32))))) → Q (some (.int 0)) h))) ∧ (¬ (x1 < 0) → (((1005 : Int32) < x1 → (((x1 = (1011 : Int32)) ∨ ((¬ ((eb_I h s_reader_laws 10) = 0)) ∧ ((x1 = (1040 : Int32)) ∨ (x1 = (1010 : Int32)))) → (((eb_I h s_reader_laws 5) < (6 : Int32) → eb_Ct d 39 [.ref s_reader_laws, .int x1] (eb_sI h s_reader_laws 5 ((eb_I h s_reader_laws 5) + 1)) (fun r h34 => r = none ∧ eb_KO h34 ∧ ((¬ x1 = (1010 : Int32) → ((¬ x1 = (1011 : Int32) → Q (some (.int 1)) h34) ∧ (x1 = (1011 : Int32) → Q (some (.int 1)) (eb_sI (eb_sI h34 s_reader_laws 6 ((eb_I h34 s_reader_laws 6) + 1)) s_reader_laws 10 0)))) ∧ (x1 = (1010 : Int32) → ((¬ x1 = (1011 : Int32) → Q (some (.int 1)) (eb_sI h34 s_reader_laws 7 ((eb_I h34 s_reader_laws 7) + 1))) ∧ (x1 = (1011 : Int32) → Q (some (.int 1)) (eb_sI (eb_sI (eb_sI h34 s_reader_laws 7 ((eb_I h34 s_reader_laws 7) + 1)) s_reader_laws 6 ((eb_I (eb_sI h34 s_reader_laws 7 ((eb_I h34 s_reader_laws 7) + 1)) s_reader_laws 6) + 1)) s_reader_laws 10 0))))))) ∧ (¬ ((eb_I h s_reader_laws 5) < (6 : Int32)) → eb_Ct d 68 [.ref s_tape, .int 4] h (fun r h40 => r = none ∧ eb_KO h40 ∧ eb_Ct d 39 [.ref s_reader_laws, .int x1] (eb_sI h40 s_reader_laws 5 ((eb_I h40 s_reader_laws 5) + 1)) (fun r h43 => r = none ∧ eb_KO h43 ∧ ((¬ x1 = (1010 : Int32) → ((¬ x1 = (1011 : Int32) → Q (some (.int 1)) h43) ∧ (x1 = (1011 : Int32) → Q (some (.int 1)) (eb_sI (eb_sI h43 s_reader_laws 6 ((eb_I h43 s_reader_laws 6) + 1)) s_reader_laws 10 0)))) ∧ (x1 = (1010 : Int32) → ((¬ x1 = (1011 : Int32) → Q (some (.int 1)) (eb_sI h43 s_reader_laws 7 ((eb_I h43 s_reader_laws 7) + 1))) ∧ (x1 = (1011 : Int32) → Q (some (.int 1)) (eb_sI (eb_sI (eb_sI h43 s_reader_laws 7 ((eb_I h43 s_reader_laws 7) + 1)) s_reader_laws 6 ((eb_I (eb_sI h43 s_reader_laws 7 ((eb_I h43 s_reader_laws 7) + 1)) s_reader_laws 6) + 1)) s_reader_laws 10 0)))))))))) ∧ (¬ ((x1 = (1011 : Int32)) ∨ ((¬ ((eb_I h s_reader_laws 10) = 0)) ∧ ((x1 = (1040 : Int32)) ∨ (x1 = (1010 : Int32))))) → Q (some (.int 0)) h))) ∧ (¬ ((1005 : Int32) < x1) → eb_Ct d 40 [.ref s_reader_laws, .int x1] h (fun r h49 => r = none ∧ eb_KO h49 ∧ Q (some (.int 1)) (eb_sI (eb_sI h49 s_reader_laws 9 0) s_reader_laws 10 0))))))) : eb_Ct (d + 1) 34 [.ref s_reader_laws, .int x1] h Q :=
  eb_bodyQ (by decide) ok_X3_openAtom (Nat.le_of_ble_eq_true rfl) (b_X3_openAtom_0 (h0 := h) x1  ko w)
theorem b_X3_joinOn_0 {d : Nat} {h0 h : eb_H} {Q : Option Value → eb_H → Prop} (x1 : Int32)  (ko : eb_KO h) (w : ((x1 = (1060 : Int32) → (((eb_I h s_reader_laws 8) = (2 : Int32) → Q (some (.int 0)) h) ∧ (¬ ((eb_I h s_reader_laws 8) = (2 : Int32)) → eb_Ct d 36 [.ref s_reader_laws, .int x1] h (fun r h3 => ∃ y4, r = some (.int y4) ∧ eb_KO h3 ∧ Q (some (.int (eb_q (¬ (y4 = 0))))) h3)))) ∧ (¬ (x1 = (1060 : Int32)) → ((x1 = (1061 : Int32) → (((eb_I h s_reader_laws 8) = (2 : Int32) → Q (some (.int 0)) h) ∧ (¬ ((eb_I h s_reader_laws 8) = (2 : Int32)) → eb_Ct d 36 [.ref s_reader_laws, .int x1] h (fun r h11 => ∃ y12, r = some (.int y12) ∧ eb_KO h11 ∧ Q (some (.int (eb_q (¬ (y12 = 0))))) h11)))) ∧ (¬ (x1 = (1061 : Int32)) → ((¬ x1 = (1070 : Int32) → (((eb_I h s_reader_laws 6) ≤ 0 → ((x1 = (1050 : Int32) → (((eb_I h s_reader_laws 8) = 0 → eb_Ct d 36 [.ref s_reader_laws, .int x1] (eb_sI h s_reader_laws 8 1) (fun r h21 => ∃ y22, r = some (.int y22) ∧ eb_KO h21 ∧ (narrow .boolean (.int y22) = .int y22) ∧ Q (some (.int y22)) h21)) ∧ (¬ ((eb_I h s_reader_laws 8) = 0) → Q (some (.int 0)) h))) ∧ (¬ (x1 = (1050 : Int32)) → ((x1 = (1051 : Int32) → (((eb_I h s_reader_laws 8) = 0 → eb_Ct d 36 [.ref s_reader_laws, .int x1] (eb_sI h s_reader_laws 8 1) (fun r h27 => ∃ y28, r = some (.int y28) ∧ eb_KO h27 ∧ (narrow .boolean (.int y28) = .int y28) ∧ Q (some (.int y28)) h27)) ∧ (¬ ((eb_I h s_reader_laws 8) = 0) → Q (some (.int 0)) h))) ∧ (¬ (x1 = (1051 : Int32)) → ((¬ x1 = (1052 : Int32) → ((¬ (eb_I h s_reader_laws 8) = 0 → ((x1 = (1030 : Int32) → eb_Ct d 36 [.ref s_reader_laws, .int x1] (eb_sI (eb_sI h s_reader_laws 8 0) s_reader_laws 10 1) (fun r h34 => ∃ y35, r = some (.int y35) ∧ eb_KO h34 ∧ (narrow .boolean (.int y35) = .int y35) ∧ Q (some (.int y35)) h34)) ∧ (¬ (x1 = (1030 : Int32)) → ((¬ x1 = (1020 : Int32) → ((¬ x1 = (1080 : Int32) → Q (some (.int 0)) h) ∧ (x1 = (1080 : Int32) → (((1 : Int32) ≤ (eb_I h s_reader_laws 7) → eb_Ct d 38 [.ref s_reader_laws] (eb_sI (eb_sI h s_reader_laws 7 ((eb_I h s_reader_laws 7) - 1)) s_reader_laws 8 2) (fun r h41 => r = none ∧ eb_KO h41 ∧ Q (some (.int 1)) h41)) ∧ (¬ ((1 : Int32) ≤ (eb_I h s_reader_laws 7)) → Q (some (.int 0)) h))))) ∧ (x1 = (1020 : Int32) → eb_Ct d 36 [.ref s_reader_laws, .int x1] (eb_sI (eb_sI h s_reader_laws 8 0) s_reader_laws 10 1) (fun r h44 => ∃ y45, r = some (.int y45) ∧ eb_KO h44 ∧ (narrow .boolean (.int y45) = .int y45) ∧ Q (some (.int y45)) h44)))))) ∧ ((eb_I h s_reader_laws 8) = 0 → Q (some (.int 0)) h))) ∧ (x1 = (1052 : Int32) → (((eb_I h s_reader_laws 8) = 0 → eb_Ct d 36 [.ref s_reader_laws, .int x1] (eb_sI h s_reader_laws 8 1) (fun r h49 => ∃ y50, r = some (.int y50) ∧ eb_KO h49 ∧ (narrow .boolean (.int y50) = .int y50) ∧ Q (some (.int y50)) h49)) ∧ (¬ ((eb_I h s_reader_laws 8) = 0) → Q (some (.int 0)) h))))))))) ∧ (¬ ((eb_I h s_reader_laws 6) ≤ 0) → ((x1 = (1081 : Int32) → eb_Ct d 38 [.ref s_reader_laws] (eb_sI h s_reader_laws 6 ((eb_I h s_reader_laws 6) - 1)) (fun r h54 => r = none ∧ eb_KO h54 ∧ Q (some (.int 1)) h54)) ∧ (¬ (x1 = (1081 : Int32)) → Q (some (.int 0)) h))))) ∧ (x1 = (1070 : Int32) → (((eb_I h s_reader_laws 8) = (2 : Int32) → Q (some (.int 0)) h) ∧ (¬ ((eb_I h s_reader_laws 8) = (2 : Int32)) → eb_Ct d 36 [.ref s_reader_laws, .int x1] h (fun r h58 => ∃ y59, r = some (.int y59) ∧ eb_KO h58 ∧ Q (some (.int (eb_q (¬ (y59 = 0))))) h58)))))))))) : eb_Sn (d + 1) m_X3_joinOn h0 0 [(0, .ref s_reader_laws), (1, .int x1)] [] h Q := by
  refine eb_iload_n (pc := 0) (n := 1) (i := 1) rfl rfl rfl ?_
  refine eb_sipush (pc := 1) (n := 1060) (v := 1060) rfl rfl ?_
  refine eb_icmp_eq (pc := 4) (tgt := 21) rfl (by decide) (fun c1 => ?_) (fun c1 => ?_)
  · replace w := w.1 c1
    refine eb_aload_n (pc := 21) (n := 0) (i := 0) rfl rfl rfl ?_
    refine eb_getI (pc := 22) rfl rfl (by decide) (by decide) rfl ?_
    refine eb_iconst (pc := 25) (n := 2) (v := 2) rfl rfl ?_
    refine eb_icmp_eq (pc := 26) (tgt := 41) rfl (by decide) (fun c2 => ?_) (fun c2 => ?_)
    · replace w := w.1 c2
      refine eb_iconst (pc := 41) (n := 0) (v := 0) rfl rfl ?_
      exact eb_ireturn (pc := 42) rfl rfl (by decide) w
    · replace w := w.2 c2
      refine eb_aload_n (pc := 29) (n := 0) (i := 0) rfl rfl rfl ?_
      refine eb_iload_n (pc := 30) (n := 1) (i := 1) rfl rfl rfl ?_
      refine eb_ctV (pc := 31) (As := [.int x1]) (rest := []) rfl (by decide) rfl rfl (by decide) rfl (Nat.le_of_ble_eq_true rfl) ?_
      refine eb_Ct.mono w ?_
      rintro r h3 ⟨y4, rfl, ko5, w⟩
      change eb_Sn _ _ _ 34 _ [.int y4] _ _
      refine eb_joinI (pc2 := 42) (ls2 := [(0, .ref s_reader_laws), (1, .int x1)]) (st2 := []) (v := eb_q (¬ (y4 = 0))) ?_ (fun jj7 => ?_)
      · exact eb_ireturn (pc := 42) rfl rfl eb_qn w
      refine eb_if_eq (pc := 34) (tgt := 41) rfl (by decide) (fun c6 => ?_) (fun c6 => ?_)
      · refine eb_iconst (pc := 41) (n := 0) (v := 0) rfl rfl ?_
        exact jj7 0 (eb_qf (fun z => z c6)).symm
      · refine eb_iconst (pc := 37) (n := 1) (v := 1) rfl rfl ?_
        refine eb_goto (pc := 38) (tgt := 42) rfl (by decide) ?_
        exact jj7 1 (eb_qt c6).symm
  · replace w := w.2 c1
    refine eb_iload_n (pc := 7) (n := 1) (i := 1) rfl rfl rfl ?_
    refine eb_sipush (pc := 8) (n := 1061) (v := 1061) rfl rfl ?_
    refine eb_icmp_eq (pc := 11) (tgt := 21) rfl (by decide) (fun c9 => ?_) (fun c9 => ?_)
    · replace w := w.1 c9
      refine eb_aload_n (pc := 21) (n := 0) (i := 0) rfl rfl rfl ?_
      refine eb_getI (pc := 22) rfl rfl (by decide) (by decide) rfl ?_
      refine eb_iconst (pc := 25) (n := 2) (v := 2) rfl rfl ?_
      refine eb_icmp_eq (pc := 26) (tgt := 41) rfl (by decide) (fun c10 => ?_) (fun c10 => ?_)
      · replace w := w.1 c10
        refine eb_iconst (pc := 41) (n := 0) (v := 0) rfl rfl ?_
        exact eb_ireturn (pc := 42) rfl rfl (by decide) w
      · replace w := w.2 c10
        refine eb_aload_n (pc := 29) (n := 0) (i := 0) rfl rfl rfl ?_
        refine eb_iload_n (pc := 30) (n := 1) (i := 1) rfl rfl rfl ?_
        refine eb_ctV (pc := 31) (As := [.int x1]) (rest := []) rfl (by decide) rfl rfl (by decide) rfl (Nat.le_of_ble_eq_true rfl) ?_
        refine eb_Ct.mono w ?_
        rintro r h11 ⟨y12, rfl, ko13, w⟩
        change eb_Sn _ _ _ 34 _ [.int y12] _ _
        refine eb_joinI (pc2 := 42) (ls2 := [(0, .ref s_reader_laws), (1, .int x1)]) (st2 := []) (v := eb_q (¬ (y12 = 0))) ?_ (fun jj15 => ?_)
        · exact eb_ireturn (pc := 42) rfl rfl eb_qn w
        refine eb_if_eq (pc := 34) (tgt := 41) rfl (by decide) (fun c14 => ?_) (fun c14 => ?_)
        · refine eb_iconst (pc := 41) (n := 0) (v := 0) rfl rfl ?_
          exact jj15 0 (eb_qf (fun z => z c14)).symm
        · refine eb_iconst (pc := 37) (n := 1) (v := 1) rfl rfl ?_
          refine eb_goto (pc := 38) (tgt := 42) rfl (by decide) ?_
          exact jj15 1 (eb_qt c14).symm
    · replace w := w.2 c9
      refine eb_iload_n (pc := 14) (n := 1) (i := 1) rfl rfl rfl ?_
      refine eb_sipush (pc := 15) (n := 1070) (v := 1070) rfl rfl ?_
      refine eb_icmp_ne (pc := 18) (tgt := 43) rfl (by decide) (fun c17 => ?_) (fun c17 => ?_)
      · replace w := w.1 c17
        refine eb_aload_n (pc := 43) (n := 0) (i := 0) rfl rfl rfl ?_
        refine eb_getI (pc := 44) rfl rfl (by decide) (by decide) rfl ?_
        refine eb_if_le (pc := 47) (tgt := 75) rfl (by decide) (fun c18 => ?_) (fun c18 => ?_)
        · replace w := w.1 c18
          refine eb_iload_n (pc := 75) (n := 1) (i := 1) rfl rfl rfl ?_
          refine eb_sipush (pc := 76) (n := 1050) (v := 1050) rfl rfl ?_
          refine eb_icmp_eq (pc := 79) (tgt := 96) rfl (by decide) (fun c19 => ?_) (fun c19 => ?_)
          · replace w := w.1 c19
            refine eb_aload_n (pc := 96) (n := 0) (i := 0) rfl rfl rfl ?_
            refine eb_getI (pc := 97) rfl rfl (by decide) (by decide) rfl ?_
            refine eb_if_eq (pc := 100) (tgt := 105) rfl (by decide) (fun c20 => ?_) (fun c20 => ?_)
            · replace w := w.1 c20
              refine eb_aload_n (pc := 105) (n := 0) (i := 0) rfl rfl rfl ?_
              refine eb_iconst (pc := 106) (n := 1) (v := 1) rfl rfl ?_
              refine eb_putI (pc := 107) rfl rfl (by decide) (by decide) rfl rfl ⟨rfl, rfl⟩ ?_
              refine eb_aload_n (pc := 110) (n := 0) (i := 0) rfl rfl rfl ?_
              refine eb_iload_n (pc := 111) (n := 1) (i := 1) rfl rfl rfl ?_
              refine eb_ctV (pc := 112) (As := [.int x1]) (rest := []) rfl (by decide) rfl rfl (by decide) rfl (Nat.le_of_ble_eq_true rfl) ?_
              refine eb_Ct.mono w ?_
              rintro r h21 ⟨y22, rfl, ko23, w⟩
              change eb_Sn _ _ _ 115 _ [.int y22] _ _
              obtain ⟨c24, w⟩ := w
              exact eb_ireturn (pc := 115) rfl rfl c24 w
            · replace w := w.2 c20
              refine eb_iconst (pc := 103) (n := 0) (v := 0) rfl rfl ?_
              exact eb_ireturn (pc := 104) rfl rfl (by decide) w
          · replace w := w.2 c19
            refine eb_iload_n (pc := 82) (n := 1) (i := 1) rfl rfl rfl ?_
            refine eb_sipush (pc := 83) (n := 1051) (v := 1051) rfl rfl ?_
            refine eb_icmp_eq (pc := 86) (tgt := 96) rfl (by decide) (fun c25 => ?_) (fun c25 => ?_)
            · replace w := w.1 c25
              refine eb_aload_n (pc := 96) (n := 0) (i := 0) rfl rfl rfl ?_
              refine eb_getI (pc := 97) rfl rfl (by decide) (by decide) rfl ?_
              refine eb_if_eq (pc := 100) (tgt := 105) rfl (by decide) (fun c26 => ?_) (fun c26 => ?_)
              · replace w := w.1 c26
                refine eb_aload_n (pc := 105) (n := 0) (i := 0) rfl rfl rfl ?_
                refine eb_iconst (pc := 106) (n := 1) (v := 1) rfl rfl ?_
                refine eb_putI (pc := 107) rfl rfl (by decide) (by decide) rfl rfl ⟨rfl, rfl⟩ ?_
                refine eb_aload_n (pc := 110) (n := 0) (i := 0) rfl rfl rfl ?_
                refine eb_iload_n (pc := 111) (n := 1) (i := 1) rfl rfl rfl ?_
                refine eb_ctV (pc := 112) (As := [.int x1]) (rest := []) rfl (by decide) rfl rfl (by decide) rfl (Nat.le_of_ble_eq_true rfl) ?_
                refine eb_Ct.mono w ?_
                rintro r h27 ⟨y28, rfl, ko29, w⟩
                change eb_Sn _ _ _ 115 _ [.int y28] _ _
                obtain ⟨c30, w⟩ := w
                exact eb_ireturn (pc := 115) rfl rfl c30 w
              · replace w := w.2 c26
                refine eb_iconst (pc := 103) (n := 0) (v := 0) rfl rfl ?_
                exact eb_ireturn (pc := 104) rfl rfl (by decide) w
            · replace w := w.2 c25
              refine eb_iload_n (pc := 89) (n := 1) (i := 1) rfl rfl rfl ?_
              refine eb_sipush (pc := 90) (n := 1052) (v := 1052) rfl rfl ?_
              refine eb_icmp_ne (pc := 93) (tgt := 116) rfl (by decide) (fun c31 => ?_) (fun c31 => ?_)
              · replace w := w.1 c31
                refine eb_aload_n (pc := 116) (n := 0) (i := 0) rfl rfl rfl ?_
                refine eb_getI (pc := 117) rfl rfl (by decide) (by decide) rfl ?_
                refine eb_if_ne (pc := 120) (tgt := 125) rfl (by decide) (fun c32 => ?_) (fun c32 => ?_)
                · replace w := w.1 c32
                  refine eb_iload_n (pc := 125) (n := 1) (i := 1) rfl rfl rfl ?_
                  refine eb_sipush (pc := 126) (n := 1030) (v := 1030) rfl rfl ?_
                  refine eb_icmp_eq (pc := 129) (tgt := 139) rfl (by decide) (fun c33 => ?_) (fun c33 => ?_)
                  · replace w := w.1 c33
                    refine eb_aload_n (pc := 139) (n := 0) (i := 0) rfl rfl rfl ?_
                    refine eb_iconst (pc := 140) (n := 0) (v := 0) rfl rfl ?_
                    refine eb_putI (pc := 141) rfl rfl (by decide) (by decide) rfl rfl ⟨rfl, rfl⟩ ?_
                    refine eb_aload_n (pc := 144) (n := 0) (i := 0) rfl rfl rfl ?_
                    refine eb_iconst (pc := 145) (n := 1) (v := 1) rfl rfl ?_
                    refine eb_putI (pc := 146) rfl rfl (by decide) (by decide) rfl rfl ⟨rfl, rfl⟩ ?_
                    refine eb_aload_n (pc := 149) (n := 0) (i := 0) rfl rfl rfl ?_
                    refine eb_iload_n (pc := 150) (n := 1) (i := 1) rfl rfl rfl ?_
                    refine eb_ctV (pc := 151) (As := [.int x1]) (rest := []) rfl (by decide) rfl rfl (by decide) rfl (Nat.le_of_ble_eq_true rfl) ?_
                    refine eb_Ct.mono w ?_
                    rintro r h34 ⟨y35, rfl, ko36, w⟩
                    change eb_Sn _ _ _ 154 _ [.int y35] _ _
                    obtain ⟨c37, w⟩ := w
                    exact eb_ireturn (pc := 154) rfl rfl c37 w
                  · replace w := w.2 c33
                    refine eb_iload_n (pc := 132) (n := 1) (i := 1) rfl rfl rfl ?_
                    refine eb_sipush (pc := 133) (n := 1020) (v := 1020) rfl rfl ?_
                    refine eb_icmp_ne (pc := 136) (tgt := 155) rfl (by decide) (fun c38 => ?_) (fun c38 => ?_)
                    · replace w := w.1 c38
                      refine eb_iload_n (pc := 155) (n := 1) (i := 1) rfl rfl rfl ?_
                      refine eb_sipush (pc := 156) (n := 1080) (v := 1080) rfl rfl ?_
                      refine eb_icmp_ne (pc := 159) (tgt := 170) rfl (by decide) (fun c39 => ?_) (fun c39 => ?_)
                      · replace w := w.1 c39
                        refine eb_iconst (pc := 170) (n := 0) (v := 0) rfl rfl ?_
                        exact eb_ireturn (pc := 171) rfl rfl (by decide) w
                      · replace w := w.2 c39
                        refine eb_aload_n (pc := 162) (n := 0) (i := 0) rfl rfl rfl ?_
                        refine eb_getI (pc := 163) rfl rfl (by decide) (by decide) rfl ?_
                        refine eb_iconst (pc := 166) (n := 1) (v := 1) rfl rfl ?_
                        refine eb_icmp_ge (pc := 167) (tgt := 172) rfl (by decide) (fun c40 => ?_) (fun c40 => ?_)
                        · replace w := w.1 c40
                          refine eb_aload_n (pc := 172) (n := 0) (i := 0) rfl rfl rfl ?_
                          refine eb_dupr (pc := 173) rfl ?_
                          refine eb_getI (pc := 174) rfl rfl (by decide) (by decide) rfl ?_
                          refine eb_iconst (pc := 177) (n := 1) (v := 1) rfl rfl ?_
                          refine eb_isub (pc := 178) rfl ?_
                          refine eb_putI (pc := 179) rfl rfl (by decide) (by decide) rfl rfl ⟨rfl, rfl⟩ ?_
                          refine eb_aload_n (pc := 182) (n := 0) (i := 0) rfl rfl rfl ?_
                          refine eb_iconst (pc := 183) (n := 2) (v := 2) rfl rfl ?_
                          refine eb_putI (pc := 184) rfl rfl (by decide) (by decide) rfl rfl ⟨rfl, rfl⟩ ?_
                          refine eb_aload_n (pc := 187) (n := 0) (i := 0) rfl rfl rfl ?_
                          refine eb_ctV (pc := 188) (As := []) (rest := []) rfl (by decide) rfl rfl (by decide) rfl (Nat.le_of_ble_eq_true rfl) ?_
                          refine eb_Ct.mono w ?_
                          rintro r h41 ⟨rfl, ko43, w⟩
                          change eb_Sn _ _ _ 191 _ [] _ _
                          refine eb_iconst (pc := 191) (n := 1) (v := 1) rfl rfl ?_
                          exact eb_ireturn (pc := 192) rfl rfl (by decide) w
                        · replace w := w.2 c40
                          refine eb_iconst (pc := 170) (n := 0) (v := 0) rfl rfl ?_
                          exact eb_ireturn (pc := 171) rfl rfl (by decide) w
                    · replace w := w.2 c38
                      refine eb_aload_n (pc := 139) (n := 0) (i := 0) rfl rfl rfl ?_
                      refine eb_iconst (pc := 140) (n := 0) (v := 0) rfl rfl ?_
                      refine eb_putI (pc := 141) rfl rfl (by decide) (by decide) rfl rfl ⟨rfl, rfl⟩ ?_
                      refine eb_aload_n (pc := 144) (n := 0) (i := 0) rfl rfl rfl ?_
                      refine eb_iconst (pc := 145) (n := 1) (v := 1) rfl rfl ?_
                      refine eb_putI (pc := 146) rfl rfl (by decide) (by decide) rfl rfl ⟨rfl, rfl⟩ ?_
                      refine eb_aload_n (pc := 149) (n := 0) (i := 0) rfl rfl rfl ?_
                      refine eb_iload_n (pc := 150) (n := 1) (i := 1) rfl rfl rfl ?_
                      refine eb_ctV (pc := 151) (As := [.int x1]) (rest := []) rfl (by decide) rfl rfl (by decide) rfl (Nat.le_of_ble_eq_true rfl) ?_
                      refine eb_Ct.mono w ?_
                      rintro r h44 ⟨y45, rfl, ko46, w⟩
                      change eb_Sn _ _ _ 154 _ [.int y45] _ _
                      obtain ⟨c47, w⟩ := w
                      exact eb_ireturn (pc := 154) rfl rfl c47 w
                · replace w := w.2 c32
                  refine eb_iconst (pc := 123) (n := 0) (v := 0) rfl rfl ?_
                  exact eb_ireturn (pc := 124) rfl rfl (by decide) w
              · replace w := w.2 c31
                refine eb_aload_n (pc := 96) (n := 0) (i := 0) rfl rfl rfl ?_
                refine eb_getI (pc := 97) rfl rfl (by decide) (by decide) rfl ?_
                refine eb_if_eq (pc := 100) (tgt := 105) rfl (by decide) (fun c48 => ?_) (fun c48 => ?_)
                · replace w := w.1 c48
                  refine eb_aload_n (pc := 105) (n := 0) (i := 0) rfl rfl rfl ?_
                  refine eb_iconst (pc := 106) (n := 1) (v := 1) rfl rfl ?_
                  refine eb_putI (pc := 107) rfl rfl (by decide) (by decide) rfl rfl ⟨rfl, rfl⟩ ?_
                  refine eb_aload_n (pc := 110) (n := 0) (i := 0) rfl rfl rfl ?_
                  refine eb_iload_n (pc := 111) (n := 1) (i := 1) rfl rfl rfl ?_
                  refine eb_ctV (pc := 112) (As := [.int x1]) (rest := []) rfl (by decide) rfl rfl (by decide) rfl (Nat.le_of_ble_eq_true rfl) ?_
                  refine eb_Ct.mono w ?_
                  rintro r h49 ⟨y50, rfl, ko51, w⟩
                  change eb_Sn _ _ _ 115 _ [.int y50] _ _
                  obtain ⟨c52, w⟩ := w
                  exact eb_ireturn (pc := 115) rfl rfl c52 w
                · replace w := w.2 c48
                  refine eb_iconst (pc := 103) (n := 0) (v := 0) rfl rfl ?_
                  exact eb_ireturn (pc := 104) rfl rfl (by decide) w
        · replace w := w.2 c18
          refine eb_iload_n (pc := 50) (n := 1) (i := 1) rfl rfl rfl ?_
          refine eb_sipush (pc := 51) (n := 1081) (v := 1081) rfl rfl ?_
          refine eb_icmp_eq (pc := 54) (tgt := 59) rfl (by decide) (fun c53 => ?_) (fun c53 => ?_)
          · replace w := w.1 c53
            refine eb_aload_n (pc := 59) (n := 0) (i := 0) rfl rfl rfl ?_
            refine eb_dupr (pc := 60) rfl ?_
            refine eb_getI (pc := 61) rfl rfl (by decide) (by decide) rfl ?_
            refine eb_iconst (pc := 64) (n := 1) (v := 1) rfl rfl ?_
            refine eb_isub (pc := 65) rfl ?_
            refine eb_putI (pc := 66) rfl rfl (by decide) (by decide) rfl rfl ⟨rfl, rfl⟩ ?_
            refine eb_aload_n (pc := 69) (n := 0) (i := 0) rfl rfl rfl ?_
            refine eb_ctV (pc := 70) (As := []) (rest := []) rfl (by decide) rfl rfl (by decide) rfl (Nat.le_of_ble_eq_true rfl) ?_
            refine eb_Ct.mono w ?_
            rintro r h54 ⟨rfl, ko56, w⟩
            change eb_Sn _ _ _ 73 _ [] _ _
            refine eb_iconst (pc := 73) (n := 1) (v := 1) rfl rfl ?_
            exact eb_ireturn (pc := 74) rfl rfl (by decide) w
          · replace w := w.2 c53
            refine eb_iconst (pc := 57) (n := 0) (v := 0) rfl rfl ?_
            exact eb_ireturn (pc := 58) rfl rfl (by decide) w
      · replace w := w.2 c17
        refine eb_aload_n (pc := 21) (n := 0) (i := 0) rfl rfl rfl ?_
        refine eb_getI (pc := 22) rfl rfl (by decide) (by decide) rfl ?_
        refine eb_iconst (pc := 25) (n := 2) (v := 2) rfl rfl ?_
        refine eb_icmp_eq (pc := 26) (tgt := 41) rfl (by decide) (fun c57 => ?_) (fun c57 => ?_)
        · replace w := w.1 c57
          refine eb_iconst (pc := 41) (n := 0) (v := 0) rfl rfl ?_
          exact eb_ireturn (pc := 42) rfl rfl (by decide) w
        · replace w := w.2 c57
          refine eb_aload_n (pc := 29) (n := 0) (i := 0) rfl rfl rfl ?_
          refine eb_iload_n (pc := 30) (n := 1) (i := 1) rfl rfl rfl ?_
          refine eb_ctV (pc := 31) (As := [.int x1]) (rest := []) rfl (by decide) rfl rfl (by decide) rfl (Nat.le_of_ble_eq_true rfl) ?_
          refine eb_Ct.mono w ?_
          rintro r h58 ⟨y59, rfl, ko60, w⟩
          change eb_Sn _ _ _ 34 _ [.int y59] _ _
          refine eb_joinI (pc2 := 42) (ls2 := [(0, .ref s_reader_laws), (1, .int x1)]) (st2 := []) (v := eb_q (¬ (y59 = 0))) ?_ (fun jj62 => ?_)
          · exact eb_ireturn (pc := 42) rfl rfl eb_qn w
          refine eb_if_eq (pc := 34) (tgt := 41) rfl (by decide) (fun c61 => ?_) (fun c61 => ?_)
          · refine eb_iconst (pc := 41) (n := 0) (v := 0) rfl rfl ?_
            exact jj62 0 (eb_qf (fun z => z c61)).symm
          · refine eb_iconst (pc := 37) (n := 1) (v := 1) rfl rfl ?_
            refine eb_goto (pc := 38) (tgt := 42) rfl (by decide) ?_
            exact jj62 1 (eb_qt c61).symm
theorem T_X3_joinOn {d : Nat} {h : eb_H} {Q : Option Value → eb_H → Prop} (x1 : Int32)  (ko : eb_KO h) (w : ((x1 = (1060 : Int32) → (((eb_I h s_reader_laws 8) = (2 : Int32) → Q (some (.int 0)) h) ∧ (¬ ((eb_I h s_reader_laws 8) = (2 : Int32)) → eb_Ct d 36 [.ref s_reader_laws, .int x1] h (fun r h3 => ∃ y4, r = some (.int y4) ∧ eb_KO h3 ∧ Q (some (.int (eb_q (¬ (y4 = 0))))) h3)))) ∧ (¬ (x1 = (1060 : Int32)) → ((x1 = (1061 : Int32) → (((eb_I h s_reader_laws 8) = (2 : Int32) → Q (some (.int 0)) h) ∧ (¬ ((eb_I h s_reader_laws 8) = (2 : Int32)) → eb_Ct d 36 [.ref s_reader_laws, .int x1] h (fun r h11 => ∃ y12, r = some (.int y12) ∧ eb_KO h11 ∧ Q (some (.int (eb_q (¬ (y12 = 0))))) h11)))) ∧ (¬ (x1 = (1061 : Int32)) → ((¬ x1 = (1070 : Int32) → (((eb_I h s_reader_laws 6) ≤ 0 → ((x1 = (1050 : Int32) → (((eb_I h s_reader_laws 8) = 0 → eb_Ct d 36 [.ref s_reader_laws, .int x1] (eb_sI h s_reader_laws 8 1) (fun r h21 => ∃ y22, r = some (.int y22) ∧ eb_KO h21 ∧ (narrow .boolean (.int y22) = .int y22) ∧ Q (some (.int y22)) h21)) ∧ (¬ ((eb_I h s_reader_laws 8) = 0) → Q (some (.int 0)) h))) ∧ (¬ (x1 = (1050 : Int32)) → ((x1 = (1051 : Int32) → (((eb_I h s_reader_laws 8) = 0 → eb_Ct d 36 [.ref s_reader_laws, .int x1] (eb_sI h s_reader_laws 8 1) (fun r h27 => ∃ y28, r = some (.int y28) ∧ eb_KO h27 ∧ (narrow .boolean (.int y28) = .int y28) ∧ Q (some (.int y28)) h27)) ∧ (¬ ((eb_I h s_reader_laws 8) = 0) → Q (some (.int 0)) h))) ∧ (¬ (x1 = (1051 : Int32)) → ((¬ x1 = (1052 : Int32) → ((¬ (eb_I h s_reader_laws 8) = 0 → ((x1 = (1030 : Int32) → eb_Ct d 36 [.ref s_reader_laws, .int x1] (eb_sI (eb_sI h s_reader_laws 8 0) s_reader_laws 10 1) (fun r h34 => ∃ y35, r = some (.int y35) ∧ eb_KO h34 ∧ (narrow .boolean (.int y35) = .int y35) ∧ Q (some (.int y35)) h34)) ∧ (¬ (x1 = (1030 : Int32)) → ((¬ x1 = (1020 : Int32) → ((¬ x1 = (1080 : Int32) → Q (some (.int 0)) h) ∧ (x1 = (1080 : Int32) → (((1 : Int32) ≤ (eb_I h s_reader_laws 7) → eb_Ct d 38 [.ref s_reader_laws] (eb_sI (eb_sI h s_reader_laws 7 ((eb_I h s_reader_laws 7) - 1)) s_reader_laws 8 2) (fun r h41 => r = none ∧ eb_KO h41 ∧ Q (some (.int 1)) h41)) ∧ (¬ ((1 : Int32) ≤ (eb_I h s_reader_laws 7)) → Q (some (.int 0)) h))))) ∧ (x1 = (1020 : Int32) → eb_Ct d 36 [.ref s_reader_laws, .int x1] (eb_sI (eb_sI h s_reader_laws 8 0) s_reader_laws 10 1) (fun r h44 => ∃ y45, r = some (.int y45) ∧ eb_KO h44 ∧ (narrow .boolean (.int y45) = .int y45) ∧ Q (some (.int y45)) h44)))))) ∧ ((eb_I h s_reader_laws 8) = 0 → Q (some (.int 0)) h))) ∧ (x1 = (1052 : Int32) → (((eb_I h s_reader_laws 8) = 0 → eb_Ct d 36 [.ref s_reader_laws, .int x1] (eb_sI h s_reader_laws 8 1) (fun r h49 => ∃ y50, r = some (.int y50) ∧ eb_KO h49 ∧ (narrow .boolean (.int y50) = .int y50) ∧ Q (some (.int y50)) h49)) ∧ (¬ ((eb_I h s_reader_laws 8) = 0) → Q (some (.int 0)) h))))))))) ∧ (¬ ((eb_I h s_reader_laws 6) ≤ 0) → ((x1 = (1081 : Int32) → eb_Ct d 38 [.ref s_reader_laws] (eb_sI h s_reader_laws 6 ((eb_I h s_reader_laws 6) - 1)) (fun r h54 => r = none ∧ eb_KO h54 ∧ Q (some (.int 1)) h54)) ∧ (¬ (x1 = (1081 : Int32)) → Q (some (.int 0)) h))))) ∧ (x1 = (1070 : Int32) → (((eb_I h s_reader_laws 8) = (2 : Int32) → Q (some (.int 0)) h) ∧ (¬ ((eb_I h s_reader_laws 8) = (2 : Int32)) → eb_Ct d 36 [.ref s_reader_laws, .int x1] h (fun r h58 => ∃ y59, r = some (.int y59) ∧ eb_KO h58 ∧ Q (some (.int (eb_q (¬ (y59 = 0))))) h58)))))))))) : eb_Ct (d + 1) 35 [.ref s_reader_laws, .int x1] h Q :=
  eb_bodyQ (by decide) ok_X3_joinOn (Nat.le_of_ble_eq_true rfl) (b_X3_joinOn_0 (h0 := h) x1  ko w)
theorem b_X3_joinBy_0 {d : Nat} {h0 h : eb_H} {Q : Option Value → eb_H → Prop} (x1 : Int32)  (ko : eb_KO h) (w : eb_Ct d 37 [.ref s_reader_laws, .int x1] h (fun r h1 => r = none ∧ eb_KO h1 ∧ eb_Ct d 39 [.ref s_reader_laws, .int x1] h1 (fun r h4 => r = none ∧ eb_KO h4 ∧ Q (some (.int 1)) (eb_sI h4 s_reader_laws 9 1)))) : eb_Sn (d + 1) m_X3_joinBy h0 0 [(0, .ref s_reader_laws), (1, .int x1)] [] h Q := by
  refine eb_aload_n (pc := 0) (n := 0) (i := 0) rfl rfl rfl ?_
  refine eb_iload_n (pc := 1) (n := 1) (i := 1) rfl rfl rfl ?_
  refine eb_ctV (pc := 2) (As := [.int x1]) (rest := []) rfl (by decide) rfl rfl (by decide) rfl (Nat.le_of_ble_eq_true rfl) ?_
  refine eb_Ct.mono w ?_
  rintro r h1 ⟨rfl, ko3, w⟩
  change eb_Sn _ _ _ 5 _ [] _ _
  refine eb_aload_n (pc := 5) (n := 0) (i := 0) rfl rfl rfl ?_
  refine eb_iload_n (pc := 6) (n := 1) (i := 1) rfl rfl rfl ?_
  refine eb_ctV (pc := 7) (As := [.int x1]) (rest := []) rfl (by decide) rfl rfl (by decide) rfl (Nat.le_of_ble_eq_true rfl) ?_
  refine eb_Ct.mono w ?_
  rintro r h4 ⟨rfl, ko6, w⟩
  change eb_Sn _ _ _ 10 _ [] _ _
  refine eb_aload_n (pc := 10) (n := 0) (i := 0) rfl rfl rfl ?_
  refine eb_iconst (pc := 11) (n := 1) (v := 1) rfl rfl ?_
  refine eb_putI (pc := 12) rfl rfl (by decide) (by decide) rfl rfl ⟨rfl, rfl⟩ ?_
  refine eb_iconst (pc := 15) (n := 1) (v := 1) rfl rfl ?_
  exact eb_ireturn (pc := 16) rfl rfl (by decide) w
theorem T_X3_joinBy {d : Nat} {h : eb_H} {Q : Option Value → eb_H → Prop} (x1 : Int32)  (ko : eb_KO h) (w : eb_Ct d 37 [.ref s_reader_laws, .int x1] h (fun r h1 => r = none ∧ eb_KO h1 ∧ eb_Ct d 39 [.ref s_reader_laws, .int x1] h1 (fun r h4 => r = none ∧ eb_KO h4 ∧ Q (some (.int 1)) (eb_sI h4 s_reader_laws 9 1)))) : eb_Ct (d + 1) 36 [.ref s_reader_laws, .int x1] h Q :=
  eb_bodyQ (by decide) ok_X3_joinBy (Nat.le_of_ble_eq_true rfl) (b_X3_joinBy_0 (h0 := h) x1  ko w)
theorem b_X3_settle_0 {d : Nat} {h0 h : eb_H} {Q : Option Value → eb_H → Prop} (x1 : Int32)  (ko : eb_KO h) (w : eb_Sn (d + 1) m_X3_settle h0 2 [(0, .ref s_reader_laws), (1, .int x1), (2, .int 0)] [] h Q) : eb_Sn (d + 1) m_X3_settle h0 0 [(0, .ref s_reader_laws), (1, .int x1)] [] h Q := by
  refine eb_iconst (pc := 0) (n := 0) (v := 0) rfl rfl ?_
  refine eb_istore_n (pc := 1) (n := 2) (i := 2) (ls2 := [(2, .int 0), (0, .ref s_reader_laws), (1, .int x1)]) rfl (Nat.le_of_ble_eq_true rfl) rfl rfl ?_
  exact eb_pick [1, 2, 0] rfl w
theorem b_X3_settle_2 {d : Nat} {h0 h : eb_H} {Q : Option Value → eb_H → Prop} (x1 : Int32) (x2 : Int32)  (ko : eb_KO h) (w : (((32 : Int32) ≤ x2 → Q none h) ∧ (¬ ((32 : Int32) ≤ x2) → (((eb_I h s_reader_laws 4) ≤ 0 → Q none h) ∧ (¬ ((eb_I h s_reader_laws 4) ≤ 0) → (((32 : Int32) < (eb_I h s_reader_laws 4) → Q none h) ∧ (¬ ((32 : Int32) < (eb_I h s_reader_laws 4)) → (vp_in ((eb_I h s_reader_laws 4) - 1) 32) ∧ (((x1 / 10) ≤ ((eb_I h s_reader_laws_waiting ((eb_I h s_reader_laws 4) - 1).toNatClampNeg) / 10) → ((¬ (eb_I h s_reader_laws_waiting ((eb_I h s_reader_laws 4) - 1).toNatClampNeg) = (1040 : Int32) → eb_Ct d 40 [.ref s_reader_laws, .int (eb_I h s_reader_laws_waiting ((eb_I h s_reader_laws 4) - 1).toNatClampNeg)] (eb_sI h s_reader_laws 4 ((eb_I h s_reader_laws 4) - 1)) (fun r h7 => r = none ∧ eb_KO h7 ∧ eb_Sn (d + 1) m_X3_settle h0 2 [(0, .ref s_reader_laws), (1, .int x1), (2, .int (x2 + 1))] [] h7 Q)) ∧ ((eb_I h s_reader_laws_waiting ((eb_I h s_reader_laws 4) - 1).toNatClampNeg) = (1040 : Int32) → eb_Ct d 40 [.ref s_reader_laws, .int (eb_I h s_reader_laws_waiting ((eb_I h s_reader_laws 4) - 1).toNatClampNeg)] (eb_sI (eb_sI h s_reader_laws 4 ((eb_I h s_reader_laws 4) - 1)) s_reader_laws 5 ((eb_I (eb_sI h s_reader_laws 4 ((eb_I h s_reader_laws 4) - 1)) s_reader_laws 5) - 1)) (fun r h10 => r = none ∧ eb_KO h10 ∧ eb_Sn (d + 1) m_X3_settle h0 2 [(0, .ref s_reader_laws), (1, .int x1), (2, .int (x2 + 1))] [] h10 Q)))) ∧ (¬ ((x1 / 10) ≤ ((eb_I h s_reader_laws_waiting ((eb_I h s_reader_laws 4) - 1).toNatClampNeg) / 10)) → Q none h))))))))) : eb_Sn (d + 1) m_X3_settle h0 2 [(0, .ref s_reader_laws), (1, .int x1), (2, .int x2)] [] h Q := by
  refine eb_iload_n (pc := 2) (n := 2) (i := 2) rfl rfl rfl ?_
  refine eb_bipush (pc := 3) (n := 32) (v := 32) rfl rfl ?_
  refine eb_icmp_ge (pc := 5) (tgt := 89) rfl (by decide) (fun c1 => ?_) (fun c1 => ?_)
  · replace w := w.1 c1
    exact eb_return (pc := 89) rfl rfl w
  · replace w := w.2 c1
    refine eb_aload_n (pc := 8) (n := 0) (i := 0) rfl rfl rfl ?_
    refine eb_getI (pc := 9) rfl rfl (by decide) (by decide) rfl ?_
    refine eb_if_le (pc := 12) (tgt := 89) rfl (by decide) (fun c2 => ?_) (fun c2 => ?_)
    · replace w := w.1 c2
      exact eb_return (pc := 89) rfl rfl w
    · replace w := w.2 c2
      refine eb_aload_n (pc := 15) (n := 0) (i := 0) rfl rfl rfl ?_
      refine eb_getI (pc := 16) rfl rfl (by decide) (by decide) rfl ?_
      refine eb_aload_n (pc := 19) (n := 0) (i := 0) rfl rfl rfl ?_
      refine eb_getR (pc := 20) rfl rfl (by decide) (by decide) rfl (ko_s_reader_laws_2 ko) ?_
      refine eb_alen (pc := 23) (v := 32) rfl (by decide) (by decide) rfl ?_
      refine eb_icmp_gt (pc := 24) (tgt := 89) rfl (by decide) (fun c3 => ?_) (fun c3 => ?_)
      · replace w := w.1 c3
        exact eb_return (pc := 89) rfl rfl w
      · replace w := w.2 c3
        refine eb_aload_n (pc := 27) (n := 0) (i := 0) rfl rfl rfl ?_
        refine eb_getR (pc := 28) rfl rfl (by decide) (by decide) rfl (ko_s_reader_laws_2 ko) ?_
        refine eb_aload_n (pc := 31) (n := 0) (i := 0) rfl rfl rfl ?_
        refine eb_getI (pc := 32) rfl rfl (by decide) (by decide) rfl ?_
        refine eb_iconst (pc := 35) (n := 1) (v := 1) rfl rfl ?_
        refine eb_isub (pc := 36) rfl ?_
        obtain ⟨c4, w⟩ := w
        refine eb_iaload (pc := 37) rfl rfl (by decide) c4 ?_
        refine eb_istore_n (pc := 38) (n := 3) (i := 3) (ls2 := [(3, .int (eb_I h s_reader_laws_waiting ((eb_I h s_reader_laws 4) - 1).toNatClampNeg)), (0, .ref s_reader_laws), (1, .int x1), (2, .int x2)]) rfl (Nat.le_of_ble_eq_true rfl) rfl rfl ?_
        refine eb_iload_n (pc := 39) (n := 3) (i := 3) rfl rfl rfl ?_
        refine eb_bipush (pc := 40) (n := 10) (v := 10) rfl rfl ?_
        refine eb_idiv (pc := 42) (by decide) rfl ?_
        refine eb_iload_n (pc := 43) (n := 1) (i := 1) rfl rfl rfl ?_
        refine eb_bipush (pc := 44) (n := 10) (v := 10) rfl rfl ?_
        refine eb_idiv (pc := 46) (by decide) rfl ?_
        refine eb_icmp_ge (pc := 47) (tgt := 51) rfl (by decide) (fun c5 => ?_) (fun c5 => ?_)
        · replace w := w.1 c5
          refine eb_aload_n (pc := 51) (n := 0) (i := 0) rfl rfl rfl ?_
          refine eb_dupr (pc := 52) rfl ?_
          refine eb_getI (pc := 53) rfl rfl (by decide) (by decide) rfl ?_
          refine eb_iconst (pc := 56) (n := 1) (v := 1) rfl rfl ?_
          refine eb_isub (pc := 57) rfl ?_
          refine eb_putI (pc := 58) rfl rfl (by decide) (by decide) rfl rfl ⟨rfl, rfl⟩ ?_
          refine eb_iload_n (pc := 61) (n := 3) (i := 3) rfl rfl rfl ?_
          refine eb_sipush (pc := 62) (n := 1040) (v := 1040) rfl rfl ?_
          refine eb_icmp_ne (pc := 65) (tgt := 78) rfl (by decide) (fun c6 => ?_) (fun c6 => ?_)
          · replace w := w.1 c6
            refine eb_aload_n (pc := 78) (n := 0) (i := 0) rfl rfl rfl ?_
            refine eb_iload_n (pc := 79) (n := 3) (i := 3) rfl rfl rfl ?_
            refine eb_ctV (pc := 80) (As := [.int (eb_I h s_reader_laws_waiting ((eb_I h s_reader_laws 4) - 1).toNatClampNeg)]) (rest := []) rfl (by decide) rfl rfl (by decide) rfl (Nat.le_of_ble_eq_true rfl) ?_
            refine eb_Ct.mono w ?_
            rintro r h7 ⟨rfl, ko9, w⟩
            change eb_Sn _ _ _ 83 _ [] _ _
            refine eb_iinc (pc := 83) (i := 2) (n := 1) (v := x2 + 1) (ls2 := [(2, .int (x2 + 1)), (3, .int (eb_I h s_reader_laws_waiting ((eb_I h s_reader_laws 4) - 1).toNatClampNeg)), (0, .ref s_reader_laws), (1, .int x1)]) (Nat.le_of_ble_eq_true rfl) rfl rfl rfl rfl ?_
            refine eb_goto (pc := 86) (tgt := 2) rfl (by decide) ?_
            exact eb_pick [2, 3, 0] rfl w
          · replace w := w.2 c6
            refine eb_aload_n (pc := 68) (n := 0) (i := 0) rfl rfl rfl ?_
            refine eb_dupr (pc := 69) rfl ?_
            refine eb_getI (pc := 70) rfl rfl (by decide) (by decide) rfl ?_
            refine eb_iconst (pc := 73) (n := 1) (v := 1) rfl rfl ?_
            refine eb_isub (pc := 74) rfl ?_
            refine eb_putI (pc := 75) rfl rfl (by decide) (by decide) rfl rfl ⟨rfl, rfl⟩ ?_
            refine eb_aload_n (pc := 78) (n := 0) (i := 0) rfl rfl rfl ?_
            refine eb_iload_n (pc := 79) (n := 3) (i := 3) rfl rfl rfl ?_
            refine eb_ctV (pc := 80) (As := [.int (eb_I h s_reader_laws_waiting ((eb_I h s_reader_laws 4) - 1).toNatClampNeg)]) (rest := []) rfl (by decide) rfl rfl (by decide) rfl (Nat.le_of_ble_eq_true rfl) ?_
            refine eb_Ct.mono w ?_
            rintro r h10 ⟨rfl, ko12, w⟩
            change eb_Sn _ _ _ 83 _ [] _ _
            refine eb_iinc (pc := 83) (i := 2) (n := 1) (v := x2 + 1) (ls2 := [(2, .int (x2 + 1)), (3, .int (eb_I h s_reader_laws_waiting ((eb_I h s_reader_laws 4) - 1).toNatClampNeg)), (0, .ref s_reader_laws), (1, .int x1)]) (Nat.le_of_ble_eq_true rfl) rfl rfl rfl rfl ?_
            refine eb_goto (pc := 86) (tgt := 2) rfl (by decide) ?_
            exact eb_pick [2, 3, 0] rfl w
        · replace w := w.2 c5
          exact eb_return (pc := 50) rfl rfl w
theorem T_X3_settle {d : Nat} {h : eb_H} {Q : Option Value → eb_H → Prop} (x1 : Int32)  (ko : eb_KO h) (w : eb_Sn (d + 1) m_X3_settle h 2 [(0, .ref s_reader_laws), (1, .int x1), (2, .int 0)] [] h Q) : eb_Ct (d + 1) 37 [.ref s_reader_laws, .int x1] h Q :=
  eb_bodyQ (by decide) ok_X3_settle (Nat.le_of_ble_eq_true rfl) (b_X3_settle_0 (h0 := h) x1  ko w)
theorem b_X3_close_0 {d : Nat} {h0 h : eb_H} {Q : Option Value → eb_H → Prop}   (ko : eb_KO h) (w : eb_Ct d 37 [.ref s_reader_laws, .int 1020] h (fun r h1 => r = none ∧ eb_KO h1 ∧ (((eb_I (eb_sI h1 s_reader_laws 5 ((eb_I h1 s_reader_laws 5) - 1)) s_reader_laws 4) ≤ 0 → Q none (eb_sI h1 s_reader_laws 5 ((eb_I h1 s_reader_laws 5) - 1))) ∧ (¬ ((eb_I (eb_sI h1 s_reader_laws 5 ((eb_I h1 s_reader_laws 5) - 1)) s_reader_laws 4) ≤ 0) → Q none (eb_sI (eb_sI h1 s_reader_laws 5 ((eb_I h1 s_reader_laws 5) - 1)) s_reader_laws 4 ((eb_I (eb_sI h1 s_reader_laws 5 ((eb_I h1 s_reader_laws 5) - 1)) s_reader_laws 4) - 1)))))) : eb_Sn (d + 1) m_X3_close h0 0 [(0, .ref s_reader_laws)] [] h Q := by
  refine eb_aload_n (pc := 0) (n := 0) (i := 0) rfl rfl rfl ?_
  refine eb_sipush (pc := 1) (n := 1020) (v := 1020) rfl rfl ?_
  refine eb_ctV (pc := 4) (As := [.int 1020]) (rest := []) rfl (by decide) rfl rfl (by decide) rfl (Nat.le_of_ble_eq_true rfl) ?_
  refine eb_Ct.mono w ?_
  rintro r h1 ⟨rfl, ko3, w⟩
  change eb_Sn _ _ _ 7 _ [] _ _
  refine eb_aload_n (pc := 7) (n := 0) (i := 0) rfl rfl rfl ?_
  refine eb_dupr (pc := 8) rfl ?_
  refine eb_getI (pc := 9) rfl rfl (by decide) (by decide) rfl ?_
  refine eb_iconst (pc := 12) (n := 1) (v := 1) rfl rfl ?_
  refine eb_isub (pc := 13) rfl ?_
  refine eb_putI (pc := 14) rfl rfl (by decide) (by decide) rfl rfl ⟨rfl, rfl⟩ ?_
  refine eb_aload_n (pc := 17) (n := 0) (i := 0) rfl rfl rfl ?_
  refine eb_getI (pc := 18) rfl rfl (by decide) (by decide) rfl ?_
  refine eb_if_le (pc := 21) (tgt := 34) rfl (by decide) (fun c4 => ?_) (fun c4 => ?_)
  · replace w := w.1 c4
    exact eb_return (pc := 34) rfl rfl w
  · replace w := w.2 c4
    refine eb_aload_n (pc := 24) (n := 0) (i := 0) rfl rfl rfl ?_
    refine eb_dupr (pc := 25) rfl ?_
    refine eb_getI (pc := 26) rfl rfl (by decide) (by decide) rfl ?_
    refine eb_iconst (pc := 29) (n := 1) (v := 1) rfl rfl ?_
    refine eb_isub (pc := 30) rfl ?_
    refine eb_putI (pc := 31) rfl rfl (by decide) (by decide) rfl rfl ⟨rfl, rfl⟩ ?_
    exact eb_return (pc := 34) rfl rfl w
theorem T_X3_close {d : Nat} {h : eb_H} {Q : Option Value → eb_H → Prop}   (ko : eb_KO h) (w : eb_Ct d 37 [.ref s_reader_laws, .int 1020] h (fun r h1 => r = none ∧ eb_KO h1 ∧ (((eb_I (eb_sI h1 s_reader_laws 5 ((eb_I h1 s_reader_laws 5) - 1)) s_reader_laws 4) ≤ 0 → Q none (eb_sI h1 s_reader_laws 5 ((eb_I h1 s_reader_laws 5) - 1))) ∧ (¬ ((eb_I (eb_sI h1 s_reader_laws 5 ((eb_I h1 s_reader_laws 5) - 1)) s_reader_laws 4) ≤ 0) → Q none (eb_sI (eb_sI h1 s_reader_laws 5 ((eb_I h1 s_reader_laws 5) - 1)) s_reader_laws 4 ((eb_I (eb_sI h1 s_reader_laws 5 ((eb_I h1 s_reader_laws 5) - 1)) s_reader_laws 4) - 1)))))) : eb_Ct (d + 1) 38 [.ref s_reader_laws] h Q :=
  eb_bodyQ (by decide) ok_X3_close (Nat.le_of_ble_eq_true rfl) (b_X3_close_0 (h0 := h)   ko w)
theorem b_X3_await_0 {d : Nat} {h0 h : eb_H} {Q : Option Value → eb_H → Prop} (x1 : Int32)  (ko : eb_KO h) (w : (((eb_I h s_reader_laws 4) < 0 → Q none h) ∧ (¬ ((eb_I h s_reader_laws 4) < 0) → (((eb_I h s_reader_laws 4) < (32 : Int32) → (vp_in (eb_I h s_reader_laws 4) 32) ∧ Q none (eb_sI (eb_sI h s_reader_laws_waiting (eb_I h s_reader_laws 4).toNatClampNeg x1) s_reader_laws 4 ((eb_I (eb_sI h s_reader_laws_waiting (eb_I h s_reader_laws 4).toNatClampNeg x1) s_reader_laws 4) + 1))) ∧ (¬ ((eb_I h s_reader_laws 4) < (32 : Int32)) → Q none h))))) : eb_Sn d m_X3_await h0 0 [(0, .ref s_reader_laws), (1, .int x1)] [] h Q := by
  refine eb_aload_n (pc := 0) (n := 0) (i := 0) rfl rfl rfl ?_
  refine eb_getI (pc := 1) rfl rfl (by decide) (by decide) rfl ?_
  refine eb_if_lt (pc := 4) (tgt := 19) rfl (by decide) (fun c1 => ?_) (fun c1 => ?_)
  · replace w := w.1 c1
    exact eb_return (pc := 19) rfl rfl w
  · replace w := w.2 c1
    refine eb_aload_n (pc := 7) (n := 0) (i := 0) rfl rfl rfl ?_
    refine eb_getI (pc := 8) rfl rfl (by decide) (by decide) rfl ?_
    refine eb_aload_n (pc := 11) (n := 0) (i := 0) rfl rfl rfl ?_
    refine eb_getR (pc := 12) rfl rfl (by decide) (by decide) rfl (ko_s_reader_laws_2 ko) ?_
    refine eb_alen (pc := 15) (v := 32) rfl (by decide) (by decide) rfl ?_
    refine eb_icmp_lt (pc := 16) (tgt := 20) rfl (by decide) (fun c2 => ?_) (fun c2 => ?_)
    · replace w := w.1 c2
      refine eb_aload_n (pc := 20) (n := 0) (i := 0) rfl rfl rfl ?_
      refine eb_getR (pc := 21) rfl rfl (by decide) (by decide) rfl (ko_s_reader_laws_2 ko) ?_
      refine eb_aload_n (pc := 24) (n := 0) (i := 0) rfl rfl rfl ?_
      refine eb_getI (pc := 25) rfl rfl (by decide) (by decide) rfl ?_
      refine eb_iload_n (pc := 28) (n := 1) (i := 1) rfl rfl rfl ?_
      obtain ⟨c3, w⟩ := w
      refine eb_iastore (pc := 29) rfl rfl (by decide) c3 ?_
      refine eb_aload_n (pc := 30) (n := 0) (i := 0) rfl rfl rfl ?_
      refine eb_dupr (pc := 31) rfl ?_
      refine eb_getI (pc := 32) rfl rfl (by decide) (by decide) rfl ?_
      refine eb_iconst (pc := 35) (n := 1) (v := 1) rfl rfl ?_
      refine eb_iadd (pc := 36) rfl ?_
      refine eb_putI (pc := 37) rfl rfl (by decide) (by decide) rfl rfl ⟨rfl, rfl⟩ ?_
      exact eb_return (pc := 40) rfl rfl w
    · replace w := w.2 c2
      exact eb_return (pc := 19) rfl rfl w
theorem T_X3_await {d : Nat} {h : eb_H} {Q : Option Value → eb_H → Prop} (x1 : Int32)  (ko : eb_KO h) (w : (((eb_I h s_reader_laws 4) < 0 → Q none h) ∧ (¬ ((eb_I h s_reader_laws 4) < 0) → (((eb_I h s_reader_laws 4) < (32 : Int32) → (vp_in (eb_I h s_reader_laws 4) 32) ∧ Q none (eb_sI (eb_sI h s_reader_laws_waiting (eb_I h s_reader_laws 4).toNatClampNeg x1) s_reader_laws 4 ((eb_I (eb_sI h s_reader_laws_waiting (eb_I h s_reader_laws 4).toNatClampNeg x1) s_reader_laws 4) + 1))) ∧ (¬ ((eb_I h s_reader_laws 4) < (32 : Int32)) → Q none h))))) : eb_Ct d 39 [.ref s_reader_laws, .int x1] h Q :=
  eb_bodyQ (by decide) ok_X3_await (Nat.le_of_ble_eq_true rfl) (b_X3_await_0 (h0 := h) x1  ko w)
theorem b_X3_emit_0 {d : Nat} {h0 h : eb_H} {Q : Option Value → eb_H → Prop} (x1 : Int32)  (ko : eb_KO h) (w : (((eb_I h s_reader_laws 3) < 0 → Q none h) ∧ (¬ ((eb_I h s_reader_laws 3) < 0) → (((eb_I h s_reader_laws 3) < (900 : Int32) → (vp_in (eb_I h s_reader_laws 3) 900) ∧ Q none (eb_sI (eb_sI h s_reader_laws_codes (eb_I h s_reader_laws 3).toNatClampNeg x1) s_reader_laws 3 ((eb_I (eb_sI h s_reader_laws_codes (eb_I h s_reader_laws 3).toNatClampNeg x1) s_reader_laws 3) + 1))) ∧ (¬ ((eb_I h s_reader_laws 3) < (900 : Int32)) → Q none h))))) : eb_Sn d m_X3_emit h0 0 [(0, .ref s_reader_laws), (1, .int x1)] [] h Q := by
  refine eb_aload_n (pc := 0) (n := 0) (i := 0) rfl rfl rfl ?_
  refine eb_getI (pc := 1) rfl rfl (by decide) (by decide) rfl ?_
  refine eb_if_lt (pc := 4) (tgt := 19) rfl (by decide) (fun c1 => ?_) (fun c1 => ?_)
  · replace w := w.1 c1
    exact eb_return (pc := 19) rfl rfl w
  · replace w := w.2 c1
    refine eb_aload_n (pc := 7) (n := 0) (i := 0) rfl rfl rfl ?_
    refine eb_getI (pc := 8) rfl rfl (by decide) (by decide) rfl ?_
    refine eb_aload_n (pc := 11) (n := 0) (i := 0) rfl rfl rfl ?_
    refine eb_getR (pc := 12) rfl rfl (by decide) (by decide) rfl (ko_s_reader_laws_1 ko) ?_
    refine eb_alen (pc := 15) (v := 900) rfl (by decide) (by decide) rfl ?_
    refine eb_icmp_lt (pc := 16) (tgt := 20) rfl (by decide) (fun c2 => ?_) (fun c2 => ?_)
    · replace w := w.1 c2
      refine eb_aload_n (pc := 20) (n := 0) (i := 0) rfl rfl rfl ?_
      refine eb_getR (pc := 21) rfl rfl (by decide) (by decide) rfl (ko_s_reader_laws_1 ko) ?_
      refine eb_aload_n (pc := 24) (n := 0) (i := 0) rfl rfl rfl ?_
      refine eb_getI (pc := 25) rfl rfl (by decide) (by decide) rfl ?_
      refine eb_iload_n (pc := 28) (n := 1) (i := 1) rfl rfl rfl ?_
      obtain ⟨c3, w⟩ := w
      refine eb_iastore (pc := 29) rfl rfl (by decide) c3 ?_
      refine eb_aload_n (pc := 30) (n := 0) (i := 0) rfl rfl rfl ?_
      refine eb_dupr (pc := 31) rfl ?_
      refine eb_getI (pc := 32) rfl rfl (by decide) (by decide) rfl ?_
      refine eb_iconst (pc := 35) (n := 1) (v := 1) rfl rfl ?_
      refine eb_iadd (pc := 36) rfl ?_
      refine eb_putI (pc := 37) rfl rfl (by decide) (by decide) rfl rfl ⟨rfl, rfl⟩ ?_
      exact eb_return (pc := 40) rfl rfl w
    · replace w := w.2 c2
      exact eb_return (pc := 19) rfl rfl w
theorem T_X3_emit {d : Nat} {h : eb_H} {Q : Option Value → eb_H → Prop} (x1 : Int32)  (ko : eb_KO h) (w : (((eb_I h s_reader_laws 3) < 0 → Q none h) ∧ (¬ ((eb_I h s_reader_laws 3) < 0) → (((eb_I h s_reader_laws 3) < (900 : Int32) → (vp_in (eb_I h s_reader_laws 3) 900) ∧ Q none (eb_sI (eb_sI h s_reader_laws_codes (eb_I h s_reader_laws 3).toNatClampNeg x1) s_reader_laws 3 ((eb_I (eb_sI h s_reader_laws_codes (eb_I h s_reader_laws 3).toNatClampNeg x1) s_reader_laws 3) + 1))) ∧ (¬ ((eb_I h s_reader_laws 3) < (900 : Int32)) → Q none h))))) : eb_Ct d 40 [.ref s_reader_laws, .int x1] h Q :=
  eb_bodyQ (by decide) ok_X3_emit (Nat.le_of_ble_eq_true rfl) (b_X3_emit_0 (h0 := h) x1  ko w)
theorem b_X4_init_0 {d : Nat} {h0 h : eb_H} {Q : Option Value → eb_H → Prop} (a0 : Nat) (ka0 : eb_kd a0 = 4) (w : ∀ r3, r3 = eb_nx h 16 10 → ∀ h1, h1 = eb_nw h 16 10 10 → ∀ h5, h5 = eb_sR h1 a0 0 (some r3) → ∀ h7, h7 = eb_sI h5 a0 1 0 → ∀ h9, h9 = eb_sI h7 a0 2 0 → eb_Sn (d + 1) m_X4_init h0 25 [(0, .ref a0), (1, .int 0)] [] h9 Q) : eb_Sn (d + 1) m_X4_init h0 0 [(0, .ref a0)] [] h Q := by
  refine eb_aload_n (pc := 0) (n := 0) (i := 0) rfl rfl rfl ?_
  refine eb_objInit (pc := 1) rfl (by decide +kernel) (by omega) (Nat.le_of_ble_eq_true rfl) ?_
  refine eb_aload_n (pc := 4) (n := 0) (i := 0) rfl rfl rfl ?_
  refine eb_bipush (pc := 5) (n := 10) (v := 10) rfl rfl ?_
  refine eb_newR (pc := 7) (kd := 16) (len := 10) rfl (by decide) (by decide) rfl (by decide) rfl (by decide) ?_
  obtain ⟨r3, e4⟩ : ∃ z, z = eb_nx h 16 10 := ⟨_, rfl⟩
  rw [← e4]
  replace w := w r3 e4
  obtain ⟨h1, e2⟩ : ∃ z, z = eb_nw h 16 10 10 := ⟨_, rfl⟩
  rw [← e2]
  replace w := w h1 e2
  refine eb_putR (pc := 10) rfl ka0 (by decide) (by decide) rfl (Or.inr ⟨rfl, rfl, rfl⟩) (eb_k20 (c := 16) (by rw [e4]; exact eb_mk_kd (by decide)) (by decide)) ?_
  obtain ⟨h5, e6⟩ : ∃ z, z = eb_sR h1 a0 0 (some r3) := ⟨_, rfl⟩
  rw [← e6]
  replace w := w h5 e6
  refine eb_aload_n (pc := 13) (n := 0) (i := 0) rfl rfl rfl ?_
  refine eb_iconst (pc := 14) (n := 0) (v := 0) rfl rfl ?_
  refine eb_putI (pc := 15) rfl ka0 (by decide) (by decide) rfl rfl ⟨rfl, rfl⟩ ?_
  obtain ⟨h7, e8⟩ : ∃ z, z = eb_sI h5 a0 1 0 := ⟨_, rfl⟩
  rw [← e8]
  replace w := w h7 e8
  refine eb_aload_n (pc := 18) (n := 0) (i := 0) rfl rfl rfl ?_
  refine eb_iconst (pc := 19) (n := 0) (v := 0) rfl rfl ?_
  refine eb_putI (pc := 20) rfl ka0 (by decide) (by decide) rfl rfl ⟨rfl, rfl⟩ ?_
  obtain ⟨h9, e10⟩ : ∃ z, z = eb_sI h7 a0 2 0 := ⟨_, rfl⟩
  rw [← e10]
  replace w := w h9 e10
  refine eb_iconst (pc := 23) (n := 0) (v := 0) rfl rfl ?_
  refine eb_istore_n (pc := 24) (n := 1) (i := 1) (ls2 := [(1, .int 0), (0, .ref a0)]) rfl (Nat.le_of_ble_eq_true rfl) rfl rfl ?_
  exact eb_pick [1, 0] rfl w
theorem b_X4_init_25 {d : Nat} {h0 h : eb_H} {Q : Option Value → eb_H → Prop} (a0 : Nat) (x1 : Int32) (ka0 : eb_kd a0 = 4) (w : (((10 : Int32) ≤ x1 → Q none h) ∧ (¬ ((10 : Int32) ≤ x1) → ∃ r2, eb_R h a0 0 = some r2 ∧ eb_kd r2 = 16 ∧ ∀ r7, r7 = eb_nx h 6 0 → ∀ h5, h5 = eb_nw h 6 0 (eb_nf 6) → eb_Ct d 59 [.ref r7] h5 (fun r h9 => r = none ∧ (vp_in x1 (eb_ln r2)) ∧ ∀ h13, h13 = eb_sR h9 r2 x1.toNatClampNeg (some r7) → eb_Sn (d + 1) m_X4_init h0 25 [(0, .ref a0), (1, .int (x1 + 1))] [] h13 Q)))) : eb_Sn (d + 1) m_X4_init h0 25 [(0, .ref a0), (1, .int x1)] [] h Q := by
  refine eb_iload_n (pc := 25) (n := 1) (i := 1) rfl rfl rfl ?_
  refine eb_bipush (pc := 26) (n := 10) (v := 10) rfl rfl ?_
  refine eb_icmp_ge (pc := 28) (tgt := 50) rfl (by decide) (fun c1 => ?_) (fun c1 => ?_)
  · replace w := w.1 c1
    exact eb_return (pc := 50) rfl rfl w
  · replace w := w.2 c1
    refine eb_aload_n (pc := 31) (n := 0) (i := 0) rfl rfl rfl ?_
    obtain ⟨r2, q3, k4, w⟩ := w
    refine eb_getR (pc := 32) rfl ka0 (by decide) (by decide) rfl q3 ?_
    refine eb_iload_n (pc := 35) (n := 1) (i := 1) rfl rfl rfl ?_
    refine eb_new (pc := 36) rfl (by decide) ?_
    obtain ⟨r7, e8⟩ : ∃ z, z = eb_nx h 6 0 := ⟨_, rfl⟩
    rw [← e8]
    replace w := w r7 e8
    obtain ⟨h5, e6⟩ : ∃ z, z = eb_nw h 6 0 (eb_nf 6) := ⟨_, rfl⟩
    rw [← e6]
    replace w := w h5 e6
    refine eb_dupr (pc := 39) rfl ?_
    refine eb_ctI (pc := 40) (As := []) (rest := [.ref r7, .int x1, .ref r2]) rfl (by decide) (by decide) rfl rfl rfl rfl (Nat.le_of_ble_eq_true rfl) ?_
    refine eb_Ct.mono w ?_
    rintro r h9 ⟨rfl, w⟩
    change eb_Sn _ _ _ 43 _ [.ref r7, .int x1, .ref r2] _ _
    obtain ⟨c12, w⟩ := w
    refine eb_aastore (pc := 43) rfl k4 (by decide) (by decide) c12 (by rw [e8]; exact eb_mk_kd (by decide)) ?_
    obtain ⟨h13, e14⟩ : ∃ z, z = eb_sR h9 r2 x1.toNatClampNeg (some r7) := ⟨_, rfl⟩
    rw [← e14]
    replace w := w h13 e14
    refine eb_iinc (pc := 44) (i := 1) (n := 1) (v := x1 + 1) (ls2 := [(1, .int (x1 + 1)), (0, .ref a0)]) (Nat.le_of_ble_eq_true rfl) rfl rfl rfl rfl ?_
    refine eb_goto (pc := 47) (tgt := 25) rfl (by decide) ?_
    exact eb_pick [1, 0] rfl w
theorem T_X4_init {d : Nat} {h : eb_H} {Q : Option Value → eb_H → Prop} (a0 : Nat) (ka0 : eb_kd a0 = 4) (w : ∀ r3, r3 = eb_nx h 16 10 → ∀ h1, h1 = eb_nw h 16 10 10 → ∀ h5, h5 = eb_sR h1 a0 0 (some r3) → ∀ h7, h7 = eb_sI h5 a0 1 0 → ∀ h9, h9 = eb_sI h7 a0 2 0 → eb_Sn (d + 1) m_X4_init h 25 [(0, .ref a0), (1, .int 0)] [] h9 Q) : eb_Ct (d + 1) 41 [.ref a0] h Q :=
  eb_bodyQ (by decide) ok_X4_init (Nat.le_of_ble_eq_true rfl) (b_X4_init_0 (h0 := h) a0 ka0 w)
theorem b_X4_remember_0 {d : Nat} {h0 h : eb_H} {Q : Option Value → eb_H → Prop} (a1 : Nat) (ka1 : eb_kd a1 = 6) (ko : eb_KO h) (w : (((eb_I h s_past 1) < 0 → Q none h) ∧ (¬ ((eb_I h s_past 1) < 0) → (((eb_I h s_past 1) < (10 : Int32) → (vp_in (eb_I h s_past 1) 10) ∧ ∃ r4, eb_R h s_past_states (eb_I h s_past 1).toNatClampNeg = some r4 ∧ (eb_kd r4 = 6) ∧ eb_Ct d 60 [.ref r4, .ref a1] h (fun r h7 => r = none ∧ eb_KO h7 ∧ Q none (eb_sI (eb_sI h7 s_past 1 (((eb_I h7 s_past 1) + 1) - ((eb_I h7 s_past 1) + 1) / 10 * 10)) s_past 2 (if (10 : Int32) < ((eb_I (eb_sI h7 s_past 1 (((eb_I h7 s_past 1) + 1) - ((eb_I h7 s_past 1) + 1) / 10 * 10)) s_past 2) + 1) then 10 else (eb_I (eb_sI h7 s_past 1 (((eb_I h7 s_past 1) + 1) - ((eb_I h7 s_past 1) + 1) / 10 * 10)) s_past 2) + 1 : Int32)))) ∧ (¬ ((eb_I h s_past 1) < (10 : Int32)) → Q none h))))) : eb_Sn (d + 1) m_X4_remember h0 0 [(0, .ref s_past), (1, .ref a1)] [] h Q := by
  refine eb_aload_n (pc := 0) (n := 0) (i := 0) rfl rfl rfl ?_
  refine eb_getI (pc := 1) rfl rfl (by decide) (by decide) rfl ?_
  refine eb_if_lt (pc := 4) (tgt := 16) rfl (by decide) (fun c1 => ?_) (fun c1 => ?_)
  · replace w := w.1 c1
    exact eb_return (pc := 16) rfl rfl w
  · replace w := w.2 c1
    refine eb_aload_n (pc := 7) (n := 0) (i := 0) rfl rfl rfl ?_
    refine eb_getI (pc := 8) rfl rfl (by decide) (by decide) rfl ?_
    refine eb_bipush (pc := 11) (n := 10) (v := 10) rfl rfl ?_
    refine eb_icmp_lt (pc := 13) (tgt := 17) rfl (by decide) (fun c2 => ?_) (fun c2 => ?_)
    · replace w := w.1 c2
      refine eb_aload_n (pc := 17) (n := 0) (i := 0) rfl rfl rfl ?_
      refine eb_getR (pc := 18) rfl rfl (by decide) (by decide) rfl (ko_s_past_0 ko) ?_
      refine eb_aload_n (pc := 21) (n := 0) (i := 0) rfl rfl rfl ?_
      refine eb_getI (pc := 22) rfl rfl (by decide) (by decide) rfl ?_
      obtain ⟨c3, w⟩ := w
      obtain ⟨r4, q5, w⟩ := w
      refine eb_aaloadR (pc := 25) rfl rfl (by decide) (by decide) c3 q5 ?_
      refine eb_aload_n (pc := 26) (n := 1) (i := 1) rfl rfl rfl ?_
      obtain ⟨k6, w⟩ := w
      refine eb_ctV (pc := 27) (As := [.ref a1]) (rest := []) rfl (by decide) rfl k6 (by decide) rfl (Nat.le_of_ble_eq_true rfl) ?_
      refine eb_Ct.mono w ?_
      rintro r h7 ⟨rfl, ko9, w⟩
      change eb_Sn _ _ _ 30 _ [] _ _
      refine eb_aload_n (pc := 30) (n := 0) (i := 0) rfl rfl rfl ?_
      refine eb_aload_n (pc := 31) (n := 0) (i := 0) rfl rfl rfl ?_
      refine eb_getI (pc := 32) rfl rfl (by decide) (by decide) rfl ?_
      refine eb_iconst (pc := 35) (n := 1) (v := 1) rfl rfl ?_
      refine eb_iadd (pc := 36) rfl ?_
      refine eb_bipush (pc := 37) (n := 10) (v := 10) rfl rfl ?_
      refine eb_irem (pc := 39) (by decide) rfl ?_
      refine eb_putI (pc := 40) rfl rfl (by decide) (by decide) rfl rfl ⟨rfl, rfl⟩ ?_
      refine eb_aload_n (pc := 43) (n := 0) (i := 0) rfl rfl rfl ?_
      refine eb_aload_n (pc := 44) (n := 0) (i := 0) rfl rfl rfl ?_
      refine eb_getI (pc := 45) rfl rfl (by decide) (by decide) rfl ?_
      refine eb_iconst (pc := 48) (n := 1) (v := 1) rfl rfl ?_
      refine eb_iadd (pc := 49) rfl ?_
      refine eb_bipush (pc := 50) (n := 10) (v := 10) rfl rfl ?_
      refine eb_ctS (pc := 52) (As := [.int ((eb_I (eb_sI h7 s_past 1 (((eb_I h7 s_past 1) + 1) - ((eb_I h7 s_past 1) + 1) / 10 * 10)) s_past 2) + 1), .int 10]) (rest := [.ref s_past]) rfl (by decide) (by decide) rfl rfl (Nat.le_of_ble_eq_true rfl) ?_
      refine eb_bodyQ (by decide) ok_J9_min_7cf53 (Nat.le_of_ble_eq_true rfl) ?_
      change eb_Sn _ m_J9_min_7cf53 _ 0 [(0, .int ((eb_I (eb_sI h7 s_past 1 (((eb_I h7 s_past 1) + 1) - ((eb_I h7 s_past 1) + 1) / 10 * 10)) s_past 2) + 1)), (1, .int 10)] [] _ _
      refine eb_iload_n (pc := 0) (n := 0) (i := 0) rfl rfl rfl ?_
      refine eb_iload_n (pc := 1) (n := 1) (i := 1) rfl rfl rfl ?_
      refine eb_joinI (pc2 := 10) (ls2 := [(0, .int ((eb_I (eb_sI h7 s_past 1 (((eb_I h7 s_past 1) + 1) - ((eb_I h7 s_past 1) + 1) / 10 * 10)) s_past 2) + 1)), (1, .int 10)]) (st2 := []) (v := (if (10 : Int32) < ((eb_I (eb_sI h7 s_past 1 (((eb_I h7 s_past 1) + 1) - ((eb_I h7 s_past 1) + 1) / 10 * 10)) s_past 2) + 1) then 10 else (eb_I (eb_sI h7 s_past 1 (((eb_I h7 s_past 1) + 1) - ((eb_I h7 s_past 1) + 1) / 10 * 10)) s_past 2) + 1 : Int32)) ?_ (fun jj11 => ?_)
      · refine eb_ireturn (pc := 10) rfl rfl rfl ?_
        change eb_Sn _ _ _ 55 _ [.int (if (10 : Int32) < ((eb_I (eb_sI h7 s_past 1 (((eb_I h7 s_past 1) + 1) - ((eb_I h7 s_past 1) + 1) / 10 * 10)) s_past 2) + 1) then 10 else (eb_I (eb_sI h7 s_past 1 (((eb_I h7 s_past 1) + 1) - ((eb_I h7 s_past 1) + 1) / 10 * 10)) s_past 2) + 1 : Int32), .ref s_past] _ _
        refine eb_putI (pc := 55) rfl rfl (by decide) (by decide) rfl rfl ⟨rfl, rfl⟩ ?_
        exact eb_return (pc := 58) rfl rfl w
      refine eb_icmp_gt (pc := 2) (tgt := 9) rfl (by decide) (fun c10 => ?_) (fun c10 => ?_)
      · refine eb_iload_n (pc := 9) (n := 1) (i := 1) rfl rfl rfl ?_
        exact jj11 _ (by simp only [if_pos c10])
      · refine eb_iload_n (pc := 5) (n := 0) (i := 0) rfl rfl rfl ?_
        refine eb_goto (pc := 6) (tgt := 10) rfl (by decide) ?_
        exact jj11 _ (by simp only [if_neg c10])
    · replace w := w.2 c2
      exact eb_return (pc := 16) rfl rfl w
theorem T_X4_remember {d : Nat} {h : eb_H} {Q : Option Value → eb_H → Prop} (a1 : Nat) (ka1 : eb_kd a1 = 6) (ko : eb_KO h) (w : (((eb_I h s_past 1) < 0 → Q none h) ∧ (¬ ((eb_I h s_past 1) < 0) → (((eb_I h s_past 1) < (10 : Int32) → (vp_in (eb_I h s_past 1) 10) ∧ ∃ r4, eb_R h s_past_states (eb_I h s_past 1).toNatClampNeg = some r4 ∧ (eb_kd r4 = 6) ∧ eb_Ct d 60 [.ref r4, .ref a1] h (fun r h7 => r = none ∧ eb_KO h7 ∧ Q none (eb_sI (eb_sI h7 s_past 1 (((eb_I h7 s_past 1) + 1) - ((eb_I h7 s_past 1) + 1) / 10 * 10)) s_past 2 (if (10 : Int32) < ((eb_I (eb_sI h7 s_past 1 (((eb_I h7 s_past 1) + 1) - ((eb_I h7 s_past 1) + 1) / 10 * 10)) s_past 2) + 1) then 10 else (eb_I (eb_sI h7 s_past 1 (((eb_I h7 s_past 1) + 1) - ((eb_I h7 s_past 1) + 1) / 10 * 10)) s_past 2) + 1 : Int32)))) ∧ (¬ ((eb_I h s_past 1) < (10 : Int32)) → Q none h))))) : eb_Ct (d + 1) 42 [.ref s_past, .ref a1] h Q :=
  eb_bodyQ (by decide) ok_X4_remember (Nat.le_of_ble_eq_true rfl) (b_X4_remember_0 (h0 := h) a1 ka1 ko w)
theorem b_X4_bringBack_0 {d : Nat} {h0 h : eb_H} {Q : Option Value → eb_H → Prop} (a1 : Nat) (x2 : Int32) (ka1 : eb_kd a1 = 6) (ko : eb_KO h) (w : eb_Ct d 285 [.int ((eb_I h s_past 1) - x2), .int 10] h (fun r h1 => ∃ y2, r = some (.int y2) ∧ eb_KO h1 ∧ (((eb_I (eb_sI (eb_sI h1 s_past 1 y2) s_past 2 (if ((eb_I (eb_sI h1 s_past 1 y2) s_past 2) - x2) < (0 : Int32) then 0 else (eb_I (eb_sI h1 s_past 1 y2) s_past 2) - x2 : Int32)) s_past 1) < 0 → Q none (eb_sI (eb_sI h1 s_past 1 y2) s_past 2 (if ((eb_I (eb_sI h1 s_past 1 y2) s_past 2) - x2) < (0 : Int32) then 0 else (eb_I (eb_sI h1 s_past 1 y2) s_past 2) - x2 : Int32))) ∧ (¬ ((eb_I (eb_sI (eb_sI h1 s_past 1 y2) s_past 2 (if ((eb_I (eb_sI h1 s_past 1 y2) s_past 2) - x2) < (0 : Int32) then 0 else (eb_I (eb_sI h1 s_past 1 y2) s_past 2) - x2 : Int32)) s_past 1) < 0) → (((10 : Int32) ≤ (eb_I (eb_sI (eb_sI h1 s_past 1 y2) s_past 2 (if ((eb_I (eb_sI h1 s_past 1 y2) s_past 2) - x2) < (0 : Int32) then 0 else (eb_I (eb_sI h1 s_past 1 y2) s_past 2) - x2 : Int32)) s_past 1) → Q none (eb_sI (eb_sI h1 s_past 1 y2) s_past 2 (if ((eb_I (eb_sI h1 s_past 1 y2) s_past 2) - x2) < (0 : Int32) then 0 else (eb_I (eb_sI h1 s_past 1 y2) s_past 2) - x2 : Int32))) ∧ (¬ ((10 : Int32) ≤ (eb_I (eb_sI (eb_sI h1 s_past 1 y2) s_past 2 (if ((eb_I (eb_sI h1 s_past 1 y2) s_past 2) - x2) < (0 : Int32) then 0 else (eb_I (eb_sI h1 s_past 1 y2) s_past 2) - x2 : Int32)) s_past 1)) → (vp_in (eb_I (eb_sI (eb_sI h1 s_past 1 y2) s_past 2 (if ((eb_I (eb_sI h1 s_past 1 y2) s_past 2) - x2) < (0 : Int32) then 0 else (eb_I (eb_sI h1 s_past 1 y2) s_past 2) - x2 : Int32)) s_past 1) 10) ∧ ∃ r10, eb_R (eb_sI (eb_sI h1 s_past 1 y2) s_past 2 (if ((eb_I (eb_sI h1 s_past 1 y2) s_past 2) - x2) < (0 : Int32) then 0 else (eb_I (eb_sI h1 s_past 1 y2) s_past 2) - x2 : Int32)) s_past_states (eb_I (eb_sI (eb_sI h1 s_past 1 y2) s_past 2 (if ((eb_I (eb_sI h1 s_past 1 y2) s_past 2) - x2) < (0 : Int32) then 0 else (eb_I (eb_sI h1 s_past 1 y2) s_past 2) - x2 : Int32)) s_past 1).toNatClampNeg = some r10 ∧ eb_Ct d 60 [.ref a1, .ref r10] (eb_sI (eb_sI h1 s_past 1 y2) s_past 2 (if ((eb_I (eb_sI h1 s_past 1 y2) s_past 2) - x2) < (0 : Int32) then 0 else (eb_I (eb_sI h1 s_past 1 y2) s_past 2) - x2 : Int32)) (fun r h12 => r = none ∧ eb_KO h12 ∧ Q none h12))))))) : eb_Sn (d + 1) m_X4_bringBack h0 0 [(0, .ref s_past), (1, .ref a1), (2, .int x2)] [] h Q := by
  refine eb_aload_n (pc := 0) (n := 0) (i := 0) rfl rfl rfl ?_
  refine eb_aload_n (pc := 1) (n := 0) (i := 0) rfl rfl rfl ?_
  refine eb_getI (pc := 2) rfl rfl (by decide) (by decide) rfl ?_
  refine eb_iload_n (pc := 5) (n := 2) (i := 2) rfl rfl rfl ?_
  refine eb_isub (pc := 6) rfl ?_
  refine eb_bipush (pc := 7) (n := 10) (v := 10) rfl rfl ?_
  refine eb_ctS (pc := 9) (As := [.int ((eb_I h s_past 1) - x2), .int 10]) (rest := [.ref s_past]) rfl (by decide) (by decide) rfl rfl (Nat.le_of_ble_eq_true rfl) ?_
  refine eb_Ct.mono w ?_
  rintro r h1 ⟨y2, rfl, ko3, w⟩
  change eb_Sn _ _ _ 12 _ [.int y2, .ref s_past] _ _
  refine eb_putI (pc := 12) rfl rfl (by decide) (by decide) rfl rfl ⟨rfl, rfl⟩ ?_
  refine eb_aload_n (pc := 15) (n := 0) (i := 0) rfl rfl rfl ?_
  refine eb_aload_n (pc := 16) (n := 0) (i := 0) rfl rfl rfl ?_
  refine eb_getI (pc := 17) rfl rfl (by decide) (by decide) rfl ?_
  refine eb_iload_n (pc := 20) (n := 2) (i := 2) rfl rfl rfl ?_
  refine eb_isub (pc := 21) rfl ?_
  refine eb_iconst (pc := 22) (n := 0) (v := 0) rfl rfl ?_
  refine eb_ctS (pc := 23) (As := [.int ((eb_I (eb_sI h1 s_past 1 y2) s_past 2) - x2), .int 0]) (rest := [.ref s_past]) rfl (by decide) (by decide) rfl rfl (Nat.le_of_ble_eq_true rfl) ?_
  refine eb_bodyQ (by decide) ok_J9_max_7cf53 (Nat.le_of_ble_eq_true rfl) ?_
  change eb_Sn _ m_J9_max_7cf53 _ 0 [(0, .int ((eb_I (eb_sI h1 s_past 1 y2) s_past 2) - x2)), (1, .int 0)] [] _ _
  refine eb_iload_n (pc := 0) (n := 0) (i := 0) rfl rfl rfl ?_
  refine eb_iload_n (pc := 1) (n := 1) (i := 1) rfl rfl rfl ?_
  refine eb_joinI (pc2 := 10) (ls2 := [(0, .int ((eb_I (eb_sI h1 s_past 1 y2) s_past 2) - x2)), (1, .int 0)]) (st2 := []) (v := (if ((eb_I (eb_sI h1 s_past 1 y2) s_past 2) - x2) < (0 : Int32) then 0 else (eb_I (eb_sI h1 s_past 1 y2) s_past 2) - x2 : Int32)) ?_ (fun jj5 => ?_)
  · refine eb_ireturn (pc := 10) rfl rfl rfl ?_
    change eb_Sn _ _ _ 26 _ [.int (if ((eb_I (eb_sI h1 s_past 1 y2) s_past 2) - x2) < (0 : Int32) then 0 else (eb_I (eb_sI h1 s_past 1 y2) s_past 2) - x2 : Int32), .ref s_past] _ _
    refine eb_putI (pc := 26) rfl rfl (by decide) (by decide) rfl rfl ⟨rfl, rfl⟩ ?_
    refine eb_aload_n (pc := 29) (n := 0) (i := 0) rfl rfl rfl ?_
    refine eb_getI (pc := 30) rfl rfl (by decide) (by decide) rfl ?_
    refine eb_if_lt (pc := 33) (tgt := 58) rfl (by decide) (fun c7 => ?_) (fun c7 => ?_)
    · replace w := w.1 c7
      exact eb_return (pc := 58) rfl rfl w
    · replace w := w.2 c7
      refine eb_aload_n (pc := 36) (n := 0) (i := 0) rfl rfl rfl ?_
      refine eb_getI (pc := 37) rfl rfl (by decide) (by decide) rfl ?_
      refine eb_bipush (pc := 40) (n := 10) (v := 10) rfl rfl ?_
      refine eb_icmp_ge (pc := 42) (tgt := 58) rfl (by decide) (fun c8 => ?_) (fun c8 => ?_)
      · replace w := w.1 c8
        exact eb_return (pc := 58) rfl rfl w
      · replace w := w.2 c8
        refine eb_aload_n (pc := 45) (n := 1) (i := 1) rfl rfl rfl ?_
        refine eb_aload_n (pc := 46) (n := 0) (i := 0) rfl rfl rfl ?_
        refine eb_getR (pc := 47) rfl rfl (by decide) (by decide) rfl (ko_s_past_0 ko3) ?_
        refine eb_aload_n (pc := 50) (n := 0) (i := 0) rfl rfl rfl ?_
        refine eb_getI (pc := 51) rfl rfl (by decide) (by decide) rfl ?_
        obtain ⟨c9, w⟩ := w
        obtain ⟨r10, q11, w⟩ := w
        refine eb_aaloadR (pc := 54) rfl rfl (by decide) (by decide) c9 q11 ?_
        refine eb_ctV (pc := 55) (As := [.ref r10]) (rest := []) rfl (by decide) rfl ka1 (by decide) rfl (Nat.le_of_ble_eq_true rfl) ?_
        refine eb_Ct.mono w ?_
        rintro r h12 ⟨rfl, ko14, w⟩
        change eb_Sn _ _ _ 58 _ [] _ _
        exact eb_return (pc := 58) rfl rfl w
  refine eb_icmp_lt (pc := 2) (tgt := 9) rfl (by decide) (fun c4 => ?_) (fun c4 => ?_)
  · refine eb_iload_n (pc := 9) (n := 1) (i := 1) rfl rfl rfl ?_
    exact jj5 _ (by simp only [if_pos c4])
  · refine eb_iload_n (pc := 5) (n := 0) (i := 0) rfl rfl rfl ?_
    refine eb_goto (pc := 6) (tgt := 10) rfl (by decide) ?_
    exact jj5 _ (by simp only [if_neg c4])
theorem T_X4_bringBack {d : Nat} {h : eb_H} {Q : Option Value → eb_H → Prop} (a1 : Nat) (x2 : Int32) (ka1 : eb_kd a1 = 6) (ko : eb_KO h) (w : eb_Ct d 285 [.int ((eb_I h s_past 1) - x2), .int 10] h (fun r h1 => ∃ y2, r = some (.int y2) ∧ eb_KO h1 ∧ (((eb_I (eb_sI (eb_sI h1 s_past 1 y2) s_past 2 (if ((eb_I (eb_sI h1 s_past 1 y2) s_past 2) - x2) < (0 : Int32) then 0 else (eb_I (eb_sI h1 s_past 1 y2) s_past 2) - x2 : Int32)) s_past 1) < 0 → Q none (eb_sI (eb_sI h1 s_past 1 y2) s_past 2 (if ((eb_I (eb_sI h1 s_past 1 y2) s_past 2) - x2) < (0 : Int32) then 0 else (eb_I (eb_sI h1 s_past 1 y2) s_past 2) - x2 : Int32))) ∧ (¬ ((eb_I (eb_sI (eb_sI h1 s_past 1 y2) s_past 2 (if ((eb_I (eb_sI h1 s_past 1 y2) s_past 2) - x2) < (0 : Int32) then 0 else (eb_I (eb_sI h1 s_past 1 y2) s_past 2) - x2 : Int32)) s_past 1) < 0) → (((10 : Int32) ≤ (eb_I (eb_sI (eb_sI h1 s_past 1 y2) s_past 2 (if ((eb_I (eb_sI h1 s_past 1 y2) s_past 2) - x2) < (0 : Int32) then 0 else (eb_I (eb_sI h1 s_past 1 y2) s_past 2) - x2 : Int32)) s_past 1) → Q none (eb_sI (eb_sI h1 s_past 1 y2) s_past 2 (if ((eb_I (eb_sI h1 s_past 1 y2) s_past 2) - x2) < (0 : Int32) then 0 else (eb_I (eb_sI h1 s_past 1 y2) s_past 2) - x2 : Int32))) ∧ (¬ ((10 : Int32) ≤ (eb_I (eb_sI (eb_sI h1 s_past 1 y2) s_past 2 (if ((eb_I (eb_sI h1 s_past 1 y2) s_past 2) - x2) < (0 : Int32) then 0 else (eb_I (eb_sI h1 s_past 1 y2) s_past 2) - x2 : Int32)) s_past 1)) → (vp_in (eb_I (eb_sI (eb_sI h1 s_past 1 y2) s_past 2 (if ((eb_I (eb_sI h1 s_past 1 y2) s_past 2) - x2) < (0 : Int32) then 0 else (eb_I (eb_sI h1 s_past 1 y2) s_past 2) - x2 : Int32)) s_past 1) 10) ∧ ∃ r10, eb_R (eb_sI (eb_sI h1 s_past 1 y2) s_past 2 (if ((eb_I (eb_sI h1 s_past 1 y2) s_past 2) - x2) < (0 : Int32) then 0 else (eb_I (eb_sI h1 s_past 1 y2) s_past 2) - x2 : Int32)) s_past_states (eb_I (eb_sI (eb_sI h1 s_past 1 y2) s_past 2 (if ((eb_I (eb_sI h1 s_past 1 y2) s_past 2) - x2) < (0 : Int32) then 0 else (eb_I (eb_sI h1 s_past 1 y2) s_past 2) - x2 : Int32)) s_past 1).toNatClampNeg = some r10 ∧ eb_Ct d 60 [.ref a1, .ref r10] (eb_sI (eb_sI h1 s_past 1 y2) s_past 2 (if ((eb_I (eb_sI h1 s_past 1 y2) s_past 2) - x2) < (0 : Int32) then 0 else (eb_I (eb_sI h1 s_past 1 y2) s_past 2) - x2 : Int32)) (fun r h12 => r = none ∧ eb_KO h12 ∧ Q none h12))))))) : eb_Ct (d + 1) 43 [.ref s_past, .ref a1, .int x2] h Q :=
  eb_bodyQ (by decide) ok_X4_bringBack (Nat.le_of_ble_eq_true rfl) (b_X4_bringBack_0 (h0 := h) a1 x2 ka1 ko w)
theorem b_X4_forget_0 {d : Nat} {h0 h : eb_H} {Q : Option Value → eb_H → Prop}   (ko : eb_KO h) (w : Q none (eb_sI h s_past 2 0)) : eb_Sn d m_X4_forget h0 0 [(0, .ref s_past)] [] h Q := by
  refine eb_aload_n (pc := 0) (n := 0) (i := 0) rfl rfl rfl ?_
  refine eb_iconst (pc := 1) (n := 0) (v := 0) rfl rfl ?_
  refine eb_putI (pc := 2) rfl rfl (by decide) (by decide) rfl rfl ⟨rfl, rfl⟩ ?_
  exact eb_return (pc := 5) rfl rfl w
theorem T_X4_forget {d : Nat} {h : eb_H} {Q : Option Value → eb_H → Prop}   (ko : eb_KO h) (w : Q none (eb_sI h s_past 2 0)) : eb_Ct d 44 [.ref s_past] h Q :=
  eb_bodyQ (by decide) ok_X4_forget (Nat.le_of_ble_eq_true rfl) (b_X4_forget_0 (h0 := h)   ko w)
theorem b_X5_init_0 {d : Nat} {h0 h : eb_H} {Q : Option Value → eb_H → Prop} (a0 : Nat) (ka0 : eb_kd a0 = 5) (w : ∀ r3, r3 = eb_nx h 3 0 → ∀ h1, h1 = eb_nw h 3 0 (eb_nf 3) → eb_Ct d 27 [.ref r3] h1 (fun r h5 => r = none ∧ ∀ h8, h8 = eb_sR h5 a0 0 (some r3) → ∃ r10, eb_R h8 a0 0 = some r10 ∧ eb_kd r10 = 3 ∧ ∃ r13, eb_R h8 r10 0 = some r13 ∧ eb_kd r13 = 7 ∧ ∀ h16, h16 = eb_sR h8 a0 1 (some r13) → ∀ r20, r20 = eb_nx h16 9 0 → ∀ h18, h18 = eb_nw h16 9 0 (eb_nf 9) → eb_Ct d 79 [.ref r20] h18 (fun r h22 => r = none ∧ ∀ h25, h25 = eb_sR h22 a0 2 (some r20) → ∀ r29, r29 = eb_nx h25 6 0 → ∀ h27, h27 = eb_nw h25 6 0 (eb_nf 6) → eb_Ct d 59 [.ref r29] h27 (fun r h31 => r = none ∧ ∀ h34, h34 = eb_sR h31 a0 3 (some r29) → Q none h34)))) : eb_Sn (d + 1) m_X5_init h0 0 [(0, .ref a0)] [] h Q := by
  refine eb_aload_n (pc := 0) (n := 0) (i := 0) rfl rfl rfl ?_
  refine eb_objInit (pc := 1) rfl (by decide +kernel) (by omega) (Nat.le_of_ble_eq_true rfl) ?_
  refine eb_aload_n (pc := 4) (n := 0) (i := 0) rfl rfl rfl ?_
  refine eb_new (pc := 5) rfl (by decide) ?_
  obtain ⟨r3, e4⟩ : ∃ z, z = eb_nx h 3 0 := ⟨_, rfl⟩
  rw [← e4]
  replace w := w r3 e4
  obtain ⟨h1, e2⟩ : ∃ z, z = eb_nw h 3 0 (eb_nf 3) := ⟨_, rfl⟩
  rw [← e2]
  replace w := w h1 e2
  refine eb_dupr (pc := 8) rfl ?_
  refine eb_ctI (pc := 9) (As := []) (rest := [.ref r3, .ref a0]) rfl (by decide) (by decide) rfl rfl rfl rfl (Nat.le_of_ble_eq_true rfl) ?_
  refine eb_Ct.mono w ?_
  rintro r h5 ⟨rfl, w⟩
  change eb_Sn _ _ _ 12 _ [.ref r3, .ref a0] _ _
  refine eb_putR (pc := 12) rfl ka0 (by decide) (by decide) rfl (Or.inr ⟨rfl, rfl, rfl⟩) (eb_k20 (c := 3) (by rw [e4]; exact eb_mk_kd (by decide)) (by decide)) ?_
  obtain ⟨h8, e9⟩ : ∃ z, z = eb_sR h5 a0 0 (some r3) := ⟨_, rfl⟩
  rw [← e9]
  replace w := w h8 e9
  refine eb_aload_n (pc := 15) (n := 0) (i := 0) rfl rfl rfl ?_
  refine eb_aload_n (pc := 16) (n := 0) (i := 0) rfl rfl rfl ?_
  obtain ⟨r10, q11, k12, w⟩ := w
  refine eb_getR (pc := 17) rfl ka0 (by decide) (by decide) rfl q11 ?_
  obtain ⟨r13, q14, k15, w⟩ := w
  refine eb_getR (pc := 20) rfl k12 (by decide) (by decide) rfl q14 ?_
  refine eb_putR (pc := 23) rfl ka0 (by decide) (by decide) rfl (Or.inr ⟨rfl, rfl, rfl⟩) (eb_k20 (c := 7) k15 (by decide)) ?_
  obtain ⟨h16, e17⟩ : ∃ z, z = eb_sR h8 a0 1 (some r13) := ⟨_, rfl⟩
  rw [← e17]
  replace w := w h16 e17
  refine eb_aload_n (pc := 26) (n := 0) (i := 0) rfl rfl rfl ?_
  refine eb_new (pc := 27) rfl (by decide) ?_
  obtain ⟨r20, e21⟩ : ∃ z, z = eb_nx h16 9 0 := ⟨_, rfl⟩
  rw [← e21]
  replace w := w r20 e21
  obtain ⟨h18, e19⟩ : ∃ z, z = eb_nw h16 9 0 (eb_nf 9) := ⟨_, rfl⟩
  rw [← e19]
  replace w := w h18 e19
  refine eb_dupr (pc := 30) rfl ?_
  refine eb_ctI (pc := 31) (As := []) (rest := [.ref r20, .ref a0]) rfl (by decide) (by decide) rfl rfl rfl rfl (Nat.le_of_ble_eq_true rfl) ?_
  refine eb_Ct.mono w ?_
  rintro r h22 ⟨rfl, w⟩
  change eb_Sn _ _ _ 34 _ [.ref r20, .ref a0] _ _
  refine eb_putR (pc := 34) rfl ka0 (by decide) (by decide) rfl (Or.inl rfl) (eb_k20 (c := 9) (by rw [e21]; exact eb_mk_kd (by decide)) (by decide)) ?_
  obtain ⟨h25, e26⟩ : ∃ z, z = eb_sR h22 a0 2 (some r20) := ⟨_, rfl⟩
  rw [← e26]
  replace w := w h25 e26
  refine eb_aload_n (pc := 37) (n := 0) (i := 0) rfl rfl rfl ?_
  refine eb_new (pc := 38) rfl (by decide) ?_
  obtain ⟨r29, e30⟩ : ∃ z, z = eb_nx h25 6 0 := ⟨_, rfl⟩
  rw [← e30]
  replace w := w r29 e30
  obtain ⟨h27, e28⟩ : ∃ z, z = eb_nw h25 6 0 (eb_nf 6) := ⟨_, rfl⟩
  rw [← e28]
  replace w := w h27 e28
  refine eb_dupr (pc := 41) rfl ?_
  refine eb_ctI (pc := 42) (As := []) (rest := [.ref r29, .ref a0]) rfl (by decide) (by decide) rfl rfl rfl rfl (Nat.le_of_ble_eq_true rfl) ?_
  refine eb_Ct.mono w ?_
  rintro r h31 ⟨rfl, w⟩
  change eb_Sn _ _ _ 45 _ [.ref r29, .ref a0] _ _
  refine eb_putR (pc := 45) rfl ka0 (by decide) (by decide) rfl (Or.inr ⟨rfl, rfl, rfl⟩) (eb_k20 (c := 6) (by rw [e30]; exact eb_mk_kd (by decide)) (by decide)) ?_
  obtain ⟨h34, e35⟩ : ∃ z, z = eb_sR h31 a0 3 (some r29) := ⟨_, rfl⟩
  rw [← e35]
  replace w := w h34 e35
  exact eb_return (pc := 48) rfl rfl w
theorem T_X5_init {d : Nat} {h : eb_H} {Q : Option Value → eb_H → Prop} (a0 : Nat) (ka0 : eb_kd a0 = 5) (w : ∀ r3, r3 = eb_nx h 3 0 → ∀ h1, h1 = eb_nw h 3 0 (eb_nf 3) → eb_Ct d 27 [.ref r3] h1 (fun r h5 => r = none ∧ ∀ h8, h8 = eb_sR h5 a0 0 (some r3) → ∃ r10, eb_R h8 a0 0 = some r10 ∧ eb_kd r10 = 3 ∧ ∃ r13, eb_R h8 r10 0 = some r13 ∧ eb_kd r13 = 7 ∧ ∀ h16, h16 = eb_sR h8 a0 1 (some r13) → ∀ r20, r20 = eb_nx h16 9 0 → ∀ h18, h18 = eb_nw h16 9 0 (eb_nf 9) → eb_Ct d 79 [.ref r20] h18 (fun r h22 => r = none ∧ ∀ h25, h25 = eb_sR h22 a0 2 (some r20) → ∀ r29, r29 = eb_nx h25 6 0 → ∀ h27, h27 = eb_nw h25 6 0 (eb_nf 6) → eb_Ct d 59 [.ref r29] h27 (fun r h31 => r = none ∧ ∀ h34, h34 = eb_sR h31 a0 3 (some r29) → Q none h34)))) : eb_Ct (d + 1) 45 [.ref a0] h Q :=
  eb_bodyQ (by decide) ok_X5_init (Nat.le_of_ble_eq_true rfl) (b_X5_init_0 (h0 := h) a0 ka0 w)
theorem b_X5_readText_0 {d : Nat} {h0 h : eb_H} {Q : Option Value → eb_H → Prop} (x1 : Int32)  (ko : eb_KO h) (w : (89 ≤ eb_n h) ∧ eb_Ct d 79 [.ref (eb_nx h 9 0)] (eb_nw h 9 0 (eb_nf 9)) (fun r h2 => r = none ∧ eb_KO h2 ∧ eb_Ct d 61 [.ref s_reader_start] (eb_sR h2 s_reader 2 (some (eb_nx h 9 0))) (fun r h5 => r = none ∧ eb_KO h5 ∧ eb_Ct d 67 [.ref s_tape, .int x1] h5 (fun r h8 => r = none ∧ eb_KO h8 ∧ eb_Ct d 47 [.ref s_reader] h8 (fun r h11 => r = none ∧ eb_KO h11 ∧ eb_Sn (d + 1) m_X5_readText h0 32 [(0, .ref s_reader), (1, .int x1), (2, .int 0)] [] h11 Q))))) : eb_Sn (d + 1) m_X5_readText h0 0 [(0, .ref s_reader), (1, .int x1)] [] h Q := by
  refine eb_aload_n (pc := 0) (n := 0) (i := 0) rfl rfl rfl ?_
  obtain ⟨c1, w⟩ := w
  refine eb_new (pc := 1) rfl (by decide) ?_
  refine eb_dupr (pc := 4) rfl ?_
  refine eb_ctI (pc := 5) (As := []) (rest := [.ref (eb_nx h 9 0), .ref s_reader]) rfl (by decide) (by decide) rfl rfl rfl rfl (Nat.le_of_ble_eq_true rfl) ?_
  refine eb_Ct.mono w ?_
  rintro r h2 ⟨rfl, ko4, w⟩
  change eb_Sn _ _ _ 8 _ [.ref (eb_nx h 9 0), .ref s_reader] _ _
  refine eb_putR (pc := 8) rfl rfl (by decide) (by decide) rfl (Or.inl rfl) (eb_k20 (c := 9) (eb_mk_kd (by decide)) (by decide)) ?_
  refine eb_aload_n (pc := 11) (n := 0) (i := 0) rfl rfl rfl ?_
  refine eb_getR (pc := 12) rfl rfl (by decide) (by decide) rfl (ko_s_reader_3 (ko_sR (by decide +kernel) ko4)) ?_
  refine eb_ctV (pc := 15) (As := []) (rest := []) rfl (by decide) rfl rfl (by decide) rfl (Nat.le_of_ble_eq_true rfl) ?_
  refine eb_Ct.mono w ?_
  rintro r h5 ⟨rfl, ko7, w⟩
  change eb_Sn _ _ _ 18 _ [] _ _
  refine eb_aload_n (pc := 18) (n := 0) (i := 0) rfl rfl rfl ?_
  refine eb_getR (pc := 19) rfl rfl (by decide) (by decide) rfl (ko_s_reader_1 ko7) ?_
  refine eb_iload_n (pc := 22) (n := 1) (i := 1) rfl rfl rfl ?_
  refine eb_ctV (pc := 23) (As := [.int x1]) (rest := []) rfl (by decide) rfl rfl (by decide) rfl (Nat.le_of_ble_eq_true rfl) ?_
  refine eb_Ct.mono w ?_
  rintro r h8 ⟨rfl, ko10, w⟩
  change eb_Sn _ _ _ 26 _ [] _ _
  refine eb_aload_n (pc := 26) (n := 0) (i := 0) rfl rfl rfl ?_
  refine eb_ctV (pc := 27) (As := []) (rest := []) rfl (by decide) rfl rfl (by decide) rfl (Nat.le_of_ble_eq_true rfl) ?_
  refine eb_Ct.mono w ?_
  rintro r h11 ⟨rfl, ko13, w⟩
  change eb_Sn _ _ _ 30 _ [] _ _
  refine eb_iconst (pc := 30) (n := 0) (v := 0) rfl rfl ?_
  refine eb_istore_n (pc := 31) (n := 2) (i := 2) (ls2 := [(2, .int 0), (0, .ref s_reader), (1, .int x1)]) rfl (Nat.le_of_ble_eq_true rfl) rfl rfl ?_
  exact eb_pick [1, 2, 0] rfl w
theorem b_X5_readText_32 {d : Nat} {h0 h : eb_H} {Q : Option Value → eb_H → Prop} (x1 : Int32) (x2 : Int32)  (ko : eb_KO h) (w : ((x1 ≤ x2 → Q none h) ∧ (¬ (x1 ≤ x2) → ((¬ (eb_I h s_tape 7) = 0 → Q none h) ∧ ((eb_I h s_tape 7) = 0 → (((eb_I h s_tape 5) = 0 → Q none h) ∧ (¬ ((eb_I h s_tape 5) = 0) → eb_Ct d 48 [.ref s_reader] h (fun r h4 => r = none ∧ eb_KO h4 ∧ eb_Sn (d + 1) m_X5_readText h0 32 [(0, .ref s_reader), (1, .int x1), (2, .int (x2 + 1))] [] h4 Q)))))))) : eb_Sn (d + 1) m_X5_readText h0 32 [(0, .ref s_reader), (1, .int x1), (2, .int x2)] [] h Q := by
  refine eb_iload_n (pc := 32) (n := 2) (i := 2) rfl rfl rfl ?_
  refine eb_iload_n (pc := 33) (n := 1) (i := 1) rfl rfl rfl ?_
  refine eb_icmp_ge (pc := 34) (tgt := 67) rfl (by decide) (fun c1 => ?_) (fun c1 => ?_)
  · replace w := w.1 c1
    exact eb_return (pc := 67) rfl rfl w
  · replace w := w.2 c1
    refine eb_aload_n (pc := 37) (n := 0) (i := 0) rfl rfl rfl ?_
    refine eb_getR (pc := 38) rfl rfl (by decide) (by decide) rfl (ko_s_reader_1 ko) ?_
    refine eb_getI (pc := 41) rfl rfl (by decide) (by decide) rfl ?_
    refine eb_if_ne (pc := 44) (tgt := 67) rfl (by decide) (fun c2 => ?_) (fun c2 => ?_)
    · replace w := w.1 c2
      exact eb_return (pc := 67) rfl rfl w
    · replace w := w.2 c2
      refine eb_aload_n (pc := 47) (n := 0) (i := 0) rfl rfl rfl ?_
      refine eb_getR (pc := 48) rfl rfl (by decide) (by decide) rfl (ko_s_reader_1 ko) ?_
      refine eb_getI (pc := 51) rfl rfl (by decide) (by decide) rfl ?_
      refine eb_if_eq (pc := 54) (tgt := 67) rfl (by decide) (fun c3 => ?_) (fun c3 => ?_)
      · replace w := w.1 c3
        exact eb_return (pc := 67) rfl rfl w
      · replace w := w.2 c3
        refine eb_aload_n (pc := 57) (n := 0) (i := 0) rfl rfl rfl ?_
        refine eb_ctV (pc := 58) (As := []) (rest := []) rfl (by decide) rfl rfl (by decide) rfl (Nat.le_of_ble_eq_true rfl) ?_
        refine eb_Ct.mono w ?_
        rintro r h4 ⟨rfl, ko6, w⟩
        change eb_Sn _ _ _ 61 _ [] _ _
        refine eb_iinc (pc := 61) (i := 2) (n := 1) (v := x2 + 1) (ls2 := [(2, .int (x2 + 1)), (0, .ref s_reader), (1, .int x1)]) (Nat.le_of_ble_eq_true rfl) rfl rfl rfl rfl ?_
        refine eb_goto (pc := 64) (tgt := 32) rfl (by decide) ?_
        exact eb_pick [1, 2, 0] rfl w
theorem T_X5_readText {d : Nat} {h : eb_H} {Q : Option Value → eb_H → Prop} (x1 : Int32)  (ko : eb_KO h) (w : (89 ≤ eb_n h) ∧ eb_Ct d 79 [.ref (eb_nx h 9 0)] (eb_nw h 9 0 (eb_nf 9)) (fun r h2 => r = none ∧ eb_KO h2 ∧ eb_Ct d 61 [.ref s_reader_start] (eb_sR h2 s_reader 2 (some (eb_nx h 9 0))) (fun r h5 => r = none ∧ eb_KO h5 ∧ eb_Ct d 67 [.ref s_tape, .int x1] h5 (fun r h8 => r = none ∧ eb_KO h8 ∧ eb_Ct d 47 [.ref s_reader] h8 (fun r h11 => r = none ∧ eb_KO h11 ∧ eb_Sn (d + 1) m_X5_readText h 32 [(0, .ref s_reader), (1, .int x1), (2, .int 0)] [] h11 Q))))) : eb_Ct (d + 1) 46 [.ref s_reader, .int x1] h Q :=
  eb_bodyQ (by decide) ok_X5_readText (Nat.le_of_ble_eq_true rfl) (b_X5_readText_0 (h0 := h) x1  ko w)
theorem b_X5_readOpening_0 {d : Nat} {h0 h : eb_H} {Q : Option Value → eb_H → Prop}   (ko : eb_KO h) (w : eb_Ct d 49 [.ref s_reader, .ref (eb_mk 19 21 0)] h (fun r h1 => r = none ∧ eb_KO h1 ∧ ∃ r4, eb_R h1 s_reader 2 = some r4 ∧ eb_kd r4 = 9 ∧ eb_Ct d 51 [.ref s_reader, .int 1, .int 4] h1 (fun r h7 => ∃ y8, r = some (.int y8) ∧ eb_KO h7 ∧ ∃ r10, eb_R (eb_sI h7 r4 0 y8) s_reader 2 = some r10 ∧ eb_kd r10 = 9 ∧ eb_Ct d 51 [.ref s_reader, .int 1, .int 4] (eb_sI h7 r4 0 y8) (fun r h13 => ∃ y14, r = some (.int y14) ∧ eb_KO h13 ∧ eb_Ct d 49 [.ref s_reader, .ref (eb_mk 6 21 0)] (eb_sI h13 r10 1 y14) (fun r h16 => r = none ∧ eb_KO h16 ∧ ∃ r19, eb_R h16 s_reader 2 = some r19 ∧ eb_kd r19 = 9 ∧ eb_Ct d 51 [.ref s_reader, .int 1, .int 6] h16 (fun r h22 => ∃ y23, r = some (.int y23) ∧ eb_KO h22 ∧ eb_Ct d 50 [.ref s_reader] (eb_sI h22 r19 2 y23) (fun r h25 => r = none ∧ eb_KO h25 ∧ Q none h25))))))) : eb_Sn (d + 1) m_X5_readOpening h0 0 [(0, .ref s_reader)] [] h Q := by
  refine eb_aload_n (pc := 0) (n := 0) (i := 0) rfl rfl rfl ?_
  refine eb_ldcS (pc := 1) (a := 19) (i := eb_mk 19 21 0) rfl rfl rfl ?_
  refine eb_ctV (pc := 3) (As := [.ref (eb_mk 19 21 0)]) (rest := []) rfl (by decide) rfl rfl (by decide) rfl (Nat.le_of_ble_eq_true rfl) ?_
  refine eb_Ct.mono w ?_
  rintro r h1 ⟨rfl, ko3, w⟩
  change eb_Sn _ _ _ 6 _ [] _ _
  refine eb_aload_n (pc := 6) (n := 0) (i := 0) rfl rfl rfl ?_
  obtain ⟨r4, q5, k6, w⟩ := w
  refine eb_getR (pc := 7) rfl rfl (by decide) (by decide) rfl q5 ?_
  refine eb_aload_n (pc := 10) (n := 0) (i := 0) rfl rfl rfl ?_
  refine eb_iconst (pc := 11) (n := 1) (v := 1) rfl rfl ?_
  refine eb_iconst (pc := 12) (n := 4) (v := 4) rfl rfl ?_
  refine eb_ctV (pc := 13) (As := [.int 1, .int 4]) (rest := [.ref r4]) rfl (by decide) rfl rfl (by decide) rfl (Nat.le_of_ble_eq_true rfl) ?_
  refine eb_Ct.mono w ?_
  rintro r h7 ⟨y8, rfl, ko9, w⟩
  change eb_Sn _ _ _ 16 _ [.int y8, .ref r4] _ _
  refine eb_putI (pc := 16) rfl k6 (by decide) (by decide) rfl rfl ⟨rfl, rfl⟩ ?_
  refine eb_aload_n (pc := 19) (n := 0) (i := 0) rfl rfl rfl ?_
  obtain ⟨r10, q11, k12, w⟩ := w
  refine eb_getR (pc := 20) rfl rfl (by decide) (by decide) rfl q11 ?_
  refine eb_aload_n (pc := 23) (n := 0) (i := 0) rfl rfl rfl ?_
  refine eb_iconst (pc := 24) (n := 1) (v := 1) rfl rfl ?_
  refine eb_iconst (pc := 25) (n := 4) (v := 4) rfl rfl ?_
  refine eb_ctV (pc := 26) (As := [.int 1, .int 4]) (rest := [.ref r10]) rfl (by decide) rfl rfl (by decide) rfl (Nat.le_of_ble_eq_true rfl) ?_
  refine eb_Ct.mono w ?_
  rintro r h13 ⟨y14, rfl, ko15, w⟩
  change eb_Sn _ _ _ 29 _ [.int y14, .ref r10] _ _
  refine eb_putI (pc := 29) rfl k12 (by decide) (by decide) rfl rfl ⟨rfl, rfl⟩ ?_
  refine eb_aload_n (pc := 32) (n := 0) (i := 0) rfl rfl rfl ?_
  refine eb_ldcS (pc := 33) (a := 6) (i := eb_mk 6 21 0) rfl rfl rfl ?_
  refine eb_ctV (pc := 35) (As := [.ref (eb_mk 6 21 0)]) (rest := []) rfl (by decide) rfl rfl (by decide) rfl (Nat.le_of_ble_eq_true rfl) ?_
  refine eb_Ct.mono w ?_
  rintro r h16 ⟨rfl, ko18, w⟩
  change eb_Sn _ _ _ 38 _ [] _ _
  refine eb_aload_n (pc := 38) (n := 0) (i := 0) rfl rfl rfl ?_
  obtain ⟨r19, q20, k21, w⟩ := w
  refine eb_getR (pc := 39) rfl rfl (by decide) (by decide) rfl q20 ?_
  refine eb_aload_n (pc := 42) (n := 0) (i := 0) rfl rfl rfl ?_
  refine eb_iconst (pc := 43) (n := 1) (v := 1) rfl rfl ?_
  refine eb_bipush (pc := 44) (n := 6) (v := 6) rfl rfl ?_
  refine eb_ctV (pc := 46) (As := [.int 1, .int 6]) (rest := [.ref r19]) rfl (by decide) rfl rfl (by decide) rfl (Nat.le_of_ble_eq_true rfl) ?_
  refine eb_Ct.mono w ?_
  rintro r h22 ⟨y23, rfl, ko24, w⟩
  change eb_Sn _ _ _ 49 _ [.int y23, .ref r19] _ _
  refine eb_putI (pc := 49) rfl k21 (by decide) (by decide) rfl rfl ⟨rfl, rfl⟩ ?_
  refine eb_aload_n (pc := 52) (n := 0) (i := 0) rfl rfl rfl ?_
  refine eb_ctV (pc := 53) (As := []) (rest := []) rfl (by decide) rfl rfl (by decide) rfl (Nat.le_of_ble_eq_true rfl) ?_
  refine eb_Ct.mono w ?_
  rintro r h25 ⟨rfl, ko27, w⟩
  change eb_Sn _ _ _ 56 _ [] _ _
  exact eb_return (pc := 56) rfl rfl w
theorem T_X5_readOpening {d : Nat} {h : eb_H} {Q : Option Value → eb_H → Prop}   (ko : eb_KO h) (w : eb_Ct d 49 [.ref s_reader, .ref (eb_mk 19 21 0)] h (fun r h1 => r = none ∧ eb_KO h1 ∧ ∃ r4, eb_R h1 s_reader 2 = some r4 ∧ eb_kd r4 = 9 ∧ eb_Ct d 51 [.ref s_reader, .int 1, .int 4] h1 (fun r h7 => ∃ y8, r = some (.int y8) ∧ eb_KO h7 ∧ ∃ r10, eb_R (eb_sI h7 r4 0 y8) s_reader 2 = some r10 ∧ eb_kd r10 = 9 ∧ eb_Ct d 51 [.ref s_reader, .int 1, .int 4] (eb_sI h7 r4 0 y8) (fun r h13 => ∃ y14, r = some (.int y14) ∧ eb_KO h13 ∧ eb_Ct d 49 [.ref s_reader, .ref (eb_mk 6 21 0)] (eb_sI h13 r10 1 y14) (fun r h16 => r = none ∧ eb_KO h16 ∧ ∃ r19, eb_R h16 s_reader 2 = some r19 ∧ eb_kd r19 = 9 ∧ eb_Ct d 51 [.ref s_reader, .int 1, .int 6] h16 (fun r h22 => ∃ y23, r = some (.int y23) ∧ eb_KO h22 ∧ eb_Ct d 50 [.ref s_reader] (eb_sI h22 r19 2 y23) (fun r h25 => r = none ∧ eb_KO h25 ∧ Q none h25))))))) : eb_Ct (d + 1) 47 [.ref s_reader] h Q :=
  eb_bodyQ (by decide) ok_X5_readOpening (Nat.le_of_ble_eq_true rfl) (b_X5_readOpening_0 (h0 := h)   ko w)
theorem b_X5_readLine_0 {d : Nat} {h0 h : eb_H} {Q : Option Value → eb_H → Prop}   (ko : eb_KO h) (w : eb_Ct d 72 [.ref s_tape, .ref (eb_mk 16 21 0)] h (fun r h1 => ∃ y2, r = some (.int y2) ∧ eb_KO h1 ∧ ((y2 = 0 → eb_Ct d 72 [.ref s_tape, .ref (eb_mk 18 21 0)] h1 (fun r h5 => ∃ y6, r = some (.int y6) ∧ eb_KO h5 ∧ ((y6 = 0 → eb_Ct d 72 [.ref s_tape, .ref (eb_mk 8 21 0)] h5 (fun r h9 => ∃ y10, r = some (.int y10) ∧ eb_KO h9 ∧ ((y10 = 0 → eb_Ct d 72 [.ref s_tape, .ref (eb_mk 11 21 0)] h9 (fun r h13 => ∃ y14, r = some (.int y14) ∧ eb_KO h13 ∧ ((y14 = 0 → eb_Ct d 72 [.ref s_tape, .ref (eb_mk 20 21 0)] h13 (fun r h17 => ∃ y18, r = some (.int y18) ∧ eb_KO h17 ∧ ((y18 = 0 → eb_Ct d 72 [.ref s_tape, .ref (eb_mk 5 21 0)] h17 (fun r h21 => ∃ y22, r = some (.int y22) ∧ eb_KO h21 ∧ ((y22 = 0 → eb_Ct d 72 [.ref s_tape, .ref (eb_mk 13 21 0)] h21 (fun r h25 => ∃ y26, r = some (.int y26) ∧ eb_KO h25 ∧ ((y26 = 0 → eb_Ct d 72 [.ref s_tape, .ref (eb_mk 17 21 0)] h25 (fun r h29 => ∃ y30, r = some (.int y30) ∧ eb_KO h29 ∧ ((y30 = 0 → eb_Ct d 68 [.ref s_tape, .int 2] h29 (fun r h33 => r = none ∧ eb_KO h33 ∧ eb_Ct d 50 [.ref s_reader] h33 (fun r h36 => r = none ∧ eb_KO h36 ∧ Q none h36))) ∧ (¬ (y30 = 0) → ∃ r39, eb_R h29 s_reader 2 = some r39 ∧ eb_kd r39 = 9 ∧ eb_Ct d 28 [.ref s_reader_laws, .int 1] h29 (fun r h42 => ∃ y43, r = some (.ref y43) ∧ eb_KO h42 ∧ (eb_kd y43 = 2) ∧ eb_Ct d 50 [.ref s_reader] (eb_sR h42 r39 8 (some y43)) (fun r h46 => r = none ∧ eb_KO h46 ∧ Q none h46)))))) ∧ (¬ (y26 = 0) → ∃ r49, eb_R h25 s_reader 2 = some r49 ∧ eb_kd r49 = 9 ∧ eb_Ct d 28 [.ref s_reader_laws, .int 0] h25 (fun r h52 => ∃ y53, r = some (.ref y53) ∧ eb_KO h52 ∧ (eb_kd y53 = 2) ∧ eb_Ct d 50 [.ref s_reader] (eb_sR h52 r49 7 (some y53)) (fun r h56 => r = none ∧ eb_KO h56 ∧ Q none h56)))))) ∧ (¬ (y22 = 0) → eb_Ct d 58 [.ref s_reader] h21 (fun r h59 => r = none ∧ eb_KO h59 ∧ eb_Ct d 50 [.ref s_reader] h59 (fun r h62 => r = none ∧ eb_KO h62 ∧ Q none h62)))))) ∧ (¬ (y18 = 0) → eb_Ct d 57 [.ref s_reader] h17 (fun r h65 => r = none ∧ eb_KO h65 ∧ eb_Ct d 50 [.ref s_reader] h65 (fun r h68 => r = none ∧ eb_KO h68 ∧ Q none h68)))))) ∧ (¬ (y14 = 0) → eb_Ct d 56 [.ref s_reader] h13 (fun r h71 => r = none ∧ eb_KO h71 ∧ eb_Ct d 50 [.ref s_reader] h71 (fun r h74 => r = none ∧ eb_KO h74 ∧ Q none h74)))))) ∧ (¬ (y10 = 0) → eb_Ct d 55 [.ref s_reader] h9 (fun r h77 => r = none ∧ eb_KO h77 ∧ eb_Ct d 50 [.ref s_reader] h77 (fun r h80 => r = none ∧ eb_KO h80 ∧ Q none h80)))))) ∧ (¬ (y6 = 0) → eb_Ct d 54 [.ref s_reader] h5 (fun r h83 => r = none ∧ eb_KO h83 ∧ eb_Ct d 50 [.ref s_reader] h83 (fun r h86 => r = none ∧ eb_KO h86 ∧ Q none h86)))))) ∧ (¬ (y2 = 0) → eb_Ct d 53 [.ref s_reader] h1 (fun r h89 => r = none ∧ eb_KO h89 ∧ eb_Ct d 50 [.ref s_reader] h89 (fun r h92 => r = none ∧ eb_KO h92 ∧ Q none h92)))))) : eb_Sn (d + 1) m_X5_readLine h0 0 [(0, .ref s_reader)] [] h Q := by
  refine eb_aload_n (pc := 0) (n := 0) (i := 0) rfl rfl rfl ?_
  refine eb_getR (pc := 1) rfl rfl (by decide) (by decide) rfl (ko_s_reader_1 ko) ?_
  refine eb_ldcS (pc := 4) (a := 16) (i := eb_mk 16 21 0) rfl rfl rfl ?_
  refine eb_ctV (pc := 6) (As := [.ref (eb_mk 16 21 0)]) (rest := []) rfl (by decide) rfl rfl (by decide) rfl (Nat.le_of_ble_eq_true rfl) ?_
  refine eb_Ct.mono w ?_
  rintro r h1 ⟨y2, rfl, ko3, w⟩
  change eb_Sn _ _ _ 9 _ [.int y2] _ _
  refine eb_if_eq (pc := 9) (tgt := 19) rfl (by decide) (fun c4 => ?_) (fun c4 => ?_)
  · replace w := w.1 c4
    refine eb_aload_n (pc := 19) (n := 0) (i := 0) rfl rfl rfl ?_
    refine eb_getR (pc := 20) rfl rfl (by decide) (by decide) rfl (ko_s_reader_1 ko3) ?_
    refine eb_ldcS (pc := 23) (a := 18) (i := eb_mk 18 21 0) rfl rfl rfl ?_
    refine eb_ctV (pc := 25) (As := [.ref (eb_mk 18 21 0)]) (rest := []) rfl (by decide) rfl rfl (by decide) rfl (Nat.le_of_ble_eq_true rfl) ?_
    refine eb_Ct.mono w ?_
    rintro r h5 ⟨y6, rfl, ko7, w⟩
    change eb_Sn _ _ _ 28 _ [.int y6] _ _
    refine eb_if_eq (pc := 28) (tgt := 38) rfl (by decide) (fun c8 => ?_) (fun c8 => ?_)
    · replace w := w.1 c8
      refine eb_aload_n (pc := 38) (n := 0) (i := 0) rfl rfl rfl ?_
      refine eb_getR (pc := 39) rfl rfl (by decide) (by decide) rfl (ko_s_reader_1 ko7) ?_
      refine eb_ldcS (pc := 42) (a := 8) (i := eb_mk 8 21 0) rfl rfl rfl ?_
      refine eb_ctV (pc := 44) (As := [.ref (eb_mk 8 21 0)]) (rest := []) rfl (by decide) rfl rfl (by decide) rfl (Nat.le_of_ble_eq_true rfl) ?_
      refine eb_Ct.mono w ?_
      rintro r h9 ⟨y10, rfl, ko11, w⟩
      change eb_Sn _ _ _ 47 _ [.int y10] _ _
      refine eb_if_eq (pc := 47) (tgt := 57) rfl (by decide) (fun c12 => ?_) (fun c12 => ?_)
      · replace w := w.1 c12
        refine eb_aload_n (pc := 57) (n := 0) (i := 0) rfl rfl rfl ?_
        refine eb_getR (pc := 58) rfl rfl (by decide) (by decide) rfl (ko_s_reader_1 ko11) ?_
        refine eb_ldcS (pc := 61) (a := 11) (i := eb_mk 11 21 0) rfl rfl rfl ?_
        refine eb_ctV (pc := 63) (As := [.ref (eb_mk 11 21 0)]) (rest := []) rfl (by decide) rfl rfl (by decide) rfl (Nat.le_of_ble_eq_true rfl) ?_
        refine eb_Ct.mono w ?_
        rintro r h13 ⟨y14, rfl, ko15, w⟩
        change eb_Sn _ _ _ 66 _ [.int y14] _ _
        refine eb_if_eq (pc := 66) (tgt := 76) rfl (by decide) (fun c16 => ?_) (fun c16 => ?_)
        · replace w := w.1 c16
          refine eb_aload_n (pc := 76) (n := 0) (i := 0) rfl rfl rfl ?_
          refine eb_getR (pc := 77) rfl rfl (by decide) (by decide) rfl (ko_s_reader_1 ko15) ?_
          refine eb_ldcS (pc := 80) (a := 20) (i := eb_mk 20 21 0) rfl rfl rfl ?_
          refine eb_ctV (pc := 82) (As := [.ref (eb_mk 20 21 0)]) (rest := []) rfl (by decide) rfl rfl (by decide) rfl (Nat.le_of_ble_eq_true rfl) ?_
          refine eb_Ct.mono w ?_
          rintro r h17 ⟨y18, rfl, ko19, w⟩
          change eb_Sn _ _ _ 85 _ [.int y18] _ _
          refine eb_if_eq (pc := 85) (tgt := 95) rfl (by decide) (fun c20 => ?_) (fun c20 => ?_)
          · replace w := w.1 c20
            refine eb_aload_n (pc := 95) (n := 0) (i := 0) rfl rfl rfl ?_
            refine eb_getR (pc := 96) rfl rfl (by decide) (by decide) rfl (ko_s_reader_1 ko19) ?_
            refine eb_ldcS (pc := 99) (a := 5) (i := eb_mk 5 21 0) rfl rfl rfl ?_
            refine eb_ctV (pc := 101) (As := [.ref (eb_mk 5 21 0)]) (rest := []) rfl (by decide) rfl rfl (by decide) rfl (Nat.le_of_ble_eq_true rfl) ?_
            refine eb_Ct.mono w ?_
            rintro r h21 ⟨y22, rfl, ko23, w⟩
            change eb_Sn _ _ _ 104 _ [.int y22] _ _
            refine eb_if_eq (pc := 104) (tgt := 114) rfl (by decide) (fun c24 => ?_) (fun c24 => ?_)
            · replace w := w.1 c24
              refine eb_aload_n (pc := 114) (n := 0) (i := 0) rfl rfl rfl ?_
              refine eb_getR (pc := 115) rfl rfl (by decide) (by decide) rfl (ko_s_reader_1 ko23) ?_
              refine eb_ldcS (pc := 118) (a := 13) (i := eb_mk 13 21 0) rfl rfl rfl ?_
              refine eb_ctV (pc := 120) (As := [.ref (eb_mk 13 21 0)]) (rest := []) rfl (by decide) rfl rfl (by decide) rfl (Nat.le_of_ble_eq_true rfl) ?_
              refine eb_Ct.mono w ?_
              rintro r h25 ⟨y26, rfl, ko27, w⟩
              change eb_Sn _ _ _ 123 _ [.int y26] _ _
              refine eb_if_eq (pc := 123) (tgt := 144) rfl (by decide) (fun c28 => ?_) (fun c28 => ?_)
              · replace w := w.1 c28
                refine eb_aload_n (pc := 144) (n := 0) (i := 0) rfl rfl rfl ?_
                refine eb_getR (pc := 145) rfl rfl (by decide) (by decide) rfl (ko_s_reader_1 ko27) ?_
                refine eb_ldcS (pc := 148) (a := 17) (i := eb_mk 17 21 0) rfl rfl rfl ?_
                refine eb_ctV (pc := 150) (As := [.ref (eb_mk 17 21 0)]) (rest := []) rfl (by decide) rfl rfl (by decide) rfl (Nat.le_of_ble_eq_true rfl) ?_
                refine eb_Ct.mono w ?_
                rintro r h29 ⟨y30, rfl, ko31, w⟩
                change eb_Sn _ _ _ 153 _ [.int y30] _ _
                refine eb_if_eq (pc := 153) (tgt := 174) rfl (by decide) (fun c32 => ?_) (fun c32 => ?_)
                · replace w := w.1 c32
                  refine eb_aload_n (pc := 174) (n := 0) (i := 0) rfl rfl rfl ?_
                  refine eb_getR (pc := 175) rfl rfl (by decide) (by decide) rfl (ko_s_reader_1 ko31) ?_
                  refine eb_iconst (pc := 178) (n := 2) (v := 2) rfl rfl ?_
                  refine eb_ctV (pc := 179) (As := [.int 2]) (rest := []) rfl (by decide) rfl rfl (by decide) rfl (Nat.le_of_ble_eq_true rfl) ?_
                  refine eb_Ct.mono w ?_
                  rintro r h33 ⟨rfl, ko35, w⟩
                  change eb_Sn _ _ _ 182 _ [] _ _
                  refine eb_aload_n (pc := 182) (n := 0) (i := 0) rfl rfl rfl ?_
                  refine eb_ctV (pc := 183) (As := []) (rest := []) rfl (by decide) rfl rfl (by decide) rfl (Nat.le_of_ble_eq_true rfl) ?_
                  refine eb_Ct.mono w ?_
                  rintro r h36 ⟨rfl, ko38, w⟩
                  change eb_Sn _ _ _ 186 _ [] _ _
                  exact eb_return (pc := 186) rfl rfl w
                · replace w := w.2 c32
                  refine eb_aload_n (pc := 156) (n := 0) (i := 0) rfl rfl rfl ?_
                  obtain ⟨r39, q40, k41, w⟩ := w
                  refine eb_getR (pc := 157) rfl rfl (by decide) (by decide) rfl q40 ?_
                  refine eb_aload_n (pc := 160) (n := 0) (i := 0) rfl rfl rfl ?_
                  refine eb_getR (pc := 161) rfl rfl (by decide) (by decide) rfl (ko_s_reader_0 ko31) ?_
                  refine eb_iconst (pc := 164) (n := 1) (v := 1) rfl rfl ?_
                  refine eb_ctV (pc := 165) (As := [.int 1]) (rest := [.ref r39]) rfl (by decide) rfl rfl (by decide) rfl (Nat.le_of_ble_eq_true rfl) ?_
                  refine eb_Ct.mono w ?_
                  rintro r h42 ⟨y43, rfl, ko44, w⟩
                  change eb_Sn _ _ _ 168 _ [.ref y43, .ref r39] _ _
                  obtain ⟨k45, w⟩ := w
                  refine eb_putR (pc := 168) rfl k41 (by decide) (by decide) rfl (Or.inl rfl) (eb_k20 (c := 2) k45 (by decide)) ?_
                  refine eb_goto (pc := 171) (tgt := 182) rfl (by decide) ?_
                  refine eb_aload_n (pc := 182) (n := 0) (i := 0) rfl rfl rfl ?_
                  refine eb_ctV (pc := 183) (As := []) (rest := []) rfl (by decide) rfl rfl (by decide) rfl (Nat.le_of_ble_eq_true rfl) ?_
                  refine eb_Ct.mono w ?_
                  rintro r h46 ⟨rfl, ko48, w⟩
                  change eb_Sn _ _ _ 186 _ [] _ _
                  exact eb_return (pc := 186) rfl rfl w
              · replace w := w.2 c28
                refine eb_aload_n (pc := 126) (n := 0) (i := 0) rfl rfl rfl ?_
                obtain ⟨r49, q50, k51, w⟩ := w
                refine eb_getR (pc := 127) rfl rfl (by decide) (by decide) rfl q50 ?_
                refine eb_aload_n (pc := 130) (n := 0) (i := 0) rfl rfl rfl ?_
                refine eb_getR (pc := 131) rfl rfl (by decide) (by decide) rfl (ko_s_reader_0 ko27) ?_
                refine eb_iconst (pc := 134) (n := 0) (v := 0) rfl rfl ?_
                refine eb_ctV (pc := 135) (As := [.int 0]) (rest := [.ref r49]) rfl (by decide) rfl rfl (by decide) rfl (Nat.le_of_ble_eq_true rfl) ?_
                refine eb_Ct.mono w ?_
                rintro r h52 ⟨y53, rfl, ko54, w⟩
                change eb_Sn _ _ _ 138 _ [.ref y53, .ref r49] _ _
                obtain ⟨k55, w⟩ := w
                refine eb_putR (pc := 138) rfl k51 (by decide) (by decide) rfl (Or.inl rfl) (eb_k20 (c := 2) k55 (by decide)) ?_
                refine eb_goto (pc := 141) (tgt := 182) rfl (by decide) ?_
                refine eb_aload_n (pc := 182) (n := 0) (i := 0) rfl rfl rfl ?_
                refine eb_ctV (pc := 183) (As := []) (rest := []) rfl (by decide) rfl rfl (by decide) rfl (Nat.le_of_ble_eq_true rfl) ?_
                refine eb_Ct.mono w ?_
                rintro r h56 ⟨rfl, ko58, w⟩
                change eb_Sn _ _ _ 186 _ [] _ _
                exact eb_return (pc := 186) rfl rfl w
            · replace w := w.2 c24
              refine eb_aload_n (pc := 107) (n := 0) (i := 0) rfl rfl rfl ?_
              refine eb_ctV (pc := 108) (As := []) (rest := []) rfl (by decide) rfl rfl (by decide) rfl (Nat.le_of_ble_eq_true rfl) ?_
              refine eb_Ct.mono w ?_
              rintro r h59 ⟨rfl, ko61, w⟩
              change eb_Sn _ _ _ 111 _ [] _ _
              refine eb_goto (pc := 111) (tgt := 182) rfl (by decide) ?_
              refine eb_aload_n (pc := 182) (n := 0) (i := 0) rfl rfl rfl ?_
              refine eb_ctV (pc := 183) (As := []) (rest := []) rfl (by decide) rfl rfl (by decide) rfl (Nat.le_of_ble_eq_true rfl) ?_
              refine eb_Ct.mono w ?_
              rintro r h62 ⟨rfl, ko64, w⟩
              change eb_Sn _ _ _ 186 _ [] _ _
              exact eb_return (pc := 186) rfl rfl w
          · replace w := w.2 c20
            refine eb_aload_n (pc := 88) (n := 0) (i := 0) rfl rfl rfl ?_
            refine eb_ctV (pc := 89) (As := []) (rest := []) rfl (by decide) rfl rfl (by decide) rfl (Nat.le_of_ble_eq_true rfl) ?_
            refine eb_Ct.mono w ?_
            rintro r h65 ⟨rfl, ko67, w⟩
            change eb_Sn _ _ _ 92 _ [] _ _
            refine eb_goto (pc := 92) (tgt := 182) rfl (by decide) ?_
            refine eb_aload_n (pc := 182) (n := 0) (i := 0) rfl rfl rfl ?_
            refine eb_ctV (pc := 183) (As := []) (rest := []) rfl (by decide) rfl rfl (by decide) rfl (Nat.le_of_ble_eq_true rfl) ?_
            refine eb_Ct.mono w ?_
            rintro r h68 ⟨rfl, ko70, w⟩
            change eb_Sn _ _ _ 186 _ [] _ _
            exact eb_return (pc := 186) rfl rfl w
        · replace w := w.2 c16
          refine eb_aload_n (pc := 69) (n := 0) (i := 0) rfl rfl rfl ?_
          refine eb_ctV (pc := 70) (As := []) (rest := []) rfl (by decide) rfl rfl (by decide) rfl (Nat.le_of_ble_eq_true rfl) ?_
          refine eb_Ct.mono w ?_
          rintro r h71 ⟨rfl, ko73, w⟩
          change eb_Sn _ _ _ 73 _ [] _ _
          refine eb_goto (pc := 73) (tgt := 182) rfl (by decide) ?_
          refine eb_aload_n (pc := 182) (n := 0) (i := 0) rfl rfl rfl ?_
          refine eb_ctV (pc := 183) (As := []) (rest := []) rfl (by decide) rfl rfl (by decide) rfl (Nat.le_of_ble_eq_true rfl) ?_
          refine eb_Ct.mono w ?_
          rintro r h74 ⟨rfl, ko76, w⟩
          change eb_Sn _ _ _ 186 _ [] _ _
          exact eb_return (pc := 186) rfl rfl w
      · replace w := w.2 c12
        refine eb_aload_n (pc := 50) (n := 0) (i := 0) rfl rfl rfl ?_
        refine eb_ctV (pc := 51) (As := []) (rest := []) rfl (by decide) rfl rfl (by decide) rfl (Nat.le_of_ble_eq_true rfl) ?_
        refine eb_Ct.mono w ?_
        rintro r h77 ⟨rfl, ko79, w⟩
        change eb_Sn _ _ _ 54 _ [] _ _
        refine eb_goto (pc := 54) (tgt := 182) rfl (by decide) ?_
        refine eb_aload_n (pc := 182) (n := 0) (i := 0) rfl rfl rfl ?_
        refine eb_ctV (pc := 183) (As := []) (rest := []) rfl (by decide) rfl rfl (by decide) rfl (Nat.le_of_ble_eq_true rfl) ?_
        refine eb_Ct.mono w ?_
        rintro r h80 ⟨rfl, ko82, w⟩
        change eb_Sn _ _ _ 186 _ [] _ _
        exact eb_return (pc := 186) rfl rfl w
    · replace w := w.2 c8
      refine eb_aload_n (pc := 31) (n := 0) (i := 0) rfl rfl rfl ?_
      refine eb_ctV (pc := 32) (As := []) (rest := []) rfl (by decide) rfl rfl (by decide) rfl (Nat.le_of_ble_eq_true rfl) ?_
      refine eb_Ct.mono w ?_
      rintro r h83 ⟨rfl, ko85, w⟩
      change eb_Sn _ _ _ 35 _ [] _ _
      refine eb_goto (pc := 35) (tgt := 182) rfl (by decide) ?_
      refine eb_aload_n (pc := 182) (n := 0) (i := 0) rfl rfl rfl ?_
      refine eb_ctV (pc := 183) (As := []) (rest := []) rfl (by decide) rfl rfl (by decide) rfl (Nat.le_of_ble_eq_true rfl) ?_
      refine eb_Ct.mono w ?_
      rintro r h86 ⟨rfl, ko88, w⟩
      change eb_Sn _ _ _ 186 _ [] _ _
      exact eb_return (pc := 186) rfl rfl w
  · replace w := w.2 c4
    refine eb_aload_n (pc := 12) (n := 0) (i := 0) rfl rfl rfl ?_
    refine eb_ctV (pc := 13) (As := []) (rest := []) rfl (by decide) rfl rfl (by decide) rfl (Nat.le_of_ble_eq_true rfl) ?_
    refine eb_Ct.mono w ?_
    rintro r h89 ⟨rfl, ko91, w⟩
    change eb_Sn _ _ _ 16 _ [] _ _
    refine eb_goto (pc := 16) (tgt := 182) rfl (by decide) ?_
    refine eb_aload_n (pc := 182) (n := 0) (i := 0) rfl rfl rfl ?_
    refine eb_ctV (pc := 183) (As := []) (rest := []) rfl (by decide) rfl rfl (by decide) rfl (Nat.le_of_ble_eq_true rfl) ?_
    refine eb_Ct.mono w ?_
    rintro r h92 ⟨rfl, ko94, w⟩
    change eb_Sn _ _ _ 186 _ [] _ _
    exact eb_return (pc := 186) rfl rfl w
theorem T_X5_readLine {d : Nat} {h : eb_H} {Q : Option Value → eb_H → Prop}   (ko : eb_KO h) (w : eb_Ct d 72 [.ref s_tape, .ref (eb_mk 16 21 0)] h (fun r h1 => ∃ y2, r = some (.int y2) ∧ eb_KO h1 ∧ ((y2 = 0 → eb_Ct d 72 [.ref s_tape, .ref (eb_mk 18 21 0)] h1 (fun r h5 => ∃ y6, r = some (.int y6) ∧ eb_KO h5 ∧ ((y6 = 0 → eb_Ct d 72 [.ref s_tape, .ref (eb_mk 8 21 0)] h5 (fun r h9 => ∃ y10, r = some (.int y10) ∧ eb_KO h9 ∧ ((y10 = 0 → eb_Ct d 72 [.ref s_tape, .ref (eb_mk 11 21 0)] h9 (fun r h13 => ∃ y14, r = some (.int y14) ∧ eb_KO h13 ∧ ((y14 = 0 → eb_Ct d 72 [.ref s_tape, .ref (eb_mk 20 21 0)] h13 (fun r h17 => ∃ y18, r = some (.int y18) ∧ eb_KO h17 ∧ ((y18 = 0 → eb_Ct d 72 [.ref s_tape, .ref (eb_mk 5 21 0)] h17 (fun r h21 => ∃ y22, r = some (.int y22) ∧ eb_KO h21 ∧ ((y22 = 0 → eb_Ct d 72 [.ref s_tape, .ref (eb_mk 13 21 0)] h21 (fun r h25 => ∃ y26, r = some (.int y26) ∧ eb_KO h25 ∧ ((y26 = 0 → eb_Ct d 72 [.ref s_tape, .ref (eb_mk 17 21 0)] h25 (fun r h29 => ∃ y30, r = some (.int y30) ∧ eb_KO h29 ∧ ((y30 = 0 → eb_Ct d 68 [.ref s_tape, .int 2] h29 (fun r h33 => r = none ∧ eb_KO h33 ∧ eb_Ct d 50 [.ref s_reader] h33 (fun r h36 => r = none ∧ eb_KO h36 ∧ Q none h36))) ∧ (¬ (y30 = 0) → ∃ r39, eb_R h29 s_reader 2 = some r39 ∧ eb_kd r39 = 9 ∧ eb_Ct d 28 [.ref s_reader_laws, .int 1] h29 (fun r h42 => ∃ y43, r = some (.ref y43) ∧ eb_KO h42 ∧ (eb_kd y43 = 2) ∧ eb_Ct d 50 [.ref s_reader] (eb_sR h42 r39 8 (some y43)) (fun r h46 => r = none ∧ eb_KO h46 ∧ Q none h46)))))) ∧ (¬ (y26 = 0) → ∃ r49, eb_R h25 s_reader 2 = some r49 ∧ eb_kd r49 = 9 ∧ eb_Ct d 28 [.ref s_reader_laws, .int 0] h25 (fun r h52 => ∃ y53, r = some (.ref y53) ∧ eb_KO h52 ∧ (eb_kd y53 = 2) ∧ eb_Ct d 50 [.ref s_reader] (eb_sR h52 r49 7 (some y53)) (fun r h56 => r = none ∧ eb_KO h56 ∧ Q none h56)))))) ∧ (¬ (y22 = 0) → eb_Ct d 58 [.ref s_reader] h21 (fun r h59 => r = none ∧ eb_KO h59 ∧ eb_Ct d 50 [.ref s_reader] h59 (fun r h62 => r = none ∧ eb_KO h62 ∧ Q none h62)))))) ∧ (¬ (y18 = 0) → eb_Ct d 57 [.ref s_reader] h17 (fun r h65 => r = none ∧ eb_KO h65 ∧ eb_Ct d 50 [.ref s_reader] h65 (fun r h68 => r = none ∧ eb_KO h68 ∧ Q none h68)))))) ∧ (¬ (y14 = 0) → eb_Ct d 56 [.ref s_reader] h13 (fun r h71 => r = none ∧ eb_KO h71 ∧ eb_Ct d 50 [.ref s_reader] h71 (fun r h74 => r = none ∧ eb_KO h74 ∧ Q none h74)))))) ∧ (¬ (y10 = 0) → eb_Ct d 55 [.ref s_reader] h9 (fun r h77 => r = none ∧ eb_KO h77 ∧ eb_Ct d 50 [.ref s_reader] h77 (fun r h80 => r = none ∧ eb_KO h80 ∧ Q none h80)))))) ∧ (¬ (y6 = 0) → eb_Ct d 54 [.ref s_reader] h5 (fun r h83 => r = none ∧ eb_KO h83 ∧ eb_Ct d 50 [.ref s_reader] h83 (fun r h86 => r = none ∧ eb_KO h86 ∧ Q none h86)))))) ∧ (¬ (y2 = 0) → eb_Ct d 53 [.ref s_reader] h1 (fun r h89 => r = none ∧ eb_KO h89 ∧ eb_Ct d 50 [.ref s_reader] h89 (fun r h92 => r = none ∧ eb_KO h92 ∧ Q none h92)))))) : eb_Ct (d + 1) 48 [.ref s_reader] h Q :=
  eb_bodyQ (by decide) ok_X5_readLine (Nat.le_of_ble_eq_true rfl) (b_X5_readLine_0 (h0 := h)   ko w)
