theorem b_X11_isGoal_0 {d : Nat} {h0 h : eb_H} {Q : Option Value → eb_H → Prop} (x0 : Int32) (x1 : Int32) (x2 : Int32) (x3 : Int32)  (ko : eb_KO h) (w : Q (some (.int (eb_q (((x0 / 64) = x1) ∧ (((x0 &&& x2) = x2) ∧ ((x0 &&& x3) = 0)))))) h) : eb_Sn d m_X11_isGoal h0 0 [(0, .int x0), (1, .int x1), (2, .int x2), (3, .int x3)] [] h Q := by
  refine eb_iload_n (pc := 0) (n := 0) (i := 0) rfl rfl rfl ?_
  refine eb_bipush (pc := 1) (n := 64) (v := 64) rfl rfl ?_
  refine eb_idiv (pc := 3) (by decide) rfl ?_
  refine eb_iload_n (pc := 4) (n := 1) (i := 1) rfl rfl rfl ?_
  refine eb_joinI (pc2 := 26) (ls2 := [(0, .int x0), (1, .int x1), (2, .int x2), (3, .int x3)]) (st2 := []) (v := eb_q (((x0 / 64) = x1) ∧ (((x0 &&& x2) = x2) ∧ ((x0 &&& x3) = 0)))) ?_ (fun jj4 => ?_)
  · exact eb_ireturn (pc := 26) rfl rfl eb_qn w
  refine eb_icmp_ne (pc := 5) (tgt := 25) rfl (by decide) (fun c1 => ?_) (fun c1 => ?_)
  · refine eb_iconst (pc := 25) (n := 0) (v := 0) rfl rfl ?_
    exact jj4 0 (eb_qf (fun z => c1 z.1)).symm
  · refine eb_iload_n (pc := 8) (n := 0) (i := 0) rfl rfl rfl ?_
    refine eb_iload_n (pc := 9) (n := 2) (i := 2) rfl rfl rfl ?_
    refine eb_iand (pc := 10) rfl ?_
    refine eb_iload_n (pc := 11) (n := 2) (i := 2) rfl rfl rfl ?_
    refine eb_icmp_ne (pc := 12) (tgt := 25) rfl (by decide) (fun c2 => ?_) (fun c2 => ?_)
    · refine eb_iconst (pc := 25) (n := 0) (v := 0) rfl rfl ?_
      exact jj4 0 (eb_qf (fun z => (fun z => c2 z.1) z.2)).symm
    · refine eb_iload_n (pc := 15) (n := 0) (i := 0) rfl rfl rfl ?_
      refine eb_iload_n (pc := 16) (n := 3) (i := 3) rfl rfl rfl ?_
      refine eb_iand (pc := 17) rfl ?_
      refine eb_if_ne (pc := 18) (tgt := 25) rfl (by decide) (fun c3 => ?_) (fun c3 => ?_)
      · refine eb_iconst (pc := 25) (n := 0) (v := 0) rfl rfl ?_
        exact jj4 0 (eb_qf (fun z => (fun z => c3 z.2) z.2)).symm
      · refine eb_iconst (pc := 21) (n := 1) (v := 1) rfl rfl ?_
        refine eb_goto (pc := 22) (tgt := 26) rfl (by decide) ?_
        exact jj4 1 (eb_qt (⟨c1, ⟨c2, c3⟩⟩)).symm
theorem T_X11_isGoal {d : Nat} {h : eb_H} {Q : Option Value → eb_H → Prop} (x0 : Int32) (x1 : Int32) (x2 : Int32) (x3 : Int32)  (ko : eb_KO h) (w : Q (some (.int (eb_q (((x0 / 64) = x1) ∧ (((x0 &&& x2) = x2) ∧ ((x0 &&& x3) = 0)))))) h) : eb_Ct d 230 [.int x0, .int x1, .int x2, .int x3] h Q :=
  eb_bodyQ (by decide) ok_X11_isGoal (Nat.le_of_ble_eq_true rfl) (b_X11_isGoal_0 (h0 := h) x0 x1 x2 x3  ko w)
theorem b_X11_farBy_0 {d : Nat} {h0 h : eb_H} {Q : Option Value → eb_H → Prop} (x1 : Int32) (x2 : Int32)  (ko : eb_KO h) (w : (vp_in (((4 : Int32) * x1) + x2) 4096) ∧ (((eb_I h s_m_then (((4 : Int32) * x1) + x2).toNatClampNeg) = ((-1) : Int32) → Q (some (.int 268435456)) h) ∧ (¬ ((eb_I h s_m_then (((4 : Int32) * x1) + x2).toNatClampNeg) = ((-1) : Int32)) → (vp_in (eb_I h s_m_then (((4 : Int32) * x1) + x2).toNatClampNeg) 1024) ∧ ((¬ (eb_I h s_m_far (eb_I h s_m_then (((4 : Int32) * x1) + x2).toNatClampNeg).toNatClampNeg) = (268435456 : Int32) → (vp_in (eb_I h s_m_then (((4 : Int32) * x1) + x2).toNatClampNeg) 1024) ∧ Q (some (.int ((eb_I h s_m_far (eb_I h s_m_then (((4 : Int32) * x1) + x2).toNatClampNeg).toNatClampNeg) + 1))) h) ∧ ((eb_I h s_m_far (eb_I h s_m_then (((4 : Int32) * x1) + x2).toNatClampNeg).toNatClampNeg) = (268435456 : Int32) → Q (some (.int 268435456)) h))))) : eb_Sn d m_X11_farBy h0 0 [(0, .ref s_MO), (1, .int x1), (2, .int x2)] [] h Q := by
  refine eb_aload_n (pc := 0) (n := 0) (i := 0) rfl rfl rfl ?_
  refine eb_getR (pc := 1) rfl rfl (by decide) (by decide) rfl (ko_s_MO_21 ko) ?_
  refine eb_iconst (pc := 4) (n := 4) (v := 4) rfl rfl ?_
  refine eb_iload_n (pc := 5) (n := 1) (i := 1) rfl rfl rfl ?_
  refine eb_imul (pc := 6) rfl ?_
  refine eb_iload_n (pc := 7) (n := 2) (i := 2) rfl rfl rfl ?_
  refine eb_iadd (pc := 8) rfl ?_
  obtain ⟨c1, w⟩ := w
  refine eb_iaload (pc := 9) rfl rfl (by decide) c1 ?_
  refine eb_istore_n (pc := 10) (n := 3) (i := 3) (ls2 := [(3, .int (eb_I h s_m_then (((4 : Int32) * x1) + x2).toNatClampNeg)), (0, .ref s_MO), (1, .int x1), (2, .int x2)]) rfl (Nat.le_of_ble_eq_true rfl) rfl rfl ?_
  refine eb_iload_n (pc := 11) (n := 3) (i := 3) rfl rfl rfl ?_
  refine eb_iconst (pc := 12) (n := -1) (v := (-1)) rfl rfl ?_
  refine eb_icmp_eq (pc := 13) (tgt := 28) rfl (by decide) (fun c2 => ?_) (fun c2 => ?_)
  · replace w := w.1 c2
    refine eb_ldcw (pc := 28) (a := 268435456) (v := 268435456) rfl (by decide) ?_
    refine eb_goto (pc := 31) (tgt := 42) rfl (by decide) ?_
    exact eb_ireturn (pc := 42) rfl rfl rfl w
  · replace w := w.2 c2
    refine eb_aload_n (pc := 16) (n := 0) (i := 0) rfl rfl rfl ?_
    refine eb_getR (pc := 17) rfl rfl (by decide) (by decide) rfl (ko_s_MO_22 ko) ?_
    refine eb_iload_n (pc := 20) (n := 3) (i := 3) rfl rfl rfl ?_
    obtain ⟨c3, w⟩ := w
    refine eb_iaload (pc := 21) rfl rfl (by decide) c3 ?_
    refine eb_ldcw (pc := 22) (a := 268435456) (v := 268435456) rfl (by decide) ?_
    refine eb_icmp_ne (pc := 25) (tgt := 34) rfl (by decide) (fun c4 => ?_) (fun c4 => ?_)
    · replace w := w.1 c4
      refine eb_aload_n (pc := 34) (n := 0) (i := 0) rfl rfl rfl ?_
      refine eb_getR (pc := 35) rfl rfl (by decide) (by decide) rfl (ko_s_MO_22 ko) ?_
      refine eb_iload_n (pc := 38) (n := 3) (i := 3) rfl rfl rfl ?_
      obtain ⟨c5, w⟩ := w
      refine eb_iaload (pc := 39) rfl rfl (by decide) c5 ?_
      refine eb_iconst (pc := 40) (n := 1) (v := 1) rfl rfl ?_
      refine eb_iadd (pc := 41) rfl ?_
      exact eb_ireturn (pc := 42) rfl rfl rfl w
    · replace w := w.2 c4
      refine eb_ldcw (pc := 28) (a := 268435456) (v := 268435456) rfl (by decide) ?_
      refine eb_goto (pc := 31) (tgt := 42) rfl (by decide) ?_
      exact eb_ireturn (pc := 42) rfl rfl rfl w
theorem T_X11_farBy {d : Nat} {h : eb_H} {Q : Option Value → eb_H → Prop} (x1 : Int32) (x2 : Int32)  (ko : eb_KO h) (w : (vp_in (((4 : Int32) * x1) + x2) 4096) ∧ (((eb_I h s_m_then (((4 : Int32) * x1) + x2).toNatClampNeg) = ((-1) : Int32) → Q (some (.int 268435456)) h) ∧ (¬ ((eb_I h s_m_then (((4 : Int32) * x1) + x2).toNatClampNeg) = ((-1) : Int32)) → (vp_in (eb_I h s_m_then (((4 : Int32) * x1) + x2).toNatClampNeg) 1024) ∧ ((¬ (eb_I h s_m_far (eb_I h s_m_then (((4 : Int32) * x1) + x2).toNatClampNeg).toNatClampNeg) = (268435456 : Int32) → (vp_in (eb_I h s_m_then (((4 : Int32) * x1) + x2).toNatClampNeg) 1024) ∧ Q (some (.int ((eb_I h s_m_far (eb_I h s_m_then (((4 : Int32) * x1) + x2).toNatClampNeg).toNatClampNeg) + 1))) h) ∧ ((eb_I h s_m_far (eb_I h s_m_then (((4 : Int32) * x1) + x2).toNatClampNeg).toNatClampNeg) = (268435456 : Int32) → Q (some (.int 268435456)) h))))) : eb_Ct d 231 [.ref s_MO, .int x1, .int x2] h Q :=
  eb_bodyQ (by decide) ok_X11_farBy (Nat.le_of_ble_eq_true rfl) (b_X11_farBy_0 (h0 := h) x1 x2  ko w)
theorem b_X11_laysFar_0 {d : Nat} {h0 h : eb_H} {Q : Option Value → eb_H → Prop} (x1 : Int32) (x2 : Int32) (x3 : Int32)  (ko : eb_KO h) (w : eb_Ct (d + 1) 227 [.ref s_MO, .int (eb_I h s_m_all (50 : Int32).toNatClampNeg)] h (fun r h1 => r = none ∧ eb_KO h1 ∧ eb_Sn (d + 2) m_X11_laysFar h0 14 [(0, .ref s_MO), (1, .int x1), (2, .int x2), (3, .int x3), (4, .int 0)] [] h1 Q)) : eb_Sn (d + 2) m_X11_laysFar h0 0 [(0, .ref s_MO), (1, .int x1), (2, .int x2), (3, .int x3)] [] h Q := by
  refine eb_aload_n (pc := 0) (n := 0) (i := 0) rfl rfl rfl ?_
  refine eb_aload_n (pc := 1) (n := 0) (i := 0) rfl rfl rfl ?_
  refine eb_getR (pc := 2) rfl rfl (by decide) (by decide) rfl (ko_s_MO_1 ko) ?_
  refine eb_bipush (pc := 5) (n := 50) (v := 50) rfl rfl ?_
  refine eb_iaload (pc := 7) rfl rfl (by decide) (by unfold vp_in; decide) ?_
  refine eb_ctV (pc := 8) (As := [.int (eb_I h s_m_all (50 : Int32).toNatClampNeg)]) (rest := []) rfl (by decide) rfl rfl (by decide) rfl (Nat.le_of_ble_eq_true rfl) ?_
  refine eb_Ct.mono w ?_
  rintro r h1 ⟨rfl, ko3, w⟩
  change eb_Sn _ _ _ 11 _ [] _ _
  refine eb_iconst (pc := 11) (n := 0) (v := 0) rfl rfl ?_
  refine eb_istore (pc := 12) (i := 4) (ls2 := [(4, .int 0), (0, .ref s_MO), (1, .int x1), (2, .int x2), (3, .int x3)]) (Nat.le_of_ble_eq_true rfl) rfl rfl ?_
  exact eb_pick [1, 2, 3, 4, 0] rfl w
theorem b_X11_laysFar_14 {d : Nat} {h0 h : eb_H} {Q : Option Value → eb_H → Prop} (x1 : Int32) (x2 : Int32) (x3 : Int32) (x4 : Int32)  (ko : eb_KO h) (w : ((((64 : Int32) * ((eb_I h s_m_all (1 : Int32).toNatClampNeg) * (eb_I h s_m_all (2 : Int32).toNatClampNeg))) ≤ x4 → eb_Sn (d + 2) m_X11_laysFar h0 57 [(0, .ref s_MO), (4, .int 1)] [] h Q) ∧ (¬ (((64 : Int32) * ((eb_I h s_m_all (1 : Int32).toNatClampNeg) * (eb_I h s_m_all (2 : Int32).toNatClampNeg))) ≤ x4) → (vp_in x4 1024) ∧ eb_Sn (d + 2) m_X11_laysFar h0 14 [(0, .ref s_MO), (1, .int x1), (2, .int x2), (3, .int x3), (4, .int (x4 + 1))] [] (eb_sI h s_m_far x4.toNatClampNeg (if ((x4 / 64) = x1) ∧ (((x4 &&& x2) = x2) ∧ ((x4 &&& x3) = 0)) then 0 else 268435456 : Int32)) Q))) : eb_Sn (d + 2) m_X11_laysFar h0 14 [(0, .ref s_MO), (1, .int x1), (2, .int x2), (3, .int x3), (4, .int x4)] [] h Q := by
  refine eb_iload (pc := 14) (i := 4) rfl rfl ?_
  refine eb_aload_n (pc := 16) (n := 0) (i := 0) rfl rfl rfl ?_
  refine eb_ctV (pc := 17) (As := []) (rest := [.int x4]) rfl (by decide) rfl rfl (by decide) rfl (Nat.le_of_ble_eq_true rfl) ?_
  refine eb_bodyQ (by decide) ok_X11_stands (Nat.le_of_ble_eq_true rfl) ?_
  change eb_Sn _ m_X11_stands _ 0 [(0, .ref s_MO)] [] _ _
  refine eb_bipush (pc := 0) (n := 64) (v := 64) rfl rfl ?_
  refine eb_aload_n (pc := 2) (n := 0) (i := 0) rfl rfl rfl ?_
  refine eb_ctV (pc := 3) (As := []) (rest := [.int 64]) rfl (by decide) rfl rfl (by decide) rfl (Nat.le_of_ble_eq_true rfl) ?_
  refine eb_bodyQ (by decide) ok_X11_cells (Nat.le_of_ble_eq_true rfl) ?_
  change eb_Sn _ m_X11_cells _ 0 [(0, .ref s_MO)] [] _ _
  refine eb_aload_n (pc := 0) (n := 0) (i := 0) rfl rfl rfl ?_
  refine eb_getR (pc := 1) rfl rfl (by decide) (by decide) rfl (ko_s_MO_1 ko) ?_
  refine eb_iconst (pc := 4) (n := 1) (v := 1) rfl rfl ?_
  refine eb_iaload (pc := 5) rfl rfl (by decide) (by unfold vp_in; decide) ?_
  refine eb_aload_n (pc := 6) (n := 0) (i := 0) rfl rfl rfl ?_
  refine eb_getR (pc := 7) rfl rfl (by decide) (by decide) rfl (ko_s_MO_1 ko) ?_
  refine eb_iconst (pc := 10) (n := 2) (v := 2) rfl rfl ?_
  refine eb_iaload (pc := 11) rfl rfl (by decide) (by unfold vp_in; decide) ?_
  refine eb_imul (pc := 12) rfl ?_
  refine eb_ireturn (pc := 13) rfl rfl rfl ?_
  change eb_Sn _ _ _ 6 _ [.int ((eb_I h s_m_all (1 : Int32).toNatClampNeg) * (eb_I h s_m_all (2 : Int32).toNatClampNeg)), .int 64] _ _
  refine eb_imul (pc := 6) rfl ?_
  refine eb_ireturn (pc := 7) rfl rfl rfl ?_
  change eb_Sn _ _ _ 20 _ [.int ((64 : Int32) * ((eb_I h s_m_all (1 : Int32).toNatClampNeg) * (eb_I h s_m_all (2 : Int32).toNatClampNeg))), .int x4] _ _
  refine eb_icmp_ge (pc := 20) (tgt := 54) rfl (by decide) (fun c1 => ?_) (fun c1 => ?_)
  · replace w := w.1 c1
    refine eb_iconst (pc := 54) (n := 1) (v := 1) rfl rfl ?_
    refine eb_istore (pc := 55) (i := 4) (ls2 := [(4, .int 1), (0, .ref s_MO), (1, .int x1), (2, .int x2), (3, .int x3)]) (Nat.le_of_ble_eq_true rfl) rfl rfl ?_
    exact eb_pick [1, 0] rfl w
  · replace w := w.2 c1
    refine eb_aload_n (pc := 23) (n := 0) (i := 0) rfl rfl rfl ?_
    refine eb_getR (pc := 24) rfl rfl (by decide) (by decide) rfl (ko_s_MO_22 ko) ?_
    refine eb_iload (pc := 27) (i := 4) rfl rfl ?_
    refine eb_iload (pc := 29) (i := 4) rfl rfl ?_
    refine eb_iload_n (pc := 31) (n := 1) (i := 1) rfl rfl rfl ?_
    refine eb_iload_n (pc := 32) (n := 2) (i := 2) rfl rfl rfl ?_
    refine eb_iload_n (pc := 33) (n := 3) (i := 3) rfl rfl rfl ?_
    refine eb_joinI (pc2 := 37) (ls2 := [(0, .ref s_MO), (1, .int x1), (2, .int x2), (3, .int x3), (4, .int x4)]) (st2 := [.int x4, .ref s_m_far]) (v := eb_q (((x4 / 64) = x1) ∧ (((x4 &&& x2) = x2) ∧ ((x4 &&& x3) = 0)))) ?_ (fun jj9 => ?_)
    · refine eb_joinI (pc2 := 47) (ls2 := [(0, .ref s_MO), (1, .int x1), (2, .int x2), (3, .int x3), (4, .int x4)]) (st2 := [.int x4, .ref s_m_far]) (v := (if ((x4 / 64) = x1) ∧ (((x4 &&& x2) = x2) ∧ ((x4 &&& x3) = 0)) then 0 else 268435456 : Int32)) ?_ (fun jj6 => ?_)
      · obtain ⟨c8, w⟩ := w
        refine eb_iastore (pc := 47) rfl rfl (by decide) c8 ?_
        refine eb_iinc (pc := 48) (i := 4) (n := 1) (v := x4 + 1) (ls2 := [(4, .int (x4 + 1)), (0, .ref s_MO), (1, .int x1), (2, .int x2), (3, .int x3)]) (Nat.le_of_ble_eq_true rfl) rfl rfl rfl rfl ?_
        refine eb_goto (pc := 51) (tgt := 14) rfl (by decide) ?_
        exact eb_pick [1, 2, 3, 4, 0] rfl w
      refine eb_if_eq (pc := 37) (tgt := 44) rfl (by decide) (fun c5 => ?_) (fun c5 => ?_)
      · replace c5 := eb_q0.mp c5
        refine eb_ldcw (pc := 44) (a := 268435456) (v := 268435456) rfl (by decide) ?_
        exact jj6 _ (by simp only [if_neg c5])
      · replace c5 := eb_q1.mp c5
        refine eb_iconst (pc := 40) (n := 0) (v := 0) rfl rfl ?_
        refine eb_goto (pc := 41) (tgt := 47) rfl (by decide) ?_
        exact jj6 _ (by simp only [if_pos c5])
    refine eb_ctS (pc := 34) (As := [.int x4, .int x1, .int x2, .int x3]) (rest := [.int x4, .ref s_m_far]) rfl (by decide) (by decide) rfl rfl (Nat.le_of_ble_eq_true rfl) ?_
    refine eb_bodyQ (by decide) ok_X11_isGoal (Nat.le_of_ble_eq_true rfl) ?_
    change eb_Sn _ m_X11_isGoal _ 0 [(0, .int x4), (1, .int x1), (2, .int x2), (3, .int x3)] [] _ _
    refine eb_iload_n (pc := 0) (n := 0) (i := 0) rfl rfl rfl ?_
    refine eb_bipush (pc := 1) (n := 64) (v := 64) rfl rfl ?_
    refine eb_idiv (pc := 3) (by decide) rfl ?_
    refine eb_iload_n (pc := 4) (n := 1) (i := 1) rfl rfl rfl ?_
    refine eb_icmp_ne (pc := 5) (tgt := 25) rfl (by decide) (fun c2 => ?_) (fun c2 => ?_)
    · refine eb_iconst (pc := 25) (n := 0) (v := 0) rfl rfl ?_
      refine eb_ireturn (pc := 26) rfl rfl (by decide) ?_
      change eb_Sn _ _ _ 37 _ _ _ _
      exact jj9 0 (eb_qf (fun z => c2 z.1)).symm
    · refine eb_iload_n (pc := 8) (n := 0) (i := 0) rfl rfl rfl ?_
      refine eb_iload_n (pc := 9) (n := 2) (i := 2) rfl rfl rfl ?_
      refine eb_iand (pc := 10) rfl ?_
      refine eb_iload_n (pc := 11) (n := 2) (i := 2) rfl rfl rfl ?_
      refine eb_icmp_ne (pc := 12) (tgt := 25) rfl (by decide) (fun c3 => ?_) (fun c3 => ?_)
      · refine eb_iconst (pc := 25) (n := 0) (v := 0) rfl rfl ?_
        refine eb_ireturn (pc := 26) rfl rfl (by decide) ?_
        change eb_Sn _ _ _ 37 _ _ _ _
        exact jj9 0 (eb_qf (fun z => (fun z => c3 z.1) z.2)).symm
      · refine eb_iload_n (pc := 15) (n := 0) (i := 0) rfl rfl rfl ?_
        refine eb_iload_n (pc := 16) (n := 3) (i := 3) rfl rfl rfl ?_
        refine eb_iand (pc := 17) rfl ?_
        refine eb_if_ne (pc := 18) (tgt := 25) rfl (by decide) (fun c4 => ?_) (fun c4 => ?_)
        · refine eb_iconst (pc := 25) (n := 0) (v := 0) rfl rfl ?_
          refine eb_ireturn (pc := 26) rfl rfl (by decide) ?_
          change eb_Sn _ _ _ 37 _ _ _ _
          exact jj9 0 (eb_qf (fun z => (fun z => c4 z.2) z.2)).symm
        · refine eb_iconst (pc := 21) (n := 1) (v := 1) rfl rfl ?_
          refine eb_goto (pc := 22) (tgt := 26) rfl (by decide) ?_
          refine eb_ireturn (pc := 26) rfl rfl (by decide) ?_
          change eb_Sn _ _ _ 37 _ _ _ _
          exact jj9 1 (eb_qt (⟨c2, ⟨c3, c4⟩⟩)).symm
theorem b_X11_laysFar_57 {d : Nat} {h0 h : eb_H} {Q : Option Value → eb_H → Prop} (x4 : Int32)  (ko : eb_KO h) (w : ((x4 = 0 → (vp_in (((64 : Int32) * (eb_I h s_m_all (31 : Int32).toNatClampNeg)) + (eb_I h s_m_all (32 : Int32).toNatClampNeg)) 1024) ∧ Q (some (.int (eb_I h s_m_far (((64 : Int32) * (eb_I h s_m_all (31 : Int32).toNatClampNeg)) + (eb_I h s_m_all (32 : Int32).toNatClampNeg)).toNatClampNeg))) h) ∧ (¬ (x4 = 0) → eb_Sn (d + 2) m_X11_laysFar h0 68 [(0, .ref s_MO), (4, .int 0), (5, .int 0)] [] h Q))) : eb_Sn (d + 2) m_X11_laysFar h0 57 [(0, .ref s_MO), (4, .int x4)] [] h Q := by
  refine eb_iload (pc := 57) (i := 4) rfl rfl ?_
  refine eb_if_eq (pc := 59) (tgt := 150) rfl (by decide) (fun c1 => ?_) (fun c1 => ?_)
  · replace w := w.1 c1
    refine eb_aload_n (pc := 150) (n := 0) (i := 0) rfl rfl rfl ?_
    refine eb_getR (pc := 151) rfl rfl (by decide) (by decide) rfl (ko_s_MO_22 ko) ?_
    refine eb_aload_n (pc := 154) (n := 0) (i := 0) rfl rfl rfl ?_
    refine eb_ctV (pc := 155) (As := []) (rest := [.ref s_m_far]) rfl (by decide) rfl rfl (by decide) rfl (Nat.le_of_ble_eq_true rfl) ?_
    refine eb_bodyQ (by decide) ok_X11_standNow (Nat.le_of_ble_eq_true rfl) ?_
    change eb_Sn _ m_X11_standNow _ 0 [(0, .ref s_MO)] [] _ _
    refine eb_bipush (pc := 0) (n := 64) (v := 64) rfl rfl ?_
    refine eb_aload_n (pc := 2) (n := 0) (i := 0) rfl rfl rfl ?_
    refine eb_getR (pc := 3) rfl rfl (by decide) (by decide) rfl (ko_s_MO_1 ko) ?_
    refine eb_bipush (pc := 6) (n := 31) (v := 31) rfl rfl ?_
    refine eb_iaload (pc := 8) rfl rfl (by decide) (by unfold vp_in; decide) ?_
    refine eb_imul (pc := 9) rfl ?_
    refine eb_aload_n (pc := 10) (n := 0) (i := 0) rfl rfl rfl ?_
    refine eb_getR (pc := 11) rfl rfl (by decide) (by decide) rfl (ko_s_MO_1 ko) ?_
    refine eb_bipush (pc := 14) (n := 32) (v := 32) rfl rfl ?_
    refine eb_iaload (pc := 16) rfl rfl (by decide) (by unfold vp_in; decide) ?_
    refine eb_iadd (pc := 17) rfl ?_
    refine eb_ireturn (pc := 18) rfl rfl rfl ?_
    change eb_Sn _ _ _ 158 _ [.int (((64 : Int32) * (eb_I h s_m_all (31 : Int32).toNatClampNeg)) + (eb_I h s_m_all (32 : Int32).toNatClampNeg)), .ref s_m_far] _ _
    obtain ⟨c2, w⟩ := w
    refine eb_iaload (pc := 158) rfl rfl (by decide) c2 ?_
    exact eb_ireturn (pc := 159) rfl rfl rfl w
  · replace w := w.2 c1
    refine eb_iconst (pc := 62) (n := 0) (v := 0) rfl rfl ?_
    refine eb_istore (pc := 63) (i := 4) (ls2 := [(4, .int 0), (0, .ref s_MO)]) (Nat.le_of_ble_eq_true rfl) rfl rfl ?_
    refine eb_iconst (pc := 65) (n := 0) (v := 0) rfl rfl ?_
    refine eb_istore (pc := 66) (i := 5) (ls2 := [(5, .int 0), (4, .int 0), (0, .ref s_MO)]) (Nat.le_of_ble_eq_true rfl) rfl rfl ?_
    exact eb_pick [2, 1, 0] rfl w
theorem b_X11_laysFar_68 {d : Nat} {h0 h : eb_H} {Q : Option Value → eb_H → Prop} (x4 : Int32) (x5 : Int32)  (ko : eb_KO h) (w : ((((64 : Int32) * ((eb_I h s_m_all (1 : Int32).toNatClampNeg) * (eb_I h s_m_all (2 : Int32).toNatClampNeg))) ≤ x5 → eb_Sn (d + 2) m_X11_laysFar h0 57 [(0, .ref s_MO), (4, .int x4)] [] h Q) ∧ (¬ (((64 : Int32) * ((eb_I h s_m_all (1 : Int32).toNatClampNeg) * (eb_I h s_m_all (2 : Int32).toNatClampNeg))) ≤ x5) → eb_Sn (d + 2) m_X11_laysFar h0 80 [(0, .ref s_MO), (4, .int x4), (5, .int x5), (6, .int 0)] [] h Q))) : eb_Sn (d + 2) m_X11_laysFar h0 68 [(0, .ref s_MO), (4, .int x4), (5, .int x5)] [] h Q := by
  refine eb_iload (pc := 68) (i := 5) rfl rfl ?_
  refine eb_aload_n (pc := 70) (n := 0) (i := 0) rfl rfl rfl ?_
  refine eb_ctV (pc := 71) (As := []) (rest := [.int x5]) rfl (by decide) rfl rfl (by decide) rfl (Nat.le_of_ble_eq_true rfl) ?_
  refine eb_bodyQ (by decide) ok_X11_stands (Nat.le_of_ble_eq_true rfl) ?_
  change eb_Sn _ m_X11_stands _ 0 [(0, .ref s_MO)] [] _ _
  refine eb_bipush (pc := 0) (n := 64) (v := 64) rfl rfl ?_
  refine eb_aload_n (pc := 2) (n := 0) (i := 0) rfl rfl rfl ?_
  refine eb_ctV (pc := 3) (As := []) (rest := [.int 64]) rfl (by decide) rfl rfl (by decide) rfl (Nat.le_of_ble_eq_true rfl) ?_
  refine eb_bodyQ (by decide) ok_X11_cells (Nat.le_of_ble_eq_true rfl) ?_
  change eb_Sn _ m_X11_cells _ 0 [(0, .ref s_MO)] [] _ _
  refine eb_aload_n (pc := 0) (n := 0) (i := 0) rfl rfl rfl ?_
  refine eb_getR (pc := 1) rfl rfl (by decide) (by decide) rfl (ko_s_MO_1 ko) ?_
  refine eb_iconst (pc := 4) (n := 1) (v := 1) rfl rfl ?_
  refine eb_iaload (pc := 5) rfl rfl (by decide) (by unfold vp_in; decide) ?_
  refine eb_aload_n (pc := 6) (n := 0) (i := 0) rfl rfl rfl ?_
  refine eb_getR (pc := 7) rfl rfl (by decide) (by decide) rfl (ko_s_MO_1 ko) ?_
  refine eb_iconst (pc := 10) (n := 2) (v := 2) rfl rfl ?_
  refine eb_iaload (pc := 11) rfl rfl (by decide) (by unfold vp_in; decide) ?_
  refine eb_imul (pc := 12) rfl ?_
  refine eb_ireturn (pc := 13) rfl rfl rfl ?_
  change eb_Sn _ _ _ 6 _ [.int ((eb_I h s_m_all (1 : Int32).toNatClampNeg) * (eb_I h s_m_all (2 : Int32).toNatClampNeg)), .int 64] _ _
  refine eb_imul (pc := 6) rfl ?_
  refine eb_ireturn (pc := 7) rfl rfl rfl ?_
  change eb_Sn _ _ _ 74 _ [.int ((64 : Int32) * ((eb_I h s_m_all (1 : Int32).toNatClampNeg) * (eb_I h s_m_all (2 : Int32).toNatClampNeg))), .int x5] _ _
  refine eb_icmp_ge (pc := 74) (tgt := 147) rfl (by decide) (fun c1 => ?_) (fun c1 => ?_)
  · replace w := w.1 c1
    refine eb_goto (pc := 147) (tgt := 57) rfl (by decide) ?_
    exact eb_pick [0, 1] rfl w
  · replace w := w.2 c1
    refine eb_iconst (pc := 77) (n := 0) (v := 0) rfl rfl ?_
    refine eb_istore (pc := 78) (i := 6) (ls2 := [(6, .int 0), (0, .ref s_MO), (4, .int x4), (5, .int x5)]) (Nat.le_of_ble_eq_true rfl) rfl rfl ?_
    exact eb_pick [1, 2, 3, 0] rfl w
theorem b_X11_laysFar_80 {d : Nat} {h0 h : eb_H} {Q : Option Value → eb_H → Prop} (x4 : Int32) (x5 : Int32) (x6 : Int32)  (ko : eb_KO h) (w : (((4 : Int32) ≤ x6 → eb_Sn (d + 2) m_X11_laysFar h0 68 [(0, .ref s_MO), (4, .int x4), (5, .int (x5 + 1))] [] h Q) ∧ (¬ ((4 : Int32) ≤ x6) → (vp_in x5 1024) ∧ (((eb_I h s_m_far x5.toNatClampNeg) ≤ 0 → eb_Sn (d + 2) m_X11_laysFar h0 68 [(0, .ref s_MO), (4, .int x4), (5, .int (x5 + 1))] [] h Q) ∧ (¬ ((eb_I h s_m_far x5.toNatClampNeg) ≤ 0) → (vp_in (((4 : Int32) * x5) + x6) 4096) ∧ (((eb_I h s_m_then (((4 : Int32) * x5) + x6).toNatClampNeg) = ((-1) : Int32) → (vp_in x5 1024) ∧ (((268435456 : Int32) < (eb_I h s_m_far x5.toNatClampNeg) → (vp_in (((4 : Int32) * x5) + x6) 4096) ∧ (vp_in x5 1024) ∧ eb_Sn (d + 2) m_X11_laysFar h0 80 [(0, .ref s_MO), (4, .int 1), (5, .int x5), (6, .int (x6 + 1))] [] (eb_sI h s_m_far x5.toNatClampNeg 268435456) Q) ∧ (¬ ((268435456 : Int32) < (eb_I h s_m_far x5.toNatClampNeg)) → eb_Sn (d + 2) m_X11_laysFar h0 80 [(0, .ref s_MO), (4, .int x4), (5, .int x5), (6, .int (x6 + 1))] [] h Q))) ∧ (¬ ((eb_I h s_m_then (((4 : Int32) * x5) + x6).toNatClampNeg) = ((-1) : Int32)) → (vp_in (eb_I h s_m_then (((4 : Int32) * x5) + x6).toNatClampNeg) 1024) ∧ ((¬ (eb_I h s_m_far (eb_I h s_m_then (((4 : Int32) * x5) + x6).toNatClampNeg).toNatClampNeg) = (268435456 : Int32) → (vp_in (eb_I h s_m_then (((4 : Int32) * x5) + x6).toNatClampNeg) 1024) ∧ (vp_in x5 1024) ∧ ((((eb_I h s_m_far (eb_I h s_m_then (((4 : Int32) * x5) + x6).toNatClampNeg).toNatClampNeg) + 1) < (eb_I h s_m_far x5.toNatClampNeg) → (vp_in (((4 : Int32) * x5) + x6) 4096) ∧ (vp_in (eb_I h s_m_then (((4 : Int32) * x5) + x6).toNatClampNeg) 1024) ∧ (vp_in (eb_I h s_m_then (((4 : Int32) * x5) + x6).toNatClampNeg) 1024) ∧ (vp_in x5 1024) ∧ eb_Sn (d + 2) m_X11_laysFar h0 80 [(0, .ref s_MO), (4, .int 1), (5, .int x5), (6, .int (x6 + 1))] [] (eb_sI h s_m_far x5.toNatClampNeg ((eb_I h s_m_far (eb_I h s_m_then (((4 : Int32) * x5) + x6).toNatClampNeg).toNatClampNeg) + 1)) Q) ∧ (¬ (((eb_I h s_m_far (eb_I h s_m_then (((4 : Int32) * x5) + x6).toNatClampNeg).toNatClampNeg) + 1) < (eb_I h s_m_far x5.toNatClampNeg)) → eb_Sn (d + 2) m_X11_laysFar h0 80 [(0, .ref s_MO), (4, .int x4), (5, .int x5), (6, .int (x6 + 1))] [] h Q))) ∧ ((eb_I h s_m_far (eb_I h s_m_then (((4 : Int32) * x5) + x6).toNatClampNeg).toNatClampNeg) = (268435456 : Int32) → (vp_in x5 1024) ∧ (((268435456 : Int32) < (eb_I h s_m_far x5.toNatClampNeg) → (vp_in (((4 : Int32) * x5) + x6) 4096) ∧ (vp_in (eb_I h s_m_then (((4 : Int32) * x5) + x6).toNatClampNeg) 1024) ∧ (vp_in x5 1024) ∧ eb_Sn (d + 2) m_X11_laysFar h0 80 [(0, .ref s_MO), (4, .int 1), (5, .int x5), (6, .int (x6 + 1))] [] (eb_sI h s_m_far x5.toNatClampNeg 268435456) Q) ∧ (¬ ((268435456 : Int32) < (eb_I h s_m_far x5.toNatClampNeg)) → eb_Sn (d + 2) m_X11_laysFar h0 80 [(0, .ref s_MO), (4, .int x4), (5, .int x5), (6, .int (x6 + 1))] [] h Q))))))))))) : eb_Sn (d + 2) m_X11_laysFar h0 80 [(0, .ref s_MO), (4, .int x4), (5, .int x5), (6, .int x6)] [] h Q := by
  refine eb_iload (pc := 80) (i := 6) rfl rfl ?_
  refine eb_iconst (pc := 82) (n := 4) (v := 4) rfl rfl ?_
  refine eb_icmp_ge (pc := 83) (tgt := 141) rfl (by decide) (fun c1 => ?_) (fun c1 => ?_)
  · replace w := w.1 c1
    refine eb_iinc (pc := 141) (i := 5) (n := 1) (v := x5 + 1) (ls2 := [(5, .int (x5 + 1)), (0, .ref s_MO), (4, .int x4), (6, .int x6)]) (Nat.le_of_ble_eq_true rfl) rfl rfl rfl rfl ?_
    refine eb_goto (pc := 144) (tgt := 68) rfl (by decide) ?_
    exact eb_pick [1, 2, 0] rfl w
  · replace w := w.2 c1
    refine eb_aload_n (pc := 86) (n := 0) (i := 0) rfl rfl rfl ?_
    refine eb_getR (pc := 87) rfl rfl (by decide) (by decide) rfl (ko_s_MO_22 ko) ?_
    refine eb_iload (pc := 90) (i := 5) rfl rfl ?_
    obtain ⟨c2, w⟩ := w
    refine eb_iaload (pc := 92) rfl rfl (by decide) c2 ?_
    refine eb_if_le (pc := 93) (tgt := 141) rfl (by decide) (fun c3 => ?_) (fun c3 => ?_)
    · replace w := w.1 c3
      refine eb_iinc (pc := 141) (i := 5) (n := 1) (v := x5 + 1) (ls2 := [(5, .int (x5 + 1)), (0, .ref s_MO), (4, .int x4), (6, .int x6)]) (Nat.le_of_ble_eq_true rfl) rfl rfl rfl rfl ?_
      refine eb_goto (pc := 144) (tgt := 68) rfl (by decide) ?_
      exact eb_pick [1, 2, 0] rfl w
    · replace w := w.2 c3
      refine eb_aload_n (pc := 96) (n := 0) (i := 0) rfl rfl rfl ?_
      refine eb_iload (pc := 97) (i := 5) rfl rfl ?_
      refine eb_iload (pc := 99) (i := 6) rfl rfl ?_
      refine eb_ctV (pc := 101) (As := [.int x5, .int x6]) (rest := []) rfl (by decide) rfl rfl (by decide) rfl (Nat.le_of_ble_eq_true rfl) ?_
      refine eb_bodyQ (by decide) ok_X11_farBy (Nat.le_of_ble_eq_true rfl) ?_
      change eb_Sn _ m_X11_farBy _ 0 [(0, .ref s_MO), (1, .int x5), (2, .int x6)] [] _ _
      refine eb_aload_n (pc := 0) (n := 0) (i := 0) rfl rfl rfl ?_
      refine eb_getR (pc := 1) rfl rfl (by decide) (by decide) rfl (ko_s_MO_21 ko) ?_
      refine eb_iconst (pc := 4) (n := 4) (v := 4) rfl rfl ?_
      refine eb_iload_n (pc := 5) (n := 1) (i := 1) rfl rfl rfl ?_
      refine eb_imul (pc := 6) rfl ?_
      refine eb_iload_n (pc := 7) (n := 2) (i := 2) rfl rfl rfl ?_
      refine eb_iadd (pc := 8) rfl ?_
      obtain ⟨c4, w⟩ := w
      refine eb_iaload (pc := 9) rfl rfl (by decide) c4 ?_
      refine eb_istore_n (pc := 10) (n := 3) (i := 3) (ls2 := [(3, .int (eb_I h s_m_then (((4 : Int32) * x5) + x6).toNatClampNeg)), (0, .ref s_MO), (1, .int x5), (2, .int x6)]) rfl (Nat.le_of_ble_eq_true rfl) rfl rfl ?_
      refine eb_iload_n (pc := 11) (n := 3) (i := 3) rfl rfl rfl ?_
      refine eb_iconst (pc := 12) (n := -1) (v := (-1)) rfl rfl ?_
      refine eb_icmp_eq (pc := 13) (tgt := 28) rfl (by decide) (fun c5 => ?_) (fun c5 => ?_)
      · replace w := w.1 c5
        refine eb_ldcw (pc := 28) (a := 268435456) (v := 268435456) rfl (by decide) ?_
        refine eb_goto (pc := 31) (tgt := 42) rfl (by decide) ?_
        refine eb_ireturn (pc := 42) rfl rfl rfl ?_
        change eb_Sn _ _ _ 104 _ [.int 268435456] _ _
        refine eb_aload_n (pc := 104) (n := 0) (i := 0) rfl rfl rfl ?_
        refine eb_getR (pc := 105) rfl rfl (by decide) (by decide) rfl (ko_s_MO_22 ko) ?_
        refine eb_iload (pc := 108) (i := 5) rfl rfl ?_
        obtain ⟨c9, w⟩ := w
        refine eb_iaload (pc := 110) rfl rfl (by decide) c9 ?_
        refine eb_icmp_lt (pc := 111) (tgt := 117) rfl (by decide) (fun c10 => ?_) (fun c10 => ?_)
        · replace w := w.1 c10
          refine eb_aload_n (pc := 117) (n := 0) (i := 0) rfl rfl rfl ?_
          refine eb_getR (pc := 118) rfl rfl (by decide) (by decide) rfl (ko_s_MO_22 ko) ?_
          refine eb_iload (pc := 121) (i := 5) rfl rfl ?_
          refine eb_aload_n (pc := 123) (n := 0) (i := 0) rfl rfl rfl ?_
          refine eb_iload (pc := 124) (i := 5) rfl rfl ?_
          refine eb_iload (pc := 126) (i := 6) rfl rfl ?_
          refine eb_ctV (pc := 128) (As := [.int x5, .int x6]) (rest := [.int x5, .ref s_m_far]) rfl (by decide) rfl rfl (by decide) rfl (Nat.le_of_ble_eq_true rfl) ?_
          refine eb_bodyQ (by decide) ok_X11_farBy (Nat.le_of_ble_eq_true rfl) ?_
          change eb_Sn _ m_X11_farBy _ 0 [(0, .ref s_MO), (1, .int x5), (2, .int x6)] [] _ _
          refine eb_aload_n (pc := 0) (n := 0) (i := 0) rfl rfl rfl ?_
          refine eb_getR (pc := 1) rfl rfl (by decide) (by decide) rfl (ko_s_MO_21 ko) ?_
          refine eb_iconst (pc := 4) (n := 4) (v := 4) rfl rfl ?_
          refine eb_iload_n (pc := 5) (n := 1) (i := 1) rfl rfl rfl ?_
          refine eb_imul (pc := 6) rfl ?_
          refine eb_iload_n (pc := 7) (n := 2) (i := 2) rfl rfl rfl ?_
          refine eb_iadd (pc := 8) rfl ?_
          obtain ⟨c11, w⟩ := w
          refine eb_iaload (pc := 9) rfl rfl (by decide) c11 ?_
          refine eb_istore_n (pc := 10) (n := 3) (i := 3) (ls2 := [(3, .int (eb_I h s_m_then (((4 : Int32) * x5) + x6).toNatClampNeg)), (0, .ref s_MO), (1, .int x5), (2, .int x6)]) rfl (Nat.le_of_ble_eq_true rfl) rfl rfl ?_
          refine eb_iload_n (pc := 11) (n := 3) (i := 3) rfl rfl rfl ?_
          refine eb_iconst (pc := 12) (n := -1) (v := (-1)) rfl rfl ?_
          refine eb_icmp_eq (pc := 13) (tgt := 28) rfl (by decide) (fun _ => ?_) (fun c => by have c9 := c; contradiction)
          refine eb_ldcw (pc := 28) (a := 268435456) (v := 268435456) rfl (by decide) ?_
          refine eb_goto (pc := 31) (tgt := 42) rfl (by decide) ?_
          refine eb_ireturn (pc := 42) rfl rfl rfl ?_
          change eb_Sn _ _ _ 131 _ [.int 268435456, .int x5, .ref s_m_far] _ _
          obtain ⟨c12, w⟩ := w
          refine eb_iastore (pc := 131) rfl rfl (by decide) c12 ?_
          refine eb_iconst (pc := 132) (n := 1) (v := 1) rfl rfl ?_
          refine eb_istore (pc := 133) (i := 4) (ls2 := [(4, .int 1), (0, .ref s_MO), (5, .int x5), (6, .int x6)]) (Nat.le_of_ble_eq_true rfl) rfl rfl ?_
          refine eb_iinc (pc := 135) (i := 6) (n := 1) (v := x6 + 1) (ls2 := [(6, .int (x6 + 1)), (4, .int 1), (0, .ref s_MO), (5, .int x5)]) (Nat.le_of_ble_eq_true rfl) rfl rfl rfl rfl ?_
          refine eb_goto (pc := 138) (tgt := 80) rfl (by decide) ?_
          exact eb_pick [2, 1, 3, 0] rfl w
        · replace w := w.2 c10
          refine eb_goto (pc := 114) (tgt := 135) rfl (by decide) ?_
          refine eb_iinc (pc := 135) (i := 6) (n := 1) (v := x6 + 1) (ls2 := [(6, .int (x6 + 1)), (0, .ref s_MO), (4, .int x4), (5, .int x5)]) (Nat.le_of_ble_eq_true rfl) rfl rfl rfl rfl ?_
          refine eb_goto (pc := 138) (tgt := 80) rfl (by decide) ?_
          exact eb_pick [1, 2, 3, 0] rfl w
      · replace w := w.2 c5
        refine eb_aload_n (pc := 16) (n := 0) (i := 0) rfl rfl rfl ?_
        refine eb_getR (pc := 17) rfl rfl (by decide) (by decide) rfl (ko_s_MO_22 ko) ?_
        refine eb_iload_n (pc := 20) (n := 3) (i := 3) rfl rfl rfl ?_
        obtain ⟨c6, w⟩ := w
        refine eb_iaload (pc := 21) rfl rfl (by decide) c6 ?_
        refine eb_ldcw (pc := 22) (a := 268435456) (v := 268435456) rfl (by decide) ?_
        refine eb_icmp_ne (pc := 25) (tgt := 34) rfl (by decide) (fun c7 => ?_) (fun c7 => ?_)
        · replace w := w.1 c7
          refine eb_aload_n (pc := 34) (n := 0) (i := 0) rfl rfl rfl ?_
          refine eb_getR (pc := 35) rfl rfl (by decide) (by decide) rfl (ko_s_MO_22 ko) ?_
          refine eb_iload_n (pc := 38) (n := 3) (i := 3) rfl rfl rfl ?_
          obtain ⟨c8, w⟩ := w
          refine eb_iaload (pc := 39) rfl rfl (by decide) c8 ?_
          refine eb_iconst (pc := 40) (n := 1) (v := 1) rfl rfl ?_
          refine eb_iadd (pc := 41) rfl ?_
          refine eb_ireturn (pc := 42) rfl rfl rfl ?_
          change eb_Sn _ _ _ 104 _ [.int ((eb_I h s_m_far (eb_I h s_m_then (((4 : Int32) * x5) + x6).toNatClampNeg).toNatClampNeg) + 1)] _ _
          refine eb_aload_n (pc := 104) (n := 0) (i := 0) rfl rfl rfl ?_
          refine eb_getR (pc := 105) rfl rfl (by decide) (by decide) rfl (ko_s_MO_22 ko) ?_
          refine eb_iload (pc := 108) (i := 5) rfl rfl ?_
          obtain ⟨c13, w⟩ := w
          refine eb_iaload (pc := 110) rfl rfl (by decide) c13 ?_
          refine eb_icmp_lt (pc := 111) (tgt := 117) rfl (by decide) (fun c14 => ?_) (fun c14 => ?_)
          · replace w := w.1 c14
            refine eb_aload_n (pc := 117) (n := 0) (i := 0) rfl rfl rfl ?_
            refine eb_getR (pc := 118) rfl rfl (by decide) (by decide) rfl (ko_s_MO_22 ko) ?_
            refine eb_iload (pc := 121) (i := 5) rfl rfl ?_
            refine eb_aload_n (pc := 123) (n := 0) (i := 0) rfl rfl rfl ?_
            refine eb_iload (pc := 124) (i := 5) rfl rfl ?_
            refine eb_iload (pc := 126) (i := 6) rfl rfl ?_
            refine eb_ctV (pc := 128) (As := [.int x5, .int x6]) (rest := [.int x5, .ref s_m_far]) rfl (by decide) rfl rfl (by decide) rfl (Nat.le_of_ble_eq_true rfl) ?_
            refine eb_bodyQ (by decide) ok_X11_farBy (Nat.le_of_ble_eq_true rfl) ?_
            change eb_Sn _ m_X11_farBy _ 0 [(0, .ref s_MO), (1, .int x5), (2, .int x6)] [] _ _
            refine eb_aload_n (pc := 0) (n := 0) (i := 0) rfl rfl rfl ?_
            refine eb_getR (pc := 1) rfl rfl (by decide) (by decide) rfl (ko_s_MO_21 ko) ?_
            refine eb_iconst (pc := 4) (n := 4) (v := 4) rfl rfl ?_
            refine eb_iload_n (pc := 5) (n := 1) (i := 1) rfl rfl rfl ?_
            refine eb_imul (pc := 6) rfl ?_
            refine eb_iload_n (pc := 7) (n := 2) (i := 2) rfl rfl rfl ?_
            refine eb_iadd (pc := 8) rfl ?_
            obtain ⟨c15, w⟩ := w
            refine eb_iaload (pc := 9) rfl rfl (by decide) c15 ?_
            refine eb_istore_n (pc := 10) (n := 3) (i := 3) (ls2 := [(3, .int (eb_I h s_m_then (((4 : Int32) * x5) + x6).toNatClampNeg)), (0, .ref s_MO), (1, .int x5), (2, .int x6)]) rfl (Nat.le_of_ble_eq_true rfl) rfl rfl ?_
            refine eb_iload_n (pc := 11) (n := 3) (i := 3) rfl rfl rfl ?_
            refine eb_iconst (pc := 12) (n := -1) (v := (-1)) rfl rfl ?_
            refine eb_icmp_eq (pc := 13) (tgt := 28) rfl (by decide) (fun c => by have c9 := c; contradiction) (fun _ => ?_)
            refine eb_aload_n (pc := 16) (n := 0) (i := 0) rfl rfl rfl ?_
            refine eb_getR (pc := 17) rfl rfl (by decide) (by decide) rfl (ko_s_MO_22 ko) ?_
            refine eb_iload_n (pc := 20) (n := 3) (i := 3) rfl rfl rfl ?_
            obtain ⟨c16, w⟩ := w
            refine eb_iaload (pc := 21) rfl rfl (by decide) c16 ?_
            refine eb_ldcw (pc := 22) (a := 268435456) (v := 268435456) rfl (by decide) ?_
            refine eb_icmp_ne (pc := 25) (tgt := 34) rfl (by decide) (fun _ => ?_) (fun c => by have c9 := c; contradiction)
            refine eb_aload_n (pc := 34) (n := 0) (i := 0) rfl rfl rfl ?_
            refine eb_getR (pc := 35) rfl rfl (by decide) (by decide) rfl (ko_s_MO_22 ko) ?_
            refine eb_iload_n (pc := 38) (n := 3) (i := 3) rfl rfl rfl ?_
            obtain ⟨c17, w⟩ := w
            refine eb_iaload (pc := 39) rfl rfl (by decide) c17 ?_
            refine eb_iconst (pc := 40) (n := 1) (v := 1) rfl rfl ?_
            refine eb_iadd (pc := 41) rfl ?_
            refine eb_ireturn (pc := 42) rfl rfl rfl ?_
            change eb_Sn _ _ _ 131 _ [.int ((eb_I h s_m_far (eb_I h s_m_then (((4 : Int32) * x5) + x6).toNatClampNeg).toNatClampNeg) + 1), .int x5, .ref s_m_far] _ _
            obtain ⟨c18, w⟩ := w
            refine eb_iastore (pc := 131) rfl rfl (by decide) c18 ?_
            refine eb_iconst (pc := 132) (n := 1) (v := 1) rfl rfl ?_
            refine eb_istore (pc := 133) (i := 4) (ls2 := [(4, .int 1), (0, .ref s_MO), (5, .int x5), (6, .int x6)]) (Nat.le_of_ble_eq_true rfl) rfl rfl ?_
            refine eb_iinc (pc := 135) (i := 6) (n := 1) (v := x6 + 1) (ls2 := [(6, .int (x6 + 1)), (4, .int 1), (0, .ref s_MO), (5, .int x5)]) (Nat.le_of_ble_eq_true rfl) rfl rfl rfl rfl ?_
            refine eb_goto (pc := 138) (tgt := 80) rfl (by decide) ?_
            exact eb_pick [2, 1, 3, 0] rfl w
          · replace w := w.2 c14
            refine eb_goto (pc := 114) (tgt := 135) rfl (by decide) ?_
            refine eb_iinc (pc := 135) (i := 6) (n := 1) (v := x6 + 1) (ls2 := [(6, .int (x6 + 1)), (0, .ref s_MO), (4, .int x4), (5, .int x5)]) (Nat.le_of_ble_eq_true rfl) rfl rfl rfl rfl ?_
            refine eb_goto (pc := 138) (tgt := 80) rfl (by decide) ?_
            exact eb_pick [1, 2, 3, 0] rfl w
        · replace w := w.2 c7
          refine eb_ldcw (pc := 28) (a := 268435456) (v := 268435456) rfl (by decide) ?_
          refine eb_goto (pc := 31) (tgt := 42) rfl (by decide) ?_
          refine eb_ireturn (pc := 42) rfl rfl rfl ?_
          change eb_Sn _ _ _ 104 _ [.int 268435456] _ _
          refine eb_aload_n (pc := 104) (n := 0) (i := 0) rfl rfl rfl ?_
          refine eb_getR (pc := 105) rfl rfl (by decide) (by decide) rfl (ko_s_MO_22 ko) ?_
          refine eb_iload (pc := 108) (i := 5) rfl rfl ?_
          obtain ⟨c19, w⟩ := w
          refine eb_iaload (pc := 110) rfl rfl (by decide) c19 ?_
          refine eb_icmp_lt (pc := 111) (tgt := 117) rfl (by decide) (fun c20 => ?_) (fun c20 => ?_)
          · replace w := w.1 c20
            refine eb_aload_n (pc := 117) (n := 0) (i := 0) rfl rfl rfl ?_
            refine eb_getR (pc := 118) rfl rfl (by decide) (by decide) rfl (ko_s_MO_22 ko) ?_
            refine eb_iload (pc := 121) (i := 5) rfl rfl ?_
            refine eb_aload_n (pc := 123) (n := 0) (i := 0) rfl rfl rfl ?_
            refine eb_iload (pc := 124) (i := 5) rfl rfl ?_
            refine eb_iload (pc := 126) (i := 6) rfl rfl ?_
            refine eb_ctV (pc := 128) (As := [.int x5, .int x6]) (rest := [.int x5, .ref s_m_far]) rfl (by decide) rfl rfl (by decide) rfl (Nat.le_of_ble_eq_true rfl) ?_
            refine eb_bodyQ (by decide) ok_X11_farBy (Nat.le_of_ble_eq_true rfl) ?_
            change eb_Sn _ m_X11_farBy _ 0 [(0, .ref s_MO), (1, .int x5), (2, .int x6)] [] _ _
            refine eb_aload_n (pc := 0) (n := 0) (i := 0) rfl rfl rfl ?_
            refine eb_getR (pc := 1) rfl rfl (by decide) (by decide) rfl (ko_s_MO_21 ko) ?_
            refine eb_iconst (pc := 4) (n := 4) (v := 4) rfl rfl ?_
            refine eb_iload_n (pc := 5) (n := 1) (i := 1) rfl rfl rfl ?_
            refine eb_imul (pc := 6) rfl ?_
            refine eb_iload_n (pc := 7) (n := 2) (i := 2) rfl rfl rfl ?_
            refine eb_iadd (pc := 8) rfl ?_
            obtain ⟨c21, w⟩ := w
            refine eb_iaload (pc := 9) rfl rfl (by decide) c21 ?_
            refine eb_istore_n (pc := 10) (n := 3) (i := 3) (ls2 := [(3, .int (eb_I h s_m_then (((4 : Int32) * x5) + x6).toNatClampNeg)), (0, .ref s_MO), (1, .int x5), (2, .int x6)]) rfl (Nat.le_of_ble_eq_true rfl) rfl rfl ?_
            refine eb_iload_n (pc := 11) (n := 3) (i := 3) rfl rfl rfl ?_
            refine eb_iconst (pc := 12) (n := -1) (v := (-1)) rfl rfl ?_
            refine eb_icmp_eq (pc := 13) (tgt := 28) rfl (by decide) (fun c => by have c9 := c; contradiction) (fun _ => ?_)
            refine eb_aload_n (pc := 16) (n := 0) (i := 0) rfl rfl rfl ?_
            refine eb_getR (pc := 17) rfl rfl (by decide) (by decide) rfl (ko_s_MO_22 ko) ?_
            refine eb_iload_n (pc := 20) (n := 3) (i := 3) rfl rfl rfl ?_
            obtain ⟨c22, w⟩ := w
            refine eb_iaload (pc := 21) rfl rfl (by decide) c22 ?_
            refine eb_ldcw (pc := 22) (a := 268435456) (v := 268435456) rfl (by decide) ?_
            refine eb_icmp_ne (pc := 25) (tgt := 34) rfl (by decide) (fun c => by have c9 := c; contradiction) (fun _ => ?_)
            refine eb_ldcw (pc := 28) (a := 268435456) (v := 268435456) rfl (by decide) ?_
            refine eb_goto (pc := 31) (tgt := 42) rfl (by decide) ?_
            refine eb_ireturn (pc := 42) rfl rfl rfl ?_
            change eb_Sn _ _ _ 131 _ [.int 268435456, .int x5, .ref s_m_far] _ _
            obtain ⟨c23, w⟩ := w
            refine eb_iastore (pc := 131) rfl rfl (by decide) c23 ?_
            refine eb_iconst (pc := 132) (n := 1) (v := 1) rfl rfl ?_
            refine eb_istore (pc := 133) (i := 4) (ls2 := [(4, .int 1), (0, .ref s_MO), (5, .int x5), (6, .int x6)]) (Nat.le_of_ble_eq_true rfl) rfl rfl ?_
            refine eb_iinc (pc := 135) (i := 6) (n := 1) (v := x6 + 1) (ls2 := [(6, .int (x6 + 1)), (4, .int 1), (0, .ref s_MO), (5, .int x5)]) (Nat.le_of_ble_eq_true rfl) rfl rfl rfl rfl ?_
            refine eb_goto (pc := 138) (tgt := 80) rfl (by decide) ?_
            exact eb_pick [2, 1, 3, 0] rfl w
          · replace w := w.2 c20
            refine eb_goto (pc := 114) (tgt := 135) rfl (by decide) ?_
            refine eb_iinc (pc := 135) (i := 6) (n := 1) (v := x6 + 1) (ls2 := [(6, .int (x6 + 1)), (0, .ref s_MO), (4, .int x4), (5, .int x5)]) (Nat.le_of_ble_eq_true rfl) rfl rfl rfl rfl ?_
            refine eb_goto (pc := 138) (tgt := 80) rfl (by decide) ?_
            exact eb_pick [1, 2, 3, 0] rfl w
theorem T_X11_laysFar {d : Nat} {h : eb_H} {Q : Option Value → eb_H → Prop} (x1 : Int32) (x2 : Int32) (x3 : Int32)  (ko : eb_KO h) (w : eb_Ct (d + 1) 227 [.ref s_MO, .int (eb_I h s_m_all (50 : Int32).toNatClampNeg)] h (fun r h1 => r = none ∧ eb_KO h1 ∧ eb_Sn (d + 2) m_X11_laysFar h 14 [(0, .ref s_MO), (1, .int x1), (2, .int x2), (3, .int x3), (4, .int 0)] [] h1 Q)) : eb_Ct (d + 2) 232 [.ref s_MO, .int x1, .int x2, .int x3] h Q :=
  eb_bodyQ (by decide) ok_X11_laysFar (Nat.le_of_ble_eq_true rfl) (b_X11_laysFar_0 (h0 := h) x1 x2 x3  ko w)
theorem b_X11_noComing_0 {d : Nat} {h0 h : eb_H} {Q : Option Value → eb_H → Prop} (x1 : Int32) (x2 : Int32) (x3 : Int32)  (ko : eb_KO h) (w : Q (some (.int (if (¬ (x1.toInt64 < 0)) ∧ (¬ (((((eb_I h s_m_all (1 : Int32).toNatClampNeg) * (eb_I h s_m_all (2 : Int32).toNatClampNeg)) - 1).toInt64) < x1.toInt64)) then (if x2.toInt64 < 0 then (-3) else (if 63 < x2.toInt64 then (-3) else (if x3.toInt64 < 0 then (-3) else (if 63 < x3.toInt64 then (-3) else (if (x2 &&& x3) = 0 then 0 else (-3)))))) else (-2) : Int32))) h) : eb_Sn (d + 2) m_X11_noComing h0 0 [(0, .ref s_MO), (1, .int x1), (2, .int x2), (3, .int x3)] [] h Q := by
  refine eb_aload_n (pc := 0) (n := 0) (i := 0) rfl rfl rfl ?_
  refine eb_iload_n (pc := 1) (n := 1) (i := 1) rfl rfl rfl ?_
  refine eb_i2l (pc := 2) rfl ?_
  refine eb_joinI (pc2 := 6) (ls2 := [(0, .ref s_MO), (1, .int x1), (2, .int x2), (3, .int x3)]) (st2 := []) (v := eb_q ((¬ (x1.toInt64 < 0)) ∧ (¬ (((((eb_I h s_m_all (1 : Int32).toNatClampNeg) * (eb_I h s_m_all (2 : Int32).toNatClampNeg)) - 1).toInt64) < x1.toInt64)))) ?_ (fun jj11 => ?_)
  · refine eb_joinI (pc2 := 40) (ls2 := [(0, .ref s_MO), (1, .int x1), (2, .int x2), (3, .int x3)]) (st2 := []) (v := (if (¬ (x1.toInt64 < 0)) ∧ (¬ (((((eb_I h s_m_all (1 : Int32).toNatClampNeg) * (eb_I h s_m_all (2 : Int32).toNatClampNeg)) - 1).toInt64) < x1.toInt64)) then (if x2.toInt64 < 0 then (-3) else (if 63 < x2.toInt64 then (-3) else (if x3.toInt64 < 0 then (-3) else (if 63 < x3.toInt64 then (-3) else (if (x2 &&& x3) = 0 then 0 else (-3)))))) else (-2) : Int32)) ?_ (fun jj9 => ?_)
    · exact eb_ireturn (pc := 40) rfl rfl rfl w
    refine eb_if_ne (pc := 6) (tgt := 14) rfl (by decide) (fun c3 => ?_) (fun c3 => ?_)
    · replace c3 := eb_q1.mp c3
      refine eb_iload_n (pc := 14) (n := 2) (i := 2) rfl rfl rfl ?_
      refine eb_ctS (pc := 15) (As := [.int x2]) (rest := []) rfl (by decide) (by decide) rfl rfl (Nat.le_of_ble_eq_true rfl) ?_
      refine eb_bodyQ (by decide) ok_X11_isEchoes (Nat.le_of_ble_eq_true rfl) ?_
      change eb_Sn _ m_X11_isEchoes _ 0 [(0, .int x2)] [] _ _
      refine eb_iload_n (pc := 0) (n := 0) (i := 0) rfl rfl rfl ?_
      refine eb_i2l (pc := 1) rfl ?_
      refine eb_lconst (pc := 2) (n := 0) (v := 0) rfl rfl ?_
      refine eb_ldc2 (pc := 3) (a := 63) (v := 63) rfl (by decide) ?_
      refine eb_ctS (pc := 6) (As := [.long x2.toInt64, .long 0, .long 63]) (rest := []) rfl (by decide) (by decide) rfl rfl (Nat.le_of_ble_eq_true rfl) ?_
      refine eb_bodyQ (by decide) ok_X11_within (Nat.le_of_ble_eq_true rfl) ?_
      change eb_Sn _ m_X11_within _ 0 [(0, .long x2.toInt64), (2, .long 0), (4, .long 63)] [] _ _
      refine eb_lload_n (pc := 0) (n := 0) (i := 0) rfl rfl rfl ?_
      refine eb_lload_n (pc := 1) (n := 2) (i := 2) rfl rfl rfl ?_
      refine eb_lcmp (pc := 2) rfl ?_
      refine eb_if_lt (pc := 3) (tgt := 17) rfl (by decide) (fun c4 => ?_) (fun c4 => ?_)
      · replace c4 := eb_lc_lt.mp c4
        refine eb_iconst (pc := 17) (n := 0) (v := 0) rfl rfl ?_
        refine eb_ireturn (pc := 18) rfl rfl (by decide) ?_
        change eb_Sn _ _ _ 9 _ [.int 0] _ _
        refine eb_ireturn (pc := 9) rfl rfl (by decide) ?_
        change eb_Sn _ _ _ 18 _ [.int 0] _ _
        refine eb_if_eq (pc := 18) (tgt := 38) rfl (by decide) (fun c => ?_) (fun c => absurd c (by decide))
        refine eb_bipush (pc := 38) (n := -3) (v := (-3)) rfl rfl ?_
        exact jj9 _ (by simp only [if_pos c3, if_pos c4])
      · replace c4 := (fun hh => mt eb_lc_lt.mpr hh) c4
        refine eb_lload_n (pc := 6) (n := 0) (i := 0) rfl rfl rfl ?_
        refine eb_lload (pc := 7) (i := 4) rfl rfl ?_
        refine eb_lcmp (pc := 9) rfl ?_
        refine eb_if_gt (pc := 10) (tgt := 17) rfl (by decide) (fun c5 => ?_) (fun c5 => ?_)
        · replace c5 := eb_lc_gt.mp c5
          refine eb_iconst (pc := 17) (n := 0) (v := 0) rfl rfl ?_
          refine eb_ireturn (pc := 18) rfl rfl (by decide) ?_
          change eb_Sn _ _ _ 9 _ [.int 0] _ _
          refine eb_ireturn (pc := 9) rfl rfl (by decide) ?_
          change eb_Sn _ _ _ 18 _ [.int 0] _ _
          refine eb_if_eq (pc := 18) (tgt := 38) rfl (by decide) (fun c => ?_) (fun c => absurd c (by decide))
          refine eb_bipush (pc := 38) (n := -3) (v := (-3)) rfl rfl ?_
          exact jj9 _ (by simp only [if_pos c3, if_neg c4, if_pos c5])
        · replace c5 := (fun hh => mt eb_lc_gt.mpr hh) c5
          refine eb_iconst (pc := 13) (n := 1) (v := 1) rfl rfl ?_
          refine eb_goto (pc := 14) (tgt := 18) rfl (by decide) ?_
          refine eb_ireturn (pc := 18) rfl rfl (by decide) ?_
          change eb_Sn _ _ _ 9 _ [.int 1] _ _
          refine eb_ireturn (pc := 9) rfl rfl (by decide) ?_
          change eb_Sn _ _ _ 18 _ [.int 1] _ _
          refine eb_if_eq (pc := 18) (tgt := 38) rfl (by decide) (fun c => absurd c (by decide)) (fun c => ?_)
          refine eb_iload_n (pc := 21) (n := 3) (i := 3) rfl rfl rfl ?_
          refine eb_ctS (pc := 22) (As := [.int x3]) (rest := []) rfl (by decide) (by decide) rfl rfl (Nat.le_of_ble_eq_true rfl) ?_
          refine eb_bodyQ (by decide) ok_X11_isEchoes (Nat.le_of_ble_eq_true rfl) ?_
          change eb_Sn _ m_X11_isEchoes _ 0 [(0, .int x3)] [] _ _
          refine eb_iload_n (pc := 0) (n := 0) (i := 0) rfl rfl rfl ?_
          refine eb_i2l (pc := 1) rfl ?_
          refine eb_lconst (pc := 2) (n := 0) (v := 0) rfl rfl ?_
          refine eb_ldc2 (pc := 3) (a := 63) (v := 63) rfl (by decide) ?_
          refine eb_ctS (pc := 6) (As := [.long x3.toInt64, .long 0, .long 63]) (rest := []) rfl (by decide) (by decide) rfl rfl (Nat.le_of_ble_eq_true rfl) ?_
          refine eb_bodyQ (by decide) ok_X11_within (Nat.le_of_ble_eq_true rfl) ?_
          change eb_Sn _ m_X11_within _ 0 [(0, .long x3.toInt64), (2, .long 0), (4, .long 63)] [] _ _
          refine eb_lload_n (pc := 0) (n := 0) (i := 0) rfl rfl rfl ?_
          refine eb_lload_n (pc := 1) (n := 2) (i := 2) rfl rfl rfl ?_
          refine eb_lcmp (pc := 2) rfl ?_
          refine eb_if_lt (pc := 3) (tgt := 17) rfl (by decide) (fun c6 => ?_) (fun c6 => ?_)
          · replace c6 := eb_lc_lt.mp c6
            refine eb_iconst (pc := 17) (n := 0) (v := 0) rfl rfl ?_
            refine eb_ireturn (pc := 18) rfl rfl (by decide) ?_
            change eb_Sn _ _ _ 9 _ [.int 0] _ _
            refine eb_ireturn (pc := 9) rfl rfl (by decide) ?_
            change eb_Sn _ _ _ 25 _ [.int 0] _ _
            refine eb_if_eq (pc := 25) (tgt := 38) rfl (by decide) (fun c => ?_) (fun c => absurd c (by decide))
            refine eb_bipush (pc := 38) (n := -3) (v := (-3)) rfl rfl ?_
            exact jj9 _ (by simp only [if_pos c3, if_neg c4, if_neg c5, if_pos c6])
          · replace c6 := (fun hh => mt eb_lc_lt.mpr hh) c6
            refine eb_lload_n (pc := 6) (n := 0) (i := 0) rfl rfl rfl ?_
            refine eb_lload (pc := 7) (i := 4) rfl rfl ?_
            refine eb_lcmp (pc := 9) rfl ?_
            refine eb_if_gt (pc := 10) (tgt := 17) rfl (by decide) (fun c7 => ?_) (fun c7 => ?_)
            · replace c7 := eb_lc_gt.mp c7
              refine eb_iconst (pc := 17) (n := 0) (v := 0) rfl rfl ?_
              refine eb_ireturn (pc := 18) rfl rfl (by decide) ?_
              change eb_Sn _ _ _ 9 _ [.int 0] _ _
              refine eb_ireturn (pc := 9) rfl rfl (by decide) ?_
              change eb_Sn _ _ _ 25 _ [.int 0] _ _
              refine eb_if_eq (pc := 25) (tgt := 38) rfl (by decide) (fun c => ?_) (fun c => absurd c (by decide))
              refine eb_bipush (pc := 38) (n := -3) (v := (-3)) rfl rfl ?_
              exact jj9 _ (by simp only [if_pos c3, if_neg c4, if_neg c5, if_neg c6, if_pos c7])
            · replace c7 := (fun hh => mt eb_lc_gt.mpr hh) c7
              refine eb_iconst (pc := 13) (n := 1) (v := 1) rfl rfl ?_
              refine eb_goto (pc := 14) (tgt := 18) rfl (by decide) ?_
              refine eb_ireturn (pc := 18) rfl rfl (by decide) ?_
              change eb_Sn _ _ _ 9 _ [.int 1] _ _
              refine eb_ireturn (pc := 9) rfl rfl (by decide) ?_
              change eb_Sn _ _ _ 25 _ [.int 1] _ _
              refine eb_if_eq (pc := 25) (tgt := 38) rfl (by decide) (fun c => absurd c (by decide)) (fun c => ?_)
              refine eb_iload_n (pc := 28) (n := 2) (i := 2) rfl rfl rfl ?_
              refine eb_iload_n (pc := 29) (n := 3) (i := 3) rfl rfl rfl ?_
              refine eb_iand (pc := 30) rfl ?_
              refine eb_if_ne (pc := 31) (tgt := 38) rfl (by decide) (fun c8 => ?_) (fun c8 => ?_)
              · refine eb_bipush (pc := 38) (n := -3) (v := (-3)) rfl rfl ?_
                exact jj9 _ (by simp only [if_pos c3, if_neg c4, if_neg c5, if_neg c6, if_neg c7, if_neg c8])
              · refine eb_iconst (pc := 34) (n := 0) (v := 0) rfl rfl ?_
                refine eb_goto (pc := 35) (tgt := 40) rfl (by decide) ?_
                exact jj9 _ (by simp only [if_pos c3, if_neg c4, if_neg c5, if_neg c6, if_neg c7, if_pos c8])
    · replace c3 := eb_q0.mp c3
      refine eb_bipush (pc := 9) (n := -2) (v := (-2)) rfl rfl ?_
      refine eb_goto (pc := 11) (tgt := 40) rfl (by decide) ?_
      exact jj9 _ (by simp only [if_neg c3])
  refine eb_ctV (pc := 3) (As := [.long x1.toInt64]) (rest := []) rfl (by decide) rfl rfl (by decide) rfl (Nat.le_of_ble_eq_true rfl) ?_
  refine eb_bodyQ (by decide) ok_X11_isCell (Nat.le_of_ble_eq_true rfl) ?_
  change eb_Sn _ m_X11_isCell _ 0 [(0, .ref s_MO), (1, .long x1.toInt64)] [] _ _
  refine eb_lload_n (pc := 0) (n := 1) (i := 1) rfl rfl rfl ?_
  refine eb_lconst (pc := 1) (n := 0) (v := 0) rfl rfl ?_
  refine eb_aload_n (pc := 2) (n := 0) (i := 0) rfl rfl rfl ?_
  refine eb_ctV (pc := 3) (As := []) (rest := [.long 0, .long x1.toInt64]) rfl (by decide) rfl rfl (by decide) rfl (Nat.le_of_ble_eq_true rfl) ?_
  refine eb_bodyQ (by decide) ok_X11_cells (Nat.le_of_ble_eq_true rfl) ?_
  change eb_Sn _ m_X11_cells _ 0 [(0, .ref s_MO)] [] _ _
  refine eb_aload_n (pc := 0) (n := 0) (i := 0) rfl rfl rfl ?_
  refine eb_getR (pc := 1) rfl rfl (by decide) (by decide) rfl (ko_s_MO_1 ko) ?_
  refine eb_iconst (pc := 4) (n := 1) (v := 1) rfl rfl ?_
  refine eb_iaload (pc := 5) rfl rfl (by decide) (by unfold vp_in; decide) ?_
  refine eb_aload_n (pc := 6) (n := 0) (i := 0) rfl rfl rfl ?_
  refine eb_getR (pc := 7) rfl rfl (by decide) (by decide) rfl (ko_s_MO_1 ko) ?_
  refine eb_iconst (pc := 10) (n := 2) (v := 2) rfl rfl ?_
  refine eb_iaload (pc := 11) rfl rfl (by decide) (by unfold vp_in; decide) ?_
  refine eb_imul (pc := 12) rfl ?_
  refine eb_ireturn (pc := 13) rfl rfl rfl ?_
  change eb_Sn _ _ _ 6 _ [.int ((eb_I h s_m_all (1 : Int32).toNatClampNeg) * (eb_I h s_m_all (2 : Int32).toNatClampNeg)), .long 0, .long x1.toInt64] _ _
  refine eb_iconst (pc := 6) (n := 1) (v := 1) rfl rfl ?_
  refine eb_isub (pc := 7) rfl ?_
  refine eb_i2l (pc := 8) rfl ?_
  refine eb_ctS (pc := 9) (As := [.long x1.toInt64, .long 0, .long ((((eb_I h s_m_all (1 : Int32).toNatClampNeg) * (eb_I h s_m_all (2 : Int32).toNatClampNeg)) - 1).toInt64)]) (rest := []) rfl (by decide) (by decide) rfl rfl (Nat.le_of_ble_eq_true rfl) ?_
  refine eb_bodyQ (by decide) ok_X11_within (Nat.le_of_ble_eq_true rfl) ?_
  change eb_Sn _ m_X11_within _ 0 [(0, .long x1.toInt64), (2, .long 0), (4, .long ((((eb_I h s_m_all (1 : Int32).toNatClampNeg) * (eb_I h s_m_all (2 : Int32).toNatClampNeg)) - 1).toInt64))] [] _ _
  refine eb_lload_n (pc := 0) (n := 0) (i := 0) rfl rfl rfl ?_
  refine eb_lload_n (pc := 1) (n := 2) (i := 2) rfl rfl rfl ?_
  refine eb_lcmp (pc := 2) rfl ?_
  refine eb_if_lt (pc := 3) (tgt := 17) rfl (by decide) (fun c1 => ?_) (fun c1 => ?_)
  · replace c1 := eb_lc_lt.mp c1
    refine eb_iconst (pc := 17) (n := 0) (v := 0) rfl rfl ?_
    refine eb_ireturn (pc := 18) rfl rfl (by decide) ?_
    change eb_Sn _ _ _ 12 _ [.int 0] _ _
    refine eb_ireturn (pc := 12) rfl rfl (by decide) ?_
    change eb_Sn _ _ _ 6 _ _ _ _
    exact jj11 0 (eb_qf (fun z => z.1 c1)).symm
  · replace c1 := (fun hh => mt eb_lc_lt.mpr hh) c1
    refine eb_lload_n (pc := 6) (n := 0) (i := 0) rfl rfl rfl ?_
    refine eb_lload (pc := 7) (i := 4) rfl rfl ?_
    refine eb_lcmp (pc := 9) rfl ?_
    refine eb_if_gt (pc := 10) (tgt := 17) rfl (by decide) (fun c2 => ?_) (fun c2 => ?_)
    · replace c2 := eb_lc_gt.mp c2
      refine eb_iconst (pc := 17) (n := 0) (v := 0) rfl rfl ?_
      refine eb_ireturn (pc := 18) rfl rfl (by decide) ?_
      change eb_Sn _ _ _ 12 _ [.int 0] _ _
      refine eb_ireturn (pc := 12) rfl rfl (by decide) ?_
      change eb_Sn _ _ _ 6 _ _ _ _
      exact jj11 0 (eb_qf (fun z => (fun z => z c2) z.2)).symm
    · replace c2 := (fun hh => mt eb_lc_gt.mpr hh) c2
      refine eb_iconst (pc := 13) (n := 1) (v := 1) rfl rfl ?_
      refine eb_goto (pc := 14) (tgt := 18) rfl (by decide) ?_
      refine eb_ireturn (pc := 18) rfl rfl (by decide) ?_
      change eb_Sn _ _ _ 12 _ [.int 1] _ _
      refine eb_ireturn (pc := 12) rfl rfl (by decide) ?_
      change eb_Sn _ _ _ 6 _ _ _ _
      exact jj11 1 (eb_qt (⟨c1, c2⟩)).symm
theorem T_X11_noComing {d : Nat} {h : eb_H} {Q : Option Value → eb_H → Prop} (x1 : Int32) (x2 : Int32) (x3 : Int32)  (ko : eb_KO h) (w : Q (some (.int (if (¬ (x1.toInt64 < 0)) ∧ (¬ (((((eb_I h s_m_all (1 : Int32).toNatClampNeg) * (eb_I h s_m_all (2 : Int32).toNatClampNeg)) - 1).toInt64) < x1.toInt64)) then (if x2.toInt64 < 0 then (-3) else (if 63 < x2.toInt64 then (-3) else (if x3.toInt64 < 0 then (-3) else (if 63 < x3.toInt64 then (-3) else (if (x2 &&& x3) = 0 then 0 else (-3)))))) else (-2) : Int32))) h) : eb_Ct (d + 2) 233 [.ref s_MO, .int x1, .int x2, .int x3] h Q :=
  eb_bodyQ (by decide) ok_X11_noComing (Nat.le_of_ble_eq_true rfl) (b_X11_noComing_0 (h0 := h) x1 x2 x3  ko w)
theorem b_X11_stepAt_0 {d : Nat} {h0 h : eb_H} {Q : Option Value → eb_H → Prop} (x1 : Int32)  (ko : eb_KO h) (w : eb_Sn (d + 1) m_X11_stepAt h0 7 [(0, .ref s_MO), (1, .int x1), (2, .int (((64 : Int32) * (eb_I h s_m_all (31 : Int32).toNatClampNeg)) + (eb_I h s_m_all (32 : Int32).toNatClampNeg))), (3, .int 0)] [] h Q) : eb_Sn (d + 1) m_X11_stepAt h0 0 [(0, .ref s_MO), (1, .int x1)] [] h Q := by
  refine eb_aload_n (pc := 0) (n := 0) (i := 0) rfl rfl rfl ?_
  refine eb_ctV (pc := 1) (As := []) (rest := []) rfl (by decide) rfl rfl (by decide) rfl (Nat.le_of_ble_eq_true rfl) ?_
  refine eb_bodyQ (by decide) ok_X11_standNow (Nat.le_of_ble_eq_true rfl) ?_
  change eb_Sn _ m_X11_standNow _ 0 [(0, .ref s_MO)] [] _ _
  refine eb_bipush (pc := 0) (n := 64) (v := 64) rfl rfl ?_
  refine eb_aload_n (pc := 2) (n := 0) (i := 0) rfl rfl rfl ?_
  refine eb_getR (pc := 3) rfl rfl (by decide) (by decide) rfl (ko_s_MO_1 ko) ?_
  refine eb_bipush (pc := 6) (n := 31) (v := 31) rfl rfl ?_
  refine eb_iaload (pc := 8) rfl rfl (by decide) (by unfold vp_in; decide) ?_
  refine eb_imul (pc := 9) rfl ?_
  refine eb_aload_n (pc := 10) (n := 0) (i := 0) rfl rfl rfl ?_
  refine eb_getR (pc := 11) rfl rfl (by decide) (by decide) rfl (ko_s_MO_1 ko) ?_
  refine eb_bipush (pc := 14) (n := 32) (v := 32) rfl rfl ?_
  refine eb_iaload (pc := 16) rfl rfl (by decide) (by unfold vp_in; decide) ?_
  refine eb_iadd (pc := 17) rfl ?_
  refine eb_ireturn (pc := 18) rfl rfl rfl ?_
  change eb_Sn _ _ _ 4 _ [.int (((64 : Int32) * (eb_I h s_m_all (31 : Int32).toNatClampNeg)) + (eb_I h s_m_all (32 : Int32).toNatClampNeg))] _ _
  refine eb_istore_n (pc := 4) (n := 2) (i := 2) (ls2 := [(2, .int (((64 : Int32) * (eb_I h s_m_all (31 : Int32).toNatClampNeg)) + (eb_I h s_m_all (32 : Int32).toNatClampNeg))), (0, .ref s_MO), (1, .int x1)]) rfl (Nat.le_of_ble_eq_true rfl) rfl rfl ?_
  refine eb_iconst (pc := 5) (n := 0) (v := 0) rfl rfl ?_
  refine eb_istore_n (pc := 6) (n := 3) (i := 3) (ls2 := [(3, .int 0), (2, .int (((64 : Int32) * (eb_I h s_m_all (31 : Int32).toNatClampNeg)) + (eb_I h s_m_all (32 : Int32).toNatClampNeg))), (0, .ref s_MO), (1, .int x1)]) rfl (Nat.le_of_ble_eq_true rfl) rfl rfl ?_
  exact eb_pick [2, 3, 1, 0] rfl w
theorem b_X11_stepAt_7 {d : Nat} {h0 h : eb_H} {Q : Option Value → eb_H → Prop} (x1 : Int32) (x2 : Int32) (x3 : Int32)  (ko : eb_KO h) (w : (vp_in x2 1024) ∧ (((eb_I h s_m_far x2.toNatClampNeg) ≤ 0 → Q (some (.int (-1))) h) ∧ (¬ ((eb_I h s_m_far x2.toNatClampNeg) ≤ 0) → (vp_in x2 1024) ∧ (((268435456 : Int32) ≤ (eb_I h s_m_far x2.toNatClampNeg) → Q (some (.int (-1))) h) ∧ (¬ ((268435456 : Int32) ≤ (eb_I h s_m_far x2.toNatClampNeg)) → eb_Sn (d + 1) m_X11_stepAt h0 31 [(0, .ref s_MO), (1, .int x1), (2, .int x2), (3, .int x3), (4, .int 0)] [] h Q))))) : eb_Sn (d + 1) m_X11_stepAt h0 7 [(0, .ref s_MO), (1, .int x1), (2, .int x2), (3, .int x3)] [] h Q := by
  refine eb_aload_n (pc := 7) (n := 0) (i := 0) rfl rfl rfl ?_
  refine eb_getR (pc := 8) rfl rfl (by decide) (by decide) rfl (ko_s_MO_22 ko) ?_
  refine eb_iload_n (pc := 11) (n := 2) (i := 2) rfl rfl rfl ?_
  obtain ⟨c1, w⟩ := w
  refine eb_iaload (pc := 12) rfl rfl (by decide) c1 ?_
  refine eb_if_le (pc := 13) (tgt := 79) rfl (by decide) (fun c2 => ?_) (fun c2 => ?_)
  · replace w := w.1 c2
    refine eb_iconst (pc := 79) (n := -1) (v := (-1)) rfl rfl ?_
    exact eb_ireturn (pc := 80) rfl rfl rfl w
  · replace w := w.2 c2
    refine eb_aload_n (pc := 16) (n := 0) (i := 0) rfl rfl rfl ?_
    refine eb_getR (pc := 17) rfl rfl (by decide) (by decide) rfl (ko_s_MO_22 ko) ?_
    refine eb_iload_n (pc := 20) (n := 2) (i := 2) rfl rfl rfl ?_
    obtain ⟨c3, w⟩ := w
    refine eb_iaload (pc := 21) rfl rfl (by decide) c3 ?_
    refine eb_ldcw (pc := 22) (a := 268435456) (v := 268435456) rfl (by decide) ?_
    refine eb_icmp_ge (pc := 25) (tgt := 79) rfl (by decide) (fun c4 => ?_) (fun c4 => ?_)
    · replace w := w.1 c4
      refine eb_iconst (pc := 79) (n := -1) (v := (-1)) rfl rfl ?_
      exact eb_ireturn (pc := 80) rfl rfl rfl w
    · replace w := w.2 c4
      refine eb_iconst (pc := 28) (n := 0) (v := 0) rfl rfl ?_
      refine eb_istore (pc := 29) (i := 4) (ls2 := [(4, .int 0), (0, .ref s_MO), (1, .int x1), (2, .int x2), (3, .int x3)]) (Nat.le_of_ble_eq_true rfl) rfl rfl ?_
      exact eb_pick [1, 2, 3, 4, 0] rfl w
theorem b_X11_stepAt_31 {d : Nat} {h0 h : eb_H} {Q : Option Value → eb_H → Prop} (x1 : Int32) (x2 : Int32) (x3 : Int32) (x4 : Int32)  (ko : eb_KO h) (w : (vp_in (((4 : Int32) * x2) + x4) 4096) ∧ (((eb_I h s_m_then (((4 : Int32) * x2) + x4).toNatClampNeg) = ((-1) : Int32) → (vp_in x2 1024) ∧ (((268435456 : Int32) = (eb_I h s_m_far x2.toNatClampNeg) → ((¬ x3 = x1 → (vp_in (((4 : Int32) * x2) + x4) 4096) ∧ eb_Sn (d + 1) m_X11_stepAt h0 7 [(0, .ref s_MO), (1, .int x1), (2, .int (eb_I h s_m_then (((4 : Int32) * x2) + x4).toNatClampNeg)), (3, .int (x3 + 1))] [] h Q) ∧ (x3 = x1 → Q (some (.int x4)) h))) ∧ (¬ ((268435456 : Int32) = (eb_I h s_m_far x2.toNatClampNeg)) → eb_Sn (d + 1) m_X11_stepAt h0 31 [(0, .ref s_MO), (1, .int x1), (2, .int x2), (3, .int x3), (4, .int (x4 + 1))] [] h Q))) ∧ (¬ ((eb_I h s_m_then (((4 : Int32) * x2) + x4).toNatClampNeg) = ((-1) : Int32)) → (vp_in (eb_I h s_m_then (((4 : Int32) * x2) + x4).toNatClampNeg) 1024) ∧ ((¬ (eb_I h s_m_far (eb_I h s_m_then (((4 : Int32) * x2) + x4).toNatClampNeg).toNatClampNeg) = (268435456 : Int32) → (vp_in (eb_I h s_m_then (((4 : Int32) * x2) + x4).toNatClampNeg) 1024) ∧ (vp_in x2 1024) ∧ ((((eb_I h s_m_far (eb_I h s_m_then (((4 : Int32) * x2) + x4).toNatClampNeg).toNatClampNeg) + 1) = (eb_I h s_m_far x2.toNatClampNeg) → ((¬ x3 = x1 → (vp_in (((4 : Int32) * x2) + x4) 4096) ∧ eb_Sn (d + 1) m_X11_stepAt h0 7 [(0, .ref s_MO), (1, .int x1), (2, .int (eb_I h s_m_then (((4 : Int32) * x2) + x4).toNatClampNeg)), (3, .int (x3 + 1))] [] h Q) ∧ (x3 = x1 → Q (some (.int x4)) h))) ∧ (¬ (((eb_I h s_m_far (eb_I h s_m_then (((4 : Int32) * x2) + x4).toNatClampNeg).toNatClampNeg) + 1) = (eb_I h s_m_far x2.toNatClampNeg)) → eb_Sn (d + 1) m_X11_stepAt h0 31 [(0, .ref s_MO), (1, .int x1), (2, .int x2), (3, .int x3), (4, .int (x4 + 1))] [] h Q))) ∧ ((eb_I h s_m_far (eb_I h s_m_then (((4 : Int32) * x2) + x4).toNatClampNeg).toNatClampNeg) = (268435456 : Int32) → (vp_in x2 1024) ∧ (((268435456 : Int32) = (eb_I h s_m_far x2.toNatClampNeg) → ((¬ x3 = x1 → (vp_in (((4 : Int32) * x2) + x4) 4096) ∧ eb_Sn (d + 1) m_X11_stepAt h0 7 [(0, .ref s_MO), (1, .int x1), (2, .int (eb_I h s_m_then (((4 : Int32) * x2) + x4).toNatClampNeg)), (3, .int (x3 + 1))] [] h Q) ∧ (x3 = x1 → Q (some (.int x4)) h))) ∧ (¬ ((268435456 : Int32) = (eb_I h s_m_far x2.toNatClampNeg)) → eb_Sn (d + 1) m_X11_stepAt h0 31 [(0, .ref s_MO), (1, .int x1), (2, .int x2), (3, .int x3), (4, .int (x4 + 1))] [] h Q))))))) : eb_Sn (d + 1) m_X11_stepAt h0 31 [(0, .ref s_MO), (1, .int x1), (2, .int x2), (3, .int x3), (4, .int x4)] [] h Q := by
  refine eb_aload_n (pc := 31) (n := 0) (i := 0) rfl rfl rfl ?_
  refine eb_iload_n (pc := 32) (n := 2) (i := 2) rfl rfl rfl ?_
  refine eb_iload (pc := 33) (i := 4) rfl rfl ?_
  refine eb_ctV (pc := 35) (As := [.int x2, .int x4]) (rest := []) rfl (by decide) rfl rfl (by decide) rfl (Nat.le_of_ble_eq_true rfl) ?_
  refine eb_bodyQ (by decide) ok_X11_farBy (Nat.le_of_ble_eq_true rfl) ?_
  change eb_Sn _ m_X11_farBy _ 0 [(0, .ref s_MO), (1, .int x2), (2, .int x4)] [] _ _
  refine eb_aload_n (pc := 0) (n := 0) (i := 0) rfl rfl rfl ?_
  refine eb_getR (pc := 1) rfl rfl (by decide) (by decide) rfl (ko_s_MO_21 ko) ?_
  refine eb_iconst (pc := 4) (n := 4) (v := 4) rfl rfl ?_
  refine eb_iload_n (pc := 5) (n := 1) (i := 1) rfl rfl rfl ?_
  refine eb_imul (pc := 6) rfl ?_
  refine eb_iload_n (pc := 7) (n := 2) (i := 2) rfl rfl rfl ?_
  refine eb_iadd (pc := 8) rfl ?_
  obtain ⟨c1, w⟩ := w
  refine eb_iaload (pc := 9) rfl rfl (by decide) c1 ?_
  refine eb_istore_n (pc := 10) (n := 3) (i := 3) (ls2 := [(3, .int (eb_I h s_m_then (((4 : Int32) * x2) + x4).toNatClampNeg)), (0, .ref s_MO), (1, .int x2), (2, .int x4)]) rfl (Nat.le_of_ble_eq_true rfl) rfl rfl ?_
  refine eb_iload_n (pc := 11) (n := 3) (i := 3) rfl rfl rfl ?_
  refine eb_iconst (pc := 12) (n := -1) (v := (-1)) rfl rfl ?_
  refine eb_icmp_eq (pc := 13) (tgt := 28) rfl (by decide) (fun c2 => ?_) (fun c2 => ?_)
  · replace w := w.1 c2
    refine eb_ldcw (pc := 28) (a := 268435456) (v := 268435456) rfl (by decide) ?_
    refine eb_goto (pc := 31) (tgt := 42) rfl (by decide) ?_
    refine eb_ireturn (pc := 42) rfl rfl rfl ?_
    change eb_Sn _ _ _ 38 _ [.int 268435456] _ _
    refine eb_aload_n (pc := 38) (n := 0) (i := 0) rfl rfl rfl ?_
    refine eb_getR (pc := 39) rfl rfl (by decide) (by decide) rfl (ko_s_MO_22 ko) ?_
    refine eb_iload_n (pc := 42) (n := 2) (i := 2) rfl rfl rfl ?_
    obtain ⟨c6, w⟩ := w
    refine eb_iaload (pc := 43) rfl rfl (by decide) c6 ?_
    refine eb_icmp_eq (pc := 44) (tgt := 53) rfl (by decide) (fun c7 => ?_) (fun c7 => ?_)
    · replace w := w.1 c7
      refine eb_iload_n (pc := 53) (n := 3) (i := 3) rfl rfl rfl ?_
      refine eb_iload_n (pc := 54) (n := 1) (i := 1) rfl rfl rfl ?_
      refine eb_icmp_ne (pc := 55) (tgt := 61) rfl (by decide) (fun c8 => ?_) (fun c8 => ?_)
      · replace w := w.1 c8
        refine eb_aload_n (pc := 61) (n := 0) (i := 0) rfl rfl rfl ?_
        refine eb_getR (pc := 62) rfl rfl (by decide) (by decide) rfl (ko_s_MO_21 ko) ?_
        refine eb_iconst (pc := 65) (n := 4) (v := 4) rfl rfl ?_
        refine eb_iload_n (pc := 66) (n := 2) (i := 2) rfl rfl rfl ?_
        refine eb_imul (pc := 67) rfl ?_
        refine eb_iload (pc := 68) (i := 4) rfl rfl ?_
        refine eb_iadd (pc := 70) rfl ?_
        obtain ⟨c9, w⟩ := w
        refine eb_iaload (pc := 71) rfl rfl (by decide) c9 ?_
        refine eb_istore_n (pc := 72) (n := 2) (i := 2) (ls2 := [(2, .int (eb_I h s_m_then (((4 : Int32) * x2) + x4).toNatClampNeg)), (0, .ref s_MO), (1, .int x1), (3, .int x3), (4, .int x4)]) rfl (Nat.le_of_ble_eq_true rfl) rfl rfl ?_
        refine eb_iinc (pc := 73) (i := 3) (n := 1) (v := x3 + 1) (ls2 := [(3, .int (x3 + 1)), (2, .int (eb_I h s_m_then (((4 : Int32) * x2) + x4).toNatClampNeg)), (0, .ref s_MO), (1, .int x1), (4, .int x4)]) (Nat.le_of_ble_eq_true rfl) rfl rfl rfl rfl ?_
        refine eb_goto (pc := 76) (tgt := 7) rfl (by decide) ?_
        exact eb_pick [2, 3, 1, 0] rfl w
      · replace w := w.2 c8
        refine eb_iload (pc := 58) (i := 4) rfl rfl ?_
        exact eb_ireturn (pc := 60) rfl rfl rfl w
    · replace w := w.2 c7
      refine eb_iinc (pc := 47) (i := 4) (n := 1) (v := x4 + 1) (ls2 := [(4, .int (x4 + 1)), (0, .ref s_MO), (1, .int x1), (2, .int x2), (3, .int x3)]) (Nat.le_of_ble_eq_true rfl) rfl rfl rfl rfl ?_
      refine eb_goto (pc := 50) (tgt := 31) rfl (by decide) ?_
      exact eb_pick [1, 2, 3, 4, 0] rfl w
  · replace w := w.2 c2
    refine eb_aload_n (pc := 16) (n := 0) (i := 0) rfl rfl rfl ?_
    refine eb_getR (pc := 17) rfl rfl (by decide) (by decide) rfl (ko_s_MO_22 ko) ?_
    refine eb_iload_n (pc := 20) (n := 3) (i := 3) rfl rfl rfl ?_
    obtain ⟨c3, w⟩ := w
    refine eb_iaload (pc := 21) rfl rfl (by decide) c3 ?_
    refine eb_ldcw (pc := 22) (a := 268435456) (v := 268435456) rfl (by decide) ?_
    refine eb_icmp_ne (pc := 25) (tgt := 34) rfl (by decide) (fun c4 => ?_) (fun c4 => ?_)
    · replace w := w.1 c4
      refine eb_aload_n (pc := 34) (n := 0) (i := 0) rfl rfl rfl ?_
      refine eb_getR (pc := 35) rfl rfl (by decide) (by decide) rfl (ko_s_MO_22 ko) ?_
      refine eb_iload_n (pc := 38) (n := 3) (i := 3) rfl rfl rfl ?_
      obtain ⟨c5, w⟩ := w
      refine eb_iaload (pc := 39) rfl rfl (by decide) c5 ?_
      refine eb_iconst (pc := 40) (n := 1) (v := 1) rfl rfl ?_
      refine eb_iadd (pc := 41) rfl ?_
      refine eb_ireturn (pc := 42) rfl rfl rfl ?_
      change eb_Sn _ _ _ 38 _ [.int ((eb_I h s_m_far (eb_I h s_m_then (((4 : Int32) * x2) + x4).toNatClampNeg).toNatClampNeg) + 1)] _ _
      refine eb_aload_n (pc := 38) (n := 0) (i := 0) rfl rfl rfl ?_
      refine eb_getR (pc := 39) rfl rfl (by decide) (by decide) rfl (ko_s_MO_22 ko) ?_
      refine eb_iload_n (pc := 42) (n := 2) (i := 2) rfl rfl rfl ?_
      obtain ⟨c10, w⟩ := w
      refine eb_iaload (pc := 43) rfl rfl (by decide) c10 ?_
      refine eb_icmp_eq (pc := 44) (tgt := 53) rfl (by decide) (fun c11 => ?_) (fun c11 => ?_)
      · replace w := w.1 c11
        refine eb_iload_n (pc := 53) (n := 3) (i := 3) rfl rfl rfl ?_
        refine eb_iload_n (pc := 54) (n := 1) (i := 1) rfl rfl rfl ?_
        refine eb_icmp_ne (pc := 55) (tgt := 61) rfl (by decide) (fun c12 => ?_) (fun c12 => ?_)
        · replace w := w.1 c12
          refine eb_aload_n (pc := 61) (n := 0) (i := 0) rfl rfl rfl ?_
          refine eb_getR (pc := 62) rfl rfl (by decide) (by decide) rfl (ko_s_MO_21 ko) ?_
          refine eb_iconst (pc := 65) (n := 4) (v := 4) rfl rfl ?_
          refine eb_iload_n (pc := 66) (n := 2) (i := 2) rfl rfl rfl ?_
          refine eb_imul (pc := 67) rfl ?_
          refine eb_iload (pc := 68) (i := 4) rfl rfl ?_
          refine eb_iadd (pc := 70) rfl ?_
          obtain ⟨c13, w⟩ := w
          refine eb_iaload (pc := 71) rfl rfl (by decide) c13 ?_
          refine eb_istore_n (pc := 72) (n := 2) (i := 2) (ls2 := [(2, .int (eb_I h s_m_then (((4 : Int32) * x2) + x4).toNatClampNeg)), (0, .ref s_MO), (1, .int x1), (3, .int x3), (4, .int x4)]) rfl (Nat.le_of_ble_eq_true rfl) rfl rfl ?_
          refine eb_iinc (pc := 73) (i := 3) (n := 1) (v := x3 + 1) (ls2 := [(3, .int (x3 + 1)), (2, .int (eb_I h s_m_then (((4 : Int32) * x2) + x4).toNatClampNeg)), (0, .ref s_MO), (1, .int x1), (4, .int x4)]) (Nat.le_of_ble_eq_true rfl) rfl rfl rfl rfl ?_
          refine eb_goto (pc := 76) (tgt := 7) rfl (by decide) ?_
          exact eb_pick [2, 3, 1, 0] rfl w
        · replace w := w.2 c12
          refine eb_iload (pc := 58) (i := 4) rfl rfl ?_
          exact eb_ireturn (pc := 60) rfl rfl rfl w
      · replace w := w.2 c11
        refine eb_iinc (pc := 47) (i := 4) (n := 1) (v := x4 + 1) (ls2 := [(4, .int (x4 + 1)), (0, .ref s_MO), (1, .int x1), (2, .int x2), (3, .int x3)]) (Nat.le_of_ble_eq_true rfl) rfl rfl rfl rfl ?_
        refine eb_goto (pc := 50) (tgt := 31) rfl (by decide) ?_
        exact eb_pick [1, 2, 3, 4, 0] rfl w
    · replace w := w.2 c4
      refine eb_ldcw (pc := 28) (a := 268435456) (v := 268435456) rfl (by decide) ?_
      refine eb_goto (pc := 31) (tgt := 42) rfl (by decide) ?_
      refine eb_ireturn (pc := 42) rfl rfl rfl ?_
      change eb_Sn _ _ _ 38 _ [.int 268435456] _ _
      refine eb_aload_n (pc := 38) (n := 0) (i := 0) rfl rfl rfl ?_
      refine eb_getR (pc := 39) rfl rfl (by decide) (by decide) rfl (ko_s_MO_22 ko) ?_
      refine eb_iload_n (pc := 42) (n := 2) (i := 2) rfl rfl rfl ?_
      obtain ⟨c14, w⟩ := w
      refine eb_iaload (pc := 43) rfl rfl (by decide) c14 ?_
      refine eb_icmp_eq (pc := 44) (tgt := 53) rfl (by decide) (fun c15 => ?_) (fun c15 => ?_)
      · replace w := w.1 c15
        refine eb_iload_n (pc := 53) (n := 3) (i := 3) rfl rfl rfl ?_
        refine eb_iload_n (pc := 54) (n := 1) (i := 1) rfl rfl rfl ?_
        refine eb_icmp_ne (pc := 55) (tgt := 61) rfl (by decide) (fun c16 => ?_) (fun c16 => ?_)
        · replace w := w.1 c16
          refine eb_aload_n (pc := 61) (n := 0) (i := 0) rfl rfl rfl ?_
          refine eb_getR (pc := 62) rfl rfl (by decide) (by decide) rfl (ko_s_MO_21 ko) ?_
          refine eb_iconst (pc := 65) (n := 4) (v := 4) rfl rfl ?_
          refine eb_iload_n (pc := 66) (n := 2) (i := 2) rfl rfl rfl ?_
          refine eb_imul (pc := 67) rfl ?_
          refine eb_iload (pc := 68) (i := 4) rfl rfl ?_
          refine eb_iadd (pc := 70) rfl ?_
          obtain ⟨c17, w⟩ := w
          refine eb_iaload (pc := 71) rfl rfl (by decide) c17 ?_
          refine eb_istore_n (pc := 72) (n := 2) (i := 2) (ls2 := [(2, .int (eb_I h s_m_then (((4 : Int32) * x2) + x4).toNatClampNeg)), (0, .ref s_MO), (1, .int x1), (3, .int x3), (4, .int x4)]) rfl (Nat.le_of_ble_eq_true rfl) rfl rfl ?_
          refine eb_iinc (pc := 73) (i := 3) (n := 1) (v := x3 + 1) (ls2 := [(3, .int (x3 + 1)), (2, .int (eb_I h s_m_then (((4 : Int32) * x2) + x4).toNatClampNeg)), (0, .ref s_MO), (1, .int x1), (4, .int x4)]) (Nat.le_of_ble_eq_true rfl) rfl rfl rfl rfl ?_
          refine eb_goto (pc := 76) (tgt := 7) rfl (by decide) ?_
          exact eb_pick [2, 3, 1, 0] rfl w
        · replace w := w.2 c16
          refine eb_iload (pc := 58) (i := 4) rfl rfl ?_
          exact eb_ireturn (pc := 60) rfl rfl rfl w
      · replace w := w.2 c15
        refine eb_iinc (pc := 47) (i := 4) (n := 1) (v := x4 + 1) (ls2 := [(4, .int (x4 + 1)), (0, .ref s_MO), (1, .int x1), (2, .int x2), (3, .int x3)]) (Nat.le_of_ble_eq_true rfl) rfl rfl rfl rfl ?_
        refine eb_goto (pc := 50) (tgt := 31) rfl (by decide) ?_
        exact eb_pick [1, 2, 3, 4, 0] rfl w
theorem T_X11_stepAt {d : Nat} {h : eb_H} {Q : Option Value → eb_H → Prop} (x1 : Int32)  (ko : eb_KO h) (w : eb_Sn (d + 1) m_X11_stepAt h 7 [(0, .ref s_MO), (1, .int x1), (2, .int (((64 : Int32) * (eb_I h s_m_all (31 : Int32).toNatClampNeg)) + (eb_I h s_m_all (32 : Int32).toNatClampNeg))), (3, .int 0)] [] h Q) : eb_Ct (d + 1) 234 [.ref s_MO, .int x1] h Q :=
  eb_bodyQ (by decide) ok_X11_stepAt (Nat.le_of_ble_eq_true rfl) (b_X11_stepAt_0 (h0 := h) x1  ko w)
theorem b_X11_soonest_0 {d : Nat} {h0 h : eb_H} {Q : Option Value → eb_H → Prop} (x1 : Int32) (x2 : Int32) (x3 : Int32)  (ko : eb_KO h) (w : eb_Ct d 233 [.ref s_MO, .int x1, .int x2, .int x3] (eb_sI h s_MO 0 0) (fun r h1 => ∃ y2, r = some (.int y2) ∧ eb_KO h1 ∧ ((y2 = 0 → eb_Ct d 232 [.ref s_MO, .int x1, .int x2, .int x3] h1 (fun r h5 => ∃ y6, r = some (.int y6) ∧ eb_KO h5 ∧ Q (some (.int (if y6 = (268435456 : Int32) then (-1) else y6 : Int32))) h5)) ∧ (¬ (y2 = 0) → Q (some (.int y2)) h1)))) : eb_Sn (d + 1) m_X11_soonest h0 0 [(0, .ref s_MO), (1, .int x1), (2, .int x2), (3, .int x3)] [] h Q := by
  refine eb_aload_n (pc := 0) (n := 0) (i := 0) rfl rfl rfl ?_
  refine eb_iconst (pc := 1) (n := 0) (v := 0) rfl rfl ?_
  refine eb_putI (pc := 2) rfl rfl (by decide) (by decide) rfl rfl ⟨rfl, rfl⟩ ?_
  refine eb_aload_n (pc := 5) (n := 0) (i := 0) rfl rfl rfl ?_
  refine eb_iload_n (pc := 6) (n := 1) (i := 1) rfl rfl rfl ?_
  refine eb_iload_n (pc := 7) (n := 2) (i := 2) rfl rfl rfl ?_
  refine eb_iload_n (pc := 8) (n := 3) (i := 3) rfl rfl rfl ?_
  refine eb_ctV (pc := 9) (As := [.int x1, .int x2, .int x3]) (rest := []) rfl (by decide) rfl rfl (by decide) rfl (Nat.le_of_ble_eq_true rfl) ?_
  refine eb_Ct.mono w ?_
  rintro r h1 ⟨y2, rfl, ko3, w⟩
  change eb_Sn _ _ _ 12 _ [.int y2] _ _
  refine eb_istore (pc := 12) (i := 4) (ls2 := [(4, .int y2), (0, .ref s_MO), (1, .int x1), (2, .int x2), (3, .int x3)]) (Nat.le_of_ble_eq_true rfl) rfl rfl ?_
  refine eb_iload (pc := 14) (i := 4) rfl rfl ?_
  refine eb_if_eq (pc := 16) (tgt := 22) rfl (by decide) (fun c4 => ?_) (fun c4 => ?_)
  · replace w := w.1 c4
    refine eb_aload_n (pc := 22) (n := 0) (i := 0) rfl rfl rfl ?_
    refine eb_iload_n (pc := 23) (n := 1) (i := 1) rfl rfl rfl ?_
    refine eb_iload_n (pc := 24) (n := 2) (i := 2) rfl rfl rfl ?_
    refine eb_iload_n (pc := 25) (n := 3) (i := 3) rfl rfl rfl ?_
    refine eb_ctV (pc := 26) (As := [.int x1, .int x2, .int x3]) (rest := []) rfl (by decide) rfl rfl (by decide) rfl (Nat.le_of_ble_eq_true rfl) ?_
    refine eb_Ct.mono w ?_
    rintro r h5 ⟨y6, rfl, ko7, w⟩
    change eb_Sn _ _ _ 29 _ [.int y6] _ _
    refine eb_istore (pc := 29) (i := 5) (ls2 := [(5, .int y6), (4, .int y2), (0, .ref s_MO), (1, .int x1), (2, .int x2), (3, .int x3)]) (Nat.le_of_ble_eq_true rfl) rfl rfl ?_
    refine eb_iload (pc := 31) (i := 5) rfl rfl ?_
    refine eb_ldcw (pc := 33) (a := 268435456) (v := 268435456) rfl (by decide) ?_
    refine eb_joinI (pc2 := 45) (ls2 := [(5, .int y6), (4, .int y2), (0, .ref s_MO), (1, .int x1), (2, .int x2), (3, .int x3)]) (st2 := []) (v := (if y6 = (268435456 : Int32) then (-1) else y6 : Int32)) ?_ (fun jj9 => ?_)
    · exact eb_ireturn (pc := 45) rfl rfl rfl w
    refine eb_icmp_ne (pc := 36) (tgt := 43) rfl (by decide) (fun c8 => ?_) (fun c8 => ?_)
    · refine eb_iload (pc := 43) (i := 5) rfl rfl ?_
      exact jj9 _ (by simp only [if_neg c8])
    · refine eb_iconst (pc := 39) (n := -1) (v := (-1)) rfl rfl ?_
      refine eb_goto (pc := 40) (tgt := 45) rfl (by decide) ?_
      exact jj9 _ (by simp only [if_pos c8])
  · replace w := w.2 c4
    refine eb_iload (pc := 19) (i := 4) rfl rfl ?_
    exact eb_ireturn (pc := 21) rfl rfl rfl w
theorem T_X11_soonest {d : Nat} {h : eb_H} {Q : Option Value → eb_H → Prop} (x1 : Int32) (x2 : Int32) (x3 : Int32)  (ko : eb_KO h) (w : eb_Ct d 233 [.ref s_MO, .int x1, .int x2, .int x3] (eb_sI h s_MO 0 0) (fun r h1 => ∃ y2, r = some (.int y2) ∧ eb_KO h1 ∧ ((y2 = 0 → eb_Ct d 232 [.ref s_MO, .int x1, .int x2, .int x3] h1 (fun r h5 => ∃ y6, r = some (.int y6) ∧ eb_KO h5 ∧ Q (some (.int (if y6 = (268435456 : Int32) then (-1) else y6 : Int32))) h5)) ∧ (¬ (y2 = 0) → Q (some (.int y2)) h1)))) : eb_Ct (d + 1) 235 [.ref s_MO, .int x1, .int x2, .int x3] h Q :=
  eb_bodyQ (by decide) ok_X11_soonest (Nat.le_of_ble_eq_true rfl) (b_X11_soonest_0 (h0 := h) x1 x2 x3  ko w)
theorem b_X11_way_0 {d : Nat} {h0 h : eb_H} {Q : Option Value → eb_H → Prop} (x1 : Int32) (x2 : Int32) (x3 : Int32) (x4 : Int32)  (ko : eb_KO h) (w : eb_Ct d 233 [.ref s_MO, .int x1, .int x2, .int x3] (eb_sI h s_MO 0 0) (fun r h1 => ∃ y2, r = some (.int y2) ∧ eb_KO h1 ∧ ((y2 = 0 → ((0 ≤ x4 → eb_Ct d 232 [.ref s_MO, .int x1, .int x2, .int x3] h1 (fun r h6 => ∃ y7, r = some (.int y7) ∧ eb_KO h6 ∧ eb_Ct d 234 [.ref s_MO, .int x4] h6 (fun r h9 => ∃ y10, r = some (.int y10) ∧ eb_KO h9 ∧ Q (some (.int y10)) h9))) ∧ (¬ (0 ≤ x4) → Q (some (.int (-3))) h1))) ∧ (¬ (y2 = 0) → Q (some (.int y2)) h1)))) : eb_Sn (d + 1) m_X11_way h0 0 [(0, .ref s_MO), (1, .int x1), (2, .int x2), (3, .int x3), (4, .int x4)] [] h Q := by
  refine eb_aload_n (pc := 0) (n := 0) (i := 0) rfl rfl rfl ?_
  refine eb_iconst (pc := 1) (n := 0) (v := 0) rfl rfl ?_
  refine eb_putI (pc := 2) rfl rfl (by decide) (by decide) rfl rfl ⟨rfl, rfl⟩ ?_
  refine eb_aload_n (pc := 5) (n := 0) (i := 0) rfl rfl rfl ?_
  refine eb_iload_n (pc := 6) (n := 1) (i := 1) rfl rfl rfl ?_
  refine eb_iload_n (pc := 7) (n := 2) (i := 2) rfl rfl rfl ?_
  refine eb_iload_n (pc := 8) (n := 3) (i := 3) rfl rfl rfl ?_
  refine eb_ctV (pc := 9) (As := [.int x1, .int x2, .int x3]) (rest := []) rfl (by decide) rfl rfl (by decide) rfl (Nat.le_of_ble_eq_true rfl) ?_
  refine eb_Ct.mono w ?_
  rintro r h1 ⟨y2, rfl, ko3, w⟩
  change eb_Sn _ _ _ 12 _ [.int y2] _ _
  refine eb_istore (pc := 12) (i := 5) (ls2 := [(5, .int y2), (0, .ref s_MO), (1, .int x1), (2, .int x2), (3, .int x3), (4, .int x4)]) (Nat.le_of_ble_eq_true rfl) rfl rfl ?_
  refine eb_iload (pc := 14) (i := 5) rfl rfl ?_
  refine eb_if_eq (pc := 16) (tgt := 22) rfl (by decide) (fun c4 => ?_) (fun c4 => ?_)
  · replace w := w.1 c4
    refine eb_iload (pc := 22) (i := 4) rfl rfl ?_
    refine eb_if_ge (pc := 24) (tgt := 30) rfl (by decide) (fun c5 => ?_) (fun c5 => ?_)
    · replace w := w.1 c5
      refine eb_aload_n (pc := 30) (n := 0) (i := 0) rfl rfl rfl ?_
      refine eb_iload_n (pc := 31) (n := 1) (i := 1) rfl rfl rfl ?_
      refine eb_iload_n (pc := 32) (n := 2) (i := 2) rfl rfl rfl ?_
      refine eb_iload_n (pc := 33) (n := 3) (i := 3) rfl rfl rfl ?_
      refine eb_ctV (pc := 34) (As := [.int x1, .int x2, .int x3]) (rest := []) rfl (by decide) rfl rfl (by decide) rfl (Nat.le_of_ble_eq_true rfl) ?_
      refine eb_Ct.mono w ?_
      rintro r h6 ⟨y7, rfl, ko8, w⟩
      change eb_Sn _ _ _ 37 _ [.int y7] _ _
      refine eb_popi (pc := 37) rfl ?_
      refine eb_aload_n (pc := 38) (n := 0) (i := 0) rfl rfl rfl ?_
      refine eb_iload (pc := 39) (i := 4) rfl rfl ?_
      refine eb_ctV (pc := 41) (As := [.int x4]) (rest := []) rfl (by decide) rfl rfl (by decide) rfl (Nat.le_of_ble_eq_true rfl) ?_
      refine eb_Ct.mono w ?_
      rintro r h9 ⟨y10, rfl, ko11, w⟩
      change eb_Sn _ _ _ 44 _ [.int y10] _ _
      exact eb_ireturn (pc := 44) rfl rfl rfl w
    · replace w := w.2 c5
      refine eb_bipush (pc := 27) (n := -3) (v := (-3)) rfl rfl ?_
      exact eb_ireturn (pc := 29) rfl rfl rfl w
  · replace w := w.2 c4
    refine eb_iload (pc := 19) (i := 5) rfl rfl ?_
    exact eb_ireturn (pc := 21) rfl rfl rfl w
theorem T_X11_way {d : Nat} {h : eb_H} {Q : Option Value → eb_H → Prop} (x1 : Int32) (x2 : Int32) (x3 : Int32) (x4 : Int32)  (ko : eb_KO h) (w : eb_Ct d 233 [.ref s_MO, .int x1, .int x2, .int x3] (eb_sI h s_MO 0 0) (fun r h1 => ∃ y2, r = some (.int y2) ∧ eb_KO h1 ∧ ((y2 = 0 → ((0 ≤ x4 → eb_Ct d 232 [.ref s_MO, .int x1, .int x2, .int x3] h1 (fun r h6 => ∃ y7, r = some (.int y7) ∧ eb_KO h6 ∧ eb_Ct d 234 [.ref s_MO, .int x4] h6 (fun r h9 => ∃ y10, r = some (.int y10) ∧ eb_KO h9 ∧ Q (some (.int y10)) h9))) ∧ (¬ (0 ≤ x4) → Q (some (.int (-3))) h1))) ∧ (¬ (y2 = 0) → Q (some (.int y2)) h1)))) : eb_Ct (d + 1) 236 [.ref s_MO, .int x1, .int x2, .int x3, .int x4] h Q :=
  eb_bodyQ (by decide) ok_X11_way (Nat.le_of_ble_eq_true rfl) (b_X11_way_0 (h0 := h) x1 x2 x3 x4  ko w)
theorem b_X11_beginsMany_0 {d : Nat} {h0 h : eb_H} {Q : Option Value → eb_H → Prop}   (ko : eb_KO h) (w : eb_Ct d 227 [.ref s_MO, .int (eb_I h s_m_all (50 : Int32).toNatClampNeg)] h (fun r h1 => r = none ∧ eb_KO h1 ∧ eb_Sn (d + 1) m_X11_beginsMany h0 13 [(0, .ref s_MO), (1, .int 0)] [] h1 Q)) : eb_Sn (d + 1) m_X11_beginsMany h0 0 [(0, .ref s_MO)] [] h Q := by
  refine eb_aload_n (pc := 0) (n := 0) (i := 0) rfl rfl rfl ?_
  refine eb_aload_n (pc := 1) (n := 0) (i := 0) rfl rfl rfl ?_
  refine eb_getR (pc := 2) rfl rfl (by decide) (by decide) rfl (ko_s_MO_1 ko) ?_
  refine eb_bipush (pc := 5) (n := 50) (v := 50) rfl rfl ?_
  refine eb_iaload (pc := 7) rfl rfl (by decide) (by unfold vp_in; decide) ?_
  refine eb_ctV (pc := 8) (As := [.int (eb_I h s_m_all (50 : Int32).toNatClampNeg)]) (rest := []) rfl (by decide) rfl rfl (by decide) rfl (Nat.le_of_ble_eq_true rfl) ?_
  refine eb_Ct.mono w ?_
  rintro r h1 ⟨rfl, ko3, w⟩
  change eb_Sn _ _ _ 11 _ [] _ _
  refine eb_iconst (pc := 11) (n := 0) (v := 0) rfl rfl ?_
  refine eb_istore_n (pc := 12) (n := 1) (i := 1) (ls2 := [(1, .int 0), (0, .ref s_MO)]) rfl (Nat.le_of_ble_eq_true rfl) rfl rfl ?_
  exact eb_pick [1, 0] rfl w
theorem b_X11_beginsMany_13 {d : Nat} {h0 h : eb_H} {Q : Option Value → eb_H → Prop} (x1 : Int32)  (ko : eb_KO h) (w : (((1024 : Int32) ≤ x1 → Q none h) ∧ (¬ ((1024 : Int32) ≤ x1) → (vp_in x1 1024) ∧ (vp_in x1 1024) ∧ eb_Sn (d + 1) m_X11_beginsMany h0 13 [(0, .ref s_MO), (1, .int (x1 + 1))] [] (eb_sJ (eb_sJ h s_m_many x1.toNatClampNeg (if x1 = (((64 : Int32) * (eb_I h s_m_all (31 : Int32).toNatClampNeg)) + (eb_I h s_m_all (32 : Int32).toNatClampNeg)) then 1 else 0 : Int64)) s_m_manyThen x1.toNatClampNeg 0) Q))) : eb_Sn (d + 1) m_X11_beginsMany h0 13 [(0, .ref s_MO), (1, .int x1)] [] h Q := by
  refine eb_iload_n (pc := 13) (n := 1) (i := 1) rfl rfl rfl ?_
  refine eb_sipush (pc := 14) (n := 1024) (v := 1024) rfl rfl ?_
  refine eb_icmp_ge (pc := 17) (tgt := 52) rfl (by decide) (fun c1 => ?_) (fun c1 => ?_)
  · replace w := w.1 c1
    exact eb_return (pc := 52) rfl rfl w
  · replace w := w.2 c1
    refine eb_aload_n (pc := 20) (n := 0) (i := 0) rfl rfl rfl ?_
    refine eb_getR (pc := 21) rfl rfl (by decide) (by decide) rfl (ko_s_MO_24 ko) ?_
    refine eb_iload_n (pc := 24) (n := 1) (i := 1) rfl rfl rfl ?_
    refine eb_iload_n (pc := 25) (n := 1) (i := 1) rfl rfl rfl ?_
    refine eb_aload_n (pc := 26) (n := 0) (i := 0) rfl rfl rfl ?_
    refine eb_ctV (pc := 27) (As := []) (rest := [.int x1, .int x1, .ref s_m_many]) rfl (by decide) rfl rfl (by decide) rfl (Nat.le_of_ble_eq_true rfl) ?_
    refine eb_bodyQ (by decide) ok_X11_standNow (Nat.le_of_ble_eq_true rfl) ?_
    change eb_Sn _ m_X11_standNow _ 0 [(0, .ref s_MO)] [] _ _
    refine eb_bipush (pc := 0) (n := 64) (v := 64) rfl rfl ?_
    refine eb_aload_n (pc := 2) (n := 0) (i := 0) rfl rfl rfl ?_
    refine eb_getR (pc := 3) rfl rfl (by decide) (by decide) rfl (ko_s_MO_1 ko) ?_
    refine eb_bipush (pc := 6) (n := 31) (v := 31) rfl rfl ?_
    refine eb_iaload (pc := 8) rfl rfl (by decide) (by unfold vp_in; decide) ?_
    refine eb_imul (pc := 9) rfl ?_
    refine eb_aload_n (pc := 10) (n := 0) (i := 0) rfl rfl rfl ?_
    refine eb_getR (pc := 11) rfl rfl (by decide) (by decide) rfl (ko_s_MO_1 ko) ?_
    refine eb_bipush (pc := 14) (n := 32) (v := 32) rfl rfl ?_
    refine eb_iaload (pc := 16) rfl rfl (by decide) (by unfold vp_in; decide) ?_
    refine eb_iadd (pc := 17) rfl ?_
    refine eb_ireturn (pc := 18) rfl rfl rfl ?_
    change eb_Sn _ _ _ 30 _ [.int (((64 : Int32) * (eb_I h s_m_all (31 : Int32).toNatClampNeg)) + (eb_I h s_m_all (32 : Int32).toNatClampNeg)), .int x1, .int x1, .ref s_m_many] _ _
    refine eb_joinL (pc2 := 38) (ls2 := [(0, .ref s_MO), (1, .int x1)]) (st2 := [.int x1, .ref s_m_many]) (v := (if x1 = (((64 : Int32) * (eb_I h s_m_all (31 : Int32).toNatClampNeg)) + (eb_I h s_m_all (32 : Int32).toNatClampNeg)) then 1 else 0 : Int64)) ?_ (fun jj3 => ?_)
    · obtain ⟨c5, w⟩ := w
      refine eb_lastore (pc := 38) rfl rfl c5 ?_
      refine eb_aload_n (pc := 39) (n := 0) (i := 0) rfl rfl rfl ?_
      refine eb_getR (pc := 40) rfl rfl (by decide) (by decide) rfl (ko_s_MO_25 ko) ?_
      refine eb_iload_n (pc := 43) (n := 1) (i := 1) rfl rfl rfl ?_
      refine eb_lconst (pc := 44) (n := 0) (v := 0) rfl rfl ?_
      obtain ⟨c6, w⟩ := w
      refine eb_lastore (pc := 45) rfl rfl c6 ?_
      refine eb_iinc (pc := 46) (i := 1) (n := 1) (v := x1 + 1) (ls2 := [(1, .int (x1 + 1)), (0, .ref s_MO)]) (Nat.le_of_ble_eq_true rfl) rfl rfl rfl rfl ?_
      refine eb_goto (pc := 49) (tgt := 13) rfl (by decide) ?_
      exact eb_pick [1, 0] rfl w
    refine eb_icmp_ne (pc := 30) (tgt := 37) rfl (by decide) (fun c2 => ?_) (fun c2 => ?_)
    · refine eb_lconst (pc := 37) (n := 0) (v := 0) rfl rfl ?_
      exact jj3 _ (by simp only [if_neg c2])
    · refine eb_lconst (pc := 33) (n := 1) (v := 1) rfl rfl ?_
      refine eb_goto (pc := 34) (tgt := 38) rfl (by decide) ?_
      exact jj3 _ (by simp only [if_pos c2])
theorem T_X11_beginsMany {d : Nat} {h : eb_H} {Q : Option Value → eb_H → Prop}   (ko : eb_KO h) (w : eb_Ct d 227 [.ref s_MO, .int (eb_I h s_m_all (50 : Int32).toNatClampNeg)] h (fun r h1 => r = none ∧ eb_KO h1 ∧ eb_Sn (d + 1) m_X11_beginsMany h 13 [(0, .ref s_MO), (1, .int 0)] [] h1 Q)) : eb_Ct (d + 1) 237 [.ref s_MO] h Q :=
  eb_bodyQ (by decide) ok_X11_beginsMany (Nat.le_of_ble_eq_true rfl) (b_X11_beginsMany_0 (h0 := h)   ko w)
theorem b_X11_goesMany_0 {d : Nat} {h0 h : eb_H} {Q : Option Value → eb_H → Prop} (x1 : Int32)  (ko : eb_KO h) (w : eb_Sn (d + 2) m_X11_goesMany h0 2 [(0, .ref s_MO), (1, .int x1), (2, .int 0)] [] h Q) : eb_Sn (d + 2) m_X11_goesMany h0 0 [(0, .ref s_MO), (1, .int x1)] [] h Q := by
  refine eb_iconst (pc := 0) (n := 0) (v := 0) rfl rfl ?_
  refine eb_istore_n (pc := 1) (n := 2) (i := 2) (ls2 := [(2, .int 0), (0, .ref s_MO), (1, .int x1)]) rfl (Nat.le_of_ble_eq_true rfl) rfl rfl ?_
  exact eb_pick [1, 2, 0] rfl w
theorem b_X11_goesMany_2 {d : Nat} {h0 h : eb_H} {Q : Option Value → eb_H → Prop} (x1 : Int32) (x2 : Int32)  (ko : eb_KO h) (w : ((((64 : Int32) * ((eb_I h s_m_all (1 : Int32).toNatClampNeg) * (eb_I h s_m_all (2 : Int32).toNatClampNeg))) ≤ x2 → eb_Sn (d + 2) m_X11_goesMany h0 98 [(0, .ref s_MO), (2, .int 0)] [] h Q) ∧ (¬ (((64 : Int32) * ((eb_I h s_m_all (1 : Int32).toNatClampNeg) * (eb_I h s_m_all (2 : Int32).toNatClampNeg))) ≤ x2) → eb_Sn (d + 2) m_X11_goesMany h0 12 [(0, .ref s_MO), (1, .int x1), (2, .int x2), (3, .int 0)] [] h Q))) : eb_Sn (d + 2) m_X11_goesMany h0 2 [(0, .ref s_MO), (1, .int x1), (2, .int x2)] [] h Q := by
  refine eb_iload_n (pc := 2) (n := 2) (i := 2) rfl rfl rfl ?_
  refine eb_aload_n (pc := 3) (n := 0) (i := 0) rfl rfl rfl ?_
  refine eb_ctV (pc := 4) (As := []) (rest := [.int x2]) rfl (by decide) rfl rfl (by decide) rfl (Nat.le_of_ble_eq_true rfl) ?_
  refine eb_bodyQ (by decide) ok_X11_stands (Nat.le_of_ble_eq_true rfl) ?_
  change eb_Sn _ m_X11_stands _ 0 [(0, .ref s_MO)] [] _ _
  refine eb_bipush (pc := 0) (n := 64) (v := 64) rfl rfl ?_
  refine eb_aload_n (pc := 2) (n := 0) (i := 0) rfl rfl rfl ?_
  refine eb_ctV (pc := 3) (As := []) (rest := [.int 64]) rfl (by decide) rfl rfl (by decide) rfl (Nat.le_of_ble_eq_true rfl) ?_
  refine eb_bodyQ (by decide) ok_X11_cells (Nat.le_of_ble_eq_true rfl) ?_
  change eb_Sn _ m_X11_cells _ 0 [(0, .ref s_MO)] [] _ _
  refine eb_aload_n (pc := 0) (n := 0) (i := 0) rfl rfl rfl ?_
  refine eb_getR (pc := 1) rfl rfl (by decide) (by decide) rfl (ko_s_MO_1 ko) ?_
  refine eb_iconst (pc := 4) (n := 1) (v := 1) rfl rfl ?_
  refine eb_iaload (pc := 5) rfl rfl (by decide) (by unfold vp_in; decide) ?_
  refine eb_aload_n (pc := 6) (n := 0) (i := 0) rfl rfl rfl ?_
  refine eb_getR (pc := 7) rfl rfl (by decide) (by decide) rfl (ko_s_MO_1 ko) ?_
  refine eb_iconst (pc := 10) (n := 2) (v := 2) rfl rfl ?_
  refine eb_iaload (pc := 11) rfl rfl (by decide) (by unfold vp_in; decide) ?_
  refine eb_imul (pc := 12) rfl ?_
  refine eb_ireturn (pc := 13) rfl rfl rfl ?_
  change eb_Sn _ _ _ 6 _ [.int ((eb_I h s_m_all (1 : Int32).toNatClampNeg) * (eb_I h s_m_all (2 : Int32).toNatClampNeg)), .int 64] _ _
  refine eb_imul (pc := 6) rfl ?_
  refine eb_ireturn (pc := 7) rfl rfl rfl ?_
  change eb_Sn _ _ _ 7 _ [.int ((64 : Int32) * ((eb_I h s_m_all (1 : Int32).toNatClampNeg) * (eb_I h s_m_all (2 : Int32).toNatClampNeg))), .int x2] _ _
  refine eb_icmp_ge (pc := 7) (tgt := 96) rfl (by decide) (fun c1 => ?_) (fun c1 => ?_)
  · replace w := w.1 c1
    refine eb_iconst (pc := 96) (n := 0) (v := 0) rfl rfl ?_
    refine eb_istore_n (pc := 97) (n := 2) (i := 2) (ls2 := [(2, .int 0), (0, .ref s_MO), (1, .int x1)]) rfl (Nat.le_of_ble_eq_true rfl) rfl rfl ?_
    exact eb_pick [1, 0] rfl w
  · replace w := w.2 c1
    refine eb_iconst (pc := 10) (n := 0) (v := 0) rfl rfl ?_
    refine eb_istore_n (pc := 11) (n := 3) (i := 3) (ls2 := [(3, .int 0), (0, .ref s_MO), (1, .int x1), (2, .int x2)]) rfl (Nat.le_of_ble_eq_true rfl) rfl rfl ?_
    exact eb_pick [1, 2, 3, 0] rfl w
theorem b_X11_goesMany_98 {d : Nat} {h0 h : eb_H} {Q : Option Value → eb_H → Prop} (x2 : Int32)  (ko : eb_KO h) (w : (((1024 : Int32) ≤ x2 → Q none h) ∧ (¬ ((1024 : Int32) ≤ x2) → (vp_in x2 1024) ∧ (vp_in x2 1024) ∧ (vp_in x2 1024) ∧ eb_Sn (d + 2) m_X11_goesMany h0 98 [(0, .ref s_MO), (2, .int (x2 + 1))] [] (eb_sJ (eb_sJ h s_m_many x2.toNatClampNeg (eb_J h s_m_manyThen x2.toNatClampNeg)) s_m_manyThen x2.toNatClampNeg 0) Q))) : eb_Sn (d + 2) m_X11_goesMany h0 98 [(0, .ref s_MO), (2, .int x2)] [] h Q := by
  refine eb_iload_n (pc := 98) (n := 2) (i := 2) rfl rfl rfl ?_
  refine eb_sipush (pc := 99) (n := 1024) (v := 1024) rfl rfl ?_
  refine eb_icmp_ge (pc := 102) (tgt := 130) rfl (by decide) (fun c1 => ?_) (fun c1 => ?_)
  · replace w := w.1 c1
    exact eb_return (pc := 130) rfl rfl w
  · replace w := w.2 c1
    refine eb_aload_n (pc := 105) (n := 0) (i := 0) rfl rfl rfl ?_
    refine eb_getR (pc := 106) rfl rfl (by decide) (by decide) rfl (ko_s_MO_24 ko) ?_
    refine eb_iload_n (pc := 109) (n := 2) (i := 2) rfl rfl rfl ?_
    refine eb_aload_n (pc := 110) (n := 0) (i := 0) rfl rfl rfl ?_
    refine eb_getR (pc := 111) rfl rfl (by decide) (by decide) rfl (ko_s_MO_25 ko) ?_
    refine eb_iload_n (pc := 114) (n := 2) (i := 2) rfl rfl rfl ?_
    obtain ⟨c2, w⟩ := w
    refine eb_laload (pc := 115) rfl rfl c2 ?_
    obtain ⟨c3, w⟩ := w
    refine eb_lastore (pc := 116) rfl rfl c3 ?_
    refine eb_aload_n (pc := 117) (n := 0) (i := 0) rfl rfl rfl ?_
    refine eb_getR (pc := 118) rfl rfl (by decide) (by decide) rfl (ko_s_MO_25 ko) ?_
    refine eb_iload_n (pc := 121) (n := 2) (i := 2) rfl rfl rfl ?_
    refine eb_lconst (pc := 122) (n := 0) (v := 0) rfl rfl ?_
    obtain ⟨c4, w⟩ := w
    refine eb_lastore (pc := 123) rfl rfl c4 ?_
    refine eb_iinc (pc := 124) (i := 2) (n := 1) (v := x2 + 1) (ls2 := [(2, .int (x2 + 1)), (0, .ref s_MO)]) (Nat.le_of_ble_eq_true rfl) rfl rfl rfl rfl ?_
    refine eb_goto (pc := 127) (tgt := 98) rfl (by decide) ?_
    exact eb_pick [1, 0] rfl w
theorem b_X11_goesMany_12 {d : Nat} {h0 h : eb_H} {Q : Option Value → eb_H → Prop} (x1 : Int32) (x2 : Int32) (x3 : Int32)  (ko : eb_KO h) (w : (((4 : Int32) ≤ x3 → eb_Sn (d + 2) m_X11_goesMany h0 2 [(0, .ref s_MO), (1, .int x1), (2, .int (x2 + 1))] [] h Q) ∧ (¬ ((4 : Int32) ≤ x3) → (vp_in x2 1024) ∧ (((eb_J h s_m_many x2.toNatClampNeg) ≤ 0 → eb_Sn (d + 2) m_X11_goesMany h0 2 [(0, .ref s_MO), (1, .int x1), (2, .int (x2 + 1))] [] h Q) ∧ (¬ ((eb_J h s_m_many x2.toNatClampNeg) ≤ 0) → (vp_in (((4 : Int32) * x2) + x3) 4096) ∧ (((eb_I h s_m_then (((4 : Int32) * x2) + x3).toNatClampNeg) = ((-1) : Int32) → ((x1 = 0 → eb_Sn (d + 2) m_X11_goesMany h0 12 [(0, .ref s_MO), (1, .int x1), (2, .int x2), (3, .int (x3 + 1))] [] h Q) ∧ (¬ (x1 = 0) → (vp_in x2 1024) ∧ (vp_in x2 1024) ∧ (vp_in x2 1024) ∧ eb_Sn (d + 2) m_X11_goesMany h0 12 [(0, .ref s_MO), (1, .int x1), (2, .int x2), (3, .int (x3 + 1))] [] (eb_sJ h s_m_manyThen x2.toNatClampNeg ((eb_J h s_m_manyThen x2.toNatClampNeg) + (eb_J h s_m_many x2.toNatClampNeg))) Q))) ∧ (¬ ((eb_I h s_m_then (((4 : Int32) * x2) + x3).toNatClampNeg) = ((-1) : Int32)) → (vp_in (eb_I h s_m_then (((4 : Int32) * x2) + x3).toNatClampNeg) 1024) ∧ (vp_in x2 1024) ∧ (vp_in (eb_I h s_m_then (((4 : Int32) * x2) + x3).toNatClampNeg) 1024) ∧ eb_Sn (d + 2) m_X11_goesMany h0 12 [(0, .ref s_MO), (1, .int x1), (2, .int x2), (3, .int (x3 + 1))] [] (eb_sJ h s_m_manyThen (eb_I h s_m_then (((4 : Int32) * x2) + x3).toNatClampNeg).toNatClampNeg ((eb_J h s_m_manyThen (eb_I h s_m_then (((4 : Int32) * x2) + x3).toNatClampNeg).toNatClampNeg) + (eb_J h s_m_many x2.toNatClampNeg))) Q))))))) : eb_Sn (d + 2) m_X11_goesMany h0 12 [(0, .ref s_MO), (1, .int x1), (2, .int x2), (3, .int x3)] [] h Q := by
  refine eb_iload_n (pc := 12) (n := 3) (i := 3) rfl rfl rfl ?_
  refine eb_iconst (pc := 13) (n := 4) (v := 4) rfl rfl ?_
  refine eb_icmp_ge (pc := 14) (tgt := 90) rfl (by decide) (fun c1 => ?_) (fun c1 => ?_)
  · replace w := w.1 c1
    refine eb_iinc (pc := 90) (i := 2) (n := 1) (v := x2 + 1) (ls2 := [(2, .int (x2 + 1)), (0, .ref s_MO), (1, .int x1), (3, .int x3)]) (Nat.le_of_ble_eq_true rfl) rfl rfl rfl rfl ?_
    refine eb_goto (pc := 93) (tgt := 2) rfl (by decide) ?_
    exact eb_pick [1, 2, 0] rfl w
  · replace w := w.2 c1
    refine eb_aload_n (pc := 17) (n := 0) (i := 0) rfl rfl rfl ?_
    refine eb_getR (pc := 18) rfl rfl (by decide) (by decide) rfl (ko_s_MO_24 ko) ?_
    refine eb_iload_n (pc := 21) (n := 2) (i := 2) rfl rfl rfl ?_
    obtain ⟨c2, w⟩ := w
    refine eb_laload (pc := 22) rfl rfl c2 ?_
    refine eb_lconst (pc := 23) (n := 0) (v := 0) rfl rfl ?_
    refine eb_lcmp (pc := 24) rfl ?_
    refine eb_if_le (pc := 25) (tgt := 90) rfl (by decide) (fun c3 => ?_) (fun c3 => ?_)
    · replace c3 := eb_lc_le.mp c3
      replace w := w.1 c3
      refine eb_iinc (pc := 90) (i := 2) (n := 1) (v := x2 + 1) (ls2 := [(2, .int (x2 + 1)), (0, .ref s_MO), (1, .int x1), (3, .int x3)]) (Nat.le_of_ble_eq_true rfl) rfl rfl rfl rfl ?_
      refine eb_goto (pc := 93) (tgt := 2) rfl (by decide) ?_
      exact eb_pick [1, 2, 0] rfl w
    · replace c3 := (fun hh => mt eb_lc_le.mpr hh) c3
      replace w := w.2 c3
      refine eb_aload_n (pc := 28) (n := 0) (i := 0) rfl rfl rfl ?_
      refine eb_getR (pc := 29) rfl rfl (by decide) (by decide) rfl (ko_s_MO_21 ko) ?_
      refine eb_iconst (pc := 32) (n := 4) (v := 4) rfl rfl ?_
      refine eb_iload_n (pc := 33) (n := 2) (i := 2) rfl rfl rfl ?_
      refine eb_imul (pc := 34) rfl ?_
      refine eb_iload_n (pc := 35) (n := 3) (i := 3) rfl rfl rfl ?_
      refine eb_iadd (pc := 36) rfl ?_
      obtain ⟨c4, w⟩ := w
      refine eb_iaload (pc := 37) rfl rfl (by decide) c4 ?_
      refine eb_istore (pc := 38) (i := 4) (ls2 := [(4, .int (eb_I h s_m_then (((4 : Int32) * x2) + x3).toNatClampNeg)), (0, .ref s_MO), (1, .int x1), (2, .int x2), (3, .int x3)]) (Nat.le_of_ble_eq_true rfl) rfl rfl ?_
      refine eb_iload (pc := 40) (i := 4) rfl rfl ?_
      refine eb_iconst (pc := 42) (n := -1) (v := (-1)) rfl rfl ?_
      refine eb_icmp_eq (pc := 43) (tgt := 65) rfl (by decide) (fun c5 => ?_) (fun c5 => ?_)
      · replace w := w.1 c5
        refine eb_iload_n (pc := 65) (n := 1) (i := 1) rfl rfl rfl ?_
        refine eb_if_eq (pc := 66) (tgt := 84) rfl (by decide) (fun c6 => ?_) (fun c6 => ?_)
        · replace w := w.1 c6
          refine eb_iinc (pc := 84) (i := 3) (n := 1) (v := x3 + 1) (ls2 := [(3, .int (x3 + 1)), (4, .int (eb_I h s_m_then (((4 : Int32) * x2) + x3).toNatClampNeg)), (0, .ref s_MO), (1, .int x1), (2, .int x2)]) (Nat.le_of_ble_eq_true rfl) rfl rfl rfl rfl ?_
          refine eb_goto (pc := 87) (tgt := 12) rfl (by decide) ?_
          exact eb_pick [2, 3, 4, 0] rfl w
        · replace w := w.2 c6
          refine eb_aload_n (pc := 69) (n := 0) (i := 0) rfl rfl rfl ?_
          refine eb_getR (pc := 70) rfl rfl (by decide) (by decide) rfl (ko_s_MO_25 ko) ?_
          refine eb_iload_n (pc := 73) (n := 2) (i := 2) rfl rfl rfl ?_
          refine eb_dup2 (pc := 74) rfl ?_
          obtain ⟨c7, w⟩ := w
          refine eb_laload (pc := 75) rfl rfl c7 ?_
          refine eb_aload_n (pc := 76) (n := 0) (i := 0) rfl rfl rfl ?_
          refine eb_getR (pc := 77) rfl rfl (by decide) (by decide) rfl (ko_s_MO_24 ko) ?_
          refine eb_iload_n (pc := 80) (n := 2) (i := 2) rfl rfl rfl ?_
          obtain ⟨c8, w⟩ := w
          refine eb_laload (pc := 81) rfl rfl c8 ?_
          refine eb_ladd (pc := 82) rfl ?_
          obtain ⟨c9, w⟩ := w
          refine eb_lastore (pc := 83) rfl rfl c9 ?_
          refine eb_iinc (pc := 84) (i := 3) (n := 1) (v := x3 + 1) (ls2 := [(3, .int (x3 + 1)), (4, .int (eb_I h s_m_then (((4 : Int32) * x2) + x3).toNatClampNeg)), (0, .ref s_MO), (1, .int x1), (2, .int x2)]) (Nat.le_of_ble_eq_true rfl) rfl rfl rfl rfl ?_
          refine eb_goto (pc := 87) (tgt := 12) rfl (by decide) ?_
          exact eb_pick [2, 3, 4, 0] rfl w
      · replace w := w.2 c5
        refine eb_aload_n (pc := 46) (n := 0) (i := 0) rfl rfl rfl ?_
        refine eb_getR (pc := 47) rfl rfl (by decide) (by decide) rfl (ko_s_MO_25 ko) ?_
        refine eb_iload (pc := 50) (i := 4) rfl rfl ?_
        refine eb_dup2 (pc := 52) rfl ?_
        obtain ⟨c10, w⟩ := w
        refine eb_laload (pc := 53) rfl rfl c10 ?_
        refine eb_aload_n (pc := 54) (n := 0) (i := 0) rfl rfl rfl ?_
        refine eb_getR (pc := 55) rfl rfl (by decide) (by decide) rfl (ko_s_MO_24 ko) ?_
        refine eb_iload_n (pc := 58) (n := 2) (i := 2) rfl rfl rfl ?_
        obtain ⟨c11, w⟩ := w
        refine eb_laload (pc := 59) rfl rfl c11 ?_
        refine eb_ladd (pc := 60) rfl ?_
        obtain ⟨c12, w⟩ := w
        refine eb_lastore (pc := 61) rfl rfl c12 ?_
        refine eb_goto (pc := 62) (tgt := 84) rfl (by decide) ?_
        refine eb_iinc (pc := 84) (i := 3) (n := 1) (v := x3 + 1) (ls2 := [(3, .int (x3 + 1)), (4, .int (eb_I h s_m_then (((4 : Int32) * x2) + x3).toNatClampNeg)), (0, .ref s_MO), (1, .int x1), (2, .int x2)]) (Nat.le_of_ble_eq_true rfl) rfl rfl rfl rfl ?_
        refine eb_goto (pc := 87) (tgt := 12) rfl (by decide) ?_
        exact eb_pick [2, 3, 4, 0] rfl w
theorem T_X11_goesMany {d : Nat} {h : eb_H} {Q : Option Value → eb_H → Prop} (x1 : Int32)  (ko : eb_KO h) (w : eb_Sn (d + 2) m_X11_goesMany h 2 [(0, .ref s_MO), (1, .int x1), (2, .int 0)] [] h Q) : eb_Ct (d + 2) 238 [.ref s_MO, .int x1] h Q :=
  eb_bodyQ (by decide) ok_X11_goesMany (Nat.le_of_ble_eq_true rfl) (b_X11_goesMany_0 (h0 := h) x1  ko w)
theorem b_X11_ways_0 {d : Nat} {h0 h : eb_H} {Q : Option Value → eb_H → Prop} (x1 : Int32) (x2 : Int32) (x3 : Int32) (x4 : Int32)  (ko : eb_KO h) (w : eb_Ct (d + 1) 233 [.ref s_MO, .int x1, .int x2, .int x3] (eb_sI h s_MO 0 0) (fun r h1 => ∃ y2, r = some (.int y2) ∧ eb_KO h1 ∧ ((y2 = 0 → (((¬ (x4.toInt64 < 0)) ∧ (¬ (12 < x4.toInt64)) → eb_Ct (d + 1) 237 [.ref s_MO] h1 (fun r h8 => r = none ∧ eb_KO h8 ∧ eb_Sn (d + 2) m_X11_ways h0 47 [(0, .ref s_MO), (1, .int x1), (2, .int x2), (3, .int x3), (4, .int x4), (6, .int 0)] [] h8 Q)) ∧ (¬ ((¬ (x4.toInt64 < 0)) ∧ (¬ (12 < x4.toInt64))) → Q (some (.long (-3))) h1))) ∧ (¬ (y2 = 0) → Q (some (.long y2.toInt64)) h1)))) : eb_Sn (d + 2) m_X11_ways h0 0 [(0, .ref s_MO), (1, .int x1), (2, .int x2), (3, .int x3), (4, .int x4)] [] h Q := by
  refine eb_aload_n (pc := 0) (n := 0) (i := 0) rfl rfl rfl ?_
  refine eb_iconst (pc := 1) (n := 0) (v := 0) rfl rfl ?_
  refine eb_putI (pc := 2) rfl rfl (by decide) (by decide) rfl rfl ⟨rfl, rfl⟩ ?_
  refine eb_aload_n (pc := 5) (n := 0) (i := 0) rfl rfl rfl ?_
  refine eb_iload_n (pc := 6) (n := 1) (i := 1) rfl rfl rfl ?_
  refine eb_iload_n (pc := 7) (n := 2) (i := 2) rfl rfl rfl ?_
  refine eb_iload_n (pc := 8) (n := 3) (i := 3) rfl rfl rfl ?_
  refine eb_ctV (pc := 9) (As := [.int x1, .int x2, .int x3]) (rest := []) rfl (by decide) rfl rfl (by decide) rfl (Nat.le_of_ble_eq_true rfl) ?_
  refine eb_Ct.mono w ?_
  rintro r h1 ⟨y2, rfl, ko3, w⟩
  change eb_Sn _ _ _ 12 _ [.int y2] _ _
  refine eb_istore (pc := 12) (i := 5) (ls2 := [(5, .int y2), (0, .ref s_MO), (1, .int x1), (2, .int x2), (3, .int x3), (4, .int x4)]) (Nat.le_of_ble_eq_true rfl) rfl rfl ?_
  refine eb_iload (pc := 14) (i := 5) rfl rfl ?_
  refine eb_if_eq (pc := 16) (tgt := 23) rfl (by decide) (fun c4 => ?_) (fun c4 => ?_)
  · replace w := w.1 c4
    refine eb_iload (pc := 23) (i := 4) rfl rfl ?_
    refine eb_i2l (pc := 25) rfl ?_
    refine eb_lconst (pc := 26) (n := 0) (v := 0) rfl rfl ?_
    refine eb_ldc2 (pc := 27) (a := 12) (v := 12) rfl (by decide) ?_
    refine eb_joinI (pc2 := 33) (ls2 := [(5, .int y2), (0, .ref s_MO), (1, .int x1), (2, .int x2), (3, .int x3), (4, .int x4)]) (st2 := []) (v := eb_q ((¬ (x4.toInt64 < 0)) ∧ (¬ (12 < x4.toInt64)))) ?_ (fun jj11 => ?_)
    · refine eb_if_ne (pc := 33) (tgt := 40) rfl (by decide) (fun c7 => ?_) (fun c7 => ?_)
      · replace c7 := eb_q1.mp c7
        replace w := w.1 c7
        refine eb_aload_n (pc := 40) (n := 0) (i := 0) rfl rfl rfl ?_
        refine eb_ctV (pc := 41) (As := []) (rest := []) rfl (by decide) rfl rfl (by decide) rfl (Nat.le_of_ble_eq_true rfl) ?_
        refine eb_Ct.mono w ?_
        rintro r h8 ⟨rfl, ko10, w⟩
        change eb_Sn _ _ _ 44 _ [] _ _
        refine eb_iconst (pc := 44) (n := 0) (v := 0) rfl rfl ?_
        refine eb_istore (pc := 45) (i := 6) (ls2 := [(6, .int 0), (5, .int y2), (0, .ref s_MO), (1, .int x1), (2, .int x2), (3, .int x3), (4, .int x4)]) (Nat.le_of_ble_eq_true rfl) rfl rfl ?_
        exact eb_pick [2, 3, 4, 5, 6, 0] rfl w
      · replace c7 := eb_q0.mp c7
        replace w := w.2 c7
        refine eb_ldc2 (pc := 36) (a := 18446744073709551613) (v := (-3)) rfl (by decide) ?_
        exact eb_lreturn (pc := 39) rfl rfl w
    refine eb_ctS (pc := 30) (As := [.long x4.toInt64, .long 0, .long 12]) (rest := []) rfl (by decide) (by decide) rfl rfl (Nat.le_of_ble_eq_true rfl) ?_
    refine eb_bodyQ (by decide) ok_X11_within (Nat.le_of_ble_eq_true rfl) ?_
    change eb_Sn _ m_X11_within _ 0 [(0, .long x4.toInt64), (2, .long 0), (4, .long 12)] [] _ _
    refine eb_lload_n (pc := 0) (n := 0) (i := 0) rfl rfl rfl ?_
    refine eb_lload_n (pc := 1) (n := 2) (i := 2) rfl rfl rfl ?_
    refine eb_lcmp (pc := 2) rfl ?_
    refine eb_if_lt (pc := 3) (tgt := 17) rfl (by decide) (fun c5 => ?_) (fun c5 => ?_)
    · replace c5 := eb_lc_lt.mp c5
      refine eb_iconst (pc := 17) (n := 0) (v := 0) rfl rfl ?_
      refine eb_ireturn (pc := 18) rfl rfl (by decide) ?_
      change eb_Sn _ _ _ 33 _ _ _ _
      exact jj11 0 (eb_qf (fun z => z.1 c5)).symm
    · replace c5 := (fun hh => mt eb_lc_lt.mpr hh) c5
      refine eb_lload_n (pc := 6) (n := 0) (i := 0) rfl rfl rfl ?_
      refine eb_lload (pc := 7) (i := 4) rfl rfl ?_
      refine eb_lcmp (pc := 9) rfl ?_
      refine eb_if_gt (pc := 10) (tgt := 17) rfl (by decide) (fun c6 => ?_) (fun c6 => ?_)
      · replace c6 := eb_lc_gt.mp c6
        refine eb_iconst (pc := 17) (n := 0) (v := 0) rfl rfl ?_
        refine eb_ireturn (pc := 18) rfl rfl (by decide) ?_
        change eb_Sn _ _ _ 33 _ _ _ _
        exact jj11 0 (eb_qf (fun z => (fun z => z c6) z.2)).symm
      · replace c6 := (fun hh => mt eb_lc_gt.mpr hh) c6
        refine eb_iconst (pc := 13) (n := 1) (v := 1) rfl rfl ?_
        refine eb_goto (pc := 14) (tgt := 18) rfl (by decide) ?_
        refine eb_ireturn (pc := 18) rfl rfl (by decide) ?_
        change eb_Sn _ _ _ 33 _ _ _ _
        exact jj11 1 (eb_qt (⟨c5, c6⟩)).symm
  · replace w := w.2 c4
    refine eb_iload (pc := 19) (i := 5) rfl rfl ?_
    refine eb_i2l (pc := 21) rfl ?_
    exact eb_lreturn (pc := 22) rfl rfl w
theorem b_X11_ways_47 {d : Nat} {h0 h : eb_H} {Q : Option Value → eb_H → Prop} (x1 : Int32) (x2 : Int32) (x3 : Int32) (x4 : Int32) (x6 : Int32)  (ko : eb_KO h) (w : ((x4 ≤ x6 → eb_Sn (d + 2) m_X11_ways h0 71 [(0, .ref s_MO), (1, .int x1), (2, .int x2), (3, .int x3), (6, .long 0), (8, .int 0)] [] h Q) ∧ (¬ (x4 ≤ x6) → eb_Ct (d + 1) 238 [.ref s_MO, .int 0] h (fun r h2 => r = none ∧ eb_KO h2 ∧ eb_Sn (d + 2) m_X11_ways h0 47 [(0, .ref s_MO), (1, .int x1), (2, .int x2), (3, .int x3), (4, .int x4), (6, .int (x6 + 1))] [] h2 Q)))) : eb_Sn (d + 2) m_X11_ways h0 47 [(0, .ref s_MO), (1, .int x1), (2, .int x2), (3, .int x3), (4, .int x4), (6, .int x6)] [] h Q := by
  refine eb_iload (pc := 47) (i := 6) rfl rfl ?_
  refine eb_iload (pc := 49) (i := 4) rfl rfl ?_
  refine eb_icmp_ge (pc := 51) (tgt := 65) rfl (by decide) (fun c1 => ?_) (fun c1 => ?_)
  · replace w := w.1 c1
    refine eb_lconst (pc := 65) (n := 0) (v := 0) rfl rfl ?_
    refine eb_lstore (pc := 66) (i := 6) (ls2 := [(6, .long 0), (0, .ref s_MO), (1, .int x1), (2, .int x2), (3, .int x3), (4, .int x4)]) (Nat.le_of_ble_eq_true rfl) rfl rfl ?_
    refine eb_iconst (pc := 68) (n := 0) (v := 0) rfl rfl ?_
    refine eb_istore (pc := 69) (i := 8) (ls2 := [(8, .int 0), (6, .long 0), (0, .ref s_MO), (1, .int x1), (2, .int x2), (3, .int x3), (4, .int x4)]) (Nat.le_of_ble_eq_true rfl) rfl rfl ?_
    exact eb_pick [2, 3, 4, 5, 1, 0] rfl w
  · replace w := w.2 c1
    refine eb_aload_n (pc := 54) (n := 0) (i := 0) rfl rfl rfl ?_
    refine eb_iconst (pc := 55) (n := 0) (v := 0) rfl rfl ?_
    refine eb_ctV (pc := 56) (As := [.int 0]) (rest := []) rfl (by decide) rfl rfl (by decide) rfl (Nat.le_of_ble_eq_true rfl) ?_
    refine eb_Ct.mono w ?_
    rintro r h2 ⟨rfl, ko4, w⟩
    change eb_Sn _ _ _ 59 _ [] _ _
    refine eb_iinc (pc := 59) (i := 6) (n := 1) (v := x6 + 1) (ls2 := [(6, .int (x6 + 1)), (0, .ref s_MO), (1, .int x1), (2, .int x2), (3, .int x3), (4, .int x4)]) (Nat.le_of_ble_eq_true rfl) rfl rfl rfl rfl ?_
    refine eb_goto (pc := 62) (tgt := 47) rfl (by decide) ?_
    exact eb_pick [1, 2, 3, 4, 5, 0] rfl w
theorem b_X11_ways_71 {d : Nat} {h0 h : eb_H} {Q : Option Value → eb_H → Prop} (x1 : Int32) (x2 : Int32) (x3 : Int32) (x6 : Int64) (x8 : Int32)  (ko : eb_KO h) (w : ((((64 : Int32) * ((eb_I h s_m_all (1 : Int32).toNatClampNeg) * (eb_I h s_m_all (2 : Int32).toNatClampNeg))) ≤ x8 → Q (some (.long x6)) h) ∧ (¬ (((64 : Int32) * ((eb_I h s_m_all (1 : Int32).toNatClampNeg) * (eb_I h s_m_all (2 : Int32).toNatClampNeg))) ≤ x8) → ((¬ (((x8 / 64) = x1) ∧ (((x8 &&& x2) = x2) ∧ ((x8 &&& x3) = 0))) → eb_Sn (d + 2) m_X11_ways h0 71 [(0, .ref s_MO), (1, .int x1), (2, .int x2), (3, .int x3), (6, .long (x6 + 0)), (8, .int (x8 + 1))] [] h Q) ∧ (((x8 / 64) = x1) ∧ (((x8 &&& x2) = x2) ∧ ((x8 &&& x3) = 0)) → (vp_in x8 1024) ∧ eb_Sn (d + 2) m_X11_ways h0 71 [(0, .ref s_MO), (1, .int x1), (2, .int x2), (3, .int x3), (6, .long (x6 + (eb_J h s_m_many x8.toNatClampNeg))), (8, .int (x8 + 1))] [] h Q))))) : eb_Sn (d + 2) m_X11_ways h0 71 [(0, .ref s_MO), (1, .int x1), (2, .int x2), (3, .int x3), (6, .long x6), (8, .int x8)] [] h Q := by
  refine eb_iload (pc := 71) (i := 8) rfl rfl ?_
  refine eb_aload_n (pc := 73) (n := 0) (i := 0) rfl rfl rfl ?_
  refine eb_ctV (pc := 74) (As := []) (rest := [.int x8]) rfl (by decide) rfl rfl (by decide) rfl (Nat.le_of_ble_eq_true rfl) ?_
  refine eb_bodyQ (by decide) ok_X11_stands (Nat.le_of_ble_eq_true rfl) ?_
  change eb_Sn _ m_X11_stands _ 0 [(0, .ref s_MO)] [] _ _
  refine eb_bipush (pc := 0) (n := 64) (v := 64) rfl rfl ?_
  refine eb_aload_n (pc := 2) (n := 0) (i := 0) rfl rfl rfl ?_
  refine eb_ctV (pc := 3) (As := []) (rest := [.int 64]) rfl (by decide) rfl rfl (by decide) rfl (Nat.le_of_ble_eq_true rfl) ?_
  refine eb_bodyQ (by decide) ok_X11_cells (Nat.le_of_ble_eq_true rfl) ?_
  change eb_Sn _ m_X11_cells _ 0 [(0, .ref s_MO)] [] _ _
  refine eb_aload_n (pc := 0) (n := 0) (i := 0) rfl rfl rfl ?_
  refine eb_getR (pc := 1) rfl rfl (by decide) (by decide) rfl (ko_s_MO_1 ko) ?_
  refine eb_iconst (pc := 4) (n := 1) (v := 1) rfl rfl ?_
  refine eb_iaload (pc := 5) rfl rfl (by decide) (by unfold vp_in; decide) ?_
  refine eb_aload_n (pc := 6) (n := 0) (i := 0) rfl rfl rfl ?_
  refine eb_getR (pc := 7) rfl rfl (by decide) (by decide) rfl (ko_s_MO_1 ko) ?_
  refine eb_iconst (pc := 10) (n := 2) (v := 2) rfl rfl ?_
  refine eb_iaload (pc := 11) rfl rfl (by decide) (by unfold vp_in; decide) ?_
  refine eb_imul (pc := 12) rfl ?_
  refine eb_ireturn (pc := 13) rfl rfl rfl ?_
  change eb_Sn _ _ _ 6 _ [.int ((eb_I h s_m_all (1 : Int32).toNatClampNeg) * (eb_I h s_m_all (2 : Int32).toNatClampNeg)), .int 64] _ _
  refine eb_imul (pc := 6) rfl ?_
  refine eb_ireturn (pc := 7) rfl rfl rfl ?_
  change eb_Sn _ _ _ 77 _ [.int ((64 : Int32) * ((eb_I h s_m_all (1 : Int32).toNatClampNeg) * (eb_I h s_m_all (2 : Int32).toNatClampNeg))), .int x8] _ _
  refine eb_icmp_ge (pc := 77) (tgt := 113) rfl (by decide) (fun c1 => ?_) (fun c1 => ?_)
  · replace w := w.1 c1
    refine eb_lload (pc := 113) (i := 6) rfl rfl ?_
    exact eb_lreturn (pc := 115) rfl rfl w
  · replace w := w.2 c1
    refine eb_lload (pc := 80) (i := 6) rfl rfl ?_
    refine eb_iload (pc := 82) (i := 8) rfl rfl ?_
    refine eb_iload_n (pc := 84) (n := 1) (i := 1) rfl rfl rfl ?_
    refine eb_iload_n (pc := 85) (n := 2) (i := 2) rfl rfl rfl ?_
    refine eb_iload_n (pc := 86) (n := 3) (i := 3) rfl rfl rfl ?_
    refine eb_joinI (pc2 := 90) (ls2 := [(0, .ref s_MO), (1, .int x1), (2, .int x2), (3, .int x3), (6, .long x6), (8, .int x8)]) (st2 := [.long x6]) (v := eb_q (((x8 / 64) = x1) ∧ (((x8 &&& x2) = x2) ∧ ((x8 &&& x3) = 0)))) ?_ (fun jj7 => ?_)
    · refine eb_if_eq (pc := 90) (tgt := 103) rfl (by decide) (fun c5 => ?_) (fun c5 => ?_)
      · replace c5 := eb_q0.mp c5
        replace w := w.1 c5
        refine eb_lconst (pc := 103) (n := 0) (v := 0) rfl rfl ?_
        refine eb_ladd (pc := 104) rfl ?_
        refine eb_lstore (pc := 105) (i := 6) (ls2 := [(6, .long (x6 + 0)), (0, .ref s_MO), (1, .int x1), (2, .int x2), (3, .int x3), (8, .int x8)]) (Nat.le_of_ble_eq_true rfl) rfl rfl ?_
        refine eb_iinc (pc := 107) (i := 8) (n := 1) (v := x8 + 1) (ls2 := [(8, .int (x8 + 1)), (6, .long (x6 + 0)), (0, .ref s_MO), (1, .int x1), (2, .int x2), (3, .int x3)]) (Nat.le_of_ble_eq_true rfl) rfl rfl rfl rfl ?_
        refine eb_goto (pc := 110) (tgt := 71) rfl (by decide) ?_
        exact eb_pick [2, 3, 4, 5, 1, 0] rfl w
      · replace c5 := eb_q1.mp c5
        replace w := w.2 c5
        refine eb_aload_n (pc := 93) (n := 0) (i := 0) rfl rfl rfl ?_
        refine eb_getR (pc := 94) rfl rfl (by decide) (by decide) rfl (ko_s_MO_24 ko) ?_
        refine eb_iload (pc := 97) (i := 8) rfl rfl ?_
        obtain ⟨c6, w⟩ := w
        refine eb_laload (pc := 99) rfl rfl c6 ?_
        refine eb_goto (pc := 100) (tgt := 104) rfl (by decide) ?_
        refine eb_ladd (pc := 104) rfl ?_
        refine eb_lstore (pc := 105) (i := 6) (ls2 := [(6, .long (x6 + (eb_J h s_m_many x8.toNatClampNeg))), (0, .ref s_MO), (1, .int x1), (2, .int x2), (3, .int x3), (8, .int x8)]) (Nat.le_of_ble_eq_true rfl) rfl rfl ?_
        refine eb_iinc (pc := 107) (i := 8) (n := 1) (v := x8 + 1) (ls2 := [(8, .int (x8 + 1)), (6, .long (x6 + (eb_J h s_m_many x8.toNatClampNeg))), (0, .ref s_MO), (1, .int x1), (2, .int x2), (3, .int x3)]) (Nat.le_of_ble_eq_true rfl) rfl rfl rfl rfl ?_
        refine eb_goto (pc := 110) (tgt := 71) rfl (by decide) ?_
        exact eb_pick [2, 3, 4, 5, 1, 0] rfl w
    refine eb_ctS (pc := 87) (As := [.int x8, .int x1, .int x2, .int x3]) (rest := [.long x6]) rfl (by decide) (by decide) rfl rfl (Nat.le_of_ble_eq_true rfl) ?_
    refine eb_bodyQ (by decide) ok_X11_isGoal (Nat.le_of_ble_eq_true rfl) ?_
    change eb_Sn _ m_X11_isGoal _ 0 [(0, .int x8), (1, .int x1), (2, .int x2), (3, .int x3)] [] _ _
    refine eb_iload_n (pc := 0) (n := 0) (i := 0) rfl rfl rfl ?_
    refine eb_bipush (pc := 1) (n := 64) (v := 64) rfl rfl ?_
    refine eb_idiv (pc := 3) (by decide) rfl ?_
    refine eb_iload_n (pc := 4) (n := 1) (i := 1) rfl rfl rfl ?_
    refine eb_icmp_ne (pc := 5) (tgt := 25) rfl (by decide) (fun c2 => ?_) (fun c2 => ?_)
    · refine eb_iconst (pc := 25) (n := 0) (v := 0) rfl rfl ?_
      refine eb_ireturn (pc := 26) rfl rfl (by decide) ?_
      change eb_Sn _ _ _ 90 _ _ _ _
      exact jj7 0 (eb_qf (fun z => c2 z.1)).symm
    · refine eb_iload_n (pc := 8) (n := 0) (i := 0) rfl rfl rfl ?_
      refine eb_iload_n (pc := 9) (n := 2) (i := 2) rfl rfl rfl ?_
      refine eb_iand (pc := 10) rfl ?_
      refine eb_iload_n (pc := 11) (n := 2) (i := 2) rfl rfl rfl ?_
      refine eb_icmp_ne (pc := 12) (tgt := 25) rfl (by decide) (fun c3 => ?_) (fun c3 => ?_)
      · refine eb_iconst (pc := 25) (n := 0) (v := 0) rfl rfl ?_
        refine eb_ireturn (pc := 26) rfl rfl (by decide) ?_
        change eb_Sn _ _ _ 90 _ _ _ _
        exact jj7 0 (eb_qf (fun z => (fun z => c3 z.1) z.2)).symm
      · refine eb_iload_n (pc := 15) (n := 0) (i := 0) rfl rfl rfl ?_
        refine eb_iload_n (pc := 16) (n := 3) (i := 3) rfl rfl rfl ?_
        refine eb_iand (pc := 17) rfl ?_
        refine eb_if_ne (pc := 18) (tgt := 25) rfl (by decide) (fun c4 => ?_) (fun c4 => ?_)
        · refine eb_iconst (pc := 25) (n := 0) (v := 0) rfl rfl ?_
          refine eb_ireturn (pc := 26) rfl rfl (by decide) ?_
          change eb_Sn _ _ _ 90 _ _ _ _
          exact jj7 0 (eb_qf (fun z => (fun z => c4 z.2) z.2)).symm
        · refine eb_iconst (pc := 21) (n := 1) (v := 1) rfl rfl ?_
          refine eb_goto (pc := 22) (tgt := 26) rfl (by decide) ?_
          refine eb_ireturn (pc := 26) rfl rfl (by decide) ?_
          change eb_Sn _ _ _ 90 _ _ _ _
          exact jj7 1 (eb_qt (⟨c2, ⟨c3, c4⟩⟩)).symm
theorem T_X11_ways {d : Nat} {h : eb_H} {Q : Option Value → eb_H → Prop} (x1 : Int32) (x2 : Int32) (x3 : Int32) (x4 : Int32)  (ko : eb_KO h) (w : eb_Ct (d + 1) 233 [.ref s_MO, .int x1, .int x2, .int x3] (eb_sI h s_MO 0 0) (fun r h1 => ∃ y2, r = some (.int y2) ∧ eb_KO h1 ∧ ((y2 = 0 → (((¬ (x4.toInt64 < 0)) ∧ (¬ (12 < x4.toInt64)) → eb_Ct (d + 1) 237 [.ref s_MO] h1 (fun r h8 => r = none ∧ eb_KO h8 ∧ eb_Sn (d + 2) m_X11_ways h 47 [(0, .ref s_MO), (1, .int x1), (2, .int x2), (3, .int x3), (4, .int x4), (6, .int 0)] [] h8 Q)) ∧ (¬ ((¬ (x4.toInt64 < 0)) ∧ (¬ (12 < x4.toInt64))) → Q (some (.long (-3))) h1))) ∧ (¬ (y2 = 0) → Q (some (.long y2.toInt64)) h1)))) : eb_Ct (d + 2) 239 [.ref s_MO, .int x1, .int x2, .int x3, .int x4] h Q :=
  eb_bodyQ (by decide) ok_X11_ways (Nat.le_of_ble_eq_true rfl) (b_X11_ways_0 (h0 := h) x1 x2 x3 x4  ko w)
theorem b_X11_canCome_0 {d : Nat} {h0 h : eb_H} {Q : Option Value → eb_H → Prop} (x1 : Int32) (x2 : Int32) (x3 : Int32) (x4 : Int32)  (ko : eb_KO h) (w : eb_Ct (d + 1) 229 [.ref s_MO, .int x4] h (fun r h1 => r = none ∧ eb_KO h1 ∧ eb_Sn (d + 2) m_X11_canCome h0 9 [(0, .ref s_MO), (1, .int x1), (2, .int x2), (3, .int x3), (5, .int 0)] [] h1 Q)) : eb_Sn (d + 2) m_X11_canCome h0 0 [(0, .ref s_MO), (1, .int x1), (2, .int x2), (3, .int x3), (4, .int x4)] [] h Q := by
  refine eb_aload_n (pc := 0) (n := 0) (i := 0) rfl rfl rfl ?_
  refine eb_iload (pc := 1) (i := 4) rfl rfl ?_
  refine eb_ctV (pc := 3) (As := [.int x4]) (rest := []) rfl (by decide) rfl rfl (by decide) rfl (Nat.le_of_ble_eq_true rfl) ?_
  refine eb_Ct.mono w ?_
  rintro r h1 ⟨rfl, ko3, w⟩
  change eb_Sn _ _ _ 6 _ [] _ _
  refine eb_iconst (pc := 6) (n := 0) (v := 0) rfl rfl ?_
  refine eb_istore (pc := 7) (i := 5) (ls2 := [(5, .int 0), (0, .ref s_MO), (1, .int x1), (2, .int x2), (3, .int x3), (4, .int x4)]) (Nat.le_of_ble_eq_true rfl) rfl rfl ?_
  exact eb_pick [1, 2, 3, 4, 0] rfl w
theorem b_X11_canCome_9 {d : Nat} {h0 h : eb_H} {Q : Option Value → eb_H → Prop} (x1 : Int32) (x2 : Int32) (x3 : Int32) (x5 : Int32)  (ko : eb_KO h) (w : ((((64 : Int32) * ((eb_I h s_m_all (1 : Int32).toNatClampNeg) * (eb_I h s_m_all (2 : Int32).toNatClampNeg))) ≤ x5 → Q (some (.int 0)) h) ∧ (¬ (((64 : Int32) * ((eb_I h s_m_all (1 : Int32).toNatClampNeg) * (eb_I h s_m_all (2 : Int32).toNatClampNeg))) ≤ x5) → (vp_in x5 1024) ∧ (((eb_I h s_m_reached x5.toNatClampNeg) = 0 → eb_Sn (d + 2) m_X11_canCome h0 9 [(0, .ref s_MO), (1, .int x1), (2, .int x2), (3, .int x3), (5, .int (x5 + 1))] [] h Q) ∧ (¬ ((eb_I h s_m_reached x5.toNatClampNeg) = 0) → ((¬ (((x5 / 64) = x1) ∧ (((x5 &&& x2) = x2) ∧ ((x5 &&& x3) = 0))) → eb_Sn (d + 2) m_X11_canCome h0 9 [(0, .ref s_MO), (1, .int x1), (2, .int x2), (3, .int x3), (5, .int (x5 + 1))] [] h Q) ∧ (((x5 / 64) = x1) ∧ (((x5 &&& x2) = x2) ∧ ((x5 &&& x3) = 0)) → Q (some (.int 1)) h))))))) : eb_Sn (d + 2) m_X11_canCome h0 9 [(0, .ref s_MO), (1, .int x1), (2, .int x2), (3, .int x3), (5, .int x5)] [] h Q := by
  refine eb_iload (pc := 9) (i := 5) rfl rfl ?_
  refine eb_aload_n (pc := 11) (n := 0) (i := 0) rfl rfl rfl ?_
  refine eb_ctV (pc := 12) (As := []) (rest := [.int x5]) rfl (by decide) rfl rfl (by decide) rfl (Nat.le_of_ble_eq_true rfl) ?_
  refine eb_bodyQ (by decide) ok_X11_stands (Nat.le_of_ble_eq_true rfl) ?_
  change eb_Sn _ m_X11_stands _ 0 [(0, .ref s_MO)] [] _ _
  refine eb_bipush (pc := 0) (n := 64) (v := 64) rfl rfl ?_
  refine eb_aload_n (pc := 2) (n := 0) (i := 0) rfl rfl rfl ?_
  refine eb_ctV (pc := 3) (As := []) (rest := [.int 64]) rfl (by decide) rfl rfl (by decide) rfl (Nat.le_of_ble_eq_true rfl) ?_
  refine eb_bodyQ (by decide) ok_X11_cells (Nat.le_of_ble_eq_true rfl) ?_
  change eb_Sn _ m_X11_cells _ 0 [(0, .ref s_MO)] [] _ _
  refine eb_aload_n (pc := 0) (n := 0) (i := 0) rfl rfl rfl ?_
  refine eb_getR (pc := 1) rfl rfl (by decide) (by decide) rfl (ko_s_MO_1 ko) ?_
  refine eb_iconst (pc := 4) (n := 1) (v := 1) rfl rfl ?_
  refine eb_iaload (pc := 5) rfl rfl (by decide) (by unfold vp_in; decide) ?_
  refine eb_aload_n (pc := 6) (n := 0) (i := 0) rfl rfl rfl ?_
  refine eb_getR (pc := 7) rfl rfl (by decide) (by decide) rfl (ko_s_MO_1 ko) ?_
  refine eb_iconst (pc := 10) (n := 2) (v := 2) rfl rfl ?_
  refine eb_iaload (pc := 11) rfl rfl (by decide) (by unfold vp_in; decide) ?_
  refine eb_imul (pc := 12) rfl ?_
  refine eb_ireturn (pc := 13) rfl rfl rfl ?_
  change eb_Sn _ _ _ 6 _ [.int ((eb_I h s_m_all (1 : Int32).toNatClampNeg) * (eb_I h s_m_all (2 : Int32).toNatClampNeg)), .int 64] _ _
  refine eb_imul (pc := 6) rfl ?_
  refine eb_ireturn (pc := 7) rfl rfl rfl ?_
  change eb_Sn _ _ _ 15 _ [.int ((64 : Int32) * ((eb_I h s_m_all (1 : Int32).toNatClampNeg) * (eb_I h s_m_all (2 : Int32).toNatClampNeg))), .int x5] _ _
  refine eb_icmp_ge (pc := 15) (tgt := 47) rfl (by decide) (fun c1 => ?_) (fun c1 => ?_)
  · replace w := w.1 c1
    refine eb_iconst (pc := 47) (n := 0) (v := 0) rfl rfl ?_
    exact eb_ireturn (pc := 48) rfl rfl (by decide) w
  · replace w := w.2 c1
    refine eb_aload_n (pc := 18) (n := 0) (i := 0) rfl rfl rfl ?_
    refine eb_getR (pc := 19) rfl rfl (by decide) (by decide) rfl (ko_s_MO_23 ko) ?_
    refine eb_iload (pc := 22) (i := 5) rfl rfl ?_
    obtain ⟨c2, w⟩ := w
    refine eb_zaload (pc := 24) rfl rfl c2 ?_
    refine eb_if_eq (pc := 25) (tgt := 41) rfl (by decide) (fun c3 => ?_) (fun c3 => ?_)
    · replace w := w.1 c3
      refine eb_iinc (pc := 41) (i := 5) (n := 1) (v := x5 + 1) (ls2 := [(5, .int (x5 + 1)), (0, .ref s_MO), (1, .int x1), (2, .int x2), (3, .int x3)]) (Nat.le_of_ble_eq_true rfl) rfl rfl rfl rfl ?_
      refine eb_goto (pc := 44) (tgt := 9) rfl (by decide) ?_
      exact eb_pick [1, 2, 3, 4, 0] rfl w
    · replace w := w.2 c3
      refine eb_iload (pc := 28) (i := 5) rfl rfl ?_
      refine eb_iload_n (pc := 30) (n := 1) (i := 1) rfl rfl rfl ?_
      refine eb_iload_n (pc := 31) (n := 2) (i := 2) rfl rfl rfl ?_
      refine eb_iload_n (pc := 32) (n := 3) (i := 3) rfl rfl rfl ?_
      refine eb_joinI (pc2 := 36) (ls2 := [(0, .ref s_MO), (1, .int x1), (2, .int x2), (3, .int x3), (5, .int x5)]) (st2 := []) (v := eb_q (((x5 / 64) = x1) ∧ (((x5 &&& x2) = x2) ∧ ((x5 &&& x3) = 0)))) ?_ (fun jj8 => ?_)
      · refine eb_if_eq (pc := 36) (tgt := 41) rfl (by decide) (fun c7 => ?_) (fun c7 => ?_)
        · replace c7 := eb_q0.mp c7
          replace w := w.1 c7
          refine eb_iinc (pc := 41) (i := 5) (n := 1) (v := x5 + 1) (ls2 := [(5, .int (x5 + 1)), (0, .ref s_MO), (1, .int x1), (2, .int x2), (3, .int x3)]) (Nat.le_of_ble_eq_true rfl) rfl rfl rfl rfl ?_
          refine eb_goto (pc := 44) (tgt := 9) rfl (by decide) ?_
          exact eb_pick [1, 2, 3, 4, 0] rfl w
        · replace c7 := eb_q1.mp c7
          replace w := w.2 c7
          refine eb_iconst (pc := 39) (n := 1) (v := 1) rfl rfl ?_
          exact eb_ireturn (pc := 40) rfl rfl (by decide) w
      refine eb_ctS (pc := 33) (As := [.int x5, .int x1, .int x2, .int x3]) (rest := []) rfl (by decide) (by decide) rfl rfl (Nat.le_of_ble_eq_true rfl) ?_
      refine eb_bodyQ (by decide) ok_X11_isGoal (Nat.le_of_ble_eq_true rfl) ?_
      change eb_Sn _ m_X11_isGoal _ 0 [(0, .int x5), (1, .int x1), (2, .int x2), (3, .int x3)] [] _ _
      refine eb_iload_n (pc := 0) (n := 0) (i := 0) rfl rfl rfl ?_
      refine eb_bipush (pc := 1) (n := 64) (v := 64) rfl rfl ?_
      refine eb_idiv (pc := 3) (by decide) rfl ?_
      refine eb_iload_n (pc := 4) (n := 1) (i := 1) rfl rfl rfl ?_
      refine eb_icmp_ne (pc := 5) (tgt := 25) rfl (by decide) (fun c4 => ?_) (fun c4 => ?_)
      · refine eb_iconst (pc := 25) (n := 0) (v := 0) rfl rfl ?_
        refine eb_ireturn (pc := 26) rfl rfl (by decide) ?_
        change eb_Sn _ _ _ 36 _ _ _ _
        exact jj8 0 (eb_qf (fun z => c4 z.1)).symm
      · refine eb_iload_n (pc := 8) (n := 0) (i := 0) rfl rfl rfl ?_
        refine eb_iload_n (pc := 9) (n := 2) (i := 2) rfl rfl rfl ?_
        refine eb_iand (pc := 10) rfl ?_
        refine eb_iload_n (pc := 11) (n := 2) (i := 2) rfl rfl rfl ?_
        refine eb_icmp_ne (pc := 12) (tgt := 25) rfl (by decide) (fun c5 => ?_) (fun c5 => ?_)
        · refine eb_iconst (pc := 25) (n := 0) (v := 0) rfl rfl ?_
          refine eb_ireturn (pc := 26) rfl rfl (by decide) ?_
          change eb_Sn _ _ _ 36 _ _ _ _
          exact jj8 0 (eb_qf (fun z => (fun z => c5 z.1) z.2)).symm
        · refine eb_iload_n (pc := 15) (n := 0) (i := 0) rfl rfl rfl ?_
          refine eb_iload_n (pc := 16) (n := 3) (i := 3) rfl rfl rfl ?_
          refine eb_iand (pc := 17) rfl ?_
          refine eb_if_ne (pc := 18) (tgt := 25) rfl (by decide) (fun c6 => ?_) (fun c6 => ?_)
          · refine eb_iconst (pc := 25) (n := 0) (v := 0) rfl rfl ?_
            refine eb_ireturn (pc := 26) rfl rfl (by decide) ?_
            change eb_Sn _ _ _ 36 _ _ _ _
            exact jj8 0 (eb_qf (fun z => (fun z => c6 z.2) z.2)).symm
          · refine eb_iconst (pc := 21) (n := 1) (v := 1) rfl rfl ?_
            refine eb_goto (pc := 22) (tgt := 26) rfl (by decide) ?_
            refine eb_ireturn (pc := 26) rfl rfl (by decide) ?_
            change eb_Sn _ _ _ 36 _ _ _ _
            exact jj8 1 (eb_qt (⟨c4, ⟨c5, c6⟩⟩)).symm
theorem T_X11_canCome {d : Nat} {h : eb_H} {Q : Option Value → eb_H → Prop} (x1 : Int32) (x2 : Int32) (x3 : Int32) (x4 : Int32)  (ko : eb_KO h) (w : eb_Ct (d + 1) 229 [.ref s_MO, .int x4] h (fun r h1 => r = none ∧ eb_KO h1 ∧ eb_Sn (d + 2) m_X11_canCome h 9 [(0, .ref s_MO), (1, .int x1), (2, .int x2), (3, .int x3), (5, .int 0)] [] h1 Q)) : eb_Ct (d + 2) 240 [.ref s_MO, .int x1, .int x2, .int x3, .int x4] h Q :=
  eb_bodyQ (by decide) ok_X11_canCome (Nat.le_of_ble_eq_true rfl) (b_X11_canCome_0 (h0 := h) x1 x2 x3 x4  ko w)
theorem b_X11_needed_0 {d : Nat} {h0 h : eb_H} {Q : Option Value → eb_H → Prop} (x1 : Int32) (x2 : Int32) (x3 : Int32)  (ko : eb_KO h) (w : eb_Ct d 233 [.ref s_MO, .int x1, .int x2, .int x3] (eb_sI h s_MO 0 0) (fun r h1 => ∃ y2, r = some (.int y2) ∧ eb_KO h1 ∧ ((y2 = 0 → eb_Ct d 240 [.ref s_MO, .int x1, .int x2, .int x3, .int (eb_I h1 s_m_all (50 : Int32).toNatClampNeg)] h1 (fun r h5 => ∃ y6, r = some (.int y6) ∧ eb_KO h5 ∧ ((¬ y6 = 0 → eb_Sn (d + 1) m_X11_needed h0 48 [(0, .ref s_MO), (1, .int x1), (2, .int x2), (3, .int x3), (5, .int 0), (6, .int 0)] [] h5 Q) ∧ (y6 = 0 → Q (some (.int 0)) h5)))) ∧ (¬ (y2 = 0) → Q (some (.int y2)) h1)))) : eb_Sn (d + 1) m_X11_needed h0 0 [(0, .ref s_MO), (1, .int x1), (2, .int x2), (3, .int x3)] [] h Q := by
  refine eb_aload_n (pc := 0) (n := 0) (i := 0) rfl rfl rfl ?_
  refine eb_iconst (pc := 1) (n := 0) (v := 0) rfl rfl ?_
  refine eb_putI (pc := 2) rfl rfl (by decide) (by decide) rfl rfl ⟨rfl, rfl⟩ ?_
  refine eb_aload_n (pc := 5) (n := 0) (i := 0) rfl rfl rfl ?_
  refine eb_iload_n (pc := 6) (n := 1) (i := 1) rfl rfl rfl ?_
  refine eb_iload_n (pc := 7) (n := 2) (i := 2) rfl rfl rfl ?_
  refine eb_iload_n (pc := 8) (n := 3) (i := 3) rfl rfl rfl ?_
  refine eb_ctV (pc := 9) (As := [.int x1, .int x2, .int x3]) (rest := []) rfl (by decide) rfl rfl (by decide) rfl (Nat.le_of_ble_eq_true rfl) ?_
  refine eb_Ct.mono w ?_
  rintro r h1 ⟨y2, rfl, ko3, w⟩
  change eb_Sn _ _ _ 12 _ [.int y2] _ _
  refine eb_istore (pc := 12) (i := 4) (ls2 := [(4, .int y2), (0, .ref s_MO), (1, .int x1), (2, .int x2), (3, .int x3)]) (Nat.le_of_ble_eq_true rfl) rfl rfl ?_
  refine eb_iload (pc := 14) (i := 4) rfl rfl ?_
  refine eb_if_eq (pc := 16) (tgt := 22) rfl (by decide) (fun c4 => ?_) (fun c4 => ?_)
  · replace w := w.1 c4
    refine eb_iconst (pc := 22) (n := 0) (v := 0) rfl rfl ?_
    refine eb_istore (pc := 23) (i := 5) (ls2 := [(5, .int 0), (4, .int y2), (0, .ref s_MO), (1, .int x1), (2, .int x2), (3, .int x3)]) (Nat.le_of_ble_eq_true rfl) rfl rfl ?_
    refine eb_aload_n (pc := 25) (n := 0) (i := 0) rfl rfl rfl ?_
    refine eb_iload_n (pc := 26) (n := 1) (i := 1) rfl rfl rfl ?_
    refine eb_iload_n (pc := 27) (n := 2) (i := 2) rfl rfl rfl ?_
    refine eb_iload_n (pc := 28) (n := 3) (i := 3) rfl rfl rfl ?_
    refine eb_aload_n (pc := 29) (n := 0) (i := 0) rfl rfl rfl ?_
    refine eb_getR (pc := 30) rfl rfl (by decide) (by decide) rfl (ko_s_MO_1 ko3) ?_
    refine eb_bipush (pc := 33) (n := 50) (v := 50) rfl rfl ?_
    refine eb_iaload (pc := 35) rfl rfl (by decide) (by unfold vp_in; decide) ?_
    refine eb_ctV (pc := 36) (As := [.int x1, .int x2, .int x3, .int (eb_I h1 s_m_all (50 : Int32).toNatClampNeg)]) (rest := []) rfl (by decide) rfl rfl (by decide) rfl (Nat.le_of_ble_eq_true rfl) ?_
    refine eb_Ct.mono w ?_
    rintro r h5 ⟨y6, rfl, ko7, w⟩
    change eb_Sn _ _ _ 39 _ [.int y6] _ _
    refine eb_if_ne (pc := 39) (tgt := 45) rfl (by decide) (fun c8 => ?_) (fun c8 => ?_)
    · replace w := w.1 c8
      refine eb_iconst (pc := 45) (n := 0) (v := 0) rfl rfl ?_
      refine eb_istore (pc := 46) (i := 6) (ls2 := [(6, .int 0), (5, .int 0), (4, .int y2), (0, .ref s_MO), (1, .int x1), (2, .int x2), (3, .int x3)]) (Nat.le_of_ble_eq_true rfl) rfl rfl ?_
      exact eb_pick [3, 4, 5, 6, 1, 0] rfl w
    · replace w := w.2 c8
      refine eb_iload (pc := 42) (i := 5) rfl rfl ?_
      exact eb_ireturn (pc := 44) rfl rfl rfl w
  · replace w := w.2 c4
    refine eb_iload (pc := 19) (i := 4) rfl rfl ?_
    exact eb_ireturn (pc := 21) rfl rfl rfl w
theorem b_X11_needed_48 {d : Nat} {h0 h : eb_H} {Q : Option Value → eb_H → Prop} (x1 : Int32) (x2 : Int32) (x3 : Int32) (x5 : Int32) (x6 : Int32)  (ko : eb_KO h) (w : ((((eb_I h s_m_all (1 : Int32).toNatClampNeg) * (eb_I h s_m_all (2 : Int32).toNatClampNeg)) ≤ x6 → Q (some (.int x5)) h) ∧ (¬ (((eb_I h s_m_all (1 : Int32).toNatClampNeg) * (eb_I h s_m_all (2 : Int32).toNatClampNeg)) ≤ x6) → ((x6 = x1 → eb_Sn (d + 1) m_X11_needed h0 48 [(0, .ref s_MO), (1, .int x1), (2, .int x2), (3, .int x3), (5, .int x5), (6, .int (x6 + 1))] [] h Q) ∧ (¬ (x6 = x1) → ((x6 = (eb_I h s_m_all (31 : Int32).toNatClampNeg) → eb_Sn (d + 1) m_X11_needed h0 48 [(0, .ref s_MO), (1, .int x1), (2, .int x2), (3, .int x3), (5, .int x5), (6, .int (x6 + 1))] [] h Q) ∧ (¬ (x6 = (eb_I h s_m_all (31 : Int32).toNatClampNeg)) → ((¬ (((((eb_I h s_m_all (50 : Int32).toNatClampNeg).toInt64) >>> (x6.toInt64 &&& 63)) &&& 1) = 1) → eb_Ct d 240 [.ref s_MO, .int x1, .int x2, .int x3, .int ((eb_I h s_m_all (50 : Int32).toNatClampNeg) ||| ((1 : Int32) <<< (x6 &&& 31)))] h (fun r h6 => ∃ y7, r = some (.int y7) ∧ eb_KO h6 ∧ ((¬ y7 = 0 → eb_Sn (d + 1) m_X11_needed h0 48 [(0, .ref s_MO), (1, .int x1), (2, .int x2), (3, .int x3), (5, .int x5), (6, .int (x6 + 1))] [] h6 Q) ∧ (y7 = 0 → eb_Sn (d + 1) m_X11_needed h0 48 [(0, .ref s_MO), (1, .int x1), (2, .int x2), (3, .int x3), (5, .int (x5 ||| ((1 : Int32) <<< (x6 &&& 31)))), (6, .int (x6 + 1))] [] h6 Q)))) ∧ (((((eb_I h s_m_all (50 : Int32).toNatClampNeg).toInt64) >>> (x6.toInt64 &&& 63)) &&& 1) = 1 → eb_Sn (d + 1) m_X11_needed h0 48 [(0, .ref s_MO), (1, .int x1), (2, .int x2), (3, .int x3), (5, .int x5), (6, .int (x6 + 1))] [] h Q))))))))) : eb_Sn (d + 1) m_X11_needed h0 48 [(0, .ref s_MO), (1, .int x1), (2, .int x2), (3, .int x3), (5, .int x5), (6, .int x6)] [] h Q := by
  refine eb_iload (pc := 48) (i := 6) rfl rfl ?_
  refine eb_aload_n (pc := 50) (n := 0) (i := 0) rfl rfl rfl ?_
  refine eb_ctV (pc := 51) (As := []) (rest := [.int x6]) rfl (by decide) rfl rfl (by decide) rfl (Nat.le_of_ble_eq_true rfl) ?_
  refine eb_bodyQ (by decide) ok_X11_cells (Nat.le_of_ble_eq_true rfl) ?_
  change eb_Sn _ m_X11_cells _ 0 [(0, .ref s_MO)] [] _ _
  refine eb_aload_n (pc := 0) (n := 0) (i := 0) rfl rfl rfl ?_
  refine eb_getR (pc := 1) rfl rfl (by decide) (by decide) rfl (ko_s_MO_1 ko) ?_
  refine eb_iconst (pc := 4) (n := 1) (v := 1) rfl rfl ?_
  refine eb_iaload (pc := 5) rfl rfl (by decide) (by unfold vp_in; decide) ?_
  refine eb_aload_n (pc := 6) (n := 0) (i := 0) rfl rfl rfl ?_
  refine eb_getR (pc := 7) rfl rfl (by decide) (by decide) rfl (ko_s_MO_1 ko) ?_
  refine eb_iconst (pc := 10) (n := 2) (v := 2) rfl rfl ?_
  refine eb_iaload (pc := 11) rfl rfl (by decide) (by unfold vp_in; decide) ?_
  refine eb_imul (pc := 12) rfl ?_
  refine eb_ireturn (pc := 13) rfl rfl rfl ?_
  change eb_Sn _ _ _ 54 _ [.int ((eb_I h s_m_all (1 : Int32).toNatClampNeg) * (eb_I h s_m_all (2 : Int32).toNatClampNeg)), .int x6] _ _
  refine eb_icmp_ge (pc := 54) (tgt := 131) rfl (by decide) (fun c1 => ?_) (fun c1 => ?_)
  · replace w := w.1 c1
    refine eb_iload (pc := 131) (i := 5) rfl rfl ?_
    exact eb_ireturn (pc := 133) rfl rfl rfl w
  · replace w := w.2 c1
    refine eb_iload (pc := 57) (i := 6) rfl rfl ?_
    refine eb_iload_n (pc := 59) (n := 1) (i := 1) rfl rfl rfl ?_
    refine eb_icmp_eq (pc := 60) (tgt := 125) rfl (by decide) (fun c2 => ?_) (fun c2 => ?_)
    · replace w := w.1 c2
      refine eb_iinc (pc := 125) (i := 6) (n := 1) (v := x6 + 1) (ls2 := [(6, .int (x6 + 1)), (0, .ref s_MO), (1, .int x1), (2, .int x2), (3, .int x3), (5, .int x5)]) (Nat.le_of_ble_eq_true rfl) rfl rfl rfl rfl ?_
      refine eb_goto (pc := 128) (tgt := 48) rfl (by decide) ?_
      exact eb_pick [1, 2, 3, 4, 5, 0] rfl w
    · replace w := w.2 c2
      refine eb_iload (pc := 63) (i := 6) rfl rfl ?_
      refine eb_aload_n (pc := 65) (n := 0) (i := 0) rfl rfl rfl ?_
      refine eb_getR (pc := 66) rfl rfl (by decide) (by decide) rfl (ko_s_MO_1 ko) ?_
      refine eb_bipush (pc := 69) (n := 31) (v := 31) rfl rfl ?_
      refine eb_iaload (pc := 71) rfl rfl (by decide) (by unfold vp_in; decide) ?_
      refine eb_icmp_eq (pc := 72) (tgt := 125) rfl (by decide) (fun c3 => ?_) (fun c3 => ?_)
      · replace w := w.1 c3
        refine eb_iinc (pc := 125) (i := 6) (n := 1) (v := x6 + 1) (ls2 := [(6, .int (x6 + 1)), (0, .ref s_MO), (1, .int x1), (2, .int x2), (3, .int x3), (5, .int x5)]) (Nat.le_of_ble_eq_true rfl) rfl rfl rfl rfl ?_
        refine eb_goto (pc := 128) (tgt := 48) rfl (by decide) ?_
        exact eb_pick [1, 2, 3, 4, 5, 0] rfl w
      · replace w := w.2 c3
        refine eb_aload_n (pc := 75) (n := 0) (i := 0) rfl rfl rfl ?_
        refine eb_getR (pc := 76) rfl rfl (by decide) (by decide) rfl (ko_s_MO_1 ko) ?_
        refine eb_bipush (pc := 79) (n := 50) (v := 50) rfl rfl ?_
        refine eb_iaload (pc := 81) rfl rfl (by decide) (by unfold vp_in; decide) ?_
        refine eb_i2l (pc := 82) rfl ?_
        refine eb_iload (pc := 83) (i := 6) rfl rfl ?_
        refine eb_joinI (pc2 := 88) (ls2 := [(0, .ref s_MO), (1, .int x1), (2, .int x2), (3, .int x3), (5, .int x5), (6, .int x6)]) (st2 := []) (v := eb_q (((((eb_I h s_m_all (50 : Int32).toNatClampNeg).toInt64) >>> (x6.toInt64 &&& 63)) &&& 1) = 1)) ?_ (fun jj10 => ?_)
        · refine eb_if_eq (pc := 88) (tgt := 94) rfl (by decide) (fun c5 => ?_) (fun c5 => ?_)
          · replace c5 := eb_q0.mp c5
            replace w := w.1 c5
            refine eb_aload_n (pc := 94) (n := 0) (i := 0) rfl rfl rfl ?_
            refine eb_iload_n (pc := 95) (n := 1) (i := 1) rfl rfl rfl ?_
            refine eb_iload_n (pc := 96) (n := 2) (i := 2) rfl rfl rfl ?_
            refine eb_iload_n (pc := 97) (n := 3) (i := 3) rfl rfl rfl ?_
            refine eb_aload_n (pc := 98) (n := 0) (i := 0) rfl rfl rfl ?_
            refine eb_getR (pc := 99) rfl rfl (by decide) (by decide) rfl (ko_s_MO_1 ko) ?_
            refine eb_bipush (pc := 102) (n := 50) (v := 50) rfl rfl ?_
            refine eb_iaload (pc := 104) rfl rfl (by decide) (by unfold vp_in; decide) ?_
            refine eb_iconst (pc := 105) (n := 1) (v := 1) rfl rfl ?_
            refine eb_iload (pc := 106) (i := 6) rfl rfl ?_
            refine eb_ishl (pc := 108) rfl ?_
            refine eb_ior (pc := 109) rfl ?_
            refine eb_ctV (pc := 110) (As := [.int x1, .int x2, .int x3, .int ((eb_I h s_m_all (50 : Int32).toNatClampNeg) ||| ((1 : Int32) <<< (x6 &&& 31)))]) (rest := []) rfl (by decide) rfl rfl (by decide) rfl (Nat.le_of_ble_eq_true rfl) ?_
            refine eb_Ct.mono w ?_
            rintro r h6 ⟨y7, rfl, ko8, w⟩
            change eb_Sn _ _ _ 113 _ [.int y7] _ _
            refine eb_if_ne (pc := 113) (tgt := 125) rfl (by decide) (fun c9 => ?_) (fun c9 => ?_)
            · replace w := w.1 c9
              refine eb_iinc (pc := 125) (i := 6) (n := 1) (v := x6 + 1) (ls2 := [(6, .int (x6 + 1)), (0, .ref s_MO), (1, .int x1), (2, .int x2), (3, .int x3), (5, .int x5)]) (Nat.le_of_ble_eq_true rfl) rfl rfl rfl rfl ?_
              refine eb_goto (pc := 128) (tgt := 48) rfl (by decide) ?_
              exact eb_pick [1, 2, 3, 4, 5, 0] rfl w
            · replace w := w.2 c9
              refine eb_iload (pc := 116) (i := 5) rfl rfl ?_
              refine eb_iconst (pc := 118) (n := 1) (v := 1) rfl rfl ?_
              refine eb_iload (pc := 119) (i := 6) rfl rfl ?_
              refine eb_ishl (pc := 121) rfl ?_
              refine eb_ior (pc := 122) rfl ?_
              refine eb_istore (pc := 123) (i := 5) (ls2 := [(5, .int (x5 ||| ((1 : Int32) <<< (x6 &&& 31)))), (0, .ref s_MO), (1, .int x1), (2, .int x2), (3, .int x3), (6, .int x6)]) (Nat.le_of_ble_eq_true rfl) rfl rfl ?_
              refine eb_iinc (pc := 125) (i := 6) (n := 1) (v := x6 + 1) (ls2 := [(6, .int (x6 + 1)), (5, .int (x5 ||| ((1 : Int32) <<< (x6 &&& 31)))), (0, .ref s_MO), (1, .int x1), (2, .int x2), (3, .int x3)]) (Nat.le_of_ble_eq_true rfl) rfl rfl rfl rfl ?_
              refine eb_goto (pc := 128) (tgt := 48) rfl (by decide) ?_
              exact eb_pick [2, 3, 4, 5, 1, 0] rfl w
          · replace c5 := eb_q1.mp c5
            replace w := w.2 c5
            refine eb_goto (pc := 91) (tgt := 125) rfl (by decide) ?_
            refine eb_iinc (pc := 125) (i := 6) (n := 1) (v := x6 + 1) (ls2 := [(6, .int (x6 + 1)), (0, .ref s_MO), (1, .int x1), (2, .int x2), (3, .int x3), (5, .int x5)]) (Nat.le_of_ble_eq_true rfl) rfl rfl rfl rfl ?_
            refine eb_goto (pc := 128) (tgt := 48) rfl (by decide) ?_
            exact eb_pick [1, 2, 3, 4, 5, 0] rfl w
        refine eb_ctS (pc := 85) (As := [.long ((eb_I h s_m_all (50 : Int32).toNatClampNeg).toInt64), .int x6]) (rest := []) rfl (by decide) (by decide) rfl rfl (Nat.le_of_ble_eq_true rfl) ?_
        refine eb_bodyQ (by decide) ok_X11_isIn (Nat.le_of_ble_eq_true rfl) ?_
        change eb_Sn _ m_X11_isIn _ 0 [(0, .long ((eb_I h s_m_all (50 : Int32).toNatClampNeg).toInt64)), (2, .int x6)] [] _ _
        refine eb_lload_n (pc := 0) (n := 0) (i := 0) rfl rfl rfl ?_
        refine eb_iload_n (pc := 1) (n := 2) (i := 2) rfl rfl rfl ?_
        refine eb_lshr (pc := 2) rfl ?_
        refine eb_lconst (pc := 3) (n := 1) (v := 1) rfl rfl ?_
        refine eb_land (pc := 4) rfl ?_
        refine eb_lconst (pc := 5) (n := 1) (v := 1) rfl rfl ?_
        refine eb_lcmp (pc := 6) rfl ?_
        refine eb_if_ne (pc := 7) (tgt := 14) rfl (by decide) (fun c4 => ?_) (fun c4 => ?_)
        · replace c4 := eb_lc_ne.mp c4
          refine eb_iconst (pc := 14) (n := 0) (v := 0) rfl rfl ?_
          refine eb_ireturn (pc := 15) rfl rfl (by decide) ?_
          change eb_Sn _ _ _ 88 _ _ _ _
          exact jj10 0 (eb_qf c4).symm
        · replace c4 := eb_lc_eq.mp c4
          refine eb_iconst (pc := 10) (n := 1) (v := 1) rfl rfl ?_
          refine eb_goto (pc := 11) (tgt := 15) rfl (by decide) ?_
          refine eb_ireturn (pc := 15) rfl rfl (by decide) ?_
          change eb_Sn _ _ _ 88 _ _ _ _
          exact jj10 1 (eb_qt c4).symm
theorem T_X11_needed {d : Nat} {h : eb_H} {Q : Option Value → eb_H → Prop} (x1 : Int32) (x2 : Int32) (x3 : Int32)  (ko : eb_KO h) (w : eb_Ct d 233 [.ref s_MO, .int x1, .int x2, .int x3] (eb_sI h s_MO 0 0) (fun r h1 => ∃ y2, r = some (.int y2) ∧ eb_KO h1 ∧ ((y2 = 0 → eb_Ct d 240 [.ref s_MO, .int x1, .int x2, .int x3, .int (eb_I h1 s_m_all (50 : Int32).toNatClampNeg)] h1 (fun r h5 => ∃ y6, r = some (.int y6) ∧ eb_KO h5 ∧ ((¬ y6 = 0 → eb_Sn (d + 1) m_X11_needed h 48 [(0, .ref s_MO), (1, .int x1), (2, .int x2), (3, .int x3), (5, .int 0), (6, .int 0)] [] h5 Q) ∧ (y6 = 0 → Q (some (.int 0)) h5)))) ∧ (¬ (y2 = 0) → Q (some (.int y2)) h1)))) : eb_Ct (d + 1) 241 [.ref s_MO, .int x1, .int x2, .int x3] h Q :=
  eb_bodyQ (by decide) ok_X11_needed (Nat.le_of_ble_eq_true rfl) (b_X11_needed_0 (h0 := h) x1 x2 x3  ko w)
theorem b_X11_reach_0 {d : Nat} {h0 h : eb_H} {Q : Option Value → eb_H → Prop}   (ko : eb_KO h) (w : eb_Ct (d + 1) 229 [.ref s_MO, .int (eb_I (eb_sI h s_MO 0 0) s_m_all (50 : Int32).toNatClampNeg)] (eb_sI h s_MO 0 0) (fun r h1 => r = none ∧ eb_KO h1 ∧ eb_Sn (d + 2) m_X11_reach h0 20 [(0, .ref s_MO), (1, .int 0), (2, .int 0)] [] h1 Q)) : eb_Sn (d + 2) m_X11_reach h0 0 [(0, .ref s_MO)] [] h Q := by
  refine eb_aload_n (pc := 0) (n := 0) (i := 0) rfl rfl rfl ?_
  refine eb_iconst (pc := 1) (n := 0) (v := 0) rfl rfl ?_
  refine eb_putI (pc := 2) rfl rfl (by decide) (by decide) rfl rfl ⟨rfl, rfl⟩ ?_
  refine eb_aload_n (pc := 5) (n := 0) (i := 0) rfl rfl rfl ?_
  refine eb_aload_n (pc := 6) (n := 0) (i := 0) rfl rfl rfl ?_
  refine eb_getR (pc := 7) rfl rfl (by decide) (by decide) rfl (ko_s_MO_1 ko) ?_
  refine eb_bipush (pc := 10) (n := 50) (v := 50) rfl rfl ?_
  refine eb_iaload (pc := 12) rfl rfl (by decide) (by unfold vp_in; decide) ?_
  refine eb_ctV (pc := 13) (As := [.int (eb_I (eb_sI h s_MO 0 0) s_m_all (50 : Int32).toNatClampNeg)]) (rest := []) rfl (by decide) rfl rfl (by decide) rfl (Nat.le_of_ble_eq_true rfl) ?_
  refine eb_Ct.mono w ?_
  rintro r h1 ⟨rfl, ko3, w⟩
  change eb_Sn _ _ _ 16 _ [] _ _
  refine eb_iconst (pc := 16) (n := 0) (v := 0) rfl rfl ?_
  refine eb_istore_n (pc := 17) (n := 1) (i := 1) (ls2 := [(1, .int 0), (0, .ref s_MO)]) rfl (Nat.le_of_ble_eq_true rfl) rfl rfl ?_
  refine eb_iconst (pc := 18) (n := 0) (v := 0) rfl rfl ?_
  refine eb_istore_n (pc := 19) (n := 2) (i := 2) (ls2 := [(2, .int 0), (1, .int 0), (0, .ref s_MO)]) rfl (Nat.le_of_ble_eq_true rfl) rfl rfl ?_
  exact eb_pick [2, 1, 0] rfl w
theorem b_X11_reach_20 {d : Nat} {h0 h : eb_H} {Q : Option Value → eb_H → Prop} (x1 : Int32) (x2 : Int32)  (ko : eb_KO h) (w : ((((64 : Int32) * ((eb_I h s_m_all (1 : Int32).toNatClampNeg) * (eb_I h s_m_all (2 : Int32).toNatClampNeg))) ≤ x2 → Q (some (.int x1)) h) ∧ (¬ (((64 : Int32) * ((eb_I h s_m_all (1 : Int32).toNatClampNeg) * (eb_I h s_m_all (2 : Int32).toNatClampNeg))) ≤ x2) → (vp_in x2 1024) ∧ eb_Sn (d + 2) m_X11_reach h0 20 [(0, .ref s_MO), (1, .int (x1 ||| (if (eb_I h s_m_reached x2.toNatClampNeg) = 0 then 0 else (1 : Int32) <<< ((x2 / 64) &&& 31) : Int32))), (2, .int (x2 + 1))] [] h Q))) : eb_Sn (d + 2) m_X11_reach h0 20 [(0, .ref s_MO), (1, .int x1), (2, .int x2)] [] h Q := by
  refine eb_iload_n (pc := 20) (n := 2) (i := 2) rfl rfl rfl ?_
  refine eb_aload_n (pc := 21) (n := 0) (i := 0) rfl rfl rfl ?_
  refine eb_ctV (pc := 22) (As := []) (rest := [.int x2]) rfl (by decide) rfl rfl (by decide) rfl (Nat.le_of_ble_eq_true rfl) ?_
  refine eb_bodyQ (by decide) ok_X11_stands (Nat.le_of_ble_eq_true rfl) ?_
  change eb_Sn _ m_X11_stands _ 0 [(0, .ref s_MO)] [] _ _
  refine eb_bipush (pc := 0) (n := 64) (v := 64) rfl rfl ?_
  refine eb_aload_n (pc := 2) (n := 0) (i := 0) rfl rfl rfl ?_
  refine eb_ctV (pc := 3) (As := []) (rest := [.int 64]) rfl (by decide) rfl rfl (by decide) rfl (Nat.le_of_ble_eq_true rfl) ?_
  refine eb_bodyQ (by decide) ok_X11_cells (Nat.le_of_ble_eq_true rfl) ?_
  change eb_Sn _ m_X11_cells _ 0 [(0, .ref s_MO)] [] _ _
  refine eb_aload_n (pc := 0) (n := 0) (i := 0) rfl rfl rfl ?_
  refine eb_getR (pc := 1) rfl rfl (by decide) (by decide) rfl (ko_s_MO_1 ko) ?_
  refine eb_iconst (pc := 4) (n := 1) (v := 1) rfl rfl ?_
  refine eb_iaload (pc := 5) rfl rfl (by decide) (by unfold vp_in; decide) ?_
  refine eb_aload_n (pc := 6) (n := 0) (i := 0) rfl rfl rfl ?_
  refine eb_getR (pc := 7) rfl rfl (by decide) (by decide) rfl (ko_s_MO_1 ko) ?_
  refine eb_iconst (pc := 10) (n := 2) (v := 2) rfl rfl ?_
  refine eb_iaload (pc := 11) rfl rfl (by decide) (by unfold vp_in; decide) ?_
  refine eb_imul (pc := 12) rfl ?_
  refine eb_ireturn (pc := 13) rfl rfl rfl ?_
  change eb_Sn _ _ _ 6 _ [.int ((eb_I h s_m_all (1 : Int32).toNatClampNeg) * (eb_I h s_m_all (2 : Int32).toNatClampNeg)), .int 64] _ _
  refine eb_imul (pc := 6) rfl ?_
  refine eb_ireturn (pc := 7) rfl rfl rfl ?_
  change eb_Sn _ _ _ 25 _ [.int ((64 : Int32) * ((eb_I h s_m_all (1 : Int32).toNatClampNeg) * (eb_I h s_m_all (2 : Int32).toNatClampNeg))), .int x2] _ _
  refine eb_icmp_ge (pc := 25) (tgt := 56) rfl (by decide) (fun c1 => ?_) (fun c1 => ?_)
  · replace w := w.1 c1
    refine eb_iload_n (pc := 56) (n := 1) (i := 1) rfl rfl rfl ?_
    exact eb_ireturn (pc := 57) rfl rfl rfl w
  · replace w := w.2 c1
    refine eb_iload_n (pc := 28) (n := 1) (i := 1) rfl rfl rfl ?_
    refine eb_aload_n (pc := 29) (n := 0) (i := 0) rfl rfl rfl ?_
    refine eb_getR (pc := 30) rfl rfl (by decide) (by decide) rfl (ko_s_MO_23 ko) ?_
    refine eb_iload_n (pc := 33) (n := 2) (i := 2) rfl rfl rfl ?_
    obtain ⟨c2, w⟩ := w
    refine eb_zaload (pc := 34) rfl rfl c2 ?_
    refine eb_joinI (pc2 := 48) (ls2 := [(0, .ref s_MO), (1, .int x1), (2, .int x2)]) (st2 := [.int x1]) (v := (if (eb_I h s_m_reached x2.toNatClampNeg) = 0 then 0 else (1 : Int32) <<< ((x2 / 64) &&& 31) : Int32)) ?_ (fun jj4 => ?_)
    · refine eb_ior (pc := 48) rfl ?_
      refine eb_istore_n (pc := 49) (n := 1) (i := 1) (ls2 := [(1, .int (x1 ||| (if (eb_I h s_m_reached x2.toNatClampNeg) = 0 then 0 else (1 : Int32) <<< ((x2 / 64) &&& 31) : Int32))), (0, .ref s_MO), (2, .int x2)]) rfl (Nat.le_of_ble_eq_true rfl) rfl rfl ?_
      refine eb_iinc (pc := 50) (i := 2) (n := 1) (v := x2 + 1) (ls2 := [(2, .int (x2 + 1)), (1, .int (x1 ||| (if (eb_I h s_m_reached x2.toNatClampNeg) = 0 then 0 else (1 : Int32) <<< ((x2 / 64) &&& 31) : Int32))), (0, .ref s_MO)]) (Nat.le_of_ble_eq_true rfl) rfl rfl rfl rfl ?_
      refine eb_goto (pc := 53) (tgt := 20) rfl (by decide) ?_
      exact eb_pick [2, 1, 0] rfl w
    refine eb_if_eq (pc := 35) (tgt := 47) rfl (by decide) (fun c3 => ?_) (fun c3 => ?_)
    · refine eb_iconst (pc := 47) (n := 0) (v := 0) rfl rfl ?_
      exact jj4 _ (by simp only [if_pos c3])
    · refine eb_iconst (pc := 38) (n := 1) (v := 1) rfl rfl ?_
      refine eb_iload_n (pc := 39) (n := 2) (i := 2) rfl rfl rfl ?_
      refine eb_bipush (pc := 40) (n := 64) (v := 64) rfl rfl ?_
      refine eb_idiv (pc := 42) (by decide) rfl ?_
      refine eb_ishl (pc := 43) rfl ?_
      refine eb_goto (pc := 44) (tgt := 48) rfl (by decide) ?_
      exact jj4 _ (by simp only [if_neg c3])
theorem T_X11_reach {d : Nat} {h : eb_H} {Q : Option Value → eb_H → Prop}   (ko : eb_KO h) (w : eb_Ct (d + 1) 229 [.ref s_MO, .int (eb_I (eb_sI h s_MO 0 0) s_m_all (50 : Int32).toNatClampNeg)] (eb_sI h s_MO 0 0) (fun r h1 => r = none ∧ eb_KO h1 ∧ eb_Sn (d + 2) m_X11_reach h 20 [(0, .ref s_MO), (1, .int 0), (2, .int 0)] [] h1 Q)) : eb_Ct (d + 2) 242 [.ref s_MO] h Q :=
  eb_bodyQ (by decide) ok_X11_reach (Nat.le_of_ble_eq_true rfl) (b_X11_reach_0 (h0 := h)   ko w)
theorem b_X11_heard_0 {d : Nat} {h0 h : eb_H} {Q : Option Value → eb_H → Prop}   (ko : eb_KO h) (w : eb_Ct (d + 1) 229 [.ref s_MO, .int (eb_I (eb_sI h s_MO 0 0) s_m_all (50 : Int32).toNatClampNeg)] (eb_sI h s_MO 0 0) (fun r h1 => r = none ∧ eb_KO h1 ∧ eb_Sn (d + 2) m_X11_heard h0 20 [(0, .ref s_MO), (1, .int 0), (2, .int 0)] [] h1 Q)) : eb_Sn (d + 2) m_X11_heard h0 0 [(0, .ref s_MO)] [] h Q := by
  refine eb_aload_n (pc := 0) (n := 0) (i := 0) rfl rfl rfl ?_
  refine eb_iconst (pc := 1) (n := 0) (v := 0) rfl rfl ?_
  refine eb_putI (pc := 2) rfl rfl (by decide) (by decide) rfl rfl ⟨rfl, rfl⟩ ?_
  refine eb_aload_n (pc := 5) (n := 0) (i := 0) rfl rfl rfl ?_
  refine eb_aload_n (pc := 6) (n := 0) (i := 0) rfl rfl rfl ?_
  refine eb_getR (pc := 7) rfl rfl (by decide) (by decide) rfl (ko_s_MO_1 ko) ?_
  refine eb_bipush (pc := 10) (n := 50) (v := 50) rfl rfl ?_
  refine eb_iaload (pc := 12) rfl rfl (by decide) (by unfold vp_in; decide) ?_
  refine eb_ctV (pc := 13) (As := [.int (eb_I (eb_sI h s_MO 0 0) s_m_all (50 : Int32).toNatClampNeg)]) (rest := []) rfl (by decide) rfl rfl (by decide) rfl (Nat.le_of_ble_eq_true rfl) ?_
  refine eb_Ct.mono w ?_
  rintro r h1 ⟨rfl, ko3, w⟩
  change eb_Sn _ _ _ 16 _ [] _ _
  refine eb_iconst (pc := 16) (n := 0) (v := 0) rfl rfl ?_
  refine eb_istore_n (pc := 17) (n := 1) (i := 1) (ls2 := [(1, .int 0), (0, .ref s_MO)]) rfl (Nat.le_of_ble_eq_true rfl) rfl rfl ?_
  refine eb_iconst (pc := 18) (n := 0) (v := 0) rfl rfl ?_
  refine eb_istore_n (pc := 19) (n := 2) (i := 2) (ls2 := [(2, .int 0), (1, .int 0), (0, .ref s_MO)]) rfl (Nat.le_of_ble_eq_true rfl) rfl rfl ?_
  exact eb_pick [2, 1, 0] rfl w
theorem b_X11_heard_20 {d : Nat} {h0 h : eb_H} {Q : Option Value → eb_H → Prop} (x1 : Int32) (x2 : Int32)  (ko : eb_KO h) (w : ((((64 : Int32) * ((eb_I h s_m_all (1 : Int32).toNatClampNeg) * (eb_I h s_m_all (2 : Int32).toNatClampNeg))) ≤ x2 → Q (some (.int x1)) h) ∧ (¬ (((64 : Int32) * ((eb_I h s_m_all (1 : Int32).toNatClampNeg) * (eb_I h s_m_all (2 : Int32).toNatClampNeg))) ≤ x2) → (vp_in x2 1024) ∧ eb_Sn (d + 2) m_X11_heard h0 20 [(0, .ref s_MO), (1, .int (x1 ||| (if (eb_I h s_m_reached x2.toNatClampNeg) = 0 then 0 else x2 - x2 / 64 * 64 : Int32))), (2, .int (x2 + 1))] [] h Q))) : eb_Sn (d + 2) m_X11_heard h0 20 [(0, .ref s_MO), (1, .int x1), (2, .int x2)] [] h Q := by
  refine eb_iload_n (pc := 20) (n := 2) (i := 2) rfl rfl rfl ?_
  refine eb_aload_n (pc := 21) (n := 0) (i := 0) rfl rfl rfl ?_
  refine eb_ctV (pc := 22) (As := []) (rest := [.int x2]) rfl (by decide) rfl rfl (by decide) rfl (Nat.le_of_ble_eq_true rfl) ?_
  refine eb_bodyQ (by decide) ok_X11_stands (Nat.le_of_ble_eq_true rfl) ?_
  change eb_Sn _ m_X11_stands _ 0 [(0, .ref s_MO)] [] _ _
  refine eb_bipush (pc := 0) (n := 64) (v := 64) rfl rfl ?_
  refine eb_aload_n (pc := 2) (n := 0) (i := 0) rfl rfl rfl ?_
  refine eb_ctV (pc := 3) (As := []) (rest := [.int 64]) rfl (by decide) rfl rfl (by decide) rfl (Nat.le_of_ble_eq_true rfl) ?_
  refine eb_bodyQ (by decide) ok_X11_cells (Nat.le_of_ble_eq_true rfl) ?_
  change eb_Sn _ m_X11_cells _ 0 [(0, .ref s_MO)] [] _ _
  refine eb_aload_n (pc := 0) (n := 0) (i := 0) rfl rfl rfl ?_
  refine eb_getR (pc := 1) rfl rfl (by decide) (by decide) rfl (ko_s_MO_1 ko) ?_
  refine eb_iconst (pc := 4) (n := 1) (v := 1) rfl rfl ?_
  refine eb_iaload (pc := 5) rfl rfl (by decide) (by unfold vp_in; decide) ?_
  refine eb_aload_n (pc := 6) (n := 0) (i := 0) rfl rfl rfl ?_
  refine eb_getR (pc := 7) rfl rfl (by decide) (by decide) rfl (ko_s_MO_1 ko) ?_
  refine eb_iconst (pc := 10) (n := 2) (v := 2) rfl rfl ?_
  refine eb_iaload (pc := 11) rfl rfl (by decide) (by unfold vp_in; decide) ?_
  refine eb_imul (pc := 12) rfl ?_
  refine eb_ireturn (pc := 13) rfl rfl rfl ?_
  change eb_Sn _ _ _ 6 _ [.int ((eb_I h s_m_all (1 : Int32).toNatClampNeg) * (eb_I h s_m_all (2 : Int32).toNatClampNeg)), .int 64] _ _
  refine eb_imul (pc := 6) rfl ?_
  refine eb_ireturn (pc := 7) rfl rfl rfl ?_
  change eb_Sn _ _ _ 25 _ [.int ((64 : Int32) * ((eb_I h s_m_all (1 : Int32).toNatClampNeg) * (eb_I h s_m_all (2 : Int32).toNatClampNeg))), .int x2] _ _
  refine eb_icmp_ge (pc := 25) (tgt := 54) rfl (by decide) (fun c1 => ?_) (fun c1 => ?_)
  · replace w := w.1 c1
    refine eb_iload_n (pc := 54) (n := 1) (i := 1) rfl rfl rfl ?_
    exact eb_ireturn (pc := 55) rfl rfl rfl w
  · replace w := w.2 c1
    refine eb_iload_n (pc := 28) (n := 1) (i := 1) rfl rfl rfl ?_
    refine eb_aload_n (pc := 29) (n := 0) (i := 0) rfl rfl rfl ?_
    refine eb_getR (pc := 30) rfl rfl (by decide) (by decide) rfl (ko_s_MO_23 ko) ?_
    refine eb_iload_n (pc := 33) (n := 2) (i := 2) rfl rfl rfl ?_
    obtain ⟨c2, w⟩ := w
    refine eb_zaload (pc := 34) rfl rfl c2 ?_
    refine eb_joinI (pc2 := 46) (ls2 := [(0, .ref s_MO), (1, .int x1), (2, .int x2)]) (st2 := [.int x1]) (v := (if (eb_I h s_m_reached x2.toNatClampNeg) = 0 then 0 else x2 - x2 / 64 * 64 : Int32)) ?_ (fun jj4 => ?_)
    · refine eb_ior (pc := 46) rfl ?_
      refine eb_istore_n (pc := 47) (n := 1) (i := 1) (ls2 := [(1, .int (x1 ||| (if (eb_I h s_m_reached x2.toNatClampNeg) = 0 then 0 else x2 - x2 / 64 * 64 : Int32))), (0, .ref s_MO), (2, .int x2)]) rfl (Nat.le_of_ble_eq_true rfl) rfl rfl ?_
      refine eb_iinc (pc := 48) (i := 2) (n := 1) (v := x2 + 1) (ls2 := [(2, .int (x2 + 1)), (1, .int (x1 ||| (if (eb_I h s_m_reached x2.toNatClampNeg) = 0 then 0 else x2 - x2 / 64 * 64 : Int32))), (0, .ref s_MO)]) (Nat.le_of_ble_eq_true rfl) rfl rfl rfl rfl ?_
      refine eb_goto (pc := 51) (tgt := 20) rfl (by decide) ?_
      exact eb_pick [2, 1, 0] rfl w
    refine eb_if_eq (pc := 35) (tgt := 45) rfl (by decide) (fun c3 => ?_) (fun c3 => ?_)
    · refine eb_iconst (pc := 45) (n := 0) (v := 0) rfl rfl ?_
      exact jj4 _ (by simp only [if_pos c3])
    · refine eb_iload_n (pc := 38) (n := 2) (i := 2) rfl rfl rfl ?_
      refine eb_bipush (pc := 39) (n := 64) (v := 64) rfl rfl ?_
      refine eb_irem (pc := 41) (by decide) rfl ?_
      refine eb_goto (pc := 42) (tgt := 46) rfl (by decide) ?_
      exact jj4 _ (by simp only [if_neg c3])
theorem T_X11_heard {d : Nat} {h : eb_H} {Q : Option Value → eb_H → Prop}   (ko : eb_KO h) (w : eb_Ct (d + 1) 229 [.ref s_MO, .int (eb_I (eb_sI h s_MO 0 0) s_m_all (50 : Int32).toNatClampNeg)] (eb_sI h s_MO 0 0) (fun r h1 => r = none ∧ eb_KO h1 ∧ eb_Sn (d + 2) m_X11_heard h 20 [(0, .ref s_MO), (1, .int 0), (2, .int 0)] [] h1 Q)) : eb_Ct (d + 2) 243 [.ref s_MO] h Q :=
  eb_bodyQ (by decide) ok_X11_heard (Nat.le_of_ble_eq_true rfl) (b_X11_heard_0 (h0 := h)   ko w)
theorem b_X11_most_0 {d : Nat} {h0 h : eb_H} {Q : Option Value → eb_H → Prop} (x1 : Int32)  (ko : eb_KO h) (w : (((¬ (x1.toInt64 < 0)) ∧ (¬ (((((eb_I (eb_sI h s_MO 0 0) s_m_all (1 : Int32).toNatClampNeg) * (eb_I (eb_sI h s_MO 0 0) s_m_all (2 : Int32).toNatClampNeg)) - 1).toInt64) < x1.toInt64)) → eb_Ct (d + 1) 229 [.ref s_MO, .int (eb_I (eb_sI h s_MO 0 0) s_m_all (50 : Int32).toNatClampNeg)] (eb_sI h s_MO 0 0) (fun r h4 => r = none ∧ eb_KO h4 ∧ eb_Sn (d + 2) m_X11_most h0 32 [(0, .ref s_MO), (1, .int x1), (2, .int (-1)), (3, .int 0)] [] h4 Q)) ∧ (¬ ((¬ (x1.toInt64 < 0)) ∧ (¬ (((((eb_I (eb_sI h s_MO 0 0) s_m_all (1 : Int32).toNatClampNeg) * (eb_I (eb_sI h s_MO 0 0) s_m_all (2 : Int32).toNatClampNeg)) - 1).toInt64) < x1.toInt64))) → Q (some (.int (-2))) (eb_sI h s_MO 0 0)))) : eb_Sn (d + 2) m_X11_most h0 0 [(0, .ref s_MO), (1, .int x1)] [] h Q := by
  refine eb_aload_n (pc := 0) (n := 0) (i := 0) rfl rfl rfl ?_
  refine eb_iconst (pc := 1) (n := 0) (v := 0) rfl rfl ?_
  refine eb_putI (pc := 2) rfl rfl (by decide) (by decide) rfl rfl ⟨rfl, rfl⟩ ?_
  refine eb_aload_n (pc := 5) (n := 0) (i := 0) rfl rfl rfl ?_
  refine eb_iload_n (pc := 6) (n := 1) (i := 1) rfl rfl rfl ?_
  refine eb_i2l (pc := 7) rfl ?_
  refine eb_joinI (pc2 := 11) (ls2 := [(0, .ref s_MO), (1, .int x1)]) (st2 := []) (v := eb_q ((¬ (x1.toInt64 < 0)) ∧ (¬ (((((eb_I (eb_sI h s_MO 0 0) s_m_all (1 : Int32).toNatClampNeg) * (eb_I (eb_sI h s_MO 0 0) s_m_all (2 : Int32).toNatClampNeg)) - 1).toInt64) < x1.toInt64)))) ?_ (fun jj7 => ?_)
  · refine eb_if_ne (pc := 11) (tgt := 17) rfl (by decide) (fun c3 => ?_) (fun c3 => ?_)
    · replace c3 := eb_q1.mp c3
      replace w := w.1 c3
      refine eb_aload_n (pc := 17) (n := 0) (i := 0) rfl rfl rfl ?_
      refine eb_aload_n (pc := 18) (n := 0) (i := 0) rfl rfl rfl ?_
      refine eb_getR (pc := 19) rfl rfl (by decide) (by decide) rfl (ko_s_MO_1 ko) ?_
      refine eb_bipush (pc := 22) (n := 50) (v := 50) rfl rfl ?_
      refine eb_iaload (pc := 24) rfl rfl (by decide) (by unfold vp_in; decide) ?_
      refine eb_ctV (pc := 25) (As := [.int (eb_I (eb_sI h s_MO 0 0) s_m_all (50 : Int32).toNatClampNeg)]) (rest := []) rfl (by decide) rfl rfl (by decide) rfl (Nat.le_of_ble_eq_true rfl) ?_
      refine eb_Ct.mono w ?_
      rintro r h4 ⟨rfl, ko6, w⟩
      change eb_Sn _ _ _ 28 _ [] _ _
      refine eb_iconst (pc := 28) (n := -1) (v := (-1)) rfl rfl ?_
      refine eb_istore_n (pc := 29) (n := 2) (i := 2) (ls2 := [(2, .int (-1)), (0, .ref s_MO), (1, .int x1)]) rfl (Nat.le_of_ble_eq_true rfl) rfl rfl ?_
      refine eb_iconst (pc := 30) (n := 0) (v := 0) rfl rfl ?_
      refine eb_istore_n (pc := 31) (n := 3) (i := 3) (ls2 := [(3, .int 0), (2, .int (-1)), (0, .ref s_MO), (1, .int x1)]) rfl (Nat.le_of_ble_eq_true rfl) rfl rfl ?_
      exact eb_pick [2, 3, 1, 0] rfl w
    · replace c3 := eb_q0.mp c3
      replace w := w.2 c3
      refine eb_bipush (pc := 14) (n := -2) (v := (-2)) rfl rfl ?_
      exact eb_ireturn (pc := 16) rfl rfl rfl w
  refine eb_ctV (pc := 8) (As := [.long x1.toInt64]) (rest := []) rfl (by decide) rfl rfl (by decide) rfl (Nat.le_of_ble_eq_true rfl) ?_
  refine eb_bodyQ (by decide) ok_X11_isCell (Nat.le_of_ble_eq_true rfl) ?_
  change eb_Sn _ m_X11_isCell _ 0 [(0, .ref s_MO), (1, .long x1.toInt64)] [] _ _
  refine eb_lload_n (pc := 0) (n := 1) (i := 1) rfl rfl rfl ?_
  refine eb_lconst (pc := 1) (n := 0) (v := 0) rfl rfl ?_
  refine eb_aload_n (pc := 2) (n := 0) (i := 0) rfl rfl rfl ?_
  refine eb_ctV (pc := 3) (As := []) (rest := [.long 0, .long x1.toInt64]) rfl (by decide) rfl rfl (by decide) rfl (Nat.le_of_ble_eq_true rfl) ?_
  refine eb_bodyQ (by decide) ok_X11_cells (Nat.le_of_ble_eq_true rfl) ?_
  change eb_Sn _ m_X11_cells _ 0 [(0, .ref s_MO)] [] _ _
  refine eb_aload_n (pc := 0) (n := 0) (i := 0) rfl rfl rfl ?_
  refine eb_getR (pc := 1) rfl rfl (by decide) (by decide) rfl (ko_s_MO_1 ko) ?_
  refine eb_iconst (pc := 4) (n := 1) (v := 1) rfl rfl ?_
  refine eb_iaload (pc := 5) rfl rfl (by decide) (by unfold vp_in; decide) ?_
  refine eb_aload_n (pc := 6) (n := 0) (i := 0) rfl rfl rfl ?_
  refine eb_getR (pc := 7) rfl rfl (by decide) (by decide) rfl (ko_s_MO_1 ko) ?_
  refine eb_iconst (pc := 10) (n := 2) (v := 2) rfl rfl ?_
  refine eb_iaload (pc := 11) rfl rfl (by decide) (by unfold vp_in; decide) ?_
  refine eb_imul (pc := 12) rfl ?_
  refine eb_ireturn (pc := 13) rfl rfl rfl ?_
  change eb_Sn _ _ _ 6 _ [.int ((eb_I (eb_sI h s_MO 0 0) s_m_all (1 : Int32).toNatClampNeg) * (eb_I (eb_sI h s_MO 0 0) s_m_all (2 : Int32).toNatClampNeg)), .long 0, .long x1.toInt64] _ _
  refine eb_iconst (pc := 6) (n := 1) (v := 1) rfl rfl ?_
  refine eb_isub (pc := 7) rfl ?_
  refine eb_i2l (pc := 8) rfl ?_
  refine eb_ctS (pc := 9) (As := [.long x1.toInt64, .long 0, .long ((((eb_I (eb_sI h s_MO 0 0) s_m_all (1 : Int32).toNatClampNeg) * (eb_I (eb_sI h s_MO 0 0) s_m_all (2 : Int32).toNatClampNeg)) - 1).toInt64)]) (rest := []) rfl (by decide) (by decide) rfl rfl (Nat.le_of_ble_eq_true rfl) ?_
  refine eb_bodyQ (by decide) ok_X11_within (Nat.le_of_ble_eq_true rfl) ?_
  change eb_Sn _ m_X11_within _ 0 [(0, .long x1.toInt64), (2, .long 0), (4, .long ((((eb_I (eb_sI h s_MO 0 0) s_m_all (1 : Int32).toNatClampNeg) * (eb_I (eb_sI h s_MO 0 0) s_m_all (2 : Int32).toNatClampNeg)) - 1).toInt64))] [] _ _
  refine eb_lload_n (pc := 0) (n := 0) (i := 0) rfl rfl rfl ?_
  refine eb_lload_n (pc := 1) (n := 2) (i := 2) rfl rfl rfl ?_
  refine eb_lcmp (pc := 2) rfl ?_
  refine eb_if_lt (pc := 3) (tgt := 17) rfl (by decide) (fun c1 => ?_) (fun c1 => ?_)
  · replace c1 := eb_lc_lt.mp c1
    refine eb_iconst (pc := 17) (n := 0) (v := 0) rfl rfl ?_
    refine eb_ireturn (pc := 18) rfl rfl (by decide) ?_
    change eb_Sn _ _ _ 12 _ [.int 0] _ _
    refine eb_ireturn (pc := 12) rfl rfl (by decide) ?_
    change eb_Sn _ _ _ 11 _ _ _ _
    exact jj7 0 (eb_qf (fun z => z.1 c1)).symm
  · replace c1 := (fun hh => mt eb_lc_lt.mpr hh) c1
    refine eb_lload_n (pc := 6) (n := 0) (i := 0) rfl rfl rfl ?_
    refine eb_lload (pc := 7) (i := 4) rfl rfl ?_
    refine eb_lcmp (pc := 9) rfl ?_
    refine eb_if_gt (pc := 10) (tgt := 17) rfl (by decide) (fun c2 => ?_) (fun c2 => ?_)
    · replace c2 := eb_lc_gt.mp c2
      refine eb_iconst (pc := 17) (n := 0) (v := 0) rfl rfl ?_
      refine eb_ireturn (pc := 18) rfl rfl (by decide) ?_
      change eb_Sn _ _ _ 12 _ [.int 0] _ _
      refine eb_ireturn (pc := 12) rfl rfl (by decide) ?_
      change eb_Sn _ _ _ 11 _ _ _ _
      exact jj7 0 (eb_qf (fun z => (fun z => z c2) z.2)).symm
    · replace c2 := (fun hh => mt eb_lc_gt.mpr hh) c2
      refine eb_iconst (pc := 13) (n := 1) (v := 1) rfl rfl ?_
      refine eb_goto (pc := 14) (tgt := 18) rfl (by decide) ?_
      refine eb_ireturn (pc := 18) rfl rfl (by decide) ?_
      change eb_Sn _ _ _ 12 _ [.int 1] _ _
      refine eb_ireturn (pc := 12) rfl rfl (by decide) ?_
      change eb_Sn _ _ _ 11 _ _ _ _
      exact jj7 1 (eb_qt (⟨c1, c2⟩)).symm
theorem b_X11_most_32 {d : Nat} {h0 h : eb_H} {Q : Option Value → eb_H → Prop} (x1 : Int32) (x2 : Int32) (x3 : Int32)  (ko : eb_KO h) (w : (((64 : Int32) ≤ x3 → Q (some (.int x2)) h) ∧ (¬ ((64 : Int32) ≤ x3) → (vp_in (((64 : Int32) * x1) + x3) 1024) ∧ (((eb_I h s_m_reached (((64 : Int32) * x1) + x3).toNatClampNeg) = 0 → eb_Sn (d + 2) m_X11_most h0 32 [(0, .ref s_MO), (1, .int x1), (2, .int x2), (3, .int (x3 + 1))] [] h Q) ∧ (¬ ((eb_I h s_m_reached (((64 : Int32) * x1) + x3).toNatClampNeg) = 0) → eb_Ct (d + 1) 194 [.int x3] h (fun r h4 => ∃ y5, r = some (.int y5) ∧ eb_KO h4 ∧ ((y5 ≤ x2 → eb_Sn (d + 2) m_X11_most h0 32 [(0, .ref s_MO), (1, .int x1), (2, .int x2), (3, .int (x3 + 1))] [] h4 Q) ∧ (¬ (y5 ≤ x2) → eb_Ct (d + 1) 194 [.int x3] h4 (fun r h8 => ∃ y9, r = some (.int y9) ∧ eb_KO h8 ∧ eb_Sn (d + 2) m_X11_most h0 32 [(0, .ref s_MO), (1, .int x1), (2, .int y9), (3, .int (x3 + 1))] [] h8 Q))))))))) : eb_Sn (d + 2) m_X11_most h0 32 [(0, .ref s_MO), (1, .int x1), (2, .int x2), (3, .int x3)] [] h Q := by
  refine eb_iload_n (pc := 32) (n := 3) (i := 3) rfl rfl rfl ?_
  refine eb_bipush (pc := 33) (n := 64) (v := 64) rfl rfl ?_
  refine eb_icmp_ge (pc := 35) (tgt := 71) rfl (by decide) (fun c1 => ?_) (fun c1 => ?_)
  · replace w := w.1 c1
    refine eb_iload_n (pc := 71) (n := 2) (i := 2) rfl rfl rfl ?_
    exact eb_ireturn (pc := 72) rfl rfl rfl w
  · replace w := w.2 c1
    refine eb_aload_n (pc := 38) (n := 0) (i := 0) rfl rfl rfl ?_
    refine eb_getR (pc := 39) rfl rfl (by decide) (by decide) rfl (ko_s_MO_23 ko) ?_
    refine eb_bipush (pc := 42) (n := 64) (v := 64) rfl rfl ?_
    refine eb_iload_n (pc := 44) (n := 1) (i := 1) rfl rfl rfl ?_
    refine eb_imul (pc := 45) rfl ?_
    refine eb_iload_n (pc := 46) (n := 3) (i := 3) rfl rfl rfl ?_
    refine eb_iadd (pc := 47) rfl ?_
    obtain ⟨c2, w⟩ := w
    refine eb_zaload (pc := 48) rfl rfl c2 ?_
    refine eb_if_eq (pc := 49) (tgt := 65) rfl (by decide) (fun c3 => ?_) (fun c3 => ?_)
    · replace w := w.1 c3
      refine eb_iinc (pc := 65) (i := 3) (n := 1) (v := x3 + 1) (ls2 := [(3, .int (x3 + 1)), (0, .ref s_MO), (1, .int x1), (2, .int x2)]) (Nat.le_of_ble_eq_true rfl) rfl rfl rfl rfl ?_
      refine eb_goto (pc := 68) (tgt := 32) rfl (by decide) ?_
      exact eb_pick [1, 2, 3, 0] rfl w
    · replace w := w.2 c3
      refine eb_iload_n (pc := 52) (n := 3) (i := 3) rfl rfl rfl ?_
      refine eb_ctS (pc := 53) (As := [.int x3]) (rest := []) rfl (by decide) (by decide) rfl rfl (Nat.le_of_ble_eq_true rfl) ?_
      refine eb_Ct.mono w ?_
      rintro r h4 ⟨y5, rfl, ko6, w⟩
      change eb_Sn _ _ _ 56 _ [.int y5] _ _
      refine eb_iload_n (pc := 56) (n := 2) (i := 2) rfl rfl rfl ?_
      refine eb_icmp_le (pc := 57) (tgt := 65) rfl (by decide) (fun c7 => ?_) (fun c7 => ?_)
      · replace w := w.1 c7
        refine eb_iinc (pc := 65) (i := 3) (n := 1) (v := x3 + 1) (ls2 := [(3, .int (x3 + 1)), (0, .ref s_MO), (1, .int x1), (2, .int x2)]) (Nat.le_of_ble_eq_true rfl) rfl rfl rfl rfl ?_
        refine eb_goto (pc := 68) (tgt := 32) rfl (by decide) ?_
        exact eb_pick [1, 2, 3, 0] rfl w
      · replace w := w.2 c7
        refine eb_iload_n (pc := 60) (n := 3) (i := 3) rfl rfl rfl ?_
        refine eb_ctS (pc := 61) (As := [.int x3]) (rest := []) rfl (by decide) (by decide) rfl rfl (Nat.le_of_ble_eq_true rfl) ?_
        refine eb_Ct.mono w ?_
        rintro r h8 ⟨y9, rfl, ko10, w⟩
        change eb_Sn _ _ _ 64 _ [.int y9] _ _
        refine eb_istore_n (pc := 64) (n := 2) (i := 2) (ls2 := [(2, .int y9), (0, .ref s_MO), (1, .int x1), (3, .int x3)]) rfl (Nat.le_of_ble_eq_true rfl) rfl rfl ?_
        refine eb_iinc (pc := 65) (i := 3) (n := 1) (v := x3 + 1) (ls2 := [(3, .int (x3 + 1)), (2, .int y9), (0, .ref s_MO), (1, .int x1)]) (Nat.le_of_ble_eq_true rfl) rfl rfl rfl rfl ?_
        refine eb_goto (pc := 68) (tgt := 32) rfl (by decide) ?_
        exact eb_pick [2, 3, 1, 0] rfl w
theorem T_X11_most {d : Nat} {h : eb_H} {Q : Option Value → eb_H → Prop} (x1 : Int32)  (ko : eb_KO h) (w : (((¬ (x1.toInt64 < 0)) ∧ (¬ (((((eb_I (eb_sI h s_MO 0 0) s_m_all (1 : Int32).toNatClampNeg) * (eb_I (eb_sI h s_MO 0 0) s_m_all (2 : Int32).toNatClampNeg)) - 1).toInt64) < x1.toInt64)) → eb_Ct (d + 1) 229 [.ref s_MO, .int (eb_I (eb_sI h s_MO 0 0) s_m_all (50 : Int32).toNatClampNeg)] (eb_sI h s_MO 0 0) (fun r h4 => r = none ∧ eb_KO h4 ∧ eb_Sn (d + 2) m_X11_most h 32 [(0, .ref s_MO), (1, .int x1), (2, .int (-1)), (3, .int 0)] [] h4 Q)) ∧ (¬ ((¬ (x1.toInt64 < 0)) ∧ (¬ (((((eb_I (eb_sI h s_MO 0 0) s_m_all (1 : Int32).toNatClampNeg) * (eb_I (eb_sI h s_MO 0 0) s_m_all (2 : Int32).toNatClampNeg)) - 1).toInt64) < x1.toInt64))) → Q (some (.int (-2))) (eb_sI h s_MO 0 0)))) : eb_Ct (d + 2) 244 [.ref s_MO, .int x1] h Q :=
  eb_bodyQ (by decide) ok_X11_most (Nat.le_of_ble_eq_true rfl) (b_X11_most_0 (h0 := h) x1  ko w)
theorem b_X11_tidingAt_0 {d : Nat} {h0 h : eb_H} {Q : Option Value → eb_H → Prop} (x1 : Int32) (x2 : Int32) (x3 : Int32)  (ko : eb_KO h) (w : eb_Sn d m_X11_tidingAt h0 6 [(0, .ref s_MO), (1, .int x1), (2, .int x2), (3, .int x3), (4, .int 0), (5, .int 0)] [] h Q) : eb_Sn d m_X11_tidingAt h0 0 [(0, .ref s_MO), (1, .int x1), (2, .int x2), (3, .int x3)] [] h Q := by
  refine eb_iconst (pc := 0) (n := 0) (v := 0) rfl rfl ?_
  refine eb_istore (pc := 1) (i := 4) (ls2 := [(4, .int 0), (0, .ref s_MO), (1, .int x1), (2, .int x2), (3, .int x3)]) (Nat.le_of_ble_eq_true rfl) rfl rfl ?_
  refine eb_iconst (pc := 3) (n := 0) (v := 0) rfl rfl ?_
  refine eb_istore (pc := 4) (i := 5) (ls2 := [(5, .int 0), (4, .int 0), (0, .ref s_MO), (1, .int x1), (2, .int x2), (3, .int x3)]) (Nat.le_of_ble_eq_true rfl) rfl rfl ?_
  exact eb_pick [2, 3, 4, 5, 1, 0] rfl w
theorem b_X11_tidingAt_6 {d : Nat} {h0 h : eb_H} {Q : Option Value → eb_H → Prop} (x1 : Int32) (x2 : Int32) (x3 : Int32) (x4 : Int32) (x5 : Int32)  (ko : eb_KO h) (w : (((64 : Int32) ≤ x5 → Q (some (.int (if 0 ≤ x3 then (-1) else x4 : Int32))) h) ∧ (¬ ((64 : Int32) ≤ x5) → (vp_in ((27 : Int32) + x1) 3492) ∧ (vp_in (((64 : Int32) * (eb_I h s_m_all ((27 : Int32) + x1).toNatClampNeg)) + x5) 1024) ∧ (((eb_I h s_m_reached (((64 : Int32) * (eb_I h s_m_all ((27 : Int32) + x1).toNatClampNeg)) + x5).toNatClampNeg) = 0 → eb_Sn d m_X11_tidingAt h0 6 [(0, .ref s_MO), (1, .int x1), (2, .int x2), (3, .int x3), (4, .int x4), (5, .int (x5 + 1))] [] h Q) ∧ (¬ ((eb_I h s_m_reached (((64 : Int32) * (eb_I h s_m_all ((27 : Int32) + x1).toNatClampNeg)) + x5).toNatClampNeg) = 0) → ((x2 = ((-1) : Int32) → ((¬ x4 = x3 → eb_Sn d m_X11_tidingAt h0 6 [(0, .ref s_MO), (1, .int x1), (2, .int x2), (3, .int x3), (4, .int (x4 + 1)), (5, .int (x5 + 1))] [] h Q) ∧ (x4 = x3 → Q (some (.int x5)) h))) ∧ (¬ (x2 = ((-1) : Int32)) → (vp_in ((27 : Int32) + x2) 3492) ∧ (vp_in (((64 : Int32) * (eb_I h s_m_all ((27 : Int32) + x2).toNatClampNeg)) + x5) 1024) ∧ (((eb_I h s_m_reached (((64 : Int32) * (eb_I h s_m_all ((27 : Int32) + x2).toNatClampNeg)) + x5).toNatClampNeg) = 0 → ((¬ x4 = x3 → eb_Sn d m_X11_tidingAt h0 6 [(0, .ref s_MO), (1, .int x1), (2, .int x2), (3, .int x3), (4, .int (x4 + 1)), (5, .int (x5 + 1))] [] h Q) ∧ (x4 = x3 → Q (some (.int x5)) h))) ∧ (¬ ((eb_I h s_m_reached (((64 : Int32) * (eb_I h s_m_all ((27 : Int32) + x2).toNatClampNeg)) + x5).toNatClampNeg) = 0) → eb_Sn d m_X11_tidingAt h0 6 [(0, .ref s_MO), (1, .int x1), (2, .int x2), (3, .int x3), (4, .int x4), (5, .int (x5 + 1))] [] h Q))))))))) : eb_Sn d m_X11_tidingAt h0 6 [(0, .ref s_MO), (1, .int x1), (2, .int x2), (3, .int x3), (4, .int x4), (5, .int x5)] [] h Q := by
  refine eb_iload (pc := 6) (i := 5) rfl rfl ?_
  refine eb_bipush (pc := 8) (n := 64) (v := 64) rfl rfl ?_
  refine eb_icmp_ge (pc := 10) (tgt := 85) rfl (by decide) (fun c1 => ?_) (fun c1 => ?_)
  · replace w := w.1 c1
    refine eb_iload_n (pc := 85) (n := 3) (i := 3) rfl rfl rfl ?_
    refine eb_joinI (pc2 := 95) (ls2 := [(0, .ref s_MO), (1, .int x1), (2, .int x2), (3, .int x3), (4, .int x4), (5, .int x5)]) (st2 := []) (v := (if 0 ≤ x3 then (-1) else x4 : Int32)) ?_ (fun jj3 => ?_)
    · exact eb_ireturn (pc := 95) rfl rfl rfl w
    refine eb_if_ge (pc := 86) (tgt := 94) rfl (by decide) (fun c2 => ?_) (fun c2 => ?_)
    · refine eb_iconst (pc := 94) (n := -1) (v := (-1)) rfl rfl ?_
      exact jj3 _ (by simp only [if_pos c2])
    · refine eb_iload (pc := 89) (i := 4) rfl rfl ?_
      refine eb_goto (pc := 91) (tgt := 95) rfl (by decide) ?_
      exact jj3 _ (by simp only [if_neg c2])
  · replace w := w.2 c1
    refine eb_aload_n (pc := 13) (n := 0) (i := 0) rfl rfl rfl ?_
    refine eb_getR (pc := 14) rfl rfl (by decide) (by decide) rfl (ko_s_MO_23 ko) ?_
    refine eb_bipush (pc := 17) (n := 64) (v := 64) rfl rfl ?_
    refine eb_aload_n (pc := 19) (n := 0) (i := 0) rfl rfl rfl ?_
    refine eb_getR (pc := 20) rfl rfl (by decide) (by decide) rfl (ko_s_MO_1 ko) ?_
    refine eb_bipush (pc := 23) (n := 27) (v := 27) rfl rfl ?_
    refine eb_iload_n (pc := 25) (n := 1) (i := 1) rfl rfl rfl ?_
    refine eb_iadd (pc := 26) rfl ?_
    obtain ⟨c5, w⟩ := w
    refine eb_iaload (pc := 27) rfl rfl (by decide) c5 ?_
    refine eb_imul (pc := 28) rfl ?_
    refine eb_iload (pc := 29) (i := 5) rfl rfl ?_
    refine eb_iadd (pc := 31) rfl ?_
    obtain ⟨c6, w⟩ := w
    refine eb_zaload (pc := 32) rfl rfl c6 ?_
    refine eb_if_eq (pc := 33) (tgt := 79) rfl (by decide) (fun c7 => ?_) (fun c7 => ?_)
    · replace w := w.1 c7
      refine eb_iinc (pc := 79) (i := 5) (n := 1) (v := x5 + 1) (ls2 := [(5, .int (x5 + 1)), (0, .ref s_MO), (1, .int x1), (2, .int x2), (3, .int x3), (4, .int x4)]) (Nat.le_of_ble_eq_true rfl) rfl rfl rfl rfl ?_
      refine eb_goto (pc := 82) (tgt := 6) rfl (by decide) ?_
      exact eb_pick [1, 2, 3, 4, 5, 0] rfl w
    · replace w := w.2 c7
      refine eb_iload_n (pc := 36) (n := 2) (i := 2) rfl rfl rfl ?_
      refine eb_iconst (pc := 37) (n := -1) (v := (-1)) rfl rfl ?_
      refine eb_icmp_eq (pc := 38) (tgt := 67) rfl (by decide) (fun c8 => ?_) (fun c8 => ?_)
      · replace w := w.1 c8
        refine eb_iload (pc := 67) (i := 4) rfl rfl ?_
        refine eb_iload_n (pc := 69) (n := 3) (i := 3) rfl rfl rfl ?_
        refine eb_icmp_ne (pc := 70) (tgt := 76) rfl (by decide) (fun c9 => ?_) (fun c9 => ?_)
        · replace w := w.1 c9
          refine eb_iinc (pc := 76) (i := 4) (n := 1) (v := x4 + 1) (ls2 := [(4, .int (x4 + 1)), (0, .ref s_MO), (1, .int x1), (2, .int x2), (3, .int x3), (5, .int x5)]) (Nat.le_of_ble_eq_true rfl) rfl rfl rfl rfl ?_
          refine eb_iinc (pc := 79) (i := 5) (n := 1) (v := x5 + 1) (ls2 := [(5, .int (x5 + 1)), (4, .int (x4 + 1)), (0, .ref s_MO), (1, .int x1), (2, .int x2), (3, .int x3)]) (Nat.le_of_ble_eq_true rfl) rfl rfl rfl rfl ?_
          refine eb_goto (pc := 82) (tgt := 6) rfl (by decide) ?_
          exact eb_pick [2, 3, 4, 5, 1, 0] rfl w
        · replace w := w.2 c9
          refine eb_iload (pc := 73) (i := 5) rfl rfl ?_
          exact eb_ireturn (pc := 75) rfl rfl rfl w
      · replace w := w.2 c8
        refine eb_aload_n (pc := 41) (n := 0) (i := 0) rfl rfl rfl ?_
        refine eb_getR (pc := 42) rfl rfl (by decide) (by decide) rfl (ko_s_MO_23 ko) ?_
        refine eb_bipush (pc := 45) (n := 64) (v := 64) rfl rfl ?_
        refine eb_aload_n (pc := 47) (n := 0) (i := 0) rfl rfl rfl ?_
        refine eb_getR (pc := 48) rfl rfl (by decide) (by decide) rfl (ko_s_MO_1 ko) ?_
        refine eb_bipush (pc := 51) (n := 27) (v := 27) rfl rfl ?_
        refine eb_iload_n (pc := 53) (n := 2) (i := 2) rfl rfl rfl ?_
        refine eb_iadd (pc := 54) rfl ?_
        obtain ⟨c10, w⟩ := w
        refine eb_iaload (pc := 55) rfl rfl (by decide) c10 ?_
        refine eb_imul (pc := 56) rfl ?_
        refine eb_iload (pc := 57) (i := 5) rfl rfl ?_
        refine eb_iadd (pc := 59) rfl ?_
        obtain ⟨c11, w⟩ := w
        refine eb_zaload (pc := 60) rfl rfl c11 ?_
        refine eb_if_eq (pc := 61) (tgt := 67) rfl (by decide) (fun c12 => ?_) (fun c12 => ?_)
        · replace w := w.1 c12
          refine eb_iload (pc := 67) (i := 4) rfl rfl ?_
          refine eb_iload_n (pc := 69) (n := 3) (i := 3) rfl rfl rfl ?_
          refine eb_icmp_ne (pc := 70) (tgt := 76) rfl (by decide) (fun c13 => ?_) (fun c13 => ?_)
          · replace w := w.1 c13
            refine eb_iinc (pc := 76) (i := 4) (n := 1) (v := x4 + 1) (ls2 := [(4, .int (x4 + 1)), (0, .ref s_MO), (1, .int x1), (2, .int x2), (3, .int x3), (5, .int x5)]) (Nat.le_of_ble_eq_true rfl) rfl rfl rfl rfl ?_
            refine eb_iinc (pc := 79) (i := 5) (n := 1) (v := x5 + 1) (ls2 := [(5, .int (x5 + 1)), (4, .int (x4 + 1)), (0, .ref s_MO), (1, .int x1), (2, .int x2), (3, .int x3)]) (Nat.le_of_ble_eq_true rfl) rfl rfl rfl rfl ?_
            refine eb_goto (pc := 82) (tgt := 6) rfl (by decide) ?_
            exact eb_pick [2, 3, 4, 5, 1, 0] rfl w
          · replace w := w.2 c13
            refine eb_iload (pc := 73) (i := 5) rfl rfl ?_
            exact eb_ireturn (pc := 75) rfl rfl rfl w
        · replace w := w.2 c12
          refine eb_goto (pc := 64) (tgt := 79) rfl (by decide) ?_
          refine eb_iinc (pc := 79) (i := 5) (n := 1) (v := x5 + 1) (ls2 := [(5, .int (x5 + 1)), (0, .ref s_MO), (1, .int x1), (2, .int x2), (3, .int x3), (4, .int x4)]) (Nat.le_of_ble_eq_true rfl) rfl rfl rfl rfl ?_
          refine eb_goto (pc := 82) (tgt := 6) rfl (by decide) ?_
          exact eb_pick [1, 2, 3, 4, 5, 0] rfl w
theorem T_X11_tidingAt {d : Nat} {h : eb_H} {Q : Option Value → eb_H → Prop} (x1 : Int32) (x2 : Int32) (x3 : Int32)  (ko : eb_KO h) (w : eb_Sn d m_X11_tidingAt h 6 [(0, .ref s_MO), (1, .int x1), (2, .int x2), (3, .int x3), (4, .int 0), (5, .int 0)] [] h Q) : eb_Ct d 245 [.ref s_MO, .int x1, .int x2, .int x3] h Q :=
  eb_bodyQ (by decide) ok_X11_tidingAt (Nat.le_of_ble_eq_true rfl) (b_X11_tidingAt_0 (h0 := h) x1 x2 x3  ko w)
theorem b_X11_tidings_0 {d : Nat} {h0 h : eb_H} {Q : Option Value → eb_H → Prop} (x1 : Int32)  (ko : eb_KO h) (w : (((¬ (x1.toInt64 < 0)) ∧ (¬ ((((eb_I (eb_sI h s_MO 0 0) s_m_all (4 : Int32).toNatClampNeg) - 1).toInt64) < x1.toInt64)) → eb_Ct (d + 1) 229 [.ref s_MO, .int (eb_I (eb_sI h s_MO 0 0) s_m_all (50 : Int32).toNatClampNeg)] (eb_sI h s_MO 0 0) (fun r h4 => r = none ∧ eb_KO h4 ∧ eb_Ct (d + 1) 245 [.ref s_MO, .int x1, .int (-1), .int (-1)] h4 (fun r h7 => ∃ y8, r = some (.int y8) ∧ eb_KO h7 ∧ Q (some (.int y8)) h7))) ∧ (¬ ((¬ (x1.toInt64 < 0)) ∧ (¬ ((((eb_I (eb_sI h s_MO 0 0) s_m_all (4 : Int32).toNatClampNeg) - 1).toInt64) < x1.toInt64))) → Q (some (.int (-2))) (eb_sI h s_MO 0 0)))) : eb_Sn (d + 2) m_X11_tidings h0 0 [(0, .ref s_MO), (1, .int x1)] [] h Q := by
  refine eb_aload_n (pc := 0) (n := 0) (i := 0) rfl rfl rfl ?_
  refine eb_iconst (pc := 1) (n := 0) (v := 0) rfl rfl ?_
  refine eb_putI (pc := 2) rfl rfl (by decide) (by decide) rfl rfl ⟨rfl, rfl⟩ ?_
  refine eb_aload_n (pc := 5) (n := 0) (i := 0) rfl rfl rfl ?_
  refine eb_iload_n (pc := 6) (n := 1) (i := 1) rfl rfl rfl ?_
  refine eb_joinI (pc2 := 10) (ls2 := [(0, .ref s_MO), (1, .int x1)]) (st2 := []) (v := eb_q ((¬ (x1.toInt64 < 0)) ∧ (¬ ((((eb_I (eb_sI h s_MO 0 0) s_m_all (4 : Int32).toNatClampNeg) - 1).toInt64) < x1.toInt64)))) ?_ (fun jj10 => ?_)
  · refine eb_if_ne (pc := 10) (tgt := 16) rfl (by decide) (fun c3 => ?_) (fun c3 => ?_)
    · replace c3 := eb_q1.mp c3
      replace w := w.1 c3
      refine eb_aload_n (pc := 16) (n := 0) (i := 0) rfl rfl rfl ?_
      refine eb_aload_n (pc := 17) (n := 0) (i := 0) rfl rfl rfl ?_
      refine eb_getR (pc := 18) rfl rfl (by decide) (by decide) rfl (ko_s_MO_1 ko) ?_
      refine eb_bipush (pc := 21) (n := 50) (v := 50) rfl rfl ?_
      refine eb_iaload (pc := 23) rfl rfl (by decide) (by unfold vp_in; decide) ?_
      refine eb_ctV (pc := 24) (As := [.int (eb_I (eb_sI h s_MO 0 0) s_m_all (50 : Int32).toNatClampNeg)]) (rest := []) rfl (by decide) rfl rfl (by decide) rfl (Nat.le_of_ble_eq_true rfl) ?_
      refine eb_Ct.mono w ?_
      rintro r h4 ⟨rfl, ko6, w⟩
      change eb_Sn _ _ _ 27 _ [] _ _
      refine eb_aload_n (pc := 27) (n := 0) (i := 0) rfl rfl rfl ?_
      refine eb_iload_n (pc := 28) (n := 1) (i := 1) rfl rfl rfl ?_
      refine eb_iconst (pc := 29) (n := -1) (v := (-1)) rfl rfl ?_
      refine eb_iconst (pc := 30) (n := -1) (v := (-1)) rfl rfl ?_
      refine eb_ctV (pc := 31) (As := [.int x1, .int (-1), .int (-1)]) (rest := []) rfl (by decide) rfl rfl (by decide) rfl (Nat.le_of_ble_eq_true rfl) ?_
      refine eb_Ct.mono w ?_
      rintro r h7 ⟨y8, rfl, ko9, w⟩
      change eb_Sn _ _ _ 34 _ [.int y8] _ _
      exact eb_ireturn (pc := 34) rfl rfl rfl w
    · replace c3 := eb_q0.mp c3
      replace w := w.2 c3
      refine eb_bipush (pc := 13) (n := -2) (v := (-2)) rfl rfl ?_
      exact eb_ireturn (pc := 15) rfl rfl rfl w
  refine eb_ctV (pc := 7) (As := [.int x1]) (rest := []) rfl (by decide) rfl rfl (by decide) rfl (Nat.le_of_ble_eq_true rfl) ?_
  refine eb_bodyQ (by decide) ok_X11_isHouse (Nat.le_of_ble_eq_true rfl) ?_
  change eb_Sn _ m_X11_isHouse _ 0 [(0, .ref s_MO), (1, .int x1)] [] _ _
  refine eb_iload_n (pc := 0) (n := 1) (i := 1) rfl rfl rfl ?_
  refine eb_i2l (pc := 1) rfl ?_
  refine eb_lconst (pc := 2) (n := 0) (v := 0) rfl rfl ?_
  refine eb_aload_n (pc := 3) (n := 0) (i := 0) rfl rfl rfl ?_
  refine eb_getR (pc := 4) rfl rfl (by decide) (by decide) rfl (ko_s_MO_1 ko) ?_
  refine eb_iconst (pc := 7) (n := 4) (v := 4) rfl rfl ?_
  refine eb_iaload (pc := 8) rfl rfl (by decide) (by unfold vp_in; decide) ?_
  refine eb_iconst (pc := 9) (n := 1) (v := 1) rfl rfl ?_
  refine eb_isub (pc := 10) rfl ?_
  refine eb_i2l (pc := 11) rfl ?_
  refine eb_ctS (pc := 12) (As := [.long x1.toInt64, .long 0, .long (((eb_I (eb_sI h s_MO 0 0) s_m_all (4 : Int32).toNatClampNeg) - 1).toInt64)]) (rest := []) rfl (by decide) (by decide) rfl rfl (Nat.le_of_ble_eq_true rfl) ?_
  refine eb_bodyQ (by decide) ok_X11_within (Nat.le_of_ble_eq_true rfl) ?_
  change eb_Sn _ m_X11_within _ 0 [(0, .long x1.toInt64), (2, .long 0), (4, .long (((eb_I (eb_sI h s_MO 0 0) s_m_all (4 : Int32).toNatClampNeg) - 1).toInt64))] [] _ _
  refine eb_lload_n (pc := 0) (n := 0) (i := 0) rfl rfl rfl ?_
  refine eb_lload_n (pc := 1) (n := 2) (i := 2) rfl rfl rfl ?_
  refine eb_lcmp (pc := 2) rfl ?_
  refine eb_if_lt (pc := 3) (tgt := 17) rfl (by decide) (fun c1 => ?_) (fun c1 => ?_)
  · replace c1 := eb_lc_lt.mp c1
    refine eb_iconst (pc := 17) (n := 0) (v := 0) rfl rfl ?_
    refine eb_ireturn (pc := 18) rfl rfl (by decide) ?_
    change eb_Sn _ _ _ 15 _ [.int 0] _ _
    refine eb_ireturn (pc := 15) rfl rfl (by decide) ?_
    change eb_Sn _ _ _ 10 _ _ _ _
    exact jj10 0 (eb_qf (fun z => z.1 c1)).symm
  · replace c1 := (fun hh => mt eb_lc_lt.mpr hh) c1
    refine eb_lload_n (pc := 6) (n := 0) (i := 0) rfl rfl rfl ?_
    refine eb_lload (pc := 7) (i := 4) rfl rfl ?_
    refine eb_lcmp (pc := 9) rfl ?_
    refine eb_if_gt (pc := 10) (tgt := 17) rfl (by decide) (fun c2 => ?_) (fun c2 => ?_)
    · replace c2 := eb_lc_gt.mp c2
      refine eb_iconst (pc := 17) (n := 0) (v := 0) rfl rfl ?_
      refine eb_ireturn (pc := 18) rfl rfl (by decide) ?_
      change eb_Sn _ _ _ 15 _ [.int 0] _ _
      refine eb_ireturn (pc := 15) rfl rfl (by decide) ?_
      change eb_Sn _ _ _ 10 _ _ _ _
      exact jj10 0 (eb_qf (fun z => (fun z => z c2) z.2)).symm
    · replace c2 := (fun hh => mt eb_lc_gt.mpr hh) c2
      refine eb_iconst (pc := 13) (n := 1) (v := 1) rfl rfl ?_
      refine eb_goto (pc := 14) (tgt := 18) rfl (by decide) ?_
      refine eb_ireturn (pc := 18) rfl rfl (by decide) ?_
      change eb_Sn _ _ _ 15 _ [.int 1] _ _
      refine eb_ireturn (pc := 15) rfl rfl (by decide) ?_
      change eb_Sn _ _ _ 10 _ _ _ _
      exact jj10 1 (eb_qt (⟨c1, c2⟩)).symm
theorem T_X11_tidings {d : Nat} {h : eb_H} {Q : Option Value → eb_H → Prop} (x1 : Int32)  (ko : eb_KO h) (w : (((¬ (x1.toInt64 < 0)) ∧ (¬ ((((eb_I (eb_sI h s_MO 0 0) s_m_all (4 : Int32).toNatClampNeg) - 1).toInt64) < x1.toInt64)) → eb_Ct (d + 1) 229 [.ref s_MO, .int (eb_I (eb_sI h s_MO 0 0) s_m_all (50 : Int32).toNatClampNeg)] (eb_sI h s_MO 0 0) (fun r h4 => r = none ∧ eb_KO h4 ∧ eb_Ct (d + 1) 245 [.ref s_MO, .int x1, .int (-1), .int (-1)] h4 (fun r h7 => ∃ y8, r = some (.int y8) ∧ eb_KO h7 ∧ Q (some (.int y8)) h7))) ∧ (¬ ((¬ (x1.toInt64 < 0)) ∧ (¬ ((((eb_I (eb_sI h s_MO 0 0) s_m_all (4 : Int32).toNatClampNeg) - 1).toInt64) < x1.toInt64))) → Q (some (.int (-2))) (eb_sI h s_MO 0 0)))) : eb_Ct (d + 2) 246 [.ref s_MO, .int x1] h Q :=
  eb_bodyQ (by decide) ok_X11_tidings (Nat.le_of_ble_eq_true rfl) (b_X11_tidings_0 (h0 := h) x1  ko w)
theorem b_X11_tiding_0 {d : Nat} {h0 h : eb_H} {Q : Option Value → eb_H → Prop} (x1 : Int32) (x2 : Int32)  (ko : eb_KO h) (w : (((¬ (x1.toInt64 < 0)) ∧ (¬ ((((eb_I (eb_sI h s_MO 0 0) s_m_all (4 : Int32).toNatClampNeg) - 1).toInt64) < x1.toInt64)) → ((0 ≤ x2 → eb_Ct (d + 1) 229 [.ref s_MO, .int (eb_I (eb_sI h s_MO 0 0) s_m_all (50 : Int32).toNatClampNeg)] (eb_sI h s_MO 0 0) (fun r h5 => r = none ∧ eb_KO h5 ∧ eb_Ct (d + 1) 245 [.ref s_MO, .int x1, .int (-1), .int x2] h5 (fun r h8 => ∃ y9, r = some (.int y9) ∧ eb_KO h8 ∧ Q (some (.int y9)) h8))) ∧ (¬ (0 ≤ x2) → Q (some (.int (-3))) (eb_sI h s_MO 0 0)))) ∧ (¬ ((¬ (x1.toInt64 < 0)) ∧ (¬ ((((eb_I (eb_sI h s_MO 0 0) s_m_all (4 : Int32).toNatClampNeg) - 1).toInt64) < x1.toInt64))) → Q (some (.int (-2))) (eb_sI h s_MO 0 0)))) : eb_Sn (d + 2) m_X11_tiding h0 0 [(0, .ref s_MO), (1, .int x1), (2, .int x2)] [] h Q := by
  refine eb_aload_n (pc := 0) (n := 0) (i := 0) rfl rfl rfl ?_
  refine eb_iconst (pc := 1) (n := 0) (v := 0) rfl rfl ?_
  refine eb_putI (pc := 2) rfl rfl (by decide) (by decide) rfl rfl ⟨rfl, rfl⟩ ?_
  refine eb_aload_n (pc := 5) (n := 0) (i := 0) rfl rfl rfl ?_
  refine eb_iload_n (pc := 6) (n := 1) (i := 1) rfl rfl rfl ?_
  refine eb_joinI (pc2 := 10) (ls2 := [(0, .ref s_MO), (1, .int x1), (2, .int x2)]) (st2 := []) (v := eb_q ((¬ (x1.toInt64 < 0)) ∧ (¬ ((((eb_I (eb_sI h s_MO 0 0) s_m_all (4 : Int32).toNatClampNeg) - 1).toInt64) < x1.toInt64)))) ?_ (fun jj11 => ?_)
  · refine eb_if_ne (pc := 10) (tgt := 16) rfl (by decide) (fun c3 => ?_) (fun c3 => ?_)
    · replace c3 := eb_q1.mp c3
      replace w := w.1 c3
      refine eb_iload_n (pc := 16) (n := 2) (i := 2) rfl rfl rfl ?_
      refine eb_if_ge (pc := 17) (tgt := 23) rfl (by decide) (fun c4 => ?_) (fun c4 => ?_)
      · replace w := w.1 c4
        refine eb_aload_n (pc := 23) (n := 0) (i := 0) rfl rfl rfl ?_
        refine eb_aload_n (pc := 24) (n := 0) (i := 0) rfl rfl rfl ?_
        refine eb_getR (pc := 25) rfl rfl (by decide) (by decide) rfl (ko_s_MO_1 ko) ?_
        refine eb_bipush (pc := 28) (n := 50) (v := 50) rfl rfl ?_
        refine eb_iaload (pc := 30) rfl rfl (by decide) (by unfold vp_in; decide) ?_
        refine eb_ctV (pc := 31) (As := [.int (eb_I (eb_sI h s_MO 0 0) s_m_all (50 : Int32).toNatClampNeg)]) (rest := []) rfl (by decide) rfl rfl (by decide) rfl (Nat.le_of_ble_eq_true rfl) ?_
        refine eb_Ct.mono w ?_
        rintro r h5 ⟨rfl, ko7, w⟩
        change eb_Sn _ _ _ 34 _ [] _ _
        refine eb_aload_n (pc := 34) (n := 0) (i := 0) rfl rfl rfl ?_
        refine eb_iload_n (pc := 35) (n := 1) (i := 1) rfl rfl rfl ?_
        refine eb_iconst (pc := 36) (n := -1) (v := (-1)) rfl rfl ?_
        refine eb_iload_n (pc := 37) (n := 2) (i := 2) rfl rfl rfl ?_
        refine eb_ctV (pc := 38) (As := [.int x1, .int (-1), .int x2]) (rest := []) rfl (by decide) rfl rfl (by decide) rfl (Nat.le_of_ble_eq_true rfl) ?_
        refine eb_Ct.mono w ?_
        rintro r h8 ⟨y9, rfl, ko10, w⟩
        change eb_Sn _ _ _ 41 _ [.int y9] _ _
        exact eb_ireturn (pc := 41) rfl rfl rfl w
      · replace w := w.2 c4
        refine eb_bipush (pc := 20) (n := -3) (v := (-3)) rfl rfl ?_
        exact eb_ireturn (pc := 22) rfl rfl rfl w
    · replace c3 := eb_q0.mp c3
      replace w := w.2 c3
      refine eb_bipush (pc := 13) (n := -2) (v := (-2)) rfl rfl ?_
      exact eb_ireturn (pc := 15) rfl rfl rfl w
  refine eb_ctV (pc := 7) (As := [.int x1]) (rest := []) rfl (by decide) rfl rfl (by decide) rfl (Nat.le_of_ble_eq_true rfl) ?_
  refine eb_bodyQ (by decide) ok_X11_isHouse (Nat.le_of_ble_eq_true rfl) ?_
  change eb_Sn _ m_X11_isHouse _ 0 [(0, .ref s_MO), (1, .int x1)] [] _ _
  refine eb_iload_n (pc := 0) (n := 1) (i := 1) rfl rfl rfl ?_
  refine eb_i2l (pc := 1) rfl ?_
  refine eb_lconst (pc := 2) (n := 0) (v := 0) rfl rfl ?_
  refine eb_aload_n (pc := 3) (n := 0) (i := 0) rfl rfl rfl ?_
  refine eb_getR (pc := 4) rfl rfl (by decide) (by decide) rfl (ko_s_MO_1 ko) ?_
  refine eb_iconst (pc := 7) (n := 4) (v := 4) rfl rfl ?_
  refine eb_iaload (pc := 8) rfl rfl (by decide) (by unfold vp_in; decide) ?_
  refine eb_iconst (pc := 9) (n := 1) (v := 1) rfl rfl ?_
  refine eb_isub (pc := 10) rfl ?_
  refine eb_i2l (pc := 11) rfl ?_
  refine eb_ctS (pc := 12) (As := [.long x1.toInt64, .long 0, .long (((eb_I (eb_sI h s_MO 0 0) s_m_all (4 : Int32).toNatClampNeg) - 1).toInt64)]) (rest := []) rfl (by decide) (by decide) rfl rfl (Nat.le_of_ble_eq_true rfl) ?_
  refine eb_bodyQ (by decide) ok_X11_within (Nat.le_of_ble_eq_true rfl) ?_
  change eb_Sn _ m_X11_within _ 0 [(0, .long x1.toInt64), (2, .long 0), (4, .long (((eb_I (eb_sI h s_MO 0 0) s_m_all (4 : Int32).toNatClampNeg) - 1).toInt64))] [] _ _
  refine eb_lload_n (pc := 0) (n := 0) (i := 0) rfl rfl rfl ?_
  refine eb_lload_n (pc := 1) (n := 2) (i := 2) rfl rfl rfl ?_
  refine eb_lcmp (pc := 2) rfl ?_
  refine eb_if_lt (pc := 3) (tgt := 17) rfl (by decide) (fun c1 => ?_) (fun c1 => ?_)
  · replace c1 := eb_lc_lt.mp c1
    refine eb_iconst (pc := 17) (n := 0) (v := 0) rfl rfl ?_
    refine eb_ireturn (pc := 18) rfl rfl (by decide) ?_
    change eb_Sn _ _ _ 15 _ [.int 0] _ _
    refine eb_ireturn (pc := 15) rfl rfl (by decide) ?_
    change eb_Sn _ _ _ 10 _ _ _ _
    exact jj11 0 (eb_qf (fun z => z.1 c1)).symm
  · replace c1 := (fun hh => mt eb_lc_lt.mpr hh) c1
    refine eb_lload_n (pc := 6) (n := 0) (i := 0) rfl rfl rfl ?_
    refine eb_lload (pc := 7) (i := 4) rfl rfl ?_
    refine eb_lcmp (pc := 9) rfl ?_
    refine eb_if_gt (pc := 10) (tgt := 17) rfl (by decide) (fun c2 => ?_) (fun c2 => ?_)
    · replace c2 := eb_lc_gt.mp c2
      refine eb_iconst (pc := 17) (n := 0) (v := 0) rfl rfl ?_
      refine eb_ireturn (pc := 18) rfl rfl (by decide) ?_
      change eb_Sn _ _ _ 15 _ [.int 0] _ _
      refine eb_ireturn (pc := 15) rfl rfl (by decide) ?_
      change eb_Sn _ _ _ 10 _ _ _ _
      exact jj11 0 (eb_qf (fun z => (fun z => z c2) z.2)).symm
    · replace c2 := (fun hh => mt eb_lc_gt.mpr hh) c2
      refine eb_iconst (pc := 13) (n := 1) (v := 1) rfl rfl ?_
      refine eb_goto (pc := 14) (tgt := 18) rfl (by decide) ?_
      refine eb_ireturn (pc := 18) rfl rfl (by decide) ?_
      change eb_Sn _ _ _ 15 _ [.int 1] _ _
      refine eb_ireturn (pc := 15) rfl rfl (by decide) ?_
      change eb_Sn _ _ _ 10 _ _ _ _
      exact jj11 1 (eb_qt (⟨c1, c2⟩)).symm
theorem T_X11_tiding {d : Nat} {h : eb_H} {Q : Option Value → eb_H → Prop} (x1 : Int32) (x2 : Int32)  (ko : eb_KO h) (w : (((¬ (x1.toInt64 < 0)) ∧ (¬ ((((eb_I (eb_sI h s_MO 0 0) s_m_all (4 : Int32).toNatClampNeg) - 1).toInt64) < x1.toInt64)) → ((0 ≤ x2 → eb_Ct (d + 1) 229 [.ref s_MO, .int (eb_I (eb_sI h s_MO 0 0) s_m_all (50 : Int32).toNatClampNeg)] (eb_sI h s_MO 0 0) (fun r h5 => r = none ∧ eb_KO h5 ∧ eb_Ct (d + 1) 245 [.ref s_MO, .int x1, .int (-1), .int x2] h5 (fun r h8 => ∃ y9, r = some (.int y9) ∧ eb_KO h8 ∧ Q (some (.int y9)) h8))) ∧ (¬ (0 ≤ x2) → Q (some (.int (-3))) (eb_sI h s_MO 0 0)))) ∧ (¬ ((¬ (x1.toInt64 < 0)) ∧ (¬ ((((eb_I (eb_sI h s_MO 0 0) s_m_all (4 : Int32).toNatClampNeg) - 1).toInt64) < x1.toInt64))) → Q (some (.int (-2))) (eb_sI h s_MO 0 0)))) : eb_Ct (d + 2) 247 [.ref s_MO, .int x1, .int x2] h Q :=
  eb_bodyQ (by decide) ok_X11_tiding (Nat.le_of_ble_eq_true rfl) (b_X11_tiding_0 (h0 := h) x1 x2  ko w)
theorem b_X11_secret_0 {d : Nat} {h0 h : eb_H} {Q : Option Value → eb_H → Prop} (x1 : Int32) (x2 : Int32)  (ko : eb_KO h) (w : ((¬ ((¬ (x1.toInt64 < 0)) ∧ (¬ ((((eb_I (eb_sI h s_MO 0 0) s_m_all (4 : Int32).toNatClampNeg) - 1).toInt64) < x1.toInt64))) → Q (some (.int (-2))) (eb_sI h s_MO 0 0)) ∧ ((¬ (x1.toInt64 < 0)) ∧ (¬ ((((eb_I (eb_sI h s_MO 0 0) s_m_all (4 : Int32).toNatClampNeg) - 1).toInt64) < x1.toInt64)) → (((¬ (x2.toInt64 < 0)) ∧ (¬ ((((eb_I (eb_sI h s_MO 0 0) s_m_all (4 : Int32).toNatClampNeg) - 1).toInt64) < x2.toInt64)) → eb_Ct (d + 1) 229 [.ref s_MO, .int (eb_I (eb_sI h s_MO 0 0) s_m_all (50 : Int32).toNatClampNeg)] (eb_sI h s_MO 0 0) (fun r h7 => r = none ∧ eb_KO h7 ∧ eb_Ct (d + 1) 245 [.ref s_MO, .int x1, .int x2, .int (-1)] h7 (fun r h10 => ∃ y11, r = some (.int y11) ∧ eb_KO h10 ∧ Q (some (.int y11)) h10))) ∧ (¬ ((¬ (x2.toInt64 < 0)) ∧ (¬ ((((eb_I (eb_sI h s_MO 0 0) s_m_all (4 : Int32).toNatClampNeg) - 1).toInt64) < x2.toInt64))) → Q (some (.int (-2))) (eb_sI h s_MO 0 0)))))) : eb_Sn (d + 2) m_X11_secret h0 0 [(0, .ref s_MO), (1, .int x1), (2, .int x2)] [] h Q := by
  refine eb_aload_n (pc := 0) (n := 0) (i := 0) rfl rfl rfl ?_
  refine eb_iconst (pc := 1) (n := 0) (v := 0) rfl rfl ?_
  refine eb_putI (pc := 2) rfl rfl (by decide) (by decide) rfl rfl ⟨rfl, rfl⟩ ?_
  refine eb_aload_n (pc := 5) (n := 0) (i := 0) rfl rfl rfl ?_
  refine eb_iload_n (pc := 6) (n := 1) (i := 1) rfl rfl rfl ?_
  refine eb_joinI (pc2 := 10) (ls2 := [(0, .ref s_MO), (1, .int x1), (2, .int x2)]) (st2 := []) (v := eb_q ((¬ (x1.toInt64 < 0)) ∧ (¬ ((((eb_I (eb_sI h s_MO 0 0) s_m_all (4 : Int32).toNatClampNeg) - 1).toInt64) < x1.toInt64)))) ?_ (fun jj15 => ?_)
  · refine eb_if_eq (pc := 10) (tgt := 21) rfl (by decide) (fun c3 => ?_) (fun c3 => ?_)
    · replace c3 := eb_q0.mp c3
      replace w := w.1 c3
      refine eb_bipush (pc := 21) (n := -2) (v := (-2)) rfl rfl ?_
      exact eb_ireturn (pc := 23) rfl rfl rfl w
    · replace c3 := eb_q1.mp c3
      replace w := w.2 c3
      refine eb_aload_n (pc := 13) (n := 0) (i := 0) rfl rfl rfl ?_
      refine eb_iload_n (pc := 14) (n := 2) (i := 2) rfl rfl rfl ?_
      refine eb_joinI (pc2 := 18) (ls2 := [(0, .ref s_MO), (1, .int x1), (2, .int x2)]) (st2 := []) (v := eb_q ((¬ (x2.toInt64 < 0)) ∧ (¬ ((((eb_I (eb_sI h s_MO 0 0) s_m_all (4 : Int32).toNatClampNeg) - 1).toInt64) < x2.toInt64)))) ?_ (fun jj13 => ?_)
      · refine eb_if_ne (pc := 18) (tgt := 24) rfl (by decide) (fun c6 => ?_) (fun c6 => ?_)
        · replace c6 := eb_q1.mp c6
          replace w := w.1 c6
          refine eb_aload_n (pc := 24) (n := 0) (i := 0) rfl rfl rfl ?_
          refine eb_aload_n (pc := 25) (n := 0) (i := 0) rfl rfl rfl ?_
          refine eb_getR (pc := 26) rfl rfl (by decide) (by decide) rfl (ko_s_MO_1 ko) ?_
          refine eb_bipush (pc := 29) (n := 50) (v := 50) rfl rfl ?_
          refine eb_iaload (pc := 31) rfl rfl (by decide) (by unfold vp_in; decide) ?_
          refine eb_ctV (pc := 32) (As := [.int (eb_I (eb_sI h s_MO 0 0) s_m_all (50 : Int32).toNatClampNeg)]) (rest := []) rfl (by decide) rfl rfl (by decide) rfl (Nat.le_of_ble_eq_true rfl) ?_
          refine eb_Ct.mono w ?_
          rintro r h7 ⟨rfl, ko9, w⟩
          change eb_Sn _ _ _ 35 _ [] _ _
          refine eb_aload_n (pc := 35) (n := 0) (i := 0) rfl rfl rfl ?_
          refine eb_iload_n (pc := 36) (n := 1) (i := 1) rfl rfl rfl ?_
          refine eb_iload_n (pc := 37) (n := 2) (i := 2) rfl rfl rfl ?_
          refine eb_iconst (pc := 38) (n := -1) (v := (-1)) rfl rfl ?_
          refine eb_ctV (pc := 39) (As := [.int x1, .int x2, .int (-1)]) (rest := []) rfl (by decide) rfl rfl (by decide) rfl (Nat.le_of_ble_eq_true rfl) ?_
          refine eb_Ct.mono w ?_
          rintro r h10 ⟨y11, rfl, ko12, w⟩
          change eb_Sn _ _ _ 42 _ [.int y11] _ _
          exact eb_ireturn (pc := 42) rfl rfl rfl w
        · replace c6 := eb_q0.mp c6
          replace w := w.2 c6
          refine eb_bipush (pc := 21) (n := -2) (v := (-2)) rfl rfl ?_
          exact eb_ireturn (pc := 23) rfl rfl rfl w
      refine eb_ctV (pc := 15) (As := [.int x2]) (rest := []) rfl (by decide) rfl rfl (by decide) rfl (Nat.le_of_ble_eq_true rfl) ?_
      refine eb_bodyQ (by decide) ok_X11_isHouse (Nat.le_of_ble_eq_true rfl) ?_
      change eb_Sn _ m_X11_isHouse _ 0 [(0, .ref s_MO), (1, .int x2)] [] _ _
      refine eb_iload_n (pc := 0) (n := 1) (i := 1) rfl rfl rfl ?_
      refine eb_i2l (pc := 1) rfl ?_
      refine eb_lconst (pc := 2) (n := 0) (v := 0) rfl rfl ?_
      refine eb_aload_n (pc := 3) (n := 0) (i := 0) rfl rfl rfl ?_
      refine eb_getR (pc := 4) rfl rfl (by decide) (by decide) rfl (ko_s_MO_1 ko) ?_
      refine eb_iconst (pc := 7) (n := 4) (v := 4) rfl rfl ?_
      refine eb_iaload (pc := 8) rfl rfl (by decide) (by unfold vp_in; decide) ?_
      refine eb_iconst (pc := 9) (n := 1) (v := 1) rfl rfl ?_
      refine eb_isub (pc := 10) rfl ?_
      refine eb_i2l (pc := 11) rfl ?_
      refine eb_ctS (pc := 12) (As := [.long x2.toInt64, .long 0, .long (((eb_I (eb_sI h s_MO 0 0) s_m_all (4 : Int32).toNatClampNeg) - 1).toInt64)]) (rest := []) rfl (by decide) (by decide) rfl rfl (Nat.le_of_ble_eq_true rfl) ?_
      refine eb_bodyQ (by decide) ok_X11_within (Nat.le_of_ble_eq_true rfl) ?_
      change eb_Sn _ m_X11_within _ 0 [(0, .long x2.toInt64), (2, .long 0), (4, .long (((eb_I (eb_sI h s_MO 0 0) s_m_all (4 : Int32).toNatClampNeg) - 1).toInt64))] [] _ _
      refine eb_lload_n (pc := 0) (n := 0) (i := 0) rfl rfl rfl ?_
      refine eb_lload_n (pc := 1) (n := 2) (i := 2) rfl rfl rfl ?_
      refine eb_lcmp (pc := 2) rfl ?_
      refine eb_if_lt (pc := 3) (tgt := 17) rfl (by decide) (fun c4 => ?_) (fun c4 => ?_)
      · replace c4 := eb_lc_lt.mp c4
        refine eb_iconst (pc := 17) (n := 0) (v := 0) rfl rfl ?_
        refine eb_ireturn (pc := 18) rfl rfl (by decide) ?_
        change eb_Sn _ _ _ 15 _ [.int 0] _ _
        refine eb_ireturn (pc := 15) rfl rfl (by decide) ?_
        change eb_Sn _ _ _ 18 _ _ _ _
        exact jj13 0 (eb_qf (fun z => z.1 c4)).symm
      · replace c4 := (fun hh => mt eb_lc_lt.mpr hh) c4
        refine eb_lload_n (pc := 6) (n := 0) (i := 0) rfl rfl rfl ?_
        refine eb_lload (pc := 7) (i := 4) rfl rfl ?_
        refine eb_lcmp (pc := 9) rfl ?_
        refine eb_if_gt (pc := 10) (tgt := 17) rfl (by decide) (fun c5 => ?_) (fun c5 => ?_)
        · replace c5 := eb_lc_gt.mp c5
          refine eb_iconst (pc := 17) (n := 0) (v := 0) rfl rfl ?_
          refine eb_ireturn (pc := 18) rfl rfl (by decide) ?_
          change eb_Sn _ _ _ 15 _ [.int 0] _ _
          refine eb_ireturn (pc := 15) rfl rfl (by decide) ?_
          change eb_Sn _ _ _ 18 _ _ _ _
          exact jj13 0 (eb_qf (fun z => (fun z => z c5) z.2)).symm
        · replace c5 := (fun hh => mt eb_lc_gt.mpr hh) c5
          refine eb_iconst (pc := 13) (n := 1) (v := 1) rfl rfl ?_
          refine eb_goto (pc := 14) (tgt := 18) rfl (by decide) ?_
          refine eb_ireturn (pc := 18) rfl rfl (by decide) ?_
          change eb_Sn _ _ _ 15 _ [.int 1] _ _
          refine eb_ireturn (pc := 15) rfl rfl (by decide) ?_
          change eb_Sn _ _ _ 18 _ _ _ _
          exact jj13 1 (eb_qt (⟨c4, c5⟩)).symm
  refine eb_ctV (pc := 7) (As := [.int x1]) (rest := []) rfl (by decide) rfl rfl (by decide) rfl (Nat.le_of_ble_eq_true rfl) ?_
  refine eb_bodyQ (by decide) ok_X11_isHouse (Nat.le_of_ble_eq_true rfl) ?_
  change eb_Sn _ m_X11_isHouse _ 0 [(0, .ref s_MO), (1, .int x1)] [] _ _
  refine eb_iload_n (pc := 0) (n := 1) (i := 1) rfl rfl rfl ?_
  refine eb_i2l (pc := 1) rfl ?_
  refine eb_lconst (pc := 2) (n := 0) (v := 0) rfl rfl ?_
  refine eb_aload_n (pc := 3) (n := 0) (i := 0) rfl rfl rfl ?_
  refine eb_getR (pc := 4) rfl rfl (by decide) (by decide) rfl (ko_s_MO_1 ko) ?_
  refine eb_iconst (pc := 7) (n := 4) (v := 4) rfl rfl ?_
  refine eb_iaload (pc := 8) rfl rfl (by decide) (by unfold vp_in; decide) ?_
  refine eb_iconst (pc := 9) (n := 1) (v := 1) rfl rfl ?_
  refine eb_isub (pc := 10) rfl ?_
  refine eb_i2l (pc := 11) rfl ?_
  refine eb_ctS (pc := 12) (As := [.long x1.toInt64, .long 0, .long (((eb_I (eb_sI h s_MO 0 0) s_m_all (4 : Int32).toNatClampNeg) - 1).toInt64)]) (rest := []) rfl (by decide) (by decide) rfl rfl (Nat.le_of_ble_eq_true rfl) ?_
  refine eb_bodyQ (by decide) ok_X11_within (Nat.le_of_ble_eq_true rfl) ?_
  change eb_Sn _ m_X11_within _ 0 [(0, .long x1.toInt64), (2, .long 0), (4, .long (((eb_I (eb_sI h s_MO 0 0) s_m_all (4 : Int32).toNatClampNeg) - 1).toInt64))] [] _ _
  refine eb_lload_n (pc := 0) (n := 0) (i := 0) rfl rfl rfl ?_
  refine eb_lload_n (pc := 1) (n := 2) (i := 2) rfl rfl rfl ?_
  refine eb_lcmp (pc := 2) rfl ?_
  refine eb_if_lt (pc := 3) (tgt := 17) rfl (by decide) (fun c1 => ?_) (fun c1 => ?_)
  · replace c1 := eb_lc_lt.mp c1
    refine eb_iconst (pc := 17) (n := 0) (v := 0) rfl rfl ?_
    refine eb_ireturn (pc := 18) rfl rfl (by decide) ?_
    change eb_Sn _ _ _ 15 _ [.int 0] _ _
    refine eb_ireturn (pc := 15) rfl rfl (by decide) ?_
    change eb_Sn _ _ _ 10 _ _ _ _
    exact jj15 0 (eb_qf (fun z => z.1 c1)).symm
  · replace c1 := (fun hh => mt eb_lc_lt.mpr hh) c1
    refine eb_lload_n (pc := 6) (n := 0) (i := 0) rfl rfl rfl ?_
    refine eb_lload (pc := 7) (i := 4) rfl rfl ?_
    refine eb_lcmp (pc := 9) rfl ?_
    refine eb_if_gt (pc := 10) (tgt := 17) rfl (by decide) (fun c2 => ?_) (fun c2 => ?_)
    · replace c2 := eb_lc_gt.mp c2
      refine eb_iconst (pc := 17) (n := 0) (v := 0) rfl rfl ?_
      refine eb_ireturn (pc := 18) rfl rfl (by decide) ?_
      change eb_Sn _ _ _ 15 _ [.int 0] _ _
      refine eb_ireturn (pc := 15) rfl rfl (by decide) ?_
      change eb_Sn _ _ _ 10 _ _ _ _
      exact jj15 0 (eb_qf (fun z => (fun z => z c2) z.2)).symm
    · replace c2 := (fun hh => mt eb_lc_gt.mpr hh) c2
      refine eb_iconst (pc := 13) (n := 1) (v := 1) rfl rfl ?_
      refine eb_goto (pc := 14) (tgt := 18) rfl (by decide) ?_
      refine eb_ireturn (pc := 18) rfl rfl (by decide) ?_
      change eb_Sn _ _ _ 15 _ [.int 1] _ _
      refine eb_ireturn (pc := 15) rfl rfl (by decide) ?_
      change eb_Sn _ _ _ 10 _ _ _ _
      exact jj15 1 (eb_qt (⟨c1, c2⟩)).symm
theorem T_X11_secret {d : Nat} {h : eb_H} {Q : Option Value → eb_H → Prop} (x1 : Int32) (x2 : Int32)  (ko : eb_KO h) (w : ((¬ ((¬ (x1.toInt64 < 0)) ∧ (¬ ((((eb_I (eb_sI h s_MO 0 0) s_m_all (4 : Int32).toNatClampNeg) - 1).toInt64) < x1.toInt64))) → Q (some (.int (-2))) (eb_sI h s_MO 0 0)) ∧ ((¬ (x1.toInt64 < 0)) ∧ (¬ ((((eb_I (eb_sI h s_MO 0 0) s_m_all (4 : Int32).toNatClampNeg) - 1).toInt64) < x1.toInt64)) → (((¬ (x2.toInt64 < 0)) ∧ (¬ ((((eb_I (eb_sI h s_MO 0 0) s_m_all (4 : Int32).toNatClampNeg) - 1).toInt64) < x2.toInt64)) → eb_Ct (d + 1) 229 [.ref s_MO, .int (eb_I (eb_sI h s_MO 0 0) s_m_all (50 : Int32).toNatClampNeg)] (eb_sI h s_MO 0 0) (fun r h7 => r = none ∧ eb_KO h7 ∧ eb_Ct (d + 1) 245 [.ref s_MO, .int x1, .int x2, .int (-1)] h7 (fun r h10 => ∃ y11, r = some (.int y11) ∧ eb_KO h10 ∧ Q (some (.int y11)) h10))) ∧ (¬ ((¬ (x2.toInt64 < 0)) ∧ (¬ ((((eb_I (eb_sI h s_MO 0 0) s_m_all (4 : Int32).toNatClampNeg) - 1).toInt64) < x2.toInt64))) → Q (some (.int (-2))) (eb_sI h s_MO 0 0)))))) : eb_Ct (d + 2) 248 [.ref s_MO, .int x1, .int x2] h Q :=
  eb_bodyQ (by decide) ok_X11_secret (Nat.le_of_ble_eq_true rfl) (b_X11_secret_0 (h0 := h) x1 x2  ko w)
theorem b_X11_noCame_0 {d : Nat} {h0 h : eb_H} {Q : Option Value → eb_H → Prop} (x1 : Int32) (x2 : Int32) (x3 : Int32)  (ko : eb_KO h) (w : Q (some (.int (if (¬ (x2.toInt64 < 0)) ∧ (¬ (((((eb_I h s_m_all (1 : Int32).toNatClampNeg) * (eb_I h s_m_all (2 : Int32).toNatClampNeg)) - 1).toInt64) < x2.toInt64)) then (if x1.toInt64 < 0 then (-3) else (if 10 < x1.toInt64 then (-3) else (if x3.toInt64 < 0 then (-3) else (if 63 < x3.toInt64 then (-3) else 0)))) else (-2) : Int32))) h) : eb_Sn (d + 2) m_X11_noCame h0 0 [(0, .ref s_MO), (1, .int x1), (2, .int x2), (3, .int x3)] [] h Q := by
  refine eb_aload_n (pc := 0) (n := 0) (i := 0) rfl rfl rfl ?_
  refine eb_iload_n (pc := 1) (n := 2) (i := 2) rfl rfl rfl ?_
  refine eb_i2l (pc := 2) rfl ?_
  refine eb_joinI (pc2 := 6) (ls2 := [(0, .ref s_MO), (1, .int x1), (2, .int x2), (3, .int x3)]) (st2 := []) (v := eb_q ((¬ (x2.toInt64 < 0)) ∧ (¬ (((((eb_I h s_m_all (1 : Int32).toNatClampNeg) * (eb_I h s_m_all (2 : Int32).toNatClampNeg)) - 1).toInt64) < x2.toInt64)))) ?_ (fun jj10 => ?_)
  · refine eb_joinI (pc2 := 39) (ls2 := [(0, .ref s_MO), (1, .int x1), (2, .int x2), (3, .int x3)]) (st2 := []) (v := (if (¬ (x2.toInt64 < 0)) ∧ (¬ (((((eb_I h s_m_all (1 : Int32).toNatClampNeg) * (eb_I h s_m_all (2 : Int32).toNatClampNeg)) - 1).toInt64) < x2.toInt64)) then (if x1.toInt64 < 0 then (-3) else (if 10 < x1.toInt64 then (-3) else (if x3.toInt64 < 0 then (-3) else (if 63 < x3.toInt64 then (-3) else 0)))) else (-2) : Int32)) ?_ (fun jj8 => ?_)
    · exact eb_ireturn (pc := 39) rfl rfl rfl w
    refine eb_if_ne (pc := 6) (tgt := 14) rfl (by decide) (fun c3 => ?_) (fun c3 => ?_)
    · replace c3 := eb_q1.mp c3
      refine eb_iload_n (pc := 14) (n := 1) (i := 1) rfl rfl rfl ?_
      refine eb_i2l (pc := 15) rfl ?_
      refine eb_lconst (pc := 16) (n := 0) (v := 0) rfl rfl ?_
      refine eb_ldc2 (pc := 17) (a := 10) (v := 10) rfl (by decide) ?_
      refine eb_ctS (pc := 20) (As := [.long x1.toInt64, .long 0, .long 10]) (rest := []) rfl (by decide) (by decide) rfl rfl (Nat.le_of_ble_eq_true rfl) ?_
      refine eb_bodyQ (by decide) ok_X11_within (Nat.le_of_ble_eq_true rfl) ?_
      change eb_Sn _ m_X11_within _ 0 [(0, .long x1.toInt64), (2, .long 0), (4, .long 10)] [] _ _
      refine eb_lload_n (pc := 0) (n := 0) (i := 0) rfl rfl rfl ?_
      refine eb_lload_n (pc := 1) (n := 2) (i := 2) rfl rfl rfl ?_
      refine eb_lcmp (pc := 2) rfl ?_
      refine eb_if_lt (pc := 3) (tgt := 17) rfl (by decide) (fun c4 => ?_) (fun c4 => ?_)
      · replace c4 := eb_lc_lt.mp c4
        refine eb_iconst (pc := 17) (n := 0) (v := 0) rfl rfl ?_
        refine eb_ireturn (pc := 18) rfl rfl (by decide) ?_
        change eb_Sn _ _ _ 23 _ [.int 0] _ _
        refine eb_if_eq (pc := 23) (tgt := 37) rfl (by decide) (fun c => ?_) (fun c => absurd c (by decide))
        refine eb_bipush (pc := 37) (n := -3) (v := (-3)) rfl rfl ?_
        exact jj8 _ (by simp only [if_pos c3, if_pos c4])
      · replace c4 := (fun hh => mt eb_lc_lt.mpr hh) c4
        refine eb_lload_n (pc := 6) (n := 0) (i := 0) rfl rfl rfl ?_
        refine eb_lload (pc := 7) (i := 4) rfl rfl ?_
        refine eb_lcmp (pc := 9) rfl ?_
        refine eb_if_gt (pc := 10) (tgt := 17) rfl (by decide) (fun c5 => ?_) (fun c5 => ?_)
        · replace c5 := eb_lc_gt.mp c5
          refine eb_iconst (pc := 17) (n := 0) (v := 0) rfl rfl ?_
          refine eb_ireturn (pc := 18) rfl rfl (by decide) ?_
          change eb_Sn _ _ _ 23 _ [.int 0] _ _
          refine eb_if_eq (pc := 23) (tgt := 37) rfl (by decide) (fun c => ?_) (fun c => absurd c (by decide))
          refine eb_bipush (pc := 37) (n := -3) (v := (-3)) rfl rfl ?_
          exact jj8 _ (by simp only [if_pos c3, if_neg c4, if_pos c5])
        · replace c5 := (fun hh => mt eb_lc_gt.mpr hh) c5
          refine eb_iconst (pc := 13) (n := 1) (v := 1) rfl rfl ?_
          refine eb_goto (pc := 14) (tgt := 18) rfl (by decide) ?_
          refine eb_ireturn (pc := 18) rfl rfl (by decide) ?_
          change eb_Sn _ _ _ 23 _ [.int 1] _ _
          refine eb_if_eq (pc := 23) (tgt := 37) rfl (by decide) (fun c => absurd c (by decide)) (fun c => ?_)
          refine eb_iload_n (pc := 26) (n := 3) (i := 3) rfl rfl rfl ?_
          refine eb_ctS (pc := 27) (As := [.int x3]) (rest := []) rfl (by decide) (by decide) rfl rfl (Nat.le_of_ble_eq_true rfl) ?_
          refine eb_bodyQ (by decide) ok_X11_isEchoes (Nat.le_of_ble_eq_true rfl) ?_
          change eb_Sn _ m_X11_isEchoes _ 0 [(0, .int x3)] [] _ _
          refine eb_iload_n (pc := 0) (n := 0) (i := 0) rfl rfl rfl ?_
          refine eb_i2l (pc := 1) rfl ?_
          refine eb_lconst (pc := 2) (n := 0) (v := 0) rfl rfl ?_
          refine eb_ldc2 (pc := 3) (a := 63) (v := 63) rfl (by decide) ?_
          refine eb_ctS (pc := 6) (As := [.long x3.toInt64, .long 0, .long 63]) (rest := []) rfl (by decide) (by decide) rfl rfl (Nat.le_of_ble_eq_true rfl) ?_
          refine eb_bodyQ (by decide) ok_X11_within (Nat.le_of_ble_eq_true rfl) ?_
          change eb_Sn _ m_X11_within _ 0 [(0, .long x3.toInt64), (2, .long 0), (4, .long 63)] [] _ _
          refine eb_lload_n (pc := 0) (n := 0) (i := 0) rfl rfl rfl ?_
          refine eb_lload_n (pc := 1) (n := 2) (i := 2) rfl rfl rfl ?_
          refine eb_lcmp (pc := 2) rfl ?_
          refine eb_if_lt (pc := 3) (tgt := 17) rfl (by decide) (fun c6 => ?_) (fun c6 => ?_)
          · replace c6 := eb_lc_lt.mp c6
            refine eb_iconst (pc := 17) (n := 0) (v := 0) rfl rfl ?_
            refine eb_ireturn (pc := 18) rfl rfl (by decide) ?_
            change eb_Sn _ _ _ 9 _ [.int 0] _ _
            refine eb_ireturn (pc := 9) rfl rfl (by decide) ?_
            change eb_Sn _ _ _ 30 _ [.int 0] _ _
            refine eb_if_eq (pc := 30) (tgt := 37) rfl (by decide) (fun c => ?_) (fun c => absurd c (by decide))
            refine eb_bipush (pc := 37) (n := -3) (v := (-3)) rfl rfl ?_
            exact jj8 _ (by simp only [if_pos c3, if_neg c4, if_neg c5, if_pos c6])
          · replace c6 := (fun hh => mt eb_lc_lt.mpr hh) c6
            refine eb_lload_n (pc := 6) (n := 0) (i := 0) rfl rfl rfl ?_
            refine eb_lload (pc := 7) (i := 4) rfl rfl ?_
            refine eb_lcmp (pc := 9) rfl ?_
            refine eb_if_gt (pc := 10) (tgt := 17) rfl (by decide) (fun c7 => ?_) (fun c7 => ?_)
            · replace c7 := eb_lc_gt.mp c7
              refine eb_iconst (pc := 17) (n := 0) (v := 0) rfl rfl ?_
              refine eb_ireturn (pc := 18) rfl rfl (by decide) ?_
              change eb_Sn _ _ _ 9 _ [.int 0] _ _
              refine eb_ireturn (pc := 9) rfl rfl (by decide) ?_
              change eb_Sn _ _ _ 30 _ [.int 0] _ _
              refine eb_if_eq (pc := 30) (tgt := 37) rfl (by decide) (fun c => ?_) (fun c => absurd c (by decide))
              refine eb_bipush (pc := 37) (n := -3) (v := (-3)) rfl rfl ?_
              exact jj8 _ (by simp only [if_pos c3, if_neg c4, if_neg c5, if_neg c6, if_pos c7])
            · replace c7 := (fun hh => mt eb_lc_gt.mpr hh) c7
              refine eb_iconst (pc := 13) (n := 1) (v := 1) rfl rfl ?_
              refine eb_goto (pc := 14) (tgt := 18) rfl (by decide) ?_
              refine eb_ireturn (pc := 18) rfl rfl (by decide) ?_
              change eb_Sn _ _ _ 9 _ [.int 1] _ _
              refine eb_ireturn (pc := 9) rfl rfl (by decide) ?_
              change eb_Sn _ _ _ 30 _ [.int 1] _ _
              refine eb_if_eq (pc := 30) (tgt := 37) rfl (by decide) (fun c => absurd c (by decide)) (fun c => ?_)
              refine eb_iconst (pc := 33) (n := 0) (v := 0) rfl rfl ?_
              refine eb_goto (pc := 34) (tgt := 39) rfl (by decide) ?_
              exact jj8 _ (by simp only [if_pos c3, if_neg c4, if_neg c5, if_neg c6, if_neg c7])
    · replace c3 := eb_q0.mp c3
      refine eb_bipush (pc := 9) (n := -2) (v := (-2)) rfl rfl ?_
      refine eb_goto (pc := 11) (tgt := 39) rfl (by decide) ?_
      exact jj8 _ (by simp only [if_neg c3])
  refine eb_ctV (pc := 3) (As := [.long x2.toInt64]) (rest := []) rfl (by decide) rfl rfl (by decide) rfl (Nat.le_of_ble_eq_true rfl) ?_
  refine eb_bodyQ (by decide) ok_X11_isCell (Nat.le_of_ble_eq_true rfl) ?_
  change eb_Sn _ m_X11_isCell _ 0 [(0, .ref s_MO), (1, .long x2.toInt64)] [] _ _
  refine eb_lload_n (pc := 0) (n := 1) (i := 1) rfl rfl rfl ?_
  refine eb_lconst (pc := 1) (n := 0) (v := 0) rfl rfl ?_
  refine eb_aload_n (pc := 2) (n := 0) (i := 0) rfl rfl rfl ?_
  refine eb_ctV (pc := 3) (As := []) (rest := [.long 0, .long x2.toInt64]) rfl (by decide) rfl rfl (by decide) rfl (Nat.le_of_ble_eq_true rfl) ?_
  refine eb_bodyQ (by decide) ok_X11_cells (Nat.le_of_ble_eq_true rfl) ?_
  change eb_Sn _ m_X11_cells _ 0 [(0, .ref s_MO)] [] _ _
  refine eb_aload_n (pc := 0) (n := 0) (i := 0) rfl rfl rfl ?_
  refine eb_getR (pc := 1) rfl rfl (by decide) (by decide) rfl (ko_s_MO_1 ko) ?_
  refine eb_iconst (pc := 4) (n := 1) (v := 1) rfl rfl ?_
  refine eb_iaload (pc := 5) rfl rfl (by decide) (by unfold vp_in; decide) ?_
  refine eb_aload_n (pc := 6) (n := 0) (i := 0) rfl rfl rfl ?_
  refine eb_getR (pc := 7) rfl rfl (by decide) (by decide) rfl (ko_s_MO_1 ko) ?_
  refine eb_iconst (pc := 10) (n := 2) (v := 2) rfl rfl ?_
  refine eb_iaload (pc := 11) rfl rfl (by decide) (by unfold vp_in; decide) ?_
  refine eb_imul (pc := 12) rfl ?_
  refine eb_ireturn (pc := 13) rfl rfl rfl ?_
  change eb_Sn _ _ _ 6 _ [.int ((eb_I h s_m_all (1 : Int32).toNatClampNeg) * (eb_I h s_m_all (2 : Int32).toNatClampNeg)), .long 0, .long x2.toInt64] _ _
  refine eb_iconst (pc := 6) (n := 1) (v := 1) rfl rfl ?_
  refine eb_isub (pc := 7) rfl ?_
  refine eb_i2l (pc := 8) rfl ?_
  refine eb_ctS (pc := 9) (As := [.long x2.toInt64, .long 0, .long ((((eb_I h s_m_all (1 : Int32).toNatClampNeg) * (eb_I h s_m_all (2 : Int32).toNatClampNeg)) - 1).toInt64)]) (rest := []) rfl (by decide) (by decide) rfl rfl (Nat.le_of_ble_eq_true rfl) ?_
  refine eb_bodyQ (by decide) ok_X11_within (Nat.le_of_ble_eq_true rfl) ?_
  change eb_Sn _ m_X11_within _ 0 [(0, .long x2.toInt64), (2, .long 0), (4, .long ((((eb_I h s_m_all (1 : Int32).toNatClampNeg) * (eb_I h s_m_all (2 : Int32).toNatClampNeg)) - 1).toInt64))] [] _ _
  refine eb_lload_n (pc := 0) (n := 0) (i := 0) rfl rfl rfl ?_
  refine eb_lload_n (pc := 1) (n := 2) (i := 2) rfl rfl rfl ?_
  refine eb_lcmp (pc := 2) rfl ?_
  refine eb_if_lt (pc := 3) (tgt := 17) rfl (by decide) (fun c1 => ?_) (fun c1 => ?_)
  · replace c1 := eb_lc_lt.mp c1
    refine eb_iconst (pc := 17) (n := 0) (v := 0) rfl rfl ?_
    refine eb_ireturn (pc := 18) rfl rfl (by decide) ?_
    change eb_Sn _ _ _ 12 _ [.int 0] _ _
    refine eb_ireturn (pc := 12) rfl rfl (by decide) ?_
    change eb_Sn _ _ _ 6 _ _ _ _
    exact jj10 0 (eb_qf (fun z => z.1 c1)).symm
  · replace c1 := (fun hh => mt eb_lc_lt.mpr hh) c1
    refine eb_lload_n (pc := 6) (n := 0) (i := 0) rfl rfl rfl ?_
    refine eb_lload (pc := 7) (i := 4) rfl rfl ?_
    refine eb_lcmp (pc := 9) rfl ?_
    refine eb_if_gt (pc := 10) (tgt := 17) rfl (by decide) (fun c2 => ?_) (fun c2 => ?_)
    · replace c2 := eb_lc_gt.mp c2
      refine eb_iconst (pc := 17) (n := 0) (v := 0) rfl rfl ?_
      refine eb_ireturn (pc := 18) rfl rfl (by decide) ?_
      change eb_Sn _ _ _ 12 _ [.int 0] _ _
      refine eb_ireturn (pc := 12) rfl rfl (by decide) ?_
      change eb_Sn _ _ _ 6 _ _ _ _
      exact jj10 0 (eb_qf (fun z => (fun z => z c2) z.2)).symm
    · replace c2 := (fun hh => mt eb_lc_gt.mpr hh) c2
      refine eb_iconst (pc := 13) (n := 1) (v := 1) rfl rfl ?_
      refine eb_goto (pc := 14) (tgt := 18) rfl (by decide) ?_
      refine eb_ireturn (pc := 18) rfl rfl (by decide) ?_
      change eb_Sn _ _ _ 12 _ [.int 1] _ _
      refine eb_ireturn (pc := 12) rfl rfl (by decide) ?_
      change eb_Sn _ _ _ 6 _ _ _ _
      exact jj10 1 (eb_qt (⟨c1, c2⟩)).symm
theorem T_X11_noCame {d : Nat} {h : eb_H} {Q : Option Value → eb_H → Prop} (x1 : Int32) (x2 : Int32) (x3 : Int32)  (ko : eb_KO h) (w : Q (some (.int (if (¬ (x2.toInt64 < 0)) ∧ (¬ (((((eb_I h s_m_all (1 : Int32).toNatClampNeg) * (eb_I h s_m_all (2 : Int32).toNatClampNeg)) - 1).toInt64) < x2.toInt64)) then (if x1.toInt64 < 0 then (-3) else (if 10 < x1.toInt64 then (-3) else (if x3.toInt64 < 0 then (-3) else (if 63 < x3.toInt64 then (-3) else 0)))) else (-2) : Int32))) h) : eb_Ct (d + 2) 249 [.ref s_MO, .int x1, .int x2, .int x3] h Q :=
  eb_bodyQ (by decide) ok_X11_noCame (Nat.le_of_ble_eq_true rfl) (b_X11_noCame_0 (h0 := h) x1 x2 x3  ko w)
theorem b_X11_laysCame_0 {d : Nat} {h0 h : eb_H} {Q : Option Value → eb_H → Prop} (x1 : Int32) (x2 : Int32) (x3 : Int32) (x4 : Int32)  (ko : eb_KO h) (w : eb_Ct (d + 1) 227 [.ref s_MO, .int (eb_I h s_m_all (50 : Int32).toNatClampNeg)] h (fun r h1 => r = none ∧ eb_KO h1 ∧ eb_Sn (d + 2) m_X11_laysCame h0 14 [(0, .ref s_MO), (1, .int x1), (2, .int x2), (3, .int x3), (4, .int x4), (5, .int 0)] [] h1 Q)) : eb_Sn (d + 2) m_X11_laysCame h0 0 [(0, .ref s_MO), (1, .int x1), (2, .int x2), (3, .int x3), (4, .int x4)] [] h Q := by
  refine eb_aload_n (pc := 0) (n := 0) (i := 0) rfl rfl rfl ?_
  refine eb_aload_n (pc := 1) (n := 0) (i := 0) rfl rfl rfl ?_
  refine eb_getR (pc := 2) rfl rfl (by decide) (by decide) rfl (ko_s_MO_1 ko) ?_
  refine eb_bipush (pc := 5) (n := 50) (v := 50) rfl rfl ?_
  refine eb_iaload (pc := 7) rfl rfl (by decide) (by unfold vp_in; decide) ?_
  refine eb_ctV (pc := 8) (As := [.int (eb_I h s_m_all (50 : Int32).toNatClampNeg)]) (rest := []) rfl (by decide) rfl rfl (by decide) rfl (Nat.le_of_ble_eq_true rfl) ?_
  refine eb_Ct.mono w ?_
  rintro r h1 ⟨rfl, ko3, w⟩
  change eb_Sn _ _ _ 11 _ [] _ _
  refine eb_iconst (pc := 11) (n := 0) (v := 0) rfl rfl ?_
  refine eb_istore (pc := 12) (i := 5) (ls2 := [(5, .int 0), (0, .ref s_MO), (1, .int x1), (2, .int x2), (3, .int x3), (4, .int x4)]) (Nat.le_of_ble_eq_true rfl) rfl rfl ?_
  exact eb_pick [1, 2, 3, 4, 5, 0] rfl w
theorem b_X11_laysCame_14 {d : Nat} {h0 h : eb_H} {Q : Option Value → eb_H → Prop} (x1 : Int32) (x2 : Int32) (x3 : Int32) (x4 : Int32) (x5 : Int32)  (ko : eb_KO h) (w : ((((64 : Int32) * ((eb_I h s_m_all (1 : Int32).toNatClampNeg) * (eb_I h s_m_all (2 : Int32).toNatClampNeg))) ≤ x5 → eb_Sn (d + 2) m_X11_laysCame h0 55 [(0, .ref s_MO), (1, .int x1), (4, .int x4), (5, .int 1)] [] h Q) ∧ (¬ (((64 : Int32) * ((eb_I h s_m_all (1 : Int32).toNatClampNeg) * (eb_I h s_m_all (2 : Int32).toNatClampNeg))) ≤ x5) → (vp_in x5 11264) ∧ eb_Sn (d + 2) m_X11_laysCame h0 14 [(0, .ref s_MO), (1, .int x1), (2, .int x2), (3, .int x3), (4, .int x4), (5, .int (x5 + 1))] [] (eb_sJ h s_m_still x5.toNatClampNeg (if x5 = (((64 : Int32) * x2) + x3) then 1 else 0 : Int64)) Q))) : eb_Sn (d + 2) m_X11_laysCame h0 14 [(0, .ref s_MO), (1, .int x1), (2, .int x2), (3, .int x3), (4, .int x4), (5, .int x5)] [] h Q := by
  refine eb_iload (pc := 14) (i := 5) rfl rfl ?_
  refine eb_aload_n (pc := 16) (n := 0) (i := 0) rfl rfl rfl ?_
  refine eb_ctV (pc := 17) (As := []) (rest := [.int x5]) rfl (by decide) rfl rfl (by decide) rfl (Nat.le_of_ble_eq_true rfl) ?_
  refine eb_bodyQ (by decide) ok_X11_stands (Nat.le_of_ble_eq_true rfl) ?_
  change eb_Sn _ m_X11_stands _ 0 [(0, .ref s_MO)] [] _ _
  refine eb_bipush (pc := 0) (n := 64) (v := 64) rfl rfl ?_
  refine eb_aload_n (pc := 2) (n := 0) (i := 0) rfl rfl rfl ?_
  refine eb_ctV (pc := 3) (As := []) (rest := [.int 64]) rfl (by decide) rfl rfl (by decide) rfl (Nat.le_of_ble_eq_true rfl) ?_
  refine eb_bodyQ (by decide) ok_X11_cells (Nat.le_of_ble_eq_true rfl) ?_
  change eb_Sn _ m_X11_cells _ 0 [(0, .ref s_MO)] [] _ _
  refine eb_aload_n (pc := 0) (n := 0) (i := 0) rfl rfl rfl ?_
  refine eb_getR (pc := 1) rfl rfl (by decide) (by decide) rfl (ko_s_MO_1 ko) ?_
  refine eb_iconst (pc := 4) (n := 1) (v := 1) rfl rfl ?_
  refine eb_iaload (pc := 5) rfl rfl (by decide) (by unfold vp_in; decide) ?_
  refine eb_aload_n (pc := 6) (n := 0) (i := 0) rfl rfl rfl ?_
  refine eb_getR (pc := 7) rfl rfl (by decide) (by decide) rfl (ko_s_MO_1 ko) ?_
  refine eb_iconst (pc := 10) (n := 2) (v := 2) rfl rfl ?_
  refine eb_iaload (pc := 11) rfl rfl (by decide) (by unfold vp_in; decide) ?_
  refine eb_imul (pc := 12) rfl ?_
  refine eb_ireturn (pc := 13) rfl rfl rfl ?_
  change eb_Sn _ _ _ 6 _ [.int ((eb_I h s_m_all (1 : Int32).toNatClampNeg) * (eb_I h s_m_all (2 : Int32).toNatClampNeg)), .int 64] _ _
  refine eb_imul (pc := 6) rfl ?_
  refine eb_ireturn (pc := 7) rfl rfl rfl ?_
  change eb_Sn _ _ _ 20 _ [.int ((64 : Int32) * ((eb_I h s_m_all (1 : Int32).toNatClampNeg) * (eb_I h s_m_all (2 : Int32).toNatClampNeg))), .int x5] _ _
  refine eb_icmp_ge (pc := 20) (tgt := 52) rfl (by decide) (fun c1 => ?_) (fun c1 => ?_)
  · replace w := w.1 c1
    refine eb_iconst (pc := 52) (n := 1) (v := 1) rfl rfl ?_
    refine eb_istore (pc := 53) (i := 5) (ls2 := [(5, .int 1), (0, .ref s_MO), (1, .int x1), (2, .int x2), (3, .int x3), (4, .int x4)]) (Nat.le_of_ble_eq_true rfl) rfl rfl ?_
    exact eb_pick [1, 2, 5, 0] rfl w
  · replace w := w.2 c1
    refine eb_aload_n (pc := 23) (n := 0) (i := 0) rfl rfl rfl ?_
    refine eb_getR (pc := 24) rfl rfl (by decide) (by decide) rfl (ko_s_MO_26 ko) ?_
    refine eb_iload (pc := 27) (i := 5) rfl rfl ?_
    refine eb_iload (pc := 29) (i := 5) rfl rfl ?_
    refine eb_bipush (pc := 31) (n := 64) (v := 64) rfl rfl ?_
    refine eb_iload_n (pc := 33) (n := 2) (i := 2) rfl rfl rfl ?_
    refine eb_imul (pc := 34) rfl ?_
    refine eb_iload_n (pc := 35) (n := 3) (i := 3) rfl rfl rfl ?_
    refine eb_iadd (pc := 36) rfl ?_
    refine eb_joinL (pc2 := 45) (ls2 := [(0, .ref s_MO), (1, .int x1), (2, .int x2), (3, .int x3), (4, .int x4), (5, .int x5)]) (st2 := [.int x5, .ref s_m_still]) (v := (if x5 = (((64 : Int32) * x2) + x3) then 1 else 0 : Int64)) ?_ (fun jj3 => ?_)
    · obtain ⟨c5, w⟩ := w
      refine eb_lastore (pc := 45) rfl rfl c5 ?_
      refine eb_iinc (pc := 46) (i := 5) (n := 1) (v := x5 + 1) (ls2 := [(5, .int (x5 + 1)), (0, .ref s_MO), (1, .int x1), (2, .int x2), (3, .int x3), (4, .int x4)]) (Nat.le_of_ble_eq_true rfl) rfl rfl rfl rfl ?_
      refine eb_goto (pc := 49) (tgt := 14) rfl (by decide) ?_
      exact eb_pick [1, 2, 3, 4, 5, 0] rfl w
    refine eb_icmp_ne (pc := 37) (tgt := 44) rfl (by decide) (fun c2 => ?_) (fun c2 => ?_)
    · refine eb_lconst (pc := 44) (n := 0) (v := 0) rfl rfl ?_
      exact jj3 _ (by simp only [if_neg c2])
    · refine eb_lconst (pc := 40) (n := 1) (v := 1) rfl rfl ?_
      refine eb_goto (pc := 41) (tgt := 45) rfl (by decide) ?_
      exact jj3 _ (by simp only [if_pos c2])
theorem b_X11_laysCame_55 {d : Nat} {h0 h : eb_H} {Q : Option Value → eb_H → Prop} (x1 : Int32) (x4 : Int32) (x5 : Int32)  (ko : eb_KO h) (w : ((x1 < x5 → (vp_in (((1024 : Int32) * x1) + (((64 : Int32) * (eb_I h s_m_all (31 : Int32).toNatClampNeg)) + (eb_I h s_m_all (32 : Int32).toNatClampNeg))) 11264) ∧ Q (some (.long (eb_J h s_m_still (((1024 : Int32) * x1) + (((64 : Int32) * (eb_I h s_m_all (31 : Int32).toNatClampNeg)) + (eb_I h s_m_all (32 : Int32).toNatClampNeg))).toNatClampNeg))) h) ∧ (¬ (x1 < x5) → eb_Sn (d + 2) m_X11_laysCame h0 64 [(0, .ref s_MO), (1, .int x1), (4, .int x4), (5, .int x5), (6, .int 0)] [] h Q))) : eb_Sn (d + 2) m_X11_laysCame h0 55 [(0, .ref s_MO), (1, .int x1), (4, .int x4), (5, .int x5)] [] h Q := by
  refine eb_iload (pc := 55) (i := 5) rfl rfl ?_
  refine eb_iload_n (pc := 57) (n := 1) (i := 1) rfl rfl rfl ?_
  refine eb_icmp_gt (pc := 58) (tgt := 170) rfl (by decide) (fun c1 => ?_) (fun c1 => ?_)
  · replace w := w.1 c1
    refine eb_aload_n (pc := 170) (n := 0) (i := 0) rfl rfl rfl ?_
    refine eb_getR (pc := 171) rfl rfl (by decide) (by decide) rfl (ko_s_MO_26 ko) ?_
    refine eb_sipush (pc := 174) (n := 1024) (v := 1024) rfl rfl ?_
    refine eb_iload_n (pc := 177) (n := 1) (i := 1) rfl rfl rfl ?_
    refine eb_imul (pc := 178) rfl ?_
    refine eb_aload_n (pc := 179) (n := 0) (i := 0) rfl rfl rfl ?_
    refine eb_ctV (pc := 180) (As := []) (rest := [.int ((1024 : Int32) * x1), .ref s_m_still]) rfl (by decide) rfl rfl (by decide) rfl (Nat.le_of_ble_eq_true rfl) ?_
    refine eb_bodyQ (by decide) ok_X11_standNow (Nat.le_of_ble_eq_true rfl) ?_
    change eb_Sn _ m_X11_standNow _ 0 [(0, .ref s_MO)] [] _ _
    refine eb_bipush (pc := 0) (n := 64) (v := 64) rfl rfl ?_
    refine eb_aload_n (pc := 2) (n := 0) (i := 0) rfl rfl rfl ?_
    refine eb_getR (pc := 3) rfl rfl (by decide) (by decide) rfl (ko_s_MO_1 ko) ?_
    refine eb_bipush (pc := 6) (n := 31) (v := 31) rfl rfl ?_
    refine eb_iaload (pc := 8) rfl rfl (by decide) (by unfold vp_in; decide) ?_
    refine eb_imul (pc := 9) rfl ?_
    refine eb_aload_n (pc := 10) (n := 0) (i := 0) rfl rfl rfl ?_
    refine eb_getR (pc := 11) rfl rfl (by decide) (by decide) rfl (ko_s_MO_1 ko) ?_
    refine eb_bipush (pc := 14) (n := 32) (v := 32) rfl rfl ?_
    refine eb_iaload (pc := 16) rfl rfl (by decide) (by unfold vp_in; decide) ?_
    refine eb_iadd (pc := 17) rfl ?_
    refine eb_ireturn (pc := 18) rfl rfl rfl ?_
    change eb_Sn _ _ _ 183 _ [.int (((64 : Int32) * (eb_I h s_m_all (31 : Int32).toNatClampNeg)) + (eb_I h s_m_all (32 : Int32).toNatClampNeg)), .int ((1024 : Int32) * x1), .ref s_m_still] _ _
    refine eb_iadd (pc := 183) rfl ?_
    obtain ⟨c2, w⟩ := w
    refine eb_laload (pc := 184) rfl rfl c2 ?_
    exact eb_lreturn (pc := 185) rfl rfl w
  · replace w := w.2 c1
    refine eb_iconst (pc := 61) (n := 0) (v := 0) rfl rfl ?_
    refine eb_istore (pc := 62) (i := 6) (ls2 := [(6, .int 0), (0, .ref s_MO), (1, .int x1), (4, .int x4), (5, .int x5)]) (Nat.le_of_ble_eq_true rfl) rfl rfl ?_
    exact eb_pick [1, 2, 3, 4, 0] rfl w
theorem b_X11_laysCame_64 {d : Nat} {h0 h : eb_H} {Q : Option Value → eb_H → Prop} (x1 : Int32) (x4 : Int32) (x5 : Int32) (x6 : Int32)  (ko : eb_KO h) (w : ((((64 : Int32) * ((eb_I h s_m_all (1 : Int32).toNatClampNeg) * (eb_I h s_m_all (2 : Int32).toNatClampNeg))) ≤ x6 → eb_Sn (d + 2) m_X11_laysCame h0 55 [(0, .ref s_MO), (1, .int x1), (4, .int x4), (5, .int (x5 + 1))] [] h Q) ∧ (¬ (((64 : Int32) * ((eb_I h s_m_all (1 : Int32).toNatClampNeg) * (eb_I h s_m_all (2 : Int32).toNatClampNeg))) ≤ x6) → eb_Sn (d + 2) m_X11_laysCame h0 79 [(0, .ref s_MO), (1, .int x1), (4, .int x4), (5, .int x5), (6, .int x6), (7, .long 0), (9, .int 0)] [] h Q))) : eb_Sn (d + 2) m_X11_laysCame h0 64 [(0, .ref s_MO), (1, .int x1), (4, .int x4), (5, .int x5), (6, .int x6)] [] h Q := by
  refine eb_iload (pc := 64) (i := 6) rfl rfl ?_
  refine eb_aload_n (pc := 66) (n := 0) (i := 0) rfl rfl rfl ?_
  refine eb_ctV (pc := 67) (As := []) (rest := [.int x6]) rfl (by decide) rfl rfl (by decide) rfl (Nat.le_of_ble_eq_true rfl) ?_
  refine eb_bodyQ (by decide) ok_X11_stands (Nat.le_of_ble_eq_true rfl) ?_
  change eb_Sn _ m_X11_stands _ 0 [(0, .ref s_MO)] [] _ _
  refine eb_bipush (pc := 0) (n := 64) (v := 64) rfl rfl ?_
  refine eb_aload_n (pc := 2) (n := 0) (i := 0) rfl rfl rfl ?_
  refine eb_ctV (pc := 3) (As := []) (rest := [.int 64]) rfl (by decide) rfl rfl (by decide) rfl (Nat.le_of_ble_eq_true rfl) ?_
  refine eb_bodyQ (by decide) ok_X11_cells (Nat.le_of_ble_eq_true rfl) ?_
  change eb_Sn _ m_X11_cells _ 0 [(0, .ref s_MO)] [] _ _
  refine eb_aload_n (pc := 0) (n := 0) (i := 0) rfl rfl rfl ?_
  refine eb_getR (pc := 1) rfl rfl (by decide) (by decide) rfl (ko_s_MO_1 ko) ?_
  refine eb_iconst (pc := 4) (n := 1) (v := 1) rfl rfl ?_
  refine eb_iaload (pc := 5) rfl rfl (by decide) (by unfold vp_in; decide) ?_
  refine eb_aload_n (pc := 6) (n := 0) (i := 0) rfl rfl rfl ?_
  refine eb_getR (pc := 7) rfl rfl (by decide) (by decide) rfl (ko_s_MO_1 ko) ?_
  refine eb_iconst (pc := 10) (n := 2) (v := 2) rfl rfl ?_
  refine eb_iaload (pc := 11) rfl rfl (by decide) (by unfold vp_in; decide) ?_
  refine eb_imul (pc := 12) rfl ?_
  refine eb_ireturn (pc := 13) rfl rfl rfl ?_
  change eb_Sn _ _ _ 6 _ [.int ((eb_I h s_m_all (1 : Int32).toNatClampNeg) * (eb_I h s_m_all (2 : Int32).toNatClampNeg)), .int 64] _ _
  refine eb_imul (pc := 6) rfl ?_
  refine eb_ireturn (pc := 7) rfl rfl rfl ?_
  change eb_Sn _ _ _ 70 _ [.int ((64 : Int32) * ((eb_I h s_m_all (1 : Int32).toNatClampNeg) * (eb_I h s_m_all (2 : Int32).toNatClampNeg))), .int x6] _ _
  refine eb_icmp_ge (pc := 70) (tgt := 164) rfl (by decide) (fun c1 => ?_) (fun c1 => ?_)
  · replace w := w.1 c1
    refine eb_iinc (pc := 164) (i := 5) (n := 1) (v := x5 + 1) (ls2 := [(5, .int (x5 + 1)), (0, .ref s_MO), (1, .int x1), (4, .int x4), (6, .int x6)]) (Nat.le_of_ble_eq_true rfl) rfl rfl rfl rfl ?_
    refine eb_goto (pc := 167) (tgt := 55) rfl (by decide) ?_
    exact eb_pick [1, 2, 3, 0] rfl w
  · replace w := w.2 c1
    refine eb_lconst (pc := 73) (n := 0) (v := 0) rfl rfl ?_
    refine eb_lstore (pc := 74) (i := 7) (ls2 := [(7, .long 0), (0, .ref s_MO), (1, .int x1), (4, .int x4), (5, .int x5), (6, .int x6)]) (Nat.le_of_ble_eq_true rfl) rfl rfl ?_
    refine eb_iconst (pc := 76) (n := 0) (v := 0) rfl rfl ?_
    refine eb_istore (pc := 77) (i := 9) (ls2 := [(9, .int 0), (7, .long 0), (0, .ref s_MO), (1, .int x1), (4, .int x4), (5, .int x5), (6, .int x6)]) (Nat.le_of_ble_eq_true rfl) rfl rfl ?_
    exact eb_pick [2, 3, 4, 5, 6, 1, 0] rfl w
theorem b_X11_laysCame_79 {d : Nat} {h0 h : eb_H} {Q : Option Value → eb_H → Prop} (x1 : Int32) (x4 : Int32) (x5 : Int32) (x6 : Int32) (x7 : Int64) (x9 : Int32)  (ko : eb_KO h) (w : (((4 : Int32) ≤ x9 → (vp_in (((1024 : Int32) * x5) + x6) 11264) ∧ eb_Sn (d + 2) m_X11_laysCame h0 64 [(0, .ref s_MO), (1, .int x1), (4, .int x4), (5, .int x5), (6, .int (x6 + 1))] [] (eb_sJ h s_m_still (((1024 : Int32) * x5) + x6).toNatClampNeg x7) Q) ∧ (¬ ((4 : Int32) ≤ x9) → (vp_in (((4 : Int32) * x6) + x9) 4096) ∧ (((eb_I h s_m_then (((4 : Int32) * x6) + x9).toNatClampNeg) = ((-1) : Int32) → eb_Sn (d + 2) m_X11_laysCame h0 79 [(0, .ref s_MO), (1, .int x1), (4, .int x4), (5, .int x5), (6, .int x6), (7, .long x7), (9, .int (x9 + 1))] [] h Q) ∧ (¬ ((eb_I h s_m_then (((4 : Int32) * x6) + x9).toNatClampNeg) = ((-1) : Int32)) → ((((eb_I h s_m_then (((4 : Int32) * x6) + x9).toNatClampNeg) / 64) = x4 → eb_Sn (d + 2) m_X11_laysCame h0 79 [(0, .ref s_MO), (1, .int x1), (4, .int x4), (5, .int x5), (6, .int x6), (7, .long x7), (9, .int (x9 + 1))] [] h Q) ∧ (¬ (((eb_I h s_m_then (((4 : Int32) * x6) + x9).toNatClampNeg) / 64) = x4) → (vp_in (((1024 : Int32) * (x5 - 1)) + (eb_I h s_m_then (((4 : Int32) * x6) + x9).toNatClampNeg)) 11264) ∧ eb_Sn (d + 2) m_X11_laysCame h0 79 [(0, .ref s_MO), (1, .int x1), (4, .int x4), (5, .int x5), (6, .int x6), (7, .long (x7 + (eb_J h s_m_still (((1024 : Int32) * (x5 - 1)) + (eb_I h s_m_then (((4 : Int32) * x6) + x9).toNatClampNeg)).toNatClampNeg))), (9, .int (x9 + 1))] [] h Q))))))) : eb_Sn (d + 2) m_X11_laysCame h0 79 [(0, .ref s_MO), (1, .int x1), (4, .int x4), (5, .int x5), (6, .int x6), (7, .long x7), (9, .int x9)] [] h Q := by
  refine eb_iload (pc := 79) (i := 9) rfl rfl ?_
  refine eb_iconst (pc := 81) (n := 4) (v := 4) rfl rfl ?_
  refine eb_icmp_ge (pc := 82) (tgt := 142) rfl (by decide) (fun c1 => ?_) (fun c1 => ?_)
  · replace w := w.1 c1
    refine eb_aload_n (pc := 142) (n := 0) (i := 0) rfl rfl rfl ?_
    refine eb_getR (pc := 143) rfl rfl (by decide) (by decide) rfl (ko_s_MO_26 ko) ?_
    refine eb_sipush (pc := 146) (n := 1024) (v := 1024) rfl rfl ?_
    refine eb_iload (pc := 149) (i := 5) rfl rfl ?_
    refine eb_imul (pc := 151) rfl ?_
    refine eb_iload (pc := 152) (i := 6) rfl rfl ?_
    refine eb_iadd (pc := 154) rfl ?_
    refine eb_lload (pc := 155) (i := 7) rfl rfl ?_
    obtain ⟨c2, w⟩ := w
    refine eb_lastore (pc := 157) rfl rfl c2 ?_
    refine eb_iinc (pc := 158) (i := 6) (n := 1) (v := x6 + 1) (ls2 := [(6, .int (x6 + 1)), (0, .ref s_MO), (1, .int x1), (4, .int x4), (5, .int x5), (7, .long x7), (9, .int x9)]) (Nat.le_of_ble_eq_true rfl) rfl rfl rfl rfl ?_
    refine eb_goto (pc := 161) (tgt := 64) rfl (by decide) ?_
    exact eb_pick [1, 2, 3, 4, 0] rfl w
  · replace w := w.2 c1
    refine eb_aload_n (pc := 85) (n := 0) (i := 0) rfl rfl rfl ?_
    refine eb_getR (pc := 86) rfl rfl (by decide) (by decide) rfl (ko_s_MO_21 ko) ?_
    refine eb_iconst (pc := 89) (n := 4) (v := 4) rfl rfl ?_
    refine eb_iload (pc := 90) (i := 6) rfl rfl ?_
    refine eb_imul (pc := 92) rfl ?_
    refine eb_iload (pc := 93) (i := 9) rfl rfl ?_
    refine eb_iadd (pc := 95) rfl ?_
    obtain ⟨c3, w⟩ := w
    refine eb_iaload (pc := 96) rfl rfl (by decide) c3 ?_
    refine eb_istore (pc := 97) (i := 10) (ls2 := [(10, .int (eb_I h s_m_then (((4 : Int32) * x6) + x9).toNatClampNeg)), (0, .ref s_MO), (1, .int x1), (4, .int x4), (5, .int x5), (6, .int x6), (7, .long x7), (9, .int x9)]) (Nat.le_of_ble_eq_true rfl) rfl rfl ?_
    refine eb_iload (pc := 99) (i := 10) rfl rfl ?_
    refine eb_iconst (pc := 101) (n := -1) (v := (-1)) rfl rfl ?_
    refine eb_icmp_eq (pc := 102) (tgt := 136) rfl (by decide) (fun c4 => ?_) (fun c4 => ?_)
    · replace w := w.1 c4
      refine eb_iinc (pc := 136) (i := 9) (n := 1) (v := x9 + 1) (ls2 := [(9, .int (x9 + 1)), (10, .int (eb_I h s_m_then (((4 : Int32) * x6) + x9).toNatClampNeg)), (0, .ref s_MO), (1, .int x1), (4, .int x4), (5, .int x5), (6, .int x6), (7, .long x7)]) (Nat.le_of_ble_eq_true rfl) rfl rfl rfl rfl ?_
      refine eb_goto (pc := 139) (tgt := 79) rfl (by decide) ?_
      exact eb_pick [2, 3, 4, 5, 6, 7, 0] rfl w
    · replace w := w.2 c4
      refine eb_iload (pc := 105) (i := 10) rfl rfl ?_
      refine eb_bipush (pc := 107) (n := 64) (v := 64) rfl rfl ?_
      refine eb_idiv (pc := 109) (by decide) rfl ?_
      refine eb_iload (pc := 110) (i := 4) rfl rfl ?_
      refine eb_icmp_eq (pc := 112) (tgt := 136) rfl (by decide) (fun c5 => ?_) (fun c5 => ?_)
      · replace w := w.1 c5
        refine eb_iinc (pc := 136) (i := 9) (n := 1) (v := x9 + 1) (ls2 := [(9, .int (x9 + 1)), (10, .int (eb_I h s_m_then (((4 : Int32) * x6) + x9).toNatClampNeg)), (0, .ref s_MO), (1, .int x1), (4, .int x4), (5, .int x5), (6, .int x6), (7, .long x7)]) (Nat.le_of_ble_eq_true rfl) rfl rfl rfl rfl ?_
        refine eb_goto (pc := 139) (tgt := 79) rfl (by decide) ?_
        exact eb_pick [2, 3, 4, 5, 6, 7, 0] rfl w
      · replace w := w.2 c5
        refine eb_lload (pc := 115) (i := 7) rfl rfl ?_
        refine eb_aload_n (pc := 117) (n := 0) (i := 0) rfl rfl rfl ?_
        refine eb_getR (pc := 118) rfl rfl (by decide) (by decide) rfl (ko_s_MO_26 ko) ?_
        refine eb_sipush (pc := 121) (n := 1024) (v := 1024) rfl rfl ?_
        refine eb_iload (pc := 124) (i := 5) rfl rfl ?_
        refine eb_iconst (pc := 126) (n := 1) (v := 1) rfl rfl ?_
        refine eb_isub (pc := 127) rfl ?_
        refine eb_imul (pc := 128) rfl ?_
        refine eb_iload (pc := 129) (i := 10) rfl rfl ?_
        refine eb_iadd (pc := 131) rfl ?_
        obtain ⟨c6, w⟩ := w
        refine eb_laload (pc := 132) rfl rfl c6 ?_
        refine eb_ladd (pc := 133) rfl ?_
        refine eb_lstore (pc := 134) (i := 7) (ls2 := [(7, .long (x7 + (eb_J h s_m_still (((1024 : Int32) * (x5 - 1)) + (eb_I h s_m_then (((4 : Int32) * x6) + x9).toNatClampNeg)).toNatClampNeg))), (10, .int (eb_I h s_m_then (((4 : Int32) * x6) + x9).toNatClampNeg)), (0, .ref s_MO), (1, .int x1), (4, .int x4), (5, .int x5), (6, .int x6), (9, .int x9)]) (Nat.le_of_ble_eq_true rfl) rfl rfl ?_
        refine eb_iinc (pc := 136) (i := 9) (n := 1) (v := x9 + 1) (ls2 := [(9, .int (x9 + 1)), (7, .long (x7 + (eb_J h s_m_still (((1024 : Int32) * (x5 - 1)) + (eb_I h s_m_then (((4 : Int32) * x6) + x9).toNatClampNeg)).toNatClampNeg))), (10, .int (eb_I h s_m_then (((4 : Int32) * x6) + x9).toNatClampNeg)), (0, .ref s_MO), (1, .int x1), (4, .int x4), (5, .int x5), (6, .int x6)]) (Nat.le_of_ble_eq_true rfl) rfl rfl rfl rfl ?_
        refine eb_goto (pc := 139) (tgt := 79) rfl (by decide) ?_
        exact eb_pick [3, 4, 5, 6, 7, 1, 0] rfl w
theorem T_X11_laysCame {d : Nat} {h : eb_H} {Q : Option Value → eb_H → Prop} (x1 : Int32) (x2 : Int32) (x3 : Int32) (x4 : Int32)  (ko : eb_KO h) (w : eb_Ct (d + 1) 227 [.ref s_MO, .int (eb_I h s_m_all (50 : Int32).toNatClampNeg)] h (fun r h1 => r = none ∧ eb_KO h1 ∧ eb_Sn (d + 2) m_X11_laysCame h 14 [(0, .ref s_MO), (1, .int x1), (2, .int x2), (3, .int x3), (4, .int x4), (5, .int 0)] [] h1 Q)) : eb_Ct (d + 2) 250 [.ref s_MO, .int x1, .int x2, .int x3, .int x4] h Q :=
  eb_bodyQ (by decide) ok_X11_laysCame (Nat.le_of_ble_eq_true rfl) (b_X11_laysCame_0 (h0 := h) x1 x2 x3 x4  ko w)
theorem b_X11_came_0 {d : Nat} {h0 h : eb_H} {Q : Option Value → eb_H → Prop} (x1 : Int32) (x2 : Int32) (x3 : Int32)  (ko : eb_KO h) (w : eb_Ct d 249 [.ref s_MO, .int x1, .int x2, .int x3] (eb_sI h s_MO 0 0) (fun r h1 => ∃ y2, r = some (.int y2) ∧ eb_KO h1 ∧ ((y2 = 0 → eb_Ct d 250 [.ref s_MO, .int x1, .int x2, .int x3, .int (-1)] h1 (fun r h5 => ∃ y6, r = some (.long y6) ∧ eb_KO h5 ∧ Q (some (.long y6)) h5)) ∧ (¬ (y2 = 0) → Q (some (.long y2.toInt64)) h1)))) : eb_Sn (d + 1) m_X11_came h0 0 [(0, .ref s_MO), (1, .int x1), (2, .int x2), (3, .int x3)] [] h Q := by
  refine eb_aload_n (pc := 0) (n := 0) (i := 0) rfl rfl rfl ?_
  refine eb_iconst (pc := 1) (n := 0) (v := 0) rfl rfl ?_
  refine eb_putI (pc := 2) rfl rfl (by decide) (by decide) rfl rfl ⟨rfl, rfl⟩ ?_
  refine eb_aload_n (pc := 5) (n := 0) (i := 0) rfl rfl rfl ?_
  refine eb_iload_n (pc := 6) (n := 1) (i := 1) rfl rfl rfl ?_
  refine eb_iload_n (pc := 7) (n := 2) (i := 2) rfl rfl rfl ?_
  refine eb_iload_n (pc := 8) (n := 3) (i := 3) rfl rfl rfl ?_
  refine eb_ctV (pc := 9) (As := [.int x1, .int x2, .int x3]) (rest := []) rfl (by decide) rfl rfl (by decide) rfl (Nat.le_of_ble_eq_true rfl) ?_
  refine eb_Ct.mono w ?_
  rintro r h1 ⟨y2, rfl, ko3, w⟩
  change eb_Sn _ _ _ 12 _ [.int y2] _ _
  refine eb_istore (pc := 12) (i := 4) (ls2 := [(4, .int y2), (0, .ref s_MO), (1, .int x1), (2, .int x2), (3, .int x3)]) (Nat.le_of_ble_eq_true rfl) rfl rfl ?_
  refine eb_iload (pc := 14) (i := 4) rfl rfl ?_
  refine eb_if_eq (pc := 16) (tgt := 25) rfl (by decide) (fun c4 => ?_) (fun c4 => ?_)
  · replace w := w.1 c4
    refine eb_aload_n (pc := 25) (n := 0) (i := 0) rfl rfl rfl ?_
    refine eb_iload_n (pc := 26) (n := 1) (i := 1) rfl rfl rfl ?_
    refine eb_iload_n (pc := 27) (n := 2) (i := 2) rfl rfl rfl ?_
    refine eb_iload_n (pc := 28) (n := 3) (i := 3) rfl rfl rfl ?_
    refine eb_iconst (pc := 29) (n := -1) (v := (-1)) rfl rfl ?_
    refine eb_ctV (pc := 30) (As := [.int x1, .int x2, .int x3, .int (-1)]) (rest := []) rfl (by decide) rfl rfl (by decide) rfl (Nat.le_of_ble_eq_true rfl) ?_
    refine eb_Ct.mono w ?_
    rintro r h5 ⟨y6, rfl, ko7, w⟩
    change eb_Sn _ _ _ 33 _ [.long y6] _ _
    exact eb_lreturn (pc := 33) rfl rfl w
  · replace w := w.2 c4
    refine eb_iload (pc := 19) (i := 4) rfl rfl ?_
    refine eb_i2l (pc := 21) rfl ?_
    refine eb_goto (pc := 22) (tgt := 33) rfl (by decide) ?_
    exact eb_lreturn (pc := 33) rfl rfl w
theorem T_X11_came {d : Nat} {h : eb_H} {Q : Option Value → eb_H → Prop} (x1 : Int32) (x2 : Int32) (x3 : Int32)  (ko : eb_KO h) (w : eb_Ct d 249 [.ref s_MO, .int x1, .int x2, .int x3] (eb_sI h s_MO 0 0) (fun r h1 => ∃ y2, r = some (.int y2) ∧ eb_KO h1 ∧ ((y2 = 0 → eb_Ct d 250 [.ref s_MO, .int x1, .int x2, .int x3, .int (-1)] h1 (fun r h5 => ∃ y6, r = some (.long y6) ∧ eb_KO h5 ∧ Q (some (.long y6)) h5)) ∧ (¬ (y2 = 0) → Q (some (.long y2.toInt64)) h1)))) : eb_Ct (d + 1) 251 [.ref s_MO, .int x1, .int x2, .int x3] h Q :=
  eb_bodyQ (by decide) ok_X11_came (Nat.le_of_ble_eq_true rfl) (b_X11_came_0 (h0 := h) x1 x2 x3  ko w)
